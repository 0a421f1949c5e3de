theorem bb_v6 (w a b c : Int32) (V B : Nat → Int32) (x : Int32) : bb_val w 6 a b c V B x = x >>> ((w * (2 - a)) &&& 31) := rfl
theorem bb_v7 (w a b c : Int32) (V B : Nat → Int32) (x : Int32) : bb_val w 7 a b c V B x = a := rfl
theorem bb_v8 (w a b c : Int32) (V B : Nat → Int32) (x : Int32) : bb_val w 8 a b c V B x = V a.toNatClampNeg ^^^ (-1) := rfl
theorem bb_v9 (w a b c : Int32) (V B : Nat → Int32) (x : Int32) : bb_val w 9 a b c V B x = if b < 0 then V a.toNatClampNeg >>> ((-b) &&& 31) else V a.toNatClampNeg <<< (b &&& 31) := rfl
theorem bb_v10 (w a b c : Int32) (V B : Nat → Int32) (x : Int32) : bb_val w 10 a b c V B x = if B c.toNatClampNeg = 0 then V b.toNatClampNeg else V a.toNatClampNeg := rfl
theorem bb_j6 : ∀ j, j ≤ 5 → ¬ nI j = 6 ∧ ¬ nI j = 7 ∧ ¬ 6 ≤ nI j := by decide +kernel
theorem bb_vj {j : Nat} (hj : j ≤ 5) (w a b c : Int32) (V B : Nat → Int32) (x : Int32) : bb_val w (nI j) a b c V B x = bb_join (nI j) (V a.toNatClampNeg) (V b.toNatClampNeg) := by
  obtain ⟨h6, h7, h8⟩ := bb_j6 j hj
  unfold bb_val; rw [if_neg h6, if_neg h7, if_neg h8]
theorem bb_T28 {T : Nat} (h : T < 28) : ¬ nI T = 28 := fun z => absurd ((nI_eq (b := 28) (by omega) (by decide)).mp z) (by omega)
theorem bb_S16 {S : Nat} (h : S < 16) : ¬ nI S = 16 := fun z => absurd ((nI_eq (b := 16) (by omega) (by decide)).mp z) (by omega)
theorem bb_ci {i T : Nat} (h : i < T) (hT : T ≤ 28) : (nI i).toNatClampNeg = i := nI_clamp (by omega)
theorem i_vc_variable {k : Nat} {u : SX} {v : SY} (I : i_Rel k u v) (hk : k + 4 ≤ 2049) (v1 : Int32) : wpX_variable (fun r u' => wpY_variable (fun r' v' => r' = r ∧ i_Rel (k + 4) u' v') v v1) u v1 := by
  obtain ⟨w, T, S, C, wd, bo, ct, cs, ord, kd, ka, kb, kc, so, sp, sq, vl, tv, rfl, rfl, I⟩ := I
  have hA := bb_A I.2.1
  have h28 := I.2.2.1
  have h16 := I.2.2.2.1
  by_cases h0 : v1 < 0
  · exact br_t h0 (br_t h0 ⟨rfl, bb_rel I⟩)
  · obtain ⟨j, hj, rfl⟩ := nI_of h0
    refine br_f h0 ?_
    by_cases h3 : j < 3
    · refine br_t (nI_lt (b := 3) h3 (by decide)) ?_
      have h2 : nI j ≤ 2 := nI_le (b := 2) (by omega) (by decide)
      by_cases hT : T = 28
      · subst hT
        exact br_t (by decide) (br_f h0 (br_t h2 (by_termF rfl ⟨rfl, bb_rel I⟩)))
      · have hT' : T < 28 := by omega
        refine br_f (bb_T28 hT') (nm_e ⟨2 ^ (3 * w) + 1, bx_variable0 (fun n => (nI n >>> (((2 - nI j) * nI w) &&& 31)) &&& nI (2 ^ w - 1)) hT' hA (bb_mask I.2.1) (fun x hx => rfl) ?_⟩)
        refine br_f h0 (br_t h2 (by_term hT' h16 ⟨rfl, bb_relT I hT' (Or.inl rfl) fun n hn => ?_⟩))
        rw [bb_v6, Int32.mul_comm]
    · have h2 : ¬ nI j ≤ 2 := nI_ge (a := 2) (by omega) hj
      exact br_f (nI_nlt (b := 3) (by omega) hj) (br_f h0 (br_f h2 ⟨rfl, bb_rel I⟩))
theorem i_vc_constant {k : Nat} {u : SX} {v : SY} (I : i_Rel k u v) (hk : k + 4 ≤ 2049) (v1 : Int32) : wpX_constant (fun r u' => wpY_constant (fun r' v' => r' = r ∧ i_Rel (k + 4) u' v') v v1) u v1 := by
  obtain ⟨w, T, S, C, wd, bo, ct, cs, ord, kd, ka, kb, kc, so, sp, sq, vl, tv, rfl, rfl, I⟩ := I
  have hA := bb_A I.2.1
  have hw4 := I.2.1
  have h28 := I.2.2.1
  have h16 := I.2.2.2.1
  by_cases hT : T = 28
  · subst hT
    refine br_t (by decide) ?_
    unfold wpY_constant; dsimp only
    exact by_termF rfl ⟨rfl, bb_rel I⟩
  · have hT' : T < 28 := by omega
    refine br_f (bb_T28 hT') ⟨2 ^ (3 * w) + 1, bx_constant0 (fun n => v1 &&& nI (2 ^ w - 1)) hT' hA (bb_mask I.2.1) (fun x hx => rfl) ?_⟩
    unfold wpY_constant; dsimp only
    refine by_term hT' h16 ⟨rfl, bb_relT I hT' (Or.inr (Or.inl rfl)) fun n hn => ?_⟩
    rw [bb_v7, bb_tm w (by omega), Int32.and_assoc, Int32.and_self]
theorem i_vc_combine {k : Nat} {u : SX} {v : SY} (I : i_Rel k u v) (hk : k + 4 ≤ 2049) (v1 : Int32) (v2 : Int32) (v3 : Int32) : wpX_combine (fun r u' => wpY_combine (fun r' v' => r' = r ∧ i_Rel (k + 4) u' v') v v1 v2 v3) u v1 v2 v3 := by
  obtain ⟨w, T, S, C, wd, bo, ct, cs, ord, kd, ka, kb, kc, so, sp, sq, vl, tv, rfl, rfl, I⟩ := I
  have hA := bb_A I.2.1
  have h28 := I.2.2.1
  have h16 := I.2.2.2.1
  by_cases h0 : v1 < 0
  · exact br_t h0 (br_t h0 ⟨rfl, bb_rel I⟩)
  · refine br_f h0 ?_
    by_cases h5 : v1 ≤ 5
    · obtain ⟨j, hj, rfl⟩ := nI_of2 (M := 5) (n := 5) (by decide) h0 h5
      refine br_t h5 ?_
      by_cases hT : T = 28
      · subst hT
        exact br_t (by decide) (br_f h0 (br_t h5 (br_f (by decide) ⟨rfl, bb_rel I⟩)))
      · have hT' : T < 28 := by omega
        have h27 : nI T ≤ 27 := nI_le (b := 27) (by omega) (by decide)
        refine br_f (bb_T28 hT') ?_
        by_cases pa : vp_in v2 T
        · obtain ⟨a, ha, rfl⟩ := vp_in_of pa (by omega)
          refine bx_isT1 ha h28 (br_f (by decide) ?_)
          by_cases pb : vp_in v3 T
          · obtain ⟨b, hb, rfl⟩ := vp_in_of pb (by omega)
            refine bx_isT1 hb h28 (br_f (by decide) ⟨2 ^ (3 * w) + 1, bx_combine0 (fun x => bb_join (nI j) (wd (a * 4096 + x)) (wd (b * 4096 + x)) &&& nI (2 ^ w - 1)) hj ha hb hT' hA (bb_mask I.2.1) (fun x hx => rfl) ?_⟩)
            refine br_f h0 (br_t h5 (br_t h27 (by_badT0 ha h28 (br_t rfl (by_badT0 hb h28 (br_t rfl (by_term hT' h16 ⟨rfl, bb_relT I hT' ?_ fun n hn => ?_⟩)))))))
            · exact Or.inr (Or.inr ⟨vp_in_nI ha (by omega), Or.inr (Or.inr ⟨vp_in_nI hb (by omega), Or.inl (bb_j6 j hj).2.2⟩)⟩)
            · rw [bb_vj hj, bb_ci ha h28, bb_ci hb h28]; rfl
          · exact bx_isT0 pb h28 (br_t rfl (br_f h0 (br_t h5 (br_t h27 (by_badT0 ha h28 (br_t rfl (by_badT1 pb h28 (br_f (by decide) ⟨rfl, bb_rel I⟩))))))))
        · exact bx_isT0 pa h28 (br_t rfl (br_f h0 (br_t h5 (br_t h27 (by_badT1 pa h28 (br_f (by decide) ⟨rfl, bb_rel I⟩))))))
    · exact br_f h5 (br_f h0 (br_f h5 ⟨rfl, bb_rel I⟩))
theorem i_vc_invert {k : Nat} {u : SX} {v : SY} (I : i_Rel k u v) (hk : k + 4 ≤ 2049) (v1 : Int32) : wpX_invert (fun r u' => wpY_invert (fun r' v' => r' = r ∧ i_Rel (k + 4) u' v') v v1) u v1 := by
  obtain ⟨w, T, S, C, wd, bo, ct, cs, ord, kd, ka, kb, kc, so, sp, sq, vl, tv, rfl, rfl, I⟩ := I
  have hA := bb_A I.2.1
  have h28 := I.2.2.1
  have h16 := I.2.2.2.1
  by_cases hT : T = 28
  · subst hT
    exact br_t (by decide) (br_f (by decide) ⟨rfl, bb_rel I⟩)
  · have hT' : T < 28 := by omega
    have h27 : nI T ≤ 27 := nI_le (b := 27) (by omega) (by decide)
    refine br_f (bb_T28 hT') ?_
    by_cases pa : vp_in v1 T
    · obtain ⟨a, ha, rfl⟩ := vp_in_of pa (by omega)
      refine bx_isT1 ha h28 (br_f (by decide) ⟨2 ^ (3 * w) + 1, bx_invert0 (fun x => (wd (a * 4096 + x) ^^^ (-1)) &&& nI (2 ^ w - 1)) ha hT' hA (bb_mask I.2.1) (fun x hx => rfl) ?_⟩)
      refine br_t h27 (by_badT0 ha h28 (br_t rfl (by_term hT' h16 ⟨rfl, bb_relT I hT' ?_ fun n hn => ?_⟩)))
      · exact Or.inr (Or.inr ⟨vp_in_nI ha (by omega), Or.inl rfl⟩)
      · rw [bb_v8, bb_ci ha h28]; rfl
    · exact bx_isT0 pa h28 (br_t rfl (br_t h27 (by_badT1 pa h28 (br_f (by decide) ⟨rfl, bb_rel I⟩))))
theorem i_vc_shift {k : Nat} {u : SX} {v : SY} (I : i_Rel k u v) (hk : k + 4 ≤ 2049) (v1 : Int32) (v2 : Int32) : wpX_shift (fun r u' => wpY_shift (fun r' v' => r' = r ∧ i_Rel (k + 4) u' v') v v1 v2) u v1 v2 := by
  obtain ⟨w, T, S, C, wd, bo, ct, cs, ord, kd, ka, kb, kc, so, sp, sq, vl, tv, rfl, rfl, I⟩ := I
  have hA := bb_A I.2.1
  have h28 := I.2.2.1
  have h16 := I.2.2.2.1
  by_cases h0 : v2 < (-4)
  · exact br_t h0 (br_t h0 ⟨rfl, bb_rel I⟩)
  · refine br_f h0 ?_
    by_cases h5 : v2 ≤ 4
    · refine br_t h5 ?_
      by_cases hT : T = 28
      · subst hT
        exact br_t (by decide) (br_f h0 (br_t h5 (br_f (by decide) ⟨rfl, bb_rel I⟩)))
      · have hT' : T < 28 := by omega
        have h27 : nI T ≤ 27 := nI_le (b := 27) (by omega) (by decide)
        refine br_f (bb_T28 hT') ?_
        by_cases pa : vp_in v1 T
        · obtain ⟨a, ha, rfl⟩ := vp_in_of pa (by omega)
          refine bx_isT1 ha h28 (br_f (by decide) ⟨2 ^ (3 * w) + 1, bx_shift0 (fun x => (if v2 < 0 then wd (a * 4096 + x) >>> ((-v2) &&& 31) else wd (a * 4096 + x) <<< (v2 &&& 31)) &&& nI (2 ^ w - 1)) ha hT' hA (bb_mask I.2.1) (fun x hx => rfl) ?_⟩)
          refine br_f h0 (br_t h5 (br_t h27 (by_badT0 ha h28 (br_t rfl (by_term hT' h16 ⟨rfl, bb_relT I hT' ?_ fun n hn => ?_⟩)))))
          · exact Or.inr (Or.inr ⟨vp_in_nI ha (by omega), Or.inr (Or.inl rfl)⟩)
          · rw [bb_v9, bb_ci ha h28]; rfl
        · exact bx_isT0 pa h28 (br_t rfl (br_f h0 (br_t h5 (br_t h27 (by_badT1 pa h28 (br_f (by decide) ⟨rfl, bb_rel I⟩))))))
    · exact br_f h5 (br_f h0 (br_f h5 ⟨rfl, bb_rel I⟩))
theorem i_vc_choose {k : Nat} {u : SX} {v : SY} (I : i_Rel k u v) (hk : k + 4 ≤ 2049) (v1 : Int32) (v2 : Int32) (v3 : Int32) : wpX_choose (fun r u' => wpY_choose (fun r' v' => r' = r ∧ i_Rel (k + 4) u' v') v v1 v2 v3) u v1 v2 v3 := by
  obtain ⟨w, T, S, C, wd, bo, ct, cs, ord, kd, ka, kb, kc, so, sp, sq, vl, tv, rfl, rfl, I⟩ := I
  have hA := bb_A I.2.1
  have h28 := I.2.2.1
  have h16 := I.2.2.2.1
  unfold wpX_choose; dsimp only
  by_cases ps : vp_in v1 S
  · obtain ⟨s, hs, rfl⟩ := vp_in_of ps (by omega)
    refine bx_isS1 hs h16 (br_f (by decide) ?_)
    by_cases hT : T = 28
    · subst hT
      refine br_t (by decide) ?_
      unfold wpY_choose; dsimp only
      exact by_badS0 hs h16 (br_t rfl (br_f (by decide) ⟨rfl, bb_rel I⟩))
    · have hT' : T < 28 := by omega
      have h27 : nI T ≤ 27 := nI_le (b := 27) (by omega) (by decide)
      refine br_f (bb_T28 hT') ?_
      by_cases pa : vp_in v2 T
      · obtain ⟨a, ha, rfl⟩ := vp_in_of pa (by omega)
        refine bx_isT1 ha h28 (br_f (by decide) ?_)
        by_cases pb : vp_in v3 T
        · obtain ⟨b, hb, rfl⟩ := vp_in_of pb (by omega)
          refine bx_isT1 hb h28 (br_f (by decide) ⟨2 ^ (3 * w) + 1, bx_choose0 (fun x => (if bo (s * 4096 + x) = 0 then wd (b * 4096 + x) else wd (a * 4096 + x)) &&& nI (2 ^ w - 1)) hs h16 ha hb hT' hA (bb_Ib I) (bb_mask I.2.1) (fun x hx => rfl) ?_⟩)
          unfold wpY_choose; dsimp only
          refine by_badS0 hs h16 (br_t rfl (br_t h27 (by_badT0 ha h28 (br_t rfl (by_badT0 hb h28 (br_t rfl (by_term hT' h16 ⟨rfl, bb_relT I hT' ?_ fun n hn => ?_⟩)))))))
          · exact Or.inr (Or.inr ⟨vp_in_nI ha (by omega), Or.inr (Or.inr ⟨vp_in_nI hb (by omega), Or.inr (vp_in_nI hs (by omega))⟩)⟩)
          · rw [bb_v10, bb_ci ha h28, bb_ci hb h28, nI_clamp (show s < 2 ^ 31 by omega)]; rfl
        · refine bx_isT0 pb h28 (br_t rfl ?_)
          unfold wpY_choose; dsimp only
          exact by_badS0 hs h16 (br_t rfl (br_t h27 (by_badT0 ha h28 (br_t rfl (by_badT1 pb h28 (br_f (by decide) ⟨rfl, bb_rel I⟩))))))
      · refine bx_isT0 pa h28 (br_t rfl ?_)
        unfold wpY_choose; dsimp only
        exact by_badS0 hs h16 (br_t rfl (br_t h27 (by_badT1 pa h28 (br_f (by decide) ⟨rfl, bb_rel I⟩))))
  · refine bx_isS0 ps h16 (br_t rfl ?_)
    unfold wpY_choose; dsimp only
    exact by_badS1 ps h16 (br_f (by decide) ⟨rfl, bb_rel I⟩)
theorem bb_k3 : ∀ j, j ≤ 2 → ¬ 3 ≤ nI j ∧ 3 ≤ nI j + 3 := by decide +kernel
theorem i_vc_compare {k : Nat} {u : SX} {v : SY} (I : i_Rel k u v) (hk : k + 4 ≤ 2049) (v1 : Int32) (v2 : Int32) (v3 : Int32) : wpX_compare (fun r u' => wpY_compare (fun r' v' => r' = r ∧ i_Rel (k + 4) u' v') v v1 v2 v3) u v1 v2 v3 := by
  obtain ⟨w, T, S, C, wd, bo, ct, cs, ord, kd, ka, kb, kc, so, sp, sq, vl, tv, rfl, rfl, I⟩ := I
  have hA := bb_A I.2.1
  have h28 := I.2.2.1
  have h16 := I.2.2.2.1
  by_cases h0 : v1 < 0
  · exact br_t h0 (br_t h0 ⟨rfl, bb_rel I⟩)
  · refine br_f h0 ?_
    by_cases h5 : v1 ≤ 2
    · obtain ⟨j, hj, rfl⟩ := nI_of2 (M := 2) (n := 2) (by decide) h0 h5
      refine br_t h5 ?_
      by_cases hS : S = 16
      · subst hS
        exact br_t (by decide) (br_f h0 (br_t h5 (br_f (by decide) ⟨rfl, bb_rel I⟩)))
      · have hS' : S < 16 := by omega
        have h15 : nI S ≤ 15 := nI_le (b := 15) (by omega) (by decide)
        refine br_f (bb_S16 hS') ?_
        by_cases pa : vp_in v2 T
        · obtain ⟨a, ha, rfl⟩ := vp_in_of pa (by omega)
          refine bx_isT1 ha h28 (br_f (by decide) ?_)
          by_cases pb : vp_in v3 T
          · obtain ⟨b, hb, rfl⟩ := vp_in_of pb (by omega)
            refine bx_isT1 hb h28 (br_f (by decide) ⟨2 ^ (3 * w) + 1, bx_compare0 (fun x => bb_cmp (nI (2 ^ w)) (nI j) (wd (a * 4096 + x)) (wd (b * 4096 + x))) I.1 I.2.1 ha hb h28 hS' hA (bb_Ir I) (fun x hx => rfl) ?_⟩)
            refine br_f h0 (br_t h5 (br_t h15 (by_badT0 ha h28 (br_t rfl (by_badT0 hb h28 (br_t rfl (by_test h28 hS' ⟨rfl, bb_relS I hS' ?_ fun n hn => ?_⟩)))))))
            · exact Or.inr ⟨(bb_k3 j hj).1, vp_in_nI ha (by omega), vp_in_nI hb (by omega)⟩
            · unfold bb_tv; rw [if_neg (bb_k3 j hj).1, bb_ci ha h28, bb_ci hb h28]; rfl
          · exact bx_isT0 pb h28 (br_t rfl (br_f h0 (br_t h5 (br_t h15 (by_badT0 ha h28 (br_t rfl (by_badT1 pb h28 (br_f (by decide) ⟨rfl, bb_rel I⟩))))))))
        · exact bx_isT0 pa h28 (br_t rfl (br_f h0 (br_t h5 (br_t h15 (by_badT1 pa h28 (br_f (by decide) ⟨rfl, bb_rel I⟩))))))
    · exact br_f h5 (br_f h0 (br_f h5 ⟨rfl, bb_rel I⟩))
theorem i_vc_connect {k : Nat} {u : SX} {v : SY} (I : i_Rel k u v) (hk : k + 4 ≤ 2049) (v1 : Int32) (v2 : Int32) (v3 : Int32) : wpX_connect (fun r u' => wpY_connect (fun r' v' => r' = r ∧ i_Rel (k + 4) u' v') v v1 v2 v3) u v1 v2 v3 := by
  obtain ⟨w, T, S, C, wd, bo, ct, cs, ord, kd, ka, kb, kc, so, sp, sq, vl, tv, rfl, rfl, I⟩ := I
  have hA := bb_A I.2.1
  have h28 := I.2.2.1
  have h16 := I.2.2.2.1
  by_cases h0 : v1 < 0
  · exact br_t h0 (br_t h0 ⟨rfl, bb_rel I⟩)
  · refine br_f h0 ?_
    by_cases h5 : v1 ≤ 2
    · obtain ⟨j, hj, rfl⟩ := nI_of2 (M := 2) (n := 2) (by decide) h0 h5
      refine br_t h5 ?_
      by_cases hS : S = 16
      · subst hS
        exact br_t (by decide) (br_f h0 (br_t h5 (br_f (by decide) ⟨rfl, bb_rel I⟩)))
      · have hS' : S < 16 := by omega
        have h15 : nI S ≤ 15 := nI_le (b := 15) (by omega) (by decide)
        refine br_f (bb_S16 hS') ?_
        by_cases pa : vp_in v2 S
        · obtain ⟨a, ha, rfl⟩ := vp_in_of pa (by omega)
          refine bx_isS1 ha h16 (br_f (by decide) ?_)
          by_cases pb : vp_in v3 S
          · obtain ⟨b, hb, rfl⟩ := vp_in_of pb (by omega)
            refine bx_isS1 hb h16 (br_f (by decide) ⟨2 ^ (3 * w) + 1, bx_connect0 (fun x => bb_con (nI j + 3) (bo (a * 4096 + x)) (bo (b * 4096 + x))) hj ha hb hS' hA (bb_Ib I) (fun x hx => rfl) ?_⟩)
            refine br_f h0 (br_t h5 (br_t h15 (by_badS0 ha h16 (br_t rfl (by_badS0 hb h16 (br_t rfl (by_test h28 hS' ⟨rfl, bb_relS I hS' ?_ fun n hn => ?_⟩)))))))
            · exact Or.inl ⟨(bb_k3 j hj).2, vp_in_nI ha (by omega), vp_in_nI hb (by omega)⟩
            · unfold bb_tv; rw [if_pos (bb_k3 j hj).2, nI_clamp (show a < 2 ^ 31 by omega), nI_clamp (show b < 2 ^ 31 by omega)]; rfl
          · exact bx_isS0 pb h16 (br_t rfl (br_f h0 (br_t h5 (br_t h15 (by_badS0 ha h16 (br_t rfl (by_badS1 pb h16 (br_f (by decide) ⟨rfl, bb_rel I⟩))))))))
        · exact bx_isS0 pa h16 (br_t rfl (br_f h0 (br_t h5 (br_t h15 (by_badS1 pa h16 (br_f (by decide) ⟨rfl, bb_rel I⟩))))))
    · exact br_f h5 (br_f h0 (br_f h5 ⟨rfl, bb_rel I⟩))
