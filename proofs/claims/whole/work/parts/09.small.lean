theorem i_vc_width {k : Nat} {u : SX} {v : SY} (I : i_Rel k u v) (hk : k + 4 ≤ 2049) : wpX_width (fun r => wpY_width (fun r' => r' = r ∧ i_Rel (k + 4) u v) v) u := by
  obtain ⟨w, T, S, C, wd, bo, ct, cs, ord, kd, ka, kb, kc, so, sp, sq, vl, tv, rfl, rfl, I⟩ := I
  exact ⟨rfl, bb_rel I⟩
theorem i_vc_terms {k : Nat} {u : SX} {v : SY} (I : i_Rel k u v) (hk : k + 4 ≤ 2049) : wpX_terms (fun r => wpY_terms (fun r' => r' = r ∧ i_Rel (k + 4) u v) v) u := by
  obtain ⟨w, T, S, C, wd, bo, ct, cs, ord, kd, ka, kb, kc, so, sp, sq, vl, tv, rfl, rfl, I⟩ := I
  exact ⟨rfl, bb_rel I⟩
theorem i_vc_tests {k : Nat} {u : SX} {v : SY} (I : i_Rel k u v) (hk : k + 4 ≤ 2049) : wpX_tests (fun r => wpY_tests (fun r' => r' = r ∧ i_Rel (k + 4) u v) v) u := by
  obtain ⟨w, T, S, C, wd, bo, ct, cs, ord, kd, ka, kb, kc, so, sp, sq, vl, tv, rfl, rfl, I⟩ := I
  exact ⟨rfl, bb_rel I⟩
theorem bb_C10 {C : Nat} (h : C < 10) : ¬ nI C = 10 := fun z => absurd ((nI_eq (b := 10) (by omega) (by decide)).mp z) (by omega)
section
variable {w T S C : Nat} {wd bo ct cs ord kd ka kb kc so sp sq vl tv : Nat → Int32}
theorem bb_addC {q s : Nat} {z : Int32} (I : bb_I w T S C wd bo ct ord kd ka kb kc so sp sq) (hC : C < 10) (hs : s < S) : i_Rel q (nI w, nI (2 ^ w - 1), nI (2 ^ (3 * w)), nI T, nI S, nI (C + 1), wd, bo, upd ct C (nI s), upd cs C z, 114688, 65536) (nI w, nI (2 ^ w), nI (2 ^ (3 * w)), nI T, nI S, nI (C + 1), nI (T + S), ord, kd, ka, kb, kc, so, sp, sq, upd ct C (nI s), upd cs C z, vl, tv) := by
  obtain ⟨hw1, hw4, h28, h16, h10, hct, hH⟩ := I
  refine ⟨w, T, S, C + 1, _, _, _, _, _, _, _, _, _, _, _, _, _, _, rfl, rfl, hw1, hw4, h28, h16, by omega, fun i hi => ?_, hH⟩
  by_cases e : i = C
  · subst e; rw [pk_us]; exact vp_in_nI hs (by omega)
  · rw [pk_un e]; exact hct i (by omega)
theorem bx_req {post : Int32 → SX → Prop} {z : Int32} (hz : z = 0 ∨ z = 1) (hC : C < 10) (h : post (nI (C + 1)) (nI w, nI (2 ^ w - 1), nI (2 ^ (3 * w)), nI T, nI S, nI (C + 1), wd, bo, ct, upd cs C z, 114688, 65536)) : wX_require_49 post z (nI C) (nI w) (nI (2 ^ w - 1)) (nI (2 ^ (3 * w))) (nI T) (nI S) (nI C) wd bo ct cs 114688 65536 := by
  unfold wX_require_49
  rw [nI_clamp (show C < 2 ^ 31 by omega), bb_b01 hz]
  exact ⟨vp_in_nI hC (by decide), nm_e (nm_r (nI_1 C) h)⟩
theorem by_req {post : Int32 → SY → Prop} {z : Int32} (hz : z = 0 ∨ z = 1) (hC : C < 10) (h : post (nI (C + 1)) (nI w, nI (2 ^ w), nI (2 ^ (3 * w)), nI T, nI S, nI (C + 1), nI (T + S), ord, kd, ka, kb, kc, so, sp, sq, ct, upd cs C z, vl, tv)) : wY_require_49 post z (nI C) (nI w) (nI (2 ^ w)) (nI (2 ^ (3 * w))) (nI T) (nI S) (nI C) (nI (T + S)) ord kd ka kb kc so sp sq ct cs vl tv := by
  unfold wY_require_49
  rw [nI_clamp (show C < 2 ^ 31 by omega), bb_b01 hz]
  exact ⟨vp_in_nI hC (by decide), nm_e (nm_r (nI_1 C) h)⟩
end
theorem i_vc_require {k : Nat} {u : SX} {v : SY} (I : i_Rel k u v) (hk : k + 4 ≤ 2049) (v1 : Int32) (v2 : Int32) : wpX_require (fun r u' => wpY_require (fun r' v' => r' = r ∧ i_Rel (k + 4) u' v') v v1 v2) u v1 v2 := by
  obtain ⟨w, T, S, C, wd, bo, ct, cs, ord, kd, ka, kb, kc, so, sp, sq, vl, tv, rfl, rfl, I⟩ := I
  have h16 := I.2.2.2.1
  have h10 := I.2.2.2.2.1
  unfold wpX_require; dsimp only
  by_cases ps : vp_in v1 S
  · obtain ⟨s, hs, rfl⟩ := vp_in_of ps (by omega)
    refine bx_isS1 hs h16 (br_f (by decide) ?_)
    by_cases hC : C = 10
    · subst hC
      refine br_t (by decide) ?_
      unfold wpY_require; dsimp only
      exact by_badS0 hs h16 (br_t rfl (br_f (by decide) ⟨rfl, bb_rel I⟩))
    · have hC' : C < 10 := by omega
      refine br_f (bb_C10 hC') ⟨vp_in_nI hC' (by decide), ?_⟩
      rw [nI_clamp (show C < 2 ^ 31 by omega)]
      refine nm_e ?_
      by_cases z : v2 = 0
      · refine br_t z (bx_req (Or.inl rfl) hC' ?_)
        unfold wpY_require; dsimp only
        refine by_badS0 hs h16 (br_t rfl (br_t (nI_le (b := 9) (by omega) (by decide)) ⟨vp_in_nI hC' (by decide), ?_⟩))
        rw [nI_clamp (show C < 2 ^ 31 by omega)]
        exact nm_e (br_t z (by_req (Or.inl rfl) hC' ⟨rfl, bb_addC I hC' hs⟩))
      · refine br_f z (bx_req (Or.inr rfl) hC' ?_)
        unfold wpY_require; dsimp only
        refine by_badS0 hs h16 (br_t rfl (br_t (nI_le (b := 9) (by omega) (by decide)) ⟨vp_in_nI hC' (by decide), ?_⟩))
        rw [nI_clamp (show C < 2 ^ 31 by omega)]
        exact nm_e (br_f z (by_req (Or.inr rfl) hC' ⟨rfl, bb_addC I hC' hs⟩))
  · refine bx_isS0 ps h16 (br_t rfl ?_)
    unfold wpY_require; dsimp only
    exact by_badS1 ps h16 (br_f (by decide) ⟨rfl, bb_rel I⟩)
theorem i_vc_release {k : Nat} {u : SX} {v : SY} (I : i_Rel k u v) (hk : k + 4 ≤ 2049) : wpX_release (fun r u' => wpY_release (fun r' v' => r' = r ∧ i_Rel (k + 4) u' v') v) u := by
  obtain ⟨w, T, S, C, wd, bo, ct, cs, ord, kd, ka, kb, kc, so, sp, sq, vl, tv, rfl, rfl, I⟩ := I
  cases C with
  | zero => exact br_t (by decide) (br_t (by decide) ⟨rfl, bb_rel I⟩)
  | succ C =>
    have h10 := I.2.2.2.2.1
    have h0 : ¬ nI (C + 1) = 0 := nI_ne0 (by omega) (by omega)
    refine br_f h0 (nm_r (nI_pred C) (br_f h0 (nm_r (nI_pred C) ⟨rfl, bb_rel ?_⟩)))
    obtain ⟨hw1, hw4, h28, h16, h10, hct, hH⟩ := I
    exact ⟨hw1, hw4, h28, h16, by omega, fun i hi => hct i (by omega), hH⟩
theorem i_vc_valueOf {k : Nat} {u : SX} {v : SY} (I : i_Rel k u v) (hk : k + 4 ≤ 2049) (v1 : Int32) (v2 : Int32) : wpX_valueOf (fun r => wpY_valueOf (fun r' v' => r' = r ∧ i_Rel (k + 4) u v') v v1 v2) u v1 v2 := by
  obtain ⟨w, T, S, C, wd, bo, ct, cs, ord, kd, ka, kb, kc, so, sp, sq, vl, tv, rfl, rfl, I⟩ := I
  have hA := bb_A I.2.1
  have hw4 := I.2.1
  have h28 := I.2.2.1
  have h16 := I.2.2.2.1
  unfold wpX_valueOf; dsimp only
  by_cases pa : vp_in v1 T
  · obtain ⟨a, ha, rfl⟩ := vp_in_of pa (by omega)
    refine bx_isT1 ha h28 (br_f (by decide) ?_)
    by_cases pn : vp_in v2 (2 ^ (3 * w))
    · obtain ⟨n, hn, rfl⟩ := vp_in_of pn (by omega)
      refine bx_isA1 hn hA (br_f (by decide) (bx_word (by omega) (by omega) ?_))
      unfold wpY_valueOf; dsimp only
      refine by_badT0 ha h28 (br_t rfl (by_badN0 hn hA (br_t rfl (by_work hn h28 h16 (bb_tm w (by omega)) I.2.2.2.2.2.2 fun vl' tv' hm => ⟨vp_in_nI (by omega) (by decide), ?_, bb_rel I⟩))))
      rw [bb_ci ha h28]; exact hm.1 a ha
    · refine bx_isA0 pn hA (br_t rfl ?_)
      unfold wpY_valueOf; dsimp only
      exact by_badT0 ha h28 (br_t rfl (by_badN1 pn hA (br_f (by decide) ⟨rfl, bb_rel I⟩)))
  · refine bx_isT0 pa h28 (br_t rfl ?_)
    unfold wpY_valueOf; dsimp only
    exact by_badT1 pa h28 (br_f (by decide) ⟨rfl, bb_rel I⟩)
theorem i_vc_holds {k : Nat} {u : SX} {v : SY} (I : i_Rel k u v) (hk : k + 4 ≤ 2049) (v1 : Int32) (v2 : Int32) : wpX_holds (fun r => wpY_holds (fun r' v' => r' = r ∧ i_Rel (k + 4) u v') v v1 v2) u v1 v2 := by
  obtain ⟨w, T, S, C, wd, bo, ct, cs, ord, kd, ka, kb, kc, so, sp, sq, vl, tv, rfl, rfl, I⟩ := I
  have hA := bb_A I.2.1
  have hw4 := I.2.1
  have h28 := I.2.2.1
  have h16 := I.2.2.2.1
  unfold wpX_holds; dsimp only
  by_cases pa : vp_in v1 S
  · obtain ⟨a, ha, rfl⟩ := vp_in_of pa (by omega)
    refine bx_isS1 ha h16 (br_f (by decide) ?_)
    by_cases pn : vp_in v2 (2 ^ (3 * w))
    · obtain ⟨n, hn, rfl⟩ := vp_in_of pn (by omega)
      refine bx_isA1 hn hA (br_f (by decide) (bx_truth (by omega) (by omega) (bb_Ib I a ha n hn) ?_))
      by_cases z : bo (a * 4096 + n) = 0
      · refine br_t z ?_
        unfold wpY_holds; dsimp only
        refine by_badS0 ha h16 (br_t rfl (by_badN0 hn hA (br_t rfl (by_work hn h28 h16 (bb_tm w (by omega)) I.2.2.2.2.2.2 fun vl' tv' hm => ⟨vp_in_nI (by omega) (by decide), ?_⟩))))
        rw [nI_clamp (show a < 2 ^ 31 by omega)]
        exact br_t ((hm.2 a ha).trans z) ⟨rfl, bb_rel I⟩
      · refine br_f z ?_
        unfold wpY_holds; dsimp only
        refine by_badS0 ha h16 (br_t rfl (by_badN0 hn hA (br_t rfl (by_work hn h28 h16 (bb_tm w (by omega)) I.2.2.2.2.2.2 fun vl' tv' hm => ⟨vp_in_nI (by omega) (by decide), ?_⟩))))
        rw [nI_clamp (show a < 2 ^ 31 by omega)]
        exact br_f (fun q => z ((hm.2 a ha).symm.trans q)) ⟨rfl, bb_rel I⟩
    · refine bx_isA0 pn hA (br_t rfl ?_)
      unfold wpY_holds; dsimp only
      exact by_badS0 ha h16 (br_t rfl (by_badN1 pn hA (br_f (by decide) ⟨rfl, bb_rel I⟩)))
  · refine bx_isS0 pa h16 (br_t rfl ?_)
    unfold wpY_holds; dsimp only
    exact by_badS1 pa h16 (br_f (by decide) ⟨rfl, bb_rel I⟩)
