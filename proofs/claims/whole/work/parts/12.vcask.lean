theorem bb_neg {m : Nat} {x : Int32} (h : x < 0) (hm : m < 2 ^ 31) : ¬ nI m ≤ x := fun q => nI_pos hm (Int32.lt_of_le_of_lt q h)
theorem i_vc_solvable {k : Nat} {u : SX} {v : SY} (I : i_Rel k u v) (hk : k + 4 ≤ 2049) : wpX_solvable (fun r => wpY_solvable (fun r' v' => r' = r ∧ i_Rel (k + 4) u v') v) u := by
  obtain ⟨w, T, S, C, wd, bo, ct, cs, ord, kd, ka, kb, kc, so, sp, sq, vl, tv, rfl, rfl, I⟩ := I
  have hA := bb_A I.2.1
  obtain ⟨r, hX, hY⟩ := bb_first (cs := cs) I (2 ^ (3 * w)) 0 (by omega)
  unfold wpX_solvable wpX_firstSolutionFrom; dsimp only
  refine ⟨_, hX _ ?_⟩
  by_cases z : r < 0
  · refine br_t z ?_
    unfold wpY_solvable wpY_after; dsimp only
    exact ⟨_, hY _ _ (fun m _ hm => bb_neg (by decide) (by omega)) _ _ fun vl' tv' => br_f (Int32.not_le.mpr z) ⟨rfl, bb_rel I⟩⟩
  · refine br_f z ?_
    unfold wpY_solvable wpY_after; dsimp only
    exact ⟨_, hY _ _ (fun m _ hm => bb_neg (by decide) (by omega)) _ _ fun vl' tv' => br_t (Int32.not_lt.mp z) ⟨rfl, bb_rel I⟩⟩
theorem i_vc_next {k : Nat} {u : SX} {v : SY} (I : i_Rel k u v) (hk : k + 4 ≤ 2049) (v1 : Int32) : wpX_next (fun r => wpY_next (fun r' v' => r' = r ∧ i_Rel (k + 4) u v') v v1) u v1 := by
  obtain ⟨w, T, S, C, wd, bo, ct, cs, ord, kd, ka, kb, kc, so, sp, sq, vl, tv, rfl, rfl, I⟩ := I
  have hA := bb_A I.2.1
  by_cases h0 : v1 < 0
  · have hl : v1 < nI (2 ^ (3 * w)) := Int32.lt_of_lt_of_le h0 (nI_pos' (by omega))
    refine br_t hl (br_f (Int32.not_le.mpr h0) ?_)
    obtain ⟨r, hX, hY⟩ := bb_first (cs := cs) I (2 ^ (3 * w)) 0 (by omega)
    unfold wX_next_21 wpX_firstSolutionFrom; dsimp only
    refine ⟨_, hX _ ?_⟩
    unfold wpY_next wpY_after; dsimp only
    exact ⟨_, hY _ _ (fun m _ hm => bb_neg h0 (by omega)) _ _ fun vl' tv' => ⟨rfl, bb_rel I⟩⟩
  · obtain ⟨a, ha, rfl⟩ := nI_of h0
    by_cases g : a < 2 ^ (3 * w)
    · refine br_t (nI_lt g (by omega)) (br_t (nI_pos' ha) ?_)
      obtain ⟨r, hX, hY⟩ := bb_first (cs := cs) I (2 ^ (3 * w) - (a + 1)) (a + 1) (by omega)
      unfold wX_next_21 wpX_firstSolutionFrom; dsimp only
      rw [nI_1]
      refine ⟨_, hX _ ?_⟩
      unfold wpY_next wpY_after; dsimp only
      exact ⟨_, by_skip hA (by omega) (fun m hm => nI_le (by omega) (by omega)) (hY _ _ (fun m h1 hm => nI_ge (by omega) (by omega)) _ _ fun vl' tv' => ⟨rfl, bb_rel I⟩) (a + 1) 0 (by omega)⟩
    · refine br_f (nI_nlt (by omega) ha) ?_
      unfold wpY_next wpY_after; dsimp only
      refine ⟨_, by_skip (f := 1) hA (Nat.le_refl _) (fun m hm => nI_le (by omega) ha) ?_ (2 ^ (3 * w)) 0 (by omega)⟩
      rw [wY_after_2]
      exact br_t (nI_le (Nat.le_refl _) (by omega)) ⟨rfl, bb_rel I⟩
theorem i_vc_count {k : Nat} {u : SX} {v : SY} (I : i_Rel k u v) (hk : k + 4 ≤ 2049) : wpX_count (fun r => wpY_count (fun r' v' => r' = r ∧ i_Rel (k + 4) u v') v) u := by
  obtain ⟨w, T, S, C, wd, bo, ct, cs, ord, kd, ka, kb, kc, so, sp, sq, vl, tv, rfl, rfl, I⟩ := I
  obtain ⟨r, hX, hY⟩ := bb_count (cs := cs) I (2 ^ (3 * w)) 0 (by omega) 0
  unfold wpX_count; dsimp only
  refine ⟨_, hX _ ?_⟩
  unfold wpY_count; dsimp only
  exact ⟨_, hY _ _ _ fun vl' tv' => ⟨rfl, bb_rel I⟩⟩
theorem i_vc_least {k : Nat} {u : SX} {v : SY} (I : i_Rel k u v) (hk : k + 4 ≤ 2049) (v1 : Int32) : wpX_least (fun r => wpY_least (fun r' v' => r' = r ∧ i_Rel (k + 4) u v') v v1) u v1 := by
  obtain ⟨w, T, S, C, wd, bo, ct, cs, ord, kd, ka, kb, kc, so, sp, sq, vl, tv, rfl, rfl, I⟩ := I
  have hw4 := I.2.1
  have h28 := I.2.2.1
  unfold wpX_least; dsimp only
  by_cases pa : vp_in v1 T
  · obtain ⟨a, ha, rfl⟩ := vp_in_of pa (by omega)
    obtain ⟨r, hX, hY⟩ := bb_least (cs := cs) I ha (2 ^ (3 * w)) 0 (by omega) _ _ (Or.inl ⟨rfl, rfl⟩)
    refine bx_isT1 ha h28 (br_f (by decide) (nm_r (bb_mk1 w (by omega)) ⟨_, hX _ ?_⟩))
    unfold wpY_least wpY_extreme; dsimp only
    exact by_badT0 ha h28 (br_t rfl ⟨_, hY _ _ _ fun vl' tv' => ⟨rfl, bb_rel I⟩⟩)
  · refine bx_isT0 pa h28 (br_t rfl ?_)
    unfold wpY_least wpY_extreme; dsimp only
    exact by_badT1 pa h28 (br_f (by decide) ⟨rfl, bb_rel I⟩)
theorem i_vc_greatest {k : Nat} {u : SX} {v : SY} (I : i_Rel k u v) (hk : k + 4 ≤ 2049) (v1 : Int32) : wpX_greatest (fun r => wpY_greatest (fun r' v' => r' = r ∧ i_Rel (k + 4) u v') v v1) u v1 := by
  obtain ⟨w, T, S, C, wd, bo, ct, cs, ord, kd, ka, kb, kc, so, sp, sq, vl, tv, rfl, rfl, I⟩ := I
  have h28 := I.2.2.1
  unfold wpX_greatest; dsimp only
  by_cases pa : vp_in v1 T
  · obtain ⟨a, ha, rfl⟩ := vp_in_of pa (by omega)
    obtain ⟨r, hX, hY⟩ := bb_greatest (cs := cs) I ha (2 ^ (3 * w)) 0 (by omega) _ _ (Or.inl ⟨rfl, rfl⟩)
    refine bx_isT1 ha h28 (br_f (by decide) ⟨_, hX _ ?_⟩)
    unfold wpY_greatest wpY_extreme; dsimp only
    exact by_badT0 ha h28 (br_t rfl ⟨_, hY _ _ _ fun vl' tv' => ⟨rfl, bb_rel I⟩⟩)
  · refine bx_isT0 pa h28 (br_t rfl ?_)
    unfold wpY_greatest wpY_extreme; dsimp only
    exact by_badT1 pa h28 (br_f (by decide) ⟨rfl, bb_rel I⟩)
theorem i_vc_follows {k : Nat} {u : SX} {v : SY} (I : i_Rel k u v) (hk : k + 4 ≤ 2049) (v1 : Int32) : wpX_follows (fun r => wpY_follows (fun r' v' => r' = r ∧ i_Rel (k + 4) u v') v v1) u v1 := by
  obtain ⟨w, T, S, C, wd, bo, ct, cs, ord, kd, ka, kb, kc, so, sp, sq, vl, tv, rfl, rfl, I⟩ := I
  have h16 := I.2.2.2.1
  unfold wpX_follows; dsimp only
  by_cases pa : vp_in v1 S
  · obtain ⟨a, ha, rfl⟩ := vp_in_of pa (by omega)
    obtain ⟨r, hX, hY⟩ := bb_follows (cs := cs) I ha (2 ^ (3 * w)) 0 (by omega) 0 0 (Or.inl rfl) (Or.inl rfl)
    refine bx_isS1 ha h16 (br_f (by decide) ⟨_, hX _ ?_⟩)
    unfold wpY_follows; dsimp only
    exact by_badS0 ha h16 (br_t rfl ⟨_, hY _ _ _ fun vl' tv' => ⟨rfl, bb_rel I⟩⟩)
  · refine bx_isS0 pa h16 (br_t rfl ?_)
    unfold wpY_follows; dsimp only
    exact by_badS1 pa h16 (br_f (by decide) ⟨rfl, bb_rel I⟩)
theorem i_vc_same {k : Nat} {u : SX} {v : SY} (I : i_Rel k u v) (hk : k + 4 ≤ 2049) (v1 : Int32) (v2 : Int32) : wpX_same (fun r => wpY_same (fun r' v' => r' = r ∧ i_Rel (k + 4) u v') v v1 v2) u v1 v2 := by
  obtain ⟨w, T, S, C, wd, bo, ct, cs, ord, kd, ka, kb, kc, so, sp, sq, vl, tv, rfl, rfl, I⟩ := I
  have h28 := I.2.2.1
  unfold wpX_same; dsimp only
  by_cases pa : vp_in v1 T
  · obtain ⟨a, ha, rfl⟩ := vp_in_of pa (by omega)
    refine bx_isT1 ha h28 (br_f (by decide) ?_)
    by_cases pb : vp_in v2 T
    · obtain ⟨b, hb, rfl⟩ := vp_in_of pb (by omega)
      obtain ⟨r, hX, hY⟩ := bb_same (cs := cs) I ha hb (2 ^ (3 * w)) 0 (by omega)
      refine bx_isT1 hb h28 (br_f (by decide) ⟨_, hX _ ?_⟩)
      unfold wpY_same; dsimp only
      exact by_badT0 ha h28 (br_t rfl (by_badT0 hb h28 (br_t rfl ⟨_, hY _ _ _ fun vl' tv' => ⟨rfl, bb_rel I⟩⟩)))
    · refine bx_isT0 pb h28 (br_t rfl ?_)
      unfold wpY_same; dsimp only
      exact by_badT0 ha h28 (br_t rfl (by_badT1 pb h28 (br_f (by decide) ⟨rfl, bb_rel I⟩)))
  · refine bx_isT0 pa h28 (br_t rfl ?_)
    unfold wpY_same; dsimp only
    exact by_badT1 pa h28 (br_f (by decide) ⟨rfl, bb_rel I⟩)
theorem bb_sh : ∀ w, w < 5 → (1 : Int32) <<< (nI w &&& 31) = nI (2 ^ w) ∧ (1 : Int32) <<< ((3 * nI w) &&& 31) = nI (2 ^ (3 * w)) := by decide +kernel
/-- what the constructors leave, at a width that the clamp gives -/
theorem bb_start {w : Nat} (h1 : 1 ≤ w) (h4 : w ≤ 4) : i_Rel 1 (nI w, nI (2 ^ w - 1), nI (2 ^ (3 * w)), 0, 0, 0, (fun _ => 0), (fun _ => 0), (fun _ => 0), (fun _ => 0), 114688, 65536) (nI w, nI (2 ^ w), nI (2 ^ (3 * w)), 0, 0, 0, 0, (fun _ => 0), (fun _ => 0), (fun _ => 0), (fun _ => 0), (fun _ => 0), (fun _ => 0), (fun _ => 0), (fun _ => 0), (fun _ => 0), (fun _ => 0), (fun _ => 0), (fun _ => 0)) :=
  ⟨w, 0, 0, 0, _, _, _, _, _, _, _, _, _, _, _, _, _, _, rfl, rfl, h1, h4, by omega, by omega, by omega, fun i hi => absurd hi (by omega), rfl, rfl⟩
theorem bx_init56 {post : SX → Prop} {w : Nat} (h4 : w ≤ 4) (h : post (nI w, nI (2 ^ w - 1), nI (2 ^ (3 * w)), 0, 0, 0, (fun _ => 0), (fun _ => 0), (fun _ => 0), (fun _ => 0), 114688, 65536)) : wX_init_56 post (nI w) 0 0 0 0 0 0 (fun _ => 0) (fun _ => 0) (fun _ => 0) (fun _ => 0) 114688 65536 := by
  obtain ⟨e1, e2⟩ := bb_sh w (by omega)
  unfold wX_init_56
  rw [e1, e2, bb_tm w (by omega)]
  exact nm_e (nm_e h)
theorem by_init120 {post : SY → Prop} {w : Nat} (h4 : w ≤ 4) (h : post (nI w, nI (2 ^ w), nI (2 ^ (3 * w)), 0, 0, 0, 0, (fun _ => 0), (fun _ => 0), (fun _ => 0), (fun _ => 0), (fun _ => 0), (fun _ => 0), (fun _ => 0), (fun _ => 0), (fun _ => 0), (fun _ => 0), (fun _ => 0), (fun _ => 0))) : wY_init_120 post (nI w) 0 0 0 0 0 0 0 (fun _ => 0) (fun _ => 0) (fun _ => 0) (fun _ => 0) (fun _ => 0) (fun _ => 0) (fun _ => 0) (fun _ => 0) (fun _ => 0) (fun _ => 0) (fun _ => 0) (fun _ => 0) := by
  obtain ⟨e1, e2⟩ := bb_sh w (by omega)
  unfold wY_init_120
  rw [e1, e2]
  exact nm_e (nm_e h)
/-- the constructors' walks behind the two questions of length: all that i_vc0 asks but 114688 ≤ 90112 (and 65536 ≤ 90112) -/
theorem bb_ctor (k0 : Int32) : ((1 ≤ k0 → (((k0 ≤ 4 → (wX_init_56 (fun u => wpY_init (fun v => i_Rel 1 u v) k0) k0 0 0 0 0 0 0 (fun _ => 0) (fun _ => 0) (fun _ => 0) (fun _ => 0) 114688 65536)) ∧ (¬ k0 ≤ 4 → (wX_init_56 (fun u => wpY_init (fun v => i_Rel 1 u v) k0) 4 0 0 0 0 0 0 (fun _ => 0) (fun _ => 0) (fun _ => 0) (fun _ => 0) 114688 65536))))) ∧ (¬ 1 ≤ k0 → (wX_init_56 (fun u => wpY_init (fun v => i_Rel 1 u v) k0) 1 0 0 0 0 0 0 (fun _ => 0) (fun _ => 0) (fun _ => 0) (fun _ => 0) 114688 65536))) := by
  by_cases h1 : 1 ≤ k0
  · refine br_t h1 ?_
    by_cases h4 : k0 ≤ 4
    · refine br_t h4 ?_
      obtain ⟨w, hw, rfl⟩ := nI_of2 (M := 4) (n := 4) (by decide) (fun z => absurd (Int32.lt_of_le_of_lt h1 z) (by decide)) h4
      have hw1 : 1 ≤ w := (nI_leI (a := 1) (by decide) (by omega)).mp h1
      exact bx_init56 hw (br_t h1 (br_t h4 (by_init120 hw (bb_start hw1 hw))))
    · exact br_f h4 (bx_init56 (w := 4) (by decide) (br_t h1 (br_f h4 (by_init120 (w := 4) (by decide) (bb_start (by decide) (by decide))))))
  · exact br_f h1 (bx_init56 (w := 1) (by decide) (br_f h1 (by_init120 (w := 1) (by decide) (bb_start (by decide) (by decide)))))
