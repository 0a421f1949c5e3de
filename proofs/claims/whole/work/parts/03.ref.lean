section
variable {w A T S C : Nat} {M top : Int32} {wd bo ct cs ord kd ka kb kc so sp sq vl tv : Nat → Int32}
theorem by_join {post : Int32 → Prop} {k x y : Int32} (h : post (bb_join k x y)) : wpY_joined post (nI w, top, nI A, nI T, nI S, nI C, nI (T + S), ord, kd, ka, kb, kc, so, sp, sq, ct, cs, vl, tv) k x y := by
  unfold bb_join at h
  by_cases e0 : k = 0
  · rw [if_pos e0] at h; exact br_t e0 h
  · rw [if_neg e0] at h; refine br_f e0 ?_
    by_cases e1 : k = 1
    · rw [if_pos e1] at h; exact br_t e1 h
    · rw [if_neg e1] at h; refine br_f e1 ?_
      by_cases e2 : k = 2
      · rw [if_pos e2] at h; exact br_t e2 h
      · rw [if_neg e2] at h; refine br_f e2 ?_
        by_cases e3 : k = 3
        · rw [if_pos e3] at h; exact br_t e3 h
        · rw [if_neg e3] at h; refine br_f e3 ?_
          by_cases e4 : k = 4
          · rw [if_pos e4] at h; exact br_t e4 h
          · rw [if_neg e4] at h; exact br_f e4 h
theorem by_worth {post : Int32 → Prop} {i t s : Nat} {x : Int32} (hi : i < 28) (ht : t ≤ 28) (hs : s ≤ 16) (hw : bb_wf t s (kd i) (ka i) (kb i) (kc i)) (h : post (bb_val (nI w) (kd i) (ka i) (kb i) (kc i) vl tv x)) : wpY_worth post (nI w, top, nI A, nI T, nI S, nI C, nI (T + S), ord, kd, ka, kb, kc, so, sp, sq, ct, cs, vl, tv) (nI i) x := by
  have hin : vp_in (nI i) 28 := vp_in_nI hi (by decide)
  unfold wpY_worth; dsimp only
  rw [nI_clamp (Nat.lt_trans hi (by decide))]
  refine ⟨hin, nm_e ?_⟩
  unfold bb_val at h
  by_cases e6 : kd i = 6
  · rw [if_pos e6] at h; exact br_t e6 ⟨hin, h⟩
  · rw [if_neg e6] at h; refine br_f e6 ?_
    by_cases e7 : kd i = 7
    · rw [if_pos e7] at h; exact br_t e7 ⟨hin, h⟩
    · rw [if_neg e7] at h
      obtain ⟨ha, hw⟩ := (hw.resolve_left e6).resolve_left e7
      refine br_f e7 ⟨hin, bb_inm ha ht, nm_e ?_⟩
      by_cases g6 : 6 ≤ kd i
      · rw [if_pos g6] at h; refine br_t g6 ?_
        by_cases e8 : kd i = 8
        · rw [if_pos e8] at h; exact br_t e8 h
        · rw [if_neg e8] at h; refine br_f e8 ?_
          by_cases e9 : kd i = 9
          · rw [if_pos e9] at h; refine br_t e9 ⟨hin, ?_⟩
            by_cases b0 : kb i < 0
            · rw [if_pos b0] at h; exact br_t b0 ⟨hin, h⟩
            · rw [if_neg b0] at h; exact br_f b0 ⟨hin, h⟩
          · rw [if_neg e9] at h
            obtain ⟨hb, hw⟩ := (hw.resolve_left e8).resolve_left e9
            have hc := hw.resolve_left (fun z => z g6)
            refine br_f e9 ⟨hin, bb_inm hc hs, ?_⟩
            by_cases c0 : tv (kc i).toNatClampNeg = 0
            · rw [if_pos c0] at h; exact br_t c0 ⟨hin, bb_inm hb ht, h⟩
            · rw [if_neg c0] at h; exact br_f c0 h
      · rw [if_neg g6] at h
        have hb : vp_in (kb i) t := by
          rcases hw with e | e | e
          · exact absurd (show (6 : Int32) ≤ kd i by rw [e]; decide) g6
          · exact absurd (show (6 : Int32) ≤ kd i by rw [e]; decide) g6
          · exact e.1
        exact br_f g6 ⟨hin, bb_inm hb ht, by_join h⟩
theorem by_signed {post : Int32 → Prop} {x : Int32} (h : post (bb_sg top x)) : wpY_signed post (nI w, top, nI A, nI T, nI S, nI C, nI (T + S), ord, kd, ka, kb, kc, so, sp, sq, ct, cs, vl, tv) x := by
  unfold bb_sg at h
  by_cases e : 2 * x < top
  · rw [if_pos e] at h; exact br_t e h
  · rw [if_neg e] at h; exact br_f e h
theorem by_told {post : Int32 → Prop} {i t s : Nat} (hi : i < 16) (ht : t ≤ 28) (hs : s ≤ 16) (hw : bb_wft t s (so i) (sp i) (sq i)) (h : post (bb_tv top (so i) (sp i) (sq i) vl tv)) : wpY_told post (nI w, top, nI A, nI T, nI S, nI C, nI (T + S), ord, kd, ka, kb, kc, so, sp, sq, ct, cs, vl, tv) (nI i) := by
  have hin : vp_in (nI i) 16 := vp_in_nI hi (by decide)
  unfold wpY_told; dsimp only
  rw [nI_clamp (Nat.lt_trans hi (by decide))]
  refine ⟨hin, nm_e ?_⟩
  unfold bb_tv at h
  by_cases g : 3 ≤ so i
  · rw [if_pos g] at h
    have hw' : vp_in (sp i) s ∧ vp_in (sq i) s := by
      rcases hw with z | z
      · exact z.2
      · exact absurd g z.1
    refine br_t g ⟨hin, bb_inm hw'.1 hs, nm_e ⟨hin, bb_inm hw'.2 hs, nm_e ?_⟩⟩
    unfold bb_con at h
    by_cases e3 : so i = 3
    · rw [if_pos e3] at h; refine br_t e3 ?_
      by_cases x0 : tv (sp i).toNatClampNeg = 0
      · rw [if_pos x0] at h; exact br_t x0 h
      · rw [if_neg x0] at h; refine br_f x0 ?_
        by_cases y0 : tv (sq i).toNatClampNeg = 0
        · rw [if_pos y0] at h; exact br_t y0 h
        · rw [if_neg y0] at h; exact br_f y0 h
    · rw [if_neg e3] at h; refine br_f e3 ?_
      by_cases e4 : so i = 4
      · rw [if_pos e4] at h; refine br_t e4 ?_
        by_cases x0 : tv (sp i).toNatClampNeg = 0
        · rw [if_pos x0] at h; refine br_t x0 ?_
          by_cases y0 : tv (sq i).toNatClampNeg = 0
          · rw [if_pos y0] at h; exact br_t y0 h
          · rw [if_neg y0] at h; exact br_f y0 h
        · rw [if_neg x0] at h; exact br_f x0 h
      · rw [if_neg e4] at h; refine br_f e4 ?_
        by_cases z : tv (sp i).toNatClampNeg = tv (sq i).toNatClampNeg
        · rw [if_pos z] at h; exact br_t z h
        · rw [if_neg z] at h; exact br_f z h
  · rw [if_neg g] at h
    have hw' : vp_in (sp i) t ∧ vp_in (sq i) t := by
      rcases hw with z | z
      · exact absurd z.1 g
      · exact z.2
    refine br_f g ⟨hin, bb_inm hw'.1 ht, nm_e ⟨hin, bb_inm hw'.2 ht, nm_e ?_⟩⟩
    unfold bb_cmp at h
    by_cases e0 : so i = 0
    · rw [if_pos e0] at h; refine br_t e0 ?_
      by_cases z : vl (sp i).toNatClampNeg = vl (sq i).toNatClampNeg
      · rw [if_pos z] at h; exact br_t z h
      · rw [if_neg z] at h; exact br_f z h
    · rw [if_neg e0] at h; refine br_f e0 ?_
      by_cases e1 : so i = 1
      · rw [if_pos e1] at h; refine br_t e1 ?_
        by_cases z : vl (sq i).toNatClampNeg ≤ vl (sp i).toNatClampNeg
        · rw [if_pos z] at h; exact br_t z h
        · rw [if_neg z] at h; exact br_f z h
      · rw [if_neg e1] at h; refine br_f e1 ?_
        refine by_signed (by_signed ?_)
        by_cases z : bb_sg top (vl (sq i).toNatClampNeg) ≤ bb_sg top (vl (sp i).toNatClampNeg)
        · rw [if_pos z] at h; exact br_t z h
        · rw [if_neg z] at h; exact br_f z h
/-- the reference's arrays hold what the class's rows hold under assignment x -/
def bb_Mt (wd bo vl tv : Nat → Int32) (T S x : Nat) : Prop := (∀ i, i < T → vl i = wd (i * 4096 + x)) ∧ (∀ j, j < S → tv j = bo (j * 4096 + x))
theorem by_workL {post : SY → Prop} {x : Nat} (hx : x < A) (hT : T ≤ 28) (hS : S ≤ 16) (htop : top - 1 = M) : ∀ k t s n, k ≤ T + S → t ≤ T → s ≤ S → bb_H ord (bb_P w A M kd ka kb kc wd bo) (bb_Q A top so sp sq wd bo) k t s →
    (∀ vl' tv', bb_Mt wd bo vl' tv' t s x → wY_work_2 post (nI x) (nI w) top (nI A) (nI T) (nI S) (nI C) (nI (T + S)) n (nI k) ord kd ka kb kc so sp sq ct cs vl' tv') → ∀ vl tv, wY_work_2 post (nI x) (nI w) top (nI A) (nI T) (nI S) (nI C) (nI (T + S)) (n + k) 0 ord kd ka kb kc so sp sq ct cs vl tv := by
  intro k
  induction k with
  | zero =>
    intro t s n _ _ _ hH h vl tv
    have h1 := hH.1
    have h2 := hH.2
    exact h vl tv ⟨fun i hi => by omega, fun i hi => by omega⟩
  | succ k ih =>
    intro t s n hk ht hs hH h vl tv
    rw [show n + (k + 1) = n + 1 + k by omega]
    rcases hH with ⟨t', e, hH, eo, hp, hv⟩ | ⟨s', e, hH, eo, hq, hv⟩
    · subst e
      refine ih t' s (n + 1) (by omega) (by omega) hs hH ?_ vl tv
      intro vl' tv' hm
      rw [wY_work_2]
      refine br_f (nI_ge (by omega) (by omega)) (br_f (nI_ge (b := 44) (by omega) (by decide)) ⟨vp_in_nI (by omega) (by decide), nm_e ?_⟩)
      rw [nI_clamp (by omega), eo]
      refine br_f (nI_ge (b := 100) (by omega) (by decide)) (by_worth (by omega) (by omega) (by omega) hp ?_)
      refine ⟨vp_in_nI (by omega) (by decide), nm_e (nm_r (nI_1 k) ?_)⟩
      rw [nI_clamp (by omega), htop]
      refine h _ _ ⟨fun i hi => ?_, hm.2⟩
      by_cases z : i = t'
      · subst z
        rw [pk_us, hv x hx, bb_valc hp (V := bb_row wd x) (B := bb_row bo x) hm.1 hm.2]
      · rw [pk_un z]; exact hm.1 i (by omega)
    · subst e
      refine ih t s' (n + 1) (by omega) ht (by omega) hH ?_ vl tv
      intro vl' tv' hm
      rw [wY_work_2]
      refine br_f (nI_ge (by omega) (by omega)) (br_f (nI_ge (b := 44) (by omega) (by decide)) ⟨vp_in_nI (by omega) (by decide), nm_e ?_⟩)
      rw [nI_clamp (by omega), eo]
      have e1 : nI (100 + s') - 100 = nI s' := by
        rw [show (100 : Int32) = nI 100 by decide, pk_sub (by omega), Nat.add_sub_cancel_left]
      rw [e1]
      refine br_t (nI_le (a := 100) (by omega) (by omega)) (by_told (by omega) (by omega) (by omega) hq ?_)
      refine ⟨vp_in_nI (by omega) (by decide), nm_e (nm_r (nI_1 k) ?_)⟩
      rw [nI_clamp (by omega), bb_b01 (bb_tv01 _ _ _ _ _ _)]
      refine h _ _ ⟨hm.1, fun i hi => ?_⟩
      by_cases z : i = s'
      · subst z
        rw [pk_us, hv x hx, bb_tvc hq (V := bb_row wd x) (B := bb_row bo x) hm.1 hm.2]
      · rw [pk_un z]; exact hm.2 i (by omega)
theorem by_work {post : SY → Prop} {x : Nat} (hx : x < A) (hT : T ≤ 28) (hS : S ≤ 16) (htop : top - 1 = M) (hH : bb_H ord (bb_P w A M kd ka kb kc wd bo) (bb_Q A top so sp sq wd bo) (T + S) T S)
    (h : ∀ vl' tv', bb_Mt wd bo vl' tv' T S x → post (nI w, top, nI A, nI T, nI S, nI C, nI (T + S), ord, kd, ka, kb, kc, so, sp, sq, ct, cs, vl', tv')) : wpY_work post (nI w, top, nI A, nI T, nI S, nI C, nI (T + S), ord, kd, ka, kb, kc, so, sp, sq, ct, cs, vl, tv) (nI x) := by
  refine ⟨1 + (T + S), by_workL hx hT hS htop (T + S) T S 1 (Nat.le_refl _) (Nat.le_refl _) (Nat.le_refl _) hH ?_ vl tv⟩
  intro vl' tv' hm
  rw [wY_work_2]
  exact br_t (nI_le (Nat.le_refl _) (by omega)) (h _ _ hm)
def bb_Sol (C : Nat) (ct cs bo : Nat → Int32) (x : Nat) : Prop := ∀ i, i < C → bo ((ct i).toNatClampNeg * 4096 + x) = cs i
theorem by_solL {post : Int32 → SY → Prop} {x : Nat} (hC : C ≤ 10) (hS : S ≤ 16) (hct : ∀ i, i < C → vp_in (ct i) S) (hm : bb_Mt wd bo vl tv T S x) (h1 : bb_Sol C ct cs bo x → post 1 (nI w, top, nI A, nI T, nI S, nI C, nI (T + S), ord, kd, ka, kb, kc, so, sp, sq, ct, cs, vl, tv)) (h0 : ¬ bb_Sol C ct cs bo x → post 0 (nI w, top, nI A, nI T, nI S, nI C, nI (T + S), ord, kd, ka, kb, kc, so, sp, sq, ct, cs, vl, tv)) :
    ∀ d i, i + d = C → (∀ i', i' < i → bo ((ct i').toNatClampNeg * 4096 + x) = cs i') → wY_solution_7 post (nI w) top (nI A) (nI T) (nI S) (nI C) (nI (T + S)) ord kd ka kb kc so sp sq ct cs vl tv (d + 1) (nI i) := by
  intro d
  induction d with
  | zero =>
    intro i hi hp
    rw [wY_solution_7]
    have e : i = C := by omega
    subst e
    exact br_t (nI_le (Nat.le_refl _) (by omega)) (h1 hp)
  | succ d ih =>
    intro i hi hp
    rw [wY_solution_7]
    have hv := hct i (by omega)
    refine br_f (nI_ge (by omega) (by omega)) (br_f (nI_ge (b := 10) (by omega) (by decide)) ⟨vp_in_nI (by omega) (by decide), ?_⟩)
    rw [nI_clamp (by omega), hm.2 _ (bb_cl hv)]
    refine ⟨bb_inm hv hS, vp_in_nI (by omega) (by decide), ?_⟩
    by_cases z : bo ((ct i).toNatClampNeg * 4096 + x) = cs i
    · refine br_t z (nm_r (nI_1 i) (ih (i + 1) (by omega) (lt_s hp z)))
    · exact br_f z (h0 fun q => z (q i (by omega)))
theorem by_sol {post : Int32 → SY → Prop} {x : Nat} (hx : x < A) (hT : T ≤ 28) (hS : S ≤ 16) (hC : C ≤ 10) (htop : top - 1 = M) (hH : bb_H ord (bb_P w A M kd ka kb kc wd bo) (bb_Q A top so sp sq wd bo) (T + S) T S) (hct : ∀ i, i < C → vp_in (ct i) S)
    (h1 : bb_Sol C ct cs bo x → ∀ vl' tv', bb_Mt wd bo vl' tv' T S x → post 1 (nI w, top, nI A, nI T, nI S, nI C, nI (T + S), ord, kd, ka, kb, kc, so, sp, sq, ct, cs, vl', tv')) (h0 : ¬ bb_Sol C ct cs bo x → ∀ vl' tv', bb_Mt wd bo vl' tv' T S x → post 0 (nI w, top, nI A, nI T, nI S, nI C, nI (T + S), ord, kd, ka, kb, kc, so, sp, sq, ct, cs, vl', tv')) : wpY_solution post (nI w, top, nI A, nI T, nI S, nI C, nI (T + S), ord, kd, ka, kb, kc, so, sp, sq, ct, cs, vl, tv) (nI x) := by
  unfold wpY_solution; dsimp only
  refine by_work hx hT hS htop hH fun vl' tv' hm => ?_
  exact ⟨C + 1, by_solL hC hS hct hm (fun z => h1 z _ _ hm) (fun z => h0 z _ _ hm) C 0 (by omega) (fun i hi => by omega)⟩
theorem by_badT0 {post : Int32 → Prop} {i : Nat} (hi : i < T) (hT : T ≤ 28) (h : post 0) : wpY_badTerm post (nI w, top, nI A, nI T, nI S, nI C, nI (T + S), ord, kd, ka, kb, kc, so, sp, sq, ct, cs, vl, tv) (nI i) :=
  br_f (nI_pos (by omega)) (br_f (nI_ge hi (by omega)) (br_t (nI_le (b := 27) (by omega) (by decide)) h))
theorem by_badT1 {post : Int32 → Prop} {x : Int32} (hx : ¬ vp_in x T) (hT : T ≤ 28) (h : post 1) : wpY_badTerm post (nI w, top, nI A, nI T, nI S, nI C, nI (T + S), ord, kd, ka, kb, kc, so, sp, sq, ct, cs, vl, tv) x := by
  by_cases z : x < 0
  · exact br_t z h
  · obtain ⟨j, hj, rfl⟩ := nI_of z
    have hj2 : T ≤ j := Nat.le_of_not_lt fun q => hx (vp_in_nI q (by omega))
    exact br_f z (br_t (nI_le hj2 hj) h)
theorem by_badS0 {post : Int32 → Prop} {i : Nat} (hi : i < S) (hS : S ≤ 16) (h : post 0) : wpY_badTest post (nI w, top, nI A, nI T, nI S, nI C, nI (T + S), ord, kd, ka, kb, kc, so, sp, sq, ct, cs, vl, tv) (nI i) :=
  br_f (nI_pos (by omega)) (br_f (nI_ge hi (by omega)) (br_t (nI_le (b := 15) (by omega) (by decide)) h))
theorem by_badS1 {post : Int32 → Prop} {x : Int32} (hx : ¬ vp_in x S) (hS : S ≤ 16) (h : post 1) : wpY_badTest post (nI w, top, nI A, nI T, nI S, nI C, nI (T + S), ord, kd, ka, kb, kc, so, sp, sq, ct, cs, vl, tv) x := by
  by_cases z : x < 0
  · exact br_t z h
  · obtain ⟨j, hj, rfl⟩ := nI_of z
    have hj2 : S ≤ j := Nat.le_of_not_lt fun q => hx (vp_in_nI q (by omega))
    exact br_f z (br_t (nI_le hj2 hj) h)
theorem by_badN0 {post : Int32 → Prop} {i : Nat} (hi : i < A) (hA : A ≤ 4096) (h : post 0) : wpY_badNumber post (nI w, top, nI A, nI T, nI S, nI C, nI (T + S), ord, kd, ka, kb, kc, so, sp, sq, ct, cs, vl, tv) (nI i) :=
  br_f (nI_pos (by omega)) (br_t (nI_lt hi (by omega)) h)
theorem by_badN1 {post : Int32 → Prop} {x : Int32} (hx : ¬ vp_in x A) (hA : A ≤ 4096) (h : post 1) : wpY_badNumber post (nI w, top, nI A, nI T, nI S, nI C, nI (T + S), ord, kd, ka, kb, kc, so, sp, sq, ct, cs, vl, tv) x := by
  by_cases z : x < 0
  · exact br_t z h
  · obtain ⟨j, hj, rfl⟩ := nI_of z
    have hj2 : A ≤ j := Nat.le_of_not_lt fun q => hx (vp_in_nI q (by omega))
    exact br_f z (br_f (nI_nlt hj2 hj) h)
theorem by_term {post : Int32 → SY → Prop} {k x y z : Int32} (hT : T < 28) (hS : S ≤ 16) (h : post (nI T) (nI w, top, nI A, nI (T + 1), nI S, nI C, nI (T + S + 1), upd ord (T + S) (nI T), upd kd T k, upd ka T x, upd kb T y, upd kc T z, so, sp, sq, ct, cs, vl, tv)) : wpY_term post (nI w, top, nI A, nI T, nI S, nI C, nI (T + S), ord, kd, ka, kb, kc, so, sp, sq, ct, cs, vl, tv) k x y z := by
  have hin : vp_in (nI T) 28 := vp_in_nI hT (by decide)
  unfold wpY_term; dsimp only
  rw [nI_clamp (show T < 2 ^ 31 by omega), nI_clamp (show T + S < 2 ^ 31 by omega)]
  exact br_t (nI_le (b := 27) (by omega) (by decide)) ⟨hin, nm_e ⟨hin, nm_e ⟨hin, nm_e ⟨hin, nm_e ⟨vp_in_nI (by omega) (by decide), nm_e (nm_r (nI_1 _) (nm_r (nI_1 _) h))⟩⟩⟩⟩⟩
theorem by_termF {post : Int32 → SY → Prop} {k x y z : Int32} (hT : T = 28) (h : post (-2) (nI w, top, nI A, nI T, nI S, nI C, nI (T + S), ord, kd, ka, kb, kc, so, sp, sq, ct, cs, vl, tv)) : wpY_term post (nI w, top, nI A, nI T, nI S, nI C, nI (T + S), ord, kd, ka, kb, kc, so, sp, sq, ct, cs, vl, tv) k x y z := by
  subst hT
  exact br_f (by decide) h
theorem by_test {post : Int32 → SY → Prop} {k x y : Int32} (hT : T ≤ 28) (hS : S < 16) (h : post (nI S) (nI w, top, nI A, nI T, nI (S + 1), nI C, nI (T + S + 1), upd ord (T + S) (nI (100 + S)), kd, ka, kb, kc, upd so S k, upd sp S x, upd sq S y, ct, cs, vl, tv)) : wpY_test post (nI w, top, nI A, nI T, nI S, nI C, nI (T + S), ord, kd, ka, kb, kc, so, sp, sq, ct, cs, vl, tv) k x y := by
  have hin : vp_in (nI S) 16 := vp_in_nI hS (by decide)
  unfold wpY_test; dsimp only
  rw [nI_clamp (show S < 2 ^ 31 by omega), nI_clamp (show T + S < 2 ^ 31 by omega), show (100 : Int32) = nI 100 by decide, nI_add]
  exact br_t (nI_le (b := 15) (by omega) (by decide)) ⟨hin, nm_e ⟨hin, nm_e ⟨hin, nm_e ⟨vp_in_nI (by omega) (by decide), nm_e (nm_r (nI_1 _) (nm_r (nI_1 _) h))⟩⟩⟩⟩
end
