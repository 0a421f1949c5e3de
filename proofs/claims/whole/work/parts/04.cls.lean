section
variable {w A T S C : Nat} {M top : Int32} {wd bo ct cs ord kd ka kb kc so sp sq vl tv : Nat → Int32}
theorem bx_word {post : Int32 → Prop} {i x : Nat} (hi : i < 28) (hx : x < 4096) (h : post (wd (i * 4096 + x))) : wpX_wordAt post (nI w, M, nI A, nI T, nI S, nI C, wd, bo, ct, cs, 114688, 65536) (nI i) (nI x) := by
  unfold wpX_wordAt; dsimp only
  rw [bb_ixc hi hx]
  exact ⟨bb_inW hi hx, h⟩
theorem bx_truth {post : Int32 → Prop} {i x : Nat} (hi : i < 16) (hx : x < 4096) (hb : bo (i * 4096 + x) = 0 ∨ bo (i * 4096 + x) = 1) (h : post (bo (i * 4096 + x))) : wpX_truthAt post (nI w, M, nI A, nI T, nI S, nI C, wd, bo, ct, cs, 114688, 65536) (nI i) (nI x) := by
  unfold wpX_truthAt; dsimp only
  rw [bb_ixc (by omega) hx]
  exact ⟨bb_inB hi hx, bb_n01 hb, h⟩
theorem bx_setW {post : SX → Prop} {x : Nat} {v : Int32} (hT : T < 28) (hx : x < 4096) (hM : ∀ v, vp_nar .byte ((v &&& M).toInt8.toInt32) = v &&& M) (h : post (nI w, M, nI A, nI T, nI S, nI C, upd wd (T * 4096 + x) (v &&& M), bo, ct, cs, 114688, 65536)) : wpX_setNewWord post (nI w, M, nI A, nI T, nI S, nI C, wd, bo, ct, cs, 114688, 65536) (nI x) v := by
  unfold wpX_setNewWord; dsimp only
  rw [bb_ixc hT hx, hM v]
  exact ⟨bb_inW hT hx, nm_e h⟩
theorem bx_setB {post : SX → Prop} {x : Nat} {v : Int32} (hS : S < 16) (hx : x < 4096) (hv : v = 0 ∨ v = 1) (h : post (nI w, M, nI A, nI T, nI S, nI C, wd, upd bo (S * 4096 + x) v, ct, cs, 114688, 65536)) : wpX_setNewTruth post (nI w, M, nI A, nI T, nI S, nI C, wd, bo, ct, cs, 114688, 65536) (nI x) v := by
  unfold wpX_setNewTruth; dsimp only
  rw [bb_ixc (by omega) hx, bb_b01 hv]
  exact ⟨bb_inB hS hx, nm_e h⟩
theorem bx_addT {post : Int32 → SX → Prop} (h : post (nI T) (nI w, M, nI A, nI (T + 1), nI S, nI C, wd, bo, ct, cs, 114688, 65536)) : wpX_addTerm post (nI w, M, nI A, nI T, nI S, nI C, wd, bo, ct, cs, 114688, 65536) := by
  unfold wpX_addTerm; dsimp only
  refine nm_r (nI_1 T) ?_
  rw [nI_pred]; exact h
theorem bx_addS {post : Int32 → SX → Prop} (h : post (nI S) (nI w, M, nI A, nI T, nI (S + 1), nI C, wd, bo, ct, cs, 114688, 65536)) : wpX_addTest post (nI w, M, nI A, nI T, nI S, nI C, wd, bo, ct, cs, 114688, 65536) := by
  unfold wpX_addTest; dsimp only
  refine nm_r (nI_1 S) ?_
  rw [nI_pred]; exact h
theorem bx_isT1 {post : Int32 → Prop} {i : Nat} (hi : i < T) (hT : T ≤ 28) (h : post 1) : wpX_isTerm post (nI w, M, nI A, nI T, nI S, nI C, wd, bo, ct, cs, 114688, 65536) (nI i) :=
  br_f (nI_pos (by omega)) (br_f (nI_ge hi (by omega)) h)
theorem bx_isT0 {post : Int32 → Prop} {x : Int32} (hx : ¬ vp_in x T) (hT : T ≤ 28) (h : post 0) : wpX_isTerm post (nI w, M, nI A, nI T, nI S, nI C, wd, bo, ct, cs, 114688, 65536) x := by
  by_cases z : x < 0
  · exact br_t z h
  · obtain ⟨j, hj, rfl⟩ := nI_of z
    have hj2 : T ≤ j := Nat.le_of_not_lt fun q => hx (vp_in_nI q (by omega))
    exact br_f z (br_t (nI_le hj2 hj) h)
theorem bx_isS1 {post : Int32 → Prop} {i : Nat} (hi : i < S) (hS : S ≤ 16) (h : post 1) : wpX_isTest post (nI w, M, nI A, nI T, nI S, nI C, wd, bo, ct, cs, 114688, 65536) (nI i) :=
  br_f (nI_pos (by omega)) (br_f (nI_ge hi (by omega)) h)
theorem bx_isS0 {post : Int32 → Prop} {x : Int32} (hx : ¬ vp_in x S) (hS : S ≤ 16) (h : post 0) : wpX_isTest post (nI w, M, nI A, nI T, nI S, nI C, wd, bo, ct, cs, 114688, 65536) x := by
  by_cases z : x < 0
  · exact br_t z h
  · obtain ⟨j, hj, rfl⟩ := nI_of z
    have hj2 : S ≤ j := Nat.le_of_not_lt fun q => hx (vp_in_nI q (by omega))
    exact br_f z (br_t (nI_le hj2 hj) h)
theorem bx_isA1 {post : Int32 → Prop} {i : Nat} (hi : i < A) (hA : A ≤ 4096) (h : post 1) : wpX_isAssignment post (nI w, M, nI A, nI T, nI S, nI C, wd, bo, ct, cs, 114688, 65536) (nI i) :=
  br_f (nI_pos (by omega)) (br_f (nI_ge hi (by omega)) h)
theorem bx_isA0 {post : Int32 → Prop} {x : Int32} (hx : ¬ vp_in x A) (hA : A ≤ 4096) (h : post 0) : wpX_isAssignment post (nI w, M, nI A, nI T, nI S, nI C, wd, bo, ct, cs, 114688, 65536) x := by
  by_cases z : x < 0
  · exact br_t z h
  · obtain ⟨j, hj, rfl⟩ := nI_of z
    have hj2 : A ≤ j := Nat.le_of_not_lt fun q => hx (vp_in_nI q (by omega))
    exact br_f z (br_t (nI_le hj2 hj) h)
theorem bx_solL {post : Int32 → Prop} {x : Nat} (hx : x < A) (hA : A ≤ 4096) (hC : C ≤ 10) (hS : S ≤ 16) (hct : ∀ i, i < C → vp_in (ct i) S) (hb : ∀ j, j < S → ∀ x, x < A → bo (j * 4096 + x) = 0 ∨ bo (j * 4096 + x) = 1) (h1 : bb_Sol C ct cs bo x → post 1) (h0 : ¬ bb_Sol C ct cs bo x → post 0) :
    ∀ d i, i + d = C → (∀ i', i' < i → bo ((ct i').toNatClampNeg * 4096 + x) = cs i') → wX_isSolution_2 post (nI x) (nI w) M (nI A) (nI T) (nI S) (nI C) wd bo ct cs 114688 65536 (d + 1) (nI i) := by
  intro d
  induction d with
  | zero =>
    intro i hi hp
    rw [wX_isSolution_2]
    have e : i = C := by omega
    subst e
    exact br_t (nI_le (Nat.le_refl _) (by omega)) (h1 hp)
  | succ d ih =>
    intro i hi hp
    rw [wX_isSolution_2]
    obtain ⟨j, hj, e⟩ := vp_in_of (hct i (by omega)) (by omega)
    refine br_f (nI_ge (by omega) (by omega)) ⟨vp_in_nI (by omega) (by decide), ?_⟩
    rw [nI_clamp (by omega), e]
    refine bx_truth (by omega) (by omega) (hb j hj x hx) ⟨vp_in_nI (by omega) (by decide), ?_⟩
    have e2 : (ct i).toNatClampNeg = j := by rw [e, nI_clamp (by omega)]
    by_cases z : bo (j * 4096 + x) = cs i
    · refine br_t z (nm_r (nI_1 i) (ih (i + 1) (by omega) (lt_s hp (by rw [e2]; exact z))))
    · exact br_f z (h0 fun q => z (by have := q i (by omega); rwa [e2] at this))
theorem bx_sol {post : Int32 → Prop} {x : Nat} (hx : x < A) (hA : A ≤ 4096) (hC : C ≤ 10) (hS : S ≤ 16) (hct : ∀ i, i < C → vp_in (ct i) S) (hb : ∀ j, j < S → ∀ x, x < A → bo (j * 4096 + x) = 0 ∨ bo (j * 4096 + x) = 1) (h1 : bb_Sol C ct cs bo x → post 1) (h0 : ¬ bb_Sol C ct cs bo x → post 0) : wpX_isSolution post (nI w, M, nI A, nI T, nI S, nI C, wd, bo, ct, cs, 114688, 65536) (nI x) :=
  ⟨C + 1, bx_solL hx hA hC hS hct hb h1 h0 C 0 (by omega) (fun i hi => by omega)⟩
theorem bx_comb {post : Int32 → Prop} {x y : Int32} : ∀ j, j ≤ 5 → post (bb_join (nI j) x y) → wpX_combineWords post (nI j) x y
  | 0, _, h => br_f (by decide) (br_f (by decide) (br_t (by decide) h))
  | 1, _, h => br_f (by decide) (br_f (by decide) (br_f (by decide) (br_t (by decide) h)))
  | 2, _, h => br_f (by decide) (br_f (by decide) (br_f (by decide) (br_f (by decide) (br_t (by decide) h))))
  | 3, _, h => br_f (by decide) (br_f (by decide) (br_f (by decide) (br_f (by decide) (br_f (by decide) (br_t (by decide) h)))))
  | 4, _, h => br_f (by decide) (br_f (by decide) (br_f (by decide) (br_f (by decide) (br_f (by decide) (br_f (by decide) (br_t (by decide) h))))))
  | 5, _, h => br_f (by decide) (br_t (by decide) h)
  | n + 6, hn, _ => absurd hn (by omega)
theorem bx_con {post : Int32 → Prop} {x y : Int32} : ∀ j, j ≤ 2 → post (bb_con (nI j + 3) x y) → wpX_connectTruths post (nI j) x y
  | 0, _, h => by
    refine br_t (by decide) ?_
    have h' : post (if x = 0 then 0 else if y = 0 then 0 else 1) := h
    by_cases x0 : x = 0
    · rw [if_pos x0] at h'; exact br_t x0 h'
    · rw [if_neg x0] at h'; refine br_f x0 ?_
      by_cases y0 : y = 0
      · rw [if_pos y0] at h'; exact br_t y0 h'
      · rw [if_neg y0] at h'; exact br_f y0 h'
  | 1, _, h => by
    refine br_f (by decide) (br_t (by decide) ?_)
    have h' : post (if x = 0 then (if y = 0 then 0 else 1) else 1) := h
    by_cases x0 : x = 0
    · rw [if_pos x0] at h'; refine br_t x0 ?_
      by_cases y0 : y = 0
      · rw [if_pos y0] at h'; exact br_t y0 h'
      · rw [if_neg y0] at h'; exact br_f y0 h'
    · rw [if_neg x0] at h'; exact br_f x0 h'
  | 2, _, h => by
    refine br_f (by decide) (br_f (by decide) ?_)
    have h' : post (if x = y then 0 else 1) := h
    by_cases z : x = y
    · rw [if_pos z] at h'; exact br_t z h'
    · rw [if_neg z] at h'; exact br_f z h'
  | n + 3, hn, _ => absurd hn (by omega)
theorem bb_sgn : ∀ w, w < 5 → 1 ≤ w → ∀ j, j < 16 → (nI j < (1 : Int32) <<< ((nI w - 1) &&& 31) ↔ 2 * nI j < nI (2 ^ w)) := by decide +kernel
theorem bb_mk1 : ∀ w, w < 5 → nI (2 ^ w - 1) + 1 = nI (2 ^ w) := by decide +kernel
theorem bx_signed {post : Int32 → Prop} {j : Nat} (hw1 : 1 ≤ w) (hw : w ≤ 4) (hj : j < 2 ^ w) (h : post (bb_sg (nI (2 ^ w)) (nI j))) : wpX_signed post (nI w, nI (2 ^ w - 1), nI A, nI T, nI S, nI C, wd, bo, ct, cs, 114688, 65536) (nI j) := by
  have hj2 : j < 16 := Nat.lt_of_lt_of_le hj (bb_p16 hw)
  unfold wpX_signed; dsimp only
  refine nm_e ?_
  rw [bb_sgn w (by omega) hw1 j hj2, bb_mk1 w (by omega)]
  unfold bb_sg at h
  by_cases z : 2 * nI j < nI (2 ^ w)
  · rw [if_pos z] at h; exact br_t z h
  · rw [if_neg z] at h; exact br_f z h
theorem bx_cmp {post : Int32 → Prop} {i j : Nat} {k : Int32} (hw1 : 1 ≤ w) (hw : w ≤ 4) (hi : i < 2 ^ w) (hj : j < 2 ^ w) (h : post (bb_cmp (nI (2 ^ w)) k (nI i) (nI j))) : wpX_compareWords post (nI w, nI (2 ^ w - 1), nI A, nI T, nI S, nI C, wd, bo, ct, cs, 114688, 65536) k (nI i) (nI j) := by
  unfold bb_cmp at h
  by_cases e0 : k = 0
  · rw [if_pos e0] at h; refine br_t e0 ?_
    by_cases z : nI i = nI j
    · rw [if_pos z] at h; exact br_t z h
    · rw [if_neg z] at h; exact br_f z h
  · rw [if_neg e0] at h; refine br_f e0 ?_
    by_cases e1 : k = 1
    · rw [if_pos e1] at h; refine br_t e1 ?_
      by_cases z : nI j ≤ nI i
      · rw [if_pos z] at h; exact br_t z h
      · rw [if_neg z] at h; exact br_f z h
    · rw [if_neg e1] at h; refine br_f e1 ?_
      refine bx_signed hw1 hw hi (bx_signed hw1 hw hj ?_)
      by_cases z : bb_sg (nI (2 ^ w)) (nI j) ≤ bb_sg (nI (2 ^ w)) (nI i)
      · rw [if_pos z] at h; exact br_t z h
      · rw [if_neg z] at h; exact br_f z h
end
