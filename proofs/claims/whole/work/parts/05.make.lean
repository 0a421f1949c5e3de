section
variable {w A T S C : Nat} {M top : Int32} {wd bo ct cs g : Nat → Int32}
theorem bx_variable {post : Int32 → SX → Prop} {sh : Int32} (hT : T < 28) (hA : A ≤ 4096) (hM : ∀ v, vp_nar .byte ((v &&& M).toInt8.toInt32) = v &&& M) (hg : ∀ x, x < A → g x = (nI x >>> (sh &&& 31)) &&& M) (h : post (nI T) (nI w, M, nI A, nI (T + 1), nI S, nI C, bb_fill wd g T A, bo, ct, cs, 114688, 65536)) :
    ∀ d n, n + d = A → wX_variable_34 post sh (d + 1) (nI n) (nI w) M (nI A) (nI T) (nI S) (nI C) (bb_fill wd g T n) bo ct cs 114688 65536 := by
  intro d
  induction d with
  | zero =>
    intro n hn
    have e : n = A := by omega
    subst e
    rw [wX_variable_34]
    exact br_t (nI_le (Nat.le_refl _) (by omega)) (bx_addT h)
  | succ d ih =>
    intro n hn
    rw [wX_variable_34]
    refine br_f (nI_ge (by omega) (by omega)) (bx_setW hT (by omega) hM ?_)
    refine nm_r (nI_1 n) ?_
    rw [← hg n (by omega), bb_fillS]
    exact ih (n + 1) (by omega)
theorem bx_constant {post : Int32 → SX → Prop} {v : Int32} (hT : T < 28) (hA : A ≤ 4096) (hM : ∀ v, vp_nar .byte ((v &&& M).toInt8.toInt32) = v &&& M) (hg : ∀ x, x < A → g x = v &&& M) (h : post (nI T) (nI w, M, nI A, nI (T + 1), nI S, nI C, bb_fill wd g T A, bo, ct, cs, 114688, 65536)) :
    ∀ d n, n + d = A → wX_constant_14 post v (d + 1) (nI n) (nI w) M (nI A) (nI T) (nI S) (nI C) (bb_fill wd g T n) bo ct cs 114688 65536 := by
  intro d
  induction d with
  | zero =>
    intro n hn
    have e : n = A := by omega
    subst e
    rw [wX_constant_14]
    exact br_t (nI_le (Nat.le_refl _) (by omega)) (bx_addT h)
  | succ d ih =>
    intro n hn
    rw [wX_constant_14]
    refine br_f (nI_ge (by omega) (by omega)) (bx_setW hT (by omega) hM ?_)
    refine nm_r (nI_1 n) ?_
    rw [← hg n (by omega), bb_fillS]
    exact ih (n + 1) (by omega)
theorem bx_combine {post : Int32 → SX → Prop} {k i j : Nat} (hk : k ≤ 5) (hi : i < T) (hj : j < T) (hT : T < 28) (hA : A ≤ 4096) (hM : ∀ v, vp_nar .byte ((v &&& M).toInt8.toInt32) = v &&& M) (hg : ∀ x, x < A → g x = bb_join (nI k) (wd (i * 4096 + x)) (wd (j * 4096 + x)) &&& M) (h : post (nI T) (nI w, M, nI A, nI (T + 1), nI S, nI C, bb_fill wd g T A, bo, ct, cs, 114688, 65536)) :
    ∀ d n, n + d = A → wX_combine_45 post (nI k) (nI i) (nI j) (d + 1) (nI n) (nI w) M (nI A) (nI T) (nI S) (nI C) (bb_fill wd g T n) bo ct cs 114688 65536 := by
  intro d
  induction d with
  | zero =>
    intro n hn
    have e : n = A := by omega
    subst e
    rw [wX_combine_45]
    exact br_t (nI_le (Nat.le_refl _) (by omega)) (bx_addT h)
  | succ d ih =>
    intro n hn
    rw [wX_combine_45]
    refine br_f (nI_ge (by omega) (by omega)) (bx_word (by omega) (by omega) (bx_word (by omega) (by omega) (bx_comb k hk (bx_setW hT (by omega) hM ?_))))
    refine nm_r (nI_1 n) ?_
    rw [bb_fillL hi (by omega), bb_fillL hj (by omega), ← hg n (by omega), bb_fillS]
    exact ih (n + 1) (by omega)
theorem bx_invert {post : Int32 → SX → Prop} {i : Nat} (hi : i < T) (hT : T < 28) (hA : A ≤ 4096) (hM : ∀ v, vp_nar .byte ((v &&& M).toInt8.toInt32) = v &&& M) (hg : ∀ x, x < A → g x = (wd (i * 4096 + x) ^^^ (-1)) &&& M) (h : post (nI T) (nI w, M, nI A, nI (T + 1), nI S, nI C, bb_fill wd g T A, bo, ct, cs, 114688, 65536)) :
    ∀ d n, n + d = A → wX_invert_25 post (nI i) (d + 1) (nI n) (nI w) M (nI A) (nI T) (nI S) (nI C) (bb_fill wd g T n) bo ct cs 114688 65536 := by
  intro d
  induction d with
  | zero =>
    intro n hn
    have e : n = A := by omega
    subst e
    rw [wX_invert_25]
    exact br_t (nI_le (Nat.le_refl _) (by omega)) (bx_addT h)
  | succ d ih =>
    intro n hn
    rw [wX_invert_25]
    refine br_f (nI_ge (by omega) (by omega)) (bx_word (by omega) (by omega) (bx_setW hT (by omega) hM ?_))
    refine nm_r (nI_1 n) ?_
    rw [bb_fillL hi (by omega), ← hg n (by omega), bb_fillS]
    exact ih (n + 1) (by omega)
theorem bx_shift {post : Int32 → SX → Prop} {i : Nat} {b : Int32} (hi : i < T) (hT : T < 28) (hA : A ≤ 4096) (hM : ∀ v, vp_nar .byte ((v &&& M).toInt8.toInt32) = v &&& M) (hg : ∀ x, x < A → g x = (if b < 0 then wd (i * 4096 + x) >>> ((-b) &&& 31) else wd (i * 4096 + x) <<< (b &&& 31)) &&& M) (h : post (nI T) (nI w, M, nI A, nI (T + 1), nI S, nI C, bb_fill wd g T A, bo, ct, cs, 114688, 65536)) :
    ∀ d n, n + d = A → wX_shift_38 post (nI i) b (d + 1) (nI n) (nI w) M (nI A) (nI T) (nI S) (nI C) (bb_fill wd g T n) bo ct cs 114688 65536 := by
  intro d
  induction d with
  | zero =>
    intro n hn
    have e : n = A := by omega
    subst e
    rw [wX_shift_38]
    exact br_t (nI_le (Nat.le_refl _) (by omega)) (bx_addT h)
  | succ d ih =>
    intro n hn
    rw [wX_shift_38]
    refine br_f (nI_ge (by omega) (by omega)) (bx_word (by omega) (by omega) ?_)
    have hgn := hg n (by omega)
    by_cases z : b < 0
    · refine br_t z ?_
      unfold wX_shift_72
      refine bx_setW hT (by omega) hM (nm_r (nI_1 n) ?_)
      rw [if_pos z] at hgn
      rw [bb_fillL hi (by omega), ← hgn, bb_fillS]
      exact ih (n + 1) (by omega)
    · refine br_f z ?_
      unfold wX_shift_72
      refine bx_setW hT (by omega) hM (nm_r (nI_1 n) ?_)
      rw [if_neg z] at hgn
      rw [bb_fillL hi (by omega), ← hgn, bb_fillS]
      exact ih (n + 1) (by omega)
theorem bx_choose {post : Int32 → SX → Prop} {s i j : Nat} (hs : s < S) (hS : S ≤ 16) (hi : i < T) (hj : j < T) (hT : T < 28) (hA : A ≤ 4096) (hb : ∀ j, j < S → ∀ x, x < A → bo (j * 4096 + x) = 0 ∨ bo (j * 4096 + x) = 1) (hM : ∀ v, vp_nar .byte ((v &&& M).toInt8.toInt32) = v &&& M) (hg : ∀ x, x < A → g x = (if bo (s * 4096 + x) = 0 then wd (j * 4096 + x) else wd (i * 4096 + x)) &&& M) (h : post (nI T) (nI w, M, nI A, nI (T + 1), nI S, nI C, bb_fill wd g T A, bo, ct, cs, 114688, 65536)) :
    ∀ d n, n + d = A → wX_choose_44 post (nI s) (nI i) (nI j) (d + 1) (nI n) (nI w) M (nI A) (nI T) (nI S) (nI C) (bb_fill wd g T n) bo ct cs 114688 65536 := by
  intro d
  induction d with
  | zero =>
    intro n hn
    have e : n = A := by omega
    subst e
    rw [wX_choose_44]
    exact br_t (nI_le (Nat.le_refl _) (by omega)) (bx_addT h)
  | succ d ih =>
    intro n hn
    rw [wX_choose_44]
    refine br_f (nI_ge (by omega) (by omega)) (bx_truth (by omega) (by omega) (hb s hs n (by omega)) ?_)
    have hgn := hg n (by omega)
    by_cases z : bo (s * 4096 + n) = 0
    · refine br_t z ?_
      unfold wX_choose_68
      refine bx_word (by omega) (by omega) (bx_setW hT (by omega) hM (nm_r (nI_1 n) ?_))
      rw [if_pos z] at hgn
      rw [bb_fillL hj (by omega), ← hgn, bb_fillS]
      exact ih (n + 1) (by omega)
    · refine br_f z ?_
      unfold wX_choose_68
      refine bx_word (by omega) (by omega) (bx_setW hT (by omega) hM (nm_r (nI_1 n) ?_))
      rw [if_neg z] at hgn
      rw [bb_fillL hi (by omega), ← hgn, bb_fillS]
      exact ih (n + 1) (by omega)
theorem bx_compare {post : Int32 → SX → Prop} {i j : Nat} {k : Int32} (hw1 : 1 ≤ w) (hw : w ≤ 4) (hi : i < T) (hj : j < T) (hT : T ≤ 28) (hS : S < 16) (hA : A ≤ 4096) (hr : ∀ i, i < T → ∀ x, x < A → ∃ v, v < 2 ^ w ∧ wd (i * 4096 + x) = nI v) (hg : ∀ x, x < A → g x = bb_cmp (nI (2 ^ w)) k (wd (i * 4096 + x)) (wd (j * 4096 + x))) (h : post (nI S) (nI w, nI (2 ^ w - 1), nI A, nI T, nI (S + 1), nI C, wd, bb_fill bo g S A, ct, cs, 114688, 65536)) :
    ∀ d n, n + d = A → wX_compare_45 post k (nI i) (nI j) (d + 1) (nI n) (nI w) (nI (2 ^ w - 1)) (nI A) (nI T) (nI S) (nI C) wd (bb_fill bo g S n) ct cs 114688 65536 := by
  intro d
  induction d with
  | zero =>
    intro n hn
    have e : n = A := by omega
    subst e
    rw [wX_compare_45]
    exact br_t (nI_le (Nat.le_refl _) (by omega)) (bx_addS h)
  | succ d ih =>
    intro n hn
    rw [wX_compare_45]
    obtain ⟨a, ha, ea⟩ := hr i hi n (by omega)
    obtain ⟨b, hb, eb⟩ := hr j hj n (by omega)
    refine br_f (nI_ge (by omega) (by omega)) (bx_word (by omega) (by omega) (bx_word (by omega) (by omega) ?_))
    have hgn := hg n (by omega)
    rw [ea, eb] at hgn
    rw [ea, eb]
    refine bx_cmp hw1 hw ha hb (bx_setB hS (by omega) (bb_cmp01 _ _ _ _) (nm_r (nI_1 n) ?_))
    rw [← hgn, bb_fillS]
    exact ih (n + 1) (by omega)
theorem bx_connect {post : Int32 → SX → Prop} {k i j : Nat} (hk : k ≤ 2) (hi : i < S) (hj : j < S) (hS : S < 16) (hA : A ≤ 4096) (hb : ∀ j, j < S → ∀ x, x < A → bo (j * 4096 + x) = 0 ∨ bo (j * 4096 + x) = 1) (hg : ∀ x, x < A → g x = bb_con (nI k + 3) (bo (i * 4096 + x)) (bo (j * 4096 + x))) (h : post (nI S) (nI w, M, nI A, nI T, nI (S + 1), nI C, wd, bb_fill bo g S A, ct, cs, 114688, 65536)) :
    ∀ d n, n + d = A → wX_connect_45 post (nI k) (nI i) (nI j) (d + 1) (nI n) (nI w) M (nI A) (nI T) (nI S) (nI C) wd (bb_fill bo g S n) ct cs 114688 65536 := by
  intro d
  induction d with
  | zero =>
    intro n hn
    have e : n = A := by omega
    subst e
    rw [wX_connect_45]
    exact br_t (nI_le (Nat.le_refl _) (by omega)) (bx_addS h)
  | succ d ih =>
    intro n hn
    rw [wX_connect_45]
    have e1 : bb_fill bo g S n (i * 4096 + n) = bo (i * 4096 + n) := bb_fillL hi (by omega)
    have e2 : bb_fill bo g S n (j * 4096 + n) = bo (j * 4096 + n) := bb_fillL hj (by omega)
    refine br_f (nI_ge (by omega) (by omega)) (bx_truth (by omega) (by omega) (by rw [e1]; exact hb i hi n (by omega)) (bx_truth (by omega) (by omega) (by rw [e2]; exact hb j hj n (by omega)) (bx_con k hk ?_)))
    rw [e1, e2]
    refine bx_setB hS (by omega) (bb_con01 _ _ _) (nm_r (nI_1 n) ?_)
    rw [← hg n (by omega), bb_fillS]
    exact ih (n + 1) (by omega)
end
