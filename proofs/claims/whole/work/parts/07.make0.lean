section
variable {w A T S C : Nat} {M top : Int32} {wd bo ct cs : Nat → Int32}
theorem bx_variable0 {post : Int32 → SX → Prop} (g : Nat → Int32) {sh : Int32} (hT : T < 28) (hA : A ≤ 4096) (hM : ∀ v, vp_nar .byte ((v &&& M).toInt8.toInt32) = v &&& M) (hg : ∀ x, x < A → g x = (nI x >>> (sh &&& 31)) &&& M) (h : post (nI T) (nI w, M, nI A, nI (T + 1), nI S, nI C, bb_fill wd g T A, bo, ct, cs, 114688, 65536)) : wX_variable_34 post sh (A + 1) 0 (nI w) M (nI A) (nI T) (nI S) (nI C) wd bo ct cs 114688 65536 := by
  have z := bx_variable (g := g) hT hA hM hg h A 0 (by omega)
  rw [bb_fill0] at z
  exact z
theorem bx_constant0 {post : Int32 → SX → Prop} (g : Nat → Int32) {v : Int32} (hT : T < 28) (hA : A ≤ 4096) (hM : ∀ v, vp_nar .byte ((v &&& M).toInt8.toInt32) = v &&& M) (hg : ∀ x, x < A → g x = v &&& M) (h : post (nI T) (nI w, M, nI A, nI (T + 1), nI S, nI C, bb_fill wd g T A, bo, ct, cs, 114688, 65536)) : wX_constant_14 post v (A + 1) 0 (nI w) M (nI A) (nI T) (nI S) (nI C) wd bo ct cs 114688 65536 := by
  have z := bx_constant (g := g) hT hA hM hg h A 0 (by omega)
  rw [bb_fill0] at z
  exact z
theorem bx_combine0 {post : Int32 → SX → Prop} (g : Nat → Int32) {k i j : Nat} (hk : k ≤ 5) (hi : i < T) (hj : j < T) (hT : T < 28) (hA : A ≤ 4096) (hM : ∀ v, vp_nar .byte ((v &&& M).toInt8.toInt32) = v &&& M) (hg : ∀ x, x < A → g x = bb_join (nI k) (wd (i * 4096 + x)) (wd (j * 4096 + x)) &&& M) (h : post (nI T) (nI w, M, nI A, nI (T + 1), nI S, nI C, bb_fill wd g T A, bo, ct, cs, 114688, 65536)) : wX_combine_45 post (nI k) (nI i) (nI j) (A + 1) 0 (nI w) M (nI A) (nI T) (nI S) (nI C) wd bo ct cs 114688 65536 := by
  have z := bx_combine (g := g) hk hi hj hT hA hM hg h A 0 (by omega)
  rw [bb_fill0] at z
  exact z
theorem bx_invert0 {post : Int32 → SX → Prop} (g : Nat → Int32) {i : Nat} (hi : i < T) (hT : T < 28) (hA : A ≤ 4096) (hM : ∀ v, vp_nar .byte ((v &&& M).toInt8.toInt32) = v &&& M) (hg : ∀ x, x < A → g x = (wd (i * 4096 + x) ^^^ (-1)) &&& M) (h : post (nI T) (nI w, M, nI A, nI (T + 1), nI S, nI C, bb_fill wd g T A, bo, ct, cs, 114688, 65536)) : wX_invert_25 post (nI i) (A + 1) 0 (nI w) M (nI A) (nI T) (nI S) (nI C) wd bo ct cs 114688 65536 := by
  have z := bx_invert (g := g) hi hT hA hM hg h A 0 (by omega)
  rw [bb_fill0] at z
  exact z
theorem bx_shift0 {post : Int32 → SX → Prop} (g : Nat → Int32) {i : Nat} {b : Int32} (hi : i < T) (hT : T < 28) (hA : A ≤ 4096) (hM : ∀ v, vp_nar .byte ((v &&& M).toInt8.toInt32) = v &&& M) (hg : ∀ x, x < A → g x = (if b < 0 then wd (i * 4096 + x) >>> ((-b) &&& 31) else wd (i * 4096 + x) <<< (b &&& 31)) &&& M) (h : post (nI T) (nI w, M, nI A, nI (T + 1), nI S, nI C, bb_fill wd g T A, bo, ct, cs, 114688, 65536)) : wX_shift_38 post (nI i) b (A + 1) 0 (nI w) M (nI A) (nI T) (nI S) (nI C) wd bo ct cs 114688 65536 := by
  have z := bx_shift (g := g) hi hT hA hM hg h A 0 (by omega)
  rw [bb_fill0] at z
  exact z
theorem bx_choose0 {post : Int32 → SX → Prop} (g : Nat → Int32) {s i j : Nat} (hs : s < S) (hS : S ≤ 16) (hi : i < T) (hj : j < T) (hT : T < 28) (hA : A ≤ 4096) (hb : ∀ j, j < S → ∀ x, x < A → bo (j * 4096 + x) = 0 ∨ bo (j * 4096 + x) = 1) (hM : ∀ v, vp_nar .byte ((v &&& M).toInt8.toInt32) = v &&& M) (hg : ∀ x, x < A → g x = (if bo (s * 4096 + x) = 0 then wd (j * 4096 + x) else wd (i * 4096 + x)) &&& M) (h : post (nI T) (nI w, M, nI A, nI (T + 1), nI S, nI C, bb_fill wd g T A, bo, ct, cs, 114688, 65536)) : wX_choose_44 post (nI s) (nI i) (nI j) (A + 1) 0 (nI w) M (nI A) (nI T) (nI S) (nI C) wd bo ct cs 114688 65536 := by
  have z := bx_choose (g := g) hs hS hi hj hT hA hb hM hg h A 0 (by omega)
  rw [bb_fill0] at z
  exact z
theorem bx_compare0 {post : Int32 → SX → Prop} (g : Nat → Int32) {i j : Nat} {k : Int32} (hw1 : 1 ≤ w) (hw : w ≤ 4) (hi : i < T) (hj : j < T) (hT : T ≤ 28) (hS : S < 16) (hA : A ≤ 4096) (hr : ∀ i, i < T → ∀ x, x < A → ∃ v, v < 2 ^ w ∧ wd (i * 4096 + x) = nI v) (hg : ∀ x, x < A → g x = bb_cmp (nI (2 ^ w)) k (wd (i * 4096 + x)) (wd (j * 4096 + x))) (h : post (nI S) (nI w, nI (2 ^ w - 1), nI A, nI T, nI (S + 1), nI C, wd, bb_fill bo g S A, ct, cs, 114688, 65536)) : wX_compare_45 post k (nI i) (nI j) (A + 1) 0 (nI w) (nI (2 ^ w - 1)) (nI A) (nI T) (nI S) (nI C) wd bo ct cs 114688 65536 := by
  have z := bx_compare (g := g) hw1 hw hi hj hT hS hA hr hg h A 0 (by omega)
  rw [bb_fill0] at z
  exact z
theorem bx_connect0 {post : Int32 → SX → Prop} (g : Nat → Int32) {k i j : Nat} (hk : k ≤ 2) (hi : i < S) (hj : j < S) (hS : S < 16) (hA : A ≤ 4096) (hb : ∀ j, j < S → ∀ x, x < A → bo (j * 4096 + x) = 0 ∨ bo (j * 4096 + x) = 1) (hg : ∀ x, x < A → g x = bb_con (nI k + 3) (bo (i * 4096 + x)) (bo (j * 4096 + x))) (h : post (nI S) (nI w, M, nI A, nI T, nI (S + 1), nI C, wd, bb_fill bo g S A, ct, cs, 114688, 65536)) : wX_connect_45 post (nI k) (nI i) (nI j) (A + 1) 0 (nI w) M (nI A) (nI T) (nI S) (nI C) wd bo ct cs 114688 65536 := by
  have z := bx_connect (g := g) hk hi hj hS hA hb hg h A 0 (by omega)
  rw [bb_fill0] at z
  exact z
end
