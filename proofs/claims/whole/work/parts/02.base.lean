/-! rows taken from the kit's rows to paste -/
theorem pk_us {f : Nat → Int32} {k : Nat} {x : Int32} : upd f k x k = x := if_pos rfl
theorem pk_un {f : Nat → Int32} {k j : Nat} {x : Int32} (h : j ≠ k) : upd f k x j = f j := if_neg h
theorem pk_sub {a b : Nat} (h : b ≤ a) : nI a - nI b = nI (a - b) := by
  obtain ⟨c, rfl⟩ : ∃ c, a = c + b := ⟨a - b, by omega⟩
  rw [← nI_add, Int32.add_sub_cancel, Nat.add_sub_cancel]
theorem pk_mul (a b : Nat) : nI a * nI b = nI (a * b) := (Int32.ofNat_mul a b).symm
theorem pk_tn {n : Nat} (h : n < 2 ^ 32) : (nI n).toBitVec.toNat = n := Nat.mod_eq_of_lt h
theorem pk_and (x : Int32) {m : Int32} (k : Nat) (hm : m.toBitVec.toNat = 2 ^ k - 1) : x &&& m = nI (x.toBitVec.toNat % 2 ^ k) := by
  apply Int32.toBitVec_inj.mp
  apply BitVec.eq_of_toNat_eq
  rw [Int32.toBitVec_and, BitVec.toNat_and, hm, Nat.and_two_pow_sub_one_eq_mod]
  show _ = (BitVec.ofNat 32 _).toNat
  rw [BitVec.toNat_ofNat]
  exact (Nat.mod_eq_of_lt (Nat.lt_of_le_of_lt (Nat.mod_le _ _) x.toBitVec.isLt)).symm
theorem pk_andE (x : Int32) {m : Int32} (k : Nat) (hm : m.toBitVec.toNat = 2 ^ k - 1) : ∃ j : Nat, j < 2 ^ k ∧ x &&& m = nI j := ⟨_, Nat.mod_lt _ (Nat.two_pow_pos k), pk_and x k hm⟩
/-! my own -/
theorem bb_4096 : (4096 : Int32) = nI 4096 := by decide
theorem bb_ix (i x : Nat) : nI i * 4096 + nI x = nI (i * 4096 + x) := by rw [bb_4096, pk_mul, nI_add]
theorem bb_ixc {i x : Nat} (hi : i < 28) (hx : x < 4096) : (nI i * 4096 + nI x).toNatClampNeg = i * 4096 + x := by rw [bb_ix, nI_clamp (by omega)]
theorem bb_inW {i x : Nat} (hi : i < 28) (hx : x < 4096) : vp_in (nI i * 4096 + nI x) 114688 := by rw [bb_ix]; exact vp_in_nI (by omega) (by omega)
theorem bb_inB {i x : Nat} (hi : i < 16) (hx : x < 4096) : vp_in (nI i * 4096 + nI x) 65536 := by rw [bb_ix]; exact vp_in_nI (by omega) (by omega)
theorem bb_b0 : vp_nar .boolean 0 = 0 := rfl
theorem bb_b1 : vp_nar .boolean 1 = 1 := rfl
theorem bb_b01 {v : Int32} (h : v = 0 ∨ v = 1) : vp_nar .boolean v = v := by rcases h with rfl | rfl <;> rfl
theorem bb_n01 {v : Int32} (h : v = 0 ∨ v = 1) : narrow .boolean (.int v) = .int v := by rcases h with rfl | rfl <;> rfl
theorem bb_cl {a : Int32} {t : Nat} (h : vp_in a t) : a.toNatClampNeg < t := by
  have h2 : ¬ (t ≤ a.toNatClampNeg) := fun z => h (Or.inr z)
  omega
theorem bb_inm {a : Int32} {t u : Nat} (h : vp_in a t) (hu : t ≤ u) : vp_in a u := by
  rw [vp_in_iff] at h ⊢; omega
theorem bb_by : ∀ j, j < 16 → (nI j).toInt8.toInt32.toInt8.toInt32 = nI j := by decide
theorem bb_p16 {w : Nat} (hw : w ≤ 4) : 2 ^ w ≤ 16 := Nat.pow_le_pow_right (n := 2) (by decide) hw
theorem bb_mtn {w : Nat} (hw : w ≤ 4) : (nI (2 ^ w - 1)).toBitVec.toNat = 2 ^ w - 1 := pk_tn (by have := bb_p16 hw; omega)
theorem bb_mask {w : Nat} (hw : w ≤ 4) (v : Int32) : vp_nar .byte ((v &&& nI (2 ^ w - 1)).toInt8.toInt32) = v &&& nI (2 ^ w - 1) := by
  obtain ⟨j, hj, e⟩ := pk_andE v w (bb_mtn hw)
  rw [e, vp_nar_byte]
  exact bb_by j (by have := bb_p16 hw; omega)
/-- six ways of joining two words -/
def bb_join (k x y : Int32) : Int32 := if k = 0 then x + y else if k = 1 then x - y else if k = 2 then x * y else if k = 3 then x &&& y else if k = 4 then x ||| y else x ^^^ y
/-- a term's worth, before it is cut to the width -/
def bb_val (w kd a b c : Int32) (V B : Nat → Int32) (x : Int32) : Int32 :=
  if kd = 6 then x >>> ((w * (2 - a)) &&& 31) else if kd = 7 then a else
  if 6 ≤ kd then (if kd = 8 then V a.toNatClampNeg ^^^ (-1) else if kd = 9 then (if b < 0 then V a.toNatClampNeg >>> ((-b) &&& 31) else V a.toNatClampNeg <<< (b &&& 31)) else (if B c.toNatClampNeg = 0 then V b.toNatClampNeg else V a.toNatClampNeg))
  else bb_join kd (V a.toNatClampNeg) (V b.toNatClampNeg)
def bb_wf (t s : Nat) (kd a b c : Int32) : Prop := kd = 6 ∨ kd = 7 ∨ (vp_in a t ∧ (kd = 8 ∨ kd = 9 ∨ (vp_in b t ∧ (¬ 6 ≤ kd ∨ vp_in c s))))
def bb_sg (top x : Int32) : Int32 := if 2 * x < top then x else x - top
def bb_con (k x y : Int32) : Int32 := if k = 3 then (if x = 0 then 0 else if y = 0 then 0 else 1) else if k = 4 then (if x = 0 then (if y = 0 then 0 else 1) else 1) else if x = y then 0 else 1
def bb_cmp (top k x y : Int32) : Int32 := if k = 0 then (if x = y then 1 else 0) else if k = 1 then (if y ≤ x then 0 else 1) else if bb_sg top y ≤ bb_sg top x then 0 else 1
/-- a test's truth -/
def bb_tv (top k a b : Int32) (V B : Nat → Int32) : Int32 :=
  if 3 ≤ k then bb_con k (B a.toNatClampNeg) (B b.toNatClampNeg) else bb_cmp top k (V a.toNatClampNeg) (V b.toNatClampNeg)
def bb_wft (t s : Nat) (k a b : Int32) : Prop := (3 ≤ k ∧ vp_in a s ∧ vp_in b s) ∨ (¬ 3 ≤ k ∧ vp_in a t ∧ vp_in b t)
theorem bb_con01 (k x y : Int32) : bb_con k x y = 0 ∨ bb_con k x y = 1 := by
  unfold bb_con; repeat' split
  all_goals first | exact Or.inl rfl | exact Or.inr rfl
theorem bb_cmp01 (top k x y : Int32) : bb_cmp top k x y = 0 ∨ bb_cmp top k x y = 1 := by
  unfold bb_cmp; repeat' split
  all_goals first | exact Or.inl rfl | exact Or.inr rfl
theorem bb_tv01 (top k a b : Int32) (V B : Nat → Int32) : bb_tv top k a b V B = 0 ∨ bb_tv top k a b V B = 1 := by
  unfold bb_tv; split
  · exact bb_con01 _ _ _
  · exact bb_cmp01 _ _ _ _
theorem bb_valc {t s : Nat} {w kd a b c x : Int32} {V B V' B' : Nat → Int32} (h : bb_wf t s kd a b c) (hV : ∀ j, j < t → V' j = V j) (hB : ∀ j, j < s → B' j = B j) : bb_val w kd a b c V' B' x = bb_val w kd a b c V B x := by
  rcases h with rfl | rfl | ⟨ha, h⟩
  · rfl
  · rfl
  · have e1 := hV _ (bb_cl ha)
    unfold bb_val; rw [e1]
    rcases h with rfl | rfl | ⟨hb, h⟩
    · rfl
    · rfl
    · rw [hV _ (bb_cl hb)]
      rcases h with h | h
      · rw [if_neg h, if_neg h]
      · rw [hB _ (bb_cl h)]
theorem bb_tvc {t s : Nat} {top k a b : Int32} {V B V' B' : Nat → Int32} (h : bb_wft t s k a b) (hV : ∀ j, j < t → V' j = V j) (hB : ∀ j, j < s → B' j = B j) : bb_tv top k a b V' B' = bb_tv top k a b V B := by
  unfold bb_tv
  rcases h with ⟨h, ha, hb⟩ | ⟨h, ha, hb⟩
  · rw [if_pos h, if_pos h, hB _ (bb_cl ha), hB _ (bb_cl hb)]
  · rw [if_neg h, if_neg h, hV _ (bb_cl ha), hV _ (bb_cl hb)]
/-- the order in which terms and tests were made -/
def bb_H (o : Nat → Int32) (P Q : Nat → Nat → Prop) : Nat → Nat → Nat → Prop
  | 0, t, s => t = 0 ∧ s = 0
  | k + 1, t, s => (∃ t', t = t' + 1 ∧ bb_H o P Q k t' s ∧ o k = nI t' ∧ P t' s) ∨ (∃ s', s = s' + 1 ∧ bb_H o P Q k t s' ∧ o k = nI (100 + s') ∧ Q t s')
theorem bb_Hk {o : Nat → Int32} {P Q : Nat → Nat → Prop} : ∀ k t s, bb_H o P Q k t s → k = t + s := by
  intro k
  induction k with
  | zero => intro t s h; have h1 := h.1; have h2 := h.2; omega
  | succ k ih =>
    intro t s h
    rcases h with ⟨t', e, h, _⟩ | ⟨s', e, h, _⟩
    · have := ih _ _ h; omega
    · have := ih _ _ h; omega
theorem bb_Hf {o o' : Nat → Int32} {P Q P' Q' : Nat → Nat → Prop} : ∀ k t s, (∀ j, j < k → o' j = o j) → (∀ t' s', t' < t → s' ≤ s → P t' s' → P' t' s') → (∀ t' s', t' ≤ t → s' < s → Q t' s' → Q' t' s') → bb_H o P Q k t s → bb_H o' P' Q' k t s := by
  intro k
  induction k with
  | zero => intro t s _ _ _ h; exact h
  | succ k ih =>
    intro t s ho hP hQ h
    rcases h with ⟨t', e, h, eo, hp⟩ | ⟨s', e, h, eo, hq⟩
    · subst e
      exact Or.inl ⟨t', rfl, ih _ _ (fun j hj => ho j (by omega)) (fun a b c d => hP a b (by omega) d) (fun a b c d => hQ a b (by omega) d) h, (ho k (by omega)).trans eo, hP _ _ (by omega) (by omega) hp⟩
    · subst e
      exact Or.inr ⟨s', rfl, ih _ _ (fun j hj => ho j (by omega)) (fun a b c d => hP a b c (by omega)) (fun a b c d => hQ a b c (by omega)) h, (ho k (by omega)).trans eo, hQ _ _ (by omega) (by omega) hq⟩
theorem bb_HP {o : Nat → Int32} {P Q : Nat → Nat → Prop} : ∀ k t s, bb_H o P Q k t s → ∀ i, i < t → ∃ s', P i s' := by
  intro k
  induction k with
  | zero => intro t s h i hi; have := h.1; omega
  | succ k ih =>
    intro t s h i hi
    rcases h with ⟨t', e, h, _, hp⟩ | ⟨s', e, h, _, _⟩
    · subst e
      by_cases z : i = t'
      · subst z; exact ⟨_, hp⟩
      · exact ih _ _ h i (by omega)
    · exact ih _ _ h i hi
theorem bb_HQ {o : Nat → Int32} {P Q : Nat → Nat → Prop} : ∀ k t s, bb_H o P Q k t s → ∀ i, i < s → ∃ t', Q t' i := by
  intro k
  induction k with
  | zero => intro t s h i hi; have := h.2; omega
  | succ k ih =>
    intro t s h i hi
    rcases h with ⟨t', e, h, _, hp⟩ | ⟨s', e, h, _, hq⟩
    · exact ih _ _ h i hi
    · subst e
      by_cases z : i = s'
      · subst z; exact ⟨_, hq⟩
      · exact ih _ _ h i (by omega)
def bb_row (f : Nat → Int32) (x : Nat) : Nat → Int32 := fun j => f (j * 4096 + x)
def bb_P (w A : Nat) (M : Int32) (kd ka kb kc wd bo : Nat → Int32) (t s : Nat) : Prop :=
  bb_wf t s (kd t) (ka t) (kb t) (kc t) ∧ ∀ x, x < A → wd (t * 4096 + x) = bb_val (nI w) (kd t) (ka t) (kb t) (kc t) (bb_row wd x) (bb_row bo x) (nI x) &&& M
def bb_Q (A : Nat) (top : Int32) (so sp sq wd bo : Nat → Int32) (t s : Nat) : Prop :=
  bb_wft t s (so s) (sp s) (sq s) ∧ ∀ x, x < A → bo (s * 4096 + x) = bb_tv top (so s) (sp s) (sq s) (bb_row wd x) (bb_row bo x)
/-- the row behind the last one, filled up to n -/
def bb_fill (f g : Nat → Int32) (T n : Nat) : Nat → Int32 := fun q => if T * 4096 ≤ q ∧ q < T * 4096 + n then g (q - T * 4096) else f q
theorem bb_fill0 (f g : Nat → Int32) (T : Nat) : bb_fill f g T 0 = f := by
  funext q; exact if_neg (by omega)
theorem bb_fillS (f g : Nat → Int32) (T n : Nat) : upd (bb_fill f g T n) (T * 4096 + n) (g n) = bb_fill f g T (n + 1) := by
  funext q
  by_cases h : q = T * 4096 + n
  · subst h
    rw [pk_us]; unfold bb_fill
    rw [if_pos (by omega), Nat.add_sub_cancel_left]
  · rw [pk_un h]; unfold bb_fill
    by_cases h2 : T * 4096 ≤ q ∧ q < T * 4096 + n
    · rw [if_pos h2, if_pos (by omega)]
    · rw [if_neg h2, if_neg (by omega)]
theorem bb_fillL {f g : Nat → Int32} {T n j x : Nat} (hj : j < T) (hx : x < 4096) : bb_fill f g T n (j * 4096 + x) = f (j * 4096 + x) := if_neg (by omega)
theorem bb_fillI {f g : Nat → Int32} {T n x : Nat} (hx : x < n) : bb_fill f g T n (T * 4096 + x) = g x := by
  unfold bb_fill; rw [if_pos (by omega), Nat.add_sub_cancel_left]
