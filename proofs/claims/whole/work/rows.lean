section
/-- the printed walk of the class's constructor asks 114688 ≤ 90112: no relation R lets the constructors' row hold -/
theorem rf_vc0 (R : Nat → SX → SY → Prop) (k0 : Int32) : ¬ wpX_init (fun u => wpY_init (fun v => R 1 u v) k0) k0 := by
  intro h
  unfold wpX_init at h
  have h1 := (h.2 _ rfl).1
  exact absurd h1 (by decide)
end
section
/-! rows taken from the kit's rows to paste -/
theorem pk_us {f : Nat → Int32} {k : Nat} {x : Int32} : upd f k x k = x := if_pos rfl
theorem pk_un {f : Nat → Int32} {k j : Nat} {x : Int32} (h : j ≠ k) : upd f k x j = f j := if_neg h
theorem pk_sub {a b : Nat} (h : b ≤ a) : nI a - nI b = nI (a - b) := by
  obtain ⟨c, rfl⟩ : ∃ c, a = c + b := ⟨a - b, by omega⟩
  rw [← nI_add, Int32.add_sub_cancel, Nat.add_sub_cancel]
theorem pk_mul (a b : Nat) : nI a * nI b = nI (a * b) := (Int32.ofNat_mul a b).symm
theorem pk_tn {n : Nat} (h : n < 2 ^ 32) : (nI n).toBitVec.toNat = n := Nat.mod_eq_of_lt h
theorem pk_and (x : Int32) {m : Int32} (k : Nat) (hm : m.toBitVec.toNat = 2 ^ k - 1) : x &&& m = nI (x.toBitVec.toNat % 2 ^ k) := by
  apply Int32.toBitVec_inj.mp
  apply BitVec.eq_of_toNat_eq
  rw [Int32.toBitVec_and, BitVec.toNat_and, hm, Nat.and_two_pow_sub_one_eq_mod]
  show _ = (BitVec.ofNat 32 _).toNat
  rw [BitVec.toNat_ofNat]
  exact (Nat.mod_eq_of_lt (Nat.lt_of_le_of_lt (Nat.mod_le _ _) x.toBitVec.isLt)).symm
theorem pk_andE (x : Int32) {m : Int32} (k : Nat) (hm : m.toBitVec.toNat = 2 ^ k - 1) : ∃ j : Nat, j < 2 ^ k ∧ x &&& m = nI j := ⟨_, Nat.mod_lt _ (Nat.two_pow_pos k), pk_and x k hm⟩
/-! my own -/
theorem bb_4096 : (4096 : Int32) = nI 4096 := by decide
theorem bb_ix (i x : Nat) : nI i * 4096 + nI x = nI (i * 4096 + x) := by rw [bb_4096, pk_mul, nI_add]
theorem bb_ixc {i x : Nat} (hi : i < 28) (hx : x < 4096) : (nI i * 4096 + nI x).toNatClampNeg = i * 4096 + x := by rw [bb_ix, nI_clamp (by omega)]
theorem bb_inW {i x : Nat} (hi : i < 28) (hx : x < 4096) : vp_in (nI i * 4096 + nI x) 114688 := by rw [bb_ix]; exact vp_in_nI (by omega) (by omega)
theorem bb_inB {i x : Nat} (hi : i < 16) (hx : x < 4096) : vp_in (nI i * 4096 + nI x) 65536 := by rw [bb_ix]; exact vp_in_nI (by omega) (by omega)
theorem bb_b0 : vp_nar .boolean 0 = 0 := rfl
theorem bb_b1 : vp_nar .boolean 1 = 1 := rfl
theorem bb_b01 {v : Int32} (h : v = 0 ∨ v = 1) : vp_nar .boolean v = v := by rcases h with rfl | rfl <;> rfl
theorem bb_n01 {v : Int32} (h : v = 0 ∨ v = 1) : narrow .boolean (.int v) = .int v := by rcases h with rfl | rfl <;> rfl
theorem bb_cl {a : Int32} {t : Nat} (h : vp_in a t) : a.toNatClampNeg < t := by
  have h2 : ¬ (t ≤ a.toNatClampNeg) := fun z => h (Or.inr z)
  omega
theorem bb_inm {a : Int32} {t u : Nat} (h : vp_in a t) (hu : t ≤ u) : vp_in a u := by
  rw [vp_in_iff] at h ⊢; omega
theorem bb_by : ∀ j, j < 16 → (nI j).toInt8.toInt32.toInt8.toInt32 = nI j := by decide
theorem bb_p16 {w : Nat} (hw : w ≤ 4) : 2 ^ w ≤ 16 := Nat.pow_le_pow_right (n := 2) (by decide) hw
theorem bb_mtn {w : Nat} (hw : w ≤ 4) : (nI (2 ^ w - 1)).toBitVec.toNat = 2 ^ w - 1 := pk_tn (by have := bb_p16 hw; omega)
theorem bb_mask {w : Nat} (hw : w ≤ 4) (v : Int32) : vp_nar .byte ((v &&& nI (2 ^ w - 1)).toInt8.toInt32) = v &&& nI (2 ^ w - 1) := by
  obtain ⟨j, hj, e⟩ := pk_andE v w (bb_mtn hw)
  rw [e, vp_nar_byte]
  exact bb_by j (by have := bb_p16 hw; omega)
/-- six ways of joining two words -/
def bb_join (k x y : Int32) : Int32 := if k = 0 then x + y else if k = 1 then x - y else if k = 2 then x * y else if k = 3 then x &&& y else if k = 4 then x ||| y else x ^^^ y
/-- a term's worth, before it is cut to the width -/
def bb_val (w kd a b c : Int32) (V B : Nat → Int32) (x : Int32) : Int32 :=
  if kd = 6 then x >>> ((w * (2 - a)) &&& 31) else if kd = 7 then a else
  if 6 ≤ kd then (if kd = 8 then V a.toNatClampNeg ^^^ (-1) else if kd = 9 then (if b < 0 then V a.toNatClampNeg >>> ((-b) &&& 31) else V a.toNatClampNeg <<< (b &&& 31)) else (if B c.toNatClampNeg = 0 then V b.toNatClampNeg else V a.toNatClampNeg))
  else bb_join kd (V a.toNatClampNeg) (V b.toNatClampNeg)
def bb_wf (t s : Nat) (kd a b c : Int32) : Prop := kd = 6 ∨ kd = 7 ∨ (vp_in a t ∧ (kd = 8 ∨ kd = 9 ∨ (vp_in b t ∧ (¬ 6 ≤ kd ∨ vp_in c s))))
def bb_sg (top x : Int32) : Int32 := if 2 * x < top then x else x - top
def bb_con (k x y : Int32) : Int32 := if k = 3 then (if x = 0 then 0 else if y = 0 then 0 else 1) else if k = 4 then (if x = 0 then (if y = 0 then 0 else 1) else 1) else if x = y then 0 else 1
def bb_cmp (top k x y : Int32) : Int32 := if k = 0 then (if x = y then 1 else 0) else if k = 1 then (if y ≤ x then 0 else 1) else if bb_sg top y ≤ bb_sg top x then 0 else 1
/-- a test's truth -/
def bb_tv (top k a b : Int32) (V B : Nat → Int32) : Int32 :=
  if 3 ≤ k then bb_con k (B a.toNatClampNeg) (B b.toNatClampNeg) else bb_cmp top k (V a.toNatClampNeg) (V b.toNatClampNeg)
def bb_wft (t s : Nat) (k a b : Int32) : Prop := (3 ≤ k ∧ vp_in a s ∧ vp_in b s) ∨ (¬ 3 ≤ k ∧ vp_in a t ∧ vp_in b t)
theorem bb_con01 (k x y : Int32) : bb_con k x y = 0 ∨ bb_con k x y = 1 := by
  unfold bb_con; repeat' split
  all_goals first | exact Or.inl rfl | exact Or.inr rfl
theorem bb_cmp01 (top k x y : Int32) : bb_cmp top k x y = 0 ∨ bb_cmp top k x y = 1 := by
  unfold bb_cmp; repeat' split
  all_goals first | exact Or.inl rfl | exact Or.inr rfl
theorem bb_tv01 (top k a b : Int32) (V B : Nat → Int32) : bb_tv top k a b V B = 0 ∨ bb_tv top k a b V B = 1 := by
  unfold bb_tv; split
  · exact bb_con01 _ _ _
  · exact bb_cmp01 _ _ _ _
theorem bb_valc {t s : Nat} {w kd a b c x : Int32} {V B V' B' : Nat → Int32} (h : bb_wf t s kd a b c) (hV : ∀ j, j < t → V' j = V j) (hB : ∀ j, j < s → B' j = B j) : bb_val w kd a b c V' B' x = bb_val w kd a b c V B x := by
  rcases h with rfl | rfl | ⟨ha, h⟩
  · rfl
  · rfl
  · have e1 := hV _ (bb_cl ha)
    unfold bb_val; rw [e1]
    rcases h with rfl | rfl | ⟨hb, h⟩
    · rfl
    · rfl
    · rw [hV _ (bb_cl hb)]
      rcases h with h | h
      · rw [if_neg h, if_neg h]
      · rw [hB _ (bb_cl h)]
theorem bb_tvc {t s : Nat} {top k a b : Int32} {V B V' B' : Nat → Int32} (h : bb_wft t s k a b) (hV : ∀ j, j < t → V' j = V j) (hB : ∀ j, j < s → B' j = B j) : bb_tv top k a b V' B' = bb_tv top k a b V B := by
  unfold bb_tv
  rcases h with ⟨h, ha, hb⟩ | ⟨h, ha, hb⟩
  · rw [if_pos h, if_pos h, hB _ (bb_cl ha), hB _ (bb_cl hb)]
  · rw [if_neg h, if_neg h, hV _ (bb_cl ha), hV _ (bb_cl hb)]
/-- the order in which terms and tests were made -/
def bb_H (o : Nat → Int32) (P Q : Nat → Nat → Prop) : Nat → Nat → Nat → Prop
  | 0, t, s => t = 0 ∧ s = 0
  | k + 1, t, s => (∃ t', t = t' + 1 ∧ bb_H o P Q k t' s ∧ o k = nI t' ∧ P t' s) ∨ (∃ s', s = s' + 1 ∧ bb_H o P Q k t s' ∧ o k = nI (100 + s') ∧ Q t s')
theorem bb_Hk {o : Nat → Int32} {P Q : Nat → Nat → Prop} : ∀ k t s, bb_H o P Q k t s → k = t + s := by
  intro k
  induction k with
  | zero => intro t s h; have h1 := h.1; have h2 := h.2; omega
  | succ k ih =>
    intro t s h
    rcases h with ⟨t', e, h, _⟩ | ⟨s', e, h, _⟩
    · have := ih _ _ h; omega
    · have := ih _ _ h; omega
theorem bb_Hf {o o' : Nat → Int32} {P Q P' Q' : Nat → Nat → Prop} : ∀ k t s, (∀ j, j < k → o' j = o j) → (∀ t' s', t' < t → s' ≤ s → P t' s' → P' t' s') → (∀ t' s', t' ≤ t → s' < s → Q t' s' → Q' t' s') → bb_H o P Q k t s → bb_H o' P' Q' k t s := by
  intro k
  induction k with
  | zero => intro t s _ _ _ h; exact h
  | succ k ih =>
    intro t s ho hP hQ h
    rcases h with ⟨t', e, h, eo, hp⟩ | ⟨s', e, h, eo, hq⟩
    · subst e
      exact Or.inl ⟨t', rfl, ih _ _ (fun j hj => ho j (by omega)) (fun a b c d => hP a b (by omega) d) (fun a b c d => hQ a b (by omega) d) h, (ho k (by omega)).trans eo, hP _ _ (by omega) (by omega) hp⟩
    · subst e
      exact Or.inr ⟨s', rfl, ih _ _ (fun j hj => ho j (by omega)) (fun a b c d => hP a b c (by omega)) (fun a b c d => hQ a b c (by omega)) h, (ho k (by omega)).trans eo, hQ _ _ (by omega) (by omega) hq⟩
theorem bb_HP {o : Nat → Int32} {P Q : Nat → Nat → Prop} : ∀ k t s, bb_H o P Q k t s → ∀ i, i < t → ∃ s', P i s' := by
  intro k
  induction k with
  | zero => intro t s h i hi; have := h.1; omega
  | succ k ih =>
    intro t s h i hi
    rcases h with ⟨t', e, h, _, hp⟩ | ⟨s', e, h, _, _⟩
    · subst e
      by_cases z : i = t'
      · subst z; exact ⟨_, hp⟩
      · exact ih _ _ h i (by omega)
    · exact ih _ _ h i hi
theorem bb_HQ {o : Nat → Int32} {P Q : Nat → Nat → Prop} : ∀ k t s, bb_H o P Q k t s → ∀ i, i < s → ∃ t', Q t' i := by
  intro k
  induction k with
  | zero => intro t s h i hi; have := h.2; omega
  | succ k ih =>
    intro t s h i hi
    rcases h with ⟨t', e, h, _, hp⟩ | ⟨s', e, h, _, hq⟩
    · exact ih _ _ h i hi
    · subst e
      by_cases z : i = s'
      · subst z; exact ⟨_, hq⟩
      · exact ih _ _ h i (by omega)
def bb_row (f : Nat → Int32) (x : Nat) : Nat → Int32 := fun j => f (j * 4096 + x)
def bb_P (w A : Nat) (M : Int32) (kd ka kb kc wd bo : Nat → Int32) (t s : Nat) : Prop :=
  bb_wf t s (kd t) (ka t) (kb t) (kc t) ∧ ∀ x, x < A → wd (t * 4096 + x) = bb_val (nI w) (kd t) (ka t) (kb t) (kc t) (bb_row wd x) (bb_row bo x) (nI x) &&& M
def bb_Q (A : Nat) (top : Int32) (so sp sq wd bo : Nat → Int32) (t s : Nat) : Prop :=
  bb_wft t s (so s) (sp s) (sq s) ∧ ∀ x, x < A → bo (s * 4096 + x) = bb_tv top (so s) (sp s) (sq s) (bb_row wd x) (bb_row bo x)
/-- the row behind the last one, filled up to n -/
def bb_fill (f g : Nat → Int32) (T n : Nat) : Nat → Int32 := fun q => if T * 4096 ≤ q ∧ q < T * 4096 + n then g (q - T * 4096) else f q
theorem bb_fill0 (f g : Nat → Int32) (T : Nat) : bb_fill f g T 0 = f := by
  funext q; exact if_neg (by omega)
theorem bb_fillS (f g : Nat → Int32) (T n : Nat) : upd (bb_fill f g T n) (T * 4096 + n) (g n) = bb_fill f g T (n + 1) := by
  funext q
  by_cases h : q = T * 4096 + n
  · subst h
    rw [pk_us]; unfold bb_fill
    rw [if_pos (by omega), Nat.add_sub_cancel_left]
  · rw [pk_un h]; unfold bb_fill
    by_cases h2 : T * 4096 ≤ q ∧ q < T * 4096 + n
    · rw [if_pos h2, if_pos (by omega)]
    · rw [if_neg h2, if_neg (by omega)]
theorem bb_fillL {f g : Nat → Int32} {T n j x : Nat} (hj : j < T) (hx : x < 4096) : bb_fill f g T n (j * 4096 + x) = f (j * 4096 + x) := if_neg (by omega)
theorem bb_fillI {f g : Nat → Int32} {T n x : Nat} (hx : x < n) : bb_fill f g T n (T * 4096 + x) = g x := by
  unfold bb_fill; rw [if_pos (by omega), Nat.add_sub_cancel_left]
end
section
section
variable {w A T S C : Nat} {M top : Int32} {wd bo ct cs ord kd ka kb kc so sp sq vl tv : Nat → Int32}
theorem by_join {post : Int32 → Prop} {k x y : Int32} (h : post (bb_join k x y)) : wpY_joined post (nI w, top, nI A, nI T, nI S, nI C, nI (T + S), ord, kd, ka, kb, kc, so, sp, sq, ct, cs, vl, tv) k x y := by
  unfold bb_join at h
  by_cases e0 : k = 0
  · rw [if_pos e0] at h; exact br_t e0 h
  · rw [if_neg e0] at h; refine br_f e0 ?_
    by_cases e1 : k = 1
    · rw [if_pos e1] at h; exact br_t e1 h
    · rw [if_neg e1] at h; refine br_f e1 ?_
      by_cases e2 : k = 2
      · rw [if_pos e2] at h; exact br_t e2 h
      · rw [if_neg e2] at h; refine br_f e2 ?_
        by_cases e3 : k = 3
        · rw [if_pos e3] at h; exact br_t e3 h
        · rw [if_neg e3] at h; refine br_f e3 ?_
          by_cases e4 : k = 4
          · rw [if_pos e4] at h; exact br_t e4 h
          · rw [if_neg e4] at h; exact br_f e4 h
theorem by_worth {post : Int32 → Prop} {i t s : Nat} {x : Int32} (hi : i < 28) (ht : t ≤ 28) (hs : s ≤ 16) (hw : bb_wf t s (kd i) (ka i) (kb i) (kc i)) (h : post (bb_val (nI w) (kd i) (ka i) (kb i) (kc i) vl tv x)) : wpY_worth post (nI w, top, nI A, nI T, nI S, nI C, nI (T + S), ord, kd, ka, kb, kc, so, sp, sq, ct, cs, vl, tv) (nI i) x := by
  have hin : vp_in (nI i) 28 := vp_in_nI hi (by decide)
  unfold wpY_worth; dsimp only
  rw [nI_clamp (Nat.lt_trans hi (by decide))]
  refine ⟨hin, nm_e ?_⟩
  unfold bb_val at h
  by_cases e6 : kd i = 6
  · rw [if_pos e6] at h; exact br_t e6 ⟨hin, h⟩
  · rw [if_neg e6] at h; refine br_f e6 ?_
    by_cases e7 : kd i = 7
    · rw [if_pos e7] at h; exact br_t e7 ⟨hin, h⟩
    · rw [if_neg e7] at h
      obtain ⟨ha, hw⟩ := (hw.resolve_left e6).resolve_left e7
      refine br_f e7 ⟨hin, bb_inm ha ht, nm_e ?_⟩
      by_cases g6 : 6 ≤ kd i
      · rw [if_pos g6] at h; refine br_t g6 ?_
        by_cases e8 : kd i = 8
        · rw [if_pos e8] at h; exact br_t e8 h
        · rw [if_neg e8] at h; refine br_f e8 ?_
          by_cases e9 : kd i = 9
          · rw [if_pos e9] at h; refine br_t e9 ⟨hin, ?_⟩
            by_cases b0 : kb i < 0
            · rw [if_pos b0] at h; exact br_t b0 ⟨hin, h⟩
            · rw [if_neg b0] at h; exact br_f b0 ⟨hin, h⟩
          · rw [if_neg e9] at h
            obtain ⟨hb, hw⟩ := (hw.resolve_left e8).resolve_left e9
            have hc := hw.resolve_left (fun z => z g6)
            refine br_f e9 ⟨hin, bb_inm hc hs, ?_⟩
            by_cases c0 : tv (kc i).toNatClampNeg = 0
            · rw [if_pos c0] at h; exact br_t c0 ⟨hin, bb_inm hb ht, h⟩
            · rw [if_neg c0] at h; exact br_f c0 h
      · rw [if_neg g6] at h
        have hb : vp_in (kb i) t := by
          rcases hw with e | e | e
          · exact absurd (show (6 : Int32) ≤ kd i by rw [e]; decide) g6
          · exact absurd (show (6 : Int32) ≤ kd i by rw [e]; decide) g6
          · exact e.1
        exact br_f g6 ⟨hin, bb_inm hb ht, by_join h⟩
theorem by_signed {post : Int32 → Prop} {x : Int32} (h : post (bb_sg top x)) : wpY_signed post (nI w, top, nI A, nI T, nI S, nI C, nI (T + S), ord, kd, ka, kb, kc, so, sp, sq, ct, cs, vl, tv) x := by
  unfold bb_sg at h
  by_cases e : 2 * x < top
  · rw [if_pos e] at h; exact br_t e h
  · rw [if_neg e] at h; exact br_f e h
theorem by_told {post : Int32 → Prop} {i t s : Nat} (hi : i < 16) (ht : t ≤ 28) (hs : s ≤ 16) (hw : bb_wft t s (so i) (sp i) (sq i)) (h : post (bb_tv top (so i) (sp i) (sq i) vl tv)) : wpY_told post (nI w, top, nI A, nI T, nI S, nI C, nI (T + S), ord, kd, ka, kb, kc, so, sp, sq, ct, cs, vl, tv) (nI i) := by
  have hin : vp_in (nI i) 16 := vp_in_nI hi (by decide)
  unfold wpY_told; dsimp only
  rw [nI_clamp (Nat.lt_trans hi (by decide))]
  refine ⟨hin, nm_e ?_⟩
  unfold bb_tv at h
  by_cases g : 3 ≤ so i
  · rw [if_pos g] at h
    have hw' : vp_in (sp i) s ∧ vp_in (sq i) s := by
      rcases hw with z | z
      · exact z.2
      · exact absurd g z.1
    refine br_t g ⟨hin, bb_inm hw'.1 hs, nm_e ⟨hin, bb_inm hw'.2 hs, nm_e ?_⟩⟩
    unfold bb_con at h
    by_cases e3 : so i = 3
    · rw [if_pos e3] at h; refine br_t e3 ?_
      by_cases x0 : tv (sp i).toNatClampNeg = 0
      · rw [if_pos x0] at h; exact br_t x0 h
      · rw [if_neg x0] at h; refine br_f x0 ?_
        by_cases y0 : tv (sq i).toNatClampNeg = 0
        · rw [if_pos y0] at h; exact br_t y0 h
        · rw [if_neg y0] at h; exact br_f y0 h
    · rw [if_neg e3] at h; refine br_f e3 ?_
      by_cases e4 : so i = 4
      · rw [if_pos e4] at h; refine br_t e4 ?_
        by_cases x0 : tv (sp i).toNatClampNeg = 0
        · rw [if_pos x0] at h; refine br_t x0 ?_
          by_cases y0 : tv (sq i).toNatClampNeg = 0
          · rw [if_pos y0] at h; exact br_t y0 h
          · rw [if_neg y0] at h; exact br_f y0 h
        · rw [if_neg x0] at h; exact br_f x0 h
      · rw [if_neg e4] at h; refine br_f e4 ?_
        by_cases z : tv (sp i).toNatClampNeg = tv (sq i).toNatClampNeg
        · rw [if_pos z] at h; exact br_t z h
        · rw [if_neg z] at h; exact br_f z h
  · rw [if_neg g] at h
    have hw' : vp_in (sp i) t ∧ vp_in (sq i) t := by
      rcases hw with z | z
      · exact absurd z.1 g
      · exact z.2
    refine br_f g ⟨hin, bb_inm hw'.1 ht, nm_e ⟨hin, bb_inm hw'.2 ht, nm_e ?_⟩⟩
    unfold bb_cmp at h
    by_cases e0 : so i = 0
    · rw [if_pos e0] at h; refine br_t e0 ?_
      by_cases z : vl (sp i).toNatClampNeg = vl (sq i).toNatClampNeg
      · rw [if_pos z] at h; exact br_t z h
      · rw [if_neg z] at h; exact br_f z h
    · rw [if_neg e0] at h; refine br_f e0 ?_
      by_cases e1 : so i = 1
      · rw [if_pos e1] at h; refine br_t e1 ?_
        by_cases z : vl (sq i).toNatClampNeg ≤ vl (sp i).toNatClampNeg
        · rw [if_pos z] at h; exact br_t z h
        · rw [if_neg z] at h; exact br_f z h
      · rw [if_neg e1] at h; refine br_f e1 ?_
        refine by_signed (by_signed ?_)
        by_cases z : bb_sg top (vl (sq i).toNatClampNeg) ≤ bb_sg top (vl (sp i).toNatClampNeg)
        · rw [if_pos z] at h; exact br_t z h
        · rw [if_neg z] at h; exact br_f z h
/-- the reference's arrays hold what the class's rows hold under assignment x -/
def bb_Mt (wd bo vl tv : Nat → Int32) (T S x : Nat) : Prop := (∀ i, i < T → vl i = wd (i * 4096 + x)) ∧ (∀ j, j < S → tv j = bo (j * 4096 + x))
theorem by_workL {post : SY → Prop} {x : Nat} (hx : x < A) (hT : T ≤ 28) (hS : S ≤ 16) (htop : top - 1 = M) : ∀ k t s n, k ≤ T + S → t ≤ T → s ≤ S → bb_H ord (bb_P w A M kd ka kb kc wd bo) (bb_Q A top so sp sq wd bo) k t s →
    (∀ vl' tv', bb_Mt wd bo vl' tv' t s x → wY_work_2 post (nI x) (nI w) top (nI A) (nI T) (nI S) (nI C) (nI (T + S)) n (nI k) ord kd ka kb kc so sp sq ct cs vl' tv') → ∀ vl tv, wY_work_2 post (nI x) (nI w) top (nI A) (nI T) (nI S) (nI C) (nI (T + S)) (n + k) 0 ord kd ka kb kc so sp sq ct cs vl tv := by
  intro k
  induction k with
  | zero =>
    intro t s n _ _ _ hH h vl tv
    have h1 := hH.1
    have h2 := hH.2
    exact h vl tv ⟨fun i hi => by omega, fun i hi => by omega⟩
  | succ k ih =>
    intro t s n hk ht hs hH h vl tv
    rw [show n + (k + 1) = n + 1 + k by omega]
    rcases hH with ⟨t', e, hH, eo, hp, hv⟩ | ⟨s', e, hH, eo, hq, hv⟩
    · subst e
      refine ih t' s (n + 1) (by omega) (by omega) hs hH ?_ vl tv
      intro vl' tv' hm
      rw [wY_work_2]
      refine br_f (nI_ge (by omega) (by omega)) (br_f (nI_ge (b := 44) (by omega) (by decide)) ⟨vp_in_nI (by omega) (by decide), nm_e ?_⟩)
      rw [nI_clamp (by omega), eo]
      refine br_f (nI_ge (b := 100) (by omega) (by decide)) (by_worth (by omega) (by omega) (by omega) hp ?_)
      refine ⟨vp_in_nI (by omega) (by decide), nm_e (nm_r (nI_1 k) ?_)⟩
      rw [nI_clamp (by omega), htop]
      refine h _ _ ⟨fun i hi => ?_, hm.2⟩
      by_cases z : i = t'
      · subst z
        rw [pk_us, hv x hx, bb_valc hp (V := bb_row wd x) (B := bb_row bo x) hm.1 hm.2]
      · rw [pk_un z]; exact hm.1 i (by omega)
    · subst e
      refine ih t s' (n + 1) (by omega) ht (by omega) hH ?_ vl tv
      intro vl' tv' hm
      rw [wY_work_2]
      refine br_f (nI_ge (by omega) (by omega)) (br_f (nI_ge (b := 44) (by omega) (by decide)) ⟨vp_in_nI (by omega) (by decide), nm_e ?_⟩)
      rw [nI_clamp (by omega), eo]
      have e1 : nI (100 + s') - 100 = nI s' := by
        rw [show (100 : Int32) = nI 100 by decide, pk_sub (by omega), Nat.add_sub_cancel_left]
      rw [e1]
      refine br_t (nI_le (a := 100) (by omega) (by omega)) (by_told (by omega) (by omega) (by omega) hq ?_)
      refine ⟨vp_in_nI (by omega) (by decide), nm_e (nm_r (nI_1 k) ?_)⟩
      rw [nI_clamp (by omega), bb_b01 (bb_tv01 _ _ _ _ _ _)]
      refine h _ _ ⟨hm.1, fun i hi => ?_⟩
      by_cases z : i = s'
      · subst z
        rw [pk_us, hv x hx, bb_tvc hq (V := bb_row wd x) (B := bb_row bo x) hm.1 hm.2]
      · rw [pk_un z]; exact hm.2 i (by omega)
theorem by_work {post : SY → Prop} {x : Nat} (hx : x < A) (hT : T ≤ 28) (hS : S ≤ 16) (htop : top - 1 = M) (hH : bb_H ord (bb_P w A M kd ka kb kc wd bo) (bb_Q A top so sp sq wd bo) (T + S) T S)
    (h : ∀ vl' tv', bb_Mt wd bo vl' tv' T S x → post (nI w, top, nI A, nI T, nI S, nI C, nI (T + S), ord, kd, ka, kb, kc, so, sp, sq, ct, cs, vl', tv')) : wpY_work post (nI w, top, nI A, nI T, nI S, nI C, nI (T + S), ord, kd, ka, kb, kc, so, sp, sq, ct, cs, vl, tv) (nI x) := by
  refine ⟨1 + (T + S), by_workL hx hT hS htop (T + S) T S 1 (Nat.le_refl _) (Nat.le_refl _) (Nat.le_refl _) hH ?_ vl tv⟩
  intro vl' tv' hm
  rw [wY_work_2]
  exact br_t (nI_le (Nat.le_refl _) (by omega)) (h _ _ hm)
def bb_Sol (C : Nat) (ct cs bo : Nat → Int32) (x : Nat) : Prop := ∀ i, i < C → bo ((ct i).toNatClampNeg * 4096 + x) = cs i
theorem by_solL {post : Int32 → SY → Prop} {x : Nat} (hC : C ≤ 10) (hS : S ≤ 16) (hct : ∀ i, i < C → vp_in (ct i) S) (hm : bb_Mt wd bo vl tv T S x) (h1 : bb_Sol C ct cs bo x → post 1 (nI w, top, nI A, nI T, nI S, nI C, nI (T + S), ord, kd, ka, kb, kc, so, sp, sq, ct, cs, vl, tv)) (h0 : ¬ bb_Sol C ct cs bo x → post 0 (nI w, top, nI A, nI T, nI S, nI C, nI (T + S), ord, kd, ka, kb, kc, so, sp, sq, ct, cs, vl, tv)) :
    ∀ d i, i + d = C → (∀ i', i' < i → bo ((ct i').toNatClampNeg * 4096 + x) = cs i') → wY_solution_7 post (nI w) top (nI A) (nI T) (nI S) (nI C) (nI (T + S)) ord kd ka kb kc so sp sq ct cs vl tv (d + 1) (nI i) := by
  intro d
  induction d with
  | zero =>
    intro i hi hp
    rw [wY_solution_7]
    have e : i = C := by omega
    subst e
    exact br_t (nI_le (Nat.le_refl _) (by omega)) (h1 hp)
  | succ d ih =>
    intro i hi hp
    rw [wY_solution_7]
    have hv := hct i (by omega)
    refine br_f (nI_ge (by omega) (by omega)) (br_f (nI_ge (b := 10) (by omega) (by decide)) ⟨vp_in_nI (by omega) (by decide), ?_⟩)
    rw [nI_clamp (by omega), hm.2 _ (bb_cl hv)]
    refine ⟨bb_inm hv hS, vp_in_nI (by omega) (by decide), ?_⟩
    by_cases z : bo ((ct i).toNatClampNeg * 4096 + x) = cs i
    · refine br_t z (nm_r (nI_1 i) (ih (i + 1) (by omega) (lt_s hp z)))
    · exact br_f z (h0 fun q => z (q i (by omega)))
theorem by_sol {post : Int32 → SY → Prop} {x : Nat} (hx : x < A) (hT : T ≤ 28) (hS : S ≤ 16) (hC : C ≤ 10) (htop : top - 1 = M) (hH : bb_H ord (bb_P w A M kd ka kb kc wd bo) (bb_Q A top so sp sq wd bo) (T + S) T S) (hct : ∀ i, i < C → vp_in (ct i) S)
    (h1 : bb_Sol C ct cs bo x → ∀ vl' tv', bb_Mt wd bo vl' tv' T S x → post 1 (nI w, top, nI A, nI T, nI S, nI C, nI (T + S), ord, kd, ka, kb, kc, so, sp, sq, ct, cs, vl', tv')) (h0 : ¬ bb_Sol C ct cs bo x → ∀ vl' tv', bb_Mt wd bo vl' tv' T S x → post 0 (nI w, top, nI A, nI T, nI S, nI C, nI (T + S), ord, kd, ka, kb, kc, so, sp, sq, ct, cs, vl', tv')) : wpY_solution post (nI w, top, nI A, nI T, nI S, nI C, nI (T + S), ord, kd, ka, kb, kc, so, sp, sq, ct, cs, vl, tv) (nI x) := by
  unfold wpY_solution; dsimp only
  refine by_work hx hT hS htop hH fun vl' tv' hm => ?_
  exact ⟨C + 1, by_solL hC hS hct hm (fun z => h1 z _ _ hm) (fun z => h0 z _ _ hm) C 0 (by omega) (fun i hi => by omega)⟩
theorem by_badT0 {post : Int32 → Prop} {i : Nat} (hi : i < T) (hT : T ≤ 28) (h : post 0) : wpY_badTerm post (nI w, top, nI A, nI T, nI S, nI C, nI (T + S), ord, kd, ka, kb, kc, so, sp, sq, ct, cs, vl, tv) (nI i) :=
  br_f (nI_pos (by omega)) (br_f (nI_ge hi (by omega)) (br_t (nI_le (b := 27) (by omega) (by decide)) h))
theorem by_badT1 {post : Int32 → Prop} {x : Int32} (hx : ¬ vp_in x T) (hT : T ≤ 28) (h : post 1) : wpY_badTerm post (nI w, top, nI A, nI T, nI S, nI C, nI (T + S), ord, kd, ka, kb, kc, so, sp, sq, ct, cs, vl, tv) x := by
  by_cases z : x < 0
  · exact br_t z h
  · obtain ⟨j, hj, rfl⟩ := nI_of z
    have hj2 : T ≤ j := Nat.le_of_not_lt fun q => hx (vp_in_nI q (by omega))
    exact br_f z (br_t (nI_le hj2 hj) h)
theorem by_badS0 {post : Int32 → Prop} {i : Nat} (hi : i < S) (hS : S ≤ 16) (h : post 0) : wpY_badTest post (nI w, top, nI A, nI T, nI S, nI C, nI (T + S), ord, kd, ka, kb, kc, so, sp, sq, ct, cs, vl, tv) (nI i) :=
  br_f (nI_pos (by omega)) (br_f (nI_ge hi (by omega)) (br_t (nI_le (b := 15) (by omega) (by decide)) h))
theorem by_badS1 {post : Int32 → Prop} {x : Int32} (hx : ¬ vp_in x S) (hS : S ≤ 16) (h : post 1) : wpY_badTest post (nI w, top, nI A, nI T, nI S, nI C, nI (T + S), ord, kd, ka, kb, kc, so, sp, sq, ct, cs, vl, tv) x := by
  by_cases z : x < 0
  · exact br_t z h
  · obtain ⟨j, hj, rfl⟩ := nI_of z
    have hj2 : S ≤ j := Nat.le_of_not_lt fun q => hx (vp_in_nI q (by omega))
    exact br_f z (br_t (nI_le hj2 hj) h)
theorem by_badN0 {post : Int32 → Prop} {i : Nat} (hi : i < A) (hA : A ≤ 4096) (h : post 0) : wpY_badNumber post (nI w, top, nI A, nI T, nI S, nI C, nI (T + S), ord, kd, ka, kb, kc, so, sp, sq, ct, cs, vl, tv) (nI i) :=
  br_f (nI_pos (by omega)) (br_t (nI_lt hi (by omega)) h)
theorem by_badN1 {post : Int32 → Prop} {x : Int32} (hx : ¬ vp_in x A) (hA : A ≤ 4096) (h : post 1) : wpY_badNumber post (nI w, top, nI A, nI T, nI S, nI C, nI (T + S), ord, kd, ka, kb, kc, so, sp, sq, ct, cs, vl, tv) x := by
  by_cases z : x < 0
  · exact br_t z h
  · obtain ⟨j, hj, rfl⟩ := nI_of z
    have hj2 : A ≤ j := Nat.le_of_not_lt fun q => hx (vp_in_nI q (by omega))
    exact br_f z (br_f (nI_nlt hj2 hj) h)
theorem by_term {post : Int32 → SY → Prop} {k x y z : Int32} (hT : T < 28) (hS : S ≤ 16) (h : post (nI T) (nI w, top, nI A, nI (T + 1), nI S, nI C, nI (T + S + 1), upd ord (T + S) (nI T), upd kd T k, upd ka T x, upd kb T y, upd kc T z, so, sp, sq, ct, cs, vl, tv)) : wpY_term post (nI w, top, nI A, nI T, nI S, nI C, nI (T + S), ord, kd, ka, kb, kc, so, sp, sq, ct, cs, vl, tv) k x y z := by
  have hin : vp_in (nI T) 28 := vp_in_nI hT (by decide)
  unfold wpY_term; dsimp only
  rw [nI_clamp (show T < 2 ^ 31 by omega), nI_clamp (show T + S < 2 ^ 31 by omega)]
  exact br_t (nI_le (b := 27) (by omega) (by decide)) ⟨hin, nm_e ⟨hin, nm_e ⟨hin, nm_e ⟨hin, nm_e ⟨vp_in_nI (by omega) (by decide), nm_e (nm_r (nI_1 _) (nm_r (nI_1 _) h))⟩⟩⟩⟩⟩
theorem by_termF {post : Int32 → SY → Prop} {k x y z : Int32} (hT : T = 28) (h : post (-2) (nI w, top, nI A, nI T, nI S, nI C, nI (T + S), ord, kd, ka, kb, kc, so, sp, sq, ct, cs, vl, tv)) : wpY_term post (nI w, top, nI A, nI T, nI S, nI C, nI (T + S), ord, kd, ka, kb, kc, so, sp, sq, ct, cs, vl, tv) k x y z := by
  subst hT
  exact br_f (by decide) h
theorem by_test {post : Int32 → SY → Prop} {k x y : Int32} (hT : T ≤ 28) (hS : S < 16) (h : post (nI S) (nI w, top, nI A, nI T, nI (S + 1), nI C, nI (T + S + 1), upd ord (T + S) (nI (100 + S)), kd, ka, kb, kc, upd so S k, upd sp S x, upd sq S y, ct, cs, vl, tv)) : wpY_test post (nI w, top, nI A, nI T, nI S, nI C, nI (T + S), ord, kd, ka, kb, kc, so, sp, sq, ct, cs, vl, tv) k x y := by
  have hin : vp_in (nI S) 16 := vp_in_nI hS (by decide)
  unfold wpY_test; dsimp only
  rw [nI_clamp (show S < 2 ^ 31 by omega), nI_clamp (show T + S < 2 ^ 31 by omega), show (100 : Int32) = nI 100 by decide, nI_add]
  exact br_t (nI_le (b := 15) (by omega) (by decide)) ⟨hin, nm_e ⟨hin, nm_e ⟨hin, nm_e ⟨vp_in_nI (by omega) (by decide), nm_e (nm_r (nI_1 _) (nm_r (nI_1 _) h))⟩⟩⟩⟩
end
end
section
section
variable {w A T S C : Nat} {M top : Int32} {wd bo ct cs ord kd ka kb kc so sp sq vl tv : Nat → Int32}
theorem bx_word {post : Int32 → Prop} {i x : Nat} (hi : i < 28) (hx : x < 4096) (h : post (wd (i * 4096 + x))) : wpX_wordAt post (nI w, M, nI A, nI T, nI S, nI C, wd, bo, ct, cs, 114688, 65536) (nI i) (nI x) := by
  unfold wpX_wordAt; dsimp only
  rw [bb_ixc hi hx]
  exact ⟨bb_inW hi hx, h⟩
theorem bx_truth {post : Int32 → Prop} {i x : Nat} (hi : i < 16) (hx : x < 4096) (hb : bo (i * 4096 + x) = 0 ∨ bo (i * 4096 + x) = 1) (h : post (bo (i * 4096 + x))) : wpX_truthAt post (nI w, M, nI A, nI T, nI S, nI C, wd, bo, ct, cs, 114688, 65536) (nI i) (nI x) := by
  unfold wpX_truthAt; dsimp only
  rw [bb_ixc (by omega) hx]
  exact ⟨bb_inB hi hx, bb_n01 hb, h⟩
theorem bx_setW {post : SX → Prop} {x : Nat} {v : Int32} (hT : T < 28) (hx : x < 4096) (hM : ∀ v, vp_nar .byte ((v &&& M).toInt8.toInt32) = v &&& M) (h : post (nI w, M, nI A, nI T, nI S, nI C, upd wd (T * 4096 + x) (v &&& M), bo, ct, cs, 114688, 65536)) : wpX_setNewWord post (nI w, M, nI A, nI T, nI S, nI C, wd, bo, ct, cs, 114688, 65536) (nI x) v := by
  unfold wpX_setNewWord; dsimp only
  rw [bb_ixc hT hx, hM v]
  exact ⟨bb_inW hT hx, nm_e h⟩
theorem bx_setB {post : SX → Prop} {x : Nat} {v : Int32} (hS : S < 16) (hx : x < 4096) (hv : v = 0 ∨ v = 1) (h : post (nI w, M, nI A, nI T, nI S, nI C, wd, upd bo (S * 4096 + x) v, ct, cs, 114688, 65536)) : wpX_setNewTruth post (nI w, M, nI A, nI T, nI S, nI C, wd, bo, ct, cs, 114688, 65536) (nI x) v := by
  unfold wpX_setNewTruth; dsimp only
  rw [bb_ixc (by omega) hx, bb_b01 hv]
  exact ⟨bb_inB hS hx, nm_e h⟩
theorem bx_addT {post : Int32 → SX → Prop} (h : post (nI T) (nI w, M, nI A, nI (T + 1), nI S, nI C, wd, bo, ct, cs, 114688, 65536)) : wpX_addTerm post (nI w, M, nI A, nI T, nI S, nI C, wd, bo, ct, cs, 114688, 65536) := by
  unfold wpX_addTerm; dsimp only
  refine nm_r (nI_1 T) ?_
  rw [nI_pred]; exact h
theorem bx_addS {post : Int32 → SX → Prop} (h : post (nI S) (nI w, M, nI A, nI T, nI (S + 1), nI C, wd, bo, ct, cs, 114688, 65536)) : wpX_addTest post (nI w, M, nI A, nI T, nI S, nI C, wd, bo, ct, cs, 114688, 65536) := by
  unfold wpX_addTest; dsimp only
  refine nm_r (nI_1 S) ?_
  rw [nI_pred]; exact h
theorem bx_isT1 {post : Int32 → Prop} {i : Nat} (hi : i < T) (hT : T ≤ 28) (h : post 1) : wpX_isTerm post (nI w, M, nI A, nI T, nI S, nI C, wd, bo, ct, cs, 114688, 65536) (nI i) :=
  br_f (nI_pos (by omega)) (br_f (nI_ge hi (by omega)) h)
theorem bx_isT0 {post : Int32 → Prop} {x : Int32} (hx : ¬ vp_in x T) (hT : T ≤ 28) (h : post 0) : wpX_isTerm post (nI w, M, nI A, nI T, nI S, nI C, wd, bo, ct, cs, 114688, 65536) x := by
  by_cases z : x < 0
  · exact br_t z h
  · obtain ⟨j, hj, rfl⟩ := nI_of z
    have hj2 : T ≤ j := Nat.le_of_not_lt fun q => hx (vp_in_nI q (by omega))
    exact br_f z (br_t (nI_le hj2 hj) h)
theorem bx_isS1 {post : Int32 → Prop} {i : Nat} (hi : i < S) (hS : S ≤ 16) (h : post 1) : wpX_isTest post (nI w, M, nI A, nI T, nI S, nI C, wd, bo, ct, cs, 114688, 65536) (nI i) :=
  br_f (nI_pos (by omega)) (br_f (nI_ge hi (by omega)) h)
theorem bx_isS0 {post : Int32 → Prop} {x : Int32} (hx : ¬ vp_in x S) (hS : S ≤ 16) (h : post 0) : wpX_isTest post (nI w, M, nI A, nI T, nI S, nI C, wd, bo, ct, cs, 114688, 65536) x := by
  by_cases z : x < 0
  · exact br_t z h
  · obtain ⟨j, hj, rfl⟩ := nI_of z
    have hj2 : S ≤ j := Nat.le_of_not_lt fun q => hx (vp_in_nI q (by omega))
    exact br_f z (br_t (nI_le hj2 hj) h)
theorem bx_isA1 {post : Int32 → Prop} {i : Nat} (hi : i < A) (hA : A ≤ 4096) (h : post 1) : wpX_isAssignment post (nI w, M, nI A, nI T, nI S, nI C, wd, bo, ct, cs, 114688, 65536) (nI i) :=
  br_f (nI_pos (by omega)) (br_f (nI_ge hi (by omega)) h)
theorem bx_isA0 {post : Int32 → Prop} {x : Int32} (hx : ¬ vp_in x A) (hA : A ≤ 4096) (h : post 0) : wpX_isAssignment post (nI w, M, nI A, nI T, nI S, nI C, wd, bo, ct, cs, 114688, 65536) x := by
  by_cases z : x < 0
  · exact br_t z h
  · obtain ⟨j, hj, rfl⟩ := nI_of z
    have hj2 : A ≤ j := Nat.le_of_not_lt fun q => hx (vp_in_nI q (by omega))
    exact br_f z (br_t (nI_le hj2 hj) h)
theorem bx_solL {post : Int32 → Prop} {x : Nat} (hx : x < A) (hA : A ≤ 4096) (hC : C ≤ 10) (hS : S ≤ 16) (hct : ∀ i, i < C → vp_in (ct i) S) (hb : ∀ j, j < S → ∀ x, x < A → bo (j * 4096 + x) = 0 ∨ bo (j * 4096 + x) = 1) (h1 : bb_Sol C ct cs bo x → post 1) (h0 : ¬ bb_Sol C ct cs bo x → post 0) :
    ∀ d i, i + d = C → (∀ i', i' < i → bo ((ct i').toNatClampNeg * 4096 + x) = cs i') → wX_isSolution_2 post (nI x) (nI w) M (nI A) (nI T) (nI S) (nI C) wd bo ct cs 114688 65536 (d + 1) (nI i) := by
  intro d
  induction d with
  | zero =>
    intro i hi hp
    rw [wX_isSolution_2]
    have e : i = C := by omega
    subst e
    exact br_t (nI_le (Nat.le_refl _) (by omega)) (h1 hp)
  | succ d ih =>
    intro i hi hp
    rw [wX_isSolution_2]
    obtain ⟨j, hj, e⟩ := vp_in_of (hct i (by omega)) (by omega)
    refine br_f (nI_ge (by omega) (by omega)) ⟨vp_in_nI (by omega) (by decide), ?_⟩
    rw [nI_clamp (by omega), e]
    refine bx_truth (by omega) (by omega) (hb j hj x hx) ⟨vp_in_nI (by omega) (by decide), ?_⟩
    have e2 : (ct i).toNatClampNeg = j := by rw [e, nI_clamp (by omega)]
    by_cases z : bo (j * 4096 + x) = cs i
    · refine br_t z (nm_r (nI_1 i) (ih (i + 1) (by omega) (lt_s hp (by rw [e2]; exact z))))
    · exact br_f z (h0 fun q => z (by have := q i (by omega); rwa [e2] at this))
theorem bx_sol {post : Int32 → Prop} {x : Nat} (hx : x < A) (hA : A ≤ 4096) (hC : C ≤ 10) (hS : S ≤ 16) (hct : ∀ i, i < C → vp_in (ct i) S) (hb : ∀ j, j < S → ∀ x, x < A → bo (j * 4096 + x) = 0 ∨ bo (j * 4096 + x) = 1) (h1 : bb_Sol C ct cs bo x → post 1) (h0 : ¬ bb_Sol C ct cs bo x → post 0) : wpX_isSolution post (nI w, M, nI A, nI T, nI S, nI C, wd, bo, ct, cs, 114688, 65536) (nI x) :=
  ⟨C + 1, bx_solL hx hA hC hS hct hb h1 h0 C 0 (by omega) (fun i hi => by omega)⟩
theorem bx_comb {post : Int32 → Prop} {x y : Int32} : ∀ j, j ≤ 5 → post (bb_join (nI j) x y) → wpX_combineWords post (nI j) x y
  | 0, _, h => br_f (by decide) (br_f (by decide) (br_t (by decide) h))
  | 1, _, h => br_f (by decide) (br_f (by decide) (br_f (by decide) (br_t (by decide) h)))
  | 2, _, h => br_f (by decide) (br_f (by decide) (br_f (by decide) (br_f (by decide) (br_t (by decide) h))))
  | 3, _, h => br_f (by decide) (br_f (by decide) (br_f (by decide) (br_f (by decide) (br_f (by decide) (br_t (by decide) h)))))
  | 4, _, h => br_f (by decide) (br_f (by decide) (br_f (by decide) (br_f (by decide) (br_f (by decide) (br_f (by decide) (br_t (by decide) h))))))
  | 5, _, h => br_f (by decide) (br_t (by decide) h)
  | n + 6, hn, _ => absurd hn (by omega)
theorem bx_con {post : Int32 → Prop} {x y : Int32} : ∀ j, j ≤ 2 → post (bb_con (nI j + 3) x y) → wpX_connectTruths post (nI j) x y
  | 0, _, h => by
    refine br_t (by decide) ?_
    have h' : post (if x = 0 then 0 else if y = 0 then 0 else 1) := h
    by_cases x0 : x = 0
    · rw [if_pos x0] at h'; exact br_t x0 h'
    · rw [if_neg x0] at h'; refine br_f x0 ?_
      by_cases y0 : y = 0
      · rw [if_pos y0] at h'; exact br_t y0 h'
      · rw [if_neg y0] at h'; exact br_f y0 h'
  | 1, _, h => by
    refine br_f (by decide) (br_t (by decide) ?_)
    have h' : post (if x = 0 then (if y = 0 then 0 else 1) else 1) := h
    by_cases x0 : x = 0
    · rw [if_pos x0] at h'; refine br_t x0 ?_
      by_cases y0 : y = 0
      · rw [if_pos y0] at h'; exact br_t y0 h'
      · rw [if_neg y0] at h'; exact br_f y0 h'
    · rw [if_neg x0] at h'; exact br_f x0 h'
  | 2, _, h => by
    refine br_f (by decide) (br_f (by decide) ?_)
    have h' : post (if x = y then 0 else 1) := h
    by_cases z : x = y
    · rw [if_pos z] at h'; exact br_t z h'
    · rw [if_neg z] at h'; exact br_f z h'
  | n + 3, hn, _ => absurd hn (by omega)
theorem bb_sgn : ∀ w, w < 5 → 1 ≤ w → ∀ j, j < 16 → (nI j < (1 : Int32) <<< ((nI w - 1) &&& 31) ↔ 2 * nI j < nI (2 ^ w)) := by decide +kernel
theorem bb_mk1 : ∀ w, w < 5 → nI (2 ^ w - 1) + 1 = nI (2 ^ w) := by decide +kernel
theorem bx_signed {post : Int32 → Prop} {j : Nat} (hw1 : 1 ≤ w) (hw : w ≤ 4) (hj : j < 2 ^ w) (h : post (bb_sg (nI (2 ^ w)) (nI j))) : wpX_signed post (nI w, nI (2 ^ w - 1), nI A, nI T, nI S, nI C, wd, bo, ct, cs, 114688, 65536) (nI j) := by
  have hj2 : j < 16 := Nat.lt_of_lt_of_le hj (bb_p16 hw)
  unfold wpX_signed; dsimp only
  refine nm_e ?_
  rw [bb_sgn w (by omega) hw1 j hj2, bb_mk1 w (by omega)]
  unfold bb_sg at h
  by_cases z : 2 * nI j < nI (2 ^ w)
  · rw [if_pos z] at h; exact br_t z h
  · rw [if_neg z] at h; exact br_f z h
theorem bx_cmp {post : Int32 → Prop} {i j : Nat} {k : Int32} (hw1 : 1 ≤ w) (hw : w ≤ 4) (hi : i < 2 ^ w) (hj : j < 2 ^ w) (h : post (bb_cmp (nI (2 ^ w)) k (nI i) (nI j))) : wpX_compareWords post (nI w, nI (2 ^ w - 1), nI A, nI T, nI S, nI C, wd, bo, ct, cs, 114688, 65536) k (nI i) (nI j) := by
  unfold bb_cmp at h
  by_cases e0 : k = 0
  · rw [if_pos e0] at h; refine br_t e0 ?_
    by_cases z : nI i = nI j
    · rw [if_pos z] at h; exact br_t z h
    · rw [if_neg z] at h; exact br_f z h
  · rw [if_neg e0] at h; refine br_f e0 ?_
    by_cases e1 : k = 1
    · rw [if_pos e1] at h; refine br_t e1 ?_
      by_cases z : nI j ≤ nI i
      · rw [if_pos z] at h; exact br_t z h
      · rw [if_neg z] at h; exact br_f z h
    · rw [if_neg e1] at h; refine br_f e1 ?_
      refine bx_signed hw1 hw hi (bx_signed hw1 hw hj ?_)
      by_cases z : bb_sg (nI (2 ^ w)) (nI j) ≤ bb_sg (nI (2 ^ w)) (nI i)
      · rw [if_pos z] at h; exact br_t z h
      · rw [if_neg z] at h; exact br_f z h
end
end
section
section
variable {w A T S C : Nat} {M top : Int32} {wd bo ct cs g : Nat → Int32}
theorem bx_variable {post : Int32 → SX → Prop} {sh : Int32} (hT : T < 28) (hA : A ≤ 4096) (hM : ∀ v, vp_nar .byte ((v &&& M).toInt8.toInt32) = v &&& M) (hg : ∀ x, x < A → g x = (nI x >>> (sh &&& 31)) &&& M) (h : post (nI T) (nI w, M, nI A, nI (T + 1), nI S, nI C, bb_fill wd g T A, bo, ct, cs, 114688, 65536)) :
    ∀ d n, n + d = A → wX_variable_34 post sh (d + 1) (nI n) (nI w) M (nI A) (nI T) (nI S) (nI C) (bb_fill wd g T n) bo ct cs 114688 65536 := by
  intro d
  induction d with
  | zero =>
    intro n hn
    have e : n = A := by omega
    subst e
    rw [wX_variable_34]
    exact br_t (nI_le (Nat.le_refl _) (by omega)) (bx_addT h)
  | succ d ih =>
    intro n hn
    rw [wX_variable_34]
    refine br_f (nI_ge (by omega) (by omega)) (bx_setW hT (by omega) hM ?_)
    refine nm_r (nI_1 n) ?_
    rw [← hg n (by omega), bb_fillS]
    exact ih (n + 1) (by omega)
theorem bx_constant {post : Int32 → SX → Prop} {v : Int32} (hT : T < 28) (hA : A ≤ 4096) (hM : ∀ v, vp_nar .byte ((v &&& M).toInt8.toInt32) = v &&& M) (hg : ∀ x, x < A → g x = v &&& M) (h : post (nI T) (nI w, M, nI A, nI (T + 1), nI S, nI C, bb_fill wd g T A, bo, ct, cs, 114688, 65536)) :
    ∀ d n, n + d = A → wX_constant_14 post v (d + 1) (nI n) (nI w) M (nI A) (nI T) (nI S) (nI C) (bb_fill wd g T n) bo ct cs 114688 65536 := by
  intro d
  induction d with
  | zero =>
    intro n hn
    have e : n = A := by omega
    subst e
    rw [wX_constant_14]
    exact br_t (nI_le (Nat.le_refl _) (by omega)) (bx_addT h)
  | succ d ih =>
    intro n hn
    rw [wX_constant_14]
    refine br_f (nI_ge (by omega) (by omega)) (bx_setW hT (by omega) hM ?_)
    refine nm_r (nI_1 n) ?_
    rw [← hg n (by omega), bb_fillS]
    exact ih (n + 1) (by omega)
theorem bx_combine {post : Int32 → SX → Prop} {k i j : Nat} (hk : k ≤ 5) (hi : i < T) (hj : j < T) (hT : T < 28) (hA : A ≤ 4096) (hM : ∀ v, vp_nar .byte ((v &&& M).toInt8.toInt32) = v &&& M) (hg : ∀ x, x < A → g x = bb_join (nI k) (wd (i * 4096 + x)) (wd (j * 4096 + x)) &&& M) (h : post (nI T) (nI w, M, nI A, nI (T + 1), nI S, nI C, bb_fill wd g T A, bo, ct, cs, 114688, 65536)) :
    ∀ d n, n + d = A → wX_combine_45 post (nI k) (nI i) (nI j) (d + 1) (nI n) (nI w) M (nI A) (nI T) (nI S) (nI C) (bb_fill wd g T n) bo ct cs 114688 65536 := by
  intro d
  induction d with
  | zero =>
    intro n hn
    have e : n = A := by omega
    subst e
    rw [wX_combine_45]
    exact br_t (nI_le (Nat.le_refl _) (by omega)) (bx_addT h)
  | succ d ih =>
    intro n hn
    rw [wX_combine_45]
    refine br_f (nI_ge (by omega) (by omega)) (bx_word (by omega) (by omega) (bx_word (by omega) (by omega) (bx_comb k hk (bx_setW hT (by omega) hM ?_))))
    refine nm_r (nI_1 n) ?_
    rw [bb_fillL hi (by omega), bb_fillL hj (by omega), ← hg n (by omega), bb_fillS]
    exact ih (n + 1) (by omega)
theorem bx_invert {post : Int32 → SX → Prop} {i : Nat} (hi : i < T) (hT : T < 28) (hA : A ≤ 4096) (hM : ∀ v, vp_nar .byte ((v &&& M).toInt8.toInt32) = v &&& M) (hg : ∀ x, x < A → g x = (wd (i * 4096 + x) ^^^ (-1)) &&& M) (h : post (nI T) (nI w, M, nI A, nI (T + 1), nI S, nI C, bb_fill wd g T A, bo, ct, cs, 114688, 65536)) :
    ∀ d n, n + d = A → wX_invert_25 post (nI i) (d + 1) (nI n) (nI w) M (nI A) (nI T) (nI S) (nI C) (bb_fill wd g T n) bo ct cs 114688 65536 := by
  intro d
  induction d with
  | zero =>
    intro n hn
    have e : n = A := by omega
    subst e
    rw [wX_invert_25]
    exact br_t (nI_le (Nat.le_refl _) (by omega)) (bx_addT h)
  | succ d ih =>
    intro n hn
    rw [wX_invert_25]
    refine br_f (nI_ge (by omega) (by omega)) (bx_word (by omega) (by omega) (bx_setW hT (by omega) hM ?_))
    refine nm_r (nI_1 n) ?_
    rw [bb_fillL hi (by omega), ← hg n (by omega), bb_fillS]
    exact ih (n + 1) (by omega)
theorem bx_shift {post : Int32 → SX → Prop} {i : Nat} {b : Int32} (hi : i < T) (hT : T < 28) (hA : A ≤ 4096) (hM : ∀ v, vp_nar .byte ((v &&& M).toInt8.toInt32) = v &&& M) (hg : ∀ x, x < A → g x = (if b < 0 then wd (i * 4096 + x) >>> ((-b) &&& 31) else wd (i * 4096 + x) <<< (b &&& 31)) &&& M) (h : post (nI T) (nI w, M, nI A, nI (T + 1), nI S, nI C, bb_fill wd g T A, bo, ct, cs, 114688, 65536)) :
    ∀ d n, n + d = A → wX_shift_38 post (nI i) b (d + 1) (nI n) (nI w) M (nI A) (nI T) (nI S) (nI C) (bb_fill wd g T n) bo ct cs 114688 65536 := by
  intro d
  induction d with
  | zero =>
    intro n hn
    have e : n = A := by omega
    subst e
    rw [wX_shift_38]
    exact br_t (nI_le (Nat.le_refl _) (by omega)) (bx_addT h)
  | succ d ih =>
    intro n hn
    rw [wX_shift_38]
    refine br_f (nI_ge (by omega) (by omega)) (bx_word (by omega) (by omega) ?_)
    have hgn := hg n (by omega)
    by_cases z : b < 0
    · refine br_t z ?_
      unfold wX_shift_72
      refine bx_setW hT (by omega) hM (nm_r (nI_1 n) ?_)
      rw [if_pos z] at hgn
      rw [bb_fillL hi (by omega), ← hgn, bb_fillS]
      exact ih (n + 1) (by omega)
    · refine br_f z ?_
      unfold wX_shift_72
      refine bx_setW hT (by omega) hM (nm_r (nI_1 n) ?_)
      rw [if_neg z] at hgn
      rw [bb_fillL hi (by omega), ← hgn, bb_fillS]
      exact ih (n + 1) (by omega)
theorem bx_choose {post : Int32 → SX → Prop} {s i j : Nat} (hs : s < S) (hS : S ≤ 16) (hi : i < T) (hj : j < T) (hT : T < 28) (hA : A ≤ 4096) (hb : ∀ j, j < S → ∀ x, x < A → bo (j * 4096 + x) = 0 ∨ bo (j * 4096 + x) = 1) (hM : ∀ v, vp_nar .byte ((v &&& M).toInt8.toInt32) = v &&& M) (hg : ∀ x, x < A → g x = (if bo (s * 4096 + x) = 0 then wd (j * 4096 + x) else wd (i * 4096 + x)) &&& M) (h : post (nI T) (nI w, M, nI A, nI (T + 1), nI S, nI C, bb_fill wd g T A, bo, ct, cs, 114688, 65536)) :
    ∀ d n, n + d = A → wX_choose_44 post (nI s) (nI i) (nI j) (d + 1) (nI n) (nI w) M (nI A) (nI T) (nI S) (nI C) (bb_fill wd g T n) bo ct cs 114688 65536 := by
  intro d
  induction d with
  | zero =>
    intro n hn
    have e : n = A := by omega
    subst e
    rw [wX_choose_44]
    exact br_t (nI_le (Nat.le_refl _) (by omega)) (bx_addT h)
  | succ d ih =>
    intro n hn
    rw [wX_choose_44]
    refine br_f (nI_ge (by omega) (by omega)) (bx_truth (by omega) (by omega) (hb s hs n (by omega)) ?_)
    have hgn := hg n (by omega)
    by_cases z : bo (s * 4096 + n) = 0
    · refine br_t z ?_
      unfold wX_choose_68
      refine bx_word (by omega) (by omega) (bx_setW hT (by omega) hM (nm_r (nI_1 n) ?_))
      rw [if_pos z] at hgn
      rw [bb_fillL hj (by omega), ← hgn, bb_fillS]
      exact ih (n + 1) (by omega)
    · refine br_f z ?_
      unfold wX_choose_68
      refine bx_word (by omega) (by omega) (bx_setW hT (by omega) hM (nm_r (nI_1 n) ?_))
      rw [if_neg z] at hgn
      rw [bb_fillL hi (by omega), ← hgn, bb_fillS]
      exact ih (n + 1) (by omega)
theorem bx_compare {post : Int32 → SX → Prop} {i j : Nat} {k : Int32} (hw1 : 1 ≤ w) (hw : w ≤ 4) (hi : i < T) (hj : j < T) (hT : T ≤ 28) (hS : S < 16) (hA : A ≤ 4096) (hr : ∀ i, i < T → ∀ x, x < A → ∃ v, v < 2 ^ w ∧ wd (i * 4096 + x) = nI v) (hg : ∀ x, x < A → g x = bb_cmp (nI (2 ^ w)) k (wd (i * 4096 + x)) (wd (j * 4096 + x))) (h : post (nI S) (nI w, nI (2 ^ w - 1), nI A, nI T, nI (S + 1), nI C, wd, bb_fill bo g S A, ct, cs, 114688, 65536)) :
    ∀ d n, n + d = A → wX_compare_45 post k (nI i) (nI j) (d + 1) (nI n) (nI w) (nI (2 ^ w - 1)) (nI A) (nI T) (nI S) (nI C) wd (bb_fill bo g S n) ct cs 114688 65536 := by
  intro d
  induction d with
  | zero =>
    intro n hn
    have e : n = A := by omega
    subst e
    rw [wX_compare_45]
    exact br_t (nI_le (Nat.le_refl _) (by omega)) (bx_addS h)
  | succ d ih =>
    intro n hn
    rw [wX_compare_45]
    obtain ⟨a, ha, ea⟩ := hr i hi n (by omega)
    obtain ⟨b, hb, eb⟩ := hr j hj n (by omega)
    refine br_f (nI_ge (by omega) (by omega)) (bx_word (by omega) (by omega) (bx_word (by omega) (by omega) ?_))
    have hgn := hg n (by omega)
    rw [ea, eb] at hgn
    rw [ea, eb]
    refine bx_cmp hw1 hw ha hb (bx_setB hS (by omega) (bb_cmp01 _ _ _ _) (nm_r (nI_1 n) ?_))
    rw [← hgn, bb_fillS]
    exact ih (n + 1) (by omega)
theorem bx_connect {post : Int32 → SX → Prop} {k i j : Nat} (hk : k ≤ 2) (hi : i < S) (hj : j < S) (hS : S < 16) (hA : A ≤ 4096) (hb : ∀ j, j < S → ∀ x, x < A → bo (j * 4096 + x) = 0 ∨ bo (j * 4096 + x) = 1) (hg : ∀ x, x < A → g x = bb_con (nI k + 3) (bo (i * 4096 + x)) (bo (j * 4096 + x))) (h : post (nI S) (nI w, M, nI A, nI T, nI (S + 1), nI C, wd, bb_fill bo g S A, ct, cs, 114688, 65536)) :
    ∀ d n, n + d = A → wX_connect_45 post (nI k) (nI i) (nI j) (d + 1) (nI n) (nI w) M (nI A) (nI T) (nI S) (nI C) wd (bb_fill bo g S n) ct cs 114688 65536 := by
  intro d
  induction d with
  | zero =>
    intro n hn
    have e : n = A := by omega
    subst e
    rw [wX_connect_45]
    exact br_t (nI_le (Nat.le_refl _) (by omega)) (bx_addS h)
  | succ d ih =>
    intro n hn
    rw [wX_connect_45]
    have e1 : bb_fill bo g S n (i * 4096 + n) = bo (i * 4096 + n) := bb_fillL hi (by omega)
    have e2 : bb_fill bo g S n (j * 4096 + n) = bo (j * 4096 + n) := bb_fillL hj (by omega)
    refine br_f (nI_ge (by omega) (by omega)) (bx_truth (by omega) (by omega) (by rw [e1]; exact hb i hi n (by omega)) (bx_truth (by omega) (by omega) (by rw [e2]; exact hb j hj n (by omega)) (bx_con k hk ?_)))
    rw [e1, e2]
    refine bx_setB hS (by omega) (bb_con01 _ _ _) (nm_r (nI_1 n) ?_)
    rw [← hg n (by omega), bb_fillS]
    exact ih (n + 1) (by omega)
end
end
section
def bb_I (w T S C : Nat) (wd bo ct ord kd ka kb kc so sp sq : Nat → Int32) : Prop :=
  1 ≤ w ∧ w ≤ 4 ∧ T ≤ 28 ∧ S ≤ 16 ∧ C ≤ 10 ∧ (∀ i, i < C → vp_in (ct i) S) ∧ bb_H ord (bb_P w (2 ^ (3 * w)) (nI (2 ^ w - 1)) kd ka kb kc wd bo) (bb_Q (2 ^ (3 * w)) (nI (2 ^ w)) so sp sq wd bo) (T + S) T S
/-- both sides keep width, counts and constraints alike; the class's rows hold what the reference works out of its lists -/
def i_Rel (k : Nat) (u : SX) (v : SY) : Prop := ∃ (w T S C : Nat) (wd bo ct cs ord kd ka kb kc so sp sq vl tv : Nat → Int32), u = (nI w, nI (2 ^ w - 1), nI (2 ^ (3 * w)), nI T, nI S, nI C, wd, bo, ct, cs, 114688, 65536) ∧ v = (nI w, nI (2 ^ w), nI (2 ^ (3 * w)), nI T, nI S, nI C, nI (T + S), ord, kd, ka, kb, kc, so, sp, sq, ct, cs, vl, tv) ∧ bb_I w T S C wd bo ct ord kd ka kb kc so sp sq
theorem i_up {k : Nat} {u : SX} {v : SY} (h : i_Rel k u v) : i_Rel (k + 4) u v := h
theorem bb_A {w : Nat} (hw : w ≤ 4) : 2 ^ (3 * w) ≤ 4096 := Nat.pow_le_pow_right (n := 2) (by decide) (show 3 * w ≤ 12 by omega)
theorem bb_tm : ∀ w, w < 5 → nI (2 ^ w) - 1 = nI (2 ^ w - 1) := by decide +kernel
section
variable {w T S C : Nat} {wd bo ct cs ord kd ka kb kc so sp sq vl tv : Nat → Int32}
theorem bb_Ib (I : bb_I w T S C wd bo ct ord kd ka kb kc so sp sq) : ∀ j, j < S → ∀ x, x < 2 ^ (3 * w) → bo (j * 4096 + x) = 0 ∨ bo (j * 4096 + x) = 1 := by
  intro j hj x hx
  obtain ⟨t', _, hv⟩ := bb_HQ _ _ _ I.2.2.2.2.2.2 j hj
  rw [hv x hx]; exact bb_tv01 _ _ _ _ _ _
theorem bb_Ir (I : bb_I w T S C wd bo ct ord kd ka kb kc so sp sq) : ∀ i, i < T → ∀ x, x < 2 ^ (3 * w) → ∃ v, v < 2 ^ w ∧ wd (i * 4096 + x) = nI v := by
  intro i hi x hx
  obtain ⟨s', _, hv⟩ := bb_HP _ _ _ I.2.2.2.2.2.2 i hi
  rw [hv x hx]; exact pk_andE _ w (bb_mtn I.2.1)
theorem bb_addT {k x y z : Int32} {g : Nat → Int32} (I : bb_I w T S C wd bo ct ord kd ka kb kc so sp sq) (hT : T < 28) (hw : bb_wf T S k x y z) (hg : ∀ n, n < 2 ^ (3 * w) → g n = bb_val (nI w) k x y z (bb_row wd n) (bb_row bo n) (nI n) &&& nI (2 ^ w - 1)) :
    bb_I w (T + 1) S C (bb_fill wd g T (2 ^ (3 * w))) bo ct (upd ord (T + S) (nI T)) (upd kd T k) (upd ka T x) (upd kb T y) (upd kc T z) so sp sq := by
  obtain ⟨hw1, hw4, h28, h16, h10, hct, hH⟩ := I
  have hA := bb_A hw4
  have hl : ∀ n, n < 2 ^ (3 * w) → ∀ j, j < T → bb_row (bb_fill wd g T (2 ^ (3 * w))) n j = bb_row wd n j := fun n hn j hj => bb_fillL hj (by omega)
  refine ⟨hw1, hw4, by omega, h16, h10, hct, ?_⟩
  rw [show T + 1 + S = T + S + 1 by omega]
  refine Or.inl ⟨T, rfl, bb_Hf _ _ _ (fun j hj => pk_un (by omega)) (fun t' s' ht hs hp => ?_) (fun t' s' ht hs hq => ?_) hH, pk_us, ?_, fun n hn => ?_⟩
  · have e : t' ≠ T := by omega
    unfold bb_P; rw [pk_un e, pk_un e, pk_un e, pk_un e]
    refine ⟨hp.1, fun n hn => ?_⟩
    rw [bb_valc hp.1 (V := bb_row wd n) (B := bb_row bo n) (fun j hj => hl n hn j (by omega)) (fun j hj => rfl), ← hp.2 n hn]
    exact bb_fillL ht (by omega)
  · refine ⟨hq.1, fun n hn => ?_⟩
    rw [bb_tvc hq.1 (V := bb_row wd n) (B := bb_row bo n) (fun j hj => hl n hn j (by omega)) (fun j hj => rfl)]
    exact hq.2 n hn
  · rw [pk_us, pk_us, pk_us, pk_us]; exact hw
  · rw [pk_us, pk_us, pk_us, pk_us, bb_fillI hn, bb_valc hw (V := bb_row wd n) (B := bb_row bo n) (fun j hj => hl n hn j hj) (fun j hj => rfl)]
    exact hg n hn
theorem bb_addS {k x y : Int32} {g : Nat → Int32} (I : bb_I w T S C wd bo ct ord kd ka kb kc so sp sq) (hS : S < 16) (hw : bb_wft T S k x y) (hg : ∀ n, n < 2 ^ (3 * w) → g n = bb_tv (nI (2 ^ w)) k x y (bb_row wd n) (bb_row bo n)) :
    bb_I w T (S + 1) C wd (bb_fill bo g S (2 ^ (3 * w))) ct (upd ord (T + S) (nI (100 + S))) kd ka kb kc (upd so S k) (upd sp S x) (upd sq S y) := by
  obtain ⟨hw1, hw4, h28, h16, h10, hct, hH⟩ := I
  have hA := bb_A hw4
  have hl : ∀ n, n < 2 ^ (3 * w) → ∀ j, j < S → bb_row (bb_fill bo g S (2 ^ (3 * w))) n j = bb_row bo n j := fun n hn j hj => bb_fillL hj (by omega)
  refine ⟨hw1, hw4, h28, by omega, h10, fun i hi => bb_inm (hct i hi) (by omega), ?_⟩
  refine Or.inr ⟨S, rfl, bb_Hf _ _ _ (fun j hj => pk_un (Nat.ne_of_lt hj)) (fun t' s' ht hs hp => ?_) (fun t' s' ht hs hq => ?_) hH, pk_us, ?_, fun n hn => ?_⟩
  · refine ⟨hp.1, fun n hn => ?_⟩
    rw [bb_valc hp.1 (V := bb_row wd n) (B := bb_row bo n) (fun j hj => rfl) (fun j hj => hl n hn j (by omega))]
    exact hp.2 n hn
  · have e : s' ≠ S := by omega
    unfold bb_Q; rw [pk_un e, pk_un e, pk_un e]
    refine ⟨hq.1, fun n hn => ?_⟩
    rw [bb_tvc hq.1 (V := bb_row wd n) (B := bb_row bo n) (fun j hj => rfl) (fun j hj => hl n hn j (by omega)), ← hq.2 n hn]
    exact bb_fillL hs (by omega)
  · rw [pk_us, pk_us, pk_us]; exact hw
  · rw [pk_us, pk_us, pk_us, bb_fillI hn, bb_tvc hw (V := bb_row wd n) (B := bb_row bo n) (fun j hj => rfl) (fun j hj => hl n hn j hj)]
    exact hg n hn
theorem bb_relT {q : Nat} {k x y z : Int32} {g : Nat → Int32} (I : bb_I w T S C wd bo ct ord kd ka kb kc so sp sq) (hT : T < 28) (hw : bb_wf T S k x y z) (hg : ∀ n, n < 2 ^ (3 * w) → g n = bb_val (nI w) k x y z (bb_row wd n) (bb_row bo n) (nI n) &&& nI (2 ^ w - 1)) :
    i_Rel q (nI w, nI (2 ^ w - 1), nI (2 ^ (3 * w)), nI (T + 1), nI S, nI C, bb_fill wd g T (2 ^ (3 * w)), bo, ct, cs, 114688, 65536) (nI w, nI (2 ^ w), nI (2 ^ (3 * w)), nI (T + 1), nI S, nI C, nI (T + S + 1), upd ord (T + S) (nI T), upd kd T k, upd ka T x, upd kb T y, upd kc T z, so, sp, sq, ct, cs, vl, tv) := by
  have h := bb_addT I hT hw hg
  refine ⟨w, T + 1, S, C, _, _, _, cs, _, _, _, _, _, _, _, _, vl, tv, rfl, ?_, h⟩
  rw [show T + 1 + S = T + S + 1 by omega]
theorem bb_relS {q : Nat} {k x y : Int32} {g : Nat → Int32} (I : bb_I w T S C wd bo ct ord kd ka kb kc so sp sq) (hS : S < 16) (hw : bb_wft T S k x y) (hg : ∀ n, n < 2 ^ (3 * w) → g n = bb_tv (nI (2 ^ w)) k x y (bb_row wd n) (bb_row bo n)) :
    i_Rel q (nI w, nI (2 ^ w - 1), nI (2 ^ (3 * w)), nI T, nI (S + 1), nI C, wd, bb_fill bo g S (2 ^ (3 * w)), ct, cs, 114688, 65536) (nI w, nI (2 ^ w), nI (2 ^ (3 * w)), nI T, nI (S + 1), nI C, nI (T + S + 1), upd ord (T + S) (nI (100 + S)), kd, ka, kb, kc, upd so S k, upd sp S x, upd sq S y, ct, cs, vl, tv) :=
  ⟨w, T, S + 1, C, _, _, _, _, _, _, _, _, _, _, _, _, _, _, rfl, rfl, bb_addS I hS hw hg⟩
theorem bb_rel {q : Nat} (I : bb_I w T S C wd bo ct ord kd ka kb kc so sp sq) : i_Rel q (nI w, nI (2 ^ w - 1), nI (2 ^ (3 * w)), nI T, nI S, nI C, wd, bo, ct, cs, 114688, 65536) (nI w, nI (2 ^ w), nI (2 ^ (3 * w)), nI T, nI S, nI C, nI (T + S), ord, kd, ka, kb, kc, so, sp, sq, ct, cs, vl, tv) := ⟨w, T, S, C, _, _, _, _, _, _, _, _, _, _, _, _, _, _, rfl, rfl, I⟩
end
end
section
section
variable {w A T S C : Nat} {M top : Int32} {wd bo ct cs : Nat → Int32}
theorem bx_variable0 {post : Int32 → SX → Prop} (g : Nat → Int32) {sh : Int32} (hT : T < 28) (hA : A ≤ 4096) (hM : ∀ v, vp_nar .byte ((v &&& M).toInt8.toInt32) = v &&& M) (hg : ∀ x, x < A → g x = (nI x >>> (sh &&& 31)) &&& M) (h : post (nI T) (nI w, M, nI A, nI (T + 1), nI S, nI C, bb_fill wd g T A, bo, ct, cs, 114688, 65536)) : wX_variable_34 post sh (A + 1) 0 (nI w) M (nI A) (nI T) (nI S) (nI C) wd bo ct cs 114688 65536 := by
  have z := bx_variable (g := g) hT hA hM hg h A 0 (by omega)
  rw [bb_fill0] at z
  exact z
theorem bx_constant0 {post : Int32 → SX → Prop} (g : Nat → Int32) {v : Int32} (hT : T < 28) (hA : A ≤ 4096) (hM : ∀ v, vp_nar .byte ((v &&& M).toInt8.toInt32) = v &&& M) (hg : ∀ x, x < A → g x = v &&& M) (h : post (nI T) (nI w, M, nI A, nI (T + 1), nI S, nI C, bb_fill wd g T A, bo, ct, cs, 114688, 65536)) : wX_constant_14 post v (A + 1) 0 (nI w) M (nI A) (nI T) (nI S) (nI C) wd bo ct cs 114688 65536 := by
  have z := bx_constant (g := g) hT hA hM hg h A 0 (by omega)
  rw [bb_fill0] at z
  exact z
theorem bx_combine0 {post : Int32 → SX → Prop} (g : Nat → Int32) {k i j : Nat} (hk : k ≤ 5) (hi : i < T) (hj : j < T) (hT : T < 28) (hA : A ≤ 4096) (hM : ∀ v, vp_nar .byte ((v &&& M).toInt8.toInt32) = v &&& M) (hg : ∀ x, x < A → g x = bb_join (nI k) (wd (i * 4096 + x)) (wd (j * 4096 + x)) &&& M) (h : post (nI T) (nI w, M, nI A, nI (T + 1), nI S, nI C, bb_fill wd g T A, bo, ct, cs, 114688, 65536)) : wX_combine_45 post (nI k) (nI i) (nI j) (A + 1) 0 (nI w) M (nI A) (nI T) (nI S) (nI C) wd bo ct cs 114688 65536 := by
  have z := bx_combine (g := g) hk hi hj hT hA hM hg h A 0 (by omega)
  rw [bb_fill0] at z
  exact z
theorem bx_invert0 {post : Int32 → SX → Prop} (g : Nat → Int32) {i : Nat} (hi : i < T) (hT : T < 28) (hA : A ≤ 4096) (hM : ∀ v, vp_nar .byte ((v &&& M).toInt8.toInt32) = v &&& M) (hg : ∀ x, x < A → g x = (wd (i * 4096 + x) ^^^ (-1)) &&& M) (h : post (nI T) (nI w, M, nI A, nI (T + 1), nI S, nI C, bb_fill wd g T A, bo, ct, cs, 114688, 65536)) : wX_invert_25 post (nI i) (A + 1) 0 (nI w) M (nI A) (nI T) (nI S) (nI C) wd bo ct cs 114688 65536 := by
  have z := bx_invert (g := g) hi hT hA hM hg h A 0 (by omega)
  rw [bb_fill0] at z
  exact z
theorem bx_shift0 {post : Int32 → SX → Prop} (g : Nat → Int32) {i : Nat} {b : Int32} (hi : i < T) (hT : T < 28) (hA : A ≤ 4096) (hM : ∀ v, vp_nar .byte ((v &&& M).toInt8.toInt32) = v &&& M) (hg : ∀ x, x < A → g x = (if b < 0 then wd (i * 4096 + x) >>> ((-b) &&& 31) else wd (i * 4096 + x) <<< (b &&& 31)) &&& M) (h : post (nI T) (nI w, M, nI A, nI (T + 1), nI S, nI C, bb_fill wd g T A, bo, ct, cs, 114688, 65536)) : wX_shift_38 post (nI i) b (A + 1) 0 (nI w) M (nI A) (nI T) (nI S) (nI C) wd bo ct cs 114688 65536 := by
  have z := bx_shift (g := g) hi hT hA hM hg h A 0 (by omega)
  rw [bb_fill0] at z
  exact z
theorem bx_choose0 {post : Int32 → SX → Prop} (g : Nat → Int32) {s i j : Nat} (hs : s < S) (hS : S ≤ 16) (hi : i < T) (hj : j < T) (hT : T < 28) (hA : A ≤ 4096) (hb : ∀ j, j < S → ∀ x, x < A → bo (j * 4096 + x) = 0 ∨ bo (j * 4096 + x) = 1) (hM : ∀ v, vp_nar .byte ((v &&& M).toInt8.toInt32) = v &&& M) (hg : ∀ x, x < A → g x = (if bo (s * 4096 + x) = 0 then wd (j * 4096 + x) else wd (i * 4096 + x)) &&& M) (h : post (nI T) (nI w, M, nI A, nI (T + 1), nI S, nI C, bb_fill wd g T A, bo, ct, cs, 114688, 65536)) : wX_choose_44 post (nI s) (nI i) (nI j) (A + 1) 0 (nI w) M (nI A) (nI T) (nI S) (nI C) wd bo ct cs 114688 65536 := by
  have z := bx_choose (g := g) hs hS hi hj hT hA hb hM hg h A 0 (by omega)
  rw [bb_fill0] at z
  exact z
theorem bx_compare0 {post : Int32 → SX → Prop} (g : Nat → Int32) {i j : Nat} {k : Int32} (hw1 : 1 ≤ w) (hw : w ≤ 4) (hi : i < T) (hj : j < T) (hT : T ≤ 28) (hS : S < 16) (hA : A ≤ 4096) (hr : ∀ i, i < T → ∀ x, x < A → ∃ v, v < 2 ^ w ∧ wd (i * 4096 + x) = nI v) (hg : ∀ x, x < A → g x = bb_cmp (nI (2 ^ w)) k (wd (i * 4096 + x)) (wd (j * 4096 + x))) (h : post (nI S) (nI w, nI (2 ^ w - 1), nI A, nI T, nI (S + 1), nI C, wd, bb_fill bo g S A, ct, cs, 114688, 65536)) : wX_compare_45 post k (nI i) (nI j) (A + 1) 0 (nI w) (nI (2 ^ w - 1)) (nI A) (nI T) (nI S) (nI C) wd bo ct cs 114688 65536 := by
  have z := bx_compare (g := g) hw1 hw hi hj hT hS hA hr hg h A 0 (by omega)
  rw [bb_fill0] at z
  exact z
theorem bx_connect0 {post : Int32 → SX → Prop} (g : Nat → Int32) {k i j : Nat} (hk : k ≤ 2) (hi : i < S) (hj : j < S) (hS : S < 16) (hA : A ≤ 4096) (hb : ∀ j, j < S → ∀ x, x < A → bo (j * 4096 + x) = 0 ∨ bo (j * 4096 + x) = 1) (hg : ∀ x, x < A → g x = bb_con (nI k + 3) (bo (i * 4096 + x)) (bo (j * 4096 + x))) (h : post (nI S) (nI w, M, nI A, nI T, nI (S + 1), nI C, wd, bb_fill bo g S A, ct, cs, 114688, 65536)) : wX_connect_45 post (nI k) (nI i) (nI j) (A + 1) 0 (nI w) M (nI A) (nI T) (nI S) (nI C) wd bo ct cs 114688 65536 := by
  have z := bx_connect (g := g) hk hi hj hS hA hb hg h A 0 (by omega)
  rw [bb_fill0] at z
  exact z
end
end
section
theorem bb_v6 (w a b c : Int32) (V B : Nat → Int32) (x : Int32) : bb_val w 6 a b c V B x = x >>> ((w * (2 - a)) &&& 31) := rfl
theorem bb_v7 (w a b c : Int32) (V B : Nat → Int32) (x : Int32) : bb_val w 7 a b c V B x = a := rfl
theorem bb_v8 (w a b c : Int32) (V B : Nat → Int32) (x : Int32) : bb_val w 8 a b c V B x = V a.toNatClampNeg ^^^ (-1) := rfl
theorem bb_v9 (w a b c : Int32) (V B : Nat → Int32) (x : Int32) : bb_val w 9 a b c V B x = if b < 0 then V a.toNatClampNeg >>> ((-b) &&& 31) else V a.toNatClampNeg <<< (b &&& 31) := rfl
theorem bb_v10 (w a b c : Int32) (V B : Nat → Int32) (x : Int32) : bb_val w 10 a b c V B x = if B c.toNatClampNeg = 0 then V b.toNatClampNeg else V a.toNatClampNeg := rfl
theorem bb_j6 : ∀ j, j ≤ 5 → ¬ nI j = 6 ∧ ¬ nI j = 7 ∧ ¬ 6 ≤ nI j := by decide +kernel
theorem bb_vj {j : Nat} (hj : j ≤ 5) (w a b c : Int32) (V B : Nat → Int32) (x : Int32) : bb_val w (nI j) a b c V B x = bb_join (nI j) (V a.toNatClampNeg) (V b.toNatClampNeg) := by
  obtain ⟨h6, h7, h8⟩ := bb_j6 j hj
  unfold bb_val; rw [if_neg h6, if_neg h7, if_neg h8]
theorem bb_T28 {T : Nat} (h : T < 28) : ¬ nI T = 28 := fun z => absurd ((nI_eq (b := 28) (by omega) (by decide)).mp z) (by omega)
theorem bb_S16 {S : Nat} (h : S < 16) : ¬ nI S = 16 := fun z => absurd ((nI_eq (b := 16) (by omega) (by decide)).mp z) (by omega)
theorem bb_ci {i T : Nat} (h : i < T) (hT : T ≤ 28) : (nI i).toNatClampNeg = i := nI_clamp (by omega)
theorem i_vc_variable {k : Nat} {u : SX} {v : SY} (I : i_Rel k u v) (hk : k + 4 ≤ 2049) (v1 : Int32) : wpX_variable (fun r u' => wpY_variable (fun r' v' => r' = r ∧ i_Rel (k + 4) u' v') v v1) u v1 := by
  obtain ⟨w, T, S, C, wd, bo, ct, cs, ord, kd, ka, kb, kc, so, sp, sq, vl, tv, rfl, rfl, I⟩ := I
  have hA := bb_A I.2.1
  have h28 := I.2.2.1
  have h16 := I.2.2.2.1
  by_cases h0 : v1 < 0
  · exact br_t h0 (br_t h0 ⟨rfl, bb_rel I⟩)
  · obtain ⟨j, hj, rfl⟩ := nI_of h0
    refine br_f h0 ?_
    by_cases h3 : j < 3
    · refine br_t (nI_lt (b := 3) h3 (by decide)) ?_
      have h2 : nI j ≤ 2 := nI_le (b := 2) (by omega) (by decide)
      by_cases hT : T = 28
      · subst hT
        exact br_t (by decide) (br_f h0 (br_t h2 (by_termF rfl ⟨rfl, bb_rel I⟩)))
      · have hT' : T < 28 := by omega
        refine br_f (bb_T28 hT') (nm_e ⟨2 ^ (3 * w) + 1, bx_variable0 (fun n => (nI n >>> (((2 - nI j) * nI w) &&& 31)) &&& nI (2 ^ w - 1)) hT' hA (bb_mask I.2.1) (fun x hx => rfl) ?_⟩)
        refine br_f h0 (br_t h2 (by_term hT' h16 ⟨rfl, bb_relT I hT' (Or.inl rfl) fun n hn => ?_⟩))
        rw [bb_v6, Int32.mul_comm]
    · have h2 : ¬ nI j ≤ 2 := nI_ge (a := 2) (by omega) hj
      exact br_f (nI_nlt (b := 3) (by omega) hj) (br_f h0 (br_f h2 ⟨rfl, bb_rel I⟩))
theorem i_vc_constant {k : Nat} {u : SX} {v : SY} (I : i_Rel k u v) (hk : k + 4 ≤ 2049) (v1 : Int32) : wpX_constant (fun r u' => wpY_constant (fun r' v' => r' = r ∧ i_Rel (k + 4) u' v') v v1) u v1 := by
  obtain ⟨w, T, S, C, wd, bo, ct, cs, ord, kd, ka, kb, kc, so, sp, sq, vl, tv, rfl, rfl, I⟩ := I
  have hA := bb_A I.2.1
  have hw4 := I.2.1
  have h28 := I.2.2.1
  have h16 := I.2.2.2.1
  by_cases hT : T = 28
  · subst hT
    refine br_t (by decide) ?_
    unfold wpY_constant; dsimp only
    exact by_termF rfl ⟨rfl, bb_rel I⟩
  · have hT' : T < 28 := by omega
    refine br_f (bb_T28 hT') ⟨2 ^ (3 * w) + 1, bx_constant0 (fun n => v1 &&& nI (2 ^ w - 1)) hT' hA (bb_mask I.2.1) (fun x hx => rfl) ?_⟩
    unfold wpY_constant; dsimp only
    refine by_term hT' h16 ⟨rfl, bb_relT I hT' (Or.inr (Or.inl rfl)) fun n hn => ?_⟩
    rw [bb_v7, bb_tm w (by omega), Int32.and_assoc, Int32.and_self]
theorem i_vc_combine {k : Nat} {u : SX} {v : SY} (I : i_Rel k u v) (hk : k + 4 ≤ 2049) (v1 : Int32) (v2 : Int32) (v3 : Int32) : wpX_combine (fun r u' => wpY_combine (fun r' v' => r' = r ∧ i_Rel (k + 4) u' v') v v1 v2 v3) u v1 v2 v3 := by
  obtain ⟨w, T, S, C, wd, bo, ct, cs, ord, kd, ka, kb, kc, so, sp, sq, vl, tv, rfl, rfl, I⟩ := I
  have hA := bb_A I.2.1
  have h28 := I.2.2.1
  have h16 := I.2.2.2.1
  by_cases h0 : v1 < 0
  · exact br_t h0 (br_t h0 ⟨rfl, bb_rel I⟩)
  · refine br_f h0 ?_
    by_cases h5 : v1 ≤ 5
    · obtain ⟨j, hj, rfl⟩ := nI_of2 (M := 5) (n := 5) (by decide) h0 h5
      refine br_t h5 ?_
      by_cases hT : T = 28
      · subst hT
        exact br_t (by decide) (br_f h0 (br_t h5 (br_f (by decide) ⟨rfl, bb_rel I⟩)))
      · have hT' : T < 28 := by omega
        have h27 : nI T ≤ 27 := nI_le (b := 27) (by omega) (by decide)
        refine br_f (bb_T28 hT') ?_
        by_cases pa : vp_in v2 T
        · obtain ⟨a, ha, rfl⟩ := vp_in_of pa (by omega)
          refine bx_isT1 ha h28 (br_f (by decide) ?_)
          by_cases pb : vp_in v3 T
          · obtain ⟨b, hb, rfl⟩ := vp_in_of pb (by omega)
            refine bx_isT1 hb h28 (br_f (by decide) ⟨2 ^ (3 * w) + 1, bx_combine0 (fun x => bb_join (nI j) (wd (a * 4096 + x)) (wd (b * 4096 + x)) &&& nI (2 ^ w - 1)) hj ha hb hT' hA (bb_mask I.2.1) (fun x hx => rfl) ?_⟩)
            refine br_f h0 (br_t h5 (br_t h27 (by_badT0 ha h28 (br_t rfl (by_badT0 hb h28 (br_t rfl (by_term hT' h16 ⟨rfl, bb_relT I hT' ?_ fun n hn => ?_⟩)))))))
            · exact Or.inr (Or.inr ⟨vp_in_nI ha (by omega), Or.inr (Or.inr ⟨vp_in_nI hb (by omega), Or.inl (bb_j6 j hj).2.2⟩)⟩)
            · rw [bb_vj hj, bb_ci ha h28, bb_ci hb h28]; rfl
          · exact bx_isT0 pb h28 (br_t rfl (br_f h0 (br_t h5 (br_t h27 (by_badT0 ha h28 (br_t rfl (by_badT1 pb h28 (br_f (by decide) ⟨rfl, bb_rel I⟩))))))))
        · exact bx_isT0 pa h28 (br_t rfl (br_f h0 (br_t h5 (br_t h27 (by_badT1 pa h28 (br_f (by decide) ⟨rfl, bb_rel I⟩))))))
    · exact br_f h5 (br_f h0 (br_f h5 ⟨rfl, bb_rel I⟩))
theorem i_vc_invert {k : Nat} {u : SX} {v : SY} (I : i_Rel k u v) (hk : k + 4 ≤ 2049) (v1 : Int32) : wpX_invert (fun r u' => wpY_invert (fun r' v' => r' = r ∧ i_Rel (k + 4) u' v') v v1) u v1 := by
  obtain ⟨w, T, S, C, wd, bo, ct, cs, ord, kd, ka, kb, kc, so, sp, sq, vl, tv, rfl, rfl, I⟩ := I
  have hA := bb_A I.2.1
  have h28 := I.2.2.1
  have h16 := I.2.2.2.1
  by_cases hT : T = 28
  · subst hT
    exact br_t (by decide) (br_f (by decide) ⟨rfl, bb_rel I⟩)
  · have hT' : T < 28 := by omega
    have h27 : nI T ≤ 27 := nI_le (b := 27) (by omega) (by decide)
    refine br_f (bb_T28 hT') ?_
    by_cases pa : vp_in v1 T
    · obtain ⟨a, ha, rfl⟩ := vp_in_of pa (by omega)
      refine bx_isT1 ha h28 (br_f (by decide) ⟨2 ^ (3 * w) + 1, bx_invert0 (fun x => (wd (a * 4096 + x) ^^^ (-1)) &&& nI (2 ^ w - 1)) ha hT' hA (bb_mask I.2.1) (fun x hx => rfl) ?_⟩)
      refine br_t h27 (by_badT0 ha h28 (br_t rfl (by_term hT' h16 ⟨rfl, bb_relT I hT' ?_ fun n hn => ?_⟩)))
      · exact Or.inr (Or.inr ⟨vp_in_nI ha (by omega), Or.inl rfl⟩)
      · rw [bb_v8, bb_ci ha h28]; rfl
    · exact bx_isT0 pa h28 (br_t rfl (br_t h27 (by_badT1 pa h28 (br_f (by decide) ⟨rfl, bb_rel I⟩))))
theorem i_vc_shift {k : Nat} {u : SX} {v : SY} (I : i_Rel k u v) (hk : k + 4 ≤ 2049) (v1 : Int32) (v2 : Int32) : wpX_shift (fun r u' => wpY_shift (fun r' v' => r' = r ∧ i_Rel (k + 4) u' v') v v1 v2) u v1 v2 := by
  obtain ⟨w, T, S, C, wd, bo, ct, cs, ord, kd, ka, kb, kc, so, sp, sq, vl, tv, rfl, rfl, I⟩ := I
  have hA := bb_A I.2.1
  have h28 := I.2.2.1
  have h16 := I.2.2.2.1
  by_cases h0 : v2 < (-4)
  · exact br_t h0 (br_t h0 ⟨rfl, bb_rel I⟩)
  · refine br_f h0 ?_
    by_cases h5 : v2 ≤ 4
    · refine br_t h5 ?_
      by_cases hT : T = 28
      · subst hT
        exact br_t (by decide) (br_f h0 (br_t h5 (br_f (by decide) ⟨rfl, bb_rel I⟩)))
      · have hT' : T < 28 := by omega
        have h27 : nI T ≤ 27 := nI_le (b := 27) (by omega) (by decide)
        refine br_f (bb_T28 hT') ?_
        by_cases pa : vp_in v1 T
        · obtain ⟨a, ha, rfl⟩ := vp_in_of pa (by omega)
          refine bx_isT1 ha h28 (br_f (by decide) ⟨2 ^ (3 * w) + 1, bx_shift0 (fun x => (if v2 < 0 then wd (a * 4096 + x) >>> ((-v2) &&& 31) else wd (a * 4096 + x) <<< (v2 &&& 31)) &&& nI (2 ^ w - 1)) ha hT' hA (bb_mask I.2.1) (fun x hx => rfl) ?_⟩)
          refine br_f h0 (br_t h5 (br_t h27 (by_badT0 ha h28 (br_t rfl (by_term hT' h16 ⟨rfl, bb_relT I hT' ?_ fun n hn => ?_⟩)))))
          · exact Or.inr (Or.inr ⟨vp_in_nI ha (by omega), Or.inr (Or.inl rfl)⟩)
          · rw [bb_v9, bb_ci ha h28]; rfl
        · exact bx_isT0 pa h28 (br_t rfl (br_f h0 (br_t h5 (br_t h27 (by_badT1 pa h28 (br_f (by decide) ⟨rfl, bb_rel I⟩))))))
    · exact br_f h5 (br_f h0 (br_f h5 ⟨rfl, bb_rel I⟩))
theorem i_vc_choose {k : Nat} {u : SX} {v : SY} (I : i_Rel k u v) (hk : k + 4 ≤ 2049) (v1 : Int32) (v2 : Int32) (v3 : Int32) : wpX_choose (fun r u' => wpY_choose (fun r' v' => r' = r ∧ i_Rel (k + 4) u' v') v v1 v2 v3) u v1 v2 v3 := by
  obtain ⟨w, T, S, C, wd, bo, ct, cs, ord, kd, ka, kb, kc, so, sp, sq, vl, tv, rfl, rfl, I⟩ := I
  have hA := bb_A I.2.1
  have h28 := I.2.2.1
  have h16 := I.2.2.2.1
  unfold wpX_choose; dsimp only
  by_cases ps : vp_in v1 S
  · obtain ⟨s, hs, rfl⟩ := vp_in_of ps (by omega)
    refine bx_isS1 hs h16 (br_f (by decide) ?_)
    by_cases hT : T = 28
    · subst hT
      refine br_t (by decide) ?_
      unfold wpY_choose; dsimp only
      exact by_badS0 hs h16 (br_t rfl (br_f (by decide) ⟨rfl, bb_rel I⟩))
    · have hT' : T < 28 := by omega
      have h27 : nI T ≤ 27 := nI_le (b := 27) (by omega) (by decide)
      refine br_f (bb_T28 hT') ?_
      by_cases pa : vp_in v2 T
      · obtain ⟨a, ha, rfl⟩ := vp_in_of pa (by omega)
        refine bx_isT1 ha h28 (br_f (by decide) ?_)
        by_cases pb : vp_in v3 T
        · obtain ⟨b, hb, rfl⟩ := vp_in_of pb (by omega)
          refine bx_isT1 hb h28 (br_f (by decide) ⟨2 ^ (3 * w) + 1, bx_choose0 (fun x => (if bo (s * 4096 + x) = 0 then wd (b * 4096 + x) else wd (a * 4096 + x)) &&& nI (2 ^ w - 1)) hs h16 ha hb hT' hA (bb_Ib I) (bb_mask I.2.1) (fun x hx => rfl) ?_⟩)
          unfold wpY_choose; dsimp only
          refine by_badS0 hs h16 (br_t rfl (br_t h27 (by_badT0 ha h28 (br_t rfl (by_badT0 hb h28 (br_t rfl (by_term hT' h16 ⟨rfl, bb_relT I hT' ?_ fun n hn => ?_⟩)))))))
          · exact Or.inr (Or.inr ⟨vp_in_nI ha (by omega), Or.inr (Or.inr ⟨vp_in_nI hb (by omega), Or.inr (vp_in_nI hs (by omega))⟩)⟩)
          · rw [bb_v10, bb_ci ha h28, bb_ci hb h28, nI_clamp (show s < 2 ^ 31 by omega)]; rfl
        · refine bx_isT0 pb h28 (br_t rfl ?_)
          unfold wpY_choose; dsimp only
          exact by_badS0 hs h16 (br_t rfl (br_t h27 (by_badT0 ha h28 (br_t rfl (by_badT1 pb h28 (br_f (by decide) ⟨rfl, bb_rel I⟩))))))
      · refine bx_isT0 pa h28 (br_t rfl ?_)
        unfold wpY_choose; dsimp only
        exact by_badS0 hs h16 (br_t rfl (br_t h27 (by_badT1 pa h28 (br_f (by decide) ⟨rfl, bb_rel I⟩))))
  · refine bx_isS0 ps h16 (br_t rfl ?_)
    unfold wpY_choose; dsimp only
    exact by_badS1 ps h16 (br_f (by decide) ⟨rfl, bb_rel I⟩)
theorem bb_k3 : ∀ j, j ≤ 2 → ¬ 3 ≤ nI j ∧ 3 ≤ nI j + 3 := by decide +kernel
theorem i_vc_compare {k : Nat} {u : SX} {v : SY} (I : i_Rel k u v) (hk : k + 4 ≤ 2049) (v1 : Int32) (v2 : Int32) (v3 : Int32) : wpX_compare (fun r u' => wpY_compare (fun r' v' => r' = r ∧ i_Rel (k + 4) u' v') v v1 v2 v3) u v1 v2 v3 := by
  obtain ⟨w, T, S, C, wd, bo, ct, cs, ord, kd, ka, kb, kc, so, sp, sq, vl, tv, rfl, rfl, I⟩ := I
  have hA := bb_A I.2.1
  have h28 := I.2.2.1
  have h16 := I.2.2.2.1
  by_cases h0 : v1 < 0
  · exact br_t h0 (br_t h0 ⟨rfl, bb_rel I⟩)
  · refine br_f h0 ?_
    by_cases h5 : v1 ≤ 2
    · obtain ⟨j, hj, rfl⟩ := nI_of2 (M := 2) (n := 2) (by decide) h0 h5
      refine br_t h5 ?_
      by_cases hS : S = 16
      · subst hS
        exact br_t (by decide) (br_f h0 (br_t h5 (br_f (by decide) ⟨rfl, bb_rel I⟩)))
      · have hS' : S < 16 := by omega
        have h15 : nI S ≤ 15 := nI_le (b := 15) (by omega) (by decide)
        refine br_f (bb_S16 hS') ?_
        by_cases pa : vp_in v2 T
        · obtain ⟨a, ha, rfl⟩ := vp_in_of pa (by omega)
          refine bx_isT1 ha h28 (br_f (by decide) ?_)
          by_cases pb : vp_in v3 T
          · obtain ⟨b, hb, rfl⟩ := vp_in_of pb (by omega)
            refine bx_isT1 hb h28 (br_f (by decide) ⟨2 ^ (3 * w) + 1, bx_compare0 (fun x => bb_cmp (nI (2 ^ w)) (nI j) (wd (a * 4096 + x)) (wd (b * 4096 + x))) I.1 I.2.1 ha hb h28 hS' hA (bb_Ir I) (fun x hx => rfl) ?_⟩)
            refine br_f h0 (br_t h5 (br_t h15 (by_badT0 ha h28 (br_t rfl (by_badT0 hb h28 (br_t rfl (by_test h28 hS' ⟨rfl, bb_relS I hS' ?_ fun n hn => ?_⟩)))))))
            · exact Or.inr ⟨(bb_k3 j hj).1, vp_in_nI ha (by omega), vp_in_nI hb (by omega)⟩
            · unfold bb_tv; rw [if_neg (bb_k3 j hj).1, bb_ci ha h28, bb_ci hb h28]; rfl
          · exact bx_isT0 pb h28 (br_t rfl (br_f h0 (br_t h5 (br_t h15 (by_badT0 ha h28 (br_t rfl (by_badT1 pb h28 (br_f (by decide) ⟨rfl, bb_rel I⟩))))))))
        · exact bx_isT0 pa h28 (br_t rfl (br_f h0 (br_t h5 (br_t h15 (by_badT1 pa h28 (br_f (by decide) ⟨rfl, bb_rel I⟩))))))
    · exact br_f h5 (br_f h0 (br_f h5 ⟨rfl, bb_rel I⟩))
theorem i_vc_connect {k : Nat} {u : SX} {v : SY} (I : i_Rel k u v) (hk : k + 4 ≤ 2049) (v1 : Int32) (v2 : Int32) (v3 : Int32) : wpX_connect (fun r u' => wpY_connect (fun r' v' => r' = r ∧ i_Rel (k + 4) u' v') v v1 v2 v3) u v1 v2 v3 := by
  obtain ⟨w, T, S, C, wd, bo, ct, cs, ord, kd, ka, kb, kc, so, sp, sq, vl, tv, rfl, rfl, I⟩ := I
  have hA := bb_A I.2.1
  have h28 := I.2.2.1
  have h16 := I.2.2.2.1
  by_cases h0 : v1 < 0
  · exact br_t h0 (br_t h0 ⟨rfl, bb_rel I⟩)
  · refine br_f h0 ?_
    by_cases h5 : v1 ≤ 2
    · obtain ⟨j, hj, rfl⟩ := nI_of2 (M := 2) (n := 2) (by decide) h0 h5
      refine br_t h5 ?_
      by_cases hS : S = 16
      · subst hS
        exact br_t (by decide) (br_f h0 (br_t h5 (br_f (by decide) ⟨rfl, bb_rel I⟩)))
      · have hS' : S < 16 := by omega
        have h15 : nI S ≤ 15 := nI_le (b := 15) (by omega) (by decide)
        refine br_f (bb_S16 hS') ?_
        by_cases pa : vp_in v2 S
        · obtain ⟨a, ha, rfl⟩ := vp_in_of pa (by omega)
          refine bx_isS1 ha h16 (br_f (by decide) ?_)
          by_cases pb : vp_in v3 S
          · obtain ⟨b, hb, rfl⟩ := vp_in_of pb (by omega)
            refine bx_isS1 hb h16 (br_f (by decide) ⟨2 ^ (3 * w) + 1, bx_connect0 (fun x => bb_con (nI j + 3) (bo (a * 4096 + x)) (bo (b * 4096 + x))) hj ha hb hS' hA (bb_Ib I) (fun x hx => rfl) ?_⟩)
            refine br_f h0 (br_t h5 (br_t h15 (by_badS0 ha h16 (br_t rfl (by_badS0 hb h16 (br_t rfl (by_test h28 hS' ⟨rfl, bb_relS I hS' ?_ fun n hn => ?_⟩)))))))
            · exact Or.inl ⟨(bb_k3 j hj).2, vp_in_nI ha (by omega), vp_in_nI hb (by omega)⟩
            · unfold bb_tv; rw [if_pos (bb_k3 j hj).2, nI_clamp (show a < 2 ^ 31 by omega), nI_clamp (show b < 2 ^ 31 by omega)]; rfl
          · exact bx_isS0 pb h16 (br_t rfl (br_f h0 (br_t h5 (br_t h15 (by_badS0 ha h16 (br_t rfl (by_badS1 pb h16 (br_f (by decide) ⟨rfl, bb_rel I⟩))))))))
        · exact bx_isS0 pa h16 (br_t rfl (br_f h0 (br_t h5 (br_t h15 (by_badS1 pa h16 (br_f (by decide) ⟨rfl, bb_rel I⟩))))))
    · exact br_f h5 (br_f h0 (br_f h5 ⟨rfl, bb_rel I⟩))
end
section
theorem i_vc_width {k : Nat} {u : SX} {v : SY} (I : i_Rel k u v) (hk : k + 4 ≤ 2049) : wpX_width (fun r => wpY_width (fun r' => r' = r ∧ i_Rel (k + 4) u v) v) u := by
  obtain ⟨w, T, S, C, wd, bo, ct, cs, ord, kd, ka, kb, kc, so, sp, sq, vl, tv, rfl, rfl, I⟩ := I
  exact ⟨rfl, bb_rel I⟩
theorem i_vc_terms {k : Nat} {u : SX} {v : SY} (I : i_Rel k u v) (hk : k + 4 ≤ 2049) : wpX_terms (fun r => wpY_terms (fun r' => r' = r ∧ i_Rel (k + 4) u v) v) u := by
  obtain ⟨w, T, S, C, wd, bo, ct, cs, ord, kd, ka, kb, kc, so, sp, sq, vl, tv, rfl, rfl, I⟩ := I
  exact ⟨rfl, bb_rel I⟩
theorem i_vc_tests {k : Nat} {u : SX} {v : SY} (I : i_Rel k u v) (hk : k + 4 ≤ 2049) : wpX_tests (fun r => wpY_tests (fun r' => r' = r ∧ i_Rel (k + 4) u v) v) u := by
  obtain ⟨w, T, S, C, wd, bo, ct, cs, ord, kd, ka, kb, kc, so, sp, sq, vl, tv, rfl, rfl, I⟩ := I
  exact ⟨rfl, bb_rel I⟩
theorem bb_C10 {C : Nat} (h : C < 10) : ¬ nI C = 10 := fun z => absurd ((nI_eq (b := 10) (by omega) (by decide)).mp z) (by omega)
section
variable {w T S C : Nat} {wd bo ct cs ord kd ka kb kc so sp sq vl tv : Nat → Int32}
theorem bb_addC {q s : Nat} {z : Int32} (I : bb_I w T S C wd bo ct ord kd ka kb kc so sp sq) (hC : C < 10) (hs : s < S) : i_Rel q (nI w, nI (2 ^ w - 1), nI (2 ^ (3 * w)), nI T, nI S, nI (C + 1), wd, bo, upd ct C (nI s), upd cs C z, 114688, 65536) (nI w, nI (2 ^ w), nI (2 ^ (3 * w)), nI T, nI S, nI (C + 1), nI (T + S), ord, kd, ka, kb, kc, so, sp, sq, upd ct C (nI s), upd cs C z, vl, tv) := by
  obtain ⟨hw1, hw4, h28, h16, h10, hct, hH⟩ := I
  refine ⟨w, T, S, C + 1, _, _, _, _, _, _, _, _, _, _, _, _, _, _, rfl, rfl, hw1, hw4, h28, h16, by omega, fun i hi => ?_, hH⟩
  by_cases e : i = C
  · subst e; rw [pk_us]; exact vp_in_nI hs (by omega)
  · rw [pk_un e]; exact hct i (by omega)
theorem bx_req {post : Int32 → SX → Prop} {z : Int32} (hz : z = 0 ∨ z = 1) (hC : C < 10) (h : post (nI (C + 1)) (nI w, nI (2 ^ w - 1), nI (2 ^ (3 * w)), nI T, nI S, nI (C + 1), wd, bo, ct, upd cs C z, 114688, 65536)) : wX_require_49 post z (nI C) (nI w) (nI (2 ^ w - 1)) (nI (2 ^ (3 * w))) (nI T) (nI S) (nI C) wd bo ct cs 114688 65536 := by
  unfold wX_require_49
  rw [nI_clamp (show C < 2 ^ 31 by omega), bb_b01 hz]
  exact ⟨vp_in_nI hC (by decide), nm_e (nm_r (nI_1 C) h)⟩
theorem by_req {post : Int32 → SY → Prop} {z : Int32} (hz : z = 0 ∨ z = 1) (hC : C < 10) (h : post (nI (C + 1)) (nI w, nI (2 ^ w), nI (2 ^ (3 * w)), nI T, nI S, nI (C + 1), nI (T + S), ord, kd, ka, kb, kc, so, sp, sq, ct, upd cs C z, vl, tv)) : wY_require_49 post z (nI C) (nI w) (nI (2 ^ w)) (nI (2 ^ (3 * w))) (nI T) (nI S) (nI C) (nI (T + S)) ord kd ka kb kc so sp sq ct cs vl tv := by
  unfold wY_require_49
  rw [nI_clamp (show C < 2 ^ 31 by omega), bb_b01 hz]
  exact ⟨vp_in_nI hC (by decide), nm_e (nm_r (nI_1 C) h)⟩
end
theorem i_vc_require {k : Nat} {u : SX} {v : SY} (I : i_Rel k u v) (hk : k + 4 ≤ 2049) (v1 : Int32) (v2 : Int32) : wpX_require (fun r u' => wpY_require (fun r' v' => r' = r ∧ i_Rel (k + 4) u' v') v v1 v2) u v1 v2 := by
  obtain ⟨w, T, S, C, wd, bo, ct, cs, ord, kd, ka, kb, kc, so, sp, sq, vl, tv, rfl, rfl, I⟩ := I
  have h16 := I.2.2.2.1
  have h10 := I.2.2.2.2.1
  unfold wpX_require; dsimp only
  by_cases ps : vp_in v1 S
  · obtain ⟨s, hs, rfl⟩ := vp_in_of ps (by omega)
    refine bx_isS1 hs h16 (br_f (by decide) ?_)
    by_cases hC : C = 10
    · subst hC
      refine br_t (by decide) ?_
      unfold wpY_require; dsimp only
      exact by_badS0 hs h16 (br_t rfl (br_f (by decide) ⟨rfl, bb_rel I⟩))
    · have hC' : C < 10 := by omega
      refine br_f (bb_C10 hC') ⟨vp_in_nI hC' (by decide), ?_⟩
      rw [nI_clamp (show C < 2 ^ 31 by omega)]
      refine nm_e ?_
      by_cases z : v2 = 0
      · refine br_t z (bx_req (Or.inl rfl) hC' ?_)
        unfold wpY_require; dsimp only
        refine by_badS0 hs h16 (br_t rfl (br_t (nI_le (b := 9) (by omega) (by decide)) ⟨vp_in_nI hC' (by decide), ?_⟩))
        rw [nI_clamp (show C < 2 ^ 31 by omega)]
        exact nm_e (br_t z (by_req (Or.inl rfl) hC' ⟨rfl, bb_addC I hC' hs⟩))
      · refine br_f z (bx_req (Or.inr rfl) hC' ?_)
        unfold wpY_require; dsimp only
        refine by_badS0 hs h16 (br_t rfl (br_t (nI_le (b := 9) (by omega) (by decide)) ⟨vp_in_nI hC' (by decide), ?_⟩))
        rw [nI_clamp (show C < 2 ^ 31 by omega)]
        exact nm_e (br_f z (by_req (Or.inr rfl) hC' ⟨rfl, bb_addC I hC' hs⟩))
  · refine bx_isS0 ps h16 (br_t rfl ?_)
    unfold wpY_require; dsimp only
    exact by_badS1 ps h16 (br_f (by decide) ⟨rfl, bb_rel I⟩)
theorem i_vc_release {k : Nat} {u : SX} {v : SY} (I : i_Rel k u v) (hk : k + 4 ≤ 2049) : wpX_release (fun r u' => wpY_release (fun r' v' => r' = r ∧ i_Rel (k + 4) u' v') v) u := by
  obtain ⟨w, T, S, C, wd, bo, ct, cs, ord, kd, ka, kb, kc, so, sp, sq, vl, tv, rfl, rfl, I⟩ := I
  cases C with
  | zero => exact br_t (by decide) (br_t (by decide) ⟨rfl, bb_rel I⟩)
  | succ C =>
    have h10 := I.2.2.2.2.1
    have h0 : ¬ nI (C + 1) = 0 := nI_ne0 (by omega) (by omega)
    refine br_f h0 (nm_r (nI_pred C) (br_f h0 (nm_r (nI_pred C) ⟨rfl, bb_rel ?_⟩)))
    obtain ⟨hw1, hw4, h28, h16, h10, hct, hH⟩ := I
    exact ⟨hw1, hw4, h28, h16, by omega, fun i hi => hct i (by omega), hH⟩
theorem i_vc_valueOf {k : Nat} {u : SX} {v : SY} (I : i_Rel k u v) (hk : k + 4 ≤ 2049) (v1 : Int32) (v2 : Int32) : wpX_valueOf (fun r => wpY_valueOf (fun r' v' => r' = r ∧ i_Rel (k + 4) u v') v v1 v2) u v1 v2 := by
  obtain ⟨w, T, S, C, wd, bo, ct, cs, ord, kd, ka, kb, kc, so, sp, sq, vl, tv, rfl, rfl, I⟩ := I
  have hA := bb_A I.2.1
  have hw4 := I.2.1
  have h28 := I.2.2.1
  have h16 := I.2.2.2.1
  unfold wpX_valueOf; dsimp only
  by_cases pa : vp_in v1 T
  · obtain ⟨a, ha, rfl⟩ := vp_in_of pa (by omega)
    refine bx_isT1 ha h28 (br_f (by decide) ?_)
    by_cases pn : vp_in v2 (2 ^ (3 * w))
    · obtain ⟨n, hn, rfl⟩ := vp_in_of pn (by omega)
      refine bx_isA1 hn hA (br_f (by decide) (bx_word (by omega) (by omega) ?_))
      unfold wpY_valueOf; dsimp only
      refine by_badT0 ha h28 (br_t rfl (by_badN0 hn hA (br_t rfl (by_work hn h28 h16 (bb_tm w (by omega)) I.2.2.2.2.2.2 fun vl' tv' hm => ⟨vp_in_nI (by omega) (by decide), ?_, bb_rel I⟩))))
      rw [bb_ci ha h28]; exact hm.1 a ha
    · refine bx_isA0 pn hA (br_t rfl ?_)
      unfold wpY_valueOf; dsimp only
      exact by_badT0 ha h28 (br_t rfl (by_badN1 pn hA (br_f (by decide) ⟨rfl, bb_rel I⟩)))
  · refine bx_isT0 pa h28 (br_t rfl ?_)
    unfold wpY_valueOf; dsimp only
    exact by_badT1 pa h28 (br_f (by decide) ⟨rfl, bb_rel I⟩)
theorem i_vc_holds {k : Nat} {u : SX} {v : SY} (I : i_Rel k u v) (hk : k + 4 ≤ 2049) (v1 : Int32) (v2 : Int32) : wpX_holds (fun r => wpY_holds (fun r' v' => r' = r ∧ i_Rel (k + 4) u v') v v1 v2) u v1 v2 := by
  obtain ⟨w, T, S, C, wd, bo, ct, cs, ord, kd, ka, kb, kc, so, sp, sq, vl, tv, rfl, rfl, I⟩ := I
  have hA := bb_A I.2.1
  have hw4 := I.2.1
  have h28 := I.2.2.1
  have h16 := I.2.2.2.1
  unfold wpX_holds; dsimp only
  by_cases pa : vp_in v1 S
  · obtain ⟨a, ha, rfl⟩ := vp_in_of pa (by omega)
    refine bx_isS1 ha h16 (br_f (by decide) ?_)
    by_cases pn : vp_in v2 (2 ^ (3 * w))
    · obtain ⟨n, hn, rfl⟩ := vp_in_of pn (by omega)
      refine bx_isA1 hn hA (br_f (by decide) (bx_truth (by omega) (by omega) (bb_Ib I a ha n hn) ?_))
      by_cases z : bo (a * 4096 + n) = 0
      · refine br_t z ?_
        unfold wpY_holds; dsimp only
        refine by_badS0 ha h16 (br_t rfl (by_badN0 hn hA (br_t rfl (by_work hn h28 h16 (bb_tm w (by omega)) I.2.2.2.2.2.2 fun vl' tv' hm => ⟨vp_in_nI (by omega) (by decide), ?_⟩))))
        rw [nI_clamp (show a < 2 ^ 31 by omega)]
        exact br_t ((hm.2 a ha).trans z) ⟨rfl, bb_rel I⟩
      · refine br_f z ?_
        unfold wpY_holds; dsimp only
        refine by_badS0 ha h16 (br_t rfl (by_badN0 hn hA (br_t rfl (by_work hn h28 h16 (bb_tm w (by omega)) I.2.2.2.2.2.2 fun vl' tv' hm => ⟨vp_in_nI (by omega) (by decide), ?_⟩))))
        rw [nI_clamp (show a < 2 ^ 31 by omega)]
        exact br_f (fun q => z ((hm.2 a ha).symm.trans q)) ⟨rfl, bb_rel I⟩
    · refine bx_isA0 pn hA (br_t rfl ?_)
      unfold wpY_holds; dsimp only
      exact by_badS0 ha h16 (br_t rfl (by_badN1 pn hA (br_f (by decide) ⟨rfl, bb_rel I⟩)))
  · refine bx_isS0 pa h16 (br_t rfl ?_)
    unfold wpY_holds; dsimp only
    exact by_badS1 pa h16 (br_f (by decide) ⟨rfl, bb_rel I⟩)
end
section
section
variable {w T S C : Nat} {wd bo ct cs ord kd ka kb kc so sp sq vl tv : Nat → Int32}
theorem by_workI {post : SY → Prop} {x : Nat} (I : bb_I w T S C wd bo ct ord kd ka kb kc so sp sq) (hx : x < 2 ^ (3 * w)) (h : ∀ vl' tv', bb_Mt wd bo vl' tv' T S x → post (nI w, nI (2 ^ w), nI (2 ^ (3 * w)), nI T, nI S, nI C, nI (T + S), ord, kd, ka, kb, kc, so, sp, sq, ct, cs, vl', tv')) : wpY_work post (nI w, nI (2 ^ w), nI (2 ^ (3 * w)), nI T, nI S, nI C, nI (T + S), ord, kd, ka, kb, kc, so, sp, sq, ct, cs, vl, tv) (nI x) :=
  by_work hx I.2.2.1 I.2.2.2.1 (bb_tm w (by have := I.2.1; omega)) I.2.2.2.2.2.2 h
theorem by_solI {post : Int32 → SY → Prop} {x : Nat} (I : bb_I w T S C wd bo ct ord kd ka kb kc so sp sq) (hx : x < 2 ^ (3 * w))
    (h1 : bb_Sol C ct cs bo x → ∀ vl' tv', bb_Mt wd bo vl' tv' T S x → post 1 (nI w, nI (2 ^ w), nI (2 ^ (3 * w)), nI T, nI S, nI C, nI (T + S), ord, kd, ka, kb, kc, so, sp, sq, ct, cs, vl', tv')) (h0 : ¬ bb_Sol C ct cs bo x → ∀ vl' tv', bb_Mt wd bo vl' tv' T S x → post 0 (nI w, nI (2 ^ w), nI (2 ^ (3 * w)), nI T, nI S, nI C, nI (T + S), ord, kd, ka, kb, kc, so, sp, sq, ct, cs, vl', tv')) : wpY_solution post (nI w, nI (2 ^ w), nI (2 ^ (3 * w)), nI T, nI S, nI C, nI (T + S), ord, kd, ka, kb, kc, so, sp, sq, ct, cs, vl, tv) (nI x) :=
  by_sol hx I.2.2.1 I.2.2.2.1 I.2.2.2.2.1 (bb_tm w (by have := I.2.1; omega)) I.2.2.2.2.2.2 I.2.2.2.2.2.1 h1 h0
theorem bx_solI {post : Int32 → Prop} {x : Nat} (I : bb_I w T S C wd bo ct ord kd ka kb kc so sp sq) (hx : x < 2 ^ (3 * w)) (h1 : bb_Sol C ct cs bo x → post 1) (h0 : ¬ bb_Sol C ct cs bo x → post 0) : wpX_isSolution post (nI w, nI (2 ^ w - 1), nI (2 ^ (3 * w)), nI T, nI S, nI C, wd, bo, ct, cs, 114688, 65536) (nI x) :=
  bx_sol hx (bb_A I.2.1) I.2.2.2.2.1 I.2.2.2.1 I.2.2.2.2.2.1 (bb_Ib I) h1 h0
/-- the first solution from n on, on both sides -/
theorem bb_first (I : bb_I w T S C wd bo ct ord kd ka kb kc so sp sq) : ∀ d n, n + d = 2 ^ (3 * w) → ∃ r : Int32, (∀ post : Int32 → Prop, post r → wX_firstSolutionFrom_2 post (nI w) (nI (2 ^ w - 1)) (nI (2 ^ (3 * w))) (nI T) (nI S) (nI C) wd bo ct cs 114688 65536 (d + 1) (nI n)) ∧
    (∀ (post : Int32 → SY → Prop) (x1 : Int32), (∀ m, n ≤ m → m < 2 ^ (3 * w) → ¬ nI m ≤ x1) → ∀ vl tv : Nat → Int32, (∀ vl' tv' : Nat → Int32, post r (nI w, nI (2 ^ w), nI (2 ^ (3 * w)), nI T, nI S, nI C, nI (T + S), ord, kd, ka, kb, kc, so, sp, sq, ct, cs, vl', tv')) → wY_after_2 post x1 (d + 1) (nI n) (nI w) (nI (2 ^ w)) (nI (2 ^ (3 * w))) (nI T) (nI S) (nI C) (nI (T + S)) ord kd ka kb kc so sp sq ct cs vl tv) := by
  have hA := bb_A I.2.1
  intro d
  induction d with
  | zero =>
    intro n hn
    have hl : nI (2 ^ (3 * w)) ≤ nI n := nI_le (by omega) (by omega)
    refine ⟨-1, fun post h => ?_, fun post x1 _ vl tv h => ?_⟩
    · rw [wX_firstSolutionFrom_2]; exact br_t hl h
    · rw [wY_after_2]; exact br_t hl (h _ _)
  | succ d ih =>
    intro n hn
    have hl : ¬ nI (2 ^ (3 * w)) ≤ nI n := nI_ge (by omega) (by omega)
    have hx : n < 2 ^ (3 * w) := by omega
    by_cases z : bb_Sol C ct cs bo n
    · refine ⟨nI n, fun post h => ?_, fun post x1 hm vl tv h => ?_⟩
      · rw [wX_firstSolutionFrom_2]
        exact br_f hl (bx_solI I hx (fun _ => br_f (by decide) h) (fun q => absurd z q))
      · rw [wY_after_2]
        exact br_f hl (br_f (hm n (Nat.le_refl _) hx) (by_solI I hx (fun _ vl' tv' _ => br_f (by decide) (h _ _)) (fun q => absurd z q)))
    · obtain ⟨r, hX, hY⟩ := ih (n + 1) (by omega)
      refine ⟨r, fun post h => ?_, fun post x1 hm vl tv h => ?_⟩
      · rw [wX_firstSolutionFrom_2]
        exact br_f hl (bx_solI I hx (fun q => absurd q z) (fun _ => br_t rfl (nm_r (nI_1 n) (hX post h))))
      · rw [wY_after_2]
        exact br_f hl (br_f (hm n (Nat.le_refl _) hx) (by_solI I hx (fun q => absurd q z) (fun _ vl' tv' _ => br_t rfl (nm_r (nI_1 n) (hY post x1 (fun m h1 h2 => hm m (by omega) h2) _ _ h)))))
theorem by_skip {post : Int32 → SY → Prop} {x1 : Int32} {b f : Nat} (hA : 2 ^ (3 * w) ≤ 4096) (hb : b ≤ 2 ^ (3 * w)) (hs : ∀ m, m < b → nI m ≤ x1) (h : wY_after_2 post x1 f (nI b) (nI w) (nI (2 ^ w)) (nI (2 ^ (3 * w))) (nI T) (nI S) (nI C) (nI (T + S)) ord kd ka kb kc so sp sq ct cs vl tv) : ∀ e n, n + e = b → wY_after_2 post x1 (f + e) (nI n) (nI w) (nI (2 ^ w)) (nI (2 ^ (3 * w))) (nI T) (nI S) (nI C) (nI (T + S)) ord kd ka kb kc so sp sq ct cs vl tv := by
  intro e
  induction e with
  | zero =>
    intro n hn
    have e : n = b := by omega
    subst e; exact h
  | succ e ih =>
    intro n hn
    rw [show f + (e + 1) = (f + e) + 1 by omega, wY_after_2]
    exact br_f (nI_ge (by omega) (by omega)) (br_t (hs n (by omega)) (nm_r (nI_1 n) (ih (n + 1) (by omega))))
theorem bb_count (I : bb_I w T S C wd bo ct ord kd ka kb kc so sp sq) : ∀ d n, n + d = 2 ^ (3 * w) → ∀ c : Int32, ∃ r : Int32, (∀ post : Int32 → Prop, post r → wX_count_4 post (nI w) (nI (2 ^ w - 1)) (nI (2 ^ (3 * w))) (nI T) (nI S) (nI C) wd bo ct cs 114688 65536 (d + 1) c (nI n)) ∧
    (∀ (post : Int32 → SY → Prop) (vl tv : Nat → Int32), (∀ vl' tv' : Nat → Int32, post r (nI w, nI (2 ^ w), nI (2 ^ (3 * w)), nI T, nI S, nI C, nI (T + S), ord, kd, ka, kb, kc, so, sp, sq, ct, cs, vl', tv')) → wY_count_4 post (d + 1) c (nI n) (nI w) (nI (2 ^ w)) (nI (2 ^ (3 * w))) (nI T) (nI S) (nI C) (nI (T + S)) ord kd ka kb kc so sp sq ct cs vl tv) := by
  have hA := bb_A I.2.1
  intro d
  induction d with
  | zero =>
    intro n hn c
    have hl : nI (2 ^ (3 * w)) ≤ nI n := nI_le (by omega) (by omega)
    refine ⟨c, fun post h => ?_, fun post vl tv h => ?_⟩
    · rw [wX_count_4]; exact br_t hl h
    · rw [wY_count_4]; exact br_t hl (h _ _)
  | succ d ih =>
    intro n hn c
    have hl : ¬ nI (2 ^ (3 * w)) ≤ nI n := nI_ge (by omega) (by omega)
    have hx : n < 2 ^ (3 * w) := by omega
    by_cases z : bb_Sol C ct cs bo n
    · obtain ⟨r, hX, hY⟩ := ih (n + 1) (by omega) (c + 1)
      refine ⟨r, fun post h => ?_, fun post vl tv h => ?_⟩
      · rw [wX_count_4]
        exact br_f hl (bx_solI I hx (fun _ => br_f (by decide) (nm_e (nm_r (nI_1 n) (hX post h)))) (fun q => absurd z q))
      · rw [wY_count_4]
        exact br_f hl (by_solI I hx (fun _ vl' tv' _ => br_f (by decide) (nm_e (nm_r (nI_1 n) (hY post _ _ h)))) (fun q => absurd z q))
    · obtain ⟨r, hX, hY⟩ := ih (n + 1) (by omega) c
      refine ⟨r, fun post h => ?_, fun post vl tv h => ?_⟩
      · rw [wX_count_4]
        exact br_f hl (bx_solI I hx (fun q => absurd q z) (fun _ => br_t rfl (nm_r (nI_1 n) (hX post h))))
      · rw [wY_count_4]
        exact br_f hl (by_solI I hx (fun q => absurd q z) (fun _ vl' tv' _ => br_t rfl (nm_r (nI_1 n) (hY post _ _ h))))
theorem bb_same {i j : Nat} (I : bb_I w T S C wd bo ct ord kd ka kb kc so sp sq) (hi : i < T) (hj : j < T) : ∀ d n, n + d = 2 ^ (3 * w) → ∃ r : Int32, (∀ post : Int32 → Prop, post r → wX_same_20 post (nI i) (nI j) (nI w) (nI (2 ^ w - 1)) (nI (2 ^ (3 * w))) (nI T) (nI S) (nI C) wd bo ct cs 114688 65536 (d + 1) (nI n)) ∧
    (∀ (post : Int32 → SY → Prop) (vl tv : Nat → Int32), (∀ vl' tv' : Nat → Int32, post r (nI w, nI (2 ^ w), nI (2 ^ (3 * w)), nI T, nI S, nI C, nI (T + S), ord, kd, ka, kb, kc, so, sp, sq, ct, cs, vl', tv')) → wY_same_20 post (nI i) (nI j) (d + 1) (nI n) (nI w) (nI (2 ^ w)) (nI (2 ^ (3 * w))) (nI T) (nI S) (nI C) (nI (T + S)) ord kd ka kb kc so sp sq ct cs vl tv) := by
  have hA := bb_A I.2.1
  have h28 := I.2.2.1
  intro d
  induction d with
  | zero =>
    intro n hn
    have hl : nI (2 ^ (3 * w)) ≤ nI n := nI_le (by omega) (by omega)
    refine ⟨1, fun post h => ?_, fun post vl tv h => ?_⟩
    · rw [wX_same_20]; exact br_t hl h
    · rw [wY_same_20]; exact br_t hl (h _ _)
  | succ d ih =>
    intro n hn
    have hl : ¬ nI (2 ^ (3 * w)) ≤ nI n := nI_ge (by omega) (by omega)
    have hx : n < 2 ^ (3 * w) := by omega
    by_cases z : wd (i * 4096 + n) = wd (j * 4096 + n)
    · obtain ⟨r, hX, hY⟩ := ih (n + 1) (by omega)
      refine ⟨r, fun post h => ?_, fun post vl tv h => ?_⟩
      · rw [wX_same_20]
        exact br_f hl (bx_word (by omega) (by omega) (bx_word (by omega) (by omega) (br_t z (nm_r (nI_1 n) (hX post h)))))
      · rw [wY_same_20]
        refine br_f hl (by_workI I hx fun vl' tv' hm => ⟨vp_in_nI (by omega) (by decide), vp_in_nI (by omega) (by decide), ?_⟩)
        rw [bb_ci hi h28, bb_ci hj h28]
        exact br_t (by rw [hm.1 i hi, hm.1 j hj]; exact z) (nm_r (nI_1 n) (hY post _ _ h))
    · refine ⟨0, fun post h => ?_, fun post vl tv h => ?_⟩
      · rw [wX_same_20]
        exact br_f hl (bx_word (by omega) (by omega) (bx_word (by omega) (by omega) (br_f z h)))
      · rw [wY_same_20]
        refine br_f hl (by_workI I hx fun vl' tv' hm => ⟨vp_in_nI (by omega) (by decide), vp_in_nI (by omega) (by decide), ?_⟩)
        rw [bb_ci hi h28, bb_ci hj h28]
        exact br_f (by rw [hm.1 i hi, hm.1 j hj]; exact z) (h _ _)
end
end
section
section
variable {w T S C : Nat} {wd bo ct cs ord kd ka kb kc so sp sq vl tv : Nat → Int32}
theorem bb_least {i : Nat} (I : bb_I w T S C wd bo ct ord kd ka kb kc so sp sq) (hi : i < T) : ∀ d n, n + d = 2 ^ (3 * w) → ∀ xa ya : Int32, ((xa = nI (2 ^ w) ∧ ya = -2) ∨ ∃ m, m < 2 ^ w ∧ xa = nI m ∧ ya = nI m) → ∃ r : Int32, (∀ post : Int32 → Prop, post r → wX_least_22 post (nI i) (nI (2 ^ w)) (nI w) (nI (2 ^ w - 1)) (nI (2 ^ (3 * w))) (nI T) (nI S) (nI C) wd bo ct cs 114688 65536 (d + 1) xa (nI n)) ∧
    (∀ (post : Int32 → SY → Prop) (vl tv : Nat → Int32), (∀ vl' tv' : Nat → Int32, post r (nI w, nI (2 ^ w), nI (2 ^ (3 * w)), nI T, nI S, nI C, nI (T + S), ord, kd, ka, kb, kc, so, sp, sq, ct, cs, vl', tv')) → wY_extreme_16 post (nI i) 1 (d + 1) ya (nI n) (nI w) (nI (2 ^ w)) (nI (2 ^ (3 * w))) (nI T) (nI S) (nI C) (nI (T + S)) ord kd ka kb kc so sp sq ct cs vl tv) := by
  have hA := bb_A I.2.1
  have h28 := I.2.2.1
  have hw := bb_p16 I.2.1
  intro d
  induction d with
  | zero =>
    intro n hn xa ya hr
    have hl : nI (2 ^ (3 * w)) ≤ nI n := nI_le (by omega) (by omega)
    refine ⟨ya, fun post h => ?_, fun post vl tv h => ?_⟩
    · rw [wX_least_22]; refine br_t hl ?_
      rcases hr with ⟨rfl, rfl⟩ | ⟨m, hm, rfl, rfl⟩
      · exact br_t rfl h
      · exact br_f (fun q => absurd ((nI_eq (by omega) (by omega)).mp q) (by omega)) h
    · rw [wY_extreme_16]; exact br_t hl (h _ _)
  | succ d ih =>
    intro n hn xa ya hr
    have hl : ¬ nI (2 ^ (3 * w)) ≤ nI n := nI_ge (by omega) (by omega)
    have hx : n < 2 ^ (3 * w) := by omega
    obtain ⟨v, hv, ev⟩ := bb_Ir I i hi n hx
    by_cases z : bb_Sol C ct cs bo n
    · -- the new word is kept, or the old one
      rcases hr with ⟨rfl, rfl⟩ | ⟨m, hm, rfl, rfl⟩
      · obtain ⟨r, hX, hY⟩ := ih (n + 1) (by omega) (nI v) (nI v) (Or.inr ⟨v, hv, rfl, rfl⟩)
        refine ⟨r, fun post h => ?_, fun post vl tv h => ?_⟩
        · rw [wX_least_22]
          refine br_f hl (bx_word (by omega) (by omega) ?_)
          rw [ev]
          exact br_f (nI_ge hv (by omega)) (bx_solI I hx (fun _ => br_f (by decide) (nm_r (nI_1 n) (hX post h))) (fun q => absurd z q))
        · rw [wY_extreme_16]
          refine br_f hl (by_solI I hx (fun _ vl' tv' hm => br_f (by decide) ⟨vp_in_nI (by omega) (by decide), ?_⟩) (fun q => absurd z q))
          rw [bb_ci hi h28, hm.1 i hi, ev]
          exact nm_e (br_t (by decide) (nm_r (nI_1 n) (hY post _ _ h)))
      · by_cases g : m ≤ v
        · obtain ⟨r, hX, hY⟩ := ih (n + 1) (by omega) (nI m) (nI m) (Or.inr ⟨m, hm, rfl, rfl⟩)
          refine ⟨r, fun post h => ?_, fun post vl tv h => ?_⟩
          · rw [wX_least_22]
            refine br_f hl (bx_word (by omega) (by omega) ?_)
            rw [ev]
            exact br_t (nI_le g (by omega)) (nm_r (nI_1 n) (hX post h))
          · rw [wY_extreme_16]
            refine br_f hl (by_solI I hx (fun _ vl' tv' hm => br_f (by decide) ⟨vp_in_nI (by omega) (by decide), ?_⟩) (fun q => absurd z q))
            rw [bb_ci hi h28, hm.1 i hi, ev]
            exact nm_e (br_f (nI_pos (by omega)) (br_f (by decide) (br_t (nI_le g (by omega)) (nm_r (nI_1 n) (hY post _ _ h)))))
        · obtain ⟨r, hX, hY⟩ := ih (n + 1) (by omega) (nI v) (nI v) (Or.inr ⟨v, hv, rfl, rfl⟩)
          refine ⟨r, fun post h => ?_, fun post vl tv h => ?_⟩
          · rw [wX_least_22]
            refine br_f hl (bx_word (by omega) (by omega) ?_)
            rw [ev]
            exact br_f (nI_ge (by omega) (by omega)) (bx_solI I hx (fun _ => br_f (by decide) (nm_r (nI_1 n) (hX post h))) (fun q => absurd z q))
          · rw [wY_extreme_16]
            refine br_f hl (by_solI I hx (fun _ vl' tv' hm => br_f (by decide) ⟨vp_in_nI (by omega) (by decide), ?_⟩) (fun q => absurd z q))
            rw [bb_ci hi h28, hm.1 i hi, ev]
            exact nm_e (br_f (nI_pos (by omega)) (br_f (by decide) (br_f (nI_ge (by omega) (by omega)) (nm_r (nI_1 n) (hY post _ _ h)))))
    · obtain ⟨r, hX, hY⟩ := ih (n + 1) (by omega) xa ya hr
      refine ⟨r, fun post h => ?_, fun post vl tv h => ?_⟩
      · rw [wX_least_22]
        refine br_f hl (bx_word (by omega) (by omega) ?_)
        exact br_c (fun _ => nm_r (nI_1 n) (hX post h)) (fun _ => bx_solI I hx (fun q => absurd q z) (fun _ => br_t rfl (nm_r (nI_1 n) (hX post h))))
      · rw [wY_extreme_16]
        exact br_f hl (by_solI I hx (fun q => absurd q z) (fun _ vl' tv' _ => br_t rfl (nm_r (nI_1 n) (hY post _ _ h))))
theorem bb_m1 {v : Nat} (h : v < 16) : ¬ nI v ≤ -1 := (show ∀ v, v < 16 → ¬ nI v ≤ -1 by decide +kernel) v h
theorem bb_m1e {v : Nat} (h : v < 16) : ¬ nI v = -1 := (show ∀ v, v < 16 → ¬ nI v = -1 by decide +kernel) v h
theorem bb_greatest {i : Nat} (I : bb_I w T S C wd bo ct ord kd ka kb kc so sp sq) (hi : i < T) : ∀ d n, n + d = 2 ^ (3 * w) → ∀ xa ya : Int32, ((xa = -1 ∧ ya = -2) ∨ ∃ m, m < 2 ^ w ∧ xa = nI m ∧ ya = nI m) → ∃ r : Int32, (∀ post : Int32 → Prop, post r → wX_greatest_17 post (nI i) (-1) (nI w) (nI (2 ^ w - 1)) (nI (2 ^ (3 * w))) (nI T) (nI S) (nI C) wd bo ct cs 114688 65536 (d + 1) xa (nI n)) ∧
    (∀ (post : Int32 → SY → Prop) (vl tv : Nat → Int32), (∀ vl' tv' : Nat → Int32, post r (nI w, nI (2 ^ w), nI (2 ^ (3 * w)), nI T, nI S, nI C, nI (T + S), ord, kd, ka, kb, kc, so, sp, sq, ct, cs, vl', tv')) → wY_extreme_16 post (nI i) 0 (d + 1) ya (nI n) (nI w) (nI (2 ^ w)) (nI (2 ^ (3 * w))) (nI T) (nI S) (nI C) (nI (T + S)) ord kd ka kb kc so sp sq ct cs vl tv) := by
  have hA := bb_A I.2.1
  have h28 := I.2.2.1
  have hw := bb_p16 I.2.1
  intro d
  induction d with
  | zero =>
    intro n hn xa ya hr
    have hl : nI (2 ^ (3 * w)) ≤ nI n := nI_le (by omega) (by omega)
    refine ⟨ya, fun post h => ?_, fun post vl tv h => ?_⟩
    · rw [wX_greatest_17]; refine br_t hl ?_
      rcases hr with ⟨rfl, rfl⟩ | ⟨m, hm, rfl, rfl⟩
      · exact br_t rfl h
      · exact br_f (bb_m1e (by omega)) h
    · rw [wY_extreme_16]; exact br_t hl (h _ _)
  | succ d ih =>
    intro n hn xa ya hr
    have hl : ¬ nI (2 ^ (3 * w)) ≤ nI n := nI_ge (by omega) (by omega)
    have hx : n < 2 ^ (3 * w) := by omega
    obtain ⟨v, hv, ev⟩ := bb_Ir I i hi n hx
    by_cases z : bb_Sol C ct cs bo n
    · rcases hr with ⟨rfl, rfl⟩ | ⟨m, hm, rfl, rfl⟩
      · obtain ⟨r, hX, hY⟩ := ih (n + 1) (by omega) (nI v) (nI v) (Or.inr ⟨v, hv, rfl, rfl⟩)
        refine ⟨r, fun post h => ?_, fun post vl tv h => ?_⟩
        · rw [wX_greatest_17]
          refine br_f hl (bx_word (by omega) (by omega) ?_)
          rw [ev]
          exact br_f (bb_m1 (by omega)) (bx_solI I hx (fun _ => br_f (by decide) (nm_r (nI_1 n) (hX post h))) (fun q => absurd z q))
        · rw [wY_extreme_16]
          refine br_f hl (by_solI I hx (fun _ vl' tv' hm => br_f (by decide) ⟨vp_in_nI (by omega) (by decide), ?_⟩) (fun q => absurd z q))
          rw [bb_ci hi h28, hm.1 i hi, ev]
          exact nm_e (br_t (by decide) (nm_r (nI_1 n) (hY post _ _ h)))
      · by_cases g : v ≤ m
        · obtain ⟨r, hX, hY⟩ := ih (n + 1) (by omega) (nI m) (nI m) (Or.inr ⟨m, hm, rfl, rfl⟩)
          refine ⟨r, fun post h => ?_, fun post vl tv h => ?_⟩
          · rw [wX_greatest_17]
            refine br_f hl (bx_word (by omega) (by omega) ?_)
            rw [ev]
            exact br_t (nI_le g (by omega)) (nm_r (nI_1 n) (hX post h))
          · rw [wY_extreme_16]
            refine br_f hl (by_solI I hx (fun _ vl' tv' hm => br_f (by decide) ⟨vp_in_nI (by omega) (by decide), ?_⟩) (fun q => absurd z q))
            rw [bb_ci hi h28, hm.1 i hi, ev]
            exact nm_e (br_f (nI_pos (by omega)) (br_t rfl (br_t (nI_le g (by omega)) (nm_r (nI_1 n) (hY post _ _ h)))))
        · obtain ⟨r, hX, hY⟩ := ih (n + 1) (by omega) (nI v) (nI v) (Or.inr ⟨v, hv, rfl, rfl⟩)
          refine ⟨r, fun post h => ?_, fun post vl tv h => ?_⟩
          · rw [wX_greatest_17]
            refine br_f hl (bx_word (by omega) (by omega) ?_)
            rw [ev]
            exact br_f (nI_ge (by omega) (by omega)) (bx_solI I hx (fun _ => br_f (by decide) (nm_r (nI_1 n) (hX post h))) (fun q => absurd z q))
          · rw [wY_extreme_16]
            refine br_f hl (by_solI I hx (fun _ vl' tv' hm => br_f (by decide) ⟨vp_in_nI (by omega) (by decide), ?_⟩) (fun q => absurd z q))
            rw [bb_ci hi h28, hm.1 i hi, ev]
            exact nm_e (br_f (nI_pos (by omega)) (br_t rfl (br_f (nI_ge (by omega) (by omega)) (nm_r (nI_1 n) (hY post _ _ h)))))
    · obtain ⟨r, hX, hY⟩ := ih (n + 1) (by omega) xa ya hr
      refine ⟨r, fun post h => ?_, fun post vl tv h => ?_⟩
      · rw [wX_greatest_17]
        refine br_f hl (bx_word (by omega) (by omega) ?_)
        exact br_c (fun _ => nm_r (nI_1 n) (hX post h)) (fun _ => bx_solI I hx (fun q => absurd q z) (fun _ => br_t rfl (nm_r (nI_1 n) (hX post h))))
      · rw [wY_extreme_16]
        exact br_f hl (by_solI I hx (fun q => absurd q z) (fun _ vl' tv' _ => br_t rfl (nm_r (nI_1 n) (hY post _ _ h))))
/-- the class's two flags after one more solution -/
theorem bx_fol58 {post : Int32 → Prop} {J : Int32 → Int32 → Int32 → Prop} {n : Nat} {x1 x3 t z0 : Int32} (h : J z0 (if x3 = 0 then (if t = 0 then 1 else 0) else 1) (nI (n + 1))) : wX_follows_58 post J x1 x3 (nI n) t z0 (nI w) (nI (2 ^ w - 1)) (nI (2 ^ (3 * w))) (nI T) (nI S) (nI C) wd bo ct cs 114688 65536 := by
  unfold wX_follows_58
  by_cases e : x3 = 0
  · rw [if_pos e] at h; refine br_t e ?_
    by_cases e2 : t = 0
    · rw [if_pos e2] at h; exact br_t e2 (nm_r (nI_1 n) h)
    · rw [if_neg e2] at h; exact br_f e2 (nm_r (nI_1 n) h)
  · rw [if_neg e] at h; exact br_f e (nm_r (nI_1 n) h)
theorem bb_follows {i : Nat} (I : bb_I w T S C wd bo ct ord kd ka kb kc so sp sq) (hi : i < S) : ∀ d n, n + d = 2 ^ (3 * w) → ∀ x2 x3 : Int32, (x2 = 0 ∨ x2 = 1) → (x3 = 0 ∨ x3 = 1) → ∃ r : Int32, (∀ post : Int32 → Prop, post r → wX_follows_17 post (nI i) (nI w) (nI (2 ^ w - 1)) (nI (2 ^ (3 * w))) (nI T) (nI S) (nI C) wd bo ct cs 114688 65536 (d + 1) x2 x3 (nI n)) ∧
    (∀ (post : Int32 → SY → Prop) (vl tv : Nat → Int32), (∀ vl' tv' : Nat → Int32, post r (nI w, nI (2 ^ w), nI (2 ^ (3 * w)), nI T, nI S, nI C, nI (T + S), ord, kd, ka, kb, kc, so, sp, sq, ct, cs, vl', tv')) → wY_follows_17 post (nI i) (d + 1) x2 x3 (nI n) (nI w) (nI (2 ^ w)) (nI (2 ^ (3 * w))) (nI T) (nI S) (nI C) (nI (T + S)) ord kd ka kb kc so sp sq ct cs vl tv) := by
  have hA := bb_A I.2.1
  have h16 := I.2.2.2.1
  intro d
  induction d with
  | zero =>
    intro n hn x2 x3 h2 h3
    have hl : nI (2 ^ (3 * w)) ≤ nI n := nI_le (by omega) (by omega)
    by_cases e3 : x3 = 0
    · refine ⟨1, fun post h => ?_, fun post vl tv h => ?_⟩
      · rw [wX_follows_17]; exact br_t hl (br_t e3 h)
      · rw [wY_follows_17]; exact br_t hl (br_t e3 (h _ _))
    · by_cases e2 : x2 = 0
      · refine ⟨0, fun post h => ?_, fun post vl tv h => ?_⟩
        · rw [wX_follows_17]; exact br_t hl (br_f e3 (br_t e2 h))
        · rw [wY_follows_17]; exact br_t hl (br_f e3 (br_t e2 (h _ _)))
      · refine ⟨2, fun post h => ?_, fun post vl tv h => ?_⟩
        · rw [wX_follows_17]; exact br_t hl (br_f e3 (br_f e2 h))
        · rw [wY_follows_17]; exact br_t hl (br_f e3 (br_f e2 (h _ _)))
  | succ d ih =>
    intro n hn x2 x3 h2 h3
    have hl : ¬ nI (2 ^ (3 * w)) ≤ nI n := nI_ge (by omega) (by omega)
    have hx : n < 2 ^ (3 * w) := by omega
    by_cases z : bb_Sol C ct cs bo n
    · by_cases t : bo (i * 4096 + n) = 0
      · obtain ⟨r, hX, hY⟩ := ih (n + 1) (by omega) x2 1 h2 (Or.inr rfl)
        refine ⟨r, fun post h => ?_, fun post vl tv h => ?_⟩
        · rw [wX_follows_17]
          refine br_f hl (bx_solI I hx (fun _ => br_f (by decide) (bx_truth (by omega) (by omega) (bb_Ib I i hi n hx) ?_)) (fun q => absurd z q))
          have e3 : (if x3 = 0 then (if bo (i * 4096 + n) = 0 then 1 else 0) else 1 : Int32) = 1 := by rw [if_pos t]; split <;> rfl
          rcases h2 with rfl | rfl
          · refine br_t rfl (br_t t (bx_fol58 ?_))
            rw [e3]; exact hX post h
          · refine br_f (by decide) ?_
            unfold wX_follows_53
            refine bx_fol58 ?_
            rw [e3]; exact hX post h
        · rw [wY_follows_17]
          refine br_f hl (by_solI I hx (fun _ vl' tv' hm => br_f (by decide) ⟨vp_in_nI (by omega) (by decide), ?_⟩) (fun q => absurd z q))
          rw [nI_clamp (show i < 2 ^ 31 by omega)]
          exact br_t ((hm.2 i hi).trans t) (nm_r (nI_1 n) (hY post _ _ h))
      · obtain ⟨r, hX, hY⟩ := ih (n + 1) (by omega) 1 x3 (Or.inr rfl) h3
        refine ⟨r, fun post h => ?_, fun post vl tv h => ?_⟩
        · rw [wX_follows_17]
          refine br_f hl (bx_solI I hx (fun _ => br_f (by decide) (bx_truth (by omega) (by omega) (bb_Ib I i hi n hx) ?_)) (fun q => absurd z q))
          have e3 : (if x3 = 0 then (if bo (i * 4096 + n) = 0 then 1 else 0) else 1 : Int32) = x3 := by
            rw [if_neg t]
            rcases h3 with rfl | rfl <;> rfl
          rcases h2 with rfl | rfl
          · refine br_t rfl (br_f t ?_)
            unfold wX_follows_53
            refine bx_fol58 ?_
            rw [e3]; exact hX post h
          · refine br_f (by decide) ?_
            unfold wX_follows_53
            refine bx_fol58 ?_
            rw [e3]; exact hX post h
        · rw [wY_follows_17]
          refine br_f hl (by_solI I hx (fun _ vl' tv' hm => br_f (by decide) ⟨vp_in_nI (by omega) (by decide), ?_⟩) (fun q => absurd z q))
          rw [nI_clamp (show i < 2 ^ 31 by omega)]
          exact br_f (fun q => t ((hm.2 i hi).symm.trans q)) (nm_r (nI_1 n) (hY post _ _ h))
    · obtain ⟨r, hX, hY⟩ := ih (n + 1) (by omega) x2 x3 h2 h3
      refine ⟨r, fun post h => ?_, fun post vl tv h => ?_⟩
      · rw [wX_follows_17]
        exact br_f hl (bx_solI I hx (fun q => absurd q z) (fun _ => br_t rfl (nm_r (nI_1 n) (hX post h))))
      · rw [wY_follows_17]
        exact br_f hl (by_solI I hx (fun q => absurd q z) (fun _ vl' tv' _ => br_t rfl (nm_r (nI_1 n) (hY post _ _ h))))
end
end
section
theorem bb_neg {m : Nat} {x : Int32} (h : x < 0) (hm : m < 2 ^ 31) : ¬ nI m ≤ x := fun q => nI_pos hm (Int32.lt_of_le_of_lt q h)
theorem i_vc_solvable {k : Nat} {u : SX} {v : SY} (I : i_Rel k u v) (hk : k + 4 ≤ 2049) : wpX_solvable (fun r => wpY_solvable (fun r' v' => r' = r ∧ i_Rel (k + 4) u v') v) u := by
  obtain ⟨w, T, S, C, wd, bo, ct, cs, ord, kd, ka, kb, kc, so, sp, sq, vl, tv, rfl, rfl, I⟩ := I
  have hA := bb_A I.2.1
  obtain ⟨r, hX, hY⟩ := bb_first (cs := cs) I (2 ^ (3 * w)) 0 (by omega)
  unfold wpX_solvable wpX_firstSolutionFrom; dsimp only
  refine ⟨_, hX _ ?_⟩
  by_cases z : r < 0
  · refine br_t z ?_
    unfold wpY_solvable wpY_after; dsimp only
    exact ⟨_, hY _ _ (fun m _ hm => bb_neg (by decide) (by omega)) _ _ fun vl' tv' => br_f (Int32.not_le.mpr z) ⟨rfl, bb_rel I⟩⟩
  · refine br_f z ?_
    unfold wpY_solvable wpY_after; dsimp only
    exact ⟨_, hY _ _ (fun m _ hm => bb_neg (by decide) (by omega)) _ _ fun vl' tv' => br_t (Int32.not_lt.mp z) ⟨rfl, bb_rel I⟩⟩
theorem i_vc_next {k : Nat} {u : SX} {v : SY} (I : i_Rel k u v) (hk : k + 4 ≤ 2049) (v1 : Int32) : wpX_next (fun r => wpY_next (fun r' v' => r' = r ∧ i_Rel (k + 4) u v') v v1) u v1 := by
  obtain ⟨w, T, S, C, wd, bo, ct, cs, ord, kd, ka, kb, kc, so, sp, sq, vl, tv, rfl, rfl, I⟩ := I
  have hA := bb_A I.2.1
  by_cases h0 : v1 < 0
  · have hl : v1 < nI (2 ^ (3 * w)) := Int32.lt_of_lt_of_le h0 (nI_pos' (by omega))
    refine br_t hl (br_f (Int32.not_le.mpr h0) ?_)
    obtain ⟨r, hX, hY⟩ := bb_first (cs := cs) I (2 ^ (3 * w)) 0 (by omega)
    unfold wX_next_21 wpX_firstSolutionFrom; dsimp only
    refine ⟨_, hX _ ?_⟩
    unfold wpY_next wpY_after; dsimp only
    exact ⟨_, hY _ _ (fun m _ hm => bb_neg h0 (by omega)) _ _ fun vl' tv' => ⟨rfl, bb_rel I⟩⟩
  · obtain ⟨a, ha, rfl⟩ := nI_of h0
    by_cases g : a < 2 ^ (3 * w)
    · refine br_t (nI_lt g (by omega)) (br_t (nI_pos' ha) ?_)
      obtain ⟨r, hX, hY⟩ := bb_first (cs := cs) I (2 ^ (3 * w) - (a + 1)) (a + 1) (by omega)
      unfold wX_next_21 wpX_firstSolutionFrom; dsimp only
      rw [nI_1]
      refine ⟨_, hX _ ?_⟩
      unfold wpY_next wpY_after; dsimp only
      exact ⟨_, by_skip hA (by omega) (fun m hm => nI_le (by omega) (by omega)) (hY _ _ (fun m h1 hm => nI_ge (by omega) (by omega)) _ _ fun vl' tv' => ⟨rfl, bb_rel I⟩) (a + 1) 0 (by omega)⟩
    · refine br_f (nI_nlt (by omega) ha) ?_
      unfold wpY_next wpY_after; dsimp only
      refine ⟨_, by_skip (f := 1) hA (Nat.le_refl _) (fun m hm => nI_le (by omega) ha) ?_ (2 ^ (3 * w)) 0 (by omega)⟩
      rw [wY_after_2]
      exact br_t (nI_le (Nat.le_refl _) (by omega)) ⟨rfl, bb_rel I⟩
theorem i_vc_count {k : Nat} {u : SX} {v : SY} (I : i_Rel k u v) (hk : k + 4 ≤ 2049) : wpX_count (fun r => wpY_count (fun r' v' => r' = r ∧ i_Rel (k + 4) u v') v) u := by
  obtain ⟨w, T, S, C, wd, bo, ct, cs, ord, kd, ka, kb, kc, so, sp, sq, vl, tv, rfl, rfl, I⟩ := I
  obtain ⟨r, hX, hY⟩ := bb_count (cs := cs) I (2 ^ (3 * w)) 0 (by omega) 0
  unfold wpX_count; dsimp only
  refine ⟨_, hX _ ?_⟩
  unfold wpY_count; dsimp only
  exact ⟨_, hY _ _ _ fun vl' tv' => ⟨rfl, bb_rel I⟩⟩
theorem i_vc_least {k : Nat} {u : SX} {v : SY} (I : i_Rel k u v) (hk : k + 4 ≤ 2049) (v1 : Int32) : wpX_least (fun r => wpY_least (fun r' v' => r' = r ∧ i_Rel (k + 4) u v') v v1) u v1 := by
  obtain ⟨w, T, S, C, wd, bo, ct, cs, ord, kd, ka, kb, kc, so, sp, sq, vl, tv, rfl, rfl, I⟩ := I
  have hw4 := I.2.1
  have h28 := I.2.2.1
  unfold wpX_least; dsimp only
  by_cases pa : vp_in v1 T
  · obtain ⟨a, ha, rfl⟩ := vp_in_of pa (by omega)
    obtain ⟨r, hX, hY⟩ := bb_least (cs := cs) I ha (2 ^ (3 * w)) 0 (by omega) _ _ (Or.inl ⟨rfl, rfl⟩)
    refine bx_isT1 ha h28 (br_f (by decide) (nm_r (bb_mk1 w (by omega)) ⟨_, hX _ ?_⟩))
    unfold wpY_least wpY_extreme; dsimp only
    exact by_badT0 ha h28 (br_t rfl ⟨_, hY _ _ _ fun vl' tv' => ⟨rfl, bb_rel I⟩⟩)
  · refine bx_isT0 pa h28 (br_t rfl ?_)
    unfold wpY_least wpY_extreme; dsimp only
    exact by_badT1 pa h28 (br_f (by decide) ⟨rfl, bb_rel I⟩)
theorem i_vc_greatest {k : Nat} {u : SX} {v : SY} (I : i_Rel k u v) (hk : k + 4 ≤ 2049) (v1 : Int32) : wpX_greatest (fun r => wpY_greatest (fun r' v' => r' = r ∧ i_Rel (k + 4) u v') v v1) u v1 := by
  obtain ⟨w, T, S, C, wd, bo, ct, cs, ord, kd, ka, kb, kc, so, sp, sq, vl, tv, rfl, rfl, I⟩ := I
  have h28 := I.2.2.1
  unfold wpX_greatest; dsimp only
  by_cases pa : vp_in v1 T
  · obtain ⟨a, ha, rfl⟩ := vp_in_of pa (by omega)
    obtain ⟨r, hX, hY⟩ := bb_greatest (cs := cs) I ha (2 ^ (3 * w)) 0 (by omega) _ _ (Or.inl ⟨rfl, rfl⟩)
    refine bx_isT1 ha h28 (br_f (by decide) ⟨_, hX _ ?_⟩)
    unfold wpY_greatest wpY_extreme; dsimp only
    exact by_badT0 ha h28 (br_t rfl ⟨_, hY _ _ _ fun vl' tv' => ⟨rfl, bb_rel I⟩⟩)
  · refine bx_isT0 pa h28 (br_t rfl ?_)
    unfold wpY_greatest wpY_extreme; dsimp only
    exact by_badT1 pa h28 (br_f (by decide) ⟨rfl, bb_rel I⟩)
theorem i_vc_follows {k : Nat} {u : SX} {v : SY} (I : i_Rel k u v) (hk : k + 4 ≤ 2049) (v1 : Int32) : wpX_follows (fun r => wpY_follows (fun r' v' => r' = r ∧ i_Rel (k + 4) u v') v v1) u v1 := by
  obtain ⟨w, T, S, C, wd, bo, ct, cs, ord, kd, ka, kb, kc, so, sp, sq, vl, tv, rfl, rfl, I⟩ := I
  have h16 := I.2.2.2.1
  unfold wpX_follows; dsimp only
  by_cases pa : vp_in v1 S
  · obtain ⟨a, ha, rfl⟩ := vp_in_of pa (by omega)
    obtain ⟨r, hX, hY⟩ := bb_follows (cs := cs) I ha (2 ^ (3 * w)) 0 (by omega) 0 0 (Or.inl rfl) (Or.inl rfl)
    refine bx_isS1 ha h16 (br_f (by decide) ⟨_, hX _ ?_⟩)
    unfold wpY_follows; dsimp only
    exact by_badS0 ha h16 (br_t rfl ⟨_, hY _ _ _ fun vl' tv' => ⟨rfl, bb_rel I⟩⟩)
  · refine bx_isS0 pa h16 (br_t rfl ?_)
    unfold wpY_follows; dsimp only
    exact by_badS1 pa h16 (br_f (by decide) ⟨rfl, bb_rel I⟩)
theorem i_vc_same {k : Nat} {u : SX} {v : SY} (I : i_Rel k u v) (hk : k + 4 ≤ 2049) (v1 : Int32) (v2 : Int32) : wpX_same (fun r => wpY_same (fun r' v' => r' = r ∧ i_Rel (k + 4) u v') v v1 v2) u v1 v2 := by
  obtain ⟨w, T, S, C, wd, bo, ct, cs, ord, kd, ka, kb, kc, so, sp, sq, vl, tv, rfl, rfl, I⟩ := I
  have h28 := I.2.2.1
  unfold wpX_same; dsimp only
  by_cases pa : vp_in v1 T
  · obtain ⟨a, ha, rfl⟩ := vp_in_of pa (by omega)
    refine bx_isT1 ha h28 (br_f (by decide) ?_)
    by_cases pb : vp_in v2 T
    · obtain ⟨b, hb, rfl⟩ := vp_in_of pb (by omega)
      obtain ⟨r, hX, hY⟩ := bb_same (cs := cs) I ha hb (2 ^ (3 * w)) 0 (by omega)
      refine bx_isT1 hb h28 (br_f (by decide) ⟨_, hX _ ?_⟩)
      unfold wpY_same; dsimp only
      exact by_badT0 ha h28 (br_t rfl (by_badT0 hb h28 (br_t rfl ⟨_, hY _ _ _ fun vl' tv' => ⟨rfl, bb_rel I⟩⟩)))
    · refine bx_isT0 pb h28 (br_t rfl ?_)
      unfold wpY_same; dsimp only
      exact by_badT0 ha h28 (br_t rfl (by_badT1 pb h28 (br_f (by decide) ⟨rfl, bb_rel I⟩)))
  · refine bx_isT0 pa h28 (br_t rfl ?_)
    unfold wpY_same; dsimp only
    exact by_badT1 pa h28 (br_f (by decide) ⟨rfl, bb_rel I⟩)
theorem bb_sh : ∀ w, w < 5 → (1 : Int32) <<< (nI w &&& 31) = nI (2 ^ w) ∧ (1 : Int32) <<< ((3 * nI w) &&& 31) = nI (2 ^ (3 * w)) := by decide +kernel
/-- what the constructors leave, at a width that the clamp gives -/
theorem bb_start {w : Nat} (h1 : 1 ≤ w) (h4 : w ≤ 4) : i_Rel 1 (nI w, nI (2 ^ w - 1), nI (2 ^ (3 * w)), 0, 0, 0, (fun _ => 0), (fun _ => 0), (fun _ => 0), (fun _ => 0), 114688, 65536) (nI w, nI (2 ^ w), nI (2 ^ (3 * w)), 0, 0, 0, 0, (fun _ => 0), (fun _ => 0), (fun _ => 0), (fun _ => 0), (fun _ => 0), (fun _ => 0), (fun _ => 0), (fun _ => 0), (fun _ => 0), (fun _ => 0), (fun _ => 0), (fun _ => 0)) :=
  ⟨w, 0, 0, 0, _, _, _, _, _, _, _, _, _, _, _, _, _, _, rfl, rfl, h1, h4, by omega, by omega, by omega, fun i hi => absurd hi (by omega), rfl, rfl⟩
theorem bx_init56 {post : SX → Prop} {w : Nat} (h4 : w ≤ 4) (h : post (nI w, nI (2 ^ w - 1), nI (2 ^ (3 * w)), 0, 0, 0, (fun _ => 0), (fun _ => 0), (fun _ => 0), (fun _ => 0), 114688, 65536)) : wX_init_56 post (nI w) 0 0 0 0 0 0 (fun _ => 0) (fun _ => 0) (fun _ => 0) (fun _ => 0) 114688 65536 := by
  obtain ⟨e1, e2⟩ := bb_sh w (by omega)
  unfold wX_init_56
  rw [e1, e2, bb_tm w (by omega)]
  exact nm_e (nm_e h)
theorem by_init120 {post : SY → Prop} {w : Nat} (h4 : w ≤ 4) (h : post (nI w, nI (2 ^ w), nI (2 ^ (3 * w)), 0, 0, 0, 0, (fun _ => 0), (fun _ => 0), (fun _ => 0), (fun _ => 0), (fun _ => 0), (fun _ => 0), (fun _ => 0), (fun _ => 0), (fun _ => 0), (fun _ => 0), (fun _ => 0), (fun _ => 0))) : wY_init_120 post (nI w) 0 0 0 0 0 0 0 (fun _ => 0) (fun _ => 0) (fun _ => 0) (fun _ => 0) (fun _ => 0) (fun _ => 0) (fun _ => 0) (fun _ => 0) (fun _ => 0) (fun _ => 0) (fun _ => 0) (fun _ => 0) := by
  obtain ⟨e1, e2⟩ := bb_sh w (by omega)
  unfold wY_init_120
  rw [e1, e2]
  exact nm_e (nm_e h)
/-- the constructors' walks behind the two questions of length: all that i_vc0 asks but 114688 ≤ 90112 (and 65536 ≤ 90112) -/
theorem bb_ctor (k0 : Int32) : ((1 ≤ k0 → (((k0 ≤ 4 → (wX_init_56 (fun u => wpY_init (fun v => i_Rel 1 u v) k0) k0 0 0 0 0 0 0 (fun _ => 0) (fun _ => 0) (fun _ => 0) (fun _ => 0) 114688 65536)) ∧ (¬ k0 ≤ 4 → (wX_init_56 (fun u => wpY_init (fun v => i_Rel 1 u v) k0) 4 0 0 0 0 0 0 (fun _ => 0) (fun _ => 0) (fun _ => 0) (fun _ => 0) 114688 65536))))) ∧ (¬ 1 ≤ k0 → (wX_init_56 (fun u => wpY_init (fun v => i_Rel 1 u v) k0) 1 0 0 0 0 0 0 (fun _ => 0) (fun _ => 0) (fun _ => 0) (fun _ => 0) 114688 65536))) := by
  by_cases h1 : 1 ≤ k0
  · refine br_t h1 ?_
    by_cases h4 : k0 ≤ 4
    · refine br_t h4 ?_
      obtain ⟨w, hw, rfl⟩ := nI_of2 (M := 4) (n := 4) (by decide) (fun z => absurd (Int32.lt_of_le_of_lt h1 z) (by decide)) h4
      have hw1 : 1 ≤ w := (nI_leI (a := 1) (by decide) (by omega)).mp h1
      exact bx_init56 hw (br_t h1 (br_t h4 (by_init120 hw (bb_start hw1 hw))))
    · exact br_f h4 (bx_init56 (w := 4) (by decide) (br_t h1 (br_f h4 (by_init120 (w := 4) (by decide) (bb_start (by decide) (by decide))))))
  · exact br_f h1 (bx_init56 (w := 1) (by decide) (br_f h1 (by_init120 (w := 1) (by decide) (bb_start (by decide) (by decide)))))
end
