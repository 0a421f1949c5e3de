section
variable {w T S C : Nat} {wd bo ct cs ord kd ka kb kc so sp sq vl tv : Nat → Int32}
theorem by_workI {post : SY → Prop} {x : Nat} (I : bb_I w T S C wd bo ct ord kd ka kb kc so sp sq) (hx : x < 2 ^ (3 * w)) (h : ∀ vl' tv', bb_Mt wd bo vl' tv' T S x → post (nI w, nI (2 ^ w), nI (2 ^ (3 * w)), nI T, nI S, nI C, nI (T + S), ord, kd, ka, kb, kc, so, sp, sq, ct, cs, vl', tv')) : wpY_work post (nI w, nI (2 ^ w), nI (2 ^ (3 * w)), nI T, nI S, nI C, nI (T + S), ord, kd, ka, kb, kc, so, sp, sq, ct, cs, vl, tv) (nI x) :=
  by_work hx I.2.2.1 I.2.2.2.1 (bb_tm w (by have := I.2.1; omega)) I.2.2.2.2.2.2 h
theorem by_solI {post : Int32 → SY → Prop} {x : Nat} (I : bb_I w T S C wd bo ct ord kd ka kb kc so sp sq) (hx : x < 2 ^ (3 * w))
    (h1 : bb_Sol C ct cs bo x → ∀ vl' tv', bb_Mt wd bo vl' tv' T S x → post 1 (nI w, nI (2 ^ w), nI (2 ^ (3 * w)), nI T, nI S, nI C, nI (T + S), ord, kd, ka, kb, kc, so, sp, sq, ct, cs, vl', tv')) (h0 : ¬ bb_Sol C ct cs bo x → ∀ vl' tv', bb_Mt wd bo vl' tv' T S x → post 0 (nI w, nI (2 ^ w), nI (2 ^ (3 * w)), nI T, nI S, nI C, nI (T + S), ord, kd, ka, kb, kc, so, sp, sq, ct, cs, vl', tv')) : wpY_solution post (nI w, nI (2 ^ w), nI (2 ^ (3 * w)), nI T, nI S, nI C, nI (T + S), ord, kd, ka, kb, kc, so, sp, sq, ct, cs, vl, tv) (nI x) :=
  by_sol hx I.2.2.1 I.2.2.2.1 I.2.2.2.2.1 (bb_tm w (by have := I.2.1; omega)) I.2.2.2.2.2.2 I.2.2.2.2.2.1 h1 h0
theorem bx_solI {post : Int32 → Prop} {x : Nat} (I : bb_I w T S C wd bo ct ord kd ka kb kc so sp sq) (hx : x < 2 ^ (3 * w)) (h1 : bb_Sol C ct cs bo x → post 1) (h0 : ¬ bb_Sol C ct cs bo x → post 0) : wpX_isSolution post (nI w, nI (2 ^ w - 1), nI (2 ^ (3 * w)), nI T, nI S, nI C, wd, bo, ct, cs, 114688, 65536) (nI x) :=
  bx_sol hx (bb_A I.2.1) I.2.2.2.2.1 I.2.2.2.1 I.2.2.2.2.2.1 (bb_Ib I) h1 h0
/-- the first solution from n on, on both sides -/
theorem bb_first (I : bb_I w T S C wd bo ct ord kd ka kb kc so sp sq) : ∀ d n, n + d = 2 ^ (3 * w) → ∃ r : Int32, (∀ post : Int32 → Prop, post r → wX_firstSolutionFrom_2 post (nI w) (nI (2 ^ w - 1)) (nI (2 ^ (3 * w))) (nI T) (nI S) (nI C) wd bo ct cs 114688 65536 (d + 1) (nI n)) ∧
    (∀ (post : Int32 → SY → Prop) (x1 : Int32), (∀ m, n ≤ m → m < 2 ^ (3 * w) → ¬ nI m ≤ x1) → ∀ vl tv : Nat → Int32, (∀ vl' tv' : Nat → Int32, post r (nI w, nI (2 ^ w), nI (2 ^ (3 * w)), nI T, nI S, nI C, nI (T + S), ord, kd, ka, kb, kc, so, sp, sq, ct, cs, vl', tv')) → wY_after_2 post x1 (d + 1) (nI n) (nI w) (nI (2 ^ w)) (nI (2 ^ (3 * w))) (nI T) (nI S) (nI C) (nI (T + S)) ord kd ka kb kc so sp sq ct cs vl tv) := by
  have hA := bb_A I.2.1
  intro d
  induction d with
  | zero =>
    intro n hn
    have hl : nI (2 ^ (3 * w)) ≤ nI n := nI_le (by omega) (by omega)
    refine ⟨-1, fun post h => ?_, fun post x1 _ vl tv h => ?_⟩
    · rw [wX_firstSolutionFrom_2]; exact br_t hl h
    · rw [wY_after_2]; exact br_t hl (h _ _)
  | succ d ih =>
    intro n hn
    have hl : ¬ nI (2 ^ (3 * w)) ≤ nI n := nI_ge (by omega) (by omega)
    have hx : n < 2 ^ (3 * w) := by omega
    by_cases z : bb_Sol C ct cs bo n
    · refine ⟨nI n, fun post h => ?_, fun post x1 hm vl tv h => ?_⟩
      · rw [wX_firstSolutionFrom_2]
        exact br_f hl (bx_solI I hx (fun _ => br_f (by decide) h) (fun q => absurd z q))
      · rw [wY_after_2]
        exact br_f hl (br_f (hm n (Nat.le_refl _) hx) (by_solI I hx (fun _ vl' tv' _ => br_f (by decide) (h _ _)) (fun q => absurd z q)))
    · obtain ⟨r, hX, hY⟩ := ih (n + 1) (by omega)
      refine ⟨r, fun post h => ?_, fun post x1 hm vl tv h => ?_⟩
      · rw [wX_firstSolutionFrom_2]
        exact br_f hl (bx_solI I hx (fun q => absurd q z) (fun _ => br_t rfl (nm_r (nI_1 n) (hX post h))))
      · rw [wY_after_2]
        exact br_f hl (br_f (hm n (Nat.le_refl _) hx) (by_solI I hx (fun q => absurd q z) (fun _ vl' tv' _ => br_t rfl (nm_r (nI_1 n) (hY post x1 (fun m h1 h2 => hm m (by omega) h2) _ _ h)))))
theorem by_skip {post : Int32 → SY → Prop} {x1 : Int32} {b f : Nat} (hA : 2 ^ (3 * w) ≤ 4096) (hb : b ≤ 2 ^ (3 * w)) (hs : ∀ m, m < b → nI m ≤ x1) (h : wY_after_2 post x1 f (nI b) (nI w) (nI (2 ^ w)) (nI (2 ^ (3 * w))) (nI T) (nI S) (nI C) (nI (T + S)) ord kd ka kb kc so sp sq ct cs vl tv) : ∀ e n, n + e = b → wY_after_2 post x1 (f + e) (nI n) (nI w) (nI (2 ^ w)) (nI (2 ^ (3 * w))) (nI T) (nI S) (nI C) (nI (T + S)) ord kd ka kb kc so sp sq ct cs vl tv := by
  intro e
  induction e with
  | zero =>
    intro n hn
    have e : n = b := by omega
    subst e; exact h
  | succ e ih =>
    intro n hn
    rw [show f + (e + 1) = (f + e) + 1 by omega, wY_after_2]
    exact br_f (nI_ge (by omega) (by omega)) (br_t (hs n (by omega)) (nm_r (nI_1 n) (ih (n + 1) (by omega))))
theorem bb_count (I : bb_I w T S C wd bo ct ord kd ka kb kc so sp sq) : ∀ d n, n + d = 2 ^ (3 * w) → ∀ c : Int32, ∃ r : Int32, (∀ post : Int32 → Prop, post r → wX_count_4 post (nI w) (nI (2 ^ w - 1)) (nI (2 ^ (3 * w))) (nI T) (nI S) (nI C) wd bo ct cs 114688 65536 (d + 1) c (nI n)) ∧
    (∀ (post : Int32 → SY → Prop) (vl tv : Nat → Int32), (∀ vl' tv' : Nat → Int32, post r (nI w, nI (2 ^ w), nI (2 ^ (3 * w)), nI T, nI S, nI C, nI (T + S), ord, kd, ka, kb, kc, so, sp, sq, ct, cs, vl', tv')) → wY_count_4 post (d + 1) c (nI n) (nI w) (nI (2 ^ w)) (nI (2 ^ (3 * w))) (nI T) (nI S) (nI C) (nI (T + S)) ord kd ka kb kc so sp sq ct cs vl tv) := by
  have hA := bb_A I.2.1
  intro d
  induction d with
  | zero =>
    intro n hn c
    have hl : nI (2 ^ (3 * w)) ≤ nI n := nI_le (by omega) (by omega)
    refine ⟨c, fun post h => ?_, fun post vl tv h => ?_⟩
    · rw [wX_count_4]; exact br_t hl h
    · rw [wY_count_4]; exact br_t hl (h _ _)
  | succ d ih =>
    intro n hn c
    have hl : ¬ nI (2 ^ (3 * w)) ≤ nI n := nI_ge (by omega) (by omega)
    have hx : n < 2 ^ (3 * w) := by omega
    by_cases z : bb_Sol C ct cs bo n
    · obtain ⟨r, hX, hY⟩ := ih (n + 1) (by omega) (c + 1)
      refine ⟨r, fun post h => ?_, fun post vl tv h => ?_⟩
      · rw [wX_count_4]
        exact br_f hl (bx_solI I hx (fun _ => br_f (by decide) (nm_e (nm_r (nI_1 n) (hX post h)))) (fun q => absurd z q))
      · rw [wY_count_4]
        exact br_f hl (by_solI I hx (fun _ vl' tv' _ => br_f (by decide) (nm_e (nm_r (nI_1 n) (hY post _ _ h)))) (fun q => absurd z q))
    · obtain ⟨r, hX, hY⟩ := ih (n + 1) (by omega) c
      refine ⟨r, fun post h => ?_, fun post vl tv h => ?_⟩
      · rw [wX_count_4]
        exact br_f hl (bx_solI I hx (fun q => absurd q z) (fun _ => br_t rfl (nm_r (nI_1 n) (hX post h))))
      · rw [wY_count_4]
        exact br_f hl (by_solI I hx (fun q => absurd q z) (fun _ vl' tv' _ => br_t rfl (nm_r (nI_1 n) (hY post _ _ h))))
theorem bb_same {i j : Nat} (I : bb_I w T S C wd bo ct ord kd ka kb kc so sp sq) (hi : i < T) (hj : j < T) : ∀ d n, n + d = 2 ^ (3 * w) → ∃ r : Int32, (∀ post : Int32 → Prop, post r → wX_same_20 post (nI i) (nI j) (nI w) (nI (2 ^ w - 1)) (nI (2 ^ (3 * w))) (nI T) (nI S) (nI C) wd bo ct cs 114688 65536 (d + 1) (nI n)) ∧
    (∀ (post : Int32 → SY → Prop) (vl tv : Nat → Int32), (∀ vl' tv' : Nat → Int32, post r (nI w, nI (2 ^ w), nI (2 ^ (3 * w)), nI T, nI S, nI C, nI (T + S), ord, kd, ka, kb, kc, so, sp, sq, ct, cs, vl', tv')) → wY_same_20 post (nI i) (nI j) (d + 1) (nI n) (nI w) (nI (2 ^ w)) (nI (2 ^ (3 * w))) (nI T) (nI S) (nI C) (nI (T + S)) ord kd ka kb kc so sp sq ct cs vl tv) := by
  have hA := bb_A I.2.1
  have h28 := I.2.2.1
  intro d
  induction d with
  | zero =>
    intro n hn
    have hl : nI (2 ^ (3 * w)) ≤ nI n := nI_le (by omega) (by omega)
    refine ⟨1, fun post h => ?_, fun post vl tv h => ?_⟩
    · rw [wX_same_20]; exact br_t hl h
    · rw [wY_same_20]; exact br_t hl (h _ _)
  | succ d ih =>
    intro n hn
    have hl : ¬ nI (2 ^ (3 * w)) ≤ nI n := nI_ge (by omega) (by omega)
    have hx : n < 2 ^ (3 * w) := by omega
    by_cases z : wd (i * 4096 + n) = wd (j * 4096 + n)
    · obtain ⟨r, hX, hY⟩ := ih (n + 1) (by omega)
      refine ⟨r, fun post h => ?_, fun post vl tv h => ?_⟩
      · rw [wX_same_20]
        exact br_f hl (bx_word (by omega) (by omega) (bx_word (by omega) (by omega) (br_t z (nm_r (nI_1 n) (hX post h)))))
      · rw [wY_same_20]
        refine br_f hl (by_workI I hx fun vl' tv' hm => ⟨vp_in_nI (by omega) (by decide), vp_in_nI (by omega) (by decide), ?_⟩)
        rw [bb_ci hi h28, bb_ci hj h28]
        exact br_t (by rw [hm.1 i hi, hm.1 j hj]; exact z) (nm_r (nI_1 n) (hY post _ _ h))
    · refine ⟨0, fun post h => ?_, fun post vl tv h => ?_⟩
      · rw [wX_same_20]
        exact br_f hl (bx_word (by omega) (by omega) (bx_word (by omega) (by omega) (br_f z h)))
      · rw [wY_same_20]
        refine br_f hl (by_workI I hx fun vl' tv' hm => ⟨vp_in_nI (by omega) (by decide), vp_in_nI (by omega) (by decide), ?_⟩)
        rw [bb_ci hi h28, bb_ci hj h28]
        exact br_f (by rw [hm.1 i hi, hm.1 j hj]; exact z) (h _ _)
end
