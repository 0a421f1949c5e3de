section
variable {w T S C : Nat} {wd bo ct cs ord kd ka kb kc so sp sq vl tv : Nat → Int32}
theorem bb_least {i : Nat} (I : bb_I w T S C wd bo ct ord kd ka kb kc so sp sq) (hi : i < T) : ∀ d n, n + d = 2 ^ (3 * w) → ∀ xa ya : Int32, ((xa = nI (2 ^ w) ∧ ya = -2) ∨ ∃ m, m < 2 ^ w ∧ xa = nI m ∧ ya = nI m) → ∃ r : Int32, (∀ post : Int32 → Prop, post r → wX_least_22 post (nI i) (nI (2 ^ w)) (nI w) (nI (2 ^ w - 1)) (nI (2 ^ (3 * w))) (nI T) (nI S) (nI C) wd bo ct cs 114688 65536 (d + 1) xa (nI n)) ∧
    (∀ (post : Int32 → SY → Prop) (vl tv : Nat → Int32), (∀ vl' tv' : Nat → Int32, post r (nI w, nI (2 ^ w), nI (2 ^ (3 * w)), nI T, nI S, nI C, nI (T + S), ord, kd, ka, kb, kc, so, sp, sq, ct, cs, vl', tv')) → wY_extreme_16 post (nI i) 1 (d + 1) ya (nI n) (nI w) (nI (2 ^ w)) (nI (2 ^ (3 * w))) (nI T) (nI S) (nI C) (nI (T + S)) ord kd ka kb kc so sp sq ct cs vl tv) := by
  have hA := bb_A I.2.1
  have h28 := I.2.2.1
  have hw := bb_p16 I.2.1
  intro d
  induction d with
  | zero =>
    intro n hn xa ya hr
    have hl : nI (2 ^ (3 * w)) ≤ nI n := nI_le (by omega) (by omega)
    refine ⟨ya, fun post h => ?_, fun post vl tv h => ?_⟩
    · rw [wX_least_22]; refine br_t hl ?_
      rcases hr with ⟨rfl, rfl⟩ | ⟨m, hm, rfl, rfl⟩
      · exact br_t rfl h
      · exact br_f (fun q => absurd ((nI_eq (by omega) (by omega)).mp q) (by omega)) h
    · rw [wY_extreme_16]; exact br_t hl (h _ _)
  | succ d ih =>
    intro n hn xa ya hr
    have hl : ¬ nI (2 ^ (3 * w)) ≤ nI n := nI_ge (by omega) (by omega)
    have hx : n < 2 ^ (3 * w) := by omega
    obtain ⟨v, hv, ev⟩ := bb_Ir I i hi n hx
    by_cases z : bb_Sol C ct cs bo n
    · -- the new word is kept, or the old one
      rcases hr with ⟨rfl, rfl⟩ | ⟨m, hm, rfl, rfl⟩
      · obtain ⟨r, hX, hY⟩ := ih (n + 1) (by omega) (nI v) (nI v) (Or.inr ⟨v, hv, rfl, rfl⟩)
        refine ⟨r, fun post h => ?_, fun post vl tv h => ?_⟩
        · rw [wX_least_22]
          refine br_f hl (bx_word (by omega) (by omega) ?_)
          rw [ev]
          exact br_f (nI_ge hv (by omega)) (bx_solI I hx (fun _ => br_f (by decide) (nm_r (nI_1 n) (hX post h))) (fun q => absurd z q))
        · rw [wY_extreme_16]
          refine br_f hl (by_solI I hx (fun _ vl' tv' hm => br_f (by decide) ⟨vp_in_nI (by omega) (by decide), ?_⟩) (fun q => absurd z q))
          rw [bb_ci hi h28, hm.1 i hi, ev]
          exact nm_e (br_t (by decide) (nm_r (nI_1 n) (hY post _ _ h)))
      · by_cases g : m ≤ v
        · obtain ⟨r, hX, hY⟩ := ih (n + 1) (by omega) (nI m) (nI m) (Or.inr ⟨m, hm, rfl, rfl⟩)
          refine ⟨r, fun post h => ?_, fun post vl tv h => ?_⟩
          · rw [wX_least_22]
            refine br_f hl (bx_word (by omega) (by omega) ?_)
            rw [ev]
            exact br_t (nI_le g (by omega)) (nm_r (nI_1 n) (hX post h))
          · rw [wY_extreme_16]
            refine br_f hl (by_solI I hx (fun _ vl' tv' hm => br_f (by decide) ⟨vp_in_nI (by omega) (by decide), ?_⟩) (fun q => absurd z q))
            rw [bb_ci hi h28, hm.1 i hi, ev]
            exact nm_e (br_f (nI_pos (by omega)) (br_f (by decide) (br_t (nI_le g (by omega)) (nm_r (nI_1 n) (hY post _ _ h)))))
        · obtain ⟨r, hX, hY⟩ := ih (n + 1) (by omega) (nI v) (nI v) (Or.inr ⟨v, hv, rfl, rfl⟩)
          refine ⟨r, fun post h => ?_, fun post vl tv h => ?_⟩
          · rw [wX_least_22]
            refine br_f hl (bx_word (by omega) (by omega) ?_)
            rw [ev]
            exact br_f (nI_ge (by omega) (by omega)) (bx_solI I hx (fun _ => br_f (by decide) (nm_r (nI_1 n) (hX post h))) (fun q => absurd z q))
          · rw [wY_extreme_16]
            refine br_f hl (by_solI I hx (fun _ vl' tv' hm => br_f (by decide) ⟨vp_in_nI (by omega) (by decide), ?_⟩) (fun q => absurd z q))
            rw [bb_ci hi h28, hm.1 i hi, ev]
            exact nm_e (br_f (nI_pos (by omega)) (br_f (by decide) (br_f (nI_ge (by omega) (by omega)) (nm_r (nI_1 n) (hY post _ _ h)))))
    · obtain ⟨r, hX, hY⟩ := ih (n + 1) (by omega) xa ya hr
      refine ⟨r, fun post h => ?_, fun post vl tv h => ?_⟩
      · rw [wX_least_22]
        refine br_f hl (bx_word (by omega) (by omega) ?_)
        exact br_c (fun _ => nm_r (nI_1 n) (hX post h)) (fun _ => bx_solI I hx (fun q => absurd q z) (fun _ => br_t rfl (nm_r (nI_1 n) (hX post h))))
      · rw [wY_extreme_16]
        exact br_f hl (by_solI I hx (fun q => absurd q z) (fun _ vl' tv' _ => br_t rfl (nm_r (nI_1 n) (hY post _ _ h))))
theorem bb_m1 {v : Nat} (h : v < 16) : ¬ nI v ≤ -1 := (show ∀ v, v < 16 → ¬ nI v ≤ -1 by decide +kernel) v h
theorem bb_m1e {v : Nat} (h : v < 16) : ¬ nI v = -1 := (show ∀ v, v < 16 → ¬ nI v = -1 by decide +kernel) v h
theorem bb_greatest {i : Nat} (I : bb_I w T S C wd bo ct ord kd ka kb kc so sp sq) (hi : i < T) : ∀ d n, n + d = 2 ^ (3 * w) → ∀ xa ya : Int32, ((xa = -1 ∧ ya = -2) ∨ ∃ m, m < 2 ^ w ∧ xa = nI m ∧ ya = nI m) → ∃ r : Int32, (∀ post : Int32 → Prop, post r → wX_greatest_17 post (nI i) (-1) (nI w) (nI (2 ^ w - 1)) (nI (2 ^ (3 * w))) (nI T) (nI S) (nI C) wd bo ct cs 114688 65536 (d + 1) xa (nI n)) ∧
    (∀ (post : Int32 → SY → Prop) (vl tv : Nat → Int32), (∀ vl' tv' : Nat → Int32, post r (nI w, nI (2 ^ w), nI (2 ^ (3 * w)), nI T, nI S, nI C, nI (T + S), ord, kd, ka, kb, kc, so, sp, sq, ct, cs, vl', tv')) → wY_extreme_16 post (nI i) 0 (d + 1) ya (nI n) (nI w) (nI (2 ^ w)) (nI (2 ^ (3 * w))) (nI T) (nI S) (nI C) (nI (T + S)) ord kd ka kb kc so sp sq ct cs vl tv) := by
  have hA := bb_A I.2.1
  have h28 := I.2.2.1
  have hw := bb_p16 I.2.1
  intro d
  induction d with
  | zero =>
    intro n hn xa ya hr
    have hl : nI (2 ^ (3 * w)) ≤ nI n := nI_le (by omega) (by omega)
    refine ⟨ya, fun post h => ?_, fun post vl tv h => ?_⟩
    · rw [wX_greatest_17]; refine br_t hl ?_
      rcases hr with ⟨rfl, rfl⟩ | ⟨m, hm, rfl, rfl⟩
      · exact br_t rfl h
      · exact br_f (bb_m1e (by omega)) h
    · rw [wY_extreme_16]; exact br_t hl (h _ _)
  | succ d ih =>
    intro n hn xa ya hr
    have hl : ¬ nI (2 ^ (3 * w)) ≤ nI n := nI_ge (by omega) (by omega)
    have hx : n < 2 ^ (3 * w) := by omega
    obtain ⟨v, hv, ev⟩ := bb_Ir I i hi n hx
    by_cases z : bb_Sol C ct cs bo n
    · rcases hr with ⟨rfl, rfl⟩ | ⟨m, hm, rfl, rfl⟩
      · obtain ⟨r, hX, hY⟩ := ih (n + 1) (by omega) (nI v) (nI v) (Or.inr ⟨v, hv, rfl, rfl⟩)
        refine ⟨r, fun post h => ?_, fun post vl tv h => ?_⟩
        · rw [wX_greatest_17]
          refine br_f hl (bx_word (by omega) (by omega) ?_)
          rw [ev]
          exact br_f (bb_m1 (by omega)) (bx_solI I hx (fun _ => br_f (by decide) (nm_r (nI_1 n) (hX post h))) (fun q => absurd z q))
        · rw [wY_extreme_16]
          refine br_f hl (by_solI I hx (fun _ vl' tv' hm => br_f (by decide) ⟨vp_in_nI (by omega) (by decide), ?_⟩) (fun q => absurd z q))
          rw [bb_ci hi h28, hm.1 i hi, ev]
          exact nm_e (br_t (by decide) (nm_r (nI_1 n) (hY post _ _ h)))
      · by_cases g : v ≤ m
        · obtain ⟨r, hX, hY⟩ := ih (n + 1) (by omega) (nI m) (nI m) (Or.inr ⟨m, hm, rfl, rfl⟩)
          refine ⟨r, fun post h => ?_, fun post vl tv h => ?_⟩
          · rw [wX_greatest_17]
            refine br_f hl (bx_word (by omega) (by omega) ?_)
            rw [ev]
            exact br_t (nI_le g (by omega)) (nm_r (nI_1 n) (hX post h))
          · rw [wY_extreme_16]
            refine br_f hl (by_solI I hx (fun _ vl' tv' hm => br_f (by decide) ⟨vp_in_nI (by omega) (by decide), ?_⟩) (fun q => absurd z q))
            rw [bb_ci hi h28, hm.1 i hi, ev]
            exact nm_e (br_f (nI_pos (by omega)) (br_t rfl (br_t (nI_le g (by omega)) (nm_r (nI_1 n) (hY post _ _ h)))))
        · obtain ⟨r, hX, hY⟩ := ih (n + 1) (by omega) (nI v) (nI v) (Or.inr ⟨v, hv, rfl, rfl⟩)
          refine ⟨r, fun post h => ?_, fun post vl tv h => ?_⟩
          · rw [wX_greatest_17]
            refine br_f hl (bx_word (by omega) (by omega) ?_)
            rw [ev]
            exact br_f (nI_ge (by omega) (by omega)) (bx_solI I hx (fun _ => br_f (by decide) (nm_r (nI_1 n) (hX post h))) (fun q => absurd z q))
          · rw [wY_extreme_16]
            refine br_f hl (by_solI I hx (fun _ vl' tv' hm => br_f (by decide) ⟨vp_in_nI (by omega) (by decide), ?_⟩) (fun q => absurd z q))
            rw [bb_ci hi h28, hm.1 i hi, ev]
            exact nm_e (br_f (nI_pos (by omega)) (br_t rfl (br_f (nI_ge (by omega) (by omega)) (nm_r (nI_1 n) (hY post _ _ h)))))
    · obtain ⟨r, hX, hY⟩ := ih (n + 1) (by omega) xa ya hr
      refine ⟨r, fun post h => ?_, fun post vl tv h => ?_⟩
      · rw [wX_greatest_17]
        refine br_f hl (bx_word (by omega) (by omega) ?_)
        exact br_c (fun _ => nm_r (nI_1 n) (hX post h)) (fun _ => bx_solI I hx (fun q => absurd q z) (fun _ => br_t rfl (nm_r (nI_1 n) (hX post h))))
      · rw [wY_extreme_16]
        exact br_f hl (by_solI I hx (fun q => absurd q z) (fun _ vl' tv' _ => br_t rfl (nm_r (nI_1 n) (hY post _ _ h))))
/-- the class's two flags after one more solution -/
theorem bx_fol58 {post : Int32 → Prop} {J : Int32 → Int32 → Int32 → Prop} {n : Nat} {x1 x3 t z0 : Int32} (h : J z0 (if x3 = 0 then (if t = 0 then 1 else 0) else 1) (nI (n + 1))) : wX_follows_58 post J x1 x3 (nI n) t z0 (nI w) (nI (2 ^ w - 1)) (nI (2 ^ (3 * w))) (nI T) (nI S) (nI C) wd bo ct cs 114688 65536 := by
  unfold wX_follows_58
  by_cases e : x3 = 0
  · rw [if_pos e] at h; refine br_t e ?_
    by_cases e2 : t = 0
    · rw [if_pos e2] at h; exact br_t e2 (nm_r (nI_1 n) h)
    · rw [if_neg e2] at h; exact br_f e2 (nm_r (nI_1 n) h)
  · rw [if_neg e] at h; exact br_f e (nm_r (nI_1 n) h)
theorem bb_follows {i : Nat} (I : bb_I w T S C wd bo ct ord kd ka kb kc so sp sq) (hi : i < S) : ∀ d n, n + d = 2 ^ (3 * w) → ∀ x2 x3 : Int32, (x2 = 0 ∨ x2 = 1) → (x3 = 0 ∨ x3 = 1) → ∃ r : Int32, (∀ post : Int32 → Prop, post r → wX_follows_17 post (nI i) (nI w) (nI (2 ^ w - 1)) (nI (2 ^ (3 * w))) (nI T) (nI S) (nI C) wd bo ct cs 114688 65536 (d + 1) x2 x3 (nI n)) ∧
    (∀ (post : Int32 → SY → Prop) (vl tv : Nat → Int32), (∀ vl' tv' : Nat → Int32, post r (nI w, nI (2 ^ w), nI (2 ^ (3 * w)), nI T, nI S, nI C, nI (T + S), ord, kd, ka, kb, kc, so, sp, sq, ct, cs, vl', tv')) → wY_follows_17 post (nI i) (d + 1) x2 x3 (nI n) (nI w) (nI (2 ^ w)) (nI (2 ^ (3 * w))) (nI T) (nI S) (nI C) (nI (T + S)) ord kd ka kb kc so sp sq ct cs vl tv) := by
  have hA := bb_A I.2.1
  have h16 := I.2.2.2.1
  intro d
  induction d with
  | zero =>
    intro n hn x2 x3 h2 h3
    have hl : nI (2 ^ (3 * w)) ≤ nI n := nI_le (by omega) (by omega)
    by_cases e3 : x3 = 0
    · refine ⟨1, fun post h => ?_, fun post vl tv h => ?_⟩
      · rw [wX_follows_17]; exact br_t hl (br_t e3 h)
      · rw [wY_follows_17]; exact br_t hl (br_t e3 (h _ _))
    · by_cases e2 : x2 = 0
      · refine ⟨0, fun post h => ?_, fun post vl tv h => ?_⟩
        · rw [wX_follows_17]; exact br_t hl (br_f e3 (br_t e2 h))
        · rw [wY_follows_17]; exact br_t hl (br_f e3 (br_t e2 (h _ _)))
      · refine ⟨2, fun post h => ?_, fun post vl tv h => ?_⟩
        · rw [wX_follows_17]; exact br_t hl (br_f e3 (br_f e2 h))
        · rw [wY_follows_17]; exact br_t hl (br_f e3 (br_f e2 (h _ _)))
  | succ d ih =>
    intro n hn x2 x3 h2 h3
    have hl : ¬ nI (2 ^ (3 * w)) ≤ nI n := nI_ge (by omega) (by omega)
    have hx : n < 2 ^ (3 * w) := by omega
    by_cases z : bb_Sol C ct cs bo n
    · by_cases t : bo (i * 4096 + n) = 0
      · obtain ⟨r, hX, hY⟩ := ih (n + 1) (by omega) x2 1 h2 (Or.inr rfl)
        refine ⟨r, fun post h => ?_, fun post vl tv h => ?_⟩
        · rw [wX_follows_17]
          refine br_f hl (bx_solI I hx (fun _ => br_f (by decide) (bx_truth (by omega) (by omega) (bb_Ib I i hi n hx) ?_)) (fun q => absurd z q))
          have e3 : (if x3 = 0 then (if bo (i * 4096 + n) = 0 then 1 else 0) else 1 : Int32) = 1 := by rw [if_pos t]; split <;> rfl
          rcases h2 with rfl | rfl
          · refine br_t rfl (br_t t (bx_fol58 ?_))
            rw [e3]; exact hX post h
          · refine br_f (by decide) ?_
            unfold wX_follows_53
            refine bx_fol58 ?_
            rw [e3]; exact hX post h
        · rw [wY_follows_17]
          refine br_f hl (by_solI I hx (fun _ vl' tv' hm => br_f (by decide) ⟨vp_in_nI (by omega) (by decide), ?_⟩) (fun q => absurd z q))
          rw [nI_clamp (show i < 2 ^ 31 by omega)]
          exact br_t ((hm.2 i hi).trans t) (nm_r (nI_1 n) (hY post _ _ h))
      · obtain ⟨r, hX, hY⟩ := ih (n + 1) (by omega) 1 x3 (Or.inr rfl) h3
        refine ⟨r, fun post h => ?_, fun post vl tv h => ?_⟩
        · rw [wX_follows_17]
          refine br_f hl (bx_solI I hx (fun _ => br_f (by decide) (bx_truth (by omega) (by omega) (bb_Ib I i hi n hx) ?_)) (fun q => absurd z q))
          have e3 : (if x3 = 0 then (if bo (i * 4096 + n) = 0 then 1 else 0) else 1 : Int32) = x3 := by
            rw [if_neg t]
            rcases h3 with rfl | rfl <;> rfl
          rcases h2 with rfl | rfl
          · refine br_t rfl (br_f t ?_)
            unfold wX_follows_53
            refine bx_fol58 ?_
            rw [e3]; exact hX post h
          · refine br_f (by decide) ?_
            unfold wX_follows_53
            refine bx_fol58 ?_
            rw [e3]; exact hX post h
        · rw [wY_follows_17]
          refine br_f hl (by_solI I hx (fun _ vl' tv' hm => br_f (by decide) ⟨vp_in_nI (by omega) (by decide), ?_⟩) (fun q => absurd z q))
          rw [nI_clamp (show i < 2 ^ 31 by omega)]
          exact br_f (fun q => t ((hm.2 i hi).symm.trans q)) (nm_r (nI_1 n) (hY post _ _ h))
    · obtain ⟨r, hX, hY⟩ := ih (n + 1) (by omega) x2 x3 h2 h3
      refine ⟨r, fun post h => ?_, fun post vl tv h => ?_⟩
      · rw [wX_follows_17]
        exact br_f hl (bx_solI I hx (fun q => absurd q z) (fun _ => br_t rfl (nm_r (nI_1 n) (hX post h))))
      · rw [wY_follows_17]
        exact br_f hl (by_solI I hx (fun q => absurd q z) (fun _ vl' tv' _ => br_t rfl (nm_r (nI_1 n) (hY post _ _ h))))
end
