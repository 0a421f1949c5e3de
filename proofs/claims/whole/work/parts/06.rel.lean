def bb_I (w T S C : Nat) (wd bo ct ord kd ka kb kc so sp sq : Nat → Int32) : Prop :=
  1 ≤ w ∧ w ≤ 4 ∧ T ≤ 28 ∧ S ≤ 16 ∧ C ≤ 10 ∧ (∀ i, i < C → vp_in (ct i) S) ∧ bb_H ord (bb_P w (2 ^ (3 * w)) (nI (2 ^ w - 1)) kd ka kb kc wd bo) (bb_Q (2 ^ (3 * w)) (nI (2 ^ w)) so sp sq wd bo) (T + S) T S
/-- both sides keep width, counts and constraints alike; the class's rows hold what the reference works out of its lists -/
def i_Rel (k : Nat) (u : SX) (v : SY) : Prop := ∃ (w T S C : Nat) (wd bo ct cs ord kd ka kb kc so sp sq vl tv : Nat → Int32), u = (nI w, nI (2 ^ w - 1), nI (2 ^ (3 * w)), nI T, nI S, nI C, wd, bo, ct, cs, 114688, 65536) ∧ v = (nI w, nI (2 ^ w), nI (2 ^ (3 * w)), nI T, nI S, nI C, nI (T + S), ord, kd, ka, kb, kc, so, sp, sq, ct, cs, vl, tv) ∧ bb_I w T S C wd bo ct ord kd ka kb kc so sp sq
theorem i_up {k : Nat} {u : SX} {v : SY} (h : i_Rel k u v) : i_Rel (k + 4) u v := h
theorem bb_A {w : Nat} (hw : w ≤ 4) : 2 ^ (3 * w) ≤ 4096 := Nat.pow_le_pow_right (n := 2) (by decide) (show 3 * w ≤ 12 by omega)
theorem bb_tm : ∀ w, w < 5 → nI (2 ^ w) - 1 = nI (2 ^ w - 1) := by decide +kernel
section
variable {w T S C : Nat} {wd bo ct cs ord kd ka kb kc so sp sq vl tv : Nat → Int32}
theorem bb_Ib (I : bb_I w T S C wd bo ct ord kd ka kb kc so sp sq) : ∀ j, j < S → ∀ x, x < 2 ^ (3 * w) → bo (j * 4096 + x) = 0 ∨ bo (j * 4096 + x) = 1 := by
  intro j hj x hx
  obtain ⟨t', _, hv⟩ := bb_HQ _ _ _ I.2.2.2.2.2.2 j hj
  rw [hv x hx]; exact bb_tv01 _ _ _ _ _ _
theorem bb_Ir (I : bb_I w T S C wd bo ct ord kd ka kb kc so sp sq) : ∀ i, i < T → ∀ x, x < 2 ^ (3 * w) → ∃ v, v < 2 ^ w ∧ wd (i * 4096 + x) = nI v := by
  intro i hi x hx
  obtain ⟨s', _, hv⟩ := bb_HP _ _ _ I.2.2.2.2.2.2 i hi
  rw [hv x hx]; exact pk_andE _ w (bb_mtn I.2.1)
theorem bb_addT {k x y z : Int32} {g : Nat → Int32} (I : bb_I w T S C wd bo ct ord kd ka kb kc so sp sq) (hT : T < 28) (hw : bb_wf T S k x y z) (hg : ∀ n, n < 2 ^ (3 * w) → g n = bb_val (nI w) k x y z (bb_row wd n) (bb_row bo n) (nI n) &&& nI (2 ^ w - 1)) :
    bb_I w (T + 1) S C (bb_fill wd g T (2 ^ (3 * w))) bo ct (upd ord (T + S) (nI T)) (upd kd T k) (upd ka T x) (upd kb T y) (upd kc T z) so sp sq := by
  obtain ⟨hw1, hw4, h28, h16, h10, hct, hH⟩ := I
  have hA := bb_A hw4
  have hl : ∀ n, n < 2 ^ (3 * w) → ∀ j, j < T → bb_row (bb_fill wd g T (2 ^ (3 * w))) n j = bb_row wd n j := fun n hn j hj => bb_fillL hj (by omega)
  refine ⟨hw1, hw4, by omega, h16, h10, hct, ?_⟩
  rw [show T + 1 + S = T + S + 1 by omega]
  refine Or.inl ⟨T, rfl, bb_Hf _ _ _ (fun j hj => pk_un (by omega)) (fun t' s' ht hs hp => ?_) (fun t' s' ht hs hq => ?_) hH, pk_us, ?_, fun n hn => ?_⟩
  · have e : t' ≠ T := by omega
    unfold bb_P; rw [pk_un e, pk_un e, pk_un e, pk_un e]
    refine ⟨hp.1, fun n hn => ?_⟩
    rw [bb_valc hp.1 (V := bb_row wd n) (B := bb_row bo n) (fun j hj => hl n hn j (by omega)) (fun j hj => rfl), ← hp.2 n hn]
    exact bb_fillL ht (by omega)
  · refine ⟨hq.1, fun n hn => ?_⟩
    rw [bb_tvc hq.1 (V := bb_row wd n) (B := bb_row bo n) (fun j hj => hl n hn j (by omega)) (fun j hj => rfl)]
    exact hq.2 n hn
  · rw [pk_us, pk_us, pk_us, pk_us]; exact hw
  · rw [pk_us, pk_us, pk_us, pk_us, bb_fillI hn, bb_valc hw (V := bb_row wd n) (B := bb_row bo n) (fun j hj => hl n hn j hj) (fun j hj => rfl)]
    exact hg n hn
theorem bb_addS {k x y : Int32} {g : Nat → Int32} (I : bb_I w T S C wd bo ct ord kd ka kb kc so sp sq) (hS : S < 16) (hw : bb_wft T S k x y) (hg : ∀ n, n < 2 ^ (3 * w) → g n = bb_tv (nI (2 ^ w)) k x y (bb_row wd n) (bb_row bo n)) :
    bb_I w T (S + 1) C wd (bb_fill bo g S (2 ^ (3 * w))) ct (upd ord (T + S) (nI (100 + S))) kd ka kb kc (upd so S k) (upd sp S x) (upd sq S y) := by
  obtain ⟨hw1, hw4, h28, h16, h10, hct, hH⟩ := I
  have hA := bb_A hw4
  have hl : ∀ n, n < 2 ^ (3 * w) → ∀ j, j < S → bb_row (bb_fill bo g S (2 ^ (3 * w))) n j = bb_row bo n j := fun n hn j hj => bb_fillL hj (by omega)
  refine ⟨hw1, hw4, h28, by omega, h10, fun i hi => bb_inm (hct i hi) (by omega), ?_⟩
  refine Or.inr ⟨S, rfl, bb_Hf _ _ _ (fun j hj => pk_un (Nat.ne_of_lt hj)) (fun t' s' ht hs hp => ?_) (fun t' s' ht hs hq => ?_) hH, pk_us, ?_, fun n hn => ?_⟩
  · refine ⟨hp.1, fun n hn => ?_⟩
    rw [bb_valc hp.1 (V := bb_row wd n) (B := bb_row bo n) (fun j hj => rfl) (fun j hj => hl n hn j (by omega))]
    exact hp.2 n hn
  · have e : s' ≠ S := by omega
    unfold bb_Q; rw [pk_un e, pk_un e, pk_un e]
    refine ⟨hq.1, fun n hn => ?_⟩
    rw [bb_tvc hq.1 (V := bb_row wd n) (B := bb_row bo n) (fun j hj => rfl) (fun j hj => hl n hn j (by omega)), ← hq.2 n hn]
    exact bb_fillL hs (by omega)
  · rw [pk_us, pk_us, pk_us]; exact hw
  · rw [pk_us, pk_us, pk_us, bb_fillI hn, bb_tvc hw (V := bb_row wd n) (B := bb_row bo n) (fun j hj => rfl) (fun j hj => hl n hn j hj)]
    exact hg n hn
theorem bb_relT {q : Nat} {k x y z : Int32} {g : Nat → Int32} (I : bb_I w T S C wd bo ct ord kd ka kb kc so sp sq) (hT : T < 28) (hw : bb_wf T S k x y z) (hg : ∀ n, n < 2 ^ (3 * w) → g n = bb_val (nI w) k x y z (bb_row wd n) (bb_row bo n) (nI n) &&& nI (2 ^ w - 1)) :
    i_Rel q (nI w, nI (2 ^ w - 1), nI (2 ^ (3 * w)), nI (T + 1), nI S, nI C, bb_fill wd g T (2 ^ (3 * w)), bo, ct, cs, 114688, 65536) (nI w, nI (2 ^ w), nI (2 ^ (3 * w)), nI (T + 1), nI S, nI C, nI (T + S + 1), upd ord (T + S) (nI T), upd kd T k, upd ka T x, upd kb T y, upd kc T z, so, sp, sq, ct, cs, vl, tv) := by
  have h := bb_addT I hT hw hg
  refine ⟨w, T + 1, S, C, _, _, _, cs, _, _, _, _, _, _, _, _, vl, tv, rfl, ?_, h⟩
  rw [show T + 1 + S = T + S + 1 by omega]
theorem bb_relS {q : Nat} {k x y : Int32} {g : Nat → Int32} (I : bb_I w T S C wd bo ct ord kd ka kb kc so sp sq) (hS : S < 16) (hw : bb_wft T S k x y) (hg : ∀ n, n < 2 ^ (3 * w) → g n = bb_tv (nI (2 ^ w)) k x y (bb_row wd n) (bb_row bo n)) :
    i_Rel q (nI w, nI (2 ^ w - 1), nI (2 ^ (3 * w)), nI T, nI (S + 1), nI C, wd, bb_fill bo g S (2 ^ (3 * w)), ct, cs, 114688, 65536) (nI w, nI (2 ^ w), nI (2 ^ (3 * w)), nI T, nI (S + 1), nI C, nI (T + S + 1), upd ord (T + S) (nI (100 + S)), kd, ka, kb, kc, upd so S k, upd sp S x, upd sq S y, ct, cs, vl, tv) :=
  ⟨w, T, S + 1, C, _, _, _, _, _, _, _, _, _, _, _, _, _, _, rfl, rfl, bb_addS I hS hw hg⟩
theorem bb_rel {q : Nat} (I : bb_I w T S C wd bo ct ord kd ka kb kc so sp sq) : i_Rel q (nI w, nI (2 ^ w - 1), nI (2 ^ (3 * w)), nI T, nI S, nI C, wd, bo, ct, cs, 114688, 65536) (nI w, nI (2 ^ w), nI (2 ^ (3 * w)), nI T, nI S, nI C, nI (T + S), ord, kd, ka, kb, kc, so, sp, sq, ct, cs, vl, tv) := ⟨w, T, S, C, _, _, _, _, _, _, _, _, _, _, _, _, _, _, rfl, rfl, I⟩
end
