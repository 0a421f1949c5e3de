/-- the printed walk of the class's constructor asks 114688 ≤ 90112: no relation R lets the constructors' row hold -/
theorem rf_vc0 (R : Nat → SX → SY → Prop) (k0 : Int32) : ¬ wpX_init (fun u => wpY_init (fun v => R 1 u v) k0) k0 := by
  intro h
  unfold wpX_init at h
  have h1 := (h.2 _ rfl).1
  exact absurd h1 (by decide)
