/-! the start -/
theorem pm_init : Rel (cl63 M0C) M0R := by
  have hp : Rp (nowC M0C) (M0R 1) := by
    refine ⟨⟨0, 0, 0, 0, 0, 0, ⟨by omega, by omega, by omega, by omega, by omega, by omega⟩, ⟨rfl, rfl, rfl, rfl, rfl, rfl⟩, ⟨rfl, rfl, rfl, rfl, rfl, rfl⟩, fun p hp => absurd hp (by omega)⟩, ⟨0, by omega, rfl, rfl, fun k hk => absurd hk (by omega)⟩, ?_⟩
    exact ⟨0, 0, 5, fun _ => 0, fun _ => 0, fun _ => 0, by omega, by omega, by omega, by omega, rfl, rfl, rfl, rfl, rfl, fun v h1 h2 => absurd h1 (by omega), fun r hr => absurd hr (by omega)⟩
  have e : ∀ q, q ≠ 63 → cl63 M0C q = M0C q := fun q h => cl_ne h
  refine ⟨Rp_eq (fun q hq => e (1 + q) (by omega)) hp, Rs_cl _, Or.inl ⟨?_, rfl⟩, ⟨0, by omega, ?_, rfl, fun k hk => absurd hk (by omega)⟩, ⟨0, by omega, ?_, rfl, fun k hk => absurd hk (by omega)⟩, ⟨fun s hs => ⟨⟨?_, Or.inl ?_⟩, ⟨0, by omega, ?_, rfl⟩, fun i hi => ?_⟩, fun s hs => ⟨?_, Or.inr (Or.inr ?_)⟩⟩, ⟨0, by omega, ?_, rfl, fun i hi => absurd hi (by omega)⟩⟩
  · rw [e 0 (by omega)]; rfl
  · rw [e 33 (by omega)]; rfl
  · rw [e 0 (by omega)]; rfl
  · rw [e 57 (by omega)]
    rcases (by omega : s = 0 ∨ s = 1 ∨ s = 2 ∨ s = 3) with rfl | rfl | rfl | rfl <;> rfl
  · rw [e 57 (by omega)]
    rcases (by omega : s = 0 ∨ s = 1 ∨ s = 2 ∨ s = 3) with rfl | rfl | rfl | rfl <;> rfl
  · rw [e 61 (by omega)]; rfl
  · rw [e 62 (by omega)]; rfl
  · rw [e 58 (by omega)]
    rcases (by omega : s = 0 ∨ s = 1 ∨ s = 2 ∨ s = 3) with rfl | rfl | rfl | rfl <;> rfl
  · rw [e 58 (by omega)]
    rcases (by omega : s = 0 ∨ s = 1 ∨ s = 2 ∨ s = 3) with rfl | rfl | rfl | rfl <;> rfl
  · rw [e 47 (by omega)]; rfl
