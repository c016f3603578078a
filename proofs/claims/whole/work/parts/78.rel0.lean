theorem s0_z {k j : Nat} (h1 : k ≠ 12) (h2 : k ≠ 61) : s0 k j = 0 := by
  unfold s0
  rw [if_neg (by omega)]
theorem s0_n {k j : Nat} (h : k = 12 ∨ k = 61) (hj : j < 8) : s0 k j = -1 := by
  unfold s0
  rw [if_pos h]
  show (if j < 8 then (-1 : Int32) else 0) = -1
  rw [if_pos hj]
theorem Rel_0 : Rel 0 s0 := by
  refine ⟨fun r hr => ⟨?_, Or.inl (s0_n (Or.inl rfl) hr), ?_, ⟨0, by omega, s0_z (by omega) (by omega)⟩, fun i hi => ?_⟩, ⟨?_, ?_⟩, ⟨0, by omega, s0_z (by omega) (by omega), s0_z (by omega) (by omega), fun i hi => ⟨0, by omega, s0_z (by omega) (by omega), s0_z (by omega) (by omega)⟩⟩, ⟨fun _ => 0, Or.inr (fun _ => rfl), ⟨fun k hk => s0_z (by omega) (by omega), fun k hk => ⟨s0_z (by omega) (by omega), s0_z (by omega) (by omega), s0_z (by omega) (by omega), s0_z (by omega) (by omega)⟩, fun q hq => ⟨s0_z (by omega) (by omega), s0_z (by omega) (by omega)⟩, fun j hj => ⟨s0_z (by omega) (by omega), fun q => absurd rfl q⟩⟩, ⟨fun k hk => s0_z (by omega) (by omega), fun q => absurd (show 1 ≤ 0 from q) (by omega)⟩, s0_z (by omega) (by omega)⟩, ⟨0, 0, by omega, by omega, s0_z (by omega) (by omega), s0_z (by omega) (by omega), s0_z (by omega) (by omega), fun j hj => absurd hj (Nat.not_lt_zero _)⟩, fun k hk => Or.inl ⟨s0_z (by omega) (by omega), s0_z (by omega) (by omega)⟩, ⟨0, by omega, s0_z (by omega) (by omega), s0_z (by omega) (by omega), fun i hi => ?_⟩, Or.inr ⟨s0_z (by omega) (by omega), fun k hk => s0_z (by omega) (by omega)⟩⟩
  · rw [s0_n (Or.inl rfl) hr, s0_n (Or.inr rfl) hr]
  · rw [s0_z (by omega) (by omega), s0_z (by omega) (by omega)]
  · rw [s0_z (by omega) (by omega), s0_z (by omega) (by omega)]
  · rw [s0_z (by omega) (by omega), s0_z (by omega) (by omega)]
  · rw [s0_z (by omega) (by omega), s0_z (by omega) (by omega)]
  · rw [s0_z (by omega) (by omega), s0_z (by omega) (by omega)]
