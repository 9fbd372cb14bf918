-- at the start
def H0 : Hs := fun f i => if f = 7 ∧ i = 4 then 20 else if f = 8 then 20 else if f = 12 ∧ i = 0 then 100 else if f = 12 ∧ i = 1 then 2 else if f = 12 ∧ i = 2 then 5 else 0
theorem rel0 : Rel SX0 SM0 := by
  refine ⟨⟨H0, ?_, ?_, ?_⟩, Or.inl ⟨rfl, rfl⟩, ⟨0, by decide, rfl, rfl, fun k hk => absurd hk (by omega)⟩, ?_, ⟨by decide, by decide⟩, ?_⟩
  · have e0 : H0 0 0 = 0 := rfl
    have e1 : H0 0 1 = 0 := rfl
    have e2 : H0 0 2 = 0 := rfl
    refine ⟨by rw [e0]; omega, by rw [e1]; omega, by rw [e2]; omega, fun p hp => ?_, by decide, by decide, fun p hp => ?_, fun p hp => ?_, fun p m hp => ?_, by decide⟩
    · rw [e0] at hp; omega
    · rw [e1] at hp; omega
    · rw [e2] at hp; omega
    · rw [e2] at hp; omega
  · have e0 : H0 0 0 = 0 := rfl
    have e1 : H0 0 1 = 0 := rfl
    have e2 : H0 0 2 = 0 := rfl
    refine ⟨rfl, rfl, rfl, fun p hp => ?_, rfl, by decide, rfl, fun p hp => ?_, fun p hp => ?_, fun p m hp => ?_, by decide⟩
    · rw [e0] at hp; omega
    · rw [e1] at hp; omega
    · rw [e2] at hp; omega
    · rw [e2] at hp; omega
  · have e0 : H0 0 0 = 0 := rfl
    have e1 : H0 0 1 = 0 := rfl
    have e2 : H0 0 2 = 0 := rfl
    refine ⟨rfl, rfl, rfl, fun p w hp => ?_, by decide, rfl, fun p hp => ?_, fun p hp => ?_, fun p m hp => ?_, by decide⟩
    · rw [e0] at hp; omega
    · rw [e1] at hp; omega
    · rw [e2] at hp; omega
    · rw [e2] at hp; omega
  · intro t ht
    refine ⟨0, 0, Or.inl rfl, by omega, fun _ => rfl, ?_, ?_, ?_, ?_, fun k hk => rfl⟩
    · match t, ht with
      | 0, _ => rfl
      | 1, _ => rfl
      | 2, _ => rfl
      | 3, _ => rfl
    · match t, ht with
      | 0, _ => rfl
      | 1, _ => rfl
      | 2, _ => rfl
      | 3, _ => rfl
    · match t, ht with
      | 0, _ => rfl
      | 1, _ => rfl
      | 2, _ => rfl
      | 3, _ => rfl
    · rfl
  · have : ∀ k, k < 70 → SM0.1 14 k = lett.getD k 0 := by decide +kernel
    exact this
