/-- where both begin -/
theorem inv_first {su : Nat → Int} (h : ∀ p, p < 9 → su p = -6) : Inv 180 1 4 0 (fun _ => 0) (fillf (fun _ => 0) 9 (-1)) (fillf (fun _ => 0) 81 (-1)) 0 0 (fun _ => 0) (fun _ => 0) (fun _ => 0) 0 0 0 (fun _ => 0) (fun _ => 0) (fun _ => 0) 4 0 180 1 0 0 0 0 (fun _ => 0) su (fun _ => 0) (fun _ => 0) := by
  have hS0 : SuOK (fun _ => -1) := fun p _ => ⟨Int.le_refl _, by show (-1 : Int) ≤ 4000; decide⟩
  have hN0 : NetOK 4 0 (fun _ => 0) := ⟨⟨by omega, by omega, by omega⟩, fun c hc => by omega, fun c hc => by omega, fun c d hc => by omega⟩
  refine ⟨4, 0, 0, 0, fun _ => 0, fun _ => -1, 180, 1, ⟨hN0, hS0, by omega, rfl, rfl, rfl, rfl, fun c hc => by omega, fun p hp => ?_, fun p q h1 h2 h3 h4 => ?_, Or.inl rfl, rfl, rfl, rfl⟩, ⟨rfl, rfl, rfl, rfl, fun c hc => by omega, fun p hp => ?_, Or.inl rfl⟩, fun _ => 0, fun _ _ => 0, fun _ _ => -1, rfl, rfl, rfl, Nat.le_refl _, by omega, rfl, rfl, rfl, rfl, fun i _ => ⟨hN0, hS0⟩, fun i hi => by omega⟩
  · show fillf (fun _ => 0) 9 (-1) p = -1
    unfold fillf
    rw [if_pos hp]
  · show fillf (fun _ => 0) 81 (-1) ((p * 9) + q).toNat = -1
    unfold fillf
    rw [if_pos (by omega)]
  · rw [h p hp]
    unfold ms
    rw [if_pos rfl]
