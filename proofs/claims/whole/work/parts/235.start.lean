/-! a new object, and the whole -/
theorem start_ok : ∃ b0 : Nat → Int32, fX4_begin (0 : Int32) (fun _ => 0) (fun _ => 0) = some b0 ∧ Inv (0 : Int32) (fun _ => 0) (0 : Int32) (fun _ => 0) b0 (0 : Int32) (0 : Int32) (fun _ => 0) (fun _ => 0) (fun _ => 0) (fun _ => 0) (0 : Int32) (fun _ => 0) (fun _ => 0) (fun _ => 0) (0 : Int32) (fun _ => 0) (fun _ => 0) (fun _ => 0) (0 : Int32) := by
  obtain ⟨D, d1, d2⟩ := f_begin (B := 0) (by omega) (fun _ => 0) (fun _ => 0)
  have dr := DR_0 (fun _ => (0 : Int32)) (fun _ => (0 : Int32)) (fun _ _ => 0) (fun _ _ => 0)
  refine ⟨D, d1, ⟨0, by omega, rfl, rfl, fun i hi => absurd hi (by omega)⟩, 0, fun _ _ => 0, dr.tree (fun i hi => absurd hi (by omega)), NowR_begin (B := 0) (v := fun _ => 0) (by omega) (fun p hp => ?_) (fun p hp => ?_), ⟨0, 0, by omega, by omega, rfl, rfl, rfl, fun j hj => absurd hj (by omega)⟩, fun i hi => ⟨rfl, Or.inl rfl⟩⟩
  · rw [d2 p hp]
    by_cases y : 12 ≤ p ∧ p < 84
    · rw [if_pos y, if_pos y]
    · rw [if_neg y, if_neg y, if_neg (by omega), if_neg (by omega)]
  · rw [if_neg (by omega)]
    rfl
