/-! a new object, and the whole -/
theorem start_ok : Inv (0 : Int32) (fun _ => 0) (0 : Int32) (fun _ => 0) (fun _ => 0) (0 : Int32) (0 : Int32) (fun _ => 0) (fun _ => 0) (fun _ => 0) (fun _ => 0) (0 : Int32) (fun _ => 0) (fun _ => 0) (fun _ => 0) (0 : Int32) (fun _ => 0) (fun _ => 0) (fun _ => 0) (0 : Int32) := by
  have dr := DR_0 (fun _ => (0 : Int32)) (fun _ => (0 : Int32)) (fun _ _ => 0) (fun _ _ => 0)
  refine ⟨⟨0, by omega, rfl, rfl, fun i hi => absurd hi (by omega)⟩, 0, fun _ _ => 0, dr.tree (fun i hi => absurd hi (by omega)), NowR_begin (B := 0) (v := fun _ => 0) (by omega) (fun p hp => ?_) (fun p hp => ?_), ⟨0, 0, by omega, by omega, rfl, rfl, rfl, fun j hj => absurd hj (by omega)⟩, fun i hi => ⟨rfl, Or.inl rfl⟩⟩
  · rw [if_neg (by omega)]
    rfl
  · rw [if_neg (by omega)]
    rfl
