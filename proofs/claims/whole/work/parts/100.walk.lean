/-! X6_field -/
abbrev rmX6_field : Room := { frames := 0, cells := 0, slots := 0, locals := 0 }
theorem uX6_field_inX6 : ∀ w ∈ wsX60, w ∈ wsX6_field := by decide +kernel
theorem uX6_field_f11 : Cond.fieldLink RX6 11 "LeafAsks$Tree" "data" "[I" ∈ wsX6_field := by decide +kernel
noncomputable def fX6_field_b25 (v0_data : (Nat → Int32)) (x1 : Int32) (x2 : Int32) (s0 : Int32) : Option (Int32) :=
  if s0 = (0 : Int32) then some (0 : Int32) else gin ((x1 * (7 : Int32)) + x2) 56 (some ((v0_data ((x1 * (7 : Int32)) + x2).toNatClampNeg)))
set_option maxRecDepth 100000 in
set_option maxHeartbeats 4000000 in
theorem tfX6_field_b25 {p : Program} {l : Launch} {e : Env} {s : State} {m : MethodId} {args : Array Value} {below : List Frame} {meth : Method} {c : Code} {A : Nat → Prop} {D : va_G} {cI cZ : ClassId} (h : Cx p s m args meth c A D cI cZ 4 cX6_field RX6 wsX6_field (some .int)) {h0 h0_data h0_fresh : Nat} {x1 : Int32} {x2 : Int32} {v0_size : Int32} {v0_data : (Nat → Int32)} {v0_fresh : (Nat → Int32)} {s0 : Int32} {o : Int32} (hF : fX6_field_b25 v0_data x1 x2 s0 = some o) : V p l e rmX6_field s m args below meth c A D 4 (QI D [(h0, .inr (6, [.ref h0_data, .ref h0_fresh, .int v0_size])), (h0_data, .inl (cI, 56, .inl v0_data)), (h0_fresh, .inl (cI, 7, .inl v0_fresh))] o A below args s) [(h0, .inr (6, [.ref h0_data, .ref h0_fresh, .int v0_size])), (h0_data, .inl (cI, 56, .inl v0_data)), (h0_fresh, .inl (cI, 7, .inl v0_fresh))] 25 [(0, .ref h0), (1, .int x1), (2, .int x2)] [.int s0] := by
  unfold fX6_field_b25 at hF
  refine V_istore_n (pc := 25) h [(3, .int s0), (0, .ref h0), (1, .int x1), (2, .int x2)] dX6_field_25 (by decide) rfl ?_
  refine V_iload_n (pc := 26) h 0 dX6_field_26 rfl ?_
  refine V_if_eq (pc := 27) h (tgt := 44) dX6_field_27 (by decide) hF (fun hF => ?_) (fun hF => ?_)
  · refine V_iconst (pc := 44) h (v := (0 : Int32)) dX6_field_44 (by decide) ?_
    have hF := Option.some.inj hF
    subst hF
    exact V_iret (pc := 45) h dX6_field_45
  · refine V_aload_n (pc := 30) h 1 dX6_field_30 rfl ?_
    refine V_get (pc := 31) h uX6_field_inX6 0 0 rfl rfl (by decide) uX6_field_f11 rfl rfl dX6_field_31 ?_
    refine V_iload_n (pc := 34) h 2 dX6_field_34 rfl ?_
    refine V_bipush (pc := 35) h (v := (7 : Int32)) dX6_field_35 (by decide) ?_
    refine V_imul (pc := 37) h dX6_field_37 ?_
    refine V_iload_n (pc := 38) h 3 dX6_field_38 rfl ?_
    refine V_iadd (pc := 39) h dX6_field_39 ?_
    refine V_iald (pc := 40) h 1 rfl dX6_field_40 hF (fun hF => ?_)
    refine V_goto (pc := 41) h (tgt := 45) dX6_field_41 (by decide) ?_
    have hF := Option.some.inj hF
    subst hF
    exact V_iret (pc := 45) h dX6_field_45
noncomputable def fX6_field (v0_data : (Nat → Int32)) (x1 : Int32) (x2 : Int32) : Option (Int32) :=
  if x1 < (0 : Int32) then fX6_field_b25 v0_data x1 x2 (0 : Int32) else if (8 : Int32) ≤ x1 then fX6_field_b25 v0_data x1 x2 (0 : Int32) else if x2 < (0 : Int32) then fX6_field_b25 v0_data x1 x2 (0 : Int32) else if (7 : Int32) ≤ x2 then fX6_field_b25 v0_data x1 x2 (0 : Int32) else fX6_field_b25 v0_data x1 x2 (1 : Int32)
set_option maxRecDepth 100000 in
set_option maxHeartbeats 4000000 in
theorem tfX6_field {p : Program} {l : Launch} {e : Env} {s : State} {m : MethodId} {args : Array Value} {below : List Frame} {meth : Method} {c : Code} {A : Nat → Prop} {D : va_G} {cI cZ : ClassId} (h : Cx p s m args meth c A D cI cZ 4 cX6_field RX6 wsX6_field (some .int)) {h0 h0_data h0_fresh : Nat} {x1 : Int32} {x2 : Int32} {v0_size : Int32} {v0_data : (Nat → Int32)} {v0_fresh : (Nat → Int32)} {o : Int32} (hF : fX6_field v0_data x1 x2 = some o) : V p l e rmX6_field s m args below meth c A D 4 (QI D [(h0, .inr (6, [.ref h0_data, .ref h0_fresh, .int v0_size])), (h0_data, .inl (cI, 56, .inl v0_data)), (h0_fresh, .inl (cI, 7, .inl v0_fresh))] o A below args s) [(h0, .inr (6, [.ref h0_data, .ref h0_fresh, .int v0_size])), (h0_data, .inl (cI, 56, .inl v0_data)), (h0_fresh, .inl (cI, 7, .inl v0_fresh))] 0 [(0, .ref h0), (1, .int x1), (2, .int x2)] [] := by
  unfold fX6_field at hF
  refine V_iload_n (pc := 0) h 1 dX6_field_0 rfl ?_
  refine V_if_lt (pc := 1) h (tgt := 24) dX6_field_1 (by decide) hF (fun hF => ?_) (fun hF => ?_)
  · refine V_iconst (pc := 24) h (v := (0 : Int32)) dX6_field_24 (by decide) ?_
    exact tfX6_field_b25 h hF
  · refine V_iload_n (pc := 4) h 1 dX6_field_4 rfl ?_
    refine V_bipush (pc := 5) h (v := (8 : Int32)) dX6_field_5 (by decide) ?_
    refine V_icmp_ge (pc := 7) h (tgt := 24) dX6_field_7 (by decide) hF (fun hF => ?_) (fun hF => ?_)
    · refine V_iconst (pc := 24) h (v := (0 : Int32)) dX6_field_24 (by decide) ?_
      exact tfX6_field_b25 h hF
    · refine V_iload_n (pc := 10) h 2 dX6_field_10 rfl ?_
      refine V_if_lt (pc := 11) h (tgt := 24) dX6_field_11 (by decide) hF (fun hF => ?_) (fun hF => ?_)
      · refine V_iconst (pc := 24) h (v := (0 : Int32)) dX6_field_24 (by decide) ?_
        exact tfX6_field_b25 h hF
      · refine V_iload_n (pc := 14) h 2 dX6_field_14 rfl ?_
        refine V_bipush (pc := 15) h (v := (7 : Int32)) dX6_field_15 (by decide) ?_
        refine V_icmp_ge (pc := 17) h (tgt := 24) dX6_field_17 (by decide) hF (fun hF => ?_) (fun hF => ?_)
        · refine V_iconst (pc := 24) h (v := (0 : Int32)) dX6_field_24 (by decide) ?_
          exact tfX6_field_b25 h hF
        · refine V_iconst (pc := 20) h (v := (1 : Int32)) dX6_field_20 (by decide) ?_
          refine V_goto (pc := 21) h (tgt := 25) dX6_field_21 (by decide) ?_
          exact tfX6_field_b25 h hF
set_option maxRecDepth 100000 in
theorem k_X6_field (l : Launch) (D : va_G) (cI cZ : ClassId) (h0 h0_data h0_fresh : Nat) (v0_size : Int32) (v0_data : (Nat → Int32)) (v0_fresh : (Nat → Int32)) (x1 : Int32) (x2 : Int32) {o : Int32} (hF : fX6_field v0_data x1 x2 = some o) : CI l yX6_field wsX6_field rmX6_field D cI cZ [.ref h0, .int x1, .int x2] [(h0, .inr (6, [.ref h0_data, .ref h0_fresh, .int v0_size])), (h0_data, .inl (cI, 56, .inl v0_data)), (h0_fresh, .inl (cI, 7, .inl v0_fresh))] [(h0, .inr (6, [.ref h0_data, .ref h0_fresh, .int v0_size])), (h0_data, .inl (cI, 56, .inl v0_data)), (h0_fresh, .inl (cI, 7, .inl v0_fresh))] o :=
  CI_of (cc := cX6_field) (nL := 4) (ret := (some .int)) (by decide) rfl (Nat.le_of_ble_eq_true rfl) rfl (fun p e s m args below meth c A h => tfX6_field h hF)
/-! X6_tablesAhead -/
abbrev rmX6_tablesAhead : Room := { frames := 1, cells := 0, slots := 0, locals := 23 }
theorem uX6_tablesAhead_inX6 : ∀ w ∈ wsX60, w ∈ wsX6_tablesAhead := by decide +kernel
theorem uX6_tablesAhead_f24 : Cond.fieldLink RX6 24 "LeafAsks$Tree" "size" "I" ∈ wsX6_tablesAhead := by decide +kernel
noncomputable def fX6_tablesAhead_b4 (v0_size : Int32) (v0_data : (Nat → Int32)) (x1 : Int32) (k4 : Int32 → Int32 → Option (Int32)) (x2 : Int32) (x3 : Int32) : Option (Int32) :=
  if v0_size ≤ x3 then some x2 else if x1 ≤ x3 then some x2 else bd (fX6_field v0_data x3 (0 : Int32)) (fun r20 => if r20 = (2 : Int32) then bnd (x2 + (1 : Int32)) (fun x2_27 => bnd (x3 + (1 : Int32)) (fun x3_30 => k4 x2_27 x3_30)) else bnd (x3 + (1 : Int32)) (fun x3_30 => k4 x2 x3_30))
set_option maxRecDepth 100000 in
set_option maxHeartbeats 4000000 in
theorem tfX6_tablesAhead_b4 {p : Program} {l : Launch} {e : Env} {s : State} {m : MethodId} {args : Array Value} {below : List Frame} {meth : Method} {c : Code} {A : Nat → Prop} {D : va_G} {cI cZ : ClassId} (h : Cx p s m args meth c A D cI cZ 4 cX6_tablesAhead RX6 wsX6_tablesAhead (some .int)) {h0 h0_data h0_fresh : Nat} {x1 : Int32} {v0_size : Int32} {v0_data : (Nat → Int32)} {v0_fresh : (Nat → Int32)} {k4 : Int32 → Int32 → Option (Int32)} {x2 : Int32} {x3 : Int32} {o : Int32} (hk4 : ∀ (x2 : Int32) (x3 : Int32), k4 x2 x3 = some o → V p l e rmX6_tablesAhead s m args below meth c A D 4 (QI D [(h0, .inr (6, [.ref h0_data, .ref h0_fresh, .int v0_size])), (h0_data, .inl (cI, 56, .inl v0_data)), (h0_fresh, .inl (cI, 7, .inl v0_fresh))] o A below args s) [(h0, .inr (6, [.ref h0_data, .ref h0_fresh, .int v0_size])), (h0_data, .inl (cI, 56, .inl v0_data)), (h0_fresh, .inl (cI, 7, .inl v0_fresh))] 4 [(0, .ref h0), (1, .int x1), (2, .int x2), (3, .int x3)] []) (hF : fX6_tablesAhead_b4 v0_size v0_data x1 k4 x2 x3 = some o) : V p l e rmX6_tablesAhead s m args below meth c A D 4 (QI D [(h0, .inr (6, [.ref h0_data, .ref h0_fresh, .int v0_size])), (h0_data, .inl (cI, 56, .inl v0_data)), (h0_fresh, .inl (cI, 7, .inl v0_fresh))] o A below args s) [(h0, .inr (6, [.ref h0_data, .ref h0_fresh, .int v0_size])), (h0_data, .inl (cI, 56, .inl v0_data)), (h0_fresh, .inl (cI, 7, .inl v0_fresh))] 4 [(0, .ref h0), (1, .int x1), (2, .int x2), (3, .int x3)] [] := by
  unfold fX6_tablesAhead_b4 at hF
  refine V_iload_n (pc := 4) h 3 dX6_tablesAhead_4 rfl ?_
  refine V_aload_n (pc := 5) h 0 dX6_tablesAhead_5 rfl ?_
  refine V_get (pc := 6) h uX6_tablesAhead_inX6 0 2 rfl rfl (by decide) uX6_tablesAhead_f24 rfl rfl dX6_tablesAhead_6 ?_
  refine V_icmp_ge (pc := 9) h (tgt := 36) dX6_tablesAhead_9 (by decide) hF (fun hF => ?_) (fun hF => ?_)
  · refine V_iload_n (pc := 36) h 2 dX6_tablesAhead_36 rfl ?_
    have hF := Option.some.inj hF
    subst hF
    exact V_iret (pc := 37) h dX6_tablesAhead_37
  · refine V_iload_n (pc := 12) h 3 dX6_tablesAhead_12 rfl ?_
    refine V_iload_n (pc := 13) h 1 dX6_tablesAhead_13 rfl ?_
    refine V_icmp_ge (pc := 14) h (tgt := 36) dX6_tablesAhead_14 (by decide) hF (fun hF => ?_) (fun hF => ?_)
    · refine V_iload_n (pc := 36) h 2 dX6_tablesAhead_36 rfl ?_
      have hF := Option.some.inj hF
      subst hF
      exact V_iret (pc := 37) h dX6_tablesAhead_37
    · refine V_aload_n (pc := 17) h 0 dX6_tablesAhead_17 rfl ?_
      refine V_iload_n (pc := 18) h 3 dX6_tablesAhead_18 rfl ?_
      refine V_iconst (pc := 19) h (v := (0 : Int32)) dX6_tablesAhead_19 (by decide) ?_
      refine V_ciVA (pc := 20) h (n := 2) (bytes := cX6_field) (maxL := 4) (As := [.int x3, .int (0 : Int32)]) (rest := []) gX6_tablesAhead_X6_field (by decide +kernel) rfl rfl rfl rfl ⟨rfl, rfl⟩ ⟨Nat.le_of_ble_eq_true rfl, Nat.le_of_ble_eq_true rfl⟩ rfl rfl (Nat.le_of_ble_eq_true rfl) dX6_tablesAhead_20 hF (fun r20 hG => k_X6_field l D cI cZ h0 h0_data h0_fresh v0_size v0_data v0_fresh x3 (0 : Int32) hG) (fun r20 hF => ?_)
      refine V_iconst (pc := 23) h (v := (2 : Int32)) dX6_tablesAhead_23 (by decide) ?_
      refine V_icmp_ne (pc := 24) h (tgt := 30) dX6_tablesAhead_24 (by decide) hF (fun hF => ?_) (fun hF => ?_)
      · refine V_iinc (pc := 30) h 3 (fun x3_30 => [(3, .int x3_30), (0, .ref h0), (1, .int x1), (2, .int x2)]) dX6_tablesAhead_30 rfl rfl (by decide) (fun _ => rfl) hF (fun x3_30 hF => ?_)
        refine V_goto (pc := 33) h (tgt := 4) dX6_tablesAhead_33 (by decide) ?_
        refine V_lv [1, 2, 3, 0] [(0, .ref h0), (1, .int x1), (2, .int x2), (3, .int x3_30)] rfl ?_
        exact hk4 _ _ hF
      · refine V_iinc (pc := 27) h 2 (fun x2_27 => [(2, .int x2_27), (0, .ref h0), (1, .int x1), (3, .int x3)]) dX6_tablesAhead_27 rfl rfl (by decide) (fun _ => rfl) hF (fun x2_27 hF => ?_)
        refine V_iinc (pc := 30) h 3 (fun x3_30 => [(3, .int x3_30), (2, .int x2_27), (0, .ref h0), (1, .int x1)]) dX6_tablesAhead_30 rfl rfl (by decide) (fun _ => rfl) hF (fun x3_30 hF => ?_)
        refine V_goto (pc := 33) h (tgt := 4) dX6_tablesAhead_33 (by decide) ?_
        refine V_lv [2, 3, 1, 0] [(0, .ref h0), (1, .int x1), (2, .int x2_27), (3, .int x3_30)] rfl ?_
        exact hk4 _ _ hF
noncomputable def fX6_tablesAhead_l4 (v0_size : Int32) (v0_data : (Nat → Int32)) (x1 : Int32) (n : Nat) : Int32 → Int32 → Option (Int32) :=
  Nat.rec (motive := fun _ => Int32 → Int32 → Option (Int32)) (fun _ _ => none) (fun _ ih => fX6_tablesAhead_b4 v0_size v0_data x1 ih) n
theorem fX6_tablesAhead_l4_s (v0_size : Int32) (v0_data : (Nat → Int32)) (x1 : Int32) (n : Nat) (x2 : Int32) (x3 : Int32) : fX6_tablesAhead_l4 v0_size v0_data x1 (n + 1) x2 x3 = fX6_tablesAhead_b4 v0_size v0_data x1 (fX6_tablesAhead_l4 v0_size v0_data x1 n) x2 x3 := rfl
set_option maxRecDepth 100000 in
set_option maxHeartbeats 4000000 in
theorem tfX6_tablesAhead_l4 {p : Program} {l : Launch} {e : Env} {s : State} {m : MethodId} {args : Array Value} {below : List Frame} {meth : Method} {c : Code} {A : Nat → Prop} {D : va_G} {cI cZ : ClassId} (h : Cx p s m args meth c A D cI cZ 4 cX6_tablesAhead RX6 wsX6_tablesAhead (some .int)) {h0 h0_data h0_fresh : Nat} {x1 : Int32} {v0_size : Int32} {v0_data : (Nat → Int32)} {v0_fresh : (Nat → Int32)} {o : Int32} (n : Nat) : ∀ (x2 : Int32) (x3 : Int32) (hF : fX6_tablesAhead_l4 v0_size v0_data x1 n x2 x3 = some o), V p l e rmX6_tablesAhead s m args below meth c A D 4 (QI D [(h0, .inr (6, [.ref h0_data, .ref h0_fresh, .int v0_size])), (h0_data, .inl (cI, 56, .inl v0_data)), (h0_fresh, .inl (cI, 7, .inl v0_fresh))] o A below args s) [(h0, .inr (6, [.ref h0_data, .ref h0_fresh, .int v0_size])), (h0_data, .inl (cI, 56, .inl v0_data)), (h0_fresh, .inl (cI, 7, .inl v0_fresh))] 4 [(0, .ref h0), (1, .int x1), (2, .int x2), (3, .int x3)] [] := by
  induction n with
  | zero => intro x2 x3 hF; exact nomatch (show (none : Option (Int32)) = some o from hF)
  | succ n ih => intro x2 x3 hF; exact tfX6_tablesAhead_b4 (x1 := x1) (k4 := fX6_tablesAhead_l4 v0_size v0_data x1 n) h ih hF
noncomputable def fX6_tablesAhead (v0_size : Int32) (v0_data : (Nat → Int32)) (x1 : Int32) : Option (Int32) :=
  fX6_tablesAhead_l4 v0_size v0_data x1 1000 (0 : Int32) (0 : Int32)
set_option maxRecDepth 100000 in
set_option maxHeartbeats 4000000 in
theorem tfX6_tablesAhead {p : Program} {l : Launch} {e : Env} {s : State} {m : MethodId} {args : Array Value} {below : List Frame} {meth : Method} {c : Code} {A : Nat → Prop} {D : va_G} {cI cZ : ClassId} (h : Cx p s m args meth c A D cI cZ 4 cX6_tablesAhead RX6 wsX6_tablesAhead (some .int)) {h0 h0_data h0_fresh : Nat} {x1 : Int32} {v0_size : Int32} {v0_data : (Nat → Int32)} {v0_fresh : (Nat → Int32)} {o : Int32} (hF : fX6_tablesAhead v0_size v0_data x1 = some o) : V p l e rmX6_tablesAhead s m args below meth c A D 4 (QI D [(h0, .inr (6, [.ref h0_data, .ref h0_fresh, .int v0_size])), (h0_data, .inl (cI, 56, .inl v0_data)), (h0_fresh, .inl (cI, 7, .inl v0_fresh))] o A below args s) [(h0, .inr (6, [.ref h0_data, .ref h0_fresh, .int v0_size])), (h0_data, .inl (cI, 56, .inl v0_data)), (h0_fresh, .inl (cI, 7, .inl v0_fresh))] 0 [(0, .ref h0), (1, .int x1)] [] := by
  unfold fX6_tablesAhead at hF
  refine V_iconst (pc := 0) h (v := (0 : Int32)) dX6_tablesAhead_0 (by decide) ?_
  refine V_istore_n (pc := 1) h [(2, .int (0 : Int32)), (0, .ref h0), (1, .int x1)] dX6_tablesAhead_1 (by decide) rfl ?_
  refine V_iconst (pc := 2) h (v := (0 : Int32)) dX6_tablesAhead_2 (by decide) ?_
  refine V_istore_n (pc := 3) h [(3, .int (0 : Int32)), (2, .int (0 : Int32)), (0, .ref h0), (1, .int x1)] dX6_tablesAhead_3 (by decide) rfl ?_
  refine V_lv [2, 3, 1, 0] [(0, .ref h0), (1, .int x1), (2, .int (0 : Int32)), (3, .int (0 : Int32))] rfl ?_
  exact tfX6_tablesAhead_l4 h 1000 _ _ hF
set_option maxRecDepth 100000 in
theorem k_X6_tablesAhead (l : Launch) (D : va_G) (cI cZ : ClassId) (h0 h0_data h0_fresh : Nat) (v0_size : Int32) (v0_data : (Nat → Int32)) (v0_fresh : (Nat → Int32)) (x1 : Int32) {o : Int32} (hF : fX6_tablesAhead v0_size v0_data x1 = some o) : CI l yX6_tablesAhead wsX6_tablesAhead rmX6_tablesAhead D cI cZ [.ref h0, .int x1] [(h0, .inr (6, [.ref h0_data, .ref h0_fresh, .int v0_size])), (h0_data, .inl (cI, 56, .inl v0_data)), (h0_fresh, .inl (cI, 7, .inl v0_fresh))] [(h0, .inr (6, [.ref h0_data, .ref h0_fresh, .int v0_size])), (h0_data, .inl (cI, 56, .inl v0_data)), (h0_fresh, .inl (cI, 7, .inl v0_fresh))] o :=
  CI_of (cc := cX6_tablesAhead) (nL := 4) (ret := (some .int)) (by decide) rfl (Nat.le_of_ble_eq_true rfl) rfl (fun p e s m args below meth c A h => tfX6_tablesAhead h hF)
/-! X4_cellPlace -/
abbrev rmX4_cellPlace : Room := { frames := 0, cells := 0, slots := 0, locals := 0 }
noncomputable def fX4_cellPlace (x0 : Int32) (x1 : Int32) (x2 : Int32) : Option (Int32) :=
  some ((((12 : Int32) + ((((x0 * (9 : Int32)) + x2) - (1 : Int32)) * (4 : Int32))) + x1))
set_option maxRecDepth 100000 in
set_option maxHeartbeats 4000000 in
theorem tfX4_cellPlace {p : Program} {l : Launch} {e : Env} {s : State} {m : MethodId} {args : Array Value} {below : List Frame} {meth : Method} {c : Code} {A : Nat → Prop} {D : va_G} {cI cZ : ClassId} (h : Cx p s m args meth c A D cI cZ 3 cX4_cellPlace RX4 wsX4_cellPlace (some .int)) {x0 : Int32} {x1 : Int32} {x2 : Int32} {o : Int32} (hF : fX4_cellPlace x0 x1 x2 = some o) : V p l e rmX4_cellPlace s m args below meth c A D 3 (QI D [] o A below args s) [] 0 [(0, .int x0), (1, .int x1), (2, .int x2)] [] := by
  unfold fX4_cellPlace at hF
  refine V_bipush (pc := 0) h (v := (12 : Int32)) dX4_cellPlace_0 (by decide) ?_
  refine V_iload_n (pc := 2) h 0 dX4_cellPlace_2 rfl ?_
  refine V_bipush (pc := 3) h (v := (9 : Int32)) dX4_cellPlace_3 (by decide) ?_
  refine V_imul (pc := 5) h dX4_cellPlace_5 ?_
  refine V_iload_n (pc := 6) h 2 dX4_cellPlace_6 rfl ?_
  refine V_iadd (pc := 7) h dX4_cellPlace_7 ?_
  refine V_iconst (pc := 8) h (v := (1 : Int32)) dX4_cellPlace_8 (by decide) ?_
  refine V_isub (pc := 9) h dX4_cellPlace_9 ?_
  refine V_iconst (pc := 10) h (v := (4 : Int32)) dX4_cellPlace_10 (by decide) ?_
  refine V_imul (pc := 11) h dX4_cellPlace_11 ?_
  refine V_iadd (pc := 12) h dX4_cellPlace_12 ?_
  refine V_iload_n (pc := 13) h 1 dX4_cellPlace_13 rfl ?_
  refine V_iadd (pc := 14) h dX4_cellPlace_14 ?_
  have hF := Option.some.inj hF
  subst hF
  exact V_iret (pc := 15) h dX4_cellPlace_15
set_option maxRecDepth 100000 in
theorem k_X4_cellPlace (l : Launch) (D : va_G) (cI cZ : ClassId) (x0 : Int32) (x1 : Int32) (x2 : Int32) {o : Int32} (hF : fX4_cellPlace x0 x1 x2 = some o) : CI l yX4_cellPlace wsX4_cellPlace rmX4_cellPlace D cI cZ [.int x0, .int x1, .int x2] [] [] o :=
  CI_of (cc := cX4_cellPlace) (nL := 3) (ret := (some .int)) (by decide) rfl (Nat.le_of_ble_eq_true rfl) rfl (fun p e s m args below meth c A h => tfX4_cellPlace h hF)
/-! X4_read -/
abbrev rmX4_read : Room := { frames := 0, cells := 0, slots := 0, locals := 0 }
theorem uX4_read_inX4 : ∀ w ∈ wsX40, w ∈ wsX4_read := by decide +kernel
theorem uX4_read_f11 : Cond.fieldLink RX4 11 "LeafAsks$State" "data" "[I" ∈ wsX4_read := by decide +kernel
noncomputable def fX4_read (v0_data : (Nat → Int32)) (x1 : Int32) : Option (Int32) :=
  if x1 < (0 : Int32) then some (0 : Int32) else if (124 : Int32) ≤ x1 then some (0 : Int32) else gin x1 124 (some (v0_data x1.toNatClampNeg))
set_option maxRecDepth 100000 in
set_option maxHeartbeats 4000000 in
theorem tfX4_read {p : Program} {l : Launch} {e : Env} {s : State} {m : MethodId} {args : Array Value} {below : List Frame} {meth : Method} {c : Code} {A : Nat → Prop} {D : va_G} {cI cZ : ClassId} (h : Cx p s m args meth c A D cI cZ 2 cX4_read RX4 wsX4_read (some .int)) {h0 h0_data : Nat} {x1 : Int32} {v0_data : (Nat → Int32)} {o : Int32} (hF : fX4_read v0_data x1 = some o) : V p l e rmX4_read s m args below meth c A D 2 (QI D [(h0, .inr (4, [.ref h0_data])), (h0_data, .inl (cI, 124, .inl v0_data))] o A below args s) [(h0, .inr (4, [.ref h0_data])), (h0_data, .inl (cI, 124, .inl v0_data))] 0 [(0, .ref h0), (1, .int x1)] [] := by
  unfold fX4_read at hF
  refine V_iload_n (pc := 0) h 1 dX4_read_0 rfl ?_
  refine V_if_lt (pc := 1) h (tgt := 19) dX4_read_1 (by decide) hF (fun hF => ?_) (fun hF => ?_)
  · refine V_iconst (pc := 19) h (v := (0 : Int32)) dX4_read_19 (by decide) ?_
    have hF := Option.some.inj hF
    subst hF
    exact V_iret (pc := 20) h dX4_read_20
  · refine V_iload_n (pc := 4) h 1 dX4_read_4 rfl ?_
    refine V_bipush (pc := 5) h (v := (124 : Int32)) dX4_read_5 (by decide) ?_
    refine V_icmp_ge (pc := 7) h (tgt := 19) dX4_read_7 (by decide) hF (fun hF => ?_) (fun hF => ?_)
    · refine V_iconst (pc := 19) h (v := (0 : Int32)) dX4_read_19 (by decide) ?_
      have hF := Option.some.inj hF
      subst hF
      exact V_iret (pc := 20) h dX4_read_20
    · refine V_aload_n (pc := 10) h 0 dX4_read_10 rfl ?_
      refine V_get (pc := 11) h uX4_read_inX4 0 0 rfl rfl (by decide) uX4_read_f11 rfl rfl dX4_read_11 ?_
      refine V_iload_n (pc := 14) h 1 dX4_read_14 rfl ?_
      refine V_iald (pc := 15) h 1 rfl dX4_read_15 hF (fun hF => ?_)
      refine V_goto (pc := 16) h (tgt := 20) dX4_read_16 (by decide) ?_
      have hF := Option.some.inj hF
      subst hF
      exact V_iret (pc := 20) h dX4_read_20
set_option maxRecDepth 100000 in
theorem k_X4_read (l : Launch) (D : va_G) (cI cZ : ClassId) (h0 h0_data : Nat) (v0_data : (Nat → Int32)) (x1 : Int32) {o : Int32} (hF : fX4_read v0_data x1 = some o) : CI l yX4_read wsX4_read rmX4_read D cI cZ [.ref h0, .int x1] [(h0, .inr (4, [.ref h0_data])), (h0_data, .inl (cI, 124, .inl v0_data))] [(h0, .inr (4, [.ref h0_data])), (h0_data, .inl (cI, 124, .inl v0_data))] o :=
  CI_of (cc := cX4_read) (nL := 2) (ret := (some .int)) (by decide) rfl (Nat.le_of_ble_eq_true rfl) rfl (fun p e s m args below meth c A h => tfX4_read h hF)
/-! X4_isLeaf -/
abbrev rmX4_isLeaf : Room := { frames := 1, cells := 0, slots := 0, locals := 22 }
noncomputable def fX4_isLeaf_b19 (v0_data : (Nat → Int32)) (x1 : Int32) (x2 : Int32) (x3 : Int32) (s0 : Int32) (s1 : Int32) : Option (Int32) :=
  if s1 = s0 then some (0 : Int32) else some (1 : Int32)
set_option maxRecDepth 100000 in
set_option maxHeartbeats 4000000 in
theorem tfX4_isLeaf_b19 {p : Program} {l : Launch} {e : Env} {s : State} {m : MethodId} {args : Array Value} {below : List Frame} {meth : Method} {c : Code} {A : Nat → Prop} {D : va_G} {cI cZ : ClassId} (h : Cx p s m args meth c A D cI cZ 4 cX4_isLeaf RX4 wsX4_isLeaf (some .boolean)) {h0 h0_data : Nat} {x1 : Int32} {x2 : Int32} {x3 : Int32} {v0_data : (Nat → Int32)} {s0 : Int32} {s1 : Int32} {o : Int32} (hF : fX4_isLeaf_b19 v0_data x1 x2 x3 s0 s1 = some o) : V p l e rmX4_isLeaf s m args below meth c A D 4 (QI D [(h0, .inr (4, [.ref h0_data])), (h0_data, .inl (cI, 124, .inl v0_data))] o A below args s) [(h0, .inr (4, [.ref h0_data])), (h0_data, .inl (cI, 124, .inl v0_data))] 19 [] [.int s0, .int s1] := by
  unfold fX4_isLeaf_b19 at hF
  refine V_icmp_eq (pc := 19) h (tgt := 26) dX4_isLeaf_19 (by decide) hF (fun hF => ?_) (fun hF => ?_)
  · refine V_iconst (pc := 26) h (v := (0 : Int32)) dX4_isLeaf_26 (by decide) ?_
    have hF := Option.some.inj hF
    subst hF
    exact V_zret (pc := 27) h (Or.inl rfl) dX4_isLeaf_27
  · refine V_iconst (pc := 22) h (v := (1 : Int32)) dX4_isLeaf_22 (by decide) ?_
    refine V_goto (pc := 23) h (tgt := 27) dX4_isLeaf_23 (by decide) ?_
    have hF := Option.some.inj hF
    subst hF
    exact V_zret (pc := 27) h (Or.inr rfl) dX4_isLeaf_27
noncomputable def fX4_isLeaf (v0_data : (Nat → Int32)) (x1 : Int32) (x2 : Int32) (x3 : Int32) : Option (Int32) :=
  bd (fX4_cellPlace x1 x2 x3) (fun r4 => bd (fX4_read v0_data r4) (fun r7 => if x2 = (0 : Int32) then fX4_isLeaf_b19 v0_data x1 x2 x3 (0 : Int32) r7 else fX4_isLeaf_b19 v0_data x1 x2 x3 (0 : Int32) r7))
set_option maxRecDepth 100000 in
set_option maxHeartbeats 4000000 in
theorem tfX4_isLeaf {p : Program} {l : Launch} {e : Env} {s : State} {m : MethodId} {args : Array Value} {below : List Frame} {meth : Method} {c : Code} {A : Nat → Prop} {D : va_G} {cI cZ : ClassId} (h : Cx p s m args meth c A D cI cZ 4 cX4_isLeaf RX4 wsX4_isLeaf (some .boolean)) {h0 h0_data : Nat} {x1 : Int32} {x2 : Int32} {x3 : Int32} {v0_data : (Nat → Int32)} {o : Int32} (hF : fX4_isLeaf v0_data x1 x2 x3 = some o) : V p l e rmX4_isLeaf s m args below meth c A D 4 (QI D [(h0, .inr (4, [.ref h0_data])), (h0_data, .inl (cI, 124, .inl v0_data))] o A below args s) [(h0, .inr (4, [.ref h0_data])), (h0_data, .inl (cI, 124, .inl v0_data))] 0 [(0, .ref h0), (1, .int x1), (2, .int x2), (3, .int x3)] [] := by
  unfold fX4_isLeaf at hF
  refine V_aload_n (pc := 0) h 0 dX4_isLeaf_0 rfl ?_
  refine V_iload_n (pc := 1) h 1 dX4_isLeaf_1 rfl ?_
  refine V_iload_n (pc := 2) h 2 dX4_isLeaf_2 rfl ?_
  refine V_iload_n (pc := 3) h 3 dX4_isLeaf_3 rfl ?_
  refine V_ciS (pc := 4) h (n := 3) (bytes := cX4_cellPlace) (maxL := 3) (As := [.int x1, .int x2, .int x3]) (rest := [.ref h0]) gX4_isLeaf_X4_cellPlace (by decide +kernel) rfl ⟨rfl, rfl⟩ ⟨Nat.le_of_ble_eq_true rfl, Nat.le_of_ble_eq_true rfl⟩ [] rfl (by decide) rfl (fun r4 => [(h0, .inr (4, [.ref h0_data])), (h0_data, .inl (cI, 124, .inl v0_data))]) (fun _ => rfl) (fun _ => rfl) rfl (Nat.le_of_ble_eq_true rfl) dX4_isLeaf_4 hF (fun r4 hG => k_X4_cellPlace l D cI cZ x1 x2 x3 hG) (fun r4 hF => ?_)
  refine V_ciVA (pc := 7) h (n := 1) (bytes := cX4_read) (maxL := 2) (As := [.int r4]) (rest := []) gX4_isLeaf_X4_read (by decide +kernel) rfl rfl rfl rfl ⟨rfl, rfl⟩ ⟨Nat.le_of_ble_eq_true rfl, Nat.le_of_ble_eq_true rfl⟩ rfl rfl (Nat.le_of_ble_eq_true rfl) dX4_isLeaf_7 hF (fun r7 hG => k_X4_read l D cI cZ h0 h0_data v0_data r4 hG) (fun r7 hF => ?_)
  refine V_iload_n (pc := 10) h 2 dX4_isLeaf_10 rfl ?_
  refine V_if_ne (pc := 11) h (tgt := 18) dX4_isLeaf_11 (by decide) hF (fun hF => ?_) (fun hF => ?_)
  · refine V_iconst (pc := 18) h (v := (0 : Int32)) dX4_isLeaf_18 (by decide) ?_
    refine V_lv [] [] rfl ?_
    exact tfX4_isLeaf_b19 h hF
  · refine V_iconst (pc := 14) h (v := (0 : Int32)) dX4_isLeaf_14 (by decide) ?_
    refine V_goto (pc := 15) h (tgt := 19) dX4_isLeaf_15 (by decide) ?_
    refine V_lv [] [] rfl ?_
    exact tfX4_isLeaf_b19 h hF
set_option maxRecDepth 100000 in
theorem k_X4_isLeaf (l : Launch) (D : va_G) (cI cZ : ClassId) (h0 h0_data : Nat) (v0_data : (Nat → Int32)) (x1 : Int32) (x2 : Int32) (x3 : Int32) {o : Int32} (hF : fX4_isLeaf v0_data x1 x2 x3 = some o) : CI l yX4_isLeaf wsX4_isLeaf rmX4_isLeaf D cI cZ [.ref h0, .int x1, .int x2, .int x3] [(h0, .inr (4, [.ref h0_data])), (h0_data, .inl (cI, 124, .inl v0_data))] [(h0, .inr (4, [.ref h0_data])), (h0_data, .inl (cI, 124, .inl v0_data))] o :=
  CI_of (cc := cX4_isLeaf) (nL := 4) (ret := (some .boolean)) (by decide) rfl (Nat.le_of_ble_eq_true rfl) rfl (fun p e s m args below meth c A h => tfX4_isLeaf h hF)
/-! X8_numberOf -/
abbrev rmX8_numberOf : Room := { frames := 0, cells := 0, slots := 0, locals := 0 }
noncomputable def fX8_numberOf (x0 : Int32) (x1 : Int32) : Option (Int32) :=
  some ((((x0 >>> (((12 : Int32) - ((4 : Int32) * x1)) &&& 31)) &&& (15 : Int32)) - (1 : Int32)))
set_option maxRecDepth 100000 in
set_option maxHeartbeats 4000000 in
theorem tfX8_numberOf {p : Program} {l : Launch} {e : Env} {s : State} {m : MethodId} {args : Array Value} {below : List Frame} {meth : Method} {c : Code} {A : Nat → Prop} {D : va_G} {cI cZ : ClassId} (h : Cx p s m args meth c A D cI cZ 2 cX8_numberOf RX8 wsX8_numberOf (some .int)) {x0 : Int32} {x1 : Int32} {o : Int32} (hF : fX8_numberOf x0 x1 = some o) : V p l e rmX8_numberOf s m args below meth c A D 2 (QI D [] o A below args s) [] 0 [(0, .int x0), (1, .int x1)] [] := by
  unfold fX8_numberOf at hF
  refine V_iload_n (pc := 0) h 0 dX8_numberOf_0 rfl ?_
  refine V_bipush (pc := 1) h (v := (12 : Int32)) dX8_numberOf_1 (by decide) ?_
  refine V_iconst (pc := 3) h (v := (4 : Int32)) dX8_numberOf_3 (by decide) ?_
  refine V_iload_n (pc := 4) h 1 dX8_numberOf_4 rfl ?_
  refine V_imul (pc := 5) h dX8_numberOf_5 ?_
  refine V_isub (pc := 6) h dX8_numberOf_6 ?_
  refine V_ishr (pc := 7) h dX8_numberOf_7 ?_
  refine V_bipush (pc := 8) h (v := (15 : Int32)) dX8_numberOf_8 (by decide) ?_
  refine V_iand (pc := 10) h dX8_numberOf_10 ?_
  refine V_iconst (pc := 11) h (v := (1 : Int32)) dX8_numberOf_11 (by decide) ?_
  refine V_isub (pc := 12) h dX8_numberOf_12 ?_
  have hF := Option.some.inj hF
  subst hF
  exact V_iret (pc := 13) h dX8_numberOf_13
set_option maxRecDepth 100000 in
theorem k_X8_numberOf (l : Launch) (D : va_G) (cI cZ : ClassId) (x0 : Int32) (x1 : Int32) {o : Int32} (hF : fX8_numberOf x0 x1 = some o) : CI l yX8_numberOf wsX8_numberOf rmX8_numberOf D cI cZ [.int x0, .int x1] [] [] o :=
  CI_of (cc := cX8_numberOf) (nL := 2) (ret := (some .int)) (by decide) rfl (Nat.le_of_ble_eq_true rfl) rfl (fun p e s m args below meth c A h => tfX8_numberOf h hF)
/-! X8_nameOf -/
abbrev rmX8_nameOf : Room := { frames := 0, cells := 0, slots := 0, locals := 0 }
noncomputable def fX8_nameOf (x0 : Int32) (x1 : Int32) (x2 : Int32) (x3 : Int32) : Option (Int32) :=
  some ((((((x0 + (1 : Int32)) <<< ((12 : Int32) &&& 31)) ||| ((x1 + (1 : Int32)) <<< ((8 : Int32) &&& 31))) ||| ((x2 + (1 : Int32)) <<< ((4 : Int32) &&& 31))) ||| (x3 + (1 : Int32))))
set_option maxRecDepth 100000 in
set_option maxHeartbeats 4000000 in
theorem tfX8_nameOf {p : Program} {l : Launch} {e : Env} {s : State} {m : MethodId} {args : Array Value} {below : List Frame} {meth : Method} {c : Code} {A : Nat → Prop} {D : va_G} {cI cZ : ClassId} (h : Cx p s m args meth c A D cI cZ 4 cX8_nameOf RX8 wsX8_nameOf (some .int)) {x0 : Int32} {x1 : Int32} {x2 : Int32} {x3 : Int32} {o : Int32} (hF : fX8_nameOf x0 x1 x2 x3 = some o) : V p l e rmX8_nameOf s m args below meth c A D 4 (QI D [] o A below args s) [] 0 [(0, .int x0), (1, .int x1), (2, .int x2), (3, .int x3)] [] := by
  unfold fX8_nameOf at hF
  refine V_iload_n (pc := 0) h 0 dX8_nameOf_0 rfl ?_
  refine V_iconst (pc := 1) h (v := (1 : Int32)) dX8_nameOf_1 (by decide) ?_
  refine V_iadd (pc := 2) h dX8_nameOf_2 ?_
  refine V_bipush (pc := 3) h (v := (12 : Int32)) dX8_nameOf_3 (by decide) ?_
  refine V_ishl (pc := 5) h dX8_nameOf_5 ?_
  refine V_iload_n (pc := 6) h 1 dX8_nameOf_6 rfl ?_
  refine V_iconst (pc := 7) h (v := (1 : Int32)) dX8_nameOf_7 (by decide) ?_
  refine V_iadd (pc := 8) h dX8_nameOf_8 ?_
  refine V_bipush (pc := 9) h (v := (8 : Int32)) dX8_nameOf_9 (by decide) ?_
  refine V_ishl (pc := 11) h dX8_nameOf_11 ?_
  refine V_ior (pc := 12) h dX8_nameOf_12 ?_
  refine V_iload_n (pc := 13) h 2 dX8_nameOf_13 rfl ?_
  refine V_iconst (pc := 14) h (v := (1 : Int32)) dX8_nameOf_14 (by decide) ?_
  refine V_iadd (pc := 15) h dX8_nameOf_15 ?_
  refine V_iconst (pc := 16) h (v := (4 : Int32)) dX8_nameOf_16 (by decide) ?_
  refine V_ishl (pc := 17) h dX8_nameOf_17 ?_
  refine V_ior (pc := 18) h dX8_nameOf_18 ?_
  refine V_iload_n (pc := 19) h 3 dX8_nameOf_19 rfl ?_
  refine V_iconst (pc := 20) h (v := (1 : Int32)) dX8_nameOf_20 (by decide) ?_
  refine V_iadd (pc := 21) h dX8_nameOf_21 ?_
  refine V_ior (pc := 22) h dX8_nameOf_22 ?_
  have hF := Option.some.inj hF
  subst hF
  exact V_iret (pc := 23) h dX8_nameOf_23
set_option maxRecDepth 100000 in
theorem k_X8_nameOf (l : Launch) (D : va_G) (cI cZ : ClassId) (x0 : Int32) (x1 : Int32) (x2 : Int32) (x3 : Int32) {o : Int32} (hF : fX8_nameOf x0 x1 x2 x3 = some o) : CI l yX8_nameOf wsX8_nameOf rmX8_nameOf D cI cZ [.int x0, .int x1, .int x2, .int x3] [] [] o :=
  CI_of (cc := cX8_nameOf) (nL := 4) (ret := (some .int)) (by decide) rfl (Nat.le_of_ble_eq_true rfl) rfl (fun p e s m args below meth c A h => tfX8_nameOf h hF)
/-! X0_behind -/
abbrev rmX0_behind : Room := { frames := 1, cells := 0, slots := 0, locals := 23 }
theorem uX0_behind_nitX8 : Cond.initialized RX8 ∈ wsX0_behind := by decide +kernel
theorem uX0_behind_staX8_nameOf : Cond.static yX8_nameOf ∈ wsX0_behind := by decide +kernel
theorem uX0_behind_staX8_numberOf : Cond.static yX8_numberOf ∈ wsX0_behind := by decide +kernel
noncomputable def fX0_behind (x0 : Int32) (x1 : Int32) (x2 : Int32) : Option (Int32) :=
  bd (fX8_numberOf x0 (0 : Int32)) (fun r2 => bd (fX8_numberOf x0 (1 : Int32)) (fun r7 => bd (fX8_nameOf r2 r7 x1 x2) (fun r12 => some r12)))
set_option maxRecDepth 100000 in
set_option maxHeartbeats 4000000 in
theorem tfX0_behind {p : Program} {l : Launch} {e : Env} {s : State} {m : MethodId} {args : Array Value} {below : List Frame} {meth : Method} {c : Code} {A : Nat → Prop} {D : va_G} {cI cZ : ClassId} (h : Cx p s m args meth c A D cI cZ 3 cX0_behind RX0 wsX0_behind (some .int)) {x0 : Int32} {x1 : Int32} {x2 : Int32} {o : Int32} (hF : fX0_behind x0 x1 x2 = some o) : V p l e rmX0_behind s m args below meth c A D 3 (QI D [] o A below args s) [] 0 [(0, .int x0), (1, .int x1), (2, .int x2)] [] := by
  unfold fX0_behind at hF
  refine V_iload_n (pc := 0) h 0 dX0_behind_0 rfl ?_
  refine V_iconst (pc := 1) h (v := (0 : Int32)) dX0_behind_1 (by decide) ?_
  refine V_ciSN (pc := 2) h (n := 2) (bytes := cX8_numberOf) (maxL := 2) (As := [.int x0, .int (0 : Int32)]) (rest := []) ggX0_behind_X8_numberOf h.2.2.2.1.2.2.2.2.1 uX0_behind_nitX8 uX0_behind_staX8_numberOf (by decide +kernel) rfl ⟨rfl, rfl⟩ ⟨Nat.le_of_ble_eq_true rfl, Nat.le_of_ble_eq_true rfl⟩ [] rfl (by decide) rfl (fun r2 => []) (fun _ => rfl) (fun _ => rfl) rfl (Nat.le_of_ble_eq_true rfl) dX0_behind_2 hF (fun r2 hG => k_X8_numberOf l D cI cZ x0 (0 : Int32) hG) (fun r2 hF => ?_)
  refine V_iload_n (pc := 5) h 0 dX0_behind_5 rfl ?_
  refine V_iconst (pc := 6) h (v := (1 : Int32)) dX0_behind_6 (by decide) ?_
  refine V_ciSN (pc := 7) h (n := 2) (bytes := cX8_numberOf) (maxL := 2) (As := [.int x0, .int (1 : Int32)]) (rest := [.int r2]) ggX0_behind_X8_numberOf h.2.2.2.1.2.2.2.2.1 uX0_behind_nitX8 uX0_behind_staX8_numberOf (by decide +kernel) rfl ⟨rfl, rfl⟩ ⟨Nat.le_of_ble_eq_true rfl, Nat.le_of_ble_eq_true rfl⟩ [] rfl (by decide) rfl (fun r7 => []) (fun _ => rfl) (fun _ => rfl) rfl (Nat.le_of_ble_eq_true rfl) dX0_behind_7 hF (fun r7 hG => k_X8_numberOf l D cI cZ x0 (1 : Int32) hG) (fun r7 hF => ?_)
  refine V_iload_n (pc := 10) h 1 dX0_behind_10 rfl ?_
  refine V_iload_n (pc := 11) h 2 dX0_behind_11 rfl ?_
  refine V_ciSN (pc := 12) h (n := 4) (bytes := cX8_nameOf) (maxL := 4) (As := [.int r2, .int r7, .int x1, .int x2]) (rest := []) ggX0_behind_X8_nameOf h.2.2.2.1.2.2.2.2.2.1 uX0_behind_nitX8 uX0_behind_staX8_nameOf (by decide +kernel) rfl ⟨rfl, rfl⟩ ⟨Nat.le_of_ble_eq_true rfl, Nat.le_of_ble_eq_true rfl⟩ [] rfl (by decide) rfl (fun r12 => []) (fun _ => rfl) (fun _ => rfl) rfl (Nat.le_of_ble_eq_true rfl) dX0_behind_12 hF (fun r12 hG => k_X8_nameOf l D cI cZ r2 r7 x1 x2 hG) (fun r12 hF => ?_)
  have hF := Option.some.inj hF
  subst hF
  exact V_iret (pc := 15) h dX0_behind_15
set_option maxRecDepth 100000 in
theorem k_X0_behind (l : Launch) (D : va_G) (cI cZ : ClassId) (x0 : Int32) (x1 : Int32) (x2 : Int32) {o : Int32} (hF : fX0_behind x0 x1 x2 = some o) : CI l yX0_behind wsX0_behind rmX0_behind D cI cZ [.int x0, .int x1, .int x2] [] [] o :=
  CI_of (cc := cX0_behind) (nL := 3) (ret := (some .int)) (by decide) rfl (Nat.le_of_ble_eq_true rfl) rfl (fun p e s m args below meth c A h => tfX0_behind h hF)
/-! X4_statusOf -/
abbrev rmX4_statusOf : Room := { frames := 1, cells := 0, slots := 0, locals := 22 }
noncomputable def fX4_statusOf (v0_data : (Nat → Int32)) (x1 : Int32) (x2 : Int32) : Option (Int32) :=
  bd (fX4_cellPlace x1 (0 : Int32) x2) (fun r4 => bd (fX4_read v0_data r4) (fun r7 => some r7))
set_option maxRecDepth 100000 in
set_option maxHeartbeats 4000000 in
theorem tfX4_statusOf {p : Program} {l : Launch} {e : Env} {s : State} {m : MethodId} {args : Array Value} {below : List Frame} {meth : Method} {c : Code} {A : Nat → Prop} {D : va_G} {cI cZ : ClassId} (h : Cx p s m args meth c A D cI cZ 3 cX4_statusOf RX4 wsX4_statusOf (some .int)) {h0 h0_data : Nat} {x1 : Int32} {x2 : Int32} {v0_data : (Nat → Int32)} {o : Int32} (hF : fX4_statusOf v0_data x1 x2 = some o) : V p l e rmX4_statusOf s m args below meth c A D 3 (QI D [(h0, .inr (4, [.ref h0_data])), (h0_data, .inl (cI, 124, .inl v0_data))] o A below args s) [(h0, .inr (4, [.ref h0_data])), (h0_data, .inl (cI, 124, .inl v0_data))] 0 [(0, .ref h0), (1, .int x1), (2, .int x2)] [] := by
  unfold fX4_statusOf at hF
  refine V_aload_n (pc := 0) h 0 dX4_statusOf_0 rfl ?_
  refine V_iload_n (pc := 1) h 1 dX4_statusOf_1 rfl ?_
  refine V_iconst (pc := 2) h (v := (0 : Int32)) dX4_statusOf_2 (by decide) ?_
  refine V_iload_n (pc := 3) h 2 dX4_statusOf_3 rfl ?_
  refine V_ciS (pc := 4) h (n := 3) (bytes := cX4_cellPlace) (maxL := 3) (As := [.int x1, .int (0 : Int32), .int x2]) (rest := [.ref h0]) gX4_statusOf_X4_cellPlace (by decide +kernel) rfl ⟨rfl, rfl⟩ ⟨Nat.le_of_ble_eq_true rfl, Nat.le_of_ble_eq_true rfl⟩ [] rfl (by decide) rfl (fun r4 => [(h0, .inr (4, [.ref h0_data])), (h0_data, .inl (cI, 124, .inl v0_data))]) (fun _ => rfl) (fun _ => rfl) rfl (Nat.le_of_ble_eq_true rfl) dX4_statusOf_4 hF (fun r4 hG => k_X4_cellPlace l D cI cZ x1 (0 : Int32) x2 hG) (fun r4 hF => ?_)
  refine V_ciVA (pc := 7) h (n := 1) (bytes := cX4_read) (maxL := 2) (As := [.int r4]) (rest := []) gX4_statusOf_X4_read (by decide +kernel) rfl rfl rfl rfl ⟨rfl, rfl⟩ ⟨Nat.le_of_ble_eq_true rfl, Nat.le_of_ble_eq_true rfl⟩ rfl rfl (Nat.le_of_ble_eq_true rfl) dX4_statusOf_7 hF (fun r7 hG => k_X4_read l D cI cZ h0 h0_data v0_data r4 hG) (fun r7 hF => ?_)
  have hF := Option.some.inj hF
  subst hF
  exact V_iret (pc := 10) h dX4_statusOf_10
set_option maxRecDepth 100000 in
theorem k_X4_statusOf (l : Launch) (D : va_G) (cI cZ : ClassId) (h0 h0_data : Nat) (v0_data : (Nat → Int32)) (x1 : Int32) (x2 : Int32) {o : Int32} (hF : fX4_statusOf v0_data x1 x2 = some o) : CI l yX4_statusOf wsX4_statusOf rmX4_statusOf D cI cZ [.ref h0, .int x1, .int x2] [(h0, .inr (4, [.ref h0_data])), (h0_data, .inl (cI, 124, .inl v0_data))] [(h0, .inr (4, [.ref h0_data])), (h0_data, .inl (cI, 124, .inl v0_data))] o :=
  CI_of (cc := cX4_statusOf) (nL := 3) (ret := (some .int)) (by decide) rfl (Nat.le_of_ble_eq_true rfl) rfl (fun p e s m args below meth c A h => tfX4_statusOf h hF)
/-! X0_add -/
abbrev rmX0_add : Room := { frames := 0, cells := 0, slots := 0, locals := 0 }
theorem uX0_add_inX0 : ∀ w ∈ wsX00, w ∈ wsX0_add := by decide +kernel
theorem uX0_add_f21 : Cond.fieldLink RX0 21 "LeafAsks$Leaves" "size" "I" ∈ wsX0_add := by decide +kernel
theorem uX0_add_f11 : Cond.fieldLink RX0 11 "LeafAsks$Leaves" "names" "[I" ∈ wsX0_add := by decide +kernel
theorem uX0_add_f15 : Cond.fieldLink RX0 15 "LeafAsks$Leaves" "values" "[I" ∈ wsX0_add := by decide +kernel
theorem uX0_add_f18 : Cond.fieldLink RX0 18 "LeafAsks$Leaves" "kinds" "[I" ∈ wsX0_add := by decide +kernel
noncomputable def fX0_add (x1 : Int32) (x2 : Int32) (x3 : Int32) (v0_size : Int32) (v0_names : (Nat → Int32)) (v0_values : (Nat → Int32)) (v0_kinds : (Nat → Int32)) : Option (Int32 × (Nat → Int32) × (Nat → Int32) × (Nat → Int32)) :=
  if v0_size < (0 : Int32) then some (v0_size, v0_names, v0_values, v0_kinds) else if v0_size < (80 : Int32) then gin v0_size 80 (gin v0_size 80 (gin v0_size 80 (bnd (v0_size + (1 : Int32)) (fun y54 => some ((y54, (upd v0_names v0_size.toNatClampNeg x1), (upd v0_values v0_size.toNatClampNeg x2), (upd v0_kinds v0_size.toNatClampNeg x3))))))) else some (v0_size, v0_names, v0_values, v0_kinds)
set_option maxRecDepth 100000 in
set_option maxHeartbeats 4000000 in
theorem tfX0_add {p : Program} {l : Launch} {e : Env} {s : State} {m : MethodId} {args : Array Value} {below : List Frame} {meth : Method} {c : Code} {A : Nat → Prop} {D : va_G} {cI cZ : ClassId} (h : Cx p s m args meth c A D cI cZ 4 cX0_add RX0 wsX0_add none) {h0 h0_names h0_values h0_kinds : Nat} {x1 : Int32} {x2 : Int32} {x3 : Int32} {v0_size : Int32} {v0_names : (Nat → Int32)} {v0_values : (Nat → Int32)} {v0_kinds : (Nat → Int32)} {o : Int32 × (Nat → Int32) × (Nat → Int32) × (Nat → Int32)} (hF : fX0_add x1 x2 x3 v0_size v0_names v0_values v0_kinds = some o) : V p l e rmX0_add s m args below meth c A D 4 (QV D [(h0, .inr (0, [.ref h0_names, .ref h0_values, .ref h0_kinds, .int o.1])), (h0_names, .inl (cI, 80, .inl o.2.1)), (h0_values, .inl (cI, 80, .inl o.2.2.1)), (h0_kinds, .inl (cI, 80, .inl o.2.2.2))] A below args s) [(h0, .inr (0, [.ref h0_names, .ref h0_values, .ref h0_kinds, .int v0_size])), (h0_names, .inl (cI, 80, .inl v0_names)), (h0_values, .inl (cI, 80, .inl v0_values)), (h0_kinds, .inl (cI, 80, .inl v0_kinds))] 0 [(0, .ref h0), (1, .int x1), (2, .int x2), (3, .int x3)] [] := by
  unfold fX0_add at hF
  refine V_aload_n (pc := 0) h 0 dX0_add_0 rfl ?_
  refine V_get (pc := 1) h uX0_add_inX0 0 3 rfl rfl (by decide) uX0_add_f21 rfl rfl dX0_add_1 ?_
  refine V_if_lt (pc := 4) h (tgt := 16) dX0_add_4 (by decide) hF (fun hF => ?_) (fun hF => ?_)
  · have hF := Option.some.inj hF
    subst hF
    exact V_vret (pc := 16) h dX0_add_16
  · refine V_aload_n (pc := 7) h 0 dX0_add_7 rfl ?_
    refine V_get (pc := 8) h uX0_add_inX0 0 3 rfl rfl (by decide) uX0_add_f21 rfl rfl dX0_add_8 ?_
    refine V_bipush (pc := 11) h (v := (80 : Int32)) dX0_add_11 (by decide) ?_
    refine V_icmp_lt (pc := 13) h (tgt := 17) dX0_add_13 (by decide) hF (fun hF => ?_) (fun hF => ?_)
    · refine V_aload_n (pc := 17) h 0 dX0_add_17 rfl ?_
      refine V_get (pc := 18) h uX0_add_inX0 0 0 rfl rfl (by decide) uX0_add_f11 rfl rfl dX0_add_18 ?_
      refine V_aload_n (pc := 21) h 0 dX0_add_21 rfl ?_
      refine V_get (pc := 22) h uX0_add_inX0 0 3 rfl rfl (by decide) uX0_add_f21 rfl rfl dX0_add_22 ?_
      refine V_iload_n (pc := 25) h 1 dX0_add_25 rfl ?_
      refine V_iast (pc := 26) h 1 rfl [(h0, .inr (0, [.ref h0_names, .ref h0_values, .ref h0_kinds, .int v0_size])), (h0_names, .inl (cI, 80, .inl (upd v0_names v0_size.toNatClampNeg x1))), (h0_values, .inl (cI, 80, .inl v0_values)), (h0_kinds, .inl (cI, 80, .inl v0_kinds))] rfl dX0_add_26 hF (fun hF => ?_)
      refine V_aload_n (pc := 27) h 0 dX0_add_27 rfl ?_
      refine V_get (pc := 28) h uX0_add_inX0 0 1 rfl rfl (by decide) uX0_add_f15 rfl rfl dX0_add_28 ?_
      refine V_aload_n (pc := 31) h 0 dX0_add_31 rfl ?_
      refine V_get (pc := 32) h uX0_add_inX0 0 3 rfl rfl (by decide) uX0_add_f21 rfl rfl dX0_add_32 ?_
      refine V_iload_n (pc := 35) h 2 dX0_add_35 rfl ?_
      refine V_iast (pc := 36) h 2 rfl [(h0, .inr (0, [.ref h0_names, .ref h0_values, .ref h0_kinds, .int v0_size])), (h0_names, .inl (cI, 80, .inl (upd v0_names v0_size.toNatClampNeg x1))), (h0_values, .inl (cI, 80, .inl (upd v0_values v0_size.toNatClampNeg x2))), (h0_kinds, .inl (cI, 80, .inl v0_kinds))] rfl dX0_add_36 hF (fun hF => ?_)
      refine V_aload_n (pc := 37) h 0 dX0_add_37 rfl ?_
      refine V_get (pc := 38) h uX0_add_inX0 0 2 rfl rfl (by decide) uX0_add_f18 rfl rfl dX0_add_38 ?_
      refine V_aload_n (pc := 41) h 0 dX0_add_41 rfl ?_
      refine V_get (pc := 42) h uX0_add_inX0 0 3 rfl rfl (by decide) uX0_add_f21 rfl rfl dX0_add_42 ?_
      refine V_iload_n (pc := 45) h 3 dX0_add_45 rfl ?_
      refine V_iast (pc := 46) h 3 rfl [(h0, .inr (0, [.ref h0_names, .ref h0_values, .ref h0_kinds, .int v0_size])), (h0_names, .inl (cI, 80, .inl (upd v0_names v0_size.toNatClampNeg x1))), (h0_values, .inl (cI, 80, .inl (upd v0_values v0_size.toNatClampNeg x2))), (h0_kinds, .inl (cI, 80, .inl (upd v0_kinds v0_size.toNatClampNeg x3)))] rfl dX0_add_46 hF (fun hF => ?_)
      refine V_aload_n (pc := 47) h 0 dX0_add_47 rfl ?_
      refine V_dup (pc := 48) h dX0_add_48 rfl ?_
      refine V_get (pc := 49) h uX0_add_inX0 0 3 rfl rfl (by decide) uX0_add_f21 rfl rfl dX0_add_49 ?_
      refine V_iconst (pc := 52) h (v := (1 : Int32)) dX0_add_52 (by decide) ?_
      refine V_iadd (pc := 53) h dX0_add_53 ?_
      refine V_bnd hF (fun y54 hF => ?_)
      refine V_put (pc := 54) h uX0_add_inX0 tyX0 tyX0_ok nmX0 0 3 rfl rfl (by decide) uX0_add_f21 rfl rfl (by decide +kernel) (Nat.le_of_ble_eq_true rfl) [(h0, .inr (0, [.ref h0_names, .ref h0_values, .ref h0_kinds, .int y54])), (h0_names, .inl (cI, 80, .inl (upd v0_names v0_size.toNatClampNeg x1))), (h0_values, .inl (cI, 80, .inl (upd v0_values v0_size.toNatClampNeg x2))), (h0_kinds, .inl (cI, 80, .inl (upd v0_kinds v0_size.toNatClampNeg x3)))] rfl dX0_add_54 ?_
      have hF := Option.some.inj hF
      subst hF
      exact V_vret (pc := 57) h dX0_add_57
    · have hF := Option.some.inj hF
      subst hF
      exact V_vret (pc := 16) h dX0_add_16
set_option maxRecDepth 100000 in
theorem k_X0_add (l : Launch) (D : va_G) (cI cZ : ClassId) (h0 h0_names h0_values h0_kinds : Nat) (v0_size : Int32) (v0_names : (Nat → Int32)) (v0_values : (Nat → Int32)) (v0_kinds : (Nat → Int32)) (x1 : Int32) (x2 : Int32) (x3 : Int32) {o : Int32 × (Nat → Int32) × (Nat → Int32) × (Nat → Int32)} (hF : fX0_add x1 x2 x3 v0_size v0_names v0_values v0_kinds = some o) : CV l yX0_add wsX0_add rmX0_add D cI cZ [.ref h0, .int x1, .int x2, .int x3] [(h0, .inr (0, [.ref h0_names, .ref h0_values, .ref h0_kinds, .int v0_size])), (h0_names, .inl (cI, 80, .inl v0_names)), (h0_values, .inl (cI, 80, .inl v0_values)), (h0_kinds, .inl (cI, 80, .inl v0_kinds))] [(h0, .inr (0, [.ref h0_names, .ref h0_values, .ref h0_kinds, .int o.1])), (h0_names, .inl (cI, 80, .inl o.2.1)), (h0_values, .inl (cI, 80, .inl o.2.2.1)), (h0_kinds, .inl (cI, 80, .inl o.2.2.2))] :=
  CV_of (cc := cX0_add) (nL := 4) (ret := none) (by decide) rfl (Nat.le_of_ble_eq_true rfl) rfl (fun p e s m args below meth c A h => tfX0_add h hF)
/-! X4_cell -/
abbrev rmX4_cell : Room := { frames := 1, cells := 0, slots := 0, locals := 22 }
noncomputable def fX4_cell (v0_data : (Nat → Int32)) (x1 : Int32) (x2 : Int32) (x3 : Int32) : Option (Int32) :=
  bd (fX4_cellPlace x1 x2 x3) (fun r4 => bd (fX4_read v0_data r4) (fun r7 => some ((r7 - (1 : Int32)))))
set_option maxRecDepth 100000 in
set_option maxHeartbeats 4000000 in
theorem tfX4_cell {p : Program} {l : Launch} {e : Env} {s : State} {m : MethodId} {args : Array Value} {below : List Frame} {meth : Method} {c : Code} {A : Nat → Prop} {D : va_G} {cI cZ : ClassId} (h : Cx p s m args meth c A D cI cZ 4 cX4_cell RX4 wsX4_cell (some .int)) {h0 h0_data : Nat} {x1 : Int32} {x2 : Int32} {x3 : Int32} {v0_data : (Nat → Int32)} {o : Int32} (hF : fX4_cell v0_data x1 x2 x3 = some o) : V p l e rmX4_cell s m args below meth c A D 4 (QI D [(h0, .inr (4, [.ref h0_data])), (h0_data, .inl (cI, 124, .inl v0_data))] o A below args s) [(h0, .inr (4, [.ref h0_data])), (h0_data, .inl (cI, 124, .inl v0_data))] 0 [(0, .ref h0), (1, .int x1), (2, .int x2), (3, .int x3)] [] := by
  unfold fX4_cell at hF
  refine V_aload_n (pc := 0) h 0 dX4_cell_0 rfl ?_
  refine V_iload_n (pc := 1) h 1 dX4_cell_1 rfl ?_
  refine V_iload_n (pc := 2) h 2 dX4_cell_2 rfl ?_
  refine V_iload_n (pc := 3) h 3 dX4_cell_3 rfl ?_
  refine V_ciS (pc := 4) h (n := 3) (bytes := cX4_cellPlace) (maxL := 3) (As := [.int x1, .int x2, .int x3]) (rest := [.ref h0]) gX4_cell_X4_cellPlace (by decide +kernel) rfl ⟨rfl, rfl⟩ ⟨Nat.le_of_ble_eq_true rfl, Nat.le_of_ble_eq_true rfl⟩ [] rfl (by decide) rfl (fun r4 => [(h0, .inr (4, [.ref h0_data])), (h0_data, .inl (cI, 124, .inl v0_data))]) (fun _ => rfl) (fun _ => rfl) rfl (Nat.le_of_ble_eq_true rfl) dX4_cell_4 hF (fun r4 hG => k_X4_cellPlace l D cI cZ x1 x2 x3 hG) (fun r4 hF => ?_)
  refine V_ciVA (pc := 7) h (n := 1) (bytes := cX4_read) (maxL := 2) (As := [.int r4]) (rest := []) gX4_cell_X4_read (by decide +kernel) rfl rfl rfl rfl ⟨rfl, rfl⟩ ⟨Nat.le_of_ble_eq_true rfl, Nat.le_of_ble_eq_true rfl⟩ rfl rfl (Nat.le_of_ble_eq_true rfl) dX4_cell_7 hF (fun r7 hG => k_X4_read l D cI cZ h0 h0_data v0_data r4 hG) (fun r7 hF => ?_)
  refine V_iconst (pc := 10) h (v := (1 : Int32)) dX4_cell_10 (by decide) ?_
  refine V_isub (pc := 11) h dX4_cell_11 ?_
  have hF := Option.some.inj hF
  subst hF
  exact V_iret (pc := 12) h dX4_cell_12
set_option maxRecDepth 100000 in
theorem k_X4_cell (l : Launch) (D : va_G) (cI cZ : ClassId) (h0 h0_data : Nat) (v0_data : (Nat → Int32)) (x1 : Int32) (x2 : Int32) (x3 : Int32) {o : Int32} (hF : fX4_cell v0_data x1 x2 x3 = some o) : CI l yX4_cell wsX4_cell rmX4_cell D cI cZ [.ref h0, .int x1, .int x2, .int x3] [(h0, .inr (4, [.ref h0_data])), (h0_data, .inl (cI, 124, .inl v0_data))] [(h0, .inr (4, [.ref h0_data])), (h0_data, .inl (cI, 124, .inl v0_data))] o :=
  CI_of (cc := cX4_cell) (nL := 4) (ret := (some .int)) (by decide) rfl (Nat.le_of_ble_eq_true rfl) rfl (fun p e s m args below meth c A h => tfX4_cell h hF)
/-! X0_listCells -/
abbrev rmX0_listCells : Room := { frames := 2, cells := 0, slots := 0, locals := 45 }
noncomputable def fX0_listCells_b18 (v4_data : (Nat → Int32)) (x1 : Int32) (x2 : Int32) (x3 : Int32) (k3 : Int32 → (Nat → Int32) → (Nat → Int32) → (Nat → Int32) → Int32 → Option (Int32 × (Nat → Int32) × (Nat → Int32) × (Nat → Int32))) (k18 : Int32 → (Nat → Int32) → (Nat → Int32) → (Nat → Int32) → Int32 → Int32 → Option (Int32 × (Nat → Int32) × (Nat → Int32) × (Nat → Int32))) (v0_size : Int32) (v0_names : (Nat → Int32)) (v0_values : (Nat → Int32)) (v0_kinds : (Nat → Int32)) (x5 : Int32) (x6 : Int32) : Option (Int32 × (Nat → Int32) × (Nat → Int32) × (Nat → Int32)) :=
  if (9 : Int32) < x6 then bnd (x5 + (1 : Int32)) (fun x5_99 => k3 v0_size v0_names v0_values v0_kinds x5_99) else bd (fX4_isLeaf v4_data x2 x5 x6) (fun r32 => if r32 = (0 : Int32) then bnd (x6 + (1 : Int32)) (fun x6_93 => k18 v0_size v0_names v0_values v0_kinds x5 x6_93) else if x5 = (0 : Int32) then bd (fX0_behind x1 x5 x6) (fun r52 => bd (fX4_statusOf v4_data x2 x6) (fun r60 => bd (fX0_add r52 r60 (2 : Int32) v0_size v0_names v0_values v0_kinds) (fun r64 => bnd (x6 + (1 : Int32)) (fun x6_93 => k18 r64.1 r64.2.1 r64.2.2.1 r64.2.2.2 x5 x6_93)))) else bd (fX0_behind x1 x5 x6) (fun r76 => bd (fX4_cell v4_data x2 x5 x6) (fun r86 => bd (fX0_add r76 r86 (3 : Int32) v0_size v0_names v0_values v0_kinds) (fun r90 => bnd (x6 + (1 : Int32)) (fun x6_93 => k18 r90.1 r90.2.1 r90.2.2.1 r90.2.2.2 x5 x6_93)))))
set_option maxRecDepth 100000 in
set_option maxHeartbeats 4000000 in
theorem tfX0_listCells_b18 {p : Program} {l : Launch} {e : Env} {s : State} {m : MethodId} {args : Array Value} {below : List Frame} {meth : Method} {c : Code} {A : Nat → Prop} {D : va_G} {cI cZ : ClassId} (h : Cx p s m args meth c A D cI cZ 7 cX0_listCells RX0 wsX0_listCells none) {h0 h0_names h0_values h0_kinds h4 h4_data : Nat} {x1 : Int32} {x2 : Int32} {x3 : Int32} {v4_data : (Nat → Int32)} {k3 : Int32 → (Nat → Int32) → (Nat → Int32) → (Nat → Int32) → Int32 → Option (Int32 × (Nat → Int32) × (Nat → Int32) × (Nat → Int32))} {k18 : Int32 → (Nat → Int32) → (Nat → Int32) → (Nat → Int32) → Int32 → Int32 → Option (Int32 × (Nat → Int32) × (Nat → Int32) × (Nat → Int32))} {v0_size : Int32} {v0_names : (Nat → Int32)} {v0_values : (Nat → Int32)} {v0_kinds : (Nat → Int32)} {x5 : Int32} {x6 : Int32} {o : Int32 × (Nat → Int32) × (Nat → Int32) × (Nat → Int32)} (hk3 : ∀ (v0_size : Int32) (v0_names : (Nat → Int32)) (v0_values : (Nat → Int32)) (v0_kinds : (Nat → Int32)) (x5 : Int32), k3 v0_size v0_names v0_values v0_kinds x5 = some o → V p l e rmX0_listCells s m args below meth c A D 7 (QV D [(h0, .inr (0, [.ref h0_names, .ref h0_values, .ref h0_kinds, .int o.1])), (h0_names, .inl (cI, 80, .inl o.2.1)), (h0_values, .inl (cI, 80, .inl o.2.2.1)), (h0_kinds, .inl (cI, 80, .inl o.2.2.2)), (h4, .inr (4, [.ref h4_data])), (h4_data, .inl (cI, 124, .inl v4_data))] A below args s) [(h0, .inr (0, [.ref h0_names, .ref h0_values, .ref h0_kinds, .int v0_size])), (h0_names, .inl (cI, 80, .inl v0_names)), (h0_values, .inl (cI, 80, .inl v0_values)), (h0_kinds, .inl (cI, 80, .inl v0_kinds)), (h4, .inr (4, [.ref h4_data])), (h4_data, .inl (cI, 124, .inl v4_data))] 3 [(0, .ref h0), (1, .int x1), (2, .int x2), (3, .int x3), (4, .ref h4), (5, .int x5)] []) (hk18 : ∀ (v0_size : Int32) (v0_names : (Nat → Int32)) (v0_values : (Nat → Int32)) (v0_kinds : (Nat → Int32)) (x5 : Int32) (x6 : Int32), k18 v0_size v0_names v0_values v0_kinds x5 x6 = some o → V p l e rmX0_listCells s m args below meth c A D 7 (QV D [(h0, .inr (0, [.ref h0_names, .ref h0_values, .ref h0_kinds, .int o.1])), (h0_names, .inl (cI, 80, .inl o.2.1)), (h0_values, .inl (cI, 80, .inl o.2.2.1)), (h0_kinds, .inl (cI, 80, .inl o.2.2.2)), (h4, .inr (4, [.ref h4_data])), (h4_data, .inl (cI, 124, .inl v4_data))] A below args s) [(h0, .inr (0, [.ref h0_names, .ref h0_values, .ref h0_kinds, .int v0_size])), (h0_names, .inl (cI, 80, .inl v0_names)), (h0_values, .inl (cI, 80, .inl v0_values)), (h0_kinds, .inl (cI, 80, .inl v0_kinds)), (h4, .inr (4, [.ref h4_data])), (h4_data, .inl (cI, 124, .inl v4_data))] 18 [(0, .ref h0), (1, .int x1), (2, .int x2), (3, .int x3), (4, .ref h4), (5, .int x5), (6, .int x6)] []) (hF : fX0_listCells_b18 v4_data x1 x2 x3 k3 k18 v0_size v0_names v0_values v0_kinds x5 x6 = some o) : V p l e rmX0_listCells s m args below meth c A D 7 (QV D [(h0, .inr (0, [.ref h0_names, .ref h0_values, .ref h0_kinds, .int o.1])), (h0_names, .inl (cI, 80, .inl o.2.1)), (h0_values, .inl (cI, 80, .inl o.2.2.1)), (h0_kinds, .inl (cI, 80, .inl o.2.2.2)), (h4, .inr (4, [.ref h4_data])), (h4_data, .inl (cI, 124, .inl v4_data))] A below args s) [(h0, .inr (0, [.ref h0_names, .ref h0_values, .ref h0_kinds, .int v0_size])), (h0_names, .inl (cI, 80, .inl v0_names)), (h0_values, .inl (cI, 80, .inl v0_values)), (h0_kinds, .inl (cI, 80, .inl v0_kinds)), (h4, .inr (4, [.ref h4_data])), (h4_data, .inl (cI, 124, .inl v4_data))] 18 [(0, .ref h0), (1, .int x1), (2, .int x2), (3, .int x3), (4, .ref h4), (5, .int x5), (6, .int x6)] [] := by
  unfold fX0_listCells_b18 at hF
  refine V_iload (pc := 18) h 6 dX0_listCells_18 rfl ?_
  refine V_bipush (pc := 20) h (v := (9 : Int32)) dX0_listCells_20 (by decide) ?_
  refine V_icmp_gt (pc := 22) h (tgt := 99) dX0_listCells_22 (by decide) hF (fun hF => ?_) (fun hF => ?_)
  · refine V_iinc (pc := 99) h 5 (fun x5_99 => [(5, .int x5_99), (0, .ref h0), (1, .int x1), (2, .int x2), (3, .int x3), (4, .ref h4), (6, .int x6)]) dX0_listCells_99 rfl rfl (by decide) (fun _ => rfl) hF (fun x5_99 hF => ?_)
    refine V_goto (pc := 102) h (tgt := 3) dX0_listCells_102 (by decide) ?_
    refine V_lv [1, 2, 3, 4, 5, 0] [(0, .ref h0), (1, .int x1), (2, .int x2), (3, .int x3), (4, .ref h4), (5, .int x5_99)] rfl ?_
    exact hk3 _ _ _ _ _ hF
  · refine V_aload (pc := 25) h 4 dX0_listCells_25 rfl ?_
    refine V_iload_n (pc := 27) h 2 dX0_listCells_27 rfl ?_
    refine V_iload (pc := 28) h 5 dX0_listCells_28 rfl ?_
    refine V_iload (pc := 30) h 6 dX0_listCells_30 rfl ?_
    refine V_ciV (pc := 32) h (n := 3) (bytes := cX4_isLeaf) (maxL := 4) (As := [.int x2, .int x5, .int x6]) (rest := []) gX0_listCells_X4_isLeaf (by decide +kernel) rfl rfl rfl rfl ⟨rfl, rfl⟩ ⟨Nat.le_of_ble_eq_true rfl, Nat.le_of_ble_eq_true rfl⟩ [4, 5] rfl (by decide) rfl (fun r32 => [(h0, .inr (0, [.ref h0_names, .ref h0_values, .ref h0_kinds, .int v0_size])), (h0_names, .inl (cI, 80, .inl v0_names)), (h0_values, .inl (cI, 80, .inl v0_values)), (h0_kinds, .inl (cI, 80, .inl v0_kinds)), (h4, .inr (4, [.ref h4_data])), (h4_data, .inl (cI, 124, .inl v4_data))]) (fun _ => rfl) (fun _ => rfl) rfl (Nat.le_of_ble_eq_true rfl) dX0_listCells_32 hF (fun r32 hG => k_X4_isLeaf l D cI cZ h4 h4_data v4_data x2 x5 x6 hG) (fun r32 hF => ?_)
    refine V_if_ne (pc := 35) h (tgt := 41) dX0_listCells_35 (by decide) hF (fun hF => ?_) (fun hF => ?_)
    · refine V_iload (pc := 41) h 5 dX0_listCells_41 rfl ?_
      refine V_if_ne (pc := 43) h (tgt := 70) dX0_listCells_43 (by decide) hF (fun hF => ?_) (fun hF => ?_)
      · refine V_aload_n (pc := 70) h 0 dX0_listCells_70 rfl ?_
        refine V_iload_n (pc := 71) h 1 dX0_listCells_71 rfl ?_
        refine V_iload (pc := 72) h 5 dX0_listCells_72 rfl ?_
        refine V_iload (pc := 74) h 6 dX0_listCells_74 rfl ?_
        refine V_ciS (pc := 76) h (n := 3) (bytes := cX0_behind) (maxL := 3) (As := [.int x1, .int x5, .int x6]) (rest := [.ref h0]) gX0_listCells_X0_behind (by decide +kernel) rfl ⟨rfl, rfl⟩ ⟨Nat.le_of_ble_eq_true rfl, Nat.le_of_ble_eq_true rfl⟩ [] rfl (by decide) rfl (fun r76 => [(h0, .inr (0, [.ref h0_names, .ref h0_values, .ref h0_kinds, .int v0_size])), (h0_names, .inl (cI, 80, .inl v0_names)), (h0_values, .inl (cI, 80, .inl v0_values)), (h0_kinds, .inl (cI, 80, .inl v0_kinds)), (h4, .inr (4, [.ref h4_data])), (h4_data, .inl (cI, 124, .inl v4_data))]) (fun _ => rfl) (fun _ => rfl) rfl (Nat.le_of_ble_eq_true rfl) dX0_listCells_76 hF (fun r76 hG => k_X0_behind l D cI cZ x1 x5 x6 hG) (fun r76 hF => ?_)
        refine V_aload (pc := 79) h 4 dX0_listCells_79 rfl ?_
        refine V_iload_n (pc := 81) h 2 dX0_listCells_81 rfl ?_
        refine V_iload (pc := 82) h 5 dX0_listCells_82 rfl ?_
        refine V_iload (pc := 84) h 6 dX0_listCells_84 rfl ?_
        refine V_ciV (pc := 86) h (n := 3) (bytes := cX4_cell) (maxL := 4) (As := [.int x2, .int x5, .int x6]) (rest := [.int r76, .ref h0]) gX0_listCells_X4_cell (by decide +kernel) rfl rfl rfl rfl ⟨rfl, rfl⟩ ⟨Nat.le_of_ble_eq_true rfl, Nat.le_of_ble_eq_true rfl⟩ [4, 5] rfl (by decide) rfl (fun r86 => [(h0, .inr (0, [.ref h0_names, .ref h0_values, .ref h0_kinds, .int v0_size])), (h0_names, .inl (cI, 80, .inl v0_names)), (h0_values, .inl (cI, 80, .inl v0_values)), (h0_kinds, .inl (cI, 80, .inl v0_kinds)), (h4, .inr (4, [.ref h4_data])), (h4_data, .inl (cI, 124, .inl v4_data))]) (fun _ => rfl) (fun _ => rfl) rfl (Nat.le_of_ble_eq_true rfl) dX0_listCells_86 hF (fun r86 hG => k_X4_cell l D cI cZ h4 h4_data v4_data x2 x5 x6 hG) (fun r86 hF => ?_)
        refine V_iconst (pc := 89) h (v := (3 : Int32)) dX0_listCells_89 (by decide) ?_
        refine V_cvV (pc := 90) h (n := 3) (bytes := cX0_add) (maxL := 4) (As := [.int r76, .int r86, .int (3 : Int32)]) (rest := []) gX0_listCells_X0_add (by decide +kernel) rfl rfl rfl rfl ⟨rfl, rfl⟩ ⟨Nat.le_of_ble_eq_true rfl, Nat.le_of_ble_eq_true rfl⟩ [0, 1, 2, 3] rfl (by decide) rfl (fun r90 => [(h0, .inr (0, [.ref h0_names, .ref h0_values, .ref h0_kinds, .int r90.1])), (h0_names, .inl (cI, 80, .inl r90.2.1)), (h0_values, .inl (cI, 80, .inl r90.2.2.1)), (h0_kinds, .inl (cI, 80, .inl r90.2.2.2)), (h4, .inr (4, [.ref h4_data])), (h4_data, .inl (cI, 124, .inl v4_data))]) (fun _ => rfl) (fun _ => rfl) rfl (Nat.le_of_ble_eq_true rfl) dX0_listCells_90 hF (fun r90 hG => k_X0_add l D cI cZ h0 h0_names h0_values h0_kinds v0_size v0_names v0_values v0_kinds r76 r86 (3 : Int32) hG) (fun r90 hF => ?_)
        refine V_iinc (pc := 93) h 6 (fun x6_93 => [(6, .int x6_93), (0, .ref h0), (1, .int x1), (2, .int x2), (3, .int x3), (4, .ref h4), (5, .int x5)]) dX0_listCells_93 rfl rfl (by decide) (fun _ => rfl) hF (fun x6_93 hF => ?_)
        refine V_goto (pc := 96) h (tgt := 18) dX0_listCells_96 (by decide) ?_
        refine V_lv [1, 2, 3, 4, 5, 6, 0] [(0, .ref h0), (1, .int x1), (2, .int x2), (3, .int x3), (4, .ref h4), (5, .int x5), (6, .int x6_93)] rfl ?_
        exact hk18 _ _ _ _ _ _ hF
      · refine V_aload_n (pc := 46) h 0 dX0_listCells_46 rfl ?_
        refine V_iload_n (pc := 47) h 1 dX0_listCells_47 rfl ?_
        refine V_iload (pc := 48) h 5 dX0_listCells_48 rfl ?_
        refine V_iload (pc := 50) h 6 dX0_listCells_50 rfl ?_
        refine V_ciS (pc := 52) h (n := 3) (bytes := cX0_behind) (maxL := 3) (As := [.int x1, .int x5, .int x6]) (rest := [.ref h0]) gX0_listCells_X0_behind (by decide +kernel) rfl ⟨rfl, rfl⟩ ⟨Nat.le_of_ble_eq_true rfl, Nat.le_of_ble_eq_true rfl⟩ [] rfl (by decide) rfl (fun r52 => [(h0, .inr (0, [.ref h0_names, .ref h0_values, .ref h0_kinds, .int v0_size])), (h0_names, .inl (cI, 80, .inl v0_names)), (h0_values, .inl (cI, 80, .inl v0_values)), (h0_kinds, .inl (cI, 80, .inl v0_kinds)), (h4, .inr (4, [.ref h4_data])), (h4_data, .inl (cI, 124, .inl v4_data))]) (fun _ => rfl) (fun _ => rfl) rfl (Nat.le_of_ble_eq_true rfl) dX0_listCells_52 hF (fun r52 hG => k_X0_behind l D cI cZ x1 x5 x6 hG) (fun r52 hF => ?_)
        refine V_aload (pc := 55) h 4 dX0_listCells_55 rfl ?_
        refine V_iload_n (pc := 57) h 2 dX0_listCells_57 rfl ?_
        refine V_iload (pc := 58) h 6 dX0_listCells_58 rfl ?_
        refine V_ciV (pc := 60) h (n := 2) (bytes := cX4_statusOf) (maxL := 3) (As := [.int x2, .int x6]) (rest := [.int r52, .ref h0]) gX0_listCells_X4_statusOf (by decide +kernel) rfl rfl rfl rfl ⟨rfl, rfl⟩ ⟨Nat.le_of_ble_eq_true rfl, Nat.le_of_ble_eq_true rfl⟩ [4, 5] rfl (by decide) rfl (fun r60 => [(h0, .inr (0, [.ref h0_names, .ref h0_values, .ref h0_kinds, .int v0_size])), (h0_names, .inl (cI, 80, .inl v0_names)), (h0_values, .inl (cI, 80, .inl v0_values)), (h0_kinds, .inl (cI, 80, .inl v0_kinds)), (h4, .inr (4, [.ref h4_data])), (h4_data, .inl (cI, 124, .inl v4_data))]) (fun _ => rfl) (fun _ => rfl) rfl (Nat.le_of_ble_eq_true rfl) dX0_listCells_60 hF (fun r60 hG => k_X4_statusOf l D cI cZ h4 h4_data v4_data x2 x6 hG) (fun r60 hF => ?_)
        refine V_iconst (pc := 63) h (v := (2 : Int32)) dX0_listCells_63 (by decide) ?_
        refine V_cvV (pc := 64) h (n := 3) (bytes := cX0_add) (maxL := 4) (As := [.int r52, .int r60, .int (2 : Int32)]) (rest := []) gX0_listCells_X0_add (by decide +kernel) rfl rfl rfl rfl ⟨rfl, rfl⟩ ⟨Nat.le_of_ble_eq_true rfl, Nat.le_of_ble_eq_true rfl⟩ [0, 1, 2, 3] rfl (by decide) rfl (fun r64 => [(h0, .inr (0, [.ref h0_names, .ref h0_values, .ref h0_kinds, .int r64.1])), (h0_names, .inl (cI, 80, .inl r64.2.1)), (h0_values, .inl (cI, 80, .inl r64.2.2.1)), (h0_kinds, .inl (cI, 80, .inl r64.2.2.2)), (h4, .inr (4, [.ref h4_data])), (h4_data, .inl (cI, 124, .inl v4_data))]) (fun _ => rfl) (fun _ => rfl) rfl (Nat.le_of_ble_eq_true rfl) dX0_listCells_64 hF (fun r64 hG => k_X0_add l D cI cZ h0 h0_names h0_values h0_kinds v0_size v0_names v0_values v0_kinds r52 r60 (2 : Int32) hG) (fun r64 hF => ?_)
        refine V_goto (pc := 67) h (tgt := 93) dX0_listCells_67 (by decide) ?_
        refine V_iinc (pc := 93) h 6 (fun x6_93 => [(6, .int x6_93), (0, .ref h0), (1, .int x1), (2, .int x2), (3, .int x3), (4, .ref h4), (5, .int x5)]) dX0_listCells_93 rfl rfl (by decide) (fun _ => rfl) hF (fun x6_93 hF => ?_)
        refine V_goto (pc := 96) h (tgt := 18) dX0_listCells_96 (by decide) ?_
        refine V_lv [1, 2, 3, 4, 5, 6, 0] [(0, .ref h0), (1, .int x1), (2, .int x2), (3, .int x3), (4, .ref h4), (5, .int x5), (6, .int x6_93)] rfl ?_
        exact hk18 _ _ _ _ _ _ hF
    · refine V_goto (pc := 38) h (tgt := 93) dX0_listCells_38 (by decide) ?_
      refine V_iinc (pc := 93) h 6 (fun x6_93 => [(6, .int x6_93), (0, .ref h0), (1, .int x1), (2, .int x2), (3, .int x3), (4, .ref h4), (5, .int x5)]) dX0_listCells_93 rfl rfl (by decide) (fun _ => rfl) hF (fun x6_93 hF => ?_)
      refine V_goto (pc := 96) h (tgt := 18) dX0_listCells_96 (by decide) ?_
      refine V_lv [1, 2, 3, 4, 5, 6, 0] [(0, .ref h0), (1, .int x1), (2, .int x2), (3, .int x3), (4, .ref h4), (5, .int x5), (6, .int x6_93)] rfl ?_
      exact hk18 _ _ _ _ _ _ hF
noncomputable def fX0_listCells_l18 (v4_data : (Nat → Int32)) (x1 : Int32) (x2 : Int32) (x3 : Int32) (k3 : Int32 → (Nat → Int32) → (Nat → Int32) → (Nat → Int32) → Int32 → Option (Int32 × (Nat → Int32) × (Nat → Int32) × (Nat → Int32))) (n : Nat) : Int32 → (Nat → Int32) → (Nat → Int32) → (Nat → Int32) → Int32 → Int32 → Option (Int32 × (Nat → Int32) × (Nat → Int32) × (Nat → Int32)) :=
  Nat.rec (motive := fun _ => Int32 → (Nat → Int32) → (Nat → Int32) → (Nat → Int32) → Int32 → Int32 → Option (Int32 × (Nat → Int32) × (Nat → Int32) × (Nat → Int32))) (fun _ _ _ _ _ _ => none) (fun _ ih => fX0_listCells_b18 v4_data x1 x2 x3 k3 ih) n
theorem fX0_listCells_l18_s (v4_data : (Nat → Int32)) (x1 : Int32) (x2 : Int32) (x3 : Int32) (k3 : Int32 → (Nat → Int32) → (Nat → Int32) → (Nat → Int32) → Int32 → Option (Int32 × (Nat → Int32) × (Nat → Int32) × (Nat → Int32))) (n : Nat) (v0_size : Int32) (v0_names : (Nat → Int32)) (v0_values : (Nat → Int32)) (v0_kinds : (Nat → Int32)) (x5 : Int32) (x6 : Int32) : fX0_listCells_l18 v4_data x1 x2 x3 k3 (n + 1) v0_size v0_names v0_values v0_kinds x5 x6 = fX0_listCells_b18 v4_data x1 x2 x3 k3 (fX0_listCells_l18 v4_data x1 x2 x3 k3 n) v0_size v0_names v0_values v0_kinds x5 x6 := rfl
set_option maxRecDepth 100000 in
set_option maxHeartbeats 4000000 in
theorem tfX0_listCells_l18 {p : Program} {l : Launch} {e : Env} {s : State} {m : MethodId} {args : Array Value} {below : List Frame} {meth : Method} {c : Code} {A : Nat → Prop} {D : va_G} {cI cZ : ClassId} (h : Cx p s m args meth c A D cI cZ 7 cX0_listCells RX0 wsX0_listCells none) {h0 h0_names h0_values h0_kinds h4 h4_data : Nat} {x1 : Int32} {x2 : Int32} {x3 : Int32} {v4_data : (Nat → Int32)} {k3 : Int32 → (Nat → Int32) → (Nat → Int32) → (Nat → Int32) → Int32 → Option (Int32 × (Nat → Int32) × (Nat → Int32) × (Nat → Int32))} {o : Int32 × (Nat → Int32) × (Nat → Int32) × (Nat → Int32)} (hk3 : ∀ (v0_size : Int32) (v0_names : (Nat → Int32)) (v0_values : (Nat → Int32)) (v0_kinds : (Nat → Int32)) (x5 : Int32), k3 v0_size v0_names v0_values v0_kinds x5 = some o → V p l e rmX0_listCells s m args below meth c A D 7 (QV D [(h0, .inr (0, [.ref h0_names, .ref h0_values, .ref h0_kinds, .int o.1])), (h0_names, .inl (cI, 80, .inl o.2.1)), (h0_values, .inl (cI, 80, .inl o.2.2.1)), (h0_kinds, .inl (cI, 80, .inl o.2.2.2)), (h4, .inr (4, [.ref h4_data])), (h4_data, .inl (cI, 124, .inl v4_data))] A below args s) [(h0, .inr (0, [.ref h0_names, .ref h0_values, .ref h0_kinds, .int v0_size])), (h0_names, .inl (cI, 80, .inl v0_names)), (h0_values, .inl (cI, 80, .inl v0_values)), (h0_kinds, .inl (cI, 80, .inl v0_kinds)), (h4, .inr (4, [.ref h4_data])), (h4_data, .inl (cI, 124, .inl v4_data))] 3 [(0, .ref h0), (1, .int x1), (2, .int x2), (3, .int x3), (4, .ref h4), (5, .int x5)] []) (n : Nat) : ∀ (v0_size : Int32) (v0_names : (Nat → Int32)) (v0_values : (Nat → Int32)) (v0_kinds : (Nat → Int32)) (x5 : Int32) (x6 : Int32) (hF : fX0_listCells_l18 v4_data x1 x2 x3 k3 n v0_size v0_names v0_values v0_kinds x5 x6 = some o), V p l e rmX0_listCells s m args below meth c A D 7 (QV D [(h0, .inr (0, [.ref h0_names, .ref h0_values, .ref h0_kinds, .int o.1])), (h0_names, .inl (cI, 80, .inl o.2.1)), (h0_values, .inl (cI, 80, .inl o.2.2.1)), (h0_kinds, .inl (cI, 80, .inl o.2.2.2)), (h4, .inr (4, [.ref h4_data])), (h4_data, .inl (cI, 124, .inl v4_data))] A below args s) [(h0, .inr (0, [.ref h0_names, .ref h0_values, .ref h0_kinds, .int v0_size])), (h0_names, .inl (cI, 80, .inl v0_names)), (h0_values, .inl (cI, 80, .inl v0_values)), (h0_kinds, .inl (cI, 80, .inl v0_kinds)), (h4, .inr (4, [.ref h4_data])), (h4_data, .inl (cI, 124, .inl v4_data))] 18 [(0, .ref h0), (1, .int x1), (2, .int x2), (3, .int x3), (4, .ref h4), (5, .int x5), (6, .int x6)] [] := by
  induction n with
  | zero => intro v0_size v0_names v0_values v0_kinds x5 x6 hF; exact nomatch (show (none : Option (Int32 × (Nat → Int32) × (Nat → Int32) × (Nat → Int32))) = some o from hF)
  | succ n ih => intro v0_size v0_names v0_values v0_kinds x5 x6 hF; exact tfX0_listCells_b18 (x1 := x1) (x2 := x2) (x3 := x3) (k18 := fX0_listCells_l18 v4_data x1 x2 x3 k3 n) h hk3 ih hF
noncomputable def fX0_listCells_b3 (v4_data : (Nat → Int32)) (x1 : Int32) (x2 : Int32) (x3 : Int32) (k3 : Int32 → (Nat → Int32) → (Nat → Int32) → (Nat → Int32) → Int32 → Option (Int32 × (Nat → Int32) × (Nat → Int32) × (Nat → Int32))) (v0_size : Int32) (v0_names : (Nat → Int32)) (v0_values : (Nat → Int32)) (v0_kinds : (Nat → Int32)) (x5 : Int32) : Option (Int32 × (Nat → Int32) × (Nat → Int32) × (Nat → Int32)) :=
  if x3 < x5 then some (v0_size, v0_names, v0_values, v0_kinds) else if (3 : Int32) < x5 then some (v0_size, v0_names, v0_values, v0_kinds) else fX0_listCells_l18 v4_data x1 x2 x3 k3 1000 v0_size v0_names v0_values v0_kinds x5 (1 : Int32)
set_option maxRecDepth 100000 in
set_option maxHeartbeats 4000000 in
theorem tfX0_listCells_b3 {p : Program} {l : Launch} {e : Env} {s : State} {m : MethodId} {args : Array Value} {below : List Frame} {meth : Method} {c : Code} {A : Nat → Prop} {D : va_G} {cI cZ : ClassId} (h : Cx p s m args meth c A D cI cZ 7 cX0_listCells RX0 wsX0_listCells none) {h0 h0_names h0_values h0_kinds h4 h4_data : Nat} {x1 : Int32} {x2 : Int32} {x3 : Int32} {v4_data : (Nat → Int32)} {k3 : Int32 → (Nat → Int32) → (Nat → Int32) → (Nat → Int32) → Int32 → Option (Int32 × (Nat → Int32) × (Nat → Int32) × (Nat → Int32))} {v0_size : Int32} {v0_names : (Nat → Int32)} {v0_values : (Nat → Int32)} {v0_kinds : (Nat → Int32)} {x5 : Int32} {o : Int32 × (Nat → Int32) × (Nat → Int32) × (Nat → Int32)} (hk3 : ∀ (v0_size : Int32) (v0_names : (Nat → Int32)) (v0_values : (Nat → Int32)) (v0_kinds : (Nat → Int32)) (x5 : Int32), k3 v0_size v0_names v0_values v0_kinds x5 = some o → V p l e rmX0_listCells s m args below meth c A D 7 (QV D [(h0, .inr (0, [.ref h0_names, .ref h0_values, .ref h0_kinds, .int o.1])), (h0_names, .inl (cI, 80, .inl o.2.1)), (h0_values, .inl (cI, 80, .inl o.2.2.1)), (h0_kinds, .inl (cI, 80, .inl o.2.2.2)), (h4, .inr (4, [.ref h4_data])), (h4_data, .inl (cI, 124, .inl v4_data))] A below args s) [(h0, .inr (0, [.ref h0_names, .ref h0_values, .ref h0_kinds, .int v0_size])), (h0_names, .inl (cI, 80, .inl v0_names)), (h0_values, .inl (cI, 80, .inl v0_values)), (h0_kinds, .inl (cI, 80, .inl v0_kinds)), (h4, .inr (4, [.ref h4_data])), (h4_data, .inl (cI, 124, .inl v4_data))] 3 [(0, .ref h0), (1, .int x1), (2, .int x2), (3, .int x3), (4, .ref h4), (5, .int x5)] []) (hF : fX0_listCells_b3 v4_data x1 x2 x3 k3 v0_size v0_names v0_values v0_kinds x5 = some o) : V p l e rmX0_listCells s m args below meth c A D 7 (QV D [(h0, .inr (0, [.ref h0_names, .ref h0_values, .ref h0_kinds, .int o.1])), (h0_names, .inl (cI, 80, .inl o.2.1)), (h0_values, .inl (cI, 80, .inl o.2.2.1)), (h0_kinds, .inl (cI, 80, .inl o.2.2.2)), (h4, .inr (4, [.ref h4_data])), (h4_data, .inl (cI, 124, .inl v4_data))] A below args s) [(h0, .inr (0, [.ref h0_names, .ref h0_values, .ref h0_kinds, .int v0_size])), (h0_names, .inl (cI, 80, .inl v0_names)), (h0_values, .inl (cI, 80, .inl v0_values)), (h0_kinds, .inl (cI, 80, .inl v0_kinds)), (h4, .inr (4, [.ref h4_data])), (h4_data, .inl (cI, 124, .inl v4_data))] 3 [(0, .ref h0), (1, .int x1), (2, .int x2), (3, .int x3), (4, .ref h4), (5, .int x5)] [] := by
  unfold fX0_listCells_b3 at hF
  refine V_iload (pc := 3) h 5 dX0_listCells_3 rfl ?_
  refine V_iload_n (pc := 5) h 3 dX0_listCells_5 rfl ?_
  refine V_icmp_gt (pc := 6) h (tgt := 105) dX0_listCells_6 (by decide) hF (fun hF => ?_) (fun hF => ?_)
  · have hF := Option.some.inj hF
    subst hF
    exact V_vret (pc := 105) h dX0_listCells_105
  · refine V_iload (pc := 9) h 5 dX0_listCells_9 rfl ?_
    refine V_iconst (pc := 11) h (v := (3 : Int32)) dX0_listCells_11 (by decide) ?_
    refine V_icmp_gt (pc := 12) h (tgt := 105) dX0_listCells_12 (by decide) hF (fun hF => ?_) (fun hF => ?_)
    · have hF := Option.some.inj hF
      subst hF
      exact V_vret (pc := 105) h dX0_listCells_105
    · refine V_iconst (pc := 15) h (v := (1 : Int32)) dX0_listCells_15 (by decide) ?_
      refine V_istore (pc := 16) h [(6, .int (1 : Int32)), (0, .ref h0), (1, .int x1), (2, .int x2), (3, .int x3), (4, .ref h4), (5, .int x5)] dX0_listCells_16 (by decide) rfl ?_
      refine V_lv [1, 2, 3, 4, 5, 6, 0] [(0, .ref h0), (1, .int x1), (2, .int x2), (3, .int x3), (4, .ref h4), (5, .int x5), (6, .int (1 : Int32))] rfl ?_
      exact tfX0_listCells_l18 h hk3 1000 _ _ _ _ _ _ hF
noncomputable def fX0_listCells_l3 (v4_data : (Nat → Int32)) (x1 : Int32) (x2 : Int32) (x3 : Int32) (n : Nat) : Int32 → (Nat → Int32) → (Nat → Int32) → (Nat → Int32) → Int32 → Option (Int32 × (Nat → Int32) × (Nat → Int32) × (Nat → Int32)) :=
  Nat.rec (motive := fun _ => Int32 → (Nat → Int32) → (Nat → Int32) → (Nat → Int32) → Int32 → Option (Int32 × (Nat → Int32) × (Nat → Int32) × (Nat → Int32))) (fun _ _ _ _ _ => none) (fun _ ih => fX0_listCells_b3 v4_data x1 x2 x3 ih) n
theorem fX0_listCells_l3_s (v4_data : (Nat → Int32)) (x1 : Int32) (x2 : Int32) (x3 : Int32) (n : Nat) (v0_size : Int32) (v0_names : (Nat → Int32)) (v0_values : (Nat → Int32)) (v0_kinds : (Nat → Int32)) (x5 : Int32) : fX0_listCells_l3 v4_data x1 x2 x3 (n + 1) v0_size v0_names v0_values v0_kinds x5 = fX0_listCells_b3 v4_data x1 x2 x3 (fX0_listCells_l3 v4_data x1 x2 x3 n) v0_size v0_names v0_values v0_kinds x5 := rfl
set_option maxRecDepth 100000 in
set_option maxHeartbeats 4000000 in
theorem tfX0_listCells_l3 {p : Program} {l : Launch} {e : Env} {s : State} {m : MethodId} {args : Array Value} {below : List Frame} {meth : Method} {c : Code} {A : Nat → Prop} {D : va_G} {cI cZ : ClassId} (h : Cx p s m args meth c A D cI cZ 7 cX0_listCells RX0 wsX0_listCells none) {h0 h0_names h0_values h0_kinds h4 h4_data : Nat} {x1 : Int32} {x2 : Int32} {x3 : Int32} {v4_data : (Nat → Int32)} {o : Int32 × (Nat → Int32) × (Nat → Int32) × (Nat → Int32)} (n : Nat) : ∀ (v0_size : Int32) (v0_names : (Nat → Int32)) (v0_values : (Nat → Int32)) (v0_kinds : (Nat → Int32)) (x5 : Int32) (hF : fX0_listCells_l3 v4_data x1 x2 x3 n v0_size v0_names v0_values v0_kinds x5 = some o), V p l e rmX0_listCells s m args below meth c A D 7 (QV D [(h0, .inr (0, [.ref h0_names, .ref h0_values, .ref h0_kinds, .int o.1])), (h0_names, .inl (cI, 80, .inl o.2.1)), (h0_values, .inl (cI, 80, .inl o.2.2.1)), (h0_kinds, .inl (cI, 80, .inl o.2.2.2)), (h4, .inr (4, [.ref h4_data])), (h4_data, .inl (cI, 124, .inl v4_data))] A below args s) [(h0, .inr (0, [.ref h0_names, .ref h0_values, .ref h0_kinds, .int v0_size])), (h0_names, .inl (cI, 80, .inl v0_names)), (h0_values, .inl (cI, 80, .inl v0_values)), (h0_kinds, .inl (cI, 80, .inl v0_kinds)), (h4, .inr (4, [.ref h4_data])), (h4_data, .inl (cI, 124, .inl v4_data))] 3 [(0, .ref h0), (1, .int x1), (2, .int x2), (3, .int x3), (4, .ref h4), (5, .int x5)] [] := by
  induction n with
  | zero => intro v0_size v0_names v0_values v0_kinds x5 hF; exact nomatch (show (none : Option (Int32 × (Nat → Int32) × (Nat → Int32) × (Nat → Int32))) = some o from hF)
  | succ n ih => intro v0_size v0_names v0_values v0_kinds x5 hF; exact tfX0_listCells_b3 (x1 := x1) (x2 := x2) (x3 := x3) (k3 := fX0_listCells_l3 v4_data x1 x2 x3 n) h ih hF
noncomputable def fX0_listCells (v4_data : (Nat → Int32)) (x1 : Int32) (x2 : Int32) (x3 : Int32) (v0_size : Int32) (v0_names : (Nat → Int32)) (v0_values : (Nat → Int32)) (v0_kinds : (Nat → Int32)) : Option (Int32 × (Nat → Int32) × (Nat → Int32) × (Nat → Int32)) :=
  fX0_listCells_l3 v4_data x1 x2 x3 1000 v0_size v0_names v0_values v0_kinds (0 : Int32)
set_option maxRecDepth 100000 in
set_option maxHeartbeats 4000000 in
theorem tfX0_listCells {p : Program} {l : Launch} {e : Env} {s : State} {m : MethodId} {args : Array Value} {below : List Frame} {meth : Method} {c : Code} {A : Nat → Prop} {D : va_G} {cI cZ : ClassId} (h : Cx p s m args meth c A D cI cZ 7 cX0_listCells RX0 wsX0_listCells none) {h0 h0_names h0_values h0_kinds h4 h4_data : Nat} {x1 : Int32} {x2 : Int32} {x3 : Int32} {v4_data : (Nat → Int32)} {v0_size : Int32} {v0_names : (Nat → Int32)} {v0_values : (Nat → Int32)} {v0_kinds : (Nat → Int32)} {o : Int32 × (Nat → Int32) × (Nat → Int32) × (Nat → Int32)} (hF : fX0_listCells v4_data x1 x2 x3 v0_size v0_names v0_values v0_kinds = some o) : V p l e rmX0_listCells s m args below meth c A D 7 (QV D [(h0, .inr (0, [.ref h0_names, .ref h0_values, .ref h0_kinds, .int o.1])), (h0_names, .inl (cI, 80, .inl o.2.1)), (h0_values, .inl (cI, 80, .inl o.2.2.1)), (h0_kinds, .inl (cI, 80, .inl o.2.2.2)), (h4, .inr (4, [.ref h4_data])), (h4_data, .inl (cI, 124, .inl v4_data))] A below args s) [(h0, .inr (0, [.ref h0_names, .ref h0_values, .ref h0_kinds, .int v0_size])), (h0_names, .inl (cI, 80, .inl v0_names)), (h0_values, .inl (cI, 80, .inl v0_values)), (h0_kinds, .inl (cI, 80, .inl v0_kinds)), (h4, .inr (4, [.ref h4_data])), (h4_data, .inl (cI, 124, .inl v4_data))] 0 [(0, .ref h0), (1, .int x1), (2, .int x2), (3, .int x3), (4, .ref h4)] [] := by
  unfold fX0_listCells at hF
  refine V_iconst (pc := 0) h (v := (0 : Int32)) dX0_listCells_0 (by decide) ?_
  refine V_istore (pc := 1) h [(5, .int (0 : Int32)), (0, .ref h0), (1, .int x1), (2, .int x2), (3, .int x3), (4, .ref h4)] dX0_listCells_1 (by decide) rfl ?_
  refine V_lv [1, 2, 3, 4, 5, 0] [(0, .ref h0), (1, .int x1), (2, .int x2), (3, .int x3), (4, .ref h4), (5, .int (0 : Int32))] rfl ?_
  exact tfX0_listCells_l3 h 1000 _ _ _ _ _ hF
set_option maxRecDepth 100000 in
theorem k_X0_listCells (l : Launch) (D : va_G) (cI cZ : ClassId) (h0 h0_names h0_values h0_kinds h4 h4_data : Nat) (v0_size : Int32) (v0_names : (Nat → Int32)) (v0_values : (Nat → Int32)) (v0_kinds : (Nat → Int32)) (v4_data : (Nat → Int32)) (x1 : Int32) (x2 : Int32) (x3 : Int32) {o : Int32 × (Nat → Int32) × (Nat → Int32) × (Nat → Int32)} (hF : fX0_listCells v4_data x1 x2 x3 v0_size v0_names v0_values v0_kinds = some o) : CV l yX0_listCells wsX0_listCells rmX0_listCells D cI cZ [.ref h0, .int x1, .int x2, .int x3, .ref h4] [(h0, .inr (0, [.ref h0_names, .ref h0_values, .ref h0_kinds, .int v0_size])), (h0_names, .inl (cI, 80, .inl v0_names)), (h0_values, .inl (cI, 80, .inl v0_values)), (h0_kinds, .inl (cI, 80, .inl v0_kinds)), (h4, .inr (4, [.ref h4_data])), (h4_data, .inl (cI, 124, .inl v4_data))] [(h0, .inr (0, [.ref h0_names, .ref h0_values, .ref h0_kinds, .int o.1])), (h0_names, .inl (cI, 80, .inl o.2.1)), (h0_values, .inl (cI, 80, .inl o.2.2.1)), (h0_kinds, .inl (cI, 80, .inl o.2.2.2)), (h4, .inr (4, [.ref h4_data])), (h4_data, .inl (cI, 124, .inl v4_data))] :=
  CV_of (cc := cX0_listCells) (nL := 7) (ret := none) (by decide) rfl (Nat.le_of_ble_eq_true rfl) rfl (fun p e s m args below meth c A h => tfX0_listCells h hF)
/-! X4_valueOf -/
abbrev rmX4_valueOf : Room := { frames := 1, cells := 0, slots := 0, locals := 21 }
noncomputable def fX4_valueOf (v0_data : (Nat → Int32)) (x1 : Int32) : Option (Int32) :=
  bd (fX4_read v0_data ((4 : Int32) + x1)) (fun r4 => some r4)
set_option maxRecDepth 100000 in
set_option maxHeartbeats 4000000 in
theorem tfX4_valueOf {p : Program} {l : Launch} {e : Env} {s : State} {m : MethodId} {args : Array Value} {below : List Frame} {meth : Method} {c : Code} {A : Nat → Prop} {D : va_G} {cI cZ : ClassId} (h : Cx p s m args meth c A D cI cZ 2 cX4_valueOf RX4 wsX4_valueOf (some .int)) {h0 h0_data : Nat} {x1 : Int32} {v0_data : (Nat → Int32)} {o : Int32} (hF : fX4_valueOf v0_data x1 = some o) : V p l e rmX4_valueOf s m args below meth c A D 2 (QI D [(h0, .inr (4, [.ref h0_data])), (h0_data, .inl (cI, 124, .inl v0_data))] o A below args s) [(h0, .inr (4, [.ref h0_data])), (h0_data, .inl (cI, 124, .inl v0_data))] 0 [(0, .ref h0), (1, .int x1)] [] := by
  unfold fX4_valueOf at hF
  refine V_aload_n (pc := 0) h 0 dX4_valueOf_0 rfl ?_
  refine V_iconst (pc := 1) h (v := (4 : Int32)) dX4_valueOf_1 (by decide) ?_
  refine V_iload_n (pc := 2) h 1 dX4_valueOf_2 rfl ?_
  refine V_iadd (pc := 3) h dX4_valueOf_3 ?_
  refine V_ciVA (pc := 4) h (n := 1) (bytes := cX4_read) (maxL := 2) (As := [.int ((4 : Int32) + x1)]) (rest := []) gX4_valueOf_X4_read (by decide +kernel) rfl rfl rfl rfl ⟨rfl, rfl⟩ ⟨Nat.le_of_ble_eq_true rfl, Nat.le_of_ble_eq_true rfl⟩ rfl rfl (Nat.le_of_ble_eq_true rfl) dX4_valueOf_4 hF (fun r4 hG => k_X4_read l D cI cZ h0 h0_data v0_data ((4 : Int32) + x1) hG) (fun r4 hF => ?_)
  have hF := Option.some.inj hF
  subst hF
  exact V_iret (pc := 7) h dX4_valueOf_7
set_option maxRecDepth 100000 in
theorem k_X4_valueOf (l : Launch) (D : va_G) (cI cZ : ClassId) (h0 h0_data : Nat) (v0_data : (Nat → Int32)) (x1 : Int32) {o : Int32} (hF : fX4_valueOf v0_data x1 = some o) : CI l yX4_valueOf wsX4_valueOf rmX4_valueOf D cI cZ [.ref h0, .int x1] [(h0, .inr (4, [.ref h0_data])), (h0_data, .inl (cI, 124, .inl v0_data))] [(h0, .inr (4, [.ref h0_data])), (h0_data, .inl (cI, 124, .inl v0_data))] o :=
  CI_of (cc := cX4_valueOf) (nL := 2) (ret := (some .int)) (by decide) rfl (Nat.le_of_ble_eq_true rfl) rfl (fun p e s m args below meth c A h => tfX4_valueOf h hF)
/-! X0_listAll -/
abbrev rmX0_listAll : Room := { frames := 3, cells := 0, slots := 0, locals := 71 }
theorem uX0_listAll_inX6 : ∀ w ∈ wsX60, w ∈ wsX0_listAll := by decide +kernel
theorem uX0_listAll_f25 : Cond.fieldLink RX0 25 "LeafAsks$Tree" "size" "I" ∈ wsX0_listAll := by decide +kernel
theorem uX0_listAll_inX0 : ∀ w ∈ wsX00, w ∈ wsX0_listAll := by decide +kernel
theorem uX0_listAll_f21 : Cond.fieldLink RX0 21 "LeafAsks$Leaves" "size" "I" ∈ wsX0_listAll := by decide +kernel
noncomputable def fX0_listAll_b7 (v1_size : Int32) (v1_data : (Nat → Int32)) (v2_data : (Nat → Int32)) (k7 : Int32 → (Nat → Int32) → (Nat → Int32) → (Nat → Int32) → Int32 → Option (Int32 × (Nat → Int32) × (Nat → Int32) × (Nat → Int32))) (v0_size : Int32) (v0_names : (Nat → Int32)) (v0_values : (Nat → Int32)) (v0_kinds : (Nat → Int32)) (x3 : Int32) : Option (Int32 × (Nat → Int32) × (Nat → Int32) × (Nat → Int32)) :=
  if v1_size ≤ x3 then some (v0_size, v0_names, v0_values, v0_kinds) else bd (fX6_field v1_data x3 (1 : Int32)) (fun r18 => bd (fX6_field v1_data x3 (0 : Int32)) (fun r26 => if r26 = (2 : Int32) then bd (fX6_tablesAhead v1_size v1_data x3) (fun r42 => bd (fX6_field v1_data x3 (3 : Int32)) (fun r48 => bd (fX0_listCells v2_data r18 r42 r48 v0_size v0_names v0_values v0_kinds) (fun r52 => bnd (x3 + (1 : Int32)) (fun x3_76 => k7 r52.1 r52.2.1 r52.2.2.1 r52.2.2.2 x3_76)))) else bd (fX0_behind r18 (0 : Int32) (-1 : Int32)) (fun r63 => bd (fX4_valueOf v2_data x3) (fun r68 => bd (fX0_add r63 r68 r26 v0_size v0_names v0_values v0_kinds) (fun r73 => bnd (x3 + (1 : Int32)) (fun x3_76 => k7 r73.1 r73.2.1 r73.2.2.1 r73.2.2.2 x3_76))))))
set_option maxRecDepth 100000 in
set_option maxHeartbeats 4000000 in
theorem tfX0_listAll_b7 {p : Program} {l : Launch} {e : Env} {s : State} {m : MethodId} {args : Array Value} {below : List Frame} {meth : Method} {c : Code} {A : Nat → Prop} {D : va_G} {cI cZ : ClassId} (h : Cx p s m args meth c A D cI cZ 6 cX0_listAll RX0 wsX0_listAll none) {h0 h0_names h0_values h0_kinds h1 h1_data h1_fresh h2 h2_data : Nat} {v1_size : Int32} {v1_data : (Nat → Int32)} {v1_fresh : (Nat → Int32)} {v2_data : (Nat → Int32)} {k7 : Int32 → (Nat → Int32) → (Nat → Int32) → (Nat → Int32) → Int32 → Option (Int32 × (Nat → Int32) × (Nat → Int32) × (Nat → Int32))} {v0_size : Int32} {v0_names : (Nat → Int32)} {v0_values : (Nat → Int32)} {v0_kinds : (Nat → Int32)} {x3 : Int32} {o : Int32 × (Nat → Int32) × (Nat → Int32) × (Nat → Int32)} (hk7 : ∀ (v0_size : Int32) (v0_names : (Nat → Int32)) (v0_values : (Nat → Int32)) (v0_kinds : (Nat → Int32)) (x3 : Int32), k7 v0_size v0_names v0_values v0_kinds x3 = some o → V p l e rmX0_listAll s m args below meth c A D 6 (QV D [(h0, .inr (0, [.ref h0_names, .ref h0_values, .ref h0_kinds, .int o.1])), (h0_names, .inl (cI, 80, .inl o.2.1)), (h0_values, .inl (cI, 80, .inl o.2.2.1)), (h0_kinds, .inl (cI, 80, .inl o.2.2.2)), (h1, .inr (6, [.ref h1_data, .ref h1_fresh, .int v1_size])), (h1_data, .inl (cI, 56, .inl v1_data)), (h1_fresh, .inl (cI, 7, .inl v1_fresh)), (h2, .inr (4, [.ref h2_data])), (h2_data, .inl (cI, 124, .inl v2_data))] A below args s) [(h0, .inr (0, [.ref h0_names, .ref h0_values, .ref h0_kinds, .int v0_size])), (h0_names, .inl (cI, 80, .inl v0_names)), (h0_values, .inl (cI, 80, .inl v0_values)), (h0_kinds, .inl (cI, 80, .inl v0_kinds)), (h1, .inr (6, [.ref h1_data, .ref h1_fresh, .int v1_size])), (h1_data, .inl (cI, 56, .inl v1_data)), (h1_fresh, .inl (cI, 7, .inl v1_fresh)), (h2, .inr (4, [.ref h2_data])), (h2_data, .inl (cI, 124, .inl v2_data))] 7 [(0, .ref h0), (1, .ref h1), (2, .ref h2), (3, .int x3)] []) (hF : fX0_listAll_b7 v1_size v1_data v2_data k7 v0_size v0_names v0_values v0_kinds x3 = some o) : V p l e rmX0_listAll s m args below meth c A D 6 (QV D [(h0, .inr (0, [.ref h0_names, .ref h0_values, .ref h0_kinds, .int o.1])), (h0_names, .inl (cI, 80, .inl o.2.1)), (h0_values, .inl (cI, 80, .inl o.2.2.1)), (h0_kinds, .inl (cI, 80, .inl o.2.2.2)), (h1, .inr (6, [.ref h1_data, .ref h1_fresh, .int v1_size])), (h1_data, .inl (cI, 56, .inl v1_data)), (h1_fresh, .inl (cI, 7, .inl v1_fresh)), (h2, .inr (4, [.ref h2_data])), (h2_data, .inl (cI, 124, .inl v2_data))] A below args s) [(h0, .inr (0, [.ref h0_names, .ref h0_values, .ref h0_kinds, .int v0_size])), (h0_names, .inl (cI, 80, .inl v0_names)), (h0_values, .inl (cI, 80, .inl v0_values)), (h0_kinds, .inl (cI, 80, .inl v0_kinds)), (h1, .inr (6, [.ref h1_data, .ref h1_fresh, .int v1_size])), (h1_data, .inl (cI, 56, .inl v1_data)), (h1_fresh, .inl (cI, 7, .inl v1_fresh)), (h2, .inr (4, [.ref h2_data])), (h2_data, .inl (cI, 124, .inl v2_data))] 7 [(0, .ref h0), (1, .ref h1), (2, .ref h2), (3, .int x3)] [] := by
  unfold fX0_listAll_b7 at hF
  refine V_iload_n (pc := 7) h 3 dX0_listAll_7 rfl ?_
  refine V_aload_n (pc := 8) h 1 dX0_listAll_8 rfl ?_
  refine V_get (pc := 9) h uX0_listAll_inX6 4 2 rfl rfl (by decide) uX0_listAll_f25 rfl rfl dX0_listAll_9 ?_
  refine V_icmp_ge (pc := 12) h (tgt := 82) dX0_listAll_12 (by decide) hF (fun hF => ?_) (fun hF => ?_)
  · have hF := Option.some.inj hF
    subst hF
    exact V_vret (pc := 82) h dX0_listAll_82
  · refine V_aload_n (pc := 15) h 1 dX0_listAll_15 rfl ?_
    refine V_iload_n (pc := 16) h 3 dX0_listAll_16 rfl ?_
    refine V_iconst (pc := 17) h (v := (1 : Int32)) dX0_listAll_17 (by decide) ?_
    refine V_ciV (pc := 18) h (n := 2) (bytes := cX6_field) (maxL := 4) (As := [.int x3, .int (1 : Int32)]) (rest := []) gX0_listAll_X6_field (by decide +kernel) rfl rfl rfl rfl ⟨rfl, rfl⟩ ⟨Nat.le_of_ble_eq_true rfl, Nat.le_of_ble_eq_true rfl⟩ [4, 5, 6] rfl (by decide) rfl (fun r18 => [(h0, .inr (0, [.ref h0_names, .ref h0_values, .ref h0_kinds, .int v0_size])), (h0_names, .inl (cI, 80, .inl v0_names)), (h0_values, .inl (cI, 80, .inl v0_values)), (h0_kinds, .inl (cI, 80, .inl v0_kinds)), (h1, .inr (6, [.ref h1_data, .ref h1_fresh, .int v1_size])), (h1_data, .inl (cI, 56, .inl v1_data)), (h1_fresh, .inl (cI, 7, .inl v1_fresh)), (h2, .inr (4, [.ref h2_data])), (h2_data, .inl (cI, 124, .inl v2_data))]) (fun _ => rfl) (fun _ => rfl) rfl (Nat.le_of_ble_eq_true rfl) dX0_listAll_18 hF (fun r18 hG => k_X6_field l D cI cZ h1 h1_data h1_fresh v1_size v1_data v1_fresh x3 (1 : Int32) hG) (fun r18 hF => ?_)
    refine V_istore (pc := 21) h [(4, .int r18), (0, .ref h0), (1, .ref h1), (2, .ref h2), (3, .int x3)] dX0_listAll_21 (by decide) rfl ?_
    refine V_aload_n (pc := 23) h 2 dX0_listAll_23 rfl ?_
    refine V_iload_n (pc := 24) h 4 dX0_listAll_24 rfl ?_
    refine V_iconst (pc := 25) h (v := (0 : Int32)) dX0_listAll_25 (by decide) ?_
    refine V_ciV (pc := 26) h (n := 2) (bytes := cX6_field) (maxL := 4) (As := [.int x3, .int (0 : Int32)]) (rest := []) gX0_listAll_X6_field (by decide +kernel) rfl rfl rfl rfl ⟨rfl, rfl⟩ ⟨Nat.le_of_ble_eq_true rfl, Nat.le_of_ble_eq_true rfl⟩ [4, 5, 6] rfl (by decide) rfl (fun r26 => [(h0, .inr (0, [.ref h0_names, .ref h0_values, .ref h0_kinds, .int v0_size])), (h0_names, .inl (cI, 80, .inl v0_names)), (h0_values, .inl (cI, 80, .inl v0_values)), (h0_kinds, .inl (cI, 80, .inl v0_kinds)), (h1, .inr (6, [.ref h1_data, .ref h1_fresh, .int v1_size])), (h1_data, .inl (cI, 56, .inl v1_data)), (h1_fresh, .inl (cI, 7, .inl v1_fresh)), (h2, .inr (4, [.ref h2_data])), (h2_data, .inl (cI, 124, .inl v2_data))]) (fun _ => rfl) (fun _ => rfl) rfl (Nat.le_of_ble_eq_true rfl) dX0_listAll_26 hF (fun r26 hG => k_X6_field l D cI cZ h1 h1_data h1_fresh v1_size v1_data v1_fresh x3 (0 : Int32) hG) (fun r26 hF => ?_)
    refine V_istore (pc := 29) h [(5, .int r26), (4, .int r18), (0, .ref h0), (1, .ref h1), (2, .ref h2), (3, .int x3)] dX0_listAll_29 (by decide) rfl ?_
    refine V_iload (pc := 31) h 0 dX0_listAll_31 rfl ?_
    refine V_iconst (pc := 33) h (v := (2 : Int32)) dX0_listAll_33 (by decide) ?_
    refine V_icmp_ne (pc := 34) h (tgt := 58) dX0_listAll_34 (by decide) hF (fun hF => ?_) (fun hF => ?_)
    · refine V_aload_n (pc := 58) h 2 dX0_listAll_58 rfl ?_
      refine V_iload (pc := 59) h 1 dX0_listAll_59 rfl ?_
      refine V_iconst (pc := 61) h (v := (0 : Int32)) dX0_listAll_61 (by decide) ?_
      refine V_iconst (pc := 62) h (v := (-1 : Int32)) dX0_listAll_62 (by decide) ?_
      refine V_ciS (pc := 63) h (n := 3) (bytes := cX0_behind) (maxL := 3) (As := [.int r18, .int (0 : Int32), .int (-1 : Int32)]) (rest := [.ref h0]) gX0_listAll_X0_behind (by decide +kernel) rfl ⟨rfl, rfl⟩ ⟨Nat.le_of_ble_eq_true rfl, Nat.le_of_ble_eq_true rfl⟩ [] rfl (by decide) rfl (fun r63 => [(h0, .inr (0, [.ref h0_names, .ref h0_values, .ref h0_kinds, .int v0_size])), (h0_names, .inl (cI, 80, .inl v0_names)), (h0_values, .inl (cI, 80, .inl v0_values)), (h0_kinds, .inl (cI, 80, .inl v0_kinds)), (h1, .inr (6, [.ref h1_data, .ref h1_fresh, .int v1_size])), (h1_data, .inl (cI, 56, .inl v1_data)), (h1_fresh, .inl (cI, 7, .inl v1_fresh)), (h2, .inr (4, [.ref h2_data])), (h2_data, .inl (cI, 124, .inl v2_data))]) (fun _ => rfl) (fun _ => rfl) rfl (Nat.le_of_ble_eq_true rfl) dX0_listAll_63 hF (fun r63 hG => k_X0_behind l D cI cZ r18 (0 : Int32) (-1 : Int32) hG) (fun r63 hF => ?_)
      refine V_aload_n (pc := 66) h 4 dX0_listAll_66 rfl ?_
      refine V_iload_n (pc := 67) h 5 dX0_listAll_67 rfl ?_
      refine V_ciV (pc := 68) h (n := 1) (bytes := cX4_valueOf) (maxL := 2) (As := [.int x3]) (rest := [.int r63, .ref h0]) gX0_listAll_X4_valueOf (by decide +kernel) rfl rfl rfl rfl ⟨rfl, rfl⟩ ⟨Nat.le_of_ble_eq_true rfl, Nat.le_of_ble_eq_true rfl⟩ [7, 8] rfl (by decide) rfl (fun r68 => [(h0, .inr (0, [.ref h0_names, .ref h0_values, .ref h0_kinds, .int v0_size])), (h0_names, .inl (cI, 80, .inl v0_names)), (h0_values, .inl (cI, 80, .inl v0_values)), (h0_kinds, .inl (cI, 80, .inl v0_kinds)), (h1, .inr (6, [.ref h1_data, .ref h1_fresh, .int v1_size])), (h1_data, .inl (cI, 56, .inl v1_data)), (h1_fresh, .inl (cI, 7, .inl v1_fresh)), (h2, .inr (4, [.ref h2_data])), (h2_data, .inl (cI, 124, .inl v2_data))]) (fun _ => rfl) (fun _ => rfl) rfl (Nat.le_of_ble_eq_true rfl) dX0_listAll_68 hF (fun r68 hG => k_X4_valueOf l D cI cZ h2 h2_data v2_data x3 hG) (fun r68 hF => ?_)
      refine V_iload (pc := 71) h 0 dX0_listAll_71 rfl ?_
      refine V_cvV (pc := 73) h (n := 3) (bytes := cX0_add) (maxL := 4) (As := [.int r63, .int r68, .int r26]) (rest := []) gX0_listAll_X0_add (by decide +kernel) rfl rfl rfl rfl ⟨rfl, rfl⟩ ⟨Nat.le_of_ble_eq_true rfl, Nat.le_of_ble_eq_true rfl⟩ [0, 1, 2, 3] rfl (by decide) rfl (fun r73 => [(h0, .inr (0, [.ref h0_names, .ref h0_values, .ref h0_kinds, .int r73.1])), (h0_names, .inl (cI, 80, .inl r73.2.1)), (h0_values, .inl (cI, 80, .inl r73.2.2.1)), (h0_kinds, .inl (cI, 80, .inl r73.2.2.2)), (h1, .inr (6, [.ref h1_data, .ref h1_fresh, .int v1_size])), (h1_data, .inl (cI, 56, .inl v1_data)), (h1_fresh, .inl (cI, 7, .inl v1_fresh)), (h2, .inr (4, [.ref h2_data])), (h2_data, .inl (cI, 124, .inl v2_data))]) (fun _ => rfl) (fun _ => rfl) rfl (Nat.le_of_ble_eq_true rfl) dX0_listAll_73 hF (fun r73 hG => k_X0_add l D cI cZ h0 h0_names h0_values h0_kinds v0_size v0_names v0_values v0_kinds r63 r68 r26 hG) (fun r73 hF => ?_)
      refine V_iinc (pc := 76) h 5 (fun x3_76 => [(3, .int x3_76), (5, .int r26), (4, .int r18), (0, .ref h0), (1, .ref h1), (2, .ref h2)]) dX0_listAll_76 rfl rfl (by decide) (fun _ => rfl) hF (fun x3_76 hF => ?_)
      refine V_goto (pc := 79) h (tgt := 7) dX0_listAll_79 (by decide) ?_
      refine V_lv [3, 4, 5, 0] [(0, .ref h0), (1, .ref h1), (2, .ref h2), (3, .int x3_76)] rfl ?_
      exact hk7 _ _ _ _ _ hF
    · refine V_aload_n (pc := 37) h 2 dX0_listAll_37 rfl ?_
      refine V_iload (pc := 38) h 1 dX0_listAll_38 rfl ?_
      refine V_aload_n (pc := 40) h 3 dX0_listAll_40 rfl ?_
      refine V_iload_n (pc := 41) h 5 dX0_listAll_41 rfl ?_
      refine V_ciV (pc := 42) h (n := 1) (bytes := cX6_tablesAhead) (maxL := 4) (As := [.int x3]) (rest := [.int r18, .ref h0]) gX0_listAll_X6_tablesAhead (by decide +kernel) rfl rfl rfl rfl ⟨rfl, rfl⟩ ⟨Nat.le_of_ble_eq_true rfl, Nat.le_of_ble_eq_true rfl⟩ [4, 5, 6] rfl (by decide) rfl (fun r42 => [(h0, .inr (0, [.ref h0_names, .ref h0_values, .ref h0_kinds, .int v0_size])), (h0_names, .inl (cI, 80, .inl v0_names)), (h0_values, .inl (cI, 80, .inl v0_values)), (h0_kinds, .inl (cI, 80, .inl v0_kinds)), (h1, .inr (6, [.ref h1_data, .ref h1_fresh, .int v1_size])), (h1_data, .inl (cI, 56, .inl v1_data)), (h1_fresh, .inl (cI, 7, .inl v1_fresh)), (h2, .inr (4, [.ref h2_data])), (h2_data, .inl (cI, 124, .inl v2_data))]) (fun _ => rfl) (fun _ => rfl) rfl (Nat.le_of_ble_eq_true rfl) dX0_listAll_42 hF (fun r42 hG => k_X6_tablesAhead l D cI cZ h1 h1_data h1_fresh v1_size v1_data v1_fresh x3 hG) (fun r42 hF => ?_)
      refine V_aload_n (pc := 45) h 3 dX0_listAll_45 rfl ?_
      refine V_iload_n (pc := 46) h 5 dX0_listAll_46 rfl ?_
      refine V_iconst (pc := 47) h (v := (3 : Int32)) dX0_listAll_47 (by decide) ?_
      refine V_ciV (pc := 48) h (n := 2) (bytes := cX6_field) (maxL := 4) (As := [.int x3, .int (3 : Int32)]) (rest := [.int r42, .int r18, .ref h0]) gX0_listAll_X6_field (by decide +kernel) rfl rfl rfl rfl ⟨rfl, rfl⟩ ⟨Nat.le_of_ble_eq_true rfl, Nat.le_of_ble_eq_true rfl⟩ [4, 5, 6] rfl (by decide) rfl (fun r48 => [(h0, .inr (0, [.ref h0_names, .ref h0_values, .ref h0_kinds, .int v0_size])), (h0_names, .inl (cI, 80, .inl v0_names)), (h0_values, .inl (cI, 80, .inl v0_values)), (h0_kinds, .inl (cI, 80, .inl v0_kinds)), (h1, .inr (6, [.ref h1_data, .ref h1_fresh, .int v1_size])), (h1_data, .inl (cI, 56, .inl v1_data)), (h1_fresh, .inl (cI, 7, .inl v1_fresh)), (h2, .inr (4, [.ref h2_data])), (h2_data, .inl (cI, 124, .inl v2_data))]) (fun _ => rfl) (fun _ => rfl) rfl (Nat.le_of_ble_eq_true rfl) dX0_listAll_48 hF (fun r48 hG => k_X6_field l D cI cZ h1 h1_data h1_fresh v1_size v1_data v1_fresh x3 (3 : Int32) hG) (fun r48 hF => ?_)
      refine V_aload_n (pc := 51) h 4 dX0_listAll_51 rfl ?_
      refine V_cvV (pc := 52) h (n := 4) (bytes := cX0_listCells) (maxL := 7) (As := [.int r18, .int r42, .int r48, .ref h2]) (rest := []) gX0_listAll_X0_listCells (by decide +kernel) rfl rfl rfl rfl ⟨rfl, rfl⟩ ⟨Nat.le_of_ble_eq_true rfl, Nat.le_of_ble_eq_true rfl⟩ [0, 1, 2, 3, 7, 8] rfl (by decide) rfl (fun r52 => [(h0, .inr (0, [.ref h0_names, .ref h0_values, .ref h0_kinds, .int r52.1])), (h0_names, .inl (cI, 80, .inl r52.2.1)), (h0_values, .inl (cI, 80, .inl r52.2.2.1)), (h0_kinds, .inl (cI, 80, .inl r52.2.2.2)), (h1, .inr (6, [.ref h1_data, .ref h1_fresh, .int v1_size])), (h1_data, .inl (cI, 56, .inl v1_data)), (h1_fresh, .inl (cI, 7, .inl v1_fresh)), (h2, .inr (4, [.ref h2_data])), (h2_data, .inl (cI, 124, .inl v2_data))]) (fun _ => rfl) (fun _ => rfl) rfl (Nat.le_of_ble_eq_true rfl) dX0_listAll_52 hF (fun r52 hG => k_X0_listCells l D cI cZ h0 h0_names h0_values h0_kinds h2 h2_data v0_size v0_names v0_values v0_kinds v2_data r18 r42 r48 hG) (fun r52 hF => ?_)
      refine V_goto (pc := 55) h (tgt := 76) dX0_listAll_55 (by decide) ?_
      refine V_iinc (pc := 76) h 5 (fun x3_76 => [(3, .int x3_76), (5, .int r26), (4, .int r18), (0, .ref h0), (1, .ref h1), (2, .ref h2)]) dX0_listAll_76 rfl rfl (by decide) (fun _ => rfl) hF (fun x3_76 hF => ?_)
      refine V_goto (pc := 79) h (tgt := 7) dX0_listAll_79 (by decide) ?_
      refine V_lv [3, 4, 5, 0] [(0, .ref h0), (1, .ref h1), (2, .ref h2), (3, .int x3_76)] rfl ?_
      exact hk7 _ _ _ _ _ hF
noncomputable def fX0_listAll_l7 (v1_size : Int32) (v1_data : (Nat → Int32)) (v2_data : (Nat → Int32)) (n : Nat) : Int32 → (Nat → Int32) → (Nat → Int32) → (Nat → Int32) → Int32 → Option (Int32 × (Nat → Int32) × (Nat → Int32) × (Nat → Int32)) :=
  Nat.rec (motive := fun _ => Int32 → (Nat → Int32) → (Nat → Int32) → (Nat → Int32) → Int32 → Option (Int32 × (Nat → Int32) × (Nat → Int32) × (Nat → Int32))) (fun _ _ _ _ _ => none) (fun _ ih => fX0_listAll_b7 v1_size v1_data v2_data ih) n
theorem fX0_listAll_l7_s (v1_size : Int32) (v1_data : (Nat → Int32)) (v2_data : (Nat → Int32)) (n : Nat) (v0_size : Int32) (v0_names : (Nat → Int32)) (v0_values : (Nat → Int32)) (v0_kinds : (Nat → Int32)) (x3 : Int32) : fX0_listAll_l7 v1_size v1_data v2_data (n + 1) v0_size v0_names v0_values v0_kinds x3 = fX0_listAll_b7 v1_size v1_data v2_data (fX0_listAll_l7 v1_size v1_data v2_data n) v0_size v0_names v0_values v0_kinds x3 := rfl
set_option maxRecDepth 100000 in
set_option maxHeartbeats 4000000 in
theorem tfX0_listAll_l7 {p : Program} {l : Launch} {e : Env} {s : State} {m : MethodId} {args : Array Value} {below : List Frame} {meth : Method} {c : Code} {A : Nat → Prop} {D : va_G} {cI cZ : ClassId} (h : Cx p s m args meth c A D cI cZ 6 cX0_listAll RX0 wsX0_listAll none) {h0 h0_names h0_values h0_kinds h1 h1_data h1_fresh h2 h2_data : Nat} {v1_size : Int32} {v1_data : (Nat → Int32)} {v1_fresh : (Nat → Int32)} {v2_data : (Nat → Int32)} {o : Int32 × (Nat → Int32) × (Nat → Int32) × (Nat → Int32)} (n : Nat) : ∀ (v0_size : Int32) (v0_names : (Nat → Int32)) (v0_values : (Nat → Int32)) (v0_kinds : (Nat → Int32)) (x3 : Int32) (hF : fX0_listAll_l7 v1_size v1_data v2_data n v0_size v0_names v0_values v0_kinds x3 = some o), V p l e rmX0_listAll s m args below meth c A D 6 (QV D [(h0, .inr (0, [.ref h0_names, .ref h0_values, .ref h0_kinds, .int o.1])), (h0_names, .inl (cI, 80, .inl o.2.1)), (h0_values, .inl (cI, 80, .inl o.2.2.1)), (h0_kinds, .inl (cI, 80, .inl o.2.2.2)), (h1, .inr (6, [.ref h1_data, .ref h1_fresh, .int v1_size])), (h1_data, .inl (cI, 56, .inl v1_data)), (h1_fresh, .inl (cI, 7, .inl v1_fresh)), (h2, .inr (4, [.ref h2_data])), (h2_data, .inl (cI, 124, .inl v2_data))] A below args s) [(h0, .inr (0, [.ref h0_names, .ref h0_values, .ref h0_kinds, .int v0_size])), (h0_names, .inl (cI, 80, .inl v0_names)), (h0_values, .inl (cI, 80, .inl v0_values)), (h0_kinds, .inl (cI, 80, .inl v0_kinds)), (h1, .inr (6, [.ref h1_data, .ref h1_fresh, .int v1_size])), (h1_data, .inl (cI, 56, .inl v1_data)), (h1_fresh, .inl (cI, 7, .inl v1_fresh)), (h2, .inr (4, [.ref h2_data])), (h2_data, .inl (cI, 124, .inl v2_data))] 7 [(0, .ref h0), (1, .ref h1), (2, .ref h2), (3, .int x3)] [] := by
  induction n with
  | zero => intro v0_size v0_names v0_values v0_kinds x3 hF; exact nomatch (show (none : Option (Int32 × (Nat → Int32) × (Nat → Int32) × (Nat → Int32))) = some o from hF)
  | succ n ih => intro v0_size v0_names v0_values v0_kinds x3 hF; exact tfX0_listAll_b7 (k7 := fX0_listAll_l7 v1_size v1_data v2_data n) h ih hF
noncomputable def fX0_listAll (v1_size : Int32) (v1_data : (Nat → Int32)) (v2_data : (Nat → Int32)) (v0_size : Int32) (v0_names : (Nat → Int32)) (v0_values : (Nat → Int32)) (v0_kinds : (Nat → Int32)) : Option (Int32 × (Nat → Int32) × (Nat → Int32) × (Nat → Int32)) :=
  fX0_listAll_l7 v1_size v1_data v2_data 1000 (0 : Int32) v0_names v0_values v0_kinds (0 : Int32)
set_option maxRecDepth 100000 in
set_option maxHeartbeats 4000000 in
theorem tfX0_listAll {p : Program} {l : Launch} {e : Env} {s : State} {m : MethodId} {args : Array Value} {below : List Frame} {meth : Method} {c : Code} {A : Nat → Prop} {D : va_G} {cI cZ : ClassId} (h : Cx p s m args meth c A D cI cZ 6 cX0_listAll RX0 wsX0_listAll none) {h0 h0_names h0_values h0_kinds h1 h1_data h1_fresh h2 h2_data : Nat} {v1_size : Int32} {v1_data : (Nat → Int32)} {v1_fresh : (Nat → Int32)} {v2_data : (Nat → Int32)} {v0_size : Int32} {v0_names : (Nat → Int32)} {v0_values : (Nat → Int32)} {v0_kinds : (Nat → Int32)} {o : Int32 × (Nat → Int32) × (Nat → Int32) × (Nat → Int32)} (hF : fX0_listAll v1_size v1_data v2_data v0_size v0_names v0_values v0_kinds = some o) : V p l e rmX0_listAll s m args below meth c A D 6 (QV D [(h0, .inr (0, [.ref h0_names, .ref h0_values, .ref h0_kinds, .int o.1])), (h0_names, .inl (cI, 80, .inl o.2.1)), (h0_values, .inl (cI, 80, .inl o.2.2.1)), (h0_kinds, .inl (cI, 80, .inl o.2.2.2)), (h1, .inr (6, [.ref h1_data, .ref h1_fresh, .int v1_size])), (h1_data, .inl (cI, 56, .inl v1_data)), (h1_fresh, .inl (cI, 7, .inl v1_fresh)), (h2, .inr (4, [.ref h2_data])), (h2_data, .inl (cI, 124, .inl v2_data))] A below args s) [(h0, .inr (0, [.ref h0_names, .ref h0_values, .ref h0_kinds, .int v0_size])), (h0_names, .inl (cI, 80, .inl v0_names)), (h0_values, .inl (cI, 80, .inl v0_values)), (h0_kinds, .inl (cI, 80, .inl v0_kinds)), (h1, .inr (6, [.ref h1_data, .ref h1_fresh, .int v1_size])), (h1_data, .inl (cI, 56, .inl v1_data)), (h1_fresh, .inl (cI, 7, .inl v1_fresh)), (h2, .inr (4, [.ref h2_data])), (h2_data, .inl (cI, 124, .inl v2_data))] 0 [(0, .ref h0), (1, .ref h1), (2, .ref h2)] [] := by
  unfold fX0_listAll at hF
  refine V_aload_n (pc := 0) h 0 dX0_listAll_0 rfl ?_
  refine V_iconst (pc := 1) h (v := (0 : Int32)) dX0_listAll_1 (by decide) ?_
  refine V_put (pc := 2) h uX0_listAll_inX0 tyX0 tyX0_ok nmX0 0 3 rfl rfl (by decide) uX0_listAll_f21 rfl rfl (by decide +kernel) (Nat.le_of_ble_eq_true rfl) [(h0, .inr (0, [.ref h0_names, .ref h0_values, .ref h0_kinds, .int (0 : Int32)])), (h0_names, .inl (cI, 80, .inl v0_names)), (h0_values, .inl (cI, 80, .inl v0_values)), (h0_kinds, .inl (cI, 80, .inl v0_kinds)), (h1, .inr (6, [.ref h1_data, .ref h1_fresh, .int v1_size])), (h1_data, .inl (cI, 56, .inl v1_data)), (h1_fresh, .inl (cI, 7, .inl v1_fresh)), (h2, .inr (4, [.ref h2_data])), (h2_data, .inl (cI, 124, .inl v2_data))] rfl dX0_listAll_2 ?_
  refine V_iconst (pc := 5) h (v := (0 : Int32)) dX0_listAll_5 (by decide) ?_
  refine V_istore_n (pc := 6) h [(3, .int (0 : Int32)), (0, .ref h0), (1, .ref h1), (2, .ref h2)] dX0_listAll_6 (by decide) rfl ?_
  refine V_lv [1, 2, 3, 0] [(0, .ref h0), (1, .ref h1), (2, .ref h2), (3, .int (0 : Int32))] rfl ?_
  exact tfX0_listAll_l7 h 1000 _ _ _ _ _ hF
set_option maxRecDepth 100000 in
theorem k_X0_listAll (l : Launch) (D : va_G) (cI cZ : ClassId) (h0 h0_names h0_values h0_kinds h1 h1_data h1_fresh h2 h2_data : Nat) (v0_size : Int32) (v0_names : (Nat → Int32)) (v0_values : (Nat → Int32)) (v0_kinds : (Nat → Int32)) (v1_size : Int32) (v1_data : (Nat → Int32)) (v1_fresh : (Nat → Int32)) (v2_data : (Nat → Int32)) {o : Int32 × (Nat → Int32) × (Nat → Int32) × (Nat → Int32)} (hF : fX0_listAll v1_size v1_data v2_data v0_size v0_names v0_values v0_kinds = some o) : CV l yX0_listAll wsX0_listAll rmX0_listAll D cI cZ [.ref h0, .ref h1, .ref h2] [(h0, .inr (0, [.ref h0_names, .ref h0_values, .ref h0_kinds, .int v0_size])), (h0_names, .inl (cI, 80, .inl v0_names)), (h0_values, .inl (cI, 80, .inl v0_values)), (h0_kinds, .inl (cI, 80, .inl v0_kinds)), (h1, .inr (6, [.ref h1_data, .ref h1_fresh, .int v1_size])), (h1_data, .inl (cI, 56, .inl v1_data)), (h1_fresh, .inl (cI, 7, .inl v1_fresh)), (h2, .inr (4, [.ref h2_data])), (h2_data, .inl (cI, 124, .inl v2_data))] [(h0, .inr (0, [.ref h0_names, .ref h0_values, .ref h0_kinds, .int o.1])), (h0_names, .inl (cI, 80, .inl o.2.1)), (h0_values, .inl (cI, 80, .inl o.2.2.1)), (h0_kinds, .inl (cI, 80, .inl o.2.2.2)), (h1, .inr (6, [.ref h1_data, .ref h1_fresh, .int v1_size])), (h1_data, .inl (cI, 56, .inl v1_data)), (h1_fresh, .inl (cI, 7, .inl v1_fresh)), (h2, .inr (4, [.ref h2_data])), (h2_data, .inl (cI, 124, .inl v2_data))] :=
  CV_of (cc := cX0_listAll) (nL := 6) (ret := none) (by decide) rfl (Nat.le_of_ble_eq_true rfl) rfl (fun p e s m args below meth c A h => tfX0_listAll h hF)
/-! X0_name -/
abbrev rmX0_name : Room := { frames := 0, cells := 0, slots := 0, locals := 0 }
theorem uX0_name_inX0 : ∀ w ∈ wsX00, w ∈ wsX0_name := by decide +kernel
theorem uX0_name_f11 : Cond.fieldLink RX0 11 "LeafAsks$Leaves" "names" "[I" ∈ wsX0_name := by decide +kernel
noncomputable def fX0_name (v0_names : (Nat → Int32)) (x1 : Int32) : Option (Int32) :=
  if x1 < (0 : Int32) then some (0 : Int32) else if (80 : Int32) ≤ x1 then some (0 : Int32) else gin x1 80 (some (v0_names x1.toNatClampNeg))
set_option maxRecDepth 100000 in
set_option maxHeartbeats 4000000 in
theorem tfX0_name {p : Program} {l : Launch} {e : Env} {s : State} {m : MethodId} {args : Array Value} {below : List Frame} {meth : Method} {c : Code} {A : Nat → Prop} {D : va_G} {cI cZ : ClassId} (h : Cx p s m args meth c A D cI cZ 2 cX0_name RX0 wsX0_name (some .int)) {h0 h0_names h0_values h0_kinds : Nat} {x1 : Int32} {v0_size : Int32} {v0_names : (Nat → Int32)} {v0_values : (Nat → Int32)} {v0_kinds : (Nat → Int32)} {o : Int32} (hF : fX0_name v0_names x1 = some o) : V p l e rmX0_name s m args below meth c A D 2 (QI D [(h0, .inr (0, [.ref h0_names, .ref h0_values, .ref h0_kinds, .int v0_size])), (h0_names, .inl (cI, 80, .inl v0_names)), (h0_values, .inl (cI, 80, .inl v0_values)), (h0_kinds, .inl (cI, 80, .inl v0_kinds))] o A below args s) [(h0, .inr (0, [.ref h0_names, .ref h0_values, .ref h0_kinds, .int v0_size])), (h0_names, .inl (cI, 80, .inl v0_names)), (h0_values, .inl (cI, 80, .inl v0_values)), (h0_kinds, .inl (cI, 80, .inl v0_kinds))] 0 [(0, .ref h0), (1, .int x1)] [] := by
  unfold fX0_name at hF
  refine V_iload_n (pc := 0) h 1 dX0_name_0 rfl ?_
  refine V_if_lt (pc := 1) h (tgt := 19) dX0_name_1 (by decide) hF (fun hF => ?_) (fun hF => ?_)
  · refine V_iconst (pc := 19) h (v := (0 : Int32)) dX0_name_19 (by decide) ?_
    have hF := Option.some.inj hF
    subst hF
    exact V_iret (pc := 20) h dX0_name_20
  · refine V_iload_n (pc := 4) h 1 dX0_name_4 rfl ?_
    refine V_bipush (pc := 5) h (v := (80 : Int32)) dX0_name_5 (by decide) ?_
    refine V_icmp_ge (pc := 7) h (tgt := 19) dX0_name_7 (by decide) hF (fun hF => ?_) (fun hF => ?_)
    · refine V_iconst (pc := 19) h (v := (0 : Int32)) dX0_name_19 (by decide) ?_
      have hF := Option.some.inj hF
      subst hF
      exact V_iret (pc := 20) h dX0_name_20
    · refine V_aload_n (pc := 10) h 0 dX0_name_10 rfl ?_
      refine V_get (pc := 11) h uX0_name_inX0 0 0 rfl rfl (by decide) uX0_name_f11 rfl rfl dX0_name_11 ?_
      refine V_iload_n (pc := 14) h 1 dX0_name_14 rfl ?_
      refine V_iald (pc := 15) h 1 rfl dX0_name_15 hF (fun hF => ?_)
      refine V_goto (pc := 16) h (tgt := 20) dX0_name_16 (by decide) ?_
      have hF := Option.some.inj hF
      subst hF
      exact V_iret (pc := 20) h dX0_name_20
set_option maxRecDepth 100000 in
theorem k_X0_name (l : Launch) (D : va_G) (cI cZ : ClassId) (h0 h0_names h0_values h0_kinds : Nat) (v0_size : Int32) (v0_names : (Nat → Int32)) (v0_values : (Nat → Int32)) (v0_kinds : (Nat → Int32)) (x1 : Int32) {o : Int32} (hF : fX0_name v0_names x1 = some o) : CI l yX0_name wsX0_name rmX0_name D cI cZ [.ref h0, .int x1] [(h0, .inr (0, [.ref h0_names, .ref h0_values, .ref h0_kinds, .int v0_size])), (h0_names, .inl (cI, 80, .inl v0_names)), (h0_values, .inl (cI, 80, .inl v0_values)), (h0_kinds, .inl (cI, 80, .inl v0_kinds))] [(h0, .inr (0, [.ref h0_names, .ref h0_values, .ref h0_kinds, .int v0_size])), (h0_names, .inl (cI, 80, .inl v0_names)), (h0_values, .inl (cI, 80, .inl v0_values)), (h0_kinds, .inl (cI, 80, .inl v0_kinds))] o :=
  CI_of (cc := cX0_name) (nL := 2) (ret := (some .int)) (by decide) rfl (Nat.le_of_ble_eq_true rfl) rfl (fun p e s m args below meth c A h => tfX0_name h hF)
/-! X0_value -/
abbrev rmX0_value : Room := { frames := 0, cells := 0, slots := 0, locals := 0 }
theorem uX0_value_inX0 : ∀ w ∈ wsX00, w ∈ wsX0_value := by decide +kernel
theorem uX0_value_f15 : Cond.fieldLink RX0 15 "LeafAsks$Leaves" "values" "[I" ∈ wsX0_value := by decide +kernel
noncomputable def fX0_value (v0_values : (Nat → Int32)) (x1 : Int32) : Option (Int32) :=
  if x1 < (0 : Int32) then some (0 : Int32) else if (80 : Int32) ≤ x1 then some (0 : Int32) else gin x1 80 (some (v0_values x1.toNatClampNeg))
set_option maxRecDepth 100000 in
set_option maxHeartbeats 4000000 in
theorem tfX0_value {p : Program} {l : Launch} {e : Env} {s : State} {m : MethodId} {args : Array Value} {below : List Frame} {meth : Method} {c : Code} {A : Nat → Prop} {D : va_G} {cI cZ : ClassId} (h : Cx p s m args meth c A D cI cZ 2 cX0_value RX0 wsX0_value (some .int)) {h0 h0_names h0_values h0_kinds : Nat} {x1 : Int32} {v0_size : Int32} {v0_names : (Nat → Int32)} {v0_values : (Nat → Int32)} {v0_kinds : (Nat → Int32)} {o : Int32} (hF : fX0_value v0_values x1 = some o) : V p l e rmX0_value s m args below meth c A D 2 (QI D [(h0, .inr (0, [.ref h0_names, .ref h0_values, .ref h0_kinds, .int v0_size])), (h0_names, .inl (cI, 80, .inl v0_names)), (h0_values, .inl (cI, 80, .inl v0_values)), (h0_kinds, .inl (cI, 80, .inl v0_kinds))] o A below args s) [(h0, .inr (0, [.ref h0_names, .ref h0_values, .ref h0_kinds, .int v0_size])), (h0_names, .inl (cI, 80, .inl v0_names)), (h0_values, .inl (cI, 80, .inl v0_values)), (h0_kinds, .inl (cI, 80, .inl v0_kinds))] 0 [(0, .ref h0), (1, .int x1)] [] := by
  unfold fX0_value at hF
  refine V_iload_n (pc := 0) h 1 dX0_value_0 rfl ?_
  refine V_if_lt (pc := 1) h (tgt := 19) dX0_value_1 (by decide) hF (fun hF => ?_) (fun hF => ?_)
  · refine V_iconst (pc := 19) h (v := (0 : Int32)) dX0_value_19 (by decide) ?_
    have hF := Option.some.inj hF
    subst hF
    exact V_iret (pc := 20) h dX0_value_20
  · refine V_iload_n (pc := 4) h 1 dX0_value_4 rfl ?_
    refine V_bipush (pc := 5) h (v := (80 : Int32)) dX0_value_5 (by decide) ?_
    refine V_icmp_ge (pc := 7) h (tgt := 19) dX0_value_7 (by decide) hF (fun hF => ?_) (fun hF => ?_)
    · refine V_iconst (pc := 19) h (v := (0 : Int32)) dX0_value_19 (by decide) ?_
      have hF := Option.some.inj hF
      subst hF
      exact V_iret (pc := 20) h dX0_value_20
    · refine V_aload_n (pc := 10) h 0 dX0_value_10 rfl ?_
      refine V_get (pc := 11) h uX0_value_inX0 0 1 rfl rfl (by decide) uX0_value_f15 rfl rfl dX0_value_11 ?_
      refine V_iload_n (pc := 14) h 1 dX0_value_14 rfl ?_
      refine V_iald (pc := 15) h 2 rfl dX0_value_15 hF (fun hF => ?_)
      refine V_goto (pc := 16) h (tgt := 20) dX0_value_16 (by decide) ?_
      have hF := Option.some.inj hF
      subst hF
      exact V_iret (pc := 20) h dX0_value_20
set_option maxRecDepth 100000 in
theorem k_X0_value (l : Launch) (D : va_G) (cI cZ : ClassId) (h0 h0_names h0_values h0_kinds : Nat) (v0_size : Int32) (v0_names : (Nat → Int32)) (v0_values : (Nat → Int32)) (v0_kinds : (Nat → Int32)) (x1 : Int32) {o : Int32} (hF : fX0_value v0_values x1 = some o) : CI l yX0_value wsX0_value rmX0_value D cI cZ [.ref h0, .int x1] [(h0, .inr (0, [.ref h0_names, .ref h0_values, .ref h0_kinds, .int v0_size])), (h0_names, .inl (cI, 80, .inl v0_names)), (h0_values, .inl (cI, 80, .inl v0_values)), (h0_kinds, .inl (cI, 80, .inl v0_kinds))] [(h0, .inr (0, [.ref h0_names, .ref h0_values, .ref h0_kinds, .int v0_size])), (h0_names, .inl (cI, 80, .inl v0_names)), (h0_values, .inl (cI, 80, .inl v0_values)), (h0_kinds, .inl (cI, 80, .inl v0_kinds))] o :=
  CI_of (cc := cX0_value) (nL := 2) (ret := (some .int)) (by decide) rfl (Nat.le_of_ble_eq_true rfl) rfl (fun p e s m args below meth c A h => tfX0_value h hF)
