/-! X0_kind -/
abbrev rmX0_kind : Room := { frames := 0, cells := 0, slots := 0, locals := 0 }
theorem uX0_kind_inX0 : ∀ w ∈ wsX00, w ∈ wsX0_kind := by decide +kernel
theorem uX0_kind_f18 : Cond.fieldLink RX0 18 "LeafAsks$Leaves" "kinds" "[I" ∈ wsX0_kind := by decide +kernel
noncomputable def fX0_kind (v0_kinds : (Nat → Int32)) (x1 : Int32) : Option (Int32) :=
  if x1 < (0 : Int32) then some (0 : Int32) else if (80 : Int32) ≤ x1 then some (0 : Int32) else gin x1 80 (some (v0_kinds x1.toNatClampNeg))
set_option maxRecDepth 100000 in
set_option maxHeartbeats 4000000 in
theorem tfX0_kind {p : Program} {l : Launch} {e : Env} {s : State} {m : MethodId} {args : Array Value} {below : List Frame} {meth : Method} {c : Code} {A : Nat → Prop} {D : va_G} {cI cZ : ClassId} (h : Cx p s m args meth c A D cI cZ 2 cX0_kind RX0 wsX0_kind (some .int)) {h0 h0_names h0_values h0_kinds : Nat} {x1 : Int32} {v0_size : Int32} {v0_names : (Nat → Int32)} {v0_values : (Nat → Int32)} {v0_kinds : (Nat → Int32)} {o : Int32} (hF : fX0_kind v0_kinds x1 = some o) : V p l e rmX0_kind s m args below meth c A D 2 (QI D [(h0, .inr (0, [.ref h0_names, .ref h0_values, .ref h0_kinds, .int v0_size])), (h0_names, .inl (cI, 80, .inl v0_names)), (h0_values, .inl (cI, 80, .inl v0_values)), (h0_kinds, .inl (cI, 80, .inl v0_kinds))] o A below args s) [(h0, .inr (0, [.ref h0_names, .ref h0_values, .ref h0_kinds, .int v0_size])), (h0_names, .inl (cI, 80, .inl v0_names)), (h0_values, .inl (cI, 80, .inl v0_values)), (h0_kinds, .inl (cI, 80, .inl v0_kinds))] 0 [(0, .ref h0), (1, .int x1)] [] := by
  unfold fX0_kind at hF
  refine V_iload_n (pc := 0) h 1 dX0_kind_0 rfl ?_
  refine V_if_lt (pc := 1) h (tgt := 19) dX0_kind_1 (by decide) hF (fun hF => ?_) (fun hF => ?_)
  · refine V_iconst (pc := 19) h (v := (0 : Int32)) dX0_kind_19 (by decide) ?_
    have hF := Option.some.inj hF
    subst hF
    exact V_iret (pc := 20) h dX0_kind_20
  · refine V_iload_n (pc := 4) h 1 dX0_kind_4 rfl ?_
    refine V_bipush (pc := 5) h (v := (80 : Int32)) dX0_kind_5 (by decide) ?_
    refine V_icmp_ge (pc := 7) h (tgt := 19) dX0_kind_7 (by decide) hF (fun hF => ?_) (fun hF => ?_)
    · refine V_iconst (pc := 19) h (v := (0 : Int32)) dX0_kind_19 (by decide) ?_
      have hF := Option.some.inj hF
      subst hF
      exact V_iret (pc := 20) h dX0_kind_20
    · refine V_aload_n (pc := 10) h 0 dX0_kind_10 rfl ?_
      refine V_get (pc := 11) h uX0_kind_inX0 0 2 rfl rfl (by decide) uX0_kind_f18 rfl rfl dX0_kind_11 ?_
      refine V_iload_n (pc := 14) h 1 dX0_kind_14 rfl ?_
      refine V_iald (pc := 15) h 3 rfl dX0_kind_15 hF (fun hF => ?_)
      refine V_goto (pc := 16) h (tgt := 20) dX0_kind_16 (by decide) ?_
      have hF := Option.some.inj hF
      subst hF
      exact V_iret (pc := 20) h dX0_kind_20
set_option maxRecDepth 100000 in
theorem k_X0_kind (l : Launch) (D : va_G) (cI cZ : ClassId) (h0 h0_names h0_values h0_kinds : Nat) (v0_size : Int32) (v0_names : (Nat → Int32)) (v0_values : (Nat → Int32)) (v0_kinds : (Nat → Int32)) (x1 : Int32) {o : Int32} (hF : fX0_kind v0_kinds x1 = some o) : CI l yX0_kind wsX0_kind rmX0_kind D cI cZ [.ref h0, .int x1] [(h0, .inr (0, [.ref h0_names, .ref h0_values, .ref h0_kinds, .int v0_size])), (h0_names, .inl (cI, 80, .inl v0_names)), (h0_values, .inl (cI, 80, .inl v0_values)), (h0_kinds, .inl (cI, 80, .inl v0_kinds))] [(h0, .inr (0, [.ref h0_names, .ref h0_values, .ref h0_kinds, .int v0_size])), (h0_names, .inl (cI, 80, .inl v0_names)), (h0_values, .inl (cI, 80, .inl v0_values)), (h0_kinds, .inl (cI, 80, .inl v0_kinds))] o :=
  CI_of (cc := cX0_kind) (nL := 2) (ret := (some .int)) (by decide) rfl (Nat.le_of_ble_eq_true rfl) rfl (fun p e s m args below meth c A h => tfX0_kind h hF)
/-! X0_firstFrom -/
abbrev rmX0_firstFrom : Room := { frames := 1, cells := 0, slots := 0, locals := 21 }
theorem uX0_firstFrom_inX0 : ∀ w ∈ wsX00, w ∈ wsX0_firstFrom := by decide +kernel
theorem uX0_firstFrom_f21 : Cond.fieldLink RX0 21 "LeafAsks$Leaves" "size" "I" ∈ wsX0_firstFrom := by decide +kernel
noncomputable def fX0_firstFrom_b2 (v0_size : Int32) (v0_names : (Nat → Int32)) (x1 : Int32) (k2 : Int32 → Option (Int32)) (x2 : Int32) : Option (Int32) :=
  if v0_size ≤ x2 then some (-9 : Int32) else bd (fX0_name v0_names x2) (fun r12 => if r12 < x1 then bnd (x2 + (1 : Int32)) (fun x2_21 => k2 x2_21) else some x2)
set_option maxRecDepth 100000 in
set_option maxHeartbeats 4000000 in
theorem tfX0_firstFrom_b2 {p : Program} {l : Launch} {e : Env} {s : State} {m : MethodId} {args : Array Value} {below : List Frame} {meth : Method} {c : Code} {A : Nat → Prop} {D : va_G} {cI cZ : ClassId} (h : Cx p s m args meth c A D cI cZ 3 cX0_firstFrom RX0 wsX0_firstFrom (some .int)) {h0 h0_names h0_values h0_kinds : Nat} {x1 : Int32} {v0_size : Int32} {v0_names : (Nat → Int32)} {v0_values : (Nat → Int32)} {v0_kinds : (Nat → Int32)} {k2 : Int32 → Option (Int32)} {x2 : Int32} {o : Int32} (hk2 : ∀ (x2 : Int32), k2 x2 = some o → V p l e rmX0_firstFrom s m args below meth c A D 3 (QI D [(h0, .inr (0, [.ref h0_names, .ref h0_values, .ref h0_kinds, .int v0_size])), (h0_names, .inl (cI, 80, .inl v0_names)), (h0_values, .inl (cI, 80, .inl v0_values)), (h0_kinds, .inl (cI, 80, .inl v0_kinds))] o A below args s) [(h0, .inr (0, [.ref h0_names, .ref h0_values, .ref h0_kinds, .int v0_size])), (h0_names, .inl (cI, 80, .inl v0_names)), (h0_values, .inl (cI, 80, .inl v0_values)), (h0_kinds, .inl (cI, 80, .inl v0_kinds))] 2 [(0, .ref h0), (1, .int x1), (2, .int x2)] []) (hF : fX0_firstFrom_b2 v0_size v0_names x1 k2 x2 = some o) : V p l e rmX0_firstFrom s m args below meth c A D 3 (QI D [(h0, .inr (0, [.ref h0_names, .ref h0_values, .ref h0_kinds, .int v0_size])), (h0_names, .inl (cI, 80, .inl v0_names)), (h0_values, .inl (cI, 80, .inl v0_values)), (h0_kinds, .inl (cI, 80, .inl v0_kinds))] o A below args s) [(h0, .inr (0, [.ref h0_names, .ref h0_values, .ref h0_kinds, .int v0_size])), (h0_names, .inl (cI, 80, .inl v0_names)), (h0_values, .inl (cI, 80, .inl v0_values)), (h0_kinds, .inl (cI, 80, .inl v0_kinds))] 2 [(0, .ref h0), (1, .int x1), (2, .int x2)] [] := by
  unfold fX0_firstFrom_b2 at hF
  refine V_iload_n (pc := 2) h 2 dX0_firstFrom_2 rfl ?_
  refine V_aload_n (pc := 3) h 0 dX0_firstFrom_3 rfl ?_
  refine V_get (pc := 4) h uX0_firstFrom_inX0 0 3 rfl rfl (by decide) uX0_firstFrom_f21 rfl rfl dX0_firstFrom_4 ?_
  refine V_icmp_ge (pc := 7) h (tgt := 27) dX0_firstFrom_7 (by decide) hF (fun hF => ?_) (fun hF => ?_)
  · refine V_bipush (pc := 27) h (v := (-9 : Int32)) dX0_firstFrom_27 (by decide) ?_
    have hF := Option.some.inj hF
    subst hF
    exact V_iret (pc := 29) h dX0_firstFrom_29
  · refine V_aload_n (pc := 10) h 0 dX0_firstFrom_10 rfl ?_
    refine V_iload_n (pc := 11) h 2 dX0_firstFrom_11 rfl ?_
    refine V_ciVA (pc := 12) h (n := 1) (bytes := cX0_name) (maxL := 2) (As := [.int x2]) (rest := []) gX0_firstFrom_X0_name (by decide +kernel) rfl rfl rfl rfl ⟨rfl, rfl⟩ ⟨Nat.le_of_ble_eq_true rfl, Nat.le_of_ble_eq_true rfl⟩ rfl rfl (Nat.le_of_ble_eq_true rfl) dX0_firstFrom_12 hF (fun r12 hG => k_X0_name l D cI cZ h0 h0_names h0_values h0_kinds v0_size v0_names v0_values v0_kinds x2 hG) (fun r12 hF => ?_)
    refine V_iload_n (pc := 15) h 1 dX0_firstFrom_15 rfl ?_
    refine V_icmp_lt (pc := 16) h (tgt := 21) dX0_firstFrom_16 (by decide) hF (fun hF => ?_) (fun hF => ?_)
    · refine V_iinc (pc := 21) h 2 (fun x2_21 => [(2, .int x2_21), (0, .ref h0), (1, .int x1)]) dX0_firstFrom_21 rfl rfl (by decide) (fun _ => rfl) hF (fun x2_21 hF => ?_)
      refine V_goto (pc := 24) h (tgt := 2) dX0_firstFrom_24 (by decide) ?_
      refine V_lv [1, 2, 0] [(0, .ref h0), (1, .int x1), (2, .int x2_21)] rfl ?_
      exact hk2 _ hF
    · refine V_iload_n (pc := 19) h 2 dX0_firstFrom_19 rfl ?_
      have hF := Option.some.inj hF
      subst hF
      exact V_iret (pc := 20) h dX0_firstFrom_20
noncomputable def fX0_firstFrom_l2 (v0_size : Int32) (v0_names : (Nat → Int32)) (x1 : Int32) (n : Nat) : Int32 → Option (Int32) :=
  Nat.rec (motive := fun _ => Int32 → Option (Int32)) (fun _ => none) (fun _ ih => fX0_firstFrom_b2 v0_size v0_names x1 ih) n
theorem fX0_firstFrom_l2_s (v0_size : Int32) (v0_names : (Nat → Int32)) (x1 : Int32) (n : Nat) (x2 : Int32) : fX0_firstFrom_l2 v0_size v0_names x1 (n + 1) x2 = fX0_firstFrom_b2 v0_size v0_names x1 (fX0_firstFrom_l2 v0_size v0_names x1 n) x2 := rfl
set_option maxRecDepth 100000 in
set_option maxHeartbeats 4000000 in
theorem tfX0_firstFrom_l2 {p : Program} {l : Launch} {e : Env} {s : State} {m : MethodId} {args : Array Value} {below : List Frame} {meth : Method} {c : Code} {A : Nat → Prop} {D : va_G} {cI cZ : ClassId} (h : Cx p s m args meth c A D cI cZ 3 cX0_firstFrom RX0 wsX0_firstFrom (some .int)) {h0 h0_names h0_values h0_kinds : Nat} {x1 : Int32} {v0_size : Int32} {v0_names : (Nat → Int32)} {v0_values : (Nat → Int32)} {v0_kinds : (Nat → Int32)} {o : Int32} (n : Nat) : ∀ (x2 : Int32) (hF : fX0_firstFrom_l2 v0_size v0_names x1 n x2 = some o), V p l e rmX0_firstFrom s m args below meth c A D 3 (QI D [(h0, .inr (0, [.ref h0_names, .ref h0_values, .ref h0_kinds, .int v0_size])), (h0_names, .inl (cI, 80, .inl v0_names)), (h0_values, .inl (cI, 80, .inl v0_values)), (h0_kinds, .inl (cI, 80, .inl v0_kinds))] o A below args s) [(h0, .inr (0, [.ref h0_names, .ref h0_values, .ref h0_kinds, .int v0_size])), (h0_names, .inl (cI, 80, .inl v0_names)), (h0_values, .inl (cI, 80, .inl v0_values)), (h0_kinds, .inl (cI, 80, .inl v0_kinds))] 2 [(0, .ref h0), (1, .int x1), (2, .int x2)] [] := by
  induction n with
  | zero => intro x2 hF; exact nomatch (show (none : Option (Int32)) = some o from hF)
  | succ n ih => intro x2 hF; exact tfX0_firstFrom_b2 (x1 := x1) (k2 := fX0_firstFrom_l2 v0_size v0_names x1 n) h ih hF
noncomputable def fX0_firstFrom (v0_size : Int32) (v0_names : (Nat → Int32)) (x1 : Int32) : Option (Int32) :=
  fX0_firstFrom_l2 v0_size v0_names x1 1000 (0 : Int32)
set_option maxRecDepth 100000 in
set_option maxHeartbeats 4000000 in
theorem tfX0_firstFrom {p : Program} {l : Launch} {e : Env} {s : State} {m : MethodId} {args : Array Value} {below : List Frame} {meth : Method} {c : Code} {A : Nat → Prop} {D : va_G} {cI cZ : ClassId} (h : Cx p s m args meth c A D cI cZ 3 cX0_firstFrom RX0 wsX0_firstFrom (some .int)) {h0 h0_names h0_values h0_kinds : Nat} {x1 : Int32} {v0_size : Int32} {v0_names : (Nat → Int32)} {v0_values : (Nat → Int32)} {v0_kinds : (Nat → Int32)} {o : Int32} (hF : fX0_firstFrom v0_size v0_names x1 = some o) : V p l e rmX0_firstFrom s m args below meth c A D 3 (QI D [(h0, .inr (0, [.ref h0_names, .ref h0_values, .ref h0_kinds, .int v0_size])), (h0_names, .inl (cI, 80, .inl v0_names)), (h0_values, .inl (cI, 80, .inl v0_values)), (h0_kinds, .inl (cI, 80, .inl v0_kinds))] o A below args s) [(h0, .inr (0, [.ref h0_names, .ref h0_values, .ref h0_kinds, .int v0_size])), (h0_names, .inl (cI, 80, .inl v0_names)), (h0_values, .inl (cI, 80, .inl v0_values)), (h0_kinds, .inl (cI, 80, .inl v0_kinds))] 0 [(0, .ref h0), (1, .int x1)] [] := by
  unfold fX0_firstFrom at hF
  refine V_iconst (pc := 0) h (v := (0 : Int32)) dX0_firstFrom_0 (by decide) ?_
  refine V_istore_n (pc := 1) h [(2, .int (0 : Int32)), (0, .ref h0), (1, .int x1)] dX0_firstFrom_1 (by decide) rfl ?_
  refine V_lv [1, 2, 0] [(0, .ref h0), (1, .int x1), (2, .int (0 : Int32))] rfl ?_
  exact tfX0_firstFrom_l2 h 1000 _ hF
set_option maxRecDepth 100000 in
theorem k_X0_firstFrom (l : Launch) (D : va_G) (cI cZ : ClassId) (h0 h0_names h0_values h0_kinds : Nat) (v0_size : Int32) (v0_names : (Nat → Int32)) (v0_values : (Nat → Int32)) (v0_kinds : (Nat → Int32)) (x1 : Int32) {o : Int32} (hF : fX0_firstFrom v0_size v0_names x1 = some o) : CI l yX0_firstFrom wsX0_firstFrom rmX0_firstFrom D cI cZ [.ref h0, .int x1] [(h0, .inr (0, [.ref h0_names, .ref h0_values, .ref h0_kinds, .int v0_size])), (h0_names, .inl (cI, 80, .inl v0_names)), (h0_values, .inl (cI, 80, .inl v0_values)), (h0_kinds, .inl (cI, 80, .inl v0_kinds))] [(h0, .inr (0, [.ref h0_names, .ref h0_values, .ref h0_kinds, .int v0_size])), (h0_names, .inl (cI, 80, .inl v0_names)), (h0_values, .inl (cI, 80, .inl v0_values)), (h0_kinds, .inl (cI, 80, .inl v0_kinds))] o :=
  CI_of (cc := cX0_firstFrom) (nL := 3) (ret := (some .int)) (by decide) rfl (Nat.le_of_ble_eq_true rfl) rfl (fun p e s m args below meth c A h => tfX0_firstFrom h hF)
/-! X0_roomOf -/
abbrev rmX0_roomOf : Room := { frames := 1, cells := 0, slots := 0, locals := 21 }
theorem uX0_roomOf_nitX8 : Cond.initialized RX8 ∈ wsX0_roomOf := by decide +kernel
theorem uX0_roomOf_staX8_numberOf : Cond.static yX8_numberOf ∈ wsX0_roomOf := by decide +kernel
noncomputable def fX0_roomOf_b18 (v0_names : (Nat → Int32)) (v0_values : (Nat → Int32)) (x1 : Int32) (s0 : Int32) : Option (Int32) :=
  bd (fX0_value v0_values x1) (fun r21 => if (10 : Int32) ≤ r21 then if (100 : Int32) ≤ r21 then some ((s0 + (3 : Int32))) else some ((s0 + (2 : Int32))) else some ((s0 + (1 : Int32))))
set_option maxRecDepth 100000 in
set_option maxHeartbeats 4000000 in
theorem tfX0_roomOf_b18 {p : Program} {l : Launch} {e : Env} {s : State} {m : MethodId} {args : Array Value} {below : List Frame} {meth : Method} {c : Code} {A : Nat → Prop} {D : va_G} {cI cZ : ClassId} (h : Cx p s m args meth c A D cI cZ 5 cX0_roomOf RX0 wsX0_roomOf (some .int)) {h0 h0_names h0_values h0_kinds : Nat} {x1 : Int32} {v0_size : Int32} {v0_names : (Nat → Int32)} {v0_values : (Nat → Int32)} {v0_kinds : (Nat → Int32)} {s0 : Int32} {o : Int32} (hF : fX0_roomOf_b18 v0_names v0_values x1 s0 = some o) : V p l e rmX0_roomOf s m args below meth c A D 5 (QI D [(h0, .inr (0, [.ref h0_names, .ref h0_values, .ref h0_kinds, .int v0_size])), (h0_names, .inl (cI, 80, .inl v0_names)), (h0_values, .inl (cI, 80, .inl v0_values)), (h0_kinds, .inl (cI, 80, .inl v0_kinds))] o A below args s) [(h0, .inr (0, [.ref h0_names, .ref h0_values, .ref h0_kinds, .int v0_size])), (h0_names, .inl (cI, 80, .inl v0_names)), (h0_values, .inl (cI, 80, .inl v0_values)), (h0_kinds, .inl (cI, 80, .inl v0_kinds))] 18 [(0, .ref h0), (1, .int x1)] [.int s0] := by
  unfold fX0_roomOf_b18 at hF
  refine V_istore_n (pc := 18) h [(2, .int s0), (0, .ref h0), (1, .int x1)] dX0_roomOf_18 (by decide) rfl ?_
  refine V_aload_n (pc := 19) h 1 dX0_roomOf_19 rfl ?_
  refine V_iload_n (pc := 20) h 2 dX0_roomOf_20 rfl ?_
  refine V_ciVA (pc := 21) h (n := 1) (bytes := cX0_value) (maxL := 2) (As := [.int x1]) (rest := []) gX0_roomOf_X0_value (by decide +kernel) rfl rfl rfl rfl ⟨rfl, rfl⟩ ⟨Nat.le_of_ble_eq_true rfl, Nat.le_of_ble_eq_true rfl⟩ rfl rfl (Nat.le_of_ble_eq_true rfl) dX0_roomOf_21 hF (fun r21 hG => k_X0_value l D cI cZ h0 h0_names h0_values h0_kinds v0_size v0_names v0_values v0_kinds x1 hG) (fun r21 hF => ?_)
  refine V_istore_n (pc := 24) h [(3, .int r21), (2, .int s0), (0, .ref h0), (1, .int x1)] dX0_roomOf_24 (by decide) rfl ?_
  refine V_iload_n (pc := 25) h 0 dX0_roomOf_25 rfl ?_
  refine V_bipush (pc := 26) h (v := (10 : Int32)) dX0_roomOf_26 (by decide) ?_
  refine V_icmp_ge (pc := 28) h (tgt := 35) dX0_roomOf_28 (by decide) hF (fun hF => ?_) (fun hF => ?_)
  · refine V_iload_n (pc := 35) h 0 dX0_roomOf_35 rfl ?_
    refine V_bipush (pc := 36) h (v := (100 : Int32)) dX0_roomOf_36 (by decide) ?_
    refine V_icmp_ge (pc := 38) h (tgt := 45) dX0_roomOf_38 (by decide) hF (fun hF => ?_) (fun hF => ?_)
    · refine V_iconst (pc := 45) h (v := (3 : Int32)) dX0_roomOf_45 (by decide) ?_
      refine V_istore (pc := 46) h [(4, .int (3 : Int32)), (3, .int r21), (2, .int s0), (0, .ref h0), (1, .int x1)] dX0_roomOf_46 (by decide) rfl ?_
      refine V_iload_n (pc := 48) h 2 dX0_roomOf_48 rfl ?_
      refine V_iload (pc := 49) h 0 dX0_roomOf_49 rfl ?_
      refine V_iadd (pc := 51) h dX0_roomOf_51 ?_
      have hF := Option.some.inj hF
      subst hF
      exact V_iret (pc := 52) h dX0_roomOf_52
    · refine V_iconst (pc := 41) h (v := (2 : Int32)) dX0_roomOf_41 (by decide) ?_
      refine V_goto (pc := 42) h (tgt := 46) dX0_roomOf_42 (by decide) ?_
      refine V_istore (pc := 46) h [(4, .int (2 : Int32)), (3, .int r21), (2, .int s0), (0, .ref h0), (1, .int x1)] dX0_roomOf_46 (by decide) rfl ?_
      refine V_iload_n (pc := 48) h 2 dX0_roomOf_48 rfl ?_
      refine V_iload (pc := 49) h 0 dX0_roomOf_49 rfl ?_
      refine V_iadd (pc := 51) h dX0_roomOf_51 ?_
      have hF := Option.some.inj hF
      subst hF
      exact V_iret (pc := 52) h dX0_roomOf_52
  · refine V_iconst (pc := 31) h (v := (1 : Int32)) dX0_roomOf_31 (by decide) ?_
    refine V_goto (pc := 32) h (tgt := 46) dX0_roomOf_32 (by decide) ?_
    refine V_istore (pc := 46) h [(4, .int (1 : Int32)), (3, .int r21), (2, .int s0), (0, .ref h0), (1, .int x1)] dX0_roomOf_46 (by decide) rfl ?_
    refine V_iload_n (pc := 48) h 2 dX0_roomOf_48 rfl ?_
    refine V_iload (pc := 49) h 0 dX0_roomOf_49 rfl ?_
    refine V_iadd (pc := 51) h dX0_roomOf_51 ?_
    have hF := Option.some.inj hF
    subst hF
    exact V_iret (pc := 52) h dX0_roomOf_52
noncomputable def fX0_roomOf (v0_names : (Nat → Int32)) (v0_values : (Nat → Int32)) (x1 : Int32) : Option (Int32) :=
  bd (fX0_name v0_names x1) (fun r2 => bd (fX8_numberOf r2 (3 : Int32)) (fun r6 => if r6 = (-1 : Int32) then fX0_roomOf_b18 v0_names v0_values x1 (3 : Int32) else fX0_roomOf_b18 v0_names v0_values x1 (4 : Int32)))
set_option maxRecDepth 100000 in
set_option maxHeartbeats 4000000 in
theorem tfX0_roomOf {p : Program} {l : Launch} {e : Env} {s : State} {m : MethodId} {args : Array Value} {below : List Frame} {meth : Method} {c : Code} {A : Nat → Prop} {D : va_G} {cI cZ : ClassId} (h : Cx p s m args meth c A D cI cZ 5 cX0_roomOf RX0 wsX0_roomOf (some .int)) {h0 h0_names h0_values h0_kinds : Nat} {x1 : Int32} {v0_size : Int32} {v0_names : (Nat → Int32)} {v0_values : (Nat → Int32)} {v0_kinds : (Nat → Int32)} {o : Int32} (hF : fX0_roomOf v0_names v0_values x1 = some o) : V p l e rmX0_roomOf s m args below meth c A D 5 (QI D [(h0, .inr (0, [.ref h0_names, .ref h0_values, .ref h0_kinds, .int v0_size])), (h0_names, .inl (cI, 80, .inl v0_names)), (h0_values, .inl (cI, 80, .inl v0_values)), (h0_kinds, .inl (cI, 80, .inl v0_kinds))] o A below args s) [(h0, .inr (0, [.ref h0_names, .ref h0_values, .ref h0_kinds, .int v0_size])), (h0_names, .inl (cI, 80, .inl v0_names)), (h0_values, .inl (cI, 80, .inl v0_values)), (h0_kinds, .inl (cI, 80, .inl v0_kinds))] 0 [(0, .ref h0), (1, .int x1)] [] := by
  unfold fX0_roomOf at hF
  refine V_aload_n (pc := 0) h 0 dX0_roomOf_0 rfl ?_
  refine V_iload_n (pc := 1) h 1 dX0_roomOf_1 rfl ?_
  refine V_ciVA (pc := 2) h (n := 1) (bytes := cX0_name) (maxL := 2) (As := [.int x1]) (rest := []) gX0_roomOf_X0_name (by decide +kernel) rfl rfl rfl rfl ⟨rfl, rfl⟩ ⟨Nat.le_of_ble_eq_true rfl, Nat.le_of_ble_eq_true rfl⟩ rfl rfl (Nat.le_of_ble_eq_true rfl) dX0_roomOf_2 hF (fun r2 hG => k_X0_name l D cI cZ h0 h0_names h0_values h0_kinds v0_size v0_names v0_values v0_kinds x1 hG) (fun r2 hF => ?_)
  refine V_iconst (pc := 5) h (v := (3 : Int32)) dX0_roomOf_5 (by decide) ?_
  refine V_ciSN (pc := 6) h (n := 2) (bytes := cX8_numberOf) (maxL := 2) (As := [.int r2, .int (3 : Int32)]) (rest := []) ggX0_roomOf_X8_numberOf h.2.2.2.1.2.2.2.2.1 uX0_roomOf_nitX8 uX0_roomOf_staX8_numberOf (by decide +kernel) rfl ⟨rfl, rfl⟩ ⟨Nat.le_of_ble_eq_true rfl, Nat.le_of_ble_eq_true rfl⟩ [] rfl (by decide) rfl (fun r6 => [(h0, .inr (0, [.ref h0_names, .ref h0_values, .ref h0_kinds, .int v0_size])), (h0_names, .inl (cI, 80, .inl v0_names)), (h0_values, .inl (cI, 80, .inl v0_values)), (h0_kinds, .inl (cI, 80, .inl v0_kinds))]) (fun _ => rfl) (fun _ => rfl) rfl (Nat.le_of_ble_eq_true rfl) dX0_roomOf_6 hF (fun r6 hG => k_X8_numberOf l D cI cZ r2 (3 : Int32) hG) (fun r6 hF => ?_)
  refine V_iconst (pc := 9) h (v := (-1 : Int32)) dX0_roomOf_9 (by decide) ?_
  refine V_icmp_ne (pc := 10) h (tgt := 17) dX0_roomOf_10 (by decide) hF (fun hF => ?_) (fun hF => ?_)
  · refine V_iconst (pc := 17) h (v := (4 : Int32)) dX0_roomOf_17 (by decide) ?_
    exact tfX0_roomOf_b18 h hF
  · refine V_iconst (pc := 13) h (v := (3 : Int32)) dX0_roomOf_13 (by decide) ?_
    refine V_goto (pc := 14) h (tgt := 18) dX0_roomOf_14 (by decide) ?_
    exact tfX0_roomOf_b18 h hF
set_option maxRecDepth 100000 in
theorem k_X0_roomOf (l : Launch) (D : va_G) (cI cZ : ClassId) (h0 h0_names h0_values h0_kinds : Nat) (v0_size : Int32) (v0_names : (Nat → Int32)) (v0_values : (Nat → Int32)) (v0_kinds : (Nat → Int32)) (x1 : Int32) {o : Int32} (hF : fX0_roomOf v0_names v0_values x1 = some o) : CI l yX0_roomOf wsX0_roomOf rmX0_roomOf D cI cZ [.ref h0, .int x1] [(h0, .inr (0, [.ref h0_names, .ref h0_values, .ref h0_kinds, .int v0_size])), (h0_names, .inl (cI, 80, .inl v0_names)), (h0_values, .inl (cI, 80, .inl v0_values)), (h0_kinds, .inl (cI, 80, .inl v0_kinds))] [(h0, .inr (0, [.ref h0_names, .ref h0_values, .ref h0_kinds, .int v0_size])), (h0_names, .inl (cI, 80, .inl v0_names)), (h0_values, .inl (cI, 80, .inl v0_values)), (h0_kinds, .inl (cI, 80, .inl v0_kinds))] o :=
  CI_of (cc := cX0_roomOf) (nL := 5) (ret := (some .int)) (by decide) rfl (Nat.le_of_ble_eq_true rfl) rfl (fun p e s m args below meth c A h => tfX0_roomOf h hF)
/-! X0_fitting -/
abbrev rmX0_fitting : Room := { frames := 2, cells := 0, slots := 0, locals := 45 }
theorem uX0_fitting_inX0 : ∀ w ∈ wsX00, w ∈ wsX0_fitting := by decide +kernel
theorem uX0_fitting_f21 : Cond.fieldLink RX0 21 "LeafAsks$Leaves" "size" "I" ∈ wsX0_fitting := by decide +kernel
noncomputable def fX0_fitting_b9 (v0_size : Int32) (v0_names : (Nat → Int32)) (v0_values : (Nat → Int32)) (x1 : Int32) (x2 : Int32) (x3 : Int32) (k9 : Int32 → Int32 → Int32 → Option (Int32)) (x4 : Int32) (x5 : Int32) (x6 : Int32) : Option (Int32) :=
  if v0_size ≤ x6 then some x4 else if x2 ≤ x4 then some x4 else bd (fX0_roomOf v0_names v0_values x6) (fun r29 => bnd (x5 + r29) (fun x5_33 => if x5_33 ≤ x3 then bnd (x4 + (1 : Int32)) (fun x4_44 => bnd (x6 + (1 : Int32)) (fun x6_47 => k9 x4_44 x5_33 x6_47)) else some x4))
set_option maxRecDepth 100000 in
set_option maxHeartbeats 4000000 in
theorem tfX0_fitting_b9 {p : Program} {l : Launch} {e : Env} {s : State} {m : MethodId} {args : Array Value} {below : List Frame} {meth : Method} {c : Code} {A : Nat → Prop} {D : va_G} {cI cZ : ClassId} (h : Cx p s m args meth c A D cI cZ 7 cX0_fitting RX0 wsX0_fitting (some .int)) {h0 h0_names h0_values h0_kinds : Nat} {x1 : Int32} {x2 : Int32} {x3 : Int32} {v0_size : Int32} {v0_names : (Nat → Int32)} {v0_values : (Nat → Int32)} {v0_kinds : (Nat → Int32)} {k9 : Int32 → Int32 → Int32 → Option (Int32)} {x4 : Int32} {x5 : Int32} {x6 : Int32} {o : Int32} (hk9 : ∀ (x4 : Int32) (x5 : Int32) (x6 : Int32), k9 x4 x5 x6 = some o → V p l e rmX0_fitting s m args below meth c A D 7 (QI D [(h0, .inr (0, [.ref h0_names, .ref h0_values, .ref h0_kinds, .int v0_size])), (h0_names, .inl (cI, 80, .inl v0_names)), (h0_values, .inl (cI, 80, .inl v0_values)), (h0_kinds, .inl (cI, 80, .inl v0_kinds))] o A below args s) [(h0, .inr (0, [.ref h0_names, .ref h0_values, .ref h0_kinds, .int v0_size])), (h0_names, .inl (cI, 80, .inl v0_names)), (h0_values, .inl (cI, 80, .inl v0_values)), (h0_kinds, .inl (cI, 80, .inl v0_kinds))] 9 [(0, .ref h0), (2, .int x2), (3, .int x3), (4, .int x4), (5, .int x5), (6, .int x6)] []) (hF : fX0_fitting_b9 v0_size v0_names v0_values x1 x2 x3 k9 x4 x5 x6 = some o) : V p l e rmX0_fitting s m args below meth c A D 7 (QI D [(h0, .inr (0, [.ref h0_names, .ref h0_values, .ref h0_kinds, .int v0_size])), (h0_names, .inl (cI, 80, .inl v0_names)), (h0_values, .inl (cI, 80, .inl v0_values)), (h0_kinds, .inl (cI, 80, .inl v0_kinds))] o A below args s) [(h0, .inr (0, [.ref h0_names, .ref h0_values, .ref h0_kinds, .int v0_size])), (h0_names, .inl (cI, 80, .inl v0_names)), (h0_values, .inl (cI, 80, .inl v0_values)), (h0_kinds, .inl (cI, 80, .inl v0_kinds))] 9 [(0, .ref h0), (2, .int x2), (3, .int x3), (4, .int x4), (5, .int x5), (6, .int x6)] [] := by
  unfold fX0_fitting_b9 at hF
  refine V_iload (pc := 9) h 5 dX0_fitting_9 rfl ?_
  refine V_aload_n (pc := 11) h 0 dX0_fitting_11 rfl ?_
  refine V_get (pc := 12) h uX0_fitting_inX0 0 3 rfl rfl (by decide) uX0_fitting_f21 rfl rfl dX0_fitting_12 ?_
  refine V_icmp_ge (pc := 15) h (tgt := 53) dX0_fitting_15 (by decide) hF (fun hF => ?_) (fun hF => ?_)
  · refine V_iload (pc := 53) h 3 dX0_fitting_53 rfl ?_
    have hF := Option.some.inj hF
    subst hF
    exact V_iret (pc := 55) h dX0_fitting_55
  · refine V_iload (pc := 18) h 3 dX0_fitting_18 rfl ?_
    refine V_iload_n (pc := 20) h 1 dX0_fitting_20 rfl ?_
    refine V_icmp_ge (pc := 21) h (tgt := 53) dX0_fitting_21 (by decide) hF (fun hF => ?_) (fun hF => ?_)
    · refine V_iload (pc := 53) h 3 dX0_fitting_53 rfl ?_
      have hF := Option.some.inj hF
      subst hF
      exact V_iret (pc := 55) h dX0_fitting_55
    · refine V_iload (pc := 24) h 4 dX0_fitting_24 rfl ?_
      refine V_aload_n (pc := 26) h 0 dX0_fitting_26 rfl ?_
      refine V_iload (pc := 27) h 5 dX0_fitting_27 rfl ?_
      refine V_ciVA (pc := 29) h (n := 1) (bytes := cX0_roomOf) (maxL := 5) (As := [.int x6]) (rest := [.int x5]) gX0_fitting_X0_roomOf (by decide +kernel) rfl rfl rfl rfl ⟨rfl, rfl⟩ ⟨Nat.le_of_ble_eq_true rfl, Nat.le_of_ble_eq_true rfl⟩ rfl rfl (Nat.le_of_ble_eq_true rfl) dX0_fitting_29 hF (fun r29 hG => k_X0_roomOf l D cI cZ h0 h0_names h0_values h0_kinds v0_size v0_names v0_values v0_kinds x6 hG) (fun r29 hF => ?_)
      refine V_iadd (pc := 32) h dX0_fitting_32 ?_
      refine V_bnd hF (fun x5_33 hF => ?_)
      refine V_istore (pc := 33) h [(5, .int x5_33), (0, .ref h0), (2, .int x2), (3, .int x3), (4, .int x4), (6, .int x6)] dX0_fitting_33 (by decide) rfl ?_
      refine V_iload (pc := 35) h 0 dX0_fitting_35 rfl ?_
      refine V_iload_n (pc := 37) h 3 dX0_fitting_37 rfl ?_
      refine V_icmp_le (pc := 38) h (tgt := 44) dX0_fitting_38 (by decide) hF (fun hF => ?_) (fun hF => ?_)
      · refine V_iinc (pc := 44) h 4 (fun x4_44 => [(4, .int x4_44), (5, .int x5_33), (0, .ref h0), (2, .int x2), (3, .int x3), (6, .int x6)]) dX0_fitting_44 rfl rfl (by decide) (fun _ => rfl) hF (fun x4_44 hF => ?_)
        refine V_iinc (pc := 47) h 5 (fun x6_47 => [(6, .int x6_47), (4, .int x4_44), (5, .int x5_33), (0, .ref h0), (2, .int x2), (3, .int x3)]) dX0_fitting_47 rfl rfl (by decide) (fun _ => rfl) hF (fun x6_47 hF => ?_)
        refine V_goto (pc := 50) h (tgt := 9) dX0_fitting_50 (by decide) ?_
        refine V_lv [3, 4, 5, 1, 2, 0] [(0, .ref h0), (2, .int x2), (3, .int x3), (4, .int x4_44), (5, .int x5_33), (6, .int x6_47)] rfl ?_
        exact hk9 _ _ _ hF
      · refine V_goto (pc := 41) h (tgt := 53) dX0_fitting_41 (by decide) ?_
        refine V_iload (pc := 53) h 4 dX0_fitting_53 rfl ?_
        have hF := Option.some.inj hF
        subst hF
        exact V_iret (pc := 55) h dX0_fitting_55
noncomputable def fX0_fitting_l9 (v0_size : Int32) (v0_names : (Nat → Int32)) (v0_values : (Nat → Int32)) (x1 : Int32) (x2 : Int32) (x3 : Int32) (n : Nat) : Int32 → Int32 → Int32 → Option (Int32) :=
  Nat.rec (motive := fun _ => Int32 → Int32 → Int32 → Option (Int32)) (fun _ _ _ => none) (fun _ ih => fX0_fitting_b9 v0_size v0_names v0_values x1 x2 x3 ih) n
theorem fX0_fitting_l9_s (v0_size : Int32) (v0_names : (Nat → Int32)) (v0_values : (Nat → Int32)) (x1 : Int32) (x2 : Int32) (x3 : Int32) (n : Nat) (x4 : Int32) (x5 : Int32) (x6 : Int32) : fX0_fitting_l9 v0_size v0_names v0_values x1 x2 x3 (n + 1) x4 x5 x6 = fX0_fitting_b9 v0_size v0_names v0_values x1 x2 x3 (fX0_fitting_l9 v0_size v0_names v0_values x1 x2 x3 n) x4 x5 x6 := rfl
set_option maxRecDepth 100000 in
set_option maxHeartbeats 4000000 in
theorem tfX0_fitting_l9 {p : Program} {l : Launch} {e : Env} {s : State} {m : MethodId} {args : Array Value} {below : List Frame} {meth : Method} {c : Code} {A : Nat → Prop} {D : va_G} {cI cZ : ClassId} (h : Cx p s m args meth c A D cI cZ 7 cX0_fitting RX0 wsX0_fitting (some .int)) {h0 h0_names h0_values h0_kinds : Nat} {x1 : Int32} {x2 : Int32} {x3 : Int32} {v0_size : Int32} {v0_names : (Nat → Int32)} {v0_values : (Nat → Int32)} {v0_kinds : (Nat → Int32)} {o : Int32} (n : Nat) : ∀ (x4 : Int32) (x5 : Int32) (x6 : Int32) (hF : fX0_fitting_l9 v0_size v0_names v0_values x1 x2 x3 n x4 x5 x6 = some o), V p l e rmX0_fitting s m args below meth c A D 7 (QI D [(h0, .inr (0, [.ref h0_names, .ref h0_values, .ref h0_kinds, .int v0_size])), (h0_names, .inl (cI, 80, .inl v0_names)), (h0_values, .inl (cI, 80, .inl v0_values)), (h0_kinds, .inl (cI, 80, .inl v0_kinds))] o A below args s) [(h0, .inr (0, [.ref h0_names, .ref h0_values, .ref h0_kinds, .int v0_size])), (h0_names, .inl (cI, 80, .inl v0_names)), (h0_values, .inl (cI, 80, .inl v0_values)), (h0_kinds, .inl (cI, 80, .inl v0_kinds))] 9 [(0, .ref h0), (2, .int x2), (3, .int x3), (4, .int x4), (5, .int x5), (6, .int x6)] [] := by
  induction n with
  | zero => intro x4 x5 x6 hF; exact nomatch (show (none : Option (Int32)) = some o from hF)
  | succ n ih => intro x4 x5 x6 hF; exact tfX0_fitting_b9 (x1 := x1) (x2 := x2) (x3 := x3) (k9 := fX0_fitting_l9 v0_size v0_names v0_values x1 x2 x3 n) h ih hF
noncomputable def fX0_fitting (v0_size : Int32) (v0_names : (Nat → Int32)) (v0_values : (Nat → Int32)) (x1 : Int32) (x2 : Int32) (x3 : Int32) : Option (Int32) :=
  fX0_fitting_l9 v0_size v0_names v0_values x1 x2 x3 1000 (0 : Int32) (0 : Int32) x1
set_option maxRecDepth 100000 in
set_option maxHeartbeats 4000000 in
theorem tfX0_fitting {p : Program} {l : Launch} {e : Env} {s : State} {m : MethodId} {args : Array Value} {below : List Frame} {meth : Method} {c : Code} {A : Nat → Prop} {D : va_G} {cI cZ : ClassId} (h : Cx p s m args meth c A D cI cZ 7 cX0_fitting RX0 wsX0_fitting (some .int)) {h0 h0_names h0_values h0_kinds : Nat} {x1 : Int32} {x2 : Int32} {x3 : Int32} {v0_size : Int32} {v0_names : (Nat → Int32)} {v0_values : (Nat → Int32)} {v0_kinds : (Nat → Int32)} {o : Int32} (hF : fX0_fitting v0_size v0_names v0_values x1 x2 x3 = some o) : V p l e rmX0_fitting s m args below meth c A D 7 (QI D [(h0, .inr (0, [.ref h0_names, .ref h0_values, .ref h0_kinds, .int v0_size])), (h0_names, .inl (cI, 80, .inl v0_names)), (h0_values, .inl (cI, 80, .inl v0_values)), (h0_kinds, .inl (cI, 80, .inl v0_kinds))] o A below args s) [(h0, .inr (0, [.ref h0_names, .ref h0_values, .ref h0_kinds, .int v0_size])), (h0_names, .inl (cI, 80, .inl v0_names)), (h0_values, .inl (cI, 80, .inl v0_values)), (h0_kinds, .inl (cI, 80, .inl v0_kinds))] 0 [(0, .ref h0), (1, .int x1), (2, .int x2), (3, .int x3)] [] := by
  unfold fX0_fitting at hF
  refine V_iconst (pc := 0) h (v := (0 : Int32)) dX0_fitting_0 (by decide) ?_
  refine V_istore (pc := 1) h [(4, .int (0 : Int32)), (0, .ref h0), (1, .int x1), (2, .int x2), (3, .int x3)] dX0_fitting_1 (by decide) rfl ?_
  refine V_iconst (pc := 3) h (v := (0 : Int32)) dX0_fitting_3 (by decide) ?_
  refine V_istore (pc := 4) h [(5, .int (0 : Int32)), (4, .int (0 : Int32)), (0, .ref h0), (1, .int x1), (2, .int x2), (3, .int x3)] dX0_fitting_4 (by decide) rfl ?_
  refine V_iload_n (pc := 6) h 3 dX0_fitting_6 rfl ?_
  refine V_istore (pc := 7) h [(6, .int x1), (5, .int (0 : Int32)), (4, .int (0 : Int32)), (0, .ref h0), (1, .int x1), (2, .int x2), (3, .int x3)] dX0_fitting_7 (by decide) rfl ?_
  refine V_lv [3, 5, 6, 2, 1, 0] [(0, .ref h0), (2, .int x2), (3, .int x3), (4, .int (0 : Int32)), (5, .int (0 : Int32)), (6, .int x1)] rfl ?_
  exact tfX0_fitting_l9 h 1000 _ _ _ hF
set_option maxRecDepth 100000 in
theorem k_X0_fitting (l : Launch) (D : va_G) (cI cZ : ClassId) (h0 h0_names h0_values h0_kinds : Nat) (v0_size : Int32) (v0_names : (Nat → Int32)) (v0_values : (Nat → Int32)) (v0_kinds : (Nat → Int32)) (x1 : Int32) (x2 : Int32) (x3 : Int32) {o : Int32} (hF : fX0_fitting v0_size v0_names v0_values x1 x2 x3 = some o) : CI l yX0_fitting wsX0_fitting rmX0_fitting D cI cZ [.ref h0, .int x1, .int x2, .int x3] [(h0, .inr (0, [.ref h0_names, .ref h0_values, .ref h0_kinds, .int v0_size])), (h0_names, .inl (cI, 80, .inl v0_names)), (h0_values, .inl (cI, 80, .inl v0_values)), (h0_kinds, .inl (cI, 80, .inl v0_kinds))] [(h0, .inr (0, [.ref h0_names, .ref h0_values, .ref h0_kinds, .int v0_size])), (h0_names, .inl (cI, 80, .inl v0_names)), (h0_values, .inl (cI, 80, .inl v0_values)), (h0_kinds, .inl (cI, 80, .inl v0_kinds))] o :=
  CI_of (cc := cX0_fitting) (nL := 7) (ret := (some .int)) (by decide) rfl (Nat.le_of_ble_eq_true rfl) rfl (fun p e s m args below meth c A h => tfX0_fitting h hF)
/-! X0_howManyHave -/
abbrev rmX0_howManyHave : Room := { frames := 1, cells := 0, slots := 0, locals := 21 }
theorem uX0_howManyHave_inX0 : ∀ w ∈ wsX00, w ∈ wsX0_howManyHave := by decide +kernel
theorem uX0_howManyHave_f21 : Cond.fieldLink RX0 21 "LeafAsks$Leaves" "size" "I" ∈ wsX0_howManyHave := by decide +kernel
noncomputable def fX0_howManyHave_b4 (v0_size : Int32) (v0_values : (Nat → Int32)) (x1 : Int32) (k4 : Int32 → Int32 → Option (Int32)) (x2 : Int32) (x3 : Int32) : Option (Int32) :=
  if v0_size ≤ x3 then some x2 else bd (fX0_value v0_values x3) (fun r14 => if r14 = x1 then bnd (x2 + (1 : Int32)) (fun x2_21 => bnd (x3 + (1 : Int32)) (fun x3_24 => k4 x2_21 x3_24)) else bnd (x3 + (1 : Int32)) (fun x3_24 => k4 x2 x3_24))
set_option maxRecDepth 100000 in
set_option maxHeartbeats 4000000 in
theorem tfX0_howManyHave_b4 {p : Program} {l : Launch} {e : Env} {s : State} {m : MethodId} {args : Array Value} {below : List Frame} {meth : Method} {c : Code} {A : Nat → Prop} {D : va_G} {cI cZ : ClassId} (h : Cx p s m args meth c A D cI cZ 4 cX0_howManyHave RX0 wsX0_howManyHave (some .int)) {h0 h0_names h0_values h0_kinds : Nat} {x1 : Int32} {v0_size : Int32} {v0_names : (Nat → Int32)} {v0_values : (Nat → Int32)} {v0_kinds : (Nat → Int32)} {k4 : Int32 → Int32 → Option (Int32)} {x2 : Int32} {x3 : Int32} {o : Int32} (hk4 : ∀ (x2 : Int32) (x3 : Int32), k4 x2 x3 = some o → V p l e rmX0_howManyHave s m args below meth c A D 4 (QI D [(h0, .inr (0, [.ref h0_names, .ref h0_values, .ref h0_kinds, .int v0_size])), (h0_names, .inl (cI, 80, .inl v0_names)), (h0_values, .inl (cI, 80, .inl v0_values)), (h0_kinds, .inl (cI, 80, .inl v0_kinds))] o A below args s) [(h0, .inr (0, [.ref h0_names, .ref h0_values, .ref h0_kinds, .int v0_size])), (h0_names, .inl (cI, 80, .inl v0_names)), (h0_values, .inl (cI, 80, .inl v0_values)), (h0_kinds, .inl (cI, 80, .inl v0_kinds))] 4 [(0, .ref h0), (1, .int x1), (2, .int x2), (3, .int x3)] []) (hF : fX0_howManyHave_b4 v0_size v0_values x1 k4 x2 x3 = some o) : V p l e rmX0_howManyHave s m args below meth c A D 4 (QI D [(h0, .inr (0, [.ref h0_names, .ref h0_values, .ref h0_kinds, .int v0_size])), (h0_names, .inl (cI, 80, .inl v0_names)), (h0_values, .inl (cI, 80, .inl v0_values)), (h0_kinds, .inl (cI, 80, .inl v0_kinds))] o A below args s) [(h0, .inr (0, [.ref h0_names, .ref h0_values, .ref h0_kinds, .int v0_size])), (h0_names, .inl (cI, 80, .inl v0_names)), (h0_values, .inl (cI, 80, .inl v0_values)), (h0_kinds, .inl (cI, 80, .inl v0_kinds))] 4 [(0, .ref h0), (1, .int x1), (2, .int x2), (3, .int x3)] [] := by
  unfold fX0_howManyHave_b4 at hF
  refine V_iload_n (pc := 4) h 3 dX0_howManyHave_4 rfl ?_
  refine V_aload_n (pc := 5) h 0 dX0_howManyHave_5 rfl ?_
  refine V_get (pc := 6) h uX0_howManyHave_inX0 0 3 rfl rfl (by decide) uX0_howManyHave_f21 rfl rfl dX0_howManyHave_6 ?_
  refine V_icmp_ge (pc := 9) h (tgt := 30) dX0_howManyHave_9 (by decide) hF (fun hF => ?_) (fun hF => ?_)
  · refine V_iload_n (pc := 30) h 2 dX0_howManyHave_30 rfl ?_
    have hF := Option.some.inj hF
    subst hF
    exact V_iret (pc := 31) h dX0_howManyHave_31
  · refine V_aload_n (pc := 12) h 0 dX0_howManyHave_12 rfl ?_
    refine V_iload_n (pc := 13) h 3 dX0_howManyHave_13 rfl ?_
    refine V_ciVA (pc := 14) h (n := 1) (bytes := cX0_value) (maxL := 2) (As := [.int x3]) (rest := []) gX0_howManyHave_X0_value (by decide +kernel) rfl rfl rfl rfl ⟨rfl, rfl⟩ ⟨Nat.le_of_ble_eq_true rfl, Nat.le_of_ble_eq_true rfl⟩ rfl rfl (Nat.le_of_ble_eq_true rfl) dX0_howManyHave_14 hF (fun r14 hG => k_X0_value l D cI cZ h0 h0_names h0_values h0_kinds v0_size v0_names v0_values v0_kinds x3 hG) (fun r14 hF => ?_)
    refine V_iload_n (pc := 17) h 1 dX0_howManyHave_17 rfl ?_
    refine V_icmp_ne (pc := 18) h (tgt := 24) dX0_howManyHave_18 (by decide) hF (fun hF => ?_) (fun hF => ?_)
    · refine V_iinc (pc := 24) h 3 (fun x3_24 => [(3, .int x3_24), (0, .ref h0), (1, .int x1), (2, .int x2)]) dX0_howManyHave_24 rfl rfl (by decide) (fun _ => rfl) hF (fun x3_24 hF => ?_)
      refine V_goto (pc := 27) h (tgt := 4) dX0_howManyHave_27 (by decide) ?_
      refine V_lv [1, 2, 3, 0] [(0, .ref h0), (1, .int x1), (2, .int x2), (3, .int x3_24)] rfl ?_
      exact hk4 _ _ hF
    · refine V_iinc (pc := 21) h 2 (fun x2_21 => [(2, .int x2_21), (0, .ref h0), (1, .int x1), (3, .int x3)]) dX0_howManyHave_21 rfl rfl (by decide) (fun _ => rfl) hF (fun x2_21 hF => ?_)
      refine V_iinc (pc := 24) h 3 (fun x3_24 => [(3, .int x3_24), (2, .int x2_21), (0, .ref h0), (1, .int x1)]) dX0_howManyHave_24 rfl rfl (by decide) (fun _ => rfl) hF (fun x3_24 hF => ?_)
      refine V_goto (pc := 27) h (tgt := 4) dX0_howManyHave_27 (by decide) ?_
      refine V_lv [2, 3, 1, 0] [(0, .ref h0), (1, .int x1), (2, .int x2_21), (3, .int x3_24)] rfl ?_
      exact hk4 _ _ hF
noncomputable def fX0_howManyHave_l4 (v0_size : Int32) (v0_values : (Nat → Int32)) (x1 : Int32) (n : Nat) : Int32 → Int32 → Option (Int32) :=
  Nat.rec (motive := fun _ => Int32 → Int32 → Option (Int32)) (fun _ _ => none) (fun _ ih => fX0_howManyHave_b4 v0_size v0_values x1 ih) n
theorem fX0_howManyHave_l4_s (v0_size : Int32) (v0_values : (Nat → Int32)) (x1 : Int32) (n : Nat) (x2 : Int32) (x3 : Int32) : fX0_howManyHave_l4 v0_size v0_values x1 (n + 1) x2 x3 = fX0_howManyHave_b4 v0_size v0_values x1 (fX0_howManyHave_l4 v0_size v0_values x1 n) x2 x3 := rfl
set_option maxRecDepth 100000 in
set_option maxHeartbeats 4000000 in
theorem tfX0_howManyHave_l4 {p : Program} {l : Launch} {e : Env} {s : State} {m : MethodId} {args : Array Value} {below : List Frame} {meth : Method} {c : Code} {A : Nat → Prop} {D : va_G} {cI cZ : ClassId} (h : Cx p s m args meth c A D cI cZ 4 cX0_howManyHave RX0 wsX0_howManyHave (some .int)) {h0 h0_names h0_values h0_kinds : Nat} {x1 : Int32} {v0_size : Int32} {v0_names : (Nat → Int32)} {v0_values : (Nat → Int32)} {v0_kinds : (Nat → Int32)} {o : Int32} (n : Nat) : ∀ (x2 : Int32) (x3 : Int32) (hF : fX0_howManyHave_l4 v0_size v0_values x1 n x2 x3 = some o), V p l e rmX0_howManyHave s m args below meth c A D 4 (QI D [(h0, .inr (0, [.ref h0_names, .ref h0_values, .ref h0_kinds, .int v0_size])), (h0_names, .inl (cI, 80, .inl v0_names)), (h0_values, .inl (cI, 80, .inl v0_values)), (h0_kinds, .inl (cI, 80, .inl v0_kinds))] o A below args s) [(h0, .inr (0, [.ref h0_names, .ref h0_values, .ref h0_kinds, .int v0_size])), (h0_names, .inl (cI, 80, .inl v0_names)), (h0_values, .inl (cI, 80, .inl v0_values)), (h0_kinds, .inl (cI, 80, .inl v0_kinds))] 4 [(0, .ref h0), (1, .int x1), (2, .int x2), (3, .int x3)] [] := by
  induction n with
  | zero => intro x2 x3 hF; exact nomatch (show (none : Option (Int32)) = some o from hF)
  | succ n ih => intro x2 x3 hF; exact tfX0_howManyHave_b4 (x1 := x1) (k4 := fX0_howManyHave_l4 v0_size v0_values x1 n) h ih hF
noncomputable def fX0_howManyHave (v0_size : Int32) (v0_values : (Nat → Int32)) (x1 : Int32) : Option (Int32) :=
  fX0_howManyHave_l4 v0_size v0_values x1 1000 (0 : Int32) (0 : Int32)
set_option maxRecDepth 100000 in
set_option maxHeartbeats 4000000 in
theorem tfX0_howManyHave {p : Program} {l : Launch} {e : Env} {s : State} {m : MethodId} {args : Array Value} {below : List Frame} {meth : Method} {c : Code} {A : Nat → Prop} {D : va_G} {cI cZ : ClassId} (h : Cx p s m args meth c A D cI cZ 4 cX0_howManyHave RX0 wsX0_howManyHave (some .int)) {h0 h0_names h0_values h0_kinds : Nat} {x1 : Int32} {v0_size : Int32} {v0_names : (Nat → Int32)} {v0_values : (Nat → Int32)} {v0_kinds : (Nat → Int32)} {o : Int32} (hF : fX0_howManyHave v0_size v0_values x1 = some o) : V p l e rmX0_howManyHave s m args below meth c A D 4 (QI D [(h0, .inr (0, [.ref h0_names, .ref h0_values, .ref h0_kinds, .int v0_size])), (h0_names, .inl (cI, 80, .inl v0_names)), (h0_values, .inl (cI, 80, .inl v0_values)), (h0_kinds, .inl (cI, 80, .inl v0_kinds))] o A below args s) [(h0, .inr (0, [.ref h0_names, .ref h0_values, .ref h0_kinds, .int v0_size])), (h0_names, .inl (cI, 80, .inl v0_names)), (h0_values, .inl (cI, 80, .inl v0_values)), (h0_kinds, .inl (cI, 80, .inl v0_kinds))] 0 [(0, .ref h0), (1, .int x1)] [] := by
  unfold fX0_howManyHave at hF
  refine V_iconst (pc := 0) h (v := (0 : Int32)) dX0_howManyHave_0 (by decide) ?_
  refine V_istore_n (pc := 1) h [(2, .int (0 : Int32)), (0, .ref h0), (1, .int x1)] dX0_howManyHave_1 (by decide) rfl ?_
  refine V_iconst (pc := 2) h (v := (0 : Int32)) dX0_howManyHave_2 (by decide) ?_
  refine V_istore_n (pc := 3) h [(3, .int (0 : Int32)), (2, .int (0 : Int32)), (0, .ref h0), (1, .int x1)] dX0_howManyHave_3 (by decide) rfl ?_
  refine V_lv [2, 3, 1, 0] [(0, .ref h0), (1, .int x1), (2, .int (0 : Int32)), (3, .int (0 : Int32))] rfl ?_
  exact tfX0_howManyHave_l4 h 1000 _ _ hF
set_option maxRecDepth 100000 in
theorem k_X0_howManyHave (l : Launch) (D : va_G) (cI cZ : ClassId) (h0 h0_names h0_values h0_kinds : Nat) (v0_size : Int32) (v0_names : (Nat → Int32)) (v0_values : (Nat → Int32)) (v0_kinds : (Nat → Int32)) (x1 : Int32) {o : Int32} (hF : fX0_howManyHave v0_size v0_values x1 = some o) : CI l yX0_howManyHave wsX0_howManyHave rmX0_howManyHave D cI cZ [.ref h0, .int x1] [(h0, .inr (0, [.ref h0_names, .ref h0_values, .ref h0_kinds, .int v0_size])), (h0_names, .inl (cI, 80, .inl v0_names)), (h0_values, .inl (cI, 80, .inl v0_values)), (h0_kinds, .inl (cI, 80, .inl v0_kinds))] [(h0, .inr (0, [.ref h0_names, .ref h0_values, .ref h0_kinds, .int v0_size])), (h0_names, .inl (cI, 80, .inl v0_names)), (h0_values, .inl (cI, 80, .inl v0_values)), (h0_kinds, .inl (cI, 80, .inl v0_kinds))] o :=
  CI_of (cc := cX0_howManyHave) (nL := 4) (ret := (some .int)) (by decide) rfl (Nat.le_of_ble_eq_true rfl) rfl (fun p e s m args below meth c A h => tfX0_howManyHave h hF)
/-! X0_withValue -/
abbrev rmX0_withValue : Room := { frames := 1, cells := 0, slots := 0, locals := 21 }
theorem uX0_withValue_inX0 : ∀ w ∈ wsX00, w ∈ wsX0_withValue := by decide +kernel
theorem uX0_withValue_f21 : Cond.fieldLink RX0 21 "LeafAsks$Leaves" "size" "I" ∈ wsX0_withValue := by decide +kernel
noncomputable def fX0_withValue_b5 (v0_size : Int32) (v0_values : (Nat → Int32)) (x1 : Int32) (x2 : Int32) (k5 : Int32 → Int32 → Option (Int32)) (x3 : Int32) (x4 : Int32) : Option (Int32) :=
  if v0_size ≤ x4 then some (-9 : Int32) else bd (fX0_value v0_values x4) (fun r17 => if r17 = x1 then if x3 = x2 then some x4 else bnd (x3 + (1 : Int32)) (fun x3_32 => bnd (x4 + (1 : Int32)) (fun x4_35 => k5 x3_32 x4_35)) else bnd (x4 + (1 : Int32)) (fun x4_35 => k5 x3 x4_35))
set_option maxRecDepth 100000 in
set_option maxHeartbeats 4000000 in
theorem tfX0_withValue_b5 {p : Program} {l : Launch} {e : Env} {s : State} {m : MethodId} {args : Array Value} {below : List Frame} {meth : Method} {c : Code} {A : Nat → Prop} {D : va_G} {cI cZ : ClassId} (h : Cx p s m args meth c A D cI cZ 5 cX0_withValue RX0 wsX0_withValue (some .int)) {h0 h0_names h0_values h0_kinds : Nat} {x1 : Int32} {x2 : Int32} {v0_size : Int32} {v0_names : (Nat → Int32)} {v0_values : (Nat → Int32)} {v0_kinds : (Nat → Int32)} {k5 : Int32 → Int32 → Option (Int32)} {x3 : Int32} {x4 : Int32} {o : Int32} (hk5 : ∀ (x3 : Int32) (x4 : Int32), k5 x3 x4 = some o → V p l e rmX0_withValue s m args below meth c A D 5 (QI D [(h0, .inr (0, [.ref h0_names, .ref h0_values, .ref h0_kinds, .int v0_size])), (h0_names, .inl (cI, 80, .inl v0_names)), (h0_values, .inl (cI, 80, .inl v0_values)), (h0_kinds, .inl (cI, 80, .inl v0_kinds))] o A below args s) [(h0, .inr (0, [.ref h0_names, .ref h0_values, .ref h0_kinds, .int v0_size])), (h0_names, .inl (cI, 80, .inl v0_names)), (h0_values, .inl (cI, 80, .inl v0_values)), (h0_kinds, .inl (cI, 80, .inl v0_kinds))] 5 [(0, .ref h0), (1, .int x1), (2, .int x2), (3, .int x3), (4, .int x4)] []) (hF : fX0_withValue_b5 v0_size v0_values x1 x2 k5 x3 x4 = some o) : V p l e rmX0_withValue s m args below meth c A D 5 (QI D [(h0, .inr (0, [.ref h0_names, .ref h0_values, .ref h0_kinds, .int v0_size])), (h0_names, .inl (cI, 80, .inl v0_names)), (h0_values, .inl (cI, 80, .inl v0_values)), (h0_kinds, .inl (cI, 80, .inl v0_kinds))] o A below args s) [(h0, .inr (0, [.ref h0_names, .ref h0_values, .ref h0_kinds, .int v0_size])), (h0_names, .inl (cI, 80, .inl v0_names)), (h0_values, .inl (cI, 80, .inl v0_values)), (h0_kinds, .inl (cI, 80, .inl v0_kinds))] 5 [(0, .ref h0), (1, .int x1), (2, .int x2), (3, .int x3), (4, .int x4)] [] := by
  unfold fX0_withValue_b5 at hF
  refine V_iload (pc := 5) h 4 dX0_withValue_5 rfl ?_
  refine V_aload_n (pc := 7) h 0 dX0_withValue_7 rfl ?_
  refine V_get (pc := 8) h uX0_withValue_inX0 0 3 rfl rfl (by decide) uX0_withValue_f21 rfl rfl dX0_withValue_8 ?_
  refine V_icmp_ge (pc := 11) h (tgt := 41) dX0_withValue_11 (by decide) hF (fun hF => ?_) (fun hF => ?_)
  · refine V_bipush (pc := 41) h (v := (-9 : Int32)) dX0_withValue_41 (by decide) ?_
    have hF := Option.some.inj hF
    subst hF
    exact V_iret (pc := 43) h dX0_withValue_43
  · refine V_aload_n (pc := 14) h 0 dX0_withValue_14 rfl ?_
    refine V_iload (pc := 15) h 4 dX0_withValue_15 rfl ?_
    refine V_ciVA (pc := 17) h (n := 1) (bytes := cX0_value) (maxL := 2) (As := [.int x4]) (rest := []) gX0_withValue_X0_value (by decide +kernel) rfl rfl rfl rfl ⟨rfl, rfl⟩ ⟨Nat.le_of_ble_eq_true rfl, Nat.le_of_ble_eq_true rfl⟩ rfl rfl (Nat.le_of_ble_eq_true rfl) dX0_withValue_17 hF (fun r17 hG => k_X0_value l D cI cZ h0 h0_names h0_values h0_kinds v0_size v0_names v0_values v0_kinds x4 hG) (fun r17 hF => ?_)
    refine V_iload_n (pc := 20) h 1 dX0_withValue_20 rfl ?_
    refine V_icmp_ne (pc := 21) h (tgt := 35) dX0_withValue_21 (by decide) hF (fun hF => ?_) (fun hF => ?_)
    · refine V_iinc (pc := 35) h 4 (fun x4_35 => [(4, .int x4_35), (0, .ref h0), (1, .int x1), (2, .int x2), (3, .int x3)]) dX0_withValue_35 rfl rfl (by decide) (fun _ => rfl) hF (fun x4_35 hF => ?_)
      refine V_goto (pc := 38) h (tgt := 5) dX0_withValue_38 (by decide) ?_
      refine V_lv [1, 2, 3, 4, 0] [(0, .ref h0), (1, .int x1), (2, .int x2), (3, .int x3), (4, .int x4_35)] rfl ?_
      exact hk5 _ _ hF
    · refine V_iload_n (pc := 24) h 3 dX0_withValue_24 rfl ?_
      refine V_iload_n (pc := 25) h 2 dX0_withValue_25 rfl ?_
      refine V_icmp_ne (pc := 26) h (tgt := 32) dX0_withValue_26 (by decide) hF (fun hF => ?_) (fun hF => ?_)
      · refine V_iinc (pc := 32) h 3 (fun x3_32 => [(3, .int x3_32), (0, .ref h0), (1, .int x1), (2, .int x2), (4, .int x4)]) dX0_withValue_32 rfl rfl (by decide) (fun _ => rfl) hF (fun x3_32 hF => ?_)
        refine V_iinc (pc := 35) h 4 (fun x4_35 => [(4, .int x4_35), (3, .int x3_32), (0, .ref h0), (1, .int x1), (2, .int x2)]) dX0_withValue_35 rfl rfl (by decide) (fun _ => rfl) hF (fun x4_35 hF => ?_)
        refine V_goto (pc := 38) h (tgt := 5) dX0_withValue_38 (by decide) ?_
        refine V_lv [2, 3, 4, 1, 0] [(0, .ref h0), (1, .int x1), (2, .int x2), (3, .int x3_32), (4, .int x4_35)] rfl ?_
        exact hk5 _ _ hF
      · refine V_iload (pc := 29) h 4 dX0_withValue_29 rfl ?_
        have hF := Option.some.inj hF
        subst hF
        exact V_iret (pc := 31) h dX0_withValue_31
noncomputable def fX0_withValue_l5 (v0_size : Int32) (v0_values : (Nat → Int32)) (x1 : Int32) (x2 : Int32) (n : Nat) : Int32 → Int32 → Option (Int32) :=
  Nat.rec (motive := fun _ => Int32 → Int32 → Option (Int32)) (fun _ _ => none) (fun _ ih => fX0_withValue_b5 v0_size v0_values x1 x2 ih) n
theorem fX0_withValue_l5_s (v0_size : Int32) (v0_values : (Nat → Int32)) (x1 : Int32) (x2 : Int32) (n : Nat) (x3 : Int32) (x4 : Int32) : fX0_withValue_l5 v0_size v0_values x1 x2 (n + 1) x3 x4 = fX0_withValue_b5 v0_size v0_values x1 x2 (fX0_withValue_l5 v0_size v0_values x1 x2 n) x3 x4 := rfl
set_option maxRecDepth 100000 in
set_option maxHeartbeats 4000000 in
theorem tfX0_withValue_l5 {p : Program} {l : Launch} {e : Env} {s : State} {m : MethodId} {args : Array Value} {below : List Frame} {meth : Method} {c : Code} {A : Nat → Prop} {D : va_G} {cI cZ : ClassId} (h : Cx p s m args meth c A D cI cZ 5 cX0_withValue RX0 wsX0_withValue (some .int)) {h0 h0_names h0_values h0_kinds : Nat} {x1 : Int32} {x2 : Int32} {v0_size : Int32} {v0_names : (Nat → Int32)} {v0_values : (Nat → Int32)} {v0_kinds : (Nat → Int32)} {o : Int32} (n : Nat) : ∀ (x3 : Int32) (x4 : Int32) (hF : fX0_withValue_l5 v0_size v0_values x1 x2 n x3 x4 = some o), V p l e rmX0_withValue s m args below meth c A D 5 (QI D [(h0, .inr (0, [.ref h0_names, .ref h0_values, .ref h0_kinds, .int v0_size])), (h0_names, .inl (cI, 80, .inl v0_names)), (h0_values, .inl (cI, 80, .inl v0_values)), (h0_kinds, .inl (cI, 80, .inl v0_kinds))] o A below args s) [(h0, .inr (0, [.ref h0_names, .ref h0_values, .ref h0_kinds, .int v0_size])), (h0_names, .inl (cI, 80, .inl v0_names)), (h0_values, .inl (cI, 80, .inl v0_values)), (h0_kinds, .inl (cI, 80, .inl v0_kinds))] 5 [(0, .ref h0), (1, .int x1), (2, .int x2), (3, .int x3), (4, .int x4)] [] := by
  induction n with
  | zero => intro x3 x4 hF; exact nomatch (show (none : Option (Int32)) = some o from hF)
  | succ n ih => intro x3 x4 hF; exact tfX0_withValue_b5 (x1 := x1) (x2 := x2) (k5 := fX0_withValue_l5 v0_size v0_values x1 x2 n) h ih hF
noncomputable def fX0_withValue (v0_size : Int32) (v0_values : (Nat → Int32)) (x1 : Int32) (x2 : Int32) : Option (Int32) :=
  fX0_withValue_l5 v0_size v0_values x1 x2 1000 (0 : Int32) (0 : Int32)
set_option maxRecDepth 100000 in
set_option maxHeartbeats 4000000 in
theorem tfX0_withValue {p : Program} {l : Launch} {e : Env} {s : State} {m : MethodId} {args : Array Value} {below : List Frame} {meth : Method} {c : Code} {A : Nat → Prop} {D : va_G} {cI cZ : ClassId} (h : Cx p s m args meth c A D cI cZ 5 cX0_withValue RX0 wsX0_withValue (some .int)) {h0 h0_names h0_values h0_kinds : Nat} {x1 : Int32} {x2 : Int32} {v0_size : Int32} {v0_names : (Nat → Int32)} {v0_values : (Nat → Int32)} {v0_kinds : (Nat → Int32)} {o : Int32} (hF : fX0_withValue v0_size v0_values x1 x2 = some o) : V p l e rmX0_withValue s m args below meth c A D 5 (QI D [(h0, .inr (0, [.ref h0_names, .ref h0_values, .ref h0_kinds, .int v0_size])), (h0_names, .inl (cI, 80, .inl v0_names)), (h0_values, .inl (cI, 80, .inl v0_values)), (h0_kinds, .inl (cI, 80, .inl v0_kinds))] o A below args s) [(h0, .inr (0, [.ref h0_names, .ref h0_values, .ref h0_kinds, .int v0_size])), (h0_names, .inl (cI, 80, .inl v0_names)), (h0_values, .inl (cI, 80, .inl v0_values)), (h0_kinds, .inl (cI, 80, .inl v0_kinds))] 0 [(0, .ref h0), (1, .int x1), (2, .int x2)] [] := by
  unfold fX0_withValue at hF
  refine V_iconst (pc := 0) h (v := (0 : Int32)) dX0_withValue_0 (by decide) ?_
  refine V_istore_n (pc := 1) h [(3, .int (0 : Int32)), (0, .ref h0), (1, .int x1), (2, .int x2)] dX0_withValue_1 (by decide) rfl ?_
  refine V_iconst (pc := 2) h (v := (0 : Int32)) dX0_withValue_2 (by decide) ?_
  refine V_istore (pc := 3) h [(4, .int (0 : Int32)), (3, .int (0 : Int32)), (0, .ref h0), (1, .int x1), (2, .int x2)] dX0_withValue_3 (by decide) rfl ?_
  refine V_lv [2, 3, 4, 1, 0] [(0, .ref h0), (1, .int x1), (2, .int x2), (3, .int (0 : Int32)), (4, .int (0 : Int32))] rfl ?_
  exact tfX0_withValue_l5 h 1000 _ _ hF
set_option maxRecDepth 100000 in
theorem k_X0_withValue (l : Launch) (D : va_G) (cI cZ : ClassId) (h0 h0_names h0_values h0_kinds : Nat) (v0_size : Int32) (v0_names : (Nat → Int32)) (v0_values : (Nat → Int32)) (v0_kinds : (Nat → Int32)) (x1 : Int32) (x2 : Int32) {o : Int32} (hF : fX0_withValue v0_size v0_values x1 x2 = some o) : CI l yX0_withValue wsX0_withValue rmX0_withValue D cI cZ [.ref h0, .int x1, .int x2] [(h0, .inr (0, [.ref h0_names, .ref h0_values, .ref h0_kinds, .int v0_size])), (h0_names, .inl (cI, 80, .inl v0_names)), (h0_values, .inl (cI, 80, .inl v0_values)), (h0_kinds, .inl (cI, 80, .inl v0_kinds))] [(h0, .inr (0, [.ref h0_names, .ref h0_values, .ref h0_kinds, .int v0_size])), (h0_names, .inl (cI, 80, .inl v0_names)), (h0_values, .inl (cI, 80, .inl v0_values)), (h0_kinds, .inl (cI, 80, .inl v0_kinds))] o :=
  CI_of (cc := cX0_withValue) (nL := 5) (ret := (some .int)) (by decide) rfl (Nat.le_of_ble_eq_true rfl) rfl (fun p e s m args below meth c A h => tfX0_withValue h hF)
/-! X5_addFigure -/
abbrev rmX5_addFigure : Room := { frames := 1, cells := 0, slots := 0, locals := 40 }
theorem uX5_addFigure_inX5 : ∀ w ∈ wsX50, w ∈ wsX5_addFigure := by decide +kernel
theorem uX5_addFigure_f31 : Cond.fieldLink RX5 31 "LeafAsks$Text" "size" "I" ∈ wsX5_addFigure := by decide +kernel
theorem uX5_addFigure_f21 : Cond.fieldLink RX5 21 "LeafAsks$Text" "numbers" "[I" ∈ wsX5_addFigure := by decide +kernel
theorem uX5_addFigure_mmin1 : Cond.methodLink RX5 58 Lib.Math.min.name ∈ wsX5_addFigure := by decide +kernel
theorem uX5_addFigure_mmin2 : Cond.static Lib.Math.min.name ∈ wsX5_addFigure := by decide +kernel
theorem uX5_addFigure_mmin3 : Cond.initialized "java/lang/Math" ∈ wsX5_addFigure := by decide +kernel
theorem uX5_addFigure_mmin4 : Cond.code Lib.Math.min.name Lib.Math.min.code 2 (some .int) ∈ wsX5_addFigure := by decide +kernel
noncomputable def fX5_addFigure_b51 (v0_size : Int32) (x1 : Int32) (v0_numbers : (Nat → Int32)) (s0 : Int32) (s1 : Int32) : Option ((Nat → Int32)) :=
  gin s1 160 (some (upd v0_numbers s1.toNatClampNeg s0))
set_option maxRecDepth 100000 in
set_option maxHeartbeats 4000000 in
theorem tfX5_addFigure_b51 {p : Program} {l : Launch} {e : Env} {s : State} {m : MethodId} {args : Array Value} {below : List Frame} {meth : Method} {c : Code} {A : Nat → Prop} {D : va_G} {cI cZ : ClassId} (h : Cx p s m args meth c A D cI cZ 4 cX5_addFigure RX5 wsX5_addFigure none) {h0 h0_letters h0_tokens h0_starts h0_numbers : Nat} {x1 : Int32} {v0_size : Int32} {v0_at : Int32} {v0_length : Int32} {v0_token : Int32} {v0_start : Int32} {v0_number : Int32} {v0_letters : (Nat → Int32)} {v0_tokens : (Nat → Int32)} {v0_starts : (Nat → Int32)} {v0_numbers : (Nat → Int32)} {s0 : Int32} {s1 : Int32} {o : (Nat → Int32)} (hF : fX5_addFigure_b51 v0_size x1 v0_numbers s0 s1 = some o) : V p l e rmX5_addFigure s m args below meth c A D 4 (QV D [(h0, .inr (5, [.ref h0_letters, .ref h0_tokens, .ref h0_starts, .ref h0_numbers, .int v0_size, .int v0_at, .int v0_length, .int v0_token, .int v0_start, .int v0_number])), (h0_letters, .inl (cI, 160, .inl v0_letters)), (h0_tokens, .inl (cI, 160, .inl v0_tokens)), (h0_starts, .inl (cI, 160, .inl v0_starts)), (h0_numbers, .inl (cI, 160, .inl o))] A below args s) [(h0, .inr (5, [.ref h0_letters, .ref h0_tokens, .ref h0_starts, .ref h0_numbers, .int v0_size, .int v0_at, .int v0_length, .int v0_token, .int v0_start, .int v0_number])), (h0_letters, .inl (cI, 160, .inl v0_letters)), (h0_tokens, .inl (cI, 160, .inl v0_tokens)), (h0_starts, .inl (cI, 160, .inl v0_starts)), (h0_numbers, .inl (cI, 160, .inl v0_numbers))] 51 [] [.int s0, .int s1, .ref h0_numbers] := by
  unfold fX5_addFigure_b51 at hF
  refine V_iast (pc := 51) h 4 rfl [(h0, .inr (5, [.ref h0_letters, .ref h0_tokens, .ref h0_starts, .ref h0_numbers, .int v0_size, .int v0_at, .int v0_length, .int v0_token, .int v0_start, .int v0_number])), (h0_letters, .inl (cI, 160, .inl v0_letters)), (h0_tokens, .inl (cI, 160, .inl v0_tokens)), (h0_starts, .inl (cI, 160, .inl v0_starts)), (h0_numbers, .inl (cI, 160, .inl (upd v0_numbers s1.toNatClampNeg s0)))] rfl dX5_addFigure_51 hF (fun hF => ?_)
  have hF := Option.some.inj hF
  subst hF
  exact V_vret (pc := 52) h dX5_addFigure_52
noncomputable def fX5_addFigure (v0_size : Int32) (x1 : Int32) (v0_numbers : (Nat → Int32)) : Option ((Nat → Int32)) :=
  bnd (v0_size - (1 : Int32)) (fun x2_6 => if x2_6 < (0 : Int32) then some v0_numbers else if x2_6 < (160 : Int32) then gin x2_6 160 (bnd (v0_numbers x2_6.toNatClampNeg) (fun x3_25 => if x3_25 = (0 : Int32) then fX5_addFigure_b51 v0_size x1 v0_numbers (100 : Int32) x2_6 else fX5_addFigure_b51 v0_size x1 v0_numbers (jmin (100 : Int32) (((10 : Int32) * x3_25) + x1)) x2_6)) else some v0_numbers)
set_option maxRecDepth 100000 in
set_option maxHeartbeats 4000000 in
theorem tfX5_addFigure {p : Program} {l : Launch} {e : Env} {s : State} {m : MethodId} {args : Array Value} {below : List Frame} {meth : Method} {c : Code} {A : Nat → Prop} {D : va_G} {cI cZ : ClassId} (h : Cx p s m args meth c A D cI cZ 4 cX5_addFigure RX5 wsX5_addFigure none) {h0 h0_letters h0_tokens h0_starts h0_numbers : Nat} {x1 : Int32} {v0_size : Int32} {v0_at : Int32} {v0_length : Int32} {v0_token : Int32} {v0_start : Int32} {v0_number : Int32} {v0_letters : (Nat → Int32)} {v0_tokens : (Nat → Int32)} {v0_starts : (Nat → Int32)} {v0_numbers : (Nat → Int32)} {o : (Nat → Int32)} (hF : fX5_addFigure v0_size x1 v0_numbers = some o) : V p l e rmX5_addFigure s m args below meth c A D 4 (QV D [(h0, .inr (5, [.ref h0_letters, .ref h0_tokens, .ref h0_starts, .ref h0_numbers, .int v0_size, .int v0_at, .int v0_length, .int v0_token, .int v0_start, .int v0_number])), (h0_letters, .inl (cI, 160, .inl v0_letters)), (h0_tokens, .inl (cI, 160, .inl v0_tokens)), (h0_starts, .inl (cI, 160, .inl v0_starts)), (h0_numbers, .inl (cI, 160, .inl o))] A below args s) [(h0, .inr (5, [.ref h0_letters, .ref h0_tokens, .ref h0_starts, .ref h0_numbers, .int v0_size, .int v0_at, .int v0_length, .int v0_token, .int v0_start, .int v0_number])), (h0_letters, .inl (cI, 160, .inl v0_letters)), (h0_tokens, .inl (cI, 160, .inl v0_tokens)), (h0_starts, .inl (cI, 160, .inl v0_starts)), (h0_numbers, .inl (cI, 160, .inl v0_numbers))] 0 [(0, .ref h0), (1, .int x1)] [] := by
  unfold fX5_addFigure at hF
  refine V_aload_n (pc := 0) h 0 dX5_addFigure_0 rfl ?_
  refine V_get (pc := 1) h uX5_addFigure_inX5 0 4 rfl rfl (by decide) uX5_addFigure_f31 rfl rfl dX5_addFigure_1 ?_
  refine V_iconst (pc := 4) h (v := (1 : Int32)) dX5_addFigure_4 (by decide) ?_
  refine V_isub (pc := 5) h dX5_addFigure_5 ?_
  refine V_bnd hF (fun x2_6 hF => ?_)
  refine V_istore_n (pc := 6) h [(2, .int x2_6), (0, .ref h0), (1, .int x1)] dX5_addFigure_6 (by decide) rfl ?_
  refine V_iload_n (pc := 7) h 0 dX5_addFigure_7 rfl ?_
  refine V_if_lt (pc := 8) h (tgt := 18) dX5_addFigure_8 (by decide) hF (fun hF => ?_) (fun hF => ?_)
  · have hF := Option.some.inj hF
    subst hF
    exact V_vret (pc := 18) h dX5_addFigure_18
  · refine V_iload_n (pc := 11) h 0 dX5_addFigure_11 rfl ?_
    refine V_sipush (pc := 12) h (v := (160 : Int32)) dX5_addFigure_12 (by decide) ?_
    refine V_icmp_lt (pc := 15) h (tgt := 19) dX5_addFigure_15 (by decide) hF (fun hF => ?_) (fun hF => ?_)
    · refine V_aload_n (pc := 19) h 1 dX5_addFigure_19 rfl ?_
      refine V_get (pc := 20) h uX5_addFigure_inX5 0 3 rfl rfl (by decide) uX5_addFigure_f21 rfl rfl dX5_addFigure_20 ?_
      refine V_iload_n (pc := 23) h 0 dX5_addFigure_23 rfl ?_
      refine V_iald (pc := 24) h 4 rfl dX5_addFigure_24 hF (fun hF => ?_)
      refine V_bnd hF (fun x3_25 hF => ?_)
      refine V_istore_n (pc := 25) h [(3, .int x3_25), (2, .int x2_6), (0, .ref h0), (1, .int x1)] dX5_addFigure_25 (by decide) rfl ?_
      refine V_aload_n (pc := 26) h 2 dX5_addFigure_26 rfl ?_
      refine V_get (pc := 27) h uX5_addFigure_inX5 0 3 rfl rfl (by decide) uX5_addFigure_f21 rfl rfl dX5_addFigure_27 ?_
      refine V_iload_n (pc := 30) h 1 dX5_addFigure_30 rfl ?_
      refine V_iload_n (pc := 31) h 0 dX5_addFigure_31 rfl ?_
      refine V_if_ne (pc := 32) h (tgt := 40) dX5_addFigure_32 (by decide) hF (fun hF => ?_) (fun hF => ?_)
      · refine V_bipush (pc := 40) h (v := (100 : Int32)) dX5_addFigure_40 (by decide) ?_
        refine V_bipush (pc := 42) h (v := (10 : Int32)) dX5_addFigure_42 (by decide) ?_
        refine V_iload_n (pc := 44) h 0 dX5_addFigure_44 rfl ?_
        refine V_imul (pc := 45) h dX5_addFigure_45 ?_
        refine V_iload_n (pc := 46) h 3 dX5_addFigure_46 rfl ?_
        refine V_iadd (pc := 47) h dX5_addFigure_47 ?_
        refine V_mmin (pc := 48) h uX5_addFigure_mmin1 uX5_addFigure_mmin2 uX5_addFigure_mmin3 uX5_addFigure_mmin4 (Nat.le_of_ble_eq_true rfl) (Nat.le_of_ble_eq_true rfl) dX5_addFigure_48 ?_
        refine V_lv [] [] rfl ?_
        exact tfX5_addFigure_b51 h hF
      · refine V_bipush (pc := 35) h (v := (100 : Int32)) dX5_addFigure_35 (by decide) ?_
        refine V_goto (pc := 37) h (tgt := 51) dX5_addFigure_37 (by decide) ?_
        refine V_lv [] [] rfl ?_
        exact tfX5_addFigure_b51 h hF
    · have hF := Option.some.inj hF
      subst hF
      exact V_vret (pc := 18) h dX5_addFigure_18
set_option maxRecDepth 100000 in
theorem k_X5_addFigure (l : Launch) (D : va_G) (cI cZ : ClassId) (h0 h0_letters h0_tokens h0_starts h0_numbers : Nat) (v0_size : Int32) (v0_at : Int32) (v0_length : Int32) (v0_token : Int32) (v0_start : Int32) (v0_number : Int32) (v0_letters : (Nat → Int32)) (v0_tokens : (Nat → Int32)) (v0_starts : (Nat → Int32)) (v0_numbers : (Nat → Int32)) (x1 : Int32) {o : (Nat → Int32)} (hF : fX5_addFigure v0_size x1 v0_numbers = some o) : CV l yX5_addFigure wsX5_addFigure rmX5_addFigure D cI cZ [.ref h0, .int x1] [(h0, .inr (5, [.ref h0_letters, .ref h0_tokens, .ref h0_starts, .ref h0_numbers, .int v0_size, .int v0_at, .int v0_length, .int v0_token, .int v0_start, .int v0_number])), (h0_letters, .inl (cI, 160, .inl v0_letters)), (h0_tokens, .inl (cI, 160, .inl v0_tokens)), (h0_starts, .inl (cI, 160, .inl v0_starts)), (h0_numbers, .inl (cI, 160, .inl v0_numbers))] [(h0, .inr (5, [.ref h0_letters, .ref h0_tokens, .ref h0_starts, .ref h0_numbers, .int v0_size, .int v0_at, .int v0_length, .int v0_token, .int v0_start, .int v0_number])), (h0_letters, .inl (cI, 160, .inl v0_letters)), (h0_tokens, .inl (cI, 160, .inl v0_tokens)), (h0_starts, .inl (cI, 160, .inl v0_starts)), (h0_numbers, .inl (cI, 160, .inl o))] :=
  CV_of (cc := cX5_addFigure) (nL := 4) (ret := none) (by decide) rfl (Nat.le_of_ble_eq_true rfl) rfl (fun p e s m args below meth c A h => tfX5_addFigure h hF)
/-! X5_addToken -/
abbrev rmX5_addToken : Room := { frames := 0, cells := 0, slots := 0, locals := 0 }
theorem uX5_addToken_inX5 : ∀ w ∈ wsX50, w ∈ wsX5_addToken := by decide +kernel
theorem uX5_addToken_f31 : Cond.fieldLink RX5 31 "LeafAsks$Text" "size" "I" ∈ wsX5_addToken := by decide +kernel
theorem uX5_addToken_f15 : Cond.fieldLink RX5 15 "LeafAsks$Text" "tokens" "[I" ∈ wsX5_addToken := by decide +kernel
theorem uX5_addToken_f18 : Cond.fieldLink RX5 18 "LeafAsks$Text" "starts" "[I" ∈ wsX5_addToken := by decide +kernel
theorem uX5_addToken_f21 : Cond.fieldLink RX5 21 "LeafAsks$Text" "numbers" "[I" ∈ wsX5_addToken := by decide +kernel
noncomputable def fX5_addToken (x1 : Int32) (x2 : Int32) (x3 : Int32) (v0_size : Int32) (v0_tokens : (Nat → Int32)) (v0_starts : (Nat → Int32)) (v0_numbers : (Nat → Int32)) : Option (Int32 × (Nat → Int32) × (Nat → Int32) × (Nat → Int32)) :=
  if v0_size < (0 : Int32) then some (v0_size, v0_tokens, v0_starts, v0_numbers) else if v0_size < (160 : Int32) then gin v0_size 160 (gin v0_size 160 (gin v0_size 160 (bnd (v0_size + (1 : Int32)) (fun y55 => some ((y55, (upd v0_tokens v0_size.toNatClampNeg x1), (upd v0_starts v0_size.toNatClampNeg x2), (upd v0_numbers v0_size.toNatClampNeg x3))))))) else some (v0_size, v0_tokens, v0_starts, v0_numbers)
set_option maxRecDepth 100000 in
set_option maxHeartbeats 4000000 in
theorem tfX5_addToken {p : Program} {l : Launch} {e : Env} {s : State} {m : MethodId} {args : Array Value} {below : List Frame} {meth : Method} {c : Code} {A : Nat → Prop} {D : va_G} {cI cZ : ClassId} (h : Cx p s m args meth c A D cI cZ 4 cX5_addToken RX5 wsX5_addToken none) {h0 h0_letters h0_tokens h0_starts h0_numbers : Nat} {x1 : Int32} {x2 : Int32} {x3 : Int32} {v0_at : Int32} {v0_length : Int32} {v0_token : Int32} {v0_start : Int32} {v0_number : Int32} {v0_letters : (Nat → Int32)} {v0_size : Int32} {v0_tokens : (Nat → Int32)} {v0_starts : (Nat → Int32)} {v0_numbers : (Nat → Int32)} {o : Int32 × (Nat → Int32) × (Nat → Int32) × (Nat → Int32)} (hF : fX5_addToken x1 x2 x3 v0_size v0_tokens v0_starts v0_numbers = some o) : V p l e rmX5_addToken s m args below meth c A D 4 (QV D [(h0, .inr (5, [.ref h0_letters, .ref h0_tokens, .ref h0_starts, .ref h0_numbers, .int o.1, .int v0_at, .int v0_length, .int v0_token, .int v0_start, .int v0_number])), (h0_letters, .inl (cI, 160, .inl v0_letters)), (h0_tokens, .inl (cI, 160, .inl o.2.1)), (h0_starts, .inl (cI, 160, .inl o.2.2.1)), (h0_numbers, .inl (cI, 160, .inl o.2.2.2))] A below args s) [(h0, .inr (5, [.ref h0_letters, .ref h0_tokens, .ref h0_starts, .ref h0_numbers, .int v0_size, .int v0_at, .int v0_length, .int v0_token, .int v0_start, .int v0_number])), (h0_letters, .inl (cI, 160, .inl v0_letters)), (h0_tokens, .inl (cI, 160, .inl v0_tokens)), (h0_starts, .inl (cI, 160, .inl v0_starts)), (h0_numbers, .inl (cI, 160, .inl v0_numbers))] 0 [(0, .ref h0), (1, .int x1), (2, .int x2), (3, .int x3)] [] := by
  unfold fX5_addToken at hF
  refine V_aload_n (pc := 0) h 0 dX5_addToken_0 rfl ?_
  refine V_get (pc := 1) h uX5_addToken_inX5 0 4 rfl rfl (by decide) uX5_addToken_f31 rfl rfl dX5_addToken_1 ?_
  refine V_if_lt (pc := 4) h (tgt := 17) dX5_addToken_4 (by decide) hF (fun hF => ?_) (fun hF => ?_)
  · have hF := Option.some.inj hF
    subst hF
    exact V_vret (pc := 17) h dX5_addToken_17
  · refine V_aload_n (pc := 7) h 0 dX5_addToken_7 rfl ?_
    refine V_get (pc := 8) h uX5_addToken_inX5 0 4 rfl rfl (by decide) uX5_addToken_f31 rfl rfl dX5_addToken_8 ?_
    refine V_sipush (pc := 11) h (v := (160 : Int32)) dX5_addToken_11 (by decide) ?_
    refine V_icmp_lt (pc := 14) h (tgt := 18) dX5_addToken_14 (by decide) hF (fun hF => ?_) (fun hF => ?_)
    · refine V_aload_n (pc := 18) h 0 dX5_addToken_18 rfl ?_
      refine V_get (pc := 19) h uX5_addToken_inX5 0 1 rfl rfl (by decide) uX5_addToken_f15 rfl rfl dX5_addToken_19 ?_
      refine V_aload_n (pc := 22) h 0 dX5_addToken_22 rfl ?_
      refine V_get (pc := 23) h uX5_addToken_inX5 0 4 rfl rfl (by decide) uX5_addToken_f31 rfl rfl dX5_addToken_23 ?_
      refine V_iload_n (pc := 26) h 1 dX5_addToken_26 rfl ?_
      refine V_iast (pc := 27) h 2 rfl [(h0, .inr (5, [.ref h0_letters, .ref h0_tokens, .ref h0_starts, .ref h0_numbers, .int v0_size, .int v0_at, .int v0_length, .int v0_token, .int v0_start, .int v0_number])), (h0_letters, .inl (cI, 160, .inl v0_letters)), (h0_tokens, .inl (cI, 160, .inl (upd v0_tokens v0_size.toNatClampNeg x1))), (h0_starts, .inl (cI, 160, .inl v0_starts)), (h0_numbers, .inl (cI, 160, .inl v0_numbers))] rfl dX5_addToken_27 hF (fun hF => ?_)
      refine V_aload_n (pc := 28) h 0 dX5_addToken_28 rfl ?_
      refine V_get (pc := 29) h uX5_addToken_inX5 0 2 rfl rfl (by decide) uX5_addToken_f18 rfl rfl dX5_addToken_29 ?_
      refine V_aload_n (pc := 32) h 0 dX5_addToken_32 rfl ?_
      refine V_get (pc := 33) h uX5_addToken_inX5 0 4 rfl rfl (by decide) uX5_addToken_f31 rfl rfl dX5_addToken_33 ?_
      refine V_iload_n (pc := 36) h 2 dX5_addToken_36 rfl ?_
      refine V_iast (pc := 37) h 3 rfl [(h0, .inr (5, [.ref h0_letters, .ref h0_tokens, .ref h0_starts, .ref h0_numbers, .int v0_size, .int v0_at, .int v0_length, .int v0_token, .int v0_start, .int v0_number])), (h0_letters, .inl (cI, 160, .inl v0_letters)), (h0_tokens, .inl (cI, 160, .inl (upd v0_tokens v0_size.toNatClampNeg x1))), (h0_starts, .inl (cI, 160, .inl (upd v0_starts v0_size.toNatClampNeg x2))), (h0_numbers, .inl (cI, 160, .inl v0_numbers))] rfl dX5_addToken_37 hF (fun hF => ?_)
      refine V_aload_n (pc := 38) h 0 dX5_addToken_38 rfl ?_
      refine V_get (pc := 39) h uX5_addToken_inX5 0 3 rfl rfl (by decide) uX5_addToken_f21 rfl rfl dX5_addToken_39 ?_
      refine V_aload_n (pc := 42) h 0 dX5_addToken_42 rfl ?_
      refine V_get (pc := 43) h uX5_addToken_inX5 0 4 rfl rfl (by decide) uX5_addToken_f31 rfl rfl dX5_addToken_43 ?_
      refine V_iload_n (pc := 46) h 3 dX5_addToken_46 rfl ?_
      refine V_iast (pc := 47) h 4 rfl [(h0, .inr (5, [.ref h0_letters, .ref h0_tokens, .ref h0_starts, .ref h0_numbers, .int v0_size, .int v0_at, .int v0_length, .int v0_token, .int v0_start, .int v0_number])), (h0_letters, .inl (cI, 160, .inl v0_letters)), (h0_tokens, .inl (cI, 160, .inl (upd v0_tokens v0_size.toNatClampNeg x1))), (h0_starts, .inl (cI, 160, .inl (upd v0_starts v0_size.toNatClampNeg x2))), (h0_numbers, .inl (cI, 160, .inl (upd v0_numbers v0_size.toNatClampNeg x3)))] rfl dX5_addToken_47 hF (fun hF => ?_)
      refine V_aload_n (pc := 48) h 0 dX5_addToken_48 rfl ?_
      refine V_dup (pc := 49) h dX5_addToken_49 rfl ?_
      refine V_get (pc := 50) h uX5_addToken_inX5 0 4 rfl rfl (by decide) uX5_addToken_f31 rfl rfl dX5_addToken_50 ?_
      refine V_iconst (pc := 53) h (v := (1 : Int32)) dX5_addToken_53 (by decide) ?_
      refine V_iadd (pc := 54) h dX5_addToken_54 ?_
      refine V_bnd hF (fun y55 hF => ?_)
      refine V_put (pc := 55) h uX5_addToken_inX5 tyX5 tyX5_ok nmX5 0 4 rfl rfl (by decide) uX5_addToken_f31 rfl rfl (by decide +kernel) (Nat.le_of_ble_eq_true rfl) [(h0, .inr (5, [.ref h0_letters, .ref h0_tokens, .ref h0_starts, .ref h0_numbers, .int y55, .int v0_at, .int v0_length, .int v0_token, .int v0_start, .int v0_number])), (h0_letters, .inl (cI, 160, .inl v0_letters)), (h0_tokens, .inl (cI, 160, .inl (upd v0_tokens v0_size.toNatClampNeg x1))), (h0_starts, .inl (cI, 160, .inl (upd v0_starts v0_size.toNatClampNeg x2))), (h0_numbers, .inl (cI, 160, .inl (upd v0_numbers v0_size.toNatClampNeg x3)))] rfl dX5_addToken_55 ?_
      have hF := Option.some.inj hF
      subst hF
      exact V_vret (pc := 58) h dX5_addToken_58
    · have hF := Option.some.inj hF
      subst hF
      exact V_vret (pc := 17) h dX5_addToken_17
set_option maxRecDepth 100000 in
theorem k_X5_addToken (l : Launch) (D : va_G) (cI cZ : ClassId) (h0 h0_letters h0_tokens h0_starts h0_numbers : Nat) (v0_size : Int32) (v0_at : Int32) (v0_length : Int32) (v0_token : Int32) (v0_start : Int32) (v0_number : Int32) (v0_letters : (Nat → Int32)) (v0_tokens : (Nat → Int32)) (v0_starts : (Nat → Int32)) (v0_numbers : (Nat → Int32)) (x1 : Int32) (x2 : Int32) (x3 : Int32) {o : Int32 × (Nat → Int32) × (Nat → Int32) × (Nat → Int32)} (hF : fX5_addToken x1 x2 x3 v0_size v0_tokens v0_starts v0_numbers = some o) : CV l yX5_addToken wsX5_addToken rmX5_addToken D cI cZ [.ref h0, .int x1, .int x2, .int x3] [(h0, .inr (5, [.ref h0_letters, .ref h0_tokens, .ref h0_starts, .ref h0_numbers, .int v0_size, .int v0_at, .int v0_length, .int v0_token, .int v0_start, .int v0_number])), (h0_letters, .inl (cI, 160, .inl v0_letters)), (h0_tokens, .inl (cI, 160, .inl v0_tokens)), (h0_starts, .inl (cI, 160, .inl v0_starts)), (h0_numbers, .inl (cI, 160, .inl v0_numbers))] [(h0, .inr (5, [.ref h0_letters, .ref h0_tokens, .ref h0_starts, .ref h0_numbers, .int o.1, .int v0_at, .int v0_length, .int v0_token, .int v0_start, .int v0_number])), (h0_letters, .inl (cI, 160, .inl v0_letters)), (h0_tokens, .inl (cI, 160, .inl o.2.1)), (h0_starts, .inl (cI, 160, .inl o.2.2.1)), (h0_numbers, .inl (cI, 160, .inl o.2.2.2))] :=
  CV_of (cc := cX5_addToken) (nL := 4) (ret := none) (by decide) rfl (Nat.le_of_ble_eq_true rfl) rfl (fun p e s m args below meth c A h => tfX5_addToken h hF)
/-! X5_rewind -/
abbrev rmX5_rewind : Room := { frames := 2, cells := 0, slots := 0, locals := 63 }
theorem uX5_rewind_inX5 : ∀ w ∈ wsX50, w ∈ wsX5_rewind := by decide +kernel
theorem uX5_rewind_f24 : Cond.fieldLink RX5 24 "LeafAsks$Text" "length" "I" ∈ wsX5_rewind := by decide +kernel
theorem uX5_rewind_f11 : Cond.fieldLink RX5 11 "LeafAsks$Text" "letters" "[I" ∈ wsX5_rewind := by decide +kernel
theorem uX5_rewind_f28 : Cond.fieldLink RX5 28 "LeafAsks$Text" "at" "I" ∈ wsX5_rewind := by decide +kernel
theorem uX5_rewind_f31 : Cond.fieldLink RX5 31 "LeafAsks$Text" "size" "I" ∈ wsX5_rewind := by decide +kernel
noncomputable def fX5_rewind_b75 (v0_length : Int32) (v0_letters : (Nat → Int32)) (k14 : Int32 → Int32 → (Nat → Int32) → (Nat → Int32) → (Nat → Int32) → Int32 → Int32 → Option (Int32 × Int32 × (Nat → Int32) × (Nat → Int32) × (Nat → Int32))) (v0_size : Int32) (v0_at : Int32) (v0_tokens : (Nat → Int32)) (v0_starts : (Nat → Int32)) (v0_numbers : (Nat → Int32)) (x2 : Int32) (x3 : Int32) (x4 : Int32) : Option (Int32 × Int32 × (Nat → Int32) × (Nat → Int32) × (Nat → Int32)) :=
  if x4 = (0 : Int32) then if x3 = (32 : Int32) then bnd (x2 + (1 : Int32)) (fun x2_111 => k14 v0_size v0_at v0_tokens v0_starts v0_numbers x4 x2_111) else bd (fX5_addToken x3 x2 (0 : Int32) v0_size v0_tokens v0_starts v0_numbers) (fun r105 => bnd (x2 + (1 : Int32)) (fun x2_111 => k14 r105.1 v0_at r105.2.1 r105.2.2.1 r105.2.2.2 x4 x2_111)) else bd (fX5_addToken (256 : Int32) x2 (x3 - (48 : Int32)) v0_size v0_tokens v0_starts v0_numbers) (fun r89 => bnd (x2 + (1 : Int32)) (fun x2_111 => k14 r89.1 v0_at r89.2.1 r89.2.2.1 r89.2.2.2 x4 x2_111))
set_option maxRecDepth 100000 in
set_option maxHeartbeats 4000000 in
theorem tfX5_rewind_b75 {p : Program} {l : Launch} {e : Env} {s : State} {m : MethodId} {args : Array Value} {below : List Frame} {meth : Method} {c : Code} {A : Nat → Prop} {D : va_G} {cI cZ : ClassId} (h : Cx p s m args meth c A D cI cZ 5 cX5_rewind RX5 wsX5_rewind none) {h0 h0_letters h0_tokens h0_starts h0_numbers : Nat} {v0_length : Int32} {v0_token : Int32} {v0_start : Int32} {v0_number : Int32} {v0_letters : (Nat → Int32)} {k14 : Int32 → Int32 → (Nat → Int32) → (Nat → Int32) → (Nat → Int32) → Int32 → Int32 → Option (Int32 × Int32 × (Nat → Int32) × (Nat → Int32) × (Nat → Int32))} {v0_size : Int32} {v0_at : Int32} {v0_tokens : (Nat → Int32)} {v0_starts : (Nat → Int32)} {v0_numbers : (Nat → Int32)} {x2 : Int32} {x3 : Int32} {x4 : Int32} {o : Int32 × Int32 × (Nat → Int32) × (Nat → Int32) × (Nat → Int32)} (hk14 : ∀ (v0_size : Int32) (v0_at : Int32) (v0_tokens : (Nat → Int32)) (v0_starts : (Nat → Int32)) (v0_numbers : (Nat → Int32)) (x1 : Int32) (x2 : Int32), k14 v0_size v0_at v0_tokens v0_starts v0_numbers x1 x2 = some o → V p l e rmX5_rewind s m args below meth c A D 5 (QV D [(h0, .inr (5, [.ref h0_letters, .ref h0_tokens, .ref h0_starts, .ref h0_numbers, .int o.1, .int o.2.1, .int v0_length, .int v0_token, .int v0_start, .int v0_number])), (h0_letters, .inl (cI, 160, .inl v0_letters)), (h0_tokens, .inl (cI, 160, .inl o.2.2.1)), (h0_starts, .inl (cI, 160, .inl o.2.2.2.1)), (h0_numbers, .inl (cI, 160, .inl o.2.2.2.2))] A below args s) [(h0, .inr (5, [.ref h0_letters, .ref h0_tokens, .ref h0_starts, .ref h0_numbers, .int v0_size, .int v0_at, .int v0_length, .int v0_token, .int v0_start, .int v0_number])), (h0_letters, .inl (cI, 160, .inl v0_letters)), (h0_tokens, .inl (cI, 160, .inl v0_tokens)), (h0_starts, .inl (cI, 160, .inl v0_starts)), (h0_numbers, .inl (cI, 160, .inl v0_numbers))] 14 [(0, .ref h0), (1, .int x1), (2, .int x2)] []) (hF : fX5_rewind_b75 v0_length v0_letters k14 v0_size v0_at v0_tokens v0_starts v0_numbers x2 x3 x4 = some o) : V p l e rmX5_rewind s m args below meth c A D 5 (QV D [(h0, .inr (5, [.ref h0_letters, .ref h0_tokens, .ref h0_starts, .ref h0_numbers, .int o.1, .int o.2.1, .int v0_length, .int v0_token, .int v0_start, .int v0_number])), (h0_letters, .inl (cI, 160, .inl v0_letters)), (h0_tokens, .inl (cI, 160, .inl o.2.2.1)), (h0_starts, .inl (cI, 160, .inl o.2.2.2.1)), (h0_numbers, .inl (cI, 160, .inl o.2.2.2.2))] A below args s) [(h0, .inr (5, [.ref h0_letters, .ref h0_tokens, .ref h0_starts, .ref h0_numbers, .int v0_size, .int v0_at, .int v0_length, .int v0_token, .int v0_start, .int v0_number])), (h0_letters, .inl (cI, 160, .inl v0_letters)), (h0_tokens, .inl (cI, 160, .inl v0_tokens)), (h0_starts, .inl (cI, 160, .inl v0_starts)), (h0_numbers, .inl (cI, 160, .inl v0_numbers))] 75 [(0, .ref h0), (2, .int x2), (3, .int x3), (4, .int x4)] [] := by
  unfold fX5_rewind_b75 at hF
  refine V_iload (pc := 75) h 3 dX5_rewind_75 rfl ?_
  refine V_if_eq (pc := 77) h (tgt := 95) dX5_rewind_77 (by decide) hF (fun hF => ?_) (fun hF => ?_)
  · refine V_iload_n (pc := 95) h 2 dX5_rewind_95 rfl ?_
    refine V_bipush (pc := 96) h (v := (32 : Int32)) dX5_rewind_96 (by decide) ?_
    refine V_icmp_eq (pc := 98) h (tgt := 108) dX5_rewind_98 (by decide) hF (fun hF => ?_) (fun hF => ?_)
    · refine V_iload (pc := 108) h 3 dX5_rewind_108 rfl ?_
      refine V_istore_n (pc := 110) h [(1, .int x4), (0, .ref h0), (2, .int x2), (3, .int x3), (4, .int x4)] dX5_rewind_110 (by decide) rfl ?_
      refine V_iinc (pc := 111) h 2 (fun x2_111 => [(2, .int x2_111), (1, .int x4), (0, .ref h0), (3, .int x3), (4, .int x4)]) dX5_rewind_111 rfl rfl (by decide) (fun _ => rfl) hF (fun x2_111 hF => ?_)
      refine V_goto (pc := 114) h (tgt := 14) dX5_rewind_114 (by decide) ?_
      refine V_lv [2, 1, 0] [(0, .ref h0), (1, .int x4), (2, .int x2_111)] rfl ?_
      exact hk14 _ _ _ _ _ _ _ hF
    · refine V_aload_n (pc := 101) h 0 dX5_rewind_101 rfl ?_
      refine V_iload_n (pc := 102) h 2 dX5_rewind_102 rfl ?_
      refine V_iload_n (pc := 103) h 1 dX5_rewind_103 rfl ?_
      refine V_iconst (pc := 104) h (v := (0 : Int32)) dX5_rewind_104 (by decide) ?_
      refine V_cvVA (pc := 105) h (n := 3) (bytes := cX5_addToken) (maxL := 4) (As := [.int x3, .int x2, .int (0 : Int32)]) (rest := []) gX5_rewind_X5_addToken (by decide +kernel) rfl rfl rfl rfl ⟨rfl, rfl⟩ ⟨Nat.le_of_ble_eq_true rfl, Nat.le_of_ble_eq_true rfl⟩ rfl rfl (Nat.le_of_ble_eq_true rfl) dX5_rewind_105 hF (fun r105 hG => k_X5_addToken l D cI cZ h0 h0_letters h0_tokens h0_starts h0_numbers v0_size v0_at v0_length v0_token v0_start v0_number v0_letters v0_tokens v0_starts v0_numbers x3 x2 (0 : Int32) hG) (fun r105 hF => ?_)
      refine V_iload (pc := 108) h 3 dX5_rewind_108 rfl ?_
      refine V_istore_n (pc := 110) h [(1, .int x4), (0, .ref h0), (2, .int x2), (3, .int x3), (4, .int x4)] dX5_rewind_110 (by decide) rfl ?_
      refine V_iinc (pc := 111) h 2 (fun x2_111 => [(2, .int x2_111), (1, .int x4), (0, .ref h0), (3, .int x3), (4, .int x4)]) dX5_rewind_111 rfl rfl (by decide) (fun _ => rfl) hF (fun x2_111 hF => ?_)
      refine V_goto (pc := 114) h (tgt := 14) dX5_rewind_114 (by decide) ?_
      refine V_lv [2, 1, 0] [(0, .ref h0), (1, .int x4), (2, .int x2_111)] rfl ?_
      exact hk14 _ _ _ _ _ _ _ hF
  · refine V_aload_n (pc := 80) h 0 dX5_rewind_80 rfl ?_
    refine V_sipush (pc := 81) h (v := (256 : Int32)) dX5_rewind_81 (by decide) ?_
    refine V_iload_n (pc := 84) h 1 dX5_rewind_84 rfl ?_
    refine V_iload_n (pc := 85) h 2 dX5_rewind_85 rfl ?_
    refine V_bipush (pc := 86) h (v := (48 : Int32)) dX5_rewind_86 (by decide) ?_
    refine V_isub (pc := 88) h dX5_rewind_88 ?_
    refine V_cvVA (pc := 89) h (n := 3) (bytes := cX5_addToken) (maxL := 4) (As := [.int (256 : Int32), .int x2, .int (x3 - (48 : Int32))]) (rest := []) gX5_rewind_X5_addToken (by decide +kernel) rfl rfl rfl rfl ⟨rfl, rfl⟩ ⟨Nat.le_of_ble_eq_true rfl, Nat.le_of_ble_eq_true rfl⟩ rfl rfl (Nat.le_of_ble_eq_true rfl) dX5_rewind_89 hF (fun r89 hG => k_X5_addToken l D cI cZ h0 h0_letters h0_tokens h0_starts h0_numbers v0_size v0_at v0_length v0_token v0_start v0_number v0_letters v0_tokens v0_starts v0_numbers (256 : Int32) x2 (x3 - (48 : Int32)) hG) (fun r89 hF => ?_)
    refine V_goto (pc := 92) h (tgt := 108) dX5_rewind_92 (by decide) ?_
    refine V_iload (pc := 108) h 3 dX5_rewind_108 rfl ?_
    refine V_istore_n (pc := 110) h [(1, .int x4), (0, .ref h0), (2, .int x2), (3, .int x3), (4, .int x4)] dX5_rewind_110 (by decide) rfl ?_
    refine V_iinc (pc := 111) h 2 (fun x2_111 => [(2, .int x2_111), (1, .int x4), (0, .ref h0), (3, .int x3), (4, .int x4)]) dX5_rewind_111 rfl rfl (by decide) (fun _ => rfl) hF (fun x2_111 hF => ?_)
    refine V_goto (pc := 114) h (tgt := 14) dX5_rewind_114 (by decide) ?_
    refine V_lv [2, 1, 0] [(0, .ref h0), (1, .int x4), (2, .int x2_111)] rfl ?_
    exact hk14 _ _ _ _ _ _ _ hF
noncomputable def fX5_rewind_b53 (v0_length : Int32) (v0_letters : (Nat → Int32)) (k14 : Int32 → Int32 → (Nat → Int32) → (Nat → Int32) → (Nat → Int32) → Int32 → Int32 → Option (Int32 × Int32 × (Nat → Int32) × (Nat → Int32) × (Nat → Int32))) (v0_size : Int32) (v0_at : Int32) (v0_tokens : (Nat → Int32)) (v0_starts : (Nat → Int32)) (v0_numbers : (Nat → Int32)) (x1 : Int32) (x2 : Int32) (x3 : Int32) (s0 : Int32) : Option (Int32 × Int32 × (Nat → Int32) × (Nat → Int32) × (Nat → Int32)) :=
  if s0 = (0 : Int32) then fX5_rewind_b75 v0_length v0_letters k14 v0_size v0_at v0_tokens v0_starts v0_numbers x2 x3 s0 else if x1 = (0 : Int32) then fX5_rewind_b75 v0_length v0_letters k14 v0_size v0_at v0_tokens v0_starts v0_numbers x2 x3 s0 else bd (fX5_addFigure v0_size (x3 - (48 : Int32)) v0_numbers) (fun r69 => bnd (x2 + (1 : Int32)) (fun x2_111 => k14 v0_size v0_at v0_tokens v0_starts r69 s0 x2_111))
set_option maxRecDepth 100000 in
set_option maxHeartbeats 4000000 in
theorem tfX5_rewind_b53 {p : Program} {l : Launch} {e : Env} {s : State} {m : MethodId} {args : Array Value} {below : List Frame} {meth : Method} {c : Code} {A : Nat → Prop} {D : va_G} {cI cZ : ClassId} (h : Cx p s m args meth c A D cI cZ 5 cX5_rewind RX5 wsX5_rewind none) {h0 h0_letters h0_tokens h0_starts h0_numbers : Nat} {v0_length : Int32} {v0_token : Int32} {v0_start : Int32} {v0_number : Int32} {v0_letters : (Nat → Int32)} {k14 : Int32 → Int32 → (Nat → Int32) → (Nat → Int32) → (Nat → Int32) → Int32 → Int32 → Option (Int32 × Int32 × (Nat → Int32) × (Nat → Int32) × (Nat → Int32))} {v0_size : Int32} {v0_at : Int32} {v0_tokens : (Nat → Int32)} {v0_starts : (Nat → Int32)} {v0_numbers : (Nat → Int32)} {x1 : Int32} {x2 : Int32} {x3 : Int32} {s0 : Int32} {o : Int32 × Int32 × (Nat → Int32) × (Nat → Int32) × (Nat → Int32)} (hk14 : ∀ (v0_size : Int32) (v0_at : Int32) (v0_tokens : (Nat → Int32)) (v0_starts : (Nat → Int32)) (v0_numbers : (Nat → Int32)) (x1 : Int32) (x2 : Int32), k14 v0_size v0_at v0_tokens v0_starts v0_numbers x1 x2 = some o → V p l e rmX5_rewind s m args below meth c A D 5 (QV D [(h0, .inr (5, [.ref h0_letters, .ref h0_tokens, .ref h0_starts, .ref h0_numbers, .int o.1, .int o.2.1, .int v0_length, .int v0_token, .int v0_start, .int v0_number])), (h0_letters, .inl (cI, 160, .inl v0_letters)), (h0_tokens, .inl (cI, 160, .inl o.2.2.1)), (h0_starts, .inl (cI, 160, .inl o.2.2.2.1)), (h0_numbers, .inl (cI, 160, .inl o.2.2.2.2))] A below args s) [(h0, .inr (5, [.ref h0_letters, .ref h0_tokens, .ref h0_starts, .ref h0_numbers, .int v0_size, .int v0_at, .int v0_length, .int v0_token, .int v0_start, .int v0_number])), (h0_letters, .inl (cI, 160, .inl v0_letters)), (h0_tokens, .inl (cI, 160, .inl v0_tokens)), (h0_starts, .inl (cI, 160, .inl v0_starts)), (h0_numbers, .inl (cI, 160, .inl v0_numbers))] 14 [(0, .ref h0), (1, .int x1), (2, .int x2)] []) (hF : fX5_rewind_b53 v0_length v0_letters k14 v0_size v0_at v0_tokens v0_starts v0_numbers x1 x2 x3 s0 = some o) : V p l e rmX5_rewind s m args below meth c A D 5 (QV D [(h0, .inr (5, [.ref h0_letters, .ref h0_tokens, .ref h0_starts, .ref h0_numbers, .int o.1, .int o.2.1, .int v0_length, .int v0_token, .int v0_start, .int v0_number])), (h0_letters, .inl (cI, 160, .inl v0_letters)), (h0_tokens, .inl (cI, 160, .inl o.2.2.1)), (h0_starts, .inl (cI, 160, .inl o.2.2.2.1)), (h0_numbers, .inl (cI, 160, .inl o.2.2.2.2))] A below args s) [(h0, .inr (5, [.ref h0_letters, .ref h0_tokens, .ref h0_starts, .ref h0_numbers, .int v0_size, .int v0_at, .int v0_length, .int v0_token, .int v0_start, .int v0_number])), (h0_letters, .inl (cI, 160, .inl v0_letters)), (h0_tokens, .inl (cI, 160, .inl v0_tokens)), (h0_starts, .inl (cI, 160, .inl v0_starts)), (h0_numbers, .inl (cI, 160, .inl v0_numbers))] 53 [(0, .ref h0), (1, .int x1), (2, .int x2), (3, .int x3)] [.int s0] := by
  unfold fX5_rewind_b53 at hF
  refine V_istore (pc := 53) h [(4, .int s0), (0, .ref h0), (1, .int x1), (2, .int x2), (3, .int x3)] dX5_rewind_53 (by decide) rfl ?_
  refine V_iload (pc := 55) h 0 dX5_rewind_55 rfl ?_
  refine V_if_eq (pc := 57) h (tgt := 75) dX5_rewind_57 (by decide) hF (fun hF => ?_) (fun hF => ?_)
  · refine V_lv [1, 3, 4, 0] [(0, .ref h0), (2, .int x2), (3, .int x3), (4, .int s0)] rfl ?_
    exact tfX5_rewind_b75 h hk14 hF
  · refine V_iload_n (pc := 60) h 2 dX5_rewind_60 rfl ?_
    refine V_if_eq (pc := 61) h (tgt := 75) dX5_rewind_61 (by decide) hF (fun hF => ?_) (fun hF => ?_)
    · refine V_lv [1, 3, 4, 0] [(0, .ref h0), (2, .int x2), (3, .int x3), (4, .int s0)] rfl ?_
      exact tfX5_rewind_b75 h hk14 hF
    · refine V_aload_n (pc := 64) h 1 dX5_rewind_64 rfl ?_
      refine V_iload_n (pc := 65) h 4 dX5_rewind_65 rfl ?_
      refine V_bipush (pc := 66) h (v := (48 : Int32)) dX5_rewind_66 (by decide) ?_
      refine V_isub (pc := 68) h dX5_rewind_68 ?_
      refine V_cvVA (pc := 69) h (n := 1) (bytes := cX5_addFigure) (maxL := 4) (As := [.int (x3 - (48 : Int32))]) (rest := []) gX5_rewind_X5_addFigure (by decide +kernel) rfl rfl rfl rfl ⟨rfl, rfl⟩ ⟨Nat.le_of_ble_eq_true rfl, Nat.le_of_ble_eq_true rfl⟩ rfl rfl (Nat.le_of_ble_eq_true rfl) dX5_rewind_69 hF (fun r69 hG => k_X5_addFigure l D cI cZ h0 h0_letters h0_tokens h0_starts h0_numbers v0_size v0_at v0_length v0_token v0_start v0_number v0_letters v0_tokens v0_starts v0_numbers (x3 - (48 : Int32)) hG) (fun r69 hF => ?_)
      refine V_goto (pc := 72) h (tgt := 108) dX5_rewind_72 (by decide) ?_
      refine V_iload (pc := 108) h 0 dX5_rewind_108 rfl ?_
      refine V_istore_n (pc := 110) h [(1, .int s0), (4, .int s0), (0, .ref h0), (2, .int x2), (3, .int x3)] dX5_rewind_110 (by decide) rfl ?_
      refine V_iinc (pc := 111) h 3 (fun x2_111 => [(2, .int x2_111), (1, .int s0), (4, .int s0), (0, .ref h0), (3, .int x3)]) dX5_rewind_111 rfl rfl (by decide) (fun _ => rfl) hF (fun x2_111 hF => ?_)
      refine V_goto (pc := 114) h (tgt := 14) dX5_rewind_114 (by decide) ?_
      refine V_lv [3, 1, 0] [(0, .ref h0), (1, .int s0), (2, .int x2_111)] rfl ?_
      exact hk14 _ _ _ _ _ _ _ hF
noncomputable def fX5_rewind_b14 (v0_length : Int32) (v0_letters : (Nat → Int32)) (k14 : Int32 → Int32 → (Nat → Int32) → (Nat → Int32) → (Nat → Int32) → Int32 → Int32 → Option (Int32 × Int32 × (Nat → Int32) × (Nat → Int32) × (Nat → Int32))) (v0_size : Int32) (v0_at : Int32) (v0_tokens : (Nat → Int32)) (v0_starts : (Nat → Int32)) (v0_numbers : (Nat → Int32)) (x1 : Int32) (x2 : Int32) : Option (Int32 × Int32 × (Nat → Int32) × (Nat → Int32) × (Nat → Int32)) :=
  if v0_length ≤ x2 then some (v0_size, v0_at, v0_tokens, v0_starts, v0_numbers) else if (160 : Int32) ≤ x2 then some (v0_size, v0_at, v0_tokens, v0_starts, v0_numbers) else gin x2 160 (bnd (v0_letters x2.toNatClampNeg) (fun x3_35 => if x3_35 < (48 : Int32) then fX5_rewind_b53 v0_length v0_letters k14 v0_size v0_at v0_tokens v0_starts v0_numbers x1 x2 x3_35 (0 : Int32) else if (57 : Int32) < x3_35 then fX5_rewind_b53 v0_length v0_letters k14 v0_size v0_at v0_tokens v0_starts v0_numbers x1 x2 x3_35 (0 : Int32) else fX5_rewind_b53 v0_length v0_letters k14 v0_size v0_at v0_tokens v0_starts v0_numbers x1 x2 x3_35 (1 : Int32)))
set_option maxRecDepth 100000 in
set_option maxHeartbeats 4000000 in
theorem tfX5_rewind_b14 {p : Program} {l : Launch} {e : Env} {s : State} {m : MethodId} {args : Array Value} {below : List Frame} {meth : Method} {c : Code} {A : Nat → Prop} {D : va_G} {cI cZ : ClassId} (h : Cx p s m args meth c A D cI cZ 5 cX5_rewind RX5 wsX5_rewind none) {h0 h0_letters h0_tokens h0_starts h0_numbers : Nat} {v0_length : Int32} {v0_token : Int32} {v0_start : Int32} {v0_number : Int32} {v0_letters : (Nat → Int32)} {k14 : Int32 → Int32 → (Nat → Int32) → (Nat → Int32) → (Nat → Int32) → Int32 → Int32 → Option (Int32 × Int32 × (Nat → Int32) × (Nat → Int32) × (Nat → Int32))} {v0_size : Int32} {v0_at : Int32} {v0_tokens : (Nat → Int32)} {v0_starts : (Nat → Int32)} {v0_numbers : (Nat → Int32)} {x1 : Int32} {x2 : Int32} {o : Int32 × Int32 × (Nat → Int32) × (Nat → Int32) × (Nat → Int32)} (hk14 : ∀ (v0_size : Int32) (v0_at : Int32) (v0_tokens : (Nat → Int32)) (v0_starts : (Nat → Int32)) (v0_numbers : (Nat → Int32)) (x1 : Int32) (x2 : Int32), k14 v0_size v0_at v0_tokens v0_starts v0_numbers x1 x2 = some o → V p l e rmX5_rewind s m args below meth c A D 5 (QV D [(h0, .inr (5, [.ref h0_letters, .ref h0_tokens, .ref h0_starts, .ref h0_numbers, .int o.1, .int o.2.1, .int v0_length, .int v0_token, .int v0_start, .int v0_number])), (h0_letters, .inl (cI, 160, .inl v0_letters)), (h0_tokens, .inl (cI, 160, .inl o.2.2.1)), (h0_starts, .inl (cI, 160, .inl o.2.2.2.1)), (h0_numbers, .inl (cI, 160, .inl o.2.2.2.2))] A below args s) [(h0, .inr (5, [.ref h0_letters, .ref h0_tokens, .ref h0_starts, .ref h0_numbers, .int v0_size, .int v0_at, .int v0_length, .int v0_token, .int v0_start, .int v0_number])), (h0_letters, .inl (cI, 160, .inl v0_letters)), (h0_tokens, .inl (cI, 160, .inl v0_tokens)), (h0_starts, .inl (cI, 160, .inl v0_starts)), (h0_numbers, .inl (cI, 160, .inl v0_numbers))] 14 [(0, .ref h0), (1, .int x1), (2, .int x2)] []) (hF : fX5_rewind_b14 v0_length v0_letters k14 v0_size v0_at v0_tokens v0_starts v0_numbers x1 x2 = some o) : V p l e rmX5_rewind s m args below meth c A D 5 (QV D [(h0, .inr (5, [.ref h0_letters, .ref h0_tokens, .ref h0_starts, .ref h0_numbers, .int o.1, .int o.2.1, .int v0_length, .int v0_token, .int v0_start, .int v0_number])), (h0_letters, .inl (cI, 160, .inl v0_letters)), (h0_tokens, .inl (cI, 160, .inl o.2.2.1)), (h0_starts, .inl (cI, 160, .inl o.2.2.2.1)), (h0_numbers, .inl (cI, 160, .inl o.2.2.2.2))] A below args s) [(h0, .inr (5, [.ref h0_letters, .ref h0_tokens, .ref h0_starts, .ref h0_numbers, .int v0_size, .int v0_at, .int v0_length, .int v0_token, .int v0_start, .int v0_number])), (h0_letters, .inl (cI, 160, .inl v0_letters)), (h0_tokens, .inl (cI, 160, .inl v0_tokens)), (h0_starts, .inl (cI, 160, .inl v0_starts)), (h0_numbers, .inl (cI, 160, .inl v0_numbers))] 14 [(0, .ref h0), (1, .int x1), (2, .int x2)] [] := by
  unfold fX5_rewind_b14 at hF
  refine V_iload_n (pc := 14) h 2 dX5_rewind_14 rfl ?_
  refine V_aload_n (pc := 15) h 0 dX5_rewind_15 rfl ?_
  refine V_get (pc := 16) h uX5_rewind_inX5 0 6 rfl rfl (by decide) uX5_rewind_f24 rfl rfl dX5_rewind_16 ?_
  refine V_icmp_ge (pc := 19) h (tgt := 117) dX5_rewind_19 (by decide) hF (fun hF => ?_) (fun hF => ?_)
  · have hF := Option.some.inj hF
    subst hF
    exact V_vret (pc := 117) h dX5_rewind_117
  · refine V_iload_n (pc := 22) h 2 dX5_rewind_22 rfl ?_
    refine V_sipush (pc := 23) h (v := (160 : Int32)) dX5_rewind_23 (by decide) ?_
    refine V_icmp_ge (pc := 26) h (tgt := 117) dX5_rewind_26 (by decide) hF (fun hF => ?_) (fun hF => ?_)
    · have hF := Option.some.inj hF
      subst hF
      exact V_vret (pc := 117) h dX5_rewind_117
    · refine V_aload_n (pc := 29) h 0 dX5_rewind_29 rfl ?_
      refine V_get (pc := 30) h uX5_rewind_inX5 0 0 rfl rfl (by decide) uX5_rewind_f11 rfl rfl dX5_rewind_30 ?_
      refine V_iload_n (pc := 33) h 2 dX5_rewind_33 rfl ?_
      refine V_iald (pc := 34) h 1 rfl dX5_rewind_34 hF (fun hF => ?_)
      refine V_bnd hF (fun x3_35 hF => ?_)
      refine V_istore_n (pc := 35) h [(3, .int x3_35), (0, .ref h0), (1, .int x1), (2, .int x2)] dX5_rewind_35 (by decide) rfl ?_
      refine V_iload_n (pc := 36) h 0 dX5_rewind_36 rfl ?_
      refine V_bipush (pc := 37) h (v := (48 : Int32)) dX5_rewind_37 (by decide) ?_
      refine V_icmp_lt (pc := 39) h (tgt := 52) dX5_rewind_39 (by decide) hF (fun hF => ?_) (fun hF => ?_)
      · refine V_iconst (pc := 52) h (v := (0 : Int32)) dX5_rewind_52 (by decide) ?_
        refine V_lv [1, 2, 3, 0] [(0, .ref h0), (1, .int x1), (2, .int x2), (3, .int x3_35)] rfl ?_
        exact tfX5_rewind_b53 h hk14 hF
      · refine V_iload_n (pc := 42) h 0 dX5_rewind_42 rfl ?_
        refine V_bipush (pc := 43) h (v := (57 : Int32)) dX5_rewind_43 (by decide) ?_
        refine V_icmp_gt (pc := 45) h (tgt := 52) dX5_rewind_45 (by decide) hF (fun hF => ?_) (fun hF => ?_)
        · refine V_iconst (pc := 52) h (v := (0 : Int32)) dX5_rewind_52 (by decide) ?_
          refine V_lv [1, 2, 3, 0] [(0, .ref h0), (1, .int x1), (2, .int x2), (3, .int x3_35)] rfl ?_
          exact tfX5_rewind_b53 h hk14 hF
        · refine V_iconst (pc := 48) h (v := (1 : Int32)) dX5_rewind_48 (by decide) ?_
          refine V_goto (pc := 49) h (tgt := 53) dX5_rewind_49 (by decide) ?_
          refine V_lv [1, 2, 3, 0] [(0, .ref h0), (1, .int x1), (2, .int x2), (3, .int x3_35)] rfl ?_
          exact tfX5_rewind_b53 h hk14 hF
noncomputable def fX5_rewind_l14 (v0_length : Int32) (v0_letters : (Nat → Int32)) (n : Nat) : Int32 → Int32 → (Nat → Int32) → (Nat → Int32) → (Nat → Int32) → Int32 → Int32 → Option (Int32 × Int32 × (Nat → Int32) × (Nat → Int32) × (Nat → Int32)) :=
  Nat.rec (motive := fun _ => Int32 → Int32 → (Nat → Int32) → (Nat → Int32) → (Nat → Int32) → Int32 → Int32 → Option (Int32 × Int32 × (Nat → Int32) × (Nat → Int32) × (Nat → Int32))) (fun _ _ _ _ _ _ _ => none) (fun _ ih => fX5_rewind_b14 v0_length v0_letters ih) n
theorem fX5_rewind_l14_s (v0_length : Int32) (v0_letters : (Nat → Int32)) (n : Nat) (v0_size : Int32) (v0_at : Int32) (v0_tokens : (Nat → Int32)) (v0_starts : (Nat → Int32)) (v0_numbers : (Nat → Int32)) (x1 : Int32) (x2 : Int32) : fX5_rewind_l14 v0_length v0_letters (n + 1) v0_size v0_at v0_tokens v0_starts v0_numbers x1 x2 = fX5_rewind_b14 v0_length v0_letters (fX5_rewind_l14 v0_length v0_letters n) v0_size v0_at v0_tokens v0_starts v0_numbers x1 x2 := rfl
set_option maxRecDepth 100000 in
set_option maxHeartbeats 4000000 in
theorem tfX5_rewind_l14 {p : Program} {l : Launch} {e : Env} {s : State} {m : MethodId} {args : Array Value} {below : List Frame} {meth : Method} {c : Code} {A : Nat → Prop} {D : va_G} {cI cZ : ClassId} (h : Cx p s m args meth c A D cI cZ 5 cX5_rewind RX5 wsX5_rewind none) {h0 h0_letters h0_tokens h0_starts h0_numbers : Nat} {v0_length : Int32} {v0_token : Int32} {v0_start : Int32} {v0_number : Int32} {v0_letters : (Nat → Int32)} {o : Int32 × Int32 × (Nat → Int32) × (Nat → Int32) × (Nat → Int32)} (n : Nat) : ∀ (v0_size : Int32) (v0_at : Int32) (v0_tokens : (Nat → Int32)) (v0_starts : (Nat → Int32)) (v0_numbers : (Nat → Int32)) (x1 : Int32) (x2 : Int32) (hF : fX5_rewind_l14 v0_length v0_letters n v0_size v0_at v0_tokens v0_starts v0_numbers x1 x2 = some o), V p l e rmX5_rewind s m args below meth c A D 5 (QV D [(h0, .inr (5, [.ref h0_letters, .ref h0_tokens, .ref h0_starts, .ref h0_numbers, .int o.1, .int o.2.1, .int v0_length, .int v0_token, .int v0_start, .int v0_number])), (h0_letters, .inl (cI, 160, .inl v0_letters)), (h0_tokens, .inl (cI, 160, .inl o.2.2.1)), (h0_starts, .inl (cI, 160, .inl o.2.2.2.1)), (h0_numbers, .inl (cI, 160, .inl o.2.2.2.2))] A below args s) [(h0, .inr (5, [.ref h0_letters, .ref h0_tokens, .ref h0_starts, .ref h0_numbers, .int v0_size, .int v0_at, .int v0_length, .int v0_token, .int v0_start, .int v0_number])), (h0_letters, .inl (cI, 160, .inl v0_letters)), (h0_tokens, .inl (cI, 160, .inl v0_tokens)), (h0_starts, .inl (cI, 160, .inl v0_starts)), (h0_numbers, .inl (cI, 160, .inl v0_numbers))] 14 [(0, .ref h0), (1, .int x1), (2, .int x2)] [] := by
  induction n with
  | zero => intro v0_size v0_at v0_tokens v0_starts v0_numbers x1 x2 hF; exact nomatch (show (none : Option (Int32 × Int32 × (Nat → Int32) × (Nat → Int32) × (Nat → Int32))) = some o from hF)
  | succ n ih => intro v0_size v0_at v0_tokens v0_starts v0_numbers x1 x2 hF; exact tfX5_rewind_b14 (k14 := fX5_rewind_l14 v0_length v0_letters n) h ih hF
noncomputable def fX5_rewind (v0_length : Int32) (v0_letters : (Nat → Int32)) (v0_size : Int32) (v0_at : Int32) (v0_tokens : (Nat → Int32)) (v0_starts : (Nat → Int32)) (v0_numbers : (Nat → Int32)) : Option (Int32 × Int32 × (Nat → Int32) × (Nat → Int32) × (Nat → Int32)) :=
  fX5_rewind_l14 v0_length v0_letters 1000 (0 : Int32) (0 : Int32) v0_tokens v0_starts v0_numbers (0 : Int32) (0 : Int32)
set_option maxRecDepth 100000 in
set_option maxHeartbeats 4000000 in
theorem tfX5_rewind {p : Program} {l : Launch} {e : Env} {s : State} {m : MethodId} {args : Array Value} {below : List Frame} {meth : Method} {c : Code} {A : Nat → Prop} {D : va_G} {cI cZ : ClassId} (h : Cx p s m args meth c A D cI cZ 5 cX5_rewind RX5 wsX5_rewind none) {h0 h0_letters h0_tokens h0_starts h0_numbers : Nat} {v0_length : Int32} {v0_token : Int32} {v0_start : Int32} {v0_number : Int32} {v0_letters : (Nat → Int32)} {v0_size : Int32} {v0_at : Int32} {v0_tokens : (Nat → Int32)} {v0_starts : (Nat → Int32)} {v0_numbers : (Nat → Int32)} {o : Int32 × Int32 × (Nat → Int32) × (Nat → Int32) × (Nat → Int32)} (hF : fX5_rewind v0_length v0_letters v0_size v0_at v0_tokens v0_starts v0_numbers = some o) : V p l e rmX5_rewind s m args below meth c A D 5 (QV D [(h0, .inr (5, [.ref h0_letters, .ref h0_tokens, .ref h0_starts, .ref h0_numbers, .int o.1, .int o.2.1, .int v0_length, .int v0_token, .int v0_start, .int v0_number])), (h0_letters, .inl (cI, 160, .inl v0_letters)), (h0_tokens, .inl (cI, 160, .inl o.2.2.1)), (h0_starts, .inl (cI, 160, .inl o.2.2.2.1)), (h0_numbers, .inl (cI, 160, .inl o.2.2.2.2))] A below args s) [(h0, .inr (5, [.ref h0_letters, .ref h0_tokens, .ref h0_starts, .ref h0_numbers, .int v0_size, .int v0_at, .int v0_length, .int v0_token, .int v0_start, .int v0_number])), (h0_letters, .inl (cI, 160, .inl v0_letters)), (h0_tokens, .inl (cI, 160, .inl v0_tokens)), (h0_starts, .inl (cI, 160, .inl v0_starts)), (h0_numbers, .inl (cI, 160, .inl v0_numbers))] 0 [(0, .ref h0)] [] := by
  unfold fX5_rewind at hF
  refine V_aload_n (pc := 0) h 0 dX5_rewind_0 rfl ?_
  refine V_iconst (pc := 1) h (v := (0 : Int32)) dX5_rewind_1 (by decide) ?_
  refine V_put (pc := 2) h uX5_rewind_inX5 tyX5 tyX5_ok nmX5 0 5 rfl rfl (by decide) uX5_rewind_f28 rfl rfl (by decide +kernel) (Nat.le_of_ble_eq_true rfl) [(h0, .inr (5, [.ref h0_letters, .ref h0_tokens, .ref h0_starts, .ref h0_numbers, .int v0_size, .int (0 : Int32), .int v0_length, .int v0_token, .int v0_start, .int v0_number])), (h0_letters, .inl (cI, 160, .inl v0_letters)), (h0_tokens, .inl (cI, 160, .inl v0_tokens)), (h0_starts, .inl (cI, 160, .inl v0_starts)), (h0_numbers, .inl (cI, 160, .inl v0_numbers))] rfl dX5_rewind_2 ?_
  refine V_aload_n (pc := 5) h 0 dX5_rewind_5 rfl ?_
  refine V_iconst (pc := 6) h (v := (0 : Int32)) dX5_rewind_6 (by decide) ?_
  refine V_put (pc := 7) h uX5_rewind_inX5 tyX5 tyX5_ok nmX5 0 4 rfl rfl (by decide) uX5_rewind_f31 rfl rfl (by decide +kernel) (Nat.le_of_ble_eq_true rfl) [(h0, .inr (5, [.ref h0_letters, .ref h0_tokens, .ref h0_starts, .ref h0_numbers, .int (0 : Int32), .int (0 : Int32), .int v0_length, .int v0_token, .int v0_start, .int v0_number])), (h0_letters, .inl (cI, 160, .inl v0_letters)), (h0_tokens, .inl (cI, 160, .inl v0_tokens)), (h0_starts, .inl (cI, 160, .inl v0_starts)), (h0_numbers, .inl (cI, 160, .inl v0_numbers))] rfl dX5_rewind_7 ?_
  refine V_iconst (pc := 10) h (v := (0 : Int32)) dX5_rewind_10 (by decide) ?_
  refine V_istore_n (pc := 11) h [(1, .int (0 : Int32)), (0, .ref h0)] dX5_rewind_11 (by decide) rfl ?_
  refine V_iconst (pc := 12) h (v := (0 : Int32)) dX5_rewind_12 (by decide) ?_
  refine V_istore_n (pc := 13) h [(2, .int (0 : Int32)), (1, .int (0 : Int32)), (0, .ref h0)] dX5_rewind_13 (by decide) rfl ?_
  refine V_lv [2, 1, 0] [(0, .ref h0), (1, .int (0 : Int32)), (2, .int (0 : Int32))] rfl ?_
  exact tfX5_rewind_l14 h 1000 _ _ _ _ _ _ _ hF
set_option maxRecDepth 100000 in
theorem k_X5_rewind (l : Launch) (D : va_G) (cI cZ : ClassId) (h0 h0_letters h0_tokens h0_starts h0_numbers : Nat) (v0_size : Int32) (v0_at : Int32) (v0_length : Int32) (v0_token : Int32) (v0_start : Int32) (v0_number : Int32) (v0_letters : (Nat → Int32)) (v0_tokens : (Nat → Int32)) (v0_starts : (Nat → Int32)) (v0_numbers : (Nat → Int32)) {o : Int32 × Int32 × (Nat → Int32) × (Nat → Int32) × (Nat → Int32)} (hF : fX5_rewind v0_length v0_letters v0_size v0_at v0_tokens v0_starts v0_numbers = some o) : CV l yX5_rewind wsX5_rewind rmX5_rewind D cI cZ [.ref h0] [(h0, .inr (5, [.ref h0_letters, .ref h0_tokens, .ref h0_starts, .ref h0_numbers, .int v0_size, .int v0_at, .int v0_length, .int v0_token, .int v0_start, .int v0_number])), (h0_letters, .inl (cI, 160, .inl v0_letters)), (h0_tokens, .inl (cI, 160, .inl v0_tokens)), (h0_starts, .inl (cI, 160, .inl v0_starts)), (h0_numbers, .inl (cI, 160, .inl v0_numbers))] [(h0, .inr (5, [.ref h0_letters, .ref h0_tokens, .ref h0_starts, .ref h0_numbers, .int o.1, .int o.2.1, .int v0_length, .int v0_token, .int v0_start, .int v0_number])), (h0_letters, .inl (cI, 160, .inl v0_letters)), (h0_tokens, .inl (cI, 160, .inl o.2.2.1)), (h0_starts, .inl (cI, 160, .inl o.2.2.2.1)), (h0_numbers, .inl (cI, 160, .inl o.2.2.2.2))] :=
  CV_of (cc := cX5_rewind) (nL := 5) (ret := none) (by decide) rfl (Nat.le_of_ble_eq_true rfl) rfl (fun p e s m args below meth c A h => tfX5_rewind h hF)
