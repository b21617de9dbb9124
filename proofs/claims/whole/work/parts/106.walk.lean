/-! X6_columnsOf -/
abbrev rmX6_columnsOf : Room := { frames := 2, cells := 0, slots := 0, locals := 46 }
theorem uX6_columnsOf_inX6 : ∀ w ∈ wsX60, w ∈ wsX6_columnsOf := by decide +kernel
theorem uX6_columnsOf_f24 : Cond.fieldLink RX6 24 "LeafAsks$Tree" "size" "I" ∈ wsX6_columnsOf := by decide +kernel
noncomputable def fX6_columnsOf_b2 (v0_size : Int32) (v0_data : (Nat → Int32)) (x1 : Int32) (k2 : Int32 → Option (Int32)) (x2 : Int32) : Option (Int32) :=
  if v0_size ≤ x2 then some (0 : Int32) else bd (fX6_field v0_data x2 (0 : Int32)) (fun r13 => if r13 = (2 : Int32) then bd (fX6_tablesAhead v0_size v0_data x2) (fun r22 => if r22 = x1 then bd (fX6_field v0_data x2 (3 : Int32)) (fun r32 => some r32) else bnd (x2 + (1 : Int32)) (fun x2_36 => k2 x2_36)) else bnd (x2 + (1 : Int32)) (fun x2_36 => k2 x2_36))
set_option maxRecDepth 100000 in
set_option maxHeartbeats 4000000 in
theorem tfX6_columnsOf_b2 {p : Program} {l : Launch} {e : Env} {s : State} {m : MethodId} {args : Array Value} {below : List Frame} {meth : Method} {c : Code} {A : Nat → Prop} {D : va_G} {cI cZ : ClassId} (h : Cx p s m args meth c A D cI cZ 3 cX6_columnsOf RX6 wsX6_columnsOf (some .int)) {h0 h0_data h0_fresh : Nat} {x1 : Int32} {v0_size : Int32} {v0_data : (Nat → Int32)} {v0_fresh : (Nat → Int32)} {k2 : Int32 → Option (Int32)} {x2 : Int32} {o : Int32} (hk2 : ∀ (x2 : Int32), k2 x2 = some o → V p l e rmX6_columnsOf s m args below meth c A D 3 (QI D [(h0, .inr (6, [.ref h0_data, .ref h0_fresh, .int v0_size])), (h0_data, .inl (cI, 56, .inl v0_data)), (h0_fresh, .inl (cI, 7, .inl v0_fresh))] o A below args s) [(h0, .inr (6, [.ref h0_data, .ref h0_fresh, .int v0_size])), (h0_data, .inl (cI, 56, .inl v0_data)), (h0_fresh, .inl (cI, 7, .inl v0_fresh))] 2 [(0, .ref h0), (1, .int x1), (2, .int x2)] []) (hF : fX6_columnsOf_b2 v0_size v0_data x1 k2 x2 = some o) : V p l e rmX6_columnsOf s m args below meth c A D 3 (QI D [(h0, .inr (6, [.ref h0_data, .ref h0_fresh, .int v0_size])), (h0_data, .inl (cI, 56, .inl v0_data)), (h0_fresh, .inl (cI, 7, .inl v0_fresh))] o A below args s) [(h0, .inr (6, [.ref h0_data, .ref h0_fresh, .int v0_size])), (h0_data, .inl (cI, 56, .inl v0_data)), (h0_fresh, .inl (cI, 7, .inl v0_fresh))] 2 [(0, .ref h0), (1, .int x1), (2, .int x2)] [] := by
  unfold fX6_columnsOf_b2 at hF
  refine V_iload_n (pc := 2) h 2 dX6_columnsOf_2 rfl ?_
  refine V_aload_n (pc := 3) h 0 dX6_columnsOf_3 rfl ?_
  refine V_get (pc := 4) h uX6_columnsOf_inX6 0 2 rfl rfl (by decide) uX6_columnsOf_f24 rfl rfl dX6_columnsOf_4 ?_
  refine V_icmp_ge (pc := 7) h (tgt := 42) dX6_columnsOf_7 (by decide) hF (fun hF => ?_) (fun hF => ?_)
  · refine V_iconst (pc := 42) h (v := (0 : Int32)) dX6_columnsOf_42 (by decide) ?_
    have hF := Option.some.inj hF
    subst hF
    exact V_iret (pc := 43) h dX6_columnsOf_43
  · refine V_aload_n (pc := 10) h 0 dX6_columnsOf_10 rfl ?_
    refine V_iload_n (pc := 11) h 2 dX6_columnsOf_11 rfl ?_
    refine V_iconst (pc := 12) h (v := (0 : Int32)) dX6_columnsOf_12 (by decide) ?_
    refine V_ciVA (pc := 13) h (n := 2) (bytes := cX6_field) (maxL := 4) (As := [.int x2, .int (0 : Int32)]) (rest := []) gX6_columnsOf_X6_field (by decide +kernel) rfl rfl rfl rfl ⟨rfl, rfl⟩ ⟨Nat.le_of_ble_eq_true rfl, Nat.le_of_ble_eq_true rfl⟩ rfl rfl (Nat.le_of_ble_eq_true rfl) dX6_columnsOf_13 hF (fun r13 hG => k_X6_field l D cI cZ h0 h0_data h0_fresh v0_size v0_data v0_fresh x2 (0 : Int32) hG) (fun r13 hF => ?_)
    refine V_iconst (pc := 16) h (v := (2 : Int32)) dX6_columnsOf_16 (by decide) ?_
    refine V_icmp_ne (pc := 17) h (tgt := 36) dX6_columnsOf_17 (by decide) hF (fun hF => ?_) (fun hF => ?_)
    · refine V_iinc (pc := 36) h 2 (fun x2_36 => [(2, .int x2_36), (0, .ref h0), (1, .int x1)]) dX6_columnsOf_36 rfl rfl (by decide) (fun _ => rfl) hF (fun x2_36 hF => ?_)
      refine V_goto (pc := 39) h (tgt := 2) dX6_columnsOf_39 (by decide) ?_
      refine V_lv [1, 2, 0] [(0, .ref h0), (1, .int x1), (2, .int x2_36)] rfl ?_
      exact hk2 _ hF
    · refine V_aload_n (pc := 20) h 0 dX6_columnsOf_20 rfl ?_
      refine V_iload_n (pc := 21) h 2 dX6_columnsOf_21 rfl ?_
      refine V_ciVA (pc := 22) h (n := 1) (bytes := cX6_tablesAhead) (maxL := 4) (As := [.int x2]) (rest := []) gX6_columnsOf_X6_tablesAhead (by decide +kernel) rfl rfl rfl rfl ⟨rfl, rfl⟩ ⟨Nat.le_of_ble_eq_true rfl, Nat.le_of_ble_eq_true rfl⟩ rfl rfl (Nat.le_of_ble_eq_true rfl) dX6_columnsOf_22 hF (fun r22 hG => k_X6_tablesAhead l D cI cZ h0 h0_data h0_fresh v0_size v0_data v0_fresh x2 hG) (fun r22 hF => ?_)
      refine V_iload_n (pc := 25) h 1 dX6_columnsOf_25 rfl ?_
      refine V_icmp_ne (pc := 26) h (tgt := 36) dX6_columnsOf_26 (by decide) hF (fun hF => ?_) (fun hF => ?_)
      · refine V_iinc (pc := 36) h 2 (fun x2_36 => [(2, .int x2_36), (0, .ref h0), (1, .int x1)]) dX6_columnsOf_36 rfl rfl (by decide) (fun _ => rfl) hF (fun x2_36 hF => ?_)
        refine V_goto (pc := 39) h (tgt := 2) dX6_columnsOf_39 (by decide) ?_
        refine V_lv [1, 2, 0] [(0, .ref h0), (1, .int x1), (2, .int x2_36)] rfl ?_
        exact hk2 _ hF
      · refine V_aload_n (pc := 29) h 0 dX6_columnsOf_29 rfl ?_
        refine V_iload_n (pc := 30) h 2 dX6_columnsOf_30 rfl ?_
        refine V_iconst (pc := 31) h (v := (3 : Int32)) dX6_columnsOf_31 (by decide) ?_
        refine V_ciVA (pc := 32) h (n := 2) (bytes := cX6_field) (maxL := 4) (As := [.int x2, .int (3 : Int32)]) (rest := []) gX6_columnsOf_X6_field (by decide +kernel) rfl rfl rfl rfl ⟨rfl, rfl⟩ ⟨Nat.le_of_ble_eq_true rfl, Nat.le_of_ble_eq_true rfl⟩ rfl rfl (Nat.le_of_ble_eq_true rfl) dX6_columnsOf_32 hF (fun r32 hG => k_X6_field l D cI cZ h0 h0_data h0_fresh v0_size v0_data v0_fresh x2 (3 : Int32) hG) (fun r32 hF => ?_)
        have hF := Option.some.inj hF
        subst hF
        exact V_iret (pc := 35) h dX6_columnsOf_35
noncomputable def fX6_columnsOf_l2 (v0_size : Int32) (v0_data : (Nat → Int32)) (x1 : Int32) (n : Nat) : Int32 → Option (Int32) :=
  Nat.rec (motive := fun _ => Int32 → Option (Int32)) (fun _ => none) (fun _ ih => fX6_columnsOf_b2 v0_size v0_data x1 ih) n
theorem fX6_columnsOf_l2_s (v0_size : Int32) (v0_data : (Nat → Int32)) (x1 : Int32) (n : Nat) (x2 : Int32) : fX6_columnsOf_l2 v0_size v0_data x1 (n + 1) x2 = fX6_columnsOf_b2 v0_size v0_data x1 (fX6_columnsOf_l2 v0_size v0_data x1 n) x2 := rfl
set_option maxRecDepth 100000 in
set_option maxHeartbeats 4000000 in
theorem tfX6_columnsOf_l2 {p : Program} {l : Launch} {e : Env} {s : State} {m : MethodId} {args : Array Value} {below : List Frame} {meth : Method} {c : Code} {A : Nat → Prop} {D : va_G} {cI cZ : ClassId} (h : Cx p s m args meth c A D cI cZ 3 cX6_columnsOf RX6 wsX6_columnsOf (some .int)) {h0 h0_data h0_fresh : Nat} {x1 : Int32} {v0_size : Int32} {v0_data : (Nat → Int32)} {v0_fresh : (Nat → Int32)} {o : Int32} (n : Nat) : ∀ (x2 : Int32) (hF : fX6_columnsOf_l2 v0_size v0_data x1 n x2 = some o), V p l e rmX6_columnsOf s m args below meth c A D 3 (QI D [(h0, .inr (6, [.ref h0_data, .ref h0_fresh, .int v0_size])), (h0_data, .inl (cI, 56, .inl v0_data)), (h0_fresh, .inl (cI, 7, .inl v0_fresh))] o A below args s) [(h0, .inr (6, [.ref h0_data, .ref h0_fresh, .int v0_size])), (h0_data, .inl (cI, 56, .inl v0_data)), (h0_fresh, .inl (cI, 7, .inl v0_fresh))] 2 [(0, .ref h0), (1, .int x1), (2, .int x2)] [] := by
  induction n with
  | zero => intro x2 hF; exact nomatch (show (none : Option (Int32)) = some o from hF)
  | succ n ih => intro x2 hF; exact tfX6_columnsOf_b2 (x1 := x1) (k2 := fX6_columnsOf_l2 v0_size v0_data x1 n) h ih hF
noncomputable def fX6_columnsOf (v0_size : Int32) (v0_data : (Nat → Int32)) (x1 : Int32) : Option (Int32) :=
  fX6_columnsOf_l2 v0_size v0_data x1 1000 (0 : Int32)
set_option maxRecDepth 100000 in
set_option maxHeartbeats 4000000 in
theorem tfX6_columnsOf {p : Program} {l : Launch} {e : Env} {s : State} {m : MethodId} {args : Array Value} {below : List Frame} {meth : Method} {c : Code} {A : Nat → Prop} {D : va_G} {cI cZ : ClassId} (h : Cx p s m args meth c A D cI cZ 3 cX6_columnsOf RX6 wsX6_columnsOf (some .int)) {h0 h0_data h0_fresh : Nat} {x1 : Int32} {v0_size : Int32} {v0_data : (Nat → Int32)} {v0_fresh : (Nat → Int32)} {o : Int32} (hF : fX6_columnsOf v0_size v0_data x1 = some o) : V p l e rmX6_columnsOf s m args below meth c A D 3 (QI D [(h0, .inr (6, [.ref h0_data, .ref h0_fresh, .int v0_size])), (h0_data, .inl (cI, 56, .inl v0_data)), (h0_fresh, .inl (cI, 7, .inl v0_fresh))] o A below args s) [(h0, .inr (6, [.ref h0_data, .ref h0_fresh, .int v0_size])), (h0_data, .inl (cI, 56, .inl v0_data)), (h0_fresh, .inl (cI, 7, .inl v0_fresh))] 0 [(0, .ref h0), (1, .int x1)] [] := by
  unfold fX6_columnsOf at hF
  refine V_iconst (pc := 0) h (v := (0 : Int32)) dX6_columnsOf_0 (by decide) ?_
  refine V_istore_n (pc := 1) h [(2, .int (0 : Int32)), (0, .ref h0), (1, .int x1)] dX6_columnsOf_1 (by decide) rfl ?_
  refine V_lv [1, 2, 0] [(0, .ref h0), (1, .int x1), (2, .int (0 : Int32))] rfl ?_
  exact tfX6_columnsOf_l2 h 1000 _ hF
set_option maxRecDepth 100000 in
theorem k_X6_columnsOf (l : Launch) (D : va_G) (cI cZ : ClassId) (h0 h0_data h0_fresh : Nat) (v0_size : Int32) (v0_data : (Nat → Int32)) (v0_fresh : (Nat → Int32)) (x1 : Int32) {o : Int32} (hF : fX6_columnsOf v0_size v0_data x1 = some o) : CI l yX6_columnsOf wsX6_columnsOf rmX6_columnsOf D cI cZ [.ref h0, .int x1] [(h0, .inr (6, [.ref h0_data, .ref h0_fresh, .int v0_size])), (h0_data, .inl (cI, 56, .inl v0_data)), (h0_fresh, .inl (cI, 7, .inl v0_fresh))] [(h0, .inr (6, [.ref h0_data, .ref h0_fresh, .int v0_size])), (h0_data, .inl (cI, 56, .inl v0_data)), (h0_fresh, .inl (cI, 7, .inl v0_fresh))] o :=
  CI_of (cc := cX6_columnsOf) (nL := 3) (ret := (some .int)) (by decide) rfl (Nat.le_of_ble_eq_true rfl) rfl (fun p e s m args below meth c A h => tfX6_columnsOf h hF)
/-! X7_mayHaveLeaf -/
abbrev rmX7_mayHaveLeaf : Room := { frames := 1, cells := 0, slots := 0, locals := 23 }
theorem uX7_mayHaveLeaf_nitX8 : Cond.initialized RX8 ∈ wsX7_mayHaveLeaf := by decide +kernel
theorem uX7_mayHaveLeaf_staX8_numberOf : Cond.static yX8_numberOf ∈ wsX7_mayHaveLeaf := by decide +kernel
noncomputable def fX7_mayHaveLeaf (v0_data : (Nat → Int32)) (x1 : Int32) (x2 : Int32) : Option (Int32) :=
  bd (fX8_numberOf x2 (2 : Int32)) (fun r2 => bd (fX8_numberOf x2 (3 : Int32)) (fun r8 => bd (fX6_field v0_data x1 (0 : Int32)) (fun r16 => if r16 = (2 : Int32) then if r2 < (0 : Int32) then some (0 : Int32) else bd (fX6_field v0_data x1 (3 : Int32)) (fun r47 => if r47 < r2 then some (0 : Int32) else if r8 < (1 : Int32) then some (0 : Int32) else if (9 : Int32) < r8 then some (0 : Int32) else some (1 : Int32)) else if r2 = (0 : Int32) then if r8 = (-1 : Int32) then some (1 : Int32) else some (0 : Int32) else some (0 : Int32))))
set_option maxRecDepth 100000 in
set_option maxHeartbeats 4000000 in
theorem tfX7_mayHaveLeaf {p : Program} {l : Launch} {e : Env} {s : State} {m : MethodId} {args : Array Value} {below : List Frame} {meth : Method} {c : Code} {A : Nat → Prop} {D : va_G} {cI cZ : ClassId} (h : Cx p s m args meth c A D cI cZ 5 cX7_mayHaveLeaf RX7 wsX7_mayHaveLeaf (some .boolean)) {h0 h0_data h0_fresh : Nat} {x1 : Int32} {x2 : Int32} {v0_size : Int32} {v0_data : (Nat → Int32)} {v0_fresh : (Nat → Int32)} {o : Int32} (hF : fX7_mayHaveLeaf v0_data x1 x2 = some o) : V p l e rmX7_mayHaveLeaf s m args below meth c A D 5 (QI D [(h0, .inr (6, [.ref h0_data, .ref h0_fresh, .int v0_size])), (h0_data, .inl (cI, 56, .inl v0_data)), (h0_fresh, .inl (cI, 7, .inl v0_fresh))] o A below args s) [(h0, .inr (6, [.ref h0_data, .ref h0_fresh, .int v0_size])), (h0_data, .inl (cI, 56, .inl v0_data)), (h0_fresh, .inl (cI, 7, .inl v0_fresh))] 0 [(0, .ref h0), (1, .int x1), (2, .int x2)] [] := by
  unfold fX7_mayHaveLeaf at hF
  refine V_iload_n (pc := 0) h 2 dX7_mayHaveLeaf_0 rfl ?_
  refine V_iconst (pc := 1) h (v := (2 : Int32)) dX7_mayHaveLeaf_1 (by decide) ?_
  refine V_ciSN (pc := 2) h (n := 2) (bytes := cX8_numberOf) (maxL := 2) (As := [.int x2, .int (2 : Int32)]) (rest := []) ggX7_mayHaveLeaf_X8_numberOf h.2.2.2.1.2.2.2.1 uX7_mayHaveLeaf_nitX8 uX7_mayHaveLeaf_staX8_numberOf (by decide +kernel) rfl ⟨rfl, rfl⟩ ⟨Nat.le_of_ble_eq_true rfl, Nat.le_of_ble_eq_true rfl⟩ [] rfl (by decide) rfl (fun r2 => [(h0, .inr (6, [.ref h0_data, .ref h0_fresh, .int v0_size])), (h0_data, .inl (cI, 56, .inl v0_data)), (h0_fresh, .inl (cI, 7, .inl v0_fresh))]) (fun _ => rfl) (fun _ => rfl) rfl (Nat.le_of_ble_eq_true rfl) dX7_mayHaveLeaf_2 hF (fun r2 hG => k_X8_numberOf l D cI cZ x2 (2 : Int32) hG) (fun r2 hF => ?_)
  refine V_istore_n (pc := 5) h [(3, .int r2), (0, .ref h0), (1, .int x1), (2, .int x2)] dX7_mayHaveLeaf_5 (by decide) rfl ?_
  refine V_iload_n (pc := 6) h 3 dX7_mayHaveLeaf_6 rfl ?_
  refine V_iconst (pc := 7) h (v := (3 : Int32)) dX7_mayHaveLeaf_7 (by decide) ?_
  refine V_ciSN (pc := 8) h (n := 2) (bytes := cX8_numberOf) (maxL := 2) (As := [.int x2, .int (3 : Int32)]) (rest := []) ggX7_mayHaveLeaf_X8_numberOf h.2.2.2.1.2.2.2.1 uX7_mayHaveLeaf_nitX8 uX7_mayHaveLeaf_staX8_numberOf (by decide +kernel) rfl ⟨rfl, rfl⟩ ⟨Nat.le_of_ble_eq_true rfl, Nat.le_of_ble_eq_true rfl⟩ [] rfl (by decide) rfl (fun r8 => [(h0, .inr (6, [.ref h0_data, .ref h0_fresh, .int v0_size])), (h0_data, .inl (cI, 56, .inl v0_data)), (h0_fresh, .inl (cI, 7, .inl v0_fresh))]) (fun _ => rfl) (fun _ => rfl) rfl (Nat.le_of_ble_eq_true rfl) dX7_mayHaveLeaf_8 hF (fun r8 hG => k_X8_numberOf l D cI cZ x2 (3 : Int32) hG) (fun r8 hF => ?_)
  refine V_istore (pc := 11) h [(4, .int r8), (3, .int r2), (0, .ref h0), (1, .int x1), (2, .int x2)] dX7_mayHaveLeaf_11 (by decide) rfl ?_
  refine V_aload_n (pc := 13) h 2 dX7_mayHaveLeaf_13 rfl ?_
  refine V_iload_n (pc := 14) h 3 dX7_mayHaveLeaf_14 rfl ?_
  refine V_iconst (pc := 15) h (v := (0 : Int32)) dX7_mayHaveLeaf_15 (by decide) ?_
  refine V_ciVA (pc := 16) h (n := 2) (bytes := cX6_field) (maxL := 4) (As := [.int x1, .int (0 : Int32)]) (rest := []) gX7_mayHaveLeaf_X6_field (by decide +kernel) rfl rfl rfl rfl ⟨rfl, rfl⟩ ⟨Nat.le_of_ble_eq_true rfl, Nat.le_of_ble_eq_true rfl⟩ rfl rfl (Nat.le_of_ble_eq_true rfl) dX7_mayHaveLeaf_16 hF (fun r16 hG => k_X6_field l D cI cZ h0 h0_data h0_fresh v0_size v0_data v0_fresh x1 (0 : Int32) hG) (fun r16 hF => ?_)
  refine V_iconst (pc := 19) h (v := (2 : Int32)) dX7_mayHaveLeaf_19 (by decide) ?_
  refine V_icmp_eq (pc := 20) h (tgt := 39) dX7_mayHaveLeaf_20 (by decide) hF (fun hF => ?_) (fun hF => ?_)
  · refine V_iload_n (pc := 39) h 1 dX7_mayHaveLeaf_39 rfl ?_
    refine V_if_lt (pc := 40) h (tgt := 70) dX7_mayHaveLeaf_40 (by decide) hF (fun hF => ?_) (fun hF => ?_)
    · refine V_iconst (pc := 70) h (v := (0 : Int32)) dX7_mayHaveLeaf_70 (by decide) ?_
      have hF := Option.some.inj hF
      subst hF
      exact V_zret (pc := 71) h (Or.inl rfl) dX7_mayHaveLeaf_71
    · refine V_iload_n (pc := 43) h 1 dX7_mayHaveLeaf_43 rfl ?_
      refine V_aload_n (pc := 44) h 2 dX7_mayHaveLeaf_44 rfl ?_
      refine V_iload_n (pc := 45) h 3 dX7_mayHaveLeaf_45 rfl ?_
      refine V_iconst (pc := 46) h (v := (3 : Int32)) dX7_mayHaveLeaf_46 (by decide) ?_
      refine V_ciVA (pc := 47) h (n := 2) (bytes := cX6_field) (maxL := 4) (As := [.int x1, .int (3 : Int32)]) (rest := [.int r2]) gX7_mayHaveLeaf_X6_field (by decide +kernel) rfl rfl rfl rfl ⟨rfl, rfl⟩ ⟨Nat.le_of_ble_eq_true rfl, Nat.le_of_ble_eq_true rfl⟩ rfl rfl (Nat.le_of_ble_eq_true rfl) dX7_mayHaveLeaf_47 hF (fun r47 hG => k_X6_field l D cI cZ h0 h0_data h0_fresh v0_size v0_data v0_fresh x1 (3 : Int32) hG) (fun r47 hF => ?_)
      refine V_icmp_gt (pc := 50) h (tgt := 70) dX7_mayHaveLeaf_50 (by decide) hF (fun hF => ?_) (fun hF => ?_)
      · refine V_iconst (pc := 70) h (v := (0 : Int32)) dX7_mayHaveLeaf_70 (by decide) ?_
        have hF := Option.some.inj hF
        subst hF
        exact V_zret (pc := 71) h (Or.inl rfl) dX7_mayHaveLeaf_71
      · refine V_iload (pc := 53) h 0 dX7_mayHaveLeaf_53 rfl ?_
        refine V_iconst (pc := 55) h (v := (1 : Int32)) dX7_mayHaveLeaf_55 (by decide) ?_
        refine V_icmp_lt (pc := 56) h (tgt := 70) dX7_mayHaveLeaf_56 (by decide) hF (fun hF => ?_) (fun hF => ?_)
        · refine V_iconst (pc := 70) h (v := (0 : Int32)) dX7_mayHaveLeaf_70 (by decide) ?_
          have hF := Option.some.inj hF
          subst hF
          exact V_zret (pc := 71) h (Or.inl rfl) dX7_mayHaveLeaf_71
        · refine V_iload (pc := 59) h 0 dX7_mayHaveLeaf_59 rfl ?_
          refine V_bipush (pc := 61) h (v := (9 : Int32)) dX7_mayHaveLeaf_61 (by decide) ?_
          refine V_icmp_gt (pc := 63) h (tgt := 70) dX7_mayHaveLeaf_63 (by decide) hF (fun hF => ?_) (fun hF => ?_)
          · refine V_iconst (pc := 70) h (v := (0 : Int32)) dX7_mayHaveLeaf_70 (by decide) ?_
            have hF := Option.some.inj hF
            subst hF
            exact V_zret (pc := 71) h (Or.inl rfl) dX7_mayHaveLeaf_71
          · refine V_iconst (pc := 66) h (v := (1 : Int32)) dX7_mayHaveLeaf_66 (by decide) ?_
            refine V_goto (pc := 67) h (tgt := 71) dX7_mayHaveLeaf_67 (by decide) ?_
            have hF := Option.some.inj hF
            subst hF
            exact V_zret (pc := 71) h (Or.inr rfl) dX7_mayHaveLeaf_71
  · refine V_iload_n (pc := 23) h 1 dX7_mayHaveLeaf_23 rfl ?_
    refine V_if_ne (pc := 24) h (tgt := 37) dX7_mayHaveLeaf_24 (by decide) hF (fun hF => ?_) (fun hF => ?_)
    · refine V_iconst (pc := 37) h (v := (0 : Int32)) dX7_mayHaveLeaf_37 (by decide) ?_
      have hF := Option.some.inj hF
      subst hF
      exact V_zret (pc := 38) h (Or.inl rfl) dX7_mayHaveLeaf_38
    · refine V_iload (pc := 27) h 0 dX7_mayHaveLeaf_27 rfl ?_
      refine V_iconst (pc := 29) h (v := (-1 : Int32)) dX7_mayHaveLeaf_29 (by decide) ?_
      refine V_icmp_ne (pc := 30) h (tgt := 37) dX7_mayHaveLeaf_30 (by decide) hF (fun hF => ?_) (fun hF => ?_)
      · refine V_iconst (pc := 37) h (v := (0 : Int32)) dX7_mayHaveLeaf_37 (by decide) ?_
        have hF := Option.some.inj hF
        subst hF
        exact V_zret (pc := 38) h (Or.inl rfl) dX7_mayHaveLeaf_38
      · refine V_iconst (pc := 33) h (v := (1 : Int32)) dX7_mayHaveLeaf_33 (by decide) ?_
        refine V_goto (pc := 34) h (tgt := 38) dX7_mayHaveLeaf_34 (by decide) ?_
        have hF := Option.some.inj hF
        subst hF
        exact V_zret (pc := 38) h (Or.inr rfl) dX7_mayHaveLeaf_38
set_option maxRecDepth 100000 in
theorem k_X7_mayHaveLeaf (l : Launch) (D : va_G) (cI cZ : ClassId) (h0 h0_data h0_fresh : Nat) (v0_size : Int32) (v0_data : (Nat → Int32)) (v0_fresh : (Nat → Int32)) (x1 : Int32) (x2 : Int32) {o : Int32} (hF : fX7_mayHaveLeaf v0_data x1 x2 = some o) : CI l yX7_mayHaveLeaf wsX7_mayHaveLeaf rmX7_mayHaveLeaf D cI cZ [.ref h0, .int x1, .int x2] [(h0, .inr (6, [.ref h0_data, .ref h0_fresh, .int v0_size])), (h0_data, .inl (cI, 56, .inl v0_data)), (h0_fresh, .inl (cI, 7, .inl v0_fresh))] [(h0, .inr (6, [.ref h0_data, .ref h0_fresh, .int v0_size])), (h0_data, .inl (cI, 56, .inl v0_data)), (h0_fresh, .inl (cI, 7, .inl v0_fresh))] o :=
  CI_of (cc := cX7_mayHaveLeaf) (nL := 5) (ret := (some .boolean)) (by decide) rfl (Nat.le_of_ble_eq_true rfl) rfl (fun p e s m args below meth c A h => tfX7_mayHaveLeaf h hF)
/-! X7_setSingle -/
abbrev rmX7_setSingle : Room := { frames := 2, cells := 0, slots := 0, locals := 44 }
noncomputable def fX7_setSingle (v2_data : (Nat → Int32)) (x0 : Int32) (x1 : Int32) (v3_data : (Nat → Int32)) : Option (Int32 × (Nat → Int32)) :=
  bd (fX6_field v2_data x0 (4 : Int32)) (fun r4 => if x1 < r4 then some (((3 : Int32), v3_data)) else bd (fX6_field v2_data x0 (5 : Int32)) (fun r14 => if x1 ≤ r14 then bd (fX4_setValue x0 x1 v3_data) (fun r25 => some (((0 : Int32), r25))) else some (((3 : Int32), v3_data))))
set_option maxRecDepth 100000 in
set_option maxHeartbeats 4000000 in
theorem tfX7_setSingle {p : Program} {l : Launch} {e : Env} {s : State} {m : MethodId} {args : Array Value} {below : List Frame} {meth : Method} {c : Code} {A : Nat → Prop} {D : va_G} {cI cZ : ClassId} (h : Cx p s m args meth c A D cI cZ 4 cX7_setSingle RX7 wsX7_setSingle (some .int)) {h2 h2_data h2_fresh h3 h3_data : Nat} {x0 : Int32} {x1 : Int32} {v2_size : Int32} {v2_data : (Nat → Int32)} {v2_fresh : (Nat → Int32)} {v3_data : (Nat → Int32)} {o : Int32 × (Nat → Int32)} (hF : fX7_setSingle v2_data x0 x1 v3_data = some o) : V p l e rmX7_setSingle s m args below meth c A D 4 (QI D [(h2, .inr (6, [.ref h2_data, .ref h2_fresh, .int v2_size])), (h2_data, .inl (cI, 56, .inl v2_data)), (h2_fresh, .inl (cI, 7, .inl v2_fresh)), (h3, .inr (4, [.ref h3_data])), (h3_data, .inl (cI, 124, .inl o.2))] o.1 A below args s) [(h2, .inr (6, [.ref h2_data, .ref h2_fresh, .int v2_size])), (h2_data, .inl (cI, 56, .inl v2_data)), (h2_fresh, .inl (cI, 7, .inl v2_fresh)), (h3, .inr (4, [.ref h3_data])), (h3_data, .inl (cI, 124, .inl v3_data))] 0 [(0, .int x0), (1, .int x1), (2, .ref h2), (3, .ref h3)] [] := by
  unfold fX7_setSingle at hF
  refine V_iload_n (pc := 0) h 1 dX7_setSingle_0 rfl ?_
  refine V_aload_n (pc := 1) h 2 dX7_setSingle_1 rfl ?_
  refine V_iload_n (pc := 2) h 0 dX7_setSingle_2 rfl ?_
  refine V_iconst (pc := 3) h (v := (4 : Int32)) dX7_setSingle_3 (by decide) ?_
  refine V_ciV (pc := 4) h (n := 2) (bytes := cX6_field) (maxL := 4) (As := [.int x0, .int (4 : Int32)]) (rest := [.int x1]) gX7_setSingle_X6_field (by decide +kernel) rfl rfl rfl rfl ⟨rfl, rfl⟩ ⟨Nat.le_of_ble_eq_true rfl, Nat.le_of_ble_eq_true rfl⟩ [0, 1, 2] rfl (by decide) rfl (fun r4 => [(h2, .inr (6, [.ref h2_data, .ref h2_fresh, .int v2_size])), (h2_data, .inl (cI, 56, .inl v2_data)), (h2_fresh, .inl (cI, 7, .inl v2_fresh)), (h3, .inr (4, [.ref h3_data])), (h3_data, .inl (cI, 124, .inl v3_data))]) (fun _ => rfl) (fun _ => rfl) rfl (Nat.le_of_ble_eq_true rfl) dX7_setSingle_4 hF (fun r4 hG => k_X6_field l D cI cZ h2 h2_data h2_fresh v2_size v2_data v2_fresh x0 (4 : Int32) hG) (fun r4 hF => ?_)
  refine V_icmp_lt (pc := 7) h (tgt := 20) dX7_setSingle_7 (by decide) hF (fun hF => ?_) (fun hF => ?_)
  · refine V_iconst (pc := 20) h (v := (3 : Int32)) dX7_setSingle_20 (by decide) ?_
    have hF := Option.some.inj hF
    subst hF
    exact V_iret (pc := 21) h dX7_setSingle_21
  · refine V_iload_n (pc := 10) h 1 dX7_setSingle_10 rfl ?_
    refine V_aload_n (pc := 11) h 2 dX7_setSingle_11 rfl ?_
    refine V_iload_n (pc := 12) h 0 dX7_setSingle_12 rfl ?_
    refine V_iconst (pc := 13) h (v := (5 : Int32)) dX7_setSingle_13 (by decide) ?_
    refine V_ciV (pc := 14) h (n := 2) (bytes := cX6_field) (maxL := 4) (As := [.int x0, .int (5 : Int32)]) (rest := [.int x1]) gX7_setSingle_X6_field (by decide +kernel) rfl rfl rfl rfl ⟨rfl, rfl⟩ ⟨Nat.le_of_ble_eq_true rfl, Nat.le_of_ble_eq_true rfl⟩ [0, 1, 2] rfl (by decide) rfl (fun r14 => [(h2, .inr (6, [.ref h2_data, .ref h2_fresh, .int v2_size])), (h2_data, .inl (cI, 56, .inl v2_data)), (h2_fresh, .inl (cI, 7, .inl v2_fresh)), (h3, .inr (4, [.ref h3_data])), (h3_data, .inl (cI, 124, .inl v3_data))]) (fun _ => rfl) (fun _ => rfl) rfl (Nat.le_of_ble_eq_true rfl) dX7_setSingle_14 hF (fun r14 hG => k_X6_field l D cI cZ h2 h2_data h2_fresh v2_size v2_data v2_fresh x0 (5 : Int32) hG) (fun r14 hF => ?_)
    refine V_icmp_le (pc := 17) h (tgt := 22) dX7_setSingle_17 (by decide) hF (fun hF => ?_) (fun hF => ?_)
    · refine V_aload_n (pc := 22) h 3 dX7_setSingle_22 rfl ?_
      refine V_iload_n (pc := 23) h 0 dX7_setSingle_23 rfl ?_
      refine V_iload_n (pc := 24) h 1 dX7_setSingle_24 rfl ?_
      refine V_cvV (pc := 25) h (n := 2) (bytes := cX4_setValue) (maxL := 3) (As := [.int x0, .int x1]) (rest := []) gX7_setSingle_X4_setValue (by decide +kernel) rfl rfl rfl rfl ⟨rfl, rfl⟩ ⟨Nat.le_of_ble_eq_true rfl, Nat.le_of_ble_eq_true rfl⟩ [3, 4] rfl (by decide) rfl (fun r25 => [(h2, .inr (6, [.ref h2_data, .ref h2_fresh, .int v2_size])), (h2_data, .inl (cI, 56, .inl v2_data)), (h2_fresh, .inl (cI, 7, .inl v2_fresh)), (h3, .inr (4, [.ref h3_data])), (h3_data, .inl (cI, 124, .inl r25))]) (fun _ => rfl) (fun _ => rfl) rfl (Nat.le_of_ble_eq_true rfl) dX7_setSingle_25 hF (fun r25 hG => k_X4_setValue l D cI cZ h3 h3_data v3_data x0 x1 hG) (fun r25 hF => ?_)
      refine V_iconst (pc := 28) h (v := (0 : Int32)) dX7_setSingle_28 (by decide) ?_
      have hF := Option.some.inj hF
      subst hF
      exact V_iret (pc := 29) h dX7_setSingle_29
    · refine V_iconst (pc := 20) h (v := (3 : Int32)) dX7_setSingle_20 (by decide) ?_
      have hF := Option.some.inj hF
      subst hF
      exact V_iret (pc := 21) h dX7_setSingle_21
set_option maxRecDepth 100000 in
theorem k_X7_setSingle (l : Launch) (D : va_G) (cI cZ : ClassId) (h2 h2_data h2_fresh h3 h3_data : Nat) (v2_size : Int32) (v2_data : (Nat → Int32)) (v2_fresh : (Nat → Int32)) (v3_data : (Nat → Int32)) (x0 : Int32) (x1 : Int32) {o : Int32 × (Nat → Int32)} (hF : fX7_setSingle v2_data x0 x1 v3_data = some o) : CI l yX7_setSingle wsX7_setSingle rmX7_setSingle D cI cZ [.int x0, .int x1, .ref h2, .ref h3] [(h2, .inr (6, [.ref h2_data, .ref h2_fresh, .int v2_size])), (h2_data, .inl (cI, 56, .inl v2_data)), (h2_fresh, .inl (cI, 7, .inl v2_fresh)), (h3, .inr (4, [.ref h3_data])), (h3_data, .inl (cI, 124, .inl v3_data))] [(h2, .inr (6, [.ref h2_data, .ref h2_fresh, .int v2_size])), (h2_data, .inl (cI, 56, .inl v2_data)), (h2_fresh, .inl (cI, 7, .inl v2_fresh)), (h3, .inr (4, [.ref h3_data])), (h3_data, .inl (cI, 124, .inl o.2))] o.1 :=
  CI_of (cc := cX7_setSingle) (nL := 4) (ret := (some .int)) (by decide) rfl (Nat.le_of_ble_eq_true rfl) rfl (fun p e s m args below meth c A h => tfX7_setSingle h hF)
/-! X7_setMaker -/
abbrev rmX7_setMaker : Room := { frames := 0, cells := 0, slots := 0, locals := 0 }
theorem uX7_setMaker_inX7 : ∀ w ∈ wsX70, w ∈ wsX7_setMaker := by decide +kernel
theorem uX7_setMaker_f11 : Cond.fieldLink RX7 11 "LeafAsks$Worker" "makers" "[I" ∈ wsX7_setMaker := by decide +kernel
noncomputable def fX7_setMaker (x1 : Int32) (x2 : Int32) (x3 : Int32) (v0_makers : (Nat → Int32)) : Option ((Nat → Int32)) :=
  bnd (((x1 * (9 : Int32)) + x2) - (1 : Int32)) (fun x4_8 => if x4_8 < (0 : Int32) then some v0_makers else if (18 : Int32) ≤ x4_8 then some v0_makers else gin x4_8 18 (some (upd v0_makers x4_8.toNatClampNeg x3)))
set_option maxRecDepth 100000 in
set_option maxHeartbeats 4000000 in
theorem tfX7_setMaker {p : Program} {l : Launch} {e : Env} {s : State} {m : MethodId} {args : Array Value} {below : List Frame} {meth : Method} {c : Code} {A : Nat → Prop} {D : va_G} {cI cZ : ClassId} (h : Cx p s m args meth c A D cI cZ 5 cX7_setMaker RX7 wsX7_setMaker none) {h0 h0_makers : Nat} {x1 : Int32} {x2 : Int32} {x3 : Int32} {v0_makers : (Nat → Int32)} {o : (Nat → Int32)} (hF : fX7_setMaker x1 x2 x3 v0_makers = some o) : V p l e rmX7_setMaker s m args below meth c A D 5 (QV D [(h0, .inr (7, [.ref h0_makers])), (h0_makers, .inl (cI, 18, .inl o))] A below args s) [(h0, .inr (7, [.ref h0_makers])), (h0_makers, .inl (cI, 18, .inl v0_makers))] 0 [(0, .ref h0), (1, .int x1), (2, .int x2), (3, .int x3)] [] := by
  unfold fX7_setMaker at hF
  refine V_iload_n (pc := 0) h 1 dX7_setMaker_0 rfl ?_
  refine V_bipush (pc := 1) h (v := (9 : Int32)) dX7_setMaker_1 (by decide) ?_
  refine V_imul (pc := 3) h dX7_setMaker_3 ?_
  refine V_iload_n (pc := 4) h 2 dX7_setMaker_4 rfl ?_
  refine V_iadd (pc := 5) h dX7_setMaker_5 ?_
  refine V_iconst (pc := 6) h (v := (1 : Int32)) dX7_setMaker_6 (by decide) ?_
  refine V_isub (pc := 7) h dX7_setMaker_7 ?_
  refine V_bnd hF (fun x4_8 hF => ?_)
  refine V_istore (pc := 8) h [(4, .int x4_8), (0, .ref h0), (1, .int x1), (2, .int x2), (3, .int x3)] dX7_setMaker_8 (by decide) rfl ?_
  refine V_iload (pc := 10) h 0 dX7_setMaker_10 rfl ?_
  refine V_if_lt (pc := 12) h (tgt := 33) dX7_setMaker_12 (by decide) hF (fun hF => ?_) (fun hF => ?_)
  · have hF := Option.some.inj hF
    subst hF
    exact V_vret (pc := 33) h dX7_setMaker_33
  · refine V_iload (pc := 15) h 0 dX7_setMaker_15 rfl ?_
    refine V_aload_n (pc := 17) h 1 dX7_setMaker_17 rfl ?_
    refine V_get (pc := 18) h uX7_setMaker_inX7 0 0 rfl rfl (by decide) uX7_setMaker_f11 rfl rfl dX7_setMaker_18 ?_
    refine V_alenI (pc := 21) h (v := (18 : Int32)) 1 rfl (by decide) dX7_setMaker_21 ?_
    refine V_icmp_ge (pc := 22) h (tgt := 33) dX7_setMaker_22 (by decide) hF (fun hF => ?_) (fun hF => ?_)
    · have hF := Option.some.inj hF
      subst hF
      exact V_vret (pc := 33) h dX7_setMaker_33
    · refine V_aload_n (pc := 25) h 1 dX7_setMaker_25 rfl ?_
      refine V_get (pc := 26) h uX7_setMaker_inX7 0 0 rfl rfl (by decide) uX7_setMaker_f11 rfl rfl dX7_setMaker_26 ?_
      refine V_iload (pc := 29) h 0 dX7_setMaker_29 rfl ?_
      refine V_iload_n (pc := 31) h 4 dX7_setMaker_31 rfl ?_
      refine V_iast (pc := 32) h 1 rfl [(h0, .inr (7, [.ref h0_makers])), (h0_makers, .inl (cI, 18, .inl (upd v0_makers x4_8.toNatClampNeg x3)))] rfl dX7_setMaker_32 hF (fun hF => ?_)
      have hF := Option.some.inj hF
      subst hF
      exact V_vret (pc := 33) h dX7_setMaker_33
set_option maxRecDepth 100000 in
theorem k_X7_setMaker (l : Launch) (D : va_G) (cI cZ : ClassId) (h0 h0_makers : Nat) (v0_makers : (Nat → Int32)) (x1 : Int32) (x2 : Int32) (x3 : Int32) {o : (Nat → Int32)} (hF : fX7_setMaker x1 x2 x3 v0_makers = some o) : CV l yX7_setMaker wsX7_setMaker rmX7_setMaker D cI cZ [.ref h0, .int x1, .int x2, .int x3] [(h0, .inr (7, [.ref h0_makers])), (h0_makers, .inl (cI, 18, .inl v0_makers))] [(h0, .inr (7, [.ref h0_makers])), (h0_makers, .inl (cI, 18, .inl o))] :=
  CV_of (cc := cX7_setMaker) (nL := 5) (ret := none) (by decide) rfl (Nat.le_of_ble_eq_true rfl) rfl (fun p e s m args below meth c A h => tfX7_setMaker h hF)
/-! X7_setStatus -/
abbrev rmX7_setStatus : Room := { frames := 3, cells := 0, slots := 0, locals := 68 }
noncomputable def fX7_setStatus_b110 (x1 : Int32) (x2 : Int32) (x3 : Int32) (x4 : Int32) (v0_makers : (Nat → Int32)) (v5_data : (Nat → Int32)) (s0 : Int32) (s1 : Int32) (s2 : Int32) : Option (Int32 × (Nat → Int32) × (Nat → Int32)) :=
  bd (fX7_setMaker s2 s1 s0 v0_makers) (fun r110 => some (((0 : Int32), r110, v5_data)))
set_option maxRecDepth 100000 in
set_option maxHeartbeats 4000000 in
theorem tfX7_setStatus_b110 {p : Program} {l : Launch} {e : Env} {s : State} {m : MethodId} {args : Array Value} {below : List Frame} {meth : Method} {c : Code} {A : Nat → Prop} {D : va_G} {cI cZ : ClassId} (h : Cx p s m args meth c A D cI cZ 7 cX7_setStatus RX7 wsX7_setStatus (some .int)) {h0 h0_makers h5 h5_data : Nat} {x1 : Int32} {x2 : Int32} {x3 : Int32} {x4 : Int32} {v0_makers : (Nat → Int32)} {v5_data : (Nat → Int32)} {s0 : Int32} {s1 : Int32} {s2 : Int32} {o : Int32 × (Nat → Int32) × (Nat → Int32)} (hF : fX7_setStatus_b110 x1 x2 x3 x4 v0_makers v5_data s0 s1 s2 = some o) : V p l e rmX7_setStatus s m args below meth c A D 7 (QI D [(h0, .inr (7, [.ref h0_makers])), (h0_makers, .inl (cI, 18, .inl o.2.1)), (h5, .inr (4, [.ref h5_data])), (h5_data, .inl (cI, 124, .inl o.2.2))] o.1 A below args s) [(h0, .inr (7, [.ref h0_makers])), (h0_makers, .inl (cI, 18, .inl v0_makers)), (h5, .inr (4, [.ref h5_data])), (h5_data, .inl (cI, 124, .inl v5_data))] 110 [] [.int s0, .int s1, .int s2, .ref h0] := by
  unfold fX7_setStatus_b110 at hF
  refine V_cvV (pc := 110) h (n := 3) (bytes := cX7_setMaker) (maxL := 5) (As := [.int s2, .int s1, .int s0]) (rest := []) gX7_setStatus_X7_setMaker (by decide +kernel) rfl rfl rfl rfl ⟨rfl, rfl⟩ ⟨Nat.le_of_ble_eq_true rfl, Nat.le_of_ble_eq_true rfl⟩ [0, 1] rfl (by decide) rfl (fun r110 => [(h0, .inr (7, [.ref h0_makers])), (h0_makers, .inl (cI, 18, .inl r110)), (h5, .inr (4, [.ref h5_data])), (h5_data, .inl (cI, 124, .inl v5_data))]) (fun _ => rfl) (fun _ => rfl) rfl (Nat.le_of_ble_eq_true rfl) dX7_setStatus_110 hF (fun r110 hG => k_X7_setMaker l D cI cZ h0 h0_makers v0_makers s2 s1 s0 hG) (fun r110 hF => ?_)
  refine V_iconst (pc := 113) h (v := (0 : Int32)) dX7_setStatus_113 (by decide) ?_
  have hF := Option.some.inj hF
  subst hF
  exact V_iret (pc := 114) h dX7_setStatus_114
noncomputable def fX7_setStatus_b92 (x1 : Int32) (x2 : Int32) (x3 : Int32) (x4 : Int32) (v0_makers : (Nat → Int32)) (v5_data : (Nat → Int32)) (s0 : Int32) (s1 : Int32) (s2 : Int32) : Option (Int32 × (Nat → Int32) × (Nat → Int32)) :=
  bd (fX4_setStatus s2 s1 s0 v5_data) (fun r92 => if x3 = (4 : Int32) then fX7_setStatus_b110 x1 x2 x3 x4 v0_makers r92 x4 x2 x1 else fX7_setStatus_b110 x1 x2 x3 x4 v0_makers r92 (8 : Int32) x2 x1)
set_option maxRecDepth 100000 in
set_option maxHeartbeats 4000000 in
theorem tfX7_setStatus_b92 {p : Program} {l : Launch} {e : Env} {s : State} {m : MethodId} {args : Array Value} {below : List Frame} {meth : Method} {c : Code} {A : Nat → Prop} {D : va_G} {cI cZ : ClassId} (h : Cx p s m args meth c A D cI cZ 7 cX7_setStatus RX7 wsX7_setStatus (some .int)) {h0 h0_makers h5 h5_data : Nat} {x1 : Int32} {x2 : Int32} {x3 : Int32} {x4 : Int32} {v0_makers : (Nat → Int32)} {v5_data : (Nat → Int32)} {s0 : Int32} {s1 : Int32} {s2 : Int32} {o : Int32 × (Nat → Int32) × (Nat → Int32)} (hF : fX7_setStatus_b92 x1 x2 x3 x4 v0_makers v5_data s0 s1 s2 = some o) : V p l e rmX7_setStatus s m args below meth c A D 7 (QI D [(h0, .inr (7, [.ref h0_makers])), (h0_makers, .inl (cI, 18, .inl o.2.1)), (h5, .inr (4, [.ref h5_data])), (h5_data, .inl (cI, 124, .inl o.2.2))] o.1 A below args s) [(h0, .inr (7, [.ref h0_makers])), (h0_makers, .inl (cI, 18, .inl v0_makers)), (h5, .inr (4, [.ref h5_data])), (h5_data, .inl (cI, 124, .inl v5_data))] 92 [(0, .ref h0), (1, .int x1), (2, .int x2), (3, .int x3), (4, .int x4)] [.int s0, .int s1, .int s2, .ref h5] := by
  unfold fX7_setStatus_b92 at hF
  refine V_cvV (pc := 92) h (n := 3) (bytes := cX4_setStatus) (maxL := 4) (As := [.int s2, .int s1, .int s0]) (rest := []) gX7_setStatus_X4_setStatus (by decide +kernel) rfl rfl rfl rfl ⟨rfl, rfl⟩ ⟨Nat.le_of_ble_eq_true rfl, Nat.le_of_ble_eq_true rfl⟩ [2, 3] rfl (by decide) rfl (fun r92 => [(h0, .inr (7, [.ref h0_makers])), (h0_makers, .inl (cI, 18, .inl v0_makers)), (h5, .inr (4, [.ref h5_data])), (h5_data, .inl (cI, 124, .inl r92))]) (fun _ => rfl) (fun _ => rfl) rfl (Nat.le_of_ble_eq_true rfl) dX7_setStatus_92 hF (fun r92 hG => k_X4_setStatus l D cI cZ h5 h5_data v5_data s2 s1 s0 hG) (fun r92 hF => ?_)
  refine V_aload_n (pc := 95) h 0 dX7_setStatus_95 rfl ?_
  refine V_iload_n (pc := 96) h 1 dX7_setStatus_96 rfl ?_
  refine V_iload_n (pc := 97) h 2 dX7_setStatus_97 rfl ?_
  refine V_iload_n (pc := 98) h 3 dX7_setStatus_98 rfl ?_
  refine V_iconst (pc := 99) h (v := (4 : Int32)) dX7_setStatus_99 (by decide) ?_
  refine V_icmp_ne (pc := 100) h (tgt := 108) dX7_setStatus_100 (by decide) hF (fun hF => ?_) (fun hF => ?_)
  · refine V_bipush (pc := 108) h (v := (8 : Int32)) dX7_setStatus_108 (by decide) ?_
    refine V_lv [] [] rfl ?_
    exact tfX7_setStatus_b110 h hF
  · refine V_iload (pc := 103) h 4 dX7_setStatus_103 rfl ?_
    refine V_goto (pc := 105) h (tgt := 110) dX7_setStatus_105 (by decide) ?_
    refine V_lv [] [] rfl ?_
    exact tfX7_setStatus_b110 h hF
noncomputable def fX7_setStatus_b71 (x1 : Int32) (x2 : Int32) (x3 : Int32) (x4 : Int32) (v0_makers : (Nat → Int32)) (v5_data : (Nat → Int32)) (x6 : Int32) : Option (Int32 × (Nat → Int32) × (Nat → Int32)) :=
  if x6 = (0 : Int32) then if x3 = (4 : Int32) then fX7_setStatus_b92 x1 x2 x3 x4 v0_makers v5_data (1 : Int32) x2 x1 else fX7_setStatus_b92 x1 x2 x3 x4 v0_makers v5_data (3 : Int32) x2 x1 else some (((4 : Int32), v0_makers, v5_data))
set_option maxRecDepth 100000 in
set_option maxHeartbeats 4000000 in
theorem tfX7_setStatus_b71 {p : Program} {l : Launch} {e : Env} {s : State} {m : MethodId} {args : Array Value} {below : List Frame} {meth : Method} {c : Code} {A : Nat → Prop} {D : va_G} {cI cZ : ClassId} (h : Cx p s m args meth c A D cI cZ 7 cX7_setStatus RX7 wsX7_setStatus (some .int)) {h0 h0_makers h5 h5_data : Nat} {x1 : Int32} {x2 : Int32} {x3 : Int32} {x4 : Int32} {v0_makers : (Nat → Int32)} {v5_data : (Nat → Int32)} {x6 : Int32} {o : Int32 × (Nat → Int32) × (Nat → Int32)} (hF : fX7_setStatus_b71 x1 x2 x3 x4 v0_makers v5_data x6 = some o) : V p l e rmX7_setStatus s m args below meth c A D 7 (QI D [(h0, .inr (7, [.ref h0_makers])), (h0_makers, .inl (cI, 18, .inl o.2.1)), (h5, .inr (4, [.ref h5_data])), (h5_data, .inl (cI, 124, .inl o.2.2))] o.1 A below args s) [(h0, .inr (7, [.ref h0_makers])), (h0_makers, .inl (cI, 18, .inl v0_makers)), (h5, .inr (4, [.ref h5_data])), (h5_data, .inl (cI, 124, .inl v5_data))] 71 [(0, .ref h0), (1, .int x1), (2, .int x2), (3, .int x3), (4, .int x4), (5, .ref h5), (6, .int x6)] [] := by
  unfold fX7_setStatus_b71 at hF
  refine V_iload (pc := 71) h 6 dX7_setStatus_71 rfl ?_
  refine V_if_eq (pc := 73) h (tgt := 78) dX7_setStatus_73 (by decide) hF (fun hF => ?_) (fun hF => ?_)
  · refine V_aload (pc := 78) h 5 dX7_setStatus_78 rfl ?_
    refine V_iload_n (pc := 80) h 1 dX7_setStatus_80 rfl ?_
    refine V_iload_n (pc := 81) h 2 dX7_setStatus_81 rfl ?_
    refine V_iload_n (pc := 82) h 3 dX7_setStatus_82 rfl ?_
    refine V_iconst (pc := 83) h (v := (4 : Int32)) dX7_setStatus_83 (by decide) ?_
    refine V_icmp_ne (pc := 84) h (tgt := 91) dX7_setStatus_84 (by decide) hF (fun hF => ?_) (fun hF => ?_)
    · refine V_iconst (pc := 91) h (v := (3 : Int32)) dX7_setStatus_91 (by decide) ?_
      refine V_lv [0, 1, 2, 3, 4] [(0, .ref h0), (1, .int x1), (2, .int x2), (3, .int x3), (4, .int x4)] rfl ?_
      exact tfX7_setStatus_b92 h hF
    · refine V_iconst (pc := 87) h (v := (1 : Int32)) dX7_setStatus_87 (by decide) ?_
      refine V_goto (pc := 88) h (tgt := 92) dX7_setStatus_88 (by decide) ?_
      refine V_lv [0, 1, 2, 3, 4] [(0, .ref h0), (1, .int x1), (2, .int x2), (3, .int x3), (4, .int x4)] rfl ?_
      exact tfX7_setStatus_b92 h hF
  · refine V_iconst (pc := 76) h (v := (4 : Int32)) dX7_setStatus_76 (by decide) ?_
    have hF := Option.some.inj hF
    subst hF
    exact V_iret (pc := 77) h dX7_setStatus_77
noncomputable def fX7_setStatus_b48 (x1 : Int32) (x2 : Int32) (x3 : Int32) (x4 : Int32) (v0_makers : (Nat → Int32)) (v5_data : (Nat → Int32)) (x6 : Int32) : Option (Int32 × (Nat → Int32) × (Nat → Int32)) :=
  if x6 = (0 : Int32) then some (((4 : Int32), v0_makers, v5_data)) else if x6 = (3 : Int32) then some (((4 : Int32), v0_makers, v5_data)) else bd (fX4_setStatus x1 x2 x3 v5_data) (fun r66 => some (((0 : Int32), v0_makers, r66)))
set_option maxRecDepth 100000 in
set_option maxHeartbeats 4000000 in
theorem tfX7_setStatus_b48 {p : Program} {l : Launch} {e : Env} {s : State} {m : MethodId} {args : Array Value} {below : List Frame} {meth : Method} {c : Code} {A : Nat → Prop} {D : va_G} {cI cZ : ClassId} (h : Cx p s m args meth c A D cI cZ 7 cX7_setStatus RX7 wsX7_setStatus (some .int)) {h0 h0_makers h5 h5_data : Nat} {x1 : Int32} {x2 : Int32} {x3 : Int32} {x4 : Int32} {v0_makers : (Nat → Int32)} {v5_data : (Nat → Int32)} {x6 : Int32} {o : Int32 × (Nat → Int32) × (Nat → Int32)} (hF : fX7_setStatus_b48 x1 x2 x3 x4 v0_makers v5_data x6 = some o) : V p l e rmX7_setStatus s m args below meth c A D 7 (QI D [(h0, .inr (7, [.ref h0_makers])), (h0_makers, .inl (cI, 18, .inl o.2.1)), (h5, .inr (4, [.ref h5_data])), (h5_data, .inl (cI, 124, .inl o.2.2))] o.1 A below args s) [(h0, .inr (7, [.ref h0_makers])), (h0_makers, .inl (cI, 18, .inl v0_makers)), (h5, .inr (4, [.ref h5_data])), (h5_data, .inl (cI, 124, .inl v5_data))] 48 [(1, .int x1), (2, .int x2), (3, .int x3), (5, .ref h5), (6, .int x6)] [] := by
  unfold fX7_setStatus_b48 at hF
  refine V_iload (pc := 48) h 4 dX7_setStatus_48 rfl ?_
  refine V_if_eq (pc := 50) h (tgt := 59) dX7_setStatus_50 (by decide) hF (fun hF => ?_) (fun hF => ?_)
  · refine V_iconst (pc := 59) h (v := (4 : Int32)) dX7_setStatus_59 (by decide) ?_
    have hF := Option.some.inj hF
    subst hF
    exact V_iret (pc := 60) h dX7_setStatus_60
  · refine V_iload (pc := 53) h 4 dX7_setStatus_53 rfl ?_
    refine V_iconst (pc := 55) h (v := (3 : Int32)) dX7_setStatus_55 (by decide) ?_
    refine V_icmp_ne (pc := 56) h (tgt := 61) dX7_setStatus_56 (by decide) hF (fun hF => ?_) (fun hF => ?_)
    · refine V_aload (pc := 61) h 3 dX7_setStatus_61 rfl ?_
      refine V_iload_n (pc := 63) h 0 dX7_setStatus_63 rfl ?_
      refine V_iload_n (pc := 64) h 1 dX7_setStatus_64 rfl ?_
      refine V_iload_n (pc := 65) h 2 dX7_setStatus_65 rfl ?_
      refine V_cvV (pc := 66) h (n := 3) (bytes := cX4_setStatus) (maxL := 4) (As := [.int x1, .int x2, .int x3]) (rest := []) gX7_setStatus_X4_setStatus (by decide +kernel) rfl rfl rfl rfl ⟨rfl, rfl⟩ ⟨Nat.le_of_ble_eq_true rfl, Nat.le_of_ble_eq_true rfl⟩ [2, 3] rfl (by decide) rfl (fun r66 => [(h0, .inr (7, [.ref h0_makers])), (h0_makers, .inl (cI, 18, .inl v0_makers)), (h5, .inr (4, [.ref h5_data])), (h5_data, .inl (cI, 124, .inl r66))]) (fun _ => rfl) (fun _ => rfl) rfl (Nat.le_of_ble_eq_true rfl) dX7_setStatus_66 hF (fun r66 hG => k_X4_setStatus l D cI cZ h5 h5_data v5_data x1 x2 x3 hG) (fun r66 hF => ?_)
      refine V_iconst (pc := 69) h (v := (0 : Int32)) dX7_setStatus_69 (by decide) ?_
      have hF := Option.some.inj hF
      subst hF
      exact V_iret (pc := 70) h dX7_setStatus_70
    · refine V_iconst (pc := 59) h (v := (4 : Int32)) dX7_setStatus_59 (by decide) ?_
      have hF := Option.some.inj hF
      subst hF
      exact V_iret (pc := 60) h dX7_setStatus_60
noncomputable def fX7_setStatus (x1 : Int32) (x2 : Int32) (x3 : Int32) (x4 : Int32) (v0_makers : (Nat → Int32)) (v5_data : (Nat → Int32)) : Option (Int32 × (Nat → Int32) × (Nat → Int32)) :=
  bd (fX4_statusOf v5_data x1 x2) (fun r4 => if x3 = (1 : Int32) then fX7_setStatus_b48 x1 x2 x3 x4 v0_makers v5_data r4 else if x3 = (2 : Int32) then fX7_setStatus_b48 x1 x2 x3 x4 v0_makers v5_data r4 else if x3 = (3 : Int32) then some (((3 : Int32), v0_makers, v5_data)) else if x3 = (4 : Int32) then fX7_setStatus_b71 x1 x2 x3 x4 v0_makers v5_data r4 else if x3 = (5 : Int32) then fX7_setStatus_b71 x1 x2 x3 x4 v0_makers v5_data r4 else if x3 = (6 : Int32) then bd (fX4_emptyRow x1 x2 v5_data) (fun r119 => some (((0 : Int32), v0_makers, r119))) else some (((3 : Int32), v0_makers, v5_data)))
set_option maxRecDepth 100000 in
set_option maxHeartbeats 4000000 in
theorem tfX7_setStatus {p : Program} {l : Launch} {e : Env} {s : State} {m : MethodId} {args : Array Value} {below : List Frame} {meth : Method} {c : Code} {A : Nat → Prop} {D : va_G} {cI cZ : ClassId} (h : Cx p s m args meth c A D cI cZ 7 cX7_setStatus RX7 wsX7_setStatus (some .int)) {h0 h0_makers h5 h5_data : Nat} {x1 : Int32} {x2 : Int32} {x3 : Int32} {x4 : Int32} {v0_makers : (Nat → Int32)} {v5_data : (Nat → Int32)} {o : Int32 × (Nat → Int32) × (Nat → Int32)} (hF : fX7_setStatus x1 x2 x3 x4 v0_makers v5_data = some o) : V p l e rmX7_setStatus s m args below meth c A D 7 (QI D [(h0, .inr (7, [.ref h0_makers])), (h0_makers, .inl (cI, 18, .inl o.2.1)), (h5, .inr (4, [.ref h5_data])), (h5_data, .inl (cI, 124, .inl o.2.2))] o.1 A below args s) [(h0, .inr (7, [.ref h0_makers])), (h0_makers, .inl (cI, 18, .inl v0_makers)), (h5, .inr (4, [.ref h5_data])), (h5_data, .inl (cI, 124, .inl v5_data))] 0 [(0, .ref h0), (1, .int x1), (2, .int x2), (3, .int x3), (4, .int x4), (5, .ref h5)] [] := by
  unfold fX7_setStatus at hF
  refine V_aload (pc := 0) h 5 dX7_setStatus_0 rfl ?_
  refine V_iload_n (pc := 2) h 1 dX7_setStatus_2 rfl ?_
  refine V_iload_n (pc := 3) h 2 dX7_setStatus_3 rfl ?_
  refine V_ciV (pc := 4) h (n := 2) (bytes := cX4_statusOf) (maxL := 3) (As := [.int x1, .int x2]) (rest := []) gX7_setStatus_X4_statusOf (by decide +kernel) rfl rfl rfl rfl ⟨rfl, rfl⟩ ⟨Nat.le_of_ble_eq_true rfl, Nat.le_of_ble_eq_true rfl⟩ [2, 3] rfl (by decide) rfl (fun r4 => [(h0, .inr (7, [.ref h0_makers])), (h0_makers, .inl (cI, 18, .inl v0_makers)), (h5, .inr (4, [.ref h5_data])), (h5_data, .inl (cI, 124, .inl v5_data))]) (fun _ => rfl) (fun _ => rfl) rfl (Nat.le_of_ble_eq_true rfl) dX7_setStatus_4 hF (fun r4 hG => k_X4_statusOf l D cI cZ h5 h5_data v5_data x1 x2 hG) (fun r4 hF => ?_)
  refine V_istore (pc := 7) h [(6, .int r4), (0, .ref h0), (1, .int x1), (2, .int x2), (3, .int x3), (4, .int x4), (5, .ref h5)] dX7_setStatus_7 (by decide) rfl ?_
  refine V_iload_n (pc := 9) h 4 dX7_setStatus_9 rfl ?_
  refine V_ite hF (fun hc10_0 hF => ?_) (fun hc10_0 hF => ?_)
  · refine V_tableIn (pc := 10) h (tgt := 48) (off := 38) dX7_setStatus_10 (by rw [hc10_0] <;> decide) (by rw [hc10_0] <;> decide) (by rw [hc10_0] <;> decide) (by decide) ?_
    refine V_lv [2, 3, 4, 6, 0] [(1, .int x1), (2, .int x2), (3, .int x3), (5, .ref h5), (6, .int r4)] rfl ?_
    exact tfX7_setStatus_b48 h hF
  · refine V_ite hF (fun hc10_1 hF => ?_) (fun hc10_1 hF => ?_)
    · refine V_tableIn (pc := 10) h (tgt := 48) (off := 38) dX7_setStatus_10 (by rw [hc10_1] <;> decide) (by rw [hc10_1] <;> decide) (by rw [hc10_1] <;> decide) (by decide) ?_
      refine V_lv [2, 3, 4, 6, 0] [(1, .int x1), (2, .int x2), (3, .int x3), (5, .ref h5), (6, .int r4)] rfl ?_
      exact tfX7_setStatus_b48 h hF
    · refine V_ite hF (fun hc10_2 hF => ?_) (fun hc10_2 hF => ?_)
      · refine V_tableIn (pc := 10) h (tgt := 124) (off := 114) dX7_setStatus_10 (by rw [hc10_2] <;> decide) (by rw [hc10_2] <;> decide) (by rw [hc10_2] <;> decide) (by decide) ?_
        refine V_iconst (pc := 124) h (v := (3 : Int32)) dX7_setStatus_124 (by decide) ?_
        have hF := Option.some.inj hF
        subst hF
        exact V_iret (pc := 125) h dX7_setStatus_125
      · refine V_ite hF (fun hc10_3 hF => ?_) (fun hc10_3 hF => ?_)
        · refine V_tableIn (pc := 10) h (tgt := 71) (off := 61) dX7_setStatus_10 (by rw [hc10_3] <;> decide) (by rw [hc10_3] <;> decide) (by rw [hc10_3] <;> decide) (by decide) ?_
          refine V_lv [1, 2, 3, 4, 5, 6, 0] [(0, .ref h0), (1, .int x1), (2, .int x2), (3, .int x3), (4, .int x4), (5, .ref h5), (6, .int r4)] rfl ?_
          exact tfX7_setStatus_b71 h hF
        · refine V_ite hF (fun hc10_4 hF => ?_) (fun hc10_4 hF => ?_)
          · refine V_tableIn (pc := 10) h (tgt := 71) (off := 61) dX7_setStatus_10 (by rw [hc10_4] <;> decide) (by rw [hc10_4] <;> decide) (by rw [hc10_4] <;> decide) (by decide) ?_
            refine V_lv [1, 2, 3, 4, 5, 6, 0] [(0, .ref h0), (1, .int x1), (2, .int x2), (3, .int x3), (4, .int x4), (5, .ref h5), (6, .int r4)] rfl ?_
            exact tfX7_setStatus_b71 h hF
          · refine V_ite hF (fun hc10_5 hF => ?_) (fun hc10_5 hF => ?_)
            · refine V_tableIn (pc := 10) h (tgt := 115) (off := 105) dX7_setStatus_10 (by rw [hc10_5] <;> decide) (by rw [hc10_5] <;> decide) (by rw [hc10_5] <;> decide) (by decide) ?_
              refine V_aload (pc := 115) h 6 dX7_setStatus_115 rfl ?_
              refine V_iload_n (pc := 117) h 2 dX7_setStatus_117 rfl ?_
              refine V_iload_n (pc := 118) h 3 dX7_setStatus_118 rfl ?_
              refine V_cvV (pc := 119) h (n := 2) (bytes := cX4_emptyRow) (maxL := 4) (As := [.int x1, .int x2]) (rest := []) gX7_setStatus_X4_emptyRow (by decide +kernel) rfl rfl rfl rfl ⟨rfl, rfl⟩ ⟨Nat.le_of_ble_eq_true rfl, Nat.le_of_ble_eq_true rfl⟩ [2, 3] rfl (by decide) rfl (fun r119 => [(h0, .inr (7, [.ref h0_makers])), (h0_makers, .inl (cI, 18, .inl v0_makers)), (h5, .inr (4, [.ref h5_data])), (h5_data, .inl (cI, 124, .inl r119))]) (fun _ => rfl) (fun _ => rfl) rfl (Nat.le_of_ble_eq_true rfl) dX7_setStatus_119 hF (fun r119 hG => k_X4_emptyRow l D cI cZ h5 h5_data v5_data x1 x2 hG) (fun r119 hF => ?_)
              refine V_iconst (pc := 122) h (v := (0 : Int32)) dX7_setStatus_122 (by decide) ?_
              have hF := Option.some.inj hF
              subst hF
              exact V_iret (pc := 123) h dX7_setStatus_123
            · refine V_tableOut (pc := 10) h (tgt := 124) dX7_setStatus_10 (by have q0 := i32_ne hc10_0; rw [show ((1 : Int32)).toInt = 1 from by decide] at q0; have q1 := i32_ne hc10_1; rw [show ((2 : Int32)).toInt = 2 from by decide] at q1; have q2 := i32_ne hc10_2; rw [show ((3 : Int32)).toInt = 3 from by decide] at q2; have q3 := i32_ne hc10_3; rw [show ((4 : Int32)).toInt = 4 from by decide] at q3; have q4 := i32_ne hc10_4; rw [show ((5 : Int32)).toInt = 5 from by decide] at q4; have q5 := i32_ne hc10_5; rw [show ((6 : Int32)).toInt = 6 from by decide] at q5; omega) (by decide) ?_
              refine V_iconst (pc := 124) h (v := (3 : Int32)) dX7_setStatus_124 (by decide) ?_
              have hF := Option.some.inj hF
              subst hF
              exact V_iret (pc := 125) h dX7_setStatus_125
set_option maxRecDepth 100000 in
theorem k_X7_setStatus (l : Launch) (D : va_G) (cI cZ : ClassId) (h0 h0_makers h5 h5_data : Nat) (v0_makers : (Nat → Int32)) (v5_data : (Nat → Int32)) (x1 : Int32) (x2 : Int32) (x3 : Int32) (x4 : Int32) {o : Int32 × (Nat → Int32) × (Nat → Int32)} (hF : fX7_setStatus x1 x2 x3 x4 v0_makers v5_data = some o) : CI l yX7_setStatus wsX7_setStatus rmX7_setStatus D cI cZ [.ref h0, .int x1, .int x2, .int x3, .int x4, .ref h5] [(h0, .inr (7, [.ref h0_makers])), (h0_makers, .inl (cI, 18, .inl v0_makers)), (h5, .inr (4, [.ref h5_data])), (h5_data, .inl (cI, 124, .inl v5_data))] [(h0, .inr (7, [.ref h0_makers])), (h0_makers, .inl (cI, 18, .inl o.2.1)), (h5, .inr (4, [.ref h5_data])), (h5_data, .inl (cI, 124, .inl o.2.2))] o.1 :=
  CI_of (cc := cX7_setStatus) (nL := 7) (ret := (some .int)) (by decide) rfl (Nat.le_of_ble_eq_true rfl) rfl (fun p e s m args below meth c A h => tfX7_setStatus h hF)
/-! X7_fillCell -/
abbrev rmX7_fillCell : Room := { frames := 3, cells := 0, slots := 0, locals := 70 }
noncomputable def fX7_fillCell (v4_size : Int32) (v4_data : (Nat → Int32)) (x0 : Int32) (x1 : Int32) (x2 : Int32) (x3 : Int32) (v5_data : (Nat → Int32)) : Option (Int32 × (Nat → Int32)) :=
  bd (fX4_statusOf v5_data x0 x2) (fun r4 => if r4 = (0 : Int32) then some (((4 : Int32), v5_data)) else bd (fX4_setCell x0 x1 x2 x3 v5_data) (fun r22 => if r4 = (3 : Int32) then bd (fX6_columnsOf v4_size v4_data x0) (fun r38 => bd (fX4_unfilled r22 x0 x2 r38) (fun r41 => if r41 = (0 : Int32) then bd (fX4_setStatus x0 x2 (2 : Int32) r22) (fun r52 => some (((0 : Int32), r52))) else some (((0 : Int32), r22)))) else some (((0 : Int32), r22))))
set_option maxRecDepth 100000 in
set_option maxHeartbeats 4000000 in
theorem tfX7_fillCell {p : Program} {l : Launch} {e : Env} {s : State} {m : MethodId} {args : Array Value} {below : List Frame} {meth : Method} {c : Code} {A : Nat → Prop} {D : va_G} {cI cZ : ClassId} (h : Cx p s m args meth c A D cI cZ 7 cX7_fillCell RX7 wsX7_fillCell (some .int)) {h4 h4_data h4_fresh h5 h5_data : Nat} {x0 : Int32} {x1 : Int32} {x2 : Int32} {x3 : Int32} {v4_size : Int32} {v4_data : (Nat → Int32)} {v4_fresh : (Nat → Int32)} {v5_data : (Nat → Int32)} {o : Int32 × (Nat → Int32)} (hF : fX7_fillCell v4_size v4_data x0 x1 x2 x3 v5_data = some o) : V p l e rmX7_fillCell s m args below meth c A D 7 (QI D [(h4, .inr (6, [.ref h4_data, .ref h4_fresh, .int v4_size])), (h4_data, .inl (cI, 56, .inl v4_data)), (h4_fresh, .inl (cI, 7, .inl v4_fresh)), (h5, .inr (4, [.ref h5_data])), (h5_data, .inl (cI, 124, .inl o.2))] o.1 A below args s) [(h4, .inr (6, [.ref h4_data, .ref h4_fresh, .int v4_size])), (h4_data, .inl (cI, 56, .inl v4_data)), (h4_fresh, .inl (cI, 7, .inl v4_fresh)), (h5, .inr (4, [.ref h5_data])), (h5_data, .inl (cI, 124, .inl v5_data))] 0 [(0, .int x0), (1, .int x1), (2, .int x2), (3, .int x3), (4, .ref h4), (5, .ref h5)] [] := by
  unfold fX7_fillCell at hF
  refine V_aload (pc := 0) h 5 dX7_fillCell_0 rfl ?_
  refine V_iload_n (pc := 2) h 0 dX7_fillCell_2 rfl ?_
  refine V_iload_n (pc := 3) h 2 dX7_fillCell_3 rfl ?_
  refine V_ciV (pc := 4) h (n := 2) (bytes := cX4_statusOf) (maxL := 3) (As := [.int x0, .int x2]) (rest := []) gX7_fillCell_X4_statusOf (by decide +kernel) rfl rfl rfl rfl ⟨rfl, rfl⟩ ⟨Nat.le_of_ble_eq_true rfl, Nat.le_of_ble_eq_true rfl⟩ [3, 4] rfl (by decide) rfl (fun r4 => [(h4, .inr (6, [.ref h4_data, .ref h4_fresh, .int v4_size])), (h4_data, .inl (cI, 56, .inl v4_data)), (h4_fresh, .inl (cI, 7, .inl v4_fresh)), (h5, .inr (4, [.ref h5_data])), (h5_data, .inl (cI, 124, .inl v5_data))]) (fun _ => rfl) (fun _ => rfl) rfl (Nat.le_of_ble_eq_true rfl) dX7_fillCell_4 hF (fun r4 hG => k_X4_statusOf l D cI cZ h5 h5_data v5_data x0 x2 hG) (fun r4 hF => ?_)
  refine V_istore (pc := 7) h [(6, .int r4), (0, .int x0), (1, .int x1), (2, .int x2), (3, .int x3), (4, .ref h4), (5, .ref h5)] dX7_fillCell_7 (by decide) rfl ?_
  refine V_iload (pc := 9) h 0 dX7_fillCell_9 rfl ?_
  refine V_if_ne (pc := 11) h (tgt := 16) dX7_fillCell_11 (by decide) hF (fun hF => ?_) (fun hF => ?_)
  · refine V_aload (pc := 16) h 6 dX7_fillCell_16 rfl ?_
    refine V_iload_n (pc := 18) h 1 dX7_fillCell_18 rfl ?_
    refine V_iload_n (pc := 19) h 2 dX7_fillCell_19 rfl ?_
    refine V_iload_n (pc := 20) h 3 dX7_fillCell_20 rfl ?_
    refine V_iload_n (pc := 21) h 4 dX7_fillCell_21 rfl ?_
    refine V_cvV (pc := 22) h (n := 4) (bytes := cX4_setCell) (maxL := 5) (As := [.int x0, .int x1, .int x2, .int x3]) (rest := []) gX7_fillCell_X4_setCell (by decide +kernel) rfl rfl rfl rfl ⟨rfl, rfl⟩ ⟨Nat.le_of_ble_eq_true rfl, Nat.le_of_ble_eq_true rfl⟩ [3, 4] rfl (by decide) rfl (fun r22 => [(h4, .inr (6, [.ref h4_data, .ref h4_fresh, .int v4_size])), (h4_data, .inl (cI, 56, .inl v4_data)), (h4_fresh, .inl (cI, 7, .inl v4_fresh)), (h5, .inr (4, [.ref h5_data])), (h5_data, .inl (cI, 124, .inl r22))]) (fun _ => rfl) (fun _ => rfl) rfl (Nat.le_of_ble_eq_true rfl) dX7_fillCell_22 hF (fun r22 hG => k_X4_setCell l D cI cZ h5 h5_data v5_data x0 x1 x2 x3 hG) (fun r22 hF => ?_)
    refine V_iload (pc := 25) h 0 dX7_fillCell_25 rfl ?_
    refine V_iconst (pc := 27) h (v := (3 : Int32)) dX7_fillCell_27 (by decide) ?_
    refine V_icmp_ne (pc := 28) h (tgt := 55) dX7_fillCell_28 (by decide) hF (fun hF => ?_) (fun hF => ?_)
    · refine V_iconst (pc := 55) h (v := (0 : Int32)) dX7_fillCell_55 (by decide) ?_
      have hF := Option.some.inj hF
      subst hF
      exact V_iret (pc := 56) h dX7_fillCell_56
    · refine V_aload (pc := 31) h 6 dX7_fillCell_31 rfl ?_
      refine V_iload_n (pc := 33) h 1 dX7_fillCell_33 rfl ?_
      refine V_iload_n (pc := 34) h 3 dX7_fillCell_34 rfl ?_
      refine V_aload (pc := 35) h 5 dX7_fillCell_35 rfl ?_
      refine V_iload_n (pc := 37) h 1 dX7_fillCell_37 rfl ?_
      refine V_ciV (pc := 38) h (n := 1) (bytes := cX6_columnsOf) (maxL := 3) (As := [.int x0]) (rest := [.int x2, .int x0, .ref h5]) gX7_fillCell_X6_columnsOf (by decide +kernel) rfl rfl rfl rfl ⟨rfl, rfl⟩ ⟨Nat.le_of_ble_eq_true rfl, Nat.le_of_ble_eq_true rfl⟩ [0, 1, 2] rfl (by decide) rfl (fun r38 => [(h4, .inr (6, [.ref h4_data, .ref h4_fresh, .int v4_size])), (h4_data, .inl (cI, 56, .inl v4_data)), (h4_fresh, .inl (cI, 7, .inl v4_fresh)), (h5, .inr (4, [.ref h5_data])), (h5_data, .inl (cI, 124, .inl r22))]) (fun _ => rfl) (fun _ => rfl) rfl (Nat.le_of_ble_eq_true rfl) dX7_fillCell_38 hF (fun r38 hG => k_X6_columnsOf l D cI cZ h4 h4_data h4_fresh v4_size v4_data v4_fresh x0 hG) (fun r38 hF => ?_)
      refine V_ciV (pc := 41) h (n := 3) (bytes := cX4_unfilled) (maxL := 6) (As := [.int x0, .int x2, .int r38]) (rest := []) gX7_fillCell_X4_unfilled (by decide +kernel) rfl rfl rfl rfl ⟨rfl, rfl⟩ ⟨Nat.le_of_ble_eq_true rfl, Nat.le_of_ble_eq_true rfl⟩ [3, 4] rfl (by decide) rfl (fun r41 => [(h4, .inr (6, [.ref h4_data, .ref h4_fresh, .int v4_size])), (h4_data, .inl (cI, 56, .inl v4_data)), (h4_fresh, .inl (cI, 7, .inl v4_fresh)), (h5, .inr (4, [.ref h5_data])), (h5_data, .inl (cI, 124, .inl r22))]) (fun _ => rfl) (fun _ => rfl) rfl (Nat.le_of_ble_eq_true rfl) dX7_fillCell_41 hF (fun r41 hG => k_X4_unfilled l D cI cZ h5 h5_data r22 x0 x2 r38 hG) (fun r41 hF => ?_)
      refine V_if_ne (pc := 44) h (tgt := 55) dX7_fillCell_44 (by decide) hF (fun hF => ?_) (fun hF => ?_)
      · refine V_iconst (pc := 55) h (v := (0 : Int32)) dX7_fillCell_55 (by decide) ?_
        have hF := Option.some.inj hF
        subst hF
        exact V_iret (pc := 56) h dX7_fillCell_56
      · refine V_aload (pc := 47) h 6 dX7_fillCell_47 rfl ?_
        refine V_iload_n (pc := 49) h 1 dX7_fillCell_49 rfl ?_
        refine V_iload_n (pc := 50) h 3 dX7_fillCell_50 rfl ?_
        refine V_iconst (pc := 51) h (v := (2 : Int32)) dX7_fillCell_51 (by decide) ?_
        refine V_cvV (pc := 52) h (n := 3) (bytes := cX4_setStatus) (maxL := 4) (As := [.int x0, .int x2, .int (2 : Int32)]) (rest := []) gX7_fillCell_X4_setStatus (by decide +kernel) rfl rfl rfl rfl ⟨rfl, rfl⟩ ⟨Nat.le_of_ble_eq_true rfl, Nat.le_of_ble_eq_true rfl⟩ [3, 4] rfl (by decide) rfl (fun r52 => [(h4, .inr (6, [.ref h4_data, .ref h4_fresh, .int v4_size])), (h4_data, .inl (cI, 56, .inl v4_data)), (h4_fresh, .inl (cI, 7, .inl v4_fresh)), (h5, .inr (4, [.ref h5_data])), (h5_data, .inl (cI, 124, .inl r52))]) (fun _ => rfl) (fun _ => rfl) rfl (Nat.le_of_ble_eq_true rfl) dX7_fillCell_52 hF (fun r52 hG => k_X4_setStatus l D cI cZ h5 h5_data r22 x0 x2 (2 : Int32) hG) (fun r52 hF => ?_)
        refine V_iconst (pc := 55) h (v := (0 : Int32)) dX7_fillCell_55 (by decide) ?_
        have hF := Option.some.inj hF
        subst hF
        exact V_iret (pc := 56) h dX7_fillCell_56
  · refine V_iconst (pc := 14) h (v := (4 : Int32)) dX7_fillCell_14 (by decide) ?_
    have hF := Option.some.inj hF
    subst hF
    exact V_iret (pc := 15) h dX7_fillCell_15
set_option maxRecDepth 100000 in
theorem k_X7_fillCell (l : Launch) (D : va_G) (cI cZ : ClassId) (h4 h4_data h4_fresh h5 h5_data : Nat) (v4_size : Int32) (v4_data : (Nat → Int32)) (v4_fresh : (Nat → Int32)) (v5_data : (Nat → Int32)) (x0 : Int32) (x1 : Int32) (x2 : Int32) (x3 : Int32) {o : Int32 × (Nat → Int32)} (hF : fX7_fillCell v4_size v4_data x0 x1 x2 x3 v5_data = some o) : CI l yX7_fillCell wsX7_fillCell rmX7_fillCell D cI cZ [.int x0, .int x1, .int x2, .int x3, .ref h4, .ref h5] [(h4, .inr (6, [.ref h4_data, .ref h4_fresh, .int v4_size])), (h4_data, .inl (cI, 56, .inl v4_data)), (h4_fresh, .inl (cI, 7, .inl v4_fresh)), (h5, .inr (4, [.ref h5_data])), (h5_data, .inl (cI, 124, .inl v5_data))] [(h4, .inr (6, [.ref h4_data, .ref h4_fresh, .int v4_size])), (h4_data, .inl (cI, 56, .inl v4_data)), (h4_fresh, .inl (cI, 7, .inl v4_fresh)), (h5, .inr (4, [.ref h5_data])), (h5_data, .inl (cI, 124, .inl o.2))] o.1 :=
  CI_of (cc := cX7_fillCell) (nL := 7) (ret := (some .int)) (by decide) rfl (Nat.le_of_ble_eq_true rfl) rfl (fun p e s m args below meth c A h => tfX7_fillCell h hF)
/-! X7_doOrder -/
abbrev rmX7_doOrder : Room := { frames := 4, cells := 0, slots := 0, locals := 96 }
theorem uX7_doOrder_nitX8 : Cond.initialized RX8 ∈ wsX7_doOrder := by decide +kernel
theorem uX7_doOrder_staX8_numberOf : Cond.static yX8_numberOf ∈ wsX7_doOrder := by decide +kernel
noncomputable def fX7_doOrder (v2_names : (Nat → Int32)) (v2_values : (Nat → Int32)) (v3_size : Int32) (v3_data : (Nat → Int32)) (x1 : Int32) (v0_makers : (Nat → Int32)) (v4_data : (Nat → Int32)) : Option (Int32 × (Nat → Int32) × (Nat → Int32)) :=
  bd (fX1_name v2_names x1) (fun r2 => bd (fX1_value v2_values x1) (fun r9 => bd (fX6_branchOf v3_size v3_data r2) (fun r17 => if r17 = (-9 : Int32) then some (((1 : Int32), v0_makers, v4_data)) else bd (fX7_mayHaveLeaf v3_data r17 r2) (fun r34 => if r34 = (0 : Int32) then some (((1 : Int32), v0_makers, v4_data)) else bd (fX6_field v3_data r17 (0 : Int32)) (fun r46 => if r46 = (0 : Int32) then bd (fX7_setSingle v3_data r17 r9 v4_data) (fun r83 => some (r83.1, v0_makers, r83.2)) else if r46 = (1 : Int32) then some (((2 : Int32), v0_makers, v4_data)) else bd (fX6_tablesAhead v3_size v3_data r17) (fun r92 => bd (fX8_numberOf r2 (2 : Int32)) (fun r100 => bd (fX8_numberOf r2 (3 : Int32)) (fun r108 => if r100 = (0 : Int32) then bd (fX7_setStatus r92 r108 r9 x1 v0_makers v4_data) (fun r128 => some (r128.1, r128.2.1, r128.2.2)) else bd (fX7_fillCell v3_size v3_data r92 r100 r108 r9 v4_data) (fun r145 => some (r145.1, v0_makers, r145.2))))))))))
set_option maxRecDepth 100000 in
set_option maxHeartbeats 4000000 in
theorem tfX7_doOrder {p : Program} {l : Launch} {e : Env} {s : State} {m : MethodId} {args : Array Value} {below : List Frame} {meth : Method} {c : Code} {A : Nat → Prop} {D : va_G} {cI cZ : ClassId} (h : Cx p s m args meth c A D cI cZ 11 cX7_doOrder RX7 wsX7_doOrder (some .int)) {h0 h0_makers h2 h2_names h2_values h3 h3_data h3_fresh h4 h4_data : Nat} {x1 : Int32} {v2_size : Int32} {v2_names : (Nat → Int32)} {v2_values : (Nat → Int32)} {v3_size : Int32} {v3_data : (Nat → Int32)} {v3_fresh : (Nat → Int32)} {v0_makers : (Nat → Int32)} {v4_data : (Nat → Int32)} {o : Int32 × (Nat → Int32) × (Nat → Int32)} (hF : fX7_doOrder v2_names v2_values v3_size v3_data x1 v0_makers v4_data = some o) : V p l e rmX7_doOrder s m args below meth c A D 11 (QI D [(h0, .inr (7, [.ref h0_makers])), (h0_makers, .inl (cI, 18, .inl o.2.1)), (h2, .inr (1, [.ref h2_names, .ref h2_values, .int v2_size])), (h2_names, .inl (cI, 8, .inl v2_names)), (h2_values, .inl (cI, 8, .inl v2_values)), (h3, .inr (6, [.ref h3_data, .ref h3_fresh, .int v3_size])), (h3_data, .inl (cI, 56, .inl v3_data)), (h3_fresh, .inl (cI, 7, .inl v3_fresh)), (h4, .inr (4, [.ref h4_data])), (h4_data, .inl (cI, 124, .inl o.2.2))] o.1 A below args s) [(h0, .inr (7, [.ref h0_makers])), (h0_makers, .inl (cI, 18, .inl v0_makers)), (h2, .inr (1, [.ref h2_names, .ref h2_values, .int v2_size])), (h2_names, .inl (cI, 8, .inl v2_names)), (h2_values, .inl (cI, 8, .inl v2_values)), (h3, .inr (6, [.ref h3_data, .ref h3_fresh, .int v3_size])), (h3_data, .inl (cI, 56, .inl v3_data)), (h3_fresh, .inl (cI, 7, .inl v3_fresh)), (h4, .inr (4, [.ref h4_data])), (h4_data, .inl (cI, 124, .inl v4_data))] 0 [(0, .ref h0), (1, .int x1), (2, .ref h2), (3, .ref h3), (4, .ref h4)] [] := by
  unfold fX7_doOrder at hF
  refine V_aload_n (pc := 0) h 2 dX7_doOrder_0 rfl ?_
  refine V_iload_n (pc := 1) h 1 dX7_doOrder_1 rfl ?_
  refine V_ciV (pc := 2) h (n := 1) (bytes := cX1_name) (maxL := 2) (As := [.int x1]) (rest := []) gX7_doOrder_X1_name (by decide +kernel) rfl rfl rfl rfl ⟨rfl, rfl⟩ ⟨Nat.le_of_ble_eq_true rfl, Nat.le_of_ble_eq_true rfl⟩ [2, 3, 4] rfl (by decide) rfl (fun r2 => [(h0, .inr (7, [.ref h0_makers])), (h0_makers, .inl (cI, 18, .inl v0_makers)), (h2, .inr (1, [.ref h2_names, .ref h2_values, .int v2_size])), (h2_names, .inl (cI, 8, .inl v2_names)), (h2_values, .inl (cI, 8, .inl v2_values)), (h3, .inr (6, [.ref h3_data, .ref h3_fresh, .int v3_size])), (h3_data, .inl (cI, 56, .inl v3_data)), (h3_fresh, .inl (cI, 7, .inl v3_fresh)), (h4, .inr (4, [.ref h4_data])), (h4_data, .inl (cI, 124, .inl v4_data))]) (fun _ => rfl) (fun _ => rfl) rfl (Nat.le_of_ble_eq_true rfl) dX7_doOrder_2 hF (fun r2 hG => k_X1_name l D cI cZ h2 h2_names h2_values v2_size v2_names v2_values x1 hG) (fun r2 hF => ?_)
  refine V_istore (pc := 5) h [(5, .int r2), (0, .ref h0), (1, .int x1), (2, .ref h2), (3, .ref h3), (4, .ref h4)] dX7_doOrder_5 (by decide) rfl ?_
  refine V_aload_n (pc := 7) h 3 dX7_doOrder_7 rfl ?_
  refine V_iload_n (pc := 8) h 2 dX7_doOrder_8 rfl ?_
  refine V_ciV (pc := 9) h (n := 1) (bytes := cX1_value) (maxL := 2) (As := [.int x1]) (rest := []) gX7_doOrder_X1_value (by decide +kernel) rfl rfl rfl rfl ⟨rfl, rfl⟩ ⟨Nat.le_of_ble_eq_true rfl, Nat.le_of_ble_eq_true rfl⟩ [2, 3, 4] rfl (by decide) rfl (fun r9 => [(h0, .inr (7, [.ref h0_makers])), (h0_makers, .inl (cI, 18, .inl v0_makers)), (h2, .inr (1, [.ref h2_names, .ref h2_values, .int v2_size])), (h2_names, .inl (cI, 8, .inl v2_names)), (h2_values, .inl (cI, 8, .inl v2_values)), (h3, .inr (6, [.ref h3_data, .ref h3_fresh, .int v3_size])), (h3_data, .inl (cI, 56, .inl v3_data)), (h3_fresh, .inl (cI, 7, .inl v3_fresh)), (h4, .inr (4, [.ref h4_data])), (h4_data, .inl (cI, 124, .inl v4_data))]) (fun _ => rfl) (fun _ => rfl) rfl (Nat.le_of_ble_eq_true rfl) dX7_doOrder_9 hF (fun r9 hG => k_X1_value l D cI cZ h2 h2_names h2_values v2_size v2_names v2_values x1 hG) (fun r9 hF => ?_)
  refine V_istore (pc := 12) h [(6, .int r9), (5, .int r2), (0, .ref h0), (1, .int x1), (2, .ref h2), (3, .ref h3), (4, .ref h4)] dX7_doOrder_12 (by decide) rfl ?_
  refine V_aload_n (pc := 14) h 5 dX7_doOrder_14 rfl ?_
  refine V_iload (pc := 15) h 1 dX7_doOrder_15 rfl ?_
  refine V_ciV (pc := 17) h (n := 1) (bytes := cX6_branchOf) (maxL := 4) (As := [.int r2]) (rest := []) gX7_doOrder_X6_branchOf (by decide +kernel) rfl rfl rfl rfl ⟨rfl, rfl⟩ ⟨Nat.le_of_ble_eq_true rfl, Nat.le_of_ble_eq_true rfl⟩ [5, 6, 7] rfl (by decide) rfl (fun r17 => [(h0, .inr (7, [.ref h0_makers])), (h0_makers, .inl (cI, 18, .inl v0_makers)), (h2, .inr (1, [.ref h2_names, .ref h2_values, .int v2_size])), (h2_names, .inl (cI, 8, .inl v2_names)), (h2_values, .inl (cI, 8, .inl v2_values)), (h3, .inr (6, [.ref h3_data, .ref h3_fresh, .int v3_size])), (h3_data, .inl (cI, 56, .inl v3_data)), (h3_fresh, .inl (cI, 7, .inl v3_fresh)), (h4, .inr (4, [.ref h4_data])), (h4_data, .inl (cI, 124, .inl v4_data))]) (fun _ => rfl) (fun _ => rfl) rfl (Nat.le_of_ble_eq_true rfl) dX7_doOrder_17 hF (fun r17 hG => k_X6_branchOf l D cI cZ h3 h3_data h3_fresh v3_size v3_data v3_fresh r2 hG) (fun r17 hF => ?_)
  refine V_istore (pc := 20) h [(7, .int r17), (6, .int r9), (5, .int r2), (0, .ref h0), (1, .int x1), (2, .ref h2), (3, .ref h3), (4, .ref h4)] dX7_doOrder_20 (by decide) rfl ?_
  refine V_iload (pc := 22) h 0 dX7_doOrder_22 rfl ?_
  refine V_bipush (pc := 24) h (v := (-9 : Int32)) dX7_doOrder_24 (by decide) ?_
  refine V_icmp_eq (pc := 26) h (tgt := 40) dX7_doOrder_26 (by decide) hF (fun hF => ?_) (fun hF => ?_)
  · refine V_iconst (pc := 40) h (v := (1 : Int32)) dX7_doOrder_40 (by decide) ?_
    have hF := Option.some.inj hF
    subst hF
    exact V_iret (pc := 41) h dX7_doOrder_41
  · refine V_aload_n (pc := 29) h 6 dX7_doOrder_29 rfl ?_
    refine V_iload (pc := 30) h 0 dX7_doOrder_30 rfl ?_
    refine V_iload (pc := 32) h 2 dX7_doOrder_32 rfl ?_
    refine V_ciS (pc := 34) h (n := 3) (bytes := cX7_mayHaveLeaf) (maxL := 5) (As := [.ref h3, .int r17, .int r2]) (rest := []) gX7_doOrder_X7_mayHaveLeaf (by decide +kernel) rfl ⟨rfl, rfl⟩ ⟨Nat.le_of_ble_eq_true rfl, Nat.le_of_ble_eq_true rfl⟩ [5, 6, 7] rfl (by decide) rfl (fun r34 => [(h0, .inr (7, [.ref h0_makers])), (h0_makers, .inl (cI, 18, .inl v0_makers)), (h2, .inr (1, [.ref h2_names, .ref h2_values, .int v2_size])), (h2_names, .inl (cI, 8, .inl v2_names)), (h2_values, .inl (cI, 8, .inl v2_values)), (h3, .inr (6, [.ref h3_data, .ref h3_fresh, .int v3_size])), (h3_data, .inl (cI, 56, .inl v3_data)), (h3_fresh, .inl (cI, 7, .inl v3_fresh)), (h4, .inr (4, [.ref h4_data])), (h4_data, .inl (cI, 124, .inl v4_data))]) (fun _ => rfl) (fun _ => rfl) rfl (Nat.le_of_ble_eq_true rfl) dX7_doOrder_34 hF (fun r34 hG => k_X7_mayHaveLeaf l D cI cZ h3 h3_data h3_fresh v3_size v3_data v3_fresh r17 r2 hG) (fun r34 hF => ?_)
    refine V_if_ne (pc := 37) h (tgt := 42) dX7_doOrder_37 (by decide) hF (fun hF => ?_) (fun hF => ?_)
    · refine V_aload_n (pc := 42) h 6 dX7_doOrder_42 rfl ?_
      refine V_iload (pc := 43) h 0 dX7_doOrder_43 rfl ?_
      refine V_iconst (pc := 45) h (v := (0 : Int32)) dX7_doOrder_45 (by decide) ?_
      refine V_ciV (pc := 46) h (n := 2) (bytes := cX6_field) (maxL := 4) (As := [.int r17, .int (0 : Int32)]) (rest := []) gX7_doOrder_X6_field (by decide +kernel) rfl rfl rfl rfl ⟨rfl, rfl⟩ ⟨Nat.le_of_ble_eq_true rfl, Nat.le_of_ble_eq_true rfl⟩ [5, 6, 7] rfl (by decide) rfl (fun r46 => [(h0, .inr (7, [.ref h0_makers])), (h0_makers, .inl (cI, 18, .inl v0_makers)), (h2, .inr (1, [.ref h2_names, .ref h2_values, .int v2_size])), (h2_names, .inl (cI, 8, .inl v2_names)), (h2_values, .inl (cI, 8, .inl v2_values)), (h3, .inr (6, [.ref h3_data, .ref h3_fresh, .int v3_size])), (h3_data, .inl (cI, 56, .inl v3_data)), (h3_fresh, .inl (cI, 7, .inl v3_fresh)), (h4, .inr (4, [.ref h4_data])), (h4_data, .inl (cI, 124, .inl v4_data))]) (fun _ => rfl) (fun _ => rfl) rfl (Nat.le_of_ble_eq_true rfl) dX7_doOrder_46 hF (fun r46 hG => k_X6_field l D cI cZ h3 h3_data h3_fresh v3_size v3_data v3_fresh r17 (0 : Int32) hG) (fun r46 hF => ?_)
      refine V_ite hF (fun hc49_0 hF => ?_) (fun hc49_0 hF => ?_)
      · refine V_lookup (pc := 49) h (tgt := 76) (off := 27) dX7_doOrder_49 (by decide) (by rw [hc49_0] <;> decide) (by decide) ?_
        refine V_iload (pc := 76) h 0 dX7_doOrder_76 rfl ?_
        refine V_iload (pc := 78) h 1 dX7_doOrder_78 rfl ?_
        refine V_aload_n (pc := 80) h 6 dX7_doOrder_80 rfl ?_
        refine V_aload (pc := 81) h 7 dX7_doOrder_81 rfl ?_
        refine V_ciS (pc := 83) h (n := 4) (bytes := cX7_setSingle) (maxL := 4) (As := [.int r17, .int r9, .ref h3, .ref h4]) (rest := []) gX7_doOrder_X7_setSingle (by decide +kernel) rfl ⟨rfl, rfl⟩ ⟨Nat.le_of_ble_eq_true rfl, Nat.le_of_ble_eq_true rfl⟩ [5, 6, 7, 8, 9] rfl (by decide) rfl (fun r83 => [(h0, .inr (7, [.ref h0_makers])), (h0_makers, .inl (cI, 18, .inl v0_makers)), (h2, .inr (1, [.ref h2_names, .ref h2_values, .int v2_size])), (h2_names, .inl (cI, 8, .inl v2_names)), (h2_values, .inl (cI, 8, .inl v2_values)), (h3, .inr (6, [.ref h3_data, .ref h3_fresh, .int v3_size])), (h3_data, .inl (cI, 56, .inl v3_data)), (h3_fresh, .inl (cI, 7, .inl v3_fresh)), (h4, .inr (4, [.ref h4_data])), (h4_data, .inl (cI, 124, .inl r83.2))]) (fun _ => rfl) (fun _ => rfl) rfl (Nat.le_of_ble_eq_true rfl) dX7_doOrder_83 hF (fun r83 hG => k_X7_setSingle l D cI cZ h3 h3_data h3_fresh h4 h4_data v3_size v3_data v3_fresh v4_data r17 r9 hG) (fun r83 hF => ?_)
        have hF := Option.some.inj hF
        subst hF
        exact V_iret (pc := 86) h dX7_doOrder_86
      · refine V_ite hF (fun hc49_1 hF => ?_) (fun hc49_1 hF => ?_)
        · refine V_lookup (pc := 49) h (tgt := 87) (off := 38) dX7_doOrder_49 (by decide) (by rw [hc49_1] <;> decide) (by decide) ?_
          refine V_iconst (pc := 87) h (v := (2 : Int32)) dX7_doOrder_87 (by decide) ?_
          have hF := Option.some.inj hF
          subst hF
          exact V_iret (pc := 88) h dX7_doOrder_88
        · refine V_lookup (pc := 49) h (tgt := 89) (off := 40) dX7_doOrder_49 (by decide) ((lv_osw hc49_0 (by decide)).trans ((lv_osw hc49_1 (by decide)).trans (rfl))) (by decide) ?_
          refine V_aload_n (pc := 89) h 6 dX7_doOrder_89 rfl ?_
          refine V_iload (pc := 90) h 0 dX7_doOrder_90 rfl ?_
          refine V_ciV (pc := 92) h (n := 1) (bytes := cX6_tablesAhead) (maxL := 4) (As := [.int r17]) (rest := []) gX7_doOrder_X6_tablesAhead (by decide +kernel) rfl rfl rfl rfl ⟨rfl, rfl⟩ ⟨Nat.le_of_ble_eq_true rfl, Nat.le_of_ble_eq_true rfl⟩ [5, 6, 7] rfl (by decide) rfl (fun r92 => [(h0, .inr (7, [.ref h0_makers])), (h0_makers, .inl (cI, 18, .inl v0_makers)), (h2, .inr (1, [.ref h2_names, .ref h2_values, .int v2_size])), (h2_names, .inl (cI, 8, .inl v2_names)), (h2_values, .inl (cI, 8, .inl v2_values)), (h3, .inr (6, [.ref h3_data, .ref h3_fresh, .int v3_size])), (h3_data, .inl (cI, 56, .inl v3_data)), (h3_fresh, .inl (cI, 7, .inl v3_fresh)), (h4, .inr (4, [.ref h4_data])), (h4_data, .inl (cI, 124, .inl v4_data))]) (fun _ => rfl) (fun _ => rfl) rfl (Nat.le_of_ble_eq_true rfl) dX7_doOrder_92 hF (fun r92 hG => k_X6_tablesAhead l D cI cZ h3 h3_data h3_fresh v3_size v3_data v3_fresh r17 hG) (fun r92 hF => ?_)
          refine V_istore (pc := 95) h [(8, .int r92), (7, .int r17), (6, .int r9), (5, .int r2), (0, .ref h0), (1, .int x1), (2, .ref h2), (3, .ref h3), (4, .ref h4)] dX7_doOrder_95 (by decide) rfl ?_
          refine V_iload (pc := 97) h 3 dX7_doOrder_97 rfl ?_
          refine V_iconst (pc := 99) h (v := (2 : Int32)) dX7_doOrder_99 (by decide) ?_
          refine V_ciSN (pc := 100) h (n := 2) (bytes := cX8_numberOf) (maxL := 2) (As := [.int r2, .int (2 : Int32)]) (rest := []) ggX7_doOrder_X8_numberOf h.2.2.2.1.2.2.2.1 uX7_doOrder_nitX8 uX7_doOrder_staX8_numberOf (by decide +kernel) rfl ⟨rfl, rfl⟩ ⟨Nat.le_of_ble_eq_true rfl, Nat.le_of_ble_eq_true rfl⟩ [] rfl (by decide) rfl (fun r100 => [(h0, .inr (7, [.ref h0_makers])), (h0_makers, .inl (cI, 18, .inl v0_makers)), (h2, .inr (1, [.ref h2_names, .ref h2_values, .int v2_size])), (h2_names, .inl (cI, 8, .inl v2_names)), (h2_values, .inl (cI, 8, .inl v2_values)), (h3, .inr (6, [.ref h3_data, .ref h3_fresh, .int v3_size])), (h3_data, .inl (cI, 56, .inl v3_data)), (h3_fresh, .inl (cI, 7, .inl v3_fresh)), (h4, .inr (4, [.ref h4_data])), (h4_data, .inl (cI, 124, .inl v4_data))]) (fun _ => rfl) (fun _ => rfl) rfl (Nat.le_of_ble_eq_true rfl) dX7_doOrder_100 hF (fun r100 hG => k_X8_numberOf l D cI cZ r2 (2 : Int32) hG) (fun r100 hF => ?_)
          refine V_istore (pc := 103) h [(9, .int r100), (8, .int r92), (7, .int r17), (6, .int r9), (5, .int r2), (0, .ref h0), (1, .int x1), (2, .ref h2), (3, .ref h3), (4, .ref h4)] dX7_doOrder_103 (by decide) rfl ?_
          refine V_iload (pc := 105) h 4 dX7_doOrder_105 rfl ?_
          refine V_iconst (pc := 107) h (v := (3 : Int32)) dX7_doOrder_107 (by decide) ?_
          refine V_ciSN (pc := 108) h (n := 2) (bytes := cX8_numberOf) (maxL := 2) (As := [.int r2, .int (3 : Int32)]) (rest := []) ggX7_doOrder_X8_numberOf h.2.2.2.1.2.2.2.1 uX7_doOrder_nitX8 uX7_doOrder_staX8_numberOf (by decide +kernel) rfl ⟨rfl, rfl⟩ ⟨Nat.le_of_ble_eq_true rfl, Nat.le_of_ble_eq_true rfl⟩ [] rfl (by decide) rfl (fun r108 => [(h0, .inr (7, [.ref h0_makers])), (h0_makers, .inl (cI, 18, .inl v0_makers)), (h2, .inr (1, [.ref h2_names, .ref h2_values, .int v2_size])), (h2_names, .inl (cI, 8, .inl v2_names)), (h2_values, .inl (cI, 8, .inl v2_values)), (h3, .inr (6, [.ref h3_data, .ref h3_fresh, .int v3_size])), (h3_data, .inl (cI, 56, .inl v3_data)), (h3_fresh, .inl (cI, 7, .inl v3_fresh)), (h4, .inr (4, [.ref h4_data])), (h4_data, .inl (cI, 124, .inl v4_data))]) (fun _ => rfl) (fun _ => rfl) rfl (Nat.le_of_ble_eq_true rfl) dX7_doOrder_108 hF (fun r108 hG => k_X8_numberOf l D cI cZ r2 (3 : Int32) hG) (fun r108 hF => ?_)
          refine V_istore (pc := 111) h [(10, .int r108), (9, .int r100), (8, .int r92), (7, .int r17), (6, .int r9), (5, .int r2), (0, .ref h0), (1, .int x1), (2, .ref h2), (3, .ref h3), (4, .ref h4)] dX7_doOrder_111 (by decide) rfl ?_
          refine V_iload (pc := 113) h 1 dX7_doOrder_113 rfl ?_
          refine V_if_ne (pc := 115) h (tgt := 134) dX7_doOrder_115 (by decide) hF (fun hF => ?_) (fun hF => ?_)
          · refine V_iload (pc := 134) h 2 dX7_doOrder_134 rfl ?_
            refine V_iload (pc := 136) h 1 dX7_doOrder_136 rfl ?_
            refine V_iload (pc := 138) h 0 dX7_doOrder_138 rfl ?_
            refine V_iload (pc := 140) h 4 dX7_doOrder_140 rfl ?_
            refine V_aload_n (pc := 142) h 9 dX7_doOrder_142 rfl ?_
            refine V_aload (pc := 143) h 10 dX7_doOrder_143 rfl ?_
            refine V_ciS (pc := 145) h (n := 6) (bytes := cX7_fillCell) (maxL := 7) (As := [.int r92, .int r100, .int r108, .int r9, .ref h3, .ref h4]) (rest := []) gX7_doOrder_X7_fillCell (by decide +kernel) rfl ⟨rfl, rfl⟩ ⟨Nat.le_of_ble_eq_true rfl, Nat.le_of_ble_eq_true rfl⟩ [5, 6, 7, 8, 9] rfl (by decide) rfl (fun r145 => [(h0, .inr (7, [.ref h0_makers])), (h0_makers, .inl (cI, 18, .inl v0_makers)), (h2, .inr (1, [.ref h2_names, .ref h2_values, .int v2_size])), (h2_names, .inl (cI, 8, .inl v2_names)), (h2_values, .inl (cI, 8, .inl v2_values)), (h3, .inr (6, [.ref h3_data, .ref h3_fresh, .int v3_size])), (h3_data, .inl (cI, 56, .inl v3_data)), (h3_fresh, .inl (cI, 7, .inl v3_fresh)), (h4, .inr (4, [.ref h4_data])), (h4_data, .inl (cI, 124, .inl r145.2))]) (fun _ => rfl) (fun _ => rfl) rfl (Nat.le_of_ble_eq_true rfl) dX7_doOrder_145 hF (fun r145 hG => k_X7_fillCell l D cI cZ h3 h3_data h3_fresh h4 h4_data v3_size v3_data v3_fresh v4_data r92 r100 r108 r9 hG) (fun r145 hF => ?_)
            have hF := Option.some.inj hF
            subst hF
            exact V_iret (pc := 148) h dX7_doOrder_148
          · refine V_aload_n (pc := 118) h 6 dX7_doOrder_118 rfl ?_
            refine V_iload (pc := 119) h 2 dX7_doOrder_119 rfl ?_
            refine V_iload (pc := 121) h 0 dX7_doOrder_121 rfl ?_
            refine V_iload (pc := 123) h 4 dX7_doOrder_123 rfl ?_
            refine V_iload_n (pc := 125) h 7 dX7_doOrder_125 rfl ?_
            refine V_aload (pc := 126) h 10 dX7_doOrder_126 rfl ?_
            refine V_ciV (pc := 128) h (n := 5) (bytes := cX7_setStatus) (maxL := 7) (As := [.int r92, .int r108, .int r9, .int x1, .ref h4]) (rest := []) gX7_doOrder_X7_setStatus (by decide +kernel) rfl rfl rfl rfl ⟨rfl, rfl⟩ ⟨Nat.le_of_ble_eq_true rfl, Nat.le_of_ble_eq_true rfl⟩ [0, 1, 8, 9] rfl (by decide) rfl (fun r128 => [(h0, .inr (7, [.ref h0_makers])), (h0_makers, .inl (cI, 18, .inl r128.2.1)), (h2, .inr (1, [.ref h2_names, .ref h2_values, .int v2_size])), (h2_names, .inl (cI, 8, .inl v2_names)), (h2_values, .inl (cI, 8, .inl v2_values)), (h3, .inr (6, [.ref h3_data, .ref h3_fresh, .int v3_size])), (h3_data, .inl (cI, 56, .inl v3_data)), (h3_fresh, .inl (cI, 7, .inl v3_fresh)), (h4, .inr (4, [.ref h4_data])), (h4_data, .inl (cI, 124, .inl r128.2.2))]) (fun _ => rfl) (fun _ => rfl) rfl (Nat.le_of_ble_eq_true rfl) dX7_doOrder_128 hF (fun r128 hG => k_X7_setStatus l D cI cZ h0 h0_makers h4 h4_data v0_makers v4_data r92 r108 r9 x1 hG) (fun r128 hF => ?_)
            refine V_goto (pc := 131) h (tgt := 148) dX7_doOrder_131 (by decide) ?_
            have hF := Option.some.inj hF
            subst hF
            exact V_iret (pc := 148) h dX7_doOrder_148
    · refine V_iconst (pc := 40) h (v := (1 : Int32)) dX7_doOrder_40 (by decide) ?_
      have hF := Option.some.inj hF
      subst hF
      exact V_iret (pc := 41) h dX7_doOrder_41
set_option maxRecDepth 100000 in
theorem k_X7_doOrder (l : Launch) (D : va_G) (cI cZ : ClassId) (h0 h0_makers h2 h2_names h2_values h3 h3_data h3_fresh h4 h4_data : Nat) (v0_makers : (Nat → Int32)) (v2_size : Int32) (v2_names : (Nat → Int32)) (v2_values : (Nat → Int32)) (v3_size : Int32) (v3_data : (Nat → Int32)) (v3_fresh : (Nat → Int32)) (v4_data : (Nat → Int32)) (x1 : Int32) {o : Int32 × (Nat → Int32) × (Nat → Int32)} (hF : fX7_doOrder v2_names v2_values v3_size v3_data x1 v0_makers v4_data = some o) : CI l yX7_doOrder wsX7_doOrder rmX7_doOrder D cI cZ [.ref h0, .int x1, .ref h2, .ref h3, .ref h4] [(h0, .inr (7, [.ref h0_makers])), (h0_makers, .inl (cI, 18, .inl v0_makers)), (h2, .inr (1, [.ref h2_names, .ref h2_values, .int v2_size])), (h2_names, .inl (cI, 8, .inl v2_names)), (h2_values, .inl (cI, 8, .inl v2_values)), (h3, .inr (6, [.ref h3_data, .ref h3_fresh, .int v3_size])), (h3_data, .inl (cI, 56, .inl v3_data)), (h3_fresh, .inl (cI, 7, .inl v3_fresh)), (h4, .inr (4, [.ref h4_data])), (h4_data, .inl (cI, 124, .inl v4_data))] [(h0, .inr (7, [.ref h0_makers])), (h0_makers, .inl (cI, 18, .inl o.2.1)), (h2, .inr (1, [.ref h2_names, .ref h2_values, .int v2_size])), (h2_names, .inl (cI, 8, .inl v2_names)), (h2_values, .inl (cI, 8, .inl v2_values)), (h3, .inr (6, [.ref h3_data, .ref h3_fresh, .int v3_size])), (h3_data, .inl (cI, 56, .inl v3_data)), (h3_fresh, .inl (cI, 7, .inl v3_fresh)), (h4, .inr (4, [.ref h4_data])), (h4_data, .inl (cI, 124, .inl o.2.2))] o.1 :=
  CI_of (cc := cX7_doOrder) (nL := 11) (ret := (some .int)) (by decide) rfl (Nat.le_of_ble_eq_true rfl) rfl (fun p e s m args below meth c A h => tfX7_doOrder h hF)
/-! X7_makerOf -/
abbrev rmX7_makerOf : Room := { frames := 0, cells := 0, slots := 0, locals := 0 }
theorem uX7_makerOf_inX7 : ∀ w ∈ wsX70, w ∈ wsX7_makerOf := by decide +kernel
theorem uX7_makerOf_f11 : Cond.fieldLink RX7 11 "LeafAsks$Worker" "makers" "[I" ∈ wsX7_makerOf := by decide +kernel
noncomputable def fX7_makerOf (v0_makers : (Nat → Int32)) (x1 : Int32) (x2 : Int32) : Option (Int32) :=
  bnd (((x1 * (9 : Int32)) + x2) - (1 : Int32)) (fun x3_8 => if x3_8 < (0 : Int32) then some (8 : Int32) else if (18 : Int32) ≤ x3_8 then some (8 : Int32) else gin x3_8 18 (some (v0_makers x3_8.toNatClampNeg)))
set_option maxRecDepth 100000 in
set_option maxHeartbeats 4000000 in
theorem tfX7_makerOf {p : Program} {l : Launch} {e : Env} {s : State} {m : MethodId} {args : Array Value} {below : List Frame} {meth : Method} {c : Code} {A : Nat → Prop} {D : va_G} {cI cZ : ClassId} (h : Cx p s m args meth c A D cI cZ 4 cX7_makerOf RX7 wsX7_makerOf (some .int)) {h0 h0_makers : Nat} {x1 : Int32} {x2 : Int32} {v0_makers : (Nat → Int32)} {o : Int32} (hF : fX7_makerOf v0_makers x1 x2 = some o) : V p l e rmX7_makerOf s m args below meth c A D 4 (QI D [(h0, .inr (7, [.ref h0_makers])), (h0_makers, .inl (cI, 18, .inl v0_makers))] o A below args s) [(h0, .inr (7, [.ref h0_makers])), (h0_makers, .inl (cI, 18, .inl v0_makers))] 0 [(0, .ref h0), (1, .int x1), (2, .int x2)] [] := by
  unfold fX7_makerOf at hF
  refine V_iload_n (pc := 0) h 1 dX7_makerOf_0 rfl ?_
  refine V_bipush (pc := 1) h (v := (9 : Int32)) dX7_makerOf_1 (by decide) ?_
  refine V_imul (pc := 3) h dX7_makerOf_3 ?_
  refine V_iload_n (pc := 4) h 2 dX7_makerOf_4 rfl ?_
  refine V_iadd (pc := 5) h dX7_makerOf_5 ?_
  refine V_iconst (pc := 6) h (v := (1 : Int32)) dX7_makerOf_6 (by decide) ?_
  refine V_isub (pc := 7) h dX7_makerOf_7 ?_
  refine V_bnd hF (fun x3_8 hF => ?_)
  refine V_istore_n (pc := 8) h [(3, .int x3_8), (0, .ref h0), (1, .int x1), (2, .int x2)] dX7_makerOf_8 (by decide) rfl ?_
  refine V_iload_n (pc := 9) h 0 dX7_makerOf_9 rfl ?_
  refine V_if_lt (pc := 10) h (tgt := 31) dX7_makerOf_10 (by decide) hF (fun hF => ?_) (fun hF => ?_)
  · refine V_bipush (pc := 31) h (v := (8 : Int32)) dX7_makerOf_31 (by decide) ?_
    have hF := Option.some.inj hF
    subst hF
    exact V_iret (pc := 33) h dX7_makerOf_33
  · refine V_iload_n (pc := 13) h 0 dX7_makerOf_13 rfl ?_
    refine V_aload_n (pc := 14) h 1 dX7_makerOf_14 rfl ?_
    refine V_get (pc := 15) h uX7_makerOf_inX7 0 0 rfl rfl (by decide) uX7_makerOf_f11 rfl rfl dX7_makerOf_15 ?_
    refine V_alenI (pc := 18) h (v := (18 : Int32)) 1 rfl (by decide) dX7_makerOf_18 ?_
    refine V_icmp_ge (pc := 19) h (tgt := 31) dX7_makerOf_19 (by decide) hF (fun hF => ?_) (fun hF => ?_)
    · refine V_bipush (pc := 31) h (v := (8 : Int32)) dX7_makerOf_31 (by decide) ?_
      have hF := Option.some.inj hF
      subst hF
      exact V_iret (pc := 33) h dX7_makerOf_33
    · refine V_aload_n (pc := 22) h 1 dX7_makerOf_22 rfl ?_
      refine V_get (pc := 23) h uX7_makerOf_inX7 0 0 rfl rfl (by decide) uX7_makerOf_f11 rfl rfl dX7_makerOf_23 ?_
      refine V_iload_n (pc := 26) h 0 dX7_makerOf_26 rfl ?_
      refine V_iald (pc := 27) h 1 rfl dX7_makerOf_27 hF (fun hF => ?_)
      refine V_goto (pc := 28) h (tgt := 33) dX7_makerOf_28 (by decide) ?_
      have hF := Option.some.inj hF
      subst hF
      exact V_iret (pc := 33) h dX7_makerOf_33
set_option maxRecDepth 100000 in
theorem k_X7_makerOf (l : Launch) (D : va_G) (cI cZ : ClassId) (h0 h0_makers : Nat) (v0_makers : (Nat → Int32)) (x1 : Int32) (x2 : Int32) {o : Int32} (hF : fX7_makerOf v0_makers x1 x2 = some o) : CI l yX7_makerOf wsX7_makerOf rmX7_makerOf D cI cZ [.ref h0, .int x1, .int x2] [(h0, .inr (7, [.ref h0_makers])), (h0_makers, .inl (cI, 18, .inl v0_makers))] [(h0, .inr (7, [.ref h0_makers])), (h0_makers, .inl (cI, 18, .inl v0_makers))] o :=
  CI_of (cc := cX7_makerOf) (nL := 4) (ret := (some .int)) (by decide) rfl (Nat.le_of_ble_eq_true rfl) rfl (fun p e s m args below meth c A h => tfX7_makerOf h hF)
/-! X7_firstThatLeftUnfilled -/
abbrev rmX7_firstThatLeftUnfilled : Room := { frames := 3, cells := 0, slots := 0, locals := 70 }
theorem uX7_firstThatLeftUnfilled_mmin1 : Cond.methodLink RX7 105 Lib.Math.min.name ∈ wsX7_firstThatLeftUnfilled := by decide +kernel
theorem uX7_firstThatLeftUnfilled_mmin2 : Cond.static Lib.Math.min.name ∈ wsX7_firstThatLeftUnfilled := by decide +kernel
theorem uX7_firstThatLeftUnfilled_mmin3 : Cond.initialized "java/lang/Math" ∈ wsX7_firstThatLeftUnfilled := by decide +kernel
theorem uX7_firstThatLeftUnfilled_mmin4 : Cond.code Lib.Math.min.name Lib.Math.min.code 2 (some .int) ∈ wsX7_firstThatLeftUnfilled := by decide +kernel
noncomputable def fX7_firstThatLeftUnfilled_b23 (v0_makers : (Nat → Int32)) (v1_size : Int32) (v1_data : (Nat → Int32)) (v2_data : (Nat → Int32)) (k6 : Int32 → Int32 → Option (Int32)) (k23 : Int32 → Int32 → Int32 → Int32 → Option (Int32)) (x3 : Int32) (x4 : Int32) (x5 : Int32) (x6 : Int32) : Option (Int32) :=
  if (9 : Int32) < x6 then bnd (x4 + (1 : Int32)) (fun x4_74 => k6 x3 x4_74) else bd (fX4_statusOf v2_data x4 x6) (fun r35 => if r35 = (1 : Int32) then bd (fX4_unfilled v2_data x4 x6 x5) (fun r49 => if r49 ≤ (0 : Int32) then bnd (x6 + (1 : Int32)) (fun x6_68 => k23 x3 x4 x5 x6_68) else bd (fX7_makerOf v0_makers x4 x6) (fun r61 => bnd (jmin x3 r61) (fun x3_67 => bnd (x6 + (1 : Int32)) (fun x6_68 => k23 x3_67 x4 x5 x6_68)))) else bnd (x6 + (1 : Int32)) (fun x6_68 => k23 x3 x4 x5 x6_68))
set_option maxRecDepth 100000 in
set_option maxHeartbeats 4000000 in
theorem tfX7_firstThatLeftUnfilled_b23 {p : Program} {l : Launch} {e : Env} {s : State} {m : MethodId} {args : Array Value} {below : List Frame} {meth : Method} {c : Code} {A : Nat → Prop} {D : va_G} {cI cZ : ClassId} (h : Cx p s m args meth c A D cI cZ 7 cX7_firstThatLeftUnfilled RX7 wsX7_firstThatLeftUnfilled (some .int)) {h0 h0_makers h1 h1_data h1_fresh h2 h2_data : Nat} {v0_makers : (Nat → Int32)} {v1_size : Int32} {v1_data : (Nat → Int32)} {v1_fresh : (Nat → Int32)} {v2_data : (Nat → Int32)} {k6 : Int32 → Int32 → Option (Int32)} {k23 : Int32 → Int32 → Int32 → Int32 → Option (Int32)} {x3 : Int32} {x4 : Int32} {x5 : Int32} {x6 : Int32} {o : Int32} (hk6 : ∀ (x3 : Int32) (x4 : Int32), k6 x3 x4 = some o → V p l e rmX7_firstThatLeftUnfilled s m args below meth c A D 7 (QI D [(h0, .inr (7, [.ref h0_makers])), (h0_makers, .inl (cI, 18, .inl v0_makers)), (h1, .inr (6, [.ref h1_data, .ref h1_fresh, .int v1_size])), (h1_data, .inl (cI, 56, .inl v1_data)), (h1_fresh, .inl (cI, 7, .inl v1_fresh)), (h2, .inr (4, [.ref h2_data])), (h2_data, .inl (cI, 124, .inl v2_data))] o A below args s) [(h0, .inr (7, [.ref h0_makers])), (h0_makers, .inl (cI, 18, .inl v0_makers)), (h1, .inr (6, [.ref h1_data, .ref h1_fresh, .int v1_size])), (h1_data, .inl (cI, 56, .inl v1_data)), (h1_fresh, .inl (cI, 7, .inl v1_fresh)), (h2, .inr (4, [.ref h2_data])), (h2_data, .inl (cI, 124, .inl v2_data))] 6 [(0, .ref h0), (1, .ref h1), (2, .ref h2), (3, .int x3), (4, .int x4)] []) (hk23 : ∀ (x3 : Int32) (x4 : Int32) (x5 : Int32) (x6 : Int32), k23 x3 x4 x5 x6 = some o → V p l e rmX7_firstThatLeftUnfilled s m args below meth c A D 7 (QI D [(h0, .inr (7, [.ref h0_makers])), (h0_makers, .inl (cI, 18, .inl v0_makers)), (h1, .inr (6, [.ref h1_data, .ref h1_fresh, .int v1_size])), (h1_data, .inl (cI, 56, .inl v1_data)), (h1_fresh, .inl (cI, 7, .inl v1_fresh)), (h2, .inr (4, [.ref h2_data])), (h2_data, .inl (cI, 124, .inl v2_data))] o A below args s) [(h0, .inr (7, [.ref h0_makers])), (h0_makers, .inl (cI, 18, .inl v0_makers)), (h1, .inr (6, [.ref h1_data, .ref h1_fresh, .int v1_size])), (h1_data, .inl (cI, 56, .inl v1_data)), (h1_fresh, .inl (cI, 7, .inl v1_fresh)), (h2, .inr (4, [.ref h2_data])), (h2_data, .inl (cI, 124, .inl v2_data))] 23 [(0, .ref h0), (1, .ref h1), (2, .ref h2), (3, .int x3), (4, .int x4), (5, .int x5), (6, .int x6)] []) (hF : fX7_firstThatLeftUnfilled_b23 v0_makers v1_size v1_data v2_data k6 k23 x3 x4 x5 x6 = some o) : V p l e rmX7_firstThatLeftUnfilled s m args below meth c A D 7 (QI D [(h0, .inr (7, [.ref h0_makers])), (h0_makers, .inl (cI, 18, .inl v0_makers)), (h1, .inr (6, [.ref h1_data, .ref h1_fresh, .int v1_size])), (h1_data, .inl (cI, 56, .inl v1_data)), (h1_fresh, .inl (cI, 7, .inl v1_fresh)), (h2, .inr (4, [.ref h2_data])), (h2_data, .inl (cI, 124, .inl v2_data))] o A below args s) [(h0, .inr (7, [.ref h0_makers])), (h0_makers, .inl (cI, 18, .inl v0_makers)), (h1, .inr (6, [.ref h1_data, .ref h1_fresh, .int v1_size])), (h1_data, .inl (cI, 56, .inl v1_data)), (h1_fresh, .inl (cI, 7, .inl v1_fresh)), (h2, .inr (4, [.ref h2_data])), (h2_data, .inl (cI, 124, .inl v2_data))] 23 [(0, .ref h0), (1, .ref h1), (2, .ref h2), (3, .int x3), (4, .int x4), (5, .int x5), (6, .int x6)] [] := by
  unfold fX7_firstThatLeftUnfilled_b23 at hF
  refine V_iload (pc := 23) h 6 dX7_firstThatLeftUnfilled_23 rfl ?_
  refine V_bipush (pc := 25) h (v := (9 : Int32)) dX7_firstThatLeftUnfilled_25 (by decide) ?_
  refine V_icmp_gt (pc := 27) h (tgt := 74) dX7_firstThatLeftUnfilled_27 (by decide) hF (fun hF => ?_) (fun hF => ?_)
  · refine V_iinc (pc := 74) h 4 (fun x4_74 => [(4, .int x4_74), (0, .ref h0), (1, .ref h1), (2, .ref h2), (3, .int x3), (5, .int x5), (6, .int x6)]) dX7_firstThatLeftUnfilled_74 rfl rfl (by decide) (fun _ => rfl) hF (fun x4_74 hF => ?_)
    refine V_goto (pc := 77) h (tgt := 6) dX7_firstThatLeftUnfilled_77 (by decide) ?_
    refine V_lv [1, 2, 3, 4, 0] [(0, .ref h0), (1, .ref h1), (2, .ref h2), (3, .int x3), (4, .int x4_74)] rfl ?_
    exact hk6 _ _ hF
  · refine V_aload_n (pc := 30) h 2 dX7_firstThatLeftUnfilled_30 rfl ?_
    refine V_iload (pc := 31) h 4 dX7_firstThatLeftUnfilled_31 rfl ?_
    refine V_iload (pc := 33) h 6 dX7_firstThatLeftUnfilled_33 rfl ?_
    refine V_ciV (pc := 35) h (n := 2) (bytes := cX4_statusOf) (maxL := 3) (As := [.int x4, .int x6]) (rest := []) gX7_firstThatLeftUnfilled_X4_statusOf (by decide +kernel) rfl rfl rfl rfl ⟨rfl, rfl⟩ ⟨Nat.le_of_ble_eq_true rfl, Nat.le_of_ble_eq_true rfl⟩ [5, 6] rfl (by decide) rfl (fun r35 => [(h0, .inr (7, [.ref h0_makers])), (h0_makers, .inl (cI, 18, .inl v0_makers)), (h1, .inr (6, [.ref h1_data, .ref h1_fresh, .int v1_size])), (h1_data, .inl (cI, 56, .inl v1_data)), (h1_fresh, .inl (cI, 7, .inl v1_fresh)), (h2, .inr (4, [.ref h2_data])), (h2_data, .inl (cI, 124, .inl v2_data))]) (fun _ => rfl) (fun _ => rfl) rfl (Nat.le_of_ble_eq_true rfl) dX7_firstThatLeftUnfilled_35 hF (fun r35 hG => k_X4_statusOf l D cI cZ h2 h2_data v2_data x4 x6 hG) (fun r35 hF => ?_)
    refine V_iconst (pc := 38) h (v := (1 : Int32)) dX7_firstThatLeftUnfilled_38 (by decide) ?_
    refine V_icmp_ne (pc := 39) h (tgt := 68) dX7_firstThatLeftUnfilled_39 (by decide) hF (fun hF => ?_) (fun hF => ?_)
    · refine V_iinc (pc := 68) h 6 (fun x6_68 => [(6, .int x6_68), (0, .ref h0), (1, .ref h1), (2, .ref h2), (3, .int x3), (4, .int x4), (5, .int x5)]) dX7_firstThatLeftUnfilled_68 rfl rfl (by decide) (fun _ => rfl) hF (fun x6_68 hF => ?_)
      refine V_goto (pc := 71) h (tgt := 23) dX7_firstThatLeftUnfilled_71 (by decide) ?_
      refine V_lv [1, 2, 3, 4, 5, 6, 0] [(0, .ref h0), (1, .ref h1), (2, .ref h2), (3, .int x3), (4, .int x4), (5, .int x5), (6, .int x6_68)] rfl ?_
      exact hk23 _ _ _ _ hF
    · refine V_aload_n (pc := 42) h 2 dX7_firstThatLeftUnfilled_42 rfl ?_
      refine V_iload (pc := 43) h 4 dX7_firstThatLeftUnfilled_43 rfl ?_
      refine V_iload (pc := 45) h 6 dX7_firstThatLeftUnfilled_45 rfl ?_
      refine V_iload (pc := 47) h 5 dX7_firstThatLeftUnfilled_47 rfl ?_
      refine V_ciV (pc := 49) h (n := 3) (bytes := cX4_unfilled) (maxL := 6) (As := [.int x4, .int x6, .int x5]) (rest := []) gX7_firstThatLeftUnfilled_X4_unfilled (by decide +kernel) rfl rfl rfl rfl ⟨rfl, rfl⟩ ⟨Nat.le_of_ble_eq_true rfl, Nat.le_of_ble_eq_true rfl⟩ [5, 6] rfl (by decide) rfl (fun r49 => [(h0, .inr (7, [.ref h0_makers])), (h0_makers, .inl (cI, 18, .inl v0_makers)), (h1, .inr (6, [.ref h1_data, .ref h1_fresh, .int v1_size])), (h1_data, .inl (cI, 56, .inl v1_data)), (h1_fresh, .inl (cI, 7, .inl v1_fresh)), (h2, .inr (4, [.ref h2_data])), (h2_data, .inl (cI, 124, .inl v2_data))]) (fun _ => rfl) (fun _ => rfl) rfl (Nat.le_of_ble_eq_true rfl) dX7_firstThatLeftUnfilled_49 hF (fun r49 hG => k_X4_unfilled l D cI cZ h2 h2_data v2_data x4 x6 x5 hG) (fun r49 hF => ?_)
      refine V_if_le (pc := 52) h (tgt := 68) dX7_firstThatLeftUnfilled_52 (by decide) hF (fun hF => ?_) (fun hF => ?_)
      · refine V_iinc (pc := 68) h 6 (fun x6_68 => [(6, .int x6_68), (0, .ref h0), (1, .ref h1), (2, .ref h2), (3, .int x3), (4, .int x4), (5, .int x5)]) dX7_firstThatLeftUnfilled_68 rfl rfl (by decide) (fun _ => rfl) hF (fun x6_68 hF => ?_)
        refine V_goto (pc := 71) h (tgt := 23) dX7_firstThatLeftUnfilled_71 (by decide) ?_
        refine V_lv [1, 2, 3, 4, 5, 6, 0] [(0, .ref h0), (1, .ref h1), (2, .ref h2), (3, .int x3), (4, .int x4), (5, .int x5), (6, .int x6_68)] rfl ?_
        exact hk23 _ _ _ _ hF
      · refine V_iload_n (pc := 55) h 3 dX7_firstThatLeftUnfilled_55 rfl ?_
        refine V_aload_n (pc := 56) h 0 dX7_firstThatLeftUnfilled_56 rfl ?_
        refine V_iload (pc := 57) h 4 dX7_firstThatLeftUnfilled_57 rfl ?_
        refine V_iload (pc := 59) h 6 dX7_firstThatLeftUnfilled_59 rfl ?_
        refine V_ciV (pc := 61) h (n := 2) (bytes := cX7_makerOf) (maxL := 4) (As := [.int x4, .int x6]) (rest := [.int x3]) gX7_firstThatLeftUnfilled_X7_makerOf (by decide +kernel) rfl rfl rfl rfl ⟨rfl, rfl⟩ ⟨Nat.le_of_ble_eq_true rfl, Nat.le_of_ble_eq_true rfl⟩ [0, 1] rfl (by decide) rfl (fun r61 => [(h0, .inr (7, [.ref h0_makers])), (h0_makers, .inl (cI, 18, .inl v0_makers)), (h1, .inr (6, [.ref h1_data, .ref h1_fresh, .int v1_size])), (h1_data, .inl (cI, 56, .inl v1_data)), (h1_fresh, .inl (cI, 7, .inl v1_fresh)), (h2, .inr (4, [.ref h2_data])), (h2_data, .inl (cI, 124, .inl v2_data))]) (fun _ => rfl) (fun _ => rfl) rfl (Nat.le_of_ble_eq_true rfl) dX7_firstThatLeftUnfilled_61 hF (fun r61 hG => k_X7_makerOf l D cI cZ h0 h0_makers v0_makers x4 x6 hG) (fun r61 hF => ?_)
        refine V_mmin (pc := 64) h uX7_firstThatLeftUnfilled_mmin1 uX7_firstThatLeftUnfilled_mmin2 uX7_firstThatLeftUnfilled_mmin3 uX7_firstThatLeftUnfilled_mmin4 (Nat.le_of_ble_eq_true rfl) (Nat.le_of_ble_eq_true rfl) dX7_firstThatLeftUnfilled_64 ?_
        refine V_bnd hF (fun x3_67 hF => ?_)
        refine V_istore_n (pc := 67) h [(3, .int x3_67), (0, .ref h0), (1, .ref h1), (2, .ref h2), (4, .int x4), (5, .int x5), (6, .int x6)] dX7_firstThatLeftUnfilled_67 (by decide) rfl ?_
        refine V_iinc (pc := 68) h 6 (fun x6_68 => [(6, .int x6_68), (3, .int x3_67), (0, .ref h0), (1, .ref h1), (2, .ref h2), (4, .int x4), (5, .int x5)]) dX7_firstThatLeftUnfilled_68 rfl rfl (by decide) (fun _ => rfl) hF (fun x6_68 hF => ?_)
        refine V_goto (pc := 71) h (tgt := 23) dX7_firstThatLeftUnfilled_71 (by decide) ?_
        refine V_lv [2, 3, 4, 1, 5, 6, 0] [(0, .ref h0), (1, .ref h1), (2, .ref h2), (3, .int x3_67), (4, .int x4), (5, .int x5), (6, .int x6_68)] rfl ?_
        exact hk23 _ _ _ _ hF
noncomputable def fX7_firstThatLeftUnfilled_l23 (v0_makers : (Nat → Int32)) (v1_size : Int32) (v1_data : (Nat → Int32)) (v2_data : (Nat → Int32)) (k6 : Int32 → Int32 → Option (Int32)) (n : Nat) : Int32 → Int32 → Int32 → Int32 → Option (Int32) :=
  Nat.rec (motive := fun _ => Int32 → Int32 → Int32 → Int32 → Option (Int32)) (fun _ _ _ _ => none) (fun _ ih => fX7_firstThatLeftUnfilled_b23 v0_makers v1_size v1_data v2_data k6 ih) n
theorem fX7_firstThatLeftUnfilled_l23_s (v0_makers : (Nat → Int32)) (v1_size : Int32) (v1_data : (Nat → Int32)) (v2_data : (Nat → Int32)) (k6 : Int32 → Int32 → Option (Int32)) (n : Nat) (x3 : Int32) (x4 : Int32) (x5 : Int32) (x6 : Int32) : fX7_firstThatLeftUnfilled_l23 v0_makers v1_size v1_data v2_data k6 (n + 1) x3 x4 x5 x6 = fX7_firstThatLeftUnfilled_b23 v0_makers v1_size v1_data v2_data k6 (fX7_firstThatLeftUnfilled_l23 v0_makers v1_size v1_data v2_data k6 n) x3 x4 x5 x6 := rfl
set_option maxRecDepth 100000 in
set_option maxHeartbeats 4000000 in
theorem tfX7_firstThatLeftUnfilled_l23 {p : Program} {l : Launch} {e : Env} {s : State} {m : MethodId} {args : Array Value} {below : List Frame} {meth : Method} {c : Code} {A : Nat → Prop} {D : va_G} {cI cZ : ClassId} (h : Cx p s m args meth c A D cI cZ 7 cX7_firstThatLeftUnfilled RX7 wsX7_firstThatLeftUnfilled (some .int)) {h0 h0_makers h1 h1_data h1_fresh h2 h2_data : Nat} {v0_makers : (Nat → Int32)} {v1_size : Int32} {v1_data : (Nat → Int32)} {v1_fresh : (Nat → Int32)} {v2_data : (Nat → Int32)} {k6 : Int32 → Int32 → Option (Int32)} {o : Int32} (hk6 : ∀ (x3 : Int32) (x4 : Int32), k6 x3 x4 = some o → V p l e rmX7_firstThatLeftUnfilled s m args below meth c A D 7 (QI D [(h0, .inr (7, [.ref h0_makers])), (h0_makers, .inl (cI, 18, .inl v0_makers)), (h1, .inr (6, [.ref h1_data, .ref h1_fresh, .int v1_size])), (h1_data, .inl (cI, 56, .inl v1_data)), (h1_fresh, .inl (cI, 7, .inl v1_fresh)), (h2, .inr (4, [.ref h2_data])), (h2_data, .inl (cI, 124, .inl v2_data))] o A below args s) [(h0, .inr (7, [.ref h0_makers])), (h0_makers, .inl (cI, 18, .inl v0_makers)), (h1, .inr (6, [.ref h1_data, .ref h1_fresh, .int v1_size])), (h1_data, .inl (cI, 56, .inl v1_data)), (h1_fresh, .inl (cI, 7, .inl v1_fresh)), (h2, .inr (4, [.ref h2_data])), (h2_data, .inl (cI, 124, .inl v2_data))] 6 [(0, .ref h0), (1, .ref h1), (2, .ref h2), (3, .int x3), (4, .int x4)] []) (n : Nat) : ∀ (x3 : Int32) (x4 : Int32) (x5 : Int32) (x6 : Int32) (hF : fX7_firstThatLeftUnfilled_l23 v0_makers v1_size v1_data v2_data k6 n x3 x4 x5 x6 = some o), V p l e rmX7_firstThatLeftUnfilled s m args below meth c A D 7 (QI D [(h0, .inr (7, [.ref h0_makers])), (h0_makers, .inl (cI, 18, .inl v0_makers)), (h1, .inr (6, [.ref h1_data, .ref h1_fresh, .int v1_size])), (h1_data, .inl (cI, 56, .inl v1_data)), (h1_fresh, .inl (cI, 7, .inl v1_fresh)), (h2, .inr (4, [.ref h2_data])), (h2_data, .inl (cI, 124, .inl v2_data))] o A below args s) [(h0, .inr (7, [.ref h0_makers])), (h0_makers, .inl (cI, 18, .inl v0_makers)), (h1, .inr (6, [.ref h1_data, .ref h1_fresh, .int v1_size])), (h1_data, .inl (cI, 56, .inl v1_data)), (h1_fresh, .inl (cI, 7, .inl v1_fresh)), (h2, .inr (4, [.ref h2_data])), (h2_data, .inl (cI, 124, .inl v2_data))] 23 [(0, .ref h0), (1, .ref h1), (2, .ref h2), (3, .int x3), (4, .int x4), (5, .int x5), (6, .int x6)] [] := by
  induction n with
  | zero => intro x3 x4 x5 x6 hF; exact nomatch (show (none : Option (Int32)) = some o from hF)
  | succ n ih => intro x3 x4 x5 x6 hF; exact tfX7_firstThatLeftUnfilled_b23 (k23 := fX7_firstThatLeftUnfilled_l23 v0_makers v1_size v1_data v2_data k6 n) h hk6 ih hF
noncomputable def fX7_firstThatLeftUnfilled_b6 (v0_makers : (Nat → Int32)) (v1_size : Int32) (v1_data : (Nat → Int32)) (v2_data : (Nat → Int32)) (k6 : Int32 → Int32 → Option (Int32)) (x3 : Int32) (x4 : Int32) : Option (Int32) :=
  if (2 : Int32) ≤ x4 then some x3 else bd (fX6_columnsOf v1_size v1_data x4) (fun r15 => fX7_firstThatLeftUnfilled_l23 v0_makers v1_size v1_data v2_data k6 1000 x3 x4 r15 (1 : Int32))
set_option maxRecDepth 100000 in
set_option maxHeartbeats 4000000 in
theorem tfX7_firstThatLeftUnfilled_b6 {p : Program} {l : Launch} {e : Env} {s : State} {m : MethodId} {args : Array Value} {below : List Frame} {meth : Method} {c : Code} {A : Nat → Prop} {D : va_G} {cI cZ : ClassId} (h : Cx p s m args meth c A D cI cZ 7 cX7_firstThatLeftUnfilled RX7 wsX7_firstThatLeftUnfilled (some .int)) {h0 h0_makers h1 h1_data h1_fresh h2 h2_data : Nat} {v0_makers : (Nat → Int32)} {v1_size : Int32} {v1_data : (Nat → Int32)} {v1_fresh : (Nat → Int32)} {v2_data : (Nat → Int32)} {k6 : Int32 → Int32 → Option (Int32)} {x3 : Int32} {x4 : Int32} {o : Int32} (hk6 : ∀ (x3 : Int32) (x4 : Int32), k6 x3 x4 = some o → V p l e rmX7_firstThatLeftUnfilled s m args below meth c A D 7 (QI D [(h0, .inr (7, [.ref h0_makers])), (h0_makers, .inl (cI, 18, .inl v0_makers)), (h1, .inr (6, [.ref h1_data, .ref h1_fresh, .int v1_size])), (h1_data, .inl (cI, 56, .inl v1_data)), (h1_fresh, .inl (cI, 7, .inl v1_fresh)), (h2, .inr (4, [.ref h2_data])), (h2_data, .inl (cI, 124, .inl v2_data))] o A below args s) [(h0, .inr (7, [.ref h0_makers])), (h0_makers, .inl (cI, 18, .inl v0_makers)), (h1, .inr (6, [.ref h1_data, .ref h1_fresh, .int v1_size])), (h1_data, .inl (cI, 56, .inl v1_data)), (h1_fresh, .inl (cI, 7, .inl v1_fresh)), (h2, .inr (4, [.ref h2_data])), (h2_data, .inl (cI, 124, .inl v2_data))] 6 [(0, .ref h0), (1, .ref h1), (2, .ref h2), (3, .int x3), (4, .int x4)] []) (hF : fX7_firstThatLeftUnfilled_b6 v0_makers v1_size v1_data v2_data k6 x3 x4 = some o) : V p l e rmX7_firstThatLeftUnfilled s m args below meth c A D 7 (QI D [(h0, .inr (7, [.ref h0_makers])), (h0_makers, .inl (cI, 18, .inl v0_makers)), (h1, .inr (6, [.ref h1_data, .ref h1_fresh, .int v1_size])), (h1_data, .inl (cI, 56, .inl v1_data)), (h1_fresh, .inl (cI, 7, .inl v1_fresh)), (h2, .inr (4, [.ref h2_data])), (h2_data, .inl (cI, 124, .inl v2_data))] o A below args s) [(h0, .inr (7, [.ref h0_makers])), (h0_makers, .inl (cI, 18, .inl v0_makers)), (h1, .inr (6, [.ref h1_data, .ref h1_fresh, .int v1_size])), (h1_data, .inl (cI, 56, .inl v1_data)), (h1_fresh, .inl (cI, 7, .inl v1_fresh)), (h2, .inr (4, [.ref h2_data])), (h2_data, .inl (cI, 124, .inl v2_data))] 6 [(0, .ref h0), (1, .ref h1), (2, .ref h2), (3, .int x3), (4, .int x4)] [] := by
  unfold fX7_firstThatLeftUnfilled_b6 at hF
  refine V_iload (pc := 6) h 4 dX7_firstThatLeftUnfilled_6 rfl ?_
  refine V_iconst (pc := 8) h (v := (2 : Int32)) dX7_firstThatLeftUnfilled_8 (by decide) ?_
  refine V_icmp_ge (pc := 9) h (tgt := 80) dX7_firstThatLeftUnfilled_9 (by decide) hF (fun hF => ?_) (fun hF => ?_)
  · refine V_iload_n (pc := 80) h 3 dX7_firstThatLeftUnfilled_80 rfl ?_
    have hF := Option.some.inj hF
    subst hF
    exact V_iret (pc := 81) h dX7_firstThatLeftUnfilled_81
  · refine V_aload_n (pc := 12) h 1 dX7_firstThatLeftUnfilled_12 rfl ?_
    refine V_iload (pc := 13) h 4 dX7_firstThatLeftUnfilled_13 rfl ?_
    refine V_ciV (pc := 15) h (n := 1) (bytes := cX6_columnsOf) (maxL := 3) (As := [.int x4]) (rest := []) gX7_firstThatLeftUnfilled_X6_columnsOf (by decide +kernel) rfl rfl rfl rfl ⟨rfl, rfl⟩ ⟨Nat.le_of_ble_eq_true rfl, Nat.le_of_ble_eq_true rfl⟩ [2, 3, 4] rfl (by decide) rfl (fun r15 => [(h0, .inr (7, [.ref h0_makers])), (h0_makers, .inl (cI, 18, .inl v0_makers)), (h1, .inr (6, [.ref h1_data, .ref h1_fresh, .int v1_size])), (h1_data, .inl (cI, 56, .inl v1_data)), (h1_fresh, .inl (cI, 7, .inl v1_fresh)), (h2, .inr (4, [.ref h2_data])), (h2_data, .inl (cI, 124, .inl v2_data))]) (fun _ => rfl) (fun _ => rfl) rfl (Nat.le_of_ble_eq_true rfl) dX7_firstThatLeftUnfilled_15 hF (fun r15 hG => k_X6_columnsOf l D cI cZ h1 h1_data h1_fresh v1_size v1_data v1_fresh x4 hG) (fun r15 hF => ?_)
    refine V_istore (pc := 18) h [(5, .int r15), (0, .ref h0), (1, .ref h1), (2, .ref h2), (3, .int x3), (4, .int x4)] dX7_firstThatLeftUnfilled_18 (by decide) rfl ?_
    refine V_iconst (pc := 20) h (v := (1 : Int32)) dX7_firstThatLeftUnfilled_20 (by decide) ?_
    refine V_istore (pc := 21) h [(6, .int (1 : Int32)), (5, .int r15), (0, .ref h0), (1, .ref h1), (2, .ref h2), (3, .int x3), (4, .int x4)] dX7_firstThatLeftUnfilled_21 (by decide) rfl ?_
    refine V_lv [2, 3, 4, 5, 6, 1, 0] [(0, .ref h0), (1, .ref h1), (2, .ref h2), (3, .int x3), (4, .int x4), (5, .int r15), (6, .int (1 : Int32))] rfl ?_
    exact tfX7_firstThatLeftUnfilled_l23 h hk6 1000 _ _ _ _ hF
noncomputable def fX7_firstThatLeftUnfilled_l6 (v0_makers : (Nat → Int32)) (v1_size : Int32) (v1_data : (Nat → Int32)) (v2_data : (Nat → Int32)) (n : Nat) : Int32 → Int32 → Option (Int32) :=
  Nat.rec (motive := fun _ => Int32 → Int32 → Option (Int32)) (fun _ _ => none) (fun _ ih => fX7_firstThatLeftUnfilled_b6 v0_makers v1_size v1_data v2_data ih) n
theorem fX7_firstThatLeftUnfilled_l6_s (v0_makers : (Nat → Int32)) (v1_size : Int32) (v1_data : (Nat → Int32)) (v2_data : (Nat → Int32)) (n : Nat) (x3 : Int32) (x4 : Int32) : fX7_firstThatLeftUnfilled_l6 v0_makers v1_size v1_data v2_data (n + 1) x3 x4 = fX7_firstThatLeftUnfilled_b6 v0_makers v1_size v1_data v2_data (fX7_firstThatLeftUnfilled_l6 v0_makers v1_size v1_data v2_data n) x3 x4 := rfl
set_option maxRecDepth 100000 in
set_option maxHeartbeats 4000000 in
theorem tfX7_firstThatLeftUnfilled_l6 {p : Program} {l : Launch} {e : Env} {s : State} {m : MethodId} {args : Array Value} {below : List Frame} {meth : Method} {c : Code} {A : Nat → Prop} {D : va_G} {cI cZ : ClassId} (h : Cx p s m args meth c A D cI cZ 7 cX7_firstThatLeftUnfilled RX7 wsX7_firstThatLeftUnfilled (some .int)) {h0 h0_makers h1 h1_data h1_fresh h2 h2_data : Nat} {v0_makers : (Nat → Int32)} {v1_size : Int32} {v1_data : (Nat → Int32)} {v1_fresh : (Nat → Int32)} {v2_data : (Nat → Int32)} {o : Int32} (n : Nat) : ∀ (x3 : Int32) (x4 : Int32) (hF : fX7_firstThatLeftUnfilled_l6 v0_makers v1_size v1_data v2_data n x3 x4 = some o), V p l e rmX7_firstThatLeftUnfilled s m args below meth c A D 7 (QI D [(h0, .inr (7, [.ref h0_makers])), (h0_makers, .inl (cI, 18, .inl v0_makers)), (h1, .inr (6, [.ref h1_data, .ref h1_fresh, .int v1_size])), (h1_data, .inl (cI, 56, .inl v1_data)), (h1_fresh, .inl (cI, 7, .inl v1_fresh)), (h2, .inr (4, [.ref h2_data])), (h2_data, .inl (cI, 124, .inl v2_data))] o A below args s) [(h0, .inr (7, [.ref h0_makers])), (h0_makers, .inl (cI, 18, .inl v0_makers)), (h1, .inr (6, [.ref h1_data, .ref h1_fresh, .int v1_size])), (h1_data, .inl (cI, 56, .inl v1_data)), (h1_fresh, .inl (cI, 7, .inl v1_fresh)), (h2, .inr (4, [.ref h2_data])), (h2_data, .inl (cI, 124, .inl v2_data))] 6 [(0, .ref h0), (1, .ref h1), (2, .ref h2), (3, .int x3), (4, .int x4)] [] := by
  induction n with
  | zero => intro x3 x4 hF; exact nomatch (show (none : Option (Int32)) = some o from hF)
  | succ n ih => intro x3 x4 hF; exact tfX7_firstThatLeftUnfilled_b6 (k6 := fX7_firstThatLeftUnfilled_l6 v0_makers v1_size v1_data v2_data n) h ih hF
noncomputable def fX7_firstThatLeftUnfilled (v0_makers : (Nat → Int32)) (v1_size : Int32) (v1_data : (Nat → Int32)) (v2_data : (Nat → Int32)) : Option (Int32) :=
  fX7_firstThatLeftUnfilled_l6 v0_makers v1_size v1_data v2_data 1000 (8 : Int32) (0 : Int32)
set_option maxRecDepth 100000 in
set_option maxHeartbeats 4000000 in
theorem tfX7_firstThatLeftUnfilled {p : Program} {l : Launch} {e : Env} {s : State} {m : MethodId} {args : Array Value} {below : List Frame} {meth : Method} {c : Code} {A : Nat → Prop} {D : va_G} {cI cZ : ClassId} (h : Cx p s m args meth c A D cI cZ 7 cX7_firstThatLeftUnfilled RX7 wsX7_firstThatLeftUnfilled (some .int)) {h0 h0_makers h1 h1_data h1_fresh h2 h2_data : Nat} {v0_makers : (Nat → Int32)} {v1_size : Int32} {v1_data : (Nat → Int32)} {v1_fresh : (Nat → Int32)} {v2_data : (Nat → Int32)} {o : Int32} (hF : fX7_firstThatLeftUnfilled v0_makers v1_size v1_data v2_data = some o) : V p l e rmX7_firstThatLeftUnfilled s m args below meth c A D 7 (QI D [(h0, .inr (7, [.ref h0_makers])), (h0_makers, .inl (cI, 18, .inl v0_makers)), (h1, .inr (6, [.ref h1_data, .ref h1_fresh, .int v1_size])), (h1_data, .inl (cI, 56, .inl v1_data)), (h1_fresh, .inl (cI, 7, .inl v1_fresh)), (h2, .inr (4, [.ref h2_data])), (h2_data, .inl (cI, 124, .inl v2_data))] o A below args s) [(h0, .inr (7, [.ref h0_makers])), (h0_makers, .inl (cI, 18, .inl v0_makers)), (h1, .inr (6, [.ref h1_data, .ref h1_fresh, .int v1_size])), (h1_data, .inl (cI, 56, .inl v1_data)), (h1_fresh, .inl (cI, 7, .inl v1_fresh)), (h2, .inr (4, [.ref h2_data])), (h2_data, .inl (cI, 124, .inl v2_data))] 0 [(0, .ref h0), (1, .ref h1), (2, .ref h2)] [] := by
  unfold fX7_firstThatLeftUnfilled at hF
  refine V_bipush (pc := 0) h (v := (8 : Int32)) dX7_firstThatLeftUnfilled_0 (by decide) ?_
  refine V_istore_n (pc := 2) h [(3, .int (8 : Int32)), (0, .ref h0), (1, .ref h1), (2, .ref h2)] dX7_firstThatLeftUnfilled_2 (by decide) rfl ?_
  refine V_iconst (pc := 3) h (v := (0 : Int32)) dX7_firstThatLeftUnfilled_3 (by decide) ?_
  refine V_istore (pc := 4) h [(4, .int (0 : Int32)), (3, .int (8 : Int32)), (0, .ref h0), (1, .ref h1), (2, .ref h2)] dX7_firstThatLeftUnfilled_4 (by decide) rfl ?_
  refine V_lv [2, 3, 4, 1, 0] [(0, .ref h0), (1, .ref h1), (2, .ref h2), (3, .int (8 : Int32)), (4, .int (0 : Int32))] rfl ?_
  exact tfX7_firstThatLeftUnfilled_l6 h 1000 _ _ hF
set_option maxRecDepth 100000 in
theorem k_X7_firstThatLeftUnfilled (l : Launch) (D : va_G) (cI cZ : ClassId) (h0 h0_makers h1 h1_data h1_fresh h2 h2_data : Nat) (v0_makers : (Nat → Int32)) (v1_size : Int32) (v1_data : (Nat → Int32)) (v1_fresh : (Nat → Int32)) (v2_data : (Nat → Int32)) {o : Int32} (hF : fX7_firstThatLeftUnfilled v0_makers v1_size v1_data v2_data = some o) : CI l yX7_firstThatLeftUnfilled wsX7_firstThatLeftUnfilled rmX7_firstThatLeftUnfilled D cI cZ [.ref h0, .ref h1, .ref h2] [(h0, .inr (7, [.ref h0_makers])), (h0_makers, .inl (cI, 18, .inl v0_makers)), (h1, .inr (6, [.ref h1_data, .ref h1_fresh, .int v1_size])), (h1_data, .inl (cI, 56, .inl v1_data)), (h1_fresh, .inl (cI, 7, .inl v1_fresh)), (h2, .inr (4, [.ref h2_data])), (h2_data, .inl (cI, 124, .inl v2_data))] [(h0, .inr (7, [.ref h0_makers])), (h0_makers, .inl (cI, 18, .inl v0_makers)), (h1, .inr (6, [.ref h1_data, .ref h1_fresh, .int v1_size])), (h1_data, .inl (cI, 56, .inl v1_data)), (h1_fresh, .inl (cI, 7, .inl v1_fresh)), (h2, .inr (4, [.ref h2_data])), (h2_data, .inl (cI, 124, .inl v2_data))] o :=
  CI_of (cc := cX7_firstThatLeftUnfilled) (nL := 7) (ret := (some .int)) (by decide) rfl (Nat.le_of_ble_eq_true rfl) rfl (fun p e s m args below meth c A h => tfX7_firstThatLeftUnfilled h hF)
