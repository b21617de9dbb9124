/-! X6_readName -/
abbrev rmX6_readName : Room := { frames := 2, cells := 0, slots := 0, locals := 46 }
theorem uX6_readName_inX5 : ∀ w ∈ wsX50, w ∈ wsX6_readName := by decide +kernel
theorem uX6_readName_f89 : Cond.fieldLink RX6 89 "LeafAsks$Text" "number" "I" ∈ wsX6_readName := by decide +kernel
theorem uX6_readName_inX6 : ∀ w ∈ wsX60, w ∈ wsX6_readName := by decide +kernel
theorem uX6_readName_f15 : Cond.fieldLink RX6 15 "LeafAsks$Tree" "fresh" "[I" ∈ wsX6_readName := by decide +kernel
theorem uX6_readName_nitX8 : Cond.initialized RX8 ∈ wsX6_readName := by decide +kernel
theorem uX6_readName_staX8_nameOf : Cond.static yX8_nameOf ∈ wsX6_readName := by decide +kernel
noncomputable def fX6_readName (v0_size : Int32) (v0_data : (Nat → Int32)) (v1_size : Int32) (v1_length : Int32) (v1_tokens : (Nat → Int32)) (v1_starts : (Nat → Int32)) (v1_numbers : (Nat → Int32)) (v0_fresh : (Nat → Int32)) (v1_at : Int32) (v1_token : Int32) (v1_start : Int32) (v1_number : Int32) : Option (Int32 × (Nat → Int32) × Int32 × Int32 × Int32 × Int32) :=
  bd (fX5_takesNumber v1_size v1_length v1_tokens v1_starts v1_numbers (1 : Int32) (9 : Int32) v1_at v1_token v1_start v1_number) (fun r4 => if r4.1 = (0 : Int32) then some (((0 : Int32), v0_fresh, r4.2.1, r4.2.2.1, r4.2.2.2.1, r4.2.2.2.2)) else bd (fX5_takesNumber v1_size v1_length v1_tokens v1_starts v1_numbers (1 : Int32) (9 : Int32) r4.2.1 r4.2.2.1 r4.2.2.2.1 r4.2.2.2.2) (fun r21 => if r21.1 = (0 : Int32) then some (((0 : Int32), v0_fresh, r21.2.1, r21.2.2.1, r21.2.2.2.1, r21.2.2.2.2)) else bd (fX8_nameOf r4.2.2.2.2 r21.2.2.2.2 (-1 : Int32) (-1 : Int32)) (fun r41 => gin (1 : Int32) 7 (gin (1 : Int32) 7 (bd (fX6_branchOf v0_size v0_data ((upd v0_fresh (1 : Int32).toNatClampNeg r41) (1 : Int32).toNatClampNeg)) (fun r52 => if r52 = (-9 : Int32) then some (((1 : Int32), (upd v0_fresh (1 : Int32).toNatClampNeg r41), r21.2.1, r21.2.2.1, r21.2.2.2.1, r21.2.2.2.2)) else some (((0 : Int32), (upd v0_fresh (1 : Int32).toNatClampNeg r41), r21.2.1, r21.2.2.1, r21.2.2.2.1, r21.2.2.2.2))))))))
set_option maxRecDepth 100000 in
set_option maxHeartbeats 4000000 in
theorem tfX6_readName {p : Program} {l : Launch} {e : Env} {s : State} {m : MethodId} {args : Array Value} {below : List Frame} {meth : Method} {c : Code} {A : Nat → Prop} {D : va_G} {cI cZ : ClassId} (h : Cx p s m args meth c A D cI cZ 3 cX6_readName RX6 wsX6_readName (some .boolean)) {h0 h0_data h0_fresh h1 h1_letters h1_tokens h1_starts h1_numbers : Nat} {v0_size : Int32} {v0_data : (Nat → Int32)} {v1_size : Int32} {v1_length : Int32} {v1_letters : (Nat → Int32)} {v1_tokens : (Nat → Int32)} {v1_starts : (Nat → Int32)} {v1_numbers : (Nat → Int32)} {v0_fresh : (Nat → Int32)} {v1_at : Int32} {v1_token : Int32} {v1_start : Int32} {v1_number : Int32} {o : Int32 × (Nat → Int32) × Int32 × Int32 × Int32 × Int32} (hF : fX6_readName v0_size v0_data v1_size v1_length v1_tokens v1_starts v1_numbers v0_fresh v1_at v1_token v1_start v1_number = some o) : V p l e rmX6_readName s m args below meth c A D 3 (QI D [(h0, .inr (6, [.ref h0_data, .ref h0_fresh, .int v0_size])), (h0_data, .inl (cI, 56, .inl v0_data)), (h0_fresh, .inl (cI, 7, .inl o.2.1)), (h1, .inr (5, [.ref h1_letters, .ref h1_tokens, .ref h1_starts, .ref h1_numbers, .int v1_size, .int o.2.2.1, .int v1_length, .int o.2.2.2.1, .int o.2.2.2.2.1, .int o.2.2.2.2.2])), (h1_letters, .inl (cI, 160, .inl v1_letters)), (h1_tokens, .inl (cI, 160, .inl v1_tokens)), (h1_starts, .inl (cI, 160, .inl v1_starts)), (h1_numbers, .inl (cI, 160, .inl v1_numbers))] o.1 A below args s) [(h0, .inr (6, [.ref h0_data, .ref h0_fresh, .int v0_size])), (h0_data, .inl (cI, 56, .inl v0_data)), (h0_fresh, .inl (cI, 7, .inl v0_fresh)), (h1, .inr (5, [.ref h1_letters, .ref h1_tokens, .ref h1_starts, .ref h1_numbers, .int v1_size, .int v1_at, .int v1_length, .int v1_token, .int v1_start, .int v1_number])), (h1_letters, .inl (cI, 160, .inl v1_letters)), (h1_tokens, .inl (cI, 160, .inl v1_tokens)), (h1_starts, .inl (cI, 160, .inl v1_starts)), (h1_numbers, .inl (cI, 160, .inl v1_numbers))] 0 [(0, .ref h0), (1, .ref h1)] [] := by
  unfold fX6_readName at hF
  refine V_aload_n (pc := 0) h 1 dX6_readName_0 rfl ?_
  refine V_iconst (pc := 1) h (v := (1 : Int32)) dX6_readName_1 (by decide) ?_
  refine V_bipush (pc := 2) h (v := (9 : Int32)) dX6_readName_2 (by decide) ?_
  refine V_ciV (pc := 4) h (n := 2) (bytes := cX5_takesNumber) (maxL := 3) (As := [.int (1 : Int32), .int (9 : Int32)]) (rest := []) gX6_readName_X5_takesNumber (by decide +kernel) rfl rfl rfl rfl ⟨rfl, rfl⟩ ⟨Nat.le_of_ble_eq_true rfl, Nat.le_of_ble_eq_true rfl⟩ [3, 4, 5, 6, 7] rfl (by decide) rfl (fun r4 => [(h0, .inr (6, [.ref h0_data, .ref h0_fresh, .int v0_size])), (h0_data, .inl (cI, 56, .inl v0_data)), (h0_fresh, .inl (cI, 7, .inl v0_fresh)), (h1, .inr (5, [.ref h1_letters, .ref h1_tokens, .ref h1_starts, .ref h1_numbers, .int v1_size, .int r4.2.1, .int v1_length, .int r4.2.2.1, .int r4.2.2.2.1, .int r4.2.2.2.2])), (h1_letters, .inl (cI, 160, .inl v1_letters)), (h1_tokens, .inl (cI, 160, .inl v1_tokens)), (h1_starts, .inl (cI, 160, .inl v1_starts)), (h1_numbers, .inl (cI, 160, .inl v1_numbers))]) (fun _ => rfl) (fun _ => rfl) rfl (Nat.le_of_ble_eq_true rfl) dX6_readName_4 hF (fun r4 hG => k_X5_takesNumber l D cI cZ h1 h1_letters h1_tokens h1_starts h1_numbers v1_size v1_at v1_length v1_token v1_start v1_number v1_letters v1_tokens v1_starts v1_numbers (1 : Int32) (9 : Int32) hG) (fun r4 hF => ?_)
  refine V_if_ne (pc := 7) h (tgt := 12) dX6_readName_7 (by decide) hF (fun hF => ?_) (fun hF => ?_)
  · refine V_aload_n (pc := 12) h 1 dX6_readName_12 rfl ?_
    refine V_get (pc := 13) h uX6_readName_inX5 3 9 rfl rfl (by decide) uX6_readName_f89 rfl rfl dX6_readName_13 ?_
    refine V_istore_n (pc := 16) h [(2, .int r4.2.2.2.2), (0, .ref h0), (1, .ref h1)] dX6_readName_16 (by decide) rfl ?_
    refine V_aload_n (pc := 17) h 2 dX6_readName_17 rfl ?_
    refine V_iconst (pc := 18) h (v := (1 : Int32)) dX6_readName_18 (by decide) ?_
    refine V_bipush (pc := 19) h (v := (9 : Int32)) dX6_readName_19 (by decide) ?_
    refine V_ciV (pc := 21) h (n := 2) (bytes := cX5_takesNumber) (maxL := 3) (As := [.int (1 : Int32), .int (9 : Int32)]) (rest := []) gX6_readName_X5_takesNumber (by decide +kernel) rfl rfl rfl rfl ⟨rfl, rfl⟩ ⟨Nat.le_of_ble_eq_true rfl, Nat.le_of_ble_eq_true rfl⟩ [3, 4, 5, 6, 7] rfl (by decide) rfl (fun r21 => [(h0, .inr (6, [.ref h0_data, .ref h0_fresh, .int v0_size])), (h0_data, .inl (cI, 56, .inl v0_data)), (h0_fresh, .inl (cI, 7, .inl v0_fresh)), (h1, .inr (5, [.ref h1_letters, .ref h1_tokens, .ref h1_starts, .ref h1_numbers, .int v1_size, .int r21.2.1, .int v1_length, .int r21.2.2.1, .int r21.2.2.2.1, .int r21.2.2.2.2])), (h1_letters, .inl (cI, 160, .inl v1_letters)), (h1_tokens, .inl (cI, 160, .inl v1_tokens)), (h1_starts, .inl (cI, 160, .inl v1_starts)), (h1_numbers, .inl (cI, 160, .inl v1_numbers))]) (fun _ => rfl) (fun _ => rfl) rfl (Nat.le_of_ble_eq_true rfl) dX6_readName_21 hF (fun r21 hG => k_X5_takesNumber l D cI cZ h1 h1_letters h1_tokens h1_starts h1_numbers v1_size r4.2.1 v1_length r4.2.2.1 r4.2.2.2.1 r4.2.2.2.2 v1_letters v1_tokens v1_starts v1_numbers (1 : Int32) (9 : Int32) hG) (fun r21 hF => ?_)
    refine V_if_ne (pc := 24) h (tgt := 29) dX6_readName_24 (by decide) hF (fun hF => ?_) (fun hF => ?_)
    · refine V_aload_n (pc := 29) h 1 dX6_readName_29 rfl ?_
      refine V_get (pc := 30) h uX6_readName_inX6 0 1 rfl rfl (by decide) uX6_readName_f15 rfl rfl dX6_readName_30 ?_
      refine V_iconst (pc := 33) h (v := (1 : Int32)) dX6_readName_33 (by decide) ?_
      refine V_iload_n (pc := 34) h 0 dX6_readName_34 rfl ?_
      refine V_aload_n (pc := 35) h 2 dX6_readName_35 rfl ?_
      refine V_get (pc := 36) h uX6_readName_inX5 3 9 rfl rfl (by decide) uX6_readName_f89 rfl rfl dX6_readName_36 ?_
      refine V_iconst (pc := 39) h (v := (-1 : Int32)) dX6_readName_39 (by decide) ?_
      refine V_iconst (pc := 40) h (v := (-1 : Int32)) dX6_readName_40 (by decide) ?_
      refine V_ciSN (pc := 41) h (n := 4) (bytes := cX8_nameOf) (maxL := 4) (As := [.int r4.2.2.2.2, .int r21.2.2.2.2, .int (-1 : Int32), .int (-1 : Int32)]) (rest := [.int (1 : Int32), .ref h0_fresh]) ggX6_readName_X8_nameOf h.2.2.2.1.2.1 uX6_readName_nitX8 uX6_readName_staX8_nameOf (by decide +kernel) rfl ⟨rfl, rfl⟩ ⟨Nat.le_of_ble_eq_true rfl, Nat.le_of_ble_eq_true rfl⟩ [] rfl (by decide) rfl (fun r41 => [(h0, .inr (6, [.ref h0_data, .ref h0_fresh, .int v0_size])), (h0_data, .inl (cI, 56, .inl v0_data)), (h0_fresh, .inl (cI, 7, .inl v0_fresh)), (h1, .inr (5, [.ref h1_letters, .ref h1_tokens, .ref h1_starts, .ref h1_numbers, .int v1_size, .int r21.2.1, .int v1_length, .int r21.2.2.1, .int r21.2.2.2.1, .int r21.2.2.2.2])), (h1_letters, .inl (cI, 160, .inl v1_letters)), (h1_tokens, .inl (cI, 160, .inl v1_tokens)), (h1_starts, .inl (cI, 160, .inl v1_starts)), (h1_numbers, .inl (cI, 160, .inl v1_numbers))]) (fun _ => rfl) (fun _ => rfl) rfl (Nat.le_of_ble_eq_true rfl) dX6_readName_41 hF (fun r41 hG => k_X8_nameOf l D cI cZ r4.2.2.2.2 r21.2.2.2.2 (-1 : Int32) (-1 : Int32) hG) (fun r41 hF => ?_)
      refine V_iast (pc := 44) h 2 rfl [(h0, .inr (6, [.ref h0_data, .ref h0_fresh, .int v0_size])), (h0_data, .inl (cI, 56, .inl v0_data)), (h0_fresh, .inl (cI, 7, .inl (upd v0_fresh (1 : Int32).toNatClampNeg r41))), (h1, .inr (5, [.ref h1_letters, .ref h1_tokens, .ref h1_starts, .ref h1_numbers, .int v1_size, .int r21.2.1, .int v1_length, .int r21.2.2.1, .int r21.2.2.2.1, .int r21.2.2.2.2])), (h1_letters, .inl (cI, 160, .inl v1_letters)), (h1_tokens, .inl (cI, 160, .inl v1_tokens)), (h1_starts, .inl (cI, 160, .inl v1_starts)), (h1_numbers, .inl (cI, 160, .inl v1_numbers))] rfl dX6_readName_44 hF (fun hF => ?_)
      refine V_aload_n (pc := 45) h 1 dX6_readName_45 rfl ?_
      refine V_aload_n (pc := 46) h 1 dX6_readName_46 rfl ?_
      refine V_get (pc := 47) h uX6_readName_inX6 0 1 rfl rfl (by decide) uX6_readName_f15 rfl rfl dX6_readName_47 ?_
      refine V_iconst (pc := 50) h (v := (1 : Int32)) dX6_readName_50 (by decide) ?_
      refine V_iald (pc := 51) h 2 rfl dX6_readName_51 hF (fun hF => ?_)
      refine V_ciV (pc := 52) h (n := 1) (bytes := cX6_branchOf) (maxL := 4) (As := [.int ((upd v0_fresh (1 : Int32).toNatClampNeg r41) (1 : Int32).toNatClampNeg)]) (rest := []) gX6_readName_X6_branchOf (by decide +kernel) rfl rfl rfl rfl ⟨rfl, rfl⟩ ⟨Nat.le_of_ble_eq_true rfl, Nat.le_of_ble_eq_true rfl⟩ [0, 1, 2] rfl (by decide) rfl (fun r52 => [(h0, .inr (6, [.ref h0_data, .ref h0_fresh, .int v0_size])), (h0_data, .inl (cI, 56, .inl v0_data)), (h0_fresh, .inl (cI, 7, .inl (upd v0_fresh (1 : Int32).toNatClampNeg r41))), (h1, .inr (5, [.ref h1_letters, .ref h1_tokens, .ref h1_starts, .ref h1_numbers, .int v1_size, .int r21.2.1, .int v1_length, .int r21.2.2.1, .int r21.2.2.2.1, .int r21.2.2.2.2])), (h1_letters, .inl (cI, 160, .inl v1_letters)), (h1_tokens, .inl (cI, 160, .inl v1_tokens)), (h1_starts, .inl (cI, 160, .inl v1_starts)), (h1_numbers, .inl (cI, 160, .inl v1_numbers))]) (fun _ => rfl) (fun _ => rfl) rfl (Nat.le_of_ble_eq_true rfl) dX6_readName_52 hF (fun r52 hG => k_X6_branchOf l D cI cZ h0 h0_data h0_fresh v0_size v0_data (upd v0_fresh (1 : Int32).toNatClampNeg r41) ((upd v0_fresh (1 : Int32).toNatClampNeg r41) (1 : Int32).toNatClampNeg) hG) (fun r52 hF => ?_)
      refine V_bipush (pc := 55) h (v := (-9 : Int32)) dX6_readName_55 (by decide) ?_
      refine V_icmp_ne (pc := 57) h (tgt := 64) dX6_readName_57 (by decide) hF (fun hF => ?_) (fun hF => ?_)
      · refine V_iconst (pc := 64) h (v := (0 : Int32)) dX6_readName_64 (by decide) ?_
        have hF := Option.some.inj hF
        subst hF
        exact V_zret (pc := 65) h (Or.inl rfl) dX6_readName_65
      · refine V_iconst (pc := 60) h (v := (1 : Int32)) dX6_readName_60 (by decide) ?_
        refine V_goto (pc := 61) h (tgt := 65) dX6_readName_61 (by decide) ?_
        have hF := Option.some.inj hF
        subst hF
        exact V_zret (pc := 65) h (Or.inr rfl) dX6_readName_65
    · refine V_iconst (pc := 27) h (v := (0 : Int32)) dX6_readName_27 (by decide) ?_
      have hF := Option.some.inj hF
      subst hF
      exact V_zret (pc := 28) h (Or.inl rfl) dX6_readName_28
  · refine V_iconst (pc := 10) h (v := (0 : Int32)) dX6_readName_10 (by decide) ?_
    have hF := Option.some.inj hF
    subst hF
    exact V_zret (pc := 11) h (Or.inl rfl) dX6_readName_11
set_option maxRecDepth 100000 in
theorem k_X6_readName (l : Launch) (D : va_G) (cI cZ : ClassId) (h0 h0_data h0_fresh h1 h1_letters h1_tokens h1_starts h1_numbers : Nat) (v0_size : Int32) (v0_data : (Nat → Int32)) (v0_fresh : (Nat → Int32)) (v1_size : Int32) (v1_at : Int32) (v1_length : Int32) (v1_token : Int32) (v1_start : Int32) (v1_number : Int32) (v1_letters : (Nat → Int32)) (v1_tokens : (Nat → Int32)) (v1_starts : (Nat → Int32)) (v1_numbers : (Nat → Int32)) {o : Int32 × (Nat → Int32) × Int32 × Int32 × Int32 × Int32} (hF : fX6_readName v0_size v0_data v1_size v1_length v1_tokens v1_starts v1_numbers v0_fresh v1_at v1_token v1_start v1_number = some o) : CI l yX6_readName wsX6_readName rmX6_readName D cI cZ [.ref h0, .ref h1] [(h0, .inr (6, [.ref h0_data, .ref h0_fresh, .int v0_size])), (h0_data, .inl (cI, 56, .inl v0_data)), (h0_fresh, .inl (cI, 7, .inl v0_fresh)), (h1, .inr (5, [.ref h1_letters, .ref h1_tokens, .ref h1_starts, .ref h1_numbers, .int v1_size, .int v1_at, .int v1_length, .int v1_token, .int v1_start, .int v1_number])), (h1_letters, .inl (cI, 160, .inl v1_letters)), (h1_tokens, .inl (cI, 160, .inl v1_tokens)), (h1_starts, .inl (cI, 160, .inl v1_starts)), (h1_numbers, .inl (cI, 160, .inl v1_numbers))] [(h0, .inr (6, [.ref h0_data, .ref h0_fresh, .int v0_size])), (h0_data, .inl (cI, 56, .inl v0_data)), (h0_fresh, .inl (cI, 7, .inl o.2.1)), (h1, .inr (5, [.ref h1_letters, .ref h1_tokens, .ref h1_starts, .ref h1_numbers, .int v1_size, .int o.2.2.1, .int v1_length, .int o.2.2.2.1, .int o.2.2.2.2.1, .int o.2.2.2.2.2])), (h1_letters, .inl (cI, 160, .inl v1_letters)), (h1_tokens, .inl (cI, 160, .inl v1_tokens)), (h1_starts, .inl (cI, 160, .inl v1_starts)), (h1_numbers, .inl (cI, 160, .inl v1_numbers))] o.1 :=
  CI_of (cc := cX6_readName) (nL := 3) (ret := (some .boolean)) (by decide) rfl (Nat.le_of_ble_eq_true rfl) rfl (fun p e s m args below meth c A h => tfX6_readName h hF)
/-! X6_readInto -/
abbrev rmX6_readInto : Room := { frames := 2, cells := 0, slots := 0, locals := 44 }
theorem uX6_readInto_inX6 : ∀ w ∈ wsX60, w ∈ wsX6_readInto := by decide +kernel
theorem uX6_readInto_f15 : Cond.fieldLink RX6 15 "LeafAsks$Tree" "fresh" "[I" ∈ wsX6_readInto := by decide +kernel
theorem uX6_readInto_inX5 : ∀ w ∈ wsX50, w ∈ wsX6_readInto := by decide +kernel
theorem uX6_readInto_f89 : Cond.fieldLink RX6 89 "LeafAsks$Text" "number" "I" ∈ wsX6_readInto := by decide +kernel
noncomputable def fX6_readInto (v2_size : Int32) (v2_length : Int32) (v2_tokens : (Nat → Int32)) (v2_starts : (Nat → Int32)) (v2_numbers : (Nat → Int32)) (x1 : Int32) (x3 : Int32) (x4 : Int32) (v0_fresh : (Nat → Int32)) (v2_at : Int32) (v2_token : Int32) (v2_start : Int32) (v2_number : Int32) : Option (Int32 × (Nat → Int32) × Int32 × Int32 × Int32 × Int32) :=
  if x1 < (0 : Int32) then some (((0 : Int32), v0_fresh, v2_at, v2_token, v2_start, v2_number)) else if (7 : Int32) ≤ x1 then some (((0 : Int32), v0_fresh, v2_at, v2_token, v2_start, v2_number)) else bd (fX5_takesNumber v2_size v2_length v2_tokens v2_starts v2_numbers x3 x4 v2_at v2_token v2_start v2_number) (fun r14 => if r14.1 = (0 : Int32) then some (((0 : Int32), v0_fresh, r14.2.1, r14.2.2.1, r14.2.2.2.1, r14.2.2.2.2)) else gin x1 7 (some (((1 : Int32), (upd v0_fresh x1.toNatClampNeg r14.2.2.2.2), r14.2.1, r14.2.2.1, r14.2.2.2.1, r14.2.2.2.2))))
set_option maxRecDepth 100000 in
set_option maxHeartbeats 4000000 in
theorem tfX6_readInto {p : Program} {l : Launch} {e : Env} {s : State} {m : MethodId} {args : Array Value} {below : List Frame} {meth : Method} {c : Code} {A : Nat → Prop} {D : va_G} {cI cZ : ClassId} (h : Cx p s m args meth c A D cI cZ 5 cX6_readInto RX6 wsX6_readInto (some .boolean)) {h0 h0_data h0_fresh h2 h2_letters h2_tokens h2_starts h2_numbers : Nat} {x1 : Int32} {x3 : Int32} {x4 : Int32} {v0_size : Int32} {v0_data : (Nat → Int32)} {v2_size : Int32} {v2_length : Int32} {v2_letters : (Nat → Int32)} {v2_tokens : (Nat → Int32)} {v2_starts : (Nat → Int32)} {v2_numbers : (Nat → Int32)} {v0_fresh : (Nat → Int32)} {v2_at : Int32} {v2_token : Int32} {v2_start : Int32} {v2_number : Int32} {o : Int32 × (Nat → Int32) × Int32 × Int32 × Int32 × Int32} (hF : fX6_readInto v2_size v2_length v2_tokens v2_starts v2_numbers x1 x3 x4 v0_fresh v2_at v2_token v2_start v2_number = some o) : V p l e rmX6_readInto s m args below meth c A D 5 (QI D [(h0, .inr (6, [.ref h0_data, .ref h0_fresh, .int v0_size])), (h0_data, .inl (cI, 56, .inl v0_data)), (h0_fresh, .inl (cI, 7, .inl o.2.1)), (h2, .inr (5, [.ref h2_letters, .ref h2_tokens, .ref h2_starts, .ref h2_numbers, .int v2_size, .int o.2.2.1, .int v2_length, .int o.2.2.2.1, .int o.2.2.2.2.1, .int o.2.2.2.2.2])), (h2_letters, .inl (cI, 160, .inl v2_letters)), (h2_tokens, .inl (cI, 160, .inl v2_tokens)), (h2_starts, .inl (cI, 160, .inl v2_starts)), (h2_numbers, .inl (cI, 160, .inl v2_numbers))] o.1 A below args s) [(h0, .inr (6, [.ref h0_data, .ref h0_fresh, .int v0_size])), (h0_data, .inl (cI, 56, .inl v0_data)), (h0_fresh, .inl (cI, 7, .inl v0_fresh)), (h2, .inr (5, [.ref h2_letters, .ref h2_tokens, .ref h2_starts, .ref h2_numbers, .int v2_size, .int v2_at, .int v2_length, .int v2_token, .int v2_start, .int v2_number])), (h2_letters, .inl (cI, 160, .inl v2_letters)), (h2_tokens, .inl (cI, 160, .inl v2_tokens)), (h2_starts, .inl (cI, 160, .inl v2_starts)), (h2_numbers, .inl (cI, 160, .inl v2_numbers))] 0 [(0, .ref h0), (1, .int x1), (2, .ref h2), (3, .int x3), (4, .int x4)] [] := by
  unfold fX6_readInto at hF
  refine V_iload_n (pc := 0) h 1 dX6_readInto_0 rfl ?_
  refine V_if_lt (pc := 1) h (tgt := 20) dX6_readInto_1 (by decide) hF (fun hF => ?_) (fun hF => ?_)
  · refine V_iconst (pc := 20) h (v := (0 : Int32)) dX6_readInto_20 (by decide) ?_
    have hF := Option.some.inj hF
    subst hF
    exact V_zret (pc := 21) h (Or.inl rfl) dX6_readInto_21
  · refine V_iload_n (pc := 4) h 1 dX6_readInto_4 rfl ?_
    refine V_bipush (pc := 5) h (v := (7 : Int32)) dX6_readInto_5 (by decide) ?_
    refine V_icmp_ge (pc := 7) h (tgt := 20) dX6_readInto_7 (by decide) hF (fun hF => ?_) (fun hF => ?_)
    · refine V_iconst (pc := 20) h (v := (0 : Int32)) dX6_readInto_20 (by decide) ?_
      have hF := Option.some.inj hF
      subst hF
      exact V_zret (pc := 21) h (Or.inl rfl) dX6_readInto_21
    · refine V_aload_n (pc := 10) h 2 dX6_readInto_10 rfl ?_
      refine V_iload_n (pc := 11) h 3 dX6_readInto_11 rfl ?_
      refine V_iload (pc := 12) h 4 dX6_readInto_12 rfl ?_
      refine V_ciV (pc := 14) h (n := 2) (bytes := cX5_takesNumber) (maxL := 3) (As := [.int x3, .int x4]) (rest := []) gX6_readInto_X5_takesNumber (by decide +kernel) rfl rfl rfl rfl ⟨rfl, rfl⟩ ⟨Nat.le_of_ble_eq_true rfl, Nat.le_of_ble_eq_true rfl⟩ [3, 4, 5, 6, 7] rfl (by decide) rfl (fun r14 => [(h0, .inr (6, [.ref h0_data, .ref h0_fresh, .int v0_size])), (h0_data, .inl (cI, 56, .inl v0_data)), (h0_fresh, .inl (cI, 7, .inl v0_fresh)), (h2, .inr (5, [.ref h2_letters, .ref h2_tokens, .ref h2_starts, .ref h2_numbers, .int v2_size, .int r14.2.1, .int v2_length, .int r14.2.2.1, .int r14.2.2.2.1, .int r14.2.2.2.2])), (h2_letters, .inl (cI, 160, .inl v2_letters)), (h2_tokens, .inl (cI, 160, .inl v2_tokens)), (h2_starts, .inl (cI, 160, .inl v2_starts)), (h2_numbers, .inl (cI, 160, .inl v2_numbers))]) (fun _ => rfl) (fun _ => rfl) rfl (Nat.le_of_ble_eq_true rfl) dX6_readInto_14 hF (fun r14 hG => k_X5_takesNumber l D cI cZ h2 h2_letters h2_tokens h2_starts h2_numbers v2_size v2_at v2_length v2_token v2_start v2_number v2_letters v2_tokens v2_starts v2_numbers x3 x4 hG) (fun r14 hF => ?_)
      refine V_if_ne (pc := 17) h (tgt := 22) dX6_readInto_17 (by decide) hF (fun hF => ?_) (fun hF => ?_)
      · refine V_aload_n (pc := 22) h 0 dX6_readInto_22 rfl ?_
        refine V_get (pc := 23) h uX6_readInto_inX6 0 1 rfl rfl (by decide) uX6_readInto_f15 rfl rfl dX6_readInto_23 ?_
        refine V_iload_n (pc := 26) h 1 dX6_readInto_26 rfl ?_
        refine V_aload_n (pc := 27) h 2 dX6_readInto_27 rfl ?_
        refine V_get (pc := 28) h uX6_readInto_inX5 3 9 rfl rfl (by decide) uX6_readInto_f89 rfl rfl dX6_readInto_28 ?_
        refine V_iast (pc := 31) h 2 rfl [(h0, .inr (6, [.ref h0_data, .ref h0_fresh, .int v0_size])), (h0_data, .inl (cI, 56, .inl v0_data)), (h0_fresh, .inl (cI, 7, .inl (upd v0_fresh x1.toNatClampNeg r14.2.2.2.2))), (h2, .inr (5, [.ref h2_letters, .ref h2_tokens, .ref h2_starts, .ref h2_numbers, .int v2_size, .int r14.2.1, .int v2_length, .int r14.2.2.1, .int r14.2.2.2.1, .int r14.2.2.2.2])), (h2_letters, .inl (cI, 160, .inl v2_letters)), (h2_tokens, .inl (cI, 160, .inl v2_tokens)), (h2_starts, .inl (cI, 160, .inl v2_starts)), (h2_numbers, .inl (cI, 160, .inl v2_numbers))] rfl dX6_readInto_31 hF (fun hF => ?_)
        refine V_iconst (pc := 32) h (v := (1 : Int32)) dX6_readInto_32 (by decide) ?_
        have hF := Option.some.inj hF
        subst hF
        exact V_zret (pc := 33) h (Or.inr rfl) dX6_readInto_33
      · refine V_iconst (pc := 20) h (v := (0 : Int32)) dX6_readInto_20 (by decide) ?_
        have hF := Option.some.inj hF
        subst hF
        exact V_zret (pc := 21) h (Or.inl rfl) dX6_readInto_21
set_option maxRecDepth 100000 in
theorem k_X6_readInto (l : Launch) (D : va_G) (cI cZ : ClassId) (h0 h0_data h0_fresh h2 h2_letters h2_tokens h2_starts h2_numbers : Nat) (v0_size : Int32) (v0_data : (Nat → Int32)) (v0_fresh : (Nat → Int32)) (v2_size : Int32) (v2_at : Int32) (v2_length : Int32) (v2_token : Int32) (v2_start : Int32) (v2_number : Int32) (v2_letters : (Nat → Int32)) (v2_tokens : (Nat → Int32)) (v2_starts : (Nat → Int32)) (v2_numbers : (Nat → Int32)) (x1 : Int32) (x3 : Int32) (x4 : Int32) {o : Int32 × (Nat → Int32) × Int32 × Int32 × Int32 × Int32} (hF : fX6_readInto v2_size v2_length v2_tokens v2_starts v2_numbers x1 x3 x4 v0_fresh v2_at v2_token v2_start v2_number = some o) : CI l yX6_readInto wsX6_readInto rmX6_readInto D cI cZ [.ref h0, .int x1, .ref h2, .int x3, .int x4] [(h0, .inr (6, [.ref h0_data, .ref h0_fresh, .int v0_size])), (h0_data, .inl (cI, 56, .inl v0_data)), (h0_fresh, .inl (cI, 7, .inl v0_fresh)), (h2, .inr (5, [.ref h2_letters, .ref h2_tokens, .ref h2_starts, .ref h2_numbers, .int v2_size, .int v2_at, .int v2_length, .int v2_token, .int v2_start, .int v2_number])), (h2_letters, .inl (cI, 160, .inl v2_letters)), (h2_tokens, .inl (cI, 160, .inl v2_tokens)), (h2_starts, .inl (cI, 160, .inl v2_starts)), (h2_numbers, .inl (cI, 160, .inl v2_numbers))] [(h0, .inr (6, [.ref h0_data, .ref h0_fresh, .int v0_size])), (h0_data, .inl (cI, 56, .inl v0_data)), (h0_fresh, .inl (cI, 7, .inl o.2.1)), (h2, .inr (5, [.ref h2_letters, .ref h2_tokens, .ref h2_starts, .ref h2_numbers, .int v2_size, .int o.2.2.1, .int v2_length, .int o.2.2.2.1, .int o.2.2.2.2.1, .int o.2.2.2.2.2])), (h2_letters, .inl (cI, 160, .inl v2_letters)), (h2_tokens, .inl (cI, 160, .inl v2_tokens)), (h2_starts, .inl (cI, 160, .inl v2_starts)), (h2_numbers, .inl (cI, 160, .inl v2_numbers))] o.1 :=
  CI_of (cc := cX6_readInto) (nL := 5) (ret := (some .boolean)) (by decide) rfl (Nat.le_of_ble_eq_true rfl) rfl (fun p e s m args below meth c A h => tfX6_readInto h hF)
/-! X6_readBounds -/
abbrev rmX6_readBounds : Room := { frames := 3, cells := 0, slots := 0, locals := 68 }
theorem uX6_readBounds_inX6 : ∀ w ∈ wsX60, w ∈ wsX6_readBounds := by decide +kernel
theorem uX6_readBounds_f15 : Cond.fieldLink RX6 15 "LeafAsks$Tree" "fresh" "[I" ∈ wsX6_readBounds := by decide +kernel
noncomputable def fX6_readBounds (v1_size : Int32) (v1_length : Int32) (v1_tokens : (Nat → Int32)) (v1_starts : (Nat → Int32)) (v1_numbers : (Nat → Int32)) (v0_fresh : (Nat → Int32)) (v1_at : Int32) (v1_token : Int32) (v1_start : Int32) (v1_number : Int32) : Option (Int32 × (Nat → Int32) × Int32 × Int32 × Int32 × Int32) :=
  bd (fX6_readInto v1_size v1_length v1_tokens v1_starts v1_numbers (4 : Int32) (0 : Int32) (99 : Int32) v0_fresh v1_at v1_token v1_start v1_number) (fun r6 => if r6.1 = (0 : Int32) then some (((0 : Int32), r6.2.1, r6.2.2.1, r6.2.2.2.1, r6.2.2.2.2.1, r6.2.2.2.2.2)) else gin (4 : Int32) 7 (bd (fX6_readInto v1_size v1_length v1_tokens v1_starts v1_numbers (5 : Int32) (r6.2.1 (4 : Int32).toNatClampNeg) (99 : Int32) r6.2.1 r6.2.2.1 r6.2.2.2.1 r6.2.2.2.2.1 r6.2.2.2.2.2) (fun r23 => if r23.1 = (0 : Int32) then some (((0 : Int32), r23.2.1, r23.2.2.1, r23.2.2.2.1, r23.2.2.2.2.1, r23.2.2.2.2.2)) else gin (4 : Int32) 7 (gin (5 : Int32) 7 (bd (fX6_readInto v1_size v1_length v1_tokens v1_starts v1_numbers (6 : Int32) (r23.2.1 (4 : Int32).toNatClampNeg) (r23.2.1 (5 : Int32).toNatClampNeg) r23.2.1 r23.2.2.1 r23.2.2.2.1 r23.2.2.2.2.1 r23.2.2.2.2.2) (fun r45 => if r45.1 = (0 : Int32) then some (((0 : Int32), r45.2.1, r45.2.2.1, r45.2.2.2.1, r45.2.2.2.2.1, r45.2.2.2.2.2)) else some (((1 : Int32), r45.2.1, r45.2.2.1, r45.2.2.2.1, r45.2.2.2.2.1, r45.2.2.2.2.2))))))))
set_option maxRecDepth 100000 in
set_option maxHeartbeats 4000000 in
theorem tfX6_readBounds {p : Program} {l : Launch} {e : Env} {s : State} {m : MethodId} {args : Array Value} {below : List Frame} {meth : Method} {c : Code} {A : Nat → Prop} {D : va_G} {cI cZ : ClassId} (h : Cx p s m args meth c A D cI cZ 2 cX6_readBounds RX6 wsX6_readBounds (some .boolean)) {h0 h0_data h0_fresh h1 h1_letters h1_tokens h1_starts h1_numbers : Nat} {v0_size : Int32} {v0_data : (Nat → Int32)} {v1_size : Int32} {v1_length : Int32} {v1_letters : (Nat → Int32)} {v1_tokens : (Nat → Int32)} {v1_starts : (Nat → Int32)} {v1_numbers : (Nat → Int32)} {v0_fresh : (Nat → Int32)} {v1_at : Int32} {v1_token : Int32} {v1_start : Int32} {v1_number : Int32} {o : Int32 × (Nat → Int32) × Int32 × Int32 × Int32 × Int32} (hF : fX6_readBounds v1_size v1_length v1_tokens v1_starts v1_numbers v0_fresh v1_at v1_token v1_start v1_number = some o) : V p l e rmX6_readBounds s m args below meth c A D 2 (QI D [(h0, .inr (6, [.ref h0_data, .ref h0_fresh, .int v0_size])), (h0_data, .inl (cI, 56, .inl v0_data)), (h0_fresh, .inl (cI, 7, .inl o.2.1)), (h1, .inr (5, [.ref h1_letters, .ref h1_tokens, .ref h1_starts, .ref h1_numbers, .int v1_size, .int o.2.2.1, .int v1_length, .int o.2.2.2.1, .int o.2.2.2.2.1, .int o.2.2.2.2.2])), (h1_letters, .inl (cI, 160, .inl v1_letters)), (h1_tokens, .inl (cI, 160, .inl v1_tokens)), (h1_starts, .inl (cI, 160, .inl v1_starts)), (h1_numbers, .inl (cI, 160, .inl v1_numbers))] o.1 A below args s) [(h0, .inr (6, [.ref h0_data, .ref h0_fresh, .int v0_size])), (h0_data, .inl (cI, 56, .inl v0_data)), (h0_fresh, .inl (cI, 7, .inl v0_fresh)), (h1, .inr (5, [.ref h1_letters, .ref h1_tokens, .ref h1_starts, .ref h1_numbers, .int v1_size, .int v1_at, .int v1_length, .int v1_token, .int v1_start, .int v1_number])), (h1_letters, .inl (cI, 160, .inl v1_letters)), (h1_tokens, .inl (cI, 160, .inl v1_tokens)), (h1_starts, .inl (cI, 160, .inl v1_starts)), (h1_numbers, .inl (cI, 160, .inl v1_numbers))] 0 [(0, .ref h0), (1, .ref h1)] [] := by
  unfold fX6_readBounds at hF
  refine V_aload_n (pc := 0) h 0 dX6_readBounds_0 rfl ?_
  refine V_iconst (pc := 1) h (v := (4 : Int32)) dX6_readBounds_1 (by decide) ?_
  refine V_aload_n (pc := 2) h 1 dX6_readBounds_2 rfl ?_
  refine V_iconst (pc := 3) h (v := (0 : Int32)) dX6_readBounds_3 (by decide) ?_
  refine V_bipush (pc := 4) h (v := (99 : Int32)) dX6_readBounds_4 (by decide) ?_
  refine V_ciVA (pc := 6) h (n := 4) (bytes := cX6_readInto) (maxL := 5) (As := [.int (4 : Int32), .ref h1, .int (0 : Int32), .int (99 : Int32)]) (rest := []) gX6_readBounds_X6_readInto (by decide +kernel) rfl rfl rfl rfl ⟨rfl, rfl⟩ ⟨Nat.le_of_ble_eq_true rfl, Nat.le_of_ble_eq_true rfl⟩ rfl rfl (Nat.le_of_ble_eq_true rfl) dX6_readBounds_6 hF (fun r6 hG => k_X6_readInto l D cI cZ h0 h0_data h0_fresh h1 h1_letters h1_tokens h1_starts h1_numbers v0_size v0_data v0_fresh v1_size v1_at v1_length v1_token v1_start v1_number v1_letters v1_tokens v1_starts v1_numbers (4 : Int32) (0 : Int32) (99 : Int32) hG) (fun r6 hF => ?_)
  refine V_if_eq (pc := 9) h (tgt := 55) dX6_readBounds_9 (by decide) hF (fun hF => ?_) (fun hF => ?_)
  · refine V_iconst (pc := 55) h (v := (0 : Int32)) dX6_readBounds_55 (by decide) ?_
    have hF := Option.some.inj hF
    subst hF
    exact V_zret (pc := 56) h (Or.inl rfl) dX6_readBounds_56
  · refine V_aload_n (pc := 12) h 0 dX6_readBounds_12 rfl ?_
    refine V_iconst (pc := 13) h (v := (5 : Int32)) dX6_readBounds_13 (by decide) ?_
    refine V_aload_n (pc := 14) h 1 dX6_readBounds_14 rfl ?_
    refine V_aload_n (pc := 15) h 0 dX6_readBounds_15 rfl ?_
    refine V_get (pc := 16) h uX6_readBounds_inX6 0 1 rfl rfl (by decide) uX6_readBounds_f15 rfl rfl dX6_readBounds_16 ?_
    refine V_iconst (pc := 19) h (v := (4 : Int32)) dX6_readBounds_19 (by decide) ?_
    refine V_iald (pc := 20) h 2 rfl dX6_readBounds_20 hF (fun hF => ?_)
    refine V_bipush (pc := 21) h (v := (99 : Int32)) dX6_readBounds_21 (by decide) ?_
    refine V_ciVA (pc := 23) h (n := 4) (bytes := cX6_readInto) (maxL := 5) (As := [.int (5 : Int32), .ref h1, .int (r6.2.1 (4 : Int32).toNatClampNeg), .int (99 : Int32)]) (rest := []) gX6_readBounds_X6_readInto (by decide +kernel) rfl rfl rfl rfl ⟨rfl, rfl⟩ ⟨Nat.le_of_ble_eq_true rfl, Nat.le_of_ble_eq_true rfl⟩ rfl rfl (Nat.le_of_ble_eq_true rfl) dX6_readBounds_23 hF (fun r23 hG => k_X6_readInto l D cI cZ h0 h0_data h0_fresh h1 h1_letters h1_tokens h1_starts h1_numbers v0_size v0_data r6.2.1 v1_size r6.2.2.1 v1_length r6.2.2.2.1 r6.2.2.2.2.1 r6.2.2.2.2.2 v1_letters v1_tokens v1_starts v1_numbers (5 : Int32) (r6.2.1 (4 : Int32).toNatClampNeg) (99 : Int32) hG) (fun r23 hF => ?_)
    refine V_if_eq (pc := 26) h (tgt := 55) dX6_readBounds_26 (by decide) hF (fun hF => ?_) (fun hF => ?_)
    · refine V_iconst (pc := 55) h (v := (0 : Int32)) dX6_readBounds_55 (by decide) ?_
      have hF := Option.some.inj hF
      subst hF
      exact V_zret (pc := 56) h (Or.inl rfl) dX6_readBounds_56
    · refine V_aload_n (pc := 29) h 0 dX6_readBounds_29 rfl ?_
      refine V_bipush (pc := 30) h (v := (6 : Int32)) dX6_readBounds_30 (by decide) ?_
      refine V_aload_n (pc := 32) h 1 dX6_readBounds_32 rfl ?_
      refine V_aload_n (pc := 33) h 0 dX6_readBounds_33 rfl ?_
      refine V_get (pc := 34) h uX6_readBounds_inX6 0 1 rfl rfl (by decide) uX6_readBounds_f15 rfl rfl dX6_readBounds_34 ?_
      refine V_iconst (pc := 37) h (v := (4 : Int32)) dX6_readBounds_37 (by decide) ?_
      refine V_iald (pc := 38) h 2 rfl dX6_readBounds_38 hF (fun hF => ?_)
      refine V_aload_n (pc := 39) h 0 dX6_readBounds_39 rfl ?_
      refine V_get (pc := 40) h uX6_readBounds_inX6 0 1 rfl rfl (by decide) uX6_readBounds_f15 rfl rfl dX6_readBounds_40 ?_
      refine V_iconst (pc := 43) h (v := (5 : Int32)) dX6_readBounds_43 (by decide) ?_
      refine V_iald (pc := 44) h 2 rfl dX6_readBounds_44 hF (fun hF => ?_)
      refine V_ciVA (pc := 45) h (n := 4) (bytes := cX6_readInto) (maxL := 5) (As := [.int (6 : Int32), .ref h1, .int (r23.2.1 (4 : Int32).toNatClampNeg), .int (r23.2.1 (5 : Int32).toNatClampNeg)]) (rest := []) gX6_readBounds_X6_readInto (by decide +kernel) rfl rfl rfl rfl ⟨rfl, rfl⟩ ⟨Nat.le_of_ble_eq_true rfl, Nat.le_of_ble_eq_true rfl⟩ rfl rfl (Nat.le_of_ble_eq_true rfl) dX6_readBounds_45 hF (fun r45 hG => k_X6_readInto l D cI cZ h0 h0_data h0_fresh h1 h1_letters h1_tokens h1_starts h1_numbers v0_size v0_data r23.2.1 v1_size r23.2.2.1 v1_length r23.2.2.2.1 r23.2.2.2.2.1 r23.2.2.2.2.2 v1_letters v1_tokens v1_starts v1_numbers (6 : Int32) (r23.2.1 (4 : Int32).toNatClampNeg) (r23.2.1 (5 : Int32).toNatClampNeg) hG) (fun r45 hF => ?_)
      refine V_if_eq (pc := 48) h (tgt := 55) dX6_readBounds_48 (by decide) hF (fun hF => ?_) (fun hF => ?_)
      · refine V_iconst (pc := 55) h (v := (0 : Int32)) dX6_readBounds_55 (by decide) ?_
        have hF := Option.some.inj hF
        subst hF
        exact V_zret (pc := 56) h (Or.inl rfl) dX6_readBounds_56
      · refine V_iconst (pc := 51) h (v := (1 : Int32)) dX6_readBounds_51 (by decide) ?_
        refine V_goto (pc := 52) h (tgt := 56) dX6_readBounds_52 (by decide) ?_
        have hF := Option.some.inj hF
        subst hF
        exact V_zret (pc := 56) h (Or.inr rfl) dX6_readBounds_56
set_option maxRecDepth 100000 in
theorem k_X6_readBounds (l : Launch) (D : va_G) (cI cZ : ClassId) (h0 h0_data h0_fresh h1 h1_letters h1_tokens h1_starts h1_numbers : Nat) (v0_size : Int32) (v0_data : (Nat → Int32)) (v0_fresh : (Nat → Int32)) (v1_size : Int32) (v1_at : Int32) (v1_length : Int32) (v1_token : Int32) (v1_start : Int32) (v1_number : Int32) (v1_letters : (Nat → Int32)) (v1_tokens : (Nat → Int32)) (v1_starts : (Nat → Int32)) (v1_numbers : (Nat → Int32)) {o : Int32 × (Nat → Int32) × Int32 × Int32 × Int32 × Int32} (hF : fX6_readBounds v1_size v1_length v1_tokens v1_starts v1_numbers v0_fresh v1_at v1_token v1_start v1_number = some o) : CI l yX6_readBounds wsX6_readBounds rmX6_readBounds D cI cZ [.ref h0, .ref h1] [(h0, .inr (6, [.ref h0_data, .ref h0_fresh, .int v0_size])), (h0_data, .inl (cI, 56, .inl v0_data)), (h0_fresh, .inl (cI, 7, .inl v0_fresh)), (h1, .inr (5, [.ref h1_letters, .ref h1_tokens, .ref h1_starts, .ref h1_numbers, .int v1_size, .int v1_at, .int v1_length, .int v1_token, .int v1_start, .int v1_number])), (h1_letters, .inl (cI, 160, .inl v1_letters)), (h1_tokens, .inl (cI, 160, .inl v1_tokens)), (h1_starts, .inl (cI, 160, .inl v1_starts)), (h1_numbers, .inl (cI, 160, .inl v1_numbers))] [(h0, .inr (6, [.ref h0_data, .ref h0_fresh, .int v0_size])), (h0_data, .inl (cI, 56, .inl v0_data)), (h0_fresh, .inl (cI, 7, .inl o.2.1)), (h1, .inr (5, [.ref h1_letters, .ref h1_tokens, .ref h1_starts, .ref h1_numbers, .int v1_size, .int o.2.2.1, .int v1_length, .int o.2.2.2.1, .int o.2.2.2.2.1, .int o.2.2.2.2.2])), (h1_letters, .inl (cI, 160, .inl v1_letters)), (h1_tokens, .inl (cI, 160, .inl v1_tokens)), (h1_starts, .inl (cI, 160, .inl v1_starts)), (h1_numbers, .inl (cI, 160, .inl v1_numbers))] o.1 :=
  CI_of (cc := cX6_readBounds) (nL := 2) (ret := (some .boolean)) (by decide) rfl (Nat.le_of_ble_eq_true rfl) rfl (fun p e s m args below meth c A h => tfX6_readBounds h hF)
/-! X6_tables -/
abbrev rmX6_tables : Room := { frames := 2, cells := 0, slots := 0, locals := 46 }
theorem uX6_tables_inX6 : ∀ w ∈ wsX60, w ∈ wsX6_tables := by decide +kernel
theorem uX6_tables_f24 : Cond.fieldLink RX6 24 "LeafAsks$Tree" "size" "I" ∈ wsX6_tables := by decide +kernel
noncomputable def fX6_tables (v0_size : Int32) (v0_data : (Nat → Int32)) : Option (Int32) :=
  bd (fX6_tablesAhead v0_size v0_data v0_size) (fun r5 => some r5)
set_option maxRecDepth 100000 in
set_option maxHeartbeats 4000000 in
theorem tfX6_tables {p : Program} {l : Launch} {e : Env} {s : State} {m : MethodId} {args : Array Value} {below : List Frame} {meth : Method} {c : Code} {A : Nat → Prop} {D : va_G} {cI cZ : ClassId} (h : Cx p s m args meth c A D cI cZ 1 cX6_tables RX6 wsX6_tables (some .int)) {h0 h0_data h0_fresh : Nat} {v0_size : Int32} {v0_data : (Nat → Int32)} {v0_fresh : (Nat → Int32)} {o : Int32} (hF : fX6_tables v0_size v0_data = some o) : V p l e rmX6_tables s m args below meth c A D 1 (QI D [(h0, .inr (6, [.ref h0_data, .ref h0_fresh, .int v0_size])), (h0_data, .inl (cI, 56, .inl v0_data)), (h0_fresh, .inl (cI, 7, .inl v0_fresh))] o A below args s) [(h0, .inr (6, [.ref h0_data, .ref h0_fresh, .int v0_size])), (h0_data, .inl (cI, 56, .inl v0_data)), (h0_fresh, .inl (cI, 7, .inl v0_fresh))] 0 [(0, .ref h0)] [] := by
  unfold fX6_tables at hF
  refine V_aload_n (pc := 0) h 0 dX6_tables_0 rfl ?_
  refine V_aload_n (pc := 1) h 0 dX6_tables_1 rfl ?_
  refine V_get (pc := 2) h uX6_tables_inX6 0 2 rfl rfl (by decide) uX6_tables_f24 rfl rfl dX6_tables_2 ?_
  refine V_ciVA (pc := 5) h (n := 1) (bytes := cX6_tablesAhead) (maxL := 4) (As := [.int v0_size]) (rest := []) gX6_tables_X6_tablesAhead (by decide +kernel) rfl rfl rfl rfl ⟨rfl, rfl⟩ ⟨Nat.le_of_ble_eq_true rfl, Nat.le_of_ble_eq_true rfl⟩ rfl rfl (Nat.le_of_ble_eq_true rfl) dX6_tables_5 hF (fun r5 hG => k_X6_tablesAhead l D cI cZ h0 h0_data h0_fresh v0_size v0_data v0_fresh v0_size hG) (fun r5 hF => ?_)
  have hF := Option.some.inj hF
  subst hF
  exact V_iret (pc := 8) h dX6_tables_8
set_option maxRecDepth 100000 in
theorem k_X6_tables (l : Launch) (D : va_G) (cI cZ : ClassId) (h0 h0_data h0_fresh : Nat) (v0_size : Int32) (v0_data : (Nat → Int32)) (v0_fresh : (Nat → Int32)) {o : Int32} (hF : fX6_tables v0_size v0_data = some o) : CI l yX6_tables wsX6_tables rmX6_tables D cI cZ [.ref h0] [(h0, .inr (6, [.ref h0_data, .ref h0_fresh, .int v0_size])), (h0_data, .inl (cI, 56, .inl v0_data)), (h0_fresh, .inl (cI, 7, .inl v0_fresh))] [(h0, .inr (6, [.ref h0_data, .ref h0_fresh, .int v0_size])), (h0_data, .inl (cI, 56, .inl v0_data)), (h0_fresh, .inl (cI, 7, .inl v0_fresh))] o :=
  CI_of (cc := cX6_tables) (nL := 1) (ret := (some .int)) (by decide) rfl (Nat.le_of_ble_eq_true rfl) rfl (fun p e s m args below meth c A h => tfX6_tables h hF)
/-! X6_readBranch -/
abbrev rmX6_readBranch : Room := { frames := 4, cells := 0, slots := 0, locals := 89 }
theorem uX6_readBranch_inX6 : ∀ w ∈ wsX60, w ∈ wsX6_readBranch := by decide +kernel
theorem uX6_readBranch_f15 : Cond.fieldLink RX6 15 "LeafAsks$Tree" "fresh" "[I" ∈ wsX6_readBranch := by decide +kernel
theorem uX6_readBranch_inX5 : ∀ w ∈ wsX50, w ∈ wsX6_readBranch := by decide +kernel
theorem uX6_readBranch_f68 : Cond.fieldLink RX6 68 "LeafAsks$Text" "token" "I" ∈ wsX6_readBranch := by decide +kernel
noncomputable def fX6_readBranch (v0_size : Int32) (v0_data : (Nat → Int32)) (v1_size : Int32) (v1_length : Int32) (v1_tokens : (Nat → Int32)) (v1_starts : (Nat → Int32)) (v1_numbers : (Nat → Int32)) (v0_fresh : (Nat → Int32)) (v1_at : Int32) (v1_token : Int32) (v1_start : Int32) (v1_number : Int32) : Option (Int32 × (Nat → Int32) × Int32 × Int32 × Int32 × Int32) :=
  bd (fJ7_fill_53178 7 (0 : Int32) v0_fresh) (fun r5 => if v1_token = (99 : Int32) then gin (0 : Int32) 7 (bd (fX6_readName v0_size v0_data v1_size v1_length v1_tokens v1_starts v1_numbers (upd r5 (0 : Int32).toNatClampNeg (1 : Int32)) v1_at v1_token v1_start v1_number) (fun r95 => if r95.1 = (0 : Int32) then some (((0 : Int32), r95.2.1, r95.2.2.1, r95.2.2.2.1, r95.2.2.2.2.1, r95.2.2.2.2.2)) else bd (fX6_readInto v1_size v1_length v1_tokens v1_starts v1_numbers (2 : Int32) (1 : Int32) (9 : Int32) r95.2.1 r95.2.2.1 r95.2.2.2.1 r95.2.2.2.2.1 r95.2.2.2.2.2) (fun r107 => if r107.1 = (0 : Int32) then some (((0 : Int32), r107.2.1, r107.2.2.1, r107.2.2.2.1, r107.2.2.2.2.1, r107.2.2.2.2.2)) else bd (fX5_takes v1_size v1_length v1_tokens v1_starts v1_numbers (59 : Int32) r107.2.2.1 r107.2.2.2.1 r107.2.2.2.2.1 r107.2.2.2.2.2) (fun r116 => if r116.1 = (0 : Int32) then some (((0 : Int32), r107.2.1, r116.2.1, r116.2.2.1, r116.2.2.2.1, r116.2.2.2.2)) else some (((1 : Int32), r107.2.1, r116.2.1, r116.2.2.1, r116.2.2.2.1, r116.2.2.2.2)))))) else if v1_token = (110 : Int32) then gin (0 : Int32) 7 (bd (fX6_readName v0_size v0_data v1_size v1_length v1_tokens v1_starts v1_numbers (upd r5 (0 : Int32).toNatClampNeg (0 : Int32)) v1_at v1_token v1_start v1_number) (fun r57 => if r57.1 = (0 : Int32) then some (((0 : Int32), r57.2.1, r57.2.2.1, r57.2.2.2.1, r57.2.2.2.2.1, r57.2.2.2.2.2)) else bd (fX6_readBounds v1_size v1_length v1_tokens v1_starts v1_numbers r57.2.1 r57.2.2.1 r57.2.2.2.1 r57.2.2.2.2.1 r57.2.2.2.2.2) (fun r65 => if r65.1 = (0 : Int32) then some (((0 : Int32), r65.2.1, r65.2.2.1, r65.2.2.2.1, r65.2.2.2.2.1, r65.2.2.2.2.2)) else bd (fX5_takes v1_size v1_length v1_tokens v1_starts v1_numbers (59 : Int32) r65.2.2.1 r65.2.2.2.1 r65.2.2.2.2.1 r65.2.2.2.2.2) (fun r74 => if r74.1 = (0 : Int32) then some (((0 : Int32), r65.2.1, r74.2.1, r74.2.2.1, r74.2.2.2.1, r74.2.2.2.2)) else some (((1 : Int32), r65.2.1, r74.2.1, r74.2.2.1, r74.2.2.2.1, r74.2.2.2.2)))))) else if v1_token = (116 : Int32) then gin (0 : Int32) 7 (bd (fX6_tables v0_size v0_data) (fun r136 => if (2 : Int32) ≤ r136 then some (((0 : Int32), (upd r5 (0 : Int32).toNatClampNeg (2 : Int32)), v1_at, v1_token, v1_start, v1_number)) else bd (fX6_readName v0_size v0_data v1_size v1_length v1_tokens v1_starts v1_numbers (upd r5 (0 : Int32).toNatClampNeg (2 : Int32)) v1_at v1_token v1_start v1_number) (fun r145 => if r145.1 = (0 : Int32) then some (((0 : Int32), r145.2.1, r145.2.2.1, r145.2.2.2.1, r145.2.2.2.2.1, r145.2.2.2.2.2)) else bd (fX6_readInto v1_size v1_length v1_tokens v1_starts v1_numbers (3 : Int32) (1 : Int32) (3 : Int32) r145.2.1 r145.2.2.1 r145.2.2.2.1 r145.2.2.2.2.1 r145.2.2.2.2.2) (fun r156 => if r156.1 = (0 : Int32) then some (((0 : Int32), r156.2.1, r156.2.2.1, r156.2.2.2.1, r156.2.2.2.2.1, r156.2.2.2.2.2)) else bd (fX5_takes v1_size v1_length v1_tokens v1_starts v1_numbers (59 : Int32) r156.2.2.1 r156.2.2.2.1 r156.2.2.2.2.1 r156.2.2.2.2.2) (fun r165 => if r165.1 = (0 : Int32) then some (((0 : Int32), r156.2.1, r165.2.1, r165.2.2.1, r165.2.2.2.1, r165.2.2.2.2)) else some (((1 : Int32), r156.2.1, r165.2.1, r165.2.2.1, r165.2.2.2.1, r165.2.2.2.2))))))) else some (((0 : Int32), r5, v1_at, v1_token, v1_start, v1_number)))
set_option maxRecDepth 100000 in
set_option maxHeartbeats 4000000 in
theorem tfX6_readBranch {p : Program} {l : Launch} {e : Env} {s : State} {m : MethodId} {args : Array Value} {below : List Frame} {meth : Method} {c : Code} {A : Nat → Prop} {D : va_G} {cI cZ : ClassId} (h : Cx p s m args meth c A D cI cZ 2 cX6_readBranch RX6 wsX6_readBranch (some .boolean)) {h0 h0_data h0_fresh h1 h1_letters h1_tokens h1_starts h1_numbers : Nat} {v0_size : Int32} {v0_data : (Nat → Int32)} {v1_size : Int32} {v1_length : Int32} {v1_letters : (Nat → Int32)} {v1_tokens : (Nat → Int32)} {v1_starts : (Nat → Int32)} {v1_numbers : (Nat → Int32)} {v0_fresh : (Nat → Int32)} {v1_at : Int32} {v1_token : Int32} {v1_start : Int32} {v1_number : Int32} {o : Int32 × (Nat → Int32) × Int32 × Int32 × Int32 × Int32} (hF : fX6_readBranch v0_size v0_data v1_size v1_length v1_tokens v1_starts v1_numbers v0_fresh v1_at v1_token v1_start v1_number = some o) : V p l e rmX6_readBranch s m args below meth c A D 2 (QI D [(h0, .inr (6, [.ref h0_data, .ref h0_fresh, .int v0_size])), (h0_data, .inl (cI, 56, .inl v0_data)), (h0_fresh, .inl (cI, 7, .inl o.2.1)), (h1, .inr (5, [.ref h1_letters, .ref h1_tokens, .ref h1_starts, .ref h1_numbers, .int v1_size, .int o.2.2.1, .int v1_length, .int o.2.2.2.1, .int o.2.2.2.2.1, .int o.2.2.2.2.2])), (h1_letters, .inl (cI, 160, .inl v1_letters)), (h1_tokens, .inl (cI, 160, .inl v1_tokens)), (h1_starts, .inl (cI, 160, .inl v1_starts)), (h1_numbers, .inl (cI, 160, .inl v1_numbers))] o.1 A below args s) [(h0, .inr (6, [.ref h0_data, .ref h0_fresh, .int v0_size])), (h0_data, .inl (cI, 56, .inl v0_data)), (h0_fresh, .inl (cI, 7, .inl v0_fresh)), (h1, .inr (5, [.ref h1_letters, .ref h1_tokens, .ref h1_starts, .ref h1_numbers, .int v1_size, .int v1_at, .int v1_length, .int v1_token, .int v1_start, .int v1_number])), (h1_letters, .inl (cI, 160, .inl v1_letters)), (h1_tokens, .inl (cI, 160, .inl v1_tokens)), (h1_starts, .inl (cI, 160, .inl v1_starts)), (h1_numbers, .inl (cI, 160, .inl v1_numbers))] 0 [(0, .ref h0), (1, .ref h1)] [] := by
  unfold fX6_readBranch at hF
  refine V_aload_n (pc := 0) h 0 dX6_readBranch_0 rfl ?_
  refine V_get (pc := 1) h uX6_readBranch_inX6 0 1 rfl rfl (by decide) uX6_readBranch_f15 rfl rfl dX6_readBranch_1 ?_
  refine V_iconst (pc := 4) h (v := (0 : Int32)) dX6_readBranch_4 (by decide) ?_
  refine V_cvS (pc := 5) h (n := 2) (bytes := cJ7_fill_53178) (maxL := 4) (As := [.ref h0_fresh, .int (0 : Int32)]) (rest := []) gX6_readBranch_J7_fill_53178 (by decide +kernel) rfl ⟨rfl, rfl⟩ ⟨Nat.le_of_ble_eq_true rfl, Nat.le_of_ble_eq_true rfl⟩ [2] rfl (by decide) rfl (fun r5 => [(h0, .inr (6, [.ref h0_data, .ref h0_fresh, .int v0_size])), (h0_data, .inl (cI, 56, .inl v0_data)), (h0_fresh, .inl (cI, 7, .inl r5)), (h1, .inr (5, [.ref h1_letters, .ref h1_tokens, .ref h1_starts, .ref h1_numbers, .int v1_size, .int v1_at, .int v1_length, .int v1_token, .int v1_start, .int v1_number])), (h1_letters, .inl (cI, 160, .inl v1_letters)), (h1_tokens, .inl (cI, 160, .inl v1_tokens)), (h1_starts, .inl (cI, 160, .inl v1_starts)), (h1_numbers, .inl (cI, 160, .inl v1_numbers))]) (fun _ => rfl) (fun _ => rfl) rfl (Nat.le_of_ble_eq_true rfl) dX6_readBranch_5 hF (fun r5 hG => k_J7_fill_53178 l D cI cZ h0_fresh 7 v0_fresh (0 : Int32) hG) (fun r5 hF => ?_)
  refine V_aload_n (pc := 8) h 1 dX6_readBranch_8 rfl ?_
  refine V_get (pc := 9) h uX6_readBranch_inX5 3 7 rfl rfl (by decide) uX6_readBranch_f68 rfl rfl dX6_readBranch_9 ?_
  refine V_ite hF (fun hc12_0 hF => ?_) (fun hc12_0 hF => ?_)
  · refine V_lookup (pc := 12) h (tgt := 86) (off := 74) dX6_readBranch_12 (by decide) (by rw [hc12_0] <;> decide) (by decide) ?_
    refine V_aload_n (pc := 86) h 0 dX6_readBranch_86 rfl ?_
    refine V_get (pc := 87) h uX6_readBranch_inX6 0 1 rfl rfl (by decide) uX6_readBranch_f15 rfl rfl dX6_readBranch_87 ?_
    refine V_iconst (pc := 90) h (v := (0 : Int32)) dX6_readBranch_90 (by decide) ?_
    refine V_iconst (pc := 91) h (v := (1 : Int32)) dX6_readBranch_91 (by decide) ?_
    refine V_iast (pc := 92) h 2 rfl [(h0, .inr (6, [.ref h0_data, .ref h0_fresh, .int v0_size])), (h0_data, .inl (cI, 56, .inl v0_data)), (h0_fresh, .inl (cI, 7, .inl (upd r5 (0 : Int32).toNatClampNeg (1 : Int32)))), (h1, .inr (5, [.ref h1_letters, .ref h1_tokens, .ref h1_starts, .ref h1_numbers, .int v1_size, .int v1_at, .int v1_length, .int v1_token, .int v1_start, .int v1_number])), (h1_letters, .inl (cI, 160, .inl v1_letters)), (h1_tokens, .inl (cI, 160, .inl v1_tokens)), (h1_starts, .inl (cI, 160, .inl v1_starts)), (h1_numbers, .inl (cI, 160, .inl v1_numbers))] rfl dX6_readBranch_92 hF (fun hF => ?_)
    refine V_aload_n (pc := 93) h 0 dX6_readBranch_93 rfl ?_
    refine V_aload_n (pc := 94) h 1 dX6_readBranch_94 rfl ?_
    refine V_ciVA (pc := 95) h (n := 1) (bytes := cX6_readName) (maxL := 3) (As := [.ref h1]) (rest := []) gX6_readBranch_X6_readName (by decide +kernel) rfl rfl rfl rfl ⟨rfl, rfl⟩ ⟨Nat.le_of_ble_eq_true rfl, Nat.le_of_ble_eq_true rfl⟩ rfl rfl (Nat.le_of_ble_eq_true rfl) dX6_readBranch_95 hF (fun r95 hG => k_X6_readName l D cI cZ h0 h0_data h0_fresh h1 h1_letters h1_tokens h1_starts h1_numbers v0_size v0_data (upd r5 (0 : Int32).toNatClampNeg (1 : Int32)) v1_size v1_at v1_length v1_token v1_start v1_number v1_letters v1_tokens v1_starts v1_numbers hG) (fun r95 hF => ?_)
    refine V_if_eq (pc := 98) h (tgt := 126) dX6_readBranch_98 (by decide) hF (fun hF => ?_) (fun hF => ?_)
    · refine V_iconst (pc := 126) h (v := (0 : Int32)) dX6_readBranch_126 (by decide) ?_
      have hF := Option.some.inj hF
      subst hF
      exact V_zret (pc := 127) h (Or.inl rfl) dX6_readBranch_127
    · refine V_aload_n (pc := 101) h 0 dX6_readBranch_101 rfl ?_
      refine V_iconst (pc := 102) h (v := (2 : Int32)) dX6_readBranch_102 (by decide) ?_
      refine V_aload_n (pc := 103) h 1 dX6_readBranch_103 rfl ?_
      refine V_iconst (pc := 104) h (v := (1 : Int32)) dX6_readBranch_104 (by decide) ?_
      refine V_bipush (pc := 105) h (v := (9 : Int32)) dX6_readBranch_105 (by decide) ?_
      refine V_ciVA (pc := 107) h (n := 4) (bytes := cX6_readInto) (maxL := 5) (As := [.int (2 : Int32), .ref h1, .int (1 : Int32), .int (9 : Int32)]) (rest := []) gX6_readBranch_X6_readInto (by decide +kernel) rfl rfl rfl rfl ⟨rfl, rfl⟩ ⟨Nat.le_of_ble_eq_true rfl, Nat.le_of_ble_eq_true rfl⟩ rfl rfl (Nat.le_of_ble_eq_true rfl) dX6_readBranch_107 hF (fun r107 hG => k_X6_readInto l D cI cZ h0 h0_data h0_fresh h1 h1_letters h1_tokens h1_starts h1_numbers v0_size v0_data r95.2.1 v1_size r95.2.2.1 v1_length r95.2.2.2.1 r95.2.2.2.2.1 r95.2.2.2.2.2 v1_letters v1_tokens v1_starts v1_numbers (2 : Int32) (1 : Int32) (9 : Int32) hG) (fun r107 hF => ?_)
      refine V_if_eq (pc := 110) h (tgt := 126) dX6_readBranch_110 (by decide) hF (fun hF => ?_) (fun hF => ?_)
      · refine V_iconst (pc := 126) h (v := (0 : Int32)) dX6_readBranch_126 (by decide) ?_
        have hF := Option.some.inj hF
        subst hF
        exact V_zret (pc := 127) h (Or.inl rfl) dX6_readBranch_127
      · refine V_aload_n (pc := 113) h 1 dX6_readBranch_113 rfl ?_
        refine V_bipush (pc := 114) h (v := (59 : Int32)) dX6_readBranch_114 (by decide) ?_
        refine V_ciV (pc := 116) h (n := 1) (bytes := cX5_takes) (maxL := 2) (As := [.int (59 : Int32)]) (rest := []) gX6_readBranch_X5_takes (by decide +kernel) rfl rfl rfl rfl ⟨rfl, rfl⟩ ⟨Nat.le_of_ble_eq_true rfl, Nat.le_of_ble_eq_true rfl⟩ [3, 4, 5, 6, 7] rfl (by decide) rfl (fun r116 => [(h0, .inr (6, [.ref h0_data, .ref h0_fresh, .int v0_size])), (h0_data, .inl (cI, 56, .inl v0_data)), (h0_fresh, .inl (cI, 7, .inl r107.2.1)), (h1, .inr (5, [.ref h1_letters, .ref h1_tokens, .ref h1_starts, .ref h1_numbers, .int v1_size, .int r116.2.1, .int v1_length, .int r116.2.2.1, .int r116.2.2.2.1, .int r116.2.2.2.2])), (h1_letters, .inl (cI, 160, .inl v1_letters)), (h1_tokens, .inl (cI, 160, .inl v1_tokens)), (h1_starts, .inl (cI, 160, .inl v1_starts)), (h1_numbers, .inl (cI, 160, .inl v1_numbers))]) (fun _ => rfl) (fun _ => rfl) rfl (Nat.le_of_ble_eq_true rfl) dX6_readBranch_116 hF (fun r116 hG => k_X5_takes l D cI cZ h1 h1_letters h1_tokens h1_starts h1_numbers v1_size r107.2.2.1 v1_length r107.2.2.2.1 r107.2.2.2.2.1 r107.2.2.2.2.2 v1_letters v1_tokens v1_starts v1_numbers (59 : Int32) hG) (fun r116 hF => ?_)
        refine V_if_eq (pc := 119) h (tgt := 126) dX6_readBranch_119 (by decide) hF (fun hF => ?_) (fun hF => ?_)
        · refine V_iconst (pc := 126) h (v := (0 : Int32)) dX6_readBranch_126 (by decide) ?_
          have hF := Option.some.inj hF
          subst hF
          exact V_zret (pc := 127) h (Or.inl rfl) dX6_readBranch_127
        · refine V_iconst (pc := 122) h (v := (1 : Int32)) dX6_readBranch_122 (by decide) ?_
          refine V_goto (pc := 123) h (tgt := 127) dX6_readBranch_123 (by decide) ?_
          have hF := Option.some.inj hF
          subst hF
          exact V_zret (pc := 127) h (Or.inr rfl) dX6_readBranch_127
  · refine V_ite hF (fun hc12_1 hF => ?_) (fun hc12_1 hF => ?_)
    · refine V_lookup (pc := 12) h (tgt := 48) (off := 36) dX6_readBranch_12 (by decide) (by rw [hc12_1] <;> decide) (by decide) ?_
      refine V_aload_n (pc := 48) h 0 dX6_readBranch_48 rfl ?_
      refine V_get (pc := 49) h uX6_readBranch_inX6 0 1 rfl rfl (by decide) uX6_readBranch_f15 rfl rfl dX6_readBranch_49 ?_
      refine V_iconst (pc := 52) h (v := (0 : Int32)) dX6_readBranch_52 (by decide) ?_
      refine V_iconst (pc := 53) h (v := (0 : Int32)) dX6_readBranch_53 (by decide) ?_
      refine V_iast (pc := 54) h 2 rfl [(h0, .inr (6, [.ref h0_data, .ref h0_fresh, .int v0_size])), (h0_data, .inl (cI, 56, .inl v0_data)), (h0_fresh, .inl (cI, 7, .inl (upd r5 (0 : Int32).toNatClampNeg (0 : Int32)))), (h1, .inr (5, [.ref h1_letters, .ref h1_tokens, .ref h1_starts, .ref h1_numbers, .int v1_size, .int v1_at, .int v1_length, .int v1_token, .int v1_start, .int v1_number])), (h1_letters, .inl (cI, 160, .inl v1_letters)), (h1_tokens, .inl (cI, 160, .inl v1_tokens)), (h1_starts, .inl (cI, 160, .inl v1_starts)), (h1_numbers, .inl (cI, 160, .inl v1_numbers))] rfl dX6_readBranch_54 hF (fun hF => ?_)
      refine V_aload_n (pc := 55) h 0 dX6_readBranch_55 rfl ?_
      refine V_aload_n (pc := 56) h 1 dX6_readBranch_56 rfl ?_
      refine V_ciVA (pc := 57) h (n := 1) (bytes := cX6_readName) (maxL := 3) (As := [.ref h1]) (rest := []) gX6_readBranch_X6_readName (by decide +kernel) rfl rfl rfl rfl ⟨rfl, rfl⟩ ⟨Nat.le_of_ble_eq_true rfl, Nat.le_of_ble_eq_true rfl⟩ rfl rfl (Nat.le_of_ble_eq_true rfl) dX6_readBranch_57 hF (fun r57 hG => k_X6_readName l D cI cZ h0 h0_data h0_fresh h1 h1_letters h1_tokens h1_starts h1_numbers v0_size v0_data (upd r5 (0 : Int32).toNatClampNeg (0 : Int32)) v1_size v1_at v1_length v1_token v1_start v1_number v1_letters v1_tokens v1_starts v1_numbers hG) (fun r57 hF => ?_)
      refine V_if_eq (pc := 60) h (tgt := 84) dX6_readBranch_60 (by decide) hF (fun hF => ?_) (fun hF => ?_)
      · refine V_iconst (pc := 84) h (v := (0 : Int32)) dX6_readBranch_84 (by decide) ?_
        have hF := Option.some.inj hF
        subst hF
        exact V_zret (pc := 85) h (Or.inl rfl) dX6_readBranch_85
      · refine V_aload_n (pc := 63) h 0 dX6_readBranch_63 rfl ?_
        refine V_aload_n (pc := 64) h 1 dX6_readBranch_64 rfl ?_
        refine V_ciVA (pc := 65) h (n := 1) (bytes := cX6_readBounds) (maxL := 2) (As := [.ref h1]) (rest := []) gX6_readBranch_X6_readBounds (by decide +kernel) rfl rfl rfl rfl ⟨rfl, rfl⟩ ⟨Nat.le_of_ble_eq_true rfl, Nat.le_of_ble_eq_true rfl⟩ rfl rfl (Nat.le_of_ble_eq_true rfl) dX6_readBranch_65 hF (fun r65 hG => k_X6_readBounds l D cI cZ h0 h0_data h0_fresh h1 h1_letters h1_tokens h1_starts h1_numbers v0_size v0_data r57.2.1 v1_size r57.2.2.1 v1_length r57.2.2.2.1 r57.2.2.2.2.1 r57.2.2.2.2.2 v1_letters v1_tokens v1_starts v1_numbers hG) (fun r65 hF => ?_)
        refine V_if_eq (pc := 68) h (tgt := 84) dX6_readBranch_68 (by decide) hF (fun hF => ?_) (fun hF => ?_)
        · refine V_iconst (pc := 84) h (v := (0 : Int32)) dX6_readBranch_84 (by decide) ?_
          have hF := Option.some.inj hF
          subst hF
          exact V_zret (pc := 85) h (Or.inl rfl) dX6_readBranch_85
        · refine V_aload_n (pc := 71) h 1 dX6_readBranch_71 rfl ?_
          refine V_bipush (pc := 72) h (v := (59 : Int32)) dX6_readBranch_72 (by decide) ?_
          refine V_ciV (pc := 74) h (n := 1) (bytes := cX5_takes) (maxL := 2) (As := [.int (59 : Int32)]) (rest := []) gX6_readBranch_X5_takes (by decide +kernel) rfl rfl rfl rfl ⟨rfl, rfl⟩ ⟨Nat.le_of_ble_eq_true rfl, Nat.le_of_ble_eq_true rfl⟩ [3, 4, 5, 6, 7] rfl (by decide) rfl (fun r74 => [(h0, .inr (6, [.ref h0_data, .ref h0_fresh, .int v0_size])), (h0_data, .inl (cI, 56, .inl v0_data)), (h0_fresh, .inl (cI, 7, .inl r65.2.1)), (h1, .inr (5, [.ref h1_letters, .ref h1_tokens, .ref h1_starts, .ref h1_numbers, .int v1_size, .int r74.2.1, .int v1_length, .int r74.2.2.1, .int r74.2.2.2.1, .int r74.2.2.2.2])), (h1_letters, .inl (cI, 160, .inl v1_letters)), (h1_tokens, .inl (cI, 160, .inl v1_tokens)), (h1_starts, .inl (cI, 160, .inl v1_starts)), (h1_numbers, .inl (cI, 160, .inl v1_numbers))]) (fun _ => rfl) (fun _ => rfl) rfl (Nat.le_of_ble_eq_true rfl) dX6_readBranch_74 hF (fun r74 hG => k_X5_takes l D cI cZ h1 h1_letters h1_tokens h1_starts h1_numbers v1_size r65.2.2.1 v1_length r65.2.2.2.1 r65.2.2.2.2.1 r65.2.2.2.2.2 v1_letters v1_tokens v1_starts v1_numbers (59 : Int32) hG) (fun r74 hF => ?_)
          refine V_if_eq (pc := 77) h (tgt := 84) dX6_readBranch_77 (by decide) hF (fun hF => ?_) (fun hF => ?_)
          · refine V_iconst (pc := 84) h (v := (0 : Int32)) dX6_readBranch_84 (by decide) ?_
            have hF := Option.some.inj hF
            subst hF
            exact V_zret (pc := 85) h (Or.inl rfl) dX6_readBranch_85
          · refine V_iconst (pc := 80) h (v := (1 : Int32)) dX6_readBranch_80 (by decide) ?_
            refine V_goto (pc := 81) h (tgt := 85) dX6_readBranch_81 (by decide) ?_
            have hF := Option.some.inj hF
            subst hF
            exact V_zret (pc := 85) h (Or.inr rfl) dX6_readBranch_85
    · refine V_ite hF (fun hc12_2 hF => ?_) (fun hc12_2 hF => ?_)
      · refine V_lookup (pc := 12) h (tgt := 128) (off := 116) dX6_readBranch_12 (by decide) (by rw [hc12_2] <;> decide) (by decide) ?_
        refine V_aload_n (pc := 128) h 0 dX6_readBranch_128 rfl ?_
        refine V_get (pc := 129) h uX6_readBranch_inX6 0 1 rfl rfl (by decide) uX6_readBranch_f15 rfl rfl dX6_readBranch_129 ?_
        refine V_iconst (pc := 132) h (v := (0 : Int32)) dX6_readBranch_132 (by decide) ?_
        refine V_iconst (pc := 133) h (v := (2 : Int32)) dX6_readBranch_133 (by decide) ?_
        refine V_iast (pc := 134) h 2 rfl [(h0, .inr (6, [.ref h0_data, .ref h0_fresh, .int v0_size])), (h0_data, .inl (cI, 56, .inl v0_data)), (h0_fresh, .inl (cI, 7, .inl (upd r5 (0 : Int32).toNatClampNeg (2 : Int32)))), (h1, .inr (5, [.ref h1_letters, .ref h1_tokens, .ref h1_starts, .ref h1_numbers, .int v1_size, .int v1_at, .int v1_length, .int v1_token, .int v1_start, .int v1_number])), (h1_letters, .inl (cI, 160, .inl v1_letters)), (h1_tokens, .inl (cI, 160, .inl v1_tokens)), (h1_starts, .inl (cI, 160, .inl v1_starts)), (h1_numbers, .inl (cI, 160, .inl v1_numbers))] rfl dX6_readBranch_134 hF (fun hF => ?_)
        refine V_aload_n (pc := 135) h 0 dX6_readBranch_135 rfl ?_
        refine V_ciV (pc := 136) h (n := 0) (bytes := cX6_tables) (maxL := 1) (As := []) (rest := []) gX6_readBranch_X6_tables (by decide +kernel) rfl rfl rfl rfl ⟨rfl, rfl⟩ ⟨Nat.le_of_ble_eq_true rfl, Nat.le_of_ble_eq_true rfl⟩ [0, 1, 2] rfl (by decide) rfl (fun r136 => [(h0, .inr (6, [.ref h0_data, .ref h0_fresh, .int v0_size])), (h0_data, .inl (cI, 56, .inl v0_data)), (h0_fresh, .inl (cI, 7, .inl (upd r5 (0 : Int32).toNatClampNeg (2 : Int32)))), (h1, .inr (5, [.ref h1_letters, .ref h1_tokens, .ref h1_starts, .ref h1_numbers, .int v1_size, .int v1_at, .int v1_length, .int v1_token, .int v1_start, .int v1_number])), (h1_letters, .inl (cI, 160, .inl v1_letters)), (h1_tokens, .inl (cI, 160, .inl v1_tokens)), (h1_starts, .inl (cI, 160, .inl v1_starts)), (h1_numbers, .inl (cI, 160, .inl v1_numbers))]) (fun _ => rfl) (fun _ => rfl) rfl (Nat.le_of_ble_eq_true rfl) dX6_readBranch_136 hF (fun r136 hG => k_X6_tables l D cI cZ h0 h0_data h0_fresh v0_size v0_data (upd r5 (0 : Int32).toNatClampNeg (2 : Int32)) hG) (fun r136 hF => ?_)
        refine V_iconst (pc := 139) h (v := (2 : Int32)) dX6_readBranch_139 (by decide) ?_
        refine V_icmp_ge (pc := 140) h (tgt := 175) dX6_readBranch_140 (by decide) hF (fun hF => ?_) (fun hF => ?_)
        · refine V_iconst (pc := 175) h (v := (0 : Int32)) dX6_readBranch_175 (by decide) ?_
          have hF := Option.some.inj hF
          subst hF
          exact V_zret (pc := 176) h (Or.inl rfl) dX6_readBranch_176
        · refine V_aload_n (pc := 143) h 0 dX6_readBranch_143 rfl ?_
          refine V_aload_n (pc := 144) h 1 dX6_readBranch_144 rfl ?_
          refine V_ciVA (pc := 145) h (n := 1) (bytes := cX6_readName) (maxL := 3) (As := [.ref h1]) (rest := []) gX6_readBranch_X6_readName (by decide +kernel) rfl rfl rfl rfl ⟨rfl, rfl⟩ ⟨Nat.le_of_ble_eq_true rfl, Nat.le_of_ble_eq_true rfl⟩ rfl rfl (Nat.le_of_ble_eq_true rfl) dX6_readBranch_145 hF (fun r145 hG => k_X6_readName l D cI cZ h0 h0_data h0_fresh h1 h1_letters h1_tokens h1_starts h1_numbers v0_size v0_data (upd r5 (0 : Int32).toNatClampNeg (2 : Int32)) v1_size v1_at v1_length v1_token v1_start v1_number v1_letters v1_tokens v1_starts v1_numbers hG) (fun r145 hF => ?_)
          refine V_if_eq (pc := 148) h (tgt := 175) dX6_readBranch_148 (by decide) hF (fun hF => ?_) (fun hF => ?_)
          · refine V_iconst (pc := 175) h (v := (0 : Int32)) dX6_readBranch_175 (by decide) ?_
            have hF := Option.some.inj hF
            subst hF
            exact V_zret (pc := 176) h (Or.inl rfl) dX6_readBranch_176
          · refine V_aload_n (pc := 151) h 0 dX6_readBranch_151 rfl ?_
            refine V_iconst (pc := 152) h (v := (3 : Int32)) dX6_readBranch_152 (by decide) ?_
            refine V_aload_n (pc := 153) h 1 dX6_readBranch_153 rfl ?_
            refine V_iconst (pc := 154) h (v := (1 : Int32)) dX6_readBranch_154 (by decide) ?_
            refine V_iconst (pc := 155) h (v := (3 : Int32)) dX6_readBranch_155 (by decide) ?_
            refine V_ciVA (pc := 156) h (n := 4) (bytes := cX6_readInto) (maxL := 5) (As := [.int (3 : Int32), .ref h1, .int (1 : Int32), .int (3 : Int32)]) (rest := []) gX6_readBranch_X6_readInto (by decide +kernel) rfl rfl rfl rfl ⟨rfl, rfl⟩ ⟨Nat.le_of_ble_eq_true rfl, Nat.le_of_ble_eq_true rfl⟩ rfl rfl (Nat.le_of_ble_eq_true rfl) dX6_readBranch_156 hF (fun r156 hG => k_X6_readInto l D cI cZ h0 h0_data h0_fresh h1 h1_letters h1_tokens h1_starts h1_numbers v0_size v0_data r145.2.1 v1_size r145.2.2.1 v1_length r145.2.2.2.1 r145.2.2.2.2.1 r145.2.2.2.2.2 v1_letters v1_tokens v1_starts v1_numbers (3 : Int32) (1 : Int32) (3 : Int32) hG) (fun r156 hF => ?_)
            refine V_if_eq (pc := 159) h (tgt := 175) dX6_readBranch_159 (by decide) hF (fun hF => ?_) (fun hF => ?_)
            · refine V_iconst (pc := 175) h (v := (0 : Int32)) dX6_readBranch_175 (by decide) ?_
              have hF := Option.some.inj hF
              subst hF
              exact V_zret (pc := 176) h (Or.inl rfl) dX6_readBranch_176
            · refine V_aload_n (pc := 162) h 1 dX6_readBranch_162 rfl ?_
              refine V_bipush (pc := 163) h (v := (59 : Int32)) dX6_readBranch_163 (by decide) ?_
              refine V_ciV (pc := 165) h (n := 1) (bytes := cX5_takes) (maxL := 2) (As := [.int (59 : Int32)]) (rest := []) gX6_readBranch_X5_takes (by decide +kernel) rfl rfl rfl rfl ⟨rfl, rfl⟩ ⟨Nat.le_of_ble_eq_true rfl, Nat.le_of_ble_eq_true rfl⟩ [3, 4, 5, 6, 7] rfl (by decide) rfl (fun r165 => [(h0, .inr (6, [.ref h0_data, .ref h0_fresh, .int v0_size])), (h0_data, .inl (cI, 56, .inl v0_data)), (h0_fresh, .inl (cI, 7, .inl r156.2.1)), (h1, .inr (5, [.ref h1_letters, .ref h1_tokens, .ref h1_starts, .ref h1_numbers, .int v1_size, .int r165.2.1, .int v1_length, .int r165.2.2.1, .int r165.2.2.2.1, .int r165.2.2.2.2])), (h1_letters, .inl (cI, 160, .inl v1_letters)), (h1_tokens, .inl (cI, 160, .inl v1_tokens)), (h1_starts, .inl (cI, 160, .inl v1_starts)), (h1_numbers, .inl (cI, 160, .inl v1_numbers))]) (fun _ => rfl) (fun _ => rfl) rfl (Nat.le_of_ble_eq_true rfl) dX6_readBranch_165 hF (fun r165 hG => k_X5_takes l D cI cZ h1 h1_letters h1_tokens h1_starts h1_numbers v1_size r156.2.2.1 v1_length r156.2.2.2.1 r156.2.2.2.2.1 r156.2.2.2.2.2 v1_letters v1_tokens v1_starts v1_numbers (59 : Int32) hG) (fun r165 hF => ?_)
              refine V_if_eq (pc := 168) h (tgt := 175) dX6_readBranch_168 (by decide) hF (fun hF => ?_) (fun hF => ?_)
              · refine V_iconst (pc := 175) h (v := (0 : Int32)) dX6_readBranch_175 (by decide) ?_
                have hF := Option.some.inj hF
                subst hF
                exact V_zret (pc := 176) h (Or.inl rfl) dX6_readBranch_176
              · refine V_iconst (pc := 171) h (v := (1 : Int32)) dX6_readBranch_171 (by decide) ?_
                refine V_goto (pc := 172) h (tgt := 176) dX6_readBranch_172 (by decide) ?_
                have hF := Option.some.inj hF
                subst hF
                exact V_zret (pc := 176) h (Or.inr rfl) dX6_readBranch_176
      · refine V_lookup (pc := 12) h (tgt := 177) (off := 165) dX6_readBranch_12 (by decide) ((lv_osw hc12_0 (by decide)).trans ((lv_osw hc12_1 (by decide)).trans ((lv_osw hc12_2 (by decide)).trans (rfl)))) (by decide) ?_
        refine V_iconst (pc := 177) h (v := (0 : Int32)) dX6_readBranch_177 (by decide) ?_
        have hF := Option.some.inj hF
        subst hF
        exact V_zret (pc := 178) h (Or.inl rfl) dX6_readBranch_178
set_option maxRecDepth 100000 in
theorem k_X6_readBranch (l : Launch) (D : va_G) (cI cZ : ClassId) (h0 h0_data h0_fresh h1 h1_letters h1_tokens h1_starts h1_numbers : Nat) (v0_size : Int32) (v0_data : (Nat → Int32)) (v0_fresh : (Nat → Int32)) (v1_size : Int32) (v1_at : Int32) (v1_length : Int32) (v1_token : Int32) (v1_start : Int32) (v1_number : Int32) (v1_letters : (Nat → Int32)) (v1_tokens : (Nat → Int32)) (v1_starts : (Nat → Int32)) (v1_numbers : (Nat → Int32)) {o : Int32 × (Nat → Int32) × Int32 × Int32 × Int32 × Int32} (hF : fX6_readBranch v0_size v0_data v1_size v1_length v1_tokens v1_starts v1_numbers v0_fresh v1_at v1_token v1_start v1_number = some o) : CI l yX6_readBranch wsX6_readBranch rmX6_readBranch D cI cZ [.ref h0, .ref h1] [(h0, .inr (6, [.ref h0_data, .ref h0_fresh, .int v0_size])), (h0_data, .inl (cI, 56, .inl v0_data)), (h0_fresh, .inl (cI, 7, .inl v0_fresh)), (h1, .inr (5, [.ref h1_letters, .ref h1_tokens, .ref h1_starts, .ref h1_numbers, .int v1_size, .int v1_at, .int v1_length, .int v1_token, .int v1_start, .int v1_number])), (h1_letters, .inl (cI, 160, .inl v1_letters)), (h1_tokens, .inl (cI, 160, .inl v1_tokens)), (h1_starts, .inl (cI, 160, .inl v1_starts)), (h1_numbers, .inl (cI, 160, .inl v1_numbers))] [(h0, .inr (6, [.ref h0_data, .ref h0_fresh, .int v0_size])), (h0_data, .inl (cI, 56, .inl v0_data)), (h0_fresh, .inl (cI, 7, .inl o.2.1)), (h1, .inr (5, [.ref h1_letters, .ref h1_tokens, .ref h1_starts, .ref h1_numbers, .int v1_size, .int o.2.2.1, .int v1_length, .int o.2.2.2.1, .int o.2.2.2.2.1, .int o.2.2.2.2.2])), (h1_letters, .inl (cI, 160, .inl v1_letters)), (h1_tokens, .inl (cI, 160, .inl v1_tokens)), (h1_starts, .inl (cI, 160, .inl v1_starts)), (h1_numbers, .inl (cI, 160, .inl v1_numbers))] o.1 :=
  CI_of (cc := cX6_readBranch) (nL := 2) (ret := (some .boolean)) (by decide) rfl (Nat.le_of_ble_eq_true rfl) rfl (fun p e s m args below meth c A h => tfX6_readBranch h hF)
/-! X6_insertFresh -/
abbrev rmX6_insertFresh : Room := { frames := 1, cells := 0, slots := 0, locals := 40 }
theorem uX6_insertFresh_inX6 : ∀ w ∈ wsX60, w ∈ wsX6_insertFresh := by decide +kernel
theorem uX6_insertFresh_f11 : Cond.fieldLink RX6 11 "LeafAsks$Tree" "data" "[I" ∈ wsX6_insertFresh := by decide +kernel
theorem uX6_insertFresh_f24 : Cond.fieldLink RX6 24 "LeafAsks$Tree" "size" "I" ∈ wsX6_insertFresh := by decide +kernel
theorem uX6_insertFresh_ac1 : Cond.methodLink RX6 18 arraycopyName ∈ wsX6_insertFresh := by decide +kernel
theorem uX6_insertFresh_ac2 : Cond.native arraycopyName ∈ wsX6_insertFresh := by decide +kernel
theorem uX6_insertFresh_ac3 : Cond.static arraycopyName ∈ wsX6_insertFresh := by decide +kernel
theorem uX6_insertFresh_ac4 : Cond.initialized "java/lang/System" ∈ wsX6_insertFresh := by decide +kernel
theorem uX6_insertFresh_f15 : Cond.fieldLink RX6 15 "LeafAsks$Tree" "fresh" "[I" ∈ wsX6_insertFresh := by decide +kernel
noncomputable def fX6_insertFresh_b48 (v0_fresh : (Nat → Int32)) (v0_size : Int32) (v0_data : (Nat → Int32)) (x1 : Int32) : Option (Int32 × (Nat → Int32)) :=
  bnd (x1 * (7 : Int32)) (fun x2_52 => gcp x2_52 (x2_52 + (7 : Int32)) ((v0_size - x1) * (7 : Int32)) 56 56 (gcp (0 : Int32) x2_52 (7 : Int32) 7 56 (bnd (v0_size + (1 : Int32)) (fun y100 => some ((y100, (va_cpy v0_fresh (va_cpy v0_data v0_data x2_52.toNatClampNeg (x2_52 + (7 : Int32)).toNatClampNeg ((v0_size - x1) * (7 : Int32)).toNatClampNeg) (0 : Int32).toNatClampNeg x2_52.toNatClampNeg (7 : Int32).toNatClampNeg)))))))
set_option maxRecDepth 100000 in
set_option maxHeartbeats 4000000 in
theorem tfX6_insertFresh_b48 {p : Program} {l : Launch} {e : Env} {s : State} {m : MethodId} {args : Array Value} {below : List Frame} {meth : Method} {c : Code} {A : Nat → Prop} {D : va_G} {cI cZ : ClassId} (h : Cx p s m args meth c A D cI cZ 3 cX6_insertFresh RX6 wsX6_insertFresh none) {h0 h0_data h0_fresh : Nat} {v0_fresh : (Nat → Int32)} {v0_size : Int32} {v0_data : (Nat → Int32)} {x1 : Int32} {o : Int32 × (Nat → Int32)} (hF : fX6_insertFresh_b48 v0_fresh v0_size v0_data x1 = some o) : V p l e rmX6_insertFresh s m args below meth c A D 3 (QV D [(h0, .inr (6, [.ref h0_data, .ref h0_fresh, .int o.1])), (h0_data, .inl (cI, 56, .inl o.2)), (h0_fresh, .inl (cI, 7, .inl v0_fresh))] A below args s) [(h0, .inr (6, [.ref h0_data, .ref h0_fresh, .int v0_size])), (h0_data, .inl (cI, 56, .inl v0_data)), (h0_fresh, .inl (cI, 7, .inl v0_fresh))] 48 [(0, .ref h0), (1, .int x1)] [] := by
  unfold fX6_insertFresh_b48 at hF
  refine V_iload_n (pc := 48) h 1 dX6_insertFresh_48 rfl ?_
  refine V_bipush (pc := 49) h (v := (7 : Int32)) dX6_insertFresh_49 (by decide) ?_
  refine V_imul (pc := 51) h dX6_insertFresh_51 ?_
  refine V_bnd hF (fun x2_52 hF => ?_)
  refine V_istore_n (pc := 52) h [(2, .int x2_52), (0, .ref h0), (1, .int x1)] dX6_insertFresh_52 (by decide) rfl ?_
  refine V_aload_n (pc := 53) h 1 dX6_insertFresh_53 rfl ?_
  refine V_get (pc := 54) h uX6_insertFresh_inX6 0 0 rfl rfl (by decide) uX6_insertFresh_f11 rfl rfl dX6_insertFresh_54 ?_
  refine V_iload_n (pc := 57) h 0 dX6_insertFresh_57 rfl ?_
  refine V_aload_n (pc := 58) h 1 dX6_insertFresh_58 rfl ?_
  refine V_get (pc := 59) h uX6_insertFresh_inX6 0 0 rfl rfl (by decide) uX6_insertFresh_f11 rfl rfl dX6_insertFresh_59 ?_
  refine V_iload_n (pc := 62) h 0 dX6_insertFresh_62 rfl ?_
  refine V_bipush (pc := 63) h (v := (7 : Int32)) dX6_insertFresh_63 (by decide) ?_
  refine V_iadd (pc := 65) h dX6_insertFresh_65 ?_
  refine V_aload_n (pc := 66) h 1 dX6_insertFresh_66 rfl ?_
  refine V_get (pc := 67) h uX6_insertFresh_inX6 0 2 rfl rfl (by decide) uX6_insertFresh_f24 rfl rfl dX6_insertFresh_67 ?_
  refine V_iload_n (pc := 70) h 2 dX6_insertFresh_70 rfl ?_
  refine V_isub (pc := 71) h dX6_insertFresh_71 ?_
  refine V_bipush (pc := 72) h (v := (7 : Int32)) dX6_insertFresh_72 (by decide) ?_
  refine V_imul (pc := 74) h dX6_insertFresh_74 ?_
  refine V_copy (pc := 75) h 1 1 rfl rfl uX6_insertFresh_ac1 uX6_insertFresh_ac2 uX6_insertFresh_ac3 uX6_insertFresh_ac4 [(h0, .inr (6, [.ref h0_data, .ref h0_fresh, .int v0_size])), (h0_data, .inl (cI, 56, .inl (va_cpy v0_data v0_data x2_52.toNatClampNeg (x2_52 + (7 : Int32)).toNatClampNeg ((v0_size - x1) * (7 : Int32)).toNatClampNeg))), (h0_fresh, .inl (cI, 7, .inl v0_fresh))] rfl (Nat.le_of_ble_eq_true rfl) (Nat.le_of_ble_eq_true rfl) dX6_insertFresh_75 hF (fun hF => ?_)
  refine V_aload_n (pc := 78) h 1 dX6_insertFresh_78 rfl ?_
  refine V_get (pc := 79) h uX6_insertFresh_inX6 0 1 rfl rfl (by decide) uX6_insertFresh_f15 rfl rfl dX6_insertFresh_79 ?_
  refine V_iconst (pc := 82) h (v := (0 : Int32)) dX6_insertFresh_82 (by decide) ?_
  refine V_aload_n (pc := 83) h 1 dX6_insertFresh_83 rfl ?_
  refine V_get (pc := 84) h uX6_insertFresh_inX6 0 0 rfl rfl (by decide) uX6_insertFresh_f11 rfl rfl dX6_insertFresh_84 ?_
  refine V_iload_n (pc := 87) h 0 dX6_insertFresh_87 rfl ?_
  refine V_bipush (pc := 88) h (v := (7 : Int32)) dX6_insertFresh_88 (by decide) ?_
  refine V_copy (pc := 90) h 2 1 rfl rfl uX6_insertFresh_ac1 uX6_insertFresh_ac2 uX6_insertFresh_ac3 uX6_insertFresh_ac4 [(h0, .inr (6, [.ref h0_data, .ref h0_fresh, .int v0_size])), (h0_data, .inl (cI, 56, .inl (va_cpy v0_fresh (va_cpy v0_data v0_data x2_52.toNatClampNeg (x2_52 + (7 : Int32)).toNatClampNeg ((v0_size - x1) * (7 : Int32)).toNatClampNeg) (0 : Int32).toNatClampNeg x2_52.toNatClampNeg (7 : Int32).toNatClampNeg))), (h0_fresh, .inl (cI, 7, .inl v0_fresh))] rfl (Nat.le_of_ble_eq_true rfl) (Nat.le_of_ble_eq_true rfl) dX6_insertFresh_90 hF (fun hF => ?_)
  refine V_aload_n (pc := 93) h 1 dX6_insertFresh_93 rfl ?_
  refine V_dup (pc := 94) h dX6_insertFresh_94 rfl ?_
  refine V_get (pc := 95) h uX6_insertFresh_inX6 0 2 rfl rfl (by decide) uX6_insertFresh_f24 rfl rfl dX6_insertFresh_95 ?_
  refine V_iconst (pc := 98) h (v := (1 : Int32)) dX6_insertFresh_98 (by decide) ?_
  refine V_iadd (pc := 99) h dX6_insertFresh_99 ?_
  refine V_bnd hF (fun y100 hF => ?_)
  refine V_put (pc := 100) h uX6_insertFresh_inX6 tyX6 tyX6_ok nmX6 0 2 rfl rfl (by decide) uX6_insertFresh_f24 rfl rfl (by decide +kernel) (Nat.le_of_ble_eq_true rfl) [(h0, .inr (6, [.ref h0_data, .ref h0_fresh, .int y100])), (h0_data, .inl (cI, 56, .inl (va_cpy v0_fresh (va_cpy v0_data v0_data x2_52.toNatClampNeg (x2_52 + (7 : Int32)).toNatClampNeg ((v0_size - x1) * (7 : Int32)).toNatClampNeg) (0 : Int32).toNatClampNeg x2_52.toNatClampNeg (7 : Int32).toNatClampNeg))), (h0_fresh, .inl (cI, 7, .inl v0_fresh))] rfl dX6_insertFresh_100 ?_
  have hF := Option.some.inj hF
  subst hF
  exact V_vret (pc := 103) h dX6_insertFresh_103
noncomputable def fX6_insertFresh_b19 (v0_fresh : (Nat → Int32)) (k19 : Int32 → (Nat → Int32) → Int32 → Option (Int32 × (Nat → Int32))) (v0_size : Int32) (v0_data : (Nat → Int32)) (x1 : Int32) : Option (Int32 × (Nat → Int32)) :=
  if v0_size ≤ x1 then fX6_insertFresh_b48 v0_fresh v0_size v0_data x1 else bd (fX6_field v0_data x1 (1 : Int32)) (fun r30 => gin (1 : Int32) 7 (if (v0_fresh (1 : Int32).toNatClampNeg) ≤ r30 then fX6_insertFresh_b48 v0_fresh v0_size v0_data x1 else bnd (x1 + (1 : Int32)) (fun x1_42 => k19 v0_size v0_data x1_42)))
set_option maxRecDepth 100000 in
set_option maxHeartbeats 4000000 in
theorem tfX6_insertFresh_b19 {p : Program} {l : Launch} {e : Env} {s : State} {m : MethodId} {args : Array Value} {below : List Frame} {meth : Method} {c : Code} {A : Nat → Prop} {D : va_G} {cI cZ : ClassId} (h : Cx p s m args meth c A D cI cZ 3 cX6_insertFresh RX6 wsX6_insertFresh none) {h0 h0_data h0_fresh : Nat} {v0_fresh : (Nat → Int32)} {k19 : Int32 → (Nat → Int32) → Int32 → Option (Int32 × (Nat → Int32))} {v0_size : Int32} {v0_data : (Nat → Int32)} {x1 : Int32} {o : Int32 × (Nat → Int32)} (hk19 : ∀ (v0_size : Int32) (v0_data : (Nat → Int32)) (x1 : Int32), k19 v0_size v0_data x1 = some o → V p l e rmX6_insertFresh s m args below meth c A D 3 (QV D [(h0, .inr (6, [.ref h0_data, .ref h0_fresh, .int o.1])), (h0_data, .inl (cI, 56, .inl o.2)), (h0_fresh, .inl (cI, 7, .inl v0_fresh))] A below args s) [(h0, .inr (6, [.ref h0_data, .ref h0_fresh, .int v0_size])), (h0_data, .inl (cI, 56, .inl v0_data)), (h0_fresh, .inl (cI, 7, .inl v0_fresh))] 19 [(0, .ref h0), (1, .int x1)] []) (hF : fX6_insertFresh_b19 v0_fresh k19 v0_size v0_data x1 = some o) : V p l e rmX6_insertFresh s m args below meth c A D 3 (QV D [(h0, .inr (6, [.ref h0_data, .ref h0_fresh, .int o.1])), (h0_data, .inl (cI, 56, .inl o.2)), (h0_fresh, .inl (cI, 7, .inl v0_fresh))] A below args s) [(h0, .inr (6, [.ref h0_data, .ref h0_fresh, .int v0_size])), (h0_data, .inl (cI, 56, .inl v0_data)), (h0_fresh, .inl (cI, 7, .inl v0_fresh))] 19 [(0, .ref h0), (1, .int x1)] [] := by
  unfold fX6_insertFresh_b19 at hF
  refine V_iload_n (pc := 19) h 1 dX6_insertFresh_19 rfl ?_
  refine V_aload_n (pc := 20) h 0 dX6_insertFresh_20 rfl ?_
  refine V_get (pc := 21) h uX6_insertFresh_inX6 0 2 rfl rfl (by decide) uX6_insertFresh_f24 rfl rfl dX6_insertFresh_21 ?_
  refine V_icmp_ge (pc := 24) h (tgt := 48) dX6_insertFresh_24 (by decide) hF (fun hF => ?_) (fun hF => ?_)
  · exact tfX6_insertFresh_b48 h hF
  · refine V_aload_n (pc := 27) h 0 dX6_insertFresh_27 rfl ?_
    refine V_iload_n (pc := 28) h 1 dX6_insertFresh_28 rfl ?_
    refine V_iconst (pc := 29) h (v := (1 : Int32)) dX6_insertFresh_29 (by decide) ?_
    refine V_ciVA (pc := 30) h (n := 2) (bytes := cX6_field) (maxL := 4) (As := [.int x1, .int (1 : Int32)]) (rest := []) gX6_insertFresh_X6_field (by decide +kernel) rfl rfl rfl rfl ⟨rfl, rfl⟩ ⟨Nat.le_of_ble_eq_true rfl, Nat.le_of_ble_eq_true rfl⟩ rfl rfl (Nat.le_of_ble_eq_true rfl) dX6_insertFresh_30 hF (fun r30 hG => k_X6_field l D cI cZ h0 h0_data h0_fresh v0_size v0_data v0_fresh x1 (1 : Int32) hG) (fun r30 hF => ?_)
    refine V_aload_n (pc := 33) h 0 dX6_insertFresh_33 rfl ?_
    refine V_get (pc := 34) h uX6_insertFresh_inX6 0 1 rfl rfl (by decide) uX6_insertFresh_f15 rfl rfl dX6_insertFresh_34 ?_
    refine V_iconst (pc := 37) h (v := (1 : Int32)) dX6_insertFresh_37 (by decide) ?_
    refine V_iald (pc := 38) h 2 rfl dX6_insertFresh_38 hF (fun hF => ?_)
    refine V_icmp_ge (pc := 39) h (tgt := 48) dX6_insertFresh_39 (by decide) hF (fun hF => ?_) (fun hF => ?_)
    · exact tfX6_insertFresh_b48 h hF
    · refine V_iinc (pc := 42) h 1 (fun x1_42 => [(1, .int x1_42), (0, .ref h0)]) dX6_insertFresh_42 rfl rfl (by decide) (fun _ => rfl) hF (fun x1_42 hF => ?_)
      refine V_goto (pc := 45) h (tgt := 19) dX6_insertFresh_45 (by decide) ?_
      refine V_lv [1, 0] [(0, .ref h0), (1, .int x1_42)] rfl ?_
      exact hk19 _ _ _ hF
noncomputable def fX6_insertFresh_l19 (v0_fresh : (Nat → Int32)) (n : Nat) : Int32 → (Nat → Int32) → Int32 → Option (Int32 × (Nat → Int32)) :=
  Nat.rec (motive := fun _ => Int32 → (Nat → Int32) → Int32 → Option (Int32 × (Nat → Int32))) (fun _ _ _ => none) (fun _ ih => fX6_insertFresh_b19 v0_fresh ih) n
theorem fX6_insertFresh_l19_s (v0_fresh : (Nat → Int32)) (n : Nat) (v0_size : Int32) (v0_data : (Nat → Int32)) (x1 : Int32) : fX6_insertFresh_l19 v0_fresh (n + 1) v0_size v0_data x1 = fX6_insertFresh_b19 v0_fresh (fX6_insertFresh_l19 v0_fresh n) v0_size v0_data x1 := rfl
set_option maxRecDepth 100000 in
set_option maxHeartbeats 4000000 in
theorem tfX6_insertFresh_l19 {p : Program} {l : Launch} {e : Env} {s : State} {m : MethodId} {args : Array Value} {below : List Frame} {meth : Method} {c : Code} {A : Nat → Prop} {D : va_G} {cI cZ : ClassId} (h : Cx p s m args meth c A D cI cZ 3 cX6_insertFresh RX6 wsX6_insertFresh none) {h0 h0_data h0_fresh : Nat} {v0_fresh : (Nat → Int32)} {o : Int32 × (Nat → Int32)} (n : Nat) : ∀ (v0_size : Int32) (v0_data : (Nat → Int32)) (x1 : Int32) (hF : fX6_insertFresh_l19 v0_fresh n v0_size v0_data x1 = some o), V p l e rmX6_insertFresh s m args below meth c A D 3 (QV D [(h0, .inr (6, [.ref h0_data, .ref h0_fresh, .int o.1])), (h0_data, .inl (cI, 56, .inl o.2)), (h0_fresh, .inl (cI, 7, .inl v0_fresh))] A below args s) [(h0, .inr (6, [.ref h0_data, .ref h0_fresh, .int v0_size])), (h0_data, .inl (cI, 56, .inl v0_data)), (h0_fresh, .inl (cI, 7, .inl v0_fresh))] 19 [(0, .ref h0), (1, .int x1)] [] := by
  induction n with
  | zero => intro v0_size v0_data x1 hF; exact nomatch (show (none : Option (Int32 × (Nat → Int32))) = some o from hF)
  | succ n ih => intro v0_size v0_data x1 hF; exact tfX6_insertFresh_b19 (k19 := fX6_insertFresh_l19 v0_fresh n) h ih hF
noncomputable def fX6_insertFresh (v0_fresh : (Nat → Int32)) (v0_size : Int32) (v0_data : (Nat → Int32)) : Option (Int32 × (Nat → Int32)) :=
  if v0_size < (0 : Int32) then some (v0_size, v0_data) else if v0_size < (8 : Int32) then fX6_insertFresh_l19 v0_fresh 1000 v0_size v0_data (0 : Int32) else some (v0_size, v0_data)
set_option maxRecDepth 100000 in
set_option maxHeartbeats 4000000 in
theorem tfX6_insertFresh {p : Program} {l : Launch} {e : Env} {s : State} {m : MethodId} {args : Array Value} {below : List Frame} {meth : Method} {c : Code} {A : Nat → Prop} {D : va_G} {cI cZ : ClassId} (h : Cx p s m args meth c A D cI cZ 3 cX6_insertFresh RX6 wsX6_insertFresh none) {h0 h0_data h0_fresh : Nat} {v0_fresh : (Nat → Int32)} {v0_size : Int32} {v0_data : (Nat → Int32)} {o : Int32 × (Nat → Int32)} (hF : fX6_insertFresh v0_fresh v0_size v0_data = some o) : V p l e rmX6_insertFresh s m args below meth c A D 3 (QV D [(h0, .inr (6, [.ref h0_data, .ref h0_fresh, .int o.1])), (h0_data, .inl (cI, 56, .inl o.2)), (h0_fresh, .inl (cI, 7, .inl v0_fresh))] A below args s) [(h0, .inr (6, [.ref h0_data, .ref h0_fresh, .int v0_size])), (h0_data, .inl (cI, 56, .inl v0_data)), (h0_fresh, .inl (cI, 7, .inl v0_fresh))] 0 [(0, .ref h0)] [] := by
  unfold fX6_insertFresh at hF
  refine V_aload_n (pc := 0) h 0 dX6_insertFresh_0 rfl ?_
  refine V_get (pc := 1) h uX6_insertFresh_inX6 0 2 rfl rfl (by decide) uX6_insertFresh_f24 rfl rfl dX6_insertFresh_1 ?_
  refine V_if_lt (pc := 4) h (tgt := 16) dX6_insertFresh_4 (by decide) hF (fun hF => ?_) (fun hF => ?_)
  · have hF := Option.some.inj hF
    subst hF
    exact V_vret (pc := 16) h dX6_insertFresh_16
  · refine V_aload_n (pc := 7) h 0 dX6_insertFresh_7 rfl ?_
    refine V_get (pc := 8) h uX6_insertFresh_inX6 0 2 rfl rfl (by decide) uX6_insertFresh_f24 rfl rfl dX6_insertFresh_8 ?_
    refine V_bipush (pc := 11) h (v := (8 : Int32)) dX6_insertFresh_11 (by decide) ?_
    refine V_icmp_lt (pc := 13) h (tgt := 17) dX6_insertFresh_13 (by decide) hF (fun hF => ?_) (fun hF => ?_)
    · refine V_iconst (pc := 17) h (v := (0 : Int32)) dX6_insertFresh_17 (by decide) ?_
      refine V_istore_n (pc := 18) h [(1, .int (0 : Int32)), (0, .ref h0)] dX6_insertFresh_18 (by decide) rfl ?_
      refine V_lv [1, 0] [(0, .ref h0), (1, .int (0 : Int32))] rfl ?_
      exact tfX6_insertFresh_l19 h 1000 _ _ _ hF
    · have hF := Option.some.inj hF
      subst hF
      exact V_vret (pc := 16) h dX6_insertFresh_16
set_option maxRecDepth 100000 in
theorem k_X6_insertFresh (l : Launch) (D : va_G) (cI cZ : ClassId) (h0 h0_data h0_fresh : Nat) (v0_size : Int32) (v0_data : (Nat → Int32)) (v0_fresh : (Nat → Int32)) {o : Int32 × (Nat → Int32)} (hF : fX6_insertFresh v0_fresh v0_size v0_data = some o) : CV l yX6_insertFresh wsX6_insertFresh rmX6_insertFresh D cI cZ [.ref h0] [(h0, .inr (6, [.ref h0_data, .ref h0_fresh, .int v0_size])), (h0_data, .inl (cI, 56, .inl v0_data)), (h0_fresh, .inl (cI, 7, .inl v0_fresh))] [(h0, .inr (6, [.ref h0_data, .ref h0_fresh, .int o.1])), (h0_data, .inl (cI, 56, .inl o.2)), (h0_fresh, .inl (cI, 7, .inl v0_fresh))] :=
  CV_of (cc := cX6_insertFresh) (nL := 3) (ret := none) (by decide) rfl (Nat.le_of_ble_eq_true rfl) rfl (fun p e s m args below meth c A h => tfX6_insertFresh h hF)
/-! X6_readFrom -/
abbrev rmX6_readFrom : Room := { frames := 5, cells := 0, slots := 0, locals := 110 }
theorem uX6_readFrom_inX5 : ∀ w ∈ wsX50, w ∈ wsX6_readFrom := by decide +kernel
theorem uX6_readFrom_f41 : Cond.fieldLink RX6 41 "LeafAsks$Text" "start" "I" ∈ wsX6_readFrom := by decide +kernel
theorem uX6_readFrom_inX6 : ∀ w ∈ wsX60, w ∈ wsX6_readFrom := by decide +kernel
theorem uX6_readFrom_f24 : Cond.fieldLink RX6 24 "LeafAsks$Tree" "size" "I" ∈ wsX6_readFrom := by decide +kernel
noncomputable def fX6_readFrom_b11 (v1_length : Int32) (v1_letters : (Nat → Int32)) (k11 : Int32 → (Nat → Int32) → (Nat → Int32) → Int32 → Int32 → Int32 → Int32 → Int32 → (Nat → Int32) → (Nat → Int32) → (Nat → Int32) → Int32 → Option (Int32 × Int32 × (Nat → Int32) × (Nat → Int32) × Int32 × Int32 × Int32 × Int32 × Int32 × (Nat → Int32) × (Nat → Int32) × (Nat → Int32))) (v0_size : Int32) (v0_data : (Nat → Int32)) (v0_fresh : (Nat → Int32)) (v1_size : Int32) (v1_at : Int32) (v1_token : Int32) (v1_start : Int32) (v1_number : Int32) (v1_tokens : (Nat → Int32)) (v1_starts : (Nat → Int32)) (v1_numbers : (Nat → Int32)) (x2 : Int32) : Option (Int32 × Int32 × (Nat → Int32) × (Nat → Int32) × Int32 × Int32 × Int32 × Int32 × Int32 × (Nat → Int32) × (Nat → Int32) × (Nat → Int32)) :=
  if (8 : Int32) ≤ x2 then bd (fX5_takes v1_size v1_length v1_tokens v1_starts v1_numbers (257 : Int32) v1_at v1_token v1_start v1_number) (fun r56 => if r56.1 = (0 : Int32) then some (r56.2.2.2.1, v0_size, v0_data, v0_fresh, v1_size, r56.2.1, r56.2.2.1, r56.2.2.2.1, r56.2.2.2.2, v1_tokens, v1_starts, v1_numbers) else some (((-1 : Int32), v0_size, v0_data, v0_fresh, v1_size, r56.2.1, r56.2.2.1, r56.2.2.2.1, r56.2.2.2.2, v1_tokens, v1_starts, v1_numbers))) else bd (fX5_takes v1_size v1_length v1_tokens v1_starts v1_numbers (257 : Int32) v1_at v1_token v1_start v1_number) (fun r21 => if r21.1 = (0 : Int32) then bd (fX6_readBranch v0_size v0_data v1_size v1_length v1_tokens v1_starts v1_numbers v0_fresh r21.2.1 r21.2.2.1 r21.2.2.2.1 r21.2.2.2.2) (fun r31 => if r31.1 = (0 : Int32) then some (r31.2.2.2.2.1, v0_size, v0_data, r31.2.1, v1_size, r31.2.2.1, r31.2.2.2.1, r31.2.2.2.2.1, r31.2.2.2.2.2, v1_tokens, v1_starts, v1_numbers) else bd (fX6_insertFresh r31.2.1 v0_size v0_data) (fun r43 => bnd (x2 + (1 : Int32)) (fun x2_46 => k11 r43.1 r43.2 r31.2.1 v1_size r31.2.2.1 r31.2.2.2.1 r31.2.2.2.2.1 r31.2.2.2.2.2 v1_tokens v1_starts v1_numbers x2_46))) else some (((-1 : Int32), v0_size, v0_data, v0_fresh, v1_size, r21.2.1, r21.2.2.1, r21.2.2.2.1, r21.2.2.2.2, v1_tokens, v1_starts, v1_numbers)))
set_option maxRecDepth 100000 in
set_option maxHeartbeats 4000000 in
theorem tfX6_readFrom_b11 {p : Program} {l : Launch} {e : Env} {s : State} {m : MethodId} {args : Array Value} {below : List Frame} {meth : Method} {c : Code} {A : Nat → Prop} {D : va_G} {cI cZ : ClassId} (h : Cx p s m args meth c A D cI cZ 3 cX6_readFrom RX6 wsX6_readFrom (some .int)) {h0 h0_data h0_fresh h1 h1_letters h1_tokens h1_starts h1_numbers : Nat} {v1_length : Int32} {v1_letters : (Nat → Int32)} {k11 : Int32 → (Nat → Int32) → (Nat → Int32) → Int32 → Int32 → Int32 → Int32 → Int32 → (Nat → Int32) → (Nat → Int32) → (Nat → Int32) → Int32 → Option (Int32 × Int32 × (Nat → Int32) × (Nat → Int32) × Int32 × Int32 × Int32 × Int32 × Int32 × (Nat → Int32) × (Nat → Int32) × (Nat → Int32))} {v0_size : Int32} {v0_data : (Nat → Int32)} {v0_fresh : (Nat → Int32)} {v1_size : Int32} {v1_at : Int32} {v1_token : Int32} {v1_start : Int32} {v1_number : Int32} {v1_tokens : (Nat → Int32)} {v1_starts : (Nat → Int32)} {v1_numbers : (Nat → Int32)} {x2 : Int32} {o : Int32 × Int32 × (Nat → Int32) × (Nat → Int32) × Int32 × Int32 × Int32 × Int32 × Int32 × (Nat → Int32) × (Nat → Int32) × (Nat → Int32)} (hk11 : ∀ (v0_size : Int32) (v0_data : (Nat → Int32)) (v0_fresh : (Nat → Int32)) (v1_size : Int32) (v1_at : Int32) (v1_token : Int32) (v1_start : Int32) (v1_number : Int32) (v1_tokens : (Nat → Int32)) (v1_starts : (Nat → Int32)) (v1_numbers : (Nat → Int32)) (x2 : Int32), k11 v0_size v0_data v0_fresh v1_size v1_at v1_token v1_start v1_number v1_tokens v1_starts v1_numbers x2 = some o → V p l e rmX6_readFrom s m args below meth c A D 3 (QI D [(h0, .inr (6, [.ref h0_data, .ref h0_fresh, .int o.2.1])), (h0_data, .inl (cI, 56, .inl o.2.2.1)), (h0_fresh, .inl (cI, 7, .inl o.2.2.2.1)), (h1, .inr (5, [.ref h1_letters, .ref h1_tokens, .ref h1_starts, .ref h1_numbers, .int o.2.2.2.2.1, .int o.2.2.2.2.2.1, .int v1_length, .int o.2.2.2.2.2.2.1, .int o.2.2.2.2.2.2.2.1, .int o.2.2.2.2.2.2.2.2.1])), (h1_letters, .inl (cI, 160, .inl v1_letters)), (h1_tokens, .inl (cI, 160, .inl o.2.2.2.2.2.2.2.2.2.1)), (h1_starts, .inl (cI, 160, .inl o.2.2.2.2.2.2.2.2.2.2.1)), (h1_numbers, .inl (cI, 160, .inl o.2.2.2.2.2.2.2.2.2.2.2))] o.1 A below args s) [(h0, .inr (6, [.ref h0_data, .ref h0_fresh, .int v0_size])), (h0_data, .inl (cI, 56, .inl v0_data)), (h0_fresh, .inl (cI, 7, .inl v0_fresh)), (h1, .inr (5, [.ref h1_letters, .ref h1_tokens, .ref h1_starts, .ref h1_numbers, .int v1_size, .int v1_at, .int v1_length, .int v1_token, .int v1_start, .int v1_number])), (h1_letters, .inl (cI, 160, .inl v1_letters)), (h1_tokens, .inl (cI, 160, .inl v1_tokens)), (h1_starts, .inl (cI, 160, .inl v1_starts)), (h1_numbers, .inl (cI, 160, .inl v1_numbers))] 11 [(0, .ref h0), (1, .ref h1), (2, .int x2)] []) (hF : fX6_readFrom_b11 v1_length v1_letters k11 v0_size v0_data v0_fresh v1_size v1_at v1_token v1_start v1_number v1_tokens v1_starts v1_numbers x2 = some o) : V p l e rmX6_readFrom s m args below meth c A D 3 (QI D [(h0, .inr (6, [.ref h0_data, .ref h0_fresh, .int o.2.1])), (h0_data, .inl (cI, 56, .inl o.2.2.1)), (h0_fresh, .inl (cI, 7, .inl o.2.2.2.1)), (h1, .inr (5, [.ref h1_letters, .ref h1_tokens, .ref h1_starts, .ref h1_numbers, .int o.2.2.2.2.1, .int o.2.2.2.2.2.1, .int v1_length, .int o.2.2.2.2.2.2.1, .int o.2.2.2.2.2.2.2.1, .int o.2.2.2.2.2.2.2.2.1])), (h1_letters, .inl (cI, 160, .inl v1_letters)), (h1_tokens, .inl (cI, 160, .inl o.2.2.2.2.2.2.2.2.2.1)), (h1_starts, .inl (cI, 160, .inl o.2.2.2.2.2.2.2.2.2.2.1)), (h1_numbers, .inl (cI, 160, .inl o.2.2.2.2.2.2.2.2.2.2.2))] o.1 A below args s) [(h0, .inr (6, [.ref h0_data, .ref h0_fresh, .int v0_size])), (h0_data, .inl (cI, 56, .inl v0_data)), (h0_fresh, .inl (cI, 7, .inl v0_fresh)), (h1, .inr (5, [.ref h1_letters, .ref h1_tokens, .ref h1_starts, .ref h1_numbers, .int v1_size, .int v1_at, .int v1_length, .int v1_token, .int v1_start, .int v1_number])), (h1_letters, .inl (cI, 160, .inl v1_letters)), (h1_tokens, .inl (cI, 160, .inl v1_tokens)), (h1_starts, .inl (cI, 160, .inl v1_starts)), (h1_numbers, .inl (cI, 160, .inl v1_numbers))] 11 [(0, .ref h0), (1, .ref h1), (2, .int x2)] [] := by
  unfold fX6_readFrom_b11 at hF
  refine V_iload_n (pc := 11) h 2 dX6_readFrom_11 rfl ?_
  refine V_bipush (pc := 12) h (v := (8 : Int32)) dX6_readFrom_12 (by decide) ?_
  refine V_icmp_ge (pc := 14) h (tgt := 52) dX6_readFrom_14 (by decide) hF (fun hF => ?_) (fun hF => ?_)
  · refine V_aload_n (pc := 52) h 1 dX6_readFrom_52 rfl ?_
    refine V_sipush (pc := 53) h (v := (257 : Int32)) dX6_readFrom_53 (by decide) ?_
    refine V_ciV (pc := 56) h (n := 1) (bytes := cX5_takes) (maxL := 2) (As := [.int (257 : Int32)]) (rest := []) gX6_readFrom_X5_takes (by decide +kernel) rfl rfl rfl rfl ⟨rfl, rfl⟩ ⟨Nat.le_of_ble_eq_true rfl, Nat.le_of_ble_eq_true rfl⟩ [3, 4, 5, 6, 7] rfl (by decide) rfl (fun r56 => [(h0, .inr (6, [.ref h0_data, .ref h0_fresh, .int v0_size])), (h0_data, .inl (cI, 56, .inl v0_data)), (h0_fresh, .inl (cI, 7, .inl v0_fresh)), (h1, .inr (5, [.ref h1_letters, .ref h1_tokens, .ref h1_starts, .ref h1_numbers, .int v1_size, .int r56.2.1, .int v1_length, .int r56.2.2.1, .int r56.2.2.2.1, .int r56.2.2.2.2])), (h1_letters, .inl (cI, 160, .inl v1_letters)), (h1_tokens, .inl (cI, 160, .inl v1_tokens)), (h1_starts, .inl (cI, 160, .inl v1_starts)), (h1_numbers, .inl (cI, 160, .inl v1_numbers))]) (fun _ => rfl) (fun _ => rfl) rfl (Nat.le_of_ble_eq_true rfl) dX6_readFrom_56 hF (fun r56 hG => k_X5_takes l D cI cZ h1 h1_letters h1_tokens h1_starts h1_numbers v1_size v1_at v1_length v1_token v1_start v1_number v1_letters v1_tokens v1_starts v1_numbers (257 : Int32) hG) (fun r56 hF => ?_)
    refine V_if_eq (pc := 59) h (tgt := 66) dX6_readFrom_59 (by decide) hF (fun hF => ?_) (fun hF => ?_)
    · refine V_aload_n (pc := 66) h 1 dX6_readFrom_66 rfl ?_
      refine V_get (pc := 67) h uX6_readFrom_inX5 3 8 rfl rfl (by decide) uX6_readFrom_f41 rfl rfl dX6_readFrom_67 ?_
      have hF := Option.some.inj hF
      subst hF
      exact V_iret (pc := 70) h dX6_readFrom_70
    · refine V_iconst (pc := 62) h (v := (-1 : Int32)) dX6_readFrom_62 (by decide) ?_
      refine V_goto (pc := 63) h (tgt := 70) dX6_readFrom_63 (by decide) ?_
      have hF := Option.some.inj hF
      subst hF
      exact V_iret (pc := 70) h dX6_readFrom_70
  · refine V_aload_n (pc := 17) h 1 dX6_readFrom_17 rfl ?_
    refine V_sipush (pc := 18) h (v := (257 : Int32)) dX6_readFrom_18 (by decide) ?_
    refine V_ciV (pc := 21) h (n := 1) (bytes := cX5_takes) (maxL := 2) (As := [.int (257 : Int32)]) (rest := []) gX6_readFrom_X5_takes (by decide +kernel) rfl rfl rfl rfl ⟨rfl, rfl⟩ ⟨Nat.le_of_ble_eq_true rfl, Nat.le_of_ble_eq_true rfl⟩ [3, 4, 5, 6, 7] rfl (by decide) rfl (fun r21 => [(h0, .inr (6, [.ref h0_data, .ref h0_fresh, .int v0_size])), (h0_data, .inl (cI, 56, .inl v0_data)), (h0_fresh, .inl (cI, 7, .inl v0_fresh)), (h1, .inr (5, [.ref h1_letters, .ref h1_tokens, .ref h1_starts, .ref h1_numbers, .int v1_size, .int r21.2.1, .int v1_length, .int r21.2.2.1, .int r21.2.2.2.1, .int r21.2.2.2.2])), (h1_letters, .inl (cI, 160, .inl v1_letters)), (h1_tokens, .inl (cI, 160, .inl v1_tokens)), (h1_starts, .inl (cI, 160, .inl v1_starts)), (h1_numbers, .inl (cI, 160, .inl v1_numbers))]) (fun _ => rfl) (fun _ => rfl) rfl (Nat.le_of_ble_eq_true rfl) dX6_readFrom_21 hF (fun r21 hG => k_X5_takes l D cI cZ h1 h1_letters h1_tokens h1_starts h1_numbers v1_size v1_at v1_length v1_token v1_start v1_number v1_letters v1_tokens v1_starts v1_numbers (257 : Int32) hG) (fun r21 hF => ?_)
    refine V_if_eq (pc := 24) h (tgt := 29) dX6_readFrom_24 (by decide) hF (fun hF => ?_) (fun hF => ?_)
    · refine V_aload_n (pc := 29) h 0 dX6_readFrom_29 rfl ?_
      refine V_aload_n (pc := 30) h 1 dX6_readFrom_30 rfl ?_
      refine V_ciVA (pc := 31) h (n := 1) (bytes := cX6_readBranch) (maxL := 2) (As := [.ref h1]) (rest := []) gX6_readFrom_X6_readBranch (by decide +kernel) rfl rfl rfl rfl ⟨rfl, rfl⟩ ⟨Nat.le_of_ble_eq_true rfl, Nat.le_of_ble_eq_true rfl⟩ rfl rfl (Nat.le_of_ble_eq_true rfl) dX6_readFrom_31 hF (fun r31 hG => k_X6_readBranch l D cI cZ h0 h0_data h0_fresh h1 h1_letters h1_tokens h1_starts h1_numbers v0_size v0_data v0_fresh v1_size r21.2.1 v1_length r21.2.2.1 r21.2.2.2.1 r21.2.2.2.2 v1_letters v1_tokens v1_starts v1_numbers hG) (fun r31 hF => ?_)
      refine V_if_ne (pc := 34) h (tgt := 42) dX6_readFrom_34 (by decide) hF (fun hF => ?_) (fun hF => ?_)
      · refine V_aload_n (pc := 42) h 0 dX6_readFrom_42 rfl ?_
        refine V_cvV (pc := 43) h (n := 0) (bytes := cX6_insertFresh) (maxL := 3) (As := []) (rest := []) gX6_readFrom_X6_insertFresh (by decide +kernel) rfl rfl rfl rfl ⟨rfl, rfl⟩ ⟨Nat.le_of_ble_eq_true rfl, Nat.le_of_ble_eq_true rfl⟩ [0, 1, 2] rfl (by decide) rfl (fun r43 => [(h0, .inr (6, [.ref h0_data, .ref h0_fresh, .int r43.1])), (h0_data, .inl (cI, 56, .inl r43.2)), (h0_fresh, .inl (cI, 7, .inl r31.2.1)), (h1, .inr (5, [.ref h1_letters, .ref h1_tokens, .ref h1_starts, .ref h1_numbers, .int v1_size, .int r31.2.2.1, .int v1_length, .int r31.2.2.2.1, .int r31.2.2.2.2.1, .int r31.2.2.2.2.2])), (h1_letters, .inl (cI, 160, .inl v1_letters)), (h1_tokens, .inl (cI, 160, .inl v1_tokens)), (h1_starts, .inl (cI, 160, .inl v1_starts)), (h1_numbers, .inl (cI, 160, .inl v1_numbers))]) (fun _ => rfl) (fun _ => rfl) rfl (Nat.le_of_ble_eq_true rfl) dX6_readFrom_43 hF (fun r43 hG => k_X6_insertFresh l D cI cZ h0 h0_data h0_fresh v0_size v0_data r31.2.1 hG) (fun r43 hF => ?_)
        refine V_iinc (pc := 46) h 2 (fun x2_46 => [(2, .int x2_46), (0, .ref h0), (1, .ref h1)]) dX6_readFrom_46 rfl rfl (by decide) (fun _ => rfl) hF (fun x2_46 hF => ?_)
        refine V_goto (pc := 49) h (tgt := 11) dX6_readFrom_49 (by decide) ?_
        refine V_lv [1, 2, 0] [(0, .ref h0), (1, .ref h1), (2, .int x2_46)] rfl ?_
        exact hk11 _ _ _ _ _ _ _ _ _ _ _ _ hF
      · refine V_aload_n (pc := 37) h 1 dX6_readFrom_37 rfl ?_
        refine V_get (pc := 38) h uX6_readFrom_inX5 3 8 rfl rfl (by decide) uX6_readFrom_f41 rfl rfl dX6_readFrom_38 ?_
        have hF := Option.some.inj hF
        subst hF
        exact V_iret (pc := 41) h dX6_readFrom_41
    · refine V_iconst (pc := 27) h (v := (-1 : Int32)) dX6_readFrom_27 (by decide) ?_
      have hF := Option.some.inj hF
      subst hF
      exact V_iret (pc := 28) h dX6_readFrom_28
noncomputable def fX6_readFrom_l11 (v1_length : Int32) (v1_letters : (Nat → Int32)) (n : Nat) : Int32 → (Nat → Int32) → (Nat → Int32) → Int32 → Int32 → Int32 → Int32 → Int32 → (Nat → Int32) → (Nat → Int32) → (Nat → Int32) → Int32 → Option (Int32 × Int32 × (Nat → Int32) × (Nat → Int32) × Int32 × Int32 × Int32 × Int32 × Int32 × (Nat → Int32) × (Nat → Int32) × (Nat → Int32)) :=
  Nat.rec (motive := fun _ => Int32 → (Nat → Int32) → (Nat → Int32) → Int32 → Int32 → Int32 → Int32 → Int32 → (Nat → Int32) → (Nat → Int32) → (Nat → Int32) → Int32 → Option (Int32 × Int32 × (Nat → Int32) × (Nat → Int32) × Int32 × Int32 × Int32 × Int32 × Int32 × (Nat → Int32) × (Nat → Int32) × (Nat → Int32))) (fun _ _ _ _ _ _ _ _ _ _ _ _ => none) (fun _ ih => fX6_readFrom_b11 v1_length v1_letters ih) n
theorem fX6_readFrom_l11_s (v1_length : Int32) (v1_letters : (Nat → Int32)) (n : Nat) (v0_size : Int32) (v0_data : (Nat → Int32)) (v0_fresh : (Nat → Int32)) (v1_size : Int32) (v1_at : Int32) (v1_token : Int32) (v1_start : Int32) (v1_number : Int32) (v1_tokens : (Nat → Int32)) (v1_starts : (Nat → Int32)) (v1_numbers : (Nat → Int32)) (x2 : Int32) : fX6_readFrom_l11 v1_length v1_letters (n + 1) v0_size v0_data v0_fresh v1_size v1_at v1_token v1_start v1_number v1_tokens v1_starts v1_numbers x2 = fX6_readFrom_b11 v1_length v1_letters (fX6_readFrom_l11 v1_length v1_letters n) v0_size v0_data v0_fresh v1_size v1_at v1_token v1_start v1_number v1_tokens v1_starts v1_numbers x2 := rfl
set_option maxRecDepth 100000 in
set_option maxHeartbeats 4000000 in
theorem tfX6_readFrom_l11 {p : Program} {l : Launch} {e : Env} {s : State} {m : MethodId} {args : Array Value} {below : List Frame} {meth : Method} {c : Code} {A : Nat → Prop} {D : va_G} {cI cZ : ClassId} (h : Cx p s m args meth c A D cI cZ 3 cX6_readFrom RX6 wsX6_readFrom (some .int)) {h0 h0_data h0_fresh h1 h1_letters h1_tokens h1_starts h1_numbers : Nat} {v1_length : Int32} {v1_letters : (Nat → Int32)} {o : Int32 × Int32 × (Nat → Int32) × (Nat → Int32) × Int32 × Int32 × Int32 × Int32 × Int32 × (Nat → Int32) × (Nat → Int32) × (Nat → Int32)} (n : Nat) : ∀ (v0_size : Int32) (v0_data : (Nat → Int32)) (v0_fresh : (Nat → Int32)) (v1_size : Int32) (v1_at : Int32) (v1_token : Int32) (v1_start : Int32) (v1_number : Int32) (v1_tokens : (Nat → Int32)) (v1_starts : (Nat → Int32)) (v1_numbers : (Nat → Int32)) (x2 : Int32) (hF : fX6_readFrom_l11 v1_length v1_letters n v0_size v0_data v0_fresh v1_size v1_at v1_token v1_start v1_number v1_tokens v1_starts v1_numbers x2 = some o), V p l e rmX6_readFrom s m args below meth c A D 3 (QI D [(h0, .inr (6, [.ref h0_data, .ref h0_fresh, .int o.2.1])), (h0_data, .inl (cI, 56, .inl o.2.2.1)), (h0_fresh, .inl (cI, 7, .inl o.2.2.2.1)), (h1, .inr (5, [.ref h1_letters, .ref h1_tokens, .ref h1_starts, .ref h1_numbers, .int o.2.2.2.2.1, .int o.2.2.2.2.2.1, .int v1_length, .int o.2.2.2.2.2.2.1, .int o.2.2.2.2.2.2.2.1, .int o.2.2.2.2.2.2.2.2.1])), (h1_letters, .inl (cI, 160, .inl v1_letters)), (h1_tokens, .inl (cI, 160, .inl o.2.2.2.2.2.2.2.2.2.1)), (h1_starts, .inl (cI, 160, .inl o.2.2.2.2.2.2.2.2.2.2.1)), (h1_numbers, .inl (cI, 160, .inl o.2.2.2.2.2.2.2.2.2.2.2))] o.1 A below args s) [(h0, .inr (6, [.ref h0_data, .ref h0_fresh, .int v0_size])), (h0_data, .inl (cI, 56, .inl v0_data)), (h0_fresh, .inl (cI, 7, .inl v0_fresh)), (h1, .inr (5, [.ref h1_letters, .ref h1_tokens, .ref h1_starts, .ref h1_numbers, .int v1_size, .int v1_at, .int v1_length, .int v1_token, .int v1_start, .int v1_number])), (h1_letters, .inl (cI, 160, .inl v1_letters)), (h1_tokens, .inl (cI, 160, .inl v1_tokens)), (h1_starts, .inl (cI, 160, .inl v1_starts)), (h1_numbers, .inl (cI, 160, .inl v1_numbers))] 11 [(0, .ref h0), (1, .ref h1), (2, .int x2)] [] := by
  induction n with
  | zero => intro v0_size v0_data v0_fresh v1_size v1_at v1_token v1_start v1_number v1_tokens v1_starts v1_numbers x2 hF; exact nomatch (show (none : Option (Int32 × Int32 × (Nat → Int32) × (Nat → Int32) × Int32 × Int32 × Int32 × Int32 × Int32 × (Nat → Int32) × (Nat → Int32) × (Nat → Int32))) = some o from hF)
  | succ n ih => intro v0_size v0_data v0_fresh v1_size v1_at v1_token v1_start v1_number v1_tokens v1_starts v1_numbers x2 hF; exact tfX6_readFrom_b11 (k11 := fX6_readFrom_l11 v1_length v1_letters n) h ih hF
noncomputable def fX6_readFrom (v1_length : Int32) (v1_letters : (Nat → Int32)) (v0_size : Int32) (v0_data : (Nat → Int32)) (v0_fresh : (Nat → Int32)) (v1_size : Int32) (v1_at : Int32) (v1_token : Int32) (v1_start : Int32) (v1_number : Int32) (v1_tokens : (Nat → Int32)) (v1_starts : (Nat → Int32)) (v1_numbers : (Nat → Int32)) : Option (Int32 × Int32 × (Nat → Int32) × (Nat → Int32) × Int32 × Int32 × Int32 × Int32 × Int32 × (Nat → Int32) × (Nat → Int32) × (Nat → Int32)) :=
  bd (fX5_rewind v1_length v1_letters v1_size v1_at v1_tokens v1_starts v1_numbers) (fun r6 => fX6_readFrom_l11 v1_length v1_letters 1000 (0 : Int32) v0_data v0_fresh r6.1 r6.2.1 v1_token v1_start v1_number r6.2.2.1 r6.2.2.2.1 r6.2.2.2.2 (0 : Int32))
set_option maxRecDepth 100000 in
set_option maxHeartbeats 4000000 in
theorem tfX6_readFrom {p : Program} {l : Launch} {e : Env} {s : State} {m : MethodId} {args : Array Value} {below : List Frame} {meth : Method} {c : Code} {A : Nat → Prop} {D : va_G} {cI cZ : ClassId} (h : Cx p s m args meth c A D cI cZ 3 cX6_readFrom RX6 wsX6_readFrom (some .int)) {h0 h0_data h0_fresh h1 h1_letters h1_tokens h1_starts h1_numbers : Nat} {v1_length : Int32} {v1_letters : (Nat → Int32)} {v0_size : Int32} {v0_data : (Nat → Int32)} {v0_fresh : (Nat → Int32)} {v1_size : Int32} {v1_at : Int32} {v1_token : Int32} {v1_start : Int32} {v1_number : Int32} {v1_tokens : (Nat → Int32)} {v1_starts : (Nat → Int32)} {v1_numbers : (Nat → Int32)} {o : Int32 × Int32 × (Nat → Int32) × (Nat → Int32) × Int32 × Int32 × Int32 × Int32 × Int32 × (Nat → Int32) × (Nat → Int32) × (Nat → Int32)} (hF : fX6_readFrom v1_length v1_letters v0_size v0_data v0_fresh v1_size v1_at v1_token v1_start v1_number v1_tokens v1_starts v1_numbers = some o) : V p l e rmX6_readFrom s m args below meth c A D 3 (QI D [(h0, .inr (6, [.ref h0_data, .ref h0_fresh, .int o.2.1])), (h0_data, .inl (cI, 56, .inl o.2.2.1)), (h0_fresh, .inl (cI, 7, .inl o.2.2.2.1)), (h1, .inr (5, [.ref h1_letters, .ref h1_tokens, .ref h1_starts, .ref h1_numbers, .int o.2.2.2.2.1, .int o.2.2.2.2.2.1, .int v1_length, .int o.2.2.2.2.2.2.1, .int o.2.2.2.2.2.2.2.1, .int o.2.2.2.2.2.2.2.2.1])), (h1_letters, .inl (cI, 160, .inl v1_letters)), (h1_tokens, .inl (cI, 160, .inl o.2.2.2.2.2.2.2.2.2.1)), (h1_starts, .inl (cI, 160, .inl o.2.2.2.2.2.2.2.2.2.2.1)), (h1_numbers, .inl (cI, 160, .inl o.2.2.2.2.2.2.2.2.2.2.2))] o.1 A below args s) [(h0, .inr (6, [.ref h0_data, .ref h0_fresh, .int v0_size])), (h0_data, .inl (cI, 56, .inl v0_data)), (h0_fresh, .inl (cI, 7, .inl v0_fresh)), (h1, .inr (5, [.ref h1_letters, .ref h1_tokens, .ref h1_starts, .ref h1_numbers, .int v1_size, .int v1_at, .int v1_length, .int v1_token, .int v1_start, .int v1_number])), (h1_letters, .inl (cI, 160, .inl v1_letters)), (h1_tokens, .inl (cI, 160, .inl v1_tokens)), (h1_starts, .inl (cI, 160, .inl v1_starts)), (h1_numbers, .inl (cI, 160, .inl v1_numbers))] 0 [(0, .ref h0), (1, .ref h1)] [] := by
  unfold fX6_readFrom at hF
  refine V_aload_n (pc := 0) h 0 dX6_readFrom_0 rfl ?_
  refine V_iconst (pc := 1) h (v := (0 : Int32)) dX6_readFrom_1 (by decide) ?_
  refine V_put (pc := 2) h uX6_readFrom_inX6 tyX6 tyX6_ok nmX6 0 2 rfl rfl (by decide) uX6_readFrom_f24 rfl rfl (by decide +kernel) (Nat.le_of_ble_eq_true rfl) [(h0, .inr (6, [.ref h0_data, .ref h0_fresh, .int (0 : Int32)])), (h0_data, .inl (cI, 56, .inl v0_data)), (h0_fresh, .inl (cI, 7, .inl v0_fresh)), (h1, .inr (5, [.ref h1_letters, .ref h1_tokens, .ref h1_starts, .ref h1_numbers, .int v1_size, .int v1_at, .int v1_length, .int v1_token, .int v1_start, .int v1_number])), (h1_letters, .inl (cI, 160, .inl v1_letters)), (h1_tokens, .inl (cI, 160, .inl v1_tokens)), (h1_starts, .inl (cI, 160, .inl v1_starts)), (h1_numbers, .inl (cI, 160, .inl v1_numbers))] rfl dX6_readFrom_2 ?_
  refine V_aload_n (pc := 5) h 1 dX6_readFrom_5 rfl ?_
  refine V_cvV (pc := 6) h (n := 0) (bytes := cX5_rewind) (maxL := 5) (As := []) (rest := []) gX6_readFrom_X5_rewind (by decide +kernel) rfl rfl rfl rfl ⟨rfl, rfl⟩ ⟨Nat.le_of_ble_eq_true rfl, Nat.le_of_ble_eq_true rfl⟩ [3, 4, 5, 6, 7] rfl (by decide) rfl (fun r6 => [(h0, .inr (6, [.ref h0_data, .ref h0_fresh, .int (0 : Int32)])), (h0_data, .inl (cI, 56, .inl v0_data)), (h0_fresh, .inl (cI, 7, .inl v0_fresh)), (h1, .inr (5, [.ref h1_letters, .ref h1_tokens, .ref h1_starts, .ref h1_numbers, .int r6.1, .int r6.2.1, .int v1_length, .int v1_token, .int v1_start, .int v1_number])), (h1_letters, .inl (cI, 160, .inl v1_letters)), (h1_tokens, .inl (cI, 160, .inl r6.2.2.1)), (h1_starts, .inl (cI, 160, .inl r6.2.2.2.1)), (h1_numbers, .inl (cI, 160, .inl r6.2.2.2.2))]) (fun _ => rfl) (fun _ => rfl) rfl (Nat.le_of_ble_eq_true rfl) dX6_readFrom_6 hF (fun r6 hG => k_X5_rewind l D cI cZ h1 h1_letters h1_tokens h1_starts h1_numbers v1_size v1_at v1_length v1_token v1_start v1_number v1_letters v1_tokens v1_starts v1_numbers hG) (fun r6 hF => ?_)
  refine V_iconst (pc := 9) h (v := (0 : Int32)) dX6_readFrom_9 (by decide) ?_
  refine V_istore_n (pc := 10) h [(2, .int (0 : Int32)), (0, .ref h0), (1, .ref h1)] dX6_readFrom_10 (by decide) rfl ?_
  refine V_lv [1, 2, 0] [(0, .ref h0), (1, .ref h1), (2, .int (0 : Int32))] rfl ?_
  exact tfX6_readFrom_l11 h 1000 _ _ _ _ _ _ _ _ _ _ _ _ hF
set_option maxRecDepth 100000 in
theorem k_X6_readFrom (l : Launch) (D : va_G) (cI cZ : ClassId) (h0 h0_data h0_fresh h1 h1_letters h1_tokens h1_starts h1_numbers : Nat) (v0_size : Int32) (v0_data : (Nat → Int32)) (v0_fresh : (Nat → Int32)) (v1_size : Int32) (v1_at : Int32) (v1_length : Int32) (v1_token : Int32) (v1_start : Int32) (v1_number : Int32) (v1_letters : (Nat → Int32)) (v1_tokens : (Nat → Int32)) (v1_starts : (Nat → Int32)) (v1_numbers : (Nat → Int32)) {o : Int32 × Int32 × (Nat → Int32) × (Nat → Int32) × Int32 × Int32 × Int32 × Int32 × Int32 × (Nat → Int32) × (Nat → Int32) × (Nat → Int32)} (hF : fX6_readFrom v1_length v1_letters v0_size v0_data v0_fresh v1_size v1_at v1_token v1_start v1_number v1_tokens v1_starts v1_numbers = some o) : CI l yX6_readFrom wsX6_readFrom rmX6_readFrom D cI cZ [.ref h0, .ref h1] [(h0, .inr (6, [.ref h0_data, .ref h0_fresh, .int v0_size])), (h0_data, .inl (cI, 56, .inl v0_data)), (h0_fresh, .inl (cI, 7, .inl v0_fresh)), (h1, .inr (5, [.ref h1_letters, .ref h1_tokens, .ref h1_starts, .ref h1_numbers, .int v1_size, .int v1_at, .int v1_length, .int v1_token, .int v1_start, .int v1_number])), (h1_letters, .inl (cI, 160, .inl v1_letters)), (h1_tokens, .inl (cI, 160, .inl v1_tokens)), (h1_starts, .inl (cI, 160, .inl v1_starts)), (h1_numbers, .inl (cI, 160, .inl v1_numbers))] [(h0, .inr (6, [.ref h0_data, .ref h0_fresh, .int o.2.1])), (h0_data, .inl (cI, 56, .inl o.2.2.1)), (h0_fresh, .inl (cI, 7, .inl o.2.2.2.1)), (h1, .inr (5, [.ref h1_letters, .ref h1_tokens, .ref h1_starts, .ref h1_numbers, .int o.2.2.2.2.1, .int o.2.2.2.2.2.1, .int v1_length, .int o.2.2.2.2.2.2.1, .int o.2.2.2.2.2.2.2.1, .int o.2.2.2.2.2.2.2.2.1])), (h1_letters, .inl (cI, 160, .inl v1_letters)), (h1_tokens, .inl (cI, 160, .inl o.2.2.2.2.2.2.2.2.2.1)), (h1_starts, .inl (cI, 160, .inl o.2.2.2.2.2.2.2.2.2.2.1)), (h1_numbers, .inl (cI, 160, .inl o.2.2.2.2.2.2.2.2.2.2.2))] o.1 :=
  CI_of (cc := cX6_readFrom) (nL := 3) (ret := (some .int)) (by decide) rfl (Nat.le_of_ble_eq_true rfl) rfl (fun p e s m args below meth c A h => tfX6_readFrom h hF)
