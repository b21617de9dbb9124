/-! X1_readValue -/
abbrev rmX1_readValue : Room := { frames := 2, cells := 0, slots := 0, locals := 44 }
theorem uX1_readValue_inX1 : ∀ w ∈ wsX10, w ∈ wsX1_readValue := by decide +kernel
theorem uX1_readValue_f18 : Cond.fieldLink RX1 18 "LeafAsks$Orders" "size" "I" ∈ wsX1_readValue := by decide +kernel
theorem uX1_readValue_f11 : Cond.fieldLink RX1 11 "LeafAsks$Orders" "names" "[I" ∈ wsX1_readValue := by decide +kernel
theorem uX1_readValue_f15 : Cond.fieldLink RX1 15 "LeafAsks$Orders" "values" "[I" ∈ wsX1_readValue := by decide +kernel
theorem uX1_readValue_inX5 : ∀ w ∈ wsX50, w ∈ wsX1_readValue := by decide +kernel
theorem uX1_readValue_f42 : Cond.fieldLink RX1 42 "LeafAsks$Text" "number" "I" ∈ wsX1_readValue := by decide +kernel
noncomputable def fX1_readValue (v2_size : Int32) (v2_length : Int32) (v2_tokens : (Nat → Int32)) (v2_starts : (Nat → Int32)) (v2_numbers : (Nat → Int32)) (x1 : Int32) (v0_size : Int32) (v0_names : (Nat → Int32)) (v0_values : (Nat → Int32)) (v2_at : Int32) (v2_token : Int32) (v2_start : Int32) (v2_number : Int32) : Option (Int32 × Int32 × (Nat → Int32) × (Nat → Int32) × Int32 × Int32 × Int32 × Int32) :=
  if v0_size < (0 : Int32) then some (((0 : Int32), v0_size, v0_names, v0_values, v2_at, v2_token, v2_start, v2_number)) else if (8 : Int32) ≤ v0_size then some (((0 : Int32), v0_size, v0_names, v0_values, v2_at, v2_token, v2_start, v2_number)) else bd (fX5_takesNumber v2_size v2_length v2_tokens v2_starts v2_numbers (0 : Int32) (99 : Int32) v2_at v2_token v2_start v2_number) (fun r20 => if r20.1 = (0 : Int32) then some (((0 : Int32), v0_size, v0_names, v0_values, r20.2.1, r20.2.2.1, r20.2.2.2.1, r20.2.2.2.2)) else gin v0_size 8 (gin v0_size 8 (bnd (v0_size + (1 : Int32)) (fun y58 => bd (fX5_takes v2_size v2_length v2_tokens v2_starts v2_numbers (59 : Int32) r20.2.1 r20.2.2.1 r20.2.2.2.1 r20.2.2.2.2) (fun r64 => gz r64.1 (some ((r64.1, y58, (upd v0_names v0_size.toNatClampNeg x1), (upd v0_values v0_size.toNatClampNeg r20.2.2.2.2), r64.2.1, r64.2.2.1, r64.2.2.2.1, r64.2.2.2.2))))))))
set_option maxRecDepth 100000 in
set_option maxHeartbeats 4000000 in
theorem tfX1_readValue {p : Program} {l : Launch} {e : Env} {s : State} {m : MethodId} {args : Array Value} {below : List Frame} {meth : Method} {c : Code} {A : Nat → Prop} {D : va_G} {cI cZ : ClassId} (h : Cx p s m args meth c A D cI cZ 3 cX1_readValue RX1 wsX1_readValue (some .boolean)) {h0 h0_names h0_values h2 h2_letters h2_tokens h2_starts h2_numbers : Nat} {x1 : Int32} {v2_size : Int32} {v2_length : Int32} {v2_letters : (Nat → Int32)} {v2_tokens : (Nat → Int32)} {v2_starts : (Nat → Int32)} {v2_numbers : (Nat → Int32)} {v0_size : Int32} {v0_names : (Nat → Int32)} {v0_values : (Nat → Int32)} {v2_at : Int32} {v2_token : Int32} {v2_start : Int32} {v2_number : Int32} {o : Int32 × Int32 × (Nat → Int32) × (Nat → Int32) × Int32 × Int32 × Int32 × Int32} (hF : fX1_readValue v2_size v2_length v2_tokens v2_starts v2_numbers x1 v0_size v0_names v0_values v2_at v2_token v2_start v2_number = some o) : V p l e rmX1_readValue s m args below meth c A D 3 (QI D [(h0, .inr (1, [.ref h0_names, .ref h0_values, .int o.2.1])), (h0_names, .inl (cI, 8, .inl o.2.2.1)), (h0_values, .inl (cI, 8, .inl o.2.2.2.1)), (h2, .inr (5, [.ref h2_letters, .ref h2_tokens, .ref h2_starts, .ref h2_numbers, .int v2_size, .int o.2.2.2.2.1, .int v2_length, .int o.2.2.2.2.2.1, .int o.2.2.2.2.2.2.1, .int o.2.2.2.2.2.2.2])), (h2_letters, .inl (cI, 160, .inl v2_letters)), (h2_tokens, .inl (cI, 160, .inl v2_tokens)), (h2_starts, .inl (cI, 160, .inl v2_starts)), (h2_numbers, .inl (cI, 160, .inl v2_numbers))] o.1 A below args s) [(h0, .inr (1, [.ref h0_names, .ref h0_values, .int v0_size])), (h0_names, .inl (cI, 8, .inl v0_names)), (h0_values, .inl (cI, 8, .inl v0_values)), (h2, .inr (5, [.ref h2_letters, .ref h2_tokens, .ref h2_starts, .ref h2_numbers, .int v2_size, .int v2_at, .int v2_length, .int v2_token, .int v2_start, .int v2_number])), (h2_letters, .inl (cI, 160, .inl v2_letters)), (h2_tokens, .inl (cI, 160, .inl v2_tokens)), (h2_starts, .inl (cI, 160, .inl v2_starts)), (h2_numbers, .inl (cI, 160, .inl v2_numbers))] 0 [(0, .ref h0), (1, .int x1), (2, .ref h2)] [] := by
  unfold fX1_readValue at hF
  refine V_aload_n (pc := 0) h 0 dX1_readValue_0 rfl ?_
  refine V_get (pc := 1) h uX1_readValue_inX1 0 2 rfl rfl (by decide) uX1_readValue_f18 rfl rfl dX1_readValue_1 ?_
  refine V_if_lt (pc := 4) h (tgt := 26) dX1_readValue_4 (by decide) hF (fun hF => ?_) (fun hF => ?_)
  · refine V_iconst (pc := 26) h (v := (0 : Int32)) dX1_readValue_26 (by decide) ?_
    have hF := Option.some.inj hF
    subst hF
    exact V_zret (pc := 27) h (Or.inl rfl) dX1_readValue_27
  · refine V_aload_n (pc := 7) h 0 dX1_readValue_7 rfl ?_
    refine V_get (pc := 8) h uX1_readValue_inX1 0 2 rfl rfl (by decide) uX1_readValue_f18 rfl rfl dX1_readValue_8 ?_
    refine V_bipush (pc := 11) h (v := (8 : Int32)) dX1_readValue_11 (by decide) ?_
    refine V_icmp_ge (pc := 13) h (tgt := 26) dX1_readValue_13 (by decide) hF (fun hF => ?_) (fun hF => ?_)
    · refine V_iconst (pc := 26) h (v := (0 : Int32)) dX1_readValue_26 (by decide) ?_
      have hF := Option.some.inj hF
      subst hF
      exact V_zret (pc := 27) h (Or.inl rfl) dX1_readValue_27
    · refine V_aload_n (pc := 16) h 2 dX1_readValue_16 rfl ?_
      refine V_iconst (pc := 17) h (v := (0 : Int32)) dX1_readValue_17 (by decide) ?_
      refine V_bipush (pc := 18) h (v := (99 : Int32)) dX1_readValue_18 (by decide) ?_
      refine V_ciV (pc := 20) h (n := 2) (bytes := cX5_takesNumber) (maxL := 3) (As := [.int (0 : Int32), .int (99 : Int32)]) (rest := []) gX1_readValue_X5_takesNumber (by decide +kernel) rfl rfl rfl rfl ⟨rfl, rfl⟩ ⟨Nat.le_of_ble_eq_true rfl, Nat.le_of_ble_eq_true rfl⟩ [3, 4, 5, 6, 7] rfl (by decide) rfl (fun r20 => [(h0, .inr (1, [.ref h0_names, .ref h0_values, .int v0_size])), (h0_names, .inl (cI, 8, .inl v0_names)), (h0_values, .inl (cI, 8, .inl v0_values)), (h2, .inr (5, [.ref h2_letters, .ref h2_tokens, .ref h2_starts, .ref h2_numbers, .int v2_size, .int r20.2.1, .int v2_length, .int r20.2.2.1, .int r20.2.2.2.1, .int r20.2.2.2.2])), (h2_letters, .inl (cI, 160, .inl v2_letters)), (h2_tokens, .inl (cI, 160, .inl v2_tokens)), (h2_starts, .inl (cI, 160, .inl v2_starts)), (h2_numbers, .inl (cI, 160, .inl v2_numbers))]) (fun _ => rfl) (fun _ => rfl) rfl (Nat.le_of_ble_eq_true rfl) dX1_readValue_20 hF (fun r20 hG => k_X5_takesNumber l D cI cZ h2 h2_letters h2_tokens h2_starts h2_numbers v2_size v2_at v2_length v2_token v2_start v2_number v2_letters v2_tokens v2_starts v2_numbers (0 : Int32) (99 : Int32) hG) (fun r20 hF => ?_)
      refine V_if_ne (pc := 23) h (tgt := 28) dX1_readValue_23 (by decide) hF (fun hF => ?_) (fun hF => ?_)
      · refine V_aload_n (pc := 28) h 0 dX1_readValue_28 rfl ?_
        refine V_get (pc := 29) h uX1_readValue_inX1 0 0 rfl rfl (by decide) uX1_readValue_f11 rfl rfl dX1_readValue_29 ?_
        refine V_aload_n (pc := 32) h 0 dX1_readValue_32 rfl ?_
        refine V_get (pc := 33) h uX1_readValue_inX1 0 2 rfl rfl (by decide) uX1_readValue_f18 rfl rfl dX1_readValue_33 ?_
        refine V_iload_n (pc := 36) h 1 dX1_readValue_36 rfl ?_
        refine V_iast (pc := 37) h 1 rfl [(h0, .inr (1, [.ref h0_names, .ref h0_values, .int v0_size])), (h0_names, .inl (cI, 8, .inl (upd v0_names v0_size.toNatClampNeg x1))), (h0_values, .inl (cI, 8, .inl v0_values)), (h2, .inr (5, [.ref h2_letters, .ref h2_tokens, .ref h2_starts, .ref h2_numbers, .int v2_size, .int r20.2.1, .int v2_length, .int r20.2.2.1, .int r20.2.2.2.1, .int r20.2.2.2.2])), (h2_letters, .inl (cI, 160, .inl v2_letters)), (h2_tokens, .inl (cI, 160, .inl v2_tokens)), (h2_starts, .inl (cI, 160, .inl v2_starts)), (h2_numbers, .inl (cI, 160, .inl v2_numbers))] rfl dX1_readValue_37 hF (fun hF => ?_)
        refine V_aload_n (pc := 38) h 0 dX1_readValue_38 rfl ?_
        refine V_get (pc := 39) h uX1_readValue_inX1 0 1 rfl rfl (by decide) uX1_readValue_f15 rfl rfl dX1_readValue_39 ?_
        refine V_aload_n (pc := 42) h 0 dX1_readValue_42 rfl ?_
        refine V_get (pc := 43) h uX1_readValue_inX1 0 2 rfl rfl (by decide) uX1_readValue_f18 rfl rfl dX1_readValue_43 ?_
        refine V_aload_n (pc := 46) h 2 dX1_readValue_46 rfl ?_
        refine V_get (pc := 47) h uX1_readValue_inX5 3 9 rfl rfl (by decide) uX1_readValue_f42 rfl rfl dX1_readValue_47 ?_
        refine V_iast (pc := 50) h 2 rfl [(h0, .inr (1, [.ref h0_names, .ref h0_values, .int v0_size])), (h0_names, .inl (cI, 8, .inl (upd v0_names v0_size.toNatClampNeg x1))), (h0_values, .inl (cI, 8, .inl (upd v0_values v0_size.toNatClampNeg r20.2.2.2.2))), (h2, .inr (5, [.ref h2_letters, .ref h2_tokens, .ref h2_starts, .ref h2_numbers, .int v2_size, .int r20.2.1, .int v2_length, .int r20.2.2.1, .int r20.2.2.2.1, .int r20.2.2.2.2])), (h2_letters, .inl (cI, 160, .inl v2_letters)), (h2_tokens, .inl (cI, 160, .inl v2_tokens)), (h2_starts, .inl (cI, 160, .inl v2_starts)), (h2_numbers, .inl (cI, 160, .inl v2_numbers))] rfl dX1_readValue_50 hF (fun hF => ?_)
        refine V_aload_n (pc := 51) h 0 dX1_readValue_51 rfl ?_
        refine V_dup (pc := 52) h dX1_readValue_52 rfl ?_
        refine V_get (pc := 53) h uX1_readValue_inX1 0 2 rfl rfl (by decide) uX1_readValue_f18 rfl rfl dX1_readValue_53 ?_
        refine V_iconst (pc := 56) h (v := (1 : Int32)) dX1_readValue_56 (by decide) ?_
        refine V_iadd (pc := 57) h dX1_readValue_57 ?_
        refine V_bnd hF (fun y58 hF => ?_)
        refine V_put (pc := 58) h uX1_readValue_inX1 tyX1 tyX1_ok nmX1 0 2 rfl rfl (by decide) uX1_readValue_f18 rfl rfl (by decide +kernel) (Nat.le_of_ble_eq_true rfl) [(h0, .inr (1, [.ref h0_names, .ref h0_values, .int y58])), (h0_names, .inl (cI, 8, .inl (upd v0_names v0_size.toNatClampNeg x1))), (h0_values, .inl (cI, 8, .inl (upd v0_values v0_size.toNatClampNeg r20.2.2.2.2))), (h2, .inr (5, [.ref h2_letters, .ref h2_tokens, .ref h2_starts, .ref h2_numbers, .int v2_size, .int r20.2.1, .int v2_length, .int r20.2.2.1, .int r20.2.2.2.1, .int r20.2.2.2.2])), (h2_letters, .inl (cI, 160, .inl v2_letters)), (h2_tokens, .inl (cI, 160, .inl v2_tokens)), (h2_starts, .inl (cI, 160, .inl v2_starts)), (h2_numbers, .inl (cI, 160, .inl v2_numbers))] rfl dX1_readValue_58 ?_
        refine V_aload_n (pc := 61) h 2 dX1_readValue_61 rfl ?_
        refine V_bipush (pc := 62) h (v := (59 : Int32)) dX1_readValue_62 (by decide) ?_
        refine V_ciV (pc := 64) h (n := 1) (bytes := cX5_takes) (maxL := 2) (As := [.int (59 : Int32)]) (rest := []) gX1_readValue_X5_takes (by decide +kernel) rfl rfl rfl rfl ⟨rfl, rfl⟩ ⟨Nat.le_of_ble_eq_true rfl, Nat.le_of_ble_eq_true rfl⟩ [3, 4, 5, 6, 7] rfl (by decide) rfl (fun r64 => [(h0, .inr (1, [.ref h0_names, .ref h0_values, .int y58])), (h0_names, .inl (cI, 8, .inl (upd v0_names v0_size.toNatClampNeg x1))), (h0_values, .inl (cI, 8, .inl (upd v0_values v0_size.toNatClampNeg r20.2.2.2.2))), (h2, .inr (5, [.ref h2_letters, .ref h2_tokens, .ref h2_starts, .ref h2_numbers, .int v2_size, .int r64.2.1, .int v2_length, .int r64.2.2.1, .int r64.2.2.2.1, .int r64.2.2.2.2])), (h2_letters, .inl (cI, 160, .inl v2_letters)), (h2_tokens, .inl (cI, 160, .inl v2_tokens)), (h2_starts, .inl (cI, 160, .inl v2_starts)), (h2_numbers, .inl (cI, 160, .inl v2_numbers))]) (fun _ => rfl) (fun _ => rfl) rfl (Nat.le_of_ble_eq_true rfl) dX1_readValue_64 hF (fun r64 hG => k_X5_takes l D cI cZ h2 h2_letters h2_tokens h2_starts h2_numbers v2_size r20.2.1 v2_length r20.2.2.1 r20.2.2.2.1 r20.2.2.2.2 v2_letters v2_tokens v2_starts v2_numbers (59 : Int32) hG) (fun r64 hF => ?_)
        obtain ⟨hz, hF⟩ := gz_some hF
        have hF := Option.some.inj hF
        subst hF
        exact V_zret (pc := 67) h hz dX1_readValue_67
      · refine V_iconst (pc := 26) h (v := (0 : Int32)) dX1_readValue_26 (by decide) ?_
        have hF := Option.some.inj hF
        subst hF
        exact V_zret (pc := 27) h (Or.inl rfl) dX1_readValue_27
set_option maxRecDepth 100000 in
theorem k_X1_readValue (l : Launch) (D : va_G) (cI cZ : ClassId) (h0 h0_names h0_values h2 h2_letters h2_tokens h2_starts h2_numbers : Nat) (v0_size : Int32) (v0_names : (Nat → Int32)) (v0_values : (Nat → Int32)) (v2_size : Int32) (v2_at : Int32) (v2_length : Int32) (v2_token : Int32) (v2_start : Int32) (v2_number : Int32) (v2_letters : (Nat → Int32)) (v2_tokens : (Nat → Int32)) (v2_starts : (Nat → Int32)) (v2_numbers : (Nat → Int32)) (x1 : Int32) {o : Int32 × Int32 × (Nat → Int32) × (Nat → Int32) × Int32 × Int32 × Int32 × Int32} (hF : fX1_readValue v2_size v2_length v2_tokens v2_starts v2_numbers x1 v0_size v0_names v0_values v2_at v2_token v2_start v2_number = some o) : CI l yX1_readValue wsX1_readValue rmX1_readValue D cI cZ [.ref h0, .int x1, .ref h2] [(h0, .inr (1, [.ref h0_names, .ref h0_values, .int v0_size])), (h0_names, .inl (cI, 8, .inl v0_names)), (h0_values, .inl (cI, 8, .inl v0_values)), (h2, .inr (5, [.ref h2_letters, .ref h2_tokens, .ref h2_starts, .ref h2_numbers, .int v2_size, .int v2_at, .int v2_length, .int v2_token, .int v2_start, .int v2_number])), (h2_letters, .inl (cI, 160, .inl v2_letters)), (h2_tokens, .inl (cI, 160, .inl v2_tokens)), (h2_starts, .inl (cI, 160, .inl v2_starts)), (h2_numbers, .inl (cI, 160, .inl v2_numbers))] [(h0, .inr (1, [.ref h0_names, .ref h0_values, .int o.2.1])), (h0_names, .inl (cI, 8, .inl o.2.2.1)), (h0_values, .inl (cI, 8, .inl o.2.2.2.1)), (h2, .inr (5, [.ref h2_letters, .ref h2_tokens, .ref h2_starts, .ref h2_numbers, .int v2_size, .int o.2.2.2.2.1, .int v2_length, .int o.2.2.2.2.2.1, .int o.2.2.2.2.2.2.1, .int o.2.2.2.2.2.2.2])), (h2_letters, .inl (cI, 160, .inl v2_letters)), (h2_tokens, .inl (cI, 160, .inl v2_tokens)), (h2_starts, .inl (cI, 160, .inl v2_starts)), (h2_numbers, .inl (cI, 160, .inl v2_numbers))] o.1 :=
  CI_of (cc := cX1_readValue) (nL := 3) (ret := (some .boolean)) (by decide) rfl (Nat.le_of_ble_eq_true rfl) rfl (fun p e s m args below meth c A h => tfX1_readValue h hF)
/-! X1_readOrder -/
abbrev rmX1_readOrder : Room := { frames := 3, cells := 0, slots := 0, locals := 66 }
theorem uX1_readOrder_inX5 : ∀ w ∈ wsX50, w ∈ wsX1_readOrder := by decide +kernel
theorem uX1_readOrder_f42 : Cond.fieldLink RX1 42 "LeafAsks$Text" "number" "I" ∈ wsX1_readOrder := by decide +kernel
theorem uX1_readOrder_f49 : Cond.fieldLink RX1 49 "LeafAsks$Text" "token" "I" ∈ wsX1_readOrder := by decide +kernel
noncomputable def fX1_readOrder_b5 (v1_size : Int32) (v1_length : Int32) (v1_tokens : (Nat → Int32)) (v1_starts : (Nat → Int32)) (v1_numbers : (Nat → Int32)) (k5 : Int32 → (Nat → Int32) → (Nat → Int32) → Int32 → Int32 → Int32 → Int32 → Int32 → Int32 → Option (Int32 × Int32 × (Nat → Int32) × (Nat → Int32) × Int32 × Int32 × Int32 × Int32)) (v0_size : Int32) (v0_names : (Nat → Int32)) (v0_values : (Nat → Int32)) (v1_at : Int32) (v1_token : Int32) (v1_start : Int32) (v1_number : Int32) (x2 : Int32) (x3 : Int32) : Option (Int32 × Int32 × (Nat → Int32) × (Nat → Int32) × Int32 × Int32 × Int32 × Int32) :=
  if x3 < (0 : Int32) then some (((0 : Int32), v0_size, v0_names, v0_values, v1_at, v1_token, v1_start, v1_number)) else bd (fX5_isNumber v1_token v1_number (0 : Int32) (9 : Int32)) (fun r13 => if r13 = (0 : Int32) then some (((0 : Int32), v0_size, v0_names, v0_values, v1_at, v1_token, v1_start, v1_number)) else bnd (x2 ||| ((v1_number + (1 : Int32)) <<< (x3 &&& 31))) (fun x2_31 => bd (fX5_takes v1_size v1_length v1_tokens v1_starts v1_numbers (61 : Int32) v1_at v1_token v1_start v1_number) (fun r35 => if r35.1 = (0 : Int32) then if r35.2.2.1 = (46 : Int32) then if x3 = (0 : Int32) then some (((0 : Int32), v0_size, v0_names, v0_values, r35.2.1, r35.2.2.1, r35.2.2.2.1, r35.2.2.2.2)) else bd (fX5_advance v1_size v1_length v1_tokens v1_starts v1_numbers r35.2.1 r35.2.2.1 r35.2.2.2.1 r35.2.2.2.2) (fun r64 => bnd (x3 + (-4 : Int32)) (fun x3_67 => k5 v0_size v0_names v0_values r64.1 r64.2.1 r64.2.2.1 r64.2.2.2 x2_31 x3_67)) else some (((0 : Int32), v0_size, v0_names, v0_values, r35.2.1, r35.2.2.1, r35.2.2.2.1, r35.2.2.2.2)) else bd (fX1_readValue v1_size v1_length v1_tokens v1_starts v1_numbers x2_31 v0_size v0_names v0_values r35.2.1 r35.2.2.1 r35.2.2.2.1 r35.2.2.2.2) (fun r44 => gz r44.1 (some (r44.1, r44.2.1, r44.2.2.1, r44.2.2.2.1, r44.2.2.2.2.1, r44.2.2.2.2.2.1, r44.2.2.2.2.2.2.1, r44.2.2.2.2.2.2.2))))))
set_option maxRecDepth 100000 in
set_option maxHeartbeats 4000000 in
theorem tfX1_readOrder_b5 {p : Program} {l : Launch} {e : Env} {s : State} {m : MethodId} {args : Array Value} {below : List Frame} {meth : Method} {c : Code} {A : Nat → Prop} {D : va_G} {cI cZ : ClassId} (h : Cx p s m args meth c A D cI cZ 4 cX1_readOrder RX1 wsX1_readOrder (some .boolean)) {h0 h0_names h0_values h1 h1_letters h1_tokens h1_starts h1_numbers : Nat} {v1_size : Int32} {v1_length : Int32} {v1_letters : (Nat → Int32)} {v1_tokens : (Nat → Int32)} {v1_starts : (Nat → Int32)} {v1_numbers : (Nat → Int32)} {k5 : Int32 → (Nat → Int32) → (Nat → Int32) → Int32 → Int32 → Int32 → Int32 → Int32 → Int32 → Option (Int32 × Int32 × (Nat → Int32) × (Nat → Int32) × Int32 × Int32 × Int32 × Int32)} {v0_size : Int32} {v0_names : (Nat → Int32)} {v0_values : (Nat → Int32)} {v1_at : Int32} {v1_token : Int32} {v1_start : Int32} {v1_number : Int32} {x2 : Int32} {x3 : Int32} {o : Int32 × Int32 × (Nat → Int32) × (Nat → Int32) × Int32 × Int32 × Int32 × Int32} (hk5 : ∀ (v0_size : Int32) (v0_names : (Nat → Int32)) (v0_values : (Nat → Int32)) (v1_at : Int32) (v1_token : Int32) (v1_start : Int32) (v1_number : Int32) (x2 : Int32) (x3 : Int32), k5 v0_size v0_names v0_values v1_at v1_token v1_start v1_number x2 x3 = some o → V p l e rmX1_readOrder s m args below meth c A D 4 (QI D [(h0, .inr (1, [.ref h0_names, .ref h0_values, .int o.2.1])), (h0_names, .inl (cI, 8, .inl o.2.2.1)), (h0_values, .inl (cI, 8, .inl o.2.2.2.1)), (h1, .inr (5, [.ref h1_letters, .ref h1_tokens, .ref h1_starts, .ref h1_numbers, .int v1_size, .int o.2.2.2.2.1, .int v1_length, .int o.2.2.2.2.2.1, .int o.2.2.2.2.2.2.1, .int o.2.2.2.2.2.2.2])), (h1_letters, .inl (cI, 160, .inl v1_letters)), (h1_tokens, .inl (cI, 160, .inl v1_tokens)), (h1_starts, .inl (cI, 160, .inl v1_starts)), (h1_numbers, .inl (cI, 160, .inl v1_numbers))] o.1 A below args s) [(h0, .inr (1, [.ref h0_names, .ref h0_values, .int v0_size])), (h0_names, .inl (cI, 8, .inl v0_names)), (h0_values, .inl (cI, 8, .inl v0_values)), (h1, .inr (5, [.ref h1_letters, .ref h1_tokens, .ref h1_starts, .ref h1_numbers, .int v1_size, .int v1_at, .int v1_length, .int v1_token, .int v1_start, .int v1_number])), (h1_letters, .inl (cI, 160, .inl v1_letters)), (h1_tokens, .inl (cI, 160, .inl v1_tokens)), (h1_starts, .inl (cI, 160, .inl v1_starts)), (h1_numbers, .inl (cI, 160, .inl v1_numbers))] 5 [(0, .ref h0), (1, .ref h1), (2, .int x2), (3, .int x3)] []) (hF : fX1_readOrder_b5 v1_size v1_length v1_tokens v1_starts v1_numbers k5 v0_size v0_names v0_values v1_at v1_token v1_start v1_number x2 x3 = some o) : V p l e rmX1_readOrder s m args below meth c A D 4 (QI D [(h0, .inr (1, [.ref h0_names, .ref h0_values, .int o.2.1])), (h0_names, .inl (cI, 8, .inl o.2.2.1)), (h0_values, .inl (cI, 8, .inl o.2.2.2.1)), (h1, .inr (5, [.ref h1_letters, .ref h1_tokens, .ref h1_starts, .ref h1_numbers, .int v1_size, .int o.2.2.2.2.1, .int v1_length, .int o.2.2.2.2.2.1, .int o.2.2.2.2.2.2.1, .int o.2.2.2.2.2.2.2])), (h1_letters, .inl (cI, 160, .inl v1_letters)), (h1_tokens, .inl (cI, 160, .inl v1_tokens)), (h1_starts, .inl (cI, 160, .inl v1_starts)), (h1_numbers, .inl (cI, 160, .inl v1_numbers))] o.1 A below args s) [(h0, .inr (1, [.ref h0_names, .ref h0_values, .int v0_size])), (h0_names, .inl (cI, 8, .inl v0_names)), (h0_values, .inl (cI, 8, .inl v0_values)), (h1, .inr (5, [.ref h1_letters, .ref h1_tokens, .ref h1_starts, .ref h1_numbers, .int v1_size, .int v1_at, .int v1_length, .int v1_token, .int v1_start, .int v1_number])), (h1_letters, .inl (cI, 160, .inl v1_letters)), (h1_tokens, .inl (cI, 160, .inl v1_tokens)), (h1_starts, .inl (cI, 160, .inl v1_starts)), (h1_numbers, .inl (cI, 160, .inl v1_numbers))] 5 [(0, .ref h0), (1, .ref h1), (2, .int x2), (3, .int x3)] [] := by
  unfold fX1_readOrder_b5 at hF
  refine V_iload_n (pc := 5) h 3 dX1_readOrder_5 rfl ?_
  refine V_if_lt (pc := 6) h (tgt := 73) dX1_readOrder_6 (by decide) hF (fun hF => ?_) (fun hF => ?_)
  · refine V_iconst (pc := 73) h (v := (0 : Int32)) dX1_readOrder_73 (by decide) ?_
    have hF := Option.some.inj hF
    subst hF
    exact V_zret (pc := 74) h (Or.inl rfl) dX1_readOrder_74
  · refine V_aload_n (pc := 9) h 1 dX1_readOrder_9 rfl ?_
    refine V_iconst (pc := 10) h (v := (0 : Int32)) dX1_readOrder_10 (by decide) ?_
    refine V_bipush (pc := 11) h (v := (9 : Int32)) dX1_readOrder_11 (by decide) ?_
    refine V_ciV (pc := 13) h (n := 2) (bytes := cX5_isNumber) (maxL := 3) (As := [.int (0 : Int32), .int (9 : Int32)]) (rest := []) gX1_readOrder_X5_isNumber (by decide +kernel) rfl rfl rfl rfl ⟨rfl, rfl⟩ ⟨Nat.le_of_ble_eq_true rfl, Nat.le_of_ble_eq_true rfl⟩ [3, 4, 5, 6, 7] rfl (by decide) rfl (fun r13 => [(h0, .inr (1, [.ref h0_names, .ref h0_values, .int v0_size])), (h0_names, .inl (cI, 8, .inl v0_names)), (h0_values, .inl (cI, 8, .inl v0_values)), (h1, .inr (5, [.ref h1_letters, .ref h1_tokens, .ref h1_starts, .ref h1_numbers, .int v1_size, .int v1_at, .int v1_length, .int v1_token, .int v1_start, .int v1_number])), (h1_letters, .inl (cI, 160, .inl v1_letters)), (h1_tokens, .inl (cI, 160, .inl v1_tokens)), (h1_starts, .inl (cI, 160, .inl v1_starts)), (h1_numbers, .inl (cI, 160, .inl v1_numbers))]) (fun _ => rfl) (fun _ => rfl) rfl (Nat.le_of_ble_eq_true rfl) dX1_readOrder_13 hF (fun r13 hG => k_X5_isNumber l D cI cZ h1 h1_letters h1_tokens h1_starts h1_numbers v1_size v1_at v1_length v1_token v1_start v1_number v1_letters v1_tokens v1_starts v1_numbers (0 : Int32) (9 : Int32) hG) (fun r13 hF => ?_)
    refine V_if_ne (pc := 16) h (tgt := 21) dX1_readOrder_16 (by decide) hF (fun hF => ?_) (fun hF => ?_)
    · refine V_iload_n (pc := 21) h 2 dX1_readOrder_21 rfl ?_
      refine V_aload_n (pc := 22) h 1 dX1_readOrder_22 rfl ?_
      refine V_get (pc := 23) h uX1_readOrder_inX5 3 9 rfl rfl (by decide) uX1_readOrder_f42 rfl rfl dX1_readOrder_23 ?_
      refine V_iconst (pc := 26) h (v := (1 : Int32)) dX1_readOrder_26 (by decide) ?_
      refine V_iadd (pc := 27) h dX1_readOrder_27 ?_
      refine V_iload_n (pc := 28) h 3 dX1_readOrder_28 rfl ?_
      refine V_ishl (pc := 29) h dX1_readOrder_29 ?_
      refine V_ior (pc := 30) h dX1_readOrder_30 ?_
      refine V_bnd hF (fun x2_31 hF => ?_)
      refine V_istore_n (pc := 31) h [(2, .int x2_31), (0, .ref h0), (1, .ref h1), (3, .int x3)] dX1_readOrder_31 (by decide) rfl ?_
      refine V_aload_n (pc := 32) h 2 dX1_readOrder_32 rfl ?_
      refine V_bipush (pc := 33) h (v := (61 : Int32)) dX1_readOrder_33 (by decide) ?_
      refine V_ciV (pc := 35) h (n := 1) (bytes := cX5_takes) (maxL := 2) (As := [.int (61 : Int32)]) (rest := []) gX1_readOrder_X5_takes (by decide +kernel) rfl rfl rfl rfl ⟨rfl, rfl⟩ ⟨Nat.le_of_ble_eq_true rfl, Nat.le_of_ble_eq_true rfl⟩ [3, 4, 5, 6, 7] rfl (by decide) rfl (fun r35 => [(h0, .inr (1, [.ref h0_names, .ref h0_values, .int v0_size])), (h0_names, .inl (cI, 8, .inl v0_names)), (h0_values, .inl (cI, 8, .inl v0_values)), (h1, .inr (5, [.ref h1_letters, .ref h1_tokens, .ref h1_starts, .ref h1_numbers, .int v1_size, .int r35.2.1, .int v1_length, .int r35.2.2.1, .int r35.2.2.2.1, .int r35.2.2.2.2])), (h1_letters, .inl (cI, 160, .inl v1_letters)), (h1_tokens, .inl (cI, 160, .inl v1_tokens)), (h1_starts, .inl (cI, 160, .inl v1_starts)), (h1_numbers, .inl (cI, 160, .inl v1_numbers))]) (fun _ => rfl) (fun _ => rfl) rfl (Nat.le_of_ble_eq_true rfl) dX1_readOrder_35 hF (fun r35 hG => k_X5_takes l D cI cZ h1 h1_letters h1_tokens h1_starts h1_numbers v1_size v1_at v1_length v1_token v1_start v1_number v1_letters v1_tokens v1_starts v1_numbers (61 : Int32) hG) (fun r35 hF => ?_)
      refine V_if_eq (pc := 38) h (tgt := 48) dX1_readOrder_38 (by decide) hF (fun hF => ?_) (fun hF => ?_)
      · refine V_aload_n (pc := 48) h 2 dX1_readOrder_48 rfl ?_
        refine V_get (pc := 49) h uX1_readOrder_inX5 3 7 rfl rfl (by decide) uX1_readOrder_f49 rfl rfl dX1_readOrder_49 ?_
        refine V_bipush (pc := 52) h (v := (46 : Int32)) dX1_readOrder_52 (by decide) ?_
        refine V_icmp_ne (pc := 54) h (tgt := 61) dX1_readOrder_54 (by decide) hF (fun hF => ?_) (fun hF => ?_)
        · refine V_iconst (pc := 61) h (v := (0 : Int32)) dX1_readOrder_61 (by decide) ?_
          have hF := Option.some.inj hF
          subst hF
          exact V_zret (pc := 62) h (Or.inl rfl) dX1_readOrder_62
        · refine V_iload_n (pc := 57) h 3 dX1_readOrder_57 rfl ?_
          refine V_if_ne (pc := 58) h (tgt := 63) dX1_readOrder_58 (by decide) hF (fun hF => ?_) (fun hF => ?_)
          · refine V_aload_n (pc := 63) h 2 dX1_readOrder_63 rfl ?_
            refine V_cvV (pc := 64) h (n := 0) (bytes := cX5_advance) (maxL := 1) (As := []) (rest := []) gX1_readOrder_X5_advance (by decide +kernel) rfl rfl rfl rfl ⟨rfl, rfl⟩ ⟨Nat.le_of_ble_eq_true rfl, Nat.le_of_ble_eq_true rfl⟩ [3, 4, 5, 6, 7] rfl (by decide) rfl (fun r64 => [(h0, .inr (1, [.ref h0_names, .ref h0_values, .int v0_size])), (h0_names, .inl (cI, 8, .inl v0_names)), (h0_values, .inl (cI, 8, .inl v0_values)), (h1, .inr (5, [.ref h1_letters, .ref h1_tokens, .ref h1_starts, .ref h1_numbers, .int v1_size, .int r64.1, .int v1_length, .int r64.2.1, .int r64.2.2.1, .int r64.2.2.2])), (h1_letters, .inl (cI, 160, .inl v1_letters)), (h1_tokens, .inl (cI, 160, .inl v1_tokens)), (h1_starts, .inl (cI, 160, .inl v1_starts)), (h1_numbers, .inl (cI, 160, .inl v1_numbers))]) (fun _ => rfl) (fun _ => rfl) rfl (Nat.le_of_ble_eq_true rfl) dX1_readOrder_64 hF (fun r64 hG => k_X5_advance l D cI cZ h1 h1_letters h1_tokens h1_starts h1_numbers v1_size r35.2.1 v1_length r35.2.2.1 r35.2.2.2.1 r35.2.2.2.2 v1_letters v1_tokens v1_starts v1_numbers hG) (fun r64 hF => ?_)
            refine V_iinc (pc := 67) h 3 (fun x3_67 => [(3, .int x3_67), (2, .int x2_31), (0, .ref h0), (1, .ref h1)]) dX1_readOrder_67 rfl rfl (by decide) (fun _ => rfl) hF (fun x3_67 hF => ?_)
            refine V_goto (pc := 70) h (tgt := 5) dX1_readOrder_70 (by decide) ?_
            refine V_lv [2, 3, 1, 0] [(0, .ref h0), (1, .ref h1), (2, .int x2_31), (3, .int x3_67)] rfl ?_
            exact hk5 _ _ _ _ _ _ _ _ _ hF
          · refine V_iconst (pc := 61) h (v := (0 : Int32)) dX1_readOrder_61 (by decide) ?_
            have hF := Option.some.inj hF
            subst hF
            exact V_zret (pc := 62) h (Or.inl rfl) dX1_readOrder_62
      · refine V_aload_n (pc := 41) h 1 dX1_readOrder_41 rfl ?_
        refine V_iload_n (pc := 42) h 0 dX1_readOrder_42 rfl ?_
        refine V_aload_n (pc := 43) h 2 dX1_readOrder_43 rfl ?_
        refine V_ciVA (pc := 44) h (n := 2) (bytes := cX1_readValue) (maxL := 3) (As := [.int x2_31, .ref h1]) (rest := []) gX1_readOrder_X1_readValue (by decide +kernel) rfl rfl rfl rfl ⟨rfl, rfl⟩ ⟨Nat.le_of_ble_eq_true rfl, Nat.le_of_ble_eq_true rfl⟩ rfl rfl (Nat.le_of_ble_eq_true rfl) dX1_readOrder_44 hF (fun r44 hG => k_X1_readValue l D cI cZ h0 h0_names h0_values h1 h1_letters h1_tokens h1_starts h1_numbers v0_size v0_names v0_values v1_size r35.2.1 v1_length r35.2.2.1 r35.2.2.2.1 r35.2.2.2.2 v1_letters v1_tokens v1_starts v1_numbers x2_31 hG) (fun r44 hF => ?_)
        obtain ⟨hz, hF⟩ := gz_some hF
        have hF := Option.some.inj hF
        subst hF
        exact V_zret (pc := 47) h hz dX1_readOrder_47
    · refine V_iconst (pc := 19) h (v := (0 : Int32)) dX1_readOrder_19 (by decide) ?_
      have hF := Option.some.inj hF
      subst hF
      exact V_zret (pc := 20) h (Or.inl rfl) dX1_readOrder_20
noncomputable def fX1_readOrder_l5 (v1_size : Int32) (v1_length : Int32) (v1_tokens : (Nat → Int32)) (v1_starts : (Nat → Int32)) (v1_numbers : (Nat → Int32)) (n : Nat) : Int32 → (Nat → Int32) → (Nat → Int32) → Int32 → Int32 → Int32 → Int32 → Int32 → Int32 → Option (Int32 × Int32 × (Nat → Int32) × (Nat → Int32) × Int32 × Int32 × Int32 × Int32) :=
  Nat.rec (motive := fun _ => Int32 → (Nat → Int32) → (Nat → Int32) → Int32 → Int32 → Int32 → Int32 → Int32 → Int32 → Option (Int32 × Int32 × (Nat → Int32) × (Nat → Int32) × Int32 × Int32 × Int32 × Int32)) (fun _ _ _ _ _ _ _ _ _ => none) (fun _ ih => fX1_readOrder_b5 v1_size v1_length v1_tokens v1_starts v1_numbers ih) n
theorem fX1_readOrder_l5_s (v1_size : Int32) (v1_length : Int32) (v1_tokens : (Nat → Int32)) (v1_starts : (Nat → Int32)) (v1_numbers : (Nat → Int32)) (n : Nat) (v0_size : Int32) (v0_names : (Nat → Int32)) (v0_values : (Nat → Int32)) (v1_at : Int32) (v1_token : Int32) (v1_start : Int32) (v1_number : Int32) (x2 : Int32) (x3 : Int32) : fX1_readOrder_l5 v1_size v1_length v1_tokens v1_starts v1_numbers (n + 1) v0_size v0_names v0_values v1_at v1_token v1_start v1_number x2 x3 = fX1_readOrder_b5 v1_size v1_length v1_tokens v1_starts v1_numbers (fX1_readOrder_l5 v1_size v1_length v1_tokens v1_starts v1_numbers n) v0_size v0_names v0_values v1_at v1_token v1_start v1_number x2 x3 := rfl
set_option maxRecDepth 100000 in
set_option maxHeartbeats 4000000 in
theorem tfX1_readOrder_l5 {p : Program} {l : Launch} {e : Env} {s : State} {m : MethodId} {args : Array Value} {below : List Frame} {meth : Method} {c : Code} {A : Nat → Prop} {D : va_G} {cI cZ : ClassId} (h : Cx p s m args meth c A D cI cZ 4 cX1_readOrder RX1 wsX1_readOrder (some .boolean)) {h0 h0_names h0_values h1 h1_letters h1_tokens h1_starts h1_numbers : Nat} {v1_size : Int32} {v1_length : Int32} {v1_letters : (Nat → Int32)} {v1_tokens : (Nat → Int32)} {v1_starts : (Nat → Int32)} {v1_numbers : (Nat → Int32)} {o : Int32 × Int32 × (Nat → Int32) × (Nat → Int32) × Int32 × Int32 × Int32 × Int32} (n : Nat) : ∀ (v0_size : Int32) (v0_names : (Nat → Int32)) (v0_values : (Nat → Int32)) (v1_at : Int32) (v1_token : Int32) (v1_start : Int32) (v1_number : Int32) (x2 : Int32) (x3 : Int32) (hF : fX1_readOrder_l5 v1_size v1_length v1_tokens v1_starts v1_numbers n v0_size v0_names v0_values v1_at v1_token v1_start v1_number x2 x3 = some o), V p l e rmX1_readOrder s m args below meth c A D 4 (QI D [(h0, .inr (1, [.ref h0_names, .ref h0_values, .int o.2.1])), (h0_names, .inl (cI, 8, .inl o.2.2.1)), (h0_values, .inl (cI, 8, .inl o.2.2.2.1)), (h1, .inr (5, [.ref h1_letters, .ref h1_tokens, .ref h1_starts, .ref h1_numbers, .int v1_size, .int o.2.2.2.2.1, .int v1_length, .int o.2.2.2.2.2.1, .int o.2.2.2.2.2.2.1, .int o.2.2.2.2.2.2.2])), (h1_letters, .inl (cI, 160, .inl v1_letters)), (h1_tokens, .inl (cI, 160, .inl v1_tokens)), (h1_starts, .inl (cI, 160, .inl v1_starts)), (h1_numbers, .inl (cI, 160, .inl v1_numbers))] o.1 A below args s) [(h0, .inr (1, [.ref h0_names, .ref h0_values, .int v0_size])), (h0_names, .inl (cI, 8, .inl v0_names)), (h0_values, .inl (cI, 8, .inl v0_values)), (h1, .inr (5, [.ref h1_letters, .ref h1_tokens, .ref h1_starts, .ref h1_numbers, .int v1_size, .int v1_at, .int v1_length, .int v1_token, .int v1_start, .int v1_number])), (h1_letters, .inl (cI, 160, .inl v1_letters)), (h1_tokens, .inl (cI, 160, .inl v1_tokens)), (h1_starts, .inl (cI, 160, .inl v1_starts)), (h1_numbers, .inl (cI, 160, .inl v1_numbers))] 5 [(0, .ref h0), (1, .ref h1), (2, .int x2), (3, .int x3)] [] := by
  induction n with
  | zero => intro v0_size v0_names v0_values v1_at v1_token v1_start v1_number x2 x3 hF; exact nomatch (show (none : Option (Int32 × Int32 × (Nat → Int32) × (Nat → Int32) × Int32 × Int32 × Int32 × Int32)) = some o from hF)
  | succ n ih => intro v0_size v0_names v0_values v1_at v1_token v1_start v1_number x2 x3 hF; exact tfX1_readOrder_b5 (k5 := fX1_readOrder_l5 v1_size v1_length v1_tokens v1_starts v1_numbers n) h ih hF
noncomputable def fX1_readOrder (v1_size : Int32) (v1_length : Int32) (v1_tokens : (Nat → Int32)) (v1_starts : (Nat → Int32)) (v1_numbers : (Nat → Int32)) (v0_size : Int32) (v0_names : (Nat → Int32)) (v0_values : (Nat → Int32)) (v1_at : Int32) (v1_token : Int32) (v1_start : Int32) (v1_number : Int32) : Option (Int32 × Int32 × (Nat → Int32) × (Nat → Int32) × Int32 × Int32 × Int32 × Int32) :=
  fX1_readOrder_l5 v1_size v1_length v1_tokens v1_starts v1_numbers 1000 v0_size v0_names v0_values v1_at v1_token v1_start v1_number (0 : Int32) (12 : Int32)
set_option maxRecDepth 100000 in
set_option maxHeartbeats 4000000 in
theorem tfX1_readOrder {p : Program} {l : Launch} {e : Env} {s : State} {m : MethodId} {args : Array Value} {below : List Frame} {meth : Method} {c : Code} {A : Nat → Prop} {D : va_G} {cI cZ : ClassId} (h : Cx p s m args meth c A D cI cZ 4 cX1_readOrder RX1 wsX1_readOrder (some .boolean)) {h0 h0_names h0_values h1 h1_letters h1_tokens h1_starts h1_numbers : Nat} {v1_size : Int32} {v1_length : Int32} {v1_letters : (Nat → Int32)} {v1_tokens : (Nat → Int32)} {v1_starts : (Nat → Int32)} {v1_numbers : (Nat → Int32)} {v0_size : Int32} {v0_names : (Nat → Int32)} {v0_values : (Nat → Int32)} {v1_at : Int32} {v1_token : Int32} {v1_start : Int32} {v1_number : Int32} {o : Int32 × Int32 × (Nat → Int32) × (Nat → Int32) × Int32 × Int32 × Int32 × Int32} (hF : fX1_readOrder v1_size v1_length v1_tokens v1_starts v1_numbers v0_size v0_names v0_values v1_at v1_token v1_start v1_number = some o) : V p l e rmX1_readOrder s m args below meth c A D 4 (QI D [(h0, .inr (1, [.ref h0_names, .ref h0_values, .int o.2.1])), (h0_names, .inl (cI, 8, .inl o.2.2.1)), (h0_values, .inl (cI, 8, .inl o.2.2.2.1)), (h1, .inr (5, [.ref h1_letters, .ref h1_tokens, .ref h1_starts, .ref h1_numbers, .int v1_size, .int o.2.2.2.2.1, .int v1_length, .int o.2.2.2.2.2.1, .int o.2.2.2.2.2.2.1, .int o.2.2.2.2.2.2.2])), (h1_letters, .inl (cI, 160, .inl v1_letters)), (h1_tokens, .inl (cI, 160, .inl v1_tokens)), (h1_starts, .inl (cI, 160, .inl v1_starts)), (h1_numbers, .inl (cI, 160, .inl v1_numbers))] o.1 A below args s) [(h0, .inr (1, [.ref h0_names, .ref h0_values, .int v0_size])), (h0_names, .inl (cI, 8, .inl v0_names)), (h0_values, .inl (cI, 8, .inl v0_values)), (h1, .inr (5, [.ref h1_letters, .ref h1_tokens, .ref h1_starts, .ref h1_numbers, .int v1_size, .int v1_at, .int v1_length, .int v1_token, .int v1_start, .int v1_number])), (h1_letters, .inl (cI, 160, .inl v1_letters)), (h1_tokens, .inl (cI, 160, .inl v1_tokens)), (h1_starts, .inl (cI, 160, .inl v1_starts)), (h1_numbers, .inl (cI, 160, .inl v1_numbers))] 0 [(0, .ref h0), (1, .ref h1)] [] := by
  unfold fX1_readOrder at hF
  refine V_iconst (pc := 0) h (v := (0 : Int32)) dX1_readOrder_0 (by decide) ?_
  refine V_istore_n (pc := 1) h [(2, .int (0 : Int32)), (0, .ref h0), (1, .ref h1)] dX1_readOrder_1 (by decide) rfl ?_
  refine V_bipush (pc := 2) h (v := (12 : Int32)) dX1_readOrder_2 (by decide) ?_
  refine V_istore_n (pc := 4) h [(3, .int (12 : Int32)), (2, .int (0 : Int32)), (0, .ref h0), (1, .ref h1)] dX1_readOrder_4 (by decide) rfl ?_
  refine V_lv [2, 3, 1, 0] [(0, .ref h0), (1, .ref h1), (2, .int (0 : Int32)), (3, .int (12 : Int32))] rfl ?_
  exact tfX1_readOrder_l5 h 1000 _ _ _ _ _ _ _ _ _ hF
set_option maxRecDepth 100000 in
theorem k_X1_readOrder (l : Launch) (D : va_G) (cI cZ : ClassId) (h0 h0_names h0_values h1 h1_letters h1_tokens h1_starts h1_numbers : Nat) (v0_size : Int32) (v0_names : (Nat → Int32)) (v0_values : (Nat → Int32)) (v1_size : Int32) (v1_at : Int32) (v1_length : Int32) (v1_token : Int32) (v1_start : Int32) (v1_number : Int32) (v1_letters : (Nat → Int32)) (v1_tokens : (Nat → Int32)) (v1_starts : (Nat → Int32)) (v1_numbers : (Nat → Int32)) {o : Int32 × Int32 × (Nat → Int32) × (Nat → Int32) × Int32 × Int32 × Int32 × Int32} (hF : fX1_readOrder v1_size v1_length v1_tokens v1_starts v1_numbers v0_size v0_names v0_values v1_at v1_token v1_start v1_number = some o) : CI l yX1_readOrder wsX1_readOrder rmX1_readOrder D cI cZ [.ref h0, .ref h1] [(h0, .inr (1, [.ref h0_names, .ref h0_values, .int v0_size])), (h0_names, .inl (cI, 8, .inl v0_names)), (h0_values, .inl (cI, 8, .inl v0_values)), (h1, .inr (5, [.ref h1_letters, .ref h1_tokens, .ref h1_starts, .ref h1_numbers, .int v1_size, .int v1_at, .int v1_length, .int v1_token, .int v1_start, .int v1_number])), (h1_letters, .inl (cI, 160, .inl v1_letters)), (h1_tokens, .inl (cI, 160, .inl v1_tokens)), (h1_starts, .inl (cI, 160, .inl v1_starts)), (h1_numbers, .inl (cI, 160, .inl v1_numbers))] [(h0, .inr (1, [.ref h0_names, .ref h0_values, .int o.2.1])), (h0_names, .inl (cI, 8, .inl o.2.2.1)), (h0_values, .inl (cI, 8, .inl o.2.2.2.1)), (h1, .inr (5, [.ref h1_letters, .ref h1_tokens, .ref h1_starts, .ref h1_numbers, .int v1_size, .int o.2.2.2.2.1, .int v1_length, .int o.2.2.2.2.2.1, .int o.2.2.2.2.2.2.1, .int o.2.2.2.2.2.2.2])), (h1_letters, .inl (cI, 160, .inl v1_letters)), (h1_tokens, .inl (cI, 160, .inl v1_tokens)), (h1_starts, .inl (cI, 160, .inl v1_starts)), (h1_numbers, .inl (cI, 160, .inl v1_numbers))] o.1 :=
  CI_of (cc := cX1_readOrder) (nL := 4) (ret := (some .boolean)) (by decide) rfl (Nat.le_of_ble_eq_true rfl) rfl (fun p e s m args below meth c A h => tfX1_readOrder h hF)
/-! X1_readFrom -/
abbrev rmX1_readFrom : Room := { frames := 4, cells := 0, slots := 0, locals := 89 }
theorem uX1_readFrom_inX5 : ∀ w ∈ wsX50, w ∈ wsX1_readFrom := by decide +kernel
theorem uX1_readFrom_f31 : Cond.fieldLink RX1 31 "LeafAsks$Text" "start" "I" ∈ wsX1_readFrom := by decide +kernel
theorem uX1_readFrom_inX1 : ∀ w ∈ wsX10, w ∈ wsX1_readFrom := by decide +kernel
theorem uX1_readFrom_f18 : Cond.fieldLink RX1 18 "LeafAsks$Orders" "size" "I" ∈ wsX1_readFrom := by decide +kernel
noncomputable def fX1_readFrom_b11 (v1_length : Int32) (v1_letters : (Nat → Int32)) (k11 : Int32 → (Nat → Int32) → (Nat → Int32) → Int32 → Int32 → Int32 → Int32 → Int32 → (Nat → Int32) → (Nat → Int32) → (Nat → Int32) → Int32 → Option (Int32 × Int32 × (Nat → Int32) × (Nat → Int32) × Int32 × Int32 × Int32 × Int32 × Int32 × (Nat → Int32) × (Nat → Int32) × (Nat → Int32))) (v0_size : Int32) (v0_names : (Nat → Int32)) (v0_values : (Nat → Int32)) (v1_size : Int32) (v1_at : Int32) (v1_token : Int32) (v1_start : Int32) (v1_number : Int32) (v1_tokens : (Nat → Int32)) (v1_starts : (Nat → Int32)) (v1_numbers : (Nat → Int32)) (x2 : Int32) : Option (Int32 × Int32 × (Nat → Int32) × (Nat → Int32) × Int32 × Int32 × Int32 × Int32 × Int32 × (Nat → Int32) × (Nat → Int32) × (Nat → Int32)) :=
  if (8 : Int32) ≤ x2 then bd (fX5_takes v1_size v1_length v1_tokens v1_starts v1_numbers (257 : Int32) v1_at v1_token v1_start v1_number) (fun r66 => if r66.1 = (0 : Int32) then some (r66.2.2.2.1, v0_size, v0_names, v0_values, v1_size, r66.2.1, r66.2.2.1, r66.2.2.2.1, r66.2.2.2.2, v1_tokens, v1_starts, v1_numbers) else some (((-1 : Int32), v0_size, v0_names, v0_values, v1_size, r66.2.1, r66.2.2.1, r66.2.2.2.1, r66.2.2.2.2, v1_tokens, v1_starts, v1_numbers))) else bd (fX5_takes v1_size v1_length v1_tokens v1_starts v1_numbers (257 : Int32) v1_at v1_token v1_start v1_number) (fun r21 => if r21.1 = (0 : Int32) then bd (fX1_readOrder v1_size v1_length v1_tokens v1_starts v1_numbers v0_size v0_names v0_values r21.2.1 r21.2.2.1 r21.2.2.2.1 r21.2.2.2.2) (fun r45 => if r45.1 = (0 : Int32) then some (r45.2.2.2.2.2.2.1, r45.2.1, r45.2.2.1, r45.2.2.2.1, v1_size, r45.2.2.2.2.1, r45.2.2.2.2.2.1, r45.2.2.2.2.2.2.1, r45.2.2.2.2.2.2.2, v1_tokens, v1_starts, v1_numbers) else bnd (x2 + (1 : Int32)) (fun x2_56 => k11 r45.2.1 r45.2.2.1 r45.2.2.2.1 v1_size r45.2.2.2.2.1 r45.2.2.2.2.2.1 r45.2.2.2.2.2.2.1 r45.2.2.2.2.2.2.2 v1_tokens v1_starts v1_numbers x2_56)) else if v0_size ≤ (0 : Int32) then some (r21.2.2.2.1, v0_size, v0_names, v0_values, v1_size, r21.2.1, r21.2.2.1, r21.2.2.2.1, r21.2.2.2.2, v1_tokens, v1_starts, v1_numbers) else some (((-1 : Int32), v0_size, v0_names, v0_values, v1_size, r21.2.1, r21.2.2.1, r21.2.2.2.1, r21.2.2.2.2, v1_tokens, v1_starts, v1_numbers)))
set_option maxRecDepth 100000 in
set_option maxHeartbeats 4000000 in
theorem tfX1_readFrom_b11 {p : Program} {l : Launch} {e : Env} {s : State} {m : MethodId} {args : Array Value} {below : List Frame} {meth : Method} {c : Code} {A : Nat → Prop} {D : va_G} {cI cZ : ClassId} (h : Cx p s m args meth c A D cI cZ 3 cX1_readFrom RX1 wsX1_readFrom (some .int)) {h0 h0_names h0_values h1 h1_letters h1_tokens h1_starts h1_numbers : Nat} {v1_length : Int32} {v1_letters : (Nat → Int32)} {k11 : Int32 → (Nat → Int32) → (Nat → Int32) → Int32 → Int32 → Int32 → Int32 → Int32 → (Nat → Int32) → (Nat → Int32) → (Nat → Int32) → Int32 → Option (Int32 × Int32 × (Nat → Int32) × (Nat → Int32) × Int32 × Int32 × Int32 × Int32 × Int32 × (Nat → Int32) × (Nat → Int32) × (Nat → Int32))} {v0_size : Int32} {v0_names : (Nat → Int32)} {v0_values : (Nat → Int32)} {v1_size : Int32} {v1_at : Int32} {v1_token : Int32} {v1_start : Int32} {v1_number : Int32} {v1_tokens : (Nat → Int32)} {v1_starts : (Nat → Int32)} {v1_numbers : (Nat → Int32)} {x2 : Int32} {o : Int32 × Int32 × (Nat → Int32) × (Nat → Int32) × Int32 × Int32 × Int32 × Int32 × Int32 × (Nat → Int32) × (Nat → Int32) × (Nat → Int32)} (hk11 : ∀ (v0_size : Int32) (v0_names : (Nat → Int32)) (v0_values : (Nat → Int32)) (v1_size : Int32) (v1_at : Int32) (v1_token : Int32) (v1_start : Int32) (v1_number : Int32) (v1_tokens : (Nat → Int32)) (v1_starts : (Nat → Int32)) (v1_numbers : (Nat → Int32)) (x2 : Int32), k11 v0_size v0_names v0_values v1_size v1_at v1_token v1_start v1_number v1_tokens v1_starts v1_numbers x2 = some o → V p l e rmX1_readFrom s m args below meth c A D 3 (QI D [(h0, .inr (1, [.ref h0_names, .ref h0_values, .int o.2.1])), (h0_names, .inl (cI, 8, .inl o.2.2.1)), (h0_values, .inl (cI, 8, .inl o.2.2.2.1)), (h1, .inr (5, [.ref h1_letters, .ref h1_tokens, .ref h1_starts, .ref h1_numbers, .int o.2.2.2.2.1, .int o.2.2.2.2.2.1, .int v1_length, .int o.2.2.2.2.2.2.1, .int o.2.2.2.2.2.2.2.1, .int o.2.2.2.2.2.2.2.2.1])), (h1_letters, .inl (cI, 160, .inl v1_letters)), (h1_tokens, .inl (cI, 160, .inl o.2.2.2.2.2.2.2.2.2.1)), (h1_starts, .inl (cI, 160, .inl o.2.2.2.2.2.2.2.2.2.2.1)), (h1_numbers, .inl (cI, 160, .inl o.2.2.2.2.2.2.2.2.2.2.2))] o.1 A below args s) [(h0, .inr (1, [.ref h0_names, .ref h0_values, .int v0_size])), (h0_names, .inl (cI, 8, .inl v0_names)), (h0_values, .inl (cI, 8, .inl v0_values)), (h1, .inr (5, [.ref h1_letters, .ref h1_tokens, .ref h1_starts, .ref h1_numbers, .int v1_size, .int v1_at, .int v1_length, .int v1_token, .int v1_start, .int v1_number])), (h1_letters, .inl (cI, 160, .inl v1_letters)), (h1_tokens, .inl (cI, 160, .inl v1_tokens)), (h1_starts, .inl (cI, 160, .inl v1_starts)), (h1_numbers, .inl (cI, 160, .inl v1_numbers))] 11 [(0, .ref h0), (1, .ref h1), (2, .int x2)] []) (hF : fX1_readFrom_b11 v1_length v1_letters k11 v0_size v0_names v0_values v1_size v1_at v1_token v1_start v1_number v1_tokens v1_starts v1_numbers x2 = some o) : V p l e rmX1_readFrom s m args below meth c A D 3 (QI D [(h0, .inr (1, [.ref h0_names, .ref h0_values, .int o.2.1])), (h0_names, .inl (cI, 8, .inl o.2.2.1)), (h0_values, .inl (cI, 8, .inl o.2.2.2.1)), (h1, .inr (5, [.ref h1_letters, .ref h1_tokens, .ref h1_starts, .ref h1_numbers, .int o.2.2.2.2.1, .int o.2.2.2.2.2.1, .int v1_length, .int o.2.2.2.2.2.2.1, .int o.2.2.2.2.2.2.2.1, .int o.2.2.2.2.2.2.2.2.1])), (h1_letters, .inl (cI, 160, .inl v1_letters)), (h1_tokens, .inl (cI, 160, .inl o.2.2.2.2.2.2.2.2.2.1)), (h1_starts, .inl (cI, 160, .inl o.2.2.2.2.2.2.2.2.2.2.1)), (h1_numbers, .inl (cI, 160, .inl o.2.2.2.2.2.2.2.2.2.2.2))] o.1 A below args s) [(h0, .inr (1, [.ref h0_names, .ref h0_values, .int v0_size])), (h0_names, .inl (cI, 8, .inl v0_names)), (h0_values, .inl (cI, 8, .inl v0_values)), (h1, .inr (5, [.ref h1_letters, .ref h1_tokens, .ref h1_starts, .ref h1_numbers, .int v1_size, .int v1_at, .int v1_length, .int v1_token, .int v1_start, .int v1_number])), (h1_letters, .inl (cI, 160, .inl v1_letters)), (h1_tokens, .inl (cI, 160, .inl v1_tokens)), (h1_starts, .inl (cI, 160, .inl v1_starts)), (h1_numbers, .inl (cI, 160, .inl v1_numbers))] 11 [(0, .ref h0), (1, .ref h1), (2, .int x2)] [] := by
  unfold fX1_readFrom_b11 at hF
  refine V_iload_n (pc := 11) h 2 dX1_readFrom_11 rfl ?_
  refine V_bipush (pc := 12) h (v := (8 : Int32)) dX1_readFrom_12 (by decide) ?_
  refine V_icmp_ge (pc := 14) h (tgt := 62) dX1_readFrom_14 (by decide) hF (fun hF => ?_) (fun hF => ?_)
  · refine V_aload_n (pc := 62) h 1 dX1_readFrom_62 rfl ?_
    refine V_sipush (pc := 63) h (v := (257 : Int32)) dX1_readFrom_63 (by decide) ?_
    refine V_ciV (pc := 66) h (n := 1) (bytes := cX5_takes) (maxL := 2) (As := [.int (257 : Int32)]) (rest := []) gX1_readFrom_X5_takes (by decide +kernel) rfl rfl rfl rfl ⟨rfl, rfl⟩ ⟨Nat.le_of_ble_eq_true rfl, Nat.le_of_ble_eq_true rfl⟩ [3, 4, 5, 6, 7] rfl (by decide) rfl (fun r66 => [(h0, .inr (1, [.ref h0_names, .ref h0_values, .int v0_size])), (h0_names, .inl (cI, 8, .inl v0_names)), (h0_values, .inl (cI, 8, .inl v0_values)), (h1, .inr (5, [.ref h1_letters, .ref h1_tokens, .ref h1_starts, .ref h1_numbers, .int v1_size, .int r66.2.1, .int v1_length, .int r66.2.2.1, .int r66.2.2.2.1, .int r66.2.2.2.2])), (h1_letters, .inl (cI, 160, .inl v1_letters)), (h1_tokens, .inl (cI, 160, .inl v1_tokens)), (h1_starts, .inl (cI, 160, .inl v1_starts)), (h1_numbers, .inl (cI, 160, .inl v1_numbers))]) (fun _ => rfl) (fun _ => rfl) rfl (Nat.le_of_ble_eq_true rfl) dX1_readFrom_66 hF (fun r66 hG => k_X5_takes l D cI cZ h1 h1_letters h1_tokens h1_starts h1_numbers v1_size v1_at v1_length v1_token v1_start v1_number v1_letters v1_tokens v1_starts v1_numbers (257 : Int32) hG) (fun r66 hF => ?_)
    refine V_if_eq (pc := 69) h (tgt := 76) dX1_readFrom_69 (by decide) hF (fun hF => ?_) (fun hF => ?_)
    · refine V_aload_n (pc := 76) h 1 dX1_readFrom_76 rfl ?_
      refine V_get (pc := 77) h uX1_readFrom_inX5 3 8 rfl rfl (by decide) uX1_readFrom_f31 rfl rfl dX1_readFrom_77 ?_
      have hF := Option.some.inj hF
      subst hF
      exact V_iret (pc := 80) h dX1_readFrom_80
    · refine V_iconst (pc := 72) h (v := (-1 : Int32)) dX1_readFrom_72 (by decide) ?_
      refine V_goto (pc := 73) h (tgt := 80) dX1_readFrom_73 (by decide) ?_
      have hF := Option.some.inj hF
      subst hF
      exact V_iret (pc := 80) h dX1_readFrom_80
  · refine V_aload_n (pc := 17) h 1 dX1_readFrom_17 rfl ?_
    refine V_sipush (pc := 18) h (v := (257 : Int32)) dX1_readFrom_18 (by decide) ?_
    refine V_ciV (pc := 21) h (n := 1) (bytes := cX5_takes) (maxL := 2) (As := [.int (257 : Int32)]) (rest := []) gX1_readFrom_X5_takes (by decide +kernel) rfl rfl rfl rfl ⟨rfl, rfl⟩ ⟨Nat.le_of_ble_eq_true rfl, Nat.le_of_ble_eq_true rfl⟩ [3, 4, 5, 6, 7] rfl (by decide) rfl (fun r21 => [(h0, .inr (1, [.ref h0_names, .ref h0_values, .int v0_size])), (h0_names, .inl (cI, 8, .inl v0_names)), (h0_values, .inl (cI, 8, .inl v0_values)), (h1, .inr (5, [.ref h1_letters, .ref h1_tokens, .ref h1_starts, .ref h1_numbers, .int v1_size, .int r21.2.1, .int v1_length, .int r21.2.2.1, .int r21.2.2.2.1, .int r21.2.2.2.2])), (h1_letters, .inl (cI, 160, .inl v1_letters)), (h1_tokens, .inl (cI, 160, .inl v1_tokens)), (h1_starts, .inl (cI, 160, .inl v1_starts)), (h1_numbers, .inl (cI, 160, .inl v1_numbers))]) (fun _ => rfl) (fun _ => rfl) rfl (Nat.le_of_ble_eq_true rfl) dX1_readFrom_21 hF (fun r21 hG => k_X5_takes l D cI cZ h1 h1_letters h1_tokens h1_starts h1_numbers v1_size v1_at v1_length v1_token v1_start v1_number v1_letters v1_tokens v1_starts v1_numbers (257 : Int32) hG) (fun r21 hF => ?_)
    refine V_if_eq (pc := 24) h (tgt := 43) dX1_readFrom_24 (by decide) hF (fun hF => ?_) (fun hF => ?_)
    · refine V_aload_n (pc := 43) h 0 dX1_readFrom_43 rfl ?_
      refine V_aload_n (pc := 44) h 1 dX1_readFrom_44 rfl ?_
      refine V_ciVA (pc := 45) h (n := 1) (bytes := cX1_readOrder) (maxL := 4) (As := [.ref h1]) (rest := []) gX1_readFrom_X1_readOrder (by decide +kernel) rfl rfl rfl rfl ⟨rfl, rfl⟩ ⟨Nat.le_of_ble_eq_true rfl, Nat.le_of_ble_eq_true rfl⟩ rfl rfl (Nat.le_of_ble_eq_true rfl) dX1_readFrom_45 hF (fun r45 hG => k_X1_readOrder l D cI cZ h0 h0_names h0_values h1 h1_letters h1_tokens h1_starts h1_numbers v0_size v0_names v0_values v1_size r21.2.1 v1_length r21.2.2.1 r21.2.2.2.1 r21.2.2.2.2 v1_letters v1_tokens v1_starts v1_numbers hG) (fun r45 hF => ?_)
      refine V_if_ne (pc := 48) h (tgt := 56) dX1_readFrom_48 (by decide) hF (fun hF => ?_) (fun hF => ?_)
      · refine V_iinc (pc := 56) h 2 (fun x2_56 => [(2, .int x2_56), (0, .ref h0), (1, .ref h1)]) dX1_readFrom_56 rfl rfl (by decide) (fun _ => rfl) hF (fun x2_56 hF => ?_)
        refine V_goto (pc := 59) h (tgt := 11) dX1_readFrom_59 (by decide) ?_
        refine V_lv [1, 2, 0] [(0, .ref h0), (1, .ref h1), (2, .int x2_56)] rfl ?_
        exact hk11 _ _ _ _ _ _ _ _ _ _ _ _ hF
      · refine V_aload_n (pc := 51) h 1 dX1_readFrom_51 rfl ?_
        refine V_get (pc := 52) h uX1_readFrom_inX5 3 8 rfl rfl (by decide) uX1_readFrom_f31 rfl rfl dX1_readFrom_52 ?_
        have hF := Option.some.inj hF
        subst hF
        exact V_iret (pc := 55) h dX1_readFrom_55
    · refine V_aload_n (pc := 27) h 0 dX1_readFrom_27 rfl ?_
      refine V_get (pc := 28) h uX1_readFrom_inX1 0 2 rfl rfl (by decide) uX1_readFrom_f18 rfl rfl dX1_readFrom_28 ?_
      refine V_if_le (pc := 31) h (tgt := 38) dX1_readFrom_31 (by decide) hF (fun hF => ?_) (fun hF => ?_)
      · refine V_aload_n (pc := 38) h 1 dX1_readFrom_38 rfl ?_
        refine V_get (pc := 39) h uX1_readFrom_inX5 3 8 rfl rfl (by decide) uX1_readFrom_f31 rfl rfl dX1_readFrom_39 ?_
        have hF := Option.some.inj hF
        subst hF
        exact V_iret (pc := 42) h dX1_readFrom_42
      · refine V_iconst (pc := 34) h (v := (-1 : Int32)) dX1_readFrom_34 (by decide) ?_
        refine V_goto (pc := 35) h (tgt := 42) dX1_readFrom_35 (by decide) ?_
        have hF := Option.some.inj hF
        subst hF
        exact V_iret (pc := 42) h dX1_readFrom_42
noncomputable def fX1_readFrom_l11 (v1_length : Int32) (v1_letters : (Nat → Int32)) (n : Nat) : Int32 → (Nat → Int32) → (Nat → Int32) → Int32 → Int32 → Int32 → Int32 → Int32 → (Nat → Int32) → (Nat → Int32) → (Nat → Int32) → Int32 → Option (Int32 × Int32 × (Nat → Int32) × (Nat → Int32) × Int32 × Int32 × Int32 × Int32 × Int32 × (Nat → Int32) × (Nat → Int32) × (Nat → Int32)) :=
  Nat.rec (motive := fun _ => Int32 → (Nat → Int32) → (Nat → Int32) → Int32 → Int32 → Int32 → Int32 → Int32 → (Nat → Int32) → (Nat → Int32) → (Nat → Int32) → Int32 → Option (Int32 × Int32 × (Nat → Int32) × (Nat → Int32) × Int32 × Int32 × Int32 × Int32 × Int32 × (Nat → Int32) × (Nat → Int32) × (Nat → Int32))) (fun _ _ _ _ _ _ _ _ _ _ _ _ => none) (fun _ ih => fX1_readFrom_b11 v1_length v1_letters ih) n
theorem fX1_readFrom_l11_s (v1_length : Int32) (v1_letters : (Nat → Int32)) (n : Nat) (v0_size : Int32) (v0_names : (Nat → Int32)) (v0_values : (Nat → Int32)) (v1_size : Int32) (v1_at : Int32) (v1_token : Int32) (v1_start : Int32) (v1_number : Int32) (v1_tokens : (Nat → Int32)) (v1_starts : (Nat → Int32)) (v1_numbers : (Nat → Int32)) (x2 : Int32) : fX1_readFrom_l11 v1_length v1_letters (n + 1) v0_size v0_names v0_values v1_size v1_at v1_token v1_start v1_number v1_tokens v1_starts v1_numbers x2 = fX1_readFrom_b11 v1_length v1_letters (fX1_readFrom_l11 v1_length v1_letters n) v0_size v0_names v0_values v1_size v1_at v1_token v1_start v1_number v1_tokens v1_starts v1_numbers x2 := rfl
set_option maxRecDepth 100000 in
set_option maxHeartbeats 4000000 in
theorem tfX1_readFrom_l11 {p : Program} {l : Launch} {e : Env} {s : State} {m : MethodId} {args : Array Value} {below : List Frame} {meth : Method} {c : Code} {A : Nat → Prop} {D : va_G} {cI cZ : ClassId} (h : Cx p s m args meth c A D cI cZ 3 cX1_readFrom RX1 wsX1_readFrom (some .int)) {h0 h0_names h0_values h1 h1_letters h1_tokens h1_starts h1_numbers : Nat} {v1_length : Int32} {v1_letters : (Nat → Int32)} {o : Int32 × Int32 × (Nat → Int32) × (Nat → Int32) × Int32 × Int32 × Int32 × Int32 × Int32 × (Nat → Int32) × (Nat → Int32) × (Nat → Int32)} (n : Nat) : ∀ (v0_size : Int32) (v0_names : (Nat → Int32)) (v0_values : (Nat → Int32)) (v1_size : Int32) (v1_at : Int32) (v1_token : Int32) (v1_start : Int32) (v1_number : Int32) (v1_tokens : (Nat → Int32)) (v1_starts : (Nat → Int32)) (v1_numbers : (Nat → Int32)) (x2 : Int32) (hF : fX1_readFrom_l11 v1_length v1_letters n v0_size v0_names v0_values v1_size v1_at v1_token v1_start v1_number v1_tokens v1_starts v1_numbers x2 = some o), V p l e rmX1_readFrom s m args below meth c A D 3 (QI D [(h0, .inr (1, [.ref h0_names, .ref h0_values, .int o.2.1])), (h0_names, .inl (cI, 8, .inl o.2.2.1)), (h0_values, .inl (cI, 8, .inl o.2.2.2.1)), (h1, .inr (5, [.ref h1_letters, .ref h1_tokens, .ref h1_starts, .ref h1_numbers, .int o.2.2.2.2.1, .int o.2.2.2.2.2.1, .int v1_length, .int o.2.2.2.2.2.2.1, .int o.2.2.2.2.2.2.2.1, .int o.2.2.2.2.2.2.2.2.1])), (h1_letters, .inl (cI, 160, .inl v1_letters)), (h1_tokens, .inl (cI, 160, .inl o.2.2.2.2.2.2.2.2.2.1)), (h1_starts, .inl (cI, 160, .inl o.2.2.2.2.2.2.2.2.2.2.1)), (h1_numbers, .inl (cI, 160, .inl o.2.2.2.2.2.2.2.2.2.2.2))] o.1 A below args s) [(h0, .inr (1, [.ref h0_names, .ref h0_values, .int v0_size])), (h0_names, .inl (cI, 8, .inl v0_names)), (h0_values, .inl (cI, 8, .inl v0_values)), (h1, .inr (5, [.ref h1_letters, .ref h1_tokens, .ref h1_starts, .ref h1_numbers, .int v1_size, .int v1_at, .int v1_length, .int v1_token, .int v1_start, .int v1_number])), (h1_letters, .inl (cI, 160, .inl v1_letters)), (h1_tokens, .inl (cI, 160, .inl v1_tokens)), (h1_starts, .inl (cI, 160, .inl v1_starts)), (h1_numbers, .inl (cI, 160, .inl v1_numbers))] 11 [(0, .ref h0), (1, .ref h1), (2, .int x2)] [] := by
  induction n with
  | zero => intro v0_size v0_names v0_values v1_size v1_at v1_token v1_start v1_number v1_tokens v1_starts v1_numbers x2 hF; exact nomatch (show (none : Option (Int32 × Int32 × (Nat → Int32) × (Nat → Int32) × Int32 × Int32 × Int32 × Int32 × Int32 × (Nat → Int32) × (Nat → Int32) × (Nat → Int32))) = some o from hF)
  | succ n ih => intro v0_size v0_names v0_values v1_size v1_at v1_token v1_start v1_number v1_tokens v1_starts v1_numbers x2 hF; exact tfX1_readFrom_b11 (k11 := fX1_readFrom_l11 v1_length v1_letters n) h ih hF
noncomputable def fX1_readFrom (v1_length : Int32) (v1_letters : (Nat → Int32)) (v0_size : Int32) (v0_names : (Nat → Int32)) (v0_values : (Nat → Int32)) (v1_size : Int32) (v1_at : Int32) (v1_token : Int32) (v1_start : Int32) (v1_number : Int32) (v1_tokens : (Nat → Int32)) (v1_starts : (Nat → Int32)) (v1_numbers : (Nat → Int32)) : Option (Int32 × Int32 × (Nat → Int32) × (Nat → Int32) × Int32 × Int32 × Int32 × Int32 × Int32 × (Nat → Int32) × (Nat → Int32) × (Nat → Int32)) :=
  bd (fX5_rewind v1_length v1_letters v1_size v1_at v1_tokens v1_starts v1_numbers) (fun r6 => fX1_readFrom_l11 v1_length v1_letters 1000 (0 : Int32) v0_names v0_values r6.1 r6.2.1 v1_token v1_start v1_number r6.2.2.1 r6.2.2.2.1 r6.2.2.2.2 (0 : Int32))
set_option maxRecDepth 100000 in
set_option maxHeartbeats 4000000 in
theorem tfX1_readFrom {p : Program} {l : Launch} {e : Env} {s : State} {m : MethodId} {args : Array Value} {below : List Frame} {meth : Method} {c : Code} {A : Nat → Prop} {D : va_G} {cI cZ : ClassId} (h : Cx p s m args meth c A D cI cZ 3 cX1_readFrom RX1 wsX1_readFrom (some .int)) {h0 h0_names h0_values h1 h1_letters h1_tokens h1_starts h1_numbers : Nat} {v1_length : Int32} {v1_letters : (Nat → Int32)} {v0_size : Int32} {v0_names : (Nat → Int32)} {v0_values : (Nat → Int32)} {v1_size : Int32} {v1_at : Int32} {v1_token : Int32} {v1_start : Int32} {v1_number : Int32} {v1_tokens : (Nat → Int32)} {v1_starts : (Nat → Int32)} {v1_numbers : (Nat → Int32)} {o : Int32 × Int32 × (Nat → Int32) × (Nat → Int32) × Int32 × Int32 × Int32 × Int32 × Int32 × (Nat → Int32) × (Nat → Int32) × (Nat → Int32)} (hF : fX1_readFrom v1_length v1_letters v0_size v0_names v0_values v1_size v1_at v1_token v1_start v1_number v1_tokens v1_starts v1_numbers = some o) : V p l e rmX1_readFrom s m args below meth c A D 3 (QI D [(h0, .inr (1, [.ref h0_names, .ref h0_values, .int o.2.1])), (h0_names, .inl (cI, 8, .inl o.2.2.1)), (h0_values, .inl (cI, 8, .inl o.2.2.2.1)), (h1, .inr (5, [.ref h1_letters, .ref h1_tokens, .ref h1_starts, .ref h1_numbers, .int o.2.2.2.2.1, .int o.2.2.2.2.2.1, .int v1_length, .int o.2.2.2.2.2.2.1, .int o.2.2.2.2.2.2.2.1, .int o.2.2.2.2.2.2.2.2.1])), (h1_letters, .inl (cI, 160, .inl v1_letters)), (h1_tokens, .inl (cI, 160, .inl o.2.2.2.2.2.2.2.2.2.1)), (h1_starts, .inl (cI, 160, .inl o.2.2.2.2.2.2.2.2.2.2.1)), (h1_numbers, .inl (cI, 160, .inl o.2.2.2.2.2.2.2.2.2.2.2))] o.1 A below args s) [(h0, .inr (1, [.ref h0_names, .ref h0_values, .int v0_size])), (h0_names, .inl (cI, 8, .inl v0_names)), (h0_values, .inl (cI, 8, .inl v0_values)), (h1, .inr (5, [.ref h1_letters, .ref h1_tokens, .ref h1_starts, .ref h1_numbers, .int v1_size, .int v1_at, .int v1_length, .int v1_token, .int v1_start, .int v1_number])), (h1_letters, .inl (cI, 160, .inl v1_letters)), (h1_tokens, .inl (cI, 160, .inl v1_tokens)), (h1_starts, .inl (cI, 160, .inl v1_starts)), (h1_numbers, .inl (cI, 160, .inl v1_numbers))] 0 [(0, .ref h0), (1, .ref h1)] [] := by
  unfold fX1_readFrom at hF
  refine V_aload_n (pc := 0) h 0 dX1_readFrom_0 rfl ?_
  refine V_iconst (pc := 1) h (v := (0 : Int32)) dX1_readFrom_1 (by decide) ?_
  refine V_put (pc := 2) h uX1_readFrom_inX1 tyX1 tyX1_ok nmX1 0 2 rfl rfl (by decide) uX1_readFrom_f18 rfl rfl (by decide +kernel) (Nat.le_of_ble_eq_true rfl) [(h0, .inr (1, [.ref h0_names, .ref h0_values, .int (0 : Int32)])), (h0_names, .inl (cI, 8, .inl v0_names)), (h0_values, .inl (cI, 8, .inl v0_values)), (h1, .inr (5, [.ref h1_letters, .ref h1_tokens, .ref h1_starts, .ref h1_numbers, .int v1_size, .int v1_at, .int v1_length, .int v1_token, .int v1_start, .int v1_number])), (h1_letters, .inl (cI, 160, .inl v1_letters)), (h1_tokens, .inl (cI, 160, .inl v1_tokens)), (h1_starts, .inl (cI, 160, .inl v1_starts)), (h1_numbers, .inl (cI, 160, .inl v1_numbers))] rfl dX1_readFrom_2 ?_
  refine V_aload_n (pc := 5) h 1 dX1_readFrom_5 rfl ?_
  refine V_cvV (pc := 6) h (n := 0) (bytes := cX5_rewind) (maxL := 5) (As := []) (rest := []) gX1_readFrom_X5_rewind (by decide +kernel) rfl rfl rfl rfl ⟨rfl, rfl⟩ ⟨Nat.le_of_ble_eq_true rfl, Nat.le_of_ble_eq_true rfl⟩ [3, 4, 5, 6, 7] rfl (by decide) rfl (fun r6 => [(h0, .inr (1, [.ref h0_names, .ref h0_values, .int (0 : Int32)])), (h0_names, .inl (cI, 8, .inl v0_names)), (h0_values, .inl (cI, 8, .inl v0_values)), (h1, .inr (5, [.ref h1_letters, .ref h1_tokens, .ref h1_starts, .ref h1_numbers, .int r6.1, .int r6.2.1, .int v1_length, .int v1_token, .int v1_start, .int v1_number])), (h1_letters, .inl (cI, 160, .inl v1_letters)), (h1_tokens, .inl (cI, 160, .inl r6.2.2.1)), (h1_starts, .inl (cI, 160, .inl r6.2.2.2.1)), (h1_numbers, .inl (cI, 160, .inl r6.2.2.2.2))]) (fun _ => rfl) (fun _ => rfl) rfl (Nat.le_of_ble_eq_true rfl) dX1_readFrom_6 hF (fun r6 hG => k_X5_rewind l D cI cZ h1 h1_letters h1_tokens h1_starts h1_numbers v1_size v1_at v1_length v1_token v1_start v1_number v1_letters v1_tokens v1_starts v1_numbers hG) (fun r6 hF => ?_)
  refine V_iconst (pc := 9) h (v := (0 : Int32)) dX1_readFrom_9 (by decide) ?_
  refine V_istore_n (pc := 10) h [(2, .int (0 : Int32)), (0, .ref h0), (1, .ref h1)] dX1_readFrom_10 (by decide) rfl ?_
  refine V_lv [1, 2, 0] [(0, .ref h0), (1, .ref h1), (2, .int (0 : Int32))] rfl ?_
  exact tfX1_readFrom_l11 h 1000 _ _ _ _ _ _ _ _ _ _ _ _ hF
set_option maxRecDepth 100000 in
theorem k_X1_readFrom (l : Launch) (D : va_G) (cI cZ : ClassId) (h0 h0_names h0_values h1 h1_letters h1_tokens h1_starts h1_numbers : Nat) (v0_size : Int32) (v0_names : (Nat → Int32)) (v0_values : (Nat → Int32)) (v1_size : Int32) (v1_at : Int32) (v1_length : Int32) (v1_token : Int32) (v1_start : Int32) (v1_number : Int32) (v1_letters : (Nat → Int32)) (v1_tokens : (Nat → Int32)) (v1_starts : (Nat → Int32)) (v1_numbers : (Nat → Int32)) {o : Int32 × Int32 × (Nat → Int32) × (Nat → Int32) × Int32 × Int32 × Int32 × Int32 × Int32 × (Nat → Int32) × (Nat → Int32) × (Nat → Int32)} (hF : fX1_readFrom v1_length v1_letters v0_size v0_names v0_values v1_size v1_at v1_token v1_start v1_number v1_tokens v1_starts v1_numbers = some o) : CI l yX1_readFrom wsX1_readFrom rmX1_readFrom D cI cZ [.ref h0, .ref h1] [(h0, .inr (1, [.ref h0_names, .ref h0_values, .int v0_size])), (h0_names, .inl (cI, 8, .inl v0_names)), (h0_values, .inl (cI, 8, .inl v0_values)), (h1, .inr (5, [.ref h1_letters, .ref h1_tokens, .ref h1_starts, .ref h1_numbers, .int v1_size, .int v1_at, .int v1_length, .int v1_token, .int v1_start, .int v1_number])), (h1_letters, .inl (cI, 160, .inl v1_letters)), (h1_tokens, .inl (cI, 160, .inl v1_tokens)), (h1_starts, .inl (cI, 160, .inl v1_starts)), (h1_numbers, .inl (cI, 160, .inl v1_numbers))] [(h0, .inr (1, [.ref h0_names, .ref h0_values, .int o.2.1])), (h0_names, .inl (cI, 8, .inl o.2.2.1)), (h0_values, .inl (cI, 8, .inl o.2.2.2.1)), (h1, .inr (5, [.ref h1_letters, .ref h1_tokens, .ref h1_starts, .ref h1_numbers, .int o.2.2.2.2.1, .int o.2.2.2.2.2.1, .int v1_length, .int o.2.2.2.2.2.2.1, .int o.2.2.2.2.2.2.2.1, .int o.2.2.2.2.2.2.2.2.1])), (h1_letters, .inl (cI, 160, .inl v1_letters)), (h1_tokens, .inl (cI, 160, .inl o.2.2.2.2.2.2.2.2.2.1)), (h1_starts, .inl (cI, 160, .inl o.2.2.2.2.2.2.2.2.2.2.1)), (h1_numbers, .inl (cI, 160, .inl o.2.2.2.2.2.2.2.2.2.2.2))] o.1 :=
  CI_of (cc := cX1_readFrom) (nL := 3) (ret := (some .int)) (by decide) rfl (Nat.le_of_ble_eq_true rfl) rfl (fun p e s m args below meth c A h => tfX1_readFrom h hF)
/-! X1_name -/
abbrev rmX1_name : Room := { frames := 0, cells := 0, slots := 0, locals := 0 }
theorem uX1_name_inX1 : ∀ w ∈ wsX10, w ∈ wsX1_name := by decide +kernel
theorem uX1_name_f11 : Cond.fieldLink RX1 11 "LeafAsks$Orders" "names" "[I" ∈ wsX1_name := by decide +kernel
noncomputable def fX1_name (v0_names : (Nat → Int32)) (x1 : Int32) : Option (Int32) :=
  if x1 < (0 : Int32) then some (0 : Int32) else if (8 : Int32) ≤ x1 then some (0 : Int32) else gin x1 8 (some (v0_names x1.toNatClampNeg))
set_option maxRecDepth 100000 in
set_option maxHeartbeats 4000000 in
theorem tfX1_name {p : Program} {l : Launch} {e : Env} {s : State} {m : MethodId} {args : Array Value} {below : List Frame} {meth : Method} {c : Code} {A : Nat → Prop} {D : va_G} {cI cZ : ClassId} (h : Cx p s m args meth c A D cI cZ 2 cX1_name RX1 wsX1_name (some .int)) {h0 h0_names h0_values : Nat} {x1 : Int32} {v0_size : Int32} {v0_names : (Nat → Int32)} {v0_values : (Nat → Int32)} {o : Int32} (hF : fX1_name v0_names x1 = some o) : V p l e rmX1_name s m args below meth c A D 2 (QI D [(h0, .inr (1, [.ref h0_names, .ref h0_values, .int v0_size])), (h0_names, .inl (cI, 8, .inl v0_names)), (h0_values, .inl (cI, 8, .inl v0_values))] o A below args s) [(h0, .inr (1, [.ref h0_names, .ref h0_values, .int v0_size])), (h0_names, .inl (cI, 8, .inl v0_names)), (h0_values, .inl (cI, 8, .inl v0_values))] 0 [(0, .ref h0), (1, .int x1)] [] := by
  unfold fX1_name at hF
  refine V_iload_n (pc := 0) h 1 dX1_name_0 rfl ?_
  refine V_if_lt (pc := 1) h (tgt := 19) dX1_name_1 (by decide) hF (fun hF => ?_) (fun hF => ?_)
  · refine V_iconst (pc := 19) h (v := (0 : Int32)) dX1_name_19 (by decide) ?_
    have hF := Option.some.inj hF
    subst hF
    exact V_iret (pc := 20) h dX1_name_20
  · refine V_iload_n (pc := 4) h 1 dX1_name_4 rfl ?_
    refine V_bipush (pc := 5) h (v := (8 : Int32)) dX1_name_5 (by decide) ?_
    refine V_icmp_ge (pc := 7) h (tgt := 19) dX1_name_7 (by decide) hF (fun hF => ?_) (fun hF => ?_)
    · refine V_iconst (pc := 19) h (v := (0 : Int32)) dX1_name_19 (by decide) ?_
      have hF := Option.some.inj hF
      subst hF
      exact V_iret (pc := 20) h dX1_name_20
    · refine V_aload_n (pc := 10) h 0 dX1_name_10 rfl ?_
      refine V_get (pc := 11) h uX1_name_inX1 0 0 rfl rfl (by decide) uX1_name_f11 rfl rfl dX1_name_11 ?_
      refine V_iload_n (pc := 14) h 1 dX1_name_14 rfl ?_
      refine V_iald (pc := 15) h 1 rfl dX1_name_15 hF (fun hF => ?_)
      refine V_goto (pc := 16) h (tgt := 20) dX1_name_16 (by decide) ?_
      have hF := Option.some.inj hF
      subst hF
      exact V_iret (pc := 20) h dX1_name_20
set_option maxRecDepth 100000 in
theorem k_X1_name (l : Launch) (D : va_G) (cI cZ : ClassId) (h0 h0_names h0_values : Nat) (v0_size : Int32) (v0_names : (Nat → Int32)) (v0_values : (Nat → Int32)) (x1 : Int32) {o : Int32} (hF : fX1_name v0_names x1 = some o) : CI l yX1_name wsX1_name rmX1_name D cI cZ [.ref h0, .int x1] [(h0, .inr (1, [.ref h0_names, .ref h0_values, .int v0_size])), (h0_names, .inl (cI, 8, .inl v0_names)), (h0_values, .inl (cI, 8, .inl v0_values))] [(h0, .inr (1, [.ref h0_names, .ref h0_values, .int v0_size])), (h0_names, .inl (cI, 8, .inl v0_names)), (h0_values, .inl (cI, 8, .inl v0_values))] o :=
  CI_of (cc := cX1_name) (nL := 2) (ret := (some .int)) (by decide) rfl (Nat.le_of_ble_eq_true rfl) rfl (fun p e s m args below meth c A h => tfX1_name h hF)
/-! X1_value -/
abbrev rmX1_value : Room := { frames := 0, cells := 0, slots := 0, locals := 0 }
theorem uX1_value_inX1 : ∀ w ∈ wsX10, w ∈ wsX1_value := by decide +kernel
theorem uX1_value_f15 : Cond.fieldLink RX1 15 "LeafAsks$Orders" "values" "[I" ∈ wsX1_value := by decide +kernel
noncomputable def fX1_value (v0_values : (Nat → Int32)) (x1 : Int32) : Option (Int32) :=
  if x1 < (0 : Int32) then some (0 : Int32) else if (8 : Int32) ≤ x1 then some (0 : Int32) else gin x1 8 (some (v0_values x1.toNatClampNeg))
set_option maxRecDepth 100000 in
set_option maxHeartbeats 4000000 in
theorem tfX1_value {p : Program} {l : Launch} {e : Env} {s : State} {m : MethodId} {args : Array Value} {below : List Frame} {meth : Method} {c : Code} {A : Nat → Prop} {D : va_G} {cI cZ : ClassId} (h : Cx p s m args meth c A D cI cZ 2 cX1_value RX1 wsX1_value (some .int)) {h0 h0_names h0_values : Nat} {x1 : Int32} {v0_size : Int32} {v0_names : (Nat → Int32)} {v0_values : (Nat → Int32)} {o : Int32} (hF : fX1_value v0_values x1 = some o) : V p l e rmX1_value s m args below meth c A D 2 (QI D [(h0, .inr (1, [.ref h0_names, .ref h0_values, .int v0_size])), (h0_names, .inl (cI, 8, .inl v0_names)), (h0_values, .inl (cI, 8, .inl v0_values))] o A below args s) [(h0, .inr (1, [.ref h0_names, .ref h0_values, .int v0_size])), (h0_names, .inl (cI, 8, .inl v0_names)), (h0_values, .inl (cI, 8, .inl v0_values))] 0 [(0, .ref h0), (1, .int x1)] [] := by
  unfold fX1_value at hF
  refine V_iload_n (pc := 0) h 1 dX1_value_0 rfl ?_
  refine V_if_lt (pc := 1) h (tgt := 19) dX1_value_1 (by decide) hF (fun hF => ?_) (fun hF => ?_)
  · refine V_iconst (pc := 19) h (v := (0 : Int32)) dX1_value_19 (by decide) ?_
    have hF := Option.some.inj hF
    subst hF
    exact V_iret (pc := 20) h dX1_value_20
  · refine V_iload_n (pc := 4) h 1 dX1_value_4 rfl ?_
    refine V_bipush (pc := 5) h (v := (8 : Int32)) dX1_value_5 (by decide) ?_
    refine V_icmp_ge (pc := 7) h (tgt := 19) dX1_value_7 (by decide) hF (fun hF => ?_) (fun hF => ?_)
    · refine V_iconst (pc := 19) h (v := (0 : Int32)) dX1_value_19 (by decide) ?_
      have hF := Option.some.inj hF
      subst hF
      exact V_iret (pc := 20) h dX1_value_20
    · refine V_aload_n (pc := 10) h 0 dX1_value_10 rfl ?_
      refine V_get (pc := 11) h uX1_value_inX1 0 1 rfl rfl (by decide) uX1_value_f15 rfl rfl dX1_value_11 ?_
      refine V_iload_n (pc := 14) h 1 dX1_value_14 rfl ?_
      refine V_iald (pc := 15) h 2 rfl dX1_value_15 hF (fun hF => ?_)
      refine V_goto (pc := 16) h (tgt := 20) dX1_value_16 (by decide) ?_
      have hF := Option.some.inj hF
      subst hF
      exact V_iret (pc := 20) h dX1_value_20
set_option maxRecDepth 100000 in
theorem k_X1_value (l : Launch) (D : va_G) (cI cZ : ClassId) (h0 h0_names h0_values : Nat) (v0_size : Int32) (v0_names : (Nat → Int32)) (v0_values : (Nat → Int32)) (x1 : Int32) {o : Int32} (hF : fX1_value v0_values x1 = some o) : CI l yX1_value wsX1_value rmX1_value D cI cZ [.ref h0, .int x1] [(h0, .inr (1, [.ref h0_names, .ref h0_values, .int v0_size])), (h0_names, .inl (cI, 8, .inl v0_names)), (h0_values, .inl (cI, 8, .inl v0_values))] [(h0, .inr (1, [.ref h0_names, .ref h0_values, .int v0_size])), (h0_names, .inl (cI, 8, .inl v0_names)), (h0_values, .inl (cI, 8, .inl v0_values))] o :=
  CI_of (cc := cX1_value) (nL := 2) (ret := (some .int)) (by decide) rfl (Nat.le_of_ble_eq_true rfl) rfl (fun p e s m args below meth c A h => tfX1_value h hF)
/-! X4_storeInto -/
abbrev rmX4_storeInto : Room := { frames := 1, cells := 0, slots := 0, locals := 40 }
theorem uX4_storeInto_inX4 : ∀ w ∈ wsX40, w ∈ wsX4_storeInto := by decide +kernel
theorem uX4_storeInto_f11 : Cond.fieldLink RX4 11 "LeafAsks$State" "data" "[I" ∈ wsX4_storeInto := by decide +kernel
theorem uX4_storeInto_ac1 : Cond.methodLink RX4 41 arraycopyName ∈ wsX4_storeInto := by decide +kernel
theorem uX4_storeInto_ac2 : Cond.native arraycopyName ∈ wsX4_storeInto := by decide +kernel
theorem uX4_storeInto_ac3 : Cond.static arraycopyName ∈ wsX4_storeInto := by decide +kernel
theorem uX4_storeInto_ac4 : Cond.initialized "java/lang/System" ∈ wsX4_storeInto := by decide +kernel
noncomputable def fX4_storeInto (n1 : Nat) (v0_data : (Nat → Int32)) (x2 : Int32) (v1 : (Nat → Int32)) : Option ((Nat → Int32)) :=
  if x2 < (0 : Int32) then some v1 else if ((Int32.ofNat n1) - (124 : Int32)) < x2 then some v1 else gcp (0 : Int32) x2 (124 : Int32) 124 n1 (some ((va_cpy v0_data v1 (0 : Int32).toNatClampNeg x2.toNatClampNeg (124 : Int32).toNatClampNeg)))
set_option maxRecDepth 100000 in
set_option maxHeartbeats 4000000 in
theorem tfX4_storeInto {p : Program} {l : Launch} {e : Env} {s : State} {m : MethodId} {args : Array Value} {below : List Frame} {meth : Method} {c : Code} {A : Nat → Prop} {D : va_G} {cI cZ : ClassId} (h : Cx p s m args meth c A D cI cZ 3 cX4_storeInto RX4 wsX4_storeInto none) {h0 h0_data h1 : Nat} {x2 : Int32} {n1 : Nat} {v0_data : (Nat → Int32)} {v1 : (Nat → Int32)} {o : (Nat → Int32)} (hF : fX4_storeInto n1 v0_data x2 v1 = some o) : V p l e rmX4_storeInto s m args below meth c A D 3 (QV D [(h0, .inr (4, [.ref h0_data])), (h0_data, .inl (cI, 124, .inl v0_data)), (h1, .inl (cI, n1, .inl o))] A below args s) [(h0, .inr (4, [.ref h0_data])), (h0_data, .inl (cI, 124, .inl v0_data)), (h1, .inl (cI, n1, .inl v1))] 0 [(0, .ref h0), (1, .ref h1), (2, .int x2)] [] := by
  unfold fX4_storeInto at hF
  refine V_iload_n (pc := 0) h 2 dX4_storeInto_0 rfl ?_
  refine V_if_lt (pc := 1) h (tgt := 25) dX4_storeInto_1 (by decide) hF (fun hF => ?_) (fun hF => ?_)
  · have hF := Option.some.inj hF
    subst hF
    exact V_vret (pc := 25) h dX4_storeInto_25
  · refine V_iload_n (pc := 4) h 2 dX4_storeInto_4 rfl ?_
    refine V_aload_n (pc := 5) h 1 dX4_storeInto_5 rfl ?_
    refine V_alenI (pc := 6) h (v := Int32.ofNat n1) 2 rfl rfl dX4_storeInto_6 ?_
    refine V_bipush (pc := 7) h (v := (124 : Int32)) dX4_storeInto_7 (by decide) ?_
    refine V_isub (pc := 9) h dX4_storeInto_9 ?_
    refine V_icmp_gt (pc := 10) h (tgt := 25) dX4_storeInto_10 (by decide) hF (fun hF => ?_) (fun hF => ?_)
    · have hF := Option.some.inj hF
      subst hF
      exact V_vret (pc := 25) h dX4_storeInto_25
    · refine V_aload_n (pc := 13) h 0 dX4_storeInto_13 rfl ?_
      refine V_get (pc := 14) h uX4_storeInto_inX4 0 0 rfl rfl (by decide) uX4_storeInto_f11 rfl rfl dX4_storeInto_14 ?_
      refine V_iconst (pc := 17) h (v := (0 : Int32)) dX4_storeInto_17 (by decide) ?_
      refine V_aload_n (pc := 18) h 1 dX4_storeInto_18 rfl ?_
      refine V_iload_n (pc := 19) h 2 dX4_storeInto_19 rfl ?_
      refine V_bipush (pc := 20) h (v := (124 : Int32)) dX4_storeInto_20 (by decide) ?_
      refine V_copy (pc := 22) h 1 2 rfl rfl uX4_storeInto_ac1 uX4_storeInto_ac2 uX4_storeInto_ac3 uX4_storeInto_ac4 [(h0, .inr (4, [.ref h0_data])), (h0_data, .inl (cI, 124, .inl v0_data)), (h1, .inl (cI, n1, .inl (va_cpy v0_data v1 (0 : Int32).toNatClampNeg x2.toNatClampNeg (124 : Int32).toNatClampNeg)))] rfl (Nat.le_of_ble_eq_true rfl) (Nat.le_of_ble_eq_true rfl) dX4_storeInto_22 hF (fun hF => ?_)
      have hF := Option.some.inj hF
      subst hF
      exact V_vret (pc := 25) h dX4_storeInto_25
set_option maxRecDepth 100000 in
theorem k_X4_storeInto (l : Launch) (D : va_G) (cI cZ : ClassId) (h0 h0_data h1 : Nat) (n1 : Nat) (v0_data : (Nat → Int32)) (v1 : (Nat → Int32)) (x2 : Int32) {o : (Nat → Int32)} (hF : fX4_storeInto n1 v0_data x2 v1 = some o) : CV l yX4_storeInto wsX4_storeInto rmX4_storeInto D cI cZ [.ref h0, .ref h1, .int x2] [(h0, .inr (4, [.ref h0_data])), (h0_data, .inl (cI, 124, .inl v0_data)), (h1, .inl (cI, n1, .inl v1))] [(h0, .inr (4, [.ref h0_data])), (h0_data, .inl (cI, 124, .inl v0_data)), (h1, .inl (cI, n1, .inl o))] :=
  CV_of (cc := cX4_storeInto) (nL := 3) (ret := none) (by decide) rfl (Nat.le_of_ble_eq_true rfl) rfl (fun p e s m args below meth c A h => tfX4_storeInto h hF)
/-! X3_put -/
abbrev rmX3_put : Room := { frames := 2, cells := 0, slots := 0, locals := 62 }
theorem uX3_put_inX3 : ∀ w ∈ wsX30, w ∈ wsX3_put := by decide +kernel
theorem uX3_put_f21 : Cond.fieldLink RX3 21 "LeafAsks$Shelf" "taken" "[Z" ∈ wsX3_put := by decide +kernel
theorem uX3_put_f15 : Cond.fieldLink RX3 15 "LeafAsks$Shelf" "data" "[I" ∈ wsX3_put := by decide +kernel
noncomputable def fX3_put (n0_data : Nat) (n0_taken : Nat) (v2_data : (Nat → Int32)) (x1 : Int32) (v0_data : (Nat → Int32)) (v0_taken : (Nat → Int32)) : Option ((Nat → Int32) × (Nat → Int32)) :=
  if x1 < (0 : Int32) then some (v0_data, v0_taken) else if (Int32.ofNat n0_taken) ≤ x1 then some (v0_data, v0_taken) else bd (fX4_storeInto n0_data v2_data (x1 * (124 : Int32)) v0_data) (fun r22 => gin x1 n0_taken (some ((r22, (upd v0_taken x1.toNatClampNeg (1 : Int32))))))
set_option maxRecDepth 100000 in
set_option maxHeartbeats 4000000 in
theorem tfX3_put {p : Program} {l : Launch} {e : Env} {s : State} {m : MethodId} {args : Array Value} {below : List Frame} {meth : Method} {c : Code} {A : Nat → Prop} {D : va_G} {cI cZ : ClassId} (h : Cx p s m args meth c A D cI cZ 3 cX3_put RX3 wsX3_put none) {h0 h0_data h0_taken h2 h2_data : Nat} {x1 : Int32} {n0_data : Nat} {n0_taken : Nat} {v2_data : (Nat → Int32)} {v0_data : (Nat → Int32)} {v0_taken : (Nat → Int32)} {o : (Nat → Int32) × (Nat → Int32)} (hF : fX3_put n0_data n0_taken v2_data x1 v0_data v0_taken = some o) : V p l e rmX3_put s m args below meth c A D 3 (QV D [(h0, .inr (3, [.ref h0_data, .ref h0_taken])), (h0_data, .inl (cI, n0_data, .inl o.1)), (h0_taken, .inl (cZ, n0_taken, .inl o.2)), (h2, .inr (4, [.ref h2_data])), (h2_data, .inl (cI, 124, .inl v2_data))] A below args s) [(h0, .inr (3, [.ref h0_data, .ref h0_taken])), (h0_data, .inl (cI, n0_data, .inl v0_data)), (h0_taken, .inl (cZ, n0_taken, .inl v0_taken)), (h2, .inr (4, [.ref h2_data])), (h2_data, .inl (cI, 124, .inl v2_data))] 0 [(0, .ref h0), (1, .int x1), (2, .ref h2)] [] := by
  unfold fX3_put at hF
  refine V_iload_n (pc := 0) h 1 dX3_put_0 rfl ?_
  refine V_if_lt (pc := 1) h (tgt := 32) dX3_put_1 (by decide) hF (fun hF => ?_) (fun hF => ?_)
  · have hF := Option.some.inj hF
    subst hF
    exact V_vret (pc := 32) h dX3_put_32
  · refine V_iload_n (pc := 4) h 1 dX3_put_4 rfl ?_
    refine V_aload_n (pc := 5) h 0 dX3_put_5 rfl ?_
    refine V_get (pc := 6) h uX3_put_inX3 0 1 rfl rfl (by decide) uX3_put_f21 rfl rfl dX3_put_6 ?_
    refine V_alenZ (pc := 9) h (v := Int32.ofNat n0_taken) 2 rfl rfl dX3_put_9 ?_
    refine V_icmp_ge (pc := 10) h (tgt := 32) dX3_put_10 (by decide) hF (fun hF => ?_) (fun hF => ?_)
    · have hF := Option.some.inj hF
      subst hF
      exact V_vret (pc := 32) h dX3_put_32
    · refine V_aload_n (pc := 13) h 2 dX3_put_13 rfl ?_
      refine V_aload_n (pc := 14) h 0 dX3_put_14 rfl ?_
      refine V_get (pc := 15) h uX3_put_inX3 0 0 rfl rfl (by decide) uX3_put_f15 rfl rfl dX3_put_15 ?_
      refine V_iload_n (pc := 18) h 1 dX3_put_18 rfl ?_
      refine V_bipush (pc := 19) h (v := (124 : Int32)) dX3_put_19 (by decide) ?_
      refine V_imul (pc := 21) h dX3_put_21 ?_
      refine V_cvV (pc := 22) h (n := 2) (bytes := cX4_storeInto) (maxL := 3) (As := [.ref h0_data, .int (x1 * (124 : Int32))]) (rest := []) gX3_put_X4_storeInto (by decide +kernel) rfl rfl rfl rfl ⟨rfl, rfl⟩ ⟨Nat.le_of_ble_eq_true rfl, Nat.le_of_ble_eq_true rfl⟩ [3, 4, 1] rfl (by decide) rfl (fun r22 => [(h0, .inr (3, [.ref h0_data, .ref h0_taken])), (h0_data, .inl (cI, n0_data, .inl r22)), (h0_taken, .inl (cZ, n0_taken, .inl v0_taken)), (h2, .inr (4, [.ref h2_data])), (h2_data, .inl (cI, 124, .inl v2_data))]) (fun _ => rfl) (fun _ => rfl) rfl (Nat.le_of_ble_eq_true rfl) dX3_put_22 hF (fun r22 hG => k_X4_storeInto l D cI cZ h2 h2_data h0_data n0_data v2_data v0_data (x1 * (124 : Int32)) hG) (fun r22 hF => ?_)
      refine V_aload_n (pc := 25) h 0 dX3_put_25 rfl ?_
      refine V_get (pc := 26) h uX3_put_inX3 0 1 rfl rfl (by decide) uX3_put_f21 rfl rfl dX3_put_26 ?_
      refine V_iload_n (pc := 29) h 1 dX3_put_29 rfl ?_
      refine V_iconst (pc := 30) h (v := (1 : Int32)) dX3_put_30 (by decide) ?_
      refine V_zast (pc := 31) h 2 rfl [(h0, .inr (3, [.ref h0_data, .ref h0_taken])), (h0_data, .inl (cI, n0_data, .inl r22)), (h0_taken, .inl (cZ, n0_taken, .inl (upd v0_taken x1.toNatClampNeg (1 : Int32)))), (h2, .inr (4, [.ref h2_data])), (h2_data, .inl (cI, 124, .inl v2_data))] (by decide +kernel) rfl dX3_put_31 hF (fun hF => ?_)
      have hF := Option.some.inj hF
      subst hF
      exact V_vret (pc := 32) h dX3_put_32
set_option maxRecDepth 100000 in
theorem k_X3_put (l : Launch) (D : va_G) (cI cZ : ClassId) (h0 h0_data h0_taken h2 h2_data : Nat) (n0_data : Nat) (n0_taken : Nat) (v0_data : (Nat → Int32)) (v0_taken : (Nat → Int32)) (v2_data : (Nat → Int32)) (x1 : Int32) {o : (Nat → Int32) × (Nat → Int32)} (hF : fX3_put n0_data n0_taken v2_data x1 v0_data v0_taken = some o) : CV l yX3_put wsX3_put rmX3_put D cI cZ [.ref h0, .int x1, .ref h2] [(h0, .inr (3, [.ref h0_data, .ref h0_taken])), (h0_data, .inl (cI, n0_data, .inl v0_data)), (h0_taken, .inl (cZ, n0_taken, .inl v0_taken)), (h2, .inr (4, [.ref h2_data])), (h2_data, .inl (cI, 124, .inl v2_data))] [(h0, .inr (3, [.ref h0_data, .ref h0_taken])), (h0_data, .inl (cI, n0_data, .inl o.1)), (h0_taken, .inl (cZ, n0_taken, .inl o.2)), (h2, .inr (4, [.ref h2_data])), (h2_data, .inl (cI, 124, .inl v2_data))] :=
  CV_of (cc := cX3_put) (nL := 3) (ret := none) (by decide) rfl (Nat.le_of_ble_eq_true rfl) rfl (fun p e s m args below meth c A h => tfX3_put h hF)
/-! X2_push -/
abbrev rmX2_push : Room := { frames := 3, cells := 0, slots := 0, locals := 84 }
theorem uX2_push_inX2 : ∀ w ∈ wsX20, w ∈ wsX2_push := by decide +kernel
theorem uX2_push_f20 : Cond.fieldLink RX2 20 "LeafAsks$Past" "newest" "I" ∈ wsX2_push := by decide +kernel
theorem uX2_push_f14 : Cond.fieldLink RX2 14 "LeafAsks$Past" "states" "LLeafAsks$Shelf;" ∈ wsX2_push := by decide +kernel
theorem uX2_push_f28 : Cond.fieldLink RX2 28 "LeafAsks$Past" "known" "I" ∈ wsX2_push := by decide +kernel
theorem uX2_push_mmin1 : Cond.methodLink RX2 31 Lib.Math.min.name ∈ wsX2_push := by decide +kernel
theorem uX2_push_mmin2 : Cond.static Lib.Math.min.name ∈ wsX2_push := by decide +kernel
theorem uX2_push_mmin3 : Cond.initialized "java/lang/Math" ∈ wsX2_push := by decide +kernel
theorem uX2_push_mmin4 : Cond.code Lib.Math.min.name Lib.Math.min.code 2 (some .int) ∈ wsX2_push := by decide +kernel
noncomputable def fX2_push (v1_data : (Nat → Int32)) (v0_newest : Int32) (v0_known : Int32) (v0_states_data : (Nat → Int32)) (v0_states_taken : (Nat → Int32)) : Option (Int32 × Int32 × (Nat → Int32) × (Nat → Int32)) :=
  bnd (jrem (v0_newest + (1 : Int32)) (6 : Int32)) (fun y10 => bd (fX3_put 744 6 v1_data y10 v0_states_data v0_states_taken) (fun r22 => bnd (jmin (v0_known + (1 : Int32)) (6 : Int32)) (fun y37 => some (y10, y37, r22.1, r22.2))))
set_option maxRecDepth 100000 in
set_option maxHeartbeats 4000000 in
theorem tfX2_push {p : Program} {l : Launch} {e : Env} {s : State} {m : MethodId} {args : Array Value} {below : List Frame} {meth : Method} {c : Code} {A : Nat → Prop} {D : va_G} {cI cZ : ClassId} (h : Cx p s m args meth c A D cI cZ 2 cX2_push RX2 wsX2_push none) {h0 h0_states h0_states_data h0_states_taken h1 h1_data : Nat} {v1_data : (Nat → Int32)} {v0_newest : Int32} {v0_known : Int32} {v0_states_data : (Nat → Int32)} {v0_states_taken : (Nat → Int32)} {o : Int32 × Int32 × (Nat → Int32) × (Nat → Int32)} (hF : fX2_push v1_data v0_newest v0_known v0_states_data v0_states_taken = some o) : V p l e rmX2_push s m args below meth c A D 2 (QV D [(h0, .inr (2, [.ref h0_states, .int o.1, .int o.2.1])), (h0_states, .inr (3, [.ref h0_states_data, .ref h0_states_taken])), (h0_states_data, .inl (cI, 744, .inl o.2.2.1)), (h0_states_taken, .inl (cZ, 6, .inl o.2.2.2)), (h1, .inr (4, [.ref h1_data])), (h1_data, .inl (cI, 124, .inl v1_data))] A below args s) [(h0, .inr (2, [.ref h0_states, .int v0_newest, .int v0_known])), (h0_states, .inr (3, [.ref h0_states_data, .ref h0_states_taken])), (h0_states_data, .inl (cI, 744, .inl v0_states_data)), (h0_states_taken, .inl (cZ, 6, .inl v0_states_taken)), (h1, .inr (4, [.ref h1_data])), (h1_data, .inl (cI, 124, .inl v1_data))] 0 [(0, .ref h0), (1, .ref h1)] [] := by
  unfold fX2_push at hF
  refine V_aload_n (pc := 0) h 0 dX2_push_0 rfl ?_
  refine V_aload_n (pc := 1) h 0 dX2_push_1 rfl ?_
  refine V_get (pc := 2) h uX2_push_inX2 0 1 rfl rfl (by decide) uX2_push_f20 rfl rfl dX2_push_2 ?_
  refine V_iconst (pc := 5) h (v := (1 : Int32)) dX2_push_5 (by decide) ?_
  refine V_iadd (pc := 6) h dX2_push_6 ?_
  refine V_bipush (pc := 7) h (v := (6 : Int32)) dX2_push_7 (by decide) ?_
  refine V_irem (pc := 9) h dX2_push_9 (by decide) ?_
  refine V_bnd hF (fun y10 hF => ?_)
  refine V_put (pc := 10) h uX2_push_inX2 tyX2 tyX2_ok nmX2 0 1 rfl rfl (by decide) uX2_push_f20 rfl rfl (by decide +kernel) (Nat.le_of_ble_eq_true rfl) [(h0, .inr (2, [.ref h0_states, .int y10, .int v0_known])), (h0_states, .inr (3, [.ref h0_states_data, .ref h0_states_taken])), (h0_states_data, .inl (cI, 744, .inl v0_states_data)), (h0_states_taken, .inl (cZ, 6, .inl v0_states_taken)), (h1, .inr (4, [.ref h1_data])), (h1_data, .inl (cI, 124, .inl v1_data))] rfl dX2_push_10 ?_
  refine V_aload_n (pc := 13) h 0 dX2_push_13 rfl ?_
  refine V_get (pc := 14) h uX2_push_inX2 0 0 rfl rfl (by decide) uX2_push_f14 rfl rfl dX2_push_14 ?_
  refine V_aload_n (pc := 17) h 0 dX2_push_17 rfl ?_
  refine V_get (pc := 18) h uX2_push_inX2 0 1 rfl rfl (by decide) uX2_push_f20 rfl rfl dX2_push_18 ?_
  refine V_aload_n (pc := 21) h 1 dX2_push_21 rfl ?_
  refine V_cvV (pc := 22) h (n := 2) (bytes := cX3_put) (maxL := 3) (As := [.int y10, .ref h1]) (rest := []) gX2_push_X3_put (by decide +kernel) rfl rfl rfl rfl ⟨rfl, rfl⟩ ⟨Nat.le_of_ble_eq_true rfl, Nat.le_of_ble_eq_true rfl⟩ [1, 2, 3, 4, 5] rfl (by decide) rfl (fun r22 => [(h0, .inr (2, [.ref h0_states, .int y10, .int v0_known])), (h0_states, .inr (3, [.ref h0_states_data, .ref h0_states_taken])), (h0_states_data, .inl (cI, 744, .inl r22.1)), (h0_states_taken, .inl (cZ, 6, .inl r22.2)), (h1, .inr (4, [.ref h1_data])), (h1_data, .inl (cI, 124, .inl v1_data))]) (fun _ => rfl) (fun _ => rfl) rfl (Nat.le_of_ble_eq_true rfl) dX2_push_22 hF (fun r22 hG => k_X3_put l D cI cZ h0_states h0_states_data h0_states_taken h1 h1_data 744 6 v0_states_data v0_states_taken v1_data y10 hG) (fun r22 hF => ?_)
  refine V_aload_n (pc := 25) h 0 dX2_push_25 rfl ?_
  refine V_aload_n (pc := 26) h 0 dX2_push_26 rfl ?_
  refine V_get (pc := 27) h uX2_push_inX2 0 2 rfl rfl (by decide) uX2_push_f28 rfl rfl dX2_push_27 ?_
  refine V_iconst (pc := 30) h (v := (1 : Int32)) dX2_push_30 (by decide) ?_
  refine V_iadd (pc := 31) h dX2_push_31 ?_
  refine V_bipush (pc := 32) h (v := (6 : Int32)) dX2_push_32 (by decide) ?_
  refine V_mmin (pc := 34) h uX2_push_mmin1 uX2_push_mmin2 uX2_push_mmin3 uX2_push_mmin4 (Nat.le_of_ble_eq_true rfl) (Nat.le_of_ble_eq_true rfl) dX2_push_34 ?_
  refine V_bnd hF (fun y37 hF => ?_)
  refine V_put (pc := 37) h uX2_push_inX2 tyX2 tyX2_ok nmX2 0 2 rfl rfl (by decide) uX2_push_f28 rfl rfl (by decide +kernel) (Nat.le_of_ble_eq_true rfl) [(h0, .inr (2, [.ref h0_states, .int y10, .int y37])), (h0_states, .inr (3, [.ref h0_states_data, .ref h0_states_taken])), (h0_states_data, .inl (cI, 744, .inl r22.1)), (h0_states_taken, .inl (cZ, 6, .inl r22.2)), (h1, .inr (4, [.ref h1_data])), (h1_data, .inl (cI, 124, .inl v1_data))] rfl dX2_push_37 ?_
  have hF := Option.some.inj hF
  subst hF
  exact V_vret (pc := 40) h dX2_push_40
set_option maxRecDepth 100000 in
theorem k_X2_push (l : Launch) (D : va_G) (cI cZ : ClassId) (h0 h0_states h0_states_data h0_states_taken h1 h1_data : Nat) (v0_newest : Int32) (v0_known : Int32) (v0_states_data : (Nat → Int32)) (v0_states_taken : (Nat → Int32)) (v1_data : (Nat → Int32)) {o : Int32 × Int32 × (Nat → Int32) × (Nat → Int32)} (hF : fX2_push v1_data v0_newest v0_known v0_states_data v0_states_taken = some o) : CV l yX2_push wsX2_push rmX2_push D cI cZ [.ref h0, .ref h1] [(h0, .inr (2, [.ref h0_states, .int v0_newest, .int v0_known])), (h0_states, .inr (3, [.ref h0_states_data, .ref h0_states_taken])), (h0_states_data, .inl (cI, 744, .inl v0_states_data)), (h0_states_taken, .inl (cZ, 6, .inl v0_states_taken)), (h1, .inr (4, [.ref h1_data])), (h1_data, .inl (cI, 124, .inl v1_data))] [(h0, .inr (2, [.ref h0_states, .int o.1, .int o.2.1])), (h0_states, .inr (3, [.ref h0_states_data, .ref h0_states_taken])), (h0_states_data, .inl (cI, 744, .inl o.2.2.1)), (h0_states_taken, .inl (cZ, 6, .inl o.2.2.2)), (h1, .inr (4, [.ref h1_data])), (h1_data, .inl (cI, 124, .inl v1_data))] :=
  CV_of (cc := cX2_push) (nL := 2) (ret := none) (by decide) rfl (Nat.le_of_ble_eq_true rfl) rfl (fun p e s m args below meth c A h => tfX2_push h hF)
/-! X3_has -/
abbrev rmX3_has : Room := { frames := 0, cells := 0, slots := 0, locals := 0 }
theorem uX3_has_inX3 : ∀ w ∈ wsX30, w ∈ wsX3_has := by decide +kernel
theorem uX3_has_f21 : Cond.fieldLink RX3 21 "LeafAsks$Shelf" "taken" "[Z" ∈ wsX3_has := by decide +kernel
noncomputable def fX3_has (n0_data : Nat) (n0_taken : Nat) (v0_taken : (Nat → Int32)) (x1 : Int32) : Option (Int32) :=
  if x1 < (0 : Int32) then some (0 : Int32) else if (Int32.ofNat n0_taken) ≤ x1 then some (0 : Int32) else gin x1 n0_taken (if (v0_taken x1.toNatClampNeg) = (0 : Int32) then some (0 : Int32) else some (1 : Int32))
set_option maxRecDepth 100000 in
set_option maxHeartbeats 4000000 in
theorem tfX3_has {p : Program} {l : Launch} {e : Env} {s : State} {m : MethodId} {args : Array Value} {below : List Frame} {meth : Method} {c : Code} {A : Nat → Prop} {D : va_G} {cI cZ : ClassId} (h : Cx p s m args meth c A D cI cZ 2 cX3_has RX3 wsX3_has (some .boolean)) {h0 h0_data h0_taken : Nat} {x1 : Int32} {n0_data : Nat} {n0_taken : Nat} {v0_data : (Nat → Int32)} {v0_taken : (Nat → Int32)} {o : Int32} (hF : fX3_has n0_data n0_taken v0_taken x1 = some o) : V p l e rmX3_has s m args below meth c A D 2 (QI D [(h0, .inr (3, [.ref h0_data, .ref h0_taken])), (h0_data, .inl (cI, n0_data, .inl v0_data)), (h0_taken, .inl (cZ, n0_taken, .inl v0_taken))] o A below args s) [(h0, .inr (3, [.ref h0_data, .ref h0_taken])), (h0_data, .inl (cI, n0_data, .inl v0_data)), (h0_taken, .inl (cZ, n0_taken, .inl v0_taken))] 0 [(0, .ref h0), (1, .int x1)] [] := by
  unfold fX3_has at hF
  refine V_iload_n (pc := 0) h 1 dX3_has_0 rfl ?_
  refine V_if_lt (pc := 1) h (tgt := 26) dX3_has_1 (by decide) hF (fun hF => ?_) (fun hF => ?_)
  · refine V_iconst (pc := 26) h (v := (0 : Int32)) dX3_has_26 (by decide) ?_
    have hF := Option.some.inj hF
    subst hF
    exact V_zret (pc := 27) h (Or.inl rfl) dX3_has_27
  · refine V_iload_n (pc := 4) h 1 dX3_has_4 rfl ?_
    refine V_aload_n (pc := 5) h 0 dX3_has_5 rfl ?_
    refine V_get (pc := 6) h uX3_has_inX3 0 1 rfl rfl (by decide) uX3_has_f21 rfl rfl dX3_has_6 ?_
    refine V_alenZ (pc := 9) h (v := Int32.ofNat n0_taken) 2 rfl rfl dX3_has_9 ?_
    refine V_icmp_ge (pc := 10) h (tgt := 26) dX3_has_10 (by decide) hF (fun hF => ?_) (fun hF => ?_)
    · refine V_iconst (pc := 26) h (v := (0 : Int32)) dX3_has_26 (by decide) ?_
      have hF := Option.some.inj hF
      subst hF
      exact V_zret (pc := 27) h (Or.inl rfl) dX3_has_27
    · refine V_aload_n (pc := 13) h 0 dX3_has_13 rfl ?_
      refine V_get (pc := 14) h uX3_has_inX3 0 1 rfl rfl (by decide) uX3_has_f21 rfl rfl dX3_has_14 ?_
      refine V_iload_n (pc := 17) h 1 dX3_has_17 rfl ?_
      refine V_zald (pc := 18) h 2 rfl dX3_has_18 hF (fun hF => ?_)
      refine V_if_eq (pc := 19) h (tgt := 26) dX3_has_19 (by decide) hF (fun hF => ?_) (fun hF => ?_)
      · refine V_iconst (pc := 26) h (v := (0 : Int32)) dX3_has_26 (by decide) ?_
        have hF := Option.some.inj hF
        subst hF
        exact V_zret (pc := 27) h (Or.inl rfl) dX3_has_27
      · refine V_iconst (pc := 22) h (v := (1 : Int32)) dX3_has_22 (by decide) ?_
        refine V_goto (pc := 23) h (tgt := 27) dX3_has_23 (by decide) ?_
        have hF := Option.some.inj hF
        subst hF
        exact V_zret (pc := 27) h (Or.inr rfl) dX3_has_27
set_option maxRecDepth 100000 in
theorem k_X3_has (l : Launch) (D : va_G) (cI cZ : ClassId) (h0 h0_data h0_taken : Nat) (n0_data : Nat) (n0_taken : Nat) (v0_data : (Nat → Int32)) (v0_taken : (Nat → Int32)) (x1 : Int32) {o : Int32} (hF : fX3_has n0_data n0_taken v0_taken x1 = some o) : CI l yX3_has wsX3_has rmX3_has D cI cZ [.ref h0, .int x1] [(h0, .inr (3, [.ref h0_data, .ref h0_taken])), (h0_data, .inl (cI, n0_data, .inl v0_data)), (h0_taken, .inl (cZ, n0_taken, .inl v0_taken))] [(h0, .inr (3, [.ref h0_data, .ref h0_taken])), (h0_data, .inl (cI, n0_data, .inl v0_data)), (h0_taken, .inl (cZ, n0_taken, .inl v0_taken))] o :=
  CI_of (cc := cX3_has) (nL := 2) (ret := (some .boolean)) (by decide) rfl (Nat.le_of_ble_eq_true rfl) rfl (fun p e s m args below meth c A h => tfX3_has h hF)
/-! X4_loadFrom -/
abbrev rmX4_loadFrom : Room := { frames := 1, cells := 0, slots := 0, locals := 40 }
theorem uX4_loadFrom_inX4 : ∀ w ∈ wsX40, w ∈ wsX4_loadFrom := by decide +kernel
theorem uX4_loadFrom_f11 : Cond.fieldLink RX4 11 "LeafAsks$State" "data" "[I" ∈ wsX4_loadFrom := by decide +kernel
theorem uX4_loadFrom_ac1 : Cond.methodLink RX4 41 arraycopyName ∈ wsX4_loadFrom := by decide +kernel
theorem uX4_loadFrom_ac2 : Cond.native arraycopyName ∈ wsX4_loadFrom := by decide +kernel
theorem uX4_loadFrom_ac3 : Cond.static arraycopyName ∈ wsX4_loadFrom := by decide +kernel
theorem uX4_loadFrom_ac4 : Cond.initialized "java/lang/System" ∈ wsX4_loadFrom := by decide +kernel
noncomputable def fX4_loadFrom (n1 : Nat) (v1 : (Nat → Int32)) (x2 : Int32) (v0_data : (Nat → Int32)) : Option ((Nat → Int32)) :=
  if x2 < (0 : Int32) then some v0_data else if ((Int32.ofNat n1) - (124 : Int32)) < x2 then some v0_data else gcp x2 (0 : Int32) (124 : Int32) n1 124 (some ((va_cpy v1 v0_data x2.toNatClampNeg (0 : Int32).toNatClampNeg (124 : Int32).toNatClampNeg)))
set_option maxRecDepth 100000 in
set_option maxHeartbeats 4000000 in
theorem tfX4_loadFrom {p : Program} {l : Launch} {e : Env} {s : State} {m : MethodId} {args : Array Value} {below : List Frame} {meth : Method} {c : Code} {A : Nat → Prop} {D : va_G} {cI cZ : ClassId} (h : Cx p s m args meth c A D cI cZ 3 cX4_loadFrom RX4 wsX4_loadFrom none) {h0 h0_data h1 : Nat} {x2 : Int32} {n1 : Nat} {v1 : (Nat → Int32)} {v0_data : (Nat → Int32)} {o : (Nat → Int32)} (hF : fX4_loadFrom n1 v1 x2 v0_data = some o) : V p l e rmX4_loadFrom s m args below meth c A D 3 (QV D [(h0, .inr (4, [.ref h0_data])), (h0_data, .inl (cI, 124, .inl o)), (h1, .inl (cI, n1, .inl v1))] A below args s) [(h0, .inr (4, [.ref h0_data])), (h0_data, .inl (cI, 124, .inl v0_data)), (h1, .inl (cI, n1, .inl v1))] 0 [(0, .ref h0), (1, .ref h1), (2, .int x2)] [] := by
  unfold fX4_loadFrom at hF
  refine V_iload_n (pc := 0) h 2 dX4_loadFrom_0 rfl ?_
  refine V_if_lt (pc := 1) h (tgt := 25) dX4_loadFrom_1 (by decide) hF (fun hF => ?_) (fun hF => ?_)
  · have hF := Option.some.inj hF
    subst hF
    exact V_vret (pc := 25) h dX4_loadFrom_25
  · refine V_iload_n (pc := 4) h 2 dX4_loadFrom_4 rfl ?_
    refine V_aload_n (pc := 5) h 1 dX4_loadFrom_5 rfl ?_
    refine V_alenI (pc := 6) h (v := Int32.ofNat n1) 2 rfl rfl dX4_loadFrom_6 ?_
    refine V_bipush (pc := 7) h (v := (124 : Int32)) dX4_loadFrom_7 (by decide) ?_
    refine V_isub (pc := 9) h dX4_loadFrom_9 ?_
    refine V_icmp_gt (pc := 10) h (tgt := 25) dX4_loadFrom_10 (by decide) hF (fun hF => ?_) (fun hF => ?_)
    · have hF := Option.some.inj hF
      subst hF
      exact V_vret (pc := 25) h dX4_loadFrom_25
    · refine V_aload_n (pc := 13) h 1 dX4_loadFrom_13 rfl ?_
      refine V_iload_n (pc := 14) h 2 dX4_loadFrom_14 rfl ?_
      refine V_aload_n (pc := 15) h 0 dX4_loadFrom_15 rfl ?_
      refine V_get (pc := 16) h uX4_loadFrom_inX4 0 0 rfl rfl (by decide) uX4_loadFrom_f11 rfl rfl dX4_loadFrom_16 ?_
      refine V_iconst (pc := 19) h (v := (0 : Int32)) dX4_loadFrom_19 (by decide) ?_
      refine V_bipush (pc := 20) h (v := (124 : Int32)) dX4_loadFrom_20 (by decide) ?_
      refine V_copy (pc := 22) h 2 1 rfl rfl uX4_loadFrom_ac1 uX4_loadFrom_ac2 uX4_loadFrom_ac3 uX4_loadFrom_ac4 [(h0, .inr (4, [.ref h0_data])), (h0_data, .inl (cI, 124, .inl (va_cpy v1 v0_data x2.toNatClampNeg (0 : Int32).toNatClampNeg (124 : Int32).toNatClampNeg))), (h1, .inl (cI, n1, .inl v1))] rfl (Nat.le_of_ble_eq_true rfl) (Nat.le_of_ble_eq_true rfl) dX4_loadFrom_22 hF (fun hF => ?_)
      have hF := Option.some.inj hF
      subst hF
      exact V_vret (pc := 25) h dX4_loadFrom_25
set_option maxRecDepth 100000 in
theorem k_X4_loadFrom (l : Launch) (D : va_G) (cI cZ : ClassId) (h0 h0_data h1 : Nat) (n1 : Nat) (v0_data : (Nat → Int32)) (v1 : (Nat → Int32)) (x2 : Int32) {o : (Nat → Int32)} (hF : fX4_loadFrom n1 v1 x2 v0_data = some o) : CV l yX4_loadFrom wsX4_loadFrom rmX4_loadFrom D cI cZ [.ref h0, .ref h1, .int x2] [(h0, .inr (4, [.ref h0_data])), (h0_data, .inl (cI, 124, .inl v0_data)), (h1, .inl (cI, n1, .inl v1))] [(h0, .inr (4, [.ref h0_data])), (h0_data, .inl (cI, 124, .inl o)), (h1, .inl (cI, n1, .inl v1))] :=
  CV_of (cc := cX4_loadFrom) (nL := 3) (ret := none) (by decide) rfl (Nat.le_of_ble_eq_true rfl) rfl (fun p e s m args below meth c A h => tfX4_loadFrom h hF)
/-! X3_bring -/
abbrev rmX3_bring : Room := { frames := 2, cells := 0, slots := 0, locals := 62 }
theorem uX3_bring_inX3 : ∀ w ∈ wsX30, w ∈ wsX3_bring := by decide +kernel
theorem uX3_bring_f15 : Cond.fieldLink RX3 15 "LeafAsks$Shelf" "data" "[I" ∈ wsX3_bring := by decide +kernel
noncomputable def fX3_bring (n0_data : Nat) (n0_taken : Nat) (v0_data : (Nat → Int32)) (v0_taken : (Nat → Int32)) (x1 : Int32) (v2_data : (Nat → Int32)) : Option ((Nat → Int32)) :=
  bd (fX3_has n0_data n0_taken v0_taken x1) (fun r2 => if r2 = (0 : Int32) then some v2_data else bd (fX4_loadFrom n0_data v0_data (x1 * (124 : Int32)) v2_data) (fun r17 => some r17))
set_option maxRecDepth 100000 in
set_option maxHeartbeats 4000000 in
theorem tfX3_bring {p : Program} {l : Launch} {e : Env} {s : State} {m : MethodId} {args : Array Value} {below : List Frame} {meth : Method} {c : Code} {A : Nat → Prop} {D : va_G} {cI cZ : ClassId} (h : Cx p s m args meth c A D cI cZ 3 cX3_bring RX3 wsX3_bring none) {h0 h0_data h0_taken h2 h2_data : Nat} {x1 : Int32} {n0_data : Nat} {n0_taken : Nat} {v0_data : (Nat → Int32)} {v0_taken : (Nat → Int32)} {v2_data : (Nat → Int32)} {o : (Nat → Int32)} (hF : fX3_bring n0_data n0_taken v0_data v0_taken x1 v2_data = some o) : V p l e rmX3_bring s m args below meth c A D 3 (QV D [(h0, .inr (3, [.ref h0_data, .ref h0_taken])), (h0_data, .inl (cI, n0_data, .inl v0_data)), (h0_taken, .inl (cZ, n0_taken, .inl v0_taken)), (h2, .inr (4, [.ref h2_data])), (h2_data, .inl (cI, 124, .inl o))] A below args s) [(h0, .inr (3, [.ref h0_data, .ref h0_taken])), (h0_data, .inl (cI, n0_data, .inl v0_data)), (h0_taken, .inl (cZ, n0_taken, .inl v0_taken)), (h2, .inr (4, [.ref h2_data])), (h2_data, .inl (cI, 124, .inl v2_data))] 0 [(0, .ref h0), (1, .int x1), (2, .ref h2)] [] := by
  unfold fX3_bring at hF
  refine V_aload_n (pc := 0) h 0 dX3_bring_0 rfl ?_
  refine V_iload_n (pc := 1) h 1 dX3_bring_1 rfl ?_
  refine V_ciV (pc := 2) h (n := 1) (bytes := cX3_has) (maxL := 2) (As := [.int x1]) (rest := []) gX3_bring_X3_has (by decide +kernel) rfl rfl rfl rfl ⟨rfl, rfl⟩ ⟨Nat.le_of_ble_eq_true rfl, Nat.le_of_ble_eq_true rfl⟩ [0, 1, 2] rfl (by decide) rfl (fun r2 => [(h0, .inr (3, [.ref h0_data, .ref h0_taken])), (h0_data, .inl (cI, n0_data, .inl v0_data)), (h0_taken, .inl (cZ, n0_taken, .inl v0_taken)), (h2, .inr (4, [.ref h2_data])), (h2_data, .inl (cI, 124, .inl v2_data))]) (fun _ => rfl) (fun _ => rfl) rfl (Nat.le_of_ble_eq_true rfl) dX3_bring_2 hF (fun r2 hG => k_X3_has l D cI cZ h0 h0_data h0_taken n0_data n0_taken v0_data v0_taken x1 hG) (fun r2 hF => ?_)
  refine V_if_eq (pc := 5) h (tgt := 20) dX3_bring_5 (by decide) hF (fun hF => ?_) (fun hF => ?_)
  · have hF := Option.some.inj hF
    subst hF
    exact V_vret (pc := 20) h dX3_bring_20
  · refine V_aload_n (pc := 8) h 2 dX3_bring_8 rfl ?_
    refine V_aload_n (pc := 9) h 0 dX3_bring_9 rfl ?_
    refine V_get (pc := 10) h uX3_bring_inX3 0 0 rfl rfl (by decide) uX3_bring_f15 rfl rfl dX3_bring_10 ?_
    refine V_iload_n (pc := 13) h 1 dX3_bring_13 rfl ?_
    refine V_bipush (pc := 14) h (v := (124 : Int32)) dX3_bring_14 (by decide) ?_
    refine V_imul (pc := 16) h dX3_bring_16 ?_
    refine V_cvV (pc := 17) h (n := 2) (bytes := cX4_loadFrom) (maxL := 3) (As := [.ref h0_data, .int (x1 * (124 : Int32))]) (rest := []) gX3_bring_X4_loadFrom (by decide +kernel) rfl rfl rfl rfl ⟨rfl, rfl⟩ ⟨Nat.le_of_ble_eq_true rfl, Nat.le_of_ble_eq_true rfl⟩ [3, 4, 1] rfl (by decide) rfl (fun r17 => [(h0, .inr (3, [.ref h0_data, .ref h0_taken])), (h0_data, .inl (cI, n0_data, .inl v0_data)), (h0_taken, .inl (cZ, n0_taken, .inl v0_taken)), (h2, .inr (4, [.ref h2_data])), (h2_data, .inl (cI, 124, .inl r17))]) (fun _ => rfl) (fun _ => rfl) rfl (Nat.le_of_ble_eq_true rfl) dX3_bring_17 hF (fun r17 hG => k_X4_loadFrom l D cI cZ h2 h2_data h0_data n0_data v2_data v0_data (x1 * (124 : Int32)) hG) (fun r17 hF => ?_)
    have hF := Option.some.inj hF
    subst hF
    exact V_vret (pc := 20) h dX3_bring_20
set_option maxRecDepth 100000 in
theorem k_X3_bring (l : Launch) (D : va_G) (cI cZ : ClassId) (h0 h0_data h0_taken h2 h2_data : Nat) (n0_data : Nat) (n0_taken : Nat) (v0_data : (Nat → Int32)) (v0_taken : (Nat → Int32)) (v2_data : (Nat → Int32)) (x1 : Int32) {o : (Nat → Int32)} (hF : fX3_bring n0_data n0_taken v0_data v0_taken x1 v2_data = some o) : CV l yX3_bring wsX3_bring rmX3_bring D cI cZ [.ref h0, .int x1, .ref h2] [(h0, .inr (3, [.ref h0_data, .ref h0_taken])), (h0_data, .inl (cI, n0_data, .inl v0_data)), (h0_taken, .inl (cZ, n0_taken, .inl v0_taken)), (h2, .inr (4, [.ref h2_data])), (h2_data, .inl (cI, 124, .inl v2_data))] [(h0, .inr (3, [.ref h0_data, .ref h0_taken])), (h0_data, .inl (cI, n0_data, .inl v0_data)), (h0_taken, .inl (cZ, n0_taken, .inl v0_taken)), (h2, .inr (4, [.ref h2_data])), (h2_data, .inl (cI, 124, .inl o))] :=
  CV_of (cc := cX3_bring) (nL := 3) (ret := none) (by decide) rfl (Nat.le_of_ble_eq_true rfl) rfl (fun p e s m args below meth c A h => tfX3_bring h hF)
/-! X2_pop -/
abbrev rmX2_pop : Room := { frames := 3, cells := 0, slots := 0, locals := 84 }
theorem uX2_pop_inX2 : ∀ w ∈ wsX20, w ∈ wsX2_pop := by decide +kernel
theorem uX2_pop_f28 : Cond.fieldLink RX2 28 "LeafAsks$Past" "known" "I" ∈ wsX2_pop := by decide +kernel
theorem uX2_pop_f14 : Cond.fieldLink RX2 14 "LeafAsks$Past" "states" "LLeafAsks$Shelf;" ∈ wsX2_pop := by decide +kernel
theorem uX2_pop_f20 : Cond.fieldLink RX2 20 "LeafAsks$Past" "newest" "I" ∈ wsX2_pop := by decide +kernel
noncomputable def fX2_pop (v0_states_data : (Nat → Int32)) (v0_states_taken : (Nat → Int32)) (v0_newest : Int32) (v0_known : Int32) (v1_data : (Nat → Int32)) : Option (Int32 × Int32 × (Nat → Int32)) :=
  if v0_known ≤ (0 : Int32) then some (v0_newest, v0_known, v1_data) else bd (fX3_bring 744 6 v0_states_data v0_states_taken v0_newest v1_data) (fun r16 => bnd (jrem ((v0_newest + (6 : Int32)) - (1 : Int32)) (6 : Int32)) (fun y32 => bnd (v0_known - (1 : Int32)) (fun y42 => some (y32, y42, r16))))
set_option maxRecDepth 100000 in
set_option maxHeartbeats 4000000 in
theorem tfX2_pop {p : Program} {l : Launch} {e : Env} {s : State} {m : MethodId} {args : Array Value} {below : List Frame} {meth : Method} {c : Code} {A : Nat → Prop} {D : va_G} {cI cZ : ClassId} (h : Cx p s m args meth c A D cI cZ 2 cX2_pop RX2 wsX2_pop none) {h0 h0_states h0_states_data h0_states_taken h1 h1_data : Nat} {v0_states_data : (Nat → Int32)} {v0_states_taken : (Nat → Int32)} {v0_newest : Int32} {v0_known : Int32} {v1_data : (Nat → Int32)} {o : Int32 × Int32 × (Nat → Int32)} (hF : fX2_pop v0_states_data v0_states_taken v0_newest v0_known v1_data = some o) : V p l e rmX2_pop s m args below meth c A D 2 (QV D [(h0, .inr (2, [.ref h0_states, .int o.1, .int o.2.1])), (h0_states, .inr (3, [.ref h0_states_data, .ref h0_states_taken])), (h0_states_data, .inl (cI, 744, .inl v0_states_data)), (h0_states_taken, .inl (cZ, 6, .inl v0_states_taken)), (h1, .inr (4, [.ref h1_data])), (h1_data, .inl (cI, 124, .inl o.2.2))] A below args s) [(h0, .inr (2, [.ref h0_states, .int v0_newest, .int v0_known])), (h0_states, .inr (3, [.ref h0_states_data, .ref h0_states_taken])), (h0_states_data, .inl (cI, 744, .inl v0_states_data)), (h0_states_taken, .inl (cZ, 6, .inl v0_states_taken)), (h1, .inr (4, [.ref h1_data])), (h1_data, .inl (cI, 124, .inl v1_data))] 0 [(0, .ref h0), (1, .ref h1)] [] := by
  unfold fX2_pop at hF
  refine V_aload_n (pc := 0) h 0 dX2_pop_0 rfl ?_
  refine V_get (pc := 1) h uX2_pop_inX2 0 2 rfl rfl (by decide) uX2_pop_f28 rfl rfl dX2_pop_1 ?_
  refine V_if_le (pc := 4) h (tgt := 45) dX2_pop_4 (by decide) hF (fun hF => ?_) (fun hF => ?_)
  · have hF := Option.some.inj hF
    subst hF
    exact V_vret (pc := 45) h dX2_pop_45
  · refine V_aload_n (pc := 7) h 0 dX2_pop_7 rfl ?_
    refine V_get (pc := 8) h uX2_pop_inX2 0 0 rfl rfl (by decide) uX2_pop_f14 rfl rfl dX2_pop_8 ?_
    refine V_aload_n (pc := 11) h 0 dX2_pop_11 rfl ?_
    refine V_get (pc := 12) h uX2_pop_inX2 0 1 rfl rfl (by decide) uX2_pop_f20 rfl rfl dX2_pop_12 ?_
    refine V_aload_n (pc := 15) h 1 dX2_pop_15 rfl ?_
    refine V_cvV (pc := 16) h (n := 2) (bytes := cX3_bring) (maxL := 3) (As := [.int v0_newest, .ref h1]) (rest := []) gX2_pop_X3_bring (by decide +kernel) rfl rfl rfl rfl ⟨rfl, rfl⟩ ⟨Nat.le_of_ble_eq_true rfl, Nat.le_of_ble_eq_true rfl⟩ [1, 2, 3, 4, 5] rfl (by decide) rfl (fun r16 => [(h0, .inr (2, [.ref h0_states, .int v0_newest, .int v0_known])), (h0_states, .inr (3, [.ref h0_states_data, .ref h0_states_taken])), (h0_states_data, .inl (cI, 744, .inl v0_states_data)), (h0_states_taken, .inl (cZ, 6, .inl v0_states_taken)), (h1, .inr (4, [.ref h1_data])), (h1_data, .inl (cI, 124, .inl r16))]) (fun _ => rfl) (fun _ => rfl) rfl (Nat.le_of_ble_eq_true rfl) dX2_pop_16 hF (fun r16 hG => k_X3_bring l D cI cZ h0_states h0_states_data h0_states_taken h1 h1_data 744 6 v0_states_data v0_states_taken v1_data v0_newest hG) (fun r16 hF => ?_)
    refine V_aload_n (pc := 19) h 0 dX2_pop_19 rfl ?_
    refine V_aload_n (pc := 20) h 0 dX2_pop_20 rfl ?_
    refine V_get (pc := 21) h uX2_pop_inX2 0 1 rfl rfl (by decide) uX2_pop_f20 rfl rfl dX2_pop_21 ?_
    refine V_bipush (pc := 24) h (v := (6 : Int32)) dX2_pop_24 (by decide) ?_
    refine V_iadd (pc := 26) h dX2_pop_26 ?_
    refine V_iconst (pc := 27) h (v := (1 : Int32)) dX2_pop_27 (by decide) ?_
    refine V_isub (pc := 28) h dX2_pop_28 ?_
    refine V_bipush (pc := 29) h (v := (6 : Int32)) dX2_pop_29 (by decide) ?_
    refine V_irem (pc := 31) h dX2_pop_31 (by decide) ?_
    refine V_bnd hF (fun y32 hF => ?_)
    refine V_put (pc := 32) h uX2_pop_inX2 tyX2 tyX2_ok nmX2 0 1 rfl rfl (by decide) uX2_pop_f20 rfl rfl (by decide +kernel) (Nat.le_of_ble_eq_true rfl) [(h0, .inr (2, [.ref h0_states, .int y32, .int v0_known])), (h0_states, .inr (3, [.ref h0_states_data, .ref h0_states_taken])), (h0_states_data, .inl (cI, 744, .inl v0_states_data)), (h0_states_taken, .inl (cZ, 6, .inl v0_states_taken)), (h1, .inr (4, [.ref h1_data])), (h1_data, .inl (cI, 124, .inl r16))] rfl dX2_pop_32 ?_
    refine V_aload_n (pc := 35) h 0 dX2_pop_35 rfl ?_
    refine V_dup (pc := 36) h dX2_pop_36 rfl ?_
    refine V_get (pc := 37) h uX2_pop_inX2 0 2 rfl rfl (by decide) uX2_pop_f28 rfl rfl dX2_pop_37 ?_
    refine V_iconst (pc := 40) h (v := (1 : Int32)) dX2_pop_40 (by decide) ?_
    refine V_isub (pc := 41) h dX2_pop_41 ?_
    refine V_bnd hF (fun y42 hF => ?_)
    refine V_put (pc := 42) h uX2_pop_inX2 tyX2 tyX2_ok nmX2 0 2 rfl rfl (by decide) uX2_pop_f28 rfl rfl (by decide +kernel) (Nat.le_of_ble_eq_true rfl) [(h0, .inr (2, [.ref h0_states, .int y32, .int y42])), (h0_states, .inr (3, [.ref h0_states_data, .ref h0_states_taken])), (h0_states_data, .inl (cI, 744, .inl v0_states_data)), (h0_states_taken, .inl (cZ, 6, .inl v0_states_taken)), (h1, .inr (4, [.ref h1_data])), (h1_data, .inl (cI, 124, .inl r16))] rfl dX2_pop_42 ?_
    have hF := Option.some.inj hF
    subst hF
    exact V_vret (pc := 45) h dX2_pop_45
set_option maxRecDepth 100000 in
theorem k_X2_pop (l : Launch) (D : va_G) (cI cZ : ClassId) (h0 h0_states h0_states_data h0_states_taken h1 h1_data : Nat) (v0_newest : Int32) (v0_known : Int32) (v0_states_data : (Nat → Int32)) (v0_states_taken : (Nat → Int32)) (v1_data : (Nat → Int32)) {o : Int32 × Int32 × (Nat → Int32)} (hF : fX2_pop v0_states_data v0_states_taken v0_newest v0_known v1_data = some o) : CV l yX2_pop wsX2_pop rmX2_pop D cI cZ [.ref h0, .ref h1] [(h0, .inr (2, [.ref h0_states, .int v0_newest, .int v0_known])), (h0_states, .inr (3, [.ref h0_states_data, .ref h0_states_taken])), (h0_states_data, .inl (cI, 744, .inl v0_states_data)), (h0_states_taken, .inl (cZ, 6, .inl v0_states_taken)), (h1, .inr (4, [.ref h1_data])), (h1_data, .inl (cI, 124, .inl v1_data))] [(h0, .inr (2, [.ref h0_states, .int o.1, .int o.2.1])), (h0_states, .inr (3, [.ref h0_states_data, .ref h0_states_taken])), (h0_states_data, .inl (cI, 744, .inl v0_states_data)), (h0_states_taken, .inl (cZ, 6, .inl v0_states_taken)), (h1, .inr (4, [.ref h1_data])), (h1_data, .inl (cI, 124, .inl o.2.2))] :=
  CV_of (cc := cX2_pop) (nL := 2) (ret := none) (by decide) rfl (Nat.le_of_ble_eq_true rfl) rfl (fun p e s m args below meth c A h => tfX2_pop h hF)
/-! X2_forget -/
abbrev rmX2_forget : Room := { frames := 0, cells := 0, slots := 0, locals := 0 }
theorem uX2_forget_inX2 : ∀ w ∈ wsX20, w ∈ wsX2_forget := by decide +kernel
theorem uX2_forget_f28 : Cond.fieldLink RX2 28 "LeafAsks$Past" "known" "I" ∈ wsX2_forget := by decide +kernel
noncomputable def fX2_forget (v0_known : Int32) : Option (Int32) :=
  some (0 : Int32)
set_option maxRecDepth 100000 in
set_option maxHeartbeats 4000000 in
theorem tfX2_forget {p : Program} {l : Launch} {e : Env} {s : State} {m : MethodId} {args : Array Value} {below : List Frame} {meth : Method} {c : Code} {A : Nat → Prop} {D : va_G} {cI cZ : ClassId} (h : Cx p s m args meth c A D cI cZ 1 cX2_forget RX2 wsX2_forget none) {h0 h0_states h0_states_data h0_states_taken : Nat} {v0_newest : Int32} {v0_states_data : (Nat → Int32)} {v0_states_taken : (Nat → Int32)} {v0_known : Int32} {o : Int32} (hF : fX2_forget v0_known = some o) : V p l e rmX2_forget s m args below meth c A D 1 (QV D [(h0, .inr (2, [.ref h0_states, .int v0_newest, .int o])), (h0_states, .inr (3, [.ref h0_states_data, .ref h0_states_taken])), (h0_states_data, .inl (cI, 744, .inl v0_states_data)), (h0_states_taken, .inl (cZ, 6, .inl v0_states_taken))] A below args s) [(h0, .inr (2, [.ref h0_states, .int v0_newest, .int v0_known])), (h0_states, .inr (3, [.ref h0_states_data, .ref h0_states_taken])), (h0_states_data, .inl (cI, 744, .inl v0_states_data)), (h0_states_taken, .inl (cZ, 6, .inl v0_states_taken))] 0 [(0, .ref h0)] [] := by
  unfold fX2_forget at hF
  refine V_aload_n (pc := 0) h 0 dX2_forget_0 rfl ?_
  refine V_iconst (pc := 1) h (v := (0 : Int32)) dX2_forget_1 (by decide) ?_
  refine V_put (pc := 2) h uX2_forget_inX2 tyX2 tyX2_ok nmX2 0 2 rfl rfl (by decide) uX2_forget_f28 rfl rfl (by decide +kernel) (Nat.le_of_ble_eq_true rfl) [(h0, .inr (2, [.ref h0_states, .int v0_newest, .int (0 : Int32)])), (h0_states, .inr (3, [.ref h0_states_data, .ref h0_states_taken])), (h0_states_data, .inl (cI, 744, .inl v0_states_data)), (h0_states_taken, .inl (cZ, 6, .inl v0_states_taken))] rfl dX2_forget_2 ?_
  have hF := Option.some.inj hF
  subst hF
  exact V_vret (pc := 5) h dX2_forget_5
set_option maxRecDepth 100000 in
theorem k_X2_forget (l : Launch) (D : va_G) (cI cZ : ClassId) (h0 h0_states h0_states_data h0_states_taken : Nat) (v0_newest : Int32) (v0_known : Int32) (v0_states_data : (Nat → Int32)) (v0_states_taken : (Nat → Int32)) {o : Int32} (hF : fX2_forget v0_known = some o) : CV l yX2_forget wsX2_forget rmX2_forget D cI cZ [.ref h0] [(h0, .inr (2, [.ref h0_states, .int v0_newest, .int v0_known])), (h0_states, .inr (3, [.ref h0_states_data, .ref h0_states_taken])), (h0_states_data, .inl (cI, 744, .inl v0_states_data)), (h0_states_taken, .inl (cZ, 6, .inl v0_states_taken))] [(h0, .inr (2, [.ref h0_states, .int v0_newest, .int o])), (h0_states, .inr (3, [.ref h0_states_data, .ref h0_states_taken])), (h0_states_data, .inl (cI, 744, .inl v0_states_data)), (h0_states_taken, .inl (cZ, 6, .inl v0_states_taken))] :=
  CV_of (cc := cX2_forget) (nL := 1) (ret := none) (by decide) rfl (Nat.le_of_ble_eq_true rfl) rfl (fun p e s m args below meth c A h => tfX2_forget h hF)
/-! X3_forget -/
abbrev rmX3_forget : Room := { frames := 0, cells := 0, slots := 0, locals := 0 }
theorem uX3_forget_inX3 : ∀ w ∈ wsX30, w ∈ wsX3_forget := by decide +kernel
theorem uX3_forget_f21 : Cond.fieldLink RX3 21 "LeafAsks$Shelf" "taken" "[Z" ∈ wsX3_forget := by decide +kernel
noncomputable def fX3_forget_b2 (n0_data : Nat) (n0_taken : Nat) (k2 : (Nat → Int32) → Int32 → Option ((Nat → Int32))) (v0_taken : (Nat → Int32)) (x1 : Int32) : Option ((Nat → Int32)) :=
  if (Int32.ofNat n0_taken) ≤ x1 then some v0_taken else gin x1 n0_taken (bnd (x1 + (1 : Int32)) (fun x1_18 => k2 (upd v0_taken x1.toNatClampNeg (0 : Int32)) x1_18))
set_option maxRecDepth 100000 in
set_option maxHeartbeats 4000000 in
theorem tfX3_forget_b2 {p : Program} {l : Launch} {e : Env} {s : State} {m : MethodId} {args : Array Value} {below : List Frame} {meth : Method} {c : Code} {A : Nat → Prop} {D : va_G} {cI cZ : ClassId} (h : Cx p s m args meth c A D cI cZ 2 cX3_forget RX3 wsX3_forget none) {h0 h0_data h0_taken : Nat} {n0_data : Nat} {n0_taken : Nat} {v0_data : (Nat → Int32)} {k2 : (Nat → Int32) → Int32 → Option ((Nat → Int32))} {v0_taken : (Nat → Int32)} {x1 : Int32} {o : (Nat → Int32)} (hk2 : ∀ (v0_taken : (Nat → Int32)) (x1 : Int32), k2 v0_taken x1 = some o → V p l e rmX3_forget s m args below meth c A D 2 (QV D [(h0, .inr (3, [.ref h0_data, .ref h0_taken])), (h0_data, .inl (cI, n0_data, .inl v0_data)), (h0_taken, .inl (cZ, n0_taken, .inl o))] A below args s) [(h0, .inr (3, [.ref h0_data, .ref h0_taken])), (h0_data, .inl (cI, n0_data, .inl v0_data)), (h0_taken, .inl (cZ, n0_taken, .inl v0_taken))] 2 [(0, .ref h0), (1, .int x1)] []) (hF : fX3_forget_b2 n0_data n0_taken k2 v0_taken x1 = some o) : V p l e rmX3_forget s m args below meth c A D 2 (QV D [(h0, .inr (3, [.ref h0_data, .ref h0_taken])), (h0_data, .inl (cI, n0_data, .inl v0_data)), (h0_taken, .inl (cZ, n0_taken, .inl o))] A below args s) [(h0, .inr (3, [.ref h0_data, .ref h0_taken])), (h0_data, .inl (cI, n0_data, .inl v0_data)), (h0_taken, .inl (cZ, n0_taken, .inl v0_taken))] 2 [(0, .ref h0), (1, .int x1)] [] := by
  unfold fX3_forget_b2 at hF
  refine V_iload_n (pc := 2) h 1 dX3_forget_2 rfl ?_
  refine V_aload_n (pc := 3) h 0 dX3_forget_3 rfl ?_
  refine V_get (pc := 4) h uX3_forget_inX3 0 1 rfl rfl (by decide) uX3_forget_f21 rfl rfl dX3_forget_4 ?_
  refine V_alenZ (pc := 7) h (v := Int32.ofNat n0_taken) 2 rfl rfl dX3_forget_7 ?_
  refine V_icmp_ge (pc := 8) h (tgt := 24) dX3_forget_8 (by decide) hF (fun hF => ?_) (fun hF => ?_)
  · have hF := Option.some.inj hF
    subst hF
    exact V_vret (pc := 24) h dX3_forget_24
  · refine V_aload_n (pc := 11) h 0 dX3_forget_11 rfl ?_
    refine V_get (pc := 12) h uX3_forget_inX3 0 1 rfl rfl (by decide) uX3_forget_f21 rfl rfl dX3_forget_12 ?_
    refine V_iload_n (pc := 15) h 1 dX3_forget_15 rfl ?_
    refine V_iconst (pc := 16) h (v := (0 : Int32)) dX3_forget_16 (by decide) ?_
    refine V_zast (pc := 17) h 2 rfl [(h0, .inr (3, [.ref h0_data, .ref h0_taken])), (h0_data, .inl (cI, n0_data, .inl v0_data)), (h0_taken, .inl (cZ, n0_taken, .inl (upd v0_taken x1.toNatClampNeg (0 : Int32))))] (by decide +kernel) rfl dX3_forget_17 hF (fun hF => ?_)
    refine V_iinc (pc := 18) h 1 (fun x1_18 => [(1, .int x1_18), (0, .ref h0)]) dX3_forget_18 rfl rfl (by decide) (fun _ => rfl) hF (fun x1_18 hF => ?_)
    refine V_goto (pc := 21) h (tgt := 2) dX3_forget_21 (by decide) ?_
    refine V_lv [1, 0] [(0, .ref h0), (1, .int x1_18)] rfl ?_
    exact hk2 _ _ hF
noncomputable def fX3_forget_l2 (n0_data : Nat) (n0_taken : Nat) (n : Nat) : (Nat → Int32) → Int32 → Option ((Nat → Int32)) :=
  Nat.rec (motive := fun _ => (Nat → Int32) → Int32 → Option ((Nat → Int32))) (fun _ _ => none) (fun _ ih => fX3_forget_b2 n0_data n0_taken ih) n
theorem fX3_forget_l2_s (n0_data : Nat) (n0_taken : Nat) (n : Nat) (v0_taken : (Nat → Int32)) (x1 : Int32) : fX3_forget_l2 n0_data n0_taken (n + 1) v0_taken x1 = fX3_forget_b2 n0_data n0_taken (fX3_forget_l2 n0_data n0_taken n) v0_taken x1 := rfl
set_option maxRecDepth 100000 in
set_option maxHeartbeats 4000000 in
theorem tfX3_forget_l2 {p : Program} {l : Launch} {e : Env} {s : State} {m : MethodId} {args : Array Value} {below : List Frame} {meth : Method} {c : Code} {A : Nat → Prop} {D : va_G} {cI cZ : ClassId} (h : Cx p s m args meth c A D cI cZ 2 cX3_forget RX3 wsX3_forget none) {h0 h0_data h0_taken : Nat} {n0_data : Nat} {n0_taken : Nat} {v0_data : (Nat → Int32)} {o : (Nat → Int32)} (n : Nat) : ∀ (v0_taken : (Nat → Int32)) (x1 : Int32) (hF : fX3_forget_l2 n0_data n0_taken n v0_taken x1 = some o), V p l e rmX3_forget s m args below meth c A D 2 (QV D [(h0, .inr (3, [.ref h0_data, .ref h0_taken])), (h0_data, .inl (cI, n0_data, .inl v0_data)), (h0_taken, .inl (cZ, n0_taken, .inl o))] A below args s) [(h0, .inr (3, [.ref h0_data, .ref h0_taken])), (h0_data, .inl (cI, n0_data, .inl v0_data)), (h0_taken, .inl (cZ, n0_taken, .inl v0_taken))] 2 [(0, .ref h0), (1, .int x1)] [] := by
  induction n with
  | zero => intro v0_taken x1 hF; exact nomatch (show (none : Option ((Nat → Int32))) = some o from hF)
  | succ n ih => intro v0_taken x1 hF; exact tfX3_forget_b2 (n0_data := n0_data) (n0_taken := n0_taken) (k2 := fX3_forget_l2 n0_data n0_taken n) h ih hF
noncomputable def fX3_forget (n0_data : Nat) (n0_taken : Nat) (v0_taken : (Nat → Int32)) : Option ((Nat → Int32)) :=
  fX3_forget_l2 n0_data n0_taken 1000 v0_taken (0 : Int32)
set_option maxRecDepth 100000 in
set_option maxHeartbeats 4000000 in
theorem tfX3_forget {p : Program} {l : Launch} {e : Env} {s : State} {m : MethodId} {args : Array Value} {below : List Frame} {meth : Method} {c : Code} {A : Nat → Prop} {D : va_G} {cI cZ : ClassId} (h : Cx p s m args meth c A D cI cZ 2 cX3_forget RX3 wsX3_forget none) {h0 h0_data h0_taken : Nat} {n0_data : Nat} {n0_taken : Nat} {v0_data : (Nat → Int32)} {v0_taken : (Nat → Int32)} {o : (Nat → Int32)} (hF : fX3_forget n0_data n0_taken v0_taken = some o) : V p l e rmX3_forget s m args below meth c A D 2 (QV D [(h0, .inr (3, [.ref h0_data, .ref h0_taken])), (h0_data, .inl (cI, n0_data, .inl v0_data)), (h0_taken, .inl (cZ, n0_taken, .inl o))] A below args s) [(h0, .inr (3, [.ref h0_data, .ref h0_taken])), (h0_data, .inl (cI, n0_data, .inl v0_data)), (h0_taken, .inl (cZ, n0_taken, .inl v0_taken))] 0 [(0, .ref h0)] [] := by
  unfold fX3_forget at hF
  refine V_iconst (pc := 0) h (v := (0 : Int32)) dX3_forget_0 (by decide) ?_
  refine V_istore_n (pc := 1) h [(1, .int (0 : Int32)), (0, .ref h0)] dX3_forget_1 (by decide) rfl ?_
  refine V_lv [1, 0] [(0, .ref h0), (1, .int (0 : Int32))] rfl ?_
  exact tfX3_forget_l2 h 1000 _ _ hF
set_option maxRecDepth 100000 in
theorem k_X3_forget (l : Launch) (D : va_G) (cI cZ : ClassId) (h0 h0_data h0_taken : Nat) (n0_data : Nat) (n0_taken : Nat) (v0_data : (Nat → Int32)) (v0_taken : (Nat → Int32)) {o : (Nat → Int32)} (hF : fX3_forget n0_data n0_taken v0_taken = some o) : CV l yX3_forget wsX3_forget rmX3_forget D cI cZ [.ref h0] [(h0, .inr (3, [.ref h0_data, .ref h0_taken])), (h0_data, .inl (cI, n0_data, .inl v0_data)), (h0_taken, .inl (cZ, n0_taken, .inl v0_taken))] [(h0, .inr (3, [.ref h0_data, .ref h0_taken])), (h0_data, .inl (cI, n0_data, .inl v0_data)), (h0_taken, .inl (cZ, n0_taken, .inl o))] :=
  CV_of (cc := cX3_forget) (nL := 2) (ret := none) (by decide) rfl (Nat.le_of_ble_eq_true rfl) rfl (fun p e s m args below meth c A h => tfX3_forget h hF)
