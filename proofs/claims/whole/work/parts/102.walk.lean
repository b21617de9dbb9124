/-! X5_advance -/
abbrev rmX5_advance : Room := { frames := 0, cells := 0, slots := 0, locals := 0 }
theorem uX5_advance_inX5 : ∀ w ∈ wsX50, w ∈ wsX5_advance := by decide +kernel
theorem uX5_advance_f28 : Cond.fieldLink RX5 28 "LeafAsks$Text" "at" "I" ∈ wsX5_advance := by decide +kernel
theorem uX5_advance_f42 : Cond.fieldLink RX5 42 "LeafAsks$Text" "token" "I" ∈ wsX5_advance := by decide +kernel
theorem uX5_advance_f24 : Cond.fieldLink RX5 24 "LeafAsks$Text" "length" "I" ∈ wsX5_advance := by decide +kernel
theorem uX5_advance_f45 : Cond.fieldLink RX5 45 "LeafAsks$Text" "start" "I" ∈ wsX5_advance := by decide +kernel
theorem uX5_advance_f31 : Cond.fieldLink RX5 31 "LeafAsks$Text" "size" "I" ∈ wsX5_advance := by decide +kernel
theorem uX5_advance_f15 : Cond.fieldLink RX5 15 "LeafAsks$Text" "tokens" "[I" ∈ wsX5_advance := by decide +kernel
theorem uX5_advance_f18 : Cond.fieldLink RX5 18 "LeafAsks$Text" "starts" "[I" ∈ wsX5_advance := by decide +kernel
theorem uX5_advance_f21 : Cond.fieldLink RX5 21 "LeafAsks$Text" "numbers" "[I" ∈ wsX5_advance := by decide +kernel
theorem uX5_advance_f48 : Cond.fieldLink RX5 48 "LeafAsks$Text" "number" "I" ∈ wsX5_advance := by decide +kernel
noncomputable def fX5_advance (v0_size : Int32) (v0_length : Int32) (v0_tokens : (Nat → Int32)) (v0_starts : (Nat → Int32)) (v0_numbers : (Nat → Int32)) (v0_at : Int32) (v0_token : Int32) (v0_start : Int32) (v0_number : Int32) : Option (Int32 × Int32 × Int32 × Int32) :=
  if v0_at < (0 : Int32) then some ((v0_at, (257 : Int32), v0_length, v0_number)) else if v0_size ≤ v0_at then some ((v0_at, (257 : Int32), v0_length, v0_number)) else if v0_at < (160 : Int32) then gin v0_at 160 (bnd (v0_tokens v0_at.toNatClampNeg) (fun y54 => gin v0_at 160 (bnd (v0_starts v0_at.toNatClampNeg) (fun y67 => gin v0_at 160 (bnd (v0_numbers v0_at.toNatClampNeg) (fun y80 => bnd (v0_at + (1 : Int32)) (fun y90 => some (y90, y54, y67, y80)))))))) else some ((v0_at, (257 : Int32), v0_length, v0_number))
set_option maxRecDepth 100000 in
set_option maxHeartbeats 4000000 in
theorem tfX5_advance {p : Program} {l : Launch} {e : Env} {s : State} {m : MethodId} {args : Array Value} {below : List Frame} {meth : Method} {c : Code} {A : Nat → Prop} {D : va_G} {cI cZ : ClassId} (h : Cx p s m args meth c A D cI cZ 1 cX5_advance RX5 wsX5_advance none) {h0 h0_letters h0_tokens h0_starts h0_numbers : Nat} {v0_size : Int32} {v0_length : Int32} {v0_letters : (Nat → Int32)} {v0_tokens : (Nat → Int32)} {v0_starts : (Nat → Int32)} {v0_numbers : (Nat → Int32)} {v0_at : Int32} {v0_token : Int32} {v0_start : Int32} {v0_number : Int32} {o : Int32 × Int32 × Int32 × Int32} (hF : fX5_advance v0_size v0_length v0_tokens v0_starts v0_numbers v0_at v0_token v0_start v0_number = some o) : V p l e rmX5_advance s m args below meth c A D 1 (QV D [(h0, .inr (5, [.ref h0_letters, .ref h0_tokens, .ref h0_starts, .ref h0_numbers, .int v0_size, .int o.1, .int v0_length, .int o.2.1, .int o.2.2.1, .int o.2.2.2])), (h0_letters, .inl (cI, 160, .inl v0_letters)), (h0_tokens, .inl (cI, 160, .inl v0_tokens)), (h0_starts, .inl (cI, 160, .inl v0_starts)), (h0_numbers, .inl (cI, 160, .inl v0_numbers))] A below args s) [(h0, .inr (5, [.ref h0_letters, .ref h0_tokens, .ref h0_starts, .ref h0_numbers, .int v0_size, .int v0_at, .int v0_length, .int v0_token, .int v0_start, .int v0_number])), (h0_letters, .inl (cI, 160, .inl v0_letters)), (h0_tokens, .inl (cI, 160, .inl v0_tokens)), (h0_starts, .inl (cI, 160, .inl v0_starts)), (h0_numbers, .inl (cI, 160, .inl v0_numbers))] 0 [(0, .ref h0)] [] := by
  unfold fX5_advance at hF
  refine V_aload_n (pc := 0) h 0 dX5_advance_0 rfl ?_
  refine V_get (pc := 1) h uX5_advance_inX5 0 5 rfl rfl (by decide) uX5_advance_f28 rfl rfl dX5_advance_1 ?_
  refine V_if_lt (pc := 4) h (tgt := 28) dX5_advance_4 (by decide) hF (fun hF => ?_) (fun hF => ?_)
  · refine V_aload_n (pc := 28) h 0 dX5_advance_28 rfl ?_
    refine V_sipush (pc := 29) h (v := (257 : Int32)) dX5_advance_29 (by decide) ?_
    refine V_put (pc := 32) h uX5_advance_inX5 tyX5 tyX5_ok nmX5 0 7 rfl rfl (by decide) uX5_advance_f42 rfl rfl (by decide +kernel) (Nat.le_of_ble_eq_true rfl) [(h0, .inr (5, [.ref h0_letters, .ref h0_tokens, .ref h0_starts, .ref h0_numbers, .int v0_size, .int v0_at, .int v0_length, .int (257 : Int32), .int v0_start, .int v0_number])), (h0_letters, .inl (cI, 160, .inl v0_letters)), (h0_tokens, .inl (cI, 160, .inl v0_tokens)), (h0_starts, .inl (cI, 160, .inl v0_starts)), (h0_numbers, .inl (cI, 160, .inl v0_numbers))] rfl dX5_advance_32 ?_
    refine V_aload_n (pc := 35) h 0 dX5_advance_35 rfl ?_
    refine V_aload_n (pc := 36) h 0 dX5_advance_36 rfl ?_
    refine V_get (pc := 37) h uX5_advance_inX5 0 6 rfl rfl (by decide) uX5_advance_f24 rfl rfl dX5_advance_37 ?_
    refine V_put (pc := 40) h uX5_advance_inX5 tyX5 tyX5_ok nmX5 0 8 rfl rfl (by decide) uX5_advance_f45 rfl rfl (by decide +kernel) (Nat.le_of_ble_eq_true rfl) [(h0, .inr (5, [.ref h0_letters, .ref h0_tokens, .ref h0_starts, .ref h0_numbers, .int v0_size, .int v0_at, .int v0_length, .int (257 : Int32), .int v0_length, .int v0_number])), (h0_letters, .inl (cI, 160, .inl v0_letters)), (h0_tokens, .inl (cI, 160, .inl v0_tokens)), (h0_starts, .inl (cI, 160, .inl v0_starts)), (h0_numbers, .inl (cI, 160, .inl v0_numbers))] rfl dX5_advance_40 ?_
    have hF := Option.some.inj hF
    subst hF
    exact V_vret (pc := 43) h dX5_advance_43
  · refine V_aload_n (pc := 7) h 0 dX5_advance_7 rfl ?_
    refine V_get (pc := 8) h uX5_advance_inX5 0 5 rfl rfl (by decide) uX5_advance_f28 rfl rfl dX5_advance_8 ?_
    refine V_aload_n (pc := 11) h 0 dX5_advance_11 rfl ?_
    refine V_get (pc := 12) h uX5_advance_inX5 0 4 rfl rfl (by decide) uX5_advance_f31 rfl rfl dX5_advance_12 ?_
    refine V_icmp_ge (pc := 15) h (tgt := 28) dX5_advance_15 (by decide) hF (fun hF => ?_) (fun hF => ?_)
    · refine V_aload_n (pc := 28) h 0 dX5_advance_28 rfl ?_
      refine V_sipush (pc := 29) h (v := (257 : Int32)) dX5_advance_29 (by decide) ?_
      refine V_put (pc := 32) h uX5_advance_inX5 tyX5 tyX5_ok nmX5 0 7 rfl rfl (by decide) uX5_advance_f42 rfl rfl (by decide +kernel) (Nat.le_of_ble_eq_true rfl) [(h0, .inr (5, [.ref h0_letters, .ref h0_tokens, .ref h0_starts, .ref h0_numbers, .int v0_size, .int v0_at, .int v0_length, .int (257 : Int32), .int v0_start, .int v0_number])), (h0_letters, .inl (cI, 160, .inl v0_letters)), (h0_tokens, .inl (cI, 160, .inl v0_tokens)), (h0_starts, .inl (cI, 160, .inl v0_starts)), (h0_numbers, .inl (cI, 160, .inl v0_numbers))] rfl dX5_advance_32 ?_
      refine V_aload_n (pc := 35) h 0 dX5_advance_35 rfl ?_
      refine V_aload_n (pc := 36) h 0 dX5_advance_36 rfl ?_
      refine V_get (pc := 37) h uX5_advance_inX5 0 6 rfl rfl (by decide) uX5_advance_f24 rfl rfl dX5_advance_37 ?_
      refine V_put (pc := 40) h uX5_advance_inX5 tyX5 tyX5_ok nmX5 0 8 rfl rfl (by decide) uX5_advance_f45 rfl rfl (by decide +kernel) (Nat.le_of_ble_eq_true rfl) [(h0, .inr (5, [.ref h0_letters, .ref h0_tokens, .ref h0_starts, .ref h0_numbers, .int v0_size, .int v0_at, .int v0_length, .int (257 : Int32), .int v0_length, .int v0_number])), (h0_letters, .inl (cI, 160, .inl v0_letters)), (h0_tokens, .inl (cI, 160, .inl v0_tokens)), (h0_starts, .inl (cI, 160, .inl v0_starts)), (h0_numbers, .inl (cI, 160, .inl v0_numbers))] rfl dX5_advance_40 ?_
      have hF := Option.some.inj hF
      subst hF
      exact V_vret (pc := 43) h dX5_advance_43
    · refine V_aload_n (pc := 18) h 0 dX5_advance_18 rfl ?_
      refine V_get (pc := 19) h uX5_advance_inX5 0 5 rfl rfl (by decide) uX5_advance_f28 rfl rfl dX5_advance_19 ?_
      refine V_sipush (pc := 22) h (v := (160 : Int32)) dX5_advance_22 (by decide) ?_
      refine V_icmp_lt (pc := 25) h (tgt := 44) dX5_advance_25 (by decide) hF (fun hF => ?_) (fun hF => ?_)
      · refine V_aload_n (pc := 44) h 0 dX5_advance_44 rfl ?_
        refine V_aload_n (pc := 45) h 0 dX5_advance_45 rfl ?_
        refine V_get (pc := 46) h uX5_advance_inX5 0 1 rfl rfl (by decide) uX5_advance_f15 rfl rfl dX5_advance_46 ?_
        refine V_aload_n (pc := 49) h 0 dX5_advance_49 rfl ?_
        refine V_get (pc := 50) h uX5_advance_inX5 0 5 rfl rfl (by decide) uX5_advance_f28 rfl rfl dX5_advance_50 ?_
        refine V_iald (pc := 53) h 2 rfl dX5_advance_53 hF (fun hF => ?_)
        refine V_bnd hF (fun y54 hF => ?_)
        refine V_put (pc := 54) h uX5_advance_inX5 tyX5 tyX5_ok nmX5 0 7 rfl rfl (by decide) uX5_advance_f42 rfl rfl (by decide +kernel) (Nat.le_of_ble_eq_true rfl) [(h0, .inr (5, [.ref h0_letters, .ref h0_tokens, .ref h0_starts, .ref h0_numbers, .int v0_size, .int v0_at, .int v0_length, .int y54, .int v0_start, .int v0_number])), (h0_letters, .inl (cI, 160, .inl v0_letters)), (h0_tokens, .inl (cI, 160, .inl v0_tokens)), (h0_starts, .inl (cI, 160, .inl v0_starts)), (h0_numbers, .inl (cI, 160, .inl v0_numbers))] rfl dX5_advance_54 ?_
        refine V_aload_n (pc := 57) h 0 dX5_advance_57 rfl ?_
        refine V_aload_n (pc := 58) h 0 dX5_advance_58 rfl ?_
        refine V_get (pc := 59) h uX5_advance_inX5 0 2 rfl rfl (by decide) uX5_advance_f18 rfl rfl dX5_advance_59 ?_
        refine V_aload_n (pc := 62) h 0 dX5_advance_62 rfl ?_
        refine V_get (pc := 63) h uX5_advance_inX5 0 5 rfl rfl (by decide) uX5_advance_f28 rfl rfl dX5_advance_63 ?_
        refine V_iald (pc := 66) h 3 rfl dX5_advance_66 hF (fun hF => ?_)
        refine V_bnd hF (fun y67 hF => ?_)
        refine V_put (pc := 67) h uX5_advance_inX5 tyX5 tyX5_ok nmX5 0 8 rfl rfl (by decide) uX5_advance_f45 rfl rfl (by decide +kernel) (Nat.le_of_ble_eq_true rfl) [(h0, .inr (5, [.ref h0_letters, .ref h0_tokens, .ref h0_starts, .ref h0_numbers, .int v0_size, .int v0_at, .int v0_length, .int y54, .int y67, .int v0_number])), (h0_letters, .inl (cI, 160, .inl v0_letters)), (h0_tokens, .inl (cI, 160, .inl v0_tokens)), (h0_starts, .inl (cI, 160, .inl v0_starts)), (h0_numbers, .inl (cI, 160, .inl v0_numbers))] rfl dX5_advance_67 ?_
        refine V_aload_n (pc := 70) h 0 dX5_advance_70 rfl ?_
        refine V_aload_n (pc := 71) h 0 dX5_advance_71 rfl ?_
        refine V_get (pc := 72) h uX5_advance_inX5 0 3 rfl rfl (by decide) uX5_advance_f21 rfl rfl dX5_advance_72 ?_
        refine V_aload_n (pc := 75) h 0 dX5_advance_75 rfl ?_
        refine V_get (pc := 76) h uX5_advance_inX5 0 5 rfl rfl (by decide) uX5_advance_f28 rfl rfl dX5_advance_76 ?_
        refine V_iald (pc := 79) h 4 rfl dX5_advance_79 hF (fun hF => ?_)
        refine V_bnd hF (fun y80 hF => ?_)
        refine V_put (pc := 80) h uX5_advance_inX5 tyX5 tyX5_ok nmX5 0 9 rfl rfl (by decide) uX5_advance_f48 rfl rfl (by decide +kernel) (Nat.le_of_ble_eq_true rfl) [(h0, .inr (5, [.ref h0_letters, .ref h0_tokens, .ref h0_starts, .ref h0_numbers, .int v0_size, .int v0_at, .int v0_length, .int y54, .int y67, .int y80])), (h0_letters, .inl (cI, 160, .inl v0_letters)), (h0_tokens, .inl (cI, 160, .inl v0_tokens)), (h0_starts, .inl (cI, 160, .inl v0_starts)), (h0_numbers, .inl (cI, 160, .inl v0_numbers))] rfl dX5_advance_80 ?_
        refine V_aload_n (pc := 83) h 0 dX5_advance_83 rfl ?_
        refine V_dup (pc := 84) h dX5_advance_84 rfl ?_
        refine V_get (pc := 85) h uX5_advance_inX5 0 5 rfl rfl (by decide) uX5_advance_f28 rfl rfl dX5_advance_85 ?_
        refine V_iconst (pc := 88) h (v := (1 : Int32)) dX5_advance_88 (by decide) ?_
        refine V_iadd (pc := 89) h dX5_advance_89 ?_
        refine V_bnd hF (fun y90 hF => ?_)
        refine V_put (pc := 90) h uX5_advance_inX5 tyX5 tyX5_ok nmX5 0 5 rfl rfl (by decide) uX5_advance_f28 rfl rfl (by decide +kernel) (Nat.le_of_ble_eq_true rfl) [(h0, .inr (5, [.ref h0_letters, .ref h0_tokens, .ref h0_starts, .ref h0_numbers, .int v0_size, .int y90, .int v0_length, .int y54, .int y67, .int y80])), (h0_letters, .inl (cI, 160, .inl v0_letters)), (h0_tokens, .inl (cI, 160, .inl v0_tokens)), (h0_starts, .inl (cI, 160, .inl v0_starts)), (h0_numbers, .inl (cI, 160, .inl v0_numbers))] rfl dX5_advance_90 ?_
        have hF := Option.some.inj hF
        subst hF
        exact V_vret (pc := 93) h dX5_advance_93
      · refine V_aload_n (pc := 28) h 0 dX5_advance_28 rfl ?_
        refine V_sipush (pc := 29) h (v := (257 : Int32)) dX5_advance_29 (by decide) ?_
        refine V_put (pc := 32) h uX5_advance_inX5 tyX5 tyX5_ok nmX5 0 7 rfl rfl (by decide) uX5_advance_f42 rfl rfl (by decide +kernel) (Nat.le_of_ble_eq_true rfl) [(h0, .inr (5, [.ref h0_letters, .ref h0_tokens, .ref h0_starts, .ref h0_numbers, .int v0_size, .int v0_at, .int v0_length, .int (257 : Int32), .int v0_start, .int v0_number])), (h0_letters, .inl (cI, 160, .inl v0_letters)), (h0_tokens, .inl (cI, 160, .inl v0_tokens)), (h0_starts, .inl (cI, 160, .inl v0_starts)), (h0_numbers, .inl (cI, 160, .inl v0_numbers))] rfl dX5_advance_32 ?_
        refine V_aload_n (pc := 35) h 0 dX5_advance_35 rfl ?_
        refine V_aload_n (pc := 36) h 0 dX5_advance_36 rfl ?_
        refine V_get (pc := 37) h uX5_advance_inX5 0 6 rfl rfl (by decide) uX5_advance_f24 rfl rfl dX5_advance_37 ?_
        refine V_put (pc := 40) h uX5_advance_inX5 tyX5 tyX5_ok nmX5 0 8 rfl rfl (by decide) uX5_advance_f45 rfl rfl (by decide +kernel) (Nat.le_of_ble_eq_true rfl) [(h0, .inr (5, [.ref h0_letters, .ref h0_tokens, .ref h0_starts, .ref h0_numbers, .int v0_size, .int v0_at, .int v0_length, .int (257 : Int32), .int v0_length, .int v0_number])), (h0_letters, .inl (cI, 160, .inl v0_letters)), (h0_tokens, .inl (cI, 160, .inl v0_tokens)), (h0_starts, .inl (cI, 160, .inl v0_starts)), (h0_numbers, .inl (cI, 160, .inl v0_numbers))] rfl dX5_advance_40 ?_
        have hF := Option.some.inj hF
        subst hF
        exact V_vret (pc := 43) h dX5_advance_43
set_option maxRecDepth 100000 in
theorem k_X5_advance (l : Launch) (D : va_G) (cI cZ : ClassId) (h0 h0_letters h0_tokens h0_starts h0_numbers : Nat) (v0_size : Int32) (v0_at : Int32) (v0_length : Int32) (v0_token : Int32) (v0_start : Int32) (v0_number : Int32) (v0_letters : (Nat → Int32)) (v0_tokens : (Nat → Int32)) (v0_starts : (Nat → Int32)) (v0_numbers : (Nat → Int32)) {o : Int32 × Int32 × Int32 × Int32} (hF : fX5_advance v0_size v0_length v0_tokens v0_starts v0_numbers v0_at v0_token v0_start v0_number = some o) : CV l yX5_advance wsX5_advance rmX5_advance D cI cZ [.ref h0] [(h0, .inr (5, [.ref h0_letters, .ref h0_tokens, .ref h0_starts, .ref h0_numbers, .int v0_size, .int v0_at, .int v0_length, .int v0_token, .int v0_start, .int v0_number])), (h0_letters, .inl (cI, 160, .inl v0_letters)), (h0_tokens, .inl (cI, 160, .inl v0_tokens)), (h0_starts, .inl (cI, 160, .inl v0_starts)), (h0_numbers, .inl (cI, 160, .inl v0_numbers))] [(h0, .inr (5, [.ref h0_letters, .ref h0_tokens, .ref h0_starts, .ref h0_numbers, .int v0_size, .int o.1, .int v0_length, .int o.2.1, .int o.2.2.1, .int o.2.2.2])), (h0_letters, .inl (cI, 160, .inl v0_letters)), (h0_tokens, .inl (cI, 160, .inl v0_tokens)), (h0_starts, .inl (cI, 160, .inl v0_starts)), (h0_numbers, .inl (cI, 160, .inl v0_numbers))] :=
  CV_of (cc := cX5_advance) (nL := 1) (ret := none) (by decide) rfl (Nat.le_of_ble_eq_true rfl) rfl (fun p e s m args below meth c A h => tfX5_advance h hF)
/-! X5_takes -/
abbrev rmX5_takes : Room := { frames := 1, cells := 0, slots := 0, locals := 20 }
theorem uX5_takes_inX5 : ∀ w ∈ wsX50, w ∈ wsX5_takes := by decide +kernel
theorem uX5_takes_f42 : Cond.fieldLink RX5 42 "LeafAsks$Text" "token" "I" ∈ wsX5_takes := by decide +kernel
noncomputable def fX5_takes (v0_size : Int32) (v0_length : Int32) (v0_tokens : (Nat → Int32)) (v0_starts : (Nat → Int32)) (v0_numbers : (Nat → Int32)) (x1 : Int32) (v0_at : Int32) (v0_token : Int32) (v0_start : Int32) (v0_number : Int32) : Option (Int32 × Int32 × Int32 × Int32 × Int32) :=
  bd (fX5_advance v0_size v0_length v0_tokens v0_starts v0_numbers v0_at v0_token v0_start v0_number) (fun r1 => if r1.2.1 = x1 then some (((1 : Int32), r1.1, r1.2.1, r1.2.2.1, r1.2.2.2)) else some (((0 : Int32), r1.1, r1.2.1, r1.2.2.1, r1.2.2.2)))
set_option maxRecDepth 100000 in
set_option maxHeartbeats 4000000 in
theorem tfX5_takes {p : Program} {l : Launch} {e : Env} {s : State} {m : MethodId} {args : Array Value} {below : List Frame} {meth : Method} {c : Code} {A : Nat → Prop} {D : va_G} {cI cZ : ClassId} (h : Cx p s m args meth c A D cI cZ 2 cX5_takes RX5 wsX5_takes (some .boolean)) {h0 h0_letters h0_tokens h0_starts h0_numbers : Nat} {x1 : Int32} {v0_size : Int32} {v0_length : Int32} {v0_letters : (Nat → Int32)} {v0_tokens : (Nat → Int32)} {v0_starts : (Nat → Int32)} {v0_numbers : (Nat → Int32)} {v0_at : Int32} {v0_token : Int32} {v0_start : Int32} {v0_number : Int32} {o : Int32 × Int32 × Int32 × Int32 × Int32} (hF : fX5_takes v0_size v0_length v0_tokens v0_starts v0_numbers x1 v0_at v0_token v0_start v0_number = some o) : V p l e rmX5_takes s m args below meth c A D 2 (QI D [(h0, .inr (5, [.ref h0_letters, .ref h0_tokens, .ref h0_starts, .ref h0_numbers, .int v0_size, .int o.2.1, .int v0_length, .int o.2.2.1, .int o.2.2.2.1, .int o.2.2.2.2])), (h0_letters, .inl (cI, 160, .inl v0_letters)), (h0_tokens, .inl (cI, 160, .inl v0_tokens)), (h0_starts, .inl (cI, 160, .inl v0_starts)), (h0_numbers, .inl (cI, 160, .inl v0_numbers))] o.1 A below args s) [(h0, .inr (5, [.ref h0_letters, .ref h0_tokens, .ref h0_starts, .ref h0_numbers, .int v0_size, .int v0_at, .int v0_length, .int v0_token, .int v0_start, .int v0_number])), (h0_letters, .inl (cI, 160, .inl v0_letters)), (h0_tokens, .inl (cI, 160, .inl v0_tokens)), (h0_starts, .inl (cI, 160, .inl v0_starts)), (h0_numbers, .inl (cI, 160, .inl v0_numbers))] 0 [(0, .ref h0), (1, .int x1)] [] := by
  unfold fX5_takes at hF
  refine V_aload_n (pc := 0) h 0 dX5_takes_0 rfl ?_
  refine V_cvVA (pc := 1) h (n := 0) (bytes := cX5_advance) (maxL := 1) (As := []) (rest := []) gX5_takes_X5_advance (by decide +kernel) rfl rfl rfl rfl ⟨rfl, rfl⟩ ⟨Nat.le_of_ble_eq_true rfl, Nat.le_of_ble_eq_true rfl⟩ rfl rfl (Nat.le_of_ble_eq_true rfl) dX5_takes_1 hF (fun r1 hG => k_X5_advance l D cI cZ h0 h0_letters h0_tokens h0_starts h0_numbers v0_size v0_at v0_length v0_token v0_start v0_number v0_letters v0_tokens v0_starts v0_numbers hG) (fun r1 hF => ?_)
  refine V_aload_n (pc := 4) h 0 dX5_takes_4 rfl ?_
  refine V_get (pc := 5) h uX5_takes_inX5 0 7 rfl rfl (by decide) uX5_takes_f42 rfl rfl dX5_takes_5 ?_
  refine V_iload_n (pc := 8) h 1 dX5_takes_8 rfl ?_
  refine V_icmp_ne (pc := 9) h (tgt := 16) dX5_takes_9 (by decide) hF (fun hF => ?_) (fun hF => ?_)
  · refine V_iconst (pc := 16) h (v := (0 : Int32)) dX5_takes_16 (by decide) ?_
    have hF := Option.some.inj hF
    subst hF
    exact V_zret (pc := 17) h (Or.inl rfl) dX5_takes_17
  · refine V_iconst (pc := 12) h (v := (1 : Int32)) dX5_takes_12 (by decide) ?_
    refine V_goto (pc := 13) h (tgt := 17) dX5_takes_13 (by decide) ?_
    have hF := Option.some.inj hF
    subst hF
    exact V_zret (pc := 17) h (Or.inr rfl) dX5_takes_17
set_option maxRecDepth 100000 in
theorem k_X5_takes (l : Launch) (D : va_G) (cI cZ : ClassId) (h0 h0_letters h0_tokens h0_starts h0_numbers : Nat) (v0_size : Int32) (v0_at : Int32) (v0_length : Int32) (v0_token : Int32) (v0_start : Int32) (v0_number : Int32) (v0_letters : (Nat → Int32)) (v0_tokens : (Nat → Int32)) (v0_starts : (Nat → Int32)) (v0_numbers : (Nat → Int32)) (x1 : Int32) {o : Int32 × Int32 × Int32 × Int32 × Int32} (hF : fX5_takes v0_size v0_length v0_tokens v0_starts v0_numbers x1 v0_at v0_token v0_start v0_number = some o) : CI l yX5_takes wsX5_takes rmX5_takes D cI cZ [.ref h0, .int x1] [(h0, .inr (5, [.ref h0_letters, .ref h0_tokens, .ref h0_starts, .ref h0_numbers, .int v0_size, .int v0_at, .int v0_length, .int v0_token, .int v0_start, .int v0_number])), (h0_letters, .inl (cI, 160, .inl v0_letters)), (h0_tokens, .inl (cI, 160, .inl v0_tokens)), (h0_starts, .inl (cI, 160, .inl v0_starts)), (h0_numbers, .inl (cI, 160, .inl v0_numbers))] [(h0, .inr (5, [.ref h0_letters, .ref h0_tokens, .ref h0_starts, .ref h0_numbers, .int v0_size, .int o.2.1, .int v0_length, .int o.2.2.1, .int o.2.2.2.1, .int o.2.2.2.2])), (h0_letters, .inl (cI, 160, .inl v0_letters)), (h0_tokens, .inl (cI, 160, .inl v0_tokens)), (h0_starts, .inl (cI, 160, .inl v0_starts)), (h0_numbers, .inl (cI, 160, .inl v0_numbers))] o.1 :=
  CI_of (cc := cX5_takes) (nL := 2) (ret := (some .boolean)) (by decide) rfl (Nat.le_of_ble_eq_true rfl) rfl (fun p e s m args below meth c A h => tfX5_takes h hF)
/-! X5_isNumber -/
abbrev rmX5_isNumber : Room := { frames := 0, cells := 0, slots := 0, locals := 0 }
theorem uX5_isNumber_inX5 : ∀ w ∈ wsX50, w ∈ wsX5_isNumber := by decide +kernel
theorem uX5_isNumber_f42 : Cond.fieldLink RX5 42 "LeafAsks$Text" "token" "I" ∈ wsX5_isNumber := by decide +kernel
theorem uX5_isNumber_f48 : Cond.fieldLink RX5 48 "LeafAsks$Text" "number" "I" ∈ wsX5_isNumber := by decide +kernel
noncomputable def fX5_isNumber (v0_token : Int32) (v0_number : Int32) (x1 : Int32) (x2 : Int32) : Option (Int32) :=
  if v0_token = (256 : Int32) then if v0_number < x1 then some (0 : Int32) else if x2 < v0_number then some (0 : Int32) else some (1 : Int32) else some (0 : Int32)
set_option maxRecDepth 100000 in
set_option maxHeartbeats 4000000 in
theorem tfX5_isNumber {p : Program} {l : Launch} {e : Env} {s : State} {m : MethodId} {args : Array Value} {below : List Frame} {meth : Method} {c : Code} {A : Nat → Prop} {D : va_G} {cI cZ : ClassId} (h : Cx p s m args meth c A D cI cZ 3 cX5_isNumber RX5 wsX5_isNumber (some .boolean)) {h0 h0_letters h0_tokens h0_starts h0_numbers : Nat} {x1 : Int32} {x2 : Int32} {v0_size : Int32} {v0_at : Int32} {v0_length : Int32} {v0_token : Int32} {v0_start : Int32} {v0_number : Int32} {v0_letters : (Nat → Int32)} {v0_tokens : (Nat → Int32)} {v0_starts : (Nat → Int32)} {v0_numbers : (Nat → Int32)} {o : Int32} (hF : fX5_isNumber v0_token v0_number x1 x2 = some o) : V p l e rmX5_isNumber s m args below meth c A D 3 (QI D [(h0, .inr (5, [.ref h0_letters, .ref h0_tokens, .ref h0_starts, .ref h0_numbers, .int v0_size, .int v0_at, .int v0_length, .int v0_token, .int v0_start, .int v0_number])), (h0_letters, .inl (cI, 160, .inl v0_letters)), (h0_tokens, .inl (cI, 160, .inl v0_tokens)), (h0_starts, .inl (cI, 160, .inl v0_starts)), (h0_numbers, .inl (cI, 160, .inl v0_numbers))] o A below args s) [(h0, .inr (5, [.ref h0_letters, .ref h0_tokens, .ref h0_starts, .ref h0_numbers, .int v0_size, .int v0_at, .int v0_length, .int v0_token, .int v0_start, .int v0_number])), (h0_letters, .inl (cI, 160, .inl v0_letters)), (h0_tokens, .inl (cI, 160, .inl v0_tokens)), (h0_starts, .inl (cI, 160, .inl v0_starts)), (h0_numbers, .inl (cI, 160, .inl v0_numbers))] 0 [(0, .ref h0), (1, .int x1), (2, .int x2)] [] := by
  unfold fX5_isNumber at hF
  refine V_aload_n (pc := 0) h 0 dX5_isNumber_0 rfl ?_
  refine V_get (pc := 1) h uX5_isNumber_inX5 0 7 rfl rfl (by decide) uX5_isNumber_f42 rfl rfl dX5_isNumber_1 ?_
  refine V_sipush (pc := 4) h (v := (256 : Int32)) dX5_isNumber_4 (by decide) ?_
  refine V_icmp_ne (pc := 7) h (tgt := 30) dX5_isNumber_7 (by decide) hF (fun hF => ?_) (fun hF => ?_)
  · refine V_iconst (pc := 30) h (v := (0 : Int32)) dX5_isNumber_30 (by decide) ?_
    have hF := Option.some.inj hF
    subst hF
    exact V_zret (pc := 31) h (Or.inl rfl) dX5_isNumber_31
  · refine V_aload_n (pc := 10) h 0 dX5_isNumber_10 rfl ?_
    refine V_get (pc := 11) h uX5_isNumber_inX5 0 9 rfl rfl (by decide) uX5_isNumber_f48 rfl rfl dX5_isNumber_11 ?_
    refine V_iload_n (pc := 14) h 1 dX5_isNumber_14 rfl ?_
    refine V_icmp_lt (pc := 15) h (tgt := 30) dX5_isNumber_15 (by decide) hF (fun hF => ?_) (fun hF => ?_)
    · refine V_iconst (pc := 30) h (v := (0 : Int32)) dX5_isNumber_30 (by decide) ?_
      have hF := Option.some.inj hF
      subst hF
      exact V_zret (pc := 31) h (Or.inl rfl) dX5_isNumber_31
    · refine V_aload_n (pc := 18) h 0 dX5_isNumber_18 rfl ?_
      refine V_get (pc := 19) h uX5_isNumber_inX5 0 9 rfl rfl (by decide) uX5_isNumber_f48 rfl rfl dX5_isNumber_19 ?_
      refine V_iload_n (pc := 22) h 2 dX5_isNumber_22 rfl ?_
      refine V_icmp_gt (pc := 23) h (tgt := 30) dX5_isNumber_23 (by decide) hF (fun hF => ?_) (fun hF => ?_)
      · refine V_iconst (pc := 30) h (v := (0 : Int32)) dX5_isNumber_30 (by decide) ?_
        have hF := Option.some.inj hF
        subst hF
        exact V_zret (pc := 31) h (Or.inl rfl) dX5_isNumber_31
      · refine V_iconst (pc := 26) h (v := (1 : Int32)) dX5_isNumber_26 (by decide) ?_
        refine V_goto (pc := 27) h (tgt := 31) dX5_isNumber_27 (by decide) ?_
        have hF := Option.some.inj hF
        subst hF
        exact V_zret (pc := 31) h (Or.inr rfl) dX5_isNumber_31
set_option maxRecDepth 100000 in
theorem k_X5_isNumber (l : Launch) (D : va_G) (cI cZ : ClassId) (h0 h0_letters h0_tokens h0_starts h0_numbers : Nat) (v0_size : Int32) (v0_at : Int32) (v0_length : Int32) (v0_token : Int32) (v0_start : Int32) (v0_number : Int32) (v0_letters : (Nat → Int32)) (v0_tokens : (Nat → Int32)) (v0_starts : (Nat → Int32)) (v0_numbers : (Nat → Int32)) (x1 : Int32) (x2 : Int32) {o : Int32} (hF : fX5_isNumber v0_token v0_number x1 x2 = some o) : CI l yX5_isNumber wsX5_isNumber rmX5_isNumber D cI cZ [.ref h0, .int x1, .int x2] [(h0, .inr (5, [.ref h0_letters, .ref h0_tokens, .ref h0_starts, .ref h0_numbers, .int v0_size, .int v0_at, .int v0_length, .int v0_token, .int v0_start, .int v0_number])), (h0_letters, .inl (cI, 160, .inl v0_letters)), (h0_tokens, .inl (cI, 160, .inl v0_tokens)), (h0_starts, .inl (cI, 160, .inl v0_starts)), (h0_numbers, .inl (cI, 160, .inl v0_numbers))] [(h0, .inr (5, [.ref h0_letters, .ref h0_tokens, .ref h0_starts, .ref h0_numbers, .int v0_size, .int v0_at, .int v0_length, .int v0_token, .int v0_start, .int v0_number])), (h0_letters, .inl (cI, 160, .inl v0_letters)), (h0_tokens, .inl (cI, 160, .inl v0_tokens)), (h0_starts, .inl (cI, 160, .inl v0_starts)), (h0_numbers, .inl (cI, 160, .inl v0_numbers))] o :=
  CI_of (cc := cX5_isNumber) (nL := 3) (ret := (some .boolean)) (by decide) rfl (Nat.le_of_ble_eq_true rfl) rfl (fun p e s m args below meth c A h => tfX5_isNumber h hF)
/-! X5_takesNumber -/
abbrev rmX5_takesNumber : Room := { frames := 1, cells := 0, slots := 0, locals := 22 }
noncomputable def fX5_takesNumber (v0_size : Int32) (v0_length : Int32) (v0_tokens : (Nat → Int32)) (v0_starts : (Nat → Int32)) (v0_numbers : (Nat → Int32)) (x1 : Int32) (x2 : Int32) (v0_at : Int32) (v0_token : Int32) (v0_start : Int32) (v0_number : Int32) : Option (Int32 × Int32 × Int32 × Int32 × Int32) :=
  bd (fX5_advance v0_size v0_length v0_tokens v0_starts v0_numbers v0_at v0_token v0_start v0_number) (fun r1 => bd (fX5_isNumber r1.2.1 r1.2.2.2 x1 x2) (fun r7 => gz r7 (some (r7, r1.1, r1.2.1, r1.2.2.1, r1.2.2.2))))
set_option maxRecDepth 100000 in
set_option maxHeartbeats 4000000 in
theorem tfX5_takesNumber {p : Program} {l : Launch} {e : Env} {s : State} {m : MethodId} {args : Array Value} {below : List Frame} {meth : Method} {c : Code} {A : Nat → Prop} {D : va_G} {cI cZ : ClassId} (h : Cx p s m args meth c A D cI cZ 3 cX5_takesNumber RX5 wsX5_takesNumber (some .boolean)) {h0 h0_letters h0_tokens h0_starts h0_numbers : Nat} {x1 : Int32} {x2 : Int32} {v0_size : Int32} {v0_length : Int32} {v0_letters : (Nat → Int32)} {v0_tokens : (Nat → Int32)} {v0_starts : (Nat → Int32)} {v0_numbers : (Nat → Int32)} {v0_at : Int32} {v0_token : Int32} {v0_start : Int32} {v0_number : Int32} {o : Int32 × Int32 × Int32 × Int32 × Int32} (hF : fX5_takesNumber v0_size v0_length v0_tokens v0_starts v0_numbers x1 x2 v0_at v0_token v0_start v0_number = some o) : V p l e rmX5_takesNumber s m args below meth c A D 3 (QI D [(h0, .inr (5, [.ref h0_letters, .ref h0_tokens, .ref h0_starts, .ref h0_numbers, .int v0_size, .int o.2.1, .int v0_length, .int o.2.2.1, .int o.2.2.2.1, .int o.2.2.2.2])), (h0_letters, .inl (cI, 160, .inl v0_letters)), (h0_tokens, .inl (cI, 160, .inl v0_tokens)), (h0_starts, .inl (cI, 160, .inl v0_starts)), (h0_numbers, .inl (cI, 160, .inl v0_numbers))] o.1 A below args s) [(h0, .inr (5, [.ref h0_letters, .ref h0_tokens, .ref h0_starts, .ref h0_numbers, .int v0_size, .int v0_at, .int v0_length, .int v0_token, .int v0_start, .int v0_number])), (h0_letters, .inl (cI, 160, .inl v0_letters)), (h0_tokens, .inl (cI, 160, .inl v0_tokens)), (h0_starts, .inl (cI, 160, .inl v0_starts)), (h0_numbers, .inl (cI, 160, .inl v0_numbers))] 0 [(0, .ref h0), (1, .int x1), (2, .int x2)] [] := by
  unfold fX5_takesNumber at hF
  refine V_aload_n (pc := 0) h 0 dX5_takesNumber_0 rfl ?_
  refine V_cvVA (pc := 1) h (n := 0) (bytes := cX5_advance) (maxL := 1) (As := []) (rest := []) gX5_takesNumber_X5_advance (by decide +kernel) rfl rfl rfl rfl ⟨rfl, rfl⟩ ⟨Nat.le_of_ble_eq_true rfl, Nat.le_of_ble_eq_true rfl⟩ rfl rfl (Nat.le_of_ble_eq_true rfl) dX5_takesNumber_1 hF (fun r1 hG => k_X5_advance l D cI cZ h0 h0_letters h0_tokens h0_starts h0_numbers v0_size v0_at v0_length v0_token v0_start v0_number v0_letters v0_tokens v0_starts v0_numbers hG) (fun r1 hF => ?_)
  refine V_aload_n (pc := 4) h 0 dX5_takesNumber_4 rfl ?_
  refine V_iload_n (pc := 5) h 1 dX5_takesNumber_5 rfl ?_
  refine V_iload_n (pc := 6) h 2 dX5_takesNumber_6 rfl ?_
  refine V_ciVA (pc := 7) h (n := 2) (bytes := cX5_isNumber) (maxL := 3) (As := [.int x1, .int x2]) (rest := []) gX5_takesNumber_X5_isNumber (by decide +kernel) rfl rfl rfl rfl ⟨rfl, rfl⟩ ⟨Nat.le_of_ble_eq_true rfl, Nat.le_of_ble_eq_true rfl⟩ rfl rfl (Nat.le_of_ble_eq_true rfl) dX5_takesNumber_7 hF (fun r7 hG => k_X5_isNumber l D cI cZ h0 h0_letters h0_tokens h0_starts h0_numbers v0_size r1.1 v0_length r1.2.1 r1.2.2.1 r1.2.2.2 v0_letters v0_tokens v0_starts v0_numbers x1 x2 hG) (fun r7 hF => ?_)
  obtain ⟨hz, hF⟩ := gz_some hF
  have hF := Option.some.inj hF
  subst hF
  exact V_zret (pc := 10) h hz dX5_takesNumber_10
set_option maxRecDepth 100000 in
theorem k_X5_takesNumber (l : Launch) (D : va_G) (cI cZ : ClassId) (h0 h0_letters h0_tokens h0_starts h0_numbers : Nat) (v0_size : Int32) (v0_at : Int32) (v0_length : Int32) (v0_token : Int32) (v0_start : Int32) (v0_number : Int32) (v0_letters : (Nat → Int32)) (v0_tokens : (Nat → Int32)) (v0_starts : (Nat → Int32)) (v0_numbers : (Nat → Int32)) (x1 : Int32) (x2 : Int32) {o : Int32 × Int32 × Int32 × Int32 × Int32} (hF : fX5_takesNumber v0_size v0_length v0_tokens v0_starts v0_numbers x1 x2 v0_at v0_token v0_start v0_number = some o) : CI l yX5_takesNumber wsX5_takesNumber rmX5_takesNumber D cI cZ [.ref h0, .int x1, .int x2] [(h0, .inr (5, [.ref h0_letters, .ref h0_tokens, .ref h0_starts, .ref h0_numbers, .int v0_size, .int v0_at, .int v0_length, .int v0_token, .int v0_start, .int v0_number])), (h0_letters, .inl (cI, 160, .inl v0_letters)), (h0_tokens, .inl (cI, 160, .inl v0_tokens)), (h0_starts, .inl (cI, 160, .inl v0_starts)), (h0_numbers, .inl (cI, 160, .inl v0_numbers))] [(h0, .inr (5, [.ref h0_letters, .ref h0_tokens, .ref h0_starts, .ref h0_numbers, .int v0_size, .int o.2.1, .int v0_length, .int o.2.2.1, .int o.2.2.2.1, .int o.2.2.2.2])), (h0_letters, .inl (cI, 160, .inl v0_letters)), (h0_tokens, .inl (cI, 160, .inl v0_tokens)), (h0_starts, .inl (cI, 160, .inl v0_starts)), (h0_numbers, .inl (cI, 160, .inl v0_numbers))] o.1 :=
  CI_of (cc := cX5_takesNumber) (nL := 3) (ret := (some .boolean)) (by decide) rfl (Nat.le_of_ble_eq_true rfl) rfl (fun p e s m args below meth c A h => tfX5_takesNumber h hF)
/-! X1_readValue -/
abbrev rmX1_readValue : Room := { frames := 2, cells := 0, slots := 0, locals := 44 }
theorem uX1_readValue_inX1 : ∀ w ∈ wsX10, w ∈ wsX1_readValue := by decide +kernel
theorem uX1_readValue_f18 : Cond.fieldLink RX1 18 "LeafAsks$Orders" "size" "I" ∈ wsX1_readValue := by decide +kernel
theorem uX1_readValue_f11 : Cond.fieldLink RX1 11 "LeafAsks$Orders" "names" "[I" ∈ wsX1_readValue := by decide +kernel
theorem uX1_readValue_f15 : Cond.fieldLink RX1 15 "LeafAsks$Orders" "values" "[I" ∈ wsX1_readValue := by decide +kernel
theorem uX1_readValue_inX5 : ∀ w ∈ wsX50, w ∈ wsX1_readValue := by decide +kernel
theorem uX1_readValue_f42 : Cond.fieldLink RX1 42 "LeafAsks$Text" "number" "I" ∈ wsX1_readValue := by decide +kernel
noncomputable def fX1_readValue (v2_size : Int32) (v2_length : Int32) (v2_tokens : (Nat → Int32)) (v2_starts : (Nat → Int32)) (v2_numbers : (Nat → Int32)) (x1 : Int32) (v0_size : Int32) (v0_names : (Nat → Int32)) (v0_values : (Nat → Int32)) (v2_at : Int32) (v2_token : Int32) (v2_start : Int32) (v2_number : Int32) : Option (Int32 × Int32 × (Nat → Int32) × (Nat → Int32) × Int32 × Int32 × Int32 × Int32) :=
  if v0_size < (0 : Int32) then some (((0 : Int32), v0_size, v0_names, v0_values, v2_at, v2_token, v2_start, v2_number)) else if (8 : Int32) ≤ v0_size then some (((0 : Int32), v0_size, v0_names, v0_values, v2_at, v2_token, v2_start, v2_number)) else bd (fX5_takesNumber v2_size v2_length v2_tokens v2_starts v2_numbers (0 : Int32) (99 : Int32) v2_at v2_token v2_start v2_number) (fun r20 => if r20.1 = (0 : Int32) then some (((0 : Int32), v0_size, v0_names, v0_values, r20.2.1, r20.2.2.1, r20.2.2.2.1, r20.2.2.2.2)) else gin v0_size 8 (gin v0_size 8 (bnd (v0_size + (1 : Int32)) (fun y58 => bd (fX5_takes v2_size v2_length v2_tokens v2_starts v2_numbers (59 : Int32) r20.2.1 r20.2.2.1 r20.2.2.2.1 r20.2.2.2.2) (fun r64 => gz r64.1 (some ((r64.1, y58, (upd v0_names v0_size.toNatClampNeg x1), (upd v0_values v0_size.toNatClampNeg r20.2.2.2.2), r64.2.1, r64.2.2.1, r64.2.2.2.1, r64.2.2.2.2))))))))
set_option maxRecDepth 100000 in
set_option maxHeartbeats 4000000 in
theorem tfX1_readValue {p : Program} {l : Launch} {e : Env} {s : State} {m : MethodId} {args : Array Value} {below : List Frame} {meth : Method} {c : Code} {A : Nat → Prop} {D : va_G} {cI cZ : ClassId} (h : Cx p s m args meth c A D cI cZ 3 cX1_readValue RX1 wsX1_readValue (some .boolean)) {h0 h0_names h0_values h2 h2_letters h2_tokens h2_starts h2_numbers : Nat} {x1 : Int32} {v2_size : Int32} {v2_length : Int32} {v2_letters : (Nat → Int32)} {v2_tokens : (Nat → Int32)} {v2_starts : (Nat → Int32)} {v2_numbers : (Nat → Int32)} {v0_size : Int32} {v0_names : (Nat → Int32)} {v0_values : (Nat → Int32)} {v2_at : Int32} {v2_token : Int32} {v2_start : Int32} {v2_number : Int32} {o : Int32 × Int32 × (Nat → Int32) × (Nat → Int32) × Int32 × Int32 × Int32 × Int32} (hF : fX1_readValue v2_size v2_length v2_tokens v2_starts v2_numbers x1 v0_size v0_names v0_values v2_at v2_token v2_start v2_number = some o) : V p l e rmX1_readValue s m args below meth c A D 3 (QI D [(h0, .inr (1, [.ref h0_names, .ref h0_values, .int o.2.1])), (h0_names, .inl (cI, 8, .inl o.2.2.1)), (h0_values, .inl (cI, 8, .inl o.2.2.2.1)), (h2, .inr (5, [.ref h2_letters, .ref h2_tokens, .ref h2_starts, .ref h2_numbers, .int v2_size, .int o.2.2.2.2.1, .int v2_length, .int o.2.2.2.2.2.1, .int o.2.2.2.2.2.2.1, .int o.2.2.2.2.2.2.2])), (h2_letters, .inl (cI, 160, .inl v2_letters)), (h2_tokens, .inl (cI, 160, .inl v2_tokens)), (h2_starts, .inl (cI, 160, .inl v2_starts)), (h2_numbers, .inl (cI, 160, .inl v2_numbers))] o.1 A below args s) [(h0, .inr (1, [.ref h0_names, .ref h0_values, .int v0_size])), (h0_names, .inl (cI, 8, .inl v0_names)), (h0_values, .inl (cI, 8, .inl v0_values)), (h2, .inr (5, [.ref h2_letters, .ref h2_tokens, .ref h2_starts, .ref h2_numbers, .int v2_size, .int v2_at, .int v2_length, .int v2_token, .int v2_start, .int v2_number])), (h2_letters, .inl (cI, 160, .inl v2_letters)), (h2_tokens, .inl (cI, 160, .inl v2_tokens)), (h2_starts, .inl (cI, 160, .inl v2_starts)), (h2_numbers, .inl (cI, 160, .inl v2_numbers))] 0 [(0, .ref h0), (1, .int x1), (2, .ref h2)] [] := by
  unfold fX1_readValue at hF
  refine V_aload_n (pc := 0) h 0 dX1_readValue_0 rfl ?_
  refine V_get (pc := 1) h uX1_readValue_inX1 0 2 rfl rfl (by decide) uX1_readValue_f18 rfl rfl dX1_readValue_1 ?_
  refine V_if_lt (pc := 4) h (tgt := 26) dX1_readValue_4 (by decide) hF (fun hF => ?_) (fun hF => ?_)
  · refine V_iconst (pc := 26) h (v := (0 : Int32)) dX1_readValue_26 (by decide) ?_
    have hF := Option.some.inj hF
    subst hF
    exact V_zret (pc := 27) h (Or.inl rfl) dX1_readValue_27
  · refine V_aload_n (pc := 7) h 0 dX1_readValue_7 rfl ?_
    refine V_get (pc := 8) h uX1_readValue_inX1 0 2 rfl rfl (by decide) uX1_readValue_f18 rfl rfl dX1_readValue_8 ?_
    refine V_bipush (pc := 11) h (v := (8 : Int32)) dX1_readValue_11 (by decide) ?_
    refine V_icmp_ge (pc := 13) h (tgt := 26) dX1_readValue_13 (by decide) hF (fun hF => ?_) (fun hF => ?_)
    · refine V_iconst (pc := 26) h (v := (0 : Int32)) dX1_readValue_26 (by decide) ?_
      have hF := Option.some.inj hF
      subst hF
      exact V_zret (pc := 27) h (Or.inl rfl) dX1_readValue_27
    · refine V_aload_n (pc := 16) h 2 dX1_readValue_16 rfl ?_
      refine V_iconst (pc := 17) h (v := (0 : Int32)) dX1_readValue_17 (by decide) ?_
      refine V_bipush (pc := 18) h (v := (99 : Int32)) dX1_readValue_18 (by decide) ?_
      refine V_ciV (pc := 20) h (n := 2) (bytes := cX5_takesNumber) (maxL := 3) (As := [.int (0 : Int32), .int (99 : Int32)]) (rest := []) gX1_readValue_X5_takesNumber (by decide +kernel) rfl rfl rfl rfl ⟨rfl, rfl⟩ ⟨Nat.le_of_ble_eq_true rfl, Nat.le_of_ble_eq_true rfl⟩ [3, 4, 5, 6, 7] rfl (by decide) rfl (fun r20 => [(h0, .inr (1, [.ref h0_names, .ref h0_values, .int v0_size])), (h0_names, .inl (cI, 8, .inl v0_names)), (h0_values, .inl (cI, 8, .inl v0_values)), (h2, .inr (5, [.ref h2_letters, .ref h2_tokens, .ref h2_starts, .ref h2_numbers, .int v2_size, .int r20.2.1, .int v2_length, .int r20.2.2.1, .int r20.2.2.2.1, .int r20.2.2.2.2])), (h2_letters, .inl (cI, 160, .inl v2_letters)), (h2_tokens, .inl (cI, 160, .inl v2_tokens)), (h2_starts, .inl (cI, 160, .inl v2_starts)), (h2_numbers, .inl (cI, 160, .inl v2_numbers))]) (fun _ => rfl) (fun _ => rfl) rfl (Nat.le_of_ble_eq_true rfl) dX1_readValue_20 hF (fun r20 hG => k_X5_takesNumber l D cI cZ h2 h2_letters h2_tokens h2_starts h2_numbers v2_size v2_at v2_length v2_token v2_start v2_number v2_letters v2_tokens v2_starts v2_numbers (0 : Int32) (99 : Int32) hG) (fun r20 hF => ?_)
      refine V_if_ne (pc := 23) h (tgt := 28) dX1_readValue_23 (by decide) hF (fun hF => ?_) (fun hF => ?_)
      · refine V_aload_n (pc := 28) h 0 dX1_readValue_28 rfl ?_
        refine V_get (pc := 29) h uX1_readValue_inX1 0 0 rfl rfl (by decide) uX1_readValue_f11 rfl rfl dX1_readValue_29 ?_
        refine V_aload_n (pc := 32) h 0 dX1_readValue_32 rfl ?_
        refine V_get (pc := 33) h uX1_readValue_inX1 0 2 rfl rfl (by decide) uX1_readValue_f18 rfl rfl dX1_readValue_33 ?_
        refine V_iload_n (pc := 36) h 1 dX1_readValue_36 rfl ?_
        refine V_iast (pc := 37) h 1 rfl [(h0, .inr (1, [.ref h0_names, .ref h0_values, .int v0_size])), (h0_names, .inl (cI, 8, .inl (upd v0_names v0_size.toNatClampNeg x1))), (h0_values, .inl (cI, 8, .inl v0_values)), (h2, .inr (5, [.ref h2_letters, .ref h2_tokens, .ref h2_starts, .ref h2_numbers, .int v2_size, .int r20.2.1, .int v2_length, .int r20.2.2.1, .int r20.2.2.2.1, .int r20.2.2.2.2])), (h2_letters, .inl (cI, 160, .inl v2_letters)), (h2_tokens, .inl (cI, 160, .inl v2_tokens)), (h2_starts, .inl (cI, 160, .inl v2_starts)), (h2_numbers, .inl (cI, 160, .inl v2_numbers))] rfl dX1_readValue_37 hF (fun hF => ?_)
        refine V_aload_n (pc := 38) h 0 dX1_readValue_38 rfl ?_
        refine V_get (pc := 39) h uX1_readValue_inX1 0 1 rfl rfl (by decide) uX1_readValue_f15 rfl rfl dX1_readValue_39 ?_
        refine V_aload_n (pc := 42) h 0 dX1_readValue_42 rfl ?_
        refine V_get (pc := 43) h uX1_readValue_inX1 0 2 rfl rfl (by decide) uX1_readValue_f18 rfl rfl dX1_readValue_43 ?_
        refine V_aload_n (pc := 46) h 2 dX1_readValue_46 rfl ?_
        refine V_get (pc := 47) h uX1_readValue_inX5 3 9 rfl rfl (by decide) uX1_readValue_f42 rfl rfl dX1_readValue_47 ?_
        refine V_iast (pc := 50) h 2 rfl [(h0, .inr (1, [.ref h0_names, .ref h0_values, .int v0_size])), (h0_names, .inl (cI, 8, .inl (upd v0_names v0_size.toNatClampNeg x1))), (h0_values, .inl (cI, 8, .inl (upd v0_values v0_size.toNatClampNeg r20.2.2.2.2))), (h2, .inr (5, [.ref h2_letters, .ref h2_tokens, .ref h2_starts, .ref h2_numbers, .int v2_size, .int r20.2.1, .int v2_length, .int r20.2.2.1, .int r20.2.2.2.1, .int r20.2.2.2.2])), (h2_letters, .inl (cI, 160, .inl v2_letters)), (h2_tokens, .inl (cI, 160, .inl v2_tokens)), (h2_starts, .inl (cI, 160, .inl v2_starts)), (h2_numbers, .inl (cI, 160, .inl v2_numbers))] rfl dX1_readValue_50 hF (fun hF => ?_)
        refine V_aload_n (pc := 51) h 0 dX1_readValue_51 rfl ?_
        refine V_dup (pc := 52) h dX1_readValue_52 rfl ?_
        refine V_get (pc := 53) h uX1_readValue_inX1 0 2 rfl rfl (by decide) uX1_readValue_f18 rfl rfl dX1_readValue_53 ?_
        refine V_iconst (pc := 56) h (v := (1 : Int32)) dX1_readValue_56 (by decide) ?_
        refine V_iadd (pc := 57) h dX1_readValue_57 ?_
        refine V_bnd hF (fun y58 hF => ?_)
        refine V_put (pc := 58) h uX1_readValue_inX1 tyX1 tyX1_ok nmX1 0 2 rfl rfl (by decide) uX1_readValue_f18 rfl rfl (by decide +kernel) (Nat.le_of_ble_eq_true rfl) [(h0, .inr (1, [.ref h0_names, .ref h0_values, .int y58])), (h0_names, .inl (cI, 8, .inl (upd v0_names v0_size.toNatClampNeg x1))), (h0_values, .inl (cI, 8, .inl (upd v0_values v0_size.toNatClampNeg r20.2.2.2.2))), (h2, .inr (5, [.ref h2_letters, .ref h2_tokens, .ref h2_starts, .ref h2_numbers, .int v2_size, .int r20.2.1, .int v2_length, .int r20.2.2.1, .int r20.2.2.2.1, .int r20.2.2.2.2])), (h2_letters, .inl (cI, 160, .inl v2_letters)), (h2_tokens, .inl (cI, 160, .inl v2_tokens)), (h2_starts, .inl (cI, 160, .inl v2_starts)), (h2_numbers, .inl (cI, 160, .inl v2_numbers))] rfl dX1_readValue_58 ?_
        refine V_aload_n (pc := 61) h 2 dX1_readValue_61 rfl ?_
        refine V_bipush (pc := 62) h (v := (59 : Int32)) dX1_readValue_62 (by decide) ?_
        refine V_ciV (pc := 64) h (n := 1) (bytes := cX5_takes) (maxL := 2) (As := [.int (59 : Int32)]) (rest := []) gX1_readValue_X5_takes (by decide +kernel) rfl rfl rfl rfl ⟨rfl, rfl⟩ ⟨Nat.le_of_ble_eq_true rfl, Nat.le_of_ble_eq_true rfl⟩ [3, 4, 5, 6, 7] rfl (by decide) rfl (fun r64 => [(h0, .inr (1, [.ref h0_names, .ref h0_values, .int y58])), (h0_names, .inl (cI, 8, .inl (upd v0_names v0_size.toNatClampNeg x1))), (h0_values, .inl (cI, 8, .inl (upd v0_values v0_size.toNatClampNeg r20.2.2.2.2))), (h2, .inr (5, [.ref h2_letters, .ref h2_tokens, .ref h2_starts, .ref h2_numbers, .int v2_size, .int r64.2.1, .int v2_length, .int r64.2.2.1, .int r64.2.2.2.1, .int r64.2.2.2.2])), (h2_letters, .inl (cI, 160, .inl v2_letters)), (h2_tokens, .inl (cI, 160, .inl v2_tokens)), (h2_starts, .inl (cI, 160, .inl v2_starts)), (h2_numbers, .inl (cI, 160, .inl v2_numbers))]) (fun _ => rfl) (fun _ => rfl) rfl (Nat.le_of_ble_eq_true rfl) dX1_readValue_64 hF (fun r64 hG => k_X5_takes l D cI cZ h2 h2_letters h2_tokens h2_starts h2_numbers v2_size r20.2.1 v2_length r20.2.2.1 r20.2.2.2.1 r20.2.2.2.2 v2_letters v2_tokens v2_starts v2_numbers (59 : Int32) hG) (fun r64 hF => ?_)
        obtain ⟨hz, hF⟩ := gz_some hF
        have hF := Option.some.inj hF
        subst hF
        exact V_zret (pc := 67) h hz dX1_readValue_67
      · refine V_iconst (pc := 26) h (v := (0 : Int32)) dX1_readValue_26 (by decide) ?_
        have hF := Option.some.inj hF
        subst hF
        exact V_zret (pc := 27) h (Or.inl rfl) dX1_readValue_27
set_option maxRecDepth 100000 in
theorem k_X1_readValue (l : Launch) (D : va_G) (cI cZ : ClassId) (h0 h0_names h0_values h2 h2_letters h2_tokens h2_starts h2_numbers : Nat) (v0_size : Int32) (v0_names : (Nat → Int32)) (v0_values : (Nat → Int32)) (v2_size : Int32) (v2_at : Int32) (v2_length : Int32) (v2_token : Int32) (v2_start : Int32) (v2_number : Int32) (v2_letters : (Nat → Int32)) (v2_tokens : (Nat → Int32)) (v2_starts : (Nat → Int32)) (v2_numbers : (Nat → Int32)) (x1 : Int32) {o : Int32 × Int32 × (Nat → Int32) × (Nat → Int32) × Int32 × Int32 × Int32 × Int32} (hF : fX1_readValue v2_size v2_length v2_tokens v2_starts v2_numbers x1 v0_size v0_names v0_values v2_at v2_token v2_start v2_number = some o) : CI l yX1_readValue wsX1_readValue rmX1_readValue D cI cZ [.ref h0, .int x1, .ref h2] [(h0, .inr (1, [.ref h0_names, .ref h0_values, .int v0_size])), (h0_names, .inl (cI, 8, .inl v0_names)), (h0_values, .inl (cI, 8, .inl v0_values)), (h2, .inr (5, [.ref h2_letters, .ref h2_tokens, .ref h2_starts, .ref h2_numbers, .int v2_size, .int v2_at, .int v2_length, .int v2_token, .int v2_start, .int v2_number])), (h2_letters, .inl (cI, 160, .inl v2_letters)), (h2_tokens, .inl (cI, 160, .inl v2_tokens)), (h2_starts, .inl (cI, 160, .inl v2_starts)), (h2_numbers, .inl (cI, 160, .inl v2_numbers))] [(h0, .inr (1, [.ref h0_names, .ref h0_values, .int o.2.1])), (h0_names, .inl (cI, 8, .inl o.2.2.1)), (h0_values, .inl (cI, 8, .inl o.2.2.2.1)), (h2, .inr (5, [.ref h2_letters, .ref h2_tokens, .ref h2_starts, .ref h2_numbers, .int v2_size, .int o.2.2.2.2.1, .int v2_length, .int o.2.2.2.2.2.1, .int o.2.2.2.2.2.2.1, .int o.2.2.2.2.2.2.2])), (h2_letters, .inl (cI, 160, .inl v2_letters)), (h2_tokens, .inl (cI, 160, .inl v2_tokens)), (h2_starts, .inl (cI, 160, .inl v2_starts)), (h2_numbers, .inl (cI, 160, .inl v2_numbers))] o.1 :=
  CI_of (cc := cX1_readValue) (nL := 3) (ret := (some .boolean)) (by decide) rfl (Nat.le_of_ble_eq_true rfl) rfl (fun p e s m args below meth c A h => tfX1_readValue h hF)
/-! X1_readOrder -/
abbrev rmX1_readOrder : Room := { frames := 3, cells := 0, slots := 0, locals := 66 }
theorem uX1_readOrder_inX5 : ∀ w ∈ wsX50, w ∈ wsX1_readOrder := by decide +kernel
theorem uX1_readOrder_f42 : Cond.fieldLink RX1 42 "LeafAsks$Text" "number" "I" ∈ wsX1_readOrder := by decide +kernel
theorem uX1_readOrder_f49 : Cond.fieldLink RX1 49 "LeafAsks$Text" "token" "I" ∈ wsX1_readOrder := by decide +kernel
noncomputable def fX1_readOrder_b5 (v1_size : Int32) (v1_length : Int32) (v1_tokens : (Nat → Int32)) (v1_starts : (Nat → Int32)) (v1_numbers : (Nat → Int32)) (k5 : Int32 → (Nat → Int32) → (Nat → Int32) → Int32 → Int32 → Int32 → Int32 → Int32 → Int32 → Option (Int32 × Int32 × (Nat → Int32) × (Nat → Int32) × Int32 × Int32 × Int32 × Int32)) (v0_size : Int32) (v0_names : (Nat → Int32)) (v0_values : (Nat → Int32)) (v1_at : Int32) (v1_token : Int32) (v1_start : Int32) (v1_number : Int32) (x2 : Int32) (x3 : Int32) : Option (Int32 × Int32 × (Nat → Int32) × (Nat → Int32) × Int32 × Int32 × Int32 × Int32) :=
  if x3 < (0 : Int32) then some (((0 : Int32), v0_size, v0_names, v0_values, v1_at, v1_token, v1_start, v1_number)) else bd (fX5_isNumber v1_token v1_number (0 : Int32) (9 : Int32)) (fun r13 => if r13 = (0 : Int32) then some (((0 : Int32), v0_size, v0_names, v0_values, v1_at, v1_token, v1_start, v1_number)) else bnd (x2 ||| ((v1_number + (1 : Int32)) <<< (x3 &&& 31))) (fun x2_31 => bd (fX5_takes v1_size v1_length v1_tokens v1_starts v1_numbers (61 : Int32) v1_at v1_token v1_start v1_number) (fun r35 => if r35.1 = (0 : Int32) then if r35.2.2.1 = (46 : Int32) then if x3 = (0 : Int32) then some (((0 : Int32), v0_size, v0_names, v0_values, r35.2.1, r35.2.2.1, r35.2.2.2.1, r35.2.2.2.2)) else bd (fX5_advance v1_size v1_length v1_tokens v1_starts v1_numbers r35.2.1 r35.2.2.1 r35.2.2.2.1 r35.2.2.2.2) (fun r64 => bnd (x3 + (-4 : Int32)) (fun x3_67 => k5 v0_size v0_names v0_values r64.1 r64.2.1 r64.2.2.1 r64.2.2.2 x2_31 x3_67)) else some (((0 : Int32), v0_size, v0_names, v0_values, r35.2.1, r35.2.2.1, r35.2.2.2.1, r35.2.2.2.2)) else bd (fX1_readValue v1_size v1_length v1_tokens v1_starts v1_numbers x2_31 v0_size v0_names v0_values r35.2.1 r35.2.2.1 r35.2.2.2.1 r35.2.2.2.2) (fun r44 => gz r44.1 (some (r44.1, r44.2.1, r44.2.2.1, r44.2.2.2.1, r44.2.2.2.2.1, r44.2.2.2.2.2.1, r44.2.2.2.2.2.2.1, r44.2.2.2.2.2.2.2))))))
set_option maxRecDepth 100000 in
set_option maxHeartbeats 4000000 in
theorem tfX1_readOrder_b5 {p : Program} {l : Launch} {e : Env} {s : State} {m : MethodId} {args : Array Value} {below : List Frame} {meth : Method} {c : Code} {A : Nat → Prop} {D : va_G} {cI cZ : ClassId} (h : Cx p s m args meth c A D cI cZ 4 cX1_readOrder RX1 wsX1_readOrder (some .boolean)) {h0 h0_names h0_values h1 h1_letters h1_tokens h1_starts h1_numbers : Nat} {v1_size : Int32} {v1_length : Int32} {v1_letters : (Nat → Int32)} {v1_tokens : (Nat → Int32)} {v1_starts : (Nat → Int32)} {v1_numbers : (Nat → Int32)} {k5 : Int32 → (Nat → Int32) → (Nat → Int32) → Int32 → Int32 → Int32 → Int32 → Int32 → Int32 → Option (Int32 × Int32 × (Nat → Int32) × (Nat → Int32) × Int32 × Int32 × Int32 × Int32)} {v0_size : Int32} {v0_names : (Nat → Int32)} {v0_values : (Nat → Int32)} {v1_at : Int32} {v1_token : Int32} {v1_start : Int32} {v1_number : Int32} {x2 : Int32} {x3 : Int32} {o : Int32 × Int32 × (Nat → Int32) × (Nat → Int32) × Int32 × Int32 × Int32 × Int32} (hk5 : ∀ (v0_size : Int32) (v0_names : (Nat → Int32)) (v0_values : (Nat → Int32)) (v1_at : Int32) (v1_token : Int32) (v1_start : Int32) (v1_number : Int32) (x2 : Int32) (x3 : Int32), k5 v0_size v0_names v0_values v1_at v1_token v1_start v1_number x2 x3 = some o → V p l e rmX1_readOrder s m args below meth c A D 4 (QI D [(h0, .inr (1, [.ref h0_names, .ref h0_values, .int o.2.1])), (h0_names, .inl (cI, 8, .inl o.2.2.1)), (h0_values, .inl (cI, 8, .inl o.2.2.2.1)), (h1, .inr (5, [.ref h1_letters, .ref h1_tokens, .ref h1_starts, .ref h1_numbers, .int v1_size, .int o.2.2.2.2.1, .int v1_length, .int o.2.2.2.2.2.1, .int o.2.2.2.2.2.2.1, .int o.2.2.2.2.2.2.2])), (h1_letters, .inl (cI, 160, .inl v1_letters)), (h1_tokens, .inl (cI, 160, .inl v1_tokens)), (h1_starts, .inl (cI, 160, .inl v1_starts)), (h1_numbers, .inl (cI, 160, .inl v1_numbers))] o.1 A below args s) [(h0, .inr (1, [.ref h0_names, .ref h0_values, .int v0_size])), (h0_names, .inl (cI, 8, .inl v0_names)), (h0_values, .inl (cI, 8, .inl v0_values)), (h1, .inr (5, [.ref h1_letters, .ref h1_tokens, .ref h1_starts, .ref h1_numbers, .int v1_size, .int v1_at, .int v1_length, .int v1_token, .int v1_start, .int v1_number])), (h1_letters, .inl (cI, 160, .inl v1_letters)), (h1_tokens, .inl (cI, 160, .inl v1_tokens)), (h1_starts, .inl (cI, 160, .inl v1_starts)), (h1_numbers, .inl (cI, 160, .inl v1_numbers))] 5 [(0, .ref h0), (1, .ref h1), (2, .int x2), (3, .int x3)] []) (hF : fX1_readOrder_b5 v1_size v1_length v1_tokens v1_starts v1_numbers k5 v0_size v0_names v0_values v1_at v1_token v1_start v1_number x2 x3 = some o) : V p l e rmX1_readOrder s m args below meth c A D 4 (QI D [(h0, .inr (1, [.ref h0_names, .ref h0_values, .int o.2.1])), (h0_names, .inl (cI, 8, .inl o.2.2.1)), (h0_values, .inl (cI, 8, .inl o.2.2.2.1)), (h1, .inr (5, [.ref h1_letters, .ref h1_tokens, .ref h1_starts, .ref h1_numbers, .int v1_size, .int o.2.2.2.2.1, .int v1_length, .int o.2.2.2.2.2.1, .int o.2.2.2.2.2.2.1, .int o.2.2.2.2.2.2.2])), (h1_letters, .inl (cI, 160, .inl v1_letters)), (h1_tokens, .inl (cI, 160, .inl v1_tokens)), (h1_starts, .inl (cI, 160, .inl v1_starts)), (h1_numbers, .inl (cI, 160, .inl v1_numbers))] o.1 A below args s) [(h0, .inr (1, [.ref h0_names, .ref h0_values, .int v0_size])), (h0_names, .inl (cI, 8, .inl v0_names)), (h0_values, .inl (cI, 8, .inl v0_values)), (h1, .inr (5, [.ref h1_letters, .ref h1_tokens, .ref h1_starts, .ref h1_numbers, .int v1_size, .int v1_at, .int v1_length, .int v1_token, .int v1_start, .int v1_number])), (h1_letters, .inl (cI, 160, .inl v1_letters)), (h1_tokens, .inl (cI, 160, .inl v1_tokens)), (h1_starts, .inl (cI, 160, .inl v1_starts)), (h1_numbers, .inl (cI, 160, .inl v1_numbers))] 5 [(0, .ref h0), (1, .ref h1), (2, .int x2), (3, .int x3)] [] := by
  unfold fX1_readOrder_b5 at hF
  refine V_iload_n (pc := 5) h 3 dX1_readOrder_5 rfl ?_
  refine V_if_lt (pc := 6) h (tgt := 73) dX1_readOrder_6 (by decide) hF (fun hF => ?_) (fun hF => ?_)
  · refine V_iconst (pc := 73) h (v := (0 : Int32)) dX1_readOrder_73 (by decide) ?_
    have hF := Option.some.inj hF
    subst hF
    exact V_zret (pc := 74) h (Or.inl rfl) dX1_readOrder_74
  · refine V_aload_n (pc := 9) h 1 dX1_readOrder_9 rfl ?_
    refine V_iconst (pc := 10) h (v := (0 : Int32)) dX1_readOrder_10 (by decide) ?_
    refine V_bipush (pc := 11) h (v := (9 : Int32)) dX1_readOrder_11 (by decide) ?_
    refine V_ciV (pc := 13) h (n := 2) (bytes := cX5_isNumber) (maxL := 3) (As := [.int (0 : Int32), .int (9 : Int32)]) (rest := []) gX1_readOrder_X5_isNumber (by decide +kernel) rfl rfl rfl rfl ⟨rfl, rfl⟩ ⟨Nat.le_of_ble_eq_true rfl, Nat.le_of_ble_eq_true rfl⟩ [3, 4, 5, 6, 7] rfl (by decide) rfl (fun r13 => [(h0, .inr (1, [.ref h0_names, .ref h0_values, .int v0_size])), (h0_names, .inl (cI, 8, .inl v0_names)), (h0_values, .inl (cI, 8, .inl v0_values)), (h1, .inr (5, [.ref h1_letters, .ref h1_tokens, .ref h1_starts, .ref h1_numbers, .int v1_size, .int v1_at, .int v1_length, .int v1_token, .int v1_start, .int v1_number])), (h1_letters, .inl (cI, 160, .inl v1_letters)), (h1_tokens, .inl (cI, 160, .inl v1_tokens)), (h1_starts, .inl (cI, 160, .inl v1_starts)), (h1_numbers, .inl (cI, 160, .inl v1_numbers))]) (fun _ => rfl) (fun _ => rfl) rfl (Nat.le_of_ble_eq_true rfl) dX1_readOrder_13 hF (fun r13 hG => k_X5_isNumber l D cI cZ h1 h1_letters h1_tokens h1_starts h1_numbers v1_size v1_at v1_length v1_token v1_start v1_number v1_letters v1_tokens v1_starts v1_numbers (0 : Int32) (9 : Int32) hG) (fun r13 hF => ?_)
    refine V_if_ne (pc := 16) h (tgt := 21) dX1_readOrder_16 (by decide) hF (fun hF => ?_) (fun hF => ?_)
    · refine V_iload_n (pc := 21) h 2 dX1_readOrder_21 rfl ?_
      refine V_aload_n (pc := 22) h 1 dX1_readOrder_22 rfl ?_
      refine V_get (pc := 23) h uX1_readOrder_inX5 3 9 rfl rfl (by decide) uX1_readOrder_f42 rfl rfl dX1_readOrder_23 ?_
      refine V_iconst (pc := 26) h (v := (1 : Int32)) dX1_readOrder_26 (by decide) ?_
      refine V_iadd (pc := 27) h dX1_readOrder_27 ?_
      refine V_iload_n (pc := 28) h 3 dX1_readOrder_28 rfl ?_
      refine V_ishl (pc := 29) h dX1_readOrder_29 ?_
      refine V_ior (pc := 30) h dX1_readOrder_30 ?_
      refine V_bnd hF (fun x2_31 hF => ?_)
      refine V_istore_n (pc := 31) h [(2, .int x2_31), (0, .ref h0), (1, .ref h1), (3, .int x3)] dX1_readOrder_31 (by decide) rfl ?_
      refine V_aload_n (pc := 32) h 2 dX1_readOrder_32 rfl ?_
      refine V_bipush (pc := 33) h (v := (61 : Int32)) dX1_readOrder_33 (by decide) ?_
      refine V_ciV (pc := 35) h (n := 1) (bytes := cX5_takes) (maxL := 2) (As := [.int (61 : Int32)]) (rest := []) gX1_readOrder_X5_takes (by decide +kernel) rfl rfl rfl rfl ⟨rfl, rfl⟩ ⟨Nat.le_of_ble_eq_true rfl, Nat.le_of_ble_eq_true rfl⟩ [3, 4, 5, 6, 7] rfl (by decide) rfl (fun r35 => [(h0, .inr (1, [.ref h0_names, .ref h0_values, .int v0_size])), (h0_names, .inl (cI, 8, .inl v0_names)), (h0_values, .inl (cI, 8, .inl v0_values)), (h1, .inr (5, [.ref h1_letters, .ref h1_tokens, .ref h1_starts, .ref h1_numbers, .int v1_size, .int r35.2.1, .int v1_length, .int r35.2.2.1, .int r35.2.2.2.1, .int r35.2.2.2.2])), (h1_letters, .inl (cI, 160, .inl v1_letters)), (h1_tokens, .inl (cI, 160, .inl v1_tokens)), (h1_starts, .inl (cI, 160, .inl v1_starts)), (h1_numbers, .inl (cI, 160, .inl v1_numbers))]) (fun _ => rfl) (fun _ => rfl) rfl (Nat.le_of_ble_eq_true rfl) dX1_readOrder_35 hF (fun r35 hG => k_X5_takes l D cI cZ h1 h1_letters h1_tokens h1_starts h1_numbers v1_size v1_at v1_length v1_token v1_start v1_number v1_letters v1_tokens v1_starts v1_numbers (61 : Int32) hG) (fun r35 hF => ?_)
      refine V_if_eq (pc := 38) h (tgt := 48) dX1_readOrder_38 (by decide) hF (fun hF => ?_) (fun hF => ?_)
      · refine V_aload_n (pc := 48) h 2 dX1_readOrder_48 rfl ?_
        refine V_get (pc := 49) h uX1_readOrder_inX5 3 7 rfl rfl (by decide) uX1_readOrder_f49 rfl rfl dX1_readOrder_49 ?_
        refine V_bipush (pc := 52) h (v := (46 : Int32)) dX1_readOrder_52 (by decide) ?_
        refine V_icmp_ne (pc := 54) h (tgt := 61) dX1_readOrder_54 (by decide) hF (fun hF => ?_) (fun hF => ?_)
        · refine V_iconst (pc := 61) h (v := (0 : Int32)) dX1_readOrder_61 (by decide) ?_
          have hF := Option.some.inj hF
          subst hF
          exact V_zret (pc := 62) h (Or.inl rfl) dX1_readOrder_62
        · refine V_iload_n (pc := 57) h 3 dX1_readOrder_57 rfl ?_
          refine V_if_ne (pc := 58) h (tgt := 63) dX1_readOrder_58 (by decide) hF (fun hF => ?_) (fun hF => ?_)
          · refine V_aload_n (pc := 63) h 2 dX1_readOrder_63 rfl ?_
            refine V_cvV (pc := 64) h (n := 0) (bytes := cX5_advance) (maxL := 1) (As := []) (rest := []) gX1_readOrder_X5_advance (by decide +kernel) rfl rfl rfl rfl ⟨rfl, rfl⟩ ⟨Nat.le_of_ble_eq_true rfl, Nat.le_of_ble_eq_true rfl⟩ [3, 4, 5, 6, 7] rfl (by decide) rfl (fun r64 => [(h0, .inr (1, [.ref h0_names, .ref h0_values, .int v0_size])), (h0_names, .inl (cI, 8, .inl v0_names)), (h0_values, .inl (cI, 8, .inl v0_values)), (h1, .inr (5, [.ref h1_letters, .ref h1_tokens, .ref h1_starts, .ref h1_numbers, .int v1_size, .int r64.1, .int v1_length, .int r64.2.1, .int r64.2.2.1, .int r64.2.2.2])), (h1_letters, .inl (cI, 160, .inl v1_letters)), (h1_tokens, .inl (cI, 160, .inl v1_tokens)), (h1_starts, .inl (cI, 160, .inl v1_starts)), (h1_numbers, .inl (cI, 160, .inl v1_numbers))]) (fun _ => rfl) (fun _ => rfl) rfl (Nat.le_of_ble_eq_true rfl) dX1_readOrder_64 hF (fun r64 hG => k_X5_advance l D cI cZ h1 h1_letters h1_tokens h1_starts h1_numbers v1_size r35.2.1 v1_length r35.2.2.1 r35.2.2.2.1 r35.2.2.2.2 v1_letters v1_tokens v1_starts v1_numbers hG) (fun r64 hF => ?_)
            refine V_iinc (pc := 67) h 3 (fun x3_67 => [(3, .int x3_67), (2, .int x2_31), (0, .ref h0), (1, .ref h1)]) dX1_readOrder_67 rfl rfl (by decide) (fun _ => rfl) hF (fun x3_67 hF => ?_)
            refine V_goto (pc := 70) h (tgt := 5) dX1_readOrder_70 (by decide) ?_
            refine V_lv [2, 3, 1, 0] [(0, .ref h0), (1, .ref h1), (2, .int x2_31), (3, .int x3_67)] rfl ?_
            exact hk5 _ _ _ _ _ _ _ _ _ hF
          · refine V_iconst (pc := 61) h (v := (0 : Int32)) dX1_readOrder_61 (by decide) ?_
            have hF := Option.some.inj hF
            subst hF
            exact V_zret (pc := 62) h (Or.inl rfl) dX1_readOrder_62
      · refine V_aload_n (pc := 41) h 1 dX1_readOrder_41 rfl ?_
        refine V_iload_n (pc := 42) h 0 dX1_readOrder_42 rfl ?_
        refine V_aload_n (pc := 43) h 2 dX1_readOrder_43 rfl ?_
        refine V_ciVA (pc := 44) h (n := 2) (bytes := cX1_readValue) (maxL := 3) (As := [.int x2_31, .ref h1]) (rest := []) gX1_readOrder_X1_readValue (by decide +kernel) rfl rfl rfl rfl ⟨rfl, rfl⟩ ⟨Nat.le_of_ble_eq_true rfl, Nat.le_of_ble_eq_true rfl⟩ rfl rfl (Nat.le_of_ble_eq_true rfl) dX1_readOrder_44 hF (fun r44 hG => k_X1_readValue l D cI cZ h0 h0_names h0_values h1 h1_letters h1_tokens h1_starts h1_numbers v0_size v0_names v0_values v1_size r35.2.1 v1_length r35.2.2.1 r35.2.2.2.1 r35.2.2.2.2 v1_letters v1_tokens v1_starts v1_numbers x2_31 hG) (fun r44 hF => ?_)
        obtain ⟨hz, hF⟩ := gz_some hF
        have hF := Option.some.inj hF
        subst hF
        exact V_zret (pc := 47) h hz dX1_readOrder_47
    · refine V_iconst (pc := 19) h (v := (0 : Int32)) dX1_readOrder_19 (by decide) ?_
      have hF := Option.some.inj hF
      subst hF
      exact V_zret (pc := 20) h (Or.inl rfl) dX1_readOrder_20
noncomputable def fX1_readOrder_l5 (v1_size : Int32) (v1_length : Int32) (v1_tokens : (Nat → Int32)) (v1_starts : (Nat → Int32)) (v1_numbers : (Nat → Int32)) (n : Nat) : Int32 → (Nat → Int32) → (Nat → Int32) → Int32 → Int32 → Int32 → Int32 → Int32 → Int32 → Option (Int32 × Int32 × (Nat → Int32) × (Nat → Int32) × Int32 × Int32 × Int32 × Int32) :=
  Nat.rec (motive := fun _ => Int32 → (Nat → Int32) → (Nat → Int32) → Int32 → Int32 → Int32 → Int32 → Int32 → Int32 → Option (Int32 × Int32 × (Nat → Int32) × (Nat → Int32) × Int32 × Int32 × Int32 × Int32)) (fun _ _ _ _ _ _ _ _ _ => none) (fun _ ih => fX1_readOrder_b5 v1_size v1_length v1_tokens v1_starts v1_numbers ih) n
theorem fX1_readOrder_l5_s (v1_size : Int32) (v1_length : Int32) (v1_tokens : (Nat → Int32)) (v1_starts : (Nat → Int32)) (v1_numbers : (Nat → Int32)) (n : Nat) (v0_size : Int32) (v0_names : (Nat → Int32)) (v0_values : (Nat → Int32)) (v1_at : Int32) (v1_token : Int32) (v1_start : Int32) (v1_number : Int32) (x2 : Int32) (x3 : Int32) : fX1_readOrder_l5 v1_size v1_length v1_tokens v1_starts v1_numbers (n + 1) v0_size v0_names v0_values v1_at v1_token v1_start v1_number x2 x3 = fX1_readOrder_b5 v1_size v1_length v1_tokens v1_starts v1_numbers (fX1_readOrder_l5 v1_size v1_length v1_tokens v1_starts v1_numbers n) v0_size v0_names v0_values v1_at v1_token v1_start v1_number x2 x3 := rfl
set_option maxRecDepth 100000 in
set_option maxHeartbeats 4000000 in
theorem tfX1_readOrder_l5 {p : Program} {l : Launch} {e : Env} {s : State} {m : MethodId} {args : Array Value} {below : List Frame} {meth : Method} {c : Code} {A : Nat → Prop} {D : va_G} {cI cZ : ClassId} (h : Cx p s m args meth c A D cI cZ 4 cX1_readOrder RX1 wsX1_readOrder (some .boolean)) {h0 h0_names h0_values h1 h1_letters h1_tokens h1_starts h1_numbers : Nat} {v1_size : Int32} {v1_length : Int32} {v1_letters : (Nat → Int32)} {v1_tokens : (Nat → Int32)} {v1_starts : (Nat → Int32)} {v1_numbers : (Nat → Int32)} {o : Int32 × Int32 × (Nat → Int32) × (Nat → Int32) × Int32 × Int32 × Int32 × Int32} (n : Nat) : ∀ (v0_size : Int32) (v0_names : (Nat → Int32)) (v0_values : (Nat → Int32)) (v1_at : Int32) (v1_token : Int32) (v1_start : Int32) (v1_number : Int32) (x2 : Int32) (x3 : Int32) (hF : fX1_readOrder_l5 v1_size v1_length v1_tokens v1_starts v1_numbers n v0_size v0_names v0_values v1_at v1_token v1_start v1_number x2 x3 = some o), V p l e rmX1_readOrder s m args below meth c A D 4 (QI D [(h0, .inr (1, [.ref h0_names, .ref h0_values, .int o.2.1])), (h0_names, .inl (cI, 8, .inl o.2.2.1)), (h0_values, .inl (cI, 8, .inl o.2.2.2.1)), (h1, .inr (5, [.ref h1_letters, .ref h1_tokens, .ref h1_starts, .ref h1_numbers, .int v1_size, .int o.2.2.2.2.1, .int v1_length, .int o.2.2.2.2.2.1, .int o.2.2.2.2.2.2.1, .int o.2.2.2.2.2.2.2])), (h1_letters, .inl (cI, 160, .inl v1_letters)), (h1_tokens, .inl (cI, 160, .inl v1_tokens)), (h1_starts, .inl (cI, 160, .inl v1_starts)), (h1_numbers, .inl (cI, 160, .inl v1_numbers))] o.1 A below args s) [(h0, .inr (1, [.ref h0_names, .ref h0_values, .int v0_size])), (h0_names, .inl (cI, 8, .inl v0_names)), (h0_values, .inl (cI, 8, .inl v0_values)), (h1, .inr (5, [.ref h1_letters, .ref h1_tokens, .ref h1_starts, .ref h1_numbers, .int v1_size, .int v1_at, .int v1_length, .int v1_token, .int v1_start, .int v1_number])), (h1_letters, .inl (cI, 160, .inl v1_letters)), (h1_tokens, .inl (cI, 160, .inl v1_tokens)), (h1_starts, .inl (cI, 160, .inl v1_starts)), (h1_numbers, .inl (cI, 160, .inl v1_numbers))] 5 [(0, .ref h0), (1, .ref h1), (2, .int x2), (3, .int x3)] [] := by
  induction n with
  | zero => intro v0_size v0_names v0_values v1_at v1_token v1_start v1_number x2 x3 hF; exact nomatch (show (none : Option (Int32 × Int32 × (Nat → Int32) × (Nat → Int32) × Int32 × Int32 × Int32 × Int32)) = some o from hF)
  | succ n ih => intro v0_size v0_names v0_values v1_at v1_token v1_start v1_number x2 x3 hF; exact tfX1_readOrder_b5 (k5 := fX1_readOrder_l5 v1_size v1_length v1_tokens v1_starts v1_numbers n) h ih hF
noncomputable def fX1_readOrder (v1_size : Int32) (v1_length : Int32) (v1_tokens : (Nat → Int32)) (v1_starts : (Nat → Int32)) (v1_numbers : (Nat → Int32)) (v0_size : Int32) (v0_names : (Nat → Int32)) (v0_values : (Nat → Int32)) (v1_at : Int32) (v1_token : Int32) (v1_start : Int32) (v1_number : Int32) : Option (Int32 × Int32 × (Nat → Int32) × (Nat → Int32) × Int32 × Int32 × Int32 × Int32) :=
  fX1_readOrder_l5 v1_size v1_length v1_tokens v1_starts v1_numbers 1000 v0_size v0_names v0_values v1_at v1_token v1_start v1_number (0 : Int32) (12 : Int32)
set_option maxRecDepth 100000 in
set_option maxHeartbeats 4000000 in
theorem tfX1_readOrder {p : Program} {l : Launch} {e : Env} {s : State} {m : MethodId} {args : Array Value} {below : List Frame} {meth : Method} {c : Code} {A : Nat → Prop} {D : va_G} {cI cZ : ClassId} (h : Cx p s m args meth c A D cI cZ 4 cX1_readOrder RX1 wsX1_readOrder (some .boolean)) {h0 h0_names h0_values h1 h1_letters h1_tokens h1_starts h1_numbers : Nat} {v1_size : Int32} {v1_length : Int32} {v1_letters : (Nat → Int32)} {v1_tokens : (Nat → Int32)} {v1_starts : (Nat → Int32)} {v1_numbers : (Nat → Int32)} {v0_size : Int32} {v0_names : (Nat → Int32)} {v0_values : (Nat → Int32)} {v1_at : Int32} {v1_token : Int32} {v1_start : Int32} {v1_number : Int32} {o : Int32 × Int32 × (Nat → Int32) × (Nat → Int32) × Int32 × Int32 × Int32 × Int32} (hF : fX1_readOrder v1_size v1_length v1_tokens v1_starts v1_numbers v0_size v0_names v0_values v1_at v1_token v1_start v1_number = some o) : V p l e rmX1_readOrder s m args below meth c A D 4 (QI D [(h0, .inr (1, [.ref h0_names, .ref h0_values, .int o.2.1])), (h0_names, .inl (cI, 8, .inl o.2.2.1)), (h0_values, .inl (cI, 8, .inl o.2.2.2.1)), (h1, .inr (5, [.ref h1_letters, .ref h1_tokens, .ref h1_starts, .ref h1_numbers, .int v1_size, .int o.2.2.2.2.1, .int v1_length, .int o.2.2.2.2.2.1, .int o.2.2.2.2.2.2.1, .int o.2.2.2.2.2.2.2])), (h1_letters, .inl (cI, 160, .inl v1_letters)), (h1_tokens, .inl (cI, 160, .inl v1_tokens)), (h1_starts, .inl (cI, 160, .inl v1_starts)), (h1_numbers, .inl (cI, 160, .inl v1_numbers))] o.1 A below args s) [(h0, .inr (1, [.ref h0_names, .ref h0_values, .int v0_size])), (h0_names, .inl (cI, 8, .inl v0_names)), (h0_values, .inl (cI, 8, .inl v0_values)), (h1, .inr (5, [.ref h1_letters, .ref h1_tokens, .ref h1_starts, .ref h1_numbers, .int v1_size, .int v1_at, .int v1_length, .int v1_token, .int v1_start, .int v1_number])), (h1_letters, .inl (cI, 160, .inl v1_letters)), (h1_tokens, .inl (cI, 160, .inl v1_tokens)), (h1_starts, .inl (cI, 160, .inl v1_starts)), (h1_numbers, .inl (cI, 160, .inl v1_numbers))] 0 [(0, .ref h0), (1, .ref h1)] [] := by
  unfold fX1_readOrder at hF
  refine V_iconst (pc := 0) h (v := (0 : Int32)) dX1_readOrder_0 (by decide) ?_
  refine V_istore_n (pc := 1) h [(2, .int (0 : Int32)), (0, .ref h0), (1, .ref h1)] dX1_readOrder_1 (by decide) rfl ?_
  refine V_bipush (pc := 2) h (v := (12 : Int32)) dX1_readOrder_2 (by decide) ?_
  refine V_istore_n (pc := 4) h [(3, .int (12 : Int32)), (2, .int (0 : Int32)), (0, .ref h0), (1, .ref h1)] dX1_readOrder_4 (by decide) rfl ?_
  refine V_lv [2, 3, 1, 0] [(0, .ref h0), (1, .ref h1), (2, .int (0 : Int32)), (3, .int (12 : Int32))] rfl ?_
  exact tfX1_readOrder_l5 h 1000 _ _ _ _ _ _ _ _ _ hF
set_option maxRecDepth 100000 in
theorem k_X1_readOrder (l : Launch) (D : va_G) (cI cZ : ClassId) (h0 h0_names h0_values h1 h1_letters h1_tokens h1_starts h1_numbers : Nat) (v0_size : Int32) (v0_names : (Nat → Int32)) (v0_values : (Nat → Int32)) (v1_size : Int32) (v1_at : Int32) (v1_length : Int32) (v1_token : Int32) (v1_start : Int32) (v1_number : Int32) (v1_letters : (Nat → Int32)) (v1_tokens : (Nat → Int32)) (v1_starts : (Nat → Int32)) (v1_numbers : (Nat → Int32)) {o : Int32 × Int32 × (Nat → Int32) × (Nat → Int32) × Int32 × Int32 × Int32 × Int32} (hF : fX1_readOrder v1_size v1_length v1_tokens v1_starts v1_numbers v0_size v0_names v0_values v1_at v1_token v1_start v1_number = some o) : CI l yX1_readOrder wsX1_readOrder rmX1_readOrder D cI cZ [.ref h0, .ref h1] [(h0, .inr (1, [.ref h0_names, .ref h0_values, .int v0_size])), (h0_names, .inl (cI, 8, .inl v0_names)), (h0_values, .inl (cI, 8, .inl v0_values)), (h1, .inr (5, [.ref h1_letters, .ref h1_tokens, .ref h1_starts, .ref h1_numbers, .int v1_size, .int v1_at, .int v1_length, .int v1_token, .int v1_start, .int v1_number])), (h1_letters, .inl (cI, 160, .inl v1_letters)), (h1_tokens, .inl (cI, 160, .inl v1_tokens)), (h1_starts, .inl (cI, 160, .inl v1_starts)), (h1_numbers, .inl (cI, 160, .inl v1_numbers))] [(h0, .inr (1, [.ref h0_names, .ref h0_values, .int o.2.1])), (h0_names, .inl (cI, 8, .inl o.2.2.1)), (h0_values, .inl (cI, 8, .inl o.2.2.2.1)), (h1, .inr (5, [.ref h1_letters, .ref h1_tokens, .ref h1_starts, .ref h1_numbers, .int v1_size, .int o.2.2.2.2.1, .int v1_length, .int o.2.2.2.2.2.1, .int o.2.2.2.2.2.2.1, .int o.2.2.2.2.2.2.2])), (h1_letters, .inl (cI, 160, .inl v1_letters)), (h1_tokens, .inl (cI, 160, .inl v1_tokens)), (h1_starts, .inl (cI, 160, .inl v1_starts)), (h1_numbers, .inl (cI, 160, .inl v1_numbers))] o.1 :=
  CI_of (cc := cX1_readOrder) (nL := 4) (ret := (some .boolean)) (by decide) rfl (Nat.le_of_ble_eq_true rfl) rfl (fun p e s m args below meth c A h => tfX1_readOrder h hF)
/-! X1_readFrom -/
abbrev rmX1_readFrom : Room := { frames := 4, cells := 0, slots := 0, locals := 89 }
theorem uX1_readFrom_inX5 : ∀ w ∈ wsX50, w ∈ wsX1_readFrom := by decide +kernel
theorem uX1_readFrom_f31 : Cond.fieldLink RX1 31 "LeafAsks$Text" "start" "I" ∈ wsX1_readFrom := by decide +kernel
theorem uX1_readFrom_inX1 : ∀ w ∈ wsX10, w ∈ wsX1_readFrom := by decide +kernel
theorem uX1_readFrom_f18 : Cond.fieldLink RX1 18 "LeafAsks$Orders" "size" "I" ∈ wsX1_readFrom := by decide +kernel
noncomputable def fX1_readFrom_b11 (v1_length : Int32) (v1_letters : (Nat → Int32)) (k11 : Int32 → (Nat → Int32) → (Nat → Int32) → Int32 → Int32 → Int32 → Int32 → Int32 → (Nat → Int32) → (Nat → Int32) → (Nat → Int32) → Int32 → Option (Int32 × Int32 × (Nat → Int32) × (Nat → Int32) × Int32 × Int32 × Int32 × Int32 × Int32 × (Nat → Int32) × (Nat → Int32) × (Nat → Int32))) (v0_size : Int32) (v0_names : (Nat → Int32)) (v0_values : (Nat → Int32)) (v1_size : Int32) (v1_at : Int32) (v1_token : Int32) (v1_start : Int32) (v1_number : Int32) (v1_tokens : (Nat → Int32)) (v1_starts : (Nat → Int32)) (v1_numbers : (Nat → Int32)) (x2 : Int32) : Option (Int32 × Int32 × (Nat → Int32) × (Nat → Int32) × Int32 × Int32 × Int32 × Int32 × Int32 × (Nat → Int32) × (Nat → Int32) × (Nat → Int32)) :=
  if (8 : Int32) ≤ x2 then bd (fX5_takes v1_size v1_length v1_tokens v1_starts v1_numbers (257 : Int32) v1_at v1_token v1_start v1_number) (fun r66 => if r66.1 = (0 : Int32) then some (r66.2.2.2.1, v0_size, v0_names, v0_values, v1_size, r66.2.1, r66.2.2.1, r66.2.2.2.1, r66.2.2.2.2, v1_tokens, v1_starts, v1_numbers) else some (((-1 : Int32), v0_size, v0_names, v0_values, v1_size, r66.2.1, r66.2.2.1, r66.2.2.2.1, r66.2.2.2.2, v1_tokens, v1_starts, v1_numbers))) else bd (fX5_takes v1_size v1_length v1_tokens v1_starts v1_numbers (257 : Int32) v1_at v1_token v1_start v1_number) (fun r21 => if r21.1 = (0 : Int32) then bd (fX1_readOrder v1_size v1_length v1_tokens v1_starts v1_numbers v0_size v0_names v0_values r21.2.1 r21.2.2.1 r21.2.2.2.1 r21.2.2.2.2) (fun r45 => if r45.1 = (0 : Int32) then some (r45.2.2.2.2.2.2.1, r45.2.1, r45.2.2.1, r45.2.2.2.1, v1_size, r45.2.2.2.2.1, r45.2.2.2.2.2.1, r45.2.2.2.2.2.2.1, r45.2.2.2.2.2.2.2, v1_tokens, v1_starts, v1_numbers) else bnd (x2 + (1 : Int32)) (fun x2_56 => k11 r45.2.1 r45.2.2.1 r45.2.2.2.1 v1_size r45.2.2.2.2.1 r45.2.2.2.2.2.1 r45.2.2.2.2.2.2.1 r45.2.2.2.2.2.2.2 v1_tokens v1_starts v1_numbers x2_56)) else if v0_size ≤ (0 : Int32) then some (r21.2.2.2.1, v0_size, v0_names, v0_values, v1_size, r21.2.1, r21.2.2.1, r21.2.2.2.1, r21.2.2.2.2, v1_tokens, v1_starts, v1_numbers) else some (((-1 : Int32), v0_size, v0_names, v0_values, v1_size, r21.2.1, r21.2.2.1, r21.2.2.2.1, r21.2.2.2.2, v1_tokens, v1_starts, v1_numbers)))
set_option maxRecDepth 100000 in
set_option maxHeartbeats 4000000 in
theorem tfX1_readFrom_b11 {p : Program} {l : Launch} {e : Env} {s : State} {m : MethodId} {args : Array Value} {below : List Frame} {meth : Method} {c : Code} {A : Nat → Prop} {D : va_G} {cI cZ : ClassId} (h : Cx p s m args meth c A D cI cZ 3 cX1_readFrom RX1 wsX1_readFrom (some .int)) {h0 h0_names h0_values h1 h1_letters h1_tokens h1_starts h1_numbers : Nat} {v1_length : Int32} {v1_letters : (Nat → Int32)} {k11 : Int32 → (Nat → Int32) → (Nat → Int32) → Int32 → Int32 → Int32 → Int32 → Int32 → (Nat → Int32) → (Nat → Int32) → (Nat → Int32) → Int32 → Option (Int32 × Int32 × (Nat → Int32) × (Nat → Int32) × Int32 × Int32 × Int32 × Int32 × Int32 × (Nat → Int32) × (Nat → Int32) × (Nat → Int32))} {v0_size : Int32} {v0_names : (Nat → Int32)} {v0_values : (Nat → Int32)} {v1_size : Int32} {v1_at : Int32} {v1_token : Int32} {v1_start : Int32} {v1_number : Int32} {v1_tokens : (Nat → Int32)} {v1_starts : (Nat → Int32)} {v1_numbers : (Nat → Int32)} {x2 : Int32} {o : Int32 × Int32 × (Nat → Int32) × (Nat → Int32) × Int32 × Int32 × Int32 × Int32 × Int32 × (Nat → Int32) × (Nat → Int32) × (Nat → Int32)} (hk11 : ∀ (v0_size : Int32) (v0_names : (Nat → Int32)) (v0_values : (Nat → Int32)) (v1_size : Int32) (v1_at : Int32) (v1_token : Int32) (v1_start : Int32) (v1_number : Int32) (v1_tokens : (Nat → Int32)) (v1_starts : (Nat → Int32)) (v1_numbers : (Nat → Int32)) (x2 : Int32), k11 v0_size v0_names v0_values v1_size v1_at v1_token v1_start v1_number v1_tokens v1_starts v1_numbers x2 = some o → V p l e rmX1_readFrom s m args below meth c A D 3 (QI D [(h0, .inr (1, [.ref h0_names, .ref h0_values, .int o.2.1])), (h0_names, .inl (cI, 8, .inl o.2.2.1)), (h0_values, .inl (cI, 8, .inl o.2.2.2.1)), (h1, .inr (5, [.ref h1_letters, .ref h1_tokens, .ref h1_starts, .ref h1_numbers, .int o.2.2.2.2.1, .int o.2.2.2.2.2.1, .int v1_length, .int o.2.2.2.2.2.2.1, .int o.2.2.2.2.2.2.2.1, .int o.2.2.2.2.2.2.2.2.1])), (h1_letters, .inl (cI, 160, .inl v1_letters)), (h1_tokens, .inl (cI, 160, .inl o.2.2.2.2.2.2.2.2.2.1)), (h1_starts, .inl (cI, 160, .inl o.2.2.2.2.2.2.2.2.2.2.1)), (h1_numbers, .inl (cI, 160, .inl o.2.2.2.2.2.2.2.2.2.2.2))] o.1 A below args s) [(h0, .inr (1, [.ref h0_names, .ref h0_values, .int v0_size])), (h0_names, .inl (cI, 8, .inl v0_names)), (h0_values, .inl (cI, 8, .inl v0_values)), (h1, .inr (5, [.ref h1_letters, .ref h1_tokens, .ref h1_starts, .ref h1_numbers, .int v1_size, .int v1_at, .int v1_length, .int v1_token, .int v1_start, .int v1_number])), (h1_letters, .inl (cI, 160, .inl v1_letters)), (h1_tokens, .inl (cI, 160, .inl v1_tokens)), (h1_starts, .inl (cI, 160, .inl v1_starts)), (h1_numbers, .inl (cI, 160, .inl v1_numbers))] 11 [(0, .ref h0), (1, .ref h1), (2, .int x2)] []) (hF : fX1_readFrom_b11 v1_length v1_letters k11 v0_size v0_names v0_values v1_size v1_at v1_token v1_start v1_number v1_tokens v1_starts v1_numbers x2 = some o) : V p l e rmX1_readFrom s m args below meth c A D 3 (QI D [(h0, .inr (1, [.ref h0_names, .ref h0_values, .int o.2.1])), (h0_names, .inl (cI, 8, .inl o.2.2.1)), (h0_values, .inl (cI, 8, .inl o.2.2.2.1)), (h1, .inr (5, [.ref h1_letters, .ref h1_tokens, .ref h1_starts, .ref h1_numbers, .int o.2.2.2.2.1, .int o.2.2.2.2.2.1, .int v1_length, .int o.2.2.2.2.2.2.1, .int o.2.2.2.2.2.2.2.1, .int o.2.2.2.2.2.2.2.2.1])), (h1_letters, .inl (cI, 160, .inl v1_letters)), (h1_tokens, .inl (cI, 160, .inl o.2.2.2.2.2.2.2.2.2.1)), (h1_starts, .inl (cI, 160, .inl o.2.2.2.2.2.2.2.2.2.2.1)), (h1_numbers, .inl (cI, 160, .inl o.2.2.2.2.2.2.2.2.2.2.2))] o.1 A below args s) [(h0, .inr (1, [.ref h0_names, .ref h0_values, .int v0_size])), (h0_names, .inl (cI, 8, .inl v0_names)), (h0_values, .inl (cI, 8, .inl v0_values)), (h1, .inr (5, [.ref h1_letters, .ref h1_tokens, .ref h1_starts, .ref h1_numbers, .int v1_size, .int v1_at, .int v1_length, .int v1_token, .int v1_start, .int v1_number])), (h1_letters, .inl (cI, 160, .inl v1_letters)), (h1_tokens, .inl (cI, 160, .inl v1_tokens)), (h1_starts, .inl (cI, 160, .inl v1_starts)), (h1_numbers, .inl (cI, 160, .inl v1_numbers))] 11 [(0, .ref h0), (1, .ref h1), (2, .int x2)] [] := by
  unfold fX1_readFrom_b11 at hF
  refine V_iload_n (pc := 11) h 2 dX1_readFrom_11 rfl ?_
  refine V_bipush (pc := 12) h (v := (8 : Int32)) dX1_readFrom_12 (by decide) ?_
  refine V_icmp_ge (pc := 14) h (tgt := 62) dX1_readFrom_14 (by decide) hF (fun hF => ?_) (fun hF => ?_)
  · refine V_aload_n (pc := 62) h 1 dX1_readFrom_62 rfl ?_
    refine V_sipush (pc := 63) h (v := (257 : Int32)) dX1_readFrom_63 (by decide) ?_
    refine V_ciV (pc := 66) h (n := 1) (bytes := cX5_takes) (maxL := 2) (As := [.int (257 : Int32)]) (rest := []) gX1_readFrom_X5_takes (by decide +kernel) rfl rfl rfl rfl ⟨rfl, rfl⟩ ⟨Nat.le_of_ble_eq_true rfl, Nat.le_of_ble_eq_true rfl⟩ [3, 4, 5, 6, 7] rfl (by decide) rfl (fun r66 => [(h0, .inr (1, [.ref h0_names, .ref h0_values, .int v0_size])), (h0_names, .inl (cI, 8, .inl v0_names)), (h0_values, .inl (cI, 8, .inl v0_values)), (h1, .inr (5, [.ref h1_letters, .ref h1_tokens, .ref h1_starts, .ref h1_numbers, .int v1_size, .int r66.2.1, .int v1_length, .int r66.2.2.1, .int r66.2.2.2.1, .int r66.2.2.2.2])), (h1_letters, .inl (cI, 160, .inl v1_letters)), (h1_tokens, .inl (cI, 160, .inl v1_tokens)), (h1_starts, .inl (cI, 160, .inl v1_starts)), (h1_numbers, .inl (cI, 160, .inl v1_numbers))]) (fun _ => rfl) (fun _ => rfl) rfl (Nat.le_of_ble_eq_true rfl) dX1_readFrom_66 hF (fun r66 hG => k_X5_takes l D cI cZ h1 h1_letters h1_tokens h1_starts h1_numbers v1_size v1_at v1_length v1_token v1_start v1_number v1_letters v1_tokens v1_starts v1_numbers (257 : Int32) hG) (fun r66 hF => ?_)
    refine V_if_eq (pc := 69) h (tgt := 76) dX1_readFrom_69 (by decide) hF (fun hF => ?_) (fun hF => ?_)
    · refine V_aload_n (pc := 76) h 1 dX1_readFrom_76 rfl ?_
      refine V_get (pc := 77) h uX1_readFrom_inX5 3 8 rfl rfl (by decide) uX1_readFrom_f31 rfl rfl dX1_readFrom_77 ?_
      have hF := Option.some.inj hF
      subst hF
      exact V_iret (pc := 80) h dX1_readFrom_80
    · refine V_iconst (pc := 72) h (v := (-1 : Int32)) dX1_readFrom_72 (by decide) ?_
      refine V_goto (pc := 73) h (tgt := 80) dX1_readFrom_73 (by decide) ?_
      have hF := Option.some.inj hF
      subst hF
      exact V_iret (pc := 80) h dX1_readFrom_80
  · refine V_aload_n (pc := 17) h 1 dX1_readFrom_17 rfl ?_
    refine V_sipush (pc := 18) h (v := (257 : Int32)) dX1_readFrom_18 (by decide) ?_
    refine V_ciV (pc := 21) h (n := 1) (bytes := cX5_takes) (maxL := 2) (As := [.int (257 : Int32)]) (rest := []) gX1_readFrom_X5_takes (by decide +kernel) rfl rfl rfl rfl ⟨rfl, rfl⟩ ⟨Nat.le_of_ble_eq_true rfl, Nat.le_of_ble_eq_true rfl⟩ [3, 4, 5, 6, 7] rfl (by decide) rfl (fun r21 => [(h0, .inr (1, [.ref h0_names, .ref h0_values, .int v0_size])), (h0_names, .inl (cI, 8, .inl v0_names)), (h0_values, .inl (cI, 8, .inl v0_values)), (h1, .inr (5, [.ref h1_letters, .ref h1_tokens, .ref h1_starts, .ref h1_numbers, .int v1_size, .int r21.2.1, .int v1_length, .int r21.2.2.1, .int r21.2.2.2.1, .int r21.2.2.2.2])), (h1_letters, .inl (cI, 160, .inl v1_letters)), (h1_tokens, .inl (cI, 160, .inl v1_tokens)), (h1_starts, .inl (cI, 160, .inl v1_starts)), (h1_numbers, .inl (cI, 160, .inl v1_numbers))]) (fun _ => rfl) (fun _ => rfl) rfl (Nat.le_of_ble_eq_true rfl) dX1_readFrom_21 hF (fun r21 hG => k_X5_takes l D cI cZ h1 h1_letters h1_tokens h1_starts h1_numbers v1_size v1_at v1_length v1_token v1_start v1_number v1_letters v1_tokens v1_starts v1_numbers (257 : Int32) hG) (fun r21 hF => ?_)
    refine V_if_eq (pc := 24) h (tgt := 43) dX1_readFrom_24 (by decide) hF (fun hF => ?_) (fun hF => ?_)
    · refine V_aload_n (pc := 43) h 0 dX1_readFrom_43 rfl ?_
      refine V_aload_n (pc := 44) h 1 dX1_readFrom_44 rfl ?_
      refine V_ciVA (pc := 45) h (n := 1) (bytes := cX1_readOrder) (maxL := 4) (As := [.ref h1]) (rest := []) gX1_readFrom_X1_readOrder (by decide +kernel) rfl rfl rfl rfl ⟨rfl, rfl⟩ ⟨Nat.le_of_ble_eq_true rfl, Nat.le_of_ble_eq_true rfl⟩ rfl rfl (Nat.le_of_ble_eq_true rfl) dX1_readFrom_45 hF (fun r45 hG => k_X1_readOrder l D cI cZ h0 h0_names h0_values h1 h1_letters h1_tokens h1_starts h1_numbers v0_size v0_names v0_values v1_size r21.2.1 v1_length r21.2.2.1 r21.2.2.2.1 r21.2.2.2.2 v1_letters v1_tokens v1_starts v1_numbers hG) (fun r45 hF => ?_)
      refine V_if_ne (pc := 48) h (tgt := 56) dX1_readFrom_48 (by decide) hF (fun hF => ?_) (fun hF => ?_)
      · refine V_iinc (pc := 56) h 2 (fun x2_56 => [(2, .int x2_56), (0, .ref h0), (1, .ref h1)]) dX1_readFrom_56 rfl rfl (by decide) (fun _ => rfl) hF (fun x2_56 hF => ?_)
        refine V_goto (pc := 59) h (tgt := 11) dX1_readFrom_59 (by decide) ?_
        refine V_lv [1, 2, 0] [(0, .ref h0), (1, .ref h1), (2, .int x2_56)] rfl ?_
        exact hk11 _ _ _ _ _ _ _ _ _ _ _ _ hF
      · refine V_aload_n (pc := 51) h 1 dX1_readFrom_51 rfl ?_
        refine V_get (pc := 52) h uX1_readFrom_inX5 3 8 rfl rfl (by decide) uX1_readFrom_f31 rfl rfl dX1_readFrom_52 ?_
        have hF := Option.some.inj hF
        subst hF
        exact V_iret (pc := 55) h dX1_readFrom_55
    · refine V_aload_n (pc := 27) h 0 dX1_readFrom_27 rfl ?_
      refine V_get (pc := 28) h uX1_readFrom_inX1 0 2 rfl rfl (by decide) uX1_readFrom_f18 rfl rfl dX1_readFrom_28 ?_
      refine V_if_le (pc := 31) h (tgt := 38) dX1_readFrom_31 (by decide) hF (fun hF => ?_) (fun hF => ?_)
      · refine V_aload_n (pc := 38) h 1 dX1_readFrom_38 rfl ?_
        refine V_get (pc := 39) h uX1_readFrom_inX5 3 8 rfl rfl (by decide) uX1_readFrom_f31 rfl rfl dX1_readFrom_39 ?_
        have hF := Option.some.inj hF
        subst hF
        exact V_iret (pc := 42) h dX1_readFrom_42
      · refine V_iconst (pc := 34) h (v := (-1 : Int32)) dX1_readFrom_34 (by decide) ?_
        refine V_goto (pc := 35) h (tgt := 42) dX1_readFrom_35 (by decide) ?_
        have hF := Option.some.inj hF
        subst hF
        exact V_iret (pc := 42) h dX1_readFrom_42
noncomputable def fX1_readFrom_l11 (v1_length : Int32) (v1_letters : (Nat → Int32)) (n : Nat) : Int32 → (Nat → Int32) → (Nat → Int32) → Int32 → Int32 → Int32 → Int32 → Int32 → (Nat → Int32) → (Nat → Int32) → (Nat → Int32) → Int32 → Option (Int32 × Int32 × (Nat → Int32) × (Nat → Int32) × Int32 × Int32 × Int32 × Int32 × Int32 × (Nat → Int32) × (Nat → Int32) × (Nat → Int32)) :=
  Nat.rec (motive := fun _ => Int32 → (Nat → Int32) → (Nat → Int32) → Int32 → Int32 → Int32 → Int32 → Int32 → (Nat → Int32) → (Nat → Int32) → (Nat → Int32) → Int32 → Option (Int32 × Int32 × (Nat → Int32) × (Nat → Int32) × Int32 × Int32 × Int32 × Int32 × Int32 × (Nat → Int32) × (Nat → Int32) × (Nat → Int32))) (fun _ _ _ _ _ _ _ _ _ _ _ _ => none) (fun _ ih => fX1_readFrom_b11 v1_length v1_letters ih) n
theorem fX1_readFrom_l11_s (v1_length : Int32) (v1_letters : (Nat → Int32)) (n : Nat) (v0_size : Int32) (v0_names : (Nat → Int32)) (v0_values : (Nat → Int32)) (v1_size : Int32) (v1_at : Int32) (v1_token : Int32) (v1_start : Int32) (v1_number : Int32) (v1_tokens : (Nat → Int32)) (v1_starts : (Nat → Int32)) (v1_numbers : (Nat → Int32)) (x2 : Int32) : fX1_readFrom_l11 v1_length v1_letters (n + 1) v0_size v0_names v0_values v1_size v1_at v1_token v1_start v1_number v1_tokens v1_starts v1_numbers x2 = fX1_readFrom_b11 v1_length v1_letters (fX1_readFrom_l11 v1_length v1_letters n) v0_size v0_names v0_values v1_size v1_at v1_token v1_start v1_number v1_tokens v1_starts v1_numbers x2 := rfl
set_option maxRecDepth 100000 in
set_option maxHeartbeats 4000000 in
theorem tfX1_readFrom_l11 {p : Program} {l : Launch} {e : Env} {s : State} {m : MethodId} {args : Array Value} {below : List Frame} {meth : Method} {c : Code} {A : Nat → Prop} {D : va_G} {cI cZ : ClassId} (h : Cx p s m args meth c A D cI cZ 3 cX1_readFrom RX1 wsX1_readFrom (some .int)) {h0 h0_names h0_values h1 h1_letters h1_tokens h1_starts h1_numbers : Nat} {v1_length : Int32} {v1_letters : (Nat → Int32)} {o : Int32 × Int32 × (Nat → Int32) × (Nat → Int32) × Int32 × Int32 × Int32 × Int32 × Int32 × (Nat → Int32) × (Nat → Int32) × (Nat → Int32)} (n : Nat) : ∀ (v0_size : Int32) (v0_names : (Nat → Int32)) (v0_values : (Nat → Int32)) (v1_size : Int32) (v1_at : Int32) (v1_token : Int32) (v1_start : Int32) (v1_number : Int32) (v1_tokens : (Nat → Int32)) (v1_starts : (Nat → Int32)) (v1_numbers : (Nat → Int32)) (x2 : Int32) (hF : fX1_readFrom_l11 v1_length v1_letters n v0_size v0_names v0_values v1_size v1_at v1_token v1_start v1_number v1_tokens v1_starts v1_numbers x2 = some o), V p l e rmX1_readFrom s m args below meth c A D 3 (QI D [(h0, .inr (1, [.ref h0_names, .ref h0_values, .int o.2.1])), (h0_names, .inl (cI, 8, .inl o.2.2.1)), (h0_values, .inl (cI, 8, .inl o.2.2.2.1)), (h1, .inr (5, [.ref h1_letters, .ref h1_tokens, .ref h1_starts, .ref h1_numbers, .int o.2.2.2.2.1, .int o.2.2.2.2.2.1, .int v1_length, .int o.2.2.2.2.2.2.1, .int o.2.2.2.2.2.2.2.1, .int o.2.2.2.2.2.2.2.2.1])), (h1_letters, .inl (cI, 160, .inl v1_letters)), (h1_tokens, .inl (cI, 160, .inl o.2.2.2.2.2.2.2.2.2.1)), (h1_starts, .inl (cI, 160, .inl o.2.2.2.2.2.2.2.2.2.2.1)), (h1_numbers, .inl (cI, 160, .inl o.2.2.2.2.2.2.2.2.2.2.2))] o.1 A below args s) [(h0, .inr (1, [.ref h0_names, .ref h0_values, .int v0_size])), (h0_names, .inl (cI, 8, .inl v0_names)), (h0_values, .inl (cI, 8, .inl v0_values)), (h1, .inr (5, [.ref h1_letters, .ref h1_tokens, .ref h1_starts, .ref h1_numbers, .int v1_size, .int v1_at, .int v1_length, .int v1_token, .int v1_start, .int v1_number])), (h1_letters, .inl (cI, 160, .inl v1_letters)), (h1_tokens, .inl (cI, 160, .inl v1_tokens)), (h1_starts, .inl (cI, 160, .inl v1_starts)), (h1_numbers, .inl (cI, 160, .inl v1_numbers))] 11 [(0, .ref h0), (1, .ref h1), (2, .int x2)] [] := by
  induction n with
  | zero => intro v0_size v0_names v0_values v1_size v1_at v1_token v1_start v1_number v1_tokens v1_starts v1_numbers x2 hF; exact nomatch (show (none : Option (Int32 × Int32 × (Nat → Int32) × (Nat → Int32) × Int32 × Int32 × Int32 × Int32 × Int32 × (Nat → Int32) × (Nat → Int32) × (Nat → Int32))) = some o from hF)
  | succ n ih => intro v0_size v0_names v0_values v1_size v1_at v1_token v1_start v1_number v1_tokens v1_starts v1_numbers x2 hF; exact tfX1_readFrom_b11 (k11 := fX1_readFrom_l11 v1_length v1_letters n) h ih hF
noncomputable def fX1_readFrom (v1_length : Int32) (v1_letters : (Nat → Int32)) (v0_size : Int32) (v0_names : (Nat → Int32)) (v0_values : (Nat → Int32)) (v1_size : Int32) (v1_at : Int32) (v1_token : Int32) (v1_start : Int32) (v1_number : Int32) (v1_tokens : (Nat → Int32)) (v1_starts : (Nat → Int32)) (v1_numbers : (Nat → Int32)) : Option (Int32 × Int32 × (Nat → Int32) × (Nat → Int32) × Int32 × Int32 × Int32 × Int32 × Int32 × (Nat → Int32) × (Nat → Int32) × (Nat → Int32)) :=
  bd (fX5_rewind v1_length v1_letters v1_size v1_at v1_tokens v1_starts v1_numbers) (fun r6 => fX1_readFrom_l11 v1_length v1_letters 1000 (0 : Int32) v0_names v0_values r6.1 r6.2.1 v1_token v1_start v1_number r6.2.2.1 r6.2.2.2.1 r6.2.2.2.2 (0 : Int32))
set_option maxRecDepth 100000 in
set_option maxHeartbeats 4000000 in
theorem tfX1_readFrom {p : Program} {l : Launch} {e : Env} {s : State} {m : MethodId} {args : Array Value} {below : List Frame} {meth : Method} {c : Code} {A : Nat → Prop} {D : va_G} {cI cZ : ClassId} (h : Cx p s m args meth c A D cI cZ 3 cX1_readFrom RX1 wsX1_readFrom (some .int)) {h0 h0_names h0_values h1 h1_letters h1_tokens h1_starts h1_numbers : Nat} {v1_length : Int32} {v1_letters : (Nat → Int32)} {v0_size : Int32} {v0_names : (Nat → Int32)} {v0_values : (Nat → Int32)} {v1_size : Int32} {v1_at : Int32} {v1_token : Int32} {v1_start : Int32} {v1_number : Int32} {v1_tokens : (Nat → Int32)} {v1_starts : (Nat → Int32)} {v1_numbers : (Nat → Int32)} {o : Int32 × Int32 × (Nat → Int32) × (Nat → Int32) × Int32 × Int32 × Int32 × Int32 × Int32 × (Nat → Int32) × (Nat → Int32) × (Nat → Int32)} (hF : fX1_readFrom v1_length v1_letters v0_size v0_names v0_values v1_size v1_at v1_token v1_start v1_number v1_tokens v1_starts v1_numbers = some o) : V p l e rmX1_readFrom s m args below meth c A D 3 (QI D [(h0, .inr (1, [.ref h0_names, .ref h0_values, .int o.2.1])), (h0_names, .inl (cI, 8, .inl o.2.2.1)), (h0_values, .inl (cI, 8, .inl o.2.2.2.1)), (h1, .inr (5, [.ref h1_letters, .ref h1_tokens, .ref h1_starts, .ref h1_numbers, .int o.2.2.2.2.1, .int o.2.2.2.2.2.1, .int v1_length, .int o.2.2.2.2.2.2.1, .int o.2.2.2.2.2.2.2.1, .int o.2.2.2.2.2.2.2.2.1])), (h1_letters, .inl (cI, 160, .inl v1_letters)), (h1_tokens, .inl (cI, 160, .inl o.2.2.2.2.2.2.2.2.2.1)), (h1_starts, .inl (cI, 160, .inl o.2.2.2.2.2.2.2.2.2.2.1)), (h1_numbers, .inl (cI, 160, .inl o.2.2.2.2.2.2.2.2.2.2.2))] o.1 A below args s) [(h0, .inr (1, [.ref h0_names, .ref h0_values, .int v0_size])), (h0_names, .inl (cI, 8, .inl v0_names)), (h0_values, .inl (cI, 8, .inl v0_values)), (h1, .inr (5, [.ref h1_letters, .ref h1_tokens, .ref h1_starts, .ref h1_numbers, .int v1_size, .int v1_at, .int v1_length, .int v1_token, .int v1_start, .int v1_number])), (h1_letters, .inl (cI, 160, .inl v1_letters)), (h1_tokens, .inl (cI, 160, .inl v1_tokens)), (h1_starts, .inl (cI, 160, .inl v1_starts)), (h1_numbers, .inl (cI, 160, .inl v1_numbers))] 0 [(0, .ref h0), (1, .ref h1)] [] := by
  unfold fX1_readFrom at hF
  refine V_aload_n (pc := 0) h 0 dX1_readFrom_0 rfl ?_
  refine V_iconst (pc := 1) h (v := (0 : Int32)) dX1_readFrom_1 (by decide) ?_
  refine V_put (pc := 2) h uX1_readFrom_inX1 tyX1 tyX1_ok nmX1 0 2 rfl rfl (by decide) uX1_readFrom_f18 rfl rfl (by decide +kernel) (Nat.le_of_ble_eq_true rfl) [(h0, .inr (1, [.ref h0_names, .ref h0_values, .int (0 : Int32)])), (h0_names, .inl (cI, 8, .inl v0_names)), (h0_values, .inl (cI, 8, .inl v0_values)), (h1, .inr (5, [.ref h1_letters, .ref h1_tokens, .ref h1_starts, .ref h1_numbers, .int v1_size, .int v1_at, .int v1_length, .int v1_token, .int v1_start, .int v1_number])), (h1_letters, .inl (cI, 160, .inl v1_letters)), (h1_tokens, .inl (cI, 160, .inl v1_tokens)), (h1_starts, .inl (cI, 160, .inl v1_starts)), (h1_numbers, .inl (cI, 160, .inl v1_numbers))] rfl dX1_readFrom_2 ?_
  refine V_aload_n (pc := 5) h 1 dX1_readFrom_5 rfl ?_
  refine V_cvV (pc := 6) h (n := 0) (bytes := cX5_rewind) (maxL := 5) (As := []) (rest := []) gX1_readFrom_X5_rewind (by decide +kernel) rfl rfl rfl rfl ⟨rfl, rfl⟩ ⟨Nat.le_of_ble_eq_true rfl, Nat.le_of_ble_eq_true rfl⟩ [3, 4, 5, 6, 7] rfl (by decide) rfl (fun r6 => [(h0, .inr (1, [.ref h0_names, .ref h0_values, .int (0 : Int32)])), (h0_names, .inl (cI, 8, .inl v0_names)), (h0_values, .inl (cI, 8, .inl v0_values)), (h1, .inr (5, [.ref h1_letters, .ref h1_tokens, .ref h1_starts, .ref h1_numbers, .int r6.1, .int r6.2.1, .int v1_length, .int v1_token, .int v1_start, .int v1_number])), (h1_letters, .inl (cI, 160, .inl v1_letters)), (h1_tokens, .inl (cI, 160, .inl r6.2.2.1)), (h1_starts, .inl (cI, 160, .inl r6.2.2.2.1)), (h1_numbers, .inl (cI, 160, .inl r6.2.2.2.2))]) (fun _ => rfl) (fun _ => rfl) rfl (Nat.le_of_ble_eq_true rfl) dX1_readFrom_6 hF (fun r6 hG => k_X5_rewind l D cI cZ h1 h1_letters h1_tokens h1_starts h1_numbers v1_size v1_at v1_length v1_token v1_start v1_number v1_letters v1_tokens v1_starts v1_numbers hG) (fun r6 hF => ?_)
  refine V_iconst (pc := 9) h (v := (0 : Int32)) dX1_readFrom_9 (by decide) ?_
  refine V_istore_n (pc := 10) h [(2, .int (0 : Int32)), (0, .ref h0), (1, .ref h1)] dX1_readFrom_10 (by decide) rfl ?_
  refine V_lv [1, 2, 0] [(0, .ref h0), (1, .ref h1), (2, .int (0 : Int32))] rfl ?_
  exact tfX1_readFrom_l11 h 1000 _ _ _ _ _ _ _ _ _ _ _ _ hF
set_option maxRecDepth 100000 in
theorem k_X1_readFrom (l : Launch) (D : va_G) (cI cZ : ClassId) (h0 h0_names h0_values h1 h1_letters h1_tokens h1_starts h1_numbers : Nat) (v0_size : Int32) (v0_names : (Nat → Int32)) (v0_values : (Nat → Int32)) (v1_size : Int32) (v1_at : Int32) (v1_length : Int32) (v1_token : Int32) (v1_start : Int32) (v1_number : Int32) (v1_letters : (Nat → Int32)) (v1_tokens : (Nat → Int32)) (v1_starts : (Nat → Int32)) (v1_numbers : (Nat → Int32)) {o : Int32 × Int32 × (Nat → Int32) × (Nat → Int32) × Int32 × Int32 × Int32 × Int32 × Int32 × (Nat → Int32) × (Nat → Int32) × (Nat → Int32)} (hF : fX1_readFrom v1_length v1_letters v0_size v0_names v0_values v1_size v1_at v1_token v1_start v1_number v1_tokens v1_starts v1_numbers = some o) : CI l yX1_readFrom wsX1_readFrom rmX1_readFrom D cI cZ [.ref h0, .ref h1] [(h0, .inr (1, [.ref h0_names, .ref h0_values, .int v0_size])), (h0_names, .inl (cI, 8, .inl v0_names)), (h0_values, .inl (cI, 8, .inl v0_values)), (h1, .inr (5, [.ref h1_letters, .ref h1_tokens, .ref h1_starts, .ref h1_numbers, .int v1_size, .int v1_at, .int v1_length, .int v1_token, .int v1_start, .int v1_number])), (h1_letters, .inl (cI, 160, .inl v1_letters)), (h1_tokens, .inl (cI, 160, .inl v1_tokens)), (h1_starts, .inl (cI, 160, .inl v1_starts)), (h1_numbers, .inl (cI, 160, .inl v1_numbers))] [(h0, .inr (1, [.ref h0_names, .ref h0_values, .int o.2.1])), (h0_names, .inl (cI, 8, .inl o.2.2.1)), (h0_values, .inl (cI, 8, .inl o.2.2.2.1)), (h1, .inr (5, [.ref h1_letters, .ref h1_tokens, .ref h1_starts, .ref h1_numbers, .int o.2.2.2.2.1, .int o.2.2.2.2.2.1, .int v1_length, .int o.2.2.2.2.2.2.1, .int o.2.2.2.2.2.2.2.1, .int o.2.2.2.2.2.2.2.2.1])), (h1_letters, .inl (cI, 160, .inl v1_letters)), (h1_tokens, .inl (cI, 160, .inl o.2.2.2.2.2.2.2.2.2.1)), (h1_starts, .inl (cI, 160, .inl o.2.2.2.2.2.2.2.2.2.2.1)), (h1_numbers, .inl (cI, 160, .inl o.2.2.2.2.2.2.2.2.2.2.2))] o.1 :=
  CI_of (cc := cX1_readFrom) (nL := 3) (ret := (some .int)) (by decide) rfl (Nat.le_of_ble_eq_true rfl) rfl (fun p e s m args below meth c A h => tfX1_readFrom h hF)
/-! X1_name -/
abbrev rmX1_name : Room := { frames := 0, cells := 0, slots := 0, locals := 0 }
theorem uX1_name_inX1 : ∀ w ∈ wsX10, w ∈ wsX1_name := by decide +kernel
theorem uX1_name_f11 : Cond.fieldLink RX1 11 "LeafAsks$Orders" "names" "[I" ∈ wsX1_name := by decide +kernel
noncomputable def fX1_name (v0_names : (Nat → Int32)) (x1 : Int32) : Option (Int32) :=
  if x1 < (0 : Int32) then some (0 : Int32) else if (8 : Int32) ≤ x1 then some (0 : Int32) else gin x1 8 (some (v0_names x1.toNatClampNeg))
set_option maxRecDepth 100000 in
set_option maxHeartbeats 4000000 in
theorem tfX1_name {p : Program} {l : Launch} {e : Env} {s : State} {m : MethodId} {args : Array Value} {below : List Frame} {meth : Method} {c : Code} {A : Nat → Prop} {D : va_G} {cI cZ : ClassId} (h : Cx p s m args meth c A D cI cZ 2 cX1_name RX1 wsX1_name (some .int)) {h0 h0_names h0_values : Nat} {x1 : Int32} {v0_size : Int32} {v0_names : (Nat → Int32)} {v0_values : (Nat → Int32)} {o : Int32} (hF : fX1_name v0_names x1 = some o) : V p l e rmX1_name s m args below meth c A D 2 (QI D [(h0, .inr (1, [.ref h0_names, .ref h0_values, .int v0_size])), (h0_names, .inl (cI, 8, .inl v0_names)), (h0_values, .inl (cI, 8, .inl v0_values))] o A below args s) [(h0, .inr (1, [.ref h0_names, .ref h0_values, .int v0_size])), (h0_names, .inl (cI, 8, .inl v0_names)), (h0_values, .inl (cI, 8, .inl v0_values))] 0 [(0, .ref h0), (1, .int x1)] [] := by
  unfold fX1_name at hF
  refine V_iload_n (pc := 0) h 1 dX1_name_0 rfl ?_
  refine V_if_lt (pc := 1) h (tgt := 19) dX1_name_1 (by decide) hF (fun hF => ?_) (fun hF => ?_)
  · refine V_iconst (pc := 19) h (v := (0 : Int32)) dX1_name_19 (by decide) ?_
    have hF := Option.some.inj hF
    subst hF
    exact V_iret (pc := 20) h dX1_name_20
  · refine V_iload_n (pc := 4) h 1 dX1_name_4 rfl ?_
    refine V_bipush (pc := 5) h (v := (8 : Int32)) dX1_name_5 (by decide) ?_
    refine V_icmp_ge (pc := 7) h (tgt := 19) dX1_name_7 (by decide) hF (fun hF => ?_) (fun hF => ?_)
    · refine V_iconst (pc := 19) h (v := (0 : Int32)) dX1_name_19 (by decide) ?_
      have hF := Option.some.inj hF
      subst hF
      exact V_iret (pc := 20) h dX1_name_20
    · refine V_aload_n (pc := 10) h 0 dX1_name_10 rfl ?_
      refine V_get (pc := 11) h uX1_name_inX1 0 0 rfl rfl (by decide) uX1_name_f11 rfl rfl dX1_name_11 ?_
      refine V_iload_n (pc := 14) h 1 dX1_name_14 rfl ?_
      refine V_iald (pc := 15) h 1 rfl dX1_name_15 hF (fun hF => ?_)
      refine V_goto (pc := 16) h (tgt := 20) dX1_name_16 (by decide) ?_
      have hF := Option.some.inj hF
      subst hF
      exact V_iret (pc := 20) h dX1_name_20
set_option maxRecDepth 100000 in
theorem k_X1_name (l : Launch) (D : va_G) (cI cZ : ClassId) (h0 h0_names h0_values : Nat) (v0_size : Int32) (v0_names : (Nat → Int32)) (v0_values : (Nat → Int32)) (x1 : Int32) {o : Int32} (hF : fX1_name v0_names x1 = some o) : CI l yX1_name wsX1_name rmX1_name D cI cZ [.ref h0, .int x1] [(h0, .inr (1, [.ref h0_names, .ref h0_values, .int v0_size])), (h0_names, .inl (cI, 8, .inl v0_names)), (h0_values, .inl (cI, 8, .inl v0_values))] [(h0, .inr (1, [.ref h0_names, .ref h0_values, .int v0_size])), (h0_names, .inl (cI, 8, .inl v0_names)), (h0_values, .inl (cI, 8, .inl v0_values))] o :=
  CI_of (cc := cX1_name) (nL := 2) (ret := (some .int)) (by decide) rfl (Nat.le_of_ble_eq_true rfl) rfl (fun p e s m args below meth c A h => tfX1_name h hF)
/-! X1_value -/
abbrev rmX1_value : Room := { frames := 0, cells := 0, slots := 0, locals := 0 }
theorem uX1_value_inX1 : ∀ w ∈ wsX10, w ∈ wsX1_value := by decide +kernel
theorem uX1_value_f15 : Cond.fieldLink RX1 15 "LeafAsks$Orders" "values" "[I" ∈ wsX1_value := by decide +kernel
noncomputable def fX1_value (v0_values : (Nat → Int32)) (x1 : Int32) : Option (Int32) :=
  if x1 < (0 : Int32) then some (0 : Int32) else if (8 : Int32) ≤ x1 then some (0 : Int32) else gin x1 8 (some (v0_values x1.toNatClampNeg))
set_option maxRecDepth 100000 in
set_option maxHeartbeats 4000000 in
theorem tfX1_value {p : Program} {l : Launch} {e : Env} {s : State} {m : MethodId} {args : Array Value} {below : List Frame} {meth : Method} {c : Code} {A : Nat → Prop} {D : va_G} {cI cZ : ClassId} (h : Cx p s m args meth c A D cI cZ 2 cX1_value RX1 wsX1_value (some .int)) {h0 h0_names h0_values : Nat} {x1 : Int32} {v0_size : Int32} {v0_names : (Nat → Int32)} {v0_values : (Nat → Int32)} {o : Int32} (hF : fX1_value v0_values x1 = some o) : V p l e rmX1_value s m args below meth c A D 2 (QI D [(h0, .inr (1, [.ref h0_names, .ref h0_values, .int v0_size])), (h0_names, .inl (cI, 8, .inl v0_names)), (h0_values, .inl (cI, 8, .inl v0_values))] o A below args s) [(h0, .inr (1, [.ref h0_names, .ref h0_values, .int v0_size])), (h0_names, .inl (cI, 8, .inl v0_names)), (h0_values, .inl (cI, 8, .inl v0_values))] 0 [(0, .ref h0), (1, .int x1)] [] := by
  unfold fX1_value at hF
  refine V_iload_n (pc := 0) h 1 dX1_value_0 rfl ?_
  refine V_if_lt (pc := 1) h (tgt := 19) dX1_value_1 (by decide) hF (fun hF => ?_) (fun hF => ?_)
  · refine V_iconst (pc := 19) h (v := (0 : Int32)) dX1_value_19 (by decide) ?_
    have hF := Option.some.inj hF
    subst hF
    exact V_iret (pc := 20) h dX1_value_20
  · refine V_iload_n (pc := 4) h 1 dX1_value_4 rfl ?_
    refine V_bipush (pc := 5) h (v := (8 : Int32)) dX1_value_5 (by decide) ?_
    refine V_icmp_ge (pc := 7) h (tgt := 19) dX1_value_7 (by decide) hF (fun hF => ?_) (fun hF => ?_)
    · refine V_iconst (pc := 19) h (v := (0 : Int32)) dX1_value_19 (by decide) ?_
      have hF := Option.some.inj hF
      subst hF
      exact V_iret (pc := 20) h dX1_value_20
    · refine V_aload_n (pc := 10) h 0 dX1_value_10 rfl ?_
      refine V_get (pc := 11) h uX1_value_inX1 0 1 rfl rfl (by decide) uX1_value_f15 rfl rfl dX1_value_11 ?_
      refine V_iload_n (pc := 14) h 1 dX1_value_14 rfl ?_
      refine V_iald (pc := 15) h 2 rfl dX1_value_15 hF (fun hF => ?_)
      refine V_goto (pc := 16) h (tgt := 20) dX1_value_16 (by decide) ?_
      have hF := Option.some.inj hF
      subst hF
      exact V_iret (pc := 20) h dX1_value_20
set_option maxRecDepth 100000 in
theorem k_X1_value (l : Launch) (D : va_G) (cI cZ : ClassId) (h0 h0_names h0_values : Nat) (v0_size : Int32) (v0_names : (Nat → Int32)) (v0_values : (Nat → Int32)) (x1 : Int32) {o : Int32} (hF : fX1_value v0_values x1 = some o) : CI l yX1_value wsX1_value rmX1_value D cI cZ [.ref h0, .int x1] [(h0, .inr (1, [.ref h0_names, .ref h0_values, .int v0_size])), (h0_names, .inl (cI, 8, .inl v0_names)), (h0_values, .inl (cI, 8, .inl v0_values))] [(h0, .inr (1, [.ref h0_names, .ref h0_values, .int v0_size])), (h0_names, .inl (cI, 8, .inl v0_names)), (h0_values, .inl (cI, 8, .inl v0_values))] o :=
  CI_of (cc := cX1_value) (nL := 2) (ret := (some .int)) (by decide) rfl (Nat.le_of_ble_eq_true rfl) rfl (fun p e s m args below meth c A h => tfX1_value h hF)
/-! X4_storeInto -/
abbrev rmX4_storeInto : Room := { frames := 1, cells := 0, slots := 0, locals := 40 }
theorem uX4_storeInto_inX4 : ∀ w ∈ wsX40, w ∈ wsX4_storeInto := by decide +kernel
theorem uX4_storeInto_f11 : Cond.fieldLink RX4 11 "LeafAsks$State" "data" "[I" ∈ wsX4_storeInto := by decide +kernel
theorem uX4_storeInto_ac1 : Cond.methodLink RX4 38 arraycopyName ∈ wsX4_storeInto := by decide +kernel
theorem uX4_storeInto_ac2 : Cond.native arraycopyName ∈ wsX4_storeInto := by decide +kernel
theorem uX4_storeInto_ac3 : Cond.static arraycopyName ∈ wsX4_storeInto := by decide +kernel
theorem uX4_storeInto_ac4 : Cond.initialized "java/lang/System" ∈ wsX4_storeInto := by decide +kernel
noncomputable def fX4_storeInto (n1 : Nat) (v0_data : (Nat → Int32)) (x2 : Int32) (v1 : (Nat → Int32)) : Option ((Nat → Int32)) :=
  if x2 < (0 : Int32) then some v1 else if ((Int32.ofNat n1) - (124 : Int32)) < x2 then some v1 else gcp (0 : Int32) x2 (124 : Int32) 124 n1 (some ((va_cpy v0_data v1 (0 : Int32).toNatClampNeg x2.toNatClampNeg (124 : Int32).toNatClampNeg)))
set_option maxRecDepth 100000 in
set_option maxHeartbeats 4000000 in
theorem tfX4_storeInto {p : Program} {l : Launch} {e : Env} {s : State} {m : MethodId} {args : Array Value} {below : List Frame} {meth : Method} {c : Code} {A : Nat → Prop} {D : va_G} {cI cZ : ClassId} (h : Cx p s m args meth c A D cI cZ 3 cX4_storeInto RX4 wsX4_storeInto none) {h0 h0_data h1 : Nat} {x2 : Int32} {n1 : Nat} {v0_data : (Nat → Int32)} {v1 : (Nat → Int32)} {o : (Nat → Int32)} (hF : fX4_storeInto n1 v0_data x2 v1 = some o) : V p l e rmX4_storeInto s m args below meth c A D 3 (QV D [(h0, .inr (4, [.ref h0_data])), (h0_data, .inl (cI, 124, .inl v0_data)), (h1, .inl (cI, n1, .inl o))] A below args s) [(h0, .inr (4, [.ref h0_data])), (h0_data, .inl (cI, 124, .inl v0_data)), (h1, .inl (cI, n1, .inl v1))] 0 [(0, .ref h0), (1, .ref h1), (2, .int x2)] [] := by
  unfold fX4_storeInto at hF
  refine V_iload_n (pc := 0) h 2 dX4_storeInto_0 rfl ?_
  refine V_if_lt (pc := 1) h (tgt := 25) dX4_storeInto_1 (by decide) hF (fun hF => ?_) (fun hF => ?_)
  · have hF := Option.some.inj hF
    subst hF
    exact V_vret (pc := 25) h dX4_storeInto_25
  · refine V_iload_n (pc := 4) h 2 dX4_storeInto_4 rfl ?_
    refine V_aload_n (pc := 5) h 1 dX4_storeInto_5 rfl ?_
    refine V_alenI (pc := 6) h (v := Int32.ofNat n1) 2 rfl rfl dX4_storeInto_6 ?_
    refine V_bipush (pc := 7) h (v := (124 : Int32)) dX4_storeInto_7 (by decide) ?_
    refine V_isub (pc := 9) h dX4_storeInto_9 ?_
    refine V_icmp_gt (pc := 10) h (tgt := 25) dX4_storeInto_10 (by decide) hF (fun hF => ?_) (fun hF => ?_)
    · have hF := Option.some.inj hF
      subst hF
      exact V_vret (pc := 25) h dX4_storeInto_25
    · refine V_aload_n (pc := 13) h 0 dX4_storeInto_13 rfl ?_
      refine V_get (pc := 14) h uX4_storeInto_inX4 0 0 rfl rfl (by decide) uX4_storeInto_f11 rfl rfl dX4_storeInto_14 ?_
      refine V_iconst (pc := 17) h (v := (0 : Int32)) dX4_storeInto_17 (by decide) ?_
      refine V_aload_n (pc := 18) h 1 dX4_storeInto_18 rfl ?_
      refine V_iload_n (pc := 19) h 2 dX4_storeInto_19 rfl ?_
      refine V_bipush (pc := 20) h (v := (124 : Int32)) dX4_storeInto_20 (by decide) ?_
      refine V_copy (pc := 22) h 1 2 rfl rfl uX4_storeInto_ac1 uX4_storeInto_ac2 uX4_storeInto_ac3 uX4_storeInto_ac4 [(h0, .inr (4, [.ref h0_data])), (h0_data, .inl (cI, 124, .inl v0_data)), (h1, .inl (cI, n1, .inl (va_cpy v0_data v1 (0 : Int32).toNatClampNeg x2.toNatClampNeg (124 : Int32).toNatClampNeg)))] rfl (Nat.le_of_ble_eq_true rfl) (Nat.le_of_ble_eq_true rfl) dX4_storeInto_22 hF (fun hF => ?_)
      have hF := Option.some.inj hF
      subst hF
      exact V_vret (pc := 25) h dX4_storeInto_25
set_option maxRecDepth 100000 in
theorem k_X4_storeInto (l : Launch) (D : va_G) (cI cZ : ClassId) (h0 h0_data h1 : Nat) (n1 : Nat) (v0_data : (Nat → Int32)) (v1 : (Nat → Int32)) (x2 : Int32) {o : (Nat → Int32)} (hF : fX4_storeInto n1 v0_data x2 v1 = some o) : CV l yX4_storeInto wsX4_storeInto rmX4_storeInto D cI cZ [.ref h0, .ref h1, .int x2] [(h0, .inr (4, [.ref h0_data])), (h0_data, .inl (cI, 124, .inl v0_data)), (h1, .inl (cI, n1, .inl v1))] [(h0, .inr (4, [.ref h0_data])), (h0_data, .inl (cI, 124, .inl v0_data)), (h1, .inl (cI, n1, .inl o))] :=
  CV_of (cc := cX4_storeInto) (nL := 3) (ret := none) (by decide) rfl (Nat.le_of_ble_eq_true rfl) rfl (fun p e s m args below meth c A h => tfX4_storeInto h hF)
/-! X3_put -/
abbrev rmX3_put : Room := { frames := 2, cells := 0, slots := 0, locals := 62 }
theorem uX3_put_inX3 : ∀ w ∈ wsX30, w ∈ wsX3_put := by decide +kernel
theorem uX3_put_f21 : Cond.fieldLink RX3 21 "LeafAsks$Shelf" "taken" "[Z" ∈ wsX3_put := by decide +kernel
theorem uX3_put_f15 : Cond.fieldLink RX3 15 "LeafAsks$Shelf" "data" "[I" ∈ wsX3_put := by decide +kernel
noncomputable def fX3_put (n0_data : Nat) (n0_taken : Nat) (v2_data : (Nat → Int32)) (x1 : Int32) (v0_data : (Nat → Int32)) (v0_taken : (Nat → Int32)) : Option ((Nat → Int32) × (Nat → Int32)) :=
  if x1 < (0 : Int32) then some (v0_data, v0_taken) else if (Int32.ofNat n0_taken) ≤ x1 then some (v0_data, v0_taken) else bd (fX4_storeInto n0_data v2_data (x1 * (124 : Int32)) v0_data) (fun r22 => gin x1 n0_taken (some ((r22, (upd v0_taken x1.toNatClampNeg (1 : Int32))))))
set_option maxRecDepth 100000 in
set_option maxHeartbeats 4000000 in
theorem tfX3_put {p : Program} {l : Launch} {e : Env} {s : State} {m : MethodId} {args : Array Value} {below : List Frame} {meth : Method} {c : Code} {A : Nat → Prop} {D : va_G} {cI cZ : ClassId} (h : Cx p s m args meth c A D cI cZ 3 cX3_put RX3 wsX3_put none) {h0 h0_data h0_taken h2 h2_data : Nat} {x1 : Int32} {n0_data : Nat} {n0_taken : Nat} {v2_data : (Nat → Int32)} {v0_data : (Nat → Int32)} {v0_taken : (Nat → Int32)} {o : (Nat → Int32) × (Nat → Int32)} (hF : fX3_put n0_data n0_taken v2_data x1 v0_data v0_taken = some o) : V p l e rmX3_put s m args below meth c A D 3 (QV D [(h0, .inr (3, [.ref h0_data, .ref h0_taken])), (h0_data, .inl (cI, n0_data, .inl o.1)), (h0_taken, .inl (cZ, n0_taken, .inl o.2)), (h2, .inr (4, [.ref h2_data])), (h2_data, .inl (cI, 124, .inl v2_data))] A below args s) [(h0, .inr (3, [.ref h0_data, .ref h0_taken])), (h0_data, .inl (cI, n0_data, .inl v0_data)), (h0_taken, .inl (cZ, n0_taken, .inl v0_taken)), (h2, .inr (4, [.ref h2_data])), (h2_data, .inl (cI, 124, .inl v2_data))] 0 [(0, .ref h0), (1, .int x1), (2, .ref h2)] [] := by
  unfold fX3_put at hF
  refine V_iload_n (pc := 0) h 1 dX3_put_0 rfl ?_
  refine V_if_lt (pc := 1) h (tgt := 32) dX3_put_1 (by decide) hF (fun hF => ?_) (fun hF => ?_)
  · have hF := Option.some.inj hF
    subst hF
    exact V_vret (pc := 32) h dX3_put_32
  · refine V_iload_n (pc := 4) h 1 dX3_put_4 rfl ?_
    refine V_aload_n (pc := 5) h 0 dX3_put_5 rfl ?_
    refine V_get (pc := 6) h uX3_put_inX3 0 1 rfl rfl (by decide) uX3_put_f21 rfl rfl dX3_put_6 ?_
    refine V_alenZ (pc := 9) h (v := Int32.ofNat n0_taken) 2 rfl rfl dX3_put_9 ?_
    refine V_icmp_ge (pc := 10) h (tgt := 32) dX3_put_10 (by decide) hF (fun hF => ?_) (fun hF => ?_)
    · have hF := Option.some.inj hF
      subst hF
      exact V_vret (pc := 32) h dX3_put_32
    · refine V_aload_n (pc := 13) h 2 dX3_put_13 rfl ?_
      refine V_aload_n (pc := 14) h 0 dX3_put_14 rfl ?_
      refine V_get (pc := 15) h uX3_put_inX3 0 0 rfl rfl (by decide) uX3_put_f15 rfl rfl dX3_put_15 ?_
      refine V_iload_n (pc := 18) h 1 dX3_put_18 rfl ?_
      refine V_bipush (pc := 19) h (v := (124 : Int32)) dX3_put_19 (by decide) ?_
      refine V_imul (pc := 21) h dX3_put_21 ?_
      refine V_cvV (pc := 22) h (n := 2) (bytes := cX4_storeInto) (maxL := 3) (As := [.ref h0_data, .int (x1 * (124 : Int32))]) (rest := []) gX3_put_X4_storeInto (by decide +kernel) rfl rfl rfl rfl ⟨rfl, rfl⟩ ⟨Nat.le_of_ble_eq_true rfl, Nat.le_of_ble_eq_true rfl⟩ [3, 4, 1] rfl (by decide) rfl (fun r22 => [(h0, .inr (3, [.ref h0_data, .ref h0_taken])), (h0_data, .inl (cI, n0_data, .inl r22)), (h0_taken, .inl (cZ, n0_taken, .inl v0_taken)), (h2, .inr (4, [.ref h2_data])), (h2_data, .inl (cI, 124, .inl v2_data))]) (fun _ => rfl) (fun _ => rfl) rfl (Nat.le_of_ble_eq_true rfl) dX3_put_22 hF (fun r22 hG => k_X4_storeInto l D cI cZ h2 h2_data h0_data n0_data v2_data v0_data (x1 * (124 : Int32)) hG) (fun r22 hF => ?_)
      refine V_aload_n (pc := 25) h 0 dX3_put_25 rfl ?_
      refine V_get (pc := 26) h uX3_put_inX3 0 1 rfl rfl (by decide) uX3_put_f21 rfl rfl dX3_put_26 ?_
      refine V_iload_n (pc := 29) h 1 dX3_put_29 rfl ?_
      refine V_iconst (pc := 30) h (v := (1 : Int32)) dX3_put_30 (by decide) ?_
      refine V_zast (pc := 31) h 2 rfl [(h0, .inr (3, [.ref h0_data, .ref h0_taken])), (h0_data, .inl (cI, n0_data, .inl r22)), (h0_taken, .inl (cZ, n0_taken, .inl (upd v0_taken x1.toNatClampNeg (1 : Int32)))), (h2, .inr (4, [.ref h2_data])), (h2_data, .inl (cI, 124, .inl v2_data))] (by decide +kernel) rfl dX3_put_31 hF (fun hF => ?_)
      have hF := Option.some.inj hF
      subst hF
      exact V_vret (pc := 32) h dX3_put_32
set_option maxRecDepth 100000 in
theorem k_X3_put (l : Launch) (D : va_G) (cI cZ : ClassId) (h0 h0_data h0_taken h2 h2_data : Nat) (n0_data : Nat) (n0_taken : Nat) (v0_data : (Nat → Int32)) (v0_taken : (Nat → Int32)) (v2_data : (Nat → Int32)) (x1 : Int32) {o : (Nat → Int32) × (Nat → Int32)} (hF : fX3_put n0_data n0_taken v2_data x1 v0_data v0_taken = some o) : CV l yX3_put wsX3_put rmX3_put D cI cZ [.ref h0, .int x1, .ref h2] [(h0, .inr (3, [.ref h0_data, .ref h0_taken])), (h0_data, .inl (cI, n0_data, .inl v0_data)), (h0_taken, .inl (cZ, n0_taken, .inl v0_taken)), (h2, .inr (4, [.ref h2_data])), (h2_data, .inl (cI, 124, .inl v2_data))] [(h0, .inr (3, [.ref h0_data, .ref h0_taken])), (h0_data, .inl (cI, n0_data, .inl o.1)), (h0_taken, .inl (cZ, n0_taken, .inl o.2)), (h2, .inr (4, [.ref h2_data])), (h2_data, .inl (cI, 124, .inl v2_data))] :=
  CV_of (cc := cX3_put) (nL := 3) (ret := none) (by decide) rfl (Nat.le_of_ble_eq_true rfl) rfl (fun p e s m args below meth c A h => tfX3_put h hF)
