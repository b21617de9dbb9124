/-! X2_push -/
abbrev rmX2_push : Room := { frames := 3, cells := 0, slots := 0, locals := 84 }
theorem uX2_push_inX2 : ∀ w ∈ wsX20, w ∈ wsX2_push := by decide +kernel
theorem uX2_push_f20 : Cond.fieldLink RX2 20 "LeafAsks$Past" "newest" "I" ∈ wsX2_push := by decide +kernel
theorem uX2_push_f14 : Cond.fieldLink RX2 14 "LeafAsks$Past" "states" "LLeafAsks$Shelf;" ∈ wsX2_push := by decide +kernel
theorem uX2_push_f28 : Cond.fieldLink RX2 28 "LeafAsks$Past" "known" "I" ∈ wsX2_push := by decide +kernel
theorem uX2_push_mmin1 : Cond.methodLink RX2 31 Lib.Math.min.name ∈ wsX2_push := by decide +kernel
theorem uX2_push_mmin2 : Cond.static Lib.Math.min.name ∈ wsX2_push := by decide +kernel
theorem uX2_push_mmin3 : Cond.initialized "java/lang/Math" ∈ wsX2_push := by decide +kernel
theorem uX2_push_mmin4 : Cond.code Lib.Math.min.name Lib.Math.min.code 2 (some .int) ∈ wsX2_push := by decide +kernel
noncomputable def fX2_push (v1_data : (Nat → Int32)) (v0_newest : Int32) (v0_known : Int32) (v0_states_data : (Nat → Int32)) (v0_states_taken : (Nat → Int32)) : Option (Int32 × Int32 × (Nat → Int32) × (Nat → Int32)) :=
  bnd (jrem (v0_newest + (1 : Int32)) (6 : Int32)) (fun y10 => bd (fX3_put 744 6 v1_data y10 v0_states_data v0_states_taken) (fun r22 => bnd (jmin (v0_known + (1 : Int32)) (6 : Int32)) (fun y37 => some (y10, y37, r22.1, r22.2))))
set_option maxRecDepth 100000 in
set_option maxHeartbeats 4000000 in
theorem tfX2_push {p : Program} {l : Launch} {e : Env} {s : State} {m : MethodId} {args : Array Value} {below : List Frame} {meth : Method} {c : Code} {A : Nat → Prop} {D : va_G} {cI cZ : ClassId} (h : Cx p s m args meth c A D cI cZ 2 cX2_push RX2 wsX2_push none) {h0 h0_states h0_states_data h0_states_taken h1 h1_data : Nat} {v1_data : (Nat → Int32)} {v0_newest : Int32} {v0_known : Int32} {v0_states_data : (Nat → Int32)} {v0_states_taken : (Nat → Int32)} {o : Int32 × Int32 × (Nat → Int32) × (Nat → Int32)} (hF : fX2_push v1_data v0_newest v0_known v0_states_data v0_states_taken = some o) : V p l e rmX2_push s m args below meth c A D 2 (QV D [(h0, .inr (2, [.ref h0_states, .int o.1, .int o.2.1])), (h0_states, .inr (3, [.ref h0_states_data, .ref h0_states_taken])), (h0_states_data, .inl (cI, 744, .inl o.2.2.1)), (h0_states_taken, .inl (cZ, 6, .inl o.2.2.2)), (h1, .inr (4, [.ref h1_data])), (h1_data, .inl (cI, 124, .inl v1_data))] A below args s) [(h0, .inr (2, [.ref h0_states, .int v0_newest, .int v0_known])), (h0_states, .inr (3, [.ref h0_states_data, .ref h0_states_taken])), (h0_states_data, .inl (cI, 744, .inl v0_states_data)), (h0_states_taken, .inl (cZ, 6, .inl v0_states_taken)), (h1, .inr (4, [.ref h1_data])), (h1_data, .inl (cI, 124, .inl v1_data))] 0 [(0, .ref h0), (1, .ref h1)] [] := by
  unfold fX2_push at hF
  refine V_aload_n (pc := 0) h 0 dX2_push_0 rfl ?_
  refine V_aload_n (pc := 1) h 0 dX2_push_1 rfl ?_
  refine V_get (pc := 2) h uX2_push_inX2 0 1 rfl rfl (by decide) uX2_push_f20 rfl rfl dX2_push_2 ?_
  refine V_iconst (pc := 5) h (v := (1 : Int32)) dX2_push_5 (by decide) ?_
  refine V_iadd (pc := 6) h dX2_push_6 ?_
  refine V_bipush (pc := 7) h (v := (6 : Int32)) dX2_push_7 (by decide) ?_
  refine V_irem (pc := 9) h dX2_push_9 (by decide) ?_
  refine V_bnd hF (fun y10 hF => ?_)
  refine V_put (pc := 10) h uX2_push_inX2 tyX2 tyX2_ok nmX2 0 1 rfl rfl (by decide) uX2_push_f20 rfl rfl (by decide +kernel) (Nat.le_of_ble_eq_true rfl) [(h0, .inr (2, [.ref h0_states, .int y10, .int v0_known])), (h0_states, .inr (3, [.ref h0_states_data, .ref h0_states_taken])), (h0_states_data, .inl (cI, 744, .inl v0_states_data)), (h0_states_taken, .inl (cZ, 6, .inl v0_states_taken)), (h1, .inr (4, [.ref h1_data])), (h1_data, .inl (cI, 124, .inl v1_data))] rfl dX2_push_10 ?_
  refine V_aload_n (pc := 13) h 0 dX2_push_13 rfl ?_
  refine V_get (pc := 14) h uX2_push_inX2 0 0 rfl rfl (by decide) uX2_push_f14 rfl rfl dX2_push_14 ?_
  refine V_aload_n (pc := 17) h 0 dX2_push_17 rfl ?_
  refine V_get (pc := 18) h uX2_push_inX2 0 1 rfl rfl (by decide) uX2_push_f20 rfl rfl dX2_push_18 ?_
  refine V_aload_n (pc := 21) h 1 dX2_push_21 rfl ?_
  refine V_cvV (pc := 22) h (n := 2) (bytes := cX3_put) (maxL := 3) (As := [.int y10, .ref h1]) (rest := []) gX2_push_X3_put (by decide +kernel) rfl rfl rfl rfl ⟨rfl, rfl⟩ ⟨Nat.le_of_ble_eq_true rfl, Nat.le_of_ble_eq_true rfl⟩ [1, 2, 3, 4, 5] rfl (by decide) rfl (fun r22 => [(h0, .inr (2, [.ref h0_states, .int y10, .int v0_known])), (h0_states, .inr (3, [.ref h0_states_data, .ref h0_states_taken])), (h0_states_data, .inl (cI, 744, .inl r22.1)), (h0_states_taken, .inl (cZ, 6, .inl r22.2)), (h1, .inr (4, [.ref h1_data])), (h1_data, .inl (cI, 124, .inl v1_data))]) (fun _ => rfl) (fun _ => rfl) rfl (Nat.le_of_ble_eq_true rfl) dX2_push_22 hF (fun r22 hG => k_X3_put l D cI cZ h0_states h0_states_data h0_states_taken h1 h1_data 744 6 v0_states_data v0_states_taken v1_data y10 hG) (fun r22 hF => ?_)
  refine V_aload_n (pc := 25) h 0 dX2_push_25 rfl ?_
  refine V_aload_n (pc := 26) h 0 dX2_push_26 rfl ?_
  refine V_get (pc := 27) h uX2_push_inX2 0 2 rfl rfl (by decide) uX2_push_f28 rfl rfl dX2_push_27 ?_
  refine V_iconst (pc := 30) h (v := (1 : Int32)) dX2_push_30 (by decide) ?_
  refine V_iadd (pc := 31) h dX2_push_31 ?_
  refine V_bipush (pc := 32) h (v := (6 : Int32)) dX2_push_32 (by decide) ?_
  refine V_mmin (pc := 34) h uX2_push_mmin1 uX2_push_mmin2 uX2_push_mmin3 uX2_push_mmin4 (Nat.le_of_ble_eq_true rfl) (Nat.le_of_ble_eq_true rfl) dX2_push_34 ?_
  refine V_bnd hF (fun y37 hF => ?_)
  refine V_put (pc := 37) h uX2_push_inX2 tyX2 tyX2_ok nmX2 0 2 rfl rfl (by decide) uX2_push_f28 rfl rfl (by decide +kernel) (Nat.le_of_ble_eq_true rfl) [(h0, .inr (2, [.ref h0_states, .int y10, .int y37])), (h0_states, .inr (3, [.ref h0_states_data, .ref h0_states_taken])), (h0_states_data, .inl (cI, 744, .inl r22.1)), (h0_states_taken, .inl (cZ, 6, .inl r22.2)), (h1, .inr (4, [.ref h1_data])), (h1_data, .inl (cI, 124, .inl v1_data))] rfl dX2_push_37 ?_
  have hF := Option.some.inj hF
  subst hF
  exact V_vret (pc := 40) h dX2_push_40
set_option maxRecDepth 100000 in
theorem k_X2_push (l : Launch) (D : va_G) (cI cZ : ClassId) (h0 h0_states h0_states_data h0_states_taken h1 h1_data : Nat) (v0_newest : Int32) (v0_known : Int32) (v0_states_data : (Nat → Int32)) (v0_states_taken : (Nat → Int32)) (v1_data : (Nat → Int32)) {o : Int32 × Int32 × (Nat → Int32) × (Nat → Int32)} (hF : fX2_push v1_data v0_newest v0_known v0_states_data v0_states_taken = some o) : CV l yX2_push wsX2_push rmX2_push D cI cZ [.ref h0, .ref h1] [(h0, .inr (2, [.ref h0_states, .int v0_newest, .int v0_known])), (h0_states, .inr (3, [.ref h0_states_data, .ref h0_states_taken])), (h0_states_data, .inl (cI, 744, .inl v0_states_data)), (h0_states_taken, .inl (cZ, 6, .inl v0_states_taken)), (h1, .inr (4, [.ref h1_data])), (h1_data, .inl (cI, 124, .inl v1_data))] [(h0, .inr (2, [.ref h0_states, .int o.1, .int o.2.1])), (h0_states, .inr (3, [.ref h0_states_data, .ref h0_states_taken])), (h0_states_data, .inl (cI, 744, .inl o.2.2.1)), (h0_states_taken, .inl (cZ, 6, .inl o.2.2.2)), (h1, .inr (4, [.ref h1_data])), (h1_data, .inl (cI, 124, .inl v1_data))] :=
  CV_of (cc := cX2_push) (nL := 2) (ret := none) (by decide) rfl (Nat.le_of_ble_eq_true rfl) rfl (fun p e s m args below meth c A h => tfX2_push h hF)
/-! X3_has -/
abbrev rmX3_has : Room := { frames := 0, cells := 0, slots := 0, locals := 0 }
theorem uX3_has_inX3 : ∀ w ∈ wsX30, w ∈ wsX3_has := by decide +kernel
theorem uX3_has_f21 : Cond.fieldLink RX3 21 "LeafAsks$Shelf" "taken" "[Z" ∈ wsX3_has := by decide +kernel
noncomputable def fX3_has (n0_data : Nat) (n0_taken : Nat) (v0_taken : (Nat → Int32)) (x1 : Int32) : Option (Int32) :=
  if x1 < (0 : Int32) then some (0 : Int32) else if (Int32.ofNat n0_taken) ≤ x1 then some (0 : Int32) else gin x1 n0_taken (if (v0_taken x1.toNatClampNeg) = (0 : Int32) then some (0 : Int32) else some (1 : Int32))
set_option maxRecDepth 100000 in
set_option maxHeartbeats 4000000 in
theorem tfX3_has {p : Program} {l : Launch} {e : Env} {s : State} {m : MethodId} {args : Array Value} {below : List Frame} {meth : Method} {c : Code} {A : Nat → Prop} {D : va_G} {cI cZ : ClassId} (h : Cx p s m args meth c A D cI cZ 2 cX3_has RX3 wsX3_has (some .boolean)) {h0 h0_data h0_taken : Nat} {x1 : Int32} {n0_data : Nat} {n0_taken : Nat} {v0_data : (Nat → Int32)} {v0_taken : (Nat → Int32)} {o : Int32} (hF : fX3_has n0_data n0_taken v0_taken x1 = some o) : V p l e rmX3_has s m args below meth c A D 2 (QI D [(h0, .inr (3, [.ref h0_data, .ref h0_taken])), (h0_data, .inl (cI, n0_data, .inl v0_data)), (h0_taken, .inl (cZ, n0_taken, .inl v0_taken))] o A below args s) [(h0, .inr (3, [.ref h0_data, .ref h0_taken])), (h0_data, .inl (cI, n0_data, .inl v0_data)), (h0_taken, .inl (cZ, n0_taken, .inl v0_taken))] 0 [(0, .ref h0), (1, .int x1)] [] := by
  unfold fX3_has at hF
  refine V_iload_n (pc := 0) h 1 dX3_has_0 rfl ?_
  refine V_if_lt (pc := 1) h (tgt := 26) dX3_has_1 (by decide) hF (fun hF => ?_) (fun hF => ?_)
  · refine V_iconst (pc := 26) h (v := (0 : Int32)) dX3_has_26 (by decide) ?_
    have hF := Option.some.inj hF
    subst hF
    exact V_zret (pc := 27) h (Or.inl rfl) dX3_has_27
  · refine V_iload_n (pc := 4) h 1 dX3_has_4 rfl ?_
    refine V_aload_n (pc := 5) h 0 dX3_has_5 rfl ?_
    refine V_get (pc := 6) h uX3_has_inX3 0 1 rfl rfl (by decide) uX3_has_f21 rfl rfl dX3_has_6 ?_
    refine V_alenZ (pc := 9) h (v := Int32.ofNat n0_taken) 2 rfl rfl dX3_has_9 ?_
    refine V_icmp_ge (pc := 10) h (tgt := 26) dX3_has_10 (by decide) hF (fun hF => ?_) (fun hF => ?_)
    · refine V_iconst (pc := 26) h (v := (0 : Int32)) dX3_has_26 (by decide) ?_
      have hF := Option.some.inj hF
      subst hF
      exact V_zret (pc := 27) h (Or.inl rfl) dX3_has_27
    · refine V_aload_n (pc := 13) h 0 dX3_has_13 rfl ?_
      refine V_get (pc := 14) h uX3_has_inX3 0 1 rfl rfl (by decide) uX3_has_f21 rfl rfl dX3_has_14 ?_
      refine V_iload_n (pc := 17) h 1 dX3_has_17 rfl ?_
      refine V_zald (pc := 18) h 2 rfl dX3_has_18 hF (fun hF => ?_)
      refine V_if_eq (pc := 19) h (tgt := 26) dX3_has_19 (by decide) hF (fun hF => ?_) (fun hF => ?_)
      · refine V_iconst (pc := 26) h (v := (0 : Int32)) dX3_has_26 (by decide) ?_
        have hF := Option.some.inj hF
        subst hF
        exact V_zret (pc := 27) h (Or.inl rfl) dX3_has_27
      · refine V_iconst (pc := 22) h (v := (1 : Int32)) dX3_has_22 (by decide) ?_
        refine V_goto (pc := 23) h (tgt := 27) dX3_has_23 (by decide) ?_
        have hF := Option.some.inj hF
        subst hF
        exact V_zret (pc := 27) h (Or.inr rfl) dX3_has_27
set_option maxRecDepth 100000 in
theorem k_X3_has (l : Launch) (D : va_G) (cI cZ : ClassId) (h0 h0_data h0_taken : Nat) (n0_data : Nat) (n0_taken : Nat) (v0_data : (Nat → Int32)) (v0_taken : (Nat → Int32)) (x1 : Int32) {o : Int32} (hF : fX3_has n0_data n0_taken v0_taken x1 = some o) : CI l yX3_has wsX3_has rmX3_has D cI cZ [.ref h0, .int x1] [(h0, .inr (3, [.ref h0_data, .ref h0_taken])), (h0_data, .inl (cI, n0_data, .inl v0_data)), (h0_taken, .inl (cZ, n0_taken, .inl v0_taken))] [(h0, .inr (3, [.ref h0_data, .ref h0_taken])), (h0_data, .inl (cI, n0_data, .inl v0_data)), (h0_taken, .inl (cZ, n0_taken, .inl v0_taken))] o :=
  CI_of (cc := cX3_has) (nL := 2) (ret := (some .boolean)) (by decide) rfl (Nat.le_of_ble_eq_true rfl) rfl (fun p e s m args below meth c A h => tfX3_has h hF)
/-! X4_loadFrom -/
abbrev rmX4_loadFrom : Room := { frames := 1, cells := 0, slots := 0, locals := 40 }
theorem uX4_loadFrom_inX4 : ∀ w ∈ wsX40, w ∈ wsX4_loadFrom := by decide +kernel
theorem uX4_loadFrom_f11 : Cond.fieldLink RX4 11 "LeafAsks$State" "data" "[I" ∈ wsX4_loadFrom := by decide +kernel
theorem uX4_loadFrom_ac1 : Cond.methodLink RX4 38 arraycopyName ∈ wsX4_loadFrom := by decide +kernel
theorem uX4_loadFrom_ac2 : Cond.native arraycopyName ∈ wsX4_loadFrom := by decide +kernel
theorem uX4_loadFrom_ac3 : Cond.static arraycopyName ∈ wsX4_loadFrom := by decide +kernel
theorem uX4_loadFrom_ac4 : Cond.initialized "java/lang/System" ∈ wsX4_loadFrom := by decide +kernel
noncomputable def fX4_loadFrom (n1 : Nat) (v1 : (Nat → Int32)) (x2 : Int32) (v0_data : (Nat → Int32)) : Option ((Nat → Int32)) :=
  if x2 < (0 : Int32) then some v0_data else if ((Int32.ofNat n1) - (124 : Int32)) < x2 then some v0_data else gcp x2 (0 : Int32) (124 : Int32) n1 124 (some ((va_cpy v1 v0_data x2.toNatClampNeg (0 : Int32).toNatClampNeg (124 : Int32).toNatClampNeg)))
set_option maxRecDepth 100000 in
set_option maxHeartbeats 4000000 in
theorem tfX4_loadFrom {p : Program} {l : Launch} {e : Env} {s : State} {m : MethodId} {args : Array Value} {below : List Frame} {meth : Method} {c : Code} {A : Nat → Prop} {D : va_G} {cI cZ : ClassId} (h : Cx p s m args meth c A D cI cZ 3 cX4_loadFrom RX4 wsX4_loadFrom none) {h0 h0_data h1 : Nat} {x2 : Int32} {n1 : Nat} {v1 : (Nat → Int32)} {v0_data : (Nat → Int32)} {o : (Nat → Int32)} (hF : fX4_loadFrom n1 v1 x2 v0_data = some o) : V p l e rmX4_loadFrom s m args below meth c A D 3 (QV D [(h0, .inr (4, [.ref h0_data])), (h0_data, .inl (cI, 124, .inl o)), (h1, .inl (cI, n1, .inl v1))] A below args s) [(h0, .inr (4, [.ref h0_data])), (h0_data, .inl (cI, 124, .inl v0_data)), (h1, .inl (cI, n1, .inl v1))] 0 [(0, .ref h0), (1, .ref h1), (2, .int x2)] [] := by
  unfold fX4_loadFrom at hF
  refine V_iload_n (pc := 0) h 2 dX4_loadFrom_0 rfl ?_
  refine V_if_lt (pc := 1) h (tgt := 25) dX4_loadFrom_1 (by decide) hF (fun hF => ?_) (fun hF => ?_)
  · have hF := Option.some.inj hF
    subst hF
    exact V_vret (pc := 25) h dX4_loadFrom_25
  · refine V_iload_n (pc := 4) h 2 dX4_loadFrom_4 rfl ?_
    refine V_aload_n (pc := 5) h 1 dX4_loadFrom_5 rfl ?_
    refine V_alenI (pc := 6) h (v := Int32.ofNat n1) 2 rfl rfl dX4_loadFrom_6 ?_
    refine V_bipush (pc := 7) h (v := (124 : Int32)) dX4_loadFrom_7 (by decide) ?_
    refine V_isub (pc := 9) h dX4_loadFrom_9 ?_
    refine V_icmp_gt (pc := 10) h (tgt := 25) dX4_loadFrom_10 (by decide) hF (fun hF => ?_) (fun hF => ?_)
    · have hF := Option.some.inj hF
      subst hF
      exact V_vret (pc := 25) h dX4_loadFrom_25
    · refine V_aload_n (pc := 13) h 1 dX4_loadFrom_13 rfl ?_
      refine V_iload_n (pc := 14) h 2 dX4_loadFrom_14 rfl ?_
      refine V_aload_n (pc := 15) h 0 dX4_loadFrom_15 rfl ?_
      refine V_get (pc := 16) h uX4_loadFrom_inX4 0 0 rfl rfl (by decide) uX4_loadFrom_f11 rfl rfl dX4_loadFrom_16 ?_
      refine V_iconst (pc := 19) h (v := (0 : Int32)) dX4_loadFrom_19 (by decide) ?_
      refine V_bipush (pc := 20) h (v := (124 : Int32)) dX4_loadFrom_20 (by decide) ?_
      refine V_copy (pc := 22) h 2 1 rfl rfl uX4_loadFrom_ac1 uX4_loadFrom_ac2 uX4_loadFrom_ac3 uX4_loadFrom_ac4 [(h0, .inr (4, [.ref h0_data])), (h0_data, .inl (cI, 124, .inl (va_cpy v1 v0_data x2.toNatClampNeg (0 : Int32).toNatClampNeg (124 : Int32).toNatClampNeg))), (h1, .inl (cI, n1, .inl v1))] rfl (Nat.le_of_ble_eq_true rfl) (Nat.le_of_ble_eq_true rfl) dX4_loadFrom_22 hF (fun hF => ?_)
      have hF := Option.some.inj hF
      subst hF
      exact V_vret (pc := 25) h dX4_loadFrom_25
set_option maxRecDepth 100000 in
theorem k_X4_loadFrom (l : Launch) (D : va_G) (cI cZ : ClassId) (h0 h0_data h1 : Nat) (n1 : Nat) (v0_data : (Nat → Int32)) (v1 : (Nat → Int32)) (x2 : Int32) {o : (Nat → Int32)} (hF : fX4_loadFrom n1 v1 x2 v0_data = some o) : CV l yX4_loadFrom wsX4_loadFrom rmX4_loadFrom D cI cZ [.ref h0, .ref h1, .int x2] [(h0, .inr (4, [.ref h0_data])), (h0_data, .inl (cI, 124, .inl v0_data)), (h1, .inl (cI, n1, .inl v1))] [(h0, .inr (4, [.ref h0_data])), (h0_data, .inl (cI, 124, .inl o)), (h1, .inl (cI, n1, .inl v1))] :=
  CV_of (cc := cX4_loadFrom) (nL := 3) (ret := none) (by decide) rfl (Nat.le_of_ble_eq_true rfl) rfl (fun p e s m args below meth c A h => tfX4_loadFrom h hF)
/-! X3_bring -/
abbrev rmX3_bring : Room := { frames := 2, cells := 0, slots := 0, locals := 62 }
theorem uX3_bring_inX3 : ∀ w ∈ wsX30, w ∈ wsX3_bring := by decide +kernel
theorem uX3_bring_f15 : Cond.fieldLink RX3 15 "LeafAsks$Shelf" "data" "[I" ∈ wsX3_bring := by decide +kernel
noncomputable def fX3_bring (n0_data : Nat) (n0_taken : Nat) (v0_data : (Nat → Int32)) (v0_taken : (Nat → Int32)) (x1 : Int32) (v2_data : (Nat → Int32)) : Option ((Nat → Int32)) :=
  bd (fX3_has n0_data n0_taken v0_taken x1) (fun r2 => if r2 = (0 : Int32) then some v2_data else bd (fX4_loadFrom n0_data v0_data (x1 * (124 : Int32)) v2_data) (fun r17 => some r17))
set_option maxRecDepth 100000 in
set_option maxHeartbeats 4000000 in
theorem tfX3_bring {p : Program} {l : Launch} {e : Env} {s : State} {m : MethodId} {args : Array Value} {below : List Frame} {meth : Method} {c : Code} {A : Nat → Prop} {D : va_G} {cI cZ : ClassId} (h : Cx p s m args meth c A D cI cZ 3 cX3_bring RX3 wsX3_bring none) {h0 h0_data h0_taken h2 h2_data : Nat} {x1 : Int32} {n0_data : Nat} {n0_taken : Nat} {v0_data : (Nat → Int32)} {v0_taken : (Nat → Int32)} {v2_data : (Nat → Int32)} {o : (Nat → Int32)} (hF : fX3_bring n0_data n0_taken v0_data v0_taken x1 v2_data = some o) : V p l e rmX3_bring s m args below meth c A D 3 (QV D [(h0, .inr (3, [.ref h0_data, .ref h0_taken])), (h0_data, .inl (cI, n0_data, .inl v0_data)), (h0_taken, .inl (cZ, n0_taken, .inl v0_taken)), (h2, .inr (4, [.ref h2_data])), (h2_data, .inl (cI, 124, .inl o))] A below args s) [(h0, .inr (3, [.ref h0_data, .ref h0_taken])), (h0_data, .inl (cI, n0_data, .inl v0_data)), (h0_taken, .inl (cZ, n0_taken, .inl v0_taken)), (h2, .inr (4, [.ref h2_data])), (h2_data, .inl (cI, 124, .inl v2_data))] 0 [(0, .ref h0), (1, .int x1), (2, .ref h2)] [] := by
  unfold fX3_bring at hF
  refine V_aload_n (pc := 0) h 0 dX3_bring_0 rfl ?_
  refine V_iload_n (pc := 1) h 1 dX3_bring_1 rfl ?_
  refine V_ciV (pc := 2) h (n := 1) (bytes := cX3_has) (maxL := 2) (As := [.int x1]) (rest := []) gX3_bring_X3_has (by decide +kernel) rfl rfl rfl rfl ⟨rfl, rfl⟩ ⟨Nat.le_of_ble_eq_true rfl, Nat.le_of_ble_eq_true rfl⟩ [0, 1, 2] rfl (by decide) rfl (fun r2 => [(h0, .inr (3, [.ref h0_data, .ref h0_taken])), (h0_data, .inl (cI, n0_data, .inl v0_data)), (h0_taken, .inl (cZ, n0_taken, .inl v0_taken)), (h2, .inr (4, [.ref h2_data])), (h2_data, .inl (cI, 124, .inl v2_data))]) (fun _ => rfl) (fun _ => rfl) rfl (Nat.le_of_ble_eq_true rfl) dX3_bring_2 hF (fun r2 hG => k_X3_has l D cI cZ h0 h0_data h0_taken n0_data n0_taken v0_data v0_taken x1 hG) (fun r2 hF => ?_)
  refine V_if_eq (pc := 5) h (tgt := 20) dX3_bring_5 (by decide) hF (fun hF => ?_) (fun hF => ?_)
  · have hF := Option.some.inj hF
    subst hF
    exact V_vret (pc := 20) h dX3_bring_20
  · refine V_aload_n (pc := 8) h 2 dX3_bring_8 rfl ?_
    refine V_aload_n (pc := 9) h 0 dX3_bring_9 rfl ?_
    refine V_get (pc := 10) h uX3_bring_inX3 0 0 rfl rfl (by decide) uX3_bring_f15 rfl rfl dX3_bring_10 ?_
    refine V_iload_n (pc := 13) h 1 dX3_bring_13 rfl ?_
    refine V_bipush (pc := 14) h (v := (124 : Int32)) dX3_bring_14 (by decide) ?_
    refine V_imul (pc := 16) h dX3_bring_16 ?_
    refine V_cvV (pc := 17) h (n := 2) (bytes := cX4_loadFrom) (maxL := 3) (As := [.ref h0_data, .int (x1 * (124 : Int32))]) (rest := []) gX3_bring_X4_loadFrom (by decide +kernel) rfl rfl rfl rfl ⟨rfl, rfl⟩ ⟨Nat.le_of_ble_eq_true rfl, Nat.le_of_ble_eq_true rfl⟩ [3, 4, 1] rfl (by decide) rfl (fun r17 => [(h0, .inr (3, [.ref h0_data, .ref h0_taken])), (h0_data, .inl (cI, n0_data, .inl v0_data)), (h0_taken, .inl (cZ, n0_taken, .inl v0_taken)), (h2, .inr (4, [.ref h2_data])), (h2_data, .inl (cI, 124, .inl r17))]) (fun _ => rfl) (fun _ => rfl) rfl (Nat.le_of_ble_eq_true rfl) dX3_bring_17 hF (fun r17 hG => k_X4_loadFrom l D cI cZ h2 h2_data h0_data n0_data v2_data v0_data (x1 * (124 : Int32)) hG) (fun r17 hF => ?_)
    have hF := Option.some.inj hF
    subst hF
    exact V_vret (pc := 20) h dX3_bring_20
set_option maxRecDepth 100000 in
theorem k_X3_bring (l : Launch) (D : va_G) (cI cZ : ClassId) (h0 h0_data h0_taken h2 h2_data : Nat) (n0_data : Nat) (n0_taken : Nat) (v0_data : (Nat → Int32)) (v0_taken : (Nat → Int32)) (v2_data : (Nat → Int32)) (x1 : Int32) {o : (Nat → Int32)} (hF : fX3_bring n0_data n0_taken v0_data v0_taken x1 v2_data = some o) : CV l yX3_bring wsX3_bring rmX3_bring D cI cZ [.ref h0, .int x1, .ref h2] [(h0, .inr (3, [.ref h0_data, .ref h0_taken])), (h0_data, .inl (cI, n0_data, .inl v0_data)), (h0_taken, .inl (cZ, n0_taken, .inl v0_taken)), (h2, .inr (4, [.ref h2_data])), (h2_data, .inl (cI, 124, .inl v2_data))] [(h0, .inr (3, [.ref h0_data, .ref h0_taken])), (h0_data, .inl (cI, n0_data, .inl v0_data)), (h0_taken, .inl (cZ, n0_taken, .inl v0_taken)), (h2, .inr (4, [.ref h2_data])), (h2_data, .inl (cI, 124, .inl o))] :=
  CV_of (cc := cX3_bring) (nL := 3) (ret := none) (by decide) rfl (Nat.le_of_ble_eq_true rfl) rfl (fun p e s m args below meth c A h => tfX3_bring h hF)
/-! X2_pop -/
abbrev rmX2_pop : Room := { frames := 3, cells := 0, slots := 0, locals := 84 }
theorem uX2_pop_inX2 : ∀ w ∈ wsX20, w ∈ wsX2_pop := by decide +kernel
theorem uX2_pop_f28 : Cond.fieldLink RX2 28 "LeafAsks$Past" "known" "I" ∈ wsX2_pop := by decide +kernel
theorem uX2_pop_f14 : Cond.fieldLink RX2 14 "LeafAsks$Past" "states" "LLeafAsks$Shelf;" ∈ wsX2_pop := by decide +kernel
theorem uX2_pop_f20 : Cond.fieldLink RX2 20 "LeafAsks$Past" "newest" "I" ∈ wsX2_pop := by decide +kernel
noncomputable def fX2_pop (v0_states_data : (Nat → Int32)) (v0_states_taken : (Nat → Int32)) (v0_newest : Int32) (v0_known : Int32) (v1_data : (Nat → Int32)) : Option (Int32 × Int32 × (Nat → Int32)) :=
  if v0_known ≤ (0 : Int32) then some (v0_newest, v0_known, v1_data) else bd (fX3_bring 744 6 v0_states_data v0_states_taken v0_newest v1_data) (fun r16 => bnd (jrem ((v0_newest + (6 : Int32)) - (1 : Int32)) (6 : Int32)) (fun y32 => bnd (v0_known - (1 : Int32)) (fun y42 => some (y32, y42, r16))))
set_option maxRecDepth 100000 in
set_option maxHeartbeats 4000000 in
theorem tfX2_pop {p : Program} {l : Launch} {e : Env} {s : State} {m : MethodId} {args : Array Value} {below : List Frame} {meth : Method} {c : Code} {A : Nat → Prop} {D : va_G} {cI cZ : ClassId} (h : Cx p s m args meth c A D cI cZ 2 cX2_pop RX2 wsX2_pop none) {h0 h0_states h0_states_data h0_states_taken h1 h1_data : Nat} {v0_states_data : (Nat → Int32)} {v0_states_taken : (Nat → Int32)} {v0_newest : Int32} {v0_known : Int32} {v1_data : (Nat → Int32)} {o : Int32 × Int32 × (Nat → Int32)} (hF : fX2_pop v0_states_data v0_states_taken v0_newest v0_known v1_data = some o) : V p l e rmX2_pop s m args below meth c A D 2 (QV D [(h0, .inr (2, [.ref h0_states, .int o.1, .int o.2.1])), (h0_states, .inr (3, [.ref h0_states_data, .ref h0_states_taken])), (h0_states_data, .inl (cI, 744, .inl v0_states_data)), (h0_states_taken, .inl (cZ, 6, .inl v0_states_taken)), (h1, .inr (4, [.ref h1_data])), (h1_data, .inl (cI, 124, .inl o.2.2))] A below args s) [(h0, .inr (2, [.ref h0_states, .int v0_newest, .int v0_known])), (h0_states, .inr (3, [.ref h0_states_data, .ref h0_states_taken])), (h0_states_data, .inl (cI, 744, .inl v0_states_data)), (h0_states_taken, .inl (cZ, 6, .inl v0_states_taken)), (h1, .inr (4, [.ref h1_data])), (h1_data, .inl (cI, 124, .inl v1_data))] 0 [(0, .ref h0), (1, .ref h1)] [] := by
  unfold fX2_pop at hF
  refine V_aload_n (pc := 0) h 0 dX2_pop_0 rfl ?_
  refine V_get (pc := 1) h uX2_pop_inX2 0 2 rfl rfl (by decide) uX2_pop_f28 rfl rfl dX2_pop_1 ?_
  refine V_if_le (pc := 4) h (tgt := 45) dX2_pop_4 (by decide) hF (fun hF => ?_) (fun hF => ?_)
  · have hF := Option.some.inj hF
    subst hF
    exact V_vret (pc := 45) h dX2_pop_45
  · refine V_aload_n (pc := 7) h 0 dX2_pop_7 rfl ?_
    refine V_get (pc := 8) h uX2_pop_inX2 0 0 rfl rfl (by decide) uX2_pop_f14 rfl rfl dX2_pop_8 ?_
    refine V_aload_n (pc := 11) h 0 dX2_pop_11 rfl ?_
    refine V_get (pc := 12) h uX2_pop_inX2 0 1 rfl rfl (by decide) uX2_pop_f20 rfl rfl dX2_pop_12 ?_
    refine V_aload_n (pc := 15) h 1 dX2_pop_15 rfl ?_
    refine V_cvV (pc := 16) h (n := 2) (bytes := cX3_bring) (maxL := 3) (As := [.int v0_newest, .ref h1]) (rest := []) gX2_pop_X3_bring (by decide +kernel) rfl rfl rfl rfl ⟨rfl, rfl⟩ ⟨Nat.le_of_ble_eq_true rfl, Nat.le_of_ble_eq_true rfl⟩ [1, 2, 3, 4, 5] rfl (by decide) rfl (fun r16 => [(h0, .inr (2, [.ref h0_states, .int v0_newest, .int v0_known])), (h0_states, .inr (3, [.ref h0_states_data, .ref h0_states_taken])), (h0_states_data, .inl (cI, 744, .inl v0_states_data)), (h0_states_taken, .inl (cZ, 6, .inl v0_states_taken)), (h1, .inr (4, [.ref h1_data])), (h1_data, .inl (cI, 124, .inl r16))]) (fun _ => rfl) (fun _ => rfl) rfl (Nat.le_of_ble_eq_true rfl) dX2_pop_16 hF (fun r16 hG => k_X3_bring l D cI cZ h0_states h0_states_data h0_states_taken h1 h1_data 744 6 v0_states_data v0_states_taken v1_data v0_newest hG) (fun r16 hF => ?_)
    refine V_aload_n (pc := 19) h 0 dX2_pop_19 rfl ?_
    refine V_aload_n (pc := 20) h 0 dX2_pop_20 rfl ?_
    refine V_get (pc := 21) h uX2_pop_inX2 0 1 rfl rfl (by decide) uX2_pop_f20 rfl rfl dX2_pop_21 ?_
    refine V_bipush (pc := 24) h (v := (6 : Int32)) dX2_pop_24 (by decide) ?_
    refine V_iadd (pc := 26) h dX2_pop_26 ?_
    refine V_iconst (pc := 27) h (v := (1 : Int32)) dX2_pop_27 (by decide) ?_
    refine V_isub (pc := 28) h dX2_pop_28 ?_
    refine V_bipush (pc := 29) h (v := (6 : Int32)) dX2_pop_29 (by decide) ?_
    refine V_irem (pc := 31) h dX2_pop_31 (by decide) ?_
    refine V_bnd hF (fun y32 hF => ?_)
    refine V_put (pc := 32) h uX2_pop_inX2 tyX2 tyX2_ok nmX2 0 1 rfl rfl (by decide) uX2_pop_f20 rfl rfl (by decide +kernel) (Nat.le_of_ble_eq_true rfl) [(h0, .inr (2, [.ref h0_states, .int y32, .int v0_known])), (h0_states, .inr (3, [.ref h0_states_data, .ref h0_states_taken])), (h0_states_data, .inl (cI, 744, .inl v0_states_data)), (h0_states_taken, .inl (cZ, 6, .inl v0_states_taken)), (h1, .inr (4, [.ref h1_data])), (h1_data, .inl (cI, 124, .inl r16))] rfl dX2_pop_32 ?_
    refine V_aload_n (pc := 35) h 0 dX2_pop_35 rfl ?_
    refine V_dup (pc := 36) h dX2_pop_36 rfl ?_
    refine V_get (pc := 37) h uX2_pop_inX2 0 2 rfl rfl (by decide) uX2_pop_f28 rfl rfl dX2_pop_37 ?_
    refine V_iconst (pc := 40) h (v := (1 : Int32)) dX2_pop_40 (by decide) ?_
    refine V_isub (pc := 41) h dX2_pop_41 ?_
    refine V_bnd hF (fun y42 hF => ?_)
    refine V_put (pc := 42) h uX2_pop_inX2 tyX2 tyX2_ok nmX2 0 2 rfl rfl (by decide) uX2_pop_f28 rfl rfl (by decide +kernel) (Nat.le_of_ble_eq_true rfl) [(h0, .inr (2, [.ref h0_states, .int y32, .int y42])), (h0_states, .inr (3, [.ref h0_states_data, .ref h0_states_taken])), (h0_states_data, .inl (cI, 744, .inl v0_states_data)), (h0_states_taken, .inl (cZ, 6, .inl v0_states_taken)), (h1, .inr (4, [.ref h1_data])), (h1_data, .inl (cI, 124, .inl r16))] rfl dX2_pop_42 ?_
    have hF := Option.some.inj hF
    subst hF
    exact V_vret (pc := 45) h dX2_pop_45
set_option maxRecDepth 100000 in
theorem k_X2_pop (l : Launch) (D : va_G) (cI cZ : ClassId) (h0 h0_states h0_states_data h0_states_taken h1 h1_data : Nat) (v0_newest : Int32) (v0_known : Int32) (v0_states_data : (Nat → Int32)) (v0_states_taken : (Nat → Int32)) (v1_data : (Nat → Int32)) {o : Int32 × Int32 × (Nat → Int32)} (hF : fX2_pop v0_states_data v0_states_taken v0_newest v0_known v1_data = some o) : CV l yX2_pop wsX2_pop rmX2_pop D cI cZ [.ref h0, .ref h1] [(h0, .inr (2, [.ref h0_states, .int v0_newest, .int v0_known])), (h0_states, .inr (3, [.ref h0_states_data, .ref h0_states_taken])), (h0_states_data, .inl (cI, 744, .inl v0_states_data)), (h0_states_taken, .inl (cZ, 6, .inl v0_states_taken)), (h1, .inr (4, [.ref h1_data])), (h1_data, .inl (cI, 124, .inl v1_data))] [(h0, .inr (2, [.ref h0_states, .int o.1, .int o.2.1])), (h0_states, .inr (3, [.ref h0_states_data, .ref h0_states_taken])), (h0_states_data, .inl (cI, 744, .inl v0_states_data)), (h0_states_taken, .inl (cZ, 6, .inl v0_states_taken)), (h1, .inr (4, [.ref h1_data])), (h1_data, .inl (cI, 124, .inl o.2.2))] :=
  CV_of (cc := cX2_pop) (nL := 2) (ret := none) (by decide) rfl (Nat.le_of_ble_eq_true rfl) rfl (fun p e s m args below meth c A h => tfX2_pop h hF)
/-! X2_forget -/
abbrev rmX2_forget : Room := { frames := 0, cells := 0, slots := 0, locals := 0 }
theorem uX2_forget_inX2 : ∀ w ∈ wsX20, w ∈ wsX2_forget := by decide +kernel
theorem uX2_forget_f28 : Cond.fieldLink RX2 28 "LeafAsks$Past" "known" "I" ∈ wsX2_forget := by decide +kernel
noncomputable def fX2_forget (v0_known : Int32) : Option (Int32) :=
  some (0 : Int32)
set_option maxRecDepth 100000 in
set_option maxHeartbeats 4000000 in
theorem tfX2_forget {p : Program} {l : Launch} {e : Env} {s : State} {m : MethodId} {args : Array Value} {below : List Frame} {meth : Method} {c : Code} {A : Nat → Prop} {D : va_G} {cI cZ : ClassId} (h : Cx p s m args meth c A D cI cZ 1 cX2_forget RX2 wsX2_forget none) {h0 h0_states h0_states_data h0_states_taken : Nat} {v0_newest : Int32} {v0_states_data : (Nat → Int32)} {v0_states_taken : (Nat → Int32)} {v0_known : Int32} {o : Int32} (hF : fX2_forget v0_known = some o) : V p l e rmX2_forget s m args below meth c A D 1 (QV D [(h0, .inr (2, [.ref h0_states, .int v0_newest, .int o])), (h0_states, .inr (3, [.ref h0_states_data, .ref h0_states_taken])), (h0_states_data, .inl (cI, 744, .inl v0_states_data)), (h0_states_taken, .inl (cZ, 6, .inl v0_states_taken))] A below args s) [(h0, .inr (2, [.ref h0_states, .int v0_newest, .int v0_known])), (h0_states, .inr (3, [.ref h0_states_data, .ref h0_states_taken])), (h0_states_data, .inl (cI, 744, .inl v0_states_data)), (h0_states_taken, .inl (cZ, 6, .inl v0_states_taken))] 0 [(0, .ref h0)] [] := by
  unfold fX2_forget at hF
  refine V_aload_n (pc := 0) h 0 dX2_forget_0 rfl ?_
  refine V_iconst (pc := 1) h (v := (0 : Int32)) dX2_forget_1 (by decide) ?_
  refine V_put (pc := 2) h uX2_forget_inX2 tyX2 tyX2_ok nmX2 0 2 rfl rfl (by decide) uX2_forget_f28 rfl rfl (by decide +kernel) (Nat.le_of_ble_eq_true rfl) [(h0, .inr (2, [.ref h0_states, .int v0_newest, .int (0 : Int32)])), (h0_states, .inr (3, [.ref h0_states_data, .ref h0_states_taken])), (h0_states_data, .inl (cI, 744, .inl v0_states_data)), (h0_states_taken, .inl (cZ, 6, .inl v0_states_taken))] rfl dX2_forget_2 ?_
  have hF := Option.some.inj hF
  subst hF
  exact V_vret (pc := 5) h dX2_forget_5
set_option maxRecDepth 100000 in
theorem k_X2_forget (l : Launch) (D : va_G) (cI cZ : ClassId) (h0 h0_states h0_states_data h0_states_taken : Nat) (v0_newest : Int32) (v0_known : Int32) (v0_states_data : (Nat → Int32)) (v0_states_taken : (Nat → Int32)) {o : Int32} (hF : fX2_forget v0_known = some o) : CV l yX2_forget wsX2_forget rmX2_forget D cI cZ [.ref h0] [(h0, .inr (2, [.ref h0_states, .int v0_newest, .int v0_known])), (h0_states, .inr (3, [.ref h0_states_data, .ref h0_states_taken])), (h0_states_data, .inl (cI, 744, .inl v0_states_data)), (h0_states_taken, .inl (cZ, 6, .inl v0_states_taken))] [(h0, .inr (2, [.ref h0_states, .int v0_newest, .int o])), (h0_states, .inr (3, [.ref h0_states_data, .ref h0_states_taken])), (h0_states_data, .inl (cI, 744, .inl v0_states_data)), (h0_states_taken, .inl (cZ, 6, .inl v0_states_taken))] :=
  CV_of (cc := cX2_forget) (nL := 1) (ret := none) (by decide) rfl (Nat.le_of_ble_eq_true rfl) rfl (fun p e s m args below meth c A h => tfX2_forget h hF)
/-! X3_forget -/
abbrev rmX3_forget : Room := { frames := 0, cells := 0, slots := 0, locals := 0 }
theorem uX3_forget_inX3 : ∀ w ∈ wsX30, w ∈ wsX3_forget := by decide +kernel
theorem uX3_forget_f21 : Cond.fieldLink RX3 21 "LeafAsks$Shelf" "taken" "[Z" ∈ wsX3_forget := by decide +kernel
noncomputable def fX3_forget_b2 (n0_data : Nat) (n0_taken : Nat) (k2 : (Nat → Int32) → Int32 → Option ((Nat → Int32))) (v0_taken : (Nat → Int32)) (x1 : Int32) : Option ((Nat → Int32)) :=
  if (Int32.ofNat n0_taken) ≤ x1 then some v0_taken else gin x1 n0_taken (bnd (x1 + (1 : Int32)) (fun x1_18 => k2 (upd v0_taken x1.toNatClampNeg (0 : Int32)) x1_18))
set_option maxRecDepth 100000 in
set_option maxHeartbeats 4000000 in
theorem tfX3_forget_b2 {p : Program} {l : Launch} {e : Env} {s : State} {m : MethodId} {args : Array Value} {below : List Frame} {meth : Method} {c : Code} {A : Nat → Prop} {D : va_G} {cI cZ : ClassId} (h : Cx p s m args meth c A D cI cZ 2 cX3_forget RX3 wsX3_forget none) {h0 h0_data h0_taken : Nat} {n0_data : Nat} {n0_taken : Nat} {v0_data : (Nat → Int32)} {k2 : (Nat → Int32) → Int32 → Option ((Nat → Int32))} {v0_taken : (Nat → Int32)} {x1 : Int32} {o : (Nat → Int32)} (hk2 : ∀ (v0_taken : (Nat → Int32)) (x1 : Int32), k2 v0_taken x1 = some o → V p l e rmX3_forget s m args below meth c A D 2 (QV D [(h0, .inr (3, [.ref h0_data, .ref h0_taken])), (h0_data, .inl (cI, n0_data, .inl v0_data)), (h0_taken, .inl (cZ, n0_taken, .inl o))] A below args s) [(h0, .inr (3, [.ref h0_data, .ref h0_taken])), (h0_data, .inl (cI, n0_data, .inl v0_data)), (h0_taken, .inl (cZ, n0_taken, .inl v0_taken))] 2 [(0, .ref h0), (1, .int x1)] []) (hF : fX3_forget_b2 n0_data n0_taken k2 v0_taken x1 = some o) : V p l e rmX3_forget s m args below meth c A D 2 (QV D [(h0, .inr (3, [.ref h0_data, .ref h0_taken])), (h0_data, .inl (cI, n0_data, .inl v0_data)), (h0_taken, .inl (cZ, n0_taken, .inl o))] A below args s) [(h0, .inr (3, [.ref h0_data, .ref h0_taken])), (h0_data, .inl (cI, n0_data, .inl v0_data)), (h0_taken, .inl (cZ, n0_taken, .inl v0_taken))] 2 [(0, .ref h0), (1, .int x1)] [] := by
  unfold fX3_forget_b2 at hF
  refine V_iload_n (pc := 2) h 1 dX3_forget_2 rfl ?_
  refine V_aload_n (pc := 3) h 0 dX3_forget_3 rfl ?_
  refine V_get (pc := 4) h uX3_forget_inX3 0 1 rfl rfl (by decide) uX3_forget_f21 rfl rfl dX3_forget_4 ?_
  refine V_alenZ (pc := 7) h (v := Int32.ofNat n0_taken) 2 rfl rfl dX3_forget_7 ?_
  refine V_icmp_ge (pc := 8) h (tgt := 24) dX3_forget_8 (by decide) hF (fun hF => ?_) (fun hF => ?_)
  · have hF := Option.some.inj hF
    subst hF
    exact V_vret (pc := 24) h dX3_forget_24
  · refine V_aload_n (pc := 11) h 0 dX3_forget_11 rfl ?_
    refine V_get (pc := 12) h uX3_forget_inX3 0 1 rfl rfl (by decide) uX3_forget_f21 rfl rfl dX3_forget_12 ?_
    refine V_iload_n (pc := 15) h 1 dX3_forget_15 rfl ?_
    refine V_iconst (pc := 16) h (v := (0 : Int32)) dX3_forget_16 (by decide) ?_
    refine V_zast (pc := 17) h 2 rfl [(h0, .inr (3, [.ref h0_data, .ref h0_taken])), (h0_data, .inl (cI, n0_data, .inl v0_data)), (h0_taken, .inl (cZ, n0_taken, .inl (upd v0_taken x1.toNatClampNeg (0 : Int32))))] (by decide +kernel) rfl dX3_forget_17 hF (fun hF => ?_)
    refine V_iinc (pc := 18) h 1 (fun x1_18 => [(1, .int x1_18), (0, .ref h0)]) dX3_forget_18 rfl rfl (by decide) (fun _ => rfl) hF (fun x1_18 hF => ?_)
    refine V_goto (pc := 21) h (tgt := 2) dX3_forget_21 (by decide) ?_
    refine V_lv [1, 0] [(0, .ref h0), (1, .int x1_18)] rfl ?_
    exact hk2 _ _ hF
noncomputable def fX3_forget_l2 (n0_data : Nat) (n0_taken : Nat) (n : Nat) : (Nat → Int32) → Int32 → Option ((Nat → Int32)) :=
  Nat.rec (motive := fun _ => (Nat → Int32) → Int32 → Option ((Nat → Int32))) (fun _ _ => none) (fun _ ih => fX3_forget_b2 n0_data n0_taken ih) n
theorem fX3_forget_l2_s (n0_data : Nat) (n0_taken : Nat) (n : Nat) (v0_taken : (Nat → Int32)) (x1 : Int32) : fX3_forget_l2 n0_data n0_taken (n + 1) v0_taken x1 = fX3_forget_b2 n0_data n0_taken (fX3_forget_l2 n0_data n0_taken n) v0_taken x1 := rfl
set_option maxRecDepth 100000 in
set_option maxHeartbeats 4000000 in
theorem tfX3_forget_l2 {p : Program} {l : Launch} {e : Env} {s : State} {m : MethodId} {args : Array Value} {below : List Frame} {meth : Method} {c : Code} {A : Nat → Prop} {D : va_G} {cI cZ : ClassId} (h : Cx p s m args meth c A D cI cZ 2 cX3_forget RX3 wsX3_forget none) {h0 h0_data h0_taken : Nat} {n0_data : Nat} {n0_taken : Nat} {v0_data : (Nat → Int32)} {o : (Nat → Int32)} (n : Nat) : ∀ (v0_taken : (Nat → Int32)) (x1 : Int32) (hF : fX3_forget_l2 n0_data n0_taken n v0_taken x1 = some o), V p l e rmX3_forget s m args below meth c A D 2 (QV D [(h0, .inr (3, [.ref h0_data, .ref h0_taken])), (h0_data, .inl (cI, n0_data, .inl v0_data)), (h0_taken, .inl (cZ, n0_taken, .inl o))] A below args s) [(h0, .inr (3, [.ref h0_data, .ref h0_taken])), (h0_data, .inl (cI, n0_data, .inl v0_data)), (h0_taken, .inl (cZ, n0_taken, .inl v0_taken))] 2 [(0, .ref h0), (1, .int x1)] [] := by
  induction n with
  | zero => intro v0_taken x1 hF; exact nomatch (show (none : Option ((Nat → Int32))) = some o from hF)
  | succ n ih => intro v0_taken x1 hF; exact tfX3_forget_b2 (n0_data := n0_data) (n0_taken := n0_taken) (k2 := fX3_forget_l2 n0_data n0_taken n) h ih hF
noncomputable def fX3_forget (n0_data : Nat) (n0_taken : Nat) (v0_taken : (Nat → Int32)) : Option ((Nat → Int32)) :=
  fX3_forget_l2 n0_data n0_taken 1000 v0_taken (0 : Int32)
set_option maxRecDepth 100000 in
set_option maxHeartbeats 4000000 in
theorem tfX3_forget {p : Program} {l : Launch} {e : Env} {s : State} {m : MethodId} {args : Array Value} {below : List Frame} {meth : Method} {c : Code} {A : Nat → Prop} {D : va_G} {cI cZ : ClassId} (h : Cx p s m args meth c A D cI cZ 2 cX3_forget RX3 wsX3_forget none) {h0 h0_data h0_taken : Nat} {n0_data : Nat} {n0_taken : Nat} {v0_data : (Nat → Int32)} {v0_taken : (Nat → Int32)} {o : (Nat → Int32)} (hF : fX3_forget n0_data n0_taken v0_taken = some o) : V p l e rmX3_forget s m args below meth c A D 2 (QV D [(h0, .inr (3, [.ref h0_data, .ref h0_taken])), (h0_data, .inl (cI, n0_data, .inl v0_data)), (h0_taken, .inl (cZ, n0_taken, .inl o))] A below args s) [(h0, .inr (3, [.ref h0_data, .ref h0_taken])), (h0_data, .inl (cI, n0_data, .inl v0_data)), (h0_taken, .inl (cZ, n0_taken, .inl v0_taken))] 0 [(0, .ref h0)] [] := by
  unfold fX3_forget at hF
  refine V_iconst (pc := 0) h (v := (0 : Int32)) dX3_forget_0 (by decide) ?_
  refine V_istore_n (pc := 1) h [(1, .int (0 : Int32)), (0, .ref h0)] dX3_forget_1 (by decide) rfl ?_
  refine V_lv [1, 0] [(0, .ref h0), (1, .int (0 : Int32))] rfl ?_
  exact tfX3_forget_l2 h 1000 _ _ hF
set_option maxRecDepth 100000 in
theorem k_X3_forget (l : Launch) (D : va_G) (cI cZ : ClassId) (h0 h0_data h0_taken : Nat) (n0_data : Nat) (n0_taken : Nat) (v0_data : (Nat → Int32)) (v0_taken : (Nat → Int32)) {o : (Nat → Int32)} (hF : fX3_forget n0_data n0_taken v0_taken = some o) : CV l yX3_forget wsX3_forget rmX3_forget D cI cZ [.ref h0] [(h0, .inr (3, [.ref h0_data, .ref h0_taken])), (h0_data, .inl (cI, n0_data, .inl v0_data)), (h0_taken, .inl (cZ, n0_taken, .inl v0_taken))] [(h0, .inr (3, [.ref h0_data, .ref h0_taken])), (h0_data, .inl (cI, n0_data, .inl v0_data)), (h0_taken, .inl (cZ, n0_taken, .inl o))] :=
  CV_of (cc := cX3_forget) (nL := 2) (ret := none) (by decide) rfl (Nat.le_of_ble_eq_true rfl) rfl (fun p e s m args below meth c A h => tfX3_forget h hF)
/-! J7_fill_53178 -/
abbrev rmJ7_fill_53178 : Room := { frames := 0, cells := 0, slots := 0, locals := 0 }
noncomputable def fJ7_fill_53178_b5 (n0 : Nat) (x1 : Int32) (k5 : (Nat → Int32) → Int32 → Int32 → Option ((Nat → Int32))) (v0 : (Nat → Int32)) (x2 : Int32) (x3 : Int32) : Option ((Nat → Int32)) :=
  if x3 ≤ x2 then some v0 else gin x2 n0 (bnd (x2 + (1 : Int32)) (fun x2_14 => k5 (upd v0 x2.toNatClampNeg x1) x2_14 x3))
set_option maxRecDepth 100000 in
set_option maxHeartbeats 4000000 in
theorem tfJ7_fill_53178_b5 {p : Program} {l : Launch} {e : Env} {s : State} {m : MethodId} {args : Array Value} {below : List Frame} {meth : Method} {c : Code} {A : Nat → Prop} {D : va_G} {cI cZ : ClassId} (h : Cx p s m args meth c A D cI cZ 4 cJ7_fill_53178 RJ7 wsJ7_fill_53178 none) {h0 : Nat} {x1 : Int32} {n0 : Nat} {k5 : (Nat → Int32) → Int32 → Int32 → Option ((Nat → Int32))} {v0 : (Nat → Int32)} {x2 : Int32} {x3 : Int32} {o : (Nat → Int32)} (hk5 : ∀ (v0 : (Nat → Int32)) (x2 : Int32) (x3 : Int32), k5 v0 x2 x3 = some o → V p l e rmJ7_fill_53178 s m args below meth c A D 4 (QV D [(h0, .inl (cI, n0, .inl o))] A below args s) [(h0, .inl (cI, n0, .inl v0))] 5 [(0, .ref h0), (1, .int x1), (2, .int x2), (3, .int x3)] []) (hF : fJ7_fill_53178_b5 n0 x1 k5 v0 x2 x3 = some o) : V p l e rmJ7_fill_53178 s m args below meth c A D 4 (QV D [(h0, .inl (cI, n0, .inl o))] A below args s) [(h0, .inl (cI, n0, .inl v0))] 5 [(0, .ref h0), (1, .int x1), (2, .int x2), (3, .int x3)] [] := by
  unfold fJ7_fill_53178_b5 at hF
  refine V_iload_n (pc := 5) h 2 dJ7_fill_53178_5 rfl ?_
  refine V_iload_n (pc := 6) h 3 dJ7_fill_53178_6 rfl ?_
  refine V_icmp_ge (pc := 7) h (tgt := 20) dJ7_fill_53178_7 (by decide) hF (fun hF => ?_) (fun hF => ?_)
  · have hF := Option.some.inj hF
    subst hF
    exact V_vret (pc := 20) h dJ7_fill_53178_20
  · refine V_aload_n (pc := 10) h 0 dJ7_fill_53178_10 rfl ?_
    refine V_iload_n (pc := 11) h 2 dJ7_fill_53178_11 rfl ?_
    refine V_iload_n (pc := 12) h 1 dJ7_fill_53178_12 rfl ?_
    refine V_iast (pc := 13) h 0 rfl [(h0, .inl (cI, n0, .inl (upd v0 x2.toNatClampNeg x1)))] rfl dJ7_fill_53178_13 hF (fun hF => ?_)
    refine V_iinc (pc := 14) h 2 (fun x2_14 => [(2, .int x2_14), (0, .ref h0), (1, .int x1), (3, .int x3)]) dJ7_fill_53178_14 rfl rfl (by decide) (fun _ => rfl) hF (fun x2_14 hF => ?_)
    refine V_goto (pc := 17) h (tgt := 5) dJ7_fill_53178_17 (by decide) ?_
    refine V_lv [1, 2, 0, 3] [(0, .ref h0), (1, .int x1), (2, .int x2_14), (3, .int x3)] rfl ?_
    exact hk5 _ _ _ hF
noncomputable def fJ7_fill_53178_l5 (n0 : Nat) (x1 : Int32) (n : Nat) : (Nat → Int32) → Int32 → Int32 → Option ((Nat → Int32)) :=
  Nat.rec (motive := fun _ => (Nat → Int32) → Int32 → Int32 → Option ((Nat → Int32))) (fun _ _ _ => none) (fun _ ih => fJ7_fill_53178_b5 n0 x1 ih) n
theorem fJ7_fill_53178_l5_s (n0 : Nat) (x1 : Int32) (n : Nat) (v0 : (Nat → Int32)) (x2 : Int32) (x3 : Int32) : fJ7_fill_53178_l5 n0 x1 (n + 1) v0 x2 x3 = fJ7_fill_53178_b5 n0 x1 (fJ7_fill_53178_l5 n0 x1 n) v0 x2 x3 := rfl
set_option maxRecDepth 100000 in
set_option maxHeartbeats 4000000 in
theorem tfJ7_fill_53178_l5 {p : Program} {l : Launch} {e : Env} {s : State} {m : MethodId} {args : Array Value} {below : List Frame} {meth : Method} {c : Code} {A : Nat → Prop} {D : va_G} {cI cZ : ClassId} (h : Cx p s m args meth c A D cI cZ 4 cJ7_fill_53178 RJ7 wsJ7_fill_53178 none) {h0 : Nat} {x1 : Int32} {n0 : Nat} {o : (Nat → Int32)} (n : Nat) : ∀ (v0 : (Nat → Int32)) (x2 : Int32) (x3 : Int32) (hF : fJ7_fill_53178_l5 n0 x1 n v0 x2 x3 = some o), V p l e rmJ7_fill_53178 s m args below meth c A D 4 (QV D [(h0, .inl (cI, n0, .inl o))] A below args s) [(h0, .inl (cI, n0, .inl v0))] 5 [(0, .ref h0), (1, .int x1), (2, .int x2), (3, .int x3)] [] := by
  induction n with
  | zero => intro v0 x2 x3 hF; exact nomatch (show (none : Option ((Nat → Int32))) = some o from hF)
  | succ n ih => intro v0 x2 x3 hF; exact tfJ7_fill_53178_b5 (n0 := n0) (x1 := x1) (k5 := fJ7_fill_53178_l5 n0 x1 n) h ih hF
noncomputable def fJ7_fill_53178 (n0 : Nat) (x1 : Int32) (v0 : (Nat → Int32)) : Option ((Nat → Int32)) :=
  bnd (Int32.ofNat n0) (fun x3_4 => fJ7_fill_53178_l5 n0 x1 1000 v0 (0 : Int32) x3_4)
set_option maxRecDepth 100000 in
set_option maxHeartbeats 4000000 in
theorem tfJ7_fill_53178 {p : Program} {l : Launch} {e : Env} {s : State} {m : MethodId} {args : Array Value} {below : List Frame} {meth : Method} {c : Code} {A : Nat → Prop} {D : va_G} {cI cZ : ClassId} (h : Cx p s m args meth c A D cI cZ 4 cJ7_fill_53178 RJ7 wsJ7_fill_53178 none) {h0 : Nat} {x1 : Int32} {n0 : Nat} {v0 : (Nat → Int32)} {o : (Nat → Int32)} (hF : fJ7_fill_53178 n0 x1 v0 = some o) : V p l e rmJ7_fill_53178 s m args below meth c A D 4 (QV D [(h0, .inl (cI, n0, .inl o))] A below args s) [(h0, .inl (cI, n0, .inl v0))] 0 [(0, .ref h0), (1, .int x1)] [] := by
  unfold fJ7_fill_53178 at hF
  refine V_iconst (pc := 0) h (v := (0 : Int32)) dJ7_fill_53178_0 (by decide) ?_
  refine V_istore_n (pc := 1) h [(2, .int (0 : Int32)), (0, .ref h0), (1, .int x1)] dJ7_fill_53178_1 (by decide) rfl ?_
  refine V_aload_n (pc := 2) h 1 dJ7_fill_53178_2 rfl ?_
  refine V_alenI (pc := 3) h (v := Int32.ofNat n0) 0 rfl rfl dJ7_fill_53178_3 ?_
  refine V_bnd hF (fun x3_4 hF => ?_)
  refine V_istore_n (pc := 4) h [(3, .int x3_4), (2, .int (0 : Int32)), (0, .ref h0), (1, .int x1)] dJ7_fill_53178_4 (by decide) rfl ?_
  refine V_lv [2, 3, 1, 0] [(0, .ref h0), (1, .int x1), (2, .int (0 : Int32)), (3, .int x3_4)] rfl ?_
  exact tfJ7_fill_53178_l5 h 1000 _ _ _ hF
set_option maxRecDepth 100000 in
theorem k_J7_fill_53178 (l : Launch) (D : va_G) (cI cZ : ClassId) (h0 : Nat) (n0 : Nat) (v0 : (Nat → Int32)) (x1 : Int32) {o : (Nat → Int32)} (hF : fJ7_fill_53178 n0 x1 v0 = some o) : CV l yJ7_fill_53178 wsJ7_fill_53178 rmJ7_fill_53178 D cI cZ [.ref h0, .int x1] [(h0, .inl (cI, n0, .inl v0))] [(h0, .inl (cI, n0, .inl o))] :=
  CV_of (cc := cJ7_fill_53178) (nL := 4) (ret := none) (by decide) rfl (Nat.le_of_ble_eq_true rfl) rfl (fun p e s m args below meth c A h => tfJ7_fill_53178 h hF)
/-! X4_write -/
abbrev rmX4_write : Room := { frames := 0, cells := 0, slots := 0, locals := 0 }
theorem uX4_write_inX4 : ∀ w ∈ wsX40, w ∈ wsX4_write := by decide +kernel
theorem uX4_write_f11 : Cond.fieldLink RX4 11 "LeafAsks$State" "data" "[I" ∈ wsX4_write := by decide +kernel
noncomputable def fX4_write (x1 : Int32) (x2 : Int32) (v0_data : (Nat → Int32)) : Option ((Nat → Int32)) :=
  if x1 < (0 : Int32) then some v0_data else if (124 : Int32) ≤ x1 then some v0_data else gin x1 124 (some (upd v0_data x1.toNatClampNeg x2))
set_option maxRecDepth 100000 in
set_option maxHeartbeats 4000000 in
theorem tfX4_write {p : Program} {l : Launch} {e : Env} {s : State} {m : MethodId} {args : Array Value} {below : List Frame} {meth : Method} {c : Code} {A : Nat → Prop} {D : va_G} {cI cZ : ClassId} (h : Cx p s m args meth c A D cI cZ 3 cX4_write RX4 wsX4_write none) {h0 h0_data : Nat} {x1 : Int32} {x2 : Int32} {v0_data : (Nat → Int32)} {o : (Nat → Int32)} (hF : fX4_write x1 x2 v0_data = some o) : V p l e rmX4_write s m args below meth c A D 3 (QV D [(h0, .inr (4, [.ref h0_data])), (h0_data, .inl (cI, 124, .inl o))] A below args s) [(h0, .inr (4, [.ref h0_data])), (h0_data, .inl (cI, 124, .inl v0_data))] 0 [(0, .ref h0), (1, .int x1), (2, .int x2)] [] := by
  unfold fX4_write at hF
  refine V_iload_n (pc := 0) h 1 dX4_write_0 rfl ?_
  refine V_if_lt (pc := 1) h (tgt := 17) dX4_write_1 (by decide) hF (fun hF => ?_) (fun hF => ?_)
  · have hF := Option.some.inj hF
    subst hF
    exact V_vret (pc := 17) h dX4_write_17
  · refine V_iload_n (pc := 4) h 1 dX4_write_4 rfl ?_
    refine V_bipush (pc := 5) h (v := (124 : Int32)) dX4_write_5 (by decide) ?_
    refine V_icmp_ge (pc := 7) h (tgt := 17) dX4_write_7 (by decide) hF (fun hF => ?_) (fun hF => ?_)
    · have hF := Option.some.inj hF
      subst hF
      exact V_vret (pc := 17) h dX4_write_17
    · refine V_aload_n (pc := 10) h 0 dX4_write_10 rfl ?_
      refine V_get (pc := 11) h uX4_write_inX4 0 0 rfl rfl (by decide) uX4_write_f11 rfl rfl dX4_write_11 ?_
      refine V_iload_n (pc := 14) h 1 dX4_write_14 rfl ?_
      refine V_iload_n (pc := 15) h 2 dX4_write_15 rfl ?_
      refine V_iast (pc := 16) h 1 rfl [(h0, .inr (4, [.ref h0_data])), (h0_data, .inl (cI, 124, .inl (upd v0_data x1.toNatClampNeg x2)))] rfl dX4_write_16 hF (fun hF => ?_)
      have hF := Option.some.inj hF
      subst hF
      exact V_vret (pc := 17) h dX4_write_17
set_option maxRecDepth 100000 in
theorem k_X4_write (l : Launch) (D : va_G) (cI cZ : ClassId) (h0 h0_data : Nat) (v0_data : (Nat → Int32)) (x1 : Int32) (x2 : Int32) {o : (Nat → Int32)} (hF : fX4_write x1 x2 v0_data = some o) : CV l yX4_write wsX4_write rmX4_write D cI cZ [.ref h0, .int x1, .int x2] [(h0, .inr (4, [.ref h0_data])), (h0_data, .inl (cI, 124, .inl v0_data))] [(h0, .inr (4, [.ref h0_data])), (h0_data, .inl (cI, 124, .inl o))] :=
  CV_of (cc := cX4_write) (nL := 3) (ret := none) (by decide) rfl (Nat.le_of_ble_eq_true rfl) rfl (fun p e s m args below meth c A h => tfX4_write h hF)
/-! X4_setValue -/
abbrev rmX4_setValue : Room := { frames := 1, cells := 0, slots := 0, locals := 22 }
noncomputable def fX4_setValue (x1 : Int32) (x2 : Int32) (v0_data : (Nat → Int32)) : Option ((Nat → Int32)) :=
  bd (fX4_write ((4 : Int32) + x1) x2 v0_data) (fun r5 => some r5)
set_option maxRecDepth 100000 in
set_option maxHeartbeats 4000000 in
theorem tfX4_setValue {p : Program} {l : Launch} {e : Env} {s : State} {m : MethodId} {args : Array Value} {below : List Frame} {meth : Method} {c : Code} {A : Nat → Prop} {D : va_G} {cI cZ : ClassId} (h : Cx p s m args meth c A D cI cZ 3 cX4_setValue RX4 wsX4_setValue none) {h0 h0_data : Nat} {x1 : Int32} {x2 : Int32} {v0_data : (Nat → Int32)} {o : (Nat → Int32)} (hF : fX4_setValue x1 x2 v0_data = some o) : V p l e rmX4_setValue s m args below meth c A D 3 (QV D [(h0, .inr (4, [.ref h0_data])), (h0_data, .inl (cI, 124, .inl o))] A below args s) [(h0, .inr (4, [.ref h0_data])), (h0_data, .inl (cI, 124, .inl v0_data))] 0 [(0, .ref h0), (1, .int x1), (2, .int x2)] [] := by
  unfold fX4_setValue at hF
  refine V_aload_n (pc := 0) h 0 dX4_setValue_0 rfl ?_
  refine V_iconst (pc := 1) h (v := (4 : Int32)) dX4_setValue_1 (by decide) ?_
  refine V_iload_n (pc := 2) h 1 dX4_setValue_2 rfl ?_
  refine V_iadd (pc := 3) h dX4_setValue_3 ?_
  refine V_iload_n (pc := 4) h 2 dX4_setValue_4 rfl ?_
  refine V_cvVA (pc := 5) h (n := 2) (bytes := cX4_write) (maxL := 3) (As := [.int ((4 : Int32) + x1), .int x2]) (rest := []) gX4_setValue_X4_write (by decide +kernel) rfl rfl rfl rfl ⟨rfl, rfl⟩ ⟨Nat.le_of_ble_eq_true rfl, Nat.le_of_ble_eq_true rfl⟩ rfl rfl (Nat.le_of_ble_eq_true rfl) dX4_setValue_5 hF (fun r5 hG => k_X4_write l D cI cZ h0 h0_data v0_data ((4 : Int32) + x1) x2 hG) (fun r5 hF => ?_)
  have hF := Option.some.inj hF
  subst hF
  exact V_vret (pc := 8) h dX4_setValue_8
set_option maxRecDepth 100000 in
theorem k_X4_setValue (l : Launch) (D : va_G) (cI cZ : ClassId) (h0 h0_data : Nat) (v0_data : (Nat → Int32)) (x1 : Int32) (x2 : Int32) {o : (Nat → Int32)} (hF : fX4_setValue x1 x2 v0_data = some o) : CV l yX4_setValue wsX4_setValue rmX4_setValue D cI cZ [.ref h0, .int x1, .int x2] [(h0, .inr (4, [.ref h0_data])), (h0_data, .inl (cI, 124, .inl v0_data))] [(h0, .inr (4, [.ref h0_data])), (h0_data, .inl (cI, 124, .inl o))] :=
  CV_of (cc := cX4_setValue) (nL := 3) (ret := none) (by decide) rfl (Nat.le_of_ble_eq_true rfl) rfl (fun p e s m args below meth c A h => tfX4_setValue h hF)
/-! X4_begin -/
abbrev rmX4_begin : Room := { frames := 2, cells := 0, slots := 0, locals := 44 }
theorem uX4_begin_inX6 : ∀ w ∈ wsX60, w ∈ wsX4_begin := by decide +kernel
theorem uX4_begin_f21 : Cond.fieldLink RX4 21 "LeafAsks$Tree" "size" "I" ∈ wsX4_begin := by decide +kernel
theorem uX4_begin_inX4 : ∀ w ∈ wsX40, w ∈ wsX4_begin := by decide +kernel
theorem uX4_begin_f11 : Cond.fieldLink RX4 11 "LeafAsks$State" "data" "[I" ∈ wsX4_begin := by decide +kernel
noncomputable def fX4_begin_b10 (v1_size : Int32) (v1_data : (Nat → Int32)) (k10 : (Nat → Int32) → Int32 → Option ((Nat → Int32))) (v0_data : (Nat → Int32)) (x2 : Int32) : Option ((Nat → Int32)) :=
  if v1_size ≤ x2 then some v0_data else bd (fX6_field v1_data x2 (6 : Int32)) (fun r24 => bd (fX4_setValue x2 r24 v0_data) (fun r27 => bnd (x2 + (1 : Int32)) (fun x2_30 => k10 r27 x2_30)))
set_option maxRecDepth 100000 in
set_option maxHeartbeats 4000000 in
theorem tfX4_begin_b10 {p : Program} {l : Launch} {e : Env} {s : State} {m : MethodId} {args : Array Value} {below : List Frame} {meth : Method} {c : Code} {A : Nat → Prop} {D : va_G} {cI cZ : ClassId} (h : Cx p s m args meth c A D cI cZ 3 cX4_begin RX4 wsX4_begin none) {h0 h0_data h1 h1_data h1_fresh : Nat} {v1_size : Int32} {v1_data : (Nat → Int32)} {v1_fresh : (Nat → Int32)} {k10 : (Nat → Int32) → Int32 → Option ((Nat → Int32))} {v0_data : (Nat → Int32)} {x2 : Int32} {o : (Nat → Int32)} (hk10 : ∀ (v0_data : (Nat → Int32)) (x2 : Int32), k10 v0_data x2 = some o → V p l e rmX4_begin s m args below meth c A D 3 (QV D [(h0, .inr (4, [.ref h0_data])), (h0_data, .inl (cI, 124, .inl o)), (h1, .inr (6, [.ref h1_data, .ref h1_fresh, .int v1_size])), (h1_data, .inl (cI, 56, .inl v1_data)), (h1_fresh, .inl (cI, 7, .inl v1_fresh))] A below args s) [(h0, .inr (4, [.ref h0_data])), (h0_data, .inl (cI, 124, .inl v0_data)), (h1, .inr (6, [.ref h1_data, .ref h1_fresh, .int v1_size])), (h1_data, .inl (cI, 56, .inl v1_data)), (h1_fresh, .inl (cI, 7, .inl v1_fresh))] 10 [(0, .ref h0), (1, .ref h1), (2, .int x2)] []) (hF : fX4_begin_b10 v1_size v1_data k10 v0_data x2 = some o) : V p l e rmX4_begin s m args below meth c A D 3 (QV D [(h0, .inr (4, [.ref h0_data])), (h0_data, .inl (cI, 124, .inl o)), (h1, .inr (6, [.ref h1_data, .ref h1_fresh, .int v1_size])), (h1_data, .inl (cI, 56, .inl v1_data)), (h1_fresh, .inl (cI, 7, .inl v1_fresh))] A below args s) [(h0, .inr (4, [.ref h0_data])), (h0_data, .inl (cI, 124, .inl v0_data)), (h1, .inr (6, [.ref h1_data, .ref h1_fresh, .int v1_size])), (h1_data, .inl (cI, 56, .inl v1_data)), (h1_fresh, .inl (cI, 7, .inl v1_fresh))] 10 [(0, .ref h0), (1, .ref h1), (2, .int x2)] [] := by
  unfold fX4_begin_b10 at hF
  refine V_iload_n (pc := 10) h 2 dX4_begin_10 rfl ?_
  refine V_aload_n (pc := 11) h 1 dX4_begin_11 rfl ?_
  refine V_get (pc := 12) h uX4_begin_inX6 2 2 rfl rfl (by decide) uX4_begin_f21 rfl rfl dX4_begin_12 ?_
  refine V_icmp_ge (pc := 15) h (tgt := 36) dX4_begin_15 (by decide) hF (fun hF => ?_) (fun hF => ?_)
  · have hF := Option.some.inj hF
    subst hF
    exact V_vret (pc := 36) h dX4_begin_36
  · refine V_aload_n (pc := 18) h 0 dX4_begin_18 rfl ?_
    refine V_iload_n (pc := 19) h 2 dX4_begin_19 rfl ?_
    refine V_aload_n (pc := 20) h 1 dX4_begin_20 rfl ?_
    refine V_iload_n (pc := 21) h 2 dX4_begin_21 rfl ?_
    refine V_bipush (pc := 22) h (v := (6 : Int32)) dX4_begin_22 (by decide) ?_
    refine V_ciV (pc := 24) h (n := 2) (bytes := cX6_field) (maxL := 4) (As := [.int x2, .int (6 : Int32)]) (rest := [.int x2, .ref h0]) gX4_begin_X6_field (by decide +kernel) rfl rfl rfl rfl ⟨rfl, rfl⟩ ⟨Nat.le_of_ble_eq_true rfl, Nat.le_of_ble_eq_true rfl⟩ [2, 3, 4] rfl (by decide) rfl (fun r24 => [(h0, .inr (4, [.ref h0_data])), (h0_data, .inl (cI, 124, .inl v0_data)), (h1, .inr (6, [.ref h1_data, .ref h1_fresh, .int v1_size])), (h1_data, .inl (cI, 56, .inl v1_data)), (h1_fresh, .inl (cI, 7, .inl v1_fresh))]) (fun _ => rfl) (fun _ => rfl) rfl (Nat.le_of_ble_eq_true rfl) dX4_begin_24 hF (fun r24 hG => k_X6_field l D cI cZ h1 h1_data h1_fresh v1_size v1_data v1_fresh x2 (6 : Int32) hG) (fun r24 hF => ?_)
    refine V_cvV (pc := 27) h (n := 2) (bytes := cX4_setValue) (maxL := 3) (As := [.int x2, .int r24]) (rest := []) gX4_begin_X4_setValue (by decide +kernel) rfl rfl rfl rfl ⟨rfl, rfl⟩ ⟨Nat.le_of_ble_eq_true rfl, Nat.le_of_ble_eq_true rfl⟩ [0, 1] rfl (by decide) rfl (fun r27 => [(h0, .inr (4, [.ref h0_data])), (h0_data, .inl (cI, 124, .inl r27)), (h1, .inr (6, [.ref h1_data, .ref h1_fresh, .int v1_size])), (h1_data, .inl (cI, 56, .inl v1_data)), (h1_fresh, .inl (cI, 7, .inl v1_fresh))]) (fun _ => rfl) (fun _ => rfl) rfl (Nat.le_of_ble_eq_true rfl) dX4_begin_27 hF (fun r27 hG => k_X4_setValue l D cI cZ h0 h0_data v0_data x2 r24 hG) (fun r27 hF => ?_)
    refine V_iinc (pc := 30) h 2 (fun x2_30 => [(2, .int x2_30), (0, .ref h0), (1, .ref h1)]) dX4_begin_30 rfl rfl (by decide) (fun _ => rfl) hF (fun x2_30 hF => ?_)
    refine V_goto (pc := 33) h (tgt := 10) dX4_begin_33 (by decide) ?_
    refine V_lv [1, 2, 0] [(0, .ref h0), (1, .ref h1), (2, .int x2_30)] rfl ?_
    exact hk10 _ _ hF
noncomputable def fX4_begin_l10 (v1_size : Int32) (v1_data : (Nat → Int32)) (n : Nat) : (Nat → Int32) → Int32 → Option ((Nat → Int32)) :=
  Nat.rec (motive := fun _ => (Nat → Int32) → Int32 → Option ((Nat → Int32))) (fun _ _ => none) (fun _ ih => fX4_begin_b10 v1_size v1_data ih) n
theorem fX4_begin_l10_s (v1_size : Int32) (v1_data : (Nat → Int32)) (n : Nat) (v0_data : (Nat → Int32)) (x2 : Int32) : fX4_begin_l10 v1_size v1_data (n + 1) v0_data x2 = fX4_begin_b10 v1_size v1_data (fX4_begin_l10 v1_size v1_data n) v0_data x2 := rfl
set_option maxRecDepth 100000 in
set_option maxHeartbeats 4000000 in
theorem tfX4_begin_l10 {p : Program} {l : Launch} {e : Env} {s : State} {m : MethodId} {args : Array Value} {below : List Frame} {meth : Method} {c : Code} {A : Nat → Prop} {D : va_G} {cI cZ : ClassId} (h : Cx p s m args meth c A D cI cZ 3 cX4_begin RX4 wsX4_begin none) {h0 h0_data h1 h1_data h1_fresh : Nat} {v1_size : Int32} {v1_data : (Nat → Int32)} {v1_fresh : (Nat → Int32)} {o : (Nat → Int32)} (n : Nat) : ∀ (v0_data : (Nat → Int32)) (x2 : Int32) (hF : fX4_begin_l10 v1_size v1_data n v0_data x2 = some o), V p l e rmX4_begin s m args below meth c A D 3 (QV D [(h0, .inr (4, [.ref h0_data])), (h0_data, .inl (cI, 124, .inl o)), (h1, .inr (6, [.ref h1_data, .ref h1_fresh, .int v1_size])), (h1_data, .inl (cI, 56, .inl v1_data)), (h1_fresh, .inl (cI, 7, .inl v1_fresh))] A below args s) [(h0, .inr (4, [.ref h0_data])), (h0_data, .inl (cI, 124, .inl v0_data)), (h1, .inr (6, [.ref h1_data, .ref h1_fresh, .int v1_size])), (h1_data, .inl (cI, 56, .inl v1_data)), (h1_fresh, .inl (cI, 7, .inl v1_fresh))] 10 [(0, .ref h0), (1, .ref h1), (2, .int x2)] [] := by
  induction n with
  | zero => intro v0_data x2 hF; exact nomatch (show (none : Option ((Nat → Int32))) = some o from hF)
  | succ n ih => intro v0_data x2 hF; exact tfX4_begin_b10 (k10 := fX4_begin_l10 v1_size v1_data n) h ih hF
noncomputable def fX4_begin (v1_size : Int32) (v1_data : (Nat → Int32)) (v0_data : (Nat → Int32)) : Option ((Nat → Int32)) :=
  bd (fJ7_fill_53178 124 (0 : Int32) v0_data) (fun r5 => fX4_begin_l10 v1_size v1_data 1000 r5 (0 : Int32))
set_option maxRecDepth 100000 in
set_option maxHeartbeats 4000000 in
theorem tfX4_begin {p : Program} {l : Launch} {e : Env} {s : State} {m : MethodId} {args : Array Value} {below : List Frame} {meth : Method} {c : Code} {A : Nat → Prop} {D : va_G} {cI cZ : ClassId} (h : Cx p s m args meth c A D cI cZ 3 cX4_begin RX4 wsX4_begin none) {h0 h0_data h1 h1_data h1_fresh : Nat} {v1_size : Int32} {v1_data : (Nat → Int32)} {v1_fresh : (Nat → Int32)} {v0_data : (Nat → Int32)} {o : (Nat → Int32)} (hF : fX4_begin v1_size v1_data v0_data = some o) : V p l e rmX4_begin s m args below meth c A D 3 (QV D [(h0, .inr (4, [.ref h0_data])), (h0_data, .inl (cI, 124, .inl o)), (h1, .inr (6, [.ref h1_data, .ref h1_fresh, .int v1_size])), (h1_data, .inl (cI, 56, .inl v1_data)), (h1_fresh, .inl (cI, 7, .inl v1_fresh))] A below args s) [(h0, .inr (4, [.ref h0_data])), (h0_data, .inl (cI, 124, .inl v0_data)), (h1, .inr (6, [.ref h1_data, .ref h1_fresh, .int v1_size])), (h1_data, .inl (cI, 56, .inl v1_data)), (h1_fresh, .inl (cI, 7, .inl v1_fresh))] 0 [(0, .ref h0), (1, .ref h1)] [] := by
  unfold fX4_begin at hF
  refine V_aload_n (pc := 0) h 0 dX4_begin_0 rfl ?_
  refine V_get (pc := 1) h uX4_begin_inX4 0 0 rfl rfl (by decide) uX4_begin_f11 rfl rfl dX4_begin_1 ?_
  refine V_iconst (pc := 4) h (v := (0 : Int32)) dX4_begin_4 (by decide) ?_
  refine V_cvS (pc := 5) h (n := 2) (bytes := cJ7_fill_53178) (maxL := 4) (As := [.ref h0_data, .int (0 : Int32)]) (rest := []) gX4_begin_J7_fill_53178 (by decide +kernel) rfl ⟨rfl, rfl⟩ ⟨Nat.le_of_ble_eq_true rfl, Nat.le_of_ble_eq_true rfl⟩ [1] rfl (by decide) rfl (fun r5 => [(h0, .inr (4, [.ref h0_data])), (h0_data, .inl (cI, 124, .inl r5)), (h1, .inr (6, [.ref h1_data, .ref h1_fresh, .int v1_size])), (h1_data, .inl (cI, 56, .inl v1_data)), (h1_fresh, .inl (cI, 7, .inl v1_fresh))]) (fun _ => rfl) (fun _ => rfl) rfl (Nat.le_of_ble_eq_true rfl) dX4_begin_5 hF (fun r5 hG => k_J7_fill_53178 l D cI cZ h0_data 124 v0_data (0 : Int32) hG) (fun r5 hF => ?_)
  refine V_iconst (pc := 8) h (v := (0 : Int32)) dX4_begin_8 (by decide) ?_
  refine V_istore_n (pc := 9) h [(2, .int (0 : Int32)), (0, .ref h0), (1, .ref h1)] dX4_begin_9 (by decide) rfl ?_
  refine V_lv [1, 2, 0] [(0, .ref h0), (1, .ref h1), (2, .int (0 : Int32))] rfl ?_
  exact tfX4_begin_l10 h 1000 _ _ hF
set_option maxRecDepth 100000 in
theorem k_X4_begin (l : Launch) (D : va_G) (cI cZ : ClassId) (h0 h0_data h1 h1_data h1_fresh : Nat) (v0_data : (Nat → Int32)) (v1_size : Int32) (v1_data : (Nat → Int32)) (v1_fresh : (Nat → Int32)) {o : (Nat → Int32)} (hF : fX4_begin v1_size v1_data v0_data = some o) : CV l yX4_begin wsX4_begin rmX4_begin D cI cZ [.ref h0, .ref h1] [(h0, .inr (4, [.ref h0_data])), (h0_data, .inl (cI, 124, .inl v0_data)), (h1, .inr (6, [.ref h1_data, .ref h1_fresh, .int v1_size])), (h1_data, .inl (cI, 56, .inl v1_data)), (h1_fresh, .inl (cI, 7, .inl v1_fresh))] [(h0, .inr (4, [.ref h0_data])), (h0_data, .inl (cI, 124, .inl o)), (h1, .inr (6, [.ref h1_data, .ref h1_fresh, .int v1_size])), (h1_data, .inl (cI, 56, .inl v1_data)), (h1_fresh, .inl (cI, 7, .inl v1_fresh))] :=
  CV_of (cc := cX4_begin) (nL := 3) (ret := none) (by decide) rfl (Nat.le_of_ble_eq_true rfl) rfl (fun p e s m args below meth c A h => tfX4_begin h hF)
/-! X4_takeFrom -/
abbrev rmX4_takeFrom : Room := { frames := 2, cells := 0, slots := 0, locals := 62 }
theorem uX4_takeFrom_inX4 : ∀ w ∈ wsX40, w ∈ wsX4_takeFrom := by decide +kernel
theorem uX4_takeFrom_f11 : Cond.fieldLink RX4 11 "LeafAsks$State" "data" "[I" ∈ wsX4_takeFrom := by decide +kernel
noncomputable def fX4_takeFrom (v1_data : (Nat → Int32)) (v0_data : (Nat → Int32)) : Option ((Nat → Int32)) :=
  bd (fX4_loadFrom 124 v1_data (0 : Int32) v0_data) (fun r6 => some r6)
set_option maxRecDepth 100000 in
set_option maxHeartbeats 4000000 in
theorem tfX4_takeFrom {p : Program} {l : Launch} {e : Env} {s : State} {m : MethodId} {args : Array Value} {below : List Frame} {meth : Method} {c : Code} {A : Nat → Prop} {D : va_G} {cI cZ : ClassId} (h : Cx p s m args meth c A D cI cZ 2 cX4_takeFrom RX4 wsX4_takeFrom none) {h0 h0_data h1 h1_data : Nat} {v1_data : (Nat → Int32)} {v0_data : (Nat → Int32)} {o : (Nat → Int32)} (hF : fX4_takeFrom v1_data v0_data = some o) : V p l e rmX4_takeFrom s m args below meth c A D 2 (QV D [(h0, .inr (4, [.ref h0_data])), (h0_data, .inl (cI, 124, .inl o)), (h1, .inr (4, [.ref h1_data])), (h1_data, .inl (cI, 124, .inl v1_data))] A below args s) [(h0, .inr (4, [.ref h0_data])), (h0_data, .inl (cI, 124, .inl v0_data)), (h1, .inr (4, [.ref h1_data])), (h1_data, .inl (cI, 124, .inl v1_data))] 0 [(0, .ref h0), (1, .ref h1)] [] := by
  unfold fX4_takeFrom at hF
  refine V_aload_n (pc := 0) h 0 dX4_takeFrom_0 rfl ?_
  refine V_aload_n (pc := 1) h 1 dX4_takeFrom_1 rfl ?_
  refine V_get (pc := 2) h uX4_takeFrom_inX4 2 0 rfl rfl (by decide) uX4_takeFrom_f11 rfl rfl dX4_takeFrom_2 ?_
  refine V_iconst (pc := 5) h (v := (0 : Int32)) dX4_takeFrom_5 (by decide) ?_
  refine V_cvV (pc := 6) h (n := 2) (bytes := cX4_loadFrom) (maxL := 3) (As := [.ref h1_data, .int (0 : Int32)]) (rest := []) gX4_takeFrom_X4_loadFrom (by decide +kernel) rfl rfl rfl rfl ⟨rfl, rfl⟩ ⟨Nat.le_of_ble_eq_true rfl, Nat.le_of_ble_eq_true rfl⟩ [0, 1, 3] rfl (by decide) rfl (fun r6 => [(h0, .inr (4, [.ref h0_data])), (h0_data, .inl (cI, 124, .inl r6)), (h1, .inr (4, [.ref h1_data])), (h1_data, .inl (cI, 124, .inl v1_data))]) (fun _ => rfl) (fun _ => rfl) rfl (Nat.le_of_ble_eq_true rfl) dX4_takeFrom_6 hF (fun r6 hG => k_X4_loadFrom l D cI cZ h0 h0_data h1_data 124 v0_data v1_data (0 : Int32) hG) (fun r6 hF => ?_)
  have hF := Option.some.inj hF
  subst hF
  exact V_vret (pc := 9) h dX4_takeFrom_9
set_option maxRecDepth 100000 in
theorem k_X4_takeFrom (l : Launch) (D : va_G) (cI cZ : ClassId) (h0 h0_data h1 h1_data : Nat) (v0_data : (Nat → Int32)) (v1_data : (Nat → Int32)) {o : (Nat → Int32)} (hF : fX4_takeFrom v1_data v0_data = some o) : CV l yX4_takeFrom wsX4_takeFrom rmX4_takeFrom D cI cZ [.ref h0, .ref h1] [(h0, .inr (4, [.ref h0_data])), (h0_data, .inl (cI, 124, .inl v0_data)), (h1, .inr (4, [.ref h1_data])), (h1_data, .inl (cI, 124, .inl v1_data))] [(h0, .inr (4, [.ref h0_data])), (h0_data, .inl (cI, 124, .inl o)), (h1, .inr (4, [.ref h1_data])), (h1_data, .inl (cI, 124, .inl v1_data))] :=
  CV_of (cc := cX4_takeFrom) (nL := 2) (ret := none) (by decide) rfl (Nat.le_of_ble_eq_true rfl) rfl (fun p e s m args below meth c A h => tfX4_takeFrom h hF)
/-! X4_time -/
abbrev rmX4_time : Room := { frames := 1, cells := 0, slots := 0, locals := 21 }
noncomputable def fX4_time (v0_data : (Nat → Int32)) : Option (Int32) :=
  bd (fX4_read v0_data (0 : Int32)) (fun r2 => some r2)
set_option maxRecDepth 100000 in
set_option maxHeartbeats 4000000 in
theorem tfX4_time {p : Program} {l : Launch} {e : Env} {s : State} {m : MethodId} {args : Array Value} {below : List Frame} {meth : Method} {c : Code} {A : Nat → Prop} {D : va_G} {cI cZ : ClassId} (h : Cx p s m args meth c A D cI cZ 1 cX4_time RX4 wsX4_time (some .int)) {h0 h0_data : Nat} {v0_data : (Nat → Int32)} {o : Int32} (hF : fX4_time v0_data = some o) : V p l e rmX4_time s m args below meth c A D 1 (QI D [(h0, .inr (4, [.ref h0_data])), (h0_data, .inl (cI, 124, .inl v0_data))] o A below args s) [(h0, .inr (4, [.ref h0_data])), (h0_data, .inl (cI, 124, .inl v0_data))] 0 [(0, .ref h0)] [] := by
  unfold fX4_time at hF
  refine V_aload_n (pc := 0) h 0 dX4_time_0 rfl ?_
  refine V_iconst (pc := 1) h (v := (0 : Int32)) dX4_time_1 (by decide) ?_
  refine V_ciVA (pc := 2) h (n := 1) (bytes := cX4_read) (maxL := 2) (As := [.int (0 : Int32)]) (rest := []) gX4_time_X4_read (by decide +kernel) rfl rfl rfl rfl ⟨rfl, rfl⟩ ⟨Nat.le_of_ble_eq_true rfl, Nat.le_of_ble_eq_true rfl⟩ rfl rfl (Nat.le_of_ble_eq_true rfl) dX4_time_2 hF (fun r2 hG => k_X4_read l D cI cZ h0 h0_data v0_data (0 : Int32) hG) (fun r2 hF => ?_)
  have hF := Option.some.inj hF
  subst hF
  exact V_iret (pc := 5) h dX4_time_5
set_option maxRecDepth 100000 in
theorem k_X4_time (l : Launch) (D : va_G) (cI cZ : ClassId) (h0 h0_data : Nat) (v0_data : (Nat → Int32)) {o : Int32} (hF : fX4_time v0_data = some o) : CI l yX4_time wsX4_time rmX4_time D cI cZ [.ref h0] [(h0, .inr (4, [.ref h0_data])), (h0_data, .inl (cI, 124, .inl v0_data))] [(h0, .inr (4, [.ref h0_data])), (h0_data, .inl (cI, 124, .inl v0_data))] o :=
  CI_of (cc := cX4_time) (nL := 1) (ret := (some .int)) (by decide) rfl (Nat.le_of_ble_eq_true rfl) rfl (fun p e s m args below meth c A h => tfX4_time h hF)
/-! X4_waiting -/
abbrev rmX4_waiting : Room := { frames := 1, cells := 0, slots := 0, locals := 21 }
noncomputable def fX4_waiting (v0_data : (Nat → Int32)) : Option (Int32) :=
  bd (fX4_read v0_data (3 : Int32)) (fun r2 => some r2)
set_option maxRecDepth 100000 in
set_option maxHeartbeats 4000000 in
theorem tfX4_waiting {p : Program} {l : Launch} {e : Env} {s : State} {m : MethodId} {args : Array Value} {below : List Frame} {meth : Method} {c : Code} {A : Nat → Prop} {D : va_G} {cI cZ : ClassId} (h : Cx p s m args meth c A D cI cZ 1 cX4_waiting RX4 wsX4_waiting (some .int)) {h0 h0_data : Nat} {v0_data : (Nat → Int32)} {o : Int32} (hF : fX4_waiting v0_data = some o) : V p l e rmX4_waiting s m args below meth c A D 1 (QI D [(h0, .inr (4, [.ref h0_data])), (h0_data, .inl (cI, 124, .inl v0_data))] o A below args s) [(h0, .inr (4, [.ref h0_data])), (h0_data, .inl (cI, 124, .inl v0_data))] 0 [(0, .ref h0)] [] := by
  unfold fX4_waiting at hF
  refine V_aload_n (pc := 0) h 0 dX4_waiting_0 rfl ?_
  refine V_iconst (pc := 1) h (v := (3 : Int32)) dX4_waiting_1 (by decide) ?_
  refine V_ciVA (pc := 2) h (n := 1) (bytes := cX4_read) (maxL := 2) (As := [.int (3 : Int32)]) (rest := []) gX4_waiting_X4_read (by decide +kernel) rfl rfl rfl rfl ⟨rfl, rfl⟩ ⟨Nat.le_of_ble_eq_true rfl, Nat.le_of_ble_eq_true rfl⟩ rfl rfl (Nat.le_of_ble_eq_true rfl) dX4_waiting_2 hF (fun r2 hG => k_X4_read l D cI cZ h0 h0_data v0_data (3 : Int32) hG) (fun r2 hF => ?_)
  have hF := Option.some.inj hF
  subst hF
  exact V_iret (pc := 5) h dX4_waiting_5
set_option maxRecDepth 100000 in
theorem k_X4_waiting (l : Launch) (D : va_G) (cI cZ : ClassId) (h0 h0_data : Nat) (v0_data : (Nat → Int32)) {o : Int32} (hF : fX4_waiting v0_data = some o) : CI l yX4_waiting wsX4_waiting rmX4_waiting D cI cZ [.ref h0] [(h0, .inr (4, [.ref h0_data])), (h0_data, .inl (cI, 124, .inl v0_data))] [(h0, .inr (4, [.ref h0_data])), (h0_data, .inl (cI, 124, .inl v0_data))] o :=
  CI_of (cc := cX4_waiting) (nL := 1) (ret := (some .int)) (by decide) rfl (Nat.le_of_ble_eq_true rfl) rfl (fun p e s m args below meth c A h => tfX4_waiting h hF)
/-! X4_dropped -/
abbrev rmX4_dropped : Room := { frames := 1, cells := 0, slots := 0, locals := 21 }
noncomputable def fX4_dropped (v0_data : (Nat → Int32)) : Option (Int32) :=
  bd (fX4_read v0_data (1 : Int32)) (fun r2 => some r2)
set_option maxRecDepth 100000 in
set_option maxHeartbeats 4000000 in
theorem tfX4_dropped {p : Program} {l : Launch} {e : Env} {s : State} {m : MethodId} {args : Array Value} {below : List Frame} {meth : Method} {c : Code} {A : Nat → Prop} {D : va_G} {cI cZ : ClassId} (h : Cx p s m args meth c A D cI cZ 1 cX4_dropped RX4 wsX4_dropped (some .int)) {h0 h0_data : Nat} {v0_data : (Nat → Int32)} {o : Int32} (hF : fX4_dropped v0_data = some o) : V p l e rmX4_dropped s m args below meth c A D 1 (QI D [(h0, .inr (4, [.ref h0_data])), (h0_data, .inl (cI, 124, .inl v0_data))] o A below args s) [(h0, .inr (4, [.ref h0_data])), (h0_data, .inl (cI, 124, .inl v0_data))] 0 [(0, .ref h0)] [] := by
  unfold fX4_dropped at hF
  refine V_aload_n (pc := 0) h 0 dX4_dropped_0 rfl ?_
  refine V_iconst (pc := 1) h (v := (1 : Int32)) dX4_dropped_1 (by decide) ?_
  refine V_ciVA (pc := 2) h (n := 1) (bytes := cX4_read) (maxL := 2) (As := [.int (1 : Int32)]) (rest := []) gX4_dropped_X4_read (by decide +kernel) rfl rfl rfl rfl ⟨rfl, rfl⟩ ⟨Nat.le_of_ble_eq_true rfl, Nat.le_of_ble_eq_true rfl⟩ rfl rfl (Nat.le_of_ble_eq_true rfl) dX4_dropped_2 hF (fun r2 hG => k_X4_read l D cI cZ h0 h0_data v0_data (1 : Int32) hG) (fun r2 hF => ?_)
  have hF := Option.some.inj hF
  subst hF
  exact V_iret (pc := 5) h dX4_dropped_5
set_option maxRecDepth 100000 in
theorem k_X4_dropped (l : Launch) (D : va_G) (cI cZ : ClassId) (h0 h0_data : Nat) (v0_data : (Nat → Int32)) {o : Int32} (hF : fX4_dropped v0_data = some o) : CI l yX4_dropped wsX4_dropped rmX4_dropped D cI cZ [.ref h0] [(h0, .inr (4, [.ref h0_data])), (h0_data, .inl (cI, 124, .inl v0_data))] [(h0, .inr (4, [.ref h0_data])), (h0_data, .inl (cI, 124, .inl v0_data))] o :=
  CI_of (cc := cX4_dropped) (nL := 1) (ret := (some .int)) (by decide) rfl (Nat.le_of_ble_eq_true rfl) rfl (fun p e s m args below meth c A h => tfX4_dropped h hF)
/-! X4_givenUp -/
abbrev rmX4_givenUp : Room := { frames := 1, cells := 0, slots := 0, locals := 21 }
noncomputable def fX4_givenUp (v0_data : (Nat → Int32)) : Option (Int32) :=
  bd (fX4_read v0_data (2 : Int32)) (fun r2 => some r2)
set_option maxRecDepth 100000 in
set_option maxHeartbeats 4000000 in
theorem tfX4_givenUp {p : Program} {l : Launch} {e : Env} {s : State} {m : MethodId} {args : Array Value} {below : List Frame} {meth : Method} {c : Code} {A : Nat → Prop} {D : va_G} {cI cZ : ClassId} (h : Cx p s m args meth c A D cI cZ 1 cX4_givenUp RX4 wsX4_givenUp (some .int)) {h0 h0_data : Nat} {v0_data : (Nat → Int32)} {o : Int32} (hF : fX4_givenUp v0_data = some o) : V p l e rmX4_givenUp s m args below meth c A D 1 (QI D [(h0, .inr (4, [.ref h0_data])), (h0_data, .inl (cI, 124, .inl v0_data))] o A below args s) [(h0, .inr (4, [.ref h0_data])), (h0_data, .inl (cI, 124, .inl v0_data))] 0 [(0, .ref h0)] [] := by
  unfold fX4_givenUp at hF
  refine V_aload_n (pc := 0) h 0 dX4_givenUp_0 rfl ?_
  refine V_iconst (pc := 1) h (v := (2 : Int32)) dX4_givenUp_1 (by decide) ?_
  refine V_ciVA (pc := 2) h (n := 1) (bytes := cX4_read) (maxL := 2) (As := [.int (2 : Int32)]) (rest := []) gX4_givenUp_X4_read (by decide +kernel) rfl rfl rfl rfl ⟨rfl, rfl⟩ ⟨Nat.le_of_ble_eq_true rfl, Nat.le_of_ble_eq_true rfl⟩ rfl rfl (Nat.le_of_ble_eq_true rfl) dX4_givenUp_2 hF (fun r2 hG => k_X4_read l D cI cZ h0 h0_data v0_data (2 : Int32) hG) (fun r2 hF => ?_)
  have hF := Option.some.inj hF
  subst hF
  exact V_iret (pc := 5) h dX4_givenUp_5
set_option maxRecDepth 100000 in
theorem k_X4_givenUp (l : Launch) (D : va_G) (cI cZ : ClassId) (h0 h0_data : Nat) (v0_data : (Nat → Int32)) {o : Int32} (hF : fX4_givenUp v0_data = some o) : CI l yX4_givenUp wsX4_givenUp rmX4_givenUp D cI cZ [.ref h0] [(h0, .inr (4, [.ref h0_data])), (h0_data, .inl (cI, 124, .inl v0_data))] [(h0, .inr (4, [.ref h0_data])), (h0_data, .inl (cI, 124, .inl v0_data))] o :=
  CI_of (cc := cX4_givenUp) (nL := 1) (ret := (some .int)) (by decide) rfl (Nat.le_of_ble_eq_true rfl) rfl (fun p e s m args below meth c A h => tfX4_givenUp h hF)
/-! X4_setStatus -/
abbrev rmX4_setStatus : Room := { frames := 1, cells := 0, slots := 0, locals := 22 }
noncomputable def fX4_setStatus (x1 : Int32) (x2 : Int32) (x3 : Int32) (v0_data : (Nat → Int32)) : Option ((Nat → Int32)) :=
  bd (fX4_cellPlace x1 (0 : Int32) x2) (fun r4 => bd (fX4_write r4 x3 v0_data) (fun r8 => some r8))
set_option maxRecDepth 100000 in
set_option maxHeartbeats 4000000 in
theorem tfX4_setStatus {p : Program} {l : Launch} {e : Env} {s : State} {m : MethodId} {args : Array Value} {below : List Frame} {meth : Method} {c : Code} {A : Nat → Prop} {D : va_G} {cI cZ : ClassId} (h : Cx p s m args meth c A D cI cZ 4 cX4_setStatus RX4 wsX4_setStatus none) {h0 h0_data : Nat} {x1 : Int32} {x2 : Int32} {x3 : Int32} {v0_data : (Nat → Int32)} {o : (Nat → Int32)} (hF : fX4_setStatus x1 x2 x3 v0_data = some o) : V p l e rmX4_setStatus s m args below meth c A D 4 (QV D [(h0, .inr (4, [.ref h0_data])), (h0_data, .inl (cI, 124, .inl o))] A below args s) [(h0, .inr (4, [.ref h0_data])), (h0_data, .inl (cI, 124, .inl v0_data))] 0 [(0, .ref h0), (1, .int x1), (2, .int x2), (3, .int x3)] [] := by
  unfold fX4_setStatus at hF
  refine V_aload_n (pc := 0) h 0 dX4_setStatus_0 rfl ?_
  refine V_iload_n (pc := 1) h 1 dX4_setStatus_1 rfl ?_
  refine V_iconst (pc := 2) h (v := (0 : Int32)) dX4_setStatus_2 (by decide) ?_
  refine V_iload_n (pc := 3) h 2 dX4_setStatus_3 rfl ?_
  refine V_ciS (pc := 4) h (n := 3) (bytes := cX4_cellPlace) (maxL := 3) (As := [.int x1, .int (0 : Int32), .int x2]) (rest := [.ref h0]) gX4_setStatus_X4_cellPlace (by decide +kernel) rfl ⟨rfl, rfl⟩ ⟨Nat.le_of_ble_eq_true rfl, Nat.le_of_ble_eq_true rfl⟩ [] rfl (by decide) rfl (fun r4 => [(h0, .inr (4, [.ref h0_data])), (h0_data, .inl (cI, 124, .inl v0_data))]) (fun _ => rfl) (fun _ => rfl) rfl (Nat.le_of_ble_eq_true rfl) dX4_setStatus_4 hF (fun r4 hG => k_X4_cellPlace l D cI cZ x1 (0 : Int32) x2 hG) (fun r4 hF => ?_)
  refine V_iload_n (pc := 7) h 3 dX4_setStatus_7 rfl ?_
  refine V_cvVA (pc := 8) h (n := 2) (bytes := cX4_write) (maxL := 3) (As := [.int r4, .int x3]) (rest := []) gX4_setStatus_X4_write (by decide +kernel) rfl rfl rfl rfl ⟨rfl, rfl⟩ ⟨Nat.le_of_ble_eq_true rfl, Nat.le_of_ble_eq_true rfl⟩ rfl rfl (Nat.le_of_ble_eq_true rfl) dX4_setStatus_8 hF (fun r8 hG => k_X4_write l D cI cZ h0 h0_data v0_data r4 x3 hG) (fun r8 hF => ?_)
  have hF := Option.some.inj hF
  subst hF
  exact V_vret (pc := 11) h dX4_setStatus_11
set_option maxRecDepth 100000 in
theorem k_X4_setStatus (l : Launch) (D : va_G) (cI cZ : ClassId) (h0 h0_data : Nat) (v0_data : (Nat → Int32)) (x1 : Int32) (x2 : Int32) (x3 : Int32) {o : (Nat → Int32)} (hF : fX4_setStatus x1 x2 x3 v0_data = some o) : CV l yX4_setStatus wsX4_setStatus rmX4_setStatus D cI cZ [.ref h0, .int x1, .int x2, .int x3] [(h0, .inr (4, [.ref h0_data])), (h0_data, .inl (cI, 124, .inl v0_data))] [(h0, .inr (4, [.ref h0_data])), (h0_data, .inl (cI, 124, .inl o))] :=
  CV_of (cc := cX4_setStatus) (nL := 4) (ret := none) (by decide) rfl (Nat.le_of_ble_eq_true rfl) rfl (fun p e s m args below meth c A h => tfX4_setStatus h hF)
/-! X4_setCell -/
abbrev rmX4_setCell : Room := { frames := 1, cells := 0, slots := 0, locals := 22 }
noncomputable def fX4_setCell (x1 : Int32) (x2 : Int32) (x3 : Int32) (x4 : Int32) (v0_data : (Nat → Int32)) : Option ((Nat → Int32)) :=
  bd (fX4_cellPlace x1 x2 x3) (fun r4 => bd (fX4_write r4 (x4 + (1 : Int32)) v0_data) (fun r11 => some r11))
set_option maxRecDepth 100000 in
set_option maxHeartbeats 4000000 in
theorem tfX4_setCell {p : Program} {l : Launch} {e : Env} {s : State} {m : MethodId} {args : Array Value} {below : List Frame} {meth : Method} {c : Code} {A : Nat → Prop} {D : va_G} {cI cZ : ClassId} (h : Cx p s m args meth c A D cI cZ 5 cX4_setCell RX4 wsX4_setCell none) {h0 h0_data : Nat} {x1 : Int32} {x2 : Int32} {x3 : Int32} {x4 : Int32} {v0_data : (Nat → Int32)} {o : (Nat → Int32)} (hF : fX4_setCell x1 x2 x3 x4 v0_data = some o) : V p l e rmX4_setCell s m args below meth c A D 5 (QV D [(h0, .inr (4, [.ref h0_data])), (h0_data, .inl (cI, 124, .inl o))] A below args s) [(h0, .inr (4, [.ref h0_data])), (h0_data, .inl (cI, 124, .inl v0_data))] 0 [(0, .ref h0), (1, .int x1), (2, .int x2), (3, .int x3), (4, .int x4)] [] := by
  unfold fX4_setCell at hF
  refine V_aload_n (pc := 0) h 0 dX4_setCell_0 rfl ?_
  refine V_iload_n (pc := 1) h 1 dX4_setCell_1 rfl ?_
  refine V_iload_n (pc := 2) h 2 dX4_setCell_2 rfl ?_
  refine V_iload_n (pc := 3) h 3 dX4_setCell_3 rfl ?_
  refine V_ciS (pc := 4) h (n := 3) (bytes := cX4_cellPlace) (maxL := 3) (As := [.int x1, .int x2, .int x3]) (rest := [.ref h0]) gX4_setCell_X4_cellPlace (by decide +kernel) rfl ⟨rfl, rfl⟩ ⟨Nat.le_of_ble_eq_true rfl, Nat.le_of_ble_eq_true rfl⟩ [] rfl (by decide) rfl (fun r4 => [(h0, .inr (4, [.ref h0_data])), (h0_data, .inl (cI, 124, .inl v0_data))]) (fun _ => rfl) (fun _ => rfl) rfl (Nat.le_of_ble_eq_true rfl) dX4_setCell_4 hF (fun r4 hG => k_X4_cellPlace l D cI cZ x1 x2 x3 hG) (fun r4 hF => ?_)
  refine V_iload (pc := 7) h 4 dX4_setCell_7 rfl ?_
  refine V_iconst (pc := 9) h (v := (1 : Int32)) dX4_setCell_9 (by decide) ?_
  refine V_iadd (pc := 10) h dX4_setCell_10 ?_
  refine V_cvVA (pc := 11) h (n := 2) (bytes := cX4_write) (maxL := 3) (As := [.int r4, .int (x4 + (1 : Int32))]) (rest := []) gX4_setCell_X4_write (by decide +kernel) rfl rfl rfl rfl ⟨rfl, rfl⟩ ⟨Nat.le_of_ble_eq_true rfl, Nat.le_of_ble_eq_true rfl⟩ rfl rfl (Nat.le_of_ble_eq_true rfl) dX4_setCell_11 hF (fun r11 hG => k_X4_write l D cI cZ h0 h0_data v0_data r4 (x4 + (1 : Int32)) hG) (fun r11 hF => ?_)
  have hF := Option.some.inj hF
  subst hF
  exact V_vret (pc := 14) h dX4_setCell_14
set_option maxRecDepth 100000 in
theorem k_X4_setCell (l : Launch) (D : va_G) (cI cZ : ClassId) (h0 h0_data : Nat) (v0_data : (Nat → Int32)) (x1 : Int32) (x2 : Int32) (x3 : Int32) (x4 : Int32) {o : (Nat → Int32)} (hF : fX4_setCell x1 x2 x3 x4 v0_data = some o) : CV l yX4_setCell wsX4_setCell rmX4_setCell D cI cZ [.ref h0, .int x1, .int x2, .int x3, .int x4] [(h0, .inr (4, [.ref h0_data])), (h0_data, .inl (cI, 124, .inl v0_data))] [(h0, .inr (4, [.ref h0_data])), (h0_data, .inl (cI, 124, .inl o))] :=
  CV_of (cc := cX4_setCell) (nL := 5) (ret := none) (by decide) rfl (Nat.le_of_ble_eq_true rfl) rfl (fun p e s m args below meth c A h => tfX4_setCell h hF)
/-! X4_unfilled -/
abbrev rmX4_unfilled : Room := { frames := 2, cells := 0, slots := 0, locals := 45 }
noncomputable def fX4_unfilled_b6 (v0_data : (Nat → Int32)) (x1 : Int32) (x2 : Int32) (x3 : Int32) (k6 : Int32 → Int32 → Option (Int32)) (x4 : Int32) (x5 : Int32) : Option (Int32) :=
  if x3 < x5 then some x4 else if (3 : Int32) < x5 then some x4 else bd (fX4_isLeaf v0_data x1 x5 x2) (fun r23 => if r23 = (0 : Int32) then bnd (x4 + (1 : Int32)) (fun x4_29 => bnd (x5 + (1 : Int32)) (fun x5_32 => k6 x4_29 x5_32)) else bnd (x5 + (1 : Int32)) (fun x5_32 => k6 x4 x5_32))
set_option maxRecDepth 100000 in
set_option maxHeartbeats 4000000 in
theorem tfX4_unfilled_b6 {p : Program} {l : Launch} {e : Env} {s : State} {m : MethodId} {args : Array Value} {below : List Frame} {meth : Method} {c : Code} {A : Nat → Prop} {D : va_G} {cI cZ : ClassId} (h : Cx p s m args meth c A D cI cZ 6 cX4_unfilled RX4 wsX4_unfilled (some .int)) {h0 h0_data : Nat} {x1 : Int32} {x2 : Int32} {x3 : Int32} {v0_data : (Nat → Int32)} {k6 : Int32 → Int32 → Option (Int32)} {x4 : Int32} {x5 : Int32} {o : Int32} (hk6 : ∀ (x4 : Int32) (x5 : Int32), k6 x4 x5 = some o → V p l e rmX4_unfilled s m args below meth c A D 6 (QI D [(h0, .inr (4, [.ref h0_data])), (h0_data, .inl (cI, 124, .inl v0_data))] o A below args s) [(h0, .inr (4, [.ref h0_data])), (h0_data, .inl (cI, 124, .inl v0_data))] 6 [(0, .ref h0), (1, .int x1), (2, .int x2), (3, .int x3), (4, .int x4), (5, .int x5)] []) (hF : fX4_unfilled_b6 v0_data x1 x2 x3 k6 x4 x5 = some o) : V p l e rmX4_unfilled s m args below meth c A D 6 (QI D [(h0, .inr (4, [.ref h0_data])), (h0_data, .inl (cI, 124, .inl v0_data))] o A below args s) [(h0, .inr (4, [.ref h0_data])), (h0_data, .inl (cI, 124, .inl v0_data))] 6 [(0, .ref h0), (1, .int x1), (2, .int x2), (3, .int x3), (4, .int x4), (5, .int x5)] [] := by
  unfold fX4_unfilled_b6 at hF
  refine V_iload (pc := 6) h 5 dX4_unfilled_6 rfl ?_
  refine V_iload_n (pc := 8) h 3 dX4_unfilled_8 rfl ?_
  refine V_icmp_gt (pc := 9) h (tgt := 38) dX4_unfilled_9 (by decide) hF (fun hF => ?_) (fun hF => ?_)
  · refine V_iload (pc := 38) h 4 dX4_unfilled_38 rfl ?_
    have hF := Option.some.inj hF
    subst hF
    exact V_iret (pc := 40) h dX4_unfilled_40
  · refine V_iload (pc := 12) h 5 dX4_unfilled_12 rfl ?_
    refine V_iconst (pc := 14) h (v := (3 : Int32)) dX4_unfilled_14 (by decide) ?_
    refine V_icmp_gt (pc := 15) h (tgt := 38) dX4_unfilled_15 (by decide) hF (fun hF => ?_) (fun hF => ?_)
    · refine V_iload (pc := 38) h 4 dX4_unfilled_38 rfl ?_
      have hF := Option.some.inj hF
      subst hF
      exact V_iret (pc := 40) h dX4_unfilled_40
    · refine V_aload_n (pc := 18) h 0 dX4_unfilled_18 rfl ?_
      refine V_iload_n (pc := 19) h 1 dX4_unfilled_19 rfl ?_
      refine V_iload (pc := 20) h 5 dX4_unfilled_20 rfl ?_
      refine V_iload_n (pc := 22) h 2 dX4_unfilled_22 rfl ?_
      refine V_ciVA (pc := 23) h (n := 3) (bytes := cX4_isLeaf) (maxL := 4) (As := [.int x1, .int x5, .int x2]) (rest := []) gX4_unfilled_X4_isLeaf (by decide +kernel) rfl rfl rfl rfl ⟨rfl, rfl⟩ ⟨Nat.le_of_ble_eq_true rfl, Nat.le_of_ble_eq_true rfl⟩ rfl rfl (Nat.le_of_ble_eq_true rfl) dX4_unfilled_23 hF (fun r23 hG => k_X4_isLeaf l D cI cZ h0 h0_data v0_data x1 x5 x2 hG) (fun r23 hF => ?_)
      refine V_if_ne (pc := 26) h (tgt := 32) dX4_unfilled_26 (by decide) hF (fun hF => ?_) (fun hF => ?_)
      · refine V_iinc (pc := 32) h 5 (fun x5_32 => [(5, .int x5_32), (0, .ref h0), (1, .int x1), (2, .int x2), (3, .int x3), (4, .int x4)]) dX4_unfilled_32 rfl rfl (by decide) (fun _ => rfl) hF (fun x5_32 hF => ?_)
        refine V_goto (pc := 35) h (tgt := 6) dX4_unfilled_35 (by decide) ?_
        refine V_lv [1, 2, 3, 4, 5, 0] [(0, .ref h0), (1, .int x1), (2, .int x2), (3, .int x3), (4, .int x4), (5, .int x5_32)] rfl ?_
        exact hk6 _ _ hF
      · refine V_iinc (pc := 29) h 4 (fun x4_29 => [(4, .int x4_29), (0, .ref h0), (1, .int x1), (2, .int x2), (3, .int x3), (5, .int x5)]) dX4_unfilled_29 rfl rfl (by decide) (fun _ => rfl) hF (fun x4_29 hF => ?_)
        refine V_iinc (pc := 32) h 5 (fun x5_32 => [(5, .int x5_32), (4, .int x4_29), (0, .ref h0), (1, .int x1), (2, .int x2), (3, .int x3)]) dX4_unfilled_32 rfl rfl (by decide) (fun _ => rfl) hF (fun x5_32 hF => ?_)
        refine V_goto (pc := 35) h (tgt := 6) dX4_unfilled_35 (by decide) ?_
        refine V_lv [2, 3, 4, 5, 1, 0] [(0, .ref h0), (1, .int x1), (2, .int x2), (3, .int x3), (4, .int x4_29), (5, .int x5_32)] rfl ?_
        exact hk6 _ _ hF
noncomputable def fX4_unfilled_l6 (v0_data : (Nat → Int32)) (x1 : Int32) (x2 : Int32) (x3 : Int32) (n : Nat) : Int32 → Int32 → Option (Int32) :=
  Nat.rec (motive := fun _ => Int32 → Int32 → Option (Int32)) (fun _ _ => none) (fun _ ih => fX4_unfilled_b6 v0_data x1 x2 x3 ih) n
theorem fX4_unfilled_l6_s (v0_data : (Nat → Int32)) (x1 : Int32) (x2 : Int32) (x3 : Int32) (n : Nat) (x4 : Int32) (x5 : Int32) : fX4_unfilled_l6 v0_data x1 x2 x3 (n + 1) x4 x5 = fX4_unfilled_b6 v0_data x1 x2 x3 (fX4_unfilled_l6 v0_data x1 x2 x3 n) x4 x5 := rfl
set_option maxRecDepth 100000 in
set_option maxHeartbeats 4000000 in
theorem tfX4_unfilled_l6 {p : Program} {l : Launch} {e : Env} {s : State} {m : MethodId} {args : Array Value} {below : List Frame} {meth : Method} {c : Code} {A : Nat → Prop} {D : va_G} {cI cZ : ClassId} (h : Cx p s m args meth c A D cI cZ 6 cX4_unfilled RX4 wsX4_unfilled (some .int)) {h0 h0_data : Nat} {x1 : Int32} {x2 : Int32} {x3 : Int32} {v0_data : (Nat → Int32)} {o : Int32} (n : Nat) : ∀ (x4 : Int32) (x5 : Int32) (hF : fX4_unfilled_l6 v0_data x1 x2 x3 n x4 x5 = some o), V p l e rmX4_unfilled s m args below meth c A D 6 (QI D [(h0, .inr (4, [.ref h0_data])), (h0_data, .inl (cI, 124, .inl v0_data))] o A below args s) [(h0, .inr (4, [.ref h0_data])), (h0_data, .inl (cI, 124, .inl v0_data))] 6 [(0, .ref h0), (1, .int x1), (2, .int x2), (3, .int x3), (4, .int x4), (5, .int x5)] [] := by
  induction n with
  | zero => intro x4 x5 hF; exact nomatch (show (none : Option (Int32)) = some o from hF)
  | succ n ih => intro x4 x5 hF; exact tfX4_unfilled_b6 (x1 := x1) (x2 := x2) (x3 := x3) (k6 := fX4_unfilled_l6 v0_data x1 x2 x3 n) h ih hF
noncomputable def fX4_unfilled (v0_data : (Nat → Int32)) (x1 : Int32) (x2 : Int32) (x3 : Int32) : Option (Int32) :=
  fX4_unfilled_l6 v0_data x1 x2 x3 1000 (0 : Int32) (1 : Int32)
set_option maxRecDepth 100000 in
set_option maxHeartbeats 4000000 in
theorem tfX4_unfilled {p : Program} {l : Launch} {e : Env} {s : State} {m : MethodId} {args : Array Value} {below : List Frame} {meth : Method} {c : Code} {A : Nat → Prop} {D : va_G} {cI cZ : ClassId} (h : Cx p s m args meth c A D cI cZ 6 cX4_unfilled RX4 wsX4_unfilled (some .int)) {h0 h0_data : Nat} {x1 : Int32} {x2 : Int32} {x3 : Int32} {v0_data : (Nat → Int32)} {o : Int32} (hF : fX4_unfilled v0_data x1 x2 x3 = some o) : V p l e rmX4_unfilled s m args below meth c A D 6 (QI D [(h0, .inr (4, [.ref h0_data])), (h0_data, .inl (cI, 124, .inl v0_data))] o A below args s) [(h0, .inr (4, [.ref h0_data])), (h0_data, .inl (cI, 124, .inl v0_data))] 0 [(0, .ref h0), (1, .int x1), (2, .int x2), (3, .int x3)] [] := by
  unfold fX4_unfilled at hF
  refine V_iconst (pc := 0) h (v := (0 : Int32)) dX4_unfilled_0 (by decide) ?_
  refine V_istore (pc := 1) h [(4, .int (0 : Int32)), (0, .ref h0), (1, .int x1), (2, .int x2), (3, .int x3)] dX4_unfilled_1 (by decide) rfl ?_
  refine V_iconst (pc := 3) h (v := (1 : Int32)) dX4_unfilled_3 (by decide) ?_
  refine V_istore (pc := 4) h [(5, .int (1 : Int32)), (4, .int (0 : Int32)), (0, .ref h0), (1, .int x1), (2, .int x2), (3, .int x3)] dX4_unfilled_4 (by decide) rfl ?_
  refine V_lv [2, 3, 4, 5, 1, 0] [(0, .ref h0), (1, .int x1), (2, .int x2), (3, .int x3), (4, .int (0 : Int32)), (5, .int (1 : Int32))] rfl ?_
  exact tfX4_unfilled_l6 h 1000 _ _ hF
set_option maxRecDepth 100000 in
theorem k_X4_unfilled (l : Launch) (D : va_G) (cI cZ : ClassId) (h0 h0_data : Nat) (v0_data : (Nat → Int32)) (x1 : Int32) (x2 : Int32) (x3 : Int32) {o : Int32} (hF : fX4_unfilled v0_data x1 x2 x3 = some o) : CI l yX4_unfilled wsX4_unfilled rmX4_unfilled D cI cZ [.ref h0, .int x1, .int x2, .int x3] [(h0, .inr (4, [.ref h0_data])), (h0_data, .inl (cI, 124, .inl v0_data))] [(h0, .inr (4, [.ref h0_data])), (h0_data, .inl (cI, 124, .inl v0_data))] o :=
  CI_of (cc := cX4_unfilled) (nL := 6) (ret := (some .int)) (by decide) rfl (Nat.le_of_ble_eq_true rfl) rfl (fun p e s m args below meth c A h => tfX4_unfilled h hF)
/-! X4_emptyRow -/
abbrev rmX4_emptyRow : Room := { frames := 2, cells := 0, slots := 0, locals := 45 }
noncomputable def fX4_emptyRow_b9 (x1 : Int32) (x2 : Int32) (k9 : (Nat → Int32) → Int32 → Option ((Nat → Int32))) (v0_data : (Nat → Int32)) (x3 : Int32) : Option ((Nat → Int32)) :=
  if (3 : Int32) < x3 then some v0_data else bd (fX4_cellPlace x1 x3 x2) (fun r18 => bd (fX4_write r18 (0 : Int32) v0_data) (fun r22 => bnd (x3 + (1 : Int32)) (fun x3_25 => k9 r22 x3_25)))
set_option maxRecDepth 100000 in
set_option maxHeartbeats 4000000 in
theorem tfX4_emptyRow_b9 {p : Program} {l : Launch} {e : Env} {s : State} {m : MethodId} {args : Array Value} {below : List Frame} {meth : Method} {c : Code} {A : Nat → Prop} {D : va_G} {cI cZ : ClassId} (h : Cx p s m args meth c A D cI cZ 4 cX4_emptyRow RX4 wsX4_emptyRow none) {h0 h0_data : Nat} {x1 : Int32} {x2 : Int32} {k9 : (Nat → Int32) → Int32 → Option ((Nat → Int32))} {v0_data : (Nat → Int32)} {x3 : Int32} {o : (Nat → Int32)} (hk9 : ∀ (v0_data : (Nat → Int32)) (x3 : Int32), k9 v0_data x3 = some o → V p l e rmX4_emptyRow s m args below meth c A D 4 (QV D [(h0, .inr (4, [.ref h0_data])), (h0_data, .inl (cI, 124, .inl o))] A below args s) [(h0, .inr (4, [.ref h0_data])), (h0_data, .inl (cI, 124, .inl v0_data))] 9 [(0, .ref h0), (1, .int x1), (2, .int x2), (3, .int x3)] []) (hF : fX4_emptyRow_b9 x1 x2 k9 v0_data x3 = some o) : V p l e rmX4_emptyRow s m args below meth c A D 4 (QV D [(h0, .inr (4, [.ref h0_data])), (h0_data, .inl (cI, 124, .inl o))] A below args s) [(h0, .inr (4, [.ref h0_data])), (h0_data, .inl (cI, 124, .inl v0_data))] 9 [(0, .ref h0), (1, .int x1), (2, .int x2), (3, .int x3)] [] := by
  unfold fX4_emptyRow_b9 at hF
  refine V_iload_n (pc := 9) h 3 dX4_emptyRow_9 rfl ?_
  refine V_iconst (pc := 10) h (v := (3 : Int32)) dX4_emptyRow_10 (by decide) ?_
  refine V_icmp_gt (pc := 11) h (tgt := 31) dX4_emptyRow_11 (by decide) hF (fun hF => ?_) (fun hF => ?_)
  · have hF := Option.some.inj hF
    subst hF
    exact V_vret (pc := 31) h dX4_emptyRow_31
  · refine V_aload_n (pc := 14) h 0 dX4_emptyRow_14 rfl ?_
    refine V_iload_n (pc := 15) h 1 dX4_emptyRow_15 rfl ?_
    refine V_iload_n (pc := 16) h 3 dX4_emptyRow_16 rfl ?_
    refine V_iload_n (pc := 17) h 2 dX4_emptyRow_17 rfl ?_
    refine V_ciS (pc := 18) h (n := 3) (bytes := cX4_cellPlace) (maxL := 3) (As := [.int x1, .int x3, .int x2]) (rest := [.ref h0]) gX4_emptyRow_X4_cellPlace (by decide +kernel) rfl ⟨rfl, rfl⟩ ⟨Nat.le_of_ble_eq_true rfl, Nat.le_of_ble_eq_true rfl⟩ [] rfl (by decide) rfl (fun r18 => [(h0, .inr (4, [.ref h0_data])), (h0_data, .inl (cI, 124, .inl v0_data))]) (fun _ => rfl) (fun _ => rfl) rfl (Nat.le_of_ble_eq_true rfl) dX4_emptyRow_18 hF (fun r18 hG => k_X4_cellPlace l D cI cZ x1 x3 x2 hG) (fun r18 hF => ?_)
    refine V_iconst (pc := 21) h (v := (0 : Int32)) dX4_emptyRow_21 (by decide) ?_
    refine V_cvVA (pc := 22) h (n := 2) (bytes := cX4_write) (maxL := 3) (As := [.int r18, .int (0 : Int32)]) (rest := []) gX4_emptyRow_X4_write (by decide +kernel) rfl rfl rfl rfl ⟨rfl, rfl⟩ ⟨Nat.le_of_ble_eq_true rfl, Nat.le_of_ble_eq_true rfl⟩ rfl rfl (Nat.le_of_ble_eq_true rfl) dX4_emptyRow_22 hF (fun r22 hG => k_X4_write l D cI cZ h0 h0_data v0_data r18 (0 : Int32) hG) (fun r22 hF => ?_)
    refine V_iinc (pc := 25) h 3 (fun x3_25 => [(3, .int x3_25), (0, .ref h0), (1, .int x1), (2, .int x2)]) dX4_emptyRow_25 rfl rfl (by decide) (fun _ => rfl) hF (fun x3_25 hF => ?_)
    refine V_goto (pc := 28) h (tgt := 9) dX4_emptyRow_28 (by decide) ?_
    refine V_lv [1, 2, 3, 0] [(0, .ref h0), (1, .int x1), (2, .int x2), (3, .int x3_25)] rfl ?_
    exact hk9 _ _ hF
noncomputable def fX4_emptyRow_l9 (x1 : Int32) (x2 : Int32) (n : Nat) : (Nat → Int32) → Int32 → Option ((Nat → Int32)) :=
  Nat.rec (motive := fun _ => (Nat → Int32) → Int32 → Option ((Nat → Int32))) (fun _ _ => none) (fun _ ih => fX4_emptyRow_b9 x1 x2 ih) n
theorem fX4_emptyRow_l9_s (x1 : Int32) (x2 : Int32) (n : Nat) (v0_data : (Nat → Int32)) (x3 : Int32) : fX4_emptyRow_l9 x1 x2 (n + 1) v0_data x3 = fX4_emptyRow_b9 x1 x2 (fX4_emptyRow_l9 x1 x2 n) v0_data x3 := rfl
set_option maxRecDepth 100000 in
set_option maxHeartbeats 4000000 in
theorem tfX4_emptyRow_l9 {p : Program} {l : Launch} {e : Env} {s : State} {m : MethodId} {args : Array Value} {below : List Frame} {meth : Method} {c : Code} {A : Nat → Prop} {D : va_G} {cI cZ : ClassId} (h : Cx p s m args meth c A D cI cZ 4 cX4_emptyRow RX4 wsX4_emptyRow none) {h0 h0_data : Nat} {x1 : Int32} {x2 : Int32} {o : (Nat → Int32)} (n : Nat) : ∀ (v0_data : (Nat → Int32)) (x3 : Int32) (hF : fX4_emptyRow_l9 x1 x2 n v0_data x3 = some o), V p l e rmX4_emptyRow s m args below meth c A D 4 (QV D [(h0, .inr (4, [.ref h0_data])), (h0_data, .inl (cI, 124, .inl o))] A below args s) [(h0, .inr (4, [.ref h0_data])), (h0_data, .inl (cI, 124, .inl v0_data))] 9 [(0, .ref h0), (1, .int x1), (2, .int x2), (3, .int x3)] [] := by
  induction n with
  | zero => intro v0_data x3 hF; exact nomatch (show (none : Option ((Nat → Int32))) = some o from hF)
  | succ n ih => intro v0_data x3 hF; exact tfX4_emptyRow_b9 (x1 := x1) (x2 := x2) (k9 := fX4_emptyRow_l9 x1 x2 n) h ih hF
noncomputable def fX4_emptyRow (x1 : Int32) (x2 : Int32) (v0_data : (Nat → Int32)) : Option ((Nat → Int32)) :=
  bd (fX4_setStatus x1 x2 (0 : Int32) v0_data) (fun r4 => fX4_emptyRow_l9 x1 x2 1000 r4 (1 : Int32))
set_option maxRecDepth 100000 in
set_option maxHeartbeats 4000000 in
theorem tfX4_emptyRow {p : Program} {l : Launch} {e : Env} {s : State} {m : MethodId} {args : Array Value} {below : List Frame} {meth : Method} {c : Code} {A : Nat → Prop} {D : va_G} {cI cZ : ClassId} (h : Cx p s m args meth c A D cI cZ 4 cX4_emptyRow RX4 wsX4_emptyRow none) {h0 h0_data : Nat} {x1 : Int32} {x2 : Int32} {v0_data : (Nat → Int32)} {o : (Nat → Int32)} (hF : fX4_emptyRow x1 x2 v0_data = some o) : V p l e rmX4_emptyRow s m args below meth c A D 4 (QV D [(h0, .inr (4, [.ref h0_data])), (h0_data, .inl (cI, 124, .inl o))] A below args s) [(h0, .inr (4, [.ref h0_data])), (h0_data, .inl (cI, 124, .inl v0_data))] 0 [(0, .ref h0), (1, .int x1), (2, .int x2)] [] := by
  unfold fX4_emptyRow at hF
  refine V_aload_n (pc := 0) h 0 dX4_emptyRow_0 rfl ?_
  refine V_iload_n (pc := 1) h 1 dX4_emptyRow_1 rfl ?_
  refine V_iload_n (pc := 2) h 2 dX4_emptyRow_2 rfl ?_
  refine V_iconst (pc := 3) h (v := (0 : Int32)) dX4_emptyRow_3 (by decide) ?_
  refine V_cvVA (pc := 4) h (n := 3) (bytes := cX4_setStatus) (maxL := 4) (As := [.int x1, .int x2, .int (0 : Int32)]) (rest := []) gX4_emptyRow_X4_setStatus (by decide +kernel) rfl rfl rfl rfl ⟨rfl, rfl⟩ ⟨Nat.le_of_ble_eq_true rfl, Nat.le_of_ble_eq_true rfl⟩ rfl rfl (Nat.le_of_ble_eq_true rfl) dX4_emptyRow_4 hF (fun r4 hG => k_X4_setStatus l D cI cZ h0 h0_data v0_data x1 x2 (0 : Int32) hG) (fun r4 hF => ?_)
  refine V_iconst (pc := 7) h (v := (1 : Int32)) dX4_emptyRow_7 (by decide) ?_
  refine V_istore_n (pc := 8) h [(3, .int (1 : Int32)), (0, .ref h0), (1, .int x1), (2, .int x2)] dX4_emptyRow_8 (by decide) rfl ?_
  refine V_lv [1, 2, 3, 0] [(0, .ref h0), (1, .int x1), (2, .int x2), (3, .int (1 : Int32))] rfl ?_
  exact tfX4_emptyRow_l9 h 1000 _ _ hF
set_option maxRecDepth 100000 in
theorem k_X4_emptyRow (l : Launch) (D : va_G) (cI cZ : ClassId) (h0 h0_data : Nat) (v0_data : (Nat → Int32)) (x1 : Int32) (x2 : Int32) {o : (Nat → Int32)} (hF : fX4_emptyRow x1 x2 v0_data = some o) : CV l yX4_emptyRow wsX4_emptyRow rmX4_emptyRow D cI cZ [.ref h0, .int x1, .int x2] [(h0, .inr (4, [.ref h0_data])), (h0_data, .inl (cI, 124, .inl v0_data))] [(h0, .inr (4, [.ref h0_data])), (h0_data, .inl (cI, 124, .inl o))] :=
  CV_of (cc := cX4_emptyRow) (nL := 4) (ret := none) (by decide) rfl (Nat.le_of_ble_eq_true rfl) rfl (fun p e s m args below meth c A h => tfX4_emptyRow h hF)
/-! X4_noticePlace -/
abbrev rmX4_noticePlace : Room := { frames := 0, cells := 0, slots := 0, locals := 0 }
noncomputable def fX4_noticePlace (x0 : Int32) : Option (Int32) :=
  some (((84 : Int32) + (x0 * (5 : Int32))))
set_option maxRecDepth 100000 in
set_option maxHeartbeats 4000000 in
theorem tfX4_noticePlace {p : Program} {l : Launch} {e : Env} {s : State} {m : MethodId} {args : Array Value} {below : List Frame} {meth : Method} {c : Code} {A : Nat → Prop} {D : va_G} {cI cZ : ClassId} (h : Cx p s m args meth c A D cI cZ 1 cX4_noticePlace RX4 wsX4_noticePlace (some .int)) {x0 : Int32} {o : Int32} (hF : fX4_noticePlace x0 = some o) : V p l e rmX4_noticePlace s m args below meth c A D 1 (QI D [] o A below args s) [] 0 [(0, .int x0)] [] := by
  unfold fX4_noticePlace at hF
  refine V_bipush (pc := 0) h (v := (84 : Int32)) dX4_noticePlace_0 (by decide) ?_
  refine V_iload_n (pc := 2) h 0 dX4_noticePlace_2 rfl ?_
  refine V_iconst (pc := 3) h (v := (5 : Int32)) dX4_noticePlace_3 (by decide) ?_
  refine V_imul (pc := 4) h dX4_noticePlace_4 ?_
  refine V_iadd (pc := 5) h dX4_noticePlace_5 ?_
  have hF := Option.some.inj hF
  subst hF
  exact V_iret (pc := 6) h dX4_noticePlace_6
set_option maxRecDepth 100000 in
theorem k_X4_noticePlace (l : Launch) (D : va_G) (cI cZ : ClassId) (x0 : Int32) {o : Int32} (hF : fX4_noticePlace x0 = some o) : CI l yX4_noticePlace wsX4_noticePlace rmX4_noticePlace D cI cZ [.int x0] [] [] o :=
  CI_of (cc := cX4_noticePlace) (nL := 1) (ret := (some .int)) (by decide) rfl (Nat.le_of_ble_eq_true rfl) rfl (fun p e s m args below meth c A h => tfX4_noticePlace h hF)
/-! X4_removeNotice -/
abbrev rmX4_removeNotice : Room := { frames := 2, cells := 0, slots := 0, locals := 41 }
theorem uX4_removeNotice_inX4 : ∀ w ∈ wsX40, w ∈ wsX4_removeNotice := by decide +kernel
theorem uX4_removeNotice_f11 : Cond.fieldLink RX4 11 "LeafAsks$State" "data" "[I" ∈ wsX4_removeNotice := by decide +kernel
theorem uX4_removeNotice_ac1 : Cond.methodLink RX4 38 arraycopyName ∈ wsX4_removeNotice := by decide +kernel
theorem uX4_removeNotice_ac2 : Cond.native arraycopyName ∈ wsX4_removeNotice := by decide +kernel
theorem uX4_removeNotice_ac3 : Cond.static arraycopyName ∈ wsX4_removeNotice := by decide +kernel
theorem uX4_removeNotice_ac4 : Cond.initialized "java/lang/System" ∈ wsX4_removeNotice := by decide +kernel
noncomputable def fX4_removeNotice (x1 : Int32) (v0_data : (Nat → Int32)) : Option ((Nat → Int32)) :=
  bd (fX4_waiting v0_data) (fun r1 => if x1 < (0 : Int32) then some v0_data else if r1 ≤ x1 then some v0_data else if r1 ≤ (8 : Int32) then bd (fX4_noticePlace x1) (fun r22 => gcp (r22 + (5 : Int32)) r22 (((r1 - (1 : Int32)) - x1) * (5 : Int32)) 124 124 (bd (fX4_write (3 : Int32) (r1 - (1 : Int32)) (va_cpy v0_data v0_data (r22 + (5 : Int32)).toNatClampNeg r22.toNatClampNeg (((r1 - (1 : Int32)) - x1) * (5 : Int32)).toNatClampNeg)) (fun r53 => some r53))) else some v0_data)
set_option maxRecDepth 100000 in
set_option maxHeartbeats 4000000 in
theorem tfX4_removeNotice {p : Program} {l : Launch} {e : Env} {s : State} {m : MethodId} {args : Array Value} {below : List Frame} {meth : Method} {c : Code} {A : Nat → Prop} {D : va_G} {cI cZ : ClassId} (h : Cx p s m args meth c A D cI cZ 4 cX4_removeNotice RX4 wsX4_removeNotice none) {h0 h0_data : Nat} {x1 : Int32} {v0_data : (Nat → Int32)} {o : (Nat → Int32)} (hF : fX4_removeNotice x1 v0_data = some o) : V p l e rmX4_removeNotice s m args below meth c A D 4 (QV D [(h0, .inr (4, [.ref h0_data])), (h0_data, .inl (cI, 124, .inl o))] A below args s) [(h0, .inr (4, [.ref h0_data])), (h0_data, .inl (cI, 124, .inl v0_data))] 0 [(0, .ref h0), (1, .int x1)] [] := by
  unfold fX4_removeNotice at hF
  refine V_aload_n (pc := 0) h 0 dX4_removeNotice_0 rfl ?_
  refine V_ciVA (pc := 1) h (n := 0) (bytes := cX4_waiting) (maxL := 1) (As := []) (rest := []) gX4_removeNotice_X4_waiting (by decide +kernel) rfl rfl rfl rfl ⟨rfl, rfl⟩ ⟨Nat.le_of_ble_eq_true rfl, Nat.le_of_ble_eq_true rfl⟩ rfl rfl (Nat.le_of_ble_eq_true rfl) dX4_removeNotice_1 hF (fun r1 hG => k_X4_waiting l D cI cZ h0 h0_data v0_data hG) (fun r1 hF => ?_)
  refine V_istore_n (pc := 4) h [(2, .int r1), (0, .ref h0), (1, .int x1)] dX4_removeNotice_4 (by decide) rfl ?_
  refine V_iload_n (pc := 5) h 2 dX4_removeNotice_5 rfl ?_
  refine V_if_lt (pc := 6) h (tgt := 20) dX4_removeNotice_6 (by decide) hF (fun hF => ?_) (fun hF => ?_)
  · have hF := Option.some.inj hF
    subst hF
    exact V_vret (pc := 20) h dX4_removeNotice_20
  · refine V_iload_n (pc := 9) h 2 dX4_removeNotice_9 rfl ?_
    refine V_iload_n (pc := 10) h 0 dX4_removeNotice_10 rfl ?_
    refine V_icmp_ge (pc := 11) h (tgt := 20) dX4_removeNotice_11 (by decide) hF (fun hF => ?_) (fun hF => ?_)
    · have hF := Option.some.inj hF
      subst hF
      exact V_vret (pc := 20) h dX4_removeNotice_20
    · refine V_iload_n (pc := 14) h 0 dX4_removeNotice_14 rfl ?_
      refine V_bipush (pc := 15) h (v := (8 : Int32)) dX4_removeNotice_15 (by decide) ?_
      refine V_icmp_le (pc := 17) h (tgt := 21) dX4_removeNotice_17 (by decide) hF (fun hF => ?_) (fun hF => ?_)
      · refine V_iload_n (pc := 21) h 2 dX4_removeNotice_21 rfl ?_
        refine V_ciS (pc := 22) h (n := 1) (bytes := cX4_noticePlace) (maxL := 1) (As := [.int x1]) (rest := []) gX4_removeNotice_X4_noticePlace (by decide +kernel) rfl ⟨rfl, rfl⟩ ⟨Nat.le_of_ble_eq_true rfl, Nat.le_of_ble_eq_true rfl⟩ [] rfl (by decide) rfl (fun r22 => [(h0, .inr (4, [.ref h0_data])), (h0_data, .inl (cI, 124, .inl v0_data))]) (fun _ => rfl) (fun _ => rfl) rfl (Nat.le_of_ble_eq_true rfl) dX4_removeNotice_22 hF (fun r22 hG => k_X4_noticePlace l D cI cZ x1 hG) (fun r22 hF => ?_)
        refine V_istore_n (pc := 25) h [(3, .int r22), (2, .int r1), (0, .ref h0), (1, .int x1)] dX4_removeNotice_25 (by decide) rfl ?_
        refine V_aload_n (pc := 26) h 2 dX4_removeNotice_26 rfl ?_
        refine V_get (pc := 27) h uX4_removeNotice_inX4 0 0 rfl rfl (by decide) uX4_removeNotice_f11 rfl rfl dX4_removeNotice_27 ?_
        refine V_iload_n (pc := 30) h 0 dX4_removeNotice_30 rfl ?_
        refine V_iconst (pc := 31) h (v := (5 : Int32)) dX4_removeNotice_31 (by decide) ?_
        refine V_iadd (pc := 32) h dX4_removeNotice_32 ?_
        refine V_aload_n (pc := 33) h 2 dX4_removeNotice_33 rfl ?_
        refine V_get (pc := 34) h uX4_removeNotice_inX4 0 0 rfl rfl (by decide) uX4_removeNotice_f11 rfl rfl dX4_removeNotice_34 ?_
        refine V_iload_n (pc := 37) h 0 dX4_removeNotice_37 rfl ?_
        refine V_iload_n (pc := 38) h 1 dX4_removeNotice_38 rfl ?_
        refine V_iconst (pc := 39) h (v := (1 : Int32)) dX4_removeNotice_39 (by decide) ?_
        refine V_isub (pc := 40) h dX4_removeNotice_40 ?_
        refine V_iload_n (pc := 41) h 3 dX4_removeNotice_41 rfl ?_
        refine V_isub (pc := 42) h dX4_removeNotice_42 ?_
        refine V_iconst (pc := 43) h (v := (5 : Int32)) dX4_removeNotice_43 (by decide) ?_
        refine V_imul (pc := 44) h dX4_removeNotice_44 ?_
        refine V_copy (pc := 45) h 1 1 rfl rfl uX4_removeNotice_ac1 uX4_removeNotice_ac2 uX4_removeNotice_ac3 uX4_removeNotice_ac4 [(h0, .inr (4, [.ref h0_data])), (h0_data, .inl (cI, 124, .inl (va_cpy v0_data v0_data (r22 + (5 : Int32)).toNatClampNeg r22.toNatClampNeg (((r1 - (1 : Int32)) - x1) * (5 : Int32)).toNatClampNeg)))] rfl (Nat.le_of_ble_eq_true rfl) (Nat.le_of_ble_eq_true rfl) dX4_removeNotice_45 hF (fun hF => ?_)
        refine V_aload_n (pc := 48) h 2 dX4_removeNotice_48 rfl ?_
        refine V_iconst (pc := 49) h (v := (3 : Int32)) dX4_removeNotice_49 (by decide) ?_
        refine V_iload_n (pc := 50) h 1 dX4_removeNotice_50 rfl ?_
        refine V_iconst (pc := 51) h (v := (1 : Int32)) dX4_removeNotice_51 (by decide) ?_
        refine V_isub (pc := 52) h dX4_removeNotice_52 ?_
        refine V_cvVA (pc := 53) h (n := 2) (bytes := cX4_write) (maxL := 3) (As := [.int (3 : Int32), .int (r1 - (1 : Int32))]) (rest := []) gX4_removeNotice_X4_write (by decide +kernel) rfl rfl rfl rfl ⟨rfl, rfl⟩ ⟨Nat.le_of_ble_eq_true rfl, Nat.le_of_ble_eq_true rfl⟩ rfl rfl (Nat.le_of_ble_eq_true rfl) dX4_removeNotice_53 hF (fun r53 hG => k_X4_write l D cI cZ h0 h0_data (va_cpy v0_data v0_data (r22 + (5 : Int32)).toNatClampNeg r22.toNatClampNeg (((r1 - (1 : Int32)) - x1) * (5 : Int32)).toNatClampNeg) (3 : Int32) (r1 - (1 : Int32)) hG) (fun r53 hF => ?_)
        have hF := Option.some.inj hF
        subst hF
        exact V_vret (pc := 56) h dX4_removeNotice_56
      · have hF := Option.some.inj hF
        subst hF
        exact V_vret (pc := 20) h dX4_removeNotice_20
set_option maxRecDepth 100000 in
theorem k_X4_removeNotice (l : Launch) (D : va_G) (cI cZ : ClassId) (h0 h0_data : Nat) (v0_data : (Nat → Int32)) (x1 : Int32) {o : (Nat → Int32)} (hF : fX4_removeNotice x1 v0_data = some o) : CV l yX4_removeNotice wsX4_removeNotice rmX4_removeNotice D cI cZ [.ref h0, .int x1] [(h0, .inr (4, [.ref h0_data])), (h0_data, .inl (cI, 124, .inl v0_data))] [(h0, .inr (4, [.ref h0_data])), (h0_data, .inl (cI, 124, .inl o))] :=
  CV_of (cc := cX4_removeNotice) (nL := 4) (ret := none) (by decide) rfl (Nat.le_of_ble_eq_true rfl) rfl (fun p e s m args below meth c A h => tfX4_removeNotice h hF)
