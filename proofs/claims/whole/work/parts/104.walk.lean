/-! X4_addNotice -/
abbrev rmX4_addNotice : Room := { frames := 3, cells := 0, slots := 0, locals := 64 }
noncomputable def fX4_addNotice_b25 (x1 : Int32) (x2 : Int32) (x3 : Int32) (v0_data : (Nat → Int32)) : Option ((Nat → Int32)) :=
  bd (fX4_waiting v0_data) (fun r26 => bd (fX4_noticePlace r26) (fun r29 => bd (fX4_write (r29 + (0 : Int32)) x1 v0_data) (fun r40 => bd (fX4_write (r29 + (1 : Int32)) x2 r40) (fun r49 => bd (fX4_write (r29 + (2 : Int32)) x3 r49) (fun r58 => bd (fX4_write (r29 + (3 : Int32)) (1 : Int32) r58) (fun r67 => bd (fX4_write (r29 + (4 : Int32)) (3 : Int32) r67) (fun r76 => bd (fX4_waiting r76) (fun r82 => bd (fX4_write (3 : Int32) (r82 + (1 : Int32)) r76) (fun r87 => some r87)))))))))
set_option maxRecDepth 100000 in
set_option maxHeartbeats 4000000 in
theorem tfX4_addNotice_b25 {p : Program} {l : Launch} {e : Env} {s : State} {m : MethodId} {args : Array Value} {below : List Frame} {meth : Method} {c : Code} {A : Nat → Prop} {D : va_G} {cI cZ : ClassId} (h : Cx p s m args meth c A D cI cZ 5 cX4_addNotice RX4 wsX4_addNotice none) {h0 h0_data : Nat} {x1 : Int32} {x2 : Int32} {x3 : Int32} {v0_data : (Nat → Int32)} {o : (Nat → Int32)} (hF : fX4_addNotice_b25 x1 x2 x3 v0_data = some o) : V p l e rmX4_addNotice s m args below meth c A D 5 (QV D [(h0, .inr (4, [.ref h0_data])), (h0_data, .inl (cI, 124, .inl o))] A below args s) [(h0, .inr (4, [.ref h0_data])), (h0_data, .inl (cI, 124, .inl v0_data))] 25 [(0, .ref h0), (1, .int x1), (2, .int x2), (3, .int x3)] [] := by
  unfold fX4_addNotice_b25 at hF
  refine V_aload_n (pc := 25) h 0 dX4_addNotice_25 rfl ?_
  refine V_ciVA (pc := 26) h (n := 0) (bytes := cX4_waiting) (maxL := 1) (As := []) (rest := []) gX4_addNotice_X4_waiting (by decide +kernel) rfl rfl rfl rfl ⟨rfl, rfl⟩ ⟨Nat.le_of_ble_eq_true rfl, Nat.le_of_ble_eq_true rfl⟩ rfl rfl (Nat.le_of_ble_eq_true rfl) dX4_addNotice_26 hF (fun r26 hG => k_X4_waiting l D cI cZ h0 h0_data v0_data hG) (fun r26 hF => ?_)
  refine V_ciS (pc := 29) h (n := 1) (bytes := cX4_noticePlace) (maxL := 1) (As := [.int r26]) (rest := []) gX4_addNotice_X4_noticePlace (by decide +kernel) rfl ⟨rfl, rfl⟩ ⟨Nat.le_of_ble_eq_true rfl, Nat.le_of_ble_eq_true rfl⟩ [] rfl (by decide) rfl (fun r29 => [(h0, .inr (4, [.ref h0_data])), (h0_data, .inl (cI, 124, .inl v0_data))]) (fun _ => rfl) (fun _ => rfl) rfl (Nat.le_of_ble_eq_true rfl) dX4_addNotice_29 hF (fun r29 hG => k_X4_noticePlace l D cI cZ r26 hG) (fun r29 hF => ?_)
  refine V_istore (pc := 32) h [(4, .int r29), (0, .ref h0), (1, .int x1), (2, .int x2), (3, .int x3)] dX4_addNotice_32 (by decide) rfl ?_
  refine V_aload_n (pc := 34) h 1 dX4_addNotice_34 rfl ?_
  refine V_iload (pc := 35) h 0 dX4_addNotice_35 rfl ?_
  refine V_iconst (pc := 37) h (v := (0 : Int32)) dX4_addNotice_37 (by decide) ?_
  refine V_iadd (pc := 38) h dX4_addNotice_38 ?_
  refine V_iload_n (pc := 39) h 2 dX4_addNotice_39 rfl ?_
  refine V_cvVA (pc := 40) h (n := 2) (bytes := cX4_write) (maxL := 3) (As := [.int (r29 + (0 : Int32)), .int x1]) (rest := []) gX4_addNotice_X4_write (by decide +kernel) rfl rfl rfl rfl ⟨rfl, rfl⟩ ⟨Nat.le_of_ble_eq_true rfl, Nat.le_of_ble_eq_true rfl⟩ rfl rfl (Nat.le_of_ble_eq_true rfl) dX4_addNotice_40 hF (fun r40 hG => k_X4_write l D cI cZ h0 h0_data v0_data (r29 + (0 : Int32)) x1 hG) (fun r40 hF => ?_)
  refine V_aload_n (pc := 43) h 1 dX4_addNotice_43 rfl ?_
  refine V_iload (pc := 44) h 0 dX4_addNotice_44 rfl ?_
  refine V_iconst (pc := 46) h (v := (1 : Int32)) dX4_addNotice_46 (by decide) ?_
  refine V_iadd (pc := 47) h dX4_addNotice_47 ?_
  refine V_iload_n (pc := 48) h 3 dX4_addNotice_48 rfl ?_
  refine V_cvVA (pc := 49) h (n := 2) (bytes := cX4_write) (maxL := 3) (As := [.int (r29 + (1 : Int32)), .int x2]) (rest := []) gX4_addNotice_X4_write (by decide +kernel) rfl rfl rfl rfl ⟨rfl, rfl⟩ ⟨Nat.le_of_ble_eq_true rfl, Nat.le_of_ble_eq_true rfl⟩ rfl rfl (Nat.le_of_ble_eq_true rfl) dX4_addNotice_49 hF (fun r49 hG => k_X4_write l D cI cZ h0 h0_data r40 (r29 + (1 : Int32)) x2 hG) (fun r49 hF => ?_)
  refine V_aload_n (pc := 52) h 1 dX4_addNotice_52 rfl ?_
  refine V_iload (pc := 53) h 0 dX4_addNotice_53 rfl ?_
  refine V_iconst (pc := 55) h (v := (2 : Int32)) dX4_addNotice_55 (by decide) ?_
  refine V_iadd (pc := 56) h dX4_addNotice_56 ?_
  refine V_iload_n (pc := 57) h 4 dX4_addNotice_57 rfl ?_
  refine V_cvVA (pc := 58) h (n := 2) (bytes := cX4_write) (maxL := 3) (As := [.int (r29 + (2 : Int32)), .int x3]) (rest := []) gX4_addNotice_X4_write (by decide +kernel) rfl rfl rfl rfl ⟨rfl, rfl⟩ ⟨Nat.le_of_ble_eq_true rfl, Nat.le_of_ble_eq_true rfl⟩ rfl rfl (Nat.le_of_ble_eq_true rfl) dX4_addNotice_58 hF (fun r58 hG => k_X4_write l D cI cZ h0 h0_data r49 (r29 + (2 : Int32)) x3 hG) (fun r58 hF => ?_)
  refine V_aload_n (pc := 61) h 1 dX4_addNotice_61 rfl ?_
  refine V_iload (pc := 62) h 0 dX4_addNotice_62 rfl ?_
  refine V_iconst (pc := 64) h (v := (3 : Int32)) dX4_addNotice_64 (by decide) ?_
  refine V_iadd (pc := 65) h dX4_addNotice_65 ?_
  refine V_iconst (pc := 66) h (v := (1 : Int32)) dX4_addNotice_66 (by decide) ?_
  refine V_cvVA (pc := 67) h (n := 2) (bytes := cX4_write) (maxL := 3) (As := [.int (r29 + (3 : Int32)), .int (1 : Int32)]) (rest := []) gX4_addNotice_X4_write (by decide +kernel) rfl rfl rfl rfl ⟨rfl, rfl⟩ ⟨Nat.le_of_ble_eq_true rfl, Nat.le_of_ble_eq_true rfl⟩ rfl rfl (Nat.le_of_ble_eq_true rfl) dX4_addNotice_67 hF (fun r67 hG => k_X4_write l D cI cZ h0 h0_data r58 (r29 + (3 : Int32)) (1 : Int32) hG) (fun r67 hF => ?_)
  refine V_aload_n (pc := 70) h 1 dX4_addNotice_70 rfl ?_
  refine V_iload (pc := 71) h 0 dX4_addNotice_71 rfl ?_
  refine V_iconst (pc := 73) h (v := (4 : Int32)) dX4_addNotice_73 (by decide) ?_
  refine V_iadd (pc := 74) h dX4_addNotice_74 ?_
  refine V_iconst (pc := 75) h (v := (3 : Int32)) dX4_addNotice_75 (by decide) ?_
  refine V_cvVA (pc := 76) h (n := 2) (bytes := cX4_write) (maxL := 3) (As := [.int (r29 + (4 : Int32)), .int (3 : Int32)]) (rest := []) gX4_addNotice_X4_write (by decide +kernel) rfl rfl rfl rfl ⟨rfl, rfl⟩ ⟨Nat.le_of_ble_eq_true rfl, Nat.le_of_ble_eq_true rfl⟩ rfl rfl (Nat.le_of_ble_eq_true rfl) dX4_addNotice_76 hF (fun r76 hG => k_X4_write l D cI cZ h0 h0_data r67 (r29 + (4 : Int32)) (3 : Int32) hG) (fun r76 hF => ?_)
  refine V_aload_n (pc := 79) h 1 dX4_addNotice_79 rfl ?_
  refine V_iconst (pc := 80) h (v := (3 : Int32)) dX4_addNotice_80 (by decide) ?_
  refine V_aload_n (pc := 81) h 1 dX4_addNotice_81 rfl ?_
  refine V_ciVA (pc := 82) h (n := 0) (bytes := cX4_waiting) (maxL := 1) (As := []) (rest := [.int (3 : Int32), .ref h0]) gX4_addNotice_X4_waiting (by decide +kernel) rfl rfl rfl rfl ⟨rfl, rfl⟩ ⟨Nat.le_of_ble_eq_true rfl, Nat.le_of_ble_eq_true rfl⟩ rfl rfl (Nat.le_of_ble_eq_true rfl) dX4_addNotice_82 hF (fun r82 hG => k_X4_waiting l D cI cZ h0 h0_data r76 hG) (fun r82 hF => ?_)
  refine V_iconst (pc := 85) h (v := (1 : Int32)) dX4_addNotice_85 (by decide) ?_
  refine V_iadd (pc := 86) h dX4_addNotice_86 ?_
  refine V_cvVA (pc := 87) h (n := 2) (bytes := cX4_write) (maxL := 3) (As := [.int (3 : Int32), .int (r82 + (1 : Int32))]) (rest := []) gX4_addNotice_X4_write (by decide +kernel) rfl rfl rfl rfl ⟨rfl, rfl⟩ ⟨Nat.le_of_ble_eq_true rfl, Nat.le_of_ble_eq_true rfl⟩ rfl rfl (Nat.le_of_ble_eq_true rfl) dX4_addNotice_87 hF (fun r87 hG => k_X4_write l D cI cZ h0 h0_data r76 (3 : Int32) (r82 + (1 : Int32)) hG) (fun r87 hF => ?_)
  have hF := Option.some.inj hF
  subst hF
  exact V_vret (pc := 90) h dX4_addNotice_90
noncomputable def fX4_addNotice (x1 : Int32) (x2 : Int32) (x3 : Int32) (v0_data : (Nat → Int32)) : Option ((Nat → Int32)) :=
  bd (fX4_waiting v0_data) (fun r1 => if r1 < (8 : Int32) then fX4_addNotice_b25 x1 x2 x3 v0_data else bd (fX4_removeNotice (0 : Int32) v0_data) (fun r11 => bd (fX4_dropped r11) (fun r17 => bd (fX4_write (1 : Int32) (r17 + (1 : Int32)) r11) (fun r22 => fX4_addNotice_b25 x1 x2 x3 r22))))
set_option maxRecDepth 100000 in
set_option maxHeartbeats 4000000 in
theorem tfX4_addNotice {p : Program} {l : Launch} {e : Env} {s : State} {m : MethodId} {args : Array Value} {below : List Frame} {meth : Method} {c : Code} {A : Nat → Prop} {D : va_G} {cI cZ : ClassId} (h : Cx p s m args meth c A D cI cZ 5 cX4_addNotice RX4 wsX4_addNotice none) {h0 h0_data : Nat} {x1 : Int32} {x2 : Int32} {x3 : Int32} {v0_data : (Nat → Int32)} {o : (Nat → Int32)} (hF : fX4_addNotice x1 x2 x3 v0_data = some o) : V p l e rmX4_addNotice s m args below meth c A D 5 (QV D [(h0, .inr (4, [.ref h0_data])), (h0_data, .inl (cI, 124, .inl o))] A below args s) [(h0, .inr (4, [.ref h0_data])), (h0_data, .inl (cI, 124, .inl v0_data))] 0 [(0, .ref h0), (1, .int x1), (2, .int x2), (3, .int x3)] [] := by
  unfold fX4_addNotice at hF
  refine V_aload_n (pc := 0) h 0 dX4_addNotice_0 rfl ?_
  refine V_ciVA (pc := 1) h (n := 0) (bytes := cX4_waiting) (maxL := 1) (As := []) (rest := []) gX4_addNotice_X4_waiting (by decide +kernel) rfl rfl rfl rfl ⟨rfl, rfl⟩ ⟨Nat.le_of_ble_eq_true rfl, Nat.le_of_ble_eq_true rfl⟩ rfl rfl (Nat.le_of_ble_eq_true rfl) dX4_addNotice_1 hF (fun r1 hG => k_X4_waiting l D cI cZ h0 h0_data v0_data hG) (fun r1 hF => ?_)
  refine V_bipush (pc := 4) h (v := (8 : Int32)) dX4_addNotice_4 (by decide) ?_
  refine V_icmp_lt (pc := 6) h (tgt := 25) dX4_addNotice_6 (by decide) hF (fun hF => ?_) (fun hF => ?_)
  · exact tfX4_addNotice_b25 h hF
  · refine V_aload_n (pc := 9) h 0 dX4_addNotice_9 rfl ?_
    refine V_iconst (pc := 10) h (v := (0 : Int32)) dX4_addNotice_10 (by decide) ?_
    refine V_cvVA (pc := 11) h (n := 1) (bytes := cX4_removeNotice) (maxL := 4) (As := [.int (0 : Int32)]) (rest := []) gX4_addNotice_X4_removeNotice (by decide +kernel) rfl rfl rfl rfl ⟨rfl, rfl⟩ ⟨Nat.le_of_ble_eq_true rfl, Nat.le_of_ble_eq_true rfl⟩ rfl rfl (Nat.le_of_ble_eq_true rfl) dX4_addNotice_11 hF (fun r11 hG => k_X4_removeNotice l D cI cZ h0 h0_data v0_data (0 : Int32) hG) (fun r11 hF => ?_)
    refine V_aload_n (pc := 14) h 0 dX4_addNotice_14 rfl ?_
    refine V_iconst (pc := 15) h (v := (1 : Int32)) dX4_addNotice_15 (by decide) ?_
    refine V_aload_n (pc := 16) h 0 dX4_addNotice_16 rfl ?_
    refine V_ciVA (pc := 17) h (n := 0) (bytes := cX4_dropped) (maxL := 1) (As := []) (rest := [.int (1 : Int32), .ref h0]) gX4_addNotice_X4_dropped (by decide +kernel) rfl rfl rfl rfl ⟨rfl, rfl⟩ ⟨Nat.le_of_ble_eq_true rfl, Nat.le_of_ble_eq_true rfl⟩ rfl rfl (Nat.le_of_ble_eq_true rfl) dX4_addNotice_17 hF (fun r17 hG => k_X4_dropped l D cI cZ h0 h0_data r11 hG) (fun r17 hF => ?_)
    refine V_iconst (pc := 20) h (v := (1 : Int32)) dX4_addNotice_20 (by decide) ?_
    refine V_iadd (pc := 21) h dX4_addNotice_21 ?_
    refine V_cvVA (pc := 22) h (n := 2) (bytes := cX4_write) (maxL := 3) (As := [.int (1 : Int32), .int (r17 + (1 : Int32))]) (rest := []) gX4_addNotice_X4_write (by decide +kernel) rfl rfl rfl rfl ⟨rfl, rfl⟩ ⟨Nat.le_of_ble_eq_true rfl, Nat.le_of_ble_eq_true rfl⟩ rfl rfl (Nat.le_of_ble_eq_true rfl) dX4_addNotice_22 hF (fun r22 hG => k_X4_write l D cI cZ h0 h0_data r11 (1 : Int32) (r17 + (1 : Int32)) hG) (fun r22 hF => ?_)
    exact tfX4_addNotice_b25 h hF
set_option maxRecDepth 100000 in
theorem k_X4_addNotice (l : Launch) (D : va_G) (cI cZ : ClassId) (h0 h0_data : Nat) (v0_data : (Nat → Int32)) (x1 : Int32) (x2 : Int32) (x3 : Int32) {o : (Nat → Int32)} (hF : fX4_addNotice x1 x2 x3 v0_data = some o) : CV l yX4_addNotice wsX4_addNotice rmX4_addNotice D cI cZ [.ref h0, .int x1, .int x2, .int x3] [(h0, .inr (4, [.ref h0_data])), (h0_data, .inl (cI, 124, .inl v0_data))] [(h0, .inr (4, [.ref h0_data])), (h0_data, .inl (cI, 124, .inl o))] :=
  CV_of (cc := cX4_addNotice) (nL := 5) (ret := none) (by decide) rfl (Nat.le_of_ble_eq_true rfl) rfl (fun p e s m args below meth c A h => tfX4_addNotice h hF)
/-! X4_noteChanges -/
abbrev rmX4_noteChanges : Room := { frames := 4, cells := 0, slots := 0, locals := 88 }
noncomputable def fX4_noteChanges_b67 (v1_data : (Nat → Int32)) (k2 : (Nat → Int32) → Int32 → Option ((Nat → Int32))) (k9 : (Nat → Int32) → Int32 → Int32 → Option ((Nat → Int32))) (v0_data : (Nat → Int32)) (x2 : Int32) (x3 : Int32) (s0 : Int32) : Option ((Nat → Int32)) :=
  bd (fX4_addNotice s0 x2 x3 v0_data) (fun r69 => bnd (x3 + (1 : Int32)) (fun x3_72 => k9 r69 x2 x3_72))
set_option maxRecDepth 100000 in
set_option maxHeartbeats 4000000 in
theorem tfX4_noteChanges_b67 {p : Program} {l : Launch} {e : Env} {s : State} {m : MethodId} {args : Array Value} {below : List Frame} {meth : Method} {c : Code} {A : Nat → Prop} {D : va_G} {cI cZ : ClassId} (h : Cx p s m args meth c A D cI cZ 6 cX4_noteChanges RX4 wsX4_noteChanges none) {h0 h0_data h1 h1_data : Nat} {v1_data : (Nat → Int32)} {k2 : (Nat → Int32) → Int32 → Option ((Nat → Int32))} {k9 : (Nat → Int32) → Int32 → Int32 → Option ((Nat → Int32))} {v0_data : (Nat → Int32)} {x2 : Int32} {x3 : Int32} {s0 : Int32} {o : (Nat → Int32)} (hk2 : ∀ (v0_data : (Nat → Int32)) (x2 : Int32), k2 v0_data x2 = some o → V p l e rmX4_noteChanges s m args below meth c A D 6 (QV D [(h0, .inr (4, [.ref h0_data])), (h0_data, .inl (cI, 124, .inl o)), (h1, .inr (4, [.ref h1_data])), (h1_data, .inl (cI, 124, .inl v1_data))] A below args s) [(h0, .inr (4, [.ref h0_data])), (h0_data, .inl (cI, 124, .inl v0_data)), (h1, .inr (4, [.ref h1_data])), (h1_data, .inl (cI, 124, .inl v1_data))] 2 [(0, .ref h0), (1, .ref h1), (2, .int x2)] []) (hk9 : ∀ (v0_data : (Nat → Int32)) (x2 : Int32) (x3 : Int32), k9 v0_data x2 x3 = some o → V p l e rmX4_noteChanges s m args below meth c A D 6 (QV D [(h0, .inr (4, [.ref h0_data])), (h0_data, .inl (cI, 124, .inl o)), (h1, .inr (4, [.ref h1_data])), (h1_data, .inl (cI, 124, .inl v1_data))] A below args s) [(h0, .inr (4, [.ref h0_data])), (h0_data, .inl (cI, 124, .inl v0_data)), (h1, .inr (4, [.ref h1_data])), (h1_data, .inl (cI, 124, .inl v1_data))] 9 [(0, .ref h0), (1, .ref h1), (2, .int x2), (3, .int x3)] []) (hF : fX4_noteChanges_b67 v1_data k2 k9 v0_data x2 x3 s0 = some o) : V p l e rmX4_noteChanges s m args below meth c A D 6 (QV D [(h0, .inr (4, [.ref h0_data])), (h0_data, .inl (cI, 124, .inl o)), (h1, .inr (4, [.ref h1_data])), (h1_data, .inl (cI, 124, .inl v1_data))] A below args s) [(h0, .inr (4, [.ref h0_data])), (h0_data, .inl (cI, 124, .inl v0_data)), (h1, .inr (4, [.ref h1_data])), (h1_data, .inl (cI, 124, .inl v1_data))] 67 [(0, .ref h0), (1, .ref h1), (2, .int x2), (3, .int x3)] [.int s0, .ref h0] := by
  unfold fX4_noteChanges_b67 at hF
  refine V_iload_n (pc := 67) h 2 dX4_noteChanges_67 rfl ?_
  refine V_iload_n (pc := 68) h 3 dX4_noteChanges_68 rfl ?_
  refine V_cvV (pc := 69) h (n := 3) (bytes := cX4_addNotice) (maxL := 5) (As := [.int s0, .int x2, .int x3]) (rest := []) gX4_noteChanges_X4_addNotice (by decide +kernel) rfl rfl rfl rfl ⟨rfl, rfl⟩ ⟨Nat.le_of_ble_eq_true rfl, Nat.le_of_ble_eq_true rfl⟩ [0, 1] rfl (by decide) rfl (fun r69 => [(h0, .inr (4, [.ref h0_data])), (h0_data, .inl (cI, 124, .inl r69)), (h1, .inr (4, [.ref h1_data])), (h1_data, .inl (cI, 124, .inl v1_data))]) (fun _ => rfl) (fun _ => rfl) rfl (Nat.le_of_ble_eq_true rfl) dX4_noteChanges_69 hF (fun r69 hG => k_X4_addNotice l D cI cZ h0 h0_data v0_data s0 x2 x3 hG) (fun r69 hF => ?_)
  refine V_iinc (pc := 72) h 3 (fun x3_72 => [(3, .int x3_72), (0, .ref h0), (1, .ref h1), (2, .int x2)]) dX4_noteChanges_72 rfl rfl (by decide) (fun _ => rfl) hF (fun x3_72 hF => ?_)
  refine V_goto (pc := 75) h (tgt := 9) dX4_noteChanges_75 (by decide) ?_
  refine V_lv [1, 2, 3, 0] [(0, .ref h0), (1, .ref h1), (2, .int x2), (3, .int x3_72)] rfl ?_
  exact hk9 _ _ _ hF
noncomputable def fX4_noteChanges_b47 (v1_data : (Nat → Int32)) (k2 : (Nat → Int32) → Int32 → Option ((Nat → Int32))) (k9 : (Nat → Int32) → Int32 → Int32 → Option ((Nat → Int32))) (v0_data : (Nat → Int32)) (x2 : Int32) (x3 : Int32) (x4 : Int32) (s0 : Int32) : Option ((Nat → Int32)) :=
  if x4 = s0 then bnd (x3 + (1 : Int32)) (fun x3_72 => k9 v0_data x2 x3_72) else if s0 = (0 : Int32) then fX4_noteChanges_b67 v1_data k2 k9 v0_data x2 x3 (1 : Int32) else fX4_noteChanges_b67 v1_data k2 k9 v0_data x2 x3 (0 : Int32)
set_option maxRecDepth 100000 in
set_option maxHeartbeats 4000000 in
theorem tfX4_noteChanges_b47 {p : Program} {l : Launch} {e : Env} {s : State} {m : MethodId} {args : Array Value} {below : List Frame} {meth : Method} {c : Code} {A : Nat → Prop} {D : va_G} {cI cZ : ClassId} (h : Cx p s m args meth c A D cI cZ 6 cX4_noteChanges RX4 wsX4_noteChanges none) {h0 h0_data h1 h1_data : Nat} {v1_data : (Nat → Int32)} {k2 : (Nat → Int32) → Int32 → Option ((Nat → Int32))} {k9 : (Nat → Int32) → Int32 → Int32 → Option ((Nat → Int32))} {v0_data : (Nat → Int32)} {x2 : Int32} {x3 : Int32} {x4 : Int32} {s0 : Int32} {o : (Nat → Int32)} (hk2 : ∀ (v0_data : (Nat → Int32)) (x2 : Int32), k2 v0_data x2 = some o → V p l e rmX4_noteChanges s m args below meth c A D 6 (QV D [(h0, .inr (4, [.ref h0_data])), (h0_data, .inl (cI, 124, .inl o)), (h1, .inr (4, [.ref h1_data])), (h1_data, .inl (cI, 124, .inl v1_data))] A below args s) [(h0, .inr (4, [.ref h0_data])), (h0_data, .inl (cI, 124, .inl v0_data)), (h1, .inr (4, [.ref h1_data])), (h1_data, .inl (cI, 124, .inl v1_data))] 2 [(0, .ref h0), (1, .ref h1), (2, .int x2)] []) (hk9 : ∀ (v0_data : (Nat → Int32)) (x2 : Int32) (x3 : Int32), k9 v0_data x2 x3 = some o → V p l e rmX4_noteChanges s m args below meth c A D 6 (QV D [(h0, .inr (4, [.ref h0_data])), (h0_data, .inl (cI, 124, .inl o)), (h1, .inr (4, [.ref h1_data])), (h1_data, .inl (cI, 124, .inl v1_data))] A below args s) [(h0, .inr (4, [.ref h0_data])), (h0_data, .inl (cI, 124, .inl v0_data)), (h1, .inr (4, [.ref h1_data])), (h1_data, .inl (cI, 124, .inl v1_data))] 9 [(0, .ref h0), (1, .ref h1), (2, .int x2), (3, .int x3)] []) (hF : fX4_noteChanges_b47 v1_data k2 k9 v0_data x2 x3 x4 s0 = some o) : V p l e rmX4_noteChanges s m args below meth c A D 6 (QV D [(h0, .inr (4, [.ref h0_data])), (h0_data, .inl (cI, 124, .inl o)), (h1, .inr (4, [.ref h1_data])), (h1_data, .inl (cI, 124, .inl v1_data))] A below args s) [(h0, .inr (4, [.ref h0_data])), (h0_data, .inl (cI, 124, .inl v0_data)), (h1, .inr (4, [.ref h1_data])), (h1_data, .inl (cI, 124, .inl v1_data))] 47 [(0, .ref h0), (1, .ref h1), (2, .int x2), (3, .int x3), (4, .int x4)] [.int s0] := by
  unfold fX4_noteChanges_b47 at hF
  refine V_istore (pc := 47) h [(5, .int s0), (0, .ref h0), (1, .ref h1), (2, .int x2), (3, .int x3), (4, .int x4)] dX4_noteChanges_47 (by decide) rfl ?_
  refine V_iload (pc := 49) h 5 dX4_noteChanges_49 rfl ?_
  refine V_iload (pc := 51) h 0 dX4_noteChanges_51 rfl ?_
  refine V_icmp_eq (pc := 53) h (tgt := 72) dX4_noteChanges_53 (by decide) hF (fun hF => ?_) (fun hF => ?_)
  · refine V_iinc (pc := 72) h 4 (fun x3_72 => [(3, .int x3_72), (5, .int s0), (0, .ref h0), (1, .ref h1), (2, .int x2), (4, .int x4)]) dX4_noteChanges_72 rfl rfl (by decide) (fun _ => rfl) hF (fun x3_72 hF => ?_)
    refine V_goto (pc := 75) h (tgt := 9) dX4_noteChanges_75 (by decide) ?_
    refine V_lv [2, 3, 4, 0] [(0, .ref h0), (1, .ref h1), (2, .int x2), (3, .int x3_72)] rfl ?_
    exact hk9 _ _ _ hF
  · refine V_aload_n (pc := 56) h 1 dX4_noteChanges_56 rfl ?_
    refine V_iload (pc := 57) h 0 dX4_noteChanges_57 rfl ?_
    refine V_if_eq (pc := 59) h (tgt := 66) dX4_noteChanges_59 (by decide) hF (fun hF => ?_) (fun hF => ?_)
    · refine V_iconst (pc := 66) h (v := (1 : Int32)) dX4_noteChanges_66 (by decide) ?_
      refine V_lv [1, 2, 3, 4] [(0, .ref h0), (1, .ref h1), (2, .int x2), (3, .int x3)] rfl ?_
      exact tfX4_noteChanges_b67 h hk2 hk9 hF
    · refine V_iconst (pc := 62) h (v := (0 : Int32)) dX4_noteChanges_62 (by decide) ?_
      refine V_goto (pc := 63) h (tgt := 67) dX4_noteChanges_63 (by decide) ?_
      refine V_lv [1, 2, 3, 4] [(0, .ref h0), (1, .ref h1), (2, .int x2), (3, .int x3)] rfl ?_
      exact tfX4_noteChanges_b67 h hk2 hk9 hF
noncomputable def fX4_noteChanges_b30 (v1_data : (Nat → Int32)) (k2 : (Nat → Int32) → Int32 → Option ((Nat → Int32))) (k9 : (Nat → Int32) → Int32 → Int32 → Option ((Nat → Int32))) (v0_data : (Nat → Int32)) (x2 : Int32) (x3 : Int32) (s0 : Int32) : Option ((Nat → Int32)) :=
  bd (fX4_statusOf v0_data x2 x3) (fun r35 => if r35 = (1 : Int32) then fX4_noteChanges_b47 v1_data k2 k9 v0_data x2 x3 s0 (1 : Int32) else fX4_noteChanges_b47 v1_data k2 k9 v0_data x2 x3 s0 (0 : Int32))
set_option maxRecDepth 100000 in
set_option maxHeartbeats 4000000 in
theorem tfX4_noteChanges_b30 {p : Program} {l : Launch} {e : Env} {s : State} {m : MethodId} {args : Array Value} {below : List Frame} {meth : Method} {c : Code} {A : Nat → Prop} {D : va_G} {cI cZ : ClassId} (h : Cx p s m args meth c A D cI cZ 6 cX4_noteChanges RX4 wsX4_noteChanges none) {h0 h0_data h1 h1_data : Nat} {v1_data : (Nat → Int32)} {k2 : (Nat → Int32) → Int32 → Option ((Nat → Int32))} {k9 : (Nat → Int32) → Int32 → Int32 → Option ((Nat → Int32))} {v0_data : (Nat → Int32)} {x2 : Int32} {x3 : Int32} {s0 : Int32} {o : (Nat → Int32)} (hk2 : ∀ (v0_data : (Nat → Int32)) (x2 : Int32), k2 v0_data x2 = some o → V p l e rmX4_noteChanges s m args below meth c A D 6 (QV D [(h0, .inr (4, [.ref h0_data])), (h0_data, .inl (cI, 124, .inl o)), (h1, .inr (4, [.ref h1_data])), (h1_data, .inl (cI, 124, .inl v1_data))] A below args s) [(h0, .inr (4, [.ref h0_data])), (h0_data, .inl (cI, 124, .inl v0_data)), (h1, .inr (4, [.ref h1_data])), (h1_data, .inl (cI, 124, .inl v1_data))] 2 [(0, .ref h0), (1, .ref h1), (2, .int x2)] []) (hk9 : ∀ (v0_data : (Nat → Int32)) (x2 : Int32) (x3 : Int32), k9 v0_data x2 x3 = some o → V p l e rmX4_noteChanges s m args below meth c A D 6 (QV D [(h0, .inr (4, [.ref h0_data])), (h0_data, .inl (cI, 124, .inl o)), (h1, .inr (4, [.ref h1_data])), (h1_data, .inl (cI, 124, .inl v1_data))] A below args s) [(h0, .inr (4, [.ref h0_data])), (h0_data, .inl (cI, 124, .inl v0_data)), (h1, .inr (4, [.ref h1_data])), (h1_data, .inl (cI, 124, .inl v1_data))] 9 [(0, .ref h0), (1, .ref h1), (2, .int x2), (3, .int x3)] []) (hF : fX4_noteChanges_b30 v1_data k2 k9 v0_data x2 x3 s0 = some o) : V p l e rmX4_noteChanges s m args below meth c A D 6 (QV D [(h0, .inr (4, [.ref h0_data])), (h0_data, .inl (cI, 124, .inl o)), (h1, .inr (4, [.ref h1_data])), (h1_data, .inl (cI, 124, .inl v1_data))] A below args s) [(h0, .inr (4, [.ref h0_data])), (h0_data, .inl (cI, 124, .inl v0_data)), (h1, .inr (4, [.ref h1_data])), (h1_data, .inl (cI, 124, .inl v1_data))] 30 [(0, .ref h0), (1, .ref h1), (2, .int x2), (3, .int x3)] [.int s0] := by
  unfold fX4_noteChanges_b30 at hF
  refine V_istore (pc := 30) h [(4, .int s0), (0, .ref h0), (1, .ref h1), (2, .int x2), (3, .int x3)] dX4_noteChanges_30 (by decide) rfl ?_
  refine V_aload_n (pc := 32) h 1 dX4_noteChanges_32 rfl ?_
  refine V_iload_n (pc := 33) h 3 dX4_noteChanges_33 rfl ?_
  refine V_iload_n (pc := 34) h 4 dX4_noteChanges_34 rfl ?_
  refine V_ciV (pc := 35) h (n := 2) (bytes := cX4_statusOf) (maxL := 3) (As := [.int x2, .int x3]) (rest := []) gX4_noteChanges_X4_statusOf (by decide +kernel) rfl rfl rfl rfl ⟨rfl, rfl⟩ ⟨Nat.le_of_ble_eq_true rfl, Nat.le_of_ble_eq_true rfl⟩ [0, 1] rfl (by decide) rfl (fun r35 => [(h0, .inr (4, [.ref h0_data])), (h0_data, .inl (cI, 124, .inl v0_data)), (h1, .inr (4, [.ref h1_data])), (h1_data, .inl (cI, 124, .inl v1_data))]) (fun _ => rfl) (fun _ => rfl) rfl (Nat.le_of_ble_eq_true rfl) dX4_noteChanges_35 hF (fun r35 hG => k_X4_statusOf l D cI cZ h0 h0_data v0_data x2 x3 hG) (fun r35 hF => ?_)
  refine V_iconst (pc := 38) h (v := (1 : Int32)) dX4_noteChanges_38 (by decide) ?_
  refine V_icmp_ne (pc := 39) h (tgt := 46) dX4_noteChanges_39 (by decide) hF (fun hF => ?_) (fun hF => ?_)
  · refine V_iconst (pc := 46) h (v := (0 : Int32)) dX4_noteChanges_46 (by decide) ?_
    refine V_lv [1, 2, 3, 4, 0] [(0, .ref h0), (1, .ref h1), (2, .int x2), (3, .int x3), (4, .int s0)] rfl ?_
    exact tfX4_noteChanges_b47 h hk2 hk9 hF
  · refine V_iconst (pc := 42) h (v := (1 : Int32)) dX4_noteChanges_42 (by decide) ?_
    refine V_goto (pc := 43) h (tgt := 47) dX4_noteChanges_43 (by decide) ?_
    refine V_lv [1, 2, 3, 4, 0] [(0, .ref h0), (1, .ref h1), (2, .int x2), (3, .int x3), (4, .int s0)] rfl ?_
    exact tfX4_noteChanges_b47 h hk2 hk9 hF
noncomputable def fX4_noteChanges_b9 (v1_data : (Nat → Int32)) (k2 : (Nat → Int32) → Int32 → Option ((Nat → Int32))) (k9 : (Nat → Int32) → Int32 → Int32 → Option ((Nat → Int32))) (v0_data : (Nat → Int32)) (x2 : Int32) (x3 : Int32) : Option ((Nat → Int32)) :=
  if (9 : Int32) < x3 then bnd (x2 + (1 : Int32)) (fun x2_78 => k2 v0_data x2_78) else bd (fX4_statusOf v1_data x2 x3) (fun r18 => if r18 = (1 : Int32) then fX4_noteChanges_b30 v1_data k2 k9 v0_data x2 x3 (1 : Int32) else fX4_noteChanges_b30 v1_data k2 k9 v0_data x2 x3 (0 : Int32))
set_option maxRecDepth 100000 in
set_option maxHeartbeats 4000000 in
theorem tfX4_noteChanges_b9 {p : Program} {l : Launch} {e : Env} {s : State} {m : MethodId} {args : Array Value} {below : List Frame} {meth : Method} {c : Code} {A : Nat → Prop} {D : va_G} {cI cZ : ClassId} (h : Cx p s m args meth c A D cI cZ 6 cX4_noteChanges RX4 wsX4_noteChanges none) {h0 h0_data h1 h1_data : Nat} {v1_data : (Nat → Int32)} {k2 : (Nat → Int32) → Int32 → Option ((Nat → Int32))} {k9 : (Nat → Int32) → Int32 → Int32 → Option ((Nat → Int32))} {v0_data : (Nat → Int32)} {x2 : Int32} {x3 : Int32} {o : (Nat → Int32)} (hk2 : ∀ (v0_data : (Nat → Int32)) (x2 : Int32), k2 v0_data x2 = some o → V p l e rmX4_noteChanges s m args below meth c A D 6 (QV D [(h0, .inr (4, [.ref h0_data])), (h0_data, .inl (cI, 124, .inl o)), (h1, .inr (4, [.ref h1_data])), (h1_data, .inl (cI, 124, .inl v1_data))] A below args s) [(h0, .inr (4, [.ref h0_data])), (h0_data, .inl (cI, 124, .inl v0_data)), (h1, .inr (4, [.ref h1_data])), (h1_data, .inl (cI, 124, .inl v1_data))] 2 [(0, .ref h0), (1, .ref h1), (2, .int x2)] []) (hk9 : ∀ (v0_data : (Nat → Int32)) (x2 : Int32) (x3 : Int32), k9 v0_data x2 x3 = some o → V p l e rmX4_noteChanges s m args below meth c A D 6 (QV D [(h0, .inr (4, [.ref h0_data])), (h0_data, .inl (cI, 124, .inl o)), (h1, .inr (4, [.ref h1_data])), (h1_data, .inl (cI, 124, .inl v1_data))] A below args s) [(h0, .inr (4, [.ref h0_data])), (h0_data, .inl (cI, 124, .inl v0_data)), (h1, .inr (4, [.ref h1_data])), (h1_data, .inl (cI, 124, .inl v1_data))] 9 [(0, .ref h0), (1, .ref h1), (2, .int x2), (3, .int x3)] []) (hF : fX4_noteChanges_b9 v1_data k2 k9 v0_data x2 x3 = some o) : V p l e rmX4_noteChanges s m args below meth c A D 6 (QV D [(h0, .inr (4, [.ref h0_data])), (h0_data, .inl (cI, 124, .inl o)), (h1, .inr (4, [.ref h1_data])), (h1_data, .inl (cI, 124, .inl v1_data))] A below args s) [(h0, .inr (4, [.ref h0_data])), (h0_data, .inl (cI, 124, .inl v0_data)), (h1, .inr (4, [.ref h1_data])), (h1_data, .inl (cI, 124, .inl v1_data))] 9 [(0, .ref h0), (1, .ref h1), (2, .int x2), (3, .int x3)] [] := by
  unfold fX4_noteChanges_b9 at hF
  refine V_iload_n (pc := 9) h 3 dX4_noteChanges_9 rfl ?_
  refine V_bipush (pc := 10) h (v := (9 : Int32)) dX4_noteChanges_10 (by decide) ?_
  refine V_icmp_gt (pc := 12) h (tgt := 78) dX4_noteChanges_12 (by decide) hF (fun hF => ?_) (fun hF => ?_)
  · refine V_iinc (pc := 78) h 2 (fun x2_78 => [(2, .int x2_78), (0, .ref h0), (1, .ref h1), (3, .int x3)]) dX4_noteChanges_78 rfl rfl (by decide) (fun _ => rfl) hF (fun x2_78 hF => ?_)
    refine V_goto (pc := 81) h (tgt := 2) dX4_noteChanges_81 (by decide) ?_
    refine V_lv [1, 2, 0] [(0, .ref h0), (1, .ref h1), (2, .int x2_78)] rfl ?_
    exact hk2 _ _ hF
  · refine V_aload_n (pc := 15) h 1 dX4_noteChanges_15 rfl ?_
    refine V_iload_n (pc := 16) h 2 dX4_noteChanges_16 rfl ?_
    refine V_iload_n (pc := 17) h 3 dX4_noteChanges_17 rfl ?_
    refine V_ciV (pc := 18) h (n := 2) (bytes := cX4_statusOf) (maxL := 3) (As := [.int x2, .int x3]) (rest := []) gX4_noteChanges_X4_statusOf (by decide +kernel) rfl rfl rfl rfl ⟨rfl, rfl⟩ ⟨Nat.le_of_ble_eq_true rfl, Nat.le_of_ble_eq_true rfl⟩ [2, 3] rfl (by decide) rfl (fun r18 => [(h0, .inr (4, [.ref h0_data])), (h0_data, .inl (cI, 124, .inl v0_data)), (h1, .inr (4, [.ref h1_data])), (h1_data, .inl (cI, 124, .inl v1_data))]) (fun _ => rfl) (fun _ => rfl) rfl (Nat.le_of_ble_eq_true rfl) dX4_noteChanges_18 hF (fun r18 hG => k_X4_statusOf l D cI cZ h1 h1_data v1_data x2 x3 hG) (fun r18 hF => ?_)
    refine V_iconst (pc := 21) h (v := (1 : Int32)) dX4_noteChanges_21 (by decide) ?_
    refine V_icmp_ne (pc := 22) h (tgt := 29) dX4_noteChanges_22 (by decide) hF (fun hF => ?_) (fun hF => ?_)
    · refine V_iconst (pc := 29) h (v := (0 : Int32)) dX4_noteChanges_29 (by decide) ?_
      exact tfX4_noteChanges_b30 h hk2 hk9 hF
    · refine V_iconst (pc := 25) h (v := (1 : Int32)) dX4_noteChanges_25 (by decide) ?_
      refine V_goto (pc := 26) h (tgt := 30) dX4_noteChanges_26 (by decide) ?_
      exact tfX4_noteChanges_b30 h hk2 hk9 hF
noncomputable def fX4_noteChanges_l9 (v1_data : (Nat → Int32)) (k2 : (Nat → Int32) → Int32 → Option ((Nat → Int32))) (n : Nat) : (Nat → Int32) → Int32 → Int32 → Option ((Nat → Int32)) :=
  Nat.rec (motive := fun _ => (Nat → Int32) → Int32 → Int32 → Option ((Nat → Int32))) (fun _ _ _ => none) (fun _ ih => fX4_noteChanges_b9 v1_data k2 ih) n
theorem fX4_noteChanges_l9_s (v1_data : (Nat → Int32)) (k2 : (Nat → Int32) → Int32 → Option ((Nat → Int32))) (n : Nat) (v0_data : (Nat → Int32)) (x2 : Int32) (x3 : Int32) : fX4_noteChanges_l9 v1_data k2 (n + 1) v0_data x2 x3 = fX4_noteChanges_b9 v1_data k2 (fX4_noteChanges_l9 v1_data k2 n) v0_data x2 x3 := rfl
set_option maxRecDepth 100000 in
set_option maxHeartbeats 4000000 in
theorem tfX4_noteChanges_l9 {p : Program} {l : Launch} {e : Env} {s : State} {m : MethodId} {args : Array Value} {below : List Frame} {meth : Method} {c : Code} {A : Nat → Prop} {D : va_G} {cI cZ : ClassId} (h : Cx p s m args meth c A D cI cZ 6 cX4_noteChanges RX4 wsX4_noteChanges none) {h0 h0_data h1 h1_data : Nat} {v1_data : (Nat → Int32)} {k2 : (Nat → Int32) → Int32 → Option ((Nat → Int32))} {o : (Nat → Int32)} (hk2 : ∀ (v0_data : (Nat → Int32)) (x2 : Int32), k2 v0_data x2 = some o → V p l e rmX4_noteChanges s m args below meth c A D 6 (QV D [(h0, .inr (4, [.ref h0_data])), (h0_data, .inl (cI, 124, .inl o)), (h1, .inr (4, [.ref h1_data])), (h1_data, .inl (cI, 124, .inl v1_data))] A below args s) [(h0, .inr (4, [.ref h0_data])), (h0_data, .inl (cI, 124, .inl v0_data)), (h1, .inr (4, [.ref h1_data])), (h1_data, .inl (cI, 124, .inl v1_data))] 2 [(0, .ref h0), (1, .ref h1), (2, .int x2)] []) (n : Nat) : ∀ (v0_data : (Nat → Int32)) (x2 : Int32) (x3 : Int32) (hF : fX4_noteChanges_l9 v1_data k2 n v0_data x2 x3 = some o), V p l e rmX4_noteChanges s m args below meth c A D 6 (QV D [(h0, .inr (4, [.ref h0_data])), (h0_data, .inl (cI, 124, .inl o)), (h1, .inr (4, [.ref h1_data])), (h1_data, .inl (cI, 124, .inl v1_data))] A below args s) [(h0, .inr (4, [.ref h0_data])), (h0_data, .inl (cI, 124, .inl v0_data)), (h1, .inr (4, [.ref h1_data])), (h1_data, .inl (cI, 124, .inl v1_data))] 9 [(0, .ref h0), (1, .ref h1), (2, .int x2), (3, .int x3)] [] := by
  induction n with
  | zero => intro v0_data x2 x3 hF; exact nomatch (show (none : Option ((Nat → Int32))) = some o from hF)
  | succ n ih => intro v0_data x2 x3 hF; exact tfX4_noteChanges_b9 (k9 := fX4_noteChanges_l9 v1_data k2 n) h hk2 ih hF
noncomputable def fX4_noteChanges_b2 (v1_data : (Nat → Int32)) (k2 : (Nat → Int32) → Int32 → Option ((Nat → Int32))) (v0_data : (Nat → Int32)) (x2 : Int32) : Option ((Nat → Int32)) :=
  if (2 : Int32) ≤ x2 then some v0_data else fX4_noteChanges_l9 v1_data k2 1000 v0_data x2 (1 : Int32)
set_option maxRecDepth 100000 in
set_option maxHeartbeats 4000000 in
theorem tfX4_noteChanges_b2 {p : Program} {l : Launch} {e : Env} {s : State} {m : MethodId} {args : Array Value} {below : List Frame} {meth : Method} {c : Code} {A : Nat → Prop} {D : va_G} {cI cZ : ClassId} (h : Cx p s m args meth c A D cI cZ 6 cX4_noteChanges RX4 wsX4_noteChanges none) {h0 h0_data h1 h1_data : Nat} {v1_data : (Nat → Int32)} {k2 : (Nat → Int32) → Int32 → Option ((Nat → Int32))} {v0_data : (Nat → Int32)} {x2 : Int32} {o : (Nat → Int32)} (hk2 : ∀ (v0_data : (Nat → Int32)) (x2 : Int32), k2 v0_data x2 = some o → V p l e rmX4_noteChanges s m args below meth c A D 6 (QV D [(h0, .inr (4, [.ref h0_data])), (h0_data, .inl (cI, 124, .inl o)), (h1, .inr (4, [.ref h1_data])), (h1_data, .inl (cI, 124, .inl v1_data))] A below args s) [(h0, .inr (4, [.ref h0_data])), (h0_data, .inl (cI, 124, .inl v0_data)), (h1, .inr (4, [.ref h1_data])), (h1_data, .inl (cI, 124, .inl v1_data))] 2 [(0, .ref h0), (1, .ref h1), (2, .int x2)] []) (hF : fX4_noteChanges_b2 v1_data k2 v0_data x2 = some o) : V p l e rmX4_noteChanges s m args below meth c A D 6 (QV D [(h0, .inr (4, [.ref h0_data])), (h0_data, .inl (cI, 124, .inl o)), (h1, .inr (4, [.ref h1_data])), (h1_data, .inl (cI, 124, .inl v1_data))] A below args s) [(h0, .inr (4, [.ref h0_data])), (h0_data, .inl (cI, 124, .inl v0_data)), (h1, .inr (4, [.ref h1_data])), (h1_data, .inl (cI, 124, .inl v1_data))] 2 [(0, .ref h0), (1, .ref h1), (2, .int x2)] [] := by
  unfold fX4_noteChanges_b2 at hF
  refine V_iload_n (pc := 2) h 2 dX4_noteChanges_2 rfl ?_
  refine V_iconst (pc := 3) h (v := (2 : Int32)) dX4_noteChanges_3 (by decide) ?_
  refine V_icmp_ge (pc := 4) h (tgt := 84) dX4_noteChanges_4 (by decide) hF (fun hF => ?_) (fun hF => ?_)
  · have hF := Option.some.inj hF
    subst hF
    exact V_vret (pc := 84) h dX4_noteChanges_84
  · refine V_iconst (pc := 7) h (v := (1 : Int32)) dX4_noteChanges_7 (by decide) ?_
    refine V_istore_n (pc := 8) h [(3, .int (1 : Int32)), (0, .ref h0), (1, .ref h1), (2, .int x2)] dX4_noteChanges_8 (by decide) rfl ?_
    refine V_lv [1, 2, 3, 0] [(0, .ref h0), (1, .ref h1), (2, .int x2), (3, .int (1 : Int32))] rfl ?_
    exact tfX4_noteChanges_l9 h hk2 1000 _ _ _ hF
noncomputable def fX4_noteChanges_l2 (v1_data : (Nat → Int32)) (n : Nat) : (Nat → Int32) → Int32 → Option ((Nat → Int32)) :=
  Nat.rec (motive := fun _ => (Nat → Int32) → Int32 → Option ((Nat → Int32))) (fun _ _ => none) (fun _ ih => fX4_noteChanges_b2 v1_data ih) n
theorem fX4_noteChanges_l2_s (v1_data : (Nat → Int32)) (n : Nat) (v0_data : (Nat → Int32)) (x2 : Int32) : fX4_noteChanges_l2 v1_data (n + 1) v0_data x2 = fX4_noteChanges_b2 v1_data (fX4_noteChanges_l2 v1_data n) v0_data x2 := rfl
set_option maxRecDepth 100000 in
set_option maxHeartbeats 4000000 in
theorem tfX4_noteChanges_l2 {p : Program} {l : Launch} {e : Env} {s : State} {m : MethodId} {args : Array Value} {below : List Frame} {meth : Method} {c : Code} {A : Nat → Prop} {D : va_G} {cI cZ : ClassId} (h : Cx p s m args meth c A D cI cZ 6 cX4_noteChanges RX4 wsX4_noteChanges none) {h0 h0_data h1 h1_data : Nat} {v1_data : (Nat → Int32)} {o : (Nat → Int32)} (n : Nat) : ∀ (v0_data : (Nat → Int32)) (x2 : Int32) (hF : fX4_noteChanges_l2 v1_data n v0_data x2 = some o), V p l e rmX4_noteChanges s m args below meth c A D 6 (QV D [(h0, .inr (4, [.ref h0_data])), (h0_data, .inl (cI, 124, .inl o)), (h1, .inr (4, [.ref h1_data])), (h1_data, .inl (cI, 124, .inl v1_data))] A below args s) [(h0, .inr (4, [.ref h0_data])), (h0_data, .inl (cI, 124, .inl v0_data)), (h1, .inr (4, [.ref h1_data])), (h1_data, .inl (cI, 124, .inl v1_data))] 2 [(0, .ref h0), (1, .ref h1), (2, .int x2)] [] := by
  induction n with
  | zero => intro v0_data x2 hF; exact nomatch (show (none : Option ((Nat → Int32))) = some o from hF)
  | succ n ih => intro v0_data x2 hF; exact tfX4_noteChanges_b2 (k2 := fX4_noteChanges_l2 v1_data n) h ih hF
noncomputable def fX4_noteChanges (v1_data : (Nat → Int32)) (v0_data : (Nat → Int32)) : Option ((Nat → Int32)) :=
  fX4_noteChanges_l2 v1_data 1000 v0_data (0 : Int32)
set_option maxRecDepth 100000 in
set_option maxHeartbeats 4000000 in
theorem tfX4_noteChanges {p : Program} {l : Launch} {e : Env} {s : State} {m : MethodId} {args : Array Value} {below : List Frame} {meth : Method} {c : Code} {A : Nat → Prop} {D : va_G} {cI cZ : ClassId} (h : Cx p s m args meth c A D cI cZ 6 cX4_noteChanges RX4 wsX4_noteChanges none) {h0 h0_data h1 h1_data : Nat} {v1_data : (Nat → Int32)} {v0_data : (Nat → Int32)} {o : (Nat → Int32)} (hF : fX4_noteChanges v1_data v0_data = some o) : V p l e rmX4_noteChanges s m args below meth c A D 6 (QV D [(h0, .inr (4, [.ref h0_data])), (h0_data, .inl (cI, 124, .inl o)), (h1, .inr (4, [.ref h1_data])), (h1_data, .inl (cI, 124, .inl v1_data))] A below args s) [(h0, .inr (4, [.ref h0_data])), (h0_data, .inl (cI, 124, .inl v0_data)), (h1, .inr (4, [.ref h1_data])), (h1_data, .inl (cI, 124, .inl v1_data))] 0 [(0, .ref h0), (1, .ref h1)] [] := by
  unfold fX4_noteChanges at hF
  refine V_iconst (pc := 0) h (v := (0 : Int32)) dX4_noteChanges_0 (by decide) ?_
  refine V_istore_n (pc := 1) h [(2, .int (0 : Int32)), (0, .ref h0), (1, .ref h1)] dX4_noteChanges_1 (by decide) rfl ?_
  refine V_lv [1, 2, 0] [(0, .ref h0), (1, .ref h1), (2, .int (0 : Int32))] rfl ?_
  exact tfX4_noteChanges_l2 h 1000 _ _ hF
set_option maxRecDepth 100000 in
theorem k_X4_noteChanges (l : Launch) (D : va_G) (cI cZ : ClassId) (h0 h0_data h1 h1_data : Nat) (v0_data : (Nat → Int32)) (v1_data : (Nat → Int32)) {o : (Nat → Int32)} (hF : fX4_noteChanges v1_data v0_data = some o) : CV l yX4_noteChanges wsX4_noteChanges rmX4_noteChanges D cI cZ [.ref h0, .ref h1] [(h0, .inr (4, [.ref h0_data])), (h0_data, .inl (cI, 124, .inl v0_data)), (h1, .inr (4, [.ref h1_data])), (h1_data, .inl (cI, 124, .inl v1_data))] [(h0, .inr (4, [.ref h0_data])), (h0_data, .inl (cI, 124, .inl o)), (h1, .inr (4, [.ref h1_data])), (h1_data, .inl (cI, 124, .inl v1_data))] :=
  CV_of (cc := cX4_noteChanges) (nL := 6) (ret := none) (by decide) rfl (Nat.le_of_ble_eq_true rfl) rfl (fun p e s m args below meth c A h => tfX4_noteChanges h hF)
/-! X4_noticeField -/
abbrev rmX4_noticeField : Room := { frames := 1, cells := 0, slots := 0, locals := 21 }
noncomputable def fX4_noticeField (v0_data : (Nat → Int32)) (x1 : Int32) (x2 : Int32) : Option (Int32) :=
  bd (fX4_noticePlace x1) (fun r2 => bd (fX4_read v0_data (r2 + x2)) (fun r7 => some r7))
set_option maxRecDepth 100000 in
set_option maxHeartbeats 4000000 in
theorem tfX4_noticeField {p : Program} {l : Launch} {e : Env} {s : State} {m : MethodId} {args : Array Value} {below : List Frame} {meth : Method} {c : Code} {A : Nat → Prop} {D : va_G} {cI cZ : ClassId} (h : Cx p s m args meth c A D cI cZ 3 cX4_noticeField RX4 wsX4_noticeField (some .int)) {h0 h0_data : Nat} {x1 : Int32} {x2 : Int32} {v0_data : (Nat → Int32)} {o : Int32} (hF : fX4_noticeField v0_data x1 x2 = some o) : V p l e rmX4_noticeField s m args below meth c A D 3 (QI D [(h0, .inr (4, [.ref h0_data])), (h0_data, .inl (cI, 124, .inl v0_data))] o A below args s) [(h0, .inr (4, [.ref h0_data])), (h0_data, .inl (cI, 124, .inl v0_data))] 0 [(0, .ref h0), (1, .int x1), (2, .int x2)] [] := by
  unfold fX4_noticeField at hF
  refine V_aload_n (pc := 0) h 0 dX4_noticeField_0 rfl ?_
  refine V_iload_n (pc := 1) h 1 dX4_noticeField_1 rfl ?_
  refine V_ciS (pc := 2) h (n := 1) (bytes := cX4_noticePlace) (maxL := 1) (As := [.int x1]) (rest := [.ref h0]) gX4_noticeField_X4_noticePlace (by decide +kernel) rfl ⟨rfl, rfl⟩ ⟨Nat.le_of_ble_eq_true rfl, Nat.le_of_ble_eq_true rfl⟩ [] rfl (by decide) rfl (fun r2 => [(h0, .inr (4, [.ref h0_data])), (h0_data, .inl (cI, 124, .inl v0_data))]) (fun _ => rfl) (fun _ => rfl) rfl (Nat.le_of_ble_eq_true rfl) dX4_noticeField_2 hF (fun r2 hG => k_X4_noticePlace l D cI cZ x1 hG) (fun r2 hF => ?_)
  refine V_iload_n (pc := 5) h 2 dX4_noticeField_5 rfl ?_
  refine V_iadd (pc := 6) h dX4_noticeField_6 ?_
  refine V_ciVA (pc := 7) h (n := 1) (bytes := cX4_read) (maxL := 2) (As := [.int (r2 + x2)]) (rest := []) gX4_noticeField_X4_read (by decide +kernel) rfl rfl rfl rfl ⟨rfl, rfl⟩ ⟨Nat.le_of_ble_eq_true rfl, Nat.le_of_ble_eq_true rfl⟩ rfl rfl (Nat.le_of_ble_eq_true rfl) dX4_noticeField_7 hF (fun r7 hG => k_X4_read l D cI cZ h0 h0_data v0_data (r2 + x2) hG) (fun r7 hF => ?_)
  have hF := Option.some.inj hF
  subst hF
  exact V_iret (pc := 10) h dX4_noticeField_10
set_option maxRecDepth 100000 in
theorem k_X4_noticeField (l : Launch) (D : va_G) (cI cZ : ClassId) (h0 h0_data : Nat) (v0_data : (Nat → Int32)) (x1 : Int32) (x2 : Int32) {o : Int32} (hF : fX4_noticeField v0_data x1 x2 = some o) : CI l yX4_noticeField wsX4_noticeField rmX4_noticeField D cI cZ [.ref h0, .int x1, .int x2] [(h0, .inr (4, [.ref h0_data])), (h0_data, .inl (cI, 124, .inl v0_data))] [(h0, .inr (4, [.ref h0_data])), (h0_data, .inl (cI, 124, .inl v0_data))] o :=
  CI_of (cc := cX4_noticeField) (nL := 3) (ret := (some .int)) (by decide) rfl (Nat.le_of_ble_eq_true rfl) rfl (fun p e s m args below meth c A h => tfX4_noticeField h hF)
/-! X4_staysAfterTick -/
abbrev rmX4_staysAfterTick : Room := { frames := 2, cells := 0, slots := 0, locals := 43 }
noncomputable def fX4_staysAfterTick (x1 : Int32) (v0_data : (Nat → Int32)) : Option (Int32 × (Nat → Int32)) :=
  bd (fX4_noticeField v0_data x1 (4 : Int32)) (fun r3 => bnd (r3 - (1 : Int32)) (fun x2_8 => bd (fX4_noticeField v0_data x1 (3 : Int32)) (fun r12 => if x2_8 ≤ (0 : Int32) then if r12 < (3 : Int32) then bd (fX4_noticePlace x1) (fun r42 => bd (fX4_write (r42 + (3 : Int32)) (r12 + (1 : Int32)) v0_data) (fun r50 => bd (fX4_noticePlace x1) (fun r55 => bd (fX4_write (r55 + (4 : Int32)) (3 : Int32) r50) (fun r61 => some (((1 : Int32), r61)))))) else some (((0 : Int32), v0_data)) else bd (fX4_noticePlace x1) (fun r22 => bd (fX4_write (r22 + (4 : Int32)) x2_8 v0_data) (fun r28 => some (((1 : Int32), r28)))))))
set_option maxRecDepth 100000 in
set_option maxHeartbeats 4000000 in
theorem tfX4_staysAfterTick {p : Program} {l : Launch} {e : Env} {s : State} {m : MethodId} {args : Array Value} {below : List Frame} {meth : Method} {c : Code} {A : Nat → Prop} {D : va_G} {cI cZ : ClassId} (h : Cx p s m args meth c A D cI cZ 4 cX4_staysAfterTick RX4 wsX4_staysAfterTick (some .boolean)) {h0 h0_data : Nat} {x1 : Int32} {v0_data : (Nat → Int32)} {o : Int32 × (Nat → Int32)} (hF : fX4_staysAfterTick x1 v0_data = some o) : V p l e rmX4_staysAfterTick s m args below meth c A D 4 (QI D [(h0, .inr (4, [.ref h0_data])), (h0_data, .inl (cI, 124, .inl o.2))] o.1 A below args s) [(h0, .inr (4, [.ref h0_data])), (h0_data, .inl (cI, 124, .inl v0_data))] 0 [(0, .ref h0), (1, .int x1)] [] := by
  unfold fX4_staysAfterTick at hF
  refine V_aload_n (pc := 0) h 0 dX4_staysAfterTick_0 rfl ?_
  refine V_iload_n (pc := 1) h 1 dX4_staysAfterTick_1 rfl ?_
  refine V_iconst (pc := 2) h (v := (4 : Int32)) dX4_staysAfterTick_2 (by decide) ?_
  refine V_ciVA (pc := 3) h (n := 2) (bytes := cX4_noticeField) (maxL := 3) (As := [.int x1, .int (4 : Int32)]) (rest := []) gX4_staysAfterTick_X4_noticeField (by decide +kernel) rfl rfl rfl rfl ⟨rfl, rfl⟩ ⟨Nat.le_of_ble_eq_true rfl, Nat.le_of_ble_eq_true rfl⟩ rfl rfl (Nat.le_of_ble_eq_true rfl) dX4_staysAfterTick_3 hF (fun r3 hG => k_X4_noticeField l D cI cZ h0 h0_data v0_data x1 (4 : Int32) hG) (fun r3 hF => ?_)
  refine V_iconst (pc := 6) h (v := (1 : Int32)) dX4_staysAfterTick_6 (by decide) ?_
  refine V_isub (pc := 7) h dX4_staysAfterTick_7 ?_
  refine V_bnd hF (fun x2_8 hF => ?_)
  refine V_istore_n (pc := 8) h [(2, .int x2_8), (0, .ref h0), (1, .int x1)] dX4_staysAfterTick_8 (by decide) rfl ?_
  refine V_aload_n (pc := 9) h 1 dX4_staysAfterTick_9 rfl ?_
  refine V_iload_n (pc := 10) h 2 dX4_staysAfterTick_10 rfl ?_
  refine V_iconst (pc := 11) h (v := (3 : Int32)) dX4_staysAfterTick_11 (by decide) ?_
  refine V_ciVA (pc := 12) h (n := 2) (bytes := cX4_noticeField) (maxL := 3) (As := [.int x1, .int (3 : Int32)]) (rest := []) gX4_staysAfterTick_X4_noticeField (by decide +kernel) rfl rfl rfl rfl ⟨rfl, rfl⟩ ⟨Nat.le_of_ble_eq_true rfl, Nat.le_of_ble_eq_true rfl⟩ rfl rfl (Nat.le_of_ble_eq_true rfl) dX4_staysAfterTick_12 hF (fun r12 hG => k_X4_noticeField l D cI cZ h0 h0_data v0_data x1 (3 : Int32) hG) (fun r12 hF => ?_)
  refine V_istore_n (pc := 15) h [(3, .int r12), (2, .int x2_8), (0, .ref h0), (1, .int x1)] dX4_staysAfterTick_15 (by decide) rfl ?_
  refine V_iload_n (pc := 16) h 1 dX4_staysAfterTick_16 rfl ?_
  refine V_if_le (pc := 17) h (tgt := 33) dX4_staysAfterTick_17 (by decide) hF (fun hF => ?_) (fun hF => ?_)
  · refine V_iload_n (pc := 33) h 0 dX4_staysAfterTick_33 rfl ?_
    refine V_iconst (pc := 34) h (v := (3 : Int32)) dX4_staysAfterTick_34 (by decide) ?_
    refine V_icmp_lt (pc := 35) h (tgt := 40) dX4_staysAfterTick_35 (by decide) hF (fun hF => ?_) (fun hF => ?_)
    · refine V_aload_n (pc := 40) h 2 dX4_staysAfterTick_40 rfl ?_
      refine V_iload_n (pc := 41) h 3 dX4_staysAfterTick_41 rfl ?_
      refine V_ciS (pc := 42) h (n := 1) (bytes := cX4_noticePlace) (maxL := 1) (As := [.int x1]) (rest := [.ref h0]) gX4_staysAfterTick_X4_noticePlace (by decide +kernel) rfl ⟨rfl, rfl⟩ ⟨Nat.le_of_ble_eq_true rfl, Nat.le_of_ble_eq_true rfl⟩ [] rfl (by decide) rfl (fun r42 => [(h0, .inr (4, [.ref h0_data])), (h0_data, .inl (cI, 124, .inl v0_data))]) (fun _ => rfl) (fun _ => rfl) rfl (Nat.le_of_ble_eq_true rfl) dX4_staysAfterTick_42 hF (fun r42 hG => k_X4_noticePlace l D cI cZ x1 hG) (fun r42 hF => ?_)
      refine V_iconst (pc := 45) h (v := (3 : Int32)) dX4_staysAfterTick_45 (by decide) ?_
      refine V_iadd (pc := 46) h dX4_staysAfterTick_46 ?_
      refine V_iload_n (pc := 47) h 0 dX4_staysAfterTick_47 rfl ?_
      refine V_iconst (pc := 48) h (v := (1 : Int32)) dX4_staysAfterTick_48 (by decide) ?_
      refine V_iadd (pc := 49) h dX4_staysAfterTick_49 ?_
      refine V_cvVA (pc := 50) h (n := 2) (bytes := cX4_write) (maxL := 3) (As := [.int (r42 + (3 : Int32)), .int (r12 + (1 : Int32))]) (rest := []) gX4_staysAfterTick_X4_write (by decide +kernel) rfl rfl rfl rfl ⟨rfl, rfl⟩ ⟨Nat.le_of_ble_eq_true rfl, Nat.le_of_ble_eq_true rfl⟩ rfl rfl (Nat.le_of_ble_eq_true rfl) dX4_staysAfterTick_50 hF (fun r50 hG => k_X4_write l D cI cZ h0 h0_data v0_data (r42 + (3 : Int32)) (r12 + (1 : Int32)) hG) (fun r50 hF => ?_)
      refine V_aload_n (pc := 53) h 2 dX4_staysAfterTick_53 rfl ?_
      refine V_iload_n (pc := 54) h 3 dX4_staysAfterTick_54 rfl ?_
      refine V_ciS (pc := 55) h (n := 1) (bytes := cX4_noticePlace) (maxL := 1) (As := [.int x1]) (rest := [.ref h0]) gX4_staysAfterTick_X4_noticePlace (by decide +kernel) rfl ⟨rfl, rfl⟩ ⟨Nat.le_of_ble_eq_true rfl, Nat.le_of_ble_eq_true rfl⟩ [] rfl (by decide) rfl (fun r55 => [(h0, .inr (4, [.ref h0_data])), (h0_data, .inl (cI, 124, .inl r50))]) (fun _ => rfl) (fun _ => rfl) rfl (Nat.le_of_ble_eq_true rfl) dX4_staysAfterTick_55 hF (fun r55 hG => k_X4_noticePlace l D cI cZ x1 hG) (fun r55 hF => ?_)
      refine V_iconst (pc := 58) h (v := (4 : Int32)) dX4_staysAfterTick_58 (by decide) ?_
      refine V_iadd (pc := 59) h dX4_staysAfterTick_59 ?_
      refine V_iconst (pc := 60) h (v := (3 : Int32)) dX4_staysAfterTick_60 (by decide) ?_
      refine V_cvVA (pc := 61) h (n := 2) (bytes := cX4_write) (maxL := 3) (As := [.int (r55 + (4 : Int32)), .int (3 : Int32)]) (rest := []) gX4_staysAfterTick_X4_write (by decide +kernel) rfl rfl rfl rfl ⟨rfl, rfl⟩ ⟨Nat.le_of_ble_eq_true rfl, Nat.le_of_ble_eq_true rfl⟩ rfl rfl (Nat.le_of_ble_eq_true rfl) dX4_staysAfterTick_61 hF (fun r61 hG => k_X4_write l D cI cZ h0 h0_data r50 (r55 + (4 : Int32)) (3 : Int32) hG) (fun r61 hF => ?_)
      refine V_iconst (pc := 64) h (v := (1 : Int32)) dX4_staysAfterTick_64 (by decide) ?_
      have hF := Option.some.inj hF
      subst hF
      exact V_zret (pc := 65) h (Or.inr rfl) dX4_staysAfterTick_65
    · refine V_iconst (pc := 38) h (v := (0 : Int32)) dX4_staysAfterTick_38 (by decide) ?_
      have hF := Option.some.inj hF
      subst hF
      exact V_zret (pc := 39) h (Or.inl rfl) dX4_staysAfterTick_39
  · refine V_aload_n (pc := 20) h 2 dX4_staysAfterTick_20 rfl ?_
    refine V_iload_n (pc := 21) h 3 dX4_staysAfterTick_21 rfl ?_
    refine V_ciS (pc := 22) h (n := 1) (bytes := cX4_noticePlace) (maxL := 1) (As := [.int x1]) (rest := [.ref h0]) gX4_staysAfterTick_X4_noticePlace (by decide +kernel) rfl ⟨rfl, rfl⟩ ⟨Nat.le_of_ble_eq_true rfl, Nat.le_of_ble_eq_true rfl⟩ [] rfl (by decide) rfl (fun r22 => [(h0, .inr (4, [.ref h0_data])), (h0_data, .inl (cI, 124, .inl v0_data))]) (fun _ => rfl) (fun _ => rfl) rfl (Nat.le_of_ble_eq_true rfl) dX4_staysAfterTick_22 hF (fun r22 hG => k_X4_noticePlace l D cI cZ x1 hG) (fun r22 hF => ?_)
    refine V_iconst (pc := 25) h (v := (4 : Int32)) dX4_staysAfterTick_25 (by decide) ?_
    refine V_iadd (pc := 26) h dX4_staysAfterTick_26 ?_
    refine V_iload_n (pc := 27) h 1 dX4_staysAfterTick_27 rfl ?_
    refine V_cvVA (pc := 28) h (n := 2) (bytes := cX4_write) (maxL := 3) (As := [.int (r22 + (4 : Int32)), .int x2_8]) (rest := []) gX4_staysAfterTick_X4_write (by decide +kernel) rfl rfl rfl rfl ⟨rfl, rfl⟩ ⟨Nat.le_of_ble_eq_true rfl, Nat.le_of_ble_eq_true rfl⟩ rfl rfl (Nat.le_of_ble_eq_true rfl) dX4_staysAfterTick_28 hF (fun r28 hG => k_X4_write l D cI cZ h0 h0_data v0_data (r22 + (4 : Int32)) x2_8 hG) (fun r28 hF => ?_)
    refine V_iconst (pc := 31) h (v := (1 : Int32)) dX4_staysAfterTick_31 (by decide) ?_
    have hF := Option.some.inj hF
    subst hF
    exact V_zret (pc := 32) h (Or.inr rfl) dX4_staysAfterTick_32
set_option maxRecDepth 100000 in
theorem k_X4_staysAfterTick (l : Launch) (D : va_G) (cI cZ : ClassId) (h0 h0_data : Nat) (v0_data : (Nat → Int32)) (x1 : Int32) {o : Int32 × (Nat → Int32)} (hF : fX4_staysAfterTick x1 v0_data = some o) : CI l yX4_staysAfterTick wsX4_staysAfterTick rmX4_staysAfterTick D cI cZ [.ref h0, .int x1] [(h0, .inr (4, [.ref h0_data])), (h0_data, .inl (cI, 124, .inl v0_data))] [(h0, .inr (4, [.ref h0_data])), (h0_data, .inl (cI, 124, .inl o.2))] o.1 :=
  CI_of (cc := cX4_staysAfterTick) (nL := 4) (ret := (some .boolean)) (by decide) rfl (Nat.le_of_ble_eq_true rfl) rfl (fun p e s m args below meth c A h => tfX4_staysAfterTick h hF)
/-! X4_tick -/
abbrev rmX4_tick : Room := { frames := 3, cells := 0, slots := 0, locals := 66 }
theorem uX4_tick_inX6 : ∀ w ∈ wsX60, w ∈ wsX4_tick := by decide +kernel
theorem uX4_tick_f21 : Cond.fieldLink RX4 21 "LeafAsks$Tree" "size" "I" ∈ wsX4_tick := by decide +kernel
noncomputable def fX4_tick_b65 (v1_size : Int32) (v1_data : (Nat → Int32)) (k65 : (Nat → Int32) → Int32 → Int32 → Option ((Nat → Int32))) (v0_data : (Nat → Int32)) (x2 : Int32) (x3 : Int32) : Option ((Nat → Int32)) :=
  if x3 ≤ (0 : Int32) then some v0_data else bd (fX4_staysAfterTick x2 v0_data) (fun r71 => if r71.1 = (0 : Int32) then bd (fX4_removeNotice x2 r71.2) (fun r85 => bd (fX4_givenUp r85) (fun r91 => bd (fX4_write (2 : Int32) (r91 + (1 : Int32)) r85) (fun r96 => bnd (x3 + (-1 : Int32)) (fun x3_99 => k65 r96 x2 x3_99)))) else bnd (x2 + (1 : Int32)) (fun x2_77 => bnd (x3 + (-1 : Int32)) (fun x3_99 => k65 r71.2 x2_77 x3_99)))
set_option maxRecDepth 100000 in
set_option maxHeartbeats 4000000 in
theorem tfX4_tick_b65 {p : Program} {l : Launch} {e : Env} {s : State} {m : MethodId} {args : Array Value} {below : List Frame} {meth : Method} {c : Code} {A : Nat → Prop} {D : va_G} {cI cZ : ClassId} (h : Cx p s m args meth c A D cI cZ 4 cX4_tick RX4 wsX4_tick none) {h0 h0_data h1 h1_data h1_fresh : Nat} {v1_size : Int32} {v1_data : (Nat → Int32)} {v1_fresh : (Nat → Int32)} {k65 : (Nat → Int32) → Int32 → Int32 → Option ((Nat → Int32))} {v0_data : (Nat → Int32)} {x2 : Int32} {x3 : Int32} {o : (Nat → Int32)} (hk65 : ∀ (v0_data : (Nat → Int32)) (x2 : Int32) (x3 : Int32), k65 v0_data x2 x3 = some o → V p l e rmX4_tick s m args below meth c A D 4 (QV D [(h0, .inr (4, [.ref h0_data])), (h0_data, .inl (cI, 124, .inl o)), (h1, .inr (6, [.ref h1_data, .ref h1_fresh, .int v1_size])), (h1_data, .inl (cI, 56, .inl v1_data)), (h1_fresh, .inl (cI, 7, .inl v1_fresh))] A below args s) [(h0, .inr (4, [.ref h0_data])), (h0_data, .inl (cI, 124, .inl v0_data)), (h1, .inr (6, [.ref h1_data, .ref h1_fresh, .int v1_size])), (h1_data, .inl (cI, 56, .inl v1_data)), (h1_fresh, .inl (cI, 7, .inl v1_fresh))] 65 [(0, .ref h0), (2, .int x2), (3, .int x3)] []) (hF : fX4_tick_b65 v1_size v1_data k65 v0_data x2 x3 = some o) : V p l e rmX4_tick s m args below meth c A D 4 (QV D [(h0, .inr (4, [.ref h0_data])), (h0_data, .inl (cI, 124, .inl o)), (h1, .inr (6, [.ref h1_data, .ref h1_fresh, .int v1_size])), (h1_data, .inl (cI, 56, .inl v1_data)), (h1_fresh, .inl (cI, 7, .inl v1_fresh))] A below args s) [(h0, .inr (4, [.ref h0_data])), (h0_data, .inl (cI, 124, .inl v0_data)), (h1, .inr (6, [.ref h1_data, .ref h1_fresh, .int v1_size])), (h1_data, .inl (cI, 56, .inl v1_data)), (h1_fresh, .inl (cI, 7, .inl v1_fresh))] 65 [(0, .ref h0), (2, .int x2), (3, .int x3)] [] := by
  unfold fX4_tick_b65 at hF
  refine V_iload_n (pc := 65) h 2 dX4_tick_65 rfl ?_
  refine V_if_le (pc := 66) h (tgt := 105) dX4_tick_66 (by decide) hF (fun hF => ?_) (fun hF => ?_)
  · have hF := Option.some.inj hF
    subst hF
    exact V_vret (pc := 105) h dX4_tick_105
  · refine V_aload_n (pc := 69) h 0 dX4_tick_69 rfl ?_
    refine V_iload_n (pc := 70) h 1 dX4_tick_70 rfl ?_
    refine V_ciV (pc := 71) h (n := 1) (bytes := cX4_staysAfterTick) (maxL := 4) (As := [.int x2]) (rest := []) gX4_tick_X4_staysAfterTick (by decide +kernel) rfl rfl rfl rfl ⟨rfl, rfl⟩ ⟨Nat.le_of_ble_eq_true rfl, Nat.le_of_ble_eq_true rfl⟩ [0, 1] rfl (by decide) rfl (fun r71 => [(h0, .inr (4, [.ref h0_data])), (h0_data, .inl (cI, 124, .inl r71.2)), (h1, .inr (6, [.ref h1_data, .ref h1_fresh, .int v1_size])), (h1_data, .inl (cI, 56, .inl v1_data)), (h1_fresh, .inl (cI, 7, .inl v1_fresh))]) (fun _ => rfl) (fun _ => rfl) rfl (Nat.le_of_ble_eq_true rfl) dX4_tick_71 hF (fun r71 hG => k_X4_staysAfterTick l D cI cZ h0 h0_data v0_data x2 hG) (fun r71 hF => ?_)
    refine V_if_eq (pc := 74) h (tgt := 83) dX4_tick_74 (by decide) hF (fun hF => ?_) (fun hF => ?_)
    · refine V_aload_n (pc := 83) h 0 dX4_tick_83 rfl ?_
      refine V_iload_n (pc := 84) h 1 dX4_tick_84 rfl ?_
      refine V_cvV (pc := 85) h (n := 1) (bytes := cX4_removeNotice) (maxL := 4) (As := [.int x2]) (rest := []) gX4_tick_X4_removeNotice (by decide +kernel) rfl rfl rfl rfl ⟨rfl, rfl⟩ ⟨Nat.le_of_ble_eq_true rfl, Nat.le_of_ble_eq_true rfl⟩ [0, 1] rfl (by decide) rfl (fun r85 => [(h0, .inr (4, [.ref h0_data])), (h0_data, .inl (cI, 124, .inl r85)), (h1, .inr (6, [.ref h1_data, .ref h1_fresh, .int v1_size])), (h1_data, .inl (cI, 56, .inl v1_data)), (h1_fresh, .inl (cI, 7, .inl v1_fresh))]) (fun _ => rfl) (fun _ => rfl) rfl (Nat.le_of_ble_eq_true rfl) dX4_tick_85 hF (fun r85 hG => k_X4_removeNotice l D cI cZ h0 h0_data r71.2 x2 hG) (fun r85 hF => ?_)
      refine V_aload_n (pc := 88) h 0 dX4_tick_88 rfl ?_
      refine V_iconst (pc := 89) h (v := (2 : Int32)) dX4_tick_89 (by decide) ?_
      refine V_aload_n (pc := 90) h 0 dX4_tick_90 rfl ?_
      refine V_ciV (pc := 91) h (n := 0) (bytes := cX4_givenUp) (maxL := 1) (As := []) (rest := [.int (2 : Int32), .ref h0]) gX4_tick_X4_givenUp (by decide +kernel) rfl rfl rfl rfl ⟨rfl, rfl⟩ ⟨Nat.le_of_ble_eq_true rfl, Nat.le_of_ble_eq_true rfl⟩ [0, 1] rfl (by decide) rfl (fun r91 => [(h0, .inr (4, [.ref h0_data])), (h0_data, .inl (cI, 124, .inl r85)), (h1, .inr (6, [.ref h1_data, .ref h1_fresh, .int v1_size])), (h1_data, .inl (cI, 56, .inl v1_data)), (h1_fresh, .inl (cI, 7, .inl v1_fresh))]) (fun _ => rfl) (fun _ => rfl) rfl (Nat.le_of_ble_eq_true rfl) dX4_tick_91 hF (fun r91 hG => k_X4_givenUp l D cI cZ h0 h0_data r85 hG) (fun r91 hF => ?_)
      refine V_iconst (pc := 94) h (v := (1 : Int32)) dX4_tick_94 (by decide) ?_
      refine V_iadd (pc := 95) h dX4_tick_95 ?_
      refine V_cvV (pc := 96) h (n := 2) (bytes := cX4_write) (maxL := 3) (As := [.int (2 : Int32), .int (r91 + (1 : Int32))]) (rest := []) gX4_tick_X4_write (by decide +kernel) rfl rfl rfl rfl ⟨rfl, rfl⟩ ⟨Nat.le_of_ble_eq_true rfl, Nat.le_of_ble_eq_true rfl⟩ [0, 1] rfl (by decide) rfl (fun r96 => [(h0, .inr (4, [.ref h0_data])), (h0_data, .inl (cI, 124, .inl r96)), (h1, .inr (6, [.ref h1_data, .ref h1_fresh, .int v1_size])), (h1_data, .inl (cI, 56, .inl v1_data)), (h1_fresh, .inl (cI, 7, .inl v1_fresh))]) (fun _ => rfl) (fun _ => rfl) rfl (Nat.le_of_ble_eq_true rfl) dX4_tick_96 hF (fun r96 hG => k_X4_write l D cI cZ h0 h0_data r85 (2 : Int32) (r91 + (1 : Int32)) hG) (fun r96 hF => ?_)
      refine V_iinc (pc := 99) h 2 (fun x3_99 => [(3, .int x3_99), (0, .ref h0), (2, .int x2)]) dX4_tick_99 rfl rfl (by decide) (fun _ => rfl) hF (fun x3_99 hF => ?_)
      refine V_goto (pc := 102) h (tgt := 65) dX4_tick_102 (by decide) ?_
      refine V_lv [1, 2, 0] [(0, .ref h0), (2, .int x2), (3, .int x3_99)] rfl ?_
      exact hk65 _ _ _ hF
    · refine V_iinc (pc := 77) h 1 (fun x2_77 => [(2, .int x2_77), (0, .ref h0), (3, .int x3)]) dX4_tick_77 rfl rfl (by decide) (fun _ => rfl) hF (fun x2_77 hF => ?_)
      refine V_goto (pc := 80) h (tgt := 99) dX4_tick_80 (by decide) ?_
      refine V_iinc (pc := 99) h 2 (fun x3_99 => [(3, .int x3_99), (2, .int x2_77), (0, .ref h0)]) dX4_tick_99 rfl rfl (by decide) (fun _ => rfl) hF (fun x3_99 hF => ?_)
      refine V_goto (pc := 102) h (tgt := 65) dX4_tick_102 (by decide) ?_
      refine V_lv [2, 1, 0] [(0, .ref h0), (2, .int x2_77), (3, .int x3_99)] rfl ?_
      exact hk65 _ _ _ hF
noncomputable def fX4_tick_l65 (v1_size : Int32) (v1_data : (Nat → Int32)) (n : Nat) : (Nat → Int32) → Int32 → Int32 → Option ((Nat → Int32)) :=
  Nat.rec (motive := fun _ => (Nat → Int32) → Int32 → Int32 → Option ((Nat → Int32))) (fun _ _ _ => none) (fun _ ih => fX4_tick_b65 v1_size v1_data ih) n
theorem fX4_tick_l65_s (v1_size : Int32) (v1_data : (Nat → Int32)) (n : Nat) (v0_data : (Nat → Int32)) (x2 : Int32) (x3 : Int32) : fX4_tick_l65 v1_size v1_data (n + 1) v0_data x2 x3 = fX4_tick_b65 v1_size v1_data (fX4_tick_l65 v1_size v1_data n) v0_data x2 x3 := rfl
set_option maxRecDepth 100000 in
set_option maxHeartbeats 4000000 in
theorem tfX4_tick_l65 {p : Program} {l : Launch} {e : Env} {s : State} {m : MethodId} {args : Array Value} {below : List Frame} {meth : Method} {c : Code} {A : Nat → Prop} {D : va_G} {cI cZ : ClassId} (h : Cx p s m args meth c A D cI cZ 4 cX4_tick RX4 wsX4_tick none) {h0 h0_data h1 h1_data h1_fresh : Nat} {v1_size : Int32} {v1_data : (Nat → Int32)} {v1_fresh : (Nat → Int32)} {o : (Nat → Int32)} (n : Nat) : ∀ (v0_data : (Nat → Int32)) (x2 : Int32) (x3 : Int32) (hF : fX4_tick_l65 v1_size v1_data n v0_data x2 x3 = some o), V p l e rmX4_tick s m args below meth c A D 4 (QV D [(h0, .inr (4, [.ref h0_data])), (h0_data, .inl (cI, 124, .inl o)), (h1, .inr (6, [.ref h1_data, .ref h1_fresh, .int v1_size])), (h1_data, .inl (cI, 56, .inl v1_data)), (h1_fresh, .inl (cI, 7, .inl v1_fresh))] A below args s) [(h0, .inr (4, [.ref h0_data])), (h0_data, .inl (cI, 124, .inl v0_data)), (h1, .inr (6, [.ref h1_data, .ref h1_fresh, .int v1_size])), (h1_data, .inl (cI, 56, .inl v1_data)), (h1_fresh, .inl (cI, 7, .inl v1_fresh))] 65 [(0, .ref h0), (2, .int x2), (3, .int x3)] [] := by
  induction n with
  | zero => intro v0_data x2 x3 hF; exact nomatch (show (none : Option ((Nat → Int32))) = some o from hF)
  | succ n ih => intro v0_data x2 x3 hF; exact tfX4_tick_b65 (k65 := fX4_tick_l65 v1_size v1_data n) h ih hF
noncomputable def fX4_tick_b13 (v1_size : Int32) (v1_data : (Nat → Int32)) (k13 : (Nat → Int32) → Int32 → Option ((Nat → Int32))) (v0_data : (Nat → Int32)) (x2 : Int32) : Option ((Nat → Int32)) :=
  if v1_size ≤ x2 then bd (fX4_waiting v0_data) (fun r61 => fX4_tick_l65 v1_size v1_data 1000 v0_data (0 : Int32) r61) else bd (fX6_field v1_data x2 (0 : Int32)) (fun r24 => if r24 = (1 : Int32) then bd (fX4_valueOf v0_data x2) (fun r35 => bd (fX6_field v1_data x2 (2 : Int32)) (fun r41 => bd (fX4_setValue x2 (jrem (r35 + r41) (1000 : Int32)) v0_data) (fun r49 => bnd (x2 + (1 : Int32)) (fun x2_52 => k13 r49 x2_52)))) else bnd (x2 + (1 : Int32)) (fun x2_52 => k13 v0_data x2_52))
set_option maxRecDepth 100000 in
set_option maxHeartbeats 4000000 in
theorem tfX4_tick_b13 {p : Program} {l : Launch} {e : Env} {s : State} {m : MethodId} {args : Array Value} {below : List Frame} {meth : Method} {c : Code} {A : Nat → Prop} {D : va_G} {cI cZ : ClassId} (h : Cx p s m args meth c A D cI cZ 4 cX4_tick RX4 wsX4_tick none) {h0 h0_data h1 h1_data h1_fresh : Nat} {v1_size : Int32} {v1_data : (Nat → Int32)} {v1_fresh : (Nat → Int32)} {k13 : (Nat → Int32) → Int32 → Option ((Nat → Int32))} {v0_data : (Nat → Int32)} {x2 : Int32} {o : (Nat → Int32)} (hk13 : ∀ (v0_data : (Nat → Int32)) (x2 : Int32), k13 v0_data x2 = some o → V p l e rmX4_tick s m args below meth c A D 4 (QV D [(h0, .inr (4, [.ref h0_data])), (h0_data, .inl (cI, 124, .inl o)), (h1, .inr (6, [.ref h1_data, .ref h1_fresh, .int v1_size])), (h1_data, .inl (cI, 56, .inl v1_data)), (h1_fresh, .inl (cI, 7, .inl v1_fresh))] A below args s) [(h0, .inr (4, [.ref h0_data])), (h0_data, .inl (cI, 124, .inl v0_data)), (h1, .inr (6, [.ref h1_data, .ref h1_fresh, .int v1_size])), (h1_data, .inl (cI, 56, .inl v1_data)), (h1_fresh, .inl (cI, 7, .inl v1_fresh))] 13 [(0, .ref h0), (1, .ref h1), (2, .int x2)] []) (hF : fX4_tick_b13 v1_size v1_data k13 v0_data x2 = some o) : V p l e rmX4_tick s m args below meth c A D 4 (QV D [(h0, .inr (4, [.ref h0_data])), (h0_data, .inl (cI, 124, .inl o)), (h1, .inr (6, [.ref h1_data, .ref h1_fresh, .int v1_size])), (h1_data, .inl (cI, 56, .inl v1_data)), (h1_fresh, .inl (cI, 7, .inl v1_fresh))] A below args s) [(h0, .inr (4, [.ref h0_data])), (h0_data, .inl (cI, 124, .inl v0_data)), (h1, .inr (6, [.ref h1_data, .ref h1_fresh, .int v1_size])), (h1_data, .inl (cI, 56, .inl v1_data)), (h1_fresh, .inl (cI, 7, .inl v1_fresh))] 13 [(0, .ref h0), (1, .ref h1), (2, .int x2)] [] := by
  unfold fX4_tick_b13 at hF
  refine V_iload_n (pc := 13) h 2 dX4_tick_13 rfl ?_
  refine V_aload_n (pc := 14) h 1 dX4_tick_14 rfl ?_
  refine V_get (pc := 15) h uX4_tick_inX6 2 2 rfl rfl (by decide) uX4_tick_f21 rfl rfl dX4_tick_15 ?_
  refine V_icmp_ge (pc := 18) h (tgt := 58) dX4_tick_18 (by decide) hF (fun hF => ?_) (fun hF => ?_)
  · refine V_iconst (pc := 58) h (v := (0 : Int32)) dX4_tick_58 (by decide) ?_
    refine V_istore_n (pc := 59) h [(2, .int (0 : Int32)), (0, .ref h0), (1, .ref h1)] dX4_tick_59 (by decide) rfl ?_
    refine V_aload_n (pc := 60) h 1 dX4_tick_60 rfl ?_
    refine V_ciV (pc := 61) h (n := 0) (bytes := cX4_waiting) (maxL := 1) (As := []) (rest := []) gX4_tick_X4_waiting (by decide +kernel) rfl rfl rfl rfl ⟨rfl, rfl⟩ ⟨Nat.le_of_ble_eq_true rfl, Nat.le_of_ble_eq_true rfl⟩ [0, 1] rfl (by decide) rfl (fun r61 => [(h0, .inr (4, [.ref h0_data])), (h0_data, .inl (cI, 124, .inl v0_data)), (h1, .inr (6, [.ref h1_data, .ref h1_fresh, .int v1_size])), (h1_data, .inl (cI, 56, .inl v1_data)), (h1_fresh, .inl (cI, 7, .inl v1_fresh))]) (fun _ => rfl) (fun _ => rfl) rfl (Nat.le_of_ble_eq_true rfl) dX4_tick_61 hF (fun r61 hG => k_X4_waiting l D cI cZ h0 h0_data v0_data hG) (fun r61 hF => ?_)
    refine V_istore_n (pc := 64) h [(3, .int r61), (2, .int (0 : Int32)), (0, .ref h0), (1, .ref h1)] dX4_tick_64 (by decide) rfl ?_
    refine V_lv [2, 1, 0] [(0, .ref h0), (2, .int (0 : Int32)), (3, .int r61)] rfl ?_
    exact tfX4_tick_l65 h 1000 _ _ _ hF
  · refine V_aload_n (pc := 21) h 1 dX4_tick_21 rfl ?_
    refine V_iload_n (pc := 22) h 2 dX4_tick_22 rfl ?_
    refine V_iconst (pc := 23) h (v := (0 : Int32)) dX4_tick_23 (by decide) ?_
    refine V_ciV (pc := 24) h (n := 2) (bytes := cX6_field) (maxL := 4) (As := [.int x2, .int (0 : Int32)]) (rest := []) gX4_tick_X6_field (by decide +kernel) rfl rfl rfl rfl ⟨rfl, rfl⟩ ⟨Nat.le_of_ble_eq_true rfl, Nat.le_of_ble_eq_true rfl⟩ [2, 3, 4] rfl (by decide) rfl (fun r24 => [(h0, .inr (4, [.ref h0_data])), (h0_data, .inl (cI, 124, .inl v0_data)), (h1, .inr (6, [.ref h1_data, .ref h1_fresh, .int v1_size])), (h1_data, .inl (cI, 56, .inl v1_data)), (h1_fresh, .inl (cI, 7, .inl v1_fresh))]) (fun _ => rfl) (fun _ => rfl) rfl (Nat.le_of_ble_eq_true rfl) dX4_tick_24 hF (fun r24 hG => k_X6_field l D cI cZ h1 h1_data h1_fresh v1_size v1_data v1_fresh x2 (0 : Int32) hG) (fun r24 hF => ?_)
    refine V_iconst (pc := 27) h (v := (1 : Int32)) dX4_tick_27 (by decide) ?_
    refine V_icmp_ne (pc := 28) h (tgt := 52) dX4_tick_28 (by decide) hF (fun hF => ?_) (fun hF => ?_)
    · refine V_iinc (pc := 52) h 2 (fun x2_52 => [(2, .int x2_52), (0, .ref h0), (1, .ref h1)]) dX4_tick_52 rfl rfl (by decide) (fun _ => rfl) hF (fun x2_52 hF => ?_)
      refine V_goto (pc := 55) h (tgt := 13) dX4_tick_55 (by decide) ?_
      refine V_lv [1, 2, 0] [(0, .ref h0), (1, .ref h1), (2, .int x2_52)] rfl ?_
      exact hk13 _ _ hF
    · refine V_aload_n (pc := 31) h 0 dX4_tick_31 rfl ?_
      refine V_iload_n (pc := 32) h 2 dX4_tick_32 rfl ?_
      refine V_aload_n (pc := 33) h 0 dX4_tick_33 rfl ?_
      refine V_iload_n (pc := 34) h 2 dX4_tick_34 rfl ?_
      refine V_ciV (pc := 35) h (n := 1) (bytes := cX4_valueOf) (maxL := 2) (As := [.int x2]) (rest := [.int x2, .ref h0]) gX4_tick_X4_valueOf (by decide +kernel) rfl rfl rfl rfl ⟨rfl, rfl⟩ ⟨Nat.le_of_ble_eq_true rfl, Nat.le_of_ble_eq_true rfl⟩ [0, 1] rfl (by decide) rfl (fun r35 => [(h0, .inr (4, [.ref h0_data])), (h0_data, .inl (cI, 124, .inl v0_data)), (h1, .inr (6, [.ref h1_data, .ref h1_fresh, .int v1_size])), (h1_data, .inl (cI, 56, .inl v1_data)), (h1_fresh, .inl (cI, 7, .inl v1_fresh))]) (fun _ => rfl) (fun _ => rfl) rfl (Nat.le_of_ble_eq_true rfl) dX4_tick_35 hF (fun r35 hG => k_X4_valueOf l D cI cZ h0 h0_data v0_data x2 hG) (fun r35 hF => ?_)
      refine V_aload_n (pc := 38) h 1 dX4_tick_38 rfl ?_
      refine V_iload_n (pc := 39) h 2 dX4_tick_39 rfl ?_
      refine V_iconst (pc := 40) h (v := (2 : Int32)) dX4_tick_40 (by decide) ?_
      refine V_ciV (pc := 41) h (n := 2) (bytes := cX6_field) (maxL := 4) (As := [.int x2, .int (2 : Int32)]) (rest := [.int r35, .int x2, .ref h0]) gX4_tick_X6_field (by decide +kernel) rfl rfl rfl rfl ⟨rfl, rfl⟩ ⟨Nat.le_of_ble_eq_true rfl, Nat.le_of_ble_eq_true rfl⟩ [2, 3, 4] rfl (by decide) rfl (fun r41 => [(h0, .inr (4, [.ref h0_data])), (h0_data, .inl (cI, 124, .inl v0_data)), (h1, .inr (6, [.ref h1_data, .ref h1_fresh, .int v1_size])), (h1_data, .inl (cI, 56, .inl v1_data)), (h1_fresh, .inl (cI, 7, .inl v1_fresh))]) (fun _ => rfl) (fun _ => rfl) rfl (Nat.le_of_ble_eq_true rfl) dX4_tick_41 hF (fun r41 hG => k_X6_field l D cI cZ h1 h1_data h1_fresh v1_size v1_data v1_fresh x2 (2 : Int32) hG) (fun r41 hF => ?_)
      refine V_iadd (pc := 44) h dX4_tick_44 ?_
      refine V_sipush (pc := 45) h (v := (1000 : Int32)) dX4_tick_45 (by decide) ?_
      refine V_irem (pc := 48) h dX4_tick_48 (by decide) ?_
      refine V_cvV (pc := 49) h (n := 2) (bytes := cX4_setValue) (maxL := 3) (As := [.int x2, .int (jrem (r35 + r41) (1000 : Int32))]) (rest := []) gX4_tick_X4_setValue (by decide +kernel) rfl rfl rfl rfl ⟨rfl, rfl⟩ ⟨Nat.le_of_ble_eq_true rfl, Nat.le_of_ble_eq_true rfl⟩ [0, 1] rfl (by decide) rfl (fun r49 => [(h0, .inr (4, [.ref h0_data])), (h0_data, .inl (cI, 124, .inl r49)), (h1, .inr (6, [.ref h1_data, .ref h1_fresh, .int v1_size])), (h1_data, .inl (cI, 56, .inl v1_data)), (h1_fresh, .inl (cI, 7, .inl v1_fresh))]) (fun _ => rfl) (fun _ => rfl) rfl (Nat.le_of_ble_eq_true rfl) dX4_tick_49 hF (fun r49 hG => k_X4_setValue l D cI cZ h0 h0_data v0_data x2 (jrem (r35 + r41) (1000 : Int32)) hG) (fun r49 hF => ?_)
      refine V_iinc (pc := 52) h 2 (fun x2_52 => [(2, .int x2_52), (0, .ref h0), (1, .ref h1)]) dX4_tick_52 rfl rfl (by decide) (fun _ => rfl) hF (fun x2_52 hF => ?_)
      refine V_goto (pc := 55) h (tgt := 13) dX4_tick_55 (by decide) ?_
      refine V_lv [1, 2, 0] [(0, .ref h0), (1, .ref h1), (2, .int x2_52)] rfl ?_
      exact hk13 _ _ hF
noncomputable def fX4_tick_l13 (v1_size : Int32) (v1_data : (Nat → Int32)) (n : Nat) : (Nat → Int32) → Int32 → Option ((Nat → Int32)) :=
  Nat.rec (motive := fun _ => (Nat → Int32) → Int32 → Option ((Nat → Int32))) (fun _ _ => none) (fun _ ih => fX4_tick_b13 v1_size v1_data ih) n
theorem fX4_tick_l13_s (v1_size : Int32) (v1_data : (Nat → Int32)) (n : Nat) (v0_data : (Nat → Int32)) (x2 : Int32) : fX4_tick_l13 v1_size v1_data (n + 1) v0_data x2 = fX4_tick_b13 v1_size v1_data (fX4_tick_l13 v1_size v1_data n) v0_data x2 := rfl
set_option maxRecDepth 100000 in
set_option maxHeartbeats 4000000 in
theorem tfX4_tick_l13 {p : Program} {l : Launch} {e : Env} {s : State} {m : MethodId} {args : Array Value} {below : List Frame} {meth : Method} {c : Code} {A : Nat → Prop} {D : va_G} {cI cZ : ClassId} (h : Cx p s m args meth c A D cI cZ 4 cX4_tick RX4 wsX4_tick none) {h0 h0_data h1 h1_data h1_fresh : Nat} {v1_size : Int32} {v1_data : (Nat → Int32)} {v1_fresh : (Nat → Int32)} {o : (Nat → Int32)} (n : Nat) : ∀ (v0_data : (Nat → Int32)) (x2 : Int32) (hF : fX4_tick_l13 v1_size v1_data n v0_data x2 = some o), V p l e rmX4_tick s m args below meth c A D 4 (QV D [(h0, .inr (4, [.ref h0_data])), (h0_data, .inl (cI, 124, .inl o)), (h1, .inr (6, [.ref h1_data, .ref h1_fresh, .int v1_size])), (h1_data, .inl (cI, 56, .inl v1_data)), (h1_fresh, .inl (cI, 7, .inl v1_fresh))] A below args s) [(h0, .inr (4, [.ref h0_data])), (h0_data, .inl (cI, 124, .inl v0_data)), (h1, .inr (6, [.ref h1_data, .ref h1_fresh, .int v1_size])), (h1_data, .inl (cI, 56, .inl v1_data)), (h1_fresh, .inl (cI, 7, .inl v1_fresh))] 13 [(0, .ref h0), (1, .ref h1), (2, .int x2)] [] := by
  induction n with
  | zero => intro v0_data x2 hF; exact nomatch (show (none : Option ((Nat → Int32))) = some o from hF)
  | succ n ih => intro v0_data x2 hF; exact tfX4_tick_b13 (k13 := fX4_tick_l13 v1_size v1_data n) h ih hF
noncomputable def fX4_tick (v1_size : Int32) (v1_data : (Nat → Int32)) (v0_data : (Nat → Int32)) : Option ((Nat → Int32)) :=
  bd (fX4_time v0_data) (fun r3 => bd (fX4_write (0 : Int32) (r3 + (1 : Int32)) v0_data) (fun r8 => fX4_tick_l13 v1_size v1_data 1000 r8 (0 : Int32)))
set_option maxRecDepth 100000 in
set_option maxHeartbeats 4000000 in
theorem tfX4_tick {p : Program} {l : Launch} {e : Env} {s : State} {m : MethodId} {args : Array Value} {below : List Frame} {meth : Method} {c : Code} {A : Nat → Prop} {D : va_G} {cI cZ : ClassId} (h : Cx p s m args meth c A D cI cZ 4 cX4_tick RX4 wsX4_tick none) {h0 h0_data h1 h1_data h1_fresh : Nat} {v1_size : Int32} {v1_data : (Nat → Int32)} {v1_fresh : (Nat → Int32)} {v0_data : (Nat → Int32)} {o : (Nat → Int32)} (hF : fX4_tick v1_size v1_data v0_data = some o) : V p l e rmX4_tick s m args below meth c A D 4 (QV D [(h0, .inr (4, [.ref h0_data])), (h0_data, .inl (cI, 124, .inl o)), (h1, .inr (6, [.ref h1_data, .ref h1_fresh, .int v1_size])), (h1_data, .inl (cI, 56, .inl v1_data)), (h1_fresh, .inl (cI, 7, .inl v1_fresh))] A below args s) [(h0, .inr (4, [.ref h0_data])), (h0_data, .inl (cI, 124, .inl v0_data)), (h1, .inr (6, [.ref h1_data, .ref h1_fresh, .int v1_size])), (h1_data, .inl (cI, 56, .inl v1_data)), (h1_fresh, .inl (cI, 7, .inl v1_fresh))] 0 [(0, .ref h0), (1, .ref h1)] [] := by
  unfold fX4_tick at hF
  refine V_aload_n (pc := 0) h 0 dX4_tick_0 rfl ?_
  refine V_iconst (pc := 1) h (v := (0 : Int32)) dX4_tick_1 (by decide) ?_
  refine V_aload_n (pc := 2) h 0 dX4_tick_2 rfl ?_
  refine V_ciV (pc := 3) h (n := 0) (bytes := cX4_time) (maxL := 1) (As := []) (rest := [.int (0 : Int32), .ref h0]) gX4_tick_X4_time (by decide +kernel) rfl rfl rfl rfl ⟨rfl, rfl⟩ ⟨Nat.le_of_ble_eq_true rfl, Nat.le_of_ble_eq_true rfl⟩ [0, 1] rfl (by decide) rfl (fun r3 => [(h0, .inr (4, [.ref h0_data])), (h0_data, .inl (cI, 124, .inl v0_data)), (h1, .inr (6, [.ref h1_data, .ref h1_fresh, .int v1_size])), (h1_data, .inl (cI, 56, .inl v1_data)), (h1_fresh, .inl (cI, 7, .inl v1_fresh))]) (fun _ => rfl) (fun _ => rfl) rfl (Nat.le_of_ble_eq_true rfl) dX4_tick_3 hF (fun r3 hG => k_X4_time l D cI cZ h0 h0_data v0_data hG) (fun r3 hF => ?_)
  refine V_iconst (pc := 6) h (v := (1 : Int32)) dX4_tick_6 (by decide) ?_
  refine V_iadd (pc := 7) h dX4_tick_7 ?_
  refine V_cvV (pc := 8) h (n := 2) (bytes := cX4_write) (maxL := 3) (As := [.int (0 : Int32), .int (r3 + (1 : Int32))]) (rest := []) gX4_tick_X4_write (by decide +kernel) rfl rfl rfl rfl ⟨rfl, rfl⟩ ⟨Nat.le_of_ble_eq_true rfl, Nat.le_of_ble_eq_true rfl⟩ [0, 1] rfl (by decide) rfl (fun r8 => [(h0, .inr (4, [.ref h0_data])), (h0_data, .inl (cI, 124, .inl r8)), (h1, .inr (6, [.ref h1_data, .ref h1_fresh, .int v1_size])), (h1_data, .inl (cI, 56, .inl v1_data)), (h1_fresh, .inl (cI, 7, .inl v1_fresh))]) (fun _ => rfl) (fun _ => rfl) rfl (Nat.le_of_ble_eq_true rfl) dX4_tick_8 hF (fun r8 hG => k_X4_write l D cI cZ h0 h0_data v0_data (0 : Int32) (r3 + (1 : Int32)) hG) (fun r8 hF => ?_)
  refine V_iconst (pc := 11) h (v := (0 : Int32)) dX4_tick_11 (by decide) ?_
  refine V_istore_n (pc := 12) h [(2, .int (0 : Int32)), (0, .ref h0), (1, .ref h1)] dX4_tick_12 (by decide) rfl ?_
  refine V_lv [1, 2, 0] [(0, .ref h0), (1, .ref h1), (2, .int (0 : Int32))] rfl ?_
  exact tfX4_tick_l13 h 1000 _ _ hF
set_option maxRecDepth 100000 in
theorem k_X4_tick (l : Launch) (D : va_G) (cI cZ : ClassId) (h0 h0_data h1 h1_data h1_fresh : Nat) (v0_data : (Nat → Int32)) (v1_size : Int32) (v1_data : (Nat → Int32)) (v1_fresh : (Nat → Int32)) {o : (Nat → Int32)} (hF : fX4_tick v1_size v1_data v0_data = some o) : CV l yX4_tick wsX4_tick rmX4_tick D cI cZ [.ref h0, .ref h1] [(h0, .inr (4, [.ref h0_data])), (h0_data, .inl (cI, 124, .inl v0_data)), (h1, .inr (6, [.ref h1_data, .ref h1_fresh, .int v1_size])), (h1_data, .inl (cI, 56, .inl v1_data)), (h1_fresh, .inl (cI, 7, .inl v1_fresh))] [(h0, .inr (4, [.ref h0_data])), (h0_data, .inl (cI, 124, .inl o)), (h1, .inr (6, [.ref h1_data, .ref h1_fresh, .int v1_size])), (h1_data, .inl (cI, 56, .inl v1_data)), (h1_fresh, .inl (cI, 7, .inl v1_fresh))] :=
  CV_of (cc := cX4_tick) (nL := 4) (ret := none) (by decide) rfl (Nat.le_of_ble_eq_true rfl) rfl (fun p e s m args below meth c A h => tfX4_tick h hF)
/-! X5_append -/
abbrev rmX5_append : Room := { frames := 0, cells := 0, slots := 0, locals := 0 }
theorem uX5_append_inX5 : ∀ w ∈ wsX50, w ∈ wsX5_append := by decide +kernel
theorem uX5_append_f24 : Cond.fieldLink RX5 24 "LeafAsks$Text" "length" "I" ∈ wsX5_append := by decide +kernel
theorem uX5_append_f11 : Cond.fieldLink RX5 11 "LeafAsks$Text" "letters" "[I" ∈ wsX5_append := by decide +kernel
noncomputable def fX5_append (x1 : Int32) (v0_length : Int32) (v0_letters : (Nat → Int32)) : Option (Int32 × Int32 × (Nat → Int32)) :=
  if v0_length < (0 : Int32) then some (((0 : Int32), v0_length, v0_letters)) else if v0_length < (160 : Int32) then gin v0_length 160 (bnd (v0_length + (1 : Int32)) (fun y36 => some (((1 : Int32), y36, (upd v0_letters v0_length.toNatClampNeg x1))))) else some (((0 : Int32), v0_length, v0_letters))
set_option maxRecDepth 100000 in
set_option maxHeartbeats 4000000 in
theorem tfX5_append {p : Program} {l : Launch} {e : Env} {s : State} {m : MethodId} {args : Array Value} {below : List Frame} {meth : Method} {c : Code} {A : Nat → Prop} {D : va_G} {cI cZ : ClassId} (h : Cx p s m args meth c A D cI cZ 2 cX5_append RX5 wsX5_append (some .boolean)) {h0 h0_letters h0_tokens h0_starts h0_numbers : Nat} {x1 : Int32} {v0_size : Int32} {v0_at : Int32} {v0_token : Int32} {v0_start : Int32} {v0_number : Int32} {v0_tokens : (Nat → Int32)} {v0_starts : (Nat → Int32)} {v0_numbers : (Nat → Int32)} {v0_length : Int32} {v0_letters : (Nat → Int32)} {o : Int32 × Int32 × (Nat → Int32)} (hF : fX5_append x1 v0_length v0_letters = some o) : V p l e rmX5_append s m args below meth c A D 2 (QI D [(h0, .inr (5, [.ref h0_letters, .ref h0_tokens, .ref h0_starts, .ref h0_numbers, .int v0_size, .int v0_at, .int o.2.1, .int v0_token, .int v0_start, .int v0_number])), (h0_letters, .inl (cI, 160, .inl o.2.2)), (h0_tokens, .inl (cI, 160, .inl v0_tokens)), (h0_starts, .inl (cI, 160, .inl v0_starts)), (h0_numbers, .inl (cI, 160, .inl v0_numbers))] o.1 A below args s) [(h0, .inr (5, [.ref h0_letters, .ref h0_tokens, .ref h0_starts, .ref h0_numbers, .int v0_size, .int v0_at, .int v0_length, .int v0_token, .int v0_start, .int v0_number])), (h0_letters, .inl (cI, 160, .inl v0_letters)), (h0_tokens, .inl (cI, 160, .inl v0_tokens)), (h0_starts, .inl (cI, 160, .inl v0_starts)), (h0_numbers, .inl (cI, 160, .inl v0_numbers))] 0 [(0, .ref h0), (1, .int x1)] [] := by
  unfold fX5_append at hF
  refine V_aload_n (pc := 0) h 0 dX5_append_0 rfl ?_
  refine V_get (pc := 1) h uX5_append_inX5 0 6 rfl rfl (by decide) uX5_append_f24 rfl rfl dX5_append_1 ?_
  refine V_if_lt (pc := 4) h (tgt := 17) dX5_append_4 (by decide) hF (fun hF => ?_) (fun hF => ?_)
  · refine V_iconst (pc := 17) h (v := (0 : Int32)) dX5_append_17 (by decide) ?_
    have hF := Option.some.inj hF
    subst hF
    exact V_zret (pc := 18) h (Or.inl rfl) dX5_append_18
  · refine V_aload_n (pc := 7) h 0 dX5_append_7 rfl ?_
    refine V_get (pc := 8) h uX5_append_inX5 0 6 rfl rfl (by decide) uX5_append_f24 rfl rfl dX5_append_8 ?_
    refine V_sipush (pc := 11) h (v := (160 : Int32)) dX5_append_11 (by decide) ?_
    refine V_icmp_lt (pc := 14) h (tgt := 19) dX5_append_14 (by decide) hF (fun hF => ?_) (fun hF => ?_)
    · refine V_aload_n (pc := 19) h 0 dX5_append_19 rfl ?_
      refine V_get (pc := 20) h uX5_append_inX5 0 0 rfl rfl (by decide) uX5_append_f11 rfl rfl dX5_append_20 ?_
      refine V_aload_n (pc := 23) h 0 dX5_append_23 rfl ?_
      refine V_get (pc := 24) h uX5_append_inX5 0 6 rfl rfl (by decide) uX5_append_f24 rfl rfl dX5_append_24 ?_
      refine V_iload_n (pc := 27) h 1 dX5_append_27 rfl ?_
      refine V_iast (pc := 28) h 1 rfl [(h0, .inr (5, [.ref h0_letters, .ref h0_tokens, .ref h0_starts, .ref h0_numbers, .int v0_size, .int v0_at, .int v0_length, .int v0_token, .int v0_start, .int v0_number])), (h0_letters, .inl (cI, 160, .inl (upd v0_letters v0_length.toNatClampNeg x1))), (h0_tokens, .inl (cI, 160, .inl v0_tokens)), (h0_starts, .inl (cI, 160, .inl v0_starts)), (h0_numbers, .inl (cI, 160, .inl v0_numbers))] rfl dX5_append_28 hF (fun hF => ?_)
      refine V_aload_n (pc := 29) h 0 dX5_append_29 rfl ?_
      refine V_dup (pc := 30) h dX5_append_30 rfl ?_
      refine V_get (pc := 31) h uX5_append_inX5 0 6 rfl rfl (by decide) uX5_append_f24 rfl rfl dX5_append_31 ?_
      refine V_iconst (pc := 34) h (v := (1 : Int32)) dX5_append_34 (by decide) ?_
      refine V_iadd (pc := 35) h dX5_append_35 ?_
      refine V_bnd hF (fun y36 hF => ?_)
      refine V_put (pc := 36) h uX5_append_inX5 tyX5 tyX5_ok nmX5 0 6 rfl rfl (by decide) uX5_append_f24 rfl rfl (by decide +kernel) (Nat.le_of_ble_eq_true rfl) [(h0, .inr (5, [.ref h0_letters, .ref h0_tokens, .ref h0_starts, .ref h0_numbers, .int v0_size, .int v0_at, .int y36, .int v0_token, .int v0_start, .int v0_number])), (h0_letters, .inl (cI, 160, .inl (upd v0_letters v0_length.toNatClampNeg x1))), (h0_tokens, .inl (cI, 160, .inl v0_tokens)), (h0_starts, .inl (cI, 160, .inl v0_starts)), (h0_numbers, .inl (cI, 160, .inl v0_numbers))] rfl dX5_append_36 ?_
      refine V_iconst (pc := 39) h (v := (1 : Int32)) dX5_append_39 (by decide) ?_
      have hF := Option.some.inj hF
      subst hF
      exact V_zret (pc := 40) h (Or.inr rfl) dX5_append_40
    · refine V_iconst (pc := 17) h (v := (0 : Int32)) dX5_append_17 (by decide) ?_
      have hF := Option.some.inj hF
      subst hF
      exact V_zret (pc := 18) h (Or.inl rfl) dX5_append_18
set_option maxRecDepth 100000 in
theorem k_X5_append (l : Launch) (D : va_G) (cI cZ : ClassId) (h0 h0_letters h0_tokens h0_starts h0_numbers : Nat) (v0_size : Int32) (v0_at : Int32) (v0_length : Int32) (v0_token : Int32) (v0_start : Int32) (v0_number : Int32) (v0_letters : (Nat → Int32)) (v0_tokens : (Nat → Int32)) (v0_starts : (Nat → Int32)) (v0_numbers : (Nat → Int32)) (x1 : Int32) {o : Int32 × Int32 × (Nat → Int32)} (hF : fX5_append x1 v0_length v0_letters = some o) : CI l yX5_append wsX5_append rmX5_append D cI cZ [.ref h0, .int x1] [(h0, .inr (5, [.ref h0_letters, .ref h0_tokens, .ref h0_starts, .ref h0_numbers, .int v0_size, .int v0_at, .int v0_length, .int v0_token, .int v0_start, .int v0_number])), (h0_letters, .inl (cI, 160, .inl v0_letters)), (h0_tokens, .inl (cI, 160, .inl v0_tokens)), (h0_starts, .inl (cI, 160, .inl v0_starts)), (h0_numbers, .inl (cI, 160, .inl v0_numbers))] [(h0, .inr (5, [.ref h0_letters, .ref h0_tokens, .ref h0_starts, .ref h0_numbers, .int v0_size, .int v0_at, .int o.2.1, .int v0_token, .int v0_start, .int v0_number])), (h0_letters, .inl (cI, 160, .inl o.2.2)), (h0_tokens, .inl (cI, 160, .inl v0_tokens)), (h0_starts, .inl (cI, 160, .inl v0_starts)), (h0_numbers, .inl (cI, 160, .inl v0_numbers))] o.1 :=
  CI_of (cc := cX5_append) (nL := 2) (ret := (some .boolean)) (by decide) rfl (Nat.le_of_ble_eq_true rfl) rfl (fun p e s m args below meth c A h => tfX5_append h hF)
/-! X5_drop -/
abbrev rmX5_drop : Room := { frames := 0, cells := 0, slots := 0, locals := 0 }
theorem uX5_drop_inX5 : ∀ w ∈ wsX50, w ∈ wsX5_drop := by decide +kernel
theorem uX5_drop_f24 : Cond.fieldLink RX5 24 "LeafAsks$Text" "length" "I" ∈ wsX5_drop := by decide +kernel
noncomputable def fX5_drop (v0_length : Int32) : Option (Int32) :=
  some (0 : Int32)
set_option maxRecDepth 100000 in
set_option maxHeartbeats 4000000 in
theorem tfX5_drop {p : Program} {l : Launch} {e : Env} {s : State} {m : MethodId} {args : Array Value} {below : List Frame} {meth : Method} {c : Code} {A : Nat → Prop} {D : va_G} {cI cZ : ClassId} (h : Cx p s m args meth c A D cI cZ 1 cX5_drop RX5 wsX5_drop none) {h0 h0_letters h0_tokens h0_starts h0_numbers : Nat} {v0_size : Int32} {v0_at : Int32} {v0_token : Int32} {v0_start : Int32} {v0_number : Int32} {v0_letters : (Nat → Int32)} {v0_tokens : (Nat → Int32)} {v0_starts : (Nat → Int32)} {v0_numbers : (Nat → Int32)} {v0_length : Int32} {o : Int32} (hF : fX5_drop v0_length = some o) : V p l e rmX5_drop s m args below meth c A D 1 (QV D [(h0, .inr (5, [.ref h0_letters, .ref h0_tokens, .ref h0_starts, .ref h0_numbers, .int v0_size, .int v0_at, .int o, .int v0_token, .int v0_start, .int v0_number])), (h0_letters, .inl (cI, 160, .inl v0_letters)), (h0_tokens, .inl (cI, 160, .inl v0_tokens)), (h0_starts, .inl (cI, 160, .inl v0_starts)), (h0_numbers, .inl (cI, 160, .inl v0_numbers))] A below args s) [(h0, .inr (5, [.ref h0_letters, .ref h0_tokens, .ref h0_starts, .ref h0_numbers, .int v0_size, .int v0_at, .int v0_length, .int v0_token, .int v0_start, .int v0_number])), (h0_letters, .inl (cI, 160, .inl v0_letters)), (h0_tokens, .inl (cI, 160, .inl v0_tokens)), (h0_starts, .inl (cI, 160, .inl v0_starts)), (h0_numbers, .inl (cI, 160, .inl v0_numbers))] 0 [(0, .ref h0)] [] := by
  unfold fX5_drop at hF
  refine V_aload_n (pc := 0) h 0 dX5_drop_0 rfl ?_
  refine V_iconst (pc := 1) h (v := (0 : Int32)) dX5_drop_1 (by decide) ?_
  refine V_put (pc := 2) h uX5_drop_inX5 tyX5 tyX5_ok nmX5 0 6 rfl rfl (by decide) uX5_drop_f24 rfl rfl (by decide +kernel) (Nat.le_of_ble_eq_true rfl) [(h0, .inr (5, [.ref h0_letters, .ref h0_tokens, .ref h0_starts, .ref h0_numbers, .int v0_size, .int v0_at, .int (0 : Int32), .int v0_token, .int v0_start, .int v0_number])), (h0_letters, .inl (cI, 160, .inl v0_letters)), (h0_tokens, .inl (cI, 160, .inl v0_tokens)), (h0_starts, .inl (cI, 160, .inl v0_starts)), (h0_numbers, .inl (cI, 160, .inl v0_numbers))] rfl dX5_drop_2 ?_
  have hF := Option.some.inj hF
  subst hF
  exact V_vret (pc := 5) h dX5_drop_5
set_option maxRecDepth 100000 in
theorem k_X5_drop (l : Launch) (D : va_G) (cI cZ : ClassId) (h0 h0_letters h0_tokens h0_starts h0_numbers : Nat) (v0_size : Int32) (v0_at : Int32) (v0_length : Int32) (v0_token : Int32) (v0_start : Int32) (v0_number : Int32) (v0_letters : (Nat → Int32)) (v0_tokens : (Nat → Int32)) (v0_starts : (Nat → Int32)) (v0_numbers : (Nat → Int32)) {o : Int32} (hF : fX5_drop v0_length = some o) : CV l yX5_drop wsX5_drop rmX5_drop D cI cZ [.ref h0] [(h0, .inr (5, [.ref h0_letters, .ref h0_tokens, .ref h0_starts, .ref h0_numbers, .int v0_size, .int v0_at, .int v0_length, .int v0_token, .int v0_start, .int v0_number])), (h0_letters, .inl (cI, 160, .inl v0_letters)), (h0_tokens, .inl (cI, 160, .inl v0_tokens)), (h0_starts, .inl (cI, 160, .inl v0_starts)), (h0_numbers, .inl (cI, 160, .inl v0_numbers))] [(h0, .inr (5, [.ref h0_letters, .ref h0_tokens, .ref h0_starts, .ref h0_numbers, .int v0_size, .int v0_at, .int o, .int v0_token, .int v0_start, .int v0_number])), (h0_letters, .inl (cI, 160, .inl v0_letters)), (h0_tokens, .inl (cI, 160, .inl v0_tokens)), (h0_starts, .inl (cI, 160, .inl v0_starts)), (h0_numbers, .inl (cI, 160, .inl v0_numbers))] :=
  CV_of (cc := cX5_drop) (nL := 1) (ret := none) (by decide) rfl (Nat.le_of_ble_eq_true rfl) rfl (fun p e s m args below meth c A h => tfX5_drop h hF)
/-! X6_takeFrom -/
abbrev rmX6_takeFrom : Room := { frames := 1, cells := 0, slots := 0, locals := 40 }
theorem uX6_takeFrom_inX6 : ∀ w ∈ wsX60, w ∈ wsX6_takeFrom := by decide +kernel
theorem uX6_takeFrom_f11 : Cond.fieldLink RX6 11 "LeafAsks$Tree" "data" "[I" ∈ wsX6_takeFrom := by decide +kernel
theorem uX6_takeFrom_ac1 : Cond.methodLink RX6 18 arraycopyName ∈ wsX6_takeFrom := by decide +kernel
theorem uX6_takeFrom_ac2 : Cond.native arraycopyName ∈ wsX6_takeFrom := by decide +kernel
theorem uX6_takeFrom_ac3 : Cond.static arraycopyName ∈ wsX6_takeFrom := by decide +kernel
theorem uX6_takeFrom_ac4 : Cond.initialized "java/lang/System" ∈ wsX6_takeFrom := by decide +kernel
theorem uX6_takeFrom_f24 : Cond.fieldLink RX6 24 "LeafAsks$Tree" "size" "I" ∈ wsX6_takeFrom := by decide +kernel
noncomputable def fX6_takeFrom (v1_size : Int32) (v1_data : (Nat → Int32)) (v0_size : Int32) (v0_data : (Nat → Int32)) : Option (Int32 × (Nat → Int32)) :=
  gcp (0 : Int32) (0 : Int32) (56 : Int32) 56 56 (some ((v1_size, (va_cpy v1_data v0_data (0 : Int32).toNatClampNeg (0 : Int32).toNatClampNeg (56 : Int32).toNatClampNeg))))
set_option maxRecDepth 100000 in
set_option maxHeartbeats 4000000 in
theorem tfX6_takeFrom {p : Program} {l : Launch} {e : Env} {s : State} {m : MethodId} {args : Array Value} {below : List Frame} {meth : Method} {c : Code} {A : Nat → Prop} {D : va_G} {cI cZ : ClassId} (h : Cx p s m args meth c A D cI cZ 2 cX6_takeFrom RX6 wsX6_takeFrom none) {h0 h0_data h0_fresh h1 h1_data h1_fresh : Nat} {v0_fresh : (Nat → Int32)} {v1_size : Int32} {v1_data : (Nat → Int32)} {v1_fresh : (Nat → Int32)} {v0_size : Int32} {v0_data : (Nat → Int32)} {o : Int32 × (Nat → Int32)} (hF : fX6_takeFrom v1_size v1_data v0_size v0_data = some o) : V p l e rmX6_takeFrom s m args below meth c A D 2 (QV D [(h0, .inr (6, [.ref h0_data, .ref h0_fresh, .int o.1])), (h0_data, .inl (cI, 56, .inl o.2)), (h0_fresh, .inl (cI, 7, .inl v0_fresh)), (h1, .inr (6, [.ref h1_data, .ref h1_fresh, .int v1_size])), (h1_data, .inl (cI, 56, .inl v1_data)), (h1_fresh, .inl (cI, 7, .inl v1_fresh))] A below args s) [(h0, .inr (6, [.ref h0_data, .ref h0_fresh, .int v0_size])), (h0_data, .inl (cI, 56, .inl v0_data)), (h0_fresh, .inl (cI, 7, .inl v0_fresh)), (h1, .inr (6, [.ref h1_data, .ref h1_fresh, .int v1_size])), (h1_data, .inl (cI, 56, .inl v1_data)), (h1_fresh, .inl (cI, 7, .inl v1_fresh))] 0 [(0, .ref h0), (1, .ref h1)] [] := by
  unfold fX6_takeFrom at hF
  refine V_aload_n (pc := 0) h 1 dX6_takeFrom_0 rfl ?_
  refine V_get (pc := 1) h uX6_takeFrom_inX6 3 0 rfl rfl (by decide) uX6_takeFrom_f11 rfl rfl dX6_takeFrom_1 ?_
  refine V_iconst (pc := 4) h (v := (0 : Int32)) dX6_takeFrom_4 (by decide) ?_
  refine V_aload_n (pc := 5) h 0 dX6_takeFrom_5 rfl ?_
  refine V_get (pc := 6) h uX6_takeFrom_inX6 0 0 rfl rfl (by decide) uX6_takeFrom_f11 rfl rfl dX6_takeFrom_6 ?_
  refine V_iconst (pc := 9) h (v := (0 : Int32)) dX6_takeFrom_9 (by decide) ?_
  refine V_aload_n (pc := 10) h 0 dX6_takeFrom_10 rfl ?_
  refine V_get (pc := 11) h uX6_takeFrom_inX6 0 0 rfl rfl (by decide) uX6_takeFrom_f11 rfl rfl dX6_takeFrom_11 ?_
  refine V_alenI (pc := 14) h (v := (56 : Int32)) 1 rfl (by decide) dX6_takeFrom_14 ?_
  refine V_copy (pc := 15) h 4 1 rfl rfl uX6_takeFrom_ac1 uX6_takeFrom_ac2 uX6_takeFrom_ac3 uX6_takeFrom_ac4 [(h0, .inr (6, [.ref h0_data, .ref h0_fresh, .int v0_size])), (h0_data, .inl (cI, 56, .inl (va_cpy v1_data v0_data (0 : Int32).toNatClampNeg (0 : Int32).toNatClampNeg (56 : Int32).toNatClampNeg))), (h0_fresh, .inl (cI, 7, .inl v0_fresh)), (h1, .inr (6, [.ref h1_data, .ref h1_fresh, .int v1_size])), (h1_data, .inl (cI, 56, .inl v1_data)), (h1_fresh, .inl (cI, 7, .inl v1_fresh))] rfl (Nat.le_of_ble_eq_true rfl) (Nat.le_of_ble_eq_true rfl) dX6_takeFrom_15 hF (fun hF => ?_)
  refine V_aload_n (pc := 18) h 0 dX6_takeFrom_18 rfl ?_
  refine V_aload_n (pc := 19) h 1 dX6_takeFrom_19 rfl ?_
  refine V_get (pc := 20) h uX6_takeFrom_inX6 3 2 rfl rfl (by decide) uX6_takeFrom_f24 rfl rfl dX6_takeFrom_20 ?_
  refine V_put (pc := 23) h uX6_takeFrom_inX6 tyX6 tyX6_ok nmX6 0 2 rfl rfl (by decide) uX6_takeFrom_f24 rfl rfl (by decide +kernel) (Nat.le_of_ble_eq_true rfl) [(h0, .inr (6, [.ref h0_data, .ref h0_fresh, .int v1_size])), (h0_data, .inl (cI, 56, .inl (va_cpy v1_data v0_data (0 : Int32).toNatClampNeg (0 : Int32).toNatClampNeg (56 : Int32).toNatClampNeg))), (h0_fresh, .inl (cI, 7, .inl v0_fresh)), (h1, .inr (6, [.ref h1_data, .ref h1_fresh, .int v1_size])), (h1_data, .inl (cI, 56, .inl v1_data)), (h1_fresh, .inl (cI, 7, .inl v1_fresh))] rfl dX6_takeFrom_23 ?_
  have hF := Option.some.inj hF
  subst hF
  exact V_vret (pc := 26) h dX6_takeFrom_26
set_option maxRecDepth 100000 in
theorem k_X6_takeFrom (l : Launch) (D : va_G) (cI cZ : ClassId) (h0 h0_data h0_fresh h1 h1_data h1_fresh : Nat) (v0_size : Int32) (v0_data : (Nat → Int32)) (v0_fresh : (Nat → Int32)) (v1_size : Int32) (v1_data : (Nat → Int32)) (v1_fresh : (Nat → Int32)) {o : Int32 × (Nat → Int32)} (hF : fX6_takeFrom v1_size v1_data v0_size v0_data = some o) : CV l yX6_takeFrom wsX6_takeFrom rmX6_takeFrom D cI cZ [.ref h0, .ref h1] [(h0, .inr (6, [.ref h0_data, .ref h0_fresh, .int v0_size])), (h0_data, .inl (cI, 56, .inl v0_data)), (h0_fresh, .inl (cI, 7, .inl v0_fresh)), (h1, .inr (6, [.ref h1_data, .ref h1_fresh, .int v1_size])), (h1_data, .inl (cI, 56, .inl v1_data)), (h1_fresh, .inl (cI, 7, .inl v1_fresh))] [(h0, .inr (6, [.ref h0_data, .ref h0_fresh, .int o.1])), (h0_data, .inl (cI, 56, .inl o.2)), (h0_fresh, .inl (cI, 7, .inl v0_fresh)), (h1, .inr (6, [.ref h1_data, .ref h1_fresh, .int v1_size])), (h1_data, .inl (cI, 56, .inl v1_data)), (h1_fresh, .inl (cI, 7, .inl v1_fresh))] :=
  CV_of (cc := cX6_takeFrom) (nL := 2) (ret := none) (by decide) rfl (Nat.le_of_ble_eq_true rfl) rfl (fun p e s m args below meth c A h => tfX6_takeFrom h hF)
/-! X6_branchOf -/
abbrev rmX6_branchOf : Room := { frames := 1, cells := 0, slots := 0, locals := 23 }
theorem uX6_branchOf_inX6 : ∀ w ∈ wsX60, w ∈ wsX6_branchOf := by decide +kernel
theorem uX6_branchOf_f24 : Cond.fieldLink RX6 24 "LeafAsks$Tree" "size" "I" ∈ wsX6_branchOf := by decide +kernel
theorem uX6_branchOf_nitX8 : Cond.initialized RX8 ∈ wsX6_branchOf := by decide +kernel
theorem uX6_branchOf_staX8_nameOf : Cond.static yX8_nameOf ∈ wsX6_branchOf := by decide +kernel
theorem uX6_branchOf_staX8_numberOf : Cond.static yX8_numberOf ∈ wsX6_branchOf := by decide +kernel
noncomputable def fX6_branchOf_b18 (v0_size : Int32) (v0_data : (Nat → Int32)) (x1 : Int32) (k18 : Int32 → Int32 → Option (Int32)) (x2 : Int32) (x3 : Int32) : Option (Int32) :=
  if v0_size ≤ x3 then some (-9 : Int32) else bd (fX6_field v0_data x3 (1 : Int32)) (fun r29 => if r29 = x2 then some x3 else bnd (x3 + (1 : Int32)) (fun x3_38 => k18 x2 x3_38))
set_option maxRecDepth 100000 in
set_option maxHeartbeats 4000000 in
theorem tfX6_branchOf_b18 {p : Program} {l : Launch} {e : Env} {s : State} {m : MethodId} {args : Array Value} {below : List Frame} {meth : Method} {c : Code} {A : Nat → Prop} {D : va_G} {cI cZ : ClassId} (h : Cx p s m args meth c A D cI cZ 4 cX6_branchOf RX6 wsX6_branchOf (some .int)) {h0 h0_data h0_fresh : Nat} {x1 : Int32} {v0_size : Int32} {v0_data : (Nat → Int32)} {v0_fresh : (Nat → Int32)} {k18 : Int32 → Int32 → Option (Int32)} {x2 : Int32} {x3 : Int32} {o : Int32} (hk18 : ∀ (x2 : Int32) (x3 : Int32), k18 x2 x3 = some o → V p l e rmX6_branchOf s m args below meth c A D 4 (QI D [(h0, .inr (6, [.ref h0_data, .ref h0_fresh, .int v0_size])), (h0_data, .inl (cI, 56, .inl v0_data)), (h0_fresh, .inl (cI, 7, .inl v0_fresh))] o A below args s) [(h0, .inr (6, [.ref h0_data, .ref h0_fresh, .int v0_size])), (h0_data, .inl (cI, 56, .inl v0_data)), (h0_fresh, .inl (cI, 7, .inl v0_fresh))] 18 [(0, .ref h0), (2, .int x2), (3, .int x3)] []) (hF : fX6_branchOf_b18 v0_size v0_data x1 k18 x2 x3 = some o) : V p l e rmX6_branchOf s m args below meth c A D 4 (QI D [(h0, .inr (6, [.ref h0_data, .ref h0_fresh, .int v0_size])), (h0_data, .inl (cI, 56, .inl v0_data)), (h0_fresh, .inl (cI, 7, .inl v0_fresh))] o A below args s) [(h0, .inr (6, [.ref h0_data, .ref h0_fresh, .int v0_size])), (h0_data, .inl (cI, 56, .inl v0_data)), (h0_fresh, .inl (cI, 7, .inl v0_fresh))] 18 [(0, .ref h0), (2, .int x2), (3, .int x3)] [] := by
  unfold fX6_branchOf_b18 at hF
  refine V_iload_n (pc := 18) h 2 dX6_branchOf_18 rfl ?_
  refine V_aload_n (pc := 19) h 0 dX6_branchOf_19 rfl ?_
  refine V_get (pc := 20) h uX6_branchOf_inX6 0 2 rfl rfl (by decide) uX6_branchOf_f24 rfl rfl dX6_branchOf_20 ?_
  refine V_icmp_ge (pc := 23) h (tgt := 44) dX6_branchOf_23 (by decide) hF (fun hF => ?_) (fun hF => ?_)
  · refine V_bipush (pc := 44) h (v := (-9 : Int32)) dX6_branchOf_44 (by decide) ?_
    have hF := Option.some.inj hF
    subst hF
    exact V_iret (pc := 46) h dX6_branchOf_46
  · refine V_aload_n (pc := 26) h 0 dX6_branchOf_26 rfl ?_
    refine V_iload_n (pc := 27) h 2 dX6_branchOf_27 rfl ?_
    refine V_iconst (pc := 28) h (v := (1 : Int32)) dX6_branchOf_28 (by decide) ?_
    refine V_ciVA (pc := 29) h (n := 2) (bytes := cX6_field) (maxL := 4) (As := [.int x3, .int (1 : Int32)]) (rest := []) gX6_branchOf_X6_field (by decide +kernel) rfl rfl rfl rfl ⟨rfl, rfl⟩ ⟨Nat.le_of_ble_eq_true rfl, Nat.le_of_ble_eq_true rfl⟩ rfl rfl (Nat.le_of_ble_eq_true rfl) dX6_branchOf_29 hF (fun r29 hG => k_X6_field l D cI cZ h0 h0_data h0_fresh v0_size v0_data v0_fresh x3 (1 : Int32) hG) (fun r29 hF => ?_)
    refine V_iload_n (pc := 32) h 1 dX6_branchOf_32 rfl ?_
    refine V_icmp_ne (pc := 33) h (tgt := 38) dX6_branchOf_33 (by decide) hF (fun hF => ?_) (fun hF => ?_)
    · refine V_iinc (pc := 38) h 2 (fun x3_38 => [(3, .int x3_38), (0, .ref h0), (2, .int x2)]) dX6_branchOf_38 rfl rfl (by decide) (fun _ => rfl) hF (fun x3_38 hF => ?_)
      refine V_goto (pc := 41) h (tgt := 18) dX6_branchOf_41 (by decide) ?_
      refine V_lv [1, 2, 0] [(0, .ref h0), (2, .int x2), (3, .int x3_38)] rfl ?_
      exact hk18 _ _ hF
    · refine V_iload_n (pc := 36) h 2 dX6_branchOf_36 rfl ?_
      have hF := Option.some.inj hF
      subst hF
      exact V_iret (pc := 37) h dX6_branchOf_37
noncomputable def fX6_branchOf_l18 (v0_size : Int32) (v0_data : (Nat → Int32)) (x1 : Int32) (n : Nat) : Int32 → Int32 → Option (Int32) :=
  Nat.rec (motive := fun _ => Int32 → Int32 → Option (Int32)) (fun _ _ => none) (fun _ ih => fX6_branchOf_b18 v0_size v0_data x1 ih) n
theorem fX6_branchOf_l18_s (v0_size : Int32) (v0_data : (Nat → Int32)) (x1 : Int32) (n : Nat) (x2 : Int32) (x3 : Int32) : fX6_branchOf_l18 v0_size v0_data x1 (n + 1) x2 x3 = fX6_branchOf_b18 v0_size v0_data x1 (fX6_branchOf_l18 v0_size v0_data x1 n) x2 x3 := rfl
set_option maxRecDepth 100000 in
set_option maxHeartbeats 4000000 in
theorem tfX6_branchOf_l18 {p : Program} {l : Launch} {e : Env} {s : State} {m : MethodId} {args : Array Value} {below : List Frame} {meth : Method} {c : Code} {A : Nat → Prop} {D : va_G} {cI cZ : ClassId} (h : Cx p s m args meth c A D cI cZ 4 cX6_branchOf RX6 wsX6_branchOf (some .int)) {h0 h0_data h0_fresh : Nat} {x1 : Int32} {v0_size : Int32} {v0_data : (Nat → Int32)} {v0_fresh : (Nat → Int32)} {o : Int32} (n : Nat) : ∀ (x2 : Int32) (x3 : Int32) (hF : fX6_branchOf_l18 v0_size v0_data x1 n x2 x3 = some o), V p l e rmX6_branchOf s m args below meth c A D 4 (QI D [(h0, .inr (6, [.ref h0_data, .ref h0_fresh, .int v0_size])), (h0_data, .inl (cI, 56, .inl v0_data)), (h0_fresh, .inl (cI, 7, .inl v0_fresh))] o A below args s) [(h0, .inr (6, [.ref h0_data, .ref h0_fresh, .int v0_size])), (h0_data, .inl (cI, 56, .inl v0_data)), (h0_fresh, .inl (cI, 7, .inl v0_fresh))] 18 [(0, .ref h0), (2, .int x2), (3, .int x3)] [] := by
  induction n with
  | zero => intro x2 x3 hF; exact nomatch (show (none : Option (Int32)) = some o from hF)
  | succ n ih => intro x2 x3 hF; exact tfX6_branchOf_b18 (x1 := x1) (k18 := fX6_branchOf_l18 v0_size v0_data x1 n) h ih hF
noncomputable def fX6_branchOf (v0_size : Int32) (v0_data : (Nat → Int32)) (x1 : Int32) : Option (Int32) :=
  bd (fX8_numberOf x1 (0 : Int32)) (fun r2 => bd (fX8_numberOf x1 (1 : Int32)) (fun r7 => bd (fX8_nameOf r2 r7 (-1 : Int32) (-1 : Int32)) (fun r12 => fX6_branchOf_l18 v0_size v0_data x1 1000 r12 (0 : Int32))))
set_option maxRecDepth 100000 in
set_option maxHeartbeats 4000000 in
theorem tfX6_branchOf {p : Program} {l : Launch} {e : Env} {s : State} {m : MethodId} {args : Array Value} {below : List Frame} {meth : Method} {c : Code} {A : Nat → Prop} {D : va_G} {cI cZ : ClassId} (h : Cx p s m args meth c A D cI cZ 4 cX6_branchOf RX6 wsX6_branchOf (some .int)) {h0 h0_data h0_fresh : Nat} {x1 : Int32} {v0_size : Int32} {v0_data : (Nat → Int32)} {v0_fresh : (Nat → Int32)} {o : Int32} (hF : fX6_branchOf v0_size v0_data x1 = some o) : V p l e rmX6_branchOf s m args below meth c A D 4 (QI D [(h0, .inr (6, [.ref h0_data, .ref h0_fresh, .int v0_size])), (h0_data, .inl (cI, 56, .inl v0_data)), (h0_fresh, .inl (cI, 7, .inl v0_fresh))] o A below args s) [(h0, .inr (6, [.ref h0_data, .ref h0_fresh, .int v0_size])), (h0_data, .inl (cI, 56, .inl v0_data)), (h0_fresh, .inl (cI, 7, .inl v0_fresh))] 0 [(0, .ref h0), (1, .int x1)] [] := by
  unfold fX6_branchOf at hF
  refine V_iload_n (pc := 0) h 1 dX6_branchOf_0 rfl ?_
  refine V_iconst (pc := 1) h (v := (0 : Int32)) dX6_branchOf_1 (by decide) ?_
  refine V_ciSN (pc := 2) h (n := 2) (bytes := cX8_numberOf) (maxL := 2) (As := [.int x1, .int (0 : Int32)]) (rest := []) ggX6_branchOf_X8_numberOf h.2.2.2.1.2.2.1 uX6_branchOf_nitX8 uX6_branchOf_staX8_numberOf (by decide +kernel) rfl ⟨rfl, rfl⟩ ⟨Nat.le_of_ble_eq_true rfl, Nat.le_of_ble_eq_true rfl⟩ [] rfl (by decide) rfl (fun r2 => [(h0, .inr (6, [.ref h0_data, .ref h0_fresh, .int v0_size])), (h0_data, .inl (cI, 56, .inl v0_data)), (h0_fresh, .inl (cI, 7, .inl v0_fresh))]) (fun _ => rfl) (fun _ => rfl) rfl (Nat.le_of_ble_eq_true rfl) dX6_branchOf_2 hF (fun r2 hG => k_X8_numberOf l D cI cZ x1 (0 : Int32) hG) (fun r2 hF => ?_)
  refine V_iload_n (pc := 5) h 1 dX6_branchOf_5 rfl ?_
  refine V_iconst (pc := 6) h (v := (1 : Int32)) dX6_branchOf_6 (by decide) ?_
  refine V_ciSN (pc := 7) h (n := 2) (bytes := cX8_numberOf) (maxL := 2) (As := [.int x1, .int (1 : Int32)]) (rest := [.int r2]) ggX6_branchOf_X8_numberOf h.2.2.2.1.2.2.1 uX6_branchOf_nitX8 uX6_branchOf_staX8_numberOf (by decide +kernel) rfl ⟨rfl, rfl⟩ ⟨Nat.le_of_ble_eq_true rfl, Nat.le_of_ble_eq_true rfl⟩ [] rfl (by decide) rfl (fun r7 => [(h0, .inr (6, [.ref h0_data, .ref h0_fresh, .int v0_size])), (h0_data, .inl (cI, 56, .inl v0_data)), (h0_fresh, .inl (cI, 7, .inl v0_fresh))]) (fun _ => rfl) (fun _ => rfl) rfl (Nat.le_of_ble_eq_true rfl) dX6_branchOf_7 hF (fun r7 hG => k_X8_numberOf l D cI cZ x1 (1 : Int32) hG) (fun r7 hF => ?_)
  refine V_iconst (pc := 10) h (v := (-1 : Int32)) dX6_branchOf_10 (by decide) ?_
  refine V_iconst (pc := 11) h (v := (-1 : Int32)) dX6_branchOf_11 (by decide) ?_
  refine V_ciSN (pc := 12) h (n := 4) (bytes := cX8_nameOf) (maxL := 4) (As := [.int r2, .int r7, .int (-1 : Int32), .int (-1 : Int32)]) (rest := []) ggX6_branchOf_X8_nameOf h.2.2.2.1.2.1 uX6_branchOf_nitX8 uX6_branchOf_staX8_nameOf (by decide +kernel) rfl ⟨rfl, rfl⟩ ⟨Nat.le_of_ble_eq_true rfl, Nat.le_of_ble_eq_true rfl⟩ [] rfl (by decide) rfl (fun r12 => [(h0, .inr (6, [.ref h0_data, .ref h0_fresh, .int v0_size])), (h0_data, .inl (cI, 56, .inl v0_data)), (h0_fresh, .inl (cI, 7, .inl v0_fresh))]) (fun _ => rfl) (fun _ => rfl) rfl (Nat.le_of_ble_eq_true rfl) dX6_branchOf_12 hF (fun r12 hG => k_X8_nameOf l D cI cZ r2 r7 (-1 : Int32) (-1 : Int32) hG) (fun r12 hF => ?_)
  refine V_istore_n (pc := 15) h [(2, .int r12), (0, .ref h0), (1, .int x1)] dX6_branchOf_15 (by decide) rfl ?_
  refine V_iconst (pc := 16) h (v := (0 : Int32)) dX6_branchOf_16 (by decide) ?_
  refine V_istore_n (pc := 17) h [(3, .int (0 : Int32)), (2, .int r12), (0, .ref h0), (1, .int x1)] dX6_branchOf_17 (by decide) rfl ?_
  refine V_lv [2, 1, 0] [(0, .ref h0), (2, .int r12), (3, .int (0 : Int32))] rfl ?_
  exact tfX6_branchOf_l18 h 1000 _ _ hF
set_option maxRecDepth 100000 in
theorem k_X6_branchOf (l : Launch) (D : va_G) (cI cZ : ClassId) (h0 h0_data h0_fresh : Nat) (v0_size : Int32) (v0_data : (Nat → Int32)) (v0_fresh : (Nat → Int32)) (x1 : Int32) {o : Int32} (hF : fX6_branchOf v0_size v0_data x1 = some o) : CI l yX6_branchOf wsX6_branchOf rmX6_branchOf D cI cZ [.ref h0, .int x1] [(h0, .inr (6, [.ref h0_data, .ref h0_fresh, .int v0_size])), (h0_data, .inl (cI, 56, .inl v0_data)), (h0_fresh, .inl (cI, 7, .inl v0_fresh))] [(h0, .inr (6, [.ref h0_data, .ref h0_fresh, .int v0_size])), (h0_data, .inl (cI, 56, .inl v0_data)), (h0_fresh, .inl (cI, 7, .inl v0_fresh))] o :=
  CI_of (cc := cX6_branchOf) (nL := 4) (ret := (some .int)) (by decide) rfl (Nat.le_of_ble_eq_true rfl) rfl (fun p e s m args below meth c A h => tfX6_branchOf h hF)
