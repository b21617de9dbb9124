/-! OWN KIT: the judgement with a count of new cells, for constructors and the law -/
def VG (p : Program) (l : Launch) (e : Env) (R : Room) (s : State) (m : MethodId) (args : Array Value) (below : List Frame) (meth : Method) (c : Code) (A : Nat → Prop) (D : va_G) (nL : Nat) (Q : State → Prop) (kc ks : Nat) (ws : va_W) (pc : Nat) (lv : List (Nat × Value)) (st : List Value) : Prop :=
  ∀ (H : Heap) (locs : List Loc) (ls : Array Slot), va_P D vwCl ws H → va_D A ws → va_S A s.heap H locs → lv_has ls nL lv → W p l e R s m args below meth c H locs kc ks Q (F0 m pc ls st)
theorem app_l {D : va_G} {cl : List vw_C} {w1 w2 : va_W} {H : Heap} (h : va_P D cl (w1 ++ w2) H) : va_P D cl w1 H := fun k q hk => h k q (by rw [List.getElem?_append_left (List.getElem?_eq_some_iff.mp hk).1]; exact hk)
theorem app_r {D : va_G} {cl : List vw_C} {w1 w2 : va_W} {H : Heap} (h : va_P D cl (w1 ++ w2) H) : va_P D cl w2 H := fun k q hk => h (w1.length + k) q (by rw [List.getElem?_append_right (by omega), Nat.add_sub_cancel_left]; exact hk)
theorem appD_l {A : Nat → Prop} {w1 w2 : va_W} (h : va_D A (w1 ++ w2)) : va_D A w1 := by
  have e : ∀ (k : Nat) (q : Nat × va_E), w1[k]? = some q → (w1 ++ w2)[k]? = some q := fun k q hk => by rw [List.getElem?_append_left (List.getElem?_eq_some_iff.mp hk).1]; exact hk
  exact ⟨fun i j p q hi hj hpq => h.1 i j p q (e i p hi) (e j q hj) hpq, fun k q hk => h.2 k q (e k q hk)⟩
theorem appD_r {A : Nat → Prop} {w1 w2 : va_W} (h : va_D A (w1 ++ w2)) : va_D A w2 := by
  have e : ∀ (k : Nat) (q : Nat × va_E), w2[k]? = some q → (w1 ++ w2)[w1.length + k]? = some q := fun k q hk => by rw [List.getElem?_append_right (by omega), Nat.add_sub_cancel_left]; exact hk
  exact ⟨fun i j p q hi hj hpq => by have := h.1 _ _ p q (e i p hi) (e j q hj) hpq; omega, fun k q hk => h.2 _ q (e k q hk)⟩
theorem appD_ne {A : Nat → Prop} {w1 w2 : va_W} (h : va_D A (w1 ++ w2)) {i j : Nat} {p q : Nat × va_E} (hi : w1[i]? = some p) (hj : w2[j]? = some q) : p.1 ≠ q.1 := by
  intro hpq
  have hl := (List.getElem?_eq_some_iff.mp hi).1
  have := h.1 i (w1.length + j) p q (by rw [List.getElem?_append_left hl]; exact hi) (by rw [List.getElem?_append_right (by omega), Nat.add_sub_cancel_left]; exact hj) hpq
  omega
theorem appF {A0 : Nat → Prop} {ws wc : va_W} {H0 H : Heap} {locs : List Loc} (hDc : va_D A0 wc) (hS : va_S A0 H0 H locs) (hA : ∀ q, H0.size ≤ q → A0 q) : ∀ q, va_A wc H.size q → A0 q := by
  intro q h
  rcases h with ⟨k, e, h⟩ | h
  · exact hDc.2 k (q, e) h
  · exact hA q (Nat.le_trans hS.1 h)
/-- behind a call whose world is the last part of the caller's -/
theorem app_join {A0 : Nat → Prop} {D : va_G} {cl : List vw_C} {w0 wc w1 : va_W} {H H1 : Heap} (hP : va_P D cl (w0 ++ wc) H) (hD : va_D A0 (w0 ++ wc)) (hk : ∀ q : Nat, q < H.size → ¬ va_A wc H.size q → H1[q]? = H[q]?) (hF : ∀ q, va_A wc H.size q → A0 q) (hP1 : va_P D cl w1 H1) (hD1 : va_D (va_A wc H.size) w1) : va_P D cl (w0 ++ w1) H1 ∧ va_D A0 (w0 ++ w1) := by
  have apart : ∀ (i : Nat) (q : Nat × va_E), w0[i]? = some q → q.1 < H.size ∧ ¬ va_A wc H.size q.1 := by
    intro i q hi
    have hl := (app_l hP i q hi).lt
    refine ⟨hl, fun h => ?_⟩
    rcases h with ⟨k, e, h⟩ | h
    · exact appD_ne hD hi h rfl
    · omega
  refine ⟨va_P.app (fun i q hi => (app_l hP i q hi).kept (hk q.1 (apart i q hi).1 (apart i q hi).2)) hP1, va_D.app (appD_l hD) (hD1.weaken (fun k q _ h => hF q.1 h)) (fun i j x y hx hy hxy => (apart i x hx).2 (by rw [hxy]; exact hD1.2 j y hy))⟩
/-- behind a call whose world is the first part of the caller's -/
theorem app_join2 {A0 : Nat → Prop} {D : va_G} {cl : List vw_C} {w0 wc w1 : va_W} {H H1 : Heap} (hP : va_P D cl (wc ++ w0) H) (hD : va_D A0 (wc ++ w0)) (hk : ∀ q : Nat, q < H.size → ¬ va_A wc H.size q → H1[q]? = H[q]?) (hF : ∀ q, va_A wc H.size q → A0 q) (hP1 : va_P D cl w1 H1) (hD1 : va_D (va_A wc H.size) w1) : va_P D cl (w1 ++ w0) H1 ∧ va_D A0 (w1 ++ w0) := by
  have apart : ∀ (i : Nat) (q : Nat × va_E), w0[i]? = some q → q.1 < H.size ∧ ¬ va_A wc H.size q.1 := by
    intro i q hi
    have hl := (app_r hP i q hi).lt
    refine ⟨hl, fun h => ?_⟩
    rcases h with ⟨k, e, h⟩ | h
    · exact appD_ne hD h hi rfl
    · omega
  refine ⟨va_P.app hP1 (fun i q hi => (app_r hP i q hi).kept (hk q.1 (apart i q hi).1 (apart i q hi).2)), va_D.app (hD1.weaken (fun k q _ h => hF q.1 h)) (appD_r hD) (fun i j x y hx hy hxy => (apart j y hy).2 (by rw [← hxy]; exact hD1.2 i x hx))⟩
/-- a constructor's contract: the new cells' addresses are told by a function -/
def CN (l : Launch) (y : MethodName) (wy : List Cond) (rm : Room) (D : va_G) (cI cZ : ClassId) (av : List Value) (wc : va_W) (w1 : (Nat → Nat) → va_W) (mc ms : Nat) : Prop := ∀ sz : Nat, Met l y wy rm (va_Pc av (PB D cI cZ sz wc)) (va_Qv (fun (_ : Nat → Nat) => True) (fun u t => PO D (w1 u) (va_A wc sz) () t) (va_A wc sz)) mc ms (va_A wc sz)
abbrev QN (D : va_G) (w1 : (Nat → Nat) → va_W) (mc ms : Nat) (A : Nat → Prop) (below : List Frame) (args : Array Value) (s : State) : State → Prop := MQ below (va_Qv (fun (_ : Nat → Nat) => True) (fun u t => PO D (w1 u) A () t) A) args s mc ms A
section VGR
variable {p : Program} {l : Launch} {e : Env} {R : Room} {s : State} {m : MethodId} {args : Array Value} {below : List Frame} {meth : Method} {c : Code} {A : Nat → Prop} {D : va_G} {cI cZ : ClassId} {nL : Nat} {cc : ByteArray} {own : String} {Ts : List Cond} {rt : Option FieldType} {Q : State → Prop} {ws : va_W} {pc : Nat} {lv : List (Nat × Value)} {st : List Value} {kc ks : Nat}

theorem G_iconst (h : Cx p s m args meth c A D cI cZ nL cc own Ts rt) {n : Int} {v : Int32} (hd : decode cc pc = .ok (.iconst n, 1)) (hv : Int32.ofInt n = v) (kk : VG p l e R s m args below meth c A D nL Q (kc) (ks) (ws) (pc + 1) (lv) (.int v :: st)) : VG p l e R s m args below meth c A D nL Q (kc) (ks) (ws) (pc) (lv) (st) :=
  fun H locs ls hP hD hS hl => lv_iconst h.1.1 h.1.2.1 hd hv (kk H locs ls hP hD hS hl)
theorem G_bipush (h : Cx p s m args meth c A D cI cZ nL cc own Ts rt) {n : Int} {v : Int32} (hd : decode cc pc = .ok (.bipush n, 2)) (hv : (Int8.ofInt n).toInt32 = v) (kk : VG p l e R s m args below meth c A D nL Q (kc) (ks) (ws) (pc + 2) (lv) (.int v :: st)) : VG p l e R s m args below meth c A D nL Q (kc) (ks) (ws) (pc) (lv) (st) :=
  fun H locs ls hP hD hS hl => lv_bipush h.1.1 h.1.2.1 hd hv (kk H locs ls hP hD hS hl)
theorem G_sipush (h : Cx p s m args meth c A D cI cZ nL cc own Ts rt) {n : Int} {v : Int32} (hd : decode cc pc = .ok (.sipush n, 3)) (hv : (Int16.ofInt n).toInt32 = v) (kk : VG p l e R s m args below meth c A D nL Q (kc) (ks) (ws) (pc + 3) (lv) (.int v :: st)) : VG p l e R s m args below meth c A D nL Q (kc) (ks) (ws) (pc) (lv) (st) :=
  fun H locs ls hP hD hS hl => lv_sipush h.1.1 h.1.2.1 hd hv (kk H locs ls hP hD hS hl)
theorem G_iload_n (h : Cx p s m args meth c A D cI cZ nL cc own Ts rt) {k : Fin 4} {x : Int32} (j : Nat) (hd : decode cc pc = .ok (.iload_n k, 1)) (hj : lv[j]? = some ((k : Nat), .int x)) (kk : VG p l e R s m args below meth c A D nL Q (kc) (ks) (ws) (pc + 1) (lv) (.int x :: st)) : VG p l e R s m args below meth c A D nL Q (kc) (ks) (ws) (pc) (lv) (st) :=
  fun H locs ls hP hD hS hl => lv_iload_n h.1.1 h.1.2.1 hd rfl (lv_at hl j hj) (kk H locs ls hP hD hS hl)
theorem G_aload_n (h : Cx p s m args meth c A D cI cZ nL cc own Ts rt) {k : Fin 4} {x : Nat} (j : Nat) (hd : decode cc pc = .ok (.aload_n k, 1)) (hj : lv[j]? = some ((k : Nat), .ref x)) (kk : VG p l e R s m args below meth c A D nL Q (kc) (ks) (ws) (pc + 1) (lv) (.ref x :: st)) : VG p l e R s m args below meth c A D nL Q (kc) (ks) (ws) (pc) (lv) (st) :=
  fun H locs ls hP hD hS hl => lv_aload_n h.1.1 h.1.2.1 hd rfl (lv_at hl j hj) (kk H locs ls hP hD hS hl)
theorem G_istore_n (h : Cx p s m args meth c A D cI cZ nL cc own Ts rt) {k : Fin 4} {x : Int32} (lv' : List (Nat × Value)) (hd : decode cc pc = .ok (.istore_n k, 1)) (hn : (k : Nat) < nL) (hl' : ((k : Nat), Value.int x) :: lv.filter (fun q => !(q.1 == (k : Nat)) && !(q.1 + 1 == (k : Nat) && q.2.category == 2)) = lv') (kk : VG p l e R s m args below meth c A D nL Q (kc) (ks) (ws) (pc + 1) (lv') (st)) : VG p l e R s m args below meth c A D nL Q (kc) (ks) (ws) (pc) (lv) (.int x :: st) :=
  fun H locs ls hP hD hS hl => lv_istore_n h.1.1 h.1.2.1 hd rfl hl hn hl' (fun ls hl => (kk H locs ls hP hD hS hl))
theorem G_astore_n (h : Cx p s m args meth c A D cI cZ nL cc own Ts rt) {k : Fin 4} {x : Nat} (lv' : List (Nat × Value)) (hd : decode cc pc = .ok (.astore_n k, 1)) (hn : (k : Nat) < nL) (hl' : ((k : Nat), Value.ref x) :: lv.filter (fun q => !(q.1 == (k : Nat)) && !(q.1 + 1 == (k : Nat) && q.2.category == 2)) = lv') (kk : VG p l e R s m args below meth c A D nL Q (kc) (ks) (ws) (pc + 1) (lv') (st)) : VG p l e R s m args below meth c A D nL Q (kc) (ks) (ws) (pc) (lv) (.ref x :: st) :=
  fun H locs ls hP hD hS hl => lv_astore_n h.1.1 h.1.2.1 hd rfl hl hn hl' (fun ls hl => (kk H locs ls hP hD hS hl))
theorem G_iinc (h : Cx p s m args meth c A D cI cZ nL cc own Ts rt) {k : Nat} {n : Int} {x w : Int32} (j : Nat) (lv' : List (Nat × Value)) (hd : decode cc pc = .ok (.iinc k n, 3)) (hj : lv[j]? = some (k, .int x)) (hw : x + Int32.ofInt n = w) (hn : k < nL) (hl' : (k, Value.int w) :: lv.filter (fun q => !(q.1 == k) && !(q.1 + 1 == k && q.2.category == 2)) = lv') (kk : VG p l e R s m args below meth c A D nL Q (kc) (ks) (ws) (pc + 3) (lv') (st)) : VG p l e R s m args below meth c A D nL Q (kc) (ks) (ws) (pc) (lv) (st) :=
  fun H locs ls hP hD hS hl => lv_iinc h.1.1 h.1.2.1 hd hl hj hw hn hl' (fun ls hl => (kk H locs ls hP hD hS hl))
theorem G_iadd (h : Cx p s m args meth c A D cI cZ nL cc own Ts rt) {x y : Int32} (hd : decode cc pc = .ok (.iadd, 1)) (kk : VG p l e R s m args below meth c A D nL Q (kc) (ks) (ws) (pc + 1) (lv) (.int (x + y) :: st)) : VG p l e R s m args below meth c A D nL Q (kc) (ks) (ws) (pc) (lv) (.int y :: .int x :: st) :=
  fun H locs ls hP hD hS hl => lv_iadd h.1.1 h.1.2.1 hd (kk H locs ls hP hD hS hl)
theorem G_isub (h : Cx p s m args meth c A D cI cZ nL cc own Ts rt) {x y : Int32} (hd : decode cc pc = .ok (.isub, 1)) (kk : VG p l e R s m args below meth c A D nL Q (kc) (ks) (ws) (pc + 1) (lv) (.int (x - y) :: st)) : VG p l e R s m args below meth c A D nL Q (kc) (ks) (ws) (pc) (lv) (.int y :: .int x :: st) :=
  fun H locs ls hP hD hS hl => lv_isub h.1.1 h.1.2.1 hd (kk H locs ls hP hD hS hl)
theorem G_imul (h : Cx p s m args meth c A D cI cZ nL cc own Ts rt) {x y : Int32} (hd : decode cc pc = .ok (.imul, 1)) (kk : VG p l e R s m args below meth c A D nL Q (kc) (ks) (ws) (pc + 1) (lv) (.int (x * y) :: st)) : VG p l e R s m args below meth c A D nL Q (kc) (ks) (ws) (pc) (lv) (.int y :: .int x :: st) :=
  fun H locs ls hP hD hS hl => lv_imul h.1.1 h.1.2.1 hd (kk H locs ls hP hD hS hl)
theorem G_iand (h : Cx p s m args meth c A D cI cZ nL cc own Ts rt) {x y : Int32} (hd : decode cc pc = .ok (.iand, 1)) (kk : VG p l e R s m args below meth c A D nL Q (kc) (ks) (ws) (pc + 1) (lv) (.int (x &&& y) :: st)) : VG p l e R s m args below meth c A D nL Q (kc) (ks) (ws) (pc) (lv) (.int y :: .int x :: st) :=
  fun H locs ls hP hD hS hl => lv_iand h.1.1 h.1.2.1 hd (kk H locs ls hP hD hS hl)
theorem G_top {x y : Int32} (hxy : x = y) (kk : VG p l e R s m args below meth c A D nL Q (kc) (ks) (ws) (pc) (lv) (.int y :: st)) : VG p l e R s m args below meth c A D nL Q (kc) (ks) (ws) (pc) (lv) (.int x :: st) := by rw [hxy]; exact kk
theorem G_dup (h : Cx p s m args meth c A D cI cZ nL cc own Ts rt) {va : Value} (hd : decode cc pc = .ok (.dup, 1)) (hva : va.category = 1) (kk : VG p l e R s m args below meth c A D nL Q (kc) (ks) (ws) (pc + 1) (lv) (va :: va :: st)) : VG p l e R s m args below meth c A D nL Q (kc) (ks) (ws) (pc) (lv) (va :: st) :=
  fun H locs ls hP hD hS hl => lv_dup h.1.1 h.1.2.1 hd hva (kk H locs ls hP hD hS hl)
theorem G_goto (h : Cx p s m args meth c A D cI cZ nL cc own Ts rt) {off : Int} {tgt : Nat} (hd : decode cc pc = .ok (.goto off, 3)) (ht : (pc : Int) + off = (tgt : Int)) (kk : VG p l e R s m args below meth c A D nL Q (kc) (ks) (ws) (tgt) (lv) (st)) : VG p l e R s m args below meth c A D nL Q (kc) (ks) (ws) (pc) (lv) (st) :=
  fun H locs ls hP hD hS hl => lv_goto h.1.1 h.1.2.1 hd ht (kk H locs ls hP hD hS hl)
theorem G_icmp_eq (h : Cx p s m args meth c A D cI cZ nL cc own Ts rt) {x y : Int32} {off : Int} {tgt : Nat} (hd : decode cc pc = .ok (.if_icmp .eq off, 3)) (ht : (pc : Int) + off = (tgt : Int)) (hxy : x = y) (kk : VG p l e R s m args below meth c A D nL Q (kc) (ks) (ws) (tgt) (lv) (st)) : VG p l e R s m args below meth c A D nL Q (kc) (ks) (ws) (pc) (lv) (.int y :: .int x :: st) :=
  fun H locs ls hP hD hS hl => lv_icmp_eq h.1.1 h.1.2.1 hd ht (fun _ => (kk H locs ls hP hD hS hl)) (fun hc => absurd hxy hc)
theorem G_icmp_gt (h : Cx p s m args meth c A D cI cZ nL cc own Ts rt) {x y : Int32} {off : Int} {tgt : Nat} (hd : decode cc pc = .ok (.if_icmp .gt off, 3)) (ht : (pc : Int) + off = (tgt : Int)) (kt : y < x → VG p l e R s m args below meth c A D nL Q (kc) (ks) (ws) (tgt) (lv) (st)) (kf : ¬ y < x → VG p l e R s m args below meth c A D nL Q (kc) (ks) (ws) (pc + 3) (lv) (st)) : VG p l e R s m args below meth c A D nL Q (kc) (ks) (ws) (pc) (lv) (.int y :: .int x :: st) :=
  fun H locs ls hP hD hS hl => lv_icmp_gt h.1.1 h.1.2.1 hd ht (fun hc => kt hc H locs ls hP hD hS hl) (fun hc => kf hc H locs ls hP hD hS hl)
theorem G_tableIn (h : Cx p s m args meth c A D cI cZ nL cc own Ts rt) {dflt lo hi : Int} {offs : Array Int} {len : Nat} {x : Int32} {off : Int} {tgt : Nat} (hd : decode cc pc = .ok (.tableswitch dflt lo hi offs, len)) (h1 : ¬ x.toInt < lo) (h2 : ¬ hi < x.toInt) (ho : offs[(x.toInt - lo).toNat]? = some off) (ht : (pc : Int) + off = (tgt : Int)) (kk : VG p l e R s m args below meth c A D nL Q (kc) (ks) (ws) (tgt) (lv) (st)) : VG p l e R s m args below meth c A D nL Q (kc) (ks) (ws) (pc) (lv) (.int x :: st) :=
  fun H locs ls hP hD hS hl => lv_tableIn h.1.1 h.1.2.1 hd h1 h2 ho ht (kk H locs ls hP hD hS hl)
theorem G_tableOut (h : Cx p s m args meth c A D cI cZ nL cc own Ts rt) {dflt lo hi : Int} {offs : Array Int} {len : Nat} {x : Int32} {tgt : Nat} (hd : decode cc pc = .ok (.tableswitch dflt lo hi offs, len)) (h1 : x.toInt < lo ∨ hi < x.toInt) (ht : (pc : Int) + dflt = (tgt : Int)) (kk : VG p l e R s m args below meth c A D nL Q (kc) (ks) (ws) (tgt) (lv) (st)) : VG p l e R s m args below meth c A D nL Q (kc) (ks) (ws) (pc) (lv) (.int x :: st) :=
  fun H locs ls hP hD hS hl => lv_tableOut h.1.1 h.1.2.1 hd h1 ht (kk H locs ls hP hD hS hl)
theorem G_get (h : Cx p s m args meth c A D cI cZ nL cc own Ts rt) {C ref : String} {T : u_T} {N ci idx a : Nat} {fs : List Value} {v : Value} (hin : ∀ w ∈ u_ws C T N, w ∈ Ts) (q0 k : Nat) (he : ws[q0]? = some (a, .inr (ci, fs))) (hc : vwCl[ci]? = some (C, T, N)) (hk : k < N) (hl' : Cond.fieldLink own idx ref (T k).2.1 (T k).2.2.1 ∈ Ts) (hr : (T k).1 = ref) (hv : fs[k]? = some v) (hd : decode cc pc = .ok (.getfield idx, 3)) (kk : VG p l e R s m args below meth c A D nL Q (kc) (ks) (ws) (pc + 3) (lv) (v :: st)) : VG p l e R s m args below meth c A D nL Q (kc) (ks) (ws) (pc) (lv) (.ref a :: st) :=
  fun H locs ls hP hD hS hl => va_get h.1.1 h.1.2.1 h.1.2.2.2.2 hin h.1.2.2.2.1 h.2.2.2.1.1 hP q0 he hc k hk (h.1.2.2.2.2 _ hl') (fun _ h9 => by rw [← hr]; exact h9) hv hd (kk H locs ls hP hD hS hl)
theorem G_putF (h : Cx p s m args meth c A D cI cZ nL cc own Ts rt) {C ref : String} {T : u_T} {N ci idx a b : Nat} {fs : List Value} {ty : FieldType} (hin : ∀ w ∈ u_ws C T N, w ∈ Ts) (ty0 : Nat → FieldType) (hty : ∀ k, k < N → parseFieldDescriptor (T k).2.2.1 = some (ty0 k)) (hnm : ∀ a, a < N → ∀ b, b < N → a ≠ b → (T a).2.1 ≠ (T b).2.1) (q0 k : Nat) (he : ws[q0]? = some (a, .inr (ci, fs))) (hc : vwCl[ci]? = some (C, T, N)) (hk : k < N) (hl' : Cond.fieldLink own idx ref (T k).2.1 (T k).2.2.1 ∈ Ts) (hr : (T k).1 = ref) (hin2 : meth.name = "<init>") (hdecl : (T k).1 = own) (hfin : (T k).2.2.2 = true) (hd0 : parseFieldDescriptor (T k).2.2.1 = some ty) (hn : narrow ty (.ref b) = .ref b) (hfit : fits ty (.ref b) = true) (hlen : k < fs.length) (ws' : va_W) (hs : ws.set q0 (a, .inr (ci, fs.set k (.ref b))) = ws') (hd : decode cc pc = .ok (.putfield idx, 3)) (kk : VG p l e R s m args below meth c A D nL Q (kc) (ks) (ws') (pc + 3) (lv) (st)) : VG p l e R s m args below meth c A D nL Q (kc) (ks) (ws) (pc) (lv) (.ref b :: .ref a :: st) :=
  fun H locs ls hP hD hS hl => va_putF (ty := ty) h.1.1 h.1.2.1 h.1.2.2.2.2 hin ty0 hty hnm h.1.2.2.2.1 h.2.2.2.1.1 hP hD hS q0 he hc k hk (h.1.2.2.2.2 _ hl') (fun _ h9 => by rw [← hr]; exact h9) hfin hin2 hdecl hd0 hn hfit hlen hd (fun H locs hP hD hS => by rw [hs] at hP hD; exact (kk H locs ls hP hD hS hl))
theorem G_newa_int (h : Cx p s m args meth c A D cI cZ nL cc own Ts rt) {n : Int32} (N : Nat) (harr : Cond.arrayClass .int ∈ Ts) (hn : ¬ n < 0) (hN : n.toNatClampNeg = N) (hbytes : N * componentBytes .int ≤ 536870912) (hcells : kc + 1 ≤ R.cells) (hslots : ks + N ≤ R.slots) (hd : decode cc pc = .ok (.newarray .int, 2)) (kk : ∀ q : Nat, VG p l e R s m args below meth c A D nL Q (kc + 1) (ks + N) (ws ++ [(q, .inl (cI, N, .inl (fun _ => 0)))]) (pc + 2) (lv) (.ref q :: st)) : VG p l e R s m args below meth c A D nL Q (kc) (ks) (ws) (pc) (lv) (.int n :: st) := by
  intro H locs ls hP hD hS hl
  refine va_newa (atype := .int) (ty := .int) (a0 := (N, .inl (fun _ => 0))) h.1.1 h.1.2.1 (h.1.2.2.2.2 _ harr) rfl h.2.2.2.1.1 hP hD hS h.2.2.2.2 (fun _ => rfl) hn hN hbytes hcells hslots hd (fun q cA H1 hK1 hP1 hD1 hS1 => ?_)
  have e1 : s.vm.findClass ("[" ++ FieldType.int.toString) = some cA := (hK1.2 2 (cA, .int) rfl).2
  have e2 : s.vm.findClass ("[" ++ FieldType.int.toString) = some cI := (h.2.2.2.1.1.2 0 (cI, .int) rfl).2
  have e3 : cA = cI := Option.some.inj (e1.symm.trans e2)
  subst e3
  exact kk q H1 locs ls hP1 hD1 hS1 hl
theorem G_newa_boolean (h : Cx p s m args meth c A D cI cZ nL cc own Ts rt) {n : Int32} (N : Nat) (harr : Cond.arrayClass .boolean ∈ Ts) (hn : ¬ n < 0) (hN : n.toNatClampNeg = N) (hbytes : N * componentBytes .boolean ≤ 536870912) (hcells : kc + 1 ≤ R.cells) (hslots : ks + N ≤ R.slots) (hd : decode cc pc = .ok (.newarray .boolean, 2)) (kk : ∀ q : Nat, VG p l e R s m args below meth c A D nL Q (kc + 1) (ks + N) (ws ++ [(q, .inl (cZ, N, .inl (fun _ => 0)))]) (pc + 2) (lv) (.ref q :: st)) : VG p l e R s m args below meth c A D nL Q (kc) (ks) (ws) (pc) (lv) (.int n :: st) := by
  intro H locs ls hP hD hS hl
  refine va_newa (atype := .boolean) (ty := .boolean) (a0 := (N, .inl (fun _ => 0))) h.1.1 h.1.2.1 (h.1.2.2.2.2 _ harr) rfl h.2.2.2.1.1 hP hD hS h.2.2.2.2 (fun _ => rfl) hn hN hbytes hcells hslots hd (fun q cA H1 hK1 hP1 hD1 hS1 => ?_)
  have e1 : s.vm.findClass ("[" ++ FieldType.boolean.toString) = some cA := (hK1.2 2 (cA, .boolean) rfl).2
  have e2 : s.vm.findClass ("[" ++ FieldType.boolean.toString) = some cZ := (h.2.2.2.1.1.2 1 (cZ, .boolean) rfl).2
  have e3 : cA = cZ := Option.some.inj (e1.symm.trans e2)
  subst e3
  exact kk q H1 locs ls hP1 hD1 hS1 hl
theorem G_new (h : Cx p s m args meth c A D cI cZ nL cc own Ts rt) {C : String} {T : u_T} {N ci idx : Nat} {fs : List Value} (hin : ∀ w ∈ u_ws C T N, w ∈ Ts) (ty : Nat → FieldType) (hty : ∀ k, k < N → parseFieldDescriptor (T k).2.2.1 = some (ty k)) (w1 : Cond.classLink own idx C ∈ Ts) (w2 : Cond.instantiable C N ∈ Ts) (w3 : Cond.initialized C ∈ Ts) (hc : vwCl[ci]? = some (C, T, N)) (hfs : ∀ j, j < N → defaultValue (ty j) = vp_V fs j) (hcells : kc + 1 ≤ R.cells) (hslots : ks + N ≤ R.slots) (hd : decode cc pc = .ok (.new idx, 3)) (kk : ∀ q : Nat, VG p l e R s m args below meth c A D nL Q (kc + 1) (ks + N) (ws ++ [(q, .inr (ci, fs))]) (pc + 3) (lv) (.ref q :: st)) : VG p l e R s m args below meth c A D nL Q (kc) (ks) (ws) (pc) (lv) (st) :=
  fun H locs ls hP hD hS hl => va_new h.1.1 h.1.2.1 h.1.2.2.2.2 hin ty hty h.1.2.2.2.1 (h.1.2.2.2.2 _ w1) (h.1.2.2.2.2 _ w2) (h.1.2.2.2.2 _ w3) h.2.2.2.1.1 hP hD hS h.2.2.2.2 hc hfs hcells hslots hd (fun q H1 hP1 hD1 hS1 => kk q H1 locs ls hP1 hD1 hS1 hl)
theorem G_obj (h : Cx p s m args meth c A D cI cZ nL cc own Ts rt) {idx a : Nat} (w1 : Cond.methodLink own idx objectInit ∈ Ts) (w2 : Cond.instanceMethod objectInit ∈ Ts) (w3 : Cond.code objectInit ⟨#[0xb1]⟩ 1 none ∈ Ts) (hd : decode cc pc = .ok (.invokespecial idx, 3)) (hfr : 1 ≤ R.frames) (hlo : (st.map fun v => v.category).sum + 12 ≤ R.locals) (kk : VG p l e R s m args below meth c A D nL Q (kc) (ks) (ws) (pc + 3) (lv) (st)) : VG p l e R s m args below meth c A D nL Q (kc) (ks) (ws) (pc) (lv) (.ref a :: st) :=
  fun H locs ls hP hD hS hl => W.objInit h.1.1 h.1.2.1 h.1.2.2.2.1 (h.1.2.2.2.2 _ w1) (h.1.2.2.2.2 _ w2) (h.1.2.2.2.2 _ w3) rfl (hl.1.trans h.1.2.2.1.symm) rfl hd hfr (by show 2 * 0 + _ + 12 ≤ _; omega) (kk H locs ls hP hD hS hl)
theorem G_mmax (h : Cx p s m args meth c A D cI cZ nL cc own Ts rt) {x y : Int32} {idx : Nat} (w1 : Cond.methodLink own idx Lib.Math.max.name ∈ Ts) (w2 : Cond.static Lib.Math.max.name ∈ Ts) (w3 : Cond.initialized "java/lang/Math" ∈ Ts) (w4 : Cond.code Lib.Math.max.name Lib.Math.max.code 2 (some .int) ∈ Ts) (hfr : 1 ≤ R.frames) (hlo : (st.map fun v => v.category).sum + 13 ≤ R.locals) (hc : kc ≤ R.cells) (hs : ks ≤ R.slots) (hd : decode cc pc = .ok (.invokestatic idx, 3)) (kk : VG p l e R s m args below meth c A D nL Q (kc) (ks) (ws) (pc + 3) (lv) (.int (jmax x y) :: st)) : VG p l e R s m args below meth c A D nL Q (kc) (ks) (ws) (pc) (lv) (.int y :: .int x :: st) :=
  fun H locs ls hP hD hS hl => va_mmax h.1.1 h.1.2.1 (h.1.2.2.1.trans hl.1.symm) h.1.2.2.2.1 (h.1.2.2.2.2 _ w1) (h.1.2.2.2.2 _ w2) (h.1.2.2.2.2 _ w3) (h.1.2.2.2.2 _ w4) hfr hlo hc hs hd (kk H locs ls hP hD hS hl)
theorem G_wid (h : Cx p s m args meth c A D cI cZ nL cc own Ts rt) (kc' ks' : Nat) (h1 : kc ≤ kc') (h2 : ks ≤ ks') (kk : VG p l e R s m args below meth c A D nL Q (kc') (ks') (ws) (pc) (lv) (st)) : VG p l e R s m args below meth c A D nL Q (kc) (ks) (ws) (pc) (lv) (st) :=
  fun H locs ls hP hD hS hl => W.widen h1 h2 (kk H locs ls hP hD hS hl)
theorem G_w {ws' : va_W} (hw : ws = ws') (kk : VG p l e R s m args below meth c A D nL Q (kc) (ks) (ws') (pc) (lv) (st)) : VG p l e R s m args below meth c A D nL Q (kc) (ks) (ws) (pc) (lv) (st) := by rw [hw]; exact kk
theorem G_sub (is : List Nat) (ws' : va_W) (hC : is.map (fun i => ws[i]?) = ws'.map some) (hnd : va_nd is = true) (kk : VG p l e R s m args below meth c A D nL Q (kc) (ks) (ws') (pc) (lv) (st)) : VG p l e R s m args below meth c A D nL Q (kc) (ks) (ws) (pc) (lv) (st) := by
  intro H locs ls hP hD hS hl
  refine kk H locs ls (hP.sub is ?_) (hD.sub is hnd hC) hS hl
  have e1 : is.filterMap (fun i => ws[i]?) = (is.map (fun i => ws[i]?)).filterMap id := by rw [List.filterMap_map]; rfl
  rw [e1, hC, List.filterMap_map]
  simp
theorem G_vret (h : Cx p s m args meth c A D cI cZ nL cc own Ts none) {w1 : (Nat → Nat) → va_W} (u : Nat → Nat) (hu : w1 u = ws) (hd : decode cc pc = .ok (.return_, 1)) : VG p l e R s m args below meth c A D nL (QN D w1 kc ks A below args s) kc ks ws pc lv [] :=
  fun H locs ls hP hD hS hl => W.vret h.1.1 h.1.2.1 h.2.1 (fun t ht _ => ⟨⟨u, rfl, trivial, by rw [ht, hu]; exact hP, by rw [hu]; exact hD⟩, hS.F ht⟩) hS.2.2 hd h.2.2.1
theorem G_initI (h : Cx p s m args meth c A D cI cZ nL cc own Ts rt) {y : MethodName} {wy wy' : List Cond} {rm : Room} {bytes : ByteArray} {maxL n idx mc ms : Nat} {As rest : List Value} {b : Nat} {w0 wc : va_W} {w1 : (Nat → Nat) → va_W} (hml : Cond.methodLink own idx y ∈ Ts) (hg : GoodIn Ts wy) (hini : Cond.initialized y.cls ∈ Ts) (hinst : Cond.instanceMethod y ∈ Ts) (hy1 : y.name = "<init>") (hdd : y.cls ≠ "java/lang/invoke/MethodHandle" ∧ y.cls ≠ "java/lang/invoke/VarHandle" ∧ (parseMethodDescriptor y.desc).map (fun d => d.parameters.length) = some n) (hw : wy = Cond.code y bytes maxL none :: wy') (hrm : rm.cells = mc ∧ rm.slots = ms) (hR : rm.frames + 1 ≤ R.frames ∧ 8 + (maxL + 11) + rm.locals ≤ R.locals) (hcells : kc + mc ≤ R.cells) (hslots : ks + ms ≤ R.slots) (hn : As.length = n) (hws : ws = w0 ++ wc) (hst : st = As.reverse ++ .ref b :: rest) (hrest : (rest.map fun v => v.category).sum ≤ 8) (hd : decode cc pc = .ok (.invokespecial idx, 3)) (hM : CN l y wy rm D cI cZ (.ref b :: As) wc w1 mc ms) (kk : ∀ u : Nat → Nat, VG p l e R s m args below meth c A D nL Q (kc + mc) (ks + ms) (w0 ++ w1 u) (pc + 3) (lv) (rest)) : VG p l e R s m args below meth c A D nL Q (kc) (ks) (ws) (pc) (lv) (st) := by
  subst hws
  intro H locs ls hP hD hS hl
  have hPc := app_r hP
  have hDc := appD_r hD
  have hFc := appF (ws := w0 ++ wc) hDc hS h.2.2.2.2
  refine va_callv (va_runI (As := As) (rest := rest) h.1 (hM H.size) (cwI n h.1.2.2.2.2 hg hw hrm.1 hrm.2 (h.1.2.2.2.2 _ hini) (h.1.2.2.2.2 _ hml) (h.1.2.2.2.2 _ hinst) hy1 hdd hR) ⟨PB.blind, fun U hU hW => ⟨rfl, by rw [hU], by rw [hU]; exact hPc, h.2.2.2.1.warm hW, hDc.weaken (fun _ _ _ _ => trivial)⟩⟩ rfl hn hl.1 hst (lv_room hrest) hd ⟨hcells, hslots⟩) hS (fun q _ h => hFc q h) hFc (fun u t H1 locs1 ht hvm hw9 hB hz1 hk1 hS1 => ?_)
  obtain ⟨hP1, hD1⟩ := hB
  rw [ht] at hP1
  obtain ⟨hP2, hD2⟩ := app_join hP hD hk1 hFc hP1 hD1
  exact kk u H1 locs1 ls hP2 hD2 hS1 hl
theorem G_initIN (h : Cx p s m args meth c A D cI cZ nL cc own Ts rt) {y : MethodName} {wy wy' : List Cond} {rm : Room} {bytes : ByteArray} {maxL n idx mc ms : Nat} {As rest : List Value} {b : Nat} {w0 wc : va_W} {w1 : (Nat → Nat) → va_W} {host : String} (hnw : va_Nw (.methodLinkNest own idx y host) s) (hg : GoodIn Ts wy) (hini : Cond.initialized y.cls ∈ Ts) (hinst : Cond.instanceMethod y ∈ Ts) (hy1 : y.name = "<init>") (hdd : y.cls ≠ "java/lang/invoke/MethodHandle" ∧ y.cls ≠ "java/lang/invoke/VarHandle" ∧ (parseMethodDescriptor y.desc).map (fun d => d.parameters.length) = some n) (hw : wy = Cond.code y bytes maxL none :: wy') (hrm : rm.cells = mc ∧ rm.slots = ms) (hR : rm.frames + 1 ≤ R.frames ∧ 8 + (maxL + 11) + rm.locals ≤ R.locals) (hcells : kc + mc ≤ R.cells) (hslots : ks + ms ≤ R.slots) (hn : As.length = n) (hws : ws = w0 ++ wc) (hst : st = As.reverse ++ .ref b :: rest) (hrest : (rest.map fun v => v.category).sum ≤ 8) (hd : decode cc pc = .ok (.invokespecial idx, 3)) (hM : CN l y wy rm D cI cZ (.ref b :: As) wc w1 mc ms) (kk : ∀ u : Nat → Nat, VG p l e R s m args below meth c A D nL Q (kc + mc) (ks + ms) (w0 ++ w1 u) (pc + 3) (lv) (rest)) : VG p l e R s m args below meth c A D nL Q (kc) (ks) (ws) (pc) (lv) (st) := by
  subst hws
  intro H locs ls hP hD hS hl
  have hPc := app_r hP
  have hDc := appD_r hD
  have hFc := appF (ws := w0 ++ wc) hDc hS h.2.2.2.2
  refine va_callv (va_runIN (As := As) (rest := rest) h.1 (hM H.size) ⟨va_cnB n h.1.2.2.2.2 hg hw hrm.1 hrm.2 hnw (h.1.2.2.2.2 _ hini) hdd hR, hy1, h.1.2.2.2.2 _ hinst⟩ ⟨PB.blind, fun U hU hW => ⟨rfl, by rw [hU], by rw [hU]; exact hPc, h.2.2.2.1.warm hW, hDc.weaken (fun _ _ _ _ => trivial)⟩⟩ rfl hn hl.1 hst (lv_room hrest) hd ⟨hcells, hslots⟩) hS (fun q _ h => hFc q h) hFc (fun u t H1 locs1 ht hvm hw9 hB hz1 hk1 hS1 => ?_)
  obtain ⟨hP1, hD1⟩ := hB
  rw [ht] at hP1
  obtain ⟨hP2, hD2⟩ := app_join hP hD hk1 hFc hP1 hD1
  exact kk u H1 locs1 ls hP2 hD2 hS1 hl
theorem G_ciL (h : Cx p s m args meth c A D cI cZ nL cc own Ts rt) {y : MethodName} {wy wy' : List Cond} {rm : Room} {bytes : ByteArray} {maxL n idx : Nat} {ret : Option FieldType} {C : String} {b ci : Nat} {cq : vw_C} {fs : List Value} {As rest : List Value} {wc w1 : va_W} {w0 : va_W} {r0 : Int32} (hg : GoodIn Ts (wsV own idx C y wy)) (hdd : y.cls = C ∧ y.cls ≠ "java/lang/invoke/MethodHandle" ∧ y.cls ≠ "java/lang/invoke/VarHandle" ∧ (parseMethodDescriptor y.desc).map (fun d => d.parameters.length) = some n) (hcl : vwCl[ci]? = some cq) (hrec : wc[0]? = some (b, .inr (ci, fs))) (hqc : cq.1 = C) (hw : wy = Cond.code y bytes maxL ret :: wy') (hrm : rm.cells = 0 ∧ rm.slots = 0) (hR : rm.frames + 1 ≤ R.frames ∧ 8 + (maxL + 11) + rm.locals ≤ R.locals) (hcells : kc + 0 ≤ R.cells) (hslots : ks + 0 ≤ R.slots) (hn : As.length = n) (hst : st = As.reverse ++ .ref b :: rest) (hrest : (rest.map fun v => v.category).sum ≤ 8) (hd : decode cc pc = .ok (.invokevirtual idx, 3)) (hM : CI l y wy rm D cI cZ (.ref b :: As) wc w1 r0) (kk : VG p l e R s m args below meth c A D nL Q (kc) (ks) (w1 ++ w0) (pc + 3) (lv) (.int r0 :: rest)) : VG p l e R s m args below meth c A D nL Q (kc) (ks) (wc ++ w0) (pc) (lv) (st) := by
  subst hqc
  intro H locs ls hP hD hS hl
  have hPc := app_l hP
  have hDc := appD_l hD
  have hFc := appF (ws := wc) hDc hS h.2.2.2.2
  refine va_calli (va_runV (As := As) (rest := rest) h.1 (hM H.size) (cwV n h.1.2.2.2.2 hg hw hrm.1 hrm.2 hdd hR) ⟨PB.blind, va_recv h.2.2.2.1.1 hPc hcl hrec, fun U hU hW => ⟨rfl, by rw [hU], by rw [hU]; exact hPc, h.2.2.2.1.warm hW, hDc.weaken (fun _ _ _ _ => trivial)⟩⟩ rfl hn hl.1 hst (lv_room hrest) hd ⟨hcells, hslots⟩) hS (fun q _ h => hFc q h) hFc (fun r9 u t H1 locs1 ht hvm hw9 hB hz1 hk1 hS1 => ?_)
  subst hw9
  obtain ⟨hP1, hD1⟩ := hB
  rw [ht] at hP1
  obtain ⟨hP2, hD2⟩ := app_join2 hP hD hk1 hFc hP1 hD1
  exact kk H1 locs1 ls hP2 hD2 hS1 hl
theorem G_ciR (h : Cx p s m args meth c A D cI cZ nL cc own Ts rt) {y : MethodName} {wy wy' : List Cond} {rm : Room} {bytes : ByteArray} {maxL n idx : Nat} {ret : Option FieldType} {C : String} {b ci : Nat} {cq : vw_C} {fs : List Value} {As rest : List Value} {wc w1 : va_W} {w0 : va_W} {r0 : Int32} (hg : GoodIn Ts (wsV own idx C y wy)) (hdd : y.cls = C ∧ y.cls ≠ "java/lang/invoke/MethodHandle" ∧ y.cls ≠ "java/lang/invoke/VarHandle" ∧ (parseMethodDescriptor y.desc).map (fun d => d.parameters.length) = some n) (hcl : vwCl[ci]? = some cq) (hrec : wc[0]? = some (b, .inr (ci, fs))) (hqc : cq.1 = C) (hw : wy = Cond.code y bytes maxL ret :: wy') (hrm : rm.cells = 0 ∧ rm.slots = 0) (hR : rm.frames + 1 ≤ R.frames ∧ 8 + (maxL + 11) + rm.locals ≤ R.locals) (hcells : kc + 0 ≤ R.cells) (hslots : ks + 0 ≤ R.slots) (hn : As.length = n) (hst : st = As.reverse ++ .ref b :: rest) (hrest : (rest.map fun v => v.category).sum ≤ 8) (hd : decode cc pc = .ok (.invokevirtual idx, 3)) (hM : CI l y wy rm D cI cZ (.ref b :: As) wc w1 r0) (kk : VG p l e R s m args below meth c A D nL Q (kc) (ks) (w0 ++ w1) (pc + 3) (lv) (.int r0 :: rest)) : VG p l e R s m args below meth c A D nL Q (kc) (ks) (w0 ++ wc) (pc) (lv) (st) := by
  subst hqc
  intro H locs ls hP hD hS hl
  have hPc := app_r hP
  have hDc := appD_r hD
  have hFc := appF (ws := wc) hDc hS h.2.2.2.2
  refine va_calli (va_runV (As := As) (rest := rest) h.1 (hM H.size) (cwV n h.1.2.2.2.2 hg hw hrm.1 hrm.2 hdd hR) ⟨PB.blind, va_recv h.2.2.2.1.1 hPc hcl hrec, fun U hU hW => ⟨rfl, by rw [hU], by rw [hU]; exact hPc, h.2.2.2.1.warm hW, hDc.weaken (fun _ _ _ _ => trivial)⟩⟩ rfl hn hl.1 hst (lv_room hrest) hd ⟨hcells, hslots⟩) hS (fun q _ h => hFc q h) hFc (fun r9 u t H1 locs1 ht hvm hw9 hB hz1 hk1 hS1 => ?_)
  subst hw9
  obtain ⟨hP1, hD1⟩ := hB
  rw [ht] at hP1
  obtain ⟨hP2, hD2⟩ := app_join hP hD hk1 hFc hP1 hD1
  exact kk H1 locs1 ls hP2 hD2 hS1 hl
theorem G_cvP (h : Cx p s m args meth c A D cI cZ nL cc own Ts rt) {y : MethodName} {wy wy' : List Cond} {rm : Room} {bytes : ByteArray} {maxL n idx : Nat} {ret : Option FieldType} {C : String} {b ci : Nat} {cq : vw_C} {fs : List Value} {As rest : List Value} {wc w1 : va_W} (is : List Nat) (hC : is.map (fun i => ws[i]?) = wc.map some) (hnd : va_nd is = true) (ws' : va_W) (hs : sm ws is w1 = ws') (hlen : w1.length = is.length) (hg : GoodIn Ts (wsV own idx C y wy)) (hdd : y.cls = C ∧ y.cls ≠ "java/lang/invoke/MethodHandle" ∧ y.cls ≠ "java/lang/invoke/VarHandle" ∧ (parseMethodDescriptor y.desc).map (fun d => d.parameters.length) = some n) (hcl : vwCl[ci]? = some cq) (hrec : wc[0]? = some (b, .inr (ci, fs))) (hqc : cq.1 = C) (hw : wy = Cond.code y bytes maxL ret :: wy') (hrm : rm.cells = 0 ∧ rm.slots = 0) (hR : rm.frames + 1 ≤ R.frames ∧ 8 + (maxL + 11) + rm.locals ≤ R.locals) (hcells : kc + 0 ≤ R.cells) (hslots : ks + 0 ≤ R.slots) (hn : As.length = n) (hst : st = As.reverse ++ .ref b :: rest) (hrest : (rest.map fun v => v.category).sum ≤ 8) (hd : decode cc pc = .ok (.invokevirtual idx, 3)) (hM : CV l y wy rm D cI cZ (.ref b :: As) wc w1) (kk : VG p l e R s m args below meth c A D nL Q (kc) (ks) (ws') (pc + 3) (lv) (rest)) : VG p l e R s m args below meth c A D nL Q (kc) (ks) (ws) (pc) (lv) (st) := by
  subst hqc
  intro H locs ls hP hD hS hl
  have hPc : va_P D vwCl wc H := hP.sub is (by
    have e1 : is.filterMap (fun i => ws[i]?) = (is.map (fun i => ws[i]?)).filterMap id := by rw [List.filterMap_map]; rfl
    rw [e1, hC, List.filterMap_map]
    simp)
  have hDc := hD.sub is hnd hC
  have hFc := va_free hD hS h.2.2.2.2 is hC
  refine va_callv (va_runV (As := As) (rest := rest) h.1 (hM H.size) (cwV n h.1.2.2.2.2 hg hw hrm.1 hrm.2 hdd hR) ⟨PB.blind, va_recv h.2.2.2.1.1 hPc hcl hrec, fun U hU hW => ⟨rfl, by rw [hU], by rw [hU]; exact hPc, h.2.2.2.1.warm hW, hDc.weaken (fun _ _ _ _ => trivial)⟩⟩ rfl hn hl.1 hst (lv_room hrest) hd ⟨hcells, hslots⟩) hS (fun q _ h => hFc q h) hFc (fun u t H1 locs1 ht hvm hw9 hB hz1 hk1 hS1 => ?_)
  obtain ⟨hP1, hD1⟩ := hB
  rw [ht] at hP1
  obtain ⟨hP2, hD2⟩ := sm_join hP hD is hC hlen hk1 hFc hP1 hD1
  rw [hs] at hP2 hD2
  exact kk H1 locs1 ls hP2 hD2 hS1 hl
theorem CN_of {y : MethodName} {wy wy' : List Cond} {rm : Room} {av : List Value} {wc : va_W} {w1 : (Nat → Nat) → va_W} {mc ms : Nat} {ret : Option FieldType} (hy : plainName y.cls = true) (hw : wy = Cond.code y cc nL ret :: wy') (hyn : y.name = "<init>") (hlen : (lg_sl av).length ≤ nL) (hlv : lv_args 0 av = lv)
    (body : ∀ (p : Program) (e : Env) (s : State) (m : MethodId) (args : Array Value) (below : List Frame) (meth : Method) (c : Code) (A : Nat → Prop), meth.name = "<init>" → Cx p s m args meth c A D cI cZ nL cc y.cls wy ret → VG p l e rm s m args below meth c A D nL (QN D w1 mc ms A below args s) 0 0 wc 0 lv []) : CN l y wy rm D cI cZ av wc w1 mc ms := by
  intro sz
  refine Met.ofW (cc := cc) (maxL := nL) (ret := ret) hy hw ?_
  intro p e s m args below meth c s₁ B hml hv
  obtain ⟨rfl, hsz, hP, hK, hD0⟩ := hv
  subst hsz
  have hD := hD0.self (sz := s.heap.size)
  rw [lg_entry_eq]
  have hl := lv_entry av hlen
  rw [hlv] at hl
  have hin : meth.name = "<init>" := (name_of_methodNamed B.named B.method).1.trans hyn
  refine body p e s m av.toArray below meth c (va_A wc s.heap.size) hin ⟨⟨B.exec, B.bytes, hml, findClass_of_methodNamed B.named, atoms_spec (ws := wy) B.pre⟩, B.returns, B.notSynchronized, hK, fun q h => Or.inr h⟩ s.heap [] _ hP hD va_S.rf hl
end VGR
