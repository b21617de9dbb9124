/-! OWN KIT: a rule an instruction -/
section VR
variable {p : Program} {l : Launch} {e : Env} {R : Room} {s : State} {m : MethodId} {args : Array Value} {below : List Frame} {meth : Method} {c : Code} {A : Nat → Prop} {D : va_G} {cI cZ : ClassId} {nL : Nat} {cc : ByteArray} {own : String} {Ts : List Cond} {rt : Option FieldType} {Q : State → Prop} {ws : va_W} {pc : Nat} {lv : List (Nat × Value)} {st : List Value} {ρ : Type} {o : ρ}

theorem V_iconst (h : Cx p s m args meth c A D cI cZ nL cc own Ts rt) {n : Int} {v : Int32} (hd : decode cc pc = .ok (.iconst n, 1)) (hv : Int32.ofInt n = v) (kk : V p l e R s m args below meth c A D nL Q (ws) (pc + 1) (lv) (.int v :: st)) : V p l e R s m args below meth c A D nL Q (ws) (pc) (lv) (st) :=
  fun H locs ls hP hD hS hl => lv_iconst h.1.1 h.1.2.1 hd hv (kk H locs ls hP hD hS hl)
theorem V_bipush (h : Cx p s m args meth c A D cI cZ nL cc own Ts rt) {n : Int} {v : Int32} (hd : decode cc pc = .ok (.bipush n, 2)) (hv : (Int8.ofInt n).toInt32 = v) (kk : V p l e R s m args below meth c A D nL Q (ws) (pc + 2) (lv) (.int v :: st)) : V p l e R s m args below meth c A D nL Q (ws) (pc) (lv) (st) :=
  fun H locs ls hP hD hS hl => lv_bipush h.1.1 h.1.2.1 hd hv (kk H locs ls hP hD hS hl)
theorem V_sipush (h : Cx p s m args meth c A D cI cZ nL cc own Ts rt) {n : Int} {v : Int32} (hd : decode cc pc = .ok (.sipush n, 3)) (hv : (Int16.ofInt n).toInt32 = v) (kk : V p l e R s m args below meth c A D nL Q (ws) (pc + 3) (lv) (.int v :: st)) : V p l e R s m args below meth c A D nL Q (ws) (pc) (lv) (st) :=
  fun H locs ls hP hD hS hl => lv_sipush h.1.1 h.1.2.1 hd hv (kk H locs ls hP hD hS hl)
theorem V_iload_n (h : Cx p s m args meth c A D cI cZ nL cc own Ts rt) {k : Fin 4} {x : Int32} (j : Nat) (hd : decode cc pc = .ok (.iload_n k, 1)) (hj : lv[j]? = some ((k : Nat), .int x)) (kk : V p l e R s m args below meth c A D nL Q (ws) (pc + 1) (lv) (.int x :: st)) : V p l e R s m args below meth c A D nL Q (ws) (pc) (lv) (st) :=
  fun H locs ls hP hD hS hl => lv_iload_n h.1.1 h.1.2.1 hd rfl (lv_at hl j hj) (kk H locs ls hP hD hS hl)
theorem V_iload (h : Cx p s m args meth c A D cI cZ nL cc own Ts rt) {k : Nat} {x : Int32} (j : Nat) (hd : decode cc pc = .ok (.iload k, 2)) (hj : lv[j]? = some (k, .int x)) (kk : V p l e R s m args below meth c A D nL Q (ws) (pc + 2) (lv) (.int x :: st)) : V p l e R s m args below meth c A D nL Q (ws) (pc) (lv) (st) :=
  fun H locs ls hP hD hS hl => lv_iload h.1.1 h.1.2.1 hd (lv_at hl j hj) (kk H locs ls hP hD hS hl)
theorem V_aload_n (h : Cx p s m args meth c A D cI cZ nL cc own Ts rt) {k : Fin 4} {x : Nat} (j : Nat) (hd : decode cc pc = .ok (.aload_n k, 1)) (hj : lv[j]? = some ((k : Nat), .ref x)) (kk : V p l e R s m args below meth c A D nL Q (ws) (pc + 1) (lv) (.ref x :: st)) : V p l e R s m args below meth c A D nL Q (ws) (pc) (lv) (st) :=
  fun H locs ls hP hD hS hl => lv_aload_n h.1.1 h.1.2.1 hd rfl (lv_at hl j hj) (kk H locs ls hP hD hS hl)
theorem V_aload (h : Cx p s m args meth c A D cI cZ nL cc own Ts rt) {k : Nat} {x : Nat} (j : Nat) (hd : decode cc pc = .ok (.aload k, 2)) (hj : lv[j]? = some (k, .ref x)) (kk : V p l e R s m args below meth c A D nL Q (ws) (pc + 2) (lv) (.ref x :: st)) : V p l e R s m args below meth c A D nL Q (ws) (pc) (lv) (st) :=
  fun H locs ls hP hD hS hl => lv_aload h.1.1 h.1.2.1 hd (lv_at hl j hj) (kk H locs ls hP hD hS hl)
theorem V_istore_n (h : Cx p s m args meth c A D cI cZ nL cc own Ts rt) {k : Fin 4} {x : Int32} (lv' : List (Nat × Value)) (hd : decode cc pc = .ok (.istore_n k, 1)) (hn : (k : Nat) < nL) (hl' : ((k : Nat), Value.int x) :: lv.filter (fun q => !(q.1 == (k : Nat)) && !(q.1 + 1 == (k : Nat) && q.2.category == 2)) = lv') (kk : V p l e R s m args below meth c A D nL Q (ws) (pc + 1) (lv') (st)) : V p l e R s m args below meth c A D nL Q (ws) (pc) (lv) (.int x :: st) :=
  fun H locs ls hP hD hS hl => lv_istore_n h.1.1 h.1.2.1 hd rfl hl hn hl' (fun ls hl => (kk H locs ls hP hD hS hl))
theorem V_istore (h : Cx p s m args meth c A D cI cZ nL cc own Ts rt) {k : Nat} {x : Int32} (lv' : List (Nat × Value)) (hd : decode cc pc = .ok (.istore k, 2)) (hn : k < nL) (hl' : (k, Value.int x) :: lv.filter (fun q => !(q.1 == k) && !(q.1 + 1 == k && q.2.category == 2)) = lv') (kk : V p l e R s m args below meth c A D nL Q (ws) (pc + 2) (lv') (st)) : V p l e R s m args below meth c A D nL Q (ws) (pc) (lv) (.int x :: st) :=
  fun H locs ls hP hD hS hl => lv_istore h.1.1 h.1.2.1 hd hl hn hl' (fun ls hl => (kk H locs ls hP hD hS hl))
theorem V_astore_n (h : Cx p s m args meth c A D cI cZ nL cc own Ts rt) {k : Fin 4} {x : Nat} (lv' : List (Nat × Value)) (hd : decode cc pc = .ok (.astore_n k, 1)) (hn : (k : Nat) < nL) (hl' : ((k : Nat), Value.ref x) :: lv.filter (fun q => !(q.1 == (k : Nat)) && !(q.1 + 1 == (k : Nat) && q.2.category == 2)) = lv') (kk : V p l e R s m args below meth c A D nL Q (ws) (pc + 1) (lv') (st)) : V p l e R s m args below meth c A D nL Q (ws) (pc) (lv) (.ref x :: st) :=
  fun H locs ls hP hD hS hl => lv_astore_n h.1.1 h.1.2.1 hd rfl hl hn hl' (fun ls hl => (kk H locs ls hP hD hS hl))
theorem V_astore (h : Cx p s m args meth c A D cI cZ nL cc own Ts rt) {k : Nat} {x : Nat} (lv' : List (Nat × Value)) (hd : decode cc pc = .ok (.astore k, 2)) (hn : k < nL) (hl' : (k, Value.ref x) :: lv.filter (fun q => !(q.1 == k) && !(q.1 + 1 == k && q.2.category == 2)) = lv') (kk : V p l e R s m args below meth c A D nL Q (ws) (pc + 2) (lv') (st)) : V p l e R s m args below meth c A D nL Q (ws) (pc) (lv) (.ref x :: st) :=
  fun H locs ls hP hD hS hl => lv_astore h.1.1 h.1.2.1 hd hl hn hl' (fun ls hl => (kk H locs ls hP hD hS hl))
theorem V_iinc (h : Cx p s m args meth c A D cI cZ nL cc own Ts rt) {k : Nat} {n : Int} {x w : Int32} {K : Int32 → Option ρ} (j : Nat) (lv' : Int32 → List (Nat × Value)) (hd : decode cc pc = .ok (.iinc k n, 3)) (hj : lv[j]? = some (k, .int x)) (hw : x + Int32.ofInt n = w) (hn : k < nL) (hl' : ∀ v, (k, Value.int v) :: lv.filter (fun q => !(q.1 == k) && !(q.1 + 1 == k && q.2.category == 2)) = lv' v) (hF : bnd w K = some o) (kk : ∀ v : Int32, K v = some o → V p l e R s m args below meth c A D nL Q (ws) (pc + 3) (lv' v) (st)) : V p l e R s m args below meth c A D nL Q (ws) (pc) (lv) (st) :=
  fun H locs ls hP hD hS hl => lv_iinc h.1.1 h.1.2.1 hd hl hj hw hn (hl' w) (fun ls hl => kk w hF H locs ls hP hD hS hl)
theorem V_iadd (h : Cx p s m args meth c A D cI cZ nL cc own Ts rt) {x y : Int32} (hd : decode cc pc = .ok (.iadd, 1)) (kk : V p l e R s m args below meth c A D nL Q (ws) (pc + 1) (lv) (.int (x + y) :: st)) : V p l e R s m args below meth c A D nL Q (ws) (pc) (lv) (.int y :: .int x :: st) :=
  fun H locs ls hP hD hS hl => lv_iadd h.1.1 h.1.2.1 hd (kk H locs ls hP hD hS hl)
theorem V_isub (h : Cx p s m args meth c A D cI cZ nL cc own Ts rt) {x y : Int32} (hd : decode cc pc = .ok (.isub, 1)) (kk : V p l e R s m args below meth c A D nL Q (ws) (pc + 1) (lv) (.int (x - y) :: st)) : V p l e R s m args below meth c A D nL Q (ws) (pc) (lv) (.int y :: .int x :: st) :=
  fun H locs ls hP hD hS hl => lv_isub h.1.1 h.1.2.1 hd (kk H locs ls hP hD hS hl)
theorem V_imul (h : Cx p s m args meth c A D cI cZ nL cc own Ts rt) {x y : Int32} (hd : decode cc pc = .ok (.imul, 1)) (kk : V p l e R s m args below meth c A D nL Q (ws) (pc + 1) (lv) (.int (x * y) :: st)) : V p l e R s m args below meth c A D nL Q (ws) (pc) (lv) (.int y :: .int x :: st) :=
  fun H locs ls hP hD hS hl => lv_imul h.1.1 h.1.2.1 hd (kk H locs ls hP hD hS hl)
theorem V_iand (h : Cx p s m args meth c A D cI cZ nL cc own Ts rt) {x y : Int32} (hd : decode cc pc = .ok (.iand, 1)) (kk : V p l e R s m args below meth c A D nL Q (ws) (pc + 1) (lv) (.int (x &&& y) :: st)) : V p l e R s m args below meth c A D nL Q (ws) (pc) (lv) (.int y :: .int x :: st) :=
  fun H locs ls hP hD hS hl => lv_iand h.1.1 h.1.2.1 hd (kk H locs ls hP hD hS hl)
theorem V_ior (h : Cx p s m args meth c A D cI cZ nL cc own Ts rt) {x y : Int32} (hd : decode cc pc = .ok (.ior, 1)) (kk : V p l e R s m args below meth c A D nL Q (ws) (pc + 1) (lv) (.int (x ||| y) :: st)) : V p l e R s m args below meth c A D nL Q (ws) (pc) (lv) (.int y :: .int x :: st) :=
  fun H locs ls hP hD hS hl => lv_ior h.1.1 h.1.2.1 hd (kk H locs ls hP hD hS hl)
theorem V_ishl (h : Cx p s m args meth c A D cI cZ nL cc own Ts rt) {x y : Int32} (hd : decode cc pc = .ok (.ishl, 1)) (kk : V p l e R s m args below meth c A D nL Q (ws) (pc + 1) (lv) (.int (x <<< (y &&& 31)) :: st)) : V p l e R s m args below meth c A D nL Q (ws) (pc) (lv) (.int y :: .int x :: st) :=
  fun H locs ls hP hD hS hl => lv_ishl h.1.1 h.1.2.1 hd (kk H locs ls hP hD hS hl)
theorem V_ishr (h : Cx p s m args meth c A D cI cZ nL cc own Ts rt) {x y : Int32} (hd : decode cc pc = .ok (.ishr, 1)) (kk : V p l e R s m args below meth c A D nL Q (ws) (pc + 1) (lv) (.int (x >>> (y &&& 31)) :: st)) : V p l e R s m args below meth c A D nL Q (ws) (pc) (lv) (.int y :: .int x :: st) :=
  fun H locs ls hP hD hS hl => lv_ishr h.1.1 h.1.2.1 hd (kk H locs ls hP hD hS hl)
theorem V_idiv (h : Cx p s m args meth c A D cI cZ nL cc own Ts rt) {x y : Int32} (hd : decode cc pc = .ok (.idiv, 1)) (hy : ¬ y = 0) (kk : V p l e R s m args below meth c A D nL Q (ws) (pc + 1) (lv) (.int (x / y) :: st)) : V p l e R s m args below meth c A D nL Q (ws) (pc) (lv) (.int y :: .int x :: st) :=
  fun H locs ls hP hD hS hl => lv_idiv h.1.1 h.1.2.1 hd hy (kk H locs ls hP hD hS hl)
theorem V_irem (h : Cx p s m args meth c A D cI cZ nL cc own Ts rt) {x y : Int32} (hd : decode cc pc = .ok (.irem, 1)) (hy : ¬ y = 0) (kk : V p l e R s m args below meth c A D nL Q (ws) (pc + 1) (lv) (.int (jrem x y) :: st)) : V p l e R s m args below meth c A D nL Q (ws) (pc) (lv) (.int y :: .int x :: st) :=
  fun H locs ls hP hD hS hl => lv_irem h.1.1 h.1.2.1 hd hy (kk H locs ls hP hD hS hl)
theorem V_dup (h : Cx p s m args meth c A D cI cZ nL cc own Ts rt) {va : Value} (hd : decode cc pc = .ok (.dup, 1)) (hva : va.category = 1) (kk : V p l e R s m args below meth c A D nL Q (ws) (pc + 1) (lv) (va :: va :: st)) : V p l e R s m args below meth c A D nL Q (ws) (pc) (lv) (va :: st) :=
  fun H locs ls hP hD hS hl => lv_dup h.1.1 h.1.2.1 hd hva (kk H locs ls hP hD hS hl)
theorem V_dup2 (h : Cx p s m args meth c A D cI cZ nL cc own Ts rt) {va vb : Value} (hd : decode cc pc = .ok (.dup2, 1)) (hva : va.category = 1) (hvb : vb.category = 1) (kk : V p l e R s m args below meth c A D nL Q (ws) (pc + 1) (lv) (va :: vb :: va :: vb :: st)) : V p l e R s m args below meth c A D nL Q (ws) (pc) (lv) (va :: vb :: st) :=
  fun H locs ls hP hD hS hl => lv_dup2_11 h.1.1 h.1.2.1 hd hva hvb (kk H locs ls hP hD hS hl)
theorem V_goto (h : Cx p s m args meth c A D cI cZ nL cc own Ts rt) {off : Int} {tgt : Nat} (hd : decode cc pc = .ok (.goto off, 3)) (ht : (pc : Int) + off = (tgt : Int)) (kk : V p l e R s m args below meth c A D nL Q (ws) (tgt) (lv) (st)) : V p l e R s m args below meth c A D nL Q (ws) (pc) (lv) (st) :=
  fun H locs ls hP hD hS hl => lv_goto h.1.1 h.1.2.1 hd ht (kk H locs ls hP hD hS hl)
theorem V_if_eq (h : Cx p s m args meth c A D cI cZ nL cc own Ts rt) {x : Int32} {off : Int} {tgt : Nat} {a b : Option ρ} (hd : decode cc pc = .ok (.ifCond .eq off, 3)) (ht : (pc : Int) + off = (tgt : Int)) (hF : (if x = 0 then a else b) = some o) (kt : a = some o → V p l e R s m args below meth c A D nL Q (ws) (tgt) (lv) (st)) (kf : b = some o → V p l e R s m args below meth c A D nL Q (ws) (pc + 3) (lv) (st)) : V p l e R s m args below meth c A D nL Q (ws) (pc) (lv) (.int x :: st) :=
  fun H locs ls hP hD hS hl => lv_if_eq h.1.1 h.1.2.1 hd ht (fun hc => kt (by rw [if_pos hc] at hF; exact hF) H locs ls hP hD hS hl) (fun hc => kf (by rw [if_neg hc] at hF; exact hF) H locs ls hP hD hS hl)
theorem V_icmp_eq (h : Cx p s m args meth c A D cI cZ nL cc own Ts rt) {x y : Int32} {off : Int} {tgt : Nat} {a b : Option ρ} (hd : decode cc pc = .ok (.if_icmp .eq off, 3)) (ht : (pc : Int) + off = (tgt : Int)) (hF : (if x = y then a else b) = some o) (kt : a = some o → V p l e R s m args below meth c A D nL Q (ws) (tgt) (lv) (st)) (kf : b = some o → V p l e R s m args below meth c A D nL Q (ws) (pc + 3) (lv) (st)) : V p l e R s m args below meth c A D nL Q (ws) (pc) (lv) (.int y :: .int x :: st) :=
  fun H locs ls hP hD hS hl => lv_icmp_eq h.1.1 h.1.2.1 hd ht (fun hc => kt (by rw [if_pos hc] at hF; exact hF) H locs ls hP hD hS hl) (fun hc => kf (by rw [if_neg hc] at hF; exact hF) H locs ls hP hD hS hl)
theorem V_if_ne (h : Cx p s m args meth c A D cI cZ nL cc own Ts rt) {x : Int32} {off : Int} {tgt : Nat} {a b : Option ρ} (hd : decode cc pc = .ok (.ifCond .ne off, 3)) (ht : (pc : Int) + off = (tgt : Int)) (hF : (if x = 0 then b else a) = some o) (kt : a = some o → V p l e R s m args below meth c A D nL Q (ws) (tgt) (lv) (st)) (kf : b = some o → V p l e R s m args below meth c A D nL Q (ws) (pc + 3) (lv) (st)) : V p l e R s m args below meth c A D nL Q (ws) (pc) (lv) (.int x :: st) :=
  fun H locs ls hP hD hS hl => lv_if_ne h.1.1 h.1.2.1 hd ht (fun hc => kt (by rw [if_neg hc] at hF; exact hF) H locs ls hP hD hS hl) (fun hc => kf (by rw [if_pos hc] at hF; exact hF) H locs ls hP hD hS hl)
theorem V_icmp_ne (h : Cx p s m args meth c A D cI cZ nL cc own Ts rt) {x y : Int32} {off : Int} {tgt : Nat} {a b : Option ρ} (hd : decode cc pc = .ok (.if_icmp .ne off, 3)) (ht : (pc : Int) + off = (tgt : Int)) (hF : (if x = y then b else a) = some o) (kt : a = some o → V p l e R s m args below meth c A D nL Q (ws) (tgt) (lv) (st)) (kf : b = some o → V p l e R s m args below meth c A D nL Q (ws) (pc + 3) (lv) (st)) : V p l e R s m args below meth c A D nL Q (ws) (pc) (lv) (.int y :: .int x :: st) :=
  fun H locs ls hP hD hS hl => lv_icmp_ne h.1.1 h.1.2.1 hd ht (fun hc => kt (by rw [if_neg hc] at hF; exact hF) H locs ls hP hD hS hl) (fun hc => kf (by rw [if_pos hc] at hF; exact hF) H locs ls hP hD hS hl)
theorem V_if_lt (h : Cx p s m args meth c A D cI cZ nL cc own Ts rt) {x : Int32} {off : Int} {tgt : Nat} {a b : Option ρ} (hd : decode cc pc = .ok (.ifCond .lt off, 3)) (ht : (pc : Int) + off = (tgt : Int)) (hF : (if x < 0 then a else b) = some o) (kt : a = some o → V p l e R s m args below meth c A D nL Q (ws) (tgt) (lv) (st)) (kf : b = some o → V p l e R s m args below meth c A D nL Q (ws) (pc + 3) (lv) (st)) : V p l e R s m args below meth c A D nL Q (ws) (pc) (lv) (.int x :: st) :=
  fun H locs ls hP hD hS hl => lv_if_lt h.1.1 h.1.2.1 hd ht (fun hc => kt (by rw [if_pos hc] at hF; exact hF) H locs ls hP hD hS hl) (fun hc => kf (by rw [if_neg hc] at hF; exact hF) H locs ls hP hD hS hl)
theorem V_icmp_lt (h : Cx p s m args meth c A D cI cZ nL cc own Ts rt) {x y : Int32} {off : Int} {tgt : Nat} {a b : Option ρ} (hd : decode cc pc = .ok (.if_icmp .lt off, 3)) (ht : (pc : Int) + off = (tgt : Int)) (hF : (if x < y then a else b) = some o) (kt : a = some o → V p l e R s m args below meth c A D nL Q (ws) (tgt) (lv) (st)) (kf : b = some o → V p l e R s m args below meth c A D nL Q (ws) (pc + 3) (lv) (st)) : V p l e R s m args below meth c A D nL Q (ws) (pc) (lv) (.int y :: .int x :: st) :=
  fun H locs ls hP hD hS hl => lv_icmp_lt h.1.1 h.1.2.1 hd ht (fun hc => kt (by rw [if_pos hc] at hF; exact hF) H locs ls hP hD hS hl) (fun hc => kf (by rw [if_neg hc] at hF; exact hF) H locs ls hP hD hS hl)
theorem V_if_ge (h : Cx p s m args meth c A D cI cZ nL cc own Ts rt) {x : Int32} {off : Int} {tgt : Nat} {a b : Option ρ} (hd : decode cc pc = .ok (.ifCond .ge off, 3)) (ht : (pc : Int) + off = (tgt : Int)) (hF : (if 0 ≤ x then a else b) = some o) (kt : a = some o → V p l e R s m args below meth c A D nL Q (ws) (tgt) (lv) (st)) (kf : b = some o → V p l e R s m args below meth c A D nL Q (ws) (pc + 3) (lv) (st)) : V p l e R s m args below meth c A D nL Q (ws) (pc) (lv) (.int x :: st) :=
  fun H locs ls hP hD hS hl => lv_if_ge h.1.1 h.1.2.1 hd ht (fun hc => kt (by rw [if_pos hc] at hF; exact hF) H locs ls hP hD hS hl) (fun hc => kf (by rw [if_neg hc] at hF; exact hF) H locs ls hP hD hS hl)
theorem V_icmp_ge (h : Cx p s m args meth c A D cI cZ nL cc own Ts rt) {x y : Int32} {off : Int} {tgt : Nat} {a b : Option ρ} (hd : decode cc pc = .ok (.if_icmp .ge off, 3)) (ht : (pc : Int) + off = (tgt : Int)) (hF : (if y ≤ x then a else b) = some o) (kt : a = some o → V p l e R s m args below meth c A D nL Q (ws) (tgt) (lv) (st)) (kf : b = some o → V p l e R s m args below meth c A D nL Q (ws) (pc + 3) (lv) (st)) : V p l e R s m args below meth c A D nL Q (ws) (pc) (lv) (.int y :: .int x :: st) :=
  fun H locs ls hP hD hS hl => lv_icmp_ge h.1.1 h.1.2.1 hd ht (fun hc => kt (by rw [if_pos hc] at hF; exact hF) H locs ls hP hD hS hl) (fun hc => kf (by rw [if_neg hc] at hF; exact hF) H locs ls hP hD hS hl)
theorem V_if_gt (h : Cx p s m args meth c A D cI cZ nL cc own Ts rt) {x : Int32} {off : Int} {tgt : Nat} {a b : Option ρ} (hd : decode cc pc = .ok (.ifCond .gt off, 3)) (ht : (pc : Int) + off = (tgt : Int)) (hF : (if 0 < x then a else b) = some o) (kt : a = some o → V p l e R s m args below meth c A D nL Q (ws) (tgt) (lv) (st)) (kf : b = some o → V p l e R s m args below meth c A D nL Q (ws) (pc + 3) (lv) (st)) : V p l e R s m args below meth c A D nL Q (ws) (pc) (lv) (.int x :: st) :=
  fun H locs ls hP hD hS hl => lv_if_gt h.1.1 h.1.2.1 hd ht (fun hc => kt (by rw [if_pos hc] at hF; exact hF) H locs ls hP hD hS hl) (fun hc => kf (by rw [if_neg hc] at hF; exact hF) H locs ls hP hD hS hl)
theorem V_icmp_gt (h : Cx p s m args meth c A D cI cZ nL cc own Ts rt) {x y : Int32} {off : Int} {tgt : Nat} {a b : Option ρ} (hd : decode cc pc = .ok (.if_icmp .gt off, 3)) (ht : (pc : Int) + off = (tgt : Int)) (hF : (if y < x then a else b) = some o) (kt : a = some o → V p l e R s m args below meth c A D nL Q (ws) (tgt) (lv) (st)) (kf : b = some o → V p l e R s m args below meth c A D nL Q (ws) (pc + 3) (lv) (st)) : V p l e R s m args below meth c A D nL Q (ws) (pc) (lv) (.int y :: .int x :: st) :=
  fun H locs ls hP hD hS hl => lv_icmp_gt h.1.1 h.1.2.1 hd ht (fun hc => kt (by rw [if_pos hc] at hF; exact hF) H locs ls hP hD hS hl) (fun hc => kf (by rw [if_neg hc] at hF; exact hF) H locs ls hP hD hS hl)
theorem V_if_le (h : Cx p s m args meth c A D cI cZ nL cc own Ts rt) {x : Int32} {off : Int} {tgt : Nat} {a b : Option ρ} (hd : decode cc pc = .ok (.ifCond .le off, 3)) (ht : (pc : Int) + off = (tgt : Int)) (hF : (if x ≤ 0 then a else b) = some o) (kt : a = some o → V p l e R s m args below meth c A D nL Q (ws) (tgt) (lv) (st)) (kf : b = some o → V p l e R s m args below meth c A D nL Q (ws) (pc + 3) (lv) (st)) : V p l e R s m args below meth c A D nL Q (ws) (pc) (lv) (.int x :: st) :=
  fun H locs ls hP hD hS hl => lv_if_le h.1.1 h.1.2.1 hd ht (fun hc => kt (by rw [if_pos hc] at hF; exact hF) H locs ls hP hD hS hl) (fun hc => kf (by rw [if_neg hc] at hF; exact hF) H locs ls hP hD hS hl)
theorem V_icmp_le (h : Cx p s m args meth c A D cI cZ nL cc own Ts rt) {x y : Int32} {off : Int} {tgt : Nat} {a b : Option ρ} (hd : decode cc pc = .ok (.if_icmp .le off, 3)) (ht : (pc : Int) + off = (tgt : Int)) (hF : (if x ≤ y then a else b) = some o) (kt : a = some o → V p l e R s m args below meth c A D nL Q (ws) (tgt) (lv) (st)) (kf : b = some o → V p l e R s m args below meth c A D nL Q (ws) (pc + 3) (lv) (st)) : V p l e R s m args below meth c A D nL Q (ws) (pc) (lv) (.int y :: .int x :: st) :=
  fun H locs ls hP hD hS hl => lv_icmp_le h.1.1 h.1.2.1 hd ht (fun hc => kt (by rw [if_pos hc] at hF; exact hF) H locs ls hP hD hS hl) (fun hc => kf (by rw [if_neg hc] at hF; exact hF) H locs ls hP hD hS hl)
theorem V_ite {x k : Int32} {a b : Option ρ} (hF : (if x = k then a else b) = some o) (kt : x = k → a = some o → V p l e R s m args below meth c A D nL Q (ws) (pc) (lv) (st)) (kf : ¬ x = k → b = some o → V p l e R s m args below meth c A D nL Q (ws) (pc) (lv) (st)) : V p l e R s m args below meth c A D nL Q (ws) (pc) (lv) (st) := by
  by_cases hc : x = k
  · rw [if_pos hc] at hF
    exact kt hc hF
  · rw [if_neg hc] at hF
    exact kf hc hF
theorem V_bnd {x : Int32} {K : Int32 → Option ρ} (hF : bnd x K = some o) (kk : ∀ v : Int32, K v = some o → V p l e R s m args below meth c A D nL Q (ws) (pc) (lv) (.int v :: st)) : V p l e R s m args below meth c A D nL Q (ws) (pc) (lv) (.int x :: st) := kk x hF
theorem V_lv (is : List Nat) (lv' : List (Nat × Value)) (hp : lv_pick lv is = lv') (kk : V p l e R s m args below meth c A D nL Q (ws) (pc) (lv') (st)) : V p l e R s m args below meth c A D nL Q (ws) (pc) (lv) (st) :=
  fun H locs ls hP hD hS hl => kk H locs ls hP hD hS (lv_sub hl is hp)
theorem V_tableIn (h : Cx p s m args meth c A D cI cZ nL cc own Ts rt) {dflt lo hi : Int} {offs : Array Int} {len : Nat} {x : Int32} {off : Int} {tgt : Nat} (hd : decode cc pc = .ok (.tableswitch dflt lo hi offs, len)) (h1 : ¬ x.toInt < lo) (h2 : ¬ hi < x.toInt) (ho : offs[(x.toInt - lo).toNat]? = some off) (ht : (pc : Int) + off = (tgt : Int)) (kk : V p l e R s m args below meth c A D nL Q (ws) (tgt) (lv) (st)) : V p l e R s m args below meth c A D nL Q (ws) (pc) (lv) (.int x :: st) :=
  fun H locs ls hP hD hS hl => lv_tableIn h.1.1 h.1.2.1 hd h1 h2 ho ht (kk H locs ls hP hD hS hl)
theorem V_tableOut (h : Cx p s m args meth c A D cI cZ nL cc own Ts rt) {dflt lo hi : Int} {offs : Array Int} {len : Nat} {x : Int32} {tgt : Nat} (hd : decode cc pc = .ok (.tableswitch dflt lo hi offs, len)) (h1 : x.toInt < lo ∨ hi < x.toInt) (ht : (pc : Int) + dflt = (tgt : Int)) (kk : V p l e R s m args below meth c A D nL Q (ws) (tgt) (lv) (st)) : V p l e R s m args below meth c A D nL Q (ws) (pc) (lv) (.int x :: st) :=
  fun H locs ls hP hD hS hl => lv_tableOut h.1.1 h.1.2.1 hd h1 ht (kk H locs ls hP hD hS hl)
theorem V_lookup (h : Cx p s m args meth c A D cI cZ nL cc own Ts rt) {dflt : Int} {ps : Array (Int × Int)} {len : Nat} {x : Int32} {off : Int} {tgt : Nat} (hd : decode cc pc = .ok (.lookupswitch dflt ps, len)) (hp : (ps.toList.zip (ps.toList.drop 1)).all (fun (a, next) => a.1 < next.1) = true) (ho : Op.lookupswitch.offset ps.toList dflt x.toInt = off) (ht : (pc : Int) + off = (tgt : Int)) (kk : V p l e R s m args below meth c A D nL Q (ws) (tgt) (lv) (st)) : V p l e R s m args below meth c A D nL Q (ws) (pc) (lv) (.int x :: st) :=
  fun H locs ls hP hD hS hl => lv_lookup h.1.1 h.1.2.1 hd hp ho ht (kk H locs ls hP hD hS hl)
theorem i32_ne {x k : Int32} (h : ¬ x = k) : x.toInt ≠ k.toInt := fun q => h (Int32.toInt_inj.mp q)
theorem V_get (h : Cx p s m args meth c A D cI cZ nL cc own Ts rt) {C ref : String} {T : u_T} {N ci idx a : Nat} {fs : List Value} {v : Value} (hin : ∀ w ∈ u_ws C T N, w ∈ Ts) (q0 k : Nat) (he : ws[q0]? = some (a, .inr (ci, fs))) (hc : vwCl[ci]? = some (C, T, N)) (hk : k < N) (hl' : Cond.fieldLink own idx ref (T k).2.1 (T k).2.2.1 ∈ Ts) (hr : (T k).1 = ref) (hv : fs[k]? = some v) (hd : decode cc pc = .ok (.getfield idx, 3)) (kk : V p l e R s m args below meth c A D nL Q (ws) (pc + 3) (lv) (v :: st)) : V p l e R s m args below meth c A D nL Q (ws) (pc) (lv) (.ref a :: st) :=
  fun H locs ls hP hD hS hl => va_get h.1.1 h.1.2.1 h.1.2.2.2.2 hin h.1.2.2.2.1 h.2.2.2.1.1 hP q0 he hc k hk (h.1.2.2.2.2 _ hl') (fun _ h9 => by rw [← hr]; exact h9) hv hd (kk H locs ls hP hD hS hl)
theorem V_put (h : Cx p s m args meth c A D cI cZ nL cc own Ts rt) {C ref : String} {T : u_T} {N ci idx a : Nat} {fs : List Value} {v : Int32} (hin : ∀ w ∈ u_ws C T N, w ∈ Ts) (ty0 : Nat → FieldType) (hty : ∀ k, k < N → parseFieldDescriptor (T k).2.2.1 = some (ty0 k)) (hnm : ∀ a, a < N → ∀ b, b < N → a ≠ b → (T a).2.1 ≠ (T b).2.1) (q0 k : Nat) (he : ws[q0]? = some (a, .inr (ci, fs))) (hc : vwCl[ci]? = some (C, T, N)) (hk : k < N) (hl' : Cond.fieldLink own idx ref (T k).2.1 (T k).2.2.1 ∈ Ts) (hr : (T k).1 = ref) (hfin : (T k).2.2.2 = false) (hd0 : parseFieldDescriptor (T k).2.2.1 = some .int) (hlen : k < fs.length) (ws' : va_W) (hs : ws.set q0 (a, .inr (ci, fs.set k (.int v))) = ws') (hd : decode cc pc = .ok (.putfield idx, 3)) (kk : V p l e R s m args below meth c A D nL Q (ws') (pc + 3) (lv) (st)) : V p l e R s m args below meth c A D nL Q (ws) (pc) (lv) (.int v :: .ref a :: st) :=
  fun H locs ls hP hD hS hl => va_put (ty := .int) h.1.1 h.1.2.1 h.1.2.2.2.2 hin ty0 hty hnm h.1.2.2.2.1 h.2.2.2.1.1 hP hD hS q0 he hc k hk (h.1.2.2.2.2 _ hl') (fun _ h9 => by rw [← hr]; exact h9) hfin hd0 rfl rfl hlen hd (fun H locs hP hD hS => by rw [hs] at hP hD; exact (kk H locs ls hP hD hS hl))
theorem V_iald (h : Cx p s m args meth c A D cI cZ nL cc own Ts rt) {a n : Nat} {f : Nat → Int32} {i : Int32} {k : Option ρ} (q0 : Nat) (ha : ws[q0]? = some (a, .inl (cI, n, .inl f))) (hd : decode cc pc = .ok (.iaload, 1)) (hF : gin i n k = some o) (kk : k = some o → V p l e R s m args below meth c A D nL Q (ws) (pc + 1) (lv) (.int (f i.toNatClampNeg) :: st)) : V p l e R s m args below meth c A D nL Q (ws) (pc) (lv) (.int i :: .ref a :: st) :=
  fun H locs ls hP hD hS hl => va_iald h.1.1 h.1.2.1 h.2.2.2.1.1 hP q0 0 ha rfl (gin_some hF).1 hd (kk (gin_some hF).2 H locs ls hP hD hS hl)
theorem V_zald (h : Cx p s m args meth c A D cI cZ nL cc own Ts rt) {a n : Nat} {f : Nat → Int32} {i : Int32} {k : Option ρ} (q0 : Nat) (ha : ws[q0]? = some (a, .inl (cZ, n, .inl f))) (hd : decode cc pc = .ok (.baload, 1)) (hF : gin i n k = some o) (kk : k = some o → V p l e R s m args below meth c A D nL Q (ws) (pc + 1) (lv) (.int (f i.toNatClampNeg) :: st)) : V p l e R s m args below meth c A D nL Q (ws) (pc) (lv) (.int i :: .ref a :: st) :=
  fun H locs ls hP hD hS hl => va_zald h.1.1 h.1.2.1 h.2.2.2.1.1 hP q0 1 ha rfl (gin_some hF).1 hd (kk (gin_some hF).2 H locs ls hP hD hS hl)
theorem V_iast (h : Cx p s m args meth c A D cI cZ nL cc own Ts rt) {a n : Nat} {f : Nat → Int32} {i x : Int32} {k : Option ρ} (q0 : Nat) (ha : ws[q0]? = some (a, .inl (cI, n, .inl f))) (ws' : va_W) (hs : ws.set q0 (a, .inl (cI, n, .inl (upd f i.toNatClampNeg x))) = ws') (hd : decode cc pc = .ok (.iastore, 1)) (hF : gin i n k = some o) (kk : k = some o → V p l e R s m args below meth c A D nL Q (ws') (pc + 1) (lv) (st)) : V p l e R s m args below meth c A D nL Q (ws) (pc) (lv) (.int x :: .int i :: .ref a :: st) :=
  fun H locs ls hP hD hS hl => va_iast h.1.1 h.1.2.1 h.2.2.2.1.1 hP hD hS q0 0 ha rfl (gin_some hF).1 hd (fun H locs hP hD hS => by rw [hs] at hP hD; exact kk (gin_some hF).2 H locs ls hP hD hS hl)
theorem V_zast (h : Cx p s m args meth c A D cI cZ nL cc own Ts rt) {a n : Nat} {f : Nat → Int32} {i x : Int32} {k : Option ρ} (q0 : Nat) (ha : ws[q0]? = some (a, .inl (cZ, n, .inl f))) (ws' : va_W) (hx : vp_nar .boolean x = x) (hs : ws.set q0 (a, .inl (cZ, n, .inl (upd f i.toNatClampNeg x))) = ws') (hd : decode cc pc = .ok (.bastore, 1)) (hF : gin i n k = some o) (kk : k = some o → V p l e R s m args below meth c A D nL Q (ws') (pc + 1) (lv) (st)) : V p l e R s m args below meth c A D nL Q (ws) (pc) (lv) (.int x :: .int i :: .ref a :: st) :=
  fun H locs ls hP hD hS hl => va_zast h.1.1 h.1.2.1 h.2.2.2.1.1 hP hD hS q0 1 ha rfl (gin_some hF).1 hd (fun H locs hP hD hS => by rw [hx, hs] at hP hD; exact kk (gin_some hF).2 H locs ls hP hD hS hl)
theorem V_alenI (h : Cx p s m args meth c A D cI cZ nL cc own Ts rt) {a n : Nat} {f : Nat → Int32} {v : Int32} (q0 : Nat) (ha : ws[q0]? = some (a, .inl (cI, n, .inl f))) (hv : Int32.ofNat n = v) (hd : decode cc pc = .ok (.arraylength, 1)) (kk : V p l e R s m args below meth c A D nL Q (ws) (pc + 1) (lv) (.int v :: st)) : V p l e R s m args below meth c A D nL Q (ws) (pc) (lv) (.ref a :: st) :=
  fun H locs ls hP hD hS hl => va_alen h.1.1 h.1.2.1 h.2.2.2.1.1 hP q0 0 ha rfl hv hd (kk H locs ls hP hD hS hl)
theorem V_alenZ (h : Cx p s m args meth c A D cI cZ nL cc own Ts rt) {a n : Nat} {f : Nat → Int32} {v : Int32} (q0 : Nat) (ha : ws[q0]? = some (a, .inl (cZ, n, .inl f))) (hv : Int32.ofNat n = v) (hd : decode cc pc = .ok (.arraylength, 1)) (kk : V p l e R s m args below meth c A D nL Q (ws) (pc + 1) (lv) (.int v :: st)) : V p l e R s m args below meth c A D nL Q (ws) (pc) (lv) (.ref a :: st) :=
  fun H locs ls hP hD hS hl => va_alen h.1.1 h.1.2.1 h.2.2.2.1.1 hP q0 1 ha rfl hv hd (kk H locs ls hP hD hS hl)
theorem V_copy (h : Cx p s m args meth c A D cI cZ nL cc own Ts rt) {a0 a n0 n1 idx : Nat} {f g : Nat → Int32} {sp dp n : Int32} {k : Option ρ} (q0 q1 : Nat) (ha0 : ws[q0]? = some (a0, .inl (cI, n0, .inl f))) (ha1 : ws[q1]? = some (a, .inl (cI, n1, .inl g))) (w1 : Cond.methodLink own idx arraycopyName ∈ Ts) (w2 : Cond.native arraycopyName ∈ Ts) (w3 : Cond.static arraycopyName ∈ Ts) (w4 : Cond.initialized "java/lang/System" ∈ Ts) (ws' : va_W) (hs : ws.set q1 (a, .inl (cI, n1, .inl (va_cpy f g sp.toNatClampNeg dp.toNatClampNeg n.toNatClampNeg))) = ws') (hfr : 1 ≤ R.frames) (hlo : (st.map fun v => v.category).sum + (nativeFrameWords "java/lang/System" "arraycopy" 5 + 11) ≤ R.locals) (hd : decode cc pc = .ok (.invokestatic idx, 3)) (hF : gcp sp dp n n0 n1 k = some o) (kk : k = some o → V p l e R s m args below meth c A D nL Q (ws') (pc + 3) (lv) (st)) : V p l e R s m args below meth c A D nL Q (ws) (pc) (lv) (.int n :: .int dp :: .ref a :: .int sp :: .ref a0 :: st) :=
  fun H locs ls hP hD hS hl => va_copyi (ty := .int) h.1.1 h.1.2.1 (h.1.2.2.1.trans hl.1.symm) h.1.2.2.2.1 (h.1.2.2.2.2 _ w1) (h.1.2.2.2.2 _ w2) (h.1.2.2.2.2 _ w3) (h.1.2.2.2.2 _ w4) h.2.2.2.1.1 hP hD hS q0 q1 0 0 ha0 ha1 rfl rfl rfl (gcp_some hF).1.1 (gcp_some hF).1.2.1 (gcp_some hF).1.2.2.1 (gcp_some hF).1.2.2.2.1 (gcp_some hF).1.2.2.2.2 (fun _ _ => rfl) hfr hlo hd (fun H locs hP hD hS => by rw [hs] at hP hD; exact kk (gcp_some hF).2 H locs ls hP hD hS hl)
theorem V_mmin (h : Cx p s m args meth c A D cI cZ nL cc own Ts rt) {x y : Int32} {idx : Nat} (w1 : Cond.methodLink own idx Lib.Math.min.name ∈ Ts) (w2 : Cond.static Lib.Math.min.name ∈ Ts) (w3 : Cond.initialized "java/lang/Math" ∈ Ts) (w4 : Cond.code Lib.Math.min.name Lib.Math.min.code 2 (some .int) ∈ Ts) (hfr : 1 ≤ R.frames) (hlo : (st.map fun v => v.category).sum + 13 ≤ R.locals) (hd : decode cc pc = .ok (.invokestatic idx, 3)) (kk : V p l e R s m args below meth c A D nL Q (ws) (pc + 3) (lv) (.int (jmin x y) :: st)) : V p l e R s m args below meth c A D nL Q (ws) (pc) (lv) (.int y :: .int x :: st) :=
  fun H locs ls hP hD hS hl => va_mmin h.1.1 h.1.2.1 (h.1.2.2.1.trans hl.1.symm) h.1.2.2.2.1 (h.1.2.2.2.2 _ w1) (h.1.2.2.2.2 _ w2) (h.1.2.2.2.2 _ w3) (h.1.2.2.2.2 _ w4) hfr hlo (Nat.zero_le _) (Nat.zero_le _) hd (kk H locs ls hP hD hS hl)
theorem V_mmax (h : Cx p s m args meth c A D cI cZ nL cc own Ts rt) {x y : Int32} {idx : Nat} (w1 : Cond.methodLink own idx Lib.Math.max.name ∈ Ts) (w2 : Cond.static Lib.Math.max.name ∈ Ts) (w3 : Cond.initialized "java/lang/Math" ∈ Ts) (w4 : Cond.code Lib.Math.max.name Lib.Math.max.code 2 (some .int) ∈ Ts) (hfr : 1 ≤ R.frames) (hlo : (st.map fun v => v.category).sum + 13 ≤ R.locals) (hd : decode cc pc = .ok (.invokestatic idx, 3)) (kk : V p l e R s m args below meth c A D nL Q (ws) (pc + 3) (lv) (.int (jmax x y) :: st)) : V p l e R s m args below meth c A D nL Q (ws) (pc) (lv) (.int y :: .int x :: st) :=
  fun H locs ls hP hD hS hl => va_mmax h.1.1 h.1.2.1 (h.1.2.2.1.trans hl.1.symm) h.1.2.2.2.1 (h.1.2.2.2.2 _ w1) (h.1.2.2.2.2 _ w2) (h.1.2.2.2.2 _ w3) (h.1.2.2.2.2 _ w4) hfr hlo (Nat.zero_le _) (Nat.zero_le _) hd (kk H locs ls hP hD hS hl)
theorem V_iret (h : Cx p s m args meth c A D cI cZ nL cc own Ts (some .int)) {r0 : Int32} (hd : decode cc pc = .ok (.ireturn, 1)) : V p l e R s m args below meth c A D nL (QI D ws r0 A below args s) ws pc lv [.int r0] :=
  fun H locs ls hP hD hS hl => W.iret h.1.1 h.1.2.1 h.2.1 (fun t ht _ => ⟨⟨r0, (), rfl, rfl, by rw [ht]; exact hP, hD⟩, hS.F ht⟩) hS.2.2 hd h.2.2.1
theorem V_zret (h : Cx p s m args meth c A D cI cZ nL cc own Ts (some .boolean)) {r0 : Int32} (hz : r0 = 0 ∨ r0 = 1) (hd : decode cc pc = .ok (.ireturn, 1)) : V p l e R s m args below meth c A D nL (QI D ws r0 A below args s) ws pc lv [.int r0] :=
  fun H locs ls hP hD hS hl => W.zret h.1.1 h.1.2.1 h.2.1 (narrow_z hz) (fun t ht _ => ⟨⟨r0, (), rfl, rfl, by rw [ht]; exact hP, hD⟩, hS.F ht⟩) hS.2.2 hd h.2.2.1
theorem V_vret (h : Cx p s m args meth c A D cI cZ nL cc own Ts none) (hd : decode cc pc = .ok (.return_, 1)) : V p l e R s m args below meth c A D nL (QV D ws A below args s) ws pc lv [] :=
  fun H locs ls hP hD hS hl => W.vret h.1.1 h.1.2.1 h.2.1 (fun t ht _ => ⟨⟨(), rfl, trivial, by rw [ht]; exact hP, hD⟩, hS.F ht⟩) hS.2.2 hd h.2.2.1
theorem V_aret {C : String} (h : Cx p s m args meth c A D cI cZ nL cc own Ts (some (.object C))) {r0 : Nat} (hd : decode cc pc = .ok (.areturn, 1)) : V p l e R s m args below meth c A D nL (QR D ws r0 A below args s) ws pc lv [.ref r0] :=
  fun H locs ls hP hD hS hl => W.aret h.1.1 h.1.2.1 h.2.1 (Or.inl ⟨_, rfl⟩) (Or.inr ⟨_, rfl⟩) (fun t ht _ => ⟨⟨(), r0, rfl, trivial, rfl, by rw [ht]; exact hP, hD⟩, hS.F ht⟩) hS.2.2 hd h.2.2.1
theorem V_ciV (h : Cx p s m args meth c A D cI cZ nL cc own Ts rt) {y : MethodName} {wy wy' : List Cond} {rm : Room} {bytes : ByteArray} {maxL n idx : Nat} {ret : Option FieldType} {σ : Type} {G : Option σ} {K : σ → Option ρ} {As rest : List Value} {wc : va_W} {w1 : σ → va_W} {r0 : σ → Int32} {C : String} {b ci : Nat} {cq : vw_C} {fs : List Value} (hg : GoodIn Ts (wsV own idx C y wy)) (hdd : y.cls = C ∧ y.cls ≠ "java/lang/invoke/MethodHandle" ∧ y.cls ≠ "java/lang/invoke/VarHandle" ∧ (parseMethodDescriptor y.desc).map (fun d => d.parameters.length) = some n) (hcl : vwCl[ci]? = some cq) (hrec : wc[0]? = some (b, .inr (ci, fs))) (hqc : cq.1 = C) (hw : wy = Cond.code y bytes maxL ret :: wy') (hrm : rm.cells = 0 ∧ rm.slots = 0) (hR : rm.frames + 1 ≤ R.frames ∧ 8 + (maxL + 11) + rm.locals ≤ R.locals) (is : List Nat) (hC : is.map (fun i => ws[i]?) = wc.map some) (hnd : va_nd is = true) (hn : As.length = n) (ws' : σ → va_W) (hs : ∀ r, sm ws is (w1 r) = ws' r) (hlen : ∀ r, (w1 r).length = is.length) (hst : st = As.reverse ++ .ref b :: rest) (hrest : (rest.map fun v => v.category).sum ≤ 8) (hd : decode cc pc = .ok (.invokevirtual idx, 3)) (hF : bd G K = some o) (hM : ∀ r : σ, G = some r → CI l y wy rm D cI cZ (.ref b :: As) wc (w1 r) (r0 r)) (kk : ∀ r : σ, K r = some o → V p l e R s m args below meth c A D nL Q (ws' r) (pc + 3) (lv) (.int (r0 r) :: rest)) : V p l e R s m args below meth c A D nL Q (ws) (pc) (lv) (st) := by
  obtain ⟨r, hG, hF⟩ := bd_some hF
  subst hqc
  intro H locs ls hP hD hS hl
  have hPc : va_P D vwCl wc H := hP.sub is (by
    have e1 : is.filterMap (fun i => ws[i]?) = (is.map (fun i => ws[i]?)).filterMap id := by rw [List.filterMap_map]; rfl
    rw [e1, hC, List.filterMap_map]
    simp)
  have hDc := hD.sub is hnd hC
  have hFc := va_free hD hS h.2.2.2.2 is hC
  refine va_calli (va_runV (As := As) (rest := rest) h.1 (hM r hG H.size) (cwV n h.1.2.2.2.2 hg hw hrm.1 hrm.2 hdd hR) ⟨PB.blind, va_recv h.2.2.2.1.1 hPc hcl hrec, fun U hU hW => ⟨rfl, by rw [hU], by rw [hU]; exact hPc, h.2.2.2.1.warm hW, hDc.weaken (fun _ _ _ _ => trivial)⟩⟩ rfl hn hl.1 hst (lv_room hrest) hd ⟨Nat.zero_le _, Nat.zero_le _⟩) hS (fun q _ h => hFc q h) hFc (fun r9 u t H1 locs1 ht hvm hw9 hB hz1 hk1 hS1 => ?_)
  subst hw9
  obtain ⟨hP1, hD1⟩ := hB
  rw [ht] at hP1
  obtain ⟨hP2, hD2⟩ := sm_join hP hD is hC (hlen r) hk1 hFc hP1 hD1
  rw [hs r] at hP2 hD2
  exact kk r hF H1 locs1 ls hP2 hD2 hS1 hl
theorem V_cvV (h : Cx p s m args meth c A D cI cZ nL cc own Ts rt) {y : MethodName} {wy wy' : List Cond} {rm : Room} {bytes : ByteArray} {maxL n idx : Nat} {ret : Option FieldType} {σ : Type} {G : Option σ} {K : σ → Option ρ} {As rest : List Value} {wc : va_W} {w1 : σ → va_W} {C : String} {b ci : Nat} {cq : vw_C} {fs : List Value} (hg : GoodIn Ts (wsV own idx C y wy)) (hdd : y.cls = C ∧ y.cls ≠ "java/lang/invoke/MethodHandle" ∧ y.cls ≠ "java/lang/invoke/VarHandle" ∧ (parseMethodDescriptor y.desc).map (fun d => d.parameters.length) = some n) (hcl : vwCl[ci]? = some cq) (hrec : wc[0]? = some (b, .inr (ci, fs))) (hqc : cq.1 = C) (hw : wy = Cond.code y bytes maxL ret :: wy') (hrm : rm.cells = 0 ∧ rm.slots = 0) (hR : rm.frames + 1 ≤ R.frames ∧ 8 + (maxL + 11) + rm.locals ≤ R.locals) (is : List Nat) (hC : is.map (fun i => ws[i]?) = wc.map some) (hnd : va_nd is = true) (hn : As.length = n) (ws' : σ → va_W) (hs : ∀ r, sm ws is (w1 r) = ws' r) (hlen : ∀ r, (w1 r).length = is.length) (hst : st = As.reverse ++ .ref b :: rest) (hrest : (rest.map fun v => v.category).sum ≤ 8) (hd : decode cc pc = .ok (.invokevirtual idx, 3)) (hF : bd G K = some o) (hM : ∀ r : σ, G = some r → CV l y wy rm D cI cZ (.ref b :: As) wc (w1 r)) (kk : ∀ r : σ, K r = some o → V p l e R s m args below meth c A D nL Q (ws' r) (pc + 3) (lv) (rest)) : V p l e R s m args below meth c A D nL Q (ws) (pc) (lv) (st) := by
  obtain ⟨r, hG, hF⟩ := bd_some hF
  subst hqc
  intro H locs ls hP hD hS hl
  have hPc : va_P D vwCl wc H := hP.sub is (by
    have e1 : is.filterMap (fun i => ws[i]?) = (is.map (fun i => ws[i]?)).filterMap id := by rw [List.filterMap_map]; rfl
    rw [e1, hC, List.filterMap_map]
    simp)
  have hDc := hD.sub is hnd hC
  have hFc := va_free hD hS h.2.2.2.2 is hC
  refine va_callv (va_runV (As := As) (rest := rest) h.1 (hM r hG H.size) (cwV n h.1.2.2.2.2 hg hw hrm.1 hrm.2 hdd hR) ⟨PB.blind, va_recv h.2.2.2.1.1 hPc hcl hrec, fun U hU hW => ⟨rfl, by rw [hU], by rw [hU]; exact hPc, h.2.2.2.1.warm hW, hDc.weaken (fun _ _ _ _ => trivial)⟩⟩ rfl hn hl.1 hst (lv_room hrest) hd ⟨Nat.zero_le _, Nat.zero_le _⟩) hS (fun q _ h => hFc q h) hFc (fun u t H1 locs1 ht hvm hw9 hB hz1 hk1 hS1 => ?_)
  obtain ⟨hP1, hD1⟩ := hB
  rw [ht] at hP1
  obtain ⟨hP2, hD2⟩ := sm_join hP hD is hC (hlen r) hk1 hFc hP1 hD1
  rw [hs r] at hP2 hD2
  exact kk r hF H1 locs1 ls hP2 hD2 hS1 hl
theorem V_crV (h : Cx p s m args meth c A D cI cZ nL cc own Ts rt) {y : MethodName} {wy wy' : List Cond} {rm : Room} {bytes : ByteArray} {maxL n idx : Nat} {ret : Option FieldType} {σ : Type} {G : Option σ} {K : σ → Option ρ} {As rest : List Value} {wc : va_W} {w1 : σ → va_W} {r0 : Nat} {C : String} {b ci : Nat} {cq : vw_C} {fs : List Value} (hg : GoodIn Ts (wsV own idx C y wy)) (hdd : y.cls = C ∧ y.cls ≠ "java/lang/invoke/MethodHandle" ∧ y.cls ≠ "java/lang/invoke/VarHandle" ∧ (parseMethodDescriptor y.desc).map (fun d => d.parameters.length) = some n) (hcl : vwCl[ci]? = some cq) (hrec : wc[0]? = some (b, .inr (ci, fs))) (hqc : cq.1 = C) (hw : wy = Cond.code y bytes maxL ret :: wy') (hrm : rm.cells = 0 ∧ rm.slots = 0) (hR : rm.frames + 1 ≤ R.frames ∧ 8 + (maxL + 11) + rm.locals ≤ R.locals) (is : List Nat) (hC : is.map (fun i => ws[i]?) = wc.map some) (hnd : va_nd is = true) (hn : As.length = n) (ws' : σ → va_W) (hs : ∀ r, sm ws is (w1 r) = ws' r) (hlen : ∀ r, (w1 r).length = is.length) (hst : st = As.reverse ++ .ref b :: rest) (hrest : (rest.map fun v => v.category).sum ≤ 8) (hd : decode cc pc = .ok (.invokevirtual idx, 3)) (hF : bd G K = some o) (hM : ∀ r : σ, G = some r → CR l y wy rm D cI cZ (.ref b :: As) wc (w1 r) r0) (kk : ∀ r : σ, K r = some o → V p l e R s m args below meth c A D nL Q (ws' r) (pc + 3) (lv) (.ref r0 :: rest)) : V p l e R s m args below meth c A D nL Q (ws) (pc) (lv) (st) := by
  obtain ⟨r, hG, hF⟩ := bd_some hF
  subst hqc
  intro H locs ls hP hD hS hl
  have hPc : va_P D vwCl wc H := hP.sub is (by
    have e1 : is.filterMap (fun i => ws[i]?) = (is.map (fun i => ws[i]?)).filterMap id := by rw [List.filterMap_map]; rfl
    rw [e1, hC, List.filterMap_map]
    simp)
  have hDc := hD.sub is hnd hC
  have hFc := va_free hD hS h.2.2.2.2 is hC
  refine va_callr (va_runV (As := As) (rest := rest) h.1 (hM r hG H.size) (cwV n h.1.2.2.2.2 hg hw hrm.1 hrm.2 hdd hR) ⟨PB.blind, va_recv h.2.2.2.1.1 hPc hcl hrec, fun U hU hW => ⟨rfl, by rw [hU], by rw [hU]; exact hPc, h.2.2.2.1.warm hW, hDc.weaken (fun _ _ _ _ => trivial)⟩⟩ rfl hn hl.1 hst (lv_room hrest) hd ⟨Nat.zero_le _, Nat.zero_le _⟩) hS (fun q _ h => hFc q h) hFc (fun u ra t H1 locs1 ht hvm hw9 hB hz1 hk1 hS1 => ?_)
  obtain ⟨hra, hP1, hD1⟩ := hB
  subst hra
  rw [ht] at hP1
  obtain ⟨hP2, hD2⟩ := sm_join hP hD is hC (hlen r) hk1 hFc hP1 hD1
  rw [hs r] at hP2 hD2
  exact kk r hF H1 locs1 ls hP2 hD2 hS1 hl
theorem V_ciS (h : Cx p s m args meth c A D cI cZ nL cc own Ts rt) {y : MethodName} {wy wy' : List Cond} {rm : Room} {bytes : ByteArray} {maxL n idx : Nat} {ret : Option FieldType} {σ : Type} {G : Option σ} {K : σ → Option ρ} {As rest : List Value} {wc : va_W} {w1 : σ → va_W} {r0 : σ → Int32} (hg : GoodIn Ts (va_wsS own idx y wy)) (hdd : y.cls ≠ "java/lang/invoke/MethodHandle" ∧ y.cls ≠ "java/lang/invoke/VarHandle" ∧ (parseMethodDescriptor y.desc).map (fun d => d.parameters.length) = some n) (hw : wy = Cond.code y bytes maxL ret :: wy') (hrm : rm.cells = 0 ∧ rm.slots = 0) (hR : rm.frames + 1 ≤ R.frames ∧ 8 + (maxL + 11) + rm.locals ≤ R.locals) (is : List Nat) (hC : is.map (fun i => ws[i]?) = wc.map some) (hnd : va_nd is = true) (hn : As.length = n) (ws' : σ → va_W) (hs : ∀ r, sm ws is (w1 r) = ws' r) (hlen : ∀ r, (w1 r).length = is.length) (hst : st = As.reverse ++ rest) (hrest : (rest.map fun v => v.category).sum ≤ 8) (hd : decode cc pc = .ok (.invokestatic idx, 3)) (hF : bd G K = some o) (hM : ∀ r : σ, G = some r → CI l y wy rm D cI cZ (As) wc (w1 r) (r0 r)) (kk : ∀ r : σ, K r = some o → V p l e R s m args below meth c A D nL Q (ws' r) (pc + 3) (lv) (.int (r0 r) :: rest)) : V p l e R s m args below meth c A D nL Q (ws) (pc) (lv) (st) := by
  obtain ⟨r, hG, hF⟩ := bd_some hF
  intro H locs ls hP hD hS hl
  have hPc : va_P D vwCl wc H := hP.sub is (by
    have e1 : is.filterMap (fun i => ws[i]?) = (is.map (fun i => ws[i]?)).filterMap id := by rw [List.filterMap_map]; rfl
    rw [e1, hC, List.filterMap_map]
    simp)
  have hDc := hD.sub is hnd hC
  have hFc := va_free hD hS h.2.2.2.2 is hC
  refine va_calli (va_runS (As := As) (rest := rest) h.1 (hM r hG H.size) (va_cwS n h.1.2.2.2.2 hg hw hrm.1 hrm.2 hdd hR) ⟨PB.blind, fun U hU hW => ⟨rfl, by rw [hU], by rw [hU]; exact hPc, h.2.2.2.1.warm hW, hDc.weaken (fun _ _ _ _ => trivial)⟩⟩ rfl hn hl.1 hst (lv_room hrest) hd ⟨Nat.zero_le _, Nat.zero_le _⟩) hS (fun q _ h => hFc q h) hFc (fun r9 u t H1 locs1 ht hvm hw9 hB hz1 hk1 hS1 => ?_)
  subst hw9
  obtain ⟨hP1, hD1⟩ := hB
  rw [ht] at hP1
  obtain ⟨hP2, hD2⟩ := sm_join hP hD is hC (hlen r) hk1 hFc hP1 hD1
  rw [hs r] at hP2 hD2
  exact kk r hF H1 locs1 ls hP2 hD2 hS1 hl
theorem V_cvS (h : Cx p s m args meth c A D cI cZ nL cc own Ts rt) {y : MethodName} {wy wy' : List Cond} {rm : Room} {bytes : ByteArray} {maxL n idx : Nat} {ret : Option FieldType} {σ : Type} {G : Option σ} {K : σ → Option ρ} {As rest : List Value} {wc : va_W} {w1 : σ → va_W} (hg : GoodIn Ts (va_wsS own idx y wy)) (hdd : y.cls ≠ "java/lang/invoke/MethodHandle" ∧ y.cls ≠ "java/lang/invoke/VarHandle" ∧ (parseMethodDescriptor y.desc).map (fun d => d.parameters.length) = some n) (hw : wy = Cond.code y bytes maxL ret :: wy') (hrm : rm.cells = 0 ∧ rm.slots = 0) (hR : rm.frames + 1 ≤ R.frames ∧ 8 + (maxL + 11) + rm.locals ≤ R.locals) (is : List Nat) (hC : is.map (fun i => ws[i]?) = wc.map some) (hnd : va_nd is = true) (hn : As.length = n) (ws' : σ → va_W) (hs : ∀ r, sm ws is (w1 r) = ws' r) (hlen : ∀ r, (w1 r).length = is.length) (hst : st = As.reverse ++ rest) (hrest : (rest.map fun v => v.category).sum ≤ 8) (hd : decode cc pc = .ok (.invokestatic idx, 3)) (hF : bd G K = some o) (hM : ∀ r : σ, G = some r → CV l y wy rm D cI cZ (As) wc (w1 r)) (kk : ∀ r : σ, K r = some o → V p l e R s m args below meth c A D nL Q (ws' r) (pc + 3) (lv) (rest)) : V p l e R s m args below meth c A D nL Q (ws) (pc) (lv) (st) := by
  obtain ⟨r, hG, hF⟩ := bd_some hF
  intro H locs ls hP hD hS hl
  have hPc : va_P D vwCl wc H := hP.sub is (by
    have e1 : is.filterMap (fun i => ws[i]?) = (is.map (fun i => ws[i]?)).filterMap id := by rw [List.filterMap_map]; rfl
    rw [e1, hC, List.filterMap_map]
    simp)
  have hDc := hD.sub is hnd hC
  have hFc := va_free hD hS h.2.2.2.2 is hC
  refine va_callv (va_runS (As := As) (rest := rest) h.1 (hM r hG H.size) (va_cwS n h.1.2.2.2.2 hg hw hrm.1 hrm.2 hdd hR) ⟨PB.blind, fun U hU hW => ⟨rfl, by rw [hU], by rw [hU]; exact hPc, h.2.2.2.1.warm hW, hDc.weaken (fun _ _ _ _ => trivial)⟩⟩ rfl hn hl.1 hst (lv_room hrest) hd ⟨Nat.zero_le _, Nat.zero_le _⟩) hS (fun q _ h => hFc q h) hFc (fun u t H1 locs1 ht hvm hw9 hB hz1 hk1 hS1 => ?_)
  obtain ⟨hP1, hD1⟩ := hB
  rw [ht] at hP1
  obtain ⟨hP2, hD2⟩ := sm_join hP hD is hC (hlen r) hk1 hFc hP1 hD1
  rw [hs r] at hP2 hD2
  exact kk r hF H1 locs1 ls hP2 hD2 hS1 hl
theorem V_ciSN (h : Cx p s m args meth c A D cI cZ nL cc own Ts rt) {y : MethodName} {wy wy' : List Cond} {rm : Room} {bytes : ByteArray} {maxL n idx : Nat} {ret : Option FieldType} {σ : Type} {G : Option σ} {K : σ → Option ρ} {As rest : List Value} {wc : va_W} {w1 : σ → va_W} {r0 : σ → Int32} {host : String} (hg : GoodIn Ts wy) (hnw : va_Nw (.methodLinkNest own idx y host) s) (hini : Cond.initialized y.cls ∈ Ts) (hsta : Cond.static y ∈ Ts) (hdd : y.cls ≠ "java/lang/invoke/MethodHandle" ∧ y.cls ≠ "java/lang/invoke/VarHandle" ∧ (parseMethodDescriptor y.desc).map (fun d => d.parameters.length) = some n) (hw : wy = Cond.code y bytes maxL ret :: wy') (hrm : rm.cells = 0 ∧ rm.slots = 0) (hR : rm.frames + 1 ≤ R.frames ∧ 8 + (maxL + 11) + rm.locals ≤ R.locals) (is : List Nat) (hC : is.map (fun i => ws[i]?) = wc.map some) (hnd : va_nd is = true) (hn : As.length = n) (ws' : σ → va_W) (hs : ∀ r, sm ws is (w1 r) = ws' r) (hlen : ∀ r, (w1 r).length = is.length) (hst : st = As.reverse ++ rest) (hrest : (rest.map fun v => v.category).sum ≤ 8) (hd : decode cc pc = .ok (.invokestatic idx, 3)) (hF : bd G K = some o) (hM : ∀ r : σ, G = some r → CI l y wy rm D cI cZ (As) wc (w1 r) (r0 r)) (kk : ∀ r : σ, K r = some o → V p l e R s m args below meth c A D nL Q (ws' r) (pc + 3) (lv) (.int (r0 r) :: rest)) : V p l e R s m args below meth c A D nL Q (ws) (pc) (lv) (st) := by
  obtain ⟨r, hG, hF⟩ := bd_some hF
  intro H locs ls hP hD hS hl
  have hPc : va_P D vwCl wc H := hP.sub is (by
    have e1 : is.filterMap (fun i => ws[i]?) = (is.map (fun i => ws[i]?)).filterMap id := by rw [List.filterMap_map]; rfl
    rw [e1, hC, List.filterMap_map]
    simp)
  have hDc := hD.sub is hnd hC
  have hFc := va_free hD hS h.2.2.2.2 is hC
  refine va_calli (va_runSN (As := As) (rest := rest) h.1 (hM r hG H.size) ⟨va_cnB n h.1.2.2.2.2 hg hw hrm.1 hrm.2 hnw (h.1.2.2.2.2 _ hini) hdd hR, h.1.2.2.2.2 _ hsta, trivial⟩ ⟨PB.blind, fun U hU hW => ⟨rfl, by rw [hU], by rw [hU]; exact hPc, h.2.2.2.1.warm hW, hDc.weaken (fun _ _ _ _ => trivial)⟩⟩ rfl hn hl.1 hst (lv_room hrest) hd ⟨Nat.zero_le _, Nat.zero_le _⟩) hS (fun q _ h => hFc q h) hFc (fun r9 u t H1 locs1 ht hvm hw9 hB hz1 hk1 hS1 => ?_)
  subst hw9
  obtain ⟨hP1, hD1⟩ := hB
  rw [ht] at hP1
  obtain ⟨hP2, hD2⟩ := sm_join hP hD is hC (hlen r) hk1 hFc hP1 hD1
  rw [hs r] at hP2 hD2
  exact kk r hF H1 locs1 ls hP2 hD2 hS1 hl
theorem V_cvSN (h : Cx p s m args meth c A D cI cZ nL cc own Ts rt) {y : MethodName} {wy wy' : List Cond} {rm : Room} {bytes : ByteArray} {maxL n idx : Nat} {ret : Option FieldType} {σ : Type} {G : Option σ} {K : σ → Option ρ} {As rest : List Value} {wc : va_W} {w1 : σ → va_W} {host : String} (hg : GoodIn Ts wy) (hnw : va_Nw (.methodLinkNest own idx y host) s) (hini : Cond.initialized y.cls ∈ Ts) (hsta : Cond.static y ∈ Ts) (hdd : y.cls ≠ "java/lang/invoke/MethodHandle" ∧ y.cls ≠ "java/lang/invoke/VarHandle" ∧ (parseMethodDescriptor y.desc).map (fun d => d.parameters.length) = some n) (hw : wy = Cond.code y bytes maxL ret :: wy') (hrm : rm.cells = 0 ∧ rm.slots = 0) (hR : rm.frames + 1 ≤ R.frames ∧ 8 + (maxL + 11) + rm.locals ≤ R.locals) (is : List Nat) (hC : is.map (fun i => ws[i]?) = wc.map some) (hnd : va_nd is = true) (hn : As.length = n) (ws' : σ → va_W) (hs : ∀ r, sm ws is (w1 r) = ws' r) (hlen : ∀ r, (w1 r).length = is.length) (hst : st = As.reverse ++ rest) (hrest : (rest.map fun v => v.category).sum ≤ 8) (hd : decode cc pc = .ok (.invokestatic idx, 3)) (hF : bd G K = some o) (hM : ∀ r : σ, G = some r → CV l y wy rm D cI cZ (As) wc (w1 r)) (kk : ∀ r : σ, K r = some o → V p l e R s m args below meth c A D nL Q (ws' r) (pc + 3) (lv) (rest)) : V p l e R s m args below meth c A D nL Q (ws) (pc) (lv) (st) := by
  obtain ⟨r, hG, hF⟩ := bd_some hF
  intro H locs ls hP hD hS hl
  have hPc : va_P D vwCl wc H := hP.sub is (by
    have e1 : is.filterMap (fun i => ws[i]?) = (is.map (fun i => ws[i]?)).filterMap id := by rw [List.filterMap_map]; rfl
    rw [e1, hC, List.filterMap_map]
    simp)
  have hDc := hD.sub is hnd hC
  have hFc := va_free hD hS h.2.2.2.2 is hC
  refine va_callv (va_runSN (As := As) (rest := rest) h.1 (hM r hG H.size) ⟨va_cnB n h.1.2.2.2.2 hg hw hrm.1 hrm.2 hnw (h.1.2.2.2.2 _ hini) hdd hR, h.1.2.2.2.2 _ hsta, trivial⟩ ⟨PB.blind, fun U hU hW => ⟨rfl, by rw [hU], by rw [hU]; exact hPc, h.2.2.2.1.warm hW, hDc.weaken (fun _ _ _ _ => trivial)⟩⟩ rfl hn hl.1 hst (lv_room hrest) hd ⟨Nat.zero_le _, Nat.zero_le _⟩) hS (fun q _ h => hFc q h) hFc (fun u t H1 locs1 ht hvm hw9 hB hz1 hk1 hS1 => ?_)
  obtain ⟨hP1, hD1⟩ := hB
  rw [ht] at hP1
  obtain ⟨hP2, hD2⟩ := sm_join hP hD is hC (hlen r) hk1 hFc hP1 hD1
  rw [hs r] at hP2 hD2
  exact kk r hF H1 locs1 ls hP2 hD2 hS1 hl
theorem V_ciVA (h : Cx p s m args meth c A D cI cZ nL cc own Ts rt) {y : MethodName} {wy wy' : List Cond} {rm : Room} {bytes : ByteArray} {maxL n idx : Nat} {ret : Option FieldType} {σ : Type} {G : Option σ} {K : σ → Option ρ} {As rest : List Value} {w1 : σ → va_W} {r0 : σ → Int32} {C : String} {b ci : Nat} {cq : vw_C} {fs : List Value} (hg : GoodIn Ts (wsV own idx C y wy)) (hdd : y.cls = C ∧ y.cls ≠ "java/lang/invoke/MethodHandle" ∧ y.cls ≠ "java/lang/invoke/VarHandle" ∧ (parseMethodDescriptor y.desc).map (fun d => d.parameters.length) = some n) (hcl : vwCl[ci]? = some cq) (hrec : ws[0]? = some (b, .inr (ci, fs))) (hqc : cq.1 = C) (hw : wy = Cond.code y bytes maxL ret :: wy') (hrm : rm.cells = 0 ∧ rm.slots = 0) (hR : rm.frames + 1 ≤ R.frames ∧ 8 + (maxL + 11) + rm.locals ≤ R.locals) (hn : As.length = n) (hst : st = As.reverse ++ .ref b :: rest) (hrest : (rest.map fun v => v.category).sum ≤ 8) (hd : decode cc pc = .ok (.invokevirtual idx, 3)) (hF : bd G K = some o) (hM : ∀ r : σ, G = some r → CI l y wy rm D cI cZ (.ref b :: As) ws (w1 r) (r0 r)) (kk : ∀ r : σ, K r = some o → V p l e R s m args below meth c A D nL Q (w1 r) (pc + 3) (lv) (.int (r0 r) :: rest)) : V p l e R s m args below meth c A D nL Q (ws) (pc) (lv) (st) := by
  obtain ⟨r, hG, hF⟩ := bd_some hF
  subst hqc
  intro H locs ls hP hD hS hl
  have hPc : va_P D vwCl ws H := hP
  have hDc : va_D A ws := hD
  have hFc : ∀ q, va_A ws H.size q → A q := by
    intro q hq
    rcases hq with ⟨k, e9, hk⟩ | hq
    · exact hD.2 k _ hk
    · exact h.2.2.2.2 q (Nat.le_trans hS.1 hq)
  refine va_calli (va_runV (As := As) (rest := rest) h.1 (hM r hG H.size) (cwV n h.1.2.2.2.2 hg hw hrm.1 hrm.2 hdd hR) ⟨PB.blind, va_recv h.2.2.2.1.1 hPc hcl hrec, fun U hU hW => ⟨rfl, by rw [hU], by rw [hU]; exact hPc, h.2.2.2.1.warm hW, hDc.weaken (fun _ _ _ _ => trivial)⟩⟩ rfl hn hl.1 hst (lv_room hrest) hd ⟨Nat.zero_le _, Nat.zero_le _⟩) hS (fun q _ h => hFc q h) hFc (fun r9 u t H1 locs1 ht hvm hw9 hB hz1 hk1 hS1 => ?_)
  subst hw9
  obtain ⟨hP1, hD1⟩ := hB
  rw [ht] at hP1
  exact kk r hF H1 locs1 ls hP1 (hD1.weaken (fun _ _ _ h9 => hFc _ h9)) hS1 hl
theorem V_cvVA (h : Cx p s m args meth c A D cI cZ nL cc own Ts rt) {y : MethodName} {wy wy' : List Cond} {rm : Room} {bytes : ByteArray} {maxL n idx : Nat} {ret : Option FieldType} {σ : Type} {G : Option σ} {K : σ → Option ρ} {As rest : List Value} {w1 : σ → va_W} {C : String} {b ci : Nat} {cq : vw_C} {fs : List Value} (hg : GoodIn Ts (wsV own idx C y wy)) (hdd : y.cls = C ∧ y.cls ≠ "java/lang/invoke/MethodHandle" ∧ y.cls ≠ "java/lang/invoke/VarHandle" ∧ (parseMethodDescriptor y.desc).map (fun d => d.parameters.length) = some n) (hcl : vwCl[ci]? = some cq) (hrec : ws[0]? = some (b, .inr (ci, fs))) (hqc : cq.1 = C) (hw : wy = Cond.code y bytes maxL ret :: wy') (hrm : rm.cells = 0 ∧ rm.slots = 0) (hR : rm.frames + 1 ≤ R.frames ∧ 8 + (maxL + 11) + rm.locals ≤ R.locals) (hn : As.length = n) (hst : st = As.reverse ++ .ref b :: rest) (hrest : (rest.map fun v => v.category).sum ≤ 8) (hd : decode cc pc = .ok (.invokevirtual idx, 3)) (hF : bd G K = some o) (hM : ∀ r : σ, G = some r → CV l y wy rm D cI cZ (.ref b :: As) ws (w1 r)) (kk : ∀ r : σ, K r = some o → V p l e R s m args below meth c A D nL Q (w1 r) (pc + 3) (lv) (rest)) : V p l e R s m args below meth c A D nL Q (ws) (pc) (lv) (st) := by
  obtain ⟨r, hG, hF⟩ := bd_some hF
  subst hqc
  intro H locs ls hP hD hS hl
  have hPc : va_P D vwCl ws H := hP
  have hDc : va_D A ws := hD
  have hFc : ∀ q, va_A ws H.size q → A q := by
    intro q hq
    rcases hq with ⟨k, e9, hk⟩ | hq
    · exact hD.2 k _ hk
    · exact h.2.2.2.2 q (Nat.le_trans hS.1 hq)
  refine va_callv (va_runV (As := As) (rest := rest) h.1 (hM r hG H.size) (cwV n h.1.2.2.2.2 hg hw hrm.1 hrm.2 hdd hR) ⟨PB.blind, va_recv h.2.2.2.1.1 hPc hcl hrec, fun U hU hW => ⟨rfl, by rw [hU], by rw [hU]; exact hPc, h.2.2.2.1.warm hW, hDc.weaken (fun _ _ _ _ => trivial)⟩⟩ rfl hn hl.1 hst (lv_room hrest) hd ⟨Nat.zero_le _, Nat.zero_le _⟩) hS (fun q _ h => hFc q h) hFc (fun u t H1 locs1 ht hvm hw9 hB hz1 hk1 hS1 => ?_)
  obtain ⟨hP1, hD1⟩ := hB
  rw [ht] at hP1
  exact kk r hF H1 locs1 ls hP1 (hD1.weaken (fun _ _ _ h9 => hFc _ h9)) hS1 hl
theorem V_crVA (h : Cx p s m args meth c A D cI cZ nL cc own Ts rt) {y : MethodName} {wy wy' : List Cond} {rm : Room} {bytes : ByteArray} {maxL n idx : Nat} {ret : Option FieldType} {σ : Type} {G : Option σ} {K : σ → Option ρ} {As rest : List Value} {w1 : σ → va_W} {r0 : Nat} {C : String} {b ci : Nat} {cq : vw_C} {fs : List Value} (hg : GoodIn Ts (wsV own idx C y wy)) (hdd : y.cls = C ∧ y.cls ≠ "java/lang/invoke/MethodHandle" ∧ y.cls ≠ "java/lang/invoke/VarHandle" ∧ (parseMethodDescriptor y.desc).map (fun d => d.parameters.length) = some n) (hcl : vwCl[ci]? = some cq) (hrec : ws[0]? = some (b, .inr (ci, fs))) (hqc : cq.1 = C) (hw : wy = Cond.code y bytes maxL ret :: wy') (hrm : rm.cells = 0 ∧ rm.slots = 0) (hR : rm.frames + 1 ≤ R.frames ∧ 8 + (maxL + 11) + rm.locals ≤ R.locals) (hn : As.length = n) (hst : st = As.reverse ++ .ref b :: rest) (hrest : (rest.map fun v => v.category).sum ≤ 8) (hd : decode cc pc = .ok (.invokevirtual idx, 3)) (hF : bd G K = some o) (hM : ∀ r : σ, G = some r → CR l y wy rm D cI cZ (.ref b :: As) ws (w1 r) r0) (kk : ∀ r : σ, K r = some o → V p l e R s m args below meth c A D nL Q (w1 r) (pc + 3) (lv) (.ref r0 :: rest)) : V p l e R s m args below meth c A D nL Q (ws) (pc) (lv) (st) := by
  obtain ⟨r, hG, hF⟩ := bd_some hF
  subst hqc
  intro H locs ls hP hD hS hl
  have hPc : va_P D vwCl ws H := hP
  have hDc : va_D A ws := hD
  have hFc : ∀ q, va_A ws H.size q → A q := by
    intro q hq
    rcases hq with ⟨k, e9, hk⟩ | hq
    · exact hD.2 k _ hk
    · exact h.2.2.2.2 q (Nat.le_trans hS.1 hq)
  refine va_callr (va_runV (As := As) (rest := rest) h.1 (hM r hG H.size) (cwV n h.1.2.2.2.2 hg hw hrm.1 hrm.2 hdd hR) ⟨PB.blind, va_recv h.2.2.2.1.1 hPc hcl hrec, fun U hU hW => ⟨rfl, by rw [hU], by rw [hU]; exact hPc, h.2.2.2.1.warm hW, hDc.weaken (fun _ _ _ _ => trivial)⟩⟩ rfl hn hl.1 hst (lv_room hrest) hd ⟨Nat.zero_le _, Nat.zero_le _⟩) hS (fun q _ h => hFc q h) hFc (fun u ra t H1 locs1 ht hvm hw9 hB hz1 hk1 hS1 => ?_)
  obtain ⟨hra, hP1, hD1⟩ := hB
  subst hra
  rw [ht] at hP1
  exact kk r hF H1 locs1 ls hP1 (hD1.weaken (fun _ _ _ h9 => hFc _ h9)) hS1 hl
end VR
