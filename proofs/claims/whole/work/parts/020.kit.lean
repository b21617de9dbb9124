/-! OWN KIT: pure words for what a walk computes; a judgement V over a world; a rule an instruction, which takes the walk and the pure word one step on together -/
def gin {α : Type} (i : Int32) (n : Nat) (k : Option α) : Option α := if i < 0 ∨ n ≤ i.toNatClampNeg then none else k
def bnd {α β : Type} (x : α) (k : α → Option β) : Option β := k x
def bd {α β : Type} (x : Option α) (k : α → Option β) : Option β := match x with
  | none => none
  | some a => k a
def gz {α : Type} (v : Int32) (k : Option α) : Option α := if v = 0 ∨ v = 1 then k else none
def gcp {α : Type} (sp dp n : Int32) (n0 n1 : Nat) (k : Option α) : Option α := if sp < 0 ∨ dp < 0 ∨ n < 0 ∨ n0 < sp.toNatClampNeg + n.toNatClampNeg ∨ n1 < dp.toNatClampNeg + n.toNatClampNeg then none else k
def jmin (x y : Int32) : Int32 := if y < x then y else x
def jmax (x y : Int32) : Int32 := if x < y then y else x
def jrem (x y : Int32) : Int32 := x - x / y * y
theorem gin_some {α : Type} {i : Int32} {n : Nat} {k : Option α} {o : α} (h : gin i n k = some o) : vp_in i n ∧ k = some o := by
  unfold gin at h
  split at h
  · cases h
  · next hc => exact ⟨hc, h⟩
theorem gin_pos {α : Type} {i : Int32} {n : Nat} {k : Option α} (h : vp_in i n) : gin i n k = k := by
  unfold gin
  rw [if_neg h]
theorem bd_some {α β : Type} {x : Option α} {k : α → Option β} {o : β} (h : bd x k = some o) : ∃ a, x = some a ∧ k a = some o := by
  cases x with
  | none => cases h
  | some a => exact ⟨a, rfl, h⟩
theorem gz_some {α : Type} {v : Int32} {k : Option α} {o : α} (h : gz v k = some o) : (v = 0 ∨ v = 1) ∧ k = some o := by
  unfold gz at h
  split at h
  · next hc => exact ⟨hc, h⟩
  · cases h
theorem gcp_some {α : Type} {sp dp n : Int32} {n0 n1 : Nat} {k : Option α} {o : α} (h : gcp sp dp n n0 n1 k = some o) : (¬ sp < 0 ∧ ¬ dp < 0 ∧ ¬ n < 0 ∧ sp.toNatClampNeg + n.toNatClampNeg ≤ n0 ∧ dp.toNatClampNeg + n.toNatClampNeg ≤ n1) ∧ k = some o := by
  unfold gcp at h
  split at h
  · cases h
  · next hc =>
    refine ⟨⟨fun q => hc (Or.inl q), fun q => hc (Or.inr (Or.inl q)), fun q => hc (Or.inr (Or.inr (Or.inl q))), ?_, ?_⟩, h⟩
    · exact Nat.le_of_not_lt fun q => hc (Or.inr (Or.inr (Or.inr (Or.inl q))))
    · exact Nat.le_of_not_lt fun q => hc (Or.inr (Or.inr (Or.inr (Or.inr q))))
theorem narrow_z {v : Int32} (h : v = 0 ∨ v = 1) : narrow .boolean (.int v) = .int v := by
  rcases h with rfl | rfl <;> decide +kernel
/-- several cells of a world set at once -/
def sm : va_W → List Nat → va_W → va_W
  | ws, i :: is, x :: xs => sm (ws.set i x) is xs
  | ws, _, _ => ws
theorem sm_at : ∀ (is : List Nat) (w1 ws : va_W) (k : Nat) (q : Nat × va_E), w1.length = is.length → (sm ws is w1)[k]? = some q → (∃ j : Nat, is[j]? = some k ∧ w1[j]? = some q) ∨ (k ∉ is ∧ ws[k]? = some q)
  | [], w1, ws, k, q, hl, h => by
    cases w1 with
    | nil => exact Or.inr ⟨List.not_mem_nil, h⟩
    | cons x xs => simp at hl
  | i :: is, [], ws, k, q, hl, h => by simp at hl
  | i :: is, x :: xs, ws, k, q, hl, h => by
    have hl' : xs.length = is.length := by simpa using hl
    rcases sm_at is xs (ws.set i x) k q hl' h with ⟨j, h1, h2⟩ | ⟨h1, h2⟩
    · exact Or.inl ⟨j + 1, by rw [List.getElem?_cons_succ]; exact h1, by rw [List.getElem?_cons_succ]; exact h2⟩
    · by_cases hk : k = i
      · subst hk
        have hlt : k < (ws.set k x).length := (List.getElem?_eq_some_iff.mp h2).1
        rw [List.getElem?_set_self (by simpa using hlt)] at h2
        cases h2
        exact Or.inl ⟨0, rfl, rfl⟩
      · rw [List.getElem?_set_ne (Ne.symm hk)] at h2
        refine Or.inr ⟨fun hm => ?_, h2⟩
        rcases List.mem_cons.mp hm with e | e
        · exact hk e
        · exact h1 e
theorem sm_join {A0 : Nat → Prop} {D : va_G} {cl : List vw_C} {ws wc w1 : va_W} {H H1 : Heap} (hP : va_P D cl ws H) (hD : va_D A0 ws) (isC : List Nat) (hC : isC.map (fun i => ws[i]?) = wc.map some) (hlen : w1.length = isC.length)
    (hk : ∀ q : Nat, q < H.size → ¬ va_A wc H.size q → H1[q]? = H[q]?) (hF : ∀ q, va_A wc H.size q → A0 q) (hP1 : va_P D cl w1 H1) (hD1 : va_D (va_A wc H.size) w1) : va_P D cl (sm ws isC w1) H1 ∧ va_D A0 (sm ws isC w1) := by
  have at' : ∀ (k : Nat) (q : Nat × va_E), wc[k]? = some q → ∃ i, isC[k]? = some i ∧ ws[i]? = some q := by
    intro k q hq
    have h1 : (isC.map (fun i => ws[i]?))[k]? = some (some q) := by rw [hC, List.getElem?_map, hq]; rfl
    rw [List.getElem?_map] at h1
    cases hi : isC[k]? with
    | none => rw [hi] at h1; cases h1
    | some i => rw [hi] at h1; exact ⟨i, rfl, Option.some.inj h1⟩
  have apart : ∀ (i : Nat) (q : Nat × va_E), i ∉ isC → ws[i]? = some q → q.1 < H.size ∧ ¬ va_A wc H.size q.1 := by
    intro i q hn h2
    have hl := (hP i q h2).lt
    refine ⟨hl, fun h => ?_⟩
    rcases h with ⟨k2, e, h⟩ | h
    · obtain ⟨j, h3, h4⟩ := at' k2 (q.1, e) h
      have hij := hD.1 i j q (q.1, e) h2 h4 rfl
      subst hij
      exact hn (List.mem_of_getElem? h3)
    · omega
  refine ⟨fun k q hq => ?_, fun i j x y hx hy hxy => ?_, fun k q hq => ?_⟩
  · rcases sm_at isC w1 ws k q hlen hq with ⟨j, h1, h2⟩ | ⟨h1, h2⟩
    · exact hP1 j q h2
    · obtain ⟨g1, g2⟩ := apart k q h1 h2
      exact (hP k q h2).kept (hk q.1 g1 g2)
  · rcases sm_at isC w1 ws i x hlen hx with ⟨a, h1, h2⟩ | ⟨h1, h2⟩ <;> rcases sm_at isC w1 ws j y hlen hy with ⟨b, h3, h4⟩ | ⟨h3, h4⟩
    · have hab := hD1.1 a b x y h2 h4 hxy
      subst hab
      exact Option.some.inj (h1.symm.trans h3)
    · exact absurd (by rw [← hxy]; exact hD1.2 a x h2) (apart j y h3 h4).2
    · exact absurd (by rw [hxy]; exact hD1.2 b y h4) (apart i x h1 h2).2
    · exact hD.1 i j x y h2 h4 hxy
  · rcases sm_at isC w1 ws k q hlen hq with ⟨j, h1, h2⟩ | ⟨h1, h2⟩
    · exact hF q.1 (hD1.2 j q h2)
    · exact hD.2 k q h2
/-- the links between nest mates -/
abbrev nests : List Cond := [.methodLinkNest RX6 51 yX8_nameOf RX8, .methodLinkNest RX6 47 yX8_numberOf RX8, .methodLinkNest RX7 62 yX8_numberOf RX8, .methodLinkNest RX0 72 yX8_numberOf RX8, .methodLinkNest RX0 75 yX8_nameOf RX8, .methodLinkNest RX8 9 yX5_init RX8, .methodLinkNest RX8 18 yX6_init RX8, .methodLinkNest RX8 28 yX1_init RX8, .methodLinkNest RX8 35 yX7_init RX8, .methodLinkNest RX8 42 yX4_init RX8, .methodLinkNest RX8 52 yX0_init RX8, .methodLinkNest RX8 59 yX2_init RX8]
def NW (U : State) : Prop := va_Nw (.methodLinkNest RX6 51 yX8_nameOf RX8) U ∧ va_Nw (.methodLinkNest RX6 47 yX8_numberOf RX8) U ∧ va_Nw (.methodLinkNest RX7 62 yX8_numberOf RX8) U ∧ va_Nw (.methodLinkNest RX0 72 yX8_numberOf RX8) U ∧ va_Nw (.methodLinkNest RX0 75 yX8_nameOf RX8) U ∧ va_Nw (.methodLinkNest RX8 9 yX5_init RX8) U ∧ va_Nw (.methodLinkNest RX8 18 yX6_init RX8) U ∧ va_Nw (.methodLinkNest RX8 28 yX1_init RX8) U ∧ va_Nw (.methodLinkNest RX8 35 yX7_init RX8) U ∧ va_Nw (.methodLinkNest RX8 42 yX4_init RX8) U ∧ va_Nw (.methodLinkNest RX8 52 yX0_init RX8) U ∧ va_Nw (.methodLinkNest RX8 59 yX2_init RX8) U
theorem NW.warm {s U : State} (hW : s.WarmedH U.vm) (h : NW s) : NW U := ⟨h.1.warmM hW, h.2.1.warmM hW, h.2.2.1.warmM hW, h.2.2.2.1.warmM hW, h.2.2.2.2.1.warmM hW, h.2.2.2.2.2.1.warmM hW, h.2.2.2.2.2.2.1.warmM hW, h.2.2.2.2.2.2.2.1.warmM hW, h.2.2.2.2.2.2.2.2.1.warmM hW, h.2.2.2.2.2.2.2.2.2.1.warmM hW, h.2.2.2.2.2.2.2.2.2.2.1.warmM hW, h.2.2.2.2.2.2.2.2.2.2.2.warmM hW⟩
theorem NW.same {s U : State} (hW : s.vm = U.vm) (h : NW s) : NW U := ⟨h.1.same rfl hW, h.2.1.same rfl hW, h.2.2.1.same rfl hW, h.2.2.2.1.same rfl hW, h.2.2.2.2.1.same rfl hW, h.2.2.2.2.2.1.same rfl hW, h.2.2.2.2.2.2.1.same rfl hW, h.2.2.2.2.2.2.2.1.same rfl hW, h.2.2.2.2.2.2.2.2.1.same rfl hW, h.2.2.2.2.2.2.2.2.2.1.same rfl hW, h.2.2.2.2.2.2.2.2.2.2.1.same rfl hW, h.2.2.2.2.2.2.2.2.2.2.2.same rfl hW⟩
theorem NW.of {args : Array Value} {s : State} {Ts : List Cond} (hts : ∀ w ∈ Ts, w.before args s = true) (hin : ∀ w ∈ nests, w ∈ Ts) : NW s := ⟨va_Nw.of rfl (hts _ (hin _ (List.mem_of_getElem? (i := 0) rfl))), va_Nw.of rfl (hts _ (hin _ (List.mem_of_getElem? (i := 1) rfl))), va_Nw.of rfl (hts _ (hin _ (List.mem_of_getElem? (i := 2) rfl))), va_Nw.of rfl (hts _ (hin _ (List.mem_of_getElem? (i := 3) rfl))), va_Nw.of rfl (hts _ (hin _ (List.mem_of_getElem? (i := 4) rfl))), va_Nw.of rfl (hts _ (hin _ (List.mem_of_getElem? (i := 5) rfl))), va_Nw.of rfl (hts _ (hin _ (List.mem_of_getElem? (i := 6) rfl))), va_Nw.of rfl (hts _ (hin _ (List.mem_of_getElem? (i := 7) rfl))), va_Nw.of rfl (hts _ (hin _ (List.mem_of_getElem? (i := 8) rfl))), va_Nw.of rfl (hts _ (hin _ (List.mem_of_getElem? (i := 9) rfl))), va_Nw.of rfl (hts _ (hin _ (List.mem_of_getElem? (i := 10) rfl))), va_Nw.of rfl (hts _ (hin _ (List.mem_of_getElem? (i := 11) rfl)))⟩
/-- the tables of the classes and of the two kinds of arrays -/
def KK (D : va_G) (cI cZ : ClassId) (U : State) : Prop := va_K D vwCl [(cI, .int), (cZ, .boolean)] U ∧ NW U
theorem KK.warm {D : va_G} {cI cZ : ClassId} {s U : State} (hW : s.WarmedH U.vm) (h : KK D cI cZ s) : KK D cI cZ U := ⟨va_K.moved hW.alike h.1, h.2.warm hW⟩
/-- a method's start over a world -/
def PB (D : va_G) (cI cZ : ClassId) (sz : Nat) (wc : va_W) : State → Prop := fun U => U.heap.size = sz ∧ va_P D vwCl wc U.heap ∧ KK D cI cZ U ∧ va_D (fun _ => True) wc
theorem PB.blind {D : va_G} {cI cZ : ClassId} {sz : Nat} {wc : va_W} {av : List Value} : FrameBlind (va_Pc av (PB D cI cZ sz wc)) := by
  intro a U g mk q
  obtain ⟨q0, q1, qP, ⟨qK, qN⟩, qD⟩ := q
  exact ⟨q0, q1, qP, ⟨va_K.moved (u := U) (U := U.calling g mk a) (Vm.Alike.refl U.vm) qK, NW.same (s := U) (U := U.calling g mk a) rfl qN⟩, qD⟩
def PO (D : va_G) (w1 : va_W) (A : Nat → Prop) : Unit → State → Prop := fun _ t => va_P D vwCl w1 t.heap ∧ va_D A w1
/-- contracts: an int (or boolean) answer; none; a reference -/
def CI (l : Launch) (y : MethodName) (wy : List Cond) (rm : Room) (D : va_G) (cI cZ : ClassId) (av : List Value) (wc w1 : va_W) (r0 : Int32) : Prop := ∀ sz : Nat, Met l y wy rm (va_Pc av (PB D cI cZ sz wc)) (va_Qi (fun r (_ : Unit) => r = r0) (PO D w1 (va_A wc sz)) (va_A wc sz)) 0 0 (va_A wc sz)
def CV (l : Launch) (y : MethodName) (wy : List Cond) (rm : Room) (D : va_G) (cI cZ : ClassId) (av : List Value) (wc w1 : va_W) : Prop := ∀ sz : Nat, Met l y wy rm (va_Pc av (PB D cI cZ sz wc)) (va_Qv (fun (_ : Unit) => True) (PO D w1 (va_A wc sz)) (va_A wc sz)) 0 0 (va_A wc sz)
def CR (l : Launch) (y : MethodName) (wy : List Cond) (rm : Room) (D : va_G) (cI cZ : ClassId) (av : List Value) (wc w1 : va_W) (r0 : Nat) : Prop := ∀ sz : Nat, Met l y wy rm (va_Pc av (PB D cI cZ sz wc)) (va_Qr (fun (_ : Unit) => True) (fun u a t => a = r0 ∧ PO D w1 (va_A wc sz) u t) (va_A wc sz)) 0 0 (va_A wc sz)
abbrev QI (D : va_G) (w1 : va_W) (r0 : Int32) (A : Nat → Prop) (below : List Frame) (args : Array Value) (s : State) : State → Prop := MQ below (va_Qi (fun r (_ : Unit) => r = r0) (PO D w1 A) A) args s 0 0 A
abbrev QV (D : va_G) (w1 : va_W) (A : Nat → Prop) (below : List Frame) (args : Array Value) (s : State) : State → Prop := MQ below (va_Qv (fun (_ : Unit) => True) (PO D w1 A) A) args s 0 0 A
abbrev QR (D : va_G) (w1 : va_W) (r0 : Nat) (A : Nat → Prop) (below : List Frame) (args : Array Value) (s : State) : State → Prop := MQ below (va_Qr (fun (_ : Unit) => True) (fun u a t => a = r0 ∧ PO D w1 A u t) A) args s 0 0 A
/-- what stands through a walk -/
def Cx (p : Program) (s : State) (m : MethodId) (args : Array Value) (meth : Method) (c : Code) (A : Nat → Prop) (D : va_G) (cI cZ : ClassId) (nL : Nat) (cc : ByteArray) (own : String) (Ts : List Cond) (rt : Option FieldType) : Prop :=
  CallFix p m c cc nL s args Ts own ∧ meth.sig.returnType = rt ∧ meth.locks = false ∧ KK D cI cZ s ∧ ∀ q, s.heap.size ≤ q → A q
def V (p : Program) (l : Launch) (e : Env) (R : Room) (s : State) (m : MethodId) (args : Array Value) (below : List Frame) (meth : Method) (c : Code) (A : Nat → Prop) (D : va_G) (nL : Nat) (Q : State → Prop) (ws : va_W) (pc : Nat) (lv : List (Nat × Value)) (st : List Value) : Prop :=
  ∀ (H : Heap) (locs : List Loc) (ls : Array Slot), va_P D vwCl ws H → va_D A ws → va_S A s.heap H locs → lv_has ls nL lv → W p l e R s m args below meth c H locs 0 0 Q (F0 m pc ls st)
section VK
variable {p : Program} {l : Launch} {e : Env} {R : Room} {s : State} {m : MethodId} {args : Array Value} {below : List Frame} {meth : Method} {c : Code} {A : Nat → Prop} {D : va_G} {cI cZ : ClassId} {nL : Nat} {cc : ByteArray} {own : String} {Ts : List Cond} {rt : Option FieldType} {Q : State → Prop} {ws : va_W} {pc : Nat} {lv : List (Nat × Value)} {st : List Value} {ρ : Type} {o : ρ}
theorem CI_of {y : MethodName} {wy wy' : List Cond} {rm : Room} {av : List Value} {wc w1 : va_W} {r0 : Int32} {ret : Option FieldType} (hy : plainName y.cls = true) (hw : wy = Cond.code y cc nL ret :: wy') (hlen : (lg_sl av).length ≤ nL) (hlv : lv_args 0 av = lv)
    (body : ∀ (p : Program) (e : Env) (s : State) (m : MethodId) (args : Array Value) (below : List Frame) (meth : Method) (c : Code) (A : Nat → Prop), Cx p s m args meth c A D cI cZ nL cc y.cls wy ret → V p l e rm s m args below meth c A D nL (QI D w1 r0 A below args s) wc 0 lv []) : CI l y wy rm D cI cZ av wc w1 r0 := by
  intro sz
  refine Met.ofW (cc := cc) (maxL := nL) (ret := ret) hy hw ?_
  intro p e s m args below meth c s₁ B hml hv
  obtain ⟨rfl, hsz, hP, hK, hD0⟩ := hv
  subst hsz
  have hD := hD0.self (sz := s.heap.size)
  rw [lg_entry_eq]
  have hl := lv_entry av hlen
  rw [hlv] at hl
  refine body p e s m av.toArray below meth c (va_A wc s.heap.size) ⟨⟨B.exec, B.bytes, hml, findClass_of_methodNamed B.named, atoms_spec (ws := wy) B.pre⟩, B.returns, B.notSynchronized, hK, fun q h => Or.inr h⟩ s.heap [] _ hP hD va_S.rf hl
theorem CV_of {y : MethodName} {wy wy' : List Cond} {rm : Room} {av : List Value} {wc w1 : va_W} {ret : Option FieldType} (hy : plainName y.cls = true) (hw : wy = Cond.code y cc nL ret :: wy') (hlen : (lg_sl av).length ≤ nL) (hlv : lv_args 0 av = lv)
    (body : ∀ (p : Program) (e : Env) (s : State) (m : MethodId) (args : Array Value) (below : List Frame) (meth : Method) (c : Code) (A : Nat → Prop), Cx p s m args meth c A D cI cZ nL cc y.cls wy ret → V p l e rm s m args below meth c A D nL (QV D w1 A below args s) wc 0 lv []) : CV l y wy rm D cI cZ av wc w1 := by
  intro sz
  refine Met.ofW (cc := cc) (maxL := nL) (ret := ret) hy hw ?_
  intro p e s m args below meth c s₁ B hml hv
  obtain ⟨rfl, hsz, hP, hK, hD0⟩ := hv
  subst hsz
  have hD := hD0.self (sz := s.heap.size)
  rw [lg_entry_eq]
  have hl := lv_entry av hlen
  rw [hlv] at hl
  refine body p e s m av.toArray below meth c (va_A wc s.heap.size) ⟨⟨B.exec, B.bytes, hml, findClass_of_methodNamed B.named, atoms_spec (ws := wy) B.pre⟩, B.returns, B.notSynchronized, hK, fun q h => Or.inr h⟩ s.heap [] _ hP hD va_S.rf hl
theorem CR_of {y : MethodName} {wy wy' : List Cond} {rm : Room} {av : List Value} {wc w1 : va_W} {r0 : Nat} {ret : Option FieldType} (hy : plainName y.cls = true) (hw : wy = Cond.code y cc nL ret :: wy') (hlen : (lg_sl av).length ≤ nL) (hlv : lv_args 0 av = lv)
    (body : ∀ (p : Program) (e : Env) (s : State) (m : MethodId) (args : Array Value) (below : List Frame) (meth : Method) (c : Code) (A : Nat → Prop), Cx p s m args meth c A D cI cZ nL cc y.cls wy ret → V p l e rm s m args below meth c A D nL (QR D w1 r0 A below args s) wc 0 lv []) : CR l y wy rm D cI cZ av wc w1 r0 := by
  intro sz
  refine Met.ofW (cc := cc) (maxL := nL) (ret := ret) hy hw ?_
  intro p e s m args below meth c s₁ B hml hv
  obtain ⟨rfl, hsz, hP, hK, hD0⟩ := hv
  subst hsz
  have hD := hD0.self (sz := s.heap.size)
  rw [lg_entry_eq]
  have hl := lv_entry av hlen
  rw [hlv] at hl
  refine body p e s m av.toArray below meth c (va_A wc s.heap.size) ⟨⟨B.exec, B.bytes, hml, findClass_of_methodNamed B.named, atoms_spec (ws := wy) B.pre⟩, B.returns, B.notSynchronized, hK, fun q h => Or.inr h⟩ s.heap [] _ hP hD va_S.rf hl
end VK
