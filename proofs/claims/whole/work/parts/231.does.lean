/-! one order is done, by both -/
def MkR (a b : Int32) : Prop := (a = nI 8 ∧ b = -nI 1) ∨ ∃ i : Nat, i < 8 ∧ a = nI i ∧ b = nI i
def MakR (M mk mm : Nat → Int32) : Prop := ∀ k, k < 18 → M (8 + 4 * k) ≠ nI 0 → MkR (mk k) (mm k)
theorem NowR.row {T k : Nat} {D M D' M' : Nat → Int32} (h : NowR T D M) (hk : k < 18) (hD : ∀ p, p < 124 → (p < 12 + 4 * k ∨ 16 + 4 * k ≤ p) → D' p = D p) (hM : ∀ p, p < 124 → (p < 8 + 4 * k ∨ 12 + 4 * k ≤ p) → M' p = M p)
    (hr : D' (12 + 4 * k) = M' (8 + 4 * k) ∧ (∃ s : Nat, s ≤ 3 ∧ M' (8 + 4 * k) = nI s) ∧ (9 * T ≤ k → M' (8 + 4 * k) = nI 0) ∧ ∀ c, 1 ≤ c → c ≤ 3 → CellR (M' (8 + 4 * k)) (D' (12 + 4 * k + c)) (M' (8 + 4 * k + c))) : NowR T D' M' := by
  obtain ⟨h1, h2, w, h3⟩ := h.parts
  refine NowR_of (w := w) (h1.congr (fun p p1 p2 => hD p (by omega) (by omega)) (fun p p1 => hM p (by omega) (by omega))) (fun i hi => ?_) (h3.congr (fun p p1 => hD p (by omega) (by omega)) (fun p p1 p2 => hM p (by omega) (by omega)))
  by_cases e : i = k
  · rw [e]; exact hr
  · obtain ⟨a1, a2, a3, a4⟩ := h2 i hi
    refine ⟨by rw [hD _ (by omega) (by omega), hM _ (by omega) (by omega)]; exact a1, by rw [hM _ (by omega) (by omega)]; exact a2, by rw [hM _ (by omega) (by omega)]; exact a3, fun c c1 c2 => by rw [hD _ (by omega) (by omega), hM _ (by omega) (by omega), hM _ (by omega) (by omega)]; exact a4 c c1 c2⟩
theorem NowR.val {T b : Nat} {D M : Nat → Int32} (h : NowR T D M) (hb : b < 8) (x : Int32) : NowR T (upd D (4 + b) x) (upd M b x) := by
  obtain ⟨⟨a1, a2, a3, a4, a5⟩, h2, w, h3⟩ := h.parts
  refine NowR_of (w := w) ⟨?_, ?_, ?_, ?_, fun i hi => ?_⟩ (h2.congr (fun p p1 p2 => upd_n (by omega)) (fun p p1 p2 => upd_n (by omega))) (h3.congr (fun p p1 => upd_n (by omega)) (fun p p1 p2 => upd_n (by omega)))
  · rw [upd_n (by omega)]; exact a1
  · rw [upd_n (by omega), upd_n (by omega)]; exact a2
  · rw [upd_n (by omega), upd_n (by omega)]; exact a3
  · rw [upd_n (by omega), upd_n (by omega)]; exact a4
  · by_cases e : i = b
    · rw [e, upd_s, upd_s]
    · rw [upd_n (by omega), upd_n e]; exact a5 i hi
theorem g_makes (M : Nat → Int32) {t r : Nat} (ht : t < 2) (h1 : 1 ≤ r) (h9 : r ≤ 9) (x : Int32) : fX9_makes (nI t) (nI r) x M = some (upd (upd (upd (upd M (8 + 4 * (9 * t + r - 1)) x) (8 + 4 * (9 * t + r - 1) + 1) (-nI 9)) (8 + 4 * (9 * t + r - 1) + 2) (-nI 9)) (8 + 4 * (9 * t + r - 1) + 3) (-nI 9)) := by
  have e : 8 + 36 * t + 4 * (r - 1) = 8 + 4 * (9 * t + r - 1) := by omega
  have st : ∀ (n c : Nat) (M : Nat → Int32), c < 4 → fX9_makes_l18 (nI t) (nI r) x (n + 1) M (nI (8 + 4 * (9 * t + r - 1))) (nI c) = fX9_makes_l18 (nI t) (nI r) x n (upd M (8 + 4 * (9 * t + r - 1) + c) (-nI 9)) (nI (8 + 4 * (9 * t + r - 1))) (nI (c + 1)) := by
    intro n c M hc
    rw [fX9_makes_l18_s]
    unfold fX9_makes_b18
    simp only [lit_nI]
    rw [if_neg (by rw [n_le (by omega) (by omega)]; omega), n_add, gin_nI (by omega) (by omega), bnd_eq, n_add, n_cl (by omega)]
  have fin : ∀ (n : Nat) (M : Nat → Int32) (q : Int32), fX9_makes_l18 (nI t) (nI r) x (n + 1) M q (nI 4) = some M := by
    intro n M q
    rw [fX9_makes_l18_s]
    unfold fX9_makes_b18
    simp only [lit_nI]
    rw [if_pos (by rw [n_le (by omega) (by omega)]; omega)]
  unfold fX9_makes
  simp only [lit_nI]
  rw [g_rowAt h1, bd_s, e, gin_nI (by omega) (by omega), n_cl (by omega)]
  show fX9_makes_l18 (nI t) (nI r) x (996 + 1 + 1 + 1 + 1) _ _ _ = _
  rw [st _ 1 _ (by omega), st _ 2 _ (by omega), st _ 3 _ (by omega), fin]
def DoneR (T : Nat) (CL : Option (Int32 × (Nat → Int32) × (Nat → Int32))) (RF : Option (Int32 × (Nat → Int32) × (Nat → Int32))) : Prop :=
  ∃ (r : Nat) (mk' D' mm' M' : Nat → Int32), r ≤ 4 ∧ CL = some (nI r, mk', D') ∧ RF = some (nI r, M', mm') ∧ (r = 0 → NowR T D' M' ∧ MakR M' mk' mm')
theorem MakR.set {M M' mk mm : Nat → Int32} (h : MakR M mk mm) {k : Nat} (hM : ∀ i, i < 18 → i ≠ k → M' (8 + 4 * i) = M (8 + 4 * i)) {mk' mm' : Nat → Int32} (h1 : ∀ i, i ≠ k → mk' i = mk i) (h2 : ∀ i, i ≠ k → mm' i = mm i) (hk : M' (8 + 4 * k) ≠ nI 0 → MkR (mk' k) (mm' k)) : MakR M' mk' mm' := by
  intro i hi hz
  by_cases e : i = k
  · subst e; exact hk hz
  · rw [h1 i e, h2 i e]
    rw [hM i hi e] at hz
    exact h i hi hz
theorem f_setMaker (mk : Nat → Int32) {t r : Nat} (ht : t < 2) (h1 : 1 ≤ r) (h9 : r ≤ 9) (x : Int32) : fX7_setMaker (nI t) (nI r) x mk = some (upd mk (9 * t + r - 1) x) := by
  unfold fX7_setMaker
  simp only [lit_nI]
  rw [n_mul, n_add, n_sub (by omega), bnd_eq, Nat.mul_comm t 9, if_neg (nn0 (by omega)), if_neg (by rw [n_le (by omega) (by omega)]; omega), gin_nI (by omega) (by omega), n_cl (by omega)]
theorem f_setStatus (D : Nat → Int32) {t r : Nat} (ht : t < 2) (h1 : 1 ≤ r) (h9 : r ≤ 9) (x : Int32) : fX4_setStatus (nI t) (nI r) x D = some (upd D (12 + 4 * (9 * t + r - 1)) x) := by
  unfold fX4_setStatus
  simp only [lit_nI]
  rw [f_cellPlace ht (by omega) h1 h9, bd_s, f_write _ _ (by omega), bd_s]
  rfl
theorem status_both {T t r v i : Nat} {D M mk mm : Nat → Int32} (hN : NowR T D M) (hK : MakR M mk mm) (ht : t < 2) (htT : t < T) (h1 : 1 ≤ r) (h9 : r ≤ 9) (hv : v ≤ 99) (hi : i < 8) : DoneR T (fX7_setStatus (nI t) (nI r) (nI v) (nI i) mk D) (fX9_ordersStatus (nI i) (nI t) (nI r) (nI v) M mm) := by
  obtain ⟨k, hk⟩ : ∃ k, k = 9 * t + r - 1 := ⟨_, rfl⟩
  have hk18 : k < 18 := by omega
  have z10 : ¬ nI 1 = nI 0 := by rw [n_eq (by omega) (by omega)]; omega
  obtain ⟨c1, ⟨s, hs, st⟩, c3, c4⟩ := hN.parts.2.1 k hk18
  have e1 := f_statusOf D ht h1 h9
  have e2 := g_statusOf M ht h1 h9
  rw [← hk] at e1 e2
  rw [c1, st] at e1
  rw [st] at e2
  have er : fX9_rowAt (nI t) (nI r) = some (nI (8 + 4 * k)) := by rw [g_rowAt h1]; exact congrArg (fun q => some (nI q)) (by omega)
  have em := fun x => g_makes M ht h1 h9 x
  rw [← hk] at em
  have ef := fun x => f_setMaker mk ht h1 h9 x
  rw [← hk] at ef
  have es := fun x => f_setStatus D ht h1 h9 x
  rw [← hk] at es
  have ee := f_emptyRow D ht h1 h9
  rw [← hk, Nat.add_zero] at ee
  have hk' := hk.symm
  have fresh : ∀ (x y z : Int32) (s' : Nat), s' ≤ 3 → x = nI s' → (∀ c, 1 ≤ c → c ≤ 3 → D (12 + 4 * k + c) = nI 0) → (s' ≠ 0 → MkR y z) → NowR T (upd D (12 + 4 * k) x) (upd (upd (upd (upd M (8 + 4 * k) x) (8 + 4 * k + 1) (-nI 9)) (8 + 4 * k + 2) (-nI 9)) (8 + 4 * k + 3) (-nI 9)) ∧ MakR (upd (upd (upd (upd M (8 + 4 * k) x) (8 + 4 * k + 1) (-nI 9)) (8 + 4 * k + 2) (-nI 9)) (8 + 4 * k + 3) (-nI 9)) (upd mk k y) (upd mm k z) := by
    intro x y z s' hs' hx hc hz
    have m0 : (upd (upd (upd (upd M (8 + 4 * k) x) (8 + 4 * k + 1) (-nI 9)) (8 + 4 * k + 2) (-nI 9)) (8 + 4 * k + 3) (-nI 9)) (8 + 4 * k) = x := by rw [upd_n (by omega), upd_n (by omega), upd_n (by omega), upd_s]
    have m9 : ∀ c, 1 ≤ c → c ≤ 3 → (upd (upd (upd (upd M (8 + 4 * k) x) (8 + 4 * k + 1) (-nI 9)) (8 + 4 * k + 2) (-nI 9)) (8 + 4 * k + 3) (-nI 9)) (8 + 4 * k + c) = -nI 9 := by
      intro c c1 c2
      rcases (show c = 1 ∨ c = 2 ∨ c = 3 by omega) with rfl | rfl | rfl
      · rw [upd_n (by omega), upd_n (by omega), upd_s]
      · rw [upd_n (by omega), upd_s]
      · rw [upd_s]
    refine ⟨hN.row hk18 (fun p p1 p2 => upd_n (by omega)) (fun p p1 p2 => by rw [upd_n (by omega), upd_n (by omega), upd_n (by omega), upd_n (by omega)]) ⟨by rw [upd_s, m0], ⟨s', hs', by rw [m0]; exact hx⟩, fun z => by omega, fun c c1 c2 => ?_⟩, hK.set (k := k) (fun i i1 i2 => by rw [upd_n (by omega), upd_n (by omega), upd_n (by omega), upd_n (by omega)]) (fun i i1 => upd_n i1) (fun i i1 => upd_n i1) (fun q => ?_)⟩
    · rw [m0, m9 c c1 c2, upd_n (by omega), hc c c1 c2, hx]
      by_cases w : s' = 0
      · rw [w]; exact Or.inl ⟨rfl, rfl⟩
      · exact Or.inr (Or.inl ⟨by rw [ne_eq, n_eq (by omega) (by omega)]; exact w, rfl, by decide +kernel⟩)
    · rw [m0, hx] at q
      rw [upd_s, upd_s]
      refine hz (fun w => q (by rw [w]))
  have away : s = 0 → ∀ c, 1 ≤ c → c ≤ 3 → D (12 + 4 * k + c) = nI 0 := by
    intro z c c1 c2
    rcases c4 c c1 c2 with w | w | w
    · exact w.2
    · exact absurd (by rw [st, z]) w.1
    · exact absurd (by rw [st, z]) w.1
  have ne : ∀ {a b : Nat}, a < 2 ^ 31 → b < 2 ^ 31 → a ≠ b → ¬ nI a = nI b := fun ha hb z => by rw [n_eq ha hb]; exact z
  have same : s ≠ 0 → ∀ v : Nat, v ≠ 0 → v ≤ 3 → NowR T (upd D (12 + 4 * k) (nI v)) (upd M (8 + 4 * k) (nI v)) ∧ MakR (upd M (8 + 4 * k) (nI v)) mk mm := by
    intro s0 v v0 v3
    refine ⟨hN.row hk18 (fun p p1 p2 => upd_n (by omega)) (fun p p1 p2 => upd_n (by omega)) ⟨by rw [upd_s, upd_s], ⟨v, by omega, upd_s _ _ _⟩, fun z => by omega, fun c c1 c2 => ?_⟩, hK.set (k := k) (fun i i1 i2 => upd_n (by omega)) (fun _ _ => rfl) (fun _ _ => rfl) (fun _ => hK k hk18 (by rw [st]; exact ne (by omega) (by omega) s0))⟩
    rw [upd_s, upd_n (by omega), upd_n (by omega)]
    have vn : nI v ≠ nI 0 := ne (by omega) (by omega) (by omega)
    rcases c4 c c1 c2 with w | w | w
    · exact absurd (st.symm.trans w.1) (ne (by omega) (by omega) s0)
    · exact Or.inr (Or.inl ⟨vn, w.2⟩)
    · exact Or.inr (Or.inr ⟨vn, w.2⟩)
  unfold fX7_setStatus fX7_setStatus_b48 fX7_setStatus_b71 fX7_setStatus_b92 fX7_setStatus_b110 fX9_ordersStatus fX9_isStatus fX9_ordersStatus_b35 fX9_within fX9_ordersStatus_b52 fX9_ordersStatus_b96 fX9_ordersStatus_b122
  rcases (show v = 0 ∨ v = 1 ∨ v = 2 ∨ v = 3 ∨ v = 4 ∨ v = 5 ∨ v = 6 ∨ 7 ≤ v by omega) with rfl | rfl | rfl | rfl | rfl | rfl | rfl | v7
  · simp (disch := omega) only [lit_nI, of_nI, bnd_eq, bd_s, gin_nI, gz_0, gz_1, gcp_nI, n_lt, n_le, n_eq, n_eqm, m_eqn, m_eqm, n_ltm, m_ltn, n_lem, m_len, n_add, n_sub, n_mul, n_rem, n_div, n_cl, if_true, if_false, if_pos, if_neg, Nat.reduceAdd, Nat.reduceSub, Nat.reduceMul, e1, e2]
    exact ⟨3, _, _, _, _, by omega, rfl, rfl, fun z => absurd z (by omega)⟩
  · rcases (show s = 0 ∨ s = 3 ∨ (s ≠ 0 ∧ s ≠ 3) by omega) with z | z | z
    · simp (disch := omega) only [lit_nI, of_nI, bnd_eq, bd_s, gin_nI, gz_0, gz_1, gcp_nI, n_lt, n_le, n_eq, n_eqm, m_eqn, m_eqm, n_ltm, m_ltn, n_lem, m_len, n_add, n_sub, n_mul, n_rem, n_div, n_cl, if_true, if_false, if_pos, if_neg, Nat.reduceAdd, Nat.reduceSub, Nat.reduceMul, e1, e2, er, es]
      exact ⟨4, _, _, _, _, by omega, rfl, rfl, fun z => absurd z (by omega)⟩
    · simp (disch := omega) only [lit_nI, of_nI, bnd_eq, bd_s, gin_nI, gz_0, gz_1, gcp_nI, n_lt, n_le, n_eq, n_eqm, m_eqn, m_eqm, n_ltm, m_ltn, n_lem, m_len, n_add, n_sub, n_mul, n_rem, n_div, n_cl, if_true, if_false, if_pos, if_neg, Nat.reduceAdd, Nat.reduceSub, Nat.reduceMul, e1, e2, er, es]
      exact ⟨4, _, _, _, _, by omega, rfl, rfl, fun z => absurd z (by omega)⟩
    · simp (disch := omega) only [lit_nI, of_nI, bnd_eq, bd_s, gin_nI, gz_0, gz_1, gcp_nI, n_lt, n_le, n_eq, n_eqm, m_eqn, m_eqm, n_ltm, m_ltn, n_lem, m_len, n_add, n_sub, n_mul, n_rem, n_div, n_cl, if_true, if_false, if_pos, if_neg, Nat.reduceAdd, Nat.reduceSub, Nat.reduceMul, e1, e2, er, es]
      exact ⟨0, _, _, _, _, by omega, rfl, rfl, fun _ => same z.1 1 (by omega) (by omega)⟩
  · rcases (show s = 0 ∨ s = 3 ∨ (s ≠ 0 ∧ s ≠ 3) by omega) with z | z | z
    · simp (disch := omega) only [lit_nI, of_nI, bnd_eq, bd_s, gin_nI, gz_0, gz_1, gcp_nI, n_lt, n_le, n_eq, n_eqm, m_eqn, m_eqm, n_ltm, m_ltn, n_lem, m_len, n_add, n_sub, n_mul, n_rem, n_div, n_cl, if_true, if_false, if_pos, if_neg, Nat.reduceAdd, Nat.reduceSub, Nat.reduceMul, e1, e2, er, es]
      exact ⟨4, _, _, _, _, by omega, rfl, rfl, fun z => absurd z (by omega)⟩
    · simp (disch := omega) only [lit_nI, of_nI, bnd_eq, bd_s, gin_nI, gz_0, gz_1, gcp_nI, n_lt, n_le, n_eq, n_eqm, m_eqn, m_eqm, n_ltm, m_ltn, n_lem, m_len, n_add, n_sub, n_mul, n_rem, n_div, n_cl, if_true, if_false, if_pos, if_neg, Nat.reduceAdd, Nat.reduceSub, Nat.reduceMul, e1, e2, er, es]
      exact ⟨4, _, _, _, _, by omega, rfl, rfl, fun z => absurd z (by omega)⟩
    · simp (disch := omega) only [lit_nI, of_nI, bnd_eq, bd_s, gin_nI, gz_0, gz_1, gcp_nI, n_lt, n_le, n_eq, n_eqm, m_eqn, m_eqm, n_ltm, m_ltn, n_lem, m_len, n_add, n_sub, n_mul, n_rem, n_div, n_cl, if_true, if_false, if_pos, if_neg, Nat.reduceAdd, Nat.reduceSub, Nat.reduceMul, e1, e2, er, es]
      exact ⟨0, _, _, _, _, by omega, rfl, rfl, fun _ => same z.1 2 (by omega) (by omega)⟩
  · simp (disch := omega) only [lit_nI, of_nI, bnd_eq, bd_s, gin_nI, gz_0, gz_1, gcp_nI, n_lt, n_le, n_eq, n_eqm, m_eqn, m_eqm, n_ltm, m_ltn, n_lem, m_len, n_add, n_sub, n_mul, n_rem, n_div, n_cl, if_true, if_false, if_pos, if_neg, Nat.reduceAdd, Nat.reduceSub, Nat.reduceMul, e1, e2]
    exact ⟨3, _, _, _, _, by omega, rfl, rfl, fun z => absurd z (by omega)⟩
  · by_cases z : s = 0
    · simp (disch := omega) only [lit_nI, of_nI, bnd_eq, bd_s, gin_nI, gz_0, gz_1, gcp_nI, n_lt, n_le, n_eq, n_eqm, m_eqn, m_eqm, n_ltm, m_ltn, n_lem, m_len, n_add, n_sub, n_mul, n_rem, n_div, n_cl, if_true, if_false, if_pos, if_neg, Nat.reduceAdd, Nat.reduceSub, Nat.reduceMul, e1, e2, er, es, em, ef, hk']
      exact ⟨0, _, _, _, _, by omega, rfl, rfl, fun _ => fresh (nI 1) (nI i) (nI i) 1 (by omega) rfl (away z) (fun _ => Or.inr ⟨i, hi, rfl, rfl⟩)⟩
    · simp (disch := omega) only [lit_nI, of_nI, bnd_eq, bd_s, gin_nI, gz_0, gz_1, gcp_nI, n_lt, n_le, n_eq, n_eqm, m_eqn, m_eqm, n_ltm, m_ltn, n_lem, m_len, n_add, n_sub, n_mul, n_rem, n_div, n_cl, if_true, if_false, if_pos, if_neg, Nat.reduceAdd, Nat.reduceSub, Nat.reduceMul, e1, e2]
      exact ⟨4, _, _, _, _, by omega, rfl, rfl, fun z => absurd z (by omega)⟩
  · by_cases z : s = 0
    · simp (disch := omega) only [lit_nI, of_nI, bnd_eq, bd_s, gin_nI, gz_0, gz_1, gcp_nI, n_lt, n_le, n_eq, n_eqm, m_eqn, m_eqm, n_ltm, m_ltn, n_lem, m_len, n_add, n_sub, n_mul, n_rem, n_div, n_cl, if_true, if_false, if_pos, if_neg, Nat.reduceAdd, Nat.reduceSub, Nat.reduceMul, e1, e2, er, es, em, ef, hk']
      exact ⟨0, _, _, _, _, by omega, rfl, rfl, fun _ => fresh (nI 3) (nI 8) (-nI 1) 3 (by omega) rfl (away z) (fun _ => Or.inl ⟨rfl, rfl⟩)⟩
    · simp (disch := omega) only [lit_nI, of_nI, bnd_eq, bd_s, gin_nI, gz_0, gz_1, gcp_nI, n_lt, n_le, n_eq, n_eqm, m_eqn, m_eqm, n_ltm, m_ltn, n_lem, m_len, n_add, n_sub, n_mul, n_rem, n_div, n_cl, if_true, if_false, if_pos, if_neg, Nat.reduceAdd, Nat.reduceSub, Nat.reduceMul, e1, e2]
      exact ⟨4, _, _, _, _, by omega, rfl, rfl, fun z => absurd z (by omega)⟩
  · simp (disch := omega) only [lit_nI, of_nI, bnd_eq, bd_s, gin_nI, gz_0, gz_1, gcp_nI, n_lt, n_le, n_eq, n_eqm, m_eqn, m_eqm, n_ltm, m_ltn, n_lem, m_len, n_add, n_sub, n_mul, n_rem, n_div, n_cl, if_true, if_false, if_pos, if_neg, Nat.reduceAdd, Nat.reduceSub, Nat.reduceMul, e1, e2, er, ee, em, hk']
    refine ⟨0, _, _, _, _, by omega, rfl, rfl, fun _ => ⟨?_, ?_⟩⟩
    · have m0 : (upd (upd (upd (upd M (8 + 4 * k) (nI 0)) (8 + 4 * k + 1) (-nI 9)) (8 + 4 * k + 2) (-nI 9)) (8 + 4 * k + 3) (-nI 9)) (8 + 4 * k) = nI 0 := by rw [upd_n (by omega), upd_n (by omega), upd_n (by omega), upd_s]
      refine hN.row hk18 (fun p p1 p2 => by rw [upd_n (by omega), upd_n (by omega), upd_n (by omega), upd_n (by omega)]) (fun p p1 p2 => by rw [upd_n (by omega), upd_n (by omega), upd_n (by omega), upd_n (by omega)]) ⟨by rw [m0, upd_n (by omega), upd_n (by omega), upd_n (by omega), upd_s], ⟨0, by omega, m0⟩, fun _ => m0, fun c c1 c2 => Or.inl ⟨m0, ?_⟩⟩
      rcases (show c = 1 ∨ c = 2 ∨ c = 3 by omega) with rfl | rfl | rfl
      · rw [upd_n (by omega), upd_n (by omega), upd_s]
      · rw [upd_n (by omega), upd_s]
      · rw [upd_s]
    · refine hK.set (k := k) (fun i i1 i2 => by rw [upd_n (by omega), upd_n (by omega), upd_n (by omega), upd_n (by omega)]) (fun i i1 => rfl) (fun i i1 => upd_n i1) (fun q => absurd ?_ q)
      rw [upd_n (by omega), upd_n (by omega), upd_n (by omega), upd_s]
  · simp (disch := omega) only [lit_nI, of_nI, bnd_eq, bd_s, gin_nI, gz_0, gz_1, gcp_nI, n_lt, n_le, n_eq, n_eqm, m_eqn, m_eqm, n_ltm, m_ltn, n_lem, m_len, n_add, n_sub, n_mul, n_rem, n_div, n_cl, if_true, if_false, if_pos, if_neg, Nat.reduceAdd, Nat.reduceSub, Nat.reduceMul, e1, e2]
    exact ⟨3, _, _, _, _, by omega, rfl, rfl, fun z => absurd z (by omega)⟩
