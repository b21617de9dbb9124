/-! the listing of the leaves, by both -/
def nmd (e : Nat → Nat) : Nat := nm (e 0) (e 1) (e 2) (e 3)
def dOk (e : Nat → Nat) : Prop := 2 ≤ e 0 ∧ e 0 ≤ 10 ∧ 2 ≤ e 1 ∧ e 1 ≤ 10 ∧ 1 ≤ e 2 ∧ e 2 ≤ 4 ∧ e 3 ≤ 10
def LR (n : Nat) (d : Nat → Nat → Nat) (cn cv ck mn mv mk : Nat → Int32) : Prop :=
  n ≤ 80 ∧ (∀ k, k < n → dOk (d k) ∧ cn k = nI (nmd (d k)) ∧ (∀ i, i < 4 → mn (4 * k + i) = sh (d k i)) ∧ cv k = mv k ∧ ck k = mk k) ∧ ∀ i j, i < j → j < n → nmd (d i) < nmd (d j)
def up4 (f : Nat → Int32) (n : Nat) (a b c d : Int32) : Nat → Int32 := upd (upd (upd (upd f (4 * n) a) (4 * n + 1) b) (4 * n + 2) c) (4 * n + 3) d
theorem LR.add {n : Nat} {d : Nat → Nat → Nat} {cn cv ck mn mv mk : Nat → Int32} (h : LR n d cn cv ck mn mv mk) (hn : n < 80) {e : Nat → Nat} (he : dOk e) (hl : ∀ i, i < n → nmd (d i) < nmd e) (v kd : Int32) :
    LR (n + 1) (fun k => if k = n then e else d k) (upd cn n (nI (nmd e))) (upd cv n v) (upd ck n kd) (up4 mn n (sh (e 0)) (sh (e 1)) (sh (e 2)) (sh (e 3))) (upd mv n v) (upd mk n kd) := by
  obtain ⟨h1, h2, h3⟩ := h
  refine ⟨by omega, fun k hk => ?_, fun i j hij hj => ?_⟩
  · by_cases q : k = n
    · subst q
      simp only [if_true, upd_s]
      refine ⟨he, trivial, fun i hi => ?_, trivial, trivial⟩
      unfold up4
      rcases (show i = 0 ∨ i = 1 ∨ i = 2 ∨ i = 3 by omega) with rfl | rfl | rfl | rfl
      · rw [upd_n (by omega), upd_n (by omega), upd_n (by omega), Nat.add_zero, upd_s]
      · rw [upd_n (by omega), upd_n (by omega), upd_s]
      · rw [upd_n (by omega), upd_s]
      · rw [upd_s]
    · obtain ⟨a1, a2, a3, a4, a5⟩ := h2 k (by omega)
      simp only [if_neg q]
      rw [upd_n q, upd_n q, upd_n q, upd_n q, upd_n q]
      refine ⟨a1, a2, fun i hi => ?_, a4, a5⟩
      unfold up4
      rw [upd_n (by omega), upd_n (by omega), upd_n (by omega), upd_n (by omega)]
      exact a3 i hi
  · by_cases q : j = n
    · subst q
      simp only [if_true, if_neg (show ¬ i = j by omega)]
      exact hl i hij
    · simp only [if_neg q, if_neg (show ¬ i = n by omega)]
      exact h3 i j hij (by omega)
theorem f_add {n : Nat} (hn : n < 80) (a v kd : Int32) (cn cv ck : Nat → Int32) : fX0_add a v kd (nI n) cn cv ck = some (nI (n + 1), upd cn n a, upd cv n v, upd ck n kd) := by
  unfold fX0_add
  simp (disch := omega) only [lit_nI, of_nI, bnd_eq, bd_s, gin_nI, gz_0, gz_1, gcp_nI, n_lt, n_le, n_eq, n_eqm, m_eqn, m_eqm, n_ltm, m_ltn, n_lem, m_len, n_add, n_sub, n_mul, n_rem, n_div, n_cl, if_true, if_false, if_pos, if_neg, Nat.reduceAdd, Nat.reduceSub, Nat.reduceMul]
theorem g_laysLeaf {B : Nat} {g : Nat → Nat → Nat} {ts bm : Int32} {td br : Nat → Int32} (h : TreeR B g ts td bm br) {i n : Nat} (hi : i < B) (hn : n < 80) (x2 x3 v kd : Int32) (mn mv mk : Nat → Int32) : fX9_laysLeaf br (nI i) x2 x3 v kd (nI n) mn mv mk = some (nI (n + 1), up4 mn n (sh (g i 0 + 1)) (sh (g i 1 + 1)) x2 x3, upd mv n v, upd mk n kd) := by
  unfold fX9_laysLeaf up4
  have p0 := g_part h hi (f := 0) (by omega)
  have p1 := g_part h hi (f := 1) (by omega)
  have s0 : sh (g i 0 + 1) = nI (g i 0) := sh_pos (by omega)
  have s1 : sh (g i 1 + 1) = nI (g i 1) := sh_pos (by omega)
  simp (disch := omega) only [lit_nI, of_nI, bnd_eq, bd_s, gin_nI, gz_0, gz_1, gcp_nI, n_lt, n_le, n_eq, n_eqm, m_eqn, m_eqm, n_ltm, m_ltn, n_lem, m_len, n_add, n_sub, n_mul, n_rem, n_div, n_cl, if_true, if_false, if_pos, if_neg, Nat.reduceAdd, Nat.reduceSub, Nat.reduceMul, p0, p1, s0, s1]
theorem f_behind {A B C E : Nat} (hA : A ≤ 10) (hB : B ≤ 10) (hC : C ≤ 10) (hE : E ≤ 10) : fX0_behind (nI (A * 4096 + B * 256)) (sh C) (sh E) = some (nI (nm A B C E)) := by
  have e0 : A * 4096 + B * 256 = nm A B 0 0 := by unfold nm; omega
  obtain ⟨d0, d1, -, -⟩ := dg_nm (A := A) (B := B) (C := 0) (E := 0) (by omega) (by omega) (by omega) (by omega)
  have n0 := f_numberOf (x := nm A B 0 0) (i := 0) (nm_lt (by omega) (by omega) (by omega) (by omega)) (by omega)
  have n1 := f_numberOf (x := nm A B 0 0) (i := 1) (nm_lt (by omega) (by omega) (by omega) (by omega)) (by omega)
  rw [d0] at n0
  rw [d1] at n1
  have hn := f_nameOf (sh_1 A) (sh_1 B) (sh_1 C) (sh_1 E) (by omega) (by omega) (by omega) (by omega)
  unfold fX0_behind
  rw [e0]
  simp only [lit_nI]
  rw [n0, bd_s, n1, bd_s, hn]
  rfl
theorem f_cell (D : Nat → Int32) {t c r : Nat} (ht : t < 2) (hc : c ≤ 3) (h1 : 1 ≤ r) (h9 : r ≤ 9) : fX4_cell D (nI t) (nI c) (nI r) = some (D (12 + 4 * (9 * t + r - 1) + c) - nI 1) := by
  unfold fX4_cell
  have e := f_cellPlace ht hc h1 h9
  have e2 := f_read D (p := 12 + 4 * (9 * t + r - 1) + c) (by omega)
  simp (disch := omega) only [lit_nI, of_nI, bnd_eq, bd_s, gin_nI, gz_0, gz_1, gcp_nI, n_lt, n_le, n_eq, n_eqm, m_eqn, m_eqm, n_ltm, m_ltn, n_lem, m_len, n_add, n_sub, n_mul, n_rem, n_div, n_cl, if_true, if_false, if_pos, if_neg, Nat.reduceAdd, Nat.reduceSub, Nat.reduceMul, e, e2]
/-- a cell is a leaf, by both, with one value -/
theorem leaf_cell {T : Nat} {D M : Nat → Int32} (h : NowR T D M) {k c : Nat} (hk : k < 18) (hc : c ≤ 3) : (D (12 + 4 * k + c) = nI 0 ∧ (M (8 + 4 * k) = nI 0 ∨ (M (8 + 4 * k) ≠ nI 0 ∧ M (8 + 4 * k + c) < nI 0))) ∨ (D (12 + 4 * k + c) ≠ nI 0 ∧ M (8 + 4 * k) ≠ nI 0 ∧ ¬ M (8 + 4 * k + c) < nI 0 ∧ (c = 0 → D (12 + 4 * k) = M (8 + 4 * k + c)) ∧ (c ≠ 0 → D (12 + 4 * k + c) - nI 1 = M (8 + 4 * k + c))) := by
  obtain ⟨a1, ⟨s, hs, a2⟩, -, a4⟩ := h.2.2.2.2.2.2.1 k hk
  by_cases q : c = 0
  · subst q
    rw [Nat.add_zero, Nat.add_zero, a1, a2]
    by_cases q2 : s = 0
    · left
      subst q2
      exact ⟨rfl, Or.inl rfl⟩
    · right
      have q3 : nI s ≠ nI 0 := by rw [Ne, n_eq (by omega) (by omega)]; exact q2
      exact ⟨q3, q3, nI_pos (by omega), fun _ => rfl, fun z => absurd rfl z⟩
  · rcases a4 c (by omega) hc with ⟨b1, b2⟩ | ⟨b1, b2, b3⟩ | ⟨b1, b2, b3⟩
    · exact Or.inl ⟨b2, Or.inl b1⟩
    · exact Or.inl ⟨b2, Or.inr ⟨b1, b3⟩⟩
    · right
      exact ⟨by rw [b2]; exact up_ne b3, b1, by rw [le_T] at b3; rw [lt_T]; omega, fun z => absurd z q, fun _ => by rw [b2, Int32.add_sub_cancel]⟩
theorem rows_both {B : Nat} {g : Nat → Nat → Nat} {ts bm : Int32} {td br : Nat → Int32} (h : TreeR B g ts td bm br) {D M : Nat → Int32} (hN : NowR (tc g B) D M) {i c : Nat} (hi : i < B) (h2 : g i 2 = 2) (hc : c ≤ 3)
    (k3 : Int32 → (Nat → Int32) → (Nat → Int32) → (Nat → Int32) → Int32 → Option (Int32 × (Nat → Int32) × (Nat → Int32) × (Nat → Int32))) (k8 : Int32 → (Nat → Int32) → (Nat → Int32) → (Nat → Int32) → Int32 → Int32 → Option (Int32 × (Nat → Int32) × (Nat → Int32) × (Nat → Int32))) (x3 : Int32) :
    ∀ (n m r N : Nat) (d : Nat → Nat → Nat) (cn cv ck mn mv mk : Nat → Int32), LR N d cn cv ck mn mv mk → 1 ≤ r → r ≤ 10 → N + (10 - r) ≤ 80 → (∀ k, k < N → nmd (d k) < nm (g i 0 + 1) (g i 1 + 1) (c + 1) (r + 1)) → 10 - r < n → 10 - r < m →
    ∃ (N' : Nat) (d' : Nat → Nat → Nat) (cn' cv' ck' mn' mv' mk' : Nat → Int32), LR N' d' cn' cv' ck' mn' mv' mk' ∧ N' ≤ N + (10 - r) ∧ (∀ k, k < N' → nmd (d' k) < nm (g i 0 + 1) (g i 1 + 1) (c + 1) 11) ∧
      fX0_listCells_l18 D (nI ((g i 0 + 1) * 4096 + (g i 1 + 1) * 256)) (nI (tc g i)) x3 k3 n (nI N) cn cv ck (nI c) (nI r) = k3 (nI N') cn' cv' ck' (nI (c + 1)) ∧
      fX9_laysTable_l21 br M (nI i) k8 m (nI N) mn mv mk (nI (tc g i)) (nI c) (nI r) = k8 (nI N') mn' mv' mk' (nI (tc g i)) (nI (c + 1)) := by
  have hb := h.2.2.2.2.2.1 i hi
  have hB := h.1
  have ht : tc g i < 2 := by
    have := tc_mono g (i := i + 1) (j := B) (by omega)
    rw [tc_succ, if_pos h2] at this
    have := h.2.2.2.1
    omega
  have z10 : ¬ nI 1 = nI 0 := by rw [n_eq (by omega) (by omega)]; omega
  intro n
  induction n with
  | zero => intro m r N d cn cv ck mn mv mk h1 h3 h4 h5 h6 h7; omega
  | succ n ih =>
    intro m r N d cn cv ck mn mv mk h1 h3 h4 h5 h6 h7 h8
    obtain ⟨m, rfl⟩ : ∃ m', m = m' + 1 := ⟨m - 1, by omega⟩
    rw [fX0_listCells_l18_s, fX9_laysTable_l21_s]
    unfold fX0_listCells_b18 fX9_laysTable_b21 fX9_laysTable_b63 fX9_laysTable_b86
    simp only [lit_nI, bnd_eq]
    by_cases e : r = 10
    · have hq : nI 9 < nI r := by rw [n_lt (by omega) (by omega)]; omega
      refine ⟨N, d, cn, cv, ck, mn, mv, mk, h1, by omega, fun k hk => ?_, by rw [if_pos hq, n_add], by rw [if_pos hq, n_add]⟩
      have := h6 k hk
      rw [e] at this
      exact this
    · have hq : ¬ nI 9 < nI r := by rw [n_lt (by omega) (by omega)]; omega
      have f1 := f_isLeaf D (t := tc g i) (c := c) (r := r) ht hc h3 (by omega)
      have f2 := f_cell D (t := tc g i) (c := c) (r := r) ht hc h3 (by omega)
      have f3 := f_statusOf D (t := tc g i) (r := r) ht h3 (by omega)
      have g1 := g_rowAt (t := tc g i) (r := r) h3
      have g2 := g_statusOf M (t := tc g i) (r := r) ht h3 (by omega)
      have ep : 8 + 36 * tc g i + 4 * (r - 1) + c = 8 + 4 * (9 * tc g i + r - 1) + c := by omega
      rw [if_neg hq, if_neg hq, f1, bd_s, g1, bd_s, n_add (8 + 36 * tc g i + 4 * (r - 1)) c, ep, gin_nI (by omega) (by omega), n_cl (by omega), g2, bd_s]
      rcases leaf_cell hN (k := 9 * tc g i + r - 1) (c := c) (by omega) hc with ⟨q1, q2⟩ | ⟨q1, q2, q3, q4, q5⟩
      · obtain ⟨N', d', cn', cv', ck', mn', mv', mk', j1, j2, j3, j4, j5⟩ := ih m (r + 1) N d cn cv ck mn mv mk h1 (by omega) (by omega) (by omega) (fun k hk => Nat.lt_trans (h6 k hk) (by unfold nm; omega)) (by omega) (by omega)
        refine ⟨N', d', cn', cv', ck', mn', mv', mk', j1, by omega, j3, ?_, ?_⟩
        · rw [if_pos q1, if_pos rfl, n_add]
          exact j4
        · rcases q2 with q2 | ⟨q2, q3⟩
          · rw [if_pos q2, if_true, n_add]
            exact j5
          · rw [if_neg q2, if_pos q3, if_true, n_add]
            exact j5
      · have he : dOk (fun j => if j = 0 then g i 0 + 1 else if j = 1 then g i 1 + 1 else if j = 2 then c + 1 else r + 1) := by
          show 2 ≤ g i 0 + 1 ∧ g i 0 + 1 ≤ 10 ∧ 2 ≤ g i 1 + 1 ∧ g i 1 + 1 ≤ 10 ∧ 1 ≤ c + 1 ∧ c + 1 ≤ 4 ∧ r + 1 ≤ 10
          omega
        have hnm : nmd (fun j => if j = 0 then g i 0 + 1 else if j = 1 then g i 1 + 1 else if j = 2 then c + 1 else r + 1) = nm (g i 0 + 1) (g i 1 + 1) (c + 1) (r + 1) := rfl
        have hbh := f_behind (A := g i 0 + 1) (B := g i 1 + 1) (C := c + 1) (E := r + 1) (by omega) (by omega) (by omega) (by omega)
        rw [sh_pos (show 1 ≤ c + 1 by omega), sh_pos (show 1 ≤ r + 1 by omega), Nat.add_sub_cancel, Nat.add_sub_cancel] at hbh
        have fin : ∀ (kd : Int32) (rd : Option Int32), rd = some (M (8 + 4 * (9 * tc g i + r - 1) + c)) → ∃ (N' : Nat) (d' : Nat → Nat → Nat) (cn' cv' ck' mn' mv' mk' : Nat → Int32), LR N' d' cn' cv' ck' mn' mv' mk' ∧ N' ≤ N + (10 - r) ∧ (∀ k, k < N' → nmd (d' k) < nm (g i 0 + 1) (g i 1 + 1) (c + 1) 11) ∧
            (bd (fX0_behind (nI ((g i 0 + 1) * 4096 + (g i 1 + 1) * 256)) (nI c) (nI r)) fun r56 => bd rd fun r66 => bd (fX0_add r56 r66 kd (nI N) cn cv ck) fun r71 => fX0_listCells_l18 D (nI ((g i 0 + 1) * 4096 + (g i 1 + 1) * 256)) (nI (tc g i)) x3 k3 n r71.1 r71.2.1 r71.2.2.1 r71.2.2.2 (nI c) (nI r + nI 1)) = k3 (nI N') cn' cv' ck' (nI (c + 1)) ∧
            (bd (fX9_laysLeaf br (nI i) (nI c) (nI r) (M (8 + 4 * (9 * tc g i + r - 1) + c)) kd (nI N) mn mv mk) fun r86 => fX9_laysTable_l21 br M (nI i) k8 m r86.1 r86.2.1 r86.2.2.1 r86.2.2.2 (nI (tc g i)) (nI c) (nI r + nI 1)) = k8 (nI N') mn' mv' mk' (nI (tc g i)) (nI (c + 1)) := by
          intro kd rd hrd
          have hadd := h1.add (show N < 80 by omega) he (fun k hk => by rw [hnm]; exact h6 k hk) (M (8 + 4 * (9 * tc g i + r - 1) + c)) kd
          obtain ⟨N', d', cn', cv', ck', mn', mv', mk', j1, j2, j3, j4, j5⟩ := ih m (r + 1) (N + 1) _ _ _ _ _ _ _ hadd (by omega) (by omega) (by omega) (fun k hk => by
            by_cases z : k = N
            · simp only [if_pos z]
              rw [hnm]
              unfold nm
              omega
            · simp only [if_neg z]
              exact Nat.lt_trans (h6 k (by omega)) (by unfold nm; omega)) (by omega) (by omega)
          refine ⟨N', d', cn', cv', ck', mn', mv', mk', j1, by omega, j3, ?_, ?_⟩
          · rw [hbh, bd_s, hrd, bd_s, f_add (show N < 80 by omega), bd_s, n_add]
            exact j4
          · have hg := g_laysLeaf h hi (show N < 80 by omega) (nI c) (nI r) (M (8 + 4 * (9 * tc g i + r - 1) + c)) kd mn mv mk
            rw [hg, bd_s, n_add]
            have e2 : sh (c + 1) = nI c := by rw [sh_pos (by omega), Nat.add_sub_cancel]
            have e3 : sh (r + 1) = nI r := by rw [sh_pos (by omega), Nat.add_sub_cancel]
            have e4 : up4 mn N (sh (g i 0 + 1)) (sh (g i 1 + 1)) (nI c) (nI r) = up4 mn N (sh (g i 0 + 1)) (sh (g i 1 + 1)) (sh (c + 1)) (sh (r + 1)) := by rw [e2, e3]
            rw [e4]
            exact j5
        by_cases qc : c = 0
        · obtain ⟨N', d', cn', cv', ck', mn', mv', mk', j1, j2, j3, j4, j5⟩ := fin (nI 2) (fX4_statusOf D (nI (tc g i)) (nI r)) (by rw [f3]; exact congrArg some (q4 qc))
          refine ⟨N', d', cn', cv', ck', mn', mv', mk', j1, j2, j3, ?_, ?_⟩
          · rw [if_neg q1, if_neg z10, if_pos (by rw [qc])]
            exact j4
          · rw [if_neg q2, if_neg q3, if_neg z10, if_pos (by rw [qc])]
            exact j5
        · have qc2 : ¬ nI c = nI 0 := by rw [n_eq (by omega) (by omega)]; exact qc
          obtain ⟨N', d', cn', cv', ck', mn', mv', mk', j1, j2, j3, j4, j5⟩ := fin (nI 3) (fX4_cell D (nI (tc g i)) (nI c) (nI r)) (by rw [f2, q5 qc])
          refine ⟨N', d', cn', cv', ck', mn', mv', mk', j1, j2, j3, ?_, ?_⟩
          · rw [if_neg q1, if_neg z10, if_neg qc2]
            exact j4
          · rw [if_neg q2, if_neg q3, if_neg z10, if_neg qc2]
            exact j5
