/-! columns, what is unfilled, what a row needs -/
theorem tab_ex {g : Nat → Nat → Nat} {t : Nat} : ∀ {B : Nat}, t < tc g B → ∃ i, i < B ∧ g i 2 = 2 ∧ tc g i = t
  | 0, h => absurd h (by rw [show tc g 0 = 0 from rfl]; omega)
  | B + 1, h => by
    rw [tc_succ] at h
    by_cases h1 : t < tc g B
    · obtain ⟨i, hi, h2, h3⟩ := tab_ex h1
      exact ⟨i, by omega, h2, h3⟩
    · by_cases h2 : g B 2 = 2
      · rw [if_pos h2] at h
        exact ⟨B, by omega, h2, by omega⟩
      · rw [if_neg h2] at h
        omega
theorem tab_un {g : Nat → Nat → Nat} {i j : Nat} (hi : g i 2 = 2) (hj : g j 2 = 2) (h : tc g i = tc g j) : i = j := by
  rcases Nat.lt_trichotomy i j with q | q | q
  · have := tc_mono g (i := i + 1) (j := j) (by omega)
    rw [tc_succ, if_pos hi] at this
    omega
  · exact q
  · have := tc_mono g (i := j + 1) (j := i) (by omega)
    rw [tc_succ, if_pos hj] at this
    omega
theorem f_columnsOf_l {B : Nat} {g : Nat → Nat → Nat} {ts bm : Int32} {td br : Nat → Int32} (h : TreeR B g ts td bm br) {t k : Nat} (hk : k < B) (hk2 : g k 2 = 2) (hkt : tc g k = t) : ∀ (n i : Nat), i ≤ k → k < i + n → fX6_columnsOf_l2 ts td (nI t) n (nI i) = some (nI (g k 3)) := by
  have hB := h.1
  have htk := tc_le g k
  intro n
  induction n with
  | zero => intro i h1 h3; omega
  | succ n ih =>
    intro i h1 h3
    have hf := f_field td (i := i) (f := 0) (by omega) (by omega)
    rw [Nat.add_zero, (h.2.2.2.2.2.2.1 i (by omega)).1] at hf
    have hg2 := (h.2.2.2.2.2.1 i (by omega)).2.2.2.2.1
    have hta := f_tablesAhead h (j := i) (by omega)
    rw [show min B i = i by omega] at hta
    have hti := tc_le g i
    rw [fX6_columnsOf_l2_s]
    unfold fX6_columnsOf_b2
    rw [h.2.1] at hta ⊢
    by_cases e : i = k
    · subst e
      have hc := f_field td (i := i) (f := 3) (by omega) (by omega)
      rw [(h.2.2.2.2.2.2.1 i (by omega)).2.2.2.2 hk2] at hc
      rw [hk2] at hf
      rw [hkt] at hta
      simp (disch := omega) only [lit_nI, of_nI, bnd_eq, bd_s, gin_nI, gz_0, gz_1, gcp_nI, n_lt, n_le, n_eq, n_eqm, m_eqn, m_eqm, n_ltm, m_ltn, n_lem, m_len, n_add, n_sub, n_mul, n_rem, n_div, n_cl, if_true, if_false, if_pos, if_neg, Nat.reduceAdd, Nat.reduceSub, Nat.reduceMul, hf, hta, hc]
    · have := ih (i + 1) (by omega) (by omega)
      rw [h.2.1] at this
      by_cases e3 : g i 2 = 2
      · have hne : tc g i ≠ t := fun q => e (tab_un e3 hk2 (by rw [q, hkt]))
        rw [e3] at hf
        simp (disch := omega) only [lit_nI, of_nI, bnd_eq, bd_s, gin_nI, gz_0, gz_1, gcp_nI, n_lt, n_le, n_eq, n_eqm, m_eqn, m_eqm, n_ltm, m_ltn, n_lem, m_len, n_add, n_sub, n_mul, n_rem, n_div, n_cl, if_true, if_false, if_pos, if_neg, Nat.reduceAdd, Nat.reduceSub, Nat.reduceMul, hf, hta]
        exact this
      · simp (disch := omega) only [lit_nI, of_nI, bnd_eq, bd_s, gin_nI, gz_0, gz_1, gcp_nI, n_lt, n_le, n_eq, n_eqm, m_eqn, m_eqm, n_ltm, m_ltn, n_lem, m_len, n_add, n_sub, n_mul, n_rem, n_div, n_cl, if_true, if_false, if_pos, if_neg, Nat.reduceAdd, Nat.reduceSub, Nat.reduceMul, hf]
        exact this
theorem f_columnsOf {B : Nat} {g : Nat → Nat → Nat} {ts bm : Int32} {td br : Nat → Int32} (h : TreeR B g ts td bm br) {t k : Nat} (hk : k < B) (hk2 : g k 2 = 2) (hkt : tc g k = t) : fX6_columnsOf ts td (nI t) = some (nI (g k 3)) := by
  have hB := h.1
  exact f_columnsOf_l h hk hk2 hkt 1000 0 (by omega) (by omega)
theorem f_columnsOf_no_l {B : Nat} {g : Nat → Nat → Nat} {ts bm : Int32} {td br : Nat → Int32} (h : TreeR B g ts td bm br) {t : Nat} (ht : tc g B ≤ t) (ht2 : t < 100) : ∀ (n i : Nat), i ≤ B → B < i + n → fX6_columnsOf_l2 ts td (nI t) n (nI i) = some (nI 0) := by
  have hB := h.1
  intro n
  induction n with
  | zero => intro i h1 h3; omega
  | succ n ih =>
    intro i h1 h3
    rw [fX6_columnsOf_l2_s]
    unfold fX6_columnsOf_b2
    by_cases e : i = B
    · subst e
      rw [h.2.1]
      simp (disch := omega) only [lit_nI, of_nI, bnd_eq, bd_s, gin_nI, gz_0, gz_1, gcp_nI, n_lt, n_le, n_eq, n_eqm, m_eqn, m_eqm, n_ltm, m_ltn, n_lem, m_len, n_add, n_sub, n_mul, n_rem, n_div, n_cl, if_true, if_false, if_pos, if_neg, Nat.reduceAdd, Nat.reduceSub, Nat.reduceMul]
    · have hf := f_field td (i := i) (f := 0) (by omega) (by omega)
      rw [Nat.add_zero, (h.2.2.2.2.2.2.1 i (by omega)).1] at hf
      have hg2 := (h.2.2.2.2.2.1 i (by omega)).2.2.2.2.1
      have hta := f_tablesAhead h (j := i) (by omega)
      rw [show min B i = i by omega] at hta
      have hti := tc_le g i
      have := ih (i + 1) (by omega) (by omega)
      rw [h.2.1] at hta this ⊢
      by_cases e3 : g i 2 = 2
      · have hm := tc_mono g (i := i + 1) (j := B) (by omega)
        rw [tc_succ, if_pos e3] at hm
        rw [e3] at hf
        simp (disch := omega) only [lit_nI, of_nI, bnd_eq, bd_s, gin_nI, gz_0, gz_1, gcp_nI, n_lt, n_le, n_eq, n_eqm, m_eqn, m_eqm, n_ltm, m_ltn, n_lem, m_len, n_add, n_sub, n_mul, n_rem, n_div, n_cl, if_true, if_false, if_pos, if_neg, Nat.reduceAdd, Nat.reduceSub, Nat.reduceMul, hf, hta]
        exact this
      · simp (disch := omega) only [lit_nI, of_nI, bnd_eq, bd_s, gin_nI, gz_0, gz_1, gcp_nI, n_lt, n_le, n_eq, n_eqm, m_eqn, m_eqm, n_ltm, m_ltn, n_lem, m_len, n_add, n_sub, n_mul, n_rem, n_div, n_cl, if_true, if_false, if_pos, if_neg, Nat.reduceAdd, Nat.reduceSub, Nat.reduceMul, hf]
        exact this
theorem f_columnsOf_no {B : Nat} {g : Nat → Nat → Nat} {ts bm : Int32} {td br : Nat → Int32} (h : TreeR B g ts td bm br) {t : Nat} (ht : tc g B ≤ t) (ht2 : t < 100) : fX6_columnsOf ts td (nI t) = some (nI 0) := by
  have hB := h.1
  exact f_columnsOf_no_l h ht ht2 1000 0 (by omega) (by omega)
theorem g_branchOfTable_l {B : Nat} {g : Nat → Nat → Nat} {ts bm : Int32} {td br : Nat → Int32} (h : TreeR B g ts td bm br) {t k : Nat} (hk : k < B) (hk2 : g k 2 = 2) (hkt : tc g k = t) : ∀ (n i : Nat) (x : Int32), i ≤ B → B < i + n → (k < i → x = nI k) → fX9_branchOfTable_l5 bm br (nI t) n x (nI i) = some (nI k) := by
  have hB := h.1
  have htk := tc_le g k
  intro n
  induction n with
  | zero => intro i x h1 h3; omega
  | succ n ih =>
    intro i x h1 h3 hx
    rw [fX9_branchOfTable_l5_s]
    unfold fX9_branchOfTable_b5
    by_cases e1 : B ≤ i
    · rw [h.2.2.1]
      simp (disch := omega) only [lit_nI, of_nI, bnd_eq, bd_s, gin_nI, gz_0, gz_1, gcp_nI, n_lt, n_le, n_eq, n_eqm, m_eqn, m_eqm, n_ltm, m_ltn, n_lem, m_len, n_add, n_sub, n_mul, n_rem, n_div, n_cl, if_true, if_false, if_pos, if_neg, Nat.reduceAdd, Nat.reduceSub, Nat.reduceMul]
      rw [hx (by omega)]
    · have hf := g_isTable h (i := i) (by omega)
      have hta := g_tableOf h (j := i) (by omega)
      have hti := tc_le g i
      have e4 : (bm ≤ nI i) ↔ False := by rw [h.2.2.1, n_le (by omega) (by omega)]; simp only [iff_false]; omega
      by_cases e : i = k
      · subst e
        have := ih (i + 1) (nI i) (by omega) (by omega) (fun _ => rfl)
        rw [if_pos hk2] at hf
        rw [hkt] at hta
        simp (disch := omega) only [lit_nI, of_nI, bnd_eq, bd_s, gin_nI, gz_0, gz_1, gcp_nI, n_lt, n_le, n_eq, n_eqm, m_eqn, m_eqm, n_ltm, m_ltn, n_lem, m_len, n_add, n_sub, n_mul, n_rem, n_div, n_cl, if_true, if_false, if_pos, if_neg, Nat.reduceAdd, Nat.reduceSub, Nat.reduceMul, hf, hta, e4]
        exact this
      · have := ih (i + 1) x (by omega) (by omega) (fun q => hx (by omega))
        by_cases e3 : g i 2 = 2
        · have hne : tc g i ≠ t := fun q => e (tab_un e3 hk2 (by rw [q, hkt]))
          rw [if_pos e3] at hf
          simp (disch := omega) only [lit_nI, of_nI, bnd_eq, bd_s, gin_nI, gz_0, gz_1, gcp_nI, n_lt, n_le, n_eq, n_eqm, m_eqn, m_eqm, n_ltm, m_ltn, n_lem, m_len, n_add, n_sub, n_mul, n_rem, n_div, n_cl, if_true, if_false, if_pos, if_neg, Nat.reduceAdd, Nat.reduceSub, Nat.reduceMul, hf, hta, e4]
          exact this
        · rw [if_neg e3] at hf
          simp (disch := omega) only [lit_nI, of_nI, bnd_eq, bd_s, gin_nI, gz_0, gz_1, gcp_nI, n_lt, n_le, n_eq, n_eqm, m_eqn, m_eqm, n_ltm, m_ltn, n_lem, m_len, n_add, n_sub, n_mul, n_rem, n_div, n_cl, if_true, if_false, if_pos, if_neg, Nat.reduceAdd, Nat.reduceSub, Nat.reduceMul, hf, e4]
          exact this
theorem g_columns {B : Nat} {g : Nat → Nat → Nat} {ts bm : Int32} {td br : Nat → Int32} (h : TreeR B g ts td bm br) {t k : Nat} (hk : k < B) (hk2 : g k 2 = 2) (hkt : tc g k = t) : fX9_columns bm br (nI t) = some (nI (g k 3)) := by
  have hB := h.1
  unfold fX9_columns fX9_branchOfTable
  have e := g_branchOfTable_l h hk hk2 hkt 1000 0 (-9 : Int32) (by omega) (by omega) (by omega)
  have e2 := g_part h hk (f := 3) (by omega)
  simp only [lit_nI] at e ⊢
  rw [e]
  simp only [bd_s]
  rw [e2]
  rfl
/-- how many of the first n columns of row k have no value: by the class, by the reference -/
def ufc (D : Nat → Int32) (k : Nat) : Nat → Nat
  | 0 => 0
  | n + 1 => ufc D k n + if D (12 + 4 * k + (n + 1)) = nI 0 then 1 else 0
def ufm (M : Nat → Int32) (k : Nat) : Nat → Nat
  | 0 => 0
  | n + 1 => ufm M k n + if M (8 + 4 * k + (n + 1)) < nI 0 then 1 else 0
theorem ufc_le (D : Nat → Int32) (k n : Nat) : ufc D k n ≤ n := by
  induction n with
  | zero => exact Nat.le_refl _
  | succ n ih => show ufc D k n + _ ≤ _; split <;> omega
theorem ufm_le (M : Nat → Int32) (k n : Nat) : ufm M k n ≤ n := by
  induction n with
  | zero => exact Nat.le_refl _
  | succ n ih => show ufm M k n + _ ≤ _; split <;> omega
theorem CellR.un {s d m : Int32} (h : CellR s d m) (hs : s ≠ nI 0) : (d = nI 0) ↔ m < nI 0 := by
  rcases h with ⟨h, -⟩ | ⟨-, h1, h2⟩ | ⟨-, h1, h2⟩
  · exact absurd h hs
  · exact ⟨fun _ => h2, fun _ => h1⟩
  · rw [h1]
    have n1 := up_ne h2
    refine ⟨fun z => absurd z n1, fun z => ?_⟩
    rw [le_T] at h2
    rw [lt_T] at z
    omega
theorem uf_eq {T : Nat} {D M : Nat → Int32} (h : NowR T D M) {k : Nat} (hk : k < 18) (hs : M (8 + 4 * k) ≠ nI 0) : ∀ n, n ≤ 3 → ufc D k n = ufm M k n
  | 0, _ => rfl
  | n + 1, hn => by
    have e := ((h.2.2.2.2.2.2.1 k hk).2.2.2 (n + 1) (by omega) hn).un hs
    show ufc D k n + _ = ufm M k n + _
    rw [uf_eq h hk hs n (by omega)]
    by_cases q : M (8 + 4 * k + (n + 1)) < nI 0
    · rw [if_pos q, if_pos (e.mpr q)]
    · rw [if_neg q, if_neg (fun z => q (e.mp z))]
theorem f_isLeaf (D : Nat → Int32) {t c r : Nat} (ht : t < 2) (hc : c ≤ 3) (h1 : 1 ≤ r) (h9 : r ≤ 9) : fX4_isLeaf D (nI t) (nI c) (nI r) = some (nI (if D (12 + 4 * (9 * t + r - 1) + c) = nI 0 then 0 else 1)) := by
  unfold fX4_isLeaf fX4_isLeaf_b19
  have e := f_cellPlace ht hc h1 h9
  have e2 := f_read D (p := 12 + 4 * (9 * t + r - 1) + c) (by omega)
  simp (disch := omega) only [lit_nI, of_nI, bnd_eq, bd_s, gin_nI, gz_0, gz_1, gcp_nI, n_lt, n_le, n_eq, n_eqm, m_eqn, m_eqm, n_ltm, m_ltn, n_lem, m_len, n_add, n_sub, n_mul, n_rem, n_div, n_cl, if_true, if_false, if_pos, if_neg, Nat.reduceAdd, Nat.reduceSub, Nat.reduceMul, e, e2]
  by_cases hc0 : c = 0
  · simp only [if_pos hc0]
    split <;> rfl
  · simp only [if_neg hc0]
    split <;> rfl
theorem f_unfilled_l (D : Nat → Int32) {t r K : Nat} (ht : t < 2) (h1 : 1 ≤ r) (h9 : r ≤ 9) (hK : K ≤ 3) : ∀ (n c : Nat), 1 ≤ c → c ≤ K + 1 → K + 1 < c + n → fX4_unfilled_l6 D (nI t) (nI r) (nI K) n (nI (ufc D (9 * t + r - 1) (c - 1))) (nI c) = some (nI (ufc D (9 * t + r - 1) K)) := by
  intro n
  induction n with
  | zero => intro c h2 h3 h4; omega
  | succ n ih =>
    intro c h2 h3 h4
    have hul := ufc_le D (9 * t + r - 1) (c - 1)
    rw [fX4_unfilled_l6_s]
    unfold fX4_unfilled_b6
    by_cases e : c = K + 1
    · subst e
      simp (disch := omega) only [lit_nI, of_nI, bnd_eq, bd_s, gin_nI, gz_0, gz_1, gcp_nI, n_lt, n_le, n_eq, n_eqm, m_eqn, m_eqm, n_ltm, m_ltn, n_lem, m_len, n_add, n_sub, n_mul, n_rem, n_div, n_cl, if_true, if_false, if_pos, if_neg, Nat.reduceAdd, Nat.reduceSub, Nat.reduceMul]
      rw [show K + 1 - 1 = K by omega]
    · have hf := f_isLeaf D ht (c := c) (by omega) h1 h9
      have := ih (c + 1) (by omega) (by omega) (by omega)
      rw [show c + 1 - 1 = (c - 1) + 1 by omega] at this
      have hu : ufc D (9 * t + r - 1) (c - 1 + 1) = ufc D (9 * t + r - 1) (c - 1) + if D (12 + 4 * (9 * t + r - 1) + (c - 1 + 1)) = nI 0 then 1 else 0 := rfl
      rw [hu, show c - 1 + 1 = c by omega] at this
      by_cases q : D (12 + 4 * (9 * t + r - 1) + c) = nI 0
      · rw [if_pos q] at hf this
        simp (disch := omega) only [lit_nI, of_nI, bnd_eq, bd_s, gin_nI, gz_0, gz_1, gcp_nI, n_lt, n_le, n_eq, n_eqm, m_eqn, m_eqm, n_ltm, m_ltn, n_lem, m_len, n_add, n_sub, n_mul, n_rem, n_div, n_cl, if_true, if_false, if_pos, if_neg, Nat.reduceAdd, Nat.reduceSub, Nat.reduceMul, hf]
        exact this
      · rw [if_neg q] at hf this
        simp (disch := omega) only [lit_nI, of_nI, bnd_eq, bd_s, gin_nI, gz_0, gz_1, gcp_nI, n_lt, n_le, n_eq, n_eqm, m_eqn, m_eqm, n_ltm, m_ltn, n_lem, m_len, n_add, n_sub, n_mul, n_rem, n_div, n_cl, if_true, if_false, if_pos, if_neg, Nat.reduceAdd, Nat.reduceSub, Nat.reduceMul, hf]
        exact this
theorem f_unfilled (D : Nat → Int32) {t r K : Nat} (ht : t < 2) (h1 : 1 ≤ r) (h9 : r ≤ 9) (hK : K ≤ 3) : fX4_unfilled D (nI t) (nI r) (nI K) = some (nI (ufc D (9 * t + r - 1) K)) :=
  f_unfilled_l D ht h1 h9 hK 1000 1 (by omega) (by omega) (by omega)
theorem g_missing_l {B : Nat} {g : Nat → Nat → Nat} {ts bm : Int32} {td br : Nat → Int32} (h : TreeR B g ts td bm br) (M : Nat → Int32) {t r k : Nat} (hk : k < B) (hk2 : g k 2 = 2) (hkt : tc g k = t) (ht : t < 2) (h1 : 1 ≤ r) (h9 : r ≤ 9) : ∀ (n c : Nat), 1 ≤ c → c ≤ g k 3 + 1 → g k 3 + 1 < c + n → fX9_missing_l5 bm br M (nI t) (nI r) n (nI (ufm M (9 * t + r - 1) (c - 1))) (nI c) = some (nI (ufm M (9 * t + r - 1) (g k 3))) := by
  have h3 : g k 3 ≤ 3 := ((h.2.2.2.2.2.1 k hk).2.2.2.2.2.2.2 hk2).2
  intro n
  induction n with
  | zero => intro c h2 h3 h4; omega
  | succ n ih =>
    intro c h2 h4 h5
    have hul := ufm_le M (9 * t + r - 1) (c - 1)
    have hc := g_columns h hk hk2 hkt
    rw [fX9_missing_l5_s]
    unfold fX9_missing_b5
    by_cases e : c = g k 3 + 1
    · subst e
      simp (disch := omega) only [lit_nI, of_nI, bnd_eq, bd_s, gin_nI, gz_0, gz_1, gcp_nI, n_lt, n_le, n_eq, n_eqm, m_eqn, m_eqm, n_ltm, m_ltn, n_lem, m_len, n_add, n_sub, n_mul, n_rem, n_div, n_cl, if_true, if_false, if_pos, if_neg, Nat.reduceAdd, Nat.reduceSub, Nat.reduceMul, hc]
      rw [show g k 3 + 1 - 1 = g k 3 by omega]
    · have hr := g_rowAt (t := t) (r := r) h1
      have := ih (c + 1) (by omega) (by omega) (by omega)
      rw [show c + 1 - 1 = (c - 1) + 1 by omega] at this
      have hu : ufm M (9 * t + r - 1) (c - 1 + 1) = ufm M (9 * t + r - 1) (c - 1) + if M (8 + 4 * (9 * t + r - 1) + (c - 1 + 1)) < nI 0 then 1 else 0 := rfl
      rw [hu, show c - 1 + 1 = c by omega] at this
      have ep : 8 + 36 * t + 4 * (r - 1) + c = 8 + 4 * (9 * t + r - 1) + c := by omega
      by_cases q : M (8 + 4 * (9 * t + r - 1) + c) < nI 0
      · rw [if_pos q] at this
        have q2 : ¬ nI 0 ≤ M (8 + 4 * (9 * t + r - 1) + c) := by
          rw [lt_T] at q; rw [le_T]; omega
        simp (disch := omega) only [lit_nI, of_nI, bnd_eq, bd_s, gin_nI, gz_0, gz_1, gcp_nI, n_lt, n_le, n_eq, n_eqm, m_eqn, m_eqm, n_ltm, m_ltn, n_lem, m_len, n_add, n_sub, n_mul, n_rem, n_div, n_cl, if_true, if_false, if_pos, if_neg, Nat.reduceAdd, Nat.reduceSub, Nat.reduceMul, hc, hr, ep]
        exact this
      · rw [if_neg q] at this
        have q2 : nI 0 ≤ M (8 + 4 * (9 * t + r - 1) + c) := by
          rw [lt_T] at q; rw [le_T]; omega
        simp (disch := omega) only [lit_nI, of_nI, bnd_eq, bd_s, gin_nI, gz_0, gz_1, gcp_nI, n_lt, n_le, n_eq, n_eqm, m_eqn, m_eqm, n_ltm, m_ltn, n_lem, m_len, n_add, n_sub, n_mul, n_rem, n_div, n_cl, if_true, if_false, if_pos, if_neg, Nat.reduceAdd, Nat.reduceSub, Nat.reduceMul, hc, hr, ep]
        exact this
theorem g_missing {B : Nat} {g : Nat → Nat → Nat} {ts bm : Int32} {td br : Nat → Int32} (h : TreeR B g ts td bm br) (M : Nat → Int32) {t r k : Nat} (hk : k < B) (hk2 : g k 2 = 2) (hkt : tc g k = t) (ht : t < 2) (h1 : 1 ≤ r) (h9 : r ≤ 9) : fX9_missing bm br M (nI t) (nI r) = some (nI (ufm M (9 * t + r - 1) (g k 3))) := by
  have h3 : g k 3 ≤ 3 := ((h.2.2.2.2.2.1 k hk).2.2.2.2.2.2.2 hk2).2
  exact g_missing_l h M hk hk2 hkt ht h1 h9 1000 1 (by omega) (by omega) (by omega)
theorem s_needs : S_needs Inv := by
  intro ctext_size ctext_at ctext_length ctext_token ctext_start ctext_number ctext_letters ctext_tokens ctext_starts ctext_numbers ctree_size ctree_data ctree_fresh cdraft_size cdraft_data cdraft_fresh cwanted_size cwanted_names cwanted_values cworker_makers cnow_data ctrial_data clisting_size clisting_names clisting_values clisting_kinds cpast_newest cpast_known cpast_states_data cpast_states_taken cimages_data cimages_taken mbranchMany mundos mletters mleaves mat mmark mnewMany mnewTables mitems mbranch mnow maside mpast mimages misKept mtext mnames mvalues mkinds mfresh mitem mmaker a1 a2 hI
  obtain ⟨hT, B, g, hTr, hN, hP, hG⟩ := id hI
  have hT2 : tc g B ≤ 2 := hTr.2.2.2.1
  unfold fX8_needs fX9_needs fX9_needsOf
  rcases isRow_both hTr a1 a2 with ⟨e1, e2⟩ | ⟨t, r, ht, h1, h9, rfl, rfl, e1, e2⟩
  · rw [e1, e2]
    exact ⟨-nI 1, -nI 1, rfl, rfl, rfl, hI⟩
  · rw [e1, e2]
    obtain ⟨k, hk, hk2, hkt⟩ := tab_ex ht
    have hc3 : g k 3 ≤ 3 := ((hTr.2.2.2.2.2.1 k hk).2.2.2.2.2.2.2 hk2).2
    have f1 := f_statusOf cnow_data (t := t) (r := r) (by omega) h1 h9
    have f2 := g_statusOf mnow (t := t) (r := r) (by omega) h1 h9
    obtain ⟨q1, ⟨s, hs, q2⟩, -, -⟩ := hN.2.2.2.2.2.2.1 (9 * t + r - 1) (by omega)
    rw [q1, q2] at f1
    rw [q2] at f2
    have c1 := f_columnsOf hTr hk hk2 hkt
    have c2 := g_columns hTr hk hk2 hkt
    have u1 := f_unfilled cnow_data (t := t) (r := r) (K := g k 3) (by omega) h1 h9 hc3
    have u2 := g_missing hTr mnow hk hk2 hkt (by omega) h1 h9
    simp (disch := omega) only [lit_nI, of_nI, bnd_eq, bd_s, gin_nI, gz_0, gz_1, gcp_nI, n_lt, n_le, n_eq, n_eqm, m_eqn, m_eqm, n_ltm, m_ltn, n_lem, m_len, n_add, n_sub, n_mul, n_rem, n_div, n_cl, if_true, if_false, if_pos, if_neg, Nat.reduceAdd, Nat.reduceSub, Nat.reduceMul, f1, f2, c1, c2]
    rcases (show s = 0 ∨ s = 1 ∨ s = 2 ∨ s = 3 by omega) with rfl | rfl | rfl | rfl
    · exact ⟨nI (1 + g k 3), nI (g k 3 + 1), by simp (disch := omega) only [lit_nI, of_nI, bnd_eq, bd_s, gin_nI, gz_0, gz_1, gcp_nI, n_lt, n_le, n_eq, n_eqm, m_eqn, m_eqm, n_ltm, m_ltn, n_lem, m_len, n_add, n_sub, n_mul, n_rem, n_div, n_cl, if_true, if_false, if_pos, if_neg, Nat.reduceAdd, Nat.reduceSub, Nat.reduceMul], by simp (disch := omega) only [lit_nI, of_nI, bnd_eq, bd_s, gin_nI, gz_0, gz_1, gcp_nI, n_lt, n_le, n_eq, n_eqm, m_eqn, m_eqm, n_ltm, m_ltn, n_lem, m_len, n_add, n_sub, n_mul, n_rem, n_div, n_cl, if_true, if_false, if_pos, if_neg, Nat.reduceAdd, Nat.reduceSub, Nat.reduceMul], by rw [Nat.add_comm], hI⟩
    · exact ⟨nI 0, nI 0, by simp (disch := omega) only [lit_nI, of_nI, bnd_eq, bd_s, gin_nI, gz_0, gz_1, gcp_nI, n_lt, n_le, n_eq, n_eqm, m_eqn, m_eqm, n_ltm, m_ltn, n_lem, m_len, n_add, n_sub, n_mul, n_rem, n_div, n_cl, if_true, if_false, if_pos, if_neg, Nat.reduceAdd, Nat.reduceSub, Nat.reduceMul], by simp (disch := omega) only [lit_nI, of_nI, bnd_eq, bd_s, gin_nI, gz_0, gz_1, gcp_nI, n_lt, n_le, n_eq, n_eqm, m_eqn, m_eqm, n_ltm, m_ltn, n_lem, m_len, n_add, n_sub, n_mul, n_rem, n_div, n_cl, if_true, if_false, if_pos, if_neg, Nat.reduceAdd, Nat.reduceSub, Nat.reduceMul], rfl, hI⟩
    · exact ⟨nI 1, nI 1, by simp (disch := omega) only [lit_nI, of_nI, bnd_eq, bd_s, gin_nI, gz_0, gz_1, gcp_nI, n_lt, n_le, n_eq, n_eqm, m_eqn, m_eqm, n_ltm, m_ltn, n_lem, m_len, n_add, n_sub, n_mul, n_rem, n_div, n_cl, if_true, if_false, if_pos, if_neg, Nat.reduceAdd, Nat.reduceSub, Nat.reduceMul], by simp (disch := omega) only [lit_nI, of_nI, bnd_eq, bd_s, gin_nI, gz_0, gz_1, gcp_nI, n_lt, n_le, n_eq, n_eqm, m_eqn, m_eqm, n_ltm, m_ltn, n_lem, m_len, n_add, n_sub, n_mul, n_rem, n_div, n_cl, if_true, if_false, if_pos, if_neg, Nat.reduceAdd, Nat.reduceSub, Nat.reduceMul], rfl, hI⟩
    · have hu := uf_eq hN (k := 9 * t + r - 1) (by omega) (by rw [q2]; exact fun z => absurd ((n_eq (by omega) (by omega)).mp z) (by omega)) (g k 3) hc3
      rw [hu] at u1
      exact ⟨nI (1 + ufm mnow (9 * t + r - 1) (g k 3)), nI (ufm mnow (9 * t + r - 1) (g k 3) + 1), by simp (disch := omega) only [lit_nI, of_nI, bnd_eq, bd_s, gin_nI, gz_0, gz_1, gcp_nI, n_lt, n_le, n_eq, n_eqm, m_eqn, m_eqm, n_ltm, m_ltn, n_lem, m_len, n_add, n_sub, n_mul, n_rem, n_div, n_cl, if_true, if_false, if_pos, if_neg, Nat.reduceAdd, Nat.reduceSub, Nat.reduceMul, u1], by simp (disch := omega) only [lit_nI, of_nI, bnd_eq, bd_s, gin_nI, gz_0, gz_1, gcp_nI, n_lt, n_le, n_eq, n_eqm, m_eqn, m_eqm, n_ltm, m_ltn, n_lem, m_len, n_add, n_sub, n_mul, n_rem, n_div, n_cl, if_true, if_false, if_pos, if_neg, Nat.reduceAdd, Nat.reduceSub, Nat.reduceMul, u2], by rw [Nat.add_comm], hI⟩
