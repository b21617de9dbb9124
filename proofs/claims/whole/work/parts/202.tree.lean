/-! the branches: fields, tables, rows -/
theorem tc_succ (g : Nat → Nat → Nat) (n : Nat) : tc g (n + 1) = tc g n + if g n 2 = 2 then 1 else 0 := rfl
theorem tc_mono (g : Nat → Nat → Nat) {i j : Nat} (h : i ≤ j) : tc g i ≤ tc g j := by
  induction j with
  | zero => rw [show i = 0 by omega]; exact Nat.le_refl _
  | succ j ih =>
    rcases Nat.lt_or_ge i (j + 1) with q | q
    · rw [tc_succ]
      have := ih (by omega)
      omega
    · rw [show i = j + 1 by omega]; exact Nat.le_refl _
theorem tc_le (g : Nat → Nat → Nat) (n : Nat) : tc g n ≤ n := by
  induction n with
  | zero => exact Nat.le_refl _
  | succ n ih => rw [tc_succ]; split <;> omega
theorem f_field (td : Nat → Int32) {i f : Nat} (hi : i < 8) (hf : f < 7) : fX6_field td (nI i) (nI f) = some (td (7 * i + f)) := by
  unfold fX6_field fX6_field_b25
  simp (disch := omega) only [lit_nI, of_nI, bnd_eq, bd_s, gin_nI, gz_0, gz_1, gcp_nI, n_lt, n_le, n_eq, n_eqm, m_eqn, m_eqm, n_ltm, m_ltn, n_lem, m_len, n_add, n_sub, n_mul, n_rem, n_div, n_cl, if_true, if_false, if_pos, if_neg, Nat.reduceAdd, Nat.reduceSub, Nat.reduceMul]
  rw [Nat.mul_comm]
theorem f_tablesAhead_l {B : Nat} {g : Nat → Nat → Nat} {ts bm : Int32} {td br : Nat → Int32} (h : TreeR B g ts td bm br) {j : Nat} (hj : j ≤ 100) : ∀ (n i : Nat), i ≤ B → i ≤ j → (B < i + n ∨ j < i + n) → fX6_tablesAhead_l4 ts td (nI j) n (nI (tc g i)) (nI i) = some (nI (tc g (min B j))) := by
  obtain ⟨hB, rfl, -, -, -, hk, ht, -⟩ := h
  intro n
  induction n with
  | zero => intro i h1 h2 h3; omega
  | succ n ih =>
    intro i h1 h2 h3
    have hti := tc_le g i
    rw [fX6_tablesAhead_l4_s]
    unfold fX6_tablesAhead_b4
    by_cases e1 : B ≤ i
    · simp (disch := omega) only [lit_nI, of_nI, bnd_eq, bd_s, gin_nI, gz_0, gz_1, gcp_nI, n_lt, n_le, n_eq, n_eqm, m_eqn, m_eqm, n_ltm, m_ltn, n_lem, m_len, n_add, n_sub, n_mul, n_rem, n_div, n_cl, if_true, if_false, if_pos, if_neg, Nat.reduceAdd, Nat.reduceSub, Nat.reduceMul]
      rw [show min B j = i by omega]
    · by_cases e2 : j ≤ i
      · simp (disch := omega) only [lit_nI, of_nI, bnd_eq, bd_s, gin_nI, gz_0, gz_1, gcp_nI, n_lt, n_le, n_eq, n_eqm, m_eqn, m_eqm, n_ltm, m_ltn, n_lem, m_len, n_add, n_sub, n_mul, n_rem, n_div, n_cl, if_true, if_false, if_pos, if_neg, Nat.reduceAdd, Nat.reduceSub, Nat.reduceMul]
        rw [show min B j = i by omega]
      · have hf := f_field td (i := i) (f := 0) (by omega) (by omega)
        rw [Nat.add_zero, (ht i (by omega)).1] at hf
        have hg2 := (hk i (by omega)).2.2.2.2.1
        simp (disch := omega) only [lit_nI, of_nI, bnd_eq, bd_s, gin_nI, gz_0, gz_1, gcp_nI, n_lt, n_le, n_eq, n_eqm, m_eqn, m_eqm, n_ltm, m_ltn, n_lem, m_len, n_add, n_sub, n_mul, n_rem, n_div, n_cl, if_true, if_false, if_pos, if_neg, Nat.reduceAdd, Nat.reduceSub, Nat.reduceMul, hf]
        by_cases e3 : g i 2 = 2
        · have := ih (i + 1) (by omega) (by omega) (by omega)
          rw [tc_succ, if_pos e3] at this
          simp (disch := omega) only [lit_nI, of_nI, bnd_eq, bd_s, gin_nI, gz_0, gz_1, gcp_nI, n_lt, n_le, n_eq, n_eqm, m_eqn, m_eqm, n_ltm, m_ltn, n_lem, m_len, n_add, n_sub, n_mul, n_rem, n_div, n_cl, if_true, if_false, if_pos, if_neg, Nat.reduceAdd, Nat.reduceSub, Nat.reduceMul]
          exact this
        · have := ih (i + 1) (by omega) (by omega) (by omega)
          rw [tc_succ, if_neg e3] at this
          simp (disch := omega) only [lit_nI, of_nI, bnd_eq, bd_s, gin_nI, gz_0, gz_1, gcp_nI, n_lt, n_le, n_eq, n_eqm, m_eqn, m_eqm, n_ltm, m_ltn, n_lem, m_len, n_add, n_sub, n_mul, n_rem, n_div, n_cl, if_true, if_false, if_pos, if_neg, Nat.reduceAdd, Nat.reduceSub, Nat.reduceMul]
          exact this
theorem f_tablesAhead {B : Nat} {g : Nat → Nat → Nat} {ts bm : Int32} {td br : Nat → Int32} (h : TreeR B g ts td bm br) {j : Nat} (hj : j ≤ 100) : fX6_tablesAhead ts td (nI j) = some (nI (tc g (min B j))) := by
  have hB := h.1
  exact f_tablesAhead_l h hj 1000 0 (by omega) (by omega) (by omega)
theorem f_tables {B : Nat} {g : Nat → Nat → Nat} {ts bm : Int32} {td br : Nat → Int32} (h : TreeR B g ts td bm br) : fX6_tables ts td = some (nI (tc g B)) := by
  have hB := h.1
  unfold fX6_tables
  have e := f_tablesAhead h (j := B) (by omega)
  rw [Nat.min_self] at e
  rw [← h.2.1] at e
  rw [e]
  rfl
theorem g_part {B : Nat} {g : Nat → Nat → Nat} {ts bm : Int32} {td br : Nat → Int32} (h : TreeR B g ts td bm br) {i f : Nat} (hi : i < B) (hf : f < 5) : fX9_part br (nI i) (nI f) = some (nI (g i f)) := by
  obtain ⟨hB, -, -, -, hb, -⟩ := h
  unfold fX9_part
  simp (disch := omega) only [lit_nI, of_nI, bnd_eq, bd_s, gin_nI, gz_0, gz_1, gcp_nI, n_lt, n_le, n_eq, n_eqm, m_eqn, m_eqm, n_ltm, m_ltn, n_lem, m_len, n_add, n_sub, n_mul, n_rem, n_div, n_cl, if_true, if_false, if_pos, if_neg, Nat.reduceAdd, Nat.reduceSub, Nat.reduceMul]
  rw [hb i hi f hf]
theorem g_isTable {B : Nat} {g : Nat → Nat → Nat} {ts bm : Int32} {td br : Nat → Int32} (h : TreeR B g ts td bm br) {i : Nat} (hi : i < B) : fX9_isTable br (nI i) = some (nI (if g i 2 = 2 then 1 else 0)) := by
  have hp := g_part h hi (f := 2) (by omega)
  have hg2 := (h.2.2.2.2.2.1 i hi).2.2.2.2.1
  unfold fX9_isTable
  simp (disch := omega) only [lit_nI, of_nI, bnd_eq, bd_s, gin_nI, gz_0, gz_1, gcp_nI, n_lt, n_le, n_eq, n_eqm, m_eqn, m_eqm, n_ltm, m_ltn, n_lem, m_len, n_add, n_sub, n_mul, n_rem, n_div, n_cl, if_true, if_false, if_pos, if_neg, Nat.reduceAdd, Nat.reduceSub, Nat.reduceMul, hp]
  by_cases e : g i 2 = 2
  · rw [if_pos e, if_pos e]
  · rw [if_neg e, if_neg e]
theorem g_tables_l {B : Nat} {g : Nat → Nat → Nat} {ts bm : Int32} {td br : Nat → Int32} (h : TreeR B g ts td bm br) : ∀ (n i : Nat), i ≤ B → B < i + n → fX9_tables_l4 bm br n (nI (tc g i)) (nI i) = some (nI (tc g B)) := by
  have hB := h.1
  intro n
  induction n with
  | zero => intro i h1 h3; omega
  | succ n ih =>
    intro i h1 h3
    have hti := tc_le g i
    rw [fX9_tables_l4_s]
    unfold fX9_tables_b4
    rw [h.2.2.1]
    by_cases e1 : B ≤ i
    · simp (disch := omega) only [lit_nI, of_nI, bnd_eq, bd_s, gin_nI, gz_0, gz_1, gcp_nI, n_lt, n_le, n_eq, n_eqm, m_eqn, m_eqm, n_ltm, m_ltn, n_lem, m_len, n_add, n_sub, n_mul, n_rem, n_div, n_cl, if_true, if_false, if_pos, if_neg, Nat.reduceAdd, Nat.reduceSub, Nat.reduceMul]
      rw [show B = i by omega]
    · have hf := g_isTable h (i := i) (by omega)
      have := ih (i + 1) (by omega) (by omega)
      rw [tc_succ, h.2.2.1] at this
      by_cases e3 : g i 2 = 2
      · rw [if_pos e3] at this hf
        simp (disch := omega) only [lit_nI, of_nI, bnd_eq, bd_s, gin_nI, gz_0, gz_1, gcp_nI, n_lt, n_le, n_eq, n_eqm, m_eqn, m_eqm, n_ltm, m_ltn, n_lem, m_len, n_add, n_sub, n_mul, n_rem, n_div, n_cl, if_true, if_false, if_pos, if_neg, Nat.reduceAdd, Nat.reduceSub, Nat.reduceMul, hf]
        exact this
      · rw [if_neg e3] at this hf
        simp (disch := omega) only [lit_nI, of_nI, bnd_eq, bd_s, gin_nI, gz_0, gz_1, gcp_nI, n_lt, n_le, n_eq, n_eqm, m_eqn, m_eqm, n_ltm, m_ltn, n_lem, m_len, n_add, n_sub, n_mul, n_rem, n_div, n_cl, if_true, if_false, if_pos, if_neg, Nat.reduceAdd, Nat.reduceSub, Nat.reduceMul, hf]
        exact this
theorem g_tables {B : Nat} {g : Nat → Nat → Nat} {ts bm : Int32} {td br : Nat → Int32} (h : TreeR B g ts td bm br) : fX9_tables bm br = some (nI (tc g B)) := by
  have hB := h.1
  exact g_tables_l h 1000 0 (by omega) (by omega)
theorem g_tableOf_l {B : Nat} {g : Nat → Nat → Nat} {ts bm : Int32} {td br : Nat → Int32} (h : TreeR B g ts td bm br) {j : Nat} (hj : j ≤ B) : ∀ (n i : Nat), i ≤ j → j < i + n → fX9_tableOf_l4 br (nI j) n (nI (tc g i)) (nI i) = some (nI (tc g j)) := by
  have hB := h.1
  intro n
  induction n with
  | zero => intro i h1 h3; omega
  | succ n ih =>
    intro i h1 h3
    have hti := tc_le g i
    rw [fX9_tableOf_l4_s]
    unfold fX9_tableOf_b4
    by_cases e1 : j ≤ i
    · simp (disch := omega) only [lit_nI, of_nI, bnd_eq, bd_s, gin_nI, gz_0, gz_1, gcp_nI, n_lt, n_le, n_eq, n_eqm, m_eqn, m_eqm, n_ltm, m_ltn, n_lem, m_len, n_add, n_sub, n_mul, n_rem, n_div, n_cl, if_true, if_false, if_pos, if_neg, Nat.reduceAdd, Nat.reduceSub, Nat.reduceMul]
      rw [show j = i by omega]
    · have hf := g_isTable h (i := i) (by omega)
      have := ih (i + 1) (by omega) (by omega)
      rw [tc_succ] at this
      by_cases e3 : g i 2 = 2
      · rw [if_pos e3] at this hf
        simp (disch := omega) only [lit_nI, of_nI, bnd_eq, bd_s, gin_nI, gz_0, gz_1, gcp_nI, n_lt, n_le, n_eq, n_eqm, m_eqn, m_eqm, n_ltm, m_ltn, n_lem, m_len, n_add, n_sub, n_mul, n_rem, n_div, n_cl, if_true, if_false, if_pos, if_neg, Nat.reduceAdd, Nat.reduceSub, Nat.reduceMul, hf]
        exact this
      · rw [if_neg e3] at this hf
        simp (disch := omega) only [lit_nI, of_nI, bnd_eq, bd_s, gin_nI, gz_0, gz_1, gcp_nI, n_lt, n_le, n_eq, n_eqm, m_eqn, m_eqm, n_ltm, m_ltn, n_lem, m_len, n_add, n_sub, n_mul, n_rem, n_div, n_cl, if_true, if_false, if_pos, if_neg, Nat.reduceAdd, Nat.reduceSub, Nat.reduceMul, hf]
        exact this
theorem g_tableOf {B : Nat} {g : Nat → Nat → Nat} {ts bm : Int32} {td br : Nat → Int32} (h : TreeR B g ts td bm br) {j : Nat} (hj : j ≤ B) : fX9_tableOf br (nI j) = some (nI (tc g j)) := by
  have hB := h.1
  exact g_tableOf_l h hj 1000 0 (by omega) (by omega)
/-- a row of a table, as both test it -/
theorem isRow_both {B : Nat} {g : Nat → Nat → Nat} {ts bm : Int32} {td br : Nat → Int32} (h : TreeR B g ts td bm br) (x y : Int32) :
    (fX8_isRow ts td x y = some (nI 0) ∧ fX9_isRow bm br x y = some (nI 0)) ∨ ∃ t r : Nat, t < tc g B ∧ 1 ≤ r ∧ r ≤ 9 ∧ x = nI t ∧ y = nI r ∧ fX8_isRow ts td x y = some (nI 1) ∧ fX9_isRow bm br x y = some (nI 1) := by
  have hT : tc g B ≤ 2 := h.2.2.2.1
  unfold fX8_isRow fX9_isRow fX9_within
  rw [f_tables h, g_tables h]
  simp only [lit_nI, bd_s]
  have e1 : ∀ z : Int32, nI (tc g B) ≤ z → nI (tc g B) - nI 1 < z := by
    intro z hz
    rw [le_T, nI_T (by omega)] at hz
    rw [lt_T, pk_sub_toInt (by omega) (by omega)]
    omega
  rcases x_cases x (tc g B) (by omega) with hx | hx | ⟨t, ht, rfl⟩
  · left
    constructor
    · rw [if_pos hx]
    · rw [if_pos hx]; rfl
  · left
    have q0 : ¬ x < nI 0 := by rw [le_T, nI_T (by omega)] at hx; rw [lt_T, nI_T (by omega)]; omega
    constructor
    · rw [if_neg q0, if_pos hx]
    · rw [if_neg q0, if_pos (e1 x hx)]; rfl
  · have q1 : ¬ nI (tc g B) - nI 1 < nI t := by
      rw [lt_T, pk_sub_toInt (by omega) (by omega), nI_T (by omega)]; omega
    have q2 : ¬ nI t < nI 0 := nI_pos (by omega)
    have q3 : ¬ nI (tc g B) ≤ nI t := by rw [n_le (by omega) (by omega)]; omega
    rw [if_neg q2, if_neg q3, if_neg q2, if_neg q1]
    simp only [bd_s]
    have q9 : ¬ nI 1 = nI 0 := by rw [n_eq (by omega) (by omega)]; omega
    rw [if_neg q9]
    rcases x_cases y 10 (by omega) with hy | hy | ⟨r, hr, rfl⟩
    · left
      have q4 := (neg_ff hy (k := 1) (by omega)).1
      constructor
      · rw [if_pos (q4.mpr trivial)]
      · rw [if_pos (q4.mpr trivial)]; rfl
    · left
      have q4 := big_ff hy (by omega) (k := 1) (by omega)
      have q5 := big_ff hy (by omega) (k := 9) (by omega)
      constructor
      · simp only [q4.1, q5.2.2.1, if_true, if_false]
      · simp only [q4.1, q5.2.2.1, if_true, if_false, bd_s]
    · by_cases hr0 : r = 0
      · left
        subst hr0
        constructor <;> simp (disch := omega) only [lit_nI, of_nI, bnd_eq, bd_s, gin_nI, gz_0, gz_1, gcp_nI, n_lt, n_le, n_eq, n_eqm, m_eqn, m_eqm, n_ltm, m_ltn, n_lem, m_len, n_add, n_sub, n_mul, n_rem, n_div, n_cl, if_true, if_false, if_pos, if_neg, Nat.reduceAdd, Nat.reduceSub, Nat.reduceMul]
      · right
        refine ⟨t, r, ht, by omega, by omega, rfl, rfl, ?_, ?_⟩
        · simp (disch := omega) only [lit_nI, of_nI, bnd_eq, bd_s, gin_nI, gz_0, gz_1, gcp_nI, n_lt, n_le, n_eq, n_eqm, m_eqn, m_eqm, n_ltm, m_ltn, n_lem, m_len, n_add, n_sub, n_mul, n_rem, n_div, n_cl, if_true, if_false, if_pos, if_neg, Nat.reduceAdd, Nat.reduceSub, Nat.reduceMul]
        · simp (disch := omega) only [lit_nI, of_nI, bnd_eq, bd_s, gin_nI, gz_0, gz_1, gcp_nI, n_lt, n_le, n_eq, n_eqm, m_eqn, m_eqm, n_ltm, m_ltn, n_lem, m_len, n_add, n_sub, n_mul, n_rem, n_div, n_cl, if_true, if_false, if_pos, if_neg, Nat.reduceAdd, Nat.reduceSub, Nat.reduceMul]
theorem f_read (D : Nat → Int32) {p : Nat} (h : p < 124) : fX4_read D (nI p) = some (D p) := by
  unfold fX4_read
  simp (disch := omega) only [lit_nI, of_nI, bnd_eq, bd_s, gin_nI, gz_0, gz_1, gcp_nI, n_lt, n_le, n_eq, n_eqm, m_eqn, m_eqm, n_ltm, m_ltn, n_lem, m_len, n_add, n_sub, n_mul, n_rem, n_div, n_cl, if_true, if_false, if_pos, if_neg, Nat.reduceAdd, Nat.reduceSub, Nat.reduceMul]
theorem f_write (D : Nat → Int32) {p : Nat} (v : Int32) (h : p < 124) : fX4_write (nI p) v D = some (upd D p v) := by
  unfold fX4_write
  simp (disch := omega) only [lit_nI, of_nI, bnd_eq, bd_s, gin_nI, gz_0, gz_1, gcp_nI, n_lt, n_le, n_eq, n_eqm, m_eqn, m_eqm, n_ltm, m_ltn, n_lem, m_len, n_add, n_sub, n_mul, n_rem, n_div, n_cl, if_true, if_false, if_pos, if_neg, Nat.reduceAdd, Nat.reduceSub, Nat.reduceMul]
theorem f_cellPlace {t c r : Nat} (ht : t < 2) (hc : c ≤ 3) (h1 : 1 ≤ r) (h9 : r ≤ 9) : fX4_cellPlace (nI t) (nI c) (nI r) = some (nI (12 + 4 * (9 * t + r - 1) + c)) := by
  unfold fX4_cellPlace
  simp (disch := omega) only [lit_nI, of_nI, bnd_eq, bd_s, gin_nI, gz_0, gz_1, gcp_nI, n_lt, n_le, n_eq, n_eqm, m_eqn, m_eqm, n_ltm, m_ltn, n_lem, m_len, n_add, n_sub, n_mul, n_rem, n_div, n_cl, if_true, if_false, if_pos, if_neg, Nat.reduceAdd, Nat.reduceSub, Nat.reduceMul]
  congr 2
  omega
theorem f_statusOf (D : Nat → Int32) {t r : Nat} (ht : t < 2) (h1 : 1 ≤ r) (h9 : r ≤ 9) : fX4_statusOf D (nI t) (nI r) = some (D (12 + 4 * (9 * t + r - 1))) := by
  unfold fX4_statusOf
  have e := f_cellPlace (c := 0) ht (by omega) h1 h9
  simp (disch := omega) only [lit_nI, of_nI, bnd_eq, bd_s, gin_nI, gz_0, gz_1, gcp_nI, n_lt, n_le, n_eq, n_eqm, m_eqn, m_eqm, n_ltm, m_ltn, n_lem, m_len, n_add, n_sub, n_mul, n_rem, n_div, n_cl, if_true, if_false, if_pos, if_neg, Nat.reduceAdd, Nat.reduceSub, Nat.reduceMul, e]
  rw [f_read D (by omega)]
  simp only [bd_s, Nat.add_zero]
theorem g_rowAt {t r : Nat} (h1 : 1 ≤ r) : fX9_rowAt (nI t) (nI r) = some (nI (8 + 36 * t + 4 * (r - 1))) := by
  unfold fX9_rowAt
  simp (disch := omega) only [lit_nI, of_nI, bnd_eq, bd_s, gin_nI, gz_0, gz_1, gcp_nI, n_lt, n_le, n_eq, n_eqm, m_eqn, m_eqm, n_ltm, m_ltn, n_lem, m_len, n_add, n_sub, n_mul, n_rem, n_div, n_cl, if_true, if_false, if_pos, if_neg, Nat.reduceAdd, Nat.reduceSub, Nat.reduceMul]
theorem g_statusOf (M : Nat → Int32) {t r : Nat} (ht : t < 2) (h1 : 1 ≤ r) (h9 : r ≤ 9) : fX9_statusOf M (nI t) (nI r) = some (M (8 + 4 * (9 * t + r - 1))) := by
  unfold fX9_statusOf
  rw [g_rowAt h1]
  simp (disch := omega) only [lit_nI, of_nI, bnd_eq, bd_s, gin_nI, gz_0, gz_1, gcp_nI, n_lt, n_le, n_eq, n_eqm, m_eqn, m_eqm, n_ltm, m_ltn, n_lem, m_len, n_add, n_sub, n_mul, n_rem, n_div, n_cl, if_true, if_false, if_pos, if_neg, Nat.reduceAdd, Nat.reduceSub, Nat.reduceMul]
  congr 2
  omega
theorem s_status : S_status Inv := by
  intro ctext_size ctext_at ctext_length ctext_token ctext_start ctext_number ctext_letters ctext_tokens ctext_starts ctext_numbers ctree_size ctree_data ctree_fresh cdraft_size cdraft_data cdraft_fresh cwanted_size cwanted_names cwanted_values cworker_makers cnow_data ctrial_data clisting_size clisting_names clisting_values clisting_kinds cpast_newest cpast_known cpast_states_data cpast_states_taken cimages_data cimages_taken mbranchMany mundos mletters mleaves mat mmark mnewMany mnewTables mitems mbranch mnow maside mpast mimages misKept mtext mnames mvalues mkinds mfresh mitem mmaker a1 a2 hI
  obtain ⟨hT, B, g, hTr, hN, hP, hG⟩ := id hI
  have hT2 : tc g B ≤ 2 := hTr.2.2.2.1
  unfold fX8_status fX9_status
  rcases isRow_both hTr a1 a2 with ⟨e1, e2⟩ | ⟨t, r, ht, h1, h9, rfl, rfl, e1, e2⟩
  · rw [e1, e2]
    exact ⟨-nI 1, -nI 1, rfl, rfl, rfl, hI⟩
  · rw [e1, e2]
    have f1 := f_statusOf cnow_data (t := t) (r := r) (by omega) h1 h9
    have f2 := g_statusOf mnow (t := t) (r := r) (by omega) h1 h9
    refine ⟨mnow (8 + 4 * (9 * t + r - 1)), mnow (8 + 4 * (9 * t + r - 1)), ?_, ?_, rfl, hI⟩
    · simp (disch := omega) only [lit_nI, of_nI, bnd_eq, bd_s, gin_nI, gz_0, gz_1, gcp_nI, n_lt, n_le, n_eq, n_eqm, m_eqn, m_eqm, n_ltm, m_ltn, n_lem, m_len, n_add, n_sub, n_mul, n_rem, n_div, n_cl, if_true, if_false, if_pos, if_neg, Nat.reduceAdd, Nat.reduceSub, Nat.reduceMul, f1]
      rw [(hN.2.2.2.2.2.2.1 (9 * t + r - 1) (by omega)).1]
    · simp (disch := omega) only [lit_nI, of_nI, bnd_eq, bd_s, gin_nI, gz_0, gz_1, gcp_nI, n_lt, n_le, n_eq, n_eqm, m_eqn, m_eqm, n_ltm, m_ltn, n_lem, m_len, n_add, n_sub, n_mul, n_rem, n_div, n_cl, if_true, if_false, if_pos, if_neg, Nat.reduceAdd, Nat.reduceSub, Nat.reduceMul, f2]
