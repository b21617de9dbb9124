/-! notices, ticks -/
def HeadR (D M : Nat → Int32) : Prop := (∃ t : Nat, t ≤ 999 ∧ M 121 = nI t) ∧ D 0 = M 121 ∧ D 1 = M 122 ∧ D 2 = M 123 ∧ ∀ i, i < 8 → D (4 + i) = M i
def RowsR (T : Nat) (D M : Nat → Int32) : Prop := ∀ k, k < 18 → D (12 + 4 * k) = M (8 + 4 * k) ∧ (∃ s : Nat, s ≤ 3 ∧ M (8 + 4 * k) = nI s) ∧ (9 * T ≤ k → M (8 + 4 * k) = nI 0) ∧ ∀ c, 1 ≤ c → c ≤ 3 → CellR (M (8 + 4 * k)) (D (12 + 4 * k + c)) (M (8 + 4 * k + c))
def NoR (w : Nat) (D M : Nat → Int32) : Prop := w ≤ 8 ∧ D 3 = nI w ∧ M 80 = nI w ∧ (∀ j, j < 5 * w → D (84 + j) = M (81 + j)) ∧ ∀ i, i < w → (∃ a : Nat, 1 ≤ a ∧ a ≤ 3 ∧ M (81 + 5 * i + 3) = nI a) ∧ ∃ a : Nat, 1 ≤ a ∧ a ≤ 3 ∧ M (81 + 5 * i + 4) = nI a
theorem NowR_of {T w : Nat} {D M : Nat → Int32} (h1 : HeadR D M) (h2 : RowsR T D M) (h3 : NoR w D M) : NowR T D M := by
  obtain ⟨a1, a2, a3, a4, a5⟩ := h1
  obtain ⟨b1, b2, b3, b4, b5⟩ := h3
  exact ⟨a1, a2, a3, a4, by rw [b2, b3], a5, h2, w, b1, b3, b4, b5⟩
theorem NowR.parts {T : Nat} {D M : Nat → Int32} (h : NowR T D M) : HeadR D M ∧ RowsR T D M ∧ ∃ w, NoR w D M := by
  obtain ⟨h1, h2, h3, h4, h5, h6, h7, w, hw, h8, h9, h10⟩ := h
  exact ⟨⟨h1, h2, h3, h4, h6⟩, h7, w, hw, by rw [h5, h8], h8, h9, h10⟩
theorem RowsR.congr {T : Nat} {D M D' M' : Nat → Int32} (h : RowsR T D M) (hD : ∀ p, 12 ≤ p → p < 84 → D' p = D p) (hM : ∀ p, 8 ≤ p → p < 80 → M' p = M p) : RowsR T D' M' := by
  intro k hk
  obtain ⟨a1, a2, a3, a4⟩ := h k hk
  refine ⟨by rw [hD _ (by omega) (by omega), hM _ (by omega) (by omega)]; exact a1, by rw [hM _ (by omega) (by omega)]; exact a2, by rw [hM _ (by omega) (by omega)]; exact a3, fun c c1 c2 => by rw [hD _ (by omega) (by omega), hM _ (by omega) (by omega), hM _ (by omega) (by omega)]; exact a4 c c1 c2⟩
theorem HeadR.congr {D M D' M' : Nat → Int32} (h : HeadR D M) (hD : ∀ p, p < 12 → p ≠ 3 → D' p = D p) (hM : ∀ p, p < 8 ∨ (121 ≤ p ∧ p < 124) → M' p = M p) : HeadR D' M' := by
  obtain ⟨a1, a2, a3, a4, a5⟩ := h
  refine ⟨by rw [hM _ (by omega)]; exact a1, by rw [hD _ (by omega) (by omega), hM _ (by omega)]; exact a2, by rw [hD _ (by omega) (by omega), hM _ (by omega)]; exact a3, by rw [hD _ (by omega) (by omega), hM _ (by omega)]; exact a4, fun i hi => by rw [hD _ (by omega) (by omega), hM _ (by omega)]; exact a5 i hi⟩
theorem NoR.congr {w : Nat} {D M D' M' : Nat → Int32} (h : NoR w D M) (hD : ∀ p, p = 3 ∨ (84 ≤ p ∧ p < 124) → D' p = D p) (hM : ∀ p, 80 ≤ p → p < 121 → M' p = M p) : NoR w D' M' := by
  obtain ⟨b1, b2, b3, b4, b5⟩ := h
  refine ⟨b1, by rw [hD _ (by omega)]; exact b2, by rw [hM _ (by omega) (by omega)]; exact b3, fun j hj => by rw [hD _ (by omega), hM _ (by omega) (by omega)]; exact b4 j hj, fun i hi => by rw [hM _ (by omega) (by omega), hM _ (by omega) (by omega)]; exact b5 i hi⟩
/-- the notices, the i-th one taken out; the reference's i-th one may have been changed -/
theorem NoR.drop {w i : Nat} {D M M2 : Nat → Int32} (h : NoR w D M) (hi : i < w) (hM : ∀ p, 80 ≤ p → p < 121 → (p < 81 + 5 * i ∨ 86 + 5 * i ≤ p) → M2 p = M p) :
    NoR (w - 1) (upd (va_cpy D D (84 + 5 * i + 5) (84 + 5 * i) ((w - 1 - i) * 5)) 3 (nI (w - 1))) (va_cpy (upd M2 80 (nI (w - 1))) (upd M2 80 (nI (w - 1))) (81 + 5 * i + 5) (81 + 5 * i) ((w - 1 - i) * 5)) := by
  obtain ⟨b1, b2, b3, b4, b5⟩ := h
  have hlo : ∀ p, 81 ≤ p → p < 81 + 5 * i → va_cpy (upd M2 80 (nI (w - 1))) (upd M2 80 (nI (w - 1))) (81 + 5 * i + 5) (81 + 5 * i) ((w - 1 - i) * 5) p = M p := fun p h1 h2 => by
    rw [cpy_out _ _ (by omega), upd_n (by omega), hM p (by omega) (by omega) (by omega)]
  have hhi : ∀ p, 81 + 5 * i ≤ p → p < 81 + 5 * (w - 1) → va_cpy (upd M2 80 (nI (w - 1))) (upd M2 80 (nI (w - 1))) (81 + 5 * i + 5) (81 + 5 * i) ((w - 1 - i) * 5) p = M (p + 5) := fun p h1 h2 => by
    rw [cpy_at, if_pos (by omega), upd_n (by omega), hM _ (by omega) (by omega) (by omega)]
    exact congrArg M (by omega)
  refine ⟨by omega, upd_s _ _ _, by rw [cpy_out _ _ (by omega), upd_s], fun j hj => ?_, fun k hk => ?_⟩
  · rw [upd_n (by omega)]
    by_cases q : j < 5 * i
    · rw [hlo _ (by omega) (by omega), cpy_out _ _ (by omega)]
      exact b4 j (by omega)
    · rw [hhi _ (by omega) (by omega), cpy_at, if_pos (by omega)]
      rw [show 84 + 5 * i + 5 + (84 + j - (84 + 5 * i)) = 84 + (j + 5) by omega, show 81 + j + 5 = 81 + (j + 5) by omega]
      exact b4 (j + 5) (by omega)
  · by_cases q : k < i
    · rw [hlo _ (by omega) (by omega), hlo _ (by omega) (by omega)]
      exact b5 k (by omega)
    · rw [hhi _ (by omega) (by omega), hhi _ (by omega) (by omega)]
      have := b5 (k + 1) (by omega)
      rw [show 81 + 5 * (k + 1) + 3 = 81 + 5 * k + 3 + 5 by omega, show 81 + 5 * (k + 1) + 4 = 81 + 5 * k + 4 + 5 by omega] at this
      exact this
theorem f_waiting {D : Nat → Int32} {w : Nat} (h : D 3 = nI w) : fX4_waiting D = some (nI w) := by
  unfold fX4_waiting
  have e := f_read D (p := 3) (by omega)
  rw [h] at e
  simp only [lit_nI]
  rw [e]
  rfl
theorem f_removeNotice {D : Nat → Int32} {w i : Nat} (h : D 3 = nI w) (hw : w ≤ 8) (hi : i < w) : fX4_removeNotice (nI i) D = some (upd (va_cpy D D (84 + 5 * i + 5) (84 + 5 * i) ((w - 1 - i) * 5)) 3 (nI (w - 1))) := by
  unfold fX4_removeNotice fX4_noticePlace
  have e := f_waiting h
  have e2 := f_write (va_cpy D D (84 + i * 5 + 5) (84 + i * 5) ((w - 1 - i) * 5)) (p := 3) (nI (w - 1)) (by omega)
  simp (disch := omega) only [lit_nI, of_nI, bnd_eq, bd_s, gin_nI, gz_0, gz_1, gcp_nI, n_lt, n_le, n_eq, n_eqm, m_eqn, m_eqm, n_ltm, m_ltn, n_lem, m_len, n_add, n_sub, n_mul, n_rem, n_div, n_cl, if_true, if_false, if_pos, if_neg, Nat.reduceAdd, Nat.reduceSub, Nat.reduceMul, e, e2]
  rw [Nat.mul_comm i 5]
theorem g_dropsNotice_l {M : Nat → Int32} {w i : Nat} (x : Int32) (h : M 80 = nI (w - 1)) (hw : w ≤ 8) (hi : i < w) : ∀ (n k : Nat), k ≤ (w - 1 - i) * 5 → (w - 1 - i) * 5 < k + n → fX9_dropsNotice_l18 x n (va_cpy M M (81 + 5 * i + 5) (81 + 5 * i) k) (nI (81 + 5 * i + k)) = some (va_cpy M M (81 + 5 * i + 5) (81 + 5 * i) ((w - 1 - i) * 5)) := by
  intro n
  induction n with
  | zero => intro k h1 h2; omega
  | succ n ih =>
    intro k h1 h2
    rw [fX9_dropsNotice_l18_s]
    unfold fX9_dropsNotice_b18
    have e80 : va_cpy M M (81 + 5 * i + 5) (81 + 5 * i) k 80 = nI (w - 1) := by rw [cpy_out _ _ (by omega)]; exact h
    by_cases e : k = (w - 1 - i) * 5
    · simp (disch := omega) only [lit_nI, of_nI, bnd_eq, bd_s, gin_nI, gz_0, gz_1, gcp_nI, n_lt, n_le, n_eq, n_eqm, m_eqn, m_eqm, n_ltm, m_ltn, n_lem, m_len, n_add, n_sub, n_mul, n_rem, n_div, n_cl, if_true, if_false, if_pos, if_neg, Nat.reduceAdd, Nat.reduceSub, Nat.reduceMul, e80]
      rw [e]
    · have := ih (k + 1) (by omega) (by omega)
      rw [← cpy_s M M (81 + 5 * i + 5) (81 + 5 * i) k] at this
      have e9 : va_cpy M M (81 + 5 * i + 5) (81 + 5 * i) k (81 + 5 * i + k + 5) = M (81 + 5 * i + 5 + k) := by
        rw [cpy_out _ _ (by omega)]
        exact congrArg M (by omega)
      simp (disch := omega) only [lit_nI, of_nI, bnd_eq, bd_s, gin_nI, gz_0, gz_1, gcp_nI, n_lt, n_le, n_eq, n_eqm, m_eqn, m_eqm, n_ltm, m_ltn, n_lem, m_len, n_add, n_sub, n_mul, n_rem, n_div, n_cl, if_true, if_false, if_pos, if_neg, Nat.reduceAdd, Nat.reduceSub, Nat.reduceMul, e80, e9]
      exact this
theorem g_dropsNotice {M : Nat → Int32} {w i : Nat} (h : M 80 = nI w) (hw : w ≤ 8) (hi : i < w) : fX9_dropsNotice (nI i) M = some (va_cpy (upd M 80 (nI (w - 1))) (upd M 80 (nI (w - 1))) (81 + 5 * i + 5) (81 + 5 * i) ((w - 1 - i) * 5)) := by
  unfold fX9_dropsNotice
  have e := g_dropsNotice_l (M := upd M 80 (nI (w - 1))) (nI i) (upd_s _ _ _) hw hi 1000 0 (by omega) (by omega)
  rw [cpy_0, Nat.add_zero] at e
  have e80 : M (nI 80).toNatClampNeg = nI w := by rw [n_cl (by omega)]; exact h
  simp only [lit_nI]
  rw [gin_nI (by omega) (by omega), gin_nI (by omega) (by omega), e80, bnd_eq, n_sub (by omega), n_mul, n_add, n_cl (by omega)]
  exact e
/-- a number below a count, as the reference tests it -/
theorem within_w (x : Int32) {w : Nat} (hw : w ≤ 1000) : (x < nI 0 ∧ fX9_within x (nI 0) (nI w - nI 1) = some (nI 0)) ∨ (nI w ≤ x ∧ ¬ x < nI 0 ∧ fX9_within x (nI 0) (nI w - nI 1) = some (nI 0)) ∨ ∃ j : Nat, j < w ∧ x = nI j ∧ fX9_within x (nI 0) (nI w - nI 1) = some (nI 1) := by
  unfold fX9_within
  simp only [lit_nI]
  rcases x_cases x w (by omega) with hx | hx | ⟨j, hj, rfl⟩
  · left
    exact ⟨hx, by rw [if_pos hx]⟩
  · right; left
    have q0 : ¬ x < nI 0 := by rw [le_T, nI_T (by omega)] at hx; rw [lt_T, nI_T (by omega)]; omega
    have q1 : nI w - nI 1 < x := by
      rw [le_T, nI_T (by omega)] at hx
      rw [lt_T, pk_sub_toInt (by omega) (by omega)]
      omega
    exact ⟨hx, q0, by rw [if_neg q0, if_pos q1]⟩
  · right; right
    refine ⟨j, hj, rfl, ?_⟩
    have q1 : ¬ nI w - nI 1 < nI j := by
      rw [lt_T, pk_sub_toInt (by omega) (by omega), nI_T (by omega)]; omega
    rw [if_neg (show ¬ nI j < nI 0 from nI_pos (by omega)), if_neg q1]
theorem g_isNotice (x : Int32) {M : Nat → Int32} {w : Nat} (h : M 80 = nI w) (hw : w ≤ 8) : (x < nI 0 ∧ fX9_isNotice M x = some (nI 0)) ∨ (nI w ≤ x ∧ ¬ x < nI 0 ∧ fX9_isNotice M x = some (nI 0)) ∨ ∃ j : Nat, j < w ∧ x = nI j ∧ fX9_isNotice M x = some (nI 1) := by
  unfold fX9_isNotice
  have e80 : M (nI 80).toNatClampNeg = nI w := by rw [n_cl (by omega)]; exact h
  simp only [lit_nI, e80]
  rw [gin_nI (by omega) (by omega)]
  rcases within_w x (w := w) (by omega) with ⟨a, b⟩ | ⟨a, a2, b⟩ | ⟨j, hj, rfl, b⟩
  · exact Or.inl ⟨a, by rw [b, bd_s, gz_0]⟩
  · exact Or.inr (Or.inl ⟨a, a2, by rw [b, bd_s, gz_0]⟩)
  · exact Or.inr (Or.inr ⟨j, hj, rfl, by rw [b, bd_s, gz_1]⟩)
theorem f_noticeField (D : Nat → Int32) {i f : Nat} (hi : i < 8) (hf : f < 5) : fX4_noticeField D (nI i) (nI f) = some (D (84 + 5 * i + f)) := by
  unfold fX4_noticeField fX4_noticePlace
  have e := f_read D (p := 84 + i * 5 + f) (by omega)
  simp (disch := omega) only [lit_nI, of_nI, bnd_eq, bd_s, gin_nI, gz_0, gz_1, gcp_nI, n_lt, n_le, n_eq, n_eqm, m_eqn, m_eqm, n_ltm, m_ltn, n_lem, m_len, n_add, n_sub, n_mul, n_rem, n_div, n_cl, if_true, if_false, if_pos, if_neg, Nat.reduceAdd, Nat.reduceSub, Nat.reduceMul, e]
  rw [Nat.mul_comm i 5]
theorem s_notice : S_notice Inv := by
  intro ctext_size ctext_at ctext_length ctext_token ctext_start ctext_number ctext_letters ctext_tokens ctext_starts ctext_numbers ctree_size ctree_data ctree_fresh cdraft_size cdraft_data cdraft_fresh cwanted_size cwanted_names cwanted_values cworker_makers cnow_data ctrial_data clisting_size clisting_names clisting_values clisting_kinds cpast_newest cpast_known cpast_states_data cpast_states_taken cimages_data cimages_taken mbranchMany mundos mletters mleaves mat mmark mnewMany mnewTables mitems mbranch mnow maside mpast mimages misKept mtext mnames mvalues mkinds mfresh mitem mmaker a1 a2 hI
  obtain ⟨hT, B, g, hTr, hN, hP, hG⟩ := id hI
  obtain ⟨h1, h2, w, hw, b2, b3, b4, b5⟩ := hN.parts
  have ew := f_waiting b2
  unfold fX8_notice fX9_notice
  simp only [lit_nI]
  rcases g_isNotice a1 b3 hw with ⟨q, e⟩ | ⟨q, q2, e⟩ | ⟨i, hi, rfl, e⟩
  · exact ⟨-nI 1, -nI 1, by rw [if_pos q], by rw [e]; rfl, rfl, hI⟩
  · exact ⟨-nI 1, -nI 1, by rw [if_neg q2, ew, bd_s, if_pos q], by rw [e]; rfl, rfl, hI⟩
  · unfold fX9_within
    simp only [lit_nI]
    rcases x_cases a2 5 (by omega) with h | h | ⟨f, hf, rfl⟩
    · refine ⟨-nI 1, -nI 1, by simp (disch := omega) only [lit_nI, of_nI, bnd_eq, bd_s, gin_nI, gz_0, gz_1, gcp_nI, n_lt, n_le, n_eq, n_eqm, m_eqn, m_eqm, n_ltm, m_ltn, n_lem, m_len, n_add, n_sub, n_mul, n_rem, n_div, n_cl, if_true, if_false, if_pos, if_neg, Nat.reduceAdd, Nat.reduceSub, Nat.reduceMul, ew, h], by simp (disch := omega) only [lit_nI, of_nI, bnd_eq, bd_s, gin_nI, gz_0, gz_1, gcp_nI, n_lt, n_le, n_eq, n_eqm, m_eqn, m_eqm, n_ltm, m_ltn, n_lem, m_len, n_add, n_sub, n_mul, n_rem, n_div, n_cl, if_true, if_false, if_pos, if_neg, Nat.reduceAdd, Nat.reduceSub, Nat.reduceMul, e, h], rfl, hI⟩
    · have q0 := big_ff h (by omega) (k := 0) (by omega)
      have q4 := big_ff h (by omega) (k := 4) (by omega)
      have q5 := big_fm h (by omega)
      exact ⟨-nI 1, -nI 1, by simp (disch := omega) only [lit_nI, of_nI, bnd_eq, bd_s, gin_nI, gz_0, gz_1, gcp_nI, n_lt, n_le, n_eq, n_eqm, m_eqn, m_eqm, n_ltm, m_ltn, n_lem, m_len, n_add, n_sub, n_mul, n_rem, n_div, n_cl, if_true, if_false, if_pos, if_neg, Nat.reduceAdd, Nat.reduceSub, Nat.reduceMul, ew, q0.1, q5.1], by simp (disch := omega) only [lit_nI, of_nI, bnd_eq, bd_s, gin_nI, gz_0, gz_1, gcp_nI, n_lt, n_le, n_eq, n_eqm, m_eqn, m_eqm, n_ltm, m_ltn, n_lem, m_len, n_add, n_sub, n_mul, n_rem, n_div, n_cl, if_true, if_false, if_pos, if_neg, Nat.reduceAdd, Nat.reduceSub, Nat.reduceMul, e, q0.1, q4.2.2.1], rfl, hI⟩
    · have en := f_noticeField cnow_data (i := i) (f := f) (by omega) hf
      refine ⟨cnow_data (84 + 5 * i + f), mnow (81 + 5 * i + f), by simp (disch := omega) only [lit_nI, of_nI, bnd_eq, bd_s, gin_nI, gz_0, gz_1, gcp_nI, n_lt, n_le, n_eq, n_eqm, m_eqn, m_eqm, n_ltm, m_ltn, n_lem, m_len, n_add, n_sub, n_mul, n_rem, n_div, n_cl, if_true, if_false, if_pos, if_neg, Nat.reduceAdd, Nat.reduceSub, Nat.reduceMul, ew, en], by simp (disch := omega) only [lit_nI, of_nI, bnd_eq, bd_s, gin_nI, gz_0, gz_1, gcp_nI, n_lt, n_le, n_eq, n_eqm, m_eqn, m_eqm, n_ltm, m_ltn, n_lem, m_len, n_add, n_sub, n_mul, n_rem, n_div, n_cl, if_true, if_false, if_pos, if_neg, Nat.reduceAdd, Nat.reduceSub, Nat.reduceMul, e], ?_, hI⟩
      have := b4 (5 * i + f) (by omega)
      rw [show 84 + 5 * i + f = 84 + (5 * i + f) by omega, show 81 + 5 * i + f = 81 + (5 * i + f) by omega]
      exact this
theorem drop_now {T w i : Nat} {D M M2 : Nat → Int32} (h1 : HeadR D M) (h2 : RowsR T D M) (h : NoR w D M) (hi : i < w) (hM : ∀ p, p < 124 → (p < 81 + 5 * i ∨ 86 + 5 * i ≤ p) → M2 p = M p) :
    ∃ D' M', fX4_removeNotice (nI i) D = some D' ∧ fX9_dropsNotice (nI i) M2 = some M' ∧ HeadR D' M' ∧ RowsR T D' M' ∧ NoR (w - 1) D' M' ∧ (∀ p, p < 84 → p ≠ 3 → D' p = D p) ∧ (∀ p, p < 80 ∨ (121 ≤ p ∧ p < 124) → M' p = M p) := by
  have hw := h.1
  have hd := h.drop hi (M2 := M2) (fun p p1 p2 p3 => hM p (by omega) p3)
  have eD : ∀ p, p < 84 → p ≠ 3 → upd (va_cpy D D (84 + 5 * i + 5) (84 + 5 * i) ((w - 1 - i) * 5)) 3 (nI (w - 1)) p = D p := fun p p1 p2 => by rw [upd_n p2, cpy_out _ _ (by omega)]
  have eM : ∀ p, p < 80 ∨ (121 ≤ p ∧ p < 124) → va_cpy (upd M2 80 (nI (w - 1))) (upd M2 80 (nI (w - 1))) (81 + 5 * i + 5) (81 + 5 * i) ((w - 1 - i) * 5) p = M p := fun p p1 => by rw [cpy_out _ _ (by omega), upd_n (by omega), hM p (by omega) (by omega)]
  refine ⟨_, _, f_removeNotice h.2.1 hw hi, g_dropsNotice (M := M2) (by rw [hM 80 (by omega) (by omega)]; exact h.2.2.1) hw hi, h1.congr (fun p p1 p2 => eD p (by omega) p2) (fun p p1 => eM p (by omega)), h2.congr (fun p p1 p2 => eD p (by omega) (by omega)) (fun p p1 p2 => eM p (by omega)), hd, eD, eM⟩
theorem cpy_same (T : Nat) {D M a : Nat → Int32} (h : NowR T D M) : NowR T D (va_cpy M a 0 0 124) := h.congr (fun _ _ => rfl) (fun i hi => by rw [cpy_in0 _ _ hi, Nat.zero_add])
theorem s_answers : S_answers Inv := by
  intro ctext_size ctext_at ctext_length ctext_token ctext_start ctext_number ctext_letters ctext_tokens ctext_starts ctext_numbers ctree_size ctree_data ctree_fresh cdraft_size cdraft_data cdraft_fresh cwanted_size cwanted_names cwanted_values cworker_makers cnow_data ctrial_data clisting_size clisting_names clisting_values clisting_kinds cpast_newest cpast_known cpast_states_data cpast_states_taken cimages_data cimages_taken mbranchMany mundos mletters mleaves mat mmark mnewMany mnewTables mitems mbranch mnow maside mpast mimages misKept mtext mnames mvalues mkinds mfresh mitem mmaker a1 hI
  obtain ⟨hT, B, g, hTr, hN, hP, hG⟩ := id hI
  obtain ⟨h1, h2, w, hw⟩ := hN.parts
  have ew := f_waiting hw.2.1
  unfold fX8_answers fX9_answers
  simp only [lit_nI]
  rcases g_isNotice a1 hw.2.2.1 hw.1 with ⟨q, e⟩ | ⟨q, q2, e⟩ | ⟨i, hi, rfl, e⟩
  · exact ⟨(-nI 1, cnow_data, cpast_newest, cpast_known, cpast_states_data, cpast_states_taken), (-nI 1, mundos, mnow, maside, mpast), by rw [if_pos q], by rw [e]; rfl, rfl, hI⟩
  · have q3 : ¬ a1 < nI w := by rw [le_T] at q; rw [lt_T]; omega
    exact ⟨(-nI 1, cnow_data, cpast_newest, cpast_known, cpast_states_data, cpast_states_taken), (-nI 1, mundos, mnow, maside, mpast), by rw [if_neg q2, ew, bd_s, if_neg q3], by rw [e]; rfl, rfl, hI⟩
  · have hw8 := hw.1
    obtain ⟨pn', pk', un', pd', pt', past', k1, k2, k3⟩ := past_push hP (cpy_same _ hN (a := maside))
    obtain ⟨D', M', d1, d2, d3, d4, d5, -, -⟩ := drop_now h1 h2 hw hi (M2 := mnow) (fun _ _ _ => rfl)
    have en := f_noticeField cnow_data (i := i) (f := 3) (by omega) (by omega)
    have el := g_laysAside mnow maside
    refine ⟨(cnow_data (84 + 5 * i + 3), D', pn', pk', pd', pt'), (mnow (81 + 5 * i + 3), un', M', va_cpy mnow maside 0 0 124, past'), ?_, ?_, ?_, hT, B, g, hTr, NowR_of d3 d4 d5, k3, hG⟩
    · simp (disch := omega) only [lit_nI, of_nI, bnd_eq, bd_s, gin_nI, gz_0, gz_1, gcp_nI, n_lt, n_le, n_eq, n_eqm, m_eqn, m_eqm, n_ltm, m_ltn, n_lem, m_len, n_add, n_sub, n_mul, n_rem, n_div, n_cl, if_true, if_false, if_pos, if_neg, Nat.reduceAdd, Nat.reduceSub, Nat.reduceMul, ew, k1, en, d1]
    · simp (disch := omega) only [lit_nI, of_nI, bnd_eq, bd_s, gin_nI, gz_0, gz_1, gcp_nI, n_lt, n_le, n_eq, n_eqm, m_eqn, m_eqm, n_ltm, m_ltn, n_lem, m_len, n_add, n_sub, n_mul, n_rem, n_div, n_cl, if_true, if_false, if_pos, if_neg, Nat.reduceAdd, Nat.reduceSub, Nat.reduceMul, e, el, k2, d2]
    · have := hw.2.2.2.1 (5 * i + 3) (by omega)
      show cnow_data (84 + 5 * i + 3) = mnow (81 + 5 * i + 3)
      rw [show 84 + 5 * i + 3 = 84 + (5 * i + 3) by omega, show 81 + 5 * i + 3 = 81 + (5 * i + 3) by omega]
      exact this
