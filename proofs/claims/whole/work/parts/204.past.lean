/-! copies; what can be undone; images -/
theorem cpy_0 (f g : Nat → Int32) (sp dp : Nat) : va_cpy f g sp dp 0 = g := by
  funext j
  rw [cpy_at, if_neg (by omega)]
theorem cpy_s (f g : Nat → Int32) (sp dp k : Nat) : upd (va_cpy f g sp dp k) (dp + k) (f (sp + k)) = va_cpy f g sp dp (k + 1) := by
  funext j
  rw [upd_at, cpy_at, cpy_at]
  by_cases h : j = dp + k
  · rw [if_pos h, if_pos (by omega), h, show dp + k - dp = k by omega]
  · rw [if_neg h]
    by_cases h2 : dp ≤ j ∧ j < dp + k
    · rw [if_pos h2, if_pos (by omega)]
    · rw [if_neg h2, if_neg (by omega)]
theorem cpy_in (f g : Nat → Int32) {sp dp n j : Nat} (h : j < n) : va_cpy f g sp dp n (dp + j) = f (sp + j) := by
  rw [cpy_at, if_pos (by omega), show dp + j - dp = j by omega]
theorem cpy_in0 (f g : Nat → Int32) {sp n j : Nat} (h : j < n) : va_cpy f g sp 0 n j = f (sp + j) := by
  rw [cpy_at, if_pos (by omega), Nat.sub_zero]
theorem cpy_out (f g : Nat → Int32) {sp dp n j : Nat} (h : j < dp ∨ dp + n ≤ j) : va_cpy f g sp dp n j = g j := by
  rw [cpy_at, if_neg (by omega)]
theorem g_laysAside_l (M a : Nat → Int32) : ∀ (n k : Nat), k ≤ 124 → 124 < k + n → fX9_laysAside_l2 M n (va_cpy M a 0 0 k) (nI k) = some (va_cpy M a 0 0 124) := by
  intro n
  induction n with
  | zero => intro k h1 h2; omega
  | succ n ih =>
    intro k h1 h2
    rw [fX9_laysAside_l2_s]
    unfold fX9_laysAside_b2
    by_cases e : k = 124
    · subst e
      simp (disch := omega) only [lit_nI, of_nI, bnd_eq, bd_s, gin_nI, gz_0, gz_1, gcp_nI, n_lt, n_le, n_eq, n_eqm, m_eqn, m_eqm, n_ltm, m_ltn, n_lem, m_len, n_add, n_sub, n_mul, n_rem, n_div, n_cl, if_true, if_false, if_pos, if_neg, Nat.reduceAdd, Nat.reduceSub, Nat.reduceMul]
    · have := ih (k + 1) (by omega) (by omega)
      rw [← cpy_s] at this
      simp only [Nat.zero_add] at this
      simp (disch := omega) only [lit_nI, of_nI, bnd_eq, bd_s, gin_nI, gz_0, gz_1, gcp_nI, n_lt, n_le, n_eq, n_eqm, m_eqn, m_eqm, n_ltm, m_ltn, n_lem, m_len, n_add, n_sub, n_mul, n_rem, n_div, n_cl, if_true, if_false, if_pos, if_neg, Nat.reduceAdd, Nat.reduceSub, Nat.reduceMul]
      exact this
theorem g_laysAside (M a : Nat → Int32) : fX9_laysAside M a = some (va_cpy M a 0 0 124) := by
  have := g_laysAside_l M a 1000 0 (by omega) (by omega)
  rw [cpy_0] at this
  exact this
theorem g_keeps2_l (a past : Nat → Int32) {U : Nat} (hU : U ≤ 5) : ∀ (n k : Nat), k ≤ 124 → 124 < k + n → fX9_keeps_l51 a n (nI U) (va_cpy a past 0 (124 * U) k) (nI k) = some (nI (U + 1), va_cpy a past 0 (124 * U) 124) := by
  intro n
  induction n with
  | zero => intro k h1 h2; omega
  | succ n ih =>
    intro k h1 h2
    rw [fX9_keeps_l51_s]
    unfold fX9_keeps_b51
    by_cases e : k = 124
    · subst e
      simp (disch := omega) only [lit_nI, of_nI, bnd_eq, bd_s, gin_nI, gz_0, gz_1, gcp_nI, n_lt, n_le, n_eq, n_eqm, m_eqn, m_eqm, n_ltm, m_ltn, n_lem, m_len, n_add, n_sub, n_mul, n_rem, n_div, n_cl, if_true, if_false, if_pos, if_neg, Nat.reduceAdd, Nat.reduceSub, Nat.reduceMul]
    · have := ih (k + 1) (by omega) (by omega)
      rw [← cpy_s] at this
      simp only [Nat.zero_add] at this
      simp (disch := omega) only [lit_nI, of_nI, bnd_eq, bd_s, gin_nI, gz_0, gz_1, gcp_nI, n_lt, n_le, n_eq, n_eqm, m_eqn, m_eqm, n_ltm, m_ltn, n_lem, m_len, n_add, n_sub, n_mul, n_rem, n_div, n_cl, if_true, if_false, if_pos, if_neg, Nat.reduceAdd, Nat.reduceSub, Nat.reduceMul]
      exact this
theorem g_keeps2 (a past : Nat → Int32) {U o V : Nat} (hU : U ≤ 5) (ho : o = 124 * U) (hV : V = U + 1) : fX9_keeps_l51 a 1000 (nI U) past (nI 0) = some (nI V, va_cpy a past 0 o 124) := by
  subst ho
  subst hV
  have := g_keeps2_l a past hU 1000 0 (by omega) (by omega)
  rw [cpy_0] at this
  exact this
theorem g_keeps1_l (a past : Nat → Int32) : ∀ (n k : Nat), k ≤ 620 → 620 < k + n → fX9_keeps_l11 a n (nI 6) (va_cpy past past 124 0 k) (nI k) = some (nI 6, va_cpy a (va_cpy past past 124 0 620) 0 620 124) := by
  intro n
  induction n with
  | zero => intro k h1 h2; omega
  | succ n ih =>
    intro k h1 h2
    rw [fX9_keeps_l11_s]
    unfold fX9_keeps_b11
    by_cases e : k = 620
    · have hk : nI 620 ≤ nI k := by rw [e]; exact Int32.le_refl _
      simp only [lit_nI]
      rw [if_pos hk, bnd_eq, n_sub (by omega), e]
      exact g_keeps2 a (va_cpy past past 124 0 620) (U := 5) (o := 620) (V := 6) (by omega) (by omega) (by omega)
    · have := ih (k + 1) (by omega) (by omega)
      rw [← cpy_s past past 124 0 k, Nat.zero_add] at this
      have e9 : va_cpy past past 124 0 k (k + 124) = past (124 + k) := by rw [cpy_out _ _ (by omega), Nat.add_comm]
      have hk : ¬ nI 620 ≤ nI k := by rw [n_le (by omega) (by omega)]; omega
      simp only [lit_nI]
      rw [if_neg hk]
      simp (disch := omega) only [lit_nI, of_nI, bnd_eq, bd_s, gin_nI, gz_0, gz_1, gcp_nI, n_lt, n_le, n_eq, n_eqm, m_eqn, m_eqm, n_ltm, m_ltn, n_lem, m_len, n_add, n_sub, n_mul, n_rem, n_div, n_cl, if_true, if_false, if_pos, if_neg, Nat.reduceAdd, Nat.reduceSub, Nat.reduceMul, e9]
      exact this
theorem NowR.slice {T : Nat} {D M D' M' : Nat → Int32} {o p o' p' : Nat} (h : NowR T (slc D o) (slc M p)) (hD : ∀ i, i < 124 → D' (o' + i) = D (o + i)) (hM : ∀ i, i < 124 → M' (p' + i) = M (p + i)) : NowR T (slc D' o') (slc M' p') := h.congr hD hM
theorem f_storeInto (D S : Nat → Int32) {N p : Nat} (h : 124 * p + 124 ≤ N) (hN : N ≤ 1000) : fX4_storeInto N D (nI p * nI 124) S = some (va_cpy D S 0 (124 * p) 124) := by
  unfold fX4_storeInto
  rw [n_mul, Nat.mul_comm]
  have e : ¬ nI N - nI 124 < nI (124 * p) := by rw [n_sub (by omega), n_lt (by omega) (by omega)]; omega
  simp (disch := omega) only [lit_nI, of_nI, bnd_eq, bd_s, gin_nI, gz_0, gz_1, gcp_nI, n_lt, n_le, n_eq, n_eqm, m_eqn, m_eqm, n_ltm, m_ltn, n_lem, m_len, n_add, n_sub, n_mul, n_rem, n_div, n_cl, if_true, if_false, if_pos, if_neg, Nat.reduceAdd, Nat.reduceSub, Nat.reduceMul]
theorem f_loadFrom (D S : Nat → Int32) {N p : Nat} (h : 124 * p + 124 ≤ N) (hN : N ≤ 1000) : fX4_loadFrom N S (nI p * nI 124) D = some (va_cpy S D (124 * p) 0 124) := by
  unfold fX4_loadFrom
  rw [n_mul, Nat.mul_comm]
  simp (disch := omega) only [lit_nI, of_nI, bnd_eq, bd_s, gin_nI, gz_0, gz_1, gcp_nI, n_lt, n_le, n_eq, n_eqm, m_eqn, m_eqm, n_ltm, m_ltn, n_lem, m_len, n_add, n_sub, n_mul, n_rem, n_div, n_cl, if_true, if_false, if_pos, if_neg, Nat.reduceAdd, Nat.reduceSub, Nat.reduceMul]
theorem f_put (nd : Nat → Int32) (S K : Nat → Int32) {N n p : Nat} (hp : p < n) (h : 124 * p + 124 ≤ N) (hN : N ≤ 1000) (hn : n ≤ 10) : fX3_put N n nd (nI p) S K = some (va_cpy nd S 0 (124 * p) 124, upd K p (nI 1)) := by
  unfold fX3_put
  have e := f_storeInto nd S h hN
  simp only [lit_nI] at e ⊢
  rw [e]
  simp (disch := omega) only [lit_nI, of_nI, bnd_eq, bd_s, gin_nI, gz_0, gz_1, gcp_nI, n_lt, n_le, n_eq, n_eqm, m_eqn, m_eqm, n_ltm, m_ltn, n_lem, m_len, n_add, n_sub, n_mul, n_rem, n_div, n_cl, if_true, if_false, if_pos, if_neg, Nat.reduceAdd, Nat.reduceSub, Nat.reduceMul]
theorem f_has (K : Nat → Int32) {N n p : Nat} (hp : p < n) (hn : n ≤ 10) : fX3_has N n K (nI p) = some (if K p = nI 0 then nI 0 else nI 1) := by
  unfold fX3_has
  simp (disch := omega) only [lit_nI, of_nI, bnd_eq, bd_s, gin_nI, gz_0, gz_1, gcp_nI, n_lt, n_le, n_eq, n_eqm, m_eqn, m_eqm, n_ltm, m_ltn, n_lem, m_len, n_add, n_sub, n_mul, n_rem, n_div, n_cl, if_true, if_false, if_pos, if_neg, Nat.reduceAdd, Nat.reduceSub, Nat.reduceMul]
  split <;> rfl
theorem f_bring (nd S K : Nat → Int32) {N n p : Nat} (hp : p < n) (h : 124 * p + 124 ≤ N) (hN : N ≤ 1000) (hn : n ≤ 10) (hK : K p = nI 1) : fX3_bring N n S K (nI p) nd = some (va_cpy S nd (124 * p) 0 124) := by
  unfold fX3_bring
  have e := f_loadFrom nd S h hN
  have e2 := f_has K (N := N) hp hn
  rw [hK, if_neg (by rw [n_eq (by omega) (by omega)]; omega)] at e2
  simp only [lit_nI] at e ⊢
  rw [e2]
  simp only [bd_s]
  rw [if_neg (by rw [n_eq (by omega) (by omega)]; omega), e]
  rfl
theorem past_push {T : Nat} {pn pk un : Int32} {pd pt past nd a : Nat → Int32} (h : PastR T pn pk pd pt past un) (hN : NowR T nd a) : ∃ pn' pk' un' pd' pt' past', fX2_push nd pn pk pd pt = some (pn', pk', pd', pt') ∧ fX9_keeps a un past = some (un', past') ∧ PastR T pn' pk' pd' pt' past' un' := by
  obtain ⟨w, U, hw, hU, rfl, rfl, rfl, hj⟩ := h
  have e1 := f_put nd pd pt (N := 744) (n := 6) (p := (w + 1) % 6) (by omega) (by omega) (by omega) (by omega)
  have hp : fX2_push nd (nI w) (nI U) pd pt = some (nI ((w + 1) % 6), nI (min (U + 1) 6), va_cpy nd pd 0 (124 * ((w + 1) % 6)) 124, upd pt ((w + 1) % 6) (nI 1)) := by
    unfold fX2_push jmin
    simp (disch := omega) only [lit_nI, of_nI, bnd_eq, bd_s, gin_nI, gz_0, gz_1, gcp_nI, n_lt, n_le, n_eq, n_eqm, m_eqn, m_eqm, n_ltm, m_ltn, n_lem, m_len, n_add, n_sub, n_mul, n_rem, n_div, n_cl, if_true, if_false, if_pos, if_neg, Nat.reduceAdd, Nat.reduceSub, Nat.reduceMul, e1]
    by_cases q : U = 6
    · subst q
      simp (disch := omega) only [lit_nI, of_nI, bnd_eq, bd_s, gin_nI, gz_0, gz_1, gcp_nI, n_lt, n_le, n_eq, n_eqm, m_eqn, m_eqm, n_ltm, m_ltn, n_lem, m_len, n_add, n_sub, n_mul, n_rem, n_div, n_cl, if_true, if_false, if_pos, if_neg, Nat.reduceAdd, Nat.reduceSub, Nat.reduceMul]
      rfl
    · simp (disch := omega) only [lit_nI, of_nI, bnd_eq, bd_s, gin_nI, gz_0, gz_1, gcp_nI, n_lt, n_le, n_eq, n_eqm, m_eqn, m_eqm, n_ltm, m_ltn, n_lem, m_len, n_add, n_sub, n_mul, n_rem, n_div, n_cl, if_true, if_false, if_pos, if_neg, Nat.reduceAdd, Nat.reduceSub, Nat.reduceMul]
      rw [show min (U + 1) 6 = U + 1 by omega]
  have main : ∀ past' : Nat → Int32, (∀ i, i < 124 → past' (124 * (min (U + 1) 6 - 1) + i) = a i) → (∀ j i, 1 ≤ j → j < min (U + 1) 6 → i < 124 → past' (124 * (min (U + 1) 6 - 1 - j) + i) = past (124 * (U - 1 - (j - 1)) + i)) → PastR T (nI ((w + 1) % 6)) (nI (min (U + 1) 6)) (va_cpy nd pd 0 (124 * ((w + 1) % 6)) 124) (upd pt ((w + 1) % 6) (nI 1)) past' (nI (min (U + 1) 6)) := by
    intro past' h1 h2
    refine ⟨(w + 1) % 6, min (U + 1) 6, by omega, by omega, rfl, rfl, rfl, fun j hjl => ?_⟩
    by_cases q : j = 0
    · subst q
      rw [show ((w + 1) % 6 + 6 - 0) % 6 = (w + 1) % 6 by omega]
      refine ⟨upd_s _ _ _, hN.congr (fun i hi => ?_) (fun i hi => ?_)⟩
      · show va_cpy nd pd 0 (124 * ((w + 1) % 6)) 124 (124 * ((w + 1) % 6) + i) = nd i
        rw [cpy_in _ _ hi, Nat.zero_add]
      · exact h1 i hi
    · have hs : ((w + 1) % 6 + 6 - j) % 6 = (w + 6 - (j - 1)) % 6 := by omega
      have hne : (w + 6 - (j - 1)) % 6 ≠ (w + 1) % 6 := by omega
      rw [hs]
      obtain ⟨b1, b2⟩ := hj (j - 1) (by omega)
      refine ⟨by rw [upd_n hne]; exact b1, b2.slice (fun i hi => ?_) (fun i hi => h2 j i (by omega) hjl hi)⟩
      rw [cpy_out]
      omega
  by_cases q : U = 6
  · subst q
    have k1 := g_keeps1_l a past 1000 0 (by omega) (by omega)
    rw [cpy_0] at k1
    have hk : fX9_keeps a (nI 6) past = some (nI 6, va_cpy a (va_cpy past past 124 0 620) 0 620 124) := by
      unfold fX9_keeps
      simp (disch := omega) only [lit_nI, of_nI, bnd_eq, bd_s, gin_nI, gz_0, gz_1, gcp_nI, n_lt, n_le, n_eq, n_eqm, m_eqn, m_eqm, n_ltm, m_ltn, n_lem, m_len, n_add, n_sub, n_mul, n_rem, n_div, n_cl, if_true, if_false, if_pos, if_neg, Nat.reduceAdd, Nat.reduceSub, Nat.reduceMul]
      exact k1
    refine ⟨_, _, _, _, _, _, hp, hk, main _ (fun i hi => ?_) (fun j i h1 h2 hi => ?_)⟩
    · rw [show 124 * (min (6 + 1) 6 - 1) + i = 620 + i by omega, cpy_in _ _ hi, Nat.zero_add]
    · rw [cpy_out _ _ (by omega), cpy_in0 _ _ (by omega)]
      exact congrArg past (by omega)
  · have k1 := g_keeps2_l a past (U := U) (by omega) 1000 0 (by omega) (by omega)
    rw [cpy_0] at k1
    have hk : fX9_keeps a (nI U) past = some (nI (min (U + 1) 6), va_cpy a past 0 (124 * U) 124) := by
      unfold fX9_keeps
      simp (disch := omega) only [lit_nI, of_nI, bnd_eq, bd_s, gin_nI, gz_0, gz_1, gcp_nI, n_lt, n_le, n_eq, n_eqm, m_eqn, m_eqm, n_ltm, m_ltn, n_lem, m_len, n_add, n_sub, n_mul, n_rem, n_div, n_cl, if_true, if_false, if_pos, if_neg, Nat.reduceAdd, Nat.reduceSub, Nat.reduceMul]
      rw [show min (U + 1) 6 = U + 1 by omega]
      exact k1
    refine ⟨_, _, _, _, _, _, hp, hk, main _ (fun i hi => ?_) (fun j i h1 h2 hi => ?_)⟩
    · rw [show 124 * (min (U + 1) 6 - 1) + i = 124 * U + i by omega, cpy_in _ _ hi, Nat.zero_add]
    · rw [cpy_out _ _ (by omega)]
      exact congrArg past (by omega)
theorem g_undo_l (past M : Nat → Int32) {U : Nat} (hU : U ≤ 5) : ∀ (n k : Nat), k ≤ 124 → 124 < k + n → fX9_undo_l22 past n (nI U) (va_cpy past M (124 * U) 0 k) (nI k) = some (nI U, nI U, va_cpy past M (124 * U) 0 124) := by
  intro n
  induction n with
  | zero => intro k h1 h2; omega
  | succ n ih =>
    intro k h1 h2
    rw [fX9_undo_l22_s]
    unfold fX9_undo_b22
    by_cases e : k = 124
    · subst e
      simp (disch := omega) only [lit_nI, of_nI, bnd_eq, bd_s, gin_nI, gz_0, gz_1, gcp_nI, n_lt, n_le, n_eq, n_eqm, m_eqn, m_eqm, n_ltm, m_ltn, n_lem, m_len, n_add, n_sub, n_mul, n_rem, n_div, n_cl, if_true, if_false, if_pos, if_neg, Nat.reduceAdd, Nat.reduceSub, Nat.reduceMul]
    · have := ih (k + 1) (by omega) (by omega)
      rw [← cpy_s, Nat.zero_add] at this
      simp (disch := omega) only [lit_nI, of_nI, bnd_eq, bd_s, gin_nI, gz_0, gz_1, gcp_nI, n_lt, n_le, n_eq, n_eqm, m_eqn, m_eqm, n_ltm, m_ltn, n_lem, m_len, n_add, n_sub, n_mul, n_rem, n_div, n_cl, if_true, if_false, if_pos, if_neg, Nat.reduceAdd, Nat.reduceSub, Nat.reduceMul]
      exact this
theorem s_undo : S_undo Inv := by
  intro ctext_size ctext_at ctext_length ctext_token ctext_start ctext_number ctext_letters ctext_tokens ctext_starts ctext_numbers ctree_size ctree_data ctree_fresh cdraft_size cdraft_data cdraft_fresh cwanted_size cwanted_names cwanted_values cworker_makers cnow_data ctrial_data clisting_size clisting_names clisting_values clisting_kinds cpast_newest cpast_known cpast_states_data cpast_states_taken cimages_data cimages_taken mbranchMany mundos mletters mleaves mat mmark mnewMany mnewTables mitems mbranch mnow maside mpast mimages misKept mtext mnames mvalues mkinds mfresh mitem mmaker hI
  obtain ⟨hT, B, g, hTr, hN, ⟨w, U, hw, hU, rfl, rfl, rfl, hj⟩, hG⟩ := hI
  unfold fX8_undo fX9_undo fX2_pop
  by_cases q : U = 0
  · subst q
    exact ⟨(-nI 2, cnow_data, nI w, nI 0), (-nI 2, nI 0, mnow), by simp (disch := omega) only [lit_nI, of_nI, bnd_eq, bd_s, gin_nI, gz_0, gz_1, gcp_nI, n_lt, n_le, n_eq, n_eqm, m_eqn, m_eqm, n_ltm, m_ltn, n_lem, m_len, n_add, n_sub, n_mul, n_rem, n_div, n_cl, if_true, if_false, if_pos, if_neg, Nat.reduceAdd, Nat.reduceSub, Nat.reduceMul], by simp (disch := omega) only [lit_nI, of_nI, bnd_eq, bd_s, gin_nI, gz_0, gz_1, gcp_nI, n_lt, n_le, n_eq, n_eqm, m_eqn, m_eqm, n_ltm, m_ltn, n_lem, m_len, n_add, n_sub, n_mul, n_rem, n_div, n_cl, if_true, if_false, if_pos, if_neg, Nat.reduceAdd, Nat.reduceSub, Nat.reduceMul], rfl, hT, B, g, hTr, hN, ⟨w, 0, hw, by omega, rfl, rfl, rfl, hj⟩, hG⟩
  · obtain ⟨b1, b2⟩ := hj 0 (by omega)
    rw [show (w + 6 - 0) % 6 = w by omega] at b1 b2
    have e1 := f_bring cnow_data cpast_states_data cpast_states_taken (N := 744) (n := 6) (p := w) hw (by omega) (by omega) (by omega) b1
    have e2 := g_undo_l mpast mnow (U := U - 1) (by omega) 1000 0 (by omega) (by omega)
    rw [cpy_0] at e2
    refine ⟨(nI (U - 1), va_cpy cpast_states_data cnow_data (124 * w) 0 124, nI ((w + 6 - 1) % 6), nI (U - 1)), (nI (U - 1), nI (U - 1), va_cpy mpast mnow (124 * (U - 1)) 0 124), by simp (disch := omega) only [lit_nI, of_nI, bnd_eq, bd_s, gin_nI, gz_0, gz_1, gcp_nI, n_lt, n_le, n_eq, n_eqm, m_eqn, m_eqm, n_ltm, m_ltn, n_lem, m_len, n_add, n_sub, n_mul, n_rem, n_div, n_cl, if_true, if_false, if_pos, if_neg, Nat.reduceAdd, Nat.reduceSub, Nat.reduceMul, e1], by simp (disch := omega) only [lit_nI, of_nI, bnd_eq, bd_s, gin_nI, gz_0, gz_1, gcp_nI, n_lt, n_le, n_eq, n_eqm, m_eqn, m_eqm, n_ltm, m_ltn, n_lem, m_len, n_add, n_sub, n_mul, n_rem, n_div, n_cl, if_true, if_false, if_pos, if_neg, Nat.reduceAdd, Nat.reduceSub, Nat.reduceMul]; exact e2, rfl, hT, B, g, hTr, ?_, ⟨(w + 6 - 1) % 6, U - 1, by omega, by omega, rfl, rfl, rfl, fun j hjl => ?_⟩, hG⟩
    · refine b2.congr (fun i hi => ?_) (fun i hi => ?_)
      · exact cpy_in0 _ _ hi
      · show va_cpy mpast mnow (124 * (U - 1)) 0 124 i = mpast (124 * (U - 1 - 0) + i)
        rw [cpy_in0 _ _ hi, Nat.sub_zero]
    · obtain ⟨c1, c2⟩ := hj (j + 1) (by omega)
      rw [show ((w + 6 - 1) % 6 + 6 - j) % 6 = (w + 6 - (j + 1)) % 6 by omega, show U - 1 - 1 - j = U - 1 - (j + 1) by omega]
      exact ⟨c1, c2⟩
theorem g_keep_l (M im ik : Nat → Int32) {p : Nat} (hp : p < 2) : ∀ (n k : Nat), k ≤ 124 → 124 < k + n → fX9_keep_l13 M (nI p) n (va_cpy M im 0 (124 * p) k) ik (nI k) = some (M 121, va_cpy M im 0 (124 * p) 124, upd ik p (nI 1)) := by
  intro n
  induction n with
  | zero => intro k h1 h2; omega
  | succ n ih =>
    intro k h1 h2
    rw [fX9_keep_l13_s]
    unfold fX9_keep_b13
    by_cases e : k = 124
    · subst e
      simp (disch := omega) only [lit_nI, of_nI, bnd_eq, bd_s, gin_nI, gz_0, gz_1, gcp_nI, n_lt, n_le, n_eq, n_eqm, m_eqn, m_eqm, n_ltm, m_ltn, n_lem, m_len, n_add, n_sub, n_mul, n_rem, n_div, n_cl, if_true, if_false, if_pos, if_neg, Nat.reduceAdd, Nat.reduceSub, Nat.reduceMul]
    · have := ih (k + 1) (by omega) (by omega)
      rw [← cpy_s] at this
      simp only [Nat.zero_add] at this
      simp (disch := omega) only [lit_nI, of_nI, bnd_eq, bd_s, gin_nI, gz_0, gz_1, gcp_nI, n_lt, n_le, n_eq, n_eqm, m_eqn, m_eqm, n_ltm, m_ltn, n_lem, m_len, n_add, n_sub, n_mul, n_rem, n_div, n_cl, if_true, if_false, if_pos, if_neg, Nat.reduceAdd, Nat.reduceSub, Nat.reduceMul]
      exact this
theorem f_time (D : Nat → Int32) : fX4_time D = some (D 0) := by
  unfold fX4_time
  have e := f_read D (p := 0) (by omega)
  simp only [lit_nI]
  rw [e]
  rfl
theorem s_keep : S_keep Inv := by
  intro ctext_size ctext_at ctext_length ctext_token ctext_start ctext_number ctext_letters ctext_tokens ctext_starts ctext_numbers ctree_size ctree_data ctree_fresh cdraft_size cdraft_data cdraft_fresh cwanted_size cwanted_names cwanted_values cworker_makers cnow_data ctrial_data clisting_size clisting_names clisting_values clisting_kinds cpast_newest cpast_known cpast_states_data cpast_states_taken cimages_data cimages_taken mbranchMany mundos mletters mleaves mat mmark mnewMany mnewTables mitems mbranch mnow maside mpast mimages misKept mtext mnames mvalues mkinds mfresh mitem mmaker a1 hI
  obtain ⟨hT, B, g, hTr, hN, hP, hG⟩ := id hI
  unfold fX8_keep fX9_keep fX9_within
  simp only [lit_nI]
  rcases x_cases a1 2 (by omega) with h | h | ⟨p, hp, rfl⟩
  · exact ⟨(-nI 1, cimages_data, cimages_taken), (-nI 1, mimages, misKept), by rw [if_pos h], by rw [if_pos h]; rfl, rfl, hI⟩
  · have q0 := big_ff h (by omega) (k := 0) (by omega)
    have q1 := big_ff h (by omega) (k := 1) (by omega)
    have q2 := big_fm h (by omega)
    exact ⟨(-nI 1, cimages_data, cimages_taken), (-nI 1, mimages, misKept), by simp only [q0.1, q2.1, if_false], by simp only [q0.1, q1.2.2.1, if_false, if_true, bd_s], rfl, hI⟩
  · have e1 := f_put cnow_data cimages_data cimages_taken (N := 248) (n := 2) (p := p) hp (by omega) (by omega) (by omega)
    have e2 := g_keep_l mnow mimages misKept hp 1000 0 (by omega) (by omega)
    rw [cpy_0] at e2
    have e3 := f_time cnow_data
    refine ⟨(cnow_data 0, va_cpy cnow_data cimages_data 0 (124 * p) 124, upd cimages_taken p (nI 1)), (mnow 121, va_cpy mnow mimages 0 (124 * p) 124, upd misKept p (nI 1)), by simp (disch := omega) only [lit_nI, of_nI, bnd_eq, bd_s, gin_nI, gz_0, gz_1, gcp_nI, n_lt, n_le, n_eq, n_eqm, m_eqn, m_eqm, n_ltm, m_ltn, n_lem, m_len, n_add, n_sub, n_mul, n_rem, n_div, n_cl, if_true, if_false, if_pos, if_neg, Nat.reduceAdd, Nat.reduceSub, Nat.reduceMul, e1, e3], by simp (disch := omega) only [lit_nI, of_nI, bnd_eq, bd_s, gin_nI, gz_0, gz_1, gcp_nI, n_lt, n_le, n_eq, n_eqm, m_eqn, m_eqm, n_ltm, m_ltn, n_lem, m_len, n_add, n_sub, n_mul, n_rem, n_div, n_cl, if_true, if_false, if_pos, if_neg, Nat.reduceAdd, Nat.reduceSub, Nat.reduceMul]; exact e2, hN.2.1, hT, B, g, hTr, hN, hP, fun i hi => ?_⟩
    dsimp only
    by_cases q : i = p
    · subst q
      refine ⟨by rw [upd_s, upd_s], Or.inr ⟨upd_s _ _ _, hN.congr (fun j hj => ?_) (fun j hj => ?_)⟩⟩
      · show va_cpy _ _ _ _ _ (124 * i + j) = _
        rw [cpy_in _ _ hj, Nat.zero_add]
      · show va_cpy _ _ _ _ _ (124 * i + j) = _
        rw [cpy_in _ _ hj, Nat.zero_add]
    · rw [upd_n q, upd_n q]
      obtain ⟨c1, c2⟩ := hG i hi
      refine ⟨c1, c2.imp id (fun c => ⟨c.1, c.2.slice (fun j hj => ?_) (fun j hj => ?_)⟩)⟩
      · rw [cpy_out _ _ (by omega)]
      · rw [cpy_out _ _ (by omega)]
theorem g_back_l (im ik M : Nat → Int32) (un : Int32) {p : Nat} (hp : p < 2) : ∀ (n k : Nat), k ≤ 124 → 124 < k + n → fX9_back_l25 im ik (nI p) n un (va_cpy im M (124 * p) 0 k) (nI k) = some (im (124 * p + 121), nI 0, va_cpy im M (124 * p) 0 124) := by
  intro n
  induction n with
  | zero => intro k h1 h2; omega
  | succ n ih =>
    intro k h1 h2
    rw [fX9_back_l25_s]
    unfold fX9_back_b25
    by_cases e : k = 124
    · subst e
      simp (disch := omega) only [lit_nI, of_nI, bnd_eq, bd_s, gin_nI, gz_0, gz_1, gcp_nI, n_lt, n_le, n_eq, n_eqm, m_eqn, m_eqm, n_ltm, m_ltn, n_lem, m_len, n_add, n_sub, n_mul, n_rem, n_div, n_cl, if_true, if_false, if_pos, if_neg, Nat.reduceAdd, Nat.reduceSub, Nat.reduceMul]
      rw [cpy_in0 _ _ (by omega)]
    · have := ih (k + 1) (by omega) (by omega)
      rw [← cpy_s, Nat.zero_add] at this
      simp (disch := omega) only [lit_nI, of_nI, bnd_eq, bd_s, gin_nI, gz_0, gz_1, gcp_nI, n_lt, n_le, n_eq, n_eqm, m_eqn, m_eqm, n_ltm, m_ltn, n_lem, m_len, n_add, n_sub, n_mul, n_rem, n_div, n_cl, if_true, if_false, if_pos, if_neg, Nat.reduceAdd, Nat.reduceSub, Nat.reduceMul]
      exact this
theorem s_back : S_back Inv := by
  intro ctext_size ctext_at ctext_length ctext_token ctext_start ctext_number ctext_letters ctext_tokens ctext_starts ctext_numbers ctree_size ctree_data ctree_fresh cdraft_size cdraft_data cdraft_fresh cwanted_size cwanted_names cwanted_values cworker_makers cnow_data ctrial_data clisting_size clisting_names clisting_values clisting_kinds cpast_newest cpast_known cpast_states_data cpast_states_taken cimages_data cimages_taken mbranchMany mundos mletters mleaves mat mmark mnewMany mnewTables mitems mbranch mnow maside mpast mimages misKept mtext mnames mvalues mkinds mfresh mitem mmaker a1 hI
  obtain ⟨hT, B, g, hTr, hN, hP, hG⟩ := id hI
  unfold fX8_back fX9_back fX9_within fX2_forget
  simp only [lit_nI]
  rcases x_cases a1 2 (by omega) with h | h | ⟨p, hp, rfl⟩
  · exact ⟨(-nI 1, cnow_data, cpast_known), (-nI 1, mundos, mnow), by rw [if_pos h], by rw [if_pos h]; rfl, rfl, hI⟩
  · have q0 := big_ff h (by omega) (k := 0) (by omega)
    have q1 := big_ff h (by omega) (k := 1) (by omega)
    have q2 := big_fm h (by omega)
    exact ⟨(-nI 1, cnow_data, cpast_known), (-nI 1, mundos, mnow), by simp only [q0.1, q2.1, if_false], by simp only [q0.1, q1.2.2.1, if_false, if_true, bd_s], rfl, hI⟩
  · obtain ⟨c1, c2⟩ := hG p hp
    have e0 := f_has cimages_taken (N := 248) (n := 2) (p := p) hp (by omega)
    rcases c2 with c2 | ⟨c2, c3⟩
    · rw [c1, c2, if_pos rfl] at e0
      exact ⟨(-nI 2, cnow_data, cpast_known), (-nI 2, mundos, mnow), by simp (disch := omega) only [lit_nI, of_nI, bnd_eq, bd_s, gin_nI, gz_0, gz_1, gcp_nI, n_lt, n_le, n_eq, n_eqm, m_eqn, m_eqm, n_ltm, m_ltn, n_lem, m_len, n_add, n_sub, n_mul, n_rem, n_div, n_cl, if_true, if_false, if_pos, if_neg, Nat.reduceAdd, Nat.reduceSub, Nat.reduceMul, e0], by simp (disch := omega) only [lit_nI, of_nI, bnd_eq, bd_s, gin_nI, gz_0, gz_1, gcp_nI, n_lt, n_le, n_eq, n_eqm, m_eqn, m_eqm, n_ltm, m_ltn, n_lem, m_len, n_add, n_sub, n_mul, n_rem, n_div, n_cl, if_true, if_false, if_pos, if_neg, Nat.reduceAdd, Nat.reduceSub, Nat.reduceMul, c2], rfl, hI⟩
    · rw [c1, c2, if_neg (by rw [n_eq (by omega) (by omega)]; omega)] at e0
      have e1 := f_bring cnow_data cimages_data cimages_taken (N := 248) (n := 2) (p := p) hp (by omega) (by omega) (by omega) (c1.trans c2)
      have e2 := g_back_l mimages misKept mnow mundos hp 1000 0 (by omega) (by omega)
      rw [cpy_0] at e2
      have e3 := f_time (va_cpy cimages_data cnow_data (124 * p) 0 124)
      obtain ⟨w, U, hw, hU, rfl, -, -, -⟩ := hP
      refine ⟨(va_cpy cimages_data cnow_data (124 * p) 0 124 0, va_cpy cimages_data cnow_data (124 * p) 0 124, nI 0), (mimages (124 * p + 121), nI 0, va_cpy mimages mnow (124 * p) 0 124), by simp (disch := omega) only [lit_nI, of_nI, bnd_eq, bd_s, gin_nI, gz_0, gz_1, gcp_nI, n_lt, n_le, n_eq, n_eqm, m_eqn, m_eqm, n_ltm, m_ltn, n_lem, m_len, n_add, n_sub, n_mul, n_rem, n_div, n_cl, if_true, if_false, if_pos, if_neg, Nat.reduceAdd, Nat.reduceSub, Nat.reduceMul, e0, e1, e3], by simp (disch := omega) only [lit_nI, of_nI, bnd_eq, bd_s, gin_nI, gz_0, gz_1, gcp_nI, n_lt, n_le, n_eq, n_eqm, m_eqn, m_eqm, n_ltm, m_ltn, n_lem, m_len, n_add, n_sub, n_mul, n_rem, n_div, n_cl, if_true, if_false, if_pos, if_neg, Nat.reduceAdd, Nat.reduceSub, Nat.reduceMul, c2]; exact e2, ?_, hT, B, g, hTr, ?_, ⟨w, 0, hw, by omega, rfl, rfl, rfl, fun j hj => absurd hj (by omega)⟩, hG⟩
      · dsimp only
        rw [cpy_in0 _ _ (by omega)]
        exact c3.2.1
      · exact c3.congr (fun i hi => cpy_in0 _ _ hi) (fun i hi => cpy_in0 _ _ hi)
