/-! what is asked of the leaves -/
theorem nn0 {n : Nat} (h : n < 2 ^ 31) : ¬ nI n < nI 0 := nI_pos h
def lo (d : Nat → Nat → Nat) (X : Nat) : Nat → Nat
  | 0 => 0
  | n + 1 => lo d X n + if nmd (d n) < X then 1 else 0
theorem lo_s (d : Nat → Nat → Nat) (X n : Nat) : lo d X (n + 1) = lo d X n + if nmd (d n) < X then 1 else 0 := rfl
theorem lo_spec {d : Nat → Nat → Nat} {N : Nat} (hs : ∀ i j, i < j → j < N → nmd (d i) < nmd (d j)) (X : Nat) : ∀ n, n ≤ N → lo d X n ≤ n ∧ ∀ k, k < n → (k < lo d X n ↔ nmd (d k) < X) := by
  intro n
  induction n with
  | zero => intro _; exact ⟨Nat.le_refl _, fun k hk => absurd hk (by omega)⟩
  | succ n ih =>
    intro hn
    obtain ⟨h1, h2⟩ := ih (by omega)
    rw [lo_s]
    by_cases q : nmd (d n) < X
    · have hall : ∀ k, k < n → k < lo d X n := fun k hk => (h2 k hk).mpr (Nat.lt_trans (hs k n hk (by omega)) q)
      have hn0 : lo d X n = n := by
        rcases Nat.lt_or_ge (lo d X n) n with z | z
        · exact absurd (hall _ z) (by omega)
        · omega
      rw [if_pos q, hn0]
      refine ⟨by omega, fun k hk => ⟨fun _ => ?_, fun _ => hk⟩⟩
      rcases Nat.lt_or_ge k n with z | z
      · exact (h2 k z).mp (hall k z)
      · rw [show k = n by omega]; exact q
    · rw [if_neg q, Nat.add_zero]
      refine ⟨by omega, fun k hk => ?_⟩
      rcases Nat.lt_or_ge k n with z | z
      · exact h2 k z
      · rw [show k = n by omega]
        exact ⟨fun z => absurd z (by omega), fun z => absurd z q⟩
theorem f_name (cn : Nat → Int32) {k : Nat} (hk : k < 80) : fX0_name cn (nI k) = some (cn k) := by
  unfold fX0_name
  simp (disch := omega) only [lit_nI, of_nI, bnd_eq, bd_s, gin_nI, gz_0, gz_1, gcp_nI, n_lt, n_le, n_eq, n_eqm, m_eqn, m_eqm, n_ltm, m_ltn, n_lem, m_len, n_add, n_sub, n_mul, n_rem, n_div, n_cl, if_true, if_false, if_pos, if_neg, Nat.reduceAdd, Nat.reduceSub, Nat.reduceMul]
theorem f_value (cv : Nat → Int32) {k : Nat} (hk : k < 80) : fX0_value cv (nI k) = some (cv k) := by
  unfold fX0_value
  simp (disch := omega) only [lit_nI, of_nI, bnd_eq, bd_s, gin_nI, gz_0, gz_1, gcp_nI, n_lt, n_le, n_eq, n_eqm, m_eqn, m_eqm, n_ltm, m_ltn, n_lem, m_len, n_add, n_sub, n_mul, n_rem, n_div, n_cl, if_true, if_false, if_pos, if_neg, Nat.reduceAdd, Nat.reduceSub, Nat.reduceMul]
theorem f_kind (ck : Nat → Int32) {k : Nat} (hk : k < 80) : fX0_kind ck (nI k) = some (ck k) := by
  unfold fX0_kind
  simp (disch := omega) only [lit_nI, of_nI, bnd_eq, bd_s, gin_nI, gz_0, gz_1, gcp_nI, n_lt, n_le, n_eq, n_eqm, m_eqn, m_eqm, n_ltm, m_ltn, n_lem, m_len, n_add, n_sub, n_mul, n_rem, n_div, n_cl, if_true, if_false, if_pos, if_neg, Nat.reduceAdd, Nat.reduceSub, Nat.reduceMul]
theorem nmd_lt {e : Nat → Nat} (h : dOk e) : nmd e < 65536 := by
  obtain ⟨h1, h2, h3, h4, h5, h6, h7⟩ := h
  exact nm_lt (by omega) (by omega) (by omega) (by omega)
theorem f_firstFrom {N : Nat} {d : Nat → Nat → Nat} {cn cv ck mn mv mk : Nat → Int32} (h : LR N d cn cv ck mn mv mk) {X : Nat} (hX : X ≤ 70000) : fX0_firstFrom (nI N) cn (nI X) = some (if lo d X N = N then -nI 9 else nI (lo d X N)) := by
  obtain ⟨h1, h2, h3⟩ := h
  obtain ⟨l1, l2⟩ := lo_spec h3 X N (Nat.le_refl _)
  have main : ∀ (n k : Nat), k ≤ lo d X N → N < k + n → fX0_firstFrom_l2 (nI N) cn (nI X) n (nI k) = some (if lo d X N = N then -nI 9 else nI (lo d X N)) := by
    intro n
    induction n with
    | zero => intro k a1 a2; omega
    | succ n ih =>
      intro k a1 a2
      rw [fX0_firstFrom_l2_s]
      unfold fX0_firstFrom_b2
      simp only [lit_nI, bnd_eq]
      by_cases e : k = N
      · rw [if_pos (by rw [n_le (by omega) (by omega)]; omega), if_pos (by omega)]
      · rw [if_neg (by rw [n_le (by omega) (by omega)]; omega), f_name cn (by omega), bd_s, (h2 k (by omega)).2.1]
        have hn := nmd_lt (h2 k (by omega)).1
        by_cases q : nmd (d k) < X
        · rw [if_pos (by rw [n_lt (by omega) (by omega)]; exact q), n_add]
          have := (l2 k (by omega)).mpr q
          exact ih (k + 1) (by omega) (by omega)
        · rw [if_neg (by rw [n_lt (by omega) (by omega)]; exact q)]
          have : ¬ k < lo d X N := fun z => q ((l2 k (by omega)).mp z)
          rw [show lo d X N = k by omega, if_neg (by omega)]
  unfold fX0_firstFrom
  simp only [lit_nI]
  exact main 1000 0 (by omega) (by omega)
theorem g_codeOfLeaf {N : Nat} {d : Nat → Nat → Nat} {cn cv ck mn mv mk : Nat → Int32} (h : LR N d cn cv ck mn mv mk) {k : Nat} (hk : k < N) : fX9_codeOfLeaf mn (nI k) = some (nI (cdx (d k 0) (d k 1) (d k 2) (d k 3))) := by
  have h80 := h.1
  obtain ⟨⟨b1, b2, b3, b4, b5, b6, b7⟩, -, b8, -, -⟩ := h.2.1 k hk
  have e0 := b8 0 (by omega)
  have e1 := b8 1 (by omega)
  have e2 := b8 2 (by omega)
  have e3 := b8 3 (by omega)
  rw [Nat.add_zero] at e0
  have hc := g_codeOf (A := d k 0) (B := d k 1) (C := d k 2) (E := d k 3) (by omega) (by omega) (by omega) (by omega) (by omega)
  unfold fX9_codeOfLeaf
  simp (disch := omega) only [lit_nI, of_nI, bnd_eq, bd_s, gin_nI, gz_0, gz_1, gcp_nI, n_lt, n_le, n_eq, n_eqm, m_eqn, m_eqm, n_ltm, m_ltn, n_lem, m_len, n_add, n_sub, n_mul, n_rem, n_div, n_cl, if_true, if_false, if_pos, if_neg, Nat.reduceAdd, Nat.reduceSub, Nat.reduceMul, e0, e1, e2, e3, hc]
theorem cdx_lt {A B C E : Nat} (h : A ≤ 10) (hB : B ≤ 10) (hC : C ≤ 10) (hE : E ≤ 10) : cdx A B C E < 20000 := by unfold cdx; omega
theorem g_upTo {N : Nat} {d : Nat → Nat → Nat} {cn cv ck mn mv mk : Nat → Int32} (h : LR N d cn cv ck mn mv mk) {A B C E : Nat} (hA : 1 ≤ A ∧ A ≤ 10 ∧ B ≤ 10 ∧ C ≤ 10 ∧ E ≤ 10) : fX9_upTo (nI N) mn (nI (cdx A B C E)) = some (nI (lo d (nm A B C E + 1) N)) := by
  have h80 := h.1
  have hcx := cdx_lt hA.2.1 hA.2.2.1 hA.2.2.2.1 hA.2.2.2.2
  have main : ∀ (n k : Nat), k ≤ N → N < k + n → fX9_upTo_l4 (nI N) mn (nI (cdx A B C E)) n (nI (lo d (nm A B C E + 1) k)) (nI k) = some (nI (lo d (nm A B C E + 1) N)) := by
    intro n
    induction n with
    | zero => intro k a1 a2; omega
    | succ n ih =>
      intro k a1 a2
      rw [fX9_upTo_l4_s]
      unfold fX9_upTo_b4
      simp only [lit_nI, bnd_eq]
      by_cases e : k = N
      · rw [if_pos (by rw [n_le (by omega) (by omega)]; omega), e]
      · obtain ⟨b1, b2, b3, b4, b5, b6, b7⟩ := (h.2.1 k (by omega)).1
        have hcl := cdx_lt (A := d k 0) (B := d k 1) (C := d k 2) (E := d k 3) (by omega) (by omega) (by omega) (by omega)
        have ho := nm_ord (A := d k 0) (B := d k 1) (C := d k 2) (E := d k 3) (A' := A) (B' := B) (C' := C) (E' := E) (by omega) hA
        have := ih (k + 1) (by omega) (by omega)
        rw [lo_s] at this
        rw [if_neg (by rw [n_le (by omega) (by omega)]; omega), g_codeOfLeaf h (by omega), bd_s]
        by_cases q : nmd (d k) < nm A B C E + 1
        · have q2 : nm (d k 0) (d k 1) (d k 2) (d k 3) ≤ nm A B C E := Nat.le_of_lt_succ q
          have q3 := ho.mpr q2
          rw [if_pos q] at this
          rw [if_neg (by rw [n_lt (by omega) (by omega)]; omega), n_add, n_add]
          exact this
        · have q3 : ¬ cdx (d k 0) (d k 1) (d k 2) (d k 3) ≤ cdx A B C E := fun z => q (Nat.lt_succ_of_le (ho.mp z))
          rw [if_neg q] at this
          rw [if_pos (by rw [n_lt (by omega) (by omega)]; omega), n_add, n_add]
          exact this
  unfold fX9_upTo
  simp only [lit_nI]
  exact main 1000 0 (by omega) (by omega)
theorem s_told : S_told Inv := by
  intro ctext_size ctext_at ctext_length ctext_token ctext_start ctext_number ctext_letters ctext_tokens ctext_starts ctext_numbers ctree_size ctree_data ctree_fresh cdraft_size cdraft_data cdraft_fresh cwanted_size cwanted_names cwanted_values cworker_makers cnow_data ctrial_data clisting_size clisting_names clisting_values clisting_kinds cpast_newest cpast_known cpast_states_data cpast_states_taken cimages_data cimages_taken mbranchMany mundos mletters mleaves mat mmark mnewMany mnewTables mitems mbranch mnow maside mpast mimages misKept mtext mnames mvalues mkinds mfresh mitem mmaker a1 a2 hI
  obtain ⟨hT, B, g, hTr, hN, hP, hG⟩ := id hI
  obtain ⟨N, d, cn', cv', ck', mn', mv', mk', l1, l2, l3⟩ := list_both hTr hN clisting_size mleaves clisting_names clisting_values clisting_kinds mnames mvalues mkinds
  have hN80 := l1.1
  unfold fX8_told fX9_told
  rw [l2, l3]
  simp only [lit_nI, bd_s]
  have bad : ∀ (P Q : Option (Int32 × Int32 × (Nat → Int32) × (Nat → Int32) × (Nat → Int32))) (x y : Int32), x = y → P = some (x, nI N, cn', cv', ck') → Q = some (y, nI N, mn', mv', mk') → ∃ o p, P = some o ∧ Q = some p ∧ o.1 = p.1 ∧ Inv ctext_length ctext_letters ctree_size ctree_data cnow_data cpast_newest cpast_known cpast_states_data cpast_states_taken cimages_data cimages_taken mbranchMany mbranch mnow mpast mundos mimages misKept mtext mletters := fun P Q x y hxy h1 h2 => ⟨_, _, h1, h2, hxy, hI⟩
  have z10 : ¬ nI 1 = nI 0 := by rw [n_eq (by omega) (by omega)]; omega
  rcases within_w a1 (w := N) (by omega) with ⟨q, e⟩ | ⟨q, q2, e⟩ | ⟨k, hk, rfl, e⟩
  · rw [e]
    exact bad _ _ (-nI 5) (-nI 5) rfl (by rw [if_pos q]) rfl
  · rw [e]
    exact bad _ _ (-nI 5) (-nI 5) rfl (by rw [if_neg q2, if_pos q]) rfl
  · rw [e, bd_s, if_neg z10, if_neg (show ¬ nI k < nI 0 from nI_pos (by omega)), if_neg (by rw [n_le (by omega) (by omega)]; omega)]
    unfold fX9_within
    simp only [lit_nI]
    rcases x_cases a2 6 (by omega) with h | h | ⟨f, hf, rfl⟩
    · exact bad _ _ (-nI 5) (-nI 5) rfl (by rw [if_pos h]) (by rw [if_pos h]; rfl)
    · have q0 := big_ff h (by omega) (k := 0) (by omega)
      have q5 := big_ff h (by omega) (k := 5) (by omega)
      exact bad _ _ (-nI 5) (-nI 5) rfl (by simp only [q0.1, q5.2.1, if_false]) (by simp only [q0.1, q5.2.2.1, if_false, if_true, bd_s])
    · have c1 : ¬ nI f < nI 0 := nI_pos (by omega)
      have c2 : nI f ≤ nI 5 := by rw [n_le (by omega) (by omega)]; omega
      have c3 : ¬ nI 5 < nI f := by rw [n_lt (by omega) (by omega)]; omega
      rw [if_neg c1, if_pos c2, if_neg c1, if_neg c3, bd_s, if_neg z10]
      obtain ⟨b1, b2, b3, b4, b5⟩ := l1.2.1 k hk
      by_cases f4 : f = 4
      · subst f4
        refine bad _ _ (cv' k) (mv' k) b4 ?_ ?_
        · rw [if_pos rfl, f_value cv' (by omega), bd_s]
        · rw [if_pos (by rw [n_le (by omega) (by omega)]; omega), if_pos rfl, gin_nI (by omega) (by omega), n_cl (by omega)]
      · have f4' : ¬ nI f = nI 4 := by rw [n_eq (by omega) (by omega)]; exact f4
        by_cases f5 : f = 5
        · subst f5
          refine bad _ _ (ck' k) (mk' k) b5 ?_ ?_
          · rw [if_neg f4', if_pos rfl, f_kind ck' (by omega), bd_s]
          · rw [if_pos (by rw [n_le (by omega) (by omega)]; omega), if_neg f4', gin_nI (by omega) (by omega), n_cl (by omega)]
        · have f5' : ¬ nI f = nI 5 := by rw [n_eq (by omega) (by omega)]; exact f5
          have hd := dg_nm (A := d k 0) (B := d k 1) (C := d k 2) (E := d k 3) (by have := b1; unfold dOk at this; omega) (by have := b1; unfold dOk at this; omega) (by have := b1; unfold dOk at this; omega) (by have := b1; unfold dOk at this; omega)
          have hdk : dg (nmd (d k)) f = d k f := by
            rcases (show f = 0 ∨ f = 1 ∨ f = 2 ∨ f = 3 by omega) with rfl | rfl | rfl | rfl
            · exact hd.1
            · exact hd.2.1
            · exact hd.2.2.1
            · exact hd.2.2.2
          have hno := f_numberOf (x := nmd (d k)) (i := f) (nmd_lt b1) (by omega)
          rw [hdk] at hno
          refine bad _ _ (sh (d k f)) (sh (d k f)) rfl ?_ ?_
          · rw [if_neg f4', if_neg f5', f_name cn' (by omega), bd_s, b2, hno, bd_s]
          · rw [if_neg (by rw [n_le (by omega) (by omega)]; omega), n_mul, n_add, gin_nI (by omega) (by omega), n_cl (by omega), b3 f (by omega)]
theorem lo_N {N : Nat} {d : Nat → Nat → Nat} {cn cv ck mn mv mk : Nat → Int32} (h : LR N d cn cv ck mn mv mk) (X : Nat) : lo d X N ≤ N := (lo_spec h.2.2 X N (Nat.le_refl _)).1
theorem s_next : S_next Inv := by
  intro ctext_size ctext_at ctext_length ctext_token ctext_start ctext_number ctext_letters ctext_tokens ctext_starts ctext_numbers ctree_size ctree_data ctree_fresh cdraft_size cdraft_data cdraft_fresh cwanted_size cwanted_names cwanted_values cworker_makers cnow_data ctrial_data clisting_size clisting_names clisting_values clisting_kinds cpast_newest cpast_known cpast_states_data cpast_states_taken cimages_data cimages_taken mbranchMany mundos mletters mleaves mat mmark mnewMany mnewTables mitems mbranch mnow maside mpast mimages misKept mtext mnames mvalues mkinds mfresh mitem mmaker a1 a2 a3 a4 hI
  obtain ⟨hT, B, g, hTr, hN, hP, hG⟩ := id hI
  unfold fX8_next fX9_next
  simp only [lit_nI]
  rcases isName_both a1 a2 a3 a4 with ⟨e1, e2⟩ | ⟨A, B9, C, E, hA, hA9, hB9, hC, hE, rfl, rfl, rfl, rfl, e1, e2⟩
  · rw [e1, e2]
    exact ⟨(-nI 1, clisting_size, clisting_names, clisting_values, clisting_kinds), (-nI 1, mleaves, mnames, mvalues, mkinds), rfl, rfl, rfl, hI⟩
  · have z10 : ¬ nI 1 = nI 0 := by rw [n_eq (by omega) (by omega)]; omega
    obtain ⟨N, d, cn', cv', ck', mn', mv', mk', l1, l2, l3⟩ := list_both hTr hN clisting_size mleaves clisting_names clisting_values clisting_kinds mnames mvalues mkinds
    have hnm := f_nameOf (sh_1 A) (sh_1 B9) (sh_1 C) (sh_1 E) (by omega) (by omega) (by omega) (by omega)
    have hlt := nm_lt (A := A) (B := B9) (C := C) (E := E) (by omega) (by omega) (by omega) (by omega)
    have hff := f_firstFrom l1 (X := nm A B9 C E + 1) (by omega)
    have hcd := g_codeOf hA hA9 hB9 hC hE
    have hut := g_upTo l1 (A := A) (B := B9) (C := C) (E := E) ⟨hA, hA9, hB9, hC, hE⟩
    have hlo := lo_N l1 (nm A B9 C E + 1)
    have h80 := l1.1
    rw [e1, e2, bd_s, bd_s, if_neg z10, if_neg z10, l2, l3, bd_s, bd_s, hnm, hcd, bd_s, bd_s, n_add, hff, hut, bd_s, bd_s]
    by_cases q : lo d (nm A B9 C E + 1) N = N
    · rw [if_pos q, if_pos (by rw [n_le (by omega) (by omega)]; omega)]
      exact ⟨(-nI 9, nI N, cn', cv', ck'), (-nI 9, nI N, mn', mv', mk'), rfl, rfl, rfl, hI⟩
    · rw [if_neg q, if_neg (by rw [n_le (by omega) (by omega)]; omega)]
      exact ⟨(nI (lo d (nm A B9 C E + 1) N), nI N, cn', cv', ck'), (nI (lo d (nm A B9 C E + 1) N), nI N, mn', mv', mk'), rfl, rfl, rfl, hI⟩
theorem s_leaf : S_leaf Inv := by
  intro ctext_size ctext_at ctext_length ctext_token ctext_start ctext_number ctext_letters ctext_tokens ctext_starts ctext_numbers ctree_size ctree_data ctree_fresh cdraft_size cdraft_data cdraft_fresh cwanted_size cwanted_names cwanted_values cworker_makers cnow_data ctrial_data clisting_size clisting_names clisting_values clisting_kinds cpast_newest cpast_known cpast_states_data cpast_states_taken cimages_data cimages_taken mbranchMany mundos mletters mleaves mat mmark mnewMany mnewTables mitems mbranch mnow maside mpast mimages misKept mtext mnames mvalues mkinds mfresh mitem mmaker a1 a2 a3 a4 hI
  obtain ⟨hT, B, g, hTr, hN, hP, hG⟩ := id hI
  unfold fX8_leaf fX9_leaf
  simp only [lit_nI, bnd_eq]
  rcases isName_both a1 a2 a3 a4 with ⟨e1, e2⟩ | ⟨A, B9, C, E, hA, hA9, hB9, hC, hE, rfl, rfl, rfl, rfl, e1, e2⟩
  · rw [e1, e2]
    exact ⟨(-nI 1, clisting_size, clisting_names, clisting_values, clisting_kinds), (-nI 1, mleaves, mnames, mvalues, mkinds), rfl, rfl, rfl, hI⟩
  · have z10 : ¬ nI 1 = nI 0 := by rw [n_eq (by omega) (by omega)]; omega
    obtain ⟨N, d, cn', cv', ck', mn', mv', mk', l1, l2, l3⟩ := list_both hTr hN clisting_size mleaves clisting_names clisting_values clisting_kinds mnames mvalues mkinds
    have hnm := f_nameOf (sh_1 A) (sh_1 B9) (sh_1 C) (sh_1 E) (by omega) (by omega) (by omega) (by omega)
    have hlt := nm_lt (A := A) (B := B9) (C := C) (E := E) (by omega) (by omega) (by omega) (by omega)
    have hff := f_firstFrom l1 (X := nm A B9 C E) (by omega)
    have hcd := g_codeOf hA hA9 hB9 hC hE
    have hcx := cdx_lt hA9 hB9 hC hE
    have hut := g_upTo l1 (A := A) (B := B9) (C := C) (E := E) ⟨hA, hA9, hB9, hC, hE⟩
    obtain ⟨s1, s2⟩ := lo_spec l1.2.2 (nm A B9 C E) N (Nat.le_refl _)
    obtain ⟨t1, t2⟩ := lo_spec l1.2.2 (nm A B9 C E + 1) N (Nat.le_refl _)
    have h80 := l1.1
    rw [e1, e2, bd_s, bd_s, if_neg z10, if_neg z10, l2, l3, bd_s, hnm, bd_s, bd_s, hff, hcd, bd_s, bd_s, hut, bd_s]
    have fin : ∀ (x : Int32) (P Q : Option (Int32 × Int32 × (Nat → Int32) × (Nat → Int32) × (Nat → Int32))), P = some (x, nI N, cn', cv', ck') → Q = some (x, nI N, mn', mv', mk') → ∃ o p, P = some o ∧ Q = some p ∧ o.1 = p.1 ∧ Inv ctext_length ctext_letters ctree_size ctree_data cnow_data cpast_newest cpast_known cpast_states_data cpast_states_taken cimages_data cimages_taken mbranchMany mbranch mnow mpast mundos mimages misKept mtext mletters := fun x P Q h1 h2 => ⟨_, _, h1, h2, rfl, hI⟩
    by_cases q : lo d (nm A B9 C E) N < N ∧ nmd (d (lo d (nm A B9 C E) N)) = nm A B9 C E
    · obtain ⟨q1, q2⟩ := q
      have hlo1 : lo d (nm A B9 C E + 1) N = lo d (nm A B9 C E) N + 1 := by
        have a1 := (t2 _ q1).mpr (by omega)
        rcases Nat.lt_or_ge (lo d (nm A B9 C E) N + 1) (lo d (nm A B9 C E + 1) N) with z | z
        · have a2 := (t2 (lo d (nm A B9 C E) N + 1) (by omega)).mp z
          have a3 := l1.2.2 (lo d (nm A B9 C E) N) (lo d (nm A B9 C E) N + 1) (by omega) (by omega)
          omega
        · omega
      have hb := l1.2.1 _ q1
      refine fin (nI (lo d (nm A B9 C E) N)) _ _ ?_ ?_
      · rw [if_neg (show ¬ lo d (nm A B9 C E) N = N by omega), if_neg (by rw [n_eqm (by omega) (by omega) (by omega)]; exact id), f_name cn' (by omega), bd_s, hb.2.1, q2, if_pos rfl]
      · rw [hlo1, n_sub (by omega), Nat.add_sub_cancel, if_neg (nn0 (by omega)), g_codeOfLeaf l1 q1, bd_s, bd_s]
        have hcc : cdx (d (lo d (nm A B9 C E) N) 0) (d (lo d (nm A B9 C E) N) 1) (d (lo d (nm A B9 C E) N) 2) (d (lo d (nm A B9 C E) N) 3) = cdx A B9 C E := by
          have hok := hb.1
          unfold dOk at hok
          have o1 := nm_ord (A := d (lo d (nm A B9 C E) N) 0) (B := d (lo d (nm A B9 C E) N) 1) (C := d (lo d (nm A B9 C E) N) 2) (E := d (lo d (nm A B9 C E) N) 3) (A' := A) (B' := B9) (C' := C) (E' := E) (by omega) ⟨hA, hA9, hB9, hC, hE⟩
          have o2 := nm_ord (A' := d (lo d (nm A B9 C E) N) 0) (B' := d (lo d (nm A B9 C E) N) 1) (C' := d (lo d (nm A B9 C E) N) 2) (E' := d (lo d (nm A B9 C E) N) 3) (A := A) (B := B9) (C := C) (E := E) ⟨hA, hA9, hB9, hC, hE⟩ (by omega)
          have q2' : nm (d (lo d (nm A B9 C E) N) 0) (d (lo d (nm A B9 C E) N) 1) (d (lo d (nm A B9 C E) N) 2) (d (lo d (nm A B9 C E) N) 3) = nm A B9 C E := q2
          exact Nat.le_antisymm (o1.mpr (Nat.le_of_eq q2')) (o2.mpr (Nat.le_of_eq q2'.symm))
        rw [hcc, if_pos rfl]
    · refine fin (-nI 9) _ _ ?_ ?_
      · by_cases q1 : lo d (nm A B9 C E) N = N
        · rw [if_pos q1, if_pos rfl]
        · have q2 : ¬ nmd (d (lo d (nm A B9 C E) N)) = nm A B9 C E := fun z => q ⟨by omega, z⟩
          have hb := l1.2.1 (lo d (nm A B9 C E) N) (by omega)
          have hn := nmd_lt hb.1
          rw [if_neg q1, if_neg (by rw [n_eqm (by omega) (by omega) (by omega)]; exact id), f_name cn' (by omega), bd_s, hb.2.1, if_neg (by rw [n_eq (by omega) (by omega)]; exact q2)]
      · by_cases q1 : lo d (nm A B9 C E + 1) N = 0
        · rw [q1, if_pos (by decide +kernel)]
        · rw [n_sub (by omega), if_neg (nn0 (by omega)), g_codeOfLeaf l1 (show lo d (nm A B9 C E + 1) N - 1 < N by omega), bd_s, bd_s]
          have hb := l1.2.1 (lo d (nm A B9 C E + 1) N - 1) (by omega)
          have hok := hb.1
          unfold dOk at hok
          have hle := (t2 (lo d (nm A B9 C E + 1) N - 1) (by omega)).mp (by omega)
          have hne : nmd (d (lo d (nm A B9 C E + 1) N - 1)) ≠ nm A B9 C E := by
            intro z
            have w1 : ¬ lo d (nm A B9 C E + 1) N - 1 < lo d (nm A B9 C E) N := fun y => absurd ((s2 _ (by omega)).mp y) (by omega)
            rcases Nat.lt_or_ge (lo d (nm A B9 C E) N) (lo d (nm A B9 C E + 1) N - 1) with y | y
            · have w2 : ¬ nmd (d (lo d (nm A B9 C E) N)) < nm A B9 C E := fun x => absurd ((s2 _ (by omega)).mpr x) (by omega)
              have w3 := l1.2.2 _ _ y (by omega)
              omega
            · have w4 : lo d (nm A B9 C E) N = lo d (nm A B9 C E + 1) N - 1 := by omega
              exact q ⟨by omega, by rw [w4]; exact z⟩
          have hcl := cdx_lt (A := d (lo d (nm A B9 C E + 1) N - 1) 0) (B := d (lo d (nm A B9 C E + 1) N - 1) 1) (C := d (lo d (nm A B9 C E + 1) N - 1) 2) (E := d (lo d (nm A B9 C E + 1) N - 1) 3) (by omega) (by omega) (by omega) (by omega)
          have o2 := nm_ord (A' := d (lo d (nm A B9 C E + 1) N - 1) 0) (B' := d (lo d (nm A B9 C E + 1) N - 1) 1) (C' := d (lo d (nm A B9 C E + 1) N - 1) 2) (E' := d (lo d (nm A B9 C E + 1) N - 1) 3) (A := A) (B := B9) (C := C) (E := E) ⟨hA, hA9, hB9, hC, hE⟩ (by omega)
          have hne2 : nm (d (lo d (nm A B9 C E + 1) N - 1) 0) (d (lo d (nm A B9 C E + 1) N - 1) 1) (d (lo d (nm A B9 C E + 1) N - 1) 2) (d (lo d (nm A B9 C E + 1) N - 1) 3) ≠ nm A B9 C E := hne
          have hle2 : nm (d (lo d (nm A B9 C E + 1) N - 1) 0) (d (lo d (nm A B9 C E + 1) N - 1) 1) (d (lo d (nm A B9 C E + 1) N - 1) 2) (d (lo d (nm A B9 C E + 1) N - 1) 3) < nm A B9 C E + 1 := hle
          rw [if_neg]
          rw [n_eq (by omega) (by omega)]
          intro z
          have := o2.mp (Nat.le_of_eq z.symm)
          omega
