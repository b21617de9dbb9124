/-! bulks, walks, values -/
def rho (d : Nat → Nat → Nat) (v : Nat → Int32) (k : Nat) : Nat := (if d k 3 = 0 then 3 else 4) + (if nI 10 ≤ v k then (if nI 100 ≤ v k then 3 else 2) else 1)
theorem rho_b (d : Nat → Nat → Nat) (v : Nat → Int32) (k : Nat) : 4 ≤ rho d v k ∧ rho d v k ≤ 7 := by
  unfold rho
  split <;> split <;> (try split) <;> omega
theorem f_roomOf {N : Nat} {d : Nat → Nat → Nat} {cn cv ck mn mv mk : Nat → Int32} (h : LR N d cn cv ck mn mv mk) {k : Nat} (hk : k < N) : fX0_roomOf cn cv (nI k) = some (nI (rho d cv k)) := by
  have h80 := h.1
  obtain ⟨b1, b2, -, -, -⟩ := h.2.1 k hk
  have hok := b1
  unfold dOk at hok
  have hd := dg_nm (A := d k 0) (B := d k 1) (C := d k 2) (E := d k 3) (by omega) (by omega) (by omega) (by omega)
  have hno := f_numberOf (x := nmd (d k)) (i := 3) (nmd_lt b1) (by omega)
  rw [show dg (nmd (d k)) 3 = d k 3 from hd.2.2.2] at hno
  have hs := sh_m1 (d := d k 3) (by omega)
  unfold fX0_roomOf fX0_roomOf_b18 rho
  simp only [lit_nI]
  rw [f_name cn (by omega), bd_s, b2, hno, bd_s, f_value cv (by omega)]
  simp only [bd_s]
  by_cases q : d k 3 = 0
  · rw [if_pos (hs.mpr q), if_pos q]
    by_cases q1 : nI 10 ≤ cv k
    · rw [if_pos q1, if_pos q1]
      by_cases q2 : nI 100 ≤ cv k
      · rw [if_pos q2, if_pos q2, n_add]
      · rw [if_neg q2, if_neg q2, n_add]
    · rw [if_neg q1, if_neg q1, n_add]
  · rw [if_neg (fun z => q (hs.mp z)), if_neg q]
    by_cases q1 : nI 10 ≤ cv k
    · rw [if_pos q1, if_pos q1]
      by_cases q2 : nI 100 ≤ cv k
      · rw [if_pos q2, if_pos q2, n_add]
      · rw [if_neg q2, if_neg q2, n_add]
    · rw [if_neg q1, if_neg q1, n_add]
theorem g_roomOf {N : Nat} {d : Nat → Nat → Nat} {cn cv ck mn mv mk : Nat → Int32} (h : LR N d cn cv ck mn mv mk) {k : Nat} (hk : k < N) : fX9_roomOf mn mv (nI k) = some (nI (rho d cv k)) := by
  have h80 := h.1
  obtain ⟨b1, -, b3, b4, -⟩ := h.2.1 k hk
  have hok := b1
  unfold dOk at hok
  have hs := sh_lt0 (d := d k 3) (by omega)
  have h9 : ∀ v : Int32, (v ≤ nI 9 ↔ ¬ nI 10 ≤ v) ∧ (v ≤ nI 99 ↔ ¬ nI 100 ≤ v) := by
    intro v
    simp only [le_T, nI_T (show 9 < 2 ^ 31 by omega), nI_T (show 10 < 2 ^ 31 by omega), nI_T (show 99 < 2 ^ 31 by omega), nI_T (show 100 < 2 ^ 31 by omega)]
    omega
  have h10 : nI 100 ≤ cv k → nI 10 ≤ cv k := by
    simp only [le_T, nI_T (show 10 < 2 ^ 31 by omega), nI_T (show 100 < 2 ^ 31 by omega)]
    omega
  have hle : (nI 0 ≤ sh (d k 3)) ↔ ¬ d k 3 = 0 := by
    rw [le_T, sh_T (by omega), nI_T (by omega)]
    omega
  unfold fX9_roomOf fX9_roomOf_b18 rho
  simp only [lit_nI]
  rw [n_mul, n_add, n_cl (by omega), b3 3 (by omega), n_cl (by omega), ← b4]
  simp (disch := omega) only [gin_nI]
  simp only [(h9 (cv k)).1, (h9 (cv k)).2, hle]
  by_cases q : d k 3 = 0
  · rw [if_neg (fun z => z q), if_pos q]
    by_cases q2 : nI 100 ≤ cv k
    · rw [if_neg (fun z => z q2), if_pos (h10 q2), if_pos q2, n_add]
    · rw [if_pos q2]
      by_cases q1 : nI 10 ≤ cv k
      · rw [if_neg (fun z => z q1), if_pos q1, if_neg q2, n_add]
      · rw [if_pos q1, if_neg q1, n_add]
  · rw [if_pos q, if_neg q]
    by_cases q2 : nI 100 ≤ cv k
    · rw [if_neg (fun z => z q2), if_pos (h10 q2), if_pos q2, n_add]
    · rw [if_pos q2]
      by_cases q1 : nI 10 ≤ cv k
      · rw [if_neg (fun z => z q1), if_pos q1, if_neg q2, n_add]
      · rw [if_pos q1, if_neg q1, n_add]
theorem bulk_l {N : Nat} {d : Nat → Nat → Nat} {cn cv ck mn mv mk : Nat → Int32} (h : LR N d cn cv ck mn mv mk) {a W R : Nat} (hW : W ≤ 99) (hR : R ≤ 999) : ∀ (n m k u : Nat), a + k ≤ N → k ≤ W → u ≤ R → N - (a + k) < n → N - (a + k) < m → ∃ G, G ≤ W ∧ k ≤ G ∧ a + G ≤ N ∧ fX0_fitting_l9 (nI N) cn cv (nI a) (nI W) (nI R) n (nI k) (nI u) (nI (a + k)) = some (nI G) ∧ fX9_bulkFrom_l6 (nI N) mn mv (nI a) (nI W) (nI R) m (nI k) (nI (R - u)) = some (nI G) := by
  have h80 := h.1
  intro n
  induction n with
  | zero => intro m k u h1 h2 h3 h4; omega
  | succ n ih =>
    intro m k u h1 h2 h3 h4 h5
    obtain ⟨m, rfl⟩ : ∃ m', m = m' + 1 := ⟨m - 1, by omega⟩
    rw [fX0_fitting_l9_s, fX9_bulkFrom_l6_s]
    unfold fX0_fitting_b9 fX9_bulkFrom_b6
    simp only [lit_nI, bnd_eq, n_add]
    by_cases e1 : a + k = N
    · refine ⟨k, h2, by omega, h1, ?_, ?_⟩
      · rw [if_pos (by rw [n_le (by omega) (by omega)]; omega)]
      · by_cases e2 : W ≤ k
        · rw [if_pos (by rw [n_le (by omega) (by omega)]; omega)]
        · rw [if_neg (by rw [n_le (by omega) (by omega)]; omega), if_pos (by rw [n_le (by omega) (by omega)]; omega)]
    · have c1 : ¬ nI N ≤ nI (a + k) := by rw [n_le (by omega) (by omega)]; omega
      rw [if_neg c1]
      by_cases e2 : W ≤ k
      · have c2 : nI W ≤ nI k := by rw [n_le (by omega) (by omega)]; omega
        exact ⟨k, h2, by omega, h1, by rw [if_pos c2], by rw [if_pos c2]⟩
      · have c2 : ¬ nI W ≤ nI k := by rw [n_le (by omega) (by omega)]; omega
        have hb := rho_b d cv (a + k)
        rw [if_neg c2, if_neg c2, if_neg c1, f_roomOf h (by omega), g_roomOf h (by omega), bd_s, bd_s, bd_s, n_add]
        by_cases e3 : u + rho d cv (a + k) ≤ R
        · have c3 : nI (u + rho d cv (a + k)) ≤ nI R := by rw [n_le (by omega) (by omega)]; omega
          have c4 : ¬ nI (R - u) < nI (rho d cv (a + k)) := by rw [n_lt (by omega) (by omega)]; omega
          obtain ⟨G, g1, g2, g3, g4, g5⟩ := ih m (k + 1) (u + rho d cv (a + k)) (by omega) (by omega) (by omega) (by omega) (by omega)
          refine ⟨G, g1, by omega, g3, ?_, ?_⟩
          · rw [if_pos c3]
            exact g4
          · rw [if_neg c4, n_sub (by omega), show R - u - rho d cv (a + k) = R - (u + rho d cv (a + k)) by omega]
            exact g5
        · have c3 : ¬ nI (u + rho d cv (a + k)) ≤ nI R := by rw [n_le (by omega) (by omega)]; omega
          have c4 : nI (R - u) < nI (rho d cv (a + k)) := by rw [n_lt (by omega) (by omega)]; omega
          exact ⟨k, h2, by omega, h1, by rw [if_neg c3], by rw [if_pos c4]⟩
theorem bulk_both {N : Nat} {d : Nat → Nat → Nat} {cn cv ck mn mv mk : Nat → Int32} (h : LR N d cn cv ck mn mv mk) {a W R : Nat} (ha : a ≤ N) (hW : W ≤ 99) (hR : R ≤ 999) : ∃ G, G ≤ W ∧ a + G ≤ N ∧ fX0_fitting (nI N) cn cv (nI a) (nI W) (nI R) = some (nI G) ∧ fX9_bulkFrom (nI N) mn mv (nI a) (nI W) (nI R) = some (nI G) := by
  have h80 := h.1
  obtain ⟨G, g1, g2, g3, g4, g5⟩ := bulk_l h (a := a) hW hR 1000 1000 0 0 (by omega) (by omega) (by omega) (by omega) (by omega)
  refine ⟨G, g1, g3, ?_, ?_⟩
  · unfold fX0_fitting
    simp only [lit_nI]
    exact g4
  · unfold fX9_bulkFrom
    simp only [lit_nI]
    exact g5
theorem s_bulk : S_bulk Inv := by
  intro ctext_size ctext_at ctext_length ctext_token ctext_start ctext_number ctext_letters ctext_tokens ctext_starts ctext_numbers ctree_size ctree_data ctree_fresh cdraft_size cdraft_data cdraft_fresh cwanted_size cwanted_names cwanted_values cworker_makers cnow_data ctrial_data clisting_size clisting_names clisting_values clisting_kinds cpast_newest cpast_known cpast_states_data cpast_states_taken cimages_data cimages_taken mbranchMany mundos mletters mleaves mat mmark mnewMany mnewTables mitems mbranch mnow maside mpast mimages misKept mtext mnames mvalues mkinds mfresh mitem mmaker a1 a2 a3 a4 a5 a6 hI
  obtain ⟨hT, B, g, hTr, hN, hP, hG⟩ := id hI
  have z10 : ¬ nI 1 = nI 0 := by rw [n_eq (by omega) (by omega)]; omega
  have bad : ∀ (P Q : Option (Int32 × Int32 × (Nat → Int32) × (Nat → Int32) × (Nat → Int32))), P = some (-nI 1, clisting_size, clisting_names, clisting_values, clisting_kinds) → Q = some (-nI 1, mleaves, mnames, mvalues, mkinds) → ∃ o p, P = some o ∧ Q = some p ∧ o.1 = p.1 ∧ Inv ctext_length ctext_letters ctree_size ctree_data cnow_data cpast_newest cpast_known cpast_states_data cpast_states_taken cimages_data cimages_taken mbranchMany mbranch mnow mpast mundos mimages misKept mtext mletters := fun P Q h1 h2 => ⟨_, _, h1, h2, rfl, hI⟩
  unfold fX8_bulk fX9_bulk
  simp only [lit_nI]
  rcases isName_both a1 a2 a3 a4 with ⟨e1, e2⟩ | ⟨A, B9, C, E, hA, hA9, hB9, hC, hE, rfl, rfl, rfl, rfl, e1, e2⟩
  · rw [e1, e2]
    exact bad _ _ rfl rfl
  · rw [e1, e2, bd_s, bd_s, if_neg z10, if_neg z10]
    unfold fX9_within
    simp only [lit_nI]
    rcases x_cases a5 100 (by omega) with h | h | ⟨W, hW, rfl⟩
    · exact bad _ _ (by rw [if_pos h]) (by rw [if_pos h]; rfl)
    · have q0 := big_ff h (by omega) (k := 0) (by omega)
      have q9 := big_ff h (by omega) (k := 99) (by omega)
      exact bad _ _ (by simp only [q0.1, q9.2.2.1, if_false, if_true]) (by simp only [q0.1, q9.2.2.1, if_false, if_true, bd_s])
    · have c1 : ¬ nI W < nI 0 := nn0 (by omega)
      have c2 : ¬ nI 99 < nI W := by rw [n_lt (by omega) (by omega)]; omega
      rw [if_neg c1, if_neg c2, if_neg c1, if_neg c2, bd_s, if_neg z10]
      rcases x_cases a6 1000 (by omega) with h | h | ⟨R, hR, rfl⟩
      · exact bad _ _ (by rw [if_pos h]) (by rw [if_pos h]; rfl)
      · have q0 := big_ff h (by omega) (k := 0) (by omega)
        have q9 := big_ff h (by omega) (k := 999) (by omega)
        exact bad _ _ (by simp only [q0.1, q9.2.1, if_false]) (by simp only [q0.1, q9.2.2.1, if_false, if_true, bd_s])
      · have c3 : ¬ nI R < nI 0 := nn0 (by omega)
        have c4 : ¬ nI 999 < nI R := by rw [n_lt (by omega) (by omega)]; omega
        have c5 : nI R ≤ nI 999 := by rw [n_le (by omega) (by omega)]; omega
        obtain ⟨N, d, cn', cv', ck', mn', mv', mk', l1, l2, l3⟩ := list_both hTr hN clisting_size mleaves clisting_names clisting_values clisting_kinds mnames mvalues mkinds
        have hnm := f_nameOf (sh_1 A) (sh_1 B9) (sh_1 C) (sh_1 E) (by omega) (by omega) (by omega) (by omega)
        have hlt := nm_lt (A := A) (B := B9) (C := C) (E := E) (by omega) (by omega) (by omega) (by omega)
        have hff := f_firstFrom l1 (X := nm A B9 C E + 1) (by omega)
        have hcd := g_codeOf hA hA9 hB9 hC hE
        have hut := g_upTo l1 (A := A) (B := B9) (C := C) (E := E) ⟨hA, hA9, hB9, hC, hE⟩
        have hlo := lo_N l1 (nm A B9 C E + 1)
        have h80 := l1.1
        obtain ⟨G, g1, g2, g3, g4⟩ := bulk_both l1 hlo (W := W) (R := R) (by omega) (by omega)
        rw [if_neg c3, if_pos c5, if_neg c3, if_neg c4, bd_s, if_neg z10, l2, l3, bd_s, bd_s, hnm, hcd, bd_s, bd_s, n_add, hff, hut, bd_s, bd_s, g4, bd_s]
        by_cases q : lo d (nm A B9 C E + 1) N = N
        · rw [if_pos q, if_pos rfl]
          have : G = 0 := by omega
          exact ⟨(nI 0, nI N, cn', cv', ck'), (nI G, nI N, mn', mv', mk'), rfl, rfl, by rw [this], hI⟩
        · rw [if_neg q, if_neg (by rw [n_eqm (by omega) (by omega) (by omega)]; exact id), g3, bd_s]
          exact ⟨(nI G, nI N, cn', cv', ck'), (nI G, nI N, mn', mv', mk'), rfl, rfl, rfl, hI⟩
theorem walk_l {N : Nat} {d : Nat → Nat → Nat} {cn cv ck mn mv mk : Nat → Int32} (h : LR N d cn cv ck mn mv mk) {R : Nat} (hR : R ≤ 999) (ts bm : Int32) (td nd br M : Nat → Int32) : ∀ (n m s k : Nat), k ≤ N → s ≤ k → N - k < n → N - k < m → ∃ x : Int32, fX8_walk_l23 ts td nd (nI R) n (nI N) cn cv ck (nI s) (nI k) = some (x, nI N, cn, cv, ck) ∧ fX9_walk_l21 bm br M (nI R) m (nI N) mn mv mk (nI s) (nI k) = some (x, nI N, mn, mv, mk) := by
  have h80 := h.1
  intro n
  induction n with
  | zero => intro m s k h1 h2 h3; omega
  | succ n ih =>
    intro m s k h1 h2 h3 h4
    obtain ⟨m, rfl⟩ : ∃ m', m = m' + 1 := ⟨m - 1, by omega⟩
    rw [fX8_walk_l23_s, fX9_walk_l21_s]
    unfold fX8_walk_b23 fX9_walk_b21
    simp only [lit_nI, bnd_eq]
    by_cases e : k = N
    · have c1 : nI N ≤ nI k := by rw [n_le (by omega) (by omega)]; omega
      refine ⟨nI s, ?_, by rw [if_pos c1]⟩
      by_cases e2 : s = N
      · rw [if_pos (by rw [n_le (by omega) (by omega)]; omega)]
      · rw [if_neg (by rw [n_le (by omega) (by omega)]; omega), if_pos c1]
    · have c1 : ¬ nI N ≤ nI k := by rw [n_le (by omega) (by omega)]; omega
      have c2 : ¬ nI N ≤ nI s := by rw [n_le (by omega) (by omega)]; omega
      obtain ⟨G, g1, g2, g3, g4⟩ := bulk_both h (a := k) h1 (W := 99) (R := R) (by omega) hR
      rw [if_neg c2, if_neg c1, if_neg c1, g3, g4, bd_s, bd_s]
      by_cases e3 : G = 0
      · exact ⟨-nI 9, by rw [e3, if_pos rfl], by rw [e3, if_pos rfl]⟩
      · have c3 : ¬ nI G = nI 0 := by rw [n_eq (by omega) (by omega)]; exact e3
        obtain ⟨x, j1, j2⟩ := ih m (s + 1) (k + G) (by omega) (by omega) (by omega) (by omega)
        refine ⟨x, ?_, ?_⟩
        · rw [if_neg c3, n_add, n_add]
          exact j1
        · rw [if_neg c3, n_add, n_add]
          exact j2
theorem s_walk : S_walk Inv := by
  intro ctext_size ctext_at ctext_length ctext_token ctext_start ctext_number ctext_letters ctext_tokens ctext_starts ctext_numbers ctree_size ctree_data ctree_fresh cdraft_size cdraft_data cdraft_fresh cwanted_size cwanted_names cwanted_values cworker_makers cnow_data ctrial_data clisting_size clisting_names clisting_values clisting_kinds cpast_newest cpast_known cpast_states_data cpast_states_taken cimages_data cimages_taken mbranchMany mundos mletters mleaves mat mmark mnewMany mnewTables mitems mbranch mnow maside mpast mimages misKept mtext mnames mvalues mkinds mfresh mitem mmaker a1 hI
  obtain ⟨hT, B, g, hTr, hN, hP, hG⟩ := id hI
  have z10 : ¬ nI 1 = nI 0 := by rw [n_eq (by omega) (by omega)]; omega
  unfold fX8_walk fX9_walk fX9_within
  simp only [lit_nI]
  rcases x_cases a1 1000 (by omega) with h | h | ⟨R, hR, rfl⟩
  · exact ⟨(-nI 1, clisting_size, clisting_names, clisting_values, clisting_kinds), (-nI 1, mleaves, mnames, mvalues, mkinds), by rw [if_pos h], by rw [if_pos h]; rfl, rfl, hI⟩
  · have q0 := big_ff h (by omega) (k := 0) (by omega)
    have q9 := big_ff h (by omega) (k := 999) (by omega)
    exact ⟨(-nI 1, clisting_size, clisting_names, clisting_values, clisting_kinds), (-nI 1, mleaves, mnames, mvalues, mkinds), by simp only [q0.1, q9.2.1, if_false], by simp only [q0.1, q9.2.2.1, if_false, if_true, bd_s], rfl, hI⟩
  · have c3 : ¬ nI R < nI 0 := nn0 (by omega)
    have c4 : ¬ nI 999 < nI R := by rw [n_lt (by omega) (by omega)]; omega
    have c5 : nI R ≤ nI 999 := by rw [n_le (by omega) (by omega)]; omega
    obtain ⟨N, d, cn', cv', ck', mn', mv', mk', l1, l2, l3⟩ := list_both hTr hN clisting_size mleaves clisting_names clisting_values clisting_kinds mnames mvalues mkinds
    have h80 := l1.1
    obtain ⟨x, j1, j2⟩ := walk_l l1 (R := R) (by omega) ctree_size mbranchMany ctree_data cnow_data mbranch mnow 1000 1000 0 0 (by omega) (by omega) (by omega) (by omega)
    refine ⟨(x, nI N, cn', cv', ck'), (x, nI N, mn', mv', mk'), ?_, ?_, rfl, hI⟩
    · rw [if_neg c3, if_pos c5, l2, bd_s]
      exact j1
    · rw [if_neg c3, if_neg c4, bd_s, if_neg z10, l3, bd_s]
      exact j2
theorem having1 {N : Nat} {d : Nat → Nat → Nat} {cn cv ck mn mv mk : Nat → Int32} (h : LR N d cn cv ck mn mv mk) (v bm : Int32) (br M : Nat → Int32) : ∀ (n m s k : Nat), k ≤ N → s ≤ k → N - k < n → N - k < m → ∃ x : Int32, fX0_howManyHave_l4 (nI N) cv v n (nI s) (nI k) = some x ∧ fX9_having_l16 bm br M v (-nI 1) m (nI N) mn mv mk (nI s) (nI k) = some (x, nI N, mn, mv, mk) := by
  have h80 := h.1
  intro n
  induction n with
  | zero => intro m s k h1 h2 h3; omega
  | succ n ih =>
    intro m s k h1 h2 h3 h4
    obtain ⟨m, rfl⟩ : ∃ m', m = m' + 1 := ⟨m - 1, by omega⟩
    rw [fX0_howManyHave_l4_s, fX9_having_l16_s]
    unfold fX0_howManyHave_b4 fX9_having_b16
    simp only [lit_nI, bnd_eq]
    by_cases e : k = N
    · have c1 : nI N ≤ nI k := by rw [n_le (by omega) (by omega)]; omega
      exact ⟨nI s, by rw [if_pos c1], by rw [if_pos c1, if_true]⟩
    · have c1 : ¬ nI N ≤ nI k := by rw [n_le (by omega) (by omega)]; omega
      have hv := (h.2.1 k (by omega)).2.2.2.1
      rw [if_neg c1, if_neg c1, f_value cv (by omega), bd_s, gin_nI (by omega) (by omega), n_cl (by omega), ← hv]
      by_cases q : cv k = v
      · obtain ⟨x, j1, j2⟩ := ih m (s + 1) (k + 1) (by omega) (by omega) (by omega) (by omega)
        refine ⟨x, ?_, ?_⟩
        · rw [if_pos q, n_add, n_add]
          exact j1
        · rw [if_pos q, if_neg (by rw [n_eqm (by omega) (by omega) (by omega)]; exact id), n_add, n_add]
          exact j2
      · obtain ⟨x, j1, j2⟩ := ih m s (k + 1) (by omega) (by omega) (by omega) (by omega)
        refine ⟨x, ?_, ?_⟩
        · rw [if_neg q, n_add]
          exact j1
        · rw [if_neg q, n_add]
          exact j2
theorem having2 {N : Nat} {d : Nat → Nat → Nat} {cn cv ck mn mv mk : Nat → Int32} (h : LR N d cn cv ck mn mv mk) (v bm y : Int32) (hy : ¬ y = -nI 1) (br M : Nat → Int32) : ∀ (n m s k : Nat), k ≤ N → s ≤ k → N - k < n → N - k < m → ∃ x : Int32, fX0_withValue_l5 (nI N) cv v y n (nI s) (nI k) = some x ∧ fX9_having_l16 bm br M v y m (nI N) mn mv mk (nI s) (nI k) = some (x, nI N, mn, mv, mk) := by
  have h80 := h.1
  intro n
  induction n with
  | zero => intro m s k h1 h2 h3; omega
  | succ n ih =>
    intro m s k h1 h2 h3 h4
    obtain ⟨m, rfl⟩ : ∃ m', m = m' + 1 := ⟨m - 1, by omega⟩
    rw [fX0_withValue_l5_s, fX9_having_l16_s]
    unfold fX0_withValue_b5 fX9_having_b16
    simp only [lit_nI, bnd_eq]
    by_cases e : k = N
    · have c1 : nI N ≤ nI k := by rw [n_le (by omega) (by omega)]; omega
      exact ⟨-nI 9, by rw [if_pos c1], by rw [if_pos c1, if_neg hy]⟩
    · have c1 : ¬ nI N ≤ nI k := by rw [n_le (by omega) (by omega)]; omega
      have hv := (h.2.1 k (by omega)).2.2.2.1
      rw [if_neg c1, if_neg c1, f_value cv (by omega), bd_s, gin_nI (by omega) (by omega), n_cl (by omega), ← hv]
      by_cases q : cv k = v
      · by_cases q2 : nI s = y
        · exact ⟨nI k, by rw [if_pos q, if_pos q2], by rw [if_pos q, if_pos q2]⟩
        · obtain ⟨x, j1, j2⟩ := ih m (s + 1) (k + 1) (by omega) (by omega) (by omega) (by omega)
          refine ⟨x, ?_, ?_⟩
          · rw [if_pos q, if_neg q2, n_add, n_add]
            exact j1
          · rw [if_pos q, if_neg q2, n_add, n_add]
            exact j2
      · obtain ⟨x, j1, j2⟩ := ih m s (k + 1) (by omega) (by omega) (by omega) (by omega)
        refine ⟨x, ?_, ?_⟩
        · rw [if_neg q, n_add]
          exact j1
        · rw [if_neg q, n_add]
          exact j2
theorem s_having : S_having Inv := by
  intro ctext_size ctext_at ctext_length ctext_token ctext_start ctext_number ctext_letters ctext_tokens ctext_starts ctext_numbers ctree_size ctree_data ctree_fresh cdraft_size cdraft_data cdraft_fresh cwanted_size cwanted_names cwanted_values cworker_makers cnow_data ctrial_data clisting_size clisting_names clisting_values clisting_kinds cpast_newest cpast_known cpast_states_data cpast_states_taken cimages_data cimages_taken mbranchMany mundos mletters mleaves mat mmark mnewMany mnewTables mitems mbranch mnow maside mpast mimages misKept mtext mnames mvalues mkinds mfresh mitem mmaker a1 a2 hI
  obtain ⟨hT, B, g, hTr, hN, hP, hG⟩ := id hI
  unfold fX8_having fX9_having
  simp only [lit_nI]
  by_cases q : -nI 1 ≤ a2
  · obtain ⟨N, d, cn', cv', ck', mn', mv', mk', l1, l2, l3⟩ := list_both hTr hN clisting_size mleaves clisting_names clisting_values clisting_kinds mnames mvalues mkinds
    have h80 := l1.1
    rw [if_pos q, if_pos q, l2, l3, bd_s, bd_s]
    by_cases q2 : a2 = -nI 1
    · obtain ⟨x, j1, j2⟩ := having1 l1 a1 mbranchMany mbranch mnow 1000 1000 0 0 (by omega) (by omega) (by omega) (by omega)
      refine ⟨(x, nI N, cn', cv', ck'), (x, nI N, mn', mv', mk'), ?_, ?_, rfl, hI⟩
      · unfold fX0_howManyHave
        simp only [lit_nI]
        rw [if_pos q2, j1]
        rfl
      · rw [q2]
        exact j2
    · obtain ⟨x, j1, j2⟩ := having2 l1 a1 mbranchMany a2 q2 mbranch mnow 1000 1000 0 0 (by omega) (by omega) (by omega) (by omega)
      refine ⟨(x, nI N, cn', cv', ck'), (x, nI N, mn', mv', mk'), ?_, ?_, rfl, hI⟩
      · unfold fX0_withValue
        simp only [lit_nI]
        rw [if_neg q2, j1]
        rfl
      · exact j2
  · rw [if_neg q, if_neg q]
    exact ⟨(-nI 1, clisting_size, clisting_names, clisting_values, clisting_kinds), (-nI 1, mleaves, mnames, mvalues, mkinds), rfl, rfl, rfl, hI⟩
