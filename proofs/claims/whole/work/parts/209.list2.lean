/-! the listing: columns, branches -/
theorem cols_both {B : Nat} {g : Nat → Nat → Nat} {ts bm : Int32} {td br : Nat → Int32} (h : TreeR B g ts td bm br) {D M : Nat → Int32} (hN : NowR (tc g B) D M) {i : Nat} (hi : i < B) (h2 : g i 2 = 2) :
    ∀ (n m c N : Nat) (d : Nat → Nat → Nat) (cn cv ck mn mv mk : Nat → Int32), LR N d cn cv ck mn mv mk → c ≤ g i 3 + 1 → N + 9 * (g i 3 + 1 - c) ≤ 80 → (∀ k, k < N → nmd (d k) < nm (g i 0 + 1) (g i 1 + 1) (c + 1) 2) → g i 3 + 1 - c < n → g i 3 + 1 - c < m →
    ∃ (N' : Nat) (d' : Nat → Nat → Nat) (cn' cv' ck' mn' mv' mk' : Nat → Int32), LR N' d' cn' cv' ck' mn' mv' mk' ∧ N' ≤ N + 9 * (g i 3 + 1 - c) ∧ (∀ k, k < N' → nmd (d' k) < nm (g i 0 + 1) (g i 1 + 1) 5 2) ∧
      fX0_listCells_l3 D (nI ((g i 0 + 1) * 4096 + (g i 1 + 1) * 256)) (nI (tc g i)) (nI (g i 3)) n (nI N) cn cv ck (nI c) = some (nI N', cn', cv', ck') ∧
      fX9_laysTable_l8 br M (nI i) m (nI N) mn mv mk (nI (tc g i)) (nI c) = some (nI N', mn', mv', mk') := by
  have hK := (h.2.2.2.2.2.1 i hi).2.2.2.2.2.2.2 h2
  have hp := g_part h hi (f := 3) (by omega)
  intro n
  induction n with
  | zero => intro m c N d cn cv ck mn mv mk h1 h3 h4 h5 h6; omega
  | succ n ih =>
    intro m c N d cn cv ck mn mv mk h1 h3 h4 h5 h6 h7
    obtain ⟨m, rfl⟩ : ∃ m', m = m' + 1 := ⟨m - 1, by omega⟩
    rw [fX0_listCells_l3_s, fX9_laysTable_l8_s]
    unfold fX0_listCells_b3 fX9_laysTable_b8
    simp only [lit_nI]
    rw [hp, bd_s]
    by_cases e : c = g i 3 + 1
    · have hq : nI (g i 3) < nI c := by rw [n_lt (by omega) (by omega)]; omega
      exact ⟨N, d, cn, cv, ck, mn, mv, mk, h1, by omega, fun k hk => Nat.lt_of_lt_of_le (h5 k hk) (by unfold nm; omega), by rw [if_pos hq], by rw [if_pos hq]⟩
    · have hq : ¬ nI (g i 3) < nI c := by rw [n_lt (by omega) (by omega)]; omega
      have hq3 : ¬ nI 3 < nI c := by rw [n_lt (by omega) (by omega)]; omega
      obtain ⟨N1, d1, cn1, cv1, ck1, mn1, mv1, mk1, a1, a2, a3, a4, a5⟩ := rows_both h hN hi h2 (c := c) (by omega) (fX0_listCells_l3 D (nI ((g i 0 + 1) * 4096 + (g i 1 + 1) * 256)) (nI (tc g i)) (nI (g i 3)) n) (fX9_laysTable_l8 br M (nI i) m) (nI (g i 3)) 1000 1000 1 N d cn cv ck mn mv mk h1 (by omega) (by omega) (by omega) h5 (by omega) (by omega)
      obtain ⟨N', d', cn', cv', ck', mn', mv', mk', b1, b2, b3, b4, b5⟩ := ih m (c + 1) N1 d1 cn1 cv1 ck1 mn1 mv1 mk1 a1 (by omega) (by omega) (fun k hk => Nat.lt_of_lt_of_le (a3 k hk) (by unfold nm; omega)) (by omega) (by omega)
      refine ⟨N', d', cn', cv', ck', mn', mv', mk', b1, by omega, b3, ?_, ?_⟩
      · rw [if_neg hq, if_neg hq3, a4]
        exact b4
      · rw [if_neg hq, a5]
        exact b5
theorem branch_lt {B : Nat} {g : Nat → Nat → Nat} {ts bm : Int32} {td br : Nat → Int32} (h : TreeR B g ts td bm br) {i : Nat} (hi : i + 1 < B) : nm (g i 0 + 1) (g i 1 + 1) 5 2 ≤ nm (g (i + 1) 0 + 1) (g (i + 1) 1 + 1) 0 0 := by
  have h1 := h.2.2.2.2.2.1 i (by omega)
  have h2 := h.2.2.2.2.2.1 (i + 1) hi
  have h3 := h.2.2.2.2.2.2.2 i (i + 1) (by omega) hi
  unfold nm
  rcases (show g i 0 < g (i + 1) 0 ∨ (g i 0 = g (i + 1) 0 ∧ g i 1 < g (i + 1) 1) by omega) with q | ⟨q, q2⟩
  · omega
  · omega
theorem list_l {B : Nat} {g : Nat → Nat → Nat} {ts bm : Int32} {td br : Nat → Int32} (h : TreeR B g ts td bm br) {D M : Nat → Int32} (hN : NowR (tc g B) D M) :
    ∀ (n m i N : Nat) (d : Nat → Nat → Nat) (cn cv ck mn mv mk : Nat → Int32), LR N d cn cv ck mn mv mk → i ≤ B → N ≤ i + 36 * tc g i → (i < B → ∀ k, k < N → nmd (d k) < nm (g i 0 + 1) (g i 1 + 1) 0 0) → B - i < n → B - i < m →
    ∃ (N' : Nat) (d' : Nat → Nat → Nat) (cn' cv' ck' mn' mv' mk' : Nat → Int32), LR N' d' cn' cv' ck' mn' mv' mk' ∧
      fX0_listAll_l7 ts td D n (nI N) cn cv ck (nI i) = some (nI N', cn', cv', ck') ∧
      fX9_laysLeaves_l7 bm br M m (nI N) mn mv mk (nI i) = some (nI N', mn', mv', mk') := by
  have hB := h.1
  have hT := h.2.2.2.1
  intro n
  induction n with
  | zero => intro m i N d cn cv ck mn mv mk h1 h3 h4 h5 h6; omega
  | succ n ih =>
    intro m i N d cn cv ck mn mv mk h1 h3 h4 h5 h6 h7
    obtain ⟨m, rfl⟩ : ∃ m', m = m' + 1 := ⟨m - 1, by omega⟩
    rw [fX0_listAll_l7_s, fX9_laysLeaves_l7_s]
    unfold fX0_listAll_b7 fX9_laysLeaves_b7
    simp only [lit_nI, bnd_eq]
    by_cases e : i = B
    · have hq1 : ts ≤ nI i := by rw [h.2.1, e]; exact Int32.le_refl _
      have hq2 : bm ≤ nI i := by rw [h.2.2.1, e]; exact Int32.le_refl _
      exact ⟨N, d, cn, cv, ck, mn, mv, mk, h1, by rw [if_pos hq1], by rw [if_pos hq2]⟩
    · have hi : i < B := by omega
      have hq1 : ¬ ts ≤ nI i := by rw [h.2.1, n_le (by omega) (by omega)]; omega
      have hq2 : ¬ bm ≤ nI i := by rw [h.2.2.1, n_le (by omega) (by omega)]; omega
      have hf1 := f_field td (i := i) (f := 1) (by omega) (by omega)
      rw [(h.2.2.2.2.2.2.1 i hi).2.1] at hf1
      have hf0 := f_field td (i := i) (f := 0) (by omega) (by omega)
      rw [Nat.add_zero, (h.2.2.2.2.2.2.1 i hi).1] at hf0
      have hb := h.2.2.2.2.2.1 i hi
      have hit := g_isTable h hi
      have hts := tc_succ g i
      have hmono := tc_mono g (i := i + 1) (j := B) (by omega)
      rw [if_neg hq1, if_neg hq2, hf1, bd_s, hf0, bd_s, hit, bd_s]
      by_cases e2 : g i 2 = 2
      · have hc := f_field td (i := i) (f := 3) (by omega) (by omega)
        rw [(h.2.2.2.2.2.2.1 i hi).2.2.2.2 e2] at hc
        have hta := f_tablesAhead h (j := i) (by omega)
        rw [show min B i = i by omega] at hta
        have hto := g_tableOf h (j := i) (by omega)
        rw [if_pos e2] at hts
        obtain ⟨N1, d1, cn1, cv1, ck1, mn1, mv1, mk1, a1, a2, a3, a4, a5⟩ := cols_both h hN hi e2 1000 1000 0 N d cn cv ck mn mv mk h1 (by omega) (by omega) (fun k hk => Nat.lt_of_lt_of_le (h5 hi k hk) (by unfold nm; omega)) (by omega) (by omega)
        obtain ⟨N', d', cn', cv', ck', mn', mv', mk', b1, b4, b5⟩ := ih m (i + 1) N1 d1 cn1 cv1 ck1 mn1 mv1 mk1 a1 (by omega) (by omega) (fun hi1 k hk => Nat.lt_of_lt_of_le (a3 k hk) (branch_lt h hi1)) (by omega) (by omega)
        refine ⟨N', d', cn', cv', ck', mn', mv', mk', b1, ?_, ?_⟩
        · unfold fX0_listCells
          simp only [lit_nI]
          rw [if_pos (by rw [e2]), hta, bd_s, hc, bd_s, a4, bd_s, n_add]
          exact b4
        · unfold fX9_laysTable
          simp only [lit_nI]
          rw [if_pos e2, if_neg (by rw [n_eq (by omega) (by omega)]; omega), hto, bd_s, a5, bd_s, n_add]
          exact b5
      · have e3 : ¬ nI (g i 2) = nI 2 := by rw [n_eq (by omega) (by omega)]; exact e2
        rw [if_neg e2] at hts
        have hbh := f_behind (A := g i 0 + 1) (B := g i 1 + 1) (C := 1) (E := 0) (by omega) (by omega) (by omega) (by omega)
        rw [show sh 1 = nI 0 from sh_pos (by omega), sh_0] at hbh
        have hv : fX4_valueOf D (nI i) = some (D (4 + i)) := by
          unfold fX4_valueOf
          have := f_read D (p := 4 + i) (by omega)
          simp (disch := omega) only [lit_nI, of_nI, bnd_eq, bd_s, gin_nI, gz_0, gz_1, gcp_nI, n_lt, n_le, n_eq, n_eqm, m_eqn, m_eqm, n_ltm, m_ltn, n_lem, m_len, n_add, n_sub, n_mul, n_rem, n_div, n_cl, if_true, if_false, if_pos, if_neg, Nat.reduceAdd, Nat.reduceSub, Nat.reduceMul, this]
        have hvm : D (4 + i) = M i := hN.2.2.2.2.2.1 i (by omega)
        have he : dOk (fun j => if j = 0 then g i 0 + 1 else if j = 1 then g i 1 + 1 else if j = 2 then 1 else 0) := by
          show 2 ≤ g i 0 + 1 ∧ g i 0 + 1 ≤ 10 ∧ 2 ≤ g i 1 + 1 ∧ g i 1 + 1 ≤ 10 ∧ 1 ≤ 1 ∧ 1 ≤ 4 ∧ 0 ≤ 10
          omega
        have hnm : nmd (fun j => if j = 0 then g i 0 + 1 else if j = 1 then g i 1 + 1 else if j = 2 then 1 else 0) = nm (g i 0 + 1) (g i 1 + 1) 1 0 := rfl
        have hti := tc_le g i
        have hadd := h1.add (show N < 80 by omega) he (fun k hk => by rw [hnm]; exact Nat.lt_of_lt_of_le (h5 hi k hk) (by unfold nm; omega)) (M i) (nI (g i 2))
        obtain ⟨N', d', cn', cv', ck', mn', mv', mk', b1, b4, b5⟩ := ih m (i + 1) (N + 1) _ _ _ _ _ _ _ hadd (by omega) (by omega) (fun hi1 k hk => by
          refine Nat.lt_of_lt_of_le ?_ (branch_lt h hi1)
          by_cases z : k = N
          · simp only [if_pos z]
            rw [hnm]
            unfold nm
            omega
          · simp only [if_neg z]
            exact Nat.lt_trans (h5 hi k (by omega)) (by unfold nm; omega)) (by omega) (by omega)
        refine ⟨N', d', cn', cv', ck', mn', mv', mk', b1, ?_, ?_⟩
        · rw [if_neg e3, hbh, bd_s, hv, bd_s, hvm, f_add (show N < 80 by omega), bd_s, n_add]
          exact b4
        · have hg := g_laysLeaf h hi (show N < 80 by omega) (nI 0) (-nI 1) (M i) (nI (g i 2)) mn mv mk
          have hp2 := g_part h hi (f := 2) (by omega)
          rw [if_neg e2, if_pos rfl, gin_nI (by omega) (by omega), n_cl (by omega), hp2, bd_s, hg, bd_s, n_add]
          have e4 : up4 mn N (sh (g i 0 + 1)) (sh (g i 1 + 1)) (nI 0) (-nI 1) = up4 mn N (sh (g i 0 + 1)) (sh (g i 1 + 1)) (sh 1) (sh 0) := by rw [show sh 1 = nI 0 from sh_pos (by omega), sh_0]
          rw [e4]
          exact b5
theorem list_both {B : Nat} {g : Nat → Nat → Nat} {ts bm : Int32} {td br : Nat → Int32} (h : TreeR B g ts td bm br) {D M : Nat → Int32} (hN : NowR (tc g B) D M) (cs ms : Int32) (cn cv ck mn mv mk : Nat → Int32) :
    ∃ (N : Nat) (d : Nat → Nat → Nat) (cn' cv' ck' mn' mv' mk' : Nat → Int32), LR N d cn' cv' ck' mn' mv' mk' ∧ fX8_listed ts td D cs cn cv ck = some (nI N, cn', cv', ck') ∧ fX9_laysLeaves bm br M ms mn mv mk = some (nI N, mn', mv', mk') := by
  have hB := h.1
  obtain ⟨N, d, cn', cv', ck', mn', mv', mk', b1, b2, b3⟩ := list_l h hN 1000 1000 0 0 (fun _ _ => 0) cn cv ck mn mv mk ⟨by omega, fun k hk => absurd hk (by omega), fun i j h1 h2 => absurd h2 (by omega)⟩ (by omega) (by omega) (fun _ k hk => absurd hk (by omega)) (by omega) (by omega)
  refine ⟨N, d, cn', cv', ck', mn', mv', mk', b1, ?_, ?_⟩
  · unfold fX8_listed fX0_listAll
    simp only [lit_nI]
    rw [b2]
    rfl
  · unfold fX9_laysLeaves
    simp only [lit_nI]
    exact b3
theorem s_count : S_count Inv := by
  intro ctext_size ctext_at ctext_length ctext_token ctext_start ctext_number ctext_letters ctext_tokens ctext_starts ctext_numbers ctree_size ctree_data ctree_fresh cdraft_size cdraft_data cdraft_fresh cwanted_size cwanted_names cwanted_values cworker_makers cnow_data ctrial_data clisting_size clisting_names clisting_values clisting_kinds cpast_newest cpast_known cpast_states_data cpast_states_taken cimages_data cimages_taken mbranchMany mundos mletters mleaves mat mmark mnewMany mnewTables mitems mbranch mnow maside mpast mimages misKept mtext mnames mvalues mkinds mfresh mitem mmaker a1 hI
  obtain ⟨⟨nT, hnT, hL1, hL2, hT⟩, B, g, hTr, hN, hP, hG⟩ := id hI
  obtain ⟨w, U, hw, hU, p1, p2, p3, hj⟩ := id hP
  obtain ⟨N, d, cn', cv', ck', mn', mv', mk', l1, l2, l3⟩ := list_both hTr hN clisting_size mleaves clisting_names clisting_values clisting_kinds mnames mvalues mkinds
  unfold fX8_count fX9_count fX9_leavesNow
  simp only [lit_nI]
  have fin : ∀ (x : Int32) (P Q : Option (Int32 × Int32 × (Nat → Int32) × (Nat → Int32) × (Nat → Int32))), P = some (x, clisting_size, clisting_names, clisting_values, clisting_kinds) → Q = some (x, mleaves, mnames, mvalues, mkinds) → ∃ o p, P = some o ∧ Q = some p ∧ o.1 = p.1 ∧ Inv ctext_length ctext_letters ctree_size ctree_data cnow_data cpast_newest cpast_known cpast_states_data cpast_states_taken cimages_data cimages_taken mbranchMany mbranch mnow mpast mundos mimages misKept mtext mletters := fun x P Q h1 h2 => ⟨_, _, h1, h2, rfl, hI⟩
  have rd : ∀ p, p < 124 → fX4_read cnow_data (nI p) = some (cnow_data p) := fun p hp => f_read cnow_data hp
  by_cases c0 : a1 = nI 0
  · rw [if_pos c0, if_pos c0]
    exact fin (nI B) _ _ (by rw [hTr.2.1]) (by rw [hTr.2.2.1])
  rw [if_neg c0, if_neg c0]
  by_cases c1 : a1 = nI 1
  · rw [if_pos c1, if_pos c1, f_tables hTr, g_tables hTr]
    exact fin (nI (tc g B)) _ _ rfl rfl
  rw [if_neg c1, if_neg c1]
  by_cases c2 : a1 = nI 2
  · rw [if_pos c2, if_pos c2, l2, l3]
    exact ⟨(nI N, nI N, cn', cv', ck'), (nI N, nI N, mn', mv', mk'), rfl, rfl, rfl, hI⟩
  rw [if_neg c2, if_neg c2]
  by_cases c3 : a1 = nI 3
  · rw [if_pos c3, if_pos c3, f_time, gin_nI (by omega) (by omega), n_cl (by omega)]
    exact fin (mnow 121) _ _ (by rw [hN.2.1]; rfl) rfl
  rw [if_neg c3, if_neg c3]
  by_cases c4 : a1 = nI 4
  · rw [if_pos c4, if_pos c4, gin_nI (by omega) (by omega), n_cl (by omega)]
    refine fin (mnow 80) _ _ ?_ rfl
    unfold fX4_waiting
    simp only [lit_nI]
    rw [rd 3 (by omega), hN.2.2.2.2.1]
    rfl
  rw [if_neg c4, if_neg c4]
  by_cases c5 : a1 = nI 5
  · rw [if_pos c5, if_pos c5, gin_nI (by omega) (by omega), n_cl (by omega)]
    refine fin (mnow 122) _ _ ?_ rfl
    unfold fX4_dropped
    simp only [lit_nI]
    rw [rd 1 (by omega), hN.2.2.1]
    rfl
  rw [if_neg c5, if_neg c5]
  by_cases c6 : a1 = nI 6
  · rw [if_pos c6, if_pos c6, gin_nI (by omega) (by omega), n_cl (by omega)]
    refine fin (mnow 123) _ _ ?_ rfl
    unfold fX4_givenUp
    simp only [lit_nI]
    rw [rd 2 (by omega), hN.2.2.2.1]
    rfl
  rw [if_neg c6, if_neg c6]
  by_cases c7 : a1 = nI 7
  · rw [if_pos c7, if_pos c7]
    exact fin (nI nT) _ _ (by rw [hL1]) (by rw [hL2])
  rw [if_neg c7, if_neg c7]
  by_cases c8 : a1 = nI 8
  · rw [if_pos c8, if_pos c8]
    exact fin (nI U) _ _ (by rw [p2]) (by rw [p3])
  rw [if_neg c8, if_neg c8]
  exact fin (-nI 1) _ _ rfl rfl
