/-! a cell's order; any order; all of them -/
theorem cell_both {B : Nat} {g : Nat → Nat → Nat} {ts bm : Int32} {td br : Nat → Int32} (h : TreeR B g ts td bm br) {b col r v : Nat} (hb : b < B) (hb2 : g b 2 = 2) {D M mk mm : Nat → Int32} (hN : NowR (tc g B) D M) (hK : MakR M mk mm) (ht : tc g b < 2) (htT : tc g b < tc g B) (hc1 : 1 ≤ col) (hc2 : col ≤ g b 3) (h1 : 1 ≤ r) (h9 : r ≤ 9) (hv : v ≤ 99) : ∃ (x : Nat) (D' M' : Nat → Int32), x ≤ 4 ∧ fX7_fillCell ts td (nI (tc g b)) (nI col) (nI r) (nI v) D = some (nI x, D') ∧ fX9_ordersCell bm br (nI (tc g b)) (nI col) (nI r) (nI v) M = some (nI x, M') ∧ (x = 0 → NowR (tc g B) D' M' ∧ MakR M' mk mm) := by
  have b3 := (h.2.2.2.2.2.1 b hb).2.2.2.2.2.2.2 hb2
  obtain ⟨t, htt⟩ : ∃ t, t = tc g b := ⟨_, rfl⟩
  rw [← htt] at ht htT ⊢
  obtain ⟨k, hk⟩ : ∃ k, k = 9 * t + r - 1 := ⟨_, rfl⟩
  have hk18 : k < 18 := by omega
  obtain ⟨c1, ⟨s, hs, st⟩, c3, c4⟩ := hN.parts.2.1 k hk18
  have ne : ∀ {a b : Nat}, a < 2 ^ 31 → b < 2 ^ 31 → a ≠ b → ¬ nI a = nI b := fun ha hb z => by rw [n_eq ha hb]; exact z
  have e1 := f_statusOf D ht h1 h9
  rw [← hk, c1, st] at e1
  have er : fX9_rowAt (nI t) (nI r) = some (nI (8 + 4 * k)) := by rw [g_rowAt h1]; exact congrArg (fun q => some (nI q)) (by omega)
  have ep := f_cellPlace ht (show col ≤ 3 by omega) h1 h9
  rw [← hk] at ep
  unfold fX7_fillCell fX9_ordersCell fX9_ordersCell_b60 fX9_ordersCell_b67 fX4_setCell
  simp only [lit_nI]
  rw [e1, bd_s, er, bd_s, gin_nI (by omega) (by omega), n_cl (by omega), st]
  by_cases s0 : s = 0
  · rw [if_pos (by rw [s0]), if_pos (by rw [s0])]
    exact ⟨4, _, _, by omega, rfl, rfl, fun z => absurd z (by omega)⟩
  · rw [if_neg (ne (by omega) (by omega) s0), if_neg (ne (by omega) (by omega) s0), ep, bd_s, f_write _ _ (by omega), bd_s, bd_s, n_add, n_add, gin_nI (by omega) (by omega), gin_nI (by omega) (by omega), n_cl (by omega)]
    have m0 : upd M (8 + 4 * k + col) (nI v) (8 + 4 * k) = nI s := by rw [upd_n (by omega)]; exact st
    have d0 : upd D (12 + 4 * k + col) (nI (v + 1)) (12 + 4 * k) = nI s := by rw [upd_n (by omega), c1]; exact st
    have hs0 : nI s ≠ nI 0 := ne (by omega) (by omega) s0
    have hN1 : NowR (tc g B) (upd D (12 + 4 * k + col) (nI (v + 1))) (upd M (8 + 4 * k + col) (nI v)) := by
      refine hN.row hk18 (fun p p1 p2 => upd_n (by omega)) (fun p p1 p2 => upd_n (by omega)) ⟨by rw [m0, d0], ⟨s, hs, m0⟩, fun z => by omega, fun c cc1 cc2 => ?_⟩
      rw [m0]
      by_cases e : c = col
      · rw [e, upd_s, upd_s]
        exact Or.inr (Or.inr ⟨hs0, (n_add v 1).symm, by rw [n_le (by omega) (by omega)]; omega⟩)
      · rw [upd_n (by omega), upd_n (by omega), ← st]
        exact c4 c cc1 cc2
    have hK1 : MakR (upd M (8 + 4 * k + col) (nI v)) mk mm := hK.set (k := k) (fun i i1 i2 => upd_n (by omega)) (fun _ _ => rfl) (fun _ _ => rfl) (fun _ => hK k hk18 (by rw [st]; exact hs0))
    rw [m0]
    by_cases s3 : s = 3
    · have eu := f_unfilled (upd D (12 + 4 * k + col) (nI (v + 1))) ht h1 h9 b3.2
      have em := g_missing h (upd M (8 + 4 * k + col) (nI v)) hb hb2 htt.symm ht h1 h9
      rw [← hk] at eu em
      have ue := uf_eq hN1 hk18 (by rw [m0]; exact hs0) (g b 3) b3.2
      have ul := ufm_le (upd M (8 + 4 * k + col) (nI v)) k (g b 3)
      rw [if_pos (by rw [s3]), if_pos (by rw [s3]), f_columnsOf h hb hb2 htt.symm, bd_s, eu, bd_s, em, bd_s, ue]
      by_cases u0 : ufm (upd M (8 + 4 * k + col) (nI v)) k (g b 3) = 0
      · have es := f_setStatus (upd D (12 + 4 * k + col) (nI (v + 1))) ht h1 h9 (nI 2)
        rw [← hk] at es
        rw [if_pos (by rw [u0]), if_pos (by rw [u0]), es, bd_s, gin_nI (by omega) (by omega)]
        refine ⟨0, _, _, by omega, rfl, rfl, fun _ => ⟨hN1.row hk18 (fun p p1 p2 => upd_n (by omega)) (fun p p1 p2 => upd_n (by omega)) ⟨by rw [upd_s, upd_s], ⟨2, by omega, upd_s _ _ _⟩, fun z => by omega, fun c cc1 cc2 => ?_⟩, hK1.set (k := k) (fun i i1 i2 => upd_n (by omega)) (fun _ _ => rfl) (fun _ _ => rfl) (fun _ => hK k hk18 (by rw [st]; exact hs0))⟩⟩
        have w := (hN1.parts.2.1 k hk18).2.2.2 c cc1 cc2
        rw [m0] at w
        rw [upd_s, upd_n (by omega), upd_n (show 8 + 4 * k + c ≠ 8 + 4 * k by omega)]
        have vn : nI 2 ≠ nI 0 := ne (by omega) (by omega) (by omega)
        rcases w with w | w | w
        · exact absurd w.1 hs0
        · exact Or.inr (Or.inl ⟨vn, w.2⟩)
        · exact Or.inr (Or.inr ⟨vn, w.2⟩)
      · rw [if_neg (ne (by omega) (by omega) u0), if_neg (ne (by omega) (by omega) u0), gin_nI (by omega) (by omega), gin_nI (by omega) (by omega), ← m0, upd_same]
        exact ⟨0, _, _, by omega, rfl, rfl, fun _ => ⟨hN1, hK1⟩⟩
    · rw [if_neg (ne (by omega) (by omega) s3), if_neg (ne (by omega) (by omega) s3), gin_nI (by omega) (by omega), gin_nI (by omega) (by omega), ← m0, upd_same]
      exact ⟨0, _, _, by omega, rfl, rfl, fun _ => ⟨hN1, hK1⟩⟩
theorem does_both {B : Nat} {g : Nat → Nat → Nat} {ts bm : Int32} {td br : Nat → Int32} (h : TreeR B g ts td bm br) {I i : Nat} {names values item : Nat → Int32} (hit : ItR I names values item) (hi : i < I) (hI : I ≤ 8) {D M mk mm : Nat → Int32} (hN : NowR (tc g B) D M) (hK : MakR M mk mm) : DoneR (tc g B) (fX7_doOrder names values ts td (nI i) mk D) (fX9_does bm br item (nI i) M mm) := by
  obtain ⟨dd, v, d1, d2, d3, d4, d5, d6, d7⟩ := hit i hi
  have dd0 := d2 0
  have dd1 := d2 1
  have dd2 := d2 2
  have dd3 := d2 3
  have i0 := d6 0 (by omega)
  have i1 := d6 1 (by omega)
  have i2 := d6 2 (by omega)
  have i3 := d6 3 (by omega)
  rw [Nat.add_zero] at i0
  have hB := h.1
  have hT := h.2.2.2.1
  have hlt : nmf dd < 65536 := nm_lt (by omega) (by omega) (by omega) (by omega)
  obtain ⟨-, -, g2, g3⟩ := dg_nm (A := dd 0) (B := dd 1) (C := dd 2) (E := dd 3) (by omega) (by omega) (by omega) (by omega)
  have z10 : ¬ nI 1 = nI 0 := by rw [n_eq (by omega) (by omega)]; omega
  have ne : ∀ {a b : Nat}, a < 2 ^ 31 → b < 2 ^ 31 → a ≠ b → ¬ nI a = nI b := fun ha hb z => by rw [n_eq ha hb]; exact z
  have n99 : ∀ i : Nat, i < 100 → ¬ nI i = -nI 9 := fun i hi => by rw [n_eqm (by omega) (by omega) (by omega)]; exact not_false
  have en : fX1_name names (nI i) = some (nI (nmf dd)) := by
    unfold fX1_name
    simp only [lit_nI]
    rw [if_neg (nn0 (by omega)), if_neg (by rw [n_le (by omega) (by omega)]; omega), gin_nI (by omega) (by omega), n_cl (by omega), d4]
  have ev : fX1_value values (nI i) = some (nI v) := by
    unfold fX1_value
    simp only [lit_nI]
    rw [if_neg (nn0 (by omega)), if_neg (by rw [n_le (by omega) (by omega)]; omega), gin_nI (by omega) (by omega), n_cl (by omega), d5]
  unfold fX7_doOrder fX9_does
  simp only [lit_nI]
  rw [en, bd_s, ev, bd_s, n_mul, n_add, gin_nI (by omega) (by omega), gin_nI (by omega) (by omega), n_cl (by omega), n_cl (by omega), i0, i1]
  obtain ⟨gb1, gb2⟩ := g_branchOf h dd0 dd1
  rcases f_branchOf h (A := dd 0) (A2 := dd 1) (C := dd 2) (E := dd 3) (by omega) (by omega) (by omega) (by omega) with ⟨b, b1, b2, b3, b4⟩ | ⟨b1, b4⟩
  · have bb := h.2.2.2.2.2.1 b b1
    have tt := h.2.2.2.2.2.2.1 b b1
    rw [show fX6_branchOf ts td (nI (nmf dd)) = some (nI b) from b4, bd_s, gb1 b b1 b2 b3, bd_s, if_neg (n99 b (by omega)), if_neg (n99 b (by omega)), g_isTable h b1, bd_s]
    have may1 : ((g b 2 ≠ 2 ∧ dd 2 = 1 ∧ dd 3 = 0) ∨ (g b 2 = 2 ∧ 1 ≤ dd 2 ∧ dd 2 ≤ g b 3 + 1 ∧ 2 ≤ dd 3)) → fX7_mayHaveLeaf td (nI b) (nI (nmf dd)) = some (nI 1) := fun z => by rw [f_mayHaveLeaf h b1 d2, if_pos z]
    have may0 : ¬ ((g b 2 ≠ 2 ∧ dd 2 = 1 ∧ dd 3 = 0) ∨ (g b 2 = 2 ∧ 1 ≤ dd 2 ∧ dd 2 ≤ g b 3 + 1 ∧ 2 ≤ dd 3)) → fX7_mayHaveLeaf td (nI b) (nI (nmf dd)) = some (nI 0) := fun z => by rw [f_mayHaveLeaf h b1 d2, if_neg z]
    have ef : fX6_field td (nI b) (nI 0) = some (nI (g b 2)) := by rw [f_field td (by omega) (by omega)]; exact congrArg some tt.1
    by_cases k2 : g b 2 = 2
    · rw [if_pos (show g b 2 = 2 from k2), if_neg z10]
      have hlt2 : tc g b < tc g B := by
        have := tc_mono g (show b + 1 ≤ B by omega)
        rw [tc_succ, if_pos k2] at this
        omega
      have k3 := bb.2.2.2.2.2.2.2 k2
      have k3b : ¬ g b 2 = 0 := by omega
      unfold fX9_ordersTable fX9_within
      simp only [lit_nI]
      simp (disch := omega) only [n_mul, n_add, gin_nI, bnd_eq, n_cl]
      rw [i2, i3, d7, g_part h b1 (by omega), bd_s, g_tableOf h (show b ≤ B by omega), bd_s]
      by_cases y1 : dd 2 = 0
      · rw [may0 (by omega), bd_s, if_pos rfl, if_pos ((sh_lt0 (by omega)).2 y1), bd_s, if_pos rfl, bd_s]
        exact ⟨1, _, _, _, _, by omega, rfl, rfl, fun z => absurd z (by omega)⟩
      · rw [if_neg (show ¬ sh (dd 2) < nI 0 from fun z => y1 ((sh_lt0 (by omega)).1 z))]
        by_cases y2 : g b 3 + 1 < dd 2
        · rw [may0 (by omega), bd_s, if_pos rfl, if_pos ((sh_lt (by omega) (by omega)).2.1.2 y2), bd_s, if_pos rfl, bd_s]
          exact ⟨1, _, _, _, _, by omega, rfl, rfl, fun z => absurd z (by omega)⟩
        · rw [if_neg (show ¬ nI (g b 3) < sh (dd 2) from fun z => y2 ((sh_lt (by omega) (by omega)).2.1.1 z)), bd_s, if_neg z10]
          by_cases y3 : dd 3 < 2
          · rw [may0 (by omega), bd_s, if_pos rfl, if_neg (show ¬ nI 1 ≤ sh (dd 3) from fun z => by have := (sh_lt (d := dd 3) (k := 1) (by omega) (by omega)).2.2.2.1 z; omega), bd_s]
            exact ⟨1, _, _, _, _, by omega, rfl, rfl, fun z => absurd z (by omega)⟩
          · rw [may1 (by omega), bd_s, if_neg z10, if_pos (show nI 1 ≤ sh (dd 3) from (sh_lt (d := dd 3) (k := 1) (by omega) (by omega)).2.2.2.2 (by omega)), ef, bd_s, if_neg (ne (by omega) (by omega) k3b), if_neg (ne (by omega) (by omega) (show g b 2 ≠ 1 by omega)), f_tablesAhead h (show b ≤ 100 by omega), bd_s, show min B b = b by omega, f_numberOf hlt (by omega), bd_s, f_numberOf hlt (by omega), bd_s, show dg (nmf dd) 2 = dd 2 from g2, show dg (nmf dd) 3 = dd 3 from g3, sh_pos (show 1 ≤ dd 2 by omega), sh_pos (show 1 ≤ dd 3 by omega)]
            by_cases y4 : dd 2 = 1
            · rw [if_pos (by rw [y4]), if_pos (by rw [y4])]
              obtain ⟨x, mk', D', mm', M', x1, x2, x3, x4⟩ := status_both hN hK (t := tc g b) (r := dd 3 - 1) (v := v) (i := i) (by omega) hlt2 (by omega) (by omega) d3 (by omega)
              rw [x2, x3, bd_s, bd_s, bd_s]
              exact ⟨x, mk', D', mm', M', x1, rfl, rfl, x4⟩
            · rw [if_neg (ne (by omega) (by omega) (by omega)), if_neg (ne (by omega) (by omega) (by omega))]
              obtain ⟨x, D', M', x1, x2, x3, x4⟩ := cell_both h b1 k2 hN hK (col := dd 2 - 1) (r := dd 3 - 1) (v := v) (by omega) hlt2 (by omega) (by omega) (by omega) (by omega) d3
              rw [x2, x3, bd_s, bd_s, bd_s]
              exact ⟨x, mk, D', mm, M', x1, rfl, rfl, x4⟩
    · rw [if_neg (show ¬ g b 2 = 2 from k2), if_pos rfl, n_add, n_add, n_add, gin_nI (by omega) (by omega), gin_nI (by omega) (by omega), gin_nI (by omega) (by omega), bnd_eq, n_cl (by omega), n_cl (by omega), n_cl (by omega), i2, i3, d7]
      by_cases y1 : dd 2 = 1
      · rw [if_pos (show sh (dd 2) = nI 0 from (sh_lt (by omega) (by omega)).2.2.1.2 y1)]
        by_cases y2 : dd 3 = 0
        · rw [may1 (by omega), bd_s, if_neg z10, if_pos (show sh (dd 3) < nI 0 from (sh_lt0 (by omega)).2 y2), ef, bd_s, g_part h b1 (by omega), bd_s, g_part h b1 (by omega), bd_s, g_part h b1 (by omega), bd_s]
          by_cases k1 : g b 2 = 1
          · rw [if_neg (ne (by omega) (by omega) (show g b 2 ≠ 0 by omega)), if_pos (by rw [k1]), if_pos (by rw [k1])]
            exact ⟨2, _, _, _, _, by omega, rfl, rfl, fun z => absurd z (by omega)⟩
          · have k0 : g b 2 = 0 := by omega
            have t45 := tt.2.2.1 k0
            rw [if_pos (by rw [k0]), if_neg (ne (by omega) (by omega) k1)]
            unfold fX7_setSingle fX9_within fX4_setValue
            simp only [lit_nI]
            rw [f_field td (by omega) (by omega), bd_s, f_field td (by omega) (by omega), bd_s, t45.1, t45.2]
            by_cases w1 : v < g b 3
            · have w1' : nI v < nI (g b 3) := by rw [n_lt (by omega) (by omega)]; exact w1
              rw [if_pos w1', if_pos w1', bd_s, bd_s, if_pos rfl]
              exact ⟨3, _, _, _, _, by omega, rfl, rfl, fun z => absurd z (by omega)⟩
            · have w1' : ¬ nI v < nI (g b 3) := by rw [n_lt (by omega) (by omega)]; exact w1
              rw [if_neg w1', if_neg w1']
              by_cases w2 : g b 4 < v
              · rw [if_neg (show ¬ nI v ≤ nI (g b 4) by rw [n_le (by omega) (by omega)]; omega), if_pos (show nI (g b 4) < nI v by rw [n_lt (by omega) (by omega)]; omega), bd_s, bd_s, if_pos rfl]
                exact ⟨3, _, _, _, _, by omega, rfl, rfl, fun z => absurd z (by omega)⟩
              · rw [if_pos (show nI v ≤ nI (g b 4) by rw [n_le (by omega) (by omega)]; omega), if_neg (show ¬ nI (g b 4) < nI v by rw [n_lt (by omega) (by omega)]; omega), bd_s, if_neg z10, n_add, f_write _ _ (by omega), bd_s, bd_s, bd_s, gin_nI (by omega) (by omega), n_cl (by omega)]
                exact ⟨0, _, _, _, _, by omega, rfl, rfl, fun _ => ⟨hN.val (by omega) _, fun k hk => by rw [upd_n (by omega)]; exact hK k hk⟩⟩
        · rw [may0 (by omega), bd_s, if_pos rfl, if_neg (show ¬ sh (dd 3) < nI 0 from fun z => y2 ((sh_lt0 (by omega)).1 z))]
          exact ⟨1, _, _, _, _, by omega, rfl, rfl, fun z => absurd z (by omega)⟩
      · rw [may0 (by omega), bd_s, if_pos rfl, if_neg (show ¬ sh (dd 2) = nI 0 from fun z => y1 ((sh_lt (by omega) (by omega)).2.2.1.1 z))]
        exact ⟨1, _, _, _, _, by omega, rfl, rfl, fun z => absurd z (by omega)⟩
  · rw [show fX6_branchOf ts td (nI (nmf dd)) = some (-nI 9) from b4, bd_s, gb2 b1, bd_s, if_pos rfl, if_pos rfl]
    exact ⟨1, _, _, _, _, by omega, rfl, rfl, fun z => absurd z (by omega)⟩
