/-! one tick, many ticks -/
theorem nI_m1 {n : Nat} (h : 1 ≤ n) : nI n + -nI 1 = nI (n - 1) := by
  have := pk_m1 (n - 1)
  rw [show n - 1 + 1 = n by omega] at this
  exact this
/-- a notice's field set in both -/
theorem NoR.set {w i f a : Nat} {D M : Nat → Int32} (h : NoR w D M) (hi : i < w) (hf : f = 3 ∨ f = 4) (h1 : 1 ≤ a) (h3 : a ≤ 3) : NoR w (upd D (84 + 5 * i + f) (nI a)) (upd M (81 + 5 * i + f) (nI a)) := by
  obtain ⟨b1, b2, b3, b4, b5⟩ := h
  refine ⟨b1, by rw [upd_n (by omega)]; exact b2, by rw [upd_n (by omega)]; exact b3, fun j hj => ?_, fun k hk => ?_⟩
  · by_cases q : j = 5 * i + f
    · subst q
      rw [show 84 + (5 * i + f) = 84 + 5 * i + f by omega, show 81 + (5 * i + f) = 81 + 5 * i + f by omega, upd_s, upd_s]
    · rw [upd_n (by omega), upd_n (by omega)]
      exact b4 j hj
  · obtain ⟨c1, c2⟩ := b5 k hk
    constructor
    · by_cases q : k = i ∧ f = 3
      · obtain ⟨rfl, rfl⟩ := q
        exact ⟨a, h1, h3, upd_s _ _ _⟩
      · rw [upd_n (by omega)]
        exact c1
    · by_cases q : k = i ∧ f = 4
      · obtain ⟨rfl, rfl⟩ := q
        exact ⟨a, h1, h3, upd_s _ _ _⟩
      · rw [upd_n (by omega)]
        exact c2
theorem HeadR.given {D M : Nat → Int32} (h : HeadR D M) : HeadR (upd D 2 (D 2 + nI 1)) (upd M 123 (M 123 + nI 1)) := by
  obtain ⟨a1, a2, a3, a4, a5⟩ := h
  refine ⟨by rw [upd_n (by omega)]; exact a1, by rw [upd_n (by omega), upd_n (by omega)]; exact a2, by rw [upd_n (by omega), upd_n (by omega)]; exact a3, by rw [upd_s, upd_s, a4], fun i hi => by rw [upd_n (by omega), upd_n (by omega)]; exact a5 i hi⟩
theorem upd_same (f : Nat → Int32) (k : Nat) : upd f k (f k) = f := by
  funext j
  rw [upd_at]
  by_cases h : j = k
  · rw [if_pos h, h]
  · rw [if_neg h]
theorem upd_upd (f : Nat → Int32) (k : Nat) (x y : Int32) : upd (upd f k x) k y = upd f k y := by
  funext j
  rw [upd_at, upd_at, upd_at]
  by_cases h : j = k
  · rw [if_pos h, if_pos h]
  · rw [if_neg h, if_neg h, if_neg h]
theorem tick_notices (T : Nat) (ts : Int32) (td : Nat → Int32) : ∀ (n m w i : Nat) (D M : Nat → Int32), HeadR D M → RowsR T D M → NoR w D M → i ≤ w → w - i < n → w - i < m → ∃ D' M' w', fX4_tick_l65 ts td n D (nI i) (nI (w - i)) = some D' ∧ fX9_ticksNotices_l2 m M (nI i) = some M' ∧ HeadR D' M' ∧ RowsR T D' M' ∧ NoR w' D' M' ∧ (∀ p, p < 84 → p ≠ 3 → p ≠ 2 → D' p = D p) ∧ (∀ p, p < 80 ∨ (121 ≤ p ∧ p < 123) → M' p = M p) := by
  intro n
  induction n with
  | zero => intro m w i D M h1 h2 h3 h4 h5; omega
  | succ n ih =>
    intro m w i D M h1 h2 h3 h4 h5 h6
    obtain ⟨m, rfl⟩ : ∃ m', m = m' + 1 := ⟨m - 1, by omega⟩
    have hw8 := h3.1
    rw [fX4_tick_l65_s, fX9_ticksNotices_l2_s]
    by_cases e : i = w
    · refine ⟨D, M, w, ?_, ?_, h1, h2, h3, fun _ _ _ _ => rfl, fun _ _ => rfl⟩
      · unfold fX4_tick_b65
        simp only [lit_nI]
        rw [if_pos (by rw [n_le (by omega) (by omega)]; omega)]
      · unfold fX9_ticksNotices_b2
        simp only [lit_nI]
        rw [gin_nI (by omega) (by omega), n_cl (by omega), h3.2.2.1, if_pos (by rw [n_le (by omega) (by omega)]; omega)]
    · have hi : i < w := by omega
      obtain ⟨⟨a, a1, a2, a3⟩, b, b1, b2, b3⟩ := h3.2.2.2.2 i hi
      have e3 : D (84 + 5 * i + 3) = nI a := by
        have := h3.2.2.2.1 (5 * i + 3) (by omega)
        rw [show 84 + 5 * i + 3 = 84 + (5 * i + 3) by omega, this, show 81 + (5 * i + 3) = 81 + 5 * i + 3 by omega, a3]
      have e4 : D (84 + 5 * i + 4) = nI b := by
        have := h3.2.2.2.1 (5 * i + 4) (by omega)
        rw [show 84 + 5 * i + 4 = 84 + (5 * i + 4) by omega, this, show 81 + (5 * i + 4) = 81 + 5 * i + 4 by omega, b3]
      have f3 := f_noticeField D (i := i) (f := 3) (by omega) (by omega)
      have f4 := f_noticeField D (i := i) (f := 4) (by omega) (by omega)
      rw [e3] at f3
      rw [e4] at f4
      have hm1 : nI (w - i) + -nI 1 = nI (w - i - 1) := nI_m1 (by omega)
      by_cases qb : b = 1
      · subst qb
        by_cases qa : a = 3
        · -- given up
          subst qa
          obtain ⟨D', M', d1, d2, d3, d4, d5, d6, d7⟩ := drop_now h1 h2 h3 hi (M2 := upd M (81 + 5 * i + 4) (nI 0)) (fun p p1 p2 => upd_n (by omega))
          obtain ⟨D2, M2, w2, k1, k2, k3, k4, k5, k6, k7⟩ := ih m (w - 1) i (upd D' 2 (D' 2 + nI 1)) (upd M' 123 (M' 123 + nI 1)) d3.given (d4.congr (fun p p1 p2 => upd_n (by omega)) (fun p p1 p2 => upd_n (by omega))) (d5.congr (fun p p1 => upd_n (by omega)) (fun p p1 p2 => upd_n (by omega))) (by omega) (by omega) (by omega)
          have hs : fX4_staysAfterTick (nI i) D = some (nI 0, D) := by
            unfold fX4_staysAfterTick fX4_noticePlace
            simp (disch := omega) only [lit_nI, of_nI, bnd_eq, bd_s, gin_nI, gz_0, gz_1, gcp_nI, n_lt, n_le, n_eq, n_eqm, m_eqn, m_eqm, n_ltm, m_ltn, n_lem, m_len, n_add, n_sub, n_mul, n_rem, n_div, n_cl, if_true, if_false, if_pos, if_neg, Nat.reduceAdd, Nat.reduceSub, Nat.reduceMul, f3, f4]
          have hg : fX4_givenUp D' = some (D' 2) := by
            unfold fX4_givenUp
            have := f_read D' (p := 2) (by omega)
            simp only [lit_nI]
            rw [this]
            rfl
          have hwr := f_write D' (p := 2) (D' 2 + nI 1) (by omega)
          refine ⟨D2, M2, w2, ?_, ?_, k3, k4, k5, fun p p1 p2 p3 => by rw [k6 p p1 p2 p3, upd_n p3, d6 p p1 p2], fun p p1 => by rw [k7 p p1, upd_n (by omega), d7 p (by omega)]⟩
          · unfold fX4_tick_b65
            simp only [lit_nI]
            rw [if_neg (by rw [n_le (by omega) (by omega)]; omega), hs, bd_s]
            dsimp only
            rw [if_pos rfl, d1, bd_s, hg, bd_s, hwr, bd_s, bnd_eq, hm1, show w - i - 1 = w - 1 - i by omega]
            exact k1
          · unfold fX9_ticksNotices_b2
            have p4 : (nI 81 + nI 5 * nI i + nI 4).toNatClampNeg = 81 + 5 * i + 4 := by rw [n_mul, n_add, n_add, n_cl (by omega)]
            have p3 : (nI 81 + nI 5 * nI i + nI 3).toNatClampNeg = 81 + 5 * i + 3 := by rw [n_mul, n_add, n_add, n_cl (by omega)]
            have z1 : nI 1 - nI 1 = nI 0 := by rw [n_sub (by omega)]
            simp only [lit_nI, bnd_eq]
            rw [gin_nI (by omega) (by omega), n_cl (n := 80) (by omega), h3.2.2.1, if_neg (by rw [n_le (by omega) (by omega)]; omega)]
            simp only [p4, p3, b3, z1, upd_s]
            rw [upd_n (show 81 + 5 * i + 3 ≠ 81 + 5 * i + 4 by omega), a3]
            simp only [n_mul, n_add, if_true]
            rw [gin_nI (by omega) (by omega), gin_nI (by omega) (by omega), gin_nI (by omega) (by omega), gin_nI (by omega) (by omega), d2, bd_s, gin_nI (by omega) (by omega), gin_nI (by omega) (by omega), n_cl (by omega)]
            exact k2
        · -- sent again
          obtain ⟨D2, M2, w2, k1, k2, k3, k4, k5, k6, k7⟩ := ih m w (i + 1) (upd (upd D (84 + 5 * i + 3) (nI (a + 1))) (84 + 5 * i + 4) (nI 3)) (upd (upd M (81 + 5 * i + 3) (nI (a + 1))) (81 + 5 * i + 4) (nI 3)) (h1.congr (fun p p1 p2 => by rw [upd_n (by omega), upd_n (by omega)]) (fun p p1 => by rw [upd_n (by omega), upd_n (by omega)])) (h2.congr (fun p p1 p2 => by rw [upd_n (by omega), upd_n (by omega)]) (fun p p1 p2 => by rw [upd_n (by omega), upd_n (by omega)])) ((h3.set hi (Or.inl rfl) (by omega) (by omega)).set hi (Or.inr rfl) (by omega) (by omega)) (by omega) (by omega) (by omega)
          have hs : fX4_staysAfterTick (nI i) D = some (nI 1, upd (upd D (84 + 5 * i + 3) (nI (a + 1))) (84 + 5 * i + 4) (nI 3)) := by
            unfold fX4_staysAfterTick fX4_noticePlace
            have w3 := f_write D (p := 84 + 5 * i + 3) (nI (a + 1)) (by omega)
            have w4 := f_write (upd D (84 + 5 * i + 3) (nI (a + 1))) (p := 84 + 5 * i + 4) (nI 3) (by omega)
            simp (disch := omega) only [lit_nI, of_nI, bnd_eq, bd_s, gin_nI, gz_0, gz_1, gcp_nI, n_lt, n_le, n_eq, n_eqm, m_eqn, m_eqm, n_ltm, m_ltn, n_lem, m_len, n_add, n_sub, n_mul, n_rem, n_div, n_cl, if_true, if_false, if_pos, if_neg, Nat.reduceAdd, Nat.reduceSub, Nat.reduceMul, f3, f4, Nat.mul_comm i 5, w3, w4]
          refine ⟨D2, M2, w2, ?_, ?_, k3, k4, k5, fun p p1 p2 p3 => by rw [k6 p p1 p2 p3, upd_n (by omega), upd_n (by omega)], fun p p1 => by rw [k7 p p1, upd_n (by omega), upd_n (by omega)]⟩
          · unfold fX4_tick_b65
            simp only [lit_nI]
            rw [if_neg (by rw [n_le (by omega) (by omega)]; omega), hs, bd_s]
            dsimp only
            rw [if_neg (by rw [n_eq (by omega) (by omega)]; omega), bnd_eq, bnd_eq, hm1, n_add, show w - i - 1 = w - (i + 1) by omega]
            exact k1
          · unfold fX9_ticksNotices_b2 fX9_ticksNotices_b74 fX9_ticksNotices_b99 fX9_ticksNotices_b131
            have p4 : (nI 81 + nI 5 * nI i + nI 4).toNatClampNeg = 81 + 5 * i + 4 := by rw [n_mul, n_add, n_add, n_cl (by omega)]
            have p3 : (nI 81 + nI 5 * nI i + nI 3).toNatClampNeg = 81 + 5 * i + 3 := by rw [n_mul, n_add, n_add, n_cl (by omega)]
            have z1 : nI 1 - nI 1 = nI 0 := by rw [n_sub (by omega)]
            have c1 : upd M (81 + 5 * i + 4) (nI 0) (81 + 5 * i + 3) = nI a := by rw [upd_n (by omega), a3]
            have c2 : upd (upd M (81 + 5 * i + 4) (nI 0)) (81 + 5 * i + 3) (nI (a + 1)) (81 + 5 * i + 4) = nI 0 := by rw [upd_n (by omega), upd_s]
            have c3 : upd (upd (upd M (81 + 5 * i + 4) (nI 0)) (81 + 5 * i + 3) (nI (a + 1))) (81 + 5 * i + 4) (nI 3) = upd (upd M (81 + 5 * i + 3) (nI (a + 1))) (81 + 5 * i + 4) (nI 3) := by
              funext j
              simp only [upd_at]
              by_cases q1 : j = 81 + 5 * i + 4
              · simp only [if_pos q1]
              · simp only [if_neg q1]
            simp only [lit_nI, bnd_eq]
            rw [gin_nI (by omega) (by omega), n_cl (n := 80) (by omega), h3.2.2.1, if_neg (by rw [n_le (by omega) (by omega)]; omega)]
            simp only [p4, p3, b3, z1, upd_s, c1, n_add, c2, c3]
            have qz : ¬ nI a = nI 3 := by rw [n_eq (by omega) (by omega)]; omega
            simp (disch := omega) only [n_mul, n_add, if_true, if_neg qz, gin_nI]
            exact k2
      · -- waits
        obtain ⟨D2, M2, w2, k1, k2, k3, k4, k5, k6, k7⟩ := ih m w (i + 1) (upd D (84 + 5 * i + 4) (nI (b - 1))) (upd M (81 + 5 * i + 4) (nI (b - 1))) (h1.congr (fun p p1 p2 => by rw [upd_n (by omega)]) (fun p p1 => by rw [upd_n (by omega)])) (h2.congr (fun p p1 p2 => by rw [upd_n (by omega)]) (fun p p1 p2 => by rw [upd_n (by omega)])) (h3.set hi (Or.inr rfl) (by omega) (by omega)) (by omega) (by omega) (by omega)
        have hs : fX4_staysAfterTick (nI i) D = some (nI 1, upd D (84 + 5 * i + 4) (nI (b - 1))) := by
          unfold fX4_staysAfterTick fX4_noticePlace
          have w4 := f_write D (p := 84 + 5 * i + 4) (nI (b - 1)) (by omega)
          simp (disch := omega) only [lit_nI, of_nI, bnd_eq, bd_s, gin_nI, gz_0, gz_1, gcp_nI, n_lt, n_le, n_eq, n_eqm, m_eqn, m_eqm, n_ltm, m_ltn, n_lem, m_len, n_add, n_sub, n_mul, n_rem, n_div, n_cl, if_true, if_false, if_pos, if_neg, Nat.reduceAdd, Nat.reduceSub, Nat.reduceMul, f3, f4, Nat.mul_comm i 5, w4]
        refine ⟨D2, M2, w2, ?_, ?_, k3, k4, k5, fun p p1 p2 p3 => by rw [k6 p p1 p2 p3, upd_n (by omega)], fun p p1 => by rw [k7 p p1, upd_n (by omega)]⟩
        · unfold fX4_tick_b65
          simp only [lit_nI]
          rw [if_neg (by rw [n_le (by omega) (by omega)]; omega), hs, bd_s]
          dsimp only
          rw [if_neg (by rw [n_eq (by omega) (by omega)]; omega), bnd_eq, bnd_eq, hm1, n_add, show w - i - 1 = w - (i + 1) by omega]
          exact k1
        · unfold fX9_ticksNotices_b2 fX9_ticksNotices_b74 fX9_ticksNotices_b99 fX9_ticksNotices_b131
          have p4 : (nI 81 + nI 5 * nI i + nI 4).toNatClampNeg = 81 + 5 * i + 4 := by rw [n_mul, n_add, n_add, n_cl (by omega)]
          have p3 : (nI 81 + nI 5 * nI i + nI 3).toNatClampNeg = 81 + 5 * i + 3 := by rw [n_mul, n_add, n_add, n_cl (by omega)]
          have z1 : nI b - nI 1 = nI (b - 1) := n_sub (by omega)
          have c1 : upd M (81 + 5 * i + 4) (nI (b - 1)) (81 + 5 * i + 3) = nI a := by rw [upd_n (by omega), a3]
          have c4 : upd (upd M (81 + 5 * i + 4) (nI (b - 1))) (81 + 5 * i + 3) (nI (a + 0)) = upd M (81 + 5 * i + 4) (nI (b - 1)) := by
            have := upd_same (upd M (81 + 5 * i + 4) (nI (b - 1))) (81 + 5 * i + 3)
            rw [c1] at this
            exact this
          simp only [lit_nI, bnd_eq]
          rw [gin_nI (by omega) (by omega), n_cl (n := 80) (by omega), h3.2.2.1, if_neg (by rw [n_le (by omega) (by omega)]; omega)]
          simp only [p4, p3, b3, z1, upd_s, c1, n_add, c4, upd_upd]
          simp only [n_mul, n_add]
          have qz : ¬ nI (b - 1) = nI 0 := by rw [n_eq (by omega) (by omega)]; omega
          simp (disch := omega) only [if_neg qz, gin_nI]
          exact k2
theorem tick_both {B : Nat} {g : Nat → Nat → Nat} {ts bm : Int32} {td br : Nat → Int32} (h : TreeR B g ts td bm br) {D M : Nat → Int32} (hN : NowR (tc g B) D M) {t : Nat} (ht : M 121 = nI t) (ht9 : t < 999) : ∃ D' M', fX4_tick ts td D = some D' ∧ fX9_ticksOnce bm br M = some M' ∧ NowR (tc g B) D' M' ∧ M' 121 = nI (t + 1) := by
  have hB := h.1
  have main : ∀ (n m i : Nat) (D M : Nat → Int32), HeadR D M → RowsR (tc g B) D M → (∃ w, NoR w D M) → M 121 = nI (t + 1) → i ≤ B → B - i < n → B - i < m → ∃ D' M', fX4_tick_l13 ts td n D (nI i) = some D' ∧ fX9_ticksOnce_l13 bm br m M (nI i) = some M' ∧ NowR (tc g B) D' M' ∧ M' 121 = nI (t + 1) := by
    intro n
    induction n with
    | zero => intro m i D M h1 h2 h3 h0 h4 h5; omega
    | succ n ih =>
      intro m i D M h1 h2 h3 h0 h4 h5 h6
      obtain ⟨m, rfl⟩ : ∃ m', m = m' + 1 := ⟨m - 1, by omega⟩
      rw [fX4_tick_l13_s, fX9_ticksOnce_l13_s]
      unfold fX4_tick_b13 fX9_ticksOnce_b13 fX9_ticksOnce_b62 fX9_ticksNotices
      simp only [lit_nI, bnd_eq]
      rw [h.2.1, h.2.2.1]
      by_cases e : i = B
      · subst e
        obtain ⟨w, hw⟩ := h3
        have hw8 := hw.1
        obtain ⟨D', M', w', k1, k2, k3, k4, k5, k6, k7⟩ := tick_notices (tc g i) (nI i) td 1000 1000 w 0 D M h1 h2 hw (by omega) (by omega) (by omega)
        rw [Nat.sub_zero] at k1
        have hq : nI i ≤ nI i := Int32.le_refl _
        refine ⟨D', M', ?_, ?_, NowR_of k3 k4 k5, by rw [k7 121 (by omega)]; exact h0⟩
        · rw [if_pos hq, f_waiting hw.2.1, bd_s]
          exact k1
        · rw [if_pos hq, k2]
          rfl
      · have hq : ¬ nI B ≤ nI i := by rw [n_le (by omega) (by omega)]; omega
        rw [if_neg hq, if_neg hq]
        have hf := f_field td (i := i) (f := 0) (by omega) (by omega)
        rw [Nat.add_zero, (h.2.2.2.2.2.2.1 i (by omega)).1] at hf
        have hp := g_part h (i := i) (f := 2) (by omega) (by omega)
        have hg2 := (h.2.2.2.2.2.1 i (by omega)).2.2.2.2.1
        rw [hf, hp, bd_s, bd_s]
        by_cases e1 : g i 2 = 1
        · have hf2 := f_field td (i := i) (f := 2) (by omega) (by omega)
          rw [(h.2.2.2.2.2.2.1 i (by omega)).2.2.2.1 e1] at hf2
          have hp3 := g_part h (i := i) (f := 3) (by omega) (by omega)
          have hv : fX4_valueOf D (nI i) = some (D (4 + i)) := by
            unfold fX4_valueOf
            have := f_read D (p := 4 + i) (by omega)
            simp (disch := omega) only [lit_nI, of_nI, bnd_eq, bd_s, gin_nI, gz_0, gz_1, gcp_nI, n_lt, n_le, n_eq, n_eqm, m_eqn, m_eqm, n_ltm, m_ltn, n_lem, m_len, n_add, n_sub, n_mul, n_rem, n_div, n_cl, if_true, if_false, if_pos, if_neg, Nat.reduceAdd, Nat.reduceSub, Nat.reduceMul, this]
          have hs : fX4_setValue (nI i) (jrem (D (4 + i) + nI (g i 3)) (nI 1000)) D = some (upd D (4 + i) (jrem (D (4 + i) + nI (g i 3)) (nI 1000))) := by
            unfold fX4_setValue
            have := f_write D (p := 4 + i) (jrem (D (4 + i) + nI (g i 3)) (nI 1000)) (by omega)
            simp (disch := omega) only [lit_nI, of_nI, bnd_eq, bd_s, gin_nI, gz_0, gz_1, gcp_nI, n_lt, n_le, n_eq, n_eqm, m_eqn, m_eqm, n_ltm, m_ltn, n_lem, m_len, n_add, n_sub, n_mul, n_rem, n_div, n_cl, if_true, if_false, if_pos, if_neg, Nat.reduceAdd, Nat.reduceSub, Nat.reduceMul, this]
          have hvm : D (4 + i) = M i := h1.2.2.2.2 i (by omega)
          have hh : HeadR (upd D (4 + i) (jrem (D (4 + i) + nI (g i 3)) (nI 1000))) (upd M i (jrem (M i + nI (g i 3)) (nI 1000))) := by
            obtain ⟨a1, a2, a3, a4, a5⟩ := h1
            refine ⟨by rw [upd_n (by omega)]; exact a1, by rw [upd_n (by omega), upd_n (by omega)]; exact a2, by rw [upd_n (by omega), upd_n (by omega)]; exact a3, by rw [upd_n (by omega), upd_n (by omega)]; exact a4, fun j hj => ?_⟩
            by_cases q : j = i
            · subst q
              rw [upd_s, upd_s, hvm]
            · rw [upd_n (by omega), upd_n (by omega)]
              exact a5 j hj
          obtain ⟨w, hw⟩ := h3
          obtain ⟨D', M', k1, k2, k3, k4⟩ := ih m (i + 1) (upd D (4 + i) (jrem (D (4 + i) + nI (g i 3)) (nI 1000))) (upd M i (jrem (M i + nI (g i 3)) (nI 1000))) hh (h2.congr (fun p p1 p2 => upd_n (by omega)) (fun p p1 p2 => upd_n (by omega))) ⟨w, hw.congr (fun p p1 => upd_n (by omega)) (fun p p1 p2 => upd_n (by omega))⟩ (by rw [upd_n (by omega)]; exact h0) (by omega) (by omega) (by omega)
          refine ⟨D', M', ?_, ?_, k3, k4⟩
          · rw [if_pos (by rw [e1]), hv, bd_s, hf2, bd_s, hs, bd_s, n_add]
            rw [h.2.1] at k1
            exact k1
          · rw [if_pos (by rw [e1]), gin_nI (by omega) (by omega), hp3, bd_s, gin_nI (by omega) (by omega), n_cl (by omega), n_add]
            rw [h.2.2.1] at k2
            exact k2
        · have e2 : ¬ nI (g i 2) = nI 1 := by rw [n_eq (by omega) (by omega)]; exact e1
          obtain ⟨D', M', k1, k2, k3, k4⟩ := ih m (i + 1) D M h1 h2 h3 h0 (by omega) (by omega) (by omega)
          refine ⟨D', M', ?_, ?_, k3, k4⟩
          · rw [if_neg e2, n_add]
            rw [h.2.1] at k1
            exact k1
          · rw [if_neg e2, gin_nI (by omega) (by omega), gin_nI (by omega) (by omega), n_cl (by omega), n_add, upd_same]
            rw [h.2.2.1] at k2
            exact k2
  obtain ⟨h1, h2, w, hw⟩ := hN.parts
  have hh : HeadR (upd D 0 (nI (t + 1))) (upd M 121 (nI (t + 1))) := by
    obtain ⟨a1, a2, a3, a4, a5⟩ := h1
    exact ⟨⟨t + 1, by omega, upd_s _ _ _⟩, by rw [upd_s, upd_s], by rw [upd_n (by omega), upd_n (by omega)]; exact a3, by rw [upd_n (by omega), upd_n (by omega)]; exact a4, fun i hi => by rw [upd_n (by omega), upd_n (by omega)]; exact a5 i hi⟩
  obtain ⟨D', M', k1, k2, k3, k4⟩ := main 1000 1000 0 (upd D 0 (nI (t + 1))) (upd M 121 (nI (t + 1))) hh (h2.congr (fun p p1 p2 => upd_n (by omega)) (fun p p1 p2 => upd_n (by omega))) ⟨w, hw.congr (fun p p1 => upd_n (by omega)) (fun p p1 p2 => upd_n (by omega))⟩ (upd_s _ _ _) (by omega) (by omega) (by omega)
  refine ⟨D', M', ?_, ?_, k3, k4⟩
  · unfold fX4_tick
    have hw0 := f_write D (p := 0) (nI (t + 1)) (by omega)
    simp only [lit_nI]
    rw [f_time, bd_s, h1.2.1, ht, n_add, hw0, bd_s]
    exact k1
  · unfold fX9_ticksOnce
    simp only [lit_nI]
    rw [gin_nI (by omega) (by omega), gin_nI (by omega) (by omega), n_cl (by omega), ht, n_add]
    exact k2
theorem ticks_l {B : Nat} {g : Nat → Nat → Nat} {ts bm : Int32} {td br : Nat → Int32} (h : TreeR B g ts td bm br) {N : Nat} (hN9 : N ≤ 99) (pn pk un : Int32) (pd pt as past : Nat → Int32) : ∀ (n m k : Nat) (D M : Nat → Int32) (t : Nat), NowR (tc g B) D M → M 121 = nI t → k ≤ N → t + (N - k) ≤ 999 → N - k < n → N - k < m → ∃ D' M', fX8_ticks_l44 ts td (nI N) n D pn pk pd pt (nI k) = some (M' 121, D', pn, pk, pd, pt) ∧ fX9_ticks_l40 bm br (nI N) m un M as past (nI k) = some (M' 121, un, M', as, past) ∧ NowR (tc g B) D' M' := by
  intro n
  induction n with
  | zero => intro m k D M t h1 h2 h3 h4 h5; omega
  | succ n ih =>
    intro m k D M t h1 h2 h3 h4 h5 h6
    obtain ⟨m, rfl⟩ : ∃ m', m = m' + 1 := ⟨m - 1, by omega⟩
    rw [fX8_ticks_l44_s, fX9_ticks_l40_s]
    unfold fX8_ticks_b44 fX9_ticks_b40
    simp only [lit_nI, bnd_eq]
    by_cases e : k = N
    · subst e
      have hq : nI k ≤ nI k := Int32.le_refl _
      refine ⟨D, M, ?_, ?_, h1⟩
      · rw [if_pos hq, f_time, bd_s, h1.2.1]
      · rw [if_pos hq, gin_nI (by omega) (by omega), n_cl (by omega)]
    · have hq : ¬ nI N ≤ nI k := by rw [n_le (by omega) (by omega)]; omega
      obtain ⟨D1, M1, k1, k2, k3, k4⟩ := tick_both h h1 h2 (by omega)
      obtain ⟨D', M', j1, j2, j3⟩ := ih m (k + 1) D1 M1 (t + 1) k3 k4 (by omega) (by omega) (by omega) (by omega)
      refine ⟨D', M', ?_, ?_, j3⟩
      · rw [if_neg hq, k1, bd_s, n_add]
        exact j1
      · rw [if_neg hq, k2, bd_s, n_add]
        exact j2
theorem s_ticks : S_ticks Inv := by
  intro ctext_size ctext_at ctext_length ctext_token ctext_start ctext_number ctext_letters ctext_tokens ctext_starts ctext_numbers ctree_size ctree_data ctree_fresh cdraft_size cdraft_data cdraft_fresh cwanted_size cwanted_names cwanted_values cworker_makers cnow_data ctrial_data clisting_size clisting_names clisting_values clisting_kinds cpast_newest cpast_known cpast_states_data cpast_states_taken cimages_data cimages_taken mbranchMany mundos mletters mleaves mat mmark mnewMany mnewTables mitems mbranch mnow maside mpast mimages misKept mtext mnames mvalues mkinds mfresh mitem mmaker a1 hI
  obtain ⟨hT, B, g, hTr, hN, hP, hG⟩ := id hI
  obtain ⟨t, ht, hm⟩ := hN.1
  unfold fX8_ticks fX9_ticks fX9_within
  simp only [lit_nI]
  rcases x_cases a1 100 (by omega) with h | h | ⟨N, hN9, rfl⟩
  · have q := neg_ff h (k := 1) (by omega)
    exact ⟨(-nI 1, cnow_data, cpast_newest, cpast_known, cpast_states_data, cpast_states_taken), (-nI 1, mundos, mnow, maside, mpast), by rw [if_pos (q.1.mpr trivial)], by rw [if_pos (q.1.mpr trivial)]; rfl, rfl, hI⟩
  · have q1 := big_ff h (by omega) (k := 1) (by omega)
    have q9 := big_ff h (by omega) (k := 99) (by omega)
    exact ⟨(-nI 1, cnow_data, cpast_newest, cpast_known, cpast_states_data, cpast_states_taken), (-nI 1, mundos, mnow, maside, mpast), by simp only [q1.1, q9.2.1, if_false], by simp only [q1.1, q9.2.2.1, if_false, if_true, bd_s], rfl, hI⟩
  · by_cases q0 : N = 0
    · subst q0
      have hq : nI 0 < nI 1 := by rw [n_lt (by omega) (by omega)]; omega
      exact ⟨(-nI 1, cnow_data, cpast_newest, cpast_known, cpast_states_data, cpast_states_taken), (-nI 1, mundos, mnow, maside, mpast), by rw [if_pos hq], by rw [if_pos hq]; rfl, rfl, hI⟩
    · have hq1 : ¬ nI N < nI 1 := by rw [n_lt (by omega) (by omega)]; omega
      have hq2 : nI N ≤ nI 99 := by rw [n_le (by omega) (by omega)]; omega
      have hq3 : ¬ nI 99 < nI N := by rw [n_lt (by omega) (by omega)]; omega
      have hq4 : ¬ nI 1 = nI 0 := by rw [n_eq (by omega) (by omega)]; omega
      rw [if_neg hq1, if_pos hq2, if_neg hq1, if_neg hq3, bd_s, if_neg hq4, gin_nI (by omega) (by omega), n_cl (by omega), f_time, bd_s, hN.2.1, hm, n_add]
      by_cases q : t + N ≤ 999
      · have hq5 : nI (t + N) ≤ nI 999 := by rw [n_le (by omega) (by omega)]; omega
        obtain ⟨pn', pk', un', pd', pt', past', k1, k2, k3⟩ := past_push hP (cpy_same _ hN (a := maside))
        have el := g_laysAside mnow maside
        obtain ⟨D', M', j1, j2, j3⟩ := ticks_l hTr (N := N) (by omega) pn' pk' un' pd' pt' (va_cpy mnow maside 0 0 124) past' 1000 1000 0 cnow_data mnow t hN hm (by omega) (by omega) (by omega) (by omega)
        refine ⟨(M' 121, D', pn', pk', pd', pt'), (M' 121, un', M', va_cpy mnow maside 0 0 124, past'), ?_, ?_, rfl, hT, B, g, hTr, j3, k3, hG⟩
        · rw [if_pos hq5, k1, bd_s]
          exact j1
        · rw [if_pos hq5, el, bd_s, k2, bd_s]
          exact j2
      · have hq5 : ¬ nI (t + N) ≤ nI 999 := by rw [n_le (by omega) (by omega)]; omega
        exact ⟨(-nI 2, cnow_data, cpast_newest, cpast_known, cpast_states_data, cpast_states_taken), (-nI 2, mundos, mnow, maside, mpast), by rw [if_neg hq5], by rw [if_neg hq5], rfl, hI⟩
