/-! all orders are done; who left a row unfilled -/
def FR (x y : Int32) : Prop := (x = nI 8 ∧ y = -nI 9) ∨ ∃ i : Nat, i < 8 ∧ x = nI i ∧ y = nI i
theorem g_b64_0 {bm : Int32} {br M mm : Nat → Int32} (k5 : Int32 → Int32 → Option Int32) (y : Int32) {k : Nat} : fX9_lacking_b64 bm br M mm k5 y (nI k) (nI 0) = k5 y (nI (k + 1)) := by
  unfold fX9_lacking_b64
  simp only [lit_nI]
  rw [if_true, bnd_eq, n_add]
theorem lack_step {B : Nat} {g : Nat → Nat → Nat} {ts bm : Int32} {td br : Nat → Int32} (h : TreeR B g ts td bm br) {b r : Nat} (hb : b < B) (hb2 : g b 2 = 2) {D M mk mm : Nat → Int32} (hN : NowR (tc g B) D M) (hK : MakR M mk mm) (h1 : 1 ≤ r) (h9 : r ≤ 9) {x y : Int32} (hF : FR x y) : ∃ x' y', FR x' y' ∧ (∀ k6 n, fX7_firstThatLeftUnfilled_l23 mk ts td D k6 (n + 1) x (nI (tc g b)) (nI (g b 3)) (nI r) = fX7_firstThatLeftUnfilled_l23 mk ts td D k6 n x' (nI (tc g b)) (nI (g b 3)) (nI (r + 1))) ∧ (∀ n2, fX9_lacking_l5 bm br M mm (n2 + 1) y (nI (9 * tc g b + r - 1)) = fX9_lacking_l5 bm br M mm n2 y' (nI (9 * tc g b + r - 1 + 1))) := by
  have b3 := (h.2.2.2.2.2.1 b hb).2.2.2.2.2.2.2 hb2
  have hT := h.2.2.2.1
  have htT : tc g b < tc g B := by
    have := tc_mono g (show b + 1 ≤ B by omega)
    rw [tc_succ, if_pos hb2] at this
    omega
  obtain ⟨t, htt⟩ : ∃ t, t = tc g b := ⟨_, rfl⟩
  rw [← htt] at htT ⊢
  have ht : t < 2 := by omega
  obtain ⟨k, hk⟩ : ∃ k, k = 9 * t + r - 1 := ⟨_, rfl⟩
  have hk18 : k < 18 := by omega
  obtain ⟨c1, ⟨s, hs, st⟩, c3, c4⟩ := hN.parts.2.1 k hk18
  have ne : ∀ {a b : Nat}, a < 2 ^ 31 → b < 2 ^ 31 → a ≠ b → ¬ nI a = nI b := fun ha hb z => by rw [n_eq ha hb]; exact z
  have z10 : ¬ nI 1 = nI 0 := ne (by omega) (by omega) (by omega)
  have e1 := f_statusOf D ht h1 h9
  rw [← hk, c1, st] at e1
  have e2 := g_statusOf M ht h1 h9
  rw [← hk, st] at e2
  have eu := f_unfilled D ht h1 h9 b3.2
  have em := g_missing h M hb hb2 htt.symm ht h1 h9
  rw [← hk] at eu em
  have emk : fX7_makerOf mk (nI t) (nI r) = some (mk k) := by
    unfold fX7_makerOf
    simp only [lit_nI]
    rw [n_mul, n_add, n_sub (by omega), bnd_eq, Nat.mul_comm t 9, ← hk, if_neg (nn0 (by omega)), if_neg (by rw [n_le (by omega) (by omega)]; omega), gin_nI (by omega) (by omega), n_cl (by omega)]
  have stC : ∀ k6 n, fX7_firstThatLeftUnfilled_l23 mk ts td D k6 (n + 1) x (nI t) (nI (g b 3)) (nI r) = if s = 1 ∧ 0 < ufc D k (g b 3) then fX7_firstThatLeftUnfilled_l23 mk ts td D k6 n (jmin x (mk k)) (nI t) (nI (g b 3)) (nI (r + 1)) else fX7_firstThatLeftUnfilled_l23 mk ts td D k6 n x (nI t) (nI (g b 3)) (nI (r + 1)) := by
    intro k6 n
    have ul := ufc_le D k (g b 3)
    rw [fX7_firstThatLeftUnfilled_l23_s]
    unfold fX7_firstThatLeftUnfilled_b23
    simp only [lit_nI]
    rw [if_neg (by rw [n_lt (by omega) (by omega)]; omega), e1, bd_s]
    by_cases s1 : s = 1
    · rw [if_pos (by rw [s1]), eu, bd_s]
      by_cases u0 : ufc D k (g b 3) = 0
      · rw [if_pos (by rw [u0, n_le (by omega) (by omega)]; omega), bnd_eq, n_add, if_neg (by omega)]
      · rw [if_neg (by rw [n_le (by omega) (by omega)]; omega), emk, bd_s, bnd_eq, bnd_eq, n_add, if_pos (by omega)]
    · rw [if_neg (ne (by omega) (by omega) s1), bnd_eq, n_add, if_neg (by omega)]
  have ekd : nI k / nI 9 = nI t := by rw [n_div (by omega) (by omega) (by omega)]; exact congrArg nI (by omega)
  have ekr : jrem (nI k) (nI 9) + nI 1 = nI r := by rw [n_rem (by omega) (by omega) (by omega), n_add]; exact congrArg nI (by omega)
  have stR : ∀ n2, fX9_lacking_l5 bm br M mm (n2 + 1) y (nI k) = if mm k < nI 0 then fX9_lacking_l5 bm br M mm n2 y (nI (k + 1)) else if s = 1 ∧ 0 < ufm M k (g b 3) then fX9_lacking_b64 bm br M mm (fX9_lacking_l5 bm br M mm n2) y (nI k) (nI 1) else fX9_lacking_l5 bm br M mm n2 y (nI (k + 1)) := by
    intro n2
    have ul := ufm_le M k (g b 3)
    rw [fX9_lacking_l5_s]
    unfold fX9_lacking_b5
    simp only [lit_nI]
    rw [g_tables h, bd_s, n_mul, if_neg (by rw [n_le (by omega) (by omega)]; omega), bnd_eq, bnd_eq, ekd, ekr, gin_nI (by omega) (by omega), n_cl (by omega), e2, bd_s, em, bd_s, g_b64_0]
    by_cases m0 : mm k < nI 0
    · rw [if_pos m0, if_pos m0]
    · rw [if_neg m0, if_neg m0]
      by_cases s1 : s = 1
      · rw [if_pos (by rw [s1])]
        by_cases u0 : ufm M k (g b 3) = 0
        · rw [if_pos (by rw [u0, n_le (by omega) (by omega)]; omega), if_neg (by omega)]
        · rw [if_neg (by rw [n_le (by omega) (by omega)]; omega), if_pos (by omega)]
      · rw [if_neg (ne (by omega) (by omega) s1), if_neg (by omega)]
  rw [← hk]
  by_cases q : s = 1 ∧ 0 < ufm M k (g b 3)
  · have sn : M (8 + 4 * k) ≠ nI 0 := by rw [st]; exact ne (by omega) (by omega) (by omega)
    have ue := uf_eq hN hk18 sn (g b 3) b3.2
    have q' : s = 1 ∧ 0 < ufc D k (g b 3) := by rw [ue]; exact q
    have kc : ∀ k6 n, fX7_firstThatLeftUnfilled_l23 mk ts td D k6 (n + 1) x (nI t) (nI (g b 3)) (nI r) = fX7_firstThatLeftUnfilled_l23 mk ts td D k6 n (jmin x (mk k)) (nI t) (nI (g b 3)) (nI (r + 1)) := fun k6 n => by rw [stC, if_pos q']
    rcases hK k hk18 sn with ⟨a1, a2⟩ | ⟨i, i1, i2, i3⟩
    · refine ⟨jmin x (mk k), y, ?_, kc, fun n2 => by rw [stR, if_pos (by rw [a2]; decide +kernel)]⟩
      have : jmin x (mk k) = x := by
        unfold jmin
        rw [a1]
        rcases hF with ⟨f1, f2⟩ | ⟨i, i1, i2, i3⟩
        · rw [f1, if_neg (by rw [n_lt (by omega) (by omega)]; omega)]
        · rw [i2, if_neg (by rw [n_lt (by omega) (by omega)]; omega)]
      rw [this]
      exact hF
    · have mn : ¬ mm k < nI 0 := by rw [i3]; exact nn0 (by omega)
      have kr : ∀ n2, fX9_lacking_l5 bm br M mm (n2 + 1) y (nI k) = fX9_lacking_l5 bm br M mm n2 (if y = -nI 9 then nI i else if y ≤ nI i then y else nI i) (nI (k + 1)) := by
        intro n2
        rw [stR, if_neg mn, if_pos q]
        unfold fX9_lacking_b64 fX9_lacking_b87
        simp only [lit_nI]
        rw [if_neg z10, gin_nI (by omega) (by omega), gin_nI (by omega) (by omega), bnd_eq, bnd_eq, bnd_eq, n_cl (by omega), n_add, i3]
        by_cases w1 : y = -nI 9
        · rw [if_pos w1, if_pos w1]
        · rw [if_neg w1, if_neg w1]
          by_cases w2 : y ≤ nI i
          · rw [if_pos w2, if_pos w2]
          · rw [if_neg w2, if_neg w2]
      refine ⟨jmin x (mk k), if y = -nI 9 then nI i else if y ≤ nI i then y else nI i, ?_, kc, kr⟩
      unfold jmin
      rw [i2]
      rcases hF with ⟨f1, f2⟩ | ⟨i', j1, j2, j3⟩
      · rw [if_pos f2, f1, if_pos (by rw [n_lt (by omega) (by omega)]; omega)]
        exact Or.inr ⟨i, i1, rfl, rfl⟩
      · have w9 : ¬ nI i' = -nI 9 := by rw [n_eqm (by omega) (by omega) (by omega)]; exact not_false
        rw [j3, if_neg w9, j2]
        by_cases w : i < i'
        · have wl : nI i < nI i' := by rw [n_lt (by omega) (by omega)]; exact w
          have wn : ¬ nI i' ≤ nI i := by rw [n_le (by omega) (by omega)]; omega
          rw [if_pos wl, if_neg wn]
          exact Or.inr ⟨i, i1, rfl, rfl⟩
        · have wl : ¬ nI i < nI i' := by rw [n_lt (by omega) (by omega)]; exact w
          have wn : nI i' ≤ nI i := by rw [n_le (by omega) (by omega)]; omega
          rw [if_neg wl, if_pos wn]
          exact Or.inr ⟨i', j1, rfl, rfl⟩
  · have q' : ¬ (s = 1 ∧ 0 < ufc D k (g b 3)) := by
      intro z
      have sn : M (8 + 4 * k) ≠ nI 0 := by rw [st]; exact ne (by omega) (by omega) (by omega)
      rw [uf_eq hN hk18 sn (g b 3) b3.2] at z
      exact q z
    refine ⟨x, y, hF, fun k6 n => by rw [stC, if_neg q'], fun n2 => ?_⟩
    rw [stR, if_neg q]
    split <;> rfl
theorem lack_idle {ts : Int32} {td : Nat → Int32} {T t : Nat} {D M mk : Nat → Int32} (hN : NowR T D M) (ht : t < 2) (htT : T ≤ t) (x c : Int32) (k6 : Int32 → Int32 → Option Int32) : ∀ (n r : Nat), 1 ≤ r → r ≤ 10 → 10 < r + n → fX7_firstThatLeftUnfilled_l23 mk ts td D k6 n x (nI t) c (nI r) = k6 x (nI (t + 1)) := by
  intro n
  induction n with
  | zero => intro r r1 r2 r3; omega
  | succ n ih =>
    intro r r1 r2 r3
    rw [fX7_firstThatLeftUnfilled_l23_s]
    unfold fX7_firstThatLeftUnfilled_b23
    simp only [lit_nI]
    by_cases y : r = 10
    · rw [if_pos (by rw [n_lt (by omega) (by omega)]; omega), bnd_eq, n_add]
    · have e1 := f_statusOf D ht r1 (show r ≤ 9 by omega)
      obtain ⟨c1, c2, c3, c4⟩ := hN.parts.2.1 (9 * t + r - 1) (by omega)
      rw [c1, c3 (by omega)] at e1
      rw [if_neg (by rw [n_lt (by omega) (by omega)]; omega), e1, bd_s, if_neg (by rw [n_eq (by omega) (by omega)]; omega), bnd_eq, n_add]
      exact ih (r + 1) (by omega) (by omega) (by omega)
theorem lack_both {B : Nat} {g : Nat → Nat → Nat} {ts bm : Int32} {td br : Nat → Int32} (h : TreeR B g ts td bm br) {D M mk mm : Nat → Int32} (hN : NowR (tc g B) D M) (hK : MakR M mk mm) : ∃ x y, FR x y ∧ fX7_firstThatLeftUnfilled mk ts td D = some x ∧ fX9_lacking bm br M mm = some y := by
  have hT := h.2.2.2.1
  have inner : ∀ {b : Nat}, b < B → g b 2 = 2 → ∀ (k6 : Int32 → Int32 → Option Int32) (n r : Nat) (x y : Int32), 1 ≤ r → r ≤ 10 → 10 < r + n → FR x y → ∃ x' y', FR x' y' ∧ fX7_firstThatLeftUnfilled_l23 mk ts td D k6 n x (nI (tc g b)) (nI (g b 3)) (nI r) = k6 x' (nI (tc g b + 1)) ∧ ∀ n2, fX9_lacking_l5 bm br M mm (n2 + (10 - r)) y (nI (9 * tc g b + r - 1)) = fX9_lacking_l5 bm br M mm n2 y' (nI (9 * tc g b + 9)) := by
    intro b hb hb2 k6 n
    induction n with
    | zero => intro r x y r1 r2 r3; omega
    | succ n ih =>
      intro r x y r1 r2 r3 hF
      by_cases e : r = 10
      · refine ⟨x, y, hF, ?_, fun n2 => by rw [e]; rfl⟩
        have := tc_le g b
        have hB := h.1
        rw [fX7_firstThatLeftUnfilled_l23_s]
        unfold fX7_firstThatLeftUnfilled_b23
        simp only [lit_nI]
        rw [if_pos (by rw [n_lt (by omega) (by omega)]; omega), bnd_eq, n_add]
      · obtain ⟨x1, y1, f1, f2, f3⟩ := lack_step h hb hb2 hN hK r1 (by omega) hF
        obtain ⟨x2, y2, g1, g2, g3⟩ := ih (r + 1) x1 y1 (by omega) (by omega) (by omega) f1
        refine ⟨x2, y2, g1, by rw [f2]; exact g2, fun n2 => ?_⟩
        rw [show n2 + (10 - r) = n2 + (10 - (r + 1)) + 1 by omega, f3]
        have e9 := g3 n2
        rw [show 9 * tc g b + (r + 1) - 1 = 9 * tc g b + r - 1 + 1 by omega] at e9
        exact e9
  have idle : ∀ (n t : Nat) (x : Int32), t ≤ 2 → 2 < t + n → tc g B ≤ t → fX7_firstThatLeftUnfilled_l6 mk ts td D n x (nI t) = some x := by
    intro n
    induction n with
    | zero => intro t x t1 t2; omega
    | succ n ih =>
      intro t x t1 t2 t3
      rw [fX7_firstThatLeftUnfilled_l6_s]
      unfold fX7_firstThatLeftUnfilled_b6
      simp only [lit_nI]
      by_cases e : t = 2
      · rw [if_pos (by rw [n_le (by omega) (by omega)]; omega)]
      · rw [if_neg (by rw [n_le (by omega) (by omega)]; omega), f_columnsOf_no h t3 (by omega), bd_s, lack_idle hN (by omega) t3 _ _ _ 1000 1 (by omega) (by omega) (by omega)]
        exact ih (t + 1) x (by omega) (by omega) (by omega)
  have outer : ∀ (n t : Nat) (x y : Int32), t ≤ tc g B → 2 < t + n → FR x y → ∃ x' y', FR x' y' ∧ fX7_firstThatLeftUnfilled_l6 mk ts td D n x (nI t) = some x' ∧ ∀ n2, 9 * (tc g B - t) < n2 → fX9_lacking_l5 bm br M mm n2 y (nI (9 * t)) = some y' := by
    intro n
    induction n with
    | zero => intro t x y t1 t2; omega
    | succ n ih =>
      intro t x y t1 t2 hF
      by_cases e : t = tc g B
      · refine ⟨x, y, hF, idle (n + 1) t x (by omega) t2 (by omega), fun n2 hn => ?_⟩
        obtain ⟨n3, rfl⟩ : ∃ k, n2 = k + 1 := ⟨n2 - 1, by omega⟩
        rw [fX9_lacking_l5_s]
        unfold fX9_lacking_b5
        simp only [lit_nI]
        rw [g_tables h, bd_s, n_mul, if_pos (by rw [n_le (by omega) (by omega)]; omega)]
      · obtain ⟨b, b1, b2, b3⟩ := tab_ex (show t < tc g B by omega)
        obtain ⟨x1, y1, f1, f2, f3⟩ := inner b1 b2 (fX7_firstThatLeftUnfilled_l6 mk ts td D n) 1000 1 x y (by omega) (by omega) (by omega) hF
        obtain ⟨x2, y2, g1, g2, g3⟩ := ih (t + 1) x1 y1 (by omega) (by omega) f1
        refine ⟨x2, y2, g1, ?_, fun n2 hn => ?_⟩
        · rw [fX7_firstThatLeftUnfilled_l6_s]
          unfold fX7_firstThatLeftUnfilled_b6
          simp only [lit_nI]
          rw [if_neg (by rw [n_le (by omega) (by omega)]; omega), f_columnsOf h b1 b2 b3, bd_s]
          rw [b3] at f2
          rw [f2, g2]
        · have := f3 (n2 - 9)
          rw [b3, show n2 - 9 + (10 - 1) = n2 by omega, show 9 * t + 1 - 1 = 9 * t by omega] at this
          rw [this]
          have := g3 (n2 - 9) (by omega)
          rw [show 9 * (t + 1) = 9 * t + 9 by omega] at this
          exact this
  obtain ⟨x, y, f1, f2, f3⟩ := outer 1000 0 (nI 8) (-nI 9) (by omega) (by omega) (Or.inl ⟨rfl, rfl⟩)
  refine ⟨x, y, f1, ?_, ?_⟩
  · unfold fX7_firstThatLeftUnfilled
    simp only [lit_nI]
    exact f2
  · unfold fX9_lacking
    simp only [lit_nI]
    exact f3 1000 (by omega)
theorem carry_both {B : Nat} {g : Nat → Nat → Nat} {ts bm : Int32} {td br : Nat → Int32} (h : TreeR B g ts td bm br) {I : Nat} {names values item : Nat → Int32} (hit : ItR I names values item) (hI : I ≤ 8) : ∀ (n n2 i : Nat) (D M mk mm : Nat → Int32), NowR (tc g B) D M → MakR M mk mm → i ≤ I → I < i + n → I < i + n2 →
    ∃ (x : Nat) (mk' D' mm' M' : Nat → Int32), x < 1000 ∧ fX7_carryOut_l12 (nI I) names values ts td n mk D (nI i) = some (nI x, mk', D') ∧ fX9_doesAll_l26 bm (nI I) br item n2 M mm (nI i) = some (nI x, M', mm') ∧ (x = 0 → NowR (tc g B) D' M') := by
  have ne : ∀ {a b : Nat}, a < 2 ^ 31 → b < 2 ^ 31 → a ≠ b → ¬ nI a = nI b := fun ha hb z => by rw [n_eq ha hb]; exact z
  intro n
  induction n with
  | zero => intro n2 i D M mk mm hN hK i1 i2; omega
  | succ n ih =>
    intro n2 i D M mk mm hN hK i1 i2 i3
    obtain ⟨n3, rfl⟩ : ∃ k, n2 = k + 1 := ⟨n2 - 1, by omega⟩
    rw [fX7_carryOut_l12_s, fX9_doesAll_l26_s]
    unfold fX7_carryOut_b12 fX9_doesAll_b26
    simp only [lit_nI]
    by_cases e : i = I
    · obtain ⟨x, y, f1, f2, f3⟩ := lack_both h hN hK
      rw [if_pos (by rw [n_le (by omega) (by omega)]; omega), if_pos (by rw [n_le (by omega) (by omega)]; omega), f2, bd_s, f3, bd_s]
      rcases f1 with ⟨u1, u2⟩ | ⟨j, j1, j2, j3⟩
      · rw [if_pos u1, if_pos u2]
        exact ⟨0, _, _, _, _, by omega, rfl, rfl, fun _ => hN⟩
      · rw [j2, j3, if_neg (ne (by omega) (by omega) (by omega)), if_neg (by rw [n_eqm (by omega) (by omega) (by omega)]; exact not_false), n_mul, n_add]
        exact ⟨10 * j + 5, _, _, _, _, by omega, rfl, rfl, fun z => absurd z (by omega)⟩
    · rw [if_neg (by rw [n_le (by omega) (by omega)]; omega), if_neg (by rw [n_le (by omega) (by omega)]; omega)]
      obtain ⟨x, mk', D', mm', M', x1, x2, x3, x4⟩ := does_both h hit (show i < I by omega) hI hN hK
      rw [x2, bd_s, x3, bd_s]
      dsimp only
      by_cases x0 : x = 0
      · obtain ⟨y1, y2⟩ := x4 x0
        rw [if_pos (by rw [x0]), if_pos (by rw [x0, n_le (by omega) (by omega)]; omega), bnd_eq, bnd_eq, n_add]
        exact ih n3 (i + 1) D' M' mk' mm' y1 y2 (by omega) (by omega) (by omega)
      · rw [if_neg (ne (by omega) (by omega) x0), if_neg (by rw [n_le (by omega) (by omega)]; omega), n_mul, n_add]
        exact ⟨10 * i + x, _, _, _, _, by omega, rfl, rfl, fun z => absurd z (by omega)⟩
theorem carry_all {B : Nat} {g : Nat → Nat → Nat} {ts bm : Int32} {td br : Nat → Int32} (h : TreeR B g ts td bm br) {I : Nat} {names values item : Nat → Int32} (hit : ItR I names values item) (hI : I ≤ 8) {D M : Nat → Int32} (mk mm : Nat → Int32) (hN : NowR (tc g B) D M) :
    ∃ (x : Nat) (mk' D' mm' M' : Nat → Int32), x < 1000 ∧ fX7_carryOut (nI I) names values ts td mk D = some (nI x, mk', D') ∧ fX9_doesAll bm (nI I) br item M mm = some (nI x, M', mm') ∧ (x = 0 → NowR (tc g B) D' M') := by
  have fill : ∀ (n k : Nat) (mm : Nat → Int32), k ≤ 18 → 18 < k + n → (∀ i, i < k → mm i = -nI 1) → ∃ mm', fX9_doesAll_l2 bm (nI I) br item n M mm (nI k) = fX9_doesAll_l26 bm (nI I) br item 1000 M mm' (nI 0) ∧ ∀ i, i < 18 → mm' i = -nI 1 := by
    intro n
    induction n with
    | zero => intro k mm k1 k2; omega
    | succ n ih =>
      intro k mm k1 k2 k3
      rw [fX9_doesAll_l2_s]
      unfold fX9_doesAll_b2
      simp only [lit_nI]
      by_cases e : k = 18
      · exact ⟨mm, by rw [if_pos (by rw [n_le (by omega) (by omega)]; omega)], fun i hi => k3 i (by omega)⟩
      · rw [if_neg (by rw [n_le (by omega) (by omega)]; omega), gin_nI (by omega) (by omega), bnd_eq, n_add, n_cl (by omega)]
        exact ih (k + 1) _ (by omega) (by omega) (fun i hi => by
          by_cases z : i = k
          · rw [z, upd_s]
          · rw [upd_n z]; exact k3 i (by omega))
  obtain ⟨mm', m1, m2⟩ := fill 1000 0 mm (by omega) (by omega) (fun i hi => absurd hi (by omega))
  obtain ⟨mk', k1, k2⟩ := f_fill (N := 18) (by omega) (nI 8) mk
  obtain ⟨x, a, b, c, d, x1, x2, x3, x4⟩ := carry_both h hit hI 1000 1000 0 D M mk' mm' hN (fun k hk _ => Or.inl ⟨by rw [k2, if_pos hk], m2 k hk⟩) (by omega) (by omega) (by omega)
  refine ⟨x, a, b, c, d, x1, ?_, ?_, x4⟩
  · unfold fX7_carryOut
    simp only [lit_nI]
    rw [k1, bd_s]
    exact x2
  · unfold fX9_doesAll
    simp only [lit_nI]
    rw [m1]
    exact x3
