/-! notices of what changed; orders -/
theorem add_both {T w : Nat} {D M : Nat → Int32} (h1 : HeadR D M) (h2 : RowsR T D M) (h3 : NoR w D M) (hw : w < 8) (kd t r : Int32) : ∃ D' M', fX4_addNotice_b25 kd t r D = some D' ∧ fX9_notices_b28 kd t r M = some M' ∧ NowR T D' M' ∧ (∀ p, 12 ≤ p → p < 84 → D' p = D p) ∧ (∀ p, 8 ≤ p → p < 80 → M' p = M p) := by
  obtain ⟨a1, a2, a3, a4, a5⟩ := h3
  have ew := f_waiting a2
  have e80 : M (nI 80).toNatClampNeg = nI w := by rw [n_cl (by omega)]; exact a3
  have D3 : (upd (upd (upd (upd (upd D (84 + 5 * w) kd) (84 + 5 * w + 1) t) (84 + 5 * w + 2) r) (84 + 5 * w + 3) (nI 1)) (84 + 5 * w + 4) (nI 3)) 3 = nI w := by
    rw [upd_n (by omega), upd_n (by omega), upd_n (by omega), upd_n (by omega), upd_n (by omega)]; exact a2
  have M80 : (upd (upd (upd (upd (upd M (81 + 5 * w) kd) (81 + 5 * w + 1) t) (81 + 5 * w + 2) r) (81 + 5 * w + 3) (nI 1)) (81 + 5 * w + 4) (nI 3)) 80 = nI w := by
    rw [upd_n (by omega), upd_n (by omega), upd_n (by omega), upd_n (by omega), upd_n (by omega)]; exact a3
  have ew2 := f_waiting D3
  have eC : fX4_addNotice_b25 kd t r D = some (upd (upd (upd (upd (upd (upd D (84 + 5 * w) kd) (84 + 5 * w + 1) t) (84 + 5 * w + 2) r) (84 + 5 * w + 3) (nI 1)) (84 + 5 * w + 4) (nI 3)) 3 (nI (w + 1))) := by
    unfold fX4_addNotice_b25 fX4_noticePlace
    simp only [lit_nI]
    rw [ew, bd_s, bd_s, n_mul, n_add, Nat.mul_comm w 5, n_add, n_add, n_add, n_add, n_add, Nat.add_zero, f_write _ _ (by omega), bd_s, f_write _ _ (by omega), bd_s, f_write _ _ (by omega), bd_s, f_write _ _ (by omega), bd_s, f_write _ _ (by omega), bd_s, ew2, bd_s, n_add, f_write _ _ (by omega), bd_s]
  have eR : fX9_notices_b28 kd t r M = some (upd (upd (upd (upd (upd (upd M (81 + 5 * w) kd) (81 + 5 * w + 1) t) (81 + 5 * w + 2) r) (81 + 5 * w + 3) (nI 1)) (81 + 5 * w + 4) (nI 3)) 80 (nI (w + 1))) := by
    unfold fX9_notices_b28
    simp only [lit_nI]
    rw [e80, n_mul, n_add, bnd_eq, n_add, n_add, n_add, n_add]
    simp (disch := omega) only [gin_nI, n_cl]
    rw [M80, n_add]
  have oD : ∀ p, p ≠ 3 → (p < 84 + 5 * w ∨ 84 + 5 * w + 5 ≤ p) → (upd (upd (upd (upd (upd (upd D (84 + 5 * w) kd) (84 + 5 * w + 1) t) (84 + 5 * w + 2) r) (84 + 5 * w + 3) (nI 1)) (84 + 5 * w + 4) (nI 3)) 3 (nI (w + 1))) p = D p := fun p p1 p2 => by rw [upd_n (by omega), upd_n (by omega), upd_n (by omega), upd_n (by omega), upd_n (by omega), upd_n (by omega)]
  have oM : ∀ p, p ≠ 80 → (p < 81 + 5 * w ∨ 81 + 5 * w + 5 ≤ p) → (upd (upd (upd (upd (upd (upd M (81 + 5 * w) kd) (81 + 5 * w + 1) t) (81 + 5 * w + 2) r) (81 + 5 * w + 3) (nI 1)) (81 + 5 * w + 4) (nI 3)) 80 (nI (w + 1))) p = M p := fun p p1 p2 => by rw [upd_n (by omega), upd_n (by omega), upd_n (by omega), upd_n (by omega), upd_n (by omega), upd_n (by omega)]
  refine ⟨_, _, eC, eR, NowR_of (w := w + 1) (h1.congr (fun p p1 p2 => oD p p2 (by omega)) (fun p p1 => oM p (by omega) (by omega))) (h2.congr (fun p p1 p2 => oD p (by omega) (by omega)) (fun p p1 p2 => oM p (by omega) (by omega))) ⟨by omega, upd_s _ _ _, upd_s _ _ _, fun j hj => ?_, fun i hi => ?_⟩, fun p p1 p2 => oD p (by omega) (by omega), fun p p1 p2 => oM p (by omega) (by omega)⟩
  · by_cases e : j < 5 * w
    · rw [oD _ (by omega) (by omega), oM _ (by omega) (by omega)]
      exact a4 j e
    · rcases (show j = 5 * w ∨ j = 5 * w + 1 ∨ j = 5 * w + 2 ∨ j = 5 * w + 3 ∨ j = 5 * w + 4 by omega) with rfl | rfl | rfl | rfl | rfl
      · rw [upd_n (by omega), upd_n (by omega), upd_n (by omega), upd_n (by omega), upd_n (by omega), upd_s, upd_n (by omega), upd_n (by omega), upd_n (by omega), upd_n (by omega), upd_n (by omega), upd_s]
      · rw [← Nat.add_assoc, ← Nat.add_assoc, upd_n (by omega), upd_n (by omega), upd_n (by omega), upd_n (by omega), upd_s, upd_n (by omega), upd_n (by omega), upd_n (by omega), upd_n (by omega), upd_s]
      · rw [← Nat.add_assoc, ← Nat.add_assoc, upd_n (by omega), upd_n (by omega), upd_n (by omega), upd_s, upd_n (by omega), upd_n (by omega), upd_n (by omega), upd_s]
      · rw [← Nat.add_assoc, ← Nat.add_assoc, upd_n (by omega), upd_n (by omega), upd_s, upd_n (by omega), upd_n (by omega), upd_s]
      · rw [← Nat.add_assoc, ← Nat.add_assoc, upd_n (by omega), upd_s, upd_n (by omega), upd_s]
  · by_cases e : i = w
    · subst e
      exact ⟨⟨1, by omega, by omega, by rw [upd_n (by omega), upd_n (by omega), upd_s]⟩, ⟨3, by omega, by omega, by rw [upd_n (by omega), upd_s]⟩⟩
    · rw [oM _ (by omega) (by omega), oM _ (by omega) (by omega)]
      exact a5 i (by omega)
theorem note_both {T : Nat} {D M : Nat → Int32} (h : NowR T D M) (kd t r : Int32) : ∃ D' M', fX4_addNotice kd t r D = some D' ∧ fX9_notices kd t r M = some M' ∧ NowR T D' M' ∧ (∀ p, 12 ≤ p → p < 84 → D' p = D p) ∧ (∀ p, 8 ≤ p → p < 80 → M' p = M p) := by
  obtain ⟨h1, h2, w, h3⟩ := h.parts
  have hw := h3.1
  have ew := f_waiting h3.2.1
  have e80 : M (nI 80).toNatClampNeg = nI w := by rw [n_cl (by omega)]; exact h3.2.2.1
  unfold fX4_addNotice fX9_notices
  simp only [lit_nI]
  rw [ew, bd_s, gin_nI (by omega) (by omega), e80]
  by_cases e : w < 8
  · rw [if_pos (by rw [n_lt (by omega) (by omega)]; exact e), if_neg (by rw [n_eq (by omega) (by omega)]; omega)]
    exact add_both h1 h2 h3 e kd t r
  · have w8 : w = 8 := by omega
    subst w8
    obtain ⟨D1, M1, d1, d2, d3, d4, d5, d6, d7⟩ := drop_now h1 h2 h3 (i := 0) (by omega) (M2 := M) (fun _ _ _ => rfl)
    have edr : fX4_dropped D1 = some (D1 1) := by
      unfold fX4_dropped
      simp only [lit_nI]
      rw [f_read D1 (by omega), bd_s]
    have d31 := d3.2.2.1
    have hh : HeadR (upd D1 1 (D1 1 + nI 1)) (upd M1 122 (M1 122 + nI 1)) := by
      obtain ⟨b1, b2, b3, b4, b5⟩ := d3
      refine ⟨?_, ?_, ?_, ?_, fun i hi => ?_⟩
      · rw [upd_n (by omega)]; exact b1
      · rw [upd_n (by omega), upd_n (by omega)]; exact b2
      · rw [upd_s, upd_s, b3]
      · rw [upd_n (by omega), upd_n (by omega)]; exact b4
      · rw [upd_n (by omega), upd_n (by omega)]; exact b5 i hi
    have hr : RowsR T (upd D1 1 (D1 1 + nI 1)) (upd M1 122 (M1 122 + nI 1)) := d4.congr (fun p p1 p2 => upd_n (by omega)) (fun p p1 p2 => upd_n (by omega))
    have hn : NoR 7 (upd D1 1 (D1 1 + nI 1)) (upd M1 122 (M1 122 + nI 1)) := NoR.congr d5 (fun p p1 => upd_n (by omega)) (fun p p1 p2 => upd_n (by omega))
    obtain ⟨D2, M2, f1, f2, f3, f4, f5⟩ := add_both hh hr hn (by omega) kd t r
    refine ⟨D2, M2, ?_, ?_, f3, fun p p1 p2 => ?_, fun p p1 p2 => ?_⟩
    · rw [if_neg (by rw [n_lt (by omega) (by omega)]; omega), d1, bd_s, edr, bd_s, f_write _ _ (by omega), bd_s]
      exact f1
    · rw [if_pos rfl, d2, bd_s, gin_nI (by omega) (by omega), gin_nI (by omega) (by omega), n_cl (by omega)]
      exact f2
    · rw [f4 p p1 p2, upd_n (by omega), d6 p (by omega) (by omega)]
    · rw [f5 p p1 p2, upd_n (by omega), d7 p (by omega)]
theorem note_step {B : Nat} {g : Nat → Nat → Nat} {ts bm : Int32} {td br : Nat → Int32} (h : TreeR B g ts td bm br) {D0 A0 : Nat → Int32} (h0 : NowR (tc g B) D0 A0) {D M : Nat → Int32} (hN : NowR (tc g B) D M) {t r : Nat} (htT : t < tc g B) (h1 : 1 ≤ r) (h9 : r ≤ 9) : ∃ D' M', NowR (tc g B) D' M' ∧ (∀ k2 n, fX4_noteChanges_l9 D0 k2 (n + 1) D (nI t) (nI r) = fX4_noteChanges_l9 D0 k2 n D' (nI t) (nI (r + 1))) ∧ (∀ n2, fX9_noticesAll_l2 bm br A0 (n2 + 1) M (nI (9 * t + r - 1)) = fX9_noticesAll_l2 bm br A0 n2 M' (nI (9 * t + r - 1 + 1))) := by
  have hT := h.2.2.2.1
  have ht : t < 2 := by omega
  obtain ⟨k, hk⟩ : ∃ k, k = 9 * t + r - 1 := ⟨_, rfl⟩
  have hk18 : k < 18 := by omega
  obtain ⟨c1, ⟨s, hs, st⟩, -, -⟩ := hN.parts.2.1 k hk18
  obtain ⟨b1, ⟨s0, hs0, st0⟩, -, -⟩ := h0.parts.2.1 k hk18
  have ne : ∀ {a b : Nat}, a < 2 ^ 31 → b < 2 ^ 31 → a ≠ b → ¬ nI a = nI b := fun ha hb z => by rw [n_eq ha hb]; exact z
  have z10 : ¬ nI 1 = nI 0 := ne (by omega) (by omega) (by omega)
  have z01 : ¬ nI 0 = nI 1 := ne (by omega) (by omega) (by omega)
  have e1 := f_statusOf D ht h1 h9
  rw [← hk, c1, st] at e1
  have e0 := f_statusOf D0 ht h1 h9
  rw [← hk, b1, st0] at e0
  have er : fX9_rowAt (nI t) (nI r) = some (nI (8 + 4 * k)) := by rw [g_rowAt h1]; exact congrArg (fun q => some (nI q)) (by omega)
  have ekd : nI k / nI 9 = nI t := by rw [n_div (by omega) (by omega) (by omega)]; exact congrArg nI (by omega)
  have ekr : jrem (nI k) (nI 9) + nI 1 = nI r := by rw [n_rem (by omega) (by omega) (by omega), n_add]; exact congrArg nI (by omega)
  have stC : ∀ k2 n, fX4_noteChanges_l9 D0 k2 (n + 1) D (nI t) (nI r) = if s0 = 1 ↔ s = 1 then fX4_noteChanges_l9 D0 k2 n D (nI t) (nI (r + 1)) else bd (fX4_addNotice (nI (if s0 = 1 then 1 else 0)) (nI t) (nI r) D) (fun D' => fX4_noteChanges_l9 D0 k2 n D' (nI t) (nI (r + 1))) := by
    intro k2 n
    rw [fX4_noteChanges_l9_s]
    unfold fX4_noteChanges_b9 fX4_noteChanges_b30 fX4_noteChanges_b47 fX4_noteChanges_b67
    simp only [lit_nI]
    rw [if_neg (by rw [n_lt (by omega) (by omega)]; omega), e0, bd_s, e1, bd_s, bnd_eq, n_add]
    by_cases w0 : s0 = 1
    · by_cases w1 : s = 1
      · rw [if_pos (show nI s0 = nI 1 by rw [w0]), if_pos (show nI s = nI 1 by rw [w1]), if_true, if_pos (iff_of_true w0 w1)]
      · rw [if_pos (show nI s0 = nI 1 by rw [w0]), if_neg (ne (by omega) (by omega) w1), if_neg z10, if_true, if_neg (fun z => w1 (z.1 w0)), if_pos w0]
        rfl
    · by_cases w1 : s = 1
      · rw [if_neg (ne (by omega) (by omega) w0), bd_s, if_pos (show nI s = nI 1 by rw [w1]), if_neg z01, if_neg z10, if_neg (fun z => w0 (z.2 w1)), if_neg w0]
        rfl
      · rw [if_neg (ne (by omega) (by omega) w0), bd_s, if_neg (ne (by omega) (by omega) w1), if_true, if_pos (iff_of_false w0 w1)]
  have stR : ∀ n2, fX9_noticesAll_l2 bm br A0 (n2 + 1) M (nI k) = if s0 = 1 ↔ s = 1 then fX9_noticesAll_l2 bm br A0 n2 M (nI (k + 1)) else bd (fX9_notices (nI (if s0 = 1 then 1 else 0)) (nI t) (nI r) M) (fun M' => fX9_noticesAll_l2 bm br A0 n2 M' (nI (k + 1))) := by
    intro n2
    rw [fX9_noticesAll_l2_s]
    unfold fX9_noticesAll_b2 fX9_noticesAll_b42 fX9_noticesAll_b59 fX9_noticesAll_b72
    simp only [lit_nI]
    rw [g_tables h, bd_s, n_mul, if_neg (by rw [n_le (by omega) (by omega)]; omega), ekd, ekr, er, bd_s, n_add]
    simp (disch := omega) only [gin_nI, n_cl, bnd_eq]
    rw [st, st0]
    by_cases w0 : s0 = 1
    · by_cases w1 : s = 1
      · rw [if_pos (show nI s0 = nI 1 by rw [w0]), if_pos (show nI s = nI 1 by rw [w1]), if_true, if_pos (iff_of_true w0 w1)]
      · rw [if_pos (show nI s0 = nI 1 by rw [w0]), if_neg (ne (by omega) (by omega) w1), if_neg z10, if_neg z10, if_neg (fun z => w1 (z.1 w0)), if_pos w0]
    · by_cases w1 : s = 1
      · rw [if_neg (ne (by omega) (by omega) w0), if_pos (show nI s = nI 1 by rw [w1]), if_neg z01, if_true, if_neg (fun z => w0 (z.2 w1)), if_neg w0]
      · rw [if_neg (ne (by omega) (by omega) w0), if_neg (ne (by omega) (by omega) w1), if_true, if_pos (iff_of_false w0 w1)]
  rw [← hk]
  by_cases q : s0 = 1 ↔ s = 1
  · exact ⟨D, M, hN, fun k2 n => by rw [stC, if_pos q], fun n2 => by rw [stR, if_pos q]⟩
  · obtain ⟨D', M', d1, d2, d3, d4, d5⟩ := note_both hN (nI (if s0 = 1 then 1 else 0)) (nI t) (nI r)
    exact ⟨D', M', d3, fun k2 n => by rw [stC, if_neg q, d1, bd_s], fun n2 => by rw [stR, if_neg q, d2, bd_s]⟩
theorem note_idle {T t : Nat} {D0 A0 D M : Nat → Int32} (h0 : NowR T D0 A0) (hN : NowR T D M) (ht : t < 2) (htT : T ≤ t) (k2 : (Nat → Int32) → Int32 → Option (Nat → Int32)) : ∀ (n r : Nat), 1 ≤ r → r ≤ 10 → 10 < r + n → fX4_noteChanges_l9 D0 k2 n D (nI t) (nI r) = k2 D (nI (t + 1)) := by
  have z01 : ¬ nI 0 = nI 1 := by rw [n_eq (by omega) (by omega)]; omega
  intro n
  induction n with
  | zero => intro r r1 r2 r3; omega
  | succ n ih =>
    intro r r1 r2 r3
    rw [fX4_noteChanges_l9_s]
    unfold fX4_noteChanges_b9 fX4_noteChanges_b30 fX4_noteChanges_b47
    simp only [lit_nI]
    by_cases y : r = 10
    · rw [if_pos (by rw [n_lt (by omega) (by omega)]; omega), bnd_eq, n_add]
    · have e1 := f_statusOf D ht r1 (show r ≤ 9 by omega)
      obtain ⟨c1, c2, c3, c4⟩ := hN.parts.2.1 (9 * t + r - 1) (by omega)
      rw [c1, c3 (by omega)] at e1
      have e0 := f_statusOf D0 ht r1 (show r ≤ 9 by omega)
      obtain ⟨b1, b2, b3, b4⟩ := h0.parts.2.1 (9 * t + r - 1) (by omega)
      rw [b1, b3 (by omega)] at e0
      rw [if_neg (by rw [n_lt (by omega) (by omega)]; omega), e0, bd_s, if_neg z01, e1, bd_s, if_neg z01, if_true, bnd_eq, n_add]
      exact ih (r + 1) (by omega) (by omega) (by omega)
theorem notes_both {B : Nat} {g : Nat → Nat → Nat} {ts bm : Int32} {td br : Nat → Int32} (h : TreeR B g ts td bm br) {D0 A0 : Nat → Int32} (h0 : NowR (tc g B) D0 A0) {D M : Nat → Int32} (hN : NowR (tc g B) D M) : ∃ D' M', NowR (tc g B) D' M' ∧ fX4_noteChanges D0 D = some D' ∧ fX9_noticesAll bm br A0 M = some M' := by
  have hT := h.2.2.2.1
  have inner : ∀ {t : Nat}, t < tc g B → ∀ (k2 : (Nat → Int32) → Int32 → Option (Nat → Int32)) (n r : Nat) (D M : Nat → Int32), 1 ≤ r → r ≤ 10 → 10 < r + n → NowR (tc g B) D M → ∃ D' M', NowR (tc g B) D' M' ∧ fX4_noteChanges_l9 D0 k2 n D (nI t) (nI r) = k2 D' (nI (t + 1)) ∧ ∀ n2, fX9_noticesAll_l2 bm br A0 (n2 + (10 - r)) M (nI (9 * t + r - 1)) = fX9_noticesAll_l2 bm br A0 n2 M' (nI (9 * t + 9)) := by
    intro t ht k2 n
    induction n with
    | zero => intro r D M r1 r2 r3; omega
    | succ n ih =>
      intro r D M r1 r2 r3 hF
      by_cases e : r = 10
      · refine ⟨D, M, hF, ?_, fun n2 => by rw [e]; rfl⟩
        rw [fX4_noteChanges_l9_s]
        unfold fX4_noteChanges_b9
        simp only [lit_nI]
        rw [if_pos (by rw [n_lt (by omega) (by omega)]; omega), bnd_eq, n_add]
      · obtain ⟨x1, y1, f1, f2, f3⟩ := note_step h h0 hF ht r1 (by omega)
        obtain ⟨x2, y2, g1, g2, g3⟩ := ih (r + 1) x1 y1 (by omega) (by omega) (by omega) f1
        refine ⟨x2, y2, g1, by rw [f2]; exact g2, fun n2 => ?_⟩
        rw [show n2 + (10 - r) = n2 + (10 - (r + 1)) + 1 by omega, f3]
        have e9 := g3 n2
        rw [show 9 * t + (r + 1) - 1 = 9 * t + r - 1 + 1 by omega] at e9
        exact e9
  have idle : ∀ (n t : Nat) (D M : Nat → Int32), NowR (tc g B) D M → t ≤ 2 → 2 < t + n → tc g B ≤ t → fX4_noteChanges_l2 D0 n D (nI t) = some D := by
    intro n
    induction n with
    | zero => intro t D M hD t1 t2; omega
    | succ n ih =>
      intro t D M hD t1 t2 t3
      rw [fX4_noteChanges_l2_s]
      unfold fX4_noteChanges_b2
      simp only [lit_nI]
      by_cases e : t = 2
      · rw [if_pos (by rw [n_le (by omega) (by omega)]; omega)]
      · rw [if_neg (by rw [n_le (by omega) (by omega)]; omega), note_idle h0 hD (by omega) t3 _ 1000 1 (by omega) (by omega) (by omega)]
        exact ih (t + 1) D M hD (by omega) (by omega) (by omega)
  have outer : ∀ (n t : Nat) (D M : Nat → Int32), t ≤ tc g B → 2 < t + n → NowR (tc g B) D M → ∃ D' M', NowR (tc g B) D' M' ∧ fX4_noteChanges_l2 D0 n D (nI t) = some D' ∧ ∀ n2, 9 * (tc g B - t) < n2 → fX9_noticesAll_l2 bm br A0 n2 M (nI (9 * t)) = some M' := by
    intro n
    induction n with
    | zero => intro t x y t1 t2; omega
    | succ n ih =>
      intro t x y t1 t2 hF
      by_cases e : t = tc g B
      · refine ⟨x, y, hF, idle (n + 1) t x y hF (by omega) t2 (by omega), fun n2 hn => ?_⟩
        obtain ⟨n3, rfl⟩ : ∃ k, n2 = k + 1 := ⟨n2 - 1, by omega⟩
        rw [fX9_noticesAll_l2_s]
        unfold fX9_noticesAll_b2
        simp only [lit_nI]
        rw [g_tables h, bd_s, n_mul, if_pos (by rw [n_le (by omega) (by omega)]; omega)]
      · obtain ⟨x1, y1, f1, f2, f3⟩ := inner (show t < tc g B by omega) (fX4_noteChanges_l2 D0 n) 1000 1 x y (by omega) (by omega) (by omega) hF
        obtain ⟨x2, y2, g1, g2, g3⟩ := ih (t + 1) x1 y1 (by omega) (by omega) f1
        refine ⟨x2, y2, g1, ?_, fun n2 hn => ?_⟩
        · rw [fX4_noteChanges_l2_s]
          unfold fX4_noteChanges_b2
          simp only [lit_nI]
          rw [if_neg (by rw [n_le (by omega) (by omega)]; omega), f2, g2]
        · have := f3 (n2 - 9)
          rw [show n2 - 9 + (10 - 1) = n2 by omega, show 9 * t + 1 - 1 = 9 * t by omega] at this
          rw [this]
          have := g3 (n2 - 9) (by omega)
          rw [show 9 * (t + 1) = 9 * t + 9 by omega] at this
          exact this
  obtain ⟨x, y, f1, f2, f3⟩ := outer 1000 0 D M (by omega) (by omega) hN
  refine ⟨x, y, f1, ?_, ?_⟩
  · unfold fX4_noteChanges
    simp only [lit_nI]
    exact f2
  · unfold fX9_noticesAll
    simp only [lit_nI]
    exact f3 1000 (by omega)
theorem g_restore (bm : Int32) (br tx : Nat → Int32) (un le a m I x : Int32) (A past item mm : Nat → Int32) : ∀ (n k : Nat) (M : Nat → Int32), k ≤ 124 → 124 < k + n → (∀ p, p < k → M p = A p) → ∃ M', fX9_orders_l30 bm br tx n un le a m I M A past item mm x (nI k) = some (-nI 1000 - x, un, le, a, m, I, M', A, past, item, mm) ∧ ∀ p, p < 124 → M' p = A p := by
  intro n
  induction n with
  | zero => intro k M k1 k2; omega
  | succ n ih =>
    intro k M k1 k2 k3
    rw [fX9_orders_l30_s]
    unfold fX9_orders_b30
    simp only [lit_nI]
    by_cases e : k = 124
    · exact ⟨M, by rw [if_pos (by rw [n_le (by omega) (by omega)]; omega)], fun p hp => k3 p (by omega)⟩
    · rw [if_neg (by rw [n_le (by omega) (by omega)]; omega), gin_nI (by omega) (by omega), gin_nI (by omega) (by omega), bnd_eq, n_add, n_cl (by omega)]
      exact ih (k + 1) _ (by omega) (by omega) (fun p hp => by
        by_cases z : p = k
        · rw [z, upd_s]
        · rw [upd_n z]; exact k3 p (by omega))
theorem f_takeFrom (S D : Nat → Int32) : fX4_takeFrom S D = some (va_cpy S D 0 0 124) := by
  unfold fX4_takeFrom
  have e := f_loadFrom D S (N := 124) (p := 0) (by omega) (by omega)
  rw [show nI 0 * nI 124 = nI 0 from by rw [n_mul]] at e
  simp only [lit_nI]
  rw [e]
  rfl
theorem s_orders : S_orders Inv := by
  intro ctext_size ctext_at ctext_length ctext_token ctext_start ctext_number ctext_letters ctext_tokens ctext_starts ctext_numbers ctree_size ctree_data ctree_fresh cdraft_size cdraft_data cdraft_fresh cwanted_size cwanted_names cwanted_values cworker_makers cnow_data ctrial_data clisting_size clisting_names clisting_values clisting_kinds cpast_newest cpast_known cpast_states_data cpast_states_taken cimages_data cimages_taken mbranchMany mundos mletters mleaves mat mmark mnewMany mnewTables mitems mbranch mnow maside mpast mimages misKept mtext mnames mvalues mkinds mfresh mitem mmaker hI
  obtain ⟨hT, B, g, hTr, hN, hP, hG⟩ := id hI
  obtain ⟨L, c, rfl, rfl, hx⟩ := hT.tx
  have hL := hx.1
  have z10 : ¬ nI 1 = nI 0 := by rw [n_eq (by omega) (by omega)]; omega
  obtain ⟨K, s, e, tok, sta, num, ht, hr⟩ := g_rewind hx ctext_size ctext_at ctext_tokens ctext_starts ctext_numbers
  have h0 := (ht.2.2.2.1 0 (by omega))
  rw [ht.2.1] at h0
  have hk := g_skipsTo hx h0 mmark
  have hs0 := h0.2.1
  have eC : fX1_readFrom (nI L) ctext_letters cwanted_size cwanted_names cwanted_values ctext_size ctext_at ctext_token ctext_start ctext_number ctext_tokens ctext_starts ctext_numbers = fX1_readFrom_l11 (nI L) ctext_letters 1000 (nI 0) cwanted_names cwanted_values (nI K) (nI 0) ctext_token ctext_start ctext_number tok sta num (nI 0) := by
    unfold fX1_readFrom
    simp only [lit_nI]
    rw [hr, bd_s]
  have key : (∃ I' names' values' item' a t' st' nu' at' mk, 1 ≤ I' ∧ I' ≤ 8 ∧ ItR I' names' values' item' ∧ fX1_readFrom_l11 (nI L) ctext_letters 1000 (nI 0) cwanted_names cwanted_values (nI K) (nI 0) ctext_token ctext_start ctext_number tok sta num (nI 0) = some (-nI 1, nI I', names', values', nI K, a, t', st', nu', tok, sta, num) ∧ fX9_readsOrders (nI L) mtext mat mmark mitems mitem = some (nI 1, at', mk, nI I', item')) ∨
    (∃ z sz ns vs a t' st' nu' at' I2 item2, z ≤ L ∧ fX1_readFrom_l11 (nI L) ctext_letters 1000 (nI 0) cwanted_names cwanted_values (nI K) (nI 0) ctext_token ctext_start ctext_number tok sta num (nI 0) = some (nI z, sz, ns, vs, nI K, a, t', st', nu', tok, sta, num) ∧ fX9_readsOrders (nI L) mtext mat mmark mitems mitem = some (nI 0, at', nI z, I2, item2)) := by
    have te := tok_end ht (j := 0) (by omega)
    unfold fX9_readsOrders
    simp only [lit_nI]
    rw [hk, bd_s]
    dsimp only
    by_cases y : 0 < K
    · rw [if_neg (by rw [n_le (by omega) (by omega)]; omega)]
      exact of_both hx ht 1000 1000 0 cwanted_names cwanted_values mitem 0 ctext_token ctext_start ctext_number (by omega) (fun i hi => absurd hi (by omega)) (by omega) (Or.inr y) (by omega) (by omega)
    · have K0 : K = 0 := by omega
      subst K0
      rw [if_pos (by rw [n_le (by omega) (by omega)]; omega), show (1000 : Nat) = 999 + 1 from rfl, g_orders_0]
      obtain ⟨j', tk', nu', a1, a2⟩ := f_advance ht (j := 0) (by omega) ctext_token ctext_start ctext_number
      have ce := cur_end ht (fun i hi => (hx.2 i hi).2.2) a1
      have hcls : fX1_readFrom_l11 (nI L) ctext_letters (999 + 1) (nI 0) cwanted_names cwanted_values (nI 0) (nI 0) ctext_token ctext_start ctext_number tok sta num (nI 0) = some (nI (s 0), nI 0, cwanted_names, cwanted_values, nI 0, nI j', tk', nI (s 0), nu', tok, sta, num) := by
        rw [fX1_readFrom_l11_s]
        unfold fX1_readFrom_b11 fX5_takes
        rw [a2, bd_s]
        dsimp only
        simp only [lit_nI]
        rw [if_neg (by rw [n_le (by omega) (by omega)]; omega), if_pos (ce.2 rfl), bd_s]
        dsimp only
        rw [if_neg z10, if_pos (by rw [n_le (by omega) (by omega)]; omega)]
      exact Or.inr ⟨s 0, nI 0, cwanted_names, cwanted_values, nI j', tk', nI (s 0), nu', nI (s 0), nI 0, mitem, hs0, hcls, rfl⟩
  rcases key with ⟨I, names, values, item, a, t', st', nu', at', mk, I1, I8, hit, k1, k2⟩ | ⟨z, sz, ns, vs, a, t', st', nu', at', I2, item2, z1, z2, z3⟩
  · rw [k1] at eC
    have hN' : NowR (tc g B) (va_cpy cnow_data ctrial_data 0 0 124) mnow := hN.congr (fun i hi => by rw [cpy_in0 _ _ hi, Nat.zero_add]) (fun _ _ => rfl)
    obtain ⟨x, mk', D', mm', M', x1, x2, x3, x4⟩ := carry_all hTr hit I8 cworker_makers mmaker hN'
    by_cases x0 : x = 0
    · subst x0
      have hN2 := x4 rfl
      have hA := cpy_same _ hN (a := maside)
      obtain ⟨D2, M2, n1, n2, n3⟩ := notes_both hTr hA hN2
      obtain ⟨pn', pk', un', pd', pt', past', p1, p2, p3⟩ := past_push hP hA
      have eo : fX8_orders ctext_letters ctree_size ctree_data ctext_size ctext_at (nI L) ctext_token ctext_start ctext_number ctext_tokens ctext_starts ctext_numbers cwanted_size cwanted_names cwanted_values cworker_makers cnow_data ctrial_data cpast_newest cpast_known cpast_states_data cpast_states_taken = some (nI I, nI K, a, nI 0, t', st', nu', tok, sta, num, nI I, names, values, mk', va_cpy D2 cnow_data 0 0 124, D2, pn', pk', pd', pt') := by
        unfold fX8_orders fX5_drop
        simp only [lit_nI]
        rw [eC, bd_s]
        dsimp only
        rw [if_pos rfl, f_takeFrom, bd_s, x2, bd_s]
        dsimp only
        rw [if_pos rfl, n2, bd_s, p1, bd_s, f_takeFrom, bd_s, bd_s]
      have ep : fX9_orders mbranchMany mbranch mtext mundos (nI L) mat mmark mitems mnow maside mpast mitem mmaker = some (nI I, un', nI 0, at', mk, nI I, M2, va_cpy mnow maside 0 0 124, past', item, mm') := by
        unfold fX9_orders
        simp only [lit_nI]
        rw [k2, bd_s]
        dsimp only
        rw [if_neg z10, g_laysAside, bd_s, x3, bd_s]
        dsimp only
        rw [if_pos (by rw [n_le (by omega) (by omega)]; omega), n3, bd_s, p2, bd_s]
      exact ⟨_, _, eo, ep, rfl, ⟨0, by omega, rfl, rfl, fun i hi => absurd hi (by omega)⟩, B, g, hTr, n1.congr (fun i hi => by dsimp only; rw [cpy_in0 _ _ hi, Nat.zero_add]) (fun _ _ => rfl), p3, hG⟩
    · obtain ⟨M2, r1, r2⟩ := g_restore mbranchMany mbranch mtext mundos (nI L) at' mk (nI I) (nI x) (va_cpy mnow maside 0 0 124) mpast item mm' 1000 0 M' (by omega) (by omega) (fun p hp => absurd hp (by omega))
      have eo : fX8_orders ctext_letters ctree_size ctree_data ctext_size ctext_at (nI L) ctext_token ctext_start ctext_number ctext_tokens ctext_starts ctext_numbers cwanted_size cwanted_names cwanted_values cworker_makers cnow_data ctrial_data cpast_newest cpast_known cpast_states_data cpast_states_taken = some (-nI 1000 - nI x, nI K, a, nI L, t', st', nu', tok, sta, num, nI I, names, values, mk', cnow_data, D', cpast_newest, cpast_known, cpast_states_data, cpast_states_taken) := by
        unfold fX8_orders
        simp only [lit_nI]
        rw [eC, bd_s]
        dsimp only
        rw [if_pos rfl, f_takeFrom, bd_s, x2, bd_s]
        dsimp only
        rw [if_neg (by rw [n_eq (by omega) (by omega)]; exact x0)]
      have ep : fX9_orders mbranchMany mbranch mtext mundos (nI L) mat mmark mitems mnow maside mpast mitem mmaker = some (-nI 1000 - nI x, mundos, nI L, at', mk, nI I, M2, va_cpy mnow maside 0 0 124, mpast, item, mm') := by
        unfold fX9_orders
        simp only [lit_nI]
        rw [k2, bd_s]
        dsimp only
        rw [if_neg z10, g_laysAside, bd_s, x3, bd_s]
        dsimp only
        rw [if_neg (by rw [n_le (by omega) (by omega)]; omega)]
        exact r1
      exact ⟨_, _, eo, ep, rfl, hT, B, g, hTr, hN.congr (fun _ _ => rfl) (fun i hi => by dsimp only; rw [r2 i hi, cpy_in0 _ _ hi, Nat.zero_add]), hP, hG⟩
  · rw [z2] at eC
    have eo : fX8_orders ctext_letters ctree_size ctree_data ctext_size ctext_at (nI L) ctext_token ctext_start ctext_number ctext_tokens ctext_starts ctext_numbers cwanted_size cwanted_names cwanted_values cworker_makers cnow_data ctrial_data cpast_newest cpast_known cpast_states_data cpast_states_taken = some (-nI 10 - nI z, nI K, a, nI L, t', st', nu', tok, sta, num, sz, ns, vs, cworker_makers, cnow_data, ctrial_data, cpast_newest, cpast_known, cpast_states_data, cpast_states_taken) := by
      unfold fX8_orders
      simp only [lit_nI]
      rw [eC, bd_s]
      dsimp only
      rw [if_neg (by rw [n_eqm (by omega) (by omega) (by omega)]; exact not_false)]
    have ep : fX9_orders mbranchMany mbranch mtext mundos (nI L) mat mmark mitems mnow maside mpast mitem mmaker = some (-nI 10 - nI z, mundos, nI L, at', nI z, I2, mnow, maside, mpast, item2, mmaker) := by
      unfold fX9_orders
      simp only [lit_nI]
      rw [z3, bd_s]
      dsimp only
      rw [if_pos rfl]
    exact ⟨_, _, eo, ep, rfl, hI⟩
