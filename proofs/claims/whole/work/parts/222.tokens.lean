/-! both step over one token -/
theorem nvr_le (c : Nat → Nat) (q : Nat) : ∀ n, (∀ i, q ≤ i → i < q + n → fig (c i)) → nvr c q n ≤ 999 := by
  intro n
  cases n with
  | zero => intro _; exact Nat.zero_le _
  | succ n =>
    intro hf
    have h0 := hf (q + n) (by omega) (by omega)
    unfold fig at h0
    rw [nvr]
    split <;> omega
/-- what advance leaves: the cursor, the token, its number -/
def Cur (K : Nat) (tok num : Nat → Int32) (j j' : Nat) (tk nu : Int32) : Prop := (j < K ∧ j' = j + 1 ∧ tk = tok j ∧ nu = num j) ∨ (j = K ∧ j' = K ∧ tk = nI 257)
theorem f_advance {L : Nat} {c : Nat → Nat} {K : Nat} {s e : Nat → Nat} {tok sta num : Nat → Int32} (h : TokR L c K s e tok sta num) {j : Nat} (hj : j ≤ K) (tk st nu : Int32) : ∃ j' tk' nu', Cur K tok num j j' tk' nu' ∧ fX5_advance (nI K) (nI L) tok sta num (nI j) tk st nu = some (nI j', tk', nI (s j), nu') := by
  obtain ⟨h1, h2, h3, h4, h5⟩ := h
  unfold fX5_advance
  simp only [lit_nI]
  by_cases z : j = K
  · subst z
    exact ⟨j, nI 257, nu, Or.inr ⟨rfl, rfl, rfl⟩, by rw [if_neg (nn0 (by omega)), if_pos (by rw [n_le (by omega) (by omega)]; omega), h3]⟩
  · obtain ⟨a1, a2, a3⟩ := h5 j (by omega)
    exact ⟨j + 1, tok j, num j, Or.inl ⟨by omega, rfl, rfl, rfl⟩, by rw [if_neg (nn0 (by omega)), if_neg (by rw [n_le (by omega) (by omega)]; omega), if_pos (by rw [n_lt (by omega) (by omega)]; omega), gin_nI (by omega) (by omega), bnd_eq, gin_nI (by omega) (by omega), bnd_eq, gin_nI (by omega) (by omega), bnd_eq, bnd_eq, n_cl (by omega), n_add, a2]⟩
/-- the token is a sign that no figure is -/
theorem cur_sign {L : Nat} {c : Nat → Nat} {K : Nat} {s e : Nat → Nat} {tok sta num : Nat → Int32} (h : TokR L c K s e tok sta num) (hc : ∀ i, i < L → c i < 256) {j j' : Nat} {tk nu : Int32} (hq : Cur K tok num j j' tk nu) {x : Nat} (hx : x < 256) (hx1 : ¬ fig x) : tk = nI x ↔ (s j < L ∧ c (s j) = x) := by
  obtain ⟨h1, h2, h3, h4, h5⟩ := h
  rcases hq with ⟨q1, q2, q3, q4⟩ | ⟨q1, q2, q3⟩
  · obtain ⟨a1, a2, a3⟩ := h5 j q1
    rw [q3]
    have := hc _ a1
    rcases a3 with ⟨b1, b2, b3, b4⟩ | ⟨b1, b2, b3⟩
    · rw [b3, n_eq (by omega) (by omega)]
      exact ⟨fun z => by omega, fun z => absurd (z.2 ▸ b1) hx1⟩
    · rw [b3, n_eq (by omega) (by omega)]
      exact ⟨fun z => ⟨a1, z⟩, fun z => z.2⟩
  · rw [q3, n_eq (by omega) (by omega), q1, h3]
    omega
theorem cur_end {L : Nat} {c : Nat → Nat} {K : Nat} {s e : Nat → Nat} {tok sta num : Nat → Int32} (h : TokR L c K s e tok sta num) (hc : ∀ i, i < L → c i < 256) {j j' : Nat} {tk nu : Int32} (hq : Cur K tok num j j' tk nu) : tk = nI 257 ↔ j = K := by
  obtain ⟨h1, h2, h3, h4, h5⟩ := h
  rcases hq with ⟨q1, q2, q3, q4⟩ | ⟨q1, q2, q3⟩
  · obtain ⟨a1, a2, a3⟩ := h5 j q1
    have := hc _ a1
    rw [q3]
    rcases a3 with ⟨b1, b2, b3, b4⟩ | ⟨b1, b2, b3⟩
    · rw [b3, n_eq (by omega) (by omega)]
      omega
    · rw [b3, n_eq (by omega) (by omega)]
      omega
  · exact ⟨fun _ => q1, fun _ => q3⟩
theorem tok_end {L : Nat} {c : Nat → Nat} {K : Nat} {s e : Nat → Nat} {tok sta num : Nat → Int32} (h : TokR L c K s e tok sta num) {j : Nat} (hj : j ≤ K) : s j < L ↔ j < K := by
  obtain ⟨h1, h2, h3, h4, h5⟩ := h
  by_cases z : j = K
  · rw [z, h3]; omega
  · exact ⟨fun _ => by omega, fun _ => (h5 j (by omega)).1⟩
theorem g_passes {L : Nat} {c : Nat → Nat} {T tx : Nat → Int32} (h : TxR L c T tx) {p q : Nat} (hs : Sk L c p q) {x : Nat} (hx : x < 256) (mark : Int32) : (q < L ∧ c q = x ∧ fX9_passes (nI L) tx (nI x) (nI p) mark = some (nI 1, nI (q + 1), nI q)) ∨ (¬ (q < L ∧ c q = x) ∧ fX9_passes (nI L) tx (nI x) (nI p) mark = some (nI 0, nI q, nI q)) := by
  have hL := h.1
  have hq := hs.2.1
  have z10 : ¬ nI 1 = nI 0 := by rw [n_eq (by omega) (by omega)]; omega
  unfold fX9_passes
  rw [g_skipsTo h hs, bd_s]
  unfold fX9_passes_b33
  simp only [lit_nI]
  by_cases e : q = L
  · refine Or.inr ⟨by omega, ?_⟩
    rw [if_pos (by rw [n_le (by omega) (by omega)]; omega), if_true, bnd_eq, gz_0, n_add, Nat.add_zero]
  · have hc := h.2 q (by omega)
    rw [if_neg (by rw [n_le (by omega) (by omega)]; omega), gin_nI (by omega) (by omega), n_cl (by omega), hc.2.1]
    by_cases y : c q = x
    · refine Or.inl ⟨by omega, y, ?_⟩
      rw [if_pos (by rw [y]), if_neg z10, bnd_eq, gz_1, n_add]
    · refine Or.inr ⟨fun w => y w.2, ?_⟩
      rw [if_neg (by rw [n_eq (by omega) (by omega)]; exact y), if_true, bnd_eq, gz_0, n_add, Nat.add_zero]
theorem g_b92 {L : Int32} {tx : Nat → Int32} {lo hi v : Nat} (h1 : lo < 2 ^ 31) (h2 : hi < 2 ^ 31) (h3 : v < 2 ^ 31) (a m : Int32) : fX9_number_b92 L tx (nI lo) (nI hi) a m (nI v) = some (if lo ≤ v ∧ v ≤ hi then nI v else -nI 1, a, m) := by
  have z10 : ¬ nI 1 = nI 0 := by rw [n_eq (by omega) (by omega)]; omega
  unfold fX9_number_b92 fX9_within fX9_number_b106
  simp only [lit_nI]
  by_cases y1 : v < lo
  · rw [if_pos (by rw [n_lt (by omega) (by omega)]; exact y1), bd_s, if_pos rfl, if_true, if_neg (by omega)]
  · rw [if_neg (by rw [n_lt (by omega) (by omega)]; exact y1)]
    by_cases y2 : hi < v
    · rw [if_pos (by rw [n_lt (by omega) (by omega)]; exact y2), bd_s, if_pos rfl, if_true, if_neg (by omega)]
    · rw [if_neg (by rw [n_lt (by omega) (by omega)]; exact y2), bd_s, if_neg z10, if_neg z10, if_pos (by omega)]
/-- a number of figures from q to e -/
theorem g_number {L : Nat} {c : Nat → Nat} {T tx : Nat → Int32} (h : TxR L c T tx) {p q e lo hi : Nat} (hs : Sk L c p q) (hf : Fg L c q e) (h1 : lo < 2 ^ 31) (h2 : hi < 2 ^ 31) (mark : Int32) : fX9_number (nI L) tx (nI lo) (nI hi) (nI p) mark = some (if nvr c q (e - q) ≤ 99 ∧ (e - q = 1 ∨ c q ≠ 48) ∧ lo ≤ nvr c q (e - q) ∧ nvr c q (e - q) ≤ hi then nI (nvr c q (e - q)) else -nI 1, nI e, nI q) := by
  have hL := h.1
  obtain ⟨f1, f2, f3, f4⟩ := hf
  have z10 : ¬ nI 1 = nI 0 := by rw [n_eq (by omega) (by omega)]; omega
  unfold fX9_number
  rw [g_skipsTo h hs, bd_s]
  simp only [lit_nI]
  have main : ∀ (n i : Nat), q + i ≤ e → e - (q + i) < n → fX9_number_l9 (nI L) tx (nI lo) (nI hi) n (nI (q + i)) (nI q) (nI (nvr c q i)) (nI i) = some (if nvr c q (e - q) ≤ 99 ∧ (e - q = 1 ∨ c q ≠ 48) ∧ lo ≤ nvr c q (e - q) ∧ nvr c q (e - q) ≤ hi then nI (nvr c q (e - q)) else -nI 1, nI e, nI q) := by
    intro n
    induction n with
    | zero => intro i i1 i2; omega
    | succ n ih =>
      intro i i1 i2
      have hv := nvr_le c q i (fun x x1 x2 => f3 x x1 (by omega))
      rw [fX9_number_l9_s]
      unfold fX9_number_b9 fX9_number_b44 fX9_number_b106
      simp only [lit_nI]
      by_cases y : q + i = e
      · have yi : e - q = i := by omega
        have hfig : fX9_isFigure (nI L) (nI (q + i)) tx = some (nI 0) := by
          rcases g_isFigure h (show q + i ≤ L by omega) with ⟨w1, w2, w3⟩ | ⟨w1, w2⟩
          · exact absurd (y ▸ w2) (f4 (by omega))
          · exact w2
        rw [hfig, bd_s, if_pos rfl, if_neg (by rw [n_le (by omega) (by omega)]; omega), y, yi]
        by_cases y1 : 99 < nvr c q i
        · rw [if_pos (by rw [n_lt (by omega) (by omega)]; exact y1), if_true, if_neg (by omega)]
        · rw [if_neg (by rw [n_lt (by omega) (by omega)]; exact y1)]
          by_cases y2 : i = 1
          · rw [if_pos (by rw [y2]), g_b92 h1 h2 (by omega)]
            by_cases y3 : lo ≤ nvr c q i ∧ nvr c q i ≤ hi
            · rw [if_pos y3, if_pos ⟨by omega, Or.inl y2, y3.1, y3.2⟩]
            · rw [if_neg y3, if_neg (fun w => y3 ⟨w.2.2.1, w.2.2.2⟩)]
          · have hc := h.2 q (by omega)
            rw [if_neg (by rw [n_eq (by omega) (by omega)]; exact y2), gin_nI (by omega) (by omega), n_cl (by omega), hc.2.1]
            by_cases y4 : c q = 48
            · rw [if_pos (by rw [y4]), if_true, if_neg (by omega)]
            · rw [if_neg (by rw [n_eq (by omega) (by omega)]; exact y4), g_b92 h1 h2 (by omega)]
              by_cases y3 : lo ≤ nvr c q i ∧ nvr c q i ≤ hi
              · rw [if_pos y3, if_pos ⟨by omega, Or.inr y4, y3.1, y3.2⟩]
              · rw [if_neg y3, if_neg (fun w => y3 ⟨w.2.2.1, w.2.2.2⟩)]
      · have hfc := f3 (q + i) (by omega) (by omega)
        have hfig : fX9_isFigure (nI L) (nI (q + i)) tx = some (nI 1) := by
          rcases g_isFigure h (show q + i ≤ L by omega) with ⟨w1, w2, w3⟩ | ⟨w1, w2⟩
          · exact w3
          · rcases w1 with w1 | w1
            · omega
            · exact absurd hfc w1
        have hc := h.2 (q + i) (by omega)
        unfold fig at hfc
        rw [hfig, bd_s, if_neg z10]
        have hi := ih (i + 1) (by omega) (by omega)
        rw [show q + (i + 1) = q + i + 1 by omega] at hi
        by_cases y1 : nvr c q i ≤ 99
        · rw [if_pos (by rw [n_le (by omega) (by omega)]; exact y1), gin_nI (by omega) (by omega), bnd_eq, bnd_eq, n_cl (by omega), hc.2.1, n_mul, n_add, n_add, n_add, n_sub (by omega)]
          rw [show nvr c q (i + 1) = 10 * nvr c q i + c (q + i) - 48 by rw [nvr, if_neg (by omega)]; omega] at hi
          exact hi
        · rw [if_neg (by rw [n_le (by omega) (by omega)]; exact y1), bnd_eq, bnd_eq, n_add, n_add]
          rw [show nvr c q (i + 1) = 100 by rw [nvr, if_pos (by omega)]] at hi
          exact hi
  exact main 1000 0 (by omega) (by omega)
theorem g_number_no {L : Nat} {c : Nat → Nat} {T tx : Nat → Int32} (h : TxR L c T tx) {p q : Nat} (hs : Sk L c p q) (hf : q = L ∨ ¬ fig (c q)) (lo hi mark : Int32) : fX9_number (nI L) tx lo hi (nI p) mark = some (-nI 1, nI q, nI q) := by
  have hL := h.1
  have hq := hs.2.1
  unfold fX9_number
  rw [g_skipsTo h hs, bd_s]
  simp only [lit_nI]
  rw [show (1000 : Nat) = 999 + 1 from rfl, fX9_number_l9_s]
  unfold fX9_number_b9 fX9_number_b106
  simp only [lit_nI]
  have hfig : fX9_isFigure (nI L) (nI q) tx = some (nI 0) := by
    rcases g_isFigure h hq with ⟨w1, w2, w3⟩ | ⟨w1, w2⟩
    · rcases hf with y | y
      · omega
      · exact absurd w2 y
    · exact w2
  rw [hfig, bd_s, if_pos rfl, if_pos (by rw [n_le (by omega) (by omega)]; omega), if_true]
/-- the token as a number, by both -/
theorem num_both {L : Nat} {c : Nat → Nat} {T tx : Nat → Int32} (h : TxR L c T tx) {K : Nat} {s e : Nat → Nat} {tok sta num : Nat → Int32} (ht : TokR L c K s e tok sta num) {j j' : Nat} {tk nu : Int32} (hq : Cur K tok num j j' tk nu) {p : Nat} (hs : Sk L c p (s j)) {lo hi : Nat} (h1 : lo < 2 ^ 31) (h2 : hi ≤ 99) (mark : Int32) :
    (∃ v, lo ≤ v ∧ v ≤ hi ∧ j < K ∧ j' = j + 1 ∧ nu = nI v ∧ fX5_isNumber tk nu (nI lo) (nI hi) = some (nI 1) ∧ fX9_number (nI L) tx (nI lo) (nI hi) (nI p) mark = some (nI v, nI (e (j + 1)), nI (s j)) ∧ Sk L c (e (j + 1)) (s (j + 1))) ∨
    (∃ p', fX5_isNumber tk nu (nI lo) (nI hi) = some (nI 0) ∧ fX9_number (nI L) tx (nI lo) (nI hi) (nI p) mark = some (-nI 1, nI p', nI (s j))) := by
  have ht' := ht
  obtain ⟨t1, t2, t3, t4, t5⟩ := ht
  have hL := h.1
  unfold fX5_isNumber
  simp only [lit_nI]
  rcases hq with ⟨q1, q2, q3, q4⟩ | ⟨q1, q2, q3⟩
  · obtain ⟨a1, a2, a3⟩ := t5 j q1
    rcases a3 with ⟨b1, b2, b3, b4⟩ | ⟨b1, b2, b3⟩
    · obtain ⟨f1, f2, f3, f4⟩ := b2
      have hle := nvc_le c (s j) (e (j + 1) - s j - 1) b1
      have hb := nv_both c (s j) (e (j + 1)) lo hi f3 f1 h2
      rw [q3, q4, b3, b4, g_number h hs ⟨f1, f2, f3, f4⟩ h1 (by omega)]
      by_cases y : lo ≤ nvc c (s j) (e (j + 1) - s j - 1) ∧ nvc c (s j) (e (j + 1) - s j - 1) ≤ hi
      · refine Or.inl ⟨nvc c (s j) (e (j + 1) - s j - 1), y.1, y.2, q1, q2, rfl, ?_, ?_, t4 (j + 1) q1⟩
        · rw [if_pos rfl, if_neg (by rw [n_lt (by omega) (by omega)]; omega), if_neg (by rw [n_lt (by omega) (by omega)]; omega)]
        · rw [if_pos (hb.1.1 y), hb.2 y]
      · refine Or.inr ⟨e (j + 1), ?_, ?_⟩
        · rw [if_pos rfl]
          by_cases y1 : nvc c (s j) (e (j + 1) - s j - 1) < lo
          · rw [if_pos (by rw [n_lt (by omega) (by omega)]; omega)]
          · rw [if_neg (by rw [n_lt (by omega) (by omega)]; omega), if_pos (by rw [n_lt (by omega) (by omega)]; omega)]
        · rw [if_neg (fun w => y (hb.1.2 w))]
    · have := (h.2 _ a1).2.2
      refine Or.inr ⟨s j, ?_, g_number_no h hs (Or.inr b1) _ _ _⟩
      rw [q3, b3, if_neg (by rw [n_eq (by omega) (by omega)]; omega)]
  · refine Or.inr ⟨s j, ?_, g_number_no h hs (Or.inl (by rw [q1]; exact t3)) _ _ _⟩
    rw [q3, if_neg (by rw [n_eq (by omega) (by omega)]; omega)]
