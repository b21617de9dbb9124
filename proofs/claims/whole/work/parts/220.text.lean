/-! the text: letters, blanks, figures, tokens -/
def TxR (L : Nat) (c : Nat → Nat) (T tx : Nat → Int32) : Prop := L ≤ 160 ∧ ∀ i, i < L → T i = nI (c i) ∧ tx i = nI (c i) ∧ c i < 256
def fig (x : Nat) : Prop := 48 ≤ x ∧ x ≤ 57
/-- q: the first place from p on that isn't blank -/
def Sk (L : Nat) (c : Nat → Nat) (p q : Nat) : Prop := p ≤ q ∧ q ≤ L ∧ (∀ i, p ≤ i → i < q → c i = 32) ∧ (q < L → c q ≠ 32)
/-- e: behind the figures that stand from q on -/
def Fg (L : Nat) (c : Nat → Nat) (q e : Nat) : Prop := q < e ∧ e ≤ L ∧ (∀ i, q ≤ i → i < e → fig (c i)) ∧ (e < L → ¬ fig (c e))
theorem TextR.tx {Ln le : Int32} {T tx : Nat → Int32} (h : TextR Ln T le tx) : ∃ (L : Nat) (c : Nat → Nat), Ln = nI L ∧ le = nI L ∧ TxR L c T tx := by
  obtain ⟨n, hn, h1, h2, h3⟩ := h
  refine ⟨n, fun i => (tx i).toInt.toNat, h1, h2, hn, fun i hi => ?_⟩
  obtain ⟨a, v, hv, b⟩ := h3 i hi
  have e : (tx i).toInt.toNat = v := by rw [b, nI_T (by omega)]; omega
  exact ⟨by rw [a, b]; dsimp only; rw [e], by dsimp only; rw [e]; exact b, by dsimp only; omega⟩
/-- the class's number of n figures more than the first; the reference's of n figures -/
def nvc (c : Nat → Nat) (q : Nat) : Nat → Nat
  | 0 => c q - 48
  | n + 1 => if nvc c q n = 0 then 100 else min 100 (10 * nvc c q n + (c (q + n + 1) - 48))
def nvr (c : Nat → Nat) (q : Nat) : Nat → Nat
  | 0 => 0
  | n + 1 => if 99 < nvr c q n then 100 else 10 * nvr c q n + (c (q + n) - 48)
theorem nvc_le (c : Nat → Nat) (q n : Nat) (h : fig (c q)) : nvc c q n ≤ 100 := by
  unfold fig at h
  cases n with
  | zero => show c q - 48 ≤ 100; omega
  | succ n =>
    unfold nvc
    split
    · omega
    · exact Nat.min_le_left _ _
theorem nv_rel (c : Nat → Nat) (q : Nat) : ∀ n, (∀ i, q ≤ i → i < q + n + 1 → fig (c i)) → (n = 0 ∨ c q ≠ 48) → nvr c q (n + 1) ≤ 999 ∧ (c q ≠ 48 → 1 ≤ nvr c q (n + 1)) ∧ ((nvr c q (n + 1) ≤ 99 ∧ nvc c q n = nvr c q (n + 1)) ∨ (99 < nvr c q (n + 1) ∧ nvc c q n = 100)) := by
  intro n
  induction n with
  | zero =>
    intro hf _
    have h0 := hf q (by omega) (by omega)
    unfold fig at h0
    have e : nvr c q (0 + 1) = c q - 48 := by
      have z : nvr c q 0 = 0 := rfl
      show (if 99 < nvr c q 0 then 100 else 10 * nvr c q 0 + (c (q + 0) - 48)) = _
      rw [if_neg (by rw [z]; omega), z, Nat.add_zero]
      omega
    rw [e]
    exact ⟨by omega, fun _ => by omega, Or.inl ⟨by omega, rfl⟩⟩
  | succ n ih =>
    intro hf h1
    have hq : c q ≠ 48 := h1.resolve_left (by omega)
    obtain ⟨a1, a2, a3⟩ := ih (fun i i1 i2 => hf i i1 (by omega)) (Or.inr hq)
    have a2 := a2 hq
    have h0 := hf (q + n + 1) (by omega) (by omega)
    unfold fig at h0
    have er : nvr c q (n + 1 + 1) = if 99 < nvr c q (n + 1) then 100 else 10 * nvr c q (n + 1) + (c (q + n + 1) - 48) := rfl
    have ec : nvc c q (n + 1) = if nvc c q n = 0 then 100 else min 100 (10 * nvc c q n + (c (q + n + 1) - 48)) := rfl
    rcases a3 with ⟨b1, b2⟩ | ⟨b1, b2⟩
    · rw [er, if_neg (by omega), ec, b2, if_neg (by omega)]
      refine ⟨by omega, fun _ => by omega, ?_⟩
      by_cases z : 10 * nvr c q (n + 1) + (c (q + n + 1) - 48) ≤ 99
      · exact Or.inl ⟨z, by omega⟩
      · exact Or.inr ⟨by omega, by omega⟩
    · rw [er, if_pos b1, ec, b2, if_neg (by omega)]
      exact ⟨by omega, fun _ => by omega, Or.inr ⟨by omega, by omega⟩⟩
theorem nvc_0 (c : Nat → Nat) (q : Nat) (h : c q = 48) : ∀ n, nvc c q (n + 1) = 100 := by
  intro n
  induction n with
  | zero => show (if c q - 48 = 0 then _ else _) = _; rw [if_pos (by omega)]
  | succ n ih =>
    show (if nvc c q (n + 1) = 0 then _ else _) = _
    rw [ih, if_neg (by omega)]
    omega
/-- what a number token is worth to both -/
theorem nv_both (c : Nat → Nat) (q e lo hi : Nat) (hf : ∀ i, q ≤ i → i < e → fig (c i)) (hqe : q < e) (hhi : hi ≤ 99) : ((lo ≤ nvc c q (e - q - 1) ∧ nvc c q (e - q - 1) ≤ hi) ↔ (nvr c q (e - q) ≤ 99 ∧ (e - q = 1 ∨ c q ≠ 48) ∧ lo ≤ nvr c q (e - q) ∧ nvr c q (e - q) ≤ hi)) ∧ ((lo ≤ nvc c q (e - q - 1) ∧ nvc c q (e - q - 1) ≤ hi) → nvc c q (e - q - 1) = nvr c q (e - q)) := by
  by_cases h1 : e - q = 1 ∨ c q ≠ 48
  · obtain ⟨a1, a2, a3⟩ := nv_rel c q (e - q - 1) (fun i i1 i2 => hf i i1 (by omega)) (by omega)
    rw [show e - q - 1 + 1 = e - q by omega] at a1 a2 a3
    rcases a3 with ⟨b1, b2⟩ | ⟨b1, b2⟩
    · rw [b2]
      exact ⟨⟨fun z => ⟨b1, h1, z.1, z.2⟩, fun z => ⟨z.2.2.1, z.2.2.2⟩⟩, fun _ => rfl⟩
    · rw [b2]
      exact ⟨⟨fun z => by omega, fun z => by omega⟩, fun z => by omega⟩
  · have h2 : c q = 48 := Classical.byContradiction (fun z => h1 (Or.inr z))
    have h3 := nvc_0 c q h2 (e - q - 2)
    rw [show e - q - 2 + 1 = e - q - 1 by omega] at h3
    rw [h3]
    exact ⟨⟨fun z => by omega, fun z => absurd z.2.1 h1⟩, fun z => by omega⟩
theorem g_skips {L : Nat} {c : Nat → Nat} {T tx : Nat → Int32} (h : TxR L c T tx) : ∀ {p : Nat} (mark : Int32), p ≤ L → ∃ q, Sk L c p q ∧ fX9_skips (nI L) tx (nI p) mark = some (nI q, nI q) := by
  have hL := h.1
  have main : ∀ (n p : Nat) (mark : Int32), p ≤ L → L - p < n → ∃ q, Sk L c p q ∧ fX9_skips_l0 (nI L) tx n (nI p) mark = some (nI q, nI q) := by
    intro n
    induction n with
    | zero => intro p mark h1 h2; omega
    | succ n ih =>
      intro p mark h1 h2
      rw [fX9_skips_l0_s]
      unfold fX9_skips_b0
      simp only [lit_nI, bnd_eq]
      by_cases e : p = L
      · exact ⟨p, ⟨Nat.le_refl _, h1, fun i i1 i2 => absurd i2 (by omega), fun z => absurd z (by omega)⟩, by rw [if_pos (by rw [n_le (by omega) (by omega)]; omega)]⟩
      · have hc := (h.2 p (by omega)).2
        rw [if_neg (by rw [n_le (by omega) (by omega)]; omega), gin_nI (by omega) (by omega), n_cl (by omega), hc.1]
        by_cases q : c p = 32
        · obtain ⟨q', s1, s2⟩ := ih (p + 1) mark (by omega) (by omega)
          refine ⟨q', ⟨by have := s1.1; omega, s1.2.1, fun i i1 i2 => ?_, s1.2.2.2⟩, ?_⟩
          · by_cases z : i = p
            · rw [z]; exact q
            · exact s1.2.2.1 i (by omega) i2
          · rw [if_pos (by rw [q]), n_add]
            exact s2
        · exact ⟨p, ⟨Nat.le_refl _, h1, fun i i1 i2 => absurd i2 (by omega), fun _ => q⟩, by rw [if_neg (by rw [n_eq (by omega) (by omega)]; exact q)]⟩
  intro p mark hp
  unfold fX9_skips
  exact main 1000 p mark hp (by omega)
theorem Sk.uniq {L : Nat} {c : Nat → Nat} {p q q' : Nat} (h : Sk L c p q) (h' : Sk L c p q') : q = q' := by
  obtain ⟨a1, a2, a3, a4⟩ := h
  obtain ⟨b1, b2, b3, b4⟩ := h'
  rcases Nat.lt_trichotomy q q' with z | z | z
  · exact absurd (b3 q a1 z) (a4 (by omega))
  · exact z
  · exact absurd (a3 q' b1 z) (b4 (by omega))
theorem Sk.self {L : Nat} {c : Nat → Nat} {p q : Nat} (h : Sk L c p q) : Sk L c q q := ⟨Nat.le_refl _, h.2.1, fun i i1 i2 => absurd i2 (by omega), h.2.2.2⟩
theorem g_skipsTo {L : Nat} {c : Nat → Nat} {T tx : Nat → Int32} (h : TxR L c T tx) {p q : Nat} (hs : Sk L c p q) (mark : Int32) : fX9_skips (nI L) tx (nI p) mark = some (nI q, nI q) := by
  obtain ⟨q', s1, s2⟩ := g_skips h (p := p) mark (Nat.le_trans hs.1 hs.2.1)
  rw [hs.uniq s1]
  exact s2
theorem g_isFigure {L : Nat} {c : Nat → Nat} {T tx : Nat → Int32} (h : TxR L c T tx) {p : Nat} (hp : p ≤ L) : (p < L ∧ fig (c p) ∧ fX9_isFigure (nI L) (nI p) tx = some (nI 1)) ∨ ((p = L ∨ ¬ fig (c p)) ∧ fX9_isFigure (nI L) (nI p) tx = some (nI 0)) := by
  have hL := h.1
  unfold fX9_isFigure fX9_within
  simp only [lit_nI]
  by_cases e : p = L
  · exact Or.inr ⟨Or.inl e, by rw [if_pos (by rw [n_le (by omega) (by omega)]; omega)]⟩
  · obtain ⟨-, hc, hc2⟩ := h.2 p (by omega)
    have z10 : ¬ nI 1 = nI 0 := by rw [n_eq (by omega) (by omega)]; omega
    rw [if_neg (by rw [n_le (by omega) (by omega)]; omega), gin_nI (by omega) (by omega), n_cl (by omega), hc]
    by_cases q1 : c p < 48
    · exact Or.inr ⟨Or.inr (fun z => by unfold fig at z; omega), by rw [if_pos (by rw [n_lt (by omega) (by omega)]; exact q1), bd_s, if_pos rfl]⟩
    · rw [if_neg (by rw [n_lt (by omega) (by omega)]; exact q1)]
      by_cases q2 : 57 < c p
      · exact Or.inr ⟨Or.inr (fun z => by unfold fig at z; omega), by rw [if_pos (by rw [n_lt (by omega) (by omega)]; exact q2), bd_s, if_pos rfl]⟩
      · exact Or.inl ⟨by omega, ⟨by omega, by omega⟩, by rw [if_neg (by rw [n_lt (by omega) (by omega)]; exact q2), bd_s, if_neg z10]⟩
/-- the tokens that the class has cut -/
def TokR (L : Nat) (c : Nat → Nat) (K : Nat) (s e : Nat → Nat) (tok sta num : Nat → Int32) : Prop :=
  K ≤ 160 ∧ e 0 = 0 ∧ s K = L ∧ (∀ j, j ≤ K → Sk L c (e j) (s j)) ∧ ∀ j, j < K → s j < L ∧ sta j = nI (s j) ∧ ((fig (c (s j)) ∧ Fg L c (s j) (e (j + 1)) ∧ tok j = nI 256 ∧ num j = nI (nvc c (s j) (e (j + 1) - s j - 1))) ∨ (¬ fig (c (s j)) ∧ e (j + 1) = s j + 1 ∧ tok j = nI (c (s j))))
