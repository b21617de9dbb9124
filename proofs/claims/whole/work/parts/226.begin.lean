/-! all branches by both; what stands at the beginning -/
theorem rf_both {L : Nat} {c : Nat → Nat} {T tx : Nat → Int32} (h : TxR L c T tx) {K : Nat} {s e : Nat → Nat} {tok sta num : Nat → Int32} (ht : TokR L c K s e tok sta num) : ∀ (n n2 m : Nat) (g q : Nat → Nat → Nat) (data fr F : Nat → Int32) (j : Nat) (tk st nu : Int32), DR m g q data fr → j ≤ K → 8 < m + n → 8 < m + n2 →
    (∃ m' g' q' data' F' a t' st' nu' at' mk fr' nt, DR m' g' q' data' fr' ∧ fX6_readFrom_l11 (nI L) T n (nI m) data F (nI K) (nI j) tk st nu tok sta num (nI m) = some (-nI 1, nI m', data', F', nI K, a, t', st', nu', tok, sta, num) ∧ fX9_readsBranches_l19 (nI L) tx n2 (nI (s j)) (nI (s j)) (nI m) (nI (tc g m)) fr = some (nI 1, at', mk, nI m', nt, fr')) ∨
    (∃ z sz data' F' a t' st' nu' at' m2 t2 fr', z ≤ L ∧ fX6_readFrom_l11 (nI L) T n (nI m) data F (nI K) (nI j) tk st nu tok sta num (nI m) = some (nI z, sz, data', F', nI K, a, t', st', nu', tok, sta, num) ∧ fX9_readsBranches_l19 (nI L) tx n2 (nI (s j)) (nI (s j)) (nI m) (nI (tc g m)) fr = some (nI 0, at', nI z, m2, t2, fr')) := by
  have hL := h.1
  have z10 : ¬ nI 1 = nI 0 := by rw [n_eq (by omega) (by omega)]; omega
  have sL : ∀ {i : Nat}, i ≤ K → s i ≤ L := fun hi => (ht.2.2.2.1 _ hi).2.1
  intro n
  induction n with
  | zero =>
    intro n2 m g q data fr F j tk st nu hD hj h1 h2
    have := hD.1
    omega
  | succ n ih =>
    intro n2 m g q data fr F j tk st nu hD hj h1 h2
    have hm := hD.1
    obtain ⟨n2', rfl⟩ : ∃ k, n2 = k + 1 := ⟨n2 - 1, by omega⟩
    obtain ⟨j', tk', nu', a1, a2⟩ := f_advance ht hj tk st nu
    have ce := cur_end ht (fun i hi => (h.2 i hi).2.2) a1
    have sk : Sk L c (s j) (s j) := (ht.2.2.2.1 j hj).self
    have hsj := sL hj
    have te := tok_end ht hj
    rw [fX6_readFrom_l11_s, fX9_readsBranches_l19_s]
    unfold fX6_readFrom_b11 fX9_readsBranches_b19 fX5_takes
    rw [a2, bd_s]
    dsimp only
    simp only [lit_nI]
    by_cases y : j = K
    · have hl : nI L ≤ nI (s j) := by rw [n_le (by omega) (by omega)]; omega
      rw [if_pos (ce.2 y), if_pos hl, bd_s]
      dsimp only
      rw [if_neg z10]
      by_cases y8 : 8 ≤ m
      · rw [if_pos (by rw [n_le (by omega) (by omega)]; exact y8)]
        exact Or.inl ⟨m, g, q, data, F, nI j', tk', nI (s j), nu', _, _, fr, _, hD, rfl, rfl⟩
      · rw [if_neg (by rw [n_le (by omega) (by omega)]; exact y8)]
        exact Or.inl ⟨m, g, q, data, F, nI j', tk', nI (s j), nu', _, _, fr, _, hD, rfl, rfl⟩
    · have hl : ¬ nI L ≤ nI (s j) := by rw [n_le (by omega) (by omega)]; omega
      rw [if_neg (fun z => y (ce.1 z)), if_neg hl, bd_s]
      dsimp only
      rw [if_pos rfl]
      by_cases y8 : 8 ≤ m
      · rw [if_pos (by rw [n_le (by omega) (by omega)]; exact y8)]
        have m8 : m = 8 := by omega
        subst m8
        unfold fX9_readsBranch fX9_kindPassed fX9_readsBranch_b22 fX9_readsBranch_b38
        simp only [lit_nI]
        rw [if_true, bd_s]
        dsimp only
        rw [if_pos rfl, if_neg m1_nle, if_pos m1_lt0, bd_s]
        dsimp only
        rw [if_pos rfl]
        exact Or.inr ⟨s j, _, data, F, nI j', tk', nI (s j), nu', _, _, _, _, hsj, rfl, rfl⟩
      · rw [if_neg (by rw [n_le (by omega) (by omega)]; exact y8), bd_s]
        dsimp only
        rw [if_pos rfl]
        rcases rb_both h ht hD (by omega) (by omega) a1 sk F (nI (s j)) with ⟨x, F', j2, tk2, z2, nu2, p2, mk2, fr2, b1, b2, b3, b4, b5, b6, b7, b8, b9⟩ | ⟨F', a2', tk2, z, nu2, p2, m2, t2, fr2, z1, z2, z3⟩
        · rw [b8, bd_s, b9, bd_s]
          dsimp only
          rw [if_neg z10, if_neg z10, g_skipsTo h b5, bd_s]
          dsimp only
          obtain ⟨g', q', data', d1, d2, d3⟩ := f_insertFresh hD (by omega) b1 b2 b3 b6 b7
          rw [d1, bd_s, bnd_eq, n_add, ← d3]
          dsimp only
          exact ih n2' (m + 1) g' q' data' fr2 F' j2 tk2 z2 nu2 d2 b4 (by omega) (by omega)
        · rw [z2, bd_s, z3, bd_s]
          dsimp only
          rw [if_pos rfl, if_pos rfl]
          exact Or.inr ⟨z, _, _, _, _, _, _, _, _, _, _, _, z1, rfl, rfl⟩
theorem RowOk.congr {x : Nat → Nat} {d d' : Nat → Int32} (h : RowOk x d) (hd : ∀ f, f < 7 → d' f = d f) : RowOk x d' := by
  unfold RowOk
  rw [hd 0 (by omega), hd 1 (by omega), hd 2 (by omega), hd 3 (by omega), hd 4 (by omega), hd 5 (by omega), hd 6 (by omega)]
  exact h
theorem DR.congr {m : Nat} {g q : Nat → Nat → Nat} {data data' fr : Nat → Int32} (h : DR m g q data fr) (hd : ∀ p, p < 56 → data' p = data p) : DR m g q data' fr := by
  obtain ⟨h1, h2, h3, h4, h5⟩ := h
  exact ⟨h1, h2, fun i hi => (h3 i hi).congr (fun f hf => hd _ (by omega)), h4, h5⟩
/-- the reference's finding of the k-th name -/
theorem g_freshAt {m : Nat} {g q : Nat → Nat → Nat} {data fr : Nat → Int32} (h : DR m g q data fr) {k : Nat} (hk : k < m) : ∃ i, i < m ∧ fX9_freshAt (nI m) fr (nI k) = some (nI i) ∧ ∀ f, f < 6 → q i f = g k f := by
  obtain ⟨h1, h2, h3, h4, h5, h6, h7, h8⟩ := h
  have qb : ∀ i, i < m → q i 0 ≤ 9 ∧ q i 1 ≤ 9 := by
    intro i hi
    obtain ⟨r, r1, r2⟩ := h7 i hi
    have := (h3 r r1).1
    rw [r2 0 (by omega), r2 1 (by omega)]
    omega
  have rank : ∀ i, i < m → ∃ r, r < m ∧ (∀ f, f < 6 → q i f = g r f) ∧ cn q (key (q i)) m = r := by
    intro i hi
    obtain ⟨r, r1, r2⟩ := h7 i hi
    refine ⟨r, r1, r2, ?_⟩
    have kq : key (q i) = key (g r) := by
      unfold key
      rw [r2 0 (by omega), r2 1 (by omega)]
    rw [kq, h6, cn_sorted h4 r1 m (Nat.le_refl _)]
    omega
  have cnle : ∀ x n, cn q x n ≤ n := by
    intro x n
    induction n with
    | zero => exact Nat.le_refl _
    | succ n ih =>
      rw [cn_s]
      split <;> omega
  have inner : ∀ (k5 : Int32 → Int32 → Option Int32) (x2 : Int32) (i : Nat), i < m → ∀ (n j : Nat), j ≤ m → m < j + n → fX9_freshAt_l19 (nI m) fr (nI k) k5 n x2 (nI i) (nI (cn q (key (q i)) j)) (nI j) = if cn q (key (q i)) m = k then k5 (nI i) (nI (i + 1)) else k5 x2 (nI (i + 1)) := by
    intro k5 x2 i hi n
    induction n with
    | zero => intro j j1 j2; omega
    | succ n ih =>
      intro j j1 j2
      have cl := cnle (key (q i)) j
      have clm := cnle (key (q i)) m
      rw [fX9_freshAt_l19_s]
      unfold fX9_freshAt_b19
      simp only [lit_nI]
      by_cases y : j = m
      · rw [if_pos (by rw [n_le (by omega) (by omega)]; omega), bnd_eq, bnd_eq, n_add, y]
        by_cases w : cn q (key (q i)) m = k
        · rw [if_pos (by rw [w]), if_pos w]
        · rw [if_neg (by rw [n_eq (by omega) (by omega)]; exact w), if_neg w]
      · have i0 := h5 i hi 0 (by omega)
        have i1 := h5 i hi 1 (by omega)
        have j0 := h5 j (by omega) 0 (by omega)
        have j1' := h5 j (by omega) 1 (by omega)
        rw [Nat.add_zero] at i0 j0
        have bi := qb i hi
        have bj := qb j (by omega)
        have hi1 := ih (j + 1) (by omega) (by omega)
        rw [if_neg (by rw [n_le (by omega) (by omega)]; omega), n_mul, n_mul, n_add, n_add, gin_nI (by omega) (by omega), gin_nI (by omega) (by omega), gin_nI (by omega) (by omega), gin_nI (by omega) (by omega), n_cl (by omega), n_cl (by omega), n_cl (by omega), n_cl (by omega), i0, i1, j0, j1', n_mul, n_mul, n_add, n_add, bnd_eq, bnd_eq, bnd_eq, bnd_eq, n_add, n_add, n_add, Nat.add_zero]
        rw [cn_s] at hi1
        unfold key at hi1 ⊢
        by_cases w : 10 * q j 0 + q j 1 < 10 * q i 0 + q i 1
        · rw [if_neg (by rw [n_le (by omega) (by omega)]; omega)]
          rw [if_pos w] at hi1
          exact hi1
        · rw [if_pos (by rw [n_le (by omega) (by omega)]; omega)]
          rw [if_neg w] at hi1
          exact hi1
  have outer : ∀ (n i : Nat) (x2 : Int32), i ≤ m → m < i + n → ((∃ i0, i0 < i ∧ cn q (key (q i0)) m = k ∧ x2 = nI i0) ∨ (∀ i0, i0 < i → cn q (key (q i0)) m ≠ k)) → ∃ i0, i0 < m ∧ cn q (key (q i0)) m = k ∧ fX9_freshAt_l5 (nI m) fr (nI k) n x2 (nI i) = some (nI i0) := by
    intro n
    induction n with
    | zero => intro i x2 i1 i2; omega
    | succ n ih =>
      intro i x2 i1 i2 i3
      rw [fX9_freshAt_l5_s]
      unfold fX9_freshAt_b5
      simp only [lit_nI]
      by_cases y : i = m
      · rw [if_pos (by rw [n_le (by omega) (by omega)]; omega)]
        rcases i3 with ⟨i0, u1, u2, u3⟩ | u
        · exact ⟨i0, by omega, u2, by rw [u3]⟩
        · obtain ⟨i0, u1, u2⟩ := h8 k hk
          have kq : key (q i0) = key (g k) := by
            unfold key
            rw [u2 0 (by omega), u2 1 (by omega)]
          have := u i0 (by omega)
          rw [kq, h6, cn_sorted h4 hk m (Nat.le_refl _)] at this
          omega
      · rw [if_neg (by rw [n_le (by omega) (by omega)]; omega)]
        have e := inner (fX9_freshAt_l5 (nI m) fr (nI k) n) x2 i (by omega) 1000 0 (by omega) (by omega)
        rw [show cn q (key (q i)) 0 = 0 from rfl] at e
        rw [e]
        by_cases w : cn q (key (q i)) m = k
        · rw [if_pos w]
          exact ih (i + 1) (nI i) (by omega) (by omega) (Or.inl ⟨i, by omega, w, rfl⟩)
        · rw [if_neg w]
          refine ih (i + 1) x2 (by omega) (by omega) ?_
          rcases i3 with ⟨i0, u1, u2, u3⟩ | u
          · exact Or.inl ⟨i0, by omega, u2, u3⟩
          · exact Or.inr (fun i0 v => by
              by_cases z : i0 = i
              · rw [z]; exact w
              · exact u i0 (by omega))
  obtain ⟨i0, u1, u2, u3⟩ := outer 1000 0 (-nI 9) (by omega) (by omega) (Or.inr (fun i0 v => absurd v (by omega)))
  obtain ⟨r, r1, r2, r3⟩ := rank i0 u1
  refine ⟨i0, u1, ?_, ?_⟩
  · unfold fX9_freshAt
    simp only [lit_nI]
    exact u3
  · have : r = k := by omega
    rw [← this]
    exact r2
theorem f_emptyRow (D : Nat → Int32) {t r : Nat} (ht : t < 2) (h1 : 1 ≤ r) (h9 : r ≤ 9) : fX4_emptyRow (nI t) (nI r) D = some (upd (upd (upd (upd D (12 + 4 * (9 * t + r - 1) + 0) (nI 0)) (12 + 4 * (9 * t + r - 1) + 1) (nI 0)) (12 + 4 * (9 * t + r - 1) + 2) (nI 0)) (12 + 4 * (9 * t + r - 1) + 3) (nI 0)) := by
  have st : ∀ (n c : Nat) (D : Nat → Int32), c ≤ 3 → fX4_emptyRow_l9 (nI t) (nI r) (n + 1) D (nI c) = fX4_emptyRow_l9 (nI t) (nI r) n (upd D (12 + 4 * (9 * t + r - 1) + c) (nI 0)) (nI (c + 1)) := by
    intro n c D hc
    rw [fX4_emptyRow_l9_s]
    unfold fX4_emptyRow_b9
    simp only [lit_nI]
    rw [if_neg (by rw [n_lt (by omega) (by omega)]; omega), f_cellPlace ht hc h1 h9, bd_s, f_write _ _ (by omega), bd_s, bnd_eq, n_add]
  have fin : ∀ (n : Nat) (D : Nat → Int32), fX4_emptyRow_l9 (nI t) (nI r) (n + 1) D (nI 4) = some D := by
    intro n D
    rw [fX4_emptyRow_l9_s]
    unfold fX4_emptyRow_b9
    simp only [lit_nI]
    rw [if_pos (by rw [n_lt (by omega) (by omega)]; omega)]
  unfold fX4_emptyRow fX4_setStatus
  simp only [lit_nI]
  rw [f_cellPlace ht (by omega) h1 h9, bd_s, f_write _ _ (by omega), bd_s, bd_s]
  show fX4_emptyRow_l9 (nI t) (nI r) (996 + 1 + 1 + 1 + 1) _ _ = _
  rw [st _ 1 _ (by omega), st _ 2 _ (by omega), st _ 3 _ (by omega), fin]
theorem f_begin {B : Nat} (hB : B ≤ 8) (td nd : Nat → Int32) : ∃ D, fX4_begin (nI B) td nd = some D ∧ ∀ p, p < 124 → D p = if 4 ≤ p ∧ p < 4 + B then td (7 * (p - 4) + 6) else nI 0 := by
  have vals : ∀ (n i : Nat) (D : Nat → Int32), i ≤ B → B < i + n → ∃ D', fX4_begin_l10 (nI B) td n D (nI i) = some D' ∧ ∀ p, D' p = if 4 + i ≤ p ∧ p < 4 + B then td (7 * (p - 4) + 6) else D p := by
    intro n
    induction n with
    | zero => intro i D i1 i2; omega
    | succ n ih =>
      intro i D i1 i2
      rw [fX4_begin_l10_s]
      unfold fX4_begin_b10 fX4_setValue
      simp only [lit_nI]
      by_cases y : i = B
      · exact ⟨D, by rw [if_pos (by rw [n_le (by omega) (by omega)]; omega)], fun p => by rw [if_neg (by omega)]⟩
      · rw [if_neg (by rw [n_le (by omega) (by omega)]; omega), f_field td (by omega) (by omega), bd_s, n_add, f_write _ _ (by omega), bd_s, bd_s, bnd_eq, n_add]
        obtain ⟨D', d1, d2⟩ := ih (i + 1) (upd D (4 + i) (td (7 * i + 6))) (by omega) (by omega)
        refine ⟨D', d1, fun p => ?_⟩
        rw [d2 p]
        by_cases w : 4 + (i + 1) ≤ p ∧ p < 4 + B
        · rw [if_pos w, if_pos (by omega)]
        · rw [if_neg w]
          by_cases v : p = 4 + i
          · rw [v, upd_s, if_pos (by omega), show 4 + i - 4 = i by omega]
          · rw [upd_n v, if_neg (by omega)]
  obtain ⟨F, f1, f2⟩ := f_fill (N := 124) (by omega) (nI 0) nd
  obtain ⟨D1, d1, d2⟩ := vals 1000 0 F (by omega) (by omega)
  refine ⟨D1, ?_, fun p hp => ?_⟩
  · unfold fX4_begin
    simp only [lit_nI]
    rw [f1, bd_s, d1]
  · rw [d2 p, f2 p, if_pos hp]
/-- the two states at the beginning -/
theorem NowR_begin {T B : Nat} (hB : B ≤ 8) {D M : Nat → Int32} {v : Nat → Nat} (hD : ∀ p, p < 124 → D p = if 4 ≤ p ∧ p < 4 + B then nI (v (p - 4)) else nI 0) (hM : ∀ p, p < 124 → M p = if p < B then nI (v p) else nI 0) : NowR T D M := by
  have d0 : ∀ p, p < 124 → (p < 4 ∨ 12 ≤ p) → D p = nI 0 := fun p h1 h2 => by rw [hD p h1, if_neg (by omega)]
  have m0 : ∀ p, p < 124 → B ≤ p → M p = nI 0 := fun p h1 h2 => by rw [hM p h1, if_neg (by omega)]
  refine NowR_of (w := 0) ⟨⟨0, by omega, m0 121 (by omega) (by omega)⟩, ?_, ?_, ?_, fun i hi => ?_⟩ (fun k hk => ⟨?_, ⟨0, by omega, m0 _ (by omega) (by omega)⟩, fun _ => m0 _ (by omega) (by omega), fun c c1 c2 => Or.inl ⟨m0 _ (by omega) (by omega), ?_⟩⟩) ⟨by omega, d0 3 (by omega) (by omega), m0 80 (by omega) (by omega), fun j hj => absurd hj (by omega), fun i hi => absurd hi (by omega)⟩
  · rw [d0 0 (by omega) (by omega), m0 121 (by omega) (by omega)]
  · rw [d0 1 (by omega) (by omega), m0 122 (by omega) (by omega)]
  · rw [d0 2 (by omega) (by omega), m0 123 (by omega) (by omega)]
  · rw [hD _ (by omega), hM i (by omega), show 4 + i - 4 = i by omega]
    by_cases y : i < B
    · rw [if_pos (by omega), if_pos y]
    · rw [if_neg (by omega), if_neg y]
  · rw [d0 _ (by omega) (by omega), m0 _ (by omega) (by omega)]
  · exact d0 _ (by omega) (by omega)
