/-! one branch is read, by both -/
theorem f_fill {N : Nat} (hN : N ≤ 900) (x : Int32) (v : Nat → Int32) : ∃ F, fJ7_fill_53178 N x v = some F ∧ ∀ k, F k = if k < N then x else v k := by
  have main : ∀ (n i : Nat) (v : Nat → Int32), i ≤ N → N < i + n → ∃ F, fJ7_fill_53178_l5 N x n v (nI i) (nI N) = some F ∧ ∀ k, F k = if i ≤ k ∧ k < N then x else v k := by
    intro n
    induction n with
    | zero => intro i v i1 i2; omega
    | succ n ih =>
      intro i v i1 i2
      rw [fJ7_fill_53178_l5_s]
      unfold fJ7_fill_53178_b5
      simp only [lit_nI]
      by_cases y : i = N
      · exact ⟨v, by rw [if_pos (by rw [n_le (by omega) (by omega)]; omega)], fun k => by rw [if_neg (by omega)]⟩
      · obtain ⟨F, F1, F2⟩ := ih (i + 1) (upd v i x) (by omega) (by omega)
        refine ⟨F, by rw [if_neg (by rw [n_le (by omega) (by omega)]; omega), gin_nI (by omega) (by omega), bnd_eq, n_add, n_cl (by omega)]; exact F1, fun k => ?_⟩
        rw [F2 k]
        by_cases z : k = i
        · rw [z, if_neg (by omega), if_pos (by omega), upd_s]
        · rw [upd_n z]
          by_cases w : i ≤ k ∧ k < N
          · rw [if_pos w, if_pos (by omega)]
          · rw [if_neg w, if_neg (by omega)]
  obtain ⟨F, F1, F2⟩ := main 1000 0 v (by omega) (by omega)
  refine ⟨F, ?_, fun k => ?_⟩
  · unfold fJ7_fill_53178
    simp only [lit_nI, of_nI]
    rw [bnd_eq]
    exact F1
  · rw [F2 k]
    by_cases w : k < N
    · rw [if_pos w, if_pos (by omega)]
    · rw [if_neg w, if_neg (by omega)]
theorem tn_both {L : Nat} {c : Nat → Nat} {T tx : Nat → Int32} (h : TxR L c T tx) {K : Nat} {s e : Nat → Nat} {tok sta num : Nat → Int32} (ht : TokR L c K s e tok sta num) {j : Nat} (hj : j ≤ K) {p : Nat} (hs : Sk L c p (s j)) {lo hi : Nat} (h1 : lo < 2 ^ 31) (h2 : hi ≤ 99) (tk st nu mark : Int32) :
    (∃ v tk', lo ≤ v ∧ v ≤ hi ∧ j < K ∧ fX5_takesNumber (nI K) (nI L) tok sta num (nI lo) (nI hi) (nI j) tk st nu = some (nI 1, nI (j + 1), tk', nI (s j), nI v) ∧ fX9_number (nI L) tx (nI lo) (nI hi) (nI p) mark = some (nI v, nI (e (j + 1)), nI (s j)) ∧ Sk L c (e (j + 1)) (s (j + 1))) ∨
    (∃ j' tk' nu' p', fX5_takesNumber (nI K) (nI L) tok sta num (nI lo) (nI hi) (nI j) tk st nu = some (nI 0, nI j', tk', nI (s j), nu') ∧ fX9_number (nI L) tx (nI lo) (nI hi) (nI p) mark = some (-nI 1, nI p', nI (s j))) := by
  obtain ⟨j', tk', nu', a1, a2⟩ := f_advance ht hj tk st nu
  unfold fX5_takesNumber
  rw [a2, bd_s]
  dsimp only
  rcases num_both h ht a1 hs h1 h2 mark with ⟨v, v1, v2, v3, v4, v5, v6, v7, v8⟩ | ⟨p', q1, q2⟩
  · rw [v6, bd_s, gz_1, v4, v5]
    exact Or.inl ⟨v, tk', v1, v2, v3, rfl, v7, v8⟩
  · rw [q1, bd_s, gz_0]
    exact Or.inr ⟨j', tk', nu', p', rfl, q2⟩
theorem ts_both {L : Nat} {c : Nat → Nat} {T tx : Nat → Int32} (h : TxR L c T tx) {K : Nat} {s e : Nat → Nat} {tok sta num : Nat → Int32} (ht : TokR L c K s e tok sta num) {j : Nat} (hj : j ≤ K) {p : Nat} (hs : Sk L c p (s j)) {x : Nat} (hx : x < 256) (hx1 : ¬ fig x) (tk st nu mark : Int32) :
    (∃ tk' nu', j < K ∧ fX5_takes (nI K) (nI L) tok sta num (nI x) (nI j) tk st nu = some (nI 1, nI (j + 1), tk', nI (s j), nu') ∧ fX9_passes (nI L) tx (nI x) (nI p) mark = some (nI 1, nI (e (j + 1)), nI (s j)) ∧ Sk L c (e (j + 1)) (s (j + 1))) ∨
    (∃ j' tk' nu', Cur K tok num j j' tk' nu' ∧ tk' ≠ nI x ∧ fX5_takes (nI K) (nI L) tok sta num (nI x) (nI j) tk st nu = some (nI 0, nI j', tk', nI (s j), nu') ∧ fX9_passes (nI L) tx (nI x) (nI p) mark = some (nI 0, nI (s j), nI (s j))) := by
  obtain ⟨j', tk', nu', a1, a2⟩ := f_advance ht hj tk st nu
  have cs := cur_sign ht (fun i hi => (h.2 i hi).2.2) a1 hx hx1
  unfold fX5_takes
  rw [a2, bd_s]
  dsimp only
  simp only [lit_nI]
  rcases g_passes h hs hx mark with ⟨b1, b2, b3⟩ | ⟨b1, b2⟩
  · have jK : j < K := (tok_end ht hj).1 b1
    rw [if_pos (cs.2 ⟨b1, b2⟩), b3]
    have j1 : j' = j + 1 := by
      rcases a1 with ⟨q1, q2, q3, q4⟩ | ⟨q1, q2, q3⟩
      · exact q2
      · omega
    have e1 : e (j + 1) = s j + 1 := by
      rcases (ht.2.2.2.2 j jK).2.2 with ⟨w1, w2, w3, w4⟩ | ⟨w1, w2, w3⟩
      · rw [b2] at w1; exact absurd w1 hx1
      · exact w2
    rw [j1, e1]
    exact Or.inl ⟨tk', nu', jK, rfl, rfl, e1 ▸ ht.2.2.2.1 (j + 1) jK⟩
  · rw [if_neg (fun z => b1 (cs.1 z)), b2]
    exact Or.inr ⟨j', tk', nu', a1, fun z => b1 (cs.1 z), rfl, rfl⟩
theorem into_both {L : Nat} {c : Nat → Nat} {T tx : Nat → Int32} (h : TxR L c T tx) {K : Nat} {s e : Nat → Nat} {tok sta num : Nat → Int32} (ht : TokR L c K s e tok sta num) {j : Nat} (hj : j ≤ K) {p : Nat} (hs : Sk L c p (s j)) {w lo hi : Nat} (hw : w < 7) (h1 : lo < 2 ^ 31) (h2 : hi ≤ 99) (F : Nat → Int32) (tk st nu mark : Int32) :
    (∃ v tk', lo ≤ v ∧ v ≤ hi ∧ j < K ∧ fX6_readInto (nI K) (nI L) tok sta num (nI w) (nI lo) (nI hi) F (nI j) tk st nu = some (nI 1, upd F w (nI v), nI (j + 1), tk', nI (s j), nI v) ∧ fX9_number (nI L) tx (nI lo) (nI hi) (nI p) mark = some (nI v, nI (e (j + 1)), nI (s j)) ∧ Sk L c (e (j + 1)) (s (j + 1))) ∨
    (∃ j' tk' nu' p', fX6_readInto (nI K) (nI L) tok sta num (nI w) (nI lo) (nI hi) F (nI j) tk st nu = some (nI 0, F, nI j', tk', nI (s j), nu') ∧ fX9_number (nI L) tx (nI lo) (nI hi) (nI p) mark = some (-nI 1, nI p', nI (s j))) := by
  have z10 : ¬ nI 1 = nI 0 := by rw [n_eq (by omega) (by omega)]; omega
  unfold fX6_readInto
  simp only [lit_nI]
  rw [if_neg (nn0 (by omega)), if_neg (by rw [n_le (by omega) (by omega)]; omega)]
  rcases tn_both h ht hj hs h1 h2 tk st nu mark with ⟨v, tk', v1, v2, v3, v4, v5, v6⟩ | ⟨j', tk', nu', p', q1, q2⟩
  · rw [v4, bd_s]
    dsimp only
    rw [if_neg z10, gin_nI (by omega) (by omega), n_cl (by omega)]
    exact Or.inl ⟨v, tk', v1, v2, v3, rfl, v5, v6⟩
  · rw [q1, bd_s]
    dsimp only
    rw [if_pos rfl]
    exact Or.inr ⟨j', tk', nu', p', rfl, q2⟩
theorem m1_lt0 : (-nI 1 : Int32) < nI 0 := by decide +kernel
theorem m1_nle : ¬ (nI 0 : Int32) ≤ -nI 1 := by decide +kernel
theorem bounds_both {L : Nat} {c : Nat → Nat} {T tx : Nat → Int32} (h : TxR L c T tx) {K : Nat} {s e : Nat → Nat} {tok sta num : Nat → Int32} (ht : TokR L c K s e tok sta num) {j : Nat} (hj : j ≤ K) {p : Nat} (hs : Sk L c p (s j)) {w : Nat} (hw : w + 2 < 54) (F fr : Nat → Int32) (tk st nu mark : Int32) :
    (∃ a b v tk' nu', a ≤ v ∧ v ≤ b ∧ b ≤ 99 ∧ j + 3 ≤ K ∧ fX6_readBounds (nI K) (nI L) tok sta num F (nI j) tk st nu = some (nI 1, upd (upd (upd F 4 (nI a)) 5 (nI b)) 6 (nI v), nI (j + 3), tk', nI (s (j + 2)), nu') ∧ fX9_readsBounds (nI L) tx (nI w) (nI p) mark fr = some (nI 1, nI (e (j + 3)), nI (s (j + 2)), upd (upd (upd fr w (nI a)) (w + 1) (nI b)) (w + 2) (nI v)) ∧ Sk L c (e (j + 3)) (s (j + 3))) ∨
    (∃ F' j' tk' z nu' p' fr', z ≤ L ∧ fX6_readBounds (nI K) (nI L) tok sta num F (nI j) tk st nu = some (nI 0, F', nI j', tk', nI z, nu') ∧ fX9_readsBounds (nI L) tx (nI w) (nI p) mark fr = some (nI 0, nI p', nI z, fr')) := by
  have z10 : ¬ nI 1 = nI 0 := by rw [n_eq (by omega) (by omega)]; omega
  have le0 : ∀ {n : Nat}, n < 2 ^ 31 → nI 0 ≤ nI n := fun hn => by rw [n_le (by omega) hn]; omega
  have sL : ∀ {i : Nat}, i ≤ K → s i ≤ L := fun hi => (ht.2.2.2.1 _ hi).2.1
  unfold fX6_readBounds fX9_readsBounds fX9_readsBounds_b23 fX9_readsBounds_b38
  simp only [lit_nI]
  rcases into_both h ht hj hs (w := 4) (lo := 0) (hi := 99) (by omega) (by omega) (by omega) F tk st nu mark with ⟨a, tk1, a1, a2, a3, a4, a5, a6⟩ | ⟨j', tk', nu', p', q1, q2⟩
  · rw [a4, bd_s, a5, bd_s]
    dsimp only
    rw [if_neg z10, if_pos (le0 (by omega)), gin_nI (by omega) (by omega), n_cl (by omega), upd_s]
    rcases into_both h ht (j := j + 1) (by omega) a6 (w := 5) (lo := a) (hi := 99) (by omega) (by omega) (by omega) (upd F 4 (nI a)) tk1 (nI (s j)) (nI a) (nI (s j)) with ⟨b, tk2, b1, b2, b3, b4, b5, b6⟩ | ⟨j', tk', nu', p', q1, q2⟩
    · rw [b4, bd_s, b5, bd_s]
      dsimp only
      rw [if_neg z10, if_pos (le0 (by omega)), gin_nI (by omega) (by omega), gin_nI (by omega) (by omega), n_cl (by omega), n_cl (by omega), upd_s, upd_n (by omega), upd_s]
      rcases into_both h ht (j := j + 2) (by omega) b6 (w := 6) (lo := a) (hi := b) (by omega) (by omega) (by omega) (upd (upd F 4 (nI a)) 5 (nI b)) tk2 (nI (s (j + 1))) (nI b) (nI (s (j + 1))) with ⟨v, tk3, c1, c2, c3, c4, c5, c6⟩ | ⟨j', tk', nu', p', q1, q2⟩
      · rw [c4, bd_s, c5, bd_s]
        dsimp only
        rw [if_neg z10, if_neg (nn0 (by omega))]
        simp (disch := omega) only [gin_nI, n_add, n_cl]
        exact Or.inl ⟨a, b, v, tk3, nI v, c1, c2, b2, by omega, rfl, rfl, c6⟩
      · rw [q1, bd_s, q2, bd_s]
        dsimp only
        rw [if_pos rfl, if_pos m1_lt0, gin_nI (by omega) (by omega), n_add, n_add, gin_nI (by omega) (by omega), gin_nI (by omega) (by omega)]
        exact Or.inr ⟨_, j', tk', s (j + 2), nu', p', _, sL (by omega), rfl, rfl⟩
    · rw [q1, bd_s, q2, bd_s]
      dsimp only
      rw [if_pos rfl, if_neg m1_nle, if_pos m1_lt0, gin_nI (by omega) (by omega), n_add, n_add, gin_nI (by omega) (by omega), gin_nI (by omega) (by omega)]
      exact Or.inr ⟨_, j', tk', s (j + 1), nu', p', _, sL (by omega), rfl, rfl⟩
  · rw [q1, bd_s, q2, bd_s]
    dsimp only
    rw [if_pos rfl, if_neg m1_nle, if_neg m1_nle, if_pos m1_lt0, gin_nI (by omega) (by omega), n_add, n_add, gin_nI (by omega) (by omega), gin_nI (by omega) (by omega)]
    exact Or.inr ⟨_, j', tk', s j, nu', p', _, sL hj, rfl, rfl⟩
theorem step_both {L : Nat} {c : Nat → Nat} {T tx : Nat → Int32} (h : TxR L c T tx) {K : Nat} {s e : Nat → Nat} {tok sta num : Nat → Int32} (ht : TokR L c K s e tok sta num) {j : Nat} (hj : j ≤ K) {p : Nat} (hs : Sk L c p (s j)) {w w7 hi : Nat} (hw : w + 2 < 54) (hw7 : w7 < 7) (hh : hi ≤ 9) (F fr : Nat → Int32) (tk st nu mark : Int32) :
    (∃ v tk' nu', 1 ≤ v ∧ v ≤ hi ∧ j + 1 ≤ K ∧ fX6_readInto (nI K) (nI L) tok sta num (nI w7) (nI 1) (nI hi) F (nI j) tk st nu = some (nI 1, upd F w7 (nI v), nI (j + 1), tk', nI (s j), nu') ∧ fX9_readsStep (nI L) tx (nI w) (nI hi) (nI p) mark fr = some (nI 1, nI (e (j + 1)), nI (s j), upd (upd (upd fr w (nI v)) (w + 1) (nI 0)) (w + 2) (nI 0)) ∧ Sk L c (e (j + 1)) (s (j + 1))) ∨
    (∃ j' tk' z nu' p' fr', z ≤ L ∧ fX6_readInto (nI K) (nI L) tok sta num (nI w7) (nI 1) (nI hi) F (nI j) tk st nu = some (nI 0, F, nI j', tk', nI z, nu') ∧ fX9_readsStep (nI L) tx (nI w) (nI hi) (nI p) mark fr = some (nI 0, nI p', nI z, fr')) := by
  have sL : ∀ {i : Nat}, i ≤ K → s i ≤ L := fun hi => (ht.2.2.2.1 _ hi).2.1
  unfold fX9_readsStep
  simp only [lit_nI]
  have g1 : ∀ {α : Type} (k : Option α), gin (nI w) 54 k = k := fun k => gin_nI (by omega) (by omega)
  have g2 : ∀ {α : Type} (k : Option α), gin (nI (w + 1)) 54 k = k := fun k => gin_nI (by omega) (by omega)
  have g3 : ∀ {α : Type} (k : Option α), gin (nI (w + 2)) 54 k = k := fun k => gin_nI (by omega) (by omega)
  rcases into_both h ht hj hs (w := w7) (lo := 1) (hi := hi) hw7 (by omega) (by omega) F tk st nu mark with ⟨a, tk1, a1, a2, a3, a4, a5, a6⟩ | ⟨j', tk', nu', p', q1, q2⟩
  · rw [a4, a5, bd_s]
    dsimp only
    rw [n_add, n_add, g1, g2, g3, g1, n_cl (by omega), n_cl (by omega), n_cl (by omega), upd_n (by omega), upd_n (by omega), upd_s, if_neg (by rw [n_le (by omega) (by omega)]; omega)]
    exact Or.inl ⟨a, tk1, nI a, a1, a2, a3, rfl, rfl, a6⟩
  · rw [q1, q2, bd_s]
    dsimp only
    rw [n_add, n_add, g1, g2, g3, g1, n_cl (by omega), n_cl (by omega), n_cl (by omega), upd_n (by omega), upd_n (by omega), upd_s, if_pos (by decide +kernel)]
    exact Or.inr ⟨j', tk', s j, nu', p', _, sL hj, rfl, rfl⟩
theorem semi_both {L : Nat} {c : Nat → Nat} {T tx : Nat → Int32} (h : TxR L c T tx) {K : Nat} {s e : Nat → Nat} {tok sta num : Nat → Int32} (ht : TokR L c K s e tok sta num) {j : Nat} (hj : j ≤ K) {p : Nat} (hs : Sk L c p (s j)) {m t kd : Nat} (hkd : kd ≤ 2) (fr : Nat → Int32) (tk st nu mark : Int32) :
    (∃ tk' nu', j + 1 ≤ K ∧ fX5_takes (nI K) (nI L) tok sta num (nI 59) (nI j) tk st nu = some (nI 1, nI (j + 1), tk', nI (s j), nu') ∧ fX9_readsBranch_b125 (nI L) tx (nI p) mark (nI m) (nI t) fr (nI kd) (nI 1) = some (nI 1, nI (e (j + 1)), nI (s j), nI (m + 1), nI (t + if kd = 2 then 1 else 0), fr) ∧ Sk L c (e (j + 1)) (s (j + 1))) ∨
    (∃ j' tk' z nu' p', z ≤ L ∧ fX5_takes (nI K) (nI L) tok sta num (nI 59) (nI j) tk st nu = some (nI 0, nI j', tk', nI z, nu') ∧ fX9_readsBranch_b125 (nI L) tx (nI p) mark (nI m) (nI t) fr (nI kd) (nI 1) = some (nI 0, nI p', nI z, nI m, nI t, fr)) := by
  have z10 : ¬ nI 1 = nI 0 := by rw [n_eq (by omega) (by omega)]; omega
  have sL : ∀ {i : Nat}, i ≤ K → s i ≤ L := fun hi => (ht.2.2.2.1 _ hi).2.1
  unfold fX9_readsBranch_b125
  simp only [lit_nI]
  rw [if_neg z10]
  rcases ts_both h ht hj hs (x := 59) (by omega) (by unfold fig; omega) tk st nu mark with ⟨tk', nu', a1, a2, a3, a4⟩ | ⟨j', tk', nu', -, -, a2, a3⟩
  · rw [a2, a3, bd_s]
    dsimp only
    rw [if_neg z10, bnd_eq, bnd_eq, bnd_eq, n_add, n_add, n_add]
    by_cases y : kd = 2
    · rw [if_pos (by rw [y]), if_pos y]
      exact Or.inl ⟨tk', nu', a1, rfl, rfl, a4⟩
    · rw [if_neg (by rw [n_eq (by omega) (by omega)]; exact y), if_neg y]
      exact Or.inl ⟨tk', nu', a1, rfl, rfl, a4⟩
  · rw [a2, a3, bd_s]
    dsimp only
    rw [if_pos rfl]
    exact Or.inr ⟨j', tk', s j, nu', s j, sL hj, rfl, rfl⟩
theorem name_both {L : Nat} {c : Nat → Nat} {T tx : Nat → Int32} (h : TxR L c T tx) {K : Nat} {s e : Nat → Nat} {tok sta num : Nat → Int32} (ht : TokR L c K s e tok sta num) {m : Nat} {g q : Nat → Nat → Nat} {data fr : Nat → Int32} (hD : DR m g q data fr) {j : Nat} (hj : j ≤ K) {p : Nat} (hs : Sk L c p (s j)) (F : Nat → Int32) (tk st nu mark tb kd : Int32) :
    (∃ a b tk' nu', 1 ≤ a ∧ a ≤ 9 ∧ 1 ≤ b ∧ b ≤ 9 ∧ j + 2 ≤ K ∧ (∀ i, i < m → ¬ (g i 0 = a ∧ g i 1 = b)) ∧ fX6_readName (nI m) data (nI K) (nI L) tok sta num F (nI j) tk st nu = some (nI 1, upd F 1 (nI ((a + 1) * 4096 + (b + 1) * 256)), nI (j + 2), tk', nI (s (j + 1)), nu') ∧ bd (fX9_number (nI L) tx (nI 1) (nI 9) (nI p) mark) (fun r19 => fX9_readsBranch_b22 (nI L) tx r19.2.1 r19.2.2 (nI m) tb fr kd r19.1) = fX9_readsBranch_b38 (nI L) tx (nI (e (j + 2))) (nI (s (j + 1))) (nI m) tb fr kd (nI a) (nI b) ∧ fX9_isFresh (nI m) fr (nI a) (nI b) = some (nI 1) ∧ Sk L c (e (j + 2)) (s (j + 2))) ∨
    (∃ F' j' tk' z nu' p', z ≤ L ∧ fX6_readName (nI m) data (nI K) (nI L) tok sta num F (nI j) tk st nu = some (nI 0, F', nI j', tk', nI z, nu') ∧ bd (fX9_number (nI L) tx (nI 1) (nI 9) (nI p) mark) (fun r19 => fX9_readsBranch_b22 (nI L) tx r19.2.1 r19.2.2 (nI m) tb fr kd r19.1) = some (nI 0, nI p', nI z, nI m, tb, fr)) := by
  have z10 : ¬ nI 1 = nI 0 := by rw [n_eq (by omega) (by omega)]; omega
  have sL : ∀ {i : Nat}, i ≤ K → s i ≤ L := fun hi => (ht.2.2.2.1 _ hi).2.1
  have le0 : ∀ {n : Nat}, n < 2 ^ 31 → nI 0 ≤ nI n := fun hn => by rw [n_le (by omega) hn]; omega
  have e0 : -nI 1 + nI 1 = nI 0 := by decide +kernel
  have n99 : ∀ i : Nat, i < 100 → ¬ nI i = -nI 9 := fun i hi => by rw [n_eqm (by omega) (by omega) (by omega)]; exact not_false
  unfold fX6_readName
  simp only [lit_nI]
  rcases tn_both h ht hj hs (lo := 1) (hi := 9) (by omega) (by omega) tk st nu mark with ⟨a, tk1, a1, a2, a3, a4, a5, a6⟩ | ⟨j', tk', nu', p', q1, q2⟩
  · rw [a4, bd_s, a5, bd_s]
    unfold fX9_readsBranch_b22
    dsimp only
    simp only [lit_nI]
    rw [if_neg z10, if_pos (le0 (by omega))]
    rcases tn_both h ht (j := j + 1) (by omega) a6 (lo := 1) (hi := 9) (by omega) (by omega) tk1 (nI (s j)) (nI a) (nI (s j)) with ⟨b, tk2, b1, b2, b3, b4, b5, b6⟩ | ⟨j', tk', nu', p', q1, q2⟩
    · rw [b4, bd_s, b5, bd_s]
      dsimp only
      rw [if_neg z10, f_nameOf (A := a + 1) (B := b + 1) (by rw [n_add]) (by rw [n_add]) e0 e0 (by omega) (by omega) (by omega) (by omega), bd_s, gin_nI (by omega) (by omega), gin_nI (by omega) (by omega), n_cl (by omega), upd_s]
      have cd : nI (nm (a + 1) (b + 1) 0 0) = nI ((a + 1) * 4096 + (b + 1) * 256) := congrArg nI (by unfold nm; omega)
      have qb : ∀ i, i < m → q i 0 ≤ 9 ∧ q i 1 ≤ 9 := by
        intro i hi
        obtain ⟨r, r1, r2⟩ := hD.2.2.2.2.2.2.1 i hi
        have := (hD.2.2.1 r r1).1
        rw [r2 0 (by omega), r2 1 (by omega)]
        omega
      have fz := g_isFresh hD.1 hD.2.2.2.2.1 qb (a := a) (b := b) (by omega) (by omega)
      rcases f_branchOf hD.tree0 (A := a + 1) (A2 := b + 1) (C := 0) (E := 0) (by omega) (by omega) (by omega) (by omega) with ⟨i, i1, i2, i3, i4⟩ | ⟨i1, i2⟩
      · have hi8 := hD.1
        rw [i4, bd_s, if_neg (n99 i (by omega))]
        rcases fz with ⟨y1, y2⟩ | ⟨y1, y2⟩
        · obtain ⟨k, k1, k2⟩ := hD.2.2.2.2.2.2.2 i i1
          exact absurd ⟨by rw [k2 0 (by omega)]; omega, by rw [k2 1 (by omega)]; omega⟩ (y1 k k1)
        · unfold fX9_readsBranch_b38
          simp only [lit_nI]
          rw [if_neg (nn0 (by omega)), y2, bd_s, if_pos rfl]
          exact Or.inr ⟨_, j + 2, tk2, s (j + 1), _, _, sL (by omega), rfl, rfl⟩
      · rw [i2, bd_s, if_pos rfl, cd]
        rcases fz with ⟨y1, y2⟩ | ⟨⟨k, k1, k2, k3⟩, y2⟩
        · exact Or.inl ⟨a, b, tk2, _, a1, a2, b1, b2, b3, fun i hi z => i1 i hi ⟨by omega, by omega⟩, rfl, rfl, y2, b6⟩
        · obtain ⟨r, r1, r2⟩ := hD.2.2.2.2.2.2.1 k k1
          have u0 := r2 0 (by omega)
          have u1 := r2 1 (by omega)
          exact absurd ⟨by omega, by omega⟩ (i1 r r1)
    · rw [q1, bd_s, q2, bd_s]
      dsimp only
      unfold fX9_readsBranch_b38
      simp only [lit_nI]
      rw [if_true, if_pos m1_lt0]
      exact Or.inr ⟨_, j', tk', s (j + 1), _, _, sL (by omega), rfl, rfl⟩
  · rw [q1, bd_s, q2, bd_s]
    unfold fX9_readsBranch_b22 fX9_readsBranch_b38
    dsimp only
    simp only [lit_nI]
    rw [if_true, if_neg m1_nle, if_pos m1_lt0]
    exact Or.inr ⟨_, j', tk', s j, _, _, sL hj, rfl, rfl⟩
