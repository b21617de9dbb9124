/-! all orders, by both -/
def ItR (I : Nat) (names values item : Nat → Int32) : Prop := ∀ i, i < I → ∃ (dd : Nat → Nat) (v : Nat), 1 ≤ dd 0 ∧ (∀ k, dd k ≤ 10) ∧ v ≤ 99 ∧ names i = nI (nmf dd) ∧ values i = nI v ∧ (∀ k, k < 4 → item (5 * i + k) = sh (dd k)) ∧ item (5 * i + 4) = nI v
theorem g_orders_0 (L : Int32) (tx : Nat → Int32) (n : Nat) (a m I : Int32) (item : Nat → Int32) : fX9_readsOrders_l31 L tx (n + 1) a m I item (nI 0) = some (nI 0, a, m, I, item) := by
  rw [fX9_readsOrders_l31_s]
  unfold fX9_readsOrders_b31
  simp only [lit_nI]
  rw [if_true, gz_0]
theorem of_both {L : Nat} {c : Nat → Nat} {T tx : Nat → Int32} (h : TxR L c T tx) {K : Nat} {s e : Nat → Nat} {tok sta num : Nat → Int32} (ht : TokR L c K s e tok sta num) : ∀ (n n2 I : Nat) (names values item : Nat → Int32) (j : Nat) (tk st nu : Int32), I ≤ 8 → ItR I names values item → j ≤ K → (0 < I ∨ j < K) → 8 < I + n → 9 < I + n2 →
    (∃ I' names' values' item' a t' st' nu' at' mk, 1 ≤ I' ∧ I' ≤ 8 ∧ ItR I' names' values' item' ∧ fX1_readFrom_l11 (nI L) T n (nI I) names values (nI K) (nI j) tk st nu tok sta num (nI I) = some (-nI 1, nI I', names', values', nI K, a, t', st', nu', tok, sta, num) ∧ fX9_readsOrders_l31 (nI L) tx n2 (nI (s j)) (nI (s j)) (nI I) item (nI 1) = some (nI 1, at', mk, nI I', item')) ∨
    (∃ z sz ns vs a t' st' nu' at' I2 item2, z ≤ L ∧ fX1_readFrom_l11 (nI L) T n (nI I) names values (nI K) (nI j) tk st nu tok sta num (nI I) = some (nI z, sz, ns, vs, nI K, a, t', st', nu', tok, sta, num) ∧ fX9_readsOrders_l31 (nI L) tx n2 (nI (s j)) (nI (s j)) (nI I) item (nI 1) = some (nI 0, at', nI z, I2, item2)) := by
  have hL := h.1
  have z10 : ¬ nI 1 = nI 0 := by rw [n_eq (by omega) (by omega)]; omega
  have sL : ∀ {i : Nat}, i ≤ K → s i ≤ L := fun hi => (ht.2.2.2.1 _ hi).2.1
  intro n
  induction n with
  | zero => intro n2 I names values item j tk st nu hI hit hj hz h1 h2; omega
  | succ n ih =>
    intro n2 I names values item j tk st nu hI hit hj hz h1 h2
    obtain ⟨n3, rfl⟩ : ∃ k, n2 = k + 1 + 1 := ⟨n2 - 2, by omega⟩
    obtain ⟨j', tk', nu', a1, a2⟩ := f_advance ht hj tk st nu
    have ce := cur_end ht (fun i hi => (h.2 i hi).2.2) a1
    have sk : Sk L c (s j) (s j) := (ht.2.2.2.1 j hj).self
    have hsj := sL hj
    have te := tok_end ht hj
    rw [fX1_readFrom_l11_s, fX9_readsOrders_l31_s]
    unfold fX1_readFrom_b11 fX9_readsOrders_b31 fX5_takes
    rw [a2, bd_s]
    dsimp only
    simp only [lit_nI]
    rw [if_neg z10]
    by_cases y : j = K
    · have hl : nI L ≤ nI (s j) := by rw [n_le (by omega) (by omega)]; omega
      rw [if_pos (ce.2 y), if_pos hl, gz_1, bd_s]
      dsimp only
      rw [if_neg z10]
      by_cases y8 : 8 ≤ I
      · rw [if_pos (by rw [n_le (by omega) (by omega)]; exact y8)]
        exact Or.inl ⟨I, names, values, item, nI j', tk', nI (s j), nu', _, _, by omega, hI, hit, rfl, rfl⟩
      · rw [if_neg (by rw [n_le (by omega) (by omega)]; exact y8), bd_s]
        dsimp only
        rw [if_neg z10, if_neg (by rw [n_le (by omega) (by omega)]; omega)]
        exact Or.inl ⟨I, names, values, item, nI j', tk', nI (s j), nu', _, _, by omega, hI, hit, rfl, rfl⟩
    · have hl : ¬ nI L ≤ nI (s j) := by rw [n_le (by omega) (by omega)]; omega
      rw [if_neg (fun z => y (ce.1 z)), if_neg hl, bd_s]
      dsimp only
      rw [if_pos rfl]
      unfold fX9_readsOrder fX9_readsOrder_b23
      simp only [lit_nI]
      rw [bnd_eq, n_mul]
      by_cases y8 : 8 ≤ I
      · have y8' : nI 8 ≤ nI I := by rw [n_le (by omega) (by omega)]; exact y8
        rw [if_pos y8', if_pos y8', if_true, bd_s]
        dsimp only
        rw [if_pos rfl, g_orders_0]
        exact Or.inr ⟨s j, _, _, _, _, _, _, _, _, _, _, hsj, rfl, rfl⟩
      · have y8' : ¬ nI 8 ≤ nI I := by rw [n_le (by omega) (by omega)]; exact y8
        rw [if_neg y8', if_neg y8', if_neg z10, bd_s]
        dsimp only
        rw [if_pos rfl]
        unfold fX1_readOrder
        simp only [lit_nI]
        have e0 : nI (nmf (fun _ => 0)) = nI 0 := rfl
        have key := ro_both h ht (I := I) (by omega) item names values 1000 1000 0 j j' (s j) (fun _ => 0) tk' nu' (nI (s j)) item (by omega) (by omega) (by omega) (fun _ _ => rfl) (fun _ => by omega) (fun z => absurd z (by omega)) (fun k hk => absurd hk (by omega)) (fun _ _ => rfl) hj a1 sk
        rw [e0] at key
        rcases key with ⟨dd, v, j2, tk2, z2, nu2, p2, mk2, item2, b1, b2, b3, b4, b5, b6, b7, b8, b9, b10⟩ | ⟨sz, ns, vs, a, tk2, z, nu2, p2, I2, item2, z1, z2, z3⟩
        · rw [b9, bd_s, b10, bd_s]
          dsimp only
          rw [if_neg z10, if_neg z10, bnd_eq, n_add, g_skipsTo h b5, bd_s]
          dsimp only
          refine ih (n3 + 1) (I + 1) _ _ item2 j2 tk2 z2 nu2 (by omega) (fun i hi => ?_) b4 (Or.inl (by omega)) (by omega) (by omega)
          by_cases z : i = I
          · subst z
            exact ⟨dd, v, b1, b2, b3, upd_s _ _ _, upd_s _ _ _, b6, b7⟩
          · obtain ⟨dd', v', c1, c2, c3, c4, c5, c6, c7⟩ := hit i (by omega)
            refine ⟨dd', v', c1, c2, c3, by rw [upd_n z]; exact c4, by rw [upd_n z]; exact c5, fun k hk => ?_, ?_⟩
            · rw [b8 _ (by omega)]; exact c6 k hk
            · rw [b8 _ (by omega)]; exact c7
        · rw [z2, bd_s, z3, bd_s]
          dsimp only
          rw [if_pos rfl, if_pos rfl, g_orders_0]
          exact Or.inr ⟨z, _, _, _, _, _, _, _, _, _, _, z1, rfl, rfl⟩
/-! what the order's words do -/
theorem g_branchOf {B : Nat} {g : Nat → Nat → Nat} {ts bm : Int32} {td br : Nat → Int32} (h : TreeR B g ts td bm br) {A A2 : Nat} (hA : A ≤ 10) (hA2 : A2 ≤ 10) : (∀ i, i < B → g i 0 + 1 = A → g i 1 + 1 = A2 → fX9_branchOf bm br (sh A) (sh A2) = some (nI i)) ∧ ((∀ i, i < B → ¬ (g i 0 + 1 = A ∧ g i 1 + 1 = A2)) → fX9_branchOf bm br (sh A) (sh A2) = some (-nI 9)) := by
  have hh := h
  obtain ⟨h1, h2, rfl, h4, h5, h6, h7, h8⟩ := h
  have she : ∀ (x : Nat) {d : Nat}, d ≤ 10 → x ≤ 9 → (nI x = sh d ↔ x + 1 = d) := by
    intro x d hd hx
    rw [eq_T, nI_T (by omega), sh_T (by omega)]
    omega
  have main : ∀ (n i : Nat) (x : Int32), i ≤ B → B < i + n → (∀ k, k < B → g k 0 + 1 = A → g k 1 + 1 = A2 → (k < i → x = nI k) → fX9_branchOf_l6 (nI B) br (sh A) (sh A2) n x (nI i) = some (nI k)) ∧ ((∀ k, k < B → ¬ (g k 0 + 1 = A ∧ g k 1 + 1 = A2)) → fX9_branchOf_l6 (nI B) br (sh A) (sh A2) n x (nI i) = some x) := by
    intro n
    induction n with
    | zero => intro i x i1 i2; omega
    | succ n ih =>
      intro i x i1 i2
      rw [fX9_branchOf_l6_s]
      unfold fX9_branchOf_b6
      simp only [lit_nI]
      by_cases y : i = B
      · rw [if_pos (by rw [n_le (by omega) (by omega)]; omega)]
        exact ⟨fun k k1 k2 k3 k4 => by rw [k4 (by omega)], fun _ => rfl⟩
      · have b := h6 i (by omega)
        have ui : ∀ k, k < B → g k 0 + 1 = A → g k 1 + 1 = A2 → g i 0 + 1 = A → g i 1 + 1 = A2 → k = i := by
          intro k k1 k2 k3 k4 k5
          rcases Nat.lt_trichotomy k i with z | z | z
          · have := h8 k i z (by omega); omega
          · exact z
          · have := h8 i k z (by omega); omega
        rw [if_neg (by rw [n_le (by omega) (by omega)]; omega), g_part hh (show i < B by omega) (by omega), bd_s, g_part hh (show i < B by omega) (by omega), bd_s, bnd_eq, bnd_eq, n_add]
        by_cases w1 : g i 0 + 1 = A
        · rw [if_pos ((she _ hA (by omega)).2 w1)]
          by_cases w2 : g i 1 + 1 = A2
          · rw [if_pos ((she _ hA2 (by omega)).2 w2)]
            obtain ⟨j1, j2⟩ := ih (i + 1) (nI i) (by omega) (by omega)
            exact ⟨fun k k1 k2 k3 k4 => j1 k k1 k2 k3 (fun _ => by rw [ui k k1 k2 k3 w1 w2]), fun z => absurd ⟨w1, w2⟩ (z i (by omega))⟩
          · rw [if_neg (fun z => w2 ((she _ hA2 (by omega)).1 z))]
            obtain ⟨j1, j2⟩ := ih (i + 1) x (by omega) (by omega)
            exact ⟨fun k k1 k2 k3 k4 => j1 k k1 k2 k3 (fun z => k4 (by
              by_cases e : k = i
              · rw [e] at k3; exact absurd k3 w2
              · omega)), j2⟩
        · rw [if_neg (fun z => w1 ((she _ hA (by omega)).1 z))]
          obtain ⟨j1, j2⟩ := ih (i + 1) x (by omega) (by omega)
          exact ⟨fun k k1 k2 k3 k4 => j1 k k1 k2 k3 (fun z => k4 (by
            by_cases e : k = i
            · rw [e] at k2; exact absurd k2 w1
            · omega)), j2⟩
  obtain ⟨m1, m2⟩ := main 1000 0 (-nI 9) (by omega) (by omega)
  unfold fX9_branchOf
  simp only [lit_nI]
  exact ⟨fun i i1 i2 i3 => m1 i i1 i2 i3 (fun z => absurd z (by omega)), m2⟩
theorem sh_lt {d k : Nat} (hd : d < 100) (hk : k < 100) : (sh d < nI k ↔ d < k + 1) ∧ (nI k < sh d ↔ k + 1 < d) ∧ (sh d = nI k ↔ d = k + 1) ∧ (nI k ≤ sh d ↔ k + 1 ≤ d) := by
  rw [lt_T, lt_T, eq_T, le_T, nI_T (by omega), sh_T (by omega)]
  omega
theorem f_mayHaveLeaf {B : Nat} {g : Nat → Nat → Nat} {ts bm : Int32} {td br : Nat → Int32} (h : TreeR B g ts td bm br) {b : Nat} (hb : b < B) {dd : Nat → Nat} (hd : ∀ k, dd k ≤ 10) : fX7_mayHaveLeaf td (nI b) (nI (nmf dd)) = some (nI (if (g b 2 ≠ 2 ∧ dd 2 = 1 ∧ dd 3 = 0) ∨ (g b 2 = 2 ∧ 1 ≤ dd 2 ∧ dd 2 ≤ g b 3 + 1 ∧ 2 ≤ dd 3) then 1 else 0)) := by
  obtain ⟨h1, h2, h3, h4, h5, h6, h7, h8⟩ := h
  have b0 := hd 0
  have b1 := hd 1
  have b2 := hd 2
  have b3 := hd 3
  have hlt : nmf dd < 65536 := nm_lt (by omega) (by omega) (by omega) (by omega)
  obtain ⟨-, -, d2, d3⟩ := dg_nm (A := dd 0) (B := dd 1) (C := dd 2) (E := dd 3) (by omega) (by omega) (by omega) (by omega)
  have bb := h6 b hb
  have t0 := (h7 b hb).1
  have t3 := (h7 b hb).2.2.2.2
  unfold fX7_mayHaveLeaf
  simp only [lit_nI]
  rw [f_numberOf hlt (by omega), bd_s, f_numberOf hlt (by omega), bd_s, f_field td (by omega) (by omega), bd_s, show dg (nmf dd) 2 = dd 2 from d2, show dg (nmf dd) 3 = dd 3 from d3, Nat.add_zero, t0]
  by_cases y : g b 2 = 2
  · rw [if_pos (by rw [y])]
    have t3 := t3 y
    by_cases y1 : dd 2 = 0
    · rw [if_pos ((sh_lt0 (by omega)).2 y1), if_neg (by omega)]
    · rw [if_neg (fun z => y1 ((sh_lt0 (by omega)).1 z)), f_field td (by omega) (by omega), bd_s, t3]
      by_cases y2 : g b 3 + 1 < dd 2
      · rw [if_pos ((sh_lt (by omega) (by omega)).2.1.2 y2), if_neg (by omega)]
      · rw [if_neg (fun z => y2 ((sh_lt (by omega) (by omega)).2.1.1 z))]
        by_cases y3 : dd 3 < 2
        · rw [if_pos ((sh_lt (by omega) (by omega)).1.2 y3), if_neg (by omega)]
        · rw [if_neg (fun z => y3 ((sh_lt (by omega) (by omega)).1.1 z)), if_neg (fun z => by have := (sh_9 (by omega)).1 z; omega), if_pos (by omega)]
  · rw [if_neg (by rw [n_eq (by omega) (by omega)]; exact y)]
    by_cases y1 : dd 2 = 1
    · rw [if_pos ((sh_lt (by omega) (by omega)).2.2.1.2 y1)]
      by_cases y2 : dd 3 = 0
      · rw [if_pos ((sh_m1 (by omega)).2 y2), if_pos (by omega)]
      · rw [if_neg (fun z => y2 ((sh_m1 (by omega)).1 z)), if_neg (by omega)]
    · rw [if_neg (fun z => y1 ((sh_lt (by omega) (by omega)).2.2.1.1 z)), if_neg (by omega)]
