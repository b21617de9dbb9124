/-! the branches that are being read: sorted by the class, by their telling in the reference -/
theorem f_branchOf {B : Nat} {g : Nat → Nat → Nat} {ts bm : Int32} {td br : Nat → Int32} (h : TreeR B g ts td bm br) {A A2 C E : Nat} (hA : A < 16) (hA2 : A2 < 16) (hC : C < 16) (hE : E < 16) : (∃ i, i < B ∧ g i 0 + 1 = A ∧ g i 1 + 1 = A2 ∧ fX6_branchOf ts td (nI (nm A A2 C E)) = some (nI i)) ∨ ((∀ i, i < B → ¬ (g i 0 + 1 = A ∧ g i 1 + 1 = A2)) ∧ fX6_branchOf ts td (nI (nm A A2 C E)) = some (-nI 9)) := by
  obtain ⟨h1, rfl, h3, h4, h5, h6, h7, h8⟩ := h
  have hlt := nm_lt hA hA2 hC hE
  obtain ⟨d0, d1, -, -⟩ := dg_nm hA hA2 hC hE
  have e0 : -nI 1 + nI 1 = nI 0 := by decide +kernel
  have main : ∀ (n i : Nat), i ≤ B → B < i + n → (∀ k, k < i → ¬ (g k 0 + 1 = A ∧ g k 1 + 1 = A2)) → (∃ k, k < B ∧ g k 0 + 1 = A ∧ g k 1 + 1 = A2 ∧ fX6_branchOf_l18 (nI B) td (nI (nm A A2 C E)) n (nI (nm A A2 0 0)) (nI i) = some (nI k)) ∨ ((∀ k, k < B → ¬ (g k 0 + 1 = A ∧ g k 1 + 1 = A2)) ∧ fX6_branchOf_l18 (nI B) td (nI (nm A A2 C E)) n (nI (nm A A2 0 0)) (nI i) = some (-nI 9)) := by
    intro n
    induction n with
    | zero => intro i i1 i2; omega
    | succ n ih =>
      intro i i1 i2 i3
      rw [fX6_branchOf_l18_s]
      unfold fX6_branchOf_b18
      simp only [lit_nI]
      by_cases y : i = B
      · exact Or.inr ⟨y ▸ i3, by rw [if_pos (by rw [n_le (by omega) (by omega)]; omega)]⟩
      · have b := h6 i (by omega)
        have t := (h7 i (by omega)).2.1
        rw [if_neg (by rw [n_le (by omega) (by omega)]; omega), f_field td (by omega) (by omega), bd_s, t]
        by_cases w : g i 0 + 1 = A ∧ g i 1 + 1 = A2
        · exact Or.inl ⟨i, by omega, w.1, w.2, if_pos (congrArg nI (by unfold nm; omega))⟩
        · rw [if_neg (by rw [n_eq (by omega) (by unfold nm; omega)]; unfold nm; intro z; apply w; omega), bnd_eq, n_add]
          exact ih (i + 1) (by omega) (by omega) (fun k hk => by
            by_cases z : k = i
            · rw [z]; exact w
            · exact i3 k (by omega))
  have e : fX6_branchOf (nI B) td (nI (nm A A2 C E)) = fX6_branchOf_l18 (nI B) td (nI (nm A A2 C E)) 1000 (nI (nm A A2 0 0)) (nI 0) := by
    unfold fX6_branchOf
    simp only [lit_nI]
    rw [f_numberOf hlt (by omega), bd_s, f_numberOf hlt (by omega), bd_s, d0, d1, f_nameOf (sh_1 A) (sh_1 A2) e0 e0 hA hA2 (by omega) (by omega), bd_s]
  rw [e]
  exact main 1000 0 (by omega) (by omega) (fun k hk => absurd hk (by omega))
def key (x : Nat → Nat) : Nat := 10 * x 0 + x 1
/-- how many of the first n rows have a smaller key -/
def cn (g : Nat → Nat → Nat) (x : Nat) : Nat → Nat
  | 0 => 0
  | n + 1 => cn g x n + if key (g n) < x then 1 else 0
def ins (g : Nat → Nat → Nat) (r : Nat) (x : Nat → Nat) : Nat → Nat → Nat := fun i => if i < r then g i else if i = r then x else g (i - 1)
theorem ins_lo {g : Nat → Nat → Nat} {r : Nat} {x : Nat → Nat} {i : Nat} (h : i < r) : ins g r x i = g i := if_pos h
theorem ins_at {g : Nat → Nat → Nat} {r : Nat} {x : Nat → Nat} : ins g r x r = x := by
  unfold ins
  rw [if_neg (by omega), if_pos rfl]
theorem ins_hi {g : Nat → Nat → Nat} {r : Nat} {x : Nat → Nat} {i : Nat} (h : r < i) : ins g r x i = g (i - 1) := by
  unfold ins
  rw [if_neg (by omega), if_neg (by omega)]
theorem tc_ext {g g' : Nat → Nat → Nat} : ∀ n, (∀ i, i < n → g i = g' i) → tc g n = tc g' n := by
  intro n
  induction n with
  | zero => intro _; rfl
  | succ n ih => intro h; rw [tc_succ, tc_succ, ih (fun i hi => h i (by omega)), h n (by omega)]
theorem cn_s (g : Nat → Nat → Nat) (x n : Nat) : cn g x (n + 1) = cn g x n + if key (g n) < x then 1 else 0 := rfl
theorem cn_ext {g g' : Nat → Nat → Nat} (x : Nat) : ∀ n, (∀ i, i < n → key (g i) = key (g' i)) → cn g x n = cn g' x n := by
  intro n
  induction n with
  | zero => intro _; rfl
  | succ n ih => intro h; rw [cn_s, cn_s, ih (fun i hi => h i (by omega)), h n (by omega)]
theorem cn_ins (g : Nat → Nat → Nat) (r : Nat) (x : Nat → Nat) (y : Nat) : ∀ n, r ≤ n → cn (ins g r x) y (n + 1) = cn g y n + if key x < y then 1 else 0 := by
  intro n
  induction n with
  | zero =>
    intro h
    have : r = 0 := by omega
    subst this
    rw [cn_s, ins_at]
    rfl
  | succ n ih =>
    intro h
    by_cases z : r = n + 1
    · rw [cn_s, z, ins_at, cn_ext y (n + 1) (fun i hi => by rw [ins_lo hi])]
    · rw [cn_s, ih (by omega), ins_hi (by omega), cn_s, Nat.add_sub_cancel]
      omega
theorem tc_ins (g : Nat → Nat → Nat) (r : Nat) (x : Nat → Nat) : ∀ n, r ≤ n → tc (ins g r x) (n + 1) = tc g n + if x 2 = 2 then 1 else 0 := by
  intro n
  induction n with
  | zero =>
    intro h
    have : r = 0 := by omega
    subst this
    rw [tc_succ, ins_at]
    rfl
  | succ n ih =>
    intro h
    by_cases z : r = n + 1
    · rw [tc_succ, z, ins_at, tc_ext (n + 1) (fun i hi => ins_lo hi)]
    · rw [tc_succ, ih (by omega), ins_hi (by omega), tc_succ, Nat.add_sub_cancel]
      omega
/-- a row's place among the sorted -/
theorem cn_sorted {g : Nat → Nat → Nat} {m : Nat} (hs : ∀ i j, i < j → j < m → key (g i) < key (g j)) {r : Nat} (hr : r < m) : ∀ n, n ≤ m → cn g (key (g r)) n = min n r := by
  intro n
  induction n with
  | zero => intro _; rw [Nat.zero_min]; rfl
  | succ n ih =>
    intro h
    rw [cn_s, ih (by omega)]
    by_cases z : n < r
    · rw [if_pos (hs n r z hr)]; omega
    · by_cases y : n = r
      · rw [y, if_neg (by omega)]; omega
      · have := hs r n (by omega) (by omega)
        rw [if_neg (by omega)]; omega
def RowOk (x : Nat → Nat) (d : Nat → Int32) : Prop :=
  (1 ≤ x 0 ∧ x 0 ≤ 9 ∧ 1 ≤ x 1 ∧ x 1 ≤ 9 ∧ x 2 ≤ 2 ∧ x 3 ≤ 99 ∧ x 4 ≤ 99 ∧ (x 2 = 2 → 1 ≤ x 3 ∧ x 3 ≤ 3)) ∧
  (d 0 = nI (x 2) ∧ d 1 = nI ((x 0 + 1) * 4096 + (x 1 + 1) * 256) ∧ (x 2 = 0 → d 4 = nI (x 3) ∧ d 5 = nI (x 4)) ∧ (x 2 = 1 → d 2 = nI (x 3)) ∧ (x 2 = 2 → d 3 = nI (x 3))) ∧
  d 6 = nI (x 5) ∧ x 5 ≤ 99 ∧ (x 2 ≠ 0 → x 5 = 0)
def gbr (g : Nat → Nat → Nat) : Nat → Int32 := fun p => nI (g (p / 5) (p % 5))
def DR (m : Nat) (g q : Nat → Nat → Nat) (data fr : Nat → Int32) : Prop :=
  m ≤ 8 ∧ tc g m ≤ 2 ∧ (∀ i, i < m → RowOk (g i) (slc data (7 * i))) ∧ (∀ i j, i < j → j < m → key (g i) < key (g j)) ∧
  (∀ i, i < m → ∀ f, f < 6 → fr (6 * i + f) = nI (q i f)) ∧ (∀ x, cn q x m = cn g x m) ∧
  (∀ i, i < m → ∃ r, r < m ∧ ∀ f, f < 6 → q i f = g r f) ∧ (∀ r, r < m → ∃ i, i < m ∧ ∀ f, f < 6 → q i f = g r f)
theorem DR.tree {m : Nat} {g q : Nat → Nat → Nat} {data fr : Nat → Int32} (h : DR m g q data fr) {br : Nat → Int32} (hb : ∀ i, i < m → ∀ f, f < 5 → br (5 * i + f) = nI (g i f)) : TreeR m g (nI m) data (nI m) br := by
  obtain ⟨h1, h2, h3, h4, h5, h6, h7, h8⟩ := h
  exact ⟨h1, rfl, rfl, h2, hb, fun i hi => (h3 i hi).1, fun i hi => (h3 i hi).2.1, h4⟩
theorem DR.tree0 {m : Nat} {g q : Nat → Nat → Nat} {data fr : Nat → Int32} (h : DR m g q data fr) : TreeR m g (nI m) data (nI m) (gbr g) :=
  h.tree (fun i hi f hf => by
    unfold gbr
    rw [show (5 * i + f) / 5 = i by omega, show (5 * i + f) % 5 = f by omega])
theorem f_insertFresh {m : Nat} {g q : Nat → Nat → Nat} {data fr : Nat → Int32} (h : DR m g q data fr) (hm : m < 8) {x : Nat → Nat} {F : Nat → Int32} (hx : RowOk x F) (hn : ∀ i, i < m → ¬ (g i 0 = x 0 ∧ g i 1 = x 1)) (ht : tc g m + (if x 2 = 2 then 1 else 0) ≤ 2) {fr' : Nat → Int32} (hf : ∀ f, f < 6 → fr' (6 * m + f) = nI (x f)) (hf2 : ∀ p, p < 6 * m → fr' p = fr p) :
    ∃ g' q' data', fX6_insertFresh F (nI m) data = some (nI (m + 1), data') ∧ DR (m + 1) g' q' data' fr' ∧ tc g' (m + 1) = tc g m + (if x 2 = 2 then 1 else 0) := by
  obtain ⟨h1, h2, h3, h4, h5, h6, h7, h8⟩ := h
  obtain ⟨x1, x2, x3⟩ := hx
  have kk : ∀ i, i < m → key (g i) ≠ key x := by
    intro i hi z
    have b := (h3 i hi).1
    unfold key at z
    exact hn i hi ⟨by omega, by omega⟩
  have cd : ∀ i, i < m → (F 1 ≤ data (7 * i + 1) ↔ ¬ key (g i) < key x) := by
    intro i hi
    have b := (h3 i hi).1
    have t : data (7 * i + 1) = nI ((g i 0 + 1) * 4096 + (g i 1 + 1) * 256) := (h3 i hi).2.1.2.1
    rw [x2.2.1, t, n_le (by omega) (by omega)]
    have := kk i hi
    unfold key at this ⊢
    omega
  have main : ∀ (n i : Nat), i ≤ m → m < i + n → (∀ k, k < i → key (g k) < key x) → ∃ r, r ≤ m ∧ (∀ k, k < r → key (g k) < key x) ∧ (∀ k, r ≤ k → k < m → key x < key (g k)) ∧ fX6_insertFresh_l19 F n (nI m) data (nI i) = some (nI (m + 1), va_cpy F (va_cpy data data (7 * r) (7 * r + 7) (7 * (m - r))) 0 (7 * r) 7) := by
    intro n
    induction n with
    | zero => intro i i1 i2; omega
    | succ n ih =>
      intro i i1 i2 i3
      rw [fX6_insertFresh_l19_s]
      unfold fX6_insertFresh_b19
      have fin : (∀ k, i ≤ k → k < m → key x < key (g k)) → fX6_insertFresh_b48 F (nI m) data (nI i) = some (nI (m + 1), va_cpy F (va_cpy data data (7 * i) (7 * i + 7) (7 * (m - i))) 0 (7 * i) 7) := by
        intro _
        unfold fX6_insertFresh_b48
        simp only [lit_nI]
        rw [bnd_eq, n_mul, n_add, n_sub i1, n_mul, gcp_nI (by omega) (by omega) (by omega) (by omega), gcp_nI (by omega) (by omega) (by omega) (by omega), bnd_eq, n_add, n_cl (by omega), n_cl (by omega), n_cl (by omega), n_cl (by omega), n_cl (by omega), Nat.mul_comm i 7, Nat.mul_comm (m - i) 7]
      simp only [lit_nI]
      by_cases y : i = m
      · have hk : ∀ k, i ≤ k → k < m → key x < key (g k) := fun k k1 k2 => absurd k2 (by omega)
        exact ⟨i, i1, i3, hk, by rw [if_pos (by rw [n_le (by omega) (by omega)]; omega), fin hk]⟩
      · rw [if_neg (by rw [n_le (by omega) (by omega)]; omega), f_field data (by omega) (by omega), bd_s, gin_nI (by omega) (by omega), n_cl (by omega)]
        by_cases w : key (g i) < key x
        · rw [if_neg (fun z => (cd i (by omega)).1 z w), bnd_eq, n_add]
          exact ih (i + 1) (by omega) (by omega) (fun k hk => by
            by_cases z : k = i
            · rw [z]; exact w
            · exact i3 k (by omega))
        · have hk : ∀ k, i ≤ k → k < m → key x < key (g k) := by
            intro k k1 k2
            have a := kk i (by omega)
            by_cases z : k = i
            · rw [z]; omega
            · have := h4 i k (by omega) k2
              omega
          exact ⟨i, i1, i3, hk, by rw [if_pos ((cd i (by omega)).2 w), fin hk]⟩
  obtain ⟨r, r1, r2, r3, r4⟩ := main 1000 0 (by omega) (by omega) (fun k hk => absurd hk (by omega))
  refine ⟨ins g r x, fun i => if i = m then x else q i, va_cpy F (va_cpy data data (7 * r) (7 * r + 7) (7 * (m - r))) 0 (7 * r) 7, ?_, ⟨by omega, ?_, ?_, ?_, ?_, ?_, ?_, ?_⟩, tc_ins g r x m r1⟩
  · unfold fX6_insertFresh
    simp only [lit_nI]
    rw [if_neg (nn0 (by omega)), if_pos (by rw [n_lt (by omega) (by omega)]; omega)]
    exact r4
  · rw [tc_ins g r x m r1]; exact ht
  · intro i hi
    have big : ∀ f, f < 7 → slc (va_cpy F (va_cpy data data (7 * r) (7 * r + 7) (7 * (m - r))) 0 (7 * r) 7) (7 * i) f = if i < r then data (7 * i + f) else if i = r then F f else data (7 * (i - 1) + f) := by
      intro f hf
      show va_cpy F (va_cpy data data (7 * r) (7 * r + 7) (7 * (m - r))) 0 (7 * r) 7 (7 * i + f) = _
      by_cases z1 : i < r
      · rw [if_pos z1, cpy_out _ _ (by omega), cpy_out _ _ (by omega)]
      · rw [if_neg z1]
        by_cases z2 : i = r
        · rw [if_pos z2, z2, cpy_in _ _ hf, Nat.zero_add]
        · rw [if_neg z2, cpy_out _ _ (by omega), show 7 * i + f = 7 * r + 7 + (7 * i + f - 7 * r - 7) by omega, cpy_in _ _ (by omega)]
          exact congrArg data (by omega)
    have rok : ∀ (y : Nat → Nat) (d d' : Nat → Int32), RowOk y d → (∀ f, f < 7 → d' f = d f) → RowOk y d' := by
      intro y d d' hy hd
      unfold RowOk
      rw [hd 0 (by omega), hd 1 (by omega), hd 2 (by omega), hd 3 (by omega), hd 4 (by omega), hd 5 (by omega), hd 6 (by omega)]
      exact hy
    by_cases z1 : i < r
    · rw [ins_lo z1]
      exact rok _ _ _ (h3 i (by omega)) (fun f hf => by rw [big f hf, if_pos z1]; rfl)
    · by_cases z2 : i = r
      · have e : ins g r x i = x := by rw [z2]; exact ins_at
        rw [e]
        exact rok _ _ _ ⟨x1, x2, x3⟩ (fun f hf => by rw [big f hf, if_neg z1, if_pos z2])
      · rw [ins_hi (by omega)]
        exact rok _ _ _ (h3 (i - 1) (by omega)) (fun f hf => by rw [big f hf, if_neg z1, if_neg z2]; rfl)
  · intro i j hij hj
    by_cases z1 : j < r
    · rw [ins_lo z1, ins_lo (by omega)]
      exact h4 i j hij (by omega)
    · by_cases z2 : j = r
      · have e : ins g r x j = x := by rw [z2]; exact ins_at
        rw [e, ins_lo (by omega)]
        exact r2 i (by omega)
      · rw [ins_hi (show r < j by omega)]
        by_cases z3 : i < r
        · rw [ins_lo z3]
          have a := r2 i z3
          have b := r3 (j - 1) (by omega) (by omega)
          omega
        · by_cases z4 : i = r
          · have e : ins g r x i = x := by rw [z4]; exact ins_at
            rw [e]
            exact r3 (j - 1) (by omega) (by omega)
          · rw [ins_hi (by omega)]
            exact h4 (i - 1) (j - 1) (by omega) (by omega)
  · intro i hi f hf6
    dsimp only
    by_cases z : i = m
    · rw [if_pos z, z]; exact hf f hf6
    · rw [if_neg z, hf2 _ (by omega)]; exact h5 i (by omega) f hf6
  · intro y
    rw [cn_s, cn_ins g r x y m r1, ← h6 y, if_pos rfl, cn_ext y m (fun i hi => by rw [if_neg (by omega)])]
  · intro i hi
    dsimp only
    by_cases z : i = m
    · exact ⟨r, by omega, fun f hf => by rw [if_pos z, ins_at]⟩
    · obtain ⟨k, k1, k2⟩ := h7 i (by omega)
      by_cases y : k < r
      · exact ⟨k, by omega, fun f hf => by rw [if_neg z, ins_lo y]; exact k2 f hf⟩
      · exact ⟨k + 1, by omega, fun f hf => by rw [if_neg z, ins_hi (by omega)]; exact k2 f hf⟩
  · intro k hk
    dsimp only
    by_cases z1 : k < r
    · obtain ⟨i, i1, i2⟩ := h8 k (by omega)
      exact ⟨i, by omega, fun f hf => by rw [if_neg (by omega), ins_lo z1]; exact i2 f hf⟩
    · by_cases z2 : k = r
      · exact ⟨m, by omega, fun f hf => by rw [if_pos rfl, z2, ins_at]⟩
      · obtain ⟨i, i1, i2⟩ := h8 (k - 1) (by omega)
        exact ⟨i, by omega, fun f hf => by rw [if_neg (by omega), ins_hi (by omega)]; exact i2 f hf⟩
theorem g_isFresh {m : Nat} {q : Nat → Nat → Nat} {fr : Nat → Int32} (hm : m ≤ 8) (h5 : ∀ i, i < m → ∀ f, f < 6 → fr (6 * i + f) = nI (q i f)) (hb : ∀ i, i < m → q i 0 ≤ 9 ∧ q i 1 ≤ 9) {a b : Nat} (ha : a ≤ 9) (hb9 : b ≤ 9) : ((∀ i, i < m → ¬ (q i 0 = a ∧ q i 1 = b)) ∧ fX9_isFresh (nI m) fr (nI a) (nI b) = some (nI 1)) ∨ ((∃ i, i < m ∧ q i 0 = a ∧ q i 1 = b) ∧ fX9_isFresh (nI m) fr (nI a) (nI b) = some (nI 0)) := by
  have z10 : ¬ nI 1 = nI 0 := by rw [n_eq (by omega) (by omega)]; omega
  have main : ∀ (n i : Nat), i ≤ m → m < i + n → ((∀ k, k < i → ¬ (q k 0 = a ∧ q k 1 = b)) → ((∀ k, k < m → ¬ (q k 0 = a ∧ q k 1 = b)) ∧ fX9_isFresh_l5 (nI m) fr (nI a) (nI b) n (nI 1) (nI i) = some (nI 1)) ∨ ((∃ k, k < m ∧ q k 0 = a ∧ q k 1 = b) ∧ fX9_isFresh_l5 (nI m) fr (nI a) (nI b) n (nI 1) (nI i) = some (nI 0))) ∧ fX9_isFresh_l5 (nI m) fr (nI a) (nI b) n (nI 0) (nI i) = some (nI 0) := by
    intro n
    induction n with
    | zero => intro i i1 i2; omega
    | succ n ih =>
      intro i i1 i2
      rw [fX9_isFresh_l5_s, fX9_isFresh_l5_s]
      unfold fX9_isFresh_b5
      simp only [lit_nI]
      by_cases y : i = m
      · have ye : nI m ≤ nI i := by rw [n_le (by omega) (by omega)]; omega
        rw [if_pos ye, if_pos ye, gz_0, gz_1]
        exact ⟨fun z => Or.inl ⟨y ▸ z, rfl⟩, rfl⟩
      · have ye : ¬ nI m ≤ nI i := by rw [n_le (by omega) (by omega)]; omega
        have c0 := h5 i (by omega) 0 (by omega)
        have c1 := h5 i (by omega) 1 (by omega)
        have cb := hb i (by omega)
        obtain ⟨j1, j2⟩ := ih (i + 1) (by omega) (by omega)
        rw [if_neg ye, if_neg ye, if_neg z10, n_mul, n_add, n_add, gin_nI (by omega) (by omega), n_cl (by omega), gin_nI (by omega) (by omega), n_cl (by omega), show 6 * i = 6 * i + 0 from rfl, c0, show 6 * i + 0 + 1 = 6 * i + 1 from rfl, c1, bnd_eq, bnd_eq, if_true, j2]
        refine ⟨fun z => ?_, rfl⟩
        by_cases w1 : q i 0 = a
        · by_cases w2 : q i 1 = b
          · rw [if_pos (by rw [w1]), if_pos (by rw [w2])]
            exact Or.inr ⟨⟨i, by omega, w1, w2⟩, rfl⟩
          · rw [if_pos (by rw [w1]), if_neg (by rw [n_eq (by omega) (by omega)]; exact w2)]
            exact j1 (fun k hk => by
              by_cases v : k = i
              · rw [v]; exact fun u => w2 u.2
              · exact z k (by omega))
        · rw [if_neg (by rw [n_eq (by omega) (by omega)]; exact w1)]
          exact j1 (fun k hk => by
            by_cases v : k = i
            · rw [v]; exact fun u => w1 u.1
            · exact z k (by omega))
  unfold fX9_isFresh
  simp only [lit_nI]
  exact (main 1000 0 (by omega) (by omega)).1 (fun k hk => absurd hk (by omega))
