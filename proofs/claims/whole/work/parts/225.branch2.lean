/-! a whole branch, and all of them, by both -/
def rw6 (a b k v3 v4 v5 : Nat) : Nat → Nat
  | 0 => a
  | 1 => b
  | 2 => k
  | 3 => v3
  | 4 => v4
  | _ => v5
theorem six {P : Nat → Prop} (h0 : P 0) (h1 : P 1) (h2 : P 2) (h3 : P 3) (h4 : P 4) (h5 : P 5) : ∀ f, f < 6 → P f := by
  intro f hf
  match f, hf with
  | 0, _ => exact h0
  | 1, _ => exact h1
  | 2, _ => exact h2
  | 3, _ => exact h3
  | 4, _ => exact h4
  | 5, _ => exact h5
theorem fr_at (fr : Nat → Int32) (w : Nat) (a b k x y z : Int32) : (upd (upd (upd (upd (upd (upd fr w a) (w + 1) b) (w + 2) k) (w + 3) x) (w + 3 + 1) y) (w + 3 + 2) z) w = a ∧ (upd (upd (upd (upd (upd (upd fr w a) (w + 1) b) (w + 2) k) (w + 3) x) (w + 3 + 1) y) (w + 3 + 2) z) (w + 1) = b ∧ (upd (upd (upd (upd (upd (upd fr w a) (w + 1) b) (w + 2) k) (w + 3) x) (w + 3 + 1) y) (w + 3 + 2) z) (w + 2) = k ∧ (upd (upd (upd (upd (upd (upd fr w a) (w + 1) b) (w + 2) k) (w + 3) x) (w + 3 + 1) y) (w + 3 + 2) z) (w + 3) = x ∧ (upd (upd (upd (upd (upd (upd fr w a) (w + 1) b) (w + 2) k) (w + 3) x) (w + 3 + 1) y) (w + 3 + 2) z) (w + 4) = y ∧ (upd (upd (upd (upd (upd (upd fr w a) (w + 1) b) (w + 2) k) (w + 3) x) (w + 3 + 1) y) (w + 3 + 2) z) (w + 5) = z ∧ ∀ p, p < w → (upd (upd (upd (upd (upd (upd fr w a) (w + 1) b) (w + 2) k) (w + 3) x) (w + 3 + 1) y) (w + 3 + 2) z) p = fr p := by
  refine ⟨?_, ?_, ?_, ?_, ?_, ?_, ?_⟩
  · rw [upd_n (by omega), upd_n (by omega), upd_n (by omega), upd_n (by omega), upd_n (by omega), upd_s]
  · rw [upd_n (by omega), upd_n (by omega), upd_n (by omega), upd_n (by omega), upd_s]
  · rw [upd_n (by omega), upd_n (by omega), upd_n (by omega), upd_s]
  · rw [upd_n (by omega), upd_n (by omega), upd_s]
  · rw [upd_n (by omega)]; exact upd_s _ _ _
  · exact upd_s _ _ _
  · intro p hp
    rw [upd_n (by omega), upd_n (by omega), upd_n (by omega), upd_n (by omega), upd_n (by omega), upd_n (by omega)]
theorem kind_both {L : Nat} {c : Nat → Nat} {T tx : Nat → Int32} (h : TxR L c T tx) {p q : Nat} (hs : Sk L c p q) {m t : Nat} (hm : m < 8) (ht : t ≤ 2) (mark : Int32) :
    (q < L ∧ c q = 110 ∧ fX9_kindPassed (nI L) (nI m) (nI t) tx (nI p) mark = some (nI 0, nI (q + 1), nI q)) ∨ (q < L ∧ c q = 99 ∧ fX9_kindPassed (nI L) (nI m) (nI t) tx (nI p) mark = some (nI 1, nI (q + 1), nI q)) ∨ (q < L ∧ c q = 116 ∧ t < 2 ∧ fX9_kindPassed (nI L) (nI m) (nI t) tx (nI p) mark = some (nI 2, nI (q + 1), nI q)) ∨ (¬ (q < L ∧ c q = 110) ∧ ¬ (q < L ∧ c q = 99) ∧ ¬ (q < L ∧ c q = 116 ∧ t < 2) ∧ fX9_kindPassed (nI L) (nI m) (nI t) tx (nI p) mark = some (-nI 9, nI q, nI q)) := by
  have z10 : ¬ nI 1 = nI 0 := by rw [n_eq (by omega) (by omega)]; omega
  unfold fX9_kindPassed
  simp only [lit_nI]
  rw [if_neg (by rw [n_eq (by omega) (by omega)]; omega)]
  rcases g_passes h hs (x := 110) (by omega) mark with ⟨a1, a2, a3⟩ | ⟨a1, a3⟩
  · rw [a3, bd_s, if_neg z10]
    exact Or.inl ⟨a1, a2, rfl⟩
  · rw [a3, bd_s, if_pos rfl]
    dsimp only
    rcases g_passes h hs.self (x := 99) (by omega) (nI q) with ⟨b1, b2, b3⟩ | ⟨b1, b3⟩
    · rw [b3, bd_s, if_neg z10]
      exact Or.inr (Or.inl ⟨b1, b2, rfl⟩)
    · rw [b3, bd_s, if_pos rfl]
      dsimp only
      by_cases y : 2 ≤ t
      · rw [if_pos (by rw [n_le (by omega) (by omega)]; exact y)]
        exact Or.inr (Or.inr (Or.inr ⟨a1, b1, fun z => by omega, rfl⟩))
      · rw [if_neg (by rw [n_le (by omega) (by omega)]; exact y)]
        rcases g_passes h hs.self (x := 116) (by omega) (nI q) with ⟨d1, d2, d3⟩ | ⟨d1, d3⟩
        · rw [d3, bd_s, if_neg z10]
          exact Or.inr (Or.inr (Or.inl ⟨d1, d2, by omega, rfl⟩))
        · rw [d3, bd_s, if_pos rfl]
          exact Or.inr (Or.inr (Or.inr ⟨a1, b1, fun z => d1 ⟨z.1, z.2.1⟩, rfl⟩))
def BranchOk (L : Nat) (c : Nat → Nat) (K : Nat) (s : Nat → Nat) (m : Nat) (g : Nat → Nat → Nat) (fr : Nat → Int32) (CL : Option (Int32 × (Nat → Int32) × Int32 × Int32 × Int32 × Int32)) (RF : Option (Int32 × Int32 × Int32 × Int32 × Int32 × (Nat → Int32))) : Prop :=
  (∃ x F j2 tk2 z2 nu2 p2 mk2 fr2, RowOk x F ∧ (∀ i, i < m → ¬ (g i 0 = x 0 ∧ g i 1 = x 1)) ∧ tc g m + (if x 2 = 2 then 1 else 0) ≤ 2 ∧ j2 ≤ K ∧ Sk L c p2 (s j2) ∧ (∀ f, f < 6 → fr2 (6 * m + f) = nI (x f)) ∧ (∀ p, p < 6 * m → fr2 p = fr p) ∧ CL = some (nI 1, F, nI j2, tk2, z2, nu2) ∧ RF = some (nI 1, nI p2, mk2, nI (m + 1), nI (tc g m + if x 2 = 2 then 1 else 0), fr2)) ∨
  (∃ F a2 tk2 z nu2 p2 m2 t2 fr2, z ≤ L ∧ CL = some (nI 0, F, a2, tk2, nI z, nu2) ∧ RF = some (nI 0, p2, nI z, m2, t2, fr2))
theorem rb_both {L : Nat} {c : Nat → Nat} {T tx : Nat → Int32} (h : TxR L c T tx) {K : Nat} {s e : Nat → Nat} {tok sta num : Nat → Int32} (ht : TokR L c K s e tok sta num) {m : Nat} {g q : Nat → Nat → Nat} {data fr : Nat → Int32} (hD : DR m g q data fr) (hm : m < 8) {j j' : Nat} (hj : j < K) {tk nu : Int32} (hq : Cur K tok num j j' tk nu) {p : Nat} (hs : Sk L c p (s j)) (F0 : Nat → Int32) (mark : Int32) :
    BranchOk L c K s m g fr (fX6_readBranch (nI m) data (nI K) (nI L) tok sta num F0 (nI j') tk (nI (s j)) nu) (fX9_readsBranch (nI L) tx (nI p) mark (nI m) (nI (tc g m)) fr) := by
  have z10 : ¬ nI 1 = nI 0 := by rw [n_eq (by omega) (by omega)]; omega
  have z20 : ¬ nI 2 = nI 0 := by rw [n_eq (by omega) (by omega)]; omega
  have z21 : ¬ nI 2 = nI 1 := by rw [n_eq (by omega) (by omega)]; omega
  have n99 : ∀ i : Nat, i < 100 → ¬ nI i = -nI 9 := fun i hi => by rw [n_eqm (by omega) (by omega) (by omega)]; exact not_false
  have sL : ∀ {i : Nat}, i ≤ K → s i ≤ L := fun hi => (ht.2.2.2.1 _ hi).2.1
  have ht2 := hD.2.1
  have j1 : j' = j + 1 := by
    rcases hq with ⟨q1, q2, q3, q4⟩ | ⟨q1, q2, q3⟩
    · exact q2
    · omega
  subst j1
  have cs : ∀ x, x < 256 → ¬ fig x → (tk = nI x ↔ (s j < L ∧ c (s j) = x)) := fun x x1 x2 => cur_sign ht (fun i hi => (h.2 i hi).2.2) hq x1 x2
  have c110 := cs 110 (by omega) (by unfold fig; omega)
  have c99 := cs 99 (by omega) (by unfold fig; omega)
  have c116 := cs 116 (by omega) (by unfold fig; omega)
  have sgn : ∀ x, ¬ fig x → c (s j) = x → Sk L c (s j + 1) (s (j + 1)) := by
    intro x hx hc
    rcases (ht.2.2.2.2 j hj).2.2 with ⟨w1, w2, w3, w4⟩ | ⟨w1, w2, w3⟩
    · rw [hc] at w1; exact absurd w1 hx
    · have := ht.2.2.2.1 (j + 1) hj
      rw [w2] at this
      exact this
  obtain ⟨F1, f1, f2⟩ := f_fill (N := 7) (by omega) (nI 0) F0
  unfold fX6_readBranch fX9_readsBranch
  simp only [lit_nI]
  rw [f1, bd_s, n_cl (by omega)]
  rcases kind_both h hs hm ht2 mark with ⟨a1, a2, a3⟩ | ⟨a1, a2, a3⟩ | ⟨a1, a2, a4, a3⟩ | ⟨a1, a2, a4, a3⟩
  · -- a single one
    rw [a3, bd_s, if_neg (fun z => by have := (c99.1 z).2; omega), if_pos (c110.2 ⟨a1, a2⟩), gin_nI (by omega) (by omega)]
    dsimp only
    rw [if_neg (n99 0 (by omega))]
    rcases name_both h ht hD (j := j + 1) (by omega) (sgn 110 (by unfold fig; omega) a2) (upd F1 0 (nI 0)) tk (nI (s j)) nu (nI (s j)) (nI (tc g m)) (nI 0) with ⟨a, b, tk1, nu1, b1, b2, b3, b4, b5, b6, b7, b8, b9, b10⟩ | ⟨F', j', tk', z, nu', p', z1, z2, z3⟩
    · rw [b7, bd_s, b8]
      dsimp only
      unfold fX9_readsBranch_b38
      simp only [lit_nI]
      rw [if_neg z10, if_neg (nn0 (by omega)), b9, bd_s, if_neg z10, bnd_eq, n_mul, gin_nI (by omega) (by omega), n_add, n_add, n_add, gin_nI (by omega) (by omega), gin_nI (by omega) (by omega), if_true, n_cl (by omega), n_cl (by omega), n_cl (by omega)]
      rcases bounds_both h ht (j := j + 1 + 2) (by omega) b10 (w := 6 * m + 3) (by omega) (upd (upd F1 0 (nI 0)) 1 (nI ((a + 1) * 4096 + (b + 1) * 256))) (upd (upd (upd fr (6 * m) (nI a)) (6 * m + 1) (nI b)) (6 * m + 2) (nI 0)) tk1 (nI (s (j + 1 + 1))) nu1 (nI (s (j + 1 + 1))) with ⟨v3, v4, v5, tk2, nu2, d1, d2, d3, d4, d5, d6, d7⟩ | ⟨F', j', tk', z, nu', p', fr', z1, z2, z3⟩
      · rw [d5, bd_s, d6, bd_s]
        dsimp only
        rw [if_neg z10]
        rcases semi_both h ht (j := j + 1 + 2 + 3) (by omega) d7 (m := m) (t := tc g m) (kd := 0) (by omega) (upd (upd (upd (upd (upd (upd fr (6 * m) (nI a)) (6 * m + 1) (nI b)) (6 * m + 2) (nI 0)) (6 * m + 3) (nI v3)) (6 * m + 3 + 1) (nI v4)) (6 * m + 3 + 2) (nI v5)) tk2 (nI (s (j + 1 + 2 + 2))) nu2 (nI (s (j + 1 + 2 + 2))) with ⟨tk3, nu3, e1, e2, e3, e4⟩ | ⟨j', tk', z, nu', p', z1, z2, z3⟩
        · rw [e2, bd_s, e3]
          dsimp only
          rw [if_neg z10]
          obtain ⟨k0, k1, k2, k3, k4, k5, k6⟩ := fr_at fr (6 * m) (nI a) (nI b) (nI 0) (nI v3) (nI v4) (nI v5)
          refine Or.inl ⟨rw6 a b 0 v3 v4 v5, _, j + 1 + 2 + 3 + 1, tk3, _, nu3, _, _, _, ⟨⟨b1, b2, b3, b4, ?_, ?_, ?_, ?_⟩, ⟨?_, ?_, ?_, ?_, ?_⟩, ?_, ?_, ?_⟩, b6, ?_, e1, e4, six k0 k1 k2 k3 k4 k5, k6, rfl, rfl⟩
          · show 0 ≤ 2; omega
          · show v3 ≤ 99; omega
          · show v4 ≤ 99; omega
          · intro z; exact absurd z (by show ¬ 0 = 2; omega)
          · rw [upd_n (by omega), upd_n (by omega), upd_n (by omega), upd_n (by omega), upd_s]; rfl
          · rw [upd_n (by omega), upd_n (by omega), upd_n (by omega), upd_s]; rfl
          · intro _
            exact ⟨by rw [upd_n (by omega), upd_n (by omega), upd_s]; rfl, by rw [upd_n (by omega), upd_s]; rfl⟩
          · intro z; exact absurd z (by show ¬ 0 = 1; omega)
          · intro z; exact absurd z (by show ¬ 0 = 2; omega)
          · exact upd_s _ _ _
          · show v5 ≤ 99; omega
          · intro z; exact absurd rfl z
          · rw [if_neg (show ¬ rw6 a b 0 v3 v4 v5 2 = 2 by show ¬ 0 = 2; omega)]; omega
        · rw [z2, bd_s, z3]
          dsimp only
          rw [if_pos rfl]
          exact Or.inr ⟨_, _, _, z, _, _, _, _, _, z1, rfl, rfl⟩
      · rw [z2, bd_s, z3, bd_s]
        dsimp only
        rw [if_pos rfl]
        unfold fX9_readsBranch_b125
        simp only [lit_nI]
        rw [if_true]
        exact Or.inr ⟨_, _, _, z, _, _, _, _, _, z1, rfl, rfl⟩
    · rw [z2, bd_s, z3]
      dsimp only
      rw [if_pos rfl]
      exact Or.inr ⟨_, _, _, z, _, _, _, _, _, z1, rfl, rfl⟩
  · -- a counter
    rw [a3, bd_s, if_pos (c99.2 ⟨a1, a2⟩), gin_nI (by omega) (by omega)]
    dsimp only
    rw [if_neg (n99 1 (by omega))]
    rcases name_both h ht hD (j := j + 1) (by omega) (sgn 99 (by unfold fig; omega) a2) (upd F1 0 (nI 1)) tk (nI (s j)) nu (nI (s j)) (nI (tc g m)) (nI 1) with ⟨a, b, tk1, nu1, b1, b2, b3, b4, b5, b6, b7, b8, b9, b10⟩ | ⟨F', j', tk', z, nu', p', z1, z2, z3⟩
    · rw [b7, bd_s, b8]
      dsimp only
      unfold fX9_readsBranch_b38 fX9_readsBranch_b122
      simp only [lit_nI]
      rw [if_neg z10, if_neg (nn0 (by omega)), b9, bd_s, if_neg z10, bnd_eq, n_mul, gin_nI (by omega) (by omega), n_add, n_add, n_add, gin_nI (by omega) (by omega), gin_nI (by omega) (by omega), if_neg z10, if_true, n_cl (by omega), n_cl (by omega), n_cl (by omega)]
      rcases step_both h ht (j := j + 1 + 2) (by omega) b10 (w := 6 * m + 3) (w7 := 2) (hi := 9) (by omega) (by omega) (by omega) (upd (upd F1 0 (nI 1)) 1 (nI ((a + 1) * 4096 + (b + 1) * 256))) (upd (upd (upd fr (6 * m) (nI a)) (6 * m + 1) (nI b)) (6 * m + 2) (nI 1)) tk1 (nI (s (j + 1 + 1))) nu1 (nI (s (j + 1 + 1))) with ⟨v3, tk2, nu2, d1, d2, d4, d5, d6, d7⟩ | ⟨j', tk', z, nu', p', fr', z1, z2, z3⟩
      · rw [d5, bd_s, d6, bd_s]
        dsimp only
        rw [if_neg z10]
        rcases semi_both h ht (j := j + 1 + 2 + 1) (by omega) d7 (m := m) (t := tc g m) (kd := 1) (by omega) (upd (upd (upd (upd (upd (upd fr (6 * m) (nI a)) (6 * m + 1) (nI b)) (6 * m + 2) (nI 1)) (6 * m + 3) (nI v3)) (6 * m + 3 + 1) (nI 0)) (6 * m + 3 + 2) (nI 0)) tk2 (nI (s (j + 1 + 2))) nu2 (nI (s (j + 1 + 2))) with ⟨tk3, nu3, e1, e2, e3, e4⟩ | ⟨j', tk', z, nu', p', z1, z2, z3⟩
        · rw [e2, bd_s, e3]
          dsimp only
          rw [if_neg z10]
          obtain ⟨k0, k1, k2, k3, k4, k5, k6⟩ := fr_at fr (6 * m) (nI a) (nI b) (nI 1) (nI v3) (nI 0) (nI 0)
          refine Or.inl ⟨rw6 a b 1 v3 0 0, _, j + 1 + 2 + 1 + 1, tk3, _, nu3, _, _, _, ⟨⟨b1, b2, b3, b4, ?_, ?_, ?_, ?_⟩, ⟨?_, ?_, ?_, ?_, ?_⟩, ?_, ?_, ?_⟩, b6, ?_, e1, e4, six k0 k1 k2 k3 k4 k5, k6, rfl, rfl⟩
          · show 1 ≤ 2; omega
          · show v3 ≤ 99; omega
          · show 0 ≤ 99; omega
          · intro z; exact absurd z (by show ¬ 1 = 2; omega)
          · rw [upd_n (by omega), upd_n (by omega), upd_s]; rfl
          · rw [upd_n (by omega), upd_s]; rfl
          · intro z; exact absurd z (by show ¬ 1 = 0; omega)
          · intro _
            exact upd_s _ _ _
          · intro z; exact absurd z (by show ¬ 1 = 2; omega)
          · rw [upd_n (by omega), upd_n (by omega), upd_n (by omega), f2, if_pos (by omega)]; rfl
          · show 0 ≤ 99; omega
          · intro _; rfl
          · rw [if_neg (show ¬ rw6 a b 1 v3 0 0 2 = 2 by show ¬ 1 = 2; omega)]; omega
        · rw [z2, bd_s, z3]
          dsimp only
          rw [if_pos rfl]
          exact Or.inr ⟨_, _, _, z, _, _, _, _, _, z1, rfl, rfl⟩
      · rw [z2, bd_s, z3, bd_s]
        dsimp only
        rw [if_pos rfl]
        unfold fX9_readsBranch_b125
        simp only [lit_nI]
        rw [if_true]
        exact Or.inr ⟨_, _, _, z, _, _, _, _, _, z1, rfl, rfl⟩
    · rw [z2, bd_s, z3]
      dsimp only
      rw [if_pos rfl]
      exact Or.inr ⟨_, _, _, z, _, _, _, _, _, z1, rfl, rfl⟩
  · -- a table
    rw [a3, bd_s, if_neg (fun z => by have := (c99.1 z).2; omega), if_neg (fun z => by have := (c110.1 z).2; omega), if_pos (c116.2 ⟨a1, a2⟩), gin_nI (by omega) (by omega), f_tables hD.tree0, bd_s, if_neg (by rw [n_le (by omega) (by omega)]; omega)]
    dsimp only
    rw [if_neg (n99 2 (by omega))]
    rcases name_both h ht hD (j := j + 1) (by omega) (sgn 116 (by unfold fig; omega) a2) (upd F1 0 (nI 2)) tk (nI (s j)) nu (nI (s j)) (nI (tc g m)) (nI 2) with ⟨a, b, tk1, nu1, b1, b2, b3, b4, b5, b6, b7, b8, b9, b10⟩ | ⟨F', j', tk', z, nu', p', z1, z2, z3⟩
    · rw [b7, bd_s, b8]
      dsimp only
      unfold fX9_readsBranch_b38 fX9_readsBranch_b122
      simp only [lit_nI]
      rw [if_neg z10, if_neg (nn0 (by omega)), b9, bd_s, if_neg z10, bnd_eq, n_mul, gin_nI (by omega) (by omega), n_add, n_add, n_add, gin_nI (by omega) (by omega), gin_nI (by omega) (by omega), if_neg z20, if_neg z21, n_cl (by omega), n_cl (by omega), n_cl (by omega)]
      rcases step_both h ht (j := j + 1 + 2) (by omega) b10 (w := 6 * m + 3) (w7 := 3) (hi := 3) (by omega) (by omega) (by omega) (upd (upd F1 0 (nI 2)) 1 (nI ((a + 1) * 4096 + (b + 1) * 256))) (upd (upd (upd fr (6 * m) (nI a)) (6 * m + 1) (nI b)) (6 * m + 2) (nI 2)) tk1 (nI (s (j + 1 + 1))) nu1 (nI (s (j + 1 + 1))) with ⟨v3, tk2, nu2, d1, d2, d4, d5, d6, d7⟩ | ⟨j', tk', z, nu', p', fr', z1, z2, z3⟩
      · rw [d5, bd_s, d6, bd_s]
        dsimp only
        rw [if_neg z10]
        rcases semi_both h ht (j := j + 1 + 2 + 1) (by omega) d7 (m := m) (t := tc g m) (kd := 2) (by omega) (upd (upd (upd (upd (upd (upd fr (6 * m) (nI a)) (6 * m + 1) (nI b)) (6 * m + 2) (nI 2)) (6 * m + 3) (nI v3)) (6 * m + 3 + 1) (nI 0)) (6 * m + 3 + 2) (nI 0)) tk2 (nI (s (j + 1 + 2))) nu2 (nI (s (j + 1 + 2))) with ⟨tk3, nu3, e1, e2, e3, e4⟩ | ⟨j', tk', z, nu', p', z1, z2, z3⟩
        · rw [e2, bd_s, e3]
          dsimp only
          rw [if_neg z10]
          obtain ⟨k0, k1, k2, k3, k4, k5, k6⟩ := fr_at fr (6 * m) (nI a) (nI b) (nI 2) (nI v3) (nI 0) (nI 0)
          refine Or.inl ⟨rw6 a b 2 v3 0 0, _, j + 1 + 2 + 1 + 1, tk3, _, nu3, _, _, _, ⟨⟨b1, b2, b3, b4, ?_, ?_, ?_, ?_⟩, ⟨?_, ?_, ?_, ?_, ?_⟩, ?_, ?_, ?_⟩, b6, ?_, e1, e4, six k0 k1 k2 k3 k4 k5, k6, rfl, rfl⟩
          · show 2 ≤ 2; omega
          · show v3 ≤ 99; omega
          · show 0 ≤ 99; omega
          · intro _; exact ⟨d1, d2⟩
          · rw [upd_n (by omega), upd_n (by omega), upd_s]; rfl
          · rw [upd_n (by omega), upd_s]; rfl
          · intro z; exact absurd z (by show ¬ 2 = 0; omega)
          · intro z; exact absurd z (by show ¬ 2 = 1; omega)
          · intro _
            exact upd_s _ _ _
          · rw [upd_n (by omega), upd_n (by omega), upd_n (by omega), f2, if_pos (by omega)]; rfl
          · show 0 ≤ 99; omega
          · intro _; rfl
          · rw [if_pos (show rw6 a b 2 v3 0 0 2 = 2 from rfl)]; omega
        · rw [z2, bd_s, z3]
          dsimp only
          rw [if_pos rfl]
          exact Or.inr ⟨_, _, _, z, _, _, _, _, _, z1, rfl, rfl⟩
      · rw [z2, bd_s, z3, bd_s]
        dsimp only
        rw [if_pos rfl]
        unfold fX9_readsBranch_b125
        simp only [lit_nI]
        rw [if_true]
        exact Or.inr ⟨_, _, _, z, _, _, _, _, _, z1, rfl, rfl⟩
    · rw [z2, bd_s, z3]
      dsimp only
      rw [if_pos rfl]
      exact Or.inr ⟨_, _, _, z, _, _, _, _, _, z1, rfl, rfl⟩
  · -- none
    rw [a3, bd_s]
    dsimp only
    rw [if_pos rfl]
    unfold fX9_readsBranch_b22 fX9_readsBranch_b38
    simp only [lit_nI]
    rw [if_neg m1_nle, if_pos m1_lt0, if_neg (fun z => a2 (c99.1 z)), if_neg (fun z => a1 (c110.1 z))]
    by_cases y : tk = nI 116
    · have w := c116.1 y
      have : 2 ≤ tc g m := Classical.byContradiction (fun u => a4 ⟨w.1, w.2, by omega⟩)
      rw [if_pos y, gin_nI (by omega) (by omega), f_tables hD.tree0, bd_s, if_pos (by rw [n_le (by omega) (by omega)]; exact this)]
      exact Or.inr ⟨_, _, _, s j, _, _, _, _, _, sL (by omega), rfl, rfl⟩
    · rw [if_neg y]
      exact Or.inr ⟨_, _, _, s j, _, _, _, _, _, sL (by omega), rfl, rfl⟩
