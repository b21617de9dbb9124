/-! PURE PART, base: ints as naturals, steps of the pure words -/
theorem lit_nI (n : Nat) : (OfNat.ofNat n : Int32) = nI n := by cases n <;> rfl
theorem of_nI (n : Nat) : Int32.ofNat n = nI n := by cases n <;> rfl
theorem bnd_eq {α β : Type} (x : α) (k : α → Option β) : bnd x k = k x := Eq.trans rfl rfl
theorem bd_s {α β : Type} (a : α) (k : α → Option β) : bd (some a) k = k a := Eq.trans rfl rfl
theorem gin_nI {α : Type} {i N : Nat} {k : Option α} (h : i < N) (hN : N < 2 ^ 31) : gin (nI i) N k = k := gin_pos (vp_in_nI h hN)
theorem gz_0 {α : Type} {k : Option α} : gz (nI 0) k = k := if_pos (Or.inl rfl)
theorem gz_1 {α : Type} {k : Option α} : gz (nI 1) k = k := if_pos (Or.inr rfl)
theorem nI_T {n : Nat} (h : n < 2 ^ 31) : (nI n).toInt = (n : Int) := nI_toInt h
theorem mI_T {n : Nat} (h : n < 2 ^ 31) : (-nI n).toInt = -(n : Int) := sb_negT h
theorem lt_T {x y : Int32} : x < y ↔ x.toInt < y.toInt := Int32.lt_iff_toInt_lt
theorem le_T {x y : Int32} : x ≤ y ↔ x.toInt ≤ y.toInt := Int32.le_iff_toInt_le
theorem eq_T {x y : Int32} : x = y ↔ x.toInt = y.toInt := Int32.toInt_inj.symm
theorem n_lt {a b : Nat} (ha : a < 2 ^ 31) (hb : b < 2 ^ 31) : (nI a < nI b) ↔ a < b := nI_ltI ha hb
theorem n_le {a b : Nat} (ha : a < 2 ^ 31) (hb : b < 2 ^ 31) : (nI a ≤ nI b) ↔ a ≤ b := nI_leI ha hb
theorem n_eq {a b : Nat} (ha : a < 2 ^ 31) (hb : b < 2 ^ 31) : (nI a = nI b) ↔ a = b := nI_eq ha hb
theorem n_eqm {a b : Nat} (ha : a < 2 ^ 31) (h0 : 0 < b) (hb : b < 2 ^ 31) : (nI a = -nI b) ↔ False := by rw [eq_T, nI_T ha, mI_T hb]; simp only [iff_false, iff_true]; omega
theorem m_eqn {a b : Nat} (ha : a < 2 ^ 31) (h0 : 0 < b) (hb : b < 2 ^ 31) : (-nI b = nI a) ↔ False := by rw [eq_T, nI_T ha, mI_T hb]; simp only [iff_false, iff_true]; omega
theorem m_eqm {a b : Nat} (ha : a < 2 ^ 31) (hb : b < 2 ^ 31) : (-nI a = -nI b) ↔ a = b := by rw [eq_T, mI_T ha, mI_T hb]; omega
theorem n_ltm {a b : Nat} (ha : a < 2 ^ 31) (hb : b < 2 ^ 31) : (nI a < -nI b) ↔ False := by rw [lt_T, nI_T ha, mI_T hb]; simp only [iff_false, iff_true]; omega
theorem m_ltn {a b : Nat} (ha : a < 2 ^ 31) (h0 : 0 < b) (hb : b < 2 ^ 31) : (-nI b < nI a) ↔ True := by rw [lt_T, nI_T ha, mI_T hb]; simp only [iff_false, iff_true]; omega
theorem n_lem {a b : Nat} (ha : a < 2 ^ 31) (h0 : 0 < b) (hb : b < 2 ^ 31) : (nI a ≤ -nI b) ↔ False := by rw [le_T, nI_T ha, mI_T hb]; simp only [iff_false, iff_true]; omega
theorem m_len {a b : Nat} (ha : a < 2 ^ 31) (hb : b < 2 ^ 31) : (-nI b ≤ nI a) ↔ True := by rw [le_T, nI_T ha, mI_T hb]; simp only [iff_false, iff_true]; omega
theorem n_sub {a b : Nat} (h : b ≤ a) : nI a - nI b = nI (a - b) := pk_sub h
theorem n_add (a b : Nat) : nI a + nI b = nI (a + b) := nI_add a b
theorem n_mul (a b : Nat) : nI a * nI b = nI (a * b) := pk_mul a b
theorem n_rem {a d : Nat} (ha : a < 2 ^ 31) (h0 : 0 < d) (hd : d < 2 ^ 31) : jrem (nI a) (nI d) = nI (a % d) := pk_rem ha h0 hd
theorem n_div {a d : Nat} (ha : a < 2 ^ 31) (h0 : 0 < d) (hd : d < 2 ^ 31) : nI a / nI d = nI (a / d) := pk_div ha h0 hd
theorem n_cl {n : Nat} (h : n < 2 ^ 31) : (nI n).toNatClampNeg = n := nI_clamp h
/-- an int below 0, at or above a bound, or a natural below it -/
theorem x_cases (x : Int32) (m : Nat) (hm : m < 2 ^ 31) : x < nI 0 ∨ nI m ≤ x ∨ ∃ j : Nat, j < m ∧ x = nI j := pk_ix x hm
theorem neg_ff {x : Int32} (h : x < nI 0) {k : Nat} (hk : k < 2 ^ 31) : (x < nI k ↔ True) ∧ (x ≤ nI k ↔ True) ∧ (nI k < x ↔ False) ∧ (nI k ≤ x ↔ False) ∧ (x = nI k ↔ False) := by
  rw [lt_T, nI_T (by omega)] at h
  simp only [lt_T, le_T, eq_T, nI_T hk, iff_true, iff_false]
  omega
theorem big_ff {x : Int32} {m : Nat} (h : nI m ≤ x) (hm : m < 2 ^ 31) {k : Nat} (hk : k < m) : (x < nI k ↔ False) ∧ (x ≤ nI k ↔ False) ∧ (nI k < x ↔ True) ∧ (nI k ≤ x ↔ True) ∧ (x = nI k ↔ False) := by
  rw [le_T, nI_T hm] at h
  simp only [lt_T, le_T, eq_T, nI_T (show k < 2 ^ 31 by omega), iff_true, iff_false]
  omega
theorem big_fm {x : Int32} {m : Nat} (h : nI m ≤ x) (hm : m < 2 ^ 31) : (x < nI m ↔ False) ∧ (nI m ≤ x ↔ True) := by
  rw [le_T, nI_T hm] at h
  simp only [lt_T, le_T, nI_T hm, iff_true, iff_false]
  omega
theorem upd_s (f : Nat → Int32) (k : Nat) (x : Int32) : upd f k x k = x := pk_us
theorem upd_n {f : Nat → Int32} {k j : Nat} {x : Int32} (h : j ≠ k) : upd f k x j = f j := pk_un h
theorem upd_at (f : Nat → Int32) (k : Nat) (x : Int32) (j : Nat) : upd f k x j = if j = k then x else f j := rfl
theorem cpy_at (f g : Nat → Int32) (sp dp n j : Nat) : va_cpy f g sp dp n j = if dp ≤ j ∧ j < dp + n then f (sp + (j - dp)) else g j := rfl
theorem gcp_nI {α : Type} {sp dp n n0 n1 : Nat} {k : Option α} (h1 : sp + n ≤ n0) (h2 : dp + n ≤ n1) (h0 : n0 < 2 ^ 31) (h3 : n1 < 2 ^ 31) : gcp (nI sp) (nI dp) (nI n) n0 n1 k = k := by
  unfold gcp
  rw [if_neg]
  rw [n_cl (by omega), n_cl (by omega), n_cl (by omega)]
  intro h
  rcases h with h | h | h | h | h
  · exact absurd h (nI_pos (by omega))
  · exact absurd h (nI_pos (by omega))
  · exact absurd h (nI_pos (by omega))
  · omega
  · omega
