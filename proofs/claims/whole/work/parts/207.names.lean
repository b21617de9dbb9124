/-! names -/
theorem nI_or (a b : Nat) : nI a ||| nI b = nI (a ||| b) := by
  apply Int32.toBitVec_inj.1
  show BitVec.ofNat 32 a ||| BitVec.ofNat 32 b = BitVec.ofNat 32 (a ||| b)
  apply BitVec.eq_of_getLsbD_eq
  intro i hi
  simp [hi]
def nm (A B C E : Nat) : Nat := A * 4096 + B * 256 + C * 16 + E
theorem or_add {x y k : Nat} (h : y < 2 ^ k) : x * 2 ^ k ||| y = x * 2 ^ k + y := by
  rw [← Nat.shiftLeft_eq]
  exact (Nat.shiftLeft_add_eq_or_of_lt h x).symm
theorem f_nameOf {a b c d : Int32} {A B C E : Nat} (ha : a + nI 1 = nI A) (hb : b + nI 1 = nI B) (hc : c + nI 1 = nI C) (hd : d + nI 1 = nI E) (hA : A < 16) (hB : B < 16) (hC : C < 16) (hE : E < 16) : fX8_nameOf a b c d = some (nI (nm A B C E)) := by
  have e1 : nI A <<< ((12 : Int32) &&& 31) = nI (A * 2 ^ 12) := pk_shlN _ 12 (by decide +kernel) (by omega)
  have e2 : nI B <<< ((8 : Int32) &&& 31) = nI (B * 2 ^ 8) := pk_shlN _ 8 (by decide +kernel) (by omega)
  have e3 : nI C <<< ((4 : Int32) &&& 31) = nI (C * 2 ^ 4) := pk_shlN _ 4 (by decide +kernel) (by omega)
  show some _ = _
  rw [show a + 1 = nI A from ha, show b + 1 = nI B from hb, show c + 1 = nI C from hc, show d + 1 = nI E from hd, e1, e2, e3, nI_or, nI_or, nI_or]
  have o1 : A * 2 ^ 12 ||| B * 2 ^ 8 = (A * 2 ^ 4 + B) * 2 ^ 8 := by rw [or_add (by omega)]; omega
  have o2 : (A * 2 ^ 4 + B) * 2 ^ 8 ||| C * 2 ^ 4 = ((A * 2 ^ 4 + B) * 2 ^ 4 + C) * 2 ^ 4 := by rw [or_add (by omega)]; omega
  have o3 : ((A * 2 ^ 4 + B) * 2 ^ 4 + C) * 2 ^ 4 ||| E = nm A B C E := by rw [or_add (by omega)]; unfold nm; omega
  rw [o1, o2, o3]
/-- the i-th digit of a name's number -/
def dg (x i : Nat) : Nat := x / 2 ^ (12 - 4 * i) % 16
def sh (d : Nat) : Int32 := nI d - nI 1
theorem sh_T {d : Nat} (h : d < 2 ^ 30) : (sh d).toInt = (d : Int) - 1 := pk_sub_toInt h (by omega)
theorem sh_1 (d : Nat) : sh d + nI 1 = nI d := by
  unfold sh
  rw [Int32.sub_add_cancel]
theorem sh_pos {d : Nat} (h : 1 ≤ d) : sh d = nI (d - 1) := n_sub h
theorem sh_0 : sh 0 = -nI 1 := by decide +kernel
theorem f_numberOf {x i : Nat} (hx : x < 65536) (hi : i < 4) : fX8_numberOf (nI x) (nI i) = some (sh (dg x i)) := by
  have key : ∀ (s : Int32) (k : Nat), (s.toBitVec.smod 32).toNat = k → (nI x >>> s &&& (15 : Int32)) - 1 = sh (x / 2 ^ k % 16) := by
    intro s k hs
    have h1 := pk_shrN (n := x) (by omega) s k hs
    have h2 : x / 2 ^ k ≤ x := Nat.div_le_self _ _
    have h3 := pk_andN (n := x / 2 ^ k) (by omega) (m := 15) 4 (by decide +kernel)
    rw [h1, h3]
    rfl
  show some _ = _
  rcases (show i = 0 ∨ i = 1 ∨ i = 2 ∨ i = 3 by omega) with rfl | rfl | rfl | rfl
  · rw [key _ 12 (by decide +kernel)]; rfl
  · rw [key _ 8 (by decide +kernel)]; rfl
  · rw [key _ 4 (by decide +kernel)]; rfl
  · rw [key _ 0 (by decide +kernel)]; rfl
theorem nm_lt {A B C E : Nat} (hA : A < 16) (hB : B < 16) (hC : C < 16) (hE : E < 16) : nm A B C E < 65536 := by unfold nm; omega
theorem dg_nm {A B C E : Nat} (hA : A < 16) (hB : B < 16) (hC : C < 16) (hE : E < 16) : dg (nm A B C E) 0 = A ∧ dg (nm A B C E) 1 = B ∧ dg (nm A B C E) 2 = C ∧ dg (nm A B C E) 3 = E := by
  unfold dg nm
  refine ⟨?_, ?_, ?_, ?_⟩ <;> simp only [Nat.mul_zero, Nat.mul_one, Nat.reduceMul, Nat.reduceSub, Nat.reducePow] <;> omega
theorem sh_cases (x : Int32) : x < -nI 1 ∨ nI 9 < x ∨ ∃ d : Nat, d ≤ 10 ∧ x = sh d := by
  by_cases h1 : x < -nI 1
  · exact Or.inl h1
  · by_cases h2 : nI 9 < x
    · exact Or.inr (Or.inl h2)
    · refine Or.inr (Or.inr ⟨(x.toInt + 1).toNat, ?_, ?_⟩)
      · rw [lt_T, mI_T (by omega)] at h1
        rw [lt_T, nI_T (by omega)] at h2
        omega
      · rw [lt_T, mI_T (by omega)] at h1
        rw [lt_T, nI_T (by omega)] at h2
        rw [eq_T, sh_T (by omega)]
        omega
theorem sh_m1 {d : Nat} (h : d < 100) : (sh d = -nI 1) ↔ d = 0 := by rw [eq_T, sh_T (by omega), mI_T (by omega)]; omega
theorem sh_ltm {d : Nat} (h : d < 100) : (sh d < -nI 1) ↔ False := by rw [lt_T, sh_T (by omega), mI_T (by omega)]; simp only [iff_false]; omega
theorem sh_lt0 {d : Nat} (h : d < 100) : (sh d < nI 0) ↔ d = 0 := by rw [lt_T, sh_T (by omega), nI_T (by omega)]; omega
theorem sh_9 {d : Nat} (h : d < 100) : (nI 9 < sh d) ↔ 10 < d := by rw [lt_T, sh_T (by omega), nI_T (by omega)]; omega
theorem f_isNum_out {x : Int32} (h : x < -nI 1 ∨ nI 9 < x) : fX8_isNumberOrEnd x = some (nI 0) := by
  unfold fX8_isNumberOrEnd
  simp only [lit_nI]
  by_cases h1 : x < -nI 1
  · rw [if_pos h1]
  · rw [if_neg h1, if_pos (h.resolve_left h1)]
theorem f_isNum {d : Nat} (h : d ≤ 10) : fX8_isNumberOrEnd (sh d) = some (nI 1) := by
  unfold fX8_isNumberOrEnd
  simp only [lit_nI]
  rw [if_neg (by rw [sh_ltm (by omega)]; exact id), if_neg (by rw [sh_9 (by omega)]; omega)]
theorem f_may_out {x y : Int32} (h : y < -nI 1 ∨ nI 9 < y) : fX8_mayFollow x y = some (nI 0) := by
  unfold fX8_mayFollow
  simp only [lit_nI]
  rw [f_isNum_out h, bd_s, if_pos rfl]
theorem f_may {p q : Nat} (hp : p ≤ 10) (hq : q ≤ 10) : fX8_mayFollow (sh p) (sh q) = some (nI (if p = 0 ∧ q ≠ 0 then 0 else 1)) := by
  unfold fX8_mayFollow
  simp only [lit_nI]
  rw [f_isNum hq, bd_s, if_neg (by rw [n_eq (by omega) (by omega)]; omega)]
  by_cases h1 : p = 0
  · rw [if_pos ((sh_m1 (by omega)).mpr h1)]
    by_cases h2 : q = 0
    · rw [if_pos ((sh_m1 (by omega)).mpr h2), if_neg (by omega)]
    · rw [if_neg (fun z => h2 ((sh_m1 (by omega)).mp z)), if_pos ⟨h1, h2⟩]
  · rw [if_neg (fun z => h1 ((sh_m1 (by omega)).mp z)), if_neg (by omega)]
theorem g_win_out {x : Int32} (h : x < -nI 1 ∨ nI 9 < x) : fX9_within x (-nI 1) (nI 9) = some (nI 0) := by
  unfold fX9_within
  simp only [lit_nI]
  by_cases h1 : x < -nI 1
  · rw [if_pos h1]
  · rw [if_neg h1, if_pos (h.resolve_left h1)]
theorem g_win {d : Nat} (h : d ≤ 10) : fX9_within (sh d) (-nI 1) (nI 9) = some (nI 1) := by
  unfold fX9_within
  simp only [lit_nI]
  rw [if_neg (by rw [sh_ltm (by omega)]; exact id), if_neg (by rw [sh_9 (by omega)]; omega)]
theorem g_win0_out {x : Int32} (h : x < -nI 1 ∨ nI 9 < x) : fX9_within x (nI 0) (nI 9) = some (nI 0) := by
  unfold fX9_within
  simp only [lit_nI]
  by_cases h1 : x < nI 0
  · rw [if_pos h1]
  · rw [if_neg h1]
    rcases h with h | h
    · exfalso
      rw [lt_T, mI_T (by omega)] at h
      rw [lt_T, nI_T (by omega)] at h1
      omega
    · rw [if_pos h]
theorem g_win0 {d : Nat} (h : d ≤ 10) : fX9_within (sh d) (nI 0) (nI 9) = some (nI (if d = 0 then 0 else 1)) := by
  unfold fX9_within
  simp only [lit_nI]
  by_cases h1 : d = 0
  · rw [if_pos ((sh_lt0 (by omega)).mpr h1), if_pos h1]
  · rw [if_neg (fun z => h1 ((sh_lt0 (by omega)).mp z)), if_neg (by rw [sh_9 (by omega)]; omega), if_neg h1]
theorem isName_both (a b c d : Int32) : (fX8_isName a b c d = some (nI 0) ∧ fX9_isName a b c d = some (nI 0)) ∨ ∃ A B C E : Nat, 1 ≤ A ∧ A ≤ 10 ∧ B ≤ 10 ∧ C ≤ 10 ∧ E ≤ 10 ∧ a = sh A ∧ b = sh B ∧ c = sh C ∧ d = sh E ∧ fX8_isName a b c d = some (nI 1) ∧ fX9_isName a b c d = some (nI 1) := by
  have z10 : ¬ nI 1 = nI 0 := by rw [n_eq (by omega) (by omega)]; omega
  unfold fX8_isName fX9_isName fX9_isName_b56 fX9_isEnd
  simp only [lit_nI]
  have out : ∀ x : Int32, (x < -nI 1 ∨ nI 9 < x) ∨ ∃ d : Nat, d ≤ 10 ∧ x = sh d := fun x => by
    rcases sh_cases x with h | h | h
    · exact Or.inl (Or.inl h)
    · exact Or.inl (Or.inr h)
    · exact Or.inr h
  rcases out a with ha | ⟨A, hA, rfl⟩
  · left
    rw [f_isNum_out ha, g_win0_out ha]
    simp only [bd_s, if_true]
    exact ⟨by split <;> rfl, trivial⟩
  by_cases hA0 : A = 0
  · left
    rw [if_pos ((sh_m1 (by omega)).mpr hA0), g_win0 hA, if_pos hA0]
    simp only [bd_s, if_true, and_self]
  rw [if_neg (fun z => hA0 ((sh_m1 (by omega)).mp z)), f_isNum hA, g_win0 hA, if_neg hA0]
  simp only [bd_s, if_neg z10]
  rcases out b with hb | ⟨B, hB, rfl⟩
  · left
    rw [f_may_out hb, g_win_out hb]
    simp only [bd_s, if_true, and_self]
  rw [f_may hA hB, if_neg (by omega), g_win hB]
  simp only [bd_s, if_neg z10]
  rcases out c with hc | ⟨C, hC, rfl⟩
  · left
    rw [f_may_out hc, g_win_out hc]
    simp only [bd_s, if_true, and_self]
  rw [f_may hB hC, g_win hC]
  simp only [bd_s, if_neg z10]
  rcases out d with hd | ⟨E, hE, rfl⟩
  · left
    rw [f_may_out hd, g_win_out hd]
    simp only [bd_s, if_true]
    exact ⟨by split <;> rfl, trivial⟩
  rw [f_may hC hE, g_win hE]
  simp only [bd_s, if_neg z10, sh_m1 (show B < 100 by omega), sh_m1 (show C < 100 by omega), sh_m1 (show E < 100 by omega)]
  by_cases h1 : B = 0 ∧ C ≠ 0
  · left
    simp only [if_pos h1, if_pos h1.1, if_neg h1.2, bd_s, if_neg z10, if_true, and_self]
  · rw [if_neg h1]
    simp only [if_neg z10]
    by_cases h2 : C = 0 ∧ E ≠ 0
    · left
      simp only [if_pos h2, if_pos h2.1, if_neg h2.2, bd_s, if_neg z10, if_true, true_and]
      by_cases h3 : B = 0
      · simp only [if_pos h3, bd_s, if_neg z10, if_true]
      · simp only [if_neg h3, bd_s, if_true]
    · right
      refine ⟨A, B, C, E, by omega, hA, hB, hC, hE, rfl, rfl, rfl, rfl, ?_, ?_⟩
      · rw [if_neg h2, if_neg z10]
      · by_cases h3 : B = 0
        · have h4 : C = 0 := Nat.eq_zero_of_not_pos (fun z => h1 ⟨h3, by omega⟩)
          have h5 : E = 0 := Nat.eq_zero_of_not_pos (fun z => h2 ⟨h4, by omega⟩)
          simp only [if_pos h3, if_pos h4, if_pos h5, bd_s, if_neg z10]
        · by_cases h4 : C = 0
          · have h5 : E = 0 := Nat.eq_zero_of_not_pos (fun z => h2 ⟨h4, by omega⟩)
            simp only [if_neg h3, if_pos h4, if_pos h5, bd_s, if_neg z10, if_true]
          · simp only [if_neg h3, if_neg h4, bd_s, if_true]
/-- the reference's number of a name -/
def cdx (A B C E : Nat) : Nat := ((11 * (A - 1) + B) * 11 + C) * 11 + E
theorem g_codeOf {A B C E : Nat} (hA : 1 ≤ A) (hA9 : A ≤ 10) (hB : B ≤ 10) (hC : C ≤ 10) (hE : E ≤ 10) : fX9_codeOf (sh A) (sh B) (sh C) (sh E) = some (nI (cdx A B C E)) := by
  show some _ = _
  congr 1
  rw [show ((11 : Int32) * sh A + sh B + 1) = (nI 11 * sh A) + (sh B + nI 1) from Int32.add_assoc _ _ _, sh_1, sh_pos hA, n_mul, n_add]
  rw [show (nI (11 * (A - 1) + B) * (11 : Int32) + sh C + 1) = (nI (11 * (A - 1) + B) * nI 11) + (sh C + nI 1) from Int32.add_assoc _ _ _, sh_1, n_mul, n_add]
  rw [show (nI ((11 * (A - 1) + B) * 11 + C) * (11 : Int32) + sh E + 1) = (nI ((11 * (A - 1) + B) * 11 + C) * nI 11) + (sh E + nI 1) from Int32.add_assoc _ _ _, sh_1, n_mul, n_add]
  rfl
theorem nm_ord {A B C E A' B' C' E' : Nat} (h : 1 ≤ A ∧ A ≤ 10 ∧ B ≤ 10 ∧ C ≤ 10 ∧ E ≤ 10) (h' : 1 ≤ A' ∧ A' ≤ 10 ∧ B' ≤ 10 ∧ C' ≤ 10 ∧ E' ≤ 10) : cdx A B C E ≤ cdx A' B' C' E' ↔ nm A B C E ≤ nm A' B' C' E' := by
  unfold cdx nm
  rcases Nat.lt_trichotomy A A' with q | q | q
  · constructor <;> intro _ <;> omega
  · subst q
    rcases Nat.lt_trichotomy B B' with q | q | q
    · constructor <;> intro _ <;> omega
    · subst q
      rcases Nat.lt_trichotomy C C' with q | q | q
      · constructor <;> intro _ <;> omega
      · subst q
        constructor <;> intro _ <;> omega
      · constructor <;> intro _ <;> omega
    · constructor <;> intro _ <;> omega
  · constructor <;> intro _ <;> omega
