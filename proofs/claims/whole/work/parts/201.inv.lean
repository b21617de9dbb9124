/-! what a run keeps between the class and the reference -/
def TextR (L : Int32) (T : Nat → Int32) (le : Int32) (tx : Nat → Int32) : Prop := ∃ n : Nat, n ≤ 160 ∧ L = nI n ∧ le = nI n ∧ ∀ i, i < n → T i = tx i ∧ ∃ v : Nat, v < 256 ∧ tx i = nI v
/-- how many of the first n branches are tables; g: a branch's numbers a, b, what it is, two more -/
def tc (g : Nat → Nat → Nat) : Nat → Nat
  | 0 => 0
  | n + 1 => tc g n + if g n 2 = 2 then 1 else 0
def TreeR (B : Nat) (g : Nat → Nat → Nat) (ts : Int32) (td : Nat → Int32) (bm : Int32) (br : Nat → Int32) : Prop :=
  B ≤ 8 ∧ ts = nI B ∧ bm = nI B ∧ tc g B ≤ 2 ∧ (∀ i, i < B → ∀ f, f < 5 → br (5 * i + f) = nI (g i f)) ∧
  (∀ i, i < B → 1 ≤ g i 0 ∧ g i 0 ≤ 9 ∧ 1 ≤ g i 1 ∧ g i 1 ≤ 9 ∧ g i 2 ≤ 2 ∧ g i 3 ≤ 99 ∧ g i 4 ≤ 99 ∧ (g i 2 = 2 → 1 ≤ g i 3 ∧ g i 3 ≤ 3)) ∧
  (∀ i, i < B → td (7 * i) = nI (g i 2) ∧ td (7 * i + 1) = nI ((g i 0 + 1) * 4096 + (g i 1 + 1) * 256) ∧ (g i 2 = 0 → td (7 * i + 4) = nI (g i 3) ∧ td (7 * i + 5) = nI (g i 4)) ∧ (g i 2 = 1 → td (7 * i + 2) = nI (g i 3)) ∧ (g i 2 = 2 → td (7 * i + 3) = nI (g i 3))) ∧
  (∀ i j, i < j → j < B → 10 * g i 0 + g i 1 < 10 * g j 0 + g j 1)
/-- a cell other than the status: of the class, of the reference -/
def CellR (s d m : Int32) : Prop := (s = nI 0 ∧ d = nI 0) ∨ (s ≠ nI 0 ∧ d = nI 0 ∧ m < nI 0) ∨ (s ≠ nI 0 ∧ d = m + nI 1 ∧ nI 0 ≤ m)
theorem up_ne {m : Int32} (h : nI 0 ≤ m) : m + nI 1 ≠ nI 0 := by
  intro z
  have e : m = nI 0 - nI 1 := by rw [← z, Int32.add_sub_cancel]
  rw [e] at h
  exact absurd h (by decide +kernel)
def NowR (T : Nat) (D M : Nat → Int32) : Prop :=
  (∃ t : Nat, t ≤ 999 ∧ M 121 = nI t) ∧ D 0 = M 121 ∧ D 1 = M 122 ∧ D 2 = M 123 ∧ D 3 = M 80 ∧ (∀ i, i < 8 → D (4 + i) = M i) ∧
  (∀ k, k < 18 → D (12 + 4 * k) = M (8 + 4 * k) ∧ (∃ s : Nat, s ≤ 3 ∧ M (8 + 4 * k) = nI s) ∧ (9 * T ≤ k → M (8 + 4 * k) = nI 0) ∧ ∀ c, 1 ≤ c → c ≤ 3 → CellR (M (8 + 4 * k)) (D (12 + 4 * k + c)) (M (8 + 4 * k + c))) ∧
  ∃ w : Nat, w ≤ 8 ∧ M 80 = nI w ∧ (∀ j, j < 5 * w → D (84 + j) = M (81 + j)) ∧ ∀ i, i < w → (∃ a : Nat, 1 ≤ a ∧ a ≤ 3 ∧ M (81 + 5 * i + 3) = nI a) ∧ ∃ a : Nat, 1 ≤ a ∧ a ≤ 3 ∧ M (81 + 5 * i + 4) = nI a
def slc (f : Nat → Int32) (o : Nat) : Nat → Int32 := fun i => f (o + i)
def PastR (T : Nat) (pn pk : Int32) (pd pt past : Nat → Int32) (un : Int32) : Prop :=
  ∃ w U : Nat, w < 6 ∧ U ≤ 6 ∧ pn = nI w ∧ pk = nI U ∧ un = nI U ∧ ∀ j, j < U → pt ((w + 6 - j) % 6) = nI 1 ∧ NowR T (slc pd (124 * ((w + 6 - j) % 6))) (slc past (124 * (U - 1 - j)))
def ImgR (T : Nat) (id it im ik : Nat → Int32) : Prop :=
  ∀ i, i < 2 → (it i = ik i) ∧ (ik i = nI 0 ∨ (ik i = nI 1 ∧ NowR T (slc id (124 * i)) (slc im (124 * i))))
def Inv : RelT := fun L T ts td nd pn pk pd pt id it bm br now past un im ik tx le =>
  TextR L T le tx ∧ ∃ (B : Nat) (g : Nat → Nat → Nat), TreeR B g ts td bm br ∧ NowR (tc g B) nd now ∧ PastR (tc g B) pn pk pd pt past un ∧ ImgR (tc g B) id it im ik
/-- only the first 124 numbers count -/
theorem NowR.congr {T : Nat} {D M D' M' : Nat → Int32} (h : NowR T D M) (hD : ∀ i, i < 124 → D' i = D i) (hM : ∀ i, i < 124 → M' i = M i) : NowR T D' M' := by
  obtain ⟨⟨t, ht, h1⟩, h2, h3, h4, h5, h6, h7, w, hw, h8, h9, h10⟩ := h
  refine ⟨⟨t, ht, by rw [hM _ (by omega)]; exact h1⟩, by rw [hD _ (by omega), hM _ (by omega)]; exact h2, by rw [hD _ (by omega), hM _ (by omega)]; exact h3, by rw [hD _ (by omega), hM _ (by omega)]; exact h4, by rw [hD _ (by omega), hM _ (by omega)]; exact h5, fun i hi => by rw [hD _ (by omega), hM _ (by omega)]; exact h6 i hi, fun k hk => ?_, w, hw, by rw [hM _ (by omega)]; exact h8, fun j hj => by rw [hD _ (by omega), hM _ (by omega)]; exact h9 j hj, fun i hi => ?_⟩
  · obtain ⟨a1, a2, a3, a4⟩ := h7 k hk
    refine ⟨by rw [hD _ (by omega), hM _ (by omega)]; exact a1, by rw [hM _ (by omega)]; exact a2, by rw [hM _ (by omega)]; exact a3, fun c c1 c2 => by rw [hD _ (by omega), hM _ (by omega), hM _ (by omega)]; exact a4 c c1 c2⟩
  · rw [hM _ (by omega), hM _ (by omega)]
    exact h10 i hi
theorem s_type : S_type Inv := by
  intro ctext_size ctext_at ctext_length ctext_token ctext_start ctext_number ctext_letters ctext_tokens ctext_starts ctext_numbers ctree_size ctree_data ctree_fresh cdraft_size cdraft_data cdraft_fresh cwanted_size cwanted_names cwanted_values cworker_makers cnow_data ctrial_data clisting_size clisting_names clisting_values clisting_kinds cpast_newest cpast_known cpast_states_data cpast_states_taken cimages_data cimages_taken mbranchMany mundos mletters mleaves mat mmark mnewMany mnewTables mitems mbranch mnow maside mpast mimages misKept mtext mnames mvalues mkinds mfresh mitem mmaker a1 hI
  obtain ⟨⟨n, hn, rfl, rfl, ht⟩, hr⟩ := hI
  unfold fX8_type fX9_type fX9_within fX5_append
  simp only [lit_nI]
  rcases x_cases a1 256 (by omega) with h | h | ⟨j, hj, rfl⟩
  · refine ⟨(-nI 1, nI n, ctext_letters), (-nI 1, nI n, mtext), ?_, ?_, rfl, ⟨n, hn, rfl, rfl, ht⟩, hr⟩
    · rw [if_pos h]
    · rw [if_pos h]; rfl
  · have q := big_ff h (by omega) (k := 255) (by omega)
    have q0 := big_ff h (by omega) (k := 0) (by omega)
    refine ⟨(-nI 1, nI n, ctext_letters), (-nI 1, nI n, mtext), ?_, ?_, rfl, ⟨n, hn, rfl, rfl, ht⟩, hr⟩
    · simp only [q.2.1, q0.1, if_false]
    · simp only [q0.1, q.2.2.1, if_false, if_true, bd_s]
  · by_cases h160 : n = 160
    · subst h160
      refine ⟨(-nI 3, nI 160, ctext_letters), (-nI 3, nI 160, mtext), ?_, ?_, rfl, ⟨160, hn, rfl, rfl, ht⟩, hr⟩
      · simp (disch := omega) only [lit_nI, of_nI, bnd_eq, bd_s, gin_nI, gz_0, gz_1, gcp_nI, n_lt, n_le, n_eq, n_eqm, m_eqn, m_eqm, n_ltm, m_ltn, n_lem, m_len, n_add, n_sub, n_mul, n_rem, n_div, n_cl, if_true, if_false, if_pos, if_neg, Nat.reduceAdd, Nat.reduceSub, Nat.reduceMul]
      · simp (disch := omega) only [lit_nI, of_nI, bnd_eq, bd_s, gin_nI, gz_0, gz_1, gcp_nI, n_lt, n_le, n_eq, n_eqm, m_eqn, m_eqm, n_ltm, m_ltn, n_lem, m_len, n_add, n_sub, n_mul, n_rem, n_div, n_cl, if_true, if_false, if_pos, if_neg, Nat.reduceAdd, Nat.reduceSub, Nat.reduceMul]
    · refine ⟨(nI (n + 1), nI (n + 1), upd ctext_letters n (nI j)), (nI (n + 1), nI (n + 1), upd mtext n (nI j)), ?_, ?_, rfl, ⟨n + 1, by omega, rfl, rfl, fun i hi => ?_⟩, hr⟩
      · simp (disch := omega) only [lit_nI, of_nI, bnd_eq, bd_s, gin_nI, gz_0, gz_1, gcp_nI, n_lt, n_le, n_eq, n_eqm, m_eqn, m_eqm, n_ltm, m_ltn, n_lem, m_len, n_add, n_sub, n_mul, n_rem, n_div, n_cl, if_true, if_false, if_pos, if_neg, Nat.reduceAdd, Nat.reduceSub, Nat.reduceMul]
      · simp (disch := omega) only [lit_nI, of_nI, bnd_eq, bd_s, gin_nI, gz_0, gz_1, gcp_nI, n_lt, n_le, n_eq, n_eqm, m_eqn, m_eqm, n_ltm, m_ltn, n_lem, m_len, n_add, n_sub, n_mul, n_rem, n_div, n_cl, if_true, if_false, if_pos, if_neg, Nat.reduceAdd, Nat.reduceSub, Nat.reduceMul]
      · dsimp only
        by_cases e : i = n
        · subst e
          exact ⟨by rw [upd_s, upd_s], j, by omega, upd_s _ _ _⟩
        · rw [upd_n e, upd_n e]
          exact ht i (by omega)
theorem s_clear : S_clear Inv := by
  intro ctext_size ctext_at ctext_length ctext_token ctext_start ctext_number ctext_letters ctext_tokens ctext_starts ctext_numbers ctree_size ctree_data ctree_fresh cdraft_size cdraft_data cdraft_fresh cwanted_size cwanted_names cwanted_values cworker_makers cnow_data ctrial_data clisting_size clisting_names clisting_values clisting_kinds cpast_newest cpast_known cpast_states_data cpast_states_taken cimages_data cimages_taken mbranchMany mundos mletters mleaves mat mmark mnewMany mnewTables mitems mbranch mnow maside mpast mimages misKept mtext mnames mvalues mkinds mfresh mitem mmaker hI
  obtain ⟨⟨n, hn, rfl, rfl, ht⟩, hr⟩ := hI
  exact ⟨(nI n, nI 0), (nI n, nI 0), rfl, rfl, rfl, ⟨0, by omega, rfl, rfl, fun i hi => absurd hi (by omega)⟩, hr⟩
