/-! the class cuts the text into tokens -/
theorem sk_ex (L : Nat) (c : Nat → Nat) : ∀ (n p : Nat), p ≤ L → L - p = n → ∃ q, Sk L c p q := by
  intro n
  induction n with
  | zero => intro p h1 h2; exact ⟨p, Nat.le_refl _, h1, fun i i1 i2 => absurd i2 (by omega), fun z => absurd z (by omega)⟩
  | succ n ih =>
    intro p h1 h2
    by_cases q : c p = 32
    · obtain ⟨q', s1, s2, s3, s4⟩ := ih (p + 1) (by omega) (by omega)
      refine ⟨q', by omega, s2, fun i i1 i2 => ?_, s4⟩
      by_cases z : i = p
      · rw [z]; exact q
      · exact s3 i (by omega) i2
    · exact ⟨p, Nat.le_refl _, h1, fun i i1 i2 => absurd i2 (by omega), fun _ => q⟩
theorem fg_ex (L : Nat) (c : Nat → Nat) : ∀ (n q : Nat), q < L → L - q = n → fig (c q) → ∃ e, Fg L c q e := by
  intro n
  induction n with
  | zero => intro q h1 h2; omega
  | succ n ih =>
    intro q h1 h2 h3
    by_cases z : q + 1 < L ∧ fig (c (q + 1))
    · obtain ⟨e, e1, e2, e3, e4⟩ := ih (q + 1) z.1 (by omega) z.2
      refine ⟨e, by omega, e2, fun i i1 i2 => ?_, e4⟩
      by_cases y : i = q
      · rw [y]; exact h3
      · exact e3 i (by omega) i2
    · refine ⟨q + 1, by omega, by omega, fun i i1 i2 => ?_, fun y w => z ⟨y, w⟩⟩
      have : i = q := by omega
      rw [this]; exact h3
noncomputable def skf (L : Nat) (c : Nat → Nat) (p : Nat) : Nat := @dite _ (∃ q, Sk L c p q) (Classical.propDecidable _) (fun h => Classical.choose h) (fun _ => 0)
noncomputable def fgf (L : Nat) (c : Nat → Nat) (q : Nat) : Nat := @dite _ (∃ e, Fg L c q e) (Classical.propDecidable _) (fun h => Classical.choose h) (fun _ => q + 1)
theorem skf_sk {L : Nat} {c : Nat → Nat} {p : Nat} (h : p ≤ L) : Sk L c p (skf L c p) := by
  have z := sk_ex L c _ p h rfl
  unfold skf
  rw [dif_pos z]
  exact Classical.choose_spec z
theorem fgf_fg {L : Nat} {c : Nat → Nat} {q : Nat} (h : q < L) (hf : fig (c q)) : Fg L c q (fgf L c q) := by
  have z := fg_ex L c _ q h rfl hf
  unfold fgf
  rw [dif_pos z]
  exact Classical.choose_spec z
theorem fgf_n {L : Nat} {c : Nat → Nat} {q : Nat} (hf : ¬ fig (c q)) : fgf L c q = q + 1 := by
  unfold fgf
  rw [dif_neg]
  rintro ⟨e, e1, e2, e3, e4⟩
  exact hf (e3 q (Nat.le_refl _) e1)
noncomputable def tke (L : Nat) (c : Nat → Nat) : Nat → Nat
  | 0 => 0
  | j + 1 => fgf L c (skf L c (tke L c j))
noncomputable def tks (L : Nat) (c : Nat → Nat) (j : Nat) : Nat := skf L c (tke L c j)
def TokAt (L : Nat) (c : Nat → Nat) (s e : Nat → Nat) (tok sta num : Nat → Int32) (j : Nat) : Prop :=
  s j < L ∧ sta j = nI (s j) ∧ ((fig (c (s j)) ∧ Fg L c (s j) (e (j + 1)) ∧ tok j = nI 256 ∧ num j = nI (nvc c (s j) (e (j + 1) - s j - 1))) ∨ (¬ fig (c (s j)) ∧ e (j + 1) = s j + 1 ∧ tok j = nI (c (s j))))
/-- K tokens lie behind place i, all are shut / one more is not -/
def Nin (L : Nat) (c : Nat → Nat) (K i : Nat) (tok sta num : Nat → Int32) : Prop :=
  K ≤ tke L c K ∧ tke L c K ≤ i ∧ (∀ x, tke L c K ≤ x → x < i → c x = 32) ∧ ∀ j, j < K → TokAt L c (tks L c) (tke L c) tok sta num j ∧ tke L c j ≤ L
def Inn (L : Nat) (c : Nat → Nat) (K i : Nat) (tok sta num : Nat → Int32) : Prop :=
  K ≤ tke L c K ∧ tks L c K < i ∧ tke L c K ≤ L ∧ (∀ x, tks L c K ≤ x → x < i → fig (c x)) ∧ tok K = nI 256 ∧ sta K = nI (tks L c K) ∧ num K = nI (nvc c (tks L c K) (i - tks L c K - 1)) ∧ ∀ j, j < K → TokAt L c (tks L c) (tke L c) tok sta num j ∧ tke L c j ≤ L
theorem TokAt.upd {L : Nat} {c : Nat → Nat} {s e : Nat → Nat} {tok sta num : Nat → Int32} {j : Nat} (h : TokAt L c s e tok sta num j) {tok' sta' num' : Nat → Int32} (h1 : tok' j = tok j) (h2 : sta' j = sta j) (h3 : num' j = num j) : TokAt L c s e tok' sta' num' j := by
  unfold TokAt
  rw [h1, h2, h3]
  exact h
theorem Inn.shut {L : Nat} {c : Nat → Nat} {K i : Nat} {tok sta num : Nat → Int32} (h : Inn L c K i tok sta num) (hi : i ≤ L) (hc : i < L → ¬ fig (c i)) : Nin L c (K + 1) i tok sta num := by
  obtain ⟨h1, h2, h3, h4, h5, h6, h7, h8⟩ := h
  have a : Sk L c (tke L c K) (tks L c K) := skf_sk h3
  have a1 := a.1
  have b : Fg L c (tks L c K) (tke L c (K + 1)) := fgf_fg (show tks L c K < L by omega) (h4 _ (Nat.le_refl _) h2)
  obtain ⟨b1, b2, b3, b4⟩ := b
  have e : tke L c (K + 1) = i := by
    rcases Nat.lt_trichotomy (tke L c (K + 1)) i with z | z | z
    · exact absurd (h4 _ (by omega) z) (b4 (by omega))
    · exact z
    · exact absurd (b3 i (by omega) z) (hc (by omega))
  refine ⟨by omega, by omega, fun x x1 x2 => absurd x2 (by omega), fun j hj => ?_⟩
  by_cases z : j = K
  · subst z
    exact ⟨⟨by omega, h6, Or.inl ⟨h4 _ (Nat.le_refl _) h2, ⟨b1, b2, b3, b4⟩, h5, by rw [h7, e]⟩⟩, h3⟩
  · exact h8 j (by omega)
theorem g_rew {L : Nat} {c : Nat → Nat} {T tx : Nat → Int32} (h : TxR L c T tx) : ∀ (n i : Nat), i ≤ L → L - i < n → ∀ (tok sta num : Nat → Int32),
    (∀ (K : Nat) (fl : Int32), Nin L c K i tok sta num → (i < L → fl = nI 0 ∨ ¬ fig (c i)) → ∃ K' tok' sta' num', TokR L c K' (tks L c) (tke L c) tok' sta' num' ∧ fX5_rewind_l14 (nI L) T n (nI K) (nI 0) tok sta num fl (nI i) = some (nI K', nI 0, tok', sta', num')) ∧
    (∀ (K : Nat), Inn L c K i tok sta num → ∃ K' tok' sta' num', TokR L c K' (tks L c) (tke L c) tok' sta' num' ∧ fX5_rewind_l14 (nI L) T n (nI (K + 1)) (nI 0) tok sta num (nI 1) (nI i) = some (nI K', nI 0, tok', sta', num')) := by
  have hL := h.1
  intro n
  induction n with
  | zero => intro i h1 h2; omega
  | succ n ih =>
    intro i hi hn tok sta num
    have z10 : ¬ nI 1 = nI 0 := by rw [n_eq (by omega) (by omega)]; omega
    have first : ∀ (K : Nat) (fl : Int32), Nin L c K i tok sta num → (i < L → fl = nI 0 ∨ ¬ fig (c i)) → ∃ K' tok' sta' num', TokR L c K' (tks L c) (tke L c) tok' sta' num' ∧ fX5_rewind_l14 (nI L) T (n + 1) (nI K) (nI 0) tok sta num fl (nI i) = some (nI K', nI 0, tok', sta', num') := by
      intro K fl ⟨a1, a2, a3, a4⟩ hfl
      rw [fX5_rewind_l14_s]
      unfold fX5_rewind_b14
      simp only [lit_nI]
      by_cases e : i = L
      · refine ⟨K, tok, sta, num, ?_, by rw [if_pos (by rw [n_le (by omega) (by omega)]; omega)]⟩
        have es : tks L c K = L := by
          have q := skf_sk (c := c) (show tke L c K ≤ L by omega)
          by_cases z : skf L c (tke L c K) < L
          · exact absurd (a3 _ q.1 (by omega)) (q.2.2.2 z)
          · have := q.2.1
            show skf L c (tke L c K) = L
            omega
        refine ⟨by omega, rfl, es, fun j hj => ?_, fun j hj => (a4 j hj).1⟩
        by_cases z : j = K
        · rw [z]; exact skf_sk (by omega)
        · exact skf_sk (a4 j (by omega)).2
      · have hc := h.2 i (by omega)
        have hfl := hfl (by omega)
        have hsk : Sk L c (tke L c K) (tks L c K) := skf_sk (by omega)
        rw [if_neg (by rw [n_le (by omega) (by omega)]; omega), if_neg (by rw [n_le (by omega) (by omega)]; omega), gin_nI (by omega) (by omega), n_cl (by omega), bnd_eq, hc.1]
        have skK : c i ≠ 32 → tks L c K = i := by
          intro q
          rcases Nat.lt_trichotomy (tks L c K) i with y | y | y
          · exact absurd (a3 _ hsk.1 y) (hsk.2.2.2 (by omega))
          · exact y
          · exact absurd (hsk.2.2.1 i a2 y) q
        have low : ¬ fig (c i) → ∃ K' tok' sta' num', TokR L c K' (tks L c) (tke L c) tok' sta' num' ∧ fX5_rewind_b53 (nI L) T (fX5_rewind_l14 (nI L) T n) (nI K) (nI 0) tok sta num fl (nI i) (nI (c i)) (nI 0) = some (nI K', nI 0, tok', sta', num') := by
          intro hf
          unfold fX5_rewind_b53 fX5_rewind_b75
          simp only [lit_nI]
          rw [if_true, if_true]
          by_cases q : c i = 32
          · rw [if_pos (by rw [q]), bnd_eq, n_add]
            refine (ih (i + 1) (by omega) (by omega) tok sta num).1 K (nI 0) ⟨a1, by omega, fun x x1 x2 => ?_, a4⟩ (fun _ => Or.inl rfl)
            by_cases z : x = i
            · rw [z]; exact q
            · exact a3 x x1 (by omega)
          · rw [if_neg (by rw [n_eq (by omega) (by omega)]; exact q)]
            have es := skK q
            have ee : tke L c (K + 1) = i + 1 := by
              show fgf L c (tks L c K) = i + 1
              rw [es, fgf_n hf]
            unfold fX5_addToken
            simp only [lit_nI]
            rw [if_neg (nn0 (by omega)), if_pos (by rw [n_lt (by omega) (by omega)]; omega), gin_nI (by omega) (by omega), gin_nI (by omega) (by omega), gin_nI (by omega) (by omega), bnd_eq, bd_s, bnd_eq, n_add, n_add, n_cl (by omega)]
            dsimp only
            refine (ih (i + 1) (by omega) (by omega) _ _ _).1 (K + 1) (nI 0) ⟨by omega, by omega, fun x x1 x2 => absurd x2 (by omega), fun j hj => ?_⟩ (fun _ => Or.inl rfl)
            by_cases z : j = K
            · subst z
              refine ⟨⟨by omega, by rw [upd_s, es], Or.inr ⟨by rw [es]; exact hf, by rw [ee, es], by rw [upd_s, es]⟩⟩, by omega⟩
            · obtain ⟨w1, w2⟩ := a4 j (by omega)
              exact ⟨w1.upd (upd_n z) (upd_n z) (upd_n z), w2⟩
        by_cases q1 : c i < 48
        · rw [if_pos (by rw [n_lt (by omega) (by omega)]; exact q1)]
          exact low (fun z => by unfold fig at z; omega)
        · rw [if_neg (by rw [n_lt (by omega) (by omega)]; exact q1)]
          by_cases q2 : 57 < c i
          · rw [if_pos (by rw [n_lt (by omega) (by omega)]; exact q2)]
            exact low (fun z => by unfold fig at z; omega)
          · rw [if_neg (by rw [n_lt (by omega) (by omega)]; exact q2)]
            have hf : fig (c i) := ⟨by omega, by omega⟩
            have es := skK (by omega)
            have hfl : fl = nI 0 := hfl.resolve_right (fun z => z hf)
            unfold fX5_rewind_b53 fX5_rewind_b75
            simp only [lit_nI]
            rw [if_neg z10, if_pos hfl, if_neg z10]
            unfold fX5_addToken
            simp only [lit_nI]
            rw [if_neg (nn0 (by omega)), if_pos (by rw [n_lt (by omega) (by omega)]; omega), gin_nI (by omega) (by omega), gin_nI (by omega) (by omega), gin_nI (by omega) (by omega), bnd_eq, bd_s, bnd_eq, n_add, n_add, n_cl (by omega), n_sub (by omega)]
            dsimp only
            refine (ih (i + 1) (by omega) (by omega) _ _ _).2 K ⟨a1, by omega, by omega, fun x x1 x2 => ?_, upd_s _ _ _, by rw [upd_s, es], ?_, fun j hj => ?_⟩
            · have : x = i := by omega
              rw [this]; exact hf
            · rw [upd_s, es, show i + 1 - i - 1 = 0 by omega]
              rfl
            · obtain ⟨w1, w2⟩ := a4 j hj
              exact ⟨w1.upd (upd_n (by omega)) (upd_n (by omega)) (upd_n (by omega)), w2⟩
    refine ⟨first, ?_⟩
    intro K hK
    by_cases hf : i < L ∧ fig (c i)
    · obtain ⟨hi, hf⟩ := hf
      obtain ⟨a1, a2, a3, a4, a5, a6, a7, a8⟩ := hK
      have hc := h.2 i (by omega)
      have hsk := skf_sk (c := c) a3
      have hsk1 : tke L c K ≤ tks L c K := hsk.1
      have hf' := hf
      unfold fig at hf'
      have hf0 := a4 _ (Nat.le_refl _) a2
      have hle := nvc_le c (tks L c K) (i - tks L c K - 1) hf0
      rw [fX5_rewind_l14_s]
      unfold fX5_rewind_b14
      simp only [lit_nI]
      rw [if_neg (by rw [n_le (by omega) (by omega)]; omega), if_neg (by rw [n_le (by omega) (by omega)]; omega), gin_nI (by omega) (by omega), n_cl (by omega), bnd_eq, hc.1, if_neg (by rw [n_lt (by omega) (by omega)]; omega), if_neg (by rw [n_lt (by omega) (by omega)]; omega)]
      unfold fX5_rewind_b53
      simp only [lit_nI]
      rw [if_neg z10, if_neg z10]
      have eF : fX5_addFigure (nI (K + 1)) (nI (c i) - nI 48) num = some (upd num K (nI (nvc c (tks L c K) (i + 1 - tks L c K - 1)))) := by
        unfold fX5_addFigure
        simp only [lit_nI]
        rw [n_sub (by omega), n_sub (by omega), show K + 1 - 1 = K by omega, bnd_eq, if_neg (nn0 (by omega)), if_pos (by rw [n_lt (by omega) (by omega)]; omega), gin_nI (by omega) (by omega), bnd_eq, n_cl (by omega), a7]
        have en : nvc c (tks L c K) (i + 1 - tks L c K - 1) = if nvc c (tks L c K) (i - tks L c K - 1) = 0 then 100 else min 100 (10 * nvc c (tks L c K) (i - tks L c K - 1) + (c i - 48)) := by
          rw [show i + 1 - tks L c K - 1 = (i - tks L c K - 1) + 1 by omega]
          have : tks L c K + (i - tks L c K - 1) + 1 = i := by omega
          rw [nvc, this]
        unfold fX5_addFigure_b51
        by_cases z : nvc c (tks L c K) (i - tks L c K - 1) = 0
        · rw [if_pos (by rw [z]), gin_nI (by omega) (by omega), n_cl (by omega), en, if_pos z]
        · rw [if_neg (by rw [n_eq (by omega) (by omega)]; exact z), gin_nI (by omega) (by omega), n_cl (by omega), en, if_neg z, n_mul, n_add]
          unfold jmin
          by_cases y : 10 * nvc c (tks L c K) (i - tks L c K - 1) + (c i - 48) < 100
          · rw [if_pos (by rw [n_lt (by omega) (by omega)]; exact y), Nat.min_eq_right (by omega)]
          · rw [if_neg (by rw [n_lt (by omega) (by omega)]; exact y), Nat.min_eq_left (by omega)]
      rw [eF, bd_s, bnd_eq, n_add]
      refine (ih (i + 1) (by omega) (by omega) _ _ _).2 K ⟨a1, by omega, a3, fun x x1 x2 => ?_, a5, a6, upd_s _ _ _, fun j hj => ?_⟩
      · by_cases z : x = i
        · rw [z]; exact hf
        · exact a4 x x1 (by omega)
      · obtain ⟨w1, w2⟩ := a8 j hj
        exact ⟨w1.upd rfl rfl (upd_n (by omega)), w2⟩
    · have hf2 : i < L → ¬ fig (c i) := fun z y => hf ⟨z, y⟩
      exact first (K + 1) (nI 1) (hK.shut hi hf2) (fun z => Or.inr (hf2 z))
theorem g_rewind {L : Nat} {c : Nat → Nat} {T tx : Nat → Int32} (h : TxR L c T tx) (sz at' : Int32) (tok sta num : Nat → Int32) : ∃ K s e tok' sta' num', TokR L c K s e tok' sta' num' ∧ fX5_rewind (nI L) T sz at' tok sta num = some (nI K, nI 0, tok', sta', num') := by
  unfold fX5_rewind
  simp only [lit_nI]
  obtain ⟨K', t1, t2, t3, h1, h2⟩ := (g_rew h 1000 0 (by omega) (by have := h.1; omega) tok sta num).1 0 (nI 0) ⟨by omega, Nat.le_refl _, fun x x1 x2 => absurd x2 (by omega), fun j hj => absurd hj (by omega)⟩ (fun _ => Or.inl rfl)
  exact ⟨K', _, _, t1, t2, t3, h1, h2⟩
