/-! branches, by both -/
theorem g_b17 {m : Nat} (hm : m ≤ 8) (tx : Nat → Int32) (bm un le at' mk nt : Int32) (br ik fr : Nat → Int32) : ∀ (n k : Nat) (M : Nat → Int32), k ≤ 124 → 124 < k + n → (∀ p, p < k → M p = nI 0) → ∃ M', fX9_branches_l17 tx n bm un le at' mk (nI m) nt br M ik fr (nI k) = fX9_branches_l38 tx 1000 bm un le at' mk (nI m) nt br M' ik fr (nI 0) ∧ ∀ p, p < 124 → M' p = nI 0 := by
  intro n
  induction n with
  | zero => intro k M h1 h2; omega
  | succ n ih =>
    intro k M h1 h2 h3
    rw [fX9_branches_l17_s]
    unfold fX9_branches_b17
    simp only [lit_nI]
    by_cases y : k = 124
    · exact ⟨M, by rw [if_pos (by rw [n_le (by omega) (by omega)]; omega)], fun p hp => h3 p (by omega)⟩
    · rw [if_neg (by rw [n_le (by omega) (by omega)]; omega), gin_nI (by omega) (by omega), bnd_eq, n_add, n_cl (by omega)]
      exact ih (k + 1) _ (by omega) (by omega) (fun p hp => by
        by_cases z : p = k
        · rw [z, upd_s]
        · rw [upd_n z]; exact h3 p (by omega))
theorem g_b54 {m : Nat} {g q : Nat → Nat → Nat} {data fr : Nat → Int32} (h : DR m g q data fr) {k i : Nat} (hk : k < m) (hi : i < m) (hq : ∀ f, f < 6 → q i f = g k f) (tx : Nat → Int32) (k38 : Int32 → Int32 → Int32 → Int32 → Int32 → Int32 → Int32 → (Nat → Int32) → (Nat → Int32) → (Nat → Int32) → (Nat → Int32) → Int32 → Option (Int32 × Int32 × Int32 × Int32 × Int32 × Int32 × Int32 × Int32 × (Nat → Int32) × (Nat → Int32) × (Nat → Int32) × (Nat → Int32))) (bm un le at' mk nt : Int32) (M ik : Nat → Int32) : ∀ (n f : Nat) (br : Nat → Int32), f ≤ 5 → 5 < f + n → ∃ br', fX9_branches_l54 tx k38 n bm un le at' mk (nI m) nt br M ik fr (nI k) (nI i) (nI f) = k38 bm un le at' mk (nI m) nt br' (upd M k (nI (g k 5))) ik fr (nI (k + 1)) ∧ ∀ p, br' p = if 5 * k + f ≤ p ∧ p < 5 * k + 5 then nI (g k (p - 5 * k)) else br p := by
  obtain ⟨h1, h2, h3, h4, h5, h6, h7, h8⟩ := h
  have hb := (h3 k hk).1
  have h05 := (h3 k hk).2.2.2.2
  have frq : ∀ f, f < 6 → fr (6 * i + f) = nI (g k f) := fun f hf => by rw [h5 i hi f hf, hq f hf]
  intro n
  induction n with
  | zero => intro f br f1 f2; omega
  | succ n ih =>
    intro f br f1 f2
    rw [fX9_branches_l54_s]
    unfold fX9_branches_b54 fX9_branches_b120
    simp only [lit_nI]
    by_cases y : f = 5
    · rw [if_pos (by rw [n_le (by omega) (by omega)]; omega), n_mul]
      simp (disch := omega) only [n_add, gin_nI, n_cl, bnd_eq]
      rw [frq 2 (by omega), frq 5 (by omega)]
      refine ⟨br, ?_, fun p => by rw [if_neg (by omega)]⟩
      by_cases z : g k 2 = 0
      · rw [if_pos (by rw [z])]
      · rw [if_neg (by rw [n_eq (by omega) (by omega)]; exact z), h05 z]
    · rw [if_neg (by rw [n_le (by omega) (by omega)]; omega), n_mul, n_add, gin_nI (by omega) (by omega), n_mul, n_add, gin_nI (by omega) (by omega), bnd_eq, n_add, n_cl (by omega), n_cl (by omega), frq f (by omega)]
      obtain ⟨br', b1, b2⟩ := ih (f + 1) (upd br (5 * k + f) (nI (g k f))) (by omega) (by omega)
      refine ⟨br', b1, fun p => ?_⟩
      rw [b2 p]
      by_cases w : 5 * k + (f + 1) ≤ p ∧ p < 5 * k + 5
      · rw [if_pos w, if_pos (by omega)]
      · rw [if_neg w]
        by_cases v : p = 5 * k + f
        · rw [v, upd_s, if_pos (by omega), show 5 * k + f - 5 * k = f by omega]
        · rw [upd_n v, if_neg (by omega)]
theorem g_b38 {m : Nat} {g q : Nat → Nat → Nat} {data fr : Nat → Int32} (h : DR m g q data fr) (tx : Nat → Int32) (bm un le at' mk nt : Int32) (ik : Nat → Int32) : ∀ (n k : Nat) (br M : Nat → Int32), k ≤ m → m < k + n → (∀ i, i < k → ∀ f, f < 5 → br (5 * i + f) = nI (g i f)) → (∀ p, p < 124 → M p = if p < k then nI (g p 5) else nI 0) → ∃ br' M', fX9_branches_l38 tx n bm un le at' mk (nI m) nt br M ik fr (nI k) = some (nI m, nI m, nI 0, nI 0, at', mk, nI m, nt, br', M', upd (upd ik 0 (nI 0)) 1 (nI 0), fr) ∧ (∀ i, i < m → ∀ f, f < 5 → br' (5 * i + f) = nI (g i f)) ∧ (∀ p, p < 124 → M' p = if p < m then nI (g p 5) else nI 0) := by
  intro n
  induction n with
  | zero => intro k br M h1 h2; omega
  | succ n ih =>
    intro k br M h1 h2 h3 h4
    have hm := h.1
    rw [fX9_branches_l38_s]
    unfold fX9_branches_b38
    simp only [lit_nI]
    by_cases y : k = m
    · rw [if_pos (by rw [n_le (by omega) (by omega)]; omega), gin_nI (by omega) (by omega), gin_nI (by omega) (by omega), n_cl (by omega), n_cl (by omega)]
      exact ⟨br, M, rfl, y ▸ h3, y ▸ h4⟩
    · obtain ⟨i, i1, i2, i3⟩ := g_freshAt h (show k < m by omega)
      obtain ⟨br', b1, b2⟩ := g_b54 h (show k < m by omega) i1 i3 tx (fX9_branches_l38 tx n) bm un le at' mk nt M ik 1000 0 br (by omega) (by omega)
      rw [if_neg (by rw [n_le (by omega) (by omega)]; omega), i2, bd_s, b1]
      refine ih (k + 1) br' _ (by omega) (by omega) (fun i hi f hf => ?_) (fun p hp => ?_)
      · rw [b2]
        by_cases z : i = k
        · rw [z, if_pos (by omega), show 5 * k + f - 5 * k = f by omega]
        · rw [if_neg (by omega)]
          exact h3 i (by omega) f hf
      · by_cases z : p = k
        · rw [z, upd_s, if_pos (by omega)]
        · rw [upd_n z, h4 p hp]
          by_cases w : p < k
          · rw [if_pos w, if_pos (by omega)]
          · rw [if_neg w, if_neg (by omega)]
theorem f_forget (t : Nat → Int32) : fX3_forget 248 2 t = some (upd (upd t 0 (nI 0)) 1 (nI 0)) := by
  have st : ∀ (n i : Nat) (t : Nat → Int32), i < 2 → fX3_forget_l2 248 2 (n + 1) t (nI i) = fX3_forget_l2 248 2 n (upd t i (nI 0)) (nI (i + 1)) := by
    intro n i t hi
    rw [fX3_forget_l2_s]
    unfold fX3_forget_b2
    simp only [lit_nI, of_nI]
    rw [if_neg (by rw [n_le (by omega) (by omega)]; omega), gin_nI (by omega) (by omega), bnd_eq, n_add, n_cl (by omega)]
  have fin : ∀ (n : Nat) (t : Nat → Int32), fX3_forget_l2 248 2 (n + 1) t (nI 2) = some t := by
    intro n t
    rw [fX3_forget_l2_s]
    unfold fX3_forget_b2
    simp only [lit_nI, of_nI]
    rw [if_pos (by rw [n_le (by omega) (by omega)]; omega)]
  unfold fX3_forget
  simp only [lit_nI]
  show fX3_forget_l2 248 2 (997 + 1 + 1 + 1) _ _ = _
  rw [st _ 0 _ (by omega), st _ 1 _ (by omega), fin]
theorem DR_0 (data fr : Nat → Int32) (g q : Nat → Nat → Nat) : DR 0 g q data fr :=
  ⟨by omega, by show 0 ≤ 2; omega, fun i hi => absurd hi (by omega), fun i j _ hj => absurd hj (by omega), fun i hi => absurd hi (by omega), fun x => rfl, fun i hi => absurd hi (by omega), fun i hi => absurd hi (by omega)⟩
theorem s_branches : S_branches Inv := by
  intro ctext_size ctext_at ctext_length ctext_token ctext_start ctext_number ctext_letters ctext_tokens ctext_starts ctext_numbers ctree_size ctree_data ctree_fresh cdraft_size cdraft_data cdraft_fresh cwanted_size cwanted_names cwanted_values cworker_makers cnow_data ctrial_data clisting_size clisting_names clisting_values clisting_kinds cpast_newest cpast_known cpast_states_data cpast_states_taken cimages_data cimages_taken mbranchMany mundos mletters mleaves mat mmark mnewMany mnewTables mitems mbranch mnow maside mpast mimages misKept mtext mnames mvalues mkinds mfresh mitem mmaker hI
  obtain ⟨hT, B, g0, hTr, hN, hP, hG⟩ := id hI
  obtain ⟨L, c, rfl, rfl, hx⟩ := hT.tx
  have hL := hx.1
  obtain ⟨K, s, e, tok, sta, num, ht, hr⟩ := g_rewind hx ctext_size ctext_at ctext_tokens ctext_starts ctext_numbers
  have h0 := (ht.2.2.2.1 0 (by omega))
  rw [ht.2.1] at h0
  have hk := g_skipsTo hx h0 mmark
  have key := rf_both hx ht 1000 1000 0 (fun _ _ => 0) (fun _ _ => 0) cdraft_data mfresh cdraft_fresh 0 ctext_token ctext_start ctext_number (DR_0 _ _ _ _) (by omega) (by omega) (by omega)
  have eC : fX6_readFrom (nI L) ctext_letters cdraft_size cdraft_data cdraft_fresh ctext_size ctext_at ctext_token ctext_start ctext_number ctext_tokens ctext_starts ctext_numbers = fX6_readFrom_l11 (nI L) ctext_letters 1000 (nI 0) cdraft_data cdraft_fresh (nI K) (nI 0) ctext_token ctext_start ctext_number tok sta num (nI 0) := by
    unfold fX6_readFrom
    simp only [lit_nI]
    rw [hr, bd_s]
  have eR : fX9_readsBranches (nI L) mtext mat mmark mnewMany mnewTables mfresh = fX9_readsBranches_l19 (nI L) mtext 1000 (nI (s 0)) (nI (s 0)) (nI 0) (nI 0) mfresh := by
    unfold fX9_readsBranches
    simp only [lit_nI]
    rw [hk, bd_s]
  rw [show tc (fun _ _ => 0) 0 = 0 from rfl] at key
  rcases key with ⟨m, g, q, data', F', a, t', st', nu', at', mk, fr', nt, d1, d2, d3⟩ | ⟨z, sz, data', F', a, t', st', nu', at', m2, t2, fr', z1, z2, z3⟩
  · rw [d2] at eC
    rw [d3] at eR
    have hm := d1.1
    have d1' : DR m g q (va_cpy data' ctree_data 0 0 56) fr' := d1.congr (fun p hp => by rw [cpy_in0 _ _ hp, Nat.zero_add])
    obtain ⟨D, b1, b2⟩ := f_begin hm (va_cpy data' ctree_data 0 0 56) cnow_data
    obtain ⟨M1, c1, c2⟩ := g_b17 hm mtext mbranchMany mundos (nI L) at' mk nt mbranch misKept fr' 1000 0 mnow (by omega) (by omega) (fun p hp => absurd hp (by omega))
    obtain ⟨br', M', e1, e2, e3⟩ := g_b38 d1' mtext mbranchMany mundos (nI L) at' mk nt misKept 1000 0 mbranch M1 (by omega) (by omega) (fun i hi => absurd hi (by omega)) (fun p hp => by rw [if_neg (by omega)]; exact c2 p hp)
    obtain ⟨w, U, hw, hU, rfl, -, -, -⟩ := hP
    have eo : fX8_branches ctext_letters ctext_size ctext_at (nI L) ctext_token ctext_start ctext_number ctext_tokens ctext_starts ctext_numbers ctree_size ctree_data cdraft_size cdraft_data cdraft_fresh cnow_data cpast_known cimages_taken = some (nI m, nI K, a, nI 0, t', st', nu', tok, sta, num, nI m, va_cpy data' ctree_data 0 0 56, nI m, data', F', D, nI 0, upd (upd cimages_taken 0 (nI 0)) 1 (nI 0)) := by
      unfold fX8_branches fX5_drop fX6_takeFrom fX2_forget
      simp only [lit_nI]
      rw [eC, bd_s]
      dsimp only
      rw [if_pos rfl, bd_s, gcp_nI (by omega) (by omega) (by omega) (by omega), n_cl (by omega), n_cl (by omega), bd_s]
      dsimp only
      rw [b1, bd_s, bd_s, f_forget, bd_s]
    have ep : fX9_branches mtext mbranchMany mundos (nI L) mat mmark mnewMany mnewTables mbranch mnow misKept mfresh = some (nI m, nI m, nI 0, nI 0, at', mk, nI m, nt, br', M', upd (upd misKept 0 (nI 0)) 1 (nI 0), fr') := by
      unfold fX9_branches
      rw [eR, bd_s]
      dsimp only
      simp only [lit_nI]
      rw [if_neg (by rw [n_eq (by omega) (by omega)]; omega), c1, e1]
    refine ⟨_, _, eo, ep, rfl, ⟨0, by omega, rfl, rfl, fun i hi => absurd hi (by omega)⟩, m, g, d1'.tree e2, ?_, ⟨w, 0, hw, by omega, rfl, rfl, rfl, fun j hj => absurd hj (by omega)⟩, fun i hi => ?_⟩
    · refine NowR_begin hm (v := fun p => g p 5) (fun p hp => ?_) e3
      dsimp only
      rw [b2 p hp]
      by_cases y2 : 4 ≤ p ∧ p < 4 + m
      · rw [if_pos y2, if_pos y2]
        exact (d1'.2.2.1 (p - 4) (by omega)).2.2.1
      · rw [if_neg y2, if_neg y2]
    · dsimp only
      by_cases y : i = 1
      · rw [y, upd_s, upd_s]
        exact ⟨rfl, Or.inl rfl⟩
      · have y0 : i = 0 := by omega
        rw [y0, upd_n (f := upd cimages_taken 0 (nI 0)) (by omega), upd_n (f := upd misKept 0 (nI 0)) (by omega), upd_s, upd_s]
        exact ⟨rfl, Or.inl rfl⟩
  · rw [z2] at eC
    rw [z3] at eR
    have eo : fX8_branches ctext_letters ctext_size ctext_at (nI L) ctext_token ctext_start ctext_number ctext_tokens ctext_starts ctext_numbers ctree_size ctree_data cdraft_size cdraft_data cdraft_fresh cnow_data cpast_known cimages_taken = some (-nI 10 - nI z, nI K, a, nI L, t', st', nu', tok, sta, num, ctree_size, ctree_data, sz, data', F', cnow_data, cpast_known, cimages_taken) := by
      unfold fX8_branches
      simp only [lit_nI]
      rw [eC, bd_s]
      dsimp only
      rw [if_neg (by rw [n_eqm (by omega) (by omega) (by omega)]; exact not_false)]
    have ep : fX9_branches mtext mbranchMany mundos (nI L) mat mmark mnewMany mnewTables mbranch mnow misKept mfresh = some (-nI 10 - nI z, mbranchMany, mundos, nI L, at', nI z, m2, t2, mbranch, mnow, misKept, fr') := by
      unfold fX9_branches
      rw [eR, bd_s]
      dsimp only
      simp only [lit_nI]
      rw [if_true]
    exact ⟨_, _, eo, ep, rfl, hI⟩
