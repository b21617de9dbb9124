/-! orders are read, by both -/
def nmf (dd : Nat → Nat) : Nat := nm (dd 0) (dd 1) (dd 2) (dd 3)
def updd (dd : Nat → Nat) (d v : Nat) : Nat → Nat := fun k => if k = d then v else dd k
theorem updd_s (dd : Nat → Nat) (d v : Nat) : updd dd d v d = v := if_pos rfl
theorem updd_n {dd : Nat → Nat} {d v k : Nat} (h : k ≠ d) : updd dd d v k = dd k := if_neg h
theorem or_step {dd : Nat → Nat} {d v : Nat} (hd : d ≤ 3) (h0 : ∀ k, d ≤ k → dd k = 0) (h1 : ∀ k, dd k ≤ 10) (hv : v ≤ 9) : nI (nmf dd) ||| ((nI v + nI 1) <<< (nI (12 - 4 * d) &&& nI 31)) = nI (nmf (updd dd d (v + 1))) := by
  have b0 := h1 0
  have b1 := h1 1
  have b2 := h1 2
  rw [n_add]
  rcases (show d = 0 ∨ d = 1 ∨ d = 2 ∨ d = 3 by omega) with rfl | rfl | rfl | rfl
  · have e : nI (v + 1) <<< (nI (12 - 4 * 0) &&& nI 31) = nI ((v + 1) * 2 ^ 12) := pk_shlN _ 12 (by decide +kernel) (by omega)
    rw [e, nI_or]
    unfold nmf nm
    rw [updd_s, updd_n (by omega), updd_n (by omega), updd_n (by omega), h0 0 (by omega), h0 1 (by omega), h0 2 (by omega), h0 3 (by omega)]
    rw [show 0 * 4096 + 0 * 256 + 0 * 16 + 0 = 0 from rfl, Nat.zero_or]
    exact congrArg nI (by omega)
  · have e : nI (v + 1) <<< (nI (12 - 4 * 1) &&& nI 31) = nI ((v + 1) * 2 ^ 8) := pk_shlN _ 8 (by decide +kernel) (by omega)
    rw [e, nI_or]
    unfold nmf nm
    rw [updd_s, updd_n (by omega), updd_n (by omega), updd_n (by omega), h0 1 (by omega), h0 2 (by omega), h0 3 (by omega)]
    rw [show dd 0 * 4096 + 0 * 256 + 0 * 16 + 0 = dd 0 * 2 ^ 12 by omega, or_add (by omega)]
    exact congrArg nI (by omega)
  · have e : nI (v + 1) <<< (nI (12 - 4 * 2) &&& nI 31) = nI ((v + 1) * 2 ^ 4) := pk_shlN _ 4 (by decide +kernel) (by omega)
    rw [e, nI_or]
    unfold nmf nm
    rw [updd_s, updd_n (by omega), updd_n (by omega), updd_n (by omega), h0 2 (by omega), h0 3 (by omega)]
    rw [show dd 0 * 4096 + dd 1 * 256 + 0 * 16 + 0 = (dd 0 * 16 + dd 1) * 2 ^ 8 by omega, or_add (by omega)]
    exact congrArg nI (by omega)
  · have e : nI (v + 1) <<< (nI (12 - 4 * 3) &&& nI 31) = nI ((v + 1) * 2 ^ 0) := pk_shlN _ 0 (by decide +kernel) (by omega)
    rw [e, nI_or]
    unfold nmf nm
    rw [updd_s, updd_n (by omega), updd_n (by omega), updd_n (by omega), h0 3 (by omega)]
    rw [show dd 0 * 4096 + dd 1 * 256 + dd 2 * 16 + 0 = (dd 0 * 256 + dd 1 * 16 + dd 2) * 2 ^ 4 by omega, or_add (by omega)]
    exact congrArg nI (by omega)
noncomputable def rV (L : Int32) (tx : Nat → Int32) (at' mk I : Int32) (item : Nat → Int32) (to : Int32) : Option (Int32 × Int32 × Int32 × Int32 × (Nat → Int32)) :=
  bd (fX9_number L tx (nI 0) (nI 99) at' mk) (fun r135 => gin (to + nI 4) 45 (gin (to + nI 4) 45 (if ((upd item (to + nI 4).toNatClampNeg r135.1) (to + nI 4).toNatClampNeg) < nI 0 then some ((nI 0, r135.2.1, r135.2.2, I, (upd item (to + nI 4).toNatClampNeg r135.1))) else bd (fX9_passes L tx (nI 59) r135.2.1 r135.2.2) (fun r153 => if r153.1 = nI 0 then some ((nI 0, r153.2.1, r153.2.2, I, (upd item (to + nI 4).toNatClampNeg r135.1))) else bnd (I + nI 1) (fun y168 => some ((nI 1, r153.2.1, r153.2.2, y168, (upd item (to + nI 4).toNatClampNeg r135.1))))))))
noncomputable def rE (L : Int32) (tx : Nat → Int32) (at' mk I : Int32) (item : Nat → Int32) (to : Int32) : Option (Int32 × Int32 × Int32 × Int32 × (Nat → Int32)) :=
  bd (fX9_passes L tx (nI 61) at' mk) (fun r116 => if r116.1 = nI 0 then some ((nI 0, r116.2.1, r116.2.2, I, item)) else rV L tx r116.2.1 r116.2.2 I item to)
theorem g_l91 (L : Int32) (tx : Nat → Int32) (at' mk : Int32) {I : Nat} (hI : I < 8) : ∀ (n d : Nat) (item : Nat → Int32), d ≤ 4 → 4 < d + n → ∃ item', fX9_readsOrder_l91 L tx n at' mk (nI I) item (nI (5 * I)) (nI d) = rE L tx at' mk (nI I) item' (nI (5 * I)) ∧ ∀ p, item' p = if 5 * I + d ≤ p ∧ p < 5 * I + 4 then -nI 1 else item p := by
  intro n
  induction n with
  | zero => intro d item d1 d2; omega
  | succ n ih =>
    intro d item d1 d2
    rw [fX9_readsOrder_l91_s]
    unfold fX9_readsOrder_b91
    simp only [lit_nI]
    by_cases y : d = 4
    · refine ⟨item, ?_, fun p => by rw [if_neg (by omega)]⟩
      rw [if_pos (by rw [n_le (by omega) (by omega)]; omega)]
      rfl
    · rw [if_neg (by rw [n_le (by omega) (by omega)]; omega), n_add, gin_nI (by omega) (by omega), bnd_eq, n_add, n_cl (by omega)]
      obtain ⟨item', i1, i2⟩ := ih (d + 1) (upd item (5 * I + d) (-nI 1)) (by omega) (by omega)
      refine ⟨item', i1, fun p => ?_⟩
      rw [i2 p]
      by_cases w : 5 * I + (d + 1) ≤ p ∧ p < 5 * I + 4
      · rw [if_pos w, if_pos (by omega)]
      · rw [if_neg w]
        by_cases v : p = 5 * I + d
        · rw [v, upd_s, if_pos (by omega)]
        · rw [upd_n v, if_neg (by omega)]
theorem rv_both {L : Nat} {c : Nat → Nat} {T tx : Nat → Int32} (h : TxR L c T tx) {K : Nat} {s e : Nat → Nat} {tok sta num : Nat → Int32} (ht : TokR L c K s e tok sta num) {j : Nat} (hj : j ≤ K) {p : Nat} (hs : Sk L c p (s j)) {I : Nat} (hI : I < 8) (nam : Int32) (item names values : Nat → Int32) (tk st nu mark : Int32) :
    (∃ v tk' z' nu', v ≤ 99 ∧ j + 2 ≤ K ∧ Sk L c (e (j + 2)) (s (j + 2)) ∧ fX1_readValue (nI K) (nI L) tok sta num nam (nI I) names values (nI j) tk st nu = some (nI 1, nI (I + 1), upd names I nam, upd values I (nI v), nI (j + 2), tk', z', nu') ∧ rV (nI L) tx (nI p) mark (nI I) item (nI (5 * I)) = some (nI 1, nI (e (j + 2)), z', nI (I + 1), upd item (5 * I + 4) (nI v))) ∨
    (∃ sz ns vs a tk' z nu' p' I2 item2, z ≤ L ∧ fX1_readValue (nI K) (nI L) tok sta num nam (nI I) names values (nI j) tk st nu = some (nI 0, sz, ns, vs, a, tk', nI z, nu') ∧ rV (nI L) tx (nI p) mark (nI I) item (nI (5 * I)) = some (nI 0, p', nI z, I2, item2)) := by
  have z10 : ¬ nI 1 = nI 0 := by rw [n_eq (by omega) (by omega)]; omega
  have sL : ∀ {i : Nat}, i ≤ K → s i ≤ L := fun hi => (ht.2.2.2.1 _ hi).2.1
  unfold fX1_readValue rV
  simp only [lit_nI]
  rw [if_neg (nn0 (by omega)), if_neg (by rw [n_le (by omega) (by omega)]; omega), n_add]
  rcases tn_both h ht hj hs (lo := 0) (hi := 99) (by omega) (by omega) tk st nu mark with ⟨v, tk1, v1, v2, v3, v4, v5, v6⟩ | ⟨j', tk', nu', p', q1, q2⟩
  · rw [v4, bd_s, v5, bd_s]
    dsimp only
    rw [if_neg z10, gin_nI (by omega) (by omega), gin_nI (by omega) (by omega), bnd_eq, n_add, gin_nI (by omega) (by omega), gin_nI (by omega) (by omega), n_cl (by omega), n_cl (by omega), upd_s, if_neg (nn0 (by omega))]
    rcases ts_both h ht (j := j + 1) (by omega) v6 (x := 59) (by omega) (by unfold fig; omega) tk1 (nI (s j)) (nI v) (nI (s j)) with ⟨tk', nu', a1, a2, a3, a4⟩ | ⟨j', tk', nu', -, -, a2, a3⟩
    · rw [a2, bd_s, a3, bd_s]
      dsimp only
      rw [gz_1, if_neg z10, bnd_eq]
      exact Or.inl ⟨v, tk', _, nu', v2, by omega, a4, rfl, rfl⟩
    · rw [a2, bd_s, a3, bd_s]
      dsimp only
      rw [gz_0, if_pos rfl]
      exact Or.inr ⟨_, _, _, _, tk', s (j + 1), nu', _, _, _, sL (by omega), rfl, rfl⟩
  · rw [q1, bd_s, q2, bd_s]
    dsimp only
    rw [if_pos rfl, n_add, gin_nI (by omega) (by omega), gin_nI (by omega) (by omega), n_cl (by omega), upd_s, if_pos m1_lt0]
    exact Or.inr ⟨_, _, _, _, tk', s j, nu', _, _, _, sL (by omega), rfl, rfl⟩
def OrderOk (L : Nat) (c : Nat → Nat) (K : Nat) (s : Nat → Nat) (I : Nat) (names values item : Nat → Int32) (CL : Option (Int32 × Int32 × (Nat → Int32) × (Nat → Int32) × Int32 × Int32 × Int32 × Int32)) (RF : Option (Int32 × Int32 × Int32 × Int32 × (Nat → Int32))) : Prop :=
  (∃ dd v j2 tk2 z2 nu2 p2 mk2 item2, 1 ≤ dd 0 ∧ (∀ k, dd k ≤ 10) ∧ v ≤ 99 ∧ j2 ≤ K ∧ Sk L c p2 (s j2) ∧ (∀ k, k < 4 → item2 (5 * I + k) = sh (dd k)) ∧ item2 (5 * I + 4) = nI v ∧ (∀ p, p < 5 * I → item2 p = item p) ∧ CL = some (nI 1, nI (I + 1), upd names I (nI (nmf dd)), upd values I (nI v), nI j2, tk2, z2, nu2) ∧ RF = some (nI 1, nI p2, mk2, nI (I + 1), item2)) ∨
  (∃ sz ns vs a tk2 z nu2 p2 I2 item2, z ≤ L ∧ CL = some (nI 0, sz, ns, vs, a, tk2, nI z, nu2) ∧ RF = some (nI 0, p2, nI z, I2, item2))
theorem ro_both {L : Nat} {c : Nat → Nat} {T tx : Nat → Int32} (h : TxR L c T tx) {K : Nat} {s e : Nat → Nat} {tok sta num : Nat → Int32} (ht : TokR L c K s e tok sta num) {I : Nat} (hI : I < 8) (item0 names values : Nat → Int32) : ∀ (n n2 d j j' p : Nat) (dd : Nat → Nat) (tk nu mark : Int32) (item : Nat → Int32), d ≤ 3 → 4 ≤ d + n → 5 ≤ d + n2 → (∀ k, d ≤ k → dd k = 0) → (∀ k, dd k ≤ 10) → (0 < d → 1 ≤ dd 0) → (∀ k, k < d → item (5 * I + k) = sh (dd k)) → (∀ p, p < 5 * I → item p = item0 p) → j ≤ K → Cur K tok num j j' tk nu → Sk L c p (s j) →
    OrderOk L c K s I names values item0 (fX1_readOrder_l5 (nI K) (nI L) tok sta num n (nI I) names values (nI j') tk (nI (s j)) nu (nI (nmf dd)) (nI (12 - 4 * d))) (fX9_readsOrder_l30 (nI L) tx n2 (nI p) mark (nI I) item (nI (5 * I)) (nI d) (nI 1)) := by
  have z10 : ¬ nI 1 = nI 0 := by rw [n_eq (by omega) (by omega)]; omega
  have sL : ∀ {i : Nat}, i ≤ K → s i ≤ L := fun hi => (ht.2.2.2.1 _ hi).2.1
  intro n
  induction n with
  | zero => intro n2 d j j' p dd tk nu mark item d1 d2; omega
  | succ n ih =>
    intro n2 d j j' p dd tk nu mark item d1 d2 d3 d4 d5 d6 d7 d8 hj hq hs
    obtain ⟨m2, rfl⟩ : ∃ k, n2 = k + 1 := ⟨n2 - 1, by omega⟩
    rw [fX1_readOrder_l5_s, fX9_readsOrder_l30_s]
    unfold fX1_readOrder_b5 fX9_readsOrder_b30
    simp only [lit_nI]
    rw [if_neg (nn0 (by omega)), if_neg z10]
    rcases num_both h ht hq hs (lo := 0) (hi := 9) (by omega) (by omega) mark with ⟨v, v1, v2, v3, v4, v5, v6, v7, v8⟩ | ⟨p', q1, q2⟩
    · rw [v6, bd_s, if_neg z10, v5, v4, v7, bd_s]
      dsimp only
      rw [or_step d1 d4 d5 v2, bnd_eq, n_add, gin_nI (by omega) (by omega), gin_nI (by omega) (by omega), n_cl (by omega), upd_s, if_pos (by rw [n_le (by omega) (by omega)]; omega), bnd_eq, n_add]
      have shv : nI v = sh (v + 1) := by rw [sh_pos (by omega)]; rfl
      have dz : ∀ k, d + 1 ≤ k → updd dd d (v + 1) k = 0 := fun k hk => by rw [updd_n (by omega)]; exact d4 k (by omega)
      have dt : ∀ k, updd dd d (v + 1) k ≤ 10 := fun k => by
        by_cases z : k = d
        · rw [z, updd_s]; omega
        · rw [updd_n z]; exact d5 k
      have d0 : 1 ≤ updd dd d (v + 1) 0 := by
        by_cases z : 0 = d
        · rw [← z, updd_s]; omega
        · rw [updd_n z]; exact d6 (by omega)
      have it : ∀ k, k < d + 1 → upd item (5 * I + d) (nI v) (5 * I + k) = sh (updd dd d (v + 1) k) := fun k hk => by
        by_cases z : k = d
        · rw [z, upd_s, updd_s, shv]
        · rw [upd_n (by omega), updd_n z]; exact d7 k (by omega)
      have itb : ∀ p, p < 5 * I → upd item (5 * I + d) (nI v) p = item0 p := fun p hp => by rw [upd_n (by omega)]; exact d8 p hp
      -- the reference from the end of the name on
      have theEnd : ∀ (a : Nat) (mk : Int32), Sk L c a (s (j + 1)) → ∃ item', fX9_readsOrder_l30 (nI L) tx m2 (nI a) mk (nI I) (upd item (5 * I + d) (nI v)) (nI (5 * I)) (nI (d + 1)) (nI 0) = rE (nI L) tx (nI a) mk (nI I) item' (nI (5 * I)) ∧ (∀ k, k < 4 → item' (5 * I + k) = sh (updd dd d (v + 1) k)) ∧ (∀ p, p < 5 * I → item' p = item0 p) := by
        intro a mk _
        obtain ⟨m3, rfl⟩ : ∃ k, m2 = k + 1 := ⟨m2 - 1, by omega⟩
        obtain ⟨item', i1, i2⟩ := g_l91 (nI L) tx (nI a) mk hI 1000 (d + 1) (upd item (5 * I + d) (nI v)) (by omega) (by omega)
        refine ⟨item', ?_, fun k hk => ?_, fun p hp => ?_⟩
        · rw [fX9_readsOrder_l30_s]
          unfold fX9_readsOrder_b30
          simp only [lit_nI]
          rw [if_true]
          exact i1
        · rw [i2]
          by_cases z : k < d + 1
          · rw [if_neg (by omega)]; exact it k z
          · rw [if_pos (by omega), dz k (by omega), sh_0]
        · rw [i2, if_neg (by omega)]; exact itb p hp
      rcases ts_both h ht (j := j + 1) (by omega) v8 (x := 61) (by omega) (by unfold fig; omega) tk (nI (s j)) (nI v) (nI (s j)) with ⟨tk', nu', a1, a2, a3, a4⟩ | ⟨j2, tk', nu', a0, a1, a2, a3⟩
      · -- an equals sign
        rw [a2, bd_s]
        dsimp only
        rw [if_neg z10]
        have fin : ∀ (a : Nat) (mk : Int32), Sk L c a (s (j + 1)) → fX9_passes (nI L) tx (nI 61) (nI a) mk = some (nI 1, nI (e (j + 1 + 1)), nI (s (j + 1))) → OrderOk L c K s I names values item0 (bd (fX1_readValue (nI K) (nI L) tok sta num (nI (nmf (updd dd d (v + 1)))) (nI I) names values (nI (j + 1 + 1)) tk' (nI (s (j + 1))) nu') (fun r44 => gz r44.1 (some (r44.1, r44.2.1, r44.2.2.1, r44.2.2.2.1, r44.2.2.2.2.1, r44.2.2.2.2.2.1, r44.2.2.2.2.2.2.1, r44.2.2.2.2.2.2.2)))) (fX9_readsOrder_l30 (nI L) tx m2 (nI a) mk (nI I) (upd item (5 * I + d) (nI v)) (nI (5 * I)) (nI (d + 1)) (nI 0)) := by
          intro a mk ha hp
          obtain ⟨item', i1, i2, i3⟩ := theEnd a mk ha
          rw [i1]
          unfold rE
          rw [hp, bd_s]
          dsimp only
          rw [if_neg z10]
          rcases rv_both h ht (j := j + 1 + 1) (by omega) a4 hI (nI (nmf (updd dd d (v + 1)))) item' names values tk' (nI (s (j + 1))) nu' (nI (s (j + 1))) with ⟨w, tk3, z3, nu3, w1, w2, w3, w4, w5⟩ | ⟨sz, ns, vs, a, tk3, z, nu3, p', I2, item2, w1, w2, w3⟩
          · rw [w4, bd_s, w5]
            dsimp only
            rw [gz_1]
            refine Or.inl ⟨updd dd d (v + 1), w, j + 1 + 1 + 2, tk3, z3, nu3, _, z3, _, d0, dt, w1, w2, w3, fun k hk => ?_, upd_s _ _ _, fun p hp => ?_, rfl, rfl⟩
            · rw [upd_n (by omega)]; exact i2 k hk
            · rw [upd_n (by omega)]; exact i3 p hp
          · rw [w2, bd_s, w3]
            dsimp only
            rw [gz_0]
            exact Or.inr ⟨_, _, _, _, _, z, _, _, _, _, w1, rfl, rfl⟩
        by_cases y : 4 ≤ d + 1
        · rw [if_pos (by rw [n_le (by omega) (by omega)]; exact y)]
          exact fin _ _ v8 a3
        · rw [if_neg (by rw [n_le (by omega) (by omega)]; exact y)]
          have hc : s (j + 1) < L ∧ c (s (j + 1)) = 61 := by
            rcases g_passes h v8 (x := 61) (by omega) (nI (s j)) with ⟨b1, b2, b3⟩ | ⟨b1, b3⟩
            · exact ⟨b1, b2⟩
            · rw [a3] at b3
              have := congrArg (fun o => o.map (fun r => r.1)) b3
              exact absurd (Option.some.inj this) z10
          rcases g_passes h v8 (x := 46) (by omega) (nI (s j)) with ⟨b1, b2, b3⟩ | ⟨b1, b3⟩
          · omega
          · rw [b3, bd_s]
            dsimp only
            rw [if_pos rfl]
            refine fin _ _ v8.self ?_
            rcases g_passes h v8.self (x := 61) (by omega) (nI (s (j + 1))) with ⟨u1, u2, u3⟩ | ⟨u1, u3⟩
            · rcases g_passes h v8 (x := 61) (by omega) (nI (s j)) with ⟨t1, t2, t3⟩ | ⟨t1, t3⟩
              · rw [u3, ← t3, a3]
              · exact absurd hc t1
            · exact absurd hc u1
      · -- no equals sign
        rw [a2, bd_s]
        dsimp only
        rw [if_pos rfl]
        have hc : ¬ (s (j + 1) < L ∧ c (s (j + 1)) = 61) := fun z => a1 ((cur_sign ht (fun i hi => (h.2 i hi).2.2) a0 (by omega) (by unfold fig; omega)).2 z)
        have c46 := cur_sign ht (fun i hi => (h.2 i hi).2.2) a0 (x := 46) (by omega) (by unfold fig; omega)
        have hsl : s (j + 1) ≤ L := sL (by omega)
        have fail : ∀ (a : Nat) (mk : Int32), Sk L c a (s (j + 1)) → ∃ p' item2, fX9_readsOrder_l30 (nI L) tx m2 (nI a) mk (nI I) (upd item (5 * I + d) (nI v)) (nI (5 * I)) (nI (d + 1)) (nI 0) = some (nI 0, p', nI (s (j + 1)), nI I, item2) := by
          intro a mk ha
          obtain ⟨item', i1, i2, i3⟩ := theEnd a mk ha
          rw [i1]
          unfold rE
          rcases g_passes h ha (x := 61) (by omega) mk with ⟨b1, b2, b3⟩ | ⟨b1, b3⟩
          · exact absurd ⟨b1, b2⟩ hc
          · rw [b3, bd_s]
            dsimp only
            rw [if_pos rfl]
            exact ⟨_, _, rfl⟩
        by_cases w : tk' = nI 46
        · obtain ⟨w1, w2⟩ := c46.1 w
          rw [if_pos w]
          by_cases y : d = 3
          · subst y
            rw [if_pos (show nI (12 - 4 * 3) = nI 0 from rfl), if_pos (by rw [n_le (by omega) (by omega)]; omega)]
            obtain ⟨p', item2, f1⟩ := fail _ (nI (s j)) v8
            rw [f1]
            exact Or.inr ⟨_, _, _, _, _, s (j + 1), _, _, _, _, hsl, rfl, rfl⟩
          · rw [if_neg (show ¬ nI (12 - 4 * d) = nI 0 by rw [n_eq (by omega) (by omega)]; omega), if_neg (by rw [n_le (by omega) (by omega)]; omega)]
            rcases g_passes h v8 (x := 46) (by omega) (nI (s j)) with ⟨b1, b2, b3⟩ | ⟨b1, b3⟩
            · have jK : j + 1 < K := (tok_end ht (by omega)).1 b1
              have j2e : j2 = j + 1 + 1 := by
                rcases a0 with ⟨u1, u2, u3, u4⟩ | ⟨u1, u2, u3⟩
                · exact u2
                · omega
              have e1 : e (j + 1 + 1) = s (j + 1) + 1 := by
                rcases (ht.2.2.2.2 (j + 1) jK).2.2 with ⟨u1, u2, u3, u4⟩ | ⟨u1, u2, u3⟩
                · rw [b2] at u1; unfold fig at u1; omega
                · exact u2
              have sk2 := ht.2.2.2.1 (j + 1 + 1) jK
              rw [e1] at sk2
              subst j2e
              obtain ⟨j3, tk3, nu3, f1, f2⟩ := f_advance ht (j := j + 1 + 1) (by omega) tk' (nI (s (j + 1))) nu'
              rw [f2, bd_s, b3, bd_s]
              dsimp only
              rw [if_neg z10, bnd_eq, show nI (12 - 4 * d) + -nI 4 = nI (12 - 4 * (d + 1)) by rw [← Int32.sub_eq_add_neg, n_sub (by omega)]; exact congrArg nI (by omega)]
              exact ih m2 (d + 1) (j + 1 + 1) j3 (s (j + 1) + 1) _ tk3 nu3 _ _ (by omega) (by omega) (by omega) dz dt (fun _ => d0) it itb (by omega) f1 sk2
            · exact absurd ⟨w1, w2⟩ b1
        · rw [if_neg w]
          by_cases y : 4 ≤ d + 1
          · rw [if_pos (by rw [n_le (by omega) (by omega)]; exact y)]
            obtain ⟨p', item2, f1⟩ := fail _ (nI (s j)) v8
            rw [f1]
            exact Or.inr ⟨_, _, _, _, _, s (j + 1), _, _, _, _, hsl, rfl, rfl⟩
          · rw [if_neg (by rw [n_le (by omega) (by omega)]; exact y)]
            rcases g_passes h v8 (x := 46) (by omega) (nI (s j)) with ⟨b1, b2, b3⟩ | ⟨b1, b3⟩
            · exact absurd (c46.2 ⟨b1, b2⟩) w
            · rw [b3, bd_s]
              dsimp only
              rw [if_pos rfl]
              obtain ⟨p', item2, f1⟩ := fail _ (nI (s (j + 1))) v8.self
              rw [f1]
              exact Or.inr ⟨_, _, _, _, _, s (j + 1), _, _, _, _, hsl, rfl, rfl⟩
    · rw [q1, bd_s, if_pos rfl, q2, bd_s]
      dsimp only
      rw [n_add, gin_nI (by omega) (by omega), gin_nI (by omega) (by omega), n_cl (by omega), upd_s, if_neg m1_nle]
      exact Or.inr ⟨_, _, _, _, _, s j, _, _, _, _, sL hj, rfl, rfl⟩
