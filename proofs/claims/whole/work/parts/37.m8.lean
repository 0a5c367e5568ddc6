/-! BEST by TURNS in the reference -/
theorem cnt31 {S : Nat} (h : S < 4096) : cnt S 31 = cnt S 12 := by
  have : ∀ d, cnt S (12 + d) = cnt S 12 := by
    intro d
    induction d with
    | zero => rfl
    | succ d ih => rw [← Nat.add_assoc, cnt_s, ih, Nat.testBit_lt_two_pow (Nat.lt_of_lt_of_le h (Nat.pow_le_pow_right (n := 2) (i := 12) (by decide) (by omega)))]; simp
  exact this 19
theorem bits_M {S : Nat} {μ : MM} (h : S < 4096) : f_X7_bits (nI S) μ = some (nI (cnt S 12)) := by
  unfold f_X7_bits
  have hL := lp_0 (step := fun s => g_X7_bits_4 (nI S) s.1 s.2 μ) (fun i s => s.1 = nI (cnt S i) ∧ s.2 = nI i) (fun r => r = nI (cnt S 31)) 31 ((0 : Int32), (0 : Int32)) (by omega) ⟨rfl, rfl⟩ ?_ ?_
  · obtain ⟨r, h1, h2⟩ := hL
    rw [h1, h2, cnt31 h]; rfl
  · rintro i ⟨v, u⟩ hi ⟨e1, e2⟩
    dsimp only at e1 e2
    subst e1; subst e2
    show ∃ s', g_X7_bits_4 (nI S) _ (nI i) μ = some (.inl s') ∧ _
    unfold g_X7_bits_4
    have c1 : ¬ (31 : Int32) ≤ nI i := nI_ge (b := 31) hi (by omega)
    rw [if_neg c1, bitM (by omega) (by omega), nI_add]
    exact ⟨_, rfl, rfl, nI_1 i⟩
  · rintro ⟨v, u⟩ ⟨e1, e2⟩
    dsimp only at e1 e2
    subst e1; subst e2
    refine ⟨_, ?_, rfl⟩
    show g_X7_bits_4 (nI S) _ (nI 31) μ = _
    unfold g_X7_bits_4
    rw [if_pos (by decide)]
def idx (a b sd S : Nat) : Nat := 4096 * (2 * (4 * a + b) + sd) + S
theorem idx_lt {a b sd S : Nat} (ha : a ≤ 3) (hb : b ≤ 3) (hs : sd < 2) (hS : S < 4096) : idx a b sd S < 131072 := by unfold idx; omega
theorem idx_inj {a b sd S a' b' sd' S' : Nat} (hb : b ≤ 3) (hs : sd < 2) (hS : S < 4096) (hb' : b' ≤ 3) (hs' : sd' < 2) (hS' : S' < 4096) (h : idx a b sd S = idx a' b' sd' S') : a = a' ∧ b = b' ∧ sd = sd' ∧ S = S' := by
  unfold idx at h; omega
theorem idx_M {a b sd S : Nat} {μ : MM} : f_X7_index (nI a) (nI b) (nI sd) (nI S) μ = some (nI (idx a b sd S)) := by
  unfold f_X7_index idx
  rw [show (4096 : Int32) = nI 4096 from rfl, show (4 : Int32) = nI 4 from rfl, pk_mul, nI_add, two_mul, nI_add, pk_mul, nI_add]
theorem mover_M {a b sd : Nat} {μ : MM} (hs : sd < 2) (ha : a ≤ 3) (hb : b ≤ 3) : f_X7_mover (nI a) (nI b) (nI sd) μ = some (nI (who a b sd)) := by
  unfold f_X7_mover
  have e1 : (if nI sd = 0 then some (nI a) else some (nI b)) = some (nI (if sd = 0 then a else b)) := by
    by_cases h0 : sd = 0
    · rw [if_pos h0, if_pos (by rw [h0]; rfl)]
    · rw [if_neg h0, if_neg (nI_ne0 (by omega) (by omega))]
  rw [e1, Option.bind_some, flip1 (by omega)]
  have hlt : (if sd = 0 then a else b) ≤ 3 := by split <;> omega
  unfold who
  by_cases h0 : (if sd = 0 then a else b) = 0
  · rw [if_pos h0, h0, if_pos (by decide)]
  · rw [if_neg h0, if_neg (nI_nle (by omega) (by omega))]
theorem behind_M {a b w S p : Nat} {μ : MM} (hw : w < 2) (ha : a ≤ 3) (hb : b ≤ 3) (h0 : w = 0 → 0 < a) (h1 : w = 1 → 0 < b) (hS : S < 4096) (hp : p < 12) (hbit : S.testBit p = true) :
    f_X7_behind (nI a) (nI b) (nI w) (nI S) (nI p) μ = some (μ.2 11 (idx (nA w a) (nB w b) (1 - w) (S ^^^ 2 ^ p))) := by
  unfold f_X7_behind
  have e1 : (if nI w = 0 then some (nI a - 1) else some (nI a)) = some (nI (nA w a)) := by
    unfold nA
    by_cases hz : w = 0
    · rw [if_pos hz, if_pos (by rw [hz]; rfl), nI_sub1 (h0 hz)]
    · rw [if_neg hz, if_neg (nI_ne0 (by omega) (by omega))]
  have e2 : (if nI w = 0 then some (nI b) else some (nI b - 1)) = some (nI (nB w b)) := by
    unfold nB
    by_cases hz : w = 0
    · rw [if_pos hz, if_pos (by rw [hz]; rfl)]
    · rw [if_neg hz, if_neg (nI_ne0 (by omega) (by omega)), nI_sub1 (h1 (by omega))]
  have hlt := del_lt hbit
  have ba : nA w a ≤ 3 := by unfold nA; split <;> omega
  have bb : nB w b ≤ 3 := by unfold nB; split <;> omega
  have hi := idx_lt (a := nA w a) (b := nB w b) (sd := 1 - w) (S := S ^^^ 2 ^ p) ba bb (by omega) (by omega)
  rw [e1, Option.bind_some, e2, Option.bind_some, sh1 p (by omega), andn (by omega), dif_del hbit, flip1 (by omega), idx_M, Option.bind_some, chk_t (inb_nI hi (by omega)), nI_c (by omega)]
/-- what stands right in the table of the reference -/
def tbl (μ : MM) (m : Mi) (left : Nat) (D : Nat → Nat → Nat → Nat → Prop) : Prop := ∀ a b sd S, a ≤ 3 → b ≤ 3 → sd < 2 → sub S left → cnt S 12 = mN m + (a + b) → D a b sd S → μ.2 11 (idx a b sd S) = lN (VV m (a + b) a b sd S)
theorem val_M {a b sd S left k : Nat} {m : Mi} {μ : MM} {D : Nat → Nat → Nat → Nat → Prop} (hm : okM m) (hleft : left < 2 ^ mP m) (hs : sd < 2) (ha : a ≤ 3) (hb : b ≤ 3) (hk : a + b = k + 1) (hS : sub S left) (hc : cnt S 12 = mN m + (a + b)) (ht : tbl μ m left D) (hD : ∀ a' b' sd S, a' ≤ a → b' ≤ b → a' + b' < k + 1 → D a' b' sd S) :
    f_X7_valueOf (nI a) (nI b) (nI sd) (nI S) μ = some (lN (VV m (k + 1) a b sd S)) := by
  have hl2 := pow12 hm.1 hleft
  have hS2 : S < 4096 := Nat.lt_of_le_of_lt (sub_le hS) hl2
  unfold f_X7_valueOf
  rw [mover_M hs ha hb, Option.bind_some, VV_s]
  have hw := who_lt (a := a) (b := b) hs
  have hh := who_has (a := a) (b := b) hs (by omega)
  generalize who a b sd = w at hw hh ⊢
  have ba : nA w a ≤ 3 := by unfold nA; split <;> omega
  have bb : nB w b ≤ 3 := by unfold nB; split <;> omega
  have hsum : nA w a + nB w b = k := by
    unfold nA nB
    rcases hh with ⟨h1, h2⟩ | ⟨h1, h2⟩
    · rw [if_pos h1, if_pos h1]; omega
    · rw [if_neg (by omega), if_neg (by omega)]; omega
  have hval : ∀ p, p < 12 → S.testBit p = true → f_X7_behind (nI a) (nI b) (nI w) (nI S) (nI p) μ = some (lN (VV m k (nA w a) (nB w b) (1 - w) (S ^^^ 2 ^ p))) ∧ VV m k (nA w a) (nB w b) (1 - w) (S ^^^ 2 ^ p) ≤ 10000000000000000 := by
    intro p hp hbit
    have hx := cnt_del12 hbit hp
    have hsb := sub_tr (sub_del hbit) hS
    have := ht (nA w a) (nB w b) (1 - w) (S ^^^ 2 ^ p) ba bb (by omega) hsb (by omega) (hD _ _ _ _ (by unfold nA; split <;> omega) (by unfold nB; split <;> omega) (by omega))
    rw [hsum] at this
    refine ⟨?_, VV_le hm _ _ _ _ _ (sub_lt hsb hleft) (by omega)⟩
    rw [behind_M hw ha hb (fun h => by omega) (fun h => by omega) hS2 hp hbit, this]
  generalize hf : (fun p => VV m k (nA w a) (nB w b) (1 - w) (S ^^^ 2 ^ p)) = f
  have hfp : ∀ p, VV m k (nA w a) (nB w b) (1 - w) (S ^^^ 2 ^ p) = f p := fun p => by rw [← hf]
  have h := lp_0 (step := fun s => g_X7_valueOf_17 (nI a) (nI b) (nI S) (nI w) s.1 s.2.1 s.2.2 μ) (fun i s => s.1 = (if (bst w f S i).isSome = true then 1 else 0) ∧ s.2.1 = lN ((bst w f S i).getD 0) ∧ s.2.2 = nI i) (fun r => r = lN ((bst w f S 12).getD 0)) 12 ((0 : Int32), (0 : Int64), (0 : Int32)) (by omega) ⟨rfl, rfl, rfl⟩ ?_ ?_
  · obtain ⟨r, h1, h2⟩ := h
    rw [h1, h2]; rfl
  · rintro i ⟨v, u, z⟩ hi ⟨e1, e2, e3⟩
    dsimp only at e1 e2 e3
    subst e1; subst e2; subst e3
    show ∃ s', g_X7_valueOf_17 (nI a) (nI b) (nI S) (nI w) _ _ (nI i) μ = some (.inl s') ∧ _
    unfold g_X7_valueOf_17
    have c1 : ¬ (12 : Int32) ≤ nI i := nI_ge (b := 12) hi (by omega)
    rw [if_neg c1, bitM (by omega) (by omega)]
    cases hq : S.testBit i with
    | false =>
      rw [if_pos (by rfl)]
      have hb2 : bst w f S (i + 1) = bst w f S i := by rw [bst, if_neg (by rw [hq]; exact Bool.false_ne_true)]
      refine ⟨_, rfl, ?_, ?_, nI_1 i⟩
      · show _ = _; rw [hb2]
      · show _ = _; rw [hb2]
    | true =>
      rw [if_neg (by decide), (hval i hi hq).1, Option.bind_some, hfp]
      have hv2 := (hval i hi hq).2
      rw [hfp] at hv2
      have hbs : bst w f S (i + 1) = some (match bst w f S i with | none => f i | some v => if w = 0 then max v (f i) else min v (f i)) := by rw [bst, if_pos hq]; cases bst w f S i <;> rfl
      rw [hbs]
      cases hc2 : bst w f S i with
      | none =>
        rw [if_pos (by rfl)]
        exact ⟨_, rfl, rfl, rfl, nI_1 i⟩
      | some v =>
        have hv : v ≤ 10000000000000000 := by
          obtain ⟨⟨p, p1, p2, p3⟩, -⟩ := bst_O i v hc2
          rw [← p3, ← hfp]; exact (hval p (by omega) p2).2
        show ∃ s', (if (1 : Int32) = 0 then some (Sum.inl ((1 : Int32), lN (f i), nI i + 1)) else if nI w = 0 then (if lN v < lN (f i) then some (Sum.inl ((1 : Int32), lN (f i), nI i + 1)) else some (Sum.inl (1, lN v, nI i + 1))) else (if lN (f i) < lN v then some (Sum.inl (1, lN (f i), nI i + 1)) else some (Sum.inl (1, lN v, nI i + 1)))) = some (Sum.inl s') ∧ _
        rw [if_neg (show ¬ ((1 : Int32) = 0) by decide)]
        by_cases h0 : w = 0
        · rw [if_pos (by rw [h0]; rfl)]
          by_cases hlt : v < f i
          · rw [if_pos ((pk_lLT (by omega) (by omega)).mpr hlt)]
            refine ⟨_, rfl, rfl, ?_, nI_1 i⟩
            show lN (f i) = lN (if w = 0 then max v (f i) else min v (f i))
            rw [if_pos h0, Nat.max_eq_right (by omega)]
          · rw [if_neg (fun q => hlt ((pk_lLT (by omega) (by omega)).mp q))]
            refine ⟨_, rfl, rfl, ?_, nI_1 i⟩
            show lN v = lN (if w = 0 then max v (f i) else min v (f i))
            rw [if_pos h0, Nat.max_eq_left (by omega)]
        · rw [if_neg (nI_ne0 (by omega) (by omega))]
          by_cases hlt : f i < v
          · rw [if_pos ((pk_lLT (by omega) (by omega)).mpr hlt)]
            refine ⟨_, rfl, rfl, ?_, nI_1 i⟩
            show lN (f i) = lN (if w = 0 then max v (f i) else min v (f i))
            rw [if_neg h0, Nat.min_eq_right (by omega)]
          · rw [if_neg (fun q => hlt ((pk_lLT (by omega) (by omega)).mp q))]
            refine ⟨_, rfl, rfl, ?_, nI_1 i⟩
            show lN v = lN (if w = 0 then max v (f i) else min v (f i))
            rw [if_neg h0, Nat.min_eq_left (by omega)]
  · rintro ⟨v, u, z⟩ ⟨e1, e2, e3⟩
    dsimp only at e1 e2 e3
    subst e1; subst e2; subst e3
    refine ⟨_, ?_, rfl⟩
    show g_X7_valueOf_17 (nI a) (nI b) (nI S) (nI w) _ _ (nI 12) μ = _
    unfold g_X7_valueOf_17
    rw [if_pos (by decide)]
/-- only the table and the scratch row have changed -/
def sT (μ μ' : MM) : Prop := μ'.1 = μ.1 ∧ ∀ j, j ≠ 9 → j ≠ 11 → μ'.2 j = μ.2 j
theorem sT_rf {μ : MM} : sT μ μ := ⟨rfl, fun _ _ _ => rfl⟩
theorem sT_tr {μ μ' μ'' : MM} (h : sT μ μ') (h' : sT μ' μ'') : sT μ μ'' := ⟨h'.1.trans h.1, fun j h1 h2 => (h'.2 j h1 h2).trans (h.2 j h1 h2)⟩
theorem sT_9 {μ μ' : MM} (h : sL 9 μ μ') : sT μ μ' := ⟨h.1, fun j h1 _ => h.2 j h1⟩
theorem sT_11 {μ : MM} {i : Nat} {x : Int64} : sT μ (stL μ 11 i x) := ⟨rfl, fun j _ h2 => stL_k h2⟩
theorem hd_T {μ μ' : MM} {m : Mi} (h : hdAt μ m) (ht : sT μ μ') : hdAt μ' m := by unfold hdAt; rw [ht.1]; exact h
theorem tbl_9 {μ μ' : MM} {m : Mi} {left : Nat} {D : Nat → Nat → Nat → Nat → Prop} (h : tbl μ m left D) (hs : sL 9 μ μ') : tbl μ' m left D := fun a b sd S h1 h2 h3 h4 h5 h6 => by rw [hs.2 11 (by decide)]; exact h a b sd S h1 h2 h3 h4 h5 h6
theorem tbl_st {μ : MM} {m : Mi} {left : Nat} {D D' : Nat → Nat → Nat → Nat → Prop} {a b sd S : Nat} (hl : left < 4096) (ha : a ≤ 3) (hb : b ≤ 3) (hs : sd < 2) (hS : sub S left) (h : tbl μ m left D) (hD : ∀ a' b' sd' S', D' a' b' sd' S' → D a' b' sd' S' ∨ (a' = a ∧ b' = b ∧ sd' = sd ∧ S' = S)) :
    tbl (stL μ 11 (idx a b sd S) (lN (VV m (a + b) a b sd S))) m left D' := by
  intro a' b' sd' S' h1 h2 h3 h4 h5 h6
  have hS1 := sub_le hS
  have hS2 := sub_le h4
  rw [stL_s]
  by_cases e : idx a' b' sd' S' = idx a b sd S
  · obtain ⟨rfl, rfl, rfl, rfl⟩ := idx_inj h2 h3 (by omega) hb hs (by omega) e
    rw [updL_s]
  · rw [updL_n e]
    rcases hD _ _ _ _ h6 with q | ⟨rfl, rfl, rfl, rfl⟩
    · exact h _ _ _ _ h1 h2 h3 h4 h5 q
    · exact absurd rfl e
theorem tbl_w {μ : MM} {m : Mi} {left : Nat} {D D' : Nat → Nat → Nat → Nat → Prop} (h : tbl μ m left D) (hD : ∀ a b sd S, a ≤ 3 → b ≤ 3 → sd < 2 → sub S left → cnt S 12 = mN m + (a + b) → D' a b sd S → D a b sd S) : tbl μ m left D' := fun a b sd S h1 h2 h3 h4 h5 h6 => h a b sd S h1 h2 h3 h4 h5 (hD a b sd S h1 h2 h3 h4 h5 h6)
theorem fb99 {left a b S : Nat} {v1 v2 v3 : Int32} {m : Mi} {μ : MM} {D : Nat → Nat → Nat → Nat → Prop} (hm : okM m) (hd : hdAt μ m) (hleft : left < 2 ^ mP m) (ha : a ≤ 3) (hb : b ≤ 3) (hS : sub S left) (hc : cnt S 12 = mN m + (a + b)) (ht : tbl μ m left D) (hD : ∀ a' b' sd S, a' ≤ a → b' ≤ b → a' + b' < a + b → D a' b' sd S) :
    ∃ μ', loopN (fun s => g_X7_findBest_99 v1 v2 v3 (nI (a + b)) (nI a) (nI S) s.1 s.2) FU ((0 : Int32), μ) = some μ' ∧ sT μ μ' ∧ tbl μ' m left (fun a' b' sd' S' => D a' b' sd' S' ∨ (a' = a ∧ b' = b ∧ S' = S)) := by
  have hl2 := pow12 hm.1 hleft
  have hS2 : S < 4096 := Nat.lt_of_le_of_lt (sub_le hS) hl2
  refine lp_0 (fun i s => s.1 = nI i ∧ sT μ s.2 ∧ tbl s.2 m left (fun a' b' sd' S' => D a' b' sd' S' ∨ (a' = a ∧ b' = b ∧ sd' < i ∧ S' = S))) _ 2 _ (by omega) ⟨rfl, sT_rf, tbl_w ht (fun a' b' sd' S' _ _ _ _ _ h => h.elim id (fun h => by omega))⟩ ?_ ?_
  · rintro i ⟨v, τ⟩ hi ⟨e1, e2, e3⟩
    dsimp only at e1 e2 e3
    subst e1
    have hix := idx_lt ha hb hi hS2
    show ∃ s', g_X7_findBest_99 v1 v2 v3 (nI (a + b)) (nI a) (nI S) (nI i) τ = some (.inl s') ∧ _
    unfold g_X7_findBest_99
    have c1 : ¬ (2 : Int32) ≤ nI i := nI_ge (b := 2) hi (by omega)
    rw [if_neg c1, pk_sub (by omega), show a + b - a = b by omega, idx_M, Option.bind_some]
    by_cases hk : a + b = 0
    · rw [if_pos (by rw [hk]; rfl)]
      obtain ⟨τ', c2, c3⟩ := chance_M (μ := τ) (S := S) hm (hd_T hd e2) ⟨sub_lt hS hleft, by omega⟩
      rw [c2, Option.bind_some, uc_eq, chk_t (inb_nI hix (by omega)), lm_eq, nI_c (by omega)]
      refine ⟨_, rfl, nI_1 i, sT_tr e2 (sT_tr (sT_9 c3) sT_11), ?_⟩
      have e : CH m S = VV m (a + b) a b i S := by rw [hk]; rfl
      show tbl (stL τ' 11 (idx a b i S) (lN (CH m S))) m left _
      rw [e]
      exact tbl_st hl2 ha hb hi hS (tbl_9 e3 c3) (fun a' b' sd' S' h => by
        rcases h with h | ⟨h1, h2, h3, h4⟩
        · exact Or.inl (Or.inl h)
        · by_cases hq : sd' = i
          · exact Or.inr ⟨h1, h2, hq, h4⟩
          · exact Or.inl (Or.inr ⟨h1, h2, by omega, h4⟩))
    · obtain ⟨k, hk2⟩ : ∃ k, a + b = k + 1 := ⟨a + b - 1, by omega⟩
      rw [if_neg (nI_ne0 (by omega) (by omega)), val_M (k := k) (left := left) hm hleft hi ha hb hk2 hS hc e3 (fun a' b' sd' S' h1 h2 h => Or.inl (hD _ _ _ _ h1 h2 (by omega))), Option.bind_some, chk_t (inb_nI hix (by omega)), lm_eq, nI_c (by omega), ← hk2]
      refine ⟨_, rfl, nI_1 i, sT_tr e2 sT_11, ?_⟩
      exact tbl_st hl2 ha hb hi hS e3 (fun a' b' sd' S' h => by
        rcases h with h | ⟨h1, h2, h3, h4⟩
        · exact Or.inl (Or.inl h)
        · by_cases hq : sd' = i
          · exact Or.inr ⟨h1, h2, hq, h4⟩
          · exact Or.inl (Or.inr ⟨h1, h2, by omega, h4⟩))
  · rintro ⟨v, τ⟩ ⟨e1, e2, e3⟩
    dsimp only at e1 e2 e3
    subst e1
    refine ⟨τ, ?_, e2, tbl_w e3 (fun a' b' sd' S' _ _ h3 _ _ h => h.elim Or.inl (fun h => Or.inr ⟨h.1, h.2.1, h3, h.2.2⟩))⟩
    show g_X7_findBest_99 v1 v2 v3 (nI (a + b)) (nI a) (nI S) (nI 2) τ = _
    unfold g_X7_findBest_99
    rw [if_pos (by decide)]
/-- the next subset down -/
theorem subm : ∀ (n L v T : Nat), L < 2 ^ n → sub v L → sub T L → T < v → T ≤ (v - 1) &&& L := by
  intro n
  induction n with
  | zero =>
    intro L v T hL hv _ hlt
    have := sub_le hv
    simp at hL
    omega
  | succ n ih =>
    intro L v T hL hv hT hlt
    have hv2 : sub (v / 2) (L / 2) := fun i hi => by rw [Nat.testBit_div_two] at hi ⊢; exact hv _ hi
    have hT2 : sub (T / 2) (L / 2) := fun i hi => by rw [Nat.testBit_div_two] at hi ⊢; exact hT _ hi
    have hL2 : L / 2 < 2 ^ n := by rw [Nat.pow_succ] at hL; omega
    have d1 : ((v - 1) &&& L) / 2 = (v - 1) / 2 &&& L / 2 := Nat.and_div_two
    have b0 : ∀ x : Nat, x.testBit 0 = decide (x % 2 = 1) := fun x => by
      have := Nat.testBit_eq_decide_div_mod_eq (x := x) (i := 0)
      simpa using this
    have tm : T % 2 = 1 → L % 2 = 1 := fun h => by
      have := hT 0 (by rw [b0]; simp [h])
      rw [b0] at this; exact of_decide_eq_true this
    by_cases hs : v % 2 = 1
    · have e1 : (v - 1) / 2 = v / 2 := by omega
      have e2 : v / 2 &&& L / 2 = v / 2 := by
        apply Nat.eq_of_testBit_eq
        intro i
        rw [Nat.testBit_and]
        cases hq : (v / 2).testBit i with
        | false => rfl
        | true => rw [hv2 i hq]; rfl
      have h3 : ((v - 1) &&& L) / 2 = v / 2 := by rw [d1, e1, e2]
      omega
    · have e1 : (v - 1) / 2 = v / 2 - 1 := by omega
      have e0 : (v - 1) % 2 = 1 := by omega
      have := ih (L / 2) (v / 2) (T / 2) hL2 hv2 hT2 (by omega)
      have h3 : ((v - 1) &&& L) / 2 = (v / 2 - 1) &&& L / 2 := by rw [d1, e1]
      have h4 : T % 2 ≤ ((v - 1) &&& L) % 2 := by
        by_cases ht : T % 2 = 1
        · have h5 : ((v - 1) &&& L) % 2 = 1 := Nat.and_mod_two_eq_one.mpr ⟨e0, tm ht⟩
          omega
        · omega
      omega
theorem sub_and {x L : Nat} : sub (x &&& L) L := fun i hi => by rw [Nat.testBit_and] at hi; exact (Bool.and_eq_true _ _ ▸ hi).2
theorem fb71 {left a b : Nat} {v2 v3 : Int32} {m : Mi} {μ : MM} {D : Nat → Nat → Nat → Nat → Prop} (hm : okM m) (hd : hdAt μ m) (hleft : left < 2 ^ mP m) (ha : a ≤ 3) (hb : b ≤ 3) (hsz : ∀ S, S < 4096 → μ.1 12 S = nI (cnt S 12)) (ht : tbl μ m left D) (hD : ∀ a' b' sd S, a' ≤ a → b' ≤ b → a' + b' < a + b → D a' b' sd S) :
    ∃ μ', loopN (fun s => g_X7_findBest_71 (nI left) v2 v3 (nI (a + b)) (nI a) s.1 s.2) FU (nI left, μ) = some μ' ∧ sT μ μ' ∧ tbl μ' m left (fun a' b' sd' S' => D a' b' sd' S' ∨ (a' = a ∧ b' = b)) := by
  have hl2 := pow12 hm.1 hleft
  have hN := hm.2.1
  refine lp_m (fun s => ∃ v, sub v left ∧ s.1 = nI v ∧ sT μ s.2 ∧ tbl s.2 m left (fun a' b' sd' S' => D a' b' sd' S' ∨ (a' = a ∧ b' = b ∧ v < S'))) _ (fun s => s.1.toNatClampNeg) _ (by show (nI left).toNatClampNeg < 5000; rw [nI_c (by omega)]; omega) ⟨left, sub_rf, rfl, sT_rf, tbl_w ht (fun a' b' sd' S' _ _ _ h4 _ h => h.elim id (fun h => by have := sub_le h4; omega))⟩ ?_
  rintro ⟨u, τ⟩ ⟨v, hv, e1, e2, e3⟩
  dsimp only at e1 e2 e3
  subst e1
  have hvl := sub_le hv
  show (∃ r, g_X7_findBest_71 (nI left) v2 v3 (nI (a + b)) (nI a) (nI v) τ = some (.inr r) ∧ _) ∨ ∃ s', g_X7_findBest_71 (nI left) v2 v3 (nI (a + b)) (nI a) (nI v) τ = some (.inl s') ∧ _
  unfold g_X7_findBest_71
  by_cases hz : v = 0
  · left
    subst hz
    rw [if_pos (by decide)]
    refine ⟨τ, rfl, e2, tbl_w e3 (fun a' b' sd' S' _ _ _ h4 h5 h => h.elim Or.inl (fun h => Or.inr ⟨h.1, h.2, ?_⟩))⟩
    rcases Nat.eq_zero_or_pos S' with q | q
    · subst q
      have : cnt 0 12 = 0 := by decide
      omega
    · exact q
  · right
    have hneed : f_X7_needed τ = some (nI (mN m)) := by
      unfold f_X7_needed
      rw [chk_t ib_0_5, tn_0, e2.1, hd.2.1]
    have hcl := cnt_le v 12
    rw [if_neg (nI_nle (by omega) (by omega)), chk_t (inb_nI (by omega) (by omega)), hneed, Option.bind_some, nI_c (by omega), nI_add, e2.1, hsz v (by omega), nI_sub1 (by omega), andI]
    have hnx : (v - 1) &&& left < v := Nat.lt_of_le_of_lt Nat.and_le_left (by omega)
    have down : ∀ S', sub S' left → (v - 1) &&& left < S' → S' ≠ v → v < S' := by
      intro S' hS' h1 h2
      rcases Nat.lt_or_ge S' v with q | q
      · have := subm 12 left v S' hl2 hv hS' q; omega
      · omega
    have hmu : (nI ((v - 1) &&& left)).toNatClampNeg < v := by rw [nI_c (by omega)]; exact hnx
    by_cases hc : cnt v 12 = mN m + (a + b)
    · rw [if_pos (by rw [hc])]
      obtain ⟨τ', c1, c2, c3⟩ := fb99 (left := left) (a := a) (b := b) (S := v) (v1 := nI left) (v2 := v2) (v3 := v3) (μ := τ) (D := fun a' b' sd' S' => D a' b' sd' S' ∨ (a' = a ∧ b' = b ∧ v < S')) hm (hd_T hd e2) hleft ha hb hv hc e3 (fun a' b' sd S h1 h2 h => Or.inl (hD _ _ _ _ h1 h2 h))
      rw [c1]
      refine ⟨_, rfl, ⟨_, sub_and, rfl, sT_tr e2 c2, tbl_w c3 (fun a' b' sd' S' _ _ _ h4 _ h => ?_)⟩, hmu⟩
      rcases h with h | ⟨h1, h2, h3⟩
      · exact Or.inl (Or.inl h)
      · by_cases hq : S' = v
        · exact Or.inr ⟨h1, h2, hq⟩
        · exact Or.inl (Or.inr ⟨h1, h2, down S' h4 h3 hq⟩)
    · rw [if_neg (fun q => hc ((nI_eq_iff (by omega) (by omega)).mp q))]
      refine ⟨_, rfl, ⟨_, sub_and, rfl, e2, tbl_w e3 (fun a' b' sd' S' _ _ _ h4 h5 h => ?_)⟩, hmu⟩
      rcases h with h | ⟨h1, h2, h3⟩
      · exact Or.inl h
      · by_cases hq : S' = v
        · rw [h1, h2, hq] at h5; exact absurd h5 hc
        · exact Or.inr ⟨h1, h2, down S' h4 h3 hq⟩
theorem fb43 {left A B k : Nat} {m : Mi} {μ : MM} {D : Nat → Nat → Nat → Nat → Prop} (hm : okM m) (hd : hdAt μ m) (hleft : left < 2 ^ mP m) (hA : A ≤ 3) (hB : B ≤ 3) (hk : k ≤ A + B) (hsz : ∀ S, S < 4096 → μ.1 12 S = nI (cnt S 12)) (ht : tbl μ m left D) (hD : ∀ a' b' sd S, a' ≤ A → b' ≤ B → a' + b' < k → D a' b' sd S) :
    ∃ μ', loopN (fun s => g_X7_findBest_43 (nI left) (nI A) (nI B) (nI k) s.1 s.2) FU ((0 : Int32), μ) = some μ' ∧ sT μ μ' ∧ tbl μ' m left (fun a' b' sd' S' => D a' b' sd' S' ∨ (a' ≤ A ∧ b' ≤ B ∧ a' + b' = k)) := by
  refine lp_0 (fun i s => s.1 = nI i ∧ sT μ s.2 ∧ tbl s.2 m left (fun a' b' sd' S' => D a' b' sd' S' ∨ (a' < i ∧ a' ≤ A ∧ b' ≤ B ∧ a' + b' = k))) _ (min A k + 1) _ (by omega) ⟨rfl, sT_rf, tbl_w ht (fun a' b' sd' S' _ _ _ _ _ h => h.elim id (fun h => by omega))⟩ ?_ ?_
  · rintro i ⟨v, τ⟩ hi ⟨e1, e2, e3⟩
    dsimp only at e1 e2 e3
    subst e1
    show ∃ s', g_X7_findBest_43 (nI left) (nI A) (nI B) (nI k) (nI i) τ = some (.inl s') ∧ _
    unfold g_X7_findBest_43
    rw [if_neg (nI_nlt (by omega) (by omega)), if_neg (nI_nlt (by omega) (by omega)), pk_sub (by omega)]
    by_cases hb : k - i ≤ B
    · rw [if_pos (nI_le hb (by omega))]
      obtain ⟨τ', c1, c2, c3⟩ := fb71 (left := left) (a := i) (b := k - i) (v2 := nI A) (v3 := nI B) (μ := τ) hm (hd_T hd e2) hleft (by omega) (by omega) (by rw [e2.1]; exact hsz) e3 (fun a' b' sd S h1 h2 h => Or.inl (hD _ _ _ _ (by omega) (by omega) (by omega)))
      rw [show i + (k - i) = k by omega] at c1
      rw [c1]
      refine ⟨_, rfl, nI_1 i, sT_tr e2 c2, tbl_w c3 (fun a' b' sd' S' _ _ _ _ _ h => ?_)⟩
      rcases h with h | ⟨h1, h2, h3, h4⟩
      · exact Or.inl (Or.inl h)
      · by_cases hq : a' = i
        · exact Or.inr ⟨hq, by omega⟩
        · exact Or.inl (Or.inr ⟨by omega, h2, h3, h4⟩)
    · rw [if_neg (nI_ge (by omega) (by omega))]
      refine ⟨_, rfl, nI_1 i, e2, tbl_w e3 (fun a' b' sd' S' _ _ _ _ _ h => ?_)⟩
      rcases h with h | ⟨h1, h2, h3, h4⟩
      · exact Or.inl h
      · exact Or.inr ⟨by omega, h2, h3, h4⟩
  · rintro ⟨v, τ⟩ ⟨e1, e2, e3⟩
    dsimp only at e1 e2 e3
    subst e1
    refine ⟨τ, ?_, e2, tbl_w e3 (fun a' b' sd' S' _ _ _ _ _ h => h.elim Or.inl (fun h => Or.inr ⟨by omega, h⟩))⟩
    show g_X7_findBest_43 (nI left) (nI A) (nI B) (nI k) (nI (min A k + 1)) τ = _
    unfold g_X7_findBest_43
    by_cases hq : A < min A k + 1
    · rw [if_pos (nI_lt hq (by omega))]
    · rw [if_neg (nI_nlt (by omega) (by omega)), if_pos (nI_lt (by omega) (by omega))]
/-- all that is best from subsets of a set on -/
def tbOK (μ : MM) (m : Mi) (left A B : Nat) : Prop := ∀ a b sd S, a ≤ A → b ≤ B → sd < 2 → sub S left → cnt S 12 = mN m + (a + b) → μ.2 11 (idx a b sd S) = lN (VV m (a + b) a b sd S)
def sM (μ μ' : MM) : Prop := (∀ j, j ≠ 12 → μ'.1 j = μ.1 j) ∧ ∀ j, j ≠ 9 → j ≠ 11 → μ'.2 j = μ.2 j
theorem best_M {left A B : Nat} {m : Mi} {μ : MM} (hm : okM m) (hd : hdAt μ m) (hleft : left < 2 ^ mP m) (hA : A ≤ 3) (hB : B ≤ 3) :
    ∃ μ', f_X7_findBest (nI left) (nI A) (nI B) μ = some μ' ∧ sM μ μ' ∧ tbOK μ' m left A B := by
  unfold f_X7_findBest
  have h3 := lp_0 (step := fun s => g_X7_findBest_3 (nI left) (nI A) (nI B) s.1 s.2) (fun i s => s.1 = nI i ∧ ((∀ j, j ≠ 12 → s.2.1 j = μ.1 j) ∧ s.2.2 = μ.2) ∧ ∀ S, S < i → s.2.1 12 S = nI (cnt S 12)) (fun r => ((∀ j, j ≠ 12 → r.1 j = μ.1 j) ∧ r.2 = μ.2) ∧ ∀ S, S < 4096 → r.1 12 S = nI (cnt S 12)) 4096 ((0 : Int32), μ) (by omega) ⟨rfl, ⟨fun _ _ => rfl, rfl⟩, fun S hS => by omega⟩ ?_ ?_
  · obtain ⟨μ0, a1, ⟨a2, a2'⟩, a3⟩ := h3
    rw [a1, Option.bind_some]
    have hd0 : hdAt μ0 m := by
      unfold hdAt
      rw [a2 0 (by decide), a2 4 (by decide), a2 8 (by decide)]
      exact hd
    have h := lp_0 (step := fun s => g_X7_findBest_32 (nI left) (nI A) (nI B) s.1 s.2) (fun i s => s.1 = nI i ∧ sT μ0 s.2 ∧ tbl s.2 m left (fun a' b' _ _ => a' ≤ A ∧ b' ≤ B ∧ a' + b' < i)) (fun r => sT μ0 r ∧ tbOK r m left A B) (A + B + 1) ((0 : Int32), μ0) (by omega) ⟨rfl, sT_rf, fun a b sd S _ _ _ _ _ h => by omega⟩ ?_ ?_
    · obtain ⟨r, r1, r2, r3⟩ := h
      refine ⟨r, by rw [r1]; rfl, ⟨fun j hj => by rw [r2.1]; exact a2 j hj, fun j h1 h2 => by rw [r2.2 j h1 h2, a2']⟩, r3⟩
    · rintro i ⟨v, τ⟩ hi ⟨e1, e2, e3⟩
      dsimp only at e1 e2 e3
      subst e1
      show ∃ s', g_X7_findBest_32 (nI left) (nI A) (nI B) (nI i) τ = some (.inl s') ∧ _
      unfold g_X7_findBest_32
      obtain ⟨τ', c1, c2, c3⟩ := fb43 (left := left) (A := A) (B := B) (k := i) (μ := τ) hm (hd_T hd0 e2) hleft hA hB (by omega) (by rw [e2.1]; exact a3) e3 (fun a' b' sd S h1 h2 h => ⟨h1, h2, h⟩)
      rw [nI_add, if_neg (nI_nlt (by omega) (by omega)), c1]
      refine ⟨_, rfl, nI_1 i, sT_tr e2 c2, tbl_w c3 (fun a' b' sd' S' _ _ _ _ _ h => ?_)⟩
      by_cases hq : a' + b' = i
      · exact Or.inr ⟨h.1, h.2.1, hq⟩
      · exact Or.inl ⟨h.1, h.2.1, by omega⟩
    · rintro ⟨v, τ⟩ ⟨e1, e2, e3⟩
      dsimp only at e1 e2 e3
      subst e1
      refine ⟨τ, ?_, e2, fun a b sd S h1 h2 h3 h4 h5 => e3 a b sd S (by omega) (by omega) h3 h4 h5 ⟨h1, h2, by omega⟩⟩
      show g_X7_findBest_32 (nI left) (nI A) (nI B) (nI (A + B + 1)) τ = _
      unfold g_X7_findBest_32
      rw [nI_add, if_pos (nI_lt (by omega) (by omega))]
  · rintro i ⟨v, τ⟩ hi ⟨e1, ⟨e2, e2'⟩, e3⟩
    dsimp only at e1 e2 e2' e3
    subst e1
    show ∃ s', g_X7_findBest_3 (nI left) (nI A) (nI B) (nI i) τ = some (.inl s') ∧ _
    unfold g_X7_findBest_3
    have c1 : ¬ (4096 : Int32) ≤ nI i := nI_ge (b := 4096) hi (by omega)
    rw [if_neg c1, bits_M hi, Option.bind_some, chk_t (inb_nI hi (by omega)), lm_eq, nI_c (by omega)]
    refine ⟨_, rfl, nI_1 i, ⟨fun j hj => ?_, e2'⟩, fun S hS => ?_⟩
    · show (stI τ 12 i _).1 j = _
      rw [stI_k hj]; exact e2 j hj
    · show (stI τ 12 i (nI (cnt i 12))).1 12 S = _
      rw [stI_s]
      by_cases e : S = i
      · rw [e, upd_s]
      · rw [upd_n e]; exact e3 S (by omega)
  · rintro ⟨v, τ⟩ ⟨e1, e2, e3⟩
    dsimp only at e1 e2 e3
    subst e1
    refine ⟨τ, ?_, e2, e3⟩
    show g_X7_findBest_3 (nI left) (nI A) (nI B) (nI 4096) τ = _
    unfold g_X7_findBest_3
    rw [if_pos (by decide)]
/-- the strike of the reference, out of its table -/
theorem strike_M {left A B a b sd S : Nat} {m : Mi} {μ : MM} (hm : okM m) (hleft : left < 2 ^ mP m) (hA : A ≤ 3) (hB : B ≤ 3) (ha : a ≤ A) (hb : b ≤ B) (hs : sd < 2) (hS : sub S left) (hk : 0 < a + b) (hc : cnt S 12 = mN m + (a + b)) (ht : tbOK μ m left A B) :
    f_X7_strikeOf (nI a) (nI b) (nI sd) (nI S) μ = some (nI (bs m a b sd S)) := by
  have hl2 := pow12 hm.1 hleft
  have hS2 : S < 4096 := Nat.lt_of_le_of_lt (sub_le hS) hl2
  obtain ⟨k, hk2⟩ : ∃ k, a + b = k + 1 := ⟨a + b - 1, by omega⟩
  obtain ⟨b1, b2, b3, b4⟩ := bs_ok (m := m) (a := a) (b := b) (sd := sd) (S := S) (k := k) (by omega) (by omega)
  have e0 : vq m a b sd S = VV m (a + b) a b sd S := by
    unfold vq
    rw [hc, show mN m + (a + b) - mN m = a + b by omega, show a + b + mN m - (mN m + (a + b)) = 0 by omega]; rfl
  have hv0 := ht a b sd S ha hb hs hS hc
  have hw := who_lt (a := a) (b := b) hs
  have hh := who_has (a := a) (b := b) hs hk
  unfold f_X7_strikeOf
  rw [mover_M hs (by omega) (by omega), Option.bind_some]
  have hval : ∀ p, p < 12 → S.testBit p = true → f_X7_behind (nI a) (nI b) (nI (who a b sd)) (nI S) (nI p) μ = some (lN (vq m a b sd (S ^^^ 2 ^ p))) := by
    intro p hp hbit
    have hx := cnt_del12 hbit hp
    have hsb := sub_tr (sub_del hbit) hS
    rw [behind_M hw (by omega) (by omega) (fun h => by omega) (fun h => by omega) hS2 hp hbit]
    have q1 : nA (who a b sd) a ≤ a := by unfold nA; split <;> omega
    have q2 : nB (who a b sd) b ≤ b := by unfold nB; split <;> omega
    have hsum : nA (who a b sd) a + nB (who a b sd) b = k := by
      unfold nA nB
      rcases hh with ⟨h1, h2⟩ | ⟨h1, h2⟩
      · rw [if_pos h1, if_pos h1]; omega
      · rw [if_neg (by omega), if_neg (by omega)]; omega
    rw [ht _ _ _ _ (by omega) (by omega) (by omega) hsb (by omega), hsum]
    congr 2
    unfold vq
    rw [show cnt (S ^^^ 2 ^ p) 12 - mN m = k by omega, show a + b + mN m - cnt (S ^^^ 2 ^ p) 12 = 0 + 1 by omega]
    rfl
  have hle : ∀ p, p < 12 → S.testBit p = true → vq m a b sd (S ^^^ 2 ^ p) ≤ 10000000000000000 := fun p hp hbit => by
    have hx := cnt_del12 hbit hp
    exact vq_le hm (sub_lt (sub_tr (sub_del hbit) hS) hleft) (by omega)
  have hle0 := vq_le hm (a := a) (b := b) (sd := sd) (sub_lt hS hleft) (by omega)
  have h := lp_m (step := fun s => g_X7_strikeOf_11 (nI a) (nI b) (nI sd) (nI S) (nI (who a b sd)) s μ) (fun s => ∃ i, i ≤ bs m a b sd S ∧ s = nI i) (fun r => r = nI (bs m a b sd S)) (fun s => 12 - s.toNatClampNeg) (0 : Int32) (by show 12 - _ < 5000; omega) ⟨0, Nat.zero_le _, rfl⟩ ?_
  · obtain ⟨r, h1, h2⟩ := h
    rw [h1, h2]
  · rintro s ⟨i, hi, rfl⟩
    show (∃ r, g_X7_strikeOf_11 (nI a) (nI b) (nI sd) (nI S) (nI (who a b sd)) (nI i) μ = some (.inr r) ∧ _) ∨ ∃ s', g_X7_strikeOf_11 (nI a) (nI b) (nI sd) (nI S) (nI (who a b sd)) (nI i) μ = some (.inl s') ∧ _
    unfold g_X7_strikeOf_11
    have c1 : ¬ (12 : Int32) ≤ nI i := nI_ge (b := 12) (by omega) (by omega)
    have next : i ≠ bs m a b sd S → (∃ i_1, i_1 ≤ bs m a b sd S ∧ nI i + 1 = nI i_1) ∧ 12 - (nI i + 1).toNatClampNeg < 12 - (nI i).toNatClampNeg := by
      intro hne
      refine ⟨⟨i + 1, by omega, nI_1 i⟩, ?_⟩
      rw [nI_1, nI_c (by omega), nI_c (by omega)]; omega
    rw [if_neg c1, bitM (by omega) (by omega)]
    cases hq : S.testBit i with
    | false =>
      right
      rw [if_neg (by decide)]
      exact ⟨_, rfl, next (fun e => by rw [e, b2] at hq; cases hq)⟩
    | true =>
      have hix := idx_lt (a := a) (b := b) (sd := sd) (S := S) (by omega) (by omega) hs hS2
      rw [if_pos (by rfl), hval i (by omega) hq, Option.bind_some, idx_M, Option.bind_some, chk_t (inb_nI hix (by omega)), nI_c (show idx a b sd S < 2147483648 by omega), hv0, ← e0]
      have hl := hle i (by omega) hq
      by_cases he : i = bs m a b sd S
      · left
        rw [if_pos (by rw [he, b3])]
        exact ⟨_, rfl, by rw [he]⟩
      · right
        rw [if_neg (fun z => b4 i (by omega) hq ((pk_lEQ (by omega) (by omega)).mp z))]
        exact ⟨_, rfl, next he⟩
