/-! PAPER: what is kept, in the program -/
theorem take_s {L : List Nat} {i : Nat} (hi : i < L.length) : L.take (i + 1) = L.take i ++ [L.getD i 0] := by
  rw [List.take_add_one, List.getElem?_eq_getElem hi, List.getD_eq_getElem?_getD, List.getElem?_eq_getElem hi]; rfl
theorem filter_s {L : List Nat} {p : Nat → Bool} {i : Nat} (hi : i < L.length) : (L.take (i + 1)).filter p = if p (L.getD i 0) = true then (L.take i).filter p ++ [L.getD i 0] else (L.take i).filter p := by
  rw [take_s hi, List.filter_append]
  generalize L.getD i 0 = x
  by_cases h : p x = true
  · rw [if_pos h]; simp [h]
  · rw [if_neg h]; simp [h]
theorem filter_le (L : List Nat) (p : Nat → Bool) (i : Nat) : ((L.take i).filter p).length ≤ i := Nat.le_trans (List.length_filter_le _ _) (by rw [List.length_take]; omega)
theorem keep_S {q0 q1 : Nat} {L : List Nat} {p : Nat → Bool} {g : Int64} {σ : MM} (hl : L.length ≤ 220) (hA : ppA (σ.1 q0) L) (hp : ∀ i, i < L.length → (σ.2 q1 i = g ↔ p (L.getD i 0) = true)) : ∃ σ', f_X3_keepThose q0 q1 (nI L.length) g σ = some (nI (L.filter p).length, σ') ∧ (∀ k, k ≠ q0 → σ'.1 k = σ.1 k) ∧ σ'.2 = σ.2 ∧ ppA (σ'.1 q0) (L.filter p) := by
  unfold f_X3_keepThose
  have hq := lp_0 (step := fun t => g_X3_keepThose_6 q0 q1 (nI L.length) g t.1 t.2.1 t.2.2) (fun i t => t.1 = nI ((L.take i).filter p).length ∧ t.2.1 = nI i ∧ t.2.2.2 = σ.2 ∧ (∀ k, k ≠ q0 → t.2.2.1 k = σ.1 k) ∧ ppA (t.2.2.1 q0) ((L.take i).filter p) ∧ ∀ k, i ≤ k → t.2.2.1 q0 k = σ.1 q0 k)
    (fun r => r.1 = nI (L.filter p).length ∧ r.2.2 = σ.2 ∧ (∀ k, k ≠ q0 → r.2.1 k = σ.1 k) ∧ ppA (r.2.1 q0) (L.filter p)) L.length ((0 : Int32), (0 : Int32), σ) (by omega) ⟨rfl, rfl, rfl, fun _ _ => rfl, ppA_nil _, fun _ _ => rfl⟩ ?_ ?_
  · obtain ⟨r, r1, r2, r3, r4, r5⟩ := hq
    exact ⟨r.2, by rw [r1, Option.bind_some, r2], r4, r3, r5⟩
  · rintro i ⟨x, y, τ⟩ hi ⟨f1, f2, f3, f4, f5, f6⟩
    dsimp only at f1 f2 f3 f4 f5 f6
    subst f1; subst f2
    have hle := filter_le L p i
    have hread : τ.1 q0 i = nI (L.getD i 0) := by rw [f6 i (Nat.le_refl _)]; exact ppA_g hA hi
    show ∃ s', g_X3_keepThose_6 q0 q1 (nI L.length) g (nI _) (nI i) τ = some (.inl s') ∧ _
    unfold g_X3_keepThose_6
    rw [if_neg (nI_ge hi (by omega)), chk_t (inb_nI (by omega) (by omega)), nI_c (show i < 2147483648 by omega), f3]
    by_cases h : p (L.getD i 0) = true
    · rw [if_pos ((hp i hi).mpr h), chk_t (inb_nI (by omega) (by omega)), chk_t (inb_nI (by omega) (by omega)), lm_eq, nI_c (by omega), hread]
      refine ⟨_, rfl, ?_, nI_1 i, f3, fun k hk => ?_, ?_, fun k hk => ?_⟩
      · show nI _ + 1 = _
        rw [nI_1, filter_s hi, if_pos h, List.length_append]; rfl
      · show (stI τ q0 _ _).1 k = _
        rw [stI_k hk]; exact f4 k hk
      · show ppA ((stI τ q0 _ _).1 q0) _
        rw [stI_s, filter_s hi, if_pos h]; exact ppA_snoc f5
      · show (stI τ q0 _ _).1 q0 k = _
        rw [stI_s, upd_n (by omega)]; exact f6 k (by omega)
    · rw [if_neg (fun q => h ((hp i hi).mp q))]
      refine ⟨_, rfl, ?_, nI_1 i, f3, f4, ?_, fun k hk => f6 k (by omega)⟩
      · show nI _ = _
        rw [filter_s hi, if_neg h]
      · rw [filter_s hi, if_neg h]; exact f5
  · rintro ⟨x, y, τ⟩ ⟨f1, f2, f3, f4, f5, f6⟩
    dsimp only at f1 f2 f3 f4 f5 f6
    subst f1; subst f2
    rw [List.take_length] at f5 ⊢
    refine ⟨(_, τ), ?_, rfl, f3, f4, f5⟩
    show g_X3_keepThose_6 q0 q1 (nI L.length) g (nI _) (nI L.length) τ = _
    unfold g_X3_keepThose_6
    rw [if_pos (nI_le (Nat.le_refl _) (by omega))]
    rfl
theorem w50 {n : Nat} {v2 : Int32} {σ : MM} (hn : n ≤ 220) (h7 : σ.1 50 7 = nI n) : ∃ σ', loopN (fun t => g_X3_weigh_50 v2 t.1 t.2) FU ((0 : Int32), σ) = some σ' ∧ σ'.1 = σ.1 ∧ (∀ k, k ≠ 54 → σ'.2 k = σ.2 k) ∧ ∀ j, j < n → σ'.2 54 j = -1 := by
  refine lp_0 (fun i t => t.1 = nI i ∧ t.2.1 = σ.1 ∧ (∀ k, k ≠ 54 → t.2.2 k = σ.2 k) ∧ ∀ j, j < i → t.2.2 54 j = -1) _ n _ (by omega) ⟨rfl, rfl, fun _ _ => rfl, fun j hj => by omega⟩ ?_ ?_
  · rintro i ⟨x, τ⟩ hi ⟨f1, f2, f3, f4⟩
    dsimp only at f1 f2 f3 f4
    subst f1
    show ∃ s', g_X3_weigh_50 v2 (nI i) τ = some (.inl s') ∧ _
    unfold g_X3_weigh_50
    rw [f2, h7, if_neg (nI_ge hi (by omega)), chk_t (inb_nI (by omega) (by omega)), lm_eq, nI_c (by omega)]
    refine ⟨_, rfl, nI_1 i, f2, fun k hk => ?_, fun j hj => ?_⟩
    · show (stL τ 54 i (-1)).2 k = _
      rw [stL_k hk]; exact f3 k hk
    · show (stL τ 54 i (-1)).2 54 j = _
      rw [stL_s]
      by_cases e : j = i
      · rw [e, updL_s]
      · rw [updL_n e]; exact f4 j (by omega)
  · rintro ⟨x, τ⟩ ⟨f1, f2, f3, f4⟩
    dsimp only at f1 f2 f3 f4
    subst f1
    refine ⟨τ, ?_, f2, f3, f4⟩
    show g_X3_weigh_50 v2 (nI n) τ = _
    unfold g_X3_weigh_50
    rw [f2, h7, if_pos (nI_le (Nat.le_refl _) (by omega))]
theorem w75 {c : Cr} {σ : MM} {LA LB : List Nat} (hc : okC c) (he : enough c) (eA : LA = setsOf (full c) (cK c 1)) (eB : LB = setsOf (full c) (cK c 2)) (h6 : σ.1 50 6 = nI LA.length) (h7 : σ.1 50 7 = nI LB.length) (hA : ppA (σ.1 51) LA) (hB : ppA (σ.1 52) LB) (hf : filled σ (mOf c) (full c)) (hx : ∀ j, j < LB.length → σ.2 54 j = -1) (hV : ∀ A B, A ∈ LA → B ∈ LB → PV (mOf c) (full c) A B < BIG) (lA : LA.length ≤ 220) (lB : LB.length ≤ 220) :
    ∃ σ', loopN (fun t => g_X3_weigh_75 (nI (full c)) t.1 t.2) FU ((0 : Int32), σ) = some σ' ∧ σ'.1 = σ.1 ∧ (∀ k, k ≠ 53 → k ≠ 54 → σ'.2 k = σ.2 k) ∧ (∀ i, i < LA.length → σ'.2 53 i = lN (ppM (PV (mOf c) (full c)) LB (LA.getD i 0) LB.length)) ∧ ∀ j, j < LB.length → σ'.2 54 j = cmL (PV (mOf c) (full c)) LA (LB.getD j 0) LA.length := by
  refine lp_0 (fun i t => t.1 = nI i ∧ t.2.1 = σ.1 ∧ (∀ k, k ≠ 53 → k ≠ 54 → t.2.2 k = σ.2 k) ∧ (∀ q, q < i → t.2.2 53 q = lN (ppM (PV (mOf c) (full c)) LB (LA.getD q 0) LB.length)) ∧ ∀ j, j < LB.length → t.2.2 54 j = cmL (PV (mOf c) (full c)) LA (LB.getD j 0) i) _ LA.length _ (by omega) ⟨rfl, rfl, fun _ _ _ => rfl, fun q hq => by omega, hx⟩ ?_ ?_
  · rintro i ⟨x, τ⟩ hi ⟨f1, f2, f3, f4, f5⟩
    dsimp only at f1 f2 f3 f4 f5
    subst f1
    obtain ⟨τ', t1, t2, t3, t4, t5, t6⟩ := wset_S (σ := τ) hc he eA eB hi (by rw [f2]; exact h7) (by rw [f2]; exact hA) (by rw [f2]; exact hB) (fun S h1 h2 => by rw [f3 49 (by decide) (by decide)]; exact hf S h1 h2) f5 hV lA lB
    show ∃ s', g_X3_weigh_75 (nI (full c)) (nI i) τ = some (.inl s') ∧ _
    unfold g_X3_weigh_75
    rw [f2, h6, if_neg (nI_ge hi (by omega)), t1, Option.bind_some]
    refine ⟨_, rfl, nI_1 i, by show τ'.1 = _; rw [t2, f2], fun k h1 h2 => by show τ'.2 k = _; rw [t3 k h1 h2]; exact f3 k h1 h2, fun q hq => ?_, t6⟩
    show τ'.2 53 q = _
    by_cases e : q = i
    · rw [e]; exact t5
    · rw [t4 q e]; exact f4 q (by omega)
  · rintro ⟨x, τ⟩ ⟨f1, f2, f3, f4, f5⟩
    dsimp only at f1 f2 f3 f4 f5
    subst f1
    refine ⟨τ, ?_, f2, f3, f4, f5⟩
    show g_X3_weigh_75 (nI (full c)) (nI LA.length) τ = _
    unfold g_X3_weigh_75
    rw [f2, h6, if_pos (nI_le (Nat.le_refl _) (by omega))]
theorem w105 {n : Nat} {f : Nat → Nat} {σ : MM} (hn : n + 1 ≤ 220) (h6 : σ.1 50 6 = nI (n + 1)) (hf : ∀ i, i ≤ n → σ.2 53 i = lN (f i) ∧ f i < 9223372036854775808) : loopN (fun t => g_X3_weigh_105 t.1 t.2 σ) FU (σ.2 53 0, (1 : Int32)) = some (lN (ppG f n)) := by
  have hq := lp_0 (step := fun t => g_X3_weigh_105 t.1 t.2 σ) (fun k t => t = (lN (ppG f k), nI (k + 1))) (fun r => r = lN (ppG f n)) n (σ.2 53 0, (1 : Int32)) (by omega) (by rw [(hf 0 (by omega)).1]; rfl) ?_ ?_
  · obtain ⟨r, r1, r2⟩ := hq
    rw [r1, r2]
  · rintro k t hk rfl
    show ∃ s', g_X3_weigh_105 _ (nI (k + 1)) σ = some (.inl s') ∧ _
    unfold g_X3_weigh_105
    obtain ⟨x1, x2⟩ := hf (k + 1) hk
    obtain ⟨j, j1, j2⟩ := ppG_at (f := f) k
    have x3 := (hf j (by omega)).2
    rw [h6, if_neg (nI_ge (by omega) (by omega)), chk_t (inb_nI (by omega) (by omega)), nI_c (by omega), x1, nI_1]
    refine ⟨_, rfl, ?_⟩
    show ((if lN (f (k + 1)) < lN (ppG f k) then lN (ppG f k) else lN (f (k + 1))), nI (k + 1 + 1)) = (lN (max (ppG f k) (f (k + 1))), nI (k + 1 + 1))
    by_cases h : f (k + 1) < ppG f k
    · rw [if_pos ((pk_lLT (by omega) (by omega)).mpr h), Nat.max_eq_left (by omega)]
    · rw [if_neg (fun z => h ((pk_lLT (by omega) (by omega)).mp z)), Nat.max_eq_right (by omega)]
  · rintro t rfl
    refine ⟨_, ?_, rfl⟩
    show g_X3_weigh_105 _ (nI (n + 1)) σ = _
    unfold g_X3_weigh_105
    rw [h6, if_pos (nI_le (Nat.le_refl _) (by omega))]
theorem w143 {n : Nat} {f : Nat → Nat} {v3 : Int64} {σ : MM} (hn : n + 1 ≤ 220) (h7 : σ.1 50 7 = nI (n + 1)) (hf : ∀ i, i ≤ n → σ.2 54 i = lN (f i) ∧ f i < 9223372036854775808) : loopN (fun t => g_X3_weigh_143 v3 t.1 t.2 σ) FU (σ.2 54 0, (1 : Int32)) = some (lN (ppH f n)) := by
  have hq := lp_0 (step := fun t => g_X3_weigh_143 v3 t.1 t.2 σ) (fun k t => t = (lN (ppH f k), nI (k + 1))) (fun r => r = lN (ppH f n)) n (σ.2 54 0, (1 : Int32)) (by omega) (by rw [(hf 0 (by omega)).1]; rfl) ?_ ?_
  · obtain ⟨r, r1, r2⟩ := hq
    rw [r1, r2]
  · rintro k t hk rfl
    show ∃ s', g_X3_weigh_143 v3 _ (nI (k + 1)) σ = some (.inl s') ∧ _
    unfold g_X3_weigh_143
    obtain ⟨x1, x2⟩ := hf (k + 1) hk
    obtain ⟨j, j1, j2⟩ := ppH_at (f := f) k
    have x3 := (hf j (by omega)).2
    rw [h7, if_neg (nI_ge (by omega) (by omega)), chk_t (inb_nI (by omega) (by omega)), nI_c (by omega), x1, nI_1]
    refine ⟨_, rfl, ?_⟩
    show ((if lN (f (k + 1)) < lN (ppH f k) then lN (f (k + 1)) else lN (ppH f k)), nI (k + 1 + 1)) = (lN (min (ppH f k) (f (k + 1))), nI (k + 1 + 1))
    by_cases h : f (k + 1) < ppH f k
    · rw [if_pos ((pk_lLT (by omega) (by omega)).mpr h), Nat.min_eq_right (by omega)]
    · rw [if_neg (fun z => h ((pk_lLT (by omega) (by omega)).mp z)), Nat.min_eq_left (by omega)]
  · rintro t rfl
    refine ⟨_, ?_, rfl⟩
    show g_X3_weigh_143 v3 _ (nI (n + 1)) σ = _
    unfold g_X3_weigh_143
    rw [h7, if_pos (nI_le (Nat.le_refl _) (by omega))]
/-- facts of the lists of a court -/
theorem pp_facts {c : Cr} (hc : okC c) (he : enough c) : (setsOf (full c) (cK c 1)).length ≤ 220 ∧ (setsOf (full c) (cK c 2)).length ≤ 220 ∧ 0 < (setsOf (full c) (cK c 1)).length ∧ 0 < (setsOf (full c) (cK c 2)).length ∧ ∀ A B, A ∈ setsOf (full c) (cK c 1) → B ∈ setsOf (full c) (cK c 2) → PV (mOf c) (full c) A B < BIG := by
  have hk := kb hc
  have he' : call c ≤ cP c := he
  have hP := hc.1
  have x1 := sets_220 (n := call c) (k := cK c 1) (by omega) hk.2.1
  have x2 := sets_220 (n := call c) (k := cK c 2) (by omega) hk.2.2.1
  refine ⟨x1.1, x2.1, x1.2 (by unfold call; omega), x2.2 (by unfold call; omega), fun A B hA hB => ?_⟩
  rw [sets_mem] at hA hB
  have := CH_le (okM_of hc) (PJ_jur hc he hA.2 hB.2).1
  have hBIG : BIG = 10000000000000001 := rfl
  unfold PV
  omega
theorem weigh_S {c : Cr} {σ : MM} (hc : okC c) (he : enough c) (ha : atS σ 1 c) (ht : tnC σ c) : ∃ σ', f_X3_weigh σ = some σ' ∧ ppC σ' c ∧ (∀ k, k ≠ 50 → k ≠ 51 → k ≠ 52 → σ'.1 k = σ.1 k) ∧ ∀ k, k ≠ 49 → k ≠ 53 → k ≠ 54 → σ'.2 k = σ.2 k := by
  obtain ⟨lA, lB, pA, pB, hV⟩ := pp_facts hc he
  have hk := kb hc
  have hf2 := full_2 hc he
  have hBIG : BIG = 10000000000000001 := rfl
  unfold f_X3_weigh
  obtain ⟨σ1, a1, a2, a3⟩ := fill_S hc he ht
  have a1' : f_X3_fillValues (nI (full c)) (nI (cK c 0)) σ = some σ1 := a1
  have at1 : atS σ1 1 c := by unfold atS at ha ⊢; rw [a2.1]; exact ha
  obtain ⟨σ2, b1, b2, b3, b4⟩ := list_S (q0 := 51) (F := full c) (k := cK c 1) (σ := σ1) hf2 hk.2.1 lA
  have at2 : atS (stI σ2 50 6 (nI (setsOf (full c) (cK c 1)).length)) 1 c := by
    unfold atS at at1 ⊢
    rw [stI_k (show 1 ≠ 50 by decide), stI_k (show 1 + 1 ≠ 50 by decide), stI_k (show 1 + 2 ≠ 50 by decide), stI_k (show 1 + 3 ≠ 50 by decide), stI_k (show 1 + 4 ≠ 50 by decide), b2 1 (by decide), b2 (1 + 1) (by decide), b2 (1 + 2) (by decide), b2 (1 + 3) (by decide), b2 (1 + 4) (by decide)]; exact at1
  obtain ⟨σ3, c1, c2, c3, c4⟩ := list_S (q0 := 52) (F := full c) (k := cK c 2) (σ := stI σ2 50 6 (nI (setsOf (full c) (cK c 1)).length)) hf2 hk.2.2.1 lB
  generalize eA : setsOf (full c) (cK c 1) = LA at *
  generalize eB : setsOf (full c) (cK c 2) = LB at *
  generalize hσ4 : stI σ3 50 7 (nI LB.length) = σ4
  have k4 : ∀ k, k ≠ 50 → k ≠ 51 → k ≠ 52 → σ4.1 k = σ.1 k := fun k h1 h2 h3 => by
    rw [← hσ4, stI_k h1, c2 k h3, stI_k h1, b2 k h2, a2.1]
  have s4 : σ4.2 = σ1.2 := by rw [← hσ4, stI_2, c3, stI_2, b3]
  have h7 : σ4.1 50 7 = nI LB.length := by rw [← hσ4, stI_s, upd_s]
  have h6 : σ4.1 50 6 = nI LA.length := by rw [← hσ4, stI_s, upd_n (by decide), c2 50 (by decide), stI_s, upd_s]
  have h51 : ppA (σ4.1 51) LA := by rw [← hσ4, stI_k (by decide), c2 51 (by decide), stI_k (by decide)]; exact b4
  have h52 : ppA (σ4.1 52) LB := by rw [← hσ4, stI_k (by decide)]; exact c4
  obtain ⟨σ5, d1, d2, d3, d4⟩ := w50 (n := LB.length) (v2 := nI (full c)) (σ := σ4) lB h7
  obtain ⟨σ6, e1, e2, e3, e4, e5⟩ := w75 (c := c) (LA := LA) (LB := LB) (σ := σ5) hc he eA.symm eB.symm (by rw [d2]; exact h6) (by rw [d2]; exact h7) (by rw [d2]; exact h51) (by rw [d2]; exact h52) (fun S q1 q2 => by rw [d3 49 (by decide), s4]; exact a3 S q1 q2) d4 hV lA lB
  have k6 : σ6.1 = σ4.1 := by rw [e2, d2]
  have bM : ∀ i, i < LA.length → ppM (PV (mOf c) (full c)) LB (LA.getD i 0) LB.length < BIG := fun i hi => by
    have := ppM_le (V := PV (mOf c) (full c)) (LB := LB) (A := LA.getD i 0) LB.length 0 pB
    have := hV _ _ (getD_mem hi) (getD_mem pB)
    omega
  have bX : ∀ j, j < LB.length → ppX (PV (mOf c) (full c)) LA (LB.getD j 0) LA.length < BIG := fun j hj => by
    obtain ⟨k, k1, k2⟩ := ppX_at (V := PV (mOf c) (full c)) (LA := LA) (B := LB.getD j 0) LA.length pA
    rw [k2]; exact hV _ _ (getD_mem k1) (getD_mem hj)
  have e5' : ∀ j, j < LB.length → σ6.2 54 j = lN (ppX (PV (mOf c) (full c)) LA (LB.getD j 0) LA.length) := fun j hj => by
    rw [e5 j hj]; unfold cmL; rw [if_neg (by omega)]
  obtain ⟨nA', hnA⟩ : ∃ n, LA.length = n + 1 := ⟨LA.length - 1, by omega⟩
  obtain ⟨nB', hnB⟩ : ∃ n, LB.length = n + 1 := ⟨LB.length - 1, by omega⟩
  have l105 : loopN (fun t => g_X3_weigh_105 t.1 t.2 σ6) FU (σ6.2 53 0, (1 : Int32)) = some (lN (gG (mOf c) (full c) LA LB)) := by
    have := w105 (n := nA') (f := fun i => ppM (PV (mOf c) (full c)) LB (LA.getD i 0) LB.length) (σ := σ6) (by omega) (by rw [k6, h6, hnA]) (fun i hi => ⟨e4 i (by omega), by have := bM i (by omega); omega⟩)
    rw [this]
    unfold gG
    rw [show LA.length - 1 = nA' by omega]
  have l143 : ∀ v3, loopN (fun t => g_X3_weigh_143 v3 t.1 t.2 σ6) FU (σ6.2 54 0, (1 : Int32)) = some (lN (gH (mOf c) (full c) LA LB)) := fun v3 => by
    have := w143 (n := nB') (f := fun j => ppX (PV (mOf c) (full c)) LA (LB.getD j 0) LA.length) (v3 := v3) (σ := σ6) (by omega) (by rw [k6, h7, hnB]) (fun i hi => ⟨e5' i (by omega), by have := bX i (by omega); omega⟩)
    rw [this]
    unfold gH
    rw [show LB.length - 1 = nB' by omega]
  have bG : gG (mOf c) (full c) LA LB < BIG := by
    obtain ⟨j, j1, j2⟩ := ppG_at (f := fun i => ppM (PV (mOf c) (full c)) LB (LA.getD i 0) LB.length) (LA.length - 1)
    unfold gG
    rw [j2]; exact bM j (by omega)
  have bH : gH (mOf c) (full c) LA LB < BIG := by
    obtain ⟨j, j1, j2⟩ := ppH_at (f := fun j => ppX (PV (mOf c) (full c)) LA (LB.getD j 0) LA.length) (LB.length - 1)
    unfold gH
    rw [j2]; exact bX j (by omega)
  have eGA := GA_eq (m := mOf c) (F := full c) (LA := LA) (LB := LB) pA pB hV
  have eGB := GB_eq (m := mOf c) (F := full c) (LA := LA) (LB := LB) pA pB hV
  have eqL : ∀ x y : Nat, x < BIG → y < BIG → (lN x = lN y ↔ x = y) := fun x y hx hy => fb_lN_inj (by omega) (by omega)
  rw [set_S hc ha he, Option.bind_some, need_S ha, Option.bind_some, a1', Option.bind_some, (str_S at1).1, Option.bind_some, b1, Option.bind_some, uc_eq, lm_eq, (str_S at2).2, Option.bind_some, c1, Option.bind_some, uc_eq, lm_eq, hσ4, d1, Option.bind_some, e1, Option.bind_some, chk_t ib_0_220, tn_0, l105, Option.bind_some, chk_t ib_0_220, l143, Option.bind_some, k6, h6]
  unfold ppC
  rw [eA, eB, eGA, eGB]
  have o49 : ∀ k, k ≠ 49 → k ≠ 53 → k ≠ 54 → σ6.2 k = σ.2 k := fun k q1 q2 q3 => by rw [e3 k q2 q3, d3 k q3, s4, a2.2 k q1]
  by_cases hs : gG (mOf c) (full c) LA LB = gH (mOf c) (full c) LA LB
  · have hs' : lN (gG (mOf c) (full c) LA LB) = lN (gH (mOf c) (full c) LA LB) := by rw [hs]
    rw [if_pos hs, if_pos hs, if_pos hs']
    obtain ⟨σ7, f1, f2, f3, f4⟩ := keep_S (q0 := 51) (q1 := 53) (L := LA) (p := fun A => decide (ppM (PV (mOf c) (full c)) LB A LB.length = gG (mOf c) (full c) LA LB)) (g := lN (gG (mOf c) (full c) LA LB)) (σ := σ6) lA (by rw [k6]; exact h51) (fun i hi => by rw [e4 i hi, eqL _ _ (bM i hi) bG, decide_eq_true_eq])
    rw [f1, Option.bind_some, uc_eq, Option.bind_some, lm_eq]
    dsimp only
    generalize hσ8 : stI σ7 50 6 (nI (LA.filter (fun A => decide (ppM (PV (mOf c) (full c)) LB A LB.length = gG (mOf c) (full c) LA LB))).length) = σ8
    have g7 : σ8.1 50 7 = nI LB.length := by rw [← hσ8, stI_s, upd_n (by decide), f2 50 (by decide), k6]; exact h7
    obtain ⟨σ9, i1, i2, i3, i4⟩ := keep_S (q0 := 52) (q1 := 54) (L := LB) (p := fun B => decide (ppX (PV (mOf c) (full c)) LA B LA.length = gH (mOf c) (full c) LA LB)) (g := lN (gH (mOf c) (full c) LA LB)) (σ := σ8) lB (by rw [← hσ8, stI_k (by decide), f2 52 (by decide), k6]; exact h52) (fun i hi => by rw [← hσ8, stI_2, f3, e5' i hi, eqL _ _ (bX i hi) bH, decide_eq_true_eq])
    rw [if_pos hs', g7, i1, Option.bind_some, uc_eq, lm_eq]
    refine ⟨_, rfl, ⟨he, ?_, ?_, fun i A hA => ?_, fun i B hB => ?_⟩, fun k q1 q2 q3 => ?_, fun k q1 q2 q3 => ?_⟩
    · rw [stI_s, upd_n (by decide), i2 50 (by decide), ← hσ8, stI_s, upd_s]
    · rw [stI_s, upd_s]
    · rw [stI_k (by decide), i2 51 (by decide), ← hσ8, stI_k (by decide)]; exact f4 i A hA
    · rw [stI_k (by decide)]; exact i4 i B hB
    · rw [stI_k q1, i2 k q3, ← hσ8, stI_k q1, f2 k q2, k6]; exact k4 k q1 q2 q3
    · rw [stI_2, i3, ← hσ8, stI_2, f3]; exact o49 k q1 q2 q3
  · rw [if_neg hs, if_neg hs, if_neg (fun q => hs ((eqL _ _ bG bH).mp q)), Option.bind_some, lm_eq]
    dsimp only
    rw [if_neg (fun q => hs ((eqL _ _ bG bH).mp q)), lm_eq]
    refine ⟨_, rfl, ⟨he, ?_, ?_, fun i A hA => ?_, fun i B hB => ?_⟩, fun k q1 q2 q3 => ?_, fun k q1 q2 q3 => ?_⟩
    · rw [stI_s, upd_n (by decide), stI_s, upd_s]; rfl
    · rw [stI_s, upd_s]; rfl
    · simp at hA
    · simp at hB
    · rw [stI_k q1, stI_k q1, k6]; exact k4 k q1 q2 q3
    · exact o49 k q1 q2 q3
