/-! the reference's rows and columns -/
def lnI (b : Nat) (x : Int64) (v : Nat) : Prop := b = 0 ∨ x = lN v
theorem fp126 {c : Cr} {ν : MM} {LA LB : List Nat} {i : Nat} (hc : okC c) (he : enough c) (hr : atR ν c) (eA : LA = setsOf (full c) (cK c 1)) (eB : LB = setsOf (full c) (cK c 2)) (hi : i < LA.length) (h27 : ν.1 0 27 = nI LB.length) (hA : ppA (ν.1 15) LA) (hB : ppA (ν.1 16) LB) (hf : ∀ S, S ≤ full c → cnt S 12 = cK c 0 → ν.2 10 S = lN (CH (mOf c) S)) (hV : ∀ A B, A ∈ LA → B ∈ LB → PV (mOf c) (full c) A B < BIG) (lA : LA.length ≤ 220) (lB : LB.length ≤ 220)
    (hx : ∀ j, j < LB.length → lnI i (ν.2 17 j) (ppX (PV (mOf c) (full c)) LA (LB.getD j 0) i)) :
    ∃ ν', loopN (fun t => g_X7_findPaper_126 (nI i) t.1 t.2) FU ((0 : Int32), ν) = some ν' ∧ ν'.1 = ν.1 ∧ (∀ k, k ≠ 17 → k ≠ 18 → ν'.2 k = ν.2 k) ∧ (∀ q, q ≠ i → ν'.2 18 q = ν.2 18 q) ∧ lnI LB.length (ν'.2 18 i) (ppM (PV (mOf c) (full c)) LB (LA.getD i 0) LB.length) ∧ ∀ j, j < LB.length → ν'.2 17 j = lN (ppX (PV (mOf c) (full c)) LA (LB.getD j 0) (i + 1)) := by
  have hf2 := full_2 hc he
  have hBIG : BIG = 10000000000000001 := rfl
  have mA : LA.getD i 0 ∈ LA := getD_mem hi
  have mA' := mA
  rw [eA, sets_mem] at mA'
  refine lp_0 (fun j t => t.1 = nI j ∧ t.2.1 = ν.1 ∧ (∀ k, k ≠ 17 → k ≠ 18 → t.2.2 k = ν.2 k) ∧ (∀ q, q ≠ i → t.2.2 18 q = ν.2 18 q) ∧ lnI j (t.2.2 18 i) (ppM (PV (mOf c) (full c)) LB (LA.getD i 0) j) ∧ (∀ q, q < j → t.2.2 17 q = lN (ppX (PV (mOf c) (full c)) LA (LB.getD q 0) (i + 1))) ∧ ∀ q, j ≤ q → t.2.2 17 q = ν.2 17 q) _ LB.length _ (by omega) ⟨rfl, rfl, fun _ _ _ => rfl, fun _ _ => rfl, Or.inl rfl, fun q hq => by omega, fun _ _ => rfl⟩ ?_ ?_
  · rintro j ⟨x, τ⟩ hj ⟨f1, f2, f3, f4, f5, f6, f7⟩
    dsimp only at f1 f2 f3 f4 f5 f6 f7
    subst f1
    have br : atR τ c := by unfold atR at hr ⊢; rw [f2]; exact hr
    have mB : LB.getD j 0 ∈ LB := getD_mem hj
    have mB' := mB
    rw [eB, sets_mem] at mB'
    have cA : cnt (LA.getD i 0) 12 = cK c 1 := by rw [eA]; exact mA'.2
    have cB : cnt (LB.getD j 0) 12 = cK c 2 := by rw [eB]; exact mB'.2
    obtain ⟨hj1, hj2⟩ := PJ_jur hc he cA cB
    have hPJ : PJ (mOf c) (full c) (LA.getD i 0) (LB.getD j 0) ≤ full c := sub_le (sub_tr (frs_sub _ _) (fun q hq => by
      unfold dif at hq
      rw [dif_b] at hq
      exact (Bool.and_eq_true _ _ ▸ hq).1))
    have hval : τ.2 10 (PJ (mOf c) (full c) (LA.getD i 0) (LB.getD j 0)) = lN (PV (mOf c) (full c) (LA.getD i 0) (LB.getD j 0)) := by
      rw [f3 10 (by decide) (by decide)]; exact hf _ hPJ hj1.2
    have hv := hV _ _ mA mB
    have hAi := ppA_g hA hi
    have hBj := ppA_g hB hj
    generalize hVV : PV (mOf c) (full c) (LA.getD i 0) (LB.getD j 0) = v at hv hval
    have hXv : ppX (PV (mOf c) (full c)) LA (LB.getD j 0) (i + 1) = max (ppX (PV (mOf c) (full c)) LA (LB.getD j 0) i) v := by rw [← hVV]; rfl
    have hMv : ppM (PV (mOf c) (full c)) LB (LA.getD i 0) (j + 1) = min (ppM (PV (mOf c) (full c)) LB (LA.getD i 0) j) v := by rw [← hVV]; rfl
    have hXb : i ≠ 0 → ppX (PV (mOf c) (full c)) LA (LB.getD j 0) i < BIG := fun h0 => by
      obtain ⟨k, k1, k2⟩ := ppX_at (V := PV (mOf c) (full c)) (LA := LA) (B := LB.getD j 0) i (by omega)
      rw [k2]; exact hV _ _ (getD_mem (by omega)) mB
    have hMb : j ≠ 0 → ppM (PV (mOf c) (full c)) LB (LA.getD i 0) j < BIG := fun h0 => by
      have := ppM_le (V := PV (mOf c) (full c)) (LB := LB) (A := LA.getD i 0) j 0 (by omega)
      have := hV _ _ mA (getD_mem (show 0 < LB.length by omega))
      omega
    have h17 : lnI i (τ.2 17 j) (ppX (PV (mOf c) (full c)) LA (LB.getD j 0) i) := by rw [f7 j (Nat.le_refl _)]; exact hx j hj
    show ∃ s', g_X7_findPaper_126 (nI i) (nI j) τ = some (.inl s') ∧ _
    unfold g_X7_findPaper_126
    rw [f2, h27, if_neg (nI_ge hj (by omega)), chk_t (inb_nI (by omega) (by omega)), chk_t (inb_nI (by omega) (by omega)), nI_c (show i < 2147483648 by omega), nI_c (show j < 2147483648 by omega), hAi, hBj, juryOf_M hc he br, Option.bind_some, chk_t (inb_nI (by omega) (by omega)), nI_c (by omega), hval]
    -- the column
    have s1 : ∃ τ1, (if nI i = 0 then chk (inb (nI j) 220) (lm (stL τ 17 j (lN v)) (fun σ36 => some σ36)) else chk (inb (nI j) 220) (if lN v ≤ τ.2 17 j then some τ else chk (inb (nI j) 220) (lm (stL τ 17 j (lN v)) (fun σ37 => some σ37)))) = some τ1 ∧ τ1.1 = τ.1 ∧ (∀ k, k ≠ 17 → τ1.2 k = τ.2 k) ∧ (∀ q, q ≠ j → τ1.2 17 q = τ.2 17 q) ∧ τ1.2 17 j = lN (ppX (PV (mOf c) (full c)) LA (LB.getD j 0) (i + 1)) := by
      rw [hXv]
      by_cases h0 : i = 0
      · rw [if_pos (by rw [h0]; rfl), chk_t (inb_nI (by omega) (by omega)), lm_eq]
        refine ⟨_, rfl, rfl, fun k hk => stL_k hk, fun q hq => by rw [stL_s, updL_n hq], ?_⟩
        rw [stL_s, updL_s, h0]
        show lN v = lN (max 0 v)
        rw [Nat.max_eq_right (Nat.zero_le _)]
      · have h17' := h17.resolve_left h0
        have hb := hXb h0
        rw [if_neg (nI_ne (by omega) (by omega)), chk_t (inb_nI (by omega) (by omega)), h17']
        by_cases hle : v ≤ ppX (PV (mOf c) (full c)) LA (LB.getD j 0) i
        · rw [if_pos ((lN_leJ (by omega) (by omega)).mpr hle)]
          exact ⟨τ, rfl, rfl, fun _ _ => rfl, fun _ _ => rfl, by rw [h17', Nat.max_eq_left hle]⟩
        · rw [if_neg (fun q => hle ((lN_leJ (by omega) (by omega)).mp q)), chk_t (inb_nI (by omega) (by omega)), lm_eq]
          refine ⟨_, rfl, rfl, fun k hk => stL_k hk, fun q hq => by rw [stL_s, updL_n hq], ?_⟩
          rw [stL_s, updL_s, Nat.max_eq_right (by omega)]
    obtain ⟨τ1, g1, g2, g3, g4, g5⟩ := s1
    rw [g1, Option.bind_some]
    have h18 : lnI j (τ1.2 18 i) (ppM (PV (mOf c) (full c)) LB (LA.getD i 0) j) := by rw [g3 18 (by decide)]; exact f5
    have fin : ∀ τ2 : MM, τ2.1 = τ1.1 → (∀ k, k ≠ 18 → τ2.2 k = τ1.2 k) → (∀ q, q ≠ i → τ2.2 18 q = τ1.2 18 q) → τ2.2 18 i = lN (ppM (PV (mOf c) (full c)) LB (LA.getD i 0) (j + 1)) → ∃ s', some (Sum.inl (nI j + 1, τ2)) = some (Sum.inl s' : (Int32 × MM) ⊕ MM) ∧ s'.1 = nI (j + 1) ∧ s'.2.1 = ν.1 ∧ (∀ k, k ≠ 17 → k ≠ 18 → s'.2.2 k = ν.2 k) ∧ (∀ q, q ≠ i → s'.2.2 18 q = ν.2 18 q) ∧ lnI (j + 1) (s'.2.2 18 i) (ppM (PV (mOf c) (full c)) LB (LA.getD i 0) (j + 1)) ∧ (∀ q, q < j + 1 → s'.2.2 17 q = lN (ppX (PV (mOf c) (full c)) LA (LB.getD q 0) (i + 1))) ∧ ∀ q, j + 1 ≤ q → s'.2.2 17 q = ν.2 17 q := by
      intro τ2 t1 t2 t3 t4
      refine ⟨_, rfl, nI_1 j, by show τ2.1 = _; rw [t1, g2, f2], fun k h1 h2 => ?_, fun q hq => ?_, Or.inr t4, fun q hq => ?_, fun q hq => ?_⟩
      · show τ2.2 k = _
        rw [t2 k h2, g3 k h1]; exact f3 k h1 h2
      · show τ2.2 18 q = _
        rw [t3 q hq, g3 18 (by decide)]; exact f4 q hq
      · show τ2.2 17 q = _
        rw [t2 17 (by decide)]
        by_cases e : q = j
        · rw [e]; exact g5
        · rw [g4 q e]; exact f6 q (by omega)
      · show τ2.2 17 q = _
        rw [t2 17 (by decide), g4 q (by omega)]; exact f7 q (by omega)
    by_cases h0 : j = 0
    · rw [if_pos (by rw [h0]; rfl), chk_t (inb_nI (by omega) (by omega)), lm_eq]
      refine fin _ rfl (fun k hk => stL_k hk) (fun q hq => by rw [stL_s, updL_n hq]) ?_
      rw [stL_s, updL_s, hMv, h0]
      show lN v = lN (min BIG v)
      rw [Nat.min_eq_right (by omega)]
    · have h18' := h18.resolve_left h0
      have hb := hMb h0
      rw [if_neg (nI_ne (by omega) (by omega)), chk_t (inb_nI (by omega) (by omega)), h18']
      by_cases hle : ppM (PV (mOf c) (full c)) LB (LA.getD i 0) j ≤ v
      · rw [if_pos ((lN_leJ (by omega) (by omega)).mpr hle)]
        exact fin τ1 rfl (fun _ _ => rfl) (fun _ _ => rfl) (by rw [h18', hMv, Nat.min_eq_left hle])
      · rw [if_neg (fun q => hle ((lN_leJ (by omega) (by omega)).mp q)), chk_t (inb_nI (by omega) (by omega)), lm_eq]
        refine fin _ rfl (fun k hk => stL_k hk) (fun q hq => by rw [stL_s, updL_n hq]) ?_
        rw [stL_s, updL_s, hMv, Nat.min_eq_right (by omega)]
  · rintro ⟨x, τ⟩ ⟨f1, f2, f3, f4, f5, f6, f7⟩
    dsimp only at f1 f2 f3 f4 f5 f6 f7
    subst f1
    refine ⟨τ, ?_, f2, f3, f4, f5, f6⟩
    show g_X7_findPaper_126 (nI i) (nI LB.length) τ = _
    unfold g_X7_findPaper_126
    rw [f2, h27, if_pos (nI_le (Nat.le_refl _) (by omega))]
/-- what the reference knows of papers -/
def pmC (μ : MM) (c : Cr) (LA LB : List Nat) : Prop := μ.1 0 26 = nI LA.length ∧ μ.1 0 27 = nI LB.length ∧ ppA (μ.1 15) LA ∧ ppA (μ.1 16) LB ∧ (∀ S, S ≤ full c → cnt S 12 = cK c 0 → μ.2 10 S = lN (CH (mOf c) S)) ∧ (∀ i, i < LA.length → μ.2 18 i = lN (ppM (PV (mOf c) (full c)) LB (LA.getD i 0) LB.length)) ∧ ∀ j, j < LB.length → μ.2 17 j = lN (ppX (PV (mOf c) (full c)) LA (LB.getD j 0) LA.length)
theorem paper_M {s : St} {μ : MM} (h' : RelM s μ) (he : enough (sC s)) : ∃ μ', f_X7_findPaper μ = some μ' ∧ RelM s μ' ∧ hdAt μ' (mOf (sC s)) ∧ pmC μ' (sC s) (setsOf (full (sC s)) (cK (sC s) 1)) (setsOf (full (sC s)) (cK (sC s) 2)) := by
  obtain ⟨μ1, m1, m2, m3⟩ := RelM_hold h'
  obtain ⟨⟨c0, b0⟩, -⟩ := id m2
  obtain ⟨lA, lB, pA, pB, hV⟩ := pp_facts c0 he
  unfold f_X7_findPaper
  rw [m1, Option.bind_some, lm_eq, lm_eq]
  generalize hμ2 : stI (stI μ1 0 26 0) 0 27 0 = μ2
  have k2 : ∀ k, k ≠ 0 → μ2.1 k = μ1.1 k := fun k hk => by rw [← hμ2, stI_k hk, stI_k hk]
  have p2 : ∀ p, p ≠ 26 → p ≠ 27 → μ2.1 0 p = μ1.1 0 p := fun p h1 h2 => by rw [← hμ2, stI_s, upd_n h2, stI_s, upd_n h1]
  have br2 : atR μ2 (sC s) := by
    unfold atR at b0 ⊢
    rw [p2 6 (by decide) (by decide), k2 2 (by decide), k2 3 (by decide), k2 4 (by decide)]; exact b0
  have hd2 : hdAt μ2 (mOf (sC s)) := by
    unfold hdAt at m3 ⊢
    rw [p2 6 (by decide) (by decide), k2 4 (by decide), k2 8 (by decide)]; exact m3
  obtain ⟨μ3, a1, a2, a3, a4, a5, a6, a7, a8⟩ := fp16 c0 he br2 hd2 (by rw [← hμ2, stI_s, upd_n (by decide), stI_s, upd_s]) (by rw [← hμ2, stI_s, upd_s])
  rw [a1, Option.bind_some]
  generalize eA : setsOf (full (sC s)) (cK (sC s) 1) = LA at *
  generalize eB : setsOf (full (sC s)) (cK (sC s) 2) = LB at *
  have br3 : atR μ3 (sC s) := by
    unfold atR at br2 ⊢
    rw [a3 6 (by decide) (by decide), a2 2 (by decide) (by decide) (by decide), a2 3 (by decide) (by decide) (by decide), a2 4 (by decide) (by decide) (by decide)]; exact br2
  have hq := lp_0 (step := fun t => g_X7_findPaper_116 t.1 t.2) (fun i t => t.1 = nI i ∧ t.2.1 = μ3.1 ∧ (∀ k, k ≠ 17 → k ≠ 18 → t.2.2 k = μ3.2 k) ∧ (∀ q, q < i → t.2.2 18 q = lN (ppM (PV (mOf (sC s)) (full (sC s))) LB (LA.getD q 0) LB.length)) ∧ ∀ j, j < LB.length → lnI i (t.2.2 17 j) (ppX (PV (mOf (sC s)) (full (sC s))) LA (LB.getD j 0) i))
    (fun r => r.1 = μ3.1 ∧ (∀ k, k ≠ 17 → k ≠ 18 → r.2 k = μ3.2 k) ∧ (∀ q, q < LA.length → r.2 18 q = lN (ppM (PV (mOf (sC s)) (full (sC s))) LB (LA.getD q 0) LB.length)) ∧ ∀ j, j < LB.length → lnI LA.length (r.2 17 j) (ppX (PV (mOf (sC s)) (full (sC s))) LA (LB.getD j 0) LA.length)) LA.length ((0 : Int32), μ3) (by omega) ⟨rfl, rfl, fun _ _ _ => rfl, fun q hq => by omega, fun j _ => Or.inl rfl⟩ ?_ ?_
  · obtain ⟨r, r1, r2, r3, r4, r5⟩ := hq
    refine ⟨r, by rw [r1]; rfl, RelM_keep m2 (fun p hp => ?_) (fun k hk => ?_), ?_, ?_, ?_, ?_, ?_, fun S h1 h2 => ?_, r4, fun j hj => (r5 j hj).resolve_left (by omega)⟩
    · rw [r2, a3 p (fun e => by revert hp; rw [e]; decide) (fun e => by revert hp; rw [e]; decide), p2 p (fun e => by revert hp; rw [e]; decide) (fun e => by revert hp; rw [e]; decide)]
    · rw [r2, a2 k (fun e => by revert hk; rw [e]; decide) (fun e => by revert hk; rw [e]; decide) (fun e => by revert hk; rw [e]; decide), k2 k (fun e => by revert hk; rw [e]; decide)]
    · unfold hdAt at hd2 ⊢
      rw [r2, a3 6 (by decide) (by decide), a2 4 (by decide) (by decide) (by decide), a2 8 (by decide) (by decide) (by decide)]; exact hd2
    · rw [r2]; exact a4
    · rw [r2]; exact a5
    · rw [r2]; exact a6
    · rw [r2]; exact a7
    · rw [r3 10 (by decide) (by decide)]; exact a8 S h1 h2
  · rintro i ⟨x, τ⟩ hi ⟨f1, f2, f3, f4, f5⟩
    dsimp only at f1 f2 f3 f4 f5
    subst f1
    obtain ⟨τ', t1, t2, t3, t4, t5, t6⟩ := fp126 (c := sC s) (ν := τ) (LA := LA) (LB := LB) c0 he (by unfold atR at br3 ⊢; rw [f2]; exact br3) eA.symm eB.symm hi (by rw [f2]; exact a5) (by rw [f2]; exact a6) (by rw [f2]; exact a7) (fun S h1 h2 => by rw [f3 10 (by decide) (by decide)]; exact a8 S h1 h2) hV lA lB f5
    show ∃ s', g_X7_findPaper_116 (nI i) τ = some (.inl s') ∧ _
    unfold g_X7_findPaper_116
    rw [f2, a4, if_neg (nI_ge hi (by omega)), t1, Option.bind_some]
    refine ⟨_, rfl, nI_1 i, by show τ'.1 = _; rw [t2, f2], fun k h1 h2 => by show τ'.2 k = _; rw [t3 k h1 h2]; exact f3 k h1 h2, fun q hq => ?_, fun j hj => Or.inr (t6 j hj)⟩
    show τ'.2 18 q = _
    by_cases e : q = i
    · rw [e]; exact t5.resolve_left (by omega)
    · rw [t4 q e]; exact f4 q (by omega)
  · rintro ⟨x, τ⟩ ⟨f1, f2, f3, f4, f5⟩
    dsimp only at f1 f2 f3 f4 f5
    subst f1
    refine ⟨τ, ?_, f2, f3, f4, f5⟩
    show g_X7_findPaper_116 (nI LA.length) τ = _
    unfold g_X7_findPaper_116
    rw [f2, a4, if_pos (nI_le (Nat.le_refl _) (by omega))]
