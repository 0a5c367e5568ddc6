/-! RESTS -/
theorem know_P {s : St} {σ : MM} (h : RelS s σ) (he : enough (sC s)) : ∃ σ', f_X6_knowPaper σ = some σ' ∧ RelS s σ' ∧ ppC σ' (sC s) := by
  obtain ⟨⟨c0, a0, d0⟩, r1, r2, r3, r4, r5, r6, r7⟩ := id h
  unfold f_X6_knowPaper
  rcases r6 with r6 | ⟨r6, r6'⟩
  · obtain ⟨σ1, s1, s2, s3, s4, s5⟩ := know_S h he
    obtain ⟨⟨-, a1, d1⟩, u1, u2, u3, u4, u5, u6, u7⟩ := id s2
    obtain ⟨σ2, t1, t2, t3, t4⟩ := weigh_S c0 he a1 s3
    have hz : ∀ k, k ≠ 0 → k ≠ 50 → k ≠ 51 → k ≠ 52 → (stI σ2 0 14 1).1 k = σ1.1 k := fun k h1 h2 h3 h4 => by rw [stI_k h1]; exact t3 k h2 h3 h4
    have hp : ∀ p, p ≠ 14 → (stI σ2 0 14 1).1 0 p = σ1.1 0 p := fun p h1 => by rw [stI_s, upd_n h1, t3 0 (by decide) (by decide) (by decide)]
    have hpp : ppC (stI σ2 0 14 1) (sC s) := by
      unfold ppC at t2 ⊢
      rw [stI_k (show 50 ≠ 0 by decide), stI_k (show 51 ≠ 0 by decide), stI_k (show 52 ≠ 0 by decide)]; exact t2
    have h45 : (stI σ2 0 14 1).2 (42 + 3) = σ1.2 (42 + 3) := t4 45 (by decide) (by decide) (by decide)
    refine ⟨stI σ2 0 14 1, ?_, ⟨⟨c0, ?_, ?_⟩, ?_, ?_, ?_, ?_, ?_, Or.inr ⟨?_, hpp⟩, ?_⟩, hpp⟩
    · rw [r6, if_pos z00, s1, Option.bind_some, t1, Option.bind_some, chk_t isB_1, lm_eq]
    · unfold atS at a1 ⊢
      rw [hz 1 (by decide) (by decide) (by decide) (by decide), hz (1 + 1) (by decide) (by decide) (by decide) (by decide), hz (1 + 2) (by decide) (by decide) (by decide) (by decide), hz (1 + 3) (by decide) (by decide) (by decide) (by decide), hz (1 + 4) (by decide) (by decide) (by decide) (by decide)]; exact a1
    · unfold mdAt at d1 ⊢
      rw [hz 16 (by decide) (by decide) (by decide) (by decide), hz (16 + 1) (by decide) (by decide) (by decide) (by decide), hz (16 + 2) (by decide) (by decide) (by decide) (by decide)]; exact d1
    · unfold rowS at u1 ⊢; rw [hp 5 (by decide), hz 14 (by decide) (by decide) (by decide) (by decide)]; exact u1
    · unfold txtS at u2 ⊢; rw [hz 11 (by decide) (by decide) (by decide) (by decide), hz 12 (by decide) (by decide) (by decide) (by decide)]; exact u2
    · unfold refS at u3 ⊢; rw [hz 15 (by decide) (by decide) (by decide) (by decide)]; exact u3
    · unfold imgS atS at u4 ⊢
      rw [hp 2 (by decide), hz 6 (by decide) (by decide) (by decide) (by decide), hz (6 + 1) (by decide) (by decide) (by decide) (by decide), hz (6 + 2) (by decide) (by decide) (by decide) (by decide), hz (6 + 3) (by decide) (by decide) (by decide) (by decide), hz (6 + 4) (by decide) (by decide) (by decide) (by decide)]; exact u4
    · unfold kn tnC tnOK at u5 ⊢; rw [hp 13 (by decide), hz 42 (by decide) (by decide) (by decide) (by decide), h45]; exact u5
    · rw [stI_s, upd_s]
    · unfold kn cmC tnC tnOK at u7 ⊢; rw [hp 15 (by decide), hz 42 (by decide) (by decide) (by decide) (by decide), hz 55 (by decide) (by decide) (by decide) (by decide), h45]; exact u7
  · exact ⟨σ, by rw [r6, if_neg n10], h, r6'⟩
/-! the reference's paper -/
theorem fp16 {c : Cr} {μ : MM} (hc : okC c) (he : enough c) (hr : atR μ c) (hd : hdAt μ (mOf c)) (h26 : μ.1 0 26 = 0) (h27 : μ.1 0 27 = 0) :
    ∃ μ', loopN (fun t => g_X7_findPaper_16 t.1 t.2) FU ((0 : Int32), μ) = some μ' ∧ (∀ k, k ≠ 0 → k ≠ 15 → k ≠ 16 → μ'.1 k = μ.1 k) ∧ (∀ p, p ≠ 26 → p ≠ 27 → μ'.1 0 p = μ.1 0 p) ∧ μ'.1 0 26 = nI (setsOf (full c) (cK c 1)).length ∧ μ'.1 0 27 = nI (setsOf (full c) (cK c 2)).length ∧ ppA (μ'.1 15) (setsOf (full c) (cK c 1)) ∧ ppA (μ'.1 16) (setsOf (full c) (cK c 2)) ∧ ∀ S, S ≤ full c → cnt S 12 = cK c 0 → μ'.2 10 S = lN (CH (mOf c) S) := by
  obtain ⟨lA, lB, -, -, -⟩ := pp_facts hc he
  have hk := kb hc
  have hf2 := full_2 hc he
  have hpre : ∀ k i, i ≤ full c + 1 → ppL i k <+: setsOf (full c) k := fun k i hi => by
    have := ppL_pre i k (full c + 1 - i)
    rw [show i + (full c + 1 - i) = full c + 1 by omega] at this
    exact this
  have hq := lp_inv (step := fun t => g_X7_findPaper_16 t.1 t.2) (fun i t => t.1 = nI i ∧ (∀ k, k ≠ 0 → k ≠ 15 → k ≠ 16 → t.2.1 k = μ.1 k) ∧ (∀ p, p ≠ 26 → p ≠ 27 → t.2.1 0 p = μ.1 0 p) ∧ t.2.1 0 26 = nI (ppL i (cK c 1)).length ∧ t.2.1 0 27 = nI (ppL i (cK c 2)).length ∧ ppA (t.2.1 15) (ppL i (cK c 1)) ∧ ppA (t.2.1 16) (ppL i (cK c 2)) ∧ ∀ S, S < i → cnt S 12 = cK c 0 → t.2.2 10 S = lN (CH (mOf c) S))
    (fun r => (∀ k, k ≠ 0 → k ≠ 15 → k ≠ 16 → r.1 k = μ.1 k) ∧ (∀ p, p ≠ 26 → p ≠ 27 → r.1 0 p = μ.1 0 p) ∧ r.1 0 26 = nI (setsOf (full c) (cK c 1)).length ∧ r.1 0 27 = nI (setsOf (full c) (cK c 2)).length ∧ ppA (r.1 15) (setsOf (full c) (cK c 1)) ∧ ppA (r.1 16) (setsOf (full c) (cK c 2)) ∧ ∀ S, S ≤ full c → cnt S 12 = cK c 0 → r.2 10 S = lN (CH (mOf c) S)) (full c + 1) ?_ ?_ FU 0 ((0 : Int32), μ) (by omega) (by unfold FU; omega) ⟨rfl, fun _ _ _ _ => rfl, fun _ _ _ => rfl, h26, h27, ppA_nil _, ppA_nil _, fun S hS => by omega⟩
  · exact hq
  · rintro i ⟨x, τ⟩ hi ⟨f1, f2, f3, f4, f5, f6, f7, f8⟩
    dsimp only at f1 f2 f3 f4 f5 f6 f7 f8
    subst f1
    have br : atR τ c := by
      unfold atR at hr ⊢
      rw [f3 6 (by decide) (by decide), f2 2 (by decide) (by decide) (by decide), f2 3 (by decide) (by decide) (by decide), f2 4 (by decide) (by decide) (by decide)]; exact hr
    have hdτ : hdAt τ (mOf c) := by
      unfold hdAt at hd ⊢
      rw [f3 6 (by decide) (by decide), f2 4 (by decide) (by decide) (by decide), f2 8 (by decide) (by decide) (by decide)]; exact hd
    have hcl := cnt_le i 12
    show ∃ s', g_X7_findPaper_16 (nI i) τ = some (.inl s') ∧ _
    unfold g_X7_findPaper_16
    rw [cset_M hc br, Option.bind_some, if_neg (nI_nlt (by omega) (by omega)), bits_M (by omega), Option.bind_some, need_M br, Option.bind_some]
    -- the chance of a jury
    have st1 : ∃ τ1, (if nI (cnt i 12) = nI (cK c 0) then (f_X7_chanceOf (nI i) τ).bind (uc (fun r23 σ24 => chk (inb (nI i) 4096) (lm (stL σ24 10 (nI i).toNatClampNeg r23) (fun σ25 => some σ25)))) else some τ) = some τ1 ∧ τ1.1 = τ.1 ∧ ∀ S, S < i + 1 → cnt S 12 = cK c 0 → τ1.2 10 S = lN (CH (mOf c) S) := by
      by_cases hc0 : cnt i 12 = cK c 0
      · have hj : jur (mOf c) i := by
          refine ⟨?_, hc0⟩
          have := full_lt he
          show i < 2 ^ cP c
          omega
        obtain ⟨ν, n1, n2⟩ := chance_M (S := i) (okM_of hc) hdτ hj
        rw [if_pos (show nI (cnt i 12) = nI (cK c 0) by rw [hc0]), n1, Option.bind_some, uc_eq, chk_t (inb_nI (by omega) (by omega)), lm_eq, nI_c (by omega)]
        refine ⟨_, rfl, n2.1, fun S hS hcS => ?_⟩
        rw [stL_s]
        by_cases e : S = i
        · rw [e, updL_s]
        · rw [updL_n e, n2.2 10 (by decide)]; exact f8 S (by omega) hcS
      · rw [if_neg (fun q => hc0 ((nI_eq_iff (by omega) (by omega)).mp q))]
        refine ⟨τ, rfl, rfl, fun S hS hcS => ?_⟩
        by_cases e : S = i
        · rw [e] at hcS; exact absurd hcS hc0
        · exact f8 S (by omega) hcS
    obtain ⟨τ1, e1, e2, e3⟩ := st1
    have hlA := (hpre (cK c 1) (i + 1) (by omega)).length_le
    have hlB := (hpre (cK c 2) (i + 1) (by omega)).length_le
    rw [e1, Option.bind_some, chk_t ib_1_5, tn_1, e2, br.2.2.2 1 (by decide), f4]
    have st2 : ∃ τ2, (if nI (cnt i 12) = nI (cK c 1) then chk (inb (nI (ppL i (cK c 1)).length) 220) (lm (stI τ1 15 (nI (ppL i (cK c 1)).length).toNatClampNeg (nI i)) (fun σ21 => lm (stI σ21 0 26 ((σ21.1 0 26) + (1 : Int32))) (fun σ22 => some σ22))) else some τ1) = some τ2 ∧ (∀ k, k ≠ 0 → k ≠ 15 → τ2.1 k = τ.1 k) ∧ (∀ p, p ≠ 26 → τ2.1 0 p = τ.1 0 p) ∧ τ2.1 0 26 = nI (ppL (i + 1) (cK c 1)).length ∧ ppA (τ2.1 15) (ppL (i + 1) (cK c 1)) ∧ τ2.2 = τ1.2 := by
      rw [ppL_s] at hlA ⊢
      by_cases hc1 : cnt i 12 = cK c 1
      · rw [if_pos hc1, List.length_append] at hlA
        have hlA' : (ppL i (cK c 1)).length + 1 ≤ 220 := Nat.le_trans hlA lA
        rw [if_pos (show nI (cnt i 12) = nI (cK c 1) by rw [hc1]), chk_t (inb_nI (by omega) (by omega)), lm_eq, lm_eq, nI_c (by omega), stI_k (show 0 ≠ 15 by decide), e2, f4, nI_1, if_pos hc1]
        refine ⟨_, rfl, fun k h1 h2 => ?_, fun p h1 => ?_, ?_, ?_, rfl⟩
        · rw [stI_k h1, stI_k h2, e2]
        · rw [stI_s, upd_n h1, stI_k (by decide), e2]
        · rw [stI_s, upd_s, List.length_append]; rfl
        · rw [stI_k (by decide), stI_s, e2]; exact ppA_snoc f6
      · rw [if_neg (fun q => hc1 ((nI_eq_iff (by omega) (by omega)).mp q)), if_neg hc1]
        exact ⟨τ1, rfl, fun k _ _ => by rw [e2], fun p _ => by rw [e2], by rw [e2]; exact f4, by rw [e2]; exact f6, rfl⟩
    obtain ⟨τ2, g1, g2, g3, g4, g5, g6⟩ := st2
    rw [g1, Option.bind_some, chk_t ib_2_5, tn_2, g2 4 (by decide) (by decide), br.2.2.2 2 (by decide), g3 27 (by decide), f5]
    have hcount : (if cnt i 12 = cK c 2 then ppL i (cK c 2) ++ [i] else ppL i (cK c 2)) = ppL (i + 1) (cK c 2) := (ppL_s _ _).symm
    by_cases hc2 : cnt i 12 = cK c 2
    · rw [ppL_s, if_pos hc2, List.length_append] at hlB
      have hlB' : (ppL i (cK c 2)).length + 1 ≤ 220 := Nat.le_trans hlB lB
      rw [if_pos (show nI (cnt i 12) = nI (cK c 2) by rw [hc2]), chk_t (inb_nI (by omega) (by omega)), lm_eq, lm_eq, nI_c (by omega), stI_k (show 0 ≠ 16 by decide), g3 27 (by decide), f5, nI_1 (ppL i (cK c 2)).length]
      refine ⟨_, rfl, nI_1 i, fun k h1 h2 h3 => ?_, fun p h1 h2 => ?_, ?_, ?_, ?_, ?_, fun S hS hcS => ?_⟩
      · show (stI (stI τ2 16 _ _) 0 27 _).1 k = _
        rw [stI_k h1, stI_k h3, g2 k h1 h2]; exact f2 k h1 h2 h3
      · show (stI (stI τ2 16 _ _) 0 27 _).1 0 p = _
        rw [stI_s, upd_n h2, stI_k (by decide), g3 p h1]; exact f3 p h1 h2
      · show (stI (stI τ2 16 _ _) 0 27 _).1 0 26 = _
        rw [stI_s, upd_n (by decide), stI_k (by decide)]; exact g4
      · show (stI (stI τ2 16 _ _) 0 27 _).1 0 27 = _
        rw [stI_s, upd_s, ppL_s, if_pos hc2, List.length_append]; rfl
      · show ppA ((stI (stI τ2 16 _ _) 0 27 _).1 15) _
        rw [stI_k (by decide), stI_k (by decide)]; exact g5
      · show ppA ((stI (stI τ2 16 _ _) 0 27 _).1 16) _
        rw [stI_k (by decide), stI_s, ppL_s, if_pos hc2, g2 16 (by decide) (by decide)]; exact ppA_snoc f7
      · show τ2.2 10 S = _
        rw [g6]; exact e3 S hS hcS
    · rw [if_neg (fun q => hc2 ((nI_eq_iff (by omega) (by omega)).mp q))]
      refine ⟨_, rfl, nI_1 i, fun k h1 h2 h3 => ?_, fun p h1 h2 => ?_, g4, ?_, g5, ?_, fun S hS hcS => ?_⟩
      · show τ2.1 k = _
        rw [g2 k h1 h2]; exact f2 k h1 h2 h3
      · show τ2.1 0 p = _
        rw [g3 p h1]; exact f3 p h1 h2
      · show τ2.1 0 27 = _
        rw [g3 27 (by decide), ppL_s, if_neg hc2]; exact f5
      · show ppA (τ2.1 16) _
        rw [g2 16 (by decide) (by decide), ppL_s, if_neg hc2]; exact f7
      · show τ2.2 10 S = _
        rw [g6]; exact e3 S hS hcS
  · rintro ⟨x, τ⟩ ⟨f1, f2, f3, f4, f5, f6, f7, f8⟩
    dsimp only at f1 f2 f3 f4 f5 f6 f7 f8
    subst f1
    have br : atR τ c := by
      unfold atR at hr ⊢
      rw [f3 6 (by decide) (by decide), f2 2 (by decide) (by decide) (by decide), f2 3 (by decide) (by decide) (by decide), f2 4 (by decide) (by decide) (by decide)]; exact hr
    refine ⟨τ, ?_, f2, f3, f4, f5, f6, f7, fun S hS => f8 S (by omega)⟩
    show g_X7_findPaper_16 (nI (full c + 1)) τ = _
    unfold g_X7_findPaper_16
    rw [cset_M hc br, Option.bind_some, if_pos (nI_lt (by omega) (by omega))]
