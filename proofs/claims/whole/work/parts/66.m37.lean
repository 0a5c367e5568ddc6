/-! COMING in the reference: all places -/
theorem pl_inj {p k S p' k' S' : Nat} (hk : k ≤ 3) (hS : S < 4096) (hk' : k' ≤ 3) (hS' : S' < 4096) (h : pl p k S = pl p' k' S') : p = p' ∧ k = k' ∧ S = S' := by unfold pl at h; omega
/-- those of one set at one place: k up to j are done -/
theorem fc56 {c : Cr} {ν : MM} {p S : Nat} (hc : okC c) (he : enough c) (hr : atR ν c) (hd : hdAt ν (mOf c)) (hp : p ≤ call c) (hS : S < 2 ^ p) (hcn : cnt S 12 ≤ cK c 0) (hfit : cK c 0 - cnt S 12 ≤ call c - p) (hl : lays ν c (p + 1)) :
    ∃ ν', loopN (fun t => g_X7_findComing_56 (nI p) (nI S) t.1 t.2) FU ((0 : Int32), ν) = some ν' ∧ ν'.1 = ν.1 ∧ (∀ q k T, k ≤ 3 → T < 4096 → (q ≠ p ∨ T ≠ S) → ν'.2 19 (pl q k T) = ν.2 19 (pl q k T)) ∧ ∀ k, k ≤ cK c 1 → VE c p S (cK c 1 - k) → ν'.2 19 (pl p k S) = lN (CH (mOf c) (EE c p S (cK c 1 - k)).1) := by
  have hb := kb hc
  have h12 := call12 hc he
  have hS2 : S < 4096 := pow12 (by omega) hS
  have hle : cnt S 12 ≤ p := by rw [cnt_lt hS (by omega)]; exact cnt_le _ _
  have hcall : call c = cK c 0 + cK c 1 + cK c 2 := rfl
  have hVi : ∀ k, k ≤ cK c 1 → (VE c p S (cK c 1 - k) ↔ cK c 1 - k ≤ p - cnt S 12 ∧ p - cnt S 12 - (cK c 1 - k) ≤ cK c 2) := fun k hk => by
    show ceV _ _ _ _ _ _ _ ↔ _
    unfold ceV
    rw [show call c - (call c - p) = p by omega]
    exact ⟨fun q => ⟨q.2.2.2.2.1, q.2.2.2.2.2⟩, fun q => ⟨by omega, hS, hcn, by omega, q.1, q.2⟩⟩
  refine lp_0 (fun j t => t.1 = nI j ∧ t.2.1 = ν.1 ∧ (∀ q k T, k ≤ 3 → T < 4096 → (q ≠ p ∨ T ≠ S) → t.2.2 19 (pl q k T) = ν.2 19 (pl q k T)) ∧ ∀ k, k < j → k ≤ cK c 1 → VE c p S (cK c 1 - k) → t.2.2 19 (pl p k S) = lN (CH (mOf c) (EE c p S (cK c 1 - k)).1)) _ (cK c 1 + 1) _ (by omega) ⟨rfl, rfl, fun _ _ _ _ _ _ => rfl, fun k hk => by omega⟩ ?_ ?_
  · rintro j ⟨x, τ⟩ hj ⟨g1, g2, g3, g4⟩
    dsimp only at g1 g2 g3 g4
    subst g1
    have br : atR τ c := by unfold atR at hr ⊢; rw [g2]; exact hr
    have hdτ : hdAt τ (mOf c) := by unfold hdAt at hd ⊢; rw [g2]; exact hd
    have hlτ : lays τ c (p + 1) := fun q q1 q2 T k k1 V => by
      have hT := (VE_at hc he q2 V).2.1
      rw [g3 q k T (by omega) hT (Or.inl (by omega))]
      exact hl q q1 q2 T k k1 V
    have hpl := pl_lt (p := p) (k := j) (S := S) (by omega) (by omega) hS2
    -- a value is put
    have put : ∀ (τ1 : MM) (v : Int64), τ1.1 = τ.1 → (∀ i, τ1.2 19 i = τ.2 19 i) → (VE c p S (cK c 1 - j) → v = lN (CH (mOf c) (EE c p S (cK c 1 - j)).1)) → ∃ s', some (Sum.inl (nI j + 1, stL τ1 19 (pl p j S) v)) = some (Sum.inl s' : (Int32 × MM) ⊕ MM) ∧ s'.1 = nI (j + 1) ∧ s'.2.1 = ν.1 ∧ (∀ q k T, k ≤ 3 → T < 4096 → (q ≠ p ∨ T ≠ S) → s'.2.2 19 (pl q k T) = ν.2 19 (pl q k T)) ∧ ∀ k, k < j + 1 → k ≤ cK c 1 → VE c p S (cK c 1 - k) → s'.2.2 19 (pl p k S) = lN (CH (mOf c) (EE c p S (cK c 1 - k)).1) := by
      intro τ1 v e1 e2 e3
      refine ⟨_, rfl, nI_1 j, by show τ1.1 = _; rw [e1, g2], fun q k T q1 q2 q3 => ?_, fun k k1 k2 V => ?_⟩
      · show (stL τ1 19 (pl p j S) v).2 19 (pl q k T) = _
        rw [stL_s, updL_n (fun e => by obtain ⟨z1, z2, z3⟩ := pl_inj q1 q2 (by omega) hS2 e; rcases q3 with q3 | q3 <;> omega), e2]
        exact g3 q k T q1 q2 q3
      · show (stL τ1 19 (pl p j S) v).2 19 (pl p k S) = _
        rw [stL_s]
        by_cases e : k = j
        · subst e; rw [updL_s]; exact e3 V
        · rw [updL_n (fun z => e (pl_inj (by omega) hS2 (by omega) hS2 z).2.1), e2]
          exact g4 k (by omega) k2 V
    show ∃ s', g_X7_findComing_56 (nI p) (nI S) (nI j) τ = some (.inl s') ∧ _
    unfold g_X7_findComing_56
    rw [chk_t ib_1_5, tn_1, br.2.2.2 1 (by decide), if_neg (nI_nlt (by omega) (by omega))]
    by_cases hV : VE c p S (cK c 1 - j)
    · have hin : f_X7_isIn (nI (cK c 2 - (p - cnt S 12 - (cK c 1 - j)))) 0 (nI (cK c 2)) τ = some 1 := isIn_y (nI_pos (by omega)) (nI_nlt (by omega) (by omega))
      rw [left_M hc he br hp (by omega) hV, Option.bind_some, chk_t ib_2_5, tn_2, br.2.2.2 2 (by decide), hin, Option.bind_some, if_neg n10, place_M, Option.bind_some]
      obtain ⟨e1, e2⟩ := ends_M hc he br hp hV
      rcases Classical.em (nT c p S) with hn | hn
      · obtain ⟨q1, q2⟩ := e1 hn
        rw [q1, Option.bind_some, if_pos z00]
        obtain ⟨B, A, dB, dA, B1, B2, A1, A2, A3, A4, A5⟩ := come3 hc he br q2 (by omega) hV hn hlτ
        rcases dA with hA | hA
        · obtain ⟨y1, y2, y3, y4⟩ := A1 hA
          have i3 := pl_lt (p := p + 1) (k := j - 1) (S := S) (by omega) (by omega) hS2
          rw [y1, Option.bind_some, if_neg n10, nI_1 p, nI_sub1 y2, place_M, Option.bind_some, chk_t (inb_nI i3 (by omega)), chk_t (inb_nI hpl (by omega)), lm_eq, nI_c (by omega), nI_c (by omega), hlτ (p + 1) (Nat.le_refl _) q2 _ (j - 1) (by omega) y3]
          exact put τ _ rfl (fun _ => rfl) (fun _ => by rw [y4])
        · rw [A2 hA, Option.bind_some, if_pos z00, A5 hA, Option.bind_some, chk_t (inb_nI hpl (by omega)), lm_eq, nI_c (by omega)]
          exact put τ _ rfl (fun _ => rfl) (fun _ => rfl)
      · obtain ⟨q1, q2⟩ := e2 hn
        obtain ⟨z1, z2, -⟩ := EE_ok hc he hV
        have hj2 : jur (mOf c) (EE c p S (cK c 1 - j)).1 := ⟨Nat.lt_of_lt_of_le z1 (Nat.pow_le_pow_right (by decide) he), z2⟩
        obtain ⟨τ1, t1, t2⟩ := chance_M (okM_of hc) hdτ hj2
        rw [q1, Option.bind_some, if_neg n10, q2, Option.bind_some, t1, Option.bind_some, uc_eq, chk_t (inb_nI hpl (by omega)), lm_eq, nI_c (by omega)]
        exact put τ1 _ t2.1 (fun i => by rw [t2.2 19 (by decide)]) (fun _ => rfl)
    · -- nothing is left so
      have hno : f_X7_leftOfB (nI p) (nI j) (nI S) τ = some ((nI (cK c 1 + cK c 2) - nI (p - cnt S 12)) - nI j) := by
        unfold f_X7_leftOfB
        rw [chk_t ib_1_5, chk_t ib_2_5, tn_1, tn_2, bits_M hS2, Option.bind_some, br.2.2.2 1 (by decide), br.2.2.2 2 (by decide), nI_add, pk_sub hle]
      have e1 := nI_toInt (n := cK c 1 + cK c 2) (by omega)
      have e2 := nI_toInt (n := p - cnt S 12) (by omega)
      have e3 := nI_toInt (n := j) (by omega)
      have e4 := nI_toInt (n := cK c 2) (by omega)
      have e0 : (0 : Int32).toInt = 0 := rfl
      have e5 : (nI (cK c 1 + cK c 2) - nI (p - cnt S 12)).toInt = ((cK c 1 + cK c 2 : Nat) : Int) - ((p - cnt S 12 : Nat) : Int) := by rw [fb_subI (by rw [e1, e2]; omega) (by rw [e1, e2]; omega), e1, e2]
      have e6 : ((nI (cK c 1 + cK c 2) - nI (p - cnt S 12)) - nI j).toInt = ((cK c 1 + cK c 2 : Nat) : Int) - ((p - cnt S 12 : Nat) : Int) - (j : Int) := by rw [fb_subI (by rw [e5, e3]; omega) (by rw [e5, e3]; omega), e5, e3]
      have hout : f_X7_isIn ((nI (cK c 1 + cK c 2) - nI (p - cnt S 12)) - nI j) 0 (nI (cK c 2)) τ = some 0 := by
        refine isIn_n ?_
        rw [fa_lt, fa_lt, e6, e0, e4]
        have hnv := fun q => hV ((hVi j (by omega)).mpr q)
        apply Classical.byContradiction
        intro z
        refine hnv ⟨?_, ?_⟩ <;> omega
      rw [hno, Option.bind_some, chk_t ib_2_5, tn_2, br.2.2.2 2 (by decide), hout, Option.bind_some, if_pos z00]
      refine ⟨_, rfl, nI_1 j, g2, g3, fun k k1 k2 V => ?_⟩
      by_cases e : k = j
      · subst e; exact absurd V hV
      · exact g4 k (by omega) k2 V
  · rintro ⟨x, τ⟩ ⟨g1, g2, g3, g4⟩
    dsimp only at g1 g2 g3 g4
    subst g1
    have br : atR τ c := by unfold atR at hr ⊢; rw [g2]; exact hr
    refine ⟨τ, ?_, g2, g3, fun k hk V => g4 k (by omega) hk V⟩
    show g_X7_findComing_56 (nI p) (nI S) (nI (cK c 1 + 1)) τ = _
    unfold g_X7_findComing_56
    rw [chk_t ib_1_5, tn_1, br.2.2.2 1 (by decide), if_pos (nI_lt (by omega) (by omega))]
theorem fc15 {c : Cr} {ν : MM} {p : Nat} (hc : okC c) (he : enough c) (hr : atR ν c) (hd : hdAt ν (mOf c)) (hp : p ≤ call c) (hl : lays ν c (p + 1)) :
    ∃ ν', loopN (fun t => g_X7_findComing_15 (nI p) t.1 t.2) FU ((0 : Int32), ν) = some ν' ∧ ν'.1 = ν.1 ∧ lays ν' c p := by
  have hb := kb hc
  have h12 := call12 hc he
  have hpow : 2 ^ p ≤ 4096 := Nat.pow_le_pow_right (n := 2) (j := 12) (by decide) (by omega)
  have hq := lp_0 (step := fun t => g_X7_findComing_15 (nI p) t.1 t.2) (fun i t => t.1 = nI i ∧ t.2.1 = ν.1 ∧ lays t.2 c (p + 1) ∧ ∀ S k, S < i → k ≤ cK c 1 → VE c p S (cK c 1 - k) → t.2.2 19 (pl p k S) = lN (CH (mOf c) (EE c p S (cK c 1 - k)).1))
    (fun r => r.1 = ν.1 ∧ lays r c p) (2 ^ p) ((0 : Int32), ν) (by omega) ⟨rfl, rfl, hl, fun S k hS => by omega⟩ ?_ ?_
  · exact hq
  · rintro i ⟨x, τ⟩ hi ⟨g1, g2, g3, g4⟩
    dsimp only at g1 g2 g3 g4
    subst g1
    have br : atR τ c := by unfold atR at hr ⊢; rw [g2]; exact hr
    have hdτ : hdAt τ (mOf c) := by unfold hdAt at hd ⊢; rw [g2]; exact hd
    have hcl := cnt_le i 12
    have skip : (∀ k, k ≤ cK c 1 → ¬ VE c p i (cK c 1 - k)) → ∃ s', some (Sum.inl (nI i + 1, τ)) = some (Sum.inl s' : (Int32 × MM) ⊕ MM) ∧ s'.1 = nI (i + 1) ∧ s'.2.1 = ν.1 ∧ lays s'.2 c (p + 1) ∧ ∀ S k, S < i + 1 → k ≤ cK c 1 → VE c p S (cK c 1 - k) → s'.2.2 19 (pl p k S) = lN (CH (mOf c) (EE c p S (cK c 1 - k)).1) := fun hno => by
      refine ⟨_, rfl, nI_1 i, g2, g3, fun S k hS hk V => ?_⟩
      by_cases e : S = i
      · subst e; exact absurd V (hno k hk)
      · exact g4 S k (by omega) hk V
    show ∃ s', g_X7_findComing_15 (nI p) (nI i) τ = some (.inl s') ∧ _
    unfold g_X7_findComing_15
    rw [sh1 p (by omega), if_neg (nI_ge hi (by omega)), bits_M (by omega), Option.bind_some, need_M br, Option.bind_some]
    by_cases h1 : cK c 0 < cnt i 12
    · rw [if_pos (nI_lt h1 (by omega))]
      refine skip (fun k _ V => ?_)
      have := (VE_at hc he hp V).2.2.2.1
      omega
    · rw [if_neg (nI_nlt (by omega) (by omega)), Option.bind_some, many_M br, Option.bind_some, pk_sub (by omega), pk_sub hp]
      by_cases h2 : cK c 0 - cnt i 12 ≤ call c - p
      · obtain ⟨τ', t1, t2, t3, t4⟩ := fc56 (ν := τ) (S := i) hc he br hdτ hp hi (by omega) h2 g3
        rw [if_pos (nI_le h2 (by omega)), t1, Option.bind_some]
        refine ⟨_, rfl, nI_1 i, by show τ'.1 = _; rw [t2, g2], fun q q1 q2 S k k1 V => ?_, fun S k hS hk V => ?_⟩
        · show τ'.2 19 (pl q k S) = _
          rw [t3 q k S (by omega) (VE_at hc he q2 V).2.1 (Or.inl (by omega))]
          exact g3 q q1 q2 S k k1 V
        · show τ'.2 19 (pl p k S) = _
          by_cases e : S = i
          · subst e; exact t4 k hk V
          · rw [t3 p k S (by omega) (VE_at hc he hp V).2.1 (Or.inr e)]
            exact g4 S k (by omega) hk V
      · rw [if_neg (nI_ge (by omega) (by omega))]
        refine skip (fun k _ V => ?_)
        obtain ⟨v1, v2, v3, v4, v5, v6, v7⟩ := VE_at hc he hp V
        have hcall : call c = cK c 0 + cK c 1 + cK c 2 := rfl
        omega
  · rintro ⟨x, τ⟩ ⟨g1, g2, g3, g4⟩
    dsimp only at g1 g2 g3 g4
    subst g1
    have br : atR τ c := by unfold atR at hr ⊢; rw [g2]; exact hr
    refine ⟨τ, ?_, g2, fun q q1 q2 S k k1 V => ?_⟩
    · show g_X7_findComing_15 (nI p) (nI (2 ^ p)) τ = _
      unfold g_X7_findComing_15
      rw [sh1 p (by omega), if_pos (nI_le (Nat.le_refl _) (by omega))]
    · by_cases e : q = p
      · subst e; exact g4 S k (VE_at hc he q2 V).1 k1 V
      · exact g3 q (by omega) q2 S k k1 V
theorem coming_M {s : St} {μ : MM} (h' : RelM s μ) (he : enough (sC s)) : ∃ μ', f_X7_findComing μ = some μ' ∧ RelM s μ' ∧ hdAt μ' (mOf (sC s)) ∧ lays μ' (sC s) 0 := by
  obtain ⟨μ1, m1, m2, m3⟩ := RelM_hold h'
  obtain ⟨⟨c0, b0⟩, -⟩ := id m2
  have h12 := call12 c0 he
  unfold f_X7_findComing
  rw [m1, Option.bind_some, many_M b0, Option.bind_some]
  have hq := lp_0 (step := fun t => g_X7_findComing_9 t.1 t.2) (fun i t => t.1 = nI (call (sC s) + 1 - i) + (-1) ∧ t.2.1 = μ1.1 ∧ lays t.2 (sC s) (call (sC s) + 1 - i)) (fun r => r.1 = μ1.1 ∧ lays r (sC s) 0) (call (sC s) + 1) (nI (call (sC s)), μ1) (by omega) ⟨(pk_m1 _).symm, rfl, fun q q1 q2 => by omega⟩ ?_ ?_
  · obtain ⟨r, r1, r2, r3⟩ := hq
    refine ⟨r, by rw [r1]; rfl, RelM_keep m2 (fun p _ => by rw [r2]) (fun k _ => by rw [r2]), ?_, r3⟩
    unfold hdAt at m3 ⊢; rw [r2]; exact m3
  · rintro i ⟨x, τ⟩ hi ⟨g1, g2, g3⟩
    dsimp only at g1 g2 g3
    obtain ⟨n, hn⟩ : ∃ n, call (sC s) + 1 - i = n + 1 := ⟨call (sC s) - i, by omega⟩
    have hn2 : call (sC s) + 1 - (i + 1) = n := by omega
    rw [hn] at g1 g3
    rw [pk_m1] at g1
    rw [hn2]
    subst g1
    obtain ⟨τ', t1, t2, t3⟩ := fc15 (ν := τ) (p := n) c0 he (by unfold atR at b0 ⊢; rw [g2]; exact b0) (by unfold hdAt at m3 ⊢; rw [g2]; exact m3) (by omega) g3
    show ∃ s', g_X7_findComing_9 (nI n) τ = some (.inl s') ∧ _
    unfold g_X7_findComing_9
    rw [if_neg (nI_pos (by omega)), t1, Option.bind_some]
    exact ⟨_, rfl, rfl, by show τ'.1 = _; rw [t2, g2], t3⟩
  · rintro ⟨x, τ⟩ ⟨g1, g2, g3⟩
    dsimp only at g1 g2 g3
    rw [Nat.sub_self] at g1 g3
    have g1' : x = -1 := g1
    subst g1'
    refine ⟨τ, ?_, g2, g3⟩
    show g_X7_findComing_9 (-1) τ = _
    unfold g_X7_findComing_9
    rw [if_pos (by decide)]
theorem ce_0 (c : Cr) : EE c 0 0 0 = ceOf c := by
  show CE _ _ _ _ (call c - 0) _ _ = _
  rw [Nat.sub_zero]; rfl
theorem come_M {s : St} {μ : MM} (h' : RelM s μ) (he : enough (sC s)) : ∃ μ', f_X7_findCome μ = some μ' ∧ RelM s μ' ∧ hdAt μ' (mOf (sC s)) ∧ μ'.1 0 30 = nI (ceOf (sC s)).1 ∧ μ'.1 0 31 = nI (ceOf (sC s)).2.1 ∧ μ'.1 0 32 = nI (ceOf (sC s)).2.2 := by
  obtain ⟨μ1, m1, m2, m3, m4⟩ := coming_M h' he
  obtain ⟨⟨c0, b0⟩, -⟩ := id m2
  have h12 := call12 c0 he
  have hb := kb c0
  unfold f_X7_findCome
  rw [m1, Option.bind_some, chk_t ib_1_5, tn_1, b0.2.2.2 1 (by decide)]
  have hlay : ∀ p, lays μ1 (sC s) p := fun p q _ q2 => m4 q (Nat.zero_le _) q2
  have hq := lp_m (step := fun t => g_X7_findCome_15 t.1 t.2.1 t.2.2 μ1) (fun t => ∃ p k S, p ≤ call (sC s) ∧ k ≤ cK (sC s) 1 ∧ VE (sC s) p S (cK (sC s) 1 - k) ∧ EE (sC s) p S (cK (sC s) 1 - k) = ceOf (sC s) ∧ t = (nI p, nI k, nI S)) (fun r => ∃ p k S, p ≤ call (sC s) ∧ k ≤ cK (sC s) 1 ∧ VE (sC s) p S (cK (sC s) 1 - k) ∧ ¬ nT (sC s) p S ∧ EE (sC s) p S (cK (sC s) 1 - k) = ceOf (sC s) ∧ r = (nI p, nI k, nI S)) (fun t => 13 - t.1.toNatClampNeg) ((0 : Int32), nI (cK (sC s) 1), (0 : Int32)) (by show 13 - _ < 5000; omega) ⟨0, cK (sC s) 1, 0, by omega, Nat.le_refl _, by rw [Nat.sub_self]; exact VE_0, by rw [Nat.sub_self]; exact ce_0 _, rfl⟩ ?_
  · obtain ⟨r, r1, p, k, S, p1, k1, V, hn, eE, rfl⟩ := hq
    obtain ⟨a1, a2, a3, a4, a5, a6, a7⟩ := VE_at c0 he p1 V
    obtain ⟨-, e2⟩ := ends_M c0 he b0 p1 V
    obtain ⟨q1, q2⟩ := e2 hn
    rw [r1, Option.bind_some]
    dsimp only
    rw [q2, Option.bind_some, lm_eq, lm_eq]
    generalize hμ2 : stI (stI μ1 0 30 (nI (EE (sC s) p S (cK (sC s) 1 - k)).1)) 0 31 (nI k) = μ2
    have k2 : ∀ q, q ≠ 0 → μ2.1 q = μ1.1 q := fun q hq => by rw [← hμ2, stI_k hq, stI_k hq]
    have p2 : ∀ q, q ≠ 30 → q ≠ 31 → μ2.1 0 q = μ1.1 0 q := fun q h1 h2 => by rw [← hμ2, stI_s, upd_n h2, stI_s, upd_n h1]
    have br2 : atR μ2 (sC s) := by
      unfold atR at b0 ⊢
      rw [p2 6 (by decide) (by decide), k2 2 (by decide), k2 3 (by decide), k2 4 (by decide)]; exact b0
    rw [left_M c0 he br2 p1 k1 V, Option.bind_some, lm_eq]
    have hkb : (ceOf (sC s)).2.1 = k ∧ (ceOf (sC s)).2.2 = cK (sC s) 2 - (p - cnt S 12 - (cK (sC s) 1 - k)) := by
      rw [← eE]
      by_cases h1 : cnt S 12 = cK (sC s) 0
      · have : EE (sC s) p S (cK (sC s) 1 - k) = (S, cK (sC s) 1 - (cK (sC s) 1 - k), cK (sC s) 2 - (p - cnt S 12 - (cK (sC s) 1 - k))) := by
          show CE _ _ _ _ _ _ _ = _
          rw [CE_end (show cnt S 12 = mN (mOf (sC s)) from h1), show call (sC s) - (call (sC s) - p) = p by omega]
        rw [this]
        exact ⟨by dsimp only; omega, rfl⟩
      · have h2 : p - cnt S 12 = cK (sC s) 1 + cK (sC s) 2 := by
          apply Classical.byContradiction
          intro q
          exact hn ⟨h1, q⟩
        have hcall : call (sC s) = cK (sC s) 0 + cK (sC s) 1 + cK (sC s) 2 := rfl
        obtain ⟨r, hr'⟩ : ∃ r, call (sC s) - p = r + 1 := ⟨call (sC s) - p - 1, by omega⟩
        have : EE (sC s) p S (cK (sC s) 1 - k) = (S ||| dif (2 ^ call (sC s) - 1) (2 ^ p - 1), 0, 0) := by
          show CE _ _ _ _ _ _ _ = _
          rw [hr', CE_all (show cnt S 12 ≠ mN (mOf (sC s)) from h1) (by rw [← hr', show call (sC s) - (call (sC s) - p) = p by omega]; exact h2), ← hr', show call (sC s) - (call (sC s) - p) = p by omega]
        rw [this]
        exact ⟨by dsimp only; omega, by dsimp only; omega⟩
    refine ⟨_, rfl, RelM_keep m2 (fun q hq => ?_) (fun q hq => ?_), ?_, ?_, ?_, ?_⟩
    · rw [stI_s, upd_n (fun e => by revert hq; rw [e]; decide), p2 q (fun e => by revert hq; rw [e]; decide) (fun e => by revert hq; rw [e]; decide)]
    · rw [stI_k (fun e => by revert hq; rw [e]; decide), k2 q (fun e => by revert hq; rw [e]; decide)]
    · unfold hdAt at m3 ⊢
      rw [stI_s, upd_n (by decide), p2 6 (by decide) (by decide), stI_k (by decide), k2 4 (by decide), stI_k (by decide), k2 8 (by decide)]; exact m3
    · rw [stI_s, upd_n (by decide), ← hμ2, stI_s, upd_n (by decide), stI_s, upd_s, eE]
    · rw [stI_s, upd_n (by decide), ← hμ2, stI_s, upd_s, hkb.1]
    · rw [stI_s, upd_s, hkb.2]
  · rintro t ⟨p, k, S, p1, k1, V, eE, rfl⟩
    obtain ⟨a1, a2, a3, a4, a5, a6, a7⟩ := VE_at c0 he p1 V
    obtain ⟨e1, e2⟩ := ends_M c0 he b0 p1 V
    show (∃ r, g_X7_findCome_15 (nI p) (nI k) (nI S) μ1 = some (.inr r) ∧ _) ∨ ∃ s', g_X7_findCome_15 (nI p) (nI k) (nI S) μ1 = some (.inl s') ∧ _
    unfold g_X7_findCome_15
    rcases Classical.em (nT (sC s) p S) with hn | hn
    · right
      obtain ⟨q1, q2⟩ := e1 hn
      obtain ⟨B, A, dB, dA, B1, B2, A1, A2, A3, A4, A5⟩ := come3 c0 he b0 q2 k1 V hn (hlay (p + 1))
      have dec : ∀ x y : Int32, 13 - ((nI p + 1, x, y) : Int32 × Int32 × Int32).1.toNatClampNeg < 13 - (nI p).toNatClampNeg := fun x y => by
        show 13 - (nI p + 1).toNatClampNeg < _
        rw [nI_1, nI_c (by omega), nI_c (by omega)]; omega
      rw [q1, Option.bind_some, if_pos z00]
      rcases dA with hA | hA
      · obtain ⟨y1, y2, y3, y4⟩ := A1 hA
        rw [y1, Option.bind_some, if_neg n10]
        refine ⟨_, rfl, ⟨p + 1, k - 1, S, q2, by omega, y3, by rw [← y4]; exact eE, ?_⟩, dec _ _⟩
        rw [nI_1, sb_m1 y2]
      · rw [A2 hA, Option.bind_some, if_pos z00]
        rcases dB with hB | hB
        · rw [(B1 hB).1, Option.bind_some, if_neg n10]
          refine ⟨_, rfl, ⟨p + 1, k, S, q2, k1, (B1 hB).2, by rw [← A3 hA hB]; exact eE, ?_⟩, dec _ _⟩
          rw [nI_1]
        · rw [(B2 hB).1, Option.bind_some, if_pos z00, sh1 p (by omega), orI]
          refine ⟨_, rfl, ⟨p + 1, k, S ||| 2 ^ p, q2, k1, (B2 hB).2, by rw [← A4 hA hB]; exact eE, ?_⟩, dec _ _⟩
          rw [nI_1]
    · left
      rw [(e2 hn).1, Option.bind_some, if_neg n10]
      exact ⟨_, rfl, p, k, S, p1, k1, V, hn, eE, rfl⟩
theorem ceo {c : Cr} (hc : okC c) (he : enough c) : (ceOf c).1 < 2 ^ call c ∧ cnt (ceOf c).1 12 = cK c 0 ∧ (ceOf c).2.1 ≤ 3 ∧ (ceOf c).2.2 ≤ 3 ∧ (ceOf c).1 < 4096 := by
  obtain ⟨h1, h2, h3, h4, h5, -⟩ := EE_ok hc he (VE_0 (c := c))
  rw [ce_0] at h1 h2 h3 h4 h5
  exact ⟨h1, h2, h3, h4, h5⟩
theorem jury_S {c : Cr} {σ : MM} (hc : okC c) (he : enough c) (h : cmC σ c) : f_X1_jury σ = some (nI (ceOf c).1) ∧ f_X1_keptBack 0 σ = some (nI (ceOf c).2.1) ∧ f_X1_keptBack 1 σ = some (nI (ceOf c).2.2) := by
  obtain ⟨h1, h2, h3, h4, h5⟩ := ceo hc he
  have e6 : σ.1 55 6 = nI (pck (ceOf c)) := h.2
  have hlt : pck (ceOf c) < 65536 := by unfold pck; omega
  have m3 : ∀ n, nI n &&& (3 : Int32) = nI (n % 4) := fun n => fa_mask n 2
  have s12 : nI (pck (ceOf c)) >>> ((12 : Int32) &&& 31) = nI (pck (ceOf c) / 4096) := by
    have := shrI (S := pck (ceOf c)) (i := 12) (by omega) (by omega)
    exact this
  have s14 : nI (pck (ceOf c)) >>> ((14 : Int32) &&& 31) = nI (pck (ceOf c) / 16384) := by
    have := shrI (S := pck (ceOf c)) (i := 14) (by omega) (by omega)
    exact this
  unfold f_X1_jury f_X1_keptBack
  rw [if_pos z00, if_neg n10, e6, mask12, pck_mod h5, s12, s14, m3, m3]
  refine ⟨rfl, congrArg some (congrArg nI ?_), congrArg some (congrArg nI ?_)⟩
  · unfold pck; omega
  · unfold pck; omega
theorem al_coming {s : St} {σ μ : MM} (h : RelS s σ) (h' : RelM s μ) : Alike (f_X6_coming σ) (f_X7_coming μ) := by
  obtain ⟨⟨c0, a0, d0⟩, -⟩ := id h
  obtain ⟨⟨-, b0⟩, -⟩ := id h'
  have hcp := call_pos c0
  have hb := kb c0
  unfold f_X6_coming f_X7_coming
  rcases enough_dec (sC s) with he | he
  · obtain ⟨σ', s1, s2, s3, -⟩ := know_C h he
    obtain ⟨μ', m1, mm2, m3, m4⟩ := coming_M h' he
    obtain ⟨h1, h2, h3, h4, h5⟩ := ceo c0 he
    have hix := pl_lt (p := 0) (k := cK (sC s) 1) (S := 0) (by omega) (by omega) (by omega)
    refine ⟨lN (CH (mOf (sC s)) (ceOf (sC s)).1), s, σ', μ', ?_, ?_, s2, mm2⟩
    · rw [(called_S c0 a0).1 he, Option.bind_some, if_neg (nI_ne (by omega) (by omega)), s1, Option.bind_some, (jury_S c0 he s3).1, Option.bind_some, val_E c0 he s3.1 h1 h2]; rfl
    · have hV : VE (sC s) 0 0 (cK (sC s) 1 - cK (sC s) 1) := by rw [Nat.sub_self]; exact VE_0
      have hL := m4 0 (Nat.le_refl _) (Nat.zero_le _) 0 (cK (sC s) 1) (Nat.le_refl _) hV
      rw [Nat.sub_self, ce_0] at hL
      rw [(enough_M c0 b0).1 he, Option.bind_some, if_neg n10, m1, Option.bind_some, chk_t ib_1_5, tn_1, mm2.1.2.2.2.2 1 (by decide)]
      have ez : (0 : Int32) = nI 0 := rfl
      rw [ez, place_M, Option.bind_some, chk_t (inb_nI hix (by omega)), nI_c (by omega), hL]
  · refine alike_no 3 (by decide) h h' (r := rfL (-3)) ?_ ?_
    · rw [(called_S c0 a0).2 he, Option.bind_some, if_pos z00, rl3]; rfl
    · rw [(enough_M c0 b0).2 he, Option.bind_some, if_pos z00, ml3]; rfl
theorem al_come {s : St} {σ μ : MM} (h : RelS s σ) (h' : RelM s μ) (v1 : Int32) : Alike (f_X6_come v1 σ) (f_X7_come v1 μ) := by
  obtain ⟨⟨c0, a0, d0⟩, -⟩ := id h
  obtain ⟨⟨-, b0⟩, -⟩ := id h'
  have hcp := call_pos c0
  unfold f_X6_come f_X7_come
  by_cases h1 : v1 < 0
  · refine alike_no 2 (by decide) h h' (r := -2) ?_ ?_
    · rw [if_pos h1, rf2]; rfl
    · rw [isIn_n (Or.inl h1), Option.bind_some, if_pos z00, rm2]; rfl
  rw [if_neg h1]
  by_cases h2 : v1 ≤ 2
  · rw [if_pos h2, isIn_y h1 (nle.mp h2), Option.bind_some, if_neg n10]
    rcases enough_dec (sC s) with he | he
    · obtain ⟨σ', s1, s2, s3, -⟩ := know_C h he
      obtain ⟨μ', m1, mm2, m3, m4, m5, m6⟩ := come_M h' he
      obtain ⟨j1, j2, j3⟩ := jury_S c0 he s3
      rw [(called_S c0 a0).1 he, Option.bind_some, if_neg (nI_ne (by omega) (by omega)), s1, Option.bind_some, (enough_M c0 b0).1 he, Option.bind_some, if_neg n10, m1, Option.bind_some]
      by_cases k0 : v1 = 0
      · refine ⟨nI (ceOf (sC s)).1, s, σ', μ', ?_, ?_, s2, mm2⟩
        · rw [if_pos k0, j1]; rfl
        · rw [if_pos k0, m4]
      rw [if_neg k0, if_neg k0]
      by_cases k1 : v1 = 1
      · refine ⟨nI (ceOf (sC s)).2.1, s, σ', μ', ?_, ?_, s2, mm2⟩
        · rw [if_pos k1, Option.bind_some, j2]; rfl
        · rw [if_pos k1, m5]
      · refine ⟨nI (ceOf (sC s)).2.2, s, σ', μ', ?_, ?_, s2, mm2⟩
        · rw [if_neg k1, Option.bind_some, j3]; rfl
        · rw [if_neg k1, m6]
    · refine alike_no 3 (by decide) h h' (r := -3) ?_ ?_
      · rw [(called_S c0 a0).2 he, Option.bind_some, if_pos z00, rf3]; rfl
      · rw [(enough_M c0 b0).2 he, Option.bind_some, if_pos z00, rm3]; rfl
  · refine alike_no 2 (by decide) h h' (r := -2) ?_ ?_
    · rw [if_neg h2, rf2]; rfl
    · rw [isIn_n (Or.inr (fa_of_nle h2)), Option.bind_some, if_pos z00, rm2]; rfl
