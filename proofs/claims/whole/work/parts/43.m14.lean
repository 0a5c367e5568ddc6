/-! SECOND and MORE -/
theorem with_S {s : St} {σ : MM} {q1 a b sd : Nat} {m : Mi} (h : RelS s σ) (hq : isMd q1) (hm : okM m) (hd : mdAt σ q1 m) (hn : mN m = cK (sC s) 0) (ha : a ≤ 3) (hb : b ≤ 3) (hs : sd < 2) (hp : mN m + a + b ≤ mP m) :
    ∃ σ', f_X6_valueWith q1 (nI a) (nI b) (nI sd) σ = some (lN (VV m (a + b) a b sd (2 ^ (mN m + a + b) - 1)), σ') ∧ RelS s σ' ∧ tnOK σ' 46 m (2 ^ (mN m + a + b) - 1) a b sd ∧ (∀ k, k < 46 ∨ 50 ≤ k → σ'.1 k = σ.1 k) := by
  obtain ⟨⟨c0, a0, d0⟩, -⟩ := id h
  have hm1 := hm.1
  have hk := kb c0
  have hall : 2 ^ (mN m + a + b) - 1 < 2 ^ mP m := by
    have h1 : 2 ^ (mN m + a + b) ≤ 2 ^ mP m := Nat.pow_le_pow_right (by decide) hp
    have := two_pos (mN m + a + b)
    omega
  have hcn : cnt (2 ^ (mN m + a + b) - 1) 12 = mN m + a + b := by rw [cnt_full, Nat.min_eq_left (by omega)]
  obtain ⟨σ', s1, s2, s3, s4, -⟩ := other_S (q1 := q1) (sd := sd) h hq hm hd hall ha hb hs hcn
  refine ⟨σ', ?_, s2, s3, s4⟩
  unfold f_X6_valueWith f_X6_setOfFirst
  rw [need_S a0, Option.bind_some, ← hn, nI_add, nI_add, allS _ (by omega), Option.bind_some, s1, Option.bind_some, valueOf_S (pow12 hm1 hall), Option.bind_some, s3.2.2.2 _ sub_rf (by rw [hcn]; omega), vq0 hcn]
theorem full_eq (c : Cr) : 2 ^ (mN (mOf c) + cK c 1 + cK c 2) - 1 = full c := rfl
theorem al_second {s : St} {σ μ : MM} (h : RelS s σ) (h' : RelM s μ) : Alike (f_X6_second σ) (f_X7_second μ) := by
  obtain ⟨⟨c0, a0, d0⟩, -⟩ := id h
  obtain ⟨⟨-, b0⟩, -⟩ := id h'
  have hcp := call_pos c0
  have hk := kb c0
  unfold f_X6_second f_X7_second
  rcases enough_dec (sC s) with he | he
  · have hm := okM_of c0
    obtain ⟨σ1, s1, s2, s3, s4⟩ := with_S (q1 := 16) (sd := 1) (a := cK (sC s) 1) (b := cK (sC s) 2) h (Or.inl rfl) hm d0 rfl hk.2.1 hk.2.2.1 (by decide) he
    rw [full_eq] at s1
    obtain ⟨σ', t1, t2, -⟩ := vbt_S s2 he
    obtain ⟨μ', m1, m2, m3, m4⟩ := turns_M h' he
    have b1 := m2.1.2
    have hcn := full_cnt c0 he
    have hix := idx_lt (a := cK (sC s) 1) (b := cK (sC s) 2) (sd := 1) (S := full (sC s)) hk.2.1 hk.2.2.1 (by decide) (full_2 c0 he)
    refine ⟨lN (VV (mOf (sC s)) (cK (sC s) 1 + cK (sC s) 2) (cK (sC s) 1) (cK (sC s) 2) 1 (full (sC s))) - lN (VV (mOf (sC s)) (cK (sC s) 1 + cK (sC s) 2) (cK (sC s) 1) (cK (sC s) 2) 0 (full (sC s))), s, σ', μ', ?_, ?_, t2, m2⟩
    · rw [(called_S c0 a0).1 he, Option.bind_some, if_neg (nI_ne (by omega) (by omega)), (str_S a0).1, Option.bind_some, (str_S a0).2, Option.bind_some, show (1 : Int32) = nI 1 from rfl, s1, Option.bind_some, uc_eq, t1]; rfl
    · rw [(enough_M c0 b0).1 he, Option.bind_some, if_neg n10, m1, Option.bind_some, chk_t ib_1_5, chk_t ib_2_5, tn_1, tn_2, cset_M c0 b1, Option.bind_some, b1.2.2.2 1 (by decide), b1.2.2.2 2 (by decide)]
      have e1 : (1 : Int32) = nI 1 := rfl
      rw [e1, idx_M, Option.bind_some, chk_t (inb_nI hix (by omega)), turnsOf_M c0 he b1 m4, Option.bind_some, nI_c (by omega), m4 _ _ 1 _ (Nat.le_refl _) (Nat.le_refl _) (by decide) sub_rf (by rw [hcn]; omega)]
  · refine alike_no 3 (by decide) h h' (r := rfL (-3)) ?_ ?_
    · rw [(called_S c0 a0).2 he, Option.bind_some, if_pos z00, rl3]; rfl
    · rw [(enough_M c0 b0).2 he, Option.bind_some, if_pos z00, ml3]; rfl
theorem RelM_K {s : St} {μ : MM} {k v : Nat} (h : RelM s μ) (hk : k < 5) (hv : loK k ≤ v ∧ v ≤ hiK k) : RelM (setK s k v) (stI μ 4 k (nI v)) := by
  obtain ⟨⟨c0, b1, b2, b3, b4⟩, q1, q2, q3, q4, q5⟩ := h
  refine ⟨⟨okC_K c0 hv, b1, b2, b3, fun i hi => ?_⟩, q1, q2, q3, q4, q5⟩
  rw [stI_s]
  show upd _ k (nI v) i = nI (if i = k then v else cK (sC s) i)
  by_cases e : i = k
  · rw [if_pos e, e, upd_s]
  · rw [if_neg e, upd_n e]; exact b4 i hi
theorem setK_back (s : St) (k v : Nat) : setK (setK s k v) k (cK (sC s) k) = s := by
  obtain ⟨⟨p, t, so, l, m⟩, r⟩ := s
  have e : (fun i => if i = k then t k else if i = k then v else t i) = t := by
    funext i
    by_cases e : i = k
    · rw [if_pos e, e]
    · rw [if_neg e, if_neg e]
  show (((p, (fun i => if i = k then t k else if i = k then v else t i), so, l, m), r) : St) = _
  rw [e]
theorem al_more {s : St} {σ μ : MM} (h : RelS s σ) (h' : RelM s μ) (v1 : Int32) : Alike (f_X6_more v1 σ) (f_X7_more v1 μ) := by
  obtain ⟨⟨c0, a0, d0⟩, -⟩ := id h
  obtain ⟨⟨-, b0⟩, -⟩ := id h'
  have hcp := call_pos c0
  have hk := kb c0
  have hp := c0.1
  unfold f_X6_more f_X7_more
  rcases side_both (v := v1) (σ := σ) (μ := μ) with ⟨x1, x2, -⟩ | ⟨x1, x2, sd, hsd, rfl⟩
  · refine alike_no 1 (by decide) h h' (r := rfL (-1)) ?_ ?_
    · rw [x1, Option.bind_some, if_pos z00, rl1]; rfl
    · rw [x2, Option.bind_some, if_pos z00, ml1]; rfl
  have hst : f_X0_strikesOf (nI sd) σ = some (nI (cK (sC s) (1 + sd))) := by
    rcases (show sd = 0 ∨ sd = 1 by omega) with rfl | rfl
    · exact (str_S a0).1
    · exact (str_S a0).2
  have hks : cK (sC s) (1 + sd) ≤ 3 := by
    rcases (show sd = 0 ∨ sd = 1 by omega) with rfl | rfl
    · exact hk.2.1
    · exact hk.2.2.1
  have e1 : (1 : Int32) + nI sd = nI (1 + sd) := nI_add 1 sd
  by_cases hgood : call (sC s) < cP (sC s) ∧ cK (sC s) (1 + sd) < 3
  · obtain ⟨g1, g2⟩ := hgood
    have he : enough (sC s) := Nat.le_of_lt g1
    have hm := okM_of c0
    have hv : loK (1 + sd) ≤ cK (sC s) (1 + sd) + 1 ∧ cK (sC s) (1 + sd) + 1 ≤ hiK (1 + sd) := by
      rcases (show sd = 0 ∨ sd = 1 by omega) with rfl | rfl
      · exact ⟨Nat.zero_le _, g2⟩
      · exact ⟨Nat.zero_le _, g2⟩
    -- the program
    have hA : ∃ A B, (if nI sd = 0 then some (1 : Int32) else some 0) = some (nI (1 - sd)) ∧ A = cK (sC s) 1 + (1 - sd) ∧ B = cK (sC s) 2 + 1 - (1 - sd) ∧ A ≤ 3 ∧ B ≤ 3 ∧ mN (mOf (sC s)) + A + B = call (sC s) + 1 := by
      rcases (show sd = 0 ∨ sd = 1 by omega) with rfl | rfl
      · refine ⟨cK (sC s) 1 + 1, cK (sC s) 2, rfl, rfl, by omega, g2, hk.2.2.1, ?_⟩
        show cK (sC s) 0 + (cK (sC s) 1 + 1) + cK (sC s) 2 = _
        unfold call; omega
      · refine ⟨cK (sC s) 1, cK (sC s) 2 + 1, rfl, rfl, by omega, hk.2.1, g2, ?_⟩
        show cK (sC s) 0 + cK (sC s) 1 + (cK (sC s) 2 + 1) = _
        unfold call; omega
    obtain ⟨A, B, hif, eA, eB, hA3, hB3, hsum⟩ := hA
    obtain ⟨σ1, s1, s2, -⟩ := with_S (q1 := 16) (sd := 0) (a := A) (b := B) h (Or.inl rfl) hm d0 rfl hA3 hB3 (by decide) (by rw [hsum]; exact g1)
    rw [hsum] at s1
    obtain ⟨σ', t1, t2, -⟩ := vbt_S s2 he
    -- the reference
    obtain ⟨μ1, m1, m2, m3, m4⟩ := turns_M h' he
    have b1 := m2.1.2
    have m5 := RelM_K (v := cK (sC s) (1 + sd) + 1) m2 (show 1 + sd < 5 by omega) hv
    have hcall : call (sC (setK s (1 + sd) (cK (sC s) (1 + sd) + 1))) = call (sC s) + 1 := by
      rcases (show sd = 0 ∨ sd = 1 by omega) with rfl | rfl
      · show cK (sC s) 0 + (cK (sC s) 1 + 1) + cK (sC s) 2 = _; unfold call; omega
      · show cK (sC s) 0 + cK (sC s) 1 + (cK (sC s) 2 + 1) = _; unfold call; omega
    have he2 : enough (sC (setK s (1 + sd) (cK (sC s) (1 + sd) + 1))) := by
      show call _ ≤ cP (sC s); rw [hcall]; exact g1
    obtain ⟨μ2, n1, n2, n3, n4⟩ := turns_M m5 he2
    have c2 := n2.1.1
    have b2 := n2.1.2
    have m6 := RelM_K (v := cK (sC s) (1 + sd)) n2 (show 1 + sd < 5 by omega) (by
      rcases (show sd = 0 ∨ sd = 1 by omega) with rfl | rfl
      · exact ⟨Nat.zero_le _, hk.2.1⟩
      · exact ⟨Nat.zero_le _, hk.2.2.1⟩)
    rw [setK_back] at m6
    have hval : VV (mOf (sC (setK s (1 + sd) (cK (sC s) (1 + sd) + 1)))) (cK (sC (setK s (1 + sd) (cK (sC s) (1 + sd) + 1))) 1 + cK (sC (setK s (1 + sd) (cK (sC s) (1 + sd) + 1))) 2) (cK (sC (setK s (1 + sd) (cK (sC s) (1 + sd) + 1))) 1) (cK (sC (setK s (1 + sd) (cK (sC s) (1 + sd) + 1))) 2) 0 (full (sC (setK s (1 + sd) (cK (sC s) (1 + sd) + 1)))) = VV (mOf (sC s)) (A + B) A B 0 (2 ^ (call (sC s) + 1) - 1) := by
      unfold full
      rw [hcall]
      rcases (show sd = 0 ∨ sd = 1 by omega) with rfl | rfl
      · rw [show A = cK (sC s) 1 + 1 by omega, show B = cK (sC s) 2 by omega]; rfl
      · rw [show A = cK (sC s) 1 by omega, show B = cK (sC s) 2 + 1 by omega]; rfl
    have ht1 := turnsOf_M c0 he b1 m4
    have ht2 := turnsOf_M c2 he2 b2 n4
    rw [hval] at ht2
    generalize hX : VV (mOf (sC s)) (A + B) A B 0 (2 ^ (call (sC s) + 1) - 1) = X at s1 ht2
    generalize hY : VV (mOf (sC s)) (cK (sC s) 1 + cK (sC s) 2) (cK (sC s) 1) (cK (sC s) 2) 0 (full (sC s)) = Y at t1 ht1
    have k5 : inb (nI (1 + sd)) 5 = true := inb_nI (by omega) (by omega)
    have eb2 : μ2.1 4 (1 + sd) = nI (cK (sC s) (1 + sd) + 1) := by
      rw [b2.2.2.2 (1 + sd) (by omega)]
      show nI (if 1 + sd = 1 + sd then _ else _) = _
      rw [if_pos rfl]
    have hn3 : ¬ nI (cK (sC s) (1 + sd)) = (3 : Int32) := fun q => by have := (nI_eq_iff (b := 3) (by omega) (by omega)).mp q; omega
    have hl3 : nI (cK (sC s) (1 + sd)) < (3 : Int32) := nI_lt (b := 3) g2 (by omega)
    refine ⟨if sd = 0 then lN X - lN Y else lN Y - lN X, s, σ', stI μ2 4 (1 + sd) (nI (cK (sC s) (1 + sd))), ?_, ?_, t2, m6⟩
    · rw [x1, Option.bind_some, if_neg n10, (called_S c0 a0).1 he, Option.bind_some, if_neg (nI_ne (by omega) (by omega)), a0.1, if_neg (nI_ge g1 (by omega)), hst, Option.bind_some, if_pos hl3, hif, Option.bind_some, (str_S a0).1, Option.bind_some, (str_S a0).2, Option.bind_some, nI_add, nI_1, pk_sub (by omega), ← eA, ← eB]
      have e0 : (0 : Int32) = nI 0 := rfl
      have s1' : f_X6_valueWith 16 (nI A) (nI B) 0 σ = some (lN X, σ1) := s1
      rw [s1', Option.bind_some, uc_eq]
      by_cases hz : sd = 0
      · rw [if_pos (by rw [hz]; rfl), t1, if_pos hz]; rfl
      · rw [if_neg (nI_ne (by omega) (by omega)), t1, if_neg hz]; rfl
    · rw [x2, Option.bind_some, if_neg n10, many_M b0, Option.bind_some, b0.1, nI_1, if_neg (nI_nlt (by omega) (by omega)), e1, chk_t k5, nI_c (by omega), b0.2.2.2 (1 + sd) (by omega), if_neg hn3, m1, Option.bind_some, ht1, Option.bind_some, chk_t k5, chk_t k5, lm_eq, b1.2.2.2 (1 + sd) (by omega), nI_1, n1, Option.bind_some, ht2, Option.bind_some, chk_t k5, chk_t k5, lm_eq, eb2, nI_pred]
      by_cases hz : sd = 0
      · rw [if_pos (by rw [hz]; rfl), if_pos hz]
      · rw [if_neg (nI_ne (by omega) (by omega)), if_neg hz]
  · refine alike_no 3 (by decide) h h' (r := rfL (-3)) ?_ ?_
    · rw [x1, Option.bind_some, if_neg n10]
      rcases enough_dec (sC s) with he | he
      · rw [(called_S c0 a0).1 he, Option.bind_some, if_neg (nI_ne (by omega) (by omega)), a0.1]
        by_cases g1 : call (sC s) < cP (sC s)
        · have g2 : cK (sC s) (1 + sd) = 3 := by
            rcases Nat.lt_or_ge (cK (sC s) (1 + sd)) 3 with q | q
            · exact absurd ⟨g1, q⟩ hgood
            · omega
          rw [if_neg (nI_ge g1 (by omega)), hst, Option.bind_some, g2, if_neg (by decide), rl3]; rfl
        · rw [if_pos (nI_le (Nat.not_lt.mp g1) (by omega)), rl3]; rfl
      · rw [(called_S c0 a0).2 he, Option.bind_some, if_pos z00, rl3]; rfl
    · rw [x2, Option.bind_some, if_neg n10, many_M b0, Option.bind_some, b0.1, nI_1]
      by_cases g1 : call (sC s) < cP (sC s)
      · have g2 : cK (sC s) (1 + sd) = 3 := by
          rcases Nat.lt_or_ge (cK (sC s) (1 + sd)) 3 with q | q
          · exact absurd ⟨g1, q⟩ hgood
          · omega
        rw [if_neg (nI_nlt (by omega) (by omega)), e1, chk_t (inb_nI (by omega) (by omega)), nI_c (by omega), b0.2.2.2 (1 + sd) (by omega), g2, if_pos (by rfl), ml3]; rfl
      · rw [if_pos (nI_lt (by omega) (by omega)), ml3]; rfl
/-! a row that is LAWFUL -/
def rs (F : Nat) (r : Nat → Nat) : Nat → Nat
  | 0 => F
  | i + 1 => rs F r i ^^^ 2 ^ r i
def lawf (s : St) : Prop := (sR s).1 = cK (sC s) 1 + cK (sC s) 2 ∧ ∀ i, i < (sR s).1 → (rs (full (sC s)) (sR s).2 i).testBit ((sR s).2 i) = true
theorem rs_ok {F n : Nat} {r : Nat → Nat} (h : ∀ i, i < n → (rs F r i).testBit (r i) = true ∧ r i < 12) : ∀ i, i ≤ n → sub (rs F r i) F ∧ cnt (rs F r i) 12 + i = cnt F 12 := by
  intro i
  induction i with
  | zero => intro _; exact ⟨sub_rf, rfl⟩
  | succ i ih =>
    intro hi
    obtain ⟨h1, h2⟩ := ih (by omega)
    obtain ⟨b1, b2⟩ := h i (by omega)
    have := cnt_del12 b1 b2
    exact ⟨sub_tr (sub_del b1) h1, by show cnt (rs F r i ^^^ _) 12 + _ = _; omega⟩
theorem law_both {s : St} {σ μ : MM} (h : RelS s σ) (h' : RelM s μ) (he : enough (sC s)) : (lawf s ∧ f_X6_rowIsLawful σ = some 1 ∧ f_X7_isLawful μ = some 1) ∨ (¬ lawf s ∧ f_X6_rowIsLawful σ = some 0 ∧ f_X7_isLawful μ = some 0) := by
  obtain ⟨⟨c0, a0, d0⟩, r1, -⟩ := id h
  obtain ⟨⟨-, b0⟩, q1, -⟩ := id h'
  obtain ⟨w1, w2, w3⟩ := r1
  obtain ⟨-, u2, u3⟩ := q1
  have hcp := call_pos c0
  have hk := kb c0
  have hf2 := full_2 c0 he
  have eS : f_X0_strikes σ = some (nI (cK (sC s) 1 + cK (sC s) 2)) := by
    unfold f_X0_strikes
    rw [chk_t ib_1_5, chk_t ib_2_5, tn_1, tn_2, show σ.1 5 1 = nI (cK (sC s) 1) from a0.2.2.2 1 (by decide), show σ.1 5 2 = nI (cK (sC s) 2) from a0.2.2.2 2 (by decide), nI_add]
  have hrs : ∀ i, i ≤ (sR s).1 → (∀ j, j < i → (rs (full (sC s)) (sR s).2 j).testBit ((sR s).2 j) = true) → rs (full (sC s)) (sR s).2 i < 4096 := by
    intro i hi hall
    have := (rs_ok (n := i) (fun j hj => ⟨hall j hj, (w3 j (by omega)).1⟩) i (Nat.le_refl _)).1
    have := sub_le this
    omega
  -- the program's loop
  have lS : ∃ r, loopN (fun s => g_X6_rowIsLawful_36 s.1 s.2 σ) FU (nI (full (sC s)), (0 : Int32)) = some r ∧ ((r = 1 ∧ ∀ i, i < (sR s).1 → (rs (full (sC s)) (sR s).2 i).testBit ((sR s).2 i) = true) ∨ (r = 0 ∧ ¬ ∀ i, i < (sR s).1 → (rs (full (sC s)) (sR s).2 i).testBit ((sR s).2 i) = true)) := by
    refine lp_m (fun t => ∃ i, i ≤ (sR s).1 ∧ t = (nI (rs (full (sC s)) (sR s).2 i), nI i) ∧ ∀ j, j < i → (rs (full (sC s)) (sR s).2 j).testBit ((sR s).2 j) = true) _ (fun t => 6 - t.2.toNatClampNeg) _ (by show 6 - _ < 5000; omega) ⟨0, Nat.zero_le _, rfl, fun j hj => by omega⟩ ?_
    rintro t ⟨i, hi, rfl, hall⟩
    have hlt := hrs i hi hall
    show (∃ r, g_X6_rowIsLawful_36 (nI (rs (full (sC s)) (sR s).2 i)) (nI i) σ = some (.inr r) ∧ _) ∨ ∃ s', g_X6_rowIsLawful_36 (nI (rs (full (sC s)) (sR s).2 i)) (nI i) σ = some (.inl s') ∧ _
    unfold g_X6_rowIsLawful_36
    rw [w2]
    by_cases hi2 : (sR s).1 ≤ i
    · left
      rw [if_pos (nI_le hi2 (by omega))]
      exact ⟨1, rfl, Or.inl ⟨rfl, fun j hj => hall j (by omega)⟩⟩
    · obtain ⟨g1, g2⟩ := w3 i (by omega)
      rw [if_neg (nI_ge (Nat.not_le.mp hi2) (by omega)), chk_t (inb_nI (by omega) (by omega)), nI_c (by omega), g2]
      cases hb : (rs (full (sC s)) (sR s).2 i).testBit ((sR s).2 i) with
      | false =>
        left
        rw [if_pos ((bitS (by omega)).mpr hb)]
        exact ⟨0, rfl, Or.inr ⟨rfl, fun q => by have := q i (by omega); rw [hb] at this; cases this⟩⟩
      | true =>
        right
        rw [if_neg (fun q => by have := (bitS (by omega)).mp q; rw [hb] at this; cases this), sh1 _ (by omega), xorI]
        refine ⟨_, rfl, ⟨i + 1, by omega, by rw [nI_1]; rfl, fun j hj => ?_⟩, ?_⟩
        · by_cases e : j = i
          · rw [e]; exact hb
          · exact hall j (by omega)
        · show 6 - (nI i + 1).toNatClampNeg < 6 - i
          rw [nI_1, nI_c (by omega)]; omega
  have lM : ∃ r, loopN (fun s => g_X7_isLawful_7 s.1 s.2 μ) FU (nI (full (sC s)), (0 : Int32)) = some r ∧ ((r = 1 ∧ lawf s) ∨ (r = 0 ∧ ¬ lawf s)) := by
    refine lp_m (fun t => ∃ i, i ≤ (sR s).1 ∧ t = (nI (rs (full (sC s)) (sR s).2 i), nI i) ∧ ∀ j, j < i → (rs (full (sC s)) (sR s).2 j).testBit ((sR s).2 j) = true) _ (fun t => 6 - t.2.toNatClampNeg) _ (by show 6 - _ < 5000; omega) ⟨0, Nat.zero_le _, rfl, fun j hj => by omega⟩ ?_
    rintro t ⟨i, hi, rfl, hall⟩
    have hlt := hrs i hi hall
    show (∃ r, g_X7_isLawful_7 (nI (rs (full (sC s)) (sR s).2 i)) (nI i) μ = some (.inr r) ∧ _) ∨ ∃ s', g_X7_isLawful_7 (nI (rs (full (sC s)) (sR s).2 i)) (nI i) μ = some (.inl s') ∧ _
    unfold g_X7_isLawful_7
    rw [u2]
    by_cases hi2 : (sR s).1 ≤ i
    · left
      rw [if_pos (nI_le hi2 (by omega)), chk_t ib_1_5, chk_t ib_2_5, tn_1, tn_2, b0.2.2.2 1 (by decide), b0.2.2.2 2 (by decide), nI_add]
      by_cases hl : (sR s).1 = cK (sC s) 1 + cK (sC s) 2
      · rw [if_pos (by rw [hl])]
        exact ⟨1, rfl, Or.inl ⟨rfl, hl, fun j hj => hall j (by omega)⟩⟩
      · rw [if_neg (fun q => hl ((nI_eq_iff (by omega) (by omega)).mp q))]
        exact ⟨0, rfl, Or.inr ⟨rfl, fun q => hl q.1⟩⟩
    · obtain ⟨g1, g2⟩ := u3 i (by omega)
      rw [if_neg (nI_ge (Nat.not_le.mp hi2) (by omega)), chk_t (inb_nI (by omega) (by omega)), nI_c (by omega), g2, bitM (by omega) (by omega)]
      cases hb : (rs (full (sC s)) (sR s).2 i).testBit ((sR s).2 i) with
      | false =>
        left
        rw [if_pos (by rfl)]
        exact ⟨0, rfl, Or.inr ⟨rfl, fun q => by have := q.2 i (by omega); rw [hb] at this; cases this⟩⟩
      | true =>
        right
        rw [if_neg (by decide), chk_t (inb_nI (by omega) (by omega)), out1 hb (by omega)]
        refine ⟨_, rfl, ⟨i + 1, by omega, by rw [nI_1]; rfl, fun j hj => ?_⟩, ?_⟩
        · by_cases e : j = i
          · rw [e]; exact hb
          · exact hall j (by omega)
        · show 6 - (nI i + 1).toNatClampNeg < 6 - i
          rw [nI_1, nI_c (by omega)]; omega
  obtain ⟨ra, la, lb⟩ := lS
  obtain ⟨rb, ma, mb⟩ := lM
  have eM : f_X7_isLawful μ = some rb := by unfold f_X7_isLawful; rw [cset_M c0 b0, Option.bind_some, ma]
  have eS2 : f_X6_rowIsLawful σ = if (sR s).1 = cK (sC s) 1 + cK (sC s) 2 then some ra else some 0 := by
    unfold f_X6_rowIsLawful
    rw [(called_S c0 a0).1 he, Option.bind_some, if_neg (nI_ne (by omega) (by omega)), eS, Option.bind_some, w2]
    by_cases hl : (sR s).1 = cK (sC s) 1 + cK (sC s) 2
    · rw [if_pos (by rw [hl]), set_S c0 a0 he, Option.bind_some, la, if_pos hl]
    · rw [if_neg (fun q => hl ((nI_eq_iff (by omega) (by omega)).mp q)), if_neg hl]; rfl
  rcases mb with ⟨rfl, hl⟩ | ⟨rfl, hl⟩
  · left
    refine ⟨hl, ?_, eM⟩
    rw [eS2, if_pos hl.1]
    rcases lb with ⟨rfl, -⟩ | ⟨-, q⟩
    · rfl
    · exact absurd hl.2 q
  · right
    refine ⟨hl, ?_, eM⟩
    rw [eS2]
    by_cases hlen : (sR s).1 = cK (sC s) 1 + cK (sC s) 2
    · rw [if_pos hlen]
      rcases lb with ⟨-, q⟩ | ⟨rfl, -⟩
      · exact absurd ⟨hlen, q⟩ hl
      · rfl
    · rw [if_neg hlen]
theorem law_no {s : St} {σ : MM} (h : RelS s σ) (he : ¬ enough (sC s)) : f_X6_rowIsLawful σ = some 0 := by
  obtain ⟨⟨c0, a0, d0⟩, -⟩ := id h
  unfold f_X6_rowIsLawful
  rw [(called_S c0 a0).2 he, Option.bind_some, if_pos z00]; rfl
theorem al_lawful {s : St} {σ μ : MM} (h : RelS s σ) (h' : RelM s μ) : Alike (f_X6_lawful σ) (f_X7_lawful μ) := by
  obtain ⟨⟨c0, a0, d0⟩, -⟩ := id h
  obtain ⟨⟨-, b0⟩, -⟩ := id h'
  have hcp := call_pos c0
  unfold f_X6_lawful f_X7_lawful
  rcases enough_dec (sC s) with he | he
  · rcases law_both h h' he with ⟨-, l1, l2⟩ | ⟨-, l1, l2⟩
    · refine ⟨1, s, σ, μ, ?_, ?_, h, h'⟩
      · rw [(called_S c0 a0).1 he, Option.bind_some, if_neg (nI_ne (by omega) (by omega)), l1, Option.bind_some, if_neg n10]
      · rw [(enough_M c0 b0).1 he, Option.bind_some, if_neg n10, l2, Option.bind_some, if_neg n10]
    · refine ⟨0, s, σ, μ, ?_, ?_, h, h'⟩
      · rw [(called_S c0 a0).1 he, Option.bind_some, if_neg (nI_ne (by omega) (by omega)), l1, Option.bind_some, if_pos z00]
      · rw [(enough_M c0 b0).1 he, Option.bind_some, if_neg n10, l2, Option.bind_some, if_pos z00]
  · refine alike_no 3 (by decide) h h' (r := -3) ?_ ?_
    · rw [(called_S c0 a0).2 he, Option.bind_some, if_pos z00, rf3]; rfl
    · rw [(enough_M c0 b0).2 he, Option.bind_some, if_pos z00, rm3]; rfl
