/-! PAPER: the first of those left -/
theorem frs_lt (S n : Nat) : ∀ p, frs S n p < 2 ^ p := by
  intro p
  induction p with
  | zero => exact Nat.lt_of_lt_of_le Nat.zero_lt_one (Nat.le_refl _)
  | succ p ih =>
    unfold frs
    rw [Nat.pow_succ]
    split <;> omega
theorem frs_b (S n i : Nat) : ∀ p, (frs S n p).testBit i = (decide (i < p) && (S.testBit i && decide (cnt S i < n))) := by
  intro p
  induction p with
  | zero => show (0 : Nat).testBit i = _; rw [Nat.zero_testBit]; simp
  | succ p ih =>
    unfold frs
    have hl := frs_lt S n p
    by_cases h : S.testBit p = true ∧ cnt S p < n
    · rw [if_pos h, Nat.add_comm]
      rcases Nat.lt_trichotomy i p with q | q | q
      · rw [lo_bit q, ih]; simp [q, show i < p + 1 by omega]
      · subst q
        rw [hi_bit hl]; simp [h.1, h.2]
      · have hb : 2 ^ p + frs S n p < 2 ^ (p + 1) := by rw [Nat.pow_succ]; omega
        rw [Nat.testBit_lt_two_pow (Nat.lt_of_lt_of_le hb (Nat.pow_le_pow_right (by decide) (show p + 1 ≤ i by omega)))]
        simp [show ¬ i < p + 1 by omega]
    · rw [if_neg h, ih]
      rcases Nat.lt_trichotomy i p with q | q | q
      · simp [q, show i < p + 1 by omega]
      · subst q
        simp only [Nat.lt_irrefl, decide_false, Bool.false_and]
        cases hq : S.testBit i with
        | false => simp
        | true =>
          have : ¬ cnt S i < n := fun z => h ⟨hq, z⟩
          simp [this]
      · simp [show ¬ i < p by omega, show ¬ i < p + 1 by omega]
theorem frs_cnt (S n : Nat) : ∀ p, p ≤ 12 → cnt (frs S n 12) p = min n (cnt S p) := by
  intro p
  induction p with
  | zero => intro _; simp [cnt]
  | succ p ih =>
    intro hp
    rw [cnt_s, cnt_s, ih (by omega), frs_b]
    by_cases h : S.testBit p = true
    · rw [h]
      by_cases h2 : cnt S p < n
      · simp [h2, show p < 12 by omega]; omega
      · simp [h2]; omega
    · have : S.testBit p = false := by cases hq : S.testBit p with | false => rfl | true => exact absurd hq h
      simp [this]
theorem frs_sub (S n : Nat) : sub (frs S n 12) S := fun i hi => by
  rw [frs_b] at hi
  simp only [Bool.and_eq_true] at hi
  exact hi.2.1
theorem frs_stop {S n p : Nat} (h : n ≤ cnt S p) (hp : p ≤ 12) : frs S n 12 = frs S n p := by
  apply Nat.eq_of_testBit_eq
  intro i
  rw [frs_b, frs_b]
  rcases Nat.lt_or_ge i p with q | q
  · simp [q, show i < 12 by omega]
  · have := cnt_mono S q
    have h2 : ¬ cnt S i < n := by omega
    simp [h2]
theorem kth {S k : Nat} : ∀ p, k < cnt S p → ∃ q, q < p ∧ S.testBit q = true ∧ cnt S q = k := by
  intro p
  induction p with
  | zero => intro h; exact absurd h (Nat.not_lt_zero _)
  | succ p ih =>
    intro h
    rw [cnt_s] at h
    by_cases h2 : k < cnt S p
    · obtain ⟨q, q1, q2, q3⟩ := ih h2
      exact ⟨q, by omega, q2, q3⟩
    · by_cases hb : S.testBit p = true
      · rw [if_pos hb] at h
        exact ⟨p, by omega, hb, by omega⟩
      · rw [if_neg hb] at h; omega
theorem kth_one {S i j : Nat} (hi : S.testBit i = true) (hj : S.testBit j = true) (e : cnt S i = cnt S j) : i = j := by
  rcases Nat.lt_trichotomy i j with q | q | q
  · have := cnt_mono S (show i + 1 ≤ j from q)
    rw [cnt_s, if_pos hi] at this; omega
  · exact q
  · have := cnt_mono S (show j + 1 ≤ i from q)
    rw [cnt_s, if_pos hj] at this; omega
theorem frs_s {X k : Nat} (hX : X < 4096) : frs X (k + 1) 12 = (match frst (dif X (frs X k 12)) with | none => frs X k 12 | some p => frs X k 12 ||| 2 ^ p) ∧ dif X (frs X (k + 1) 12) = (match frst (dif X (frs X k 12)) with | none => dif X (frs X k 12) | some p => dif X (frs X k 12) ^^^ 2 ^ p) := by
  have hd : ∀ i k, (dif X (frs X k 12)).testBit i = (X.testBit i && !(decide (i < 12) && (X.testBit i && decide (cnt X i < k)))) := fun i k => by
    unfold dif; rw [dif_b, frs_b]
  have hin : ∀ i, X.testBit i = true → i < 12 := fun i hi => mem_lt (p := 12) hX hi
  cases hf : frst (dif X (frs X k 12)) with
  | none =>
    have hno : ∀ i, X.testBit i = true → cnt X i < k := fun i hi => by
      have := frst_n hf i (hin i hi)
      rw [hd, hi] at this
      simpa [hin i hi] using this
    have e : frs X (k + 1) 12 = frs X k 12 := by
      apply Nat.eq_of_testBit_eq
      intro i
      rw [frs_b, frs_b]
      cases hq : X.testBit i with
      | false => simp
      | true =>
        have := hno i hq
        simp [this, show cnt X i < k + 1 by omega]
    dsimp only
    rw [e]; exact ⟨rfl, rfl⟩
  | some p =>
    obtain ⟨p1, p2, p3⟩ := frst_y hf
    have p4 : X.testBit p = true := by
      rw [hd] at p2
      exact (Bool.and_eq_true _ _ ▸ p2).1
    have p5 : ¬ cnt X p < k := fun z => by
      rw [hd, p4] at p2
      simp [p1, z] at p2
    have p6 : cnt X p = k := by
      apply Classical.byContradiction
      intro hne
      obtain ⟨q, q1, q2, q3⟩ := kth p (show k < cnt X p by omega)
      have := p3 q q1
      rw [hd, q2] at this
      simp [show q < 12 by omega, q3] at this
    have e : frs X (k + 1) 12 = frs X k 12 ||| 2 ^ p := by
      apply Nat.eq_of_testBit_eq
      intro i
      rw [fb_bit_set, frs_b, frs_b]
      by_cases ei : i = p
      · subst ei; simp [p1, p4, p6]
      · cases hq : X.testBit i with
        | false => simp [ei]
        | true =>
          have hne : cnt X i ≠ k := fun z => ei (kth_one hq p4 (by omega))
          by_cases hc : cnt X i < k
          · simp [ei, hc, show cnt X i < k + 1 by omega]
          · simp [ei, hc, show ¬ cnt X i < k + 1 by omega]
    refine ⟨e, ?_⟩
    dsimp only
    apply Nat.eq_of_testBit_eq
    intro i
    rw [flip, e]
    unfold dif
    rw [dif_b, dif_b, fb_bit_set, frs_b]
    by_cases ei : i = p
    · subst ei; simp [p4, p6]
    · simp [ei]
theorem lst_all : (List.range 4096).all (fun X => decide (nI X &&& (nI X - (1 : Int32)) = nI (match frst X with | none => X | some p => X ^^^ 2 ^ p))) = true := by decide +kernel
theorem lst_S {X : Nat} (h : X < 4096) : nI X &&& (nI X - (1 : Int32)) = nI (match frst X with | none => X | some p => X ^^^ 2 ^ p) := of_decide_eq_true (List.all_eq_true.mp lst_all X (List.mem_range.mpr h))
theorem low_S2 {X : Nat} (h : X < 4096) : nI X &&& (-(nI X)) = nI (match frst X with | none => 0 | some p => 2 ^ p) := of_decide_eq_true (List.all_eq_true.mp low_all X (List.mem_range.mpr h))
theorem dif_lt {S T : Nat} (h : S < 4096) : dif S T < 4096 := Nat.lt_of_le_of_lt (sub_le (fun i hi => by unfold dif at hi; rw [dif_b] at hi; exact (Bool.and_eq_true _ _ ▸ hi).1)) h
theorem firstOf_S {X n : Nat} {σ : MM} (hX : X < 4096) (hn : n ≤ 7) : f_X6_firstOf (nI X) (nI n) σ = some (nI (frs X n 12)) := by
  unfold f_X6_firstOf
  have hq := lp_0 (step := fun s => g_X6_firstOf_7 (nI n) s.1 s.2.1 s.2.2 σ) (fun k t => t = (nI (frs X k 12), nI (dif X (frs X k 12)), nI k)) (fun r => r = nI (frs X n 12)) n ((0 : Int32), nI X, (0 : Int32)) (by omega) ?_ ?_ ?_
  · obtain ⟨r, r1, r2⟩ := hq
    rw [r1, r2]; rfl
  · have h0 : frs X 0 12 = 0 := by
      apply Nat.eq_of_testBit_eq
      intro i
      rw [frs_b, Nat.zero_testBit]; simp
    have h1 : dif X 0 = X := by unfold dif; rw [Nat.and_zero, Nat.xor_zero]
    rw [h0, h1]; rfl
  · rintro k t hk rfl
    show ∃ s', g_X6_firstOf_7 (nI n) (nI _) (nI _) (nI k) σ = some (.inl s') ∧ _
    unfold g_X6_firstOf_7
    have hd := dif_lt (T := frs X k 12) hX
    obtain ⟨e1, e2⟩ := frs_s (k := k) hX
    rw [if_neg (nI_ge hk (by omega)), low_S2 hd, lst_S hd, e2, e1, nI_1, orI]
    refine ⟨_, rfl, ?_⟩
    cases frst (dif X (frs X k 12)) with
    | none => dsimp only; rw [Nat.or_zero]
    | some p => rfl
  · rintro t rfl
    refine ⟨_, ?_, rfl⟩
    show g_X6_firstOf_7 (nI n) (nI _) (nI _) (nI n) σ = _
    unfold g_X6_firstOf_7
    rw [if_pos (nI_le (Nat.le_refl _) (by omega))]
theorem or_lt {S T : Nat} (h : S < 4096) (h' : T < 4096) : (S ||| T) < 4096 := Nat.or_lt_two_pow (n := 12) h h'
theorem juryOf_M {c : Cr} {μ : MM} {A B : Nat} (hc : okC c) (he : enough c) (hr : atR μ c) : f_X7_juryOf (nI A) (nI B) μ = some (nI (PJ (mOf c) (full c) A B)) := by
  have hk := kb hc
  have hf := full_2 hc he
  unfold f_X7_juryOf
  rw [cset_M hc hr, Option.bind_some, orI, andn2]
  have e : full c ^^^ (full c &&& (A ||| B)) = dif (full c) (A ||| B) := rfl
  rw [e]
  have hX := dif_lt (T := A ||| B) hf
  unfold PJ
  show _ = some (nI (frs (dif (full c) (A ||| B)) (cK c 0) 12))
  generalize dif (full c) (A ||| B) = X at hX ⊢
  have hq := lp_m (step := fun s => g_X7_juryOf_20 (nI X) s.1 s.2.1 s.2.2 μ) (fun t => ∃ i, i ≤ 12 ∧ t = (nI (frs X (cK c 0) i), nI (min (cK c 0) (cnt X i)), nI i)) (fun r => r = nI (frs X (cK c 0) 12)) (fun t => 12 - t.2.2.toNatClampNeg) ((0 : Int32), (0 : Int32), (0 : Int32)) (by show 12 - _ < 5000; omega) ⟨0, by omega, by
      show _ = (nI 0, nI (min (cK c 0) 0), nI 0)
      rw [Nat.min_zero]; rfl⟩ ?_
  · obtain ⟨r, r1, r2⟩ := hq
    rw [r1, r2]; rfl
  rintro t ⟨i, hi, rfl⟩
  show (∃ r, g_X7_juryOf_20 (nI X) (nI _) (nI _) (nI i) μ = some (.inr r) ∧ _) ∨ ∃ s', g_X7_juryOf_20 (nI X) (nI _) (nI _) (nI i) μ = some (.inl s') ∧ _
  unfold g_X7_juryOf_20
  by_cases h12 : 12 ≤ i
  · left
    have c1 : (12 : Int32) ≤ nI i := nI_le (a := 12) h12 (by omega)
    rw [if_pos c1]
    exact ⟨_, rfl, by rw [show i = 12 by omega]⟩
  · have c1 : ¬ (12 : Int32) ≤ nI i := nI_ge (b := 12) (by omega) (by omega)
    rw [if_neg c1, need_M hr, Option.bind_some]
    by_cases hful : cK c 0 ≤ cnt X i
    · left
      rw [if_pos (nI_le (by omega) (by omega))]
      exact ⟨_, rfl, by rw [frs_stop hful (by omega)]⟩
    · right
      rw [if_neg (nI_ge (by omega) (by omega)), bitM (by omega) (by omega)]
      have dec : ∀ x y : Int32, 12 - ((x, y, nI i + 1) : Int32 × Int32 × Int32).2.2.toNatClampNeg < 12 - (nI i).toNatClampNeg := fun x y => by
        show 12 - (nI i + 1).toNatClampNeg < _
        rw [nI_1, nI_c (by omega), nI_c (by omega)]; omega
      cases hb : X.testBit i with
      | false =>
        rw [if_pos (by rfl)]
        refine ⟨_, rfl, ⟨i + 1, by omega, ?_⟩, dec _ _⟩
        rw [nI_1, cnt_s, hb]
        have : frs X (cK c 0) (i + 1) = frs X (cK c 0) i := by rw [frs, if_neg (fun z => by rw [hb] at z; cases z.1)]
        rw [this]; rfl
      | true =>
        rw [if_neg (by decide), sh1 i (by omega), orI]
        refine ⟨_, rfl, ⟨i + 1, by omega, ?_⟩, dec _ _⟩
        have h1 : frs X (cK c 0) (i + 1) = frs X (cK c 0) i ||| 2 ^ i := by
          apply Nat.eq_of_testBit_eq
          intro j
          rw [fb_bit_set, frs_b, frs_b]
          rcases Nat.lt_trichotomy j i with q | q | q
          · simp [q, show j < i + 1 by omega, show j ≠ i by omega]
          · subst q; simp [hb]; omega
          · simp [show ¬ j < i by omega, show ¬ j < i + 1 by omega, show j ≠ i by omega]
        rw [h1, nI_1, nI_1, cnt_s, hb, if_pos rfl, show min (cK c 0) (cnt X i + 1) = min (cK c 0) (cnt X i) + 1 by omega]
theorem cnt_or_le (S T : Nat) : ∀ n, cnt (S ||| T) n ≤ cnt S n + cnt T n := by
  intro n
  induction n with
  | zero => exact Nat.zero_le _
  | succ n ih =>
    rw [cnt_s, cnt_s, cnt_s, Nat.testBit_or]
    cases S.testBit n <;> cases T.testBit n <;> simp <;> omega
theorem cnt_dif (S T : Nat) : ∀ n, cnt S n ≤ cnt (dif S T) n + cnt T n := by
  intro n
  induction n with
  | zero => exact Nat.zero_le _
  | succ n ih =>
    rw [cnt_s, cnt_s, cnt_s]
    unfold dif at ih ⊢
    rw [dif_b]
    cases S.testBit n <;> cases T.testBit n <;> simp <;> omega
/-- a jury of papers is a jury -/
theorem PJ_jur {c : Cr} {A B : Nat} (hc : okC c) (he : enough c) (hA : cnt A 12 = cK c 1) (hB : cnt B 12 = cK c 2) : jur (mOf c) (PJ (mOf c) (full c) A B) ∧ mN (mOf c) ≤ cnt (dif (full c) (A ||| B)) 12 := by
  have hcn := full_cnt hc he
  have h1 := cnt_or_le A B 12
  have h2 := cnt_dif (full c) (A ||| B) 12
  have h3 : mN (mOf c) ≤ cnt (dif (full c) (A ||| B)) 12 := by omega
  refine ⟨⟨?_, ?_⟩, h3⟩
  · refine sub_lt (sub_tr (frs_sub _ _) (fun i hi => ?_)) (full_lt he)
    unfold dif at hi
    rw [dif_b] at hi
    exact (Bool.and_eq_true _ _ ▸ hi).1
  · unfold PJ
    rw [frs_cnt _ _ 12 (by omega), Nat.min_eq_left h3]
theorem al_paper {s : St} {σ μ : MM} (h : RelS s σ) (h' : RelM s μ) (v1 v2 : Int32) : Alike (f_X6_paper v1 v2 σ) (f_X7_paper v1 v2 μ) := by
  obtain ⟨⟨c0, a0, d0⟩, -⟩ := id h
  obtain ⟨⟨-, b0⟩, -⟩ := id h'
  have hcp := call_pos c0
  have hk := kb c0
  unfold f_X6_paper f_X7_paper
  rcases enough_dec (sC s) with he | he
  · have hf := full_2 c0 he
    have he' : call (sC s) ≤ cP (sC s) := he
    have hP := c0.1
    rw [(called_S c0 a0).1 he, Option.bind_some, if_neg (nI_ne (by omega) (by omega)), set_S c0 a0 he, Option.bind_some, (enough_M c0 b0).1 he, Option.bind_some, if_neg n10, cset_M c0 b0]
    -- sets within, or not
    have hw : ∀ v : Int32, (v &&& (nI (full (sC s)) ^^^ (-1))) = 0 ↔ ∃ S, S < 2 ^ call (sC s) ∧ v = nI S := fun v => withS (p := call (sC s)) (by omega)
    have hor : ((v1 ||| v2) &&& (nI (full (sC s)) ^^^ (-1))) = 0 ↔ (v1 &&& (nI (full (sC s)) ^^^ (-1))) = 0 ∧ (v2 &&& (nI (full (sC s)) ^^^ (-1))) = 0 := by
      obtain ⟨x, hx, rfl⟩ := of32 v1
      obtain ⟨y, hy, rfl⟩ := of32 v2
      have hb : ∀ z, z < 4294967296 → (nI z &&& (nI (full (sC s)) ^^^ (-1)) = 0 ↔ sub z (full (sC s))) := fun z hz => by
        rw [andn2, nI_0iff, dif_0]
        exact Nat.lt_of_le_of_lt (sub_le (fun i hi => by rw [dif_b] at hi; exact (Bool.and_eq_true _ _ ▸ hi).1)) hz
      rw [orI, hb _ (Nat.or_lt_two_pow (n := 32) hx hy), hb _ hx, hb _ hy]
      constructor
      · intro q
        exact ⟨fun i hi => q i (by rw [Nat.testBit_or, hi]; rfl), fun i hi => q i (by rw [Nat.testBit_or, hi]; exact Bool.or_true _)⟩
      · rintro ⟨q1, q2⟩ i hi
        rw [Nat.testBit_or, Bool.or_eq_true] at hi
        exact hi.elim (q1 i) (q2 i)
    by_cases hin : ((v1 ||| v2) &&& (nI (full (sC s)) ^^^ (-1))) = 0
    · rw [if_pos hin]
      obtain ⟨i1, i2⟩ := hor.mp hin
      obtain ⟨A, hA, rfl⟩ := (hw v1).mp i1
      obtain ⟨B, hB, rfl⟩ := (hw v2).mp i2
      have hA2 := pow12 (p := call (sC s)) (by omega) hA
      have hB2 := pow12 (p := call (sC s)) (by omega) hB
      have cA := cnt_le A 12
      have cB := cnt_le B 12
      rw [if_neg (nI_pos (by omega)), if_neg (nI_pos (by omega)), Option.bind_some, if_pos i1, Option.bind_some, if_pos i2, bc_S hA2, Option.bind_some, (str_S a0).1, Option.bind_some, bits_M hA2, Option.bind_some, chk_t ib_1_5, tn_1, b0.2.2.2 1 (by decide)]
      by_cases eA : cnt A 12 = cK (sC s) 1
      · rw [if_pos (show nI (cnt A 12) = nI (cK (sC s) 1) by rw [eA]), if_pos (show nI (cnt A 12) = nI (cK (sC s) 1) by rw [eA]), bc_S hB2, Option.bind_some, (str_S a0).2, Option.bind_some, bits_M hB2, Option.bind_some, chk_t ib_2_5, tn_2, b0.2.2.2 2 (by decide)]
        by_cases eB : cnt B 12 = cK (sC s) 2
        · rw [if_pos (show nI (cnt B 12) = nI (cK (sC s) 2) by rw [eB]), if_pos (show nI (cnt B 12) = nI (cK (sC s) 2) by rw [eB])]
          obtain ⟨hj, -⟩ := PJ_jur c0 he eA eB
          obtain ⟨σ', s1, s2⟩ := chance_S (b := 16) (okM_of c0) d0 hj
          obtain ⟨μ1, m1, mm2, m3⟩ := RelM_hold h'
          obtain ⟨μ', n1, n2⟩ := chance_M (okM_of c0) m3 hj
          refine ⟨lN (CH (mOf (sC s)) (PJ (mOf (sC s)) (full (sC s)) A B)), s, σ', μ', ?_, ?_, RelS_keep h (by rw [s2.1]) (fun k _ => by rw [s2.1]) (s2.2 45 (by decide)), RelM_keep mm2 (fun p _ => by rw [n2.1]) (fun k _ => by rw [n2.1])⟩
          · have e : full (sC s) ^^^ (full (sC s) &&& (A ||| B)) = dif (full (sC s)) (A ||| B) := rfl
            rw [need_S a0, Option.bind_some, orI, andn2, e, firstOf_S (dif_lt hf) hk.1.2, Option.bind_some]
            have s1' : f_X2_chanceOf 16 (nI (frs (dif (full (sC s)) (A ||| B)) (cK (sC s) 0) 12)) σ = _ := s1
            rw [s1']; rfl
          · rw [m1, Option.bind_some, juryOf_M c0 he mm2.1.2, Option.bind_some, n1]; rfl
        · refine alike_no 3 (by decide) h h' (r := rfL (-3)) ?_ ?_
          · rw [if_neg (fun q => eB ((nI_eq_iff (by omega) (by omega)).mp q)), rl3]; rfl
          · rw [if_neg (fun q => eB ((nI_eq_iff (by omega) (by omega)).mp q)), ml3]; rfl
      · refine alike_no 3 (by decide) h h' (r := rfL (-3)) ?_ ?_
        · rw [if_neg (fun q => eA ((nI_eq_iff (by omega) (by omega)).mp q)), rl3]; rfl
        · rw [if_neg (fun q => eA ((nI_eq_iff (by omega) (by omega)).mp q)), ml3]; rfl
    · refine alike_no 1 (by decide) h h' (r := rfL (-1)) ?_ ?_
      · rw [if_neg hin, rl1]; rfl
      · by_cases n1 : v1 < 0
        · rw [if_pos n1, ml1]; rfl
        rw [if_neg n1]
        by_cases n2 : v2 < 0
        · rw [if_pos n2, ml1]; rfl
        rw [if_neg n2, Option.bind_some]
        by_cases i1 : (v1 &&& (nI (full (sC s)) ^^^ (-1))) = 0
        · rw [if_pos i1, Option.bind_some, if_neg (fun q => hin (hor.mpr ⟨i1, q⟩)), ml1]; rfl
        · rw [if_neg i1, ml1]; rfl
  · refine alike_no 3 (by decide) h h' (r := rfL (-3)) ?_ ?_
    · rw [(called_S c0 a0).2 he, Option.bind_some, if_pos z00, rl3]; rfl
    · rw [(enough_M c0 b0).2 he, Option.bind_some, if_pos z00, ml3]; rfl
