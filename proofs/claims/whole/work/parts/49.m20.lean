/-! TRADE -/
def frst (X : Nat) : Option Nat := stk (fun _ => 0) 0 X 12
theorem frst_y {X p : Nat} (h : frst X = some p) : p < 12 ∧ X.testBit p = true ∧ ∀ j, j < p → X.testBit j = false := by
  obtain ⟨h1, h2, h3, h4⟩ := stk_some 12 p h
  refine ⟨h1, h2, fun j hj => ?_⟩
  cases hq : X.testBit j with
  | false => rfl
  | true => exact absurd ⟨hq, rfl⟩ (h4 j hj)
theorem frst_n {X : Nat} (h : frst X = none) : ∀ p, p < 12 → X.testBit p = false := by
  intro p hp
  cases hq : X.testBit p with
  | false => rfl
  | true => exact absurd ⟨hq, rfl⟩ (stk_none 12 h p hp)
theorem low_all : (List.range 4096).all (fun X => decide (nI X &&& (-(nI X)) = nI (match frst X with | none => 0 | some p => 2 ^ p))) = true := by decide +kernel
theorem low_S {X p : Nat} (h : X < 4096) (hp : frst X = some p) : nI X &&& (-(nI X)) = nI (2 ^ p) := by
  have := of_decide_eq_true (List.all_eq_true.mp low_all X (List.mem_range.mpr h))
  rw [hp] at this
  exact this
def tfree (c : Cr) (T i : Nat) : Nat := dif (sset (cS c) (i % 6) (cP c)) T
theorem tfree_b {c : Cr} {T i p : Nat} : (tfree c T i).testBit p = (decide (p < cP c ∧ cS c p = i % 6) && !T.testBit p) := by
  unfold tfree dif
  rw [dif_b, sset_b]
theorem tfree_lt {c : Cr} {T i : Nat} : tfree c T i < 2 ^ cP c := by
  apply sub_full.mp
  intro p hp
  rw [tfree_b, Bool.and_eq_true] at hp
  have := of_decide_eq_true hp.1
  rw [m2]; simp [this.1]
def tr (c : Cr) : Nat → Nat
  | 0 => 0
  | i + 1 => match frst (tfree c (tr c i) i) with
    | none => tr c i
    | some p => tr c i ||| 2 ^ p
theorem tr_eq (c : Cr) (i : Nat) : tr c (i + 1) = match frst (tfree c (tr c i) i) with | none => tr c i | some p => tr c i ||| 2 ^ p := rfl
theorem cnt_ins {T p : Nat} (h : T.testBit p = false) (hp : p < 12) : cnt (T ||| 2 ^ p) 12 = cnt T 12 + 1 := by
  have hb : (T ||| 2 ^ p).testBit p = true := by rw [fb_bit_set]; simp
  have := cnt_del12 hb hp
  have e : (T ||| 2 ^ p) ^^^ 2 ^ p = T := by
    apply Nat.eq_of_testBit_eq
    intro i
    rw [flip, fb_bit_set]
    by_cases ei : i = p
    · subst ei; simp [h]
    · simp [ei]
  rw [e] at this
  omega
theorem tr_s {c : Cr} (hc : okC c) (i : Nat) (hs : sub (tr c i) (2 ^ cP c - 1)) : sub (tr c i) (tr c (i + 1)) ∧ sub (tr c (i + 1)) (2 ^ cP c - 1) ∧ cnt (tr c (i + 1)) 12 = cnt (tr c i) 12 + (if frst (tfree c (tr c i) i) = none then 0 else 1) := by
  have hP := hc.1
  rw [tr_eq]
  cases hq : frst (tfree c (tr c i) i) with
  | none => exact ⟨sub_rf, hs, rfl⟩
  | some p =>
    obtain ⟨p1, p2, -⟩ := frst_y hq
    rw [tfree_b, Bool.and_eq_true] at p2
    have p3 := of_decide_eq_true p2.1
    have p4 : (tr c i).testBit p = false := by simpa using p2.2
    refine ⟨fun j hj => ?_, fun j hj => ?_, ?_⟩
    · show (tr c i ||| 2 ^ p).testBit j = true
      rw [fb_bit_set, hj]; rfl
    · have hj' : (tr c i ||| 2 ^ p).testBit j = true := hj
      rw [fb_bit_set, Bool.or_eq_true] at hj'
      rcases hj' with hj' | hj'
      · exact hs j hj'
      · rw [of_decide_eq_true hj', m2]; simp [p3.1]
    · show cnt (tr c i ||| 2 ^ p) 12 = _
      rw [cnt_ins p4 p1]; rfl
theorem tr_in {c : Cr} (hc : okC c) : ∀ i, sub (tr c i) (2 ^ cP c - 1) := by
  intro i
  induction i with
  | zero => exact fun p hp => by have : (0 : Nat).testBit p = true := hp; rw [Nat.zero_testBit] at this; cases this
  | succ i ih => exact (tr_s hc i ih).2.1
theorem tr_mono {c : Cr} (hc : okC c) (i : Nat) : ∀ j, sub (tr c i) (tr c (i + j)) := by
  intro j
  induction j with
  | zero => exact sub_rf
  | succ j ih => exact sub_tr ih (tr_s hc (i + j) (tr_in hc _)).1
theorem cnt_str {S T p : Nat} (h : sub S T) (hp : p < 12) (h1 : T.testBit p = true) (h2 : S.testBit p = false) : cnt S 12 < cnt T 12 := by
  have hs : sub S (T ^^^ 2 ^ p) := fun i hi => by
    by_cases e : i = p
    · rw [e, h2] at hi; cases hi
    · rw [del_b e]; exact h i hi
  have := cnt_sub hs 12
  have := cnt_del12 h1 hp
  omega
/-- in six turns somebody is taken, or all are -/
theorem tr_six {c : Cr} (hc : okC c) (i : Nat) (hn : cnt (tr c i) 12 < cP c) : cnt (tr c i) 12 < cnt (tr c (i + 6)) 12 := by
  have hP := hc.1
  have hex : ∃ p, p < cP c ∧ (tr c i).testBit p = false := by
    apply Classical.byContradiction
    intro hne
    have hall : sub (2 ^ cP c - 1) (tr c i) := fun p hp => by
      rw [m2] at hp
      have hp' := of_decide_eq_true hp
      cases hq : (tr c i).testBit p with
      | true => rfl
      | false => exact absurd ⟨p, hp', hq⟩ hne
    have h1 := cnt_sub hall 12
    rw [cnt_full, Nat.min_eq_left hP] at h1
    omega
  obtain ⟨p, p1, p2⟩ := hex
  have hs := hc.2.2.1 p p1
  obtain ⟨k, k1, k2⟩ : ∃ k, k < 6 ∧ (i + k) % 6 = cS c p := ⟨(cS c p + 6 - i % 6) % 6, by omega, by omega⟩
  have hm1 := tr_mono hc i k
  have hm2 := tr_mono hc (i + k + 1) (5 - k)
  rw [show i + k + 1 + (5 - k) = i + 6 by omega] at hm2
  have hle := cnt_sub hm2 12
  obtain ⟨g1, g2, g3⟩ := tr_s hc (i + k) (tr_in hc _)
  have hle0 := cnt_sub hm1 12
  have hle1 := cnt_sub g1 12
  cases hb : (tr c (i + k)).testBit p with
  | true =>
    have := cnt_str hm1 (by omega) hb p2
    omega
  | false =>
    have hf : frst (tfree c (tr c (i + k)) (i + k)) ≠ none := fun q => by
      have := frst_n q p (by omega)
      rw [tfree_b, hb] at this
      simp [p1, k2] at this
    rw [if_neg hf] at g3
    omega
theorem tr_end {c : Cr} (hc : okC c) : ∀ r, min r (cP c) ≤ cnt (tr c (6 * r)) 12 := by
  intro r
  induction r with
  | zero => omega
  | succ r ih =>
    have hm := cnt_sub (tr_mono hc (6 * r) 6) 12
    rcases Nat.lt_or_ge (cnt (tr c (6 * r)) 12) (cP c) with q | q
    · have := tr_six hc (6 * r) q
      rw [show 6 * (r + 1) = 6 * r + 6 by omega]
      omega
    · rw [show 6 * (r + 1) = 6 * r + 6 by omega]
      omega
theorem r6 {n : Nat} (h : n < 2147483648) : nI n - nI n / 6 * 6 = nI (n % 6) := pk_rem (a := n) (d := 6) h (by decide) (by decide)
/-- the lowest of a sort that is free, in the reference -/
theorem td43 {c : Cr} {μ : MM} {T i : Nat} (hc : okC c) (hr : atR μ c) (hT : T < 4096) : ∃ v, loopN (fun t => g_X7_trade_43 (nI T) (nI (i % 6)) t.1 t.2 μ) FU ((-1 : Int32), nI (cP c) - 1) = some v ∧ ((frst (tfree c T i) = none ∧ v = -1) ∨ ∃ p, frst (tfree c T i) = some p ∧ v = nI p) := by
  have hP := hc.1
  have hq := lp_0 (step := fun t => g_X7_trade_43 (nI T) (nI (i % 6)) t.1 t.2 μ) (fun k t => t.2 = nI (cP c - k) + (-1) ∧ ((t.1 = -1 ∧ ∀ p, cP c - k ≤ p → p < cP c → (tfree c T i).testBit p = false) ∨ ∃ p, t.1 = nI p ∧ cP c - k ≤ p ∧ p < cP c ∧ (tfree c T i).testBit p = true ∧ ∀ q, cP c - k ≤ q → q < p → (tfree c T i).testBit q = false))
    (fun v => (v = -1 ∧ ∀ p, p < cP c → (tfree c T i).testBit p = false) ∨ ∃ p, v = nI p ∧ p < cP c ∧ (tfree c T i).testBit p = true ∧ ∀ q, q < p → (tfree c T i).testBit q = false) (cP c) ((-1 : Int32), nI (cP c) - 1) (by omega) ⟨?_, Or.inl ⟨rfl, fun p h1 h2 => by omega⟩⟩ ?_ ?_
  · obtain ⟨v, v1, v2⟩ := hq
    refine ⟨v, v1, ?_⟩
    rcases v2 with ⟨e, hall⟩ | ⟨p, e, p1, p2, p3⟩
    · left
      refine ⟨?_, e⟩
      cases hf : frst (tfree c T i) with
      | none => rfl
      | some p =>
        obtain ⟨f1, f2, -⟩ := frst_y hf
        rw [hall p (mem_lt tfree_lt f2)] at f2; cases f2
    · right
      refine ⟨p, ?_, e⟩
      cases hf : frst (tfree c T i) with
      | none => rw [frst_n hf p (by omega)] at p2; cases p2
      | some p' =>
        obtain ⟨f1, f2, f3⟩ := frst_y hf
        rcases Nat.lt_trichotomy p p' with q | q | q
        · rw [f3 p q] at p2; cases p2
        · rw [q]
        · rw [p3 p' q] at f2; cases f2
  · show nI (cP c) - 1 = nI (cP c - 0) + (-1)
    rw [Nat.sub_zero, Int32.sub_eq_add_neg]
  · rintro k ⟨x, v⟩ hk ⟨f1, f2⟩
    dsimp only at f1 f2
    obtain ⟨n, hn⟩ : ∃ n, cP c - k = n + 1 := ⟨cP c - k - 1, by omega⟩
    have hn2 : cP c - (k + 1) = n := by omega
    rw [hn] at f1 f2
    rw [pk_m1] at f1
    rw [hn2]
    subst f1
    have hs := hc.2.2.1 n (by omega)
    have hm6 : i % 6 < 6 := Nat.mod_lt _ (by decide)
    have hbit : (tfree c T i).testBit n = (decide (cS c n = i % 6) && !T.testBit n) := by rw [tfree_b]; simp [show n < cP c by omega]
    have keep : (tfree c T i).testBit n = false → ((x = -1 ∧ ∀ p, n ≤ p → p < cP c → (tfree c T i).testBit p = false) ∨ ∃ p, x = nI p ∧ n ≤ p ∧ p < cP c ∧ (tfree c T i).testBit p = true ∧ ∀ q, n ≤ q → q < p → (tfree c T i).testBit q = false) := fun hz => by
      rcases f2 with ⟨e, hall⟩ | ⟨p, e, p1, p2, p3, p4⟩
      · refine Or.inl ⟨e, fun p h1 h2 => ?_⟩
        by_cases ep : p = n
        · rw [ep]; exact hz
        · exact hall p (by omega) h2
      · refine Or.inr ⟨p, e, by omega, p2, p3, fun q h1 h2 => ?_⟩
        by_cases ep : q = n
        · rw [ep]; exact hz
        · exact p4 q (by omega) h2
    show ∃ s', g_X7_trade_43 (nI T) (nI (i % 6)) x (nI n) μ = some (.inl s') ∧ _
    unfold g_X7_trade_43
    rw [if_neg (nI_pos (by omega)), chk_t (inb_nI (by omega) (by omega)), nI_c (by omega), hr.2.2.1 n (by omega), bitM (by omega) (by omega)]
    by_cases e : cS c n = i % 6
    · rw [if_pos (show nI (cS c n) = nI (i % 6) by rw [e])]
      cases hb : T.testBit n with
      | false =>
        rw [if_pos (by rfl)]
        refine ⟨_, rfl, rfl, Or.inr ⟨n, rfl, Nat.le_refl _, by omega, ?_, fun q h1 h2 => by omega⟩⟩
        rw [hbit, hb]; simp [e]
      | true =>
        rw [if_neg (by decide)]
        refine ⟨_, rfl, rfl, keep ?_⟩
        rw [hbit, hb]; simp
    · rw [if_neg (fun q => e ((nI_eq_iff (by omega) (by omega)).mp q))]
      refine ⟨_, rfl, rfl, keep ?_⟩
      rw [hbit]; simp [e]
  · rintro ⟨x, v⟩ ⟨f1, f2⟩
    dsimp only at f1 f2
    rw [Nat.sub_self] at f1 f2
    have f1' : v = -1 := f1
    subst f1'
    refine ⟨x, ?_, ?_⟩
    · show g_X7_trade_43 (nI T) (nI (i % 6)) x (-1) μ = _
      unfold g_X7_trade_43
      rw [if_pos (by decide)]
    · rcases f2 with ⟨e, hall⟩ | ⟨p, e, p1, p2, p3, p4⟩
      · exact Or.inl ⟨e, fun p hp => hall p (Nat.zero_le _) hp⟩
      · exact Or.inr ⟨p, e, p2, p3, fun q hq => p4 q (Nat.zero_le _) hq⟩
theorem tr_lt {c : Cr} (hc : okC c) (i : Nat) : tr c i < 4096 := pow12 hc.1 (sub_full.mp (tr_in hc i))
theorem al_trade {s : St} {σ μ : MM} (h : RelS s σ) (h' : RelM s μ) : Alike (f_X6_trade σ) (f_X7_trade μ) := by
  obtain ⟨⟨c0, a0, d0⟩, -⟩ := id h
  obtain ⟨⟨-, b0⟩, -⟩ := id h'
  have hP := c0.1
  have hk := kb c0
  unfold f_X6_trade f_X7_trade
  rw [need_S a0, Option.bind_some, need_M b0, Option.bind_some, a0.1, b0.1]
  by_cases h3 : cK (sC s) 0 ≤ cP (sC s)
  · rw [if_pos (nI_le h3 (by omega)), if_pos (nI_le h3 (by omega))]
    have h42 : cK (sC s) 0 ≤ cnt (tr (sC s) 42) 12 := by
      have : min 7 (cP (sC s)) ≤ cnt (tr (sC s) 42) 12 := tr_end c0 7
      omega
    obtain ⟨n, n1, n2, n3⟩ := fb_first (p := fun i => cK (sC s) 0 ≤ cnt (tr (sC s) i) 12) (n := 43) ⟨42, by omega, h42⟩
    have lS : ∃ r, loopN (fun t => g_X6_trade_30 t.1 t.2.1 t.2.2 σ) FU ((0 : Int32), (0 : Int32), (0 : Int32)) = some r ∧ r = nI (tr (sC s) n) := by
      refine lp_0 (fun i t => t = (nI (tr (sC s) i), nI (cnt (tr (sC s) i) 12), nI i)) _ n _ (by omega) (by
        show _ = (nI 0, nI (cnt 0 12), nI 0)
        rw [show cnt 0 12 = 0 by decide]; rfl) ?_ ?_
      · rintro i t hi rfl
        have hno := n3 i hi
        have hl := tr_lt c0 i
        have hcl := cnt_le (tr (sC s) i) 12
        show ∃ s', g_X6_trade_30 (nI _) (nI _) (nI i) σ = some (.inl s') ∧ _
        unfold g_X6_trade_30
        have c1 : ¬ (42 : Int32) ≤ nI i := nI_ge (b := 42) (by omega) (by omega)
        have hm6 : i % 6 < 6 := Nat.mod_lt _ (by decide)
        have hfl : tfree (sC s) (tr (sC s) i) i < 4096 := pow12 hP tfree_lt
        have e1 : sset (cS (sC s)) (i % 6) (cP (sC s)) ^^^ (sset (cS (sC s)) (i % 6) (cP (sC s)) &&& tr (sC s) i) = tfree (sC s) (tr (sC s) i) i := rfl
        obtain ⟨-, -, t3⟩ := tr_s c0 i (tr_in c0 i)
        rw [if_neg c1, need_S a0, Option.bind_some, if_neg (nI_ge (by omega) (by omega)), chk_t ndz_6, r6 (by omega), ofSort_S c0 a0 hm6, Option.bind_some, andn2, e1, t3]
        have e2 : tr (sC s) (i + 1) = match frst (tfree (sC s) (tr (sC s) i) i) with | none => tr (sC s) i | some p => tr (sC s) i ||| 2 ^ p := rfl
        rw [e2]
        cases hf : frst (tfree (sC s) (tr (sC s) i) i) with
        | none =>
          have hz : tfree (sC s) (tr (sC s) i) i = 0 := by
            apply Nat.eq_of_testBit_eq
            intro p
            rw [Nat.zero_testBit]
            cases hq : (tfree (sC s) (tr (sC s) i) i).testBit p with
            | false => rfl
            | true =>
              have := mem_lt tfree_lt hq
              rw [frst_n hf p (by omega)] at hq; cases hq
          rw [hz, if_pos (by rfl)]
          exact ⟨_, rfl, by rw [nI_1]; rfl⟩
        | some p =>
          obtain ⟨p1, p2, -⟩ := frst_y hf
          have hz : tfree (sC s) (tr (sC s) i) i ≠ 0 := fun q => by rw [q, Nat.zero_testBit] at p2; cases p2
          rw [if_neg (nI_ne (by omega) (by omega)), low_S hfl hf, orI, nI_1, nI_1]
          exact ⟨_, rfl, rfl⟩
      · rintro t rfl
        refine ⟨_, ?_, rfl⟩
        have hcl := cnt_le (tr (sC s) n) 12
        show g_X6_trade_30 (nI _) (nI _) (nI n) σ = _
        unfold g_X6_trade_30
        by_cases e42 : 42 ≤ n
        · have c1 : (42 : Int32) ≤ nI n := nI_le (a := 42) e42 (by omega)
          rw [if_pos c1]
        · have c1 : ¬ (42 : Int32) ≤ nI n := nI_ge (b := 42) (by omega) (by omega)
          rw [if_neg c1, need_S a0, Option.bind_some, if_pos (nI_le n2 (by omega))]
    have lM : ∃ r, loopN (fun t => g_X7_trade_22 t.1 t.2 μ) FU ((0 : Int32), (0 : Int32)) = some r ∧ r = nI (tr (sC s) n) := by
      refine lp_0 (fun i t => t = (nI (tr (sC s) i), nI (i % 6))) _ n _ (by omega) rfl ?_ ?_
      · rintro i t hi rfl
        have hno := n3 i hi
        have hl := tr_lt c0 i
        have hcl := cnt_le (tr (sC s) i) 12
        have hm6 : i % 6 < 6 := Nat.mod_lt _ (by decide)
        obtain ⟨v, v1, v2⟩ := td43 (i := i) (T := tr (sC s) i) c0 b0 hl
        show ∃ s', g_X7_trade_22 (nI _) (nI (i % 6)) μ = some (.inl s') ∧ _
        unfold g_X7_trade_22
        have e6 : (nI (i % 6) + 1) - (nI (i % 6) + 1) / 6 * 6 = nI ((i + 1) % 6) := by
          rw [nI_1, r6 (by omega)]
          congr 1
          omega
        rw [bits_M hl, Option.bind_some, need_M b0, Option.bind_some, if_neg (nI_ge (by omega) (by omega)), b0.1, v1, Option.bind_some, e6]
        have e2 : tr (sC s) (i + 1) = match frst (tfree (sC s) (tr (sC s) i) i) with | none => tr (sC s) i | some p => tr (sC s) i ||| 2 ^ p := rfl
        rw [e2]
        rcases v2 with ⟨hf, rfl⟩ | ⟨p, hf, rfl⟩
        · rw [hf, if_neg (by decide), Option.bind_some, chk_t ndz_6]
          refine ⟨_, rfl, ?_⟩
          have ez : (0 : Int32) = nI 0 := rfl
          rw [ez, orI, Nat.or_zero]
        · obtain ⟨p1, p2, -⟩ := frst_y hf
          rw [hf, if_pos (ge0.mpr (nI_pos (by omega))), Option.bind_some, chk_t ndz_6, sh1 p (by omega), orI]
          exact ⟨_, rfl, rfl⟩
      · rintro t rfl
        refine ⟨_, ?_, rfl⟩
        have hcl := cnt_le (tr (sC s) n) 12
        have hl := tr_lt c0 n
        show g_X7_trade_22 (nI _) (nI (n % 6)) μ = _
        unfold g_X7_trade_22
        rw [bits_M hl, Option.bind_some, need_M b0, Option.bind_some, if_pos (nI_le n2 (by omega))]
    obtain ⟨r, l1, rfl⟩ := lS
    obtain ⟨r', l2, rfl⟩ := lM
    refine ⟨nI (tr (sC s) n), s, σ, μ, ?_, ?_, h, h'⟩
    · rw [l1]; rfl
    · rw [l2]; rfl
  · refine alike_no 3 (by decide) h h' (r := -3) ?_ ?_
    · rw [if_neg (nI_ge (Nat.not_le.mp h3) (by omega)), rf3]; rfl
    · rw [if_neg (nI_ge (Nat.not_le.mp h3) (by omega)), rm3]; rfl
