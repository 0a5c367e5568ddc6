/-! SELDOM -/
theorem lp_cong {S T : Type} {step step' : S → Option (S ⊕ T)} (I : S → Prop) (h : ∀ s, I s → step s = step' s ∧ ∀ s', step s = some (.inl s') → I s') : ∀ n s, I s → loopN step n s = loopN step' n s := by
  intro n
  induction n with
  | zero => intro s _; rfl
  | succ n ih =>
    intro s hs
    obtain ⟨h1, h2⟩ := h s hs
    show (step s).bind _ = (step' s).bind _
    rw [← h1]
    cases hq : step s with
    | none => rfl
    | some x =>
      cases x with
      | inl s' => exact ih s' (h2 s' hq)
      | inr t => rfl
def wnk (n k : Nat) : Int64 := (f_X6_ways (nI n) (nI k) (fun _ _ => 0, fun _ _ => 0)).getD 0
theorem waS_eq (v k : Int32) (σ : MM) : f_X6_ways v k σ = f_X6_ways v k (fun _ _ => 0, fun _ _ => 0) := rfl
theorem waM_eq (v k : Int32) (σ : MM) : f_X7_ways v k σ = f_X7_ways v k (fun _ _ => 0, fun _ _ => 0) := rfl
theorem wa_all : (List.range 13).all (fun n => (List.range 4).all (fun k => decide (f_X6_ways (nI n) (nI k) (fun _ _ => 0, fun _ _ => 0) = some (wnk n k) ∧ f_X7_ways (nI n) (nI k) (fun _ _ => 0, fun _ _ => 0) = some (wnk n k)))) = true := by decide +kernel
theorem wa {n k : Nat} (hn : n ≤ 12) (hk : k ≤ 3) (σ μ : MM) : f_X6_ways (nI n) (nI k) σ = some (wnk n k) ∧ f_X7_ways (nI n) (nI k) μ = some (wnk n k) := by
  rw [waS_eq, waM_eq]
  have := List.all_eq_true.mp (List.all_eq_true.mp wa_all n (List.mem_range.mpr (by omega))) k (List.mem_range.mpr (by omega))
  exact of_decide_eq_true this
def sset (f : Nat → Nat) (j : Nat) : Nat → Nat
  | 0 => 0
  | n + 1 => if f n = j then sset f j n ||| 2 ^ n else sset f j n
theorem sset_b (f : Nat → Nat) (j i : Nat) : ∀ n, (sset f j n).testBit i = decide (i < n ∧ f i = j) := by
  intro n
  induction n with
  | zero => show (0 : Nat).testBit i = _; rw [Nat.zero_testBit]; simp
  | succ n ih =>
    unfold sset
    by_cases h : f n = j
    · rw [if_pos h, fb_bit_set, ih]
      by_cases e : i = n
      · subst e; simp [h]
      · by_cases q : i < n
        · simp [q, e, show i < n + 1 by omega]
        · simp [q, e, show ¬ i < n + 1 by omega]
    · rw [if_neg h, ih]
      by_cases e : i = n
      · subst e; simp [h]
      · by_cases q : i < n
        · simp [q, show i < n + 1 by omega]
        · simp [q, show ¬ i < n + 1 by omega]
theorem sset_lt (f : Nat → Nat) (j n : Nat) : sset f j n < 2 ^ n := by
  apply sub_full.mp
  intro i hi
  rw [sset_b] at hi
  rw [m2]
  have := of_decide_eq_true hi
  simp [this.1]
theorem ofSort_S {c : Cr} {σ : MM} {j : Nat} (hc : okC c) (ha : atS σ 1 c) (hj : j < 6) : f_X0_ofSort (nI j) σ = some (nI (sset (cS c) j (cP c))) := by
  obtain ⟨c1, c2, c3, c4⟩ := hc
  obtain ⟨a1, a2, a3, a4⟩ := ha
  have a3' : ∀ i, i < cP c → σ.1 4 i = nI (cS c i) := a3
  unfold f_X0_ofSort
  have h := lp_0 (step := fun s => g_X0_ofSort_4 (nI j) s.1 s.2 σ) (fun i t => t = (nI (sset (cS c) j i), nI i)) (fun r => r = nI (sset (cS c) j (cP c))) (cP c) ((0 : Int32), (0 : Int32)) (by omega) rfl ?_ ?_
  · obtain ⟨r, h1, h2⟩ := h
    rw [h1, h2]; rfl
  · rintro i t hi rfl
    show ∃ s', g_X0_ofSort_4 (nI j) (nI (sset (cS c) j i)) (nI i) σ = some (.inl s') ∧ _
    unfold g_X0_ofSort_4
    have := c3 i hi
    rw [a1, if_neg (nI_ge hi (by omega)), chk_t (inb_nI (by omega) (by omega)), nI_c (by omega), a3' i hi]
    by_cases e : cS c i = j
    · rw [if_pos (show nI (cS c i) = nI j by rw [e]), sh1 i (by omega), orI]
      exact ⟨_, rfl, by rw [sset, if_pos e, nI_1]⟩
    · rw [if_neg (fun q => e ((nI_eq_iff (by omega) (by omega)).mp q))]
      exact ⟨_, rfl, by rw [sset, if_neg e, nI_1]⟩
  · rintro t rfl
    refine ⟨_, ?_, rfl⟩
    show g_X0_ofSort_4 (nI j) (nI (sset (cS c) j (cP c))) (nI (cP c)) σ = _
    unfold g_X0_ofSort_4
    rw [a1, if_pos (nI_le (Nat.le_refl _) (by omega))]
theorem byA_ok {F n a b : Nat} {r : Nat → Nat} (h : ∀ i, i < n → (rs F r i).testBit (r i) = true ∧ r i < 12) : ∀ i, i ≤ n → sub (byA a b r i) F ∧ ∀ p, (byA a b r i).testBit p = true → (rs F r i).testBit p = false := by
  intro i
  induction i with
  | zero =>
    intro _
    have h0 : byA a b r 0 = 0 := rfl
    rw [h0]
    have z : ∀ p, (0 : Nat).testBit p = true → False := fun p hp => by rw [Nat.zero_testBit] at hp; cases hp
    exact ⟨fun p hp => (z p hp).elim, fun p hp => (z p hp).elim⟩
  | succ i ih =>
    intro hi
    obtain ⟨h1, h2⟩ := ih (by omega)
    obtain ⟨b1, b2⟩ := h i (by omega)
    have hs := (rs_ok (fun j hj => h j (by omega)) i (Nat.le_of_succ_le hi)).1
    have key : ∀ p, (rs F r i).testBit p = false → (rs F r (i + 1)).testBit p = false := fun p hp => by
      cases hq : (rs F r (i + 1)).testBit p with
      | false => rfl
      | true => have := sub_del b1 p hq; rw [hp] at this; cases this
    unfold byA
    by_cases hw : whoS (stq a b 0 i) = 0
    · rw [if_pos hw]
      refine ⟨fun p hp => ?_, fun p hp => ?_⟩
      · rw [fb_bit_set, Bool.or_eq_true] at hp
        rcases hp with hp | hp
        · exact h1 p hp
        · rw [of_decide_eq_true hp]; exact hs _ b1
      · rw [fb_bit_set, Bool.or_eq_true] at hp
        rcases hp with hp | hp
        · exact key p (h2 p hp)
        · rw [of_decide_eq_true hp]
          show (rs F r i ^^^ 2 ^ r i).testBit (r i) = false
          rw [del_s, b1]; rfl
    · rw [if_neg hw]
      exact ⟨h1, fun p hp => key p (h2 p hp)⟩
theorem cnt_add {Z X p : Nat} (hX : X.testBit p = false) (hp : p < 12) : cnt (Z &&& (X ||| 2 ^ p)) 12 = cnt (Z &&& X) 12 + (if Z.testBit p = true then 1 else 0) := by
  by_cases hz : Z.testBit p = true
  · rw [if_pos hz]
    have hy : (Z &&& (X ||| 2 ^ p)).testBit p = true := by rw [Nat.testBit_and, fb_bit_set, hz]; simp
    have := cnt_del12 hy hp
    have e : (Z &&& (X ||| 2 ^ p)) ^^^ 2 ^ p = Z &&& X := by
      apply Nat.eq_of_testBit_eq
      intro i
      rw [flip, Nat.testBit_and, fb_bit_set, Nat.testBit_and]
      by_cases ei : i = p
      · subst ei; simp [hz, hX]
      · simp [ei]
    rw [e] at this
    omega
  · rw [if_neg hz]
    have e : Z &&& (X ||| 2 ^ p) = Z &&& X := by
      apply Nat.eq_of_testBit_eq
      intro i
      rw [Nat.testBit_and, fb_bit_set, Nat.testBit_and]
      by_cases ei : i = p
      · subst ei
        have : Z.testBit i = false := by cases h : Z.testBit i with | false => rfl | true => exact absurd h hz
        simp [this]
      · simp [ei]
    rw [e]; rfl
/-- the sum at the end -/
theorem sel_end {σ μ : MM} {c : Cr} {z x : Nat} (hc : okC c) (he : enough c) (hr : atR μ c) (hz : z ≤ call c) (hx : x ≤ 12) : ∃ r, loopN (fun s => g_X6_setsAsStruck_83 (nI (call c)) (nI (cK c 1)) (nI z) s.1 s.2 σ) FU ((0 : Int64), nI x) = some r ∧ loopN (fun s => g_X7_seldom_151 (nI z) s.1 s.2 μ) FU ((0 : Int64), nI x) = some r := by
  have hk := kb hc
  have hcp := call_pos hc
  have he' : call c ≤ cP c := he
  have hP := hc.1
  have hS : ∀ (t : Int64) (y : Nat), y < 20 → g_X6_setsAsStruck_83 (nI (call c)) (nI (cK c 1)) (nI z) t (nI y) σ = if y ≤ cK c 1 then (if y ≤ 3 then some (.inl (t + (wnk z y * wnk (call c - z) (cK c 1 - y)), nI (y + 1))) else none) else some (.inr t) := by
    intro t y hy
    unfold g_X6_setsAsStruck_83
    by_cases h1 : y ≤ cK c 1
    · rw [if_pos h1, if_neg (nI_nlt h1 (by omega)), if_pos (by omega), (wa (n := z) (k := y) (by omega) (by omega) σ μ).1, Option.bind_some, pk_sub hz, pk_sub h1, (wa (n := call c - z) (k := cK c 1 - y) (by omega) (by omega) σ μ).1, Option.bind_some, nI_1]
    · rw [if_neg h1, if_pos (nI_lt (by omega) (by omega))]
  have hM : ∀ (t : Int64) (y : Nat), y < 20 → g_X7_seldom_151 (nI z) t (nI y) μ = if y ≤ cK c 1 then (if y ≤ 3 then some (.inl (t + (wnk z y * wnk (call c - z) (cK c 1 - y)), nI (y + 1))) else none) else some (.inr t) := by
    intro t y hy
    unfold g_X7_seldom_151
    rw [chk_t ib_1_5, tn_1, hr.2.2.2 1 (by decide)]
    by_cases h1 : y ≤ cK c 1
    · rw [if_pos h1, if_neg (nI_nlt h1 (by omega)), if_pos (by omega), (wa (n := z) (k := y) (by omega) (by omega) σ μ).2, Option.bind_some, many_M hr, Option.bind_some, chk_t ib_1_5, pk_sub hz, pk_sub h1, (wa (n := call c - z) (k := cK c 1 - y) (by omega) (by omega) σ μ).2, Option.bind_some, nI_1]
    · rw [if_neg h1, if_pos (nI_lt (by omega) (by omega))]
  have hq := lp_m (step := fun s => g_X6_setsAsStruck_83 (nI (call c)) (nI (cK c 1)) (nI z) s.1 s.2 σ) (fun s => ∃ y, y ≤ 12 ∧ s.2 = nI y) (fun _ => True) (fun s => 13 - s.2.toNatClampNeg) ((0 : Int64), nI x) (by show 13 - _ < 5000; omega) ⟨x, hx, rfl⟩ ?_
  · obtain ⟨r, h1, -⟩ := hq
    refine ⟨r, h1, ?_⟩
    rw [← h1]
    refine (lp_cong (fun s => ∃ y, y ≤ 12 ∧ s.2 = nI y) ?_ FU _ ⟨x, hx, rfl⟩).symm
    rintro ⟨t, v⟩ ⟨y, hy, e⟩
    dsimp only at e
    subst e
    dsimp only
    rw [hS t y (by omega), hM t y (by omega)]
    refine ⟨rfl, fun s' hs' => ?_⟩
    by_cases h1 : y ≤ cK c 1
    · rw [if_pos h1, if_pos (by omega)] at hs'
      injection hs' with hs'
      injection hs' with hs'
      exact ⟨y + 1, by omega, by rw [← hs']⟩
    · rw [if_neg h1] at hs'
      injection hs' with hs'
      cases hs'
  · rintro ⟨t, v⟩ ⟨y, hy, e⟩
    dsimp only at e
    subst e
    dsimp only
    rw [hS t y (by omega)]
    by_cases h1 : y ≤ cK c 1
    · right
      rw [if_pos h1, if_pos (by omega)]
      refine ⟨_, rfl, ⟨y + 1, by omega, rfl⟩, ?_⟩
      show 13 - (nI (y + 1)).toNatClampNeg < 13 - (nI y).toNatClampNeg
      rw [nI_c (by omega), nI_c (by omega)]; omega
    · left
      rw [if_neg h1]
      exact ⟨_, rfl, trivial⟩
theorem sideAt0_S {c : Cr} {σ : MM} {i : Nat} (hc : okC c) (ha : atS σ 1 c) (hi : i < cK c 1 + cK c 2) : f_X0_sideAt (nI i) σ = some (nI (whoS (stq (cK c 1) (cK c 2) 0 i))) := by
  have hk := kb hc
  unfold f_X0_sideAt
  rw [(str_S ha).1, Option.bind_some, (str_S ha).2, Option.bind_some, show (0 : Int32) = nI 0 from rfl, sideAt_S (by decide) hk.2.1 hk.2.2.1 hi]; rfl
theorem and_full {S : Nat} {c : Cr} : (S &&& full c) < 2 ^ call c := by
  apply sub_full.mp
  exact sub_and
theorem al_seldom {s : St} {σ μ : MM} (h : RelS s σ) (h' : RelM s μ) (v1 v2 : Int32) : Alike (f_X6_seldom v1 v2 σ) (f_X7_seldom v1 v2 μ) := by
  obtain ⟨⟨c0, a0, d0⟩, ⟨w1, w2, w3⟩, -⟩ := id h
  obtain ⟨⟨-, b0⟩, -⟩ := id h'
  have hcp := call_pos c0
  have hk := kb c0
  have bt := m2 (call (sC s))
  unfold f_X6_seldom f_X7_seldom
  by_cases h1 : v1 < 0 ∨ 6 ≤ v1
  · refine alike_no 1 (by decide) h h' (r := rfL (-1)) ?_ ?_
    · rw [soS_n h1, Option.bind_some, if_pos z00, rl1]; rfl
    · rw [soM_n h1, Option.bind_some, if_pos z00, ml1]; rfl
  rw [soS_y h1, soM_y h1, Option.bind_some, Option.bind_some, if_neg n10, if_neg n10]
  by_cases h2 : v2 < 0
  · refine alike_no 2 (by decide) h h' (r := rfL (-2)) ?_ ?_
    · rw [if_pos h2, rl2]; rfl
    · rw [isIn_n (Or.inl h2), Option.bind_some, if_pos z00, ml2]; rfl
  rw [if_neg h2]
  by_cases h3 : v2 ≤ 1
  · rw [if_pos h3, isIn_y h2 (nle.mp h3), Option.bind_some, if_neg n10]
    rcases enough_dec (sC s) with he | he
    · rw [(enough_M c0 b0).1 he, Option.bind_some, if_neg n10]
      rcases law_both h h' he with ⟨hl, l1, l2⟩ | ⟨-, l1, l2⟩
      · rw [l1, l2, Option.bind_some, Option.bind_some, if_neg n10, if_neg n10, (called_S c0 a0).1 he, Option.bind_some, (str_S a0).1, Option.bind_some]
        have he' : call (sC s) ≤ cP (sC s) := he
        have hP := c0.1
        by_cases h4 : v2 = 1
        · obtain ⟨x1, x2⟩ := wa (n := call (sC s)) (k := cK (sC s) 1) (by omega) hk.2.1 σ μ
          refine ⟨wnk (call (sC s)) (cK (sC s) 1), s, σ, μ, ?_, ?_, h, h'⟩
          · rw [if_pos h4, x1]; rfl
          · rw [if_pos h4, many_M b0, Option.bind_some, chk_t ib_1_5, tn_1, b0.2.2.2 1 (by decide), x2]; rfl
        · rw [if_neg h4, if_neg h4]
          obtain ⟨j, hj, rfl⟩ := so_nat h1
          obtain ⟨g1, g2, g3⟩ := law_rs h he hl
          obtain ⟨v, μ', m1, m2, m3, -⟩ := slip_M h h' he hl
          have b1 := m2.1.2
          have hbA := byA_ok (a := cK (sC s) 1) (b := cK (sC s) 2) g2
          have hf2 := full_2 c0 he
          rw [hl.1] at w2 w3
          generalize hZ : sset (cS (sC s)) j (cP (sC s)) &&& full (sC s) = Z
          have hZl : Z < 2 ^ call (sC s) := by rw [← hZ]; exact and_full
          have hZ2 : Z < 4096 := pow12 (by omega) hZl
          have hZb : ∀ i, i < call (sC s) → Z.testBit i = decide (cS (sC s) i = j) := fun i hi => by
            rw [← hZ, Nat.testBit_and, sset_b]
            unfold full
            rw [bt]
            simp [hi, show i < cP (sC s) by omega]
          have hzc : cnt Z 12 = cnt Z (call (sC s)) := cnt_lt hZl (by omega)
          have hzle : cnt Z 12 ≤ call (sC s) := by rw [hzc]; exact cnt_le _ _
          have hAB : byA (cK (sC s) 1) (cK (sC s) 2) (sR s).2 (cK (sC s) 1 + cK (sC s) 2) < 4096 := by
            have := sub_le (hbA _ (Nat.le_refl _)).1
            omega
          have hxc : cnt (Z &&& byA (cK (sC s) 1) (cK (sC s) 2) (sR s).2 (cK (sC s) 1 + cK (sC s) 2)) 12 = cnt (Z &&& byA (cK (sC s) 1) (cK (sC s) 2) (sR s).2 (cK (sC s) 1 + cK (sC s) 2)) (call (sC s)) := by
            refine cnt_lt ?_ (by omega)
            refine Nat.lt_of_le_of_lt ?_ hZl
            exact Nat.and_le_left
          obtain ⟨r, e1, e2⟩ := sel_end (σ := σ) (μ := μ') (c := sC s) (z := cnt Z 12) (x := cnt (Z &&& byA (cK (sC s) 1) (cK (sC s) 2) (sR s).2 (cK (sC s) 1 + cK (sC s) 2)) 12) c0 he b1 hzle (cnt_le _ _)
          have l24 : loopN (fun t => g_X6_setsAsStruck_24 (nI (call (sC s))) (nI (cK (sC s) 1)) (nI Z) t.1 t.2 σ) FU ((0 : Int32), (0 : Int32)) = some (nI (cnt (Z &&& byA (cK (sC s) 1) (cK (sC s) 2) (sR s).2 (cK (sC s) 1 + cK (sC s) 2)) 12)) := by
            have hq := lp_0 (step := fun t => g_X6_setsAsStruck_24 (nI (call (sC s))) (nI (cK (sC s) 1)) (nI Z) t.1 t.2 σ) (fun i t => t = (nI (cnt (Z &&& byA (cK (sC s) 1) (cK (sC s) 2) (sR s).2 i) 12), nI i)) (fun r => r = nI (cnt (Z &&& byA (cK (sC s) 1) (cK (sC s) 2) (sR s).2 (cK (sC s) 1 + cK (sC s) 2)) 12)) (cK (sC s) 1 + cK (sC s) 2) ((0 : Int32), (0 : Int32)) (by omega) (by
                show _ = (nI (cnt (Z &&& 0) 12), nI 0)
                rw [Nat.and_zero]; rfl) ?_ ?_
            · obtain ⟨q, q1, q2⟩ := hq
              rw [q1, q2]
            · rintro i t hi rfl
              obtain ⟨p1, p2⟩ := g2 i hi
              show ∃ s', g_X6_setsAsStruck_24 (nI (call (sC s))) (nI (cK (sC s) 1)) (nI Z) (nI _) (nI i) σ = some (.inl s') ∧ _
              unfold g_X6_setsAsStruck_24
              have hwl : whoS (stq (cK (sC s) 1) (cK (sC s) 2) 0 i) < 2 := who_lt (stq_sum (a := cK (sC s) 1) (b := cK (sC s) 2) (sd := 0) (by decide) i (by omega)).2.1
              rw [w2, if_neg (nI_ge hi (by omega)), sideAt0_S c0 a0 hi, Option.bind_some]
              by_cases hw : whoS (stq (cK (sC s) 1) (cK (sC s) 2) 0 i) = 0
              · rw [if_pos (by rw [hw]; rfl), chk_t (inb_nI (by omega) (by omega)), nI_c (by omega), (w3 i hi).2]
                have hnot : (byA (cK (sC s) 1) (cK (sC s) 2) (sR s).2 i).testBit ((sR s).2 i) = false := by
                  cases hq : (byA (cK (sC s) 1) (cK (sC s) 2) (sR s).2 i).testBit ((sR s).2 i) with
                  | false => rfl
                  | true => have := (hbA i (by omega)).2 _ hq; rw [p1] at this; cases this
                have hca := cnt_add (Z := Z) hnot p2
                have hby : byA (cK (sC s) 1) (cK (sC s) 2) (sR s).2 (i + 1) = byA (cK (sC s) 1) (cK (sC s) 2) (sR s).2 i ||| 2 ^ (sR s).2 i := by rw [byA, if_pos hw]
                rw [hby, hca]
                cases hb : Z.testBit ((sR s).2 i) with
                | false =>
                  rw [if_pos ((bitS (by omega)).mpr hb)]
                  exact ⟨_, rfl, by rw [nI_1]; rfl⟩
                | true =>
                  rw [if_neg (fun q => by have := (bitS (by omega)).mp q; rw [hb] at this; cases this)]
                  exact ⟨_, rfl, by rw [nI_1, nI_1]; rfl⟩
              · rw [if_neg (nI_ne (by omega) (by omega))]
                refine ⟨_, rfl, ?_⟩
                rw [nI_1, byA, if_neg hw]
            · rintro t rfl
              refine ⟨_, ?_, rfl⟩
              show g_X6_setsAsStruck_24 (nI (call (sC s))) (nI (cK (sC s) 1)) (nI Z) (nI _) (nI (cK (sC s) 1 + cK (sC s) 2)) σ = _
              unfold g_X6_setsAsStruck_24
              rw [w2, if_pos (nI_le (Nat.le_refl _) (by omega))]
          have l82 : loopN (fun t => g_X7_seldom_82 (nI j) t.1 t.2.1 t.2.2 μ') FU ((0 : Int32), (0 : Int32), (0 : Int32)) = some (nI (cnt (Z &&& byA (cK (sC s) 1) (cK (sC s) 2) (sR s).2 (cK (sC s) 1 + cK (sC s) 2)) 12), nI (cnt Z 12)) := by
            have hq := lp_0 (step := fun t => g_X7_seldom_82 (nI j) t.1 t.2.1 t.2.2 μ') (fun i t => t = (nI (cnt (Z &&& byA (cK (sC s) 1) (cK (sC s) 2) (sR s).2 (cK (sC s) 1 + cK (sC s) 2)) i), nI (cnt Z i), nI i)) (fun r => r = (nI (cnt (Z &&& byA (cK (sC s) 1) (cK (sC s) 2) (sR s).2 (cK (sC s) 1 + cK (sC s) 2)) 12), nI (cnt Z 12))) (call (sC s)) ((0 : Int32), (0 : Int32), (0 : Int32)) (by omega) rfl ?_ ?_
            · obtain ⟨q, q1, q2⟩ := hq
              rw [q1, q2]
            · rintro i t hi rfl
              show ∃ s', g_X7_seldom_82 (nI j) (nI _) (nI _) (nI i) μ' = some (.inl s') ∧ _
              unfold g_X7_seldom_82
              have hs6 := c0.2.2.1 i (by omega)
              rw [many_M b1, Option.bind_some, if_neg (nI_ge hi (by omega)), chk_t (inb_nI (by omega) (by omega)), nI_c (by omega), b1.2.2.1 i (by omega), m3, bitM (by omega) (by omega)]
              rw [cnt_s, cnt_s, Nat.testBit_and, hZb i hi]
              by_cases e : cS (sC s) i = j
              · have e' : nI (cS (sC s) i) = nI j := by rw [e]
                rw [if_pos e', Option.bind_some, chk_t (inb_nI (by omega) (by omega)), if_pos e', nI_add, nI_1, nI_1]
                exact ⟨_, rfl, by simp [e]⟩
              · have e' : ¬ nI (cS (sC s) i) = nI j := fun q => e ((nI_eq_iff (by omega) (by omega)).mp q)
                rw [if_neg e', Option.bind_some, chk_t (inb_nI (by omega) (by omega)), if_neg e', nI_1]
                refine ⟨_, rfl, ?_⟩
                have ez : (0 : Int32) = nI 0 := rfl
                rw [ez, nI_add, nI_add]
                simp [e]
            · rintro t rfl
              refine ⟨_, ?_, rfl⟩
              show g_X7_seldom_82 (nI j) (nI _) (nI _) (nI (call (sC s))) μ' = _
              unfold g_X7_seldom_82
              rw [many_M b1, Option.bind_some, if_pos (nI_le (Nat.le_refl _) (by omega)), hzc, hxc]
          refine ⟨r, s, σ, μ', ?_, ?_, h, m2⟩
          · unfold f_X6_setsAsStruck
            rw [ofSort_S c0 a0 hj, Option.bind_some, set_S c0 a0 he, Option.bind_some, andI, hZ, l24, Option.bind_some, bc_S hZ2, Option.bind_some, e1]; rfl
          · rw [m1, Option.bind_some, uc_eq, l82, Option.bind_some]
            dsimp only
            rw [e2]; rfl
      · refine alike_no 3 (by decide) h h' (r := rfL (-3)) ?_ ?_
        · rw [l1, Option.bind_some, if_pos z00, rl3]; rfl
        · rw [l2, Option.bind_some, if_pos z00, ml3]; rfl
    · refine alike_no 3 (by decide) h h' (r := rfL (-3)) ?_ ?_
      · rw [law_no h he, Option.bind_some, if_pos z00, rl3]; rfl
      · rw [(enough_M c0 b0).2 he, Option.bind_some, if_pos z00, ml3]; rfl
  · refine alike_no 2 (by decide) h h' (r := rfL (-2)) ?_ ?_
    · rw [if_neg h3, rl2]; rfl
    · rw [isIn_n (Or.inr (fa_of_nle h3)), Option.bind_some, if_pos z00, ml2]; rfl
