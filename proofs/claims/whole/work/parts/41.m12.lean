/-! who is there, who is called -/
theorem of32 (x : Int32) : ∃ n, n < 4294967296 ∧ x = nI n := ⟨x.toBitVec.toNat, x.toBitVec.isLt, by
  apply Int32.toBitVec_inj.mp
  rw [nI_bv, BitVec.ofNat_toNat, BitVec.setWidth_eq]⟩
theorem andn2 (S T : Nat) : nI S &&& (nI T ^^^ (-1)) = nI (S ^^^ (S &&& T)) := by
  apply Int32.toBitVec_inj.mp
  rw [Int32.toBitVec_and, Int32.toBitVec_xor, nI_bv, nI_bv, nI_bv]
  apply BitVec.eq_of_getLsbD_eq
  intro i hi
  have e : (-1 : Int32).toBitVec = BitVec.allOnes 32 := by decide
  rw [BitVec.getLsbD_and, BitVec.getLsbD_xor, e, BitVec.getLsbD_allOnes, BitVec.getLsbD_ofNat, BitVec.getLsbD_ofNat, BitVec.getLsbD_ofNat, Nat.testBit_xor, Nat.testBit_and]
  simp only [hi, decide_true, Bool.true_and]
  cases S.testBit i <;> cases T.testBit i <;> rfl
theorem nI_0iff {n : Nat} (h : n < 4294967296) : nI n = 0 ↔ n = 0 := by
  constructor
  · intro e
    have := congrArg (fun x : Int32 => x.toBitVec.toNat) e
    simp only [nI_bv, BitVec.toNat_ofNat] at this
    have h0 : (0 : Int32).toBitVec.toNat = 0 := by decide
    omega
  · intro e; rw [e]; rfl
theorem m2 (p : Nat) : ∀ i, (2 ^ p - 1).testBit i = decide (i < p) := fun i => Nat.testBit_two_pow_sub_one p i
theorem two_pos (p : Nat) : 0 < 2 ^ p := Nat.pow_pos (by decide)
theorem sub_full {S p : Nat} : sub S (2 ^ p - 1) ↔ S < 2 ^ p := by
  constructor
  · intro h
    have h1 := sub_le h
    have := two_pos p
    omega
  · intro h i hi
    rw [m2]
    exact decide_eq_true (mem_lt h hi)
theorem allS (p : Nat) (hp : p ≤ 13) : (1 : Int32) <<< (nI p &&& 31) - 1 = nI (2 ^ p - 1) := by
  rw [sh1 p (by omega), nI_sub1 (two_pos p)]
theorem withS {v : Int32} {p : Nat} (hp : p ≤ 12) : (v &&& (nI (2 ^ p - 1) ^^^ (-1))) = 0 ↔ ∃ S, S < 2 ^ p ∧ v = nI S := by
  constructor
  · intro h
    obtain ⟨n, hn, rfl⟩ := of32 v
    rw [andn2, nI_0iff (Nat.xor_lt_two_pow (n := 32) hn (Nat.lt_of_le_of_lt Nat.and_le_left hn)), dif_0] at h
    exact ⟨n, sub_full.mp h, rfl⟩
  · rintro ⟨S, hS, rfl⟩
    rw [andn2, dif_0.mpr (sub_full.mpr hS)]; rfl
theorem withinM {v : Int32} {p : Nat} (hp : p ≤ 12) (h0 : ¬ v < 0) : v >>> (nI p &&& 31) = 0 ↔ ∃ S, S < 2 ^ p ∧ v = nI S := by
  obtain ⟨j, hj, rfl⟩ := nI_of h0
  have hj' : j < 2147483648 := hj
  rw [shrI hj' (by omega)]
  have hd : j / 2 ^ p ≤ j := Nat.div_le_self _ _
  rw [nI_0iff (by omega)]
  constructor
  · intro h
    exact ⟨j, by
      rcases Nat.lt_or_ge j (2 ^ p) with q | q
      · exact q
      · have := Nat.div_pos q (two_pos p); omega, rfl⟩
  · rintro ⟨S, hS, e⟩
    have hS2 := pow12 hp hS
    have : j = S := (nI_eq_iff hj' (by omega)).mp e
    rw [this]; exact Nat.div_eq_of_lt hS
theorem nneg {S : Nat} (h : S < 4096) : ¬ nI S < 0 := nI_pos (by omega)
theorem need_S {c : Cr} {σ : MM} (ha : atS σ 1 c) : f_X0_needed σ = some (nI (cK c 0)) := by
  unfold f_X0_needed
  rw [chk_t ib_0_5, tn_0]; exact congrArg some (ha.2.2.2 0 (by decide))
theorem need_M {c : Cr} {μ : MM} (ha : atR μ c) : f_X7_needed μ = some (nI (cK c 0)) := by
  unfold f_X7_needed
  rw [chk_t ib_0_5, tn_0]; exact congrArg some (ha.2.2.2 0 (by decide))
theorem every_S {c : Cr} {σ : MM} (hc : okC c) (ha : atS σ 1 c) : f_X0_everyone σ = some (nI (2 ^ cP c - 1)) := by
  have := hc.1
  unfold f_X0_everyone f_X6_setOfFirst
  rw [ha.1, allS _ (by omega)]; rfl
theorem kb {c : Cr} (hc : okC c) : (1 ≤ cK c 0 ∧ cK c 0 ≤ 7) ∧ cK c 1 ≤ 3 ∧ cK c 2 ≤ 3 ∧ cK c 3 ≤ 1 ∧ cK c 4 ≤ 100 := ⟨hc.2.1 0 (by decide), (hc.2.1 1 (by decide)).2, (hc.2.1 2 (by decide)).2, (hc.2.1 3 (by decide)).2, (hc.2.1 4 (by decide)).2⟩
theorem called_S {c : Cr} {σ : MM} (hc : okC c) (ha : atS σ 1 c) : (enough c → f_X0_called σ = some (nI (call c))) ∧ (¬ enough c → f_X0_called σ = some 0) := by
  have hk := kb hc
  have hp := hc.1
  unfold f_X0_called f_X0_strikes enough call
  rw [need_S ha, Option.bind_some, chk_t ib_1_5, chk_t ib_2_5, tn_1, tn_2, show σ.1 5 1 = nI (cK c 1) from ha.2.2.2 1 (by decide), show σ.1 5 2 = nI (cK c 2) from ha.2.2.2 2 (by decide), Option.bind_some, ha.1, nI_add, nI_add, ← Nat.add_assoc]
  constructor
  · intro h
    rw [if_neg (nI_nlt (by omega) (by omega))]
  · intro h
    rw [if_pos (nI_lt (by omega) (by omega))]
theorem many_M {c : Cr} {μ : MM} (ha : atR μ c) : f_X7_calledMany μ = some (nI (call c)) := by
  unfold f_X7_calledMany call
  rw [chk_t ib_0_5, chk_t ib_1_5, chk_t ib_2_5, tn_0, tn_1, tn_2, ha.2.2.2 0 (by decide), ha.2.2.2 1 (by decide), ha.2.2.2 2 (by decide), nI_add, nI_add]
theorem enough_M {c : Cr} {μ : MM} (hc : okC c) (ha : atR μ c) : (enough c → f_X7_isEnough μ = some 1) ∧ (¬ enough c → f_X7_isEnough μ = some 0) := by
  have hk := kb hc
  have hp := hc.1
  unfold f_X7_isEnough
  rw [many_M ha, Option.bind_some, ha.1]
  unfold enough call
  constructor
  · intro h
    rw [if_neg (nI_nlt (by omega) (by omega))]; rfl
  · intro h
    rw [if_pos (nI_lt (by omega) (by omega))]; rfl
theorem set_S {c : Cr} {σ : MM} (hc : okC c) (ha : atS σ 1 c) (he : enough c) : f_X0_calledSet σ = some (nI (full c)) := by
  have hp := hc.1
  have he' : call c ≤ cP c := he
  unfold f_X0_calledSet f_X6_setOfFirst
  rw [(called_S hc ha).1 he, Option.bind_some, allS _ (by omega)]; rfl
theorem cset_M {c : Cr} {μ : MM} (hc : okC c) (ha : atR μ c) : f_X7_called μ = some (nI (full c)) := by
  have hk := kb hc
  unfold f_X7_called
  rw [many_M ha, Option.bind_some, allS _ (by unfold call; omega)]; rfl
theorem str_S {c : Cr} {σ : MM} (ha : atS σ 1 c) : f_X0_strikesOf 0 σ = some (nI (cK c 1)) ∧ f_X0_strikesOf 1 σ = some (nI (cK c 2)) := by
  unfold f_X0_strikesOf
  rw [if_pos z00, if_neg n10, chk_t ib_1_5, chk_t ib_2_5, tn_1, tn_2]
  exact ⟨congrArg some (ha.2.2.2 1 (by decide)), congrArg some (ha.2.2.2 2 (by decide))⟩
theorem full_lt {c : Cr} (he : enough c) : full c < 2 ^ cP c := by
  have h1 : 2 ^ call c ≤ 2 ^ cP c := Nat.pow_le_pow_right (by decide) he
  have := two_pos (call c)
  unfold full; omega
theorem cnt_full {k : Nat} : ∀ n, cnt (2 ^ k - 1) n = min k n := by
  intro n
  induction n with
  | zero => simp [cnt]
  | succ n ih =>
    rw [cnt_s, ih, m2]
    by_cases h : n < k
    · simp [h]; omega
    · simp [h]; omega
theorem full_cnt {c : Cr} (hc : okC c) (he : enough c) : cnt (full c) 12 = mN (mOf c) + cK c 1 + cK c 2 := by
  have hp := hc.1
  have he' : call c ≤ cP c := he
  unfold full
  rw [cnt_full, Nat.min_eq_left (by omega)]; rfl
/-! juries -/
theorem jury_both {s : St} {σ μ : MM} (h : RelS s σ) (h' : RelM s μ) (v : Int32) : ∃ r, f_X6_juryRefusal v σ = some r ∧ f_X7_notJury v μ = some r ∧ (r = -1 ∨ r = -3 ∨ (r = 0 ∧ ∃ S, v = nI S ∧ jur (mOf (sC s)) S)) := by
  obtain ⟨⟨c0, a0, d0⟩, -⟩ := h
  obtain ⟨⟨-, b0⟩, -⟩ := h'
  have hp := c0.1
  have hk := kb c0
  unfold f_X6_juryRefusal f_X7_notJury
  rw [every_S c0 a0, Option.bind_some]
  by_cases hw : ∃ S, S < 2 ^ cP (sC s) ∧ v = nI S
  · obtain ⟨S, hS, rfl⟩ := hw
    have hS2 := pow12 hp hS
    have hcl := cnt_le S 12
    rw [if_pos ((withS hp).mpr ⟨S, hS, rfl⟩), bc_S hS2, Option.bind_some, need_S a0, Option.bind_some, if_neg (nneg hS2), b0.1, if_pos ((withinM hp (nneg hS2)).mpr ⟨S, hS, rfl⟩), bits_M hS2, Option.bind_some, need_M b0, Option.bind_some]
    by_cases hc : cnt S 12 = cK (sC s) 0
    · rw [if_pos (show nI (cnt S 12) = nI (cK (sC s) 0) by rw [hc])]
      exact ⟨0, rfl, rfl, Or.inr (Or.inr ⟨rfl, S, rfl, hS, hc⟩)⟩
    · rw [if_neg (fun q => hc ((nI_eq_iff (by omega) (by omega)).mp q))]
      exact ⟨-3, rfl, rfl, Or.inr (Or.inl rfl)⟩
  · refine ⟨-1, ?_, ?_, Or.inl rfl⟩
    · rw [if_neg (fun q => hw ((withS hp).mp q))]
    · by_cases h0 : v < 0
      · rw [if_pos h0]
      · rw [if_neg h0, b0.1, if_neg (fun q => hw ((withinM hp h0).mp q))]
theorem RelM_hold {s : St} {μ : MM} (h' : RelM s μ) : ∃ μ', f_X7_holdsTrue μ = some μ' ∧ RelM s μ' ∧ hdAt μ' (mOf (sC s)) := by
  obtain ⟨⟨c0, b0⟩, -⟩ := id h'
  obtain ⟨μ', m1, m2, m3⟩ := holds_M c0 b0
  exact ⟨μ', m1, RelM_keep h' (fun p _ => by rw [(m2 0 (by decide)).1]) (fun k hk => (m2 k (fun q => by revert hk; simp at q; rw [q]; decide)).1), m3⟩
theorem al_chance {s : St} {σ μ : MM} (h : RelS s σ) (h' : RelM s μ) (v : Int32) : Alike (f_X6_chance v σ) (f_X7_chance v μ) := by
  obtain ⟨r, e1, e2, hr⟩ := jury_both h h' v
  obtain ⟨⟨c0, a0, d0⟩, -⟩ := id h
  unfold f_X6_chance f_X7_chance
  rw [e1, e2, Option.bind_some, Option.bind_some]
  rcases hr with rfl | rfl | ⟨rfl, S, rfl, hj⟩
  · refine alike_no 1 (by decide) h h' (r := rfL (-1)) ?_ ?_
    · rw [if_neg nm1, rl1]; rfl
    · rw [if_neg nm1, ml1]; rfl
  · refine alike_no 3 (by decide) h h' (r := rfL (-3)) ?_ ?_
    · rw [if_neg nm3, rl3]; rfl
    · rw [if_neg nm3, ml3]; rfl
  · obtain ⟨σ', s1, s2⟩ := chance_S (b := 16) (okM_of c0) d0 hj
    obtain ⟨μ1, m1, m2, m3⟩ := RelM_hold h'
    obtain ⟨μ', n1, n2⟩ := chance_M (okM_of c0) m3 hj
    refine ⟨lN (CH (mOf (sC s)) S), s, σ', μ', ?_, ?_, RelS_keep h (by rw [s2.1]) (fun k _ => by rw [s2.1]) (s2.2 45 (by decide)), RelM_keep m2 (fun p _ => by rw [n2.1]) (fun k _ => by rw [n2.1])⟩
    · rw [if_pos z00, s1]; rfl
    · rw [if_pos z00, m1, Option.bind_some, n1]; rfl
theorem al_right {s : St} {σ μ : MM} (h : RelS s σ) (h' : RelM s μ) (v : Int32) : Alike (f_X6_right v σ) (f_X7_right v μ) := by
  obtain ⟨r, e1, e2, hr⟩ := jury_both h h' v
  obtain ⟨⟨c0, a0, d0⟩, -⟩ := id h
  unfold f_X6_right f_X7_right
  rw [e1, e2, Option.bind_some, Option.bind_some]
  rcases hr with rfl | rfl | ⟨rfl, S, rfl, hj⟩
  · refine alike_no 1 (by decide) h h' (r := rfL (-1)) ?_ ?_
    · rw [if_neg nm1, rl1]; rfl
    · rw [if_neg nm1, ml1]; rfl
  · refine alike_no 3 (by decide) h h' (r := rfL (-3)) ?_ ?_
    · rw [if_neg nm3, rl3]; rfl
    · rw [if_neg nm3, ml3]; rfl
  · obtain ⟨σ', s1, s2⟩ := right_S (okM_of c0) d0 hj
    obtain ⟨μ1, m1, m2, m3⟩ := RelM_hold h'
    obtain ⟨μ', n1, n2⟩ := right_M (okM_of c0) m3 hj
    refine ⟨lN (RI (mOf (sC s)) S), s, σ', μ', ?_, ?_, RelS_keep h (by rw [s2.1]) (fun k _ => by rw [s2.1]) (s2.2 45 (by decide)), RelM_keep m2 (fun p _ => by rw [n2.1]) (fun k _ => by rw [n2.1])⟩
    · rw [if_pos z00, s1]; rfl
    · rw [if_pos z00, m1, Option.bind_some, n1]; rfl
/-! from any set of those left -/
theorem side_both {v : Int32} {σ μ : MM} : (f_X6_isSide v σ = some 0 ∧ f_X7_isIn v 0 1 μ = some 0 ∧ ∀ j, j < 2 → v ≠ nI j) ∨ (f_X6_isSide v σ = some 1 ∧ f_X7_isIn v 0 1 μ = some 1 ∧ ∃ j, j < 2 ∧ v = nI j) := by
  by_cases h0 : v = 0
  · right
    subst h0
    exact ⟨rfl, rfl, 0, by decide, rfl⟩
  by_cases h1 : v = 1
  · right
    subst h1
    exact ⟨rfl, rfl, 1, by decide, rfl⟩
  left
  refine ⟨?_, ?_, fun j hj e => ?_⟩
  · unfold f_X6_isSide; rw [if_neg h0, if_neg h1]; rfl
  · refine isIn_n ?_
    rw [fa_eq] at h0 h1
    rw [fa_lt, fa_lt]
    have e0 : (0 : Int32).toInt = 0 := rfl
    have e1 : (1 : Int32).toInt = 1 := rfl
    omega
  · rcases (show j = 0 ∨ j = 1 by omega) with rfl | rfl
    · exact h0 e
    · exact h1 e
theorem d10 {q : Nat} (h : q < 2147483648) : nI q / 10 = nI (q / 10) := pk_div (a := q) (d := 10) h (by decide) (by decide)
theorem r10 {q : Nat} (h : q < 2147483648) : nI q - nI q / 10 * 10 = nI (q % 10) := pk_rem (a := q) (d := 10) h (by decide) (by decide)
theorem left_both {s : St} {σ μ : MM} (h : RelS s σ) (h' : RelM s μ) (v1 v2 v3 : Int32) : ∃ r, f_X6_leftRefusal v1 v2 v3 σ = some r ∧ f_X7_notLeft v1 v2 v3 μ = some r ∧ (r = -1 ∨ r = -3 ∨ r = -4 ∨ r = -6 ∨ (r = 0 ∧ ∃ L q sd, v1 = nI L ∧ L < 2 ^ cP (sC s) ∧ v2 = nI q ∧ q < 2147483648 ∧ q / 10 ≤ 3 ∧ q % 10 ≤ 3 ∧ sd < 2 ∧ v3 = nI sd ∧ cnt L 12 = cK (sC s) 0 + q / 10 + q % 10)) := by
  obtain ⟨⟨c0, a0, d0⟩, -⟩ := h
  obtain ⟨⟨-, b0⟩, -⟩ := h'
  have hp := c0.1
  have hk := kb c0
  unfold f_X6_leftRefusal f_X7_notLeft
  rcases side_both (v := v3) (σ := σ) (μ := μ) with ⟨x1, x2, -⟩ | ⟨x1, x2, sd, hsd, rfl⟩
  · rw [x1, x2, Option.bind_some, Option.bind_some]
    exact ⟨-1, rfl, rfl, Or.inl rfl⟩
  rw [x1, x2, Option.bind_some, Option.bind_some, if_neg n10, if_neg n10, every_S c0 a0, Option.bind_some]
  by_cases hw : ∃ S, S < 2 ^ cP (sC s) ∧ v1 = nI S
  · obtain ⟨L, hL, rfl⟩ := hw
    have hL2 := pow12 hp hL
    have hcl := cnt_le L 12
    rw [if_pos ((withS hp).mpr ⟨L, hL, rfl⟩), if_neg (nneg hL2), b0.1, if_pos ((withinM hp (nneg hL2)).mpr ⟨L, hL, rfl⟩)]
    by_cases h2 : 0 ≤ v2
    · obtain ⟨q, hq, rfl⟩ := nI_of (ge0.mp h2)
      have hq' : q < 2147483648 := hq
      rw [if_pos h2, if_pos h2, chk_t ndz_10, chk_t ndz_10, chk_t ndz_10, d10 hq']
      have hdl : q / 10 ≤ q := Nat.div_le_self _ _
      by_cases h3 : 3 < q / 10
      · have c3 : (3 : Int32) < nI (q / 10) := nI_lt (a := 3) h3 (by omega)
        rw [if_pos c3, if_pos c3]
        exact ⟨-6, rfl, rfl, Or.inr (Or.inr (Or.inr (Or.inl rfl)))⟩
      · have c3 : ¬ (3 : Int32) < nI (q / 10) := nI_nlt (a := 3) (by omega) (by omega)
        have hr : nI q - nI (q / 10) * 10 = nI (q % 10) := by rw [← d10 hq']; exact r10 hq'
        rw [if_neg c3, if_neg c3, chk_t ndz_10, hr]
        have hml : q % 10 < 10 := Nat.mod_lt _ (by decide)
        by_cases h4 : q % 10 ≤ 3
        · have c4 : nI (q % 10) ≤ (3 : Int32) := nI_le (b := 3) h4 (by omega)
          rw [if_pos c4, if_pos c4, bc_S hL2, Option.bind_some, need_S a0, Option.bind_some, bits_M hL2, Option.bind_some, need_M b0, Option.bind_some, chk_t ndz_10, chk_t ndz_10, nI_add, nI_add]
          by_cases h5 : cnt L 12 = cK (sC s) 0 + q / 10 + q % 10
          · rw [if_pos (show nI (cnt L 12) = nI (cK (sC s) 0 + q / 10 + q % 10) by rw [h5])]
            exact ⟨0, rfl, rfl, Or.inr (Or.inr (Or.inr (Or.inr ⟨rfl, L, q, sd, rfl, hL, rfl, hq', by omega, h4, hsd, rfl, h5⟩)))⟩
          · rw [if_neg (fun z => h5 ((nI_eq_iff (by omega) (by omega)).mp z))]
            exact ⟨-3, rfl, rfl, Or.inr (Or.inl rfl)⟩
        · have c4 : ¬ nI (q % 10) ≤ (3 : Int32) := nI_ge (a := 3) (by omega) (by omega)
          rw [if_neg c4, if_neg c4]
          exact ⟨-6, rfl, rfl, Or.inr (Or.inr (Or.inr (Or.inl rfl)))⟩
    · rw [if_neg h2, if_neg h2]
      exact ⟨-4, rfl, rfl, Or.inr (Or.inr (Or.inl rfl))⟩
  · refine ⟨-1, ?_, ?_, Or.inl rfl⟩
    · rw [if_neg (fun q => hw ((withS hp).mp q))]
    · by_cases h0 : v1 < 0
      · rw [if_pos h0]
      · rw [if_neg h0, b0.1, if_neg (fun q => hw ((withinM hp h0).mp q))]
/-- other turns: nothing that is kept is touched -/
theorem other_S {s : St} {σ : MM} {q1 all a b sd : Nat} {m : Mi} (h : RelS s σ) (hq : isMd q1) (hm : okM m) (hd : mdAt σ q1 m) (hall : all < 2 ^ mP m) (ha : a ≤ 3) (hb : b ≤ 3) (hs : sd < 2) (hca : cnt all 12 = mN m + a + b) :
    ∃ σ', f_X5_lookBack 46 q1 (nI all) (nI a) (nI b) (nI sd) σ = some σ' ∧ RelS s σ' ∧ tnOK σ' 46 m all a b sd ∧ (∀ k, k < 46 ∨ 50 ≤ k → σ'.1 k = σ.1 k) ∧ σ'.2 45 = σ.2 45 := by
  obtain ⟨σ', s1, s2, s3, s4⟩ := look_S (t := 46) (Or.inr rfl) hq hm hd hall ha hb hs hca
  have hf : ∀ k, k < 46 ∨ 50 ≤ k → σ'.1 k = σ.1 k := fun k hk => by
    by_cases e : k = q1 + 3
    · rw [e]; exact s3
    · exact (s2 k (by simp only [List.mem_cons, List.not_mem_nil, or_false, not_or]; omega)).1
  have h45 : σ'.2 45 = σ.2 45 := (s2 45 (by unfold isMd at hq; simp only [List.mem_cons, List.not_mem_nil, or_false, not_or]; omega)).2
  exact ⟨σ', s1, RelS_keep h (hf 0 (by omega)) (fun k hk => hf k (by
    simp only [List.mem_cons, List.not_mem_nil, or_false] at hk; omega)) h45, s4, hf, h45⟩
theorem best_keep {s : St} {μ μ' : MM} (h : RelM s μ) (hs : sM μ μ') : RelM s μ' := RelM_keep h (fun p _ => by rw [hs.1 0 (by decide)]) (fun k hk => hs.1 k (fun e => by revert hk; rw [e]; decide))
theorem vq0 {m : Mi} {a b sd S : Nat} (hc : cnt S 12 = mN m + a + b) : vq m a b sd S = VV m (a + b) a b sd S := by
  unfold vq
  rw [show cnt S 12 - mN m = a + b by omega, show a + b + mN m - cnt S 12 = 0 by omega]; rfl
theorem valueOf_S {t S : Nat} {σ : MM} (h : S < 4096) : f_X5_valueOf t (nI S) σ = some (σ.2 (t + 3) S) := by
  unfold f_X5_valueOf
  rw [chk_t (inb_nI h (by omega)), nI_c (by omega)]
theorem al_best {s : St} {σ μ : MM} (h : RelS s σ) (h' : RelM s μ) (v1 v2 v3 : Int32) : Alike (f_X6_best v1 v2 v3 σ) (f_X7_best v1 v2 v3 μ) := by
  obtain ⟨r, e1, e2, hr⟩ := left_both h h' v1 v2 v3
  obtain ⟨⟨c0, a0, d0⟩, -⟩ := id h
  unfold f_X6_best f_X7_best
  rw [e1, e2, Option.bind_some, Option.bind_some]
  rcases hr with rfl | rfl | rfl | rfl | ⟨rfl, L, q, sd, rfl, hL, rfl, hq, ha, hb, hs, rfl, hc⟩
  · refine alike_no 1 (by decide) h h' (r := rfL (-1)) ?_ ?_
    · rw [if_neg nm1, rl1]; rfl
    · rw [if_neg nm1, ml1]; rfl
  · refine alike_no 3 (by decide) h h' (r := rfL (-3)) ?_ ?_
    · rw [if_neg nm3, rl3]; rfl
    · rw [if_neg nm3, ml3]; rfl
  · refine alike_no 4 (by decide) h h' (r := rfL (-4)) ?_ ?_
    · rw [if_neg nm4, rl4]; rfl
    · rw [if_neg nm4, ml4]; rfl
  · refine alike_no 6 (by decide) h h' (r := rfL (-6)) ?_ ?_
    · rw [if_neg nm6, rl6]; rfl
    · rw [if_neg nm6, ml6]; rfl
  · have hm := okM_of c0
    have hL2 := pow12 c0.1 hL
    obtain ⟨σ', s1, s2, s3, -⟩ := other_S (q1 := 16) (sd := sd) h (Or.inl rfl) hm d0 hL ha hb hs hc
    obtain ⟨μ1, m1, m2, m3⟩ := RelM_hold h'
    obtain ⟨μ', n1, n2, n3⟩ := best_M (left := L) hm m3 hL ha hb
    have hv : vq (mOf (sC s)) (q / 10) (q % 10) sd L = VV (mOf (sC s)) (q / 10 + q % 10) (q / 10) (q % 10) sd L := vq0 hc
    have hix := idx_lt ha hb hs hL2
    refine ⟨lN (VV (mOf (sC s)) (q / 10 + q % 10) (q / 10) (q % 10) sd L), s, σ', μ', ?_, ?_, s2, best_keep m2 n2⟩
    · rw [if_pos z00, chk_t ndz_10, chk_t ndz_10, r10 hq, d10 hq, s1, Option.bind_some, valueOf_S hL2, Option.bind_some, s3.2.2.2 L sub_rf (by rw [hc]; show cK (sC s) 0 ≤ _; omega), hv]
    · rw [if_pos z00, m1, Option.bind_some, chk_t ndz_10, chk_t ndz_10, r10 hq, d10 hq, n1, Option.bind_some, chk_t ndz_10, chk_t ndz_10, idx_M, Option.bind_some, chk_t (inb_nI hix (by omega)), nI_c (by omega), n3 _ _ sd L (Nat.le_refl _) (Nat.le_refl _) hs sub_rf (by rw [hc]; show cK (sC s) 0 + _ + _ = cK (sC s) 0 + _; omega)]
theorem al_strike {s : St} {σ μ : MM} (h : RelS s σ) (h' : RelM s μ) (v1 v2 v3 : Int32) : Alike (f_X6_strike v1 v2 v3 σ) (f_X7_strike v1 v2 v3 μ) := by
  obtain ⟨r, e1, e2, hr⟩ := left_both h h' v1 v2 v3
  obtain ⟨⟨c0, a0, d0⟩, -⟩ := id h
  unfold f_X6_strike f_X7_strike
  rw [e1, e2, Option.bind_some, Option.bind_some]
  rcases hr with rfl | rfl | rfl | rfl | ⟨rfl, L, q, sd, rfl, hL, rfl, hq, ha, hb, hs, rfl, hc⟩
  · refine alike_no 1 (by decide) h h' (r := -1) ?_ ?_
    · rw [if_neg nm1, rf1]; rfl
    · rw [if_neg nm1, rm1]; rfl
  · refine alike_no 3 (by decide) h h' (r := -3) ?_ ?_
    · rw [if_neg nm3, rf3]; rfl
    · rw [if_neg nm3, rm3]; rfl
  · refine alike_no 4 (by decide) h h' (r := -4) ?_ ?_
    · rw [if_neg nm4, rf4]; rfl
    · rw [if_neg nm4, rm4]; rfl
  · refine alike_no 6 (by decide) h h' (r := -6) ?_ ?_
    · rw [if_neg nm6, rf6]; rfl
    · rw [if_neg nm6, rm6]; rfl
  · have hm := okM_of c0
    have hL2 := pow12 c0.1 hL
    have hk := kb c0
    obtain ⟨σ', s1, s2, s3, -⟩ := other_S (q1 := 16) (sd := sd) h (Or.inl rfl) hm d0 hL ha hb hs hc
    by_cases hz : q = 0
    · subst hz
      refine ⟨-9, s, σ', μ, ?_, ?_, s2, h'⟩
      · rw [if_pos z00, chk_t ndz_10, chk_t ndz_10, r10 (by omega), d10 (by omega), s1, Option.bind_some]
        unfold f_X5_strikeFrom
        rw [bc_S hL2, Option.bind_some, s3.2.2.1, if_neg (nI_nlt (by rw [hc]; exact Nat.le_refl _) (show mN (mOf (sC s)) < 2147483648 by show cK (sC s) 0 < _; omega))]; rfl
      · rw [if_pos z00, if_pos (by rfl)]
    · obtain ⟨μ1, m1, m2, m3⟩ := RelM_hold h'
      obtain ⟨μ', n1, n2, n3⟩ := best_M (left := L) hm m3 hL ha hb
      have hcm : cnt L 12 = mN (mOf (sC s)) + (q / 10 + q % 10) := by rw [hc]; show cK (sC s) 0 + _ + _ = cK (sC s) 0 + _; omega
      refine ⟨nI (bs (mOf (sC s)) (q / 10) (q % 10) sd L), s, σ', μ', ?_, ?_, s2, best_keep m2 n2⟩
      · rw [if_pos z00, chk_t ndz_10, chk_t ndz_10, r10 hq, d10 hq, s1, Option.bind_some, from_S hm s3 hL sub_rf (by omega) (by omega)]; rfl
      · rw [if_pos z00, if_neg (nI_ne0 (by omega) hq), m1, Option.bind_some, chk_t ndz_10, chk_t ndz_10, r10 hq, d10 hq, n1, Option.bind_some, chk_t ndz_10, chk_t ndz_10, strike_M hm hL ha hb (Nat.le_refl _) (Nat.le_refl _) hs sub_rf (by omega) hcm n3]; rfl
