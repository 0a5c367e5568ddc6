/-! RESTS and REST, both -/
def sA1 (c : Cr) : List Nat := GA (mOf c) (full c) (setsOf (full c) (cK c 1)) (setsOf (full c) (cK c 2))
def sB1 (c : Cr) : List Nat := GB (mOf c) (full c) (setsOf (full c) (cK c 1)) (setsOf (full c) (cK c 2))
theorem len_AB {c : Cr} (hc : okC c) (he : enough c) : (sA1 c).length ≤ 220 ∧ (sB1 c).length ≤ 220 := by
  obtain ⟨lA, lB, -⟩ := pp_facts hc he
  exact ⟨Nat.le_trans (List.length_filter_le _ _) lA, Nat.le_trans (List.length_filter_le _ _) lB⟩
theorem mul_220 {a b : Nat} (ha : a ≤ 220) (hb : b ≤ 220) : a * b ≤ 48400 := by
  have := Nat.mul_le_mul ha hb
  omega
theorem rc_S {c : Cr} {σ : MM} (h : ppC σ c) : f_X3_restCount σ = some (nI ((sA1 c).length * (sB1 c).length)) := by
  unfold f_X3_restCount
  rw [h.2.1, h.2.2.1]
  exact congrArg some (pk_mul _ _)
theorem rAB_S {c : Cr} {σ : MM} {n : Nat} (hc : okC c) (he : enough c) (h : ppC σ c) (hn : n < (sA1 c).length * (sB1 c).length) : f_X3_restOfA (nI n) σ = some (nI ((sA1 c).getD (n / (sB1 c).length) 0)) ∧ f_X3_restOfB (nI n) σ = some (nI ((sB1 c).getD (n % (sB1 c).length) 0)) := by
  obtain ⟨lA, lB⟩ := len_AB hc he
  have hm := mul_220 lA lB
  have hB0 : 0 < (sB1 c).length := by
    rcases Nat.eq_zero_or_pos (sB1 c).length with q | q
    · rw [q, Nat.mul_zero] at hn; omega
    · exact q
  obtain ⟨-, h6, h7, hA, hB⟩ := h
  have h7' : σ.1 50 7 = nI (sB1 c).length := h7
  have hA' : ppA (σ.1 51) (sA1 c) := hA
  have hB' : ppA (σ.1 52) (sB1 c) := hB
  have hd : n / (sB1 c).length < (sA1 c).length := Nat.div_lt_of_lt_mul (by rw [Nat.mul_comm]; exact hn)
  have hr : n % (sB1 c).length < (sB1 c).length := Nat.mod_lt _ hB0
  have hne := nI_ne hB0 (show (sB1 c).length < 2147483648 by omega)
  have ndz : (!(decide (nI (sB1 c).length = 0))) = true := by simp [hne]
  have e1 : nI n / nI (sB1 c).length = nI (n / (sB1 c).length) := pk_div (by omega) hB0 (by omega)
  have e2 : nI n - nI n / nI (sB1 c).length * nI (sB1 c).length = nI (n % (sB1 c).length) := pk_rem (by omega) hB0 (by omega)
  constructor
  · unfold f_X3_restOfA
    rw [h7', if_neg hne, chk_t ndz, e1, chk_t (inb_nI (by omega) (by omega)), nI_c (by omega), ppA_g hA' hd]
  · unfold f_X3_restOfB
    rw [h7', if_neg hne, chk_t ndz, e2, chk_t (inb_nI (by omega) (by omega)), nI_c (by omega), ppA_g hB' hr]
theorem al_rests {s : St} {σ μ : MM} (h : RelS s σ) (h' : RelM s μ) : Alike (f_X6_rests σ) (f_X7_rests μ) := by
  obtain ⟨⟨c0, a0, d0⟩, -⟩ := id h
  obtain ⟨⟨-, b0⟩, -⟩ := id h'
  have hcp := call_pos c0
  unfold f_X6_rests f_X7_rests
  rcases enough_dec (sC s) with he | he
  · obtain ⟨σ', s1, s2, s3⟩ := know_P h he
    obtain ⟨μ', m1, mm2, -, m4⟩ := restOf_M (-1) h' he
    refine ⟨nI ((sA1 (sC s)).length * (sB1 (sC s)).length), s, σ', μ', ?_, ?_, s2, mm2⟩
    · rw [(called_S c0 a0).1 he, Option.bind_some, if_neg (nI_ne (by omega) (by omega)), s1, Option.bind_some, rc_S s3]; rfl
    · rw [(enough_M c0 b0).1 he, Option.bind_some, if_neg n10, m1, Option.bind_some, uc_eq]
      unfold anR
      rw [if_pos neg1, if_pos rfl, m4]; rfl
  · refine alike_no 3 (by decide) h h' (r := -3) ?_ ?_
    · rw [(called_S c0 a0).2 he, Option.bind_some, if_pos z00, rf3]; rfl
    · rw [(enough_M c0 b0).2 he, Option.bind_some, if_pos z00, rm3]; rfl
theorem al_rest {s : St} {σ μ : MM} (h : RelS s σ) (h' : RelM s μ) (v1 : Int32) : Alike (f_X6_rest v1 σ) (f_X7_rest v1 μ) := by
  obtain ⟨⟨c0, a0, d0⟩, -⟩ := id h
  obtain ⟨⟨-, b0⟩, -⟩ := id h'
  have hcp := call_pos c0
  unfold f_X6_rest f_X7_rest
  rcases enough_dec (sC s) with he | he
  · obtain ⟨σ', s1, s2, s3⟩ := know_P h he
    obtain ⟨μ', m1, mm2, -, m4⟩ := restOf_M v1 h' he
    obtain ⟨lA, lB⟩ := len_AB c0 he
    have hm := mul_220 lA lB
    refine ⟨anR (sA1 (sC s)) (sB1 (sC s)) v1 ((sA1 (sC s)).length * (sB1 (sC s)).length), s, σ', μ', ?_, ?_, s2, mm2⟩
    · rw [(called_S c0 a0).1 he, Option.bind_some, if_neg (nI_ne (by omega) (by omega)), s1, Option.bind_some]
      unfold anR
      by_cases h0 : v1 < 0
      · rw [if_pos h0, if_pos h0]
      · rw [if_neg h0, if_neg h0, rc_S s3, Option.bind_some]
        obtain ⟨n, hn, rfl⟩ := nI_of h0
        have hn' : n < 2147483648 := hn
        rw [nI_c hn']
        by_cases hl : n < (sA1 (sC s)).length * (sB1 (sC s)).length
        · obtain ⟨q1, q2⟩ := rAB_S c0 he s3 hl
          rw [if_pos (nI_lt hl (by omega)), q1, Option.bind_some, q2, Option.bind_some, if_pos hl]
          have e4 : (4096 : Int32) * nI ((sA1 (sC s)).getD (n / (sB1 (sC s)).length) 0) = nI (4096 * (sA1 (sC s)).getD (n / (sB1 (sC s)).length) 0) := pk_mul 4096 _
          rw [e4, nI_add]
        · rw [if_neg (nI_nlt (by omega) hn'), if_neg hl]
    · rw [(enough_M c0 b0).1 he, Option.bind_some, if_neg n10, m1]; rfl
  · refine alike_no 3 (by decide) h h' (r := -3) ?_ ?_
    · rw [(called_S c0 a0).2 he, Option.bind_some, if_pos z00, rf3]; rfl
    · rw [(enough_M c0 b0).2 he, Option.bind_some, if_pos z00, rm3]; rfl
