/-! COUNT -/
theorem al_count {s : St} {σ μ : MM} (h : RelS s σ) (h' : RelM s μ) (v : Int32) : ∃ r, f_X6_count v σ = some r ∧ f_X7_count v μ = some r := by
  obtain ⟨⟨c0, a0, d0⟩, r1, r2, r3, r4, -⟩ := id h
  obtain ⟨⟨-, b0⟩, q1, q2, q3, q4, q5⟩ := id h'
  have hP := c0.1
  unfold f_X6_count f_X7_count
  have e0 : (0 : Int32).toInt = 0 := rfl
  have e1 : (1 : Int32).toInt = 1 := rfl
  have e2 : (2 : Int32).toInt = 2 := rfl
  have e3 : (3 : Int32).toInt = 3 := rfl
  have e4 : (4 : Int32).toInt = 4 := rfl
  have e9 : (9 : Int32).toInt = 9 := rfl
  have e11 : (11 : Int32).toInt = 11 := rfl
  have e16 : (16 : Int32).toInt = 16 := rfl
  by_cases h4 : v < 4
  · have h11 : v < 11 := by rw [fa_lt] at h4 ⊢; omega
    rw [if_pos h4, if_pos h11, isIn_n (Or.inl h11), Option.bind_some, if_pos z00, isIn_n (Or.inl h4), Option.bind_some, if_pos z00]
    by_cases k0 : v = 0
    · rw [if_pos k0, if_pos k0]; exact ⟨_, congrArg some a0.1, congrArg some b0.1⟩
    rw [if_neg k0, if_neg k0]
    by_cases k1 : v = 1
    · rw [if_pos k1, if_pos k1]
      rcases enough_dec (sC s) with he | he
      · rw [(called_S c0 a0).1 he, Option.bind_some, (enough_M c0 b0).1 he, Option.bind_some, if_neg n10, many_M b0]
        exact ⟨_, rfl, rfl⟩
      · rw [(called_S c0 a0).2 he, Option.bind_some, (enough_M c0 b0).2 he, Option.bind_some, if_pos z00]
        exact ⟨_, rfl, rfl⟩
    rw [if_neg k1, if_neg k1]
    by_cases k2 : v = 2
    · rw [if_pos k2, if_pos k2]; exact ⟨_, congrArg some r2.2.1, congrArg some q2.2.1⟩
    rw [if_neg k2, if_neg k2]
    by_cases k3 : v = 3
    · rw [if_pos k3, if_pos k3]; exact ⟨_, congrArg some r1.2.1, congrArg some q1.2.1⟩
    rw [if_neg k3, if_neg k3]
    exact ⟨_, rfl, rfl⟩
  have n0 : ¬ v = 0 := fun e => h4 (by rw [e]; decide)
  have n1 : ¬ v = 1 := fun e => h4 (by rw [e]; decide)
  have n2 : ¬ v = 2 := fun e => h4 (by rw [e]; decide)
  have n3 : ¬ v = 3 := fun e => h4 (by rw [e]; decide)
  rw [if_neg h4]
  by_cases h9 : 9 < v
  · rw [if_pos h9]
    by_cases h11 : v < 11
    · rw [if_pos h11, isIn_n (Or.inl h11), Option.bind_some, if_pos z00, isIn_n (Or.inr h9), Option.bind_some, if_pos z00, if_neg n0, if_neg n1, if_neg n2, if_neg n3, if_neg n0, if_neg n1, if_neg n2, if_neg n3]
      exact ⟨_, rfl, rfl⟩
    rw [if_neg h11]
    by_cases h16 : 16 < v
    · rw [if_pos h16, isIn_n (Or.inr h16), Option.bind_some, if_pos z00, isIn_n (Or.inr h9), Option.bind_some, if_pos z00, if_neg n0, if_neg n1, if_neg n2, if_neg n3, if_neg n0, if_neg n1, if_neg n2, if_neg n3]
      exact ⟨_, rfl, rfl⟩
    rw [if_neg h16, isIn_y h11 h16, Option.bind_some, if_neg n10]
    obtain ⟨k, hk, rfl⟩ := ix2 (x := v) 16 (by omega) (by rw [fa_lt] at h4 ⊢; omega) h16
    rw [fa_lt, nI_toInt (by omega), e11] at h11
    have ek : nI k - 10 = nI (k - 10) := pk_sub (a := k) (b := 10) (by omega)
    rw [ek, chk_t (inb_nI (by omega) (by omega)), chk_t (inb_nI (by omega) (by omega)), nI_c (by omega)]
    exact ⟨_, congrArg some (r3 (k - 10) (by omega)), congrArg some (q3 (k - 10) (by omega))⟩
  · rw [if_neg h9]
    obtain ⟨k, hk, rfl⟩ := ix2 (x := v) 9 (by omega) (by rw [fa_lt] at h4 ⊢; omega) h9
    rw [fa_lt, nI_toInt (by omega), e4] at h4
    have h4' : ¬ nI k < (4 : Int32) := nI_nlt (b := 4) (by omega) (by omega)
    have h11 : nI k < (11 : Int32) := nI_lt (b := 11) (by omega) (by omega)
    have ek : nI k - 4 = nI (k - 4) := pk_sub (a := k) (b := 4) (by omega)
    have hj : k - 4 < 6 := by omega
    have hsl := sset_lt (cS (sC s)) (k - 4) (cP (sC s))
    rw [ek, ofSort_S c0 a0 hj, Option.bind_some, bc_S (pow12 hP hsl), Option.bind_some, isIn_n (Or.inl h11), Option.bind_some, if_pos z00, if_neg n0, if_neg n1, if_neg n2, if_neg n3, isIn_y h4' h9, Option.bind_some, if_neg n10]
    refine ⟨_, rfl, ?_⟩
    have hq := lp_0 (step := fun t => g_X7_count_102 (nI k) t.1 t.2 μ) (fun i t => t = (nI (cnt (sset (cS (sC s)) (k - 4) (cP (sC s))) i), nI i)) (fun r => r = nI (cnt (sset (cS (sC s)) (k - 4) (cP (sC s))) (cP (sC s)))) (cP (sC s)) ((0 : Int32), (0 : Int32)) (by omega) rfl ?_ ?_
    · obtain ⟨r, t1, t2⟩ := hq
      rw [t1, t2, cnt_lt hsl hP]; rfl
    · rintro i t hi rfl
      show ∃ s', g_X7_count_102 (nI k) (nI _) (nI i) μ = some (.inl s') ∧ _
      unfold g_X7_count_102
      have hs := c0.2.2.1 i hi
      rw [b0.1, if_neg (nI_ge hi (by omega)), chk_t (inb_nI (by omega) (by omega)), nI_c (by omega), b0.2.2.1 i hi, ek, cnt_s, sset_b]
      by_cases e : cS (sC s) i = k - 4
      · rw [if_pos (show nI (cS (sC s) i) = nI (k - 4) by rw [e]), nI_1, nI_1]
        exact ⟨_, rfl, by simp [hi, e]⟩
      · rw [if_neg (fun q => e ((nI_eq_iff (by omega) (by omega)).mp q)), nI_1]
        refine ⟨_, rfl, ?_⟩
        have ez : (0 : Int32) = nI 0 := rfl
        rw [ez, nI_add]
        simp [e]
    · rintro t rfl
      refine ⟨_, ?_, rfl⟩
      show g_X7_count_102 (nI k) (nI _) (nI (cP (sC s))) μ = _
      unfold g_X7_count_102
      rw [b0.1, if_pos (nI_le (Nat.le_refl _) (by omega))]
