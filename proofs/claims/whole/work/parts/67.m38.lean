/-! FINEST -/
theorem last_S {c : Cr} {σ : MM} (hc : okC c) (he : enough c) (ht : tnC σ c) : f_X5_juryAtLast σ = some (nI (lf (mOf c) (cK c 1) (cK c 2) 0 (full c) (cK c 1 + cK c 2))) := by
  have hk := kb hc
  have hm := okM_of hc
  have hcn := full_cnt hc he
  have hfl := full_lt he
  have h3 : σ.1 42 3 = nI (full c) := ht.2.1
  have h4 : σ.1 42 4 = nI (cK c 1 + cK c 2) := ht.2.2.1
  unfold f_X5_juryAtLast
  rw [h3]
  have hq := lp_0 (step := fun t => g_X5_juryAtLast_7 t.1 t.2 σ) (fun i t => t = (nI (lf (mOf c) (cK c 1) (cK c 2) 0 (full c) i), nI i)) (fun r => r = nI (lf (mOf c) (cK c 1) (cK c 2) 0 (full c) (cK c 1 + cK c 2))) (cK c 1 + cK c 2) (nI (full c), (0 : Int32)) (by omega) rfl ?_ ?_
  · obtain ⟨r, r1, r2⟩ := hq
    rw [r1, r2]; rfl
  · rintro i t hi rfl
    obtain ⟨l1, l2⟩ := lf_ok (m := mOf c) (a := cK c 1) (b := cK c 2) (sd := 0) hcn i (by omega)
    obtain ⟨x1, x2, x3⟩ := next_S (S := lf (mOf c) (cK c 1) (cK c 2) 0 (full c) i) (i := i) hm ht.2 hfl l1 hi l2
    show ∃ s', g_X5_juryAtLast_7 (nI _) (nI i) σ = some (.inl s') ∧ _
    unfold g_X5_juryAtLast_7
    rw [h4, if_neg (nI_ge hi (by omega)), x1, Option.bind_some, out1 x3 x2, nI_1]
    exact ⟨_, rfl, rfl⟩
  · rintro t rfl
    refine ⟨_, ?_, rfl⟩
    show g_X5_juryAtLast_7 (nI _) (nI (cK c 1 + cK c 2)) σ = _
    unfold g_X5_juryAtLast_7
    rw [h4, if_pos (nI_le (Nat.le_refl _) (by omega))]
theorem rightR_S {s : St} {σ : MM} {J : Nat} (h : RelS s σ) (hj : jur (mOf (sC s)) J) : ∃ σ', f_X2_rightOf (nI J) σ = some (lN (RI (mOf (sC s)) J), σ') ∧ RelS s σ' := by
  obtain ⟨⟨c0, a0, d0⟩, -⟩ := id h
  obtain ⟨σ', s1, s2⟩ := right_S (okM_of c0) d0 hj
  exact ⟨σ', s1, RelS_keep h (by rw [s2.1]) (fun k _ => by rw [s2.1]) (s2.2 45 (by decide))⟩
theorem rightR_M {s : St} {μ : MM} {J : Nat} (h : RelM s μ) (hd : hdAt μ (mOf (sC s))) (hj : jur (mOf (sC s)) J) : ∃ μ', f_X7_rightOf (nI J) μ = some (lN (RI (mOf (sC s)) J), μ') ∧ RelM s μ' ∧ hdAt μ' (mOf (sC s)) ∧ μ'.1 = μ.1 := by
  obtain ⟨μ', s1, s2⟩ := right_M (okM_of h.1.1) hd hj
  exact ⟨μ', s1, RelM_keep h (fun p _ => by rw [s2.1]) (fun k _ => by rw [s2.1]), by unfold hdAt at hd ⊢; rw [s2.1]; exact hd, s2.1⟩
theorem al_finest {s : St} {σ μ : MM} (h : RelS s σ) (h' : RelM s μ) : Alike (f_X6_finest σ) (f_X7_finest μ) := by
  obtain ⟨⟨c0, a0, d0⟩, -⟩ := id h
  obtain ⟨⟨-, b0⟩, -⟩ := id h'
  have hcp := call_pos c0
  have hk := kb c0
  unfold f_X6_finest f_X7_finest
  rcases enough_dec (sC s) with he | he
  · have hfl := full_lt he
    have hf2 := full_2 c0 he
    have hcn := full_cnt c0 he
    obtain ⟨g1, g2⟩ := lf_ok (m := mOf (sC s)) (a := cK (sC s) 1) (b := cK (sC s) 2) (sd := 0) hcn (cK (sC s) 1 + cK (sC s) 2) (Nat.le_refl _)
    have hj1 : jur (mOf (sC s)) (lf (mOf (sC s)) (cK (sC s) 1) (cK (sC s) 2) 0 (full (sC s)) (cK (sC s) 1 + cK (sC s) 2)) := ⟨sub_lt g1 hfl, by omega⟩
    obtain ⟨e1, e2, -, -, e5⟩ := ceo c0 he
    have hj3 : jur (mOf (sC s)) (ceOf (sC s)).1 := ⟨Nat.lt_of_lt_of_le e1 (Nat.pow_le_pow_right (by decide) he), e2⟩
    -- the program
    obtain ⟨σ1, s1, s2, s3, -⟩ := know_S h he
    obtain ⟨σ2, t1, t2⟩ := rightR_S s2 hj1
    obtain ⟨σ3, u1, u2, u3⟩ := know_P t2 he
    -- the reference
    obtain ⟨μ1, m1, mm2, m3, -, m5, -⟩ := line_M h' he
    obtain ⟨μ2, n1, n2, n3, -⟩ := rightR_M mm2 m3 hj1
    obtain ⟨μ3, o1, o2, o3, -⟩ := restOf_M 0 n2 he
    obtain ⟨lA, lB⟩ := len_AB c0 he
    have hmul := mul_220 lA lB
    rw [(called_S c0 a0).1 he, Option.bind_some, if_neg (nI_ne (by omega) (by omega)), s1, Option.bind_some, last_S c0 he s3, Option.bind_some, t1, Option.bind_some, uc_eq, u1, Option.bind_some, rc_S u3, Option.bind_some, (enough_M c0 b0).1 he, Option.bind_some, if_neg n10, m1, Option.bind_some, m5, n1, Option.bind_some, uc_eq]
    have o1' : f_X7_restOf 0 μ2 = some (anR (sA1 (sC s)) (sB1 (sC s)) 0 ((sA1 (sC s)).length * (sB1 (sC s)).length), μ3) := o1
    rw [o1', Option.bind_some, uc_eq]
    generalize hR : RI (mOf (sC s)) (lf (mOf (sC s)) (cK (sC s) 1) (cK (sC s) 2) 0 (full (sC s)) (cK (sC s) 1 + cK (sC s) 2)) = R1
    -- from what is best of the two first, to the third
    have fin : ∀ (x : Int64) (w : Int32) (σ4 μ4 : MM), RelS s σ4 → RelM s μ4 → Alike ((f_X6_knowComing σ4).bind (fun σ21 => (f_X1_jury σ21).bind (fun r22 => (f_X2_rightOf r22 σ21).bind (uc (fun r23 σ24 => if r23 ≤ x then some (w, σ24) else some ((2 : Int32), σ24)))))) ((f_X7_findCome μ4).bind (fun σ18 => (f_X7_rightOf (σ18.1 0 30) σ18).bind (uc (fun r19 σ20 => if r19 ≤ x then some (w, σ20) else some ((2 : Int32), σ20))))) := by
      intro x w σ4 μ4 hs4 hm4
      obtain ⟨σ5, v1, v2, v3, -⟩ := know_C hs4 he
      obtain ⟨μ5, w1, w2, w3, w4, -, -⟩ := come_M hm4 he
      obtain ⟨σ6, x1, x2⟩ := rightR_S v2 hj3
      obtain ⟨μ6, y1, y2, -, -⟩ := rightR_M w2 w3 hj3
      rw [v1, Option.bind_some, (jury_S c0 he v3).1, Option.bind_some, x1, Option.bind_some, uc_eq, w1, Option.bind_some, w4, y1, Option.bind_some, uc_eq]
      by_cases hle : lN (RI (mOf (sC s)) (ceOf (sC s)).1) ≤ x
      · rw [if_pos hle, if_pos hle]; exact ⟨w, s, σ6, μ6, rfl, rfl, x2, y2⟩
      · rw [if_neg hle, if_neg hle]; exact ⟨2, s, σ6, μ6, rfl, rfl, x2, y2⟩
    by_cases hz : (sA1 (sC s)).length * (sB1 (sC s)).length = 0
    · have c1 : nI ((sA1 (sC s)).length * (sB1 (sC s)).length) ≤ 0 := nI_le (b := 0) (by omega) (by omega)
      have c2 : anR (sA1 (sC s)) (sB1 (sC s)) 0 ((sA1 (sC s)).length * (sB1 (sC s)).length) = -9 := by
        unfold anR
        rw [hz, if_neg (by decide), if_neg (Nat.not_lt_zero _)]
      rw [if_pos c1, c2, if_pos (show (-9 : Int32) = -9 from rfl), Option.bind_some, Option.bind_some]
      exact fin _ _ _ _ u2 o2
    · have hpos : 0 < (sA1 (sC s)).length * (sB1 (sC s)).length := by omega
      obtain ⟨q1, q2⟩ := rAB_S c0 he u3 hpos
      have hB0 : 0 < (sB1 (sC s)).length := by
        rcases Nat.eq_zero_or_pos (sB1 (sC s)).length with q | q
        · rw [q, Nat.mul_zero] at hpos; omega
        · exact q
      have hA0 : 0 < (sA1 (sC s)).length := by
        rcases Nat.eq_zero_or_pos (sA1 (sC s)).length with q | q
        · rw [q, Nat.zero_mul] at hpos; omega
        · exact q
      have d0 : 0 / (sB1 (sC s)).length = 0 := Nat.zero_div _
      have r0 : 0 % (sB1 (sC s)).length = 0 := Nat.zero_mod _
      rw [d0] at q1
      rw [r0] at q2
      have mA : (sA1 (sC s)).getD 0 0 ∈ setsOf (full (sC s)) (cK (sC s) 1) := (List.mem_filter.mp (getD_mem hA0)).1
      have mB : (sB1 (sC s)).getD 0 0 ∈ setsOf (full (sC s)) (cK (sC s) 2) := (List.mem_filter.mp (getD_mem hB0)).1
      rw [sets_mem] at mA mB
      generalize hA : (sA1 (sC s)).getD 0 0 = A at q1 mA
      generalize hB : (sB1 (sC s)).getD 0 0 = B at q2 mB
      have c1 : ¬ nI ((sA1 (sC s)).length * (sB1 (sC s)).length) ≤ 0 := nI_nle hpos (by omega)
      have c2 : anR (sA1 (sC s)) (sB1 (sC s)) 0 ((sA1 (sC s)).length * (sB1 (sC s)).length) = nI (4096 * A + B) := by
        unfold anR
        rw [if_neg (by decide), tn_0, if_pos hpos, d0, r0, hA, hB]
      have c3 : ¬ nI (4096 * A + B) = (-9 : Int32) := fun e => by
        have := nI_toInt (n := 4096 * A + B) (by omega)
        rw [e] at this
        have e9 : (-9 : Int32).toInt = -9 := rfl
        omega
      have e4 : nI (4096 * A + B) / 4096 = nI A := by
        have := pk_div (a := 4096 * A + B) (d := 4096) (by omega) (by decide) (by decide)
        rw [show (4096 * A + B) / 4096 = A by omega] at this
        exact this
      have e6 : nI (4096 * A + B) - nI (4096 * A + B) / 4096 * 4096 = nI B := by
        have := pk_rem (a := 4096 * A + B) (d := 4096) (by omega) (by decide) (by decide)
        rw [show (4096 * A + B) % 4096 = B by omega] at this
        exact this
      obtain ⟨hj2, -⟩ := PJ_jur c0 he mA.2 mB.2
      obtain ⟨σ4, x1, x2⟩ := rightR_S u2 hj2
      obtain ⟨μ4, y1, y2, -, -⟩ := rightR_M o2 o3 hj2
      have q1' : f_X3_restOfA 0 σ3 = some (nI A) := q1
      have q2' : f_X3_restOfB 0 σ3 = some (nI B) := q2
      have ed : full (sC s) ^^^ (full (sC s) &&& (A ||| B)) = dif (full (sC s)) (A ||| B) := rfl
      have x1' : f_X2_rightOf (nI (frs (dif (full (sC s)) (A ||| B)) (cK (sC s) 0) 12)) σ3 = some (lN (RI (mOf (sC s)) (PJ (mOf (sC s)) (full (sC s)) A B)), σ4) := x1
      rw [if_neg c1, q1', Option.bind_some, q2', Option.bind_some, set_S c0 u2.1.2.1 he, Option.bind_some, need_S u2.1.2.1, Option.bind_some, orI, andn2, ed, firstOf_S (dif_lt hf2) hk.1.2, Option.bind_some, x1', Option.bind_some, uc_eq, c2, if_neg c3, chk_t ndz_4096, chk_t ndz_4096, e6, e4, juryOf_M c0 he o2.1.2, Option.bind_some, y1, Option.bind_some, uc_eq]
      by_cases hle : lN (RI (mOf (sC s)) (PJ (mOf (sC s)) (full (sC s)) A B)) ≤ lN R1
      · rw [if_pos hle, if_pos hle, Option.bind_some, Option.bind_some, if_pos hle, Option.bind_some]
        exact fin _ _ _ _ x2 y2
      · rw [if_neg hle, if_neg hle, Option.bind_some, Option.bind_some, if_neg hle, Option.bind_some]
        exact fin _ _ _ _ x2 y2
  · refine alike_no 3 (by decide) h h' (r := -3) ?_ ?_
    · rw [(called_S c0 a0).2 he, Option.bind_some, if_pos z00, rf3]; rfl
    · rw [(enough_M c0 b0).2 he, Option.bind_some, if_pos z00, rm3]; rfl
