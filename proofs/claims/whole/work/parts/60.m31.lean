/-! RESTS and REST -/
theorem isRest_M {c : Cr} {μ : MM} {LA LB : List Nat} {i j : Nat} (hc : okC c) (he : enough c) (hr : atR μ c) (eA : LA = setsOf (full c) (cK c 1)) (eB : LB = setsOf (full c) (cK c 2)) (hp : pmC μ c LA LB) (hi : i < LA.length) (hj : j < LB.length) : f_X7_isRest (nI i) (nI j) μ = some (if restB (mOf c) (full c) LA LB (LA.getD i 0) (LB.getD j 0) = true then 1 else 0) := by
  obtain ⟨lA, lB, pA, pB, hV⟩ := pp_facts hc he
  rw [← eA, ← eB] at hV
  rw [← eA] at lA pA
  rw [← eB] at lB pB
  obtain ⟨p1, p2, p3, p4, p5, p6, p7⟩ := hp
  have hf2 := full_2 hc he
  have hBIG : BIG = 10000000000000001 := rfl
  have mA : LA.getD i 0 ∈ LA := getD_mem hi
  have mA' := mA
  rw [eA, sets_mem] at mA'
  have mB : LB.getD j 0 ∈ LB := getD_mem hj
  have mB' := mB
  rw [eB, sets_mem] at mB'
  have cA : cnt (LA.getD i 0) 12 = cK c 1 := by rw [eA]; exact mA'.2
  have cB : cnt (LB.getD j 0) 12 = cK c 2 := by rw [eB]; exact mB'.2
  obtain ⟨hj1, hj2⟩ := PJ_jur hc he cA cB
  have hPJ : PJ (mOf c) (full c) (LA.getD i 0) (LB.getD j 0) ≤ full c := sub_le (sub_tr (frs_sub _ _) (fun q hq => by
    unfold dif at hq
    rw [dif_b] at hq
    exact (Bool.and_eq_true _ _ ▸ hq).1))
  have hval : μ.2 10 (PJ (mOf c) (full c) (LA.getD i 0) (LB.getD j 0)) = lN (PV (mOf c) (full c) (LA.getD i 0) (LB.getD j 0)) := p5 _ hPJ hj1.2
  have hv := hV _ _ mA mB
  have bM : ppM (PV (mOf c) (full c)) LB (LA.getD i 0) LB.length < BIG := by
    have := ppM_le (V := PV (mOf c) (full c)) (LB := LB) (A := LA.getD i 0) LB.length 0 pB
    have := hV _ _ mA (getD_mem pB)
    omega
  have bX : ppX (PV (mOf c) (full c)) LA (LB.getD j 0) LA.length < BIG := by
    obtain ⟨k, k1, k2⟩ := ppX_at (V := PV (mOf c) (full c)) (LA := LA) (B := LB.getD j 0) LA.length pA
    rw [k2]; exact hV _ _ (getD_mem k1) mB
  have hiff := rest_iff (m := mOf c) (F := full c) mA mB hV
  unfold f_X7_isRest
  rw [chk_t (inb_nI (by omega) (by omega)), chk_t (inb_nI (by omega) (by omega)), nI_c (show i < 2147483648 by omega), nI_c (show j < 2147483648 by omega), ppA_g p3 hi, ppA_g p4 hj, juryOf_M hc he hr, Option.bind_some, chk_t (inb_nI (by omega) (by omega)), chk_t (inb_nI (by omega) (by omega)), nI_c (by omega), hval, p6 i hi, p7 j hj]
  by_cases h1 : PV (mOf c) (full c) (LA.getD i 0) (LB.getD j 0) = ppX (PV (mOf c) (full c)) LA (LB.getD j 0) LA.length
  · rw [if_pos (show lN (PV (mOf c) (full c) (LA.getD i 0) (LB.getD j 0)) = lN (ppX (PV (mOf c) (full c)) LA (LB.getD j 0) LA.length) by rw [h1]), chk_t (inb_nI (by omega) (by omega))]
    by_cases h2 : PV (mOf c) (full c) (LA.getD i 0) (LB.getD j 0) = ppM (PV (mOf c) (full c)) LB (LA.getD i 0) LB.length
    · rw [if_pos (show lN (PV (mOf c) (full c) (LA.getD i 0) (LB.getD j 0)) = lN (ppM (PV (mOf c) (full c)) LB (LA.getD i 0) LB.length) by rw [h2]), if_pos (hiff.mpr ⟨h1, h2⟩)]; rfl
    · rw [if_neg (fun q => h2 ((fb_lN_inj (by omega) (by omega)).mp q)), if_neg (fun q => h2 (hiff.mp q).2)]; rfl
  · rw [if_neg (fun q => h1 ((fb_lN_inj (by omega) (by omega)).mp q)), if_neg (fun q => h1 (hiff.mp q).1)]; rfl
theorem flt_at {L : List Nat} {p : Nat → Bool} {i : Nat} (hi : i < L.length) (h : p (L.getD i 0) = true) : (L.filter p).getD ((L.take i).filter p).length 0 = L.getD i 0 ∧ ((L.take i).filter p).length < (L.filter p).length := by
  have hpre : (L.take (i + 1)).filter p <+: L.filter p := by
    have e : L.filter p = (L.take (i + 1)).filter p ++ (L.drop (i + 1)).filter p := by rw [← List.filter_append, List.take_append_drop]
    rw [e]; exact List.prefix_append _ _
  rw [filter_s hi, if_pos h] at hpre
  obtain ⟨t, ht⟩ := hpre
  rw [← ht]
  refine ⟨?_, ?_⟩
  · rw [List.getD_eq_getElem?_getD, List.append_assoc, List.getElem?_append_right (Nat.le_refl _), Nat.sub_self]; rfl
  · rw [List.length_append, List.length_append]; simp; omega
def anR (X Y : List Nat) (v : Int32) (n : Nat) : Int32 := if v < 0 then -9 else if v.toNatClampNeg < n then nI (4096 * X.getD (v.toNatClampNeg / Y.length) 0 + Y.getD (v.toNatClampNeg % Y.length) 0) else -9
theorem anR_s {X Y : List Nat} {v : Int32} {a b x y : Nat} (hY : Y.length ≤ 220) (ha : a ≤ 220) (hb : b < Y.length) (hx : X.getD a 0 = x) (hy : Y.getD b 0 = y) : anR X Y v (a * Y.length + b + 1) = if nI (a * Y.length + b) = v then nI (4096 * x + y) else anR X Y v (a * Y.length + b) := by
  have hm : a * Y.length ≤ 220 * 220 := Nat.mul_le_mul ha hY
  have hmm : 220 * 220 = 48400 := by decide
  unfold anR
  by_cases h0 : v < 0
  · rw [if_pos h0, if_pos h0, if_neg (fun e => nI_pos (show a * Y.length + b < 2147483648 by omega) (by rw [e]; exact h0))]
  · rw [if_neg h0, if_neg h0]
    obtain ⟨n, hn, rfl⟩ := nI_of h0
    have hn' : n < 2147483648 := hn
    rw [nI_c hn']
    by_cases e : n = a * Y.length + b
    · subst e
      rw [if_pos (by omega), if_pos rfl]
      have d1 : (a * Y.length + b) / Y.length = a := by rw [Nat.mul_comm, Nat.mul_add_div (by omega), Nat.div_eq_of_lt hb, Nat.add_zero]
      have d2 : (a * Y.length + b) % Y.length = b := by rw [Nat.mul_comm, Nat.mul_add_mod, Nat.mod_eq_of_lt hb]
      rw [d1, d2, hx, hy]
    · rw [if_neg (fun q => e ((nI_eq_iff (by omega) (by omega)).mp q).symm)]
      by_cases hl : n < a * Y.length + b
      · rw [if_pos hl, if_pos (by omega)]
      · rw [if_neg hl, if_neg (by omega)]
theorem restOf_M {s : St} {μ : MM} (v : Int32) (h' : RelM s μ) (he : enough (sC s)) : ∃ μ', f_X7_restOf v μ = some (anR (GA (mOf (sC s)) (full (sC s)) (setsOf (full (sC s)) (cK (sC s) 1)) (setsOf (full (sC s)) (cK (sC s) 2))) (GB (mOf (sC s)) (full (sC s)) (setsOf (full (sC s)) (cK (sC s) 1)) (setsOf (full (sC s)) (cK (sC s) 2))) v ((GA (mOf (sC s)) (full (sC s)) (setsOf (full (sC s)) (cK (sC s) 1)) (setsOf (full (sC s)) (cK (sC s) 2))).length * (GB (mOf (sC s)) (full (sC s)) (setsOf (full (sC s)) (cK (sC s) 1)) (setsOf (full (sC s)) (cK (sC s) 2))).length), μ') ∧ RelM s μ' ∧ hdAt μ' (mOf (sC s)) ∧ μ'.1 0 28 = nI ((GA (mOf (sC s)) (full (sC s)) (setsOf (full (sC s)) (cK (sC s) 1)) (setsOf (full (sC s)) (cK (sC s) 2))).length * (GB (mOf (sC s)) (full (sC s)) (setsOf (full (sC s)) (cK (sC s) 1)) (setsOf (full (sC s)) (cK (sC s) 2))).length) := by
  obtain ⟨μ1, m1, m2, m3, m4⟩ := paper_M h' he
  obtain ⟨⟨c0, b0⟩, -⟩ := id m2
  obtain ⟨lA, lB, pA, pB, hV⟩ := pp_facts c0 he
  generalize eA : setsOf (full (sC s)) (cK (sC s) 1) = LA at *
  generalize eB : setsOf (full (sC s)) (cK (sC s) 2) = LB at *
  have eGA : GA (mOf (sC s)) (full (sC s)) LA LB = LA.filter (fun A => LB.any (fun B => restB (mOf (sC s)) (full (sC s)) LA LB A B)) := rfl
  have eGB : GB (mOf (sC s)) (full (sC s)) LA LB = LB.filter (fun B => LA.any (fun A => restB (mOf (sC s)) (full (sC s)) LA LB A B)) := rfl
  have hrest : ∀ A B, A ∈ LA → B ∈ LB → (restB (mOf (sC s)) (full (sC s)) LA LB A B = true ↔ (LB.any (fun B => restB (mOf (sC s)) (full (sC s)) LA LB A B) = true ∧ LA.any (fun A => restB (mOf (sC s)) (full (sC s)) LA LB A B) = true)) := fun A B hA hB => by
    rw [rest_AB hA hB hV, eGA, eGB, List.mem_filter, List.mem_filter]
    exact ⟨fun q => ⟨q.1.2, q.2.2⟩, fun q => ⟨⟨hA, q.1⟩, hB, q.2⟩⟩
  generalize hpA : (fun A => LB.any (fun B => restB (mOf (sC s)) (full (sC s)) LA LB A B)) = fA' at eGA hrest
  generalize hpB : (fun B => LA.any (fun A => restB (mOf (sC s)) (full (sC s)) LA LB A B)) = fB' at eGB hrest
  have hrest' : ∀ A B, A ∈ LA → B ∈ LB → (restB (mOf (sC s)) (full (sC s)) LA LB A B = true ↔ (fA' A = true ∧ fB' B = true)) := fun A B hA hB => by
    have := hrest A B hA hB
    rw [← hpA, ← hpB]; exact this
  rw [eGA, eGB]
  have lGA : (LA.filter fA').length ≤ 220 := Nat.le_trans (List.length_filter_le _ _) lA
  have lGB : (LB.filter fB').length ≤ 220 := Nat.le_trans (List.length_filter_le _ _) lB
  generalize hX : LA.filter fA' = X at *
  generalize hY : LB.filter fB' = Y at *
  obtain ⟨p1, p2, p3, p4, p5, p6, p7⟩ := id m4
  unfold f_X7_restOf
  rw [m1, Option.bind_some, lm_eq]
  have stay : ∀ τ : MM, (∀ k, k ≠ 0 → τ.1 k = μ1.1 k) → (∀ p, p ≠ 28 → τ.1 0 p = μ1.1 0 p) → τ.2 = μ1.2 → RelM s τ ∧ hdAt τ (mOf (sC s)) ∧ pmC τ (sC s) LA LB := fun τ k1 k2 k3 => by
    refine ⟨RelM_keep m2 (fun p hp => k2 p (fun e => by revert hp; rw [e]; decide)) (fun k hk => k1 k (fun e => by revert hk; rw [e]; decide)), ?_, ?_⟩
    · unfold hdAt at m3 ⊢; rw [k2 6 (by decide), k1 4 (by decide), k1 8 (by decide)]; exact m3
    · unfold pmC at m4 ⊢; rw [k2 26 (by decide), k2 27 (by decide), k1 15 (by decide), k1 16 (by decide), k3]; exact m4
  have inner : ∀ i, i < LA.length → ∀ τ : MM, (∀ k, k ≠ 0 → τ.1 k = μ1.1 k) → (∀ p, p ≠ 28 → τ.1 0 p = μ1.1 0 p) → τ.2 = μ1.2 → τ.1 0 28 = nI (((LA.take i).filter fA').length * Y.length) → ∃ τ', loopN (fun t => g_X7_restOf_25 v (nI i) t.1 t.2.1 t.2.2) FU (anR X Y v (((LA.take i).filter fA').length * Y.length), (0 : Int32), τ) = some (anR X Y v (((LA.take (i + 1)).filter fA').length * Y.length), τ') ∧ (∀ k, k ≠ 0 → τ'.1 k = μ1.1 k) ∧ (∀ p, p ≠ 28 → τ'.1 0 p = μ1.1 0 p) ∧ τ'.2 = μ1.2 ∧ τ'.1 0 28 = nI (((LA.take (i + 1)).filter fA').length * Y.length) := by
    intro i hi τ k1 k2 k3 k4
    have mA : LA.getD i 0 ∈ LA := getD_mem hi
    have hcA : ((LA.take i).filter fA').length ≤ 220 := Nat.le_trans (filter_le LA fA' i) (by omega)
    have hend : ((LA.take (i + 1)).filter fA').length * Y.length = ((LA.take i).filter fA').length * Y.length + (if fA' (LA.getD i 0) = true then ((LB.take LB.length).filter fB').length else 0) := by
      rw [filter_s hi, List.take_length, hY]
      by_cases h : fA' (LA.getD i 0) = true
      · rw [if_pos h, if_pos h, List.length_append, Nat.add_mul]; simp
      · rw [if_neg h, if_neg h]; rfl
    rw [hend]
    have hq := lp_0 (step := fun t => g_X7_restOf_25 v (nI i) t.1 t.2.1 t.2.2) (fun j t => t.1 = anR X Y v (((LA.take i).filter fA').length * Y.length + (if fA' (LA.getD i 0) = true then ((LB.take j).filter fB').length else 0)) ∧ t.2.1 = nI j ∧ (∀ k, k ≠ 0 → t.2.2.1 k = μ1.1 k) ∧ (∀ p, p ≠ 28 → t.2.2.1 0 p = μ1.1 0 p) ∧ t.2.2.2 = μ1.2 ∧ t.2.2.1 0 28 = nI (((LA.take i).filter fA').length * Y.length + (if fA' (LA.getD i 0) = true then ((LB.take j).filter fB').length else 0)))
      (fun r => r.1 = anR X Y v (((LA.take i).filter fA').length * Y.length + (if fA' (LA.getD i 0) = true then ((LB.take LB.length).filter fB').length else 0)) ∧ (∀ k, k ≠ 0 → r.2.1 k = μ1.1 k) ∧ (∀ p, p ≠ 28 → r.2.1 0 p = μ1.1 0 p) ∧ r.2.2 = μ1.2 ∧ r.2.1 0 28 = nI (((LA.take i).filter fA').length * Y.length + (if fA' (LA.getD i 0) = true then ((LB.take LB.length).filter fB').length else 0))) LB.length (anR X Y v (((LA.take i).filter fA').length * Y.length), (0 : Int32), τ) (by omega) ⟨by
        show _ = anR X Y v (_ + (if fA' (LA.getD i 0) = true then 0 else 0))
        split <;> rfl, rfl, k1, k2, k3, by
        rw [k4]
        show _ = nI (_ + (if fA' (LA.getD i 0) = true then 0 else 0))
        split <;> rfl⟩ ?_ ?_
    · obtain ⟨r, r1, r2, r3, r4, r5, r6⟩ := hq
      exact ⟨r.2, by rw [r1, ← r2], r3, r4, r5, r6⟩
    · rintro j ⟨x, y, ν⟩ hj ⟨f1, f2, f3, f4, f5, f6⟩
      dsimp only at f1 f2 f3 f4 f5 f6
      subst f1; subst f2
      have mB : LB.getD j 0 ∈ LB := getD_mem hj
      obtain ⟨R1, R2, R3⟩ := stay ν f3 f4 f5
      have hir := isRest_M (i := i) (j := j) c0 he R1.1.2 eA.symm eB.symm R3 hi hj
      show ∃ s', g_X7_restOf_25 v (nI i) _ (nI j) ν = some (.inl s') ∧ _
      unfold g_X7_restOf_25
      rw [f4 27 (by decide), p2, if_neg (nI_ge hj (by omega)), hir, Option.bind_some]
      have hst : (LB.take (j + 1)).filter fB' = if fB' (LB.getD j 0) = true then (LB.take j).filter fB' ++ [LB.getD j 0] else (LB.take j).filter fB' := filter_s hj
      by_cases hre : restB (mOf (sC s)) (full (sC s)) LA LB (LA.getD i 0) (LB.getD j 0) = true
      · obtain ⟨z1, z2⟩ := (hrest' _ _ mA mB).mp hre
        obtain ⟨u1, u2⟩ := flt_at hi z1
        obtain ⟨w1, w2⟩ := flt_at hj z2
        rw [hX] at u1
        rw [hY] at w1 w2
        have hstep := anR_s (X := X) (Y := Y) (v := v) (a := ((LA.take i).filter fA').length) (b := ((LB.take j).filter fB').length) lGB hcA w2 u1 w1
        have hlen : ((LB.take (j + 1)).filter fB').length = ((LB.take j).filter fB').length + 1 := by rw [hst, if_pos z2, List.length_append]; rfl
        rw [if_pos hre, if_neg n10, if_pos z1]
        rw [if_pos z1] at f6
        rw [if_pos z1, hlen, ← Nat.add_assoc, hstep, f6]
        have e4 : (4096 : Int32) * nI (LA.getD i 0) + nI (LB.getD j 0) = nI (4096 * LA.getD i 0 + LB.getD j 0) := by
          have : (4096 : Int32) * nI (LA.getD i 0) = nI (4096 * LA.getD i 0) := pk_mul 4096 _
          rw [this, nI_add]
        have eo : (if nI (((LA.take i).filter fA').length * Y.length + ((LB.take j).filter fB').length) = v then chk (inb (nI i) 220) (chk (inb (nI j) 220) (some (((4096 : Int32) * (ν.1 15 (nI i).toNatClampNeg)) + (ν.1 16 (nI j).toNatClampNeg)))) else some (anR X Y v (((LA.take i).filter fA').length * Y.length + ((LB.take j).filter fB').length))) = some (if nI (((LA.take i).filter fA').length * Y.length + ((LB.take j).filter fB').length) = v then nI (4096 * LA.getD i 0 + LB.getD j 0) else anR X Y v (((LA.take i).filter fA').length * Y.length + ((LB.take j).filter fB').length)) := by
          by_cases q : nI (((LA.take i).filter fA').length * Y.length + ((LB.take j).filter fB').length) = v
          · rw [if_pos q, if_pos q, chk_t (inb_nI (by omega) (by omega)), chk_t (inb_nI (by omega) (by omega)), nI_c (by omega), nI_c (by omega), ppA_g R3.2.2.1 hi, ppA_g R3.2.2.2.1 hj, e4]
          · rw [if_neg q, if_neg q]
        rw [eo, Option.bind_some, lm_eq]
        refine ⟨_, rfl, rfl, nI_1 j, fun k hk => ?_, fun p hp => ?_, f5, ?_⟩
        · show (stI ν 0 28 _).1 k = _
          rw [stI_k hk]; exact f3 k hk
        · show (stI ν 0 28 _).1 0 p = _
          rw [stI_s, upd_n hp]; exact f4 p hp
        · show (stI ν 0 28 _).1 0 28 = _
          rw [stI_s, upd_s, nI_1]
      · rw [if_neg hre, if_pos z00]
        have hz : ¬ (fA' (LA.getD i 0) = true ∧ fB' (LB.getD j 0) = true) := fun q => hre ((hrest' _ _ mA mB).mpr q)
        have hsame : (if fA' (LA.getD i 0) = true then ((LB.take (j + 1)).filter fB').length else 0) = (if fA' (LA.getD i 0) = true then ((LB.take j).filter fB').length else 0) := by
          by_cases q : fA' (LA.getD i 0) = true
          · rw [if_pos q, if_pos q, hst, if_neg (fun z => hz ⟨q, z⟩)]
          · rw [if_neg q, if_neg q]
        rw [hsame]
        exact ⟨_, rfl, rfl, nI_1 j, f3, f4, f5, f6⟩
    · rintro ⟨x, y, ν⟩ ⟨f1, f2, f3, f4, f5, f6⟩
      dsimp only at f1 f2 f3 f4 f5 f6
      subst f1; subst f2
      refine ⟨(_, ν), ?_, rfl, f3, f4, f5, f6⟩
      show g_X7_restOf_25 v (nI i) _ (nI LB.length) ν = _
      unfold g_X7_restOf_25
      rw [f4 27 (by decide), p2, if_pos (nI_le (Nat.le_refl _) (by omega))]
      rfl
  have hq := lp_0 (step := fun t => g_X7_restOf_14 v t.1 t.2.1 t.2.2) (fun i t => t.1 = anR X Y v (((LA.take i).filter fA').length * Y.length) ∧ t.2.1 = nI i ∧ (∀ k, k ≠ 0 → t.2.2.1 k = μ1.1 k) ∧ (∀ p, p ≠ 28 → t.2.2.1 0 p = μ1.1 0 p) ∧ t.2.2.2 = μ1.2 ∧ t.2.2.1 0 28 = nI (((LA.take i).filter fA').length * Y.length))
    (fun r => r.1 = anR X Y v (X.length * Y.length) ∧ (∀ k, k ≠ 0 → r.2.1 k = μ1.1 k) ∧ (∀ p, p ≠ 28 → r.2.1 0 p = μ1.1 0 p) ∧ r.2.2 = μ1.2 ∧ r.2.1 0 28 = nI (X.length * Y.length)) LA.length ((-9 : Int32), (0 : Int32), stI μ1 0 28 0) (by omega) ⟨by
      show _ = anR X Y v (0 * Y.length)
      rw [Nat.zero_mul]
      unfold anR
      rw [if_neg (Nat.not_lt_zero _)]
      split <;> rfl, rfl, fun k hk => stI_k hk, fun p hp => by
        show (stI μ1 0 28 0).1 0 p = _
        rw [stI_s, upd_n hp], rfl, by
        show (stI μ1 0 28 0).1 0 28 = nI (0 * Y.length)
        rw [stI_s, upd_s, Nat.zero_mul]; rfl⟩ ?_ ?_
  · obtain ⟨r, r1, r2, r3, r4, r5, r6⟩ := hq
    obtain ⟨R1, R2, R3⟩ := stay r.2 r3 r4 r5
    exact ⟨r.2, by rw [r1, Option.bind_some, r2], R1, R2, r6⟩
  · rintro i ⟨x, y, ν⟩ hi ⟨f1, f2, f3, f4, f5, f6⟩
    dsimp only at f1 f2 f3 f4 f5 f6
    subst f1; subst f2
    obtain ⟨ν', t1, t2, t3, t4, t5⟩ := inner i hi ν f3 f4 f5 f6
    show ∃ s', g_X7_restOf_14 v _ (nI i) ν = some (.inl s') ∧ _
    unfold g_X7_restOf_14
    rw [f4 26 (by decide), p1, if_neg (nI_ge hi (by omega)), t1, Option.bind_some]
    exact ⟨_, rfl, rfl, nI_1 i, t2, t3, t4, t5⟩
  · rintro ⟨x, y, ν⟩ ⟨f1, f2, f3, f4, f5, f6⟩
    dsimp only at f1 f2 f3 f4 f5 f6
    subst f1; subst f2
    rw [List.take_length, hX] at f6 ⊢
    refine ⟨(_, ν), ?_, rfl, f3, f4, f5, f6⟩
    show g_X7_restOf_14 v _ (nI LA.length) ν = _
    unfold g_X7_restOf_14
    rw [f4 26 (by decide), p1, if_pos (nI_le (Nat.le_refl _) (by omega))]
    rfl
