/-! ASKED -/
def cz (z : Int32) : Nat := min 100 z.toInt.toNat
theorem cz_le (z : Int32) : cz z ≤ 100 := Nat.min_le_left _ _
theorem cz_nI {L : Nat} (h : L ≤ 100) : cz (nI L + 0) = L := by
  have e : nI L + 0 = nI L := nI_add L 0
  rw [e]
  unfold cz
  rw [nI_toInt (by omega)]
  omega
theorem cz_eq {z : Int32} (h0 : 0 ≤ z) (h1 : z ≤ 100) : z = nI (cz z) := by
  have a0 : (0 : Int) ≤ z.toInt := (fa_le _ _).mp h0
  have a1 : z.toInt ≤ 100 := (fa_le _ _).mp h1
  rw [fa_eq, nI_toInt (by have := cz_le z; omega)]
  unfold cz
  omega
theorem cz_S (z : Int32) : (if (0 : Int32) < (if z < (100 : Int32) then z else (100 : Int32)) then (if z < (100 : Int32) then z else (100 : Int32)) else (0 : Int32)) = nI (cz z) := by
  have e100 : (100 : Int32).toInt = 100 := rfl
  have e0 : (0 : Int32).toInt = 0 := rfl
  by_cases h1 : z < 100
  · rw [if_pos h1]
    by_cases h0 : 0 < z
    · rw [if_pos h0]; exact cz_eq (fa_of_lt h0).1 (fa_of_lt h1).1
    · rw [if_neg h0]
      have : cz z = 0 := by
        rw [fa_lt] at h0; unfold cz; omega
      rw [this]; rfl
  · rw [if_neg h1, if_pos (by decide)]
    have : cz z = 100 := by
      rw [fa_lt] at h1; unfold cz; omega
    rw [this]; rfl
theorem cz_M (z : Int32) : (0 ≤ z → ¬ z ≤ 100 → nI (cz z) = 100) ∧ (¬ 0 ≤ z → nI (cz z) = 0) := by
  have e100 : (100 : Int32).toInt = 100 := rfl
  have e0 : (0 : Int32).toInt = 0 := rfl
  constructor
  · intro h0 h1
    have : cz z = 100 := by rw [fa_le] at h0 h1; unfold cz; omega
    rw [this]; rfl
  · intro h0
    have : cz z = 0 := by rw [fa_le] at h0; unfold cz; omega
    rw [this]; rfl
def mL (c : Cr) (i : Nat) (d : Int32) : Mi := (cP c, cK c 0, cK c 3, cK c 4, fun k => if k = i then cz (nI (cL c (cS c i)) + d) else cL c (cS c k), fun k => if k = i then cz (nI (cM c (cS c i)) + d) else cM c (cS c k))
theorem okM_L {c : Cr} {i : Nat} {d : Int32} (hc : okC c) : okM (mL c i d) := by
  obtain ⟨h1, h2, h3, h4, h5⟩ := okM_of hc
  refine ⟨h1, h2, h3, h4, fun k hk => ?_⟩
  show (if k = i then cz (nI (cL c (cS c i)) + d) else cL c (cS c k)) ≤ 100 ∧ (if k = i then cz (nI (cM c (cS c i)) + d) else cM c (cS c k)) ≤ 100
  by_cases e : k = i
  · rw [if_pos e, if_pos e]; exact ⟨cz_le _, cz_le _⟩
  · rw [if_neg e, if_neg e]; exact h5 k hk
theorem mL_0 {c : Cr} {i : Nat} (hc : okC c) (hi : i < cP c) : mL c i 0 = mOf c := by
  have hs := hc.2.2.1 i hi
  obtain ⟨x1, x2⟩ := hc.2.2.2 _ hs
  have e1 : (fun k => if k = i then cz (nI (cL c (cS c i)) + 0) else cL c (cS c k)) = fun k => cL c (cS c k) := by
    funext k
    by_cases e : k = i
    · rw [if_pos e, cz_nI x1, e]
    · rw [if_neg e]
  have e2 : (fun k => if k = i then cz (nI (cM c (cS c i)) + 0) else cM c (cS c k)) = fun k => cM c (cS c k) := by
    funext k
    by_cases e : k = i
    · rw [if_pos e, cz_nI x2, e]
    · rw [if_neg e]
  unfold mL mOf
  rw [e1, e2]
theorem lean_S {s : St} {σ : MM} {i : Nat} (h : RelS s σ) (he : enough (sC s)) (hi : i < cP (sC s)) (d : Int32) : ∃ σ', f_X6_valueLeaning (nI i) d σ = some (lN (VV (mL (sC s) i d) (cK (sC s) 1 + cK (sC s) 2) (cK (sC s) 1) (cK (sC s) 2) 0 (full (sC s))), σ') ∧ RelS s σ' := by
  obtain ⟨⟨c0, a0, d0⟩, -⟩ := id h
  obtain ⟨σ1, s1, s2, s3, s4⟩ := take29 h
  obtain ⟨⟨-, a1, -⟩, -⟩ := id s2
  have hP := c0.1
  have hk := kb c0
  have hs := c0.2.2.1 i hi
  obtain ⟨e4, e5, e6, eL⟩ := s3
  have x4 : σ.1 4 i = nI (cS (sC s) i) := a0.2.2.1 i hi
  have x2 : σ1.1 2 (cS (sC s) i) = nI (cL (sC s) (cS (sC s) i)) := (a1.2.1 _ hs).1
  have x3 : σ1.1 3 (cS (sC s) i) = nI (cM (sC s) (cS (sC s) i)) := (a1.2.1 _ hs).2
  generalize hσ2 : stI (stI σ1 30 i (nI (cz (nI (cL (sC s) (cS (sC s) i)) + d)))) 31 i (nI (cz (nI (cM (sC s) (cS (sC s) i)) + d))) = σ2
  have hz : ∀ k, k ≠ 30 → k ≠ 31 → σ2.1 k = σ1.1 k := fun k h1 h2 => by rw [← hσ2, stI_k h2, stI_k h1]
  have r2 : RelS s σ2 := RelS_keep s2 (hz 0 (by decide) (by decide)) (fun k hk => hz k (fun e => by revert hk; rw [e]; decide) (fun e => by revert hk; rw [e]; decide)) (by rw [← hσ2]; rfl)
  have d2 : mdAt σ2 29 (mL (sC s) i d) := by
    refine ⟨by rw [hz 29 (by decide) (by decide)]; exact e4, by rw [hz 29 (by decide) (by decide)]; exact e5, by rw [hz 29 (by decide) (by decide)]; exact e6, fun q hq => ?_⟩
    have g1 : mF (mL (sC s) i d) q = if q = i then cz (nI (cL (sC s) (cS (sC s) i)) + d) else cL (sC s) (cS (sC s) q) := rfl
    have g2 : mG (mL (sC s) i d) q = if q = i then cz (nI (cM (sC s) (cS (sC s) i)) + d) else cM (sC s) (cS (sC s) q) := rfl
    rw [g1, g2, ← hσ2]
    show (stI (stI σ1 30 i _) 31 i _).1 30 q = _ ∧ (stI (stI σ1 30 i _) 31 i _).1 31 q = _
    rw [stI_k (by decide), stI_s, stI_s, stI_k (by decide)]
    by_cases e : q = i
    · rw [if_pos e, if_pos e, e, upd_s, upd_s]; exact ⟨rfl, rfl⟩
    · rw [if_neg e, if_neg e, upd_n e, upd_n e]; exact eL q hq
  obtain ⟨σ', w1, w2, w3, w4⟩ := with_S (q1 := 29) (sd := 0) (a := cK (sC s) 1) (b := cK (sC s) 2) r2 (Or.inr rfl) (okM_L (i := i) (d := d) c0) d2 rfl hk.2.1 hk.2.2.1 (by decide) he
  refine ⟨σ', ?_, w2⟩
  have w1' : f_X6_valueWith 29 (nI (cK (sC s) 1)) (nI (cK (sC s) 2)) 0 σ2 = some (lN (VV (mL (sC s) i d) (cK (sC s) 1 + cK (sC s) 2) (cK (sC s) 1) (cK (sC s) 2) 0 (full (sC s))), σ') := w1
  unfold f_X6_valueLeaning f_X6_heldLean f_X2_lean
  rw [chk_t (inb_nI (by omega) (by omega)), s1, Option.bind_some, nI_c (show i < 2147483648 by omega), x4, chk_t (inb_nI hs (by omega)), nI_c (by omega), x2, x3, Option.bind_some, chk_t (inb_nI hs (by omega)), Option.bind_some, chk_t (inb_nI (by omega) (by omega)), lm_eq, chk_t (inb_nI (by omega) (by omega)), lm_eq, cz_S, cz_S]
  show (some (stI (stI σ1 30 i _) 31 i _)).bind _ = _
  rw [hσ2, Option.bind_some, (str_S r2.1.2.1).1, Option.bind_some, (str_S r2.1.2.1).2, Option.bind_some, w1']; rfl
theorem turnsOf_Mg {c : Cr} {μ : MM} {m : Mi} (hc : okC c) (he : enough c) (hr : atR μ c) (hn : mN m = cK c 0) (ht : tbOK μ m (full c) (cK c 1) (cK c 2)) : f_X7_turnsOf μ = some (lN (VV m (cK c 1 + cK c 2) (cK c 1) (cK c 2) 0 (full c))) := by
  have hk := kb hc
  have hcn : cnt (full c) 12 = cK c 0 + cK c 1 + cK c 2 := full_cnt hc he
  have hix := idx_lt (a := cK c 1) (b := cK c 2) (sd := 0) (S := full c) hk.2.1 hk.2.2.1 (by decide) (full_2 hc he)
  unfold f_X7_turnsOf
  rw [chk_t ib_1_5, chk_t ib_2_5, tn_1, tn_2, cset_M hc hr, Option.bind_some, hr.2.2.2 1 (by decide), hr.2.2.2 2 (by decide), show (0 : Int32) = nI 0 from rfl, idx_M, Option.bind_some, chk_t (inb_nI hix (by omega)), nI_c (by omega), ht _ _ 0 _ (Nat.le_refl _) (Nat.le_refl _) (by decide) sub_rf (by rw [hcn, hn]; omega)]
theorem tw_M {s : St} {μ : MM} {i : Nat} (h' : RelM s μ) (he : enough (sC s)) (hi : i < cP (sC s)) (d : Int32) : ∃ μ', f_X7_turnsWith (nI i) d μ = some (lN (VV (mL (sC s) i d) (cK (sC s) 1 + cK (sC s) 2) (cK (sC s) 1) (cK (sC s) 2) 0 (full (sC s))), μ') ∧ RelM s μ' := by
  obtain ⟨μ1, m1, m2, m3⟩ := RelM_hold h'
  obtain ⟨⟨c0, b0⟩, -⟩ := id m2
  have hP := c0.1
  have hk := kb c0
  obtain ⟨d1, d2, d3, d4, dL⟩ := id m3
  have dL' : ∀ q, q < cP (sC s) → μ1.1 8 (2 * q) = nI (cL (sC s) (cS (sC s) q)) ∧ μ1.1 8 (2 * q + 1) = nI (cM (sC s) (cS (sC s) q)) := dL
  have hq := lp_0 (step := fun t => g_X7_turnsWith_8 (nI i) d t.1 t.2) (fun k t => t.1 = nI (2 * i + k) ∧ sx [8] μ1 t.2 ∧ (∀ q, q < k → t.2.1 8 (2 * i + q) = nI (cz (μ1.1 8 (2 * i + q) + d))) ∧ ∀ q, (q < 2 * i ∨ 2 * i + k ≤ q) → t.2.1 8 q = μ1.1 8 q)
    (fun r => sx [8] μ1 r ∧ (∀ q, q < 2 → r.1 8 (2 * i + q) = nI (cz (μ1.1 8 (2 * i + q) + d))) ∧ ∀ q, (q < 2 * i ∨ 2 * i + 2 ≤ q) → r.1 8 q = μ1.1 8 q) 2 (nI (2 * i), μ1) (by omega) ⟨rfl, sx_rf, fun q hq => by omega, fun _ _ => rfl⟩ ?_ ?_
  · obtain ⟨r, r1, r2, r3, r4⟩ := hq
    have hR : RelM s r := RelM_keep m2 (fun p _ => by rw [(r2 0 (by decide)).1]) (fun k hk => (r2 k (fun q => by revert hk; simp at q; rw [q]; decide)).1)
    have hd : hdAt r (mL (sC s) i d) := by
      refine ⟨by rw [(r2 0 (by decide)).1]; exact d1, by rw [(r2 4 (by decide)).1]; exact d2, by rw [(r2 4 (by decide)).1]; exact d3, by rw [(r2 4 (by decide)).1]; exact d4, fun q hq => ?_⟩
      have g1 : mF (mL (sC s) i d) q = if q = i then cz (nI (cL (sC s) (cS (sC s) i)) + d) else cL (sC s) (cS (sC s) q) := rfl
      have g2 : mG (mL (sC s) i d) q = if q = i then cz (nI (cM (sC s) (cS (sC s) i)) + d) else cM (sC s) (cS (sC s) q) := rfl
      rw [g1, g2]
      by_cases e : q = i
      · subst e
        have x0 := r3 0 (by omega)
        have x1 := r3 1 (by omega)
        rw [Nat.add_zero] at x0
        rw [if_pos rfl, if_pos rfl, x0, x1, (dL' q hq).1, (dL' q hq).2]
        exact ⟨rfl, rfl⟩
      · rw [if_neg e, if_neg e, r4 (2 * q) (by omega), r4 (2 * q + 1) (by omega)]
        exact dL' q hq
    obtain ⟨μ', n1, n2, n3⟩ := best_M (left := full (sC s)) (A := cK (sC s) 1) (B := cK (sC s) 2) (okM_L (i := i) (d := d) c0) hd (full_lt he) hk.2.1 hk.2.2.1
    have hR' := best_keep hR n2
    refine ⟨μ', ?_, hR'⟩
    have br := hR.1.2
    unfold f_X7_turnsWith
    rw [m1, Option.bind_some, two_mul, r1, Option.bind_some, cset_M c0 br, Option.bind_some, chk_t ib_1_5, chk_t ib_2_5, tn_1, tn_2, br.2.2.2 1 (by decide), br.2.2.2 2 (by decide), n1, Option.bind_some, turnsOf_Mg (m := mL (sC s) i d) c0 he hR'.1.2 rfl n3]; rfl
  · rintro k ⟨v, τ⟩ hk2 ⟨f1, f2, f3, f4⟩
    dsimp only at f1 f2 f3 f4
    subst f1
    have e8 : τ.1 8 (2 * i + k) = μ1.1 8 (2 * i + k) := f4 _ (by omega)
    have e2 : nI (2 * i) + 2 = nI (2 * i + 2) := nI_add (2 * i) 2
    have key : ∀ v : Int32, v = nI (cz (μ1.1 8 (2 * i + k) + d)) → ∃ s', some (Sum.inl (nI (2 * i + k) + 1, stI τ 8 (2 * i + k) v)) = some (Sum.inl s' : (Int32 × MM) ⊕ MM) ∧ s'.1 = nI (2 * i + (k + 1)) ∧ sx [8] μ1 s'.2 ∧ (∀ q, q < k + 1 → s'.2.1 8 (2 * i + q) = nI (cz (μ1.1 8 (2 * i + q) + d))) ∧ ∀ q, (q < 2 * i ∨ 2 * i + (k + 1) ≤ q) → s'.2.1 8 q = μ1.1 8 q := by
      intro v hv
      refine ⟨_, rfl, nI_1 _, sx_tr f2 (sx_I (by decide)), fun q hq => ?_, fun q hq => ?_⟩
      · show (stI τ 8 (2 * i + k) v).1 8 (2 * i + q) = _
        rw [stI_s]
        by_cases e : q = k
        · rw [e, upd_s, hv]
        · rw [upd_n (by omega)]; exact f3 q (by omega)
      · show (stI τ 8 (2 * i + k) v).1 8 q = _
        rw [stI_s, upd_n (by omega)]; exact f4 q (by omega)
    show ∃ s', g_X7_turnsWith_8 (nI i) d (nI (2 * i + k)) τ = some (.inl s') ∧ _
    unfold g_X7_turnsWith_8
    rw [two_mul, e2, if_neg (nI_ge (by omega) (by omega)), chk_t (inb_nI (by omega) (by omega)), nI_c (by omega), e8]
    by_cases h0 : 0 ≤ μ1.1 8 (2 * i + k) + d
    · rw [if_pos h0]
      by_cases h1 : μ1.1 8 (2 * i + k) + d ≤ 100
      · rw [if_pos h1, chk_t (inb_nI (by omega) (by omega)), lm_eq]
        exact key _ (cz_eq h0 h1)
      · rw [if_neg h1, chk_t (inb_nI (by omega) (by omega)), lm_eq]
        exact key _ ((cz_M _).1 h0 h1).symm
    · rw [if_neg h0, chk_t (inb_nI (by omega) (by omega)), lm_eq]
      exact key _ ((cz_M _).2 h0).symm
  · rintro ⟨v, τ⟩ ⟨f1, f2, f3, f4⟩
    dsimp only at f1 f2 f3 f4
    subst f1
    refine ⟨τ, ?_, f2, f3, f4⟩
    show g_X7_turnsWith_8 (nI i) d (nI (2 * i + 2)) τ = _
    unfold g_X7_turnsWith_8
    have e2 : nI (2 * i) + 2 = nI (2 * i + 2) := nI_add (2 * i) 2
    rw [two_mul, e2, if_pos (nI_le (Nat.le_refl _) (by omega))]
theorem al_asked {s : St} {σ μ : MM} (h : RelS s σ) (h' : RelM s μ) (v1 v2 : Int32) : Alike (f_X6_asked v1 v2 σ) (f_X7_asked v1 v2 μ) := by
  obtain ⟨⟨c0, a0, d0⟩, -⟩ := id h
  obtain ⟨⟨-, b0⟩, -⟩ := id h'
  have hcp := call_pos c0
  have hP := c0.1
  unfold f_X6_asked f_X7_asked
  rw [a0.1, b0.1]
  by_cases h1 : v1 < 0
  · refine alike_no 1 (by decide) h h' (r := rfL (-1)) ?_ ?_
    · rw [if_pos h1, rl1]; rfl
    · rw [isIn_n (Or.inl h1), Option.bind_some, if_pos z00, ml1]; rfl
  rw [if_neg h1]
  by_cases h2 : v1 < nI (cP (sC s))
  · obtain ⟨i, hi, rfl⟩ := ix (cP (sC s)) (by omega) h1 (fun q => nle.mp q h2)
    have g1 : ¬ nI (cP (sC s)) - 1 < nI i := by rw [nI_sub1 (by omega)]; exact nI_nlt (by omega) (by omega)
    rw [if_pos h2, isIn_y h1 g1, Option.bind_some, if_neg n10]
    by_cases h3 : 0 ≤ v2
    · rw [if_pos h3]
      by_cases h4 : v2 ≤ 50
      · rw [if_pos h4, out_0 h3 h4, Option.bind_some, if_pos z00]
        rcases enough_dec (sC s) with he | he
        · rw [(called_S c0 a0).1 he, Option.bind_some, (enough_M c0 b0).1 he, Option.bind_some, if_neg n10, many_M b0, Option.bind_some]
          have he' : call (sC s) ≤ cP (sC s) := he
          by_cases h5 : nI i < nI (call (sC s))
          · rw [if_pos h5, if_pos h5]
            obtain ⟨σ1, s1, r1⟩ := lean_S (i := i) h he hi v2
            obtain ⟨σ2, s2, r2⟩ := lean_S (i := i) r1 he hi (-v2)
            obtain ⟨σ3, s3, r3, -⟩ := vbt_S r2 he
            obtain ⟨μ1, t1, q1⟩ := tw_M (i := i) h' he hi v2
            obtain ⟨μ2, t2, q2⟩ := tw_M (i := i) q1 he hi (-v2)
            obtain ⟨μ3, t3, q3⟩ := tw_M (i := i) q2 he hi 0
            rw [mL_0 c0 hi] at t3
            refine ⟨(lN (VV (mL (sC s) i v2) (cK (sC s) 1 + cK (sC s) 2) (cK (sC s) 1) (cK (sC s) 2) 0 (full (sC s))) + lN (VV (mL (sC s) i (-v2)) (cK (sC s) 1 + cK (sC s) 2) (cK (sC s) 1) (cK (sC s) 2) 0 (full (sC s)))) - 2 * lN (VV (mOf (sC s)) (cK (sC s) 1 + cK (sC s) 2) (cK (sC s) 1) (cK (sC s) 2) 0 (full (sC s))), s, σ3, μ3, ?_, ?_, r3, q3⟩
            · rw [s1, Option.bind_some, uc_eq, s2, Option.bind_some, uc_eq, s3]; rfl
            · rw [Option.bind_some, if_pos z00, t1, Option.bind_some, uc_eq, t2, Option.bind_some, uc_eq, t3]; rfl
          · rw [if_neg h5, if_neg h5]
            refine alike_no 3 (by decide) h h' (r := rfL (-3)) ?_ ?_
            · rw [rl3]; rfl
            · rw [Option.bind_some, if_neg nm3, ml3]; rfl
        · refine alike_no 3 (by decide) h h' (r := rfL (-3)) ?_ ?_
          · rw [(called_S c0 a0).2 he, Option.bind_some, if_neg h1, rl3]; rfl
          · rw [(enough_M c0 b0).2 he, Option.bind_some, if_pos z00, Option.bind_some, if_neg nm3, ml3]; rfl
      · refine alike_no 6 (by decide) h h' (r := rfL (-6)) ?_ ?_
        · rw [if_neg h4, rl6]; rfl
        · rw [out_r h3 h4, Option.bind_some, if_neg nm6, Option.bind_some, if_neg nm6, ml6]; rfl
    · refine alike_no 4 (by decide) h h' (r := rfL (-4)) ?_ ?_
      · rw [if_neg h3, rl4]; rfl
      · rw [out_b h3, Option.bind_some, if_neg nm4, Option.bind_some, if_neg nm4, ml4]; rfl
  · refine alike_no 1 (by decide) h h' (r := rfL (-1)) ?_ ?_
    · rw [if_neg h2, rl1]; rfl
    · have g1 : nI (cP (sC s)) - 1 < v1 := by
        have e1 := nI_toInt (n := cP (sC s)) (by omega)
        have e2 : (1 : Int32).toInt = 1 := rfl
        rw [fa_lt, e1] at h2
        rw [fa_lt, fb_subI (by rw [e1, e2]; omega) (by rw [e1, e2]; omega), e1, e2]
        omega
      rw [isIn_n (Or.inr g1), Option.bind_some, if_pos z00, ml1]; rfl
