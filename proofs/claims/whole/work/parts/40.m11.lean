/-! feed -/
theorem sm8 : ∀ k, k < 8 → ((((8 : Int32) * nI k).toInt64 &&& 63).toBitVec.smod 64).toNat = 8 * k := by decide
theorem su8 : ∀ k, k < 8 → ((((8 : Int32) * nI k).toInt64.toUInt64 &&& Int64.toUInt64 63).toBitVec % 64).toNat = 8 * k := by decide
def byN (w : Int64) (k : Nat) : Nat := ((w.toBitVec >>> (8 * k)).setWidth 8).toNat
theorem byN_lt (w : Int64) (k : Nat) : byN w k < 256 := ((w.toBitVec >>> (8 * k)).setWidth 8).isLt
theorem byN_b (w : Int64) (k i : Nat) : (byN w k).testBit i = (decide (i < 8) && w.toBitVec.getLsbD (8 * k + i)) := by
  unfold byN
  rw [BitVec.testBit_toNat, BitVec.getLsbD_setWidth, BitVec.getLsbD_ushiftRight]
theorem by_M (w : Int64) {k : Nat} (hk : k < 8) : ((w >>> (((8 : Int32) * nI k).toInt64 &&& 63)) &&& (255 : Int64)).toInt32 = nI (byN w k) := by
  apply Int32.toBitVec_inj.mp
  have e1 : (w >>> (((8 : Int32) * nI k).toInt64 &&& 63)).toBitVec = w.toBitVec.sshiftRight (8 * k) := by
    show w.toBitVec.sshiftRight' ((((8 : Int32) * nI k).toInt64 &&& 63).toBitVec.smod 64) = _
    unfold BitVec.sshiftRight'
    rw [sm8 k hk]
  rw [Int64.toBitVec_toInt32, Int64.toBitVec_and, e1, nI_bv]
  apply BitVec.eq_of_getLsbD_eq
  intro i hi
  have e2 : (255 : Int64).toBitVec.getLsbD i = decide (i < 8) := by
    have : ∀ i, i < 32 → (255 : Int64).toBitVec.getLsbD i = decide (i < 8) := by decide
    exact this i hi
  rw [BitVec.getLsbD_signExtend, BitVec.getLsbD_ofNat, byN_b]
  simp only [hi, decide_true, Bool.true_and, show i < 64 by omega, if_true]
  rw [BitVec.getLsbD_and, e2, BitVec.getLsbD_sshiftRight]
  by_cases h8 : i < 8
  · have h3 : 8 * k + i < 64 := by omega
    simp [h8, h3, show ¬ 64 ≤ i by omega]
  · simp [h8]
theorem by_S (w : Int64) {k : Nat} (hk : k < 8) : vp_nar .byte ((((w.toUInt64 >>> (((8 : Int32) * nI k).toInt64.toUInt64 &&& Int64.toUInt64 63)).toInt64).toInt32).toInt8.toInt32) = sb_b (byN w k) := by
  rw [pk_vb]
  unfold sb_b
  congr 1
  apply Int8.toBitVec_inj.mp
  have e1 : (w.toUInt64 >>> (((8 : Int32) * nI k).toInt64.toUInt64 &&& Int64.toUInt64 63)).toBitVec = w.toBitVec >>> (8 * k) := by
    show w.toBitVec >>> ((((8 : Int32) * nI k).toInt64.toUInt64 &&& Int64.toUInt64 63).toBitVec % 64).toNat = _
    rw [su8 k hk]
  rw [Int32.toBitVec_toInt8, Int32.toBitVec_toInt8, Int64.toBitVec_toInt32, UInt64.toBitVec_toInt64, e1, nI_bv]
  apply BitVec.eq_of_getLsbD_eq
  intro i hi
  rw [BitVec.getLsbD_signExtend, BitVec.getLsbD_signExtend, BitVec.getLsbD_signExtend, BitVec.getLsbD_ofNat, byN_b, BitVec.getLsbD_ushiftRight]
  simp [hi, show i < 32 by omega, show i < 64 by omega]
def fedX (x : Nat × (Nat → Nat)) (w : Int64) (n : Nat) : Nat × (Nat → Nat) := (x.1 + n, fun i => if i < x.1 then x.2 i else byN w (i - x.1))
theorem append_S {x : Nat × (Nat → Nat)} {σ : MM} {w : Int64} {n : Nat} (hn : n ≤ 8) (hx : txtS σ x) (hl : x.1 + n ≤ 80) : ∃ σ', f_X4_append (nI n) w σ = some σ' ∧ txtS σ' (fedX x w n) ∧ (∀ k, k ≠ 11 → k ≠ 12 → σ'.1 k = σ.1 k) ∧ σ'.2 = σ.2 := by
  unfold f_X4_append
  have h := lp_0 (step := fun s => g_X4_append_3 (nI n) w s.1 s.2) (fun i s => s.1 = nI i ∧ txtS s.2 (fedX x w i) ∧ (∀ k, k ≠ 11 → k ≠ 12 → s.2.1 k = σ.1 k) ∧ s.2.2 = σ.2) (fun r => txtS r (fedX x w n) ∧ (∀ k, k ≠ 11 → k ≠ 12 → r.1 k = σ.1 k) ∧ r.2 = σ.2) n ((0 : Int32), σ) (by omega) ⟨rfl, ⟨hx.1, hx.2.1, fun i hi => ?_⟩, fun _ _ _ => rfl, rfl⟩ ?_ ?_
  · obtain ⟨r, h1, h2⟩ := h
    exact ⟨r, by rw [h1]; rfl, h2⟩
  · have hi' : i < x.1 := hi
    show (if i < x.1 then x.2 i else _) < 256 ∧ _ = sb_b (if i < x.1 then x.2 i else _)
    rw [if_pos hi']; exact hx.2.2 i hi'
  · rintro i ⟨v, τ⟩ hi ⟨e1, e2, e3, e4⟩
    dsimp only at e1 e2 e3 e4
    subst e1
    obtain ⟨f1, f2, f3⟩ := e2
    have f2' : τ.1 11 2 = nI (x.1 + i) := f2
    show ∃ s', g_X4_append_3 (nI n) w (nI i) τ = some (.inl s') ∧ _
    unfold g_X4_append_3
    have c1 : ¬ (80 : Int32) ≤ nI (x.1 + i) := nI_ge (b := 80) (by omega) (by omega)
    rw [if_neg (nI_ge hi (by omega)), f2', if_neg c1, chk_t (inb_nI (by omega) (by omega)), lm_eq, lm_eq, nI_c (by omega), stI_k (show 11 ≠ 12 by decide), f2', by_S w (by omega)]
    refine ⟨_, rfl, nI_1 i, ⟨show x.1 + (i + 1) ≤ 80 by omega, ?_, fun j hj => ?_⟩, fun k h1 h2 => ?_, e4⟩
    · show (stI (stI τ 12 _ _) 11 2 _).1 11 2 = _
      rw [stI_s, upd_s]; exact nI_1 _
    · have hj' : j < x.1 + (i + 1) := hj
      show (if j < x.1 then x.2 j else byN w (j - x.1)) < 256 ∧ (stI (stI τ 12 (x.1 + i) (sb_b (byN w i))) 11 2 _).1 12 j = sb_b (if j < x.1 then x.2 j else byN w (j - x.1))
      rw [stI_k (show 12 ≠ 11 by decide), stI_s]
      by_cases ej : j = x.1 + i
      · rw [ej, upd_s, if_neg (by omega), show x.1 + i - x.1 = i by omega]
        exact ⟨byN_lt _ _, rfl⟩
      · rw [upd_n ej]; exact f3 j (show j < x.1 + i by omega)
    · show (stI (stI τ 12 _ _) 11 2 _).1 k = _
      rw [stI_k h1, stI_k h2]; exact e3 k h1 h2
  · rintro ⟨v, τ⟩ ⟨e1, e2, e3, e4⟩
    dsimp only at e1 e2 e3 e4
    subst e1
    refine ⟨τ, ?_, e2, e3, e4⟩
    show g_X4_append_3 (nI n) w (nI n) τ = _
    unfold g_X4_append_3
    rw [if_pos (nI_le (Nat.le_refl _) (by omega))]
theorem feed_M {x : Nat × (Nat → Nat)} {μ : MM} {w : Int64} {n : Nat} (hn : n ≤ 8) (hx : txtM μ x) (hl : x.1 + n ≤ 80) : ∃ μ', loopN (fun s => g_X7_feed_44 (nI n) w s.1 s.2) FU ((0 : Int32), μ) = some μ' ∧ txtM μ' (fedX x w n) ∧ (∀ k, k ≠ 0 → k ≠ 7 → μ'.1 k = μ.1 k) ∧ ∀ p, p ≠ 8 → μ'.1 0 p = μ.1 0 p := by
  refine lp_0 (fun i s => s.1 = nI i ∧ txtM s.2 (fedX x w i) ∧ (∀ k, k ≠ 0 → k ≠ 7 → s.2.1 k = μ.1 k) ∧ ∀ p, p ≠ 8 → s.2.1 0 p = μ.1 0 p) _ n _ (by omega) ⟨rfl, ⟨hx.1, hx.2.1, fun i hi => ?_⟩, fun _ _ _ => rfl, fun _ _ => rfl⟩ ?_ ?_
  · have hi' : i < x.1 := hi
    show (if i < x.1 then x.2 i else _) < 256 ∧ _ = nI (if i < x.1 then x.2 i else _)
    rw [if_pos hi']; exact hx.2.2 i hi'
  · rintro i ⟨v, τ⟩ hi ⟨e1, e2, e3, e4⟩
    dsimp only at e1 e2 e3 e4
    subst e1
    obtain ⟨f1, f2, f3⟩ := e2
    have f2' : τ.1 0 8 = nI (x.1 + i) := f2
    show ∃ s', g_X7_feed_44 (nI n) w (nI i) τ = some (.inl s') ∧ _
    unfold g_X7_feed_44
    rw [if_neg (nI_ge hi (by omega)), f2', chk_t (inb_nI (by omega) (by omega)), lm_eq, lm_eq, nI_c (by omega), stI_k (show 0 ≠ 7 by decide), f2', by_M w (by omega)]
    refine ⟨_, rfl, nI_1 i, ⟨show x.1 + (i + 1) ≤ 80 by omega, ?_, fun j hj => ?_⟩, fun k h1 h2 => ?_, fun p hp => ?_⟩
    · show (stI (stI τ 7 _ _) 0 8 _).1 0 8 = _
      rw [stI_s, upd_s]; exact nI_1 _
    · have hj' : j < x.1 + (i + 1) := hj
      show (if j < x.1 then x.2 j else byN w (j - x.1)) < 256 ∧ (stI (stI τ 7 (x.1 + i) (nI (byN w i))) 0 8 _).1 7 j = nI (if j < x.1 then x.2 j else byN w (j - x.1))
      rw [stI_k (show 7 ≠ 0 by decide), stI_s]
      by_cases ej : j = x.1 + i
      · rw [ej, upd_s, if_neg (by omega), show x.1 + i - x.1 = i by omega]
        exact ⟨byN_lt _ _, rfl⟩
      · rw [upd_n ej]; exact f3 j (show j < x.1 + i by omega)
    · show (stI (stI τ 7 _ _) 0 8 _).1 k = _
      rw [stI_k h1, stI_k h2]; exact e3 k h1 h2
    · show (stI (stI τ 7 _ _) 0 8 _).1 0 p = _
      rw [stI_s, upd_n hp, stI_k (show 0 ≠ 7 by decide)]; exact e4 p hp
  · rintro ⟨v, τ⟩ ⟨e1, e2, e3, e4⟩
    dsimp only at e1 e2 e3 e4
    subst e1
    refine ⟨τ, ?_, e2, e3, e4⟩
    show g_X7_feed_44 (nI n) w (nI n) τ = _
    unfold g_X7_feed_44
    rw [if_pos (nI_le (Nat.le_refl _) (by omega))]
theorem al_feed {s : St} {σ μ : MM} (h : RelS s σ) (h' : RelM s μ) (v1 : Int32) (w : Int64) : Alike (f_X6_feed v1 w σ) (f_X7_feed v1 w μ) := by
  unfold f_X6_feed f_X7_feed
  obtain ⟨c0, r1, r2, r3, r4, r5, r6, r7⟩ := id h
  obtain ⟨b0, q1, q2, q3, q4, q5⟩ := id h'
  by_cases h1 : (1 : Int32) ≤ v1
  · by_cases h2 : (8 : Int32) < v1
    · refine alike_no 6 (by decide) h h' (r := -6) ?_ ?_
      · rw [if_pos h1, if_pos h2, rf6]; rfl
      · rw [out_r h1 (fun q => nle.mp q h2), Option.bind_some, if_neg nm6, Option.bind_some, if_neg nm6, rm6]; rfl
    · have h0 : ¬ v1 < 0 := fun q => by
        rw [fa_le] at h1; rw [fa_lt] at q
        have e1 : (1 : Int32).toInt = 1 := rfl
        have e0 : (0 : Int32).toInt = 0 := rfl
        omega
      obtain ⟨n, hn, rfl⟩ := ix2 (x := v1) 8 (by omega) h0 h2
      have hx := r2.1
      have c8 : nI n ≤ (8 : Int32) := nI_le (b := 8) hn (by omega)
      by_cases h3 : (sX s).1 + n ≤ 80
      · have c3 : nI ((sX s).1 + n) ≤ (80 : Int32) := nI_le (b := 80) h3 (by omega)
        obtain ⟨σ', s1, s2, s3, s4⟩ := append_S (w := w) hn r2 h3
        obtain ⟨μ', m1, m2, m3, m4⟩ := feed_M (w := w) hn q2 h3
        refine ⟨nI ((sX s).1 + n), (sC s, sR s, fedX (sX s) w n, sI s, sF s), σ', μ', ?_, ?_, ?_, ?_⟩
        · rw [if_pos h1, if_neg h2, r2.2.1, nI_add, if_pos c3, s1, Option.bind_some, s2.2.1]; rfl
        · rw [out_0 h1 c8, Option.bind_some, if_pos z00, q2.2.1, nI_add, if_pos c3, Option.bind_some, if_pos z00, m1, Option.bind_some, m2.2.1]; rfl
        · have hs3 : ∀ k, k ∈ [0, 1, 2, 3, 4, 5, 6, 7, 8, 9, 10, 14, 15, 16, 17, 18, 42, 50, 51, 52, 55] → σ'.1 k = σ.1 k := fun k hk => s3 k (fun e => by rw [e] at hk; revert hk; decide) (fun e => by rw [e] at hk; revert hk; decide)
          refine ⟨?_, ?_, s2, ?_, ?_, ?_, ?_, ?_⟩
          · unfold atS mdAt at c0 ⊢
            simp only [Nat.reduceAdd] at c0 ⊢
            rw [hs3 1 (by decide), hs3 2 (by decide), hs3 3 (by decide), hs3 4 (by decide), hs3 5 (by decide), hs3 16 (by decide), hs3 17 (by decide), hs3 18 (by decide)]; exact c0
          · unfold rowS at r1 ⊢; rw [hs3 0 (by decide), hs3 14 (by decide)]; exact r1
          · unfold refS at r3 ⊢; rw [hs3 15 (by decide)]; exact r3
          · unfold imgS atS at r4 ⊢
            simp only [Nat.reduceAdd] at r4 ⊢
            rw [hs3 0 (by decide), hs3 6 (by decide), hs3 7 (by decide), hs3 8 (by decide), hs3 9 (by decide), hs3 10 (by decide)]; exact r4
          · unfold kn tnC tnOK at r5 ⊢; rw [hs3 0 (by decide), hs3 42 (by decide), s4]; exact r5
          · unfold kn ppC at r6 ⊢; rw [hs3 0 (by decide), hs3 50 (by decide), hs3 51 (by decide), hs3 52 (by decide)]; exact r6
          · unfold kn cmC tnC tnOK at r7 ⊢; rw [hs3 0 (by decide), hs3 42 (by decide), hs3 55 (by decide), s4]; exact r7
        · refine ⟨?_, ?_, m2, ?_, ?_, ?_⟩
          · unfold atR at b0 ⊢; rw [m4 6 (by decide), m3 2 (by decide) (by decide), m3 3 (by decide) (by decide), m3 4 (by decide) (by decide)]; exact b0
          · unfold rowM at q1 ⊢; rw [m4 19 (by decide), m3 14 (by decide) (by decide)]; exact q1
          · unfold refM at q3 ⊢; rw [m3 1 (by decide) (by decide)]; exact q3
          · unfold imgM atK at q4 ⊢; rw [m4 34 (by decide), m4 35 (by decide), m3 20 (by decide) (by decide)]; exact q4
          · rw [m3 5 (by decide) (by decide), m3 6 (by decide) (by decide)]; exact q5
      · have c3 : ¬ nI ((sX s).1 + n) ≤ (80 : Int32) := nI_ge (a := 80) (by omega) (by omega)
        refine alike_no 6 (by decide) h h' (r := -6) ?_ ?_
        · rw [if_pos h1, if_neg h2, r2.2.1, nI_add, if_neg c3, rf6]; rfl
        · rw [out_0 h1 c8, Option.bind_some, if_pos z00, q2.2.1, nI_add, if_neg c3, Option.bind_some, if_neg nm6, rm6]; rfl
  · refine alike_no 4 (by decide) h h' (r := -4) ?_ ?_
    · rw [if_neg h1, rf4]; rfl
    · rw [out_b h1, Option.bind_some, if_neg nm4, Option.bind_some, if_neg nm4, rm4]; rfl
/-! image and restore -/
theorem cpy0 {f g : Nat → Int32} {n j : Nat} (h : j < n) : va_cpy f g 0 0 n j = f j := by
  unfold va_cpy
  rw [if_pos (by omega), show 0 + (j - 0) = j by omega]
theorem copy_S {b q : Nat} {c : Cr} {σ : MM} (hd : b + 4 < q ∨ q + 4 < b) (hc : okC c) (ha : atS σ q c) : ∃ σ', f_X0_copy b q σ = some σ' ∧ atS σ' b c ∧ (∀ k, k < b ∨ b + 4 < k → σ'.1 k = σ.1 k) ∧ σ'.2 = σ.2 := by
  unfold f_X0_copy
  rw [lm_eq, lm_eq, lm_eq, lm_eq, lm_eq, tn_0, tn_6, tn_12, show (5 : Int32).toNatClampNeg = 5 from rfl]
  obtain ⟨a1, a2, a3, a4⟩ := ha
  obtain ⟨c1, c2, c3, c4⟩ := hc
  refine ⟨_, rfl, ⟨?_, fun i hi => ?_, fun i hi => ?_, fun i hi => ?_⟩, fun k hk => ?_, rfl⟩
  · rw [stI_s, upd_s, stC_k (by omega), stC_k (by omega), stC_k (by omega), stC_k (by omega)]; exact a1
  · rw [stI_k (by omega), stC_k (by omega), stC_k (by omega), stC_k (by omega), stC_s, cpy0 hi, stI_k (by omega), stC_k (by omega), stC_k (by omega), stC_s, cpy0 hi, stC_k (by omega)]
    exact a2 i hi
  · rw [stI_k (by omega), stC_k (by omega), stC_s, cpy0 (by omega), stC_k (by omega), stC_k (by omega)]
    exact a3 i hi
  · rw [stI_k (by omega), stC_s, cpy0 hi, stC_k (by omega), stC_k (by omega), stC_k (by omega)]
    exact a4 i hi
  · rw [stI_k (by omega), stC_k (by omega), stC_k (by omega), stC_k (by omega), stC_k (by omega)]
theorem i12 {i : Nat} : (12 : Int32) + nI i = nI (12 + i) := nI_add 12 i
theorem i24 {i : Nat} : (24 : Int32) + nI i = nI (24 + i) := nI_add 24 i
theorem image_M {c : Cr} {μ : MM} (hc : okC c) (hr : atR μ c) : ∃ μ', f_X7_image μ = some (nI (cP c), μ') ∧ atK μ' c ∧ (∀ k, k ≠ 0 → k ≠ 20 → μ'.1 k = μ.1 k) ∧ (∀ p, p ≠ 34 → p ≠ 35 → μ'.1 0 p = μ.1 0 p) ∧ μ'.1 0 34 = 1 := by
  obtain ⟨r1, r2, r3, r4⟩ := hr
  obtain ⟨c1, c2, c3, c4⟩ := hc
  unfold f_X7_image
  obtain ⟨τ, t1, t2, t3⟩ := lp_0 (step := fun s => g_X7_image_2 s.1 s.2) (fun i s => s.1 = nI i ∧ (∀ k, k ≠ 20 → s.2.1 k = μ.1 k) ∧ ∀ j, j < i → s.2.1 20 j = μ.1 2 j ∧ s.2.1 20 (12 + j) = μ.1 3 j) (fun r => (∀ k, k ≠ 20 → r.1 k = μ.1 k) ∧ ∀ j, j < 12 → r.1 20 j = μ.1 2 j ∧ r.1 20 (12 + j) = μ.1 3 j) 12 ((0 : Int32), μ) (by omega) ⟨rfl, fun _ _ => rfl, fun j hj => by omega⟩ (by
    rintro i ⟨v, τ⟩ hi ⟨e1, e2, e3⟩
    dsimp only at e1 e2 e3
    subst e1
    show ∃ s', g_X7_image_2 (nI i) τ = some (.inl s') ∧ _
    unfold g_X7_image_2
    have k1 : ¬ (12 : Int32) ≤ nI i := nI_ge (b := 12) hi (by omega)
    rw [if_neg k1, chk_t (inb_nI (by omega) (by omega)), chk_t (inb_nI (by omega) (by omega)), lm_eq, chk_t (inb_nI (by omega) (by omega)), i12, chk_t (inb_nI (by omega) (by omega)), lm_eq, nI_c (by omega), nI_c (by omega), stI_k (show 3 ≠ 20 by decide), e2 2 (by decide), e2 3 (by decide)]
    refine ⟨_, rfl, nI_1 i, fun k hk => ?_, fun j hj => ?_⟩
    · show (stI (stI τ 20 _ _) 20 _ _).1 k = _
      rw [stI_k hk, stI_k hk]; exact e2 k hk
    · show (stI (stI τ 20 i (μ.1 2 i)) 20 (12 + i) (μ.1 3 i)).1 20 j = _ ∧ (stI (stI τ 20 i (μ.1 2 i)) 20 (12 + i) (μ.1 3 i)).1 20 (12 + j) = _
      rw [stI_s, stI_s]
      by_cases e : j = i
      · rw [e, upd_n (by omega), upd_s, upd_s]; exact ⟨rfl, rfl⟩
      · rw [upd_n (by omega), upd_n (by omega), upd_n (by omega), upd_n (by omega)]; exact e3 j (by omega)) (by
    rintro ⟨v, τ⟩ ⟨e1, e2, e3⟩
    dsimp only at e1 e2 e3
    subst e1
    exact ⟨τ, rfl, e2, e3⟩)
  rw [t1, Option.bind_some]
  obtain ⟨υ, u1, u2, u3, u4⟩ := lp_0 (step := fun s => g_X7_image_43 s.1 s.2) (fun i s => s.1 = nI i ∧ (∀ k, k ≠ 20 → s.2.1 k = μ.1 k) ∧ (∀ j, j < i → s.2.1 20 (24 + j) = μ.1 4 j) ∧ ∀ j, j < 24 → s.2.1 20 j = τ.1 20 j) (fun r => (∀ k, k ≠ 20 → r.1 k = μ.1 k) ∧ (∀ j, j < 5 → r.1 20 (24 + j) = μ.1 4 j) ∧ ∀ j, j < 24 → r.1 20 j = τ.1 20 j) 5 ((0 : Int32), τ) (by omega) ⟨rfl, t2, fun j hj => by omega, fun _ _ => rfl⟩ (by
    rintro i ⟨v, τ'⟩ hi ⟨e1, e2, e3, e4⟩
    dsimp only at e1 e2 e3 e4
    subst e1
    show ∃ s', g_X7_image_43 (nI i) τ' = some (.inl s') ∧ _
    unfold g_X7_image_43
    have k1 : ¬ (5 : Int32) ≤ nI i := nI_ge (b := 5) hi (by omega)
    rw [if_neg k1, chk_t (inb_nI (by omega) (by omega)), i24, chk_t (inb_nI (by omega) (by omega)), lm_eq, nI_c (by omega), nI_c (by omega), e2 4 (by decide)]
    refine ⟨_, rfl, nI_1 i, fun k hk => ?_, fun j hj => ?_, fun j hj => ?_⟩
    · show (stI τ' 20 _ _).1 k = _
      rw [stI_k hk]; exact e2 k hk
    · show (stI τ' 20 (24 + i) (μ.1 4 i)).1 20 (24 + j) = _
      rw [stI_s]
      by_cases e : j = i
      · rw [e, upd_s]
      · rw [upd_n (by omega)]; exact e3 j (by omega)
    · show (stI τ' 20 (24 + i) (μ.1 4 i)).1 20 j = _
      rw [stI_s, upd_n (by omega)]; exact e4 j hj) (by
    rintro ⟨v, τ'⟩ ⟨e1, e2, e3, e4⟩
    dsimp only at e1 e2 e3 e4
    subst e1
    exact ⟨τ', rfl, e2, e3, e4⟩)
  rw [u1, Option.bind_some, lm_eq, chk_t isB_1, lm_eq]
  have hz : ∀ k, k ≠ 0 → (stI (stI υ 0 35 (υ.1 0 6)) 0 34 1).1 k = υ.1 k := fun k hk => by rw [stI_k hk, stI_k hk]
  have hp : ∀ p, p ≠ 34 → p ≠ 35 → (stI (stI υ 0 35 (υ.1 0 6)) 0 34 1).1 0 p = μ.1 0 p := fun p h1 h2 => by rw [stI_s, upd_n h1, stI_s, upd_n h2, u2 0 (by decide)]
  refine ⟨_, by rw [hp 6 (by decide) (by decide), r1], ⟨?_, fun i hi => ?_, fun i hi => ?_, fun i hi => ?_⟩, fun k h1 h2 => by rw [hz k h1]; exact u2 k h2, hp, by rw [stI_s, upd_s]⟩
  · rw [stI_s, upd_n (by decide), stI_s, upd_s, u2 0 (by decide)]; exact r1
  · rw [hz 20 (by decide), u4 _ (by omega), u4 _ (by omega), (t3 _ (by omega)).1, (t3 _ (by omega)).1]; exact r2 i hi
  · rw [hz 20 (by decide), u4 _ (by omega), (t3 _ (by omega)).2]; exact r3 i hi
  · rw [hz 20 (by decide), u3 i hi]; exact r4 i hi
theorem al_image {s : St} {σ μ : MM} (h : RelS s σ) (h' : RelM s μ) : Alike (f_X6_image σ) (f_X7_image μ) := by
  obtain ⟨⟨c0, a0, d0⟩, r1, r2, r3, r4, r5, r6, r7⟩ := id h
  obtain ⟨⟨-, b0⟩, q1, q2, q3, q4, q5⟩ := id h'
  obtain ⟨σ1, s1, s2, s3, s4⟩ := copy_S (b := 6) (q := 1) (by omega) c0 a0
  obtain ⟨μ', m1, m2, m3, m4, m5⟩ := image_M c0 b0
  refine ⟨nI (cP (sC s)), (sC s, sR s, sX s, (1, sC s), sF s), stI σ1 0 2 1, μ', ?_, m1, ?_, ?_⟩
  · unfold f_X6_image
    rw [s1, Option.bind_some, chk_t isB_1, lm_eq, stI_k (show 1 ≠ 0 by decide), s3 1 (by omega), a0.1]
  · have hz : ∀ k, k ≠ 0 → k < 6 ∨ 10 < k → (stI σ1 0 2 1).1 k = σ.1 k := fun k h1 h2 => by rw [stI_k h1]; exact s3 k (by omega)
    have hp : ∀ p, p ≠ 2 → (stI σ1 0 2 1).1 0 p = σ.1 0 p := fun p hp => by rw [stI_s, upd_n hp, s3 0 (by omega)]
    refine ⟨⟨c0, ?_, ?_⟩, ?_, ?_, ?_, Or.inr ⟨rfl, ?_, c0, ?_⟩, ?_, ?_, ?_⟩
    · unfold atS at a0 ⊢; rw [hz 1 (by decide) (by omega), hz (1 + 1) (by decide) (by omega), hz (1 + 2) (by decide) (by omega), hz (1 + 3) (by decide) (by omega), hz (1 + 4) (by decide) (by omega)]; exact a0
    · unfold mdAt at d0 ⊢; rw [hz 16 (by decide) (by omega), hz (16 + 1) (by decide) (by omega), hz (16 + 2) (by decide) (by omega)]; exact d0
    · unfold rowS at r1 ⊢; rw [hp 5 (by decide), hz 14 (by decide) (by omega)]; exact r1
    · unfold txtS at r2 ⊢; rw [hz 11 (by decide) (by omega), hz 12 (by decide) (by omega)]; exact r2
    · unfold refS at r3 ⊢; rw [hz 15 (by decide) (by omega)]; exact r3
    · rw [stI_s, upd_s]
    · unfold atS at s2 ⊢; rw [stI_k (by decide), stI_k (by decide), stI_k (by decide), stI_k (by decide), stI_k (by decide)]; exact s2
    · unfold kn tnC tnOK at r5 ⊢; rw [hp 13 (by decide), hz 42 (by decide) (by omega), stI_2, s4]; exact r5
    · unfold kn ppC at r6 ⊢; rw [hp 14 (by decide), hz 50 (by decide) (by omega), hz 51 (by decide) (by omega), hz 52 (by decide) (by omega)]; exact r6
    · unfold kn cmC tnC tnOK at r7 ⊢; rw [hp 15 (by decide), hz 42 (by decide) (by omega), hz 55 (by decide) (by omega), stI_2, s4]; exact r7
  · refine ⟨⟨c0, ?_⟩, ?_, ?_, ?_, Or.inr ⟨rfl, m5, c0, m2⟩, ?_⟩
    · unfold atR at b0 ⊢; rw [m4 6 (by decide) (by decide), m3 2 (by decide) (by decide), m3 3 (by decide) (by decide), m3 4 (by decide) (by decide)]; exact b0
    · unfold rowM at q1 ⊢; rw [m4 19 (by decide) (by decide), m3 14 (by decide) (by decide)]; exact q1
    · unfold txtM at q2 ⊢; rw [m4 8 (by decide) (by decide), m3 7 (by decide) (by decide)]; exact q2
    · unfold refM at q3 ⊢; rw [m3 1 (by decide) (by decide)]; exact q3
    · rw [m3 5 (by decide) (by decide), m3 6 (by decide) (by decide)]; exact q5
theorem restore_M {c : Cr} {μ : MM} (hc : okC c) (hr : atK μ c) (h34 : ¬ μ.1 0 34 = 0) : ∃ μ', f_X7_restore μ = some (nI (cP c), μ') ∧ atR μ' c ∧ (∀ k, k ≠ 0 → k ≠ 2 → k ≠ 3 → k ≠ 4 → μ'.1 k = μ.1 k) ∧ ∀ p, p ≠ 6 → μ'.1 0 p = μ.1 0 p := by
  obtain ⟨r1, r2, r3, r4⟩ := hr
  obtain ⟨c1, c2, c3, c4⟩ := hc
  unfold f_X7_restore
  rw [if_neg h34]
  obtain ⟨τ, t1, t2, t3⟩ := lp_0 (step := fun s => g_X7_restore_16 s.1 s.2) (fun i s => s.1 = nI i ∧ (∀ k, k ≠ 2 → k ≠ 3 → s.2.1 k = μ.1 k) ∧ ∀ j, j < i → s.2.1 2 j = μ.1 20 j ∧ s.2.1 3 j = μ.1 20 (12 + j)) (fun r => (∀ k, k ≠ 2 → k ≠ 3 → r.1 k = μ.1 k) ∧ ∀ j, j < 12 → r.1 2 j = μ.1 20 j ∧ r.1 3 j = μ.1 20 (12 + j)) 12 ((0 : Int32), μ) (by omega) ⟨rfl, fun _ _ _ => rfl, fun j hj => by omega⟩ (by
    rintro i ⟨v, τ⟩ hi ⟨e1, e2, e3⟩
    dsimp only at e1 e2 e3
    subst e1
    show ∃ s', g_X7_restore_16 (nI i) τ = some (.inl s') ∧ _
    unfold g_X7_restore_16
    have k1 : ¬ (12 : Int32) ≤ nI i := nI_ge (b := 12) hi (by omega)
    rw [if_neg k1, chk_t (inb_nI (by omega) (by omega)), chk_t (inb_nI (by omega) (by omega)), lm_eq, i12, chk_t (inb_nI (by omega) (by omega)), chk_t (inb_nI (by omega) (by omega)), lm_eq, nI_c (by omega), nI_c (by omega), stI_k (show 20 ≠ 2 by decide), e2 20 (by decide) (by decide)]
    refine ⟨_, rfl, nI_1 i, fun k h1 h2 => ?_, fun j hj => ?_⟩
    · show (stI (stI τ 2 _ _) 3 _ _).1 k = _
      rw [stI_k h2, stI_k h1]; exact e2 k h1 h2
    · show (stI (stI τ 2 i (μ.1 20 i)) 3 i (μ.1 20 (12 + i))).1 2 j = _ ∧ (stI (stI τ 2 i (μ.1 20 i)) 3 i (μ.1 20 (12 + i))).1 3 j = _
      rw [stI_k (show 2 ≠ 3 by decide), stI_s, stI_s, stI_k (show 3 ≠ 2 by decide)]
      by_cases e : j = i
      · rw [e, upd_s, upd_s]; exact ⟨rfl, rfl⟩
      · rw [upd_n e, upd_n e]; exact e3 j (by omega)) (by
    rintro ⟨v, τ⟩ ⟨e1, e2, e3⟩
    dsimp only at e1 e2 e3
    subst e1
    exact ⟨τ, rfl, e2, e3⟩)
  rw [t1, Option.bind_some]
  obtain ⟨υ, u1, u2, u3⟩ := lp_0 (step := fun s => g_X7_restore_57 s.1 s.2) (fun i s => s.1 = nI i ∧ (∀ k, k ≠ 4 → s.2.1 k = τ.1 k) ∧ ∀ j, j < i → s.2.1 4 j = μ.1 20 (24 + j)) (fun r => (∀ k, k ≠ 4 → r.1 k = τ.1 k) ∧ ∀ j, j < 5 → r.1 4 j = μ.1 20 (24 + j)) 5 ((0 : Int32), τ) (by omega) ⟨rfl, fun _ _ => rfl, fun j hj => by omega⟩ (by
    rintro i ⟨v, τ'⟩ hi ⟨e1, e2, e3⟩
    dsimp only at e1 e2 e3
    subst e1
    show ∃ s', g_X7_restore_57 (nI i) τ' = some (.inl s') ∧ _
    unfold g_X7_restore_57
    have k1 : ¬ (5 : Int32) ≤ nI i := nI_ge (b := 5) hi (by omega)
    rw [if_neg k1, i24, chk_t (inb_nI (by omega) (by omega)), chk_t (inb_nI (by omega) (by omega)), lm_eq, nI_c (by omega), nI_c (by omega), e2 20 (by decide), t2 20 (by decide) (by decide)]
    refine ⟨_, rfl, nI_1 i, fun k hk => ?_, fun j hj => ?_⟩
    · show (stI τ' 4 _ _).1 k = _
      rw [stI_k hk]; exact e2 k hk
    · show (stI τ' 4 i (μ.1 20 (24 + i))).1 4 j = _
      rw [stI_s]
      by_cases e : j = i
      · rw [e, upd_s]
      · rw [upd_n e]; exact e3 j (by omega)) (by
    rintro ⟨v, τ'⟩ ⟨e1, e2, e3⟩
    dsimp only at e1 e2 e3
    subst e1
    exact ⟨τ', rfl, e2, e3⟩)
  rw [u1, Option.bind_some, lm_eq, u2 0 (by decide), t2 0 (by decide) (by decide), r1, stI_s, upd_s]
  refine ⟨_, rfl, ⟨?_, fun i hi => ?_, fun i hi => ?_, fun i hi => ?_⟩, fun k h1 h2 h3 h4 => ?_, fun p hp => ?_⟩
  · rw [stI_s, upd_s]
  · rw [stI_k (by decide), u2 2 (by decide), (t3 _ (by omega)).1, (t3 _ (by omega)).1]; exact r2 i hi
  · rw [stI_k (by decide), u2 3 (by decide), (t3 _ (by omega)).2]; exact r3 i hi
  · rw [stI_k (by decide), u3 i hi]; exact r4 i hi
  · rw [stI_k h1, u2 k h4]; exact t2 k h2 h3
  · rw [stI_s, upd_n hp, u2 0 (by decide), t2 0 (by decide) (by decide)]
theorem al_restore {s : St} {σ μ : MM} (h : RelS s σ) (h' : RelM s μ) : Alike (f_X6_restore σ) (f_X7_restore μ) := by
  obtain ⟨⟨c0, a0, d0⟩, r1, r2, r3, r4, r5, r6, r7⟩ := id h
  obtain ⟨⟨-, b0⟩, q1, q2, q3, q4, q5⟩ := id h'
  rcases r4 with ⟨i0, i1⟩ | ⟨i0, i1, i2, i3⟩
  · rcases q4 with ⟨j0, j1⟩ | ⟨j0, -⟩
    · refine alike_no 3 (by decide) h h' (r := -3) ?_ ?_
      · unfold f_X6_restore; rw [i1, if_pos z00, rf3]; rfl
      · unfold f_X7_restore; rw [j1, if_pos z00, rm3]; rfl
    · omega
  · rcases q4 with ⟨j0, -⟩ | ⟨j0, j1, -, j3⟩
    · omega
    · obtain ⟨σ1, s1, s2, s3, s4⟩ := copy_S (b := 1) (q := 6) (by omega) i2 i3
      obtain ⟨μ', m1, m2, m3, m4⟩ := restore_M i2 j3 (by rw [j1]; decide)
      have hr : restS ((sI s).2, sR s, sX s, sI s, sF s) σ1 := by
        refine ⟨?_, ?_, ?_, Or.inr ⟨i0, ?_, i2, ?_⟩⟩
        · unfold rowS at r1 ⊢; rw [s3 0 (by omega), s3 14 (by omega)]; exact r1
        · unfold txtS at r2 ⊢; rw [s3 11 (by omega), s3 12 (by omega)]; exact r2
        · unfold refS at r3 ⊢; rw [s3 15 (by omega)]; exact r3
        · rw [s3 0 (by omega)]; exact i1
        · unfold atS at i3 ⊢; rw [s3 6 (by omega), s3 (6 + 1) (by omega), s3 (6 + 2) (by omega), s3 (6 + 3) (by omega), s3 (6 + 4) (by omega)]; exact i3
      obtain ⟨σ', t1, t2, t3⟩ := changed_S (s := ((sI s).2, sR s, sX s, sI s, sF s)) i2 s2 hr
      refine ⟨nI (cP (sI s).2), ((sI s).2, sR s, sX s, sI s, sF s), σ', μ', ?_, m1, t2, ⟨i2, m2⟩, ?_, ?_, ?_, Or.inr ⟨i0, ?_, i2, ?_⟩, ?_⟩
      · unfold f_X6_restore
        rw [i1, if_neg n10, s1, Option.bind_some, t1, Option.bind_some, t3 1 (by decide), s2.1]
      · unfold rowM at q1 ⊢; rw [m4 19 (by decide), m3 14 (by decide) (by decide) (by decide) (by decide)]; exact q1
      · unfold txtM at q2 ⊢; rw [m4 8 (by decide), m3 7 (by decide) (by decide) (by decide) (by decide)]; exact q2
      · unfold refM at q3 ⊢; rw [m3 1 (by decide) (by decide) (by decide) (by decide)]; exact q3
      · rw [m4 34 (by decide)]; exact j1
      · unfold atK at j3 ⊢; rw [m4 35 (by decide), m3 20 (by decide) (by decide) (by decide) (by decide)]; exact j3
      · rw [m3 5 (by decide) (by decide) (by decide) (by decide), m3 6 (by decide) (by decide) (by decide) (by decide)]; exact q5
