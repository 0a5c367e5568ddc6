/-! how many there are in a set: Integer.bitCount -/
def bcX (v : Int32) : Int32 := (f_J6_bitCount_0f7a4 v (fun _ _ => 0, fun _ _ => 0)).getD 0
theorem bc_eq (v : Int32) (σ : MM) : f_J6_bitCount_0f7a4 v σ = some (bcX v) := rfl
theorem bc_all : (List.range 4096).all (fun S => decide (bcX (nI S) = nI (cnt S 12))) = true := by decide +kernel
theorem bc_S {S : Nat} (h : S < 4096) (σ : MM) : f_J6_bitCount_0f7a4 (nI S) σ = some (nI (cnt S 12)) := by
  have := List.all_eq_true.mp bc_all S (List.mem_range.mpr h)
  rw [bc_eq, of_decide_eq_true this]
/-! sets as ints -/
theorem xorI (a b : Nat) : nI a ^^^ nI b = nI (a ^^^ b) := fb_xorI a b
theorem orI (a b : Nat) : nI a ||| nI b = nI (a ||| b) := fa_or a b
theorem andI (a b : Nat) : nI a &&& nI b = nI (a &&& b) := fa_and a b
theorem nI_bv (n : Nat) : (nI n).toBitVec = BitVec.ofNat 32 n := rfl
theorem andn {S T : Nat} (hS : S < 2147483648) : nI S &&& (nI T ^^^ (-1)) = nI (S ^^^ (S &&& T)) := by
  apply Int32.toBitVec_inj.mp
  rw [Int32.toBitVec_and, Int32.toBitVec_xor, nI_bv, nI_bv, nI_bv]
  apply BitVec.eq_of_getLsbD_eq
  intro i hi
  have e : (-1 : Int32).toBitVec = BitVec.allOnes 32 := by decide
  rw [BitVec.getLsbD_and, BitVec.getLsbD_xor, e, BitVec.getLsbD_allOnes, BitVec.getLsbD_ofNat, BitVec.getLsbD_ofNat, BitVec.getLsbD_ofNat, Nat.testBit_xor, Nat.testBit_and]
  simp only [hi, decide_true, Bool.true_and]
  cases S.testBit i <;> cases T.testBit i <;> rfl
theorem dif_b (S T i : Nat) : (S ^^^ (S &&& T)).testBit i = (S.testBit i && !T.testBit i) := by
  rw [Nat.testBit_xor, Nat.testBit_and]
  cases S.testBit i <;> cases T.testBit i <;> rfl
theorem dif_0 {S T : Nat} : S ^^^ (S &&& T) = 0 ↔ sub S T := by
  constructor
  · intro h i hi
    have := dif_b S T i
    rw [h, hi, Nat.zero_testBit] at this
    cases hq : T.testBit i with
    | true => rfl
    | false => rw [hq] at this; cases this
  · intro h
    apply Nat.eq_of_testBit_eq
    intro i
    rw [dif_b, Nat.zero_testBit]
    cases hq : S.testBit i with
    | true => rw [h i hq]; rfl
    | false => rfl
theorem andn_0 {S T : Nat} (hS : S < 2147483648) : nI S &&& (nI T ^^^ (-1)) = 0 ↔ sub S T := by
  rw [andn hS]
  have hlt : S ^^^ (S &&& T) < 2147483648 := Nat.xor_lt_two_pow (n := 31) hS (Nat.lt_of_le_of_lt Nat.and_le_left hS)
  rw [show (0 : Int32) = nI 0 from rfl, nI_eq_iff hlt (by omega), dif_0]
theorem dif_del {S p : Nat} (h : S.testBit p = true) : S ^^^ (S &&& 2 ^ p) = S ^^^ 2 ^ p := by
  congr 1
  apply Nat.eq_of_testBit_eq
  intro i
  rw [Nat.testBit_and, Nat.testBit_two_pow]
  by_cases e : p = i
  · rw [← e, h]; rfl
  · simp [e]
/-! whose the strike at a place is -/
theorem flip1 {x : Nat} (h : x ≤ 1) : (1 : Int32) - nI x = nI (1 - x) := pk_sub (a := 1) h
theorem sideAt_S {pl a b sd : Nat} {σ : MM} (hs : sd < 2) (ha : a ≤ 3) (hb : b ≤ 3) (hp : pl < a + b) : f_X5_sideAt (nI pl) (nI a) (nI b) (nI sd) σ = some (nI (whoS (stq a b sd pl))) := by
  unfold f_X5_sideAt
  have h := lp_0 (step := fun s => g_X5_sideAt_14 (nI pl) s.1 s.2.1 s.2.2.1 s.2.2.2 σ) (fun i s => s = (nI (stq a b sd i).1, nI (stq a b sd i).2.1, nI (1 - (stq a b sd i).2.2), nI i)) (fun r => r = nI (whoS (stq a b sd pl))) (pl + 1) (nI a, nI b, (1 : Int32) - nI sd, (0 : Int32)) (by omega) (by rw [flip1 (by omega)]; rfl) ?_ ?_
  · obtain ⟨r, h1, h2⟩ := h
    rw [h1, h2]; rfl
  · rintro i s hi rfl
    obtain ⟨q1, q2, q3, q4⟩ := stq_sum (a := a) (b := b) hs i (by omega)
    have hw := who_has (a := (stq a b sd i).1) (b := (stq a b sd i).2.1) q2 (by omega)
    generalize hq : stq a b sd i = s at q1 q2 q3 q4 hw
    obtain ⟨x, y, z⟩ := s
    dsimp only at q1 q2 q3 q4 hw ⊢
    refine ⟨_, ?_, rfl⟩
    show g_X5_sideAt_14 (nI pl) (nI x) (nI y) (nI (1 - z)) (nI i) σ = some (.inl (nI (stq a b sd (i + 1)).1, nI (stq a b sd (i + 1)).2.1, nI (1 - (stq a b sd (i + 1)).2.2), nI (i + 1)))
    have e : stq a b sd (i + 1) = stp (x, y, z) := by show stp (stq a b sd i) = _; rw [hq]
    rw [e]
    unfold g_X5_sideAt_14
    have hz : 1 - (1 - z) = z := by omega
    rw [if_neg (nI_nlt (by omega) (by omega)), flip1 (by omega), hz, flip1 (by omega)]
    have e1 : (if nI z = 0 then some (nI x) else some (nI y)) = some (nI (if z = 0 then x else y)) := by
      by_cases h0 : z = 0
      · rw [if_pos h0, if_pos (by rw [h0]; rfl)]
      · rw [if_neg h0, if_neg (nI_ne0 (by omega) (by omega))]
    rw [e1, Option.bind_some]
    have hlt : (if z = 0 then x else y) < 100 := by split <;> omega
    have e2 : (if nI (if z = 0 then x else y) = 0 then some (nI (1 - z)) else some (nI z)) = some (nI (who x y z)) := by
      unfold who
      by_cases h0 : (if z = 0 then x else y) = 0
      · rw [if_pos h0, h0, if_pos (by rfl)]
      · rw [if_neg h0, if_neg (nI_ne0 (by omega) (by omega))]
    rw [e2, Option.bind_some]
    unfold stp nA nB
    dsimp only
    rcases hw with ⟨w0, w1⟩ | ⟨w0, w1⟩
    · rw [w0, if_pos (by rfl), if_pos rfl, if_pos rfl, nI_1, sb_m1 w1]
    · rw [w0, if_neg (by decide), if_neg (by decide), if_neg (by decide), nI_1, sb_m1 w1]
  · rintro s rfl
    refine ⟨_, ?_, rfl⟩
    show g_X5_sideAt_14 (nI pl) _ _ (nI (1 - (stp (stq a b sd pl)).2.2)) (nI (pl + 1)) σ = _
    unfold g_X5_sideAt_14
    rw [if_pos (nI_lt (by omega) (by omega))]
    have h2 := (stq_sum (a := a) (b := b) hs pl (by omega)).2.1
    have hw := who_lt (a := (stq a b sd pl).1) (b := (stq a b sd pl).2.1) h2
    congr 3
    show 1 - (1 - whoS _) = _
    unfold whoS
    omega
/-! twins -/
theorem alike_S {b p q : Nat} {σ : MM} (hp : p < 12) (hq : q < 12) : f_X2_areAlike b (nI p) (nI q) σ = some (if σ.1 (b + 1) p = σ.1 (b + 1) q ∧ σ.1 (b + 2) p = σ.1 (b + 2) q then 1 else 0) := by
  unfold f_X2_areAlike
  rw [chk_t (inb_nI hp (by omega)), chk_t (inb_nI hq (by omega)), nI_c (by omega), nI_c (by omega)]
  by_cases h1 : σ.1 (b + 1) p = σ.1 (b + 1) q
  · rw [if_pos h1, chk_t (inb_nI hp (by omega)), chk_t (inb_nI hq (by omega))]
    by_cases h2 : σ.1 (b + 2) p = σ.1 (b + 2) q
    · rw [if_pos h2, if_pos ⟨h1, h2⟩]; rfl
    · rw [if_neg h2, if_neg (fun q => h2 q.2)]; rfl
  · rw [if_neg h1, if_neg (fun q => h1 q.1)]; rfl
def tw (σ : MM) (t : Nat) (m : Mi) (all p : Nat) : Prop := σ.1 (t + 2) p = 0 ∨ ∃ q, q < p ∧ all.testBit q = true ∧ σ.1 (t + 2) p = nI (2 ^ q) ∧ (all.testBit p = true → mF m p = mF m q ∧ mG m p = mG m q)
theorem md_eq {σ : MM} {b p q : Nat} {m : Mi} (hm : okM m) (hd : mdAt σ b m) (hp : p < mP m) (hq : q < mP m) (h : σ.1 (b + 1) p = σ.1 (b + 1) q ∧ σ.1 (b + 2) p = σ.1 (b + 2) q) : mF m p = mF m q ∧ mG m p = mG m q := by
  obtain ⟨-, -, -, hL⟩ := hd
  have x1 := hm.2.2.2.2 p hp
  have x2 := hm.2.2.2.2 q hq
  rw [(hL p hp).1, (hL q hq).1, (hL p hp).2, (hL q hq).2, nI_eq_iff (by omega) (by omega), nI_eq_iff (by omega) (by omega)] at h
  exact h
theorem twin17 {t q1 p all : Nat} {m : Mi} {σ : MM} (hm : okM m) (hd : mdAt σ q1 m) (h3 : σ.1 t 3 = nI all) (hall : all < 2 ^ mP m) (hp : p < 12) (hn : t ≠ t + 2 ∧ q1 ≠ t + 2 ∧ q1 + 1 ≠ t + 2 ∧ q1 + 2 ≠ t + 2) (h0 : tw σ t m all p) :
    ∃ σ', loopN (fun s => g_X5_findTwins_17 t q1 (nI p) s.1 s.2) FU ((0 : Int32), σ) = some σ' ∧ sx [t + 2] σ σ' ∧ (∀ j, j ≠ p → σ'.1 (t + 2) j = σ.1 (t + 2) j) ∧ tw σ' t m all p := by
  have hall2 := pow12 hm.1 hall
  refine lp_0 (fun i s => s.1 = nI i ∧ sx [t + 2] σ s.2 ∧ (∀ j, j ≠ p → s.2.1 (t + 2) j = σ.1 (t + 2) j) ∧ tw s.2 t m all p) _ p _ (by omega) ⟨rfl, sx_rf, fun _ _ => rfl, h0⟩ ?_ ?_
  · rintro i ⟨v, τ⟩ hi ⟨e1, e2, e3, e4⟩
    dsimp only at e1 e2 e3 e4
    subst e1
    show ∃ s', g_X5_findTwins_17 t q1 (nI p) (nI i) τ = some (.inl s') ∧ _
    unfold g_X5_findTwins_17
    rw [if_neg (nI_ge hi (by omega)), show τ.1 t 3 = nI all by rw [(e2 t (by simpa using hn.1)).1]; exact h3]
    cases hq : all.testBit i with
    | false =>
      rw [if_pos ((bitS (by omega)).mpr hq)]
      exact ⟨_, rfl, nI_1 i, e2, e3, e4⟩
    | true =>
      rw [if_neg (fun q => by have := (bitS (by omega)).mp q; rw [hq] at this; cases this), alike_S hp (by omega), Option.bind_some]
      have hdt : mdAt τ q1 m := mdAt_sx hd e2 (by simpa using hn.2.1) (by simpa using hn.2.2.1) (by simpa using hn.2.2.2)
      by_cases ha : τ.1 (q1 + 1) p = τ.1 (q1 + 1) i ∧ τ.1 (q1 + 2) p = τ.1 (q1 + 2) i
      · rw [if_pos ha, if_neg (by decide), chk_t (inb_nI hp (by omega)), lm_eq, nI_c (by omega), sh1 i (by omega)]
        refine ⟨_, rfl, nI_1 i, sx_tr e2 (sx_I (by simp)), fun j hj => ?_, Or.inr ⟨i, hi, hq, ?_, fun hpa => ?_⟩⟩
        · show (stI τ (t + 2) p (nI (2 ^ i))).1 (t + 2) j = _
          rw [stI_s, upd_n hj]; exact e3 j hj
        · show (stI τ (t + 2) p (nI (2 ^ i))).1 (t + 2) p = _
          rw [stI_s, upd_s]
        · exact md_eq hm hdt (mem_lt hall hpa) (mem_lt hall hq) ha
      · rw [if_neg ha, if_pos rfl]
        exact ⟨_, rfl, nI_1 i, e2, e3, e4⟩
  · rintro ⟨v, τ⟩ ⟨e1, e2, e3, e4⟩
    dsimp only at e1 e2 e3 e4
    subst e1
    refine ⟨τ, ?_, e2, e3, e4⟩
    show g_X5_findTwins_17 t q1 (nI p) (nI p) τ = _
    unfold g_X5_findTwins_17
    rw [if_pos (nI_le (Nat.le_refl _) (by omega))]
theorem twins_S {t q1 all : Nat} {m : Mi} {σ : MM} (hm : okM m) (hd : mdAt σ q1 m) (h3 : σ.1 t 3 = nI all) (hall : all < 2 ^ mP m) (hn : t ≠ t + 2 ∧ q1 ≠ t + 2 ∧ q1 + 1 ≠ t + 2 ∧ q1 + 2 ≠ t + 2) :
    ∃ σ', f_X5_findTwins t q1 σ = some σ' ∧ sx [t + 2] σ σ' ∧ ∀ p, p < 12 → tw σ' t m all p := by
  unfold f_X5_findTwins
  have h := lp_0 (step := fun s => g_X5_findTwins_2 t q1 s.1 s.2) (fun i s => s.1 = nI i ∧ sx [t + 2] σ s.2 ∧ ∀ p, p < i → tw s.2 t m all p) (fun r => sx [t + 2] σ r ∧ ∀ p, p < 12 → tw r t m all p) 12 ((0 : Int32), σ) (by omega) ⟨rfl, sx_rf, fun p hp => by omega⟩ ?_ ?_
  · obtain ⟨r, h1, h2, h4⟩ := h
    exact ⟨r, by rw [h1]; rfl, h2, h4⟩
  · rintro i ⟨v, τ⟩ hi ⟨e1, e2, e3⟩
    dsimp only at e1 e2 e3
    subst e1
    show ∃ s', g_X5_findTwins_2 t q1 (nI i) τ = some (.inl s') ∧ _
    unfold g_X5_findTwins_2
    have c1 : ¬ (12 : Int32) ≤ nI i := nI_ge (b := 12) hi (by omega)
    rw [if_neg c1, chk_t (inb_nI hi (by omega)), lm_eq, nI_c (by omega)]
    have hx : sx [t + 2] σ (stI τ (t + 2) i 0) := sx_tr e2 (sx_I (by simp))
    obtain ⟨τ', a1, a2, a3, a4⟩ := twin17 (t := t) (q1 := q1) (p := i) (all := all) (m := m) (σ := stI τ (t + 2) i 0) hm (mdAt_sx hd hx (by simpa using hn.2.1) (by simpa using hn.2.2.1) (by simpa using hn.2.2.2)) (by rw [(hx t (by simpa using hn.1)).1]; exact h3) hall hi hn (Or.inl (by rw [stI_s, upd_s]))
    rw [a1]
    refine ⟨_, rfl, nI_1 i, sx_tr hx a2, fun p hp => ?_⟩
    by_cases e : p = i
    · rw [e]; exact a4
    · have := e3 p (by omega)
      unfold tw at this ⊢
      have ex : τ'.1 (t + 2) p = τ.1 (t + 2) p := by rw [a3 p e, stI_s, upd_n e]
      rw [ex]; exact this
  · rintro ⟨v, τ⟩ ⟨e1, e2, e3⟩
    dsimp only at e1 e2 e3
    subst e1
    refine ⟨τ, ?_, e2, e3⟩
    show g_X5_findTwins_2 t q1 (nI 12) τ = _
    unfold g_X5_findTwins_2
    rw [if_pos (by decide)]
theorem like_S {t S all : Nat} {m : Mi} {σ : MM} (hall : all < 4096) (hS : sub S all) (htw : ∀ p, p < 12 → tw σ t m all p) :
    ∃ S', f_X5_lesserLike t (nI S) σ = some (nI S') ∧ (S' = S ∨ ∃ p q, q < p ∧ p < 12 ∧ S.testBit p = true ∧ S.testBit q = false ∧ all.testBit q = true ∧ mF m p = mF m q ∧ mG m p = mG m q ∧ S' = S ^^^ 2 ^ p ^^^ 2 ^ q) := by
  unfold f_X5_lesserLike
  have hSl : S < 4096 := Nat.lt_of_le_of_lt (sub_le hS) hall
  have h := lp_m (step := fun s => g_X5_lesserLike_2 t (nI S) s σ) (fun s => ∃ i, 1 ≤ i ∧ i ≤ 12 ∧ s = nI i) (fun r => ∃ S', r = nI S' ∧ (S' = S ∨ ∃ p q, q < p ∧ p < 12 ∧ S.testBit p = true ∧ S.testBit q = false ∧ all.testBit q = true ∧ mF m p = mF m q ∧ mG m p = mG m q ∧ S' = S ^^^ 2 ^ p ^^^ 2 ^ q)) (fun s => 12 - s.toNatClampNeg) (1 : Int32) (by show 12 - _ < 5000; omega) ⟨1, by omega, by omega, rfl⟩ ?_
  · obtain ⟨r, h1, S', h2, h3⟩ := h
    exact ⟨S', by rw [h1, h2], h3⟩
  · rintro s ⟨i, hi1, hi, rfl⟩
    show (∃ r, g_X5_lesserLike_2 t (nI S) (nI i) σ = some (.inr r) ∧ _) ∨ ∃ s', g_X5_lesserLike_2 t (nI S) (nI i) σ = some (.inl s') ∧ _
    unfold g_X5_lesserLike_2
    by_cases h12 : 12 ≤ i
    · have c1 : (12 : Int32) ≤ nI i := nI_le (a := 12) h12 (by omega)
      left
      rw [if_pos c1]
      exact ⟨_, rfl, S, rfl, Or.inl rfl⟩
    · have c1 : ¬ (12 : Int32) ≤ nI i := nI_ge (b := 12) (by omega) (by omega)
      have next : (∃ i_1, 1 ≤ i_1 ∧ i_1 ≤ 12 ∧ nI i + 1 = nI i_1) ∧ 12 - (nI i + 1).toNatClampNeg < 12 - (nI i).toNatClampNeg := by
        refine ⟨⟨i + 1, by omega, by omega, nI_1 i⟩, ?_⟩
        rw [nI_1, nI_c (by omega), nI_c (by omega)]; omega
      rw [if_neg c1, chk_t (inb_nI (by omega) (by omega)), nI_c (by omega)]
      rw [nI_c (by omega)] at next
      cases hq : S.testBit i with
      | false =>
        right
        rw [if_pos ((bitS (by omega)).mpr hq)]
        exact ⟨_, rfl, next⟩
      | true =>
        rw [if_neg (fun q => by have := (bitS (by omega)).mp q; rw [hq] at this; cases this)]
        by_cases hz : σ.1 (t + 2) i = 0
        · right
          rw [if_pos hz]
          exact ⟨_, rfl, next⟩
        · rw [if_neg hz]
          rcases htw i (by omega) with h | ⟨q, q1, q2, q3, q4⟩
          · exact absurd h hz
          · rw [q3]
            cases hb : S.testBit q with
            | true =>
              right
              rw [if_neg (fun z => by have := (fa_bit (by omega)).mp z; rw [hb] at this; cases this)]
              exact ⟨_, rfl, next⟩
            | false =>
              left
              rw [if_pos ((fa_bit (by omega)).mpr hb), sh1 i (by omega), xorI, xorI]
              obtain ⟨g1, g2⟩ := q4 (hS i hq)
              exact ⟨_, rfl, _, rfl, Or.inr ⟨i, q, q1, by omega, hq, hb, q2, g1, g2, rfl⟩⟩
/-! the best of what strikes bring -/
theorem shl1 : ∀ i, i < 13 → nI (2 ^ i) <<< ((1 : Int32) &&& 31) = nI (2 ^ (i + 1)) := by decide
theorem p2lt {i : Nat} (h : i ≤ 12) : 2 ^ i < 2147483648 := Nat.lt_of_le_of_lt (Nat.pow_le_pow_right (n := 2) (j := 12) (by decide) h) (by decide)
def acc (w : Nat) (o : Option Nat) : Int64 := match o with | none => if w = 0 then -1 else 10000000000000001 | some v => lN v
theorem acc_0 {v : Nat} (h : v ≤ 10000000000000000) : ¬ lN v < (-1 : Int64) := by
  rw [fa_lt64, pk_lT (by omega)]
  show ¬ (v : Int) < -1
  omega
theorem acc_1 {v : Nat} (h : v ≤ 10000000000000000) : lN v < (10000000000000001 : Int64) := by
  have e : (10000000000000001 : Int64) = lN 10000000000000001 := rfl
  rw [e, pk_lLT (by omega) (by omega)]; omega
theorem after_S {t S w : Nat} {f : Nat → Nat} {σ : MM} (hS : S < 4096) (hw : w < 2) (hv : ∀ p, p < 12 → S.testBit p = true → σ.2 (t + 3) (S ^^^ 2 ^ p) = lN (f p) ∧ f p ≤ 10000000000000000) :
    f_X5_valueAfterBest t (nI S) (nI w) σ = some (acc w (bst w f S 12)) := by
  unfold f_X5_valueAfterBest
  have e0 : (if nI w = 0 then some (-1 : Int64) else some 10000000000000001) = some (acc w none) := by
    unfold acc
    by_cases h0 : w = 0
    · rw [if_pos h0, if_pos (by rw [h0]; rfl)]
    · rw [if_neg h0, if_neg (nI_ne0 (by omega) (by omega))]
  rw [e0, Option.bind_some]
  have h := lp_0 (step := fun s => g_X5_valueAfterBest_17 t (nI S) (nI w) s.1 s.2 σ) (fun i s => s.1 = acc w (bst w f S i) ∧ s.2 = nI (2 ^ i)) (fun r => r = acc w (bst w f S 12)) 12 (acc w none, (1 : Int32)) (by omega) ⟨rfl, rfl⟩ ?_ ?_
  · obtain ⟨r, h1, h2⟩ := h
    rw [h1, h2]; rfl
  · rintro i ⟨v, u⟩ hi ⟨e1, e2⟩
    dsimp only at e1 e2
    subst e1; subst e2
    show ∃ s', g_X5_valueAfterBest_17 t (nI S) (nI w) _ (nI (2 ^ i)) σ = some (.inl s') ∧ _
    unfold g_X5_valueAfterBest_17
    have hp := p2lt (i := i) (by omega)
    have c1 : ¬ (4096 : Int32) ≤ nI (2 ^ i) := nI_ge (b := 4096) (Nat.pow_lt_pow_right (a := 2) (m := i) (n := 12) (by decide) hi) (by omega)
    rw [if_neg c1, shl1 i (by omega)]
    cases hq : S.testBit i with
    | false =>
      rw [if_pos ((fa_bit (by omega)).mpr hq)]
      refine ⟨_, rfl, ?_, rfl⟩
      show acc w (bst w f S i) = acc w (bst w f S (i + 1))
      rw [bst, if_neg (by rw [hq]; exact Bool.false_ne_true)]
    | true =>
      obtain ⟨v1, v2⟩ := hv i hi hq
      have hlt := del_lt hq
      rw [if_neg (fun z => by have := (fa_bit (by omega)).mp z; rw [hq] at this; cases this), xorI, chk_t (inb_nI (by omega) (by omega)), nI_c (by omega), v1]
      have hb : bst w f S (i + 1) = some (match bst w f S i with | none => f i | some v => if w = 0 then max v (f i) else min v (f i)) := by rw [bst, if_pos hq]; cases bst w f S i <;> rfl
      have key : (if nI w = 0 then some (if lN (f i) < acc w (bst w f S i) then acc w (bst w f S i) else lN (f i)) else some (if lN (f i) < acc w (bst w f S i) then lN (f i) else acc w (bst w f S i))) = some (acc w (bst w f S (i + 1))) := by
        rw [hb]
        by_cases h0 : w = 0
        · rw [if_pos (by rw [h0]; rfl)]
          cases hc : bst w f S i with
          | none =>
            show some (if lN (f i) < acc w none then _ else _) = some (lN (f i))
            unfold acc
            rw [if_pos h0, if_neg (acc_0 v2)]
          | some u =>
            have hu : u ≤ 10000000000000000 := by
              obtain ⟨⟨p, p1, p2, p3⟩, -⟩ := bst_O i u hc
              rw [← p3]; exact (hv p (by omega) p2).2
            show some (if lN (f i) < lN u then lN u else lN (f i)) = some (lN (if w = 0 then max u (f i) else min u (f i)))
            rw [if_pos h0]
            by_cases hlt2 : f i < u
            · rw [if_pos ((pk_lLT (by omega) (by omega)).mpr hlt2), Nat.max_eq_left (by omega)]
            · rw [if_neg (fun z => hlt2 ((pk_lLT (by omega) (by omega)).mp z)), Nat.max_eq_right (by omega)]
        · rw [if_neg (nI_ne0 (by omega) (by omega))]
          cases hc : bst w f S i with
          | none =>
            show some (if lN (f i) < acc w none then _ else _) = some (lN (f i))
            unfold acc
            rw [if_neg h0, if_pos (acc_1 v2)]
          | some u =>
            have hu : u ≤ 10000000000000000 := by
              obtain ⟨⟨p, p1, p2, p3⟩, -⟩ := bst_O i u hc
              rw [← p3]; exact (hv p (by omega) p2).2
            show some (if lN (f i) < lN u then lN (f i) else lN u) = some (lN (if w = 0 then max u (f i) else min u (f i)))
            rw [if_neg h0]
            by_cases hlt2 : f i < u
            · rw [if_pos ((pk_lLT (by omega) (by omega)).mpr hlt2), Nat.min_eq_right (by omega)]
            · rw [if_neg (fun z => hlt2 ((pk_lLT (by omega) (by omega)).mp z)), Nat.min_eq_left (by omega)]
      rw [key, Option.bind_some]
      exact ⟨_, rfl, rfl, rfl⟩
  · rintro ⟨v, u⟩ ⟨e1, e2⟩
    dsimp only at e1 e2
    subst e1; subst e2
    refine ⟨_, ?_, rfl⟩
    show g_X5_valueAfterBest_17 t (nI S) (nI w) _ (nI (2 ^ 12)) σ = _
    unfold g_X5_valueAfterBest_17
    rw [if_pos (by decide)]
