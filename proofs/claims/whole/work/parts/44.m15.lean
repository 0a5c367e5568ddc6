/-! SLIP -/
def vr (s : St) (i : Nat) : Nat := vq (mOf (sC s)) (cK (sC s) 1) (cK (sC s) 2) 0 (rs (full (sC s)) (sR s).2 i)
def dst (x y : Nat) : Nat := if y ≤ x then x - y else y - x
theorem lN_z : (0 : Int64) = lN 0 := rfl
theorem abs_L {x y : Nat} (hx : x ≤ 10000000000000000) (hy : y ≤ 10000000000000000) : (if 0 < lN x - lN y then lN x - lN y else -(lN x - lN y)) = lN (dst x y) := by
  have e1 := pk_lT (n := x) (by omega)
  have e2 := pk_lT (n := y) (by omega)
  have e0 : (0 : Int64).toInt = 0 := rfl
  have ed : (lN x - lN y).toInt = (x : Int) - y := by
    rw [fb_subL (by rw [e1, e2]; omega) (by rw [e1, e2]; omega), e1, e2]
  unfold dst
  by_cases h : y < x
  · rw [if_pos (by rw [fa_lt64, ed, e0]; omega), if_pos (by omega), lN_sub (by omega)]
  · rw [if_neg (by rw [fa_lt64, ed, e0]; omega), Int64.neg_sub, lN_sub (by omega)]
    by_cases h2 : y ≤ x
    · rw [if_pos h2, show y - x = 0 by omega, show x - y = 0 by omega]
    · rw [if_neg h2]
theorem dst0 {x y : Nat} (hx : x ≤ 10000000000000000) (hy : y ≤ 10000000000000000) : lN (dst x y) = 0 ↔ x = y := by
  rw [lN_z, fb_lN_inj (by unfold dst; split <;> omega) (by omega)]
  unfold dst
  split <;> omega
theorem law_rs {s : St} {σ : MM} (h : RelS s σ) (he : enough (sC s)) (hl : lawf s) : (∀ i, i ≤ cK (sC s) 1 + cK (sC s) 2 → sub (rs (full (sC s)) (sR s).2 i) (full (sC s)) ∧ cnt (rs (full (sC s)) (sR s).2 i) 12 = mN (mOf (sC s)) + (cK (sC s) 1 + cK (sC s) 2 - i)) ∧ (∀ i, i < cK (sC s) 1 + cK (sC s) 2 → (rs (full (sC s)) (sR s).2 i).testBit ((sR s).2 i) = true ∧ (sR s).2 i < 12) ∧ ∀ i, i ≤ cK (sC s) 1 + cK (sC s) 2 → vr s i ≤ 10000000000000000 := by
  obtain ⟨⟨c0, a0, d0⟩, ⟨w1, w2, w3⟩, -⟩ := id h
  have hcn := full_cnt c0 he
  obtain ⟨hl1, hl2⟩ := hl
  rw [hl1] at hl2 w3
  have g : ∀ i, i < cK (sC s) 1 + cK (sC s) 2 → (rs (full (sC s)) (sR s).2 i).testBit ((sR s).2 i) = true ∧ (sR s).2 i < 12 := fun i hi => ⟨hl2 i hi, (w3 i hi).1⟩
  have g1 : ∀ i, i ≤ cK (sC s) 1 + cK (sC s) 2 → sub (rs (full (sC s)) (sR s).2 i) (full (sC s)) ∧ cnt (rs (full (sC s)) (sR s).2 i) 12 = mN (mOf (sC s)) + (cK (sC s) 1 + cK (sC s) 2 - i) := fun i hi => by
    obtain ⟨x1, x2⟩ := rs_ok g i hi
    exact ⟨x1, by omega⟩
  refine ⟨g1, g, fun i hi => ?_⟩
  obtain ⟨x1, x2⟩ := g1 i hi
  exact vq_le (okM_of c0) (sub_lt x1 (full_lt he)) (by omega)
theorem slip_S {s : St} {σ : MM} (h : RelS s σ) (he : enough (sC s)) (hl : lawf s) (htn : tnC σ (sC s)) (v1 : Int32) : ∃ r, loopN (fun t => g_X6_slip_28 v1 t.1 t.2.1 t.2.2) FU (nI (full (sC s)), (0 : Int32), σ) = some (r, σ) ∧
    (((∀ j, j < cK (sC s) 1 + cK (sC s) 2 → vr s j = vr s (j + 1)) ∧ r = if v1 = 0 then -9 else 0) ∨ ∃ i, i < cK (sC s) 1 + cK (sC s) 2 ∧ (∀ j, j < i → vr s j = vr s (j + 1)) ∧ vr s i ≠ vr s (i + 1) ∧ r = if v1 = 0 then (nI i).toInt64 else lN (dst (vr s i) (vr s (i + 1)))) := by
  obtain ⟨⟨c0, a0, d0⟩, ⟨w1, w2, w3⟩, -⟩ := id h
  obtain ⟨g1, g2, g3⟩ := law_rs h he hl
  have hk := kb c0
  have hf2 := full_2 c0 he
  have w2' : σ.1 0 5 = nI (cK (sC s) 1 + cK (sC s) 2) := by rw [w2, hl.1]
  rw [hl.1] at w3
  have hq := lp_m (step := fun t => g_X6_slip_28 v1 t.1 t.2.1 t.2.2) (fun t => ∃ i, i ≤ cK (sC s) 1 + cK (sC s) 2 ∧ t = (nI (rs (full (sC s)) (sR s).2 i), nI i, σ) ∧ ∀ j, j < i → vr s j = vr s (j + 1)) (fun r => r.2 = σ ∧ (((∀ j, j < cK (sC s) 1 + cK (sC s) 2 → vr s j = vr s (j + 1)) ∧ r.1 = if v1 = 0 then -9 else 0) ∨ ∃ i, i < cK (sC s) 1 + cK (sC s) 2 ∧ (∀ j, j < i → vr s j = vr s (j + 1)) ∧ vr s i ≠ vr s (i + 1) ∧ r.1 = if v1 = 0 then (nI i).toInt64 else lN (dst (vr s i) (vr s (i + 1))))) (fun t => 6 - t.2.1.toNatClampNeg) (nI (full (sC s)), (0 : Int32), σ) (by show 6 - _ < 5000; omega) ⟨0, Nat.zero_le _, rfl, fun j hj => by omega⟩ ?_
  · obtain ⟨r, q1, q2, q3⟩ := hq
    exact ⟨r.1, by rw [q1, ← q2], q3⟩
  rintro t ⟨i, hi, rfl, hall⟩
  show (∃ r, g_X6_slip_28 v1 (nI (rs (full (sC s)) (sR s).2 i)) (nI i) σ = some (.inr r) ∧ _) ∨ ∃ s', g_X6_slip_28 v1 (nI (rs (full (sC s)) (sR s).2 i)) (nI i) σ = some (.inl s') ∧ _
  unfold g_X6_slip_28
  rw [w2']
  by_cases hi2 : cK (sC s) 1 + cK (sC s) 2 ≤ i
  · left
    rw [if_pos (nI_le hi2 (by omega))]
    have hq : ∀ j, j < cK (sC s) 1 + cK (sC s) 2 → vr s j = vr s (j + 1) := fun j hj => hall j (by omega)
    by_cases h0 : v1 = 0
    · rw [if_pos h0]; exact ⟨_, rfl, rfl, Or.inl ⟨hq, by rw [if_pos h0]⟩⟩
    · rw [if_neg h0]; exact ⟨_, rfl, rfl, Or.inl ⟨hq, by rw [if_neg h0]⟩⟩
  · have hi3 : i < cK (sC s) 1 + cK (sC s) 2 := by omega
    obtain ⟨b1, b2⟩ := g2 i hi3
    obtain ⟨s1, s2⟩ := g1 i hi
    obtain ⟨s3, s4⟩ := g1 (i + 1) hi3
    have l1 := sub_le s1
    have l2 := sub_le s3
    have e1 : σ.2 (42 + 3) (rs (full (sC s)) (sR s).2 i) = lN (vr s i) := htn.2.2.2.2 _ s1 (by omega)
    have e2 : σ.2 (42 + 3) (rs (full (sC s)) (sR s).2 (i + 1)) = lN (vr s (i + 1)) := htn.2.2.2.2 _ s3 (by omega)
    have e3 : nI (rs (full (sC s)) (sR s).2 i) &&& (((1 : Int32) <<< (nI ((sR s).2 i) &&& 31)) ^^^ (-1)) = nI (rs (full (sC s)) (sR s).2 (i + 1)) := out1 b1 b2
    rw [if_neg (nI_ge hi3 (by omega)), chk_t (inb_nI (by omega) (by omega)), valueOf_S (by omega), Option.bind_some, nI_c (by omega), (w3 i hi3).2, e3, valueOf_S (by omega), Option.bind_some, e1, e2, abs_L (g3 i hi) (g3 (i + 1) hi3)]
    by_cases hz : vr s i = vr s (i + 1)
    · right
      rw [if_pos ((dst0 (g3 i hi) (g3 (i + 1) hi3)).mpr hz)]
      refine ⟨_, rfl, ⟨i + 1, hi3, by rw [nI_1], fun j hj => ?_⟩, ?_⟩
      · by_cases e : j = i
        · rw [e]; exact hz
        · exact hall j (by omega)
      · show 6 - (nI i + 1).toNatClampNeg < 6 - i
        rw [nI_1, nI_c (by omega)]; omega
    · left
      rw [if_neg (fun q => hz ((dst0 (g3 i hi) (g3 (i + 1) hi3)).mp q))]
      by_cases h0 : v1 = 0
      · rw [if_pos h0]; exact ⟨_, rfl, rfl, Or.inr ⟨i, hi3, hall, hz, by rw [if_pos h0]⟩⟩
      · rw [if_neg h0]; exact ⟨_, rfl, rfl, Or.inr ⟨i, hi3, hall, hz, by rw [if_neg h0]⟩⟩
/-- those whom A struck, of the first i of the row -/
def byA (a b : Nat) (r : Nat → Nat) : Nat → Nat
  | 0 => 0
  | i + 1 => if whoS (stq a b 0 i) = 0 then byA a b r i ||| 2 ^ r i else byA a b r i
theorem vq_at {m : Mi} {a b i S : Nat} (hi : i ≤ a + b) (hc : cnt S 12 = mN m + (a + b - i)) : VV m ((stq a b 0 i).1 + (stq a b 0 i).2.1) (stq a b 0 i).1 (stq a b 0 i).2.1 (stq a b 0 i).2.2 S = vq m a b 0 S := by
  obtain ⟨h1, -⟩ := stq_sum (a := a) (b := b) (sd := 0) (by decide) i hi
  unfold vq
  rw [show cnt S 12 - mN m = a + b - i by omega, show a + b + mN m - cnt S 12 = i by omega, show (stq a b 0 i).1 + (stq a b 0 i).2.1 = a + b - i by omega]
  rfl
def slipQ (s : St) (n : Nat) (v : Int32) (l : Int64) : Prop := ((∀ j, j < n → vr s j = vr s (j + 1)) ∧ v = -9 ∧ l = 0) ∨ ∃ i, i < n ∧ (∀ j, j < i → vr s j = vr s (j + 1)) ∧ vr s i ≠ vr s (i + 1) ∧ v = nI i ∧ l = lN (dst (vr s i) (vr s (i + 1)))
theorem slip_M {s : St} {σ μ : MM} (h : RelS s σ) (h' : RelM s μ) (he : enough (sC s)) (hl : lawf s) : ∃ v μ', f_X7_findSlip μ = some (v, μ') ∧ RelM s μ' ∧ μ'.1 0 20 = nI (byA (cK (sC s) 1) (cK (sC s) 2) (sR s).2 (cK (sC s) 1 + cK (sC s) 2)) ∧ slipQ s (cK (sC s) 1 + cK (sC s) 2) v (μ'.2 0 21) := by
  obtain ⟨⟨c0, a0, d0⟩, -⟩ := id h
  obtain ⟨g1, g2, g3⟩ := law_rs h he hl
  obtain ⟨μ1, m1, m2, m3, m4⟩ := turns_M h' he
  obtain ⟨⟨-, b0⟩, ⟨-, u2, u3⟩, -⟩ := id m2
  have hk := kb c0
  have hm := okM_of c0
  have hf2 := full_2 c0 he
  rw [hl.1] at u2 u3
  unfold f_X7_findSlip
  rw [m1, Option.bind_some, cset_M c0 b0, Option.bind_some, chk_t ib_1_5, chk_t ib_2_5, lm_eq, lm_eq, tn_1, tn_2, b0.2.2.2 1 (by decide), b0.2.2.2 2 (by decide)]
  generalize hμ2 : stI (stL μ1 0 21 0) 0 20 0 = μ2
  have hv : ∀ i, vr s i = vq (mOf (sC s)) (cK (sC s) 1) (cK (sC s) 2) 0 (rs (full (sC s)) (sR s).2 i) := fun i => rfl
  have hO : ∀ i, i < cK (sC s) 1 + cK (sC s) 2 → if whoS (stq (cK (sC s) 1) (cK (sC s) 2) 0 i) = 0 then vr s (i + 1) ≤ vr s i else vr s i ≤ vr s (i + 1) := by
    intro i hi
    obtain ⟨s1, s2⟩ := g1 i (by omega)
    obtain ⟨b1, b2⟩ := g2 i hi
    have := (vq_s (m := mOf (sC s)) (a := cK (sC s) 1) (b := cK (sC s) 2) (sd := 0) (S := rs (full (sC s)) (sR s).2 i) (k := cK (sC s) 1 + cK (sC s) 2 - i - 1) (by omega) (by omega)).1.2 _ b2 b1
    rw [show cK (sC s) 1 + cK (sC s) 2 - (cK (sC s) 1 + cK (sC s) 2 - i - 1 + 1) = i by omega] at this
    exact this
  generalize hA : cK (sC s) 1 = A at *
  generalize hB : cK (sC s) 2 = B at *
  have hL := lp_0 (step := fun s => g_X7_findSlip_43 s.1 s.2.1 s.2.2.1 s.2.2.2.1 s.2.2.2.2.1 s.2.2.2.2.2.1 s.2.2.2.2.2.2) (fun i t => t.1 = nI (rs (full (sC s)) (sR s).2 i) ∧ t.2.1 = nI (stq A B 0 i).1 ∧ t.2.2.1 = nI (stq A B 0 i).2.1 ∧ t.2.2.2.1 = nI (stq A B 0 i).2.2 ∧ t.2.2.2.2.2.1 = nI i ∧ slipQ s i t.2.2.2.2.1 (t.2.2.2.2.2.2.2 0 21) ∧ (∀ k, k ≠ 0 → t.2.2.2.2.2.2.1 k = μ1.1 k ∧ t.2.2.2.2.2.2.2 k = μ1.2 k) ∧ (∀ p, p ≠ 20 → t.2.2.2.2.2.2.1 0 p = μ1.1 0 p) ∧ t.2.2.2.2.2.2.1 0 20 = nI (byA A B (sR s).2 i))
    (fun r => slipQ s (A + B) r.1 (r.2.2 0 21) ∧ (∀ k, k ≠ 0 → r.2.1 k = μ1.1 k ∧ r.2.2 k = μ1.2 k) ∧ (∀ p, p ≠ 20 → r.2.1 0 p = μ1.1 0 p) ∧ r.2.1 0 20 = nI (byA A B (sR s).2 (A + B))) (A + B) (nI (full (sC s)), nI A, nI B, (0 : Int32), (-9 : Int32), (0 : Int32), μ2) (by omega)
    ⟨rfl, rfl, rfl, rfl, rfl, Or.inl ⟨fun j hj => by omega, rfl, by rw [← hμ2]; rfl⟩, fun k hk => ⟨by rw [← hμ2, stI_k hk]; rfl, by rw [← hμ2, stI_2, stL_k hk]⟩, fun p hp => by rw [← hμ2, stI_s, upd_n hp]; rfl, by rw [← hμ2, stI_s, upd_s]; rfl⟩ ?_ ?_
  · obtain ⟨r, q1, q2, q3, q4, q5⟩ := hL
    refine ⟨r.1, r.2, by rw [q1]; rfl, RelM_keep m2 (fun p hp => q4 p (fun e => by revert hp; rw [e]; decide)) (fun k hk => (q3 k (fun e => by revert hk; rw [e]; decide)).1), q5, q2⟩
  · rintro i ⟨x1, x2, x3, x4, x5, x6, τ⟩ hi ⟨f1, f2, f3, f4, f5, f6, f7, f8, f9⟩
    dsimp only at f1 f2 f3 f4 f5 f6 f7 f8 f9
    subst f1; subst f2; subst f3; subst f4; subst f5
    obtain ⟨q1, q2, q3, q4⟩ := stq_sum (a := A) (b := B) (sd := 0) (by decide) i (by omega)
    obtain ⟨p1, p2, p3, p4⟩ := stq_sum (a := A) (b := B) (sd := 0) (by decide) (i + 1) (by omega)
    obtain ⟨s1, s2⟩ := g1 i (by omega)
    obtain ⟨s3, s4⟩ := g1 (i + 1) hi
    obtain ⟨b1, b2⟩ := g2 i hi
    have l1 := sub_le s1
    have l2 := sub_le s3
    have hw := who_has (a := (stq A B 0 i).1) (b := (stq A B 0 i).2.1) q2 (by omega)
    have hx1 := idx_lt (a := (stq A B 0 i).1) (b := (stq A B 0 i).2.1) (sd := (stq A B 0 i).2.2) (S := rs (full (sC s)) (sR s).2 i) (by omega) (by omega) q2 (by omega)
    have hx2 := idx_lt (a := (stq A B 0 (i + 1)).1) (b := (stq A B 0 (i + 1)).2.1) (sd := (stq A B 0 (i + 1)).2.2) (S := rs (full (sC s)) (sR s).2 (i + 1)) (by omega) (by omega) p2 (by omega)
    have e0 : τ.1 14 i = nI ((sR s).2 i) := by rw [(f7 14 (by decide)).1]; exact (u3 i hi).2
    have e3 : nI (rs (full (sC s)) (sR s).2 i) &&& (((1 : Int32) <<< (nI ((sR s).2 i) &&& 31)) ^^^ (-1)) = nI (rs (full (sC s)) (sR s).2 (i + 1)) := out1 b1 b2
    have v1 : μ1.2 11 (idx (stq A B 0 i).1 (stq A B 0 i).2.1 (stq A B 0 i).2.2 (rs (full (sC s)) (sR s).2 i)) = lN (vr s i) := by
      rw [m4 _ _ _ _ q3 q4 q2 s1 (by omega), vq_at (by omega) s2, hv]
    have v2 : μ1.2 11 (idx (stq A B 0 (i + 1)).1 (stq A B 0 (i + 1)).2.1 (stq A B 0 (i + 1)).2.2 (rs (full (sC s)) (sR s).2 (i + 1))) = lN (vr s (i + 1)) := by
      rw [m4 _ _ _ _ p3 p4 p2 s3 (by omega), vq_at (by omega) s4, hv]
    have hst : stq A B 0 (i + 1) = stp (stq A B 0 i) := rfl
    have h19 : τ.1 0 19 = nI (A + B) := by rw [f8 19 (by decide)]; exact u2
    have hb := hO i hi
    have y1 := g3 i (by omega)
    have y2 := g3 (i + 1) hi
    -- the end of a step
    have fin : ∀ (v : Int32) (τ' : MM), (τ'.1 = τ.1 ∨ τ'.1 = (stI τ 0 20 (nI (byA A B (sR s).2 i ||| 2 ^ (sR s).2 i))).1) → (∀ k, k ≠ 0 → τ'.2 k = τ.2 k) → τ'.1 0 20 = nI (byA A B (sR s).2 (i + 1)) → slipQ s (i + 1) v (τ'.2 0 21) → ∃ s', some (Sum.inl (nI (rs (full (sC s)) (sR s).2 (i + 1)), nI (stq A B 0 (i + 1)).1, nI (stq A B 0 (i + 1)).2.1, nI (stq A B 0 (i + 1)).2.2, v, nI i + 1, τ')) = some (Sum.inl s' : (Int32 × Int32 × Int32 × Int32 × Int32 × Int32 × MM) ⊕ (Int32 × MM)) ∧ s'.1 = nI (rs (full (sC s)) (sR s).2 (i + 1)) ∧ s'.2.1 = nI (stq A B 0 (i + 1)).1 ∧ s'.2.2.1 = nI (stq A B 0 (i + 1)).2.1 ∧ s'.2.2.2.1 = nI (stq A B 0 (i + 1)).2.2 ∧ s'.2.2.2.2.2.1 = nI (i + 1) ∧ slipQ s (i + 1) s'.2.2.2.2.1 (s'.2.2.2.2.2.2.2 0 21) ∧ (∀ k, k ≠ 0 → s'.2.2.2.2.2.2.1 k = μ1.1 k ∧ s'.2.2.2.2.2.2.2 k = μ1.2 k) ∧ (∀ p, p ≠ 20 → s'.2.2.2.2.2.2.1 0 p = μ1.1 0 p) ∧ s'.2.2.2.2.2.2.1 0 20 = nI (byA A B (sR s).2 (i + 1)) := by
      intro v τ' t1 t2 t3 t4
      refine ⟨_, rfl, rfl, rfl, rfl, rfl, nI_1 i, t4, fun k hk => ⟨?_, by rw [← (f7 k hk).2]; exact t2 k hk⟩, fun p hp => ?_, t3⟩
      · dsimp only
        rcases t1 with t1 | t1
        · rw [t1]; exact (f7 k hk).1
        · rw [t1, stI_k hk]; exact (f7 k hk).1
      · dsimp only
        rcases t1 with t1 | t1
        · rw [t1]; exact f8 p hp
        · rw [t1, stI_s, upd_n hp]; exact f8 p hp
    -- the slip's place and loss
    have sq : slipQ s i x5 (τ.2 0 21) → (x5 = -9 → vr s (i + 1) = vr s i → slipQ s (i + 1) x5 (τ.2 0 21)) ∧ (x5 = -9 → vr s (i + 1) ≠ vr s i → ∀ l, l = lN (dst (vr s i) (vr s (i + 1))) → slipQ s (i + 1) (nI i) l) ∧ (x5 ≠ -9 → slipQ s (i + 1) x5 (τ.2 0 21)) := by
      intro hq
      have hne : ∀ j, j < 7 → nI j ≠ (-9 : Int32) := by decide
      rcases hq with ⟨a1, a2, a3⟩ | ⟨j, a1, a2, a3, a4, a5⟩
      · refine ⟨fun _ e => Or.inl ⟨fun j hj => ?_, a2, a3⟩, fun _ e l hl => Or.inr ⟨i, by omega, a1, fun q => e q.symm, rfl, hl⟩, fun q => absurd a2 q⟩
        by_cases ej : j = i
        · rw [ej]; exact e.symm
        · exact a1 j (by omega)
      · have : x5 ≠ -9 := by rw [a4]; exact hne j (by omega)
        exact ⟨fun q => absurd q this, fun q => absurd q this, fun _ => Or.inr ⟨j, by omega, a2, a3, a4, a5⟩⟩
    obtain ⟨z1, z2, z3⟩ := sq f6
    show ∃ s', g_X7_findSlip_43 (nI (rs (full (sC s)) (sR s).2 i)) (nI (stq A B 0 i).1) (nI (stq A B 0 i).2.1) (nI (stq A B 0 i).2.2) x5 (nI i) τ = some (.inl s') ∧ _
    unfold g_X7_findSlip_43
    rw [h19, if_neg (nI_ge hi (by omega)), mover_M q2 (by omega) (by omega), Option.bind_some, idx_M, Option.bind_some, chk_t (inb_nI hx1 (by omega)), chk_t (inb_nI (by omega) (by omega)), chk_t (inb_nI (by omega) (by omega)), nI_c (show i < 2147483648 by omega), e0, e3, nI_c (show idx _ _ _ _ < 2147483648 by omega), (f7 11 (by decide)).2, v1, f9, sh1 _ (show (sR s).2 i < 31 by omega), orI]
    have hwS : whoS (stq A B 0 i) = who (stq A B 0 i).1 (stq A B 0 i).2.1 (stq A B 0 i).2.2 := rfl
    have hd : ∀ x y : Nat, y ≤ x → lN (dst x y) = lN x - lN y := fun x y hxy => by unfold dst; rw [if_pos hxy, lN_sub hxy]
    have hd2 : ∀ x y : Nat, x ≤ y → lN (dst x y) = lN y - lN x := fun x y hxy => by
      unfold dst; rw [lN_sub hxy]
      by_cases e : y ≤ x
      · rw [if_pos e, show x - y = y - x by omega]
      · rw [if_neg e]
    rcases hw with ⟨w0, w1⟩ | ⟨w0, w1⟩
    · have o1 : nI (stq A B 0 i).1 + (-1) = nI (stq A B 0 (i + 1)).1 := by rw [hst]; unfold stp nA; dsimp only; rw [w0, if_pos rfl, sb_m1 w1]
      have o2 : nI (stq A B 0 i).2.1 = nI (stq A B 0 (i + 1)).2.1 := by rw [hst]; unfold stp nB; dsimp only; rw [w0, if_pos rfl]
      have o3 : (1 : Int32) - nI 0 = nI (stq A B 0 (i + 1)).2.2 := by rw [hst]; unfold stp; dsimp only; rw [w0]; rfl
      have o4 : byA A B (sR s).2 (i + 1) = byA A B (sR s).2 i ||| 2 ^ (sR s).2 i := by rw [byA, hwS, w0, if_pos rfl]
      rw [hwS, w0, if_pos rfl] at hb
      rw [w0, if_pos (show nI 0 = 0 from rfl), lm_eq, Option.bind_some]
      dsimp only
      rw [o1, o2, o3, idx_M, Option.bind_some, chk_t (inb_nI hx2 (by omega)), nI_c (show idx _ _ _ _ < 2147483648 by omega), stI_2, (f7 11 (by decide)).2, v2]
      have t20 : (stI τ 0 20 (nI (byA A B (sR s).2 i ||| 2 ^ (sR s).2 i))).1 0 20 = nI (byA A B (sR s).2 (i + 1)) := by rw [stI_s, upd_s, o4]
      by_cases h9 : x5 = -9
      · rw [if_pos h9]
        by_cases heq : vr s (i + 1) = vr s i
        · rw [if_pos (show lN (vr s (i + 1)) = lN (vr s i) by rw [heq])]
          exact fin _ _ (Or.inr rfl) (fun _ _ => rfl) t20 (z1 h9 heq)
        · rw [if_neg (fun q => heq ((fb_lN_inj (by omega) (by omega)).mp q)), if_pos (show nI 0 = 0 from rfl), lm_eq]
          refine fin _ _ (Or.inr rfl) (fun k hk => by rw [stL_k hk]; rfl) t20 (z2 h9 heq _ ?_)
          rw [stL_s, updL_s, hd _ _ hb]
      · rw [if_neg h9]
        exact fin _ _ (Or.inr rfl) (fun _ _ => rfl) t20 (z3 h9)
    · have o1 : nI (stq A B 0 i).1 = nI (stq A B 0 (i + 1)).1 := by rw [hst]; unfold stp nA; dsimp only; rw [w0, if_neg (by decide)]
      have o2 : nI (stq A B 0 i).2.1 + (-1) = nI (stq A B 0 (i + 1)).2.1 := by rw [hst]; unfold stp nB; dsimp only; rw [w0, if_neg (by decide), sb_m1 w1]
      have o3 : (1 : Int32) - nI 1 = nI (stq A B 0 (i + 1)).2.2 := by rw [hst]; unfold stp; dsimp only; rw [w0]; rfl
      have o4 : byA A B (sR s).2 (i + 1) = byA A B (sR s).2 i := by rw [byA, hwS, w0, if_neg (by decide)]
      rw [hwS, w0, if_neg (by decide)] at hb
      rw [w0, if_neg (show ¬ nI 1 = 0 from n10), Option.bind_some]
      dsimp only
      rw [o1, o2, o3, idx_M, Option.bind_some, chk_t (inb_nI hx2 (by omega)), nI_c (show idx _ _ _ _ < 2147483648 by omega), (f7 11 (by decide)).2, v2]
      have t20 : τ.1 0 20 = nI (byA A B (sR s).2 (i + 1)) := by rw [f9, o4]
      by_cases h9 : x5 = -9
      · rw [if_pos h9]
        by_cases heq : vr s (i + 1) = vr s i
        · rw [if_pos (show lN (vr s (i + 1)) = lN (vr s i) by rw [heq])]
          exact fin _ _ (Or.inl rfl) (fun _ _ => rfl) t20 (z1 h9 heq)
        · rw [if_neg (fun q => heq ((fb_lN_inj (by omega) (by omega)).mp q)), if_neg (show ¬ nI 1 = 0 from n10), lm_eq]
          refine fin _ _ (Or.inl rfl) (fun k hk => by rw [stL_k hk]) t20 (z2 h9 heq _ ?_)
          rw [stL_s, updL_s, hd2 _ _ hb]
      · rw [if_neg h9]
        exact fin _ _ (Or.inl rfl) (fun _ _ => rfl) t20 (z3 h9)
  · rintro ⟨x1, x2, x3, x4, x5, x6, τ⟩ ⟨f1, f2, f3, f4, f5, f6, f7, f8, f9⟩
    dsimp only at f1 f2 f3 f4 f5 f6 f7 f8 f9
    subst f1; subst f2; subst f3; subst f4; subst f5
    refine ⟨(x5, τ), ?_, f6, f7, f8, f9⟩
    show g_X7_findSlip_43 (nI (rs (full (sC s)) (sR s).2 (A + B))) (nI (stq A B 0 (A + B)).1) (nI (stq A B 0 (A + B)).2.1) (nI (stq A B 0 (A + B)).2.2) x5 (nI (A + B)) τ = _
    unfold g_X7_findSlip_43
    rw [show τ.1 0 19 = nI (A + B) by rw [f8 19 (by decide)]; exact u2, if_pos (nI_le (Nat.le_refl _) (by omega))]
theorem al_slip {s : St} {σ μ : MM} (h : RelS s σ) (h' : RelM s μ) (v1 : Int32) : Alike (f_X6_slip v1 σ) (f_X7_slip v1 μ) := by
  obtain ⟨⟨c0, a0, d0⟩, -⟩ := id h
  obtain ⟨⟨-, b0⟩, -⟩ := id h'
  have hcp := call_pos c0
  unfold f_X6_slip f_X7_slip
  rcases enough_dec (sC s) with he | he
  · rcases law_both h h' he with ⟨hl, l1, l2⟩ | ⟨-, l1, l2⟩
    · obtain ⟨σ', s1, s2, s3, -⟩ := know_S h he
      obtain ⟨r, t1, t2⟩ := slip_S s2 he hl s3 v1
      obtain ⟨v, μ', m1, m2, -, m4⟩ := slip_M h h' he hl
      refine ⟨r, s, σ', μ', ?_, ?_, s2, m2⟩
      · rw [l1, Option.bind_some, if_neg n10, s1, Option.bind_some, set_S c0 s2.1.2.1 he, Option.bind_some, t1]
      · rw [(enough_M c0 b0).1 he, Option.bind_some, if_neg n10, l2, Option.bind_some, if_neg n10, m1, Option.bind_some, uc_eq]
        have key : r = if v1 = 0 then v.toInt64 else μ'.2 0 21 := by
          rcases t2 with ⟨a1, a2⟩ | ⟨i, a1, a2, a3, a4⟩
          · rcases m4 with ⟨-, e1, e2⟩ | ⟨j, e1, -, e3, -⟩
            · rw [a2, e1, e2]; rfl
            · exact absurd (a1 j e1) e3
          · rcases m4 with ⟨e0, e1, e2⟩ | ⟨j, e1, e2, e3, e4, e5⟩
            · exact absurd (e0 i a1) a3
            · have : i = j := by
                rcases Nat.lt_trichotomy i j with q | q | q
                · exact absurd (e2 i q) a3
                · exact q
                · exact absurd (a2 j q) e3
              subst this
              rw [a4, e4, e5]
        rw [key]
        by_cases h0 : v1 = 0
        · rw [if_pos h0, if_pos h0]
        · rw [if_neg h0, if_neg h0]
    · refine alike_no 3 (by decide) h h' (r := rfL (-3)) ?_ ?_
      · rw [l1, Option.bind_some, if_pos z00, rl3]; rfl
      · rw [(enough_M c0 b0).1 he, Option.bind_some, if_neg n10, l2, Option.bind_some, if_pos z00, ml3]; rfl
  · refine alike_no 3 (by decide) h h' (r := rfL (-3)) ?_ ?_
    · rw [law_no h he, Option.bind_some, if_pos z00, rl3]; rfl
    · rw [(enough_M c0 b0).2 he, Option.bind_some, if_pos z00, ml3]; rfl
