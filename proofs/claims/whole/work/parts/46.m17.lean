/-! WRONGLY -/
def mW (c : Cr) (j x y : Nat) : Mi := (cP c, cK c 0, cK c 3, cK c 4, fun i => if cS c i = j then x else cL c (cS c i), fun i => if cS c i = j then y else cM c (cS c i))
theorem okM_W {c : Cr} {j x y : Nat} (hc : okC c) (hx : x ≤ 100) (hy : y ≤ 100) : okM (mW c j x y) := by
  obtain ⟨h1, h2, h3, h4, h5⟩ := okM_of hc
  refine ⟨h1, h2, h3, h4, fun i hi => ?_⟩
  show (if cS c i = j then x else cL c (cS c i)) ≤ 100 ∧ (if cS c i = j then y else cM c (cS c i)) ≤ 100
  by_cases e : cS c i = j
  · rw [if_pos e, if_pos e]; exact ⟨hx, hy⟩
  · rw [if_neg e, if_neg e]; exact h5 i hi
theorem take29 {s : St} {σ : MM} (h : RelS s σ) : ∃ σ', f_X2_take 29 σ = some σ' ∧ RelS s σ' ∧ mdAt σ' 29 (mOf (sC s)) ∧ (∀ k, k ≠ 29 → k ≠ 30 → k ≠ 31 → σ'.1 k = σ.1 k) := by
  obtain ⟨⟨c0, a0, d0⟩, -⟩ := id h
  obtain ⟨σ', t1, t2, t3, t4⟩ := take_S (b := 29) (Or.inr rfl) c0 a0
  exact ⟨σ', t1, RelS_keep h (t2 0 (by decide) (by decide) (by decide)) (fun k hk => t2 k (fun e => by revert hk; rw [e]; decide) (fun e => by revert hk; rw [e]; decide) (fun e => by revert hk; rw [e]; decide)) (by rw [t3]), t4, t2⟩
theorem wr51 {s : St} {σ : MM} {j x y : Nat} (h : RelS s σ) (hd : mdAt σ 29 (mOf (sC s))) (hj : j < 6) : ∃ σ', loopN (fun t => g_X6_wrongly_51 (nI j) (nI x) (nI y) t.1 t.2) FU ((0 : Int32), σ) = some σ' ∧ RelS s σ' ∧ mdAt σ' 29 (mW (sC s) j x y) := by
  obtain ⟨⟨c0, a0, d0⟩, -⟩ := id h
  obtain ⟨a1, a2, a3, a4⟩ := a0
  have hP := c0.1
  have a3' : ∀ i, i < cP (sC s) → σ.1 4 i = nI (cS (sC s) i) := a3
  obtain ⟨e4, e5, e6, eL⟩ := hd
  have hq := lp_0 (step := fun t => g_X6_wrongly_51 (nI j) (nI x) (nI y) t.1 t.2) (fun i t => t.1 = nI i ∧ t.2.2 = σ.2 ∧ (∀ k, k ≠ 30 → k ≠ 31 → t.2.1 k = σ.1 k) ∧ (∀ q, q < i → t.2.1 30 q = nI (mF (mW (sC s) j x y) q) ∧ t.2.1 31 q = nI (mG (mW (sC s) j x y) q)) ∧ ∀ q, i ≤ q → t.2.1 30 q = σ.1 30 q ∧ t.2.1 31 q = σ.1 31 q)
    (fun r => r.2 = σ.2 ∧ (∀ k, k ≠ 30 → k ≠ 31 → r.1 k = σ.1 k) ∧ ∀ q, q < cP (sC s) → r.1 30 q = nI (mF (mW (sC s) j x y) q) ∧ r.1 31 q = nI (mG (mW (sC s) j x y) q)) (cP (sC s)) ((0 : Int32), σ) (by omega) ⟨rfl, rfl, fun _ _ _ => rfl, fun q hq => by omega, fun _ _ => ⟨rfl, rfl⟩⟩ ?_ ?_
  · obtain ⟨r, r1, r2, r3, r4⟩ := hq
    refine ⟨r, r1, RelS_keep h (r3 0 (by decide) (by decide)) (fun k hk => r3 k (fun e => by revert hk; rw [e]; decide) (fun e => by revert hk; rw [e]; decide)) (by rw [r2]), ?_, ?_, ?_, r4⟩
    · rw [r3 29 (by decide) (by decide)]; exact e4
    · rw [r3 29 (by decide) (by decide)]; exact e5
    · rw [r3 29 (by decide) (by decide)]; exact e6
  · rintro i ⟨v, τ⟩ hi ⟨f1, f2, f3, f4, f5⟩
    dsimp only at f1 f2 f3 f4 f5
    subst f1
    have hs := c0.2.2.1 i hi
    show ∃ s', g_X6_wrongly_51 (nI j) (nI x) (nI y) (nI i) τ = some (.inl s') ∧ _
    unfold g_X6_wrongly_51
    have g1 : mF (mW (sC s) j x y) i = if cS (sC s) i = j then x else cL (sC s) (cS (sC s) i) := rfl
    have g2 : mG (mW (sC s) j x y) i = if cS (sC s) i = j then y else cM (sC s) (cS (sC s) i) := rfl
    rw [show τ.1 1 4 = nI (cP (sC s)) by rw [f3 1 (by decide) (by decide)]; exact a1, if_neg (nI_ge hi (by omega)), chk_t (inb_nI (by omega) (by omega)), nI_c (by omega), show τ.1 4 i = nI (cS (sC s) i) by rw [f3 4 (by decide) (by decide)]; exact a3' i hi]
    by_cases e : cS (sC s) i = j
    · rw [if_pos (show nI (cS (sC s) i) = nI j by rw [e])]
      unfold f_X2_lean
      rw [chk_t (inb_nI (by omega) (by omega)), lm_eq, chk_t (inb_nI (by omega) (by omega)), lm_eq, nI_c (by omega), Option.bind_some]
      refine ⟨_, rfl, nI_1 i, f2, fun k h1 h2 => ?_, fun q hq => ?_, fun q hq => ?_⟩
      · show (stI (stI τ 30 i (nI x)) 31 i (nI y)).1 k = _
        rw [stI_k h2, stI_k h1]; exact f3 k h1 h2
      · show (stI (stI τ 30 i (nI x)) 31 i (nI y)).1 30 q = _ ∧ (stI (stI τ 30 i (nI x)) 31 i (nI y)).1 31 q = _
        rw [stI_k (by decide), stI_s, stI_s, stI_k (by decide)]
        by_cases eq : q = i
        · rw [eq, upd_s, upd_s, g1, g2, if_pos e, if_pos e]; exact ⟨rfl, rfl⟩
        · rw [upd_n eq, upd_n eq]; exact f4 q (by omega)
      · show (stI (stI τ 30 i (nI x)) 31 i (nI y)).1 30 q = _ ∧ (stI (stI τ 30 i (nI x)) 31 i (nI y)).1 31 q = _
        rw [stI_k (by decide), stI_s, stI_s, stI_k (by decide), upd_n (by omega), upd_n (by omega)]
        exact f5 q (by omega)
    · rw [if_neg (fun q => e ((nI_eq_iff (by omega) (by omega)).mp q))]
      refine ⟨_, rfl, nI_1 i, f2, f3, fun q hq => ?_, fun q hq => f5 q (by omega)⟩
      by_cases eq : q = i
      · subst eq
        rw [g1, g2, if_neg e, if_neg e]
        show τ.1 30 q = _ ∧ τ.1 31 q = _
        rw [(f5 q (Nat.le_refl _)).1, (f5 q (Nat.le_refl _)).2]
        exact eL q hi
      · exact f4 q (by omega)
  · rintro ⟨v, τ⟩ ⟨f1, f2, f3, f4, f5⟩
    dsimp only at f1 f2 f3 f4 f5
    subst f1
    refine ⟨τ, ?_, f2, f3, f4⟩
    show g_X6_wrongly_51 (nI j) (nI x) (nI y) (nI (cP (sC s))) τ = _
    unfold g_X6_wrongly_51
    rw [show τ.1 1 4 = nI (cP (sC s)) by rw [f3 1 (by decide) (by decide)]; exact a1, if_pos (nI_le (Nat.le_refl _) (by omega))]
theorem with_S2 {s : St} {σ : MM} {q1 a b sd : Nat} {m : Mi} (h : RelS s σ) (hq : isMd q1) (hm : okM m) (hd : mdAt σ q1 m) (hn : mN m = cK (sC s) 0) (ha : a ≤ 3) (hb : b ≤ 3) (hs : sd < 2) (hp : mN m + a + b ≤ mP m) :
    ∃ σ', f_X6_valueWith q1 (nI a) (nI b) (nI sd) σ = some (lN (VV m (a + b) a b sd (2 ^ (mN m + a + b) - 1)), σ') ∧ RelS s σ' ∧ tnOK σ' 46 m (2 ^ (mN m + a + b) - 1) a b sd ∧ (∀ k, k < 46 ∨ 50 ≤ k → σ'.1 k = σ.1 k) ∧ σ'.2 45 = σ.2 45 := by
  obtain ⟨⟨c0, a0, d0⟩, -⟩ := id h
  have hm1 := hm.1
  have hk := kb c0
  have hall : 2 ^ (mN m + a + b) - 1 < 2 ^ mP m := by
    have h1 : 2 ^ (mN m + a + b) ≤ 2 ^ mP m := Nat.pow_le_pow_right (by decide) hp
    have := two_pos (mN m + a + b)
    omega
  have hcn : cnt (2 ^ (mN m + a + b) - 1) 12 = mN m + a + b := by rw [cnt_full, Nat.min_eq_left (by omega)]
  obtain ⟨σ', s1, s2, s3, s4, s5⟩ := other_S (q1 := q1) (sd := sd) h hq hm hd hall ha hb hs hcn
  refine ⟨σ', ?_, s2, s3, s4, s5⟩
  unfold f_X6_valueWith f_X6_setOfFirst
  rw [need_S a0, Option.bind_some, ← hn, nI_add, nI_add, allS _ (by omega), Option.bind_some, s1, Option.bind_some, valueOf_S (pow12 hm1 hall), Option.bind_some, s3.2.2.2 _ sub_rf (by rw [hcn]; omega), vq0 hcn]
/-- the sets left, A being wrong -/
def lw (m m' : Mi) (a b F : Nat) : Nat → Nat
  | 0 => F
  | i + 1 => lw m m' a b F i ^^^ 2 ^ (if whoS (stq a b 0 i) = 0 then bs m' a b 0 (lw m m' a b F i) else bs m a b 0 (lw m m' a b F i))
theorem lw_ok {m m' : Mi} {a b F : Nat} (hn : mN m' = mN m) (hc : cnt F 12 = mN m + a + b) : ∀ i, i ≤ a + b → sub (lw m m' a b F i) F ∧ cnt (lw m m' a b F i) 12 = mN m + (a + b - i) := by
  intro i
  induction i with
  | zero => intro _; exact ⟨sub_rf, by show cnt F 12 = _; omega⟩
  | succ i ih =>
    intro hi
    obtain ⟨h1, h2⟩ := ih (by omega)
    obtain ⟨b1, b2, -⟩ := bs_ok (m := m) (a := a) (b := b) (sd := 0) (S := lw m m' a b F i) (k := a + b - i - 1) (by omega) (by omega)
    obtain ⟨b3, b4, -⟩ := bs_ok (m := m') (a := a) (b := b) (sd := 0) (S := lw m m' a b F i) (k := a + b - i - 1) (by omega) (by omega)
    unfold lw
    by_cases hw : whoS (stq a b 0 i) = 0
    · rw [if_pos hw]
      have hx := cnt_del12 b4 b3
      exact ⟨sub_tr (sub_del b4) h1, by omega⟩
    · rw [if_neg hw]
      have hx := cnt_del12 b2 b1
      exact ⟨sub_tr (sub_del b2) h1, by omega⟩
theorem two_S {c : Cr} {m' : Mi} {σ : MM} (hc : okC c) (he : enough c) (ha : atS σ 1 c) (hm' : okM m') (hn : mN m' = mN (mOf c)) (hp : mP m' = mP (mOf c)) (h1 : tnC σ c) (h2 : tnOK σ 46 m' (full c) (cK c 1) (cK c 2) 0) : f_X6_juryOfTwoMinds σ = some (nI (lw (mOf c) m' (cK c 1) (cK c 2) (full c) (cK c 1 + cK c 2))) := by
  have hk := kb hc
  have hm := okM_of hc
  have hcn := full_cnt hc he
  have hfl := full_lt he
  have hlw := lw_ok (m := mOf c) (m' := m') hn hcn
  have eS : f_X0_strikes σ = some (nI (cK c 1 + cK c 2)) := by
    unfold f_X0_strikes
    rw [chk_t ib_1_5, chk_t ib_2_5, tn_1, tn_2, show σ.1 5 1 = nI (cK c 1) from ha.2.2.2 1 (by decide), show σ.1 5 2 = nI (cK c 2) from ha.2.2.2 2 (by decide), nI_add]
  unfold f_X6_juryOfTwoMinds
  rw [set_S hc ha he, Option.bind_some, eS, Option.bind_some]
  have hq := lp_0 (step := fun t => g_X6_juryOfTwoMinds_18 (nI (cK c 1 + cK c 2)) t.1 t.2 σ) (fun i t => t = (nI (lw (mOf c) m' (cK c 1) (cK c 2) (full c) i), nI i)) (fun r => r = nI (lw (mOf c) m' (cK c 1) (cK c 2) (full c) (cK c 1 + cK c 2))) (cK c 1 + cK c 2) (nI (full c), (0 : Int32)) (by omega) rfl ?_ ?_
  · obtain ⟨r, r1, r2⟩ := hq
    rw [r1, r2]; rfl
  · rintro i t hi rfl
    obtain ⟨l1, l2⟩ := hlw i (by omega)
    obtain ⟨x1, x2, x3⟩ := next_S (S := lw (mOf c) m' (cK c 1) (cK c 2) (full c) i) (i := i) hm h1.2 hfl l1 hi l2
    obtain ⟨y1, y2, y3⟩ := next_S (S := lw (mOf c) m' (cK c 1) (cK c 2) (full c) i) (i := i) hm' h2 (by rw [hp]; exact hfl) l1 hi (by rw [hn]; exact l2)
    have hwl : whoS (stq (cK c 1) (cK c 2) 0 i) < 2 := who_lt (stq_sum (a := cK c 1) (b := cK c 2) (sd := 0) (by decide) i (by omega)).2.1
    show ∃ s', g_X6_juryOfTwoMinds_18 (nI (cK c 1 + cK c 2)) (nI _) (nI i) σ = some (.inl s') ∧ _
    unfold g_X6_juryOfTwoMinds_18
    rw [if_neg (nI_ge hi (by omega)), sideAt0_S hc ha hi, Option.bind_some]
    by_cases hw : whoS (stq (cK c 1) (cK c 2) 0 i) = 0
    · rw [if_pos (by rw [hw]; rfl), Option.bind_some, if_neg n10, y1, Option.bind_some, Option.bind_some, out1 y3 y2]
      exact ⟨_, rfl, by rw [lw, if_pos hw, nI_1]⟩
    · rw [if_neg (nI_ne (by omega) (by omega)), Option.bind_some, if_pos z00, x1, Option.bind_some, Option.bind_some, out1 x3 x2]
      exact ⟨_, rfl, by rw [lw, if_neg hw, nI_1]⟩
  · rintro t rfl
    refine ⟨_, ?_, rfl⟩
    show g_X6_juryOfTwoMinds_18 (nI (cK c 1 + cK c 2)) (nI _) (nI (cK c 1 + cK c 2)) σ = _
    unfold g_X6_juryOfTwoMinds_18
    rw [if_pos (nI_le (Nat.le_refl _) (by omega))]
theorem wrong_M {s : St} {μ : MM} {j x y : Nat} (h' : RelM s μ) (hj : j < 6) : ∃ μ', f_X7_holdsWrong (nI j) (nI x) (nI y) μ = some μ' ∧ RelM s μ' ∧ hdAt μ' (mW (sC s) j x y) := by
  obtain ⟨μ1, m1, m2, m3⟩ := RelM_hold h'
  obtain ⟨⟨c0, b0⟩, -⟩ := id m2
  have hP := c0.1
  obtain ⟨d1, d2, d3, d4, dL⟩ := id m3
  have dL' : ∀ i, i < cP (sC s) → μ1.1 8 (2 * i) = nI (cL (sC s) (cS (sC s) i)) ∧ μ1.1 8 (2 * i + 1) = nI (cM (sC s) (cS (sC s) i)) := dL
  unfold f_X7_holdsWrong
  rw [m1, Option.bind_some]
  have hq := lp_0 (step := fun t => g_X7_holdsWrong_7 (nI j) (nI x) (nI y) t.1 t.2) (fun i t => t.1 = nI i ∧ sx [8] μ1 t.2 ∧ (∀ q, q < i → t.2.1 8 (2 * q) = nI (mF (mW (sC s) j x y) q) ∧ t.2.1 8 (2 * q + 1) = nI (mG (mW (sC s) j x y) q)) ∧ ∀ q, i ≤ q → t.2.1 8 (2 * q) = μ1.1 8 (2 * q) ∧ t.2.1 8 (2 * q + 1) = μ1.1 8 (2 * q + 1))
    (fun r => sx [8] μ1 r ∧ ∀ q, q < cP (sC s) → r.1 8 (2 * q) = nI (mF (mW (sC s) j x y) q) ∧ r.1 8 (2 * q + 1) = nI (mG (mW (sC s) j x y) q)) (cP (sC s)) ((0 : Int32), μ1) (by omega) ⟨rfl, sx_rf, fun q hq => by omega, fun _ _ => ⟨rfl, rfl⟩⟩ ?_ ?_
  · obtain ⟨r, r1, r2, r3⟩ := hq
    refine ⟨r, by rw [r1]; rfl, RelM_keep m2 (fun p _ => by rw [(r2 0 (by decide)).1]) (fun k hk => (r2 k (fun q => by revert hk; simp at q; rw [q]; decide)).1), ?_, ?_, ?_, ?_, r3⟩
    · rw [(r2 0 (by decide)).1]; exact d1
    · rw [(r2 4 (by decide)).1]; exact d2
    · rw [(r2 4 (by decide)).1]; exact d3
    · rw [(r2 4 (by decide)).1]; exact d4
  · rintro i ⟨v, τ⟩ hi ⟨f1, f2, f3, f4⟩
    dsimp only at f1 f2 f3 f4
    subst f1
    have hs := c0.2.2.1 i hi
    have g1 : mF (mW (sC s) j x y) i = if cS (sC s) i = j then x else cL (sC s) (cS (sC s) i) := rfl
    have g2 : mG (mW (sC s) j x y) i = if cS (sC s) i = j then y else cM (sC s) (cS (sC s) i) := rfl
    show ∃ s', g_X7_holdsWrong_7 (nI j) (nI x) (nI y) (nI i) τ = some (.inl s') ∧ _
    unfold g_X7_holdsWrong_7
    rw [show τ.1 0 6 = nI (cP (sC s)) by rw [(f2 0 (by decide)).1]; exact b0.1, if_neg (nI_ge hi (by omega)), chk_t (inb_nI (by omega) (by omega)), nI_c (by omega), show τ.1 3 i = nI (cS (sC s) i) by rw [(f2 3 (by decide)).1]; exact b0.2.2.1 i hi, two_mul, nI_1]
    by_cases e : cS (sC s) i = j
    · rw [if_pos (show nI (cS (sC s) i) = nI j by rw [e]), chk_t (inb_nI (by omega) (by omega)), lm_eq, chk_t (inb_nI (by omega) (by omega)), lm_eq, nI_c (by omega), nI_c (by omega)]
      refine ⟨_, rfl, nI_1 i, sx_tr f2 (sx_tr (sx_I (by decide)) (sx_I (by decide))), fun q hq => ?_, fun q hq => ?_⟩
      · show (stI (stI τ 8 (2 * i) (nI x)) 8 (2 * i + 1) (nI y)).1 8 (2 * q) = _ ∧ (stI (stI τ 8 (2 * i) (nI x)) 8 (2 * i + 1) (nI y)).1 8 (2 * q + 1) = _
        rw [stI_s, stI_s]
        by_cases eq : q = i
        · rw [eq, upd_n (by omega), upd_s, upd_s, g1, g2, if_pos e, if_pos e]; exact ⟨rfl, rfl⟩
        · rw [upd_n (by omega), upd_n (by omega), upd_n (by omega), upd_n (by omega)]; exact f3 q (by omega)
      · show (stI (stI τ 8 (2 * i) (nI x)) 8 (2 * i + 1) (nI y)).1 8 (2 * q) = _ ∧ (stI (stI τ 8 (2 * i) (nI x)) 8 (2 * i + 1) (nI y)).1 8 (2 * q + 1) = _
        rw [stI_s, stI_s, upd_n (by omega), upd_n (by omega), upd_n (by omega), upd_n (by omega)]
        exact f4 q (by omega)
    · rw [if_neg (fun q => e ((nI_eq_iff (by omega) (by omega)).mp q))]
      refine ⟨_, rfl, nI_1 i, f2, fun q hq => ?_, fun q hq => f4 q (by omega)⟩
      by_cases eq : q = i
      · subst eq
        rw [g1, g2, if_neg e, if_neg e]
        show τ.1 8 (2 * q) = _ ∧ τ.1 8 (2 * q + 1) = _
        rw [(f4 q (Nat.le_refl _)).1, (f4 q (Nat.le_refl _)).2]
        exact dL' q hi
      · exact f3 q (by omega)
  · rintro ⟨v, τ⟩ ⟨f1, f2, f3, f4⟩
    dsimp only at f1 f2 f3 f4
    subst f1
    refine ⟨τ, ?_, f2, f3⟩
    show g_X7_holdsWrong_7 (nI j) (nI x) (nI y) (nI (cP (sC s))) τ = _
    unfold g_X7_holdsWrong_7
    rw [show τ.1 0 6 = nI (cP (sC s)) by rw [(f2 0 (by decide)).1]; exact b0.1, if_pos (nI_le (Nat.le_refl _) (by omega))]
theorem wr105 {s : St} {μ : MM} {j x y : Nat} {v5 : Int64} (h' : RelM s μ) (he : enough (sC s)) (hj : j < 6) (hx : x ≤ 100) (hy : y ≤ 100) : ∃ μ', loopN (fun t => g_X7_wrongly_105 (nI j) (nI x) (nI y) v5 t.1 t.2.1 t.2.2.1 t.2.2.2.1 t.2.2.2.2) FU (nI (full (sC s)), nI (cK (sC s) 1), nI (cK (sC s) 2), (0 : Int32), μ) = some (nI (lw (mOf (sC s)) (mW (sC s) j x y) (cK (sC s) 1) (cK (sC s) 2) (full (sC s)) (cK (sC s) 1 + cK (sC s) 2)), μ') ∧ RelM s μ' := by
  obtain ⟨⟨c0, -⟩, -⟩ := id h'
  have hk := kb c0
  have hm := okM_of c0
  have hm' := okM_W (j := j) c0 hx hy
  have hcn := full_cnt c0 he
  have hfl := full_lt he
  have hlw := lw_ok (m := mOf (sC s)) (m' := mW (sC s) j x y) rfl hcn
  generalize hA : cK (sC s) 1 = A at hk hcn hlw ⊢
  generalize hB : cK (sC s) 2 = B at hk hcn hlw ⊢
  have hq := lp_0 (step := fun t => g_X7_wrongly_105 (nI j) (nI x) (nI y) v5 t.1 t.2.1 t.2.2.1 t.2.2.2.1 t.2.2.2.2) (fun i t => t.1 = nI (lw (mOf (sC s)) (mW (sC s) j x y) A B (full (sC s)) i) ∧ t.2.1 = nI (stq A B 0 i).1 ∧ t.2.2.1 = nI (stq A B 0 i).2.1 ∧ t.2.2.2.1 = nI (stq A B 0 i).2.2 ∧ RelM s t.2.2.2.2) (fun r => r.1 = nI (lw (mOf (sC s)) (mW (sC s) j x y) A B (full (sC s)) (A + B)) ∧ RelM s r.2) (A + B) (nI (full (sC s)), nI A, nI B, (0 : Int32), μ) (by omega) ⟨rfl, rfl, rfl, rfl, h'⟩ ?_ ?_
  · obtain ⟨r, r1, r2, r3⟩ := hq
    exact ⟨r.2, by rw [r1, ← r2], r3⟩
  · rintro i ⟨x1, x2, x3, x4, τ⟩ hi ⟨f1, f2, f3, f4, f5⟩
    dsimp only at f1 f2 f3 f4 f5
    subst f1; subst f2; subst f3; subst f4
    obtain ⟨q1, q2, q3, q4⟩ := stq_sum (a := A) (b := B) (sd := 0) (by decide) i (by omega)
    obtain ⟨l1, l2⟩ := hlw i (by omega)
    have hlt : lw (mOf (sC s)) (mW (sC s) j x y) A B (full (sC s)) i < 2 ^ cP (sC s) := sub_lt l1 hfl
    have hw := who_has (a := (stq A B 0 i).1) (b := (stq A B 0 i).2.1) q2 (by omega)
    have hst : stq A B 0 (i + 1) = stp (stq A B 0 i) := rfl
    have hwS : whoS (stq A B 0 i) = who (stq A B 0 i).1 (stq A B 0 i).2.1 (stq A B 0 i).2.2 := rfl
    show ∃ s', g_X7_wrongly_105 (nI j) (nI x) (nI y) v5 (nI _) (nI _) (nI _) (nI _) τ = some (.inl s') ∧ _
    unfold g_X7_wrongly_105
    rw [nI_add, if_neg (nI_nle (by omega) (by omega)), mover_M q2 (by omega) (by omega), Option.bind_some]
    rcases hw with ⟨w0, w1⟩ | ⟨w0, w1⟩
    · obtain ⟨τ1, t1, t2, t3⟩ := wrong_M (j := j) (x := x) (y := y) f5 hj
      obtain ⟨τ2, n1, n2, n3⟩ := best_M (left := lw (mOf (sC s)) (mW (sC s) j x y) A B (full (sC s)) i) (A := (stq A B 0 i).1) (B := (stq A B 0 i).2.1) hm' t3 hlt (by omega) (by omega)
      have hstk := bs_stq (m := mW (sC s) j x y) (a := A) (b := B) (sd := 0) (i := i) (S := lw (mOf (sC s)) (mW (sC s) j x y) A B (full (sC s)) i) (by decide) hi l2
      obtain ⟨b1, b2, -⟩ := bs_ok (m := mW (sC s) j x y) (a := A) (b := B) (sd := 0) (S := lw (mOf (sC s)) (mW (sC s) j x y) A B (full (sC s)) i) (k := A + B - i - 1) (by show _ = mN (mOf (sC s)) + _; omega) (by omega)
      have o1 : nI (stq A B 0 i).1 + (-1) = nI (stq A B 0 (i + 1)).1 := by rw [hst]; unfold stp nA; dsimp only; rw [w0, if_pos rfl, sb_m1 w1]
      have o2 : nI (stq A B 0 i).2.1 = nI (stq A B 0 (i + 1)).2.1 := by rw [hst]; unfold stp nB; dsimp only; rw [w0, if_pos rfl]
      have o3 : (1 : Int32) - nI 0 = nI (stq A B 0 (i + 1)).2.2 := by rw [hst]; unfold stp; dsimp only; rw [w0]; rfl
      have hst2 := strike_M (left := lw (mOf (sC s)) (mW (sC s) j x y) A B (full (sC s)) i) (A := (stq A B 0 i).1) (B := (stq A B 0 i).2.1) (S := lw (mOf (sC s)) (mW (sC s) j x y) A B (full (sC s)) i) hm' hlt (by omega) (by omega) (Nat.le_refl _) (Nat.le_refl _) q2 sub_rf (by omega) (by show _ = mN (mOf (sC s)) + _; omega) n3
      rw [w0, if_pos (show nI 0 = 0 from rfl), t1, Option.bind_some, Option.bind_some, n1, Option.bind_some, hst2, Option.bind_some, if_pos (show nI 0 = 0 from rfl), hstk, out1 b2 b1, o3]
      refine ⟨_, rfl, ?_, o1, o2, rfl, best_keep t2 n2⟩
      show nI _ = _
      rw [lw, hwS, w0, if_pos rfl]
    · obtain ⟨τ1, t1, t2, t3⟩ := RelM_hold f5
      obtain ⟨τ2, n1, n2, n3⟩ := best_M (left := lw (mOf (sC s)) (mW (sC s) j x y) A B (full (sC s)) i) (A := (stq A B 0 i).1) (B := (stq A B 0 i).2.1) hm t3 hlt (by omega) (by omega)
      have hstk := bs_stq (m := mOf (sC s)) (a := A) (b := B) (sd := 0) (i := i) (S := lw (mOf (sC s)) (mW (sC s) j x y) A B (full (sC s)) i) (by decide) hi l2
      obtain ⟨b1, b2, -⟩ := bs_ok (m := mOf (sC s)) (a := A) (b := B) (sd := 0) (S := lw (mOf (sC s)) (mW (sC s) j x y) A B (full (sC s)) i) (k := A + B - i - 1) (by omega) (by omega)
      have o1 : nI (stq A B 0 i).1 = nI (stq A B 0 (i + 1)).1 := by rw [hst]; unfold stp nA; dsimp only; rw [w0, if_neg (by decide)]
      have o2 : nI (stq A B 0 i).2.1 + (-1) = nI (stq A B 0 (i + 1)).2.1 := by rw [hst]; unfold stp nB; dsimp only; rw [w0, if_neg (by decide), sb_m1 w1]
      have o3 : (1 : Int32) - nI 1 = nI (stq A B 0 (i + 1)).2.2 := by rw [hst]; unfold stp; dsimp only; rw [w0]; rfl
      have hst2 := strike_M (left := lw (mOf (sC s)) (mW (sC s) j x y) A B (full (sC s)) i) (A := (stq A B 0 i).1) (B := (stq A B 0 i).2.1) (S := lw (mOf (sC s)) (mW (sC s) j x y) A B (full (sC s)) i) hm hlt (by omega) (by omega) (Nat.le_refl _) (Nat.le_refl _) q2 sub_rf (by omega) (by omega) n3
      rw [w0, if_neg (show ¬ nI 1 = 0 from n10), t1, Option.bind_some, Option.bind_some, n1, Option.bind_some, hst2, Option.bind_some, if_neg (show ¬ nI 1 = 0 from n10), hstk, out1 b2 b1, o3]
      refine ⟨_, rfl, ?_, o1, o2, rfl, best_keep t2 n2⟩
      show nI _ = _
      rw [lw, hwS, w0, if_neg (by decide)]
  · rintro ⟨x1, x2, x3, x4, τ⟩ ⟨f1, f2, f3, f4, f5⟩
    dsimp only at f1 f2 f3 f4 f5
    subst f1; subst f2; subst f3; subst f4
    obtain ⟨q1, q2, q3, q4⟩ := stq_sum (a := A) (b := B) (sd := 0) (by decide) (A + B) (Nat.le_refl _)
    refine ⟨(nI (lw (mOf (sC s)) (mW (sC s) j x y) A B (full (sC s)) (A + B)), τ), ?_, rfl, f5⟩
    show g_X7_wrongly_105 (nI j) (nI x) (nI y) v5 (nI _) (nI _) (nI _) (nI _) τ = _
    unfold g_X7_wrongly_105
    have c1 : nI ((stq A B 0 (A + B)).1 + (stq A B 0 (A + B)).2.1) ≤ 0 := nI_le (b := 0) (by omega) (by omega)
    rw [nI_add, if_pos c1]
theorem al_wrongly {s : St} {σ μ : MM} (h : RelS s σ) (h' : RelM s μ) (v1 v2 v3 : Int32) : Alike (f_X6_wrongly v1 v2 v3 σ) (f_X7_wrongly v1 v2 v3 μ) := by
  obtain ⟨⟨c0, a0, d0⟩, -⟩ := id h
  obtain ⟨⟨-, b0⟩, -⟩ := id h'
  have hcp := call_pos c0
  have hk := kb c0
  unfold f_X6_wrongly f_X7_wrongly
  rw [lr_S, Option.bind_some]
  by_cases h1 : v1 < 0 ∨ 6 ≤ v1
  · have e : lr v1 v2 v3 = -1 := by unfold lr; rw [if_pos h1]
    refine alike_no 1 (by decide) h h' (r := rfL (-1)) ?_ ?_
    · rw [e, if_neg nm1, rl1]; rfl
    · rw [soM_n h1, Option.bind_some, if_pos z00, ml1]; rfl
  rw [soM_y h1, Option.bind_some, if_neg n10]
  by_cases h2 : v2 < 0
  · have e : lr v1 v2 v3 = -4 := by unfold lr; rw [if_neg h1, if_pos h2]
    refine alike_no 4 (by decide) h h' (r := rfL (-4)) ?_ ?_
    · rw [e, if_neg nm4, rl4]; rfl
    · rw [if_pos h2, Option.bind_some, if_neg nm4, ml4]; rfl
  by_cases h3 : 0 ≤ v3
  · by_cases h4 : 100 < v2
    · have e : lr v1 v2 v3 = -6 := by unfold lr; rw [if_neg h1, if_neg h2, if_pos h3, if_pos h4]
      refine alike_no 6 (by decide) h h' (r := rfL (-6)) ?_ ?_
      · rw [e, if_neg nm6, rl6]; rfl
      · rw [if_neg h2, if_pos h3, if_pos h4, Option.bind_some, if_neg nm6, ml6]; rfl
    by_cases h5 : v3 ≤ 100
    · have e : lr v1 v2 v3 = 0 := by unfold lr; rw [if_neg h1, if_neg h2, if_pos h3, if_neg h4, if_pos h5]
      obtain ⟨j, hj, rfl⟩ := so_nat h1
      obtain ⟨x, hx, rfl⟩ := ix2 (x := v2) 100 (by omega) h2 h4
      obtain ⟨y, hy, rfl⟩ := ix2 (x := v3) 100 (by omega) (ge0.mp h3) (nle.mp h5)
      rw [e, if_pos z00, if_neg h2, if_pos h3, if_neg h4, if_pos h5]
      rcases enough_dec (sC s) with he | he
      · have hm := okM_of c0
        have hm' := okM_W (j := j) c0 hx hy
        have hcn := full_cnt c0 he
        obtain ⟨σ1, s1, s2, s3, -⟩ := take29 h
        obtain ⟨σ2, t1, t2, t3⟩ := wr51 (x := x) (y := y) s2 s3 hj
        obtain ⟨σ3, u1, u2, u3, u4, u5⟩ := know_S t2 he
        have d3 : mdAt σ3 29 (mW (sC s) j x y) := by
          unfold mdAt at t3 ⊢
          rw [u4 29 (by omega) (by decide), u4 (29 + 1) (by omega) (by decide), u4 (29 + 2) (by omega) (by decide)]; exact t3
        obtain ⟨σ4, w1, w2, w3, w4, w5⟩ := with_S2 (q1 := 29) (sd := 0) (a := cK (sC s) 1) (b := cK (sC s) 2) u2 (Or.inr rfl) hm' d3 rfl hk.2.1 hk.2.2.1 (by decide) he
        have htn : tnC σ4 (sC s) := by
          refine ⟨he, ?_⟩
          have := u3.2
          unfold tnOK at this ⊢
          rw [w4 42 (by omega), show σ4.2 (42 + 3) = σ3.2 (42 + 3) from w5]; exact this
        have hjw := two_S (c := sC s) (m' := mW (sC s) j x y) c0 he w2.1.2.1 hm' rfl rfl htn w3
        obtain ⟨l1, l2⟩ := lw_ok (m := mOf (sC s)) (m' := mW (sC s) j x y) rfl hcn (cK (sC s) 1 + cK (sC s) 2) (Nat.le_refl _)
        have hll : lw (mOf (sC s)) (mW (sC s) j x y) (cK (sC s) 1) (cK (sC s) 2) (full (sC s)) (cK (sC s) 1 + cK (sC s) 2) < 4096 := by
          have := sub_le l1
          have := full_2 c0 he
          omega
        obtain ⟨σ', y1, y2, -⟩ := vbt_S w2 he
        obtain ⟨μ1, m1, m2, m3, m4⟩ := turns_M h' he
        have b1 := m2.1.2
        obtain ⟨μ2, n1, n2⟩ := wr105 (j := j) (x := x) (y := y) (v5 := lN (VV (mOf (sC s)) (cK (sC s) 1 + cK (sC s) 2) (cK (sC s) 1) (cK (sC s) 2) 0 (full (sC s)))) m2 he hj hx hy
        obtain ⟨μ3, o1, o2, o3⟩ := RelM_hold n2
        obtain ⟨μ', p1, p2⟩ := chance_M (S := lw (mOf (sC s)) (mW (sC s) j x y) (cK (sC s) 1) (cK (sC s) 2) (full (sC s)) (cK (sC s) 1 + cK (sC s) 2)) hm o3 ⟨sub_lt l1 (full_lt he), by omega⟩
        have hval : vq (mOf (sC s)) (cK (sC s) 1) (cK (sC s) 2) 0 (lw (mOf (sC s)) (mW (sC s) j x y) (cK (sC s) 1) (cK (sC s) 2) (full (sC s)) (cK (sC s) 1 + cK (sC s) 2)) = CH (mOf (sC s)) (lw (mOf (sC s)) (mW (sC s) j x y) (cK (sC s) 1) (cK (sC s) 2) (full (sC s)) (cK (sC s) 1 + cK (sC s) 2)) := by
          unfold vq
          rw [show cnt (lw (mOf (sC s)) (mW (sC s) j x y) (cK (sC s) 1) (cK (sC s) 2) (full (sC s)) (cK (sC s) 1 + cK (sC s) 2)) 12 - mN (mOf (sC s)) = 0 by omega]; rfl
        refine ⟨lN (CH (mOf (sC s)) (lw (mOf (sC s)) (mW (sC s) j x y) (cK (sC s) 1) (cK (sC s) 2) (full (sC s)) (cK (sC s) 1 + cK (sC s) 2))) - lN (VV (mOf (sC s)) (cK (sC s) 1 + cK (sC s) 2) (cK (sC s) 1) (cK (sC s) 2) 0 (full (sC s))), s, σ', μ', ?_, ?_, y2, RelM_keep o2 (fun p _ => by rw [p2.1]) (fun k _ => by rw [p2.1])⟩
        · have w1' : f_X6_valueWith 29 (nI (cK (sC s) 1)) (nI (cK (sC s) 2)) 0 σ3 = some (lN (VV (mW (sC s) j x y) (cK (sC s) 1 + cK (sC s) 2) (cK (sC s) 1) (cK (sC s) 2) 0 (2 ^ (mN (mW (sC s) j x y) + cK (sC s) 1 + cK (sC s) 2) - 1)), σ4) := w1
          rw [(called_S c0 a0).1 he, Option.bind_some, if_neg (nI_ne (by omega) (by omega)), s1, Option.bind_some, t1, Option.bind_some, u1, Option.bind_some, (str_S u2.1.2.1).1, Option.bind_some, (str_S u2.1.2.1).2, Option.bind_some, w1', Option.bind_some, uc_eq, hjw, Option.bind_some, valueOf_S hll, Option.bind_some, y1, htn.2.2.2.2 _ l1 (by omega), hval]; rfl
        · rw [(enough_M c0 b0).1 he, Option.bind_some, if_neg n10, Option.bind_some, if_pos z00, m1, Option.bind_some, turnsOf_M c0 he b1 m4, Option.bind_some, cset_M c0 b1, Option.bind_some, chk_t ib_1_5, chk_t ib_2_5, tn_1, tn_2, b1.2.2.2 1 (by decide), b1.2.2.2 2 (by decide), n1, Option.bind_some]
          dsimp only
          rw [o1, Option.bind_some, p1]; rfl
      · refine alike_no 3 (by decide) h h' (r := rfL (-3)) ?_ ?_
        · rw [(called_S c0 a0).2 he, Option.bind_some, if_pos z00, rl3]; rfl
        · rw [(enough_M c0 b0).2 he, Option.bind_some, if_pos z00, Option.bind_some, if_neg nm3, ml3]; rfl
    · have e : lr v1 v2 v3 = -6 := by unfold lr; rw [if_neg h1, if_neg h2, if_pos h3, if_neg h4, if_neg h5]
      refine alike_no 6 (by decide) h h' (r := rfL (-6)) ?_ ?_
      · rw [e, if_neg nm6, rl6]; rfl
      · rw [if_neg h2, if_pos h3, if_neg h4, if_neg h5, Option.bind_some, if_neg nm6, ml6]; rfl
  · have e : lr v1 v2 v3 = -4 := by unfold lr; rw [if_neg h1, if_neg h2, if_neg h3]
    refine alike_no 4 (by decide) h h' (r := rfL (-4)) ?_ ?_
    · rw [e, if_neg nm4, rl4]; rfl
    · rw [if_neg h2, if_neg h3, Option.bind_some, if_neg nm4, ml4]; rfl
