/-! the reference: how a set's members find -/
def hdAt (μ : MM) (m : Mi) : Prop := μ.1 0 6 = nI (mP m) ∧ μ.1 4 0 = nI (mN m) ∧ μ.1 4 3 = nI (mH m) ∧ μ.1 4 4 = nI (mT m) ∧ ∀ i, i < mP m → μ.1 8 (2 * i) = nI (mF m i) ∧ μ.1 8 (2 * i + 1) = nI (mG m i)
theorem two_mul {n : Nat} : (2 : Int32) * nI n = nI (2 * n) := pk_mul 2 n
theorem holds_M {μ : MM} {c : Cr} (hc : okC c) (hr : atR μ c) : ∃ μ', f_X7_holdsTrue μ = some μ' ∧ sx [8] μ μ' ∧ hdAt μ' (mOf c) := by
  obtain ⟨r1, r2, r3, r4⟩ := hr
  obtain ⟨c1, c2, c3, c4⟩ := hc
  unfold f_X7_holdsTrue
  have h := lp_0 (step := fun s => g_X7_holdsTrue_2 s.1 s.2) (fun i s => s.1 = nI i ∧ sx [8] μ s.2 ∧ ∀ j, j < i → s.2.1 8 (2 * j) = nI (cL c (cS c j)) ∧ s.2.1 8 (2 * j + 1) = nI (cM c (cS c j)))
    (fun r => sx [8] μ r ∧ ∀ j, j < cP c → r.1 8 (2 * j) = nI (cL c (cS c j)) ∧ r.1 8 (2 * j + 1) = nI (cM c (cS c j))) (cP c) ((0 : Int32), μ) (by omega) ⟨rfl, sx_rf, fun j hj => by omega⟩ ?_ ?_
  · obtain ⟨μ', h1, h2, h3⟩ := h
    refine ⟨μ', by rw [h1]; rfl, h2, ?_, ?_, ?_, ?_, h3⟩
    · rw [(h2 0 (by decide)).1]; exact r1
    · rw [(h2 4 (by decide)).1]; exact r4 0 (by decide)
    · rw [(h2 4 (by decide)).1]; exact r4 3 (by decide)
    · rw [(h2 4 (by decide)).1]; exact r4 4 (by decide)
  · rintro i ⟨v, τ⟩ hi ⟨h1, h2, h3⟩
    dsimp only at h1 h2 h3
    subst h1
    have hs := c3 i hi
    have e3 : τ.1 3 i = nI (cS c i) := by rw [(h2 3 (by decide)).1]; exact r3 i hi
    have e2 := (h2 2 (by decide)).1
    refine ⟨(nI i + 1, stI (stI τ 8 (2 * i) (nI (cL c (cS c i)))) 8 (2 * i + 1) (nI (cM c (cS c i)))), ?_, nI_1 i, sx_tr h2 (sx_tr (sx_I (by decide)) (sx_I (by decide))), fun j hj => ?_⟩
    · show g_X7_holdsTrue_2 (nI i) τ = _
      unfold g_X7_holdsTrue_2
      rw [show τ.1 0 6 = nI (cP c) by rw [(h2 0 (by decide)).1]; exact r1, if_neg (nI_ge hi (by omega)), chk_t (inb_nI (by omega) (by omega)), nI_c (by omega), e3, two_mul, two_mul, chk_t (inb_nI (by omega) (by omega)), chk_t (inb_nI (by omega) (by omega)), lm_eq, nI_c (by omega), nI_c (by omega), e2, (r2 _ hs).1,
        chk_t (inb_nI (by omega) (by omega)), stI_k (by decide), e3, two_mul, nI_1, nI_1, chk_t (inb_nI (by omega) (by omega)), chk_t (inb_nI (by omega) (by omega)), lm_eq, nI_c (by omega), nI_c (by omega), stI_k (by decide), e2, (r2 _ hs).2]
    · show (stI (stI τ 8 (2 * i) (nI (cL c (cS c i)))) 8 (2 * i + 1) (nI (cM c (cS c i)))).1 8 (2 * j) = _ ∧ (stI (stI τ 8 (2 * i) (nI (cL c (cS c i)))) 8 (2 * i + 1) (nI (cM c (cS c i)))).1 8 (2 * j + 1) = _
      rw [stI_s, stI_s]
      by_cases hj2 : j = i
      · subst hj2
        rw [upd_n (by omega), upd_s, upd_s]
        exact ⟨rfl, rfl⟩
      · rw [upd_n (by omega), upd_n (by omega), upd_n (by omega), upd_n (by omega)]
        exact h3 j (by omega)
  · rintro ⟨v, τ⟩ ⟨h1, h2, h3⟩
    dsimp only at h1 h2 h3
    subst h1
    refine ⟨τ, ?_, h2, h3⟩
    show g_X7_holdsTrue_2 (nI (cP c)) τ = _
    unfold g_X7_holdsTrue_2
    rw [show τ.1 0 6 = nI (cP c) by rw [(h2 0 (by decide)).1]; exact r1, if_pos (nI_le (Nat.le_refl _) (by omega))]
theorem ff2 {μ : MM} {v1 v2 : Int32} : ∃ μ', loopN (fun s => g_X7_findFor_2 v1 v2 s.1 s.2) FU ((0 : Int32), μ) = some μ' ∧ sL 9 μ μ' ∧ ∀ k, k < 8 → μ'.2 9 k = lN (if k = 0 then 1 else 0) := by
  refine lp_0 (fun i s => s.1 = nI i ∧ sL 9 μ s.2 ∧ ∀ k, k < i → s.2.2 9 k = lN (if k = 0 then 1 else 0)) _ 8 _ (by omega) ⟨rfl, sL_rf, fun k hk => by omega⟩ ?_ ?_
  · rintro i ⟨v, τ⟩ hi ⟨h1, h2, h3⟩
    dsimp only at h1 h2 h3
    subst h1
    refine ⟨(nI i + 1, stL τ 9 i (lN (if i = 0 then 1 else 0))), ?_, nI_1 i, sL_tr h2 sL_st, fun k hk => ?_⟩
    · show g_X7_findFor_2 v1 v2 (nI i) τ = _
      unfold g_X7_findFor_2
      have c1 : ¬ (8 : Int32) ≤ nI i := nI_ge (b := 8) hi (by omega)
      rw [if_neg c1]
      by_cases h0 : i = 0
      · subst h0
        rw [if_pos (by rfl), chk_t (inb_nI (by omega) (by omega)), lm_eq, nI_c (by omega)]; rfl
      · rw [if_neg (nI_ne0 (by omega) (by omega)), chk_t (inb_nI (by omega) (by omega)), lm_eq, nI_c (by omega), if_neg h0]; rfl
    · show (stL τ 9 i (lN (if i = 0 then 1 else 0))).2 9 k = _
      rw [stL_s]
      by_cases hk2 : k = i
      · rw [hk2, updL_s]
      · rw [updL_n hk2]; exact h3 k (by omega)
  · rintro ⟨v, τ⟩ ⟨h1, h2, h3⟩
    dsimp only at h1 h2 h3
    subst h1
    refine ⟨τ, ?_, h2, h3⟩
    show g_X7_findFor_2 v1 v2 (nI 8) τ = _
    unfold g_X7_findFor_2
    rw [if_pos (by decide)]
theorem ff74 {v1 v2 v4 : Int32} {n x : Nat} {F : Nat → Nat} {μ : MM} (hn : n ≤ 7) (hx : x ≤ 100) (hF : ∀ k, k < 8 → μ.2 9 k = lN (F k)) (hbig : ∀ k, n < k → nx F x k = F k) :
    ∃ μ', loopN (fun s => g_X7_findFor_74 v1 v2 (nI n) v4 (nI x) s.1 s.2) FU (nI n, μ) = some μ' ∧ sL 9 μ μ' ∧ ∀ k, k < 8 → μ'.2 9 k = lN (nx F x k) := by
  refine lp_0 (fun i s => s.1 = nI (n + 1 - i) + (-1) ∧ sL 9 μ s.2 ∧ (∀ k, n + 1 - i ≤ k → k < 8 → s.2.2 9 k = lN (nx F x k)) ∧ ∀ k, k < n + 1 - i → s.2.2 9 k = lN (F k)) _ (n + 1) _ (by omega) ⟨(pk_m1 n).symm, sL_rf, fun k h1 h2 => by rw [hbig k (by omega)]; exact hF k h2, fun k hk => hF k (by omega)⟩ ?_ ?_
  · rintro i ⟨v, τ⟩ hi ⟨h1, h2, h3, h4⟩
    dsimp only at h1 h2 h3 h4
    obtain ⟨j, hj⟩ : ∃ j, n + 1 - i = j + 1 := ⟨n - i, by omega⟩
    have hj2 : n + 1 - (i + 1) = j := by omega
    rw [hj] at h1 h3 h4
    rw [hj2]
    rw [pk_m1] at h1
    subst h1
    have ex : ((100 : Int32) - nI x).toInt64 = lN (100 - x) := by rw [i100 hx, nI_l (by omega)]
    have ex2 : (nI x).toInt64 = lN x := nI_l (by omega)
    refine ⟨(nI j + (-1), stL τ 9 j (lN (nx F x j))), ?_, rfl, sL_tr h2 sL_st, fun k a1 a2 => ?_, fun k a1 => ?_⟩
    · show g_X7_findFor_74 v1 v2 (nI n) v4 (nI x) (nI j) τ = _
      unfold g_X7_findFor_74
      rw [if_neg (nI_pos (by omega)), chk_t (inb_nI (by omega) (by omega)), nI_c (by omega), ex, ex2, h4 j (by omega)]
      match j, hj with
      | 0, hj =>
        rw [if_pos (by decide), chk_t (inb_nI (by omega) (by omega)), lm_eq, lN_mul]
        show some (Sum.inl (_, stL τ 9 0 (lN (F 0 * (100 - x)) + lN 0))) = _
        rw [lN_add]
        rfl
      | j + 1, hj =>
        rw [if_neg (nI_nle (by omega) (by omega)), nI_pred, chk_t (inb_nI (by omega) (by omega)), chk_t (inb_nI (by omega) (by omega)), lm_eq, nI_c (by omega), h4 j (by omega), lN_mul, lN_mul, lN_add]
        rfl
    · show (stL τ 9 j (lN (nx F x j))).2 9 k = _
      rw [stL_s]
      by_cases hk : k = j
      · rw [hk, updL_s]
      · rw [updL_n hk]; exact h3 k (by omega) a2
    · show (stL τ 9 j (lN (nx F x j))).2 9 k = _
      rw [stL_s, updL_n (by omega)]
      exact h4 k (by omega)
  · rintro ⟨v, τ⟩ ⟨h1, h2, h3, h4⟩
    dsimp only at h1 h2 h3 h4
    rw [Nat.sub_self] at h1 h3
    have h1' : v = -1 := h1
    subst h1'
    refine ⟨τ, ?_, h2, fun k hk => h3 k (Nat.zero_le k) hk⟩
    show g_X7_findFor_74 v1 v2 (nI n) v4 (nI x) (-1) τ = _
    unfold g_X7_findFor_74
    rw [if_pos (by decide)]
theorem ff_M {μ : MM} {S p w : Nat} {l : Nat → Nat} (hp : p ≤ 12) (hS : S < 2 ^ p) (hc : cnt S 12 ≤ 7) (hP : μ.1 0 6 = nI p) (hw : w < 2) (hl : ∀ i, i < p → μ.1 8 (2 * i + w) = nI (l i) ∧ l i ≤ 100) :
    ∃ μ', f_X7_findFor (nI S) (nI w) μ = some μ' ∧ sL 9 μ μ' ∧ ∀ k, k < 8 → μ'.2 9 k = lN (fd l S 12 k) := by
  unfold f_X7_findFor
  obtain ⟨μ0, a1, a2, a3⟩ := ff2 (μ := μ) (v1 := nI S) (v2 := nI w)
  rw [a1, Option.bind_some]
  have hS2 := pow12 hp hS
  have h := lp_0 (step := fun s => g_X7_findFor_34 (nI S) (nI w) s.1 s.2.1 s.2.2) (fun i s => s.1 = nI (cnt S i) ∧ s.2.1 = nI i ∧ sL 9 μ s.2.2 ∧ ∀ k, k < 8 → s.2.2.2 9 k = lN (fd l S i k))
    (fun r => sL 9 μ r ∧ ∀ k, k < 8 → r.2 9 k = lN (fd l S p k)) p ((0 : Int32), (0 : Int32), μ0) (by omega) ⟨rfl, rfl, a2, a3⟩ ?_ ?_
  · obtain ⟨μ', h1, h2, h3⟩ := h
    exact ⟨μ', by rw [h1]; rfl, h2, fun k hk => by rw [fd_lt hS hp]; exact h3 k hk⟩
  · rintro i ⟨v3, v4, τ⟩ hi ⟨e3, e4, hs, hF⟩
    dsimp only at e3 e4 hs hF
    subst e3; subst e4
    have hcl : cnt S (i + 1) ≤ 7 := Nat.le_trans (cnt_mono S (by omega)) hc
    have hcl0 : cnt S i ≤ 7 := Nat.le_trans (cnt_mono S (by omega)) hc
    have hP' : τ.1 0 6 = nI p := by rw [hs.1]; exact hP
    show ∃ s', g_X7_findFor_34 (nI S) (nI w) (nI (cnt S i)) (nI i) τ = some (.inl s') ∧ _
    unfold g_X7_findFor_34
    rw [hP', if_neg (nI_ge hi (by omega)), bitM (by omega) (by omega)]
    cases hq : S.testBit i with
    | false =>
      rw [if_pos (by rfl)]
      refine ⟨(nI (cnt S i), nI i + 1, τ), rfl, ?_, nI_1 i, hs, fun k hk => ?_⟩
      · show nI (cnt S i) = nI (cnt S (i + 1)); rw [cnt_s, hq]; rfl
      · rw [fd_n hq]; exact hF k hk
    | true =>
      rw [cnt_s, hq] at hcl
      simp only [if_pos] at hcl
      obtain ⟨hli, hl1⟩ := hl i hi
      have hli' : τ.1 8 (2 * i + w) = nI (l i) := by rw [hs.1]; exact hli
      obtain ⟨τ', b1, b2, b3⟩ := ff74 (v1 := nI S) (v2 := nI w) (v4 := nI i) (n := cnt S i + 1) (x := l i) (F := fd l S i) (μ := τ) (by omega) hl1 hF (fun k hk => by
        match k, hk with
        | k + 1, hk =>
          show fd l S i (k + 1) * (100 - l i) + fd l S i k * l i = fd l S i (k + 1)
          rw [fd_big i (k + 1) (by omega), fd_big i k (by omega)]; simp)
      rw [if_neg (by decide), two_mul, nI_add, chk_t (inb_nI (by omega) (by omega)), nI_c (by omega), hli', nI_1, b1, Option.bind_some]
      refine ⟨(nI (cnt S i + 1), nI i + 1, τ'), rfl, ?_, nI_1 i, sL_tr hs b2, fun k hk => ?_⟩
      · show nI (cnt S i + 1) = nI (cnt S (i + 1)); rw [cnt_s, hq]; rfl
      · rw [fd_y hq]; exact b3 k hk
  · rintro ⟨v3, v4, τ⟩ ⟨e3, e4, hs, hF⟩
    dsimp only at e3 e4 hs hF
    subst e3; subst e4
    refine ⟨τ, ?_, hs, hF⟩
    show g_X7_findFor_34 (nI S) (nI w) (nI (cnt S p)) (nI p) τ = _
    unfold g_X7_findFor_34
    rw [show τ.1 0 6 = nI p by rw [hs.1]; exact hP, if_pos (nI_le (Nat.le_refl _) (by omega))]
/-- the sum over all who are for A (a = 1), or not (a = 0) -/
theorem sm_A {F : Nat → Nat} {n : Nat} : ∀ j, fb_sm (fun k => if n < 2 * k then F k else 0) j = sm2 F (min j (n / 2 + 1)) j := by
  intro j
  induction j with
  | zero => rfl
  | succ j ih =>
    rw [fb_sm_succ, ih]
    by_cases h : n < 2 * j
    · rw [if_pos h, show min j (n / 2 + 1) = n / 2 + 1 by omega, show min (j + 1) (n / 2 + 1) = n / 2 + 1 by omega, sm2_s (by omega)]
    · rw [if_neg h, show min j (n / 2 + 1) = j by omega, show min (j + 1) (n / 2 + 1) = j + 1 by omega, sm2_0, sm2_0]
theorem sm_B {F : Nat → Nat} {n : Nat} : ∀ j, fb_sm (fun k => if n < 2 * k then 0 else F k) j = sm2 F 0 (min j (n / 2 + 1)) := by
  intro j
  induction j with
  | zero => rfl
  | succ j ih =>
    rw [fb_sm_succ, ih]
    by_cases h : n < 2 * j
    · rw [if_pos h, show min j (n / 2 + 1) = n / 2 + 1 by omega, show min (j + 1) (n / 2 + 1) = n / 2 + 1 by omega]; rfl
    · rw [if_neg h, show min j (n / 2 + 1) = j by omega, show min (j + 1) (n / 2 + 1) = j + 1 by omega, sm2_s (by omega)]
theorem fnd49 {F : Nat → Nat} {n a : Nat} {μ : MM} (hn : n ≤ 7) (ha : a < 2) (hF : ∀ k, k < 8 → μ.2 9 k = lN (F k)) :
    loopN (fun s => g_X7_found_49 (nI a) (nI n) s.1 s.2 μ) FU ((0 : Int64), (0 : Int32)) = some (lN (fb_sm (fun k => if (if n < 2 * k then 1 else 0) = a then F k else 0) (n + 1))) := by
  have h := lp_0 (step := fun s => g_X7_found_49 (nI a) (nI n) s.1 s.2 μ) (fun i s => s.1 = lN (fb_sm (fun k => if (if n < 2 * k then 1 else 0) = a then F k else 0) i) ∧ s.2 = nI i) (fun r => r = lN (fb_sm (fun k => if (if n < 2 * k then 1 else 0) = a then F k else 0) (n + 1))) (n + 1) ((0 : Int64), (0 : Int32)) (by omega) ⟨rfl, rfl⟩ ?_ ?_
  · obtain ⟨r, h1, h2⟩ := h
    rw [h1, h2]
  · rintro i ⟨v, w⟩ hi ⟨h1, h2⟩
    dsimp only at h1 h2
    subst h1; subst h2
    show ∃ s', g_X7_found_49 (nI a) (nI n) _ (nI i) μ = some (.inl s') ∧ _
    unfold g_X7_found_49
    rw [if_neg (nI_nlt (by omega) (by omega)), two_mul]
    have e : (if nI (2 * i) ≤ nI n then some (0 : Int32) else some 1) = some (nI (if n < 2 * i then 1 else 0)) := by
      by_cases h : n < 2 * i
      · rw [if_pos h, if_neg (nI_ge h (by omega))]; rfl
      · rw [if_neg h, if_pos (nI_le (Nat.not_lt.mp h) (by omega))]; rfl
    rw [e, Option.bind_some]
    have hb : (if n < 2 * i then 1 else 0) < 2 := by split <;> omega
    by_cases hq : (if n < 2 * i then 1 else 0) = a
    · rw [if_pos (by rw [hq]), chk_t (inb_nI (by omega) (by omega)), nI_c (by omega), hF i (by omega), lN_add]
      refine ⟨_, rfl, ?_, nI_1 i⟩
      show lN _ = _
      rw [fb_sm_succ, if_pos hq]
    · rw [if_neg (fun q => hq ((nI_eq_iff (by omega) (by omega)).mp q))]
      refine ⟨_, rfl, ?_, nI_1 i⟩
      show lN _ + 0 = _
      rw [fb_sm_succ, if_neg hq, show (0 : Int64) = lN 0 from rfl, lN_add]
  · rintro ⟨v, w⟩ ⟨h1, h2⟩
    dsimp only at h1 h2
    subst h1; subst h2
    refine ⟨_, ?_, rfl⟩
    show g_X7_found_49 (nI a) (nI n) _ (nI (n + 1)) μ = _
    unfold g_X7_found_49
    rw [if_pos (nI_lt (by omega) (by omega))]
theorem found_M {μ : MM} {S w : Nat} {m : Mi} {l : Nat → Nat} (a : Nat) (ha : a < 2) (hm : okM m) (hd : hdAt μ m) (hj : jur m S) (hw : w < 2) (hl : ∀ i, i < mP m → μ.1 8 (2 * i + w) = nI (l i) ∧ l i ≤ 100) :
    ∃ μ', f_X7_found (nI S) (nI w) (nI a) μ = some (lN (if a = 1 then fA m l S else fB m l S), μ') ∧ sL 9 μ μ' := by
  obtain ⟨h0, h1, h2, h3, -⟩ := hd
  have hN := hm.2.1
  have hH := hm.2.2.1
  obtain ⟨μ', a1, a2, a3⟩ := ff_M (μ := μ) (l := l) hm.1 hj.1 (by rw [hj.2]; omega) h0 hw hl
  refine ⟨μ', ?_, a2⟩
  unfold f_X7_found f_X7_needed
  rw [a1, Option.bind_some, chk_t ib_0_5, Option.bind_some, chk_t ib_3_5, tn_0, tn_3, show μ'.1 4 0 = nI (mN m) by rw [a2.1]; exact h1, show μ'.1 4 3 = nI (mH m) by rw [a2.1]; exact h2]
  by_cases h : mH m = 1
  · rw [if_pos (by rw [h]; rfl)]
    by_cases ha1 : a = 1
    · rw [if_neg (by rw [ha1]; decide), chk_t (inb_nI (by omega) (by omega)), nI_c (by omega), a3 _ (by omega), if_pos ha1]
      unfold fA; rw [if_pos h]
    · have ha0 : a = 0 := by omega
      rw [if_pos (by rw [ha0]; rfl), chk_t ib_0_8, a3 _ (by omega), if_neg ha1]
      unfold fB; rw [if_pos h]
  · have c1 : ¬ nI (mH m) = (1 : Int32) := fun q => h ((nI_eq_iff (b := 1) (by omega) (by omega)).mp q)
    rw [if_neg c1, fnd49 (by omega) ha a3, Option.bind_some]
    congr 2
    by_cases ha1 : a = 1
    · subst ha1
      rw [if_pos rfl]
      unfold fA
      rw [if_neg h]
      have e := sm_A (F := fd l S 12) (n := mN m) (mN m + 1)
      rw [show min (mN m + 1) (mN m / 2 + 1) = mN m / 2 + 1 by omega] at e
      rw [← e]
      congr 2
      funext k
      by_cases hk : mN m < 2 * k
      · simp [hk]
      · simp [hk]
    · have ha0 : a = 0 := by omega
      subst ha0
      rw [if_neg ha1]
      unfold fB
      rw [if_neg h]
      have e := sm_B (F := fd l S 12) (n := mN m) (mN m + 1)
      rw [show min (mN m + 1) (mN m / 2 + 1) = mN m / 2 + 1 by omega] at e
      rw [← e]
      congr 2
      funext k
      by_cases hk : mN m < 2 * k
      · simp [hk]
      · simp [hk]
theorem chance_M {μ : MM} {S : Nat} {m : Mi} (hm : okM m) (hd : hdAt μ m) (hj : jur m S) : ∃ μ', f_X7_chanceOf (nI S) μ = some (lN (CH m S), μ') ∧ sL 9 μ μ' := by
  obtain ⟨μ1, a1, a2⟩ := found_M (μ := μ) (w := 0) (l := mF m) 1 (by decide) hm hd hj (by decide) (fun i hi => ⟨(hd.2.2.2.2 i hi).1, (hm.2.2.2.2 i hi).1⟩)
  have hd1 : hdAt μ1 m := by unfold hdAt; rw [a2.1]; exact hd
  obtain ⟨μ2, b1, b2⟩ := found_M (μ := μ1) (w := 1) (l := mG m) 1 (by decide) hm hd1 hj (by decide) (fun i hi => ⟨(hd1.2.2.2.2 i hi).2, (hm.2.2.2.2 i hi).2⟩)
  have ht := hm.2.2.2.1
  refine ⟨μ2, ?_, sL_tr a2 b2⟩
  unfold f_X7_chanceOf
  rw [chk_t ib_4_5, show (0 : Int32) = nI 0 from rfl, show (1 : Int32) = nI 1 from rfl, a1, Option.bind_some, uc_eq, chk_t ib_4_5, b1, Option.bind_some, uc_eq, tn_4, hd.2.2.2.1, hd1.2.2.2.1, i100 ht, nI_l (by omega), nI_l (by omega), lN_mul, lN_mul, lN_add]
  rfl
theorem right_M {μ : MM} {S : Nat} {m : Mi} (hm : okM m) (hd : hdAt μ m) (hj : jur m S) : ∃ μ', f_X7_rightOf (nI S) μ = some (lN (RI m S), μ') ∧ sL 9 μ μ' := by
  obtain ⟨μ1, a1, a2⟩ := found_M (μ := μ) (w := 0) (l := mF m) 1 (by decide) hm hd hj (by decide) (fun i hi => ⟨(hd.2.2.2.2 i hi).1, (hm.2.2.2.2 i hi).1⟩)
  have hd1 : hdAt μ1 m := by unfold hdAt; rw [a2.1]; exact hd
  obtain ⟨μ2, b1, b2⟩ := found_M (μ := μ1) (w := 1) (l := mG m) 0 (by decide) hm hd1 hj (by decide) (fun i hi => ⟨(hd1.2.2.2.2 i hi).2, (hm.2.2.2.2 i hi).2⟩)
  have ht := hm.2.2.2.1
  refine ⟨μ2, ?_, sL_tr a2 b2⟩
  unfold f_X7_rightOf
  rw [chk_t ib_4_5, show (0 : Int32) = nI 0 from rfl, show (1 : Int32) = nI 1 from rfl, a1, Option.bind_some, uc_eq, chk_t ib_4_5, b1, Option.bind_some, uc_eq, tn_4, hd.2.2.2.1, hd1.2.2.2.1, i100 ht, nI_l (by omega), nI_l (by omega), lN_mul, lN_mul, lN_add]
  rfl
