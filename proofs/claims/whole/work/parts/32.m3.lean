/-! the program: how a set's members find (Minds) -/
def sL (k : Nat) (σ σ' : MM) : Prop := σ'.1 = σ.1 ∧ ∀ j, j ≠ k → σ'.2 j = σ.2 j
theorem sL_rf {k : Nat} {σ : MM} : sL k σ σ := ⟨rfl, fun _ _ => rfl⟩
theorem sL_tr {k : Nat} {σ σ' σ'' : MM} (h : sL k σ σ') (h' : sL k σ' σ'') : sL k σ σ'' := ⟨h'.1.trans h.1, fun j hj => (h'.2 j hj).trans (h.2 j hj)⟩
theorem sL_st {k i : Nat} {σ : MM} {x : Int64} : sL k σ (stL σ k i x) := ⟨rfl, fun j hj => stL_k hj⟩
theorem sL_sx {k : Nat} {ks : List Nat} {σ σ' : MM} (h : sL k σ σ') (hk : k ∈ ks) : sx ks σ σ' := fun j hj => ⟨by rw [h.1], h.2 j (fun e => hj (by rw [e]; exact hk))⟩
theorem l100 {x : Nat} (h : x ≤ 100) : (100 : Int64) - lN x = lN (100 - x) := by
  have h1 : (100 : Int64) = lN 100 := rfl
  rw [h1, lN_sub h]
theorem i100 {x : Nat} (h : x ≤ 100) : (100 : Int32) - nI x = nI (100 - x) := by
  have h1 : (100 : Int32) = nI 100 := rfl
  rw [h1, pk_sub h]
theorem spr79 {b q1 c x : Nat} {v2 v3 v4 : Int32} {F : Nat → Nat} {σ0 : MM} (hc : c + 1 ≤ 7) (h0 : ∀ k, k ≤ c → σ0.2 (b + 3) k = lN (F k)) (hn : σ0.2 (b + 3) (c + 1) = lN (nx F x (c + 1))) :
    ∃ σ', loopN (fun s => g_X2_spreadOut_79 b q1 v2 v3 v4 (lN x) (lN (100 - x)) s.1 s.2) FU (nI c, σ0) = some σ' ∧ sL (b + 3) σ0 σ' ∧ (∀ k, 1 ≤ k → k ≤ c + 1 → σ'.2 (b + 3) k = lN (nx F x k)) ∧ σ'.2 (b + 3) 0 = lN (F 0) := by
  refine lp_m (fun s => ∃ j, j ≤ c ∧ s.1 = nI j ∧ sL (b + 3) σ0 s.2 ∧ (∀ k, j < k → k ≤ c + 1 → s.2.2 (b + 3) k = lN (nx F x k)) ∧ ∀ k, k ≤ j → s.2.2 (b + 3) k = lN (F k)) _ (fun s => s.1.toNatClampNeg) (nI c, σ0) (by show (nI c).toNatClampNeg < 5000; rw [nI_c (by omega)]; omega) ⟨c, Nat.le_refl c, rfl, sL_rf, fun k h1 h2 => by rw [show k = c + 1 by omega]; exact hn, h0⟩ ?_
  rintro ⟨v, σ⟩ ⟨j, hj, hv, hs, h1, h2⟩
  dsimp only at hv h1 h2 hs
  subst hv
  match j, hj, h1, h2 with
  | 0, hj, h1, h2 =>
    left
    refine ⟨σ, ?_, hs, fun k a1 a2 => h1 k a1 a2, h2 0 (Nat.le_refl 0)⟩
    show g_X2_spreadOut_79 b q1 v2 v3 v4 (lN x) (lN (100 - x)) (nI 0) σ = _
    unfold g_X2_spreadOut_79
    rw [if_pos (by decide)]
  | j + 1, hj, h1, h2 =>
    right
    refine ⟨(nI j, stL σ (b + 3) (j + 1) (lN (nx F x (j + 1)))), ?_, ⟨j, by omega, rfl, sL_tr hs sL_st, fun k a1 a2 => ?_, fun k a1 => ?_⟩, ?_⟩
    · show g_X2_spreadOut_79 b q1 v2 v3 v4 (lN x) (lN (100 - x)) (nI (j + 1)) σ = _
      unfold g_X2_spreadOut_79
      have e1 : nI (j + 1) - 1 = nI j := nI_pred j
      have e2 : nI (j + 1) + (-1) = nI j := pk_m1 j
      rw [if_neg (nI_nle (by omega) (by omega)), chk_t (inb_nI (by omega) (by omega)), e1, chk_t (inb_nI (by omega) (by omega)), chk_t (inb_nI (by omega) (by omega)), lm_eq, e2, nI_c (by omega), nI_c (by omega), h2 (j + 1) (Nat.le_refl _), h2 j (by omega), lN_mul, lN_mul, lN_add]
      rfl
    · show (stL σ (b + 3) (j + 1) (lN (nx F x (j + 1)))).2 (b + 3) k = _
      rw [stL_s]
      by_cases hk : k = j + 1
      · rw [hk, updL_s]
      · rw [updL_n hk]; exact h1 k (by omega) a2
    · show (stL σ (b + 3) (j + 1) (lN (nx F x (j + 1)))).2 (b + 3) k = _
      rw [stL_s, updL_n (by omega)]
      exact h2 k (by omega)
    · show (nI j).toNatClampNeg < (nI (j + 1)).toNatClampNeg
      rw [nI_c (by omega), nI_c (by omega)]; omega
theorem mem_lt {S p i : Nat} (hS : S < 2 ^ p) (h : S.testBit i = true) : i < p := by
  rcases Nat.lt_or_ge i p with q | q
  · exact q
  · rw [Nat.testBit_lt_two_pow (Nat.lt_of_lt_of_le hS (Nat.pow_le_pow_right (by decide) q))] at h; cases h
theorem pow12 {p S : Nat} (hp : p ≤ 12) (hS : S < 2 ^ p) : S < 4096 := Nat.lt_of_lt_of_le hS (Nat.pow_le_pow_right (n := 2) (j := 12) (by decide) hp)
theorem spr_S {b q1 S n p : Nat} {l : Nat → Nat} {σ : MM} (hp : p ≤ 12) (hS : S < 2 ^ p) (hn : 1 ≤ n ∧ n ≤ 7) (hc : cnt S 12 = n) (hN : σ.1 b 4 = nI n) (hl : ∀ i, i < p → σ.1 q1 i = nI (l i) ∧ l i ≤ 100) :
    ∃ σ', f_X2_spreadOut b q1 (nI S) σ = some σ' ∧ sL (b + 3) σ σ' ∧ ∀ k, k ≤ n → σ'.2 (b + 3) k = lN (fd l S 12 k) := by
  unfold f_X2_spreadOut
  rw [chk_t ib_0_8, lm_eq]
  have hL := lp_m (step := fun s => g_X2_spreadOut_12 b q1 (nI S) s.1 s.2.1 s.2.2) (fun s => ∃ i, i ≤ 12 ∧ cnt S i ≤ n ∧ s.1 = nI (cnt S i) ∧ s.2.1 = nI i ∧ sL (b + 3) σ s.2.2 ∧ ∀ k, k ≤ cnt S i → s.2.2.2 (b + 3) k = lN (fd l S i k))
    (fun σ' => sL (b + 3) σ σ' ∧ ∀ k, k ≤ n → σ'.2 (b + 3) k = lN (fd l S 12 k)) (fun s => 12 - s.2.1.toNatClampNeg) ((0 : Int32), (0 : Int32), stL σ (b + 3) (0 : Int32).toNatClampNeg 1) (by show 12 - _ < 5000; omega)
    ⟨0, by omega, by show 0 ≤ n; omega, rfl, rfl, sL_st, fun k hk => by
      have : k = 0 := Nat.le_zero.mp hk
      subst this
      show (stL σ (b + 3) (0 : Int32).toNatClampNeg 1).2 (b + 3) 0 = _
      rw [stL_s]; rfl⟩ ?_
  · obtain ⟨σ', h1, h2, h3⟩ := hL
    exact ⟨σ', by rw [h1]; rfl, h2, h3⟩
  rintro ⟨v3, v4, τ⟩ ⟨i, hi, hci, e3, e4, hs, hF⟩
  dsimp only at e3 e4 hs hF
  subst e3; subst e4
  have hcl := cnt_le S i
  show (∃ r, g_X2_spreadOut_12 b q1 (nI S) (nI (cnt S i)) (nI i) τ = some (.inr r) ∧ _) ∨ ∃ s', g_X2_spreadOut_12 b q1 (nI S) (nI (cnt S i)) (nI i) τ = some (.inl s') ∧ _
  unfold g_X2_spreadOut_12
  by_cases h12 : 12 ≤ i
  · have c1 : (12 : Int32) ≤ nI i := nI_le (a := 12) h12 (by omega)
    left
    rw [if_pos c1]
    have : i = 12 := by omega
    subst this
    exact ⟨τ, rfl, hs, fun k hk => hF k (by omega)⟩
  have c1 : ¬ (12 : Int32) ≤ nI i := nI_ge (b := 12) (by omega) (by omega)
  rw [if_neg c1]
  have hN' : τ.1 b 4 = nI n := by rw [hs.1]; exact hN
  rw [hN']
  by_cases hfull : n ≤ cnt S i
  · left
    rw [if_pos (nI_le hfull (by omega))]
    refine ⟨τ, rfl, hs, fun k hk => ?_⟩
    rw [fd_stop (a := i) (by omega) (fun j a1 a2 => cnt_stop (a := i) (b := 12) (by omega) a1 a2)]
    exact hF k (by omega)
  rw [if_neg (nI_ge (Nat.not_le.mp hfull) (by omega))]
  right
  cases hq : S.testBit i with
  | false =>
    rw [if_pos ((bitS (by omega)).mpr hq)]
    refine ⟨(nI (cnt S i), nI i + 1, τ), rfl, ⟨i + 1, by omega, ?_, ?_, nI_1 i, hs, fun k hk => ?_⟩, ?_⟩
    · rw [cnt_s, hq]; simpa using hci
    · show nI (cnt S i) = nI (cnt S (i + 1)); rw [cnt_s, hq]; rfl
    · rw [fd_n hq]; rw [cnt_s, hq] at hk; exact hF k (by simpa using hk)
    · show 12 - (nI i + 1).toNatClampNeg < 12 - (nI i).toNatClampNeg
      rw [nI_1, nI_c (by omega), nI_c (by omega)]; omega
  | true =>
    rw [if_neg (fun q => by have := (bitS (by omega)).mp q; rw [hq] at this; cases this)]
    have hip := mem_lt hS hq
    obtain ⟨hli, hl1⟩ := hl i hip
    have hli' : τ.1 q1 i = nI (l i) := by rw [hs.1]; exact hli
    have e1 : nI (cnt S i) + 1 = nI (cnt S i + 1) := nI_1 _
    have e2 : nI (cnt S i + 1) - 1 = nI (cnt S i) := nI_pred _
    have e3 : (nI (l i)).toInt64 = lN (l i) := nI_l (by omega)
    rw [chk_t (inb_nI (by omega) (by omega)), e1, e2, chk_t (inb_nI (by omega) (by omega)), chk_t (inb_nI (by omega) (by omega)), lm_eq, nI_c (by omega), nI_c (by omega), nI_c (by omega), hli', e3, l100 hl1, hF _ (Nat.le_refl _), lN_mul]
    have hz : nx (fd l S i) (l i) (cnt S i + 1) = fd l S i (cnt S i) * l i := by
      show fd l S i (cnt S i + 1) * (100 - l i) + _ = _
      rw [fd_big i _ (by omega)]; simp
    obtain ⟨τ', a1, a2, a3, a4⟩ := spr79 (b := b) (q1 := q1) (c := cnt S i) (x := l i) (v2 := nI S) (v3 := nI (cnt S i + 1)) (v4 := nI i) (F := fd l S i) (σ0 := stL τ (b + 3) (cnt S i + 1) (lN (fd l S i (cnt S i) * l i))) (by omega)
      (fun k hk => by rw [stL_s, updL_n (by omega)]; exact hF k hk) (by rw [stL_s, updL_s, hz])
    rw [a1]
    refine ⟨(nI (cnt S i + 1), nI i + 1, stL τ' (b + 3) 0 (lN (fd l S i 0 * (100 - l i)))), ?_, ⟨i + 1, by omega, ?_, ?_, nI_1 i, sL_tr hs (sL_tr sL_st (sL_tr a2 sL_st)), fun k hk => ?_⟩, ?_⟩
    · rw [Option.bind_some, chk_t ib_0_8, chk_t ib_0_8, lm_eq]
      show some (Sum.inl (_, _, stL τ' (b + 3) 0 (τ'.2 (b + 3) 0 * _))) = _
      rw [a4, lN_mul]
    · rw [cnt_s, hq]; simp only [if_pos]; omega
    · show nI (cnt S i + 1) = nI (cnt S (i + 1)); rw [cnt_s, hq]; rfl
    · rw [cnt_s, hq] at hk
      simp only [if_pos] at hk
      show (stL τ' (b + 3) 0 (lN (fd l S i 0 * (100 - l i)))).2 (b + 3) k = _
      rw [stL_s, fd_y hq]
      match k, hk with
      | 0, _ => rw [updL_s]; rfl
      | k + 1, hk => rw [updL_n (by omega)]; exact a3 (k + 1) (by omega) hk
    · show 12 - (nI i + 1).toNatClampNeg < 12 - i
      rw [nI_1, nI_c (by omega)]; omega
/-- spread[from .. to] added up -/
theorem sum_S {b f t : Nat} {F : Nat → Nat} {σ : MM} (hf : f ≤ t + 1) (ht : t ≤ 7) (hF : ∀ k, k ≤ t → σ.2 (b + 3) k = lN (F k)) : f_X2_spreadSum b (nI f) (nI t) σ = some (lN (sm2 F f (t + 1))) := by
  unfold f_X2_spreadSum
  have h := lp_inv (step := fun s => g_X2_spreadSum_5 b (nI t) s.1 s.2 σ) (fun i s => s.1 = lN (sm2 F f (f + i)) ∧ s.2 = nI (f + i)) (fun r => r = lN (sm2 F f (t + 1))) (t + 1 - f) ?_ ?_ FU 0 ((0 : Int64), nI f) (by omega) (by unfold FU; omega) ⟨by show (0 : Int64) = _; rw [Nat.add_zero, sm2_0]; rfl, rfl⟩
  · obtain ⟨r, h1, h2⟩ := h
    rw [h1, h2]; rfl
  · rintro i ⟨a, v⟩ hi ⟨h1, h2⟩
    dsimp only at h1 h2
    subst h1; subst h2
    refine ⟨(lN (sm2 F f (f + i)) + lN (F (f + i)), nI (f + i) + 1), ?_, ?_, nI_1 _⟩
    · show g_X2_spreadSum_5 b (nI t) _ _ σ = _
      unfold g_X2_spreadSum_5
      rw [if_neg (by rw [nI_lt_iff (by omega) (by omega)]; omega), chk_t (inb_nI (by omega) (by omega)), nI_c (by omega), hF _ (by omega)]
    · show lN _ + lN _ = _
      rw [lN_add, ← Nat.add_assoc, sm2_s (by omega)]
  · rintro ⟨a, v⟩ ⟨h1, h2⟩
    dsimp only at h1 h2
    subst h1; subst h2
    refine ⟨_, ?_, rfl⟩
    show g_X2_spreadSum_5 b (nI t) _ _ σ = _
    unfold g_X2_spreadSum_5
    rw [if_pos (by rw [nI_lt_iff (by omega) (by omega)]; omega), show f + (t + 1 - f) = t + 1 by omega]
theorem div2 {n : Nat} (h : n < 100) : nI n / 2 = nI (n / 2) := pk_div (a := n) (d := 2) (by omega) (by omega) (by omega)
theorem forA_S {b S : Nat} {m : Mi} {l : Nat → Nat} {σ : MM} (hm : okM m) (h4 : σ.1 b 4 = nI (mN m)) (h5 : σ.1 b 5 = nI (mH m)) (hF : ∀ k, k ≤ mN m → σ.2 (b + 3) k = lN (fd l S 12 k)) : f_X2_findsForA b σ = some (lN (fA m l S)) := by
  have hN := hm.2.1
  have hH := hm.2.2.1
  unfold f_X2_findsForA fA
  rw [h5]
  by_cases h : mH m = 1
  · rw [if_pos h, if_neg (by rw [h]; decide), h4, chk_t (inb_nI (by omega) (by omega)), nI_c (by omega), hF _ (Nat.le_refl _)]
  · have h0 : mH m = 0 := by omega
    rw [if_neg h, if_pos (by rw [h0]; rfl), chk_t ndz_2, h4, div2 (by omega), nI_1, sum_S (by omega) (by omega) hF]
    rfl
theorem forB_S {S : Nat} {m : Mi} {l : Nat → Nat} {σ : MM} (hm : okM m) (h4 : σ.1 16 4 = nI (mN m)) (h5 : σ.1 16 5 = nI (mH m)) (hF : ∀ k, k ≤ mN m → σ.2 (16 + 3) k = lN (fd l S 12 k)) : f_X2_findsForB σ = some (lN (fB m l S)) := by
  have hN := hm.2.1
  have hH := hm.2.2.1
  unfold f_X2_findsForB fB
  rw [h5]
  by_cases h : mH m = 1
  · rw [if_pos h, if_neg (by rw [h]; decide), chk_t ib_0_8]
    show some (σ.2 19 0) = _
    rw [hF 0 (Nat.zero_le _)]
  · have h0 : mH m = 0 := by omega
    rw [if_neg h, if_pos (by rw [h0]; rfl), chk_t ndz_2, h4, div2 (by omega)]
    have := sum_S (b := 16) (f := 0) (t := mN m / 2) (F := fd l S 12) (σ := σ) (by omega) (by omega) (fun k hk => hF k (by omega))
    rw [show (0 : Int32) = nI 0 from rfl, this]
    rfl
theorem chance_S {b S : Nat} {m : Mi} {σ : MM} (hm : okM m) (hd : mdAt σ b m) (hj : jur m S) : ∃ σ', f_X2_chanceOf b (nI S) σ = some (lN (CH m S), σ') ∧ sL (b + 3) σ σ' := by
  obtain ⟨h4, h5, h6, hL⟩ := hd
  obtain ⟨σ1, a1, a2, a3⟩ := spr_S (b := b) (q1 := b + 1) (l := mF m) hm.1 hj.1 hm.2.1 hj.2 h4 (fun i hi => ⟨(hL i hi).1, (hm.2.2.2.2 i hi).1⟩)
  obtain ⟨σ2, b1, b2, b3⟩ := spr_S (b := b) (q1 := b + 2) (l := mG m) (σ := σ1) hm.1 hj.1 hm.2.1 hj.2 (by rw [a2.1]; exact h4) (fun i hi => ⟨by rw [a2.1]; exact (hL i hi).2, (hm.2.2.2.2 i hi).2⟩)
  have e0 : σ2.1 = σ.1 := by rw [b2.1, a2.1]
  have ht := hm.2.2.2.1
  refine ⟨σ2, ?_, sL_tr a2 b2⟩
  unfold f_X2_chanceOf
  rw [a1, Option.bind_some, forA_S hm (by rw [a2.1]; exact h4) (by rw [a2.1]; exact h5) a3, Option.bind_some, b1, Option.bind_some, forA_S hm (by rw [e0]; exact h4) (by rw [e0]; exact h5) b3, Option.bind_some, e0, h6, i100 ht, nI_l (by omega), nI_l (by omega), lN_mul, lN_mul, lN_add]
  rfl
theorem right_S {S : Nat} {m : Mi} {σ : MM} (hm : okM m) (hd : mdAt σ 16 m) (hj : jur m S) : ∃ σ', f_X2_rightOf (nI S) σ = some (lN (RI m S), σ') ∧ sL 19 σ σ' := by
  obtain ⟨h4, h5, h6, hL⟩ := hd
  obtain ⟨σ1, a1, a2, a3⟩ := spr_S (b := 16) (q1 := 17) (l := mF m) hm.1 hj.1 hm.2.1 hj.2 h4 (fun i hi => ⟨(hL i hi).1, (hm.2.2.2.2 i hi).1⟩)
  obtain ⟨σ2, b1, b2, b3⟩ := spr_S (b := 16) (q1 := 18) (l := mG m) (σ := σ1) hm.1 hj.1 hm.2.1 hj.2 (by rw [a2.1]; exact h4) (fun i hi => ⟨by rw [a2.1]; exact (hL i hi).2, (hm.2.2.2.2 i hi).2⟩)
  have e0 : σ2.1 = σ.1 := by rw [b2.1, a2.1]
  have ht := hm.2.2.2.1
  refine ⟨σ2, ?_, sL_tr a2 b2⟩
  unfold f_X2_rightOf
  rw [a1, Option.bind_some, forA_S hm (by rw [a2.1]; exact h4) (by rw [a2.1]; exact h5) a3, Option.bind_some, b1, Option.bind_some, forB_S hm (by rw [e0]; exact h4) (by rw [e0]; exact h5) b3, Option.bind_some, e0, h6, i100 ht, nI_l (by omega), nI_l (by omega), lN_mul, lN_mul, lN_add]
  rfl
