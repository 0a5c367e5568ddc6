/-! PAPER: lists of sets, rows and columns -/
def ppL (i k : Nat) : List Nat := (List.range i).filter (fun S => decide (cnt S 12 = k))
theorem ppL_of (F k : Nat) : setsOf F k = ppL (F + 1) k := rfl
theorem ppL_s (i k : Nat) : ppL (i + 1) k = if cnt i 12 = k then ppL i k ++ [i] else ppL i k := by
  unfold ppL
  rw [List.range_succ, List.filter_append]
  by_cases h : cnt i 12 = k
  · rw [if_pos h]
    simp [h]
  · rw [if_neg h]
    simp [h]
theorem ppL_pre (i k : Nat) : ∀ j, ppL i k <+: ppL (i + j) k := by
  intro j
  induction j with
  | zero => exact List.prefix_refl _
  | succ j ih =>
    refine ih.trans ?_
    show ppL (i + j) k <+: ppL (i + j + 1) k
    rw [ppL_s]
    split
    · exact List.prefix_append _ _
    · exact List.prefix_refl _
theorem ppL_len (k : Nat) : ∀ i, (ppL i k).length = fb_sm (fun S => if cnt S 12 = k then 1 else 0) i := by
  intro i
  induction i with
  | zero => rfl
  | succ i ih =>
    rw [ppL_s, fb_sm_succ, ← ih]
    by_cases h : cnt i 12 = k
    · rw [if_pos h, if_pos h, List.length_append]; rfl
    · rw [if_neg h, if_neg h]; rfl
theorem nc_220 : ∀ n, n < 13 → ∀ k, k < 4 → nc n k ≤ 220 ∧ (k ≤ n → 1 ≤ nc n k) := by decide
theorem sets_len {n k : Nat} (hn : n ≤ 12) (hk : k ≤ 3) : (setsOf (2 ^ n - 1) k).length = nc n k := by
  rw [ppL_of, show 2 ^ n - 1 + 1 = 2 ^ n by have := two_pos n; omega, ppL_len, ← sum_nc]
  unfold sumS
  exact fb_sm_cong (fun S hS => by rw [cnt_lt hS hn])
theorem sets_220 {n k : Nat} (hn : n ≤ 12) (hk : k ≤ 3) : (setsOf (2 ^ n - 1) k).length ≤ 220 ∧ (k ≤ n → 1 ≤ (setsOf (2 ^ n - 1) k).length) := by
  rw [sets_len hn hk]
  exact nc_220 n (by omega) k (by omega)
theorem sets_mem {F k S : Nat} : S ∈ setsOf F k ↔ S ≤ F ∧ cnt S 12 = k := by
  unfold setsOf
  rw [List.mem_filter, List.mem_range]
  simp
  omega
def ppA (f : Nat → Int32) (L : List Nat) : Prop := ∀ k x, L[k]? = some x → f k = nI x
theorem ppA_g {f : Nat → Int32} {L : List Nat} (h : ppA f L) {j : Nat} (hj : j < L.length) : f j = nI (L.getD j 0) := by
  refine h j _ ?_
  rw [List.getD_eq_getElem?_getD, List.getElem?_eq_getElem hj]; rfl
theorem getD_mem {L : List Nat} {j : Nat} (hj : j < L.length) : L.getD j 0 ∈ L := by
  rw [List.getD_eq_getElem?_getD, List.getElem?_eq_getElem hj]
  exact List.getElem_mem hj
theorem mem_getD {L : List Nat} {x : Nat} (h : x ∈ L) : ∃ j, j < L.length ∧ L.getD j 0 = x := by
  obtain ⟨j, hj, e⟩ := List.mem_iff_getElem.mp h
  exact ⟨j, hj, by rw [List.getD_eq_getElem?_getD, List.getElem?_eq_getElem hj]; exact e⟩
theorem ppA_snoc {f : Nat → Int32} {L : List Nat} {x : Nat} (h : ppA f L) : ppA (upd f L.length (nI x)) (L ++ [x]) := by
  intro k y hk
  rcases Nat.lt_trichotomy k L.length with q | q | q
  · rw [List.getElem?_append_left q] at hk
    rw [upd_n (by omega)]; exact h k y hk
  · subst q
    rw [List.getElem?_append_right (Nat.le_refl _), Nat.sub_self] at hk
    rw [upd_s]
    have : x = y := by simpa using hk
    rw [this]
  · rw [List.getElem?_eq_none (by rw [List.length_append]; simp; omega)] at hk
    cases hk
theorem ppA_nil (f : Nat → Int32) : ppA f [] := fun k x h => by simp at h
/-- the program's list -/
theorem list_S {q0 F k : Nat} {σ : MM} (hF : F < 4096) (hk : k ≤ 3) (hl : (setsOf F k).length ≤ 220) : ∃ σ', f_X3_listSets q0 (nI F) (nI k) σ = some (nI (setsOf F k).length, σ') ∧ (∀ j, j ≠ q0 → σ'.1 j = σ.1 j) ∧ σ'.2 = σ.2 ∧ ppA (σ'.1 q0) (setsOf F k) := by
  unfold f_X3_listSets
  have hpre : ∀ i, i ≤ F + 1 → ppL i k <+: setsOf F k := fun i hi => by
    have := ppL_pre i k (F + 1 - i)
    rw [show i + (F + 1 - i) = F + 1 by omega] at this
    exact this
  have hq := lp_m (step := fun t => g_X3_listSets_5 q0 (nI F) (nI k) t.1 t.2.1 t.2.2) (fun t => ∃ i, i ≤ F + 1 ∧ t.1 = nI (ppL i k).length ∧ t.2.1 = nI i ∧ (∀ j, j ≠ q0 → t.2.2.1 j = σ.1 j) ∧ t.2.2.2 = σ.2 ∧ ppA (t.2.2.1 q0) (ppL i k)) (fun r => r.1 = nI (setsOf F k).length ∧ (∀ j, j ≠ q0 → r.2.1 j = σ.1 j) ∧ r.2.2 = σ.2 ∧ ppA (r.2.1 q0) (setsOf F k)) (fun t => F + 1 - t.2.1.toNatClampNeg) ((0 : Int32), (0 : Int32), σ) (by show F + 1 - _ < 5000; omega) ⟨0, by omega, rfl, rfl, fun _ _ => rfl, rfl, ppA_nil _⟩ ?_
  · obtain ⟨r, r1, r2, r3, r4, r5⟩ := hq
    exact ⟨r.2, by rw [r1, Option.bind_some, r2], r3, r4, r5⟩
  rintro ⟨x, y, τ⟩ ⟨i, hi, e1, e2, e3, e4, e5⟩
  dsimp only at e1 e2 e3 e4 e5
  subst e1; subst e2
  have hp := hpre i hi
  have hlen := hp.length_le
  show (∃ r, g_X3_listSets_5 q0 (nI F) (nI k) (nI _) (nI i) τ = some (.inr r) ∧ _) ∨ ∃ s', g_X3_listSets_5 q0 (nI F) (nI k) (nI _) (nI i) τ = some (.inl s') ∧ _
  unfold g_X3_listSets_5
  by_cases hend : F < i
  · left
    rw [if_pos (nI_lt hend (by omega))]
    have : i = F + 1 := by omega
    subst this
    exact ⟨(_, τ), rfl, rfl, e3, e4, e5⟩
  · rw [if_neg (nI_nlt (by omega) (by omega))]
    by_cases h220 : 220 ≤ (ppL i k).length
    · left
      have c1 : (220 : Int32) ≤ nI (ppL i k).length := nI_le (a := 220) h220 (by omega)
      rw [if_pos c1]
      have he : ppL i k = setsOf F k := hp.eq_of_length (by omega)
      rw [he] at e5 ⊢
      exact ⟨(_, τ), rfl, rfl, e3, e4, e5⟩
    · right
      have c1 : ¬ (220 : Int32) ≤ nI (ppL i k).length := nI_ge (b := 220) (by omega) (by omega)
      have hcl := cnt_le i 12
      have dec : F + 1 - (nI i + 1).toNatClampNeg < F + 1 - (nI i).toNatClampNeg := by rw [nI_1, nI_c (by omega), nI_c (by omega)]; omega
      rw [if_neg c1, bc_S (by omega), Option.bind_some]
      by_cases hc : cnt i 12 = k
      · rw [if_pos (show nI (cnt i 12) = nI k by rw [hc]), chk_t (inb_nI (by omega) (by omega)), lm_eq, nI_c (by omega)]
        refine ⟨_, rfl, ⟨i + 1, by omega, ?_, nI_1 i, fun j hj => ?_, e4, ?_⟩, dec⟩
        · show nI _ + 1 = _
          rw [nI_1, ppL_s, if_pos hc, List.length_append]; rfl
        · show (stI τ q0 _ _).1 j = _
          rw [stI_k hj]; exact e3 j hj
        · show ppA ((stI τ q0 _ _).1 q0) _
          rw [stI_s, ppL_s, if_pos hc]; exact ppA_snoc e5
      · rw [if_neg (fun q => hc ((nI_eq_iff (by omega) (by omega)).mp q))]
        refine ⟨_, rfl, ⟨i + 1, by omega, ?_, nI_1 i, e3, e4, ?_⟩, dec⟩
        · show nI _ = _
          rw [ppL_s, if_neg hc]
        · rw [ppL_s, if_neg hc]; exact e5
/-! the values of those left: Paper.fillValues -/
theorem frs_all {S n : Nat} (hS : S < 4096) (h : cnt S 12 = n) : frs S n 12 = S := by
  apply Nat.eq_of_testBit_eq
  intro i
  rw [frs_b]
  cases hq : S.testBit i with
  | false => simp
  | true =>
    have hi := mem_lt (p := 12) hS hq
    have h1 := cnt_mono S (show i + 1 ≤ 12 from hi)
    rw [cnt_s, if_pos hq] at h1
    simp [hi]; omega
theorem frs_top {S n t : Nat} (hS : S < 2 ^ (t + 1)) (ht : S.testBit t = true) (h12 : t < 12) (h : n < cnt S 12) : frs S n 12 = frs (S ^^^ 2 ^ t) n 12 := by
  have htop : cnt S 12 = cnt S t + 1 := by
    rw [cnt_lt hS (by omega), cnt_s, if_pos ht]
  apply Nat.eq_of_testBit_eq
  intro i
  rw [frs_b, frs_b]
  by_cases e : i = t
  · subst e
    have : ¬ cnt S i < n := by omega
    simp [this, del_s, ht]
  · rw [del_b e]
    rcases Nat.lt_or_ge i t with q | q
    · have : cnt (S ^^^ 2 ^ t) i = cnt S i := cnt_ext (fun j hj => del_b (by omega))
      rw [this]
    · have : S.testBit i = false := Nat.testBit_lt_two_pow (Nat.lt_of_lt_of_le hS (Nat.pow_le_pow_right (by decide) (by omega)))
      simp [this]
def filled (σ : MM) (m : Mi) (F : Nat) : Prop := ∀ S, S ≤ F → mN m ≤ cnt S 12 → σ.2 49 S = lN (CH m (frs S (mN m) 12))
theorem fill_S {c : Cr} {σ : MM} (hc : okC c) (he : enough c) (ht : tnC σ c) : ∃ σ', f_X3_fillValues (nI (full c)) (nI (mN (mOf c))) σ = some σ' ∧ sL 49 σ σ' ∧ filled σ' (mOf c) (full c) := by
  have hk := kb hc
  have hf := full_2 hc he
  have hN : mN (mOf c) = cK c 0 := rfl
  have hcp := call_pos hc
  have hf1 : 1 ≤ full c := by
    have : 2 ^ 1 ≤ 2 ^ call c := Nat.pow_le_pow_right (by decide) (by omega)
    unfold full; omega
  unfold f_X3_fillValues
  have hq := lp_inv (step := fun t => g_X3_fillValues_5 (nI (full c)) (nI (mN (mOf c))) t.1 t.2.1 t.2.2) (fun i t => ∃ d, d < 12 ∧ (2 ^ d ≤ i + 1 ∨ d = 0) ∧ i + 1 ≤ 2 ^ (d + 1) ∧ t.1 = nI (2 ^ d) ∧ t.2.1 = nI (i + 1) ∧ sL 49 σ t.2.2 ∧ ∀ S, S < i + 1 → mN (mOf c) ≤ cnt S 12 → t.2.2.2 49 S = lN (CH (mOf c) (frs S (mN (mOf c)) 12)))
    (fun r => sL 49 σ r ∧ filled r (mOf c) (full c)) (full c) ?_ ?_ FU 0 ((1 : Int32), (1 : Int32), σ) (by omega) (by unfold FU; omega) ⟨0, by omega, Or.inr rfl, by decide, rfl, rfl, sL_rf, fun S hS hc => by
      have : S = 0 := by omega
      subst this
      have : cnt 0 12 = 0 := by decide
      omega⟩
  · obtain ⟨r, r1, r2, r3⟩ := hq
    exact ⟨r, by rw [r1]; rfl, r2, r3⟩
  · rintro i ⟨x, y, τ⟩ hi ⟨d, d1, d2, d3, f1, f2, f3, f4⟩
    dsimp only at f1 f2 f3 f4
    subst f1; subst f2
    -- the highest member
    obtain ⟨t, t1, t2, t3, t4⟩ : ∃ t, t < 12 ∧ 2 ^ t ≤ i + 1 ∧ i + 1 < 2 ^ (t + 1) ∧ (if nI (i + 1) < nI (2 ^ d) * 2 then some (nI (2 ^ d)) else some (nI (2 ^ d) * 2)) = some (nI (2 ^ t)) := by
      have e2 : nI (2 ^ d) * 2 = nI (2 ^ (d + 1)) := by
        have : nI (2 ^ d) * 2 = nI (2 ^ d * 2) := pk_mul (2 ^ d) 2
        rw [this, Nat.pow_succ]
      have hp : 2 ^ (d + 1) ≤ 2 ^ 12 := Nat.pow_le_pow_right (by decide) (by omega)
      have hpd : 2 ^ d < 2 ^ (d + 1) := Nat.pow_lt_pow_right (by decide) (by omega)
      have h12 : (2 : Nat) ^ 12 = 4096 := by decide
      rw [e2]
      by_cases hlt : i + 1 < 2 ^ (d + 1)
      · refine ⟨d, d1, ?_, hlt, by rw [if_pos (nI_lt hlt (by omega))]⟩
        rcases d2 with d2 | d2
        · exact d2
        · rw [d2]; show 1 ≤ i + 1; omega
      · have heq : i + 1 = 2 ^ (d + 1) := by omega
        have hd12 : d + 1 < 12 := by
          rcases Nat.lt_or_ge (d + 1) 12 with q | q
          · exact q
          · have : 2 ^ 12 ≤ 2 ^ (d + 1) := Nat.pow_le_pow_right (by decide) q
            omega
        have hpd2 : 2 ^ (d + 1) < 2 ^ (d + 1 + 1) := Nat.pow_lt_pow_right (by decide) (by omega)
        exact ⟨d + 1, hd12, by omega, by omega, by rw [if_neg (nI_nlt (by omega) (by omega))]⟩
    have hbit : (i + 1).testBit t = true := by
      obtain ⟨T, hT⟩ : ∃ T, i + 1 = 2 ^ t + T := ⟨i + 1 - 2 ^ t, by omega⟩
      rw [hT]
      rw [Nat.pow_succ] at t3
      exact hi_bit (by omega)
    have hcl := cnt_le (i + 1) 12
    have keep : ∀ v : MM, sL 49 τ v → (mN (mOf c) ≤ cnt (i + 1) 12 → v.2 49 (i + 1) = lN (CH (mOf c) (frs (i + 1) (mN (mOf c)) 12))) → (∀ S, S ≠ i + 1 → v.2 49 S = τ.2 49 S) → ∃ s', some (Sum.inl (nI (2 ^ t), nI (i + 1) + 1, v)) = some (Sum.inl s' : (Int32 × Int32 × MM) ⊕ MM) ∧ ∃ d, d < 12 ∧ (2 ^ d ≤ i + 1 + 1 ∨ d = 0) ∧ i + 1 + 1 ≤ 2 ^ (d + 1) ∧ s'.1 = nI (2 ^ d) ∧ s'.2.1 = nI (i + 1 + 1) ∧ sL 49 σ s'.2.2 ∧ ∀ S, S < i + 1 + 1 → mN (mOf c) ≤ cnt S 12 → s'.2.2.2 49 S = lN (CH (mOf c) (frs S (mN (mOf c)) 12)) := by
      intro v g1 g2 g3
      refine ⟨_, rfl, t, t1, Or.inl (by omega), by omega, rfl, nI_1 _, sL_tr f3 g1, fun S hS hc => ?_⟩
      show v.2 49 S = _
      by_cases e : S = i + 1
      · rw [e]; rw [e] at hc; exact g2 hc
      · rw [g3 S e]; exact f4 S (by omega) hc
    show ∃ s', g_X3_fillValues_5 (nI (full c)) (nI (mN (mOf c))) (nI (2 ^ d)) (nI (i + 1)) τ = some (.inl s') ∧ _
    unfold g_X3_fillValues_5
    rw [if_neg (nI_nlt (by omega) (by omega)), t4, Option.bind_some, bc_S (by omega), Option.bind_some]
    have hsub : sub (i + 1) (full c) := by
      unfold full
      apply sub_full.mpr
      have := two_pos (call c)
      unfold full at hi
      omega
    by_cases heq : cnt (i + 1) 12 = mN (mOf c)
    · rw [if_pos (show nI (cnt (i + 1) 12) = nI (mN (mOf c)) by rw [heq]), valueOf_S (by omega), Option.bind_some, chk_t (inb_nI (by omega) (by omega)), lm_eq, nI_c (by omega), f3.2 (42 + 3) (by decide), ht.2.2.2.2 _ hsub (by omega)]
      refine keep _ sL_st (fun _ => ?_) (fun S hS => by rw [stL_s, updL_n hS])
      rw [stL_s, updL_s, frs_all (by omega) heq]
      unfold vq
      rw [heq, Nat.sub_self]; rfl
    · rw [if_neg (fun q => heq ((nI_eq_iff (by omega) (by omega)).mp q))]
      by_cases hle : cnt (i + 1) 12 ≤ mN (mOf c)
      · rw [if_pos (nI_le hle (by omega))]
        exact keep τ sL_rf (fun q => by omega) (fun _ _ => rfl)
      · have hdel := del_lt hbit
        have hcd := cnt_del12 hbit t1
        rw [if_neg (nI_ge (by omega) (by omega)), xorI, chk_t (inb_nI (by omega) (by omega)), chk_t (inb_nI (by omega) (by omega)), lm_eq, nI_c (by omega), nI_c (by omega), f4 _ (by omega) (by omega)]
        refine keep _ sL_st (fun _ => ?_) (fun S hS => by rw [stL_s, updL_n hS])
        rw [stL_s, updL_s, ← frs_top t3 hbit t1 (by omega)]
  · rintro ⟨x, y, τ⟩ ⟨d, d1, d2, d3, f1, f2, f3, f4⟩
    dsimp only at f1 f2 f3 f4
    subst f1; subst f2
    refine ⟨τ, ?_, f3, fun S hS => f4 S (by omega)⟩
    show g_X3_fillValues_5 (nI (full c)) (nI (mN (mOf c))) (nI (2 ^ d)) (nI (full c + 1)) τ = _
    unfold g_X3_fillValues_5
    rw [if_pos (nI_lt (by omega) (by omega))]
