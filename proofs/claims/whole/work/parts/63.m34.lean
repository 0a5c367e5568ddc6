/-! COMING in the program -/
def pck (t : Nat × Nat × Nat) : Nat := t.1 + 4096 * t.2.1 + 16384 * t.2.2
theorem sh12 : ∀ k, k < 4 → nI k <<< ((12 : Int32) &&& 31) = nI (4096 * k) := by decide
theorem sh14 : ∀ k, k < 4 → nI k <<< ((14 : Int32) &&& 31) = nI (16384 * k) := by decide
theorem or_pck {S x y : Nat} (hS : S < 4096) (hx : x < 4) : (S ||| 4096 * x) ||| 16384 * y = S + 4096 * x + 16384 * y := by
  have h1 : 2 ^ 12 * x + S = 2 ^ 12 * x ||| S := Nat.two_pow_add_eq_or_of_lt (i := 12) hS x
  have h2 : 2 ^ 14 * y + (2 ^ 12 * x + S) = 2 ^ 14 * y ||| (2 ^ 12 * x + S) := Nat.two_pow_add_eq_or_of_lt (i := 14) (by omega) y
  have e12 : (2 : Nat) ^ 12 = 4096 := by decide
  have e14 : (2 : Nat) ^ 14 = 16384 := by decide
  rw [e12] at h1 h2
  rw [e14] at h2
  rw [Nat.or_comm S, ← h1, Nat.or_comm, ← h2]
  omega
def cmF (σ : MM) (c : Cr) : Prop := σ.1 55 2 = nI (call c) ∧ σ.1 55 3 = nI (cK c 0) ∧ σ.1 55 4 = nI (cK c 1) ∧ σ.1 55 5 = nI (cK c 2)
abbrev EE (c : Cr) (p S x : Nat) : Nat × Nat × Nat := CE (mOf c) (call c) (cK c 1) (cK c 2) (call c - p) S x
abbrev VE (c : Cr) (p S x : Nat) : Prop := ceV (mOf c) (call c) (cK c 1) (cK c 2) (call c - p) S x
theorem call12 {c : Cr} (hc : okC c) (he : enough c) : call c ≤ 12 := Nat.le_trans he hc.1
theorem EE_ok {c : Cr} {p S x : Nat} (hc : okC c) (he : enough c) (h : VE c p S x) : (EE c p S x).1 < 2 ^ call c ∧ cnt (EE c p S x).1 12 = cK c 0 ∧ (EE c p S x).2.1 ≤ 3 ∧ (EE c p S x).2.2 ≤ 3 ∧ (EE c p S x).1 < 4096 ∧ pck (EE c p S x) < 65536 := by
  have hk := kb hc
  have h12 := call12 hc he
  obtain ⟨h1, h2, h3, h4⟩ := CE_ok (m := mOf c) (a := cK c 1) (b := cK c 2) h12 rfl _ _ _ h
  have h3' : (EE c p S x).2.1 ≤ cK c 1 := h3
  have h4' : (EE c p S x).2.2 ≤ cK c 2 := h4
  have h5 : (EE c p S x).1 < 4096 := pow12 h12 h1
  refine ⟨h1, h2, by omega, by omega, h5, ?_⟩
  unfold pck
  omega
theorem end_S {c : Cr} {σ : MM} {p S x : Nat} (hc : okC c) (he : enough c) (hf : cmF σ c) (hp : p ≤ call c) (hv : VE c p S x) (ht : cnt S 12 ≠ cK c 0 → p - cnt S 12 ≠ cK c 1 + cK c 2 → slt (σ.2 49 S) x = pck (EE c p S x)) : f_X1_endFrom (nI p) (nI S) (nI x) σ = some (nI (pck (EE c p S x))) := by
  have hk := kb hc
  have h12 := call12 hc he
  obtain ⟨v1, v2, v3, v4, v5, v6⟩ := id hv
  have hpp : call c - (call c - p) = p := by omega
  rw [hpp] at v2 v5 v6
  have hS : S < 4096 := pow12 (by omega) v2
  have hle : cnt S 12 ≤ p := by rw [cnt_lt v2 (by omega)]; exact cnt_le _ _
  have v3' : cnt S 12 ≤ cK c 0 := v3
  obtain ⟨f2, f3, f4, f5⟩ := hf
  unfold f_X1_endFrom
  rw [bc_S hS, Option.bind_some, f3, f4, f5, f2, pk_sub v4, pk_sub hle, pk_sub v5, pk_sub v6]
  by_cases h1 : cnt S 12 = cK c 0
  · have eE : EE c p S x = (S, cK c 1 - x, cK c 2 - (p - cnt S 12 - x)) := by
      show CE _ _ _ _ _ _ _ = _
      rw [CE_end (show cnt S 12 = mN (mOf c) from h1), hpp]
    rw [if_pos (show nI (cnt S 12) = nI (cK c 0) by rw [h1]), sh12 _ (by omega), sh14 _ (by omega), orI, orI, or_pck hS (by omega), eE]; rfl
  · rw [if_neg (fun q => h1 ((nI_eq_iff (by omega) (by omega)).mp q)), nI_add]
    by_cases h2 : p - cnt S 12 = cK c 1 + cK c 2
    · obtain ⟨r, hr⟩ : ∃ r, call c - p = r + 1 := ⟨call c - p - 1, by unfold call at hp ⊢; omega⟩
      have eE : EE c p S x = (S ||| dif (2 ^ call c - 1) (2 ^ p - 1), 0, 0) := by
        show CE _ _ _ _ _ _ _ = _
        rw [hr, CE_all (show cnt S 12 ≠ mN (mOf c) from h1) (by rw [← hr, hpp]; exact h2), ← hr, hpp]
      unfold f_X6_setOfFirst
      rw [if_pos (show nI (p - cnt S 12) = nI (cK c 1 + cK c 2) by rw [h2]), allS _ (by omega), Option.bind_some, allS _ (by omega), Option.bind_some, andn2, orI, eE]; rfl
    · rw [if_neg (fun q => h2 ((nI_eq_iff (by omega) (by omega)).mp q)), chk_t (inb_nI hS (by omega)), nI_c (by omega), slt_rd _ (by omega), ht h1 h2]
theorem mask12 {n : Nat} : nI n &&& (4095 : Int32) = nI (n % 4096) := by
  have h := fa_mask n 12
  exact h
theorem pck_mod {t : Nat × Nat × Nat} (h : t.1 < 4096) : pck t % 4096 = t.1 := by unfold pck; omega
theorem val_E {c : Cr} {σ : MM} {J : Nat} (hc : okC c) (he : enough c) (ht : tnC σ c) (h1 : J < 2 ^ call c) (h2 : cnt J 12 = cK c 0) : f_X5_valueOf 42 (nI J) σ = some (lN (CH (mOf c) J)) := by
  have hJ := pow12 (call12 hc he) h1
  rw [valueOf_S hJ, ht.2.2.2.2 _ (sub_full.mpr h1) (by rw [h2]; exact Nat.le_refl _)]
  unfold vq
  rw [show cnt J 12 - mN (mOf c) = 0 by rw [h2]; exact Nat.sub_self _]; rfl
theorem vend_S {c : Cr} {σ : MM} {p S x : Nat} (hc : okC c) (he : enough c) (ht : tnC σ c) (hv : VE c p S x) : f_X1_valueOfEnd (nI (pck (EE c p S x))) σ = some (lN (CH (mOf c) (EE c p S x).1)) := by
  obtain ⟨e1, e2, e3, e4, e5, e6⟩ := EE_ok hc he hv
  unfold f_X1_valueOfEnd
  rw [mask12, pck_mod e5, val_E hc he ht e1 e2]; rfl
theorem CHlt {c : Cr} {p S x : Nat} (hc : okC c) (he : enough c) (hv : VE c p S x) : CH (mOf c) (EE c p S x).1 < 9223372036854775808 := by
  obtain ⟨e1, e2, -⟩ := EE_ok hc he hv
  have h1 : 2 ^ call c ≤ 2 ^ cP c := Nat.pow_le_pow_right (by decide) he
  have := CH_le (okM_of hc) (S := (EE c p S x).1) ⟨Nat.lt_of_lt_of_le e1 h1, e2⟩
  omega
/-- one decision -/
theorem dec_S {c : Cr} {σ : MM} {p S x : Nat} (hc : okC c) (he : enough c) (hf : cmF σ c) (ht : tnC σ c) (hp : p < call c) (hv : VE c p S x) (h1 : cnt S 12 ≠ cK c 0) (h2 : p - cnt S 12 ≠ cK c 1 + cK c 2)
    (t1 : VE c (p + 1) (S ||| 2 ^ p) x → cnt (S ||| 2 ^ p) 12 ≠ cK c 0 → p + 1 - cnt (S ||| 2 ^ p) 12 ≠ cK c 1 + cK c 2 → slt (σ.2 49 (S ||| 2 ^ p)) x = pck (EE c (p + 1) (S ||| 2 ^ p) x))
    (t2 : ∀ y, x ≤ y → VE c (p + 1) S y → cnt S 12 ≠ cK c 0 → p + 1 - cnt S 12 ≠ cK c 1 + cK c 2 → slt (σ.2 49 S) y = pck (EE c (p + 1) S y)) :
    f_X1_decide (nI p) (nI S) (nI x) σ = some (nI (pck (EE c p S x))) := by
  have hk := kb hc
  have h12 := call12 hc he
  obtain ⟨v1, v2, v3, v4, v5, v6⟩ := id hv
  have hpp : call c - (call c - p) = p := by omega
  rw [hpp] at v2 v5 v6
  have hS : S < 4096 := pow12 (by omega) v2
  have hle : cnt S 12 ≤ p := by rw [cnt_lt v2 (by omega)]; exact cnt_le _ _
  have hr : call c - p = (call c - (p + 1)) + 1 := by omega
  have hvr : ceV (mOf c) (call c) (cK c 1) (cK c 2) (call c - (p + 1) + 1) S x := by rw [← hr]; exact hv
  have hpr : call c - (call c - (p + 1) + 1) = p := by omega
  have V1 : VE c (p + 1) (S ||| 2 ^ p) x := by
    have := (ceV_1 h12 hvr h1).1
    rw [hpr] at this; exact this
  have E1 := end_S hc he hf (by omega) V1 (t1 V1)
  have hE : EE c p S x = if x < cK c 1 ∧ CH (mOf c) (ceB (mOf c) (call c) (cK c 1) (cK c 2) (call c - (p + 1)) S x).1 < CH (mOf c) (EE c (p + 1) S (x + 1)).1 then EE c (p + 1) S (x + 1) else ceB (mOf c) (call c) (cK c 1) (cK c 2) (call c - (p + 1)) S x := by
    show CE _ _ _ _ (call c - p) _ _ = _
    rw [hr]
    exact CE_step (show cnt S 12 ≠ mN (mOf c) from h1) (by rw [hpr]; exact h2)
  have hB : ceB (mOf c) (call c) (cK c 1) (cK c 2) (call c - (p + 1)) S x = if p - cnt S 12 - x < cK c 2 ∧ CH (mOf c) (EE c (p + 1) S x).1 < CH (mOf c) (EE c (p + 1) (S ||| 2 ^ p) x).1 then EE c (p + 1) S x else EE c (p + 1) (S ||| 2 ^ p) x := by
    unfold ceB
    rw [hpr]
  obtain ⟨f2, f3, f4, f5⟩ := id hf
  unfold f_X1_decide
  rw [bc_S hS, Option.bind_some, nI_1, sh1 p (by omega), orI, E1, Option.bind_some, f5, f4, pk_sub hle, pk_sub v5]
  -- B's choice
  have st1 : ∃ y T, (T = S ||| 2 ^ p ∨ T = S) ∧ y = x ∧ VE c (p + 1) T y ∧ EE c (p + 1) T y = ceB (mOf c) (call c) (cK c 1) (cK c 2) (call c - (p + 1)) S x ∧ (if nI (cK c 2) ≤ nI (p - cnt S 12 - x) then some (nI (pck (EE c (p + 1) (S ||| 2 ^ p) x))) else (f_X1_endFrom (nI (p + 1)) (nI S) (nI x) σ).bind (fun r12 => (f_X1_valueOfEnd r12 σ).bind (fun r13 => (f_X1_valueOfEnd (nI (pck (EE c (p + 1) (S ||| 2 ^ p) x))) σ).bind (fun r14 => if r14 ≤ r13 then some (nI (pck (EE c (p + 1) (S ||| 2 ^ p) x))) else some r12)))) = some (nI (pck (EE c (p + 1) T y))) := by
    by_cases hb : p - cnt S 12 - x < cK c 2
    · have V2 : VE c (p + 1) S x := ceV_2 hvr (by rw [hpr]; exact hb)
      have E2 := end_S hc he hf (by omega) V2 (t2 x (Nat.le_refl _) V2)
      have b1 := CHlt hc he V1
      have b2 := CHlt hc he V2
      rw [if_neg (nI_ge hb (by omega)), E2, Option.bind_some, vend_S hc he ht V2, Option.bind_some, vend_S hc he ht V1, Option.bind_some, hB]
      by_cases hlt : CH (mOf c) (EE c (p + 1) S x).1 < CH (mOf c) (EE c (p + 1) (S ||| 2 ^ p) x).1
      · have hn : ¬ lN (CH (mOf c) (EE c (p + 1) (S ||| 2 ^ p) x).1) ≤ lN (CH (mOf c) (EE c (p + 1) S x).1) := fun q => by have := (lN_leJ b1 b2).mp q; omega
        rw [if_neg hn, if_pos ⟨hb, hlt⟩]
        exact ⟨x, S, Or.inr rfl, rfl, V2, rfl, rfl⟩
      · rw [if_pos ((lN_leJ b1 b2).mpr (by omega)), if_neg (fun q => hlt q.2)]
        exact ⟨x, S ||| 2 ^ p, Or.inl rfl, rfl, V1, rfl, rfl⟩
    · rw [if_pos (nI_le (by omega) (by omega)), hB, if_neg (fun q => hb q.1)]
      exact ⟨x, S ||| 2 ^ p, Or.inl rfl, rfl, V1, rfl, rfl⟩
  obtain ⟨y, T, -, -, VT, eT, eS⟩ := st1
  rw [eS, Option.bind_some, hE, ← eT]
  by_cases ha : x < cK c 1
  · have V3 : VE c (p + 1) S (x + 1) := ceV_3 h12 hvr ha
    have E3 := end_S hc he hf (by omega) V3 (t2 (x + 1) (by omega) V3)
    have b1 := CHlt hc he VT
    have b2 := CHlt hc he V3
    rw [if_neg (nI_ge ha (by omega)), nI_1, E3, Option.bind_some, vend_S hc he ht V3, Option.bind_some, vend_S hc he ht VT, Option.bind_some]
    by_cases hlt : CH (mOf c) (EE c (p + 1) T y).1 < CH (mOf c) (EE c (p + 1) S (x + 1)).1
    · have hn : ¬ lN (CH (mOf c) (EE c (p + 1) S (x + 1)).1) ≤ lN (CH (mOf c) (EE c (p + 1) T y).1) := fun q => by have := (lN_leJ b2 b1).mp q; omega
      rw [if_neg hn, if_pos ⟨ha, hlt⟩]
    · rw [if_pos ((lN_leJ b2 b1).mpr (by omega)), if_neg (fun q => hlt q.2)]
  · rw [if_pos (nI_le (by omega) (by omega)), if_neg (fun q => ha q.1)]
