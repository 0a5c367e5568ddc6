/-! PAPER: rests -/
abbrev BIG : Nat := 10000000000000001
def ppM (V : Nat → Nat → Nat) (LB : List Nat) (A : Nat) : Nat → Nat
  | 0 => BIG
  | j + 1 => min (ppM V LB A j) (V A (LB.getD j 0))
def ppX (V : Nat → Nat → Nat) (LA : List Nat) (B : Nat) : Nat → Nat
  | 0 => 0
  | i + 1 => max (ppX V LA B i) (V (LA.getD i 0) B)
def ppG (f : Nat → Nat) : Nat → Nat
  | 0 => f 0
  | k + 1 => max (ppG f k) (f (k + 1))
def ppH (f : Nat → Nat) : Nat → Nat
  | 0 => f 0
  | k + 1 => min (ppH f k) (f (k + 1))
theorem ppM_le {V : Nat → Nat → Nat} {LB : List Nat} {A : Nat} : ∀ n j, j < n → ppM V LB A n ≤ V A (LB.getD j 0) := by
  intro n
  induction n with
  | zero => intro j h; omega
  | succ n ih =>
    intro j h
    unfold ppM
    rcases Nat.lt_or_ge j n with q | q
    · have := ih j q; omega
    · rw [show j = n by omega]; omega
theorem ppM_at {V : Nat → Nat → Nat} {LB : List Nat} {A : Nat} : ∀ n, (∀ j, j < n → V A (LB.getD j 0) < BIG) → 0 < n → ∃ j, j < n ∧ ppM V LB A n = V A (LB.getD j 0) := by
  intro n
  induction n with
  | zero => intro _ h; omega
  | succ n ih =>
    intro hb _
    unfold ppM
    by_cases h0 : n = 0
    · subst h0
      have := hb 0 (by omega)
      refine ⟨0, by omega, ?_⟩
      show min BIG _ = _
      omega
    · obtain ⟨j, j1, j2⟩ := ih (fun j hj => hb j (by omega)) (by omega)
      by_cases h : ppM V LB A n ≤ V A (LB.getD n 0)
      · exact ⟨j, by omega, by omega⟩
      · exact ⟨n, by omega, by omega⟩
theorem ppX_ge {V : Nat → Nat → Nat} {LA : List Nat} {B : Nat} : ∀ n j, j < n → V (LA.getD j 0) B ≤ ppX V LA B n := by
  intro n
  induction n with
  | zero => intro j h; omega
  | succ n ih =>
    intro j h
    unfold ppX
    rcases Nat.lt_or_ge j n with q | q
    · have := ih j q; omega
    · rw [show j = n by omega]; omega
theorem ppX_at {V : Nat → Nat → Nat} {LA : List Nat} {B : Nat} : ∀ n, 0 < n → ∃ j, j < n ∧ ppX V LA B n = V (LA.getD j 0) B := by
  intro n
  induction n with
  | zero => intro h; omega
  | succ n ih =>
    intro _
    unfold ppX
    by_cases h0 : n = 0
    · subst h0
      exact ⟨0, by omega, by show max 0 _ = _; omega⟩
    · obtain ⟨j, j1, j2⟩ := ih (by omega)
      by_cases h : V (LA.getD n 0) B ≤ ppX V LA B n
      · exact ⟨j, by omega, by omega⟩
      · exact ⟨n, by omega, by omega⟩
theorem ppG_ge {f : Nat → Nat} : ∀ n j, j ≤ n → f j ≤ ppG f n := by
  intro n
  induction n with
  | zero => intro j h; rw [show j = 0 by omega]; exact Nat.le_refl _
  | succ n ih =>
    intro j h
    unfold ppG
    rcases Nat.lt_or_ge j (n + 1) with q | q
    · have := ih j (by omega); omega
    · rw [show j = n + 1 by omega]; omega
theorem ppG_at {f : Nat → Nat} : ∀ n, ∃ j, j ≤ n ∧ ppG f n = f j := by
  intro n
  induction n with
  | zero => exact ⟨0, by omega, rfl⟩
  | succ n ih =>
    obtain ⟨j, j1, j2⟩ := ih
    unfold ppG
    by_cases h : f (n + 1) ≤ ppG f n
    · exact ⟨j, by omega, by omega⟩
    · exact ⟨n + 1, by omega, by omega⟩
theorem ppH_le {f : Nat → Nat} : ∀ n j, j ≤ n → ppH f n ≤ f j := by
  intro n
  induction n with
  | zero => intro j h; rw [show j = 0 by omega]; exact Nat.le_refl _
  | succ n ih =>
    intro j h
    unfold ppH
    rcases Nat.lt_or_ge j (n + 1) with q | q
    · have := ih j (by omega); omega
    · rw [show j = n + 1 by omega]; omega
theorem ppH_at {f : Nat → Nat} : ∀ n, ∃ j, j ≤ n ∧ ppH f n = f j := by
  intro n
  induction n with
  | zero => exact ⟨0, by omega, rfl⟩
  | succ n ih =>
    obtain ⟨j, j1, j2⟩ := ih
    unfold ppH
    by_cases h : ppH f n ≤ f (n + 1)
    · exact ⟨j, by omega, by omega⟩
    · exact ⟨n + 1, by omega, by omega⟩
/-- a rest, by the row's least and the column's most -/
theorem rest_iff {m : Mi} {F : Nat} {LA LB : List Nat} {A B : Nat} (hA : A ∈ LA) (hB : B ∈ LB) (hb : ∀ A B, A ∈ LA → B ∈ LB → PV m F A B < BIG) : restB m F LA LB A B = true ↔ PV m F A B = ppX (PV m F) LA B LA.length ∧ PV m F A B = ppM (PV m F) LB A LB.length := by
  obtain ⟨i, hi, rfl⟩ := mem_getD hA
  obtain ⟨j, hj, rfl⟩ := mem_getD hB
  have x1 := ppX_ge (V := PV m F) (LA := LA) (B := LB.getD j 0) LA.length i hi
  have y1 := ppM_le (V := PV m F) (LB := LB) (A := LA.getD i 0) LB.length j hj
  obtain ⟨i2, i3, i4⟩ := ppX_at (V := PV m F) (LA := LA) (B := LB.getD j 0) LA.length (by omega)
  obtain ⟨j2, j3, j4⟩ := ppM_at (V := PV m F) (LB := LB) (A := LA.getD i 0) LB.length (fun k hk => hb _ _ hA (getD_mem hk)) (by omega)
  unfold restB
  rw [Bool.and_eq_true, List.all_eq_true, List.all_eq_true]
  constructor
  · rintro ⟨h1, h2⟩
    have g1 := of_decide_eq_true (h1 _ (getD_mem i3))
    have g2 := of_decide_eq_true (h2 _ (getD_mem j3))
    omega
  · rintro ⟨h1, h2⟩
    refine ⟨fun A' hA' => ?_, fun B' hB' => ?_⟩
    · obtain ⟨k, hk, rfl⟩ := mem_getD hA'
      have := ppX_ge (V := PV m F) (LA := LA) (B := LB.getD j 0) LA.length k hk
      simp only [decide_eq_true_eq]; omega
    · obtain ⟨k, hk, rfl⟩ := mem_getD hB'
      have := ppM_le (V := PV m F) (LB := LB) (A := LA.getD i 0) LB.length k hk
      simp only [decide_eq_true_eq]; omega
/-- the greatest of the least, the least of the greatest -/
def gG (m : Mi) (F : Nat) (LA LB : List Nat) : Nat := ppG (fun i => ppM (PV m F) LB (LA.getD i 0) LB.length) (LA.length - 1)
def gH (m : Mi) (F : Nat) (LA LB : List Nat) : Nat := ppH (fun j => ppX (PV m F) LA (LB.getD j 0) LA.length) (LB.length - 1)
theorem rest_gh {m : Mi} {F : Nat} {LA LB : List Nat} {A B : Nat} (hA : A ∈ LA) (hB : B ∈ LB) (hb : ∀ A B, A ∈ LA → B ∈ LB → PV m F A B < BIG) : restB m F LA LB A B = true ↔ gG m F LA LB = gH m F LA LB ∧ ppM (PV m F) LB A LB.length = gG m F LA LB ∧ ppX (PV m F) LA B LA.length = gH m F LA LB := by
  rw [rest_iff hA hB hb]
  obtain ⟨i, hi, rfl⟩ := mem_getD hA
  obtain ⟨j, hj, rfl⟩ := mem_getD hB
  have x1 := ppX_ge (V := PV m F) (LA := LA) (B := LB.getD j 0) LA.length i hi
  have y1 := ppM_le (V := PV m F) (LB := LB) (A := LA.getD i 0) LB.length j hj
  have gi := ppG_ge (f := fun i => ppM (PV m F) LB (LA.getD i 0) LB.length) (LA.length - 1) i (by omega)
  have hj' := ppH_le (f := fun j => ppX (PV m F) LA (LB.getD j 0) LA.length) (LB.length - 1) j (by omega)
  obtain ⟨i2, i3, i4⟩ := ppG_at (f := fun i => ppM (PV m F) LB (LA.getD i 0) LB.length) (LA.length - 1)
  obtain ⟨j2, j3, j4⟩ := ppH_at (f := fun j => ppX (PV m F) LA (LB.getD j 0) LA.length) (LB.length - 1)
  have a1 := ppX_ge (V := PV m F) (LA := LA) (B := LB.getD j 0) LA.length i2 (by omega)
  have a2 := ppM_le (V := PV m F) (LB := LB) (A := LA.getD i2 0) LB.length j (by omega)
  have b1 := ppX_ge (V := PV m F) (LA := LA) (B := LB.getD j2 0) LA.length i (by omega)
  have b2 := ppM_le (V := PV m F) (LB := LB) (A := LA.getD i 0) LB.length j2 (by omega)
  unfold gG gH
  constructor
  · rintro ⟨h1, h2⟩
    omega
  · rintro ⟨h1, h2, h3⟩
    omega
theorem GA_eq {m : Mi} {F : Nat} {LA LB : List Nat} (h1 : 0 < LA.length) (h2 : 0 < LB.length) (hb : ∀ A B, A ∈ LA → B ∈ LB → PV m F A B < BIG) : GA m F LA LB = if gG m F LA LB = gH m F LA LB then LA.filter (fun A => decide (ppM (PV m F) LB A LB.length = gG m F LA LB)) else [] := by
  obtain ⟨j2, j3, j4⟩ := ppH_at (f := fun j => ppX (PV m F) LA (LB.getD j 0) LA.length) (LB.length - 1)
  by_cases h : gG m F LA LB = gH m F LA LB
  · rw [if_pos h]
    unfold GA
    apply List.filter_congr
    intro A hA
    rw [Bool.eq_iff_iff, List.any_eq_true, decide_eq_true_eq]
    constructor
    · rintro ⟨B, hB, hr⟩
      exact ((rest_gh hA hB hb).mp hr).2.1
    · intro hr
      exact ⟨LB.getD j2 0, getD_mem (by omega), (rest_gh hA (getD_mem (by omega)) hb).mpr ⟨h, hr, j4.symm⟩⟩
  · rw [if_neg h]
    unfold GA
    rw [List.filter_eq_nil_iff]
    intro A hA
    rw [List.any_eq_true]
    rintro ⟨B, hB, hr⟩
    exact h ((rest_gh hA hB hb).mp hr).1
theorem GB_eq {m : Mi} {F : Nat} {LA LB : List Nat} (h1 : 0 < LA.length) (h2 : 0 < LB.length) (hb : ∀ A B, A ∈ LA → B ∈ LB → PV m F A B < BIG) : GB m F LA LB = if gG m F LA LB = gH m F LA LB then LB.filter (fun B => decide (ppX (PV m F) LA B LA.length = gH m F LA LB)) else [] := by
  obtain ⟨i2, i3, i4⟩ := ppG_at (f := fun i => ppM (PV m F) LB (LA.getD i 0) LB.length) (LA.length - 1)
  by_cases h : gG m F LA LB = gH m F LA LB
  · rw [if_pos h]
    unfold GB
    apply List.filter_congr
    intro B hB
    rw [Bool.eq_iff_iff, List.any_eq_true, decide_eq_true_eq]
    constructor
    · rintro ⟨A, hA, hr⟩
      exact ((rest_gh hA hB hb).mp hr).2.2
    · intro hr
      exact ⟨LA.getD i2 0, getD_mem (by omega), (rest_gh (getD_mem (by omega)) hB hb).mpr ⟨h, i4.symm, hr⟩⟩
  · rw [if_neg h]
    unfold GB
    rw [List.filter_eq_nil_iff]
    intro B hB
    rw [List.any_eq_true]
    rintro ⟨A, hA, hr⟩
    exact h ((rest_gh hA hB hb).mp hr).1
theorem rest_AB {m : Mi} {F : Nat} {LA LB : List Nat} {A B : Nat} (hA : A ∈ LA) (hB : B ∈ LB) (hb : ∀ A B, A ∈ LA → B ∈ LB → PV m F A B < BIG) : restB m F LA LB A B = true ↔ A ∈ GA m F LA LB ∧ B ∈ GB m F LA LB := by
  have h1 : 0 < LA.length := List.length_pos_of_mem hA
  have h2 : 0 < LB.length := List.length_pos_of_mem hB
  rw [rest_gh hA hB hb, GA_eq h1 h2 hb, GB_eq h1 h2 hb]
  by_cases h : gG m F LA LB = gH m F LA LB
  · rw [if_pos h, if_pos h, List.mem_filter, List.mem_filter, decide_eq_true_eq, decide_eq_true_eq]
    exact ⟨fun q => ⟨⟨hA, q.2.1⟩, hB, q.2.2⟩, fun q => ⟨h, q.1.2, q.2.2⟩⟩
  · rw [if_neg h, if_neg h]
    exact ⟨fun q => absurd q.1 h, fun q => absurd q.1 (by simp)⟩
/-! the program's weighing -/
theorem lN_leJ {a b : Nat} (ha : a < 9223372036854775808) (hb : b < 9223372036854775808) : lN a ≤ lN b ↔ a ≤ b := by
  rw [fa_le64, pk_lT ha, pk_lT hb]; omega
def cmL (V : Nat → Nat → Nat) (LA : List Nat) (B i : Nat) : Int64 := if i = 0 then -1 else lN (ppX V LA B i)
theorem wset_S {c : Cr} {σ : MM} {LA LB : List Nat} {i : Nat} (hc : okC c) (he : enough c) (eA : LA = setsOf (full c) (cK c 1)) (eB : LB = setsOf (full c) (cK c 2)) (hi : i < LA.length) (h7 : σ.1 50 7 = nI LB.length) (hA : ppA (σ.1 51) LA) (hB : ppA (σ.1 52) LB) (hf : filled σ (mOf c) (full c)) (hx : ∀ j, j < LB.length → σ.2 54 j = cmL (PV (mOf c) (full c)) LA (LB.getD j 0) i) (hV : ∀ A B, A ∈ LA → B ∈ LB → PV (mOf c) (full c) A B < BIG) (lA : LA.length ≤ 220) (lB : LB.length ≤ 220) :
    ∃ σ', f_X3_weighSet (nI i) (nI (full c)) σ = some σ' ∧ σ'.1 = σ.1 ∧ (∀ k, k ≠ 53 → k ≠ 54 → σ'.2 k = σ.2 k) ∧ (∀ j, j ≠ i → σ'.2 53 j = σ.2 53 j) ∧ σ'.2 53 i = lN (ppM (PV (mOf c) (full c)) LB (LA.getD i 0) LB.length) ∧ ∀ j, j < LB.length → σ'.2 54 j = cmL (PV (mOf c) (full c)) LA (LB.getD j 0) (i + 1) := by
  have hf2 := full_2 hc he
  have hBIG : BIG = 10000000000000001 := rfl
  unfold f_X3_weighSet
  have hAi := ppA_g hA hi
  have mA : LA.getD i 0 ∈ LA := getD_mem hi
  have mA' := mA
  rw [eA, sets_mem] at mA'
  rw [chk_t (inb_nI (by omega) (by omega)), nI_c (by omega), hAi, andn2]
  have e1 : full c ^^^ (full c &&& LA.getD i 0) = dif (full c) (LA.getD i 0) := rfl
  rw [e1]
  have hq := lp_0 (step := fun t => g_X3_weighSet_19 (nI i) (nI (dif (full c) (LA.getD i 0))) t.1 t.2.1 t.2.2) (fun j t => t.1 = lN (ppM (PV (mOf c) (full c)) LB (LA.getD i 0) j) ∧ t.2.1 = nI j ∧ t.2.2.1 = σ.1 ∧ (∀ k, k ≠ 54 → t.2.2.2 k = σ.2 k) ∧ (∀ q, q < j → t.2.2.2 54 q = cmL (PV (mOf c) (full c)) LA (LB.getD q 0) (i + 1)) ∧ ∀ q, j ≤ q → t.2.2.2 54 q = σ.2 54 q)
    (fun r => r.1 = lN (ppM (PV (mOf c) (full c)) LB (LA.getD i 0) LB.length) ∧ r.2.1 = σ.1 ∧ (∀ k, k ≠ 54 → r.2.2 k = σ.2 k) ∧ ∀ q, q < LB.length → r.2.2 54 q = cmL (PV (mOf c) (full c)) LA (LB.getD q 0) (i + 1)) LB.length ((10000000000000001 : Int64), (0 : Int32), σ) (by omega) ⟨rfl, rfl, rfl, fun _ _ => rfl, fun q hq => by omega, fun _ _ => rfl⟩ ?_ ?_
  · obtain ⟨r, r1, r2, r3, r4, r5⟩ := hq
    refine ⟨stL r.2 53 i r.1, ?_, r3, fun k h1 h2 => ?_, fun j hj => ?_, ?_, fun j hj => ?_⟩
    · rw [r1, Option.bind_some, chk_t (inb_nI (by omega) (by omega)), lm_eq]
    · rw [stL_k h1]; exact r4 k h2
    · rw [stL_s, updL_n hj, r4 53 (by decide)]
    · rw [stL_s, updL_s, r2]
    · rw [stL_k (by decide)]; exact r5 j hj
  · rintro j ⟨x, y, τ⟩ hj ⟨f1, f2, f3, f4, f5, f6⟩
    dsimp only at f1 f2 f3 f4 f5 f6
    subst f1; subst f2
    have hBj := ppA_g hB hj
    have mB : LB.getD j 0 ∈ LB := getD_mem hj
    have mB' := mB
    rw [eB, sets_mem] at mB'
    have hv := hV _ _ mA mB
    have hd2 := dif_lt (T := LB.getD j 0) (dif_lt (T := LA.getD i 0) hf2)
    have e2 : dif (full c) (LA.getD i 0) ^^^ (dif (full c) (LA.getD i 0) &&& LB.getD j 0) = dif (full c) (LA.getD i 0 ||| LB.getD j 0) := by
      apply Nat.eq_of_testBit_eq
      intro q
      unfold dif
      rw [dif_b, dif_b, dif_b, Nat.testBit_or]
      cases (full c).testBit q <;> cases (LA.getD i 0).testBit q <;> cases (LB.getD j 0).testBit q <;> rfl
    have hval : τ.2 49 (dif (full c) (LA.getD i 0 ||| LB.getD j 0)) = lN (PV (mOf c) (full c) (LA.getD i 0) (LB.getD j 0)) := by
      rw [f4 49 (by decide)]
      refine hf _ (sub_le (fun q hq => ?_)) (PJ_jur hc he ?_ ?_).2
      · unfold dif at hq
        rw [dif_b] at hq
        exact (Bool.and_eq_true _ _ ▸ hq).1
      · rw [eA]; exact mA'.2
      · rw [eB]; exact mB'.2
    have hdl := dif_lt (T := LA.getD i 0 ||| LB.getD j 0) hf2
    have h54 : τ.2 54 j = cmL (PV (mOf c) (full c)) LA (LB.getD j 0) i := by rw [f6 j (Nat.le_refl _)]; exact hx j hj
    generalize hVV : PV (mOf c) (full c) (LA.getD i 0) (LB.getD j 0) = v at hv hval
    have hXv : ppX (PV (mOf c) (full c)) LA (LB.getD j 0) (i + 1) = max (ppX (PV (mOf c) (full c)) LA (LB.getD j 0) i) v := by rw [← hVV]; rfl
    have hMv : ppM (PV (mOf c) (full c)) LB (LA.getD i 0) (j + 1) = min (ppM (PV (mOf c) (full c)) LB (LA.getD i 0) j) v := by rw [← hVV]; rfl
    have hMb : ppM (PV (mOf c) (full c)) LB (LA.getD i 0) j ≤ BIG := by
      cases j with
      | zero => exact Nat.le_refl _
      | succ j =>
        have := ppM_le (V := PV (mOf c) (full c)) (LB := LB) (A := LA.getD i 0) (j + 1) j (by omega)
        have := hV _ _ mA (getD_mem (show j < LB.length by omega))
        omega
    have hXb : i ≠ 0 → ppX (PV (mOf c) (full c)) LA (LB.getD j 0) i < BIG := fun h0 => by
      obtain ⟨k, k1, k2⟩ := ppX_at (V := PV (mOf c) (full c)) (LA := LA) (B := LB.getD j 0) i (by omega)
      rw [k2]; exact hV _ _ (getD_mem (by omega)) mB
    have hcm : cmL (PV (mOf c) (full c)) LA (LB.getD j 0) (i + 1) = lN (max (ppX (PV (mOf c) (full c)) LA (LB.getD j 0) i) v) := by
      unfold cmL; rw [if_neg (by omega), hXv]
    show ∃ s', g_X3_weighSet_19 (nI i) (nI (dif (full c) (LA.getD i 0))) _ (nI j) τ = some (.inl s') ∧ _
    unfold g_X3_weighSet_19
    rw [f3, h7, if_neg (nI_ge hj (by omega)), chk_t (inb_nI (by omega) (by omega)), nI_c (show j < 2147483648 by omega), hBj, andn2, e2, chk_t (inb_nI hdl (by omega)), nI_c (show dif _ _ < 2147483648 by omega), hval, h54]
    have eo : (if lN (ppM (PV (mOf c) (full c)) LB (LA.getD i 0) j) ≤ lN v then some (lN (ppM (PV (mOf c) (full c)) LB (LA.getD i 0) j)) else some (lN v)) = some (lN (ppM (PV (mOf c) (full c)) LB (LA.getD i 0) (j + 1))) := by
      rw [hMv]
      by_cases hle : ppM (PV (mOf c) (full c)) LB (LA.getD i 0) j ≤ v
      · rw [if_pos ((lN_leJ (by omega) (by omega)).mpr hle), Nat.min_eq_left hle]
      · rw [if_neg (fun q => hle ((lN_leJ (by omega) (by omega)).mp q)), Nat.min_eq_right (by omega)]
    rw [eo, Option.bind_some, chk_t (inb_nI (by omega) (by omega))]
    by_cases hle : lN v ≤ cmL (PV (mOf c) (full c)) LA (LB.getD j 0) i
    · rw [if_pos hle]
      refine ⟨_, rfl, rfl, nI_1 j, f3, f4, fun q hq => ?_, fun q hq => f6 q (by omega)⟩
      show τ.2 54 q = _
      by_cases e : q = j
      · subst e
        rw [h54, hcm]
        unfold cmL at hle ⊢
        by_cases h0 : i = 0
        · exfalso
          rw [if_pos h0, fa_le64, pk_lT (by omega)] at hle
          have : (-1 : Int64).toInt = -1 := rfl
          omega
        · rw [if_neg h0] at hle ⊢
          have := (lN_leJ (by omega) (by have := hXb h0; omega)).mp hle
          rw [Nat.max_eq_left this]
      · exact f5 q (by omega)
    · rw [if_neg hle, chk_t (inb_nI (by omega) (by omega)), lm_eq]
      refine ⟨_, rfl, rfl, nI_1 j, f3, fun k hk => ?_, fun q hq => ?_, fun q hq => ?_⟩
      · show (stL τ 54 j _).2 k = _
        rw [stL_k hk]; exact f4 k hk
      · show (stL τ 54 j _).2 54 q = _
        rw [stL_s]
        by_cases e : q = j
        · subst e
          rw [updL_s, hcm]
          unfold cmL at hle
          by_cases h0 : i = 0
          · subst h0
            show lN v = lN (max 0 v)
            rw [Nat.max_eq_right (Nat.zero_le _)]
          · rw [if_neg h0] at hle
            have : ¬ v ≤ ppX (PV (mOf c) (full c)) LA (LB.getD q 0) i := fun z => hle ((lN_leJ (by omega) (by have := hXb h0; omega)).mpr z)
            rw [Nat.max_eq_right (by omega)]
        · rw [updL_n e]; exact f5 q (by omega)
      · show (stL τ 54 j _).2 54 q = _
        rw [stL_s, updL_n (by omega)]; exact f6 q (by omega)
  · rintro ⟨x, y, τ⟩ ⟨f1, f2, f3, f4, f5, f6⟩
    dsimp only at f1 f2 f3 f4 f5 f6
    subst f1; subst f2
    refine ⟨(_, τ), ?_, rfl, f3, f4, f5⟩
    show g_X3_weighSet_19 (nI i) (nI (dif (full c) (LA.getD i 0))) _ (nI LB.length) τ = _
    unfold g_X3_weighSet_19
    rw [f3, h7, if_pos (nI_le (Nat.le_refl _) (by omega))]
    rfl
