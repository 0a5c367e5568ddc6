/-! COMING in the reference -/
def pl (p k S : Nat) : Nat := 4096 * (4 * p + k) + S
theorem pl_lt {p k S : Nat} (hp : p ≤ 12) (hk : k ≤ 3) (hS : S < 4096) : pl p k S < 212992 := by unfold pl; omega
theorem place_M {p k S : Nat} {μ : MM} : f_X7_place (nI p) (nI k) (nI S) μ = some (nI (pl p k S)) := by
  unfold f_X7_place pl
  have e1 : (4 : Int32) * nI p = nI (4 * p) := pk_mul 4 p
  have e2 : (4096 : Int32) * nI (4 * p + k) = nI (4096 * (4 * p + k)) := pk_mul 4096 _
  rw [e1, nI_add, e2, nI_add]
def lays (μ : MM) (c : Cr) (P : Nat) : Prop := ∀ q, P ≤ q → q ≤ call c → ∀ S k, k ≤ cK c 1 → VE c q S (cK c 1 - k) → μ.2 19 (pl q k S) = lN (CH (mOf c) (EE c q S (cK c 1 - k)).1)
/-- what a place that may be is like -/
theorem VE_at {c : Cr} {p S x : Nat} (hc : okC c) (he : enough c) (hp : p ≤ call c) (hv : VE c p S x) : S < 2 ^ p ∧ S < 4096 ∧ cnt S 12 ≤ p ∧ cnt S 12 ≤ cK c 0 ∧ x ≤ cK c 1 ∧ x ≤ p - cnt S 12 ∧ p - cnt S 12 - x ≤ cK c 2 := by
  have h12 := call12 hc he
  obtain ⟨v1, v2, v3, v4, v5, v6⟩ := hv
  rw [show call c - (call c - p) = p by omega] at v2 v5 v6
  exact ⟨v2, pow12 (by omega) v2, by rw [cnt_lt v2 (by omega)]; exact cnt_le _ _, v3, v4, v5, v6⟩
theorem left_M {c : Cr} {μ : MM} {p S k : Nat} (hc : okC c) (he : enough c) (hr : atR μ c) (hp : p ≤ call c) (hk : k ≤ cK c 1) (hv : VE c p S (cK c 1 - k)) : f_X7_leftOfB (nI p) (nI k) (nI S) μ = some (nI (cK c 2 - (p - cnt S 12 - (cK c 1 - k)))) := by
  have hb := kb hc
  obtain ⟨a1, a2, a3, a4, a5, a6, a7⟩ := VE_at hc he hp hv
  unfold f_X7_leftOfB
  rw [chk_t ib_1_5, chk_t ib_2_5, tn_1, tn_2, bits_M a2, Option.bind_some, hr.2.2.2 1 (by decide), hr.2.2.2 2 (by decide), nI_add, pk_sub a3, pk_sub (by omega), pk_sub (by omega)]
  congr 2
  omega
theorem ends_M {c : Cr} {μ : MM} {p S x : Nat} (hc : okC c) (he : enough c) (hr : atR μ c) (hp : p ≤ call c) (hv : VE c p S x) : (nT c p S → f_X7_ends (nI p) (nI S) μ = some 0 ∧ p < call c) ∧ (¬ nT c p S → f_X7_ends (nI p) (nI S) μ = some 1 ∧ f_X7_seatedAll (nI p) (nI S) μ = some (nI (EE c p S x).1)) := by
  have hb := kb hc
  have h12 := call12 hc he
  obtain ⟨a1, a2, a3, a4, a5, a6, a7⟩ := VE_at hc he hp hv
  have hpp : call c - (call c - p) = p := by omega
  have hcall : call c = cK c 0 + cK c 1 + cK c 2 := rfl
  unfold f_X7_ends f_X7_seatedAll
  rw [need_M hr, Option.bind_some, Option.bind_some, bits_M a2, Option.bind_some, Option.bind_some, pk_sub a4, many_M hr, cset_M hc hr]
  constructor
  · rintro ⟨n1, n2⟩
    rw [if_neg (nI_ne (by omega) (by omega)), Option.bind_some, pk_sub hp, if_neg (fun q => by have := (nI_eq_iff (by omega) (by omega)).mp q; omega)]
    exact ⟨rfl, by omega⟩
  · intro hn
    by_cases h1 : cnt S 12 = cK c 0
    · have eE : (EE c p S x).1 = S := by
        show (CE _ _ _ _ _ _ _).1 = _
        rw [CE_end (show cnt S 12 = mN (mOf c) from h1)]
      rw [show cK c 0 - cnt S 12 = 0 by omega, if_pos (show nI 0 = 0 from rfl), if_pos (show nI (cK c 0) = nI (cnt S 12) by rw [h1]), eE]
      exact ⟨rfl, rfl⟩
    · have h2 : p - cnt S 12 = cK c 1 + cK c 2 := by
        apply Classical.byContradiction
        intro q
        exact hn ⟨h1, q⟩
      obtain ⟨r, hr'⟩ : ∃ r, call c - p = r + 1 := ⟨call c - p - 1, by omega⟩
      have eE : (EE c p S x).1 = S ||| dif (2 ^ call c - 1) (2 ^ p - 1) := by
        show (CE _ _ _ _ _ _ _).1 = _
        rw [hr', CE_all (show cnt S 12 ≠ mN (mOf c) from h1) (by rw [← hr', hpp]; exact h2), ← hr', hpp]
      rw [if_neg (nI_ne (by omega) (by omega)), Option.bind_some, pk_sub hp, if_pos (show nI (cK c 0 - cnt S 12) = nI (call c - p) by rw [show cK c 0 - cnt S 12 = call c - p by omega]), if_neg (fun q => h1 ((nI_eq_iff (by omega) (by omega)).mp q).symm), Option.bind_some, allS _ (by omega), andn2, orI, eE]
      exact ⟨rfl, rfl⟩
/-- the three choices of one who comes -/
theorem come3 {c : Cr} {μ : MM} {p S k : Nat} (hc : okC c) (he : enough c) (hr : atR μ c) (hp : p < call c) (hk : k ≤ cK c 1) (hv : VE c p S (cK c 1 - k)) (hn : nT c p S) (hl : lays μ c (p + 1)) :
    ∃ B : Prop, ∃ A : Prop, (B ∨ ¬ B) ∧ (A ∨ ¬ A) ∧ (B → f_X7_strikesB (nI p) (nI k) (nI S) μ = some 1 ∧ VE c (p + 1) S (cK c 1 - k)) ∧ (¬ B → f_X7_strikesB (nI p) (nI k) (nI S) μ = some 0 ∧ VE c (p + 1) (S ||| 2 ^ p) (cK c 1 - k)) ∧ (A → f_X7_strikesA (nI p) (nI k) (nI S) μ = some 1 ∧ 0 < k ∧ VE c (p + 1) S (cK c 1 - (k - 1)) ∧ EE c p S (cK c 1 - k) = EE c (p + 1) S (cK c 1 - (k - 1))) ∧ (¬ A → f_X7_strikesA (nI p) (nI k) (nI S) μ = some 0) ∧ (¬ A → B → EE c p S (cK c 1 - k) = EE c (p + 1) S (cK c 1 - k)) ∧ (¬ A → ¬ B → EE c p S (cK c 1 - k) = EE c (p + 1) (S ||| 2 ^ p) (cK c 1 - k)) ∧ (¬ A → f_X7_notByA (nI p) (nI k) (nI S) μ = some (lN (CH (mOf c) (EE c p S (cK c 1 - k)).1))) := by
  have hb := kb hc
  have h12 := call12 hc he
  obtain ⟨a1, a2, a3, a4, a5, a6, a7⟩ := VE_at hc he (by omega) hv
  obtain ⟨n1, n2⟩ := hn
  have hr' : call c - p = (call c - (p + 1)) + 1 := by omega
  have hvr : ceV (mOf c) (call c) (cK c 1) (cK c 2) (call c - (p + 1) + 1) S (cK c 1 - k) := by rw [← hr']; exact hv
  have hpr : call c - (call c - (p + 1) + 1) = p := by omega
  have V1 : VE c (p + 1) (S ||| 2 ^ p) (cK c 1 - k) := by
    have := (ceV_1 h12 hvr n1).1
    rw [hpr] at this; exact this
  have hE : EE c p S (cK c 1 - k) = if cK c 1 - k < cK c 1 ∧ CH (mOf c) (ceB (mOf c) (call c) (cK c 1) (cK c 2) (call c - (p + 1)) S (cK c 1 - k)).1 < CH (mOf c) (EE c (p + 1) S (cK c 1 - k + 1)).1 then EE c (p + 1) S (cK c 1 - k + 1) else ceB (mOf c) (call c) (cK c 1) (cK c 2) (call c - (p + 1)) S (cK c 1 - k) := by
    show CE _ _ _ _ (call c - p) _ _ = _
    rw [hr']
    exact CE_step (show cnt S 12 ≠ mN (mOf c) from n1) (by rw [hpr]; exact n2)
  have hB : ceB (mOf c) (call c) (cK c 1) (cK c 2) (call c - (p + 1)) S (cK c 1 - k) = if p - cnt S 12 - (cK c 1 - k) < cK c 2 ∧ CH (mOf c) (EE c (p + 1) S (cK c 1 - k)).1 < CH (mOf c) (EE c (p + 1) (S ||| 2 ^ p) (cK c 1 - k)).1 then EE c (p + 1) S (cK c 1 - k) else EE c (p + 1) (S ||| 2 ^ p) (cK c 1 - k) := by
    unfold ceB
    rw [hpr]
  have hSp : (S ||| 2 ^ p) < 4096 := (VE_at hc he (by omega) V1).2.1
  have i1 := pl_lt (p := p + 1) (k := k) (S := S ||| 2 ^ p) (by omega) (by omega) hSp
  have i2 := pl_lt (p := p + 1) (k := k) (S := S) (by omega) (by omega) a2
  have L1 := hl (p + 1) (Nat.le_refl _) hp _ k hk V1
  have b1 := CHlt hc he V1
  -- B
  have hsB : ∀ B : Prop, (B ↔ p - cnt S 12 - (cK c 1 - k) < cK c 2 ∧ CH (mOf c) (EE c (p + 1) S (cK c 1 - k)).1 < CH (mOf c) (EE c (p + 1) (S ||| 2 ^ p) (cK c 1 - k)).1) → (B → f_X7_strikesB (nI p) (nI k) (nI S) μ = some 1 ∧ VE c (p + 1) S (cK c 1 - k)) ∧ (¬ B → f_X7_strikesB (nI p) (nI k) (nI S) μ = some 0) := by
    intro B hBi
    unfold f_X7_strikesB
    rw [left_M hc he hr (by omega) hk hv, Option.bind_some]
    by_cases hlt : p - cnt S 12 - (cK c 1 - k) < cK c 2
    · have V2 : VE c (p + 1) S (cK c 1 - k) := ceV_2 hvr (by rw [hpr]; exact hlt)
      have L2 := hl (p + 1) (Nat.le_refl _) hp _ k hk V2
      have b2 := CHlt hc he V2
      rw [if_neg (nI_nle (by omega) (by omega)), nI_1, place_M, Option.bind_some, chk_t (inb_nI i2 (by omega)), sh1 p (by omega), orI, place_M, Option.bind_some, chk_t (inb_nI i1 (by omega)), nI_c (by omega), nI_c (by omega), L1, L2]
      refine ⟨fun q => ⟨?_, V2⟩, fun q => ?_⟩
      · have := (hBi.mp q).2
        have hn : ¬ lN (CH (mOf c) (EE c (p + 1) (S ||| 2 ^ p) (cK c 1 - k)).1) ≤ lN (CH (mOf c) (EE c (p + 1) S (cK c 1 - k)).1) := fun z => by have := (lN_leJ b1 b2).mp z; omega
        rw [if_neg hn]; rfl
      · have : ¬ CH (mOf c) (EE c (p + 1) S (cK c 1 - k)).1 < CH (mOf c) (EE c (p + 1) (S ||| 2 ^ p) (cK c 1 - k)).1 := fun z => q (hBi.mpr ⟨hlt, z⟩)
        rw [if_pos ((lN_leJ b1 b2).mpr (by omega))]; rfl
    · have c0 : nI (cK c 2 - (p - cnt S 12 - (cK c 1 - k))) ≤ 0 := nI_le (b := 0) (by omega) (by omega)
      rw [if_pos c0]
      exact ⟨fun q => absurd (hBi.mp q).1 hlt, fun _ => rfl⟩
  obtain ⟨B1, B2⟩ := hsB _ Iff.rfl
  have hnot : f_X7_notByA (nI p) (nI k) (nI S) μ = some (lN (CH (mOf c) (ceB (mOf c) (call c) (cK c 1) (cK c 2) (call c - (p + 1)) S (cK c 1 - k)).1)) := by
    unfold f_X7_notByA
    rw [hB]
    by_cases hq : p - cnt S 12 - (cK c 1 - k) < cK c 2 ∧ CH (mOf c) (EE c (p + 1) S (cK c 1 - k)).1 < CH (mOf c) (EE c (p + 1) (S ||| 2 ^ p) (cK c 1 - k)).1
    · obtain ⟨q1, V2⟩ := B1 hq
      rw [q1, Option.bind_some, if_neg n10, Option.bind_some, nI_1, place_M, Option.bind_some, chk_t (inb_nI i2 (by omega)), nI_c (by omega), hl (p + 1) (Nat.le_refl _) hp _ k hk V2, if_pos hq]
    · rw [B2 hq, Option.bind_some, if_pos z00, Option.bind_some, nI_1, sh1 p (by omega), orI, place_M, Option.bind_some, chk_t (inb_nI i1 (by omega)), nI_c (by omega), L1, if_neg hq]
  have bB : CH (mOf c) (ceB (mOf c) (call c) (cK c 1) (cK c 2) (call c - (p + 1)) S (cK c 1 - k)).1 < 9223372036854775808 := by
    rw [hB]
    by_cases hq : p - cnt S 12 - (cK c 1 - k) < cK c 2 ∧ CH (mOf c) (EE c (p + 1) S (cK c 1 - k)).1 < CH (mOf c) (EE c (p + 1) (S ||| 2 ^ p) (cK c 1 - k)).1
    · rw [if_pos hq]; exact CHlt hc he (B1 hq).2
    · rw [if_neg hq]; exact b1
  refine ⟨p - cnt S 12 - (cK c 1 - k) < cK c 2 ∧ CH (mOf c) (EE c (p + 1) S (cK c 1 - k)).1 < CH (mOf c) (EE c (p + 1) (S ||| 2 ^ p) (cK c 1 - k)).1, cK c 1 - k < cK c 1 ∧ CH (mOf c) (ceB (mOf c) (call c) (cK c 1) (cK c 2) (call c - (p + 1)) S (cK c 1 - k)).1 < CH (mOf c) (EE c (p + 1) S (cK c 1 - k + 1)).1, Classical.em _, Classical.em _, B1, fun q => ⟨B2 q, V1⟩, fun q => ?_, fun q => ?_, fun qa qb => ?_, fun qa qb => ?_, fun qa => ?_⟩
  · have hk0 : 0 < k := by omega
    have ek : cK c 1 - (k - 1) = cK c 1 - k + 1 := by omega
    have V3 : VE c (p + 1) S (cK c 1 - (k - 1)) := by rw [ek]; exact ceV_3 h12 hvr q.1
    have b3 := CHlt hc he V3
    refine ⟨?_, hk0, V3, by rw [hE, if_pos q, ek]⟩
    unfold f_X7_strikesA
    have i3 := pl_lt (p := p + 1) (k := k - 1) (S := S) (by omega) (by omega) a2
    have hn : ¬ lN (CH (mOf c) (EE c (p + 1) S (cK c 1 - (k - 1))).1) ≤ lN (CH (mOf c) (ceB (mOf c) (call c) (cK c 1) (cK c 2) (call c - (p + 1)) S (cK c 1 - k)).1) := fun z => by
      have h1 := (lN_leJ b3 bB).mp z
      have h2 := q.2
      rw [← ek] at h2
      omega
    rw [if_neg (nI_nle hk0 (by omega)), nI_1, nI_sub1 hk0, place_M, Option.bind_some, chk_t (inb_nI i3 (by omega)), hnot, Option.bind_some, nI_c (by omega), hl (p + 1) (Nat.le_refl _) hp _ (k - 1) (by omega) V3, if_neg hn]; rfl
  · unfold f_X7_strikesA
    by_cases hk0 : k = 0
    · rw [if_pos (show nI k ≤ 0 by rw [hk0]; decide)]; rfl
    · have ek : cK c 1 - (k - 1) = cK c 1 - k + 1 := by omega
      have hlt : cK c 1 - k < cK c 1 := by omega
      have V3 : VE c (p + 1) S (cK c 1 - (k - 1)) := by rw [ek]; exact ceV_3 h12 hvr hlt
      have b3 := CHlt hc he V3
      have i3 := pl_lt (p := p + 1) (k := k - 1) (S := S) (by omega) (by omega) a2
      have hle : CH (mOf c) (EE c (p + 1) S (cK c 1 - (k - 1))).1 ≤ CH (mOf c) (ceB (mOf c) (call c) (cK c 1) (cK c 2) (call c - (p + 1)) S (cK c 1 - k)).1 := by
        apply Classical.byContradiction
        intro z
        rw [ek] at z
        exact q ⟨hlt, by omega⟩
      rw [if_neg (nI_nle (by omega) (by omega)), nI_1, nI_sub1 (by omega), place_M, Option.bind_some, chk_t (inb_nI i3 (by omega)), hnot, Option.bind_some, nI_c (by omega), hl (p + 1) (Nat.le_refl _) hp _ (k - 1) (by omega) V3, if_pos ((lN_leJ b3 bB).mpr hle)]; rfl
  · rw [hE, if_neg qa, hB, if_pos qb]
  · rw [hE, if_neg qa, hB, if_neg qb]
  · rw [hnot, hE, if_neg qa]
