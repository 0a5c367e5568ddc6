/-! COMING: how it ends -/
def ceV (m : Mi) (cl a b r S x : Nat) : Prop := r ≤ cl ∧ S < 2 ^ (cl - r) ∧ cnt S 12 ≤ mN m ∧ x ≤ a ∧ x ≤ cl - r - cnt S 12 ∧ cl - r - cnt S 12 - x ≤ b
theorem CE_end {m : Mi} {cl a b r S x : Nat} (h : cnt S 12 = mN m) : CE m cl a b r S x = (S, a - x, b - (cl - r - cnt S 12 - x)) := by
  cases r with
  | zero => rfl
  | succ r => unfold CE; rw [if_pos h]
theorem CE_all {m : Mi} {cl a b r S x : Nat} (h : cnt S 12 ≠ mN m) (h2 : cl - (r + 1) - cnt S 12 = a + b) : CE m cl a b (r + 1) S x = (S ||| dif (2 ^ cl - 1) (2 ^ (cl - (r + 1)) - 1), 0, 0) := by
  unfold CE; rw [if_neg h, if_pos h2]
def ceB (m : Mi) (cl a b r S x : Nat) : Nat × Nat × Nat := if cl - (r + 1) - cnt S 12 - x < b ∧ CH m (CE m cl a b r S x).1 < CH m (CE m cl a b r (S ||| 2 ^ (cl - (r + 1))) x).1 then CE m cl a b r S x else CE m cl a b r (S ||| 2 ^ (cl - (r + 1))) x
theorem CE_step {m : Mi} {cl a b r S x : Nat} (h : cnt S 12 ≠ mN m) (h2 : cl - (r + 1) - cnt S 12 ≠ a + b) : CE m cl a b (r + 1) S x = if x < a ∧ CH m (ceB m cl a b r S x).1 < CH m (CE m cl a b r S (x + 1)).1 then CE m cl a b r S (x + 1) else ceB m cl a b r S x := by
  unfold ceB
  rw [CE, if_neg h, if_neg h2]
theorem cnt_rest {S p cl : Nat} (hS : S < 2 ^ p) (hp : p ≤ cl) : ∀ i, cnt (S ||| dif (2 ^ cl - 1) (2 ^ p - 1)) i = cnt S (min i p) + (min i cl - min i p) := by
  intro i
  induction i with
  | zero => simp [cnt]
  | succ i ih =>
    rw [cnt_s, ih, Nat.testBit_or]
    unfold dif
    rw [dif_b, m2, m2]
    rcases Nat.lt_or_ge i p with q | q
    · rw [show min (i + 1) p = min i p + 1 by omega, cnt_s, show min i p = i by omega]
      simp [q, show i < cl by omega]
      omega
    · have hz : S.testBit i = false := Nat.testBit_lt_two_pow (Nat.lt_of_lt_of_le hS (Nat.pow_le_pow_right (by decide) q))
      rw [show min (i + 1) p = min i p by omega, hz]
      rcases Nat.lt_or_ge i cl with q2 | q2
      · simp [q2, show ¬ i < p by omega]; omega
      · simp [show ¬ i < cl by omega]; omega
theorem ceV_1 {m : Mi} {cl a b r S x : Nat} (hcl : cl ≤ 12) (h : ceV m cl a b (r + 1) S x) (h1 : cnt S 12 ≠ mN m) : ceV m cl a b r (S ||| 2 ^ (cl - (r + 1))) x ∧ S.testBit (cl - (r + 1)) = false ∧ cnt (S ||| 2 ^ (cl - (r + 1))) 12 = cnt S 12 + 1 := by
  obtain ⟨v1, v2, v3, v4, v5, v6⟩ := h
  have hb : S.testBit (cl - (r + 1)) = false := Nat.testBit_lt_two_pow v2
  have hc := cnt_ins hb (show cl - (r + 1) < 12 by omega)
  have hp : cl - r = cl - (r + 1) + 1 := by omega
  refine ⟨⟨by omega, ?_, by omega, v4, by omega, by omega⟩, hb, hc⟩
  rw [hp]
  refine Nat.or_lt_two_pow (Nat.lt_of_lt_of_le v2 (Nat.pow_le_pow_right (by decide) (by omega))) (Nat.pow_lt_pow_right (by decide) (by omega))
theorem ceV_2 {m : Mi} {cl a b r S x : Nat} (h : ceV m cl a b (r + 1) S x) (h1 : cl - (r + 1) - cnt S 12 - x < b) : ceV m cl a b r S x := by
  obtain ⟨v1, v2, v3, v4, v5, v6⟩ := h
  have hcl := Nat.le_trans (Nat.le_of_eq (cnt_ext (n := 12) (S := S) (T := S) (fun _ _ => rfl))) (Nat.le_refl _)
  exact ⟨by omega, Nat.lt_of_lt_of_le v2 (Nat.pow_le_pow_right (by decide) (by omega)), v3, v4, by omega, by omega⟩
theorem ceV_3 {m : Mi} {cl a b r S x : Nat} (hcl : cl ≤ 12) (h : ceV m cl a b (r + 1) S x) (h1 : x < a) : ceV m cl a b r S (x + 1) := by
  obtain ⟨v1, v2, v3, v4, v5, v6⟩ := h
  have hle : cnt S 12 ≤ cl - (r + 1) := by rw [cnt_lt v2 (by omega)]; exact cnt_le _ _
  exact ⟨by omega, Nat.lt_of_lt_of_le v2 (Nat.pow_le_pow_right (by decide) (by omega)), v3, by omega, by omega, by omega⟩
theorem CE_ok {m : Mi} {cl a b : Nat} (hcl : cl ≤ 12) (he : cl = mN m + a + b) : ∀ r S x, ceV m cl a b r S x → (CE m cl a b r S x).1 < 2 ^ cl ∧ cnt (CE m cl a b r S x).1 12 = mN m ∧ (CE m cl a b r S x).2.1 ≤ a ∧ (CE m cl a b r S x).2.2 ≤ b := by
  intro r
  induction r with
  | zero =>
    intro S x h
    obtain ⟨v1, v2, v3, v4, v5, v6⟩ := h
    have hle : cnt S 12 ≤ cl - 0 := by rw [cnt_lt v2 (by omega)]; exact cnt_le _ _
    have hc : cnt S 12 = mN m := by omega
    rw [CE_end hc]
    exact ⟨v2, hc, by dsimp only; omega, by dsimp only; omega⟩
  | succ r ih =>
    intro S x h
    obtain ⟨v1, v2, v3, v4, v5, v6⟩ := id h
    have hle : cnt S 12 ≤ cl - (r + 1) := by rw [cnt_lt v2 (by omega)]; exact cnt_le _ _
    have hlt : S < 2 ^ cl := Nat.lt_of_lt_of_le v2 (Nat.pow_le_pow_right (by decide) (by omega))
    by_cases h1 : cnt S 12 = mN m
    · rw [CE_end h1]
      exact ⟨hlt, h1, by dsimp only; omega, by dsimp only; omega⟩
    by_cases h2 : cl - (r + 1) - cnt S 12 = a + b
    · rw [CE_all h1 h2]
      refine ⟨?_, ?_, Nat.zero_le _, Nat.zero_le _⟩
      · refine Nat.or_lt_two_pow hlt ?_
        apply sub_full.mp
        intro i hi
        unfold dif at hi
        rw [dif_b] at hi
        exact (Bool.and_eq_true _ _ ▸ hi).1
      · show cnt (S ||| dif (2 ^ cl - 1) (2 ^ (cl - (r + 1)) - 1)) 12 = _
        rw [cnt_rest v2 (by omega), show min 12 (cl - (r + 1)) = cl - (r + 1) by omega, show min 12 cl = cl by omega, ← cnt_lt v2 (by omega)]
        omega
    · have hB : (ceB m cl a b r S x).1 < 2 ^ cl ∧ cnt (ceB m cl a b r S x).1 12 = mN m ∧ (ceB m cl a b r S x).2.1 ≤ a ∧ (ceB m cl a b r S x).2.2 ≤ b := by
        unfold ceB
        by_cases h3 : cl - (r + 1) - cnt S 12 - x < b ∧ CH m (CE m cl a b r S x).1 < CH m (CE m cl a b r (S ||| 2 ^ (cl - (r + 1))) x).1
        · rw [if_pos h3]; exact ih _ _ (ceV_2 h h3.1)
        · rw [if_neg h3]; exact ih _ _ (ceV_1 hcl h h1).1
      rw [CE_step h1 h2]
      by_cases h4 : x < a ∧ CH m (ceB m cl a b r S x).1 < CH m (CE m cl a b r S (x + 1)).1
      · rw [if_pos h4]; exact ih _ _ (ceV_3 hcl h h4.1)
      · rw [if_neg h4]; exact hB
/-! four slots of a long -/
def slt (w : Int64) (k : Nat) : Nat := ((w.toBitVec >>> (16 * k)).setWidth 16).toNat
theorem slt_lt (w : Int64) (k : Nat) : slt w k < 65536 := ((w.toBitVec >>> (16 * k)).setWidth 16).isLt
theorem slt_b (w : Int64) (k i : Nat) : (slt w k).testBit i = (decide (i < 16) && w.toBitVec.getLsbD (16 * k + i)) := by
  show ((w.toBitVec >>> (16 * k)).setWidth 16).getLsbD i = _
  rw [BitVec.getLsbD_setWidth, BitVec.getLsbD_ushiftRight]
theorem su16 : ∀ k, k < 4 → ((((16 : Int32) * nI k).toInt64.toUInt64 &&& Int64.toUInt64 63).toBitVec % 64).toNat = 16 * k := by decide
theorem sm16 : ∀ k, k < 4 → ((((16 : Int32) * nI k).toInt64 &&& 63).toBitVec.smod 64).toNat = 16 * k := by decide
theorem slt_rd (w : Int64) {k : Nat} (hk : k < 4) : (((w.toUInt64 >>> (((16 : Int32) * nI k).toInt64.toUInt64 &&& Int64.toUInt64 63)).toInt64) &&& (65535 : Int64)).toInt32 = nI (slt w k) := by
  apply Int32.toBitVec_inj.mp
  have e1 : (w.toUInt64 >>> (((16 : Int32) * nI k).toInt64.toUInt64 &&& Int64.toUInt64 63)).toBitVec = w.toBitVec >>> (16 * k) := by
    show w.toBitVec >>> ((((16 : Int32) * nI k).toInt64.toUInt64 &&& Int64.toUInt64 63).toBitVec % 64).toNat = _
    rw [su16 k hk]
  rw [Int64.toBitVec_toInt32, Int64.toBitVec_and, UInt64.toBitVec_toInt64, e1, nI_bv]
  apply BitVec.eq_of_getLsbD_eq
  intro i hi
  rw [BitVec.getLsbD_signExtend, BitVec.getLsbD_and, BitVec.getLsbD_ushiftRight, BitVec.getLsbD_ofNat, slt_b]
  have h65 : (65535 : Int64).toBitVec.getLsbD i = decide (i < 16) := by
    show (BitVec.ofNat 64 (2 ^ 16 - 1)).getLsbD i = _
    rw [BitVec.getLsbD_ofNat, Nat.testBit_two_pow_sub_one]
    simp [show i < 64 by omega]
  rw [h65]
  simp [hi, show i < 64 by omega, Bool.and_comm]
theorem slt_wr (w : Int64) {k v : Nat} (hk : k < 4) (hv : v < 65536) (j : Nat) (hj : j < 4) : slt ((w &&& (((65535 : Int64) <<< (((16 : Int32) * nI k).toInt64 &&& 63)) ^^^ (-1 : Int64))) ||| ((nI v).toInt64 <<< (((16 : Int32) * nI k).toInt64 &&& 63))) j = if j = k then v else slt w j := by
  have e1 : ∀ x : Int64, (x <<< (((16 : Int32) * nI k).toInt64 &&& 63)).toBitVec = x.toBitVec <<< (16 * k) := fun x => by
    show x.toBitVec <<< ((((16 : Int32) * nI k).toInt64 &&& 63).toBitVec.smod 64) = _
    have : (((16 : Int32) * nI k).toInt64 &&& 63).toBitVec.smod 64 = BitVec.ofNat 64 (16 * k) := by
      apply BitVec.eq_of_toNat_eq
      rw [sm16 k hk]
      simp; omega
    rw [this]
    show x.toBitVec <<< (BitVec.ofNat 64 (16 * k)).toNat = _
    simp [show 16 * k < 18446744073709551616 by omega, Nat.mod_eq_of_lt]
  have e2 : (nI v).toInt64.toBitVec = BitVec.ofNat 64 v := by rw [nI_l (by omega)]; rfl
  apply Nat.eq_of_testBit_eq
  intro i
  rw [slt_b, Int64.toBitVec_or, Int64.toBitVec_and, Int64.toBitVec_xor, e1, e1, e2]
  rw [BitVec.getLsbD_or, BitVec.getLsbD_and, BitVec.getLsbD_xor, BitVec.getLsbD_shiftLeft, BitVec.getLsbD_shiftLeft, BitVec.getLsbD_ofNat]
  have hm1 : (-1 : Int64).toBitVec.getLsbD (16 * j + i) = decide (16 * j + i < 64) := by
    show (BitVec.allOnes 64).getLsbD (16 * j + i) = _
    rw [BitVec.getLsbD_allOnes]
  have h65 : (65535 : Int64).toBitVec.getLsbD (16 * j + i - 16 * k) = decide (16 * j + i - 16 * k < 16) := by
    show (BitVec.ofNat 64 (2 ^ 16 - 1)).getLsbD _ = _
    rw [BitVec.getLsbD_ofNat, Nat.testBit_two_pow_sub_one]
    by_cases q : 16 * j + i - 16 * k < 16
    · simp [q, show 16 * j + i - 16 * k < 64 by omega]
    · simp [q]
  rw [hm1, h65]
  by_cases hi : i < 16
  · have h64 : 16 * j + i < 64 := by omega
    by_cases e : j = k
    · subst e
      rw [if_pos rfl, show 16 * j + i - 16 * j = i by omega]
      simp [hi, h64, show ¬ 16 * j + i < 16 * j by omega, show i < 64 by omega]
    · rw [if_neg e, slt_b]
      rcases Nat.lt_or_gt_of_ne e with q | q
      · simp [hi, h64, show 16 * j + i < 16 * k by omega]
      · have hbig : ¬ 16 * j + i - 16 * k < 16 := by omega
        have hvb : v.testBit (16 * j + i - 16 * k) = false := Nat.testBit_lt_two_pow (Nat.lt_of_lt_of_le hv (Nat.pow_le_pow_right (n := 2) (i := 16) (by decide) (by omega)))
        simp [hi, h64, hbig, hvb]
  · have hz : ∀ u : Nat, u < 65536 → u.testBit i = false := fun u hu => Nat.testBit_lt_two_pow (Nat.lt_of_lt_of_le hu (Nat.pow_le_pow_right (n := 2) (i := 16) (by decide) (by omega)))
    rw [show decide (i < 16) = false by simp [hi], Bool.false_and]
    by_cases e : j = k
    · rw [if_pos e, hz v hv]
    · rw [if_neg e, hz _ (slt_lt w j)]
