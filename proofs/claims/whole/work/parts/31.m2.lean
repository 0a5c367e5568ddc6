/-! sets as numbers -/
theorem sh1 : ∀ i, i < 31 → (1 : Int32) <<< (nI i &&& 31) = nI (2 ^ i) := by decide
theorem smo : ∀ n, n < 32 → ((nI n &&& 31).toBitVec.smod 32).toNat = n := by decide
theorem bitS {S i : Nat} (hi : i < 31) : (nI S &&& ((1 : Int32) <<< (nI i &&& 31))) = 0 ↔ S.testBit i = false := by
  rw [sh1 i hi]
  exact fa_bit hi
theorem shrI {S i : Nat} (hS : S < 2147483648) (hi : i < 32) : nI S >>> (nI i &&& 31) = nI (S / 2 ^ i) := pk_shrN hS _ i (smo i hi)
theorem and1 (n : Nat) : nI n &&& 1 = nI (n % 2) := by
  have h := fa_mask n 1
  exact h
theorem bitM {S i : Nat} (hS : S < 2147483648) (hi : i < 32) : (nI S >>> (nI i &&& 31)) &&& 1 = nI (if S.testBit i = true then 1 else 0) := by
  rw [shrI hS hi, and1]
  congr 1
  have h : S.testBit i = decide (S / 2 ^ i % 2 = 1) := Nat.testBit_eq_decide_div_mod_eq
  rw [h]
  by_cases h2 : S / 2 ^ i % 2 = 1
  · simp [h2]
  · simp [h2]; omega
def cnt (S : Nat) : Nat → Nat
  | 0 => 0
  | n + 1 => cnt S n + (if S.testBit n = true then 1 else 0)
theorem cnt_s (S n : Nat) : cnt S (n + 1) = cnt S n + (if S.testBit n = true then 1 else 0) := rfl
theorem cnt_le (S n : Nat) : cnt S n ≤ n := by
  induction n with
  | zero => exact Nat.le_refl 0
  | succ n ih => rw [cnt_s]; split <;> omega
theorem cnt_mono (S : Nat) {a b : Nat} (h : a ≤ b) : cnt S a ≤ cnt S b := by
  induction b with
  | zero => rw [Nat.le_zero.mp h]; exact Nat.le_refl _
  | succ b ih =>
    rcases Nat.lt_or_ge a (b + 1) with q | q
    · have := ih (by omega)
      rw [cnt_s]; omega
    · rw [show a = b + 1 by omega]; exact Nat.le_refl _
theorem cnt_stop {S a b : Nat} (h : cnt S a = cnt S b) {j : Nat} (h1 : a ≤ j) (h2 : j < b) : S.testBit j = false := by
  have x1 := cnt_mono S h1
  have x2 := cnt_mono S (show j + 1 ≤ b from h2)
  rw [cnt_s] at x2
  cases hq : S.testBit j with
  | false => rfl
  | true => rw [hq] at x2; simp at x2; omega
theorem cnt_ext {S T : Nat} {n : Nat} (h : ∀ i, i < n → S.testBit i = T.testBit i) : cnt S n = cnt T n := by
  induction n with
  | zero => rfl
  | succ n ih => rw [cnt_s, cnt_s, ih (fun i hi => h i (by omega)), h n (by omega)]
/-! how many of a set find for A -/
def nx (F : Nat → Nat) (x : Nat) : Nat → Nat
  | 0 => F 0 * (100 - x)
  | k + 1 => F (k + 1) * (100 - x) + F k * x
def fd (l : Nat → Nat) (S : Nat) : Nat → Nat → Nat
  | 0 => fun k => if k = 0 then 1 else 0
  | i + 1 => if S.testBit i = true then nx (fd l S i) (l i) else fd l S i
theorem fd_y {l : Nat → Nat} {S i : Nat} (h : S.testBit i = true) : fd l S (i + 1) = nx (fd l S i) (l i) := if_pos h
theorem fd_n {l : Nat → Nat} {S i : Nat} (h : S.testBit i = false) : fd l S (i + 1) = fd l S i := if_neg (by rw [h]; exact Bool.false_ne_true)
theorem fd_big {l : Nat → Nat} {S : Nat} : ∀ (i k : Nat), cnt S i < k → fd l S i k = 0 := by
  intro i
  induction i with
  | zero => intro k h; exact if_neg (by have : cnt S 0 = 0 := rfl; omega)
  | succ i ih =>
    intro k h
    rw [cnt_s] at h
    cases hq : S.testBit i with
    | false => rw [fd_n hq]; rw [hq] at h; exact ih k (by simpa using h)
    | true =>
      rw [fd_y hq]
      rw [hq] at h
      simp only [if_pos] at h
      match k, h with
      | 0, h => omega
      | k + 1, h =>
        show fd l S i (k + 1) * (100 - l i) + fd l S i k * l i = 0
        rw [ih (k + 1) (by omega), ih k (by omega)]
        simp
theorem fd_stop {l : Nat → Nat} {S a b : Nat} (hab : a ≤ b) (h : ∀ j, a ≤ j → j < b → S.testBit j = false) : fd l S b = fd l S a := by
  induction b with
  | zero => rw [Nat.le_zero.mp hab]
  | succ b ih =>
    rcases Nat.lt_or_ge a (b + 1) with q | q
    · rw [fd_n (h b (by omega) (by omega)), ih (by omega) (fun j h1 h2 => h j h1 (by omega))]
    · rw [show a = b + 1 by omega]
theorem fd_lt {l : Nat → Nat} {S p : Nat} (hS : S < 2 ^ p) (hp : p ≤ 12) : fd l S 12 = fd l S p :=
  fd_stop hp (fun j h1 _ => Nat.testBit_lt_two_pow (Nat.lt_of_lt_of_le hS (Nat.pow_le_pow_right (by decide) h1)))
theorem cnt_lt {S p : Nat} (hS : S < 2 ^ p) (hp : p ≤ 12) : cnt S 12 = cnt S p := by
  have : ∀ d, cnt S (p + d) = cnt S p := by
    intro d
    induction d with
    | zero => rfl
    | succ d ih => rw [← Nat.add_assoc, cnt_s, ih, Nat.testBit_lt_two_pow (Nat.lt_of_lt_of_le hS (Nat.pow_le_pow_right (by decide) (by omega)))]; simp
  have h := this (12 - p)
  rwa [show p + (12 - p) = 12 by omega] at h
theorem fd_ext {l l' : Nat → Nat} {S n : Nat} (h : ∀ i, i < n → S.testBit i = true → l i = l' i) : fd l S n = fd l' S n := by
  induction n with
  | zero => rfl
  | succ n ih =>
    cases hq : S.testBit n with
    | false => rw [fd_n hq, fd_n hq, ih (fun i hi => h i (by omega))]
    | true => rw [fd_y hq, fd_y hq, ih (fun i hi => h i (by omega)), h n (by omega) hq]
/-! bounds -/
theorem fb_nx {F : Nat → Nat} {x : Nat} (hx : x ≤ 100) : ∀ K, fb_sm (nx F x) (K + 1) = (100 - x) * fb_sm F (K + 1) + x * fb_sm F K := by
  intro K
  induction K with
  | zero => rw [fb_sm_succ, fb_sm_succ]; show 0 + F 0 * (100 - x) = (100 - x) * (0 + F 0) + x * 0; rw [Nat.zero_add, Nat.zero_add, Nat.mul_zero, Nat.add_zero, Nat.mul_comm]
  | succ K ih =>
    have e1 : fb_sm F (K + 1 + 1) = fb_sm F (K + 1) + F (K + 1) := rfl
    have e2 : x * fb_sm F (K + 1) = x * fb_sm F K + x * F K := by rw [← Nat.mul_add]; rfl
    rw [fb_sm_succ (nx F x), ih, e1, Nat.mul_add, e2]
    show _ + (F (K + 1) * (100 - x) + F K * x) = _
    rw [Nat.mul_comm (F (K + 1)), Nat.mul_comm (F K)]
    omega
theorem fd_sum {l : Nat → Nat} {S : Nat} : ∀ (n : Nat), (∀ i, i < n → S.testBit i = true → l i ≤ 100) → cnt S n ≤ 7 → fb_sm (fd l S n) 8 = 100 ^ cnt S n := by
  intro n
  induction n with
  | zero => intro _ _; rfl
  | succ n ih =>
    intro hl hc
    rw [cnt_s] at hc ⊢
    cases hq : S.testBit n with
    | false => rw [fd_n hq]; rw [hq] at hc; exact ih (fun i hi => hl i (by omega)) (by omega)
    | true =>
      rw [hq] at hc
      simp only [if_pos] at hc ⊢
      have h1 := ih (fun i hi => hl i (by omega)) (by omega)
      have hx := hl n (by omega) hq
      rw [fd_y hq, fb_nx hx, Nat.pow_succ]
      have h2 : fb_sm (fd l S n) 8 = fb_sm (fd l S n) 7 := by rw [fb_sm_succ, fd_big n 7 (by omega)]; rfl
      rw [h1, ← h2, h1]
      have : (100 - l n) * 100 ^ cnt S n + l n * 100 ^ cnt S n = 100 * 100 ^ cnt S n := by rw [← Nat.add_mul]; congr 1; omega
      rw [this, Nat.mul_comm]
theorem sm_part {f : Nat → Nat} {a b : Nat} (h : a ≤ b) : fb_sm f a ≤ fb_sm f b := by
  obtain ⟨d, rfl⟩ : ∃ d, b = a + d := ⟨b - a, by omega⟩
  exact fb_sm_mono f a d
/-- from a to b - 1 -/
def sm2 (f : Nat → Nat) (a b : Nat) : Nat := fb_sm f b - fb_sm f a
theorem sm2_s {f : Nat → Nat} {a b : Nat} (h : a ≤ b) : sm2 f a (b + 1) = sm2 f a b + f b := by
  unfold sm2
  have := sm_part (f := f) h
  rw [fb_sm_succ]; omega
theorem sm2_0 {f : Nat → Nat} {a : Nat} : sm2 f a a = 0 := Nat.sub_self _
/-! CHANCE and RIGHT -/
def fA (m : Mi) (l : Nat → Nat) (S : Nat) : Nat := if mH m = 1 then fd l S 12 (mN m) else sm2 (fd l S 12) (mN m / 2 + 1) (mN m + 1)
def fB (m : Mi) (l : Nat → Nat) (S : Nat) : Nat := if mH m = 1 then fd l S 12 0 else sm2 (fd l S 12) 0 (mN m / 2 + 1)
def CH (m : Mi) (S : Nat) : Nat := mT m * fA m (mF m) S + (100 - mT m) * fA m (mG m) S
def RI (m : Mi) (S : Nat) : Nat := mT m * fA m (mF m) S + (100 - mT m) * fB m (mG m) S
/-- a jury of what somebody holds -/
def jur (m : Mi) (S : Nat) : Prop := S < 2 ^ mP m ∧ cnt S 12 = mN m
theorem fd_one {f : Nat → Nat} {k : Nat} (h : k < 8) : f k ≤ fb_sm f 8 := by
  have h1 := sm_part (f := f) (show k + 1 ≤ 8 from h)
  rw [fb_sm_succ] at h1
  omega
theorem fA_le {m : Mi} {l : Nat → Nat} {S : Nat} (hm : okM m) (hl : ∀ i, i < mP m → l i ≤ 100) (hj : jur m S) : fA m l S ≤ 100 ^ mN m := by
  have hs : fb_sm (fd l S 12) 8 = 100 ^ mN m := by
    rw [← hj.2]
    refine fd_sum 12 (fun i _ hi => hl i ?_) (by rw [hj.2]; exact hm.2.1.2)
    rcases Nat.lt_or_ge i (mP m) with q | q
    · exact q
    · rw [Nat.testBit_lt_two_pow (Nat.lt_of_lt_of_le hj.1 (Nat.pow_le_pow_right (by decide) q))] at hi; cases hi
  unfold fA
  have h7 := hm.2.1.2
  split
  · rw [← hs]; exact fd_one (by omega)
  · unfold sm2
    have := sm_part (f := fd l S 12) (show mN m + 1 ≤ 8 by omega)
    omega
theorem CH_le {m : Mi} {S : Nat} (hm : okM m) (hj : jur m S) : CH m S ≤ 10000000000000000 := by
  have h1 := fA_le hm (fun i hi => (hm.2.2.2.2 i hi).1) hj
  have h2 := fA_le hm (fun i hi => (hm.2.2.2.2 i hi).2) hj
  have h3 : 100 ^ mN m ≤ 100 ^ 7 := Nat.pow_le_pow_right (by decide) hm.2.1.2
  have h4 : (100 : Nat) ^ 7 = 100000000000000 := by decide
  have ht := hm.2.2.2.1
  unfold CH
  have h5 : mT m * fA m (mF m) S ≤ mT m * 100000000000000 := Nat.mul_le_mul_left _ (by omega)
  have h6 : (100 - mT m) * fA m (mG m) S ≤ (100 - mT m) * 100000000000000 := Nat.mul_le_mul_left _ (by omega)
  have h7 : mT m * 100000000000000 + (100 - mT m) * 100000000000000 = 10000000000000000 := by rw [← Nat.add_mul, show mT m + (100 - mT m) = 100 by omega]
  omega
