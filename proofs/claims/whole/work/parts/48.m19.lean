/-! LOT: sums over all juries -/
theorem sm_half (h : Nat → Nat) (i : Nat) : fb_sm h (2 ^ (i + 1)) = fb_sm h (2 ^ i) + fb_sm (fun T => h (2 ^ i + T)) (2 ^ i) := by
  rw [Nat.pow_succ, Nat.mul_two, fb_sm_split]
theorem hi_bit {i T : Nat} (h : T < 2 ^ i) : (2 ^ i + T).testBit i = true := by
  rw [Nat.testBit_two_pow_add_eq, Nat.testBit_lt_two_pow h]; rfl
theorem lo_bit {i j T : Nat} (h : j < i) : (2 ^ i + T).testBit j = T.testBit j := Nat.testBit_two_pow_add_gt h T
theorem fd_ext2 {l : Nat → Nat} {S T : Nat} : ∀ n, (∀ i, i < n → S.testBit i = T.testBit i) → fd l S n = fd l T n := by
  intro n
  induction n with
  | zero => intro _; rfl
  | succ n ih =>
    intro h
    have e := ih (fun i hi => h i (by omega))
    cases hq : S.testBit n with
    | false => rw [fd_n hq, fd_n (by rw [← h n (by omega)]; exact hq), e]
    | true => rw [fd_y hq, fd_y (by rw [← h n (by omega)]; exact hq), e]
def sumS (P n : Nat) (g : Nat → Nat) : Nat := fb_sm (fun S => if cnt S P = n then g S else 0) (2 ^ P)
def dp (l : Nat → Nat) : Nat → Nat → Nat → Nat
  | 0 => fun n k => if n = 0 ∧ k = 0 then 1 else 0
  | i + 1 => fun n k => match n with
    | 0 => dp l i 0 k
    | n + 1 => dp l i (n + 1) k + nx (dp l i n) (l i) k
def nc : Nat → Nat → Nat
  | 0 => fun n => if n = 0 then 1 else 0
  | i + 1 => fun n => match n with
    | 0 => nc i 0
    | n + 1 => nc i (n + 1) + nc i n
theorem fb_lin (c d : Nat) (f g : Nat → Nat) : ∀ n, fb_sm (fun k => c * f k + d * g k) n = c * fb_sm f n + d * fb_sm g n := by
  intro n
  induction n with
  | zero => show 0 = c * 0 + d * 0; omega
  | succ n ih => rw [fb_sm_succ, fb_sm_succ, fb_sm_succ, ih, Nat.mul_add, Nat.mul_add]; omega
theorem nx_sum (f : Nat → Nat → Nat) (x k : Nat) : ∀ n, fb_sm (fun S => nx (f S) x k) n = nx (fun j => fb_sm (fun S => f S j) n) x k := by
  intro n
  cases k with
  | zero =>
    show fb_sm (fun S => f S 0 * (100 - x)) n = fb_sm (fun S => f S 0) n * (100 - x)
    have := fb_lin (100 - x) 0 (fun S => f S 0) (fun _ => 0) n
    have e : fb_sm (fun S => f S 0 * (100 - x)) n = fb_sm (fun k => (100 - x) * (fun S => f S 0) k + 0 * (fun _ => 0) k) n := fb_sm_cong (fun S _ => by
      show f S 0 * (100 - x) = (100 - x) * f S 0 + 0 * 0
      rw [Nat.mul_comm]; rfl)
    rw [e, this, Nat.zero_mul, Nat.add_zero, Nat.mul_comm]
  | succ k =>
    show fb_sm (fun S => f S (k + 1) * (100 - x) + f S k * x) n = fb_sm (fun S => f S (k + 1)) n * (100 - x) + fb_sm (fun S => f S k) n * x
    have := fb_lin (100 - x) x (fun S => f S (k + 1)) (fun S => f S k) n
    rw [Nat.mul_comm (fb_sm _ n), Nat.mul_comm (fb_sm (fun S => f S k) n), ← this]
    exact fb_sm_cong (fun S _ => by rw [Nat.mul_comm, Nat.mul_comm (f S k)])
theorem cnt_hi {i T : Nat} (h : T < 2 ^ i) : cnt (2 ^ i + T) (i + 1) = cnt T i + 1 := by
  rw [cnt_s, hi_bit h, cnt_ext (T := T) (fun j hj => lo_bit hj)]; rfl
theorem cnt_lo {i S : Nat} (h : S < 2 ^ i) : cnt S (i + 1) = cnt S i := by
  rw [cnt_s, Nat.testBit_lt_two_pow h]; rfl
theorem sum_dp (l : Nat → Nat) : ∀ i n k, sumS i n (fun S => fd l S i k) = dp l i n k := by
  intro i
  induction i with
  | zero =>
    intro n k
    show (0 + if cnt 0 0 = n then fd l 0 0 k else 0) = if n = 0 ∧ k = 0 then 1 else 0
    have h0 : cnt 0 0 = 0 := rfl
    have h1 : fd l 0 0 k = if k = 0 then 1 else 0 := rfl
    rw [h0, h1]
    by_cases hn : n = 0
    · subst hn
      by_cases hk : k = 0
      · subst hk; rfl
      · simp [hk]
    · have : ¬ 0 = n := fun q => hn q.symm
      simp [hn, this]
  | succ i ih =>
    intro n k
    unfold sumS
    rw [sm_half]
    have e1 : fb_sm (fun S => if cnt S (i + 1) = n then fd l S (i + 1) k else 0) (2 ^ i) = dp l i n k := by
      rw [← ih n k]
      refine fb_sm_cong (fun S hS => ?_)
      rw [cnt_lo hS, fd_n (Nat.testBit_lt_two_pow hS)]
    rw [e1]
    have hfd : ∀ T, T < 2 ^ i → fd l (2 ^ i + T) (i + 1) = nx (fd l T i) (l i) := fun T hT => by
      rw [fd_y (hi_bit hT), fd_ext2 (T := T) i (fun j hj => lo_bit hj)]
    cases n with
    | zero =>
      show dp l i 0 k + _ = dp l i 0 k
      have e2 : fb_sm (fun T => if cnt (2 ^ i + T) (i + 1) = 0 then fd l (2 ^ i + T) (i + 1) k else 0) (2 ^ i) = fb_sm (fun _ => 0) (2 ^ i) := fb_sm_cong (fun T hT => by rw [cnt_hi hT, if_neg (by omega)])
      rw [e2, fb_sm_const]; simp
    | succ n =>
      show dp l i (n + 1) k + _ = dp l i (n + 1) k + nx (dp l i n) (l i) k
      congr 1
      have e2 : nx (dp l i n) (l i) k = nx (fun j => fb_sm (fun T => if cnt T i = n then fd l T i j else 0) (2 ^ i)) (l i) k := by
        congr 1
        funext j
        exact (ih n j).symm
      rw [e2, ← nx_sum (fun T j => if cnt T i = n then fd l T i j else 0)]
      refine fb_sm_cong (fun T hT => ?_)
      dsimp only
      rw [cnt_hi hT, hfd T hT]
      by_cases hc : cnt T i = n
      · rw [if_pos (by omega)]
        congr 1
        funext j
        rw [if_pos hc]
      · rw [if_neg (by omega)]
        have : (fun j => if cnt T i = n then fd l T i j else 0) = fun _ => 0 := by funext j; rw [if_neg hc]
        rw [this]
        cases k with
        | zero => show 0 = 0 * _; simp
        | succ k => show 0 = 0 * _ + 0 * _; simp
theorem sum_nc : ∀ i n, sumS i n (fun _ => 1) = nc i n := by
  intro i
  induction i with
  | zero =>
    intro n
    show (0 + if cnt 0 0 = n then 1 else 0) = if n = 0 then 1 else 0
    have h0 : cnt 0 0 = 0 := rfl
    rw [h0]
    by_cases hn : n = 0
    · subst hn; rfl
    · have : ¬ 0 = n := fun q => hn q.symm
      simp [hn, this]
  | succ i ih =>
    intro n
    unfold sumS
    rw [sm_half]
    have e1 : fb_sm (fun S => if cnt S (i + 1) = n then 1 else 0) (2 ^ i) = nc i n := by
      rw [← ih n]
      exact fb_sm_cong (fun S hS => by rw [cnt_lo hS])
    rw [e1]
    cases n with
    | zero =>
      show nc i 0 + _ = nc i 0
      have e2 : fb_sm (fun T => if cnt (2 ^ i + T) (i + 1) = 0 then 1 else 0) (2 ^ i) = fb_sm (fun _ => 0) (2 ^ i) := fb_sm_cong (fun T hT => by rw [cnt_hi hT, if_neg (by omega)])
      rw [e2, fb_sm_const]; simp
    | succ n =>
      show nc i (n + 1) + _ = nc i (n + 1) + nc i n
      congr 1
      rw [← ih n]
      refine fb_sm_cong (fun T hT => ?_)
      rw [cnt_hi hT]
      by_cases hc : cnt T i = n
      · rw [if_pos (by omega), if_pos hc]
      · rw [if_neg (by omega), if_neg hc]
theorem wc_all : (List.range 13).all (fun n => (List.range 8).all (fun k => decide (f_X6_ways (nI n) (nI k) (fun _ _ => 0, fun _ _ => 0) = some (lN (nc n k))))) = true := by decide +kernel
theorem wc {n k : Nat} (hn : n ≤ 12) (hk : k ≤ 7) (σ : MM) : f_X6_ways (nI n) (nI k) σ = some (lN (nc n k)) := by
  rw [waS_eq]
  have := List.all_eq_true.mp (List.all_eq_true.mp wc_all n (List.mem_range.mpr (by omega))) k (List.mem_range.mpr (by omega))
  exact of_decide_eq_true this
theorem sumS_lin (P n c d : Nat) (f g : Nat → Nat) : sumS P n (fun S => c * f S + d * g S) = c * sumS P n f + d * sumS P n g := by
  unfold sumS
  rw [← fb_lin]
  refine fb_sm_cong (fun S _ => ?_)
  by_cases h : cnt S P = n
  · rw [if_pos h, if_pos h, if_pos h]
  · rw [if_neg h, if_neg h, if_neg h]; simp
theorem sumS_sm2 (P n : Nat) (f : Nat → Nat → Nat) (a : Nat) : ∀ j, sumS P n (fun S => sm2 (f S) a (a + j)) = sm2 (fun k => sumS P n (fun S => f S k)) a (a + j) := by
  intro j
  induction j with
  | zero =>
    rw [Nat.add_zero, sm2_0]
    have : (fun S => sm2 (f S) a a) = fun _ => 0 := by funext S; exact sm2_0
    rw [this]
    unfold sumS
    have e : fb_sm (fun S => if cnt S P = n then 0 else 0) (2 ^ P) = fb_sm (fun _ => 0) (2 ^ P) := fb_sm_cong (fun S _ => by split <;> rfl)
    rw [e, fb_sm_const]; simp
  | succ j ih =>
    rw [← Nat.add_assoc, sm2_s (by omega), ← ih]
    have e : (fun S => sm2 (f S) a (a + j + 1)) = fun S => 1 * sm2 (f S) a (a + j) + 1 * f S (a + j) := by
      funext S
      rw [sm2_s (by omega)]; omega
    rw [e, sumS_lin]; omega
/-- what the members find, of any spread -/
def agA (m : Mi) (F : Nat → Nat) : Nat := if mH m = 1 then F (mN m) else sm2 F (mN m / 2 + 1) (mN m + 1)
def agB (m : Mi) (F : Nat → Nat) : Nat := if mH m = 1 then F 0 else sm2 F 0 (mN m / 2 + 1)
theorem sumS_cong {P n : Nat} {f g : Nat → Nat} (h : ∀ S, S < 2 ^ P → cnt S P = n → f S = g S) : sumS P n f = sumS P n g := by
  unfold sumS
  refine fb_sm_cong (fun S hS => ?_)
  by_cases hc : cnt S P = n
  · rw [if_pos hc, if_pos hc, h S hS hc]
  · rw [if_neg hc, if_neg hc]
theorem sum_A {m : Mi} {l : Nat → Nat} (hm : okM m) : sumS (mP m) (mN m) (fun S => fA m l S) = agA m (dp l (mP m) (mN m)) := by
  have e : (fun k => sumS (mP m) (mN m) (fun S => fd l S 12 k)) = dp l (mP m) (mN m) := by
    funext k
    rw [← sum_dp]
    exact sumS_cong (fun S hS _ => by rw [fd_lt hS hm.1])
  unfold agA
  by_cases h : mH m = 1
  · rw [if_pos h, ← e]
    refine sumS_cong (fun S _ _ => ?_)
    unfold fA; rw [if_pos h]
  · rw [if_neg h, ← e]
    have h1 := sumS_sm2 (mP m) (mN m) (fun S => fd l S 12) (mN m / 2 + 1) (mN m - mN m / 2)
    rw [show mN m / 2 + 1 + (mN m - mN m / 2) = mN m + 1 by omega] at h1
    rw [← h1]
    refine sumS_cong (fun S _ _ => ?_)
    unfold fA; rw [if_neg h]
theorem sum_B {m : Mi} {l : Nat → Nat} (hm : okM m) : sumS (mP m) (mN m) (fun S => fB m l S) = agB m (dp l (mP m) (mN m)) := by
  have e : (fun k => sumS (mP m) (mN m) (fun S => fd l S 12 k)) = dp l (mP m) (mN m) := by
    funext k
    rw [← sum_dp]
    exact sumS_cong (fun S hS _ => by rw [fd_lt hS hm.1])
  unfold agB
  by_cases h : mH m = 1
  · rw [if_pos h, ← e]
    refine sumS_cong (fun S _ _ => ?_)
    unfold fB; rw [if_pos h]
  · rw [if_neg h, ← e]
    have h1 := sumS_sm2 (mP m) (mN m) (fun S => fd l S 12) 0 (mN m / 2 + 1)
    rw [Nat.zero_add] at h1
    rw [← h1]
    refine sumS_cong (fun S _ _ => ?_)
    unfold fB; rw [if_neg h]
theorem sum_RI {m : Mi} (hm : okM m) : sumS (mP m) (mN m) (fun S => RI m S) = mT m * agA m (dp (mF m) (mP m) (mN m)) + (100 - mT m) * agB m (dp (mG m) (mP m) (mN m)) := by
  rw [← sum_A hm, ← sum_B hm, ← sumS_lin]; rfl
/-! the program's table -/
theorem dp_big (l : Nat → Nat) : ∀ i n k, n < k → dp l i n k = 0 := by
  intro i
  induction i with
  | zero => intro n k h; exact if_neg (by omega)
  | succ i ih =>
    intro n k h
    cases n with
    | zero => exact ih 0 k h
    | succ n =>
      show dp l i (n + 1) k + nx (dp l i n) (l i) k = 0
      rw [ih (n + 1) k h]
      cases k with
      | zero => omega
      | succ k =>
        show 0 + (dp l i n (k + 1) * (100 - l i) + dp l i n k * l i) = 0
        rw [ih n (k + 1) (by omega), ih n k (by omega)]; simp
def sA (σ σ' : MM) : Prop := σ'.1 = σ.1 ∧ ∀ j, j ≠ 19 → (j < 21 ∨ 28 < j) → σ'.2 j = σ.2 j
theorem sA_rf {σ : MM} : sA σ σ := ⟨rfl, fun _ _ _ => rfl⟩
theorem sA_tr {σ σ' σ'' : MM} (h : sA σ σ') (h' : sA σ' σ'') : sA σ σ'' := ⟨h'.1.trans h.1, fun j h1 h2 => (h'.2 j h1 h2).trans (h.2 j h1 h2)⟩
theorem sA_st {σ : MM} {n i : Nat} {x : Int64} (hn : n < 8) : sA σ (stL σ (21 + n) i x) := ⟨rfl, fun j _ h2 => stL_k (by omega)⟩
theorem sA_19 {σ : MM} {i : Nat} {x : Int64} : sA σ (stL σ 19 i x) := ⟨rfl, fun j h1 _ => stL_k h1⟩
/-- rows of the table -/
def tab (σ : MM) (N : Nat) (D : Nat → Nat → Nat) : Prop := ∀ n k, n ≤ N → k ≤ n → σ.2 (21 + n) k = lN (D n k)
theorem so13 {q1 n : Nat} {v2 : Int32} {σ : MM} (hn : n ≤ 7) : ∃ σ', loopN (fun s => g_X2_spreadOutAll_13 q1 v2 (nI n) s.1 s.2) FU ((0 : Int32), σ) = some σ' ∧ sA σ σ' ∧ (∀ k, k ≤ n → σ'.2 (21 + n) k = lN 0) ∧ ∀ j, j ≠ 21 + n → σ'.2 j = σ.2 j := by
  refine lp_0 (fun i s => s.1 = nI i ∧ sA σ s.2 ∧ (∀ k, k < i → s.2.2 (21 + n) k = lN 0) ∧ ∀ j, j ≠ 21 + n → s.2.2 j = σ.2 j) _ (n + 1) _ (by omega) ⟨rfl, sA_rf, fun k hk => by omega, fun _ _ => rfl⟩ ?_ ?_
  · rintro i ⟨v, τ⟩ hi ⟨f1, f2, f3, f4⟩
    dsimp only at f1 f2 f3 f4
    subst f1
    show ∃ s', g_X2_spreadOutAll_13 q1 v2 (nI n) (nI i) τ = some (.inl s') ∧ _
    unfold g_X2_spreadOutAll_13
    rw [if_neg (nI_nlt (by omega) (by omega)), chk_t (inb_nI (by omega) (by omega)), chk_t (inb_nI (by omega) (by omega)), lm_eq, nI_c (by omega), nI_c (by omega)]
    refine ⟨_, rfl, nI_1 i, sA_tr f2 (sA_st (by omega)), fun k hk => ?_, fun j hj => ?_⟩
    · show (stL τ (21 + n) i 0).2 (21 + n) k = _
      rw [stL_s]
      by_cases e : k = i
      · rw [e, updL_s]; rfl
      · rw [updL_n e]; exact f3 k (by omega)
    · show (stL τ (21 + n) i 0).2 j = _
      rw [stL_k hj]; exact f4 j hj
  · rintro ⟨v, τ⟩ ⟨f1, f2, f3, f4⟩
    dsimp only at f1 f2 f3 f4
    subst f1
    refine ⟨τ, ?_, f2, fun k hk => f3 k (by omega), f4⟩
    show g_X2_spreadOutAll_13 q1 v2 (nI n) (nI (n + 1)) τ = _
    unfold g_X2_spreadOutAll_13
    rw [if_pos (nI_lt (by omega) (by omega))]
theorem so2 {q1 N : Nat} {v2 : Int32} {σ : MM} (hN : N ≤ 7) (h4 : σ.1 16 4 = nI N) : ∃ σ', loopN (fun s => g_X2_spreadOutAll_2 q1 v2 s.1 s.2) FU ((0 : Int32), σ) = some σ' ∧ sA σ σ' ∧ tab σ' N (fun _ _ => 0) := by
  refine lp_0 (fun i s => s.1 = nI i ∧ sA σ s.2 ∧ ∀ n k, n < i → k ≤ n → s.2.2 (21 + n) k = lN 0) _ (N + 1) _ (by omega) ⟨rfl, sA_rf, fun n k hn => by omega⟩ ?_ ?_
  · rintro i ⟨v, τ⟩ hi ⟨f1, f2, f3⟩
    dsimp only at f1 f2 f3
    subst f1
    show ∃ s', g_X2_spreadOutAll_2 q1 v2 (nI i) τ = some (.inl s') ∧ _
    unfold g_X2_spreadOutAll_2
    obtain ⟨τ', t1, t2, t3, t4⟩ := so13 (q1 := q1) (n := i) (v2 := v2) (σ := τ) (by omega)
    rw [f2.1, h4, if_neg (nI_nlt (by omega) (by omega)), t1, Option.bind_some]
    refine ⟨_, rfl, nI_1 i, sA_tr f2 t2, fun n k hn hk => ?_⟩
    show τ'.2 (21 + n) k = _
    by_cases e : n = i
    · subst e; exact t3 k hk
    · rw [t4 (21 + n) (by omega)]; exact f3 n k (by omega) hk
  · rintro ⟨v, τ⟩ ⟨f1, f2, f3⟩
    dsimp only at f1 f2 f3
    subst f1
    refine ⟨τ, ?_, f2, fun n k hn hk => f3 n k (by omega) hk⟩
    show g_X2_spreadOutAll_2 q1 v2 (nI (N + 1)) τ = _
    unfold g_X2_spreadOutAll_2
    rw [f2.1, h4, if_pos (nI_lt (by omega) (by omega))]
/-- one row from the row before: what k entries have been given -/
def par (F G : Nat → Nat) (x n i j : Nat) : Nat := if j < i then G j + nx F x j else if j = i then G j + (if i = 0 then 0 else F (i - 1) * x) else G j
theorem so79 {q1 n x : Nat} {v2 v3 : Int32} {F G : Nat → Nat} {σ : MM} (hn : n + 1 ≤ 7) (hx : x ≤ 100) (hF : ∀ k, k ≤ n → σ.2 (21 + n) k = lN (F k)) (hG : ∀ k, k ≤ n + 1 → σ.2 (21 + (n + 1)) k = lN (G k)) (hb : F (n + 1) = 0) :
    ∃ σ', loopN (fun s => g_X2_spreadOutAll_79 q1 v2 v3 (lN x) (nI n) s.1 s.2) FU ((0 : Int32), σ) = some σ' ∧ sA σ σ' ∧ (∀ k, k ≤ n + 1 → σ'.2 (21 + (n + 1)) k = lN (G k + nx F x k)) ∧ ∀ j, j ≠ 21 + (n + 1) → σ'.2 j = σ.2 j := by
  refine lp_0 (fun i s => s.1 = nI i ∧ sA σ s.2 ∧ (∀ k, k ≤ n + 1 → s.2.2 (21 + (n + 1)) k = lN (par F G x n i k)) ∧ ∀ j, j ≠ 21 + (n + 1) → s.2.2 j = σ.2 j) _ (n + 1) _ (by omega) ⟨rfl, sA_rf, fun k hk => ?_, fun _ _ => rfl⟩ ?_ ?_
  · show σ.2 (21 + (n + 1)) k = _
    rw [hG k hk]
    unfold par
    by_cases e : k = 0
    · rw [if_neg (by omega), if_pos e, if_pos rfl, Nat.add_zero]
    · rw [if_neg (by omega), if_neg e]
  · rintro i ⟨v, τ⟩ hi ⟨f1, f2, f3, f4⟩
    dsimp only at f1 f2 f3 f4
    subst f1
    have e100 : (100 : Int64) - lN x = lN (100 - x) := l100 hx
    have eF : τ.2 (21 + n) i = lN (F i) := by rw [f4 _ (by omega)]; exact hF i (by omega)
    have eG1 : τ.2 (21 + (n + 1)) (i + 1) = lN (G (i + 1)) := by
      rw [f3 (i + 1) (by omega)]; unfold par; rw [if_neg (by omega), if_neg (by omega)]
    have eG0 : τ.2 (21 + (n + 1)) i = lN (G i + (if i = 0 then 0 else F (i - 1) * x)) := by
      rw [f3 i (by omega)]; unfold par; rw [if_neg (by omega), if_pos rfl]
    show ∃ s', g_X2_spreadOutAll_79 q1 v2 v3 (lN x) (nI n) (nI i) τ = some (.inl s') ∧ _
    unfold g_X2_spreadOutAll_79
    rw [if_neg (nI_nlt (by omega) (by omega)), nI_1, nI_1, chk_t (inb_nI (by omega) (by omega)), chk_t (inb_nI (by omega) (by omega)), chk_t (inb_nI (by omega) (by omega)), chk_t (inb_nI (by omega) (by omega)), chk_t (inb_nI (by omega) (by omega)), lm_eq, nI_c (by omega), nI_c (by omega), nI_c (by omega), nI_c (by omega), eF, eG1, lN_mul, lN_add, chk_t (inb_nI (by omega) (by omega)), chk_t (inb_nI (by omega) (by omega)), chk_t (inb_nI (by omega) (by omega)), chk_t (inb_nI (by omega) (by omega)), chk_t (inb_nI (by omega) (by omega)), lm_eq, stL_s, updL_n (show i ≠ i + 1 by omega), eG0, stL_k (show 21 + n ≠ 21 + (n + 1) by omega), eF, e100, lN_mul, lN_add]
    refine ⟨_, rfl, rfl, sA_tr f2 (sA_tr (sA_st (by omega)) (sA_st (by omega))), fun k hk => ?_, fun j hj => ?_⟩
    · show (stL (stL τ (21 + (n + 1)) (i + 1) _) (21 + (n + 1)) i _).2 (21 + (n + 1)) k = _
      rw [stL_s, stL_s]
      unfold par
      by_cases e1 : k = i
      · subst e1
        rw [updL_s, if_pos (show k < k + 1 by omega)]
        congr 1
        cases k with
        | zero => show G 0 + (if 0 = 0 then 0 else _) + F 0 * (100 - x) = G 0 + F 0 * (100 - x); rw [if_pos rfl]; omega
        | succ k => show G (k + 1) + (if k + 1 = 0 then 0 else F k * x) + F (k + 1) * (100 - x) = G (k + 1) + (F (k + 1) * (100 - x) + F k * x); rw [if_neg (by omega)]; omega
      · rw [updL_n e1]
        by_cases e2 : k = i + 1
        · subst e2
          rw [updL_s, if_neg (by omega), if_pos rfl, if_neg (by omega)]; rfl
        · rw [updL_n e2, f3 k hk]
          unfold par
          by_cases e3 : k < i
          · rw [if_pos e3, if_pos (by omega)]
          · rw [if_neg e3, if_neg e1, if_neg (by omega), if_neg e2]
    · show (stL (stL τ (21 + (n + 1)) (i + 1) _) (21 + (n + 1)) i _).2 j = _
      rw [stL_k hj, stL_k hj]; exact f4 j hj
  · rintro ⟨v, τ⟩ ⟨f1, f2, f3, f4⟩
    dsimp only at f1 f2 f3 f4
    subst f1
    refine ⟨τ, ?_, f2, fun k hk => ?_, f4⟩
    · show g_X2_spreadOutAll_79 q1 v2 v3 (lN x) (nI n) (nI (n + 1)) τ = _
      unfold g_X2_spreadOutAll_79
      rw [if_pos (nI_lt (by omega) (by omega))]
    · rw [f3 k hk]
      unfold par
      by_cases e : k < n + 1
      · rw [if_pos e]
      · have : k = n + 1 := by omega
        subst this
        rw [if_neg e, if_pos rfl, if_neg (by omega)]
        show lN (G (n + 1) + F n * x) = lN (G (n + 1) + (F (n + 1) * (100 - x) + F n * x))
        rw [hb]; simp
theorem so71 {q1 N i x : Nat} {v2 v3 : Int32} {l : Nat → Nat} {σ : MM} (hN : 1 ≤ N ∧ N ≤ 7) (hx : x ≤ 100) (hl : l i = x) (ht : tab σ N (dp l i)) :
    ∃ σ', loopN (fun s => g_X2_spreadOutAll_71 q1 v2 v3 (lN x) s.1 s.2) FU (nI (N - 1), σ) = some σ' ∧ sA σ σ' ∧ tab σ' N (dp l (i + 1)) := by
  have hq := lp_0 (step := fun s => g_X2_spreadOutAll_71 q1 v2 v3 (lN x) s.1 s.2) (fun k s => s.1 = nI (N - k) + (-1) ∧ sA σ s.2 ∧ (∀ n j, N - k < n → n ≤ N → j ≤ n → s.2.2 (21 + n) j = lN (dp l (i + 1) n j)) ∧ ∀ n j, n ≤ N - k → j ≤ n → s.2.2 (21 + n) j = lN (dp l i n j))
    (fun r => sA σ r ∧ tab r N (dp l (i + 1))) N (nI (N - 1), σ) (by omega) ⟨?_, sA_rf, fun n j h1 h2 => by omega, fun n j h1 h2 => ht n j (by omega) h2⟩ ?_ ?_
  · obtain ⟨r, r1, r2, r3⟩ := hq
    exact ⟨r, r1, r2, r3⟩
  · show nI (N - 1) = nI (N - 0) + (-1)
    rw [Nat.sub_zero, sb_m1 (by omega)]
  · rintro k ⟨v, τ⟩ hk ⟨f1, f2, f3, f4⟩
    dsimp only at f1 f2 f3 f4
    obtain ⟨n, hn⟩ : ∃ n, N - k = n + 1 := ⟨N - k - 1, by omega⟩
    have hn2 : N - (k + 1) = n := by omega
    rw [hn] at f1 f3 f4
    rw [pk_m1] at f1
    rw [hn2]
    subst f1
    show ∃ s', g_X2_spreadOutAll_71 q1 v2 v3 (lN x) (nI n) τ = some (.inl s') ∧ _
    unfold g_X2_spreadOutAll_71
    obtain ⟨τ', t1, t2, t3, t4⟩ := so79 (q1 := q1) (n := n) (x := x) (v2 := v2) (v3 := v3) (F := dp l i n) (G := dp l i (n + 1)) (σ := τ) (by omega) hx (fun k hk => f4 n k (by omega) hk) (fun k hk => f4 (n + 1) k (Nat.le_refl _) hk) (dp_big l i n (n + 1) (by omega))
    rw [if_neg (nI_pos (by omega)), t1, Option.bind_some]
    refine ⟨_, rfl, rfl, sA_tr f2 t2, fun n' j h1 h2 h3 => ?_, fun n' j h1 h2 => ?_⟩
    · show τ'.2 (21 + n') j = _
      by_cases e : n' = n + 1
      · subst e
        rw [t3 j h3, ← hl]; rfl
      · rw [t4 _ (by omega)]; exact f3 n' j (by omega) h2 h3
    · show τ'.2 (21 + n') j = _
      rw [t4 _ (by omega)]; exact f4 n' j (by omega) h2
  · rintro ⟨v, τ⟩ ⟨f1, f2, f3, f4⟩
    dsimp only at f1 f2 f3 f4
    rw [Nat.sub_self] at f1 f3 f4
    have f1' : v = -1 := f1
    subst f1'
    refine ⟨τ, ?_, f2, fun n j h1 h2 => ?_⟩
    · show g_X2_spreadOutAll_71 q1 v2 v3 (lN x) (-1) τ = _
      unfold g_X2_spreadOutAll_71
      rw [if_pos (by decide)]
    · cases n with
      | zero => exact f4 0 j (Nat.le_refl _) h2
      | succ n => exact f3 (n + 1) j (by omega) h1 h2
theorem so52 {q1 N p : Nat} {l : Nat → Nat} {σ : MM} (hN : 1 ≤ N ∧ N ≤ 7) (hp : p ≤ 12) (h4 : σ.1 16 4 = nI N) (hl : ∀ i, i < p → σ.1 q1 i = nI (l i) ∧ l i ≤ 100) (ht : tab σ N (dp l 0)) :
    ∃ σ', loopN (fun s => g_X2_spreadOutAll_52 q1 (nI p) s.1 s.2) FU ((0 : Int32), σ) = some σ' ∧ sA σ σ' ∧ tab σ' N (dp l p) := by
  refine lp_0 (fun i s => s.1 = nI i ∧ sA σ s.2 ∧ tab s.2 N (dp l i)) _ p _ (by omega) ⟨rfl, sA_rf, ht⟩ ?_ ?_
  · rintro i ⟨v, τ⟩ hi ⟨f1, f2, f3⟩
    dsimp only at f1 f2 f3
    subst f1
    obtain ⟨x1, x2⟩ := hl i hi
    obtain ⟨τ', t1, t2, t3⟩ := so71 (q1 := q1) (N := N) (i := i) (x := l i) (v2 := nI p) (v3 := nI i) (l := l) (σ := τ) hN x2 rfl f3
    show ∃ s', g_X2_spreadOutAll_52 q1 (nI p) (nI i) τ = some (.inl s') ∧ _
    unfold g_X2_spreadOutAll_52
    rw [if_neg (nI_ge hi (by omega)), chk_t (inb_nI (by omega) (by omega)), nI_c (by omega), f2.1, x1, h4, nI_l (by omega), nI_sub1 (by omega), t1, Option.bind_some]
    exact ⟨_, rfl, nI_1 i, sA_tr f2 t2, t3⟩
  · rintro ⟨v, τ⟩ ⟨f1, f2, f3⟩
    dsimp only at f1 f2 f3
    subst f1
    refine ⟨τ, ?_, f2, f3⟩
    show g_X2_spreadOutAll_52 q1 (nI p) (nI p) τ = _
    unfold g_X2_spreadOutAll_52
    rw [if_pos (nI_le (Nat.le_refl _) (by omega))]
theorem so168 {q1 N : Nat} {D : Nat → Nat → Nat} {σ : MM} (hN : 1 ≤ N ∧ N ≤ 7) (h4 : σ.1 16 4 = nI N) (ht : tab σ N D) :
    ∃ σ', loopN (fun s => g_X2_spreadOutAll_168 q1 s.1 s.2) FU ((0 : Int32), σ) = some σ' ∧ sA σ σ' ∧ ∀ k, k ≤ N → σ'.2 19 k = lN (D N k) := by
  refine lp_0 (fun i s => s.1 = nI i ∧ sA σ s.2 ∧ (∀ j, j ≠ 19 → s.2.2 j = σ.2 j) ∧ ∀ k, k < i → s.2.2 19 k = lN (D N k)) _ (N + 1) _ (by omega) ⟨rfl, sA_rf, fun _ _ => rfl, fun k hk => by omega⟩ ?_ ?_
  · rintro i ⟨v, τ⟩ hi ⟨f1, f2, f3, f4⟩
    dsimp only at f1 f2 f3 f4
    subst f1
    have e : τ.2 (21 + N) i = lN (D N i) := by rw [f3 _ (by omega)]; exact ht N i (Nat.le_refl _) (by omega)
    show ∃ s', g_X2_spreadOutAll_168 q1 (nI i) τ = some (.inl s') ∧ _
    unfold g_X2_spreadOutAll_168
    rw [f2.1, h4, if_neg (nI_nlt (by omega) (by omega)), chk_t (inb_nI (by omega) (by omega)), chk_t (inb_nI (by omega) (by omega)), chk_t (inb_nI (by omega) (by omega)), lm_eq, nI_c (by omega), nI_c (by omega), e]
    refine ⟨_, rfl, nI_1 i, sA_tr f2 sA_19, fun j hj => ?_, fun k hk => ?_⟩
    · show (stL τ 19 i _).2 j = _
      rw [stL_k hj]; exact f3 j hj
    · show (stL τ 19 i _).2 19 k = _
      rw [stL_s]
      by_cases e2 : k = i
      · rw [e2, updL_s]
      · rw [updL_n e2]; exact f4 k (by omega)
  · rintro ⟨v, τ⟩ ⟨f1, f2, f3, f4⟩
    dsimp only at f1 f2 f3 f4
    subst f1
    refine ⟨τ, ?_, f2, fun k hk => f4 k (by omega)⟩
    show g_X2_spreadOutAll_168 q1 (nI (N + 1)) τ = _
    unfold g_X2_spreadOutAll_168
    rw [f2.1, h4, if_pos (nI_lt (by omega) (by omega))]
theorem soA {q1 p N : Nat} {l : Nat → Nat} {σ : MM} (hN : 1 ≤ N ∧ N ≤ 7) (hp : p ≤ 12) (h4 : σ.1 16 4 = nI N) (hl : ∀ i, i < p → σ.1 q1 i = nI (l i) ∧ l i ≤ 100) :
    ∃ σ', f_X2_spreadOutAll q1 (nI p) σ = some σ' ∧ sA σ σ' ∧ ∀ k, k ≤ N → σ'.2 19 k = lN (dp l p N k) := by
  unfold f_X2_spreadOutAll
  obtain ⟨σ1, a1, a2, a3⟩ := so2 (q1 := q1) (N := N) (v2 := nI p) (σ := σ) hN.2 h4
  have ht : tab (stL σ1 (21 + 0) 0 1) N (dp l 0) := by
    intro n k hn hk
    show (stL σ1 21 0 1).2 (21 + n) k = lN (if n = 0 ∧ k = 0 then 1 else 0)
    by_cases e : n = 0
    · subst e
      have : k = 0 := by omega
      subst this
      rw [Nat.add_zero, stL_s, updL_s]; rfl
    · rw [stL_k (by omega), a3 n k hn hk, if_neg (fun q => e q.1)]
  have x1 : sA σ (stL σ1 (21 + 0) 0 1) := sA_tr a2 (sA_st (by omega))
  obtain ⟨σ2, b1, b2, b3⟩ := so52 (q1 := q1) (N := N) (p := p) (l := l) (σ := stL σ1 (21 + 0) 0 1) hN hp (by rw [x1.1]; exact h4) (fun i hi => by rw [x1.1]; exact hl i hi) ht
  obtain ⟨σ3, c1, c2, c3⟩ := so168 (q1 := q1) (N := N) (D := dp l p) (σ := σ2) hN (by rw [b2.1, x1.1]; exact h4) b3
  refine ⟨σ3, ?_, sA_tr x1 (sA_tr b2 c2), c3⟩
  rw [a1, Option.bind_some, chk_t ib_0_8, chk_t ib_0_8, lm_eq, tn_0, b1, Option.bind_some, c1]; rfl
theorem gA_S {m : Mi} {F : Nat → Nat} {σ : MM} (hm : okM m) (h4 : σ.1 16 4 = nI (mN m)) (h5 : σ.1 16 5 = nI (mH m)) (hF : ∀ k, k ≤ mN m → σ.2 19 k = lN (F k)) : f_X2_findsForA 16 σ = some (lN (agA m F)) := by
  have hN := hm.2.1
  have hH := hm.2.2.1
  unfold f_X2_findsForA agA
  rw [h5]
  by_cases h : mH m = 1
  · rw [if_pos h, if_neg (by rw [h]; decide), h4, chk_t (inb_nI (by omega) (by omega)), nI_c (by omega)]
    exact congrArg some (hF _ (Nat.le_refl _))
  · have h0 : mH m = 0 := by omega
    rw [if_neg h, if_pos (by rw [h0]; rfl), chk_t ndz_2, h4, div2 (by omega), nI_1, sum_S (b := 16) (by omega) (by omega) hF]
    rfl
theorem gB_S {m : Mi} {F : Nat → Nat} {σ : MM} (hm : okM m) (h4 : σ.1 16 4 = nI (mN m)) (h5 : σ.1 16 5 = nI (mH m)) (hF : ∀ k, k ≤ mN m → σ.2 19 k = lN (F k)) : f_X2_findsForB σ = some (lN (agB m F)) := by
  have hN := hm.2.1
  have hH := hm.2.2.1
  unfold f_X2_findsForB agB
  rw [h5]
  by_cases h : mH m = 1
  · rw [if_pos h, if_neg (by rw [h]; decide), chk_t ib_0_8]
    exact congrArg some (hF 0 (Nat.zero_le _))
  · have h0 : mH m = 0 := by omega
    rw [if_neg h, if_pos (by rw [h0]; rfl), chk_t ndz_2, h4, div2 (by omega)]
    have := sum_S (b := 16) (f := 0) (t := mN m / 2) (F := F) (σ := σ) (by omega) (by omega) (fun k hk => hF k (by omega))
    rw [show (0 : Int32) = nI 0 from rfl, this]
    rfl
theorem rightAll_S {m : Mi} {σ : MM} (hm : okM m) (hd : mdAt σ 16 m) : ∃ σ', f_X2_rightOfAll (nI (mP m)) σ = some (lN (sumS (mP m) (mN m) (fun S => RI m S)), σ') ∧ sA σ σ' := by
  obtain ⟨h4, h5, h6, hL⟩ := hd
  have ht := hm.2.2.2.1
  obtain ⟨σ1, a1, a2, a3⟩ := soA (q1 := 17) (p := mP m) (N := mN m) (l := mF m) (σ := σ) hm.2.1 hm.1 h4 (fun i hi => ⟨(hL i hi).1, (hm.2.2.2.2 i hi).1⟩)
  obtain ⟨σ2, b1, b2, b3⟩ := soA (q1 := 18) (p := mP m) (N := mN m) (l := mG m) (σ := σ1) hm.2.1 hm.1 (by rw [a2.1]; exact h4) (fun i hi => ⟨by rw [a2.1]; exact (hL i hi).2, (hm.2.2.2.2 i hi).2⟩)
  have e0 : σ2.1 = σ.1 := by rw [b2.1, a2.1]
  refine ⟨σ2, ?_, sA_tr a2 b2⟩
  unfold f_X2_rightOfAll
  rw [a1, Option.bind_some, gA_S hm (by rw [a2.1]; exact h4) (by rw [a2.1]; exact h5) a3, Option.bind_some, b1, Option.bind_some, gB_S hm (by rw [e0]; exact h4) (by rw [e0]; exact h5) b3, Option.bind_some, e0, h6, i100 ht, nI_l (by omega), nI_l (by omega), lN_mul, lN_mul, lN_add, sum_RI hm]
theorem lot_M {s : St} {μ : MM} (v1 : Int32) (h' : RelM s μ) (hd : hdAt μ (mOf (sC s))) : ∃ μ', loopN (fun t => g_X7_lot_43 v1 t.1 t.2.1 t.2.2) FU ((0 : Int64), (0 : Int32), μ) = some (lN (sumS (cP (sC s)) (cK (sC s) 0) (fun S => if v1 = 0 then RI (mOf (sC s)) S else 1)), μ') ∧ RelM s μ' := by
  obtain ⟨⟨c0, b0⟩, -⟩ := id h'
  have hP := c0.1
  have hk := kb c0
  have hpow : 2 ^ cP (sC s) ≤ 4096 := Nat.pow_le_pow_right (n := 2) (j := 12) (by decide) hP
  have hq := lp_0 (step := fun t => g_X7_lot_43 v1 t.1 t.2.1 t.2.2) (fun i t => t.1 = lN (fb_sm (fun S => if cnt S (cP (sC s)) = cK (sC s) 0 then (if v1 = 0 then RI (mOf (sC s)) S else 1) else 0) i) ∧ t.2.1 = nI i ∧ t.2.2.1 = μ.1)
    (fun r => r.1 = lN (sumS (cP (sC s)) (cK (sC s) 0) (fun S => if v1 = 0 then RI (mOf (sC s)) S else 1)) ∧ r.2.1 = μ.1) (2 ^ cP (sC s)) ((0 : Int64), (0 : Int32), μ) (by omega) ⟨rfl, rfl, rfl⟩ ?_ ?_
  · obtain ⟨r, r1, r2, r3⟩ := hq
    exact ⟨r.2, by rw [r1, ← r2], RelM_keep h' (fun p _ => by rw [r3]) (fun k _ => by rw [r3])⟩
  · rintro i ⟨t, v, τ⟩ hi ⟨f1, f2, f3⟩
    dsimp only at f1 f2 f3
    subst f1; subst f2
    have b1 : atR τ (sC s) := by unfold atR at b0 ⊢; rw [f3]; exact b0
    have d1 : hdAt τ (mOf (sC s)) := by unfold hdAt at hd ⊢; rw [f3]; exact hd
    have hcl := cnt_le i 12
    have hc12 : cnt i 12 = cnt i (cP (sC s)) := cnt_lt hi hP
    show ∃ s', g_X7_lot_43 v1 _ (nI i) τ = some (.inl s') ∧ _
    unfold g_X7_lot_43
    rw [b1.1, sh1 _ (by omega), if_neg (nI_ge hi (by omega)), bits_M (by omega), Option.bind_some, need_M b1, Option.bind_some]
    by_cases hc : cnt i 12 = cK (sC s) 0
    · rw [if_pos (show nI (cnt i 12) = nI (cK (sC s) 0) by rw [hc])]
      by_cases h0 : v1 = 0
      · obtain ⟨τ', n1, n2⟩ := right_M (S := i) (okM_of c0) d1 ⟨hi, hc⟩
        rw [if_pos h0, n1, Option.bind_some, uc_eq, lN_add]
        refine ⟨_, rfl, ?_, nI_1 i, by show τ'.1 = _; rw [n2.1, f3]⟩
        show lN _ = _
        rw [fb_sm_succ, if_pos (by omega), if_pos h0]
      · rw [if_neg h0]
        refine ⟨_, rfl, ?_, nI_1 i, f3⟩
        show lN _ + lN 1 = _
        rw [lN_add, fb_sm_succ, if_pos (by omega), if_neg h0]
    · rw [if_neg (fun q => hc ((nI_eq_iff (by omega) (by omega)).mp q))]
      refine ⟨_, rfl, ?_, nI_1 i, f3⟩
      show lN _ = _
      rw [fb_sm_succ, if_neg (by omega)]; rfl
  · rintro ⟨t, v, τ⟩ ⟨f1, f2, f3⟩
    dsimp only at f1 f2 f3
    subst f1; subst f2
    have b1 : atR τ (sC s) := by unfold atR at b0 ⊢; rw [f3]; exact b0
    refine ⟨(_, τ), ?_, rfl, f3⟩
    show g_X7_lot_43 v1 _ (nI (2 ^ cP (sC s))) τ = _
    unfold g_X7_lot_43
    rw [b1.1, sh1 _ (by omega), if_pos (nI_le (Nat.le_refl _) (by omega))]
    rfl
theorem al_lot {s : St} {σ μ : MM} (h : RelS s σ) (h' : RelM s μ) (v1 : Int32) : Alike (f_X6_lot v1 σ) (f_X7_lot v1 μ) := by
  obtain ⟨⟨c0, a0, d0⟩, -⟩ := id h
  obtain ⟨⟨-, b0⟩, -⟩ := id h'
  have hP := c0.1
  have hk := kb c0
  unfold f_X6_lot f_X7_lot
  by_cases h1 : v1 < 0
  · refine alike_no 2 (by decide) h h' (r := rfL (-2)) ?_ ?_
    · rw [if_pos h1, rl2]; rfl
    · rw [isIn_n (Or.inl h1), Option.bind_some, if_pos z00, ml2]; rfl
  rw [if_neg h1]
  by_cases h2 : v1 ≤ 1
  · rw [if_pos h2, isIn_y h1 (nle.mp h2), Option.bind_some, if_neg n10, need_S a0, Option.bind_some, need_M b0, Option.bind_some, a0.1, b0.1]
    by_cases h3 : cK (sC s) 0 ≤ cP (sC s)
    · rw [if_pos (nI_le h3 (by omega)), if_pos (nI_le h3 (by omega))]
      obtain ⟨μ1, m1, m2, m3⟩ := RelM_hold h'
      obtain ⟨μ', n1, n2⟩ := lot_M v1 m2 m3
      by_cases h4 : v1 = 1
      · have h0 : ¬ v1 = 0 := by rw [h4]; exact n10
        refine ⟨lN (nc (cP (sC s)) (cK (sC s) 0)), s, σ, μ', ?_, ?_, h, n2⟩
        · rw [if_pos h4, wc hP hk.1.2]; rfl
        · have e : (fun S => if v1 = 0 then RI (mOf (sC s)) S else 1) = fun _ => 1 := by funext S; rw [if_neg h0]
          rw [e, sum_nc] at n1
          rw [m1, Option.bind_some, n1]; rfl
      · have h0 : v1 = 0 := by
          obtain ⟨i, hi, rfl⟩ := ix2 (x := v1) 1 (by omega) h1 (nle.mp h2)
          rcases (show i = 0 ∨ i = 1 by omega) with rfl | rfl
          · rfl
          · exact absurd rfl h4
        obtain ⟨σ', s1, s2⟩ := rightAll_S (okM_of c0) d0
        refine ⟨lN (sumS (mP (mOf (sC s))) (mN (mOf (sC s))) (fun S => RI (mOf (sC s)) S)), s, σ', μ', ?_, ?_, RelS_keep h (by rw [s2.1]) (fun k _ => by rw [s2.1]) (s2.2 45 (by decide) (by omega)), n2⟩
        · rw [if_neg h4]
          have s1' : f_X2_rightOfAll (nI (cP (sC s))) σ = _ := s1
          rw [s1']; rfl
        · have e : (fun S => if v1 = 0 then RI (mOf (sC s)) S else 1) = fun S => RI (mOf (sC s)) S := by funext S; rw [if_pos h0]
          rw [e] at n1
          rw [m1, Option.bind_some, n1]; rfl
    · refine alike_no 3 (by decide) h h' (r := rfL (-3)) ?_ ?_
      · rw [if_neg (nI_ge (Nat.not_le.mp h3) (by omega)), rl3]; rfl
      · rw [if_neg (nI_ge (Nat.not_le.mp h3) (by omega)), ml3]; rfl
  · refine alike_no 2 (by decide) h h' (r := rfL (-2)) ?_ ?_
    · rw [if_neg h2, rl2]; rfl
    · rw [isIn_n (Or.inr (fa_of_nle h2)), Option.bind_some, if_pos z00, ml2]; rfl
