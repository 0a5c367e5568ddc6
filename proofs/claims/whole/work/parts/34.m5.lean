/-! sets: without one, subsets -/
theorem flip (S p i : Nat) : (S ^^^ 2 ^ p).testBit i = (S.testBit i ^^ decide (i = p)) := fb_bit_flip S p i
theorem del_b {S p i : Nat} (h : i ≠ p) : (S ^^^ 2 ^ p).testBit i = S.testBit i := by rw [flip]; simp [h]
theorem del_s {S p : Nat} : (S ^^^ 2 ^ p).testBit p = !S.testBit p := by rw [flip]; simp
def sub (S T : Nat) : Prop := ∀ i, S.testBit i = true → T.testBit i = true
theorem sub_rf {S : Nat} : sub S S := fun _ h => h
theorem sub_tr {S T U : Nat} (h : sub S T) (h' : sub T U) : sub S U := fun i hi => h' i (h i hi)
theorem sub_le {S T : Nat} (h : sub S T) : S ≤ T := Nat.le_of_testBit h
theorem sub_del {S p : Nat} (h : S.testBit p = true) : sub (S ^^^ 2 ^ p) S := fun i hi => by
  by_cases e : i = p
  · rw [e]; exact h
  · rw [del_b e] at hi; exact hi
theorem del_lt {S p : Nat} (h : S.testBit p = true) : S ^^^ 2 ^ p < S := by
  have h1 := sub_le (sub_del h)
  have h2 : S ^^^ 2 ^ p ≠ S := fun e => by
    have := del_s (S := S) (p := p)
    rw [e, h] at this; cases this
  omega
theorem cnt_del {S p : Nat} (h : S.testBit p = true) : ∀ n, cnt (S ^^^ 2 ^ p) n + (if p < n then 1 else 0) = cnt S n := by
  intro n
  induction n with
  | zero => rfl
  | succ n ih =>
    rw [cnt_s, cnt_s]
    by_cases e : n = p
    · subst e
      rw [del_s, h, if_pos (Nat.lt_succ_self n)]
      rw [if_neg (Nat.lt_irrefl n)] at ih
      simp; omega
    · rw [del_b e]
      by_cases hp : p < n
      · rw [if_pos hp] at ih; rw [if_pos (show p < n + 1 by omega)]; omega
      · rw [if_neg hp] at ih; rw [if_neg (show ¬ p < n + 1 by omega)]; omega
theorem cnt_del12 {S p : Nat} (h : S.testBit p = true) (hp : p < 12) : cnt (S ^^^ 2 ^ p) 12 + 1 = cnt S 12 := by
  have := cnt_del h 12
  rwa [if_pos hp] at this
theorem cnt_pos {S n : Nat} (h : 0 < cnt S n) : ∃ p, p < n ∧ S.testBit p = true := by
  induction n with
  | zero => exact absurd h (Nat.lt_irrefl 0)
  | succ n ih =>
    cases hq : S.testBit n with
    | true => exact ⟨n, by omega, hq⟩
    | false =>
      rw [cnt_s, hq] at h
      obtain ⟨p, h1, h2⟩ := ih (by simpa using h)
      exact ⟨p, by omega, h2⟩
theorem sub_lt {S T p : Nat} (h : sub S T) (hT : T < 2 ^ p) : S < 2 ^ p := Nat.lt_of_le_of_lt (sub_le h) hT
theorem cnt_sub {S T : Nat} (h : sub S T) : ∀ n, cnt S n ≤ cnt T n := by
  intro n
  induction n with
  | zero => exact Nat.le_refl 0
  | succ n ih =>
    rw [cnt_s, cnt_s]
    cases hq : S.testBit n with
    | false => simp; omega
    | true => rw [h n hq]; simp; omega
/-! whose turn, and what is best -/
def who (a b sd : Nat) : Nat := if (if sd = 0 then a else b) = 0 then 1 - sd else sd
def nA (w a : Nat) : Nat := if w = 0 then a - 1 else a
def nB (w b : Nat) : Nat := if w = 0 then b else b - 1
def bst (w : Nat) (f : Nat → Nat) (S : Nat) : Nat → Option Nat
  | 0 => none
  | p + 1 => if S.testBit p = true then some (match bst w f S p with | none => f p | some v => if w = 0 then max v (f p) else min v (f p)) else bst w f S p
def VV (m : Mi) : Nat → Nat → Nat → Nat → Nat → Nat
  | 0, _, _, _, S => CH m S
  | k + 1, a, b, sd, S => (bst (who a b sd) (fun p => VV m k (nA (who a b sd) a) (nB (who a b sd) b) (1 - who a b sd) (S ^^^ 2 ^ p)) S 12).getD 0
theorem VV_s (m : Mi) (k a b sd S : Nat) : VV m (k + 1) a b sd S = (bst (who a b sd) (fun p => VV m k (nA (who a b sd) a) (nB (who a b sd) b) (1 - who a b sd) (S ^^^ 2 ^ p)) S 12).getD 0 := rfl
def isO (w : Nat) (f : Nat → Nat) (S n v : Nat) : Prop := (∃ p, p < n ∧ S.testBit p = true ∧ f p = v) ∧ ∀ p, p < n → S.testBit p = true → if w = 0 then f p ≤ v else v ≤ f p
theorem isO_one {w : Nat} {f : Nat → Nat} {S n v v' : Nat} (h : isO w f S n v) (h' : isO w f S n v') : v = v' := by
  obtain ⟨⟨p, p1, p2, p3⟩, q⟩ := h
  obtain ⟨⟨p', p1', p2', p3'⟩, q'⟩ := h'
  have x1 := q p' p1' p2'
  have x2 := q' p p1 p2
  rw [p3'] at x1
  rw [p3] at x2
  by_cases hw : w = 0
  · rw [if_pos hw] at x1 x2; omega
  · rw [if_neg hw] at x1 x2; omega
theorem bst_none {w : Nat} {f : Nat → Nat} {S : Nat} : ∀ n, bst w f S n = none → ∀ p, p < n → S.testBit p = false := by
  intro n
  induction n with
  | zero => intro _ p hp; omega
  | succ n ih =>
    intro h p hp
    cases hq : S.testBit n with
    | true => unfold bst at h; rw [if_pos hq] at h; cases h
    | false =>
      unfold bst at h
      rw [if_neg (by rw [hq]; exact Bool.false_ne_true)] at h
      by_cases e : p = n
      · rw [e]; exact hq
      · exact ih h p (by omega)
theorem bst_O {w : Nat} {f : Nat → Nat} {S : Nat} : ∀ n v, bst w f S n = some v → isO w f S n v := by
  intro n
  induction n with
  | zero => intro v h; cases h
  | succ n ih =>
    intro v h
    unfold bst at h
    cases hq : S.testBit n with
    | false =>
      rw [if_neg (by rw [hq]; exact Bool.false_ne_true)] at h
      obtain ⟨⟨p, p1, p2, p3⟩, q⟩ := ih v h
      refine ⟨⟨p, by omega, p2, p3⟩, fun j hj hb => ?_⟩
      by_cases e : j = n
      · rw [e, hq] at hb; cases hb
      · exact q j (by omega) hb
    | true =>
      rw [if_pos hq] at h
      cases hb : bst w f S n with
      | none =>
        rw [hb] at h
        have hv : f n = v := Option.some.inj h
        refine ⟨⟨n, by omega, hq, hv⟩, fun j hj hbj => ?_⟩
        by_cases e : j = n
        · rw [e, hv]; split <;> exact Nat.le_refl _
        · rw [bst_none n hb j (by omega)] at hbj; cases hbj
      | some u =>
        rw [hb] at h
        have hv : (if w = 0 then max u (f n) else min u (f n)) = v := Option.some.inj h
        obtain ⟨⟨p, p1, p2, p3⟩, q⟩ := ih u hb
        by_cases hw : w = 0
        · rw [if_pos hw] at hv
          refine ⟨?_, fun j hj hbj => ?_⟩
          · by_cases hc : u ≤ f n
            · exact ⟨n, by omega, hq, by omega⟩
            · exact ⟨p, by omega, p2, by omega⟩
          · rw [if_pos hw]
            by_cases e : j = n
            · rw [e]; omega
            · have := q j (by omega) hbj; rw [if_pos hw] at this; omega
        · rw [if_neg hw] at hv
          refine ⟨?_, fun j hj hbj => ?_⟩
          · by_cases hc : f n ≤ u
            · exact ⟨n, by omega, hq, by omega⟩
            · exact ⟨p, by omega, p2, by omega⟩
          · rw [if_neg hw]
            by_cases e : j = n
            · rw [e]; omega
            · have := q j (by omega) hbj; rw [if_neg hw] at this; omega
theorem VV_O {m : Mi} {k a b sd S : Nat} (h : 0 < cnt S 12) : isO (who a b sd) (fun p => VV m k (nA (who a b sd) a) (nB (who a b sd) b) (1 - who a b sd) (S ^^^ 2 ^ p)) S 12 (VV m (k + 1) a b sd S) := by
  rw [VV_s]
  cases hb : bst (who a b sd) (fun p => VV m k (nA (who a b sd) a) (nB (who a b sd) b) (1 - who a b sd) (S ^^^ 2 ^ p)) S 12 with
  | none =>
    obtain ⟨p, p1, p2⟩ := cnt_pos h
    rw [bst_none 12 hb p p1] at p2; cases p2
  | some v => exact bst_O 12 v hb
theorem VV_le {m : Mi} (hm : okM m) : ∀ (k a b sd S : Nat), S < 2 ^ mP m → cnt S 12 = mN m + k → VV m k a b sd S ≤ 10000000000000000 := by
  intro k
  induction k with
  | zero => intro a b sd S h1 h2; exact CH_le hm ⟨h1, h2⟩
  | succ k ih =>
    intro a b sd S h1 h2
    obtain ⟨⟨p, p1, p2, p3⟩, -⟩ := VV_O (m := m) (k := k) (a := a) (b := b) (sd := sd) (S := S) (by omega)
    rw [← p3]
    have := cnt_del12 p2 p1
    exact ih _ _ _ _ (sub_lt (sub_del p2) h1) (by omega)
/-! people who lean alike may be changed for one another -/
theorem nx_comm (F : Nat → Nat) (x y : Nat) : nx (nx F x) y = nx (nx F y) x := by
  funext k
  match k with
  | 0 =>
    show F 0 * (100 - x) * (100 - y) = F 0 * (100 - y) * (100 - x)
    rw [Nat.mul_assoc, Nat.mul_comm (100 - x), ← Nat.mul_assoc]
  | 1 =>
    show (F 1 * (100 - x) + F 0 * x) * (100 - y) + F 0 * (100 - x) * y = (F 1 * (100 - y) + F 0 * y) * (100 - x) + F 0 * (100 - y) * x
    rw [Nat.add_mul, Nat.add_mul, Nat.mul_assoc (F 1), Nat.mul_comm (100 - x) (100 - y), ← Nat.mul_assoc (F 1), Nat.mul_assoc (F 0) x, Nat.mul_comm x, ← Nat.mul_assoc (F 0), Nat.mul_assoc (F 0) y, Nat.mul_comm y (100 - x), ← Nat.mul_assoc (F 0)]
    omega
  | k + 2 =>
    show (F (k + 2) * (100 - x) + F (k + 1) * x) * (100 - y) + (F (k + 1) * (100 - x) + F k * x) * y = (F (k + 2) * (100 - y) + F (k + 1) * y) * (100 - x) + (F (k + 1) * (100 - y) + F k * y) * x
    rw [Nat.add_mul, Nat.add_mul, Nat.add_mul, Nat.add_mul]
    have e1 : F (k + 2) * (100 - x) * (100 - y) = F (k + 2) * (100 - y) * (100 - x) := Nat.mul_right_comm _ _ _
    have e2 : F (k + 1) * x * (100 - y) = F (k + 1) * (100 - y) * x := Nat.mul_right_comm _ _ _
    have e3 : F (k + 1) * (100 - x) * y = F (k + 1) * y * (100 - x) := Nat.mul_right_comm _ _ _
    have e4 : F k * x * y = F k * y * x := Nat.mul_right_comm _ _ _
    rw [e1, e2, e3, e4]
    omega
theorem fd_del {l : Nat → Nat} {S p : Nat} (h : S.testBit p = true) : ∀ n, p < n → fd l S n = nx (fd l (S ^^^ 2 ^ p) n) (l p) := by
  intro n
  induction n with
  | zero => intro hp; omega
  | succ n ih =>
    intro hp
    by_cases e : n = p
    · subst e
      rw [fd_y h, fd_n (i := n) (S := S ^^^ 2 ^ n) (by rw [del_s, h]; rfl)]
      congr 1
      have : ∀ q, q ≤ n → fd l S q = fd l (S ^^^ 2 ^ n) q := by
        intro q
        induction q with
        | zero => intro _; rfl
        | succ q ihq =>
          intro hq
          have hb : (S ^^^ 2 ^ n).testBit q = S.testBit q := del_b (by omega)
          cases hc : S.testBit q with
          | true => rw [fd_y hc, fd_y (by rw [hb]; exact hc), ihq (by omega)]
          | false => rw [fd_n hc, fd_n (by rw [hb]; exact hc), ihq (by omega)]
      exact this n (Nat.le_refl n)
    · have ih := ih (by omega)
      have hb : (S ^^^ 2 ^ p).testBit n = S.testBit n := del_b e
      cases hc : S.testBit n with
      | true => rw [fd_y hc, fd_y (by rw [hb]; exact hc), ih, nx_comm]
      | false => rw [fd_n hc, fd_n (by rw [hb]; exact hc), ih]
theorem swp {S p q : Nat} (hp : S.testBit p = true) (hq : S.testBit q = false) : (S ^^^ 2 ^ p ^^^ 2 ^ q).testBit q = true ∧ S ^^^ 2 ^ p ^^^ 2 ^ q ^^^ 2 ^ q = S ^^^ 2 ^ p := by
  have hne : q ≠ p := fun e => by rw [e, hp] at hq; cases hq
  constructor
  · rw [del_s, del_b hne, hq]; rfl
  · rw [Nat.xor_assoc (S ^^^ 2 ^ p), Nat.xor_self, Nat.xor_zero]
theorem fd_swp {l : Nat → Nat} {S p q : Nat} (hp : S.testBit p = true) (hq : S.testBit q = false) (hl : l p = l q) (h1 : p < 12) (h2 : q < 12) : fd l (S ^^^ 2 ^ p ^^^ 2 ^ q) 12 = fd l S 12 := by
  rw [fd_del (swp hp hq).1 12 h2, (swp hp hq).2, fd_del hp 12 h1, hl]
theorem CH_swp {m : Mi} {S p q : Nat} (hp : S.testBit p = true) (hq : S.testBit q = false) (hl : mF m p = mF m q) (hg : mG m p = mG m q) (h1 : p < 12) (h2 : q < 12) : CH m (S ^^^ 2 ^ p ^^^ 2 ^ q) = CH m S := by
  unfold CH fA
  rw [fd_swp hp hq hl h1 h2, fd_swp hp hq hg h1 h2]
theorem xor3 (S x y z : Nat) : S ^^^ x ^^^ y ^^^ z = S ^^^ z ^^^ x ^^^ y := by
  rw [Nat.xor_assoc (S ^^^ x), Nat.xor_comm y z, ← Nat.xor_assoc (S ^^^ x), Nat.xor_assoc S x z, Nat.xor_comm x z, ← Nat.xor_assoc S]
theorem VV_swp {m : Mi} {p q : Nat} (hl : mF m p = mF m q) (hg : mG m p = mG m q) (h1 : p < 12) (h2 : q < 12) : ∀ (k a b sd S : Nat), S.testBit p = true → S.testBit q = false → VV m k a b sd (S ^^^ 2 ^ p ^^^ 2 ^ q) = VV m k a b sd S := by
  intro k
  induction k with
  | zero => intro a b sd S hp hq; exact CH_swp hp hq hl hg h1 h2
  | succ k ih =>
    intro a b sd S hp hq
    have hne : q ≠ p := fun e => by rw [e, hp] at hq; cases hq
    obtain ⟨s1, s2⟩ := swp hp hq
    have c1 : 0 < cnt S 12 := by have := cnt_del12 hp h1; omega
    have c2 : 0 < cnt (S ^^^ 2 ^ p ^^^ 2 ^ q) 12 := by have := cnt_del12 s1 h2; omega
    have o1 := VV_O (m := m) (k := k) (a := a) (b := b) (sd := sd) c1
    have o2 := VV_O (m := m) (k := k) (a := a) (b := b) (sd := sd) c2
    refine (isO_one (n := 12) (S := S) (f := fun j => VV m k (nA (who a b sd) a) (nB (who a b sd) b) (1 - who a b sd) (S ^^^ 2 ^ j)) o1 ?_).symm
    -- what the other set's members bring, the members of S bring
    have bridge : ∀ j, j ≠ p → j ≠ q → S.testBit j = true → VV m k (nA (who a b sd) a) (nB (who a b sd) b) (1 - who a b sd) (S ^^^ 2 ^ p ^^^ 2 ^ q ^^^ 2 ^ j) = VV m k (nA (who a b sd) a) (nB (who a b sd) b) (1 - who a b sd) (S ^^^ 2 ^ j) := by
      intro j j1 j2 hj
      rw [xor3]
      exact ih _ _ _ _ (by rw [del_b (Ne.symm j1)]; exact hp) (by rw [del_b (Ne.symm j2)]; exact hq)
    have bit2 : ∀ j, j ≠ p → j ≠ q → (S ^^^ 2 ^ p ^^^ 2 ^ q).testBit j = S.testBit j := fun j j1 j2 => by rw [del_b j2, del_b j1]
    obtain ⟨⟨j, e1, e2, e3⟩, ball⟩ := o2
    refine ⟨?_, fun j hj hb => ?_⟩
    · by_cases ej : j = q
      · refine ⟨p, h1, hp, ?_⟩
        rw [← e3, ej]
        dsimp only
        rw [s2]
      · by_cases ep : j = p
        · exfalso
          rw [ep, del_b (Ne.symm hne), del_s, hp] at e2; cases e2
        · refine ⟨j, e1, by rw [← bit2 j ep ej]; exact e2, ?_⟩
          rw [← e3]
          exact (bridge j ep ej (by rw [← bit2 j ep ej]; exact e2)).symm
    · by_cases ep : j = p
      · have := ball q h2 s1
        dsimp only at this ⊢
        rw [s2] at this
        rw [ep]; exact this
      · have ej : j ≠ q := fun e => by rw [e, hq] at hb; cases hb
        have := ball j hj (by rw [bit2 j ep ej]; exact hb)
        dsimp only at this ⊢
        rw [bridge j ep ej hb] at this
        exact this
/-! the row of turns -/
def stp (s : Nat × Nat × Nat) : Nat × Nat × Nat := (nA (who s.1 s.2.1 s.2.2) s.1, nB (who s.1 s.2.1 s.2.2) s.2.1, 1 - who s.1 s.2.1 s.2.2)
def stq (a b sd : Nat) : Nat → Nat × Nat × Nat
  | 0 => (a, b, sd)
  | i + 1 => stp (stq a b sd i)
def VQ (m : Mi) (k : Nat) (s : Nat × Nat × Nat) (S : Nat) : Nat := VV m k s.1 s.2.1 s.2.2 S
def whoS (s : Nat × Nat × Nat) : Nat := who s.1 s.2.1 s.2.2
theorem who_lt {a b sd : Nat} (h : sd < 2) : who a b sd < 2 := by unfold who; (repeat' split) <;> omega
theorem VQ_O {m : Mi} {k S : Nat} {s : Nat × Nat × Nat} (h : 0 < cnt S 12) : isO (whoS s) (fun p => VQ m k (stp s) (S ^^^ 2 ^ p)) S 12 (VQ m (k + 1) s S) := VV_O h
theorem who_has {a b sd : Nat} (hs : sd < 2) (h : 0 < a + b) : (who a b sd = 0 ∧ 0 < a) ∨ (who a b sd = 1 ∧ 0 < b) := by
  unfold who
  rcases (show sd = 0 ∨ sd = 1 by omega) with e | e
  · subst e
    by_cases ha : a = 0
    · right; simp [ha]; omega
    · left; simp [ha]; omega
  · subst e
    by_cases hb : b = 0
    · left; simp [hb]; omega
    · right; simp [hb]; omega
theorem stp_sum {s : Nat × Nat × Nat} (hs : s.2.2 < 2) (h : 0 < s.1 + s.2.1) : (stp s).1 + (stp s).2.1 + 1 = s.1 + s.2.1 ∧ (stp s).2.2 < 2 ∧ (stp s).1 ≤ s.1 ∧ (stp s).2.1 ≤ s.2.1 := by
  unfold stp nA nB
  rcases who_has hs h with ⟨e, h1⟩ | ⟨e, h1⟩
  · rw [e]; simp; omega
  · rw [e]; simp; omega
theorem stq_sum {a b sd : Nat} (hs : sd < 2) : ∀ i, i ≤ a + b → (stq a b sd i).1 + (stq a b sd i).2.1 + i = a + b ∧ (stq a b sd i).2.2 < 2 ∧ (stq a b sd i).1 ≤ a ∧ (stq a b sd i).2.1 ≤ b := by
  intro i
  induction i with
  | zero => intro _; exact ⟨rfl, hs, Nat.le_refl _, Nat.le_refl _⟩
  | succ i ih =>
    intro hi
    obtain ⟨h1, h2, h3, h4⟩ := ih (by omega)
    obtain ⟨g1, g2, g3, g4⟩ := stp_sum (s := stq a b sd i) h2 (by omega)
    show (stp _).1 + (stp _).2.1 + (i + 1) = a + b ∧ (stp _).2.2 < 2 ∧ (stp _).1 ≤ a ∧ (stp _).2.1 ≤ b
    exact ⟨by omega, g2, by omega, by omega⟩
