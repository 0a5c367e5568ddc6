/-! BEST by TURNS in the program: Turns.lookBack -/
theorem lt_bit {n m i : Nat} (h1 : n.testBit i = false) (h2 : m.testBit i = true) (h3 : ∀ j, i < j → n.testBit j = m.testBit j) : n < m := by
  have e : n / 2 ^ (i + 1) = m / 2 ^ (i + 1) := by
    apply Nat.eq_of_testBit_eq
    intro j
    rw [Nat.testBit_div_two_pow, Nat.testBit_div_two_pow]
    exact h3 _ (by omega)
  rw [Nat.testBit_eq_decide_div_mod_eq] at h1 h2
  have h1' : ¬ n / 2 ^ i % 2 = 1 := of_decide_eq_false h1
  have h2' : m / 2 ^ i % 2 = 1 := of_decide_eq_true h2
  rw [Nat.pow_succ, ← Nat.div_div_eq_div_mul, ← Nat.div_div_eq_div_mul] at e
  rcases Nat.lt_or_ge n m with q | q
  · exact q
  · have := Nat.div_le_div_right (c := 2 ^ i) q
    omega
theorem swp_lt {S p q : Nat} (hqp : q < p) (hp : S.testBit p = true) : S ^^^ 2 ^ p ^^^ 2 ^ q < S := by
  refine lt_bit (i := p) ?_ hp (fun j hj => ?_)
  · rw [del_b (by omega), del_s, hp]; rfl
  · rw [del_b (by omega), del_b (by omega)]
theorem swp_cnt {S p q : Nat} (hp : S.testBit p = true) (hq : S.testBit q = false) (h1 : p < 12) (h2 : q < 12) : cnt (S ^^^ 2 ^ p ^^^ 2 ^ q) 12 = cnt S 12 := by
  obtain ⟨s1, s2⟩ := swp hp hq
  have x := cnt_del12 s1 h2
  rw [s2] at x
  have y := cnt_del12 hp h1
  omega
/-- what a set that is left is worth, so many strikes being done as its size tells -/
def vq (m : Mi) (a b sd S : Nat) : Nat := VQ m (cnt S 12 - mN m) (stq a b sd (a + b + mN m - cnt S 12)) S
def tnOK (σ : MM) (t : Nat) (m : Mi) (all a b sd : Nat) : Prop := σ.1 t 3 = nI all ∧ σ.1 t 4 = nI (a + b) ∧ σ.1 t 5 = nI (mN m) ∧ ∀ S, sub S all → mN m ≤ cnt S 12 → σ.2 (t + 3) S = lN (vq m a b sd S)
theorem swp_sub {S p q all : Nat} (h : sub S all) (hp : S.testBit p = true) (hq : all.testBit q = true) : sub (S ^^^ 2 ^ p ^^^ 2 ^ q) all := by
  intro i hi
  by_cases e : i = q
  · rw [e]; exact hq
  · rw [del_b e] at hi
    exact h i (sub_del hp i hi)
theorem vq_s {m : Mi} {a b sd S k : Nat} (hc : cnt S 12 = mN m + (k + 1)) (hk : k + 1 ≤ a + b) : isO (whoS (stq a b sd (a + b - (k + 1)))) (fun p => vq m a b sd (S ^^^ 2 ^ p)) S 12 (vq m a b sd S) ∧ ∃ v, bst (whoS (stq a b sd (a + b - (k + 1)))) (fun p => vq m a b sd (S ^^^ 2 ^ p)) S 12 = some v ∧ v = vq m a b sd S := by
  have e1 : vq m a b sd S = VQ m (k + 1) (stq a b sd (a + b - (k + 1))) S := by
    unfold vq
    rw [show cnt S 12 - mN m = k + 1 by omega, show a + b + mN m - cnt S 12 = a + b - (k + 1) by omega]
  have e2 : ∀ p, p < 12 → S.testBit p = true → vq m a b sd (S ^^^ 2 ^ p) = VQ m k (stp (stq a b sd (a + b - (k + 1)))) (S ^^^ 2 ^ p) := by
    intro p hp hb
    have hc2 := cnt_del12 hb hp
    unfold vq
    rw [show cnt (S ^^^ 2 ^ p) 12 - mN m = k by omega, show a + b + mN m - cnt (S ^^^ 2 ^ p) 12 = a + b - (k + 1) + 1 by omega]
    rfl
  have hO := VQ_O (m := m) (k := k) (S := S) (s := stq a b sd (a + b - (k + 1))) (by omega)
  rw [← e1] at hO
  have hO2 : isO (whoS (stq a b sd (a + b - (k + 1)))) (fun p => vq m a b sd (S ^^^ 2 ^ p)) S 12 (vq m a b sd S) := by
    obtain ⟨⟨p, p1, p2, p3⟩, q⟩ := hO
    refine ⟨⟨p, p1, p2, ?_⟩, fun j hj hb => ?_⟩
    · dsimp only
      rw [e2 p p1 p2]; exact p3
    · have := q j hj hb
      dsimp only at this ⊢
      rw [e2 j hj hb]; exact this
  refine ⟨hO2, ?_⟩
  cases hb : bst (whoS (stq a b sd (a + b - (k + 1)))) (fun p => vq m a b sd (S ^^^ 2 ^ p)) S 12 with
  | none =>
    obtain ⟨p, p1, p2⟩ := cnt_pos (S := S) (n := 12) (by omega)
    rw [bst_none 12 hb p p1] at p2; cases p2
  | some v => exact ⟨v, rfl, isO_one (bst_O 12 v hb) hO2⟩
theorem vq_le {m : Mi} (hm : okM m) {a b sd S : Nat} (hS : S < 2 ^ mP m) (hc : mN m ≤ cnt S 12) : vq m a b sd S ≤ 10000000000000000 := VV_le hm _ _ _ _ _ hS (by omega)
theorem worth_S {t q1 T all a b sd : Nat} {m : Mi} {σ : MM} (hm : okM m) (hd : mdAt σ q1 m) (hall : all < 2 ^ mP m) (ha : a ≤ 3) (hb : b ≤ 3) (hs : sd < 2) (hT : sub T all) (hc : mN m ≤ cnt T 12) (hc2 : cnt T 12 ≤ mN m + a + b)
    (h4 : σ.1 t 4 = nI (a + b)) (h5 : σ.1 t 5 = nI (mN m)) (hsd : ∀ i, i < a + b → σ.1 (t + 1) i = nI (whoS (stq a b sd i))) (htw : ∀ p, p < 12 → tw σ t m all p)
    (hv : ∀ S, S < T → sub S all → mN m ≤ cnt S 12 → σ.2 (t + 3) S = lN (vq m a b sd S)) :
    ∃ σ', f_X5_worthOf t q1 (nI T) σ = some (lN (vq m a b sd T), σ') ∧ sL (q1 + 3) σ σ' := by
  have hall2 := pow12 hm.1 hall
  have hT2 : T < 4096 := Nat.lt_of_le_of_lt (sub_le hT) hall2
  have hTp : T < 2 ^ mP m := sub_lt hT hall
  have hN := hm.2.1
  unfold f_X5_worthOf
  obtain ⟨S', l1, l2⟩ := like_S (t := t) (S := T) (all := all) (m := m) (σ := σ) hall2 hT htw
  rw [l1, Option.bind_some]
  by_cases he : S' = T
  · subst he
    rw [if_pos rfl, bc_S hT2, Option.bind_some, h5]
    by_cases hk : cnt S' 12 = mN m
    · rw [if_pos (by rw [hk])]
      obtain ⟨σ', c1, c2⟩ := chance_S (b := q1) (S := S') hm hd ⟨hTp, hk⟩
      rw [c1, Option.bind_some, uc_eq]
      refine ⟨σ', ?_, c2⟩
      congr 2
      unfold vq
      rw [hk, Nat.sub_self]; rfl
    · have hcl := cnt_le S' 12
      obtain ⟨k, hk2⟩ : ∃ k, cnt S' 12 = mN m + (k + 1) := ⟨cnt S' 12 - mN m - 1, by omega⟩
      obtain ⟨-, v, v1, v2⟩ := vq_s (m := m) (a := a) (b := b) (sd := sd) hk2 (by omega)
      have hi : mN m + (a + b) - cnt S' 12 = a + b - (k + 1) := by omega
      have hwl : whoS (stq a b sd (a + b - (k + 1))) < 2 := who_lt (stq_sum (a := a) (b := b) hs _ (by omega)).2.1
      rw [if_neg (fun q => hk ((nI_eq_iff (by omega) (by omega)).mp q)), h4, nI_add, pk_sub (by omega), hi, chk_t (inb_nI (by omega) (by omega)), nI_c (by omega), hsd _ (by omega),
        after_S (t := t) (S := S') (w := whoS (stq a b sd (a + b - (k + 1)))) (f := fun p => vq m a b sd (S' ^^^ 2 ^ p)) hT2 hwl (fun p hp hbit => ?_), v1, Option.bind_some, v2]
      · exact ⟨σ, rfl, sL_rf⟩
      · have hx := cnt_del12 hbit hp
        have hsb := sub_tr (sub_del hbit) hT
        exact ⟨hv _ (del_lt hbit) hsb (by omega), vq_le hm (sub_lt hsb hall) (by omega)⟩
  · rcases l2 with l2 | ⟨p, q, g1, g2, g3, g4, g5, g6, g7, g8⟩
    · exact absurd l2 he
    · have hlt : S' < T := by rw [g8]; exact swp_lt g1 g3
      have hcn : cnt S' 12 = cnt T 12 := by rw [g8]; exact swp_cnt g3 g4 g2 (by omega)
      have hsb : sub S' all := by rw [g8]; exact swp_sub hT g3 g5
      rw [if_neg (fun z => he ((nI_eq_iff (by omega) (by omega)).mp z)), chk_t (inb_nI (by omega) (by omega)), nI_c (by omega), hv S' hlt hsb (by omega)]
      refine ⟨σ, ?_, sL_rf⟩
      congr 3
      unfold vq
      rw [hcn, g8]
      exact VV_swp g6 g7 g2 (by omega) _ _ _ _ _ g3 g4
theorem sides_S {t q1 a b sd : Nat} {σ : MM} (ha : a ≤ 3) (hb : b ≤ 3) (hs : sd < 2) (h4 : σ.1 t 4 = nI (a + b)) :
    ∃ σ', loopN (fun s => g_X5_lookBack_24 t q1 (nI a) (nI b) (nI sd) s.1 s.2) FU ((0 : Int32), σ) = some σ' ∧ sx [t + 1] σ σ' ∧ ∀ i, i < a + b → σ'.1 (t + 1) i = nI (whoS (stq a b sd i)) := by
  refine lp_0 (fun i s => s.1 = nI i ∧ sx [t + 1] σ s.2 ∧ ∀ j, j < i → s.2.1 (t + 1) j = nI (whoS (stq a b sd j))) _ (a + b) _ (by omega) ⟨rfl, sx_rf, fun j hj => by omega⟩ ?_ ?_
  · rintro i ⟨v, τ⟩ hi ⟨e1, e2, e3⟩
    dsimp only at e1 e2 e3
    subst e1
    show ∃ s', g_X5_lookBack_24 t q1 (nI a) (nI b) (nI sd) (nI i) τ = some (.inl s') ∧ _
    unfold g_X5_lookBack_24
    rw [show τ.1 t 4 = nI (a + b) by rw [(e2 t (by simp)).1]; exact h4, if_neg (nI_ge hi (by omega)), sideAt_S hs ha hb hi, Option.bind_some, chk_t (inb_nI (by omega) (by omega)), lm_eq, nI_c (by omega)]
    refine ⟨_, rfl, nI_1 i, sx_tr e2 (sx_I (by simp)), fun j hj => ?_⟩
    show (stI τ (t + 1) i (nI (whoS (stq a b sd i)))).1 (t + 1) j = _
    rw [stI_s]
    by_cases e : j = i
    · rw [e, upd_s]
    · rw [upd_n e]; exact e3 j (by omega)
  · rintro ⟨v, τ⟩ ⟨e1, e2, e3⟩
    dsimp only at e1 e2 e3
    subst e1
    refine ⟨τ, ?_, e2, e3⟩
    show g_X5_lookBack_24 t q1 (nI a) (nI b) (nI sd) (nI (a + b)) τ = _
    unfold g_X5_lookBack_24
    rw [show τ.1 t 4 = nI (a + b) by rw [(e2 t (by simp)).1]; exact h4, if_pos (nI_le (Nat.le_refl _) (by omega))]
theorem look_S {t q1 all a b sd : Nat} {m : Mi} {σ : MM} (ht : isTn t) (hq : isMd q1) (hm : okM m) (hd : mdAt σ q1 m) (hall : all < 2 ^ mP m) (ha : a ≤ 3) (hb : b ≤ 3) (hs : sd < 2) (hca : cnt all 12 = mN m + a + b) :
    ∃ σ', f_X5_lookBack t q1 (nI all) (nI a) (nI b) (nI sd) σ = some σ' ∧ sx [t, t + 1, t + 2, t + 3, q1 + 3] σ σ' ∧ (σ'.1 (q1 + 3) = σ.1 (q1 + 3)) ∧ tnOK σ' t m all a b sd := by
  have hall2 := pow12 hm.1 hall
  have hN := hm.2.1
  have hreg : q1 + 40 ≥ 56 ∧ q1 + 4 < t ∧ t < 56 := by unfold isTn at ht; unfold isMd at hq; omega
  obtain ⟨d4, d5, d6, dL⟩ := id hd
  unfold f_X5_lookBack
  rw [lm_eq, lm_eq, lm_eq]
  generalize hσ1 : stI σ t 3 (nI all) = σ1
  generalize hσ2 : stI σ1 t 4 (nI a + nI b) = σ2
  generalize hσ3 : stI σ2 t 5 (σ2.1 q1 4) = σ3
  have x3 : sx [t] σ σ3 := by
    rw [← hσ3, ← hσ2, ← hσ1]
    exact sx_tr (sx_I (by simp)) (sx_tr (sx_I (by simp)) (sx_I (by simp)))
  have f3 : σ3.1 t 3 = nI all := by
    rw [← hσ3, stI_s, upd_n (by decide), ← hσ2, stI_s, upd_n (by decide), ← hσ1, stI_s, upd_s]
  have f4 : σ3.1 t 4 = nI (a + b) := by
    rw [← hσ3, stI_s, upd_n (by decide), ← hσ2, stI_s, upd_s, nI_add]
  have f5 : σ3.1 t 5 = nI (mN m) := by
    rw [← hσ3, stI_s, upd_s, ← hσ2, stI_k (by omega), ← hσ1, stI_k (by omega)]; exact d4
  have hd3 : mdAt σ3 q1 m := mdAt_sx hd x3 (by simp; omega) (by simp; omega) (by simp; omega)
  obtain ⟨σ4, s1, s2, s3⟩ := sides_S (t := t) (q1 := q1) (a := a) (b := b) (sd := sd) (σ := σ3) ha hb hs f4
  rw [s1, Option.bind_some]
  have hd4 : mdAt σ4 q1 m := mdAt_sx hd3 s2 (by simp; omega) (by simp; omega) (by simp; omega)
  obtain ⟨σ5, w1, w2, w3⟩ := twins_S (t := t) (q1 := q1) (all := all) (m := m) (σ := σ4) hm hd4 (by rw [(s2 t (by simp)).1]; exact f3) hall (by omega)
  rw [w1, Option.bind_some]
  have hd5 : mdAt σ5 q1 m := mdAt_sx hd4 w2 (by simp; omega) (by simp; omega) (by simp; omega)
  have g3 : σ5.1 t 3 = nI all := by rw [(w2 t (by simp)).1, (s2 t (by simp)).1]; exact f3
  have g4 : σ5.1 t 4 = nI (a + b) := by rw [(w2 t (by simp)).1, (s2 t (by simp)).1]; exact f4
  have g5 : σ5.1 t 5 = nI (mN m) := by rw [(w2 t (by simp)).1, (s2 t (by simp)).1]; exact f5
  have gs : ∀ i, i < a + b → σ5.1 (t + 1) i = nI (whoS (stq a b sd i)) := fun i hi => by rw [(w2 (t + 1) (by simp)).1]; exact s3 i hi
  have x5 : sx [t, t + 1, t + 2, t + 3, q1 + 3] σ σ5 := sx_tr (sx_mono x3 (by simp)) (sx_tr (sx_mono s2 (by simp)) (sx_mono w2 (by simp)))
  have h := lp_inv (step := fun s => g_X5_lookBack_64 t q1 s.1 s.2) (fun i s => s.1 = nI (i + 1) ∧ s.2.1 = σ5.1 ∧ (∀ k, k ≠ t + 3 → k ≠ q1 + 3 → s.2.2 k = σ5.2 k) ∧ ∀ S, S < i + 1 → sub S all → mN m ≤ cnt S 12 → s.2.2 (t + 3) S = lN (vq m a b sd S))
    (fun r => r.1 = σ5.1 ∧ (∀ k, k ≠ t + 3 → k ≠ q1 + 3 → r.2 k = σ5.2 k) ∧ ∀ S, S < all + 1 → sub S all → mN m ≤ cnt S 12 → r.2 (t + 3) S = lN (vq m a b sd S)) all ?_ ?_ FU 0 ((1 : Int32), σ5) (Nat.zero_le _) (by unfold FU; omega) ⟨rfl, rfl, fun _ _ _ => rfl, fun S hS _ hc => by
      have : S = 0 := by omega
      subst this
      have : cnt 0 12 = 0 := by decide
      omega⟩
  · obtain ⟨r, h1, h2, h3, h4⟩ := h
    refine ⟨r, by rw [h1]; rfl, ?_, ?_, ?_, ?_, ?_, fun S hS hc => h4 S (by have := sub_le hS; omega) hS hc⟩
    · intro k hk
      simp only [List.mem_cons, List.not_mem_nil, or_false, not_or] at hk
      have := x5 k (by simp only [List.mem_cons, List.not_mem_nil, or_false, not_or]; exact hk)
      exact ⟨by rw [h2]; exact this.1, by rw [h3 k hk.2.2.2.1 hk.2.2.2.2]; exact this.2⟩
    · rw [h2, (w2 _ (by simp; omega)).1, (s2 _ (by simp; omega)).1, (x3 _ (by simp; omega)).1]
    · rw [h2]; exact g3
    · rw [h2]; exact g4
    · rw [h2]; exact g5
  · rintro i ⟨v, τ⟩ hi ⟨e1, e2, e3, e4⟩
    dsimp only at e1 e2 e3 e4
    subst e1
    show ∃ s', g_X5_lookBack_64 t q1 (nI (i + 1)) τ = some (.inl s') ∧ _
    unfold g_X5_lookBack_64
    have keep : ∀ S, S < i + 1 + 1 → sub S all → mN m ≤ cnt S 12 → S ≠ i + 1 → τ.2 (t + 3) S = lN (vq m a b sd S) := fun S h1 h2 h3 h4 => e4 S (by omega) h2 h3
    rw [e2, g3, if_neg (nI_nlt (by omega) (by omega))]
    by_cases hsub : sub (i + 1) all
    · rw [if_pos ((andn_0 (by omega)).mpr hsub), bc_S (by omega), Option.bind_some, g5]
      by_cases hcn : cnt (i + 1) 12 < mN m
      · have hcl := cnt_le (i + 1) 12
        rw [if_pos (nI_lt hcn (by omega))]
        refine ⟨_, rfl, nI_1 _, e2, e3, fun S a1 a2 a3 => keep S a1 a2 a3 (fun e => ?_)⟩
        rw [e] at a3; omega
      · have hcl := cnt_sub hsub 12
        obtain ⟨τ', u1, u2⟩ := worth_S (t := t) (q1 := q1) (T := i + 1) (all := all) (a := a) (b := b) (sd := sd) (m := m) (σ := τ) hm (by unfold mdAt; rw [e2]; exact hd5) hall ha hb hs hsub (by omega) (by omega) (by rw [e2]; exact g4) (by rw [e2]; exact g5) (by rw [e2]; exact gs) (fun p hp => by unfold tw; rw [e2]; exact w3 p hp) e4
        rw [if_neg (nI_nlt (by omega) (by omega)), u1, Option.bind_some, uc_eq, chk_t (inb_nI (by omega) (by omega)), lm_eq, nI_c (by omega)]
        refine ⟨_, rfl, nI_1 _, by show τ'.1 = _; rw [u2.1, e2], fun k h1 h2 => ?_, fun S a1 a2 a3 => ?_⟩
        · show (stL τ' (t + 3) (i + 1) _).2 k = _
          rw [stL_k h1, u2.2 k h2]; exact e3 k h1 h2
        · show (stL τ' (t + 3) (i + 1) _).2 (t + 3) S = _
          rw [stL_s]
          by_cases e : S = i + 1
          · rw [e, updL_s]
          · rw [updL_n e, u2.2 (t + 3) (by omega)]; exact keep S a1 a2 a3 e
    · rw [if_neg (fun q => hsub ((andn_0 (by omega)).mp q))]
      refine ⟨_, rfl, nI_1 _, e2, e3, fun S a1 a2 a3 => keep S a1 a2 a3 (fun e => hsub (e ▸ a2))⟩
  · rintro ⟨v, τ⟩ ⟨e1, e2, e3, e4⟩
    dsimp only at e1 e2 e3 e4
    subst e1
    refine ⟨τ, ?_, e2, e3, e4⟩
    show g_X5_lookBack_64 t q1 (nI (all + 1)) τ = _
    unfold g_X5_lookBack_64
    rw [e2, g3, if_pos (nI_lt (by omega) (by omega))]
/-- the least strike by which the value of the set stays -/
def stk (f : Nat → Nat) (v S : Nat) : Nat → Option Nat
  | 0 => none
  | n + 1 => match stk f v S n with
    | some p => some p
    | none => if S.testBit n = true ∧ f n = v then some n else none
theorem stk_none {f : Nat → Nat} {v S : Nat} : ∀ n, stk f v S n = none → ∀ p, p < n → ¬ (S.testBit p = true ∧ f p = v) := by
  intro n
  induction n with
  | zero => intro _ p hp; omega
  | succ n ih =>
    intro h p hp
    unfold stk at h
    cases hs : stk f v S n with
    | some q => rw [hs] at h; cases h
    | none =>
      rw [hs] at h
      by_cases hc : S.testBit n = true ∧ f n = v
      · rw [if_pos hc] at h; cases h
      · by_cases e : p = n
        · rw [e]; exact hc
        · exact ih hs p (by omega)
theorem stk_some {f : Nat → Nat} {v S : Nat} : ∀ n p, stk f v S n = some p → p < n ∧ S.testBit p = true ∧ f p = v ∧ ∀ j, j < p → ¬ (S.testBit j = true ∧ f j = v) := by
  intro n
  induction n with
  | zero => intro p h; cases h
  | succ n ih =>
    intro p h
    unfold stk at h
    cases hs : stk f v S n with
    | some q =>
      rw [hs] at h
      cases h
      obtain ⟨h1, h2⟩ := ih p hs
      exact ⟨by omega, h2⟩
    | none =>
      rw [hs] at h
      by_cases hc : S.testBit n = true ∧ f n = v
      · rw [if_pos hc] at h
        cases h
        exact ⟨by omega, hc.1, hc.2, stk_none n hs⟩
      · rw [if_neg hc] at h; cases h
/-- the strike that is best -/
def bs (m : Mi) (a b sd S : Nat) : Nat := (stk (fun p => vq m a b sd (S ^^^ 2 ^ p)) (vq m a b sd S) S 12).getD 0
theorem bs_ok {m : Mi} {a b sd S k : Nat} (hc : cnt S 12 = mN m + (k + 1)) (hk : k + 1 ≤ a + b) : bs m a b sd S < 12 ∧ S.testBit (bs m a b sd S) = true ∧ vq m a b sd (S ^^^ 2 ^ bs m a b sd S) = vq m a b sd S ∧ ∀ j, j < bs m a b sd S → S.testBit j = true → vq m a b sd (S ^^^ 2 ^ j) ≠ vq m a b sd S := by
  obtain ⟨⟨⟨p, p1, p2, p3⟩, -⟩, -⟩ := vq_s (m := m) (a := a) (b := b) (sd := sd) hc hk
  unfold bs
  cases hs : stk (fun p => vq m a b sd (S ^^^ 2 ^ p)) (vq m a b sd S) S 12 with
  | none => exact absurd ⟨p2, p3⟩ (stk_none 12 hs p p1)
  | some q =>
    obtain ⟨h1, h2, h3, h4⟩ := stk_some 12 q hs
    exact ⟨h1, h2, h3, fun j hj hb e => h4 j hj ⟨hb, e⟩⟩
theorem from_S {t S all a b sd : Nat} {m : Mi} {σ : MM} (hm : okM m) (htn : tnOK σ t m all a b sd) (hall : all < 2 ^ mP m) (hS : sub S all) (hc : mN m < cnt S 12) (hc2 : cnt S 12 ≤ mN m + a + b) : f_X5_strikeFrom t (nI S) σ = some (nI (bs m a b sd S)) := by
  have hall2 := pow12 hm.1 hall
  have hS2 : S < 4096 := Nat.lt_of_le_of_lt (sub_le hS) hall2
  obtain ⟨-, -, h5, hv⟩ := htn
  have hN := hm.2.1
  have hcl := cnt_le S 12
  obtain ⟨k, hk⟩ : ∃ k, cnt S 12 = mN m + (k + 1) := ⟨cnt S 12 - mN m - 1, by omega⟩
  obtain ⟨b1, b2, b3, b4⟩ := bs_ok (m := m) (a := a) (b := b) (sd := sd) hk (by omega)
  have hval : ∀ j, j < 12 → S.testBit j = true → (σ.2 (t + 3) (S ^^^ 2 ^ j) = σ.2 (t + 3) S ↔ vq m a b sd (S ^^^ 2 ^ j) = vq m a b sd S) := by
    intro j hj hb
    have hx := cnt_del12 hb hj
    have hsb := sub_tr (sub_del hb) hS
    have q1 := vq_le hm (a := a) (b := b) (sd := sd) (sub_lt hsb hall) (by omega)
    have q2 := vq_le hm (a := a) (b := b) (sd := sd) (sub_lt hS hall) (by omega)
    rw [hv _ hsb (by omega), hv _ hS (by omega), pk_lEQ (by omega) (by omega)]
  unfold f_X5_strikeFrom
  rw [bc_S hS2, Option.bind_some, h5, if_pos (nI_lt hc (by omega))]
  have h := lp_m (step := fun s => g_X5_strikeFrom_16 t (nI S) s σ) (fun s => ∃ i, i ≤ bs m a b sd S ∧ s = nI i) (fun r => r = nI (bs m a b sd S)) (fun s => 12 - s.toNatClampNeg) (0 : Int32) (by show 12 - _ < 5000; omega) ⟨0, Nat.zero_le _, rfl⟩ ?_
  · obtain ⟨r, h1, h2⟩ := h
    rw [h1, h2]
  · rintro s ⟨i, hi, rfl⟩
    show (∃ r, g_X5_strikeFrom_16 t (nI S) (nI i) σ = some (.inr r) ∧ _) ∨ ∃ s', g_X5_strikeFrom_16 t (nI S) (nI i) σ = some (.inl s') ∧ _
    unfold g_X5_strikeFrom_16
    have c1 : ¬ (12 : Int32) ≤ nI i := nI_ge (b := 12) (by omega) (by omega)
    have next : i ≠ bs m a b sd S → (∃ i_1, i_1 ≤ bs m a b sd S ∧ nI i + 1 = nI i_1) ∧ 12 - (nI i + 1).toNatClampNeg < 12 - (nI i).toNatClampNeg := by
      intro hne
      refine ⟨⟨i + 1, by omega, nI_1 i⟩, ?_⟩
      rw [nI_1, nI_c (by omega), nI_c (by omega)]; omega
    rw [if_neg c1]
    cases hq : S.testBit i with
    | false =>
      right
      rw [if_pos ((bitS (by omega)).mpr hq)]
      exact ⟨_, rfl, next (fun e => by rw [e, b2] at hq; cases hq)⟩
    | true =>
      have hlt := del_lt hq
      rw [if_neg (fun q => by have := (bitS (by omega)).mp q; rw [hq] at this; cases this), sh1 i (by omega), xorI, chk_t (inb_nI (by omega) (by omega)), chk_t (inb_nI (by omega) (by omega)), nI_c (show S ^^^ 2 ^ i < 2147483648 by omega), nI_c (show S < 2147483648 by omega)]
      by_cases he : i = bs m a b sd S
      · left
        rw [if_pos ((hval i (by omega) hq).mpr (by rw [he]; exact b3))]
        exact ⟨_, rfl, by rw [he]⟩
      · right
        rw [if_neg (fun z => b4 i (by omega) hq ((hval i (by omega) hq).mp z))]
        exact ⟨_, rfl, next he⟩
