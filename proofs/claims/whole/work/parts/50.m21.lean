/-! COURT: the two readers in step -/
theorem lp_two {S S' T T' : Type} {step : S → Option (S ⊕ T)} {step' : S' → Option (S' ⊕ T')} (I : Nat → S → S' → Prop) (Q : T → T' → Prop) (e : Nat)
    (h : ∀ i s s', i ≤ e → I i s s' → (∃ r r', step s = some (.inr r) ∧ step' s' = some (.inr r') ∧ Q r r') ∨ (i < e ∧ ∃ t t', step s = some (.inl t) ∧ step' s' = some (.inl t') ∧ I (i + 1) t t')) :
    ∀ n i s s', e - i < n → i ≤ e → I i s s' → ∃ r r', loopN step n s = some r ∧ loopN step' n s' = some r' ∧ Q r r' := by
  intro n
  induction n with
  | zero => intro i s s' h; omega
  | succ n ih =>
    intro i s s' hn hi hI
    rcases h i s s' hi hI with ⟨r, r', h1, h2, h3⟩ | ⟨hlt, t, t', h1, h2, h3⟩
    · refine ⟨r, r', ?_, ?_, h3⟩
      · show (step s).bind _ = _; rw [h1]; rfl
      · show (step' s').bind _ = _; rw [h2]; rfl
    · obtain ⟨r, r', q1, q2, q3⟩ := ih (i + 1) t t' (by omega) hlt h3
      refine ⟨r, r', ?_, ?_, q3⟩
      · show (step s).bind _ = _; rw [h1]; exact q1
      · show (step' s').bind _ = _; rw [h2]; exact q2
theorem sbT_all : (List.range 256).all (fun v => decide ((sb_b v).toInt = if v < 128 then (v : Int) else (v : Int) - 256)) = true := by decide +kernel
theorem sbT (v : Nat) (h : v < 256) : (sb_b v).toInt = if v < 128 then (v : Int) else (v : Int) - 256 := of_decide_eq_true (List.all_eq_true.mp sbT_all v (List.mem_range.mpr h))
def Ps (s : St) (p : Nat) (σ : MM) : Prop := okC (sC s) ∧ atS σ 1 (sC s) ∧ restS s σ ∧ σ.1 11 3 = nI p ∧ p ≤ (sX s).1
def Fs (s : St) (f : Nat) (σ : MM) : Prop := okC (sC s) ∧ atS σ 1 (sC s) ∧ restS s σ ∧ σ.1 11 4 = nI f ∧ f ≤ (sX s).1
def Pm (s : St) (p : Nat) (μ : MM) : Prop := RelM s μ ∧ μ.1 0 9 = nI p
theorem at_11 {σ : MM} {c : Cr} {i : Nat} {x : Int32} (h : atS σ 1 c) : atS (stI σ 11 i x) 1 c := by
  unfold atS at h ⊢
  rw [stI_k (show 1 ≠ 11 by decide), stI_k (show 1 + 1 ≠ 11 by decide), stI_k (show 1 + 2 ≠ 11 by decide), stI_k (show 1 + 3 ≠ 11 by decide), stI_k (show 1 + 4 ≠ 11 by decide)]; exact h
theorem rest_11 {σ : MM} {s : St} {i : Nat} {x : Int32} (hi : i ≠ 2) (h : restS s σ) : restS s (stI σ 11 i x) := by
  unfold restS rowS txtS refS imgS atS at h ⊢
  rw [stI_k (show 0 ≠ 11 by decide), stI_k (show 14 ≠ 11 by decide), stI_k (show 12 ≠ 11 by decide), stI_k (show 15 ≠ 11 by decide), stI_k (show 6 ≠ 11 by decide), stI_k (show 6 + 1 ≠ 11 by decide), stI_k (show 6 + 2 ≠ 11 by decide), stI_k (show 6 + 3 ≠ 11 by decide), stI_k (show 6 + 4 ≠ 11 by decide), stI_s, upd_n (fun e => hi e.symm)]; exact h
theorem Ps_go {s : St} {p q : Nat} {σ : MM} (h : Ps s p σ) (hq : q ≤ (sX s).1) : Ps s q (stI σ 11 3 (nI q)) :=
  ⟨h.1, at_11 h.2.1, rest_11 (by decide) h.2.2.1, by rw [stI_s, upd_s], hq⟩
theorem Ps_no {s : St} {p q : Nat} {σ : MM} (h : Ps s p σ) (hq : q ≤ (sX s).1) : Fs s q (stI σ 11 4 (nI q)) :=
  ⟨h.1, at_11 h.2.1, rest_11 (by decide) h.2.2.1, by rw [stI_s, upd_s], hq⟩
theorem Pm_go {s : St} {p q : Nat} {μ : MM} (h : Pm s p μ) : Pm s q (stI μ 0 9 (nI q)) :=
  ⟨RelM_keep h.1 (fun p hp => by rw [stI_s, upd_n (fun e => by revert hp; rw [e]; decide)]) (fun k hk => stI_k (fun e => by revert hk; rw [e]; decide)), by rw [stI_s, upd_s]⟩
theorem tx {s : St} {p : Nat} {σ : MM} (h : Ps s p σ) : σ.1 11 2 = nI (sX s).1 ∧ σ.1 11 3 = nI p ∧ (sX s).1 ≤ 80 ∧ p ≤ (sX s).1 ∧ (p < (sX s).1 → (sX s).2 p < 256 ∧ σ.1 12 p = sb_b ((sX s).2 p)) :=
  ⟨h.2.2.1.2.1.2.1, h.2.2.2.1, h.2.2.1.2.1.1, h.2.2.2.2, fun hp => h.2.2.1.2.1.2.2 p hp⟩
theorem sg {s : St} {p : Nat} {σ μ : MM} (h : Ps s p σ) (h' : Pm s p μ) : (p < (sX s).1 → f_X7_sign μ = some (nI ((sX s).2 p))) ∧ (¬ p < (sX s).1 → f_X7_sign μ = some (-1)) := by
  obtain ⟨x1, x2, x3, x4, x5⟩ := tx h
  obtain ⟨⟨-, -, ⟨y1, y2, y3⟩, -⟩, y4⟩ := h'
  unfold f_X7_sign
  rw [y2, y4]
  constructor
  · intro hp
    rw [if_neg (nI_ge hp (by omega)), chk_t (inb_nI (by omega) (by omega)), nI_c (by omega), (y3 p hp).2]
  · intro hp
    rw [if_pos (nI_le (by omega) (by omega))]
theorem dig {s : St} {p : Nat} {σ μ : MM} (a b : Nat) (ha : a ≤ 9) (hb : b ≤ 9) (h : Ps s p σ) (h' : Pm s p μ) :
    (∃ d, a ≤ d ∧ d ≤ b ∧ p < (sX s).1 ∧ (sX s).2 p = 48 + d ∧ f_X4_isDigit (nI a) (nI b) σ = some 1 ∧ f_X4_digit (nI a) (nI b) σ = some (nI d, stI σ 11 3 (nI (p + 1))) ∧ f_X7_digit (nI a) (nI b) μ = some (nI d, stI μ 0 9 (nI (p + 1))))
    ∨ ((p < (sX s).1 → ¬ (48 + a ≤ (sX s).2 p ∧ (sX s).2 p ≤ 48 + b)) ∧ f_X4_isDigit (nI a) (nI b) σ = some 0 ∧ f_X4_digit (nI a) (nI b) σ = some (-1, stI σ 11 4 (nI p)) ∧ f_X7_digit (nI a) (nI b) μ = some (-1, μ)) := by
  obtain ⟨x1, x2, x3, x4, x5⟩ := tx h
  obtain ⟨s1, s2⟩ := sg h h'
  have y4 := h'.2
  have e48 : (48 : Int32).toInt = 48 := rfl
  by_cases hp : p < (sX s).1
  · obtain ⟨z1, z2⟩ := x5 hp
    have hsb := sbT _ z1
    have ev := nI_toInt (n := (sX s).2 p) (by omega)
    have e3 : (nI ((sX s).2 p) - 48).toInt = ((sX s).2 p : Int) - 48 := by rw [fb_subI (by rw [ev, e48]; omega) (by rw [ev, e48]; omega), ev, e48]
    by_cases hd : 48 + a ≤ (sX s).2 p ∧ (sX s).2 p ≤ 48 + b
    · left
      have hsmall : (sX s).2 p < 128 := by omega
      rw [if_pos hsmall] at hsb
      have ea := nI_toInt (n := a) (by omega)
      have eb := nI_toInt (n := b) (by omega)
      have e48a : (48 + nI a : Int32) = nI (48 + a) := nI_add 48 a
      have e48b : (48 + nI b : Int32) = nI (48 + b) := nI_add 48 b
      have ea2 := nI_toInt (n := 48 + a) (by omega)
      have eb2 := nI_toInt (n := 48 + b) (by omega)
      have hD : f_X4_isDigit (nI a) (nI b) σ = some 1 := by
        unfold f_X4_isDigit
        rw [x1, x2, if_neg (nI_ge hp (by omega)), chk_t (inb_nI (by omega) (by omega)), nI_c (by omega), z2, e48a, e48b, if_neg (by rw [fa_lt, hsb, ea2]; omega), chk_t (inb_nI (by omega) (by omega)), if_neg (by rw [fa_lt, hsb, eb2]; omega)]; rfl
      refine ⟨(sX s).2 p - 48, by omega, by omega, hp, by omega, hD, ?_, ?_⟩
      · unfold f_X4_digit
        rw [hD, Option.bind_some, if_neg n10, lm_eq, x2, nI_1, stI_s, upd_s, nI_pred, chk_t (inb_nI (by omega) (by omega)), nI_c (by omega), stI_k (by decide), z2]
        congr 2
        rw [fa_eq, nI_toInt (by omega), fb_subI (by rw [hsb, e48]; omega) (by rw [hsb, e48]; omega), hsb, e48]
        omega
      · unfold f_X7_digit
        rw [s1 hp, Option.bind_some, isIn_y (by rw [fa_lt, e3, ea]; omega) (by rw [fa_lt, e3, eb]; omega), Option.bind_some, if_neg n10, lm_eq, y4, nI_1]
        congr 2
        rw [fa_eq, e3, nI_toInt (by omega)]
        omega
    · right
      have hD : f_X4_isDigit (nI a) (nI b) σ = some 0 := by
        unfold f_X4_isDigit
        rw [x1, x2, if_neg (nI_ge hp (by omega)), chk_t (inb_nI (by omega) (by omega)), nI_c (by omega), z2]
        have e48b : (48 + nI b : Int32) = nI (48 + b) := nI_add 48 b
        have eb2 := nI_toInt (n := 48 + b) (by omega)
        by_cases hq : sb_b ((sX s).2 p) < 48 + nI a
        · rw [if_pos hq]; rfl
        · rw [if_neg hq, chk_t (inb_nI (by omega) (by omega)), e48b, if_pos]
          · rfl
          · rw [fa_lt, hsb, eb2]
            have e48a : (48 + nI a : Int32) = nI (48 + a) := nI_add 48 a
            have ea2 := nI_toInt (n := 48 + a) (by omega)
            rw [e48a, fa_lt, hsb, ea2] at hq
            split at hq <;> split <;> omega
      refine ⟨fun _ => hd, hD, ?_, ?_⟩
      · unfold f_X4_digit f_X4_fault
        rw [hD, Option.bind_some, if_pos z00, lm_eq, x2]; rfl
      · unfold f_X7_digit
        have ea := nI_toInt (n := a) (by omega)
        have eb := nI_toInt (n := b) (by omega)
        rw [s1 hp, Option.bind_some, isIn_n (by rw [fa_lt, fa_lt, e3, ea, eb]; omega), Option.bind_some, if_pos z00]
  · right
    have hD : f_X4_isDigit (nI a) (nI b) σ = some 0 := by
      unfold f_X4_isDigit
      rw [x1, x2, if_pos (nI_le (by omega) (by omega))]; rfl
    refine ⟨fun q => absurd q hp, hD, ?_, ?_⟩
    · unfold f_X4_digit f_X4_fault
      rw [hD, Option.bind_some, if_pos z00, lm_eq, x2]; rfl
    · unfold f_X7_digit
      have ea := nI_toInt (n := a) (by omega)
      have em : ((-1 : Int32) - 48).toInt = -49 := rfl
      rw [s2 hp, Option.bind_some, isIn_n (by rw [fa_lt, em, ea]; omega), Option.bind_some, if_pos z00]
/-- a sign that must stand there -/
theorem sgn {s : St} {p : Nat} {σ μ : MM} (v : Nat) (hv : v < 128) (h : Ps s p σ) (h' : Pm s p μ) :
    (p < (sX s).1 ∧ (sX s).2 p = v ∧ f_X4_sign (nI v) σ = some (1, stI σ 11 3 (nI (p + 1))) ∧ f_X7_takes (nI v) μ = some (1, stI μ 0 9 (nI (p + 1))))
    ∨ ((p < (sX s).1 → (sX s).2 p ≠ v) ∧ f_X4_sign (nI v) σ = some (0, stI σ 11 4 (nI p)) ∧ f_X7_takes (nI v) μ = some (0, μ)) := by
  obtain ⟨x1, x2, x3, x4, x5⟩ := tx h
  obtain ⟨s1, s2⟩ := sg h h'
  have y4 := h'.2
  have ev := nI_toInt (n := v) (by omega)
  unfold f_X4_sign f_X7_takes f_X4_fault
  rw [x1, x2, y4]
  by_cases hp : p < (sX s).1
  · obtain ⟨z1, z2⟩ := x5 hp
    have hsb := sbT _ z1
    have e2 := nI_toInt (n := (sX s).2 p) (by omega)
    rw [if_neg (nI_ge hp (by omega)), chk_t (inb_nI (by omega) (by omega)), nI_c (by omega), z2, s1 hp, Option.bind_some]
    by_cases hd : (sX s).2 p = v
    · left
      rw [hd] at hsb
      rw [if_pos hv] at hsb
      refine ⟨hp, hd, ?_, ?_⟩
      · rw [hd, if_pos (by rw [fa_eq, hsb, ev]), lm_eq, nI_1]; rfl
      · rw [hd, if_pos rfl, lm_eq, nI_1]; rfl
    · right
      refine ⟨fun _ => hd, ?_, ?_⟩
      · rw [if_neg (by rw [fa_eq, hsb, ev]; split <;> omega), lm_eq]; rfl
      · rw [if_neg (by rw [fa_eq, e2, ev]; omega)]; rfl
  · right
    refine ⟨fun q => absurd q hp, ?_, ?_⟩
    · rw [if_pos (nI_le (by omega) (by omega)), lm_eq]; rfl
    · have em : (-1 : Int32).toInt = -1 := rfl
      rw [s2 hp, Option.bind_some, if_neg (by rw [fa_eq, em, ev]; omega)]; rfl
/-- a number of hundredths -/
theorem num {s : St} {p : Nat} {σ μ : MM} (h : Ps s p σ) (h' : Pm s p μ) :
    (∃ n q σ' μ', n ≤ 100 ∧ p < q ∧ f_X4_number σ = some (nI n, σ') ∧ f_X7_hundredths μ = some (nI n, μ') ∧ Ps s q σ' ∧ Pm s q μ')
    ∨ (∃ f σ' μ', f_X4_number σ = some (-1, σ') ∧ f_X7_hundredths μ = some (-1, μ') ∧ Fs s f σ' ∧ Pm s f μ') := by
  obtain ⟨x1, x2, x3, x4, x5⟩ := tx h
  have y4 := h'.2
  have e0 : (0 : Int32) = nI 0 := rfl
  have e9 : (9 : Int32) = nI 9 := rfl
  unfold f_X4_number f_X7_hundredths
  rw [x2, y4]
  rcases dig 0 9 (by omega) (by omega) h h' with ⟨d, d1, d2, d3, d4, d5, d6, d7⟩ | ⟨d1, d5, d6, d7⟩
  · have d6' : f_X4_digit 0 9 σ = some (nI d, stI σ 11 3 (nI (p + 1))) := d6
    have d7' : f_X7_digit 0 9 μ = some (nI d, stI μ 0 9 (nI (p + 1))) := d7
    rw [d6', d7', Option.bind_some, uc_eq, Option.bind_some, uc_eq]
    have hL := lp_two (step := fun t => g_X4_number_15 (nI p) t.1 t.2.1 t.2.2) (step' := fun t => g_X7_hundredths_15 (nI p) t.1 t.2.1 t.2.2)
      (fun i t t' => ∃ n q, n < 10 ^ (i + 1) ∧ p < q ∧ t.1 = nI n ∧ t.2.1 = nI i ∧ t'.1 = nI n ∧ t'.2.1 = nI (i + 1) ∧ Ps s q t.2.2 ∧ Pm s q t'.2.2)
      (fun r r' => ∃ n q, n < 1000 ∧ p < q ∧ r.1 = nI n ∧ r'.1 = nI n ∧ Ps s q r.2 ∧ Pm s q r'.2) 2 ?_ FU 0 (nI d, (0 : Int32), stI σ 11 3 (nI (p + 1))) (nI d, (1 : Int32), stI μ 0 9 (nI (p + 1))) (by unfold FU; omega) (by omega) ⟨d, p + 1, by omega, by omega, rfl, rfl, rfl, rfl, Ps_go h (by omega), Pm_go h'⟩
    · obtain ⟨r, r', l1, l2, n, q, l3, l4, l5, l6, l7, l8⟩ := hL
      rw [l1, l2, Option.bind_some, Option.bind_some, l5, l6]
      by_cases h100 : n ≤ 100
      · left
        have c1 : nI n ≤ (100 : Int32) := nI_le (b := 100) h100 (by omega)
        have c2 : ¬ (100 : Int32) < nI n := nI_nlt (a := 100) h100 (by omega)
        rw [if_pos c1, if_neg c2]
        exact ⟨n, q, r.2, r'.2, h100, l4, rfl, rfl, l7, l8⟩
      · right
        have c1 : ¬ nI n ≤ (100 : Int32) := nI_ge (a := 100) (by omega) (by omega)
        have c2 : (100 : Int32) < nI n := nI_lt (a := 100) (by omega) (by omega)
        rw [if_neg c1, if_pos c2]
        unfold f_X4_fault
        exact ⟨p, stI r.2 11 4 (nI p), stI r'.2 0 9 (nI p), rfl, rfl, Ps_no l7 x4, Pm_go l8⟩
    · rintro i ⟨a1, a2, τ⟩ ⟨b1, b2, ν⟩ hi ⟨n, q, k1, k2, rfl, rfl, rfl, rfl, k7, k8⟩
      dsimp only at k7 k8
      dsimp only
      have hn : n < 1000 := Nat.lt_of_lt_of_le k1 (Nat.pow_le_pow_right (n := 10) (j := 3) (by decide) (by omega))
      unfold g_X4_number_15 g_X7_hundredths_15
      by_cases hi2 : 2 ≤ i
      · left
        have c1 : (2 : Int32) ≤ nI i := nI_le (a := 2) hi2 (by omega)
        have c2 : (3 : Int32) ≤ nI (i + 1) := nI_le (a := 3) (by omega) (by omega)
        rw [if_pos c1, if_pos c2]
        exact ⟨_, _, rfl, rfl, n, q, hn, k2, rfl, rfl, k7, k8⟩
      · have c1 : ¬ (2 : Int32) ≤ nI i := nI_ge (b := 2) (by omega) (by omega)
        have c2 : ¬ (3 : Int32) ≤ nI (i + 1) := nI_ge (b := 3) (by omega) (by omega)
        rw [if_neg c1, if_neg c2]
        by_cases h0 : n = 0
        · left
          subst h0
          rw [if_pos (by decide), if_pos (by decide)]
          exact ⟨_, _, rfl, rfl, 0, q, by omega, k2, rfl, rfl, k7, k8⟩
        · rw [if_neg (nI_nle (by omega) (by omega)), if_neg (nI_nle (by omega) (by omega))]
          obtain ⟨w1, w2, w3, w4, w5⟩ := tx k7
          obtain ⟨s1, s2⟩ := sg k7 k8
          have e48 : (48 : Int32).toInt = 48 := rfl
          have e57 : (57 : Int32).toInt = 57 := rfl
          rcases dig 0 9 (by omega) (by omega) k7 k8 with ⟨d', d1', d2', d3', d4', d5', d6', d7'⟩ | ⟨d1', d5', d6', d7'⟩
          · right
            have ev := nI_toInt (n := (sX s).2 q) (by omega)
            have f5 : f_X4_isDigit 0 9 τ = some 1 := d5'
            have f6 : f_X4_digit 0 9 τ = some (nI d', stI τ 11 3 (nI (q + 1))) := d6'
            have f7 : f_X7_digit 0 9 ν = some (nI d', stI ν 0 9 (nI (q + 1))) := d7'
            have e10 : (10 : Int32) * nI n + nI d' = nI (10 * n + d') := by
              have : (10 : Int32) * nI n = nI (10 * n) := pk_mul 10 n
              rw [this, nI_add]
            refine ⟨by omega, ?_⟩
            rw [f5, Option.bind_some, if_neg n10, f6, Option.bind_some, uc_eq, s1 d3', Option.bind_some, isIn_y (by rw [fa_lt, ev, e48]; omega) (by rw [fa_lt, ev, e57]; omega), Option.bind_some, if_neg n10, f7, Option.bind_some, uc_eq, e10, nI_1, nI_1]
            refine ⟨_, _, rfl, rfl, 10 * n + d', q + 1, ?_, by omega, rfl, rfl, rfl, rfl, Ps_go k7 (by omega), Pm_go k8⟩
            rw [Nat.pow_succ]; omega
          · left
            have f5 : f_X4_isDigit 0 9 τ = some 0 := d5'
            rw [f5, Option.bind_some, if_pos z00]
            by_cases hq : q < (sX s).1
            · have hx := (w5 hq).1
              have ev := nI_toInt (n := (sX s).2 q) (by omega)
              have := d1' hq
              rw [s1 hq, Option.bind_some, isIn_n (by rw [fa_lt, fa_lt, ev, e48, e57]; omega), Option.bind_some, if_pos z00]
              exact ⟨_, _, rfl, rfl, n, q, hn, k2, rfl, rfl, k7, k8⟩
            · rw [s2 hq, Option.bind_some, isIn_n (Or.inl (by decide)), Option.bind_some, if_pos z00]
              exact ⟨_, _, rfl, rfl, n, q, hn, k2, rfl, rfl, k7, k8⟩
  · right
    have d6' : f_X4_digit 0 9 σ = some (-1, stI σ 11 4 (nI p)) := d6
    have d7' : f_X7_digit 0 9 μ = some (-1, μ) := d7
    rw [d6', d7', Option.bind_some, uc_eq, Option.bind_some, uc_eq]
    refine ⟨p, stI σ 11 4 (nI p), μ, ?_, ?_, Ps_no h x4, h'⟩
    · have : loopN (fun t => g_X4_number_15 (nI p) t.1 t.2.1 t.2.2) FU ((-1 : Int32), (0 : Int32), stI σ 11 4 (nI p)) = some (-1, stI σ 11 4 (nI p)) := rfl
      rw [this]; rfl
    · have : loopN (fun t => g_X7_hundredths_15 (nI p) t.1 t.2.1 t.2.2) FU ((-1 : Int32), (1 : Int32), μ) = some (-1, μ) := rfl
      rw [this]; rfl
