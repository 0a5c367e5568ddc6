/-! COURT: people, and the whole -/
def addN (s : St) (n : Nat) (g : Nat → Nat) : St := ((cP (sC s) + n, cK (sC s), fun i => if i < cP (sC s) then cS (sC s) i else g i, cL (sC s), cM (sC s)), sR s, sX s, sI s, sF s)
theorem addN_s (s : St) (n : Nat) (g : Nat → Nat) : addP (addN s n g) (g (cP (sC s) + n)) = addN s (n + 1) g := by
  have e : (fun i => if i = cP (sC s) + n then g (cP (sC s) + n) else (if i < cP (sC s) then cS (sC s) i else g i)) = fun i => if i < cP (sC s) then cS (sC s) i else g i := by
    funext i
    by_cases h : i = cP (sC s) + n
    · rw [if_pos h, if_neg (by omega), h]
    · rw [if_neg h]
  show ((cP (sC s) + n + 1, cK (sC s), (fun i => if i = cP (sC s) + n then g (cP (sC s) + n) else (if i < cP (sC s) then cS (sC s) i else g i)), cL (sC s), cM (sC s)), sR s, sX s, sI s, sF s) = _
  rw [e]; rfl
theorem okC_N {s : St} {n : Nat} {g : Nat → Nat} (h : okC (sC s)) (hn : cP (sC s) + n ≤ 12) (hg : ∀ i, i < n → g (cP (sC s) + i) < 6) : okC (sC (addN s n g)) := by
  obtain ⟨h1, h2, h3, h4⟩ := h
  refine ⟨hn, h2, fun i hi => ?_, h4⟩
  show (if i < cP (sC s) then cS (sC s) i else g i) < 6
  have hi' : i < cP (sC s) + n := hi
  by_cases e : i < cP (sC s)
  · rw [if_pos e]; exact h3 i e
  · rw [if_neg e]
    have := hg (i - cP (sC s)) (by omega)
    rw [show cP (sC s) + (i - cP (sC s)) = i by omega] at this
    exact this
theorem addN_0 (s : St) (g : Nat → Nat) (σ : MM) (h : atS σ 1 (sC s)) : atS σ 1 (sC (addN s 0 g)) := by
  obtain ⟨a1, a2, a3, a4⟩ := h
  refine ⟨a1, a2, fun i hi => ?_, a4⟩
  have hi' : i < cP (sC s) := hi
  show _ = nI (if i < cP (sC s) then cS (sC s) i else g i)
  rw [if_pos hi']; exact a3 i hi'
theorem rp84 {s : St} {k q : Nat} {g : Nat → Nat} {σ : MM} (h : Ps s q σ) (hn : cP (sC s) + k ≤ 12) (hg : ∀ i, i < k → g (cP (sC s) + i) < 6) (hb : ∀ i, i < k → σ.1 13 i = nI (g (cP (sC s) + i))) : ∃ σ', loopN (fun t => g_X4_readPeople_84 (nI k) t.1 t.2) FU ((0 : Int32), σ) = some σ' ∧ Ps (addN s k g) q σ' := by
  have hq := lp_0 (step := fun t => g_X4_readPeople_84 (nI k) t.1 t.2) (fun i t => t.1 = nI i ∧ atS t.2 1 (sC (addN s i g)) ∧ ∀ r, r ≠ 1 → r ≠ 4 → t.2.1 r = σ.1 r) (fun r => atS r 1 (sC (addN s k g)) ∧ ∀ r', r' ≠ 1 → r' ≠ 4 → r.1 r' = σ.1 r') k ((0 : Int32), σ) (by omega) ⟨rfl, addN_0 s g σ h.2.1, fun _ _ _ => rfl⟩ ?_ ?_
  · obtain ⟨r, r1, r2, r3⟩ := hq
    refine ⟨r, r1, okC_N h.1 hn hg, r2, rest_keep h.2.2.1 (fun k hk => r3 k (fun e => by revert hk; rw [e]; decide) (fun e => by revert hk; rw [e]; decide)), by rw [r3 11 (by decide) (by decide)]; exact h.2.2.2.1, h.2.2.2.2⟩
  · rintro i ⟨v, τ⟩ hi ⟨f1, f2, f3⟩
    dsimp only at f1 f2 f3
    subst f1
    obtain ⟨e1, e2⟩ := add_S (s := addN s i g) (j := g (cP (sC s) + i)) (show cP (sC s) + i < 12 by omega) f2
    show ∃ s', g_X4_readPeople_84 (nI k) (nI i) τ = some (.inl s') ∧ _
    unfold g_X4_readPeople_84
    rw [if_neg (nI_ge hi (by omega)), chk_t (inb_nI (by omega) (by omega)), nI_c (by omega), f3 13 (by decide) (by decide), hb i hi, e1, Option.bind_some]
    refine ⟨_, rfl, nI_1 i, ?_, fun r h1 h2 => ?_⟩
    · rw [addN_s] at e2; exact e2
    · show (stI (stI τ 4 _ _) 1 4 _).1 r = _
      rw [stI_k h1, stI_k h2]; exact f3 r h1 h2
  · rintro ⟨v, τ⟩ ⟨f1, f2, f3⟩
    dsimp only at f1 f2 f3
    subst f1
    refine ⟨τ, ?_, f2, f3⟩
    show g_X4_readPeople_84 (nI k) (nI k) τ = _
    unfold g_X4_readPeople_84
    rw [if_pos (nI_le (Nat.le_refl _) (by omega))]
theorem RelM_N {s : St} {k : Nat} {g : Nat → Nat} {μ : MM} (h : RelM s μ) (hn : cP (sC s) + k ≤ 12) (hg : ∀ i, i < k → g (cP (sC s) + i) < 6) (hb : ∀ i, i < k → μ.1 3 (cP (sC s) + i) = nI (g (cP (sC s) + i))) : RelM (addN s k g) (stI μ 0 6 (nI (cP (sC s) + k))) := by
  obtain ⟨⟨c0, b0⟩, q1, q2, q3, q4, q5⟩ := h
  refine ⟨⟨okC_N c0 hn hg, ?_⟩, q1, q2, q3, q4, q5⟩
  obtain ⟨b1, b2, b3, b4⟩ := b0
  refine ⟨by rw [stI_s, upd_s]; rfl, b2, fun i hi => ?_, b4⟩
  have hi' : i < cP (sC s) + k := hi
  rw [stI_k (by decide)]
  show _ = nI (if i < cP (sC s) then cS (sC s) i else g i)
  by_cases e : i < cP (sC s)
  · rw [if_pos e]; exact b3 i e
  · rw [if_neg e]
    have := hb (i - cP (sC s)) (by omega)
    rw [show cP (sC s) + (i - cP (sC s)) = i by omega] at this
    exact this
/-- what has been read of people, on both sides -/
def pin (s : St) (p k : Nat) (g : Nat → Nat) (q : Nat) (τ ν : MM) : Prop := p ≤ q ∧ Ps s q τ ∧ Pm s q ν ∧ cP (sC s) + k ≤ 12 ∧ (∀ i, i < k → g (cP (sC s) + i) < 6) ∧ (∀ i, i < k → τ.1 13 i = nI (g (cP (sC s) + i))) ∧ ∀ i, i < k → ν.1 3 (cP (sC s) + i) = nI (g (cP (sC s) + i))
theorem pin_end {s : St} {p k q : Nat} {g : Nat → Nat} {τ ν : MM} (h : pin s p k g q τ ν) (hq : q < (sX s).1) : ∃ σ' μ', loopN (fun t => g_X4_readPeople_84 (nI k) t.1 t.2) FU ((0 : Int32), stI τ 11 3 (nI (q + 1))) = some σ' ∧ stI (stI ν 0 9 (nI (q + 1))) 0 6 (nI (cP (sC s) + k)) = μ' ∧ Ps (addN s k g) (q + 1) σ' ∧ Pm (addN s k g) (q + 1) μ' := by
  obtain ⟨h1, h2, h3, h4, h5, h6, h7⟩ := h
  obtain ⟨σ', r1, r2⟩ := rp84 (g := g) (Ps_go (q := q + 1) h2 (by omega)) h4 h5 (fun i hi => by rw [stI_k (by decide)]; exact h6 i hi)
  refine ⟨σ', _, r1, rfl, r2, RelM_N (Pm_go (q := q + 1) h3).1 h4 h5 (fun i hi => by rw [stI_k (by decide)]; exact h7 i hi), ?_⟩
  rw [stI_s, upd_n (by decide), stI_s, upd_s]
theorem pin_next {s : St} {p k q d : Nat} {g : Nat → Nat} {τ ν : MM} (h : pin s p k g q τ ν) (hq : q < (sX s).1) (hd : d ≤ 5) (hk : cP (sC s) + k < 12) : ∃ g', pin s p (k + 1) g' (q + 1) (stI (stI τ 11 3 (nI (q + 1))) 13 k (nI d)) (stI (stI ν 0 9 (nI (q + 1))) 3 (cP (sC s) + k) (nI d)) := by
  obtain ⟨h1, h2, h3, h4, h5, h6, h7⟩ := h
  refine ⟨fun i => if i = cP (sC s) + k then d else g i, by omega, ?_, ?_, by omega, fun i hi => ?_, fun i hi => ?_, fun i hi => ?_⟩
  · obtain ⟨g1, g2, g3, g4, g5⟩ := Ps_go (q := q + 1) h2 (by omega)
    refine ⟨g1, ?_, rest_keep g3 (fun k hk => stI_k (fun e => by revert hk; rw [e]; decide)), by rw [stI_k (by decide)]; exact g4, g5⟩
    unfold atS at g2 ⊢
    rw [stI_k (show 1 ≠ 13 by decide), stI_k (show 1 + 1 ≠ 13 by decide), stI_k (show 1 + 2 ≠ 13 by decide), stI_k (show 1 + 3 ≠ 13 by decide), stI_k (show 1 + 4 ≠ 13 by decide)]; exact g2
  · obtain ⟨⟨⟨c0, b0⟩, q1, q2, q3, q4, q5⟩, y4⟩ := Pm_go (q := q + 1) h3
    obtain ⟨b1, b2, b3, b4⟩ := b0
    refine ⟨⟨⟨c0, b1, b2, fun i hi => ?_, b4⟩, q1, q2, q3, q4, q5⟩, y4⟩
    rw [stI_s, upd_n (by omega)]; exact b3 i hi
  · dsimp only
    by_cases e : i = k
    · rw [if_pos (by omega)]; omega
    · rw [if_neg (by omega)]; exact h5 i (by omega)
  · dsimp only
    rw [stI_s]
    by_cases e : i = k
    · rw [if_pos (by omega), e, upd_s]
    · rw [if_neg (by omega), upd_n e, stI_k (by decide)]; exact h6 i (by omega)
  · dsimp only
    rw [stI_s]
    by_cases e : i = k
    · rw [if_pos (by omega), e, upd_s]
    · rw [if_neg (by omega), upd_n (by omega), stI_k (by decide)]; exact h7 i (by omega)
theorem sm_people {s : St} {p : Nat} {σ μ : MM} (h : Ps s p σ) (h' : Pm s p μ) : Sm s p (f_X4_readPeople σ) (f_X7_readsPeople μ) := by
  obtain ⟨c0, a0, -⟩ := id h
  obtain ⟨⟨⟨-, b0⟩, -⟩, -⟩ := id h'
  have hP := c0.1
  unfold f_X4_readPeople f_X7_readsPeople
  have e12 : (12 : Int32) - nI (cP (sC s)) = nI (12 - cP (sC s)) := pk_sub (a := 12) hP
  rw [a0.1, b0.1, e12]
  have hL := lp_two (step := fun t => g_X4_readPeople_10 (nI (12 - cP (sC s))) t.1 t.2) (step' := fun t => g_X7_readsPeople_5 t.1 t.2) (fun k t t' => ∃ g q, t.1 = nI k ∧ t'.1 = nI (cP (sC s) + k) ∧ pin s p k g q t.2 t'.2) (fun r r' => Sm s p (some r) (some r')) (12 - cP (sC s)) ?_ FU 0 ((0 : Int32), σ) (nI (cP (sC s)), μ) (by unfold FU; omega) (by omega) ⟨fun _ => 0, p, rfl, rfl, Nat.le_refl _, h, h', hP, fun i hi => by omega, fun i hi => by omega, fun i hi => by omega⟩
  · obtain ⟨r, r', l1, l2, l3⟩ := hL
    rw [l1, l2]; exact l3
  rintro k ⟨v, τ⟩ ⟨w, ν⟩ hk ⟨g, q, rfl, rfl, hp⟩
  dsimp only at hp
  dsimp only
  obtain ⟨h1, h2, h3, h4, h5, h6, h7⟩ := id hp
  obtain ⟨x1, x2, x3, x4, x5⟩ := tx h2
  obtain ⟨s1, s2⟩ := sg h2 h3
  have n6 : ν.1 0 6 = nI (cP (sC s)) := h3.1.1.2.1
  have no59 : ¬ (q < (sX s).1 ∧ (sX s).2 q = 59) → ∃ r1, f_X7_sign ν = some r1 ∧ ¬ r1 = 59 := fun hno => by
    by_cases hq : q < (sX s).1
    · refine ⟨_, s1 hq, fun e => hno ⟨hq, ?_⟩⟩
      have := (x5 hq).1
      exact (nI_eq_iff (b := 59) (by omega) (by omega)).mp e
    · exact ⟨_, s2 hq, by decide⟩
  have yes59 : q < (sX s).1 → (sX s).2 q = 59 → f_X7_sign ν = some 59 := fun hq e => by rw [s1 hq, e]; rfl
  -- the end: a semicolon, or a fault
  have fault : ∃ r, (f_X4_fault (τ.1 11 3) τ).bind (uc (fun r7 σ8 => chk (isB r7) (some (Sum.inr (r7, σ8) : (Int32 × MM) ⊕ (Int32 × MM))))) = some (Sum.inr r) ∧ Sm s p (some r) (some (0, ν)) := by
    refine ⟨(0, stI τ 11 4 (nI q)), ?_, Or.inr ⟨s, q, _, _, rfl, rfl, rfl, Ps_no h2 x4, h3⟩⟩
    unfold f_X4_fault
    rw [x2]; rfl
  unfold g_X4_readPeople_10 g_X7_readsPeople_5
  rw [n6]
  by_cases hend : 12 - cP (sC s) ≤ k
  · left
    have hke : cP (sC s) + k = 12 := by omega
    rw [if_pos (nI_le hend (by omega)), hke]
    by_cases hk0 : k = 0
    · subst hk0
      have hP12 : cP (sC s) = 12 := by omega
      obtain ⟨r, fa, fb⟩ := fault
      refine ⟨r, (0, ν), ?_, ?_, fb⟩
      · rw [if_pos (show nI 0 = 0 from rfl)]; exact fa
      · by_cases hq : q < (sX s).1 ∧ (sX s).2 q = 59
        · rw [yes59 hq.1 hq.2, Option.bind_some, if_pos rfl, hP12, if_pos rfl, if_pos (show nI 12 = (12 : Int32) from rfl)]; rfl
        · obtain ⟨r1, e1, e2⟩ := no59 hq
          rw [e1, Option.bind_some, if_neg e2, if_pos (show nI 12 = (12 : Int32) from rfl)]; rfl
    · rw [if_neg (nI_ne (by omega) (by omega))]
      have hne : ¬ nI 12 = nI (cP (sC s)) := fun e => by have := (nI_eq_iff (by omega) (by omega)).mp e; omega
      rcases sgn 59 (by omega) h2 h3 with ⟨k1, k2, k3, k4⟩ | ⟨k2, k3, k4⟩
      · have k3' : f_X4_sign 59 τ = some (1, stI τ 11 3 (nI (q + 1))) := k3
        obtain ⟨σ', μ', t1, t2, t3, t4⟩ := pin_end hp k1
        refine ⟨(1, σ'), (1, μ'), ?_, ?_, Or.inl ⟨addN s k g, q + 1, σ', μ', by omega, rfl, rfl, rfl, t3, t4⟩⟩
        · rw [k3', Option.bind_some, uc_eq, if_neg n10, t1]; rfl
        · rw [yes59 k1 k2, Option.bind_some, if_pos rfl, if_neg hne, h3.2, nI_1, lm_eq, lm_eq, ← t2, hke]; rfl
      · have k3' : f_X4_sign 59 τ = some (0, stI τ 11 4 (nI q)) := k3
        obtain ⟨r1, e1, e2⟩ := no59 (fun z => k2 z.1 z.2)
        refine ⟨(0, stI τ 11 4 (nI q)), (0, ν), ?_, ?_, Or.inr ⟨s, q, _, _, rfl, rfl, rfl, Ps_no h2 x4, h3⟩⟩
        · rw [k3', Option.bind_some, uc_eq, if_pos z00]; rfl
        · rw [e1, Option.bind_some, if_neg e2, if_pos (show nI 12 = (12 : Int32) from rfl)]; rfl
  · have hlt : k < 12 - cP (sC s) := by omega
    have hn12 : ¬ nI (cP (sC s) + k) = (12 : Int32) := fun e => by have := (nI_eq_iff (b := 12) (by omega) (by omega)).mp e; omega
    rw [if_neg (nI_ge hlt (by omega))]
    by_cases hk0 : k = 0
    · subst hk0
      have ez : (nI 0 : Int32) = 0 := rfl
      -- both read a digit
      have eM : ∀ (X Y : Option ((Int32 × MM) ⊕ (Int32 × MM))), (f_X7_sign ν).bind (fun r1 => if r1 = (59 : Int32) then (if nI (cP (sC s) + 0) = nI (cP (sC s)) then (if nI (cP (sC s) + 0) = (12 : Int32) then X else (f_X7_digit 0 5 ν).bind (uc (fun r7 σ8 => if 0 ≤ r7 then chk (inb (nI (cP (sC s) + 0)) 13) (lm (stI σ8 3 (nI (cP (sC s) + 0)).toNatClampNeg r7) (fun σ9 => some (.inl (nI (cP (sC s) + 0) + 1, σ9)))) else chk (isB 0) (some (.inr (0, σ8)))))) else Y) else (if nI (cP (sC s) + 0) = (12 : Int32) then X else (f_X7_digit 0 5 ν).bind (uc (fun r7 σ8 => if 0 ≤ r7 then chk (inb (nI (cP (sC s) + 0)) 13) (lm (stI σ8 3 (nI (cP (sC s) + 0)).toNatClampNeg r7) (fun σ9 => some (.inl (nI (cP (sC s) + 0) + 1, σ9)))) else chk (isB 0) (some (.inr (0, σ8))))))) = (f_X7_digit 0 5 ν).bind (uc (fun r7 σ8 => if 0 ≤ r7 then chk (inb (nI (cP (sC s) + 0)) 13) (lm (stI σ8 3 (nI (cP (sC s) + 0)).toNatClampNeg r7) (fun σ9 => some (.inl (nI (cP (sC s) + 0) + 1, σ9)))) else chk (isB 0) (some (.inr (0, σ8))))) := by
        intro X Y
        have hsn : ∃ r1, f_X7_sign ν = some r1 := by
          by_cases hq : q < (sX s).1
          · exact ⟨_, s1 hq⟩
          · exact ⟨_, s2 hq⟩
        obtain ⟨r1, e1⟩ := hsn
        rw [e1, Option.bind_some, if_neg hn12, if_pos (show nI (cP (sC s) + 0) = nI (cP (sC s)) from rfl)]
        by_cases e : r1 = 59
        · rw [if_pos e]
        · rw [if_neg e]
      rw [eM, if_pos ez]
      rcases dig 0 5 (by omega) (by omega) h2 h3 with ⟨d, d1, d2, d3, d4, d5, d6, d7⟩ | ⟨d1, d5, d6, d7⟩
      · have d6' : f_X4_digit 0 5 τ = some (nI d, stI τ 11 3 (nI (q + 1))) := d6
        have d7' : f_X7_digit 0 5 ν = some (nI d, stI ν 0 9 (nI (q + 1))) := d7
        obtain ⟨g', hg'⟩ := pin_next hp d3 d2 (by omega)
        right
        refine ⟨hlt, (nI (0 + 1), stI (stI τ 11 3 (nI (q + 1))) 13 0 (nI d)), (nI (cP (sC s) + (0 + 1)), stI (stI ν 0 9 (nI (q + 1))) 3 (cP (sC s) + 0) (nI d)), ?_, ?_, g', q + 1, rfl, rfl, hg'⟩
        · rw [d6', Option.bind_some, uc_eq, if_pos (ge0.mpr (nI_pos (by omega))), chk_t (inb_nI (by omega) (by omega)), lm_eq]; rfl
        · rw [d7', Option.bind_some, uc_eq, if_pos (ge0.mpr (nI_pos (by omega))), chk_t (inb_nI (by omega) (by omega)), lm_eq, nI_c (by omega), nI_1]
      · have d6' : f_X4_digit 0 5 τ = some (-1, stI τ 11 4 (nI q)) := d6
        have d7' : f_X7_digit 0 5 ν = some (-1, ν) := d7
        left
        refine ⟨(0, stI τ 11 4 (nI q)), (0, ν), ?_, ?_, Or.inr ⟨s, q, _, _, rfl, rfl, rfl, Ps_no h2 x4, h3⟩⟩
        · rw [d6', Option.bind_some, uc_eq, if_neg (by decide)]; rfl
        · rw [d7', Option.bind_some, uc_eq, if_neg (by decide)]; rfl
    · have hnz : ¬ nI k = 0 := nI_ne (by omega) (by omega)
      have hne : ¬ nI (cP (sC s) + k) = nI (cP (sC s)) := fun e => by have := (nI_eq_iff (by omega) (by omega)).mp e; omega
      rw [if_neg hnz]
      rcases dig 0 5 (by omega) (by omega) h2 h3 with ⟨d, d1, d2, d3, d4, d5, d6, d7⟩ | ⟨d1, d5, d6, d7⟩
      · have d5' : f_X4_isDigit 0 5 τ = some 1 := d5
        have d6' : f_X4_digit 0 5 τ = some (nI d, stI τ 11 3 (nI (q + 1))) := d6
        have d7' : f_X7_digit 0 5 ν = some (nI d, stI ν 0 9 (nI (q + 1))) := d7
        obtain ⟨g', hg'⟩ := pin_next hp d3 d2 (by omega)
        obtain ⟨r1, e1, e2⟩ := no59 (fun z => by have := z.2; omega)
        right
        refine ⟨hlt, (nI (k + 1), stI (stI τ 11 3 (nI (q + 1))) 13 k (nI d)), (nI (cP (sC s) + (k + 1)), stI (stI ν 0 9 (nI (q + 1))) 3 (cP (sC s) + k) (nI d)), ?_, ?_, g', q + 1, rfl, rfl, hg'⟩
        · rw [d5', Option.bind_some, if_neg n10, d6', Option.bind_some, uc_eq, if_pos (ge0.mpr (nI_pos (by omega))), chk_t (inb_nI (by omega) (by omega)), lm_eq, nI_c (by omega), nI_1]
        · rw [e1, Option.bind_some, if_neg e2, if_neg hn12, d7', Option.bind_some, uc_eq, if_pos (ge0.mpr (nI_pos (by omega))), chk_t (inb_nI (by omega) (by omega)), lm_eq, nI_c (by omega), nI_1]
          rfl
      · have d5' : f_X4_isDigit 0 5 τ = some 0 := d5
        have d7' : f_X7_digit 0 5 ν = some (-1, ν) := d7
        left
        rw [d5', Option.bind_some, if_pos z00, if_neg hnz]
        rcases sgn 59 (by omega) h2 h3 with ⟨k1, k2, k3, k4⟩ | ⟨k2, k3, k4⟩
        · have k3' : f_X4_sign 59 τ = some (1, stI τ 11 3 (nI (q + 1))) := k3
          obtain ⟨σ', μ', t1, t2, t3, t4⟩ := pin_end hp k1
          refine ⟨(1, σ'), (1, μ'), ?_, ?_, Or.inl ⟨addN s k g, q + 1, σ', μ', by omega, rfl, rfl, rfl, t3, t4⟩⟩
          · rw [k3', Option.bind_some, uc_eq, if_neg n10, t1]; rfl
          · rw [yes59 k1 k2, Option.bind_some, if_pos rfl, if_neg hne, h3.2, nI_1, lm_eq, lm_eq, ← t2]; rfl
        · have k3' : f_X4_sign 59 τ = some (0, stI τ 11 4 (nI q)) := k3
          obtain ⟨r1, e1, e2⟩ := no59 (fun z => k2 z.1 z.2)
          refine ⟨(0, stI τ 11 4 (nI q)), (0, ν), ?_, ?_, Or.inr ⟨s, q, _, _, rfl, rfl, rfl, Ps_no h2 x4, h3⟩⟩
          · rw [k3', Option.bind_some, uc_eq, if_pos z00]; rfl
          · rw [e1, Option.bind_some, if_neg e2, if_neg hn12, d7', Option.bind_some, uc_eq, if_neg (by decide)]; rfl
theorem ch_both {s : St} {p : Nat} {σ μ : MM} (h : Ps s p σ) (h' : Pm s p μ) (hp : p < (sX s).1) : ∃ v, v < 256 ∧ σ.1 12 p = sb_b v ∧ f_X7_sign μ = some (nI v) ∧ ∀ k, k < 128 → ((sb_b v = nI k ↔ v = k) ∧ (nI v = nI k ↔ v = k)) := by
  obtain ⟨x1, x2, x3, x4, x5⟩ := tx h
  obtain ⟨z1, z2⟩ := x5 hp
  refine ⟨(sX s).2 p, z1, z2, (sg h h').1 hp, fun k hk => ⟨?_, nI_eq_iff (by omega) (by omega)⟩⟩
  rw [fa_eq, sbT _ z1, nI_toInt (by omega)]
  split <;> omega
theorem Sm_isB {s : St} {p : Nat} {a b : Option (Int32 × MM)} (h : Sm s p a b) : Sm s p (a.bind (uc (fun r σ => chk (isB r) (some (r, σ))))) (b.bind (uc (fun r σ => chk (isB r) (some (r, σ))))) := by
  rcases h with ⟨s', q, σ', μ', h1, h2, rfl, rfl, h5, h6⟩ | ⟨s', f, σ', μ', h2, rfl, rfl, h5, h6⟩
  · exact Or.inl ⟨s', q, σ', μ', h1, h2, rfl, rfl, h5, h6⟩
  · exact Or.inr ⟨s', f, σ', μ', h2, rfl, rfl, h5, h6⟩
theorem Sm_1 {s : St} {p : Nat} {a b : Option (Int32 × MM)} (h : Sm s (p + 1) a b) : Sm s p a b := by
  rcases h with ⟨s', q, σ', μ', h1, h2⟩ | h
  · exact Or.inl ⟨s', q, σ', μ', by omega, h2⟩
  · exact Or.inr h
theorem sm_statement {s : St} {p : Nat} {σ μ : MM} (h : Ps s p σ) (h' : Pm s p μ) (hp : p < (sX s).1) : Sm s p (f_X4_readStatement σ) (f_X7_statement μ) := by
  obtain ⟨x1, x2, x3, x4, x5⟩ := tx h
  obtain ⟨v, v1, v2, v3, v4⟩ := ch_both h h' hp
  have h1 := Ps_go (q := p + 1) h (by omega)
  have h1' := Pm_go (q := p + 1) h'
  unfold f_X4_readStatement f_X7_statement
  rw [x2, chk_t (inb_nI (by omega) (by omega)), nI_c (by omega), v2, v3, Option.bind_some, h'.2, nI_1]
  have a104 := v4 104 (by omega)
  have a110 := v4 110 (by omega)
  have a112 := v4 112 (by omega)
  have a115 := v4 115 (by omega)
  have a116 := v4 116 (by omega)
  have a120 := v4 120 (by omega)
  have S104 : sb_b v = (104 : Int32) ↔ v = 104 := a104.1
  have S110 : sb_b v = (110 : Int32) ↔ v = 110 := a110.1
  have S112 : sb_b v = (112 : Int32) ↔ v = 112 := a112.1
  have S115 : sb_b v = (115 : Int32) ↔ v = 115 := a115.1
  have S116 : sb_b v = (116 : Int32) ↔ v = 116 := a116.1
  have S120 : sb_b v = (120 : Int32) ↔ v = 120 := a120.1
  have M104 : nI v = (104 : Int32) ↔ v = 104 := a104.2
  have M110 : nI v = (110 : Int32) ↔ v = 110 := a110.2
  have M112 : nI v = (112 : Int32) ↔ v = 112 := a112.2
  have M115 : nI v = (115 : Int32) ↔ v = 115 := a115.2
  have M116 : nI v = (116 : Int32) ↔ v = 116 := a116.2
  have M120 : nI v = (120 : Int32) ↔ v = 120 := a120.2
  by_cases e1 : v = 104
  · have nv : nI v = (104 : Int32) := M104.mpr e1
    rw [if_pos (S104.mpr e1), if_neg (by rw [M115]; omega), if_neg (by rw [M112]; omega), if_neg (by rw [M110]; omega), if_neg (by rw [M120]; omega), if_pos nv, lm_eq, lm_eq, if_neg (by rw [M115]; omega), if_neg (by rw [M112]; omega), nv]
    exact Sm_1 (Sm_isB (sm_h h1 h1'))
  rw [if_neg (fun q => e1 (S104.mp q))]
  by_cases e2 : v = 110
  · have nv : nI v = (110 : Int32) := M110.mpr e2
    rw [if_pos (S110.mpr e2), if_neg (by rw [M115]; omega), if_neg (by rw [M112]; omega), if_pos nv, lm_eq, lm_eq, if_neg (by rw [M115]; omega), if_neg (by rw [M112]; omega), nv]
    exact Sm_1 (Sm_isB (sm_n h1 h1'))
  rw [if_neg (fun q => e2 (S110.mp q))]
  by_cases e3 : v = 112
  · have nv : nI v = (112 : Int32) := M112.mpr e3
    rw [if_pos (S112.mpr e3), if_neg (by rw [M115]; omega), if_pos nv, lm_eq, lm_eq, if_neg (by rw [M115]; omega), if_pos nv]
    exact Sm_1 (Sm_isB (sm_people h1 h1'))
  rw [if_neg (fun q => e3 (S112.mp q))]
  by_cases e4 : v = 115
  · have nv : nI v = (115 : Int32) := M115.mpr e4
    rw [if_pos (S115.mpr e4), if_pos nv, lm_eq, lm_eq, if_pos nv]
    exact Sm_1 (Sm_isB (sm_sort h1 h1'))
  rw [if_neg (fun q => e4 (S115.mp q))]
  by_cases e5 : v = 116
  · have nv : nI v = (116 : Int32) := M116.mpr e5
    rw [if_pos (S116.mpr e5), if_neg (by rw [M115]; omega), if_neg (by rw [M112]; omega), if_neg (by rw [M110]; omega), if_neg (by rw [M120]; omega), if_neg (by rw [M104]; omega), if_pos nv, lm_eq, lm_eq, if_neg (by rw [M115]; omega), if_neg (by rw [M112]; omega), nv]
    exact Sm_1 (Sm_isB (sm_truth h1 h1'))
  rw [if_neg (fun q => e5 (S116.mp q))]
  by_cases e6 : v = 120
  · have nv : nI v = (120 : Int32) := M120.mpr e6
    rw [if_pos (S120.mpr e6), if_neg (by rw [M115]; omega), if_neg (by rw [M112]; omega), if_neg (by rw [M110]; omega), if_pos nv, lm_eq, lm_eq, if_neg (by rw [M115]; omega), if_neg (by rw [M112]; omega), nv]
    exact Sm_1 (Sm_isB (sm_strikes h1 h1'))
  rw [if_neg (fun q => e6 (S120.mp q)), if_neg (by rw [M115]; omega), if_neg (by rw [M112]; omega), if_neg (by rw [M110]; omega), if_neg (by rw [M120]; omega), if_neg (by rw [M104]; omega), if_neg (by rw [M116]; omega)]
  unfold f_X4_fault
  exact Or.inr ⟨s, p, _, _, rfl, rfl, rfl, Ps_no h x4, h'⟩
def noX (s : St) : St := (sC s, sR s, (0, (sX s).2), sI s, sF s)
theorem al_court {s : St} {σ μ : MM} (h : RelS s σ) (h' : RelM s μ) : Alike (f_X6_court σ) (f_X7_court μ) := by
  obtain ⟨⟨c0, a0, d0⟩, r1, r2, r3, r4, -⟩ := id h
  have h0 : Ps s 0 (stI σ 11 3 (nI 0)) := ⟨c0, at_11 a0, rest_11 (by decide) ⟨r1, r2, r3, r4⟩, by rw [stI_s, upd_s], Nat.zero_le _⟩
  have h0' : Pm s 0 (stI μ 0 9 (nI 0)) := Pm_go (p := 0) (q := 0) (μ := stI μ 0 9 (nI 0)) ⟨RelM_keep h' (fun p hp => by rw [stI_s, upd_n (fun e => by revert hp; rw [e]; decide)]) (fun k hk => stI_k (fun e => by revert hk; rw [e]; decide)), by rw [stI_s, upd_s]⟩ |> fun q => by
    obtain ⟨q1, q2⟩ := q
    exact ⟨RelM_keep h' (fun p hp => by rw [stI_s, upd_n (fun e => by revert hp; rw [e]; decide)]) (fun k hk => stI_k (fun e => by revert hk; rw [e]; decide)), by rw [stI_s, upd_s]⟩
  unfold f_X6_court f_X4_readInto f_X7_court
  rw [lm_eq, lm_eq]
  have hL := lp_two (step := fun t => g_X4_readInto_9 t.1 t.2.1 t.2.2) (step' := fun t => g_X7_court_9 t.1 t.2.1 t.2.2)
    (fun i t t' => (∃ s' p n, sX s' = sX s ∧ n ≤ i ∧ i ≤ p ∧ n ≤ p ∧ t.1 = nI n ∧ t'.1 = nI n ∧ t.2.1 = 1 ∧ t'.2.1 = 1 ∧ Ps s' p t.2.2 ∧ Pm s' p t'.2.2) ∨ (∃ s' f, sX s' = sX s ∧ t.2.1 = 0 ∧ t'.2.1 = 0 ∧ Fs s' f t.2.2 ∧ Pm s' f t'.2.2))
    (fun r r' => (∃ s' p n, sX s' = sX s ∧ r.1 = nI n ∧ r'.1 = nI n ∧ r.2.1 = 1 ∧ r'.2.1 = 1 ∧ Ps s' p r.2.2 ∧ Pm s' p r'.2.2) ∨ (∃ s' f, sX s' = sX s ∧ r.2.1 = 0 ∧ r'.2.1 = 0 ∧ Fs s' f r.2.2 ∧ Pm s' f r'.2.2)) 90 ?_ FU 0 ((0 : Int32), (1 : Int32), stI σ 11 3 0) ((0 : Int32), (1 : Int32), stI μ 0 9 0) (by unfold FU; omega) (by omega) (Or.inl ⟨s, 0, 0, rfl, by omega, by omega, by omega, rfl, rfl, rfl, rfl, h0, h0'⟩)
  · obtain ⟨⟨x1, x2, x3⟩, ⟨y1, y2, y3⟩, l1, l2, l3⟩ := hL
    dsimp only at l3
    rw [l1, l2, Option.bind_some, Option.bind_some, lm_eq, lm_eq]
    dsimp only
    have fin : ∀ s' : St, okC (sC s') → atS x3 1 (sC s') → restS s' x3 → RelM s' y3 → ∃ σ', f_X6_changed (stI x3 11 2 0) = some σ' ∧ RelS (noX s') σ' ∧ RelM (noX s') (stI y3 0 8 0) := by
      intro s' g1 g2 g3 g4
      have gr : restS (noX s') (stI x3 11 2 0) := by
        obtain ⟨p1, p2, p3, p4⟩ := g3
        refine ⟨p1, ⟨Nat.zero_le _, by rw [stI_s, upd_s]; rfl, fun i hi => absurd hi (Nat.not_lt_zero _)⟩, p3, p4⟩
      obtain ⟨σ', t1, t2, -⟩ := changed_S (s := noX s') g1 (at_11 g2) gr
      refine ⟨σ', t1, t2, ?_⟩
      obtain ⟨⟨m1, m2⟩, m3, m4, m5, m6, m7⟩ := g4
      exact ⟨⟨m1, m2⟩, m3, ⟨Nat.zero_le _, by rw [stI_s, upd_s]; rfl, fun i hi => absurd hi (Nat.not_lt_zero _)⟩, m5, m6, m7⟩
    rcases l3 with ⟨s', p, n, k0, k1, k2, k3, k4, k5, k6⟩ | ⟨s', f, k0, k3, k4, k5, k6⟩
    · obtain ⟨σ', t1, t2, t3⟩ := fin s' k5.1 k5.2.1 k5.2.2.1 k6.1
      refine ⟨nI n, noX s', σ', _, ?_, ?_, t2, t3⟩
      · rw [if_neg (by rw [k3]; exact n10), k1, Option.bind_some, uc_eq, t1]; rfl
      · rw [if_neg (by rw [k4]; exact n10), k2]
    · obtain ⟨σ', t1, t2, t3⟩ := fin s' k5.1 k5.2.1 k5.2.2.1 k6.1
      refine ⟨-20 - nI f, noX s', σ', _, ?_, ?_, t2, t3⟩
      · have e4 : (stI x3 11 2 0).1 11 4 = nI f := by rw [stI_s, upd_n (by decide)]; exact k5.2.2.2.1
        rw [if_pos k3, e4, Option.bind_some, uc_eq, t1]; rfl
      · have e9 : (stI y3 0 8 0).1 0 9 = nI f := by rw [stI_s, upd_n (by decide)]; exact k6.2
        rw [if_pos k4, e9]
  · rintro i ⟨x1, x2, x3⟩ ⟨y1, y2, y3⟩ hi hI
    dsimp only at hI ⊢
    unfold g_X4_readInto_9 g_X7_court_9
    rcases hI with ⟨s', p, n, k0, g1, g2, g3, rfl, rfl, rfl, rfl, k5, k6⟩ | ⟨s', f, k0, rfl, rfl, k5, k6⟩
    · obtain ⟨z1, z2, z3, z4, z5⟩ := tx k5
      have w8 : y3.1 0 8 = nI (sX s').1 := k6.1.2.2.1.2.1
      rw [if_neg n10, if_neg n10, z1, z2, w8, k6.2]
      by_cases hp : (sX s').1 ≤ p
      · left
        rw [if_pos (nI_le hp (by omega)), if_pos (nI_le hp (by omega))]
        exact ⟨_, _, rfl, rfl, Or.inl ⟨s', p, n, k0, rfl, rfl, rfl, rfl, k5, k6⟩⟩
      · right
        refine ⟨by omega, ?_⟩
        have c80 : ¬ (80 : Int32) ≤ nI n := nI_ge (b := 80) (by omega) (by omega)
        rw [if_neg (nI_ge (by omega) (by omega)), if_neg (nI_ge (by omega) (by omega)), if_neg c80]
        rcases sm_statement k5 k6 (by omega) with ⟨s2, q, σ', μ', j1, j2, j3, j4, j5, j6⟩ | ⟨s2, f, σ', μ', j2, j3, j4, j5, j6⟩
        · rw [j3, j4, Option.bind_some, uc_eq, Option.bind_some, uc_eq, if_neg n10, nI_1]
          exact ⟨_, _, rfl, rfl, Or.inl ⟨s2, q, n + 1, by rw [j2, k0], by omega, by omega, by omega, rfl, rfl, rfl, rfl, j5, j6⟩⟩
        · rw [j3, j4, Option.bind_some, uc_eq, Option.bind_some, uc_eq, if_pos z00]
          exact ⟨_, _, rfl, rfl, Or.inr ⟨s2, f, by rw [j2, k0], rfl, rfl, j5, j6⟩⟩
    · left
      rw [if_pos z00, if_pos z00]
      exact ⟨_, _, rfl, rfl, Or.inr ⟨s', f, k0, rfl, rfl, k5, k6⟩⟩
