/-! loops of the pure functions -/
theorem lp_inv {S T : Type} {step : S → Option (S ⊕ T)} (I : Nat → S → Prop) (Q : T → Prop) (e : Nat)
    (hs : ∀ i s, i < e → I i s → ∃ s', step s = some (.inl s') ∧ I (i + 1) s')
    (he : ∀ s, I e s → ∃ r, step s = some (.inr r) ∧ Q r) :
    ∀ n i s, i ≤ e → e - i < n → I i s → ∃ r, loopN step n s = some r ∧ Q r := by
  intro n
  induction n with
  | zero => intro i s _ h; omega
  | succ n ih =>
    intro i s hi hn hI
    by_cases h : i < e
    · obtain ⟨s', h1, h2⟩ := hs i s h hI
      obtain ⟨r, h3, h4⟩ := ih (i + 1) s' h (by omega) h2
      exact ⟨r, by show (step s).bind _ = _; rw [h1]; exact h3, h4⟩
    · have he' : i = e := by omega
      subst he'
      obtain ⟨r, h1, h2⟩ := he s hI
      exact ⟨r, by show (step s).bind _ = _; rw [h1]; rfl, h2⟩
theorem lp_mu {S T : Type} {step : S → Option (S ⊕ T)} (I : S → Prop) (Q : T → Prop) (μ : S → Nat)
    (h : ∀ s, I s → (∃ r, step s = some (.inr r) ∧ Q r) ∨ ∃ s', step s = some (.inl s') ∧ I s' ∧ μ s' < μ s) :
    ∀ n s, I s → μ s < n → ∃ r, loopN step n s = some r ∧ Q r := by
  intro n
  induction n with
  | zero => intro s _ h; omega
  | succ n ih =>
    intro s hI hn
    rcases h s hI with ⟨r, h1, h2⟩ | ⟨s', h1, h2, h3⟩
    · exact ⟨r, by show (step s).bind _ = _; rw [h1]; rfl, h2⟩
    · obtain ⟨r, h4, h5⟩ := ih s' h2 (by omega)
      exact ⟨r, by show (step s).bind _ = _; rw [h1]; exact h4, h5⟩
/-- from 0, with the loops' fuel -/
theorem lp_0 {S T : Type} {step : S → Option (S ⊕ T)} (I : Nat → S → Prop) (Q : T → Prop) (e : Nat) (s : S) (hle : e < 5000) (h0 : I 0 s)
    (hs : ∀ i s, i < e → I i s → ∃ s', step s = some (.inl s') ∧ I (i + 1) s')
    (he : ∀ s, I e s → ∃ r, step s = some (.inr r) ∧ Q r) : ∃ r, loopN step FU s = some r ∧ Q r :=
  lp_inv I Q e hs he FU 0 s (Nat.zero_le e) (by unfold FU; omega) h0
theorem lp_m {S T : Type} {step : S → Option (S ⊕ T)} (I : S → Prop) (Q : T → Prop) (μ : S → Nat) (s : S) (hle : μ s < 5000) (h0 : I s)
    (h : ∀ s, I s → (∃ r, step s = some (.inr r) ∧ Q r) ∨ ∃ s', step s = some (.inl s') ∧ I s' ∧ μ s' < μ s) : ∃ r, loopN step FU s = some r ∧ Q r :=
  lp_mu I Q μ h FU s h0 hle
/-! memory -/
theorem chk_t {α : Type} {b : Bool} {x : Option α} (h : b = true) : chk b x = x := by unfold chk; rw [if_pos h]
theorem chk_tt {α : Type} {x : Option α} : chk true x = x := rfl
theorem lm_eq {α β : Type} (s : α) (F : α → β) : lm s F = F s := rfl
theorem uc_eq {α β γ : Type} (F : α → β → γ) (a : α) (b : β) : uc F (a, b) = F a b := rfl
theorem isB_0 : isB 0 = true := rfl
theorem isB_1 : isB 1 = true := rfl
theorem inb_nI {j N : Nat} (h : j < N) (hN : N ≤ 2147483648) : inb (nI j) N = true := by
  unfold inb
  rw [nI_clamp (by omega)]
  simp only [Bool.and_eq_true, Bool.not_eq_true', decide_eq_false_iff_not, decide_eq_true_eq]
  exact ⟨nI_pos (by omega), h⟩
theorem stI_k {σ : MM} {k i : Nat} {x : Int32} {k' : Nat} (h : k' ≠ k) : (stI σ k i x).1 k' = σ.1 k' := if_neg h
theorem stI_s {σ : MM} {k i : Nat} {x : Int32} : (stI σ k i x).1 k = upd (σ.1 k) i x := if_pos rfl
theorem stI_2 {σ : MM} {k i : Nat} {x : Int32} : (stI σ k i x).2 = σ.2 := rfl
theorem stL_k {σ : MM} {k i : Nat} {x : Int64} {k' : Nat} (h : k' ≠ k) : (stL σ k i x).2 k' = σ.2 k' := if_neg h
theorem stL_s {σ : MM} {k i : Nat} {x : Int64} : (stL σ k i x).2 k = vp_updL (σ.2 k) i x := if_pos rfl
theorem stL_1 {σ : MM} {k i : Nat} {x : Int64} : (stL σ k i x).1 = σ.1 := rfl
theorem stC_k {σ : MM} {k : Nat} {f : Nat → Int32} {k' : Nat} (h : k' ≠ k) : (stC σ k f).1 k' = σ.1 k' := if_neg h
theorem stC_s {σ : MM} {k : Nat} {f : Nat → Int32} : (stC σ k f).1 k = f := if_pos rfl
theorem stC_2 {σ : MM} {k : Nat} {f : Nat → Int32} : (stC σ k f).2 = σ.2 := rfl
theorem upd_s {f : Nat → Int32} {i : Nat} {x : Int32} : upd f i x i = x := if_pos rfl
theorem upd_n {f : Nat → Int32} {i j : Nat} {x : Int32} (h : j ≠ i) : upd f i x j = f j := if_neg h
theorem updL_s {f : Nat → Int64} {i : Nat} {x : Int64} : vp_updL f i x i = x := if_pos rfl
theorem updL_n {f : Nat → Int64} {i j : Nat} {x : Int64} (h : j ≠ i) : vp_updL f i x j = f j := if_neg h
/-- the same but for some regions -/
def sx (ks : List Nat) (σ σ' : MM) : Prop := ∀ k, k ∉ ks → σ'.1 k = σ.1 k ∧ σ'.2 k = σ.2 k
theorem sx_rf {ks : List Nat} {σ : MM} : sx ks σ σ := fun _ _ => ⟨rfl, rfl⟩
theorem sx_tr {ks : List Nat} {σ σ' σ'' : MM} (h : sx ks σ σ') (h' : sx ks σ' σ'') : sx ks σ σ'' := fun k hk => ⟨(h' k hk).1.trans (h k hk).1, (h' k hk).2.trans (h k hk).2⟩
theorem sx_I {ks : List Nat} {σ : MM} {k i : Nat} {x : Int32} (h : k ∈ ks) : sx ks σ (stI σ k i x) := fun j hj => ⟨stI_k (fun e => hj (by rw [e]; exact h)), rfl⟩
theorem sx_L {ks : List Nat} {σ : MM} {k i : Nat} {x : Int64} (h : k ∈ ks) : sx ks σ (stL σ k i x) := fun j hj => ⟨rfl, stL_k (fun e => hj (by rw [e]; exact h))⟩
theorem sx_C {ks : List Nat} {σ : MM} {k : Nat} {f : Nat → Int32} (h : k ∈ ks) : sx ks σ (stC σ k f) := fun j hj => ⟨stC_k (fun e => hj (by rw [e]; exact h)), rfl⟩
theorem sx_mono {ks ls : List Nat} {σ σ' : MM} (h : sx ks σ σ') (hs : ∀ k, k ∈ ks → k ∈ ls) : sx ls σ σ' := fun k hk => h k (fun q => hk (hs k q))
/-! numbers -/
theorem nI_lit (n : Nat) : (OfNat.ofNat n : Int32) = nI n := fa_lit n
theorem nI_le_iff {a b : Nat} (ha : a < 2147483648) (hb : b < 2147483648) : nI a ≤ nI b ↔ a ≤ b := nI_leI ha hb
theorem nI_lt_iff {a b : Nat} (ha : a < 2147483648) (hb : b < 2147483648) : nI a < nI b ↔ a < b := nI_ltI ha hb
theorem nI_eq_iff {a b : Nat} (ha : a < 2147483648) (hb : b < 2147483648) : nI a = nI b ↔ a = b := nI_eq ha hb
theorem nI_c {n : Nat} (h : n < 2147483648) : (nI n).toNatClampNeg = n := nI_clamp h
theorem nI_sub1 {n : Nat} (h : 0 < n) : nI n - 1 = nI (n - 1) := by
  have h2 := pk_sub (a := n) (b := 1) h
  exact h2
theorem ix {x : Int32} (n : Nat) (hn : n < 2147483648) (h1 : ¬ x < 0) (h2 : ¬ nI n ≤ x) : ∃ j, j < n ∧ x = nI j := by
  rcases pk_ix x (n := n) hn with h | h | h
  · exact absurd h h1
  · exact absurd h h2
  · exact h
theorem ix2 {x : Int32} (n : Nat) (hn : n + 1 < 2147483648) (h1 : ¬ x < 0) (h2 : ¬ nI n < x) : ∃ j, j ≤ n ∧ x = nI j := by
  obtain ⟨j, hj, rfl⟩ := ix (x := x) (n + 1) hn h1 (fun q => h2 (by
    rw [fa_lt]; rw [fa_le] at q; rw [nI_toInt (by omega)] at q ⊢; omega))
  exact ⟨j, by omega, rfl⟩
theorem ge0 {x : Int32} : 0 ≤ x ↔ ¬ x < 0 := by rw [fa_le, fa_lt]; show (0 : Int) ≤ _ ↔ ¬ _ < (0 : Int); omega
theorem nle {x y : Int32} : x ≤ y ↔ ¬ y < x := by rw [fa_le, fa_lt]; omega
/-! the court as a mathematical thing -/
abbrev Cr : Type := Nat × (Nat → Nat) × (Nat → Nat) × (Nat → Nat) × (Nat → Nat)
def cP (c : Cr) : Nat := c.1
def cK (c : Cr) : Nat → Nat := c.2.1
def cS (c : Cr) : Nat → Nat := c.2.2.1
def cL (c : Cr) : Nat → Nat := c.2.2.2.1
def cM (c : Cr) : Nat → Nat := c.2.2.2.2
def loK (k : Nat) : Nat := if k = 0 then 1 else 0
def hiK (k : Nat) : Nat := if k = 0 then 7 else if k = 1 then 3 else if k = 2 then 3 else if k = 3 then 1 else 100
theorem loK_eq {k : Nat} : tLeast k = nI (loK k) := by
  unfold tLeast loK
  by_cases h : k = 0
  · rw [if_pos h, if_pos h]; rfl
  · rw [if_neg h, if_neg h]; rfl
theorem hiK_eq {k : Nat} : tMost k = nI (hiK k) := by
  unfold tMost hiK
  by_cases h : k = 0
  · rw [if_pos h, if_pos h]; rfl
  rw [if_neg h, if_neg h]
  by_cases h : k = 1
  · rw [if_pos h, if_pos h]; rfl
  rw [if_neg h, if_neg h]
  by_cases h : k = 2
  · rw [if_pos h, if_pos h]; rfl
  rw [if_neg h, if_neg h]
  by_cases h : k = 3
  · rw [if_pos h, if_pos h]; rfl
  rw [if_neg h, if_neg h]; rfl
theorem hiK_le (k : Nat) : hiK k ≤ 100 := by unfold hiK; repeat' split <;> try omega
def okC (c : Cr) : Prop := cP c ≤ 12 ∧ (∀ k, k < 5 → loK k ≤ cK c k ∧ cK c k ≤ hiK k) ∧ (∀ i, i < cP c → cS c i < 6) ∧ ∀ i, i < 6 → cL c i ≤ 100 ∧ cM c i ≤ 100
def atS (σ : MM) (b : Nat) (c : Cr) : Prop := σ.1 b 4 = nI (cP c) ∧ (∀ i, i < 6 → σ.1 (b + 1) i = nI (cL c i) ∧ σ.1 (b + 2) i = nI (cM c i)) ∧ (∀ i, i < cP c → σ.1 (b + 3) i = nI (cS c i)) ∧ ∀ k, k < 5 → σ.1 (b + 4) k = nI (cK c k)
def atR (μ : MM) (c : Cr) : Prop := μ.1 0 6 = nI (cP c) ∧ (∀ i, i < 6 → μ.1 2 (2 * i) = nI (cL c i) ∧ μ.1 2 (2 * i + 1) = nI (cM c i)) ∧ (∀ i, i < cP c → μ.1 3 i = nI (cS c i)) ∧ ∀ k, k < 5 → μ.1 4 k = nI (cK c k)
def atK (μ : MM) (c : Cr) : Prop := μ.1 0 35 = nI (cP c) ∧ (∀ i, i < 6 → μ.1 20 (2 * i) = nI (cL c i) ∧ μ.1 20 (2 * i + 1) = nI (cM c i)) ∧ (∀ i, i < cP c → μ.1 20 (12 + i) = nI (cS c i)) ∧ ∀ k, k < 5 → μ.1 20 (24 + k) = nI (cK c k)
/-- what somebody holds of the people: how many, needed, how, truth, leans -/
abbrev Mi : Type := Nat × Nat × Nat × Nat × (Nat → Nat) × (Nat → Nat)
def mP (m : Mi) : Nat := m.1
def mN (m : Mi) : Nat := m.2.1
def mH (m : Mi) : Nat := m.2.2.1
def mT (m : Mi) : Nat := m.2.2.2.1
def mF (m : Mi) : Nat → Nat := m.2.2.2.2.1
def mG (m : Mi) : Nat → Nat := m.2.2.2.2.2
def mOf (c : Cr) : Mi := (cP c, cK c 0, cK c 3, cK c 4, fun i => cL c (cS c i), fun i => cM c (cS c i))
def okM (m : Mi) : Prop := mP m ≤ 12 ∧ (1 ≤ mN m ∧ mN m ≤ 7) ∧ mH m ≤ 1 ∧ mT m ≤ 100 ∧ ∀ i, i < mP m → mF m i ≤ 100 ∧ mG m i ≤ 100
theorem okM_of {c : Cr} (h : okC c) : okM (mOf c) := by
  obtain ⟨h1, h2, h3, h4⟩ := h
  refine ⟨h1, h2 0 (by decide), (h2 3 (by decide)).2, (h2 4 (by decide)).2, fun i hi => h4 _ (h3 i hi)⟩
def mdAt (σ : MM) (b : Nat) (m : Mi) : Prop := σ.1 b 4 = nI (mN m) ∧ σ.1 b 5 = nI (mH m) ∧ σ.1 b 6 = nI (mT m) ∧ ∀ i, i < mP m → σ.1 (b + 1) i = nI (mF m i) ∧ σ.1 (b + 2) i = nI (mG m i)
theorem atS_sx {ks : List Nat} {σ σ' : MM} {b : Nat} {c : Cr} (h : atS σ b c) (hx : sx ks σ σ') (h0 : b ∉ ks) (h1 : b + 1 ∉ ks) (h2 : b + 2 ∉ ks) (h3 : b + 3 ∉ ks) (h4 : b + 4 ∉ ks) : atS σ' b c := by
  unfold atS
  rw [(hx b h0).1, (hx _ h1).1, (hx _ h2).1, (hx _ h3).1, (hx _ h4).1]
  exact h
theorem mdAt_sx {ks : List Nat} {σ σ' : MM} {b : Nat} {m : Mi} (h : mdAt σ b m) (hx : sx ks σ σ') (h0 : b ∉ ks) (h1 : b + 1 ∉ ks) (h2 : b + 2 ∉ ks) : mdAt σ' b m := by
  unfold mdAt
  rw [(hx b h0).1, (hx _ h1).1, (hx _ h2).1]
  exact h
theorem ib_0_8 : inb (0 : Int32) 8 = true := rfl
theorem ib_0_5 : inb (0 : Int32) 5 = true := rfl
theorem ib_1_5 : inb (1 : Int32) 5 = true := rfl
theorem ib_2_5 : inb (2 : Int32) 5 = true := rfl
theorem ib_3_5 : inb (3 : Int32) 5 = true := rfl
theorem ib_4_5 : inb (4 : Int32) 5 = true := rfl
theorem ib_0_7 : inb (0 : Int32) 7 = true := rfl
theorem ib_0_220 : inb (0 : Int32) 220 = true := rfl
theorem ib_0_6 : inb (0 : Int32) 6 = true := rfl
theorem ndz_2 : (!(decide ((2 : Int32) = 0))) = true := rfl
theorem ndz_6 : (!(decide ((6 : Int32) = 0))) = true := rfl
theorem ndz_10 : (!(decide ((10 : Int32) = 0))) = true := rfl
theorem ndz_4096 : (!(decide ((4096 : Int32) = 0))) = true := rfl
theorem tn_0 : (0 : Int32).toNatClampNeg = 0 := rfl
theorem tn_1 : (1 : Int32).toNatClampNeg = 1 := rfl
theorem tn_2 : (2 : Int32).toNatClampNeg = 2 := rfl
theorem tn_3 : (3 : Int32).toNatClampNeg = 3 := rfl
theorem tn_4 : (4 : Int32).toNatClampNeg = 4 := rfl
theorem tn_5 : (5 : Int32).toNatClampNeg = 5 := rfl
theorem tn_6 : (6 : Int32).toNatClampNeg = 6 := rfl
theorem tn_7 : (7 : Int32).toNatClampNeg = 7 := rfl
theorem tn_8 : (8 : Int32).toNatClampNeg = 8 := rfl
theorem tn_9 : (9 : Int32).toNatClampNeg = 9 := rfl
theorem tn_10 : (10 : Int32).toNatClampNeg = 10 := rfl
theorem tn_11 : (11 : Int32).toNatClampNeg = 11 := rfl
theorem tn_12 : (12 : Int32).toNatClampNeg = 12 := rfl
