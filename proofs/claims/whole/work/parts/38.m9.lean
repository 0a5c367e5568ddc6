/-! what is called; papers; who comes: the words of the specification -/
def call (c : Cr) : Nat := cK c 0 + cK c 1 + cK c 2
def enough (c : Cr) : Prop := call c ≤ cP c
def full (c : Cr) : Nat := 2 ^ call c - 1
def dif (S T : Nat) : Nat := S ^^^ (S &&& T)
/-- the first n of a set -/
def frs (S n : Nat) : Nat → Nat
  | 0 => 0
  | p + 1 => if S.testBit p = true ∧ cnt S p < n then frs S n p + 2 ^ p else frs S n p
/-- all sets of k among the numbers up to F -/
def setsOf (F k : Nat) : List Nat := (List.range (F + 1)).filter (fun S => decide (cnt S 12 = k))
def PJ (m : Mi) (F A B : Nat) : Nat := frs (dif F (A ||| B)) (mN m) 12
def PV (m : Mi) (F A B : Nat) : Nat := CH m (PJ m F A B)
def restP (m : Mi) (F : Nat) (LA LB : List Nat) (A B : Nat) : Prop := (∀ A', A' ∈ LA → PV m F A' B ≤ PV m F A B) ∧ ∀ B', B' ∈ LB → PV m F A B ≤ PV m F A B'
def restB (m : Mi) (F : Nat) (LA LB : List Nat) (A B : Nat) : Bool := LA.all (fun A' => decide (PV m F A' B ≤ PV m F A B)) && LB.all (fun B' => decide (PV m F A B ≤ PV m F A B'))
def GA (m : Mi) (F : Nat) (LA LB : List Nat) : List Nat := LA.filter (fun A => LB.any (fun B => restB m F LA LB A B))
def GB (m : Mi) (F : Nat) (LA LB : List Nat) : List Nat := LB.filter (fun B => LA.any (fun A => restB m F LA LB A B))
/-- as they come: r are still to come, S are seated, A has struck x: the jury, what is kept back -/
def CE (m : Mi) (cl a b : Nat) : Nat → Nat → Nat → Nat × Nat × Nat
  | 0, S, x => (S, a - x, b - (cl - cnt S 12 - x))
  | r + 1, S, x =>
    if cnt S 12 = mN m then (S, a - x, b - (cl - (r + 1) - cnt S 12 - x))
    else if cl - (r + 1) - cnt S 12 = a + b then (S ||| dif (2 ^ cl - 1) (2 ^ (cl - (r + 1)) - 1), 0, 0)
    else
      let b1 := CE m cl a b r (S ||| 2 ^ (cl - (r + 1))) x
      let b2 := if cl - (r + 1) - cnt S 12 - x < b ∧ CH m (CE m cl a b r S x).1 < CH m b1.1 then CE m cl a b r S x else b1
      if x < a ∧ CH m b2.1 < CH m (CE m cl a b r S (x + 1)).1 then CE m cl a b r S (x + 1) else b2
def ceOf (c : Cr) : Nat × Nat × Nat := CE (mOf c) (call c) (cK c 1) (cK c 2) (call c) 0 0
/-! the two states -/
abbrev St : Type := Cr × (Nat × (Nat → Nat)) × (Nat × (Nat → Nat)) × (Nat × Cr) × (Nat → Int32)
def sC (s : St) : Cr := s.1
def sR (s : St) : Nat × (Nat → Nat) := s.2.1
def sX (s : St) : Nat × (Nat → Nat) := s.2.2.1
def sI (s : St) : Nat × Cr := s.2.2.2.1
def sF (s : St) : Nat → Int32 := s.2.2.2.2
def rowS (σ : MM) (r : Nat × (Nat → Nat)) : Prop := r.1 ≤ 6 ∧ σ.1 0 5 = nI r.1 ∧ ∀ i, i < r.1 → r.2 i < 12 ∧ σ.1 14 i = nI (r.2 i)
def txtS (σ : MM) (x : Nat × (Nat → Nat)) : Prop := x.1 ≤ 80 ∧ σ.1 11 2 = nI x.1 ∧ ∀ i, i < x.1 → x.2 i < 256 ∧ σ.1 12 i = sb_b (x.2 i)
def refS (σ : MM) (f : Nat → Int32) : Prop := ∀ k, k < 7 → σ.1 15 k = f k
def imgS (σ : MM) (i : Nat × Cr) : Prop := (i.1 = 0 ∧ σ.1 0 2 = 0) ∨ (i.1 = 1 ∧ σ.1 0 2 = 1 ∧ okC i.2 ∧ atS σ 6 i.2)
def tnC (σ : MM) (c : Cr) : Prop := enough c ∧ tnOK σ 42 (mOf c) (full c) (cK c 1) (cK c 2) 0
def ppC (σ : MM) (c : Cr) : Prop := enough c ∧ σ.1 50 6 = nI (GA (mOf c) (full c) (setsOf (full c) (cK c 1)) (setsOf (full c) (cK c 2))).length ∧ σ.1 50 7 = nI (GB (mOf c) (full c) (setsOf (full c) (cK c 1)) (setsOf (full c) (cK c 2))).length ∧
  (∀ i A, (GA (mOf c) (full c) (setsOf (full c) (cK c 1)) (setsOf (full c) (cK c 2)))[i]? = some A → σ.1 51 i = nI A) ∧ ∀ i B, (GB (mOf c) (full c) (setsOf (full c) (cK c 1)) (setsOf (full c) (cK c 2)))[i]? = some B → σ.1 52 i = nI B
def cmC (σ : MM) (c : Cr) : Prop := tnC σ c ∧ σ.1 55 6 = nI ((ceOf c).1 + 4096 * (ceOf c).2.1 + 16384 * (ceOf c).2.2)
def kn (σ : MM) (p : Nat) (P : Prop) : Prop := σ.1 0 p = 0 ∨ (σ.1 0 p = 1 ∧ P)
def RelS (s : St) (σ : MM) : Prop := (okC (sC s) ∧ atS σ 1 (sC s) ∧ mdAt σ 16 (mOf (sC s))) ∧ rowS σ (sR s) ∧ txtS σ (sX s) ∧ refS σ (sF s) ∧ imgS σ (sI s) ∧ kn σ 13 (tnC σ (sC s)) ∧ kn σ 14 (ppC σ (sC s)) ∧ kn σ 15 (cmC σ (sC s))
def rowM (μ : MM) (r : Nat × (Nat → Nat)) : Prop := r.1 ≤ 6 ∧ μ.1 0 19 = nI r.1 ∧ ∀ i, i < r.1 → r.2 i < 12 ∧ μ.1 14 i = nI (r.2 i)
def txtM (μ : MM) (x : Nat × (Nat → Nat)) : Prop := x.1 ≤ 80 ∧ μ.1 0 8 = nI x.1 ∧ ∀ i, i < x.1 → x.2 i < 256 ∧ μ.1 7 i = nI (x.2 i)
def refM (μ : MM) (f : Nat → Int32) : Prop := ∀ k, k < 7 → μ.1 1 k = f k
def imgM (μ : MM) (i : Nat × Cr) : Prop := (i.1 = 0 ∧ μ.1 0 34 = 0) ∨ (i.1 = 1 ∧ μ.1 0 34 = 1 ∧ okC i.2 ∧ atK μ i.2)
def RelM (s : St) (μ : MM) : Prop := (okC (sC s) ∧ atR μ (sC s)) ∧ rowM μ (sR s) ∧ txtM μ (sX s) ∧ refM μ (sF s) ∧ imgM μ (sI s) ∧ ∀ k, k < 5 → μ.1 5 k = nI (loK k) ∧ μ.1 6 k = nI (hiK k)
/-! what doesn't touch what: fields of the objects at 0 that stay, regions that stay -/
theorem RelS_keep {s : St} {σ σ' : MM} (h : RelS s σ) (h0 : σ'.1 0 = σ.1 0) (hr : ∀ k, k ∈ [1, 2, 3, 4, 5, 6, 7, 8, 9, 10, 11, 12, 14, 15, 16, 17, 18, 42, 50, 51, 52, 55] → σ'.1 k = σ.1 k) (hv : σ'.2 45 = σ.2 45) : RelS s σ' := by
  unfold RelS kn rowS txtS refS imgS cmC tnC ppC tnOK mdAt atS at *
  simp only [Nat.reduceAdd] at *
  rw [h0, hr 1 (by decide), hr 2 (by decide), hr 3 (by decide), hr 4 (by decide), hr 5 (by decide), hr 6 (by decide), hr 7 (by decide), hr 8 (by decide), hr 9 (by decide), hr 10 (by decide), hr 11 (by decide), hr 12 (by decide), hr 14 (by decide), hr 15 (by decide), hr 16 (by decide), hr 17 (by decide), hr 18 (by decide), hr 42 (by decide), hr 50 (by decide), hr 51 (by decide), hr 52 (by decide), hr 55 (by decide), hv]
  exact h
theorem RelM_keep {s : St} {μ μ' : MM} (h : RelM s μ) (h0 : ∀ p, p ∈ [6, 8, 19, 34, 35] → μ'.1 0 p = μ.1 0 p) (hr : ∀ k, k ∈ [1, 2, 3, 4, 5, 6, 7, 14, 20] → μ'.1 k = μ.1 k) : RelM s μ' := by
  unfold RelM rowM txtM refM imgM atR atK at *
  rw [h0 6 (by decide), h0 8 (by decide), h0 19 (by decide), h0 34 (by decide), h0 35 (by decide), hr 1 (by decide), hr 2 (by decide), hr 3 (by decide), hr 4 (by decide), hr 5 (by decide), hr 6 (by decide), hr 7 (by decide), hr 14 (by decide), hr 20 (by decide)]
  exact h
/-! refusals -/
def noS (k : Nat) (s : St) : St := (sC s, sR s, sX s, sI s, upd (sF s) k (sF s k + 1))
theorem RelS_no {s : St} {σ : MM} {k : Nat} (hk : k < 7) (h : RelS s σ) : RelS (noS k s) (stI σ 15 k (σ.1 15 k + 1)) := by
  obtain ⟨h1, h2, h3, h4, h5, h6, h7, h8⟩ := h
  refine ⟨h1, h2, h3, fun j hj => ?_, h5, h6, h7, h8⟩
  rw [stI_s]
  show upd (σ.1 15) k _ j = upd (sF s) k _ j
  by_cases e : j = k
  · rw [e, upd_s, upd_s, h4 k hk]
  · rw [upd_n e, upd_n e]; exact h4 j hj
theorem RelM_no {s : St} {μ : MM} {k : Nat} (hk : k < 7) (h : RelM s μ) : RelM (noS k s) (stI μ 1 k (μ.1 1 k + 1)) := by
  obtain ⟨h1, h2, h3, h4, h5, h6⟩ := h
  refine ⟨h1, h2, h3, fun j hj => ?_, h5, h6⟩
  rw [stI_s]
  show upd (μ.1 1) k _ j = upd (sF s) k _ j
  by_cases e : j = k
  · rw [e, upd_s, upd_s, h4 k hk]
  · rw [upd_n e, upd_n e]; exact h4 j hj
theorem rf1 (σ : MM) : f_X6_refuse (-1) σ = some (-1, stI σ 15 1 (σ.1 15 1 + 1)) := rfl
theorem rf2 (σ : MM) : f_X6_refuse (-2) σ = some (-2, stI σ 15 2 (σ.1 15 2 + 1)) := rfl
theorem rf3 (σ : MM) : f_X6_refuse (-3) σ = some (-3, stI σ 15 3 (σ.1 15 3 + 1)) := rfl
theorem rf4 (σ : MM) : f_X6_refuse (-4) σ = some (-4, stI σ 15 4 (σ.1 15 4 + 1)) := rfl
theorem rf6 (σ : MM) : f_X6_refuse (-6) σ = some (-6, stI σ 15 6 (σ.1 15 6 + 1)) := rfl
theorem rm1 (σ : MM) : f_X7_no (-1) σ = some (-1, stI σ 1 1 (σ.1 1 1 + 1)) := rfl
theorem rm2 (σ : MM) : f_X7_no (-2) σ = some (-2, stI σ 1 2 (σ.1 1 2 + 1)) := rfl
theorem rm3 (σ : MM) : f_X7_no (-3) σ = some (-3, stI σ 1 3 (σ.1 1 3 + 1)) := rfl
theorem rm4 (σ : MM) : f_X7_no (-4) σ = some (-4, stI σ 1 4 (σ.1 1 4 + 1)) := rfl
theorem rm6 (σ : MM) : f_X7_no (-6) σ = some (-6, stI σ 1 6 (σ.1 1 6 + 1)) := rfl
def rfL (k : Int32) : Int64 := k.toInt64 - 4000000000000000000
theorem rl1 (σ : MM) : f_X6_refuseLong (-1) σ = some (rfL (-1), stI σ 15 1 (σ.1 15 1 + 1)) := by unfold f_X6_refuseLong; rw [rf1]; rfl
theorem rl2 (σ : MM) : f_X6_refuseLong (-2) σ = some (rfL (-2), stI σ 15 2 (σ.1 15 2 + 1)) := by unfold f_X6_refuseLong; rw [rf2]; rfl
theorem rl3 (σ : MM) : f_X6_refuseLong (-3) σ = some (rfL (-3), stI σ 15 3 (σ.1 15 3 + 1)) := by unfold f_X6_refuseLong; rw [rf3]; rfl
theorem rl4 (σ : MM) : f_X6_refuseLong (-4) σ = some (rfL (-4), stI σ 15 4 (σ.1 15 4 + 1)) := by unfold f_X6_refuseLong; rw [rf4]; rfl
theorem rl6 (σ : MM) : f_X6_refuseLong (-6) σ = some (rfL (-6), stI σ 15 6 (σ.1 15 6 + 1)) := by unfold f_X6_refuseLong; rw [rf6]; rfl
theorem ml1 (σ : MM) : f_X7_noLong (-1) σ = some (rfL (-1), stI σ 1 1 (σ.1 1 1 + 1)) := by
  unfold f_X7_noLong
  rw [show inb (-(-1 : Int32)) 7 = true from rfl, chk_tt, chk_tt, lm_eq, show (-(-1 : Int32)).toNatClampNeg = 1 from rfl]
  rfl
theorem ml2 (σ : MM) : f_X7_noLong (-2) σ = some (rfL (-2), stI σ 1 2 (σ.1 1 2 + 1)) := by
  unfold f_X7_noLong
  rw [show inb (-(-2 : Int32)) 7 = true from rfl, chk_tt, chk_tt, lm_eq, show (-(-2 : Int32)).toNatClampNeg = 2 from rfl]
  rfl
theorem ml3 (σ : MM) : f_X7_noLong (-3) σ = some (rfL (-3), stI σ 1 3 (σ.1 1 3 + 1)) := by
  unfold f_X7_noLong
  rw [show inb (-(-3 : Int32)) 7 = true from rfl, chk_tt, chk_tt, lm_eq, show (-(-3 : Int32)).toNatClampNeg = 3 from rfl]
  rfl
theorem ml4 (σ : MM) : f_X7_noLong (-4) σ = some (rfL (-4), stI σ 1 4 (σ.1 1 4 + 1)) := by
  unfold f_X7_noLong
  rw [show inb (-(-4 : Int32)) 7 = true from rfl, chk_tt, chk_tt, lm_eq, show (-(-4 : Int32)).toNatClampNeg = 4 from rfl]
  rfl
theorem ml6 (σ : MM) : f_X7_noLong (-6) σ = some (rfL (-6), stI σ 1 6 (σ.1 1 6 + 1)) := by
  unfold f_X7_noLong
  rw [show inb (-(-6 : Int32)) 7 = true from rfl, chk_tt, chk_tt, lm_eq, show (-(-6 : Int32)).toNatClampNeg = 6 from rfl]
  rfl
/-- what is to be shown of a call: both answer alike, and go on alike -/
def Alike {α : Type} (a b : Option (α × MM)) : Prop := ∃ (r : α) (s' : St) (σ' μ' : MM), a = some (r, σ') ∧ b = some (r, μ') ∧ RelS s' σ' ∧ RelM s' μ'
theorem alike_no {α : Type} {s : St} {σ μ : MM} {a b : Option (α × MM)} {r : α} (k : Nat) (hk : k < 7) (h : RelS s σ) (h' : RelM s μ) (ha : a = some (r, stI σ 15 k (σ.1 15 k + 1))) (hb : b = some (r, stI μ 1 k (μ.1 1 k + 1))) : Alike a b :=
  ⟨r, noS k s, _, _, ha, hb, RelS_no hk h, RelM_no hk h'⟩
/-! Minds.take, changed -/
theorem take_S {b : Nat} {c : Cr} {σ : MM} (hb : isMd b) (hc : okC c) (ha : atS σ 1 c) : ∃ σ', f_X2_take b σ = some σ' ∧ (∀ k, k ≠ b → k ≠ b + 1 → k ≠ b + 2 → σ'.1 k = σ.1 k) ∧ σ'.2 = σ.2 ∧ mdAt σ' b (mOf c) := by
  have hb' : 16 ≤ b := by unfold isMd at hb; omega
  obtain ⟨c1, c2, c3, c4⟩ := hc
  obtain ⟨a1, a2, a3, a4⟩ := ha
  unfold f_X2_take
  have h := lp_0 (step := fun s => g_X2_take_2 b s.1 s.2) (fun i s => s.1 = nI i ∧ (∀ k, k ≠ b + 1 → k ≠ b + 2 → s.2.1 k = σ.1 k) ∧ s.2.2 = σ.2 ∧ ∀ j, j < i → s.2.1 (b + 1) j = nI (cL c (cS c j)) ∧ s.2.1 (b + 2) j = nI (cM c (cS c j)))
    (fun r => (∀ k, k ≠ b + 1 → k ≠ b + 2 → r.1 k = σ.1 k) ∧ r.2 = σ.2 ∧ ∀ j, j < cP c → r.1 (b + 1) j = nI (cL c (cS c j)) ∧ r.1 (b + 2) j = nI (cM c (cS c j))) (cP c) ((0 : Int32), σ) (by omega) ⟨rfl, fun _ _ _ => rfl, rfl, fun j hj => by omega⟩ ?_ ?_
  · obtain ⟨τ, t1, t2, t3, t4⟩ := h
    rw [t1, Option.bind_some]
    have e5 : τ.1 5 = σ.1 5 := t2 5 (by omega) (by omega)
    have hneed : f_X0_needed τ = some (nI (cK c 0)) := by
      unfold f_X0_needed
      rw [chk_t ib_0_5, tn_0, e5]
      exact congrArg some (a4 0 (by decide))
    have e53 : τ.1 5 3 = nI (cK c 3) := by rw [e5]; exact a4 3 (by decide)
    have e54 : τ.1 5 4 = nI (cK c 4) := by rw [e5]; exact a4 4 (by decide)
    have hH := (c2 3 (by decide)).2
    have hH2 : cK c 3 ≤ 1 := hH
    rw [hneed, Option.bind_some, lm_eq, chk_t ib_3_5, tn_3, stI_k (show 5 ≠ b by omega), e53]
    have e1 : (if nI (cK c 3) = 1 then some (1 : Int32) else some 0) = some (nI (cK c 3)) := by
      by_cases hq : cK c 3 = 1
      · rw [hq]; rfl
      · have : cK c 3 = 0 := by omega
        rw [this]; rfl
    have e2 : isB (nI (cK c 3)) = true := by
      by_cases hq : cK c 3 = 1
      · rw [hq]; rfl
      · have : cK c 3 = 0 := by omega
        rw [this]; rfl
    rw [e1, Option.bind_some, chk_t e2, lm_eq, chk_t ib_4_5, lm_eq, tn_4, stI_k (show 5 ≠ b by omega), stI_k (show 5 ≠ b by omega), e54]
    refine ⟨_, rfl, fun k h1 h2 h3 => ?_, ?_, ?_, ?_, ?_, fun i hi => ?_⟩
    · rw [stI_k h1, stI_k h1, stI_k h1]; exact t2 k h2 h3
    · exact t3
    · rw [stI_s, upd_n (by decide), stI_s, upd_n (by decide), stI_s, upd_s]; rfl
    · rw [stI_s, upd_n (by decide), stI_s, upd_s]; rfl
    · rw [stI_s, upd_s]; rfl
    · rw [stI_k (by omega), stI_k (by omega), stI_k (by omega), stI_k (by omega), stI_k (by omega), stI_k (by omega)]
      exact t4 i hi
  · rintro i ⟨v, τ⟩ hi ⟨e1, e2, e3, e4⟩
    dsimp only at e1 e2 e3 e4
    subst e1
    have hs := c3 i hi
    have x4 : τ.1 4 i = nI (cS c i) := by rw [e2 4 (by omega) (by omega)]; exact a3 i hi
    have x2 : τ.1 2 = σ.1 2 := e2 2 (by omega) (by omega)
    have x3 : τ.1 3 = σ.1 3 := e2 3 (by omega) (by omega)
    have y2 : σ.1 2 (cS c i) = nI (cL c (cS c i)) := (a2 _ hs).1
    have y3 : σ.1 3 (cS c i) = nI (cM c (cS c i)) := (a2 _ hs).2
    show ∃ s', g_X2_take_2 b (nI i) τ = some (.inl s') ∧ _
    unfold g_X2_take_2
    rw [show τ.1 1 4 = nI (cP c) by rw [e2 1 (by omega) (by omega)]; exact a1, if_neg (nI_ge hi (by omega)), chk_t (inb_nI (by omega) (by omega)), nI_c (by omega), x4, chk_t (inb_nI hs (by omega)), chk_t (inb_nI (by omega) (by omega)), lm_eq, nI_c (by omega), x2, y2, chk_t (inb_nI hs (by omega)), chk_t (inb_nI (by omega) (by omega)), lm_eq, stI_k (show 3 ≠ b + 1 by omega), x3, y3]
    refine ⟨_, rfl, nI_1 i, fun k h1 h2 => ?_, e3, fun j hj => ?_⟩
    · show (stI (stI τ (b + 1) i _) (b + 2) i _).1 k = _
      rw [stI_k h2, stI_k h1]; exact e2 k h1 h2
    · show (stI (stI τ (b + 1) i _) (b + 2) i _).1 (b + 1) j = _ ∧ (stI (stI τ (b + 1) i _) (b + 2) i _).1 (b + 2) j = _
      rw [stI_k (show b + 1 ≠ b + 2 by omega), stI_s, stI_s, stI_k (show b + 2 ≠ b + 1 by omega)]
      by_cases e : j = i
      · rw [e, upd_s, upd_s]; exact ⟨rfl, rfl⟩
      · rw [upd_n e, upd_n e]; exact e4 j (by omega)
  · rintro ⟨v, τ⟩ ⟨e1, e2, e3, e4⟩
    dsimp only at e1 e2 e3 e4
    subst e1
    refine ⟨τ, ?_, e2, e3, e4⟩
    show g_X2_take_2 b (nI (cP c)) τ = _
    unfold g_X2_take_2
    rw [show τ.1 1 4 = nI (cP c) by rw [e2 1 (by omega) (by omega)]; exact a1, if_pos (nI_le (Nat.le_refl _) (by omega))]
/-- what stays of the program's state when the bench is changed -/
def restS (s : St) (σ : MM) : Prop := rowS σ (sR s) ∧ txtS σ (sX s) ∧ refS σ (sF s) ∧ imgS σ (sI s)
theorem changed_S {s : St} {σ : MM} (hc : okC (sC s)) (ha : atS σ 1 (sC s)) (hr : restS s σ) : ∃ σ', f_X6_changed σ = some σ' ∧ RelS s σ' ∧ (∀ k, k ∉ [0, 16, 17, 18] → σ'.1 k = σ.1 k) := by
  unfold f_X6_changed
  obtain ⟨τ, t1, t2, t3, t4⟩ := take_S (b := 16) (Or.inl rfl) hc ha
  rw [t1, Option.bind_some, chk_t isB_0, lm_eq, chk_t isB_0, lm_eq, chk_t isB_0, lm_eq]
  have hz : ∀ k, k ≠ 0 → (stI (stI (stI τ 0 13 0) 0 14 0) 0 15 0).1 k = τ.1 k := fun k hk => by rw [stI_k hk, stI_k hk, stI_k hk]
  have h0 : ∀ p, p ≠ 13 → p ≠ 14 → p ≠ 15 → (stI (stI (stI τ 0 13 0) 0 14 0) 0 15 0).1 0 p = σ.1 0 p := fun p h1 h2 h3 => by
    rw [stI_s, upd_n h3, stI_s, upd_n h2, stI_s, upd_n h1, t2 0 (by decide) (by decide) (by decide)]
  have hk : ∀ k, k ∉ [0, 16, 17, 18] → (stI (stI (stI τ 0 13 0) 0 14 0) 0 15 0).1 k = σ.1 k := fun k hk => by
    simp only [List.mem_cons, List.not_mem_nil, or_false, not_or] at hk
    rw [hz k hk.1, t2 k hk.2.1 hk.2.2.1 hk.2.2.2]
  refine ⟨_, rfl, ⟨⟨hc, ?_, ?_⟩, ?_, ?_, ?_, ?_, Or.inl ?_, Or.inl ?_, Or.inl ?_⟩, hk⟩
  · unfold atS; rw [hk 1 (by decide), hk 2 (by decide), hk 3 (by decide), hk 4 (by decide), hk 5 (by decide)]; exact ha
  · unfold mdAt; rw [hz 16 (by decide), hz 17 (by decide), hz 18 (by decide)]; exact t4
  · unfold rowS; rw [h0 5 (by decide) (by decide) (by decide), hk 14 (by decide)]; exact hr.1
  · unfold txtS; rw [hk 11 (by decide), hk 12 (by decide)]; exact hr.2.1
  · unfold refS; rw [hk 15 (by decide)]; exact hr.2.2.1
  · unfold imgS atS; rw [h0 2 (by decide) (by decide) (by decide), hk 6 (by decide), hk 7 (by decide), hk 8 (by decide), hk 9 (by decide), hk 10 (by decide)]; exact hr.2.2.2
  · rw [stI_s, upd_n (by decide), stI_s, upd_n (by decide), stI_s, upd_s]
  · rw [stI_s, upd_n (by decide), stI_s, upd_s]
  · rw [stI_s, upd_s]
