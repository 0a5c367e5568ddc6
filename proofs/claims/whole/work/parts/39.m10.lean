/-! the simple calls -/
theorem n10 : ¬ ((1 : Int32) = 0) := by decide
theorem z00 : (0 : Int32) = 0 := rfl
theorem nm1 : ¬ ((-1 : Int32) = 0) := by decide
theorem nm2 : ¬ ((-2 : Int32) = 0) := by decide
theorem nm3 : ¬ ((-3 : Int32) = 0) := by decide
theorem nm4 : ¬ ((-4 : Int32) = 0) := by decide
theorem nm6 : ¬ ((-6 : Int32) = 0) := by decide
theorem soS_n {v : Int32} {σ : MM} (h : v < 0 ∨ 6 ≤ v) : f_X6_isSort v σ = some 0 := by
  unfold f_X6_isSort
  by_cases h1 : v < 0
  · rw [if_pos h1]; rfl
  · rw [if_neg h1, if_pos (h.resolve_left h1)]; rfl
theorem soS_y {v : Int32} {σ : MM} (h : ¬ (v < 0 ∨ 6 ≤ v)) : f_X6_isSort v σ = some 1 := by
  unfold f_X6_isSort
  rw [if_neg (fun q => h (Or.inl q)), if_neg (fun q => h (Or.inr q))]; rfl
theorem soM_n {v : Int32} {σ : MM} (h : v < 0 ∨ 6 ≤ v) : f_X7_isSort v σ = some 0 := by
  unfold f_X7_isSort
  by_cases h1 : v < 0
  · rw [if_pos h1]; rfl
  · rw [if_neg h1, if_pos (h.resolve_left h1)]; rfl
theorem soM_y {v : Int32} {σ : MM} (h : ¬ (v < 0 ∨ 6 ≤ v)) : f_X7_isSort v σ = some 1 := by
  unfold f_X7_isSort
  rw [if_neg (fun q => h (Or.inl q)), if_neg (fun q => h (Or.inr q))]; rfl
theorem so_nat {v : Int32} (h : ¬ (v < 0 ∨ 6 ≤ v)) : ∃ j, j < 6 ∧ v = nI j := ix 6 (by omega) (fun q => h (Or.inl q)) (fun q => h (Or.inr q))
/-- leans that may be: the refusal, or 0 -/
def lr (v1 v2 v3 : Int32) : Int32 := if v1 < 0 ∨ 6 ≤ v1 then -1 else if v2 < 0 then -4 else if 0 ≤ v3 then (if 100 < v2 then -6 else if v3 ≤ 100 then 0 else -6) else -4
theorem lr_S {v1 v2 v3 : Int32} {σ : MM} : f_X6_leansRefusal v1 v2 v3 σ = some (lr v1 v2 v3) := by
  unfold f_X6_leansRefusal lr
  by_cases h1 : v1 < 0 ∨ 6 ≤ v1
  · rw [soS_n h1, Option.bind_some, if_pos rfl, if_pos h1]
  · rw [soS_y h1, Option.bind_some, if_neg (by decide), if_neg h1]
    (repeat' split) <;> rfl
theorem lr_M {v2 v3 : Int32} : (if v2 < 0 then some (-4 : Int32) else if 0 ≤ v3 then (if (100 : Int32) < v2 then some (-6) else if v3 ≤ 100 then some 0 else some (-6)) else some (-4)) = some (if v2 < 0 then -4 else if 0 ≤ v3 then (if 100 < v2 then -6 else if v3 ≤ 100 then 0 else -6) else -4) := by
  (repeat' split) <;> rfl
theorem lr_val (v1 v2 v3 : Int32) : lr v1 v2 v3 = -1 ∨ lr v1 v2 v3 = -4 ∨ lr v1 v2 v3 = -6 ∨ (lr v1 v2 v3 = 0 ∧ ∃ j x y, j < 6 ∧ x ≤ 100 ∧ y ≤ 100 ∧ v1 = nI j ∧ v2 = nI x ∧ v3 = nI y) := by
  unfold lr
  by_cases h1 : v1 < 0 ∨ 6 ≤ v1
  · rw [if_pos h1]; exact Or.inl rfl
  rw [if_neg h1]
  by_cases h2 : v2 < 0
  · rw [if_pos h2]; exact Or.inr (Or.inl rfl)
  rw [if_neg h2]
  by_cases h3 : 0 ≤ v3
  · rw [if_pos h3]
    by_cases h4 : 100 < v2
    · rw [if_pos h4]; exact Or.inr (Or.inr (Or.inl rfl))
    rw [if_neg h4]
    by_cases h5 : v3 ≤ 100
    · rw [if_pos h5]
      obtain ⟨j, hj, e1⟩ := so_nat h1
      obtain ⟨x, hx, e2⟩ := ix2 (x := v2) 100 (by omega) h2 h4
      obtain ⟨y, hy, e3⟩ := ix2 (x := v3) 100 (by omega) (ge0.mp h3) (nle.mp h5)
      exact Or.inr (Or.inr (Or.inr ⟨rfl, j, x, y, hj, hx, hy, e1, e2, e3⟩))
    · rw [if_neg h5]; exact Or.inr (Or.inr (Or.inl rfl))
  · rw [if_neg h3]; exact Or.inr (Or.inl rfl)
def setL (s : St) (j x y : Nat) : St := ((cP (sC s), cK (sC s), cS (sC s), fun i => if i = j then x else cL (sC s) i, fun i => if i = j then y else cM (sC s) i), sR s, sX s, sI s, sF s)
theorem okC_L {s : St} {j x y : Nat} (h : okC (sC s)) (hx : x ≤ 100) (hy : y ≤ 100) : okC (sC (setL s j x y)) := by
  obtain ⟨h1, h2, h3, h4⟩ := h
  refine ⟨h1, h2, h3, fun i hi => ?_⟩
  show (if i = j then x else cL (sC s) i) ≤ 100 ∧ (if i = j then y else cM (sC s) i) ≤ 100
  by_cases e : i = j
  · rw [if_pos e, if_pos e]; exact ⟨hx, hy⟩
  · rw [if_neg e, if_neg e]; exact h4 i hi
theorem al_sort {s : St} {σ μ : MM} (h : RelS s σ) (h' : RelM s μ) (v1 v2 v3 : Int32) : Alike (f_X6_sort v1 v2 v3 σ) (f_X7_sort v1 v2 v3 μ) := by
  have eS : f_X6_sort v1 v2 v3 σ = (if lr v1 v2 v3 = 0 then chk (inb v1 6) (lm (stI σ 2 v1.toNatClampNeg v2) (fun σ2 => chk (inb v1 6) (lm (stI σ2 3 v1.toNatClampNeg v3) (fun σ3 => (f_X6_changed σ3).bind (fun σ5 => some (((1 : Int32), σ5))))))) else (f_X6_refuse (lr v1 v2 v3) σ).bind (uc (fun r6 σ7 => some ((r6, σ7))))) := by
    unfold f_X6_sort; rw [lr_S]; rfl
  have eM : f_X7_sort v1 v2 v3 μ = (if lr v1 v2 v3 = 0 then chk (inb ((2 : Int32) * v1) 12) (lm (stI μ 2 ((2 : Int32) * v1).toNatClampNeg v2) (fun σ5 => chk (inb (((2 : Int32) * v1) + (1 : Int32)) 12) (lm (stI σ5 2 (((2 : Int32) * v1) + (1 : Int32)).toNatClampNeg v3) (fun σ6 => some (((1 : Int32), σ6)))))) else (f_X7_no (lr v1 v2 v3) μ).bind (uc (fun r7 σ8 => some ((r7, σ8))))) := by
    unfold f_X7_sort lr
    by_cases h1 : v1 < 0 ∨ 6 ≤ v1
    · rw [soM_n h1, Option.bind_some, if_pos rfl, if_pos h1]; rfl
    · rw [soM_y h1, Option.bind_some, if_neg (by decide), if_neg h1, lr_M, Option.bind_some]
  rw [eS, eM]
  rcases lr_val v1 v2 v3 with e | e | e | ⟨e, j, x, y, hj, hx, hy, rfl, rfl, rfl⟩
  · rw [e, if_neg (by decide), if_neg (by decide), rf1, rm1]; exact alike_no 1 (by decide) h h' rfl rfl
  · rw [e, if_neg (by decide), if_neg (by decide), rf4, rm4]; exact alike_no 4 (by decide) h h' rfl rfl
  · rw [e, if_neg (by decide), if_neg (by decide), rf6, rm6]; exact alike_no 6 (by decide) h h' rfl rfl
  · obtain ⟨⟨c0, a0, -⟩, r1, r2, r3, r4, -⟩ := h
    obtain ⟨⟨-, b0⟩, q1, q2, q3, q4, q5⟩ := h'
    rw [e, if_pos rfl, if_pos rfl, chk_t (inb_nI hj (by omega)), lm_eq, chk_t (inb_nI hj (by omega)), lm_eq, nI_c (by omega), two_mul, nI_1, chk_t (inb_nI (by omega) (by omega)), lm_eq, chk_t (inb_nI (by omega) (by omega)), lm_eq, nI_c (by omega), nI_c (by omega)]
    have hb : atS (stI (stI σ 2 j (nI x)) 3 j (nI y)) 1 (sC (setL s j x y)) := by
      obtain ⟨a1, a2, a3, a4⟩ := a0
      refine ⟨a1, fun i hi => ?_, a3, a4⟩
      rw [stI_k (by decide), stI_s, show 1 + 2 = 3 from rfl, stI_s, stI_k (by decide)]
      show upd _ j (nI x) i = nI (if i = j then x else cL (sC s) i) ∧ upd _ j (nI y) i = nI (if i = j then y else cM (sC s) i)
      by_cases ei : i = j
      · rw [if_pos ei, if_pos ei, ei, upd_s, upd_s]; exact ⟨rfl, rfl⟩
      · rw [if_neg ei, if_neg ei, upd_n ei, upd_n ei]; exact a2 i hi
    obtain ⟨σ', s1, s2, -⟩ := changed_S (s := setL s j x y) (okC_L c0 hx hy) hb ⟨r1, r2, r3, r4⟩
    rw [s1]
    refine ⟨1, setL s j x y, σ', _, rfl, rfl, s2, ⟨okC_L c0 hx hy, ?_⟩, q1, q2, q3, q4, q5⟩
    obtain ⟨b1, b2, b3, b4⟩ := b0
    refine ⟨b1, fun i hi => ?_, b3, b4⟩
    rw [stI_s, stI_s]
    show upd (upd _ (2 * j) (nI x)) (2 * j + 1) (nI y) (2 * i) = nI (if i = j then x else cL (sC s) i) ∧ upd (upd _ (2 * j) (nI x)) (2 * j + 1) (nI y) (2 * i + 1) = nI (if i = j then y else cM (sC s) i)
    by_cases ei : i = j
    · rw [if_pos ei, if_pos ei, ei, upd_n (by omega), upd_s, upd_s]; exact ⟨rfl, rfl⟩
    · rw [if_neg ei, if_neg ei, upd_n (by omega), upd_n (by omega), upd_n (by omega), upd_n (by omega)]; exact b2 i hi
/-! people -/
def addP (s : St) (j : Nat) : St := ((cP (sC s) + 1, cK (sC s), fun i => if i = cP (sC s) then j else cS (sC s) i, cL (sC s), cM (sC s)), sR s, sX s, sI s, sF s)
theorem okC_P {s : St} {j : Nat} (h : okC (sC s)) (hj : j < 6) (hp : cP (sC s) < 12) : okC (sC (addP s j)) := by
  obtain ⟨h1, h2, h3, h4⟩ := h
  refine ⟨hp, h2, fun i hi => ?_, h4⟩
  show (if i = cP (sC s) then j else cS (sC s) i) < 6
  have hi' : i < cP (sC s) + 1 := hi
  by_cases e : i = cP (sC s)
  · rw [if_pos e]; exact hj
  · rw [if_neg e]; exact h3 i (by omega)
theorem add_S {s : St} {σ : MM} {j : Nat} (hp : cP (sC s) < 12) (ha : atS σ 1 (sC s)) : f_X0_add (nI j) σ = some (stI (stI σ 4 (cP (sC s)) (nI j)) 1 4 (nI (cP (sC s) + 1))) ∧ atS (stI (stI σ 4 (cP (sC s)) (nI j)) 1 4 (nI (cP (sC s) + 1))) 1 (sC (addP s j)) := by
  obtain ⟨a1, a2, a3, a4⟩ := ha
  constructor
  · unfold f_X0_add
    have c1 : ¬ (12 : Int32) ≤ nI (cP (sC s)) := nI_ge (b := 12) hp (by omega)
    rw [a1, if_neg c1, chk_t (inb_nI hp (by omega)), lm_eq, lm_eq, nI_c (by omega), stI_k (by decide), a1, nI_1]
  · refine ⟨?_, ?_, fun i hi => ?_, ?_⟩
    · rw [stI_s, upd_s]; rfl
    · rw [stI_k (by decide), stI_k (by decide), stI_k (by decide), stI_k (by decide)]; exact a2
    · have hi' : i < cP (sC s) + 1 := hi
      rw [stI_k (by decide), show 1 + 3 = 4 from rfl, stI_s]
      show upd _ (cP (sC s)) (nI j) i = nI (if i = cP (sC s) then j else cS (sC s) i)
      by_cases e : i = cP (sC s)
      · rw [if_pos e, e, upd_s]
      · rw [if_neg e, upd_n e]; exact a3 i (by omega)
    · rw [stI_k (by decide), stI_k (by decide)]; exact a4
theorem al_person {s : St} {σ μ : MM} (h : RelS s σ) (h' : RelM s μ) (v1 : Int32) : Alike (f_X6_person v1 σ) (f_X7_person v1 μ) := by
  unfold f_X6_person f_X7_person
  by_cases h1 : v1 < 0 ∨ 6 ≤ v1
  · refine alike_no 1 (by decide) h h' (r := -1) ?_ ?_
    · rw [soS_n h1, Option.bind_some, if_pos z00, rf1]; rfl
    · rw [soM_n h1, Option.bind_some, if_pos z00, rm1]; rfl
  obtain ⟨⟨c0, a0, d0⟩, r1, r2, r3, r4, r5⟩ := id h
  obtain ⟨⟨-, b0⟩, q1, q2, q3, q4, q5⟩ := id h'
  have eS := soS_y (σ := σ) h1
  have eM := soM_y (σ := μ) h1
  obtain ⟨j, hj, rfl⟩ := so_nat h1
  have a1 := a0.1
  have b1 := b0.1
  have hP := c0.1
  by_cases hp : cP (sC s) < 12
  · have c1 : nI (cP (sC s)) < (12 : Int32) := nI_lt (b := 12) hp (by omega)
    have c2 : ¬ nI (cP (sC s)) = (12 : Int32) := fun q => by have := (nI_eq_iff (b := 12) (by omega) (by omega)).mp q; omega
    obtain ⟨e1, e2⟩ := add_S (j := j) hp a0
    obtain ⟨σ', s1, s2, s3⟩ := changed_S (s := addP s j) (okC_P c0 hj hp) e2 ⟨r1, r2, r3, r4⟩
    refine ⟨nI (cP (sC s)), addP s j, σ', stI (stI μ 3 (cP (sC s)) (nI j)) 0 6 (nI (cP (sC s) + 1)), ?_, ?_, s2, ⟨okC_P c0 hj hp, ?_⟩, q1, q2, q3, q4, q5⟩
    · rw [eS, Option.bind_some, if_neg n10, a1, if_pos c1, e1, Option.bind_some, s1, Option.bind_some, s3 1 (by decide), stI_s, upd_s, nI_pred]
    · rw [eM, Option.bind_some, if_neg n10, b1, if_neg c2, chk_t (inb_nI (by omega) (by omega)), lm_eq, lm_eq, nI_c (by omega), stI_k (show 0 ≠ 3 by decide), b1, nI_1, stI_s, upd_s, nI_pred]
    · obtain ⟨-, b2, b3, b4⟩ := b0
      refine ⟨?_, ?_, fun i hi => ?_, ?_⟩
      · rw [stI_s, upd_s]; rfl
      · rw [stI_k (by decide), stI_k (by decide)]; exact b2
      · have hi' : i < cP (sC s) + 1 := hi
        rw [stI_k (by decide), stI_s]
        show upd _ (cP (sC s)) (nI j) i = nI (if i = cP (sC s) then j else cS (sC s) i)
        by_cases e : i = cP (sC s)
        · rw [if_pos e, e, upd_s]
        · rw [if_neg e, upd_n e]; exact b3 i (by omega)
      · rw [stI_k (by decide), stI_k (by decide)]; exact b4
  · have e12 : cP (sC s) = 12 := by omega
    refine alike_no 6 (by decide) h h' (r := -6) ?_ ?_
    · rw [eS, Option.bind_some, if_neg n10, a1, e12, if_neg (by decide), rf6]; rfl
    · rw [eM, Option.bind_some, if_neg n10, b1, e12, if_pos (by rfl), rm6]; rfl
def subP (s : St) : St := ((cP (sC s) - 1, cK (sC s), cS (sC s), cL (sC s), cM (sC s)), sR s, sX s, sI s, sF s)
theorem al_takeBack {s : St} {σ μ : MM} (h : RelS s σ) (h' : RelM s μ) : Alike (f_X6_takeBack σ) (f_X7_takeBack μ) := by
  unfold f_X6_takeBack f_X7_takeBack
  obtain ⟨⟨c0, a0, d0⟩, r1, r2, r3, r4, r5⟩ := id h
  obtain ⟨⟨-, b0⟩, q1, q2, q3, q4, q5⟩ := id h'
  have hP := c0.1
  by_cases hz : cP (sC s) = 0
  · refine alike_no 3 (by decide) h h' (r := -3) ?_ ?_
    · rw [a0.1, hz, if_pos (by rfl), rf3]; rfl
    · rw [b0.1, hz, if_pos (by rfl), rm3]; rfl
  · obtain ⟨c1, c2, c3, c4⟩ := c0
    obtain ⟨a1, a2, a3, a4⟩ := a0
    obtain ⟨b1, b2, b3, b4⟩ := b0
    have hc : okC (sC (subP s)) := ⟨show cP (sC s) - 1 ≤ 12 by omega, c2, fun i hi => c3 i (show i < cP (sC s) by have : i < cP (sC s) - 1 := hi; omega), c4⟩
    have ha : atS (stI σ 1 4 (nI (cP (sC s) - 1))) 1 (sC (subP s)) := by
      refine ⟨by rw [stI_s, upd_s]; rfl, ?_, fun i hi => ?_, ?_⟩
      · rw [stI_k (by decide), stI_k (by decide)]; exact a2
      · rw [stI_k (by decide)]; exact a3 i (by have : i < cP (sC s) - 1 := hi; omega)
      · rw [stI_k (by decide)]; exact a4
    obtain ⟨σ', s1, s2, s3⟩ := changed_S (s := subP s) hc ha ⟨r1, r2, r3, r4⟩
    refine ⟨nI (cP (sC s) - 1), subP s, σ', stI μ 0 6 (nI (cP (sC s) - 1)), ?_, ?_, s2, ⟨hc, ?_⟩, q1, q2, q3, q4, q5⟩
    · rw [a1, if_neg (nI_ne0 (by omega) (by omega)), lm_eq, nI_sub1 (by omega), s1, Option.bind_some, s3 1 (by decide), stI_s, upd_s]
    · rw [b1, if_neg (nI_ne0 (by omega) (by omega)), lm_eq, nI_sub1 (by omega), stI_s, upd_s]
    refine ⟨by rw [stI_s, upd_s]; rfl, ?_, fun i hi => ?_, ?_⟩
    · rw [stI_k (by decide)]; exact b2
    · rw [stI_k (by decide)]; exact b3 i (by have : i < cP (sC s) - 1 := hi; omega)
    · rw [stI_k (by decide)]; exact b4
/-! set -/
def setK (s : St) (k v : Nat) : St := ((cP (sC s), fun i => if i = k then v else cK (sC s) i, cS (sC s), cL (sC s), cM (sC s)), sR s, sX s, sI s, sF s)
theorem okC_K {s : St} {k v : Nat} (h : okC (sC s)) (hv : loK k ≤ v ∧ v ≤ hiK k) : okC (sC (setK s k v)) := by
  obtain ⟨h1, h2, h3, h4⟩ := h
  refine ⟨h1, fun i hi => ?_, h3, h4⟩
  show loK i ≤ (if i = k then v else cK (sC s) i) ∧ (if i = k then v else cK (sC s) i) ≤ hiK i
  by_cases e : i = k
  · rw [if_pos e, e]; exact hv
  · rw [if_neg e]; exact h2 i hi
theorem isIn_n {v a b : Int32} {μ : MM} (h : v < a ∨ b < v) : f_X7_isIn v a b μ = some 0 := by
  unfold f_X7_isIn
  by_cases h1 : v < a
  · rw [if_pos h1]; rfl
  · rw [if_neg h1, if_pos (h.resolve_left h1)]; rfl
theorem isIn_y {v a b : Int32} {μ : MM} (h1 : ¬ v < a) (h2 : ¬ b < v) : f_X7_isIn v a b μ = some 1 := by
  unfold f_X7_isIn
  rw [if_neg h1, if_neg h2]; rfl
theorem out_b {v a b : Int32} {μ : MM} (h : ¬ a ≤ v) : f_X7_out v a b μ = some (-4) := by
  unfold f_X7_out
  rw [if_neg h]
theorem out_r {v a b : Int32} {μ : MM} (h : a ≤ v) (h2 : ¬ v ≤ b) : f_X7_out v a b μ = some (-6) := by
  unfold f_X7_out
  rw [if_pos h, if_neg h2]
theorem out_0 {v a b : Int32} {μ : MM} (h : a ≤ v) (h2 : v ≤ b) : f_X7_out v a b μ = some 0 := by
  unfold f_X7_out
  rw [if_pos h, if_pos h2]
theorem al_set {s : St} {σ μ : MM} (h : RelS s σ) (h' : RelM s μ) (v1 v2 : Int32) : Alike (f_X6_set v1 v2 σ) (f_X7_set v1 v2 μ) := by
  unfold f_X6_set f_X7_set
  by_cases h1 : v1 < 0
  · refine alike_no 2 (by decide) h h' (r := -2) ?_ ?_
    · rw [if_pos h1, rf2]; rfl
    · rw [isIn_n (Or.inl h1), Option.bind_some, if_pos z00, rm2]; rfl
  by_cases h2 : v1 < 5
  · obtain ⟨k, hk, rfl⟩ := ix 5 (by omega) h1 (fun q => nle.mp q h2)
    have c1 : ¬ (4 : Int32) < nI k := nI_nlt (b := k) (a := 4) (by omega) (by omega)
    obtain ⟨⟨c0, a0, d0⟩, r1, r2, r3, r4, r5⟩ := id h
    obtain ⟨⟨-, b0⟩, q1, q2, q3, q4, q5⟩ := id h'
    have hin : inb (nI k) 5 = true := inb_nI hk (by omega)
    have hhi := hiK_le k
    have hlo : loK k ≤ 1 := by unfold loK; split <;> omega
    have eM : ∀ X, ((f_X7_isIn (nI k) 0 4 μ).bind X : Option (Int32 × MM)) = X 1 := fun X => by rw [isIn_y h1 c1, Option.bind_some]
    by_cases h3 : nI (loK k) ≤ v2
    · by_cases h4 : v2 ≤ nI (hiK k)
      · obtain ⟨v, hv, rfl⟩ := ix2 (x := v2) (hiK k) (by omega) (fun q => by
          rw [fa_le] at h3; rw [fa_lt] at q
          rw [nI_toInt (by omega)] at h3
          have : (0 : Int32).toInt = 0 := rfl
          omega) (nle.mp h4)
        obtain ⟨a1, a2, a3, a4⟩ := a0
        obtain ⟨b1, b2, b3, b4⟩ := b0
        have hc := okC_K (s := s) (k := k) (v := v) c0 ⟨(nI_le_iff (by omega) (by omega)).mp h3, hv⟩
        have ha : atS (stI σ 5 k (nI v)) 1 (sC (setK s k v)) := by
          refine ⟨a1, a2, a3, fun i hi => ?_⟩
          rw [show 1 + 4 = 5 from rfl, stI_s]
          show upd _ k (nI v) i = nI (if i = k then v else cK (sC s) i)
          by_cases e : i = k
          · rw [if_pos e, e, upd_s]
          · rw [if_neg e, upd_n e]; exact a4 i hi
        obtain ⟨σ', s1, s2, s3⟩ := changed_S (s := setK s k v) hc ha ⟨r1, r2, r3, r4⟩
        refine ⟨nI (cK (sC s) k), setK s k v, σ', stI μ 4 k (nI v), ?_, ?_, s2, ⟨hc, b1, b2, b3, fun i hi => ?_⟩, q1, q2, q3, q4, q5⟩
        · rw [if_neg h1, if_pos h2, chk_t hin, nI_c (by omega), loK_eq, if_pos h3, chk_t hin, hiK_eq, if_pos h4, chk_t hin, chk_t hin, lm_eq, s1, Option.bind_some, show σ.1 5 k = nI (cK (sC s) k) from a4 k hk]
        · rw [eM, if_neg n10, chk_t hin, chk_t hin, nI_c (by omega), (q5 k hk).1, (q5 k hk).2, out_0 h3 h4, Option.bind_some, if_pos z00, chk_t hin, chk_t hin, lm_eq, b4 k hk]
        · rw [stI_s]
          show upd _ k (nI v) i = nI (if i = k then v else cK (sC s) i)
          by_cases e : i = k
          · rw [if_pos e, e, upd_s]
          · rw [if_neg e, upd_n e]; exact b4 i hi
      · refine alike_no 6 (by decide) h h' (r := -6) ?_ ?_
        · rw [if_neg h1, if_pos h2, chk_t hin, nI_c (by omega), loK_eq, if_pos h3, chk_t hin, hiK_eq, if_neg h4, rf6]; rfl
        · rw [eM, if_neg n10, chk_t hin, chk_t hin, nI_c (by omega), (q5 k hk).1, (q5 k hk).2, out_r h3 h4, Option.bind_some, if_neg nm6, rm6]; rfl
    · refine alike_no 4 (by decide) h h' (r := -4) ?_ ?_
      · rw [if_neg h1, if_pos h2, chk_t hin, nI_c (by omega), loK_eq, if_neg h3, rf4]; rfl
      · rw [eM, if_neg n10, chk_t hin, chk_t hin, nI_c (by omega), (q5 k hk).1, out_b h3, Option.bind_some, if_neg nm4, rm4]; rfl
  · have c1 : (4 : Int32) < v1 := by
      rw [fa_lt] at h2 ⊢
      have e5 : (5 : Int32).toInt = 5 := rfl
      have e4 : (4 : Int32).toInt = 4 := rfl
      omega
    refine alike_no 2 (by decide) h h' (r := -2) ?_ ?_
    · rw [if_neg h1, if_neg h2, rf2]; rfl
    · rw [isIn_n (Or.inr c1), Option.bind_some, if_pos z00, rm2]; rfl
/-! the row -/
theorem al_put {s : St} {σ μ : MM} (h : RelS s σ) (h' : RelM s μ) (v1 : Int32) : Alike (f_X6_put v1 σ) (f_X7_put v1 μ) := by
  unfold f_X6_put f_X7_put
  obtain ⟨c0, r1, r2, r3, r4, r5, r6, r7⟩ := id h
  obtain ⟨b0, q1, q2, q3, q4, q5⟩ := id h'
  by_cases h1 : 0 ≤ v1
  · by_cases h2 : (12 : Int32) ≤ v1
    · have c1 : ¬ v1 ≤ 11 := by
        rw [fa_le] at h2 ⊢
        have e5 : (12 : Int32).toInt = 12 := rfl
        have e4 : (11 : Int32).toInt = 11 := rfl
        omega
      refine alike_no 6 (by decide) h h' (r := -6) ?_ ?_
      · rw [if_pos h1, if_pos h2, rf6]; rfl
      · rw [out_r h1 c1, Option.bind_some, if_neg nm6, Option.bind_some, if_neg nm6, rm6]; rfl
    · obtain ⟨j, hj, rfl⟩ := ix 12 (by omega) (ge0.mp h1) h2
      have c1 : nI j ≤ (11 : Int32) := nI_le (b := 11) (by omega) (by omega)
      have hr := r1.1
      by_cases h3 : (sR s).1 < 6
      · have c2 : nI (sR s).1 < (6 : Int32) := nI_lt (b := 6) h3 (by omega)
        have c3 : ¬ nI (sR s).1 = (6 : Int32) := fun q => by have := (nI_eq_iff (b := 6) (by omega) (by omega)).mp q; omega
        refine ⟨nI ((sR s).1 + 1), (sC s, ((sR s).1 + 1, fun i => if i = (sR s).1 then j else (sR s).2 i), sX s, sI s, sF s), stI (stI σ 14 (sR s).1 (nI j)) 0 5 (nI ((sR s).1 + 1)), stI (stI μ 14 (sR s).1 (nI j)) 0 19 (nI ((sR s).1 + 1)), ?_, ?_, ?_, ?_⟩
        · rw [if_pos h1, if_neg h2, r1.2.1, if_pos c2, chk_t (inb_nI h3 (by omega)), lm_eq, lm_eq, nI_c (by omega), stI_k (show 0 ≠ 14 by decide), r1.2.1, nI_1, stI_s, upd_s]
        · rw [out_0 h1 c1, Option.bind_some, if_pos z00, q1.2.1, if_neg c3, Option.bind_some, if_pos z00, chk_t (inb_nI h3 (by omega)), lm_eq, lm_eq, nI_c (by omega), stI_k (show 0 ≠ 14 by decide), q1.2.1, nI_1, stI_s, upd_s]
        · refine ⟨c0, ⟨h3, ?_, fun i hi => ?_⟩, r2, r3, ?_, ?_, ?_, ?_⟩
          · rw [stI_s, upd_s]; rfl
          · rw [stI_k (by decide), stI_s]
            show (if i = (sR s).1 then j else (sR s).2 i) < 12 ∧ upd _ (sR s).1 (nI j) i = nI (if i = (sR s).1 then j else (sR s).2 i)
            by_cases e : i = (sR s).1
            · rw [if_pos e, e, upd_s]; exact ⟨hj, rfl⟩
            · rw [if_neg e, upd_n e]; exact r1.2.2 i (by have : i < (sR s).1 + 1 := hi; omega)
          · unfold imgS at r4 ⊢; rw [stI_s, upd_n (by decide)]; exact r4
          · unfold kn at r5 ⊢; rw [stI_s, upd_n (by decide)]; exact r5
          · unfold kn at r6 ⊢; rw [stI_s, upd_n (by decide)]; exact r6
          · unfold kn at r7 ⊢; rw [stI_s, upd_n (by decide)]; exact r7
        · refine ⟨⟨b0.1, ?_⟩, ⟨h3, ?_, fun i hi => ?_⟩, ?_, q3, ?_, q5⟩
          · have hb := b0.2
            unfold atR at hb ⊢; rw [stI_s, upd_n (by decide)]; exact hb
          · rw [stI_s, upd_s]; rfl
          · rw [stI_k (by decide), stI_s]
            show (if i = (sR s).1 then j else (sR s).2 i) < 12 ∧ upd _ (sR s).1 (nI j) i = nI (if i = (sR s).1 then j else (sR s).2 i)
            by_cases e : i = (sR s).1
            · rw [if_pos e, e, upd_s]; exact ⟨hj, rfl⟩
            · rw [if_neg e, upd_n e]; exact q1.2.2 i (by have : i < (sR s).1 + 1 := hi; omega)
          · unfold txtM at q2 ⊢; rw [stI_s, upd_n (by decide)]; exact q2
          · unfold imgM atK at q4 ⊢; rw [stI_s, upd_n (by decide), upd_n (by decide)]; exact q4
      · have e6 : (sR s).1 = 6 := by omega
        refine alike_no 6 (by decide) h h' (r := -6) ?_ ?_
        · rw [if_pos h1, if_neg h2, r1.2.1, e6, if_neg (by decide), rf6]; rfl
        · rw [out_0 h1 c1, Option.bind_some, if_pos z00, q1.2.1, e6, if_pos (by rfl), Option.bind_some, if_neg nm6, rm6]; rfl
  · refine alike_no 4 (by decide) h h' (r := -4) ?_ ?_
    · rw [if_neg h1, rf4]; rfl
    · rw [out_b h1, Option.bind_some, if_neg nm4, Option.bind_some, if_neg nm4, rm4]; rfl
theorem al_unput {s : St} {σ μ : MM} (h : RelS s σ) (h' : RelM s μ) : Alike (f_X6_unput σ) (f_X7_unput μ) := by
  unfold f_X6_unput f_X7_unput
  obtain ⟨c0, r1, r2, r3, r4, r5, r6, r7⟩ := h
  obtain ⟨b0, q1, q2, q3, q4, q5⟩ := h'
  rw [lm_eq, lm_eq, r1.2.1, q1.2.1]
  refine ⟨_, (sC s, (0, fun _ => 0), sX s, sI s, sF s), _, _, rfl, rfl, ?_, ?_⟩
  · refine ⟨c0, ⟨Nat.zero_le _, ?_, fun i hi => absurd hi (Nat.not_lt_zero i)⟩, r2, r3, ?_, ?_, ?_, ?_⟩
    · rw [stI_s, upd_s]; rfl
    · unfold imgS at r4 ⊢; rw [stI_s, upd_n (by decide)]; exact r4
    · unfold kn at r5 ⊢; rw [stI_s, upd_n (by decide)]; exact r5
    · unfold kn at r6 ⊢; rw [stI_s, upd_n (by decide)]; exact r6
    · unfold kn at r7 ⊢; rw [stI_s, upd_n (by decide)]; exact r7
  · refine ⟨⟨b0.1, ?_⟩, ⟨Nat.zero_le _, ?_, fun i hi => absurd hi (Nat.not_lt_zero i)⟩, ?_, q3, ?_, q5⟩
    · have hb := b0.2
      unfold atR at hb ⊢; rw [stI_s, upd_n (by decide)]; exact hb
    · rw [stI_s, upd_s]; rfl
    · unfold txtM at q2 ⊢; rw [stI_s, upd_n (by decide)]; exact q2
    · unfold imgM atK at q4 ⊢; rw [stI_s, upd_n (by decide), upd_n (by decide)]; exact q4
