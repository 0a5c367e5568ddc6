/-! COURT: the statements -/
def Sm (s : St) (p : Nat) (a b : Option (Int32 × MM)) : Prop :=
  (∃ s' q σ' μ', p < q ∧ sX s' = sX s ∧ a = some (1, σ') ∧ b = some (1, μ') ∧ Ps s' q σ' ∧ Pm s' q μ') ∨ ∃ s' f σ' μ', sX s' = sX s ∧ a = some (0, σ') ∧ b = some (0, μ') ∧ Fs s' f σ' ∧ Pm s' f μ'
theorem rest_keep {s : St} {σ σ' : MM} (h : restS s σ) (hk : ∀ k, k ∈ [0, 6, 7, 8, 9, 10, 11, 12, 14, 15] → σ'.1 k = σ.1 k) : restS s σ' := by
  unfold restS rowS txtS refS imgS atS at h ⊢
  rw [hk 0 (by decide), hk 14 (by decide), hk 11 (by decide), hk 12 (by decide), hk 15 (by decide), hk 6 (by decide), hk (6 + 1) (by decide), hk (6 + 2) (by decide), hk (6 + 3) (by decide), hk (6 + 4) (by decide)]; exact h
theorem atS_L {s : St} {σ : MM} {j x y : Nat} (a0 : atS σ 1 (sC s)) : atS (stI (stI σ 2 j (nI x)) 3 j (nI y)) 1 (sC (setL s j x y)) := by
  obtain ⟨a1, a2, a3, a4⟩ := a0
  refine ⟨a1, fun i hi => ?_, a3, a4⟩
  rw [stI_k (by decide), stI_s, show 1 + 2 = 3 from rfl, stI_s, stI_k (by decide)]
  show upd _ j (nI x) i = nI (if i = j then x else cL (sC s) i) ∧ upd _ j (nI y) i = nI (if i = j then y else cM (sC s) i)
  by_cases ei : i = j
  · rw [if_pos ei, if_pos ei, ei, upd_s, upd_s]; exact ⟨rfl, rfl⟩
  · rw [if_neg ei, if_neg ei, upd_n ei, upd_n ei]; exact a2 i hi
theorem RelM_L {s : St} {μ : MM} {j x y : Nat} (h' : RelM s μ) (hx : x ≤ 100) (hy : y ≤ 100) : RelM (setL s j x y) (stI (stI μ 2 (2 * j) (nI x)) 2 (2 * j + 1) (nI y)) := by
  obtain ⟨⟨c0, b0⟩, q1, q2, q3, q4, q5⟩ := h'
  refine ⟨⟨okC_L c0 hx hy, ?_⟩, q1, q2, q3, q4, q5⟩
  obtain ⟨b1, b2, b3, b4⟩ := b0
  refine ⟨b1, fun i hi => ?_, b3, b4⟩
  rw [stI_s, stI_s]
  show upd (upd _ (2 * j) (nI x)) (2 * j + 1) (nI y) (2 * i) = nI (if i = j then x else cL (sC s) i) ∧ upd (upd _ (2 * j) (nI x)) (2 * j + 1) (nI y) (2 * i + 1) = nI (if i = j then y else cM (sC s) i)
  by_cases ei : i = j
  · rw [if_pos ei, if_pos ei, ei, upd_n (by omega), upd_s, upd_s]; exact ⟨rfl, rfl⟩
  · rw [if_neg ei, if_neg ei, upd_n (by omega), upd_n (by omega), upd_n (by omega), upd_n (by omega)]; exact b2 i hi
theorem neg1 : (-1 : Int32) < 0 := by decide
theorem sm_sort {s : St} {p : Nat} {σ μ : MM} (h : Ps s p σ) (h' : Pm s p μ) : Sm s p (f_X4_readSort σ) (f_X7_readsSort μ) := by
  obtain ⟨-, -, -, x4, -⟩ := tx h
  unfold f_X4_readSort f_X7_readsSort
  rcases dig 0 5 (by omega) (by omega) h h' with ⟨j, -, j2, j3, -, -, j6, j7⟩ | ⟨-, -, d6, d7⟩
  · have j6' : f_X4_digit 0 5 σ = some (nI j, stI σ 11 3 (nI (p + 1))) := j6
    have j7' : f_X7_digit 0 5 μ = some (nI j, stI μ 0 9 (nI (p + 1))) := j7
    have h1 := Ps_go (q := p + 1) h (by omega)
    have h1' := Pm_go (q := p + 1) h'
    rw [j6', j7', Option.bind_some, uc_eq, Option.bind_some, uc_eq, if_neg (nI_pos (by omega)), if_neg (nI_pos (by omega))]
    generalize stI σ 11 3 (nI (p + 1)) = σ1 at h1 ⊢
    generalize stI μ 0 9 (nI (p + 1)) = μ1 at h1' ⊢
    rcases sgn 58 (by omega) h1 h1' with ⟨k1, k2, k3, k4⟩ | ⟨k2, k3, k4⟩
    · have k3' : f_X4_sign 58 σ1 = some (1, stI σ1 11 3 (nI (p + 1 + 1))) := k3
      have k4' : f_X7_takes 58 μ1 = some (1, stI μ1 0 9 (nI (p + 1 + 1))) := k4
      have h2 := Ps_go (q := p + 1 + 1) h1 (by omega)
      have h2' := Pm_go (q := p + 1 + 1) h1'
      rw [k3', k4', Option.bind_some, uc_eq, Option.bind_some, uc_eq, if_neg n10, if_neg n10]
      generalize stI σ1 11 3 (nI (p + 1 + 1)) = σ2 at h2 ⊢
      generalize stI μ1 0 9 (nI (p + 1 + 1)) = μ2 at h2' ⊢
      rcases num h2 h2' with ⟨x, q3, σ3, μ3, l1, l2, l3, l4, h3, h3'⟩ | ⟨f, σ3, μ3, l3, l4, h3, h3'⟩
      · obtain ⟨-, -, -, y3, -⟩ := tx h3
        rw [l3, l4, Option.bind_some, uc_eq, Option.bind_some, uc_eq, if_neg (nI_pos (by omega)), if_neg (nI_pos (by omega))]
        rcases sgn 44 (by omega) h3 h3' with ⟨m1, mm2, m3, m4⟩ | ⟨mm2, m3, m4⟩
        · have m3' : f_X4_sign 44 σ3 = some (1, stI σ3 11 3 (nI (q3 + 1))) := m3
          have m4' : f_X7_takes 44 μ3 = some (1, stI μ3 0 9 (nI (q3 + 1))) := m4
          have h4 := Ps_go (q := q3 + 1) h3 (by omega)
          have h4' := Pm_go (q := q3 + 1) h3'
          rw [m3', m4', Option.bind_some, uc_eq, Option.bind_some, uc_eq, if_neg n10, if_neg n10]
          generalize stI σ3 11 3 (nI (q3 + 1)) = σ4 at h4 ⊢
          generalize stI μ3 0 9 (nI (q3 + 1)) = μ4 at h4' ⊢
          rcases num h4 h4' with ⟨y, q5, σ5, μ5, n1, n2, n3, n4, h5, h5'⟩ | ⟨f, σ5, μ5, n3, n4, h5, h5'⟩
          · obtain ⟨-, -, -, y5, -⟩ := tx h5
            rw [n3, n4, Option.bind_some, uc_eq, Option.bind_some, uc_eq, if_neg (nI_pos (by omega)), if_neg (nI_pos (by omega))]
            rcases sgn 59 (by omega) h5 h5' with ⟨o1, o2, o3, o4⟩ | ⟨o2, o3, o4⟩
            · have o3' : f_X4_sign 59 σ5 = some (1, stI σ5 11 3 (nI (q5 + 1))) := o3
              have o4' : f_X7_takes 59 μ5 = some (1, stI μ5 0 9 (nI (q5 + 1))) := o4
              have h6 := Ps_go (q := q5 + 1) h5 (by omega)
              have h6' := Pm_go (q := q5 + 1) h5'
              rw [o3', o4', Option.bind_some, uc_eq, Option.bind_some, uc_eq, if_neg n10, if_neg n10]
              generalize stI σ5 11 3 (nI (q5 + 1)) = σ6 at h6 ⊢
              generalize stI μ5 0 9 (nI (q5 + 1)) = μ6 at h6' ⊢
              rw [chk_t (inb_nI (by omega) (by omega)), lm_eq, chk_t (inb_nI (by omega) (by omega)), lm_eq, nI_c (by omega), two_mul, nI_1, chk_t (inb_nI (by omega) (by omega)), lm_eq, chk_t (inb_nI (by omega) (by omega)), lm_eq, nI_c (by omega), nI_c (by omega)]
              left
              refine ⟨setL s j x y, q5 + 1, _, _, by omega, rfl, rfl, rfl, ⟨okC_L h6.1 l1 n1, atS_L h6.2.1, rest_keep h6.2.2.1 (fun k hk => ?_), ?_, h6.2.2.2.2⟩, RelM_L h6'.1 l1 n1, ?_⟩
              · rw [stI_k (fun e => by revert hk; rw [e]; decide), stI_k (fun e => by revert hk; rw [e]; decide)]
              · rw [stI_k (by decide), stI_k (by decide)]; exact h6.2.2.2.1
              · rw [stI_k (by decide), stI_k (by decide)]; exact h6'.2
            · have o3' : f_X4_sign 59 σ5 = some (0, stI σ5 11 4 (nI q5)) := o3
              have o4' : f_X7_takes 59 μ5 = some (0, μ5) := o4
              rw [o3', o4', Option.bind_some, uc_eq, Option.bind_some, uc_eq, if_pos z00, if_pos z00]
              exact Or.inr ⟨s, q5, _, _, rfl, rfl, rfl, Ps_no h5 y5, h5'⟩
          · rw [n3, n4, Option.bind_some, uc_eq, Option.bind_some, uc_eq, if_pos neg1, if_pos neg1]
            exact Or.inr ⟨s, f, _, _, rfl, rfl, rfl, h5, h5'⟩
        · have m3' : f_X4_sign 44 σ3 = some (0, stI σ3 11 4 (nI q3)) := m3
          have m4' : f_X7_takes 44 μ3 = some (0, μ3) := m4
          rw [m3', m4', Option.bind_some, uc_eq, Option.bind_some, uc_eq, if_pos z00, if_pos z00]
          exact Or.inr ⟨s, q3, _, _, rfl, rfl, rfl, Ps_no h3 y3, h3'⟩
      · rw [l3, l4, Option.bind_some, uc_eq, Option.bind_some, uc_eq, if_pos neg1, if_pos neg1]
        exact Or.inr ⟨s, f, _, _, rfl, rfl, rfl, h3, h3'⟩
    · have k3' : f_X4_sign 58 σ1 = some (0, stI σ1 11 4 (nI (p + 1))) := k3
      have k4' : f_X7_takes 58 μ1 = some (0, μ1) := k4
      rw [k3', k4', Option.bind_some, uc_eq, Option.bind_some, uc_eq, if_pos z00, if_pos z00]
      exact Or.inr ⟨s, p + 1, _, _, rfl, rfl, rfl, Ps_no h1 (by omega), h1'⟩
  · have d6' : f_X4_digit 0 5 σ = some (-1, stI σ 11 4 (nI p)) := d6
    have d7' : f_X7_digit 0 5 μ = some (-1, μ) := d7
    rw [d6', d7', Option.bind_some, uc_eq, Option.bind_some, uc_eq, if_pos neg1, if_pos neg1]
    exact Or.inr ⟨s, p, _, _, rfl, rfl, rfl, Ps_no h x4, h'⟩
/-! terms -/
theorem atS_K {s : St} {σ : MM} {k v : Nat} (a0 : atS σ 1 (sC s)) : atS (stI σ 5 k (nI v)) 1 (sC (setK s k v)) := by
  obtain ⟨a1, a2, a3, a4⟩ := a0
  refine ⟨a1, a2, a3, fun i hi => ?_⟩
  rw [show 1 + 4 = 5 from rfl, stI_s]
  show upd _ k (nI v) i = nI (if i = k then v else cK (sC s) i)
  by_cases e : i = k
  · rw [if_pos e, e, upd_s]
  · rw [if_neg e, upd_n e]; exact a4 i hi
theorem Ps_K {s : St} {p k v : Nat} {σ : MM} (h : Ps s p σ) (hv : loK k ≤ v ∧ v ≤ hiK k) : Ps (setK s k v) p (stI σ 5 k (nI v)) :=
  ⟨okC_K h.1 hv, atS_K h.2.1, rest_keep h.2.2.1 (fun k hk => stI_k (fun e => by revert hk; rw [e]; decide)), by rw [stI_k (by decide)]; exact h.2.2.2.1, h.2.2.2.2⟩
theorem Pm_K {s : St} {p k v : Nat} {μ : MM} (h : Pm s p μ) (hk : k < 5) (hv : loK k ≤ v ∧ v ≤ hiK k) : Pm (setK s k v) p (stI μ 4 k (nI v)) :=
  ⟨RelM_K h.1 hk hv, by rw [stI_k (by decide)]; exact h.2⟩
theorem sm_term {s : St} {p : Nat} {σ μ : MM} (k w : Nat) (hk : k < 5) (hh : hiK k ≤ 9) (h : Ps s p σ) (h' : Pm s p μ) (hM : ∀ o : Option (Int32 × MM), o = f_X7_digit (nI (loK k)) (nI (hiK k)) μ → f_X7_readsNumber (nI w) μ = o.bind (fun o9 => if 0 ≤ o9.1 then (f_X7_takes 59 o9.2).bind (uc (fun r17 σ18 => if r17 = 0 then some ((0 : Int32), σ18) else some ((1 : Int32), stI σ18 4 k o9.1))) else some ((0 : Int32), o9.2))) : Sm s p (f_X4_readTerm (nI k) σ) (f_X7_readsNumber (nI w) μ) := by
  obtain ⟨-, -, -, x4, -⟩ := tx h
  rw [hM _ rfl]
  unfold f_X4_readTerm
  have hlo : loK k ≤ 1 := by unfold loK; split <;> omega
  rw [chk_t (inb_nI hk (by omega)), chk_t (inb_nI hk (by omega)), nI_c (by omega), loK_eq, hiK_eq]
  rcases dig (loK k) (hiK k) (by omega) hh h h' with ⟨j, j1, j2, j3, -, -, j6, j7⟩ | ⟨-, -, d6, d7⟩
  · have h1 := Ps_go (q := p + 1) h (by omega)
    have h1' := Pm_go (q := p + 1) h'
    rw [j6, j7, Option.bind_some, uc_eq, Option.bind_some, if_neg (nI_pos (by omega)), if_pos (ge0.mpr (nI_pos (by omega)))]
    dsimp only
    generalize stI σ 11 3 (nI (p + 1)) = σ1 at h1 ⊢
    generalize stI μ 0 9 (nI (p + 1)) = μ1 at h1' ⊢
    rcases sgn 59 (by omega) h1 h1' with ⟨k1, k2, k3, k4⟩ | ⟨k2, k3, k4⟩
    · have k3' : f_X4_sign 59 σ1 = some (1, stI σ1 11 3 (nI (p + 1 + 1))) := k3
      have k4' : f_X7_takes 59 μ1 = some (1, stI μ1 0 9 (nI (p + 1 + 1))) := k4
      have h2 := Ps_go (q := p + 1 + 1) h1 (by omega)
      have h2' := Pm_go (q := p + 1 + 1) h1'
      rw [k3', k4', Option.bind_some, uc_eq, Option.bind_some, uc_eq, if_neg n10, if_neg n10, chk_t (inb_nI hk (by omega)), lm_eq]
      exact Or.inl ⟨setK s k j, p + 1 + 1, _, _, by omega, rfl, rfl, rfl, Ps_K h2 ⟨j1, j2⟩, Pm_K h2' hk ⟨j1, j2⟩⟩
    · have k3' : f_X4_sign 59 σ1 = some (0, stI σ1 11 4 (nI (p + 1))) := k3
      have k4' : f_X7_takes 59 μ1 = some (0, μ1) := k4
      rw [k3', k4', Option.bind_some, uc_eq, Option.bind_some, uc_eq, if_pos z00, if_pos z00]
      exact Or.inr ⟨s, p + 1, _, _, rfl, rfl, rfl, Ps_no h1 (by omega), h1'⟩
  · rw [d6, d7, Option.bind_some, uc_eq, Option.bind_some, if_pos neg1, if_neg (show ¬ (0 : Int32) ≤ -1 by decide)]
    exact Or.inr ⟨s, p, _, _, rfl, rfl, rfl, Ps_no h x4, h'⟩
theorem sm_h {s : St} {p : Nat} {σ μ : MM} (h : Ps s p σ) (h' : Pm s p μ) : Sm s p (f_X4_readTerm 3 σ) (f_X7_readsNumber 104 μ) := by
  refine sm_term 3 104 (by decide) (by decide) h h' (fun o ho => ?_)
  subst ho
  show f_X7_readsNumber 104 μ = (f_X7_digit 0 1 μ).bind _
  unfold f_X7_readsNumber
  rw [if_neg (by decide), if_neg (by decide), if_neg (by decide)]
  cases f_X7_digit 0 1 μ with
  | none => rfl
  | some o =>
    obtain ⟨a, τ⟩ := o
    rw [Option.bind_some, uc_eq, Option.bind_some, Option.bind_some]
    dsimp only
    by_cases h0 : 0 ≤ a
    · rw [if_pos h0, if_pos h0, if_neg (by decide), Option.bind_some]
      dsimp only
      rw [if_neg (by decide)]
      rfl
    · rw [if_neg h0, if_neg h0]; rfl
theorem sm_n {s : St} {p : Nat} {σ μ : MM} (h : Ps s p σ) (h' : Pm s p μ) : Sm s p (f_X4_readTerm 0 σ) (f_X7_readsNumber 110 μ) := by
  refine sm_term 0 110 (by decide) (by decide) h h' (fun o ho => ?_)
  subst ho
  show f_X7_readsNumber 110 μ = (f_X7_digit 1 7 μ).bind _
  unfold f_X7_readsNumber
  rw [if_neg (by decide), if_pos (by decide)]
  cases f_X7_digit 1 7 μ with
  | none => rfl
  | some o =>
    obtain ⟨a, τ⟩ := o
    rw [Option.bind_some, uc_eq, Option.bind_some, Option.bind_some]
    dsimp only
    by_cases h0 : 0 ≤ a
    · rw [if_pos h0, if_pos h0, if_neg (by decide), Option.bind_some]
      dsimp only
      rw [if_neg (by decide)]
      rfl
    · rw [if_neg h0, if_neg h0]; rfl
theorem sm_truth {s : St} {p : Nat} {σ μ : MM} (h : Ps s p σ) (h' : Pm s p μ) : Sm s p (f_X4_readTruth σ) (f_X7_readsNumber 116 μ) := by
  unfold f_X4_readTruth f_X7_readsNumber
  rw [if_pos rfl]
  rcases num h h' with ⟨x, q, σ1, μ1, l1, l2, l3, l4, h1, h1'⟩ | ⟨f, σ1, μ1, l3, l4, h1, h1'⟩
  · obtain ⟨-, -, -, y3, -⟩ := tx h1
    rw [l3, l4, Option.bind_some, uc_eq, Option.bind_some, uc_eq, Option.bind_some]
    dsimp only
    rw [if_neg (nI_pos (by omega)), if_pos (ge0.mpr (nI_pos (by omega))), if_neg (by decide), Option.bind_some]
    dsimp only
    rw [if_neg (by decide)]
    rcases sgn 59 (by omega) h1 h1' with ⟨k1, k2, k3, k4⟩ | ⟨k2, k3, k4⟩
    · have k3' : f_X4_sign 59 σ1 = some (1, stI σ1 11 3 (nI (q + 1))) := k3
      have k4' : f_X7_takes 59 μ1 = some (1, stI μ1 0 9 (nI (q + 1))) := k4
      have h2 := Ps_go (q := q + 1) h1 (by omega)
      have h2' := Pm_go (q := q + 1) h1'
      rw [k3', k4', Option.bind_some, uc_eq, Option.bind_some, uc_eq, if_neg n10, if_neg n10]
      exact Or.inl ⟨setK s 4 x, q + 1, _, _, by omega, rfl, rfl, rfl, Ps_K h2 ⟨Nat.zero_le _, l1⟩, Pm_K h2' (by decide) ⟨Nat.zero_le _, l1⟩⟩
    · have k3' : f_X4_sign 59 σ1 = some (0, stI σ1 11 4 (nI q)) := k3
      have k4' : f_X7_takes 59 μ1 = some (0, μ1) := k4
      rw [k3', k4', Option.bind_some, uc_eq, Option.bind_some, uc_eq, if_pos z00, if_pos z00]
      exact Or.inr ⟨s, q, _, _, rfl, rfl, rfl, Ps_no h1 y3, h1'⟩
  · rw [l3, l4, Option.bind_some, uc_eq, Option.bind_some, uc_eq, Option.bind_some]
    dsimp only
    rw [if_pos neg1, if_neg (by decide)]
    exact Or.inr ⟨s, f, _, _, rfl, rfl, rfl, h1, h1'⟩
theorem sm_strikes {s : St} {p : Nat} {σ μ : MM} (h : Ps s p σ) (h' : Pm s p μ) : Sm s p (f_X4_readStrikes σ) (f_X7_readsNumber 120 μ) := by
  obtain ⟨-, -, -, x4, -⟩ := tx h
  unfold f_X4_readStrikes f_X7_readsNumber
  rw [if_neg (by decide), if_neg (by decide), if_pos rfl]
  rcases dig 0 3 (by omega) (by omega) h h' with ⟨a, a1, a2, a3, -, -, a6, a7⟩ | ⟨-, -, d6, d7⟩
  · have a6' : f_X4_digit 0 3 σ = some (nI a, stI σ 11 3 (nI (p + 1))) := a6
    have a7' : f_X7_digit 0 3 μ = some (nI a, stI μ 0 9 (nI (p + 1))) := a7
    have h1 := Ps_go (q := p + 1) h (by omega)
    have h1' := Pm_go (q := p + 1) h'
    rw [a6', a7', Option.bind_some, uc_eq, Option.bind_some, uc_eq, Option.bind_some]
    dsimp only
    rw [if_pos (ge0.mpr (nI_pos (by omega))), if_pos (ge0.mpr (nI_pos (by omega))), if_pos rfl]
    generalize stI σ 11 3 (nI (p + 1)) = σ1 at h1 ⊢
    generalize stI μ 0 9 (nI (p + 1)) = μ1 at h1' ⊢
    rcases dig 0 3 (by omega) (by omega) h1 h1' with ⟨b, b1, b2, b3, -, -, b6, b7⟩ | ⟨-, -, d6, d7⟩
    · have b6' : f_X4_digit 0 3 σ1 = some (nI b, stI σ1 11 3 (nI (p + 1 + 1))) := b6
      have b7' : f_X7_digit 0 3 μ1 = some (nI b, stI μ1 0 9 (nI (p + 1 + 1))) := b7
      have h2 := Ps_go (q := p + 1 + 1) h1 (by omega)
      have h2' := Pm_go (q := p + 1 + 1) h1'
      rw [b6', b7', Option.bind_some, uc_eq, Option.bind_some, uc_eq, Option.bind_some]
      dsimp only
      rw [if_neg (nI_pos (by omega)), if_neg (nI_pos (by omega))]
      generalize stI σ1 11 3 (nI (p + 1 + 1)) = σ2 at h2 ⊢
      generalize stI μ1 0 9 (nI (p + 1 + 1)) = μ2 at h2' ⊢
      rcases sgn 59 (by omega) h2 h2' with ⟨k1, k2, k3, k4⟩ | ⟨k2, k3, k4⟩
      · have k3' : f_X4_sign 59 σ2 = some (1, stI σ2 11 3 (nI (p + 1 + 1 + 1))) := k3
        have k4' : f_X7_takes 59 μ2 = some (1, stI μ2 0 9 (nI (p + 1 + 1 + 1))) := k4
        have h3 := Ps_go (q := p + 1 + 1 + 1) h2 (by omega)
        have h3' := Pm_go (q := p + 1 + 1 + 1) h2'
        rw [k3', k4', Option.bind_some, uc_eq, Option.bind_some, uc_eq, if_neg n10, if_neg n10]
        exact Or.inl ⟨setK (setK s 1 a) 2 b, p + 1 + 1 + 1, _, _, by omega, rfl, rfl, rfl, Ps_K (Ps_K h3 ⟨Nat.zero_le _, a2⟩) ⟨Nat.zero_le _, b2⟩, Pm_K (Pm_K h3' (by decide) ⟨Nat.zero_le _, a2⟩) (by decide) ⟨Nat.zero_le _, b2⟩⟩
      · have k3' : f_X4_sign 59 σ2 = some (0, stI σ2 11 4 (nI (p + 1 + 1))) := k3
        have k4' : f_X7_takes 59 μ2 = some (0, μ2) := k4
        rw [k3', k4', Option.bind_some, uc_eq, Option.bind_some, uc_eq, if_pos z00, if_pos z00]
        exact Or.inr ⟨s, p + 1 + 1, _, _, rfl, rfl, rfl, Ps_no h2 (by omega), h2'⟩
    · have d6' : f_X4_digit 0 3 σ1 = some (-1, stI σ1 11 4 (nI (p + 1))) := d6
      have d7' : f_X7_digit 0 3 μ1 = some (-1, μ1) := d7
      rw [d6', d7', Option.bind_some, uc_eq, Option.bind_some, uc_eq, Option.bind_some]
      dsimp only
      rw [if_pos neg1, if_pos neg1]
      exact Or.inr ⟨s, p + 1, _, _, rfl, rfl, rfl, Ps_no h1 (by omega), h1'⟩
  · have d6' : f_X4_digit 0 3 σ = some (-1, stI σ 11 4 (nI p)) := d6
    have d7' : f_X7_digit 0 3 μ = some (-1, μ) := d7
    rw [d6', d7', Option.bind_some, uc_eq, Option.bind_some, uc_eq, Option.bind_some]
    dsimp only
    rw [if_neg (by decide), if_neg (by decide)]
    exact Or.inr ⟨s, p, _, _, rfl, rfl, rfl, Ps_no h x4, h'⟩
