/-! COMING in the program: going back -/
def nT (c : Cr) (p S : Nat) : Prop := cnt S 12 ≠ cK c 0 ∧ p - cnt S 12 ≠ cK c 1 + cK c 2
theorem tn_keep {σ τ : MM} {c : Cr} (h : tnC σ c) (h1 : τ.1 42 = σ.1 42) (h2 : τ.2 45 = σ.2 45) : tnC τ c := by
  refine ⟨h.1, ?_⟩
  have := h.2
  unfold tnOK at this ⊢
  rw [h1, show τ.2 (42 + 3) = σ.2 (42 + 3) from h2]; exact this
theorem all_S {c : Cr} {σ : MM} {p S : Nat} (hc : okC c) (he : enough c) (hf : cmF σ c) (ht : tnC σ c) (hp : p < call c) (hS : S < 2 ^ p) (tb : ∀ T y, S ≤ T → VE c (p + 1) T y → nT c (p + 1) T → slt (σ.2 49 T) y = pck (EE c (p + 1) T y)) :
    ∃ σ', f_X1_decideAll (nI p) (nI S) σ = some σ' ∧ σ'.1 = σ.1 ∧ (∀ k, k ≠ 49 → σ'.2 k = σ.2 k) ∧ (∀ T, T ≠ S → σ'.2 49 T = σ.2 49 T) ∧ ∀ x, VE c p S x → nT c p S → slt (σ'.2 49 S) x = pck (EE c p S x) := by
  have hk := kb hc
  have h12 := call12 hc he
  have hS2 : S < 4096 := pow12 (by omega) hS
  have hle : cnt S 12 ≤ p := by rw [cnt_lt hS (by omega)]; exact cnt_le _ _
  have hpp : call c - (call c - p) = p := by omega
  obtain ⟨f2, f3, f4, f5⟩ := id hf
  unfold f_X1_decideAll
  rw [bc_S hS2, Option.bind_some, Option.bind_some, f3, f4, f5, pk_sub hle, nI_add]
  by_cases h1 : cK c 0 ≤ cnt S 12
  · rw [if_pos (nI_le h1 (by omega))]
    refine ⟨σ, rfl, rfl, fun _ _ => rfl, fun _ _ => rfl, fun x hv hn => ?_⟩
    have : cnt S 12 ≤ cK c 0 := hv.2.2.1
    exact absurd (by omega) hn.1
  rw [if_neg (nI_ge (by omega) (by omega))]
  by_cases h2 : p - cnt S 12 < cK c 1 + cK c 2
  · rw [if_pos (nI_lt h2 (by omega))]
    have eh : (if nI (cK c 1) < nI (p - cnt S 12) then nI (cK c 1) else nI (p - cnt S 12)) = nI (min (cK c 1) (p - cnt S 12)) := by
      by_cases q : cK c 1 < p - cnt S 12
      · rw [if_pos (nI_lt q (by omega)), Nat.min_eq_left (by omega)]
      · rw [if_neg (nI_nlt (by omega) (by omega)), Nat.min_eq_right (by omega)]
    have el : (if (0 : Int32) < nI (p - cnt S 12) - nI (cK c 2) then nI (p - cnt S 12) - nI (cK c 2) else (0 : Int32)) = nI (p - cnt S 12 - cK c 2) := by
      by_cases q : cK c 2 ≤ p - cnt S 12
      · rw [pk_sub q]
        by_cases q2 : 0 < p - cnt S 12 - cK c 2
        · have c1 : (0 : Int32) < nI (p - cnt S 12 - cK c 2) := nI_lt (a := 0) q2 (by omega)
          rw [if_pos c1]
        · rw [show p - cnt S 12 - cK c 2 = 0 by omega]; rfl
      · have e1 := nI_toInt (n := p - cnt S 12) (by omega)
        have e2 := nI_toInt (n := cK c 2) (by omega)
        have e0 : (0 : Int32).toInt = 0 := rfl
        rw [if_neg (by rw [fa_lt, e0, fb_subI (by rw [e1, e2]; omega) (by rw [e1, e2]; omega), e1, e2]; omega), show p - cnt S 12 - cK c 2 = 0 by omega]; rfl
    rw [eh, el]
    generalize hlo : p - cnt S 12 - cK c 2 = lo
    generalize hhi : min (cK c 1) (p - cnt S 12) = hi
    have hlohi : lo ≤ hi := by omega
    have hval : ∀ x, VE c p S x ↔ lo ≤ x ∧ x ≤ hi := fun x => by
      show ceV _ _ _ _ _ _ _ ↔ _
      unfold ceV
      rw [hpp]
      have hmn : mN (mOf c) = cK c 0 := rfl
      constructor
      · rintro ⟨g1, g2, g3, g4, g5, g6⟩
        omega
      · rintro ⟨g1, g2⟩
        exact ⟨by omega, hS, by omega, by omega, by omega, by omega⟩
    have hq := lp_inv (step := fun t => g_X1_decideAll_54 (nI p) (nI S) (nI hi) t.1 t.2) (fun i t => t.1 = nI (lo + i) ∧ t.2.1 = σ.1 ∧ (∀ k, k ≠ 49 → t.2.2 k = σ.2 k) ∧ (∀ T, T ≠ S → t.2.2 49 T = σ.2 49 T) ∧ (∀ x, VE c p S x → x < lo + i → slt (t.2.2 49 S) x = pck (EE c p S x)) ∧ ∀ x, x < 4 → lo + i ≤ x → slt (t.2.2 49 S) x = slt (σ.2 49 S) x)
      (fun r => r.1 = σ.1 ∧ (∀ k, k ≠ 49 → r.2 k = σ.2 k) ∧ (∀ T, T ≠ S → r.2 49 T = σ.2 49 T) ∧ ∀ x, VE c p S x → nT c p S → slt (r.2 49 S) x = pck (EE c p S x)) (hi + 1 - lo) ?_ ?_ FU 0 (nI lo, σ) (by omega) (by unfold FU; omega) ⟨rfl, rfl, fun _ _ => rfl, fun _ _ => rfl, fun x hx hl => by have := (hval x).mp hx; omega, fun _ _ _ => rfl⟩
    · obtain ⟨r, r1, r2⟩ := hq
      exact ⟨r, by rw [r1]; rfl, r2⟩
    · rintro i ⟨y, τ⟩ hi2 ⟨g1, g2, g3, g4, g5, g6⟩
      dsimp only at g1 g2 g3 g4 g5 g6
      subst g1
      have hx : VE c p S (lo + i) := (hval _).mpr ⟨by omega, by omega⟩
      have hfτ : cmF τ c := by unfold cmF at hf ⊢; rw [g2]; exact hf
      have htτ : tnC τ c := tn_keep ht (by rw [g2]) (g3 45 (by decide))
      obtain ⟨-, -, -, -, -, hpk⟩ := EE_ok hc he hx
      have hd := dec_S (σ := τ) hc he hfτ htτ hp hx (by omega) (by omega) (fun V n1 n2 => by
          have hbit : (S ||| 2 ^ p).testBit p = true := by rw [fb_bit_set]; simp
          have hne : S ||| 2 ^ p ≠ S := fun e => by rw [e, Nat.testBit_lt_two_pow hS] at hbit; cases hbit
          rw [g4 _ hne]
          exact tb _ _ Nat.left_le_or V ⟨n1, n2⟩) (fun y hy V n1 n2 => by
          have hy4 : y < 4 := by
            have : y ≤ cK c 1 := V.2.2.2.1
            omega
          rw [g6 y hy4 hy]
          exact tb _ _ (Nat.le_refl _) V ⟨n1, n2⟩)
      show ∃ s', g_X1_decideAll_54 (nI p) (nI S) (nI hi) (nI (lo + i)) τ = some (.inl s') ∧ _
      unfold g_X1_decideAll_54
      rw [if_neg (nI_nlt (by omega) (by omega)), hd, Option.bind_some, chk_t (inb_nI hS2 (by omega)), chk_t (inb_nI hS2 (by omega)), lm_eq, nI_c (by omega)]
      refine ⟨_, rfl, nI_1 _, g2, fun k hk => ?_, fun T hT => ?_, fun x hxv hxl => ?_, fun x hx4 hxl => ?_⟩
      · show (stL τ 49 S _).2 k = _
        rw [stL_k hk]; exact g3 k hk
      · show (stL τ 49 S _).2 49 T = _
        rw [stL_s, updL_n hT]; exact g4 T hT
      · show slt ((stL τ 49 S _).2 49 S) x = _
        have hx4 : x < 4 := by have := (hval x).mp hxv; omega
        rw [stL_s, updL_s, slt_wr _ (by omega) hpk x hx4]
        by_cases e : x = lo + i
        · rw [if_pos e, e]
        · rw [if_neg e]; exact g5 x hxv (by omega)
      · show slt ((stL τ 49 S _).2 49 S) x = _
        rw [stL_s, updL_s, slt_wr _ (by omega) hpk x hx4, if_neg (by omega)]
        exact g6 x hx4 (by omega)
    · rintro ⟨y, τ⟩ ⟨g1, g2, g3, g4, g5, g6⟩
      dsimp only at g1 g2 g3 g4 g5 g6
      subst g1
      refine ⟨τ, ?_, g2, g3, g4, fun x hx _ => g5 x hx (by have := (hval x).mp hx; omega)⟩
      show g_X1_decideAll_54 (nI p) (nI S) (nI hi) (nI (lo + (hi + 1 - lo))) τ = _
      unfold g_X1_decideAll_54
      rw [if_pos (nI_lt (by omega) (by omega))]
  · rw [if_neg (nI_nlt (by omega) (by omega))]
    refine ⟨σ, rfl, rfl, fun _ _ => rfl, fun _ _ => rfl, fun x hv hn => ?_⟩
    obtain ⟨v1, v2, v3, v4, v5, v6⟩ := hv
    rw [hpp] at v5 v6
    exact absurd (by omega) hn.2
theorem gb47 {c : Cr} {σ : MM} {p : Nat} (hc : okC c) (he : enough c) (hf : cmF σ c) (ht : tnC σ c) (hp : p < call c) (tb : ∀ T y, VE c (p + 1) T y → nT c (p + 1) T → slt (σ.2 49 T) y = pck (EE c (p + 1) T y)) :
    ∃ σ', loopN (fun t => g_X1_goBack_47 (nI p) t.1 t.2) FU ((0 : Int32), σ) = some σ' ∧ σ'.1 = σ.1 ∧ (∀ k, k ≠ 49 → σ'.2 k = σ.2 k) ∧ ∀ T y, VE c p T y → nT c p T → slt (σ'.2 49 T) y = pck (EE c p T y) := by
  have h12 := call12 hc he
  have hpp : call c - (call c - p) = p := by omega
  have hpow : 2 ^ p ≤ 4096 := Nat.pow_le_pow_right (n := 2) (j := 12) (by decide) (by omega)
  refine lp_0 (fun i t => t.1 = nI i ∧ t.2.1 = σ.1 ∧ (∀ k, k ≠ 49 → t.2.2 k = σ.2 k) ∧ (∀ T y, T < i → VE c p T y → nT c p T → slt (t.2.2 49 T) y = pck (EE c p T y)) ∧ ∀ T, i ≤ T → t.2.2 49 T = σ.2 49 T) _ (2 ^ p) _ (by omega) ⟨rfl, rfl, fun _ _ => rfl, fun T y hT => by omega, fun _ _ => rfl⟩ ?_ ?_
  · rintro i ⟨x, τ⟩ hi ⟨g1, g2, g3, g4, g5⟩
    dsimp only at g1 g2 g3 g4 g5
    subst g1
    obtain ⟨τ', t1, t2, t3, t4, t5⟩ := all_S (σ := τ) (p := p) (S := i) hc he (by unfold cmF at hf ⊢; rw [g2]; exact hf) (tn_keep ht (by rw [g2]) (g3 45 (by decide))) hp hi (fun T y hT V n => by rw [g5 T hT]; exact tb T y V n)
    show ∃ s', g_X1_goBack_47 (nI p) (nI i) τ = some (.inl s') ∧ _
    unfold g_X1_goBack_47
    rw [sh1 p (by omega), if_neg (nI_ge hi (by omega)), t1, Option.bind_some]
    refine ⟨_, rfl, nI_1 i, by show τ'.1 = _; rw [t2, g2], fun k hk => by show τ'.2 k = _; rw [t3 k hk]; exact g3 k hk, fun T y hT V n => ?_, fun T hT => ?_⟩
    · show slt (τ'.2 49 T) y = _
      by_cases e : T = i
      · subst e; exact t5 y V n
      · rw [t4 T e]; exact g4 T y (by omega) V n
    · show τ'.2 49 T = _
      rw [t4 T (by omega)]; exact g5 T (by omega)
  · rintro ⟨x, τ⟩ ⟨g1, g2, g3, g4, g5⟩
    dsimp only at g1 g2 g3 g4 g5
    subst g1
    refine ⟨τ, ?_, g2, g3, fun T y V n => g4 T y ?_ V n⟩
    · show g_X1_goBack_47 (nI p) (nI (2 ^ p)) τ = _
      unfold g_X1_goBack_47
      rw [sh1 p (by omega), if_pos (nI_le (Nat.le_refl _) (by omega))]
    · have := V.2.1
      rw [hpp] at this
      exact this
theorem VE_0 {c : Cr} : VE c 0 0 0 := by
  show ceV _ _ _ _ _ _ _
  unfold ceV
  have h0 : cnt 0 12 = 0 := by decide
  rw [h0, Nat.sub_zero]
  exact ⟨Nat.le_refl _, two_pos _, Nat.zero_le _, Nat.zero_le _, by omega, by omega⟩
theorem back_S {c : Cr} {σ : MM} (hc : okC c) (he : enough c) (ha : atS σ 1 c) (ht : tnC σ c) : ∃ σ', f_X1_goBack σ = some σ' ∧ cmC σ' c ∧ (∀ k, k ≠ 55 → σ'.1 k = σ.1 k) ∧ ∀ k, k ≠ 49 → σ'.2 k = σ.2 k := by
  have h12 := call12 hc he
  have hk := kb hc
  have hcp := call_pos hc
  unfold f_X1_goBack
  have at55 : ∀ {τ : MM} {i : Nat} {v : Int32}, atS τ 1 c → atS (stI τ 55 i v) 1 c := fun {τ i v} h => by
    unfold atS at h ⊢
    rw [stI_k (show 1 ≠ 55 by decide), stI_k (show 1 + 1 ≠ 55 by decide), stI_k (show 1 + 2 ≠ 55 by decide), stI_k (show 1 + 3 ≠ 55 by decide), stI_k (show 1 + 4 ≠ 55 by decide)]; exact h
  rw [(called_S hc ha).1 he, Option.bind_some, lm_eq, need_S (at55 ha), Option.bind_some, lm_eq, (str_S (at55 (at55 ha))).1, Option.bind_some, lm_eq, (str_S (at55 (at55 (at55 ha)))).2, Option.bind_some, lm_eq]
  generalize hσ1 : stI (stI (stI (stI σ 55 2 (nI (call c))) 55 3 (nI (cK c 0))) 55 4 (nI (cK c 1))) 55 5 (nI (cK c 2)) = σ1
  have k1 : ∀ k, k ≠ 55 → σ1.1 k = σ.1 k := fun k hk => by rw [← hσ1, stI_k hk, stI_k hk, stI_k hk, stI_k hk]
  have s1 : σ1.2 = σ.2 := by rw [← hσ1]; rfl
  have hf : cmF σ1 c := by
    rw [← hσ1]
    refine ⟨?_, ?_, ?_, ?_⟩
    · rw [stI_s, upd_n (by decide), stI_s, upd_n (by decide), stI_s, upd_n (by decide), stI_s, upd_s]
    · rw [stI_s, upd_n (by decide), stI_s, upd_n (by decide), stI_s, upd_s]
    · rw [stI_s, upd_n (by decide), stI_s, upd_s]
    · rw [stI_s, upd_s]
  have ht1 : tnC σ1 c := tn_keep ht (k1 42 (by decide)) (by rw [s1])
  have hq := lp_0 (step := fun t => g_X1_goBack_41 t.1 t.2) (fun i t => t.1 = nI (call c - i) + (-1) ∧ t.2.1 = σ1.1 ∧ (∀ k, k ≠ 49 → t.2.2 k = σ1.2 k) ∧ ∀ T y, VE c (call c - i) T y → nT c (call c - i) T → slt (t.2.2 49 T) y = pck (EE c (call c - i) T y))
    (fun r => r.1 = σ1.1 ∧ (∀ k, k ≠ 49 → r.2 k = σ1.2 k) ∧ ∀ T y, VE c 0 T y → nT c 0 T → slt (r.2 49 T) y = pck (EE c 0 T y)) (call c) (nI (call c) - 1, σ1) (by omega) ⟨?_, rfl, fun _ _ => rfl, fun T y V n => ?_⟩ ?_ ?_
  · obtain ⟨r, r1, r2, r3, r4⟩ := hq
    have hf2 : cmF r c := by unfold cmF at hf ⊢; rw [r2]; exact hf
    have e0 := end_S (p := 0) (S := 0) (x := 0) hc he hf2 (by omega) VE_0 (fun n1 n2 => r4 0 0 VE_0 ⟨n1, n2⟩)
    have e0' : f_X1_endFrom 0 0 0 r = some (nI (pck (EE c 0 0 0))) := e0
    rw [hf.1, r1, Option.bind_some, e0', Option.bind_some, lm_eq]
    refine ⟨_, rfl, ⟨tn_keep ht1 (by rw [stI_k (by decide), r2]) (by rw [stI_2]; exact r3 45 (by decide)), ?_⟩, fun k hk => ?_, fun k hk => ?_⟩
    · rw [stI_s, upd_s]
      show nI (pck (CE (mOf c) (call c) (cK c 1) (cK c 2) (call c - 0) 0 0)) = _
      rw [Nat.sub_zero]; rfl
    · rw [stI_k hk, r2]; exact k1 k hk
    · rw [stI_2, r3 k hk, s1]
  · show nI (call c) - 1 = nI (call c - 0) + (-1)
    rw [Nat.sub_zero, Int32.sub_eq_add_neg]
  · exfalso
    rw [Nat.sub_zero] at V n
    obtain ⟨v1, v2, v3, v4, v5, v6⟩ := V
    rw [Nat.sub_self, Nat.sub_zero] at v2 v5 v6
    obtain ⟨n1, n2⟩ := n
    have v3' : cnt T 12 ≤ cK c 0 := v3
    have hle : cnt T 12 ≤ call c := by rw [cnt_lt v2 h12]; exact cnt_le _ _
    unfold call at v5 v6 n2 hle
    omega
  · rintro i ⟨x, τ⟩ hi ⟨g1, g2, g3, g4⟩
    dsimp only at g1 g2 g3 g4
    obtain ⟨n, hn⟩ : ∃ n, call c - i = n + 1 := ⟨call c - i - 1, by omega⟩
    have hn2 : call c - (i + 1) = n := by omega
    rw [hn] at g1 g4
    rw [pk_m1] at g1
    rw [hn2]
    subst g1
    obtain ⟨τ', t1, t2, t3, t4⟩ := gb47 (σ := τ) (p := n) hc he (by unfold cmF at hf ⊢; rw [g2]; exact hf) (tn_keep ht1 (by rw [g2]) (g3 45 (by decide))) (by omega) g4
    show ∃ s', g_X1_goBack_41 (nI n) τ = some (.inl s') ∧ _
    unfold g_X1_goBack_41
    rw [if_neg (nI_pos (by omega)), t1, Option.bind_some]
    exact ⟨_, rfl, rfl, by show τ'.1 = _; rw [t2, g2], fun k hk => by show τ'.2 k = _; rw [t3 k hk]; exact g3 k hk, t4⟩
  · rintro ⟨x, τ⟩ ⟨g1, g2, g3, g4⟩
    dsimp only at g1 g2 g3 g4
    rw [Nat.sub_self] at g1 g4
    have g1' : x = -1 := g1
    subst g1'
    refine ⟨τ, ?_, g2, g3, g4⟩
    show g_X1_goBack_41 (-1) τ = _
    unfold g_X1_goBack_41
    rw [if_pos (by decide)]
theorem know_C {s : St} {σ : MM} (h : RelS s σ) (he : enough (sC s)) : ∃ σ', f_X6_knowComing σ = some σ' ∧ RelS s σ' ∧ cmC σ' (sC s) ∧ (σ.1 0 13 = 1 → σ'.1 0 13 = 1) := by
  obtain ⟨⟨c0, a0, d0⟩, r1, r2, r3, r4, r5, r6, r7⟩ := id h
  unfold f_X6_knowComing
  rcases r7 with r7 | ⟨r7, r7'⟩
  · obtain ⟨σ1, s1, s2, s3, s4, s5⟩ := know_S h he
    obtain ⟨⟨-, a1, d1⟩, u1, u2, u3, u4, u5, u6, u7⟩ := id s2
    obtain ⟨σ2, t1, t2, t3, t4⟩ := back_S c0 he a1 s3
    have hz : ∀ k, k ≠ 0 → k ≠ 55 → (stI σ2 0 15 1).1 k = σ1.1 k := fun k h1 h2 => by rw [stI_k h1]; exact t3 k h2
    have hp : ∀ p, p ≠ 15 → (stI σ2 0 15 1).1 0 p = σ1.1 0 p := fun p h1 => by rw [stI_s, upd_n h1, t3 0 (by decide)]
    have hcm : cmC (stI σ2 0 15 1) (sC s) := by
      unfold cmC tnC tnOK at t2 ⊢
      rw [stI_k (show 55 ≠ 0 by decide), stI_k (show 42 ≠ 0 by decide)]; exact t2
    have h45 : (stI σ2 0 15 1).2 (42 + 3) = σ1.2 (42 + 3) := t4 45 (by decide)
    refine ⟨stI σ2 0 15 1, ?_, ⟨⟨c0, ?_, ?_⟩, ?_, ?_, ?_, ?_, ?_, ?_, Or.inr ⟨?_, hcm⟩⟩, hcm, fun q => ?_⟩
    · rw [r7, if_pos z00, s1, Option.bind_some, t1, Option.bind_some, chk_t isB_1, lm_eq]
    · unfold atS at a1 ⊢
      rw [hz 1 (by decide) (by decide), hz (1 + 1) (by decide) (by decide), hz (1 + 2) (by decide) (by decide), hz (1 + 3) (by decide) (by decide), hz (1 + 4) (by decide) (by decide)]; exact a1
    · unfold mdAt at d1 ⊢
      rw [hz 16 (by decide) (by decide), hz (16 + 1) (by decide) (by decide), hz (16 + 2) (by decide) (by decide)]; exact d1
    · unfold rowS at u1 ⊢; rw [hp 5 (by decide), hz 14 (by decide) (by decide)]; exact u1
    · unfold txtS at u2 ⊢; rw [hz 11 (by decide) (by decide), hz 12 (by decide) (by decide)]; exact u2
    · unfold refS at u3 ⊢; rw [hz 15 (by decide) (by decide)]; exact u3
    · unfold imgS atS at u4 ⊢
      rw [hp 2 (by decide), hz 6 (by decide) (by decide), hz (6 + 1) (by decide) (by decide), hz (6 + 2) (by decide) (by decide), hz (6 + 3) (by decide) (by decide), hz (6 + 4) (by decide) (by decide)]; exact u4
    · unfold kn tnC tnOK at u5 ⊢; rw [hp 13 (by decide), hz 42 (by decide) (by decide), h45]; exact u5
    · unfold kn ppC at u6 ⊢; rw [hp 14 (by decide), hz 50 (by decide) (by decide), hz 51 (by decide) (by decide), hz 52 (by decide) (by decide)]; exact u6
    · rw [stI_s, upd_s]
    · rw [hp 13 (by decide)]
      rcases u5 with u5 | u5
      · exfalso
        unfold f_X6_knowTurns at s1
        rw [q, if_neg n10] at s1
        injection s1 with s1
        rw [← s1, q] at u5
        exact n10 u5
      · exact u5.1
  · exact ⟨σ, by rw [r7, if_neg n10], h, r7', fun q => q⟩
