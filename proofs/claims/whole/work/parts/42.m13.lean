/-! TURNS from the first on -/
theorem know_S {s : St} {σ : MM} (h : RelS s σ) (he : enough (sC s)) : ∃ σ', f_X6_knowTurns σ = some σ' ∧ RelS s σ' ∧ tnC σ' (sC s) ∧ (∀ k, k < 42 ∨ 46 ≤ k → k ≠ 0 → σ'.1 k = σ.1 k) ∧ ∀ p, p ≠ 13 → σ'.1 0 p = σ.1 0 p := by
  obtain ⟨⟨c0, a0, d0⟩, r1, r2, r3, r4, r5, r6, r7⟩ := id h
  unfold f_X6_knowTurns
  rcases r5 with r5 | ⟨r5, r5'⟩
  · have hk := kb c0
    obtain ⟨σ1, s1, s2, s3, s4⟩ := look_S (t := 42) (q1 := 16) (sd := 0) (Or.inl rfl) (Or.inl rfl) (okM_of c0) d0 (full_lt he) hk.2.1 hk.2.2.1 (by decide) (full_cnt c0 he)
    have hf : ∀ k, k < 42 ∨ 46 ≤ k → σ1.1 k = σ.1 k := fun k hk => by
      by_cases e : k = 19
      · rw [e]; exact s3
      · exact (s2 k (by simp only [List.mem_cons, List.not_mem_nil, or_false, not_or]; omega)).1
    have hz : ∀ k, k < 42 ∨ 46 ≤ k → k ≠ 0 → (stI σ1 0 13 1).1 k = σ.1 k := fun k h1 h2 => by rw [stI_k h2]; exact hf k h1
    have hp : ∀ p, p ≠ 13 → (stI σ1 0 13 1).1 0 p = σ.1 0 p := fun p h1 => by rw [stI_s, upd_n h1, hf 0 (by omega)]
    have htn : tnC (stI σ1 0 13 1) (sC s) := by
      refine ⟨he, ?_⟩
      unfold tnOK at s4 ⊢
      rw [stI_k (show 42 ≠ 0 by decide)]; exact s4
    refine ⟨stI σ1 0 13 1, ?_, ⟨⟨c0, ?_, ?_⟩, ?_, ?_, ?_, ?_, Or.inr ⟨?_, htn⟩, ?_, ?_⟩, htn, hz, hp⟩
    · rw [r5, if_pos z00, set_S c0 a0 he, Option.bind_some, (str_S a0).1, Option.bind_some, (str_S a0).2, Option.bind_some]
      have e0 : (0 : Int32) = nI 0 := rfl
      rw [e0, s1]; rfl
    · unfold atS at a0 ⊢; rw [hz 1 (by omega) (by decide), hz (1 + 1) (by omega) (by decide), hz (1 + 2) (by omega) (by decide), hz (1 + 3) (by omega) (by decide), hz (1 + 4) (by omega) (by decide)]; exact a0
    · unfold mdAt at d0 ⊢; rw [hz 16 (by omega) (by decide), hz (16 + 1) (by omega) (by decide), hz (16 + 2) (by omega) (by decide)]; exact d0
    · unfold rowS at r1 ⊢; rw [hp 5 (by decide), hz 14 (by omega) (by decide)]; exact r1
    · unfold txtS at r2 ⊢; rw [hz 11 (by omega) (by decide), hz 12 (by omega) (by decide)]; exact r2
    · unfold refS at r3 ⊢; rw [hz 15 (by omega) (by decide)]; exact r3
    · unfold imgS atS at r4 ⊢; rw [hp 2 (by decide), hz 6 (by omega) (by decide), hz (6 + 1) (by omega) (by decide), hz (6 + 2) (by omega) (by decide), hz (6 + 3) (by omega) (by decide), hz (6 + 4) (by omega) (by decide)]; exact r4
    · rw [stI_s, upd_s]
    · unfold kn ppC at r6 ⊢; rw [hp 14 (by decide), hz 50 (by omega) (by decide), hz 51 (by omega) (by decide), hz 52 (by omega) (by decide)]; exact r6
    · rcases r7 with r7 | ⟨r7, r8⟩
      · exact Or.inl (by rw [hp 15 (by decide)]; exact r7)
      · exact Or.inr ⟨by rw [hp 15 (by decide)]; exact r7, htn, by rw [hz 55 (by omega) (by decide)]; exact r8.2⟩
  · refine ⟨σ, ?_, h, r5', fun _ _ _ => rfl, fun _ _ => rfl⟩
    rw [r5, if_neg n10]
theorem full_2 {c : Cr} (hc : okC c) (he : enough c) : full c < 4096 := pow12 hc.1 (full_lt he)
theorem vbt_S {s : St} {σ : MM} (h : RelS s σ) (he : enough (sC s)) : ∃ σ', f_X6_valueByTurns σ = some (lN (VV (mOf (sC s)) (cK (sC s) 1 + cK (sC s) 2) (cK (sC s) 1) (cK (sC s) 2) 0 (full (sC s))), σ') ∧ RelS s σ' ∧ tnC σ' (sC s) ∧ (∀ k, k < 42 ∨ 46 ≤ k → k ≠ 0 → σ'.1 k = σ.1 k) := by
  obtain ⟨σ', s1, s2, s3, s4, -⟩ := know_S h he
  obtain ⟨⟨c0, a0, -⟩, -⟩ := id s2
  refine ⟨σ', ?_, s2, s3, s4⟩
  unfold f_X6_valueByTurns
  have hc := full_cnt c0 he
  rw [s1, Option.bind_some, set_S c0 a0 he, Option.bind_some, valueOf_S (full_2 c0 he), Option.bind_some, s3.2.2.2.2 _ sub_rf (by rw [hc]; omega), vq0 hc]
theorem turns_M {s : St} {μ : MM} (h' : RelM s μ) (he : enough (sC s)) : ∃ μ', f_X7_findTurns μ = some μ' ∧ RelM s μ' ∧ hdAt μ' (mOf (sC s)) ∧ tbOK μ' (mOf (sC s)) (full (sC s)) (cK (sC s) 1) (cK (sC s) 2) := by
  obtain ⟨μ1, m1, m2, m3⟩ := RelM_hold h'
  obtain ⟨⟨c0, b0⟩, -⟩ := id m2
  have hk := kb c0
  obtain ⟨μ', n1, n2, n3⟩ := best_M (left := full (sC s)) (A := cK (sC s) 1) (B := cK (sC s) 2) (okM_of c0) m3 (full_lt he) hk.2.1 hk.2.2.1
  refine ⟨μ', ?_, best_keep m2 n2, ?_, n3⟩
  · unfold f_X7_findTurns
    rw [m1, Option.bind_some, cset_M c0 b0, Option.bind_some, chk_t ib_1_5, chk_t ib_2_5, tn_1, tn_2, b0.2.2.2 1 (by decide), b0.2.2.2 2 (by decide), n1]; rfl
  · unfold hdAt at m3 ⊢
    rw [n2.1 0 (by decide), n2.1 4 (by decide), n2.1 8 (by decide)]; exact m3
theorem turnsOf_M {c : Cr} {μ : MM} (hc : okC c) (he : enough c) (hr : atR μ c) (ht : tbOK μ (mOf c) (full c) (cK c 1) (cK c 2)) : f_X7_turnsOf μ = some (lN (VV (mOf c) (cK c 1 + cK c 2) (cK c 1) (cK c 2) 0 (full c))) := by
  have hk := kb hc
  have hcn := full_cnt hc he
  have hix := idx_lt (a := cK c 1) (b := cK c 2) (sd := 0) (S := full c) hk.2.1 hk.2.2.1 (by decide) (full_2 hc he)
  unfold f_X7_turnsOf
  rw [chk_t ib_1_5, chk_t ib_2_5, tn_1, tn_2, cset_M hc hr, Option.bind_some, hr.2.2.2 1 (by decide), hr.2.2.2 2 (by decide), show (0 : Int32) = nI 0 from rfl, idx_M, Option.bind_some, chk_t (inb_nI hix (by omega)), nI_c (by omega), ht _ _ 0 _ (Nat.le_refl _) (Nat.le_refl _) (by decide) sub_rf (by rw [hcn]; omega)]
theorem nI_ne {n : Nat} (h : 0 < n) (h2 : n < 2147483648) : ¬ nI n = 0 := nI_ne0 h h2
theorem call_pos {c : Cr} (hc : okC c) : 0 < call c ∧ call c ≤ 13 := by have := kb hc; unfold call; omega
theorem enough_dec (c : Cr) : enough c ∨ ¬ enough c := by unfold enough; omega
theorem al_turns {s : St} {σ μ : MM} (h : RelS s σ) (h' : RelM s μ) : Alike (f_X6_turns σ) (f_X7_turns μ) := by
  obtain ⟨⟨c0, a0, d0⟩, -⟩ := id h
  obtain ⟨⟨-, b0⟩, -⟩ := id h'
  have hcp := call_pos c0
  unfold f_X6_turns f_X7_turns
  rcases enough_dec (sC s) with he | he
  · obtain ⟨σ', s1, s2, -⟩ := vbt_S h he
    obtain ⟨μ', m1, m2, m3, m4⟩ := turns_M h' he
    refine ⟨lN (VV (mOf (sC s)) (cK (sC s) 1 + cK (sC s) 2) (cK (sC s) 1) (cK (sC s) 2) 0 (full (sC s))), s, σ', μ', ?_, ?_, s2, m2⟩
    · rw [(called_S c0 a0).1 he, Option.bind_some, if_neg (nI_ne (by omega) (by omega)), s1]; rfl
    · rw [(enough_M c0 b0).1 he, Option.bind_some, if_neg n10, m1, Option.bind_some, turnsOf_M c0 he m2.1.2 m4]; rfl
  · refine alike_no 3 (by decide) h h' (r := rfL (-3)) ?_ ?_
    · rw [(called_S c0 a0).2 he, Option.bind_some, if_pos z00, rl3]; rfl
    · rw [(enough_M c0 b0).2 he, Option.bind_some, if_pos z00, ml3]; rfl
/-! the row of strikes of BEST -/
theorem stq_add (a b sd i : Nat) : ∀ j, stq (stq a b sd i).1 (stq a b sd i).2.1 (stq a b sd i).2.2 j = stq a b sd (i + j) := by
  intro j
  induction j with
  | zero => rfl
  | succ j ih => show stp _ = stp (stq a b sd (i + j)); rw [ih]
theorem stk_ext {f g : Nat → Nat} {v S : Nat} : ∀ n, (∀ p, p < n → S.testBit p = true → f p = g p) → stk f v S n = stk g v S n := by
  intro n
  induction n with
  | zero => intro _; rfl
  | succ n ih =>
    intro h
    unfold stk
    rw [ih (fun p hp => h p (by omega))]
    cases stk g v S n with
    | some q => rfl
    | none =>
      dsimp only
      by_cases hb : S.testBit n = true
      · rw [h n (by omega) hb]
      · rw [if_neg (fun q => hb q.1), if_neg (fun q => hb q.1)]
theorem vq_stq {m : Mi} {a b sd i S : Nat} (hs : sd < 2) (hi : i ≤ a + b) (hc : mN m ≤ cnt S 12) (hc2 : cnt S 12 ≤ mN m + (a + b - i)) : vq m (stq a b sd i).1 (stq a b sd i).2.1 (stq a b sd i).2.2 S = vq m a b sd S := by
  obtain ⟨h1, -⟩ := stq_sum (a := a) (b := b) hs i hi
  unfold vq
  rw [stq_add, show i + ((stq a b sd i).1 + (stq a b sd i).2.1 + mN m - cnt S 12) = a + b + mN m - cnt S 12 by omega]
theorem bs_stq {m : Mi} {a b sd i S : Nat} (hs : sd < 2) (hi : i < a + b) (hc : cnt S 12 = mN m + (a + b - i)) : bs m (stq a b sd i).1 (stq a b sd i).2.1 (stq a b sd i).2.2 S = bs m a b sd S := by
  unfold bs
  rw [vq_stq hs (by omega) (by omega) (by omega), stk_ext (g := fun p => vq m a b sd (S ^^^ 2 ^ p)) 12 (fun p hp hb => by
    have := cnt_del12 hb hp
    exact vq_stq hs (by omega) (by omega) (by omega))]
def lf (m : Mi) (a b sd S : Nat) : Nat → Nat
  | 0 => S
  | i + 1 => lf m a b sd S i ^^^ 2 ^ bs m a b sd (lf m a b sd S i)
theorem lf_ok {m : Mi} {a b sd S : Nat} (hc : cnt S 12 = mN m + a + b) : ∀ i, i ≤ a + b → sub (lf m a b sd S i) S ∧ cnt (lf m a b sd S i) 12 = mN m + (a + b - i) := by
  intro i
  induction i with
  | zero => intro _; exact ⟨sub_rf, by show cnt S 12 = _; omega⟩
  | succ i ih =>
    intro hi
    obtain ⟨h1, h2⟩ := ih (by omega)
    obtain ⟨b1, b2, -⟩ := bs_ok (m := m) (a := a) (b := b) (sd := sd) (S := lf m a b sd S i) (k := a + b - i - 1) (by omega) (by omega)
    have hx := cnt_del12 b2 b1
    exact ⟨sub_tr (sub_del b2) h1, by show cnt (lf m a b sd S i ^^^ _) 12 = _; omega⟩
theorem out1 {S p : Nat} (hb : S.testBit p = true) (hp : p < 12) : nI S &&& (((1 : Int32) <<< (nI p &&& 31)) ^^^ (-1)) = nI (S ^^^ 2 ^ p) := by
  rw [sh1 p (by omega), andn2, dif_del hb]
/-- the strike that is next, in the program -/
theorem next_S {t S all a b sd i : Nat} {m : Mi} {σ : MM} (hm : okM m) (htn : tnOK σ t m all a b sd) (hall : all < 2 ^ mP m) (hS : sub S all) (hi : i < a + b) (hc : cnt S 12 = mN m + (a + b - i)) : f_X5_strikeFrom t (nI S) σ = some (nI (bs m a b sd S)) ∧ bs m a b sd S < 12 ∧ S.testBit (bs m a b sd S) = true := by
  obtain ⟨b1, b2, -⟩ := bs_ok (m := m) (a := a) (b := b) (sd := sd) (S := S) (k := a + b - i - 1) (by omega) (by omega)
  exact ⟨from_S hm htn hall hS (by omega) (by omega), b1, b2⟩
theorem line_M {s : St} {μ : MM} (h' : RelM s μ) (he : enough (sC s)) : ∃ μ', f_X7_findLine μ = some μ' ∧ RelM s μ' ∧ hdAt μ' (mOf (sC s)) ∧ μ'.1 0 16 = nI (cK (sC s) 1 + cK (sC s) 2) ∧ μ'.1 0 17 = nI (lf (mOf (sC s)) (cK (sC s) 1) (cK (sC s) 2) 0 (full (sC s)) (cK (sC s) 1 + cK (sC s) 2)) ∧ ∀ i, i < cK (sC s) 1 + cK (sC s) 2 → μ'.1 13 i = nI (bs (mOf (sC s)) (cK (sC s) 1) (cK (sC s) 2) 0 (lf (mOf (sC s)) (cK (sC s) 1) (cK (sC s) 2) 0 (full (sC s)) i)) := by
  obtain ⟨μ1, m1, m2, m3, m4⟩ := turns_M h' he
  obtain ⟨⟨c0, b0⟩, -⟩ := id m2
  have hk := kb c0
  have hm := okM_of c0
  have hcn := full_cnt c0 he
  have hfl := full_lt he
  unfold f_X7_findLine
  rw [m1, Option.bind_some, lm_eq]
  have b0' : atR (stI μ1 0 16 0) (sC s) := by unfold atR at b0 ⊢; rw [stI_s, upd_n (by decide)]; exact b0
  rw [cset_M c0 b0', Option.bind_some, lm_eq, chk_t ib_1_5, chk_t ib_2_5, tn_1, tn_2]
  generalize hμ2 : stI (stI μ1 0 16 0) 0 17 (nI (full (sC s))) = μ2
  have e4 : μ2.1 4 = μ1.1 4 := by rw [← hμ2, stI_k (by decide), stI_k (by decide)]
  rw [e4, b0.2.2.2 1 (by decide), b0.2.2.2 2 (by decide)]
  generalize hA : cK (sC s) 1 = A at hk hcn m4 ⊢
  generalize hB : cK (sC s) 2 = B at hk hcn m4 ⊢
  have h := lp_0 (step := fun s => g_X7_findLine_33 s.1 s.2.1 s.2.2.1 s.2.2.2) (fun i t => t.1 = nI (stq A B 0 i).1 ∧ t.2.1 = nI (stq A B 0 i).2.1 ∧ t.2.2.1 = nI (stq A B 0 i).2.2 ∧ (∀ k, k ≠ 0 → k ≠ 13 → t.2.2.2.1 k = μ1.1 k) ∧ (∀ p, p ≠ 16 → p ≠ 17 → t.2.2.2.1 0 p = μ1.1 0 p) ∧ t.2.2.2.2 = μ1.2 ∧ t.2.2.2.1 0 16 = nI i ∧ t.2.2.2.1 0 17 = nI (lf (mOf (sC s)) A B 0 (full (sC s)) i) ∧ ∀ j, j < i → t.2.2.2.1 13 j = nI (bs (mOf (sC s)) A B 0 (lf (mOf (sC s)) A B 0 (full (sC s)) j)))
    (fun r => (∀ k, k ≠ 0 → k ≠ 13 → r.1 k = μ1.1 k) ∧ (∀ p, p ≠ 16 → p ≠ 17 → r.1 0 p = μ1.1 0 p) ∧ r.1 0 16 = nI (A + B) ∧ r.1 0 17 = nI (lf (mOf (sC s)) A B 0 (full (sC s)) (A + B)) ∧ ∀ j, j < A + B → r.1 13 j = nI (bs (mOf (sC s)) A B 0 (lf (mOf (sC s)) A B 0 (full (sC s)) j))) (A + B) (nI A, nI B, (0 : Int32), μ2) (by omega) ⟨rfl, rfl, rfl, fun k h1 _ => by rw [← hμ2, stI_k h1, stI_k h1], fun p h1 h2 => by rw [← hμ2, stI_s, upd_n h2, stI_s, upd_n h1], by rw [← hμ2]; rfl, by rw [← hμ2, stI_s, upd_n (by decide), stI_s, upd_s]; rfl, by rw [← hμ2, stI_s, upd_s]; rfl, fun j hj => by omega⟩ ?_ ?_
  · obtain ⟨r, h1, h2, h3, h4, h5, h6⟩ := h
    refine ⟨r, by rw [h1]; rfl, RelM_keep m2 (fun p hp => h3 p (fun e => by revert hp; rw [e]; decide) (fun e => by revert hp; rw [e]; decide)) (fun k hk => h2 k (fun e => by revert hk; rw [e]; decide) (fun e => by revert hk; rw [e]; decide)), ?_, h4, h5, h6⟩
    unfold hdAt at m3 ⊢
    rw [h3 6 (by decide) (by decide), h2 4 (by decide) (by decide), h2 8 (by decide) (by decide)]; exact m3
  · rintro i ⟨x, y, z, τ⟩ hi ⟨f1, f2, f3, f4, f5, f6, f7, f8, f9⟩
    dsimp only at f1 f2 f3 f4 f5 f6 f7 f8 f9
    subst f1; subst f2; subst f3
    obtain ⟨q1, q2, q3, q4⟩ := stq_sum (a := A) (b := B) (sd := 0) (by decide) i (by omega)
    obtain ⟨l1, l2⟩ := lf_ok (m := mOf (sC s)) (a := A) (b := B) (sd := 0) hcn i (by omega)
    have hstk := bs_stq (m := mOf (sC s)) (a := A) (b := B) (sd := 0) (i := i) (S := lf (mOf (sC s)) A B 0 (full (sC s)) i) (by decide) hi l2
    obtain ⟨b1, b2, -⟩ := bs_ok (m := mOf (sC s)) (a := A) (b := B) (sd := 0) (S := lf (mOf (sC s)) A B 0 (full (sC s)) i) (k := A + B - i - 1) (by omega) (by omega)
    have htb : tbOK τ (mOf (sC s)) (full (sC s)) A B := fun a b sd S g1 g2 g3 g4 g5 => by rw [f6]; exact m4 a b sd S g1 g2 g3 g4 g5
    have hw := who_has (a := (stq A B 0 i).1) (b := (stq A B 0 i).2.1) q2 (by omega)
    have hwl := who_lt (a := (stq A B 0 i).1) (b := (stq A B 0 i).2.1) q2
    show ∃ s', g_X7_findLine_33 (nI (stq A B 0 i).1) (nI (stq A B 0 i).2.1) (nI (stq A B 0 i).2.2) τ = some (.inl s') ∧ _
    unfold g_X7_findLine_33
    rw [nI_add, if_neg (nI_nle (by omega) (by omega)), mover_M q2 (by omega) (by omega), Option.bind_some, f8, strike_M hm hfl (by omega) (by omega) q3 q4 q2 l1 (by omega) (by omega) htb, Option.bind_some, hstk, f7, chk_t (inb_nI (by omega) (by omega)), lm_eq, lm_eq, lm_eq, nI_c (by omega)]
    rw [stI_k (show 0 ≠ 13 by decide), f7, nI_1, stI_s, upd_n (show 17 ≠ 16 by decide), stI_k (show 0 ≠ 13 by decide), f8, out1 b2 b1, flip1 (by omega)]
    have hst : stq A B 0 (i + 1) = stp (stq A B 0 i) := rfl
    have fin : ∀ x' y' : Int32, x' = nI (stq A B 0 (i + 1)).1 → y' = nI (stq A B 0 (i + 1)).2.1 → ∃ s', some (Sum.inl (x', y', nI (1 - who (stq A B 0 i).1 (stq A B 0 i).2.1 (stq A B 0 i).2.2), stI (stI (stI τ 13 i (nI (bs (mOf (sC s)) A B 0 (lf (mOf (sC s)) A B 0 (full (sC s)) i)))) 0 16 (nI (i + 1))) 0 17 (nI (lf (mOf (sC s)) A B 0 (full (sC s)) i ^^^ 2 ^ bs (mOf (sC s)) A B 0 (lf (mOf (sC s)) A B 0 (full (sC s)) i))))) = some (Sum.inl s' : (Int32 × Int32 × Int32 × MM) ⊕ MM) ∧ s'.1 = nI (stq A B 0 (i + 1)).1 ∧ s'.2.1 = nI (stq A B 0 (i + 1)).2.1 ∧ s'.2.2.1 = nI (stq A B 0 (i + 1)).2.2 ∧ (∀ k, k ≠ 0 → k ≠ 13 → s'.2.2.2.1 k = μ1.1 k) ∧ (∀ p, p ≠ 16 → p ≠ 17 → s'.2.2.2.1 0 p = μ1.1 0 p) ∧ s'.2.2.2.2 = μ1.2 ∧ s'.2.2.2.1 0 16 = nI (i + 1) ∧ s'.2.2.2.1 0 17 = nI (lf (mOf (sC s)) A B 0 (full (sC s)) (i + 1)) ∧ ∀ j, j < i + 1 → s'.2.2.2.1 13 j = nI (bs (mOf (sC s)) A B 0 (lf (mOf (sC s)) A B 0 (full (sC s)) j)) := by
      intro x' y' hx' hy'
      refine ⟨_, rfl, hx', hy', rfl, fun k h1 h2 => ?_, fun p h1 h2 => ?_, f6, ?_, ?_, fun j hj => ?_⟩
      · dsimp only
        rw [stI_k h1, stI_k h1, stI_k h2]; exact f4 k h1 h2
      · dsimp only
        rw [stI_s, upd_n h2, stI_s, upd_n h1, stI_k (by decide)]; exact f5 p h1 h2
      · dsimp only
        rw [stI_s, upd_n (by decide), stI_s, upd_s]
      · dsimp only
        rw [stI_s, upd_s]; rfl
      · dsimp only
        rw [stI_k (by decide), stI_k (by decide), stI_s]
        by_cases e : j = i
        · rw [e, upd_s]
        · rw [upd_n e]; exact f9 j (by omega)
    rcases hw with ⟨w0, w1⟩ | ⟨w0, w1⟩
    · rw [if_pos (by rw [w0]; rfl)]
      refine fin _ _ ?_ ?_
      · rw [hst]; unfold stp nA; dsimp only; rw [w0, if_pos rfl, sb_m1 w1]
      · rw [hst]; unfold stp nB; dsimp only; rw [w0, if_pos rfl]
    · rw [if_neg (by rw [w0]; decide)]
      refine fin _ _ ?_ ?_
      · rw [hst]; unfold stp nA; dsimp only; rw [w0, if_neg (by decide)]
      · rw [hst]; unfold stp nB; dsimp only; rw [w0, if_neg (by decide), sb_m1 w1]
  · rintro ⟨x, y, z, τ⟩ ⟨f1, f2, f3, f4, f5, f6, f7, f8, f9⟩
    dsimp only at f1 f2 f3 f4 f5 f6 f7 f8 f9
    subst f1; subst f2; subst f3
    obtain ⟨q1, q2, q3, q4⟩ := stq_sum (a := A) (b := B) (sd := 0) (by decide) (A + B) (Nat.le_refl _)
    refine ⟨τ, ?_, f4, f5, f7, f8, f9⟩
    show g_X7_findLine_33 (nI (stq A B 0 (A + B)).1) (nI (stq A B 0 (A + B)).2.1) (nI (stq A B 0 (A + B)).2.2) τ = _
    unfold g_X7_findLine_33
    rw [nI_add, show (stq A B 0 (A + B)).1 + (stq A B 0 (A + B)).2.1 = 0 by omega, if_pos (by decide)]
theorem al_order {s : St} {σ μ : MM} (h : RelS s σ) (h' : RelM s μ) (v1 : Int32) : Alike (f_X6_order v1 σ) (f_X7_order v1 μ) := by
  obtain ⟨⟨c0, a0, d0⟩, -⟩ := id h
  obtain ⟨⟨-, b0⟩, -⟩ := id h'
  have hcp := call_pos c0
  have hk := kb c0
  have hm := okM_of c0
  unfold f_X6_order f_X7_order
  rcases enough_dec (sC s) with he | he
  · obtain ⟨μ', m1, m2, m3, m4, m5, m6⟩ := line_M h' he
    have eS : f_X0_strikes σ = some (nI (cK (sC s) 1 + cK (sC s) 2)) := by
      unfold f_X0_strikes
      rw [chk_t ib_1_5, chk_t ib_2_5, tn_1, tn_2, show σ.1 5 1 = nI (cK (sC s) 1) from a0.2.2.2 1 (by decide), show σ.1 5 2 = nI (cK (sC s) 2) from a0.2.2.2 2 (by decide), nI_add]
    have hcn := full_cnt c0 he
    have hfl := full_lt he
    by_cases hin : ∃ i, i < cK (sC s) 1 + cK (sC s) 2 ∧ v1 = nI i
    · obtain ⟨i, hi, rfl⟩ := hin
      obtain ⟨σ', s1, s2, s3, -⟩ := know_S h he
      obtain ⟨⟨-, a1, -⟩, -⟩ := id s2
      have hloop : loopN (fun s => g_X6_order_49 (nI i) s.1 s.2 σ') FU (nI (full (sC s)), (0 : Int32)) = some (nI (lf (mOf (sC s)) (cK (sC s) 1) (cK (sC s) 2) 0 (full (sC s)) i)) := by
        have hh := lp_0 (step := fun s => g_X6_order_49 (nI i) s.1 s.2 σ') (fun j t => t.1 = nI (lf (mOf (sC s)) (cK (sC s) 1) (cK (sC s) 2) 0 (full (sC s)) j) ∧ t.2 = nI j) (fun r => r = nI (lf (mOf (sC s)) (cK (sC s) 1) (cK (sC s) 2) 0 (full (sC s)) i)) i (nI (full (sC s)), (0 : Int32)) (by omega) ⟨rfl, rfl⟩ ?_ ?_
        · obtain ⟨r, q1, q2⟩ := hh
          rw [q1, q2]
        · rintro j ⟨x, y⟩ hj ⟨e1, e2⟩
          dsimp only at e1 e2
          subst e1; subst e2
          obtain ⟨l1, l2⟩ := lf_ok (m := mOf (sC s)) (a := cK (sC s) 1) (b := cK (sC s) 2) (sd := 0) hcn j (by omega)
          obtain ⟨g1, g2, g3⟩ := next_S (i := j) hm s3.2 hfl l1 (by omega) l2
          show ∃ s', g_X6_order_49 (nI i) _ (nI j) σ' = some (.inl s') ∧ _
          unfold g_X6_order_49
          rw [if_neg (nI_ge hj (by omega)), g1, Option.bind_some, out1 g3 g2]
          exact ⟨_, rfl, rfl, nI_1 j⟩
        · rintro ⟨x, y⟩ ⟨e1, e2⟩
          dsimp only at e1 e2
          subst e1; subst e2
          refine ⟨_, ?_, rfl⟩
          show g_X6_order_49 (nI i) _ (nI i) σ' = _
          unfold g_X6_order_49
          rw [if_pos (nI_le (Nat.le_refl _) (by omega))]
      obtain ⟨l1, l2⟩ := lf_ok (m := mOf (sC s)) (a := cK (sC s) 1) (b := cK (sC s) 2) (sd := 0) hcn i (by omega)
      obtain ⟨g1, g2, g3⟩ := next_S (i := i) hm s3.2 hfl l1 hi l2
      refine ⟨nI (bs (mOf (sC s)) (cK (sC s) 1) (cK (sC s) 2) 0 (lf (mOf (sC s)) (cK (sC s) 1) (cK (sC s) 2) 0 (full (sC s)) i)), s, σ', μ', ?_, ?_, s2, m2⟩
      · rw [(called_S c0 a0).1 he, Option.bind_some, if_neg (nI_ne (by omega) (by omega)), if_neg (nI_pos (by omega)), eS, Option.bind_some, if_pos (nI_lt hi (by omega)), s1, Option.bind_some, set_S c0 a1 he, Option.bind_some, hloop, Option.bind_some, g1]; rfl
      · rw [(enough_M c0 b0).1 he, Option.bind_some, if_neg n10, m1, Option.bind_some, m4, nI_sub1 (by omega), isIn_y (nI_pos (by omega)) (nI_nlt (by omega) (by omega)), Option.bind_some, if_neg n10, chk_t (inb_nI (by omega) (by omega)), nI_c (by omega), m6 i hi]
    · by_cases h0 : v1 < 0
      · refine ⟨-9, s, σ, μ', ?_, ?_, h, m2⟩
        · rw [(called_S c0 a0).1 he, Option.bind_some, if_neg (nI_ne (by omega) (by omega)), if_pos h0]
        · rw [(enough_M c0 b0).1 he, Option.bind_some, if_neg n10, m1, Option.bind_some, isIn_n (Or.inl h0), Option.bind_some, if_pos z00]
      · have hge : nI (cK (sC s) 1 + cK (sC s) 2) ≤ v1 := by
          rcases pk_ix v1 (n := cK (sC s) 1 + cK (sC s) 2) (by omega) with q | q | q
          · exact absurd q h0
          · exact q
          · exact absurd q hin
        refine ⟨-9, s, σ, μ', ?_, ?_, h, m2⟩
        · rw [(called_S c0 a0).1 he, Option.bind_some, if_neg (nI_ne (by omega) (by omega)), if_neg h0, eS, Option.bind_some, if_neg (nle.mp hge)]
        · rw [(enough_M c0 b0).1 he, Option.bind_some, if_neg n10, m1, Option.bind_some, isIn_n (Or.inr ?_), Option.bind_some, if_pos z00]
          rw [m4, fa_lt]
          rw [fa_le, nI_toInt (by omega)] at hge
          by_cases hz : cK (sC s) 1 + cK (sC s) 2 = 0
          · rw [hz]
            have e : (nI 0 - 1 : Int32).toInt = -1 := by decide
            rw [e]
            rw [fa_lt] at h0
            have e0 : (0 : Int32).toInt = 0 := rfl
            omega
          · rw [nI_sub1 (by omega), nI_toInt (by omega)]; omega
  · refine alike_no 3 (by decide) h h' (r := -3) ?_ ?_
    · rw [(called_S c0 a0).2 he, Option.bind_some, if_pos z00, rf3]; rfl
    · rw [(enough_M c0 b0).2 he, Option.bind_some, if_pos z00, rm3]; rfl
