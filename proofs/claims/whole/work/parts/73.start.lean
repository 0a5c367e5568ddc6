/-! the two memories are related at the start: no people, leans of 50, terms 3 1 1 0 50, no text, no row, no refusal, no image -/
def crt0 : Cr := (0, fun k => if k = 0 then 3 else if k = 1 then 1 else if k = 2 then 1 else if k = 3 then 0 else 50, fun _ => 0, fun _ => 50, fun _ => 50)
def stt0 : St := (crt0, (0, fun _ => 0), (0, fun _ => 0), (0, crt0), fun _ => 0)
theorem okC0 : okC crt0 := by
  refine ⟨by decide, fun k hk => ?_, fun i h => absurd h (Nat.not_lt_zero _), fun i _ => ⟨show 50 ≤ 100 by decide, show 50 ≤ 100 by decide⟩⟩
  match k, hk with
  | 0, _ => decide
  | 1, _ => decide
  | 2, _ => decide
  | 3, _ => decide
  | 4, _ => decide
  | q + 5, h => exact absurd h (by omega)
theorem atS0 : atS sS0 1 crt0 := by
  refine ⟨rfl, fun i hi => ?_, fun i h => absurd h (Nat.not_lt_zero _), fun k hk => ?_⟩
  · match i, hi with
    | 0, _ => exact ⟨rfl, rfl⟩
    | 1, _ => exact ⟨rfl, rfl⟩
    | 2, _ => exact ⟨rfl, rfl⟩
    | 3, _ => exact ⟨rfl, rfl⟩
    | 4, _ => exact ⟨rfl, rfl⟩
    | 5, _ => exact ⟨rfl, rfl⟩
    | q + 6, h => exact absurd h (by omega)
  · match k, hk with
    | 0, _ => rfl
    | 1, _ => rfl
    | 2, _ => rfl
    | 3, _ => rfl
    | 4, _ => rfl
    | q + 5, h => exact absurd h (by omega)
theorem start_S : ∃ σ', f_X2_take 16 sS0 = some σ' ∧ RelS stt0 σ' := by
  obtain ⟨σ', h1, h2, h3, h4⟩ := take_S (b := 16) (c := crt0) (Or.inl rfl) okC0 atS0
  have e : ∀ k, k < 16 → σ'.1 k = sS0.1 k := fun k hk => h2 k (by omega) (by omega) (by omega)
  refine ⟨σ', h1, ⟨okC0, ?_, h4⟩, ⟨by decide, ?_, fun i h => absurd h (Nat.not_lt_zero _)⟩, ⟨by decide, ?_, fun i h => absurd h (Nat.not_lt_zero _)⟩, fun k hk => ?_, Or.inl ⟨rfl, ?_⟩, Or.inl ?_, Or.inl ?_, Or.inl ?_⟩
  · have h := atS0
    unfold atS at h ⊢
    rw [e 1 (by decide), e (1 + 1) (by decide), e (1 + 2) (by decide), e (1 + 3) (by decide), e (1 + 4) (by decide)]
    exact h
  · rw [e 0 (by decide)]; rfl
  · rw [e 11 (by decide)]; rfl
  · rw [e 15 (by decide)]; rfl
  · rw [e 0 (by decide)]; rfl
  · rw [e 0 (by decide)]; rfl
  · rw [e 0 (by decide)]; rfl
  · rw [e 0 (by decide)]; rfl
theorem start_M : RelM stt0 sM0 := by
  refine ⟨⟨okC0, rfl, fun i hi => ?_, fun i h => absurd h (Nat.not_lt_zero _), fun k hk => ?_⟩, ⟨by decide, rfl, fun i h => absurd h (Nat.not_lt_zero _)⟩, ⟨by decide, rfl, fun i h => absurd h (Nat.not_lt_zero _)⟩, fun k _ => rfl, Or.inl ⟨rfl, rfl⟩, fun k hk => ?_⟩
  · match i, hi with
    | 0, _ => exact ⟨rfl, rfl⟩
    | 1, _ => exact ⟨rfl, rfl⟩
    | 2, _ => exact ⟨rfl, rfl⟩
    | 3, _ => exact ⟨rfl, rfl⟩
    | 4, _ => exact ⟨rfl, rfl⟩
    | 5, _ => exact ⟨rfl, rfl⟩
    | q + 6, h => exact absurd h (by omega)
  · match k, hk with
    | 0, _ => rfl
    | 1, _ => rfl
    | 2, _ => rfl
    | 3, _ => rfl
    | 4, _ => rfl
    | q + 5, h => exact absurd h (by omega)
  · match k, hk with
    | 0, _ => exact ⟨rfl, rfl⟩
    | 1, _ => exact ⟨rfl, rfl⟩
    | 2, _ => exact ⟨rfl, rfl⟩
    | 3, _ => exact ⟨rfl, rfl⟩
    | 4, _ => exact ⟨rfl, rfl⟩
    | q + 5, h => exact absurd h (by omega)
