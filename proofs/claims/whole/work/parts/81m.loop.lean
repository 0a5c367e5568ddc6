/-! the loop over the script -/
theorem and31 (x : Int32) : ∃ k, k < 32 ∧ x &&& 31 = nI k := by
  refine ⟨(x &&& 31).toBitVec.toNat, ?_, ?_⟩
  · have h : (x &&& 31).toBitVec.toNat = x.toBitVec.toNat &&& 31 := by
      rw [Int32.toBitVec_and, BitVec.toNat_and]
      rfl
    rw [h]
    have := Nat.and_le_right (n := x.toBitVec.toNat) (m := 31)
    omega
  · apply Int32.toBitVec_inj.mp
    rw [nI_bv, BitVec.ofNat_toNat, BitVec.setWidth_eq]
theorem gt4 {L t : Nat} (hL : L ≤ 2048) (ht : t ≤ L) (h : ¬ (nI L - nI 4 < nI t)) : t + 4 ≤ L := by
  apply Nat.not_lt.mp
  intro hc
  apply h
  by_cases h4 : 4 ≤ L
  · have e : nI L - nI 4 = nI (L - 4) := by
      have e1 : nI L = nI (L - 4) + nI 4 := by rw [nI_add, Nat.sub_add_cancel h4]
      rw [e1, Int32.add_sub_cancel]
    rw [e]
    exact (nI_lt_iff (by omega) (by omega)).mpr (by omega)
  · have h1 : L = 0 ∨ L = 1 ∨ L = 2 ∨ L = 3 := by omega
    have h2 : t = 0 ∨ t = 1 ∨ t = 2 ∨ t = 3 := by omega
    rcases h1 with h1 | h1 | h1 | h1 <;> rcases h2 with h2 | h2 | h2 | h2 <;> subst h1 <;> subst h2 <;> first | decide | omega
section LO
variable {p : Program} {l : Launch} {e : Env} {s : State} {m : MethodId} {below : List Frame} {meth : Method} {c : Code} {b L : Nat} {xs : Nat → Int32} {GS GM : Gx} {σ μ : MM} {i : Int32} {pc t : Nat} {st : List Value} {S : St}
theorem y_iinc4 (C : LC p l s m meth c b L xs GS GM) (k : LJ p l e s m below meth c b GS GM σ μ (nI (t + 4)) 984 st) : LJ p l e s m below meth c b GS GM σ μ (nI t) 981 st := fun H locs ls h1 h2 hS hl => lv_iinc (k := 0) (v := nI (t + 4)) (lv' := [(3, .int (nI (t + 4))), (2, .ref (gad GM 0)), (1, .ref (gad GS 0)), (0, .ref b)]) C.1.1 C.1.2.1 dL_law_981 hl rfl (nI_add t 4) (by decide) rfl (fun ls hl => k H locs ls h1 h2 hS hl)
theorem y_exit (C : LC p l s m meth c b L xs GS GM) : LJ p l e s m below meth c b GS GM σ μ i 987 [] := fun H locs ls h1 h2 hS hl => lv_iconst (v := 1) C.1.1 C.1.2.1 dL_law_987 rfl (va_forget hS.2.2 (W.widen (k := 600000) (n := 7302250) (Nat.le_of_ble_eq_true rfl) (Nat.le_of_ble_eq_true rfl) (lw_ret C.1.1 C.1.2.1 C.2.2.2.1.1 C.2.2.2.1.2 dL_law_988)))
theorem y_table {k : Nat} {off : Int} {tgt : Nat} (C : LC p l s m meth c b L xs GS GM) (hk : k < 32) (ho : (#[144, 187, 210, 223, 256, 319, 332, 356, 380, 424, 467, 481, 504, 527, 540, 553, 593, 607, 631, 644, 667, 701, 715, 738, 772, 785, 809, 822, 866, 900, 913, 926] : Array Int)[k]? = some off) (ht : ((32 : Nat) : Int) + off = (tgt : Int)) (kk : LJ p l e s m below meth c b GS GM σ μ i tgt st) : LJ p l e s m below meth c b GS GM σ μ i 32 (.int (nI k) :: st) := by
  intro H locs ls h1 h2 hS hl
  have e : (nI k).toInt = (k : Int) := nI_toInt (by omega)
  refine lv_tableIn (off := off) (tgt := tgt) C.1.1 C.1.2.1 dL_law_32 (by rw [e]; omega) (by rw [e]; omega) ?_ ht (kk H locs ls h1 h2 hS hl)
  rw [e, Int.sub_zero, Int.toNat_natCast]
  exact ho
theorem law_step (C : LC p l s m meth c b L xs GS GM) (hL : L ≤ 2048) (ht : t ≤ L) (hS : RelS S σ) (hM : RelM S μ) (K : t + 4 ≤ L → ∀ (S' : St) (σ' μ' : MM), RelS S' σ' → RelM S' μ' → LJ p l e s m below meth c b GS GM σ' μ' (nI (t + 4)) 18 []) : LJ p l e s m below meth c b GS GM σ μ (nI t) 18 [] := by
  refine y_iload3 C dL_law_18 (y_aload0 C dL_law_19 (y_slen C dL_law_20 (y_iconst (v := nI 4) C dL_law_21 rfl (y_isub C dL_law_22 (y_icmp_gt (tgt := 987) C dL_law_23 rfl (fun _ => y_exit C) (fun q => ?_))))))
  have h4 : t + 4 ≤ L := gt4 hL ht q
  refine y_aload0 C dL_law_26 (y_iload3 C dL_law_27 (y_sld C hL (by omega) dL_law_28 (y_bipush (v := 31) C dL_law_29 rfl (y_iand C dL_law_31 ?_))))
  have K9 : ∀ (S' : St) (σ' μ' : MM), RelS S' σ' → RelM S' μ' → LJ p l e s m below meth c b GS GM σ' μ' (nI t) 981 [] := fun S' σ' μ' h1 h2 => y_iinc4 C (y_goto (tgt := 18) C dL_law_984 rfl (K h4 S' σ' μ' h1 h2))
  obtain ⟨k, hk, ek⟩ := and31 (xs t)
  rw [ek]
  match k, hk with
  | 0, _ => exact y_table (off := 144) (tgt := 176) C (by decide) rfl rfl (lk_sort C hL h4 hS hM K9)
  | 1, _ => exact y_table (off := 187) (tgt := 219) C (by decide) rfl rfl (lk_person C hL h4 hS hM K9)
  | 2, _ => exact y_table (off := 210) (tgt := 242) C (by decide) rfl rfl (lk_takeBack C hL h4 hS hM K9)
  | 3, _ => exact y_table (off := 223) (tgt := 255) C (by decide) rfl rfl (lk_set C hL h4 hS hM K9)
  | 4, _ => exact y_table (off := 256) (tgt := 288) C (by decide) rfl rfl (lk_feed C hL h4 hS hM K9)
  | 5, _ => exact y_table (off := 319) (tgt := 351) C (by decide) rfl rfl (lk_court C hL h4 hS hM K9)
  | 6, _ => exact y_table (off := 332) (tgt := 364) C (by decide) rfl rfl (lk_chance C hL h4 hS hM K9)
  | 7, _ => exact y_table (off := 356) (tgt := 388) C (by decide) rfl rfl (lk_right C hL h4 hS hM K9)
  | 8, _ => exact y_table (off := 380) (tgt := 412) C (by decide) rfl rfl (lk_best C hL h4 hS hM K9)
  | 9, _ => exact y_table (off := 424) (tgt := 456) C (by decide) rfl rfl (lk_strike C hL h4 hS hM K9)
  | 10, _ => exact y_table (off := 467) (tgt := 499) C (by decide) rfl rfl (lk_turns C hL h4 hS hM K9)
  | 11, _ => exact y_table (off := 481) (tgt := 513) C (by decide) rfl rfl (lk_order C hL h4 hS hM K9)
  | 12, _ => exact y_table (off := 504) (tgt := 536) C (by decide) rfl rfl (lk_put C hL h4 hS hM K9)
  | 13, _ => exact y_table (off := 527) (tgt := 559) C (by decide) rfl rfl (lk_unput C hL h4 hS hM K9)
  | 14, _ => exact y_table (off := 540) (tgt := 572) C (by decide) rfl rfl (lk_lawful C hL h4 hS hM K9)
  | 15, _ => exact y_table (off := 553) (tgt := 585) C (by decide) rfl rfl (lk_slip C hL h4 hS hM K9)
  | 16, _ => exact y_table (off := 593) (tgt := 625) C (by decide) rfl rfl (lk_second C hL h4 hS hM K9)
  | 17, _ => exact y_table (off := 607) (tgt := 639) C (by decide) rfl rfl (lk_more C hL h4 hS hM K9)
  | 18, _ => exact y_table (off := 631) (tgt := 663) C (by decide) rfl rfl (lk_rests C hL h4 hS hM K9)
  | 19, _ => exact y_table (off := 644) (tgt := 676) C (by decide) rfl rfl (lk_rest C hL h4 hS hM K9)
  | 20, _ => exact y_table (off := 667) (tgt := 699) C (by decide) rfl rfl (lk_paper C hL h4 hS hM K9)
  | 21, _ => exact y_table (off := 701) (tgt := 733) C (by decide) rfl rfl (lk_coming C hL h4 hS hM K9)
  | 22, _ => exact y_table (off := 715) (tgt := 747) C (by decide) rfl rfl (lk_come C hL h4 hS hM K9)
  | 23, _ => exact y_table (off := 738) (tgt := 770) C (by decide) rfl rfl (lk_seldom C hL h4 hS hM K9)
  | 24, _ => exact y_table (off := 772) (tgt := 804) C (by decide) rfl rfl (lk_finest C hL h4 hS hM K9)
  | 25, _ => exact y_table (off := 785) (tgt := 817) C (by decide) rfl rfl (lk_lot C hL h4 hS hM K9)
  | 26, _ => exact y_table (off := 809) (tgt := 841) C (by decide) rfl rfl (lk_trade C hL h4 hS hM K9)
  | 27, _ => exact y_table (off := 822) (tgt := 854) C (by decide) rfl rfl (lk_wrongly C hL h4 hS hM K9)
  | 28, _ => exact y_table (off := 866) (tgt := 898) C (by decide) rfl rfl (lk_asked C hL h4 hS hM K9)
  | 29, _ => exact y_table (off := 900) (tgt := 932) C (by decide) rfl rfl (lk_image C hL h4 hS hM K9)
  | 30, _ => exact y_table (off := 913) (tgt := 945) C (by decide) rfl rfl (lk_restore C hL h4 hS hM K9)
  | 31, _ => exact y_table (off := 926) (tgt := 958) C (by decide) rfl rfl (lk_count C hL h4 hS hM K9)
  | q + 32, h => exact absurd h (by omega)
theorem law_loop (C : LC p l s m meth c b L xs GS GM) (hL : L ≤ 2048) : ∀ (n t : Nat) (S : St) (σ μ : MM), t ≤ L → L - t ≤ n → RelS S σ → RelM S μ → LJ p l e s m below meth c b GS GM σ μ (nI t) 18 []
  | 0, t, S, σ, μ, ht, hn, hS, hM => law_step C hL ht hS hM (fun h => absurd h (by omega))
  | n + 1, t, S, σ, μ, ht, hn, hS, hM => law_step C hL ht hS hM (fun h S' σ' μ' h1 h2 => law_loop C hL n (t + 4) S' σ' μ' h (by omega) h1 h2)
end LO
