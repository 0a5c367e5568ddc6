abbrev ntys (cI cL cB cV : ClassId) : List (ClassId × FieldType) := [(cI, .int), (cL, .long), (cB, .byte), (cV, .array .long)]
def w1_X4_init (cI cL cB : ClassId) (h0 : Nat) (u : Nat × Nat) : va_W := [(h0, .inr (4, [.ref u.1, .ref u.2, .int 0, .int 0, .int 0])), (u.1, .inl (cB, 80, .inl (fun _ => 0))), (u.2, .inl (cI, 12, .inl (fun _ => 0)))]
set_option maxHeartbeats 4000000 in
theorem c_X4_init (l : Launch) (D : va_G) (cI cL cB cV : ClassId) (h0 sz : Nat) : Met l yX4_init (.code yX4_init cX4_init 1 none :: wsL_law) ({ frames := 1, cells := 2, slots := 92, locals := 12 }) (va_Pc [.ref h0] (fun U => U.heap.size = sz ∧ va_P D vwCl [(h0, .inr (4, [.null, .null, .int 0, .int 0, .int 0]))] U.heap ∧ va_K D vwCl (ntys cI cL cB cV) U ∧ va_D (fun _ => True) [(h0, .inr (4, [.null, .null, .int 0, .int 0, .int 0]))])) (va_Qv (fun _ : Nat × Nat => True) (fun u t => va_P D vwCl (w1_X4_init cI cL cB h0 u) t.heap ∧ va_D (va_A [(h0, .inr (4, [.null, .null, .int 0, .int 0, .int 0]))] sz) (w1_X4_init cI cL cB h0 u)) (va_A [(h0, .inr (4, [.null, .null, .int 0, .int 0, .int 0]))] sz)) 2 92 (va_A [(h0, .inr (4, [.null, .null, .int 0, .int 0, .int 0]))] sz) := by
  refine Met.ofW (cc := cX4_init) (maxL := 1) (ret := none) (by decide) rfl ?_
  intro p e s m args below meth c s₁ B hml hv
  obtain ⟨rfl, hsz, hP, hK, hD0⟩ := hv
  have hx := B.exec
  have hb := B.bytes
  have hr := B.returns
  have hts := atoms_spec (ws := (.code yX4_init cX4_init 1 none :: wsL_law)) B.pre
  have hown : s.vm.findClass RX4 = some m.cls := findClass_of_methodNamed B.named
  have hlocks := B.notSynchronized
  have hin : meth.name = "<init>" := (name_of_methodNamed B.named B.method).1
  subst hsz
  have hD := hD0.self (sz := s.heap.size)
  generalize hAe : va_A [(h0, .inr (4, [.null, .null, .int 0, .int 0, .int 0]))] s.heap.size = A at hD ⊢
  have hA : ∀ q : Nat, s.heap.size ≤ q → A q := fun q h => by rw [← hAe]; exact Or.inr h
  have hS : va_S A s.heap s.heap [] := va_S.rf
  have hP : va_P D vwCl [(h0, .inr (4, [.null, .null, .int 0, .int 0, .int 0]))] s.heap := hP
  have hl := lv_entry ([.ref h0]) (n := 1) (Nat.le_of_ble_eq_true rfl)
  rw [lg_entry_eq]
  generalize (lg_sl ([.ref h0]) ++ List.replicate (1 - (lg_sl ([.ref h0])).length) Slot.unset).toArray = ls at hl ⊢
  have hl : lv_has ls 1 [(0, .ref h0)] := hl
  refine lv_aload_n hx hb dX4_init_0 rfl (lv_at hl 0 rfl) ?_
  refine W.objInit hx hb hown (hts _ (List.mem_cons_of_mem _ wq_53)) (hts _ (List.mem_cons_of_mem _ wq_11)) (hts _ (List.mem_cons_of_mem _ wq_12)) rfl (by rw [hml]; exact hl.1) rfl dX4_init_1 (Nat.le_of_ble_eq_true rfl) (Nat.le_of_ble_eq_true rfl) ?_
  refine W.eq (g2 := F0 m 4 ls []) rfl ?_
  refine lv_aload_n hx hb dX4_init_4 rfl (lv_at hl 0 rfl) ?_
  refine lv_bipush (v := 80) hx hb dX4_init_5 rfl ?_
  refine va_newa (atype := .byte) (ty := .byte) (a0 := (80, .inl (fun _ => 0))) hx hb (hts _ (List.mem_cons_of_mem _ wq_54)) rfl hK hP hD hS hA (fun _ => rfl) (by decide) rfl (Nat.le_of_ble_eq_true rfl) (Nat.le_of_ble_eq_true rfl) (Nat.le_of_ble_eq_true rfl) dX4_init_7 (fun q7 cA H hK9 hP hD hS => ?_)
  have e9 : cB = cA := Option.some.inj ((va_nm_byte (hK.2 2 (cB, .byte) rfl).2).symm.trans (va_nm_byte (hK9.2 4 (cA, .byte) rfl).2))
  subst e9
  have hP : va_P D vwCl [(h0, .inr (4, [.null, .null, .int 0, .int 0, .int 0])), (q7, .inl (cB, 80, .inl (fun _ => 0)))] H := hP
  have hD : va_D A [(h0, .inr (4, [.null, .null, .int 0, .int 0, .int 0])), (q7, .inl (cB, 80, .inl (fun _ => 0)))] := hD
  refine va_putF (D := D) (ci := 4) (v := .ref q7) (ty := tyX4 0) (C := RX4) (T := TX4) (N := 5) hx hb hts (fun w h => List.mem_cons_of_mem _ (inlX4 w h)) tyX4 tyX4_ok nmX4 hown hK hP hD hS 0 rfl rfl 0 (by decide) (hts _ (List.mem_cons_of_mem _ wq_55)) (fun _ h9 => h9) rfl hin rfl (by decide +kernel) rfl rfl (Nat.le_of_ble_eq_true rfl) dX4_init_9 (fun H locs hP hD hS => ?_)
  have hP : va_P D vwCl [(h0, .inr (4, [.ref q7, .null, .int 0, .int 0, .int 0])), (q7, .inl (cB, 80, .inl (fun _ => 0)))] H := hP
  have hD : va_D A [(h0, .inr (4, [.ref q7, .null, .int 0, .int 0, .int 0])), (q7, .inl (cB, 80, .inl (fun _ => 0)))] := hD
  refine lv_aload_n hx hb dX4_init_12 rfl (lv_at hl 0 rfl) ?_
  refine lv_bipush (v := 12) hx hb dX4_init_13 rfl ?_
  refine va_newa (atype := .int) (ty := .int) (a0 := (12, .inl (fun _ => 0))) hx hb (hts _ (List.mem_cons_of_mem _ wq_23)) rfl hK hP hD hS hA (fun _ => rfl) (by decide) rfl (Nat.le_of_ble_eq_true rfl) (Nat.le_of_ble_eq_true rfl) (Nat.le_of_ble_eq_true rfl) dX4_init_15 (fun q15 cA H hK9 hP hD hS => ?_)
  have e9 : cI = cA := Option.some.inj ((va_nm_int (hK.2 0 (cI, .int) rfl).2).symm.trans (va_nm_int (hK9.2 4 (cA, .int) rfl).2))
  subst e9
  have hP : va_P D vwCl [(h0, .inr (4, [.ref q7, .null, .int 0, .int 0, .int 0])), (q7, .inl (cB, 80, .inl (fun _ => 0))), (q15, .inl (cI, 12, .inl (fun _ => 0)))] H := hP
  have hD : va_D A [(h0, .inr (4, [.ref q7, .null, .int 0, .int 0, .int 0])), (q7, .inl (cB, 80, .inl (fun _ => 0))), (q15, .inl (cI, 12, .inl (fun _ => 0)))] := hD
  refine va_putF (D := D) (ci := 4) (v := .ref q15) (ty := tyX4 1) (C := RX4) (T := TX4) (N := 5) hx hb hts (fun w h => List.mem_cons_of_mem _ (inlX4 w h)) tyX4 tyX4_ok nmX4 hown hK hP hD hS 0 rfl rfl 1 (by decide) (hts _ (List.mem_cons_of_mem _ wq_56)) (fun _ h9 => h9) rfl hin rfl (by decide +kernel) rfl rfl (Nat.le_of_ble_eq_true rfl) dX4_init_17 (fun H locs hP hD hS => ?_)
  have hP : va_P D vwCl [(h0, .inr (4, [.ref q7, .ref q15, .int 0, .int 0, .int 0])), (q7, .inl (cB, 80, .inl (fun _ => 0))), (q15, .inl (cI, 12, .inl (fun _ => 0)))] H := hP
  have hD : va_D A [(h0, .inr (4, [.ref q7, .ref q15, .int 0, .int 0, .int 0])), (q7, .inl (cB, 80, .inl (fun _ => 0))), (q15, .inl (cI, 12, .inl (fun _ => 0)))] := hD
  exact W.vret hx hb hr (fun t ht hW => ⟨⟨(q7, q15), rfl, trivial, by rw [ht]; exact hP, hD⟩, hS.F ht⟩) hS.2.2 dX4_init_20
