abbrev ntys (cI cL cB cV : ClassId) : List (ClassId × FieldType) := [(cI, .int), (cL, .long), (cB, .byte), (cV, .array .long)]
theorem nmV : "[" ++ (FieldType.array .long).toString = "[[J" := by decide +kernel
theorem innV : ∀ c : ClassId, Jvm.Free.Multi.innerC c 8 (defaultValue .long) = vp_cell c (8, .inr (.inl (fun _ => 0))) := by
  intro c
  show ({ cls := c, slots := Array.replicate 8 (Value.long 0), vm := .none } : Cell) = _
  rw [arrV_new]
  rfl
def w1_X4_init (cI cL cB cV : ClassId) (h0 : Nat) (u : Nat × Nat) : va_W := [(h0, .inr (4, [.ref u.1, .ref u.2, .int 0, .int 0, .int 0])), (u.1, .inl (cB, 80, .inl (fun _ => 0))), (u.2, .inl (cI, 12, .inl (fun _ => 0)))]
set_option maxHeartbeats 4000000 in
theorem c_X4_init (l : Launch) (D : va_G) (cI cL cB cV : ClassId) (h0 sz : Nat) : Met l yX4_init (.code yX4_init cX4_init 1 none :: wsL_law) ({ frames := 1, cells := 2, slots := 92, locals := 12 }) (va_Pc [.ref h0] (fun U => U.heap.size = sz ∧ va_P D vwCl [(h0, .inr (4, [.null, .null, .int 0, .int 0, .int 0]))] U.heap ∧ va_K D vwCl (ntys cI cL cB cV) U ∧ va_D (fun _ => True) [(h0, .inr (4, [.null, .null, .int 0, .int 0, .int 0]))])) (va_Qv (fun _ : Nat × Nat => True) (fun u t => va_P D vwCl (w1_X4_init cI cL cB cV h0 u) t.heap ∧ va_D (va_A [(h0, .inr (4, [.null, .null, .int 0, .int 0, .int 0]))] sz) (w1_X4_init cI cL cB cV h0 u)) (va_A [(h0, .inr (4, [.null, .null, .int 0, .int 0, .int 0]))] sz)) 2 92 (va_A [(h0, .inr (4, [.null, .null, .int 0, .int 0, .int 0]))] sz) := by
  refine Met.ofW (cc := cX4_init) (maxL := 1) (ret := none) (by decide) rfl ?_
  intro p e s m args below meth c s₁ B hml hv
  obtain ⟨rfl, hsz, hP, hK, hD0⟩ := hv
  have hx := B.exec
  have hb := B.bytes
  have hr := B.returns
  have hts : ∀ w ∈ wsL_law, w.before _ s = true := fun w h => atoms_spec (ws := (.code yX4_init cX4_init 1 none :: wsL_law)) B.pre w (List.mem_cons_of_mem _ h)
  have hown : s.vm.findClass RX4 = some m.cls := findClass_of_methodNamed B.named
  have hlocks := B.notSynchronized
  have hin : meth.name = "<init>" := (name_of_methodNamed B.named B.method).1
  subst hsz
  have hD := hD0.self (sz := s.heap.size)
  generalize hAe : va_A [(h0, .inr (4, [.null, .null, .int 0, .int 0, .int 0]))] s.heap.size = A at hD ⊢
  have hA : ∀ q : Nat, s.heap.size ≤ q → A q := fun q h => by rw [← hAe]; exact Or.inr h
  have hS : va_S A s.heap s.heap [] := va_S.rf
  have hP : va_P D vwCl [(h0, .inr (4, [.null, .null, .int 0, .int 0, .int 0]))] s.heap := hP
  have hl := lv_entry ([.ref h0]) (n := 1) (Nat.le_of_ble_eq_true rfl)
  rw [lg_entry_eq]
  generalize (lg_sl ([.ref h0]) ++ List.replicate (1 - (lg_sl ([.ref h0])).length) Slot.unset).toArray = ls at hl ⊢
  have hl : lv_has ls 1 [(0, .ref h0)] := hl
  refine lv_aload_n hx hb dX4_init_0 rfl (lv_at hl 0 rfl) ?_
  refine W.objInit hx hb hown (hts _ wq_53) (hts _ wq_11) (hts _ wq_12) rfl (by rw [hml]; exact hl.1) rfl dX4_init_1 (Nat.le_of_ble_eq_true rfl) (Nat.le_of_ble_eq_true rfl) ?_
  refine W.eq (g2 := F0 m 4 ls []) rfl ?_
  refine lv_aload_n hx hb dX4_init_4 rfl (lv_at hl 0 rfl) ?_
  refine lv_bipush (v := 80) hx hb dX4_init_5 rfl ?_
  refine va_newa (atype := .byte) (ty := .byte) (a0 := (80, .inl (fun _ => 0))) hx hb (hts _ wq_54) rfl hK hP hD hS hA (fun _ => rfl) (by decide) rfl (Nat.le_of_ble_eq_true rfl) (Nat.le_of_ble_eq_true rfl) (Nat.le_of_ble_eq_true rfl) dX4_init_7 (fun q7 cA H hK9 hP hD hS => ?_)
  have e9 : cB = cA := Option.some.inj ((va_nm_byte (hK.2 2 (cB, .byte) rfl).2).symm.trans (va_nm_byte (hK9.2 4 (cA, .byte) rfl).2))
  subst e9
  have hP : va_P D vwCl [(h0, .inr (4, [.null, .null, .int 0, .int 0, .int 0])), (q7, .inl (cB, 80, .inl (fun _ => 0)))] H := hP
  have hD : va_D A [(h0, .inr (4, [.null, .null, .int 0, .int 0, .int 0])), (q7, .inl (cB, 80, .inl (fun _ => 0)))] := hD
  refine va_putF (D := D) (ci := 4) (v := .ref q7) (ty := tyX4 0) (C := RX4) (T := TX4) (N := 5) hx hb hts inlX4 tyX4 tyX4_ok nmX4 hown hK hP hD hS 0 rfl rfl 0 (by decide) (hts _ wq_55) (fun _ h9 => h9) rfl hin rfl (by decide +kernel) rfl rfl (Nat.le_of_ble_eq_true rfl) dX4_init_9 (fun H locs hP hD hS => ?_)
  have hP : va_P D vwCl [(h0, .inr (4, [.ref q7, .null, .int 0, .int 0, .int 0])), (q7, .inl (cB, 80, .inl (fun _ => 0)))] H := hP
  have hD : va_D A [(h0, .inr (4, [.ref q7, .null, .int 0, .int 0, .int 0])), (q7, .inl (cB, 80, .inl (fun _ => 0)))] := hD
  refine lv_aload_n hx hb dX4_init_12 rfl (lv_at hl 0 rfl) ?_
  refine lv_bipush (v := 12) hx hb dX4_init_13 rfl ?_
  refine va_newa (atype := .int) (ty := .int) (a0 := (12, .inl (fun _ => 0))) hx hb (hts _ wq_23) rfl hK hP hD hS hA (fun _ => rfl) (by decide) rfl (Nat.le_of_ble_eq_true rfl) (Nat.le_of_ble_eq_true rfl) (Nat.le_of_ble_eq_true rfl) dX4_init_15 (fun q15 cA H hK9 hP hD hS => ?_)
  have e9 : cI = cA := Option.some.inj ((va_nm_int (hK.2 0 (cI, .int) rfl).2).symm.trans (va_nm_int (hK9.2 4 (cA, .int) rfl).2))
  subst e9
  have hP : va_P D vwCl [(h0, .inr (4, [.ref q7, .null, .int 0, .int 0, .int 0])), (q7, .inl (cB, 80, .inl (fun _ => 0))), (q15, .inl (cI, 12, .inl (fun _ => 0)))] H := hP
  have hD : va_D A [(h0, .inr (4, [.ref q7, .null, .int 0, .int 0, .int 0])), (q7, .inl (cB, 80, .inl (fun _ => 0))), (q15, .inl (cI, 12, .inl (fun _ => 0)))] := hD
  refine va_putF (D := D) (ci := 4) (v := .ref q15) (ty := tyX4 1) (C := RX4) (T := TX4) (N := 5) hx hb hts inlX4 tyX4 tyX4_ok nmX4 hown hK hP hD hS 0 rfl rfl 1 (by decide) (hts _ wq_56) (fun _ h9 => h9) rfl hin rfl (by decide +kernel) rfl rfl (Nat.le_of_ble_eq_true rfl) dX4_init_17 (fun H locs hP hD hS => ?_)
  have hP : va_P D vwCl [(h0, .inr (4, [.ref q7, .ref q15, .int 0, .int 0, .int 0])), (q7, .inl (cB, 80, .inl (fun _ => 0))), (q15, .inl (cI, 12, .inl (fun _ => 0)))] H := hP
  have hD : va_D A [(h0, .inr (4, [.ref q7, .ref q15, .int 0, .int 0, .int 0])), (q7, .inl (cB, 80, .inl (fun _ => 0))), (q15, .inl (cI, 12, .inl (fun _ => 0)))] := hD
  exact W.vret hx hb hr (fun t ht hW => ⟨⟨(q7, q15), rfl, trivial, by rw [ht]; exact hP, hD⟩, hS.F ht⟩) hS.2.2 dX4_init_20
def w1_X0_init (cI cL cB cV : ClassId) (h0 : Nat) (u : Nat × Nat × Nat × Nat) : va_W := [(h0, .inr (0, [.ref u.1, .ref u.2.1, .ref u.2.2.1, .ref u.2.2.2, .int 0])), (u.1, .inl (cI, 6, .inl (upd (upd (upd (upd (upd (upd (fun _ => 0) 0 50) 1 50) 2 50) 3 50) 4 50) 5 50))), (u.2.1, .inl (cI, 6, .inl (upd (upd (upd (upd (upd (upd (fun _ => 0) 0 50) 1 50) 2 50) 3 50) 4 50) 5 50))), (u.2.2.1, .inl (cI, 12, .inl (fun _ => 0))), (u.2.2.2, .inl (cI, 5, .inl (upd (upd (upd (upd (upd (fun _ => 0) 0 3) 1 1) 2 1) 3 0) 4 50)))]
set_option maxHeartbeats 4000000 in
theorem c_X0_init (l : Launch) (D : va_G) (cI cL cB cV : ClassId) (h0 sz : Nat) : Met l yX0_init (.code yX0_init cX0_init 2 none :: wsL_law) ({ frames := 1, cells := 4, slots := 29, locals := 12 }) (va_Pc [.ref h0] (fun U => U.heap.size = sz ∧ va_P D vwCl [(h0, .inr (0, [.null, .null, .null, .null, .int 0]))] U.heap ∧ va_K D vwCl (ntys cI cL cB cV) U ∧ va_D (fun _ => True) [(h0, .inr (0, [.null, .null, .null, .null, .int 0]))])) (va_Qv (fun _ : Nat × Nat × Nat × Nat => True) (fun u t => va_P D vwCl (w1_X0_init cI cL cB cV h0 u) t.heap ∧ va_D (va_A [(h0, .inr (0, [.null, .null, .null, .null, .int 0]))] sz) (w1_X0_init cI cL cB cV h0 u)) (va_A [(h0, .inr (0, [.null, .null, .null, .null, .int 0]))] sz)) 4 29 (va_A [(h0, .inr (0, [.null, .null, .null, .null, .int 0]))] sz) := by
  refine Met.ofW (cc := cX0_init) (maxL := 2) (ret := none) (by decide) rfl ?_
  intro p e s m args below meth c s₁ B hml hv
  obtain ⟨rfl, hsz, hP, hK, hD0⟩ := hv
  have hx := B.exec
  have hb := B.bytes
  have hr := B.returns
  have hts : ∀ w ∈ wsL_law, w.before _ s = true := fun w h => atoms_spec (ws := (.code yX0_init cX0_init 2 none :: wsL_law)) B.pre w (List.mem_cons_of_mem _ h)
  have hown : s.vm.findClass RX0 = some m.cls := findClass_of_methodNamed B.named
  have hlocks := B.notSynchronized
  have hin : meth.name = "<init>" := (name_of_methodNamed B.named B.method).1
  subst hsz
  have hD := hD0.self (sz := s.heap.size)
  generalize hAe : va_A [(h0, .inr (0, [.null, .null, .null, .null, .int 0]))] s.heap.size = A at hD ⊢
  have hA : ∀ q : Nat, s.heap.size ≤ q → A q := fun q h => by rw [← hAe]; exact Or.inr h
  have hS : va_S A s.heap s.heap [] := va_S.rf
  have hP : va_P D vwCl [(h0, .inr (0, [.null, .null, .null, .null, .int 0]))] s.heap := hP
  have hl := lv_entry ([.ref h0]) (n := 2) (Nat.le_of_ble_eq_true rfl)
  rw [lg_entry_eq]
  generalize (lg_sl ([.ref h0]) ++ List.replicate (2 - (lg_sl ([.ref h0])).length) Slot.unset).toArray = ls at hl ⊢
  have hl : lv_has ls 2 [(0, .ref h0)] := hl
  refine lv_aload_n hx hb dX0_init_0 rfl (lv_at hl 0 rfl) ?_
  refine W.objInit hx hb hown (hts _ wq_46) (hts _ wq_11) (hts _ wq_12) rfl (by rw [hml]; exact hl.1) rfl dX0_init_1 (Nat.le_of_ble_eq_true rfl) (Nat.le_of_ble_eq_true rfl) ?_
  refine W.eq (g2 := F0 m 4 ls []) rfl ?_
  refine lv_aload_n hx hb dX0_init_4 rfl (lv_at hl 0 rfl) ?_
  refine lv_bipush (v := 6) hx hb dX0_init_5 rfl ?_
  refine va_newa (atype := .int) (ty := .int) (a0 := (6, .inl (fun _ => 0))) hx hb (hts _ wq_23) rfl hK hP hD hS hA (fun _ => rfl) (by decide) rfl (Nat.le_of_ble_eq_true rfl) (Nat.le_of_ble_eq_true rfl) (Nat.le_of_ble_eq_true rfl) dX0_init_7 (fun q7 cA H hK9 hP hD hS => ?_)
  have e9 : cI = cA := Option.some.inj ((va_nm_int (hK.2 0 (cI, .int) rfl).2).symm.trans (va_nm_int (hK9.2 4 (cA, .int) rfl).2))
  subst e9
  have hP : va_P D vwCl [(h0, .inr (0, [.null, .null, .null, .null, .int 0])), (q7, .inl (cI, 6, .inl (fun _ => 0)))] H := hP
  have hD : va_D A [(h0, .inr (0, [.null, .null, .null, .null, .int 0])), (q7, .inl (cI, 6, .inl (fun _ => 0)))] := hD
  refine va_putF (D := D) (ci := 0) (v := .ref q7) (ty := tyX0 0) (C := RX0) (T := TX0) (N := 5) hx hb hts inlX0 tyX0 tyX0_ok nmX0 hown hK hP hD hS 0 rfl rfl 0 (by decide) (hts _ wq_47) (fun _ h9 => h9) rfl hin rfl (by decide +kernel) rfl rfl (Nat.le_of_ble_eq_true rfl) dX0_init_9 (fun H locs hP hD hS => ?_)
  have hP : va_P D vwCl [(h0, .inr (0, [.ref q7, .null, .null, .null, .int 0])), (q7, .inl (cI, 6, .inl (fun _ => 0)))] H := hP
  have hD : va_D A [(h0, .inr (0, [.ref q7, .null, .null, .null, .int 0])), (q7, .inl (cI, 6, .inl (fun _ => 0)))] := hD
  refine lv_aload_n hx hb dX0_init_12 rfl (lv_at hl 0 rfl) ?_
  refine lv_bipush (v := 6) hx hb dX0_init_13 rfl ?_
  refine va_newa (atype := .int) (ty := .int) (a0 := (6, .inl (fun _ => 0))) hx hb (hts _ wq_23) rfl hK hP hD hS hA (fun _ => rfl) (by decide) rfl (Nat.le_of_ble_eq_true rfl) (Nat.le_of_ble_eq_true rfl) (Nat.le_of_ble_eq_true rfl) dX0_init_15 (fun q15 cA H hK9 hP hD hS => ?_)
  have e9 : cI = cA := Option.some.inj ((va_nm_int (hK.2 0 (cI, .int) rfl).2).symm.trans (va_nm_int (hK9.2 4 (cA, .int) rfl).2))
  subst e9
  have hP : va_P D vwCl [(h0, .inr (0, [.ref q7, .null, .null, .null, .int 0])), (q7, .inl (cI, 6, .inl (fun _ => 0))), (q15, .inl (cI, 6, .inl (fun _ => 0)))] H := hP
  have hD : va_D A [(h0, .inr (0, [.ref q7, .null, .null, .null, .int 0])), (q7, .inl (cI, 6, .inl (fun _ => 0))), (q15, .inl (cI, 6, .inl (fun _ => 0)))] := hD
  refine va_putF (D := D) (ci := 0) (v := .ref q15) (ty := tyX0 1) (C := RX0) (T := TX0) (N := 5) hx hb hts inlX0 tyX0 tyX0_ok nmX0 hown hK hP hD hS 0 rfl rfl 1 (by decide) (hts _ wq_48) (fun _ h9 => h9) rfl hin rfl (by decide +kernel) rfl rfl (Nat.le_of_ble_eq_true rfl) dX0_init_17 (fun H locs hP hD hS => ?_)
  have hP : va_P D vwCl [(h0, .inr (0, [.ref q7, .ref q15, .null, .null, .int 0])), (q7, .inl (cI, 6, .inl (fun _ => 0))), (q15, .inl (cI, 6, .inl (fun _ => 0)))] H := hP
  have hD : va_D A [(h0, .inr (0, [.ref q7, .ref q15, .null, .null, .int 0])), (q7, .inl (cI, 6, .inl (fun _ => 0))), (q15, .inl (cI, 6, .inl (fun _ => 0)))] := hD
  refine lv_aload_n hx hb dX0_init_20 rfl (lv_at hl 0 rfl) ?_
  refine lv_bipush (v := 12) hx hb dX0_init_21 rfl ?_
  refine va_newa (atype := .int) (ty := .int) (a0 := (12, .inl (fun _ => 0))) hx hb (hts _ wq_23) rfl hK hP hD hS hA (fun _ => rfl) (by decide) rfl (Nat.le_of_ble_eq_true rfl) (Nat.le_of_ble_eq_true rfl) (Nat.le_of_ble_eq_true rfl) dX0_init_23 (fun q23 cA H hK9 hP hD hS => ?_)
  have e9 : cI = cA := Option.some.inj ((va_nm_int (hK.2 0 (cI, .int) rfl).2).symm.trans (va_nm_int (hK9.2 4 (cA, .int) rfl).2))
  subst e9
  have hP : va_P D vwCl [(h0, .inr (0, [.ref q7, .ref q15, .null, .null, .int 0])), (q7, .inl (cI, 6, .inl (fun _ => 0))), (q15, .inl (cI, 6, .inl (fun _ => 0))), (q23, .inl (cI, 12, .inl (fun _ => 0)))] H := hP
  have hD : va_D A [(h0, .inr (0, [.ref q7, .ref q15, .null, .null, .int 0])), (q7, .inl (cI, 6, .inl (fun _ => 0))), (q15, .inl (cI, 6, .inl (fun _ => 0))), (q23, .inl (cI, 12, .inl (fun _ => 0)))] := hD
  refine va_putF (D := D) (ci := 0) (v := .ref q23) (ty := tyX0 2) (C := RX0) (T := TX0) (N := 5) hx hb hts inlX0 tyX0 tyX0_ok nmX0 hown hK hP hD hS 0 rfl rfl 2 (by decide) (hts _ wq_49) (fun _ h9 => h9) rfl hin rfl (by decide +kernel) rfl rfl (Nat.le_of_ble_eq_true rfl) dX0_init_25 (fun H locs hP hD hS => ?_)
  have hP : va_P D vwCl [(h0, .inr (0, [.ref q7, .ref q15, .ref q23, .null, .int 0])), (q7, .inl (cI, 6, .inl (fun _ => 0))), (q15, .inl (cI, 6, .inl (fun _ => 0))), (q23, .inl (cI, 12, .inl (fun _ => 0)))] H := hP
  have hD : va_D A [(h0, .inr (0, [.ref q7, .ref q15, .ref q23, .null, .int 0])), (q7, .inl (cI, 6, .inl (fun _ => 0))), (q15, .inl (cI, 6, .inl (fun _ => 0))), (q23, .inl (cI, 12, .inl (fun _ => 0)))] := hD
  refine lv_aload_n hx hb dX0_init_28 rfl (lv_at hl 0 rfl) ?_
  refine lv_iconst (v := 5) hx hb dX0_init_29 rfl ?_
  refine va_newa (atype := .int) (ty := .int) (a0 := (5, .inl (fun _ => 0))) hx hb (hts _ wq_23) rfl hK hP hD hS hA (fun _ => rfl) (by decide) rfl (Nat.le_of_ble_eq_true rfl) (Nat.le_of_ble_eq_true rfl) (Nat.le_of_ble_eq_true rfl) dX0_init_30 (fun q30 cA H hK9 hP hD hS => ?_)
  have e9 : cI = cA := Option.some.inj ((va_nm_int (hK.2 0 (cI, .int) rfl).2).symm.trans (va_nm_int (hK9.2 4 (cA, .int) rfl).2))
  subst e9
  have hP : va_P D vwCl [(h0, .inr (0, [.ref q7, .ref q15, .ref q23, .null, .int 0])), (q7, .inl (cI, 6, .inl (fun _ => 0))), (q15, .inl (cI, 6, .inl (fun _ => 0))), (q23, .inl (cI, 12, .inl (fun _ => 0))), (q30, .inl (cI, 5, .inl (fun _ => 0)))] H := hP
  have hD : va_D A [(h0, .inr (0, [.ref q7, .ref q15, .ref q23, .null, .int 0])), (q7, .inl (cI, 6, .inl (fun _ => 0))), (q15, .inl (cI, 6, .inl (fun _ => 0))), (q23, .inl (cI, 12, .inl (fun _ => 0))), (q30, .inl (cI, 5, .inl (fun _ => 0)))] := hD
  refine lv_dup hx hb dX0_init_32 rfl ?_
  refine lv_iconst (v := 0) hx hb dX0_init_33 rfl ?_
  refine lv_iconst (v := 3) hx hb dX0_init_34 rfl ?_
  refine va_iast (i := 0) (x := 3) hx hb hK hP hD hS 4 0 rfl rfl (inb_in rfl) dX0_init_35 (fun H locs hP hD hS => ?_)
  have hP : va_P D vwCl [(h0, .inr (0, [.ref q7, .ref q15, .ref q23, .null, .int 0])), (q7, .inl (cI, 6, .inl (fun _ => 0))), (q15, .inl (cI, 6, .inl (fun _ => 0))), (q23, .inl (cI, 12, .inl (fun _ => 0))), (q30, .inl (cI, 5, .inl (upd (fun _ => 0) 0 3)))] H := hP
  have hD : va_D A [(h0, .inr (0, [.ref q7, .ref q15, .ref q23, .null, .int 0])), (q7, .inl (cI, 6, .inl (fun _ => 0))), (q15, .inl (cI, 6, .inl (fun _ => 0))), (q23, .inl (cI, 12, .inl (fun _ => 0))), (q30, .inl (cI, 5, .inl (upd (fun _ => 0) 0 3)))] := hD
  refine lv_dup hx hb dX0_init_36 rfl ?_
  refine lv_iconst (v := 1) hx hb dX0_init_37 rfl ?_
  refine lv_iconst (v := 1) hx hb dX0_init_38 rfl ?_
  refine va_iast (i := 1) (x := 1) hx hb hK hP hD hS 4 0 rfl rfl (inb_in rfl) dX0_init_39 (fun H locs hP hD hS => ?_)
  have hP : va_P D vwCl [(h0, .inr (0, [.ref q7, .ref q15, .ref q23, .null, .int 0])), (q7, .inl (cI, 6, .inl (fun _ => 0))), (q15, .inl (cI, 6, .inl (fun _ => 0))), (q23, .inl (cI, 12, .inl (fun _ => 0))), (q30, .inl (cI, 5, .inl (upd (upd (fun _ => 0) 0 3) 1 1)))] H := hP
  have hD : va_D A [(h0, .inr (0, [.ref q7, .ref q15, .ref q23, .null, .int 0])), (q7, .inl (cI, 6, .inl (fun _ => 0))), (q15, .inl (cI, 6, .inl (fun _ => 0))), (q23, .inl (cI, 12, .inl (fun _ => 0))), (q30, .inl (cI, 5, .inl (upd (upd (fun _ => 0) 0 3) 1 1)))] := hD
  refine lv_dup hx hb dX0_init_40 rfl ?_
  refine lv_iconst (v := 2) hx hb dX0_init_41 rfl ?_
  refine lv_iconst (v := 1) hx hb dX0_init_42 rfl ?_
  refine va_iast (i := 2) (x := 1) hx hb hK hP hD hS 4 0 rfl rfl (inb_in rfl) dX0_init_43 (fun H locs hP hD hS => ?_)
  have hP : va_P D vwCl [(h0, .inr (0, [.ref q7, .ref q15, .ref q23, .null, .int 0])), (q7, .inl (cI, 6, .inl (fun _ => 0))), (q15, .inl (cI, 6, .inl (fun _ => 0))), (q23, .inl (cI, 12, .inl (fun _ => 0))), (q30, .inl (cI, 5, .inl (upd (upd (upd (fun _ => 0) 0 3) 1 1) 2 1)))] H := hP
  have hD : va_D A [(h0, .inr (0, [.ref q7, .ref q15, .ref q23, .null, .int 0])), (q7, .inl (cI, 6, .inl (fun _ => 0))), (q15, .inl (cI, 6, .inl (fun _ => 0))), (q23, .inl (cI, 12, .inl (fun _ => 0))), (q30, .inl (cI, 5, .inl (upd (upd (upd (fun _ => 0) 0 3) 1 1) 2 1)))] := hD
  refine lv_dup hx hb dX0_init_44 rfl ?_
  refine lv_iconst (v := 3) hx hb dX0_init_45 rfl ?_
  refine lv_iconst (v := 0) hx hb dX0_init_46 rfl ?_
  refine va_iast (i := 3) (x := 0) hx hb hK hP hD hS 4 0 rfl rfl (inb_in rfl) dX0_init_47 (fun H locs hP hD hS => ?_)
  have hP : va_P D vwCl [(h0, .inr (0, [.ref q7, .ref q15, .ref q23, .null, .int 0])), (q7, .inl (cI, 6, .inl (fun _ => 0))), (q15, .inl (cI, 6, .inl (fun _ => 0))), (q23, .inl (cI, 12, .inl (fun _ => 0))), (q30, .inl (cI, 5, .inl (upd (upd (upd (upd (fun _ => 0) 0 3) 1 1) 2 1) 3 0)))] H := hP
  have hD : va_D A [(h0, .inr (0, [.ref q7, .ref q15, .ref q23, .null, .int 0])), (q7, .inl (cI, 6, .inl (fun _ => 0))), (q15, .inl (cI, 6, .inl (fun _ => 0))), (q23, .inl (cI, 12, .inl (fun _ => 0))), (q30, .inl (cI, 5, .inl (upd (upd (upd (upd (fun _ => 0) 0 3) 1 1) 2 1) 3 0)))] := hD
  refine lv_dup hx hb dX0_init_48 rfl ?_
  refine lv_iconst (v := 4) hx hb dX0_init_49 rfl ?_
  refine lv_bipush (v := 50) hx hb dX0_init_50 rfl ?_
  refine va_iast (i := 4) (x := 50) hx hb hK hP hD hS 4 0 rfl rfl (inb_in rfl) dX0_init_52 (fun H locs hP hD hS => ?_)
  have hP : va_P D vwCl [(h0, .inr (0, [.ref q7, .ref q15, .ref q23, .null, .int 0])), (q7, .inl (cI, 6, .inl (fun _ => 0))), (q15, .inl (cI, 6, .inl (fun _ => 0))), (q23, .inl (cI, 12, .inl (fun _ => 0))), (q30, .inl (cI, 5, .inl (upd (upd (upd (upd (upd (fun _ => 0) 0 3) 1 1) 2 1) 3 0) 4 50)))] H := hP
  have hD : va_D A [(h0, .inr (0, [.ref q7, .ref q15, .ref q23, .null, .int 0])), (q7, .inl (cI, 6, .inl (fun _ => 0))), (q15, .inl (cI, 6, .inl (fun _ => 0))), (q23, .inl (cI, 12, .inl (fun _ => 0))), (q30, .inl (cI, 5, .inl (upd (upd (upd (upd (upd (fun _ => 0) 0 3) 1 1) 2 1) 3 0) 4 50)))] := hD
  refine va_putF (D := D) (ci := 0) (v := .ref q30) (ty := tyX0 3) (C := RX0) (T := TX0) (N := 5) hx hb hts inlX0 tyX0 tyX0_ok nmX0 hown hK hP hD hS 0 rfl rfl 3 (by decide) (hts _ wq_50) (fun _ h9 => h9) rfl hin rfl (by decide +kernel) rfl rfl (Nat.le_of_ble_eq_true rfl) dX0_init_53 (fun H locs hP hD hS => ?_)
  have hP : va_P D vwCl [(h0, .inr (0, [.ref q7, .ref q15, .ref q23, .ref q30, .int 0])), (q7, .inl (cI, 6, .inl (fun _ => 0))), (q15, .inl (cI, 6, .inl (fun _ => 0))), (q23, .inl (cI, 12, .inl (fun _ => 0))), (q30, .inl (cI, 5, .inl (upd (upd (upd (upd (upd (fun _ => 0) 0 3) 1 1) 2 1) 3 0) 4 50)))] H := hP
  have hD : va_D A [(h0, .inr (0, [.ref q7, .ref q15, .ref q23, .ref q30, .int 0])), (q7, .inl (cI, 6, .inl (fun _ => 0))), (q15, .inl (cI, 6, .inl (fun _ => 0))), (q23, .inl (cI, 12, .inl (fun _ => 0))), (q30, .inl (cI, 5, .inl (upd (upd (upd (upd (upd (fun _ => 0) 0 3) 1 1) 2 1) 3 0) 4 50)))] := hD
  refine lv_iconst (v := 0) hx hb dX0_init_56 rfl ?_
  refine lv_istore_n (lv' := [(1, .int 0), (0, .ref h0)]) hx hb dX0_init_57 rfl hl (by decide) rfl (fun ls hl => ?_)
  refine lv_iload_n hx hb dX0_init_58 rfl (lv_at hl 0 rfl) ?_
  refine lv_bipush (v := 6) hx hb dX0_init_59 rfl ?_
  refine lv_icmp_ge (tgt := 86) hx hb dX0_init_61 rfl (fun q => absurd q (by decide)) (fun _ => ?_)
  refine lv_aload_n hx hb dX0_init_64 rfl (lv_at hl 1 rfl) ?_
  refine va_get (v := .ref q7) (C := RX0) (T := TX0) (N := 5) hx hb hts inlX0 hown hK hP 0 rfl rfl 0 (by decide) (hts _ wq_47) (fun _ h9 => h9) rfl dX0_init_65 ?_
  refine lv_iload_n hx hb dX0_init_68 rfl (lv_at hl 0 rfl) ?_
  refine lv_bipush (v := 50) hx hb dX0_init_69 rfl ?_
  refine va_iast (i := 0) (x := 50) hx hb hK hP hD hS 1 0 rfl rfl (inb_in rfl) dX0_init_71 (fun H locs hP hD hS => ?_)
  have hP : va_P D vwCl [(h0, .inr (0, [.ref q7, .ref q15, .ref q23, .ref q30, .int 0])), (q7, .inl (cI, 6, .inl (upd (fun _ => 0) 0 50))), (q15, .inl (cI, 6, .inl (fun _ => 0))), (q23, .inl (cI, 12, .inl (fun _ => 0))), (q30, .inl (cI, 5, .inl (upd (upd (upd (upd (upd (fun _ => 0) 0 3) 1 1) 2 1) 3 0) 4 50)))] H := hP
  have hD : va_D A [(h0, .inr (0, [.ref q7, .ref q15, .ref q23, .ref q30, .int 0])), (q7, .inl (cI, 6, .inl (upd (fun _ => 0) 0 50))), (q15, .inl (cI, 6, .inl (fun _ => 0))), (q23, .inl (cI, 12, .inl (fun _ => 0))), (q30, .inl (cI, 5, .inl (upd (upd (upd (upd (upd (fun _ => 0) 0 3) 1 1) 2 1) 3 0) 4 50)))] := hD
  refine lv_aload_n hx hb dX0_init_72 rfl (lv_at hl 1 rfl) ?_
  refine va_get (v := .ref q15) (C := RX0) (T := TX0) (N := 5) hx hb hts inlX0 hown hK hP 0 rfl rfl 1 (by decide) (hts _ wq_48) (fun _ h9 => h9) rfl dX0_init_73 ?_
  refine lv_iload_n hx hb dX0_init_76 rfl (lv_at hl 0 rfl) ?_
  refine lv_bipush (v := 50) hx hb dX0_init_77 rfl ?_
  refine va_iast (i := 0) (x := 50) hx hb hK hP hD hS 2 0 rfl rfl (inb_in rfl) dX0_init_79 (fun H locs hP hD hS => ?_)
  have hP : va_P D vwCl [(h0, .inr (0, [.ref q7, .ref q15, .ref q23, .ref q30, .int 0])), (q7, .inl (cI, 6, .inl (upd (fun _ => 0) 0 50))), (q15, .inl (cI, 6, .inl (upd (fun _ => 0) 0 50))), (q23, .inl (cI, 12, .inl (fun _ => 0))), (q30, .inl (cI, 5, .inl (upd (upd (upd (upd (upd (fun _ => 0) 0 3) 1 1) 2 1) 3 0) 4 50)))] H := hP
  have hD : va_D A [(h0, .inr (0, [.ref q7, .ref q15, .ref q23, .ref q30, .int 0])), (q7, .inl (cI, 6, .inl (upd (fun _ => 0) 0 50))), (q15, .inl (cI, 6, .inl (upd (fun _ => 0) 0 50))), (q23, .inl (cI, 12, .inl (fun _ => 0))), (q30, .inl (cI, 5, .inl (upd (upd (upd (upd (upd (fun _ => 0) 0 3) 1 1) 2 1) 3 0) 4 50)))] := hD
  refine lv_iinc (k := 0) (v := 1) (lv' := [(1, .int 1), (0, .ref h0)]) hx hb dX0_init_80 hl rfl rfl (by decide) rfl (fun ls hl => ?_)
  refine lv_goto (tgt := 58) hx hb dX0_init_83 rfl ?_
  refine lv_iload_n hx hb dX0_init_58 rfl (lv_at hl 0 rfl) ?_
  refine lv_bipush (v := 6) hx hb dX0_init_59 rfl ?_
  refine lv_icmp_ge (tgt := 86) hx hb dX0_init_61 rfl (fun q => absurd q (by decide)) (fun _ => ?_)
  refine lv_aload_n hx hb dX0_init_64 rfl (lv_at hl 1 rfl) ?_
  refine va_get (v := .ref q7) (C := RX0) (T := TX0) (N := 5) hx hb hts inlX0 hown hK hP 0 rfl rfl 0 (by decide) (hts _ wq_47) (fun _ h9 => h9) rfl dX0_init_65 ?_
  refine lv_iload_n hx hb dX0_init_68 rfl (lv_at hl 0 rfl) ?_
  refine lv_bipush (v := 50) hx hb dX0_init_69 rfl ?_
  refine va_iast (i := 1) (x := 50) hx hb hK hP hD hS 1 0 rfl rfl (inb_in rfl) dX0_init_71 (fun H locs hP hD hS => ?_)
  have hP : va_P D vwCl [(h0, .inr (0, [.ref q7, .ref q15, .ref q23, .ref q30, .int 0])), (q7, .inl (cI, 6, .inl (upd (upd (fun _ => 0) 0 50) 1 50))), (q15, .inl (cI, 6, .inl (upd (fun _ => 0) 0 50))), (q23, .inl (cI, 12, .inl (fun _ => 0))), (q30, .inl (cI, 5, .inl (upd (upd (upd (upd (upd (fun _ => 0) 0 3) 1 1) 2 1) 3 0) 4 50)))] H := hP
  have hD : va_D A [(h0, .inr (0, [.ref q7, .ref q15, .ref q23, .ref q30, .int 0])), (q7, .inl (cI, 6, .inl (upd (upd (fun _ => 0) 0 50) 1 50))), (q15, .inl (cI, 6, .inl (upd (fun _ => 0) 0 50))), (q23, .inl (cI, 12, .inl (fun _ => 0))), (q30, .inl (cI, 5, .inl (upd (upd (upd (upd (upd (fun _ => 0) 0 3) 1 1) 2 1) 3 0) 4 50)))] := hD
  refine lv_aload_n hx hb dX0_init_72 rfl (lv_at hl 1 rfl) ?_
  refine va_get (v := .ref q15) (C := RX0) (T := TX0) (N := 5) hx hb hts inlX0 hown hK hP 0 rfl rfl 1 (by decide) (hts _ wq_48) (fun _ h9 => h9) rfl dX0_init_73 ?_
  refine lv_iload_n hx hb dX0_init_76 rfl (lv_at hl 0 rfl) ?_
  refine lv_bipush (v := 50) hx hb dX0_init_77 rfl ?_
  refine va_iast (i := 1) (x := 50) hx hb hK hP hD hS 2 0 rfl rfl (inb_in rfl) dX0_init_79 (fun H locs hP hD hS => ?_)
  have hP : va_P D vwCl [(h0, .inr (0, [.ref q7, .ref q15, .ref q23, .ref q30, .int 0])), (q7, .inl (cI, 6, .inl (upd (upd (fun _ => 0) 0 50) 1 50))), (q15, .inl (cI, 6, .inl (upd (upd (fun _ => 0) 0 50) 1 50))), (q23, .inl (cI, 12, .inl (fun _ => 0))), (q30, .inl (cI, 5, .inl (upd (upd (upd (upd (upd (fun _ => 0) 0 3) 1 1) 2 1) 3 0) 4 50)))] H := hP
  have hD : va_D A [(h0, .inr (0, [.ref q7, .ref q15, .ref q23, .ref q30, .int 0])), (q7, .inl (cI, 6, .inl (upd (upd (fun _ => 0) 0 50) 1 50))), (q15, .inl (cI, 6, .inl (upd (upd (fun _ => 0) 0 50) 1 50))), (q23, .inl (cI, 12, .inl (fun _ => 0))), (q30, .inl (cI, 5, .inl (upd (upd (upd (upd (upd (fun _ => 0) 0 3) 1 1) 2 1) 3 0) 4 50)))] := hD
  refine lv_iinc (k := 0) (v := 2) (lv' := [(1, .int 2), (0, .ref h0)]) hx hb dX0_init_80 hl rfl rfl (by decide) rfl (fun ls hl => ?_)
  refine lv_goto (tgt := 58) hx hb dX0_init_83 rfl ?_
  refine lv_iload_n hx hb dX0_init_58 rfl (lv_at hl 0 rfl) ?_
  refine lv_bipush (v := 6) hx hb dX0_init_59 rfl ?_
  refine lv_icmp_ge (tgt := 86) hx hb dX0_init_61 rfl (fun q => absurd q (by decide)) (fun _ => ?_)
  refine lv_aload_n hx hb dX0_init_64 rfl (lv_at hl 1 rfl) ?_
  refine va_get (v := .ref q7) (C := RX0) (T := TX0) (N := 5) hx hb hts inlX0 hown hK hP 0 rfl rfl 0 (by decide) (hts _ wq_47) (fun _ h9 => h9) rfl dX0_init_65 ?_
  refine lv_iload_n hx hb dX0_init_68 rfl (lv_at hl 0 rfl) ?_
  refine lv_bipush (v := 50) hx hb dX0_init_69 rfl ?_
  refine va_iast (i := 2) (x := 50) hx hb hK hP hD hS 1 0 rfl rfl (inb_in rfl) dX0_init_71 (fun H locs hP hD hS => ?_)
  have hP : va_P D vwCl [(h0, .inr (0, [.ref q7, .ref q15, .ref q23, .ref q30, .int 0])), (q7, .inl (cI, 6, .inl (upd (upd (upd (fun _ => 0) 0 50) 1 50) 2 50))), (q15, .inl (cI, 6, .inl (upd (upd (fun _ => 0) 0 50) 1 50))), (q23, .inl (cI, 12, .inl (fun _ => 0))), (q30, .inl (cI, 5, .inl (upd (upd (upd (upd (upd (fun _ => 0) 0 3) 1 1) 2 1) 3 0) 4 50)))] H := hP
  have hD : va_D A [(h0, .inr (0, [.ref q7, .ref q15, .ref q23, .ref q30, .int 0])), (q7, .inl (cI, 6, .inl (upd (upd (upd (fun _ => 0) 0 50) 1 50) 2 50))), (q15, .inl (cI, 6, .inl (upd (upd (fun _ => 0) 0 50) 1 50))), (q23, .inl (cI, 12, .inl (fun _ => 0))), (q30, .inl (cI, 5, .inl (upd (upd (upd (upd (upd (fun _ => 0) 0 3) 1 1) 2 1) 3 0) 4 50)))] := hD
  refine lv_aload_n hx hb dX0_init_72 rfl (lv_at hl 1 rfl) ?_
  refine va_get (v := .ref q15) (C := RX0) (T := TX0) (N := 5) hx hb hts inlX0 hown hK hP 0 rfl rfl 1 (by decide) (hts _ wq_48) (fun _ h9 => h9) rfl dX0_init_73 ?_
  refine lv_iload_n hx hb dX0_init_76 rfl (lv_at hl 0 rfl) ?_
  refine lv_bipush (v := 50) hx hb dX0_init_77 rfl ?_
  refine va_iast (i := 2) (x := 50) hx hb hK hP hD hS 2 0 rfl rfl (inb_in rfl) dX0_init_79 (fun H locs hP hD hS => ?_)
  have hP : va_P D vwCl [(h0, .inr (0, [.ref q7, .ref q15, .ref q23, .ref q30, .int 0])), (q7, .inl (cI, 6, .inl (upd (upd (upd (fun _ => 0) 0 50) 1 50) 2 50))), (q15, .inl (cI, 6, .inl (upd (upd (upd (fun _ => 0) 0 50) 1 50) 2 50))), (q23, .inl (cI, 12, .inl (fun _ => 0))), (q30, .inl (cI, 5, .inl (upd (upd (upd (upd (upd (fun _ => 0) 0 3) 1 1) 2 1) 3 0) 4 50)))] H := hP
  have hD : va_D A [(h0, .inr (0, [.ref q7, .ref q15, .ref q23, .ref q30, .int 0])), (q7, .inl (cI, 6, .inl (upd (upd (upd (fun _ => 0) 0 50) 1 50) 2 50))), (q15, .inl (cI, 6, .inl (upd (upd (upd (fun _ => 0) 0 50) 1 50) 2 50))), (q23, .inl (cI, 12, .inl (fun _ => 0))), (q30, .inl (cI, 5, .inl (upd (upd (upd (upd (upd (fun _ => 0) 0 3) 1 1) 2 1) 3 0) 4 50)))] := hD
  refine lv_iinc (k := 0) (v := 3) (lv' := [(1, .int 3), (0, .ref h0)]) hx hb dX0_init_80 hl rfl rfl (by decide) rfl (fun ls hl => ?_)
  refine lv_goto (tgt := 58) hx hb dX0_init_83 rfl ?_
  refine lv_iload_n hx hb dX0_init_58 rfl (lv_at hl 0 rfl) ?_
  refine lv_bipush (v := 6) hx hb dX0_init_59 rfl ?_
  refine lv_icmp_ge (tgt := 86) hx hb dX0_init_61 rfl (fun q => absurd q (by decide)) (fun _ => ?_)
  refine lv_aload_n hx hb dX0_init_64 rfl (lv_at hl 1 rfl) ?_
  refine va_get (v := .ref q7) (C := RX0) (T := TX0) (N := 5) hx hb hts inlX0 hown hK hP 0 rfl rfl 0 (by decide) (hts _ wq_47) (fun _ h9 => h9) rfl dX0_init_65 ?_
  refine lv_iload_n hx hb dX0_init_68 rfl (lv_at hl 0 rfl) ?_
  refine lv_bipush (v := 50) hx hb dX0_init_69 rfl ?_
  refine va_iast (i := 3) (x := 50) hx hb hK hP hD hS 1 0 rfl rfl (inb_in rfl) dX0_init_71 (fun H locs hP hD hS => ?_)
  have hP : va_P D vwCl [(h0, .inr (0, [.ref q7, .ref q15, .ref q23, .ref q30, .int 0])), (q7, .inl (cI, 6, .inl (upd (upd (upd (upd (fun _ => 0) 0 50) 1 50) 2 50) 3 50))), (q15, .inl (cI, 6, .inl (upd (upd (upd (fun _ => 0) 0 50) 1 50) 2 50))), (q23, .inl (cI, 12, .inl (fun _ => 0))), (q30, .inl (cI, 5, .inl (upd (upd (upd (upd (upd (fun _ => 0) 0 3) 1 1) 2 1) 3 0) 4 50)))] H := hP
  have hD : va_D A [(h0, .inr (0, [.ref q7, .ref q15, .ref q23, .ref q30, .int 0])), (q7, .inl (cI, 6, .inl (upd (upd (upd (upd (fun _ => 0) 0 50) 1 50) 2 50) 3 50))), (q15, .inl (cI, 6, .inl (upd (upd (upd (fun _ => 0) 0 50) 1 50) 2 50))), (q23, .inl (cI, 12, .inl (fun _ => 0))), (q30, .inl (cI, 5, .inl (upd (upd (upd (upd (upd (fun _ => 0) 0 3) 1 1) 2 1) 3 0) 4 50)))] := hD
  refine lv_aload_n hx hb dX0_init_72 rfl (lv_at hl 1 rfl) ?_
  refine va_get (v := .ref q15) (C := RX0) (T := TX0) (N := 5) hx hb hts inlX0 hown hK hP 0 rfl rfl 1 (by decide) (hts _ wq_48) (fun _ h9 => h9) rfl dX0_init_73 ?_
  refine lv_iload_n hx hb dX0_init_76 rfl (lv_at hl 0 rfl) ?_
  refine lv_bipush (v := 50) hx hb dX0_init_77 rfl ?_
  refine va_iast (i := 3) (x := 50) hx hb hK hP hD hS 2 0 rfl rfl (inb_in rfl) dX0_init_79 (fun H locs hP hD hS => ?_)
  have hP : va_P D vwCl [(h0, .inr (0, [.ref q7, .ref q15, .ref q23, .ref q30, .int 0])), (q7, .inl (cI, 6, .inl (upd (upd (upd (upd (fun _ => 0) 0 50) 1 50) 2 50) 3 50))), (q15, .inl (cI, 6, .inl (upd (upd (upd (upd (fun _ => 0) 0 50) 1 50) 2 50) 3 50))), (q23, .inl (cI, 12, .inl (fun _ => 0))), (q30, .inl (cI, 5, .inl (upd (upd (upd (upd (upd (fun _ => 0) 0 3) 1 1) 2 1) 3 0) 4 50)))] H := hP
  have hD : va_D A [(h0, .inr (0, [.ref q7, .ref q15, .ref q23, .ref q30, .int 0])), (q7, .inl (cI, 6, .inl (upd (upd (upd (upd (fun _ => 0) 0 50) 1 50) 2 50) 3 50))), (q15, .inl (cI, 6, .inl (upd (upd (upd (upd (fun _ => 0) 0 50) 1 50) 2 50) 3 50))), (q23, .inl (cI, 12, .inl (fun _ => 0))), (q30, .inl (cI, 5, .inl (upd (upd (upd (upd (upd (fun _ => 0) 0 3) 1 1) 2 1) 3 0) 4 50)))] := hD
  refine lv_iinc (k := 0) (v := 4) (lv' := [(1, .int 4), (0, .ref h0)]) hx hb dX0_init_80 hl rfl rfl (by decide) rfl (fun ls hl => ?_)
  refine lv_goto (tgt := 58) hx hb dX0_init_83 rfl ?_
  refine lv_iload_n hx hb dX0_init_58 rfl (lv_at hl 0 rfl) ?_
  refine lv_bipush (v := 6) hx hb dX0_init_59 rfl ?_
  refine lv_icmp_ge (tgt := 86) hx hb dX0_init_61 rfl (fun q => absurd q (by decide)) (fun _ => ?_)
  refine lv_aload_n hx hb dX0_init_64 rfl (lv_at hl 1 rfl) ?_
  refine va_get (v := .ref q7) (C := RX0) (T := TX0) (N := 5) hx hb hts inlX0 hown hK hP 0 rfl rfl 0 (by decide) (hts _ wq_47) (fun _ h9 => h9) rfl dX0_init_65 ?_
  refine lv_iload_n hx hb dX0_init_68 rfl (lv_at hl 0 rfl) ?_
  refine lv_bipush (v := 50) hx hb dX0_init_69 rfl ?_
  refine va_iast (i := 4) (x := 50) hx hb hK hP hD hS 1 0 rfl rfl (inb_in rfl) dX0_init_71 (fun H locs hP hD hS => ?_)
  have hP : va_P D vwCl [(h0, .inr (0, [.ref q7, .ref q15, .ref q23, .ref q30, .int 0])), (q7, .inl (cI, 6, .inl (upd (upd (upd (upd (upd (fun _ => 0) 0 50) 1 50) 2 50) 3 50) 4 50))), (q15, .inl (cI, 6, .inl (upd (upd (upd (upd (fun _ => 0) 0 50) 1 50) 2 50) 3 50))), (q23, .inl (cI, 12, .inl (fun _ => 0))), (q30, .inl (cI, 5, .inl (upd (upd (upd (upd (upd (fun _ => 0) 0 3) 1 1) 2 1) 3 0) 4 50)))] H := hP
  have hD : va_D A [(h0, .inr (0, [.ref q7, .ref q15, .ref q23, .ref q30, .int 0])), (q7, .inl (cI, 6, .inl (upd (upd (upd (upd (upd (fun _ => 0) 0 50) 1 50) 2 50) 3 50) 4 50))), (q15, .inl (cI, 6, .inl (upd (upd (upd (upd (fun _ => 0) 0 50) 1 50) 2 50) 3 50))), (q23, .inl (cI, 12, .inl (fun _ => 0))), (q30, .inl (cI, 5, .inl (upd (upd (upd (upd (upd (fun _ => 0) 0 3) 1 1) 2 1) 3 0) 4 50)))] := hD
  refine lv_aload_n hx hb dX0_init_72 rfl (lv_at hl 1 rfl) ?_
  refine va_get (v := .ref q15) (C := RX0) (T := TX0) (N := 5) hx hb hts inlX0 hown hK hP 0 rfl rfl 1 (by decide) (hts _ wq_48) (fun _ h9 => h9) rfl dX0_init_73 ?_
  refine lv_iload_n hx hb dX0_init_76 rfl (lv_at hl 0 rfl) ?_
  refine lv_bipush (v := 50) hx hb dX0_init_77 rfl ?_
  refine va_iast (i := 4) (x := 50) hx hb hK hP hD hS 2 0 rfl rfl (inb_in rfl) dX0_init_79 (fun H locs hP hD hS => ?_)
  have hP : va_P D vwCl [(h0, .inr (0, [.ref q7, .ref q15, .ref q23, .ref q30, .int 0])), (q7, .inl (cI, 6, .inl (upd (upd (upd (upd (upd (fun _ => 0) 0 50) 1 50) 2 50) 3 50) 4 50))), (q15, .inl (cI, 6, .inl (upd (upd (upd (upd (upd (fun _ => 0) 0 50) 1 50) 2 50) 3 50) 4 50))), (q23, .inl (cI, 12, .inl (fun _ => 0))), (q30, .inl (cI, 5, .inl (upd (upd (upd (upd (upd (fun _ => 0) 0 3) 1 1) 2 1) 3 0) 4 50)))] H := hP
  have hD : va_D A [(h0, .inr (0, [.ref q7, .ref q15, .ref q23, .ref q30, .int 0])), (q7, .inl (cI, 6, .inl (upd (upd (upd (upd (upd (fun _ => 0) 0 50) 1 50) 2 50) 3 50) 4 50))), (q15, .inl (cI, 6, .inl (upd (upd (upd (upd (upd (fun _ => 0) 0 50) 1 50) 2 50) 3 50) 4 50))), (q23, .inl (cI, 12, .inl (fun _ => 0))), (q30, .inl (cI, 5, .inl (upd (upd (upd (upd (upd (fun _ => 0) 0 3) 1 1) 2 1) 3 0) 4 50)))] := hD
  refine lv_iinc (k := 0) (v := 5) (lv' := [(1, .int 5), (0, .ref h0)]) hx hb dX0_init_80 hl rfl rfl (by decide) rfl (fun ls hl => ?_)
  refine lv_goto (tgt := 58) hx hb dX0_init_83 rfl ?_
  refine lv_iload_n hx hb dX0_init_58 rfl (lv_at hl 0 rfl) ?_
  refine lv_bipush (v := 6) hx hb dX0_init_59 rfl ?_
  refine lv_icmp_ge (tgt := 86) hx hb dX0_init_61 rfl (fun q => absurd q (by decide)) (fun _ => ?_)
  refine lv_aload_n hx hb dX0_init_64 rfl (lv_at hl 1 rfl) ?_
  refine va_get (v := .ref q7) (C := RX0) (T := TX0) (N := 5) hx hb hts inlX0 hown hK hP 0 rfl rfl 0 (by decide) (hts _ wq_47) (fun _ h9 => h9) rfl dX0_init_65 ?_
  refine lv_iload_n hx hb dX0_init_68 rfl (lv_at hl 0 rfl) ?_
  refine lv_bipush (v := 50) hx hb dX0_init_69 rfl ?_
  refine va_iast (i := 5) (x := 50) hx hb hK hP hD hS 1 0 rfl rfl (inb_in rfl) dX0_init_71 (fun H locs hP hD hS => ?_)
  have hP : va_P D vwCl [(h0, .inr (0, [.ref q7, .ref q15, .ref q23, .ref q30, .int 0])), (q7, .inl (cI, 6, .inl (upd (upd (upd (upd (upd (upd (fun _ => 0) 0 50) 1 50) 2 50) 3 50) 4 50) 5 50))), (q15, .inl (cI, 6, .inl (upd (upd (upd (upd (upd (fun _ => 0) 0 50) 1 50) 2 50) 3 50) 4 50))), (q23, .inl (cI, 12, .inl (fun _ => 0))), (q30, .inl (cI, 5, .inl (upd (upd (upd (upd (upd (fun _ => 0) 0 3) 1 1) 2 1) 3 0) 4 50)))] H := hP
  have hD : va_D A [(h0, .inr (0, [.ref q7, .ref q15, .ref q23, .ref q30, .int 0])), (q7, .inl (cI, 6, .inl (upd (upd (upd (upd (upd (upd (fun _ => 0) 0 50) 1 50) 2 50) 3 50) 4 50) 5 50))), (q15, .inl (cI, 6, .inl (upd (upd (upd (upd (upd (fun _ => 0) 0 50) 1 50) 2 50) 3 50) 4 50))), (q23, .inl (cI, 12, .inl (fun _ => 0))), (q30, .inl (cI, 5, .inl (upd (upd (upd (upd (upd (fun _ => 0) 0 3) 1 1) 2 1) 3 0) 4 50)))] := hD
  refine lv_aload_n hx hb dX0_init_72 rfl (lv_at hl 1 rfl) ?_
  refine va_get (v := .ref q15) (C := RX0) (T := TX0) (N := 5) hx hb hts inlX0 hown hK hP 0 rfl rfl 1 (by decide) (hts _ wq_48) (fun _ h9 => h9) rfl dX0_init_73 ?_
  refine lv_iload_n hx hb dX0_init_76 rfl (lv_at hl 0 rfl) ?_
  refine lv_bipush (v := 50) hx hb dX0_init_77 rfl ?_
  refine va_iast (i := 5) (x := 50) hx hb hK hP hD hS 2 0 rfl rfl (inb_in rfl) dX0_init_79 (fun H locs hP hD hS => ?_)
  have hP : va_P D vwCl [(h0, .inr (0, [.ref q7, .ref q15, .ref q23, .ref q30, .int 0])), (q7, .inl (cI, 6, .inl (upd (upd (upd (upd (upd (upd (fun _ => 0) 0 50) 1 50) 2 50) 3 50) 4 50) 5 50))), (q15, .inl (cI, 6, .inl (upd (upd (upd (upd (upd (upd (fun _ => 0) 0 50) 1 50) 2 50) 3 50) 4 50) 5 50))), (q23, .inl (cI, 12, .inl (fun _ => 0))), (q30, .inl (cI, 5, .inl (upd (upd (upd (upd (upd (fun _ => 0) 0 3) 1 1) 2 1) 3 0) 4 50)))] H := hP
  have hD : va_D A [(h0, .inr (0, [.ref q7, .ref q15, .ref q23, .ref q30, .int 0])), (q7, .inl (cI, 6, .inl (upd (upd (upd (upd (upd (upd (fun _ => 0) 0 50) 1 50) 2 50) 3 50) 4 50) 5 50))), (q15, .inl (cI, 6, .inl (upd (upd (upd (upd (upd (upd (fun _ => 0) 0 50) 1 50) 2 50) 3 50) 4 50) 5 50))), (q23, .inl (cI, 12, .inl (fun _ => 0))), (q30, .inl (cI, 5, .inl (upd (upd (upd (upd (upd (fun _ => 0) 0 3) 1 1) 2 1) 3 0) 4 50)))] := hD
  refine lv_iinc (k := 0) (v := 6) (lv' := [(1, .int 6), (0, .ref h0)]) hx hb dX0_init_80 hl rfl rfl (by decide) rfl (fun ls hl => ?_)
  refine lv_goto (tgt := 58) hx hb dX0_init_83 rfl ?_
  refine lv_iload_n hx hb dX0_init_58 rfl (lv_at hl 0 rfl) ?_
  refine lv_bipush (v := 6) hx hb dX0_init_59 rfl ?_
  refine lv_icmp_ge (tgt := 86) hx hb dX0_init_61 rfl (fun _ => ?_) (fun q => absurd (by decide) q)
  exact W.vret hx hb hr (fun t ht hW => ⟨⟨(q7, q15, q23, q30), rfl, trivial, by rw [ht]; exact hP, hD⟩, hS.F ht⟩) hS.2.2 dX0_init_86
def w1_X5_init (cI cL cB cV : ClassId) (h0 a1 : Nat) (u : Nat × Nat) : va_W := [(h0, .inr (5, [.ref a1, .ref u.1, .ref u.2, .int 0, .int 0, .int 0])), (u.1, .inl (cI, 6, .inl (fun _ => 0))), (u.2, .inl (cI, 12, .inl (fun _ => 0)))]
set_option maxHeartbeats 4000000 in
theorem c_X5_init (l : Launch) (D : va_G) (cI cL cB cV : ClassId) (h0 a1 sz : Nat) : Met l yX5_init (.code yX5_init cX5_init 2 none :: wsL_law) ({ frames := 1, cells := 2, slots := 18, locals := 12 }) (va_Pc [.ref h0, .ref a1] (fun U => U.heap.size = sz ∧ va_P D vwCl [(h0, .inr (5, [.null, .null, .null, .int 0, .int 0, .int 0]))] U.heap ∧ va_K D vwCl (ntys cI cL cB cV) U ∧ va_D (fun _ => True) [(h0, .inr (5, [.null, .null, .null, .int 0, .int 0, .int 0]))])) (va_Qv (fun _ : Nat × Nat => True) (fun u t => va_P D vwCl (w1_X5_init cI cL cB cV h0 a1 u) t.heap ∧ va_D (va_A [(h0, .inr (5, [.null, .null, .null, .int 0, .int 0, .int 0]))] sz) (w1_X5_init cI cL cB cV h0 a1 u)) (va_A [(h0, .inr (5, [.null, .null, .null, .int 0, .int 0, .int 0]))] sz)) 2 18 (va_A [(h0, .inr (5, [.null, .null, .null, .int 0, .int 0, .int 0]))] sz) := by
  refine Met.ofW (cc := cX5_init) (maxL := 2) (ret := none) (by decide) rfl ?_
  intro p e s m args below meth c s₁ B hml hv
  obtain ⟨rfl, hsz, hP, hK, hD0⟩ := hv
  have hx := B.exec
  have hb := B.bytes
  have hr := B.returns
  have hts : ∀ w ∈ wsL_law, w.before _ s = true := fun w h => atoms_spec (ws := (.code yX5_init cX5_init 2 none :: wsL_law)) B.pre w (List.mem_cons_of_mem _ h)
  have hown : s.vm.findClass RX5 = some m.cls := findClass_of_methodNamed B.named
  have hlocks := B.notSynchronized
  have hin : meth.name = "<init>" := (name_of_methodNamed B.named B.method).1
  subst hsz
  have hD := hD0.self (sz := s.heap.size)
  generalize hAe : va_A [(h0, .inr (5, [.null, .null, .null, .int 0, .int 0, .int 0]))] s.heap.size = A at hD ⊢
  have hA : ∀ q : Nat, s.heap.size ≤ q → A q := fun q h => by rw [← hAe]; exact Or.inr h
  have hS : va_S A s.heap s.heap [] := va_S.rf
  have hP : va_P D vwCl [(h0, .inr (5, [.null, .null, .null, .int 0, .int 0, .int 0]))] s.heap := hP
  have hl := lv_entry ([.ref h0, .ref a1]) (n := 2) (Nat.le_of_ble_eq_true rfl)
  rw [lg_entry_eq]
  generalize (lg_sl ([.ref h0, .ref a1]) ++ List.replicate (2 - (lg_sl ([.ref h0, .ref a1])).length) Slot.unset).toArray = ls at hl ⊢
  have hl : lv_has ls 2 [(0, .ref h0), (1, .ref a1)] := hl
  refine lv_aload_n hx hb dX5_init_0 rfl (lv_at hl 0 rfl) ?_
  refine W.objInit hx hb hown (hts _ wq_67) (hts _ wq_11) (hts _ wq_12) rfl (by rw [hml]; exact hl.1) rfl dX5_init_1 (Nat.le_of_ble_eq_true rfl) (Nat.le_of_ble_eq_true rfl) ?_
  refine W.eq (g2 := F0 m 4 ls []) rfl ?_
  refine lv_aload_n hx hb dX5_init_4 rfl (lv_at hl 0 rfl) ?_
  refine lv_bipush (v := 6) hx hb dX5_init_5 rfl ?_
  refine va_newa (atype := .int) (ty := .int) (a0 := (6, .inl (fun _ => 0))) hx hb (hts _ wq_23) rfl hK hP hD hS hA (fun _ => rfl) (by decide) rfl (Nat.le_of_ble_eq_true rfl) (Nat.le_of_ble_eq_true rfl) (Nat.le_of_ble_eq_true rfl) dX5_init_7 (fun q7 cA H hK9 hP hD hS => ?_)
  have e9 : cI = cA := Option.some.inj ((va_nm_int (hK.2 0 (cI, .int) rfl).2).symm.trans (va_nm_int (hK9.2 4 (cA, .int) rfl).2))
  subst e9
  have hP : va_P D vwCl [(h0, .inr (5, [.null, .null, .null, .int 0, .int 0, .int 0])), (q7, .inl (cI, 6, .inl (fun _ => 0)))] H := hP
  have hD : va_D A [(h0, .inr (5, [.null, .null, .null, .int 0, .int 0, .int 0])), (q7, .inl (cI, 6, .inl (fun _ => 0)))] := hD
  refine va_putF (D := D) (ci := 5) (v := .ref q7) (ty := tyX5 1) (C := RX5) (T := TX5) (N := 6) hx hb hts inlX5 tyX5 tyX5_ok nmX5 hown hK hP hD hS 0 rfl rfl 1 (by decide) (hts _ wq_68) (fun _ h9 => h9) rfl hin rfl (by decide +kernel) rfl rfl (Nat.le_of_ble_eq_true rfl) dX5_init_9 (fun H locs hP hD hS => ?_)
  have hP : va_P D vwCl [(h0, .inr (5, [.null, .ref q7, .null, .int 0, .int 0, .int 0])), (q7, .inl (cI, 6, .inl (fun _ => 0)))] H := hP
  have hD : va_D A [(h0, .inr (5, [.null, .ref q7, .null, .int 0, .int 0, .int 0])), (q7, .inl (cI, 6, .inl (fun _ => 0)))] := hD
  refine lv_aload_n hx hb dX5_init_12 rfl (lv_at hl 0 rfl) ?_
  refine lv_bipush (v := 12) hx hb dX5_init_13 rfl ?_
  refine va_newa (atype := .int) (ty := .int) (a0 := (12, .inl (fun _ => 0))) hx hb (hts _ wq_23) rfl hK hP hD hS hA (fun _ => rfl) (by decide) rfl (Nat.le_of_ble_eq_true rfl) (Nat.le_of_ble_eq_true rfl) (Nat.le_of_ble_eq_true rfl) dX5_init_15 (fun q15 cA H hK9 hP hD hS => ?_)
  have e9 : cI = cA := Option.some.inj ((va_nm_int (hK.2 0 (cI, .int) rfl).2).symm.trans (va_nm_int (hK9.2 4 (cA, .int) rfl).2))
  subst e9
  have hP : va_P D vwCl [(h0, .inr (5, [.null, .ref q7, .null, .int 0, .int 0, .int 0])), (q7, .inl (cI, 6, .inl (fun _ => 0))), (q15, .inl (cI, 12, .inl (fun _ => 0)))] H := hP
  have hD : va_D A [(h0, .inr (5, [.null, .ref q7, .null, .int 0, .int 0, .int 0])), (q7, .inl (cI, 6, .inl (fun _ => 0))), (q15, .inl (cI, 12, .inl (fun _ => 0)))] := hD
  refine va_putF (D := D) (ci := 5) (v := .ref q15) (ty := tyX5 2) (C := RX5) (T := TX5) (N := 6) hx hb hts inlX5 tyX5 tyX5_ok nmX5 hown hK hP hD hS 0 rfl rfl 2 (by decide) (hts _ wq_69) (fun _ h9 => h9) rfl hin rfl (by decide +kernel) rfl rfl (Nat.le_of_ble_eq_true rfl) dX5_init_17 (fun H locs hP hD hS => ?_)
  have hP : va_P D vwCl [(h0, .inr (5, [.null, .ref q7, .ref q15, .int 0, .int 0, .int 0])), (q7, .inl (cI, 6, .inl (fun _ => 0))), (q15, .inl (cI, 12, .inl (fun _ => 0)))] H := hP
  have hD : va_D A [(h0, .inr (5, [.null, .ref q7, .ref q15, .int 0, .int 0, .int 0])), (q7, .inl (cI, 6, .inl (fun _ => 0))), (q15, .inl (cI, 12, .inl (fun _ => 0)))] := hD
  refine lv_aload_n hx hb dX5_init_20 rfl (lv_at hl 0 rfl) ?_
  refine lv_aload_n hx hb dX5_init_21 rfl (lv_at hl 1 rfl) ?_
  refine va_putF (D := D) (ci := 5) (v := .ref a1) (ty := tyX5 0) (C := RX5) (T := TX5) (N := 6) hx hb hts inlX5 tyX5 tyX5_ok nmX5 hown hK hP hD hS 0 rfl rfl 0 (by decide) (hts _ wq_70) (fun _ h9 => h9) rfl hin rfl (by decide +kernel) rfl rfl (Nat.le_of_ble_eq_true rfl) dX5_init_22 (fun H locs hP hD hS => ?_)
  have hP : va_P D vwCl [(h0, .inr (5, [.ref a1, .ref q7, .ref q15, .int 0, .int 0, .int 0])), (q7, .inl (cI, 6, .inl (fun _ => 0))), (q15, .inl (cI, 12, .inl (fun _ => 0)))] H := hP
  have hD : va_D A [(h0, .inr (5, [.ref a1, .ref q7, .ref q15, .int 0, .int 0, .int 0])), (q7, .inl (cI, 6, .inl (fun _ => 0))), (q15, .inl (cI, 12, .inl (fun _ => 0)))] := hD
  exact W.vret hx hb hr (fun t ht hW => ⟨⟨(q7, q15), rfl, trivial, by rw [ht]; exact hP, hD⟩, hS.F ht⟩) hS.2.2 dX5_init_25
def w1_X3_init (cI cL cB cV : ClassId) (h0 a1 a2 : Nat) (u : Nat × Nat × Nat × Nat) : va_W := [(h0, .inr (3, [.ref a1, .ref a2, .ref u.1, .ref u.2.1, .ref u.2.2.1, .ref u.2.2.2, .int 0, .int 0])), (u.1, .inl (cI, 220, .inl (fun _ => 0))), (u.2.1, .inl (cI, 220, .inl (fun _ => 0))), (u.2.2.1, .inl (cL, 220, .inr (.inl (fun _ => 0)))), (u.2.2.2, .inl (cL, 220, .inr (.inl (fun _ => 0))))]
set_option maxHeartbeats 4000000 in
theorem c_X3_init (l : Launch) (D : va_G) (cI cL cB cV : ClassId) (h0 a1 a2 sz : Nat) : Met l yX3_init (.code yX3_init cX3_init 3 none :: wsL_law) ({ frames := 1, cells := 4, slots := 880, locals := 12 }) (va_Pc [.ref h0, .ref a1, .ref a2] (fun U => U.heap.size = sz ∧ va_P D vwCl [(h0, .inr (3, [.null, .null, .null, .null, .null, .null, .int 0, .int 0]))] U.heap ∧ va_K D vwCl (ntys cI cL cB cV) U ∧ va_D (fun _ => True) [(h0, .inr (3, [.null, .null, .null, .null, .null, .null, .int 0, .int 0]))])) (va_Qv (fun _ : Nat × Nat × Nat × Nat => True) (fun u t => va_P D vwCl (w1_X3_init cI cL cB cV h0 a1 a2 u) t.heap ∧ va_D (va_A [(h0, .inr (3, [.null, .null, .null, .null, .null, .null, .int 0, .int 0]))] sz) (w1_X3_init cI cL cB cV h0 a1 a2 u)) (va_A [(h0, .inr (3, [.null, .null, .null, .null, .null, .null, .int 0, .int 0]))] sz)) 4 880 (va_A [(h0, .inr (3, [.null, .null, .null, .null, .null, .null, .int 0, .int 0]))] sz) := by
  refine Met.ofW (cc := cX3_init) (maxL := 3) (ret := none) (by decide) rfl ?_
  intro p e s m args below meth c s₁ B hml hv
  obtain ⟨rfl, hsz, hP, hK, hD0⟩ := hv
  have hx := B.exec
  have hb := B.bytes
  have hr := B.returns
  have hts : ∀ w ∈ wsL_law, w.before _ s = true := fun w h => atoms_spec (ws := (.code yX3_init cX3_init 3 none :: wsL_law)) B.pre w (List.mem_cons_of_mem _ h)
  have hown : s.vm.findClass RX3 = some m.cls := findClass_of_methodNamed B.named
  have hlocks := B.notSynchronized
  have hin : meth.name = "<init>" := (name_of_methodNamed B.named B.method).1
  subst hsz
  have hD := hD0.self (sz := s.heap.size)
  generalize hAe : va_A [(h0, .inr (3, [.null, .null, .null, .null, .null, .null, .int 0, .int 0]))] s.heap.size = A at hD ⊢
  have hA : ∀ q : Nat, s.heap.size ≤ q → A q := fun q h => by rw [← hAe]; exact Or.inr h
  have hS : va_S A s.heap s.heap [] := va_S.rf
  have hP : va_P D vwCl [(h0, .inr (3, [.null, .null, .null, .null, .null, .null, .int 0, .int 0]))] s.heap := hP
  have hl := lv_entry ([.ref h0, .ref a1, .ref a2]) (n := 3) (Nat.le_of_ble_eq_true rfl)
  rw [lg_entry_eq]
  generalize (lg_sl ([.ref h0, .ref a1, .ref a2]) ++ List.replicate (3 - (lg_sl ([.ref h0, .ref a1, .ref a2])).length) Slot.unset).toArray = ls at hl ⊢
  have hl : lv_has ls 3 [(0, .ref h0), (1, .ref a1), (2, .ref a2)] := hl
  refine lv_aload_n hx hb dX3_init_0 rfl (lv_at hl 0 rfl) ?_
  refine W.objInit hx hb hown (hts _ wq_73) (hts _ wq_11) (hts _ wq_12) rfl (by rw [hml]; exact hl.1) rfl dX3_init_1 (Nat.le_of_ble_eq_true rfl) (Nat.le_of_ble_eq_true rfl) ?_
  refine W.eq (g2 := F0 m 4 ls []) rfl ?_
  refine lv_aload_n hx hb dX3_init_4 rfl (lv_at hl 0 rfl) ?_
  refine lv_sipush (v := 220) hx hb dX3_init_5 rfl ?_
  refine va_newa (atype := .int) (ty := .int) (a0 := (220, .inl (fun _ => 0))) hx hb (hts _ wq_23) rfl hK hP hD hS hA (fun _ => rfl) (by decide) rfl (Nat.le_of_ble_eq_true rfl) (Nat.le_of_ble_eq_true rfl) (Nat.le_of_ble_eq_true rfl) dX3_init_8 (fun q8 cA H hK9 hP hD hS => ?_)
  have e9 : cI = cA := Option.some.inj ((va_nm_int (hK.2 0 (cI, .int) rfl).2).symm.trans (va_nm_int (hK9.2 4 (cA, .int) rfl).2))
  subst e9
  have hP : va_P D vwCl [(h0, .inr (3, [.null, .null, .null, .null, .null, .null, .int 0, .int 0])), (q8, .inl (cI, 220, .inl (fun _ => 0)))] H := hP
  have hD : va_D A [(h0, .inr (3, [.null, .null, .null, .null, .null, .null, .int 0, .int 0])), (q8, .inl (cI, 220, .inl (fun _ => 0)))] := hD
  refine va_putF (D := D) (ci := 3) (v := .ref q8) (ty := tyX3 2) (C := RX3) (T := TX3) (N := 8) hx hb hts inlX3 tyX3 tyX3_ok nmX3 hown hK hP hD hS 0 rfl rfl 2 (by decide) (hts _ wq_74) (fun _ h9 => h9) rfl hin rfl (by decide +kernel) rfl rfl (Nat.le_of_ble_eq_true rfl) dX3_init_10 (fun H locs hP hD hS => ?_)
  have hP : va_P D vwCl [(h0, .inr (3, [.null, .null, .ref q8, .null, .null, .null, .int 0, .int 0])), (q8, .inl (cI, 220, .inl (fun _ => 0)))] H := hP
  have hD : va_D A [(h0, .inr (3, [.null, .null, .ref q8, .null, .null, .null, .int 0, .int 0])), (q8, .inl (cI, 220, .inl (fun _ => 0)))] := hD
  refine lv_aload_n hx hb dX3_init_13 rfl (lv_at hl 0 rfl) ?_
  refine lv_sipush (v := 220) hx hb dX3_init_14 rfl ?_
  refine va_newa (atype := .int) (ty := .int) (a0 := (220, .inl (fun _ => 0))) hx hb (hts _ wq_23) rfl hK hP hD hS hA (fun _ => rfl) (by decide) rfl (Nat.le_of_ble_eq_true rfl) (Nat.le_of_ble_eq_true rfl) (Nat.le_of_ble_eq_true rfl) dX3_init_17 (fun q17 cA H hK9 hP hD hS => ?_)
  have e9 : cI = cA := Option.some.inj ((va_nm_int (hK.2 0 (cI, .int) rfl).2).symm.trans (va_nm_int (hK9.2 4 (cA, .int) rfl).2))
  subst e9
  have hP : va_P D vwCl [(h0, .inr (3, [.null, .null, .ref q8, .null, .null, .null, .int 0, .int 0])), (q8, .inl (cI, 220, .inl (fun _ => 0))), (q17, .inl (cI, 220, .inl (fun _ => 0)))] H := hP
  have hD : va_D A [(h0, .inr (3, [.null, .null, .ref q8, .null, .null, .null, .int 0, .int 0])), (q8, .inl (cI, 220, .inl (fun _ => 0))), (q17, .inl (cI, 220, .inl (fun _ => 0)))] := hD
  refine va_putF (D := D) (ci := 3) (v := .ref q17) (ty := tyX3 3) (C := RX3) (T := TX3) (N := 8) hx hb hts inlX3 tyX3 tyX3_ok nmX3 hown hK hP hD hS 0 rfl rfl 3 (by decide) (hts _ wq_75) (fun _ h9 => h9) rfl hin rfl (by decide +kernel) rfl rfl (Nat.le_of_ble_eq_true rfl) dX3_init_19 (fun H locs hP hD hS => ?_)
  have hP : va_P D vwCl [(h0, .inr (3, [.null, .null, .ref q8, .ref q17, .null, .null, .int 0, .int 0])), (q8, .inl (cI, 220, .inl (fun _ => 0))), (q17, .inl (cI, 220, .inl (fun _ => 0)))] H := hP
  have hD : va_D A [(h0, .inr (3, [.null, .null, .ref q8, .ref q17, .null, .null, .int 0, .int 0])), (q8, .inl (cI, 220, .inl (fun _ => 0))), (q17, .inl (cI, 220, .inl (fun _ => 0)))] := hD
  refine lv_aload_n hx hb dX3_init_22 rfl (lv_at hl 0 rfl) ?_
  refine lv_sipush (v := 220) hx hb dX3_init_23 rfl ?_
  refine va_newa (atype := .long) (ty := .long) (a0 := (220, .inr (.inl (fun _ => 0)))) hx hb (hts _ wq_13) rfl hK hP hD hS hA (fun _ => rfl) (by decide) rfl (Nat.le_of_ble_eq_true rfl) (Nat.le_of_ble_eq_true rfl) (Nat.le_of_ble_eq_true rfl) dX3_init_26 (fun q26 cA H hK9 hP hD hS => ?_)
  have e9 : cL = cA := Option.some.inj ((va_nm_long (hK.2 1 (cL, .long) rfl).2).symm.trans (va_nm_long (hK9.2 4 (cA, .long) rfl).2))
  subst e9
  have hP : va_P D vwCl [(h0, .inr (3, [.null, .null, .ref q8, .ref q17, .null, .null, .int 0, .int 0])), (q8, .inl (cI, 220, .inl (fun _ => 0))), (q17, .inl (cI, 220, .inl (fun _ => 0))), (q26, .inl (cL, 220, .inr (.inl (fun _ => 0))))] H := hP
  have hD : va_D A [(h0, .inr (3, [.null, .null, .ref q8, .ref q17, .null, .null, .int 0, .int 0])), (q8, .inl (cI, 220, .inl (fun _ => 0))), (q17, .inl (cI, 220, .inl (fun _ => 0))), (q26, .inl (cL, 220, .inr (.inl (fun _ => 0))))] := hD
  refine va_putF (D := D) (ci := 3) (v := .ref q26) (ty := tyX3 4) (C := RX3) (T := TX3) (N := 8) hx hb hts inlX3 tyX3 tyX3_ok nmX3 hown hK hP hD hS 0 rfl rfl 4 (by decide) (hts _ wq_76) (fun _ h9 => h9) rfl hin rfl (by decide +kernel) rfl rfl (Nat.le_of_ble_eq_true rfl) dX3_init_28 (fun H locs hP hD hS => ?_)
  have hP : va_P D vwCl [(h0, .inr (3, [.null, .null, .ref q8, .ref q17, .ref q26, .null, .int 0, .int 0])), (q8, .inl (cI, 220, .inl (fun _ => 0))), (q17, .inl (cI, 220, .inl (fun _ => 0))), (q26, .inl (cL, 220, .inr (.inl (fun _ => 0))))] H := hP
  have hD : va_D A [(h0, .inr (3, [.null, .null, .ref q8, .ref q17, .ref q26, .null, .int 0, .int 0])), (q8, .inl (cI, 220, .inl (fun _ => 0))), (q17, .inl (cI, 220, .inl (fun _ => 0))), (q26, .inl (cL, 220, .inr (.inl (fun _ => 0))))] := hD
  refine lv_aload_n hx hb dX3_init_31 rfl (lv_at hl 0 rfl) ?_
  refine lv_sipush (v := 220) hx hb dX3_init_32 rfl ?_
  refine va_newa (atype := .long) (ty := .long) (a0 := (220, .inr (.inl (fun _ => 0)))) hx hb (hts _ wq_13) rfl hK hP hD hS hA (fun _ => rfl) (by decide) rfl (Nat.le_of_ble_eq_true rfl) (Nat.le_of_ble_eq_true rfl) (Nat.le_of_ble_eq_true rfl) dX3_init_35 (fun q35 cA H hK9 hP hD hS => ?_)
  have e9 : cL = cA := Option.some.inj ((va_nm_long (hK.2 1 (cL, .long) rfl).2).symm.trans (va_nm_long (hK9.2 4 (cA, .long) rfl).2))
  subst e9
  have hP : va_P D vwCl [(h0, .inr (3, [.null, .null, .ref q8, .ref q17, .ref q26, .null, .int 0, .int 0])), (q8, .inl (cI, 220, .inl (fun _ => 0))), (q17, .inl (cI, 220, .inl (fun _ => 0))), (q26, .inl (cL, 220, .inr (.inl (fun _ => 0)))), (q35, .inl (cL, 220, .inr (.inl (fun _ => 0))))] H := hP
  have hD : va_D A [(h0, .inr (3, [.null, .null, .ref q8, .ref q17, .ref q26, .null, .int 0, .int 0])), (q8, .inl (cI, 220, .inl (fun _ => 0))), (q17, .inl (cI, 220, .inl (fun _ => 0))), (q26, .inl (cL, 220, .inr (.inl (fun _ => 0)))), (q35, .inl (cL, 220, .inr (.inl (fun _ => 0))))] := hD
  refine va_putF (D := D) (ci := 3) (v := .ref q35) (ty := tyX3 5) (C := RX3) (T := TX3) (N := 8) hx hb hts inlX3 tyX3 tyX3_ok nmX3 hown hK hP hD hS 0 rfl rfl 5 (by decide) (hts _ wq_77) (fun _ h9 => h9) rfl hin rfl (by decide +kernel) rfl rfl (Nat.le_of_ble_eq_true rfl) dX3_init_37 (fun H locs hP hD hS => ?_)
  have hP : va_P D vwCl [(h0, .inr (3, [.null, .null, .ref q8, .ref q17, .ref q26, .ref q35, .int 0, .int 0])), (q8, .inl (cI, 220, .inl (fun _ => 0))), (q17, .inl (cI, 220, .inl (fun _ => 0))), (q26, .inl (cL, 220, .inr (.inl (fun _ => 0)))), (q35, .inl (cL, 220, .inr (.inl (fun _ => 0))))] H := hP
  have hD : va_D A [(h0, .inr (3, [.null, .null, .ref q8, .ref q17, .ref q26, .ref q35, .int 0, .int 0])), (q8, .inl (cI, 220, .inl (fun _ => 0))), (q17, .inl (cI, 220, .inl (fun _ => 0))), (q26, .inl (cL, 220, .inr (.inl (fun _ => 0)))), (q35, .inl (cL, 220, .inr (.inl (fun _ => 0))))] := hD
  refine lv_aload_n hx hb dX3_init_40 rfl (lv_at hl 0 rfl) ?_
  refine lv_aload_n hx hb dX3_init_41 rfl (lv_at hl 1 rfl) ?_
  refine va_putF (D := D) (ci := 3) (v := .ref a1) (ty := tyX3 0) (C := RX3) (T := TX3) (N := 8) hx hb hts inlX3 tyX3 tyX3_ok nmX3 hown hK hP hD hS 0 rfl rfl 0 (by decide) (hts _ wq_78) (fun _ h9 => h9) rfl hin rfl (by decide +kernel) rfl rfl (Nat.le_of_ble_eq_true rfl) dX3_init_42 (fun H locs hP hD hS => ?_)
  have hP : va_P D vwCl [(h0, .inr (3, [.ref a1, .null, .ref q8, .ref q17, .ref q26, .ref q35, .int 0, .int 0])), (q8, .inl (cI, 220, .inl (fun _ => 0))), (q17, .inl (cI, 220, .inl (fun _ => 0))), (q26, .inl (cL, 220, .inr (.inl (fun _ => 0)))), (q35, .inl (cL, 220, .inr (.inl (fun _ => 0))))] H := hP
  have hD : va_D A [(h0, .inr (3, [.ref a1, .null, .ref q8, .ref q17, .ref q26, .ref q35, .int 0, .int 0])), (q8, .inl (cI, 220, .inl (fun _ => 0))), (q17, .inl (cI, 220, .inl (fun _ => 0))), (q26, .inl (cL, 220, .inr (.inl (fun _ => 0)))), (q35, .inl (cL, 220, .inr (.inl (fun _ => 0))))] := hD
  refine lv_aload_n hx hb dX3_init_45 rfl (lv_at hl 0 rfl) ?_
  refine lv_aload_n hx hb dX3_init_46 rfl (lv_at hl 2 rfl) ?_
  refine va_putF (D := D) (ci := 3) (v := .ref a2) (ty := tyX3 1) (C := RX3) (T := TX3) (N := 8) hx hb hts inlX3 tyX3 tyX3_ok nmX3 hown hK hP hD hS 0 rfl rfl 1 (by decide) (hts _ wq_79) (fun _ h9 => h9) rfl hin rfl (by decide +kernel) rfl rfl (Nat.le_of_ble_eq_true rfl) dX3_init_47 (fun H locs hP hD hS => ?_)
  have hP : va_P D vwCl [(h0, .inr (3, [.ref a1, .ref a2, .ref q8, .ref q17, .ref q26, .ref q35, .int 0, .int 0])), (q8, .inl (cI, 220, .inl (fun _ => 0))), (q17, .inl (cI, 220, .inl (fun _ => 0))), (q26, .inl (cL, 220, .inr (.inl (fun _ => 0)))), (q35, .inl (cL, 220, .inr (.inl (fun _ => 0))))] H := hP
  have hD : va_D A [(h0, .inr (3, [.ref a1, .ref a2, .ref q8, .ref q17, .ref q26, .ref q35, .int 0, .int 0])), (q8, .inl (cI, 220, .inl (fun _ => 0))), (q17, .inl (cI, 220, .inl (fun _ => 0))), (q26, .inl (cL, 220, .inr (.inl (fun _ => 0)))), (q35, .inl (cL, 220, .inr (.inl (fun _ => 0))))] := hD
  exact W.vret hx hb hr (fun t ht hW => ⟨⟨(q8, q17, q26, q35), rfl, trivial, by rw [ht]; exact hP, hD⟩, hS.F ht⟩) hS.2.2 dX3_init_50
def w1_X1_init (cI cL cB cV : ClassId) (h0 a1 a2 : Nat) (u : Unit) : va_W := [(h0, .inr (1, [.ref a1, .ref a2, .int 0, .int 0, .int 0, .int 0, .int 0]))]
set_option maxHeartbeats 4000000 in
theorem c_X1_init (l : Launch) (D : va_G) (cI cL cB cV : ClassId) (h0 a1 a2 sz : Nat) : Met l yX1_init (.code yX1_init cX1_init 3 none :: wsL_law) ({ frames := 1, cells := 0, slots := 0, locals := 12 }) (va_Pc [.ref h0, .ref a1, .ref a2] (fun U => U.heap.size = sz ∧ va_P D vwCl [(h0, .inr (1, [.null, .null, .int 0, .int 0, .int 0, .int 0, .int 0]))] U.heap ∧ va_K D vwCl (ntys cI cL cB cV) U ∧ va_D (fun _ => True) [(h0, .inr (1, [.null, .null, .int 0, .int 0, .int 0, .int 0, .int 0]))])) (va_Qv (fun _ : Unit => True) (fun u t => va_P D vwCl (w1_X1_init cI cL cB cV h0 a1 a2 u) t.heap ∧ va_D (va_A [(h0, .inr (1, [.null, .null, .int 0, .int 0, .int 0, .int 0, .int 0]))] sz) (w1_X1_init cI cL cB cV h0 a1 a2 u)) (va_A [(h0, .inr (1, [.null, .null, .int 0, .int 0, .int 0, .int 0, .int 0]))] sz)) 0 0 (va_A [(h0, .inr (1, [.null, .null, .int 0, .int 0, .int 0, .int 0, .int 0]))] sz) := by
  refine Met.ofW (cc := cX1_init) (maxL := 3) (ret := none) (by decide) rfl ?_
  intro p e s m args below meth c s₁ B hml hv
  obtain ⟨rfl, hsz, hP, hK, hD0⟩ := hv
  have hx := B.exec
  have hb := B.bytes
  have hr := B.returns
  have hts : ∀ w ∈ wsL_law, w.before _ s = true := fun w h => atoms_spec (ws := (.code yX1_init cX1_init 3 none :: wsL_law)) B.pre w (List.mem_cons_of_mem _ h)
  have hown : s.vm.findClass RX1 = some m.cls := findClass_of_methodNamed B.named
  have hlocks := B.notSynchronized
  have hin : meth.name = "<init>" := (name_of_methodNamed B.named B.method).1
  subst hsz
  have hD := hD0.self (sz := s.heap.size)
  generalize hAe : va_A [(h0, .inr (1, [.null, .null, .int 0, .int 0, .int 0, .int 0, .int 0]))] s.heap.size = A at hD ⊢
  have hA : ∀ q : Nat, s.heap.size ≤ q → A q := fun q h => by rw [← hAe]; exact Or.inr h
  have hS : va_S A s.heap s.heap [] := va_S.rf
  have hP : va_P D vwCl [(h0, .inr (1, [.null, .null, .int 0, .int 0, .int 0, .int 0, .int 0]))] s.heap := hP
  have hl := lv_entry ([.ref h0, .ref a1, .ref a2]) (n := 3) (Nat.le_of_ble_eq_true rfl)
  rw [lg_entry_eq]
  generalize (lg_sl ([.ref h0, .ref a1, .ref a2]) ++ List.replicate (3 - (lg_sl ([.ref h0, .ref a1, .ref a2])).length) Slot.unset).toArray = ls at hl ⊢
  have hl : lv_has ls 3 [(0, .ref h0), (1, .ref a1), (2, .ref a2)] := hl
  refine lv_aload_n hx hb dX1_init_0 rfl (lv_at hl 0 rfl) ?_
  refine W.objInit hx hb hown (hts _ wq_82) (hts _ wq_11) (hts _ wq_12) rfl (by rw [hml]; exact hl.1) rfl dX1_init_1 (Nat.le_of_ble_eq_true rfl) (Nat.le_of_ble_eq_true rfl) ?_
  refine W.eq (g2 := F0 m 4 ls []) rfl ?_
  refine lv_aload_n hx hb dX1_init_4 rfl (lv_at hl 0 rfl) ?_
  refine lv_aload_n hx hb dX1_init_5 rfl (lv_at hl 1 rfl) ?_
  refine va_putF (D := D) (ci := 1) (v := .ref a1) (ty := tyX1 0) (C := RX1) (T := TX1) (N := 7) hx hb hts inlX1 tyX1 tyX1_ok nmX1 hown hK hP hD hS 0 rfl rfl 0 (by decide) (hts _ wq_83) (fun _ h9 => h9) rfl hin rfl (by decide +kernel) rfl rfl (Nat.le_of_ble_eq_true rfl) dX1_init_6 (fun H locs hP hD hS => ?_)
  have hP : va_P D vwCl [(h0, .inr (1, [.ref a1, .null, .int 0, .int 0, .int 0, .int 0, .int 0]))] H := hP
  have hD : va_D A [(h0, .inr (1, [.ref a1, .null, .int 0, .int 0, .int 0, .int 0, .int 0]))] := hD
  refine lv_aload_n hx hb dX1_init_9 rfl (lv_at hl 0 rfl) ?_
  refine lv_aload_n hx hb dX1_init_10 rfl (lv_at hl 2 rfl) ?_
  refine va_putF (D := D) (ci := 1) (v := .ref a2) (ty := tyX1 1) (C := RX1) (T := TX1) (N := 7) hx hb hts inlX1 tyX1 tyX1_ok nmX1 hown hK hP hD hS 0 rfl rfl 1 (by decide) (hts _ wq_84) (fun _ h9 => h9) rfl hin rfl (by decide +kernel) rfl rfl (Nat.le_of_ble_eq_true rfl) dX1_init_11 (fun H locs hP hD hS => ?_)
  have hP : va_P D vwCl [(h0, .inr (1, [.ref a1, .ref a2, .int 0, .int 0, .int 0, .int 0, .int 0]))] H := hP
  have hD : va_D A [(h0, .inr (1, [.ref a1, .ref a2, .int 0, .int 0, .int 0, .int 0, .int 0]))] := hD
  exact W.vret hx hb hr (fun t ht hW => ⟨⟨(), rfl, trivial, by rw [ht]; exact hP, hD⟩, hS.F ht⟩) hS.2.2 dX1_init_14
def w1_X2_init (cI cL cB cV : ClassId) (h0 : Nat) (u : Nat × Nat × Nat × Nat × (Nat → Nat)) : va_W := [(h0, .inr (2, [.ref u.1, .ref u.2.1, .ref u.2.2.1, .ref u.2.2.2.1, .int 0, .int 0, .int 0])), (u.1, .inl (cI, 12, .inl (fun _ => 0))), (u.2.1, .inl (cI, 12, .inl (fun _ => 0))), (u.2.2.1, .inl (cL, 8, .inr (.inl (fun _ => 0)))), (u.2.2.2.1, .inl (cV, 8, .inr (.inr (.inr (.inr (fun i => if i < 8 then some (u.2.2.2.2 i) else none)))))), (u.2.2.2.2 0, .inl (cL, 8, .inr (.inl (fun _ => 0)))), (u.2.2.2.2 1, .inl (cL, 8, .inr (.inl (fun _ => 0)))), (u.2.2.2.2 2, .inl (cL, 8, .inr (.inl (fun _ => 0)))), (u.2.2.2.2 3, .inl (cL, 8, .inr (.inl (fun _ => 0)))), (u.2.2.2.2 4, .inl (cL, 8, .inr (.inl (fun _ => 0)))), (u.2.2.2.2 5, .inl (cL, 8, .inr (.inl (fun _ => 0)))), (u.2.2.2.2 6, .inl (cL, 8, .inr (.inl (fun _ => 0)))), (u.2.2.2.2 7, .inl (cL, 8, .inr (.inl (fun _ => 0))))]
set_option maxHeartbeats 4000000 in
theorem c_X2_init (l : Launch) (D : va_G) (cI cL cB cV : ClassId) (h0 sz : Nat) : Met l yX2_init (.code yX2_init cX2_init 1 none :: wsL_law) ({ frames := 1, cells := 12, slots := 104, locals := 12 }) (va_Pc [.ref h0] (fun U => U.heap.size = sz ∧ va_P D vwCl [(h0, .inr (2, [.null, .null, .null, .null, .int 0, .int 0, .int 0]))] U.heap ∧ va_K D vwCl (ntys cI cL cB cV) U ∧ va_D (fun _ => True) [(h0, .inr (2, [.null, .null, .null, .null, .int 0, .int 0, .int 0]))] ∧ va_AOA .long U)) (va_Qv (fun _ : Nat × Nat × Nat × Nat × (Nat → Nat) => True) (fun u t => va_P D vwCl (w1_X2_init cI cL cB cV h0 u) t.heap ∧ va_D (va_A [(h0, .inr (2, [.null, .null, .null, .null, .int 0, .int 0, .int 0]))] sz) (w1_X2_init cI cL cB cV h0 u)) (va_A [(h0, .inr (2, [.null, .null, .null, .null, .int 0, .int 0, .int 0]))] sz)) 12 104 (va_A [(h0, .inr (2, [.null, .null, .null, .null, .int 0, .int 0, .int 0]))] sz) := by
  refine Met.ofW (cc := cX2_init) (maxL := 1) (ret := none) (by decide) rfl ?_
  intro p e s m args below meth c s₁ B hml hv
  obtain ⟨rfl, hsz, hP, hK, hD0, hO⟩ := hv
  have hx := B.exec
  have hb := B.bytes
  have hr := B.returns
  have hts : ∀ w ∈ wsL_law, w.before _ s = true := fun w h => atoms_spec (ws := (.code yX2_init cX2_init 1 none :: wsL_law)) B.pre w (List.mem_cons_of_mem _ h)
  have hown : s.vm.findClass RX2 = some m.cls := findClass_of_methodNamed B.named
  have hlocks := B.notSynchronized
  have hin : meth.name = "<init>" := (name_of_methodNamed B.named B.method).1
  subst hsz
  have hD := hD0.self (sz := s.heap.size)
  generalize hAe : va_A [(h0, .inr (2, [.null, .null, .null, .null, .int 0, .int 0, .int 0]))] s.heap.size = A at hD ⊢
  have hA : ∀ q : Nat, s.heap.size ≤ q → A q := fun q h => by rw [← hAe]; exact Or.inr h
  have hS : va_S A s.heap s.heap [] := va_S.rf
  have hP : va_P D vwCl [(h0, .inr (2, [.null, .null, .null, .null, .int 0, .int 0, .int 0]))] s.heap := hP
  have hl := lv_entry ([.ref h0]) (n := 1) (Nat.le_of_ble_eq_true rfl)
  rw [lg_entry_eq]
  generalize (lg_sl ([.ref h0]) ++ List.replicate (1 - (lg_sl ([.ref h0])).length) Slot.unset).toArray = ls at hl ⊢
  have hl : lv_has ls 1 [(0, .ref h0)] := hl
  refine lv_aload_n hx hb dX2_init_0 rfl (lv_at hl 0 rfl) ?_
  refine W.objInit hx hb hown (hts _ wq_59) (hts _ wq_11) (hts _ wq_12) rfl (by rw [hml]; exact hl.1) rfl dX2_init_1 (Nat.le_of_ble_eq_true rfl) (Nat.le_of_ble_eq_true rfl) ?_
  refine W.eq (g2 := F0 m 4 ls []) rfl ?_
  refine lv_aload_n hx hb dX2_init_4 rfl (lv_at hl 0 rfl) ?_
  refine lv_bipush (v := 12) hx hb dX2_init_5 rfl ?_
  refine va_newa (atype := .int) (ty := .int) (a0 := (12, .inl (fun _ => 0))) hx hb (hts _ wq_23) rfl hK hP hD hS hA (fun _ => rfl) (by decide) rfl (Nat.le_of_ble_eq_true rfl) (Nat.le_of_ble_eq_true rfl) (Nat.le_of_ble_eq_true rfl) dX2_init_7 (fun q7 cA H hK9 hP hD hS => ?_)
  have e9 : cI = cA := Option.some.inj ((va_nm_int (hK.2 0 (cI, .int) rfl).2).symm.trans (va_nm_int (hK9.2 4 (cA, .int) rfl).2))
  subst e9
  have hP : va_P D vwCl [(h0, .inr (2, [.null, .null, .null, .null, .int 0, .int 0, .int 0])), (q7, .inl (cI, 12, .inl (fun _ => 0)))] H := hP
  have hD : va_D A [(h0, .inr (2, [.null, .null, .null, .null, .int 0, .int 0, .int 0])), (q7, .inl (cI, 12, .inl (fun _ => 0)))] := hD
  refine va_putF (D := D) (ci := 2) (v := .ref q7) (ty := tyX2 0) (C := RX2) (T := TX2) (N := 7) hx hb hts inlX2 tyX2 tyX2_ok nmX2 hown hK hP hD hS 0 rfl rfl 0 (by decide) (hts _ wq_60) (fun _ h9 => h9) rfl hin rfl (by decide +kernel) rfl rfl (Nat.le_of_ble_eq_true rfl) dX2_init_9 (fun H locs hP hD hS => ?_)
  have hP : va_P D vwCl [(h0, .inr (2, [.ref q7, .null, .null, .null, .int 0, .int 0, .int 0])), (q7, .inl (cI, 12, .inl (fun _ => 0)))] H := hP
  have hD : va_D A [(h0, .inr (2, [.ref q7, .null, .null, .null, .int 0, .int 0, .int 0])), (q7, .inl (cI, 12, .inl (fun _ => 0)))] := hD
  refine lv_aload_n hx hb dX2_init_12 rfl (lv_at hl 0 rfl) ?_
  refine lv_bipush (v := 12) hx hb dX2_init_13 rfl ?_
  refine va_newa (atype := .int) (ty := .int) (a0 := (12, .inl (fun _ => 0))) hx hb (hts _ wq_23) rfl hK hP hD hS hA (fun _ => rfl) (by decide) rfl (Nat.le_of_ble_eq_true rfl) (Nat.le_of_ble_eq_true rfl) (Nat.le_of_ble_eq_true rfl) dX2_init_15 (fun q15 cA H hK9 hP hD hS => ?_)
  have e9 : cI = cA := Option.some.inj ((va_nm_int (hK.2 0 (cI, .int) rfl).2).symm.trans (va_nm_int (hK9.2 4 (cA, .int) rfl).2))
  subst e9
  have hP : va_P D vwCl [(h0, .inr (2, [.ref q7, .null, .null, .null, .int 0, .int 0, .int 0])), (q7, .inl (cI, 12, .inl (fun _ => 0))), (q15, .inl (cI, 12, .inl (fun _ => 0)))] H := hP
  have hD : va_D A [(h0, .inr (2, [.ref q7, .null, .null, .null, .int 0, .int 0, .int 0])), (q7, .inl (cI, 12, .inl (fun _ => 0))), (q15, .inl (cI, 12, .inl (fun _ => 0)))] := hD
  refine va_putF (D := D) (ci := 2) (v := .ref q15) (ty := tyX2 1) (C := RX2) (T := TX2) (N := 7) hx hb hts inlX2 tyX2 tyX2_ok nmX2 hown hK hP hD hS 0 rfl rfl 1 (by decide) (hts _ wq_61) (fun _ h9 => h9) rfl hin rfl (by decide +kernel) rfl rfl (Nat.le_of_ble_eq_true rfl) dX2_init_17 (fun H locs hP hD hS => ?_)
  have hP : va_P D vwCl [(h0, .inr (2, [.ref q7, .ref q15, .null, .null, .int 0, .int 0, .int 0])), (q7, .inl (cI, 12, .inl (fun _ => 0))), (q15, .inl (cI, 12, .inl (fun _ => 0)))] H := hP
  have hD : va_D A [(h0, .inr (2, [.ref q7, .ref q15, .null, .null, .int 0, .int 0, .int 0])), (q7, .inl (cI, 12, .inl (fun _ => 0))), (q15, .inl (cI, 12, .inl (fun _ => 0)))] := hD
  refine lv_aload_n hx hb dX2_init_20 rfl (lv_at hl 0 rfl) ?_
  refine lv_bipush (v := 8) hx hb dX2_init_21 rfl ?_
  refine va_newa (atype := .long) (ty := .long) (a0 := (8, .inr (.inl (fun _ => 0)))) hx hb (hts _ wq_13) rfl hK hP hD hS hA (fun _ => rfl) (by decide) rfl (Nat.le_of_ble_eq_true rfl) (Nat.le_of_ble_eq_true rfl) (Nat.le_of_ble_eq_true rfl) dX2_init_23 (fun q23 cA H hK9 hP hD hS => ?_)
  have e9 : cL = cA := Option.some.inj ((va_nm_long (hK.2 1 (cL, .long) rfl).2).symm.trans (va_nm_long (hK9.2 4 (cA, .long) rfl).2))
  subst e9
  have hP : va_P D vwCl [(h0, .inr (2, [.ref q7, .ref q15, .null, .null, .int 0, .int 0, .int 0])), (q7, .inl (cI, 12, .inl (fun _ => 0))), (q15, .inl (cI, 12, .inl (fun _ => 0))), (q23, .inl (cL, 8, .inr (.inl (fun _ => 0))))] H := hP
  have hD : va_D A [(h0, .inr (2, [.ref q7, .ref q15, .null, .null, .int 0, .int 0, .int 0])), (q7, .inl (cI, 12, .inl (fun _ => 0))), (q15, .inl (cI, 12, .inl (fun _ => 0))), (q23, .inl (cL, 8, .inr (.inl (fun _ => 0))))] := hD
  refine va_putF (D := D) (ci := 2) (v := .ref q23) (ty := tyX2 2) (C := RX2) (T := TX2) (N := 7) hx hb hts inlX2 tyX2 tyX2_ok nmX2 hown hK hP hD hS 0 rfl rfl 2 (by decide) (hts _ wq_62) (fun _ h9 => h9) rfl hin rfl (by decide +kernel) rfl rfl (Nat.le_of_ble_eq_true rfl) dX2_init_25 (fun H locs hP hD hS => ?_)
  have hP : va_P D vwCl [(h0, .inr (2, [.ref q7, .ref q15, .ref q23, .null, .int 0, .int 0, .int 0])), (q7, .inl (cI, 12, .inl (fun _ => 0))), (q15, .inl (cI, 12, .inl (fun _ => 0))), (q23, .inl (cL, 8, .inr (.inl (fun _ => 0))))] H := hP
  have hD : va_D A [(h0, .inr (2, [.ref q7, .ref q15, .ref q23, .null, .int 0, .int 0, .int 0])), (q7, .inl (cI, 12, .inl (fun _ => 0))), (q15, .inl (cI, 12, .inl (fun _ => 0))), (q23, .inl (cL, 8, .inr (.inl (fun _ => 0))))] := hD
  refine lv_aload_n hx hb dX2_init_28 rfl (lv_at hl 0 rfl) ?_
  refine lv_bipush (v := 8) hx hb dX2_init_29 rfl ?_
  refine lv_bipush (v := 8) hx hb dX2_init_31 rfl ?_
  have hP : va_P D vwCl ([(h0, .inr (2, [.ref q7, .ref q15, .ref q23, .null, .int 0, .int 0, .int 0])), (q7, .inl (cI, 12, .inl (fun _ => 0))), (q15, .inl (cI, 12, .inl (fun _ => 0))), (q23, .inl (cL, 8, .inr (.inl (fun _ => 0))))] ++ va_pl [] (fun _ => .inl (cL, 8, .inr (.inl (fun _ => 0))))) H := hP
  have hD : va_D A ([(h0, .inr (2, [.ref q7, .ref q15, .ref q23, .null, .int 0, .int 0, .int 0])), (q7, .inl (cI, 12, .inl (fun _ => 0))), (q15, .inl (cI, 12, .inl (fun _ => 0))), (q23, .inl (cL, 8, .inr (.inl (fun _ => 0))))] ++ va_pl [] (fun _ => .inl (cL, 8, .inr (.inl (fun _ => 0))))) := hD
  refine va_mna (X := [(h0, .inr (2, [.ref q7, .ref q15, .ref q23, .null, .int 0, .int 0, .int 0])), (q7, .inl (cI, 12, .inl (fun _ => 0))), (q15, .inl (cI, 12, .inl (fun _ => 0))), (q23, .inl (cL, 8, .inr (.inl (fun _ => 0))))]) (L := []) (f := (fun _ => .inl (cL, 8, .inr (.inl (fun _ => 0))))) (ty := .long) (cy := cL) (N' := 8) (K' := 8) (z := (8, .inr (.inl (fun _ => 0)))) hx hb hown (by rw [nmV]; exact (hts _ wq_63)) hO (hts _ wq_13) (hK.2 1 (cL, .long) rfl).2 hK hP hD hS hA (by decide) (by decide) rfl rfl (Nat.le_of_ble_eq_true rfl) (Nat.le_of_ble_eq_true rfl) (Nat.le_of_ble_eq_true rfl) rfl rfl (Nat.le_of_ble_eq_true rfl) (Nat.le_of_ble_eq_true rfl) innV dX2_init_33 (fun q33 r33 cA H _ _ hK9 hP hD hS => ?_)
  have e9 : cV = cA := Option.some.inj ((hK.2 3 (cV, .array .long) rfl).2.symm.trans (hK9.2 4 (cA, .array .long) rfl).2)
  subst e9
  rw [← vr_rows (fun a _ h => by cases h)] at hP hD
  have hP : va_P D vwCl [(h0, .inr (2, [.ref q7, .ref q15, .ref q23, .null, .int 0, .int 0, .int 0])), (q7, .inl (cI, 12, .inl (fun _ => 0))), (q15, .inl (cI, 12, .inl (fun _ => 0))), (q23, .inl (cL, 8, .inr (.inl (fun _ => 0)))), (q33, .inl (cV, 8, .inr (.inr (.inr (.inr (fun i => if i < 8 then some (r33 i) else none)))))), (r33 0, .inl (cL, 8, .inr (.inl (fun _ => 0)))), (r33 1, .inl (cL, 8, .inr (.inl (fun _ => 0)))), (r33 2, .inl (cL, 8, .inr (.inl (fun _ => 0)))), (r33 3, .inl (cL, 8, .inr (.inl (fun _ => 0)))), (r33 4, .inl (cL, 8, .inr (.inl (fun _ => 0)))), (r33 5, .inl (cL, 8, .inr (.inl (fun _ => 0)))), (r33 6, .inl (cL, 8, .inr (.inl (fun _ => 0)))), (r33 7, .inl (cL, 8, .inr (.inl (fun _ => 0))))] H := hP
  have hD : va_D A [(h0, .inr (2, [.ref q7, .ref q15, .ref q23, .null, .int 0, .int 0, .int 0])), (q7, .inl (cI, 12, .inl (fun _ => 0))), (q15, .inl (cI, 12, .inl (fun _ => 0))), (q23, .inl (cL, 8, .inr (.inl (fun _ => 0)))), (q33, .inl (cV, 8, .inr (.inr (.inr (.inr (fun i => if i < 8 then some (r33 i) else none)))))), (r33 0, .inl (cL, 8, .inr (.inl (fun _ => 0)))), (r33 1, .inl (cL, 8, .inr (.inl (fun _ => 0)))), (r33 2, .inl (cL, 8, .inr (.inl (fun _ => 0)))), (r33 3, .inl (cL, 8, .inr (.inl (fun _ => 0)))), (r33 4, .inl (cL, 8, .inr (.inl (fun _ => 0)))), (r33 5, .inl (cL, 8, .inr (.inl (fun _ => 0)))), (r33 6, .inl (cL, 8, .inr (.inl (fun _ => 0)))), (r33 7, .inl (cL, 8, .inr (.inl (fun _ => 0))))] := hD
  refine va_putF (D := D) (ci := 2) (v := .ref q33) (ty := tyX2 3) (C := RX2) (T := TX2) (N := 7) hx hb hts inlX2 tyX2 tyX2_ok nmX2 hown hK hP hD hS 0 rfl rfl 3 (by decide) (hts _ wq_64) (fun _ h9 => h9) rfl hin rfl (by decide +kernel) rfl rfl (Nat.le_of_ble_eq_true rfl) dX2_init_37 (fun H locs hP hD hS => ?_)
  have hP : va_P D vwCl [(h0, .inr (2, [.ref q7, .ref q15, .ref q23, .ref q33, .int 0, .int 0, .int 0])), (q7, .inl (cI, 12, .inl (fun _ => 0))), (q15, .inl (cI, 12, .inl (fun _ => 0))), (q23, .inl (cL, 8, .inr (.inl (fun _ => 0)))), (q33, .inl (cV, 8, .inr (.inr (.inr (.inr (fun i => if i < 8 then some (r33 i) else none)))))), (r33 0, .inl (cL, 8, .inr (.inl (fun _ => 0)))), (r33 1, .inl (cL, 8, .inr (.inl (fun _ => 0)))), (r33 2, .inl (cL, 8, .inr (.inl (fun _ => 0)))), (r33 3, .inl (cL, 8, .inr (.inl (fun _ => 0)))), (r33 4, .inl (cL, 8, .inr (.inl (fun _ => 0)))), (r33 5, .inl (cL, 8, .inr (.inl (fun _ => 0)))), (r33 6, .inl (cL, 8, .inr (.inl (fun _ => 0)))), (r33 7, .inl (cL, 8, .inr (.inl (fun _ => 0))))] H := hP
  have hD : va_D A [(h0, .inr (2, [.ref q7, .ref q15, .ref q23, .ref q33, .int 0, .int 0, .int 0])), (q7, .inl (cI, 12, .inl (fun _ => 0))), (q15, .inl (cI, 12, .inl (fun _ => 0))), (q23, .inl (cL, 8, .inr (.inl (fun _ => 0)))), (q33, .inl (cV, 8, .inr (.inr (.inr (.inr (fun i => if i < 8 then some (r33 i) else none)))))), (r33 0, .inl (cL, 8, .inr (.inl (fun _ => 0)))), (r33 1, .inl (cL, 8, .inr (.inl (fun _ => 0)))), (r33 2, .inl (cL, 8, .inr (.inl (fun _ => 0)))), (r33 3, .inl (cL, 8, .inr (.inl (fun _ => 0)))), (r33 4, .inl (cL, 8, .inr (.inl (fun _ => 0)))), (r33 5, .inl (cL, 8, .inr (.inl (fun _ => 0)))), (r33 6, .inl (cL, 8, .inr (.inl (fun _ => 0)))), (r33 7, .inl (cL, 8, .inr (.inl (fun _ => 0))))] := hD
  exact W.vret hx hb hr (fun t ht hW => ⟨⟨(q7, q15, q23, q33, r33), rfl, trivial, by rw [ht]; exact hP, hD⟩, hS.F ht⟩) hS.2.2 dX2_init_40
