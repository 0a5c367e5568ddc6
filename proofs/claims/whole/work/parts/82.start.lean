/-! the law's start -/
theorem gcell_g {G G2 : Gx} {σ : MM} {k : Nat} {s : Shp} (h1 : gad G = gad G2) (h2 : gct G = gct G2) : gcell G σ k s = gcell G2 σ k s := by
  have hf : gfv G σ k = gfv G2 σ k := by
    funext p kd
    match kd with
    | 0 => rfl
    | 1 => rfl
    | r + 2 => show Value.ref _ = Value.ref _; rw [h1]
  match s with
  | .inl (ci, fl) => show Sum.inr (ci, fl.mapIdx (gfv G σ k)) = Sum.inr (ci, fl.mapIdx (gfv G2 σ k)); rw [hf]
  | .inr (0, N, _) => show Sum.inl (gct G 0, _) = Sum.inl (gct G2 0, _); rw [h2]
  | .inr (1, N, _) => show Sum.inl (gct G 1, _) = Sum.inl (gct G2 1, _); rw [h2]
  | .inr (2, N, _) => show Sum.inl (gct G 2, _) = Sum.inl (gct G2 2, _); rw [h2]
  | .inr (z + 3, N, r) => show Sum.inl (gct G 3, N, Sum.inr (Sum.inr (Sum.inr (Sum.inr (fun i => if i < N then some (gad G (r + i)) else none))))) = Sum.inl (gct G2 3, N, Sum.inr (Sum.inr (Sum.inr (Sum.inr (fun i => if i < N then some (gad G2 (r + i)) else none))))); rw [h1, h2]
theorem wl_g {sh : Nat → Shp} {n : Nat} {σ : MM} {G G2 : Gx} (h1 : gad G = gad G2) (h2 : gct G = gct G2) : wl sh n G σ = wl sh n G2 σ := by
  unfold wl
  apply List.map_congr_left
  intro k _
  rw [gcell_g (s := sh k) h1 h2, h1]
theorem arr_of {args : Array Value} {s : State} {t : FieldType} (h : (Cond.arrayClass t).before args s = true) (ho : ∀ C, t ≠ .object C) : ∃ c : ClassId, ArrOfT s c t ∧ va_RA s c t := by
  obtain ⟨c, k, comp, h1, h2, h3⟩ := Cond.arrayClass_spec h
  refine ⟨c, fun N z => ⟨(fun q hq => by cases hq), k, h2, comp, h3⟩, ?_⟩
  cases t <;> first | exact h1 | exact absurd rfl (ho _)
theorem start_K {args : Array Value} {s : State} (hts : ∀ w ∈ wsL_law, w.before args s = true) (hO : va_AOA .long s) : ∃ (D : va_G) (cI cL cB cV : ClassId), va_K D vwCl (ntys cI cL cB cV) s := by
  obtain ⟨c0, i0, k0⟩ := u_known hts inlX0 (hts _ wq_15)
  obtain ⟨c1, i1, k1⟩ := u_known hts inlX1 (hts _ wq_41)
  obtain ⟨c2, i2, k2⟩ := u_known hts inlX2 (hts _ wq_27)
  obtain ⟨c3, i3, k3⟩ := u_known hts inlX3 (hts _ wq_37)
  obtain ⟨c4, i4, k4⟩ := u_known hts inlX4 (hts _ wq_20)
  obtain ⟨c5, i5, k5⟩ := u_known hts inlX5 (hts _ wq_32)
  obtain ⟨c6, i6, k6⟩ := u_known hts inlX6 (hts _ wq_1)
  obtain ⟨c7, i7, k7⟩ := u_known hts inlX7 (hts _ wq_4)
  obtain ⟨cI, aI⟩ := arr_of (hts _ wq_23) (fun _ h => by cases h)
  obtain ⟨cL, aL⟩ := arr_of (hts _ wq_13) (fun _ h => by cases h)
  obtain ⟨cB, aB⟩ := arr_of (hts _ wq_54) (fun _ h => by cases h)
  obtain ⟨comp, cV, kV, f3, f4, f5⟩ := hO.at
  have aV : ArrOfT s cV (.array .long) ∧ va_RA s cV (.array .long) := ⟨fun N z => ⟨(fun q hq => by cases hq), kV, f3, comp, f4⟩, f5⟩
  refine ⟨(adOf [c0, c1, c2, c3, c4, c5, c6, c7], fun k => [i0, i1, i2, i3, i4, i5, i6, i7].getD k i0), cI, cL, cB, cV, fun c q hq => ?_, fun k q hq => ?_⟩
  · have hl : c < 8 := (List.getElem?_eq_some_iff.mp hq).1
    match c, hl with
    | 0, _ => have e : (RX0, TX0, 5) = q := Option.some.inj hq; subst e; exact k0
    | 1, _ => have e : (RX1, TX1, 7) = q := Option.some.inj hq; subst e; exact k1
    | 2, _ => have e : (RX2, TX2, 7) = q := Option.some.inj hq; subst e; exact k2
    | 3, _ => have e : (RX3, TX3, 8) = q := Option.some.inj hq; subst e; exact k3
    | 4, _ => have e : (RX4, TX4, 5) = q := Option.some.inj hq; subst e; exact k4
    | 5, _ => have e : (RX5, TX5, 6) = q := Option.some.inj hq; subst e; exact k5
    | 6, _ => have e : (RX6, TX6, 16) = q := Option.some.inj hq; subst e; exact k6
    | 7, _ => have e : (RX7, TX7, 36) = q := Option.some.inj hq; subst e; exact k7
    | z + 8, h => exact absurd h (by omega)
  · have hl : k < 4 := (List.getElem?_eq_some_iff.mp hq).1
    match k, hl with
    | 0, _ => have e : (cI, FieldType.int) = q := Option.some.inj hq; subst e; exact aI
    | 1, _ => have e : (cL, FieldType.long) = q := Option.some.inj hq; subst e; exact aL
    | 2, _ => have e : (cB, FieldType.byte) = q := Option.some.inj hq; subst e; exact aB
    | 3, _ => have e : (cV, FieldType.array .long) = q := Option.some.inj hq; subst e; exact aV
    | z + 4, h => exact absurd h (by omega)
theorem start_T {args : Array Value} {s : State} (hg : (Jvm.Cond.and given_1 narrow_1).before args s = true) (hl1 : (Cond.laysStatic "StruckJury" "LEAST" "[I").before args s = true) (hl2 : (Cond.laysStatic "StruckJury" "GREATEST" "[I").before args s = true) (hini : (Cond.initialized "StruckJury").before args s = true) : ∃ tL tG : Nat, ∀ G : Gx, gtL G = tL → gtG G = tG → (∀ q, gA G q → s.heap.size ≤ q) → stat_ok G s s.heap := by
  have hs := flat_of_before _ hg
  have hA : ∀ a : Nat, a < s.heap.size → ¬ (fun q => s.heap.size ≤ q) a := fun a h => Nat.not_le.mpr h
  obtain ⟨tL, e1, h1⟩ := va_Tof (tm := .static "StruckJury" "LEAST" "[I") (ty := .int) (N := 5) (f := fun j => .int (tLeast j)) (A := fun q => s.heap.size ≤ q) (by decide) (hs (.arrayOf (.static "StruckJury" "LEAST" "[I") .int) (by decide +kernel)) (va_eqt (hs (.eq (.length (.static "StruckJury" "LEAST" "[I")) (.int 5)) (by decide +kernel)))
    (fun j hj => match j, hj with
      | 0, _ => va_eqt (hs (.eq (.elem (.static "StruckJury" "LEAST" "[I") (.int 0)) (.int 1)) (by decide +kernel))
      | 1, _ => va_eqt (hs (.eq (.elem (.static "StruckJury" "LEAST" "[I") (.int 1)) (.int 0)) (by decide +kernel))
      | 2, _ => va_eqt (hs (.eq (.elem (.static "StruckJury" "LEAST" "[I") (.int 2)) (.int 0)) (by decide +kernel))
      | 3, _ => va_eqt (hs (.eq (.elem (.static "StruckJury" "LEAST" "[I") (.int 3)) (.int 0)) (by decide +kernel))
      | 4, _ => va_eqt (hs (.eq (.elem (.static "StruckJury" "LEAST" "[I") (.int 4)) (.int 0)) (by decide +kernel))
      | z + 5, h => absurd h (by omega)) hA
  obtain ⟨tG, e2, h2⟩ := va_Tof (tm := .static "StruckJury" "GREATEST" "[I") (ty := .int) (N := 5) (f := fun j => .int (tMost j)) (A := fun q => s.heap.size ≤ q) (by decide) (hs (.arrayOf (.static "StruckJury" "GREATEST" "[I") .int) (by decide +kernel)) (va_eqt (hs (.eq (.length (.static "StruckJury" "GREATEST" "[I")) (.int 5)) (by decide +kernel)))
    (fun j hj => match j, hj with
      | 0, _ => va_eqt (hs (.eq (.elem (.static "StruckJury" "GREATEST" "[I") (.int 0)) (.int 7)) (by decide +kernel))
      | 1, _ => va_eqt (hs (.eq (.elem (.static "StruckJury" "GREATEST" "[I") (.int 1)) (.int 3)) (by decide +kernel))
      | 2, _ => va_eqt (hs (.eq (.elem (.static "StruckJury" "GREATEST" "[I") (.int 2)) (.int 3)) (by decide +kernel))
      | 3, _ => va_eqt (hs (.eq (.elem (.static "StruckJury" "GREATEST" "[I") (.int 3)) (.int 1)) (by decide +kernel))
      | 4, _ => va_eqt (hs (.eq (.elem (.static "StruckJury" "GREATEST" "[I") (.int 4)) (.int 100)) (by decide +kernel))
      | z + 5, h => absurd h (by omega)) hA
  have z1 := va_Zof (A := fun q => s.heap.size ≤ q) hl1 hini e1 hA
  have z2 := va_Zof (A := fun q => s.heap.size ≤ q) hl2 hini e2 hA
  refine ⟨tL, tG, fun G g1 g2 hq => ?_⟩
  unfold stat_ok
  rw [g1, g2]
  exact ⟨⟨va_Z.narrow z1 hq, va_T.narrow h1 hq⟩, ⟨va_Z.narrow z2 hq, va_T.narrow h2 hq⟩⟩
theorem stat_call {G : Gx} {U : State} {g : JFrame} {mk : MethodId} {a : Array Value} (h : stat_ok G U U.heap) : stat_ok G (U.calling g mk a) (U.calling g mk a).heap :=
  ⟨⟨va_Z.moved (u := U) (U := U.calling g mk a) (Vm.Alike.refl U.vm) h.1.1, va_T.moved (u := U) (U := U.calling g mk a) (Vm.Alike.refl U.vm) h.1.2⟩, ⟨va_Z.moved (u := U) (U := U.calling g mk a) (Vm.Alike.refl U.vm) h.2.1, va_T.moved (u := U) (U := U.calling g mk a) (Vm.Alike.refl U.vm) h.2.2⟩⟩
theorem stat_to {G : Gx} {s U : State} {H : Heap} {locs : List Loc} (hZ : stat_ok G s s.heap) (hU : U.heap = H) (hW : s.WarmedH U.vm) (hS : va_S (fun q => s.heap.size ≤ q) s.heap H locs) : stat_ok G U U.heap := by
  have hq : ∀ a : Nat, a < s.heap.size → ¬ gA G a → U.heap[a]? = s.heap[a]? := fun a h _ => by rw [hU]; exact hS.2.1 a h (Nat.not_le.mpr h)
  exact ⟨⟨va_Z.kept (va_Z.moved hW.alike hZ.1.1) hq, va_T.kept (va_T.moved hW.alike hZ.1.2) hq⟩, ⟨va_Z.kept (va_Z.moved hW.alike hZ.2.1) hq, va_T.kept (va_T.moved hW.alike hZ.2.2) hq⟩⟩
theorem P_left {D : va_G} {cl : List vw_C} {w1 w2 : va_W} {H : Heap} (h : va_P D cl (w1 ++ w2) H) : va_P D cl w1 H := fun k q hq => h k q (by rw [List.getElem?_append_left (List.getElem?_eq_some_iff.mp hq).1]; exact hq)
theorem P_right {D : va_G} {cl : List vw_C} {w1 w2 : va_W} {H : Heap} (h : va_P D cl (w1 ++ w2) H) : va_P D cl w2 H := fun k q hq => h (w1.length + k) q (by rw [List.getElem?_append_right (by omega), Nat.add_sub_cancel_left]; exact hq)
theorem D_right {A : Nat → Prop} {w1 w2 : va_W} (h : va_D A (w1 ++ w2)) : va_D A w2 := by
  have key : ∀ (k : Nat) (q : Nat × va_E), w2[k]? = some q → (w1 ++ w2)[w1.length + k]? = some q := fun k q hq => by rw [List.getElem?_append_right (by omega), Nat.add_sub_cancel_left]; exact hq
  refine ⟨fun i j x y hi hj hxy => ?_, fun k q hk => h.2 _ q (key k q hk)⟩
  have := h.1 _ _ x y (key i x hi) (key j y hj) hxy
  omega
theorem D_ne {A : Nat → Prop} {w1 w2 : va_W} (h : va_D A (w1 ++ w2)) {i j : Nat} {x y : Nat × va_E} (hi : w1[i]? = some x) (hj : w2[j]? = some y) : x.1 ≠ y.1 := by
  intro e
  have hl := (List.getElem?_eq_some_iff.mp hi).1
  have := h.1 i (w1.length + j) x y (by rw [List.getElem?_append_left hl]; exact hi) (by rw [List.getElem?_append_right (by omega), Nat.add_sub_cancel_left]; exact hj) e
  omega
set_option maxHeartbeats 4000000 in
theorem whole_start {p : Program} {e : Env} {s : State} {m : MethodId} {below : List Frame} {meth : Method} {c : Code} (l : Launch) (hflags : l.flags = flags0) {b L : Nat} {xs : Nat → Int32} (hL : L ≤ 2048) (C0 : lw_At p s m meth c b L xs) : W p l e room_1 s m #[Value.ref b] below meth c s.heap [] 0 0 (lw_Z below #[Value.ref b] s) (entryFrame m ([Value.ref b] : List Value).toArray 4) := by
  obtain ⟨hx, hb0, hr, hml, hown0, htbl, hX, hbl, hlocks, hgv⟩ := C0
  have hb : c.code = cL_law := hb0
  have hown : s.vm.findClass RL = some m.cls := hown0
  have hts : ∀ w ∈ wsL_law, w.before #[Value.ref b] s = true := fun w h => htbl w (wsL_law_in w h)
  have hnw : nw_ok s := fun w h => va_Nw.of (nest_tab w h) (htbl w (it_nestW w h))
  have hO : va_AOA .long s := va_AOA.of (htbl _ ao_in)
  obtain ⟨D, cI, cL, cB, cV, hK⟩ := start_K hts hO
  obtain ⟨tL, tG, hst⟩ := start_T hgv (htbl _ le_in) (htbl _ gr_in) (hts _ wq_2)
  obtain ⟨σ1, hf, hRS⟩ := start_S
  have hA : ∀ q : Nat, s.heap.size ≤ q → (fun q => s.heap.size ≤ q) q := fun _ h => h
  have hP0 : va_P D vwCl [] s.heap := fun k q h => by cases h
  have hD0 : va_D (fun q => s.heap.size ≤ q) [] := ⟨fun i j x y h _ _ => (by cases h), fun k q h => (by cases h)⟩
  have hS0 : va_S (fun q => s.heap.size ≤ q) s.heap s.heap [] := va_S.rf
  have hl := lv_entry ([.ref b]) (n := 4) (Nat.le_of_ble_eq_true rfl)
  rw [lg_entry_eq]
  generalize (lg_sl ([.ref b]) ++ List.replicate (4 - (lg_sl ([.ref b])).length) Slot.unset).toArray = ls at hl ⊢
  have hl : lv_has ls 4 [(0, .ref b)] := hl
  refine va_new (ci := 6) (fs := [.null, .null, .int 0, .null, .null, .int 0, .null, .null, .null, .null, .null, .null, .null, .int 0, .int 0, .int 0]) (C := RX6) (T := TX6) (N := 16) hx hb hts inlX6 tyX6 tyX6_ok hown (hts _ wq_0) (hts _ wq_1) (hts _ wq_2) hK hP0 hD0 hS0 hA rfl dfX6 (Nat.le_of_ble_eq_true rfl) (Nat.le_of_ble_eq_true rfl) dL_law_0 (fun qS H hP hD hS => ?_)
  refine W.widen (k := 1) (n := 16) (Nat.le_refl _) (Nat.le_refl _) ?_
  have hP : va_P D vwCl [(qS, .inr (6, [.null, .null, .int 0, .null, .null, .int 0, .null, .null, .null, .null, .null, .null, .null, .int 0, .int 0, .int 0]))] H := hP
  have hD : va_D (fun q => s.heap.size ≤ q) [(qS, .inr (6, [.null, .null, .int 0, .null, .null, .int 0, .null, .null, .null, .null, .null, .null, .null, .int 0, .int 0, .int 0]))] := hD
  refine lv_dup hx hb dL_law_3 rfl ?_
  have hFc := va_free (wc := [(qS, .inr (6, [.null, .null, .int 0, .null, .null, .int 0, .null, .null, .null, .null, .null, .null, .null, .int 0, .int 0, .int 0]))]) hD hS hA [0] rfl
  refine va_callv (va_runI (As := []) (rest := [.ref qS]) ⟨hx, hb, hml, hown, hts⟩ (c_X6_init l D cI cL cB cV qS H.size tL tG σ1 hf) (cwI 0 hts (fun w hw => (List.mem_cons.mp hw).elim (fun h => by rw [h]; exact law_good _ wq_9) (law_good w)) rfl rfl rfl (hts _ wq_2) (hts _ wq_7) (hts _ wq_8) rfl (by decide) ⟨Nat.le_of_ble_eq_true rfl, Nat.le_of_ble_eq_true rfl⟩)
    ⟨fun a U g mk q => by obtain ⟨q0, q1, qP, qK, qD, qN, qO, qT⟩ := q; exact ⟨q0, q1, qP, va_K.moved (u := U) (U := U.calling g mk a) (Vm.Alike.refl U.vm) qK, qD, nw_same (s := U) (U := U.calling g mk a) rfl qN, va_AOA.moved (u := U) (U := U.calling g mk a) (Vm.Alike.refl U.vm) qO, stat_call qT⟩,
      fun U hU hW => ⟨rfl, by rw [hU], by rw [hU]; exact hP, va_K.moved hW.alike hK, hD.weaken (fun _ _ _ _ => trivial), nw_warm hW hnw, va_AOA.moved hW.alike hO, stat_to (hst _ rfl rfl hFc) hU hW hS⟩⟩ rfl rfl hl.1 rfl (lv_room (Nat.le_of_ble_eq_true rfl)) dL_law_4 ⟨Nat.le_of_ble_eq_true rfl, Nat.le_of_ble_eq_true rfl⟩) hS (fun q _ h => hFc q h) hFc (fun u t H locs ht hvm hu hB hz1 hk1 hS => ?_)
  refine W.widen (k := 56) (n := 9551) (Nat.le_refl _) (Nat.le_refl _) ?_
  obtain ⟨hP1, hD1⟩ := hB
  rw [ht] at hP1
  have hDS := hD1.weaken (B := fun q => s.heap.size ≤ q) (fun k q _ h => hFc q.1 h)
  refine lv_astore_n (lv' := [(1, .ref qS), (0, .ref b)]) hx hb dL_law_7 rfl hl (by decide) rfl (fun ls hl => ?_)
  refine va_new (ci := 7) (fs := [.null, .null, .null, .null, .null, .null, .int 0, .null, .int 0, .int 0, .null, .null, .null, .null, .null, .null, .int 0, .int 0, .null, .int 0, .int 0, .long 0, .null, .null, .null, .null, .int 0, .int 0, .int 0, .null, .int 0, .int 0, .int 0, .null, .int 0, .int 0]) (C := RX7) (T := TX7) (N := 36) hx hb hts inlX7 tyX7 tyX7_ok hown (hts _ wq_3) (hts _ wq_4) (hts _ wq_5) hK hP1 hDS hS hA rfl dfX7 (Nat.le_of_ble_eq_true rfl) (Nat.le_of_ble_eq_true rfl) dL_law_8 (fun qM H2 hP hD hS => ?_)
  refine W.widen (k := 57) (n := 9587) (Nat.le_refl _) (Nat.le_refl _) ?_
  have hPS := P_left hP
  have hPq := P_right hP
  have hDq := D_right hD
  have hlt : ∀ k, k < 56 → u k < H2.size ∧ u k ≠ qM := fun k hk => ⟨(hPS k _ (wl_get hk)).lt, D_ne hD (wl_get hk) (j := 0) rfl⟩
  have hAS : ∀ k, k < 56 → s.heap.size ≤ u k := fun k hk => hDS.2 k _ (wl_get hk)
  refine lv_dup hx hb dL_law_11 rfl ?_
  have hFm := va_free (wc := [(qM, .inr (7, [.null, .null, .null, .null, .null, .null, .int 0, .null, .int 0, .int 0, .null, .null, .null, .null, .null, .null, .int 0, .int 0, .null, .int 0, .int 0, .long 0, .null, .null, .null, .null, .int 0, .int 0, .int 0, .null, .int 0, .int 0, .int 0, .null, .int 0, .int 0]))]) hDq hS hA [0] rfl
  refine va_callv (va_runI (As := []) (rest := [.ref qM]) ⟨hx, hb, hml, hown, hts⟩ (c_X7_init l D cI cL cB cV qM H2.size) (cwI 0 hts (fun w hw => (List.mem_cons.mp hw).elim (fun h => by rw [h]; exact law_good _ wq_96) (law_good w)) rfl rfl rfl (hts _ wq_5) (hts _ wq_94) (hts _ wq_95) rfl (by decide) ⟨Nat.le_of_ble_eq_true rfl, Nat.le_of_ble_eq_true rfl⟩)
    ⟨fun a U g mk q => by obtain ⟨q0, q1, qP, qK, qD⟩ := q; exact ⟨q0, q1, qP, va_K.moved (u := U) (U := U.calling g mk a) (Vm.Alike.refl U.vm) qK, qD⟩,
      fun U hU hW => ⟨rfl, by rw [hU], by rw [hU]; exact hPq, va_K.moved hW.alike hK, hDq.weaken (fun _ _ _ _ => trivial)⟩⟩ rfl rfl hl.1 rfl (lv_room (Nat.le_of_ble_eq_true rfl)) dL_law_12 ⟨Nat.le_of_ble_eq_true rfl, Nat.le_of_ble_eq_true rfl⟩) hS (fun q _ h => hFm q h) hFm (fun v t H3 locs ht hvm hv hB hz2 hk2 hS => ?_)
  refine W.widen (k := 77) (n := 362934) (Nat.le_refl _) (Nat.le_refl _) ?_
  obtain ⟨hP2, hD2⟩ := hB
  rw [ht] at hP2
  have hge : ∀ k, k < 21 → v k = qM ∨ H2.size ≤ v k := fun k hk => by
    rcases hD2.2 k _ (wl_get hk) with ⟨j, ee, hj⟩ | h
    · left
      have hj1 : j < 1 := (List.getElem?_eq_some_iff.mp hj).1
      have hj0 : j = 0 := by omega
      subst hj0
      exact (congrArg Prod.fst (Option.some.inj hj)).symm
    · exact Or.inr h
  have hAM : ∀ k, k < 21 → s.heap.size ≤ v k := fun k hk => hFm _ (hD2.2 k _ (wl_get hk))
  have hPS3 : va_P D vwCl (wl shS 56 (gO l D u cI cL cB cV) σ1) H3 := hPS.kept (fun k x hx9 => by
    have hl9 := (hPS k x hx9).lt
    refine hk2 x.1 hl9 (fun h => ?_)
    rcases h with ⟨j, ee, hj⟩ | h
    · have hj1 : j < 1 := (List.getElem?_eq_some_iff.mp hj).1
      have hj0 : j = 0 := by omega
      subst hj0
      exact D_ne hD hx9 (j := 0) rfl (congrArg Prod.fst (Option.some.inj hj)).symm
    · omega)
  refine lv_astore_n (lv' := [(2, .ref qM), (1, .ref qS), (0, .ref b)]) hx hb dL_law_15 rfl hl (by decide) rfl (fun ls hl => ?_)
  refine lv_iconst (v := 0) hx hb dL_law_16 rfl ?_
  refine lv_istore_n (lv' := [(3, .int 0), (2, .ref qM), (1, .ref qS), (0, .ref b)]) hx hb dL_law_17 rfl hl (by decide) rfl (fun ls hl => ?_)
  have gS : GOK 56 (gF l D u cI cL cB cV (fun q => ∃ k, k < 56 ∧ u k = q) tL tG) := ⟨(gok_of (G := gO l D u cI cL cB cV) (hDS.weaken (fun _ _ _ _ => trivial))).1, fun k hk => ⟨k, hk, rfl⟩⟩
  have gM : GOK 21 (gF l D v cI cL cB cV (fun q => ∃ k, k < 21 ∧ v k = q) tL tG) := ⟨(gok_of (G := gO l D v cI cL cB cV) (hD2.weaken (fun _ _ _ _ => trivial))).1, fun k hk => ⟨k, hk, rfl⟩⟩
  have hdis : ∀ i j, i < 56 → j < 21 → u i ≠ v j := fun i j hi hj e9 => by
    rcases hge j hj with h | h
    · exact (hlt i hi).2 (e9.trans h)
    · have := (hlt i hi).1
      omega
  have C : LC p l s m meth c b L xs (gF l D u cI cL cB cV (fun q => ∃ k, k < 56 ∧ u k = q) tL tG) (gF l D v cI cL cB cV (fun q => ∃ k, k < 21 ∧ v k = q) tL tG) :=
    ⟨⟨hx, hb, hml, hown⟩, hts, ⟨hX, hbl⟩, ⟨hr, hlocks⟩, ⟨hnw, rfl, rfl⟩, ⟨hK, gS, hst _ rfl rfl (fun q ⟨k, hk, hq⟩ => by rw [← hq]; exact hAS k hk)⟩, ⟨hK, gM, hst _ rfl rfl (fun q ⟨k, hk, hq⟩ => by rw [← hq]; exact hAM k hk)⟩,
      fun q ⟨k, hk, hq⟩ => ⟨by rw [← hq]; exact hAS k hk, fun ⟨j, hj, hq2⟩ => hdis k j hk hj (hq.trans hq2.symm)⟩, fun q ⟨k, hk, hq⟩ => ⟨by rw [← hq]; exact hAM k hk, fun ⟨j, hj, hq2⟩ => hdis j k hj hk (hq2.trans hq.symm)⟩⟩
  rw [← hu, ← hv] at hl
  rw [wl_g (G := gO l D u cI cL cB cV) (G2 := gF l D u cI cL cB cV (fun q => ∃ k, k < 56 ∧ u k = q) tL tG) rfl rfl] at hPS3
  rw [wl_g (G := gO l D v cI cL cB cV) (G2 := gF l D v cI cL cB cV (fun q => ∃ k, k < 21 ∧ v k = q) tL tG) rfl rfl] at hP2
  exact law_loop C hL L 0 stt0 σ1 sM0 (Nat.zero_le _) (Nat.sub_le _ _) hRS start_M H3 locs ls hPS3 hP2 hS hl
