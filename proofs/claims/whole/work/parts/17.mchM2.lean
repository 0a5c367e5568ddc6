set_option maxHeartbeats 4000000 in
set_option maxRecDepth 100000 in
theorem l_X7_found_49 (G : Gx) {K : Kx}   (v3 : Int32) (v4 : Int32) (σ : MM) (E : OKc 21 cX7_found 8 RX7 G K) : ∀ (m : Nat) (v5 : Int64) (v7 : Int32) (out : Int64), loopN (fun s => g_X7_found_49 v3 v4 s.1 s.2 σ) m (v5, v7) = some out → XJ shM 21 8 rm_X7_found G K σ [(5, .long out)] 96 [] → XJ shM 21 8 rm_X7_found G K σ [(0, .ref (gad G 0)), (3, .int v3), (4, .int v4), (5, .long v5), (7, .int v7)] 49 [] := by
  intro m
  induction m with
  | zero => intro v5 v7 out hf; exact (loopN_0 hf).elim
  | succ m ih =>
    intro v5 v7 out hf hk
    obtain ⟨q, hf, h2⟩ := loopN_s hf
    have hf : g_X7_found_49 v3 v4 v5 v7 σ = some q := hf
    unfold g_X7_found_49 at hf
    refine x_iload 4 (pc := 49) E dX7_found_49 rfl ?_
    refine x_iload 2 (pc := 51) E dX7_found_51 rfl ?_
    refine x_icmp_gt (pc := 53) (tgt := 96) E dX7_found_53 (by decide) hf (fun hf => ?_) (fun hf => ?_)
    · obtain rfl := Option.some.inj hf
      obtain rfl := lpk_r h2
      exact x_sub [3] rfl hk
    · refine x_lload 3 (pc := 56) E dX7_found_56 rfl ?_
      refine x_iconst (pc := 58) (v := (2 : Int32)) E dX7_found_58 rfl ?_
      refine x_iload 4 (pc := 59) E dX7_found_59 rfl ?_
      refine x_imul (pc := 61) E dX7_found_61 ?_
      refine x_iload 2 (pc := 62) E dX7_found_62 rfl ?_
      obtain ⟨o4, hf6, hf⟩ := bind_some hf
      have hJ5 : XJ shM 21 8 rm_X7_found G K σ [(0, .ref (gad G 0)), (3, .int v3), (4, .int v4), (7, .int v7)] 72 [.int o4, .long v5] := by
        refine x_iload_n 1 (pc := 72) (i := 3) E dX7_found_72 rfl rfl ?_
        refine x_icmp_ne (pc := 73) (tgt := 86) E dX7_found_73 (by decide) hf (fun hf => ?_) (fun hf => ?_)
        · refine x_lconst (pc := 86) (v := 0) E dX7_found_86 rfl ?_
          refine x_ladd (pc := 87) E dX7_found_87 ?_
          refine x_lstore (pc := 88) (lv' := [(5, .long (v5 + (0 : Int64))), (0, .ref (gad G 0)), (3, .int v3), (4, .int v4), (7, .int v7)]) E dX7_found_88 (by decide) rfl ?_
          refine x_iinc 4 (pc := 90) (v := v7 + 1) (lv' := [(7, .int (v7 + 1)), (5, .long (v5 + (0 : Int64))), (0, .ref (gad G 0)), (3, .int v3), (4, .int v4)]) E dX7_found_90 rfl rfl (by decide) rfl ?_
          refine x_goto (pc := 93) (tgt := 49) E dX7_found_93 (by decide) ?_
          obtain rfl := Option.some.inj hf
          exact x_sub [2, 3, 4, 1, 0] rfl (ih _ _ _ (lpk_l h2) hk)
        · refine x_aload_n 0 (pc := 76) (i := 0) E dX7_found_76 rfl rfl ?_
          refine x_getR (pc := 77) (r := 9) (p := 11) E rfl (Nat.le_of_ble_eq_true rfl) rfl inlX7 (by decide) rfl wq_106 dX7_found_77 ?_
          refine x_iload 3 (pc := 80) E dX7_found_80 rfl ?_
          refine x_laload (pc := 82) E rfl (Nat.le_of_ble_eq_true rfl) dX7_found_82 hf (fun hf => ?_)
          refine x_goto (pc := 83) (tgt := 87) E dX7_found_83 (by decide) ?_
          refine x_ladd (pc := 87) E dX7_found_87 ?_
          refine x_lstore (pc := 88) (lv' := [(5, .long (v5 + (σ.2 9 v7.toNatClampNeg))), (0, .ref (gad G 0)), (3, .int v3), (4, .int v4), (7, .int v7)]) E dX7_found_88 (by decide) rfl ?_
          refine x_iinc 4 (pc := 90) (v := v7 + 1) (lv' := [(7, .int (v7 + 1)), (5, .long (v5 + (σ.2 9 v7.toNatClampNeg))), (0, .ref (gad G 0)), (3, .int v3), (4, .int v4)]) E dX7_found_90 rfl rfl (by decide) rfl ?_
          refine x_goto (pc := 93) (tgt := 49) E dX7_found_93 (by decide) ?_
          obtain rfl := Option.some.inj hf
          exact x_sub [2, 3, 4, 1, 0] rfl (ih _ _ _ (lpk_l h2) hk)
      refine x_icmp_le (pc := 64) (tgt := 71) E dX7_found_64 (by decide) hf6 (fun hf6 => ?_) (fun hf6 => ?_)
      · refine x_iconst (pc := 71) (v := (0 : Int32)) E dX7_found_71 rfl ?_
        obtain rfl := Option.some.inj hf6
        exact x_sub [0, 1, 2, 4] rfl hJ5
      · refine x_iconst (pc := 67) (v := (1 : Int32)) E dX7_found_67 rfl ?_
        refine x_goto (pc := 68) (tgt := 72) E dX7_found_68 (by decide) ?_
        obtain rfl := Option.some.inj hf6
        exact x_sub [0, 1, 2, 4] rfl hJ5
set_option maxHeartbeats 4000000 in
set_option maxRecDepth 100000 in
theorem c_X7_found (G : Gx) (v1 : Int32) (v2 : Int32) (v3 : Int32) (σ : MM) (r : Int64) (σ' : MM) (hf : f_X7_found v1 v2 v3 σ = some (r, σ')) : Ct shM 21 yX7_found cX7_found 8 (some .long) rm_X7_found G [.ref (gad G 0), .int v1, .int v2, .int v3] σ (some (.long r)) σ' := by
  refine ct_of (by decide) (Nat.le_of_ble_eq_true rfl) (fun K E hR => ?_)
  have E : OKc 21 cX7_found 8 RX7 G K := E
  show XJ shM 21 8 rm_X7_found G K σ [(0, .ref (gad G 0)), (1, .int v1), (2, .int v2), (3, .int v3)] 0 []
  unfold f_X7_found at hf
  refine x_aload_n 0 (pc := 0) (i := 0) E dX7_found_0 rfl rfl ?_
  refine x_iload_n 1 (pc := 1) (i := 1) E dX7_found_1 rfl rfl ?_
  refine x_iload_n 2 (pc := 2) (i := 2) E dX7_found_2 rfl rfl ?_
  refine x_callVwv (pc := 3) (na := 2) (As := [.int v1, .int v2]) E (c_X7_findFor G v1 v2 σ) rfl (Nat.le_of_ble_eq_true rfl) rfl wq_369 wq_5 wq_366 wq_367 wq_368 rfl rfl (by decide) ⟨Nat.le_of_ble_eq_true rfl, Nat.le_of_ble_eq_true rfl⟩ rfl rfl (Nat.le_of_ble_eq_true rfl) dX7_found_3 hf (fun σ2 hf => ?_)
  refine x_aload_n 0 (pc := 6) (i := 0) E dX7_found_6 rfl rfl ?_
  refine x_callVri (pc := 7) (na := 0) (As := []) E (c_X7_needed G σ2) rfl (Nat.le_of_ble_eq_true rfl) rfl wq_348 wq_5 wq_345 wq_346 wq_347 rfl rfl (by decide) ⟨Nat.le_of_ble_eq_true rfl, Nat.le_of_ble_eq_true rfl⟩ rfl rfl (Nat.le_of_ble_eq_true rfl) dX7_found_7 hf (fun r3 hf => ?_)
  refine x_istore (pc := 10) (lv' := [(4, .int r3), (0, .ref (gad G 0)), (1, .int v1), (2, .int v2), (3, .int v3)]) E dX7_found_10 (by decide) rfl ?_
  refine x_aload_n 1 (pc := 12) (i := 0) E dX7_found_12 rfl rfl ?_
  refine x_getR (pc := 13) (r := 4) (p := 3) E rfl (Nat.le_of_ble_eq_true rfl) rfl inlX7 (by decide) rfl wq_101 dX7_found_13 ?_
  refine x_iconst (pc := 16) (v := (3 : Int32)) E dX7_found_16 rfl ?_
  refine x_iaload (pc := 17) E rfl (Nat.le_of_ble_eq_true rfl) dX7_found_17 hf (fun hf => ?_)
  refine x_iconst (pc := 18) (v := (1 : Int32)) E dX7_found_18 rfl ?_
  refine x_icmp_ne (pc := 19) (tgt := 43) E dX7_found_19 (by decide) hf (fun hf => ?_) (fun hf => ?_)
  · refine x_lconst (pc := 43) (v := 0) E dX7_found_43 rfl ?_
    refine x_lstore (pc := 44) (lv' := [(5, .long (0 : Int64)), (4, .int r3), (0, .ref (gad G 0)), (1, .int v1), (2, .int v2), (3, .int v3)]) E dX7_found_44 (by decide) rfl ?_
    refine x_iconst (pc := 46) (v := (0 : Int32)) E dX7_found_46 rfl ?_
    refine x_istore (pc := 47) (lv' := [(7, .int (0 : Int32)), (5, .long (0 : Int64)), (4, .int r3), (0, .ref (gad G 0)), (1, .int v1), (2, .int v2), (3, .int v3)]) E dX7_found_47 (by decide) rfl ?_
    obtain ⟨o7, hl8, hf⟩ := bind_some hf
    refine x_sub [3, 6, 2, 1, 0] rfl (l_X7_found_49 G   v3 r3 σ2 E FU _ _ o7 hl8 ?_)
    refine x_lload 0 (pc := 96) E dX7_found_96 rfl ?_
    obtain ⟨rfl, rfl⟩ := Prod.mk.inj (Option.some.inj hf)
    exact x_lret (pc := 98) E hR dX7_found_98
  · refine x_iload_n 4 (pc := 22) (i := 3) E dX7_found_22 rfl rfl ?_
    refine x_if_eq (y := 0) (pc := 23) (tgt := 36) E dX7_found_23 (by decide) hf (fun hf => ?_) (fun hf => ?_)
    · refine x_aload_n 1 (pc := 36) (i := 0) E dX7_found_36 rfl rfl ?_
      refine x_getR (pc := 37) (r := 9) (p := 11) E rfl (Nat.le_of_ble_eq_true rfl) rfl inlX7 (by decide) rfl wq_106 dX7_found_37 ?_
      refine x_iconst (pc := 40) (v := (0 : Int32)) E dX7_found_40 rfl ?_
      refine x_laload (pc := 41) E rfl (Nat.le_of_ble_eq_true rfl) dX7_found_41 hf (fun hf => ?_)
      obtain ⟨rfl, rfl⟩ := Prod.mk.inj (Option.some.inj hf)
      exact x_lret (pc := 42) E hR dX7_found_42
    · refine x_aload_n 1 (pc := 26) (i := 0) E dX7_found_26 rfl rfl ?_
      refine x_getR (pc := 27) (r := 9) (p := 11) E rfl (Nat.le_of_ble_eq_true rfl) rfl inlX7 (by decide) rfl wq_106 dX7_found_27 ?_
      refine x_iload 0 (pc := 30) E dX7_found_30 rfl ?_
      refine x_laload (pc := 32) E rfl (Nat.le_of_ble_eq_true rfl) dX7_found_32 hf (fun hf => ?_)
      refine x_goto (pc := 33) (tgt := 42) E dX7_found_33 (by decide) ?_
      obtain ⟨rfl, rfl⟩ := Prod.mk.inj (Option.some.inj hf)
      exact x_lret (pc := 42) E hR dX7_found_42
set_option maxHeartbeats 4000000 in
set_option maxRecDepth 100000 in
theorem c_X7_chanceOf (G : Gx) (v1 : Int32) (σ : MM) (r : Int64) (σ' : MM) (hf : f_X7_chanceOf v1 σ = some (r, σ')) : Ct shM 21 yX7_chanceOf cX7_chanceOf 2 (some .long) rm_X7_chanceOf G [.ref (gad G 0), .int v1] σ (some (.long r)) σ' := by
  refine ct_of (by decide) (Nat.le_of_ble_eq_true rfl) (fun K E hR => ?_)
  have E : OKc 21 cX7_chanceOf 2 RX7 G K := E
  show XJ shM 21 2 rm_X7_chanceOf G K σ [(0, .ref (gad G 0)), (1, .int v1)] 0 []
  unfold f_X7_chanceOf at hf
  refine x_aload_n 0 (pc := 0) (i := 0) E dX7_chanceOf_0 rfl rfl ?_
  refine x_getR (pc := 1) (r := 4) (p := 3) E rfl (Nat.le_of_ble_eq_true rfl) rfl inlX7 (by decide) rfl wq_101 dX7_chanceOf_1 ?_
  refine x_iconst (pc := 4) (v := (4 : Int32)) E dX7_chanceOf_4 rfl ?_
  refine x_iaload (pc := 5) E rfl (Nat.le_of_ble_eq_true rfl) dX7_chanceOf_5 hf (fun hf => ?_)
  refine x_i2l (pc := 6) E dX7_chanceOf_6 ?_
  refine x_aload_n 0 (pc := 7) (i := 0) E dX7_chanceOf_7 rfl rfl ?_
  refine x_iload_n 1 (pc := 8) (i := 1) E dX7_chanceOf_8 rfl rfl ?_
  refine x_iconst (pc := 9) (v := (0 : Int32)) E dX7_chanceOf_9 rfl ?_
  refine x_iconst (pc := 10) (v := (1 : Int32)) E dX7_chanceOf_10 rfl ?_
  refine x_callVwl (pc := 11) (na := 3) (As := [.int v1, .int (0 : Int32), .int (1 : Int32)]) E (c_X7_found G v1 (0 : Int32) (1 : Int32) σ) rfl (Nat.le_of_ble_eq_true rfl) rfl wq_365 wq_5 wq_362 wq_363 wq_364 rfl rfl (by decide) ⟨Nat.le_of_ble_eq_true rfl, Nat.le_of_ble_eq_true rfl⟩ rfl rfl (Nat.le_of_ble_eq_true rfl) dX7_chanceOf_11 hf (fun r1 σ2 hf => ?_)
  refine x_lmul (pc := 14) E dX7_chanceOf_14 ?_
  refine x_bipush (pc := 15) (v := (100 : Int32)) E dX7_chanceOf_15 rfl ?_
  refine x_aload_n 0 (pc := 17) (i := 0) E dX7_chanceOf_17 rfl rfl ?_
  refine x_getR (pc := 18) (r := 4) (p := 3) E rfl (Nat.le_of_ble_eq_true rfl) rfl inlX7 (by decide) rfl wq_101 dX7_chanceOf_18 ?_
  refine x_iconst (pc := 21) (v := (4 : Int32)) E dX7_chanceOf_21 rfl ?_
  refine x_iaload (pc := 22) E rfl (Nat.le_of_ble_eq_true rfl) dX7_chanceOf_22 hf (fun hf => ?_)
  refine x_isub (pc := 23) E dX7_chanceOf_23 ?_
  refine x_i2l (pc := 24) E dX7_chanceOf_24 ?_
  refine x_aload_n 0 (pc := 25) (i := 0) E dX7_chanceOf_25 rfl rfl ?_
  refine x_iload_n 1 (pc := 26) (i := 1) E dX7_chanceOf_26 rfl rfl ?_
  refine x_iconst (pc := 27) (v := (1 : Int32)) E dX7_chanceOf_27 rfl ?_
  refine x_iconst (pc := 28) (v := (1 : Int32)) E dX7_chanceOf_28 rfl ?_
  refine x_callVwl (pc := 29) (na := 3) (As := [.int v1, .int (1 : Int32), .int (1 : Int32)]) E (c_X7_found G v1 (1 : Int32) (1 : Int32) σ2) rfl (Nat.le_of_ble_eq_true rfl) rfl wq_365 wq_5 wq_362 wq_363 wq_364 rfl rfl (by decide) ⟨Nat.le_of_ble_eq_true rfl, Nat.le_of_ble_eq_true rfl⟩ rfl rfl (Nat.le_of_ble_eq_true rfl) dX7_chanceOf_29 hf (fun r3 σ4 hf => ?_)
  refine x_lmul (pc := 32) E dX7_chanceOf_32 ?_
  refine x_ladd (pc := 33) E dX7_chanceOf_33 ?_
  obtain ⟨rfl, rfl⟩ := Prod.mk.inj (Option.some.inj hf)
  exact x_lret (pc := 34) E hR dX7_chanceOf_34
set_option maxHeartbeats 4000000 in
set_option maxRecDepth 100000 in
theorem c_X7_rightOf (G : Gx) (v1 : Int32) (σ : MM) (r : Int64) (σ' : MM) (hf : f_X7_rightOf v1 σ = some (r, σ')) : Ct shM 21 yX7_rightOf cX7_rightOf 2 (some .long) rm_X7_rightOf G [.ref (gad G 0), .int v1] σ (some (.long r)) σ' := by
  refine ct_of (by decide) (Nat.le_of_ble_eq_true rfl) (fun K E hR => ?_)
  have E : OKc 21 cX7_rightOf 2 RX7 G K := E
  show XJ shM 21 2 rm_X7_rightOf G K σ [(0, .ref (gad G 0)), (1, .int v1)] 0 []
  unfold f_X7_rightOf at hf
  refine x_aload_n 0 (pc := 0) (i := 0) E dX7_rightOf_0 rfl rfl ?_
  refine x_getR (pc := 1) (r := 4) (p := 3) E rfl (Nat.le_of_ble_eq_true rfl) rfl inlX7 (by decide) rfl wq_101 dX7_rightOf_1 ?_
  refine x_iconst (pc := 4) (v := (4 : Int32)) E dX7_rightOf_4 rfl ?_
  refine x_iaload (pc := 5) E rfl (Nat.le_of_ble_eq_true rfl) dX7_rightOf_5 hf (fun hf => ?_)
  refine x_i2l (pc := 6) E dX7_rightOf_6 ?_
  refine x_aload_n 0 (pc := 7) (i := 0) E dX7_rightOf_7 rfl rfl ?_
  refine x_iload_n 1 (pc := 8) (i := 1) E dX7_rightOf_8 rfl rfl ?_
  refine x_iconst (pc := 9) (v := (0 : Int32)) E dX7_rightOf_9 rfl ?_
  refine x_iconst (pc := 10) (v := (1 : Int32)) E dX7_rightOf_10 rfl ?_
  refine x_callVwl (pc := 11) (na := 3) (As := [.int v1, .int (0 : Int32), .int (1 : Int32)]) E (c_X7_found G v1 (0 : Int32) (1 : Int32) σ) rfl (Nat.le_of_ble_eq_true rfl) rfl wq_365 wq_5 wq_362 wq_363 wq_364 rfl rfl (by decide) ⟨Nat.le_of_ble_eq_true rfl, Nat.le_of_ble_eq_true rfl⟩ rfl rfl (Nat.le_of_ble_eq_true rfl) dX7_rightOf_11 hf (fun r1 σ2 hf => ?_)
  refine x_lmul (pc := 14) E dX7_rightOf_14 ?_
  refine x_bipush (pc := 15) (v := (100 : Int32)) E dX7_rightOf_15 rfl ?_
  refine x_aload_n 0 (pc := 17) (i := 0) E dX7_rightOf_17 rfl rfl ?_
  refine x_getR (pc := 18) (r := 4) (p := 3) E rfl (Nat.le_of_ble_eq_true rfl) rfl inlX7 (by decide) rfl wq_101 dX7_rightOf_18 ?_
  refine x_iconst (pc := 21) (v := (4 : Int32)) E dX7_rightOf_21 rfl ?_
  refine x_iaload (pc := 22) E rfl (Nat.le_of_ble_eq_true rfl) dX7_rightOf_22 hf (fun hf => ?_)
  refine x_isub (pc := 23) E dX7_rightOf_23 ?_
  refine x_i2l (pc := 24) E dX7_rightOf_24 ?_
  refine x_aload_n 0 (pc := 25) (i := 0) E dX7_rightOf_25 rfl rfl ?_
  refine x_iload_n 1 (pc := 26) (i := 1) E dX7_rightOf_26 rfl rfl ?_
  refine x_iconst (pc := 27) (v := (1 : Int32)) E dX7_rightOf_27 rfl ?_
  refine x_iconst (pc := 28) (v := (0 : Int32)) E dX7_rightOf_28 rfl ?_
  refine x_callVwl (pc := 29) (na := 3) (As := [.int v1, .int (1 : Int32), .int (0 : Int32)]) E (c_X7_found G v1 (1 : Int32) (0 : Int32) σ2) rfl (Nat.le_of_ble_eq_true rfl) rfl wq_365 wq_5 wq_362 wq_363 wq_364 rfl rfl (by decide) ⟨Nat.le_of_ble_eq_true rfl, Nat.le_of_ble_eq_true rfl⟩ rfl rfl (Nat.le_of_ble_eq_true rfl) dX7_rightOf_29 hf (fun r3 σ4 hf => ?_)
  refine x_lmul (pc := 32) E dX7_rightOf_32 ?_
  refine x_ladd (pc := 33) E dX7_rightOf_33 ?_
  obtain ⟨rfl, rfl⟩ := Prod.mk.inj (Option.some.inj hf)
  exact x_lret (pc := 34) E hR dX7_rightOf_34
set_option maxHeartbeats 4000000 in
set_option maxRecDepth 100000 in
theorem c_X7_notJury (G : Gx) (v1 : Int32) (σ : MM) (r : Int32) (hf : f_X7_notJury v1 σ = some r) : Ct shM 21 yX7_notJury cX7_notJury 2 (some .int) rm_X7_notJury G [.ref (gad G 0), .int v1] σ (some (.int r)) σ := by
  refine ct_of (by decide) (Nat.le_of_ble_eq_true rfl) (fun K E hR => ?_)
  have E : OKc 21 cX7_notJury 2 RX7 G K := E
  show XJ shM 21 2 rm_X7_notJury G K σ [(0, .ref (gad G 0)), (1, .int v1)] 0 []
  unfold f_X7_notJury at hf
  refine x_iload_n 1 (pc := 0) (i := 1) E dX7_notJury_0 rfl rfl ?_
  refine x_if_lt (y := 0) (pc := 1) (tgt := 13) E dX7_notJury_1 (by decide) hf (fun hf => ?_) (fun hf => ?_)
  · refine x_iconst (pc := 13) (v := (-1 : Int32)) E dX7_notJury_13 rfl ?_
    refine x_goto (pc := 14) (tgt := 34) E dX7_notJury_14 (by decide) ?_
    obtain rfl := Option.some.inj hf
    exact x_iret (pc := 34) E hR dX7_notJury_34
  · refine x_iload_n 1 (pc := 4) (i := 1) E dX7_notJury_4 rfl rfl ?_
    refine x_aload_n 0 (pc := 5) (i := 0) E dX7_notJury_5 rfl rfl ?_
    refine x_getI (pc := 6) (p := 6) E rfl (Nat.le_of_ble_eq_true rfl) rfl inlX7 (by decide) rfl wq_164 dX7_notJury_6 ?_
    refine x_ishr (pc := 9) E dX7_notJury_9 ?_
    refine x_if_eq (y := 0) (pc := 10) (tgt := 17) E dX7_notJury_10 (by decide) hf (fun hf => ?_) (fun hf => ?_)
    · refine x_iload_n 1 (pc := 17) (i := 1) E dX7_notJury_17 rfl rfl ?_
      refine x_callSri (pc := 18) (na := 1) (As := [.int v1]) E (c_X7_bits G v1 σ) wq_344 wq_5 wq_342 wq_343 rfl rfl (by decide) ⟨Nat.le_of_ble_eq_true rfl, Nat.le_of_ble_eq_true rfl⟩ rfl rfl (Nat.le_of_ble_eq_true rfl) dX7_notJury_18 hf (fun r1 hf => ?_)
      refine x_aload_n 0 (pc := 21) (i := 0) E dX7_notJury_21 rfl rfl ?_
      refine x_callVri (pc := 22) (na := 0) (As := []) E (c_X7_needed G σ) rfl (Nat.le_of_ble_eq_true rfl) rfl wq_348 wq_5 wq_345 wq_346 wq_347 rfl rfl (by decide) ⟨Nat.le_of_ble_eq_true rfl, Nat.le_of_ble_eq_true rfl⟩ rfl rfl (Nat.le_of_ble_eq_true rfl) dX7_notJury_22 hf (fun r2 hf => ?_)
      refine x_icmp_eq (pc := 25) (tgt := 33) E dX7_notJury_25 (by decide) hf (fun hf => ?_) (fun hf => ?_)
      · refine x_iconst (pc := 33) (v := (0 : Int32)) E dX7_notJury_33 rfl ?_
        obtain rfl := Option.some.inj hf
        exact x_iret (pc := 34) E hR dX7_notJury_34
      · refine x_bipush (pc := 28) (v := (-3 : Int32)) E dX7_notJury_28 rfl ?_
        refine x_goto (pc := 30) (tgt := 34) E dX7_notJury_30 (by decide) ?_
        obtain rfl := Option.some.inj hf
        exact x_iret (pc := 34) E hR dX7_notJury_34
    · refine x_iconst (pc := 13) (v := (-1 : Int32)) E dX7_notJury_13 rfl ?_
      refine x_goto (pc := 14) (tgt := 34) E dX7_notJury_14 (by decide) ?_
      obtain rfl := Option.some.inj hf
      exact x_iret (pc := 34) E hR dX7_notJury_34
set_option maxHeartbeats 4000000 in
set_option maxRecDepth 100000 in
theorem c_X7_chance (G : Gx) (v1 : Int32) (σ : MM) (r : Int64) (σ' : MM) (hf : f_X7_chance v1 σ = some (r, σ')) : Ct shM 21 yX7_chance cX7_chance 3 (some .long) rm_X7_chance G [.ref (gad G 0), .int v1] σ (some (.long r)) σ' := by
  refine ct_of (by decide) (Nat.le_of_ble_eq_true rfl) (fun K E hR => ?_)
  have E : OKc 21 cX7_chance 3 RX7 G K := E
  show XJ shM 21 3 rm_X7_chance G K σ [(0, .ref (gad G 0)), (1, .int v1)] 0 []
  unfold f_X7_chance at hf
  refine x_aload_n 0 (pc := 0) (i := 0) E dX7_chance_0 rfl rfl ?_
  refine x_iload_n 1 (pc := 1) (i := 1) E dX7_chance_1 rfl rfl ?_
  refine x_callVri (pc := 2) (na := 1) (As := [.int v1]) E (c_X7_notJury G v1 σ) rfl (Nat.le_of_ble_eq_true rfl) rfl wq_341 wq_5 wq_338 wq_339 wq_340 rfl rfl (by decide) ⟨Nat.le_of_ble_eq_true rfl, Nat.le_of_ble_eq_true rfl⟩ rfl rfl (Nat.le_of_ble_eq_true rfl) dX7_chance_2 hf (fun r1 hf => ?_)
  refine x_istore_n (pc := 5) (lv' := [(2, .int r1), (0, .ref (gad G 0)), (1, .int v1)]) E dX7_chance_5 rfl (by decide) rfl ?_
  refine x_iload_n 0 (pc := 6) (i := 2) E dX7_chance_6 rfl rfl ?_
  refine x_if_eq (y := 0) (pc := 7) (tgt := 16) E dX7_chance_7 (by decide) hf (fun hf => ?_) (fun hf => ?_)
  · refine x_aload_n 1 (pc := 16) (i := 0) E dX7_chance_16 rfl rfl ?_
    refine x_callVwv (pc := 17) (na := 0) (As := []) E (c_X7_holdsTrue G σ) rfl (Nat.le_of_ble_eq_true rfl) rfl wq_357 wq_5 wq_354 wq_355 wq_356 rfl rfl (by decide) ⟨Nat.le_of_ble_eq_true rfl, Nat.le_of_ble_eq_true rfl⟩ rfl rfl (Nat.le_of_ble_eq_true rfl) dX7_chance_17 hf (fun σ3 hf => ?_)
    refine x_aload_n 1 (pc := 20) (i := 0) E dX7_chance_20 rfl rfl ?_
    refine x_iload_n 2 (pc := 21) (i := 1) E dX7_chance_21 rfl rfl ?_
    refine x_callVwl (pc := 22) (na := 1) (As := [.int v1]) E (c_X7_chanceOf G v1 σ3) rfl (Nat.le_of_ble_eq_true rfl) rfl wq_361 wq_5 wq_358 wq_359 wq_360 rfl rfl (by decide) ⟨Nat.le_of_ble_eq_true rfl, Nat.le_of_ble_eq_true rfl⟩ rfl rfl (Nat.le_of_ble_eq_true rfl) dX7_chance_22 hf (fun r4 σ5 hf => ?_)
    obtain ⟨rfl, rfl⟩ := Prod.mk.inj (Option.some.inj hf)
    exact x_lret (pc := 25) E hR dX7_chance_25
  · refine x_aload_n 1 (pc := 10) (i := 0) E dX7_chance_10 rfl rfl ?_
    refine x_iload_n 0 (pc := 11) (i := 2) E dX7_chance_11 rfl rfl ?_
    refine x_callVwl (pc := 12) (na := 1) (As := [.int r1]) E (c_X7_noLong G r1 σ) rfl (Nat.le_of_ble_eq_true rfl) rfl wq_352 wq_5 wq_349 wq_350 wq_351 rfl rfl (by decide) ⟨Nat.le_of_ble_eq_true rfl, Nat.le_of_ble_eq_true rfl⟩ rfl rfl (Nat.le_of_ble_eq_true rfl) dX7_chance_12 hf (fun r6 σ7 hf => ?_)
    obtain ⟨rfl, rfl⟩ := Prod.mk.inj (Option.some.inj hf)
    exact x_lret (pc := 15) E hR dX7_chance_15
set_option maxHeartbeats 4000000 in
set_option maxRecDepth 100000 in
theorem c_X7_right (G : Gx) (v1 : Int32) (σ : MM) (r : Int64) (σ' : MM) (hf : f_X7_right v1 σ = some (r, σ')) : Ct shM 21 yX7_right cX7_right 3 (some .long) rm_X7_right G [.ref (gad G 0), .int v1] σ (some (.long r)) σ' := by
  refine ct_of (by decide) (Nat.le_of_ble_eq_true rfl) (fun K E hR => ?_)
  have E : OKc 21 cX7_right 3 RX7 G K := E
  show XJ shM 21 3 rm_X7_right G K σ [(0, .ref (gad G 0)), (1, .int v1)] 0 []
  unfold f_X7_right at hf
  refine x_aload_n 0 (pc := 0) (i := 0) E dX7_right_0 rfl rfl ?_
  refine x_iload_n 1 (pc := 1) (i := 1) E dX7_right_1 rfl rfl ?_
  refine x_callVri (pc := 2) (na := 1) (As := [.int v1]) E (c_X7_notJury G v1 σ) rfl (Nat.le_of_ble_eq_true rfl) rfl wq_341 wq_5 wq_338 wq_339 wq_340 rfl rfl (by decide) ⟨Nat.le_of_ble_eq_true rfl, Nat.le_of_ble_eq_true rfl⟩ rfl rfl (Nat.le_of_ble_eq_true rfl) dX7_right_2 hf (fun r1 hf => ?_)
  refine x_istore_n (pc := 5) (lv' := [(2, .int r1), (0, .ref (gad G 0)), (1, .int v1)]) E dX7_right_5 rfl (by decide) rfl ?_
  refine x_iload_n 0 (pc := 6) (i := 2) E dX7_right_6 rfl rfl ?_
  refine x_if_eq (y := 0) (pc := 7) (tgt := 16) E dX7_right_7 (by decide) hf (fun hf => ?_) (fun hf => ?_)
  · refine x_aload_n 1 (pc := 16) (i := 0) E dX7_right_16 rfl rfl ?_
    refine x_callVwv (pc := 17) (na := 0) (As := []) E (c_X7_holdsTrue G σ) rfl (Nat.le_of_ble_eq_true rfl) rfl wq_357 wq_5 wq_354 wq_355 wq_356 rfl rfl (by decide) ⟨Nat.le_of_ble_eq_true rfl, Nat.le_of_ble_eq_true rfl⟩ rfl rfl (Nat.le_of_ble_eq_true rfl) dX7_right_17 hf (fun σ3 hf => ?_)
    refine x_aload_n 1 (pc := 20) (i := 0) E dX7_right_20 rfl rfl ?_
    refine x_iload_n 2 (pc := 21) (i := 1) E dX7_right_21 rfl rfl ?_
    refine x_callVwl (pc := 22) (na := 1) (As := [.int v1]) E (c_X7_rightOf G v1 σ3) rfl (Nat.le_of_ble_eq_true rfl) rfl wq_388 wq_5 wq_385 wq_386 wq_387 rfl rfl (by decide) ⟨Nat.le_of_ble_eq_true rfl, Nat.le_of_ble_eq_true rfl⟩ rfl rfl (Nat.le_of_ble_eq_true rfl) dX7_right_22 hf (fun r4 σ5 hf => ?_)
    obtain ⟨rfl, rfl⟩ := Prod.mk.inj (Option.some.inj hf)
    exact x_lret (pc := 25) E hR dX7_right_25
  · refine x_aload_n 1 (pc := 10) (i := 0) E dX7_right_10 rfl rfl ?_
    refine x_iload_n 0 (pc := 11) (i := 2) E dX7_right_11 rfl rfl ?_
    refine x_callVwl (pc := 12) (na := 1) (As := [.int r1]) E (c_X7_noLong G r1 σ) rfl (Nat.le_of_ble_eq_true rfl) rfl wq_352 wq_5 wq_349 wq_350 wq_351 rfl rfl (by decide) ⟨Nat.le_of_ble_eq_true rfl, Nat.le_of_ble_eq_true rfl⟩ rfl rfl (Nat.le_of_ble_eq_true rfl) dX7_right_12 hf (fun r6 σ7 hf => ?_)
    obtain ⟨rfl, rfl⟩ := Prod.mk.inj (Option.some.inj hf)
    exact x_lret (pc := 15) E hR dX7_right_15
set_option maxHeartbeats 4000000 in
set_option maxRecDepth 100000 in
theorem c_X7_index (G : Gx) (v0 : Int32) (v1 : Int32) (v2 : Int32) (v3 : Int32) (σ : MM) (r : Int32) (hf : f_X7_index v0 v1 v2 v3 σ = some r) : Ct shM 21 yX7_index cX7_index 4 (some .int) rm_X7_index G [.int v0, .int v1, .int v2, .int v3] σ (some (.int r)) σ := by
  refine ct_of (by decide) (Nat.le_of_ble_eq_true rfl) (fun K E hR => ?_)
  have E : OKc 21 cX7_index 4 RX7 G K := E
  show XJ shM 21 4 rm_X7_index G K σ [(0, .int v0), (1, .int v1), (2, .int v2), (3, .int v3)] 0 []
  unfold f_X7_index at hf
  refine x_sipush (pc := 0) (v := (4096 : Int32)) E dX7_index_0 rfl ?_
  refine x_iconst (pc := 3) (v := (2 : Int32)) E dX7_index_3 rfl ?_
  refine x_iconst (pc := 4) (v := (4 : Int32)) E dX7_index_4 rfl ?_
  refine x_iload_n 0 (pc := 5) (i := 0) E dX7_index_5 rfl rfl ?_
  refine x_imul (pc := 6) E dX7_index_6 ?_
  refine x_iload_n 1 (pc := 7) (i := 1) E dX7_index_7 rfl rfl ?_
  refine x_iadd (pc := 8) E dX7_index_8 ?_
  refine x_imul (pc := 9) E dX7_index_9 ?_
  refine x_iload_n 2 (pc := 10) (i := 2) E dX7_index_10 rfl rfl ?_
  refine x_iadd (pc := 11) E dX7_index_11 ?_
  refine x_imul (pc := 12) E dX7_index_12 ?_
  refine x_iload_n 3 (pc := 13) (i := 3) E dX7_index_13 rfl rfl ?_
  refine x_iadd (pc := 14) E dX7_index_14 ?_
  obtain rfl := Option.some.inj hf
  exact x_iret (pc := 15) E hR dX7_index_15
set_option maxHeartbeats 4000000 in
set_option maxRecDepth 100000 in
theorem c_X7_mover (G : Gx) (v0 : Int32) (v1 : Int32) (v2 : Int32) (σ : MM) (r : Int32) (hf : f_X7_mover v0 v1 v2 σ = some r) : Ct shM 21 yX7_mover cX7_mover 3 (some .int) rm_X7_mover G [.int v0, .int v1, .int v2] σ (some (.int r)) σ := by
  refine ct_of (by decide) (Nat.le_of_ble_eq_true rfl) (fun K E hR => ?_)
  have E : OKc 21 cX7_mover 3 RX7 G K := E
  show XJ shM 21 3 rm_X7_mover G K σ [(0, .int v0), (1, .int v1), (2, .int v2)] 0 []
  unfold f_X7_mover at hf
  refine x_iload_n 2 (pc := 0) (i := 2) E dX7_mover_0 rfl rfl ?_
  obtain ⟨o1, hf3, hf⟩ := bind_some hf
  have hJ2 : XJ shM 21 3 rm_X7_mover G K σ [(2, .int v2)] 9 [.int o1] := by
    refine x_if_le (y := 0) (pc := 9) (tgt := 16) E dX7_mover_9 (by decide) hf (fun hf => ?_) (fun hf => ?_)
    · refine x_iconst (pc := 16) (v := (1 : Int32)) E dX7_mover_16 rfl ?_
      refine x_iload_n 0 (pc := 17) (i := 2) E dX7_mover_17 rfl rfl ?_
      refine x_isub (pc := 18) E dX7_mover_18 ?_
      obtain rfl := Option.some.inj hf
      exact x_iret (pc := 19) E hR dX7_mover_19
    · refine x_iload_n 0 (pc := 12) (i := 2) E dX7_mover_12 rfl rfl ?_
      refine x_goto (pc := 13) (tgt := 19) E dX7_mover_13 (by decide) ?_
      obtain rfl := Option.some.inj hf
      exact x_iret (pc := 19) E hR dX7_mover_19
  refine x_if_ne (y := 0) (pc := 1) (tgt := 8) E dX7_mover_1 (by decide) hf3 (fun hf3 => ?_) (fun hf3 => ?_)
  · refine x_iload_n 1 (pc := 8) (i := 1) E dX7_mover_8 rfl rfl ?_
    obtain rfl := Option.some.inj hf3
    exact x_sub [2] rfl hJ2
  · refine x_iload_n 0 (pc := 4) (i := 0) E dX7_mover_4 rfl rfl ?_
    refine x_goto (pc := 5) (tgt := 9) E dX7_mover_5 (by decide) ?_
    obtain rfl := Option.some.inj hf3
    exact x_sub [2] rfl hJ2
set_option maxHeartbeats 4000000 in
set_option maxRecDepth 100000 in
theorem c_X7_behind (G : Gx) (v1 : Int32) (v2 : Int32) (v3 : Int32) (v4 : Int32) (v5 : Int32) (σ : MM) (r : Int64) (hf : f_X7_behind v1 v2 v3 v4 v5 σ = some r) : Ct shM 21 yX7_behind cX7_behind 6 (some .long) rm_X7_behind G [.ref (gad G 0), .int v1, .int v2, .int v3, .int v4, .int v5] σ (some (.long r)) σ := by
  refine ct_of (by decide) (Nat.le_of_ble_eq_true rfl) (fun K E hR => ?_)
  have E : OKc 21 cX7_behind 6 RX7 G K := E
  show XJ shM 21 6 rm_X7_behind G K σ [(0, .ref (gad G 0)), (1, .int v1), (2, .int v2), (3, .int v3), (4, .int v4), (5, .int v5)] 0 []
  unfold f_X7_behind at hf
  refine x_aload_n 0 (pc := 0) (i := 0) E dX7_behind_0 rfl rfl ?_
  refine x_getR (pc := 1) (r := 11) (p := 13) E rfl (Nat.le_of_ble_eq_true rfl) rfl inlX7 (by decide) rfl wq_109 dX7_behind_1 ?_
  refine x_iload_n 3 (pc := 4) (i := 3) E dX7_behind_4 rfl rfl ?_
  obtain ⟨o1, hf3, hf⟩ := bind_some hf
  have hJ2 : XJ shM 21 6 rm_X7_behind G K σ [(2, .int v2), (3, .int v3), (4, .int v4), (5, .int v5)] 15 [.int o1, .ref (gad G 11)] := by
    refine x_iload_n 1 (pc := 15) (i := 3) E dX7_behind_15 rfl rfl ?_
    obtain ⟨o4, hf6, hf⟩ := bind_some hf
    have hJ5 : XJ shM 21 6 rm_X7_behind G K σ [(3, .int v3), (4, .int v4), (5, .int v5)] 26 [.int o4, .int o1, .ref (gad G 11)] := by
      refine x_iconst (pc := 26) (v := (1 : Int32)) E dX7_behind_26 rfl ?_
      refine x_iload_n 0 (pc := 27) (i := 3) E dX7_behind_27 rfl rfl ?_
      refine x_isub (pc := 28) E dX7_behind_28 ?_
      refine x_iload 1 (pc := 29) E dX7_behind_29 rfl ?_
      refine x_iconst (pc := 31) (v := (1 : Int32)) E dX7_behind_31 rfl ?_
      refine x_iload 2 (pc := 32) E dX7_behind_32 rfl ?_
      refine x_ishl (pc := 34) E dX7_behind_34 ?_
      refine x_iconst (pc := 35) (v := (-1 : Int32)) E dX7_behind_35 rfl ?_
      refine x_ixor (pc := 36) E dX7_behind_36 ?_
      refine x_iand (pc := 37) E dX7_behind_37 ?_
      refine x_callSri (pc := 38) (na := 4) (As := [.int o1, .int o4, .int ((1 : Int32) - v3), .int (v4 &&& (((1 : Int32) <<< (v5 &&& 31)) ^^^ (-1 : Int32)))]) E (c_X7_index G o1 o4 ((1 : Int32) - v3) (v4 &&& (((1 : Int32) <<< (v5 &&& 31)) ^^^ (-1 : Int32))) σ) wq_455 wq_5 wq_453 wq_454 rfl rfl (by decide) ⟨Nat.le_of_ble_eq_true rfl, Nat.le_of_ble_eq_true rfl⟩ rfl rfl (Nat.le_of_ble_eq_true rfl) dX7_behind_38 hf (fun r7 hf => ?_)
      refine x_laload (pc := 41) E rfl (Nat.le_of_ble_eq_true rfl) dX7_behind_41 hf (fun hf => ?_)
      obtain rfl := Option.some.inj hf
      exact x_lret (pc := 42) E hR dX7_behind_42
    refine x_if_ne (y := 0) (pc := 16) (tgt := 23) E dX7_behind_16 (by decide) hf6 (fun hf6 => ?_) (fun hf6 => ?_)
    · refine x_iload_n 0 (pc := 23) (i := 2) E dX7_behind_23 rfl rfl ?_
      refine x_iconst (pc := 24) (v := (1 : Int32)) E dX7_behind_24 rfl ?_
      refine x_isub (pc := 25) E dX7_behind_25 ?_
      obtain rfl := Option.some.inj hf6
      exact x_sub [1, 2, 3] rfl hJ5
    · refine x_iload_n 0 (pc := 19) (i := 2) E dX7_behind_19 rfl rfl ?_
      refine x_goto (pc := 20) (tgt := 26) E dX7_behind_20 (by decide) ?_
      obtain rfl := Option.some.inj hf6
      exact x_sub [1, 2, 3] rfl hJ5
  refine x_if_ne (y := 0) (pc := 5) (tgt := 14) E dX7_behind_5 (by decide) hf3 (fun hf3 => ?_) (fun hf3 => ?_)
  · refine x_iload_n 1 (pc := 14) (i := 1) E dX7_behind_14 rfl rfl ?_
    obtain rfl := Option.some.inj hf3
    exact x_sub [2, 3, 4, 5] rfl hJ2
  · refine x_iload_n 1 (pc := 8) (i := 1) E dX7_behind_8 rfl rfl ?_
    refine x_iconst (pc := 9) (v := (1 : Int32)) E dX7_behind_9 rfl ?_
    refine x_isub (pc := 10) E dX7_behind_10 ?_
    refine x_goto (pc := 11) (tgt := 15) E dX7_behind_11 (by decide) ?_
    obtain rfl := Option.some.inj hf3
    exact x_sub [2, 3, 4, 5] rfl hJ2
set_option maxHeartbeats 4000000 in
set_option maxRecDepth 100000 in
theorem l_X7_valueOf_17 (G : Gx) {K : Kx}   (v1 : Int32) (v2 : Int32) (v4 : Int32) (v5 : Int32) (σ : MM) (E : OKc 21 cX7_valueOf 12 RX7 G K) : ∀ (m : Nat) (v6 : Int32) (v7 : Int64) (v9 : Int32) (out : Int64), loopN (fun s => g_X7_valueOf_17 v1 v2 v4 v5 s.1 s.2.1 s.2.2 σ) m (v6, v7, v9) = some out → XJ shM 21 12 rm_X7_valueOf G K σ [(7, .long out)] 96 [] → XJ shM 21 12 rm_X7_valueOf G K σ [(0, .ref (gad G 0)), (1, .int v1), (2, .int v2), (4, .int v4), (5, .int v5), (6, .int v6), (7, .long v7), (9, .int v9)] 17 [] := by
  intro m
  induction m with
  | zero => intro v6 v7 v9 out hf; exact (loopN_0 hf).elim
  | succ m ih =>
    intro v6 v7 v9 out hf hk
    obtain ⟨q, hf, h2⟩ := loopN_s hf
    have hf : g_X7_valueOf_17 v1 v2 v4 v5 v6 v7 v9 σ = some q := hf
    unfold g_X7_valueOf_17 at hf
    refine x_iload 7 (pc := 17) E dX7_valueOf_17 rfl ?_
    refine x_bipush (pc := 19) (v := (12 : Int32)) E dX7_valueOf_19 rfl ?_
    refine x_icmp_ge (pc := 21) (tgt := 96) E dX7_valueOf_21 (by decide) hf (fun hf => ?_) (fun hf => ?_)
    · obtain rfl := Option.some.inj hf
      obtain rfl := lpk_r h2
      exact x_sub [6] rfl hk
    · refine x_iload 3 (pc := 24) E dX7_valueOf_24 rfl ?_
      refine x_iload 7 (pc := 26) E dX7_valueOf_26 rfl ?_
      refine x_ishr (pc := 28) E dX7_valueOf_28 ?_
      refine x_iconst (pc := 29) (v := (1 : Int32)) E dX7_valueOf_29 rfl ?_
      refine x_iand (pc := 30) E dX7_valueOf_30 ?_
      refine x_if_ne (y := 0) (pc := 31) (tgt := 37) E dX7_valueOf_31 (by decide) hf (fun hf => ?_) (fun hf => ?_)
      · refine x_aload_n 0 (pc := 37) (i := 0) E dX7_valueOf_37 rfl rfl ?_
        refine x_iload_n 1 (pc := 38) (i := 1) E dX7_valueOf_38 rfl rfl ?_
        refine x_iload_n 2 (pc := 39) (i := 2) E dX7_valueOf_39 rfl rfl ?_
        refine x_iload 4 (pc := 40) E dX7_valueOf_40 rfl ?_
        refine x_iload 3 (pc := 42) E dX7_valueOf_42 rfl ?_
        refine x_iload 7 (pc := 44) E dX7_valueOf_44 rfl ?_
        refine x_callVrl (pc := 46) (na := 5) (As := [.int v1, .int v2, .int v5, .int v4, .int v9]) E (c_X7_behind G v1 v2 v5 v4 v9 σ) rfl (Nat.le_of_ble_eq_true rfl) rfl wq_466 wq_5 wq_463 wq_464 wq_465 rfl rfl (by decide) ⟨Nat.le_of_ble_eq_true rfl, Nat.le_of_ble_eq_true rfl⟩ rfl rfl (Nat.le_of_ble_eq_true rfl) dX7_valueOf_46 hf (fun r2 hf => ?_)
        refine x_lstore (pc := 49) (lv' := [(10, .long r2), (0, .ref (gad G 0)), (1, .int v1), (2, .int v2), (4, .int v4), (5, .int v5), (6, .int v6), (7, .long v7), (9, .int v9)]) E dX7_valueOf_49 (by decide) rfl ?_
        refine x_iload 6 (pc := 51) E dX7_valueOf_51 rfl ?_
        refine x_if_eq (y := 0) (pc := 53) (tgt := 83) E dX7_valueOf_53 (by decide) hf (fun hf => ?_) (fun hf => ?_)
        · refine x_iconst (pc := 83) (v := (1 : Int32)) E dX7_valueOf_83 rfl ?_
          refine x_istore (pc := 84) (lv' := [(6, .int (1 : Int32)), (10, .long r2), (0, .ref (gad G 0)), (1, .int v1), (2, .int v2), (4, .int v4), (5, .int v5), (7, .long v7), (9, .int v9)]) E dX7_valueOf_84 (by decide) rfl ?_
          refine x_lload 1 (pc := 86) E dX7_valueOf_86 rfl ?_
          refine x_lstore (pc := 88) (lv' := [(7, .long r2), (6, .int (1 : Int32)), (10, .long r2), (0, .ref (gad G 0)), (1, .int v1), (2, .int v2), (4, .int v4), (5, .int v5), (9, .int v9)]) E dX7_valueOf_88 (by decide) rfl ?_
          refine x_iinc 8 (pc := 90) (v := v9 + 1) (lv' := [(9, .int (v9 + 1)), (7, .long r2), (6, .int (1 : Int32)), (10, .long r2), (0, .ref (gad G 0)), (1, .int v1), (2, .int v2), (4, .int v4), (5, .int v5)]) E dX7_valueOf_90 rfl rfl (by decide) rfl ?_
          refine x_goto (pc := 93) (tgt := 17) E dX7_valueOf_93 (by decide) ?_
          obtain rfl := Option.some.inj hf
          exact x_sub [4, 5, 6, 7, 8, 2, 1, 0] rfl (ih _ _ _ _ (lpk_l h2) hk)
        · refine x_iload 5 (pc := 56) E dX7_valueOf_56 rfl ?_
          refine x_if_ne (y := 0) (pc := 58) (tgt := 72) E dX7_valueOf_58 (by decide) hf (fun hf => ?_) (fun hf => ?_)
          · refine x_lload 0 (pc := 72) E dX7_valueOf_72 rfl ?_
            refine x_lload 7 (pc := 74) E dX7_valueOf_74 rfl ?_
            refine x_lcmp_lt (pc := 76) (tgt := 83) E dX7_valueOf_76 dX7_valueOf_77 (by decide) hf (fun hf => ?_) (fun hf => ?_)
            · refine x_iconst (pc := 83) (v := (1 : Int32)) E dX7_valueOf_83 rfl ?_
              refine x_istore (pc := 84) (lv' := [(6, .int (1 : Int32)), (10, .long r2), (0, .ref (gad G 0)), (1, .int v1), (2, .int v2), (4, .int v4), (5, .int v5), (7, .long v7), (9, .int v9)]) E dX7_valueOf_84 (by decide) rfl ?_
              refine x_lload 1 (pc := 86) E dX7_valueOf_86 rfl ?_
              refine x_lstore (pc := 88) (lv' := [(7, .long r2), (6, .int (1 : Int32)), (10, .long r2), (0, .ref (gad G 0)), (1, .int v1), (2, .int v2), (4, .int v4), (5, .int v5), (9, .int v9)]) E dX7_valueOf_88 (by decide) rfl ?_
              refine x_iinc 8 (pc := 90) (v := v9 + 1) (lv' := [(9, .int (v9 + 1)), (7, .long r2), (6, .int (1 : Int32)), (10, .long r2), (0, .ref (gad G 0)), (1, .int v1), (2, .int v2), (4, .int v4), (5, .int v5)]) E dX7_valueOf_90 rfl rfl (by decide) rfl ?_
              refine x_goto (pc := 93) (tgt := 17) E dX7_valueOf_93 (by decide) ?_
              obtain rfl := Option.some.inj hf
              exact x_sub [4, 5, 6, 7, 8, 2, 1, 0] rfl (ih _ _ _ _ (lpk_l h2) hk)
            · refine x_goto (pc := 80) (tgt := 90) E dX7_valueOf_80 (by decide) ?_
              refine x_iinc 8 (pc := 90) (v := v9 + 1) (lv' := [(9, .int (v9 + 1)), (10, .long r2), (0, .ref (gad G 0)), (1, .int v1), (2, .int v2), (4, .int v4), (5, .int v5), (6, .int v6), (7, .long v7)]) E dX7_valueOf_90 rfl rfl (by decide) rfl ?_
              refine x_goto (pc := 93) (tgt := 17) E dX7_valueOf_93 (by decide) ?_
              obtain rfl := Option.some.inj hf
              exact x_sub [2, 3, 4, 5, 6, 7, 8, 0] rfl (ih _ _ _ _ (lpk_l h2) hk)
          · refine x_lload 0 (pc := 61) E dX7_valueOf_61 rfl ?_
            refine x_lload 7 (pc := 63) E dX7_valueOf_63 rfl ?_
            refine x_lcmp_gt (pc := 65) (tgt := 83) E dX7_valueOf_65 dX7_valueOf_66 (by decide) hf (fun hf => ?_) (fun hf => ?_)
            · refine x_iconst (pc := 83) (v := (1 : Int32)) E dX7_valueOf_83 rfl ?_
              refine x_istore (pc := 84) (lv' := [(6, .int (1 : Int32)), (10, .long r2), (0, .ref (gad G 0)), (1, .int v1), (2, .int v2), (4, .int v4), (5, .int v5), (7, .long v7), (9, .int v9)]) E dX7_valueOf_84 (by decide) rfl ?_
              refine x_lload 1 (pc := 86) E dX7_valueOf_86 rfl ?_
              refine x_lstore (pc := 88) (lv' := [(7, .long r2), (6, .int (1 : Int32)), (10, .long r2), (0, .ref (gad G 0)), (1, .int v1), (2, .int v2), (4, .int v4), (5, .int v5), (9, .int v9)]) E dX7_valueOf_88 (by decide) rfl ?_
              refine x_iinc 8 (pc := 90) (v := v9 + 1) (lv' := [(9, .int (v9 + 1)), (7, .long r2), (6, .int (1 : Int32)), (10, .long r2), (0, .ref (gad G 0)), (1, .int v1), (2, .int v2), (4, .int v4), (5, .int v5)]) E dX7_valueOf_90 rfl rfl (by decide) rfl ?_
              refine x_goto (pc := 93) (tgt := 17) E dX7_valueOf_93 (by decide) ?_
              obtain rfl := Option.some.inj hf
              exact x_sub [4, 5, 6, 7, 8, 2, 1, 0] rfl (ih _ _ _ _ (lpk_l h2) hk)
            · refine x_goto (pc := 69) (tgt := 90) E dX7_valueOf_69 (by decide) ?_
              refine x_iinc 8 (pc := 90) (v := v9 + 1) (lv' := [(9, .int (v9 + 1)), (10, .long r2), (0, .ref (gad G 0)), (1, .int v1), (2, .int v2), (4, .int v4), (5, .int v5), (6, .int v6), (7, .long v7)]) E dX7_valueOf_90 rfl rfl (by decide) rfl ?_
              refine x_goto (pc := 93) (tgt := 17) E dX7_valueOf_93 (by decide) ?_
              obtain rfl := Option.some.inj hf
              exact x_sub [2, 3, 4, 5, 6, 7, 8, 0] rfl (ih _ _ _ _ (lpk_l h2) hk)
      · refine x_goto (pc := 34) (tgt := 90) E dX7_valueOf_34 (by decide) ?_
        refine x_iinc 7 (pc := 90) (v := v9 + 1) (lv' := [(9, .int (v9 + 1)), (0, .ref (gad G 0)), (1, .int v1), (2, .int v2), (4, .int v4), (5, .int v5), (6, .int v6), (7, .long v7)]) E dX7_valueOf_90 rfl rfl (by decide) rfl ?_
        refine x_goto (pc := 93) (tgt := 17) E dX7_valueOf_93 (by decide) ?_
        obtain rfl := Option.some.inj hf
        exact x_sub [1, 2, 3, 4, 5, 6, 7, 0] rfl (ih _ _ _ _ (lpk_l h2) hk)
set_option maxHeartbeats 4000000 in
set_option maxRecDepth 100000 in
theorem c_X7_valueOf (G : Gx) (v1 : Int32) (v2 : Int32) (v3 : Int32) (v4 : Int32) (σ : MM) (r : Int64) (hf : f_X7_valueOf v1 v2 v3 v4 σ = some r) : Ct shM 21 yX7_valueOf cX7_valueOf 12 (some .long) rm_X7_valueOf G [.ref (gad G 0), .int v1, .int v2, .int v3, .int v4] σ (some (.long r)) σ := by
  refine ct_of (by decide) (Nat.le_of_ble_eq_true rfl) (fun K E hR => ?_)
  have E : OKc 21 cX7_valueOf 12 RX7 G K := E
  show XJ shM 21 12 rm_X7_valueOf G K σ [(0, .ref (gad G 0)), (1, .int v1), (2, .int v2), (3, .int v3), (4, .int v4)] 0 []
  unfold f_X7_valueOf at hf
  refine x_iload_n 1 (pc := 0) (i := 1) E dX7_valueOf_0 rfl rfl ?_
  refine x_iload_n 2 (pc := 1) (i := 2) E dX7_valueOf_1 rfl rfl ?_
  refine x_iload_n 3 (pc := 2) (i := 3) E dX7_valueOf_2 rfl rfl ?_
  refine x_callSri (pc := 3) (na := 3) (As := [.int v1, .int v2, .int v3]) E (c_X7_mover G v1 v2 v3 σ) wq_462 wq_5 wq_460 wq_461 rfl rfl (by decide) ⟨Nat.le_of_ble_eq_true rfl, Nat.le_of_ble_eq_true rfl⟩ rfl rfl (Nat.le_of_ble_eq_true rfl) dX7_valueOf_3 hf (fun r1 hf => ?_)
  refine x_istore (pc := 6) (lv' := [(5, .int r1), (0, .ref (gad G 0)), (1, .int v1), (2, .int v2), (3, .int v3), (4, .int v4)]) E dX7_valueOf_6 (by decide) rfl ?_
  refine x_iconst (pc := 8) (v := (0 : Int32)) E dX7_valueOf_8 rfl ?_
  refine x_istore (pc := 9) (lv' := [(6, .int (0 : Int32)), (5, .int r1), (0, .ref (gad G 0)), (1, .int v1), (2, .int v2), (3, .int v3), (4, .int v4)]) E dX7_valueOf_9 (by decide) rfl ?_
  refine x_lconst (pc := 11) (v := 0) E dX7_valueOf_11 rfl ?_
  refine x_lstore (pc := 12) (lv' := [(7, .long (0 : Int64)), (6, .int (0 : Int32)), (5, .int r1), (0, .ref (gad G 0)), (1, .int v1), (2, .int v2), (3, .int v3), (4, .int v4)]) E dX7_valueOf_12 (by decide) rfl ?_
  refine x_iconst (pc := 14) (v := (0 : Int32)) E dX7_valueOf_14 rfl ?_
  refine x_istore (pc := 15) (lv' := [(9, .int (0 : Int32)), (7, .long (0 : Int64)), (6, .int (0 : Int32)), (5, .int r1), (0, .ref (gad G 0)), (1, .int v1), (2, .int v2), (3, .int v3), (4, .int v4)]) E dX7_valueOf_15 (by decide) rfl ?_
  obtain ⟨o3, hl4, hf⟩ := bind_some hf
  refine x_sub [4, 5, 6, 8, 3, 2, 1, 0] rfl (l_X7_valueOf_17 G   v1 v2 v4 r1 σ E FU _ _ _ o3 hl4 ?_)
  refine x_lload 0 (pc := 96) E dX7_valueOf_96 rfl ?_
  obtain rfl := Option.some.inj hf
  exact x_lret (pc := 98) E hR dX7_valueOf_98
set_option maxHeartbeats 4000000 in
set_option maxRecDepth 100000 in
theorem l_X7_findBest_3 (G : Gx) {K : Kx}   (v1 : Int32) (v2 : Int32) (v3 : Int32) (E : OKc 21 cX7_findBest 8 RX7 G K) : ∀ (m : Nat) (v4 : Int32) (σ : MM) (out : MM), loopN (fun s => g_X7_findBest_3 v1 v2 v3 s.1 s.2) m (v4, σ) = some out → XJ shM 21 8 rm_X7_findBest G K out [(0, .ref (gad G 0)), (1, .int v1), (2, .int v2), (3, .int v3)] 29 [] → XJ shM 21 8 rm_X7_findBest G K σ [(0, .ref (gad G 0)), (1, .int v1), (2, .int v2), (3, .int v3), (4, .int v4)] 3 [] := by
  intro m
  induction m with
  | zero => intro v4 σ out hf; exact (loopN_0 hf).elim
  | succ m ih =>
    intro v4 σ out hf hk
    obtain ⟨q, hf, h2⟩ := loopN_s hf
    have hf : g_X7_findBest_3 v1 v2 v3 v4 σ = some q := hf
    unfold g_X7_findBest_3 at hf
    refine x_iload 4 (pc := 3) E dX7_findBest_3 rfl ?_
    refine x_sipush (pc := 5) (v := (4096 : Int32)) E dX7_findBest_5 rfl ?_
    refine x_icmp_ge (pc := 8) (tgt := 29) E dX7_findBest_8 (by decide) hf (fun hf => ?_) (fun hf => ?_)
    · obtain rfl := Option.some.inj hf
      obtain rfl := lpk_r h2
      exact x_sub [0, 1, 2, 3] rfl hk
    · refine x_aload_n 0 (pc := 11) (i := 0) E dX7_findBest_11 rfl rfl ?_
      refine x_getR (pc := 12) (r := 12) (p := 14) E rfl (Nat.le_of_ble_eq_true rfl) rfl inlX7 (by decide) rfl wq_110 dX7_findBest_12 ?_
      refine x_iload 4 (pc := 15) E dX7_findBest_15 rfl ?_
      refine x_iload 4 (pc := 17) E dX7_findBest_17 rfl ?_
      refine x_callSri (pc := 19) (na := 1) (As := [.int v4]) E (c_X7_bits G v4 σ) wq_344 wq_5 wq_342 wq_343 rfl rfl (by decide) ⟨Nat.le_of_ble_eq_true rfl, Nat.le_of_ble_eq_true rfl⟩ rfl rfl (Nat.le_of_ble_eq_true rfl) dX7_findBest_19 hf (fun r1 hf => ?_)
      refine x_iastore (pc := 22) E rfl (Nat.le_of_ble_eq_true rfl) dX7_findBest_22 hf (fun σ2 hf => ?_)
      refine x_iinc 4 (pc := 23) (v := v4 + 1) (lv' := [(4, .int (v4 + 1)), (0, .ref (gad G 0)), (1, .int v1), (2, .int v2), (3, .int v3)]) E dX7_findBest_23 rfl rfl (by decide) rfl ?_
      refine x_goto (pc := 26) (tgt := 3) E dX7_findBest_26 (by decide) ?_
      obtain rfl := Option.some.inj hf
      exact x_sub [1, 2, 3, 4, 0] rfl (ih _ _ _ (lpk_l h2) hk)
set_option maxHeartbeats 4000000 in
set_option maxRecDepth 100000 in
theorem l_X7_findBest_99 (G : Gx) {K : Kx}   (v1 : Int32) (v2 : Int32) (v3 : Int32) (v4 : Int32) (v5 : Int32) (v6 : Int32) (E : OKc 21 cX7_findBest 8 RX7 G K) : ∀ (m : Nat) (v7 : Int32) (σ : MM) (out : MM), loopN (fun s => g_X7_findBest_99 v1 v2 v3 v4 v5 v6 s.1 s.2) m (v7, σ) = some out → XJ shM 21 8 rm_X7_findBest G K out [(0, .ref (gad G 0)), (1, .int v1), (2, .int v2), (3, .int v3), (4, .int v4), (5, .int v5), (6, .int v6)] 159 [] → XJ shM 21 8 rm_X7_findBest G K σ [(0, .ref (gad G 0)), (1, .int v1), (2, .int v2), (3, .int v3), (4, .int v4), (5, .int v5), (6, .int v6), (7, .int v7)] 99 [] := by
  intro m
  induction m with
  | zero => intro v7 σ out hf; exact (loopN_0 hf).elim
  | succ m ih =>
    intro v7 σ out hf hk
    obtain ⟨q, hf, h2⟩ := loopN_s hf
    have hf : g_X7_findBest_99 v1 v2 v3 v4 v5 v6 v7 σ = some q := hf
    unfold g_X7_findBest_99 at hf
    refine x_iload 7 (pc := 99) E dX7_findBest_99 rfl ?_
    refine x_iconst (pc := 101) (v := (2 : Int32)) E dX7_findBest_101 rfl ?_
    refine x_icmp_ge (pc := 102) (tgt := 159) E dX7_findBest_102 (by decide) hf (fun hf => ?_) (fun hf => ?_)
    · obtain rfl := Option.some.inj hf
      obtain rfl := lpk_r h2
      exact x_sub [0, 1, 2, 3, 4, 5, 6] rfl hk
    · refine x_aload_n 0 (pc := 105) (i := 0) E dX7_findBest_105 rfl rfl ?_
      refine x_getR (pc := 106) (r := 11) (p := 13) E rfl (Nat.le_of_ble_eq_true rfl) rfl inlX7 (by decide) rfl wq_109 dX7_findBest_106 ?_
      refine x_iload 5 (pc := 109) E dX7_findBest_109 rfl ?_
      refine x_iload 4 (pc := 111) E dX7_findBest_111 rfl ?_
      refine x_iload 5 (pc := 113) E dX7_findBest_113 rfl ?_
      refine x_isub (pc := 115) E dX7_findBest_115 ?_
      refine x_iload 7 (pc := 116) E dX7_findBest_116 rfl ?_
      refine x_iload 6 (pc := 118) E dX7_findBest_118 rfl ?_
      refine x_callSri (pc := 120) (na := 4) (As := [.int v5, .int (v4 - v5), .int v7, .int v6]) E (c_X7_index G v5 (v4 - v5) v7 v6 σ) wq_455 wq_5 wq_453 wq_454 rfl rfl (by decide) ⟨Nat.le_of_ble_eq_true rfl, Nat.le_of_ble_eq_true rfl⟩ rfl rfl (Nat.le_of_ble_eq_true rfl) dX7_findBest_120 hf (fun r11 hf => ?_)
      refine x_iload 4 (pc := 123) E dX7_findBest_123 rfl ?_
      refine x_if_ne (y := 0) (pc := 125) (tgt := 137) E dX7_findBest_125 (by decide) hf (fun hf => ?_) (fun hf => ?_)
      · refine x_aload_n 0 (pc := 137) (i := 0) E dX7_findBest_137 rfl rfl ?_
        refine x_iload 5 (pc := 138) E dX7_findBest_138 rfl ?_
        refine x_iload 4 (pc := 140) E dX7_findBest_140 rfl ?_
        refine x_iload 5 (pc := 142) E dX7_findBest_142 rfl ?_
        refine x_isub (pc := 144) E dX7_findBest_144 ?_
        refine x_iload 7 (pc := 145) E dX7_findBest_145 rfl ?_
        refine x_iload 6 (pc := 147) E dX7_findBest_147 rfl ?_
        refine x_callVrl (pc := 149) (na := 4) (As := [.int v5, .int (v4 - v5), .int v7, .int v6]) E (c_X7_valueOf G v5 (v4 - v5) v7 v6 σ) rfl (Nat.le_of_ble_eq_true rfl) rfl wq_459 wq_5 wq_456 wq_457 wq_458 rfl rfl (by decide) ⟨Nat.le_of_ble_eq_true rfl, Nat.le_of_ble_eq_true rfl⟩ rfl rfl (Nat.le_of_ble_eq_true rfl) dX7_findBest_149 hf (fun r12 hf => ?_)
        refine x_lastore (pc := 152) E rfl (Nat.le_of_ble_eq_true rfl) dX7_findBest_152 hf (fun σ13 hf => ?_)
        refine x_iinc 7 (pc := 153) (v := v7 + 1) (lv' := [(7, .int (v7 + 1)), (0, .ref (gad G 0)), (1, .int v1), (2, .int v2), (3, .int v3), (4, .int v4), (5, .int v5), (6, .int v6)]) E dX7_findBest_153 rfl rfl (by decide) rfl ?_
        refine x_goto (pc := 156) (tgt := 99) E dX7_findBest_156 (by decide) ?_
        obtain rfl := Option.some.inj hf
        exact x_sub [1, 2, 3, 4, 5, 6, 7, 0] rfl (ih _ _ _ (lpk_l h2) hk)
      · refine x_aload_n 0 (pc := 128) (i := 0) E dX7_findBest_128 rfl rfl ?_
        refine x_iload 6 (pc := 129) E dX7_findBest_129 rfl ?_
        refine x_callVwl (pc := 131) (na := 1) (As := [.int v6]) E (c_X7_chanceOf G v6 σ) rfl (Nat.le_of_ble_eq_true rfl) rfl wq_361 wq_5 wq_358 wq_359 wq_360 rfl rfl (by decide) ⟨Nat.le_of_ble_eq_true rfl, Nat.le_of_ble_eq_true rfl⟩ rfl rfl (Nat.le_of_ble_eq_true rfl) dX7_findBest_131 hf (fun r14 σ15 hf => ?_)
        refine x_goto (pc := 134) (tgt := 152) E dX7_findBest_134 (by decide) ?_
        refine x_lastore (pc := 152) E rfl (Nat.le_of_ble_eq_true rfl) dX7_findBest_152 hf (fun σ16 hf => ?_)
        refine x_iinc 7 (pc := 153) (v := v7 + 1) (lv' := [(7, .int (v7 + 1)), (0, .ref (gad G 0)), (1, .int v1), (2, .int v2), (3, .int v3), (4, .int v4), (5, .int v5), (6, .int v6)]) E dX7_findBest_153 rfl rfl (by decide) rfl ?_
        refine x_goto (pc := 156) (tgt := 99) E dX7_findBest_156 (by decide) ?_
        obtain rfl := Option.some.inj hf
        exact x_sub [1, 2, 3, 4, 5, 6, 7, 0] rfl (ih _ _ _ (lpk_l h2) hk)
set_option maxHeartbeats 4000000 in
set_option maxRecDepth 100000 in
theorem l_X7_findBest_71 (G : Gx) {K : Kx}   (v1 : Int32) (v2 : Int32) (v3 : Int32) (v4 : Int32) (v5 : Int32) (E : OKc 21 cX7_findBest 8 RX7 G K) : ∀ (m : Nat) (v6 : Int32) (σ : MM) (out : MM), loopN (fun s => g_X7_findBest_71 v1 v2 v3 v4 v5 s.1 s.2) m (v6, σ) = some out → XJ shM 21 8 rm_X7_findBest G K out [(0, .ref (gad G 0)), (1, .int v1), (2, .int v2), (3, .int v3), (4, .int v4), (5, .int v5)] 170 [] → XJ shM 21 8 rm_X7_findBest G K σ [(0, .ref (gad G 0)), (1, .int v1), (2, .int v2), (3, .int v3), (4, .int v4), (5, .int v5), (6, .int v6)] 71 [] := by
  intro m
  induction m with
  | zero => intro v6 σ out hf; exact (loopN_0 hf).elim
  | succ m ih =>
    intro v6 σ out hf hk
    obtain ⟨q, hf, h2⟩ := loopN_s hf
    have hf : g_X7_findBest_71 v1 v2 v3 v4 v5 v6 σ = some q := hf
    unfold g_X7_findBest_71 at hf
    refine x_iload 6 (pc := 71) E dX7_findBest_71 rfl ?_
    refine x_if_le (y := 0) (pc := 73) (tgt := 170) E dX7_findBest_73 (by decide) hf (fun hf => ?_) (fun hf => ?_)
    · obtain rfl := Option.some.inj hf
      obtain rfl := lpk_r h2
      exact x_sub [0, 1, 2, 3, 4, 5] rfl hk
    · refine x_aload_n 0 (pc := 76) (i := 0) E dX7_findBest_76 rfl rfl ?_
      refine x_getR (pc := 77) (r := 12) (p := 14) E rfl (Nat.le_of_ble_eq_true rfl) rfl inlX7 (by decide) rfl wq_110 dX7_findBest_77 ?_
      refine x_iload 6 (pc := 80) E dX7_findBest_80 rfl ?_
      refine x_iaload (pc := 82) E rfl (Nat.le_of_ble_eq_true rfl) dX7_findBest_82 hf (fun hf => ?_)
      refine x_aload_n 0 (pc := 83) (i := 0) E dX7_findBest_83 rfl rfl ?_
      refine x_callVri (pc := 84) (na := 0) (As := []) E (c_X7_needed G σ) rfl (Nat.le_of_ble_eq_true rfl) rfl wq_348 wq_5 wq_345 wq_346 wq_347 rfl rfl (by decide) ⟨Nat.le_of_ble_eq_true rfl, Nat.le_of_ble_eq_true rfl⟩ rfl rfl (Nat.le_of_ble_eq_true rfl) dX7_findBest_84 hf (fun r5 hf => ?_)
      refine x_iload 4 (pc := 87) E dX7_findBest_87 rfl ?_
      refine x_iadd (pc := 89) E dX7_findBest_89 ?_
      obtain ⟨o8, hf10, hf⟩ := bind_some hf
      have hJ9 : XJ shM 21 8 rm_X7_findBest G K o8 [(0, .ref (gad G 0)), (1, .int v1), (2, .int v2), (3, .int v3), (4, .int v4), (5, .int v5), (6, .int v6)] 159 [] := by
        refine x_iload 6 (pc := 159) E dX7_findBest_159 rfl ?_
        refine x_iconst (pc := 161) (v := (1 : Int32)) E dX7_findBest_161 rfl ?_
        refine x_isub (pc := 162) E dX7_findBest_162 ?_
        refine x_iload_n 1 (pc := 163) (i := 1) E dX7_findBest_163 rfl rfl ?_
        refine x_iand (pc := 164) E dX7_findBest_164 ?_
        refine x_istore (pc := 165) (lv' := [(6, .int ((v6 - (1 : Int32)) &&& v1)), (0, .ref (gad G 0)), (1, .int v1), (2, .int v2), (3, .int v3), (4, .int v4), (5, .int v5)]) E dX7_findBest_165 (by decide) rfl ?_
        refine x_goto (pc := 167) (tgt := 71) E dX7_findBest_167 (by decide) ?_
        obtain rfl := Option.some.inj hf
        exact x_sub [1, 2, 3, 4, 5, 6, 0] rfl (ih _ _ _ (lpk_l h2) hk)
      refine x_icmp_eq (pc := 90) (tgt := 96) E dX7_findBest_90 (by decide) hf10 (fun hf10 => ?_) (fun hf10 => ?_)
      · refine x_iconst (pc := 96) (v := (0 : Int32)) E dX7_findBest_96 rfl ?_
        refine x_istore (pc := 97) (lv' := [(7, .int (0 : Int32)), (0, .ref (gad G 0)), (1, .int v1), (2, .int v2), (3, .int v3), (4, .int v4), (5, .int v5), (6, .int v6)]) E dX7_findBest_97 (by decide) rfl ?_
        obtain ⟨o17, hl18, hf10⟩ := bind_some hf10
        refine x_sub [1, 2, 3, 4, 5, 6, 7, 0] rfl (l_X7_findBest_99 G   v1 v2 v3 v4 v5 v6 E FU _ _ o17 hl18 ?_)
        obtain rfl := Option.some.inj hf10
        exact x_sub [0, 1, 2, 3, 4, 5, 6] rfl hJ9
      · refine x_goto (pc := 93) (tgt := 159) E dX7_findBest_93 (by decide) ?_
        obtain rfl := Option.some.inj hf10
        exact x_sub [0, 1, 2, 3, 4, 5, 6] rfl hJ9
set_option maxHeartbeats 4000000 in
set_option maxRecDepth 100000 in
theorem l_X7_findBest_43 (G : Gx) {K : Kx}   (v1 : Int32) (v2 : Int32) (v3 : Int32) (v4 : Int32) (E : OKc 21 cX7_findBest 8 RX7 G K) : ∀ (m : Nat) (v5 : Int32) (σ : MM) (out : MM), loopN (fun s => g_X7_findBest_43 v1 v2 v3 v4 s.1 s.2) m (v5, σ) = some out → XJ shM 21 8 rm_X7_findBest G K out [(0, .ref (gad G 0)), (1, .int v1), (2, .int v2), (3, .int v3), (4, .int v4)] 176 [] → XJ shM 21 8 rm_X7_findBest G K σ [(0, .ref (gad G 0)), (1, .int v1), (2, .int v2), (3, .int v3), (4, .int v4), (5, .int v5)] 43 [] := by
  intro m
  induction m with
  | zero => intro v5 σ out hf; exact (loopN_0 hf).elim
  | succ m ih =>
    intro v5 σ out hf hk
    obtain ⟨q, hf, h2⟩ := loopN_s hf
    have hf : g_X7_findBest_43 v1 v2 v3 v4 v5 σ = some q := hf
    unfold g_X7_findBest_43 at hf
    refine x_iload 5 (pc := 43) E dX7_findBest_43 rfl ?_
    refine x_iload_n 2 (pc := 45) (i := 2) E dX7_findBest_45 rfl rfl ?_
    refine x_icmp_gt (pc := 46) (tgt := 176) E dX7_findBest_46 (by decide) hf (fun hf => ?_) (fun hf => ?_)
    · obtain rfl := Option.some.inj hf
      obtain rfl := lpk_r h2
      exact x_sub [0, 1, 2, 3, 4] rfl hk
    · refine x_iload 5 (pc := 49) E dX7_findBest_49 rfl ?_
      refine x_iload 4 (pc := 51) E dX7_findBest_51 rfl ?_
      refine x_icmp_gt (pc := 53) (tgt := 176) E dX7_findBest_53 (by decide) hf (fun hf => ?_) (fun hf => ?_)
      · obtain rfl := Option.some.inj hf
        obtain rfl := lpk_r h2
        exact x_sub [0, 1, 2, 3, 4] rfl hk
      · refine x_iload 4 (pc := 56) E dX7_findBest_56 rfl ?_
        refine x_iload 5 (pc := 58) E dX7_findBest_58 rfl ?_
        refine x_isub (pc := 60) E dX7_findBest_60 ?_
        refine x_iload_n 3 (pc := 61) (i := 3) E dX7_findBest_61 rfl rfl ?_
        refine x_icmp_le (pc := 62) (tgt := 68) E dX7_findBest_62 (by decide) hf (fun hf => ?_) (fun hf => ?_)
        · refine x_iload_n 1 (pc := 68) (i := 1) E dX7_findBest_68 rfl rfl ?_
          refine x_istore (pc := 69) (lv' := [(6, .int v1), (0, .ref (gad G 0)), (1, .int v1), (2, .int v2), (3, .int v3), (4, .int v4), (5, .int v5)]) E dX7_findBest_69 (by decide) rfl ?_
          obtain ⟨o19, hl20, hf⟩ := bind_some hf
          refine x_sub [1, 2, 3, 4, 5, 6, 0] rfl (l_X7_findBest_71 G   v1 v2 v3 v4 v5 E FU _ _ o19 hl20 ?_)
          refine x_iinc 5 (pc := 170) (v := v5 + 1) (lv' := [(5, .int (v5 + 1)), (0, .ref (gad G 0)), (1, .int v1), (2, .int v2), (3, .int v3), (4, .int v4)]) E dX7_findBest_170 rfl rfl (by decide) rfl ?_
          refine x_goto (pc := 173) (tgt := 43) E dX7_findBest_173 (by decide) ?_
          obtain rfl := Option.some.inj hf
          exact x_sub [1, 2, 3, 4, 5, 0] rfl (ih _ _ _ (lpk_l h2) hk)
        · refine x_goto (pc := 65) (tgt := 170) E dX7_findBest_65 (by decide) ?_
          refine x_iinc 5 (pc := 170) (v := v5 + 1) (lv' := [(5, .int (v5 + 1)), (0, .ref (gad G 0)), (1, .int v1), (2, .int v2), (3, .int v3), (4, .int v4)]) E dX7_findBest_170 rfl rfl (by decide) rfl ?_
          refine x_goto (pc := 173) (tgt := 43) E dX7_findBest_173 (by decide) ?_
          obtain rfl := Option.some.inj hf
          exact x_sub [1, 2, 3, 4, 5, 0] rfl (ih _ _ _ (lpk_l h2) hk)
set_option maxHeartbeats 4000000 in
set_option maxRecDepth 100000 in
theorem l_X7_findBest_32 (G : Gx) {K : Kx}   (v1 : Int32) (v2 : Int32) (v3 : Int32) (E : OKc 21 cX7_findBest 8 RX7 G K) : ∀ (m : Nat) (v4 : Int32) (σ : MM) (out : MM), loopN (fun s => g_X7_findBest_32 v1 v2 v3 s.1 s.2) m (v4, σ) = some out → XJ shM 21 8 rm_X7_findBest G K out [] 182 [] → XJ shM 21 8 rm_X7_findBest G K σ [(0, .ref (gad G 0)), (1, .int v1), (2, .int v2), (3, .int v3), (4, .int v4)] 32 [] := by
  intro m
  induction m with
  | zero => intro v4 σ out hf; exact (loopN_0 hf).elim
  | succ m ih =>
    intro v4 σ out hf hk
    obtain ⟨q, hf, h2⟩ := loopN_s hf
    have hf : g_X7_findBest_32 v1 v2 v3 v4 σ = some q := hf
    unfold g_X7_findBest_32 at hf
    refine x_iload 4 (pc := 32) E dX7_findBest_32 rfl ?_
    refine x_iload_n 2 (pc := 34) (i := 2) E dX7_findBest_34 rfl rfl ?_
    refine x_iload_n 3 (pc := 35) (i := 3) E dX7_findBest_35 rfl rfl ?_
    refine x_iadd (pc := 36) E dX7_findBest_36 ?_
    refine x_icmp_gt (pc := 37) (tgt := 182) E dX7_findBest_37 (by decide) hf (fun hf => ?_) (fun hf => ?_)
    · obtain rfl := Option.some.inj hf
      obtain rfl := lpk_r h2
      exact x_sub [] rfl hk
    · refine x_iconst (pc := 40) (v := (0 : Int32)) E dX7_findBest_40 rfl ?_
      refine x_istore (pc := 41) (lv' := [(5, .int (0 : Int32)), (0, .ref (gad G 0)), (1, .int v1), (2, .int v2), (3, .int v3), (4, .int v4)]) E dX7_findBest_41 (by decide) rfl ?_
      obtain ⟨o21, hl22, hf⟩ := bind_some hf
      refine x_sub [1, 2, 3, 4, 5, 0] rfl (l_X7_findBest_43 G   v1 v2 v3 v4 E FU _ _ o21 hl22 ?_)
      refine x_iinc 4 (pc := 176) (v := v4 + 1) (lv' := [(4, .int (v4 + 1)), (0, .ref (gad G 0)), (1, .int v1), (2, .int v2), (3, .int v3)]) E dX7_findBest_176 rfl rfl (by decide) rfl ?_
      refine x_goto (pc := 179) (tgt := 32) E dX7_findBest_179 (by decide) ?_
      obtain rfl := Option.some.inj hf
      exact x_sub [1, 2, 3, 4, 0] rfl (ih _ _ _ (lpk_l h2) hk)
set_option maxHeartbeats 4000000 in
set_option maxRecDepth 100000 in
theorem c_X7_findBest (G : Gx) (v1 : Int32) (v2 : Int32) (v3 : Int32) (σ : MM) (σ' : MM) (hf : f_X7_findBest v1 v2 v3 σ = some σ') : Ct shM 21 yX7_findBest cX7_findBest 8 none rm_X7_findBest G [.ref (gad G 0), .int v1, .int v2, .int v3] σ none σ' := by
  refine ct_of (by decide) (Nat.le_of_ble_eq_true rfl) (fun K E hR => ?_)
  have E : OKc 21 cX7_findBest 8 RX7 G K := E
  show XJ shM 21 8 rm_X7_findBest G K σ [(0, .ref (gad G 0)), (1, .int v1), (2, .int v2), (3, .int v3)] 0 []
  unfold f_X7_findBest at hf
  refine x_iconst (pc := 0) (v := (0 : Int32)) E dX7_findBest_0 rfl ?_
  refine x_istore (pc := 1) (lv' := [(4, .int (0 : Int32)), (0, .ref (gad G 0)), (1, .int v1), (2, .int v2), (3, .int v3)]) E dX7_findBest_1 (by decide) rfl ?_
  obtain ⟨o3, hl4, hf⟩ := bind_some hf
  refine x_sub [1, 2, 3, 4, 0] rfl (l_X7_findBest_3 G   v1 v2 v3 E FU _ _ o3 hl4 ?_)
  refine x_iconst (pc := 29) (v := (0 : Int32)) E dX7_findBest_29 rfl ?_
  refine x_istore (pc := 30) (lv' := [(4, .int (0 : Int32)), (0, .ref (gad G 0)), (1, .int v1), (2, .int v2), (3, .int v3)]) E dX7_findBest_30 (by decide) rfl ?_
  obtain ⟨o23, hl24, hf⟩ := bind_some hf
  refine x_sub [1, 2, 3, 4, 0] rfl (l_X7_findBest_32 G   v1 v2 v3 E FU _ _ o23 hl24 ?_)
  obtain rfl := Option.some.inj hf
  exact x_vret (pc := 182) E hR dX7_findBest_182
set_option maxHeartbeats 4000000 in
set_option maxRecDepth 100000 in
theorem l_X7_strikeOf_11 (G : Gx) {K : Kx}   (v1 : Int32) (v2 : Int32) (v3 : Int32) (v4 : Int32) (v5 : Int32) (σ : MM) (r : Int32) (hR : RetX shM 21 (some .int) G K (some (.int r)) σ) (E : OKc 21 cX7_strikeOf 7 RX7 G K) : ∀ (m : Nat) (v6 : Int32), loopN (fun s => g_X7_strikeOf_11 v1 v2 v3 v4 v5 s σ) m (v6) = some r → XJ shM 21 7 rm_X7_strikeOf G K σ [(0, .ref (gad G 0)), (1, .int v1), (2, .int v2), (3, .int v3), (4, .int v4), (5, .int v5), (6, .int v6)] 11 [] := by
  intro m
  induction m with
  | zero => intro v6 hf; exact (loopN_0 hf).elim
  | succ m ih =>
    intro v6 hf
    obtain ⟨q, hf, h2⟩ := loopN_s hf
    have hf : g_X7_strikeOf_11 v1 v2 v3 v4 v5 v6 σ = some q := hf
    unfold g_X7_strikeOf_11 at hf
    refine x_iload 6 (pc := 11) E dX7_strikeOf_11 rfl ?_
    refine x_bipush (pc := 13) (v := (12 : Int32)) E dX7_strikeOf_13 rfl ?_
    refine x_icmp_ge (pc := 15) (tgt := 67) E dX7_strikeOf_15 (by decide) hf (fun hf => ?_) (fun hf => ?_)
    · refine x_bipush (pc := 67) (v := (-9 : Int32)) E dX7_strikeOf_67 rfl ?_
      obtain rfl := Option.some.inj hf
      obtain rfl := lpk_r h2
      exact x_iret (pc := 69) E hR dX7_strikeOf_69
    · refine x_iload 4 (pc := 18) E dX7_strikeOf_18 rfl ?_
      refine x_iload 6 (pc := 20) E dX7_strikeOf_20 rfl ?_
      refine x_ishr (pc := 22) E dX7_strikeOf_22 ?_
      refine x_iconst (pc := 23) (v := (1 : Int32)) E dX7_strikeOf_23 rfl ?_
      refine x_iand (pc := 24) E dX7_strikeOf_24 ?_
      refine x_iconst (pc := 25) (v := (1 : Int32)) E dX7_strikeOf_25 rfl ?_
      refine x_icmp_ne (pc := 26) (tgt := 61) E dX7_strikeOf_26 (by decide) hf (fun hf => ?_) (fun hf => ?_)
      · refine x_iinc 6 (pc := 61) (v := v6 + 1) (lv' := [(6, .int (v6 + 1)), (0, .ref (gad G 0)), (1, .int v1), (2, .int v2), (3, .int v3), (4, .int v4), (5, .int v5)]) E dX7_strikeOf_61 rfl rfl (by decide) rfl ?_
        refine x_goto (pc := 64) (tgt := 11) E dX7_strikeOf_64 (by decide) ?_
        obtain rfl := Option.some.inj hf
        exact x_sub [1, 2, 3, 4, 5, 6, 0] rfl (ih _ (lpk_l h2))
      · refine x_aload_n 0 (pc := 29) (i := 0) E dX7_strikeOf_29 rfl rfl ?_
        refine x_iload_n 1 (pc := 30) (i := 1) E dX7_strikeOf_30 rfl rfl ?_
        refine x_iload_n 2 (pc := 31) (i := 2) E dX7_strikeOf_31 rfl rfl ?_
        refine x_iload 5 (pc := 32) E dX7_strikeOf_32 rfl ?_
        refine x_iload 4 (pc := 34) E dX7_strikeOf_34 rfl ?_
        refine x_iload 6 (pc := 36) E dX7_strikeOf_36 rfl ?_
        refine x_callVrl (pc := 38) (na := 5) (As := [.int v1, .int v2, .int v5, .int v4, .int v6]) E (c_X7_behind G v1 v2 v5 v4 v6 σ) rfl (Nat.le_of_ble_eq_true rfl) rfl wq_466 wq_5 wq_463 wq_464 wq_465 rfl rfl (by decide) ⟨Nat.le_of_ble_eq_true rfl, Nat.le_of_ble_eq_true rfl⟩ rfl rfl (Nat.le_of_ble_eq_true rfl) dX7_strikeOf_38 hf (fun r2 hf => ?_)
        refine x_aload_n 0 (pc := 41) (i := 0) E dX7_strikeOf_41 rfl rfl ?_
        refine x_getR (pc := 42) (r := 11) (p := 13) E rfl (Nat.le_of_ble_eq_true rfl) rfl inlX7 (by decide) rfl wq_109 dX7_strikeOf_42 ?_
        refine x_iload_n 1 (pc := 45) (i := 1) E dX7_strikeOf_45 rfl rfl ?_
        refine x_iload_n 2 (pc := 46) (i := 2) E dX7_strikeOf_46 rfl rfl ?_
        refine x_iload_n 3 (pc := 47) (i := 3) E dX7_strikeOf_47 rfl rfl ?_
        refine x_iload 4 (pc := 48) E dX7_strikeOf_48 rfl ?_
        refine x_callSri (pc := 50) (na := 4) (As := [.int v1, .int v2, .int v3, .int v4]) E (c_X7_index G v1 v2 v3 v4 σ) wq_455 wq_5 wq_453 wq_454 rfl rfl (by decide) ⟨Nat.le_of_ble_eq_true rfl, Nat.le_of_ble_eq_true rfl⟩ rfl rfl (Nat.le_of_ble_eq_true rfl) dX7_strikeOf_50 hf (fun r3 hf => ?_)
        refine x_laload (pc := 53) E rfl (Nat.le_of_ble_eq_true rfl) dX7_strikeOf_53 hf (fun hf => ?_)
        refine x_lcmp_ne (pc := 54) (tgt := 61) E dX7_strikeOf_54 dX7_strikeOf_55 (by decide) hf (fun hf => ?_) (fun hf => ?_)
        · refine x_iinc 6 (pc := 61) (v := v6 + 1) (lv' := [(6, .int (v6 + 1)), (0, .ref (gad G 0)), (1, .int v1), (2, .int v2), (3, .int v3), (4, .int v4), (5, .int v5)]) E dX7_strikeOf_61 rfl rfl (by decide) rfl ?_
          refine x_goto (pc := 64) (tgt := 11) E dX7_strikeOf_64 (by decide) ?_
          obtain rfl := Option.some.inj hf
          exact x_sub [1, 2, 3, 4, 5, 6, 0] rfl (ih _ (lpk_l h2))
        · refine x_iload 6 (pc := 58) E dX7_strikeOf_58 rfl ?_
          obtain rfl := Option.some.inj hf
          obtain rfl := lpk_r h2
          exact x_iret (pc := 60) E hR dX7_strikeOf_60
set_option maxHeartbeats 4000000 in
set_option maxRecDepth 100000 in
theorem c_X7_strikeOf (G : Gx) (v1 : Int32) (v2 : Int32) (v3 : Int32) (v4 : Int32) (σ : MM) (r : Int32) (hf : f_X7_strikeOf v1 v2 v3 v4 σ = some r) : Ct shM 21 yX7_strikeOf cX7_strikeOf 7 (some .int) rm_X7_strikeOf G [.ref (gad G 0), .int v1, .int v2, .int v3, .int v4] σ (some (.int r)) σ := by
  refine ct_of (by decide) (Nat.le_of_ble_eq_true rfl) (fun K E hR => ?_)
  have E : OKc 21 cX7_strikeOf 7 RX7 G K := E
  show XJ shM 21 7 rm_X7_strikeOf G K σ [(0, .ref (gad G 0)), (1, .int v1), (2, .int v2), (3, .int v3), (4, .int v4)] 0 []
  unfold f_X7_strikeOf at hf
  refine x_iload_n 1 (pc := 0) (i := 1) E dX7_strikeOf_0 rfl rfl ?_
  refine x_iload_n 2 (pc := 1) (i := 2) E dX7_strikeOf_1 rfl rfl ?_
  refine x_iload_n 3 (pc := 2) (i := 3) E dX7_strikeOf_2 rfl rfl ?_
  refine x_callSri (pc := 3) (na := 3) (As := [.int v1, .int v2, .int v3]) E (c_X7_mover G v1 v2 v3 σ) wq_462 wq_5 wq_460 wq_461 rfl rfl (by decide) ⟨Nat.le_of_ble_eq_true rfl, Nat.le_of_ble_eq_true rfl⟩ rfl rfl (Nat.le_of_ble_eq_true rfl) dX7_strikeOf_3 hf (fun r1 hf => ?_)
  refine x_istore (pc := 6) (lv' := [(5, .int r1), (0, .ref (gad G 0)), (1, .int v1), (2, .int v2), (3, .int v3), (4, .int v4)]) E dX7_strikeOf_6 (by decide) rfl ?_
  refine x_iconst (pc := 8) (v := (0 : Int32)) E dX7_strikeOf_8 rfl ?_
  refine x_istore (pc := 9) (lv' := [(6, .int (0 : Int32)), (5, .int r1), (0, .ref (gad G 0)), (1, .int v1), (2, .int v2), (3, .int v3), (4, .int v4)]) E dX7_strikeOf_9 (by decide) rfl ?_
  exact x_sub [2, 3, 4, 5, 6, 1, 0] rfl (l_X7_strikeOf_11 G   v1 v2 v3 v4 r1 σ r hR E FU _ hf)
set_option maxHeartbeats 4000000 in
set_option maxRecDepth 100000 in
theorem c_X7_notLeft (G : Gx) (v1 : Int32) (v2 : Int32) (v3 : Int32) (σ : MM) (r : Int32) (hf : f_X7_notLeft v1 v2 v3 σ = some r) : Ct shM 21 yX7_notLeft cX7_notLeft 4 (some .int) rm_X7_notLeft G [.ref (gad G 0), .int v1, .int v2, .int v3] σ (some (.int r)) σ := by
  refine ct_of (by decide) (Nat.le_of_ble_eq_true rfl) (fun K E hR => ?_)
  have E : OKc 21 cX7_notLeft 4 RX7 G K := E
  show XJ shM 21 4 rm_X7_notLeft G K σ [(0, .ref (gad G 0)), (1, .int v1), (2, .int v2), (3, .int v3)] 0 []
  unfold f_X7_notLeft at hf
  refine x_iload_n 3 (pc := 0) (i := 3) E dX7_notLeft_0 rfl rfl ?_
  refine x_iconst (pc := 1) (v := (0 : Int32)) E dX7_notLeft_1 rfl ?_
  refine x_iconst (pc := 2) (v := (1 : Int32)) E dX7_notLeft_2 rfl ?_
  refine x_callSri (pc := 3) (na := 3) (As := [.int v3, .int (0 : Int32), .int (1 : Int32)]) E (c_X7_isIn G v3 (0 : Int32) (1 : Int32) σ) wq_185 wq_5 wq_183 wq_184 rfl rfl (by decide) ⟨Nat.le_of_ble_eq_true rfl, Nat.le_of_ble_eq_true rfl⟩ rfl rfl (Nat.le_of_ble_eq_true rfl) dX7_notLeft_3 hf (fun r1 hf => ?_)
  refine x_if_eq (y := 0) (pc := 6) (tgt := 22) E dX7_notLeft_6 (by decide) hf (fun hf => ?_) (fun hf => ?_)
  · refine x_iconst (pc := 22) (v := (-1 : Int32)) E dX7_notLeft_22 rfl ?_
    obtain rfl := Option.some.inj hf
    exact x_iret (pc := 23) E hR dX7_notLeft_23
  · refine x_iload_n 1 (pc := 9) (i := 1) E dX7_notLeft_9 rfl rfl ?_
    refine x_if_lt (y := 0) (pc := 10) (tgt := 22) E dX7_notLeft_10 (by decide) hf (fun hf => ?_) (fun hf => ?_)
    · refine x_iconst (pc := 22) (v := (-1 : Int32)) E dX7_notLeft_22 rfl ?_
      obtain rfl := Option.some.inj hf
      exact x_iret (pc := 23) E hR dX7_notLeft_23
    · refine x_iload_n 1 (pc := 13) (i := 1) E dX7_notLeft_13 rfl rfl ?_
      refine x_aload_n 0 (pc := 14) (i := 0) E dX7_notLeft_14 rfl rfl ?_
      refine x_getI (pc := 15) (p := 6) E rfl (Nat.le_of_ble_eq_true rfl) rfl inlX7 (by decide) rfl wq_164 dX7_notLeft_15 ?_
      refine x_ishr (pc := 18) E dX7_notLeft_18 ?_
      refine x_if_eq (y := 0) (pc := 19) (tgt := 24) E dX7_notLeft_19 (by decide) hf (fun hf => ?_) (fun hf => ?_)
      · refine x_iload_n 2 (pc := 24) (i := 2) E dX7_notLeft_24 rfl rfl ?_
        refine x_if_ge (y := 0) (pc := 25) (tgt := 31) E dX7_notLeft_25 (by decide) hf (fun hf => ?_) (fun hf => ?_)
        · refine x_iload_n 2 (pc := 31) (i := 2) E dX7_notLeft_31 rfl rfl ?_
          refine x_bipush (pc := 32) (v := (10 : Int32)) E dX7_notLeft_32 rfl ?_
          refine x_idiv (pc := 34) E dX7_notLeft_34 hf (fun hf => ?_)
          refine x_iconst (pc := 35) (v := (3 : Int32)) E dX7_notLeft_35 rfl ?_
          refine x_icmp_gt (pc := 36) (tgt := 47) E dX7_notLeft_36 (by decide) hf (fun hf => ?_) (fun hf => ?_)
          · refine x_bipush (pc := 47) (v := (-6 : Int32)) E dX7_notLeft_47 rfl ?_
            obtain rfl := Option.some.inj hf
            exact x_iret (pc := 49) E hR dX7_notLeft_49
          · refine x_iload_n 2 (pc := 39) (i := 2) E dX7_notLeft_39 rfl rfl ?_
            refine x_bipush (pc := 40) (v := (10 : Int32)) E dX7_notLeft_40 rfl ?_
            refine x_irem (pc := 42) E dX7_notLeft_42 hf (fun hf => ?_)
            refine x_iconst (pc := 43) (v := (3 : Int32)) E dX7_notLeft_43 rfl ?_
            refine x_icmp_le (pc := 44) (tgt := 50) E dX7_notLeft_44 (by decide) hf (fun hf => ?_) (fun hf => ?_)
            · refine x_iload_n 1 (pc := 50) (i := 1) E dX7_notLeft_50 rfl rfl ?_
              refine x_callSri (pc := 51) (na := 1) (As := [.int v1]) E (c_X7_bits G v1 σ) wq_344 wq_5 wq_342 wq_343 rfl rfl (by decide) ⟨Nat.le_of_ble_eq_true rfl, Nat.le_of_ble_eq_true rfl⟩ rfl rfl (Nat.le_of_ble_eq_true rfl) dX7_notLeft_51 hf (fun r2 hf => ?_)
              refine x_aload_n 0 (pc := 54) (i := 0) E dX7_notLeft_54 rfl rfl ?_
              refine x_callVri (pc := 55) (na := 0) (As := []) E (c_X7_needed G σ) rfl (Nat.le_of_ble_eq_true rfl) rfl wq_348 wq_5 wq_345 wq_346 wq_347 rfl rfl (by decide) ⟨Nat.le_of_ble_eq_true rfl, Nat.le_of_ble_eq_true rfl⟩ rfl rfl (Nat.le_of_ble_eq_true rfl) dX7_notLeft_55 hf (fun r3 hf => ?_)
              refine x_iload_n 2 (pc := 58) (i := 2) E dX7_notLeft_58 rfl rfl ?_
              refine x_bipush (pc := 59) (v := (10 : Int32)) E dX7_notLeft_59 rfl ?_
              refine x_idiv (pc := 61) E dX7_notLeft_61 hf (fun hf => ?_)
              refine x_iadd (pc := 62) E dX7_notLeft_62 ?_
              refine x_iload_n 2 (pc := 63) (i := 2) E dX7_notLeft_63 rfl rfl ?_
              refine x_bipush (pc := 64) (v := (10 : Int32)) E dX7_notLeft_64 rfl ?_
              refine x_irem (pc := 66) E dX7_notLeft_66 hf (fun hf => ?_)
              refine x_iadd (pc := 67) E dX7_notLeft_67 ?_
              refine x_icmp_eq (pc := 68) (tgt := 76) E dX7_notLeft_68 (by decide) hf (fun hf => ?_) (fun hf => ?_)
              · refine x_iconst (pc := 76) (v := (0 : Int32)) E dX7_notLeft_76 rfl ?_
                obtain rfl := Option.some.inj hf
                exact x_iret (pc := 77) E hR dX7_notLeft_77
              · refine x_bipush (pc := 71) (v := (-3 : Int32)) E dX7_notLeft_71 rfl ?_
                refine x_goto (pc := 73) (tgt := 77) E dX7_notLeft_73 (by decide) ?_
                obtain rfl := Option.some.inj hf
                exact x_iret (pc := 77) E hR dX7_notLeft_77
            · refine x_bipush (pc := 47) (v := (-6 : Int32)) E dX7_notLeft_47 rfl ?_
              obtain rfl := Option.some.inj hf
              exact x_iret (pc := 49) E hR dX7_notLeft_49
        · refine x_bipush (pc := 28) (v := (-4 : Int32)) E dX7_notLeft_28 rfl ?_
          obtain rfl := Option.some.inj hf
          exact x_iret (pc := 30) E hR dX7_notLeft_30
      · refine x_iconst (pc := 22) (v := (-1 : Int32)) E dX7_notLeft_22 rfl ?_
        obtain rfl := Option.some.inj hf
        exact x_iret (pc := 23) E hR dX7_notLeft_23
set_option maxHeartbeats 4000000 in
set_option maxRecDepth 100000 in
theorem c_X7_best (G : Gx) (v1 : Int32) (v2 : Int32) (v3 : Int32) (σ : MM) (r : Int64) (σ' : MM) (hf : f_X7_best v1 v2 v3 σ = some (r, σ')) : Ct shM 21 yX7_best cX7_best 5 (some .long) rm_X7_best G [.ref (gad G 0), .int v1, .int v2, .int v3] σ (some (.long r)) σ' := by
  refine ct_of (by decide) (Nat.le_of_ble_eq_true rfl) (fun K E hR => ?_)
  have E : OKc 21 cX7_best 5 RX7 G K := E
  show XJ shM 21 5 rm_X7_best G K σ [(0, .ref (gad G 0)), (1, .int v1), (2, .int v2), (3, .int v3)] 0 []
  unfold f_X7_best at hf
  refine x_aload_n 0 (pc := 0) (i := 0) E dX7_best_0 rfl rfl ?_
  refine x_iload_n 1 (pc := 1) (i := 1) E dX7_best_1 rfl rfl ?_
  refine x_iload_n 2 (pc := 2) (i := 2) E dX7_best_2 rfl rfl ?_
  refine x_iload_n 3 (pc := 3) (i := 3) E dX7_best_3 rfl rfl ?_
  refine x_callVri (pc := 4) (na := 3) (As := [.int v1, .int v2, .int v3]) E (c_X7_notLeft G v1 v2 v3 σ) rfl (Nat.le_of_ble_eq_true rfl) rfl wq_448 wq_5 wq_445 wq_446 wq_447 rfl rfl (by decide) ⟨Nat.le_of_ble_eq_true rfl, Nat.le_of_ble_eq_true rfl⟩ rfl rfl (Nat.le_of_ble_eq_true rfl) dX7_best_4 hf (fun r1 hf => ?_)
  refine x_istore (pc := 7) (lv' := [(4, .int r1), (0, .ref (gad G 0)), (1, .int v1), (2, .int v2), (3, .int v3)]) E dX7_best_7 (by decide) rfl ?_
  refine x_iload 0 (pc := 9) E dX7_best_9 rfl ?_
  refine x_if_eq (y := 0) (pc := 11) (tgt := 21) E dX7_best_11 (by decide) hf (fun hf => ?_) (fun hf => ?_)
  · refine x_aload_n 1 (pc := 21) (i := 0) E dX7_best_21 rfl rfl ?_
    refine x_callVwv (pc := 22) (na := 0) (As := []) E (c_X7_holdsTrue G σ) rfl (Nat.le_of_ble_eq_true rfl) rfl wq_357 wq_5 wq_354 wq_355 wq_356 rfl rfl (by decide) ⟨Nat.le_of_ble_eq_true rfl, Nat.le_of_ble_eq_true rfl⟩ rfl rfl (Nat.le_of_ble_eq_true rfl) dX7_best_22 hf (fun σ3 hf => ?_)
    refine x_aload_n 1 (pc := 25) (i := 0) E dX7_best_25 rfl rfl ?_
    refine x_iload_n 2 (pc := 26) (i := 1) E dX7_best_26 rfl rfl ?_
    refine x_iload_n 3 (pc := 27) (i := 2) E dX7_best_27 rfl rfl ?_
    refine x_bipush (pc := 28) (v := (10 : Int32)) E dX7_best_28 rfl ?_
    refine x_idiv (pc := 30) E dX7_best_30 hf (fun hf => ?_)
    refine x_iload_n 3 (pc := 31) (i := 2) E dX7_best_31 rfl rfl ?_
    refine x_bipush (pc := 32) (v := (10 : Int32)) E dX7_best_32 rfl ?_
    refine x_irem (pc := 34) E dX7_best_34 hf (fun hf => ?_)
    refine x_callVwv (pc := 35) (na := 3) (As := [.int v1, .int (v2 / (10 : Int32)), .int (v2 - v2 / (10 : Int32) * (10 : Int32))]) E (c_X7_findBest G v1 (v2 / (10 : Int32)) (v2 - v2 / (10 : Int32) * (10 : Int32)) σ3) rfl (Nat.le_of_ble_eq_true rfl) rfl wq_452 wq_5 wq_449 wq_450 wq_451 rfl rfl (by decide) ⟨Nat.le_of_ble_eq_true rfl, Nat.le_of_ble_eq_true rfl⟩ rfl rfl (Nat.le_of_ble_eq_true rfl) dX7_best_35 hf (fun σ5 hf => ?_)
    refine x_aload_n 1 (pc := 38) (i := 0) E dX7_best_38 rfl rfl ?_
    refine x_getR (pc := 39) (r := 11) (p := 13) E rfl (Nat.le_of_ble_eq_true rfl) rfl inlX7 (by decide) rfl wq_109 dX7_best_39 ?_
    refine x_iload_n 3 (pc := 42) (i := 2) E dX7_best_42 rfl rfl ?_
    refine x_bipush (pc := 43) (v := (10 : Int32)) E dX7_best_43 rfl ?_
    refine x_idiv (pc := 45) E dX7_best_45 hf (fun hf => ?_)
    refine x_iload_n 3 (pc := 46) (i := 2) E dX7_best_46 rfl rfl ?_
    refine x_bipush (pc := 47) (v := (10 : Int32)) E dX7_best_47 rfl ?_
    refine x_irem (pc := 49) E dX7_best_49 hf (fun hf => ?_)
    refine x_iload_n 4 (pc := 50) (i := 3) E dX7_best_50 rfl rfl ?_
    refine x_iload_n 2 (pc := 51) (i := 1) E dX7_best_51 rfl rfl ?_
    refine x_callSri (pc := 52) (na := 4) (As := [.int (v2 / (10 : Int32)), .int (v2 - v2 / (10 : Int32) * (10 : Int32)), .int v3, .int v1]) E (c_X7_index G (v2 / (10 : Int32)) (v2 - v2 / (10 : Int32) * (10 : Int32)) v3 v1 σ5) wq_455 wq_5 wq_453 wq_454 rfl rfl (by decide) ⟨Nat.le_of_ble_eq_true rfl, Nat.le_of_ble_eq_true rfl⟩ rfl rfl (Nat.le_of_ble_eq_true rfl) dX7_best_52 hf (fun r6 hf => ?_)
    refine x_laload (pc := 55) E rfl (Nat.le_of_ble_eq_true rfl) dX7_best_55 hf (fun hf => ?_)
    obtain ⟨rfl, rfl⟩ := Prod.mk.inj (Option.some.inj hf)
    exact x_lret (pc := 56) E hR dX7_best_56
  · refine x_aload_n 1 (pc := 14) (i := 0) E dX7_best_14 rfl rfl ?_
    refine x_iload 0 (pc := 15) E dX7_best_15 rfl ?_
    refine x_callVwl (pc := 17) (na := 1) (As := [.int r1]) E (c_X7_noLong G r1 σ) rfl (Nat.le_of_ble_eq_true rfl) rfl wq_352 wq_5 wq_349 wq_350 wq_351 rfl rfl (by decide) ⟨Nat.le_of_ble_eq_true rfl, Nat.le_of_ble_eq_true rfl⟩ rfl rfl (Nat.le_of_ble_eq_true rfl) dX7_best_17 hf (fun r7 σ8 hf => ?_)
    obtain ⟨rfl, rfl⟩ := Prod.mk.inj (Option.some.inj hf)
    exact x_lret (pc := 20) E hR dX7_best_20
set_option maxHeartbeats 4000000 in
set_option maxRecDepth 100000 in
theorem c_X7_strike (G : Gx) (v1 : Int32) (v2 : Int32) (v3 : Int32) (σ : MM) (r : Int32) (σ' : MM) (hf : f_X7_strike v1 v2 v3 σ = some (r, σ')) : Ct shM 21 yX7_strike cX7_strike 5 (some .int) rm_X7_strike G [.ref (gad G 0), .int v1, .int v2, .int v3] σ (some (.int r)) σ' := by
  refine ct_of (by decide) (Nat.le_of_ble_eq_true rfl) (fun K E hR => ?_)
  have E : OKc 21 cX7_strike 5 RX7 G K := E
  show XJ shM 21 5 rm_X7_strike G K σ [(0, .ref (gad G 0)), (1, .int v1), (2, .int v2), (3, .int v3)] 0 []
  unfold f_X7_strike at hf
  refine x_aload_n 0 (pc := 0) (i := 0) E dX7_strike_0 rfl rfl ?_
  refine x_iload_n 1 (pc := 1) (i := 1) E dX7_strike_1 rfl rfl ?_
  refine x_iload_n 2 (pc := 2) (i := 2) E dX7_strike_2 rfl rfl ?_
  refine x_iload_n 3 (pc := 3) (i := 3) E dX7_strike_3 rfl rfl ?_
  refine x_callVri (pc := 4) (na := 3) (As := [.int v1, .int v2, .int v3]) E (c_X7_notLeft G v1 v2 v3 σ) rfl (Nat.le_of_ble_eq_true rfl) rfl wq_448 wq_5 wq_445 wq_446 wq_447 rfl rfl (by decide) ⟨Nat.le_of_ble_eq_true rfl, Nat.le_of_ble_eq_true rfl⟩ rfl rfl (Nat.le_of_ble_eq_true rfl) dX7_strike_4 hf (fun r1 hf => ?_)
  refine x_istore (pc := 7) (lv' := [(4, .int r1), (0, .ref (gad G 0)), (1, .int v1), (2, .int v2), (3, .int v3)]) E dX7_strike_7 (by decide) rfl ?_
  refine x_iload 0 (pc := 9) E dX7_strike_9 rfl ?_
  refine x_if_eq (y := 0) (pc := 11) (tgt := 21) E dX7_strike_11 (by decide) hf (fun hf => ?_) (fun hf => ?_)
  · refine x_iload_n 3 (pc := 21) (i := 2) E dX7_strike_21 rfl rfl ?_
    refine x_if_ne (y := 0) (pc := 22) (tgt := 28) E dX7_strike_22 (by decide) hf (fun hf => ?_) (fun hf => ?_)
    · refine x_aload_n 1 (pc := 28) (i := 0) E dX7_strike_28 rfl rfl ?_
      refine x_callVwv (pc := 29) (na := 0) (As := []) E (c_X7_holdsTrue G σ) rfl (Nat.le_of_ble_eq_true rfl) rfl wq_357 wq_5 wq_354 wq_355 wq_356 rfl rfl (by decide) ⟨Nat.le_of_ble_eq_true rfl, Nat.le_of_ble_eq_true rfl⟩ rfl rfl (Nat.le_of_ble_eq_true rfl) dX7_strike_29 hf (fun σ3 hf => ?_)
      refine x_aload_n 1 (pc := 32) (i := 0) E dX7_strike_32 rfl rfl ?_
      refine x_iload_n 2 (pc := 33) (i := 1) E dX7_strike_33 rfl rfl ?_
      refine x_iload_n 3 (pc := 34) (i := 2) E dX7_strike_34 rfl rfl ?_
      refine x_bipush (pc := 35) (v := (10 : Int32)) E dX7_strike_35 rfl ?_
      refine x_idiv (pc := 37) E dX7_strike_37 hf (fun hf => ?_)
      refine x_iload_n 3 (pc := 38) (i := 2) E dX7_strike_38 rfl rfl ?_
      refine x_bipush (pc := 39) (v := (10 : Int32)) E dX7_strike_39 rfl ?_
      refine x_irem (pc := 41) E dX7_strike_41 hf (fun hf => ?_)
      refine x_callVwv (pc := 42) (na := 3) (As := [.int v1, .int (v2 / (10 : Int32)), .int (v2 - v2 / (10 : Int32) * (10 : Int32))]) E (c_X7_findBest G v1 (v2 / (10 : Int32)) (v2 - v2 / (10 : Int32) * (10 : Int32)) σ3) rfl (Nat.le_of_ble_eq_true rfl) rfl wq_452 wq_5 wq_449 wq_450 wq_451 rfl rfl (by decide) ⟨Nat.le_of_ble_eq_true rfl, Nat.le_of_ble_eq_true rfl⟩ rfl rfl (Nat.le_of_ble_eq_true rfl) dX7_strike_42 hf (fun σ5 hf => ?_)
      refine x_aload_n 1 (pc := 45) (i := 0) E dX7_strike_45 rfl rfl ?_
      refine x_iload_n 3 (pc := 46) (i := 2) E dX7_strike_46 rfl rfl ?_
      refine x_bipush (pc := 47) (v := (10 : Int32)) E dX7_strike_47 rfl ?_
      refine x_idiv (pc := 49) E dX7_strike_49 hf (fun hf => ?_)
      refine x_iload_n 3 (pc := 50) (i := 2) E dX7_strike_50 rfl rfl ?_
      refine x_bipush (pc := 51) (v := (10 : Int32)) E dX7_strike_51 rfl ?_
      refine x_irem (pc := 53) E dX7_strike_53 hf (fun hf => ?_)
      refine x_iload_n 4 (pc := 54) (i := 3) E dX7_strike_54 rfl rfl ?_
      refine x_iload_n 2 (pc := 55) (i := 1) E dX7_strike_55 rfl rfl ?_
      refine x_callVri (pc := 56) (na := 4) (As := [.int (v2 / (10 : Int32)), .int (v2 - v2 / (10 : Int32) * (10 : Int32)), .int v3, .int v1]) E (c_X7_strikeOf G (v2 / (10 : Int32)) (v2 - v2 / (10 : Int32) * (10 : Int32)) v3 v1 σ5) rfl (Nat.le_of_ble_eq_true rfl) rfl wq_481 wq_5 wq_478 wq_479 wq_480 rfl rfl (by decide) ⟨Nat.le_of_ble_eq_true rfl, Nat.le_of_ble_eq_true rfl⟩ rfl rfl (Nat.le_of_ble_eq_true rfl) dX7_strike_56 hf (fun r6 hf => ?_)
      obtain ⟨rfl, rfl⟩ := Prod.mk.inj (Option.some.inj hf)
      exact x_iret (pc := 59) E hR dX7_strike_59
    · refine x_bipush (pc := 25) (v := (-9 : Int32)) E dX7_strike_25 rfl ?_
      obtain ⟨rfl, rfl⟩ := Prod.mk.inj (Option.some.inj hf)
      exact x_iret (pc := 27) E hR dX7_strike_27
  · refine x_aload_n 1 (pc := 14) (i := 0) E dX7_strike_14 rfl rfl ?_
    refine x_iload 0 (pc := 15) E dX7_strike_15 rfl ?_
    refine x_callVwi (pc := 17) (na := 1) (As := [.int r1]) E (c_X7_no G r1 σ) rfl (Nat.le_of_ble_eq_true rfl) rfl wq_151 wq_5 wq_148 wq_149 wq_150 rfl rfl (by decide) ⟨Nat.le_of_ble_eq_true rfl, Nat.le_of_ble_eq_true rfl⟩ rfl rfl (Nat.le_of_ble_eq_true rfl) dX7_strike_17 hf (fun r7 σ8 hf => ?_)
    obtain ⟨rfl, rfl⟩ := Prod.mk.inj (Option.some.inj hf)
    exact x_iret (pc := 20) E hR dX7_strike_20
set_option maxHeartbeats 4000000 in
set_option maxRecDepth 100000 in
theorem c_X7_turnsOf (G : Gx) (σ : MM) (r : Int64) (hf : f_X7_turnsOf σ = some r) : Ct shM 21 yX7_turnsOf cX7_turnsOf 1 (some .long) rm_X7_turnsOf G [.ref (gad G 0)] σ (some (.long r)) σ := by
  refine ct_of (by decide) (Nat.le_of_ble_eq_true rfl) (fun K E hR => ?_)
  have E : OKc 21 cX7_turnsOf 1 RX7 G K := E
  show XJ shM 21 1 rm_X7_turnsOf G K σ [(0, .ref (gad G 0))] 0 []
  unfold f_X7_turnsOf at hf
  refine x_aload_n 0 (pc := 0) (i := 0) E dX7_turnsOf_0 rfl rfl ?_
  refine x_getR (pc := 1) (r := 11) (p := 13) E rfl (Nat.le_of_ble_eq_true rfl) rfl inlX7 (by decide) rfl wq_109 dX7_turnsOf_1 ?_
  refine x_aload_n 0 (pc := 4) (i := 0) E dX7_turnsOf_4 rfl rfl ?_
  refine x_getR (pc := 5) (r := 4) (p := 3) E rfl (Nat.le_of_ble_eq_true rfl) rfl inlX7 (by decide) rfl wq_101 dX7_turnsOf_5 ?_
  refine x_iconst (pc := 8) (v := (1 : Int32)) E dX7_turnsOf_8 rfl ?_
  refine x_iaload (pc := 9) E rfl (Nat.le_of_ble_eq_true rfl) dX7_turnsOf_9 hf (fun hf => ?_)
  refine x_aload_n 0 (pc := 10) (i := 0) E dX7_turnsOf_10 rfl rfl ?_
  refine x_getR (pc := 11) (r := 4) (p := 3) E rfl (Nat.le_of_ble_eq_true rfl) rfl inlX7 (by decide) rfl wq_101 dX7_turnsOf_11 ?_
  refine x_iconst (pc := 14) (v := (2 : Int32)) E dX7_turnsOf_14 rfl ?_
  refine x_iaload (pc := 15) E rfl (Nat.le_of_ble_eq_true rfl) dX7_turnsOf_15 hf (fun hf => ?_)
  refine x_iconst (pc := 16) (v := (0 : Int32)) E dX7_turnsOf_16 rfl ?_
  refine x_aload_n 0 (pc := 17) (i := 0) E dX7_turnsOf_17 rfl rfl ?_
  refine x_callVri (pc := 18) (na := 0) (As := []) E (c_X7_called G σ) rfl (Nat.le_of_ble_eq_true rfl) rfl wq_528 wq_5 wq_525 wq_526 wq_527 rfl rfl (by decide) ⟨Nat.le_of_ble_eq_true rfl, Nat.le_of_ble_eq_true rfl⟩ rfl rfl (Nat.le_of_ble_eq_true rfl) dX7_turnsOf_18 hf (fun r1 hf => ?_)
  refine x_callSri (pc := 21) (na := 4) (As := [.int (σ.1 4 (1 : Int32).toNatClampNeg), .int (σ.1 4 (2 : Int32).toNatClampNeg), .int (0 : Int32), .int r1]) E (c_X7_index G (σ.1 4 (1 : Int32).toNatClampNeg) (σ.1 4 (2 : Int32).toNatClampNeg) (0 : Int32) r1 σ) wq_455 wq_5 wq_453 wq_454 rfl rfl (by decide) ⟨Nat.le_of_ble_eq_true rfl, Nat.le_of_ble_eq_true rfl⟩ rfl rfl (Nat.le_of_ble_eq_true rfl) dX7_turnsOf_21 hf (fun r2 hf => ?_)
  refine x_laload (pc := 24) E rfl (Nat.le_of_ble_eq_true rfl) dX7_turnsOf_24 hf (fun hf => ?_)
  obtain rfl := Option.some.inj hf
  exact x_lret (pc := 25) E hR dX7_turnsOf_25
set_option maxHeartbeats 4000000 in
set_option maxRecDepth 100000 in
theorem c_X7_findTurns (G : Gx) (σ : MM) (σ' : MM) (hf : f_X7_findTurns σ = some σ') : Ct shM 21 yX7_findTurns cX7_findTurns 1 none rm_X7_findTurns G [.ref (gad G 0)] σ none σ' := by
  refine ct_of (by decide) (Nat.le_of_ble_eq_true rfl) (fun K E hR => ?_)
  have E : OKc 21 cX7_findTurns 1 RX7 G K := E
  show XJ shM 21 1 rm_X7_findTurns G K σ [(0, .ref (gad G 0))] 0 []
  unfold f_X7_findTurns at hf
  refine x_aload_n 0 (pc := 0) (i := 0) E dX7_findTurns_0 rfl rfl ?_
  refine x_callVwv (pc := 1) (na := 0) (As := []) E (c_X7_holdsTrue G σ) rfl (Nat.le_of_ble_eq_true rfl) rfl wq_357 wq_5 wq_354 wq_355 wq_356 rfl rfl (by decide) ⟨Nat.le_of_ble_eq_true rfl, Nat.le_of_ble_eq_true rfl⟩ rfl rfl (Nat.le_of_ble_eq_true rfl) dX7_findTurns_1 hf (fun σ2 hf => ?_)
  refine x_aload_n 0 (pc := 4) (i := 0) E dX7_findTurns_4 rfl rfl ?_
  refine x_aload_n 0 (pc := 5) (i := 0) E dX7_findTurns_5 rfl rfl ?_
  refine x_callVri (pc := 6) (na := 0) (As := []) E (c_X7_called G σ2) rfl (Nat.le_of_ble_eq_true rfl) rfl wq_528 wq_5 wq_525 wq_526 wq_527 rfl rfl (by decide) ⟨Nat.le_of_ble_eq_true rfl, Nat.le_of_ble_eq_true rfl⟩ rfl rfl (Nat.le_of_ble_eq_true rfl) dX7_findTurns_6 hf (fun r3 hf => ?_)
  refine x_aload_n 0 (pc := 9) (i := 0) E dX7_findTurns_9 rfl rfl ?_
  refine x_getR (pc := 10) (r := 4) (p := 3) E rfl (Nat.le_of_ble_eq_true rfl) rfl inlX7 (by decide) rfl wq_101 dX7_findTurns_10 ?_
  refine x_iconst (pc := 13) (v := (1 : Int32)) E dX7_findTurns_13 rfl ?_
  refine x_iaload (pc := 14) E rfl (Nat.le_of_ble_eq_true rfl) dX7_findTurns_14 hf (fun hf => ?_)
  refine x_aload_n 0 (pc := 15) (i := 0) E dX7_findTurns_15 rfl rfl ?_
  refine x_getR (pc := 16) (r := 4) (p := 3) E rfl (Nat.le_of_ble_eq_true rfl) rfl inlX7 (by decide) rfl wq_101 dX7_findTurns_16 ?_
  refine x_iconst (pc := 19) (v := (2 : Int32)) E dX7_findTurns_19 rfl ?_
  refine x_iaload (pc := 20) E rfl (Nat.le_of_ble_eq_true rfl) dX7_findTurns_20 hf (fun hf => ?_)
  refine x_callVwv (pc := 21) (na := 3) (As := [.int r3, .int (σ2.1 4 (1 : Int32).toNatClampNeg), .int (σ2.1 4 (2 : Int32).toNatClampNeg)]) E (c_X7_findBest G r3 (σ2.1 4 (1 : Int32).toNatClampNeg) (σ2.1 4 (2 : Int32).toNatClampNeg) σ2) rfl (Nat.le_of_ble_eq_true rfl) rfl wq_452 wq_5 wq_449 wq_450 wq_451 rfl rfl (by decide) ⟨Nat.le_of_ble_eq_true rfl, Nat.le_of_ble_eq_true rfl⟩ rfl rfl (Nat.le_of_ble_eq_true rfl) dX7_findTurns_21 hf (fun σ5 hf => ?_)
  obtain rfl := Option.some.inj hf
  exact x_vret (pc := 24) E hR dX7_findTurns_24
set_option maxHeartbeats 4000000 in
set_option maxRecDepth 100000 in
theorem c_X7_turns (G : Gx) (σ : MM) (r : Int64) (σ' : MM) (hf : f_X7_turns σ = some (r, σ')) : Ct shM 21 yX7_turns cX7_turns 1 (some .long) rm_X7_turns G [.ref (gad G 0)] σ (some (.long r)) σ' := by
  refine ct_of (by decide) (Nat.le_of_ble_eq_true rfl) (fun K E hR => ?_)
  have E : OKc 21 cX7_turns 1 RX7 G K := E
  show XJ shM 21 1 rm_X7_turns G K σ [(0, .ref (gad G 0))] 0 []
  unfold f_X7_turns at hf
  refine x_aload_n 0 (pc := 0) (i := 0) E dX7_turns_0 rfl rfl ?_
  refine x_callVri (pc := 1) (na := 0) (As := []) E (c_X7_isEnough G σ) rfl (Nat.le_of_ble_eq_true rfl) rfl wq_516 wq_5 wq_513 wq_514 wq_515 rfl rfl (by decide) ⟨Nat.le_of_ble_eq_true rfl, Nat.le_of_ble_eq_true rfl⟩ rfl rfl (Nat.le_of_ble_eq_true rfl) dX7_turns_1 hf (fun r1 hf => ?_)
  refine x_if_ne (y := 0) (pc := 4) (tgt := 14) E dX7_turns_4 (by decide) hf (fun hf => ?_) (fun hf => ?_)
  · refine x_aload_n 0 (pc := 14) (i := 0) E dX7_turns_14 rfl rfl ?_
    refine x_callVwv (pc := 15) (na := 0) (As := []) E (c_X7_findTurns G σ) rfl (Nat.le_of_ble_eq_true rfl) rfl wq_524 wq_5 wq_521 wq_522 wq_523 rfl rfl (by decide) ⟨Nat.le_of_ble_eq_true rfl, Nat.le_of_ble_eq_true rfl⟩ rfl rfl (Nat.le_of_ble_eq_true rfl) dX7_turns_15 hf (fun σ3 hf => ?_)
    refine x_aload_n 0 (pc := 18) (i := 0) E dX7_turns_18 rfl rfl ?_
    refine x_callVrl (pc := 19) (na := 0) (As := []) E (c_X7_turnsOf G σ3) rfl (Nat.le_of_ble_eq_true rfl) rfl wq_532 wq_5 wq_529 wq_530 wq_531 rfl rfl (by decide) ⟨Nat.le_of_ble_eq_true rfl, Nat.le_of_ble_eq_true rfl⟩ rfl rfl (Nat.le_of_ble_eq_true rfl) dX7_turns_19 hf (fun r4 hf => ?_)
    obtain ⟨rfl, rfl⟩ := Prod.mk.inj (Option.some.inj hf)
    exact x_lret (pc := 22) E hR dX7_turns_22
  · refine x_aload_n 0 (pc := 7) (i := 0) E dX7_turns_7 rfl rfl ?_
    refine x_bipush (pc := 8) (v := (-3 : Int32)) E dX7_turns_8 rfl ?_
    refine x_callVwl (pc := 10) (na := 1) (As := [.int (-3 : Int32)]) E (c_X7_noLong G (-3 : Int32) σ) rfl (Nat.le_of_ble_eq_true rfl) rfl wq_352 wq_5 wq_349 wq_350 wq_351 rfl rfl (by decide) ⟨Nat.le_of_ble_eq_true rfl, Nat.le_of_ble_eq_true rfl⟩ rfl rfl (Nat.le_of_ble_eq_true rfl) dX7_turns_10 hf (fun r5 σ6 hf => ?_)
    obtain ⟨rfl, rfl⟩ := Prod.mk.inj (Option.some.inj hf)
    exact x_lret (pc := 13) E hR dX7_turns_13
set_option maxHeartbeats 4000000 in
set_option maxRecDepth 100000 in
theorem l_X7_findLine_33 (G : Gx) {K : Kx}    (E : OKc 21 cX7_findLine 6 RX7 G K) : ∀ (m : Nat) (v1 : Int32) (v2 : Int32) (v3 : Int32) (σ : MM) (out : MM), loopN (fun s => g_X7_findLine_33 s.1 s.2.1 s.2.2.1 s.2.2.2) m (v1, v2, v3, σ) = some out → XJ shM 21 6 rm_X7_findLine G K out [] 118 [] → XJ shM 21 6 rm_X7_findLine G K σ [(0, .ref (gad G 0)), (1, .int v1), (2, .int v2), (3, .int v3)] 33 [] := by
  intro m
  induction m with
  | zero => intro v1 v2 v3 σ out hf; exact (loopN_0 hf).elim
  | succ m ih =>
    intro v1 v2 v3 σ out hf hk
    obtain ⟨q, hf, h2⟩ := loopN_s hf
    have hf : g_X7_findLine_33 v1 v2 v3 σ = some q := hf
    unfold g_X7_findLine_33 at hf
    refine x_iload_n 1 (pc := 33) (i := 1) E dX7_findLine_33 rfl rfl ?_
    refine x_iload_n 2 (pc := 34) (i := 2) E dX7_findLine_34 rfl rfl ?_
    refine x_iadd (pc := 35) E dX7_findLine_35 ?_
    refine x_if_le (y := 0) (pc := 36) (tgt := 118) E dX7_findLine_36 (by decide) hf (fun hf => ?_) (fun hf => ?_)
    · obtain rfl := Option.some.inj hf
      obtain rfl := lpk_r h2
      exact x_sub [] rfl hk
    · refine x_iload_n 1 (pc := 39) (i := 1) E dX7_findLine_39 rfl rfl ?_
      refine x_iload_n 2 (pc := 40) (i := 2) E dX7_findLine_40 rfl rfl ?_
      refine x_iload_n 3 (pc := 41) (i := 3) E dX7_findLine_41 rfl rfl ?_
      refine x_callSri (pc := 42) (na := 3) (As := [.int v1, .int v2, .int v3]) E (c_X7_mover G v1 v2 v3 σ) wq_462 wq_5 wq_460 wq_461 rfl rfl (by decide) ⟨Nat.le_of_ble_eq_true rfl, Nat.le_of_ble_eq_true rfl⟩ rfl rfl (Nat.le_of_ble_eq_true rfl) dX7_findLine_42 hf (fun r6 hf => ?_)
      refine x_istore (pc := 45) (lv' := [(4, .int r6), (0, .ref (gad G 0)), (1, .int v1), (2, .int v2), (3, .int v3)]) E dX7_findLine_45 (by decide) rfl ?_
      refine x_aload_n 1 (pc := 47) (i := 0) E dX7_findLine_47 rfl rfl ?_
      refine x_iload_n 2 (pc := 48) (i := 1) E dX7_findLine_48 rfl rfl ?_
      refine x_iload_n 3 (pc := 49) (i := 2) E dX7_findLine_49 rfl rfl ?_
      refine x_iload_n 4 (pc := 50) (i := 3) E dX7_findLine_50 rfl rfl ?_
      refine x_aload_n 1 (pc := 51) (i := 0) E dX7_findLine_51 rfl rfl ?_
      refine x_getI (pc := 52) (p := 17) E rfl (Nat.le_of_ble_eq_true rfl) rfl inlX7 (by decide) rfl wq_546 dX7_findLine_52 ?_
      refine x_callVri (pc := 55) (na := 4) (As := [.int v1, .int v2, .int v3, .int (σ.1 0 17)]) E (c_X7_strikeOf G v1 v2 v3 (σ.1 0 17) σ) rfl (Nat.le_of_ble_eq_true rfl) rfl wq_481 wq_5 wq_478 wq_479 wq_480 rfl rfl (by decide) ⟨Nat.le_of_ble_eq_true rfl, Nat.le_of_ble_eq_true rfl⟩ rfl rfl (Nat.le_of_ble_eq_true rfl) dX7_findLine_55 hf (fun r7 hf => ?_)
      refine x_istore (pc := 58) (lv' := [(5, .int r7), (4, .int r6), (0, .ref (gad G 0)), (1, .int v1), (2, .int v2), (3, .int v3)]) E dX7_findLine_58 (by decide) rfl ?_
      refine x_aload_n 2 (pc := 60) (i := 0) E dX7_findLine_60 rfl rfl ?_
      refine x_getR (pc := 61) (r := 13) (p := 15) E rfl (Nat.le_of_ble_eq_true rfl) rfl inlX7 (by decide) rfl wq_111 dX7_findLine_61 ?_
      refine x_aload_n 2 (pc := 64) (i := 0) E dX7_findLine_64 rfl rfl ?_
      refine x_getI (pc := 65) (p := 16) E rfl (Nat.le_of_ble_eq_true rfl) rfl inlX7 (by decide) rfl wq_541 dX7_findLine_65 ?_
      refine x_iload 0 (pc := 68) E dX7_findLine_68 rfl ?_
      refine x_iastore (pc := 70) E rfl (Nat.le_of_ble_eq_true rfl) dX7_findLine_70 hf (fun σ8 hf => ?_)
      refine x_aload_n 2 (pc := 71) (i := 0) E dX7_findLine_71 rfl rfl ?_
      refine x_dup (pc := 72) E dX7_findLine_72 rfl ?_
      refine x_getI (pc := 73) (p := 16) E rfl (Nat.le_of_ble_eq_true rfl) rfl inlX7 (by decide) rfl wq_541 dX7_findLine_73 ?_
      refine x_iconst (pc := 76) (v := (1 : Int32)) E dX7_findLine_76 rfl ?_
      refine x_iadd (pc := 77) E dX7_findLine_77 ?_
      refine x_put (pc := 78) (p := 16) E rfl (Nat.le_of_ble_eq_true rfl) rfl inlX7 tyX7_ok nmX7 (by decide) rfl rfl rfl rfl wq_541 dX7_findLine_78 hf (fun σ9 hf => ?_)
      refine x_aload_n 2 (pc := 81) (i := 0) E dX7_findLine_81 rfl rfl ?_
      refine x_dup (pc := 82) E dX7_findLine_82 rfl ?_
      refine x_getI (pc := 83) (p := 17) E rfl (Nat.le_of_ble_eq_true rfl) rfl inlX7 (by decide) rfl wq_546 dX7_findLine_83 ?_
      refine x_iconst (pc := 86) (v := (1 : Int32)) E dX7_findLine_86 rfl ?_
      refine x_iload 0 (pc := 87) E dX7_findLine_87 rfl ?_
      refine x_ishl (pc := 89) E dX7_findLine_89 ?_
      refine x_iconst (pc := 90) (v := (-1 : Int32)) E dX7_findLine_90 rfl ?_
      refine x_ixor (pc := 91) E dX7_findLine_91 ?_
      refine x_iand (pc := 92) E dX7_findLine_92 ?_
      refine x_put (pc := 93) (p := 17) E rfl (Nat.le_of_ble_eq_true rfl) rfl inlX7 tyX7_ok nmX7 (by decide) rfl rfl rfl rfl wq_546 dX7_findLine_93 hf (fun σ10 hf => ?_)
      refine x_iload 1 (pc := 96) E dX7_findLine_96 rfl ?_
      refine x_if_ne (y := 0) (pc := 98) (tgt := 107) E dX7_findLine_98 (by decide) hf (fun hf => ?_) (fun hf => ?_)
      · refine x_iinc 4 (pc := 107) (v := v2 + (-1)) (lv' := [(2, .int (v2 + (-1))), (5, .int r7), (4, .int r6), (0, .ref (gad G 0)), (1, .int v1), (3, .int v3)]) E dX7_findLine_107 rfl rfl (by decide) rfl ?_
        refine x_iconst (pc := 110) (v := (1 : Int32)) E dX7_findLine_110 rfl ?_
        refine x_iload 2 (pc := 111) E dX7_findLine_111 rfl ?_
        refine x_isub (pc := 113) E dX7_findLine_113 ?_
        refine x_istore_n (pc := 114) (lv' := [(3, .int ((1 : Int32) - r6)), (2, .int (v2 + (-1))), (5, .int r7), (4, .int r6), (0, .ref (gad G 0)), (1, .int v1)]) E dX7_findLine_114 rfl (by decide) rfl ?_
        refine x_goto (pc := 115) (tgt := 33) E dX7_findLine_115 (by decide) ?_
        obtain rfl := Option.some.inj hf
        exact x_sub [4, 5, 1, 0] rfl (ih _ _ _ _ _ (lpk_l h2) hk)
      · refine x_iinc 3 (pc := 101) (v := v1 + (-1)) (lv' := [(1, .int (v1 + (-1))), (5, .int r7), (4, .int r6), (0, .ref (gad G 0)), (2, .int v2), (3, .int v3)]) E dX7_findLine_101 rfl rfl (by decide) rfl ?_
        refine x_goto (pc := 104) (tgt := 110) E dX7_findLine_104 (by decide) ?_
        refine x_iconst (pc := 110) (v := (1 : Int32)) E dX7_findLine_110 rfl ?_
        refine x_iload 2 (pc := 111) E dX7_findLine_111 rfl ?_
        refine x_isub (pc := 113) E dX7_findLine_113 ?_
        refine x_istore_n (pc := 114) (lv' := [(3, .int ((1 : Int32) - r6)), (1, .int (v1 + (-1))), (5, .int r7), (4, .int r6), (0, .ref (gad G 0)), (2, .int v2)]) E dX7_findLine_114 rfl (by decide) rfl ?_
        refine x_goto (pc := 115) (tgt := 33) E dX7_findLine_115 (by decide) ?_
        obtain rfl := Option.some.inj hf
        exact x_sub [4, 1, 5, 0] rfl (ih _ _ _ _ _ (lpk_l h2) hk)
set_option maxHeartbeats 4000000 in
set_option maxRecDepth 100000 in
theorem c_X7_findLine (G : Gx) (σ : MM) (σ' : MM) (hf : f_X7_findLine σ = some σ') : Ct shM 21 yX7_findLine cX7_findLine 6 none rm_X7_findLine G [.ref (gad G 0)] σ none σ' := by
  refine ct_of (by decide) (Nat.le_of_ble_eq_true rfl) (fun K E hR => ?_)
  have E : OKc 21 cX7_findLine 6 RX7 G K := E
  show XJ shM 21 6 rm_X7_findLine G K σ [(0, .ref (gad G 0))] 0 []
  unfold f_X7_findLine at hf
  refine x_aload_n 0 (pc := 0) (i := 0) E dX7_findLine_0 rfl rfl ?_
  refine x_callVwv (pc := 1) (na := 0) (As := []) E (c_X7_findTurns G σ) rfl (Nat.le_of_ble_eq_true rfl) rfl wq_524 wq_5 wq_521 wq_522 wq_523 rfl rfl (by decide) ⟨Nat.le_of_ble_eq_true rfl, Nat.le_of_ble_eq_true rfl⟩ rfl rfl (Nat.le_of_ble_eq_true rfl) dX7_findLine_1 hf (fun σ2 hf => ?_)
  refine x_aload_n 0 (pc := 4) (i := 0) E dX7_findLine_4 rfl rfl ?_
  refine x_iconst (pc := 5) (v := (0 : Int32)) E dX7_findLine_5 rfl ?_
  refine x_put (pc := 6) (p := 16) E rfl (Nat.le_of_ble_eq_true rfl) rfl inlX7 tyX7_ok nmX7 (by decide) rfl rfl rfl rfl wq_541 dX7_findLine_6 hf (fun σ3 hf => ?_)
  refine x_aload_n 0 (pc := 9) (i := 0) E dX7_findLine_9 rfl rfl ?_
  refine x_aload_n 0 (pc := 10) (i := 0) E dX7_findLine_10 rfl rfl ?_
  refine x_callVri (pc := 11) (na := 0) (As := []) E (c_X7_called G σ3) rfl (Nat.le_of_ble_eq_true rfl) rfl wq_528 wq_5 wq_525 wq_526 wq_527 rfl rfl (by decide) ⟨Nat.le_of_ble_eq_true rfl, Nat.le_of_ble_eq_true rfl⟩ rfl rfl (Nat.le_of_ble_eq_true rfl) dX7_findLine_11 hf (fun r4 hf => ?_)
  refine x_put (pc := 14) (p := 17) E rfl (Nat.le_of_ble_eq_true rfl) rfl inlX7 tyX7_ok nmX7 (by decide) rfl rfl rfl rfl wq_546 dX7_findLine_14 hf (fun σ5 hf => ?_)
  refine x_aload_n 0 (pc := 17) (i := 0) E dX7_findLine_17 rfl rfl ?_
  refine x_getR (pc := 18) (r := 4) (p := 3) E rfl (Nat.le_of_ble_eq_true rfl) rfl inlX7 (by decide) rfl wq_101 dX7_findLine_18 ?_
  refine x_iconst (pc := 21) (v := (1 : Int32)) E dX7_findLine_21 rfl ?_
  refine x_iaload (pc := 22) E rfl (Nat.le_of_ble_eq_true rfl) dX7_findLine_22 hf (fun hf => ?_)
  refine x_istore_n (pc := 23) (lv' := [(1, .int (σ5.1 4 (1 : Int32).toNatClampNeg)), (0, .ref (gad G 0))]) E dX7_findLine_23 rfl (by decide) rfl ?_
  refine x_aload_n 1 (pc := 24) (i := 0) E dX7_findLine_24 rfl rfl ?_
  refine x_getR (pc := 25) (r := 4) (p := 3) E rfl (Nat.le_of_ble_eq_true rfl) rfl inlX7 (by decide) rfl wq_101 dX7_findLine_25 ?_
  refine x_iconst (pc := 28) (v := (2 : Int32)) E dX7_findLine_28 rfl ?_
  refine x_iaload (pc := 29) E rfl (Nat.le_of_ble_eq_true rfl) dX7_findLine_29 hf (fun hf => ?_)
  refine x_istore_n (pc := 30) (lv' := [(2, .int (σ5.1 4 (2 : Int32).toNatClampNeg)), (1, .int (σ5.1 4 (1 : Int32).toNatClampNeg)), (0, .ref (gad G 0))]) E dX7_findLine_30 rfl (by decide) rfl ?_
  refine x_iconst (pc := 31) (v := (0 : Int32)) E dX7_findLine_31 rfl ?_
  refine x_istore_n (pc := 32) (lv' := [(3, .int (0 : Int32)), (2, .int (σ5.1 4 (2 : Int32).toNatClampNeg)), (1, .int (σ5.1 4 (1 : Int32).toNatClampNeg)), (0, .ref (gad G 0))]) E dX7_findLine_32 rfl (by decide) rfl ?_
  obtain ⟨o11, hl12, hf⟩ := bind_some hf
  refine x_sub [3, 2, 1, 0] rfl (l_X7_findLine_33 G    E FU _ _ _ _ o11 hl12 ?_)
  obtain rfl := Option.some.inj hf
  exact x_vret (pc := 118) E hR dX7_findLine_118
set_option maxHeartbeats 4000000 in
set_option maxRecDepth 100000 in
theorem c_X7_order (G : Gx) (v1 : Int32) (σ : MM) (r : Int32) (σ' : MM) (hf : f_X7_order v1 σ = some (r, σ')) : Ct shM 21 yX7_order cX7_order 2 (some .int) rm_X7_order G [.ref (gad G 0), .int v1] σ (some (.int r)) σ' := by
  refine ct_of (by decide) (Nat.le_of_ble_eq_true rfl) (fun K E hR => ?_)
  have E : OKc 21 cX7_order 2 RX7 G K := E
  show XJ shM 21 2 rm_X7_order G K σ [(0, .ref (gad G 0)), (1, .int v1)] 0 []
  unfold f_X7_order at hf
  refine x_aload_n 0 (pc := 0) (i := 0) E dX7_order_0 rfl rfl ?_
  refine x_callVri (pc := 1) (na := 0) (As := []) E (c_X7_isEnough G σ) rfl (Nat.le_of_ble_eq_true rfl) rfl wq_516 wq_5 wq_513 wq_514 wq_515 rfl rfl (by decide) ⟨Nat.le_of_ble_eq_true rfl, Nat.le_of_ble_eq_true rfl⟩ rfl rfl (Nat.le_of_ble_eq_true rfl) dX7_order_1 hf (fun r1 hf => ?_)
  refine x_if_ne (y := 0) (pc := 4) (tgt := 14) E dX7_order_4 (by decide) hf (fun hf => ?_) (fun hf => ?_)
  · refine x_aload_n 0 (pc := 14) (i := 0) E dX7_order_14 rfl rfl ?_
    refine x_callVwv (pc := 15) (na := 0) (As := []) E (c_X7_findLine G σ) rfl (Nat.le_of_ble_eq_true rfl) rfl wq_545 wq_5 wq_542 wq_543 wq_544 rfl rfl (by decide) ⟨Nat.le_of_ble_eq_true rfl, Nat.le_of_ble_eq_true rfl⟩ rfl rfl (Nat.le_of_ble_eq_true rfl) dX7_order_15 hf (fun σ3 hf => ?_)
    refine x_iload_n 1 (pc := 18) (i := 1) E dX7_order_18 rfl rfl ?_
    refine x_iconst (pc := 19) (v := (0 : Int32)) E dX7_order_19 rfl ?_
    refine x_aload_n 0 (pc := 20) (i := 0) E dX7_order_20 rfl rfl ?_
    refine x_getI (pc := 21) (p := 16) E rfl (Nat.le_of_ble_eq_true rfl) rfl inlX7 (by decide) rfl wq_541 dX7_order_21 ?_
    refine x_iconst (pc := 24) (v := (1 : Int32)) E dX7_order_24 rfl ?_
    refine x_isub (pc := 25) E dX7_order_25 ?_
    refine x_callSri (pc := 26) (na := 3) (As := [.int v1, .int (0 : Int32), .int ((σ3.1 0 16) - (1 : Int32))]) E (c_X7_isIn G v1 (0 : Int32) ((σ3.1 0 16) - (1 : Int32)) σ3) wq_185 wq_5 wq_183 wq_184 rfl rfl (by decide) ⟨Nat.le_of_ble_eq_true rfl, Nat.le_of_ble_eq_true rfl⟩ rfl rfl (Nat.le_of_ble_eq_true rfl) dX7_order_26 hf (fun r4 hf => ?_)
    refine x_if_eq (y := 0) (pc := 29) (tgt := 41) E dX7_order_29 (by decide) hf (fun hf => ?_) (fun hf => ?_)
    · refine x_bipush (pc := 41) (v := (-9 : Int32)) E dX7_order_41 rfl ?_
      obtain ⟨rfl, rfl⟩ := Prod.mk.inj (Option.some.inj hf)
      exact x_iret (pc := 43) E hR dX7_order_43
    · refine x_aload_n 0 (pc := 32) (i := 0) E dX7_order_32 rfl rfl ?_
      refine x_getR (pc := 33) (r := 13) (p := 15) E rfl (Nat.le_of_ble_eq_true rfl) rfl inlX7 (by decide) rfl wq_111 dX7_order_33 ?_
      refine x_iload_n 1 (pc := 36) (i := 1) E dX7_order_36 rfl rfl ?_
      refine x_iaload (pc := 37) E rfl (Nat.le_of_ble_eq_true rfl) dX7_order_37 hf (fun hf => ?_)
      refine x_goto (pc := 38) (tgt := 43) E dX7_order_38 (by decide) ?_
      obtain ⟨rfl, rfl⟩ := Prod.mk.inj (Option.some.inj hf)
      exact x_iret (pc := 43) E hR dX7_order_43
  · refine x_aload_n 0 (pc := 7) (i := 0) E dX7_order_7 rfl rfl ?_
    refine x_bipush (pc := 8) (v := (-3 : Int32)) E dX7_order_8 rfl ?_
    refine x_callVwi (pc := 10) (na := 1) (As := [.int (-3 : Int32)]) E (c_X7_no G (-3 : Int32) σ) rfl (Nat.le_of_ble_eq_true rfl) rfl wq_151 wq_5 wq_148 wq_149 wq_150 rfl rfl (by decide) ⟨Nat.le_of_ble_eq_true rfl, Nat.le_of_ble_eq_true rfl⟩ rfl rfl (Nat.le_of_ble_eq_true rfl) dX7_order_10 hf (fun r5 σ6 hf => ?_)
    obtain ⟨rfl, rfl⟩ := Prod.mk.inj (Option.some.inj hf)
    exact x_iret (pc := 13) E hR dX7_order_13
set_option maxHeartbeats 4000000 in
set_option maxRecDepth 100000 in
theorem c_X7_put (G : Gx) (v1 : Int32) (σ : MM) (r : Int32) (σ' : MM) (hf : f_X7_put v1 σ = some (r, σ')) : Ct shM 21 yX7_put cX7_put 3 (some .int) rm_X7_put G [.ref (gad G 0), .int v1] σ (some (.int r)) σ' := by
  refine ct_of (by decide) (Nat.le_of_ble_eq_true rfl) (fun K E hR => ?_)
  have E : OKc 21 cX7_put 3 RX7 G K := E
  show XJ shM 21 3 rm_X7_put G K σ [(0, .ref (gad G 0)), (1, .int v1)] 0 []
  unfold f_X7_put at hf
  refine x_iload_n 1 (pc := 0) (i := 1) E dX7_put_0 rfl rfl ?_
  refine x_iconst (pc := 1) (v := (0 : Int32)) E dX7_put_1 rfl ?_
  refine x_bipush (pc := 2) (v := (11 : Int32)) E dX7_put_2 rfl ?_
  refine x_callSri (pc := 4) (na := 3) (As := [.int v1, .int (0 : Int32), .int (11 : Int32)]) E (c_X7_out G v1 (0 : Int32) (11 : Int32) σ) wq_188 wq_5 wq_186 wq_187 rfl rfl (by decide) ⟨Nat.le_of_ble_eq_true rfl, Nat.le_of_ble_eq_true rfl⟩ rfl rfl (Nat.le_of_ble_eq_true rfl) dX7_put_4 hf (fun r1 hf => ?_)
  refine x_istore_n (pc := 7) (lv' := [(2, .int r1), (0, .ref (gad G 0)), (1, .int v1)]) E dX7_put_7 rfl (by decide) rfl ?_
  refine x_iload_n 0 (pc := 8) (i := 2) E dX7_put_8 rfl rfl ?_
  obtain ⟨o2, hf4, hf⟩ := bind_some hf
  have hJ3 : XJ shM 21 3 rm_X7_put G K σ [(0, .ref (gad G 0)), (1, .int v1), (2, .int o2)] 24 [] := by
    refine x_iload_n 2 (pc := 24) (i := 2) E dX7_put_24 rfl rfl ?_
    refine x_if_eq (y := 0) (pc := 25) (tgt := 34) E dX7_put_25 (by decide) hf (fun hf => ?_) (fun hf => ?_)
    · refine x_aload_n 0 (pc := 34) (i := 0) E dX7_put_34 rfl rfl ?_
      refine x_getR (pc := 35) (r := 14) (p := 18) E rfl (Nat.le_of_ble_eq_true rfl) rfl inlX7 (by decide) rfl wq_112 dX7_put_35 ?_
      refine x_aload_n 0 (pc := 38) (i := 0) E dX7_put_38 rfl rfl ?_
      refine x_getI (pc := 39) (p := 19) E rfl (Nat.le_of_ble_eq_true rfl) rfl inlX7 (by decide) rfl wq_556 dX7_put_39 ?_
      refine x_iload_n 1 (pc := 42) (i := 1) E dX7_put_42 rfl rfl ?_
      refine x_iastore (pc := 43) E rfl (Nat.le_of_ble_eq_true rfl) dX7_put_43 hf (fun σ5 hf => ?_)
      refine x_aload_n 0 (pc := 44) (i := 0) E dX7_put_44 rfl rfl ?_
      refine x_dup (pc := 45) E dX7_put_45 rfl ?_
      refine x_getI (pc := 46) (p := 19) E rfl (Nat.le_of_ble_eq_true rfl) rfl inlX7 (by decide) rfl wq_556 dX7_put_46 ?_
      refine x_iconst (pc := 49) (v := (1 : Int32)) E dX7_put_49 rfl ?_
      refine x_iadd (pc := 50) E dX7_put_50 ?_
      refine x_put (pc := 51) (p := 19) E rfl (Nat.le_of_ble_eq_true rfl) rfl inlX7 tyX7_ok nmX7 (by decide) rfl rfl rfl rfl wq_556 dX7_put_51 hf (fun σ6 hf => ?_)
      refine x_aload_n 0 (pc := 54) (i := 0) E dX7_put_54 rfl rfl ?_
      refine x_getI (pc := 55) (p := 19) E rfl (Nat.le_of_ble_eq_true rfl) rfl inlX7 (by decide) rfl wq_556 dX7_put_55 ?_
      obtain ⟨rfl, rfl⟩ := Prod.mk.inj (Option.some.inj hf)
      exact x_iret (pc := 58) E hR dX7_put_58
    · refine x_aload_n 0 (pc := 28) (i := 0) E dX7_put_28 rfl rfl ?_
      refine x_iload_n 2 (pc := 29) (i := 2) E dX7_put_29 rfl rfl ?_
      refine x_callVwi (pc := 30) (na := 1) (As := [.int o2]) E (c_X7_no G o2 σ) rfl (Nat.le_of_ble_eq_true rfl) rfl wq_151 wq_5 wq_148 wq_149 wq_150 rfl rfl (by decide) ⟨Nat.le_of_ble_eq_true rfl, Nat.le_of_ble_eq_true rfl⟩ rfl rfl (Nat.le_of_ble_eq_true rfl) dX7_put_30 hf (fun r7 σ8 hf => ?_)
      obtain ⟨rfl, rfl⟩ := Prod.mk.inj (Option.some.inj hf)
      exact x_iret (pc := 33) E hR dX7_put_33
  refine x_if_ne (y := 0) (pc := 9) (tgt := 24) E dX7_put_9 (by decide) hf4 (fun hf4 => ?_) (fun hf4 => ?_)
  · obtain rfl := Option.some.inj hf4
    exact x_sub [1, 2, 0] rfl hJ3
  · refine x_aload_n 1 (pc := 12) (i := 0) E dX7_put_12 rfl rfl ?_
    refine x_getI (pc := 13) (p := 19) E rfl (Nat.le_of_ble_eq_true rfl) rfl inlX7 (by decide) rfl wq_556 dX7_put_13 ?_
    refine x_bipush (pc := 16) (v := (6 : Int32)) E dX7_put_16 rfl ?_
    refine x_icmp_ne (pc := 18) (tgt := 24) E dX7_put_18 (by decide) hf4 (fun hf4 => ?_) (fun hf4 => ?_)
    · obtain rfl := Option.some.inj hf4
      exact x_sub [1, 2, 0] rfl hJ3
    · refine x_bipush (pc := 21) (v := (-6 : Int32)) E dX7_put_21 rfl ?_
      refine x_istore_n (pc := 23) (lv' := [(2, .int (-6 : Int32)), (0, .ref (gad G 0)), (1, .int v1)]) E dX7_put_23 rfl (by decide) rfl ?_
      obtain rfl := Option.some.inj hf4
      exact x_sub [1, 2, 0] rfl hJ3
set_option maxHeartbeats 4000000 in
set_option maxRecDepth 100000 in
theorem c_X7_unput (G : Gx) (σ : MM) (r : Int32) (σ' : MM) (hf : f_X7_unput σ = some (r, σ')) : Ct shM 21 yX7_unput cX7_unput 2 (some .int) rm_X7_unput G [.ref (gad G 0)] σ (some (.int r)) σ' := by
  refine ct_of (by decide) (Nat.le_of_ble_eq_true rfl) (fun K E hR => ?_)
  have E : OKc 21 cX7_unput 2 RX7 G K := E
  show XJ shM 21 2 rm_X7_unput G K σ [(0, .ref (gad G 0))] 0 []
  unfold f_X7_unput at hf
  refine x_aload_n 0 (pc := 0) (i := 0) E dX7_unput_0 rfl rfl ?_
  refine x_getI (pc := 1) (p := 19) E rfl (Nat.le_of_ble_eq_true rfl) rfl inlX7 (by decide) rfl wq_556 dX7_unput_1 ?_
  refine x_istore_n (pc := 4) (lv' := [(1, .int (σ.1 0 19)), (0, .ref (gad G 0))]) E dX7_unput_4 rfl (by decide) rfl ?_
  refine x_aload_n 1 (pc := 5) (i := 0) E dX7_unput_5 rfl rfl ?_
  refine x_iconst (pc := 6) (v := (0 : Int32)) E dX7_unput_6 rfl ?_
  refine x_put (pc := 7) (p := 19) E rfl (Nat.le_of_ble_eq_true rfl) rfl inlX7 tyX7_ok nmX7 (by decide) rfl rfl rfl rfl wq_556 dX7_unput_7 hf (fun σ1 hf => ?_)
  refine x_iload_n 0 (pc := 10) (i := 1) E dX7_unput_10 rfl rfl ?_
  obtain ⟨rfl, rfl⟩ := Prod.mk.inj (Option.some.inj hf)
  exact x_iret (pc := 11) E hR dX7_unput_11
set_option maxHeartbeats 4000000 in
set_option maxRecDepth 100000 in
theorem l_X7_isLawful_7 (G : Gx) {K : Kx}    (σ : MM) (r : Int32) (hR : RetX shM 21 (some .boolean) G K (some (.int r)) σ) (E : OKc 21 cX7_isLawful 3 RX7 G K) : ∀ (m : Nat) (v1 : Int32) (v2 : Int32), loopN (fun s => g_X7_isLawful_7 s.1 s.2 σ) m (v1, v2) = some r → XJ shM 21 3 rm_X7_isLawful G K σ [(0, .ref (gad G 0)), (1, .int v1), (2, .int v2)] 7 [] := by
  intro m
  induction m with
  | zero => intro v1 v2 hf; exact (loopN_0 hf).elim
  | succ m ih =>
    intro v1 v2 hf
    obtain ⟨q, hf, h2⟩ := loopN_s hf
    have hf : g_X7_isLawful_7 v1 v2 σ = some q := hf
    unfold g_X7_isLawful_7 at hf
    refine x_iload_n 2 (pc := 7) (i := 2) E dX7_isLawful_7 rfl rfl ?_
    refine x_aload_n 0 (pc := 8) (i := 0) E dX7_isLawful_8 rfl rfl ?_
    refine x_getI (pc := 9) (p := 19) E rfl (Nat.le_of_ble_eq_true rfl) rfl inlX7 (by decide) rfl wq_556 dX7_isLawful_9 ?_
    refine x_icmp_ge (pc := 12) (tgt := 49) E dX7_isLawful_12 (by decide) hf (fun hf => ?_) (fun hf => ?_)
    · refine x_aload_n 0 (pc := 49) (i := 0) E dX7_isLawful_49 rfl rfl ?_
      refine x_getI (pc := 50) (p := 19) E rfl (Nat.le_of_ble_eq_true rfl) rfl inlX7 (by decide) rfl wq_556 dX7_isLawful_50 ?_
      refine x_aload_n 0 (pc := 53) (i := 0) E dX7_isLawful_53 rfl rfl ?_
      refine x_getR (pc := 54) (r := 4) (p := 3) E rfl (Nat.le_of_ble_eq_true rfl) rfl inlX7 (by decide) rfl wq_101 dX7_isLawful_54 ?_
      refine x_iconst (pc := 57) (v := (1 : Int32)) E dX7_isLawful_57 rfl ?_
      refine x_iaload (pc := 58) E rfl (Nat.le_of_ble_eq_true rfl) dX7_isLawful_58 hf (fun hf => ?_)
      refine x_aload_n 0 (pc := 59) (i := 0) E dX7_isLawful_59 rfl rfl ?_
      refine x_getR (pc := 60) (r := 4) (p := 3) E rfl (Nat.le_of_ble_eq_true rfl) rfl inlX7 (by decide) rfl wq_101 dX7_isLawful_60 ?_
      refine x_iconst (pc := 63) (v := (2 : Int32)) E dX7_isLawful_63 rfl ?_
      refine x_iaload (pc := 64) E rfl (Nat.le_of_ble_eq_true rfl) dX7_isLawful_64 hf (fun hf => ?_)
      refine x_iadd (pc := 65) E dX7_isLawful_65 ?_
      refine x_icmp_ne (pc := 66) (tgt := 73) E dX7_isLawful_66 (by decide) hf (fun hf => ?_) (fun hf => ?_)
      · refine x_iconst (pc := 73) (v := (0 : Int32)) E dX7_isLawful_73 rfl ?_
        obtain ⟨hz, hf⟩ := chk_some hf
        obtain rfl := Option.some.inj hf
        obtain rfl := lpk_r h2
        exact x_zret (pc := 74) E hR (isB_nar hz) dX7_isLawful_74
      · refine x_iconst (pc := 69) (v := (1 : Int32)) E dX7_isLawful_69 rfl ?_
        refine x_goto (pc := 70) (tgt := 74) E dX7_isLawful_70 (by decide) ?_
        obtain ⟨hz, hf⟩ := chk_some hf
        obtain rfl := Option.some.inj hf
        obtain rfl := lpk_r h2
        exact x_zret (pc := 74) E hR (isB_nar hz) dX7_isLawful_74
    · refine x_iload_n 1 (pc := 15) (i := 1) E dX7_isLawful_15 rfl rfl ?_
      refine x_aload_n 0 (pc := 16) (i := 0) E dX7_isLawful_16 rfl rfl ?_
      refine x_getR (pc := 17) (r := 14) (p := 18) E rfl (Nat.le_of_ble_eq_true rfl) rfl inlX7 (by decide) rfl wq_112 dX7_isLawful_17 ?_
      refine x_iload_n 2 (pc := 20) (i := 2) E dX7_isLawful_20 rfl rfl ?_
      refine x_iaload (pc := 21) E rfl (Nat.le_of_ble_eq_true rfl) dX7_isLawful_21 hf (fun hf => ?_)
      refine x_ishr (pc := 22) E dX7_isLawful_22 ?_
      refine x_iconst (pc := 23) (v := (1 : Int32)) E dX7_isLawful_23 rfl ?_
      refine x_iand (pc := 24) E dX7_isLawful_24 ?_
      refine x_if_ne (y := 0) (pc := 25) (tgt := 30) E dX7_isLawful_25 (by decide) hf (fun hf => ?_) (fun hf => ?_)
      · refine x_iload_n 1 (pc := 30) (i := 1) E dX7_isLawful_30 rfl rfl ?_
        refine x_iconst (pc := 31) (v := (1 : Int32)) E dX7_isLawful_31 rfl ?_
        refine x_aload_n 0 (pc := 32) (i := 0) E dX7_isLawful_32 rfl rfl ?_
        refine x_getR (pc := 33) (r := 14) (p := 18) E rfl (Nat.le_of_ble_eq_true rfl) rfl inlX7 (by decide) rfl wq_112 dX7_isLawful_33 ?_
        refine x_iload_n 2 (pc := 36) (i := 2) E dX7_isLawful_36 rfl rfl ?_
        refine x_iaload (pc := 37) E rfl (Nat.le_of_ble_eq_true rfl) dX7_isLawful_37 hf (fun hf => ?_)
        refine x_ishl (pc := 38) E dX7_isLawful_38 ?_
        refine x_iconst (pc := 39) (v := (-1 : Int32)) E dX7_isLawful_39 rfl ?_
        refine x_ixor (pc := 40) E dX7_isLawful_40 ?_
        refine x_iand (pc := 41) E dX7_isLawful_41 ?_
        refine x_istore_n (pc := 42) (lv' := [(1, .int (v1 &&& (((1 : Int32) <<< ((σ.1 14 v2.toNatClampNeg) &&& 31)) ^^^ (-1 : Int32)))), (0, .ref (gad G 0)), (2, .int v2)]) E dX7_isLawful_42 rfl (by decide) rfl ?_
        refine x_iinc 2 (pc := 43) (v := v2 + 1) (lv' := [(2, .int (v2 + 1)), (1, .int (v1 &&& (((1 : Int32) <<< ((σ.1 14 v2.toNatClampNeg) &&& 31)) ^^^ (-1 : Int32)))), (0, .ref (gad G 0))]) E dX7_isLawful_43 rfl rfl (by decide) rfl ?_
        refine x_goto (pc := 46) (tgt := 7) E dX7_isLawful_46 (by decide) ?_
        obtain rfl := Option.some.inj hf
        exact x_sub [2, 1, 0] rfl (ih _ _ (lpk_l h2))
      · refine x_iconst (pc := 28) (v := (0 : Int32)) E dX7_isLawful_28 rfl ?_
        obtain ⟨hz, hf⟩ := chk_some hf
        obtain rfl := Option.some.inj hf
        obtain rfl := lpk_r h2
        exact x_zret (pc := 29) E hR (isB_nar hz) dX7_isLawful_29
set_option maxHeartbeats 4000000 in
set_option maxRecDepth 100000 in
theorem c_X7_isLawful (G : Gx) (σ : MM) (r : Int32) (hf : f_X7_isLawful σ = some r) : Ct shM 21 yX7_isLawful cX7_isLawful 3 (some .boolean) rm_X7_isLawful G [.ref (gad G 0)] σ (some (.int r)) σ := by
  refine ct_of (by decide) (Nat.le_of_ble_eq_true rfl) (fun K E hR => ?_)
  have E : OKc 21 cX7_isLawful 3 RX7 G K := E
  show XJ shM 21 3 rm_X7_isLawful G K σ [(0, .ref (gad G 0))] 0 []
  unfold f_X7_isLawful at hf
  refine x_aload_n 0 (pc := 0) (i := 0) E dX7_isLawful_0 rfl rfl ?_
  refine x_callVri (pc := 1) (na := 0) (As := []) E (c_X7_called G σ) rfl (Nat.le_of_ble_eq_true rfl) rfl wq_528 wq_5 wq_525 wq_526 wq_527 rfl rfl (by decide) ⟨Nat.le_of_ble_eq_true rfl, Nat.le_of_ble_eq_true rfl⟩ rfl rfl (Nat.le_of_ble_eq_true rfl) dX7_isLawful_1 hf (fun r1 hf => ?_)
  refine x_istore_n (pc := 4) (lv' := [(1, .int r1), (0, .ref (gad G 0))]) E dX7_isLawful_4 rfl (by decide) rfl ?_
  refine x_iconst (pc := 5) (v := (0 : Int32)) E dX7_isLawful_5 rfl ?_
  refine x_istore_n (pc := 6) (lv' := [(2, .int (0 : Int32)), (1, .int r1), (0, .ref (gad G 0))]) E dX7_isLawful_6 rfl (by decide) rfl ?_
  exact x_sub [2, 1, 0] rfl (l_X7_isLawful_7 G    σ r hR E FU _ _ hf)
set_option maxHeartbeats 4000000 in
set_option maxRecDepth 100000 in
theorem c_X7_lawful (G : Gx) (σ : MM) (r : Int32) (σ' : MM) (hf : f_X7_lawful σ = some (r, σ')) : Ct shM 21 yX7_lawful cX7_lawful 1 (some .int) rm_X7_lawful G [.ref (gad G 0)] σ (some (.int r)) σ' := by
  refine ct_of (by decide) (Nat.le_of_ble_eq_true rfl) (fun K E hR => ?_)
  have E : OKc 21 cX7_lawful 1 RX7 G K := E
  show XJ shM 21 1 rm_X7_lawful G K σ [(0, .ref (gad G 0))] 0 []
  unfold f_X7_lawful at hf
  refine x_aload_n 0 (pc := 0) (i := 0) E dX7_lawful_0 rfl rfl ?_
  refine x_callVri (pc := 1) (na := 0) (As := []) E (c_X7_isEnough G σ) rfl (Nat.le_of_ble_eq_true rfl) rfl wq_516 wq_5 wq_513 wq_514 wq_515 rfl rfl (by decide) ⟨Nat.le_of_ble_eq_true rfl, Nat.le_of_ble_eq_true rfl⟩ rfl rfl (Nat.le_of_ble_eq_true rfl) dX7_lawful_1 hf (fun r1 hf => ?_)
  refine x_if_ne (y := 0) (pc := 4) (tgt := 14) E dX7_lawful_4 (by decide) hf (fun hf => ?_) (fun hf => ?_)
  · refine x_aload_n 0 (pc := 14) (i := 0) E dX7_lawful_14 rfl rfl ?_
    refine x_callVri (pc := 15) (na := 0) (As := []) E (c_X7_isLawful G σ) rfl (Nat.le_of_ble_eq_true rfl) rfl wq_580 wq_5 wq_577 wq_578 wq_579 rfl rfl (by decide) ⟨Nat.le_of_ble_eq_true rfl, Nat.le_of_ble_eq_true rfl⟩ rfl rfl (Nat.le_of_ble_eq_true rfl) dX7_lawful_15 hf (fun r2 hf => ?_)
    refine x_if_eq (y := 0) (pc := 18) (tgt := 25) E dX7_lawful_18 (by decide) hf (fun hf => ?_) (fun hf => ?_)
    · refine x_iconst (pc := 25) (v := (0 : Int32)) E dX7_lawful_25 rfl ?_
      obtain ⟨rfl, rfl⟩ := Prod.mk.inj (Option.some.inj hf)
      exact x_iret (pc := 26) E hR dX7_lawful_26
    · refine x_iconst (pc := 21) (v := (1 : Int32)) E dX7_lawful_21 rfl ?_
      refine x_goto (pc := 22) (tgt := 26) E dX7_lawful_22 (by decide) ?_
      obtain ⟨rfl, rfl⟩ := Prod.mk.inj (Option.some.inj hf)
      exact x_iret (pc := 26) E hR dX7_lawful_26
  · refine x_aload_n 0 (pc := 7) (i := 0) E dX7_lawful_7 rfl rfl ?_
    refine x_bipush (pc := 8) (v := (-3 : Int32)) E dX7_lawful_8 rfl ?_
    refine x_callVwi (pc := 10) (na := 1) (As := [.int (-3 : Int32)]) E (c_X7_no G (-3 : Int32) σ) rfl (Nat.le_of_ble_eq_true rfl) rfl wq_151 wq_5 wq_148 wq_149 wq_150 rfl rfl (by decide) ⟨Nat.le_of_ble_eq_true rfl, Nat.le_of_ble_eq_true rfl⟩ rfl rfl (Nat.le_of_ble_eq_true rfl) dX7_lawful_10 hf (fun r3 σ4 hf => ?_)
    obtain ⟨rfl, rfl⟩ := Prod.mk.inj (Option.some.inj hf)
    exact x_iret (pc := 13) E hR dX7_lawful_13
set_option maxHeartbeats 4000000 in
set_option maxRecDepth 100000 in
theorem l_X7_findSlip_43 (G : Gx) {K : Kx}    (E : OKc 21 cX7_findSlip 12 RX7 G K) : ∀ (m : Nat) (v1 : Int32) (v2 : Int32) (v3 : Int32) (v4 : Int32) (v5 : Int32) (v6 : Int32) (σ : MM) (out : Int32 × MM), loopN (fun s => g_X7_findSlip_43 s.1 s.2.1 s.2.2.1 s.2.2.2.1 s.2.2.2.2.1 s.2.2.2.2.2.1 s.2.2.2.2.2.2) m (v1, v2, v3, v4, v5, v6, σ) = some out → XJ shM 21 12 rm_X7_findSlip G K out.2 [(5, .int out.1)] 193 [] → XJ shM 21 12 rm_X7_findSlip G K σ [(0, .ref (gad G 0)), (1, .int v1), (2, .int v2), (3, .int v3), (4, .int v4), (5, .int v5), (6, .int v6)] 43 [] := by
  intro m
  induction m with
  | zero => intro v1 v2 v3 v4 v5 v6 σ out hf; exact (loopN_0 hf).elim
  | succ m ih =>
    intro v1 v2 v3 v4 v5 v6 σ out hf hk
    obtain ⟨q, hf, h2⟩ := loopN_s hf
    have hf : g_X7_findSlip_43 v1 v2 v3 v4 v5 v6 σ = some q := hf
    unfold g_X7_findSlip_43 at hf
    refine x_iload 6 (pc := 43) E dX7_findSlip_43 rfl ?_
    refine x_aload_n 0 (pc := 45) (i := 0) E dX7_findSlip_45 rfl rfl ?_
    refine x_getI (pc := 46) (p := 19) E rfl (Nat.le_of_ble_eq_true rfl) rfl inlX7 (by decide) rfl wq_556 dX7_findSlip_46 ?_
    refine x_icmp_ge (pc := 49) (tgt := 193) E dX7_findSlip_49 (by decide) hf (fun hf => ?_) (fun hf => ?_)
    · obtain rfl := Option.some.inj hf
      obtain rfl := lpk_r h2
      exact x_sub [5] rfl hk
    · refine x_iload_n 2 (pc := 52) (i := 2) E dX7_findSlip_52 rfl rfl ?_
      refine x_iload_n 3 (pc := 53) (i := 3) E dX7_findSlip_53 rfl rfl ?_
      refine x_iload 4 (pc := 54) E dX7_findSlip_54 rfl ?_
      refine x_callSri (pc := 56) (na := 3) (As := [.int v2, .int v3, .int v4]) E (c_X7_mover G v2 v3 v4 σ) wq_462 wq_5 wq_460 wq_461 rfl rfl (by decide) ⟨Nat.le_of_ble_eq_true rfl, Nat.le_of_ble_eq_true rfl⟩ rfl rfl (Nat.le_of_ble_eq_true rfl) dX7_findSlip_56 hf (fun r6 hf => ?_)
      refine x_istore (pc := 59) (lv' := [(7, .int r6), (0, .ref (gad G 0)), (1, .int v1), (2, .int v2), (3, .int v3), (4, .int v4), (5, .int v5), (6, .int v6)]) E dX7_findSlip_59 (by decide) rfl ?_
      refine x_aload_n 1 (pc := 61) (i := 0) E dX7_findSlip_61 rfl rfl ?_
      refine x_getR (pc := 62) (r := 11) (p := 13) E rfl (Nat.le_of_ble_eq_true rfl) rfl inlX7 (by decide) rfl wq_109 dX7_findSlip_62 ?_
      refine x_iload_n 3 (pc := 65) (i := 2) E dX7_findSlip_65 rfl rfl ?_
      refine x_iload_n 4 (pc := 66) (i := 3) E dX7_findSlip_66 rfl rfl ?_
      refine x_iload 5 (pc := 67) E dX7_findSlip_67 rfl ?_
      refine x_iload_n 2 (pc := 69) (i := 1) E dX7_findSlip_69 rfl rfl ?_
      refine x_callSri (pc := 70) (na := 4) (As := [.int v2, .int v3, .int v4, .int v1]) E (c_X7_index G v2 v3 v4 v1 σ) wq_455 wq_5 wq_453 wq_454 rfl rfl (by decide) ⟨Nat.le_of_ble_eq_true rfl, Nat.le_of_ble_eq_true rfl⟩ rfl rfl (Nat.le_of_ble_eq_true rfl) dX7_findSlip_70 hf (fun r7 hf => ?_)
      refine x_laload (pc := 73) E rfl (Nat.le_of_ble_eq_true rfl) dX7_findSlip_73 hf (fun hf => ?_)
      refine x_lstore (pc := 74) (lv' := [(8, .long (σ.2 11 r7.toNatClampNeg)), (7, .int r6), (0, .ref (gad G 0)), (1, .int v1), (2, .int v2), (3, .int v3), (4, .int v4), (5, .int v5), (6, .int v6)]) E dX7_findSlip_74 (by decide) rfl ?_
      refine x_iload_n 3 (pc := 76) (i := 1) E dX7_findSlip_76 rfl rfl ?_
      refine x_iconst (pc := 77) (v := (1 : Int32)) E dX7_findSlip_77 rfl ?_
      refine x_aload_n 2 (pc := 78) (i := 0) E dX7_findSlip_78 rfl rfl ?_
      refine x_getR (pc := 79) (r := 14) (p := 18) E rfl (Nat.le_of_ble_eq_true rfl) rfl inlX7 (by decide) rfl wq_112 dX7_findSlip_79 ?_
      refine x_iload 8 (pc := 82) E dX7_findSlip_82 rfl ?_
      refine x_iaload (pc := 84) E rfl (Nat.le_of_ble_eq_true rfl) dX7_findSlip_84 hf (fun hf => ?_)
      refine x_ishl (pc := 85) E dX7_findSlip_85 ?_
      refine x_iconst (pc := 86) (v := (-1 : Int32)) E dX7_findSlip_86 rfl ?_
      refine x_ixor (pc := 87) E dX7_findSlip_87 ?_
      refine x_iand (pc := 88) E dX7_findSlip_88 ?_
      refine x_istore_n (pc := 89) (lv' := [(1, .int (v1 &&& (((1 : Int32) <<< ((σ.1 14 v6.toNatClampNeg) &&& 31)) ^^^ (-1 : Int32)))), (8, .long (σ.2 11 r7.toNatClampNeg)), (7, .int r6), (0, .ref (gad G 0)), (2, .int v2), (3, .int v3), (4, .int v4), (5, .int v5), (6, .int v6)]) E dX7_findSlip_89 rfl (by decide) rfl ?_
      refine x_iload 2 (pc := 90) E dX7_findSlip_90 rfl ?_
      obtain ⟨o9, hf11, hf⟩ := bind_some hf
      have hJ10 : XJ shM 21 12 rm_X7_findSlip G K o9.2.2 [(0, .ref (gad G 0)), (1, .int (v1 &&& (((1 : Int32) <<< ((σ.1 14 v6.toNatClampNeg) &&& 31)) ^^^ (-1 : Int32)))), (2, .int o9.1), (3, .int o9.2.1), (5, .int v5), (6, .int v6), (7, .int r6), (8, .long (σ.2 11 r7.toNatClampNeg))] 122 [] := by
        refine x_iconst (pc := 122) (v := (1 : Int32)) E dX7_findSlip_122 rfl ?_
        refine x_iload 6 (pc := 123) E dX7_findSlip_123 rfl ?_
        refine x_isub (pc := 125) E dX7_findSlip_125 ?_
        refine x_istore (pc := 126) (lv' := [(4, .int ((1 : Int32) - r6)), (0, .ref (gad G 0)), (1, .int (v1 &&& (((1 : Int32) <<< ((σ.1 14 v6.toNatClampNeg) &&& 31)) ^^^ (-1 : Int32)))), (2, .int o9.1), (3, .int o9.2.1), (5, .int v5), (6, .int v6), (7, .int r6), (8, .long (σ.2 11 r7.toNatClampNeg))]) E dX7_findSlip_126 (by decide) rfl ?_
        refine x_aload_n 1 (pc := 128) (i := 0) E dX7_findSlip_128 rfl rfl ?_
        refine x_getR (pc := 129) (r := 11) (p := 13) E rfl (Nat.le_of_ble_eq_true rfl) rfl inlX7 (by decide) rfl wq_109 dX7_findSlip_129 ?_
        refine x_iload_n 3 (pc := 132) (i := 2) E dX7_findSlip_132 rfl rfl ?_
        refine x_iload_n 4 (pc := 133) (i := 3) E dX7_findSlip_133 rfl rfl ?_
        refine x_iload 0 (pc := 134) E dX7_findSlip_134 rfl ?_
        refine x_iload_n 2 (pc := 136) (i := 1) E dX7_findSlip_136 rfl rfl ?_
        refine x_callSri (pc := 137) (na := 4) (As := [.int o9.1, .int o9.2.1, .int ((1 : Int32) - r6), .int (v1 &&& (((1 : Int32) <<< ((σ.1 14 v6.toNatClampNeg) &&& 31)) ^^^ (-1 : Int32)))]) E (c_X7_index G o9.1 o9.2.1 ((1 : Int32) - r6) (v1 &&& (((1 : Int32) <<< ((σ.1 14 v6.toNatClampNeg) &&& 31)) ^^^ (-1 : Int32))) o9.2.2) wq_455 wq_5 wq_453 wq_454 rfl rfl (by decide) ⟨Nat.le_of_ble_eq_true rfl, Nat.le_of_ble_eq_true rfl⟩ rfl rfl (Nat.le_of_ble_eq_true rfl) dX7_findSlip_137 hf (fun r12 hf => ?_)
        refine x_laload (pc := 140) E rfl (Nat.le_of_ble_eq_true rfl) dX7_findSlip_140 hf (fun hf => ?_)
        refine x_lstore (pc := 141) (lv' := [(10, .long (o9.2.2.2 11 r12.toNatClampNeg)), (4, .int ((1 : Int32) - r6)), (0, .ref (gad G 0)), (1, .int (v1 &&& (((1 : Int32) <<< ((σ.1 14 v6.toNatClampNeg) &&& 31)) ^^^ (-1 : Int32)))), (2, .int o9.1), (3, .int o9.2.1), (5, .int v5), (6, .int v6), (7, .int r6), (8, .long (σ.2 11 r7.toNatClampNeg))]) E dX7_findSlip_141 (by decide) rfl ?_
        refine x_iload 6 (pc := 143) E dX7_findSlip_143 rfl ?_
        refine x_bipush (pc := 145) (v := (-9 : Int32)) E dX7_findSlip_145 rfl ?_
        refine x_icmp_ne (pc := 147) (tgt := 187) E dX7_findSlip_147 (by decide) hf (fun hf => ?_) (fun hf => ?_)
        · refine x_iinc 7 (pc := 187) (v := v6 + 1) (lv' := [(6, .int (v6 + 1)), (10, .long (o9.2.2.2 11 r12.toNatClampNeg)), (4, .int ((1 : Int32) - r6)), (0, .ref (gad G 0)), (1, .int (v1 &&& (((1 : Int32) <<< ((σ.1 14 v6.toNatClampNeg) &&& 31)) ^^^ (-1 : Int32)))), (2, .int o9.1), (3, .int o9.2.1), (5, .int v5), (7, .int r6), (8, .long (σ.2 11 r7.toNatClampNeg))]) E dX7_findSlip_187 rfl rfl (by decide) rfl ?_
          refine x_goto (pc := 190) (tgt := 43) E dX7_findSlip_190 (by decide) ?_
          obtain rfl := Option.some.inj hf
          exact x_sub [3, 4, 5, 6, 2, 7, 0] rfl (ih _ _ _ _ _ _ _ _ (lpk_l h2) hk)
        · refine x_lload 0 (pc := 150) E dX7_findSlip_150 rfl ?_
          refine x_lload 9 (pc := 152) E dX7_findSlip_152 rfl ?_
          refine x_lcmp_ne (pc := 154) (tgt := 161) E dX7_findSlip_154 dX7_findSlip_155 (by decide) hf (fun hf => ?_) (fun hf => ?_)
          · refine x_iload 7 (pc := 161) E dX7_findSlip_161 rfl ?_
            refine x_istore (pc := 163) (lv' := [(5, .int v6), (10, .long (o9.2.2.2 11 r12.toNatClampNeg)), (4, .int ((1 : Int32) - r6)), (0, .ref (gad G 0)), (1, .int (v1 &&& (((1 : Int32) <<< ((σ.1 14 v6.toNatClampNeg) &&& 31)) ^^^ (-1 : Int32)))), (2, .int o9.1), (3, .int o9.2.1), (6, .int v6), (7, .int r6), (8, .long (σ.2 11 r7.toNatClampNeg))]) E dX7_findSlip_163 (by decide) rfl ?_
            refine x_aload_n 3 (pc := 165) (i := 0) E dX7_findSlip_165 rfl rfl ?_
            refine x_iload 8 (pc := 166) E dX7_findSlip_166 rfl ?_
            refine x_if_ne (y := 0) (pc := 168) (tgt := 179) E dX7_findSlip_168 (by decide) hf (fun hf => ?_) (fun hf => ?_)
            · refine x_lload 1 (pc := 179) E dX7_findSlip_179 rfl ?_
              refine x_lload 9 (pc := 181) E dX7_findSlip_181 rfl ?_
              refine x_lsub (pc := 183) E dX7_findSlip_183 ?_
              refine x_putL (pc := 184) (p := 21) E rfl (Nat.le_of_ble_eq_true rfl) rfl inlX7 tyX7_ok nmX7 (by decide) rfl rfl rfl rfl wq_593 dX7_findSlip_184 hf (fun σ13 hf => ?_)
              refine x_iinc 7 (pc := 187) (v := v6 + 1) (lv' := [(6, .int (v6 + 1)), (5, .int v6), (10, .long (o9.2.2.2 11 r12.toNatClampNeg)), (4, .int ((1 : Int32) - r6)), (0, .ref (gad G 0)), (1, .int (v1 &&& (((1 : Int32) <<< ((σ.1 14 v6.toNatClampNeg) &&& 31)) ^^^ (-1 : Int32)))), (2, .int o9.1), (3, .int o9.2.1), (7, .int r6), (8, .long (σ.2 11 r7.toNatClampNeg))]) E dX7_findSlip_187 rfl rfl (by decide) rfl ?_
              refine x_goto (pc := 190) (tgt := 43) E dX7_findSlip_190 (by decide) ?_
              obtain rfl := Option.some.inj hf
              exact x_sub [4, 5, 6, 7, 3, 1, 0] rfl (ih _ _ _ _ _ _ _ _ (lpk_l h2) hk)
            · refine x_lload 9 (pc := 171) E dX7_findSlip_171 rfl ?_
              refine x_lload 1 (pc := 173) E dX7_findSlip_173 rfl ?_
              refine x_lsub (pc := 175) E dX7_findSlip_175 ?_
              refine x_goto (pc := 176) (tgt := 184) E dX7_findSlip_176 (by decide) ?_
              refine x_putL (pc := 184) (p := 21) E rfl (Nat.le_of_ble_eq_true rfl) rfl inlX7 tyX7_ok nmX7 (by decide) rfl rfl rfl rfl wq_593 dX7_findSlip_184 hf (fun σ14 hf => ?_)
              refine x_iinc 7 (pc := 187) (v := v6 + 1) (lv' := [(6, .int (v6 + 1)), (5, .int v6), (10, .long (o9.2.2.2 11 r12.toNatClampNeg)), (4, .int ((1 : Int32) - r6)), (0, .ref (gad G 0)), (1, .int (v1 &&& (((1 : Int32) <<< ((σ.1 14 v6.toNatClampNeg) &&& 31)) ^^^ (-1 : Int32)))), (2, .int o9.1), (3, .int o9.2.1), (7, .int r6), (8, .long (σ.2 11 r7.toNatClampNeg))]) E dX7_findSlip_187 rfl rfl (by decide) rfl ?_
              refine x_goto (pc := 190) (tgt := 43) E dX7_findSlip_190 (by decide) ?_
              obtain rfl := Option.some.inj hf
              exact x_sub [4, 5, 6, 7, 3, 1, 0] rfl (ih _ _ _ _ _ _ _ _ (lpk_l h2) hk)
          · refine x_goto (pc := 158) (tgt := 187) E dX7_findSlip_158 (by decide) ?_
            refine x_iinc 7 (pc := 187) (v := v6 + 1) (lv' := [(6, .int (v6 + 1)), (10, .long (o9.2.2.2 11 r12.toNatClampNeg)), (4, .int ((1 : Int32) - r6)), (0, .ref (gad G 0)), (1, .int (v1 &&& (((1 : Int32) <<< ((σ.1 14 v6.toNatClampNeg) &&& 31)) ^^^ (-1 : Int32)))), (2, .int o9.1), (3, .int o9.2.1), (5, .int v5), (7, .int r6), (8, .long (σ.2 11 r7.toNatClampNeg))]) E dX7_findSlip_187 rfl rfl (by decide) rfl ?_
            refine x_goto (pc := 190) (tgt := 43) E dX7_findSlip_190 (by decide) ?_
            obtain rfl := Option.some.inj hf
            exact x_sub [3, 4, 5, 6, 2, 7, 0] rfl (ih _ _ _ _ _ _ _ _ (lpk_l h2) hk)
      refine x_if_ne (y := 0) (pc := 92) (tgt := 119) E dX7_findSlip_92 (by decide) hf11 (fun hf11 => ?_) (fun hf11 => ?_)
      · refine x_iinc 5 (pc := 119) (v := v3 + (-1)) (lv' := [(3, .int (v3 + (-1))), (1, .int (v1 &&& (((1 : Int32) <<< ((σ.1 14 v6.toNatClampNeg) &&& 31)) ^^^ (-1 : Int32)))), (8, .long (σ.2 11 r7.toNatClampNeg)), (7, .int r6), (0, .ref (gad G 0)), (2, .int v2), (4, .int v4), (5, .int v5), (6, .int v6)]) E dX7_findSlip_119 rfl rfl (by decide) rfl ?_
        obtain rfl := Option.some.inj hf11
        exact x_sub [4, 1, 5, 0, 7, 8, 3, 2] rfl hJ10
      · refine x_aload_n 3 (pc := 95) (i := 0) E dX7_findSlip_95 rfl rfl ?_
        refine x_dup (pc := 96) E dX7_findSlip_96 rfl ?_
        refine x_getI (pc := 97) (p := 20) E rfl (Nat.le_of_ble_eq_true rfl) rfl inlX7 (by decide) rfl wq_598 dX7_findSlip_97 ?_
        refine x_iconst (pc := 100) (v := (1 : Int32)) E dX7_findSlip_100 rfl ?_
        refine x_aload_n 3 (pc := 101) (i := 0) E dX7_findSlip_101 rfl rfl ?_
        refine x_getR (pc := 102) (r := 14) (p := 18) E rfl (Nat.le_of_ble_eq_true rfl) rfl inlX7 (by decide) rfl wq_112 dX7_findSlip_102 ?_
        refine x_iload 8 (pc := 105) E dX7_findSlip_105 rfl ?_
        refine x_iaload (pc := 107) E rfl (Nat.le_of_ble_eq_true rfl) dX7_findSlip_107 hf11 (fun hf11 => ?_)
        refine x_ishl (pc := 108) E dX7_findSlip_108 ?_
        refine x_ior (pc := 109) E dX7_findSlip_109 ?_
        refine x_put (pc := 110) (p := 20) E rfl (Nat.le_of_ble_eq_true rfl) rfl inlX7 tyX7_ok nmX7 (by decide) rfl rfl rfl rfl wq_598 dX7_findSlip_110 hf11 (fun σ15 hf11 => ?_)
        refine x_iinc 4 (pc := 113) (v := v2 + (-1)) (lv' := [(2, .int (v2 + (-1))), (1, .int (v1 &&& (((1 : Int32) <<< ((σ.1 14 v6.toNatClampNeg) &&& 31)) ^^^ (-1 : Int32)))), (8, .long (σ.2 11 r7.toNatClampNeg)), (7, .int r6), (0, .ref (gad G 0)), (3, .int v3), (4, .int v4), (5, .int v5), (6, .int v6)]) E dX7_findSlip_113 rfl rfl (by decide) rfl ?_
        refine x_goto (pc := 116) (tgt := 122) E dX7_findSlip_116 (by decide) ?_
        obtain rfl := Option.some.inj hf11
        exact x_sub [4, 1, 0, 5, 7, 8, 3, 2] rfl hJ10
set_option maxHeartbeats 4000000 in
set_option maxRecDepth 100000 in
theorem c_X7_findSlip (G : Gx) (σ : MM) (r : Int32) (σ' : MM) (hf : f_X7_findSlip σ = some (r, σ')) : Ct shM 21 yX7_findSlip cX7_findSlip 12 (some .int) rm_X7_findSlip G [.ref (gad G 0)] σ (some (.int r)) σ' := by
  refine ct_of (by decide) (Nat.le_of_ble_eq_true rfl) (fun K E hR => ?_)
  have E : OKc 21 cX7_findSlip 12 RX7 G K := E
  show XJ shM 21 12 rm_X7_findSlip G K σ [(0, .ref (gad G 0))] 0 []
  unfold f_X7_findSlip at hf
  refine x_aload_n 0 (pc := 0) (i := 0) E dX7_findSlip_0 rfl rfl ?_
  refine x_callVwv (pc := 1) (na := 0) (As := []) E (c_X7_findTurns G σ) rfl (Nat.le_of_ble_eq_true rfl) rfl wq_524 wq_5 wq_521 wq_522 wq_523 rfl rfl (by decide) ⟨Nat.le_of_ble_eq_true rfl, Nat.le_of_ble_eq_true rfl⟩ rfl rfl (Nat.le_of_ble_eq_true rfl) dX7_findSlip_1 hf (fun σ2 hf => ?_)
  refine x_aload_n 0 (pc := 4) (i := 0) E dX7_findSlip_4 rfl rfl ?_
  refine x_callVri (pc := 5) (na := 0) (As := []) E (c_X7_called G σ2) rfl (Nat.le_of_ble_eq_true rfl) rfl wq_528 wq_5 wq_525 wq_526 wq_527 rfl rfl (by decide) ⟨Nat.le_of_ble_eq_true rfl, Nat.le_of_ble_eq_true rfl⟩ rfl rfl (Nat.le_of_ble_eq_true rfl) dX7_findSlip_5 hf (fun r3 hf => ?_)
  refine x_istore_n (pc := 8) (lv' := [(1, .int r3), (0, .ref (gad G 0))]) E dX7_findSlip_8 rfl (by decide) rfl ?_
  refine x_aload_n 1 (pc := 9) (i := 0) E dX7_findSlip_9 rfl rfl ?_
  refine x_getR (pc := 10) (r := 4) (p := 3) E rfl (Nat.le_of_ble_eq_true rfl) rfl inlX7 (by decide) rfl wq_101 dX7_findSlip_10 ?_
  refine x_iconst (pc := 13) (v := (1 : Int32)) E dX7_findSlip_13 rfl ?_
  refine x_iaload (pc := 14) E rfl (Nat.le_of_ble_eq_true rfl) dX7_findSlip_14 hf (fun hf => ?_)
  refine x_istore_n (pc := 15) (lv' := [(2, .int (σ2.1 4 (1 : Int32).toNatClampNeg)), (1, .int r3), (0, .ref (gad G 0))]) E dX7_findSlip_15 rfl (by decide) rfl ?_
  refine x_aload_n 2 (pc := 16) (i := 0) E dX7_findSlip_16 rfl rfl ?_
  refine x_getR (pc := 17) (r := 4) (p := 3) E rfl (Nat.le_of_ble_eq_true rfl) rfl inlX7 (by decide) rfl wq_101 dX7_findSlip_17 ?_
  refine x_iconst (pc := 20) (v := (2 : Int32)) E dX7_findSlip_20 rfl ?_
  refine x_iaload (pc := 21) E rfl (Nat.le_of_ble_eq_true rfl) dX7_findSlip_21 hf (fun hf => ?_)
  refine x_istore_n (pc := 22) (lv' := [(3, .int (σ2.1 4 (2 : Int32).toNatClampNeg)), (2, .int (σ2.1 4 (1 : Int32).toNatClampNeg)), (1, .int r3), (0, .ref (gad G 0))]) E dX7_findSlip_22 rfl (by decide) rfl ?_
  refine x_iconst (pc := 23) (v := (0 : Int32)) E dX7_findSlip_23 rfl ?_
  refine x_istore (pc := 24) (lv' := [(4, .int (0 : Int32)), (3, .int (σ2.1 4 (2 : Int32).toNatClampNeg)), (2, .int (σ2.1 4 (1 : Int32).toNatClampNeg)), (1, .int r3), (0, .ref (gad G 0))]) E dX7_findSlip_24 (by decide) rfl ?_
  refine x_bipush (pc := 26) (v := (-9 : Int32)) E dX7_findSlip_26 rfl ?_
  refine x_istore (pc := 28) (lv' := [(5, .int (-9 : Int32)), (4, .int (0 : Int32)), (3, .int (σ2.1 4 (2 : Int32).toNatClampNeg)), (2, .int (σ2.1 4 (1 : Int32).toNatClampNeg)), (1, .int r3), (0, .ref (gad G 0))]) E dX7_findSlip_28 (by decide) rfl ?_
  refine x_aload_n 5 (pc := 30) (i := 0) E dX7_findSlip_30 rfl rfl ?_
  refine x_lconst (pc := 31) (v := 0) E dX7_findSlip_31 rfl ?_
  refine x_putL (pc := 32) (p := 21) E rfl (Nat.le_of_ble_eq_true rfl) rfl inlX7 tyX7_ok nmX7 (by decide) rfl rfl rfl rfl wq_593 dX7_findSlip_32 hf (fun σ4 hf => ?_)
  refine x_aload_n 5 (pc := 35) (i := 0) E dX7_findSlip_35 rfl rfl ?_
  refine x_iconst (pc := 36) (v := (0 : Int32)) E dX7_findSlip_36 rfl ?_
  refine x_put (pc := 37) (p := 20) E rfl (Nat.le_of_ble_eq_true rfl) rfl inlX7 tyX7_ok nmX7 (by decide) rfl rfl rfl rfl wq_598 dX7_findSlip_37 hf (fun σ5 hf => ?_)
  refine x_iconst (pc := 40) (v := (0 : Int32)) E dX7_findSlip_40 rfl ?_
  refine x_istore (pc := 41) (lv' := [(6, .int (0 : Int32)), (5, .int (-9 : Int32)), (4, .int (0 : Int32)), (3, .int (σ2.1 4 (2 : Int32).toNatClampNeg)), (2, .int (σ2.1 4 (1 : Int32).toNatClampNeg)), (1, .int r3), (0, .ref (gad G 0))]) E dX7_findSlip_41 (by decide) rfl ?_
  obtain ⟨o16, hl17, hf⟩ := bind_some hf
  refine x_sub [6, 5, 4, 3, 2, 1, 0] rfl (l_X7_findSlip_43 G    E FU _ _ _ _ _ _ _ o16 hl17 ?_)
  refine x_iload 0 (pc := 193) E dX7_findSlip_193 rfl ?_
  obtain ⟨rfl, rfl⟩ := Prod.mk.inj (Option.some.inj hf)
  exact x_iret (pc := 195) E hR dX7_findSlip_195
