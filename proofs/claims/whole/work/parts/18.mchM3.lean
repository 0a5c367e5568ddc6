set_option maxHeartbeats 4000000 in
set_option maxRecDepth 100000 in
theorem c_X7_slip (G : Gx) (v1 : Int32) (σ : MM) (r : Int64) (σ' : MM) (hf : f_X7_slip v1 σ = some (r, σ')) : Ct shM 21 yX7_slip cX7_slip 3 (some .long) rm_X7_slip G [.ref (gad G 0), .int v1] σ (some (.long r)) σ' := by
  refine ct_of (by decide) (Nat.le_of_ble_eq_true rfl) (fun K E hR => ?_)
  have E : OKc 21 cX7_slip 3 RX7 G K := E
  show XJ shM 21 3 rm_X7_slip G K σ [(0, .ref (gad G 0)), (1, .int v1)] 0 []
  unfold f_X7_slip at hf
  refine x_aload_n 0 (pc := 0) (i := 0) E dX7_slip_0 rfl rfl ?_
  refine x_callVri (pc := 1) (na := 0) (As := []) E (c_X7_isEnough G σ) rfl (Nat.le_of_ble_eq_true rfl) rfl wq_516 wq_5 wq_513 wq_514 wq_515 rfl rfl (by decide) ⟨Nat.le_of_ble_eq_true rfl, Nat.le_of_ble_eq_true rfl⟩ rfl rfl (Nat.le_of_ble_eq_true rfl) dX7_slip_1 hf (fun r1 hf => ?_)
  refine x_if_eq (y := 0) (pc := 4) (tgt := 14) E dX7_slip_4 (by decide) hf (fun hf => ?_) (fun hf => ?_)
  · refine x_aload_n 0 (pc := 14) (i := 0) E dX7_slip_14 rfl rfl ?_
    refine x_bipush (pc := 15) (v := (-3 : Int32)) E dX7_slip_15 rfl ?_
    refine x_callVwl (pc := 17) (na := 1) (As := [.int (-3 : Int32)]) E (c_X7_noLong G (-3 : Int32) σ) rfl (Nat.le_of_ble_eq_true rfl) rfl wq_352 wq_5 wq_349 wq_350 wq_351 rfl rfl (by decide) ⟨Nat.le_of_ble_eq_true rfl, Nat.le_of_ble_eq_true rfl⟩ rfl rfl (Nat.le_of_ble_eq_true rfl) dX7_slip_17 hf (fun r2 σ3 hf => ?_)
    obtain ⟨rfl, rfl⟩ := Prod.mk.inj (Option.some.inj hf)
    exact x_lret (pc := 20) E hR dX7_slip_20
  · refine x_aload_n 0 (pc := 7) (i := 0) E dX7_slip_7 rfl rfl ?_
    refine x_callVri (pc := 8) (na := 0) (As := []) E (c_X7_isLawful G σ) rfl (Nat.le_of_ble_eq_true rfl) rfl wq_580 wq_5 wq_577 wq_578 wq_579 rfl rfl (by decide) ⟨Nat.le_of_ble_eq_true rfl, Nat.le_of_ble_eq_true rfl⟩ rfl rfl (Nat.le_of_ble_eq_true rfl) dX7_slip_8 hf (fun r4 hf => ?_)
    refine x_if_ne (y := 0) (pc := 11) (tgt := 21) E dX7_slip_11 (by decide) hf (fun hf => ?_) (fun hf => ?_)
    · refine x_aload_n 0 (pc := 21) (i := 0) E dX7_slip_21 rfl rfl ?_
      refine x_callVwi (pc := 22) (na := 0) (As := []) E (c_X7_findSlip G σ) rfl (Nat.le_of_ble_eq_true rfl) rfl wq_597 wq_5 wq_594 wq_595 wq_596 rfl rfl (by decide) ⟨Nat.le_of_ble_eq_true rfl, Nat.le_of_ble_eq_true rfl⟩ rfl rfl (Nat.le_of_ble_eq_true rfl) dX7_slip_22 hf (fun r5 σ6 hf => ?_)
      refine x_istore_n (pc := 25) (lv' := [(2, .int r5), (0, .ref (gad G 0)), (1, .int v1)]) E dX7_slip_25 rfl (by decide) rfl ?_
      refine x_iload_n 2 (pc := 26) (i := 1) E dX7_slip_26 rfl rfl ?_
      refine x_if_eq (y := 0) (pc := 27) (tgt := 37) E dX7_slip_27 (by decide) hf (fun hf => ?_) (fun hf => ?_)
      · refine x_iload_n 0 (pc := 37) (i := 2) E dX7_slip_37 rfl rfl ?_
        refine x_i2l (pc := 38) E dX7_slip_38 ?_
        obtain ⟨rfl, rfl⟩ := Prod.mk.inj (Option.some.inj hf)
        exact x_lret (pc := 39) E hR dX7_slip_39
      · refine x_aload_n 1 (pc := 30) (i := 0) E dX7_slip_30 rfl rfl ?_
        refine x_getJ (pc := 31) (p := 21) E rfl (Nat.le_of_ble_eq_true rfl) rfl inlX7 (by decide) rfl wq_593 dX7_slip_31 ?_
        refine x_goto (pc := 34) (tgt := 39) E dX7_slip_34 (by decide) ?_
        obtain ⟨rfl, rfl⟩ := Prod.mk.inj (Option.some.inj hf)
        exact x_lret (pc := 39) E hR dX7_slip_39
    · refine x_aload_n 0 (pc := 14) (i := 0) E dX7_slip_14 rfl rfl ?_
      refine x_bipush (pc := 15) (v := (-3 : Int32)) E dX7_slip_15 rfl ?_
      refine x_callVwl (pc := 17) (na := 1) (As := [.int (-3 : Int32)]) E (c_X7_noLong G (-3 : Int32) σ) rfl (Nat.le_of_ble_eq_true rfl) rfl wq_352 wq_5 wq_349 wq_350 wq_351 rfl rfl (by decide) ⟨Nat.le_of_ble_eq_true rfl, Nat.le_of_ble_eq_true rfl⟩ rfl rfl (Nat.le_of_ble_eq_true rfl) dX7_slip_17 hf (fun r7 σ8 hf => ?_)
      obtain ⟨rfl, rfl⟩ := Prod.mk.inj (Option.some.inj hf)
      exact x_lret (pc := 20) E hR dX7_slip_20
set_option maxHeartbeats 4000000 in
set_option maxRecDepth 100000 in
theorem c_X7_second (G : Gx) (σ : MM) (r : Int64) (σ' : MM) (hf : f_X7_second σ = some (r, σ')) : Ct shM 21 yX7_second cX7_second 1 (some .long) rm_X7_second G [.ref (gad G 0)] σ (some (.long r)) σ' := by
  refine ct_of (by decide) (Nat.le_of_ble_eq_true rfl) (fun K E hR => ?_)
  have E : OKc 21 cX7_second 1 RX7 G K := E
  show XJ shM 21 1 rm_X7_second G K σ [(0, .ref (gad G 0))] 0 []
  unfold f_X7_second at hf
  refine x_aload_n 0 (pc := 0) (i := 0) E dX7_second_0 rfl rfl ?_
  refine x_callVri (pc := 1) (na := 0) (As := []) E (c_X7_isEnough G σ) rfl (Nat.le_of_ble_eq_true rfl) rfl wq_516 wq_5 wq_513 wq_514 wq_515 rfl rfl (by decide) ⟨Nat.le_of_ble_eq_true rfl, Nat.le_of_ble_eq_true rfl⟩ rfl rfl (Nat.le_of_ble_eq_true rfl) dX7_second_1 hf (fun r1 hf => ?_)
  refine x_if_ne (y := 0) (pc := 4) (tgt := 14) E dX7_second_4 (by decide) hf (fun hf => ?_) (fun hf => ?_)
  · refine x_aload_n 0 (pc := 14) (i := 0) E dX7_second_14 rfl rfl ?_
    refine x_callVwv (pc := 15) (na := 0) (As := []) E (c_X7_findTurns G σ) rfl (Nat.le_of_ble_eq_true rfl) rfl wq_524 wq_5 wq_521 wq_522 wq_523 rfl rfl (by decide) ⟨Nat.le_of_ble_eq_true rfl, Nat.le_of_ble_eq_true rfl⟩ rfl rfl (Nat.le_of_ble_eq_true rfl) dX7_second_15 hf (fun σ3 hf => ?_)
    refine x_aload_n 0 (pc := 18) (i := 0) E dX7_second_18 rfl rfl ?_
    refine x_getR (pc := 19) (r := 11) (p := 13) E rfl (Nat.le_of_ble_eq_true rfl) rfl inlX7 (by decide) rfl wq_109 dX7_second_19 ?_
    refine x_aload_n 0 (pc := 22) (i := 0) E dX7_second_22 rfl rfl ?_
    refine x_getR (pc := 23) (r := 4) (p := 3) E rfl (Nat.le_of_ble_eq_true rfl) rfl inlX7 (by decide) rfl wq_101 dX7_second_23 ?_
    refine x_iconst (pc := 26) (v := (1 : Int32)) E dX7_second_26 rfl ?_
    refine x_iaload (pc := 27) E rfl (Nat.le_of_ble_eq_true rfl) dX7_second_27 hf (fun hf => ?_)
    refine x_aload_n 0 (pc := 28) (i := 0) E dX7_second_28 rfl rfl ?_
    refine x_getR (pc := 29) (r := 4) (p := 3) E rfl (Nat.le_of_ble_eq_true rfl) rfl inlX7 (by decide) rfl wq_101 dX7_second_29 ?_
    refine x_iconst (pc := 32) (v := (2 : Int32)) E dX7_second_32 rfl ?_
    refine x_iaload (pc := 33) E rfl (Nat.le_of_ble_eq_true rfl) dX7_second_33 hf (fun hf => ?_)
    refine x_iconst (pc := 34) (v := (1 : Int32)) E dX7_second_34 rfl ?_
    refine x_aload_n 0 (pc := 35) (i := 0) E dX7_second_35 rfl rfl ?_
    refine x_callVri (pc := 36) (na := 0) (As := []) E (c_X7_called G σ3) rfl (Nat.le_of_ble_eq_true rfl) rfl wq_528 wq_5 wq_525 wq_526 wq_527 rfl rfl (by decide) ⟨Nat.le_of_ble_eq_true rfl, Nat.le_of_ble_eq_true rfl⟩ rfl rfl (Nat.le_of_ble_eq_true rfl) dX7_second_36 hf (fun r4 hf => ?_)
    refine x_callSri (pc := 39) (na := 4) (As := [.int (σ3.1 4 (1 : Int32).toNatClampNeg), .int (σ3.1 4 (2 : Int32).toNatClampNeg), .int (1 : Int32), .int r4]) E (c_X7_index G (σ3.1 4 (1 : Int32).toNatClampNeg) (σ3.1 4 (2 : Int32).toNatClampNeg) (1 : Int32) r4 σ3) wq_455 wq_5 wq_453 wq_454 rfl rfl (by decide) ⟨Nat.le_of_ble_eq_true rfl, Nat.le_of_ble_eq_true rfl⟩ rfl rfl (Nat.le_of_ble_eq_true rfl) dX7_second_39 hf (fun r5 hf => ?_)
    refine x_laload (pc := 42) E rfl (Nat.le_of_ble_eq_true rfl) dX7_second_42 hf (fun hf => ?_)
    refine x_aload_n 0 (pc := 43) (i := 0) E dX7_second_43 rfl rfl ?_
    refine x_callVrl (pc := 44) (na := 0) (As := []) E (c_X7_turnsOf G σ3) rfl (Nat.le_of_ble_eq_true rfl) rfl wq_532 wq_5 wq_529 wq_530 wq_531 rfl rfl (by decide) ⟨Nat.le_of_ble_eq_true rfl, Nat.le_of_ble_eq_true rfl⟩ rfl rfl (Nat.le_of_ble_eq_true rfl) dX7_second_44 hf (fun r6 hf => ?_)
    refine x_lsub (pc := 47) E dX7_second_47 ?_
    obtain ⟨rfl, rfl⟩ := Prod.mk.inj (Option.some.inj hf)
    exact x_lret (pc := 48) E hR dX7_second_48
  · refine x_aload_n 0 (pc := 7) (i := 0) E dX7_second_7 rfl rfl ?_
    refine x_bipush (pc := 8) (v := (-3 : Int32)) E dX7_second_8 rfl ?_
    refine x_callVwl (pc := 10) (na := 1) (As := [.int (-3 : Int32)]) E (c_X7_noLong G (-3 : Int32) σ) rfl (Nat.le_of_ble_eq_true rfl) rfl wq_352 wq_5 wq_349 wq_350 wq_351 rfl rfl (by decide) ⟨Nat.le_of_ble_eq_true rfl, Nat.le_of_ble_eq_true rfl⟩ rfl rfl (Nat.le_of_ble_eq_true rfl) dX7_second_10 hf (fun r7 σ8 hf => ?_)
    obtain ⟨rfl, rfl⟩ := Prod.mk.inj (Option.some.inj hf)
    exact x_lret (pc := 13) E hR dX7_second_13
set_option maxHeartbeats 4000000 in
set_option maxRecDepth 100000 in
theorem c_X7_more (G : Gx) (v1 : Int32) (σ : MM) (r : Int64) (σ' : MM) (hf : f_X7_more v1 σ = some (r, σ')) : Ct shM 21 yX7_more cX7_more 6 (some .long) rm_X7_more G [.ref (gad G 0), .int v1] σ (some (.long r)) σ' := by
  refine ct_of (by decide) (Nat.le_of_ble_eq_true rfl) (fun K E hR => ?_)
  have E : OKc 21 cX7_more 6 RX7 G K := E
  show XJ shM 21 6 rm_X7_more G K σ [(0, .ref (gad G 0)), (1, .int v1)] 0 []
  unfold f_X7_more at hf
  refine x_iload_n 1 (pc := 0) (i := 1) E dX7_more_0 rfl rfl ?_
  refine x_iconst (pc := 1) (v := (0 : Int32)) E dX7_more_1 rfl ?_
  refine x_iconst (pc := 2) (v := (1 : Int32)) E dX7_more_2 rfl ?_
  refine x_callSri (pc := 3) (na := 3) (As := [.int v1, .int (0 : Int32), .int (1 : Int32)]) E (c_X7_isIn G v1 (0 : Int32) (1 : Int32) σ) wq_185 wq_5 wq_183 wq_184 rfl rfl (by decide) ⟨Nat.le_of_ble_eq_true rfl, Nat.le_of_ble_eq_true rfl⟩ rfl rfl (Nat.le_of_ble_eq_true rfl) dX7_more_3 hf (fun r1 hf => ?_)
  refine x_if_ne (y := 0) (pc := 6) (tgt := 15) E dX7_more_6 (by decide) hf (fun hf => ?_) (fun hf => ?_)
  · refine x_aload_n 0 (pc := 15) (i := 0) E dX7_more_15 rfl rfl ?_
    refine x_callVri (pc := 16) (na := 0) (As := []) E (c_X7_calledMany G σ) rfl (Nat.le_of_ble_eq_true rfl) rfl wq_520 wq_5 wq_517 wq_518 wq_519 rfl rfl (by decide) ⟨Nat.le_of_ble_eq_true rfl, Nat.le_of_ble_eq_true rfl⟩ rfl rfl (Nat.le_of_ble_eq_true rfl) dX7_more_16 hf (fun r2 hf => ?_)
    refine x_iconst (pc := 19) (v := (1 : Int32)) E dX7_more_19 rfl ?_
    refine x_iadd (pc := 20) E dX7_more_20 ?_
    refine x_aload_n 0 (pc := 21) (i := 0) E dX7_more_21 rfl rfl ?_
    refine x_getI (pc := 22) (p := 6) E rfl (Nat.le_of_ble_eq_true rfl) rfl inlX7 (by decide) rfl wq_164 dX7_more_22 ?_
    refine x_icmp_gt (pc := 25) (tgt := 40) E dX7_more_25 (by decide) hf (fun hf => ?_) (fun hf => ?_)
    · refine x_aload_n 0 (pc := 40) (i := 0) E dX7_more_40 rfl rfl ?_
      refine x_bipush (pc := 41) (v := (-3 : Int32)) E dX7_more_41 rfl ?_
      refine x_callVwl (pc := 43) (na := 1) (As := [.int (-3 : Int32)]) E (c_X7_noLong G (-3 : Int32) σ) rfl (Nat.le_of_ble_eq_true rfl) rfl wq_352 wq_5 wq_349 wq_350 wq_351 rfl rfl (by decide) ⟨Nat.le_of_ble_eq_true rfl, Nat.le_of_ble_eq_true rfl⟩ rfl rfl (Nat.le_of_ble_eq_true rfl) dX7_more_43 hf (fun r3 σ4 hf => ?_)
      obtain ⟨rfl, rfl⟩ := Prod.mk.inj (Option.some.inj hf)
      exact x_lret (pc := 46) E hR dX7_more_46
    · refine x_aload_n 0 (pc := 28) (i := 0) E dX7_more_28 rfl rfl ?_
      refine x_getR (pc := 29) (r := 4) (p := 3) E rfl (Nat.le_of_ble_eq_true rfl) rfl inlX7 (by decide) rfl wq_101 dX7_more_29 ?_
      refine x_iconst (pc := 32) (v := (1 : Int32)) E dX7_more_32 rfl ?_
      refine x_iload_n 1 (pc := 33) (i := 1) E dX7_more_33 rfl rfl ?_
      refine x_iadd (pc := 34) E dX7_more_34 ?_
      refine x_iaload (pc := 35) E rfl (Nat.le_of_ble_eq_true rfl) dX7_more_35 hf (fun hf => ?_)
      refine x_iconst (pc := 36) (v := (3 : Int32)) E dX7_more_36 rfl ?_
      refine x_icmp_ne (pc := 37) (tgt := 47) E dX7_more_37 (by decide) hf (fun hf => ?_) (fun hf => ?_)
      · refine x_aload_n 0 (pc := 47) (i := 0) E dX7_more_47 rfl rfl ?_
        refine x_callVwv (pc := 48) (na := 0) (As := []) E (c_X7_findTurns G σ) rfl (Nat.le_of_ble_eq_true rfl) rfl wq_524 wq_5 wq_521 wq_522 wq_523 rfl rfl (by decide) ⟨Nat.le_of_ble_eq_true rfl, Nat.le_of_ble_eq_true rfl⟩ rfl rfl (Nat.le_of_ble_eq_true rfl) dX7_more_48 hf (fun σ6 hf => ?_)
        refine x_aload_n 0 (pc := 51) (i := 0) E dX7_more_51 rfl rfl ?_
        refine x_callVrl (pc := 52) (na := 0) (As := []) E (c_X7_turnsOf G σ6) rfl (Nat.le_of_ble_eq_true rfl) rfl wq_532 wq_5 wq_529 wq_530 wq_531 rfl rfl (by decide) ⟨Nat.le_of_ble_eq_true rfl, Nat.le_of_ble_eq_true rfl⟩ rfl rfl (Nat.le_of_ble_eq_true rfl) dX7_more_52 hf (fun r7 hf => ?_)
        refine x_lstore_n (pc := 55) (lv' := [(2, .long r7), (0, .ref (gad G 0)), (1, .int v1)]) E dX7_more_55 rfl (by decide) rfl ?_
        refine x_aload_n 1 (pc := 56) (i := 0) E dX7_more_56 rfl rfl ?_
        refine x_getR (pc := 57) (r := 4) (p := 3) E rfl (Nat.le_of_ble_eq_true rfl) rfl inlX7 (by decide) rfl wq_101 dX7_more_57 ?_
        refine x_iconst (pc := 60) (v := (1 : Int32)) E dX7_more_60 rfl ?_
        refine x_iload_n 2 (pc := 61) (i := 1) E dX7_more_61 rfl rfl ?_
        refine x_iadd (pc := 62) E dX7_more_62 ?_
        refine x_dup2 (pc := 63) E dX7_more_63 rfl rfl ?_
        refine x_iaload (pc := 64) E rfl (Nat.le_of_ble_eq_true rfl) dX7_more_64 hf (fun hf => ?_)
        refine x_iconst (pc := 65) (v := (1 : Int32)) E dX7_more_65 rfl ?_
        refine x_iadd (pc := 66) E dX7_more_66 ?_
        refine x_iastore (pc := 67) E rfl (Nat.le_of_ble_eq_true rfl) dX7_more_67 hf (fun σ8 hf => ?_)
        refine x_aload_n 1 (pc := 68) (i := 0) E dX7_more_68 rfl rfl ?_
        refine x_callVwv (pc := 69) (na := 0) (As := []) E (c_X7_findTurns G σ8) rfl (Nat.le_of_ble_eq_true rfl) rfl wq_524 wq_5 wq_521 wq_522 wq_523 rfl rfl (by decide) ⟨Nat.le_of_ble_eq_true rfl, Nat.le_of_ble_eq_true rfl⟩ rfl rfl (Nat.le_of_ble_eq_true rfl) dX7_more_69 hf (fun σ10 hf => ?_)
        refine x_aload_n 1 (pc := 72) (i := 0) E dX7_more_72 rfl rfl ?_
        refine x_callVrl (pc := 73) (na := 0) (As := []) E (c_X7_turnsOf G σ10) rfl (Nat.le_of_ble_eq_true rfl) rfl wq_532 wq_5 wq_529 wq_530 wq_531 rfl rfl (by decide) ⟨Nat.le_of_ble_eq_true rfl, Nat.le_of_ble_eq_true rfl⟩ rfl rfl (Nat.le_of_ble_eq_true rfl) dX7_more_73 hf (fun r11 hf => ?_)
        refine x_lstore (pc := 76) (lv' := [(4, .long r11), (2, .long r7), (0, .ref (gad G 0)), (1, .int v1)]) E dX7_more_76 (by decide) rfl ?_
        refine x_aload_n 2 (pc := 78) (i := 0) E dX7_more_78 rfl rfl ?_
        refine x_getR (pc := 79) (r := 4) (p := 3) E rfl (Nat.le_of_ble_eq_true rfl) rfl inlX7 (by decide) rfl wq_101 dX7_more_79 ?_
        refine x_iconst (pc := 82) (v := (1 : Int32)) E dX7_more_82 rfl ?_
        refine x_iload_n 3 (pc := 83) (i := 1) E dX7_more_83 rfl rfl ?_
        refine x_iadd (pc := 84) E dX7_more_84 ?_
        refine x_dup2 (pc := 85) E dX7_more_85 rfl rfl ?_
        refine x_iaload (pc := 86) E rfl (Nat.le_of_ble_eq_true rfl) dX7_more_86 hf (fun hf => ?_)
        refine x_iconst (pc := 87) (v := (1 : Int32)) E dX7_more_87 rfl ?_
        refine x_isub (pc := 88) E dX7_more_88 ?_
        refine x_iastore (pc := 89) E rfl (Nat.le_of_ble_eq_true rfl) dX7_more_89 hf (fun σ12 hf => ?_)
        refine x_iload_n 3 (pc := 90) (i := 1) E dX7_more_90 rfl rfl ?_
        refine x_if_ne (y := 0) (pc := 91) (tgt := 101) E dX7_more_91 (by decide) hf (fun hf => ?_) (fun hf => ?_)
        · refine x_lload_n 1 (pc := 101) (i := 2) E dX7_more_101 rfl rfl ?_
          refine x_lload 0 (pc := 102) E dX7_more_102 rfl ?_
          refine x_lsub (pc := 104) E dX7_more_104 ?_
          obtain ⟨rfl, rfl⟩ := Prod.mk.inj (Option.some.inj hf)
          exact x_lret (pc := 105) E hR dX7_more_105
        · refine x_lload 0 (pc := 94) E dX7_more_94 rfl ?_
          refine x_lload_n 1 (pc := 96) (i := 2) E dX7_more_96 rfl rfl ?_
          refine x_lsub (pc := 97) E dX7_more_97 ?_
          refine x_goto (pc := 98) (tgt := 105) E dX7_more_98 (by decide) ?_
          obtain ⟨rfl, rfl⟩ := Prod.mk.inj (Option.some.inj hf)
          exact x_lret (pc := 105) E hR dX7_more_105
      · refine x_aload_n 0 (pc := 40) (i := 0) E dX7_more_40 rfl rfl ?_
        refine x_bipush (pc := 41) (v := (-3 : Int32)) E dX7_more_41 rfl ?_
        refine x_callVwl (pc := 43) (na := 1) (As := [.int (-3 : Int32)]) E (c_X7_noLong G (-3 : Int32) σ) rfl (Nat.le_of_ble_eq_true rfl) rfl wq_352 wq_5 wq_349 wq_350 wq_351 rfl rfl (by decide) ⟨Nat.le_of_ble_eq_true rfl, Nat.le_of_ble_eq_true rfl⟩ rfl rfl (Nat.le_of_ble_eq_true rfl) dX7_more_43 hf (fun r13 σ14 hf => ?_)
        obtain ⟨rfl, rfl⟩ := Prod.mk.inj (Option.some.inj hf)
        exact x_lret (pc := 46) E hR dX7_more_46
  · refine x_aload_n 0 (pc := 9) (i := 0) E dX7_more_9 rfl rfl ?_
    refine x_iconst (pc := 10) (v := (-1 : Int32)) E dX7_more_10 rfl ?_
    refine x_callVwl (pc := 11) (na := 1) (As := [.int (-1 : Int32)]) E (c_X7_noLong G (-1 : Int32) σ) rfl (Nat.le_of_ble_eq_true rfl) rfl wq_352 wq_5 wq_349 wq_350 wq_351 rfl rfl (by decide) ⟨Nat.le_of_ble_eq_true rfl, Nat.le_of_ble_eq_true rfl⟩ rfl rfl (Nat.le_of_ble_eq_true rfl) dX7_more_11 hf (fun r15 σ16 hf => ?_)
    obtain ⟨rfl, rfl⟩ := Prod.mk.inj (Option.some.inj hf)
    exact x_lret (pc := 14) E hR dX7_more_14
set_option maxHeartbeats 4000000 in
set_option maxRecDepth 100000 in
theorem l_X7_juryOf_20 (G : Gx) {K : Kx}   (v3 : Int32) (σ : MM) (E : OKc 21 cX7_juryOf 7 RX7 G K) : ∀ (m : Nat) (v4 : Int32) (v5 : Int32) (v6 : Int32) (out : Int32), loopN (fun s => g_X7_juryOf_20 v3 s.1 s.2.1 s.2.2 σ) m (v4, v5, v6) = some out → XJ shM 21 7 rm_X7_juryOf G K σ [(4, .int out)] 66 [] → XJ shM 21 7 rm_X7_juryOf G K σ [(0, .ref (gad G 0)), (3, .int v3), (4, .int v4), (5, .int v5), (6, .int v6)] 20 [] := by
  intro m
  induction m with
  | zero => intro v4 v5 v6 out hf; exact (loopN_0 hf).elim
  | succ m ih =>
    intro v4 v5 v6 out hf hk
    obtain ⟨q, hf, h2⟩ := loopN_s hf
    have hf : g_X7_juryOf_20 v3 v4 v5 v6 σ = some q := hf
    unfold g_X7_juryOf_20 at hf
    refine x_iload 4 (pc := 20) E dX7_juryOf_20 rfl ?_
    refine x_bipush (pc := 22) (v := (12 : Int32)) E dX7_juryOf_22 rfl ?_
    refine x_icmp_ge (pc := 24) (tgt := 66) E dX7_juryOf_24 (by decide) hf (fun hf => ?_) (fun hf => ?_)
    · obtain rfl := Option.some.inj hf
      obtain rfl := lpk_r h2
      exact x_sub [2] rfl hk
    · refine x_iload 3 (pc := 27) E dX7_juryOf_27 rfl ?_
      refine x_aload_n 0 (pc := 29) (i := 0) E dX7_juryOf_29 rfl rfl ?_
      refine x_callVri (pc := 30) (na := 0) (As := []) E (c_X7_needed G σ) rfl (Nat.le_of_ble_eq_true rfl) rfl wq_348 wq_5 wq_345 wq_346 wq_347 rfl rfl (by decide) ⟨Nat.le_of_ble_eq_true rfl, Nat.le_of_ble_eq_true rfl⟩ rfl rfl (Nat.le_of_ble_eq_true rfl) dX7_juryOf_30 hf (fun r2 hf => ?_)
      refine x_icmp_ge (pc := 33) (tgt := 66) E dX7_juryOf_33 (by decide) hf (fun hf => ?_) (fun hf => ?_)
      · obtain rfl := Option.some.inj hf
        obtain rfl := lpk_r h2
        exact x_sub [2] rfl hk
      · refine x_iload_n 1 (pc := 36) (i := 3) E dX7_juryOf_36 rfl rfl ?_
        refine x_iload 4 (pc := 37) E dX7_juryOf_37 rfl ?_
        refine x_ishr (pc := 39) E dX7_juryOf_39 ?_
        refine x_iconst (pc := 40) (v := (1 : Int32)) E dX7_juryOf_40 rfl ?_
        refine x_iand (pc := 41) E dX7_juryOf_41 ?_
        refine x_if_ne (y := 0) (pc := 42) (tgt := 48) E dX7_juryOf_42 (by decide) hf (fun hf => ?_) (fun hf => ?_)
        · refine x_iload 2 (pc := 48) E dX7_juryOf_48 rfl ?_
          refine x_iconst (pc := 50) (v := (1 : Int32)) E dX7_juryOf_50 rfl ?_
          refine x_iload 4 (pc := 51) E dX7_juryOf_51 rfl ?_
          refine x_ishl (pc := 53) E dX7_juryOf_53 ?_
          refine x_ior (pc := 54) E dX7_juryOf_54 ?_
          refine x_istore (pc := 55) (lv' := [(4, .int (v4 ||| ((1 : Int32) <<< (v6 &&& 31)))), (0, .ref (gad G 0)), (3, .int v3), (5, .int v5), (6, .int v6)]) E dX7_juryOf_55 (by decide) rfl ?_
          refine x_iinc 3 (pc := 57) (v := v5 + 1) (lv' := [(5, .int (v5 + 1)), (4, .int (v4 ||| ((1 : Int32) <<< (v6 &&& 31)))), (0, .ref (gad G 0)), (3, .int v3), (6, .int v6)]) E dX7_juryOf_57 rfl rfl (by decide) rfl ?_
          refine x_iinc 4 (pc := 60) (v := v6 + 1) (lv' := [(6, .int (v6 + 1)), (5, .int (v5 + 1)), (4, .int (v4 ||| ((1 : Int32) <<< (v6 &&& 31)))), (0, .ref (gad G 0)), (3, .int v3)]) E dX7_juryOf_60 rfl rfl (by decide) rfl ?_
          refine x_goto (pc := 63) (tgt := 20) E dX7_juryOf_63 (by decide) ?_
          obtain rfl := Option.some.inj hf
          exact x_sub [3, 4, 2, 1, 0] rfl (ih _ _ _ _ (lpk_l h2) hk)
        · refine x_goto (pc := 45) (tgt := 60) E dX7_juryOf_45 (by decide) ?_
          refine x_iinc 4 (pc := 60) (v := v6 + 1) (lv' := [(6, .int (v6 + 1)), (0, .ref (gad G 0)), (3, .int v3), (4, .int v4), (5, .int v5)]) E dX7_juryOf_60 rfl rfl (by decide) rfl ?_
          refine x_goto (pc := 63) (tgt := 20) E dX7_juryOf_63 (by decide) ?_
          obtain rfl := Option.some.inj hf
          exact x_sub [1, 2, 3, 4, 0] rfl (ih _ _ _ _ (lpk_l h2) hk)
set_option maxHeartbeats 4000000 in
set_option maxRecDepth 100000 in
theorem c_X7_juryOf (G : Gx) (v1 : Int32) (v2 : Int32) (σ : MM) (r : Int32) (hf : f_X7_juryOf v1 v2 σ = some r) : Ct shM 21 yX7_juryOf cX7_juryOf 7 (some .int) rm_X7_juryOf G [.ref (gad G 0), .int v1, .int v2] σ (some (.int r)) σ := by
  refine ct_of (by decide) (Nat.le_of_ble_eq_true rfl) (fun K E hR => ?_)
  have E : OKc 21 cX7_juryOf 7 RX7 G K := E
  show XJ shM 21 7 rm_X7_juryOf G K σ [(0, .ref (gad G 0)), (1, .int v1), (2, .int v2)] 0 []
  unfold f_X7_juryOf at hf
  refine x_aload_n 0 (pc := 0) (i := 0) E dX7_juryOf_0 rfl rfl ?_
  refine x_callVri (pc := 1) (na := 0) (As := []) E (c_X7_called G σ) rfl (Nat.le_of_ble_eq_true rfl) rfl wq_528 wq_5 wq_525 wq_526 wq_527 rfl rfl (by decide) ⟨Nat.le_of_ble_eq_true rfl, Nat.le_of_ble_eq_true rfl⟩ rfl rfl (Nat.le_of_ble_eq_true rfl) dX7_juryOf_1 hf (fun r1 hf => ?_)
  refine x_iload_n 1 (pc := 4) (i := 1) E dX7_juryOf_4 rfl rfl ?_
  refine x_iload_n 2 (pc := 5) (i := 2) E dX7_juryOf_5 rfl rfl ?_
  refine x_ior (pc := 6) E dX7_juryOf_6 ?_
  refine x_iconst (pc := 7) (v := (-1 : Int32)) E dX7_juryOf_7 rfl ?_
  refine x_ixor (pc := 8) E dX7_juryOf_8 ?_
  refine x_iand (pc := 9) E dX7_juryOf_9 ?_
  refine x_istore_n (pc := 10) (lv' := [(3, .int (r1 &&& ((v1 ||| v2) ^^^ (-1 : Int32)))), (0, .ref (gad G 0)), (1, .int v1), (2, .int v2)]) E dX7_juryOf_10 rfl (by decide) rfl ?_
  refine x_iconst (pc := 11) (v := (0 : Int32)) E dX7_juryOf_11 rfl ?_
  refine x_istore (pc := 12) (lv' := [(4, .int (0 : Int32)), (3, .int (r1 &&& ((v1 ||| v2) ^^^ (-1 : Int32)))), (0, .ref (gad G 0)), (1, .int v1), (2, .int v2)]) E dX7_juryOf_12 (by decide) rfl ?_
  refine x_iconst (pc := 14) (v := (0 : Int32)) E dX7_juryOf_14 rfl ?_
  refine x_istore (pc := 15) (lv' := [(5, .int (0 : Int32)), (4, .int (0 : Int32)), (3, .int (r1 &&& ((v1 ||| v2) ^^^ (-1 : Int32)))), (0, .ref (gad G 0)), (1, .int v1), (2, .int v2)]) E dX7_juryOf_15 (by decide) rfl ?_
  refine x_iconst (pc := 17) (v := (0 : Int32)) E dX7_juryOf_17 rfl ?_
  refine x_istore (pc := 18) (lv' := [(6, .int (0 : Int32)), (5, .int (0 : Int32)), (4, .int (0 : Int32)), (3, .int (r1 &&& ((v1 ||| v2) ^^^ (-1 : Int32)))), (0, .ref (gad G 0)), (1, .int v1), (2, .int v2)]) E dX7_juryOf_18 (by decide) rfl ?_
  obtain ⟨o3, hl4, hf⟩ := bind_some hf
  refine x_sub [4, 3, 2, 1, 0] rfl (l_X7_juryOf_20 G   (r1 &&& ((v1 ||| v2) ^^^ (-1 : Int32))) σ E FU _ _ _ o3 hl4 ?_)
  refine x_iload 0 (pc := 66) E dX7_juryOf_66 rfl ?_
  obtain rfl := Option.some.inj hf
  exact x_iret (pc := 68) E hR dX7_juryOf_68
set_option maxHeartbeats 4000000 in
set_option maxRecDepth 100000 in
theorem l_X7_findPaper_16 (G : Gx) {K : Kx}    (E : OKc 21 cX7_findPaper 5 RX7 G K) : ∀ (m : Nat) (v1 : Int32) (σ : MM) (out : MM), loopN (fun s => g_X7_findPaper_16 s.1 s.2) m (v1, σ) = some out → XJ shM 21 5 rm_X7_findPaper G K out [(0, .ref (gad G 0))] 114 [] → XJ shM 21 5 rm_X7_findPaper G K σ [(0, .ref (gad G 0)), (1, .int v1)] 16 [] := by
  intro m
  induction m with
  | zero => intro v1 σ out hf; exact (loopN_0 hf).elim
  | succ m ih =>
    intro v1 σ out hf hk
    obtain ⟨q, hf, h2⟩ := loopN_s hf
    have hf : g_X7_findPaper_16 v1 σ = some q := hf
    unfold g_X7_findPaper_16 at hf
    refine x_iload_n 1 (pc := 16) (i := 1) E dX7_findPaper_16 rfl rfl ?_
    refine x_aload_n 0 (pc := 17) (i := 0) E dX7_findPaper_17 rfl rfl ?_
    refine x_callVri (pc := 18) (na := 0) (As := []) E (c_X7_called G σ) rfl (Nat.le_of_ble_eq_true rfl) rfl wq_528 wq_5 wq_525 wq_526 wq_527 rfl rfl (by decide) ⟨Nat.le_of_ble_eq_true rfl, Nat.le_of_ble_eq_true rfl⟩ rfl rfl (Nat.le_of_ble_eq_true rfl) dX7_findPaper_18 hf (fun r5 hf => ?_)
    refine x_icmp_gt (pc := 21) (tgt := 114) E dX7_findPaper_21 (by decide) hf (fun hf => ?_) (fun hf => ?_)
    · obtain rfl := Option.some.inj hf
      obtain rfl := lpk_r h2
      exact x_sub [0] rfl hk
    · refine x_iload_n 1 (pc := 24) (i := 1) E dX7_findPaper_24 rfl rfl ?_
      refine x_callSri (pc := 25) (na := 1) (As := [.int v1]) E (c_X7_bits G v1 σ) wq_344 wq_5 wq_342 wq_343 rfl rfl (by decide) ⟨Nat.le_of_ble_eq_true rfl, Nat.le_of_ble_eq_true rfl⟩ rfl rfl (Nat.le_of_ble_eq_true rfl) dX7_findPaper_25 hf (fun r6 hf => ?_)
      refine x_istore_n (pc := 28) (lv' := [(2, .int r6), (0, .ref (gad G 0)), (1, .int v1)]) E dX7_findPaper_28 rfl (by decide) rfl ?_
      refine x_iload_n 0 (pc := 29) (i := 2) E dX7_findPaper_29 rfl rfl ?_
      refine x_aload_n 1 (pc := 30) (i := 0) E dX7_findPaper_30 rfl rfl ?_
      refine x_callVri (pc := 31) (na := 0) (As := []) E (c_X7_needed G σ) rfl (Nat.le_of_ble_eq_true rfl) rfl wq_348 wq_5 wq_345 wq_346 wq_347 rfl rfl (by decide) ⟨Nat.le_of_ble_eq_true rfl, Nat.le_of_ble_eq_true rfl⟩ rfl rfl (Nat.le_of_ble_eq_true rfl) dX7_findPaper_31 hf (fun r7 hf => ?_)
      obtain ⟨o11, hf13, hf⟩ := bind_some hf
      have hJ12 : XJ shM 21 5 rm_X7_findPaper G K o11 [(0, .ref (gad G 0)), (1, .int v1), (2, .int r6)] 48 [] := by
        refine x_iload_n 2 (pc := 48) (i := 2) E dX7_findPaper_48 rfl rfl ?_
        refine x_aload_n 0 (pc := 49) (i := 0) E dX7_findPaper_49 rfl rfl ?_
        refine x_getR (pc := 50) (r := 4) (p := 3) E rfl (Nat.le_of_ble_eq_true rfl) rfl inlX7 (by decide) rfl wq_101 dX7_findPaper_50 ?_
        refine x_iconst (pc := 53) (v := (1 : Int32)) E dX7_findPaper_53 rfl ?_
        refine x_iaload (pc := 54) E rfl (Nat.le_of_ble_eq_true rfl) dX7_findPaper_54 hf (fun hf => ?_)
        obtain ⟨o16, hf18, hf⟩ := bind_some hf
        have hJ17 : XJ shM 21 5 rm_X7_findPaper G K o16 [(0, .ref (gad G 0)), (1, .int v1), (2, .int r6)] 78 [] := by
          refine x_iload_n 2 (pc := 78) (i := 2) E dX7_findPaper_78 rfl rfl ?_
          refine x_aload_n 0 (pc := 79) (i := 0) E dX7_findPaper_79 rfl rfl ?_
          refine x_getR (pc := 80) (r := 4) (p := 3) E rfl (Nat.le_of_ble_eq_true rfl) rfl inlX7 (by decide) rfl wq_101 dX7_findPaper_80 ?_
          refine x_iconst (pc := 83) (v := (2 : Int32)) E dX7_findPaper_83 rfl ?_
          refine x_iaload (pc := 84) E rfl (Nat.le_of_ble_eq_true rfl) dX7_findPaper_84 hf (fun hf => ?_)
          refine x_icmp_ne (pc := 85) (tgt := 108) E dX7_findPaper_85 (by decide) hf (fun hf => ?_) (fun hf => ?_)
          · refine x_iinc 1 (pc := 108) (v := v1 + 1) (lv' := [(1, .int (v1 + 1)), (0, .ref (gad G 0)), (2, .int r6)]) E dX7_findPaper_108 rfl rfl (by decide) rfl ?_
            refine x_goto (pc := 111) (tgt := 16) E dX7_findPaper_111 (by decide) ?_
            obtain rfl := Option.some.inj hf
            exact x_sub [1, 0] rfl (ih _ _ _ (lpk_l h2) hk)
          · refine x_aload_n 0 (pc := 88) (i := 0) E dX7_findPaper_88 rfl rfl ?_
            refine x_getR (pc := 89) (r := 16) (p := 23) E rfl (Nat.le_of_ble_eq_true rfl) rfl inlX7 (by decide) rfl wq_114 dX7_findPaper_89 ?_
            refine x_aload_n 0 (pc := 92) (i := 0) E dX7_findPaper_92 rfl rfl ?_
            refine x_getI (pc := 93) (p := 27) E rfl (Nat.le_of_ble_eq_true rfl) rfl inlX7 (by decide) rfl wq_665 dX7_findPaper_93 ?_
            refine x_iload_n 1 (pc := 96) (i := 1) E dX7_findPaper_96 rfl rfl ?_
            refine x_iastore (pc := 97) E rfl (Nat.le_of_ble_eq_true rfl) dX7_findPaper_97 hf (fun σ19 hf => ?_)
            refine x_aload_n 0 (pc := 98) (i := 0) E dX7_findPaper_98 rfl rfl ?_
            refine x_dup (pc := 99) E dX7_findPaper_99 rfl ?_
            refine x_getI (pc := 100) (p := 27) E rfl (Nat.le_of_ble_eq_true rfl) rfl inlX7 (by decide) rfl wq_665 dX7_findPaper_100 ?_
            refine x_iconst (pc := 103) (v := (1 : Int32)) E dX7_findPaper_103 rfl ?_
            refine x_iadd (pc := 104) E dX7_findPaper_104 ?_
            refine x_put (pc := 105) (p := 27) E rfl (Nat.le_of_ble_eq_true rfl) rfl inlX7 tyX7_ok nmX7 (by decide) rfl rfl rfl rfl wq_665 dX7_findPaper_105 hf (fun σ20 hf => ?_)
            refine x_iinc 1 (pc := 108) (v := v1 + 1) (lv' := [(1, .int (v1 + 1)), (0, .ref (gad G 0)), (2, .int r6)]) E dX7_findPaper_108 rfl rfl (by decide) rfl ?_
            refine x_goto (pc := 111) (tgt := 16) E dX7_findPaper_111 (by decide) ?_
            obtain rfl := Option.some.inj hf
            exact x_sub [1, 0] rfl (ih _ _ _ (lpk_l h2) hk)
        refine x_icmp_ne (pc := 55) (tgt := 78) E dX7_findPaper_55 (by decide) hf18 (fun hf18 => ?_) (fun hf18 => ?_)
        · obtain rfl := Option.some.inj hf18
          exact x_sub [0, 1, 2] rfl hJ17
        · refine x_aload_n 0 (pc := 58) (i := 0) E dX7_findPaper_58 rfl rfl ?_
          refine x_getR (pc := 59) (r := 15) (p := 22) E rfl (Nat.le_of_ble_eq_true rfl) rfl inlX7 (by decide) rfl wq_113 dX7_findPaper_59 ?_
          refine x_aload_n 0 (pc := 62) (i := 0) E dX7_findPaper_62 rfl rfl ?_
          refine x_getI (pc := 63) (p := 26) E rfl (Nat.le_of_ble_eq_true rfl) rfl inlX7 (by decide) rfl wq_664 dX7_findPaper_63 ?_
          refine x_iload_n 1 (pc := 66) (i := 1) E dX7_findPaper_66 rfl rfl ?_
          refine x_iastore (pc := 67) E rfl (Nat.le_of_ble_eq_true rfl) dX7_findPaper_67 hf18 (fun σ21 hf18 => ?_)
          refine x_aload_n 0 (pc := 68) (i := 0) E dX7_findPaper_68 rfl rfl ?_
          refine x_dup (pc := 69) E dX7_findPaper_69 rfl ?_
          refine x_getI (pc := 70) (p := 26) E rfl (Nat.le_of_ble_eq_true rfl) rfl inlX7 (by decide) rfl wq_664 dX7_findPaper_70 ?_
          refine x_iconst (pc := 73) (v := (1 : Int32)) E dX7_findPaper_73 rfl ?_
          refine x_iadd (pc := 74) E dX7_findPaper_74 ?_
          refine x_put (pc := 75) (p := 26) E rfl (Nat.le_of_ble_eq_true rfl) rfl inlX7 tyX7_ok nmX7 (by decide) rfl rfl rfl rfl wq_664 dX7_findPaper_75 hf18 (fun σ22 hf18 => ?_)
          obtain rfl := Option.some.inj hf18
          exact x_sub [0, 1, 2] rfl hJ17
      refine x_icmp_ne (pc := 34) (tgt := 48) E dX7_findPaper_34 (by decide) hf13 (fun hf13 => ?_) (fun hf13 => ?_)
      · obtain rfl := Option.some.inj hf13
        exact x_sub [1, 2, 0] rfl hJ12
      · refine x_aload_n 1 (pc := 37) (i := 0) E dX7_findPaper_37 rfl rfl ?_
        refine x_getR (pc := 38) (r := 10) (p := 12) E rfl (Nat.le_of_ble_eq_true rfl) rfl inlX7 (by decide) rfl wq_107 dX7_findPaper_38 ?_
        refine x_iload_n 2 (pc := 41) (i := 1) E dX7_findPaper_41 rfl rfl ?_
        refine x_aload_n 1 (pc := 42) (i := 0) E dX7_findPaper_42 rfl rfl ?_
        refine x_iload_n 2 (pc := 43) (i := 1) E dX7_findPaper_43 rfl rfl ?_
        refine x_callVwl (pc := 44) (na := 1) (As := [.int v1]) E (c_X7_chanceOf G v1 σ) rfl (Nat.le_of_ble_eq_true rfl) rfl wq_361 wq_5 wq_358 wq_359 wq_360 rfl rfl (by decide) ⟨Nat.le_of_ble_eq_true rfl, Nat.le_of_ble_eq_true rfl⟩ rfl rfl (Nat.le_of_ble_eq_true rfl) dX7_findPaper_44 hf13 (fun r23 σ24 hf13 => ?_)
        refine x_lastore (pc := 47) E rfl (Nat.le_of_ble_eq_true rfl) dX7_findPaper_47 hf13 (fun σ25 hf13 => ?_)
        obtain rfl := Option.some.inj hf13
        exact x_sub [1, 2, 0] rfl hJ12
set_option maxHeartbeats 4000000 in
set_option maxRecDepth 100000 in
theorem l_X7_findPaper_126 (G : Gx) {K : Kx}   (v1 : Int32) (E : OKc 21 cX7_findPaper 5 RX7 G K) : ∀ (m : Nat) (v2 : Int32) (σ : MM) (out : MM), loopN (fun s => g_X7_findPaper_126 v1 s.1 s.2) m (v2, σ) = some out → XJ shM 21 5 rm_X7_findPaper G K out [(0, .ref (gad G 0)), (1, .int v1)] 206 [] → XJ shM 21 5 rm_X7_findPaper G K σ [(0, .ref (gad G 0)), (1, .int v1), (2, .int v2)] 126 [] := by
  intro m
  induction m with
  | zero => intro v2 σ out hf; exact (loopN_0 hf).elim
  | succ m ih =>
    intro v2 σ out hf hk
    obtain ⟨q, hf, h2⟩ := loopN_s hf
    have hf : g_X7_findPaper_126 v1 v2 σ = some q := hf
    unfold g_X7_findPaper_126 at hf
    refine x_iload_n 2 (pc := 126) (i := 2) E dX7_findPaper_126 rfl rfl ?_
    refine x_aload_n 0 (pc := 127) (i := 0) E dX7_findPaper_127 rfl rfl ?_
    refine x_getI (pc := 128) (p := 27) E rfl (Nat.le_of_ble_eq_true rfl) rfl inlX7 (by decide) rfl wq_665 dX7_findPaper_128 ?_
    refine x_icmp_ge (pc := 131) (tgt := 206) E dX7_findPaper_131 (by decide) hf (fun hf => ?_) (fun hf => ?_)
    · obtain rfl := Option.some.inj hf
      obtain rfl := lpk_r h2
      exact x_sub [0, 1] rfl hk
    · refine x_aload_n 0 (pc := 134) (i := 0) E dX7_findPaper_134 rfl rfl ?_
      refine x_getR (pc := 135) (r := 10) (p := 12) E rfl (Nat.le_of_ble_eq_true rfl) rfl inlX7 (by decide) rfl wq_107 dX7_findPaper_135 ?_
      refine x_aload_n 0 (pc := 138) (i := 0) E dX7_findPaper_138 rfl rfl ?_
      refine x_aload_n 0 (pc := 139) (i := 0) E dX7_findPaper_139 rfl rfl ?_
      refine x_getR (pc := 140) (r := 15) (p := 22) E rfl (Nat.le_of_ble_eq_true rfl) rfl inlX7 (by decide) rfl wq_113 dX7_findPaper_140 ?_
      refine x_iload_n 1 (pc := 143) (i := 1) E dX7_findPaper_143 rfl rfl ?_
      refine x_iaload (pc := 144) E rfl (Nat.le_of_ble_eq_true rfl) dX7_findPaper_144 hf (fun hf => ?_)
      refine x_aload_n 0 (pc := 145) (i := 0) E dX7_findPaper_145 rfl rfl ?_
      refine x_getR (pc := 146) (r := 16) (p := 23) E rfl (Nat.le_of_ble_eq_true rfl) rfl inlX7 (by decide) rfl wq_114 dX7_findPaper_146 ?_
      refine x_iload_n 2 (pc := 149) (i := 2) E dX7_findPaper_149 rfl rfl ?_
      refine x_iaload (pc := 150) E rfl (Nat.le_of_ble_eq_true rfl) dX7_findPaper_150 hf (fun hf => ?_)
      refine x_callVri (pc := 151) (na := 2) (As := [.int (σ.1 15 v1.toNatClampNeg), .int (σ.1 16 v2.toNatClampNeg)]) E (c_X7_juryOf G (σ.1 15 v1.toNatClampNeg) (σ.1 16 v2.toNatClampNeg) σ) rfl (Nat.le_of_ble_eq_true rfl) rfl wq_673 wq_5 wq_670 wq_671 wq_672 rfl rfl (by decide) ⟨Nat.le_of_ble_eq_true rfl, Nat.le_of_ble_eq_true rfl⟩ rfl rfl (Nat.le_of_ble_eq_true rfl) dX7_findPaper_151 hf (fun r28 hf => ?_)
      refine x_laload (pc := 154) E rfl (Nat.le_of_ble_eq_true rfl) dX7_findPaper_154 hf (fun hf => ?_)
      refine x_lstore_n (pc := 155) (lv' := [(3, .long (σ.2 10 r28.toNatClampNeg)), (0, .ref (gad G 0)), (1, .int v1), (2, .int v2)]) E dX7_findPaper_155 rfl (by decide) rfl ?_
      refine x_iload_n 2 (pc := 156) (i := 1) E dX7_findPaper_156 rfl rfl ?_
      obtain ⟨o31, hf33, hf⟩ := bind_some hf
      have hJ32 : XJ shM 21 5 rm_X7_findPaper G K o31 [(0, .ref (gad G 0)), (1, .int v1), (2, .int v2), (3, .long (σ.2 10 r28.toNatClampNeg))] 178 [] := by
        refine x_iload_n 2 (pc := 178) (i := 2) E dX7_findPaper_178 rfl rfl ?_
        refine x_if_eq (y := 0) (pc := 179) (tgt := 193) E dX7_findPaper_179 (by decide) hf (fun hf => ?_) (fun hf => ?_)
        · refine x_aload_n 0 (pc := 193) (i := 0) E dX7_findPaper_193 rfl rfl ?_
          refine x_getR (pc := 194) (r := 18) (p := 25) E rfl (Nat.le_of_ble_eq_true rfl) rfl inlX7 (by decide) rfl wq_116 dX7_findPaper_194 ?_
          refine x_iload_n 1 (pc := 197) (i := 1) E dX7_findPaper_197 rfl rfl ?_
          refine x_lload_n 3 (pc := 198) (i := 3) E dX7_findPaper_198 rfl rfl ?_
          refine x_lastore (pc := 199) E rfl (Nat.le_of_ble_eq_true rfl) dX7_findPaper_199 hf (fun σ34 hf => ?_)
          refine x_iinc 2 (pc := 200) (v := v2 + 1) (lv' := [(2, .int (v2 + 1)), (0, .ref (gad G 0)), (1, .int v1), (3, .long (σ.2 10 r28.toNatClampNeg))]) E dX7_findPaper_200 rfl rfl (by decide) rfl ?_
          refine x_goto (pc := 203) (tgt := 126) E dX7_findPaper_203 (by decide) ?_
          obtain rfl := Option.some.inj hf
          exact x_sub [1, 2, 0] rfl (ih _ _ _ (lpk_l h2) hk)
        · refine x_lload_n 3 (pc := 182) (i := 3) E dX7_findPaper_182 rfl rfl ?_
          refine x_aload_n 0 (pc := 183) (i := 0) E dX7_findPaper_183 rfl rfl ?_
          refine x_getR (pc := 184) (r := 18) (p := 25) E rfl (Nat.le_of_ble_eq_true rfl) rfl inlX7 (by decide) rfl wq_116 dX7_findPaper_184 ?_
          refine x_iload_n 1 (pc := 187) (i := 1) E dX7_findPaper_187 rfl rfl ?_
          refine x_laload (pc := 188) E rfl (Nat.le_of_ble_eq_true rfl) dX7_findPaper_188 hf (fun hf => ?_)
          refine x_lcmp_ge (pc := 189) (tgt := 200) E dX7_findPaper_189 dX7_findPaper_190 (by decide) hf (fun hf => ?_) (fun hf => ?_)
          · refine x_iinc 2 (pc := 200) (v := v2 + 1) (lv' := [(2, .int (v2 + 1)), (0, .ref (gad G 0)), (1, .int v1), (3, .long (σ.2 10 r28.toNatClampNeg))]) E dX7_findPaper_200 rfl rfl (by decide) rfl ?_
            refine x_goto (pc := 203) (tgt := 126) E dX7_findPaper_203 (by decide) ?_
            obtain rfl := Option.some.inj hf
            exact x_sub [1, 2, 0] rfl (ih _ _ _ (lpk_l h2) hk)
          · refine x_aload_n 0 (pc := 193) (i := 0) E dX7_findPaper_193 rfl rfl ?_
            refine x_getR (pc := 194) (r := 18) (p := 25) E rfl (Nat.le_of_ble_eq_true rfl) rfl inlX7 (by decide) rfl wq_116 dX7_findPaper_194 ?_
            refine x_iload_n 1 (pc := 197) (i := 1) E dX7_findPaper_197 rfl rfl ?_
            refine x_lload_n 3 (pc := 198) (i := 3) E dX7_findPaper_198 rfl rfl ?_
            refine x_lastore (pc := 199) E rfl (Nat.le_of_ble_eq_true rfl) dX7_findPaper_199 hf (fun σ35 hf => ?_)
            refine x_iinc 2 (pc := 200) (v := v2 + 1) (lv' := [(2, .int (v2 + 1)), (0, .ref (gad G 0)), (1, .int v1), (3, .long (σ.2 10 r28.toNatClampNeg))]) E dX7_findPaper_200 rfl rfl (by decide) rfl ?_
            refine x_goto (pc := 203) (tgt := 126) E dX7_findPaper_203 (by decide) ?_
            obtain rfl := Option.some.inj hf
            exact x_sub [1, 2, 0] rfl (ih _ _ _ (lpk_l h2) hk)
      refine x_if_eq (y := 0) (pc := 157) (tgt := 171) E dX7_findPaper_157 (by decide) hf33 (fun hf33 => ?_) (fun hf33 => ?_)
      · refine x_aload_n 1 (pc := 171) (i := 0) E dX7_findPaper_171 rfl rfl ?_
        refine x_getR (pc := 172) (r := 17) (p := 24) E rfl (Nat.le_of_ble_eq_true rfl) rfl inlX7 (by decide) rfl wq_115 dX7_findPaper_172 ?_
        refine x_iload_n 3 (pc := 175) (i := 2) E dX7_findPaper_175 rfl rfl ?_
        refine x_lload_n 0 (pc := 176) (i := 3) E dX7_findPaper_176 rfl rfl ?_
        refine x_lastore (pc := 177) E rfl (Nat.le_of_ble_eq_true rfl) dX7_findPaper_177 hf33 (fun σ36 hf33 => ?_)
        obtain rfl := Option.some.inj hf33
        exact x_sub [1, 2, 3, 0] rfl hJ32
      · refine x_lload_n 0 (pc := 160) (i := 3) E dX7_findPaper_160 rfl rfl ?_
        refine x_aload_n 1 (pc := 161) (i := 0) E dX7_findPaper_161 rfl rfl ?_
        refine x_getR (pc := 162) (r := 17) (p := 24) E rfl (Nat.le_of_ble_eq_true rfl) rfl inlX7 (by decide) rfl wq_115 dX7_findPaper_162 ?_
        refine x_iload_n 3 (pc := 165) (i := 2) E dX7_findPaper_165 rfl rfl ?_
        refine x_laload (pc := 166) E rfl (Nat.le_of_ble_eq_true rfl) dX7_findPaper_166 hf33 (fun hf33 => ?_)
        refine x_lcmp_le (pc := 167) (tgt := 178) E dX7_findPaper_167 dX7_findPaper_168 (by decide) hf33 (fun hf33 => ?_) (fun hf33 => ?_)
        · obtain rfl := Option.some.inj hf33
          exact x_sub [1, 2, 3, 0] rfl hJ32
        · refine x_aload_n 1 (pc := 171) (i := 0) E dX7_findPaper_171 rfl rfl ?_
          refine x_getR (pc := 172) (r := 17) (p := 24) E rfl (Nat.le_of_ble_eq_true rfl) rfl inlX7 (by decide) rfl wq_115 dX7_findPaper_172 ?_
          refine x_iload_n 3 (pc := 175) (i := 2) E dX7_findPaper_175 rfl rfl ?_
          refine x_lload_n 0 (pc := 176) (i := 3) E dX7_findPaper_176 rfl rfl ?_
          refine x_lastore (pc := 177) E rfl (Nat.le_of_ble_eq_true rfl) dX7_findPaper_177 hf33 (fun σ37 hf33 => ?_)
          obtain rfl := Option.some.inj hf33
          exact x_sub [1, 2, 3, 0] rfl hJ32
set_option maxHeartbeats 4000000 in
set_option maxRecDepth 100000 in
theorem l_X7_findPaper_116 (G : Gx) {K : Kx}    (E : OKc 21 cX7_findPaper 5 RX7 G K) : ∀ (m : Nat) (v1 : Int32) (σ : MM) (out : MM), loopN (fun s => g_X7_findPaper_116 s.1 s.2) m (v1, σ) = some out → XJ shM 21 5 rm_X7_findPaper G K out [] 212 [] → XJ shM 21 5 rm_X7_findPaper G K σ [(0, .ref (gad G 0)), (1, .int v1)] 116 [] := by
  intro m
  induction m with
  | zero => intro v1 σ out hf; exact (loopN_0 hf).elim
  | succ m ih =>
    intro v1 σ out hf hk
    obtain ⟨q, hf, h2⟩ := loopN_s hf
    have hf : g_X7_findPaper_116 v1 σ = some q := hf
    unfold g_X7_findPaper_116 at hf
    refine x_iload_n 1 (pc := 116) (i := 1) E dX7_findPaper_116 rfl rfl ?_
    refine x_aload_n 0 (pc := 117) (i := 0) E dX7_findPaper_117 rfl rfl ?_
    refine x_getI (pc := 118) (p := 26) E rfl (Nat.le_of_ble_eq_true rfl) rfl inlX7 (by decide) rfl wq_664 dX7_findPaper_118 ?_
    refine x_icmp_ge (pc := 121) (tgt := 212) E dX7_findPaper_121 (by decide) hf (fun hf => ?_) (fun hf => ?_)
    · obtain rfl := Option.some.inj hf
      obtain rfl := lpk_r h2
      exact x_sub [] rfl hk
    · refine x_iconst (pc := 124) (v := (0 : Int32)) E dX7_findPaper_124 rfl ?_
      refine x_istore_n (pc := 125) (lv' := [(2, .int (0 : Int32)), (0, .ref (gad G 0)), (1, .int v1)]) E dX7_findPaper_125 rfl (by decide) rfl ?_
      obtain ⟨o38, hl39, hf⟩ := bind_some hf
      refine x_sub [1, 2, 0] rfl (l_X7_findPaper_126 G   v1 E FU _ _ o38 hl39 ?_)
      refine x_iinc 1 (pc := 206) (v := v1 + 1) (lv' := [(1, .int (v1 + 1)), (0, .ref (gad G 0))]) E dX7_findPaper_206 rfl rfl (by decide) rfl ?_
      refine x_goto (pc := 209) (tgt := 116) E dX7_findPaper_209 (by decide) ?_
      obtain rfl := Option.some.inj hf
      exact x_sub [1, 0] rfl (ih _ _ _ (lpk_l h2) hk)
set_option maxHeartbeats 4000000 in
set_option maxRecDepth 100000 in
theorem c_X7_findPaper (G : Gx) (σ : MM) (σ' : MM) (hf : f_X7_findPaper σ = some σ') : Ct shM 21 yX7_findPaper cX7_findPaper 5 none rm_X7_findPaper G [.ref (gad G 0)] σ none σ' := by
  refine ct_of (by decide) (Nat.le_of_ble_eq_true rfl) (fun K E hR => ?_)
  have E : OKc 21 cX7_findPaper 5 RX7 G K := E
  show XJ shM 21 5 rm_X7_findPaper G K σ [(0, .ref (gad G 0))] 0 []
  unfold f_X7_findPaper at hf
  refine x_aload_n 0 (pc := 0) (i := 0) E dX7_findPaper_0 rfl rfl ?_
  refine x_callVwv (pc := 1) (na := 0) (As := []) E (c_X7_holdsTrue G σ) rfl (Nat.le_of_ble_eq_true rfl) rfl wq_357 wq_5 wq_354 wq_355 wq_356 rfl rfl (by decide) ⟨Nat.le_of_ble_eq_true rfl, Nat.le_of_ble_eq_true rfl⟩ rfl rfl (Nat.le_of_ble_eq_true rfl) dX7_findPaper_1 hf (fun σ2 hf => ?_)
  refine x_aload_n 0 (pc := 4) (i := 0) E dX7_findPaper_4 rfl rfl ?_
  refine x_iconst (pc := 5) (v := (0 : Int32)) E dX7_findPaper_5 rfl ?_
  refine x_put (pc := 6) (p := 26) E rfl (Nat.le_of_ble_eq_true rfl) rfl inlX7 tyX7_ok nmX7 (by decide) rfl rfl rfl rfl wq_664 dX7_findPaper_6 hf (fun σ3 hf => ?_)
  refine x_aload_n 0 (pc := 9) (i := 0) E dX7_findPaper_9 rfl rfl ?_
  refine x_iconst (pc := 10) (v := (0 : Int32)) E dX7_findPaper_10 rfl ?_
  refine x_put (pc := 11) (p := 27) E rfl (Nat.le_of_ble_eq_true rfl) rfl inlX7 tyX7_ok nmX7 (by decide) rfl rfl rfl rfl wq_665 dX7_findPaper_11 hf (fun σ4 hf => ?_)
  refine x_iconst (pc := 14) (v := (0 : Int32)) E dX7_findPaper_14 rfl ?_
  refine x_istore_n (pc := 15) (lv' := [(1, .int (0 : Int32)), (0, .ref (gad G 0))]) E dX7_findPaper_15 rfl (by decide) rfl ?_
  obtain ⟨o26, hl27, hf⟩ := bind_some hf
  refine x_sub [1, 0] rfl (l_X7_findPaper_16 G    E FU _ _ o26 hl27 ?_)
  refine x_iconst (pc := 114) (v := (0 : Int32)) E dX7_findPaper_114 rfl ?_
  refine x_istore_n (pc := 115) (lv' := [(1, .int (0 : Int32)), (0, .ref (gad G 0))]) E dX7_findPaper_115 rfl (by decide) rfl ?_
  obtain ⟨o40, hl41, hf⟩ := bind_some hf
  refine x_sub [1, 0] rfl (l_X7_findPaper_116 G    E FU _ _ o40 hl41 ?_)
  obtain rfl := Option.some.inj hf
  exact x_vret (pc := 212) E hR dX7_findPaper_212
set_option maxHeartbeats 4000000 in
set_option maxRecDepth 100000 in
theorem c_X7_isRest (G : Gx) (v1 : Int32) (v2 : Int32) (σ : MM) (r : Int32) (hf : f_X7_isRest v1 v2 σ = some r) : Ct shM 21 yX7_isRest cX7_isRest 5 (some .boolean) rm_X7_isRest G [.ref (gad G 0), .int v1, .int v2] σ (some (.int r)) σ := by
  refine ct_of (by decide) (Nat.le_of_ble_eq_true rfl) (fun K E hR => ?_)
  have E : OKc 21 cX7_isRest 5 RX7 G K := E
  show XJ shM 21 5 rm_X7_isRest G K σ [(0, .ref (gad G 0)), (1, .int v1), (2, .int v2)] 0 []
  unfold f_X7_isRest at hf
  refine x_aload_n 0 (pc := 0) (i := 0) E dX7_isRest_0 rfl rfl ?_
  refine x_getR (pc := 1) (r := 10) (p := 12) E rfl (Nat.le_of_ble_eq_true rfl) rfl inlX7 (by decide) rfl wq_107 dX7_isRest_1 ?_
  refine x_aload_n 0 (pc := 4) (i := 0) E dX7_isRest_4 rfl rfl ?_
  refine x_aload_n 0 (pc := 5) (i := 0) E dX7_isRest_5 rfl rfl ?_
  refine x_getR (pc := 6) (r := 15) (p := 22) E rfl (Nat.le_of_ble_eq_true rfl) rfl inlX7 (by decide) rfl wq_113 dX7_isRest_6 ?_
  refine x_iload_n 1 (pc := 9) (i := 1) E dX7_isRest_9 rfl rfl ?_
  refine x_iaload (pc := 10) E rfl (Nat.le_of_ble_eq_true rfl) dX7_isRest_10 hf (fun hf => ?_)
  refine x_aload_n 0 (pc := 11) (i := 0) E dX7_isRest_11 rfl rfl ?_
  refine x_getR (pc := 12) (r := 16) (p := 23) E rfl (Nat.le_of_ble_eq_true rfl) rfl inlX7 (by decide) rfl wq_114 dX7_isRest_12 ?_
  refine x_iload_n 2 (pc := 15) (i := 2) E dX7_isRest_15 rfl rfl ?_
  refine x_iaload (pc := 16) E rfl (Nat.le_of_ble_eq_true rfl) dX7_isRest_16 hf (fun hf => ?_)
  refine x_callVri (pc := 17) (na := 2) (As := [.int (σ.1 15 v1.toNatClampNeg), .int (σ.1 16 v2.toNatClampNeg)]) E (c_X7_juryOf G (σ.1 15 v1.toNatClampNeg) (σ.1 16 v2.toNatClampNeg) σ) rfl (Nat.le_of_ble_eq_true rfl) rfl wq_673 wq_5 wq_670 wq_671 wq_672 rfl rfl (by decide) ⟨Nat.le_of_ble_eq_true rfl, Nat.le_of_ble_eq_true rfl⟩ rfl rfl (Nat.le_of_ble_eq_true rfl) dX7_isRest_17 hf (fun r1 hf => ?_)
  refine x_laload (pc := 20) E rfl (Nat.le_of_ble_eq_true rfl) dX7_isRest_20 hf (fun hf => ?_)
  refine x_lstore_n (pc := 21) (lv' := [(3, .long (σ.2 10 r1.toNatClampNeg)), (0, .ref (gad G 0)), (1, .int v1), (2, .int v2)]) E dX7_isRest_21 rfl (by decide) rfl ?_
  refine x_lload_n 0 (pc := 22) (i := 3) E dX7_isRest_22 rfl rfl ?_
  refine x_aload_n 1 (pc := 23) (i := 0) E dX7_isRest_23 rfl rfl ?_
  refine x_getR (pc := 24) (r := 17) (p := 24) E rfl (Nat.le_of_ble_eq_true rfl) rfl inlX7 (by decide) rfl wq_115 dX7_isRest_24 ?_
  refine x_iload_n 3 (pc := 27) (i := 2) E dX7_isRest_27 rfl rfl ?_
  refine x_laload (pc := 28) E rfl (Nat.le_of_ble_eq_true rfl) dX7_isRest_28 hf (fun hf => ?_)
  refine x_lcmp_ne (pc := 29) (tgt := 48) E dX7_isRest_29 dX7_isRest_30 (by decide) hf (fun hf => ?_) (fun hf => ?_)
  · refine x_iconst (pc := 48) (v := (0 : Int32)) E dX7_isRest_48 rfl ?_
    obtain ⟨hz, hf⟩ := chk_some hf
    obtain rfl := Option.some.inj hf
    exact x_zret (pc := 49) E hR (isB_nar hz) dX7_isRest_49
  · refine x_lload_n 0 (pc := 33) (i := 3) E dX7_isRest_33 rfl rfl ?_
    refine x_aload_n 1 (pc := 34) (i := 0) E dX7_isRest_34 rfl rfl ?_
    refine x_getR (pc := 35) (r := 18) (p := 25) E rfl (Nat.le_of_ble_eq_true rfl) rfl inlX7 (by decide) rfl wq_116 dX7_isRest_35 ?_
    refine x_iload_n 2 (pc := 38) (i := 1) E dX7_isRest_38 rfl rfl ?_
    refine x_laload (pc := 39) E rfl (Nat.le_of_ble_eq_true rfl) dX7_isRest_39 hf (fun hf => ?_)
    refine x_lcmp_ne (pc := 40) (tgt := 48) E dX7_isRest_40 dX7_isRest_41 (by decide) hf (fun hf => ?_) (fun hf => ?_)
    · refine x_iconst (pc := 48) (v := (0 : Int32)) E dX7_isRest_48 rfl ?_
      obtain ⟨hz, hf⟩ := chk_some hf
      obtain rfl := Option.some.inj hf
      exact x_zret (pc := 49) E hR (isB_nar hz) dX7_isRest_49
    · refine x_iconst (pc := 44) (v := (1 : Int32)) E dX7_isRest_44 rfl ?_
      refine x_goto (pc := 45) (tgt := 49) E dX7_isRest_45 (by decide) ?_
      obtain ⟨hz, hf⟩ := chk_some hf
      obtain rfl := Option.some.inj hf
      exact x_zret (pc := 49) E hR (isB_nar hz) dX7_isRest_49
set_option maxHeartbeats 4000000 in
set_option maxRecDepth 100000 in
theorem l_X7_restOf_25 (G : Gx) {K : Kx}   (v1 : Int32) (v3 : Int32) (E : OKc 21 cX7_restOf 5 RX7 G K) : ∀ (m : Nat) (v2 : Int32) (v4 : Int32) (σ : MM) (out : Int32 × MM), loopN (fun s => g_X7_restOf_25 v1 v3 s.1 s.2.1 s.2.2) m (v2, v4, σ) = some out → XJ shM 21 5 rm_X7_restOf G K out.2 [(0, .ref (gad G 0)), (1, .int v1), (2, .int out.1), (3, .int v3)] 90 [] → XJ shM 21 5 rm_X7_restOf G K σ [(0, .ref (gad G 0)), (1, .int v1), (2, .int v2), (3, .int v3), (4, .int v4)] 25 [] := by
  intro m
  induction m with
  | zero => intro v2 v4 σ out hf; exact (loopN_0 hf).elim
  | succ m ih =>
    intro v2 v4 σ out hf hk
    obtain ⟨q, hf, h2⟩ := loopN_s hf
    have hf : g_X7_restOf_25 v1 v3 v2 v4 σ = some q := hf
    unfold g_X7_restOf_25 at hf
    refine x_iload 4 (pc := 25) E dX7_restOf_25 rfl ?_
    refine x_aload_n 0 (pc := 27) (i := 0) E dX7_restOf_27 rfl rfl ?_
    refine x_getI (pc := 28) (p := 27) E rfl (Nat.le_of_ble_eq_true rfl) rfl inlX7 (by decide) rfl wq_665 dX7_restOf_28 ?_
    refine x_icmp_ge (pc := 31) (tgt := 90) E dX7_restOf_31 (by decide) hf (fun hf => ?_) (fun hf => ?_)
    · obtain rfl := Option.some.inj hf
      obtain rfl := lpk_r h2
      exact x_sub [0, 1, 2, 3] rfl hk
    · refine x_aload_n 0 (pc := 34) (i := 0) E dX7_restOf_34 rfl rfl ?_
      refine x_iload_n 3 (pc := 35) (i := 3) E dX7_restOf_35 rfl rfl ?_
      refine x_iload 4 (pc := 36) E dX7_restOf_36 rfl ?_
      refine x_callVri (pc := 38) (na := 2) (As := [.int v3, .int v4]) E (c_X7_isRest G v3 v4 σ) rfl (Nat.le_of_ble_eq_true rfl) rfl wq_677 wq_5 wq_674 wq_675 wq_676 rfl rfl (by decide) ⟨Nat.le_of_ble_eq_true rfl, Nat.le_of_ble_eq_true rfl⟩ rfl rfl (Nat.le_of_ble_eq_true rfl) dX7_restOf_38 hf (fun r4 hf => ?_)
      refine x_if_ne (y := 0) (pc := 41) (tgt := 47) E dX7_restOf_41 (by decide) hf (fun hf => ?_) (fun hf => ?_)
      · refine x_aload_n 0 (pc := 47) (i := 0) E dX7_restOf_47 rfl rfl ?_
        refine x_getI (pc := 48) (p := 28) E rfl (Nat.le_of_ble_eq_true rfl) rfl inlX7 (by decide) rfl wq_659 dX7_restOf_48 ?_
        refine x_iload_n 1 (pc := 51) (i := 1) E dX7_restOf_51 rfl rfl ?_
        obtain ⟨o5, hf7, hf⟩ := bind_some hf
        have hJ6 : XJ shM 21 5 rm_X7_restOf G K σ [(0, .ref (gad G 0)), (1, .int v1), (2, .int o5), (3, .int v3), (4, .int v4)] 74 [] := by
          refine x_aload_n 0 (pc := 74) (i := 0) E dX7_restOf_74 rfl rfl ?_
          refine x_dup (pc := 75) E dX7_restOf_75 rfl ?_
          refine x_getI (pc := 76) (p := 28) E rfl (Nat.le_of_ble_eq_true rfl) rfl inlX7 (by decide) rfl wq_659 dX7_restOf_76 ?_
          refine x_iconst (pc := 79) (v := (1 : Int32)) E dX7_restOf_79 rfl ?_
          refine x_iadd (pc := 80) E dX7_restOf_80 ?_
          refine x_put (pc := 81) (p := 28) E rfl (Nat.le_of_ble_eq_true rfl) rfl inlX7 tyX7_ok nmX7 (by decide) rfl rfl rfl rfl wq_659 dX7_restOf_81 hf (fun σ8 hf => ?_)
          refine x_iinc 4 (pc := 84) (v := v4 + 1) (lv' := [(4, .int (v4 + 1)), (0, .ref (gad G 0)), (1, .int v1), (2, .int o5), (3, .int v3)]) E dX7_restOf_84 rfl rfl (by decide) rfl ?_
          refine x_goto (pc := 87) (tgt := 25) E dX7_restOf_87 (by decide) ?_
          obtain rfl := Option.some.inj hf
          exact x_sub [1, 2, 3, 4, 0] rfl (ih _ _ _ _ (lpk_l h2) hk)
        refine x_icmp_ne (pc := 52) (tgt := 74) E dX7_restOf_52 (by decide) hf7 (fun hf7 => ?_) (fun hf7 => ?_)
        · obtain rfl := Option.some.inj hf7
          exact x_sub [0, 1, 2, 3, 4] rfl hJ6
        · refine x_sipush (pc := 55) (v := (4096 : Int32)) E dX7_restOf_55 rfl ?_
          refine x_aload_n 0 (pc := 58) (i := 0) E dX7_restOf_58 rfl rfl ?_
          refine x_getR (pc := 59) (r := 15) (p := 22) E rfl (Nat.le_of_ble_eq_true rfl) rfl inlX7 (by decide) rfl wq_113 dX7_restOf_59 ?_
          refine x_iload_n 3 (pc := 62) (i := 3) E dX7_restOf_62 rfl rfl ?_
          refine x_iaload (pc := 63) E rfl (Nat.le_of_ble_eq_true rfl) dX7_restOf_63 hf7 (fun hf7 => ?_)
          refine x_imul (pc := 64) E dX7_restOf_64 ?_
          refine x_aload_n 0 (pc := 65) (i := 0) E dX7_restOf_65 rfl rfl ?_
          refine x_getR (pc := 66) (r := 16) (p := 23) E rfl (Nat.le_of_ble_eq_true rfl) rfl inlX7 (by decide) rfl wq_114 dX7_restOf_66 ?_
          refine x_iload 4 (pc := 69) E dX7_restOf_69 rfl ?_
          refine x_iaload (pc := 71) E rfl (Nat.le_of_ble_eq_true rfl) dX7_restOf_71 hf7 (fun hf7 => ?_)
          refine x_iadd (pc := 72) E dX7_restOf_72 ?_
          refine x_istore_n (pc := 73) (lv' := [(2, .int (((4096 : Int32) * (σ.1 15 v3.toNatClampNeg)) + (σ.1 16 v4.toNatClampNeg))), (0, .ref (gad G 0)), (1, .int v1), (3, .int v3), (4, .int v4)]) E dX7_restOf_73 rfl (by decide) rfl ?_
          obtain rfl := Option.some.inj hf7
          exact x_sub [1, 2, 0, 3, 4] rfl hJ6
      · refine x_goto (pc := 44) (tgt := 84) E dX7_restOf_44 (by decide) ?_
        refine x_iinc 4 (pc := 84) (v := v4 + 1) (lv' := [(4, .int (v4 + 1)), (0, .ref (gad G 0)), (1, .int v1), (2, .int v2), (3, .int v3)]) E dX7_restOf_84 rfl rfl (by decide) rfl ?_
        refine x_goto (pc := 87) (tgt := 25) E dX7_restOf_87 (by decide) ?_
        obtain rfl := Option.some.inj hf
        exact x_sub [1, 2, 3, 4, 0] rfl (ih _ _ _ _ (lpk_l h2) hk)
set_option maxHeartbeats 4000000 in
set_option maxRecDepth 100000 in
theorem l_X7_restOf_14 (G : Gx) {K : Kx}   (v1 : Int32) (E : OKc 21 cX7_restOf 5 RX7 G K) : ∀ (m : Nat) (v2 : Int32) (v3 : Int32) (σ : MM) (out : Int32 × MM), loopN (fun s => g_X7_restOf_14 v1 s.1 s.2.1 s.2.2) m (v2, v3, σ) = some out → XJ shM 21 5 rm_X7_restOf G K out.2 [(2, .int out.1)] 96 [] → XJ shM 21 5 rm_X7_restOf G K σ [(0, .ref (gad G 0)), (1, .int v1), (2, .int v2), (3, .int v3)] 14 [] := by
  intro m
  induction m with
  | zero => intro v2 v3 σ out hf; exact (loopN_0 hf).elim
  | succ m ih =>
    intro v2 v3 σ out hf hk
    obtain ⟨q, hf, h2⟩ := loopN_s hf
    have hf : g_X7_restOf_14 v1 v2 v3 σ = some q := hf
    unfold g_X7_restOf_14 at hf
    refine x_iload_n 3 (pc := 14) (i := 3) E dX7_restOf_14 rfl rfl ?_
    refine x_aload_n 0 (pc := 15) (i := 0) E dX7_restOf_15 rfl rfl ?_
    refine x_getI (pc := 16) (p := 26) E rfl (Nat.le_of_ble_eq_true rfl) rfl inlX7 (by decide) rfl wq_664 dX7_restOf_16 ?_
    refine x_icmp_ge (pc := 19) (tgt := 96) E dX7_restOf_19 (by decide) hf (fun hf => ?_) (fun hf => ?_)
    · obtain rfl := Option.some.inj hf
      obtain rfl := lpk_r h2
      exact x_sub [2] rfl hk
    · refine x_iconst (pc := 22) (v := (0 : Int32)) E dX7_restOf_22 rfl ?_
      refine x_istore (pc := 23) (lv' := [(4, .int (0 : Int32)), (0, .ref (gad G 0)), (1, .int v1), (2, .int v2), (3, .int v3)]) E dX7_restOf_23 (by decide) rfl ?_
      obtain ⟨o9, hl10, hf⟩ := bind_some hf
      refine x_sub [1, 2, 3, 4, 0] rfl (l_X7_restOf_25 G   v1 v3 E FU _ _ _ o9 hl10 ?_)
      refine x_iinc 3 (pc := 90) (v := v3 + 1) (lv' := [(3, .int (v3 + 1)), (0, .ref (gad G 0)), (1, .int v1), (2, .int o9.1)]) E dX7_restOf_90 rfl rfl (by decide) rfl ?_
      refine x_goto (pc := 93) (tgt := 14) E dX7_restOf_93 (by decide) ?_
      obtain rfl := Option.some.inj hf
      exact x_sub [1, 2, 3, 0] rfl (ih _ _ _ _ (lpk_l h2) hk)
set_option maxHeartbeats 4000000 in
set_option maxRecDepth 100000 in
theorem c_X7_restOf (G : Gx) (v1 : Int32) (σ : MM) (r : Int32) (σ' : MM) (hf : f_X7_restOf v1 σ = some (r, σ')) : Ct shM 21 yX7_restOf cX7_restOf 5 (some .int) rm_X7_restOf G [.ref (gad G 0), .int v1] σ (some (.int r)) σ' := by
  refine ct_of (by decide) (Nat.le_of_ble_eq_true rfl) (fun K E hR => ?_)
  have E : OKc 21 cX7_restOf 5 RX7 G K := E
  show XJ shM 21 5 rm_X7_restOf G K σ [(0, .ref (gad G 0)), (1, .int v1)] 0 []
  unfold f_X7_restOf at hf
  refine x_aload_n 0 (pc := 0) (i := 0) E dX7_restOf_0 rfl rfl ?_
  refine x_callVwv (pc := 1) (na := 0) (As := []) E (c_X7_findPaper G σ) rfl (Nat.le_of_ble_eq_true rfl) rfl wq_669 wq_5 wq_666 wq_667 wq_668 rfl rfl (by decide) ⟨Nat.le_of_ble_eq_true rfl, Nat.le_of_ble_eq_true rfl⟩ rfl rfl (Nat.le_of_ble_eq_true rfl) dX7_restOf_1 hf (fun σ2 hf => ?_)
  refine x_aload_n 0 (pc := 4) (i := 0) E dX7_restOf_4 rfl rfl ?_
  refine x_iconst (pc := 5) (v := (0 : Int32)) E dX7_restOf_5 rfl ?_
  refine x_put (pc := 6) (p := 28) E rfl (Nat.le_of_ble_eq_true rfl) rfl inlX7 tyX7_ok nmX7 (by decide) rfl rfl rfl rfl wq_659 dX7_restOf_6 hf (fun σ3 hf => ?_)
  refine x_bipush (pc := 9) (v := (-9 : Int32)) E dX7_restOf_9 rfl ?_
  refine x_istore_n (pc := 11) (lv' := [(2, .int (-9 : Int32)), (0, .ref (gad G 0)), (1, .int v1)]) E dX7_restOf_11 rfl (by decide) rfl ?_
  refine x_iconst (pc := 12) (v := (0 : Int32)) E dX7_restOf_12 rfl ?_
  refine x_istore_n (pc := 13) (lv' := [(3, .int (0 : Int32)), (2, .int (-9 : Int32)), (0, .ref (gad G 0)), (1, .int v1)]) E dX7_restOf_13 rfl (by decide) rfl ?_
  obtain ⟨o11, hl12, hf⟩ := bind_some hf
  refine x_sub [2, 3, 1, 0] rfl (l_X7_restOf_14 G   v1 E FU _ _ _ o11 hl12 ?_)
  refine x_iload_n 0 (pc := 96) (i := 2) E dX7_restOf_96 rfl rfl ?_
  obtain ⟨rfl, rfl⟩ := Prod.mk.inj (Option.some.inj hf)
  exact x_iret (pc := 97) E hR dX7_restOf_97
set_option maxHeartbeats 4000000 in
set_option maxRecDepth 100000 in
theorem c_X7_rests (G : Gx) (σ : MM) (r : Int32) (σ' : MM) (hf : f_X7_rests σ = some (r, σ')) : Ct shM 21 yX7_rests cX7_rests 1 (some .int) rm_X7_rests G [.ref (gad G 0)] σ (some (.int r)) σ' := by
  refine ct_of (by decide) (Nat.le_of_ble_eq_true rfl) (fun K E hR => ?_)
  have E : OKc 21 cX7_rests 1 RX7 G K := E
  show XJ shM 21 1 rm_X7_rests G K σ [(0, .ref (gad G 0))] 0 []
  unfold f_X7_rests at hf
  refine x_aload_n 0 (pc := 0) (i := 0) E dX7_rests_0 rfl rfl ?_
  refine x_callVri (pc := 1) (na := 0) (As := []) E (c_X7_isEnough G σ) rfl (Nat.le_of_ble_eq_true rfl) rfl wq_516 wq_5 wq_513 wq_514 wq_515 rfl rfl (by decide) ⟨Nat.le_of_ble_eq_true rfl, Nat.le_of_ble_eq_true rfl⟩ rfl rfl (Nat.le_of_ble_eq_true rfl) dX7_rests_1 hf (fun r1 hf => ?_)
  refine x_if_ne (y := 0) (pc := 4) (tgt := 14) E dX7_rests_4 (by decide) hf (fun hf => ?_) (fun hf => ?_)
  · refine x_aload_n 0 (pc := 14) (i := 0) E dX7_rests_14 rfl rfl ?_
    refine x_iconst (pc := 15) (v := (-1 : Int32)) E dX7_rests_15 rfl ?_
    refine x_callVwi (pc := 16) (na := 1) (As := [.int (-1 : Int32)]) E (c_X7_restOf G (-1 : Int32) σ) rfl (Nat.le_of_ble_eq_true rfl) rfl wq_663 wq_5 wq_660 wq_661 wq_662 rfl rfl (by decide) ⟨Nat.le_of_ble_eq_true rfl, Nat.le_of_ble_eq_true rfl⟩ rfl rfl (Nat.le_of_ble_eq_true rfl) dX7_rests_16 hf (fun r2 σ3 hf => ?_)
    refine x_bipush (pc := 19) (v := (-9 : Int32)) E dX7_rests_19 rfl ?_
    refine x_icmp_ne (pc := 21) (tgt := 31) E dX7_rests_21 (by decide) hf (fun hf => ?_) (fun hf => ?_)
    · refine x_iconst (pc := 31) (v := (0 : Int32)) E dX7_rests_31 rfl ?_
      obtain ⟨rfl, rfl⟩ := Prod.mk.inj (Option.some.inj hf)
      exact x_iret (pc := 32) E hR dX7_rests_32
    · refine x_aload_n 0 (pc := 24) (i := 0) E dX7_rests_24 rfl rfl ?_
      refine x_getI (pc := 25) (p := 28) E rfl (Nat.le_of_ble_eq_true rfl) rfl inlX7 (by decide) rfl wq_659 dX7_rests_25 ?_
      refine x_goto (pc := 28) (tgt := 32) E dX7_rests_28 (by decide) ?_
      obtain ⟨rfl, rfl⟩ := Prod.mk.inj (Option.some.inj hf)
      exact x_iret (pc := 32) E hR dX7_rests_32
  · refine x_aload_n 0 (pc := 7) (i := 0) E dX7_rests_7 rfl rfl ?_
    refine x_bipush (pc := 8) (v := (-3 : Int32)) E dX7_rests_8 rfl ?_
    refine x_callVwi (pc := 10) (na := 1) (As := [.int (-3 : Int32)]) E (c_X7_no G (-3 : Int32) σ) rfl (Nat.le_of_ble_eq_true rfl) rfl wq_151 wq_5 wq_148 wq_149 wq_150 rfl rfl (by decide) ⟨Nat.le_of_ble_eq_true rfl, Nat.le_of_ble_eq_true rfl⟩ rfl rfl (Nat.le_of_ble_eq_true rfl) dX7_rests_10 hf (fun r4 σ5 hf => ?_)
    obtain ⟨rfl, rfl⟩ := Prod.mk.inj (Option.some.inj hf)
    exact x_iret (pc := 13) E hR dX7_rests_13
set_option maxHeartbeats 4000000 in
set_option maxRecDepth 100000 in
theorem c_X7_rest (G : Gx) (v1 : Int32) (σ : MM) (r : Int32) (σ' : MM) (hf : f_X7_rest v1 σ = some (r, σ')) : Ct shM 21 yX7_rest cX7_rest 2 (some .int) rm_X7_rest G [.ref (gad G 0), .int v1] σ (some (.int r)) σ' := by
  refine ct_of (by decide) (Nat.le_of_ble_eq_true rfl) (fun K E hR => ?_)
  have E : OKc 21 cX7_rest 2 RX7 G K := E
  show XJ shM 21 2 rm_X7_rest G K σ [(0, .ref (gad G 0)), (1, .int v1)] 0 []
  unfold f_X7_rest at hf
  refine x_aload_n 0 (pc := 0) (i := 0) E dX7_rest_0 rfl rfl ?_
  refine x_callVri (pc := 1) (na := 0) (As := []) E (c_X7_isEnough G σ) rfl (Nat.le_of_ble_eq_true rfl) rfl wq_516 wq_5 wq_513 wq_514 wq_515 rfl rfl (by decide) ⟨Nat.le_of_ble_eq_true rfl, Nat.le_of_ble_eq_true rfl⟩ rfl rfl (Nat.le_of_ble_eq_true rfl) dX7_rest_1 hf (fun r1 hf => ?_)
  refine x_if_ne (y := 0) (pc := 4) (tgt := 14) E dX7_rest_4 (by decide) hf (fun hf => ?_) (fun hf => ?_)
  · refine x_aload_n 0 (pc := 14) (i := 0) E dX7_rest_14 rfl rfl ?_
    refine x_iload_n 1 (pc := 15) (i := 1) E dX7_rest_15 rfl rfl ?_
    refine x_callVwi (pc := 16) (na := 1) (As := [.int v1]) E (c_X7_restOf G v1 σ) rfl (Nat.le_of_ble_eq_true rfl) rfl wq_663 wq_5 wq_660 wq_661 wq_662 rfl rfl (by decide) ⟨Nat.le_of_ble_eq_true rfl, Nat.le_of_ble_eq_true rfl⟩ rfl rfl (Nat.le_of_ble_eq_true rfl) dX7_rest_16 hf (fun r2 σ3 hf => ?_)
    obtain ⟨rfl, rfl⟩ := Prod.mk.inj (Option.some.inj hf)
    exact x_iret (pc := 19) E hR dX7_rest_19
  · refine x_aload_n 0 (pc := 7) (i := 0) E dX7_rest_7 rfl rfl ?_
    refine x_bipush (pc := 8) (v := (-3 : Int32)) E dX7_rest_8 rfl ?_
    refine x_callVwi (pc := 10) (na := 1) (As := [.int (-3 : Int32)]) E (c_X7_no G (-3 : Int32) σ) rfl (Nat.le_of_ble_eq_true rfl) rfl wq_151 wq_5 wq_148 wq_149 wq_150 rfl rfl (by decide) ⟨Nat.le_of_ble_eq_true rfl, Nat.le_of_ble_eq_true rfl⟩ rfl rfl (Nat.le_of_ble_eq_true rfl) dX7_rest_10 hf (fun r4 σ5 hf => ?_)
    obtain ⟨rfl, rfl⟩ := Prod.mk.inj (Option.some.inj hf)
    exact x_iret (pc := 13) E hR dX7_rest_13
set_option maxHeartbeats 4000000 in
set_option maxRecDepth 100000 in
theorem c_X7_paper (G : Gx) (v1 : Int32) (v2 : Int32) (σ : MM) (r : Int64) (σ' : MM) (hf : f_X7_paper v1 v2 σ = some (r, σ')) : Ct shM 21 yX7_paper cX7_paper 3 (some .long) rm_X7_paper G [.ref (gad G 0), .int v1, .int v2] σ (some (.long r)) σ' := by
  refine ct_of (by decide) (Nat.le_of_ble_eq_true rfl) (fun K E hR => ?_)
  have E : OKc 21 cX7_paper 3 RX7 G K := E
  show XJ shM 21 3 rm_X7_paper G K σ [(0, .ref (gad G 0)), (1, .int v1), (2, .int v2)] 0 []
  unfold f_X7_paper at hf
  refine x_aload_n 0 (pc := 0) (i := 0) E dX7_paper_0 rfl rfl ?_
  refine x_callVri (pc := 1) (na := 0) (As := []) E (c_X7_isEnough G σ) rfl (Nat.le_of_ble_eq_true rfl) rfl wq_516 wq_5 wq_513 wq_514 wq_515 rfl rfl (by decide) ⟨Nat.le_of_ble_eq_true rfl, Nat.le_of_ble_eq_true rfl⟩ rfl rfl (Nat.le_of_ble_eq_true rfl) dX7_paper_1 hf (fun r1 hf => ?_)
  refine x_if_ne (y := 0) (pc := 4) (tgt := 14) E dX7_paper_4 (by decide) hf (fun hf => ?_) (fun hf => ?_)
  · refine x_iload_n 1 (pc := 14) (i := 1) E dX7_paper_14 rfl rfl ?_
    refine x_if_lt (y := 0) (pc := 15) (tgt := 44) E dX7_paper_15 (by decide) hf (fun hf => ?_) (fun hf => ?_)
    · refine x_aload_n 0 (pc := 44) (i := 0) E dX7_paper_44 rfl rfl ?_
      refine x_iconst (pc := 45) (v := (-1 : Int32)) E dX7_paper_45 rfl ?_
      refine x_callVwl (pc := 46) (na := 1) (As := [.int (-1 : Int32)]) E (c_X7_noLong G (-1 : Int32) σ) rfl (Nat.le_of_ble_eq_true rfl) rfl wq_352 wq_5 wq_349 wq_350 wq_351 rfl rfl (by decide) ⟨Nat.le_of_ble_eq_true rfl, Nat.le_of_ble_eq_true rfl⟩ rfl rfl (Nat.le_of_ble_eq_true rfl) dX7_paper_46 hf (fun r2 σ3 hf => ?_)
      obtain ⟨rfl, rfl⟩ := Prod.mk.inj (Option.some.inj hf)
      exact x_lret (pc := 49) E hR dX7_paper_49
    · refine x_iload_n 2 (pc := 18) (i := 2) E dX7_paper_18 rfl rfl ?_
      refine x_if_lt (y := 0) (pc := 19) (tgt := 44) E dX7_paper_19 (by decide) hf (fun hf => ?_) (fun hf => ?_)
      · refine x_aload_n 0 (pc := 44) (i := 0) E dX7_paper_44 rfl rfl ?_
        refine x_iconst (pc := 45) (v := (-1 : Int32)) E dX7_paper_45 rfl ?_
        refine x_callVwl (pc := 46) (na := 1) (As := [.int (-1 : Int32)]) E (c_X7_noLong G (-1 : Int32) σ) rfl (Nat.le_of_ble_eq_true rfl) rfl wq_352 wq_5 wq_349 wq_350 wq_351 rfl rfl (by decide) ⟨Nat.le_of_ble_eq_true rfl, Nat.le_of_ble_eq_true rfl⟩ rfl rfl (Nat.le_of_ble_eq_true rfl) dX7_paper_46 hf (fun r4 σ5 hf => ?_)
        obtain ⟨rfl, rfl⟩ := Prod.mk.inj (Option.some.inj hf)
        exact x_lret (pc := 49) E hR dX7_paper_49
      · refine x_iload_n 1 (pc := 22) (i := 1) E dX7_paper_22 rfl rfl ?_
        refine x_aload_n 0 (pc := 23) (i := 0) E dX7_paper_23 rfl rfl ?_
        refine x_callVri (pc := 24) (na := 0) (As := []) E (c_X7_called G σ) rfl (Nat.le_of_ble_eq_true rfl) rfl wq_528 wq_5 wq_525 wq_526 wq_527 rfl rfl (by decide) ⟨Nat.le_of_ble_eq_true rfl, Nat.le_of_ble_eq_true rfl⟩ rfl rfl (Nat.le_of_ble_eq_true rfl) dX7_paper_24 hf (fun r6 hf => ?_)
        refine x_iconst (pc := 27) (v := (-1 : Int32)) E dX7_paper_27 rfl ?_
        refine x_ixor (pc := 28) E dX7_paper_28 ?_
        refine x_iand (pc := 29) E dX7_paper_29 ?_
        refine x_if_ne (y := 0) (pc := 30) (tgt := 44) E dX7_paper_30 (by decide) hf (fun hf => ?_) (fun hf => ?_)
        · refine x_aload_n 0 (pc := 44) (i := 0) E dX7_paper_44 rfl rfl ?_
          refine x_iconst (pc := 45) (v := (-1 : Int32)) E dX7_paper_45 rfl ?_
          refine x_callVwl (pc := 46) (na := 1) (As := [.int (-1 : Int32)]) E (c_X7_noLong G (-1 : Int32) σ) rfl (Nat.le_of_ble_eq_true rfl) rfl wq_352 wq_5 wq_349 wq_350 wq_351 rfl rfl (by decide) ⟨Nat.le_of_ble_eq_true rfl, Nat.le_of_ble_eq_true rfl⟩ rfl rfl (Nat.le_of_ble_eq_true rfl) dX7_paper_46 hf (fun r7 σ8 hf => ?_)
          obtain ⟨rfl, rfl⟩ := Prod.mk.inj (Option.some.inj hf)
          exact x_lret (pc := 49) E hR dX7_paper_49
        · refine x_iload_n 2 (pc := 33) (i := 2) E dX7_paper_33 rfl rfl ?_
          refine x_aload_n 0 (pc := 34) (i := 0) E dX7_paper_34 rfl rfl ?_
          refine x_callVri (pc := 35) (na := 0) (As := []) E (c_X7_called G σ) rfl (Nat.le_of_ble_eq_true rfl) rfl wq_528 wq_5 wq_525 wq_526 wq_527 rfl rfl (by decide) ⟨Nat.le_of_ble_eq_true rfl, Nat.le_of_ble_eq_true rfl⟩ rfl rfl (Nat.le_of_ble_eq_true rfl) dX7_paper_35 hf (fun r9 hf => ?_)
          refine x_iconst (pc := 38) (v := (-1 : Int32)) E dX7_paper_38 rfl ?_
          refine x_ixor (pc := 39) E dX7_paper_39 ?_
          refine x_iand (pc := 40) E dX7_paper_40 ?_
          refine x_if_eq (y := 0) (pc := 41) (tgt := 50) E dX7_paper_41 (by decide) hf (fun hf => ?_) (fun hf => ?_)
          · refine x_iload_n 1 (pc := 50) (i := 1) E dX7_paper_50 rfl rfl ?_
            refine x_callSri (pc := 51) (na := 1) (As := [.int v1]) E (c_X7_bits G v1 σ) wq_344 wq_5 wq_342 wq_343 rfl rfl (by decide) ⟨Nat.le_of_ble_eq_true rfl, Nat.le_of_ble_eq_true rfl⟩ rfl rfl (Nat.le_of_ble_eq_true rfl) dX7_paper_51 hf (fun r10 hf => ?_)
            refine x_aload_n 0 (pc := 54) (i := 0) E dX7_paper_54 rfl rfl ?_
            refine x_getR (pc := 55) (r := 4) (p := 3) E rfl (Nat.le_of_ble_eq_true rfl) rfl inlX7 (by decide) rfl wq_101 dX7_paper_55 ?_
            refine x_iconst (pc := 58) (v := (1 : Int32)) E dX7_paper_58 rfl ?_
            refine x_iaload (pc := 59) E rfl (Nat.le_of_ble_eq_true rfl) dX7_paper_59 hf (fun hf => ?_)
            refine x_icmp_ne (pc := 60) (tgt := 76) E dX7_paper_60 (by decide) hf (fun hf => ?_) (fun hf => ?_)
            · refine x_aload_n 0 (pc := 76) (i := 0) E dX7_paper_76 rfl rfl ?_
              refine x_bipush (pc := 77) (v := (-3 : Int32)) E dX7_paper_77 rfl ?_
              refine x_callVwl (pc := 79) (na := 1) (As := [.int (-3 : Int32)]) E (c_X7_noLong G (-3 : Int32) σ) rfl (Nat.le_of_ble_eq_true rfl) rfl wq_352 wq_5 wq_349 wq_350 wq_351 rfl rfl (by decide) ⟨Nat.le_of_ble_eq_true rfl, Nat.le_of_ble_eq_true rfl⟩ rfl rfl (Nat.le_of_ble_eq_true rfl) dX7_paper_79 hf (fun r11 σ12 hf => ?_)
              obtain ⟨rfl, rfl⟩ := Prod.mk.inj (Option.some.inj hf)
              exact x_lret (pc := 82) E hR dX7_paper_82
            · refine x_iload_n 2 (pc := 63) (i := 2) E dX7_paper_63 rfl rfl ?_
              refine x_callSri (pc := 64) (na := 1) (As := [.int v2]) E (c_X7_bits G v2 σ) wq_344 wq_5 wq_342 wq_343 rfl rfl (by decide) ⟨Nat.le_of_ble_eq_true rfl, Nat.le_of_ble_eq_true rfl⟩ rfl rfl (Nat.le_of_ble_eq_true rfl) dX7_paper_64 hf (fun r13 hf => ?_)
              refine x_aload_n 0 (pc := 67) (i := 0) E dX7_paper_67 rfl rfl ?_
              refine x_getR (pc := 68) (r := 4) (p := 3) E rfl (Nat.le_of_ble_eq_true rfl) rfl inlX7 (by decide) rfl wq_101 dX7_paper_68 ?_
              refine x_iconst (pc := 71) (v := (2 : Int32)) E dX7_paper_71 rfl ?_
              refine x_iaload (pc := 72) E rfl (Nat.le_of_ble_eq_true rfl) dX7_paper_72 hf (fun hf => ?_)
              refine x_icmp_eq (pc := 73) (tgt := 83) E dX7_paper_73 (by decide) hf (fun hf => ?_) (fun hf => ?_)
              · refine x_aload_n 0 (pc := 83) (i := 0) E dX7_paper_83 rfl rfl ?_
                refine x_callVwv (pc := 84) (na := 0) (As := []) E (c_X7_holdsTrue G σ) rfl (Nat.le_of_ble_eq_true rfl) rfl wq_357 wq_5 wq_354 wq_355 wq_356 rfl rfl (by decide) ⟨Nat.le_of_ble_eq_true rfl, Nat.le_of_ble_eq_true rfl⟩ rfl rfl (Nat.le_of_ble_eq_true rfl) dX7_paper_84 hf (fun σ15 hf => ?_)
                refine x_aload_n 0 (pc := 87) (i := 0) E dX7_paper_87 rfl rfl ?_
                refine x_aload_n 0 (pc := 88) (i := 0) E dX7_paper_88 rfl rfl ?_
                refine x_iload_n 1 (pc := 89) (i := 1) E dX7_paper_89 rfl rfl ?_
                refine x_iload_n 2 (pc := 90) (i := 2) E dX7_paper_90 rfl rfl ?_
                refine x_callVri (pc := 91) (na := 2) (As := [.int v1, .int v2]) E (c_X7_juryOf G v1 v2 σ15) rfl (Nat.le_of_ble_eq_true rfl) rfl wq_673 wq_5 wq_670 wq_671 wq_672 rfl rfl (by decide) ⟨Nat.le_of_ble_eq_true rfl, Nat.le_of_ble_eq_true rfl⟩ rfl rfl (Nat.le_of_ble_eq_true rfl) dX7_paper_91 hf (fun r16 hf => ?_)
                refine x_callVwl (pc := 94) (na := 1) (As := [.int r16]) E (c_X7_chanceOf G r16 σ15) rfl (Nat.le_of_ble_eq_true rfl) rfl wq_361 wq_5 wq_358 wq_359 wq_360 rfl rfl (by decide) ⟨Nat.le_of_ble_eq_true rfl, Nat.le_of_ble_eq_true rfl⟩ rfl rfl (Nat.le_of_ble_eq_true rfl) dX7_paper_94 hf (fun r17 σ18 hf => ?_)
                obtain ⟨rfl, rfl⟩ := Prod.mk.inj (Option.some.inj hf)
                exact x_lret (pc := 97) E hR dX7_paper_97
              · refine x_aload_n 0 (pc := 76) (i := 0) E dX7_paper_76 rfl rfl ?_
                refine x_bipush (pc := 77) (v := (-3 : Int32)) E dX7_paper_77 rfl ?_
                refine x_callVwl (pc := 79) (na := 1) (As := [.int (-3 : Int32)]) E (c_X7_noLong G (-3 : Int32) σ) rfl (Nat.le_of_ble_eq_true rfl) rfl wq_352 wq_5 wq_349 wq_350 wq_351 rfl rfl (by decide) ⟨Nat.le_of_ble_eq_true rfl, Nat.le_of_ble_eq_true rfl⟩ rfl rfl (Nat.le_of_ble_eq_true rfl) dX7_paper_79 hf (fun r19 σ20 hf => ?_)
                obtain ⟨rfl, rfl⟩ := Prod.mk.inj (Option.some.inj hf)
                exact x_lret (pc := 82) E hR dX7_paper_82
          · refine x_aload_n 0 (pc := 44) (i := 0) E dX7_paper_44 rfl rfl ?_
            refine x_iconst (pc := 45) (v := (-1 : Int32)) E dX7_paper_45 rfl ?_
            refine x_callVwl (pc := 46) (na := 1) (As := [.int (-1 : Int32)]) E (c_X7_noLong G (-1 : Int32) σ) rfl (Nat.le_of_ble_eq_true rfl) rfl wq_352 wq_5 wq_349 wq_350 wq_351 rfl rfl (by decide) ⟨Nat.le_of_ble_eq_true rfl, Nat.le_of_ble_eq_true rfl⟩ rfl rfl (Nat.le_of_ble_eq_true rfl) dX7_paper_46 hf (fun r21 σ22 hf => ?_)
            obtain ⟨rfl, rfl⟩ := Prod.mk.inj (Option.some.inj hf)
            exact x_lret (pc := 49) E hR dX7_paper_49
  · refine x_aload_n 0 (pc := 7) (i := 0) E dX7_paper_7 rfl rfl ?_
    refine x_bipush (pc := 8) (v := (-3 : Int32)) E dX7_paper_8 rfl ?_
    refine x_callVwl (pc := 10) (na := 1) (As := [.int (-3 : Int32)]) E (c_X7_noLong G (-3 : Int32) σ) rfl (Nat.le_of_ble_eq_true rfl) rfl wq_352 wq_5 wq_349 wq_350 wq_351 rfl rfl (by decide) ⟨Nat.le_of_ble_eq_true rfl, Nat.le_of_ble_eq_true rfl⟩ rfl rfl (Nat.le_of_ble_eq_true rfl) dX7_paper_10 hf (fun r23 σ24 hf => ?_)
    obtain ⟨rfl, rfl⟩ := Prod.mk.inj (Option.some.inj hf)
    exact x_lret (pc := 13) E hR dX7_paper_13
set_option maxHeartbeats 4000000 in
set_option maxRecDepth 100000 in
theorem c_X7_place (G : Gx) (v1 : Int32) (v2 : Int32) (v3 : Int32) (σ : MM) (r : Int32) (hf : f_X7_place v1 v2 v3 σ = some r) : Ct shM 21 yX7_place cX7_place 4 (some .int) rm_X7_place G [.ref (gad G 0), .int v1, .int v2, .int v3] σ (some (.int r)) σ := by
  refine ct_of (by decide) (Nat.le_of_ble_eq_true rfl) (fun K E hR => ?_)
  have E : OKc 21 cX7_place 4 RX7 G K := E
  show XJ shM 21 4 rm_X7_place G K σ [(0, .ref (gad G 0)), (1, .int v1), (2, .int v2), (3, .int v3)] 0 []
  unfold f_X7_place at hf
  refine x_sipush (pc := 0) (v := (4096 : Int32)) E dX7_place_0 rfl ?_
  refine x_iconst (pc := 3) (v := (4 : Int32)) E dX7_place_3 rfl ?_
  refine x_iload_n 1 (pc := 4) (i := 1) E dX7_place_4 rfl rfl ?_
  refine x_imul (pc := 5) E dX7_place_5 ?_
  refine x_iload_n 2 (pc := 6) (i := 2) E dX7_place_6 rfl rfl ?_
  refine x_iadd (pc := 7) E dX7_place_7 ?_
  refine x_imul (pc := 8) E dX7_place_8 ?_
  refine x_iload_n 3 (pc := 9) (i := 3) E dX7_place_9 rfl rfl ?_
  refine x_iadd (pc := 10) E dX7_place_10 ?_
  obtain rfl := Option.some.inj hf
  exact x_iret (pc := 11) E hR dX7_place_11
set_option maxHeartbeats 4000000 in
set_option maxRecDepth 100000 in
theorem c_X7_leftOfB (G : Gx) (v1 : Int32) (v2 : Int32) (v3 : Int32) (σ : MM) (r : Int32) (hf : f_X7_leftOfB v1 v2 v3 σ = some r) : Ct shM 21 yX7_leftOfB cX7_leftOfB 4 (some .int) rm_X7_leftOfB G [.ref (gad G 0), .int v1, .int v2, .int v3] σ (some (.int r)) σ := by
  refine ct_of (by decide) (Nat.le_of_ble_eq_true rfl) (fun K E hR => ?_)
  have E : OKc 21 cX7_leftOfB 4 RX7 G K := E
  show XJ shM 21 4 rm_X7_leftOfB G K σ [(0, .ref (gad G 0)), (1, .int v1), (2, .int v2), (3, .int v3)] 0 []
  unfold f_X7_leftOfB at hf
  refine x_aload_n 0 (pc := 0) (i := 0) E dX7_leftOfB_0 rfl rfl ?_
  refine x_getR (pc := 1) (r := 4) (p := 3) E rfl (Nat.le_of_ble_eq_true rfl) rfl inlX7 (by decide) rfl wq_101 dX7_leftOfB_1 ?_
  refine x_iconst (pc := 4) (v := (1 : Int32)) E dX7_leftOfB_4 rfl ?_
  refine x_iaload (pc := 5) E rfl (Nat.le_of_ble_eq_true rfl) dX7_leftOfB_5 hf (fun hf => ?_)
  refine x_aload_n 0 (pc := 6) (i := 0) E dX7_leftOfB_6 rfl rfl ?_
  refine x_getR (pc := 7) (r := 4) (p := 3) E rfl (Nat.le_of_ble_eq_true rfl) rfl inlX7 (by decide) rfl wq_101 dX7_leftOfB_7 ?_
  refine x_iconst (pc := 10) (v := (2 : Int32)) E dX7_leftOfB_10 rfl ?_
  refine x_iaload (pc := 11) E rfl (Nat.le_of_ble_eq_true rfl) dX7_leftOfB_11 hf (fun hf => ?_)
  refine x_iadd (pc := 12) E dX7_leftOfB_12 ?_
  refine x_iload_n 1 (pc := 13) (i := 1) E dX7_leftOfB_13 rfl rfl ?_
  refine x_iload_n 3 (pc := 14) (i := 3) E dX7_leftOfB_14 rfl rfl ?_
  refine x_callSri (pc := 15) (na := 1) (As := [.int v3]) E (c_X7_bits G v3 σ) wq_344 wq_5 wq_342 wq_343 rfl rfl (by decide) ⟨Nat.le_of_ble_eq_true rfl, Nat.le_of_ble_eq_true rfl⟩ rfl rfl (Nat.le_of_ble_eq_true rfl) dX7_leftOfB_15 hf (fun r1 hf => ?_)
  refine x_isub (pc := 18) E dX7_leftOfB_18 ?_
  refine x_isub (pc := 19) E dX7_leftOfB_19 ?_
  refine x_iload_n 2 (pc := 20) (i := 2) E dX7_leftOfB_20 rfl rfl ?_
  refine x_isub (pc := 21) E dX7_leftOfB_21 ?_
  obtain rfl := Option.some.inj hf
  exact x_iret (pc := 22) E hR dX7_leftOfB_22
set_option maxHeartbeats 4000000 in
set_option maxRecDepth 100000 in
theorem c_X7_ends (G : Gx) (v1 : Int32) (v2 : Int32) (σ : MM) (r : Int32) (hf : f_X7_ends v1 v2 σ = some r) : Ct shM 21 yX7_ends cX7_ends 4 (some .boolean) rm_X7_ends G [.ref (gad G 0), .int v1, .int v2] σ (some (.int r)) σ := by
  refine ct_of (by decide) (Nat.le_of_ble_eq_true rfl) (fun K E hR => ?_)
  have E : OKc 21 cX7_ends 4 RX7 G K := E
  show XJ shM 21 4 rm_X7_ends G K σ [(0, .ref (gad G 0)), (1, .int v1), (2, .int v2)] 0 []
  unfold f_X7_ends at hf
  refine x_aload_n 0 (pc := 0) (i := 0) E dX7_ends_0 rfl rfl ?_
  refine x_callVri (pc := 1) (na := 0) (As := []) E (c_X7_needed G σ) rfl (Nat.le_of_ble_eq_true rfl) rfl wq_348 wq_5 wq_345 wq_346 wq_347 rfl rfl (by decide) ⟨Nat.le_of_ble_eq_true rfl, Nat.le_of_ble_eq_true rfl⟩ rfl rfl (Nat.le_of_ble_eq_true rfl) dX7_ends_1 hf (fun r1 hf => ?_)
  refine x_iload_n 2 (pc := 4) (i := 2) E dX7_ends_4 rfl rfl ?_
  refine x_callSri (pc := 5) (na := 1) (As := [.int v2]) E (c_X7_bits G v2 σ) wq_344 wq_5 wq_342 wq_343 rfl rfl (by decide) ⟨Nat.le_of_ble_eq_true rfl, Nat.le_of_ble_eq_true rfl⟩ rfl rfl (Nat.le_of_ble_eq_true rfl) dX7_ends_5 hf (fun r2 hf => ?_)
  refine x_isub (pc := 8) E dX7_ends_8 ?_
  refine x_istore_n (pc := 9) (lv' := [(3, .int (r1 - r2)), (0, .ref (gad G 0)), (1, .int v1), (2, .int v2)]) E dX7_ends_9 rfl (by decide) rfl ?_
  refine x_iload_n 0 (pc := 10) (i := 3) E dX7_ends_10 rfl rfl ?_
  refine x_if_eq (y := 0) (pc := 11) (tgt := 24) E dX7_ends_11 (by decide) hf (fun hf => ?_) (fun hf => ?_)
  · refine x_iconst (pc := 24) (v := (1 : Int32)) E dX7_ends_24 rfl ?_
    refine x_goto (pc := 25) (tgt := 29) E dX7_ends_25 (by decide) ?_
    obtain ⟨hz, hf⟩ := chk_some hf
    obtain rfl := Option.some.inj hf
    exact x_zret (pc := 29) E hR (isB_nar hz) dX7_ends_29
  · refine x_iload_n 0 (pc := 14) (i := 3) E dX7_ends_14 rfl rfl ?_
    refine x_aload_n 1 (pc := 15) (i := 0) E dX7_ends_15 rfl rfl ?_
    refine x_callVri (pc := 16) (na := 0) (As := []) E (c_X7_calledMany G σ) rfl (Nat.le_of_ble_eq_true rfl) rfl wq_520 wq_5 wq_517 wq_518 wq_519 rfl rfl (by decide) ⟨Nat.le_of_ble_eq_true rfl, Nat.le_of_ble_eq_true rfl⟩ rfl rfl (Nat.le_of_ble_eq_true rfl) dX7_ends_16 hf (fun r3 hf => ?_)
    refine x_iload_n 2 (pc := 19) (i := 1) E dX7_ends_19 rfl rfl ?_
    refine x_isub (pc := 20) E dX7_ends_20 ?_
    refine x_icmp_ne (pc := 21) (tgt := 28) E dX7_ends_21 (by decide) hf (fun hf => ?_) (fun hf => ?_)
    · refine x_iconst (pc := 28) (v := (0 : Int32)) E dX7_ends_28 rfl ?_
      obtain ⟨hz, hf⟩ := chk_some hf
      obtain rfl := Option.some.inj hf
      exact x_zret (pc := 29) E hR (isB_nar hz) dX7_ends_29
    · refine x_iconst (pc := 24) (v := (1 : Int32)) E dX7_ends_24 rfl ?_
      refine x_goto (pc := 25) (tgt := 29) E dX7_ends_25 (by decide) ?_
      obtain ⟨hz, hf⟩ := chk_some hf
      obtain rfl := Option.some.inj hf
      exact x_zret (pc := 29) E hR (isB_nar hz) dX7_ends_29
set_option maxHeartbeats 4000000 in
set_option maxRecDepth 100000 in
theorem c_X7_seatedAll (G : Gx) (v1 : Int32) (v2 : Int32) (σ : MM) (r : Int32) (hf : f_X7_seatedAll v1 v2 σ = some r) : Ct shM 21 yX7_seatedAll cX7_seatedAll 3 (some .int) rm_X7_seatedAll G [.ref (gad G 0), .int v1, .int v2] σ (some (.int r)) σ := by
  refine ct_of (by decide) (Nat.le_of_ble_eq_true rfl) (fun K E hR => ?_)
  have E : OKc 21 cX7_seatedAll 3 RX7 G K := E
  show XJ shM 21 3 rm_X7_seatedAll G K σ [(0, .ref (gad G 0)), (1, .int v1), (2, .int v2)] 0 []
  unfold f_X7_seatedAll at hf
  refine x_aload_n 0 (pc := 0) (i := 0) E dX7_seatedAll_0 rfl rfl ?_
  refine x_callVri (pc := 1) (na := 0) (As := []) E (c_X7_needed G σ) rfl (Nat.le_of_ble_eq_true rfl) rfl wq_348 wq_5 wq_345 wq_346 wq_347 rfl rfl (by decide) ⟨Nat.le_of_ble_eq_true rfl, Nat.le_of_ble_eq_true rfl⟩ rfl rfl (Nat.le_of_ble_eq_true rfl) dX7_seatedAll_1 hf (fun r1 hf => ?_)
  refine x_iload_n 2 (pc := 4) (i := 2) E dX7_seatedAll_4 rfl rfl ?_
  refine x_callSri (pc := 5) (na := 1) (As := [.int v2]) E (c_X7_bits G v2 σ) wq_344 wq_5 wq_342 wq_343 rfl rfl (by decide) ⟨Nat.le_of_ble_eq_true rfl, Nat.le_of_ble_eq_true rfl⟩ rfl rfl (Nat.le_of_ble_eq_true rfl) dX7_seatedAll_5 hf (fun r2 hf => ?_)
  refine x_icmp_ne (pc := 8) (tgt := 15) E dX7_seatedAll_8 (by decide) hf (fun hf => ?_) (fun hf => ?_)
  · refine x_iload_n 2 (pc := 15) (i := 2) E dX7_seatedAll_15 rfl rfl ?_
    refine x_aload_n 0 (pc := 16) (i := 0) E dX7_seatedAll_16 rfl rfl ?_
    refine x_callVri (pc := 17) (na := 0) (As := []) E (c_X7_called G σ) rfl (Nat.le_of_ble_eq_true rfl) rfl wq_528 wq_5 wq_525 wq_526 wq_527 rfl rfl (by decide) ⟨Nat.le_of_ble_eq_true rfl, Nat.le_of_ble_eq_true rfl⟩ rfl rfl (Nat.le_of_ble_eq_true rfl) dX7_seatedAll_17 hf (fun r3 hf => ?_)
    refine x_iconst (pc := 20) (v := (1 : Int32)) E dX7_seatedAll_20 rfl ?_
    refine x_iload_n 1 (pc := 21) (i := 1) E dX7_seatedAll_21 rfl rfl ?_
    refine x_ishl (pc := 22) E dX7_seatedAll_22 ?_
    refine x_iconst (pc := 23) (v := (1 : Int32)) E dX7_seatedAll_23 rfl ?_
    refine x_isub (pc := 24) E dX7_seatedAll_24 ?_
    refine x_iconst (pc := 25) (v := (-1 : Int32)) E dX7_seatedAll_25 rfl ?_
    refine x_ixor (pc := 26) E dX7_seatedAll_26 ?_
    refine x_iand (pc := 27) E dX7_seatedAll_27 ?_
    refine x_ior (pc := 28) E dX7_seatedAll_28 ?_
    obtain rfl := Option.some.inj hf
    exact x_iret (pc := 29) E hR dX7_seatedAll_29
  · refine x_iload_n 2 (pc := 11) (i := 2) E dX7_seatedAll_11 rfl rfl ?_
    refine x_goto (pc := 12) (tgt := 29) E dX7_seatedAll_12 (by decide) ?_
    obtain rfl := Option.some.inj hf
    exact x_iret (pc := 29) E hR dX7_seatedAll_29
set_option maxHeartbeats 4000000 in
set_option maxRecDepth 100000 in
theorem c_X7_strikesB (G : Gx) (v1 : Int32) (v2 : Int32) (v3 : Int32) (σ : MM) (r : Int32) (hf : f_X7_strikesB v1 v2 v3 σ = some r) : Ct shM 21 yX7_strikesB cX7_strikesB 4 (some .boolean) rm_X7_strikesB G [.ref (gad G 0), .int v1, .int v2, .int v3] σ (some (.int r)) σ := by
  refine ct_of (by decide) (Nat.le_of_ble_eq_true rfl) (fun K E hR => ?_)
  have E : OKc 21 cX7_strikesB 4 RX7 G K := E
  show XJ shM 21 4 rm_X7_strikesB G K σ [(0, .ref (gad G 0)), (1, .int v1), (2, .int v2), (3, .int v3)] 0 []
  unfold f_X7_strikesB at hf
  refine x_aload_n 0 (pc := 0) (i := 0) E dX7_strikesB_0 rfl rfl ?_
  refine x_iload_n 1 (pc := 1) (i := 1) E dX7_strikesB_1 rfl rfl ?_
  refine x_iload_n 2 (pc := 2) (i := 2) E dX7_strikesB_2 rfl rfl ?_
  refine x_iload_n 3 (pc := 3) (i := 3) E dX7_strikesB_3 rfl rfl ?_
  refine x_callVri (pc := 4) (na := 3) (As := [.int v1, .int v2, .int v3]) E (c_X7_leftOfB G v1 v2 v3 σ) rfl (Nat.le_of_ble_eq_true rfl) rfl wq_758 wq_5 wq_755 wq_756 wq_757 rfl rfl (by decide) ⟨Nat.le_of_ble_eq_true rfl, Nat.le_of_ble_eq_true rfl⟩ rfl rfl (Nat.le_of_ble_eq_true rfl) dX7_strikesB_4 hf (fun r1 hf => ?_)
  refine x_if_le (y := 0) (pc := 7) (tgt := 50) E dX7_strikesB_7 (by decide) hf (fun hf => ?_) (fun hf => ?_)
  · refine x_iconst (pc := 50) (v := (0 : Int32)) E dX7_strikesB_50 rfl ?_
    obtain ⟨hz, hf⟩ := chk_some hf
    obtain rfl := Option.some.inj hf
    exact x_zret (pc := 51) E hR (isB_nar hz) dX7_strikesB_51
  · refine x_aload_n 0 (pc := 10) (i := 0) E dX7_strikesB_10 rfl rfl ?_
    refine x_getR (pc := 11) (r := 19) (p := 29) E rfl (Nat.le_of_ble_eq_true rfl) rfl inlX7 (by decide) rfl wq_118 dX7_strikesB_11 ?_
    refine x_aload_n 0 (pc := 14) (i := 0) E dX7_strikesB_14 rfl rfl ?_
    refine x_iload_n 1 (pc := 15) (i := 1) E dX7_strikesB_15 rfl rfl ?_
    refine x_iconst (pc := 16) (v := (1 : Int32)) E dX7_strikesB_16 rfl ?_
    refine x_iadd (pc := 17) E dX7_strikesB_17 ?_
    refine x_iload_n 2 (pc := 18) (i := 2) E dX7_strikesB_18 rfl rfl ?_
    refine x_iload_n 3 (pc := 19) (i := 3) E dX7_strikesB_19 rfl rfl ?_
    refine x_callVri (pc := 20) (na := 3) (As := [.int (v1 + (1 : Int32)), .int v2, .int v3]) E (c_X7_place G (v1 + (1 : Int32)) v2 v3 σ) rfl (Nat.le_of_ble_eq_true rfl) rfl wq_762 wq_5 wq_759 wq_760 wq_761 rfl rfl (by decide) ⟨Nat.le_of_ble_eq_true rfl, Nat.le_of_ble_eq_true rfl⟩ rfl rfl (Nat.le_of_ble_eq_true rfl) dX7_strikesB_20 hf (fun r2 hf => ?_)
    refine x_laload (pc := 23) E rfl (Nat.le_of_ble_eq_true rfl) dX7_strikesB_23 hf (fun hf => ?_)
    refine x_aload_n 0 (pc := 24) (i := 0) E dX7_strikesB_24 rfl rfl ?_
    refine x_getR (pc := 25) (r := 19) (p := 29) E rfl (Nat.le_of_ble_eq_true rfl) rfl inlX7 (by decide) rfl wq_118 dX7_strikesB_25 ?_
    refine x_aload_n 0 (pc := 28) (i := 0) E dX7_strikesB_28 rfl rfl ?_
    refine x_iload_n 1 (pc := 29) (i := 1) E dX7_strikesB_29 rfl rfl ?_
    refine x_iconst (pc := 30) (v := (1 : Int32)) E dX7_strikesB_30 rfl ?_
    refine x_iadd (pc := 31) E dX7_strikesB_31 ?_
    refine x_iload_n 2 (pc := 32) (i := 2) E dX7_strikesB_32 rfl rfl ?_
    refine x_iload_n 3 (pc := 33) (i := 3) E dX7_strikesB_33 rfl rfl ?_
    refine x_iconst (pc := 34) (v := (1 : Int32)) E dX7_strikesB_34 rfl ?_
    refine x_iload_n 1 (pc := 35) (i := 1) E dX7_strikesB_35 rfl rfl ?_
    refine x_ishl (pc := 36) E dX7_strikesB_36 ?_
    refine x_ior (pc := 37) E dX7_strikesB_37 ?_
    refine x_callVri (pc := 38) (na := 3) (As := [.int (v1 + (1 : Int32)), .int v2, .int (v3 ||| ((1 : Int32) <<< (v1 &&& 31)))]) E (c_X7_place G (v1 + (1 : Int32)) v2 (v3 ||| ((1 : Int32) <<< (v1 &&& 31))) σ) rfl (Nat.le_of_ble_eq_true rfl) rfl wq_762 wq_5 wq_759 wq_760 wq_761 rfl rfl (by decide) ⟨Nat.le_of_ble_eq_true rfl, Nat.le_of_ble_eq_true rfl⟩ rfl rfl (Nat.le_of_ble_eq_true rfl) dX7_strikesB_38 hf (fun r3 hf => ?_)
    refine x_laload (pc := 41) E rfl (Nat.le_of_ble_eq_true rfl) dX7_strikesB_41 hf (fun hf => ?_)
    refine x_lcmp_ge (pc := 42) (tgt := 50) E dX7_strikesB_42 dX7_strikesB_43 (by decide) hf (fun hf => ?_) (fun hf => ?_)
    · refine x_iconst (pc := 50) (v := (0 : Int32)) E dX7_strikesB_50 rfl ?_
      obtain ⟨hz, hf⟩ := chk_some hf
      obtain rfl := Option.some.inj hf
      exact x_zret (pc := 51) E hR (isB_nar hz) dX7_strikesB_51
    · refine x_iconst (pc := 46) (v := (1 : Int32)) E dX7_strikesB_46 rfl ?_
      refine x_goto (pc := 47) (tgt := 51) E dX7_strikesB_47 (by decide) ?_
      obtain ⟨hz, hf⟩ := chk_some hf
      obtain rfl := Option.some.inj hf
      exact x_zret (pc := 51) E hR (isB_nar hz) dX7_strikesB_51
set_option maxHeartbeats 4000000 in
set_option maxRecDepth 100000 in
theorem c_X7_notByA (G : Gx) (v1 : Int32) (v2 : Int32) (v3 : Int32) (σ : MM) (r : Int64) (hf : f_X7_notByA v1 v2 v3 σ = some r) : Ct shM 21 yX7_notByA cX7_notByA 4 (some .long) rm_X7_notByA G [.ref (gad G 0), .int v1, .int v2, .int v3] σ (some (.long r)) σ := by
  refine ct_of (by decide) (Nat.le_of_ble_eq_true rfl) (fun K E hR => ?_)
  have E : OKc 21 cX7_notByA 4 RX7 G K := E
  show XJ shM 21 4 rm_X7_notByA G K σ [(0, .ref (gad G 0)), (1, .int v1), (2, .int v2), (3, .int v3)] 0 []
  unfold f_X7_notByA at hf
  refine x_aload_n 0 (pc := 0) (i := 0) E dX7_notByA_0 rfl rfl ?_
  refine x_getR (pc := 1) (r := 19) (p := 29) E rfl (Nat.le_of_ble_eq_true rfl) rfl inlX7 (by decide) rfl wq_118 dX7_notByA_1 ?_
  refine x_aload_n 0 (pc := 4) (i := 0) E dX7_notByA_4 rfl rfl ?_
  refine x_iload_n 1 (pc := 5) (i := 1) E dX7_notByA_5 rfl rfl ?_
  refine x_iconst (pc := 6) (v := (1 : Int32)) E dX7_notByA_6 rfl ?_
  refine x_iadd (pc := 7) E dX7_notByA_7 ?_
  refine x_iload_n 2 (pc := 8) (i := 2) E dX7_notByA_8 rfl rfl ?_
  refine x_aload_n 0 (pc := 9) (i := 0) E dX7_notByA_9 rfl rfl ?_
  refine x_iload_n 1 (pc := 10) (i := 1) E dX7_notByA_10 rfl rfl ?_
  refine x_iload_n 2 (pc := 11) (i := 2) E dX7_notByA_11 rfl rfl ?_
  refine x_iload_n 3 (pc := 12) (i := 3) E dX7_notByA_12 rfl rfl ?_
  refine x_callVri (pc := 13) (na := 3) (As := [.int v1, .int v2, .int v3]) E (c_X7_strikesB G v1 v2 v3 σ) rfl (Nat.le_of_ble_eq_true rfl) rfl wq_782 wq_5 wq_779 wq_780 wq_781 rfl rfl (by decide) ⟨Nat.le_of_ble_eq_true rfl, Nat.le_of_ble_eq_true rfl⟩ rfl rfl (Nat.le_of_ble_eq_true rfl) dX7_notByA_13 hf (fun r1 hf => ?_)
  obtain ⟨o2, hf4, hf⟩ := bind_some hf
  have hJ3 : XJ shM 21 4 rm_X7_notByA G K σ [] 28 [.int o2, .int v2, .int (v1 + (1 : Int32)), .ref (gad G 0), .ref (gad G 19)] := by
    refine x_callVri (pc := 28) (na := 3) (As := [.int (v1 + (1 : Int32)), .int v2, .int o2]) E (c_X7_place G (v1 + (1 : Int32)) v2 o2 σ) rfl (Nat.le_of_ble_eq_true rfl) rfl wq_762 wq_5 wq_759 wq_760 wq_761 rfl rfl (by decide) ⟨Nat.le_of_ble_eq_true rfl, Nat.le_of_ble_eq_true rfl⟩ rfl rfl (Nat.le_of_ble_eq_true rfl) dX7_notByA_28 hf (fun r5 hf => ?_)
    refine x_laload (pc := 31) E rfl (Nat.le_of_ble_eq_true rfl) dX7_notByA_31 hf (fun hf => ?_)
    obtain rfl := Option.some.inj hf
    exact x_lret (pc := 32) E hR dX7_notByA_32
  refine x_if_eq (y := 0) (pc := 16) (tgt := 23) E dX7_notByA_16 (by decide) hf4 (fun hf4 => ?_) (fun hf4 => ?_)
  · refine x_iload_n 3 (pc := 23) (i := 3) E dX7_notByA_23 rfl rfl ?_
    refine x_iconst (pc := 24) (v := (1 : Int32)) E dX7_notByA_24 rfl ?_
    refine x_iload_n 1 (pc := 25) (i := 1) E dX7_notByA_25 rfl rfl ?_
    refine x_ishl (pc := 26) E dX7_notByA_26 ?_
    refine x_ior (pc := 27) E dX7_notByA_27 ?_
    obtain rfl := Option.some.inj hf4
    exact x_sub [] rfl hJ3
  · refine x_iload_n 3 (pc := 19) (i := 3) E dX7_notByA_19 rfl rfl ?_
    refine x_goto (pc := 20) (tgt := 28) E dX7_notByA_20 (by decide) ?_
    obtain rfl := Option.some.inj hf4
    exact x_sub [] rfl hJ3
set_option maxHeartbeats 4000000 in
set_option maxRecDepth 100000 in
theorem c_X7_strikesA (G : Gx) (v1 : Int32) (v2 : Int32) (v3 : Int32) (σ : MM) (r : Int32) (hf : f_X7_strikesA v1 v2 v3 σ = some r) : Ct shM 21 yX7_strikesA cX7_strikesA 4 (some .boolean) rm_X7_strikesA G [.ref (gad G 0), .int v1, .int v2, .int v3] σ (some (.int r)) σ := by
  refine ct_of (by decide) (Nat.le_of_ble_eq_true rfl) (fun K E hR => ?_)
  have E : OKc 21 cX7_strikesA 4 RX7 G K := E
  show XJ shM 21 4 rm_X7_strikesA G K σ [(0, .ref (gad G 0)), (1, .int v1), (2, .int v2), (3, .int v3)] 0 []
  unfold f_X7_strikesA at hf
  refine x_iload_n 2 (pc := 0) (i := 2) E dX7_strikesA_0 rfl rfl ?_
  refine x_if_le (y := 0) (pc := 1) (tgt := 35) E dX7_strikesA_1 (by decide) hf (fun hf => ?_) (fun hf => ?_)
  · refine x_iconst (pc := 35) (v := (0 : Int32)) E dX7_strikesA_35 rfl ?_
    obtain ⟨hz, hf⟩ := chk_some hf
    obtain rfl := Option.some.inj hf
    exact x_zret (pc := 36) E hR (isB_nar hz) dX7_strikesA_36
  · refine x_aload_n 0 (pc := 4) (i := 0) E dX7_strikesA_4 rfl rfl ?_
    refine x_getR (pc := 5) (r := 19) (p := 29) E rfl (Nat.le_of_ble_eq_true rfl) rfl inlX7 (by decide) rfl wq_118 dX7_strikesA_5 ?_
    refine x_aload_n 0 (pc := 8) (i := 0) E dX7_strikesA_8 rfl rfl ?_
    refine x_iload_n 1 (pc := 9) (i := 1) E dX7_strikesA_9 rfl rfl ?_
    refine x_iconst (pc := 10) (v := (1 : Int32)) E dX7_strikesA_10 rfl ?_
    refine x_iadd (pc := 11) E dX7_strikesA_11 ?_
    refine x_iload_n 2 (pc := 12) (i := 2) E dX7_strikesA_12 rfl rfl ?_
    refine x_iconst (pc := 13) (v := (1 : Int32)) E dX7_strikesA_13 rfl ?_
    refine x_isub (pc := 14) E dX7_strikesA_14 ?_
    refine x_iload_n 3 (pc := 15) (i := 3) E dX7_strikesA_15 rfl rfl ?_
    refine x_callVri (pc := 16) (na := 3) (As := [.int (v1 + (1 : Int32)), .int (v2 - (1 : Int32)), .int v3]) E (c_X7_place G (v1 + (1 : Int32)) (v2 - (1 : Int32)) v3 σ) rfl (Nat.le_of_ble_eq_true rfl) rfl wq_762 wq_5 wq_759 wq_760 wq_761 rfl rfl (by decide) ⟨Nat.le_of_ble_eq_true rfl, Nat.le_of_ble_eq_true rfl⟩ rfl rfl (Nat.le_of_ble_eq_true rfl) dX7_strikesA_16 hf (fun r1 hf => ?_)
    refine x_laload (pc := 19) E rfl (Nat.le_of_ble_eq_true rfl) dX7_strikesA_19 hf (fun hf => ?_)
    refine x_aload_n 0 (pc := 20) (i := 0) E dX7_strikesA_20 rfl rfl ?_
    refine x_iload_n 1 (pc := 21) (i := 1) E dX7_strikesA_21 rfl rfl ?_
    refine x_iload_n 2 (pc := 22) (i := 2) E dX7_strikesA_22 rfl rfl ?_
    refine x_iload_n 3 (pc := 23) (i := 3) E dX7_strikesA_23 rfl rfl ?_
    refine x_callVrl (pc := 24) (na := 3) (As := [.int v1, .int v2, .int v3]) E (c_X7_notByA G v1 v2 v3 σ) rfl (Nat.le_of_ble_eq_true rfl) rfl wq_778 wq_5 wq_775 wq_776 wq_777 rfl rfl (by decide) ⟨Nat.le_of_ble_eq_true rfl, Nat.le_of_ble_eq_true rfl⟩ rfl rfl (Nat.le_of_ble_eq_true rfl) dX7_strikesA_24 hf (fun r2 hf => ?_)
    refine x_lcmp_le (pc := 27) (tgt := 35) E dX7_strikesA_27 dX7_strikesA_28 (by decide) hf (fun hf => ?_) (fun hf => ?_)
    · refine x_iconst (pc := 35) (v := (0 : Int32)) E dX7_strikesA_35 rfl ?_
      obtain ⟨hz, hf⟩ := chk_some hf
      obtain rfl := Option.some.inj hf
      exact x_zret (pc := 36) E hR (isB_nar hz) dX7_strikesA_36
    · refine x_iconst (pc := 31) (v := (1 : Int32)) E dX7_strikesA_31 rfl ?_
      refine x_goto (pc := 32) (tgt := 36) E dX7_strikesA_32 (by decide) ?_
      obtain ⟨hz, hf⟩ := chk_some hf
      obtain rfl := Option.some.inj hf
      exact x_zret (pc := 36) E hR (isB_nar hz) dX7_strikesA_36
set_option maxHeartbeats 4000000 in
set_option maxRecDepth 100000 in
theorem l_X7_findComing_56 (G : Gx) {K : Kx}   (v1 : Int32) (v2 : Int32) (E : OKc 21 cX7_findComing 5 RX7 G K) : ∀ (m : Nat) (v4 : Int32) (σ : MM) (out : MM), loopN (fun s => g_X7_findComing_56 v1 v2 s.1 s.2) m (v4, σ) = some out → XJ shM 21 5 rm_X7_findComing G K out [(0, .ref (gad G 0)), (1, .int v1), (2, .int v2)] 171 [] → XJ shM 21 5 rm_X7_findComing G K σ [(0, .ref (gad G 0)), (1, .int v1), (2, .int v2), (4, .int v4)] 56 [] := by
  intro m
  induction m with
  | zero => intro v4 σ out hf; exact (loopN_0 hf).elim
  | succ m ih =>
    intro v4 σ out hf hk
    obtain ⟨q, hf, h2⟩ := loopN_s hf
    have hf : g_X7_findComing_56 v1 v2 v4 σ = some q := hf
    unfold g_X7_findComing_56 at hf
    refine x_iload 3 (pc := 56) E dX7_findComing_56 rfl ?_
    refine x_aload_n 0 (pc := 58) (i := 0) E dX7_findComing_58 rfl rfl ?_
    refine x_getR (pc := 59) (r := 4) (p := 3) E rfl (Nat.le_of_ble_eq_true rfl) rfl inlX7 (by decide) rfl wq_101 dX7_findComing_59 ?_
    refine x_iconst (pc := 62) (v := (1 : Int32)) E dX7_findComing_62 rfl ?_
    refine x_iaload (pc := 63) E rfl (Nat.le_of_ble_eq_true rfl) dX7_findComing_63 hf (fun hf => ?_)
    refine x_icmp_gt (pc := 64) (tgt := 171) E dX7_findComing_64 (by decide) hf (fun hf => ?_) (fun hf => ?_)
    · obtain rfl := Option.some.inj hf
      obtain rfl := lpk_r h2
      exact x_sub [0, 1, 2] rfl hk
    · refine x_aload_n 0 (pc := 67) (i := 0) E dX7_findComing_67 rfl rfl ?_
      refine x_iload_n 1 (pc := 68) (i := 1) E dX7_findComing_68 rfl rfl ?_
      refine x_iload 3 (pc := 69) E dX7_findComing_69 rfl ?_
      refine x_iload_n 2 (pc := 71) (i := 2) E dX7_findComing_71 rfl rfl ?_
      refine x_callVri (pc := 72) (na := 3) (As := [.int v1, .int v4, .int v2]) E (c_X7_leftOfB G v1 v4 v2 σ) rfl (Nat.le_of_ble_eq_true rfl) rfl wq_758 wq_5 wq_755 wq_756 wq_757 rfl rfl (by decide) ⟨Nat.le_of_ble_eq_true rfl, Nat.le_of_ble_eq_true rfl⟩ rfl rfl (Nat.le_of_ble_eq_true rfl) dX7_findComing_72 hf (fun r8 hf => ?_)
      refine x_iconst (pc := 75) (v := (0 : Int32)) E dX7_findComing_75 rfl ?_
      refine x_aload_n 0 (pc := 76) (i := 0) E dX7_findComing_76 rfl rfl ?_
      refine x_getR (pc := 77) (r := 4) (p := 3) E rfl (Nat.le_of_ble_eq_true rfl) rfl inlX7 (by decide) rfl wq_101 dX7_findComing_77 ?_
      refine x_iconst (pc := 80) (v := (2 : Int32)) E dX7_findComing_80 rfl ?_
      refine x_iaload (pc := 81) E rfl (Nat.le_of_ble_eq_true rfl) dX7_findComing_81 hf (fun hf => ?_)
      refine x_callSri (pc := 82) (na := 3) (As := [.int r8, .int (0 : Int32), .int (σ.1 4 (2 : Int32).toNatClampNeg)]) E (c_X7_isIn G r8 (0 : Int32) (σ.1 4 (2 : Int32).toNatClampNeg) σ) wq_185 wq_5 wq_183 wq_184 rfl rfl (by decide) ⟨Nat.le_of_ble_eq_true rfl, Nat.le_of_ble_eq_true rfl⟩ rfl rfl (Nat.le_of_ble_eq_true rfl) dX7_findComing_82 hf (fun r9 hf => ?_)
      refine x_if_ne (y := 0) (pc := 85) (tgt := 91) E dX7_findComing_85 (by decide) hf (fun hf => ?_) (fun hf => ?_)
      · refine x_aload_n 0 (pc := 91) (i := 0) E dX7_findComing_91 rfl rfl ?_
        refine x_getR (pc := 92) (r := 19) (p := 29) E rfl (Nat.le_of_ble_eq_true rfl) rfl inlX7 (by decide) rfl wq_118 dX7_findComing_92 ?_
        refine x_aload_n 0 (pc := 95) (i := 0) E dX7_findComing_95 rfl rfl ?_
        refine x_iload_n 1 (pc := 96) (i := 1) E dX7_findComing_96 rfl rfl ?_
        refine x_iload 3 (pc := 97) E dX7_findComing_97 rfl ?_
        refine x_iload_n 2 (pc := 99) (i := 2) E dX7_findComing_99 rfl rfl ?_
        refine x_callVri (pc := 100) (na := 3) (As := [.int v1, .int v4, .int v2]) E (c_X7_place G v1 v4 v2 σ) rfl (Nat.le_of_ble_eq_true rfl) rfl wq_762 wq_5 wq_759 wq_760 wq_761 rfl rfl (by decide) ⟨Nat.le_of_ble_eq_true rfl, Nat.le_of_ble_eq_true rfl⟩ rfl rfl (Nat.le_of_ble_eq_true rfl) dX7_findComing_100 hf (fun r10 hf => ?_)
        refine x_aload_n 0 (pc := 103) (i := 0) E dX7_findComing_103 rfl rfl ?_
        refine x_iload_n 1 (pc := 104) (i := 1) E dX7_findComing_104 rfl rfl ?_
        refine x_iload_n 2 (pc := 105) (i := 2) E dX7_findComing_105 rfl rfl ?_
        refine x_callVri (pc := 106) (na := 2) (As := [.int v1, .int v2]) E (c_X7_ends G v1 v2 σ) rfl (Nat.le_of_ble_eq_true rfl) rfl wq_766 wq_5 wq_763 wq_764 wq_765 rfl rfl (by decide) ⟨Nat.le_of_ble_eq_true rfl, Nat.le_of_ble_eq_true rfl⟩ rfl rfl (Nat.le_of_ble_eq_true rfl) dX7_findComing_106 hf (fun r11 hf => ?_)
        refine x_if_eq (y := 0) (pc := 109) (tgt := 125) E dX7_findComing_109 (by decide) hf (fun hf => ?_) (fun hf => ?_)
        · refine x_aload_n 0 (pc := 125) (i := 0) E dX7_findComing_125 rfl rfl ?_
          refine x_iload_n 1 (pc := 126) (i := 1) E dX7_findComing_126 rfl rfl ?_
          refine x_iload 3 (pc := 127) E dX7_findComing_127 rfl ?_
          refine x_iload_n 2 (pc := 129) (i := 2) E dX7_findComing_129 rfl rfl ?_
          refine x_callVri (pc := 130) (na := 3) (As := [.int v1, .int v4, .int v2]) E (c_X7_strikesA G v1 v4 v2 σ) rfl (Nat.le_of_ble_eq_true rfl) rfl wq_774 wq_5 wq_771 wq_772 wq_773 rfl rfl (by decide) ⟨Nat.le_of_ble_eq_true rfl, Nat.le_of_ble_eq_true rfl⟩ rfl rfl (Nat.le_of_ble_eq_true rfl) dX7_findComing_130 hf (fun r12 hf => ?_)
          refine x_if_eq (y := 0) (pc := 133) (tgt := 156) E dX7_findComing_133 (by decide) hf (fun hf => ?_) (fun hf => ?_)
          · refine x_aload_n 0 (pc := 156) (i := 0) E dX7_findComing_156 rfl rfl ?_
            refine x_iload_n 1 (pc := 157) (i := 1) E dX7_findComing_157 rfl rfl ?_
            refine x_iload 3 (pc := 158) E dX7_findComing_158 rfl ?_
            refine x_iload_n 2 (pc := 160) (i := 2) E dX7_findComing_160 rfl rfl ?_
            refine x_callVrl (pc := 161) (na := 3) (As := [.int v1, .int v4, .int v2]) E (c_X7_notByA G v1 v4 v2 σ) rfl (Nat.le_of_ble_eq_true rfl) rfl wq_778 wq_5 wq_775 wq_776 wq_777 rfl rfl (by decide) ⟨Nat.le_of_ble_eq_true rfl, Nat.le_of_ble_eq_true rfl⟩ rfl rfl (Nat.le_of_ble_eq_true rfl) dX7_findComing_161 hf (fun r13 hf => ?_)
            refine x_lastore (pc := 164) E rfl (Nat.le_of_ble_eq_true rfl) dX7_findComing_164 hf (fun σ14 hf => ?_)
            refine x_iinc 3 (pc := 165) (v := v4 + 1) (lv' := [(4, .int (v4 + 1)), (0, .ref (gad G 0)), (1, .int v1), (2, .int v2)]) E dX7_findComing_165 rfl rfl (by decide) rfl ?_
            refine x_goto (pc := 168) (tgt := 56) E dX7_findComing_168 (by decide) ?_
            obtain rfl := Option.some.inj hf
            exact x_sub [1, 2, 3, 0] rfl (ih _ _ _ (lpk_l h2) hk)
          · refine x_aload_n 0 (pc := 136) (i := 0) E dX7_findComing_136 rfl rfl ?_
            refine x_getR (pc := 137) (r := 19) (p := 29) E rfl (Nat.le_of_ble_eq_true rfl) rfl inlX7 (by decide) rfl wq_118 dX7_findComing_137 ?_
            refine x_aload_n 0 (pc := 140) (i := 0) E dX7_findComing_140 rfl rfl ?_
            refine x_iload_n 1 (pc := 141) (i := 1) E dX7_findComing_141 rfl rfl ?_
            refine x_iconst (pc := 142) (v := (1 : Int32)) E dX7_findComing_142 rfl ?_
            refine x_iadd (pc := 143) E dX7_findComing_143 ?_
            refine x_iload 3 (pc := 144) E dX7_findComing_144 rfl ?_
            refine x_iconst (pc := 146) (v := (1 : Int32)) E dX7_findComing_146 rfl ?_
            refine x_isub (pc := 147) E dX7_findComing_147 ?_
            refine x_iload_n 2 (pc := 148) (i := 2) E dX7_findComing_148 rfl rfl ?_
            refine x_callVri (pc := 149) (na := 3) (As := [.int (v1 + (1 : Int32)), .int (v4 - (1 : Int32)), .int v2]) E (c_X7_place G (v1 + (1 : Int32)) (v4 - (1 : Int32)) v2 σ) rfl (Nat.le_of_ble_eq_true rfl) rfl wq_762 wq_5 wq_759 wq_760 wq_761 rfl rfl (by decide) ⟨Nat.le_of_ble_eq_true rfl, Nat.le_of_ble_eq_true rfl⟩ rfl rfl (Nat.le_of_ble_eq_true rfl) dX7_findComing_149 hf (fun r15 hf => ?_)
            refine x_laload (pc := 152) E rfl (Nat.le_of_ble_eq_true rfl) dX7_findComing_152 hf (fun hf => ?_)
            refine x_goto (pc := 153) (tgt := 164) E dX7_findComing_153 (by decide) ?_
            refine x_lastore (pc := 164) E rfl (Nat.le_of_ble_eq_true rfl) dX7_findComing_164 hf (fun σ16 hf => ?_)
            refine x_iinc 3 (pc := 165) (v := v4 + 1) (lv' := [(4, .int (v4 + 1)), (0, .ref (gad G 0)), (1, .int v1), (2, .int v2)]) E dX7_findComing_165 rfl rfl (by decide) rfl ?_
            refine x_goto (pc := 168) (tgt := 56) E dX7_findComing_168 (by decide) ?_
            obtain rfl := Option.some.inj hf
            exact x_sub [1, 2, 3, 0] rfl (ih _ _ _ (lpk_l h2) hk)
        · refine x_aload_n 0 (pc := 112) (i := 0) E dX7_findComing_112 rfl rfl ?_
          refine x_aload_n 0 (pc := 113) (i := 0) E dX7_findComing_113 rfl rfl ?_
          refine x_iload_n 1 (pc := 114) (i := 1) E dX7_findComing_114 rfl rfl ?_
          refine x_iload_n 2 (pc := 115) (i := 2) E dX7_findComing_115 rfl rfl ?_
          refine x_callVri (pc := 116) (na := 2) (As := [.int v1, .int v2]) E (c_X7_seatedAll G v1 v2 σ) rfl (Nat.le_of_ble_eq_true rfl) rfl wq_770 wq_5 wq_767 wq_768 wq_769 rfl rfl (by decide) ⟨Nat.le_of_ble_eq_true rfl, Nat.le_of_ble_eq_true rfl⟩ rfl rfl (Nat.le_of_ble_eq_true rfl) dX7_findComing_116 hf (fun r17 hf => ?_)
          refine x_callVwl (pc := 119) (na := 1) (As := [.int r17]) E (c_X7_chanceOf G r17 σ) rfl (Nat.le_of_ble_eq_true rfl) rfl wq_361 wq_5 wq_358 wq_359 wq_360 rfl rfl (by decide) ⟨Nat.le_of_ble_eq_true rfl, Nat.le_of_ble_eq_true rfl⟩ rfl rfl (Nat.le_of_ble_eq_true rfl) dX7_findComing_119 hf (fun r18 σ19 hf => ?_)
          refine x_goto (pc := 122) (tgt := 164) E dX7_findComing_122 (by decide) ?_
          refine x_lastore (pc := 164) E rfl (Nat.le_of_ble_eq_true rfl) dX7_findComing_164 hf (fun σ20 hf => ?_)
          refine x_iinc 3 (pc := 165) (v := v4 + 1) (lv' := [(4, .int (v4 + 1)), (0, .ref (gad G 0)), (1, .int v1), (2, .int v2)]) E dX7_findComing_165 rfl rfl (by decide) rfl ?_
          refine x_goto (pc := 168) (tgt := 56) E dX7_findComing_168 (by decide) ?_
          obtain rfl := Option.some.inj hf
          exact x_sub [1, 2, 3, 0] rfl (ih _ _ _ (lpk_l h2) hk)
      · refine x_goto (pc := 88) (tgt := 165) E dX7_findComing_88 (by decide) ?_
        refine x_iinc 3 (pc := 165) (v := v4 + 1) (lv' := [(4, .int (v4 + 1)), (0, .ref (gad G 0)), (1, .int v1), (2, .int v2)]) E dX7_findComing_165 rfl rfl (by decide) rfl ?_
        refine x_goto (pc := 168) (tgt := 56) E dX7_findComing_168 (by decide) ?_
        obtain rfl := Option.some.inj hf
        exact x_sub [1, 2, 3, 0] rfl (ih _ _ _ (lpk_l h2) hk)
set_option maxHeartbeats 4000000 in
set_option maxRecDepth 100000 in
theorem l_X7_findComing_15 (G : Gx) {K : Kx}   (v1 : Int32) (E : OKc 21 cX7_findComing 5 RX7 G K) : ∀ (m : Nat) (v2 : Int32) (σ : MM) (out : MM), loopN (fun s => g_X7_findComing_15 v1 s.1 s.2) m (v2, σ) = some out → XJ shM 21 5 rm_X7_findComing G K out [(0, .ref (gad G 0)), (1, .int v1)] 177 [] → XJ shM 21 5 rm_X7_findComing G K σ [(0, .ref (gad G 0)), (1, .int v1), (2, .int v2)] 15 [] := by
  intro m
  induction m with
  | zero => intro v2 σ out hf; exact (loopN_0 hf).elim
  | succ m ih =>
    intro v2 σ out hf hk
    obtain ⟨q, hf, h2⟩ := loopN_s hf
    have hf : g_X7_findComing_15 v1 v2 σ = some q := hf
    unfold g_X7_findComing_15 at hf
    refine x_iload_n 2 (pc := 15) (i := 2) E dX7_findComing_15 rfl rfl ?_
    refine x_iconst (pc := 16) (v := (1 : Int32)) E dX7_findComing_16 rfl ?_
    refine x_iload_n 1 (pc := 17) (i := 1) E dX7_findComing_17 rfl rfl ?_
    refine x_ishl (pc := 18) E dX7_findComing_18 ?_
    refine x_icmp_ge (pc := 19) (tgt := 177) E dX7_findComing_19 (by decide) hf (fun hf => ?_) (fun hf => ?_)
    · obtain rfl := Option.some.inj hf
      obtain rfl := lpk_r h2
      exact x_sub [0, 1] rfl hk
    · refine x_iload_n 2 (pc := 22) (i := 2) E dX7_findComing_22 rfl rfl ?_
      refine x_callSri (pc := 23) (na := 1) (As := [.int v2]) E (c_X7_bits G v2 σ) wq_344 wq_5 wq_342 wq_343 rfl rfl (by decide) ⟨Nat.le_of_ble_eq_true rfl, Nat.le_of_ble_eq_true rfl⟩ rfl rfl (Nat.le_of_ble_eq_true rfl) dX7_findComing_23 hf (fun r4 hf => ?_)
      refine x_istore_n (pc := 26) (lv' := [(3, .int r4), (0, .ref (gad G 0)), (1, .int v1), (2, .int v2)]) E dX7_findComing_26 rfl (by decide) rfl ?_
      refine x_iload_n 0 (pc := 27) (i := 3) E dX7_findComing_27 rfl rfl ?_
      refine x_aload_n 1 (pc := 28) (i := 0) E dX7_findComing_28 rfl rfl ?_
      refine x_callVri (pc := 29) (na := 0) (As := []) E (c_X7_needed G σ) rfl (Nat.le_of_ble_eq_true rfl) rfl wq_348 wq_5 wq_345 wq_346 wq_347 rfl rfl (by decide) ⟨Nat.le_of_ble_eq_true rfl, Nat.le_of_ble_eq_true rfl⟩ rfl rfl (Nat.le_of_ble_eq_true rfl) dX7_findComing_29 hf (fun r5 hf => ?_)
      refine x_icmp_gt (pc := 32) (tgt := 171) E dX7_findComing_32 (by decide) hf (fun hf => ?_) (fun hf => ?_)
      · refine x_iinc 3 (pc := 171) (v := v2 + 1) (lv' := [(2, .int (v2 + 1)), (3, .int r4), (0, .ref (gad G 0)), (1, .int v1)]) E dX7_findComing_171 rfl rfl (by decide) rfl ?_
        refine x_goto (pc := 174) (tgt := 15) E dX7_findComing_174 (by decide) ?_
        obtain rfl := Option.some.inj hf
        exact x_sub [2, 3, 0] rfl (ih _ _ _ (lpk_l h2) hk)
      · refine x_aload_n 1 (pc := 35) (i := 0) E dX7_findComing_35 rfl rfl ?_
        refine x_callVri (pc := 36) (na := 0) (As := []) E (c_X7_needed G σ) rfl (Nat.le_of_ble_eq_true rfl) rfl wq_348 wq_5 wq_345 wq_346 wq_347 rfl rfl (by decide) ⟨Nat.le_of_ble_eq_true rfl, Nat.le_of_ble_eq_true rfl⟩ rfl rfl (Nat.le_of_ble_eq_true rfl) dX7_findComing_36 hf (fun r6 hf => ?_)
        refine x_iload_n 0 (pc := 39) (i := 3) E dX7_findComing_39 rfl rfl ?_
        refine x_isub (pc := 40) E dX7_findComing_40 ?_
        refine x_aload_n 1 (pc := 41) (i := 0) E dX7_findComing_41 rfl rfl ?_
        refine x_callVri (pc := 42) (na := 0) (As := []) E (c_X7_calledMany G σ) rfl (Nat.le_of_ble_eq_true rfl) rfl wq_520 wq_5 wq_517 wq_518 wq_519 rfl rfl (by decide) ⟨Nat.le_of_ble_eq_true rfl, Nat.le_of_ble_eq_true rfl⟩ rfl rfl (Nat.le_of_ble_eq_true rfl) dX7_findComing_42 hf (fun r7 hf => ?_)
        refine x_iload_n 2 (pc := 45) (i := 1) E dX7_findComing_45 rfl rfl ?_
        refine x_isub (pc := 46) E dX7_findComing_46 ?_
        refine x_icmp_le (pc := 47) (tgt := 53) E dX7_findComing_47 (by decide) hf (fun hf => ?_) (fun hf => ?_)
        · refine x_iconst (pc := 53) (v := (0 : Int32)) E dX7_findComing_53 rfl ?_
          refine x_istore (pc := 54) (lv' := [(4, .int (0 : Int32)), (3, .int r4), (0, .ref (gad G 0)), (1, .int v1), (2, .int v2)]) E dX7_findComing_54 (by decide) rfl ?_
          obtain ⟨o21, hl22, hf⟩ := bind_some hf
          refine x_sub [2, 3, 4, 0] rfl (l_X7_findComing_56 G   v1 v2 E FU _ _ o21 hl22 ?_)
          refine x_iinc 2 (pc := 171) (v := v2 + 1) (lv' := [(2, .int (v2 + 1)), (0, .ref (gad G 0)), (1, .int v1)]) E dX7_findComing_171 rfl rfl (by decide) rfl ?_
          refine x_goto (pc := 174) (tgt := 15) E dX7_findComing_174 (by decide) ?_
          obtain rfl := Option.some.inj hf
          exact x_sub [1, 2, 0] rfl (ih _ _ _ (lpk_l h2) hk)
        · refine x_goto (pc := 50) (tgt := 171) E dX7_findComing_50 (by decide) ?_
          refine x_iinc 3 (pc := 171) (v := v2 + 1) (lv' := [(2, .int (v2 + 1)), (3, .int r4), (0, .ref (gad G 0)), (1, .int v1)]) E dX7_findComing_171 rfl rfl (by decide) rfl ?_
          refine x_goto (pc := 174) (tgt := 15) E dX7_findComing_174 (by decide) ?_
          obtain rfl := Option.some.inj hf
          exact x_sub [2, 3, 0] rfl (ih _ _ _ (lpk_l h2) hk)
set_option maxHeartbeats 4000000 in
set_option maxRecDepth 100000 in
theorem l_X7_findComing_9 (G : Gx) {K : Kx}    (E : OKc 21 cX7_findComing 5 RX7 G K) : ∀ (m : Nat) (v1 : Int32) (σ : MM) (out : MM), loopN (fun s => g_X7_findComing_9 s.1 s.2) m (v1, σ) = some out → XJ shM 21 5 rm_X7_findComing G K out [] 183 [] → XJ shM 21 5 rm_X7_findComing G K σ [(0, .ref (gad G 0)), (1, .int v1)] 9 [] := by
  intro m
  induction m with
  | zero => intro v1 σ out hf; exact (loopN_0 hf).elim
  | succ m ih =>
    intro v1 σ out hf hk
    obtain ⟨q, hf, h2⟩ := loopN_s hf
    have hf : g_X7_findComing_9 v1 σ = some q := hf
    unfold g_X7_findComing_9 at hf
    refine x_iload_n 1 (pc := 9) (i := 1) E dX7_findComing_9 rfl rfl ?_
    refine x_if_lt (y := 0) (pc := 10) (tgt := 183) E dX7_findComing_10 (by decide) hf (fun hf => ?_) (fun hf => ?_)
    · obtain rfl := Option.some.inj hf
      obtain rfl := lpk_r h2
      exact x_sub [] rfl hk
    · refine x_iconst (pc := 13) (v := (0 : Int32)) E dX7_findComing_13 rfl ?_
      refine x_istore_n (pc := 14) (lv' := [(2, .int (0 : Int32)), (0, .ref (gad G 0)), (1, .int v1)]) E dX7_findComing_14 rfl (by decide) rfl ?_
      obtain ⟨o23, hl24, hf⟩ := bind_some hf
      refine x_sub [1, 2, 0] rfl (l_X7_findComing_15 G   v1 E FU _ _ o23 hl24 ?_)
      refine x_iinc 1 (pc := 177) (v := v1 + (-1)) (lv' := [(1, .int (v1 + (-1))), (0, .ref (gad G 0))]) E dX7_findComing_177 rfl rfl (by decide) rfl ?_
      refine x_goto (pc := 180) (tgt := 9) E dX7_findComing_180 (by decide) ?_
      obtain rfl := Option.some.inj hf
      exact x_sub [1, 0] rfl (ih _ _ _ (lpk_l h2) hk)
set_option maxHeartbeats 4000000 in
set_option maxRecDepth 100000 in
theorem c_X7_findComing (G : Gx) (σ : MM) (σ' : MM) (hf : f_X7_findComing σ = some σ') : Ct shM 21 yX7_findComing cX7_findComing 5 none rm_X7_findComing G [.ref (gad G 0)] σ none σ' := by
  refine ct_of (by decide) (Nat.le_of_ble_eq_true rfl) (fun K E hR => ?_)
  have E : OKc 21 cX7_findComing 5 RX7 G K := E
  show XJ shM 21 5 rm_X7_findComing G K σ [(0, .ref (gad G 0))] 0 []
  unfold f_X7_findComing at hf
  refine x_aload_n 0 (pc := 0) (i := 0) E dX7_findComing_0 rfl rfl ?_
  refine x_callVwv (pc := 1) (na := 0) (As := []) E (c_X7_holdsTrue G σ) rfl (Nat.le_of_ble_eq_true rfl) rfl wq_357 wq_5 wq_354 wq_355 wq_356 rfl rfl (by decide) ⟨Nat.le_of_ble_eq_true rfl, Nat.le_of_ble_eq_true rfl⟩ rfl rfl (Nat.le_of_ble_eq_true rfl) dX7_findComing_1 hf (fun σ2 hf => ?_)
  refine x_aload_n 0 (pc := 4) (i := 0) E dX7_findComing_4 rfl rfl ?_
  refine x_callVri (pc := 5) (na := 0) (As := []) E (c_X7_calledMany G σ2) rfl (Nat.le_of_ble_eq_true rfl) rfl wq_520 wq_5 wq_517 wq_518 wq_519 rfl rfl (by decide) ⟨Nat.le_of_ble_eq_true rfl, Nat.le_of_ble_eq_true rfl⟩ rfl rfl (Nat.le_of_ble_eq_true rfl) dX7_findComing_5 hf (fun r3 hf => ?_)
  refine x_istore_n (pc := 8) (lv' := [(1, .int r3), (0, .ref (gad G 0))]) E dX7_findComing_8 rfl (by decide) rfl ?_
  obtain ⟨o25, hl26, hf⟩ := bind_some hf
  refine x_sub [1, 0] rfl (l_X7_findComing_9 G    E FU _ _ o25 hl26 ?_)
  obtain rfl := Option.some.inj hf
  exact x_vret (pc := 183) E hR dX7_findComing_183
set_option maxHeartbeats 4000000 in
set_option maxRecDepth 100000 in
theorem l_X7_findCome_15 (G : Gx) {K : Kx}    (σ : MM) (E : OKc 21 cX7_findCome 4 RX7 G K) : ∀ (m : Nat) (v1 : Int32) (v2 : Int32) (v3 : Int32) (out : Int32 × Int32 × Int32), loopN (fun s => g_X7_findCome_15 s.1 s.2.1 s.2.2 σ) m (v1, v2, v3) = some out → XJ shM 21 4 rm_X7_findCome G K σ [(0, .ref (gad G 0)), (1, .int out.1), (2, .int out.2.1), (3, .int out.2.2)] 62 [] → XJ shM 21 4 rm_X7_findCome G K σ [(0, .ref (gad G 0)), (1, .int v1), (2, .int v2), (3, .int v3)] 15 [] := by
  intro m
  induction m with
  | zero => intro v1 v2 v3 out hf; exact (loopN_0 hf).elim
  | succ m ih =>
    intro v1 v2 v3 out hf hk
    obtain ⟨q, hf, h2⟩ := loopN_s hf
    have hf : g_X7_findCome_15 v1 v2 v3 σ = some q := hf
    unfold g_X7_findCome_15 at hf
    refine x_aload_n 0 (pc := 15) (i := 0) E dX7_findCome_15 rfl rfl ?_
    refine x_iload_n 1 (pc := 16) (i := 1) E dX7_findCome_16 rfl rfl ?_
    refine x_iload_n 3 (pc := 17) (i := 3) E dX7_findCome_17 rfl rfl ?_
    refine x_callVri (pc := 18) (na := 2) (As := [.int v1, .int v3]) E (c_X7_ends G v1 v3 σ) rfl (Nat.le_of_ble_eq_true rfl) rfl wq_766 wq_5 wq_763 wq_764 wq_765 rfl rfl (by decide) ⟨Nat.le_of_ble_eq_true rfl, Nat.le_of_ble_eq_true rfl⟩ rfl rfl (Nat.le_of_ble_eq_true rfl) dX7_findCome_18 hf (fun r3 hf => ?_)
    refine x_if_ne (y := 0) (pc := 21) (tgt := 62) E dX7_findCome_21 (by decide) hf (fun hf => ?_) (fun hf => ?_)
    · obtain rfl := Option.some.inj hf
      obtain rfl := lpk_r h2
      exact x_sub [0, 1, 2, 3] rfl hk
    · refine x_aload_n 0 (pc := 24) (i := 0) E dX7_findCome_24 rfl rfl ?_
      refine x_iload_n 1 (pc := 25) (i := 1) E dX7_findCome_25 rfl rfl ?_
      refine x_iload_n 2 (pc := 26) (i := 2) E dX7_findCome_26 rfl rfl ?_
      refine x_iload_n 3 (pc := 27) (i := 3) E dX7_findCome_27 rfl rfl ?_
      refine x_callVri (pc := 28) (na := 3) (As := [.int v1, .int v2, .int v3]) E (c_X7_strikesA G v1 v2 v3 σ) rfl (Nat.le_of_ble_eq_true rfl) rfl wq_774 wq_5 wq_771 wq_772 wq_773 rfl rfl (by decide) ⟨Nat.le_of_ble_eq_true rfl, Nat.le_of_ble_eq_true rfl⟩ rfl rfl (Nat.le_of_ble_eq_true rfl) dX7_findCome_28 hf (fun r4 hf => ?_)
      refine x_if_eq (y := 0) (pc := 31) (tgt := 40) E dX7_findCome_31 (by decide) hf (fun hf => ?_) (fun hf => ?_)
      · refine x_aload_n 0 (pc := 40) (i := 0) E dX7_findCome_40 rfl rfl ?_
        refine x_iload_n 1 (pc := 41) (i := 1) E dX7_findCome_41 rfl rfl ?_
        refine x_iload_n 2 (pc := 42) (i := 2) E dX7_findCome_42 rfl rfl ?_
        refine x_iload_n 3 (pc := 43) (i := 3) E dX7_findCome_43 rfl rfl ?_
        refine x_callVri (pc := 44) (na := 3) (As := [.int v1, .int v2, .int v3]) E (c_X7_strikesB G v1 v2 v3 σ) rfl (Nat.le_of_ble_eq_true rfl) rfl wq_782 wq_5 wq_779 wq_780 wq_781 rfl rfl (by decide) ⟨Nat.le_of_ble_eq_true rfl, Nat.le_of_ble_eq_true rfl⟩ rfl rfl (Nat.le_of_ble_eq_true rfl) dX7_findCome_44 hf (fun r5 hf => ?_)
        refine x_if_ne (y := 0) (pc := 47) (tgt := 56) E dX7_findCome_47 (by decide) hf (fun hf => ?_) (fun hf => ?_)
        · refine x_iinc 1 (pc := 56) (v := v1 + 1) (lv' := [(1, .int (v1 + 1)), (0, .ref (gad G 0)), (2, .int v2), (3, .int v3)]) E dX7_findCome_56 rfl rfl (by decide) rfl ?_
          refine x_goto (pc := 59) (tgt := 15) E dX7_findCome_59 (by decide) ?_
          obtain rfl := Option.some.inj hf
          exact x_sub [1, 0, 2, 3] rfl (ih _ _ _ _ (lpk_l h2) hk)
        · refine x_iload_n 3 (pc := 50) (i := 3) E dX7_findCome_50 rfl rfl ?_
          refine x_iconst (pc := 51) (v := (1 : Int32)) E dX7_findCome_51 rfl ?_
          refine x_iload_n 1 (pc := 52) (i := 1) E dX7_findCome_52 rfl rfl ?_
          refine x_ishl (pc := 53) E dX7_findCome_53 ?_
          refine x_ior (pc := 54) E dX7_findCome_54 ?_
          refine x_istore_n (pc := 55) (lv' := [(3, .int (v3 ||| ((1 : Int32) <<< (v1 &&& 31)))), (0, .ref (gad G 0)), (1, .int v1), (2, .int v2)]) E dX7_findCome_55 rfl (by decide) rfl ?_
          refine x_iinc 2 (pc := 56) (v := v1 + 1) (lv' := [(1, .int (v1 + 1)), (3, .int (v3 ||| ((1 : Int32) <<< (v1 &&& 31)))), (0, .ref (gad G 0)), (2, .int v2)]) E dX7_findCome_56 rfl rfl (by decide) rfl ?_
          refine x_goto (pc := 59) (tgt := 15) E dX7_findCome_59 (by decide) ?_
          obtain rfl := Option.some.inj hf
          exact x_sub [2, 0, 3, 1] rfl (ih _ _ _ _ (lpk_l h2) hk)
      · refine x_iinc 2 (pc := 34) (v := v2 + (-1)) (lv' := [(2, .int (v2 + (-1))), (0, .ref (gad G 0)), (1, .int v1), (3, .int v3)]) E dX7_findCome_34 rfl rfl (by decide) rfl ?_
        refine x_goto (pc := 37) (tgt := 56) E dX7_findCome_37 (by decide) ?_
        refine x_iinc 2 (pc := 56) (v := v1 + 1) (lv' := [(1, .int (v1 + 1)), (2, .int (v2 + (-1))), (0, .ref (gad G 0)), (3, .int v3)]) E dX7_findCome_56 rfl rfl (by decide) rfl ?_
        refine x_goto (pc := 59) (tgt := 15) E dX7_findCome_59 (by decide) ?_
        obtain rfl := Option.some.inj hf
        exact x_sub [2, 0, 1, 3] rfl (ih _ _ _ _ (lpk_l h2) hk)
set_option maxHeartbeats 4000000 in
set_option maxRecDepth 100000 in
theorem c_X7_findCome (G : Gx) (σ : MM) (σ' : MM) (hf : f_X7_findCome σ = some σ') : Ct shM 21 yX7_findCome cX7_findCome 4 none rm_X7_findCome G [.ref (gad G 0)] σ none σ' := by
  refine ct_of (by decide) (Nat.le_of_ble_eq_true rfl) (fun K E hR => ?_)
  have E : OKc 21 cX7_findCome 4 RX7 G K := E
  show XJ shM 21 4 rm_X7_findCome G K σ [(0, .ref (gad G 0))] 0 []
  unfold f_X7_findCome at hf
  refine x_aload_n 0 (pc := 0) (i := 0) E dX7_findCome_0 rfl rfl ?_
  refine x_callVwv (pc := 1) (na := 0) (As := []) E (c_X7_findComing G σ) rfl (Nat.le_of_ble_eq_true rfl) rfl wq_754 wq_5 wq_751 wq_752 wq_753 rfl rfl (by decide) ⟨Nat.le_of_ble_eq_true rfl, Nat.le_of_ble_eq_true rfl⟩ rfl rfl (Nat.le_of_ble_eq_true rfl) dX7_findCome_1 hf (fun σ2 hf => ?_)
  refine x_iconst (pc := 4) (v := (0 : Int32)) E dX7_findCome_4 rfl ?_
  refine x_istore_n (pc := 5) (lv' := [(1, .int (0 : Int32)), (0, .ref (gad G 0))]) E dX7_findCome_5 rfl (by decide) rfl ?_
  refine x_aload_n 1 (pc := 6) (i := 0) E dX7_findCome_6 rfl rfl ?_
  refine x_getR (pc := 7) (r := 4) (p := 3) E rfl (Nat.le_of_ble_eq_true rfl) rfl inlX7 (by decide) rfl wq_101 dX7_findCome_7 ?_
  refine x_iconst (pc := 10) (v := (1 : Int32)) E dX7_findCome_10 rfl ?_
  refine x_iaload (pc := 11) E rfl (Nat.le_of_ble_eq_true rfl) dX7_findCome_11 hf (fun hf => ?_)
  refine x_istore_n (pc := 12) (lv' := [(2, .int (σ2.1 4 (1 : Int32).toNatClampNeg)), (1, .int (0 : Int32)), (0, .ref (gad G 0))]) E dX7_findCome_12 rfl (by decide) rfl ?_
  refine x_iconst (pc := 13) (v := (0 : Int32)) E dX7_findCome_13 rfl ?_
  refine x_istore_n (pc := 14) (lv' := [(3, .int (0 : Int32)), (2, .int (σ2.1 4 (1 : Int32).toNatClampNeg)), (1, .int (0 : Int32)), (0, .ref (gad G 0))]) E dX7_findCome_14 rfl (by decide) rfl ?_
  obtain ⟨o6, hl7, hf⟩ := bind_some hf
  refine x_sub [3, 2, 1, 0] rfl (l_X7_findCome_15 G    σ2 E FU _ _ _ o6 hl7 ?_)
  refine x_aload_n 0 (pc := 62) (i := 0) E dX7_findCome_62 rfl rfl ?_
  refine x_aload_n 0 (pc := 63) (i := 0) E dX7_findCome_63 rfl rfl ?_
  refine x_iload_n 1 (pc := 64) (i := 1) E dX7_findCome_64 rfl rfl ?_
  refine x_iload_n 3 (pc := 65) (i := 3) E dX7_findCome_65 rfl rfl ?_
  refine x_callVri (pc := 66) (na := 2) (As := [.int o6.1, .int o6.2.2]) E (c_X7_seatedAll G o6.1 o6.2.2 σ2) rfl (Nat.le_of_ble_eq_true rfl) rfl wq_770 wq_5 wq_767 wq_768 wq_769 rfl rfl (by decide) ⟨Nat.le_of_ble_eq_true rfl, Nat.le_of_ble_eq_true rfl⟩ rfl rfl (Nat.le_of_ble_eq_true rfl) dX7_findCome_66 hf (fun r8 hf => ?_)
  refine x_put (pc := 69) (p := 30) E rfl (Nat.le_of_ble_eq_true rfl) rfl inlX7 tyX7_ok nmX7 (by decide) rfl rfl rfl rfl wq_794 dX7_findCome_69 hf (fun σ9 hf => ?_)
  refine x_aload_n 0 (pc := 72) (i := 0) E dX7_findCome_72 rfl rfl ?_
  refine x_iload_n 2 (pc := 73) (i := 2) E dX7_findCome_73 rfl rfl ?_
  refine x_put (pc := 74) (p := 31) E rfl (Nat.le_of_ble_eq_true rfl) rfl inlX7 tyX7_ok nmX7 (by decide) rfl rfl rfl rfl wq_795 dX7_findCome_74 hf (fun σ10 hf => ?_)
  refine x_aload_n 0 (pc := 77) (i := 0) E dX7_findCome_77 rfl rfl ?_
  refine x_aload_n 0 (pc := 78) (i := 0) E dX7_findCome_78 rfl rfl ?_
  refine x_iload_n 1 (pc := 79) (i := 1) E dX7_findCome_79 rfl rfl ?_
  refine x_iload_n 2 (pc := 80) (i := 2) E dX7_findCome_80 rfl rfl ?_
  refine x_iload_n 3 (pc := 81) (i := 3) E dX7_findCome_81 rfl rfl ?_
  refine x_callVri (pc := 82) (na := 3) (As := [.int o6.1, .int o6.2.1, .int o6.2.2]) E (c_X7_leftOfB G o6.1 o6.2.1 o6.2.2 σ10) rfl (Nat.le_of_ble_eq_true rfl) rfl wq_758 wq_5 wq_755 wq_756 wq_757 rfl rfl (by decide) ⟨Nat.le_of_ble_eq_true rfl, Nat.le_of_ble_eq_true rfl⟩ rfl rfl (Nat.le_of_ble_eq_true rfl) dX7_findCome_82 hf (fun r11 hf => ?_)
  refine x_put (pc := 85) (p := 32) E rfl (Nat.le_of_ble_eq_true rfl) rfl inlX7 tyX7_ok nmX7 (by decide) rfl rfl rfl rfl wq_796 dX7_findCome_85 hf (fun σ12 hf => ?_)
  obtain rfl := Option.some.inj hf
  exact x_vret (pc := 88) E hR dX7_findCome_88
