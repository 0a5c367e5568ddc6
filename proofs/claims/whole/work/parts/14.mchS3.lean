set_option maxHeartbeats 4000000 in
set_option maxRecDepth 100000 in
theorem c_X6_more (G : Gx) (v1 : Int32) (σ : MM) (r : Int64) (σ' : MM) (hf : f_X6_more v1 σ = some (r, σ')) : Ct shS 56 yX6_more cX6_more 6 (some .long) rm_X6_more G [.ref (gad G 0), .int v1] σ (some (.long r)) σ' := by
  refine ct_of (by decide) (Nat.le_of_ble_eq_true rfl) (fun K E hR => ?_)
  have E : OKc 56 cX6_more 6 RX6 G K := E
  show XJ shS 56 6 rm_X6_more G K σ [(0, .ref (gad G 0)), (1, .int v1)] 0 []
  unfold f_X6_more at hf
  refine x_iload_n 1 (pc := 0) (i := 1) E dX6_more_0 rfl rfl ?_
  refine x_callSri (pc := 1) (na := 1) (As := [.int v1]) E (c_X6_isSide G v1 σ) wq_399 wq_2 wq_397 wq_398 rfl rfl (by decide) ⟨Nat.le_of_ble_eq_true rfl, Nat.le_of_ble_eq_true rfl⟩ rfl rfl (Nat.le_of_ble_eq_true rfl) dX6_more_1 hf (fun r1 hf => ?_)
  refine x_if_ne (y := 0) (pc := 4) (tgt := 13) E dX6_more_4 (by decide) hf (fun hf => ?_) (fun hf => ?_)
  · refine x_aload_n 0 (pc := 13) (i := 0) E dX6_more_13 rfl rfl ?_
    refine x_getR (pc := 14) (r := 1) (p := 0) E rfl (Nat.le_of_ble_eq_true rfl) rfl inlX6 (by decide) rfl wq_17 dX6_more_14 ?_
    refine x_callVNri (pc := 17) (na := 0) (As := []) E (c_X0_called G σ) rfl (Nat.le_of_ble_eq_true rfl) rfl wq_488 wq_16 wn_40 wq_486 wq_487 rfl rfl (by decide) ⟨Nat.le_of_ble_eq_true rfl, Nat.le_of_ble_eq_true rfl⟩ rfl rfl (Nat.le_of_ble_eq_true rfl) dX6_more_17 hf (fun r2 hf => ?_)
    refine x_istore_n (pc := 20) (lv' := [(2, .int r2), (0, .ref (gad G 0)), (1, .int v1)]) E dX6_more_20 rfl (by decide) rfl ?_
    refine x_iload_n 0 (pc := 21) (i := 2) E dX6_more_21 rfl rfl ?_
    refine x_if_eq (y := 0) (pc := 22) (tgt := 48) E dX6_more_22 (by decide) hf (fun hf => ?_) (fun hf => ?_)
    · refine x_aload_n 1 (pc := 48) (i := 0) E dX6_more_48 rfl rfl ?_
      refine x_bipush (pc := 49) (v := (-3 : Int32)) E dX6_more_49 rfl ?_
      refine x_callVwl (pc := 51) (na := 1) (As := [.int (-3 : Int32)]) E (c_X6_refuseLong G (-3 : Int32) σ) rfl (Nat.le_of_ble_eq_true rfl) rfl wq_316 wq_2 wq_313 wq_314 wq_315 rfl rfl (by decide) ⟨Nat.le_of_ble_eq_true rfl, Nat.le_of_ble_eq_true rfl⟩ rfl rfl (Nat.le_of_ble_eq_true rfl) dX6_more_51 hf (fun r3 σ4 hf => ?_)
      obtain ⟨rfl, rfl⟩ := Prod.mk.inj (Option.some.inj hf)
      exact x_lret (pc := 54) E hR dX6_more_54
    · refine x_iload_n 0 (pc := 25) (i := 2) E dX6_more_25 rfl rfl ?_
      refine x_aload_n 1 (pc := 26) (i := 0) E dX6_more_26 rfl rfl ?_
      refine x_getR (pc := 27) (r := 1) (p := 0) E rfl (Nat.le_of_ble_eq_true rfl) rfl inlX6 (by decide) rfl wq_17 dX6_more_27 ?_
      refine x_getIN (pc := 30) (p := 4) E rfl (Nat.le_of_ble_eq_true rfl) rfl inlX0 (by decide) rfl wn_13 dX6_more_30 ?_
      refine x_icmp_ge (pc := 33) (tgt := 48) E dX6_more_33 (by decide) hf (fun hf => ?_) (fun hf => ?_)
      · refine x_aload_n 1 (pc := 48) (i := 0) E dX6_more_48 rfl rfl ?_
        refine x_bipush (pc := 49) (v := (-3 : Int32)) E dX6_more_49 rfl ?_
        refine x_callVwl (pc := 51) (na := 1) (As := [.int (-3 : Int32)]) E (c_X6_refuseLong G (-3 : Int32) σ) rfl (Nat.le_of_ble_eq_true rfl) rfl wq_316 wq_2 wq_313 wq_314 wq_315 rfl rfl (by decide) ⟨Nat.le_of_ble_eq_true rfl, Nat.le_of_ble_eq_true rfl⟩ rfl rfl (Nat.le_of_ble_eq_true rfl) dX6_more_51 hf (fun r5 σ6 hf => ?_)
        obtain ⟨rfl, rfl⟩ := Prod.mk.inj (Option.some.inj hf)
        exact x_lret (pc := 54) E hR dX6_more_54
      · refine x_aload_n 1 (pc := 36) (i := 0) E dX6_more_36 rfl rfl ?_
        refine x_getR (pc := 37) (r := 1) (p := 0) E rfl (Nat.le_of_ble_eq_true rfl) rfl inlX6 (by decide) rfl wq_17 dX6_more_37 ?_
        refine x_iload_n 2 (pc := 40) (i := 1) E dX6_more_40 rfl rfl ?_
        refine x_callVNri (pc := 41) (na := 1) (As := [.int v1]) E (c_X0_strikesOf G v1 σ) rfl (Nat.le_of_ble_eq_true rfl) rfl wq_508 wq_16 wn_42 wq_506 wq_507 rfl rfl (by decide) ⟨Nat.le_of_ble_eq_true rfl, Nat.le_of_ble_eq_true rfl⟩ rfl rfl (Nat.le_of_ble_eq_true rfl) dX6_more_41 hf (fun r7 hf => ?_)
        refine x_iconst (pc := 44) (v := (3 : Int32)) E dX6_more_44 rfl ?_
        refine x_icmp_lt (pc := 45) (tgt := 55) E dX6_more_45 (by decide) hf (fun hf => ?_) (fun hf => ?_)
        · refine x_iload_n 2 (pc := 55) (i := 1) E dX6_more_55 rfl rfl ?_
          obtain ⟨o8, hf10, hf⟩ := bind_some hf
          have hJ9 : XJ shS 56 6 rm_X6_more G K σ [(0, .ref (gad G 0)), (1, .int v1)] 64 [.int o8] := by
            refine x_istore_n (pc := 64) (lv' := [(3, .int o8), (0, .ref (gad G 0)), (1, .int v1)]) E dX6_more_64 rfl (by decide) rfl ?_
            refine x_aload_n 1 (pc := 65) (i := 0) E dX6_more_65 rfl rfl ?_
            refine x_aload_n 1 (pc := 66) (i := 0) E dX6_more_66 rfl rfl ?_
            refine x_getR (pc := 67) (r := 16) (p := 7) E rfl (Nat.le_of_ble_eq_true rfl) rfl inlX6 (by decide) rfl wq_29 dX6_more_67 ?_
            refine x_aload_n 1 (pc := 70) (i := 0) E dX6_more_70 rfl rfl ?_
            refine x_getR (pc := 71) (r := 1) (p := 0) E rfl (Nat.le_of_ble_eq_true rfl) rfl inlX6 (by decide) rfl wq_17 dX6_more_71 ?_
            refine x_iconst (pc := 74) (v := (0 : Int32)) E dX6_more_74 rfl ?_
            refine x_callVNri (pc := 75) (na := 1) (As := [.int (0 : Int32)]) E (c_X0_strikesOf G (0 : Int32) σ) rfl (Nat.le_of_ble_eq_true rfl) rfl wq_508 wq_16 wn_42 wq_506 wq_507 rfl rfl (by decide) ⟨Nat.le_of_ble_eq_true rfl, Nat.le_of_ble_eq_true rfl⟩ rfl rfl (Nat.le_of_ble_eq_true rfl) dX6_more_75 hf (fun r11 hf => ?_)
            refine x_iload_n 0 (pc := 78) (i := 3) E dX6_more_78 rfl rfl ?_
            refine x_iadd (pc := 79) E dX6_more_79 ?_
            refine x_aload_n 1 (pc := 80) (i := 0) E dX6_more_80 rfl rfl ?_
            refine x_getR (pc := 81) (r := 1) (p := 0) E rfl (Nat.le_of_ble_eq_true rfl) rfl inlX6 (by decide) rfl wq_17 dX6_more_81 ?_
            refine x_iconst (pc := 84) (v := (1 : Int32)) E dX6_more_84 rfl ?_
            refine x_callVNri (pc := 85) (na := 1) (As := [.int (1 : Int32)]) E (c_X0_strikesOf G (1 : Int32) σ) rfl (Nat.le_of_ble_eq_true rfl) rfl wq_508 wq_16 wn_42 wq_506 wq_507 rfl rfl (by decide) ⟨Nat.le_of_ble_eq_true rfl, Nat.le_of_ble_eq_true rfl⟩ rfl rfl (Nat.le_of_ble_eq_true rfl) dX6_more_85 hf (fun r12 hf => ?_)
            refine x_iconst (pc := 88) (v := (1 : Int32)) E dX6_more_88 rfl ?_
            refine x_iadd (pc := 89) E dX6_more_89 ?_
            refine x_iload_n 0 (pc := 90) (i := 3) E dX6_more_90 rfl rfl ?_
            refine x_isub (pc := 91) E dX6_more_91 ?_
            refine x_iconst (pc := 92) (v := (0 : Int32)) E dX6_more_92 rfl ?_
            refine x_callVwl (pc := 93) (na := 4) (As := [.ref (gad G 16), .int (r11 + o8), .int ((r12 + (1 : Int32)) - o8), .int (0 : Int32)]) E (c_X6_valueWith G 16 (Or.inl rfl) (r11 + o8) ((r12 + (1 : Int32)) - o8) (0 : Int32) σ) rfl (Nat.le_of_ble_eq_true rfl) rfl wq_606 wq_2 wq_603 wq_604 wq_605 rfl rfl (by decide) ⟨Nat.le_of_ble_eq_true rfl, Nat.le_of_ble_eq_true rfl⟩ rfl rfl (Nat.le_of_ble_eq_true rfl) dX6_more_93 hf (fun r13 σ14 hf => ?_)
            refine x_lstore (pc := 96) (lv' := [(4, .long r13), (3, .int o8), (0, .ref (gad G 0)), (1, .int v1)]) E dX6_more_96 (by decide) rfl ?_
            refine x_iload_n 3 (pc := 98) (i := 1) E dX6_more_98 rfl rfl ?_
            refine x_if_ne (y := 0) (pc := 99) (tgt := 112) E dX6_more_99 (by decide) hf (fun hf => ?_) (fun hf => ?_)
            · refine x_aload_n 2 (pc := 112) (i := 0) E dX6_more_112 rfl rfl ?_
              refine x_callVwl (pc := 113) (na := 0) (As := []) E (c_X6_valueByTurns G σ14) rfl (Nat.le_of_ble_eq_true rfl) rfl wq_497 wq_2 wq_494 wq_495 wq_496 rfl rfl (by decide) ⟨Nat.le_of_ble_eq_true rfl, Nat.le_of_ble_eq_true rfl⟩ rfl rfl (Nat.le_of_ble_eq_true rfl) dX6_more_113 hf (fun r15 σ16 hf => ?_)
              refine x_lload 0 (pc := 116) E dX6_more_116 rfl ?_
              refine x_lsub (pc := 118) E dX6_more_118 ?_
              obtain ⟨rfl, rfl⟩ := Prod.mk.inj (Option.some.inj hf)
              exact x_lret (pc := 119) E hR dX6_more_119
            · refine x_lload 0 (pc := 102) E dX6_more_102 rfl ?_
              refine x_aload_n 2 (pc := 104) (i := 0) E dX6_more_104 rfl rfl ?_
              refine x_callVwl (pc := 105) (na := 0) (As := []) E (c_X6_valueByTurns G σ14) rfl (Nat.le_of_ble_eq_true rfl) rfl wq_497 wq_2 wq_494 wq_495 wq_496 rfl rfl (by decide) ⟨Nat.le_of_ble_eq_true rfl, Nat.le_of_ble_eq_true rfl⟩ rfl rfl (Nat.le_of_ble_eq_true rfl) dX6_more_105 hf (fun r17 σ18 hf => ?_)
              refine x_lsub (pc := 108) E dX6_more_108 ?_
              refine x_goto (pc := 109) (tgt := 119) E dX6_more_109 (by decide) ?_
              obtain ⟨rfl, rfl⟩ := Prod.mk.inj (Option.some.inj hf)
              exact x_lret (pc := 119) E hR dX6_more_119
          refine x_if_ne (y := 0) (pc := 56) (tgt := 63) E dX6_more_56 (by decide) hf10 (fun hf10 => ?_) (fun hf10 => ?_)
          · refine x_iconst (pc := 63) (v := (0 : Int32)) E dX6_more_63 rfl ?_
            obtain rfl := Option.some.inj hf10
            exact x_sub [1, 2] rfl hJ9
          · refine x_iconst (pc := 59) (v := (1 : Int32)) E dX6_more_59 rfl ?_
            refine x_goto (pc := 60) (tgt := 64) E dX6_more_60 (by decide) ?_
            obtain rfl := Option.some.inj hf10
            exact x_sub [1, 2] rfl hJ9
        · refine x_aload_n 1 (pc := 48) (i := 0) E dX6_more_48 rfl rfl ?_
          refine x_bipush (pc := 49) (v := (-3 : Int32)) E dX6_more_49 rfl ?_
          refine x_callVwl (pc := 51) (na := 1) (As := [.int (-3 : Int32)]) E (c_X6_refuseLong G (-3 : Int32) σ) rfl (Nat.le_of_ble_eq_true rfl) rfl wq_316 wq_2 wq_313 wq_314 wq_315 rfl rfl (by decide) ⟨Nat.le_of_ble_eq_true rfl, Nat.le_of_ble_eq_true rfl⟩ rfl rfl (Nat.le_of_ble_eq_true rfl) dX6_more_51 hf (fun r19 σ20 hf => ?_)
          obtain ⟨rfl, rfl⟩ := Prod.mk.inj (Option.some.inj hf)
          exact x_lret (pc := 54) E hR dX6_more_54
  · refine x_aload_n 0 (pc := 7) (i := 0) E dX6_more_7 rfl rfl ?_
    refine x_iconst (pc := 8) (v := (-1 : Int32)) E dX6_more_8 rfl ?_
    refine x_callVwl (pc := 9) (na := 1) (As := [.int (-1 : Int32)]) E (c_X6_refuseLong G (-1 : Int32) σ) rfl (Nat.le_of_ble_eq_true rfl) rfl wq_316 wq_2 wq_313 wq_314 wq_315 rfl rfl (by decide) ⟨Nat.le_of_ble_eq_true rfl, Nat.le_of_ble_eq_true rfl⟩ rfl rfl (Nat.le_of_ble_eq_true rfl) dX6_more_9 hf (fun r21 σ22 hf => ?_)
    obtain ⟨rfl, rfl⟩ := Prod.mk.inj (Option.some.inj hf)
    exact x_lret (pc := 12) E hR dX6_more_12
set_option maxHeartbeats 4000000 in
set_option maxRecDepth 100000 in
theorem l_X3_fillValues_5 (G : Gx) {K : Kx}   (v1 : Int32) (v2 : Int32) (E : OKc 56 cX3_fillValues 6 RX3 G K) : ∀ (m : Nat) (v3 : Int32) (v4 : Int32) (σ : MM) (out : MM), loopN (fun s => g_X3_fillValues_5 v1 v2 s.1 s.2.1 s.2.2) m (v3, v4, σ) = some out → XJ shS 56 6 rm_X3_fillValues G K out [] 83 [] → XJ shS 56 6 rm_X3_fillValues G K σ [(0, .ref (gad G 50)), (1, .int v1), (2, .int v2), (3, .int v3), (4, .int v4)] 5 [] := by
  intro m
  induction m with
  | zero => intro v3 v4 σ out hf; exact (loopN_0 hf).elim
  | succ m ih =>
    intro v3 v4 σ out hf hk
    obtain ⟨q, hf, h2⟩ := loopN_s hf
    have hf : g_X3_fillValues_5 v1 v2 v3 v4 σ = some q := hf
    unfold g_X3_fillValues_5 at hf
    refine x_iload 4 (pc := 5) E dX3_fillValues_5 rfl ?_
    refine x_iload_n 1 (pc := 7) (i := 1) E dX3_fillValues_7 rfl rfl ?_
    refine x_icmp_gt (pc := 8) (tgt := 83) E dX3_fillValues_8 (by decide) hf (fun hf => ?_) (fun hf => ?_)
    · obtain rfl := Option.some.inj hf
      obtain rfl := lpk_r h2
      exact x_sub [] rfl hk
    · refine x_iload 4 (pc := 11) E dX3_fillValues_11 rfl ?_
      refine x_iload_n 3 (pc := 13) (i := 3) E dX3_fillValues_13 rfl rfl ?_
      refine x_iconst (pc := 14) (v := (2 : Int32)) E dX3_fillValues_14 rfl ?_
      refine x_imul (pc := 15) E dX3_fillValues_15 ?_
      obtain ⟨o1, hf3, hf⟩ := bind_some hf
      have hJ2 : XJ shS 56 6 rm_X3_fillValues G K σ [(0, .ref (gad G 50)), (1, .int v1), (2, .int v2), (3, .int o1), (4, .int v4)] 23 [] := by
        refine x_iload 4 (pc := 23) E dX3_fillValues_23 rfl ?_
        refine x_callSri (pc := 25) (na := 1) (As := [.int v4]) E (c_J6_bitCount_0f7a4 G v4 σ) wq_309 wq_308 wq_640 wq_307 rfl rfl (by decide) ⟨Nat.le_of_ble_eq_true rfl, Nat.le_of_ble_eq_true rfl⟩ rfl rfl (Nat.le_of_ble_eq_true rfl) dX3_fillValues_25 hf (fun r4 hf => ?_)
        refine x_istore (pc := 28) (lv' := [(5, .int r4), (0, .ref (gad G 50)), (1, .int v1), (2, .int v2), (3, .int o1), (4, .int v4)]) E dX3_fillValues_28 (by decide) rfl ?_
        refine x_iload 0 (pc := 30) E dX3_fillValues_30 rfl ?_
        refine x_iload_n 3 (pc := 32) (i := 2) E dX3_fillValues_32 rfl rfl ?_
        refine x_icmp_ne (pc := 33) (tgt := 55) E dX3_fillValues_33 (by decide) hf (fun hf => ?_) (fun hf => ?_)
        · refine x_iload 0 (pc := 55) E dX3_fillValues_55 rfl ?_
          refine x_iload_n 3 (pc := 57) (i := 2) E dX3_fillValues_57 rfl rfl ?_
          refine x_icmp_le (pc := 58) (tgt := 77) E dX3_fillValues_58 (by decide) hf (fun hf => ?_) (fun hf => ?_)
          · refine x_iinc 5 (pc := 77) (v := v4 + 1) (lv' := [(4, .int (v4 + 1)), (5, .int r4), (0, .ref (gad G 50)), (1, .int v1), (2, .int v2), (3, .int o1)]) E dX3_fillValues_77 rfl rfl (by decide) rfl ?_
            refine x_goto (pc := 80) (tgt := 5) E dX3_fillValues_80 (by decide) ?_
            obtain rfl := Option.some.inj hf
            exact x_sub [2, 3, 4, 5, 0] rfl (ih _ _ _ _ (lpk_l h2) hk)
          · refine x_aload_n 1 (pc := 61) (i := 0) E dX3_fillValues_61 rfl rfl ?_
            refine x_getR (pc := 62) (r := 49) (p := 1) E rfl (Nat.le_of_ble_eq_true rfl) rfl inlX3 (by decide) rfl wq_79 dX3_fillValues_62 ?_
            refine x_iload 5 (pc := 65) E dX3_fillValues_65 rfl ?_
            refine x_aload_n 1 (pc := 67) (i := 0) E dX3_fillValues_67 rfl rfl ?_
            refine x_getR (pc := 68) (r := 49) (p := 1) E rfl (Nat.le_of_ble_eq_true rfl) rfl inlX3 (by decide) rfl wq_79 dX3_fillValues_68 ?_
            refine x_iload 5 (pc := 71) E dX3_fillValues_71 rfl ?_
            refine x_iload_n 4 (pc := 73) (i := 3) E dX3_fillValues_73 rfl rfl ?_
            refine x_ixor (pc := 74) E dX3_fillValues_74 ?_
            refine x_laload (pc := 75) E rfl (Nat.le_of_ble_eq_true rfl) dX3_fillValues_75 hf (fun hf => ?_)
            refine x_lastore (pc := 76) E rfl (Nat.le_of_ble_eq_true rfl) dX3_fillValues_76 hf (fun σ5 hf => ?_)
            refine x_iinc 5 (pc := 77) (v := v4 + 1) (lv' := [(4, .int (v4 + 1)), (5, .int r4), (0, .ref (gad G 50)), (1, .int v1), (2, .int v2), (3, .int o1)]) E dX3_fillValues_77 rfl rfl (by decide) rfl ?_
            refine x_goto (pc := 80) (tgt := 5) E dX3_fillValues_80 (by decide) ?_
            obtain rfl := Option.some.inj hf
            exact x_sub [2, 3, 4, 5, 0] rfl (ih _ _ _ _ (lpk_l h2) hk)
        · refine x_aload_n 1 (pc := 36) (i := 0) E dX3_fillValues_36 rfl rfl ?_
          refine x_getR (pc := 37) (r := 49) (p := 1) E rfl (Nat.le_of_ble_eq_true rfl) rfl inlX3 (by decide) rfl wq_79 dX3_fillValues_37 ?_
          refine x_iload 5 (pc := 40) E dX3_fillValues_40 rfl ?_
          refine x_aload_n 1 (pc := 42) (i := 0) E dX3_fillValues_42 rfl rfl ?_
          refine x_getR (pc := 43) (r := 42) (p := 0) E rfl (Nat.le_of_ble_eq_true rfl) rfl inlX3 (by decide) rfl wq_78 dX3_fillValues_43 ?_
          refine x_iload 5 (pc := 46) E dX3_fillValues_46 rfl ?_
          refine x_callVNrl (pc := 48) (na := 1) (As := [.int v4]) E (c_X5_valueOf G 42 (Or.inl rfl) v4 σ) rfl (Nat.le_of_ble_eq_true rfl) rfl wq_440 wq_33 wn_47 wq_438 wq_439 rfl rfl (by decide) ⟨Nat.le_of_ble_eq_true rfl, Nat.le_of_ble_eq_true rfl⟩ rfl rfl (Nat.le_of_ble_eq_true rfl) dX3_fillValues_48 hf (fun r6 hf => ?_)
          refine x_lastore (pc := 51) E rfl (Nat.le_of_ble_eq_true rfl) dX3_fillValues_51 hf (fun σ7 hf => ?_)
          refine x_goto (pc := 52) (tgt := 77) E dX3_fillValues_52 (by decide) ?_
          refine x_iinc 5 (pc := 77) (v := v4 + 1) (lv' := [(4, .int (v4 + 1)), (5, .int r4), (0, .ref (gad G 50)), (1, .int v1), (2, .int v2), (3, .int o1)]) E dX3_fillValues_77 rfl rfl (by decide) rfl ?_
          refine x_goto (pc := 80) (tgt := 5) E dX3_fillValues_80 (by decide) ?_
          obtain rfl := Option.some.inj hf
          exact x_sub [2, 3, 4, 5, 0] rfl (ih _ _ _ _ (lpk_l h2) hk)
      refine x_icmp_lt (pc := 16) (tgt := 23) E dX3_fillValues_16 (by decide) hf3 (fun hf3 => ?_) (fun hf3 => ?_)
      · obtain rfl := Option.some.inj hf3
        exact x_sub [0, 1, 2, 3, 4] rfl hJ2
      · refine x_iload_n 3 (pc := 19) (i := 3) E dX3_fillValues_19 rfl rfl ?_
        refine x_iconst (pc := 20) (v := (2 : Int32)) E dX3_fillValues_20 rfl ?_
        refine x_imul (pc := 21) E dX3_fillValues_21 ?_
        refine x_istore_n (pc := 22) (lv' := [(3, .int (v3 * (2 : Int32))), (0, .ref (gad G 50)), (1, .int v1), (2, .int v2), (4, .int v4)]) E dX3_fillValues_22 rfl (by decide) rfl ?_
        obtain rfl := Option.some.inj hf3
        exact x_sub [1, 2, 3, 0, 4] rfl hJ2
set_option maxHeartbeats 4000000 in
set_option maxRecDepth 100000 in
theorem c_X3_fillValues (G : Gx) (v1 : Int32) (v2 : Int32) (σ : MM) (σ' : MM) (hf : f_X3_fillValues v1 v2 σ = some σ') : Ct shS 56 yX3_fillValues cX3_fillValues 6 none rm_X3_fillValues G [.ref (gad G 50), .int v1, .int v2] σ none σ' := by
  refine ct_of (by decide) (Nat.le_of_ble_eq_true rfl) (fun K E hR => ?_)
  have E : OKc 56 cX3_fillValues 6 RX3 G K := E
  show XJ shS 56 6 rm_X3_fillValues G K σ [(0, .ref (gad G 50)), (1, .int v1), (2, .int v2)] 0 []
  unfold f_X3_fillValues at hf
  refine x_iconst (pc := 0) (v := (1 : Int32)) E dX3_fillValues_0 rfl ?_
  refine x_istore_n (pc := 1) (lv' := [(3, .int (1 : Int32)), (0, .ref (gad G 50)), (1, .int v1), (2, .int v2)]) E dX3_fillValues_1 rfl (by decide) rfl ?_
  refine x_iconst (pc := 2) (v := (1 : Int32)) E dX3_fillValues_2 rfl ?_
  refine x_istore (pc := 3) (lv' := [(4, .int (1 : Int32)), (3, .int (1 : Int32)), (0, .ref (gad G 50)), (1, .int v1), (2, .int v2)]) E dX3_fillValues_3 (by decide) rfl ?_
  obtain ⟨o8, hl9, hf⟩ := bind_some hf
  refine x_sub [2, 3, 4, 1, 0] rfl (l_X3_fillValues_5 G   v1 v2 E FU _ _ _ o8 hl9 ?_)
  obtain rfl := Option.some.inj hf
  exact x_vret (pc := 83) E hR dX3_fillValues_83
set_option maxHeartbeats 4000000 in
set_option maxRecDepth 100000 in
theorem l_X3_listSets_5 (G : Gx) {K : Kx} (q0 : Nat) (hs_q0_0 : shS q0 = .inr (0, 220, 0)) (hk_q0_0 : q0 < 56) (v1 : Int32) (v2 : Int32) (E : OKc 56 cX3_listSets 5 RX3 G K) : ∀ (m : Nat) (v3 : Int32) (v4 : Int32) (σ : MM) (out : Int32 × MM), loopN (fun s => g_X3_listSets_5 q0 v1 v2 s.1 s.2.1 s.2.2) m (v3, v4, σ) = some out → XJ shS 56 5 rm_X3_listSets G K out.2 [(3, .int out.1)] 41 [] → XJ shS 56 5 rm_X3_listSets G K σ [(0, .ref (gad G q0)), (1, .int v1), (2, .int v2), (3, .int v3), (4, .int v4)] 5 [] := by
  intro m
  induction m with
  | zero => intro v3 v4 σ out hf; exact (loopN_0 hf).elim
  | succ m ih =>
    intro v3 v4 σ out hf hk
    obtain ⟨q, hf, h2⟩ := loopN_s hf
    have hf : g_X3_listSets_5 q0 v1 v2 v3 v4 σ = some q := hf
    unfold g_X3_listSets_5 at hf
    refine x_iload 4 (pc := 5) E dX3_listSets_5 rfl ?_
    refine x_iload_n 1 (pc := 7) (i := 1) E dX3_listSets_7 rfl rfl ?_
    refine x_icmp_gt (pc := 8) (tgt := 41) E dX3_listSets_8 (by decide) hf (fun hf => ?_) (fun hf => ?_)
    · obtain rfl := Option.some.inj hf
      obtain rfl := lpk_r h2
      exact x_sub [3] rfl hk
    · refine x_iload_n 3 (pc := 11) (i := 3) E dX3_listSets_11 rfl rfl ?_
      refine x_sipush (pc := 12) (v := (220 : Int32)) E dX3_listSets_12 rfl ?_
      refine x_icmp_ge (pc := 15) (tgt := 41) E dX3_listSets_15 (by decide) hf (fun hf => ?_) (fun hf => ?_)
      · obtain rfl := Option.some.inj hf
        obtain rfl := lpk_r h2
        exact x_sub [3] rfl hk
      · refine x_iload 4 (pc := 18) E dX3_listSets_18 rfl ?_
        refine x_callSri (pc := 20) (na := 1) (As := [.int v4]) E (c_J6_bitCount_0f7a4 G v4 σ) wq_309 wq_308 wq_640 wq_307 rfl rfl (by decide) ⟨Nat.le_of_ble_eq_true rfl, Nat.le_of_ble_eq_true rfl⟩ rfl rfl (Nat.le_of_ble_eq_true rfl) dX3_listSets_20 hf (fun r1 hf => ?_)
        refine x_iload_n 2 (pc := 23) (i := 2) E dX3_listSets_23 rfl rfl ?_
        refine x_icmp_ne (pc := 24) (tgt := 35) E dX3_listSets_24 (by decide) hf (fun hf => ?_) (fun hf => ?_)
        · refine x_iinc 4 (pc := 35) (v := v4 + 1) (lv' := [(4, .int (v4 + 1)), (0, .ref (gad G q0)), (1, .int v1), (2, .int v2), (3, .int v3)]) E dX3_listSets_35 rfl rfl (by decide) rfl ?_
          refine x_goto (pc := 38) (tgt := 5) E dX3_listSets_38 (by decide) ?_
          obtain rfl := Option.some.inj hf
          exact x_sub [1, 2, 3, 4, 0] rfl (ih _ _ _ _ (lpk_l h2) hk)
        · refine x_aload_n 0 (pc := 27) (i := 0) E dX3_listSets_27 rfl rfl ?_
          refine x_iload_n 3 (pc := 28) (i := 3) E dX3_listSets_28 rfl rfl ?_
          refine x_iload 4 (pc := 29) E dX3_listSets_29 rfl ?_
          refine x_iastore (pc := 31) E hs_q0_0 hk_q0_0 dX3_listSets_31 hf (fun σ2 hf => ?_)
          refine x_iinc 3 (pc := 32) (v := v3 + 1) (lv' := [(3, .int (v3 + 1)), (0, .ref (gad G q0)), (1, .int v1), (2, .int v2), (4, .int v4)]) E dX3_listSets_32 rfl rfl (by decide) rfl ?_
          refine x_iinc 4 (pc := 35) (v := v4 + 1) (lv' := [(4, .int (v4 + 1)), (3, .int (v3 + 1)), (0, .ref (gad G q0)), (1, .int v1), (2, .int v2)]) E dX3_listSets_35 rfl rfl (by decide) rfl ?_
          refine x_goto (pc := 38) (tgt := 5) E dX3_listSets_38 (by decide) ?_
          obtain rfl := Option.some.inj hf
          exact x_sub [2, 3, 4, 1, 0] rfl (ih _ _ _ _ (lpk_l h2) hk)
set_option maxHeartbeats 4000000 in
set_option maxRecDepth 100000 in
theorem c_X3_listSets (G : Gx) (q0 : Nat) (hs_q0_0 : shS q0 = .inr (0, 220, 0)) (hk_q0_0 : q0 < 56) (v1 : Int32) (v2 : Int32) (σ : MM) (r : Int32) (σ' : MM) (hf : f_X3_listSets q0 v1 v2 σ = some (r, σ')) : Ct shS 56 yX3_listSets cX3_listSets 5 (some .int) rm_X3_listSets G [.ref (gad G q0), .int v1, .int v2] σ (some (.int r)) σ' := by
  refine ct_of (by decide) (Nat.le_of_ble_eq_true rfl) (fun K E hR => ?_)
  have E : OKc 56 cX3_listSets 5 RX3 G K := E
  show XJ shS 56 5 rm_X3_listSets G K σ [(0, .ref (gad G q0)), (1, .int v1), (2, .int v2)] 0 []
  unfold f_X3_listSets at hf
  refine x_iconst (pc := 0) (v := (0 : Int32)) E dX3_listSets_0 rfl ?_
  refine x_istore_n (pc := 1) (lv' := [(3, .int (0 : Int32)), (0, .ref (gad G q0)), (1, .int v1), (2, .int v2)]) E dX3_listSets_1 rfl (by decide) rfl ?_
  refine x_iconst (pc := 2) (v := (0 : Int32)) E dX3_listSets_2 rfl ?_
  refine x_istore (pc := 3) (lv' := [(4, .int (0 : Int32)), (3, .int (0 : Int32)), (0, .ref (gad G q0)), (1, .int v1), (2, .int v2)]) E dX3_listSets_3 (by decide) rfl ?_
  obtain ⟨o3, hl4, hf⟩ := bind_some hf
  refine x_sub [2, 3, 4, 1, 0] rfl (l_X3_listSets_5 G q0 hs_q0_0 hk_q0_0 v1 v2 E FU _ _ _ o3 hl4 ?_)
  refine x_iload_n 0 (pc := 41) (i := 3) E dX3_listSets_41 rfl rfl ?_
  obtain ⟨rfl, rfl⟩ := Prod.mk.inj (Option.some.inj hf)
  exact x_iret (pc := 42) E hR dX3_listSets_42
set_option maxHeartbeats 4000000 in
set_option maxRecDepth 100000 in
theorem l_X3_weighSet_19 (G : Gx) {K : Kx}   (v1 : Int32) (v3 : Int32) (E : OKc 56 cX3_weighSet 9 RX3 G K) : ∀ (m : Nat) (v4 : Int64) (v6 : Int32) (σ : MM) (out : Int64 × MM), loopN (fun s => g_X3_weighSet_19 v1 v3 s.1 s.2.1 s.2.2) m (v4, v6, σ) = some out → XJ shS 56 9 rm_X3_weighSet G K out.2 [(0, .ref (gad G 50)), (1, .int v1), (4, .long out.1)] 86 [] → XJ shS 56 9 rm_X3_weighSet G K σ [(0, .ref (gad G 50)), (1, .int v1), (3, .int v3), (4, .long v4), (6, .int v6)] 19 [] := by
  intro m
  induction m with
  | zero => intro v4 v6 σ out hf; exact (loopN_0 hf).elim
  | succ m ih =>
    intro v4 v6 σ out hf hk
    obtain ⟨q, hf, h2⟩ := loopN_s hf
    have hf : g_X3_weighSet_19 v1 v3 v4 v6 σ = some q := hf
    unfold g_X3_weighSet_19 at hf
    refine x_iload 4 (pc := 19) E dX3_weighSet_19 rfl ?_
    refine x_aload_n 0 (pc := 21) (i := 0) E dX3_weighSet_21 rfl rfl ?_
    refine x_getI (pc := 22) (p := 7) E rfl (Nat.le_of_ble_eq_true rfl) rfl inlX3 (by decide) rfl wq_632 dX3_weighSet_22 ?_
    refine x_icmp_ge (pc := 25) (tgt := 86) E dX3_weighSet_25 (by decide) hf (fun hf => ?_) (fun hf => ?_)
    · obtain rfl := Option.some.inj hf
      obtain rfl := lpk_r h2
      exact x_sub [0, 1, 3] rfl hk
    · refine x_aload_n 0 (pc := 28) (i := 0) E dX3_weighSet_28 rfl rfl ?_
      refine x_getR (pc := 29) (r := 49) (p := 1) E rfl (Nat.le_of_ble_eq_true rfl) rfl inlX3 (by decide) rfl wq_79 dX3_weighSet_29 ?_
      refine x_iload_n 2 (pc := 32) (i := 3) E dX3_weighSet_32 rfl rfl ?_
      refine x_aload_n 0 (pc := 33) (i := 0) E dX3_weighSet_33 rfl rfl ?_
      refine x_getR (pc := 34) (r := 52) (p := 3) E rfl (Nat.le_of_ble_eq_true rfl) rfl inlX3 (by decide) rfl wq_75 dX3_weighSet_34 ?_
      refine x_iload 4 (pc := 37) E dX3_weighSet_37 rfl ?_
      refine x_iaload (pc := 39) E rfl (Nat.le_of_ble_eq_true rfl) dX3_weighSet_39 hf (fun hf => ?_)
      refine x_iconst (pc := 40) (v := (-1 : Int32)) E dX3_weighSet_40 rfl ?_
      refine x_ixor (pc := 41) E dX3_weighSet_41 ?_
      refine x_iand (pc := 42) E dX3_weighSet_42 ?_
      refine x_laload (pc := 43) E rfl (Nat.le_of_ble_eq_true rfl) dX3_weighSet_43 hf (fun hf => ?_)
      refine x_lstore (pc := 44) (lv' := [(7, .long (σ.2 49 (v3 &&& ((σ.1 52 v6.toNatClampNeg) ^^^ (-1 : Int32))).toNatClampNeg)), (0, .ref (gad G 50)), (1, .int v1), (3, .int v3), (4, .long v4), (6, .int v6)]) E dX3_weighSet_44 (by decide) rfl ?_
      refine x_lload 0 (pc := 46) E dX3_weighSet_46 rfl ?_
      refine x_lload 4 (pc := 48) E dX3_weighSet_48 rfl ?_
      obtain ⟨o1, hf3, hf⟩ := bind_some hf
      have hJ2 : XJ shS 56 9 rm_X3_weighSet G K σ [(0, .ref (gad G 50)), (1, .int v1), (3, .int v3), (4, .long o1), (6, .int v6), (7, .long (σ.2 49 (v3 &&& ((σ.1 52 v6.toNatClampNeg) ^^^ (-1 : Int32))).toNatClampNeg))] 58 [] := by
        refine x_lload 5 (pc := 58) E dX3_weighSet_58 rfl ?_
        refine x_aload_n 0 (pc := 60) (i := 0) E dX3_weighSet_60 rfl rfl ?_
        refine x_getR (pc := 61) (r := 54) (p := 5) E rfl (Nat.le_of_ble_eq_true rfl) rfl inlX3 (by decide) rfl wq_77 dX3_weighSet_61 ?_
        refine x_iload 4 (pc := 64) E dX3_weighSet_64 rfl ?_
        refine x_laload (pc := 66) E rfl (Nat.le_of_ble_eq_true rfl) dX3_weighSet_66 hf (fun hf => ?_)
        refine x_lcmp_le (pc := 67) (tgt := 80) E dX3_weighSet_67 dX3_weighSet_68 (by decide) hf (fun hf => ?_) (fun hf => ?_)
        · refine x_iinc 4 (pc := 80) (v := v6 + 1) (lv' := [(6, .int (v6 + 1)), (0, .ref (gad G 50)), (1, .int v1), (3, .int v3), (4, .long o1), (7, .long (σ.2 49 (v3 &&& ((σ.1 52 v6.toNatClampNeg) ^^^ (-1 : Int32))).toNatClampNeg))]) E dX3_weighSet_80 rfl rfl (by decide) rfl ?_
          refine x_goto (pc := 83) (tgt := 19) E dX3_weighSet_83 (by decide) ?_
          obtain rfl := Option.some.inj hf
          exact x_sub [1, 2, 3, 4, 0] rfl (ih _ _ _ _ (lpk_l h2) hk)
        · refine x_aload_n 0 (pc := 71) (i := 0) E dX3_weighSet_71 rfl rfl ?_
          refine x_getR (pc := 72) (r := 54) (p := 5) E rfl (Nat.le_of_ble_eq_true rfl) rfl inlX3 (by decide) rfl wq_77 dX3_weighSet_72 ?_
          refine x_iload 4 (pc := 75) E dX3_weighSet_75 rfl ?_
          refine x_lload 5 (pc := 77) E dX3_weighSet_77 rfl ?_
          refine x_lastore (pc := 79) E rfl (Nat.le_of_ble_eq_true rfl) dX3_weighSet_79 hf (fun σ4 hf => ?_)
          refine x_iinc 4 (pc := 80) (v := v6 + 1) (lv' := [(6, .int (v6 + 1)), (0, .ref (gad G 50)), (1, .int v1), (3, .int v3), (4, .long o1), (7, .long (σ.2 49 (v3 &&& ((σ.1 52 v6.toNatClampNeg) ^^^ (-1 : Int32))).toNatClampNeg))]) E dX3_weighSet_80 rfl rfl (by decide) rfl ?_
          refine x_goto (pc := 83) (tgt := 19) E dX3_weighSet_83 (by decide) ?_
          obtain rfl := Option.some.inj hf
          exact x_sub [1, 2, 3, 4, 0] rfl (ih _ _ _ _ (lpk_l h2) hk)
      refine x_lcmp_ge (pc := 50) (tgt := 58) E dX3_weighSet_50 dX3_weighSet_51 (by decide) hf3 (fun hf3 => ?_) (fun hf3 => ?_)
      · obtain rfl := Option.some.inj hf3
        exact x_sub [1, 2, 3, 4, 5, 0] rfl hJ2
      · refine x_lload 0 (pc := 54) E dX3_weighSet_54 rfl ?_
        refine x_lstore (pc := 56) (lv' := [(4, .long (σ.2 49 (v3 &&& ((σ.1 52 v6.toNatClampNeg) ^^^ (-1 : Int32))).toNatClampNeg)), (7, .long (σ.2 49 (v3 &&& ((σ.1 52 v6.toNatClampNeg) ^^^ (-1 : Int32))).toNatClampNeg)), (0, .ref (gad G 50)), (1, .int v1), (3, .int v3), (6, .int v6)]) E dX3_weighSet_56 (by decide) rfl ?_
        obtain rfl := Option.some.inj hf3
        exact x_sub [2, 3, 4, 0, 5, 1] rfl hJ2
set_option maxHeartbeats 4000000 in
set_option maxRecDepth 100000 in
theorem c_X3_weighSet (G : Gx) (v1 : Int32) (v2 : Int32) (σ : MM) (σ' : MM) (hf : f_X3_weighSet v1 v2 σ = some σ') : Ct shS 56 yX3_weighSet cX3_weighSet 9 none rm_X3_weighSet G [.ref (gad G 50), .int v1, .int v2] σ none σ' := by
  refine ct_of (by decide) (Nat.le_of_ble_eq_true rfl) (fun K E hR => ?_)
  have E : OKc 56 cX3_weighSet 9 RX3 G K := E
  show XJ shS 56 9 rm_X3_weighSet G K σ [(0, .ref (gad G 50)), (1, .int v1), (2, .int v2)] 0 []
  unfold f_X3_weighSet at hf
  refine x_iload_n 2 (pc := 0) (i := 2) E dX3_weighSet_0 rfl rfl ?_
  refine x_aload_n 0 (pc := 1) (i := 0) E dX3_weighSet_1 rfl rfl ?_
  refine x_getR (pc := 2) (r := 51) (p := 2) E rfl (Nat.le_of_ble_eq_true rfl) rfl inlX3 (by decide) rfl wq_74 dX3_weighSet_2 ?_
  refine x_iload_n 1 (pc := 5) (i := 1) E dX3_weighSet_5 rfl rfl ?_
  refine x_iaload (pc := 6) E rfl (Nat.le_of_ble_eq_true rfl) dX3_weighSet_6 hf (fun hf => ?_)
  refine x_iconst (pc := 7) (v := (-1 : Int32)) E dX3_weighSet_7 rfl ?_
  refine x_ixor (pc := 8) E dX3_weighSet_8 ?_
  refine x_iand (pc := 9) E dX3_weighSet_9 ?_
  refine x_istore_n (pc := 10) (lv' := [(3, .int (v2 &&& ((σ.1 51 v1.toNatClampNeg) ^^^ (-1 : Int32)))), (0, .ref (gad G 50)), (1, .int v1), (2, .int v2)]) E dX3_weighSet_10 rfl (by decide) rfl ?_
  refine x_ldc2 (pc := 11) (v := 10000000000000001) E wq_648 dX3_weighSet_11 ?_
  refine x_lstore (pc := 14) (lv' := [(4, .long (10000000000000001 : Int64)), (3, .int (v2 &&& ((σ.1 51 v1.toNatClampNeg) ^^^ (-1 : Int32)))), (0, .ref (gad G 50)), (1, .int v1), (2, .int v2)]) E dX3_weighSet_14 (by decide) rfl ?_
  refine x_iconst (pc := 16) (v := (0 : Int32)) E dX3_weighSet_16 rfl ?_
  refine x_istore (pc := 17) (lv' := [(6, .int (0 : Int32)), (4, .long (10000000000000001 : Int64)), (3, .int (v2 &&& ((σ.1 51 v1.toNatClampNeg) ^^^ (-1 : Int32)))), (0, .ref (gad G 50)), (1, .int v1), (2, .int v2)]) E dX3_weighSet_17 (by decide) rfl ?_
  obtain ⟨o5, hl6, hf⟩ := bind_some hf
  refine x_sub [3, 4, 2, 1, 0] rfl (l_X3_weighSet_19 G   v1 (v2 &&& ((σ.1 51 v1.toNatClampNeg) ^^^ (-1 : Int32))) E FU _ _ _ o5 hl6 ?_)
  refine x_aload_n 0 (pc := 86) (i := 0) E dX3_weighSet_86 rfl rfl ?_
  refine x_getR (pc := 87) (r := 53) (p := 4) E rfl (Nat.le_of_ble_eq_true rfl) rfl inlX3 (by decide) rfl wq_76 dX3_weighSet_87 ?_
  refine x_iload_n 1 (pc := 90) (i := 1) E dX3_weighSet_90 rfl rfl ?_
  refine x_lload 2 (pc := 91) E dX3_weighSet_91 rfl ?_
  refine x_lastore (pc := 93) E rfl (Nat.le_of_ble_eq_true rfl) dX3_weighSet_93 hf (fun σ7 hf => ?_)
  obtain rfl := Option.some.inj hf
  exact x_vret (pc := 94) E hR dX3_weighSet_94
set_option maxHeartbeats 4000000 in
set_option maxRecDepth 100000 in
theorem l_X3_keepThose_6 (G : Gx) {K : Kx} (q0 : Nat) (q1 : Nat) (hs_q0_0 : shS q0 = .inr (0, 220, 0)) (hk_q0_0 : q0 < 56) (hs_q1_0 : shS q1 = .inr (1, 220, 0)) (hk_q1_0 : q1 < 56) (v2 : Int32) (v3 : Int64) (E : OKc 56 cX3_keepThose 7 RX3 G K) : ∀ (m : Nat) (v5 : Int32) (v6 : Int32) (σ : MM) (out : Int32 × MM), loopN (fun s => g_X3_keepThose_6 q0 q1 v2 v3 s.1 s.2.1 s.2.2) m (v5, v6, σ) = some out → XJ shS 56 7 rm_X3_keepThose G K out.2 [(5, .int out.1)] 38 [] → XJ shS 56 7 rm_X3_keepThose G K σ [(0, .ref (gad G q0)), (1, .ref (gad G q1)), (2, .int v2), (3, .long v3), (5, .int v5), (6, .int v6)] 6 [] := by
  intro m
  induction m with
  | zero => intro v5 v6 σ out hf; exact (loopN_0 hf).elim
  | succ m ih =>
    intro v5 v6 σ out hf hk
    obtain ⟨q, hf, h2⟩ := loopN_s hf
    have hf : g_X3_keepThose_6 q0 q1 v2 v3 v5 v6 σ = some q := hf
    unfold g_X3_keepThose_6 at hf
    refine x_iload 5 (pc := 6) E dX3_keepThose_6 rfl ?_
    refine x_iload_n 2 (pc := 8) (i := 2) E dX3_keepThose_8 rfl rfl ?_
    refine x_icmp_ge (pc := 9) (tgt := 38) E dX3_keepThose_9 (by decide) hf (fun hf => ?_) (fun hf => ?_)
    · obtain rfl := Option.some.inj hf
      obtain rfl := lpk_r h2
      exact x_sub [4] rfl hk
    · refine x_aload_n 1 (pc := 12) (i := 1) E dX3_keepThose_12 rfl rfl ?_
      refine x_iload 5 (pc := 13) E dX3_keepThose_13 rfl ?_
      refine x_laload (pc := 15) E hs_q1_0 hk_q1_0 dX3_keepThose_15 hf (fun hf => ?_)
      refine x_lload_n 3 (pc := 16) (i := 3) E dX3_keepThose_16 rfl rfl ?_
      refine x_lcmp_ne (pc := 17) (tgt := 32) E dX3_keepThose_17 dX3_keepThose_18 (by decide) hf (fun hf => ?_) (fun hf => ?_)
      · refine x_iinc 5 (pc := 32) (v := v6 + 1) (lv' := [(6, .int (v6 + 1)), (0, .ref (gad G q0)), (1, .ref (gad G q1)), (2, .int v2), (3, .long v3), (5, .int v5)]) E dX3_keepThose_32 rfl rfl (by decide) rfl ?_
        refine x_goto (pc := 35) (tgt := 6) E dX3_keepThose_35 (by decide) ?_
        obtain rfl := Option.some.inj hf
        exact x_sub [1, 2, 3, 4, 5, 0] rfl (ih _ _ _ _ (lpk_l h2) hk)
      · refine x_aload_n 0 (pc := 21) (i := 0) E dX3_keepThose_21 rfl rfl ?_
        refine x_iload 4 (pc := 22) E dX3_keepThose_22 rfl ?_
        refine x_aload_n 0 (pc := 24) (i := 0) E dX3_keepThose_24 rfl rfl ?_
        refine x_iload 5 (pc := 25) E dX3_keepThose_25 rfl ?_
        refine x_iaload (pc := 27) E hs_q0_0 hk_q0_0 dX3_keepThose_27 hf (fun hf => ?_)
        refine x_iastore (pc := 28) E hs_q0_0 hk_q0_0 dX3_keepThose_28 hf (fun σ1 hf => ?_)
        refine x_iinc 4 (pc := 29) (v := v5 + 1) (lv' := [(5, .int (v5 + 1)), (0, .ref (gad G q0)), (1, .ref (gad G q1)), (2, .int v2), (3, .long v3), (6, .int v6)]) E dX3_keepThose_29 rfl rfl (by decide) rfl ?_
        refine x_iinc 5 (pc := 32) (v := v6 + 1) (lv' := [(6, .int (v6 + 1)), (5, .int (v5 + 1)), (0, .ref (gad G q0)), (1, .ref (gad G q1)), (2, .int v2), (3, .long v3)]) E dX3_keepThose_32 rfl rfl (by decide) rfl ?_
        refine x_goto (pc := 35) (tgt := 6) E dX3_keepThose_35 (by decide) ?_
        obtain rfl := Option.some.inj hf
        exact x_sub [2, 3, 4, 5, 1, 0] rfl (ih _ _ _ _ (lpk_l h2) hk)
set_option maxHeartbeats 4000000 in
set_option maxRecDepth 100000 in
theorem c_X3_keepThose (G : Gx) (q0 : Nat) (q1 : Nat) (hs_q0_0 : shS q0 = .inr (0, 220, 0)) (hk_q0_0 : q0 < 56) (hs_q1_0 : shS q1 = .inr (1, 220, 0)) (hk_q1_0 : q1 < 56) (v2 : Int32) (v3 : Int64) (σ : MM) (r : Int32) (σ' : MM) (hf : f_X3_keepThose q0 q1 v2 v3 σ = some (r, σ')) : Ct shS 56 yX3_keepThose cX3_keepThose 7 (some .int) rm_X3_keepThose G [.ref (gad G q0), .ref (gad G q1), .int v2, .long v3] σ (some (.int r)) σ' := by
  refine ct_of (by decide) (Nat.le_of_ble_eq_true rfl) (fun K E hR => ?_)
  have E : OKc 56 cX3_keepThose 7 RX3 G K := E
  show XJ shS 56 7 rm_X3_keepThose G K σ [(0, .ref (gad G q0)), (1, .ref (gad G q1)), (2, .int v2), (3, .long v3)] 0 []
  unfold f_X3_keepThose at hf
  refine x_iconst (pc := 0) (v := (0 : Int32)) E dX3_keepThose_0 rfl ?_
  refine x_istore (pc := 1) (lv' := [(5, .int (0 : Int32)), (0, .ref (gad G q0)), (1, .ref (gad G q1)), (2, .int v2), (3, .long v3)]) E dX3_keepThose_1 (by decide) rfl ?_
  refine x_iconst (pc := 3) (v := (0 : Int32)) E dX3_keepThose_3 rfl ?_
  refine x_istore (pc := 4) (lv' := [(6, .int (0 : Int32)), (5, .int (0 : Int32)), (0, .ref (gad G q0)), (1, .ref (gad G q1)), (2, .int v2), (3, .long v3)]) E dX3_keepThose_4 (by decide) rfl ?_
  obtain ⟨o2, hl3, hf⟩ := bind_some hf
  refine x_sub [2, 3, 4, 5, 1, 0] rfl (l_X3_keepThose_6 G q0 q1 hs_q0_0 hk_q0_0 hs_q1_0 hk_q1_0 v2 v3 E FU _ _ _ o2 hl3 ?_)
  refine x_iload 0 (pc := 38) E dX3_keepThose_38 rfl ?_
  obtain ⟨rfl, rfl⟩ := Prod.mk.inj (Option.some.inj hf)
  exact x_iret (pc := 40) E hR dX3_keepThose_40
set_option maxHeartbeats 4000000 in
set_option maxRecDepth 100000 in
theorem l_X3_weigh_50 (G : Gx) {K : Kx}   (v2 : Int32) (E : OKc 56 cX3_weigh 8 RX3 G K) : ∀ (m : Nat) (v3 : Int32) (σ : MM) (out : MM), loopN (fun s => g_X3_weigh_50 v2 s.1 s.2) m (v3, σ) = some out → XJ shS 56 8 rm_X3_weigh G K out [(0, .ref (gad G 50)), (2, .int v2)] 73 [] → XJ shS 56 8 rm_X3_weigh G K σ [(0, .ref (gad G 50)), (2, .int v2), (3, .int v3)] 50 [] := by
  intro m
  induction m with
  | zero => intro v3 σ out hf; exact (loopN_0 hf).elim
  | succ m ih =>
    intro v3 σ out hf hk
    obtain ⟨q, hf, h2⟩ := loopN_s hf
    have hf : g_X3_weigh_50 v2 v3 σ = some q := hf
    unfold g_X3_weigh_50 at hf
    refine x_iload_n 2 (pc := 50) (i := 3) E dX3_weigh_50 rfl rfl ?_
    refine x_aload_n 0 (pc := 51) (i := 0) E dX3_weigh_51 rfl rfl ?_
    refine x_getI (pc := 52) (p := 7) E rfl (Nat.le_of_ble_eq_true rfl) rfl inlX3 (by decide) rfl wq_632 dX3_weigh_52 ?_
    refine x_icmp_ge (pc := 55) (tgt := 73) E dX3_weigh_55 (by decide) hf (fun hf => ?_) (fun hf => ?_)
    · obtain rfl := Option.some.inj hf
      obtain rfl := lpk_r h2
      exact x_sub [0, 1] rfl hk
    · refine x_aload_n 0 (pc := 58) (i := 0) E dX3_weigh_58 rfl rfl ?_
      refine x_getR (pc := 59) (r := 54) (p := 5) E rfl (Nat.le_of_ble_eq_true rfl) rfl inlX3 (by decide) rfl wq_77 dX3_weigh_59 ?_
      refine x_iload_n 2 (pc := 62) (i := 3) E dX3_weigh_62 rfl rfl ?_
      refine x_ldc2 (pc := 63) (v := -1) E wq_633 dX3_weigh_63 ?_
      refine x_lastore (pc := 66) E rfl (Nat.le_of_ble_eq_true rfl) dX3_weigh_66 hf (fun σ13 hf => ?_)
      refine x_iinc 2 (pc := 67) (v := v3 + 1) (lv' := [(3, .int (v3 + 1)), (0, .ref (gad G 50)), (2, .int v2)]) E dX3_weigh_67 rfl rfl (by decide) rfl ?_
      refine x_goto (pc := 70) (tgt := 50) E dX3_weigh_70 (by decide) ?_
      obtain rfl := Option.some.inj hf
      exact x_sub [1, 2, 0] rfl (ih _ _ _ (lpk_l h2) hk)
set_option maxHeartbeats 4000000 in
set_option maxRecDepth 100000 in
theorem l_X3_weigh_75 (G : Gx) {K : Kx}   (v2 : Int32) (E : OKc 56 cX3_weigh 8 RX3 G K) : ∀ (m : Nat) (v3 : Int32) (σ : MM) (out : MM), loopN (fun s => g_X3_weigh_75 v2 s.1 s.2) m (v3, σ) = some out → XJ shS 56 8 rm_X3_weigh G K out [(0, .ref (gad G 50))] 95 [] → XJ shS 56 8 rm_X3_weigh G K σ [(0, .ref (gad G 50)), (2, .int v2), (3, .int v3)] 75 [] := by
  intro m
  induction m with
  | zero => intro v3 σ out hf; exact (loopN_0 hf).elim
  | succ m ih =>
    intro v3 σ out hf hk
    obtain ⟨q, hf, h2⟩ := loopN_s hf
    have hf : g_X3_weigh_75 v2 v3 σ = some q := hf
    unfold g_X3_weigh_75 at hf
    refine x_iload_n 2 (pc := 75) (i := 3) E dX3_weigh_75 rfl rfl ?_
    refine x_aload_n 0 (pc := 76) (i := 0) E dX3_weigh_76 rfl rfl ?_
    refine x_getI (pc := 77) (p := 6) E rfl (Nat.le_of_ble_eq_true rfl) rfl inlX3 (by decide) rfl wq_631 dX3_weigh_77 ?_
    refine x_icmp_ge (pc := 80) (tgt := 95) E dX3_weigh_80 (by decide) hf (fun hf => ?_) (fun hf => ?_)
    · obtain rfl := Option.some.inj hf
      obtain rfl := lpk_r h2
      exact x_sub [0] rfl hk
    · refine x_aload_n 0 (pc := 83) (i := 0) E dX3_weigh_83 rfl rfl ?_
      refine x_iload_n 2 (pc := 84) (i := 3) E dX3_weigh_84 rfl rfl ?_
      refine x_iload_n 1 (pc := 85) (i := 2) E dX3_weigh_85 rfl rfl ?_
      refine x_callVwv (pc := 86) (na := 2) (As := [.int v3, .int v2]) E (c_X3_weighSet G v3 v2 σ) rfl (Nat.le_of_ble_eq_true rfl) rfl wq_647 wq_38 wq_644 wq_645 wq_646 rfl rfl (by decide) ⟨Nat.le_of_ble_eq_true rfl, Nat.le_of_ble_eq_true rfl⟩ rfl rfl (Nat.le_of_ble_eq_true rfl) dX3_weigh_86 hf (fun σ17 hf => ?_)
      refine x_iinc 2 (pc := 89) (v := v3 + 1) (lv' := [(3, .int (v3 + 1)), (0, .ref (gad G 50)), (2, .int v2)]) E dX3_weigh_89 rfl rfl (by decide) rfl ?_
      refine x_goto (pc := 92) (tgt := 75) E dX3_weigh_92 (by decide) ?_
      obtain rfl := Option.some.inj hf
      exact x_sub [1, 2, 0] rfl (ih _ _ _ (lpk_l h2) hk)
set_option maxHeartbeats 4000000 in
set_option maxRecDepth 100000 in
theorem l_X3_weigh_105 (G : Gx) {K : Kx}    (σ : MM) (E : OKc 56 cX3_weigh 8 RX3 G K) : ∀ (m : Nat) (v3 : Int64) (v5 : Int32) (out : Int64), loopN (fun s => g_X3_weigh_105 s.1 s.2 σ) m (v3, v5) = some out → XJ shS 56 8 rm_X3_weigh G K σ [(0, .ref (gad G 50)), (3, .long out)] 132 [] → XJ shS 56 8 rm_X3_weigh G K σ [(0, .ref (gad G 50)), (3, .long v3), (5, .int v5)] 105 [] := by
  intro m
  induction m with
  | zero => intro v3 v5 out hf; exact (loopN_0 hf).elim
  | succ m ih =>
    intro v3 v5 out hf hk
    obtain ⟨q, hf, h2⟩ := loopN_s hf
    have hf : g_X3_weigh_105 v3 v5 σ = some q := hf
    unfold g_X3_weigh_105 at hf
    refine x_iload 2 (pc := 105) E dX3_weigh_105 rfl ?_
    refine x_aload_n 0 (pc := 107) (i := 0) E dX3_weigh_107 rfl rfl ?_
    refine x_getI (pc := 108) (p := 6) E rfl (Nat.le_of_ble_eq_true rfl) rfl inlX3 (by decide) rfl wq_631 dX3_weigh_108 ?_
    refine x_icmp_ge (pc := 111) (tgt := 132) E dX3_weigh_111 (by decide) hf (fun hf => ?_) (fun hf => ?_)
    · obtain rfl := Option.some.inj hf
      obtain rfl := lpk_r h2
      exact x_sub [0, 1] rfl hk
    · refine x_lload_n 1 (pc := 114) (i := 3) E dX3_weigh_114 rfl rfl ?_
      refine x_aload_n 0 (pc := 115) (i := 0) E dX3_weigh_115 rfl rfl ?_
      refine x_getR (pc := 116) (r := 53) (p := 4) E rfl (Nat.le_of_ble_eq_true rfl) rfl inlX3 (by decide) rfl wq_76 dX3_weigh_116 ?_
      refine x_iload 2 (pc := 119) E dX3_weigh_119 rfl ?_
      refine x_laload (pc := 121) E rfl (Nat.le_of_ble_eq_true rfl) dX3_weigh_121 hf (fun hf => ?_)
      refine x_mmaxL (pc := 122) E wq_634 wq_432 wq_433 wq_434 (Nat.le_of_ble_eq_true rfl) (Nat.le_of_ble_eq_true rfl) dX3_weigh_122 ?_
      refine x_lstore_n (pc := 125) (lv' := [(3, .long (if (σ.2 53 v5.toNatClampNeg) < v3 then v3 else (σ.2 53 v5.toNatClampNeg))), (0, .ref (gad G 50)), (5, .int v5)]) E dX3_weigh_125 rfl (by decide) rfl ?_
      refine x_iinc 2 (pc := 126) (v := v5 + 1) (lv' := [(5, .int (v5 + 1)), (3, .long (if (σ.2 53 v5.toNatClampNeg) < v3 then v3 else (σ.2 53 v5.toNatClampNeg))), (0, .ref (gad G 50))]) E dX3_weigh_126 rfl rfl (by decide) rfl ?_
      refine x_goto (pc := 129) (tgt := 105) E dX3_weigh_129 (by decide) ?_
      obtain rfl := Option.some.inj hf
      exact x_sub [2, 1, 0] rfl (ih _ _ _ (lpk_l h2) hk)
set_option maxHeartbeats 4000000 in
set_option maxRecDepth 100000 in
theorem l_X3_weigh_143 (G : Gx) {K : Kx}   (v3 : Int64) (σ : MM) (E : OKc 56 cX3_weigh 8 RX3 G K) : ∀ (m : Nat) (v5 : Int64) (v7 : Int32) (out : Int64), loopN (fun s => g_X3_weigh_143 v3 s.1 s.2 σ) m (v5, v7) = some out → XJ shS 56 8 rm_X3_weigh G K σ [(0, .ref (gad G 50)), (3, .long v3), (5, .long out)] 172 [] → XJ shS 56 8 rm_X3_weigh G K σ [(0, .ref (gad G 50)), (3, .long v3), (5, .long v5), (7, .int v7)] 143 [] := by
  intro m
  induction m with
  | zero => intro v5 v7 out hf; exact (loopN_0 hf).elim
  | succ m ih =>
    intro v5 v7 out hf hk
    obtain ⟨q, hf, h2⟩ := loopN_s hf
    have hf : g_X3_weigh_143 v3 v5 v7 σ = some q := hf
    unfold g_X3_weigh_143 at hf
    refine x_iload 3 (pc := 143) E dX3_weigh_143 rfl ?_
    refine x_aload_n 0 (pc := 145) (i := 0) E dX3_weigh_145 rfl rfl ?_
    refine x_getI (pc := 146) (p := 7) E rfl (Nat.le_of_ble_eq_true rfl) rfl inlX3 (by decide) rfl wq_632 dX3_weigh_146 ?_
    refine x_icmp_ge (pc := 149) (tgt := 172) E dX3_weigh_149 (by decide) hf (fun hf => ?_) (fun hf => ?_)
    · obtain rfl := Option.some.inj hf
      obtain rfl := lpk_r h2
      exact x_sub [0, 1, 2] rfl hk
    · refine x_lload 2 (pc := 152) E dX3_weigh_152 rfl ?_
      refine x_aload_n 0 (pc := 154) (i := 0) E dX3_weigh_154 rfl rfl ?_
      refine x_getR (pc := 155) (r := 54) (p := 5) E rfl (Nat.le_of_ble_eq_true rfl) rfl inlX3 (by decide) rfl wq_77 dX3_weigh_155 ?_
      refine x_iload 3 (pc := 158) E dX3_weigh_158 rfl ?_
      refine x_laload (pc := 160) E rfl (Nat.le_of_ble_eq_true rfl) dX3_weigh_160 hf (fun hf => ?_)
      refine x_mminL (pc := 161) E wq_635 wq_436 wq_433 wq_437 (Nat.le_of_ble_eq_true rfl) (Nat.le_of_ble_eq_true rfl) dX3_weigh_161 ?_
      refine x_lstore (pc := 164) (lv' := [(5, .long (if (σ.2 54 v7.toNatClampNeg) < v5 then (σ.2 54 v7.toNatClampNeg) else v5)), (0, .ref (gad G 50)), (3, .long v3), (7, .int v7)]) E dX3_weigh_164 (by decide) rfl ?_
      refine x_iinc 3 (pc := 166) (v := v7 + 1) (lv' := [(7, .int (v7 + 1)), (5, .long (if (σ.2 54 v7.toNatClampNeg) < v5 then (σ.2 54 v7.toNatClampNeg) else v5)), (0, .ref (gad G 50)), (3, .long v3)]) E dX3_weigh_166 rfl rfl (by decide) rfl ?_
      refine x_goto (pc := 169) (tgt := 143) E dX3_weigh_169 (by decide) ?_
      obtain rfl := Option.some.inj hf
      exact x_sub [2, 3, 1, 0] rfl (ih _ _ _ (lpk_l h2) hk)
set_option maxHeartbeats 4000000 in
set_option maxRecDepth 100000 in
theorem c_X3_weigh (G : Gx) (σ : MM) (σ' : MM) (hf : f_X3_weigh σ = some σ') : Ct shS 56 yX3_weigh cX3_weigh 8 none rm_X3_weigh G [.ref (gad G 50), .ref (gad G 1)] σ none σ' := by
  refine ct_of (by decide) (Nat.le_of_ble_eq_true rfl) (fun K E hR => ?_)
  have E : OKc 56 cX3_weigh 8 RX3 G K := E
  show XJ shS 56 8 rm_X3_weigh G K σ [(0, .ref (gad G 50)), (1, .ref (gad G 1))] 0 []
  unfold f_X3_weigh at hf
  refine x_aload_n 1 (pc := 0) (i := 1) E dX3_weigh_0 rfl rfl ?_
  refine x_callVNri (pc := 1) (na := 0) (As := []) E (c_X0_calledSet G σ) rfl (Nat.le_of_ble_eq_true rfl) rfl wq_504 wq_16 wn_45 wq_502 wq_503 rfl rfl (by decide) ⟨Nat.le_of_ble_eq_true rfl, Nat.le_of_ble_eq_true rfl⟩ rfl rfl (Nat.le_of_ble_eq_true rfl) dX3_weigh_1 hf (fun r1 hf => ?_)
  refine x_istore_n (pc := 4) (lv' := [(2, .int r1), (0, .ref (gad G 50)), (1, .ref (gad G 1))]) E dX3_weigh_4 rfl (by decide) rfl ?_
  refine x_aload_n 1 (pc := 5) (i := 0) E dX3_weigh_5 rfl rfl ?_
  refine x_iload_n 0 (pc := 6) (i := 2) E dX3_weigh_6 rfl rfl ?_
  refine x_aload_n 2 (pc := 7) (i := 1) E dX3_weigh_7 rfl rfl ?_
  refine x_callVNri (pc := 8) (na := 0) (As := []) E (c_X0_needed G σ) rfl (Nat.le_of_ble_eq_true rfl) rfl wq_93 wq_16 wn_46 wq_91 wq_92 rfl rfl (by decide) ⟨Nat.le_of_ble_eq_true rfl, Nat.le_of_ble_eq_true rfl⟩ rfl rfl (Nat.le_of_ble_eq_true rfl) dX3_weigh_8 hf (fun r2 hf => ?_)
  refine x_callVwv (pc := 11) (na := 2) (As := [.int r1, .int r2]) E (c_X3_fillValues G r1 r2 σ) rfl (Nat.le_of_ble_eq_true rfl) rfl wq_639 wq_38 wq_636 wq_637 wq_638 rfl rfl (by decide) ⟨Nat.le_of_ble_eq_true rfl, Nat.le_of_ble_eq_true rfl⟩ rfl rfl (Nat.le_of_ble_eq_true rfl) dX3_weigh_11 hf (fun σ4 hf => ?_)
  refine x_aload_n 1 (pc := 14) (i := 0) E dX3_weigh_14 rfl rfl ?_
  refine x_aload_n 1 (pc := 15) (i := 0) E dX3_weigh_15 rfl rfl ?_
  refine x_getR (pc := 16) (r := 51) (p := 2) E rfl (Nat.le_of_ble_eq_true rfl) rfl inlX3 (by decide) rfl wq_74 dX3_weigh_16 ?_
  refine x_iload_n 0 (pc := 19) (i := 2) E dX3_weigh_19 rfl rfl ?_
  refine x_aload_n 2 (pc := 20) (i := 1) E dX3_weigh_20 rfl rfl ?_
  refine x_iconst (pc := 21) (v := (0 : Int32)) E dX3_weigh_21 rfl ?_
  refine x_callVNri (pc := 22) (na := 1) (As := [.int (0 : Int32)]) E (c_X0_strikesOf G (0 : Int32) σ4) rfl (Nat.le_of_ble_eq_true rfl) rfl wq_508 wq_16 wn_48 wq_506 wq_507 rfl rfl (by decide) ⟨Nat.le_of_ble_eq_true rfl, Nat.le_of_ble_eq_true rfl⟩ rfl rfl (Nat.le_of_ble_eq_true rfl) dX3_weigh_22 hf (fun r5 hf => ?_)
  refine x_callSwi (pc := 25) (na := 3) (As := [.ref (gad G 51), .int r1, .int r5]) E (c_X3_listSets G 51 rfl (Nat.le_of_ble_eq_true rfl) r1 r5 σ4) wq_643 wq_38 wq_641 wq_642 rfl rfl (by decide) ⟨Nat.le_of_ble_eq_true rfl, Nat.le_of_ble_eq_true rfl⟩ rfl rfl (Nat.le_of_ble_eq_true rfl) dX3_weigh_25 hf (fun r6 σ7 hf => ?_)
  refine x_put (pc := 28) (p := 6) E rfl (Nat.le_of_ble_eq_true rfl) rfl inlX3 tyX3_ok nmX3 (by decide) rfl rfl rfl rfl wq_631 dX3_weigh_28 hf (fun σ8 hf => ?_)
  refine x_aload_n 1 (pc := 31) (i := 0) E dX3_weigh_31 rfl rfl ?_
  refine x_aload_n 1 (pc := 32) (i := 0) E dX3_weigh_32 rfl rfl ?_
  refine x_getR (pc := 33) (r := 52) (p := 3) E rfl (Nat.le_of_ble_eq_true rfl) rfl inlX3 (by decide) rfl wq_75 dX3_weigh_33 ?_
  refine x_iload_n 0 (pc := 36) (i := 2) E dX3_weigh_36 rfl rfl ?_
  refine x_aload_n 2 (pc := 37) (i := 1) E dX3_weigh_37 rfl rfl ?_
  refine x_iconst (pc := 38) (v := (1 : Int32)) E dX3_weigh_38 rfl ?_
  refine x_callVNri (pc := 39) (na := 1) (As := [.int (1 : Int32)]) E (c_X0_strikesOf G (1 : Int32) σ8) rfl (Nat.le_of_ble_eq_true rfl) rfl wq_508 wq_16 wn_48 wq_506 wq_507 rfl rfl (by decide) ⟨Nat.le_of_ble_eq_true rfl, Nat.le_of_ble_eq_true rfl⟩ rfl rfl (Nat.le_of_ble_eq_true rfl) dX3_weigh_39 hf (fun r9 hf => ?_)
  refine x_callSwi (pc := 42) (na := 3) (As := [.ref (gad G 52), .int r1, .int r9]) E (c_X3_listSets G 52 rfl (Nat.le_of_ble_eq_true rfl) r1 r9 σ8) wq_643 wq_38 wq_641 wq_642 rfl rfl (by decide) ⟨Nat.le_of_ble_eq_true rfl, Nat.le_of_ble_eq_true rfl⟩ rfl rfl (Nat.le_of_ble_eq_true rfl) dX3_weigh_42 hf (fun r10 σ11 hf => ?_)
  refine x_put (pc := 45) (p := 7) E rfl (Nat.le_of_ble_eq_true rfl) rfl inlX3 tyX3_ok nmX3 (by decide) rfl rfl rfl rfl wq_632 dX3_weigh_45 hf (fun σ12 hf => ?_)
  refine x_iconst (pc := 48) (v := (0 : Int32)) E dX3_weigh_48 rfl ?_
  refine x_istore_n (pc := 49) (lv' := [(3, .int (0 : Int32)), (2, .int r1), (0, .ref (gad G 50)), (1, .ref (gad G 1))]) E dX3_weigh_49 rfl (by decide) rfl ?_
  obtain ⟨o14, hl15, hf⟩ := bind_some hf
  refine x_sub [2, 1, 0] rfl (l_X3_weigh_50 G   r1 E FU _ _ o14 hl15 ?_)
  refine x_iconst (pc := 73) (v := (0 : Int32)) E dX3_weigh_73 rfl ?_
  refine x_istore_n (pc := 74) (lv' := [(3, .int (0 : Int32)), (0, .ref (gad G 50)), (2, .int r1)]) E dX3_weigh_74 rfl (by decide) rfl ?_
  obtain ⟨o18, hl19, hf⟩ := bind_some hf
  refine x_sub [1, 2, 0] rfl (l_X3_weigh_75 G   r1 E FU _ _ o18 hl19 ?_)
  refine x_aload_n 0 (pc := 95) (i := 0) E dX3_weigh_95 rfl rfl ?_
  refine x_getR (pc := 96) (r := 53) (p := 4) E rfl (Nat.le_of_ble_eq_true rfl) rfl inlX3 (by decide) rfl wq_76 dX3_weigh_96 ?_
  refine x_iconst (pc := 99) (v := (0 : Int32)) E dX3_weigh_99 rfl ?_
  refine x_laload (pc := 100) E rfl (Nat.le_of_ble_eq_true rfl) dX3_weigh_100 hf (fun hf => ?_)
  refine x_lstore_n (pc := 101) (lv' := [(3, .long (o18.2 53 (0 : Int32).toNatClampNeg)), (0, .ref (gad G 50))]) E dX3_weigh_101 rfl (by decide) rfl ?_
  refine x_iconst (pc := 102) (v := (1 : Int32)) E dX3_weigh_102 rfl ?_
  refine x_istore (pc := 103) (lv' := [(5, .int (1 : Int32)), (3, .long (o18.2 53 (0 : Int32).toNatClampNeg)), (0, .ref (gad G 50))]) E dX3_weigh_103 (by decide) rfl ?_
  obtain ⟨o20, hl21, hf⟩ := bind_some hf
  refine x_sub [2, 1, 0] rfl (l_X3_weigh_105 G    o18 E FU _ _ o20 hl21 ?_)
  refine x_aload_n 0 (pc := 132) (i := 0) E dX3_weigh_132 rfl rfl ?_
  refine x_getR (pc := 133) (r := 54) (p := 5) E rfl (Nat.le_of_ble_eq_true rfl) rfl inlX3 (by decide) rfl wq_77 dX3_weigh_133 ?_
  refine x_iconst (pc := 136) (v := (0 : Int32)) E dX3_weigh_136 rfl ?_
  refine x_laload (pc := 137) E rfl (Nat.le_of_ble_eq_true rfl) dX3_weigh_137 hf (fun hf => ?_)
  refine x_lstore (pc := 138) (lv' := [(5, .long (o18.2 54 (0 : Int32).toNatClampNeg)), (0, .ref (gad G 50)), (3, .long o20)]) E dX3_weigh_138 (by decide) rfl ?_
  refine x_iconst (pc := 140) (v := (1 : Int32)) E dX3_weigh_140 rfl ?_
  refine x_istore (pc := 141) (lv' := [(7, .int (1 : Int32)), (5, .long (o18.2 54 (0 : Int32).toNatClampNeg)), (0, .ref (gad G 50)), (3, .long o20)]) E dX3_weigh_141 (by decide) rfl ?_
  obtain ⟨o22, hl23, hf⟩ := bind_some hf
  refine x_sub [2, 3, 1, 0] rfl (l_X3_weigh_143 G   o20 o18 E FU _ _ o22 hl23 ?_)
  refine x_aload_n 0 (pc := 172) (i := 0) E dX3_weigh_172 rfl rfl ?_
  refine x_lload_n 1 (pc := 173) (i := 3) E dX3_weigh_173 rfl rfl ?_
  refine x_lload 2 (pc := 174) E dX3_weigh_174 rfl ?_
  obtain ⟨o26, hf28, hf⟩ := bind_some hf
  have hJ27 : XJ shS 56 8 rm_X3_weigh G K o26.2 [(0, .ref (gad G 50)), (3, .long o20), (5, .long o22)] 200 [.int o26.1, .ref (gad G 50)] := by
    refine x_put (pc := 200) (p := 6) E rfl (Nat.le_of_ble_eq_true rfl) rfl inlX3 tyX3_ok nmX3 (by decide) rfl rfl rfl rfl wq_631 dX3_weigh_200 hf (fun σ29 hf => ?_)
    refine x_aload_n 0 (pc := 203) (i := 0) E dX3_weigh_203 rfl rfl ?_
    refine x_lload_n 1 (pc := 204) (i := 3) E dX3_weigh_204 rfl rfl ?_
    refine x_lload 2 (pc := 205) E dX3_weigh_205 rfl ?_
    refine x_lcmp_ne (pc := 207) (tgt := 231) E dX3_weigh_207 dX3_weigh_208 (by decide) hf (fun hf => ?_) (fun hf => ?_)
    · refine x_iconst (pc := 231) (v := (0 : Int32)) E dX3_weigh_231 rfl ?_
      refine x_put (pc := 232) (p := 7) E rfl (Nat.le_of_ble_eq_true rfl) rfl inlX3 tyX3_ok nmX3 (by decide) rfl rfl rfl rfl wq_632 dX3_weigh_232 hf (fun σ30 hf => ?_)
      obtain rfl := Option.some.inj hf
      exact x_vret (pc := 235) E hR dX3_weigh_235
    · refine x_aload_n 0 (pc := 211) (i := 0) E dX3_weigh_211 rfl rfl ?_
      refine x_getR (pc := 212) (r := 52) (p := 3) E rfl (Nat.le_of_ble_eq_true rfl) rfl inlX3 (by decide) rfl wq_75 dX3_weigh_212 ?_
      refine x_aload_n 0 (pc := 215) (i := 0) E dX3_weigh_215 rfl rfl ?_
      refine x_getR (pc := 216) (r := 54) (p := 5) E rfl (Nat.le_of_ble_eq_true rfl) rfl inlX3 (by decide) rfl wq_77 dX3_weigh_216 ?_
      refine x_aload_n 0 (pc := 219) (i := 0) E dX3_weigh_219 rfl rfl ?_
      refine x_getI (pc := 220) (p := 7) E rfl (Nat.le_of_ble_eq_true rfl) rfl inlX3 (by decide) rfl wq_632 dX3_weigh_220 ?_
      refine x_lload 2 (pc := 223) E dX3_weigh_223 rfl ?_
      refine x_callSwi (pc := 225) (na := 4) (As := [.ref (gad G 52), .ref (gad G 54), .int (σ29.1 50 7), .long o22]) E (c_X3_keepThose G 52 54 rfl (Nat.le_of_ble_eq_true rfl) rfl (Nat.le_of_ble_eq_true rfl) (σ29.1 50 7) o22 σ29) wq_651 wq_38 wq_649 wq_650 rfl rfl (by decide) ⟨Nat.le_of_ble_eq_true rfl, Nat.le_of_ble_eq_true rfl⟩ rfl rfl (Nat.le_of_ble_eq_true rfl) dX3_weigh_225 hf (fun r31 σ32 hf => ?_)
      refine x_goto (pc := 228) (tgt := 232) E dX3_weigh_228 (by decide) ?_
      refine x_put (pc := 232) (p := 7) E rfl (Nat.le_of_ble_eq_true rfl) rfl inlX3 tyX3_ok nmX3 (by decide) rfl rfl rfl rfl wq_632 dX3_weigh_232 hf (fun σ33 hf => ?_)
      obtain rfl := Option.some.inj hf
      exact x_vret (pc := 235) E hR dX3_weigh_235
  refine x_lcmp_ne (pc := 176) (tgt := 199) E dX3_weigh_176 dX3_weigh_177 (by decide) hf28 (fun hf28 => ?_) (fun hf28 => ?_)
  · refine x_iconst (pc := 199) (v := (0 : Int32)) E dX3_weigh_199 rfl ?_
    obtain rfl := Option.some.inj hf28
    exact x_sub [0, 1, 2] rfl hJ27
  · refine x_aload_n 0 (pc := 180) (i := 0) E dX3_weigh_180 rfl rfl ?_
    refine x_getR (pc := 181) (r := 51) (p := 2) E rfl (Nat.le_of_ble_eq_true rfl) rfl inlX3 (by decide) rfl wq_74 dX3_weigh_181 ?_
    refine x_aload_n 0 (pc := 184) (i := 0) E dX3_weigh_184 rfl rfl ?_
    refine x_getR (pc := 185) (r := 53) (p := 4) E rfl (Nat.le_of_ble_eq_true rfl) rfl inlX3 (by decide) rfl wq_76 dX3_weigh_185 ?_
    refine x_aload_n 0 (pc := 188) (i := 0) E dX3_weigh_188 rfl rfl ?_
    refine x_getI (pc := 189) (p := 6) E rfl (Nat.le_of_ble_eq_true rfl) rfl inlX3 (by decide) rfl wq_631 dX3_weigh_189 ?_
    refine x_lload_n 1 (pc := 192) (i := 3) E dX3_weigh_192 rfl rfl ?_
    refine x_callSwi (pc := 193) (na := 4) (As := [.ref (gad G 51), .ref (gad G 53), .int (o18.1 50 6), .long o20]) E (c_X3_keepThose G 51 53 rfl (Nat.le_of_ble_eq_true rfl) rfl (Nat.le_of_ble_eq_true rfl) (o18.1 50 6) o20 o18) wq_651 wq_38 wq_649 wq_650 rfl rfl (by decide) ⟨Nat.le_of_ble_eq_true rfl, Nat.le_of_ble_eq_true rfl⟩ rfl rfl (Nat.le_of_ble_eq_true rfl) dX3_weigh_193 hf28 (fun r34 σ35 hf28 => ?_)
    refine x_goto (pc := 196) (tgt := 200) E dX3_weigh_196 (by decide) ?_
    obtain rfl := Option.some.inj hf28
    exact x_sub [0, 1, 2] rfl hJ27
set_option maxHeartbeats 4000000 in
set_option maxRecDepth 100000 in
theorem c_X6_knowPaper (G : Gx) (σ : MM) (σ' : MM) (hf : f_X6_knowPaper σ = some σ') : Ct shS 56 yX6_knowPaper cX6_knowPaper 1 none rm_X6_knowPaper G [.ref (gad G 0)] σ none σ' := by
  refine ct_of (by decide) (Nat.le_of_ble_eq_true rfl) (fun K E hR => ?_)
  have E : OKc 56 cX6_knowPaper 1 RX6 G K := E
  show XJ shS 56 1 rm_X6_knowPaper G K σ [(0, .ref (gad G 0))] 0 []
  unfold f_X6_knowPaper at hf
  refine x_aload_n 0 (pc := 0) (i := 0) E dX6_knowPaper_0 rfl rfl ?_
  refine x_getI (pc := 1) (p := 14) E rfl (Nat.le_of_ble_eq_true rfl) rfl inlX6 (by decide) rfl wq_139 dX6_knowPaper_1 ?_
  refine x_if_ne (y := 0) (pc := 4) (tgt := 27) E dX6_knowPaper_4 (by decide) hf (fun hf => ?_) (fun hf => ?_)
  · obtain rfl := Option.some.inj hf
    exact x_vret (pc := 27) E hR dX6_knowPaper_27
  · refine x_aload_n 0 (pc := 7) (i := 0) E dX6_knowPaper_7 rfl rfl ?_
    refine x_callVwv (pc := 8) (na := 0) (As := []) E (c_X6_knowTurns G σ) rfl (Nat.le_of_ble_eq_true rfl) rfl wq_501 wq_2 wq_498 wq_499 wq_500 rfl rfl (by decide) ⟨Nat.le_of_ble_eq_true rfl, Nat.le_of_ble_eq_true rfl⟩ rfl rfl (Nat.le_of_ble_eq_true rfl) dX6_knowPaper_8 hf (fun σ2 hf => ?_)
    refine x_aload_n 0 (pc := 11) (i := 0) E dX6_knowPaper_11 rfl rfl ?_
    refine x_getR (pc := 12) (r := 50) (p := 11) E rfl (Nat.le_of_ble_eq_true rfl) rfl inlX6 (by decide) rfl wq_39 dX6_knowPaper_12 ?_
    refine x_aload_n 0 (pc := 15) (i := 0) E dX6_knowPaper_15 rfl rfl ?_
    refine x_getR (pc := 16) (r := 1) (p := 0) E rfl (Nat.le_of_ble_eq_true rfl) rfl inlX6 (by decide) rfl wq_17 dX6_knowPaper_16 ?_
    refine x_callVNwv (pc := 19) (na := 1) (As := [.ref (gad G 1)]) E (c_X3_weigh G σ2) rfl (Nat.le_of_ble_eq_true rfl) rfl wq_630 wq_38 wn_44 wq_628 wq_629 rfl rfl (by decide) ⟨Nat.le_of_ble_eq_true rfl, Nat.le_of_ble_eq_true rfl⟩ rfl rfl (Nat.le_of_ble_eq_true rfl) dX6_knowPaper_19 hf (fun σ4 hf => ?_)
    refine x_aload_n 0 (pc := 22) (i := 0) E dX6_knowPaper_22 rfl rfl ?_
    refine x_iconst (pc := 23) (v := (1 : Int32)) E dX6_knowPaper_23 rfl ?_
    refine x_putZ (pc := 24) (p := 14) E rfl (Nat.le_of_ble_eq_true rfl) rfl inlX6 tyX6_ok nmX6 (by decide) rfl rfl rfl wq_139 dX6_knowPaper_24 hf (fun σ5 hf => ?_)
    obtain rfl := Option.some.inj hf
    exact x_vret (pc := 27) E hR dX6_knowPaper_27
set_option maxHeartbeats 4000000 in
set_option maxRecDepth 100000 in
theorem c_X3_restCount (G : Gx) (σ : MM) (r : Int32) (hf : f_X3_restCount σ = some r) : Ct shS 56 yX3_restCount cX3_restCount 1 (some .int) rm_X3_restCount G [.ref (gad G 50)] σ (some (.int r)) σ := by
  refine ct_of (by decide) (Nat.le_of_ble_eq_true rfl) (fun K E hR => ?_)
  have E : OKc 56 cX3_restCount 1 RX3 G K := E
  show XJ shS 56 1 rm_X3_restCount G K σ [(0, .ref (gad G 50))] 0 []
  unfold f_X3_restCount at hf
  refine x_aload_n 0 (pc := 0) (i := 0) E dX3_restCount_0 rfl rfl ?_
  refine x_getI (pc := 1) (p := 6) E rfl (Nat.le_of_ble_eq_true rfl) rfl inlX3 (by decide) rfl wq_631 dX3_restCount_1 ?_
  refine x_aload_n 0 (pc := 4) (i := 0) E dX3_restCount_4 rfl rfl ?_
  refine x_getI (pc := 5) (p := 7) E rfl (Nat.le_of_ble_eq_true rfl) rfl inlX3 (by decide) rfl wq_632 dX3_restCount_5 ?_
  refine x_imul (pc := 8) E dX3_restCount_8 ?_
  obtain rfl := Option.some.inj hf
  exact x_iret (pc := 9) E hR dX3_restCount_9
set_option maxHeartbeats 4000000 in
set_option maxRecDepth 100000 in
theorem c_X6_rests (G : Gx) (σ : MM) (r : Int32) (σ' : MM) (hf : f_X6_rests σ = some (r, σ')) : Ct shS 56 yX6_rests cX6_rests 1 (some .int) rm_X6_rests G [.ref (gad G 0)] σ (some (.int r)) σ' := by
  refine ct_of (by decide) (Nat.le_of_ble_eq_true rfl) (fun K E hR => ?_)
  have E : OKc 56 cX6_rests 1 RX6 G K := E
  show XJ shS 56 1 rm_X6_rests G K σ [(0, .ref (gad G 0))] 0 []
  unfold f_X6_rests at hf
  refine x_aload_n 0 (pc := 0) (i := 0) E dX6_rests_0 rfl rfl ?_
  refine x_getR (pc := 1) (r := 1) (p := 0) E rfl (Nat.le_of_ble_eq_true rfl) rfl inlX6 (by decide) rfl wq_17 dX6_rests_1 ?_
  refine x_callVNri (pc := 4) (na := 0) (As := []) E (c_X0_called G σ) rfl (Nat.le_of_ble_eq_true rfl) rfl wq_488 wq_16 wn_40 wq_486 wq_487 rfl rfl (by decide) ⟨Nat.le_of_ble_eq_true rfl, Nat.le_of_ble_eq_true rfl⟩ rfl rfl (Nat.le_of_ble_eq_true rfl) dX6_rests_4 hf (fun r1 hf => ?_)
  refine x_if_ne (y := 0) (pc := 7) (tgt := 17) E dX6_rests_7 (by decide) hf (fun hf => ?_) (fun hf => ?_)
  · refine x_aload_n 0 (pc := 17) (i := 0) E dX6_rests_17 rfl rfl ?_
    refine x_callVwv (pc := 18) (na := 0) (As := []) E (c_X6_knowPaper G σ) rfl (Nat.le_of_ble_eq_true rfl) rfl wq_627 wq_2 wq_624 wq_625 wq_626 rfl rfl (by decide) ⟨Nat.le_of_ble_eq_true rfl, Nat.le_of_ble_eq_true rfl⟩ rfl rfl (Nat.le_of_ble_eq_true rfl) dX6_rests_18 hf (fun σ3 hf => ?_)
    refine x_aload_n 0 (pc := 21) (i := 0) E dX6_rests_21 rfl rfl ?_
    refine x_getR (pc := 22) (r := 50) (p := 11) E rfl (Nat.le_of_ble_eq_true rfl) rfl inlX6 (by decide) rfl wq_39 dX6_rests_22 ?_
    refine x_callVNri (pc := 25) (na := 0) (As := []) E (c_X3_restCount G σ3) rfl (Nat.le_of_ble_eq_true rfl) rfl wq_654 wq_38 wn_49 wq_652 wq_653 rfl rfl (by decide) ⟨Nat.le_of_ble_eq_true rfl, Nat.le_of_ble_eq_true rfl⟩ rfl rfl (Nat.le_of_ble_eq_true rfl) dX6_rests_25 hf (fun r4 hf => ?_)
    obtain ⟨rfl, rfl⟩ := Prod.mk.inj (Option.some.inj hf)
    exact x_iret (pc := 28) E hR dX6_rests_28
  · refine x_aload_n 0 (pc := 10) (i := 0) E dX6_rests_10 rfl rfl ?_
    refine x_bipush (pc := 11) (v := (-3 : Int32)) E dX6_rests_11 rfl ?_
    refine x_callVwi (pc := 13) (na := 1) (As := [.int (-3 : Int32)]) E (c_X6_refuse G (-3 : Int32) σ) rfl (Nat.le_of_ble_eq_true rfl) rfl wq_133 wq_2 wq_130 wq_131 wq_132 rfl rfl (by decide) ⟨Nat.le_of_ble_eq_true rfl, Nat.le_of_ble_eq_true rfl⟩ rfl rfl (Nat.le_of_ble_eq_true rfl) dX6_rests_13 hf (fun r5 σ6 hf => ?_)
    obtain ⟨rfl, rfl⟩ := Prod.mk.inj (Option.some.inj hf)
    exact x_iret (pc := 16) E hR dX6_rests_16
set_option maxHeartbeats 4000000 in
set_option maxRecDepth 100000 in
theorem c_X3_restOfA (G : Gx) (v1 : Int32) (σ : MM) (r : Int32) (hf : f_X3_restOfA v1 σ = some r) : Ct shS 56 yX3_restOfA cX3_restOfA 2 (some .int) rm_X3_restOfA G [.ref (gad G 50), .int v1] σ (some (.int r)) σ := by
  refine ct_of (by decide) (Nat.le_of_ble_eq_true rfl) (fun K E hR => ?_)
  have E : OKc 56 cX3_restOfA 2 RX3 G K := E
  show XJ shS 56 2 rm_X3_restOfA G K σ [(0, .ref (gad G 50)), (1, .int v1)] 0 []
  unfold f_X3_restOfA at hf
  refine x_aload_n 0 (pc := 0) (i := 0) E dX3_restOfA_0 rfl rfl ?_
  refine x_getI (pc := 1) (p := 7) E rfl (Nat.le_of_ble_eq_true rfl) rfl inlX3 (by decide) rfl wq_632 dX3_restOfA_1 ?_
  refine x_if_ne (y := 0) (pc := 4) (tgt := 11) E dX3_restOfA_4 (by decide) hf (fun hf => ?_) (fun hf => ?_)
  · refine x_aload_n 0 (pc := 11) (i := 0) E dX3_restOfA_11 rfl rfl ?_
    refine x_getR (pc := 12) (r := 51) (p := 2) E rfl (Nat.le_of_ble_eq_true rfl) rfl inlX3 (by decide) rfl wq_74 dX3_restOfA_12 ?_
    refine x_iload_n 1 (pc := 15) (i := 1) E dX3_restOfA_15 rfl rfl ?_
    refine x_aload_n 0 (pc := 16) (i := 0) E dX3_restOfA_16 rfl rfl ?_
    refine x_getI (pc := 17) (p := 7) E rfl (Nat.le_of_ble_eq_true rfl) rfl inlX3 (by decide) rfl wq_632 dX3_restOfA_17 ?_
    refine x_idiv (pc := 20) E dX3_restOfA_20 hf (fun hf => ?_)
    refine x_iaload (pc := 21) E rfl (Nat.le_of_ble_eq_true rfl) dX3_restOfA_21 hf (fun hf => ?_)
    obtain rfl := Option.some.inj hf
    exact x_iret (pc := 22) E hR dX3_restOfA_22
  · refine x_iconst (pc := 7) (v := (0 : Int32)) E dX3_restOfA_7 rfl ?_
    refine x_goto (pc := 8) (tgt := 22) E dX3_restOfA_8 (by decide) ?_
    obtain rfl := Option.some.inj hf
    exact x_iret (pc := 22) E hR dX3_restOfA_22
set_option maxHeartbeats 4000000 in
set_option maxRecDepth 100000 in
theorem c_X3_restOfB (G : Gx) (v1 : Int32) (σ : MM) (r : Int32) (hf : f_X3_restOfB v1 σ = some r) : Ct shS 56 yX3_restOfB cX3_restOfB 2 (some .int) rm_X3_restOfB G [.ref (gad G 50), .int v1] σ (some (.int r)) σ := by
  refine ct_of (by decide) (Nat.le_of_ble_eq_true rfl) (fun K E hR => ?_)
  have E : OKc 56 cX3_restOfB 2 RX3 G K := E
  show XJ shS 56 2 rm_X3_restOfB G K σ [(0, .ref (gad G 50)), (1, .int v1)] 0 []
  unfold f_X3_restOfB at hf
  refine x_aload_n 0 (pc := 0) (i := 0) E dX3_restOfB_0 rfl rfl ?_
  refine x_getI (pc := 1) (p := 7) E rfl (Nat.le_of_ble_eq_true rfl) rfl inlX3 (by decide) rfl wq_632 dX3_restOfB_1 ?_
  refine x_if_ne (y := 0) (pc := 4) (tgt := 11) E dX3_restOfB_4 (by decide) hf (fun hf => ?_) (fun hf => ?_)
  · refine x_aload_n 0 (pc := 11) (i := 0) E dX3_restOfB_11 rfl rfl ?_
    refine x_getR (pc := 12) (r := 52) (p := 3) E rfl (Nat.le_of_ble_eq_true rfl) rfl inlX3 (by decide) rfl wq_75 dX3_restOfB_12 ?_
    refine x_iload_n 1 (pc := 15) (i := 1) E dX3_restOfB_15 rfl rfl ?_
    refine x_aload_n 0 (pc := 16) (i := 0) E dX3_restOfB_16 rfl rfl ?_
    refine x_getI (pc := 17) (p := 7) E rfl (Nat.le_of_ble_eq_true rfl) rfl inlX3 (by decide) rfl wq_632 dX3_restOfB_17 ?_
    refine x_irem (pc := 20) E dX3_restOfB_20 hf (fun hf => ?_)
    refine x_iaload (pc := 21) E rfl (Nat.le_of_ble_eq_true rfl) dX3_restOfB_21 hf (fun hf => ?_)
    obtain rfl := Option.some.inj hf
    exact x_iret (pc := 22) E hR dX3_restOfB_22
  · refine x_iconst (pc := 7) (v := (0 : Int32)) E dX3_restOfB_7 rfl ?_
    refine x_goto (pc := 8) (tgt := 22) E dX3_restOfB_8 (by decide) ?_
    obtain rfl := Option.some.inj hf
    exact x_iret (pc := 22) E hR dX3_restOfB_22
set_option maxHeartbeats 4000000 in
set_option maxRecDepth 100000 in
theorem c_X6_rest (G : Gx) (v1 : Int32) (σ : MM) (r : Int32) (σ' : MM) (hf : f_X6_rest v1 σ = some (r, σ')) : Ct shS 56 yX6_rest cX6_rest 2 (some .int) rm_X6_rest G [.ref (gad G 0), .int v1] σ (some (.int r)) σ' := by
  refine ct_of (by decide) (Nat.le_of_ble_eq_true rfl) (fun K E hR => ?_)
  have E : OKc 56 cX6_rest 2 RX6 G K := E
  show XJ shS 56 2 rm_X6_rest G K σ [(0, .ref (gad G 0)), (1, .int v1)] 0 []
  unfold f_X6_rest at hf
  refine x_aload_n 0 (pc := 0) (i := 0) E dX6_rest_0 rfl rfl ?_
  refine x_getR (pc := 1) (r := 1) (p := 0) E rfl (Nat.le_of_ble_eq_true rfl) rfl inlX6 (by decide) rfl wq_17 dX6_rest_1 ?_
  refine x_callVNri (pc := 4) (na := 0) (As := []) E (c_X0_called G σ) rfl (Nat.le_of_ble_eq_true rfl) rfl wq_488 wq_16 wn_40 wq_486 wq_487 rfl rfl (by decide) ⟨Nat.le_of_ble_eq_true rfl, Nat.le_of_ble_eq_true rfl⟩ rfl rfl (Nat.le_of_ble_eq_true rfl) dX6_rest_4 hf (fun r1 hf => ?_)
  refine x_if_ne (y := 0) (pc := 7) (tgt := 17) E dX6_rest_7 (by decide) hf (fun hf => ?_) (fun hf => ?_)
  · refine x_aload_n 0 (pc := 17) (i := 0) E dX6_rest_17 rfl rfl ?_
    refine x_callVwv (pc := 18) (na := 0) (As := []) E (c_X6_knowPaper G σ) rfl (Nat.le_of_ble_eq_true rfl) rfl wq_627 wq_2 wq_624 wq_625 wq_626 rfl rfl (by decide) ⟨Nat.le_of_ble_eq_true rfl, Nat.le_of_ble_eq_true rfl⟩ rfl rfl (Nat.le_of_ble_eq_true rfl) dX6_rest_18 hf (fun σ3 hf => ?_)
    refine x_iload_n 1 (pc := 21) (i := 1) E dX6_rest_21 rfl rfl ?_
    refine x_if_lt (y := 0) (pc := 22) (tgt := 36) E dX6_rest_22 (by decide) hf (fun hf => ?_) (fun hf => ?_)
    · refine x_bipush (pc := 36) (v := (-9 : Int32)) E dX6_rest_36 rfl ?_
      obtain ⟨rfl, rfl⟩ := Prod.mk.inj (Option.some.inj hf)
      exact x_iret (pc := 38) E hR dX6_rest_38
    · refine x_iload_n 1 (pc := 25) (i := 1) E dX6_rest_25 rfl rfl ?_
      refine x_aload_n 0 (pc := 26) (i := 0) E dX6_rest_26 rfl rfl ?_
      refine x_getR (pc := 27) (r := 50) (p := 11) E rfl (Nat.le_of_ble_eq_true rfl) rfl inlX6 (by decide) rfl wq_39 dX6_rest_27 ?_
      refine x_callVNri (pc := 30) (na := 0) (As := []) E (c_X3_restCount G σ3) rfl (Nat.le_of_ble_eq_true rfl) rfl wq_654 wq_38 wn_49 wq_652 wq_653 rfl rfl (by decide) ⟨Nat.le_of_ble_eq_true rfl, Nat.le_of_ble_eq_true rfl⟩ rfl rfl (Nat.le_of_ble_eq_true rfl) dX6_rest_30 hf (fun r4 hf => ?_)
      refine x_icmp_lt (pc := 33) (tgt := 39) E dX6_rest_33 (by decide) hf (fun hf => ?_) (fun hf => ?_)
      · refine x_sipush (pc := 39) (v := (4096 : Int32)) E dX6_rest_39 rfl ?_
        refine x_aload_n 0 (pc := 42) (i := 0) E dX6_rest_42 rfl rfl ?_
        refine x_getR (pc := 43) (r := 50) (p := 11) E rfl (Nat.le_of_ble_eq_true rfl) rfl inlX6 (by decide) rfl wq_39 dX6_rest_43 ?_
        refine x_iload_n 1 (pc := 46) (i := 1) E dX6_rest_46 rfl rfl ?_
        refine x_callVNri (pc := 47) (na := 1) (As := [.int v1]) E (c_X3_restOfA G v1 σ3) rfl (Nat.le_of_ble_eq_true rfl) rfl wq_684 wq_38 wn_50 wq_682 wq_683 rfl rfl (by decide) ⟨Nat.le_of_ble_eq_true rfl, Nat.le_of_ble_eq_true rfl⟩ rfl rfl (Nat.le_of_ble_eq_true rfl) dX6_rest_47 hf (fun r5 hf => ?_)
        refine x_imul (pc := 50) E dX6_rest_50 ?_
        refine x_aload_n 0 (pc := 51) (i := 0) E dX6_rest_51 rfl rfl ?_
        refine x_getR (pc := 52) (r := 50) (p := 11) E rfl (Nat.le_of_ble_eq_true rfl) rfl inlX6 (by decide) rfl wq_39 dX6_rest_52 ?_
        refine x_iload_n 1 (pc := 55) (i := 1) E dX6_rest_55 rfl rfl ?_
        refine x_callVNri (pc := 56) (na := 1) (As := [.int v1]) E (c_X3_restOfB G v1 σ3) rfl (Nat.le_of_ble_eq_true rfl) rfl wq_687 wq_38 wn_51 wq_685 wq_686 rfl rfl (by decide) ⟨Nat.le_of_ble_eq_true rfl, Nat.le_of_ble_eq_true rfl⟩ rfl rfl (Nat.le_of_ble_eq_true rfl) dX6_rest_56 hf (fun r6 hf => ?_)
        refine x_iadd (pc := 59) E dX6_rest_59 ?_
        obtain ⟨rfl, rfl⟩ := Prod.mk.inj (Option.some.inj hf)
        exact x_iret (pc := 60) E hR dX6_rest_60
      · refine x_bipush (pc := 36) (v := (-9 : Int32)) E dX6_rest_36 rfl ?_
        obtain ⟨rfl, rfl⟩ := Prod.mk.inj (Option.some.inj hf)
        exact x_iret (pc := 38) E hR dX6_rest_38
  · refine x_aload_n 0 (pc := 10) (i := 0) E dX6_rest_10 rfl rfl ?_
    refine x_bipush (pc := 11) (v := (-3 : Int32)) E dX6_rest_11 rfl ?_
    refine x_callVwi (pc := 13) (na := 1) (As := [.int (-3 : Int32)]) E (c_X6_refuse G (-3 : Int32) σ) rfl (Nat.le_of_ble_eq_true rfl) rfl wq_133 wq_2 wq_130 wq_131 wq_132 rfl rfl (by decide) ⟨Nat.le_of_ble_eq_true rfl, Nat.le_of_ble_eq_true rfl⟩ rfl rfl (Nat.le_of_ble_eq_true rfl) dX6_rest_13 hf (fun r7 σ8 hf => ?_)
    obtain ⟨rfl, rfl⟩ := Prod.mk.inj (Option.some.inj hf)
    exact x_iret (pc := 16) E hR dX6_rest_16
set_option maxHeartbeats 4000000 in
set_option maxRecDepth 100000 in
theorem l_X6_firstOf_7 (G : Gx) {K : Kx}   (v1 : Int32) (σ : MM) (E : OKc 56 cX6_firstOf 5 RX6 G K) : ∀ (m : Nat) (v2 : Int32) (v3 : Int32) (v4 : Int32) (out : Int32), loopN (fun s => g_X6_firstOf_7 v1 s.1 s.2.1 s.2.2 σ) m (v2, v3, v4) = some out → XJ shS 56 5 rm_X6_firstOf G K σ [(2, .int out)] 32 [] → XJ shS 56 5 rm_X6_firstOf G K σ [(1, .int v1), (2, .int v2), (3, .int v3), (4, .int v4)] 7 [] := by
  intro m
  induction m with
  | zero => intro v2 v3 v4 out hf; exact (loopN_0 hf).elim
  | succ m ih =>
    intro v2 v3 v4 out hf hk
    obtain ⟨q, hf, h2⟩ := loopN_s hf
    have hf : g_X6_firstOf_7 v1 v2 v3 v4 σ = some q := hf
    unfold g_X6_firstOf_7 at hf
    refine x_iload 3 (pc := 7) E dX6_firstOf_7 rfl ?_
    refine x_iload_n 0 (pc := 9) (i := 1) E dX6_firstOf_9 rfl rfl ?_
    refine x_icmp_ge (pc := 10) (tgt := 32) E dX6_firstOf_10 (by decide) hf (fun hf => ?_) (fun hf => ?_)
    · obtain rfl := Option.some.inj hf
      obtain rfl := lpk_r h2
      exact x_sub [1] rfl hk
    · refine x_iload_n 1 (pc := 13) (i := 2) E dX6_firstOf_13 rfl rfl ?_
      refine x_iload_n 2 (pc := 14) (i := 3) E dX6_firstOf_14 rfl rfl ?_
      refine x_iload_n 2 (pc := 15) (i := 3) E dX6_firstOf_15 rfl rfl ?_
      refine x_ineg (pc := 16) E dX6_firstOf_16 ?_
      refine x_iand (pc := 17) E dX6_firstOf_17 ?_
      refine x_ior (pc := 18) E dX6_firstOf_18 ?_
      refine x_istore_n (pc := 19) (lv' := [(2, .int (v2 ||| (v3 &&& (-v3)))), (1, .int v1), (3, .int v3), (4, .int v4)]) E dX6_firstOf_19 rfl (by decide) rfl ?_
      refine x_iload_n 2 (pc := 20) (i := 3) E dX6_firstOf_20 rfl rfl ?_
      refine x_iload_n 2 (pc := 21) (i := 3) E dX6_firstOf_21 rfl rfl ?_
      refine x_iconst (pc := 22) (v := (1 : Int32)) E dX6_firstOf_22 rfl ?_
      refine x_isub (pc := 23) E dX6_firstOf_23 ?_
      refine x_iand (pc := 24) E dX6_firstOf_24 ?_
      refine x_istore_n (pc := 25) (lv' := [(3, .int (v3 &&& (v3 - (1 : Int32)))), (2, .int (v2 ||| (v3 &&& (-v3)))), (1, .int v1), (4, .int v4)]) E dX6_firstOf_25 rfl (by decide) rfl ?_
      refine x_iinc 3 (pc := 26) (v := v4 + 1) (lv' := [(4, .int (v4 + 1)), (3, .int (v3 &&& (v3 - (1 : Int32)))), (2, .int (v2 ||| (v3 &&& (-v3)))), (1, .int v1)]) E dX6_firstOf_26 rfl rfl (by decide) rfl ?_
      refine x_goto (pc := 29) (tgt := 7) E dX6_firstOf_29 (by decide) ?_
      obtain rfl := Option.some.inj hf
      exact x_sub [3, 2, 1, 0] rfl (ih _ _ _ _ (lpk_l h2) hk)
set_option maxHeartbeats 4000000 in
set_option maxRecDepth 100000 in
theorem c_X6_firstOf (G : Gx) (v0 : Int32) (v1 : Int32) (σ : MM) (r : Int32) (hf : f_X6_firstOf v0 v1 σ = some r) : Ct shS 56 yX6_firstOf cX6_firstOf 5 (some .int) rm_X6_firstOf G [.int v0, .int v1] σ (some (.int r)) σ := by
  refine ct_of (by decide) (Nat.le_of_ble_eq_true rfl) (fun K E hR => ?_)
  have E : OKc 56 cX6_firstOf 5 RX6 G K := E
  show XJ shS 56 5 rm_X6_firstOf G K σ [(0, .int v0), (1, .int v1)] 0 []
  unfold f_X6_firstOf at hf
  refine x_iconst (pc := 0) (v := (0 : Int32)) E dX6_firstOf_0 rfl ?_
  refine x_istore_n (pc := 1) (lv' := [(2, .int (0 : Int32)), (0, .int v0), (1, .int v1)]) E dX6_firstOf_1 rfl (by decide) rfl ?_
  refine x_iload_n 1 (pc := 2) (i := 0) E dX6_firstOf_2 rfl rfl ?_
  refine x_istore_n (pc := 3) (lv' := [(3, .int v0), (2, .int (0 : Int32)), (0, .int v0), (1, .int v1)]) E dX6_firstOf_3 rfl (by decide) rfl ?_
  refine x_iconst (pc := 4) (v := (0 : Int32)) E dX6_firstOf_4 rfl ?_
  refine x_istore (pc := 5) (lv' := [(4, .int (0 : Int32)), (3, .int v0), (2, .int (0 : Int32)), (0, .int v0), (1, .int v1)]) E dX6_firstOf_5 (by decide) rfl ?_
  obtain ⟨o1, hl2, hf⟩ := bind_some hf
  refine x_sub [4, 2, 1, 0] rfl (l_X6_firstOf_7 G   v1 σ E FU _ _ _ o1 hl2 ?_)
  refine x_iload_n 0 (pc := 32) (i := 2) E dX6_firstOf_32 rfl rfl ?_
  obtain rfl := Option.some.inj hf
  exact x_iret (pc := 33) E hR dX6_firstOf_33
set_option maxHeartbeats 4000000 in
set_option maxRecDepth 100000 in
theorem c_X6_paper (G : Gx) (v1 : Int32) (v2 : Int32) (σ : MM) (r : Int64) (σ' : MM) (hf : f_X6_paper v1 v2 σ = some (r, σ')) : Ct shS 56 yX6_paper cX6_paper 4 (some .long) rm_X6_paper G [.ref (gad G 0), .int v1, .int v2] σ (some (.long r)) σ' := by
  refine ct_of (by decide) (Nat.le_of_ble_eq_true rfl) (fun K E hR => ?_)
  have E : OKc 56 cX6_paper 4 RX6 G K := E
  show XJ shS 56 4 rm_X6_paper G K σ [(0, .ref (gad G 0)), (1, .int v1), (2, .int v2)] 0 []
  unfold f_X6_paper at hf
  refine x_aload_n 0 (pc := 0) (i := 0) E dX6_paper_0 rfl rfl ?_
  refine x_getR (pc := 1) (r := 1) (p := 0) E rfl (Nat.le_of_ble_eq_true rfl) rfl inlX6 (by decide) rfl wq_17 dX6_paper_1 ?_
  refine x_callVNri (pc := 4) (na := 0) (As := []) E (c_X0_called G σ) rfl (Nat.le_of_ble_eq_true rfl) rfl wq_488 wq_16 wn_40 wq_486 wq_487 rfl rfl (by decide) ⟨Nat.le_of_ble_eq_true rfl, Nat.le_of_ble_eq_true rfl⟩ rfl rfl (Nat.le_of_ble_eq_true rfl) dX6_paper_4 hf (fun r1 hf => ?_)
  refine x_if_ne (y := 0) (pc := 7) (tgt := 17) E dX6_paper_7 (by decide) hf (fun hf => ?_) (fun hf => ?_)
  · refine x_aload_n 0 (pc := 17) (i := 0) E dX6_paper_17 rfl rfl ?_
    refine x_getR (pc := 18) (r := 1) (p := 0) E rfl (Nat.le_of_ble_eq_true rfl) rfl inlX6 (by decide) rfl wq_17 dX6_paper_18 ?_
    refine x_callVNri (pc := 21) (na := 0) (As := []) E (c_X0_calledSet G σ) rfl (Nat.le_of_ble_eq_true rfl) rfl wq_504 wq_16 wn_41 wq_502 wq_503 rfl rfl (by decide) ⟨Nat.le_of_ble_eq_true rfl, Nat.le_of_ble_eq_true rfl⟩ rfl rfl (Nat.le_of_ble_eq_true rfl) dX6_paper_21 hf (fun r2 hf => ?_)
    refine x_istore_n (pc := 24) (lv' := [(3, .int r2), (0, .ref (gad G 0)), (1, .int v1), (2, .int v2)]) E dX6_paper_24 rfl (by decide) rfl ?_
    refine x_iload_n 2 (pc := 25) (i := 1) E dX6_paper_25 rfl rfl ?_
    refine x_iload_n 3 (pc := 26) (i := 2) E dX6_paper_26 rfl rfl ?_
    refine x_ior (pc := 27) E dX6_paper_27 ?_
    refine x_iload_n 0 (pc := 28) (i := 3) E dX6_paper_28 rfl rfl ?_
    refine x_iconst (pc := 29) (v := (-1 : Int32)) E dX6_paper_29 rfl ?_
    refine x_ixor (pc := 30) E dX6_paper_30 ?_
    refine x_iand (pc := 31) E dX6_paper_31 ?_
    refine x_if_eq (y := 0) (pc := 32) (tgt := 41) E dX6_paper_32 (by decide) hf (fun hf => ?_) (fun hf => ?_)
    · refine x_iload_n 2 (pc := 41) (i := 1) E dX6_paper_41 rfl rfl ?_
      refine x_callSri (pc := 42) (na := 1) (As := [.int v1]) E (c_J6_bitCount_0f7a4 G v1 σ) wq_309 wq_308 wq_306 wq_307 rfl rfl (by decide) ⟨Nat.le_of_ble_eq_true rfl, Nat.le_of_ble_eq_true rfl⟩ rfl rfl (Nat.le_of_ble_eq_true rfl) dX6_paper_42 hf (fun r3 hf => ?_)
      refine x_aload_n 1 (pc := 45) (i := 0) E dX6_paper_45 rfl rfl ?_
      refine x_getR (pc := 46) (r := 1) (p := 0) E rfl (Nat.le_of_ble_eq_true rfl) rfl inlX6 (by decide) rfl wq_17 dX6_paper_46 ?_
      refine x_iconst (pc := 49) (v := (0 : Int32)) E dX6_paper_49 rfl ?_
      refine x_callVNri (pc := 50) (na := 1) (As := [.int (0 : Int32)]) E (c_X0_strikesOf G (0 : Int32) σ) rfl (Nat.le_of_ble_eq_true rfl) rfl wq_508 wq_16 wn_42 wq_506 wq_507 rfl rfl (by decide) ⟨Nat.le_of_ble_eq_true rfl, Nat.le_of_ble_eq_true rfl⟩ rfl rfl (Nat.le_of_ble_eq_true rfl) dX6_paper_50 hf (fun r4 hf => ?_)
      refine x_icmp_ne (pc := 53) (tgt := 71) E dX6_paper_53 (by decide) hf (fun hf => ?_) (fun hf => ?_)
      · refine x_aload_n 1 (pc := 71) (i := 0) E dX6_paper_71 rfl rfl ?_
        refine x_bipush (pc := 72) (v := (-3 : Int32)) E dX6_paper_72 rfl ?_
        refine x_callVwl (pc := 74) (na := 1) (As := [.int (-3 : Int32)]) E (c_X6_refuseLong G (-3 : Int32) σ) rfl (Nat.le_of_ble_eq_true rfl) rfl wq_316 wq_2 wq_313 wq_314 wq_315 rfl rfl (by decide) ⟨Nat.le_of_ble_eq_true rfl, Nat.le_of_ble_eq_true rfl⟩ rfl rfl (Nat.le_of_ble_eq_true rfl) dX6_paper_74 hf (fun r5 σ6 hf => ?_)
        obtain ⟨rfl, rfl⟩ := Prod.mk.inj (Option.some.inj hf)
        exact x_lret (pc := 77) E hR dX6_paper_77
      · refine x_iload_n 3 (pc := 56) (i := 2) E dX6_paper_56 rfl rfl ?_
        refine x_callSri (pc := 57) (na := 1) (As := [.int v2]) E (c_J6_bitCount_0f7a4 G v2 σ) wq_309 wq_308 wq_306 wq_307 rfl rfl (by decide) ⟨Nat.le_of_ble_eq_true rfl, Nat.le_of_ble_eq_true rfl⟩ rfl rfl (Nat.le_of_ble_eq_true rfl) dX6_paper_57 hf (fun r7 hf => ?_)
        refine x_aload_n 1 (pc := 60) (i := 0) E dX6_paper_60 rfl rfl ?_
        refine x_getR (pc := 61) (r := 1) (p := 0) E rfl (Nat.le_of_ble_eq_true rfl) rfl inlX6 (by decide) rfl wq_17 dX6_paper_61 ?_
        refine x_iconst (pc := 64) (v := (1 : Int32)) E dX6_paper_64 rfl ?_
        refine x_callVNri (pc := 65) (na := 1) (As := [.int (1 : Int32)]) E (c_X0_strikesOf G (1 : Int32) σ) rfl (Nat.le_of_ble_eq_true rfl) rfl wq_508 wq_16 wn_42 wq_506 wq_507 rfl rfl (by decide) ⟨Nat.le_of_ble_eq_true rfl, Nat.le_of_ble_eq_true rfl⟩ rfl rfl (Nat.le_of_ble_eq_true rfl) dX6_paper_65 hf (fun r8 hf => ?_)
        refine x_icmp_eq (pc := 68) (tgt := 78) E dX6_paper_68 (by decide) hf (fun hf => ?_) (fun hf => ?_)
        · refine x_aload_n 1 (pc := 78) (i := 0) E dX6_paper_78 rfl rfl ?_
          refine x_getR (pc := 79) (r := 16) (p := 7) E rfl (Nat.le_of_ble_eq_true rfl) rfl inlX6 (by decide) rfl wq_29 dX6_paper_79 ?_
          refine x_iload_n 0 (pc := 82) (i := 3) E dX6_paper_82 rfl rfl ?_
          refine x_iload_n 2 (pc := 83) (i := 1) E dX6_paper_83 rfl rfl ?_
          refine x_iload_n 3 (pc := 84) (i := 2) E dX6_paper_84 rfl rfl ?_
          refine x_ior (pc := 85) E dX6_paper_85 ?_
          refine x_iconst (pc := 86) (v := (-1 : Int32)) E dX6_paper_86 rfl ?_
          refine x_ixor (pc := 87) E dX6_paper_87 ?_
          refine x_iand (pc := 88) E dX6_paper_88 ?_
          refine x_aload_n 1 (pc := 89) (i := 0) E dX6_paper_89 rfl rfl ?_
          refine x_getR (pc := 90) (r := 1) (p := 0) E rfl (Nat.le_of_ble_eq_true rfl) rfl inlX6 (by decide) rfl wq_17 dX6_paper_90 ?_
          refine x_callVNri (pc := 93) (na := 0) (As := []) E (c_X0_needed G σ) rfl (Nat.le_of_ble_eq_true rfl) rfl wq_93 wq_16 wn_32 wq_91 wq_92 rfl rfl (by decide) ⟨Nat.le_of_ble_eq_true rfl, Nat.le_of_ble_eq_true rfl⟩ rfl rfl (Nat.le_of_ble_eq_true rfl) dX6_paper_93 hf (fun r9 hf => ?_)
          refine x_callSri (pc := 96) (na := 2) (As := [.int (r2 &&& ((v1 ||| v2) ^^^ (-1 : Int32))), .int r9]) E (c_X6_firstOf G (r2 &&& ((v1 ||| v2) ^^^ (-1 : Int32))) r9 σ) wq_698 wq_2 wq_696 wq_697 rfl rfl (by decide) ⟨Nat.le_of_ble_eq_true rfl, Nat.le_of_ble_eq_true rfl⟩ rfl rfl (Nat.le_of_ble_eq_true rfl) dX6_paper_96 hf (fun r10 hf => ?_)
          refine x_callVNwl (pc := 99) (na := 1) (As := [.int r10]) E (c_X2_chanceOf G 16 (Or.inl rfl) r10 σ) rfl (Nat.le_of_ble_eq_true rfl) rfl wq_320 wq_28 wn_33 wq_318 wq_319 rfl rfl (by decide) ⟨Nat.le_of_ble_eq_true rfl, Nat.le_of_ble_eq_true rfl⟩ rfl rfl (Nat.le_of_ble_eq_true rfl) dX6_paper_99 hf (fun r11 σ12 hf => ?_)
          obtain ⟨rfl, rfl⟩ := Prod.mk.inj (Option.some.inj hf)
          exact x_lret (pc := 102) E hR dX6_paper_102
        · refine x_aload_n 1 (pc := 71) (i := 0) E dX6_paper_71 rfl rfl ?_
          refine x_bipush (pc := 72) (v := (-3 : Int32)) E dX6_paper_72 rfl ?_
          refine x_callVwl (pc := 74) (na := 1) (As := [.int (-3 : Int32)]) E (c_X6_refuseLong G (-3 : Int32) σ) rfl (Nat.le_of_ble_eq_true rfl) rfl wq_316 wq_2 wq_313 wq_314 wq_315 rfl rfl (by decide) ⟨Nat.le_of_ble_eq_true rfl, Nat.le_of_ble_eq_true rfl⟩ rfl rfl (Nat.le_of_ble_eq_true rfl) dX6_paper_74 hf (fun r13 σ14 hf => ?_)
          obtain ⟨rfl, rfl⟩ := Prod.mk.inj (Option.some.inj hf)
          exact x_lret (pc := 77) E hR dX6_paper_77
    · refine x_aload_n 1 (pc := 35) (i := 0) E dX6_paper_35 rfl rfl ?_
      refine x_iconst (pc := 36) (v := (-1 : Int32)) E dX6_paper_36 rfl ?_
      refine x_callVwl (pc := 37) (na := 1) (As := [.int (-1 : Int32)]) E (c_X6_refuseLong G (-1 : Int32) σ) rfl (Nat.le_of_ble_eq_true rfl) rfl wq_316 wq_2 wq_313 wq_314 wq_315 rfl rfl (by decide) ⟨Nat.le_of_ble_eq_true rfl, Nat.le_of_ble_eq_true rfl⟩ rfl rfl (Nat.le_of_ble_eq_true rfl) dX6_paper_37 hf (fun r15 σ16 hf => ?_)
      obtain ⟨rfl, rfl⟩ := Prod.mk.inj (Option.some.inj hf)
      exact x_lret (pc := 40) E hR dX6_paper_40
  · refine x_aload_n 0 (pc := 10) (i := 0) E dX6_paper_10 rfl rfl ?_
    refine x_bipush (pc := 11) (v := (-3 : Int32)) E dX6_paper_11 rfl ?_
    refine x_callVwl (pc := 13) (na := 1) (As := [.int (-3 : Int32)]) E (c_X6_refuseLong G (-3 : Int32) σ) rfl (Nat.le_of_ble_eq_true rfl) rfl wq_316 wq_2 wq_313 wq_314 wq_315 rfl rfl (by decide) ⟨Nat.le_of_ble_eq_true rfl, Nat.le_of_ble_eq_true rfl⟩ rfl rfl (Nat.le_of_ble_eq_true rfl) dX6_paper_13 hf (fun r17 σ18 hf => ?_)
    obtain ⟨rfl, rfl⟩ := Prod.mk.inj (Option.some.inj hf)
    exact x_lret (pc := 16) E hR dX6_paper_16
set_option maxHeartbeats 4000000 in
set_option maxRecDepth 100000 in
theorem c_X1_endFrom (G : Gx) (v1 : Int32) (v2 : Int32) (v3 : Int32) (σ : MM) (r : Int32) (hf : f_X1_endFrom v1 v2 v3 σ = some r) : Ct shS 56 yX1_endFrom cX1_endFrom 8 (some .int) rm_X1_endFrom G [.ref (gad G 55), .int v1, .int v2, .int v3] σ (some (.int r)) σ := by
  refine ct_of (by decide) (Nat.le_of_ble_eq_true rfl) (fun K E hR => ?_)
  have E : OKc 56 cX1_endFrom 8 RX1 G K := E
  show XJ shS 56 8 rm_X1_endFrom G K σ [(0, .ref (gad G 55)), (1, .int v1), (2, .int v2), (3, .int v3)] 0 []
  unfold f_X1_endFrom at hf
  refine x_iload_n 2 (pc := 0) (i := 2) E dX1_endFrom_0 rfl rfl ?_
  refine x_callSri (pc := 1) (na := 1) (As := [.int v2]) E (c_J6_bitCount_0f7a4 G v2 σ) wq_309 wq_308 wq_731 wq_307 rfl rfl (by decide) ⟨Nat.le_of_ble_eq_true rfl, Nat.le_of_ble_eq_true rfl⟩ rfl rfl (Nat.le_of_ble_eq_true rfl) dX1_endFrom_1 hf (fun r1 hf => ?_)
  refine x_istore (pc := 4) (lv' := [(4, .int r1), (0, .ref (gad G 55)), (1, .int v1), (2, .int v2), (3, .int v3)]) E dX1_endFrom_4 (by decide) rfl ?_
  refine x_iload_n 2 (pc := 6) (i := 1) E dX1_endFrom_6 rfl rfl ?_
  refine x_iload 0 (pc := 7) E dX1_endFrom_7 rfl ?_
  refine x_isub (pc := 9) E dX1_endFrom_9 ?_
  refine x_istore (pc := 10) (lv' := [(5, .int (v1 - r1)), (4, .int r1), (0, .ref (gad G 55)), (1, .int v1), (2, .int v2), (3, .int v3)]) E dX1_endFrom_10 (by decide) rfl ?_
  refine x_iload 1 (pc := 12) E dX1_endFrom_12 rfl ?_
  refine x_aload_n 2 (pc := 14) (i := 0) E dX1_endFrom_14 rfl rfl ?_
  refine x_getI (pc := 15) (p := 3) E rfl (Nat.le_of_ble_eq_true rfl) rfl inlX1 (by decide) rfl wq_715 dX1_endFrom_15 ?_
  refine x_icmp_ne (pc := 18) (tgt := 54) E dX1_endFrom_18 (by decide) hf (fun hf => ?_) (fun hf => ?_)
  · refine x_iload 0 (pc := 54) E dX1_endFrom_54 rfl ?_
    refine x_aload_n 2 (pc := 56) (i := 0) E dX1_endFrom_56 rfl rfl ?_
    refine x_getI (pc := 57) (p := 4) E rfl (Nat.le_of_ble_eq_true rfl) rfl inlX1 (by decide) rfl wq_716 dX1_endFrom_57 ?_
    refine x_aload_n 2 (pc := 60) (i := 0) E dX1_endFrom_60 rfl rfl ?_
    refine x_getI (pc := 61) (p := 5) E rfl (Nat.le_of_ble_eq_true rfl) rfl inlX1 (by decide) rfl wq_717 dX1_endFrom_61 ?_
    refine x_iadd (pc := 64) E dX1_endFrom_64 ?_
    refine x_icmp_ne (pc := 65) (tgt := 85) E dX1_endFrom_65 (by decide) hf (fun hf => ?_) (fun hf => ?_)
    · refine x_aload_n 2 (pc := 85) (i := 0) E dX1_endFrom_85 rfl rfl ?_
      refine x_getR (pc := 86) (r := 49) (p := 1) E rfl (Nat.le_of_ble_eq_true rfl) rfl inlX1 (by decide) rfl wq_84 dX1_endFrom_86 ?_
      refine x_iload_n 4 (pc := 89) (i := 2) E dX1_endFrom_89 rfl rfl ?_
      refine x_laload (pc := 90) E rfl (Nat.le_of_ble_eq_true rfl) dX1_endFrom_90 hf (fun hf => ?_)
      refine x_bipush (pc := 91) (v := (16 : Int32)) E dX1_endFrom_91 rfl ?_
      refine x_iload_n 5 (pc := 93) (i := 3) E dX1_endFrom_93 rfl rfl ?_
      refine x_imul (pc := 94) E dX1_endFrom_94 ?_
      refine x_lushr (pc := 95) E dX1_endFrom_95 ?_
      refine x_ldc2 (pc := 96) (v := 65535) E wq_729 dX1_endFrom_96 ?_
      refine x_land (pc := 99) E dX1_endFrom_99 ?_
      refine x_l2i (pc := 100) E dX1_endFrom_100 ?_
      obtain rfl := Option.some.inj hf
      exact x_iret (pc := 101) E hR dX1_endFrom_101
    · refine x_iload_n 4 (pc := 68) (i := 2) E dX1_endFrom_68 rfl rfl ?_
      refine x_aload_n 2 (pc := 69) (i := 0) E dX1_endFrom_69 rfl rfl ?_
      refine x_getI (pc := 70) (p := 2) E rfl (Nat.le_of_ble_eq_true rfl) rfl inlX1 (by decide) rfl wq_714 dX1_endFrom_70 ?_
      refine x_callSNri (pc := 73) (na := 1) (As := [.int (σ.1 55 2)]) E (c_X6_setOfFirst G (σ.1 55 2) σ) wq_305 wq_2 wn_56 wq_304 rfl rfl (by decide) ⟨Nat.le_of_ble_eq_true rfl, Nat.le_of_ble_eq_true rfl⟩ rfl rfl (Nat.le_of_ble_eq_true rfl) dX1_endFrom_73 hf (fun r2 hf => ?_)
      refine x_iload_n 3 (pc := 76) (i := 1) E dX1_endFrom_76 rfl rfl ?_
      refine x_callSNri (pc := 77) (na := 1) (As := [.int v1]) E (c_X6_setOfFirst G v1 σ) wq_305 wq_2 wn_56 wq_304 rfl rfl (by decide) ⟨Nat.le_of_ble_eq_true rfl, Nat.le_of_ble_eq_true rfl⟩ rfl rfl (Nat.le_of_ble_eq_true rfl) dX1_endFrom_77 hf (fun r3 hf => ?_)
      refine x_iconst (pc := 80) (v := (-1 : Int32)) E dX1_endFrom_80 rfl ?_
      refine x_ixor (pc := 81) E dX1_endFrom_81 ?_
      refine x_iand (pc := 82) E dX1_endFrom_82 ?_
      refine x_ior (pc := 83) E dX1_endFrom_83 ?_
      obtain rfl := Option.some.inj hf
      exact x_iret (pc := 84) E hR dX1_endFrom_84
  · refine x_aload_n 2 (pc := 21) (i := 0) E dX1_endFrom_21 rfl rfl ?_
    refine x_getI (pc := 22) (p := 4) E rfl (Nat.le_of_ble_eq_true rfl) rfl inlX1 (by decide) rfl wq_716 dX1_endFrom_22 ?_
    refine x_iload_n 5 (pc := 25) (i := 3) E dX1_endFrom_25 rfl rfl ?_
    refine x_isub (pc := 26) E dX1_endFrom_26 ?_
    refine x_istore (pc := 27) (lv' := [(6, .int ((σ.1 55 4) - v3)), (5, .int (v1 - r1)), (4, .int r1), (0, .ref (gad G 55)), (1, .int v1), (2, .int v2), (3, .int v3)]) E dX1_endFrom_27 (by decide) rfl ?_
    refine x_aload_n 3 (pc := 29) (i := 0) E dX1_endFrom_29 rfl rfl ?_
    refine x_getI (pc := 30) (p := 5) E rfl (Nat.le_of_ble_eq_true rfl) rfl inlX1 (by decide) rfl wq_717 dX1_endFrom_30 ?_
    refine x_iload 1 (pc := 33) E dX1_endFrom_33 rfl ?_
    refine x_iload_n 6 (pc := 35) (i := 3) E dX1_endFrom_35 rfl rfl ?_
    refine x_isub (pc := 36) E dX1_endFrom_36 ?_
    refine x_isub (pc := 37) E dX1_endFrom_37 ?_
    refine x_istore (pc := 38) (lv' := [(7, .int ((σ.1 55 5) - ((v1 - r1) - v3))), (6, .int ((σ.1 55 4) - v3)), (5, .int (v1 - r1)), (4, .int r1), (0, .ref (gad G 55)), (1, .int v1), (2, .int v2), (3, .int v3)]) E dX1_endFrom_38 (by decide) rfl ?_
    refine x_iload_n 6 (pc := 40) (i := 2) E dX1_endFrom_40 rfl rfl ?_
    refine x_iload 1 (pc := 41) E dX1_endFrom_41 rfl ?_
    refine x_bipush (pc := 43) (v := (12 : Int32)) E dX1_endFrom_43 rfl ?_
    refine x_ishl (pc := 45) E dX1_endFrom_45 ?_
    refine x_ior (pc := 46) E dX1_endFrom_46 ?_
    refine x_iload 0 (pc := 47) E dX1_endFrom_47 rfl ?_
    refine x_bipush (pc := 49) (v := (14 : Int32)) E dX1_endFrom_49 rfl ?_
    refine x_ishl (pc := 51) E dX1_endFrom_51 ?_
    refine x_ior (pc := 52) E dX1_endFrom_52 ?_
    obtain rfl := Option.some.inj hf
    exact x_iret (pc := 53) E hR dX1_endFrom_53
set_option maxHeartbeats 4000000 in
set_option maxRecDepth 100000 in
theorem c_X1_valueOfEnd (G : Gx) (v1 : Int32) (σ : MM) (r : Int64) (hf : f_X1_valueOfEnd v1 σ = some r) : Ct shS 56 yX1_valueOfEnd cX1_valueOfEnd 2 (some .long) rm_X1_valueOfEnd G [.ref (gad G 55), .int v1] σ (some (.long r)) σ := by
  refine ct_of (by decide) (Nat.le_of_ble_eq_true rfl) (fun K E hR => ?_)
  have E : OKc 56 cX1_valueOfEnd 2 RX1 G K := E
  show XJ shS 56 2 rm_X1_valueOfEnd G K σ [(0, .ref (gad G 55)), (1, .int v1)] 0 []
  unfold f_X1_valueOfEnd at hf
  refine x_aload_n 0 (pc := 0) (i := 0) E dX1_valueOfEnd_0 rfl rfl ?_
  refine x_getR (pc := 1) (r := 42) (p := 0) E rfl (Nat.le_of_ble_eq_true rfl) rfl inlX1 (by decide) rfl wq_83 dX1_valueOfEnd_1 ?_
  refine x_iload_n 1 (pc := 4) (i := 1) E dX1_valueOfEnd_4 rfl rfl ?_
  refine x_sipush (pc := 5) (v := (4095 : Int32)) E dX1_valueOfEnd_5 rfl ?_
  refine x_iand (pc := 8) E dX1_valueOfEnd_8 ?_
  refine x_callVNrl (pc := 9) (na := 1) (As := [.int (v1 &&& (4095 : Int32))]) E (c_X5_valueOf G 42 (Or.inl rfl) (v1 &&& (4095 : Int32)) σ) rfl (Nat.le_of_ble_eq_true rfl) rfl wq_440 wq_33 wn_57 wq_438 wq_439 rfl rfl (by decide) ⟨Nat.le_of_ble_eq_true rfl, Nat.le_of_ble_eq_true rfl⟩ rfl rfl (Nat.le_of_ble_eq_true rfl) dX1_valueOfEnd_9 hf (fun r1 hf => ?_)
  obtain rfl := Option.some.inj hf
  exact x_lret (pc := 12) E hR dX1_valueOfEnd_12
set_option maxHeartbeats 4000000 in
set_option maxRecDepth 100000 in
theorem c_X1_decide (G : Gx) (v1 : Int32) (v2 : Int32) (v3 : Int32) (σ : MM) (r : Int32) (hf : f_X1_decide v1 v2 v3 σ = some r) : Ct shS 56 yX1_decide cX1_decide 7 (some .int) rm_X1_decide G [.ref (gad G 55), .int v1, .int v2, .int v3] σ (some (.int r)) σ := by
  refine ct_of (by decide) (Nat.le_of_ble_eq_true rfl) (fun K E hR => ?_)
  have E : OKc 56 cX1_decide 7 RX1 G K := E
  show XJ shS 56 7 rm_X1_decide G K σ [(0, .ref (gad G 55)), (1, .int v1), (2, .int v2), (3, .int v3)] 0 []
  unfold f_X1_decide at hf
  refine x_iload_n 1 (pc := 0) (i := 1) E dX1_decide_0 rfl rfl ?_
  refine x_iload_n 2 (pc := 1) (i := 2) E dX1_decide_1 rfl rfl ?_
  refine x_callSri (pc := 2) (na := 1) (As := [.int v2]) E (c_J6_bitCount_0f7a4 G v2 σ) wq_309 wq_308 wq_731 wq_307 rfl rfl (by decide) ⟨Nat.le_of_ble_eq_true rfl, Nat.le_of_ble_eq_true rfl⟩ rfl rfl (Nat.le_of_ble_eq_true rfl) dX1_decide_2 hf (fun r1 hf => ?_)
  refine x_isub (pc := 5) E dX1_decide_5 ?_
  refine x_iload_n 3 (pc := 6) (i := 3) E dX1_decide_6 rfl rfl ?_
  refine x_isub (pc := 7) E dX1_decide_7 ?_
  refine x_istore (pc := 8) (lv' := [(4, .int ((v1 - r1) - v3)), (0, .ref (gad G 55)), (1, .int v1), (2, .int v2), (3, .int v3)]) E dX1_decide_8 (by decide) rfl ?_
  refine x_aload_n 1 (pc := 10) (i := 0) E dX1_decide_10 rfl rfl ?_
  refine x_iload_n 2 (pc := 11) (i := 1) E dX1_decide_11 rfl rfl ?_
  refine x_iconst (pc := 12) (v := (1 : Int32)) E dX1_decide_12 rfl ?_
  refine x_iadd (pc := 13) E dX1_decide_13 ?_
  refine x_iload_n 3 (pc := 14) (i := 2) E dX1_decide_14 rfl rfl ?_
  refine x_iconst (pc := 15) (v := (1 : Int32)) E dX1_decide_15 rfl ?_
  refine x_iload_n 2 (pc := 16) (i := 1) E dX1_decide_16 rfl rfl ?_
  refine x_ishl (pc := 17) E dX1_decide_17 ?_
  refine x_ior (pc := 18) E dX1_decide_18 ?_
  refine x_iload_n 4 (pc := 19) (i := 3) E dX1_decide_19 rfl rfl ?_
  refine x_callVri (pc := 20) (na := 3) (As := [.int (v1 + (1 : Int32)), .int (v2 ||| ((1 : Int32) <<< (v1 &&& 31))), .int v3]) E (c_X1_endFrom G (v1 + (1 : Int32)) (v2 ||| ((1 : Int32) <<< (v1 &&& 31))) v3 σ) rfl (Nat.le_of_ble_eq_true rfl) rfl wq_739 wq_42 wq_736 wq_737 wq_738 rfl rfl (by decide) ⟨Nat.le_of_ble_eq_true rfl, Nat.le_of_ble_eq_true rfl⟩ rfl rfl (Nat.le_of_ble_eq_true rfl) dX1_decide_20 hf (fun r2 hf => ?_)
  refine x_istore (pc := 23) (lv' := [(5, .int r2), (4, .int ((v1 - r1) - v3)), (0, .ref (gad G 55)), (1, .int v1), (2, .int v2), (3, .int v3)]) E dX1_decide_23 (by decide) rfl ?_
  refine x_iload 1 (pc := 25) E dX1_decide_25 rfl ?_
  refine x_aload_n 2 (pc := 27) (i := 0) E dX1_decide_27 rfl rfl ?_
  refine x_getI (pc := 28) (p := 5) E rfl (Nat.le_of_ble_eq_true rfl) rfl inlX1 (by decide) rfl wq_717 dX1_decide_28 ?_
  obtain ⟨o6, hf8, hf⟩ := bind_some hf
  have hJ7 : XJ shS 56 7 rm_X1_decide G K σ [(0, .ref (gad G 55)), (1, .int v1), (2, .int v2), (3, .int v3), (5, .int o6)] 70 [] := by
    refine x_iload_n 3 (pc := 70) (i := 3) E dX1_decide_70 rfl rfl ?_
    refine x_aload_n 0 (pc := 71) (i := 0) E dX1_decide_71 rfl rfl ?_
    refine x_getI (pc := 72) (p := 4) E rfl (Nat.le_of_ble_eq_true rfl) rfl inlX1 (by decide) rfl wq_716 dX1_decide_72 ?_
    refine x_icmp_ge (pc := 75) (tgt := 116) E dX1_decide_75 (by decide) hf (fun hf => ?_) (fun hf => ?_)
    · refine x_iload 4 (pc := 116) E dX1_decide_116 rfl ?_
      obtain rfl := Option.some.inj hf
      exact x_iret (pc := 118) E hR dX1_decide_118
    · refine x_aload_n 0 (pc := 78) (i := 0) E dX1_decide_78 rfl rfl ?_
      refine x_iload_n 1 (pc := 79) (i := 1) E dX1_decide_79 rfl rfl ?_
      refine x_iconst (pc := 80) (v := (1 : Int32)) E dX1_decide_80 rfl ?_
      refine x_iadd (pc := 81) E dX1_decide_81 ?_
      refine x_iload_n 2 (pc := 82) (i := 2) E dX1_decide_82 rfl rfl ?_
      refine x_iload_n 3 (pc := 83) (i := 3) E dX1_decide_83 rfl rfl ?_
      refine x_iconst (pc := 84) (v := (1 : Int32)) E dX1_decide_84 rfl ?_
      refine x_iadd (pc := 85) E dX1_decide_85 ?_
      refine x_callVri (pc := 86) (na := 3) (As := [.int (v1 + (1 : Int32)), .int v2, .int (v3 + (1 : Int32))]) E (c_X1_endFrom G (v1 + (1 : Int32)) v2 (v3 + (1 : Int32)) σ) rfl (Nat.le_of_ble_eq_true rfl) rfl wq_739 wq_42 wq_736 wq_737 wq_738 rfl rfl (by decide) ⟨Nat.le_of_ble_eq_true rfl, Nat.le_of_ble_eq_true rfl⟩ rfl rfl (Nat.le_of_ble_eq_true rfl) dX1_decide_86 hf (fun r9 hf => ?_)
      refine x_istore (pc := 89) (lv' := [(6, .int r9), (0, .ref (gad G 55)), (1, .int v1), (2, .int v2), (3, .int v3), (5, .int o6)]) E dX1_decide_89 (by decide) rfl ?_
      refine x_aload_n 1 (pc := 91) (i := 0) E dX1_decide_91 rfl rfl ?_
      refine x_iload 0 (pc := 92) E dX1_decide_92 rfl ?_
      refine x_callVrl (pc := 94) (na := 1) (As := [.int r9]) E (c_X1_valueOfEnd G r9 σ) rfl (Nat.le_of_ble_eq_true rfl) rfl wq_743 wq_42 wq_740 wq_741 wq_742 rfl rfl (by decide) ⟨Nat.le_of_ble_eq_true rfl, Nat.le_of_ble_eq_true rfl⟩ rfl rfl (Nat.le_of_ble_eq_true rfl) dX1_decide_94 hf (fun r10 hf => ?_)
      refine x_aload_n 1 (pc := 97) (i := 0) E dX1_decide_97 rfl rfl ?_
      refine x_iload 5 (pc := 98) E dX1_decide_98 rfl ?_
      refine x_callVrl (pc := 100) (na := 1) (As := [.int o6]) E (c_X1_valueOfEnd G o6 σ) rfl (Nat.le_of_ble_eq_true rfl) rfl wq_743 wq_42 wq_740 wq_741 wq_742 rfl rfl (by decide) ⟨Nat.le_of_ble_eq_true rfl, Nat.le_of_ble_eq_true rfl⟩ rfl rfl (Nat.le_of_ble_eq_true rfl) dX1_decide_100 hf (fun r11 hf => ?_)
      refine x_lcmp_le (pc := 103) (tgt := 112) E dX1_decide_103 dX1_decide_104 (by decide) hf (fun hf => ?_) (fun hf => ?_)
      · refine x_iload 5 (pc := 112) E dX1_decide_112 rfl ?_
        refine x_istore (pc := 114) (lv' := [(5, .int o6), (6, .int r9), (0, .ref (gad G 55)), (1, .int v1), (2, .int v2), (3, .int v3)]) E dX1_decide_114 (by decide) rfl ?_
        refine x_iload 0 (pc := 116) E dX1_decide_116 rfl ?_
        obtain rfl := Option.some.inj hf
        exact x_iret (pc := 118) E hR dX1_decide_118
      · refine x_iload 0 (pc := 107) E dX1_decide_107 rfl ?_
        refine x_goto (pc := 109) (tgt := 114) E dX1_decide_109 (by decide) ?_
        refine x_istore (pc := 114) (lv' := [(5, .int r9), (6, .int r9), (0, .ref (gad G 55)), (1, .int v1), (2, .int v2), (3, .int v3)]) E dX1_decide_114 (by decide) rfl ?_
        refine x_iload 0 (pc := 116) E dX1_decide_116 rfl ?_
        obtain rfl := Option.some.inj hf
        exact x_iret (pc := 118) E hR dX1_decide_118
  refine x_icmp_ge (pc := 31) (tgt := 70) E dX1_decide_31 (by decide) hf8 (fun hf8 => ?_) (fun hf8 => ?_)
  · obtain rfl := Option.some.inj hf8
    exact x_sub [2, 3, 4, 5, 0] rfl hJ7
  · refine x_aload_n 2 (pc := 34) (i := 0) E dX1_decide_34 rfl rfl ?_
    refine x_iload_n 3 (pc := 35) (i := 1) E dX1_decide_35 rfl rfl ?_
    refine x_iconst (pc := 36) (v := (1 : Int32)) E dX1_decide_36 rfl ?_
    refine x_iadd (pc := 37) E dX1_decide_37 ?_
    refine x_iload_n 4 (pc := 38) (i := 2) E dX1_decide_38 rfl rfl ?_
    refine x_iload_n 5 (pc := 39) (i := 3) E dX1_decide_39 rfl rfl ?_
    refine x_callVri (pc := 40) (na := 3) (As := [.int (v1 + (1 : Int32)), .int v2, .int v3]) E (c_X1_endFrom G (v1 + (1 : Int32)) v2 v3 σ) rfl (Nat.le_of_ble_eq_true rfl) rfl wq_739 wq_42 wq_736 wq_737 wq_738 rfl rfl (by decide) ⟨Nat.le_of_ble_eq_true rfl, Nat.le_of_ble_eq_true rfl⟩ rfl rfl (Nat.le_of_ble_eq_true rfl) dX1_decide_40 hf8 (fun r12 hf8 => ?_)
    refine x_istore (pc := 43) (lv' := [(6, .int r12), (5, .int r2), (4, .int ((v1 - r1) - v3)), (0, .ref (gad G 55)), (1, .int v1), (2, .int v2), (3, .int v3)]) E dX1_decide_43 (by decide) rfl ?_
    refine x_aload_n 3 (pc := 45) (i := 0) E dX1_decide_45 rfl rfl ?_
    refine x_iload 0 (pc := 46) E dX1_decide_46 rfl ?_
    refine x_callVrl (pc := 48) (na := 1) (As := [.int r12]) E (c_X1_valueOfEnd G r12 σ) rfl (Nat.le_of_ble_eq_true rfl) rfl wq_743 wq_42 wq_740 wq_741 wq_742 rfl rfl (by decide) ⟨Nat.le_of_ble_eq_true rfl, Nat.le_of_ble_eq_true rfl⟩ rfl rfl (Nat.le_of_ble_eq_true rfl) dX1_decide_48 hf8 (fun r13 hf8 => ?_)
    refine x_aload_n 3 (pc := 51) (i := 0) E dX1_decide_51 rfl rfl ?_
    refine x_iload 1 (pc := 52) E dX1_decide_52 rfl ?_
    refine x_callVrl (pc := 54) (na := 1) (As := [.int r2]) E (c_X1_valueOfEnd G r2 σ) rfl (Nat.le_of_ble_eq_true rfl) rfl wq_743 wq_42 wq_740 wq_741 wq_742 rfl rfl (by decide) ⟨Nat.le_of_ble_eq_true rfl, Nat.le_of_ble_eq_true rfl⟩ rfl rfl (Nat.le_of_ble_eq_true rfl) dX1_decide_54 hf8 (fun r14 hf8 => ?_)
    refine x_lcmp_ge (pc := 57) (tgt := 66) E dX1_decide_57 dX1_decide_58 (by decide) hf8 (fun hf8 => ?_) (fun hf8 => ?_)
    · refine x_iload 1 (pc := 66) E dX1_decide_66 rfl ?_
      refine x_istore (pc := 68) (lv' := [(5, .int r2), (6, .int r12), (4, .int ((v1 - r1) - v3)), (0, .ref (gad G 55)), (1, .int v1), (2, .int v2), (3, .int v3)]) E dX1_decide_68 (by decide) rfl ?_
      obtain rfl := Option.some.inj hf8
      exact x_sub [3, 4, 5, 6, 0] rfl hJ7
    · refine x_iload 0 (pc := 61) E dX1_decide_61 rfl ?_
      refine x_goto (pc := 63) (tgt := 68) E dX1_decide_63 (by decide) ?_
      refine x_istore (pc := 68) (lv' := [(5, .int r12), (6, .int r12), (4, .int ((v1 - r1) - v3)), (0, .ref (gad G 55)), (1, .int v1), (2, .int v2), (3, .int v3)]) E dX1_decide_68 (by decide) rfl ?_
      obtain rfl := Option.some.inj hf8
      exact x_sub [3, 4, 5, 6, 0] rfl hJ7
set_option maxHeartbeats 4000000 in
set_option maxRecDepth 100000 in
theorem l_X1_decideAll_54 (G : Gx) {K : Kx}   (v1 : Int32) (v2 : Int32) (v4 : Int32) (E : OKc 56 cX1_decideAll 9 RX1 G K) : ∀ (m : Nat) (v5 : Int32) (σ : MM) (out : MM), loopN (fun s => g_X1_decideAll_54 v1 v2 v4 s.1 s.2) m (v5, σ) = some out → XJ shS 56 9 rm_X1_decideAll G K out [] 114 [] → XJ shS 56 9 rm_X1_decideAll G K σ [(0, .ref (gad G 55)), (1, .int v1), (2, .int v2), (4, .int v4), (5, .int v5)] 54 [] := by
  intro m
  induction m with
  | zero => intro v5 σ out hf; exact (loopN_0 hf).elim
  | succ m ih =>
    intro v5 σ out hf hk
    obtain ⟨q, hf, h2⟩ := loopN_s hf
    have hf : g_X1_decideAll_54 v1 v2 v4 v5 σ = some q := hf
    unfold g_X1_decideAll_54 at hf
    refine x_iload 4 (pc := 54) E dX1_decideAll_54 rfl ?_
    refine x_iload 3 (pc := 56) E dX1_decideAll_56 rfl ?_
    refine x_icmp_gt (pc := 58) (tgt := 114) E dX1_decideAll_58 (by decide) hf (fun hf => ?_) (fun hf => ?_)
    · obtain rfl := Option.some.inj hf
      obtain rfl := lpk_r h2
      exact x_sub [] rfl hk
    · refine x_aload_n 0 (pc := 61) (i := 0) E dX1_decideAll_61 rfl rfl ?_
      refine x_iload_n 1 (pc := 62) (i := 1) E dX1_decideAll_62 rfl rfl ?_
      refine x_iload_n 2 (pc := 63) (i := 2) E dX1_decideAll_63 rfl rfl ?_
      refine x_iload 4 (pc := 64) E dX1_decideAll_64 rfl ?_
      refine x_callVri (pc := 66) (na := 3) (As := [.int v1, .int v2, .int v5]) E (c_X1_decide G v1 v2 v5 σ) rfl (Nat.le_of_ble_eq_true rfl) rfl wq_735 wq_42 wq_732 wq_733 wq_734 rfl rfl (by decide) ⟨Nat.le_of_ble_eq_true rfl, Nat.le_of_ble_eq_true rfl⟩ rfl rfl (Nat.le_of_ble_eq_true rfl) dX1_decideAll_66 hf (fun r3 hf => ?_)
      refine x_i2l (pc := 69) E dX1_decideAll_69 ?_
      refine x_lstore (pc := 70) (lv' := [(6, .long r3.toInt64), (0, .ref (gad G 55)), (1, .int v1), (2, .int v2), (4, .int v4), (5, .int v5)]) E dX1_decideAll_70 (by decide) rfl ?_
      refine x_bipush (pc := 72) (v := (16 : Int32)) E dX1_decideAll_72 rfl ?_
      refine x_iload 5 (pc := 74) E dX1_decideAll_74 rfl ?_
      refine x_imul (pc := 76) E dX1_decideAll_76 ?_
      refine x_istore (pc := 77) (lv' := [(8, .int ((16 : Int32) * v5)), (6, .long r3.toInt64), (0, .ref (gad G 55)), (1, .int v1), (2, .int v2), (4, .int v4), (5, .int v5)]) E dX1_decideAll_77 (by decide) rfl ?_
      refine x_aload_n 2 (pc := 79) (i := 0) E dX1_decideAll_79 rfl rfl ?_
      refine x_getR (pc := 80) (r := 49) (p := 1) E rfl (Nat.le_of_ble_eq_true rfl) rfl inlX1 (by decide) rfl wq_84 dX1_decideAll_80 ?_
      refine x_iload_n 4 (pc := 83) (i := 2) E dX1_decideAll_83 rfl rfl ?_
      refine x_aload_n 2 (pc := 84) (i := 0) E dX1_decideAll_84 rfl rfl ?_
      refine x_getR (pc := 85) (r := 49) (p := 1) E rfl (Nat.le_of_ble_eq_true rfl) rfl inlX1 (by decide) rfl wq_84 dX1_decideAll_85 ?_
      refine x_iload_n 4 (pc := 88) (i := 2) E dX1_decideAll_88 rfl rfl ?_
      refine x_laload (pc := 89) E rfl (Nat.le_of_ble_eq_true rfl) dX1_decideAll_89 hf (fun hf => ?_)
      refine x_ldc2 (pc := 90) (v := 65535) E wq_729 dX1_decideAll_90 ?_
      refine x_iload 0 (pc := 93) E dX1_decideAll_93 rfl ?_
      refine x_lshl (pc := 95) E dX1_decideAll_95 ?_
      refine x_ldc2 (pc := 96) (v := -1) E wq_730 dX1_decideAll_96 ?_
      refine x_lxor (pc := 99) E dX1_decideAll_99 ?_
      refine x_land (pc := 100) E dX1_decideAll_100 ?_
      refine x_lload 1 (pc := 101) E dX1_decideAll_101 rfl ?_
      refine x_iload 0 (pc := 103) E dX1_decideAll_103 rfl ?_
      refine x_lshl (pc := 105) E dX1_decideAll_105 ?_
      refine x_lor (pc := 106) E dX1_decideAll_106 ?_
      refine x_lastore (pc := 107) E rfl (Nat.le_of_ble_eq_true rfl) dX1_decideAll_107 hf (fun σ4 hf => ?_)
      refine x_iinc 6 (pc := 108) (v := v5 + 1) (lv' := [(5, .int (v5 + 1)), (8, .int ((16 : Int32) * v5)), (6, .long r3.toInt64), (0, .ref (gad G 55)), (1, .int v1), (2, .int v2), (4, .int v4)]) E dX1_decideAll_108 rfl rfl (by decide) rfl ?_
      refine x_goto (pc := 111) (tgt := 54) E dX1_decideAll_111 (by decide) ?_
      obtain rfl := Option.some.inj hf
      exact x_sub [3, 4, 5, 6, 0] rfl (ih _ _ _ (lpk_l h2) hk)
set_option maxHeartbeats 4000000 in
set_option maxRecDepth 100000 in
theorem c_X1_decideAll (G : Gx) (v1 : Int32) (v2 : Int32) (σ : MM) (σ' : MM) (hf : f_X1_decideAll v1 v2 σ = some σ') : Ct shS 56 yX1_decideAll cX1_decideAll 9 none rm_X1_decideAll G [.ref (gad G 55), .int v1, .int v2] σ none σ' := by
  refine ct_of (by decide) (Nat.le_of_ble_eq_true rfl) (fun K E hR => ?_)
  have E : OKc 56 cX1_decideAll 9 RX1 G K := E
  show XJ shS 56 9 rm_X1_decideAll G K σ [(0, .ref (gad G 55)), (1, .int v1), (2, .int v2)] 0 []
  unfold f_X1_decideAll at hf
  refine x_iload_n 1 (pc := 0) (i := 1) E dX1_decideAll_0 rfl rfl ?_
  refine x_iload_n 2 (pc := 1) (i := 2) E dX1_decideAll_1 rfl rfl ?_
  refine x_callSri (pc := 2) (na := 1) (As := [.int v2]) E (c_J6_bitCount_0f7a4 G v2 σ) wq_309 wq_308 wq_731 wq_307 rfl rfl (by decide) ⟨Nat.le_of_ble_eq_true rfl, Nat.le_of_ble_eq_true rfl⟩ rfl rfl (Nat.le_of_ble_eq_true rfl) dX1_decideAll_2 hf (fun r1 hf => ?_)
  refine x_isub (pc := 5) E dX1_decideAll_5 ?_
  refine x_istore_n (pc := 6) (lv' := [(3, .int (v1 - r1)), (0, .ref (gad G 55)), (1, .int v1), (2, .int v2)]) E dX1_decideAll_6 rfl (by decide) rfl ?_
  refine x_iload_n 3 (pc := 7) (i := 2) E dX1_decideAll_7 rfl rfl ?_
  refine x_callSri (pc := 8) (na := 1) (As := [.int v2]) E (c_J6_bitCount_0f7a4 G v2 σ) wq_309 wq_308 wq_731 wq_307 rfl rfl (by decide) ⟨Nat.le_of_ble_eq_true rfl, Nat.le_of_ble_eq_true rfl⟩ rfl rfl (Nat.le_of_ble_eq_true rfl) dX1_decideAll_8 hf (fun r2 hf => ?_)
  refine x_aload_n 1 (pc := 11) (i := 0) E dX1_decideAll_11 rfl rfl ?_
  refine x_getI (pc := 12) (p := 3) E rfl (Nat.le_of_ble_eq_true rfl) rfl inlX1 (by decide) rfl wq_715 dX1_decideAll_12 ?_
  refine x_icmp_ge (pc := 15) (tgt := 31) E dX1_decideAll_15 (by decide) hf (fun hf => ?_) (fun hf => ?_)
  · obtain rfl := Option.some.inj hf
    exact x_vret (pc := 31) E hR dX1_decideAll_31
  · refine x_iload_n 0 (pc := 18) (i := 3) E dX1_decideAll_18 rfl rfl ?_
    refine x_aload_n 1 (pc := 19) (i := 0) E dX1_decideAll_19 rfl rfl ?_
    refine x_getI (pc := 20) (p := 4) E rfl (Nat.le_of_ble_eq_true rfl) rfl inlX1 (by decide) rfl wq_716 dX1_decideAll_20 ?_
    refine x_aload_n 1 (pc := 23) (i := 0) E dX1_decideAll_23 rfl rfl ?_
    refine x_getI (pc := 24) (p := 5) E rfl (Nat.le_of_ble_eq_true rfl) rfl inlX1 (by decide) rfl wq_717 dX1_decideAll_24 ?_
    refine x_iadd (pc := 27) E dX1_decideAll_27 ?_
    refine x_icmp_lt (pc := 28) (tgt := 32) E dX1_decideAll_28 (by decide) hf (fun hf => ?_) (fun hf => ?_)
    · refine x_iload_n 0 (pc := 32) (i := 3) E dX1_decideAll_32 rfl rfl ?_
      refine x_aload_n 1 (pc := 33) (i := 0) E dX1_decideAll_33 rfl rfl ?_
      refine x_getI (pc := 34) (p := 4) E rfl (Nat.le_of_ble_eq_true rfl) rfl inlX1 (by decide) rfl wq_716 dX1_decideAll_34 ?_
      refine x_mmin (pc := 37) E wq_723 wq_724 wq_433 wq_725 (Nat.le_of_ble_eq_true rfl) (Nat.le_of_ble_eq_true rfl) dX1_decideAll_37 ?_
      refine x_istore (pc := 40) (lv' := [(4, .int (if (σ.1 55 4) < (v1 - r1) then (σ.1 55 4) else (v1 - r1))), (3, .int (v1 - r1)), (0, .ref (gad G 55)), (1, .int v1), (2, .int v2)]) E dX1_decideAll_40 (by decide) rfl ?_
      refine x_iconst (pc := 42) (v := (0 : Int32)) E dX1_decideAll_42 rfl ?_
      refine x_iload_n 1 (pc := 43) (i := 3) E dX1_decideAll_43 rfl rfl ?_
      refine x_aload_n 2 (pc := 44) (i := 0) E dX1_decideAll_44 rfl rfl ?_
      refine x_getI (pc := 45) (p := 5) E rfl (Nat.le_of_ble_eq_true rfl) rfl inlX1 (by decide) rfl wq_717 dX1_decideAll_45 ?_
      refine x_isub (pc := 48) E dX1_decideAll_48 ?_
      refine x_mmax (pc := 49) E wq_726 wq_727 wq_433 wq_728 (Nat.le_of_ble_eq_true rfl) (Nat.le_of_ble_eq_true rfl) dX1_decideAll_49 ?_
      refine x_istore (pc := 52) (lv' := [(5, .int (if (0 : Int32) < ((v1 - r1) - (σ.1 55 5)) then ((v1 - r1) - (σ.1 55 5)) else (0 : Int32))), (4, .int (if (σ.1 55 4) < (v1 - r1) then (σ.1 55 4) else (v1 - r1))), (3, .int (v1 - r1)), (0, .ref (gad G 55)), (1, .int v1), (2, .int v2)]) E dX1_decideAll_52 (by decide) rfl ?_
      obtain ⟨o5, hl6, hf⟩ := bind_some hf
      refine x_sub [3, 4, 5, 1, 0] rfl (l_X1_decideAll_54 G   v1 v2 (if (σ.1 55 4) < (v1 - r1) then (σ.1 55 4) else (v1 - r1)) E FU _ _ o5 hl6 ?_)
      obtain rfl := Option.some.inj hf
      exact x_vret (pc := 114) E hR dX1_decideAll_114
    · obtain rfl := Option.some.inj hf
      exact x_vret (pc := 31) E hR dX1_decideAll_31
set_option maxHeartbeats 4000000 in
set_option maxRecDepth 100000 in
theorem l_X1_goBack_47 (G : Gx) {K : Kx}   (v2 : Int32) (E : OKc 56 cX1_goBack 4 RX1 G K) : ∀ (m : Nat) (v3 : Int32) (σ : MM) (out : MM), loopN (fun s => g_X1_goBack_47 v2 s.1 s.2) m (v3, σ) = some out → XJ shS 56 4 rm_X1_goBack G K out [(0, .ref (gad G 55)), (2, .int v2)] 66 [] → XJ shS 56 4 rm_X1_goBack G K σ [(0, .ref (gad G 55)), (2, .int v2), (3, .int v3)] 47 [] := by
  intro m
  induction m with
  | zero => intro v3 σ out hf; exact (loopN_0 hf).elim
  | succ m ih =>
    intro v3 σ out hf hk
    obtain ⟨q, hf, h2⟩ := loopN_s hf
    have hf : g_X1_goBack_47 v2 v3 σ = some q := hf
    unfold g_X1_goBack_47 at hf
    refine x_iload_n 2 (pc := 47) (i := 3) E dX1_goBack_47 rfl rfl ?_
    refine x_iconst (pc := 48) (v := (1 : Int32)) E dX1_goBack_48 rfl ?_
    refine x_iload_n 1 (pc := 49) (i := 2) E dX1_goBack_49 rfl rfl ?_
    refine x_ishl (pc := 50) E dX1_goBack_50 ?_
    refine x_icmp_ge (pc := 51) (tgt := 66) E dX1_goBack_51 (by decide) hf (fun hf => ?_) (fun hf => ?_)
    · obtain rfl := Option.some.inj hf
      obtain rfl := lpk_r h2
      exact x_sub [0, 1] rfl hk
    · refine x_aload_n 0 (pc := 54) (i := 0) E dX1_goBack_54 rfl rfl ?_
      refine x_iload_n 1 (pc := 55) (i := 2) E dX1_goBack_55 rfl rfl ?_
      refine x_iload_n 2 (pc := 56) (i := 3) E dX1_goBack_56 rfl rfl ?_
      refine x_callVwv (pc := 57) (na := 2) (As := [.int v2, .int v3]) E (c_X1_decideAll G v2 v3 σ) rfl (Nat.le_of_ble_eq_true rfl) rfl wq_722 wq_42 wq_719 wq_720 wq_721 rfl rfl (by decide) ⟨Nat.le_of_ble_eq_true rfl, Nat.le_of_ble_eq_true rfl⟩ rfl rfl (Nat.le_of_ble_eq_true rfl) dX1_goBack_57 hf (fun σ10 hf => ?_)
      refine x_iinc 2 (pc := 60) (v := v3 + 1) (lv' := [(3, .int (v3 + 1)), (0, .ref (gad G 55)), (2, .int v2)]) E dX1_goBack_60 rfl rfl (by decide) rfl ?_
      refine x_goto (pc := 63) (tgt := 47) E dX1_goBack_63 (by decide) ?_
      obtain rfl := Option.some.inj hf
      exact x_sub [1, 2, 0] rfl (ih _ _ _ (lpk_l h2) hk)
set_option maxHeartbeats 4000000 in
set_option maxRecDepth 100000 in
theorem l_X1_goBack_41 (G : Gx) {K : Kx}    (E : OKc 56 cX1_goBack 4 RX1 G K) : ∀ (m : Nat) (v2 : Int32) (σ : MM) (out : MM), loopN (fun s => g_X1_goBack_41 s.1 s.2) m (v2, σ) = some out → XJ shS 56 4 rm_X1_goBack G K out [(0, .ref (gad G 55))] 72 [] → XJ shS 56 4 rm_X1_goBack G K σ [(0, .ref (gad G 55)), (2, .int v2)] 41 [] := by
  intro m
  induction m with
  | zero => intro v2 σ out hf; exact (loopN_0 hf).elim
  | succ m ih =>
    intro v2 σ out hf hk
    obtain ⟨q, hf, h2⟩ := loopN_s hf
    have hf : g_X1_goBack_41 v2 σ = some q := hf
    unfold g_X1_goBack_41 at hf
    refine x_iload_n 1 (pc := 41) (i := 2) E dX1_goBack_41 rfl rfl ?_
    refine x_if_lt (y := 0) (pc := 42) (tgt := 72) E dX1_goBack_42 (by decide) hf (fun hf => ?_) (fun hf => ?_)
    · obtain rfl := Option.some.inj hf
      obtain rfl := lpk_r h2
      exact x_sub [0] rfl hk
    · refine x_iconst (pc := 45) (v := (0 : Int32)) E dX1_goBack_45 rfl ?_
      refine x_istore_n (pc := 46) (lv' := [(3, .int (0 : Int32)), (0, .ref (gad G 55)), (2, .int v2)]) E dX1_goBack_46 rfl (by decide) rfl ?_
      obtain ⟨o11, hl12, hf⟩ := bind_some hf
      refine x_sub [1, 2, 0] rfl (l_X1_goBack_47 G   v2 E FU _ _ o11 hl12 ?_)
      refine x_iinc 1 (pc := 66) (v := v2 + (-1)) (lv' := [(2, .int (v2 + (-1))), (0, .ref (gad G 55))]) E dX1_goBack_66 rfl rfl (by decide) rfl ?_
      refine x_goto (pc := 69) (tgt := 41) E dX1_goBack_69 (by decide) ?_
      obtain rfl := Option.some.inj hf
      exact x_sub [1, 0] rfl (ih _ _ _ (lpk_l h2) hk)
set_option maxHeartbeats 4000000 in
set_option maxRecDepth 100000 in
theorem c_X1_goBack (G : Gx) (σ : MM) (σ' : MM) (hf : f_X1_goBack σ = some σ') : Ct shS 56 yX1_goBack cX1_goBack 4 none rm_X1_goBack G [.ref (gad G 55), .ref (gad G 1)] σ none σ' := by
  refine ct_of (by decide) (Nat.le_of_ble_eq_true rfl) (fun K E hR => ?_)
  have E : OKc 56 cX1_goBack 4 RX1 G K := E
  show XJ shS 56 4 rm_X1_goBack G K σ [(0, .ref (gad G 55)), (1, .ref (gad G 1))] 0 []
  unfold f_X1_goBack at hf
  refine x_aload_n 0 (pc := 0) (i := 0) E dX1_goBack_0 rfl rfl ?_
  refine x_aload_n 1 (pc := 1) (i := 1) E dX1_goBack_1 rfl rfl ?_
  refine x_callVNri (pc := 2) (na := 0) (As := []) E (c_X0_called G σ) rfl (Nat.le_of_ble_eq_true rfl) rfl wq_488 wq_16 wn_53 wq_486 wq_487 rfl rfl (by decide) ⟨Nat.le_of_ble_eq_true rfl, Nat.le_of_ble_eq_true rfl⟩ rfl rfl (Nat.le_of_ble_eq_true rfl) dX1_goBack_2 hf (fun r1 hf => ?_)
  refine x_put (pc := 5) (p := 2) E rfl (Nat.le_of_ble_eq_true rfl) rfl inlX1 tyX1_ok nmX1 (by decide) rfl rfl rfl rfl wq_714 dX1_goBack_5 hf (fun σ2 hf => ?_)
  refine x_aload_n 0 (pc := 8) (i := 0) E dX1_goBack_8 rfl rfl ?_
  refine x_aload_n 1 (pc := 9) (i := 1) E dX1_goBack_9 rfl rfl ?_
  refine x_callVNri (pc := 10) (na := 0) (As := []) E (c_X0_needed G σ2) rfl (Nat.le_of_ble_eq_true rfl) rfl wq_93 wq_16 wn_54 wq_91 wq_92 rfl rfl (by decide) ⟨Nat.le_of_ble_eq_true rfl, Nat.le_of_ble_eq_true rfl⟩ rfl rfl (Nat.le_of_ble_eq_true rfl) dX1_goBack_10 hf (fun r3 hf => ?_)
  refine x_put (pc := 13) (p := 3) E rfl (Nat.le_of_ble_eq_true rfl) rfl inlX1 tyX1_ok nmX1 (by decide) rfl rfl rfl rfl wq_715 dX1_goBack_13 hf (fun σ4 hf => ?_)
  refine x_aload_n 0 (pc := 16) (i := 0) E dX1_goBack_16 rfl rfl ?_
  refine x_aload_n 1 (pc := 17) (i := 1) E dX1_goBack_17 rfl rfl ?_
  refine x_iconst (pc := 18) (v := (0 : Int32)) E dX1_goBack_18 rfl ?_
  refine x_callVNri (pc := 19) (na := 1) (As := [.int (0 : Int32)]) E (c_X0_strikesOf G (0 : Int32) σ4) rfl (Nat.le_of_ble_eq_true rfl) rfl wq_508 wq_16 wn_55 wq_506 wq_507 rfl rfl (by decide) ⟨Nat.le_of_ble_eq_true rfl, Nat.le_of_ble_eq_true rfl⟩ rfl rfl (Nat.le_of_ble_eq_true rfl) dX1_goBack_19 hf (fun r5 hf => ?_)
  refine x_put (pc := 22) (p := 4) E rfl (Nat.le_of_ble_eq_true rfl) rfl inlX1 tyX1_ok nmX1 (by decide) rfl rfl rfl rfl wq_716 dX1_goBack_22 hf (fun σ6 hf => ?_)
  refine x_aload_n 0 (pc := 25) (i := 0) E dX1_goBack_25 rfl rfl ?_
  refine x_aload_n 1 (pc := 26) (i := 1) E dX1_goBack_26 rfl rfl ?_
  refine x_iconst (pc := 27) (v := (1 : Int32)) E dX1_goBack_27 rfl ?_
  refine x_callVNri (pc := 28) (na := 1) (As := [.int (1 : Int32)]) E (c_X0_strikesOf G (1 : Int32) σ6) rfl (Nat.le_of_ble_eq_true rfl) rfl wq_508 wq_16 wn_55 wq_506 wq_507 rfl rfl (by decide) ⟨Nat.le_of_ble_eq_true rfl, Nat.le_of_ble_eq_true rfl⟩ rfl rfl (Nat.le_of_ble_eq_true rfl) dX1_goBack_28 hf (fun r7 hf => ?_)
  refine x_put (pc := 31) (p := 5) E rfl (Nat.le_of_ble_eq_true rfl) rfl inlX1 tyX1_ok nmX1 (by decide) rfl rfl rfl rfl wq_717 dX1_goBack_31 hf (fun σ8 hf => ?_)
  refine x_aload_n 0 (pc := 34) (i := 0) E dX1_goBack_34 rfl rfl ?_
  refine x_getI (pc := 35) (p := 2) E rfl (Nat.le_of_ble_eq_true rfl) rfl inlX1 (by decide) rfl wq_714 dX1_goBack_35 ?_
  refine x_iconst (pc := 38) (v := (1 : Int32)) E dX1_goBack_38 rfl ?_
  refine x_isub (pc := 39) E dX1_goBack_39 ?_
  refine x_istore_n (pc := 40) (lv' := [(2, .int ((σ8.1 55 2) - (1 : Int32))), (0, .ref (gad G 55)), (1, .ref (gad G 1))]) E dX1_goBack_40 rfl (by decide) rfl ?_
  obtain ⟨o13, hl14, hf⟩ := bind_some hf
  refine x_sub [1, 0] rfl (l_X1_goBack_41 G    E FU _ _ o13 hl14 ?_)
  refine x_aload_n 0 (pc := 72) (i := 0) E dX1_goBack_72 rfl rfl ?_
  refine x_aload_n 0 (pc := 73) (i := 0) E dX1_goBack_73 rfl rfl ?_
  refine x_iconst (pc := 74) (v := (0 : Int32)) E dX1_goBack_74 rfl ?_
  refine x_iconst (pc := 75) (v := (0 : Int32)) E dX1_goBack_75 rfl ?_
  refine x_iconst (pc := 76) (v := (0 : Int32)) E dX1_goBack_76 rfl ?_
  refine x_callVri (pc := 77) (na := 3) (As := [.int (0 : Int32), .int (0 : Int32), .int (0 : Int32)]) E (c_X1_endFrom G (0 : Int32) (0 : Int32) (0 : Int32) o13) rfl (Nat.le_of_ble_eq_true rfl) rfl wq_739 wq_42 wq_736 wq_737 wq_738 rfl rfl (by decide) ⟨Nat.le_of_ble_eq_true rfl, Nat.le_of_ble_eq_true rfl⟩ rfl rfl (Nat.le_of_ble_eq_true rfl) dX1_goBack_77 hf (fun r15 hf => ?_)
  refine x_put (pc := 80) (p := 6) E rfl (Nat.le_of_ble_eq_true rfl) rfl inlX1 tyX1_ok nmX1 (by decide) rfl rfl rfl rfl wq_718 dX1_goBack_80 hf (fun σ16 hf => ?_)
  obtain rfl := Option.some.inj hf
  exact x_vret (pc := 83) E hR dX1_goBack_83
set_option maxHeartbeats 4000000 in
set_option maxRecDepth 100000 in
theorem c_X6_knowComing (G : Gx) (σ : MM) (σ' : MM) (hf : f_X6_knowComing σ = some σ') : Ct shS 56 yX6_knowComing cX6_knowComing 1 none rm_X6_knowComing G [.ref (gad G 0)] σ none σ' := by
  refine ct_of (by decide) (Nat.le_of_ble_eq_true rfl) (fun K E hR => ?_)
  have E : OKc 56 cX6_knowComing 1 RX6 G K := E
  show XJ shS 56 1 rm_X6_knowComing G K σ [(0, .ref (gad G 0))] 0 []
  unfold f_X6_knowComing at hf
  refine x_aload_n 0 (pc := 0) (i := 0) E dX6_knowComing_0 rfl rfl ?_
  refine x_getI (pc := 1) (p := 15) E rfl (Nat.le_of_ble_eq_true rfl) rfl inlX6 (by decide) rfl wq_140 dX6_knowComing_1 ?_
  refine x_if_ne (y := 0) (pc := 4) (tgt := 27) E dX6_knowComing_4 (by decide) hf (fun hf => ?_) (fun hf => ?_)
  · obtain rfl := Option.some.inj hf
    exact x_vret (pc := 27) E hR dX6_knowComing_27
  · refine x_aload_n 0 (pc := 7) (i := 0) E dX6_knowComing_7 rfl rfl ?_
    refine x_callVwv (pc := 8) (na := 0) (As := []) E (c_X6_knowTurns G σ) rfl (Nat.le_of_ble_eq_true rfl) rfl wq_501 wq_2 wq_498 wq_499 wq_500 rfl rfl (by decide) ⟨Nat.le_of_ble_eq_true rfl, Nat.le_of_ble_eq_true rfl⟩ rfl rfl (Nat.le_of_ble_eq_true rfl) dX6_knowComing_8 hf (fun σ2 hf => ?_)
    refine x_aload_n 0 (pc := 11) (i := 0) E dX6_knowComing_11 rfl rfl ?_
    refine x_getR (pc := 12) (r := 55) (p := 12) E rfl (Nat.le_of_ble_eq_true rfl) rfl inlX6 (by decide) rfl wq_43 dX6_knowComing_12 ?_
    refine x_aload_n 0 (pc := 15) (i := 0) E dX6_knowComing_15 rfl rfl ?_
    refine x_getR (pc := 16) (r := 1) (p := 0) E rfl (Nat.le_of_ble_eq_true rfl) rfl inlX6 (by decide) rfl wq_17 dX6_knowComing_16 ?_
    refine x_callVNwv (pc := 19) (na := 1) (As := [.ref (gad G 1)]) E (c_X1_goBack G σ2) rfl (Nat.le_of_ble_eq_true rfl) rfl wq_713 wq_42 wn_52 wq_711 wq_712 rfl rfl (by decide) ⟨Nat.le_of_ble_eq_true rfl, Nat.le_of_ble_eq_true rfl⟩ rfl rfl (Nat.le_of_ble_eq_true rfl) dX6_knowComing_19 hf (fun σ4 hf => ?_)
    refine x_aload_n 0 (pc := 22) (i := 0) E dX6_knowComing_22 rfl rfl ?_
    refine x_iconst (pc := 23) (v := (1 : Int32)) E dX6_knowComing_23 rfl ?_
    refine x_putZ (pc := 24) (p := 15) E rfl (Nat.le_of_ble_eq_true rfl) rfl inlX6 tyX6_ok nmX6 (by decide) rfl rfl rfl wq_140 dX6_knowComing_24 hf (fun σ5 hf => ?_)
    obtain rfl := Option.some.inj hf
    exact x_vret (pc := 27) E hR dX6_knowComing_27
set_option maxHeartbeats 4000000 in
set_option maxRecDepth 100000 in
theorem c_X1_jury (G : Gx) (σ : MM) (r : Int32) (hf : f_X1_jury σ = some r) : Ct shS 56 yX1_jury cX1_jury 1 (some .int) rm_X1_jury G [.ref (gad G 55)] σ (some (.int r)) σ := by
  refine ct_of (by decide) (Nat.le_of_ble_eq_true rfl) (fun K E hR => ?_)
  have E : OKc 56 cX1_jury 1 RX1 G K := E
  show XJ shS 56 1 rm_X1_jury G K σ [(0, .ref (gad G 55))] 0 []
  unfold f_X1_jury at hf
  refine x_aload_n 0 (pc := 0) (i := 0) E dX1_jury_0 rfl rfl ?_
  refine x_getI (pc := 1) (p := 6) E rfl (Nat.le_of_ble_eq_true rfl) rfl inlX1 (by decide) rfl wq_718 dX1_jury_1 ?_
  refine x_sipush (pc := 4) (v := (4095 : Int32)) E dX1_jury_4 rfl ?_
  refine x_iand (pc := 7) E dX1_jury_7 ?_
  obtain rfl := Option.some.inj hf
  exact x_iret (pc := 8) E hR dX1_jury_8
set_option maxHeartbeats 4000000 in
set_option maxRecDepth 100000 in
theorem c_X6_coming (G : Gx) (σ : MM) (r : Int64) (σ' : MM) (hf : f_X6_coming σ = some (r, σ')) : Ct shS 56 yX6_coming cX6_coming 1 (some .long) rm_X6_coming G [.ref (gad G 0)] σ (some (.long r)) σ' := by
  refine ct_of (by decide) (Nat.le_of_ble_eq_true rfl) (fun K E hR => ?_)
  have E : OKc 56 cX6_coming 1 RX6 G K := E
  show XJ shS 56 1 rm_X6_coming G K σ [(0, .ref (gad G 0))] 0 []
  unfold f_X6_coming at hf
  refine x_aload_n 0 (pc := 0) (i := 0) E dX6_coming_0 rfl rfl ?_
  refine x_getR (pc := 1) (r := 1) (p := 0) E rfl (Nat.le_of_ble_eq_true rfl) rfl inlX6 (by decide) rfl wq_17 dX6_coming_1 ?_
  refine x_callVNri (pc := 4) (na := 0) (As := []) E (c_X0_called G σ) rfl (Nat.le_of_ble_eq_true rfl) rfl wq_488 wq_16 wn_40 wq_486 wq_487 rfl rfl (by decide) ⟨Nat.le_of_ble_eq_true rfl, Nat.le_of_ble_eq_true rfl⟩ rfl rfl (Nat.le_of_ble_eq_true rfl) dX6_coming_4 hf (fun r1 hf => ?_)
  refine x_if_ne (y := 0) (pc := 7) (tgt := 17) E dX6_coming_7 (by decide) hf (fun hf => ?_) (fun hf => ?_)
  · refine x_aload_n 0 (pc := 17) (i := 0) E dX6_coming_17 rfl rfl ?_
    refine x_callVwv (pc := 18) (na := 0) (As := []) E (c_X6_knowComing G σ) rfl (Nat.le_of_ble_eq_true rfl) rfl wq_710 wq_2 wq_707 wq_708 wq_709 rfl rfl (by decide) ⟨Nat.le_of_ble_eq_true rfl, Nat.le_of_ble_eq_true rfl⟩ rfl rfl (Nat.le_of_ble_eq_true rfl) dX6_coming_18 hf (fun σ3 hf => ?_)
    refine x_aload_n 0 (pc := 21) (i := 0) E dX6_coming_21 rfl rfl ?_
    refine x_getR (pc := 22) (r := 42) (p := 9) E rfl (Nat.le_of_ble_eq_true rfl) rfl inlX6 (by decide) rfl wq_34 dX6_coming_22 ?_
    refine x_aload_n 0 (pc := 25) (i := 0) E dX6_coming_25 rfl rfl ?_
    refine x_getR (pc := 26) (r := 55) (p := 12) E rfl (Nat.le_of_ble_eq_true rfl) rfl inlX6 (by decide) rfl wq_43 dX6_coming_26 ?_
    refine x_callVNri (pc := 29) (na := 0) (As := []) E (c_X1_jury G σ3) rfl (Nat.le_of_ble_eq_true rfl) rfl wq_746 wq_42 wn_58 wq_744 wq_745 rfl rfl (by decide) ⟨Nat.le_of_ble_eq_true rfl, Nat.le_of_ble_eq_true rfl⟩ rfl rfl (Nat.le_of_ble_eq_true rfl) dX6_coming_29 hf (fun r4 hf => ?_)
    refine x_callVNrl (pc := 32) (na := 1) (As := [.int r4]) E (c_X5_valueOf G 42 (Or.inl rfl) r4 σ3) rfl (Nat.le_of_ble_eq_true rfl) rfl wq_440 wq_33 wn_38 wq_438 wq_439 rfl rfl (by decide) ⟨Nat.le_of_ble_eq_true rfl, Nat.le_of_ble_eq_true rfl⟩ rfl rfl (Nat.le_of_ble_eq_true rfl) dX6_coming_32 hf (fun r5 hf => ?_)
    obtain ⟨rfl, rfl⟩ := Prod.mk.inj (Option.some.inj hf)
    exact x_lret (pc := 35) E hR dX6_coming_35
  · refine x_aload_n 0 (pc := 10) (i := 0) E dX6_coming_10 rfl rfl ?_
    refine x_bipush (pc := 11) (v := (-3 : Int32)) E dX6_coming_11 rfl ?_
    refine x_callVwl (pc := 13) (na := 1) (As := [.int (-3 : Int32)]) E (c_X6_refuseLong G (-3 : Int32) σ) rfl (Nat.le_of_ble_eq_true rfl) rfl wq_316 wq_2 wq_313 wq_314 wq_315 rfl rfl (by decide) ⟨Nat.le_of_ble_eq_true rfl, Nat.le_of_ble_eq_true rfl⟩ rfl rfl (Nat.le_of_ble_eq_true rfl) dX6_coming_13 hf (fun r6 σ7 hf => ?_)
    obtain ⟨rfl, rfl⟩ := Prod.mk.inj (Option.some.inj hf)
    exact x_lret (pc := 16) E hR dX6_coming_16
set_option maxHeartbeats 4000000 in
set_option maxRecDepth 100000 in
theorem c_X1_keptBack (G : Gx) (v1 : Int32) (σ : MM) (r : Int32) (hf : f_X1_keptBack v1 σ = some r) : Ct shS 56 yX1_keptBack cX1_keptBack 2 (some .int) rm_X1_keptBack G [.ref (gad G 55), .int v1] σ (some (.int r)) σ := by
  refine ct_of (by decide) (Nat.le_of_ble_eq_true rfl) (fun K E hR => ?_)
  have E : OKc 56 cX1_keptBack 2 RX1 G K := E
  show XJ shS 56 2 rm_X1_keptBack G K σ [(0, .ref (gad G 55)), (1, .int v1)] 0 []
  unfold f_X1_keptBack at hf
  refine x_aload_n 0 (pc := 0) (i := 0) E dX1_keptBack_0 rfl rfl ?_
  refine x_getI (pc := 1) (p := 6) E rfl (Nat.le_of_ble_eq_true rfl) rfl inlX1 (by decide) rfl wq_718 dX1_keptBack_1 ?_
  refine x_iload_n 1 (pc := 4) (i := 1) E dX1_keptBack_4 rfl rfl ?_
  refine x_if_ne (y := 0) (pc := 5) (tgt := 13) E dX1_keptBack_5 (by decide) hf (fun hf => ?_) (fun hf => ?_)
  · refine x_bipush (pc := 13) (v := (14 : Int32)) E dX1_keptBack_13 rfl ?_
    refine x_ishr (pc := 15) E dX1_keptBack_15 ?_
    refine x_iconst (pc := 16) (v := (3 : Int32)) E dX1_keptBack_16 rfl ?_
    refine x_iand (pc := 17) E dX1_keptBack_17 ?_
    obtain rfl := Option.some.inj hf
    exact x_iret (pc := 18) E hR dX1_keptBack_18
  · refine x_bipush (pc := 8) (v := (12 : Int32)) E dX1_keptBack_8 rfl ?_
    refine x_goto (pc := 10) (tgt := 15) E dX1_keptBack_10 (by decide) ?_
    refine x_ishr (pc := 15) E dX1_keptBack_15 ?_
    refine x_iconst (pc := 16) (v := (3 : Int32)) E dX1_keptBack_16 rfl ?_
    refine x_iand (pc := 17) E dX1_keptBack_17 ?_
    obtain rfl := Option.some.inj hf
    exact x_iret (pc := 18) E hR dX1_keptBack_18
set_option maxHeartbeats 4000000 in
set_option maxRecDepth 100000 in
theorem c_X6_come (G : Gx) (v1 : Int32) (σ : MM) (r : Int32) (σ' : MM) (hf : f_X6_come v1 σ = some (r, σ')) : Ct shS 56 yX6_come cX6_come 2 (some .int) rm_X6_come G [.ref (gad G 0), .int v1] σ (some (.int r)) σ' := by
  refine ct_of (by decide) (Nat.le_of_ble_eq_true rfl) (fun K E hR => ?_)
  have E : OKc 56 cX6_come 2 RX6 G K := E
  show XJ shS 56 2 rm_X6_come G K σ [(0, .ref (gad G 0)), (1, .int v1)] 0 []
  unfold f_X6_come at hf
  refine x_iload_n 1 (pc := 0) (i := 1) E dX6_come_0 rfl rfl ?_
  refine x_if_lt (y := 0) (pc := 1) (tgt := 9) E dX6_come_1 (by decide) hf (fun hf => ?_) (fun hf => ?_)
  · refine x_aload_n 0 (pc := 9) (i := 0) E dX6_come_9 rfl rfl ?_
    refine x_bipush (pc := 10) (v := (-2 : Int32)) E dX6_come_10 rfl ?_
    refine x_callVwi (pc := 12) (na := 1) (As := [.int (-2 : Int32)]) E (c_X6_refuse G (-2 : Int32) σ) rfl (Nat.le_of_ble_eq_true rfl) rfl wq_133 wq_2 wq_130 wq_131 wq_132 rfl rfl (by decide) ⟨Nat.le_of_ble_eq_true rfl, Nat.le_of_ble_eq_true rfl⟩ rfl rfl (Nat.le_of_ble_eq_true rfl) dX6_come_12 hf (fun r1 σ2 hf => ?_)
    obtain ⟨rfl, rfl⟩ := Prod.mk.inj (Option.some.inj hf)
    exact x_iret (pc := 15) E hR dX6_come_15
  · refine x_iload_n 1 (pc := 4) (i := 1) E dX6_come_4 rfl rfl ?_
    refine x_iconst (pc := 5) (v := (2 : Int32)) E dX6_come_5 rfl ?_
    refine x_icmp_le (pc := 6) (tgt := 16) E dX6_come_6 (by decide) hf (fun hf => ?_) (fun hf => ?_)
    · refine x_aload_n 0 (pc := 16) (i := 0) E dX6_come_16 rfl rfl ?_
      refine x_getR (pc := 17) (r := 1) (p := 0) E rfl (Nat.le_of_ble_eq_true rfl) rfl inlX6 (by decide) rfl wq_17 dX6_come_17 ?_
      refine x_callVNri (pc := 20) (na := 0) (As := []) E (c_X0_called G σ) rfl (Nat.le_of_ble_eq_true rfl) rfl wq_488 wq_16 wn_40 wq_486 wq_487 rfl rfl (by decide) ⟨Nat.le_of_ble_eq_true rfl, Nat.le_of_ble_eq_true rfl⟩ rfl rfl (Nat.le_of_ble_eq_true rfl) dX6_come_20 hf (fun r3 hf => ?_)
      refine x_if_ne (y := 0) (pc := 23) (tgt := 33) E dX6_come_23 (by decide) hf (fun hf => ?_) (fun hf => ?_)
      · refine x_aload_n 0 (pc := 33) (i := 0) E dX6_come_33 rfl rfl ?_
        refine x_callVwv (pc := 34) (na := 0) (As := []) E (c_X6_knowComing G σ) rfl (Nat.le_of_ble_eq_true rfl) rfl wq_710 wq_2 wq_707 wq_708 wq_709 rfl rfl (by decide) ⟨Nat.le_of_ble_eq_true rfl, Nat.le_of_ble_eq_true rfl⟩ rfl rfl (Nat.le_of_ble_eq_true rfl) dX6_come_34 hf (fun σ5 hf => ?_)
        refine x_iload_n 1 (pc := 37) (i := 1) E dX6_come_37 rfl rfl ?_
        refine x_if_ne (y := 0) (pc := 38) (tgt := 51) E dX6_come_38 (by decide) hf (fun hf => ?_) (fun hf => ?_)
        · refine x_aload_n 0 (pc := 51) (i := 0) E dX6_come_51 rfl rfl ?_
          refine x_getR (pc := 52) (r := 55) (p := 12) E rfl (Nat.le_of_ble_eq_true rfl) rfl inlX6 (by decide) rfl wq_43 dX6_come_52 ?_
          refine x_iload_n 1 (pc := 55) (i := 1) E dX6_come_55 rfl rfl ?_
          refine x_iconst (pc := 56) (v := (1 : Int32)) E dX6_come_56 rfl ?_
          obtain ⟨o6, hf8, hf⟩ := bind_some hf
          have hJ7 : XJ shS 56 2 rm_X6_come G K σ5 [] 65 [.int o6, .ref (gad G 55)] := by
            refine x_callVNri (pc := 65) (na := 1) (As := [.int o6]) E (c_X1_keptBack G o6 σ5) rfl (Nat.le_of_ble_eq_true rfl) rfl wq_789 wq_42 wn_59 wq_787 wq_788 rfl rfl (by decide) ⟨Nat.le_of_ble_eq_true rfl, Nat.le_of_ble_eq_true rfl⟩ rfl rfl (Nat.le_of_ble_eq_true rfl) dX6_come_65 hf (fun r9 hf => ?_)
            obtain ⟨rfl, rfl⟩ := Prod.mk.inj (Option.some.inj hf)
            exact x_iret (pc := 68) E hR dX6_come_68
          refine x_icmp_ne (pc := 57) (tgt := 64) E dX6_come_57 (by decide) hf8 (fun hf8 => ?_) (fun hf8 => ?_)
          · refine x_iconst (pc := 64) (v := (1 : Int32)) E dX6_come_64 rfl ?_
            obtain rfl := Option.some.inj hf8
            exact x_sub [] rfl hJ7
          · refine x_iconst (pc := 60) (v := (0 : Int32)) E dX6_come_60 rfl ?_
            refine x_goto (pc := 61) (tgt := 65) E dX6_come_61 (by decide) ?_
            obtain rfl := Option.some.inj hf8
            exact x_sub [] rfl hJ7
        · refine x_aload_n 0 (pc := 41) (i := 0) E dX6_come_41 rfl rfl ?_
          refine x_getR (pc := 42) (r := 55) (p := 12) E rfl (Nat.le_of_ble_eq_true rfl) rfl inlX6 (by decide) rfl wq_43 dX6_come_42 ?_
          refine x_callVNri (pc := 45) (na := 0) (As := []) E (c_X1_jury G σ5) rfl (Nat.le_of_ble_eq_true rfl) rfl wq_746 wq_42 wn_58 wq_744 wq_745 rfl rfl (by decide) ⟨Nat.le_of_ble_eq_true rfl, Nat.le_of_ble_eq_true rfl⟩ rfl rfl (Nat.le_of_ble_eq_true rfl) dX6_come_45 hf (fun r10 hf => ?_)
          refine x_goto (pc := 48) (tgt := 68) E dX6_come_48 (by decide) ?_
          obtain ⟨rfl, rfl⟩ := Prod.mk.inj (Option.some.inj hf)
          exact x_iret (pc := 68) E hR dX6_come_68
      · refine x_aload_n 0 (pc := 26) (i := 0) E dX6_come_26 rfl rfl ?_
        refine x_bipush (pc := 27) (v := (-3 : Int32)) E dX6_come_27 rfl ?_
        refine x_callVwi (pc := 29) (na := 1) (As := [.int (-3 : Int32)]) E (c_X6_refuse G (-3 : Int32) σ) rfl (Nat.le_of_ble_eq_true rfl) rfl wq_133 wq_2 wq_130 wq_131 wq_132 rfl rfl (by decide) ⟨Nat.le_of_ble_eq_true rfl, Nat.le_of_ble_eq_true rfl⟩ rfl rfl (Nat.le_of_ble_eq_true rfl) dX6_come_29 hf (fun r11 σ12 hf => ?_)
        obtain ⟨rfl, rfl⟩ := Prod.mk.inj (Option.some.inj hf)
        exact x_iret (pc := 32) E hR dX6_come_32
    · refine x_aload_n 0 (pc := 9) (i := 0) E dX6_come_9 rfl rfl ?_
      refine x_bipush (pc := 10) (v := (-2 : Int32)) E dX6_come_10 rfl ?_
      refine x_callVwi (pc := 12) (na := 1) (As := [.int (-2 : Int32)]) E (c_X6_refuse G (-2 : Int32) σ) rfl (Nat.le_of_ble_eq_true rfl) rfl wq_133 wq_2 wq_130 wq_131 wq_132 rfl rfl (by decide) ⟨Nat.le_of_ble_eq_true rfl, Nat.le_of_ble_eq_true rfl⟩ rfl rfl (Nat.le_of_ble_eq_true rfl) dX6_come_12 hf (fun r13 σ14 hf => ?_)
      obtain ⟨rfl, rfl⟩ := Prod.mk.inj (Option.some.inj hf)
      exact x_iret (pc := 15) E hR dX6_come_15
set_option maxHeartbeats 4000000 in
set_option maxRecDepth 100000 in
theorem l_X6_ways_16 (G : Gx) {K : Kx}   (v0 : Int32) (v1 : Int32) (σ : MM) (E : OKc 56 cX6_ways 5 RX6 G K) : ∀ (m : Nat) (v2 : Int64) (v4 : Int32) (out : Int64), loopN (fun s => g_X6_ways_16 v0 v1 s.1 s.2 σ) m (v2, v4) = some out → XJ shS 56 5 rm_X6_ways G K σ [(2, .long out)] 42 [] → XJ shS 56 5 rm_X6_ways G K σ [(0, .int v0), (1, .int v1), (2, .long v2), (4, .int v4)] 16 [] := by
  intro m
  induction m with
  | zero => intro v2 v4 out hf; exact (loopN_0 hf).elim
  | succ m ih =>
    intro v2 v4 out hf hk
    obtain ⟨q, hf, h2⟩ := loopN_s hf
    have hf : g_X6_ways_16 v0 v1 v2 v4 σ = some q := hf
    unfold g_X6_ways_16 at hf
    refine x_iload 3 (pc := 16) E dX6_ways_16 rfl ?_
    refine x_iload_n 1 (pc := 18) (i := 1) E dX6_ways_18 rfl rfl ?_
    refine x_icmp_gt (pc := 19) (tgt := 42) E dX6_ways_19 (by decide) hf (fun hf => ?_) (fun hf => ?_)
    · obtain rfl := Option.some.inj hf
      obtain rfl := lpk_r h2
      exact x_sub [2] rfl hk
    · refine x_lload_n 2 (pc := 22) (i := 2) E dX6_ways_22 rfl rfl ?_
      refine x_iload_n 0 (pc := 23) (i := 0) E dX6_ways_23 rfl rfl ?_
      refine x_iload_n 1 (pc := 24) (i := 1) E dX6_ways_24 rfl rfl ?_
      refine x_isub (pc := 25) E dX6_ways_25 ?_
      refine x_iload 3 (pc := 26) E dX6_ways_26 rfl ?_
      refine x_iadd (pc := 28) E dX6_ways_28 ?_
      refine x_i2l (pc := 29) E dX6_ways_29 ?_
      refine x_lmul (pc := 30) E dX6_ways_30 ?_
      refine x_iload 3 (pc := 31) E dX6_ways_31 rfl ?_
      refine x_i2l (pc := 33) E dX6_ways_33 ?_
      refine x_ldiv (pc := 34) E dX6_ways_34 hf (fun hf => ?_)
      refine x_lstore_n (pc := 35) (lv' := [(2, .long ((v2 * (((v0 - v1) + v4).toInt64)) / v4.toInt64)), (0, .int v0), (1, .int v1), (4, .int v4)]) E dX6_ways_35 rfl (by decide) rfl ?_
      refine x_iinc 3 (pc := 36) (v := v4 + 1) (lv' := [(4, .int (v4 + 1)), (2, .long ((v2 * (((v0 - v1) + v4).toInt64)) / v4.toInt64)), (0, .int v0), (1, .int v1)]) E dX6_ways_36 rfl rfl (by decide) rfl ?_
      refine x_goto (pc := 39) (tgt := 16) E dX6_ways_39 (by decide) ?_
      obtain rfl := Option.some.inj hf
      exact x_sub [2, 3, 1, 0] rfl (ih _ _ _ (lpk_l h2) hk)
set_option maxHeartbeats 4000000 in
set_option maxRecDepth 100000 in
theorem c_X6_ways (G : Gx) (v0 : Int32) (v1 : Int32) (σ : MM) (r : Int64) (hf : f_X6_ways v0 v1 σ = some r) : Ct shS 56 yX6_ways cX6_ways 5 (some .long) rm_X6_ways G [.int v0, .int v1] σ (some (.long r)) σ := by
  refine ct_of (by decide) (Nat.le_of_ble_eq_true rfl) (fun K E hR => ?_)
  have E : OKc 56 cX6_ways 5 RX6 G K := E
  show XJ shS 56 5 rm_X6_ways G K σ [(0, .int v0), (1, .int v1)] 0 []
  unfold f_X6_ways at hf
  refine x_iload_n 1 (pc := 0) (i := 1) E dX6_ways_0 rfl rfl ?_
  refine x_if_lt (y := 0) (pc := 1) (tgt := 9) E dX6_ways_1 (by decide) hf (fun hf => ?_) (fun hf => ?_)
  · refine x_lconst (pc := 9) (v := 0) E dX6_ways_9 rfl ?_
    obtain rfl := Option.some.inj hf
    exact x_lret (pc := 10) E hR dX6_ways_10
  · refine x_iload_n 1 (pc := 4) (i := 1) E dX6_ways_4 rfl rfl ?_
    refine x_iload_n 0 (pc := 5) (i := 0) E dX6_ways_5 rfl rfl ?_
    refine x_icmp_le (pc := 6) (tgt := 11) E dX6_ways_6 (by decide) hf (fun hf => ?_) (fun hf => ?_)
    · refine x_lconst (pc := 11) (v := 1) E dX6_ways_11 rfl ?_
      refine x_lstore_n (pc := 12) (lv' := [(2, .long (1 : Int64)), (0, .int v0), (1, .int v1)]) E dX6_ways_12 rfl (by decide) rfl ?_
      refine x_iconst (pc := 13) (v := (1 : Int32)) E dX6_ways_13 rfl ?_
      refine x_istore (pc := 14) (lv' := [(4, .int (1 : Int32)), (2, .long (1 : Int64)), (0, .int v0), (1, .int v1)]) E dX6_ways_14 (by decide) rfl ?_
      obtain ⟨o1, hl2, hf⟩ := bind_some hf
      refine x_sub [2, 3, 1, 0] rfl (l_X6_ways_16 G   v0 v1 σ E FU _ _ o1 hl2 ?_)
      refine x_lload_n 0 (pc := 42) (i := 2) E dX6_ways_42 rfl rfl ?_
      obtain rfl := Option.some.inj hf
      exact x_lret (pc := 43) E hR dX6_ways_43
    · refine x_lconst (pc := 9) (v := 0) E dX6_ways_9 rfl ?_
      obtain rfl := Option.some.inj hf
      exact x_lret (pc := 10) E hR dX6_ways_10
