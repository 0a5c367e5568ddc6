set_option maxHeartbeats 4000000 in
set_option maxRecDepth 100000 in
theorem l_X0_ofSort_4 (G : Gx) {K : Kx}   (v1 : Int32) (σ : MM) (E : OKc 56 cX0_ofSort 4 RX0 G K) : ∀ (m : Nat) (v2 : Int32) (v3 : Int32) (out : Int32), loopN (fun s => g_X0_ofSort_4 v1 s.1 s.2 σ) m (v2, v3) = some out → XJ shS 56 4 rm_X0_ofSort G K σ [(2, .int out)] 34 [] → XJ shS 56 4 rm_X0_ofSort G K σ [(0, .ref (gad G 1)), (1, .int v1), (2, .int v2), (3, .int v3)] 4 [] := by
  intro m
  induction m with
  | zero => intro v2 v3 out hf; exact (loopN_0 hf).elim
  | succ m ih =>
    intro v2 v3 out hf hk
    obtain ⟨q, hf, h2⟩ := loopN_s hf
    have hf : g_X0_ofSort_4 v1 v2 v3 σ = some q := hf
    unfold g_X0_ofSort_4 at hf
    refine x_iload_n 3 (pc := 4) (i := 3) E dX0_ofSort_4 rfl rfl ?_
    refine x_aload_n 0 (pc := 5) (i := 0) E dX0_ofSort_5 rfl rfl ?_
    refine x_getI (pc := 6) (p := 4) E rfl (Nat.le_of_ble_eq_true rfl) rfl inlX0 (by decide) rfl wq_159 dX0_ofSort_6 ?_
    refine x_icmp_ge (pc := 9) (tgt := 34) E dX0_ofSort_9 (by decide) hf (fun hf => ?_) (fun hf => ?_)
    · obtain rfl := Option.some.inj hf
      obtain rfl := lpk_r h2
      exact x_sub [2] rfl hk
    · refine x_aload_n 0 (pc := 12) (i := 0) E dX0_ofSort_12 rfl rfl ?_
      refine x_getR (pc := 13) (r := 4) (p := 2) E rfl (Nat.le_of_ble_eq_true rfl) rfl inlX0 (by decide) rfl wq_49 dX0_ofSort_13 ?_
      refine x_iload_n 3 (pc := 16) (i := 3) E dX0_ofSort_16 rfl rfl ?_
      refine x_iaload (pc := 17) E rfl (Nat.le_of_ble_eq_true rfl) dX0_ofSort_17 hf (fun hf => ?_)
      refine x_iload_n 1 (pc := 18) (i := 1) E dX0_ofSort_18 rfl rfl ?_
      refine x_icmp_ne (pc := 19) (tgt := 28) E dX0_ofSort_19 (by decide) hf (fun hf => ?_) (fun hf => ?_)
      · refine x_iinc 3 (pc := 28) (v := v3 + 1) (lv' := [(3, .int (v3 + 1)), (0, .ref (gad G 1)), (1, .int v1), (2, .int v2)]) E dX0_ofSort_28 rfl rfl (by decide) rfl ?_
        refine x_goto (pc := 31) (tgt := 4) E dX0_ofSort_31 (by decide) ?_
        obtain rfl := Option.some.inj hf
        exact x_sub [1, 2, 3, 0] rfl (ih _ _ _ (lpk_l h2) hk)
      · refine x_iload_n 2 (pc := 22) (i := 2) E dX0_ofSort_22 rfl rfl ?_
        refine x_iconst (pc := 23) (v := (1 : Int32)) E dX0_ofSort_23 rfl ?_
        refine x_iload_n 3 (pc := 24) (i := 3) E dX0_ofSort_24 rfl rfl ?_
        refine x_ishl (pc := 25) E dX0_ofSort_25 ?_
        refine x_ior (pc := 26) E dX0_ofSort_26 ?_
        refine x_istore_n (pc := 27) (lv' := [(2, .int (v2 ||| ((1 : Int32) <<< (v3 &&& 31)))), (0, .ref (gad G 1)), (1, .int v1), (3, .int v3)]) E dX0_ofSort_27 rfl (by decide) rfl ?_
        refine x_iinc 3 (pc := 28) (v := v3 + 1) (lv' := [(3, .int (v3 + 1)), (2, .int (v2 ||| ((1 : Int32) <<< (v3 &&& 31)))), (0, .ref (gad G 1)), (1, .int v1)]) E dX0_ofSort_28 rfl rfl (by decide) rfl ?_
        refine x_goto (pc := 31) (tgt := 4) E dX0_ofSort_31 (by decide) ?_
        obtain rfl := Option.some.inj hf
        exact x_sub [2, 3, 1, 0] rfl (ih _ _ _ (lpk_l h2) hk)
set_option maxHeartbeats 4000000 in
set_option maxRecDepth 100000 in
theorem c_X0_ofSort (G : Gx) (v1 : Int32) (σ : MM) (r : Int32) (hf : f_X0_ofSort v1 σ = some r) : Ct shS 56 yX0_ofSort cX0_ofSort 4 (some .int) rm_X0_ofSort G [.ref (gad G 1), .int v1] σ (some (.int r)) σ := by
  refine ct_of (by decide) (Nat.le_of_ble_eq_true rfl) (fun K E hR => ?_)
  have E : OKc 56 cX0_ofSort 4 RX0 G K := E
  show XJ shS 56 4 rm_X0_ofSort G K σ [(0, .ref (gad G 1)), (1, .int v1)] 0 []
  unfold f_X0_ofSort at hf
  refine x_iconst (pc := 0) (v := (0 : Int32)) E dX0_ofSort_0 rfl ?_
  refine x_istore_n (pc := 1) (lv' := [(2, .int (0 : Int32)), (0, .ref (gad G 1)), (1, .int v1)]) E dX0_ofSort_1 rfl (by decide) rfl ?_
  refine x_iconst (pc := 2) (v := (0 : Int32)) E dX0_ofSort_2 rfl ?_
  refine x_istore_n (pc := 3) (lv' := [(3, .int (0 : Int32)), (2, .int (0 : Int32)), (0, .ref (gad G 1)), (1, .int v1)]) E dX0_ofSort_3 rfl (by decide) rfl ?_
  obtain ⟨o1, hl2, hf⟩ := bind_some hf
  refine x_sub [2, 3, 1, 0] rfl (l_X0_ofSort_4 G   v1 σ E FU _ _ o1 hl2 ?_)
  refine x_iload_n 0 (pc := 34) (i := 2) E dX0_ofSort_34 rfl rfl ?_
  obtain rfl := Option.some.inj hf
  exact x_iret (pc := 35) E hR dX0_ofSort_35
set_option maxHeartbeats 4000000 in
set_option maxRecDepth 100000 in
theorem c_X0_sideAt (G : Gx) (v1 : Int32) (σ : MM) (r : Int32) (hf : f_X0_sideAt v1 σ = some r) : Ct shS 56 yX0_sideAt cX0_sideAt 2 (some .int) rm_X0_sideAt G [.ref (gad G 1), .int v1] σ (some (.int r)) σ := by
  refine ct_of (by decide) (Nat.le_of_ble_eq_true rfl) (fun K E hR => ?_)
  have E : OKc 56 cX0_sideAt 2 RX0 G K := E
  show XJ shS 56 2 rm_X0_sideAt G K σ [(0, .ref (gad G 1)), (1, .int v1)] 0 []
  unfold f_X0_sideAt at hf
  refine x_iload_n 1 (pc := 0) (i := 1) E dX0_sideAt_0 rfl rfl ?_
  refine x_aload_n 0 (pc := 1) (i := 0) E dX0_sideAt_1 rfl rfl ?_
  refine x_iconst (pc := 2) (v := (0 : Int32)) E dX0_sideAt_2 rfl ?_
  refine x_callVri (pc := 3) (na := 1) (As := [.int (0 : Int32)]) E (c_X0_strikesOf G (0 : Int32) σ) rfl (Nat.le_of_ble_eq_true rfl) rfl wq_508 wq_16 wq_818 wq_506 wq_507 rfl rfl (by decide) ⟨Nat.le_of_ble_eq_true rfl, Nat.le_of_ble_eq_true rfl⟩ rfl rfl (Nat.le_of_ble_eq_true rfl) dX0_sideAt_3 hf (fun r1 hf => ?_)
  refine x_aload_n 0 (pc := 6) (i := 0) E dX0_sideAt_6 rfl rfl ?_
  refine x_iconst (pc := 7) (v := (1 : Int32)) E dX0_sideAt_7 rfl ?_
  refine x_callVri (pc := 8) (na := 1) (As := [.int (1 : Int32)]) E (c_X0_strikesOf G (1 : Int32) σ) rfl (Nat.le_of_ble_eq_true rfl) rfl wq_508 wq_16 wq_818 wq_506 wq_507 rfl rfl (by decide) ⟨Nat.le_of_ble_eq_true rfl, Nat.le_of_ble_eq_true rfl⟩ rfl rfl (Nat.le_of_ble_eq_true rfl) dX0_sideAt_8 hf (fun r2 hf => ?_)
  refine x_iconst (pc := 11) (v := (0 : Int32)) E dX0_sideAt_11 rfl ?_
  refine x_callSNri (pc := 12) (na := 4) (As := [.int v1, .int r1, .int r2, .int (0 : Int32)]) E (c_X5_sideAt G v1 r1 r2 (0 : Int32) σ) wq_408 wq_33 wn_62 wq_407 rfl rfl (by decide) ⟨Nat.le_of_ble_eq_true rfl, Nat.le_of_ble_eq_true rfl⟩ rfl rfl (Nat.le_of_ble_eq_true rfl) dX0_sideAt_12 hf (fun r3 hf => ?_)
  obtain rfl := Option.some.inj hf
  exact x_iret (pc := 15) E hR dX0_sideAt_15
set_option maxHeartbeats 4000000 in
set_option maxRecDepth 100000 in
theorem l_X6_setsAsStruck_24 (G : Gx) {K : Kx}   (v1 : Int32) (v2 : Int32) (v4 : Int32) (σ : MM) (E : OKc 56 cX6_setsAsStruck 10 RX6 G K) : ∀ (m : Nat) (v5 : Int32) (v6 : Int32) (out : Int32), loopN (fun s => g_X6_setsAsStruck_24 v1 v2 v4 s.1 s.2 σ) m (v5, v6) = some out → XJ shS 56 10 rm_X6_setsAsStruck G K σ [(1, .int v1), (2, .int v2), (4, .int v4), (5, .int out)] 69 [] → XJ shS 56 10 rm_X6_setsAsStruck G K σ [(0, .ref (gad G 0)), (1, .int v1), (2, .int v2), (4, .int v4), (5, .int v5), (6, .int v6)] 24 [] := by
  intro m
  induction m with
  | zero => intro v5 v6 out hf; exact (loopN_0 hf).elim
  | succ m ih =>
    intro v5 v6 out hf hk
    obtain ⟨q, hf, h2⟩ := loopN_s hf
    have hf : g_X6_setsAsStruck_24 v1 v2 v4 v5 v6 σ = some q := hf
    unfold g_X6_setsAsStruck_24 at hf
    refine x_iload 5 (pc := 24) E dX6_setsAsStruck_24 rfl ?_
    refine x_aload_n 0 (pc := 26) (i := 0) E dX6_setsAsStruck_26 rfl rfl ?_
    refine x_getI (pc := 27) (p := 5) E rfl (Nat.le_of_ble_eq_true rfl) rfl inlX6 (by decide) rfl wq_551 dX6_setsAsStruck_27 ?_
    refine x_icmp_ge (pc := 30) (tgt := 69) E dX6_setsAsStruck_30 (by decide) hf (fun hf => ?_) (fun hf => ?_)
    · obtain rfl := Option.some.inj hf
      obtain rfl := lpk_r h2
      exact x_sub [1, 2, 3, 4] rfl hk
    · refine x_aload_n 0 (pc := 33) (i := 0) E dX6_setsAsStruck_33 rfl rfl ?_
      refine x_getR (pc := 34) (r := 1) (p := 0) E rfl (Nat.le_of_ble_eq_true rfl) rfl inlX6 (by decide) rfl wq_17 dX6_setsAsStruck_34 ?_
      refine x_iload 5 (pc := 37) E dX6_setsAsStruck_37 rfl ?_
      refine x_callVNri (pc := 39) (na := 1) (As := [.int v6]) E (c_X0_sideAt G v6 σ) rfl (Nat.le_of_ble_eq_true rfl) rfl wq_817 wq_16 wn_61 wq_815 wq_816 rfl rfl (by decide) ⟨Nat.le_of_ble_eq_true rfl, Nat.le_of_ble_eq_true rfl⟩ rfl rfl (Nat.le_of_ble_eq_true rfl) dX6_setsAsStruck_39 hf (fun r3 hf => ?_)
      refine x_if_ne (y := 0) (pc := 42) (tgt := 63) E dX6_setsAsStruck_42 (by decide) hf (fun hf => ?_) (fun hf => ?_)
      · refine x_iinc 5 (pc := 63) (v := v6 + 1) (lv' := [(6, .int (v6 + 1)), (0, .ref (gad G 0)), (1, .int v1), (2, .int v2), (4, .int v4), (5, .int v5)]) E dX6_setsAsStruck_63 rfl rfl (by decide) rfl ?_
        refine x_goto (pc := 66) (tgt := 24) E dX6_setsAsStruck_66 (by decide) ?_
        obtain rfl := Option.some.inj hf
        exact x_sub [1, 2, 3, 4, 5, 0] rfl (ih _ _ _ (lpk_l h2) hk)
      · refine x_iload 3 (pc := 45) E dX6_setsAsStruck_45 rfl ?_
        refine x_iconst (pc := 47) (v := (1 : Int32)) E dX6_setsAsStruck_47 rfl ?_
        refine x_aload_n 0 (pc := 48) (i := 0) E dX6_setsAsStruck_48 rfl rfl ?_
        refine x_getR (pc := 49) (r := 14) (p := 4) E rfl (Nat.le_of_ble_eq_true rfl) rfl inlX6 (by decide) rfl wq_24 dX6_setsAsStruck_49 ?_
        refine x_iload 5 (pc := 52) E dX6_setsAsStruck_52 rfl ?_
        refine x_iaload (pc := 54) E rfl (Nat.le_of_ble_eq_true rfl) dX6_setsAsStruck_54 hf (fun hf => ?_)
        refine x_ishl (pc := 55) E dX6_setsAsStruck_55 ?_
        refine x_iand (pc := 56) E dX6_setsAsStruck_56 ?_
        refine x_if_eq (y := 0) (pc := 57) (tgt := 63) E dX6_setsAsStruck_57 (by decide) hf (fun hf => ?_) (fun hf => ?_)
        · refine x_iinc 5 (pc := 63) (v := v6 + 1) (lv' := [(6, .int (v6 + 1)), (0, .ref (gad G 0)), (1, .int v1), (2, .int v2), (4, .int v4), (5, .int v5)]) E dX6_setsAsStruck_63 rfl rfl (by decide) rfl ?_
          refine x_goto (pc := 66) (tgt := 24) E dX6_setsAsStruck_66 (by decide) ?_
          obtain rfl := Option.some.inj hf
          exact x_sub [1, 2, 3, 4, 5, 0] rfl (ih _ _ _ (lpk_l h2) hk)
        · refine x_iinc 4 (pc := 60) (v := v5 + 1) (lv' := [(5, .int (v5 + 1)), (0, .ref (gad G 0)), (1, .int v1), (2, .int v2), (4, .int v4), (6, .int v6)]) E dX6_setsAsStruck_60 rfl rfl (by decide) rfl ?_
          refine x_iinc 5 (pc := 63) (v := v6 + 1) (lv' := [(6, .int (v6 + 1)), (5, .int (v5 + 1)), (0, .ref (gad G 0)), (1, .int v1), (2, .int v2), (4, .int v4)]) E dX6_setsAsStruck_63 rfl rfl (by decide) rfl ?_
          refine x_goto (pc := 66) (tgt := 24) E dX6_setsAsStruck_66 (by decide) ?_
          obtain rfl := Option.some.inj hf
          exact x_sub [2, 3, 4, 5, 1, 0] rfl (ih _ _ _ (lpk_l h2) hk)
set_option maxHeartbeats 4000000 in
set_option maxRecDepth 100000 in
theorem l_X6_setsAsStruck_83 (G : Gx) {K : Kx}   (v1 : Int32) (v2 : Int32) (v6 : Int32) (σ : MM) (E : OKc 56 cX6_setsAsStruck 10 RX6 G K) : ∀ (m : Nat) (v7 : Int64) (v9 : Int32) (out : Int64), loopN (fun s => g_X6_setsAsStruck_83 v1 v2 v6 s.1 s.2 σ) m (v7, v9) = some out → XJ shS 56 10 rm_X6_setsAsStruck G K σ [(7, .long out)] 119 [] → XJ shS 56 10 rm_X6_setsAsStruck G K σ [(1, .int v1), (2, .int v2), (6, .int v6), (7, .long v7), (9, .int v9)] 83 [] := by
  intro m
  induction m with
  | zero => intro v7 v9 out hf; exact (loopN_0 hf).elim
  | succ m ih =>
    intro v7 v9 out hf hk
    obtain ⟨q, hf, h2⟩ := loopN_s hf
    have hf : g_X6_setsAsStruck_83 v1 v2 v6 v7 v9 σ = some q := hf
    unfold g_X6_setsAsStruck_83 at hf
    refine x_iload 4 (pc := 83) E dX6_setsAsStruck_83 rfl ?_
    refine x_iload_n 1 (pc := 85) (i := 2) E dX6_setsAsStruck_85 rfl rfl ?_
    refine x_icmp_gt (pc := 86) (tgt := 119) E dX6_setsAsStruck_86 (by decide) hf (fun hf => ?_) (fun hf => ?_)
    · obtain rfl := Option.some.inj hf
      obtain rfl := lpk_r h2
      exact x_sub [3] rfl hk
    · refine x_lload 3 (pc := 89) E dX6_setsAsStruck_89 rfl ?_
      refine x_iload 2 (pc := 91) E dX6_setsAsStruck_91 rfl ?_
      refine x_iload 4 (pc := 93) E dX6_setsAsStruck_93 rfl ?_
      refine x_callSrl (pc := 95) (na := 2) (As := [.int v6, .int v9]) E (c_X6_ways G v6 v9 σ) wq_807 wq_2 wq_805 wq_806 rfl rfl (by decide) ⟨Nat.le_of_ble_eq_true rfl, Nat.le_of_ble_eq_true rfl⟩ rfl rfl (Nat.le_of_ble_eq_true rfl) dX6_setsAsStruck_95 hf (fun r7 hf => ?_)
      refine x_iload_n 0 (pc := 98) (i := 1) E dX6_setsAsStruck_98 rfl rfl ?_
      refine x_iload 2 (pc := 99) E dX6_setsAsStruck_99 rfl ?_
      refine x_isub (pc := 101) E dX6_setsAsStruck_101 ?_
      refine x_iload_n 1 (pc := 102) (i := 2) E dX6_setsAsStruck_102 rfl rfl ?_
      refine x_iload 4 (pc := 103) E dX6_setsAsStruck_103 rfl ?_
      refine x_isub (pc := 105) E dX6_setsAsStruck_105 ?_
      refine x_callSrl (pc := 106) (na := 2) (As := [.int (v1 - v6), .int (v2 - v9)]) E (c_X6_ways G (v1 - v6) (v2 - v9) σ) wq_807 wq_2 wq_805 wq_806 rfl rfl (by decide) ⟨Nat.le_of_ble_eq_true rfl, Nat.le_of_ble_eq_true rfl⟩ rfl rfl (Nat.le_of_ble_eq_true rfl) dX6_setsAsStruck_106 hf (fun r8 hf => ?_)
      refine x_lmul (pc := 109) E dX6_setsAsStruck_109 ?_
      refine x_ladd (pc := 110) E dX6_setsAsStruck_110 ?_
      refine x_lstore (pc := 111) (lv' := [(7, .long (v7 + (r7 * r8))), (1, .int v1), (2, .int v2), (6, .int v6), (9, .int v9)]) E dX6_setsAsStruck_111 (by decide) rfl ?_
      refine x_iinc 4 (pc := 113) (v := v9 + 1) (lv' := [(9, .int (v9 + 1)), (7, .long (v7 + (r7 * r8))), (1, .int v1), (2, .int v2), (6, .int v6)]) E dX6_setsAsStruck_113 rfl rfl (by decide) rfl ?_
      refine x_goto (pc := 116) (tgt := 83) E dX6_setsAsStruck_116 (by decide) ?_
      obtain rfl := Option.some.inj hf
      exact x_sub [2, 3, 4, 1, 0] rfl (ih _ _ _ (lpk_l h2) hk)
set_option maxHeartbeats 4000000 in
set_option maxRecDepth 100000 in
theorem c_X6_setsAsStruck (G : Gx) (v1 : Int32) (v2 : Int32) (v3 : Int32) (σ : MM) (r : Int64) (hf : f_X6_setsAsStruck v1 v2 v3 σ = some r) : Ct shS 56 yX6_setsAsStruck cX6_setsAsStruck 10 (some .long) rm_X6_setsAsStruck G [.ref (gad G 0), .int v1, .int v2, .int v3] σ (some (.long r)) σ := by
  refine ct_of (by decide) (Nat.le_of_ble_eq_true rfl) (fun K E hR => ?_)
  have E : OKc 56 cX6_setsAsStruck 10 RX6 G K := E
  show XJ shS 56 10 rm_X6_setsAsStruck G K σ [(0, .ref (gad G 0)), (1, .int v1), (2, .int v2), (3, .int v3)] 0 []
  unfold f_X6_setsAsStruck at hf
  refine x_aload_n 0 (pc := 0) (i := 0) E dX6_setsAsStruck_0 rfl rfl ?_
  refine x_getR (pc := 1) (r := 1) (p := 0) E rfl (Nat.le_of_ble_eq_true rfl) rfl inlX6 (by decide) rfl wq_17 dX6_setsAsStruck_1 ?_
  refine x_iload_n 3 (pc := 4) (i := 3) E dX6_setsAsStruck_4 rfl rfl ?_
  refine x_callVNri (pc := 5) (na := 1) (As := [.int v3]) E (c_X0_ofSort G v3 σ) rfl (Nat.le_of_ble_eq_true rfl) rfl wq_814 wq_16 wn_60 wq_812 wq_813 rfl rfl (by decide) ⟨Nat.le_of_ble_eq_true rfl, Nat.le_of_ble_eq_true rfl⟩ rfl rfl (Nat.le_of_ble_eq_true rfl) dX6_setsAsStruck_5 hf (fun r1 hf => ?_)
  refine x_aload_n 0 (pc := 8) (i := 0) E dX6_setsAsStruck_8 rfl rfl ?_
  refine x_getR (pc := 9) (r := 1) (p := 0) E rfl (Nat.le_of_ble_eq_true rfl) rfl inlX6 (by decide) rfl wq_17 dX6_setsAsStruck_9 ?_
  refine x_callVNri (pc := 12) (na := 0) (As := []) E (c_X0_calledSet G σ) rfl (Nat.le_of_ble_eq_true rfl) rfl wq_504 wq_16 wn_41 wq_502 wq_503 rfl rfl (by decide) ⟨Nat.le_of_ble_eq_true rfl, Nat.le_of_ble_eq_true rfl⟩ rfl rfl (Nat.le_of_ble_eq_true rfl) dX6_setsAsStruck_12 hf (fun r2 hf => ?_)
  refine x_iand (pc := 15) E dX6_setsAsStruck_15 ?_
  refine x_istore (pc := 16) (lv' := [(4, .int (r1 &&& r2)), (0, .ref (gad G 0)), (1, .int v1), (2, .int v2), (3, .int v3)]) E dX6_setsAsStruck_16 (by decide) rfl ?_
  refine x_iconst (pc := 18) (v := (0 : Int32)) E dX6_setsAsStruck_18 rfl ?_
  refine x_istore (pc := 19) (lv' := [(5, .int (0 : Int32)), (4, .int (r1 &&& r2)), (0, .ref (gad G 0)), (1, .int v1), (2, .int v2), (3, .int v3)]) E dX6_setsAsStruck_19 (by decide) rfl ?_
  refine x_iconst (pc := 21) (v := (0 : Int32)) E dX6_setsAsStruck_21 rfl ?_
  refine x_istore (pc := 22) (lv' := [(6, .int (0 : Int32)), (5, .int (0 : Int32)), (4, .int (r1 &&& r2)), (0, .ref (gad G 0)), (1, .int v1), (2, .int v2), (3, .int v3)]) E dX6_setsAsStruck_22 (by decide) rfl ?_
  obtain ⟨o4, hl5, hf⟩ := bind_some hf
  refine x_sub [3, 4, 5, 2, 1, 0] rfl (l_X6_setsAsStruck_24 G   v1 v2 (r1 &&& r2) σ E FU _ _ o4 hl5 ?_)
  refine x_iload 2 (pc := 69) E dX6_setsAsStruck_69 rfl ?_
  refine x_callSri (pc := 71) (na := 1) (As := [.int (r1 &&& r2)]) E (c_J6_bitCount_0f7a4 G (r1 &&& r2) σ) wq_309 wq_308 wq_306 wq_307 rfl rfl (by decide) ⟨Nat.le_of_ble_eq_true rfl, Nat.le_of_ble_eq_true rfl⟩ rfl rfl (Nat.le_of_ble_eq_true rfl) dX6_setsAsStruck_71 hf (fun r6 hf => ?_)
  refine x_istore (pc := 74) (lv' := [(6, .int r6), (1, .int v1), (2, .int v2), (4, .int (r1 &&& r2)), (5, .int o4)]) E dX6_setsAsStruck_74 (by decide) rfl ?_
  refine x_lconst (pc := 76) (v := 0) E dX6_setsAsStruck_76 rfl ?_
  refine x_lstore (pc := 77) (lv' := [(7, .long (0 : Int64)), (6, .int r6), (1, .int v1), (2, .int v2), (4, .int (r1 &&& r2)), (5, .int o4)]) E dX6_setsAsStruck_77 (by decide) rfl ?_
  refine x_iload 5 (pc := 79) E dX6_setsAsStruck_79 rfl ?_
  refine x_istore (pc := 81) (lv' := [(9, .int o4), (7, .long (0 : Int64)), (6, .int r6), (1, .int v1), (2, .int v2), (4, .int (r1 &&& r2)), (5, .int o4)]) E dX6_setsAsStruck_81 (by decide) rfl ?_
  obtain ⟨o9, hl10, hf⟩ := bind_some hf
  refine x_sub [3, 4, 2, 1, 0] rfl (l_X6_setsAsStruck_83 G   v1 v2 r6 σ E FU _ _ o9 hl10 ?_)
  refine x_lload 0 (pc := 119) E dX6_setsAsStruck_119 rfl ?_
  obtain rfl := Option.some.inj hf
  exact x_lret (pc := 121) E hR dX6_setsAsStruck_121
set_option maxHeartbeats 4000000 in
set_option maxRecDepth 100000 in
theorem c_X6_seldom (G : Gx) (v1 : Int32) (v2 : Int32) (σ : MM) (r : Int64) (σ' : MM) (hf : f_X6_seldom v1 v2 σ = some (r, σ')) : Ct shS 56 yX6_seldom cX6_seldom 5 (some .long) rm_X6_seldom G [.ref (gad G 0), .int v1, .int v2] σ (some (.long r)) σ' := by
  refine ct_of (by decide) (Nat.le_of_ble_eq_true rfl) (fun K E hR => ?_)
  have E : OKc 56 cX6_seldom 5 RX6 G K := E
  show XJ shS 56 5 rm_X6_seldom G K σ [(0, .ref (gad G 0)), (1, .int v1), (2, .int v2)] 0 []
  unfold f_X6_seldom at hf
  refine x_iload_n 1 (pc := 0) (i := 1) E dX6_seldom_0 rfl rfl ?_
  refine x_callSri (pc := 1) (na := 1) (As := [.int v1]) E (c_X6_isSort G v1 σ) wq_129 wq_2 wq_127 wq_128 rfl rfl (by decide) ⟨Nat.le_of_ble_eq_true rfl, Nat.le_of_ble_eq_true rfl⟩ rfl rfl (Nat.le_of_ble_eq_true rfl) dX6_seldom_1 hf (fun r1 hf => ?_)
  refine x_if_ne (y := 0) (pc := 4) (tgt := 13) E dX6_seldom_4 (by decide) hf (fun hf => ?_) (fun hf => ?_)
  · refine x_iload_n 2 (pc := 13) (i := 2) E dX6_seldom_13 rfl rfl ?_
    refine x_if_lt (y := 0) (pc := 14) (tgt := 22) E dX6_seldom_14 (by decide) hf (fun hf => ?_) (fun hf => ?_)
    · refine x_aload_n 0 (pc := 22) (i := 0) E dX6_seldom_22 rfl rfl ?_
      refine x_bipush (pc := 23) (v := (-2 : Int32)) E dX6_seldom_23 rfl ?_
      refine x_callVwl (pc := 25) (na := 1) (As := [.int (-2 : Int32)]) E (c_X6_refuseLong G (-2 : Int32) σ) rfl (Nat.le_of_ble_eq_true rfl) rfl wq_316 wq_2 wq_313 wq_314 wq_315 rfl rfl (by decide) ⟨Nat.le_of_ble_eq_true rfl, Nat.le_of_ble_eq_true rfl⟩ rfl rfl (Nat.le_of_ble_eq_true rfl) dX6_seldom_25 hf (fun r2 σ3 hf => ?_)
      obtain ⟨rfl, rfl⟩ := Prod.mk.inj (Option.some.inj hf)
      exact x_lret (pc := 28) E hR dX6_seldom_28
    · refine x_iload_n 2 (pc := 17) (i := 2) E dX6_seldom_17 rfl rfl ?_
      refine x_iconst (pc := 18) (v := (1 : Int32)) E dX6_seldom_18 rfl ?_
      refine x_icmp_le (pc := 19) (tgt := 29) E dX6_seldom_19 (by decide) hf (fun hf => ?_) (fun hf => ?_)
      · refine x_aload_n 0 (pc := 29) (i := 0) E dX6_seldom_29 rfl rfl ?_
        refine x_callVri (pc := 30) (na := 0) (As := []) E (c_X6_rowIsLawful G σ) rfl (Nat.le_of_ble_eq_true rfl) rfl wq_572 wq_2 wq_569 wq_570 wq_571 rfl rfl (by decide) ⟨Nat.le_of_ble_eq_true rfl, Nat.le_of_ble_eq_true rfl⟩ rfl rfl (Nat.le_of_ble_eq_true rfl) dX6_seldom_30 hf (fun r4 hf => ?_)
        refine x_if_ne (y := 0) (pc := 33) (tgt := 43) E dX6_seldom_33 (by decide) hf (fun hf => ?_) (fun hf => ?_)
        · refine x_aload_n 0 (pc := 43) (i := 0) E dX6_seldom_43 rfl rfl ?_
          refine x_getR (pc := 44) (r := 1) (p := 0) E rfl (Nat.le_of_ble_eq_true rfl) rfl inlX6 (by decide) rfl wq_17 dX6_seldom_44 ?_
          refine x_callVNri (pc := 47) (na := 0) (As := []) E (c_X0_called G σ) rfl (Nat.le_of_ble_eq_true rfl) rfl wq_488 wq_16 wn_40 wq_486 wq_487 rfl rfl (by decide) ⟨Nat.le_of_ble_eq_true rfl, Nat.le_of_ble_eq_true rfl⟩ rfl rfl (Nat.le_of_ble_eq_true rfl) dX6_seldom_47 hf (fun r5 hf => ?_)
          refine x_istore_n (pc := 50) (lv' := [(3, .int r5), (0, .ref (gad G 0)), (1, .int v1), (2, .int v2)]) E dX6_seldom_50 rfl (by decide) rfl ?_
          refine x_aload_n 1 (pc := 51) (i := 0) E dX6_seldom_51 rfl rfl ?_
          refine x_getR (pc := 52) (r := 1) (p := 0) E rfl (Nat.le_of_ble_eq_true rfl) rfl inlX6 (by decide) rfl wq_17 dX6_seldom_52 ?_
          refine x_iconst (pc := 55) (v := (0 : Int32)) E dX6_seldom_55 rfl ?_
          refine x_callVNri (pc := 56) (na := 1) (As := [.int (0 : Int32)]) E (c_X0_strikesOf G (0 : Int32) σ) rfl (Nat.le_of_ble_eq_true rfl) rfl wq_508 wq_16 wn_42 wq_506 wq_507 rfl rfl (by decide) ⟨Nat.le_of_ble_eq_true rfl, Nat.le_of_ble_eq_true rfl⟩ rfl rfl (Nat.le_of_ble_eq_true rfl) dX6_seldom_56 hf (fun r6 hf => ?_)
          refine x_istore (pc := 59) (lv' := [(4, .int r6), (3, .int r5), (0, .ref (gad G 0)), (1, .int v1), (2, .int v2)]) E dX6_seldom_59 (by decide) rfl ?_
          refine x_iload_n 4 (pc := 61) (i := 2) E dX6_seldom_61 rfl rfl ?_
          refine x_iconst (pc := 62) (v := (1 : Int32)) E dX6_seldom_62 rfl ?_
          refine x_icmp_ne (pc := 63) (tgt := 75) E dX6_seldom_63 (by decide) hf (fun hf => ?_) (fun hf => ?_)
          · refine x_aload_n 2 (pc := 75) (i := 0) E dX6_seldom_75 rfl rfl ?_
            refine x_iload_n 1 (pc := 76) (i := 3) E dX6_seldom_76 rfl rfl ?_
            refine x_iload 0 (pc := 77) E dX6_seldom_77 rfl ?_
            refine x_iload_n 3 (pc := 79) (i := 1) E dX6_seldom_79 rfl rfl ?_
            refine x_callVrl (pc := 80) (na := 3) (As := [.int r5, .int r6, .int v1]) E (c_X6_setsAsStruck G r5 r6 v1 σ) rfl (Nat.le_of_ble_eq_true rfl) rfl wq_811 wq_2 wq_808 wq_809 wq_810 rfl rfl (by decide) ⟨Nat.le_of_ble_eq_true rfl, Nat.le_of_ble_eq_true rfl⟩ rfl rfl (Nat.le_of_ble_eq_true rfl) dX6_seldom_80 hf (fun r7 hf => ?_)
            obtain ⟨rfl, rfl⟩ := Prod.mk.inj (Option.some.inj hf)
            exact x_lret (pc := 83) E hR dX6_seldom_83
          · refine x_iload_n 1 (pc := 66) (i := 3) E dX6_seldom_66 rfl rfl ?_
            refine x_iload 0 (pc := 67) E dX6_seldom_67 rfl ?_
            refine x_callSrl (pc := 69) (na := 2) (As := [.int r5, .int r6]) E (c_X6_ways G r5 r6 σ) wq_807 wq_2 wq_805 wq_806 rfl rfl (by decide) ⟨Nat.le_of_ble_eq_true rfl, Nat.le_of_ble_eq_true rfl⟩ rfl rfl (Nat.le_of_ble_eq_true rfl) dX6_seldom_69 hf (fun r8 hf => ?_)
            refine x_goto (pc := 72) (tgt := 83) E dX6_seldom_72 (by decide) ?_
            obtain ⟨rfl, rfl⟩ := Prod.mk.inj (Option.some.inj hf)
            exact x_lret (pc := 83) E hR dX6_seldom_83
        · refine x_aload_n 0 (pc := 36) (i := 0) E dX6_seldom_36 rfl rfl ?_
          refine x_bipush (pc := 37) (v := (-3 : Int32)) E dX6_seldom_37 rfl ?_
          refine x_callVwl (pc := 39) (na := 1) (As := [.int (-3 : Int32)]) E (c_X6_refuseLong G (-3 : Int32) σ) rfl (Nat.le_of_ble_eq_true rfl) rfl wq_316 wq_2 wq_313 wq_314 wq_315 rfl rfl (by decide) ⟨Nat.le_of_ble_eq_true rfl, Nat.le_of_ble_eq_true rfl⟩ rfl rfl (Nat.le_of_ble_eq_true rfl) dX6_seldom_39 hf (fun r9 σ10 hf => ?_)
          obtain ⟨rfl, rfl⟩ := Prod.mk.inj (Option.some.inj hf)
          exact x_lret (pc := 42) E hR dX6_seldom_42
      · refine x_aload_n 0 (pc := 22) (i := 0) E dX6_seldom_22 rfl rfl ?_
        refine x_bipush (pc := 23) (v := (-2 : Int32)) E dX6_seldom_23 rfl ?_
        refine x_callVwl (pc := 25) (na := 1) (As := [.int (-2 : Int32)]) E (c_X6_refuseLong G (-2 : Int32) σ) rfl (Nat.le_of_ble_eq_true rfl) rfl wq_316 wq_2 wq_313 wq_314 wq_315 rfl rfl (by decide) ⟨Nat.le_of_ble_eq_true rfl, Nat.le_of_ble_eq_true rfl⟩ rfl rfl (Nat.le_of_ble_eq_true rfl) dX6_seldom_25 hf (fun r11 σ12 hf => ?_)
        obtain ⟨rfl, rfl⟩ := Prod.mk.inj (Option.some.inj hf)
        exact x_lret (pc := 28) E hR dX6_seldom_28
  · refine x_aload_n 0 (pc := 7) (i := 0) E dX6_seldom_7 rfl rfl ?_
    refine x_iconst (pc := 8) (v := (-1 : Int32)) E dX6_seldom_8 rfl ?_
    refine x_callVwl (pc := 9) (na := 1) (As := [.int (-1 : Int32)]) E (c_X6_refuseLong G (-1 : Int32) σ) rfl (Nat.le_of_ble_eq_true rfl) rfl wq_316 wq_2 wq_313 wq_314 wq_315 rfl rfl (by decide) ⟨Nat.le_of_ble_eq_true rfl, Nat.le_of_ble_eq_true rfl⟩ rfl rfl (Nat.le_of_ble_eq_true rfl) dX6_seldom_9 hf (fun r13 σ14 hf => ?_)
    obtain ⟨rfl, rfl⟩ := Prod.mk.inj (Option.some.inj hf)
    exact x_lret (pc := 12) E hR dX6_seldom_12
set_option maxHeartbeats 4000000 in
set_option maxRecDepth 100000 in
theorem l_X5_juryAtLast_7 (G : Gx) {K : Kx}    (σ : MM) (E : OKc 56 cX5_juryAtLast 3 RX5 G K) : ∀ (m : Nat) (v1 : Int32) (v2 : Int32) (out : Int32), loopN (fun s => g_X5_juryAtLast_7 s.1 s.2 σ) m (v1, v2) = some out → XJ shS 56 3 rm_X5_juryAtLast G K σ [(1, .int out)] 33 [] → XJ shS 56 3 rm_X5_juryAtLast G K σ [(0, .ref (gad G 42)), (1, .int v1), (2, .int v2)] 7 [] := by
  intro m
  induction m with
  | zero => intro v1 v2 out hf; exact (loopN_0 hf).elim
  | succ m ih =>
    intro v1 v2 out hf hk
    obtain ⟨q, hf, h2⟩ := loopN_s hf
    have hf : g_X5_juryAtLast_7 v1 v2 σ = some q := hf
    unfold g_X5_juryAtLast_7 at hf
    refine x_iload_n 2 (pc := 7) (i := 2) E dX5_juryAtLast_7 rfl rfl ?_
    refine x_aload_n 0 (pc := 8) (i := 0) E dX5_juryAtLast_8 rfl rfl ?_
    refine x_getI (pc := 9) (p := 4) E rfl (Nat.le_of_ble_eq_true rfl) rfl inlX5 (by decide) rfl wq_404 dX5_juryAtLast_9 ?_
    refine x_icmp_ge (pc := 12) (tgt := 33) E dX5_juryAtLast_12 (by decide) hf (fun hf => ?_) (fun hf => ?_)
    · obtain rfl := Option.some.inj hf
      obtain rfl := lpk_r h2
      exact x_sub [1] rfl hk
    · refine x_iload_n 1 (pc := 15) (i := 1) E dX5_juryAtLast_15 rfl rfl ?_
      refine x_iconst (pc := 16) (v := (1 : Int32)) E dX5_juryAtLast_16 rfl ?_
      refine x_aload_n 0 (pc := 17) (i := 0) E dX5_juryAtLast_17 rfl rfl ?_
      refine x_iload_n 1 (pc := 18) (i := 1) E dX5_juryAtLast_18 rfl rfl ?_
      refine x_callVri (pc := 19) (na := 1) (As := [.int v1]) E (c_X5_strikeFrom G 42 (Or.inl rfl) v1 σ) rfl (Nat.le_of_ble_eq_true rfl) rfl wq_473 wq_33 wq_833 wq_471 wq_472 rfl rfl (by decide) ⟨Nat.le_of_ble_eq_true rfl, Nat.le_of_ble_eq_true rfl⟩ rfl rfl (Nat.le_of_ble_eq_true rfl) dX5_juryAtLast_19 hf (fun r1 hf => ?_)
      refine x_ishl (pc := 22) E dX5_juryAtLast_22 ?_
      refine x_iconst (pc := 23) (v := (-1 : Int32)) E dX5_juryAtLast_23 rfl ?_
      refine x_ixor (pc := 24) E dX5_juryAtLast_24 ?_
      refine x_iand (pc := 25) E dX5_juryAtLast_25 ?_
      refine x_istore_n (pc := 26) (lv' := [(1, .int (v1 &&& (((1 : Int32) <<< (r1 &&& 31)) ^^^ (-1 : Int32)))), (0, .ref (gad G 42)), (2, .int v2)]) E dX5_juryAtLast_26 rfl (by decide) rfl ?_
      refine x_iinc 2 (pc := 27) (v := v2 + 1) (lv' := [(2, .int (v2 + 1)), (1, .int (v1 &&& (((1 : Int32) <<< (r1 &&& 31)) ^^^ (-1 : Int32)))), (0, .ref (gad G 42))]) E dX5_juryAtLast_27 rfl rfl (by decide) rfl ?_
      refine x_goto (pc := 30) (tgt := 7) E dX5_juryAtLast_30 (by decide) ?_
      obtain rfl := Option.some.inj hf
      exact x_sub [2, 1, 0] rfl (ih _ _ _ (lpk_l h2) hk)
set_option maxHeartbeats 4000000 in
set_option maxRecDepth 100000 in
theorem c_X5_juryAtLast (G : Gx) (σ : MM) (r : Int32) (hf : f_X5_juryAtLast σ = some r) : Ct shS 56 yX5_juryAtLast cX5_juryAtLast 3 (some .int) rm_X5_juryAtLast G [.ref (gad G 42)] σ (some (.int r)) σ := by
  refine ct_of (by decide) (Nat.le_of_ble_eq_true rfl) (fun K E hR => ?_)
  have E : OKc 56 cX5_juryAtLast 3 RX5 G K := E
  show XJ shS 56 3 rm_X5_juryAtLast G K σ [(0, .ref (gad G 42))] 0 []
  unfold f_X5_juryAtLast at hf
  refine x_aload_n 0 (pc := 0) (i := 0) E dX5_juryAtLast_0 rfl rfl ?_
  refine x_getI (pc := 1) (p := 3) E rfl (Nat.le_of_ble_eq_true rfl) rfl inlX5 (by decide) rfl wq_403 dX5_juryAtLast_1 ?_
  refine x_istore_n (pc := 4) (lv' := [(1, .int (σ.1 42 3)), (0, .ref (gad G 42))]) E dX5_juryAtLast_4 rfl (by decide) rfl ?_
  refine x_iconst (pc := 5) (v := (0 : Int32)) E dX5_juryAtLast_5 rfl ?_
  refine x_istore_n (pc := 6) (lv' := [(2, .int (0 : Int32)), (1, .int (σ.1 42 3)), (0, .ref (gad G 42))]) E dX5_juryAtLast_6 rfl (by decide) rfl ?_
  obtain ⟨o2, hl3, hf⟩ := bind_some hf
  refine x_sub [2, 1, 0] rfl (l_X5_juryAtLast_7 G    σ E FU _ _ o2 hl3 ?_)
  refine x_iload_n 0 (pc := 33) (i := 1) E dX5_juryAtLast_33 rfl rfl ?_
  obtain rfl := Option.some.inj hf
  exact x_iret (pc := 34) E hR dX5_juryAtLast_34
set_option maxHeartbeats 4000000 in
set_option maxRecDepth 100000 in
theorem c_X6_finest (G : Gx) (σ : MM) (r : Int32) (σ' : MM) (hf : f_X6_finest σ = some (r, σ')) : Ct shS 56 yX6_finest cX6_finest 7 (some .int) rm_X6_finest G [.ref (gad G 0)] σ (some (.int r)) σ' := by
  refine ct_of (by decide) (Nat.le_of_ble_eq_true rfl) (fun K E hR => ?_)
  have E : OKc 56 cX6_finest 7 RX6 G K := E
  show XJ shS 56 7 rm_X6_finest G K σ [(0, .ref (gad G 0))] 0 []
  unfold f_X6_finest at hf
  refine x_aload_n 0 (pc := 0) (i := 0) E dX6_finest_0 rfl rfl ?_
  refine x_getR (pc := 1) (r := 1) (p := 0) E rfl (Nat.le_of_ble_eq_true rfl) rfl inlX6 (by decide) rfl wq_17 dX6_finest_1 ?_
  refine x_callVNri (pc := 4) (na := 0) (As := []) E (c_X0_called G σ) rfl (Nat.le_of_ble_eq_true rfl) rfl wq_488 wq_16 wn_40 wq_486 wq_487 rfl rfl (by decide) ⟨Nat.le_of_ble_eq_true rfl, Nat.le_of_ble_eq_true rfl⟩ rfl rfl (Nat.le_of_ble_eq_true rfl) dX6_finest_4 hf (fun r1 hf => ?_)
  refine x_if_ne (y := 0) (pc := 7) (tgt := 17) E dX6_finest_7 (by decide) hf (fun hf => ?_) (fun hf => ?_)
  · refine x_aload_n 0 (pc := 17) (i := 0) E dX6_finest_17 rfl rfl ?_
    refine x_callVwv (pc := 18) (na := 0) (As := []) E (c_X6_knowTurns G σ) rfl (Nat.le_of_ble_eq_true rfl) rfl wq_501 wq_2 wq_498 wq_499 wq_500 rfl rfl (by decide) ⟨Nat.le_of_ble_eq_true rfl, Nat.le_of_ble_eq_true rfl⟩ rfl rfl (Nat.le_of_ble_eq_true rfl) dX6_finest_18 hf (fun σ3 hf => ?_)
    refine x_aload_n 0 (pc := 21) (i := 0) E dX6_finest_21 rfl rfl ?_
    refine x_getR (pc := 22) (r := 16) (p := 7) E rfl (Nat.le_of_ble_eq_true rfl) rfl inlX6 (by decide) rfl wq_29 dX6_finest_22 ?_
    refine x_aload_n 0 (pc := 25) (i := 0) E dX6_finest_25 rfl rfl ?_
    refine x_getR (pc := 26) (r := 42) (p := 9) E rfl (Nat.le_of_ble_eq_true rfl) rfl inlX6 (by decide) rfl wq_34 dX6_finest_26 ?_
    refine x_callVNri (pc := 29) (na := 0) (As := []) E (c_X5_juryAtLast G σ3) rfl (Nat.le_of_ble_eq_true rfl) rfl wq_832 wq_33 wn_63 wq_830 wq_831 rfl rfl (by decide) ⟨Nat.le_of_ble_eq_true rfl, Nat.le_of_ble_eq_true rfl⟩ rfl rfl (Nat.le_of_ble_eq_true rfl) dX6_finest_29 hf (fun r4 hf => ?_)
    refine x_callVNwl (pc := 32) (na := 1) (As := [.int r4]) E (c_X2_rightOf G r4 σ3) rfl (Nat.le_of_ble_eq_true rfl) rfl wq_376 wq_28 wn_34 wq_374 wq_375 rfl rfl (by decide) ⟨Nat.le_of_ble_eq_true rfl, Nat.le_of_ble_eq_true rfl⟩ rfl rfl (Nat.le_of_ble_eq_true rfl) dX6_finest_32 hf (fun r5 σ6 hf => ?_)
    refine x_lstore_n (pc := 35) (lv' := [(1, .long r5), (0, .ref (gad G 0))]) E dX6_finest_35 rfl (by decide) rfl ?_
    refine x_iconst (pc := 36) (v := (0 : Int32)) E dX6_finest_36 rfl ?_
    refine x_istore_n (pc := 37) (lv' := [(3, .int (0 : Int32)), (1, .long r5), (0, .ref (gad G 0))]) E dX6_finest_37 rfl (by decide) rfl ?_
    refine x_aload_n 2 (pc := 38) (i := 0) E dX6_finest_38 rfl rfl ?_
    refine x_callVwv (pc := 39) (na := 0) (As := []) E (c_X6_knowPaper G σ6) rfl (Nat.le_of_ble_eq_true rfl) rfl wq_627 wq_2 wq_624 wq_625 wq_626 rfl rfl (by decide) ⟨Nat.le_of_ble_eq_true rfl, Nat.le_of_ble_eq_true rfl⟩ rfl rfl (Nat.le_of_ble_eq_true rfl) dX6_finest_39 hf (fun σ8 hf => ?_)
    refine x_aload_n 2 (pc := 42) (i := 0) E dX6_finest_42 rfl rfl ?_
    refine x_getR (pc := 43) (r := 50) (p := 11) E rfl (Nat.le_of_ble_eq_true rfl) rfl inlX6 (by decide) rfl wq_39 dX6_finest_43 ?_
    refine x_callVNri (pc := 46) (na := 0) (As := []) E (c_X3_restCount G σ8) rfl (Nat.le_of_ble_eq_true rfl) rfl wq_654 wq_38 wn_49 wq_652 wq_653 rfl rfl (by decide) ⟨Nat.le_of_ble_eq_true rfl, Nat.le_of_ble_eq_true rfl⟩ rfl rfl (Nat.le_of_ble_eq_true rfl) dX6_finest_46 hf (fun r9 hf => ?_)
    obtain ⟨o17, hf19, hf⟩ := bind_some hf
    have hJ18 : XJ shS 56 7 rm_X6_finest G K o17.2.2 [(0, .ref (gad G 0)), (1, .long o17.1), (3, .int o17.2.1)] 114 [] := by
      refine x_aload_n 0 (pc := 114) (i := 0) E dX6_finest_114 rfl rfl ?_
      refine x_callVwv (pc := 115) (na := 0) (As := []) E (c_X6_knowComing G o17.2.2) rfl (Nat.le_of_ble_eq_true rfl) rfl wq_710 wq_2 wq_707 wq_708 wq_709 rfl rfl (by decide) ⟨Nat.le_of_ble_eq_true rfl, Nat.le_of_ble_eq_true rfl⟩ rfl rfl (Nat.le_of_ble_eq_true rfl) dX6_finest_115 hf (fun σ21 hf => ?_)
      refine x_aload_n 0 (pc := 118) (i := 0) E dX6_finest_118 rfl rfl ?_
      refine x_getR (pc := 119) (r := 16) (p := 7) E rfl (Nat.le_of_ble_eq_true rfl) rfl inlX6 (by decide) rfl wq_29 dX6_finest_119 ?_
      refine x_aload_n 0 (pc := 122) (i := 0) E dX6_finest_122 rfl rfl ?_
      refine x_getR (pc := 123) (r := 55) (p := 12) E rfl (Nat.le_of_ble_eq_true rfl) rfl inlX6 (by decide) rfl wq_43 dX6_finest_123 ?_
      refine x_callVNri (pc := 126) (na := 0) (As := []) E (c_X1_jury G σ21) rfl (Nat.le_of_ble_eq_true rfl) rfl wq_746 wq_42 wn_58 wq_744 wq_745 rfl rfl (by decide) ⟨Nat.le_of_ble_eq_true rfl, Nat.le_of_ble_eq_true rfl⟩ rfl rfl (Nat.le_of_ble_eq_true rfl) dX6_finest_126 hf (fun r22 hf => ?_)
      refine x_callVNwl (pc := 129) (na := 1) (As := [.int r22]) E (c_X2_rightOf G r22 σ21) rfl (Nat.le_of_ble_eq_true rfl) rfl wq_376 wq_28 wn_34 wq_374 wq_375 rfl rfl (by decide) ⟨Nat.le_of_ble_eq_true rfl, Nat.le_of_ble_eq_true rfl⟩ rfl rfl (Nat.le_of_ble_eq_true rfl) dX6_finest_129 hf (fun r23 σ24 hf => ?_)
      refine x_lload_n 1 (pc := 132) (i := 1) E dX6_finest_132 rfl rfl ?_
      refine x_lcmp_le (pc := 133) (tgt := 141) E dX6_finest_133 dX6_finest_134 (by decide) hf (fun hf => ?_) (fun hf => ?_)
      · refine x_iload_n 2 (pc := 141) (i := 3) E dX6_finest_141 rfl rfl ?_
        obtain ⟨rfl, rfl⟩ := Prod.mk.inj (Option.some.inj hf)
        exact x_iret (pc := 142) E hR dX6_finest_142
      · refine x_iconst (pc := 137) (v := (2 : Int32)) E dX6_finest_137 rfl ?_
        refine x_goto (pc := 138) (tgt := 142) E dX6_finest_138 (by decide) ?_
        obtain ⟨rfl, rfl⟩ := Prod.mk.inj (Option.some.inj hf)
        exact x_iret (pc := 142) E hR dX6_finest_142
    refine x_if_le (y := 0) (pc := 49) (tgt := 114) E dX6_finest_49 (by decide) hf19 (fun hf19 => ?_) (fun hf19 => ?_)
    · obtain rfl := Option.some.inj hf19
      exact x_sub [2, 1, 0] rfl hJ18
    · refine x_aload_n 2 (pc := 52) (i := 0) E dX6_finest_52 rfl rfl ?_
      refine x_getR (pc := 53) (r := 50) (p := 11) E rfl (Nat.le_of_ble_eq_true rfl) rfl inlX6 (by decide) rfl wq_39 dX6_finest_53 ?_
      refine x_iconst (pc := 56) (v := (0 : Int32)) E dX6_finest_56 rfl ?_
      refine x_callVNri (pc := 57) (na := 1) (As := [.int (0 : Int32)]) E (c_X3_restOfA G (0 : Int32) σ8) rfl (Nat.le_of_ble_eq_true rfl) rfl wq_684 wq_38 wn_50 wq_682 wq_683 rfl rfl (by decide) ⟨Nat.le_of_ble_eq_true rfl, Nat.le_of_ble_eq_true rfl⟩ rfl rfl (Nat.le_of_ble_eq_true rfl) dX6_finest_57 hf19 (fun r25 hf19 => ?_)
      refine x_aload_n 2 (pc := 60) (i := 0) E dX6_finest_60 rfl rfl ?_
      refine x_getR (pc := 61) (r := 50) (p := 11) E rfl (Nat.le_of_ble_eq_true rfl) rfl inlX6 (by decide) rfl wq_39 dX6_finest_61 ?_
      refine x_iconst (pc := 64) (v := (0 : Int32)) E dX6_finest_64 rfl ?_
      refine x_callVNri (pc := 65) (na := 1) (As := [.int (0 : Int32)]) E (c_X3_restOfB G (0 : Int32) σ8) rfl (Nat.le_of_ble_eq_true rfl) rfl wq_687 wq_38 wn_51 wq_685 wq_686 rfl rfl (by decide) ⟨Nat.le_of_ble_eq_true rfl, Nat.le_of_ble_eq_true rfl⟩ rfl rfl (Nat.le_of_ble_eq_true rfl) dX6_finest_65 hf19 (fun r26 hf19 => ?_)
      refine x_ior (pc := 68) E dX6_finest_68 ?_
      refine x_istore (pc := 69) (lv' := [(4, .int (r25 ||| r26)), (3, .int (0 : Int32)), (1, .long r5), (0, .ref (gad G 0))]) E dX6_finest_69 (by decide) rfl ?_
      refine x_aload_n 3 (pc := 71) (i := 0) E dX6_finest_71 rfl rfl ?_
      refine x_getR (pc := 72) (r := 16) (p := 7) E rfl (Nat.le_of_ble_eq_true rfl) rfl inlX6 (by decide) rfl wq_29 dX6_finest_72 ?_
      refine x_aload_n 3 (pc := 75) (i := 0) E dX6_finest_75 rfl rfl ?_
      refine x_getR (pc := 76) (r := 1) (p := 0) E rfl (Nat.le_of_ble_eq_true rfl) rfl inlX6 (by decide) rfl wq_17 dX6_finest_76 ?_
      refine x_callVNri (pc := 79) (na := 0) (As := []) E (c_X0_calledSet G σ8) rfl (Nat.le_of_ble_eq_true rfl) rfl wq_504 wq_16 wn_41 wq_502 wq_503 rfl rfl (by decide) ⟨Nat.le_of_ble_eq_true rfl, Nat.le_of_ble_eq_true rfl⟩ rfl rfl (Nat.le_of_ble_eq_true rfl) dX6_finest_79 hf19 (fun r27 hf19 => ?_)
      refine x_iload 0 (pc := 82) E dX6_finest_82 rfl ?_
      refine x_iconst (pc := 84) (v := (-1 : Int32)) E dX6_finest_84 rfl ?_
      refine x_ixor (pc := 85) E dX6_finest_85 ?_
      refine x_iand (pc := 86) E dX6_finest_86 ?_
      refine x_aload_n 3 (pc := 87) (i := 0) E dX6_finest_87 rfl rfl ?_
      refine x_getR (pc := 88) (r := 1) (p := 0) E rfl (Nat.le_of_ble_eq_true rfl) rfl inlX6 (by decide) rfl wq_17 dX6_finest_88 ?_
      refine x_callVNri (pc := 91) (na := 0) (As := []) E (c_X0_needed G σ8) rfl (Nat.le_of_ble_eq_true rfl) rfl wq_93 wq_16 wn_32 wq_91 wq_92 rfl rfl (by decide) ⟨Nat.le_of_ble_eq_true rfl, Nat.le_of_ble_eq_true rfl⟩ rfl rfl (Nat.le_of_ble_eq_true rfl) dX6_finest_91 hf19 (fun r28 hf19 => ?_)
      refine x_callSri (pc := 94) (na := 2) (As := [.int (r27 &&& ((r25 ||| r26) ^^^ (-1 : Int32))), .int r28]) E (c_X6_firstOf G (r27 &&& ((r25 ||| r26) ^^^ (-1 : Int32))) r28 σ8) wq_698 wq_2 wq_696 wq_697 rfl rfl (by decide) ⟨Nat.le_of_ble_eq_true rfl, Nat.le_of_ble_eq_true rfl⟩ rfl rfl (Nat.le_of_ble_eq_true rfl) dX6_finest_94 hf19 (fun r29 hf19 => ?_)
      refine x_callVNwl (pc := 97) (na := 1) (As := [.int r29]) E (c_X2_rightOf G r29 σ8) rfl (Nat.le_of_ble_eq_true rfl) rfl wq_376 wq_28 wn_34 wq_374 wq_375 rfl rfl (by decide) ⟨Nat.le_of_ble_eq_true rfl, Nat.le_of_ble_eq_true rfl⟩ rfl rfl (Nat.le_of_ble_eq_true rfl) dX6_finest_97 hf19 (fun r30 σ31 hf19 => ?_)
      refine x_lstore (pc := 100) (lv' := [(5, .long r30), (4, .int (r25 ||| r26)), (3, .int (0 : Int32)), (1, .long r5), (0, .ref (gad G 0))]) E dX6_finest_100 (by decide) rfl ?_
      refine x_lload 0 (pc := 102) E dX6_finest_102 rfl ?_
      refine x_lload_n 3 (pc := 104) (i := 1) E dX6_finest_104 rfl rfl ?_
      refine x_lcmp_le (pc := 105) (tgt := 114) E dX6_finest_105 dX6_finest_106 (by decide) hf19 (fun hf19 => ?_) (fun hf19 => ?_)
      · obtain rfl := Option.some.inj hf19
        exact x_sub [4, 3, 2] rfl hJ18
      · refine x_lload 0 (pc := 109) E dX6_finest_109 rfl ?_
        refine x_lstore_n (pc := 111) (lv' := [(1, .long r30), (5, .long r30), (4, .int (r25 ||| r26)), (3, .int (0 : Int32)), (0, .ref (gad G 0))]) E dX6_finest_111 rfl (by decide) rfl ?_
        refine x_iconst (pc := 112) (v := (1 : Int32)) E dX6_finest_112 rfl ?_
        refine x_istore_n (pc := 113) (lv' := [(3, .int (1 : Int32)), (1, .long r30), (5, .long r30), (4, .int (r25 ||| r26)), (0, .ref (gad G 0))]) E dX6_finest_113 rfl (by decide) rfl ?_
        obtain rfl := Option.some.inj hf19
        exact x_sub [4, 1, 0] rfl hJ18
  · refine x_aload_n 0 (pc := 10) (i := 0) E dX6_finest_10 rfl rfl ?_
    refine x_bipush (pc := 11) (v := (-3 : Int32)) E dX6_finest_11 rfl ?_
    refine x_callVwi (pc := 13) (na := 1) (As := [.int (-3 : Int32)]) E (c_X6_refuse G (-3 : Int32) σ) rfl (Nat.le_of_ble_eq_true rfl) rfl wq_133 wq_2 wq_130 wq_131 wq_132 rfl rfl (by decide) ⟨Nat.le_of_ble_eq_true rfl, Nat.le_of_ble_eq_true rfl⟩ rfl rfl (Nat.le_of_ble_eq_true rfl) dX6_finest_13 hf (fun r32 σ33 hf => ?_)
    obtain ⟨rfl, rfl⟩ := Prod.mk.inj (Option.some.inj hf)
    exact x_iret (pc := 16) E hR dX6_finest_16
set_option maxHeartbeats 4000000 in
set_option maxRecDepth 100000 in
theorem l_X2_spreadOutAll_13 (G : Gx) {K : Kx} (q1 : Nat) (hs_q1_0 : shS q1 = .inr (0, 12, 0)) (hk_q1_0 : q1 < 56) (v2 : Int32) (v3 : Int32) (E : OKc 56 cX2_spreadOutAll 8 RX2 G K) : ∀ (m : Nat) (v4 : Int32) (σ : MM) (out : MM), loopN (fun s => g_X2_spreadOutAll_13 q1 v2 v3 s.1 s.2) m (v4, σ) = some out → XJ shS 56 8 rm_X2_spreadOutAll G K out [(0, .ref (gad G 16)), (1, .ref (gad G q1)), (2, .int v2), (3, .int v3)] 35 [] → XJ shS 56 8 rm_X2_spreadOutAll G K σ [(0, .ref (gad G 16)), (1, .ref (gad G q1)), (2, .int v2), (3, .int v3), (4, .int v4)] 13 [] := by
  intro m
  induction m with
  | zero => intro v4 σ out hf; exact (loopN_0 hf).elim
  | succ m ih =>
    intro v4 σ out hf hk
    obtain ⟨q, hf, h2⟩ := loopN_s hf
    have hf : g_X2_spreadOutAll_13 q1 v2 v3 v4 σ = some q := hf
    unfold g_X2_spreadOutAll_13 at hf
    refine x_iload 4 (pc := 13) E dX2_spreadOutAll_13 rfl ?_
    refine x_iload_n 3 (pc := 15) (i := 3) E dX2_spreadOutAll_15 rfl rfl ?_
    refine x_icmp_gt (pc := 16) (tgt := 35) E dX2_spreadOutAll_16 (by decide) hf (fun hf => ?_) (fun hf => ?_)
    · obtain rfl := Option.some.inj hf
      obtain rfl := lpk_r h2
      exact x_sub [0, 1, 2, 3] rfl hk
    · refine x_aload_n 0 (pc := 19) (i := 0) E dX2_spreadOutAll_19 rfl rfl ?_
      refine x_getR (pc := 20) (r := 20) (p := 3) E rfl (Nat.le_of_ble_eq_true rfl) rfl inlX2 (by decide) rfl wq_64 dX2_spreadOutAll_20 ?_
      refine x_iload_n 3 (pc := 23) (i := 3) E dX2_spreadOutAll_23 rfl rfl ?_
      refine x_aaload (pc := 24) E rfl (Nat.le_of_ble_eq_true rfl) dX2_spreadOutAll_24 hf (fun hi1 hf => ?_)
      refine x_iload 4 (pc := 25) E dX2_spreadOutAll_25 rfl ?_
      refine x_lconst (pc := 27) (v := 0) E dX2_spreadOutAll_27 rfl ?_
      refine x_lastore (pc := 28) E (sh_row (Or.inl rfl) hi1).1 (sh_row (Or.inl rfl) hi1).2 dX2_spreadOutAll_28 hf (fun σ2 hf => ?_)
      refine x_iinc 4 (pc := 29) (v := v4 + 1) (lv' := [(4, .int (v4 + 1)), (0, .ref (gad G 16)), (1, .ref (gad G q1)), (2, .int v2), (3, .int v3)]) E dX2_spreadOutAll_29 rfl rfl (by decide) rfl ?_
      refine x_goto (pc := 32) (tgt := 13) E dX2_spreadOutAll_32 (by decide) ?_
      obtain rfl := Option.some.inj hf
      exact x_sub [1, 2, 3, 4, 0] rfl (ih _ _ _ (lpk_l h2) hk)
set_option maxHeartbeats 4000000 in
set_option maxRecDepth 100000 in
theorem l_X2_spreadOutAll_2 (G : Gx) {K : Kx} (q1 : Nat) (hs_q1_0 : shS q1 = .inr (0, 12, 0)) (hk_q1_0 : q1 < 56) (v2 : Int32) (E : OKc 56 cX2_spreadOutAll 8 RX2 G K) : ∀ (m : Nat) (v3 : Int32) (σ : MM) (out : MM), loopN (fun s => g_X2_spreadOutAll_2 q1 v2 s.1 s.2) m (v3, σ) = some out → XJ shS 56 8 rm_X2_spreadOutAll G K out [(0, .ref (gad G 16)), (1, .ref (gad G q1)), (2, .int v2)] 41 [] → XJ shS 56 8 rm_X2_spreadOutAll G K σ [(0, .ref (gad G 16)), (1, .ref (gad G q1)), (2, .int v2), (3, .int v3)] 2 [] := by
  intro m
  induction m with
  | zero => intro v3 σ out hf; exact (loopN_0 hf).elim
  | succ m ih =>
    intro v3 σ out hf hk
    obtain ⟨q, hf, h2⟩ := loopN_s hf
    have hf : g_X2_spreadOutAll_2 q1 v2 v3 σ = some q := hf
    unfold g_X2_spreadOutAll_2 at hf
    refine x_iload_n 3 (pc := 2) (i := 3) E dX2_spreadOutAll_2 rfl rfl ?_
    refine x_aload_n 0 (pc := 3) (i := 0) E dX2_spreadOutAll_3 rfl rfl ?_
    refine x_getI (pc := 4) (p := 4) E rfl (Nat.le_of_ble_eq_true rfl) rfl inlX2 (by decide) rfl wq_88 dX2_spreadOutAll_4 ?_
    refine x_icmp_gt (pc := 7) (tgt := 41) E dX2_spreadOutAll_7 (by decide) hf (fun hf => ?_) (fun hf => ?_)
    · obtain rfl := Option.some.inj hf
      obtain rfl := lpk_r h2
      exact x_sub [0, 1, 2] rfl hk
    · refine x_iconst (pc := 10) (v := (0 : Int32)) E dX2_spreadOutAll_10 rfl ?_
      refine x_istore (pc := 11) (lv' := [(4, .int (0 : Int32)), (0, .ref (gad G 16)), (1, .ref (gad G q1)), (2, .int v2), (3, .int v3)]) E dX2_spreadOutAll_11 (by decide) rfl ?_
      obtain ⟨o3, hl4, hf⟩ := bind_some hf
      refine x_sub [1, 2, 3, 4, 0] rfl (l_X2_spreadOutAll_13 G q1 hs_q1_0 hk_q1_0 v2 v3 E FU _ _ o3 hl4 ?_)
      refine x_iinc 3 (pc := 35) (v := v3 + 1) (lv' := [(3, .int (v3 + 1)), (0, .ref (gad G 16)), (1, .ref (gad G q1)), (2, .int v2)]) E dX2_spreadOutAll_35 rfl rfl (by decide) rfl ?_
      refine x_goto (pc := 38) (tgt := 2) E dX2_spreadOutAll_38 (by decide) ?_
      obtain rfl := Option.some.inj hf
      exact x_sub [1, 2, 3, 0] rfl (ih _ _ _ (lpk_l h2) hk)
set_option maxHeartbeats 4000000 in
set_option maxRecDepth 100000 in
theorem l_X2_spreadOutAll_79 (G : Gx) {K : Kx} (q1 : Nat) (hs_q1_0 : shS q1 = .inr (0, 12, 0)) (hk_q1_0 : q1 < 56) (v2 : Int32) (v3 : Int32) (v4 : Int64) (v6 : Int32) (E : OKc 56 cX2_spreadOutAll 8 RX2 G K) : ∀ (m : Nat) (v7 : Int32) (σ : MM) (out : MM), loopN (fun s => g_X2_spreadOutAll_79 q1 v2 v3 v4 v6 s.1 s.2) m (v7, σ) = some out → XJ shS 56 8 rm_X2_spreadOutAll G K out [(0, .ref (gad G 16)), (1, .ref (gad G q1)), (2, .int v2), (3, .int v3), (4, .long v4), (6, .int v6)] 154 [] → XJ shS 56 8 rm_X2_spreadOutAll G K σ [(0, .ref (gad G 16)), (1, .ref (gad G q1)), (2, .int v2), (3, .int v3), (4, .long v4), (6, .int v6), (7, .int v7)] 79 [] := by
  intro m
  induction m with
  | zero => intro v7 σ out hf; exact (loopN_0 hf).elim
  | succ m ih =>
    intro v7 σ out hf hk
    obtain ⟨q, hf, h2⟩ := loopN_s hf
    have hf : g_X2_spreadOutAll_79 q1 v2 v3 v4 v6 v7 σ = some q := hf
    unfold g_X2_spreadOutAll_79 at hf
    refine x_iload 6 (pc := 79) E dX2_spreadOutAll_79 rfl ?_
    refine x_iload 5 (pc := 81) E dX2_spreadOutAll_81 rfl ?_
    refine x_icmp_gt (pc := 83) (tgt := 154) E dX2_spreadOutAll_83 (by decide) hf (fun hf => ?_) (fun hf => ?_)
    · obtain rfl := Option.some.inj hf
      obtain rfl := lpk_r h2
      exact x_sub [0, 1, 2, 3, 4, 5] rfl hk
    · refine x_aload_n 0 (pc := 86) (i := 0) E dX2_spreadOutAll_86 rfl rfl ?_
      refine x_getR (pc := 87) (r := 20) (p := 3) E rfl (Nat.le_of_ble_eq_true rfl) rfl inlX2 (by decide) rfl wq_64 dX2_spreadOutAll_87 ?_
      refine x_iload 5 (pc := 90) E dX2_spreadOutAll_90 rfl ?_
      refine x_iconst (pc := 92) (v := (1 : Int32)) E dX2_spreadOutAll_92 rfl ?_
      refine x_iadd (pc := 93) E dX2_spreadOutAll_93 ?_
      refine x_aaload (pc := 94) E rfl (Nat.le_of_ble_eq_true rfl) dX2_spreadOutAll_94 hf (fun hi9 hf => ?_)
      refine x_iload 6 (pc := 95) E dX2_spreadOutAll_95 rfl ?_
      refine x_iconst (pc := 97) (v := (1 : Int32)) E dX2_spreadOutAll_97 rfl ?_
      refine x_iadd (pc := 98) E dX2_spreadOutAll_98 ?_
      refine x_dup2 (pc := 99) E dX2_spreadOutAll_99 rfl rfl ?_
      refine x_laload (pc := 100) E (sh_row (Or.inl rfl) hi9).1 (sh_row (Or.inl rfl) hi9).2 dX2_spreadOutAll_100 hf (fun hf => ?_)
      refine x_aload_n 0 (pc := 101) (i := 0) E dX2_spreadOutAll_101 rfl rfl ?_
      refine x_getR (pc := 102) (r := 20) (p := 3) E rfl (Nat.le_of_ble_eq_true rfl) rfl inlX2 (by decide) rfl wq_64 dX2_spreadOutAll_102 ?_
      refine x_iload 5 (pc := 105) E dX2_spreadOutAll_105 rfl ?_
      refine x_aaload (pc := 107) E rfl (Nat.le_of_ble_eq_true rfl) dX2_spreadOutAll_107 hf (fun hi10 hf => ?_)
      refine x_iload 6 (pc := 108) E dX2_spreadOutAll_108 rfl ?_
      refine x_laload (pc := 110) E (sh_row (Or.inl rfl) hi10).1 (sh_row (Or.inl rfl) hi10).2 dX2_spreadOutAll_110 hf (fun hf => ?_)
      refine x_lload 4 (pc := 111) E dX2_spreadOutAll_111 rfl ?_
      refine x_lmul (pc := 113) E dX2_spreadOutAll_113 ?_
      refine x_ladd (pc := 114) E dX2_spreadOutAll_114 ?_
      refine x_lastore (pc := 115) E (sh_row (Or.inl rfl) hi9).1 (sh_row (Or.inl rfl) hi9).2 dX2_spreadOutAll_115 hf (fun σ11 hf => ?_)
      refine x_aload_n 0 (pc := 116) (i := 0) E dX2_spreadOutAll_116 rfl rfl ?_
      refine x_getR (pc := 117) (r := 20) (p := 3) E rfl (Nat.le_of_ble_eq_true rfl) rfl inlX2 (by decide) rfl wq_64 dX2_spreadOutAll_117 ?_
      refine x_iload 5 (pc := 120) E dX2_spreadOutAll_120 rfl ?_
      refine x_iconst (pc := 122) (v := (1 : Int32)) E dX2_spreadOutAll_122 rfl ?_
      refine x_iadd (pc := 123) E dX2_spreadOutAll_123 ?_
      refine x_aaload (pc := 124) E rfl (Nat.le_of_ble_eq_true rfl) dX2_spreadOutAll_124 hf (fun hi12 hf => ?_)
      refine x_iload 6 (pc := 125) E dX2_spreadOutAll_125 rfl ?_
      refine x_dup2 (pc := 127) E dX2_spreadOutAll_127 rfl rfl ?_
      refine x_laload (pc := 128) E (sh_row (Or.inl rfl) hi12).1 (sh_row (Or.inl rfl) hi12).2 dX2_spreadOutAll_128 hf (fun hf => ?_)
      refine x_aload_n 0 (pc := 129) (i := 0) E dX2_spreadOutAll_129 rfl rfl ?_
      refine x_getR (pc := 130) (r := 20) (p := 3) E rfl (Nat.le_of_ble_eq_true rfl) rfl inlX2 (by decide) rfl wq_64 dX2_spreadOutAll_130 ?_
      refine x_iload 5 (pc := 133) E dX2_spreadOutAll_133 rfl ?_
      refine x_aaload (pc := 135) E rfl (Nat.le_of_ble_eq_true rfl) dX2_spreadOutAll_135 hf (fun hi13 hf => ?_)
      refine x_iload 6 (pc := 136) E dX2_spreadOutAll_136 rfl ?_
      refine x_laload (pc := 138) E (sh_row (Or.inl rfl) hi13).1 (sh_row (Or.inl rfl) hi13).2 dX2_spreadOutAll_138 hf (fun hf => ?_)
      refine x_ldc2 (pc := 139) (v := 100) E wq_325 dX2_spreadOutAll_139 ?_
      refine x_lload 4 (pc := 142) E dX2_spreadOutAll_142 rfl ?_
      refine x_lsub (pc := 144) E dX2_spreadOutAll_144 ?_
      refine x_lmul (pc := 145) E dX2_spreadOutAll_145 ?_
      refine x_ladd (pc := 146) E dX2_spreadOutAll_146 ?_
      refine x_lastore (pc := 147) E (sh_row (Or.inl rfl) hi12).1 (sh_row (Or.inl rfl) hi12).2 dX2_spreadOutAll_147 hf (fun σ14 hf => ?_)
      refine x_iinc 6 (pc := 148) (v := v7 + 1) (lv' := [(7, .int (v7 + 1)), (0, .ref (gad G 16)), (1, .ref (gad G q1)), (2, .int v2), (3, .int v3), (4, .long v4), (6, .int v6)]) E dX2_spreadOutAll_148 rfl rfl (by decide) rfl ?_
      refine x_goto (pc := 151) (tgt := 79) E dX2_spreadOutAll_151 (by decide) ?_
      obtain rfl := Option.some.inj hf
      exact x_sub [1, 2, 3, 4, 5, 6, 0] rfl (ih _ _ _ (lpk_l h2) hk)
set_option maxHeartbeats 4000000 in
set_option maxRecDepth 100000 in
theorem l_X2_spreadOutAll_71 (G : Gx) {K : Kx} (q1 : Nat) (hs_q1_0 : shS q1 = .inr (0, 12, 0)) (hk_q1_0 : q1 < 56) (v2 : Int32) (v3 : Int32) (v4 : Int64) (E : OKc 56 cX2_spreadOutAll 8 RX2 G K) : ∀ (m : Nat) (v6 : Int32) (σ : MM) (out : MM), loopN (fun s => g_X2_spreadOutAll_71 q1 v2 v3 v4 s.1 s.2) m (v6, σ) = some out → XJ shS 56 8 rm_X2_spreadOutAll G K out [(0, .ref (gad G 16)), (1, .ref (gad G q1)), (2, .int v2), (3, .int v3)] 160 [] → XJ shS 56 8 rm_X2_spreadOutAll G K σ [(0, .ref (gad G 16)), (1, .ref (gad G q1)), (2, .int v2), (3, .int v3), (4, .long v4), (6, .int v6)] 71 [] := by
  intro m
  induction m with
  | zero => intro v6 σ out hf; exact (loopN_0 hf).elim
  | succ m ih =>
    intro v6 σ out hf hk
    obtain ⟨q, hf, h2⟩ := loopN_s hf
    have hf : g_X2_spreadOutAll_71 q1 v2 v3 v4 v6 σ = some q := hf
    unfold g_X2_spreadOutAll_71 at hf
    refine x_iload 5 (pc := 71) E dX2_spreadOutAll_71 rfl ?_
    refine x_if_lt (y := 0) (pc := 73) (tgt := 160) E dX2_spreadOutAll_73 (by decide) hf (fun hf => ?_) (fun hf => ?_)
    · obtain rfl := Option.some.inj hf
      obtain rfl := lpk_r h2
      exact x_sub [0, 1, 2, 3] rfl hk
    · refine x_iconst (pc := 76) (v := (0 : Int32)) E dX2_spreadOutAll_76 rfl ?_
      refine x_istore (pc := 77) (lv' := [(7, .int (0 : Int32)), (0, .ref (gad G 16)), (1, .ref (gad G q1)), (2, .int v2), (3, .int v3), (4, .long v4), (6, .int v6)]) E dX2_spreadOutAll_77 (by decide) rfl ?_
      obtain ⟨o15, hl16, hf⟩ := bind_some hf
      refine x_sub [1, 2, 3, 4, 5, 6, 0] rfl (l_X2_spreadOutAll_79 G q1 hs_q1_0 hk_q1_0 v2 v3 v4 v6 E FU _ _ o15 hl16 ?_)
      refine x_iinc 5 (pc := 154) (v := v6 + (-1)) (lv' := [(6, .int (v6 + (-1))), (0, .ref (gad G 16)), (1, .ref (gad G q1)), (2, .int v2), (3, .int v3), (4, .long v4)]) E dX2_spreadOutAll_154 rfl rfl (by decide) rfl ?_
      refine x_goto (pc := 157) (tgt := 71) E dX2_spreadOutAll_157 (by decide) ?_
      obtain rfl := Option.some.inj hf
      exact x_sub [1, 2, 3, 4, 5, 0] rfl (ih _ _ _ (lpk_l h2) hk)
set_option maxHeartbeats 4000000 in
set_option maxRecDepth 100000 in
theorem l_X2_spreadOutAll_52 (G : Gx) {K : Kx} (q1 : Nat) (hs_q1_0 : shS q1 = .inr (0, 12, 0)) (hk_q1_0 : q1 < 56) (v2 : Int32) (E : OKc 56 cX2_spreadOutAll 8 RX2 G K) : ∀ (m : Nat) (v3 : Int32) (σ : MM) (out : MM), loopN (fun s => g_X2_spreadOutAll_52 q1 v2 s.1 s.2) m (v3, σ) = some out → XJ shS 56 8 rm_X2_spreadOutAll G K out [(0, .ref (gad G 16))] 166 [] → XJ shS 56 8 rm_X2_spreadOutAll G K σ [(0, .ref (gad G 16)), (1, .ref (gad G q1)), (2, .int v2), (3, .int v3)] 52 [] := by
  intro m
  induction m with
  | zero => intro v3 σ out hf; exact (loopN_0 hf).elim
  | succ m ih =>
    intro v3 σ out hf hk
    obtain ⟨q, hf, h2⟩ := loopN_s hf
    have hf : g_X2_spreadOutAll_52 q1 v2 v3 σ = some q := hf
    unfold g_X2_spreadOutAll_52 at hf
    refine x_iload_n 3 (pc := 52) (i := 3) E dX2_spreadOutAll_52 rfl rfl ?_
    refine x_iload_n 2 (pc := 53) (i := 2) E dX2_spreadOutAll_53 rfl rfl ?_
    refine x_icmp_ge (pc := 54) (tgt := 166) E dX2_spreadOutAll_54 (by decide) hf (fun hf => ?_) (fun hf => ?_)
    · obtain rfl := Option.some.inj hf
      obtain rfl := lpk_r h2
      exact x_sub [0] rfl hk
    · refine x_aload_n 1 (pc := 57) (i := 1) E dX2_spreadOutAll_57 rfl rfl ?_
      refine x_iload_n 3 (pc := 58) (i := 3) E dX2_spreadOutAll_58 rfl rfl ?_
      refine x_iaload (pc := 59) E hs_q1_0 hk_q1_0 dX2_spreadOutAll_59 hf (fun hf => ?_)
      refine x_i2l (pc := 60) E dX2_spreadOutAll_60 ?_
      refine x_lstore (pc := 61) (lv' := [(4, .long ((σ.1 q1 v3.toNatClampNeg).toInt64)), (0, .ref (gad G 16)), (1, .ref (gad G q1)), (2, .int v2), (3, .int v3)]) E dX2_spreadOutAll_61 (by decide) rfl ?_
      refine x_aload_n 1 (pc := 63) (i := 0) E dX2_spreadOutAll_63 rfl rfl ?_
      refine x_getI (pc := 64) (p := 4) E rfl (Nat.le_of_ble_eq_true rfl) rfl inlX2 (by decide) rfl wq_88 dX2_spreadOutAll_64 ?_
      refine x_iconst (pc := 67) (v := (1 : Int32)) E dX2_spreadOutAll_67 rfl ?_
      refine x_isub (pc := 68) E dX2_spreadOutAll_68 ?_
      refine x_istore (pc := 69) (lv' := [(6, .int ((σ.1 16 4) - (1 : Int32))), (4, .long ((σ.1 q1 v3.toNatClampNeg).toInt64)), (0, .ref (gad G 16)), (1, .ref (gad G q1)), (2, .int v2), (3, .int v3)]) E dX2_spreadOutAll_69 (by decide) rfl ?_
      obtain ⟨o17, hl18, hf⟩ := bind_some hf
      refine x_sub [2, 3, 4, 5, 1, 0] rfl (l_X2_spreadOutAll_71 G q1 hs_q1_0 hk_q1_0 v2 v3 ((σ.1 q1 v3.toNatClampNeg).toInt64) E FU _ _ o17 hl18 ?_)
      refine x_iinc 3 (pc := 160) (v := v3 + 1) (lv' := [(3, .int (v3 + 1)), (0, .ref (gad G 16)), (1, .ref (gad G q1)), (2, .int v2)]) E dX2_spreadOutAll_160 rfl rfl (by decide) rfl ?_
      refine x_goto (pc := 163) (tgt := 52) E dX2_spreadOutAll_163 (by decide) ?_
      obtain rfl := Option.some.inj hf
      exact x_sub [1, 2, 3, 0] rfl (ih _ _ _ (lpk_l h2) hk)
set_option maxHeartbeats 4000000 in
set_option maxRecDepth 100000 in
theorem l_X2_spreadOutAll_168 (G : Gx) {K : Kx} (q1 : Nat) (hs_q1_0 : shS q1 = .inr (0, 12, 0)) (hk_q1_0 : q1 < 56)  (E : OKc 56 cX2_spreadOutAll 8 RX2 G K) : ∀ (m : Nat) (v3 : Int32) (σ : MM) (out : MM), loopN (fun s => g_X2_spreadOutAll_168 q1 s.1 s.2) m (v3, σ) = some out → XJ shS 56 8 rm_X2_spreadOutAll G K out [] 199 [] → XJ shS 56 8 rm_X2_spreadOutAll G K σ [(0, .ref (gad G 16)), (3, .int v3)] 168 [] := by
  intro m
  induction m with
  | zero => intro v3 σ out hf; exact (loopN_0 hf).elim
  | succ m ih =>
    intro v3 σ out hf hk
    obtain ⟨q, hf, h2⟩ := loopN_s hf
    have hf : g_X2_spreadOutAll_168 q1 v3 σ = some q := hf
    unfold g_X2_spreadOutAll_168 at hf
    refine x_iload_n 1 (pc := 168) (i := 3) E dX2_spreadOutAll_168 rfl rfl ?_
    refine x_aload_n 0 (pc := 169) (i := 0) E dX2_spreadOutAll_169 rfl rfl ?_
    refine x_getI (pc := 170) (p := 4) E rfl (Nat.le_of_ble_eq_true rfl) rfl inlX2 (by decide) rfl wq_88 dX2_spreadOutAll_170 ?_
    refine x_icmp_gt (pc := 173) (tgt := 199) E dX2_spreadOutAll_173 (by decide) hf (fun hf => ?_) (fun hf => ?_)
    · obtain rfl := Option.some.inj hf
      obtain rfl := lpk_r h2
      exact x_sub [] rfl hk
    · refine x_aload_n 0 (pc := 176) (i := 0) E dX2_spreadOutAll_176 rfl rfl ?_
      refine x_getR (pc := 177) (r := 19) (p := 2) E rfl (Nat.le_of_ble_eq_true rfl) rfl inlX2 (by decide) rfl wq_62 dX2_spreadOutAll_177 ?_
      refine x_iload_n 1 (pc := 180) (i := 3) E dX2_spreadOutAll_180 rfl rfl ?_
      refine x_aload_n 0 (pc := 181) (i := 0) E dX2_spreadOutAll_181 rfl rfl ?_
      refine x_getR (pc := 182) (r := 20) (p := 3) E rfl (Nat.le_of_ble_eq_true rfl) rfl inlX2 (by decide) rfl wq_64 dX2_spreadOutAll_182 ?_
      refine x_aload_n 0 (pc := 185) (i := 0) E dX2_spreadOutAll_185 rfl rfl ?_
      refine x_getI (pc := 186) (p := 4) E rfl (Nat.le_of_ble_eq_true rfl) rfl inlX2 (by decide) rfl wq_88 dX2_spreadOutAll_186 ?_
      refine x_aaload (pc := 189) E rfl (Nat.le_of_ble_eq_true rfl) dX2_spreadOutAll_189 hf (fun hi21 hf => ?_)
      refine x_iload_n 1 (pc := 190) (i := 3) E dX2_spreadOutAll_190 rfl rfl ?_
      refine x_laload (pc := 191) E (sh_row (Or.inl rfl) hi21).1 (sh_row (Or.inl rfl) hi21).2 dX2_spreadOutAll_191 hf (fun hf => ?_)
      refine x_lastore (pc := 192) E rfl (Nat.le_of_ble_eq_true rfl) dX2_spreadOutAll_192 hf (fun σ22 hf => ?_)
      refine x_iinc 1 (pc := 193) (v := v3 + 1) (lv' := [(3, .int (v3 + 1)), (0, .ref (gad G 16))]) E dX2_spreadOutAll_193 rfl rfl (by decide) rfl ?_
      refine x_goto (pc := 196) (tgt := 168) E dX2_spreadOutAll_196 (by decide) ?_
      obtain rfl := Option.some.inj hf
      exact x_sub [1, 0] rfl (ih _ _ _ (lpk_l h2) hk)
set_option maxHeartbeats 4000000 in
set_option maxRecDepth 100000 in
theorem c_X2_spreadOutAll (G : Gx) (q1 : Nat) (hs_q1_0 : shS q1 = .inr (0, 12, 0)) (hk_q1_0 : q1 < 56) (v2 : Int32) (σ : MM) (σ' : MM) (hf : f_X2_spreadOutAll q1 v2 σ = some σ') : Ct shS 56 yX2_spreadOutAll cX2_spreadOutAll 8 none rm_X2_spreadOutAll G [.ref (gad G 16), .ref (gad G q1), .int v2] σ none σ' := by
  refine ct_of (by decide) (Nat.le_of_ble_eq_true rfl) (fun K E hR => ?_)
  have E : OKc 56 cX2_spreadOutAll 8 RX2 G K := E
  show XJ shS 56 8 rm_X2_spreadOutAll G K σ [(0, .ref (gad G 16)), (1, .ref (gad G q1)), (2, .int v2)] 0 []
  unfold f_X2_spreadOutAll at hf
  refine x_iconst (pc := 0) (v := (0 : Int32)) E dX2_spreadOutAll_0 rfl ?_
  refine x_istore_n (pc := 1) (lv' := [(3, .int (0 : Int32)), (0, .ref (gad G 16)), (1, .ref (gad G q1)), (2, .int v2)]) E dX2_spreadOutAll_1 rfl (by decide) rfl ?_
  obtain ⟨o5, hl6, hf⟩ := bind_some hf
  refine x_sub [1, 2, 3, 0] rfl (l_X2_spreadOutAll_2 G q1 hs_q1_0 hk_q1_0 v2 E FU _ _ o5 hl6 ?_)
  refine x_aload_n 0 (pc := 41) (i := 0) E dX2_spreadOutAll_41 rfl rfl ?_
  refine x_getR (pc := 42) (r := 20) (p := 3) E rfl (Nat.le_of_ble_eq_true rfl) rfl inlX2 (by decide) rfl wq_64 dX2_spreadOutAll_42 ?_
  refine x_iconst (pc := 45) (v := (0 : Int32)) E dX2_spreadOutAll_45 rfl ?_
  refine x_aaload (pc := 46) E rfl (Nat.le_of_ble_eq_true rfl) dX2_spreadOutAll_46 hf (fun hi7 hf => ?_)
  refine x_iconst (pc := 47) (v := (0 : Int32)) E dX2_spreadOutAll_47 rfl ?_
  refine x_lconst (pc := 48) (v := 1) E dX2_spreadOutAll_48 rfl ?_
  refine x_lastore (pc := 49) E (sh_row (Or.inl rfl) hi7).1 (sh_row (Or.inl rfl) hi7).2 dX2_spreadOutAll_49 hf (fun σ8 hf => ?_)
  refine x_iconst (pc := 50) (v := (0 : Int32)) E dX2_spreadOutAll_50 rfl ?_
  refine x_istore_n (pc := 51) (lv' := [(3, .int (0 : Int32)), (0, .ref (gad G 16)), (1, .ref (gad G q1)), (2, .int v2)]) E dX2_spreadOutAll_51 rfl (by decide) rfl ?_
  obtain ⟨o19, hl20, hf⟩ := bind_some hf
  refine x_sub [1, 2, 3, 0] rfl (l_X2_spreadOutAll_52 G q1 hs_q1_0 hk_q1_0 v2 E FU _ _ o19 hl20 ?_)
  refine x_iconst (pc := 166) (v := (0 : Int32)) E dX2_spreadOutAll_166 rfl ?_
  refine x_istore_n (pc := 167) (lv' := [(3, .int (0 : Int32)), (0, .ref (gad G 16))]) E dX2_spreadOutAll_167 rfl (by decide) rfl ?_
  obtain ⟨o23, hl24, hf⟩ := bind_some hf
  refine x_sub [1, 0] rfl (l_X2_spreadOutAll_168 G q1 hs_q1_0 hk_q1_0  E FU _ _ o23 hl24 ?_)
  obtain rfl := Option.some.inj hf
  exact x_vret (pc := 199) E hR dX2_spreadOutAll_199
set_option maxHeartbeats 4000000 in
set_option maxRecDepth 100000 in
theorem c_X2_rightOfAll (G : Gx) (v1 : Int32) (σ : MM) (r : Int64) (σ' : MM) (hf : f_X2_rightOfAll v1 σ = some (r, σ')) : Ct shS 56 yX2_rightOfAll cX2_rightOfAll 4 (some .long) rm_X2_rightOfAll G [.ref (gad G 16), .int v1] σ (some (.long r)) σ' := by
  refine ct_of (by decide) (Nat.le_of_ble_eq_true rfl) (fun K E hR => ?_)
  have E : OKc 56 cX2_rightOfAll 4 RX2 G K := E
  show XJ shS 56 4 rm_X2_rightOfAll G K σ [(0, .ref (gad G 16)), (1, .int v1)] 0 []
  unfold f_X2_rightOfAll at hf
  refine x_aload_n 0 (pc := 0) (i := 0) E dX2_rightOfAll_0 rfl rfl ?_
  refine x_aload_n 0 (pc := 1) (i := 0) E dX2_rightOfAll_1 rfl rfl ?_
  refine x_getR (pc := 2) (r := 17) (p := 0) E rfl (Nat.le_of_ble_eq_true rfl) rfl inlX2 (by decide) rfl wq_60 dX2_rightOfAll_2 ?_
  refine x_iload_n 1 (pc := 5) (i := 1) E dX2_rightOfAll_5 rfl rfl ?_
  refine x_callVwv (pc := 6) (na := 2) (As := [.ref (gad G 17), .int v1]) E (c_X2_spreadOutAll G 17 rfl (Nat.le_of_ble_eq_true rfl) v1 σ) rfl (Nat.le_of_ble_eq_true rfl) rfl wq_848 wq_28 wq_845 wq_846 wq_847 rfl rfl (by decide) ⟨Nat.le_of_ble_eq_true rfl, Nat.le_of_ble_eq_true rfl⟩ rfl rfl (Nat.le_of_ble_eq_true rfl) dX2_rightOfAll_6 hf (fun σ2 hf => ?_)
  refine x_aload_n 0 (pc := 9) (i := 0) E dX2_rightOfAll_9 rfl rfl ?_
  refine x_callVrl (pc := 10) (na := 0) (As := []) E (c_X2_findsForA G 16 (Or.inl rfl) σ2) rfl (Nat.le_of_ble_eq_true rfl) rfl wq_329 wq_28 wq_326 wq_327 wq_328 rfl rfl (by decide) ⟨Nat.le_of_ble_eq_true rfl, Nat.le_of_ble_eq_true rfl⟩ rfl rfl (Nat.le_of_ble_eq_true rfl) dX2_rightOfAll_10 hf (fun r3 hf => ?_)
  refine x_lstore_n (pc := 13) (lv' := [(2, .long r3), (0, .ref (gad G 16)), (1, .int v1)]) E dX2_rightOfAll_13 rfl (by decide) rfl ?_
  refine x_aload_n 1 (pc := 14) (i := 0) E dX2_rightOfAll_14 rfl rfl ?_
  refine x_aload_n 1 (pc := 15) (i := 0) E dX2_rightOfAll_15 rfl rfl ?_
  refine x_getR (pc := 16) (r := 18) (p := 1) E rfl (Nat.le_of_ble_eq_true rfl) rfl inlX2 (by decide) rfl wq_61 dX2_rightOfAll_16 ?_
  refine x_iload_n 2 (pc := 19) (i := 1) E dX2_rightOfAll_19 rfl rfl ?_
  refine x_callVwv (pc := 20) (na := 2) (As := [.ref (gad G 18), .int v1]) E (c_X2_spreadOutAll G 18 rfl (Nat.le_of_ble_eq_true rfl) v1 σ2) rfl (Nat.le_of_ble_eq_true rfl) rfl wq_848 wq_28 wq_845 wq_846 wq_847 rfl rfl (by decide) ⟨Nat.le_of_ble_eq_true rfl, Nat.le_of_ble_eq_true rfl⟩ rfl rfl (Nat.le_of_ble_eq_true rfl) dX2_rightOfAll_20 hf (fun σ5 hf => ?_)
  refine x_aload_n 1 (pc := 23) (i := 0) E dX2_rightOfAll_23 rfl rfl ?_
  refine x_getI (pc := 24) (p := 6) E rfl (Nat.le_of_ble_eq_true rfl) rfl inlX2 (by decide) rfl wq_90 dX2_rightOfAll_24 ?_
  refine x_i2l (pc := 27) E dX2_rightOfAll_27 ?_
  refine x_lload_n 0 (pc := 28) (i := 2) E dX2_rightOfAll_28 rfl rfl ?_
  refine x_lmul (pc := 29) E dX2_rightOfAll_29 ?_
  refine x_bipush (pc := 30) (v := (100 : Int32)) E dX2_rightOfAll_30 rfl ?_
  refine x_aload_n 1 (pc := 32) (i := 0) E dX2_rightOfAll_32 rfl rfl ?_
  refine x_getI (pc := 33) (p := 6) E rfl (Nat.le_of_ble_eq_true rfl) rfl inlX2 (by decide) rfl wq_90 dX2_rightOfAll_33 ?_
  refine x_isub (pc := 36) E dX2_rightOfAll_36 ?_
  refine x_i2l (pc := 37) E dX2_rightOfAll_37 ?_
  refine x_aload_n 1 (pc := 38) (i := 0) E dX2_rightOfAll_38 rfl rfl ?_
  refine x_callVrl (pc := 39) (na := 0) (As := []) E (c_X2_findsForB G σ5) rfl (Nat.le_of_ble_eq_true rfl) rfl wq_380 wq_28 wq_377 wq_378 wq_379 rfl rfl (by decide) ⟨Nat.le_of_ble_eq_true rfl, Nat.le_of_ble_eq_true rfl⟩ rfl rfl (Nat.le_of_ble_eq_true rfl) dX2_rightOfAll_39 hf (fun r6 hf => ?_)
  refine x_lmul (pc := 42) E dX2_rightOfAll_42 ?_
  refine x_ladd (pc := 43) E dX2_rightOfAll_43 ?_
  obtain ⟨rfl, rfl⟩ := Prod.mk.inj (Option.some.inj hf)
  exact x_lret (pc := 44) E hR dX2_rightOfAll_44
set_option maxHeartbeats 4000000 in
set_option maxRecDepth 100000 in
theorem c_X6_lot (G : Gx) (v1 : Int32) (σ : MM) (r : Int64) (σ' : MM) (hf : f_X6_lot v1 σ = some (r, σ')) : Ct shS 56 yX6_lot cX6_lot 3 (some .long) rm_X6_lot G [.ref (gad G 0), .int v1] σ (some (.long r)) σ' := by
  refine ct_of (by decide) (Nat.le_of_ble_eq_true rfl) (fun K E hR => ?_)
  have E : OKc 56 cX6_lot 3 RX6 G K := E
  show XJ shS 56 3 rm_X6_lot G K σ [(0, .ref (gad G 0)), (1, .int v1)] 0 []
  unfold f_X6_lot at hf
  refine x_iload_n 1 (pc := 0) (i := 1) E dX6_lot_0 rfl rfl ?_
  refine x_if_lt (y := 0) (pc := 1) (tgt := 9) E dX6_lot_1 (by decide) hf (fun hf => ?_) (fun hf => ?_)
  · refine x_aload_n 0 (pc := 9) (i := 0) E dX6_lot_9 rfl rfl ?_
    refine x_bipush (pc := 10) (v := (-2 : Int32)) E dX6_lot_10 rfl ?_
    refine x_callVwl (pc := 12) (na := 1) (As := [.int (-2 : Int32)]) E (c_X6_refuseLong G (-2 : Int32) σ) rfl (Nat.le_of_ble_eq_true rfl) rfl wq_316 wq_2 wq_313 wq_314 wq_315 rfl rfl (by decide) ⟨Nat.le_of_ble_eq_true rfl, Nat.le_of_ble_eq_true rfl⟩ rfl rfl (Nat.le_of_ble_eq_true rfl) dX6_lot_12 hf (fun r1 σ2 hf => ?_)
    obtain ⟨rfl, rfl⟩ := Prod.mk.inj (Option.some.inj hf)
    exact x_lret (pc := 15) E hR dX6_lot_15
  · refine x_iload_n 1 (pc := 4) (i := 1) E dX6_lot_4 rfl rfl ?_
    refine x_iconst (pc := 5) (v := (1 : Int32)) E dX6_lot_5 rfl ?_
    refine x_icmp_le (pc := 6) (tgt := 16) E dX6_lot_6 (by decide) hf (fun hf => ?_) (fun hf => ?_)
    · refine x_aload_n 0 (pc := 16) (i := 0) E dX6_lot_16 rfl rfl ?_
      refine x_getR (pc := 17) (r := 1) (p := 0) E rfl (Nat.le_of_ble_eq_true rfl) rfl inlX6 (by decide) rfl wq_17 dX6_lot_17 ?_
      refine x_callVNri (pc := 20) (na := 0) (As := []) E (c_X0_needed G σ) rfl (Nat.le_of_ble_eq_true rfl) rfl wq_93 wq_16 wn_32 wq_91 wq_92 rfl rfl (by decide) ⟨Nat.le_of_ble_eq_true rfl, Nat.le_of_ble_eq_true rfl⟩ rfl rfl (Nat.le_of_ble_eq_true rfl) dX6_lot_20 hf (fun r3 hf => ?_)
      refine x_istore_n (pc := 23) (lv' := [(2, .int r3), (0, .ref (gad G 0)), (1, .int v1)]) E dX6_lot_23 rfl (by decide) rfl ?_
      refine x_aload_n 1 (pc := 24) (i := 0) E dX6_lot_24 rfl rfl ?_
      refine x_getR (pc := 25) (r := 1) (p := 0) E rfl (Nat.le_of_ble_eq_true rfl) rfl inlX6 (by decide) rfl wq_17 dX6_lot_25 ?_
      refine x_getIN (pc := 28) (p := 4) E rfl (Nat.le_of_ble_eq_true rfl) rfl inlX0 (by decide) rfl wn_13 dX6_lot_28 ?_
      refine x_iload_n 0 (pc := 31) (i := 2) E dX6_lot_31 rfl rfl ?_
      refine x_icmp_ge (pc := 32) (tgt := 42) E dX6_lot_32 (by decide) hf (fun hf => ?_) (fun hf => ?_)
      · refine x_iload_n 2 (pc := 42) (i := 1) E dX6_lot_42 rfl rfl ?_
        refine x_iconst (pc := 43) (v := (1 : Int32)) E dX6_lot_43 rfl ?_
        refine x_icmp_ne (pc := 44) (tgt := 59) E dX6_lot_44 (by decide) hf (fun hf => ?_) (fun hf => ?_)
        · refine x_aload_n 1 (pc := 59) (i := 0) E dX6_lot_59 rfl rfl ?_
          refine x_getR (pc := 60) (r := 16) (p := 7) E rfl (Nat.le_of_ble_eq_true rfl) rfl inlX6 (by decide) rfl wq_29 dX6_lot_60 ?_
          refine x_aload_n 1 (pc := 63) (i := 0) E dX6_lot_63 rfl rfl ?_
          refine x_getR (pc := 64) (r := 1) (p := 0) E rfl (Nat.le_of_ble_eq_true rfl) rfl inlX6 (by decide) rfl wq_17 dX6_lot_64 ?_
          refine x_getIN (pc := 67) (p := 4) E rfl (Nat.le_of_ble_eq_true rfl) rfl inlX0 (by decide) rfl wn_13 dX6_lot_67 ?_
          refine x_callVNwl (pc := 70) (na := 1) (As := [.int (σ.1 1 4)]) E (c_X2_rightOfAll G (σ.1 1 4) σ) rfl (Nat.le_of_ble_eq_true rfl) rfl wq_844 wq_28 wn_64 wq_842 wq_843 rfl rfl (by decide) ⟨Nat.le_of_ble_eq_true rfl, Nat.le_of_ble_eq_true rfl⟩ rfl rfl (Nat.le_of_ble_eq_true rfl) dX6_lot_70 hf (fun r4 σ5 hf => ?_)
          obtain ⟨rfl, rfl⟩ := Prod.mk.inj (Option.some.inj hf)
          exact x_lret (pc := 73) E hR dX6_lot_73
        · refine x_aload_n 1 (pc := 47) (i := 0) E dX6_lot_47 rfl rfl ?_
          refine x_getR (pc := 48) (r := 1) (p := 0) E rfl (Nat.le_of_ble_eq_true rfl) rfl inlX6 (by decide) rfl wq_17 dX6_lot_48 ?_
          refine x_getIN (pc := 51) (p := 4) E rfl (Nat.le_of_ble_eq_true rfl) rfl inlX0 (by decide) rfl wn_13 dX6_lot_51 ?_
          refine x_iload_n 0 (pc := 54) (i := 2) E dX6_lot_54 rfl rfl ?_
          refine x_callSrl (pc := 55) (na := 2) (As := [.int (σ.1 1 4), .int r3]) E (c_X6_ways G (σ.1 1 4) r3 σ) wq_807 wq_2 wq_805 wq_806 rfl rfl (by decide) ⟨Nat.le_of_ble_eq_true rfl, Nat.le_of_ble_eq_true rfl⟩ rfl rfl (Nat.le_of_ble_eq_true rfl) dX6_lot_55 hf (fun r6 hf => ?_)
          obtain ⟨rfl, rfl⟩ := Prod.mk.inj (Option.some.inj hf)
          exact x_lret (pc := 58) E hR dX6_lot_58
      · refine x_aload_n 1 (pc := 35) (i := 0) E dX6_lot_35 rfl rfl ?_
        refine x_bipush (pc := 36) (v := (-3 : Int32)) E dX6_lot_36 rfl ?_
        refine x_callVwl (pc := 38) (na := 1) (As := [.int (-3 : Int32)]) E (c_X6_refuseLong G (-3 : Int32) σ) rfl (Nat.le_of_ble_eq_true rfl) rfl wq_316 wq_2 wq_313 wq_314 wq_315 rfl rfl (by decide) ⟨Nat.le_of_ble_eq_true rfl, Nat.le_of_ble_eq_true rfl⟩ rfl rfl (Nat.le_of_ble_eq_true rfl) dX6_lot_38 hf (fun r7 σ8 hf => ?_)
        obtain ⟨rfl, rfl⟩ := Prod.mk.inj (Option.some.inj hf)
        exact x_lret (pc := 41) E hR dX6_lot_41
    · refine x_aload_n 0 (pc := 9) (i := 0) E dX6_lot_9 rfl rfl ?_
      refine x_bipush (pc := 10) (v := (-2 : Int32)) E dX6_lot_10 rfl ?_
      refine x_callVwl (pc := 12) (na := 1) (As := [.int (-2 : Int32)]) E (c_X6_refuseLong G (-2 : Int32) σ) rfl (Nat.le_of_ble_eq_true rfl) rfl wq_316 wq_2 wq_313 wq_314 wq_315 rfl rfl (by decide) ⟨Nat.le_of_ble_eq_true rfl, Nat.le_of_ble_eq_true rfl⟩ rfl rfl (Nat.le_of_ble_eq_true rfl) dX6_lot_12 hf (fun r9 σ10 hf => ?_)
      obtain ⟨rfl, rfl⟩ := Prod.mk.inj (Option.some.inj hf)
      exact x_lret (pc := 15) E hR dX6_lot_15
set_option maxHeartbeats 4000000 in
set_option maxRecDepth 100000 in
theorem l_X6_trade_30 (G : Gx) {K : Kx}    (σ : MM) (E : OKc 56 cX6_trade 5 RX6 G K) : ∀ (m : Nat) (v1 : Int32) (v2 : Int32) (v3 : Int32) (out : Int32), loopN (fun s => g_X6_trade_30 s.1 s.2.1 s.2.2 σ) m (v1, v2, v3) = some out → XJ shS 56 5 rm_X6_trade G K σ [(1, .int out)] 87 [] → XJ shS 56 5 rm_X6_trade G K σ [(0, .ref (gad G 0)), (1, .int v1), (2, .int v2), (3, .int v3)] 30 [] := by
  intro m
  induction m with
  | zero => intro v1 v2 v3 out hf; exact (loopN_0 hf).elim
  | succ m ih =>
    intro v1 v2 v3 out hf hk
    obtain ⟨q, hf, h2⟩ := loopN_s hf
    have hf : g_X6_trade_30 v1 v2 v3 σ = some q := hf
    unfold g_X6_trade_30 at hf
    refine x_iload_n 3 (pc := 30) (i := 3) E dX6_trade_30 rfl rfl ?_
    refine x_bipush (pc := 31) (v := (42 : Int32)) E dX6_trade_31 rfl ?_
    refine x_icmp_ge (pc := 33) (tgt := 87) E dX6_trade_33 (by decide) hf (fun hf => ?_) (fun hf => ?_)
    · obtain rfl := Option.some.inj hf
      obtain rfl := lpk_r h2
      exact x_sub [1] rfl hk
    · refine x_iload_n 2 (pc := 36) (i := 2) E dX6_trade_36 rfl rfl ?_
      refine x_aload_n 0 (pc := 37) (i := 0) E dX6_trade_37 rfl rfl ?_
      refine x_getR (pc := 38) (r := 1) (p := 0) E rfl (Nat.le_of_ble_eq_true rfl) rfl inlX6 (by decide) rfl wq_17 dX6_trade_38 ?_
      refine x_callVNri (pc := 41) (na := 0) (As := []) E (c_X0_needed G σ) rfl (Nat.le_of_ble_eq_true rfl) rfl wq_93 wq_16 wn_32 wq_91 wq_92 rfl rfl (by decide) ⟨Nat.le_of_ble_eq_true rfl, Nat.le_of_ble_eq_true rfl⟩ rfl rfl (Nat.le_of_ble_eq_true rfl) dX6_trade_41 hf (fun r2 hf => ?_)
      refine x_icmp_ge (pc := 44) (tgt := 87) E dX6_trade_44 (by decide) hf (fun hf => ?_) (fun hf => ?_)
      · obtain rfl := Option.some.inj hf
        obtain rfl := lpk_r h2
        exact x_sub [1] rfl hk
      · refine x_aload_n 0 (pc := 47) (i := 0) E dX6_trade_47 rfl rfl ?_
        refine x_getR (pc := 48) (r := 1) (p := 0) E rfl (Nat.le_of_ble_eq_true rfl) rfl inlX6 (by decide) rfl wq_17 dX6_trade_48 ?_
        refine x_iload_n 3 (pc := 51) (i := 3) E dX6_trade_51 rfl rfl ?_
        refine x_bipush (pc := 52) (v := (6 : Int32)) E dX6_trade_52 rfl ?_
        refine x_irem (pc := 54) E dX6_trade_54 hf (fun hf => ?_)
        refine x_callVNri (pc := 55) (na := 1) (As := [.int (v3 - v3 / (6 : Int32) * (6 : Int32))]) E (c_X0_ofSort G (v3 - v3 / (6 : Int32) * (6 : Int32)) σ) rfl (Nat.le_of_ble_eq_true rfl) rfl wq_814 wq_16 wn_60 wq_812 wq_813 rfl rfl (by decide) ⟨Nat.le_of_ble_eq_true rfl, Nat.le_of_ble_eq_true rfl⟩ rfl rfl (Nat.le_of_ble_eq_true rfl) dX6_trade_55 hf (fun r3 hf => ?_)
        refine x_iload_n 1 (pc := 58) (i := 1) E dX6_trade_58 rfl rfl ?_
        refine x_iconst (pc := 59) (v := (-1 : Int32)) E dX6_trade_59 rfl ?_
        refine x_ixor (pc := 60) E dX6_trade_60 ?_
        refine x_iand (pc := 61) E dX6_trade_61 ?_
        refine x_istore (pc := 62) (lv' := [(4, .int (r3 &&& (v1 ^^^ (-1 : Int32)))), (0, .ref (gad G 0)), (1, .int v1), (2, .int v2), (3, .int v3)]) E dX6_trade_62 (by decide) rfl ?_
        refine x_iload 0 (pc := 64) E dX6_trade_64 rfl ?_
        refine x_if_eq (y := 0) (pc := 66) (tgt := 81) E dX6_trade_66 (by decide) hf (fun hf => ?_) (fun hf => ?_)
        · refine x_iinc 4 (pc := 81) (v := v3 + 1) (lv' := [(3, .int (v3 + 1)), (4, .int (r3 &&& (v1 ^^^ (-1 : Int32)))), (0, .ref (gad G 0)), (1, .int v1), (2, .int v2)]) E dX6_trade_81 rfl rfl (by decide) rfl ?_
          refine x_goto (pc := 84) (tgt := 30) E dX6_trade_84 (by decide) ?_
          obtain rfl := Option.some.inj hf
          exact x_sub [2, 3, 4, 0] rfl (ih _ _ _ _ (lpk_l h2) hk)
        · refine x_iload_n 2 (pc := 69) (i := 1) E dX6_trade_69 rfl rfl ?_
          refine x_iload 0 (pc := 70) E dX6_trade_70 rfl ?_
          refine x_iload 0 (pc := 72) E dX6_trade_72 rfl ?_
          refine x_ineg (pc := 74) E dX6_trade_74 ?_
          refine x_iand (pc := 75) E dX6_trade_75 ?_
          refine x_ior (pc := 76) E dX6_trade_76 ?_
          refine x_istore_n (pc := 77) (lv' := [(1, .int (v1 ||| ((r3 &&& (v1 ^^^ (-1 : Int32))) &&& (-(r3 &&& (v1 ^^^ (-1 : Int32))))))), (4, .int (r3 &&& (v1 ^^^ (-1 : Int32)))), (0, .ref (gad G 0)), (2, .int v2), (3, .int v3)]) E dX6_trade_77 rfl (by decide) rfl ?_
          refine x_iinc 3 (pc := 78) (v := v2 + 1) (lv' := [(2, .int (v2 + 1)), (1, .int (v1 ||| ((r3 &&& (v1 ^^^ (-1 : Int32))) &&& (-(r3 &&& (v1 ^^^ (-1 : Int32))))))), (4, .int (r3 &&& (v1 ^^^ (-1 : Int32)))), (0, .ref (gad G 0)), (3, .int v3)]) E dX6_trade_78 rfl rfl (by decide) rfl ?_
          refine x_iinc 4 (pc := 81) (v := v3 + 1) (lv' := [(3, .int (v3 + 1)), (2, .int (v2 + 1)), (1, .int (v1 ||| ((r3 &&& (v1 ^^^ (-1 : Int32))) &&& (-(r3 &&& (v1 ^^^ (-1 : Int32))))))), (4, .int (r3 &&& (v1 ^^^ (-1 : Int32)))), (0, .ref (gad G 0))]) E dX6_trade_81 rfl rfl (by decide) rfl ?_
          refine x_goto (pc := 84) (tgt := 30) E dX6_trade_84 (by decide) ?_
          obtain rfl := Option.some.inj hf
          exact x_sub [4, 2, 1, 0] rfl (ih _ _ _ _ (lpk_l h2) hk)
set_option maxHeartbeats 4000000 in
set_option maxRecDepth 100000 in
theorem c_X6_trade (G : Gx) (σ : MM) (r : Int32) (σ' : MM) (hf : f_X6_trade σ = some (r, σ')) : Ct shS 56 yX6_trade cX6_trade 5 (some .int) rm_X6_trade G [.ref (gad G 0)] σ (some (.int r)) σ' := by
  refine ct_of (by decide) (Nat.le_of_ble_eq_true rfl) (fun K E hR => ?_)
  have E : OKc 56 cX6_trade 5 RX6 G K := E
  show XJ shS 56 5 rm_X6_trade G K σ [(0, .ref (gad G 0))] 0 []
  unfold f_X6_trade at hf
  refine x_aload_n 0 (pc := 0) (i := 0) E dX6_trade_0 rfl rfl ?_
  refine x_getR (pc := 1) (r := 1) (p := 0) E rfl (Nat.le_of_ble_eq_true rfl) rfl inlX6 (by decide) rfl wq_17 dX6_trade_1 ?_
  refine x_getIN (pc := 4) (p := 4) E rfl (Nat.le_of_ble_eq_true rfl) rfl inlX0 (by decide) rfl wn_13 dX6_trade_4 ?_
  refine x_aload_n 0 (pc := 7) (i := 0) E dX6_trade_7 rfl rfl ?_
  refine x_getR (pc := 8) (r := 1) (p := 0) E rfl (Nat.le_of_ble_eq_true rfl) rfl inlX6 (by decide) rfl wq_17 dX6_trade_8 ?_
  refine x_callVNri (pc := 11) (na := 0) (As := []) E (c_X0_needed G σ) rfl (Nat.le_of_ble_eq_true rfl) rfl wq_93 wq_16 wn_32 wq_91 wq_92 rfl rfl (by decide) ⟨Nat.le_of_ble_eq_true rfl, Nat.le_of_ble_eq_true rfl⟩ rfl rfl (Nat.le_of_ble_eq_true rfl) dX6_trade_11 hf (fun r1 hf => ?_)
  refine x_icmp_ge (pc := 14) (tgt := 24) E dX6_trade_14 (by decide) hf (fun hf => ?_) (fun hf => ?_)
  · refine x_iconst (pc := 24) (v := (0 : Int32)) E dX6_trade_24 rfl ?_
    refine x_istore_n (pc := 25) (lv' := [(1, .int (0 : Int32)), (0, .ref (gad G 0))]) E dX6_trade_25 rfl (by decide) rfl ?_
    refine x_iconst (pc := 26) (v := (0 : Int32)) E dX6_trade_26 rfl ?_
    refine x_istore_n (pc := 27) (lv' := [(2, .int (0 : Int32)), (1, .int (0 : Int32)), (0, .ref (gad G 0))]) E dX6_trade_27 rfl (by decide) rfl ?_
    refine x_iconst (pc := 28) (v := (0 : Int32)) E dX6_trade_28 rfl ?_
    refine x_istore_n (pc := 29) (lv' := [(3, .int (0 : Int32)), (2, .int (0 : Int32)), (1, .int (0 : Int32)), (0, .ref (gad G 0))]) E dX6_trade_29 rfl (by decide) rfl ?_
    obtain ⟨o4, hl5, hf⟩ := bind_some hf
    refine x_sub [3, 2, 1, 0] rfl (l_X6_trade_30 G    σ E FU _ _ _ o4 hl5 ?_)
    refine x_iload_n 0 (pc := 87) (i := 1) E dX6_trade_87 rfl rfl ?_
    obtain ⟨rfl, rfl⟩ := Prod.mk.inj (Option.some.inj hf)
    exact x_iret (pc := 88) E hR dX6_trade_88
  · refine x_aload_n 0 (pc := 17) (i := 0) E dX6_trade_17 rfl rfl ?_
    refine x_bipush (pc := 18) (v := (-3 : Int32)) E dX6_trade_18 rfl ?_
    refine x_callVwi (pc := 20) (na := 1) (As := [.int (-3 : Int32)]) E (c_X6_refuse G (-3 : Int32) σ) rfl (Nat.le_of_ble_eq_true rfl) rfl wq_133 wq_2 wq_130 wq_131 wq_132 rfl rfl (by decide) ⟨Nat.le_of_ble_eq_true rfl, Nat.le_of_ble_eq_true rfl⟩ rfl rfl (Nat.le_of_ble_eq_true rfl) dX6_trade_20 hf (fun r6 σ7 hf => ?_)
    obtain ⟨rfl, rfl⟩ := Prod.mk.inj (Option.some.inj hf)
    exact x_iret (pc := 23) E hR dX6_trade_23
set_option maxHeartbeats 4000000 in
set_option maxRecDepth 100000 in
theorem c_X2_lean (G : Gx) (b : Nat) (h_b : isMd b) (v1 : Int32) (v2 : Int32) (v3 : Int32) (σ : MM) (σ' : MM) (hf : f_X2_lean b v1 v2 v3 σ = some σ') : Ct shS 56 yX2_lean cX2_lean 4 none rm_X2_lean G [.ref (gad G b), .int v1, .int v2, .int v3] σ none σ' := by
  obtain ⟨hs_b_0, hs_b_1, hs_b_2, hs_b_3, hs_b_4⟩ := sh_isMd h_b
  obtain ⟨hk_b_0, hk_b_1, hk_b_2, hk_b_3, hk_b_4⟩ := lt_isMd h_b
  refine ct_of (by decide) (Nat.le_of_ble_eq_true rfl) (fun K E hR => ?_)
  have E : OKc 56 cX2_lean 4 RX2 G K := E
  show XJ shS 56 4 rm_X2_lean G K σ [(0, .ref (gad G b)), (1, .int v1), (2, .int v2), (3, .int v3)] 0 []
  unfold f_X2_lean at hf
  refine x_aload_n 0 (pc := 0) (i := 0) E dX2_lean_0 rfl rfl ?_
  refine x_getR (pc := 1) (r := (b + 1)) (p := 0) E hs_b_0 hk_b_0 rfl inlX2 (by decide) rfl wq_60 dX2_lean_1 ?_
  refine x_iload_n 1 (pc := 4) (i := 1) E dX2_lean_4 rfl rfl ?_
  refine x_iload_n 2 (pc := 5) (i := 2) E dX2_lean_5 rfl rfl ?_
  refine x_iastore (pc := 6) E hs_b_1 hk_b_1 dX2_lean_6 hf (fun σ1 hf => ?_)
  refine x_aload_n 0 (pc := 7) (i := 0) E dX2_lean_7 rfl rfl ?_
  refine x_getR (pc := 8) (r := (b + 2)) (p := 1) E hs_b_0 hk_b_0 rfl inlX2 (by decide) rfl wq_61 dX2_lean_8 ?_
  refine x_iload_n 1 (pc := 11) (i := 1) E dX2_lean_11 rfl rfl ?_
  refine x_iload_n 3 (pc := 12) (i := 3) E dX2_lean_12 rfl rfl ?_
  refine x_iastore (pc := 13) E hs_b_2 hk_b_2 dX2_lean_13 hf (fun σ2 hf => ?_)
  obtain rfl := Option.some.inj hf
  exact x_vret (pc := 14) E hR dX2_lean_14
set_option maxHeartbeats 4000000 in
set_option maxRecDepth 100000 in
theorem l_X6_juryOfTwoMinds_18 (G : Gx) {K : Kx}   (v2 : Int32) (σ : MM) (E : OKc 56 cX6_juryOfTwoMinds 6 RX6 G K) : ∀ (m : Nat) (v1 : Int32) (v3 : Int32) (out : Int32), loopN (fun s => g_X6_juryOfTwoMinds_18 v2 s.1 s.2 σ) m (v1, v3) = some out → XJ shS 56 6 rm_X6_juryOfTwoMinds G K σ [(1, .int out)] 82 [] → XJ shS 56 6 rm_X6_juryOfTwoMinds G K σ [(0, .ref (gad G 0)), (1, .int v1), (2, .int v2), (3, .int v3)] 18 [] := by
  intro m
  induction m with
  | zero => intro v1 v3 out hf; exact (loopN_0 hf).elim
  | succ m ih =>
    intro v1 v3 out hf hk
    obtain ⟨q, hf, h2⟩ := loopN_s hf
    have hf : g_X6_juryOfTwoMinds_18 v2 v1 v3 σ = some q := hf
    unfold g_X6_juryOfTwoMinds_18 at hf
    refine x_iload_n 3 (pc := 18) (i := 3) E dX6_juryOfTwoMinds_18 rfl rfl ?_
    refine x_iload_n 2 (pc := 19) (i := 2) E dX6_juryOfTwoMinds_19 rfl rfl ?_
    refine x_icmp_ge (pc := 20) (tgt := 82) E dX6_juryOfTwoMinds_20 (by decide) hf (fun hf => ?_) (fun hf => ?_)
    · obtain rfl := Option.some.inj hf
      obtain rfl := lpk_r h2
      exact x_sub [1] rfl hk
    · refine x_aload_n 0 (pc := 23) (i := 0) E dX6_juryOfTwoMinds_23 rfl rfl ?_
      refine x_getR (pc := 24) (r := 1) (p := 0) E rfl (Nat.le_of_ble_eq_true rfl) rfl inlX6 (by decide) rfl wq_17 dX6_juryOfTwoMinds_24 ?_
      refine x_iload_n 3 (pc := 27) (i := 3) E dX6_juryOfTwoMinds_27 rfl rfl ?_
      refine x_callVNri (pc := 28) (na := 1) (As := [.int v3]) E (c_X0_sideAt G v3 σ) rfl (Nat.le_of_ble_eq_true rfl) rfl wq_817 wq_16 wn_61 wq_815 wq_816 rfl rfl (by decide) ⟨Nat.le_of_ble_eq_true rfl, Nat.le_of_ble_eq_true rfl⟩ rfl rfl (Nat.le_of_ble_eq_true rfl) dX6_juryOfTwoMinds_28 hf (fun r3 hf => ?_)
      obtain ⟨o4, hf6, hf⟩ := bind_some hf
      have hJ5 : XJ shS 56 6 rm_X6_juryOfTwoMinds G K σ [(0, .ref (gad G 0)), (1, .int v1), (2, .int v2), (3, .int v3)] 39 [.int o4] := by
        refine x_istore (pc := 39) (lv' := [(4, .int o4), (0, .ref (gad G 0)), (1, .int v1), (2, .int v2), (3, .int v3)]) E dX6_juryOfTwoMinds_39 (by decide) rfl ?_
        refine x_iload 0 (pc := 41) E dX6_juryOfTwoMinds_41 rfl ?_
        obtain ⟨o9, hf11, hf⟩ := bind_some hf
        have hJ10 : XJ shS 56 6 rm_X6_juryOfTwoMinds G K σ [(0, .ref (gad G 0)), (1, .int v1), (2, .int v2), (3, .int v3)] 65 [.int o9] := by
          refine x_istore (pc := 65) (lv' := [(5, .int o9), (0, .ref (gad G 0)), (1, .int v1), (2, .int v2), (3, .int v3)]) E dX6_juryOfTwoMinds_65 (by decide) rfl ?_
          refine x_iload_n 2 (pc := 67) (i := 1) E dX6_juryOfTwoMinds_67 rfl rfl ?_
          refine x_iconst (pc := 68) (v := (1 : Int32)) E dX6_juryOfTwoMinds_68 rfl ?_
          refine x_iload 0 (pc := 69) E dX6_juryOfTwoMinds_69 rfl ?_
          refine x_ishl (pc := 71) E dX6_juryOfTwoMinds_71 ?_
          refine x_iconst (pc := 72) (v := (-1 : Int32)) E dX6_juryOfTwoMinds_72 rfl ?_
          refine x_ixor (pc := 73) E dX6_juryOfTwoMinds_73 ?_
          refine x_iand (pc := 74) E dX6_juryOfTwoMinds_74 ?_
          refine x_istore_n (pc := 75) (lv' := [(1, .int (v1 &&& (((1 : Int32) <<< (o9 &&& 31)) ^^^ (-1 : Int32)))), (5, .int o9), (0, .ref (gad G 0)), (2, .int v2), (3, .int v3)]) E dX6_juryOfTwoMinds_75 rfl (by decide) rfl ?_
          refine x_iinc 4 (pc := 76) (v := v3 + 1) (lv' := [(3, .int (v3 + 1)), (1, .int (v1 &&& (((1 : Int32) <<< (o9 &&& 31)) ^^^ (-1 : Int32)))), (5, .int o9), (0, .ref (gad G 0)), (2, .int v2)]) E dX6_juryOfTwoMinds_76 rfl rfl (by decide) rfl ?_
          refine x_goto (pc := 79) (tgt := 18) E dX6_juryOfTwoMinds_79 (by decide) ?_
          obtain rfl := Option.some.inj hf
          exact x_sub [3, 1, 4, 0] rfl (ih _ _ _ (lpk_l h2) hk)
        refine x_if_eq (y := 0) (pc := 43) (tgt := 57) E dX6_juryOfTwoMinds_43 (by decide) hf11 (fun hf11 => ?_) (fun hf11 => ?_)
        · refine x_aload_n 1 (pc := 57) (i := 0) E dX6_juryOfTwoMinds_57 rfl rfl ?_
          refine x_getR (pc := 58) (r := 42) (p := 9) E rfl (Nat.le_of_ble_eq_true rfl) rfl inlX6 (by decide) rfl wq_34 dX6_juryOfTwoMinds_58 ?_
          refine x_iload_n 2 (pc := 61) (i := 1) E dX6_juryOfTwoMinds_61 rfl rfl ?_
          refine x_callVNri (pc := 62) (na := 1) (As := [.int v1]) E (c_X5_strikeFrom G 42 (Or.inl rfl) v1 σ) rfl (Nat.le_of_ble_eq_true rfl) rfl wq_473 wq_33 wn_39 wq_471 wq_472 rfl rfl (by decide) ⟨Nat.le_of_ble_eq_true rfl, Nat.le_of_ble_eq_true rfl⟩ rfl rfl (Nat.le_of_ble_eq_true rfl) dX6_juryOfTwoMinds_62 hf11 (fun r12 hf11 => ?_)
          obtain rfl := Option.some.inj hf11
          exact x_sub [1, 2, 3, 4] rfl hJ10
        · refine x_aload_n 1 (pc := 46) (i := 0) E dX6_juryOfTwoMinds_46 rfl rfl ?_
          refine x_getR (pc := 47) (r := 46) (p := 10) E rfl (Nat.le_of_ble_eq_true rfl) rfl inlX6 (by decide) rfl wq_35 dX6_juryOfTwoMinds_47 ?_
          refine x_iload_n 2 (pc := 50) (i := 1) E dX6_juryOfTwoMinds_50 rfl rfl ?_
          refine x_callVNri (pc := 51) (na := 1) (As := [.int v1]) E (c_X5_strikeFrom G 46 (Or.inr rfl) v1 σ) rfl (Nat.le_of_ble_eq_true rfl) rfl wq_473 wq_33 wn_39 wq_471 wq_472 rfl rfl (by decide) ⟨Nat.le_of_ble_eq_true rfl, Nat.le_of_ble_eq_true rfl⟩ rfl rfl (Nat.le_of_ble_eq_true rfl) dX6_juryOfTwoMinds_51 hf11 (fun r13 hf11 => ?_)
          refine x_goto (pc := 54) (tgt := 65) E dX6_juryOfTwoMinds_54 (by decide) ?_
          obtain rfl := Option.some.inj hf11
          exact x_sub [1, 2, 3, 4] rfl hJ10
      refine x_if_ne (y := 0) (pc := 31) (tgt := 38) E dX6_juryOfTwoMinds_31 (by decide) hf6 (fun hf6 => ?_) (fun hf6 => ?_)
      · refine x_iconst (pc := 38) (v := (0 : Int32)) E dX6_juryOfTwoMinds_38 rfl ?_
        obtain rfl := Option.some.inj hf6
        exact x_sub [0, 1, 2, 3] rfl hJ5
      · refine x_iconst (pc := 34) (v := (1 : Int32)) E dX6_juryOfTwoMinds_34 rfl ?_
        refine x_goto (pc := 35) (tgt := 39) E dX6_juryOfTwoMinds_35 (by decide) ?_
        obtain rfl := Option.some.inj hf6
        exact x_sub [0, 1, 2, 3] rfl hJ5
set_option maxHeartbeats 4000000 in
set_option maxRecDepth 100000 in
theorem c_X6_juryOfTwoMinds (G : Gx) (σ : MM) (r : Int32) (hf : f_X6_juryOfTwoMinds σ = some r) : Ct shS 56 yX6_juryOfTwoMinds cX6_juryOfTwoMinds 6 (some .int) rm_X6_juryOfTwoMinds G [.ref (gad G 0)] σ (some (.int r)) σ := by
  refine ct_of (by decide) (Nat.le_of_ble_eq_true rfl) (fun K E hR => ?_)
  have E : OKc 56 cX6_juryOfTwoMinds 6 RX6 G K := E
  show XJ shS 56 6 rm_X6_juryOfTwoMinds G K σ [(0, .ref (gad G 0))] 0 []
  unfold f_X6_juryOfTwoMinds at hf
  refine x_aload_n 0 (pc := 0) (i := 0) E dX6_juryOfTwoMinds_0 rfl rfl ?_
  refine x_getR (pc := 1) (r := 1) (p := 0) E rfl (Nat.le_of_ble_eq_true rfl) rfl inlX6 (by decide) rfl wq_17 dX6_juryOfTwoMinds_1 ?_
  refine x_callVNri (pc := 4) (na := 0) (As := []) E (c_X0_calledSet G σ) rfl (Nat.le_of_ble_eq_true rfl) rfl wq_504 wq_16 wn_41 wq_502 wq_503 rfl rfl (by decide) ⟨Nat.le_of_ble_eq_true rfl, Nat.le_of_ble_eq_true rfl⟩ rfl rfl (Nat.le_of_ble_eq_true rfl) dX6_juryOfTwoMinds_4 hf (fun r1 hf => ?_)
  refine x_istore_n (pc := 7) (lv' := [(1, .int r1), (0, .ref (gad G 0))]) E dX6_juryOfTwoMinds_7 rfl (by decide) rfl ?_
  refine x_aload_n 1 (pc := 8) (i := 0) E dX6_juryOfTwoMinds_8 rfl rfl ?_
  refine x_getR (pc := 9) (r := 1) (p := 0) E rfl (Nat.le_of_ble_eq_true rfl) rfl inlX6 (by decide) rfl wq_17 dX6_juryOfTwoMinds_9 ?_
  refine x_callVNri (pc := 12) (na := 0) (As := []) E (c_X0_strikes G σ) rfl (Nat.le_of_ble_eq_true rfl) rfl wq_493 wq_16 wn_43 wq_491 wq_492 rfl rfl (by decide) ⟨Nat.le_of_ble_eq_true rfl, Nat.le_of_ble_eq_true rfl⟩ rfl rfl (Nat.le_of_ble_eq_true rfl) dX6_juryOfTwoMinds_12 hf (fun r2 hf => ?_)
  refine x_istore_n (pc := 15) (lv' := [(2, .int r2), (1, .int r1), (0, .ref (gad G 0))]) E dX6_juryOfTwoMinds_15 rfl (by decide) rfl ?_
  refine x_iconst (pc := 16) (v := (0 : Int32)) E dX6_juryOfTwoMinds_16 rfl ?_
  refine x_istore_n (pc := 17) (lv' := [(3, .int (0 : Int32)), (2, .int r2), (1, .int r1), (0, .ref (gad G 0))]) E dX6_juryOfTwoMinds_17 rfl (by decide) rfl ?_
  obtain ⟨o14, hl15, hf⟩ := bind_some hf
  refine x_sub [3, 2, 1, 0] rfl (l_X6_juryOfTwoMinds_18 G   r2 σ E FU _ _ o14 hl15 ?_)
  refine x_iload_n 0 (pc := 82) (i := 1) E dX6_juryOfTwoMinds_82 rfl rfl ?_
  obtain rfl := Option.some.inj hf
  exact x_iret (pc := 83) E hR dX6_juryOfTwoMinds_83
set_option maxHeartbeats 4000000 in
set_option maxRecDepth 100000 in
theorem l_X6_wrongly_51 (G : Gx) {K : Kx}   (v1 : Int32) (v2 : Int32) (v3 : Int32) (E : OKc 56 cX6_wrongly 6 RX6 G K) : ∀ (m : Nat) (v5 : Int32) (σ : MM) (out : MM), loopN (fun s => g_X6_wrongly_51 v1 v2 v3 s.1 s.2) m (v5, σ) = some out → XJ shS 56 6 rm_X6_wrongly G K out [(0, .ref (gad G 0))] 94 [] → XJ shS 56 6 rm_X6_wrongly G K σ [(0, .ref (gad G 0)), (1, .int v1), (2, .int v2), (3, .int v3), (5, .int v5)] 51 [] := by
  intro m
  induction m with
  | zero => intro v5 σ out hf; exact (loopN_0 hf).elim
  | succ m ih =>
    intro v5 σ out hf hk
    obtain ⟨q, hf, h2⟩ := loopN_s hf
    have hf : g_X6_wrongly_51 v1 v2 v3 v5 σ = some q := hf
    unfold g_X6_wrongly_51 at hf
    refine x_iload 4 (pc := 51) E dX6_wrongly_51 rfl ?_
    refine x_aload_n 0 (pc := 53) (i := 0) E dX6_wrongly_53 rfl rfl ?_
    refine x_getR (pc := 54) (r := 1) (p := 0) E rfl (Nat.le_of_ble_eq_true rfl) rfl inlX6 (by decide) rfl wq_17 dX6_wrongly_54 ?_
    refine x_getIN (pc := 57) (p := 4) E rfl (Nat.le_of_ble_eq_true rfl) rfl inlX0 (by decide) rfl wn_13 dX6_wrongly_57 ?_
    refine x_icmp_ge (pc := 60) (tgt := 94) E dX6_wrongly_60 (by decide) hf (fun hf => ?_) (fun hf => ?_)
    · obtain rfl := Option.some.inj hf
      obtain rfl := lpk_r h2
      exact x_sub [0] rfl hk
    · refine x_aload_n 0 (pc := 63) (i := 0) E dX6_wrongly_63 rfl rfl ?_
      refine x_getR (pc := 64) (r := 1) (p := 0) E rfl (Nat.le_of_ble_eq_true rfl) rfl inlX6 (by decide) rfl wq_17 dX6_wrongly_64 ?_
      refine x_getRN (pc := 67) (r := 4) (p := 2) E rfl (Nat.le_of_ble_eq_true rfl) rfl inlX0 (by decide) rfl wn_8 dX6_wrongly_67 ?_
      refine x_iload 4 (pc := 70) E dX6_wrongly_70 rfl ?_
      refine x_iaload (pc := 72) E rfl (Nat.le_of_ble_eq_true rfl) dX6_wrongly_72 hf (fun hf => ?_)
      refine x_iload_n 1 (pc := 73) (i := 1) E dX6_wrongly_73 rfl rfl ?_
      refine x_icmp_ne (pc := 74) (tgt := 88) E dX6_wrongly_74 (by decide) hf (fun hf => ?_) (fun hf => ?_)
      · refine x_iinc 4 (pc := 88) (v := v5 + 1) (lv' := [(5, .int (v5 + 1)), (0, .ref (gad G 0)), (1, .int v1), (2, .int v2), (3, .int v3)]) E dX6_wrongly_88 rfl rfl (by decide) rfl ?_
        refine x_goto (pc := 91) (tgt := 51) E dX6_wrongly_91 (by decide) ?_
        obtain rfl := Option.some.inj hf
        exact x_sub [1, 2, 3, 4, 0] rfl (ih _ _ _ (lpk_l h2) hk)
      · refine x_aload_n 0 (pc := 77) (i := 0) E dX6_wrongly_77 rfl rfl ?_
        refine x_getR (pc := 78) (r := 29) (p := 8) E rfl (Nat.le_of_ble_eq_true rfl) rfl inlX6 (by decide) rfl wq_30 dX6_wrongly_78 ?_
        refine x_iload 4 (pc := 81) E dX6_wrongly_81 rfl ?_
        refine x_iload_n 2 (pc := 83) (i := 2) E dX6_wrongly_83 rfl rfl ?_
        refine x_iload_n 3 (pc := 84) (i := 3) E dX6_wrongly_84 rfl rfl ?_
        refine x_callVNwv (pc := 85) (na := 3) (As := [.int v5, .int v2, .int v3]) E (c_X2_lean G 29 (Or.inr rfl) v5 v2 v3 σ) rfl (Nat.le_of_ble_eq_true rfl) rfl wq_867 wq_28 wn_65 wq_865 wq_866 rfl rfl (by decide) ⟨Nat.le_of_ble_eq_true rfl, Nat.le_of_ble_eq_true rfl⟩ rfl rfl (Nat.le_of_ble_eq_true rfl) dX6_wrongly_85 hf (fun σ6 hf => ?_)
        refine x_iinc 4 (pc := 88) (v := v5 + 1) (lv' := [(5, .int (v5 + 1)), (0, .ref (gad G 0)), (1, .int v1), (2, .int v2), (3, .int v3)]) E dX6_wrongly_88 rfl rfl (by decide) rfl ?_
        refine x_goto (pc := 91) (tgt := 51) E dX6_wrongly_91 (by decide) ?_
        obtain rfl := Option.some.inj hf
        exact x_sub [1, 2, 3, 4, 0] rfl (ih _ _ _ (lpk_l h2) hk)
set_option maxHeartbeats 4000000 in
set_option maxRecDepth 100000 in
theorem c_X6_wrongly (G : Gx) (v1 : Int32) (v2 : Int32) (v3 : Int32) (σ : MM) (r : Int64) (σ' : MM) (hf : f_X6_wrongly v1 v2 v3 σ = some (r, σ')) : Ct shS 56 yX6_wrongly cX6_wrongly 6 (some .long) rm_X6_wrongly G [.ref (gad G 0), .int v1, .int v2, .int v3] σ (some (.long r)) σ' := by
  refine ct_of (by decide) (Nat.le_of_ble_eq_true rfl) (fun K E hR => ?_)
  have E : OKc 56 cX6_wrongly 6 RX6 G K := E
  show XJ shS 56 6 rm_X6_wrongly G K σ [(0, .ref (gad G 0)), (1, .int v1), (2, .int v2), (3, .int v3)] 0 []
  unfold f_X6_wrongly at hf
  refine x_iload_n 1 (pc := 0) (i := 1) E dX6_wrongly_0 rfl rfl ?_
  refine x_iload_n 2 (pc := 1) (i := 2) E dX6_wrongly_1 rfl rfl ?_
  refine x_iload_n 3 (pc := 2) (i := 3) E dX6_wrongly_2 rfl rfl ?_
  refine x_callSri (pc := 3) (na := 3) (As := [.int v1, .int v2, .int v3]) E (c_X6_leansRefusal G v1 v2 v3 σ) wq_126 wq_2 wq_124 wq_125 rfl rfl (by decide) ⟨Nat.le_of_ble_eq_true rfl, Nat.le_of_ble_eq_true rfl⟩ rfl rfl (Nat.le_of_ble_eq_true rfl) dX6_wrongly_3 hf (fun r1 hf => ?_)
  refine x_istore (pc := 6) (lv' := [(4, .int r1), (0, .ref (gad G 0)), (1, .int v1), (2, .int v2), (3, .int v3)]) E dX6_wrongly_6 (by decide) rfl ?_
  refine x_iload 0 (pc := 8) E dX6_wrongly_8 rfl ?_
  refine x_if_eq (y := 0) (pc := 10) (tgt := 20) E dX6_wrongly_10 (by decide) hf (fun hf => ?_) (fun hf => ?_)
  · refine x_aload_n 1 (pc := 20) (i := 0) E dX6_wrongly_20 rfl rfl ?_
    refine x_getR (pc := 21) (r := 1) (p := 0) E rfl (Nat.le_of_ble_eq_true rfl) rfl inlX6 (by decide) rfl wq_17 dX6_wrongly_21 ?_
    refine x_callVNri (pc := 24) (na := 0) (As := []) E (c_X0_called G σ) rfl (Nat.le_of_ble_eq_true rfl) rfl wq_488 wq_16 wn_40 wq_486 wq_487 rfl rfl (by decide) ⟨Nat.le_of_ble_eq_true rfl, Nat.le_of_ble_eq_true rfl⟩ rfl rfl (Nat.le_of_ble_eq_true rfl) dX6_wrongly_24 hf (fun r2 hf => ?_)
    refine x_if_ne (y := 0) (pc := 27) (tgt := 37) E dX6_wrongly_27 (by decide) hf (fun hf => ?_) (fun hf => ?_)
    · refine x_aload_n 1 (pc := 37) (i := 0) E dX6_wrongly_37 rfl rfl ?_
      refine x_getR (pc := 38) (r := 29) (p := 8) E rfl (Nat.le_of_ble_eq_true rfl) rfl inlX6 (by decide) rfl wq_30 dX6_wrongly_38 ?_
      refine x_aload_n 1 (pc := 41) (i := 0) E dX6_wrongly_41 rfl rfl ?_
      refine x_getR (pc := 42) (r := 1) (p := 0) E rfl (Nat.le_of_ble_eq_true rfl) rfl inlX6 (by decide) rfl wq_17 dX6_wrongly_42 ?_
      refine x_callVNwv (pc := 45) (na := 1) (As := [.ref (gad G 1)]) E (c_X2_take G 29 (Or.inr rfl) σ) rfl (Nat.le_of_ble_eq_true rfl) rfl wq_87 wq_28 wn_22 wq_85 wq_86 rfl rfl (by decide) ⟨Nat.le_of_ble_eq_true rfl, Nat.le_of_ble_eq_true rfl⟩ rfl rfl (Nat.le_of_ble_eq_true rfl) dX6_wrongly_45 hf (fun σ4 hf => ?_)
      refine x_iconst (pc := 48) (v := (0 : Int32)) E dX6_wrongly_48 rfl ?_
      refine x_istore (pc := 49) (lv' := [(5, .int (0 : Int32)), (4, .int r1), (0, .ref (gad G 0)), (1, .int v1), (2, .int v2), (3, .int v3)]) E dX6_wrongly_49 (by decide) rfl ?_
      obtain ⟨o7, hl8, hf⟩ := bind_some hf
      refine x_sub [2, 3, 4, 5, 0] rfl (l_X6_wrongly_51 G   v1 v2 v3 E FU _ _ o7 hl8 ?_)
      refine x_aload_n 0 (pc := 94) (i := 0) E dX6_wrongly_94 rfl rfl ?_
      refine x_callVwv (pc := 95) (na := 0) (As := []) E (c_X6_knowTurns G o7) rfl (Nat.le_of_ble_eq_true rfl) rfl wq_501 wq_2 wq_498 wq_499 wq_500 rfl rfl (by decide) ⟨Nat.le_of_ble_eq_true rfl, Nat.le_of_ble_eq_true rfl⟩ rfl rfl (Nat.le_of_ble_eq_true rfl) dX6_wrongly_95 hf (fun σ10 hf => ?_)
      refine x_aload_n 0 (pc := 98) (i := 0) E dX6_wrongly_98 rfl rfl ?_
      refine x_aload_n 0 (pc := 99) (i := 0) E dX6_wrongly_99 rfl rfl ?_
      refine x_getR (pc := 100) (r := 29) (p := 8) E rfl (Nat.le_of_ble_eq_true rfl) rfl inlX6 (by decide) rfl wq_30 dX6_wrongly_100 ?_
      refine x_aload_n 0 (pc := 103) (i := 0) E dX6_wrongly_103 rfl rfl ?_
      refine x_getR (pc := 104) (r := 1) (p := 0) E rfl (Nat.le_of_ble_eq_true rfl) rfl inlX6 (by decide) rfl wq_17 dX6_wrongly_104 ?_
      refine x_iconst (pc := 107) (v := (0 : Int32)) E dX6_wrongly_107 rfl ?_
      refine x_callVNri (pc := 108) (na := 1) (As := [.int (0 : Int32)]) E (c_X0_strikesOf G (0 : Int32) σ10) rfl (Nat.le_of_ble_eq_true rfl) rfl wq_508 wq_16 wn_42 wq_506 wq_507 rfl rfl (by decide) ⟨Nat.le_of_ble_eq_true rfl, Nat.le_of_ble_eq_true rfl⟩ rfl rfl (Nat.le_of_ble_eq_true rfl) dX6_wrongly_108 hf (fun r11 hf => ?_)
      refine x_aload_n 0 (pc := 111) (i := 0) E dX6_wrongly_111 rfl rfl ?_
      refine x_getR (pc := 112) (r := 1) (p := 0) E rfl (Nat.le_of_ble_eq_true rfl) rfl inlX6 (by decide) rfl wq_17 dX6_wrongly_112 ?_
      refine x_iconst (pc := 115) (v := (1 : Int32)) E dX6_wrongly_115 rfl ?_
      refine x_callVNri (pc := 116) (na := 1) (As := [.int (1 : Int32)]) E (c_X0_strikesOf G (1 : Int32) σ10) rfl (Nat.le_of_ble_eq_true rfl) rfl wq_508 wq_16 wn_42 wq_506 wq_507 rfl rfl (by decide) ⟨Nat.le_of_ble_eq_true rfl, Nat.le_of_ble_eq_true rfl⟩ rfl rfl (Nat.le_of_ble_eq_true rfl) dX6_wrongly_116 hf (fun r12 hf => ?_)
      refine x_iconst (pc := 119) (v := (0 : Int32)) E dX6_wrongly_119 rfl ?_
      refine x_callVwl (pc := 120) (na := 4) (As := [.ref (gad G 29), .int r11, .int r12, .int (0 : Int32)]) E (c_X6_valueWith G 29 (Or.inr rfl) r11 r12 (0 : Int32) σ10) rfl (Nat.le_of_ble_eq_true rfl) rfl wq_606 wq_2 wq_603 wq_604 wq_605 rfl rfl (by decide) ⟨Nat.le_of_ble_eq_true rfl, Nat.le_of_ble_eq_true rfl⟩ rfl rfl (Nat.le_of_ble_eq_true rfl) dX6_wrongly_120 hf (fun r13 σ14 hf => ?_)
      refine x_pop2 (pc := 123) E dX6_wrongly_123 rfl ?_
      refine x_aload_n 0 (pc := 124) (i := 0) E dX6_wrongly_124 rfl rfl ?_
      refine x_getR (pc := 125) (r := 42) (p := 9) E rfl (Nat.le_of_ble_eq_true rfl) rfl inlX6 (by decide) rfl wq_34 dX6_wrongly_125 ?_
      refine x_aload_n 0 (pc := 128) (i := 0) E dX6_wrongly_128 rfl rfl ?_
      refine x_callVri (pc := 129) (na := 0) (As := []) E (c_X6_juryOfTwoMinds G σ14) rfl (Nat.le_of_ble_eq_true rfl) rfl wq_871 wq_2 wq_868 wq_869 wq_870 rfl rfl (by decide) ⟨Nat.le_of_ble_eq_true rfl, Nat.le_of_ble_eq_true rfl⟩ rfl rfl (Nat.le_of_ble_eq_true rfl) dX6_wrongly_129 hf (fun r15 hf => ?_)
      refine x_callVNrl (pc := 132) (na := 1) (As := [.int r15]) E (c_X5_valueOf G 42 (Or.inl rfl) r15 σ14) rfl (Nat.le_of_ble_eq_true rfl) rfl wq_440 wq_33 wn_38 wq_438 wq_439 rfl rfl (by decide) ⟨Nat.le_of_ble_eq_true rfl, Nat.le_of_ble_eq_true rfl⟩ rfl rfl (Nat.le_of_ble_eq_true rfl) dX6_wrongly_132 hf (fun r16 hf => ?_)
      refine x_aload_n 0 (pc := 135) (i := 0) E dX6_wrongly_135 rfl rfl ?_
      refine x_callVwl (pc := 136) (na := 0) (As := []) E (c_X6_valueByTurns G σ14) rfl (Nat.le_of_ble_eq_true rfl) rfl wq_497 wq_2 wq_494 wq_495 wq_496 rfl rfl (by decide) ⟨Nat.le_of_ble_eq_true rfl, Nat.le_of_ble_eq_true rfl⟩ rfl rfl (Nat.le_of_ble_eq_true rfl) dX6_wrongly_136 hf (fun r17 σ18 hf => ?_)
      refine x_lsub (pc := 139) E dX6_wrongly_139 ?_
      obtain ⟨rfl, rfl⟩ := Prod.mk.inj (Option.some.inj hf)
      exact x_lret (pc := 140) E hR dX6_wrongly_140
    · refine x_aload_n 1 (pc := 30) (i := 0) E dX6_wrongly_30 rfl rfl ?_
      refine x_bipush (pc := 31) (v := (-3 : Int32)) E dX6_wrongly_31 rfl ?_
      refine x_callVwl (pc := 33) (na := 1) (As := [.int (-3 : Int32)]) E (c_X6_refuseLong G (-3 : Int32) σ) rfl (Nat.le_of_ble_eq_true rfl) rfl wq_316 wq_2 wq_313 wq_314 wq_315 rfl rfl (by decide) ⟨Nat.le_of_ble_eq_true rfl, Nat.le_of_ble_eq_true rfl⟩ rfl rfl (Nat.le_of_ble_eq_true rfl) dX6_wrongly_33 hf (fun r19 σ20 hf => ?_)
      obtain ⟨rfl, rfl⟩ := Prod.mk.inj (Option.some.inj hf)
      exact x_lret (pc := 36) E hR dX6_wrongly_36
  · refine x_aload_n 1 (pc := 13) (i := 0) E dX6_wrongly_13 rfl rfl ?_
    refine x_iload 0 (pc := 14) E dX6_wrongly_14 rfl ?_
    refine x_callVwl (pc := 16) (na := 1) (As := [.int r1]) E (c_X6_refuseLong G r1 σ) rfl (Nat.le_of_ble_eq_true rfl) rfl wq_316 wq_2 wq_313 wq_314 wq_315 rfl rfl (by decide) ⟨Nat.le_of_ble_eq_true rfl, Nat.le_of_ble_eq_true rfl⟩ rfl rfl (Nat.le_of_ble_eq_true rfl) dX6_wrongly_16 hf (fun r21 σ22 hf => ?_)
    obtain ⟨rfl, rfl⟩ := Prod.mk.inj (Option.some.inj hf)
    exact x_lret (pc := 19) E hR dX6_wrongly_19
set_option maxHeartbeats 4000000 in
set_option maxRecDepth 100000 in
theorem c_X6_heldLean (G : Gx) (v0 : Int32) (σ : MM) (r : Int32) (hf : f_X6_heldLean v0 σ = some r) : Ct shS 56 yX6_heldLean cX6_heldLean 1 (some .int) rm_X6_heldLean G [.int v0] σ (some (.int r)) σ := by
  refine ct_of (by decide) (Nat.le_of_ble_eq_true rfl) (fun K E hR => ?_)
  have E : OKc 56 cX6_heldLean 1 RX6 G K := E
  show XJ shS 56 1 rm_X6_heldLean G K σ [(0, .int v0)] 0 []
  unfold f_X6_heldLean at hf
  refine x_iconst (pc := 0) (v := (0 : Int32)) E dX6_heldLean_0 rfl ?_
  refine x_bipush (pc := 1) (v := (100 : Int32)) E dX6_heldLean_1 rfl ?_
  refine x_iload_n 0 (pc := 3) (i := 0) E dX6_heldLean_3 rfl rfl ?_
  refine x_mmin (pc := 4) E wq_892 wq_724 wq_433 wq_725 (Nat.le_of_ble_eq_true rfl) (Nat.le_of_ble_eq_true rfl) dX6_heldLean_4 ?_
  refine x_mmax (pc := 7) E wq_893 wq_727 wq_433 wq_728 (Nat.le_of_ble_eq_true rfl) (Nat.le_of_ble_eq_true rfl) dX6_heldLean_7 ?_
  obtain rfl := Option.some.inj hf
  exact x_iret (pc := 10) E hR dX6_heldLean_10
set_option maxHeartbeats 4000000 in
set_option maxRecDepth 100000 in
theorem c_X6_valueLeaning (G : Gx) (v1 : Int32) (v2 : Int32) (σ : MM) (r : Int64) (σ' : MM) (hf : f_X6_valueLeaning v1 v2 σ = some (r, σ')) : Ct shS 56 yX6_valueLeaning cX6_valueLeaning 4 (some .long) rm_X6_valueLeaning G [.ref (gad G 0), .int v1, .int v2] σ (some (.long r)) σ' := by
  refine ct_of (by decide) (Nat.le_of_ble_eq_true rfl) (fun K E hR => ?_)
  have E : OKc 56 cX6_valueLeaning 4 RX6 G K := E
  show XJ shS 56 4 rm_X6_valueLeaning G K σ [(0, .ref (gad G 0)), (1, .int v1), (2, .int v2)] 0 []
  unfold f_X6_valueLeaning at hf
  refine x_aload_n 0 (pc := 0) (i := 0) E dX6_valueLeaning_0 rfl rfl ?_
  refine x_getR (pc := 1) (r := 1) (p := 0) E rfl (Nat.le_of_ble_eq_true rfl) rfl inlX6 (by decide) rfl wq_17 dX6_valueLeaning_1 ?_
  refine x_getRN (pc := 4) (r := 4) (p := 2) E rfl (Nat.le_of_ble_eq_true rfl) rfl inlX0 (by decide) rfl wn_8 dX6_valueLeaning_4 ?_
  refine x_iload_n 1 (pc := 7) (i := 1) E dX6_valueLeaning_7 rfl rfl ?_
  refine x_iaload (pc := 8) E rfl (Nat.le_of_ble_eq_true rfl) dX6_valueLeaning_8 hf (fun hf => ?_)
  refine x_istore_n (pc := 9) (lv' := [(3, .int (σ.1 4 v1.toNatClampNeg)), (0, .ref (gad G 0)), (1, .int v1), (2, .int v2)]) E dX6_valueLeaning_9 rfl (by decide) rfl ?_
  refine x_aload_n 1 (pc := 10) (i := 0) E dX6_valueLeaning_10 rfl rfl ?_
  refine x_getR (pc := 11) (r := 29) (p := 8) E rfl (Nat.le_of_ble_eq_true rfl) rfl inlX6 (by decide) rfl wq_30 dX6_valueLeaning_11 ?_
  refine x_aload_n 1 (pc := 14) (i := 0) E dX6_valueLeaning_14 rfl rfl ?_
  refine x_getR (pc := 15) (r := 1) (p := 0) E rfl (Nat.le_of_ble_eq_true rfl) rfl inlX6 (by decide) rfl wq_17 dX6_valueLeaning_15 ?_
  refine x_callVNwv (pc := 18) (na := 1) (As := [.ref (gad G 1)]) E (c_X2_take G 29 (Or.inr rfl) σ) rfl (Nat.le_of_ble_eq_true rfl) rfl wq_87 wq_28 wn_22 wq_85 wq_86 rfl rfl (by decide) ⟨Nat.le_of_ble_eq_true rfl, Nat.le_of_ble_eq_true rfl⟩ rfl rfl (Nat.le_of_ble_eq_true rfl) dX6_valueLeaning_18 hf (fun σ2 hf => ?_)
  refine x_aload_n 1 (pc := 21) (i := 0) E dX6_valueLeaning_21 rfl rfl ?_
  refine x_getR (pc := 22) (r := 29) (p := 8) E rfl (Nat.le_of_ble_eq_true rfl) rfl inlX6 (by decide) rfl wq_30 dX6_valueLeaning_22 ?_
  refine x_iload_n 2 (pc := 25) (i := 1) E dX6_valueLeaning_25 rfl rfl ?_
  refine x_aload_n 1 (pc := 26) (i := 0) E dX6_valueLeaning_26 rfl rfl ?_
  refine x_getR (pc := 27) (r := 1) (p := 0) E rfl (Nat.le_of_ble_eq_true rfl) rfl inlX6 (by decide) rfl wq_17 dX6_valueLeaning_27 ?_
  refine x_getRN (pc := 30) (r := 2) (p := 0) E rfl (Nat.le_of_ble_eq_true rfl) rfl inlX0 (by decide) rfl wn_2 dX6_valueLeaning_30 ?_
  refine x_iload_n 0 (pc := 33) (i := 3) E dX6_valueLeaning_33 rfl rfl ?_
  refine x_iaload (pc := 34) E rfl (Nat.le_of_ble_eq_true rfl) dX6_valueLeaning_34 hf (fun hf => ?_)
  refine x_iload_n 3 (pc := 35) (i := 2) E dX6_valueLeaning_35 rfl rfl ?_
  refine x_iadd (pc := 36) E dX6_valueLeaning_36 ?_
  refine x_callSri (pc := 37) (na := 1) (As := [.int ((σ2.1 2 (σ.1 4 v1.toNatClampNeg).toNatClampNeg) + v2)]) E (c_X6_heldLean G ((σ2.1 2 (σ.1 4 v1.toNatClampNeg).toNatClampNeg) + v2) σ2) wq_891 wq_2 wq_889 wq_890 rfl rfl (by decide) ⟨Nat.le_of_ble_eq_true rfl, Nat.le_of_ble_eq_true rfl⟩ rfl rfl (Nat.le_of_ble_eq_true rfl) dX6_valueLeaning_37 hf (fun r3 hf => ?_)
  refine x_aload_n 1 (pc := 40) (i := 0) E dX6_valueLeaning_40 rfl rfl ?_
  refine x_getR (pc := 41) (r := 1) (p := 0) E rfl (Nat.le_of_ble_eq_true rfl) rfl inlX6 (by decide) rfl wq_17 dX6_valueLeaning_41 ?_
  refine x_getRN (pc := 44) (r := 3) (p := 1) E rfl (Nat.le_of_ble_eq_true rfl) rfl inlX0 (by decide) rfl wn_4 dX6_valueLeaning_44 ?_
  refine x_iload_n 0 (pc := 47) (i := 3) E dX6_valueLeaning_47 rfl rfl ?_
  refine x_iaload (pc := 48) E rfl (Nat.le_of_ble_eq_true rfl) dX6_valueLeaning_48 hf (fun hf => ?_)
  refine x_iload_n 3 (pc := 49) (i := 2) E dX6_valueLeaning_49 rfl rfl ?_
  refine x_iadd (pc := 50) E dX6_valueLeaning_50 ?_
  refine x_callSri (pc := 51) (na := 1) (As := [.int ((σ2.1 3 (σ.1 4 v1.toNatClampNeg).toNatClampNeg) + v2)]) E (c_X6_heldLean G ((σ2.1 3 (σ.1 4 v1.toNatClampNeg).toNatClampNeg) + v2) σ2) wq_891 wq_2 wq_889 wq_890 rfl rfl (by decide) ⟨Nat.le_of_ble_eq_true rfl, Nat.le_of_ble_eq_true rfl⟩ rfl rfl (Nat.le_of_ble_eq_true rfl) dX6_valueLeaning_51 hf (fun r4 hf => ?_)
  refine x_callVNwv (pc := 54) (na := 3) (As := [.int v1, .int r3, .int r4]) E (c_X2_lean G 29 (Or.inr rfl) v1 r3 r4 σ2) rfl (Nat.le_of_ble_eq_true rfl) rfl wq_867 wq_28 wn_65 wq_865 wq_866 rfl rfl (by decide) ⟨Nat.le_of_ble_eq_true rfl, Nat.le_of_ble_eq_true rfl⟩ rfl rfl (Nat.le_of_ble_eq_true rfl) dX6_valueLeaning_54 hf (fun σ6 hf => ?_)
  refine x_aload_n 1 (pc := 57) (i := 0) E dX6_valueLeaning_57 rfl rfl ?_
  refine x_aload_n 1 (pc := 58) (i := 0) E dX6_valueLeaning_58 rfl rfl ?_
  refine x_getR (pc := 59) (r := 29) (p := 8) E rfl (Nat.le_of_ble_eq_true rfl) rfl inlX6 (by decide) rfl wq_30 dX6_valueLeaning_59 ?_
  refine x_aload_n 1 (pc := 62) (i := 0) E dX6_valueLeaning_62 rfl rfl ?_
  refine x_getR (pc := 63) (r := 1) (p := 0) E rfl (Nat.le_of_ble_eq_true rfl) rfl inlX6 (by decide) rfl wq_17 dX6_valueLeaning_63 ?_
  refine x_iconst (pc := 66) (v := (0 : Int32)) E dX6_valueLeaning_66 rfl ?_
  refine x_callVNri (pc := 67) (na := 1) (As := [.int (0 : Int32)]) E (c_X0_strikesOf G (0 : Int32) σ6) rfl (Nat.le_of_ble_eq_true rfl) rfl wq_508 wq_16 wn_42 wq_506 wq_507 rfl rfl (by decide) ⟨Nat.le_of_ble_eq_true rfl, Nat.le_of_ble_eq_true rfl⟩ rfl rfl (Nat.le_of_ble_eq_true rfl) dX6_valueLeaning_67 hf (fun r7 hf => ?_)
  refine x_aload_n 1 (pc := 70) (i := 0) E dX6_valueLeaning_70 rfl rfl ?_
  refine x_getR (pc := 71) (r := 1) (p := 0) E rfl (Nat.le_of_ble_eq_true rfl) rfl inlX6 (by decide) rfl wq_17 dX6_valueLeaning_71 ?_
  refine x_iconst (pc := 74) (v := (1 : Int32)) E dX6_valueLeaning_74 rfl ?_
  refine x_callVNri (pc := 75) (na := 1) (As := [.int (1 : Int32)]) E (c_X0_strikesOf G (1 : Int32) σ6) rfl (Nat.le_of_ble_eq_true rfl) rfl wq_508 wq_16 wn_42 wq_506 wq_507 rfl rfl (by decide) ⟨Nat.le_of_ble_eq_true rfl, Nat.le_of_ble_eq_true rfl⟩ rfl rfl (Nat.le_of_ble_eq_true rfl) dX6_valueLeaning_75 hf (fun r8 hf => ?_)
  refine x_iconst (pc := 78) (v := (0 : Int32)) E dX6_valueLeaning_78 rfl ?_
  refine x_callVwl (pc := 79) (na := 4) (As := [.ref (gad G 29), .int r7, .int r8, .int (0 : Int32)]) E (c_X6_valueWith G 29 (Or.inr rfl) r7 r8 (0 : Int32) σ6) rfl (Nat.le_of_ble_eq_true rfl) rfl wq_606 wq_2 wq_603 wq_604 wq_605 rfl rfl (by decide) ⟨Nat.le_of_ble_eq_true rfl, Nat.le_of_ble_eq_true rfl⟩ rfl rfl (Nat.le_of_ble_eq_true rfl) dX6_valueLeaning_79 hf (fun r9 σ10 hf => ?_)
  obtain ⟨rfl, rfl⟩ := Prod.mk.inj (Option.some.inj hf)
  exact x_lret (pc := 82) E hR dX6_valueLeaning_82
set_option maxHeartbeats 4000000 in
set_option maxRecDepth 100000 in
theorem c_X6_asked (G : Gx) (v1 : Int32) (v2 : Int32) (σ : MM) (r : Int64) (σ' : MM) (hf : f_X6_asked v1 v2 σ = some (r, σ')) : Ct shS 56 yX6_asked cX6_asked 3 (some .long) rm_X6_asked G [.ref (gad G 0), .int v1, .int v2] σ (some (.long r)) σ' := by
  refine ct_of (by decide) (Nat.le_of_ble_eq_true rfl) (fun K E hR => ?_)
  have E : OKc 56 cX6_asked 3 RX6 G K := E
  show XJ shS 56 3 rm_X6_asked G K σ [(0, .ref (gad G 0)), (1, .int v1), (2, .int v2)] 0 []
  unfold f_X6_asked at hf
  refine x_iload_n 1 (pc := 0) (i := 1) E dX6_asked_0 rfl rfl ?_
  refine x_if_lt (y := 0) (pc := 1) (tgt := 15) E dX6_asked_1 (by decide) hf (fun hf => ?_) (fun hf => ?_)
  · refine x_aload_n 0 (pc := 15) (i := 0) E dX6_asked_15 rfl rfl ?_
    refine x_iconst (pc := 16) (v := (-1 : Int32)) E dX6_asked_16 rfl ?_
    refine x_callVwl (pc := 17) (na := 1) (As := [.int (-1 : Int32)]) E (c_X6_refuseLong G (-1 : Int32) σ) rfl (Nat.le_of_ble_eq_true rfl) rfl wq_316 wq_2 wq_313 wq_314 wq_315 rfl rfl (by decide) ⟨Nat.le_of_ble_eq_true rfl, Nat.le_of_ble_eq_true rfl⟩ rfl rfl (Nat.le_of_ble_eq_true rfl) dX6_asked_17 hf (fun r1 σ2 hf => ?_)
    obtain ⟨rfl, rfl⟩ := Prod.mk.inj (Option.some.inj hf)
    exact x_lret (pc := 20) E hR dX6_asked_20
  · refine x_iload_n 1 (pc := 4) (i := 1) E dX6_asked_4 rfl rfl ?_
    refine x_aload_n 0 (pc := 5) (i := 0) E dX6_asked_5 rfl rfl ?_
    refine x_getR (pc := 6) (r := 1) (p := 0) E rfl (Nat.le_of_ble_eq_true rfl) rfl inlX6 (by decide) rfl wq_17 dX6_asked_6 ?_
    refine x_getIN (pc := 9) (p := 4) E rfl (Nat.le_of_ble_eq_true rfl) rfl inlX0 (by decide) rfl wn_13 dX6_asked_9 ?_
    refine x_icmp_lt (pc := 12) (tgt := 21) E dX6_asked_12 (by decide) hf (fun hf => ?_) (fun hf => ?_)
    · refine x_iload_n 2 (pc := 21) (i := 2) E dX6_asked_21 rfl rfl ?_
      refine x_if_ge (y := 0) (pc := 22) (tgt := 32) E dX6_asked_22 (by decide) hf (fun hf => ?_) (fun hf => ?_)
      · refine x_iload_n 2 (pc := 32) (i := 2) E dX6_asked_32 rfl rfl ?_
        refine x_bipush (pc := 33) (v := (50 : Int32)) E dX6_asked_33 rfl ?_
        refine x_icmp_le (pc := 35) (tgt := 45) E dX6_asked_35 (by decide) hf (fun hf => ?_) (fun hf => ?_)
        · refine x_iload_n 1 (pc := 45) (i := 1) E dX6_asked_45 rfl rfl ?_
          refine x_aload_n 0 (pc := 46) (i := 0) E dX6_asked_46 rfl rfl ?_
          refine x_getR (pc := 47) (r := 1) (p := 0) E rfl (Nat.le_of_ble_eq_true rfl) rfl inlX6 (by decide) rfl wq_17 dX6_asked_47 ?_
          refine x_callVNri (pc := 50) (na := 0) (As := []) E (c_X0_called G σ) rfl (Nat.le_of_ble_eq_true rfl) rfl wq_488 wq_16 wn_40 wq_486 wq_487 rfl rfl (by decide) ⟨Nat.le_of_ble_eq_true rfl, Nat.le_of_ble_eq_true rfl⟩ rfl rfl (Nat.le_of_ble_eq_true rfl) dX6_asked_50 hf (fun r3 hf => ?_)
          refine x_icmp_lt (pc := 53) (tgt := 63) E dX6_asked_53 (by decide) hf (fun hf => ?_) (fun hf => ?_)
          · refine x_aload_n 0 (pc := 63) (i := 0) E dX6_asked_63 rfl rfl ?_
            refine x_iload_n 1 (pc := 64) (i := 1) E dX6_asked_64 rfl rfl ?_
            refine x_iload_n 2 (pc := 65) (i := 2) E dX6_asked_65 rfl rfl ?_
            refine x_callVwl (pc := 66) (na := 2) (As := [.int v1, .int v2]) E (c_X6_valueLeaning G v1 v2 σ) rfl (Nat.le_of_ble_eq_true rfl) rfl wq_888 wq_2 wq_885 wq_886 wq_887 rfl rfl (by decide) ⟨Nat.le_of_ble_eq_true rfl, Nat.le_of_ble_eq_true rfl⟩ rfl rfl (Nat.le_of_ble_eq_true rfl) dX6_asked_66 hf (fun r4 σ5 hf => ?_)
            refine x_aload_n 0 (pc := 69) (i := 0) E dX6_asked_69 rfl rfl ?_
            refine x_iload_n 1 (pc := 70) (i := 1) E dX6_asked_70 rfl rfl ?_
            refine x_iload_n 2 (pc := 71) (i := 2) E dX6_asked_71 rfl rfl ?_
            refine x_ineg (pc := 72) E dX6_asked_72 ?_
            refine x_callVwl (pc := 73) (na := 2) (As := [.int v1, .int (-v2)]) E (c_X6_valueLeaning G v1 (-v2) σ5) rfl (Nat.le_of_ble_eq_true rfl) rfl wq_888 wq_2 wq_885 wq_886 wq_887 rfl rfl (by decide) ⟨Nat.le_of_ble_eq_true rfl, Nat.le_of_ble_eq_true rfl⟩ rfl rfl (Nat.le_of_ble_eq_true rfl) dX6_asked_73 hf (fun r6 σ7 hf => ?_)
            refine x_ladd (pc := 76) E dX6_asked_76 ?_
            refine x_ldc2 (pc := 77) (v := 2) E wq_884 dX6_asked_77 ?_
            refine x_aload_n 0 (pc := 80) (i := 0) E dX6_asked_80 rfl rfl ?_
            refine x_callVwl (pc := 81) (na := 0) (As := []) E (c_X6_valueByTurns G σ7) rfl (Nat.le_of_ble_eq_true rfl) rfl wq_497 wq_2 wq_494 wq_495 wq_496 rfl rfl (by decide) ⟨Nat.le_of_ble_eq_true rfl, Nat.le_of_ble_eq_true rfl⟩ rfl rfl (Nat.le_of_ble_eq_true rfl) dX6_asked_81 hf (fun r8 σ9 hf => ?_)
            refine x_lmul (pc := 84) E dX6_asked_84 ?_
            refine x_lsub (pc := 85) E dX6_asked_85 ?_
            obtain ⟨rfl, rfl⟩ := Prod.mk.inj (Option.some.inj hf)
            exact x_lret (pc := 86) E hR dX6_asked_86
          · refine x_aload_n 0 (pc := 56) (i := 0) E dX6_asked_56 rfl rfl ?_
            refine x_bipush (pc := 57) (v := (-3 : Int32)) E dX6_asked_57 rfl ?_
            refine x_callVwl (pc := 59) (na := 1) (As := [.int (-3 : Int32)]) E (c_X6_refuseLong G (-3 : Int32) σ) rfl (Nat.le_of_ble_eq_true rfl) rfl wq_316 wq_2 wq_313 wq_314 wq_315 rfl rfl (by decide) ⟨Nat.le_of_ble_eq_true rfl, Nat.le_of_ble_eq_true rfl⟩ rfl rfl (Nat.le_of_ble_eq_true rfl) dX6_asked_59 hf (fun r10 σ11 hf => ?_)
            obtain ⟨rfl, rfl⟩ := Prod.mk.inj (Option.some.inj hf)
            exact x_lret (pc := 62) E hR dX6_asked_62
        · refine x_aload_n 0 (pc := 38) (i := 0) E dX6_asked_38 rfl rfl ?_
          refine x_bipush (pc := 39) (v := (-6 : Int32)) E dX6_asked_39 rfl ?_
          refine x_callVwl (pc := 41) (na := 1) (As := [.int (-6 : Int32)]) E (c_X6_refuseLong G (-6 : Int32) σ) rfl (Nat.le_of_ble_eq_true rfl) rfl wq_316 wq_2 wq_313 wq_314 wq_315 rfl rfl (by decide) ⟨Nat.le_of_ble_eq_true rfl, Nat.le_of_ble_eq_true rfl⟩ rfl rfl (Nat.le_of_ble_eq_true rfl) dX6_asked_41 hf (fun r12 σ13 hf => ?_)
          obtain ⟨rfl, rfl⟩ := Prod.mk.inj (Option.some.inj hf)
          exact x_lret (pc := 44) E hR dX6_asked_44
      · refine x_aload_n 0 (pc := 25) (i := 0) E dX6_asked_25 rfl rfl ?_
        refine x_bipush (pc := 26) (v := (-4 : Int32)) E dX6_asked_26 rfl ?_
        refine x_callVwl (pc := 28) (na := 1) (As := [.int (-4 : Int32)]) E (c_X6_refuseLong G (-4 : Int32) σ) rfl (Nat.le_of_ble_eq_true rfl) rfl wq_316 wq_2 wq_313 wq_314 wq_315 rfl rfl (by decide) ⟨Nat.le_of_ble_eq_true rfl, Nat.le_of_ble_eq_true rfl⟩ rfl rfl (Nat.le_of_ble_eq_true rfl) dX6_asked_28 hf (fun r14 σ15 hf => ?_)
        obtain ⟨rfl, rfl⟩ := Prod.mk.inj (Option.some.inj hf)
        exact x_lret (pc := 31) E hR dX6_asked_31
    · refine x_aload_n 0 (pc := 15) (i := 0) E dX6_asked_15 rfl rfl ?_
      refine x_iconst (pc := 16) (v := (-1 : Int32)) E dX6_asked_16 rfl ?_
      refine x_callVwl (pc := 17) (na := 1) (As := [.int (-1 : Int32)]) E (c_X6_refuseLong G (-1 : Int32) σ) rfl (Nat.le_of_ble_eq_true rfl) rfl wq_316 wq_2 wq_313 wq_314 wq_315 rfl rfl (by decide) ⟨Nat.le_of_ble_eq_true rfl, Nat.le_of_ble_eq_true rfl⟩ rfl rfl (Nat.le_of_ble_eq_true rfl) dX6_asked_17 hf (fun r16 σ17 hf => ?_)
      obtain ⟨rfl, rfl⟩ := Prod.mk.inj (Option.some.inj hf)
      exact x_lret (pc := 20) E hR dX6_asked_20
set_option maxHeartbeats 4000000 in
set_option maxRecDepth 100000 in
theorem c_X0_copy (G : Gx) (b : Nat) (q1 : Nat) (h_b : isBn b) (h_q1 : isBn q1) (σ : MM) (σ' : MM) (hf : f_X0_copy b q1 σ = some σ') : Ct shS 56 yX0_copy cX0_copy 2 none rm_X0_copy G [.ref (gad G b), .ref (gad G q1)] σ none σ' := by
  obtain ⟨hs_b_0, hs_b_1, hs_b_2, hs_b_3, hs_b_4⟩ := sh_isBn h_b
  obtain ⟨hk_b_0, hk_b_1, hk_b_2, hk_b_3, hk_b_4⟩ := lt_isBn h_b
  obtain ⟨hs_q1_0, hs_q1_1, hs_q1_2, hs_q1_3, hs_q1_4⟩ := sh_isBn h_q1
  obtain ⟨hk_q1_0, hk_q1_1, hk_q1_2, hk_q1_3, hk_q1_4⟩ := lt_isBn h_q1
  refine ct_of (by decide) (Nat.le_of_ble_eq_true rfl) (fun K E hR => ?_)
  have E : OKc 56 cX0_copy 2 RX0 G K := E
  show XJ shS 56 2 rm_X0_copy G K σ [(0, .ref (gad G b)), (1, .ref (gad G q1))] 0 []
  unfold f_X0_copy at hf
  refine x_aload_n 1 (pc := 0) (i := 1) E dX0_copy_0 rfl rfl ?_
  refine x_getR (pc := 1) (r := (q1 + 1)) (p := 0) E hs_q1_0 hk_q1_0 rfl inlX0 (by decide) rfl wq_47 dX0_copy_1 ?_
  refine x_iconst (pc := 4) (v := (0 : Int32)) E dX0_copy_4 rfl ?_
  refine x_aload_n 0 (pc := 5) (i := 0) E dX0_copy_5 rfl rfl ?_
  refine x_getR (pc := 6) (r := (b + 1)) (p := 0) E hs_b_0 hk_b_0 rfl inlX0 (by decide) rfl wq_47 dX0_copy_6 ?_
  refine x_iconst (pc := 9) (v := (0 : Int32)) E dX0_copy_9 rfl ?_
  refine x_bipush (pc := 10) (v := (6 : Int32)) E dX0_copy_10 rfl ?_
  refine x_copyi (pc := 12) E wq_911 wq_912 wq_913 wq_914 hs_q1_1 hk_q1_1 hs_b_1 hk_b_1 (by decide) (by decide) (by decide) (by decide) (by decide) (Nat.le_of_ble_eq_true rfl) (Nat.le_of_ble_eq_true rfl) dX0_copy_12 hf (fun σ1 hf => ?_)
  refine x_aload_n 1 (pc := 15) (i := 1) E dX0_copy_15 rfl rfl ?_
  refine x_getR (pc := 16) (r := (q1 + 2)) (p := 1) E hs_q1_0 hk_q1_0 rfl inlX0 (by decide) rfl wq_48 dX0_copy_16 ?_
  refine x_iconst (pc := 19) (v := (0 : Int32)) E dX0_copy_19 rfl ?_
  refine x_aload_n 0 (pc := 20) (i := 0) E dX0_copy_20 rfl rfl ?_
  refine x_getR (pc := 21) (r := (b + 2)) (p := 1) E hs_b_0 hk_b_0 rfl inlX0 (by decide) rfl wq_48 dX0_copy_21 ?_
  refine x_iconst (pc := 24) (v := (0 : Int32)) E dX0_copy_24 rfl ?_
  refine x_bipush (pc := 25) (v := (6 : Int32)) E dX0_copy_25 rfl ?_
  refine x_copyi (pc := 27) E wq_911 wq_912 wq_913 wq_914 hs_q1_2 hk_q1_2 hs_b_2 hk_b_2 (by decide) (by decide) (by decide) (by decide) (by decide) (Nat.le_of_ble_eq_true rfl) (Nat.le_of_ble_eq_true rfl) dX0_copy_27 hf (fun σ2 hf => ?_)
  refine x_aload_n 1 (pc := 30) (i := 1) E dX0_copy_30 rfl rfl ?_
  refine x_getR (pc := 31) (r := (q1 + 3)) (p := 2) E hs_q1_0 hk_q1_0 rfl inlX0 (by decide) rfl wq_49 dX0_copy_31 ?_
  refine x_iconst (pc := 34) (v := (0 : Int32)) E dX0_copy_34 rfl ?_
  refine x_aload_n 0 (pc := 35) (i := 0) E dX0_copy_35 rfl rfl ?_
  refine x_getR (pc := 36) (r := (b + 3)) (p := 2) E hs_b_0 hk_b_0 rfl inlX0 (by decide) rfl wq_49 dX0_copy_36 ?_
  refine x_iconst (pc := 39) (v := (0 : Int32)) E dX0_copy_39 rfl ?_
  refine x_bipush (pc := 40) (v := (12 : Int32)) E dX0_copy_40 rfl ?_
  refine x_copyi (pc := 42) E wq_911 wq_912 wq_913 wq_914 hs_q1_3 hk_q1_3 hs_b_3 hk_b_3 (by decide) (by decide) (by decide) (by decide) (by decide) (Nat.le_of_ble_eq_true rfl) (Nat.le_of_ble_eq_true rfl) dX0_copy_42 hf (fun σ3 hf => ?_)
  refine x_aload_n 1 (pc := 45) (i := 1) E dX0_copy_45 rfl rfl ?_
  refine x_getR (pc := 46) (r := (q1 + 4)) (p := 3) E hs_q1_0 hk_q1_0 rfl inlX0 (by decide) rfl wq_50 dX0_copy_46 ?_
  refine x_iconst (pc := 49) (v := (0 : Int32)) E dX0_copy_49 rfl ?_
  refine x_aload_n 0 (pc := 50) (i := 0) E dX0_copy_50 rfl rfl ?_
  refine x_getR (pc := 51) (r := (b + 4)) (p := 3) E hs_b_0 hk_b_0 rfl inlX0 (by decide) rfl wq_50 dX0_copy_51 ?_
  refine x_iconst (pc := 54) (v := (0 : Int32)) E dX0_copy_54 rfl ?_
  refine x_iconst (pc := 55) (v := (5 : Int32)) E dX0_copy_55 rfl ?_
  refine x_copyi (pc := 56) E wq_911 wq_912 wq_913 wq_914 hs_q1_4 hk_q1_4 hs_b_4 hk_b_4 (by decide) (by decide) (by decide) (by decide) (by decide) (Nat.le_of_ble_eq_true rfl) (Nat.le_of_ble_eq_true rfl) dX0_copy_56 hf (fun σ4 hf => ?_)
  refine x_aload_n 0 (pc := 59) (i := 0) E dX0_copy_59 rfl rfl ?_
  refine x_aload_n 1 (pc := 60) (i := 1) E dX0_copy_60 rfl rfl ?_
  refine x_getI (pc := 61) (p := 4) E hs_q1_0 hk_q1_0 rfl inlX0 (by decide) rfl wq_159 dX0_copy_61 ?_
  refine x_put (pc := 64) (p := 4) E hs_b_0 hk_b_0 rfl inlX0 tyX0_ok nmX0 (by decide) rfl rfl rfl rfl wq_159 dX0_copy_64 hf (fun σ5 hf => ?_)
  obtain rfl := Option.some.inj hf
  exact x_vret (pc := 67) E hR dX0_copy_67
set_option maxHeartbeats 4000000 in
set_option maxRecDepth 100000 in
theorem c_X6_image (G : Gx) (σ : MM) (r : Int32) (σ' : MM) (hf : f_X6_image σ = some (r, σ')) : Ct shS 56 yX6_image cX6_image 1 (some .int) rm_X6_image G [.ref (gad G 0)] σ (some (.int r)) σ' := by
  refine ct_of (by decide) (Nat.le_of_ble_eq_true rfl) (fun K E hR => ?_)
  have E : OKc 56 cX6_image 1 RX6 G K := E
  show XJ shS 56 1 rm_X6_image G K σ [(0, .ref (gad G 0))] 0 []
  unfold f_X6_image at hf
  refine x_aload_n 0 (pc := 0) (i := 0) E dX6_image_0 rfl rfl ?_
  refine x_getR (pc := 1) (r := 6) (p := 1) E rfl (Nat.le_of_ble_eq_true rfl) rfl inlX6 (by decide) rfl wq_18 dX6_image_1 ?_
  refine x_aload_n 0 (pc := 4) (i := 0) E dX6_image_4 rfl rfl ?_
  refine x_getR (pc := 5) (r := 1) (p := 0) E rfl (Nat.le_of_ble_eq_true rfl) rfl inlX6 (by decide) rfl wq_17 dX6_image_5 ?_
  refine x_callVNwv (pc := 8) (na := 1) (As := [.ref (gad G 1)]) E (c_X0_copy G 6 1 (Or.inr rfl) (Or.inl rfl) σ) rfl (Nat.le_of_ble_eq_true rfl) rfl wq_910 wq_16 wn_66 wq_908 wq_909 rfl rfl (by decide) ⟨Nat.le_of_ble_eq_true rfl, Nat.le_of_ble_eq_true rfl⟩ rfl rfl (Nat.le_of_ble_eq_true rfl) dX6_image_8 hf (fun σ2 hf => ?_)
  refine x_aload_n 0 (pc := 11) (i := 0) E dX6_image_11 rfl rfl ?_
  refine x_iconst (pc := 12) (v := (1 : Int32)) E dX6_image_12 rfl ?_
  refine x_putZ (pc := 13) (p := 2) E rfl (Nat.le_of_ble_eq_true rfl) rfl inlX6 tyX6_ok nmX6 (by decide) rfl rfl rfl wq_907 dX6_image_13 hf (fun σ3 hf => ?_)
  refine x_aload_n 0 (pc := 16) (i := 0) E dX6_image_16 rfl rfl ?_
  refine x_getR (pc := 17) (r := 1) (p := 0) E rfl (Nat.le_of_ble_eq_true rfl) rfl inlX6 (by decide) rfl wq_17 dX6_image_17 ?_
  refine x_getIN (pc := 20) (p := 4) E rfl (Nat.le_of_ble_eq_true rfl) rfl inlX0 (by decide) rfl wn_13 dX6_image_20 ?_
  obtain ⟨rfl, rfl⟩ := Prod.mk.inj (Option.some.inj hf)
  exact x_iret (pc := 23) E hR dX6_image_23
set_option maxHeartbeats 4000000 in
set_option maxRecDepth 100000 in
theorem c_X6_restore (G : Gx) (σ : MM) (r : Int32) (σ' : MM) (hf : f_X6_restore σ = some (r, σ')) : Ct shS 56 yX6_restore cX6_restore 1 (some .int) rm_X6_restore G [.ref (gad G 0)] σ (some (.int r)) σ' := by
  refine ct_of (by decide) (Nat.le_of_ble_eq_true rfl) (fun K E hR => ?_)
  have E : OKc 56 cX6_restore 1 RX6 G K := E
  show XJ shS 56 1 rm_X6_restore G K σ [(0, .ref (gad G 0))] 0 []
  unfold f_X6_restore at hf
  refine x_aload_n 0 (pc := 0) (i := 0) E dX6_restore_0 rfl rfl ?_
  refine x_getI (pc := 1) (p := 2) E rfl (Nat.le_of_ble_eq_true rfl) rfl inlX6 (by decide) rfl wq_907 dX6_restore_1 ?_
  refine x_if_ne (y := 0) (pc := 4) (tgt := 14) E dX6_restore_4 (by decide) hf (fun hf => ?_) (fun hf => ?_)
  · refine x_aload_n 0 (pc := 14) (i := 0) E dX6_restore_14 rfl rfl ?_
    refine x_getR (pc := 15) (r := 1) (p := 0) E rfl (Nat.le_of_ble_eq_true rfl) rfl inlX6 (by decide) rfl wq_17 dX6_restore_15 ?_
    refine x_aload_n 0 (pc := 18) (i := 0) E dX6_restore_18 rfl rfl ?_
    refine x_getR (pc := 19) (r := 6) (p := 1) E rfl (Nat.le_of_ble_eq_true rfl) rfl inlX6 (by decide) rfl wq_18 dX6_restore_19 ?_
    refine x_callVNwv (pc := 22) (na := 1) (As := [.ref (gad G 6)]) E (c_X0_copy G 1 6 (Or.inl rfl) (Or.inr rfl) σ) rfl (Nat.le_of_ble_eq_true rfl) rfl wq_910 wq_16 wn_66 wq_908 wq_909 rfl rfl (by decide) ⟨Nat.le_of_ble_eq_true rfl, Nat.le_of_ble_eq_true rfl⟩ rfl rfl (Nat.le_of_ble_eq_true rfl) dX6_restore_22 hf (fun σ2 hf => ?_)
    refine x_aload_n 0 (pc := 25) (i := 0) E dX6_restore_25 rfl rfl ?_
    refine x_callVwv (pc := 26) (na := 0) (As := []) E (c_X6_changed G σ2) rfl (Nat.le_of_ble_eq_true rfl) rfl wq_137 wq_2 wq_134 wq_135 wq_136 rfl rfl (by decide) ⟨Nat.le_of_ble_eq_true rfl, Nat.le_of_ble_eq_true rfl⟩ rfl rfl (Nat.le_of_ble_eq_true rfl) dX6_restore_26 hf (fun σ4 hf => ?_)
    refine x_aload_n 0 (pc := 29) (i := 0) E dX6_restore_29 rfl rfl ?_
    refine x_getR (pc := 30) (r := 1) (p := 0) E rfl (Nat.le_of_ble_eq_true rfl) rfl inlX6 (by decide) rfl wq_17 dX6_restore_30 ?_
    refine x_getIN (pc := 33) (p := 4) E rfl (Nat.le_of_ble_eq_true rfl) rfl inlX0 (by decide) rfl wn_13 dX6_restore_33 ?_
    obtain ⟨rfl, rfl⟩ := Prod.mk.inj (Option.some.inj hf)
    exact x_iret (pc := 36) E hR dX6_restore_36
  · refine x_aload_n 0 (pc := 7) (i := 0) E dX6_restore_7 rfl rfl ?_
    refine x_bipush (pc := 8) (v := (-3 : Int32)) E dX6_restore_8 rfl ?_
    refine x_callVwi (pc := 10) (na := 1) (As := [.int (-3 : Int32)]) E (c_X6_refuse G (-3 : Int32) σ) rfl (Nat.le_of_ble_eq_true rfl) rfl wq_133 wq_2 wq_130 wq_131 wq_132 rfl rfl (by decide) ⟨Nat.le_of_ble_eq_true rfl, Nat.le_of_ble_eq_true rfl⟩ rfl rfl (Nat.le_of_ble_eq_true rfl) dX6_restore_10 hf (fun r5 σ6 hf => ?_)
    obtain ⟨rfl, rfl⟩ := Prod.mk.inj (Option.some.inj hf)
    exact x_iret (pc := 13) E hR dX6_restore_13
set_option maxHeartbeats 4000000 in
set_option maxRecDepth 100000 in
theorem c_X6_count (G : Gx) (v1 : Int32) (σ : MM) (r : Int32) (hf : f_X6_count v1 σ = some r) : Ct shS 56 yX6_count cX6_count 2 (some .int) rm_X6_count G [.ref (gad G 0), .int v1] σ (some (.int r)) σ := by
  refine ct_of (by decide) (Nat.le_of_ble_eq_true rfl) (fun K E hR => ?_)
  have E : OKc 56 cX6_count 2 RX6 G K := E
  show XJ shS 56 2 rm_X6_count G K σ [(0, .ref (gad G 0)), (1, .int v1)] 0 []
  unfold f_X6_count at hf
  refine x_iload_n 1 (pc := 0) (i := 1) E dX6_count_0 rfl rfl ?_
  refine x_iconst (pc := 1) (v := (4 : Int32)) E dX6_count_1 rfl ?_
  refine x_icmp_lt (pc := 2) (tgt := 25) E dX6_count_2 (by decide) hf (fun hf => ?_) (fun hf => ?_)
  · refine x_iload_n 1 (pc := 25) (i := 1) E dX6_count_25 rfl rfl ?_
    refine x_bipush (pc := 26) (v := (11 : Int32)) E dX6_count_26 rfl ?_
    refine x_icmp_lt (pc := 28) (tgt := 47) E dX6_count_28 (by decide) hf (fun hf => ?_) (fun hf => ?_)
    · refine x_iload_n 1 (pc := 47) (i := 1) E dX6_count_47 rfl rfl ?_
      refine x_swIf hf (fun hc hf => ?_) (fun hc0 hf => ?_)
      · refine x_swIn (pc := 48) (tgt := 80) (off := 32) E dX6_count_48 (by rw [hc]; decide) (by rw [hc]; decide) (by rw [hc]; decide) (by decide) ?_
        refine x_aload_n 0 (pc := 80) (i := 0) E dX6_count_80 rfl rfl ?_
        refine x_getR (pc := 81) (r := 1) (p := 0) E rfl (Nat.le_of_ble_eq_true rfl) rfl inlX6 (by decide) rfl wq_17 dX6_count_81 ?_
        refine x_getIN (pc := 84) (p := 4) E rfl (Nat.le_of_ble_eq_true rfl) rfl inlX0 (by decide) rfl wn_13 dX6_count_84 ?_
        obtain rfl := Option.some.inj hf
        exact x_iret (pc := 87) E hR dX6_count_87
      refine x_swIf hf (fun hc hf => ?_) (fun hc1 hf => ?_)
      · refine x_swIn (pc := 48) (tgt := 88) (off := 40) E dX6_count_48 (by rw [hc]; decide) (by rw [hc]; decide) (by rw [hc]; decide) (by decide) ?_
        refine x_aload_n 0 (pc := 88) (i := 0) E dX6_count_88 rfl rfl ?_
        refine x_getR (pc := 89) (r := 1) (p := 0) E rfl (Nat.le_of_ble_eq_true rfl) rfl inlX6 (by decide) rfl wq_17 dX6_count_89 ?_
        refine x_callVNri (pc := 92) (na := 0) (As := []) E (c_X0_called G σ) rfl (Nat.le_of_ble_eq_true rfl) rfl wq_488 wq_16 wn_40 wq_486 wq_487 rfl rfl (by decide) ⟨Nat.le_of_ble_eq_true rfl, Nat.le_of_ble_eq_true rfl⟩ rfl rfl (Nat.le_of_ble_eq_true rfl) dX6_count_92 hf (fun r1 hf => ?_)
        obtain rfl := Option.some.inj hf
        exact x_iret (pc := 95) E hR dX6_count_95
      refine x_swIf hf (fun hc hf => ?_) (fun hc2 hf => ?_)
      · refine x_swIn (pc := 48) (tgt := 96) (off := 48) E dX6_count_48 (by rw [hc]; decide) (by rw [hc]; decide) (by rw [hc]; decide) (by decide) ?_
        refine x_aload_n 0 (pc := 96) (i := 0) E dX6_count_96 rfl rfl ?_
        refine x_getR (pc := 97) (r := 11) (p := 3) E rfl (Nat.le_of_ble_eq_true rfl) rfl inlX6 (by decide) rfl wq_22 dX6_count_97 ?_
        refine x_getIN (pc := 100) (p := 2) E rfl (Nat.le_of_ble_eq_true rfl) rfl inlX4 (by decide) rfl wn_16 dX6_count_100 ?_
        obtain rfl := Option.some.inj hf
        exact x_iret (pc := 103) E hR dX6_count_103
      refine x_swIf hf (fun hc hf => ?_) (fun hc3 hf => ?_)
      · refine x_swIn (pc := 48) (tgt := 104) (off := 56) E dX6_count_48 (by rw [hc]; decide) (by rw [hc]; decide) (by rw [hc]; decide) (by decide) ?_
        refine x_aload_n 0 (pc := 104) (i := 0) E dX6_count_104 rfl rfl ?_
        refine x_getI (pc := 105) (p := 5) E rfl (Nat.le_of_ble_eq_true rfl) rfl inlX6 (by decide) rfl wq_551 dX6_count_105 ?_
        obtain rfl := Option.some.inj hf
        exact x_iret (pc := 108) E hR dX6_count_108
      refine x_swOut (pc := 48) (tgt := 109) E dX6_count_48 (by decide) (sw_d [(0 : Int32), (1 : Int32), (2 : Int32), (3 : Int32)] (by decide) (by decide) (by simp only [List.mem_cons, List.not_mem_nil, or_false, not_or]; exact ⟨hc0, hc1, hc2, hc3⟩)) ?_
      refine x_bipush (pc := 109) (v := (-9 : Int32)) E dX6_count_109 rfl ?_
      obtain rfl := Option.some.inj hf
      exact x_iret (pc := 111) E hR dX6_count_111
    · refine x_iload_n 1 (pc := 31) (i := 1) E dX6_count_31 rfl rfl ?_
      refine x_bipush (pc := 32) (v := (16 : Int32)) E dX6_count_32 rfl ?_
      refine x_icmp_gt (pc := 34) (tgt := 47) E dX6_count_34 (by decide) hf (fun hf => ?_) (fun hf => ?_)
      · refine x_iload_n 1 (pc := 47) (i := 1) E dX6_count_47 rfl rfl ?_
        refine x_swIf hf (fun hc hf => ?_) (fun hc0 hf => ?_)
        · refine x_swIn (pc := 48) (tgt := 80) (off := 32) E dX6_count_48 (by rw [hc]; decide) (by rw [hc]; decide) (by rw [hc]; decide) (by decide) ?_
          refine x_aload_n 0 (pc := 80) (i := 0) E dX6_count_80 rfl rfl ?_
          refine x_getR (pc := 81) (r := 1) (p := 0) E rfl (Nat.le_of_ble_eq_true rfl) rfl inlX6 (by decide) rfl wq_17 dX6_count_81 ?_
          refine x_getIN (pc := 84) (p := 4) E rfl (Nat.le_of_ble_eq_true rfl) rfl inlX0 (by decide) rfl wn_13 dX6_count_84 ?_
          obtain rfl := Option.some.inj hf
          exact x_iret (pc := 87) E hR dX6_count_87
        refine x_swIf hf (fun hc hf => ?_) (fun hc1 hf => ?_)
        · refine x_swIn (pc := 48) (tgt := 88) (off := 40) E dX6_count_48 (by rw [hc]; decide) (by rw [hc]; decide) (by rw [hc]; decide) (by decide) ?_
          refine x_aload_n 0 (pc := 88) (i := 0) E dX6_count_88 rfl rfl ?_
          refine x_getR (pc := 89) (r := 1) (p := 0) E rfl (Nat.le_of_ble_eq_true rfl) rfl inlX6 (by decide) rfl wq_17 dX6_count_89 ?_
          refine x_callVNri (pc := 92) (na := 0) (As := []) E (c_X0_called G σ) rfl (Nat.le_of_ble_eq_true rfl) rfl wq_488 wq_16 wn_40 wq_486 wq_487 rfl rfl (by decide) ⟨Nat.le_of_ble_eq_true rfl, Nat.le_of_ble_eq_true rfl⟩ rfl rfl (Nat.le_of_ble_eq_true rfl) dX6_count_92 hf (fun r2 hf => ?_)
          obtain rfl := Option.some.inj hf
          exact x_iret (pc := 95) E hR dX6_count_95
        refine x_swIf hf (fun hc hf => ?_) (fun hc2 hf => ?_)
        · refine x_swIn (pc := 48) (tgt := 96) (off := 48) E dX6_count_48 (by rw [hc]; decide) (by rw [hc]; decide) (by rw [hc]; decide) (by decide) ?_
          refine x_aload_n 0 (pc := 96) (i := 0) E dX6_count_96 rfl rfl ?_
          refine x_getR (pc := 97) (r := 11) (p := 3) E rfl (Nat.le_of_ble_eq_true rfl) rfl inlX6 (by decide) rfl wq_22 dX6_count_97 ?_
          refine x_getIN (pc := 100) (p := 2) E rfl (Nat.le_of_ble_eq_true rfl) rfl inlX4 (by decide) rfl wn_16 dX6_count_100 ?_
          obtain rfl := Option.some.inj hf
          exact x_iret (pc := 103) E hR dX6_count_103
        refine x_swIf hf (fun hc hf => ?_) (fun hc3 hf => ?_)
        · refine x_swIn (pc := 48) (tgt := 104) (off := 56) E dX6_count_48 (by rw [hc]; decide) (by rw [hc]; decide) (by rw [hc]; decide) (by decide) ?_
          refine x_aload_n 0 (pc := 104) (i := 0) E dX6_count_104 rfl rfl ?_
          refine x_getI (pc := 105) (p := 5) E rfl (Nat.le_of_ble_eq_true rfl) rfl inlX6 (by decide) rfl wq_551 dX6_count_105 ?_
          obtain rfl := Option.some.inj hf
          exact x_iret (pc := 108) E hR dX6_count_108
        refine x_swOut (pc := 48) (tgt := 109) E dX6_count_48 (by decide) (sw_d [(0 : Int32), (1 : Int32), (2 : Int32), (3 : Int32)] (by decide) (by decide) (by simp only [List.mem_cons, List.not_mem_nil, or_false, not_or]; exact ⟨hc0, hc1, hc2, hc3⟩)) ?_
        refine x_bipush (pc := 109) (v := (-9 : Int32)) E dX6_count_109 rfl ?_
        obtain rfl := Option.some.inj hf
        exact x_iret (pc := 111) E hR dX6_count_111
      · refine x_aload_n 0 (pc := 37) (i := 0) E dX6_count_37 rfl rfl ?_
        refine x_getR (pc := 38) (r := 15) (p := 6) E rfl (Nat.le_of_ble_eq_true rfl) rfl inlX6 (by decide) rfl wq_25 dX6_count_38 ?_
        refine x_iload_n 1 (pc := 41) (i := 1) E dX6_count_41 rfl rfl ?_
        refine x_bipush (pc := 42) (v := (10 : Int32)) E dX6_count_42 rfl ?_
        refine x_isub (pc := 44) E dX6_count_44 ?_
        refine x_iaload (pc := 45) E rfl (Nat.le_of_ble_eq_true rfl) dX6_count_45 hf (fun hf => ?_)
        obtain rfl := Option.some.inj hf
        exact x_iret (pc := 46) E hR dX6_count_46
  · refine x_iload_n 1 (pc := 5) (i := 1) E dX6_count_5 rfl rfl ?_
    refine x_bipush (pc := 6) (v := (9 : Int32)) E dX6_count_6 rfl ?_
    refine x_icmp_gt (pc := 8) (tgt := 25) E dX6_count_8 (by decide) hf (fun hf => ?_) (fun hf => ?_)
    · refine x_iload_n 1 (pc := 25) (i := 1) E dX6_count_25 rfl rfl ?_
      refine x_bipush (pc := 26) (v := (11 : Int32)) E dX6_count_26 rfl ?_
      refine x_icmp_lt (pc := 28) (tgt := 47) E dX6_count_28 (by decide) hf (fun hf => ?_) (fun hf => ?_)
      · refine x_iload_n 1 (pc := 47) (i := 1) E dX6_count_47 rfl rfl ?_
        refine x_swIf hf (fun hc hf => ?_) (fun hc0 hf => ?_)
        · refine x_swIn (pc := 48) (tgt := 80) (off := 32) E dX6_count_48 (by rw [hc]; decide) (by rw [hc]; decide) (by rw [hc]; decide) (by decide) ?_
          refine x_aload_n 0 (pc := 80) (i := 0) E dX6_count_80 rfl rfl ?_
          refine x_getR (pc := 81) (r := 1) (p := 0) E rfl (Nat.le_of_ble_eq_true rfl) rfl inlX6 (by decide) rfl wq_17 dX6_count_81 ?_
          refine x_getIN (pc := 84) (p := 4) E rfl (Nat.le_of_ble_eq_true rfl) rfl inlX0 (by decide) rfl wn_13 dX6_count_84 ?_
          obtain rfl := Option.some.inj hf
          exact x_iret (pc := 87) E hR dX6_count_87
        refine x_swIf hf (fun hc hf => ?_) (fun hc1 hf => ?_)
        · refine x_swIn (pc := 48) (tgt := 88) (off := 40) E dX6_count_48 (by rw [hc]; decide) (by rw [hc]; decide) (by rw [hc]; decide) (by decide) ?_
          refine x_aload_n 0 (pc := 88) (i := 0) E dX6_count_88 rfl rfl ?_
          refine x_getR (pc := 89) (r := 1) (p := 0) E rfl (Nat.le_of_ble_eq_true rfl) rfl inlX6 (by decide) rfl wq_17 dX6_count_89 ?_
          refine x_callVNri (pc := 92) (na := 0) (As := []) E (c_X0_called G σ) rfl (Nat.le_of_ble_eq_true rfl) rfl wq_488 wq_16 wn_40 wq_486 wq_487 rfl rfl (by decide) ⟨Nat.le_of_ble_eq_true rfl, Nat.le_of_ble_eq_true rfl⟩ rfl rfl (Nat.le_of_ble_eq_true rfl) dX6_count_92 hf (fun r3 hf => ?_)
          obtain rfl := Option.some.inj hf
          exact x_iret (pc := 95) E hR dX6_count_95
        refine x_swIf hf (fun hc hf => ?_) (fun hc2 hf => ?_)
        · refine x_swIn (pc := 48) (tgt := 96) (off := 48) E dX6_count_48 (by rw [hc]; decide) (by rw [hc]; decide) (by rw [hc]; decide) (by decide) ?_
          refine x_aload_n 0 (pc := 96) (i := 0) E dX6_count_96 rfl rfl ?_
          refine x_getR (pc := 97) (r := 11) (p := 3) E rfl (Nat.le_of_ble_eq_true rfl) rfl inlX6 (by decide) rfl wq_22 dX6_count_97 ?_
          refine x_getIN (pc := 100) (p := 2) E rfl (Nat.le_of_ble_eq_true rfl) rfl inlX4 (by decide) rfl wn_16 dX6_count_100 ?_
          obtain rfl := Option.some.inj hf
          exact x_iret (pc := 103) E hR dX6_count_103
        refine x_swIf hf (fun hc hf => ?_) (fun hc3 hf => ?_)
        · refine x_swIn (pc := 48) (tgt := 104) (off := 56) E dX6_count_48 (by rw [hc]; decide) (by rw [hc]; decide) (by rw [hc]; decide) (by decide) ?_
          refine x_aload_n 0 (pc := 104) (i := 0) E dX6_count_104 rfl rfl ?_
          refine x_getI (pc := 105) (p := 5) E rfl (Nat.le_of_ble_eq_true rfl) rfl inlX6 (by decide) rfl wq_551 dX6_count_105 ?_
          obtain rfl := Option.some.inj hf
          exact x_iret (pc := 108) E hR dX6_count_108
        refine x_swOut (pc := 48) (tgt := 109) E dX6_count_48 (by decide) (sw_d [(0 : Int32), (1 : Int32), (2 : Int32), (3 : Int32)] (by decide) (by decide) (by simp only [List.mem_cons, List.not_mem_nil, or_false, not_or]; exact ⟨hc0, hc1, hc2, hc3⟩)) ?_
        refine x_bipush (pc := 109) (v := (-9 : Int32)) E dX6_count_109 rfl ?_
        obtain rfl := Option.some.inj hf
        exact x_iret (pc := 111) E hR dX6_count_111
      · refine x_iload_n 1 (pc := 31) (i := 1) E dX6_count_31 rfl rfl ?_
        refine x_bipush (pc := 32) (v := (16 : Int32)) E dX6_count_32 rfl ?_
        refine x_icmp_gt (pc := 34) (tgt := 47) E dX6_count_34 (by decide) hf (fun hf => ?_) (fun hf => ?_)
        · refine x_iload_n 1 (pc := 47) (i := 1) E dX6_count_47 rfl rfl ?_
          refine x_swIf hf (fun hc hf => ?_) (fun hc0 hf => ?_)
          · refine x_swIn (pc := 48) (tgt := 80) (off := 32) E dX6_count_48 (by rw [hc]; decide) (by rw [hc]; decide) (by rw [hc]; decide) (by decide) ?_
            refine x_aload_n 0 (pc := 80) (i := 0) E dX6_count_80 rfl rfl ?_
            refine x_getR (pc := 81) (r := 1) (p := 0) E rfl (Nat.le_of_ble_eq_true rfl) rfl inlX6 (by decide) rfl wq_17 dX6_count_81 ?_
            refine x_getIN (pc := 84) (p := 4) E rfl (Nat.le_of_ble_eq_true rfl) rfl inlX0 (by decide) rfl wn_13 dX6_count_84 ?_
            obtain rfl := Option.some.inj hf
            exact x_iret (pc := 87) E hR dX6_count_87
          refine x_swIf hf (fun hc hf => ?_) (fun hc1 hf => ?_)
          · refine x_swIn (pc := 48) (tgt := 88) (off := 40) E dX6_count_48 (by rw [hc]; decide) (by rw [hc]; decide) (by rw [hc]; decide) (by decide) ?_
            refine x_aload_n 0 (pc := 88) (i := 0) E dX6_count_88 rfl rfl ?_
            refine x_getR (pc := 89) (r := 1) (p := 0) E rfl (Nat.le_of_ble_eq_true rfl) rfl inlX6 (by decide) rfl wq_17 dX6_count_89 ?_
            refine x_callVNri (pc := 92) (na := 0) (As := []) E (c_X0_called G σ) rfl (Nat.le_of_ble_eq_true rfl) rfl wq_488 wq_16 wn_40 wq_486 wq_487 rfl rfl (by decide) ⟨Nat.le_of_ble_eq_true rfl, Nat.le_of_ble_eq_true rfl⟩ rfl rfl (Nat.le_of_ble_eq_true rfl) dX6_count_92 hf (fun r4 hf => ?_)
            obtain rfl := Option.some.inj hf
            exact x_iret (pc := 95) E hR dX6_count_95
          refine x_swIf hf (fun hc hf => ?_) (fun hc2 hf => ?_)
          · refine x_swIn (pc := 48) (tgt := 96) (off := 48) E dX6_count_48 (by rw [hc]; decide) (by rw [hc]; decide) (by rw [hc]; decide) (by decide) ?_
            refine x_aload_n 0 (pc := 96) (i := 0) E dX6_count_96 rfl rfl ?_
            refine x_getR (pc := 97) (r := 11) (p := 3) E rfl (Nat.le_of_ble_eq_true rfl) rfl inlX6 (by decide) rfl wq_22 dX6_count_97 ?_
            refine x_getIN (pc := 100) (p := 2) E rfl (Nat.le_of_ble_eq_true rfl) rfl inlX4 (by decide) rfl wn_16 dX6_count_100 ?_
            obtain rfl := Option.some.inj hf
            exact x_iret (pc := 103) E hR dX6_count_103
          refine x_swIf hf (fun hc hf => ?_) (fun hc3 hf => ?_)
          · refine x_swIn (pc := 48) (tgt := 104) (off := 56) E dX6_count_48 (by rw [hc]; decide) (by rw [hc]; decide) (by rw [hc]; decide) (by decide) ?_
            refine x_aload_n 0 (pc := 104) (i := 0) E dX6_count_104 rfl rfl ?_
            refine x_getI (pc := 105) (p := 5) E rfl (Nat.le_of_ble_eq_true rfl) rfl inlX6 (by decide) rfl wq_551 dX6_count_105 ?_
            obtain rfl := Option.some.inj hf
            exact x_iret (pc := 108) E hR dX6_count_108
          refine x_swOut (pc := 48) (tgt := 109) E dX6_count_48 (by decide) (sw_d [(0 : Int32), (1 : Int32), (2 : Int32), (3 : Int32)] (by decide) (by decide) (by simp only [List.mem_cons, List.not_mem_nil, or_false, not_or]; exact ⟨hc0, hc1, hc2, hc3⟩)) ?_
          refine x_bipush (pc := 109) (v := (-9 : Int32)) E dX6_count_109 rfl ?_
          obtain rfl := Option.some.inj hf
          exact x_iret (pc := 111) E hR dX6_count_111
        · refine x_aload_n 0 (pc := 37) (i := 0) E dX6_count_37 rfl rfl ?_
          refine x_getR (pc := 38) (r := 15) (p := 6) E rfl (Nat.le_of_ble_eq_true rfl) rfl inlX6 (by decide) rfl wq_25 dX6_count_38 ?_
          refine x_iload_n 1 (pc := 41) (i := 1) E dX6_count_41 rfl rfl ?_
          refine x_bipush (pc := 42) (v := (10 : Int32)) E dX6_count_42 rfl ?_
          refine x_isub (pc := 44) E dX6_count_44 ?_
          refine x_iaload (pc := 45) E rfl (Nat.le_of_ble_eq_true rfl) dX6_count_45 hf (fun hf => ?_)
          obtain rfl := Option.some.inj hf
          exact x_iret (pc := 46) E hR dX6_count_46
    · refine x_aload_n 0 (pc := 11) (i := 0) E dX6_count_11 rfl rfl ?_
      refine x_getR (pc := 12) (r := 1) (p := 0) E rfl (Nat.le_of_ble_eq_true rfl) rfl inlX6 (by decide) rfl wq_17 dX6_count_12 ?_
      refine x_iload_n 1 (pc := 15) (i := 1) E dX6_count_15 rfl rfl ?_
      refine x_iconst (pc := 16) (v := (4 : Int32)) E dX6_count_16 rfl ?_
      refine x_isub (pc := 17) E dX6_count_17 ?_
      refine x_callVNri (pc := 18) (na := 1) (As := [.int (v1 - (4 : Int32))]) E (c_X0_ofSort G (v1 - (4 : Int32)) σ) rfl (Nat.le_of_ble_eq_true rfl) rfl wq_814 wq_16 wn_60 wq_812 wq_813 rfl rfl (by decide) ⟨Nat.le_of_ble_eq_true rfl, Nat.le_of_ble_eq_true rfl⟩ rfl rfl (Nat.le_of_ble_eq_true rfl) dX6_count_18 hf (fun r5 hf => ?_)
      refine x_callSri (pc := 21) (na := 1) (As := [.int r5]) E (c_J6_bitCount_0f7a4 G r5 σ) wq_309 wq_308 wq_306 wq_307 rfl rfl (by decide) ⟨Nat.le_of_ble_eq_true rfl, Nat.le_of_ble_eq_true rfl⟩ rfl rfl (Nat.le_of_ble_eq_true rfl) dX6_count_21 hf (fun r6 hf => ?_)
      obtain rfl := Option.some.inj hf
      exact x_iret (pc := 24) E hR dX6_count_24
