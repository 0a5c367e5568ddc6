set_option maxHeartbeats 4000000 in
set_option maxRecDepth 100000 in
theorem c_X7_coming (G : Gx) (σ : MM) (r : Int64) (σ' : MM) (hf : f_X7_coming σ = some (r, σ')) : Ct shM 21 yX7_coming cX7_coming 1 (some .long) rm_X7_coming G [.ref (gad G 0)] σ (some (.long r)) σ' := by
  refine ct_of (by decide) (Nat.le_of_ble_eq_true rfl) (fun K E hR => ?_)
  have E : OKc 21 cX7_coming 1 RX7 G K := E
  show XJ shM 21 1 rm_X7_coming G K σ [(0, .ref (gad G 0))] 0 []
  unfold f_X7_coming at hf
  refine x_aload_n 0 (pc := 0) (i := 0) E dX7_coming_0 rfl rfl ?_
  refine x_callVri (pc := 1) (na := 0) (As := []) E (c_X7_isEnough G σ) rfl (Nat.le_of_ble_eq_true rfl) rfl wq_516 wq_5 wq_513 wq_514 wq_515 rfl rfl (by decide) ⟨Nat.le_of_ble_eq_true rfl, Nat.le_of_ble_eq_true rfl⟩ rfl rfl (Nat.le_of_ble_eq_true rfl) dX7_coming_1 hf (fun r1 hf => ?_)
  refine x_if_ne (y := 0) (pc := 4) (tgt := 14) E dX7_coming_4 (by decide) hf (fun hf => ?_) (fun hf => ?_)
  · refine x_aload_n 0 (pc := 14) (i := 0) E dX7_coming_14 rfl rfl ?_
    refine x_callVwv (pc := 15) (na := 0) (As := []) E (c_X7_findComing G σ) rfl (Nat.le_of_ble_eq_true rfl) rfl wq_754 wq_5 wq_751 wq_752 wq_753 rfl rfl (by decide) ⟨Nat.le_of_ble_eq_true rfl, Nat.le_of_ble_eq_true rfl⟩ rfl rfl (Nat.le_of_ble_eq_true rfl) dX7_coming_15 hf (fun σ3 hf => ?_)
    refine x_aload_n 0 (pc := 18) (i := 0) E dX7_coming_18 rfl rfl ?_
    refine x_getR (pc := 19) (r := 19) (p := 29) E rfl (Nat.le_of_ble_eq_true rfl) rfl inlX7 (by decide) rfl wq_118 dX7_coming_19 ?_
    refine x_aload_n 0 (pc := 22) (i := 0) E dX7_coming_22 rfl rfl ?_
    refine x_iconst (pc := 23) (v := (0 : Int32)) E dX7_coming_23 rfl ?_
    refine x_aload_n 0 (pc := 24) (i := 0) E dX7_coming_24 rfl rfl ?_
    refine x_getR (pc := 25) (r := 4) (p := 3) E rfl (Nat.le_of_ble_eq_true rfl) rfl inlX7 (by decide) rfl wq_101 dX7_coming_25 ?_
    refine x_iconst (pc := 28) (v := (1 : Int32)) E dX7_coming_28 rfl ?_
    refine x_iaload (pc := 29) E rfl (Nat.le_of_ble_eq_true rfl) dX7_coming_29 hf (fun hf => ?_)
    refine x_iconst (pc := 30) (v := (0 : Int32)) E dX7_coming_30 rfl ?_
    refine x_callVri (pc := 31) (na := 3) (As := [.int (0 : Int32), .int (σ3.1 4 (1 : Int32).toNatClampNeg), .int (0 : Int32)]) E (c_X7_place G (0 : Int32) (σ3.1 4 (1 : Int32).toNatClampNeg) (0 : Int32) σ3) rfl (Nat.le_of_ble_eq_true rfl) rfl wq_762 wq_5 wq_759 wq_760 wq_761 rfl rfl (by decide) ⟨Nat.le_of_ble_eq_true rfl, Nat.le_of_ble_eq_true rfl⟩ rfl rfl (Nat.le_of_ble_eq_true rfl) dX7_coming_31 hf (fun r4 hf => ?_)
    refine x_laload (pc := 34) E rfl (Nat.le_of_ble_eq_true rfl) dX7_coming_34 hf (fun hf => ?_)
    obtain ⟨rfl, rfl⟩ := Prod.mk.inj (Option.some.inj hf)
    exact x_lret (pc := 35) E hR dX7_coming_35
  · refine x_aload_n 0 (pc := 7) (i := 0) E dX7_coming_7 rfl rfl ?_
    refine x_bipush (pc := 8) (v := (-3 : Int32)) E dX7_coming_8 rfl ?_
    refine x_callVwl (pc := 10) (na := 1) (As := [.int (-3 : Int32)]) E (c_X7_noLong G (-3 : Int32) σ) rfl (Nat.le_of_ble_eq_true rfl) rfl wq_352 wq_5 wq_349 wq_350 wq_351 rfl rfl (by decide) ⟨Nat.le_of_ble_eq_true rfl, Nat.le_of_ble_eq_true rfl⟩ rfl rfl (Nat.le_of_ble_eq_true rfl) dX7_coming_10 hf (fun r5 σ6 hf => ?_)
    obtain ⟨rfl, rfl⟩ := Prod.mk.inj (Option.some.inj hf)
    exact x_lret (pc := 13) E hR dX7_coming_13
set_option maxHeartbeats 4000000 in
set_option maxRecDepth 100000 in
theorem c_X7_come (G : Gx) (v1 : Int32) (σ : MM) (r : Int32) (σ' : MM) (hf : f_X7_come v1 σ = some (r, σ')) : Ct shM 21 yX7_come cX7_come 2 (some .int) rm_X7_come G [.ref (gad G 0), .int v1] σ (some (.int r)) σ' := by
  refine ct_of (by decide) (Nat.le_of_ble_eq_true rfl) (fun K E hR => ?_)
  have E : OKc 21 cX7_come 2 RX7 G K := E
  show XJ shM 21 2 rm_X7_come G K σ [(0, .ref (gad G 0)), (1, .int v1)] 0 []
  unfold f_X7_come at hf
  refine x_iload_n 1 (pc := 0) (i := 1) E dX7_come_0 rfl rfl ?_
  refine x_iconst (pc := 1) (v := (0 : Int32)) E dX7_come_1 rfl ?_
  refine x_iconst (pc := 2) (v := (2 : Int32)) E dX7_come_2 rfl ?_
  refine x_callSri (pc := 3) (na := 3) (As := [.int v1, .int (0 : Int32), .int (2 : Int32)]) E (c_X7_isIn G v1 (0 : Int32) (2 : Int32) σ) wq_185 wq_5 wq_183 wq_184 rfl rfl (by decide) ⟨Nat.le_of_ble_eq_true rfl, Nat.le_of_ble_eq_true rfl⟩ rfl rfl (Nat.le_of_ble_eq_true rfl) dX7_come_3 hf (fun r1 hf => ?_)
  refine x_if_ne (y := 0) (pc := 6) (tgt := 16) E dX7_come_6 (by decide) hf (fun hf => ?_) (fun hf => ?_)
  · refine x_aload_n 0 (pc := 16) (i := 0) E dX7_come_16 rfl rfl ?_
    refine x_callVri (pc := 17) (na := 0) (As := []) E (c_X7_isEnough G σ) rfl (Nat.le_of_ble_eq_true rfl) rfl wq_516 wq_5 wq_513 wq_514 wq_515 rfl rfl (by decide) ⟨Nat.le_of_ble_eq_true rfl, Nat.le_of_ble_eq_true rfl⟩ rfl rfl (Nat.le_of_ble_eq_true rfl) dX7_come_17 hf (fun r2 hf => ?_)
    refine x_if_ne (y := 0) (pc := 20) (tgt := 30) E dX7_come_20 (by decide) hf (fun hf => ?_) (fun hf => ?_)
    · refine x_aload_n 0 (pc := 30) (i := 0) E dX7_come_30 rfl rfl ?_
      refine x_callVwv (pc := 31) (na := 0) (As := []) E (c_X7_findCome G σ) rfl (Nat.le_of_ble_eq_true rfl) rfl wq_800 wq_5 wq_797 wq_798 wq_799 rfl rfl (by decide) ⟨Nat.le_of_ble_eq_true rfl, Nat.le_of_ble_eq_true rfl⟩ rfl rfl (Nat.le_of_ble_eq_true rfl) dX7_come_31 hf (fun σ4 hf => ?_)
      refine x_iload_n 1 (pc := 34) (i := 1) E dX7_come_34 rfl rfl ?_
      refine x_if_ne (y := 0) (pc := 35) (tgt := 45) E dX7_come_35 (by decide) hf (fun hf => ?_) (fun hf => ?_)
      · refine x_iload_n 1 (pc := 45) (i := 1) E dX7_come_45 rfl rfl ?_
        refine x_iconst (pc := 46) (v := (1 : Int32)) E dX7_come_46 rfl ?_
        refine x_icmp_ne (pc := 47) (tgt := 57) E dX7_come_47 (by decide) hf (fun hf => ?_) (fun hf => ?_)
        · refine x_aload_n 0 (pc := 57) (i := 0) E dX7_come_57 rfl rfl ?_
          refine x_getI (pc := 58) (p := 32) E rfl (Nat.le_of_ble_eq_true rfl) rfl inlX7 (by decide) rfl wq_796 dX7_come_58 ?_
          obtain ⟨rfl, rfl⟩ := Prod.mk.inj (Option.some.inj hf)
          exact x_iret (pc := 61) E hR dX7_come_61
        · refine x_aload_n 0 (pc := 50) (i := 0) E dX7_come_50 rfl rfl ?_
          refine x_getI (pc := 51) (p := 31) E rfl (Nat.le_of_ble_eq_true rfl) rfl inlX7 (by decide) rfl wq_795 dX7_come_51 ?_
          refine x_goto (pc := 54) (tgt := 61) E dX7_come_54 (by decide) ?_
          obtain ⟨rfl, rfl⟩ := Prod.mk.inj (Option.some.inj hf)
          exact x_iret (pc := 61) E hR dX7_come_61
      · refine x_aload_n 0 (pc := 38) (i := 0) E dX7_come_38 rfl rfl ?_
        refine x_getI (pc := 39) (p := 30) E rfl (Nat.le_of_ble_eq_true rfl) rfl inlX7 (by decide) rfl wq_794 dX7_come_39 ?_
        refine x_goto (pc := 42) (tgt := 61) E dX7_come_42 (by decide) ?_
        obtain ⟨rfl, rfl⟩ := Prod.mk.inj (Option.some.inj hf)
        exact x_iret (pc := 61) E hR dX7_come_61
    · refine x_aload_n 0 (pc := 23) (i := 0) E dX7_come_23 rfl rfl ?_
      refine x_bipush (pc := 24) (v := (-3 : Int32)) E dX7_come_24 rfl ?_
      refine x_callVwi (pc := 26) (na := 1) (As := [.int (-3 : Int32)]) E (c_X7_no G (-3 : Int32) σ) rfl (Nat.le_of_ble_eq_true rfl) rfl wq_151 wq_5 wq_148 wq_149 wq_150 rfl rfl (by decide) ⟨Nat.le_of_ble_eq_true rfl, Nat.le_of_ble_eq_true rfl⟩ rfl rfl (Nat.le_of_ble_eq_true rfl) dX7_come_26 hf (fun r5 σ6 hf => ?_)
      obtain ⟨rfl, rfl⟩ := Prod.mk.inj (Option.some.inj hf)
      exact x_iret (pc := 29) E hR dX7_come_29
  · refine x_aload_n 0 (pc := 9) (i := 0) E dX7_come_9 rfl rfl ?_
    refine x_bipush (pc := 10) (v := (-2 : Int32)) E dX7_come_10 rfl ?_
    refine x_callVwi (pc := 12) (na := 1) (As := [.int (-2 : Int32)]) E (c_X7_no G (-2 : Int32) σ) rfl (Nat.le_of_ble_eq_true rfl) rfl wq_151 wq_5 wq_148 wq_149 wq_150 rfl rfl (by decide) ⟨Nat.le_of_ble_eq_true rfl, Nat.le_of_ble_eq_true rfl⟩ rfl rfl (Nat.le_of_ble_eq_true rfl) dX7_come_12 hf (fun r7 σ8 hf => ?_)
    obtain ⟨rfl, rfl⟩ := Prod.mk.inj (Option.some.inj hf)
    exact x_iret (pc := 15) E hR dX7_come_15
set_option maxHeartbeats 4000000 in
set_option maxRecDepth 100000 in
theorem l_X7_ways_18 (G : Gx) {K : Kx}   (v0 : Int32) (v1 : Int32) (σ : MM) (E : OKc 21 cX7_ways 5 RX7 G K) : ∀ (m : Nat) (v2 : Int64) (v4 : Int32) (out : Int64), loopN (fun s => g_X7_ways_18 v0 v1 s.1 s.2 σ) m (v2, v4) = some out → XJ shM 21 5 rm_X7_ways G K σ [(2, .long out)] 50 [] → XJ shM 21 5 rm_X7_ways G K σ [(0, .int v0), (1, .int v1), (2, .long v2), (4, .int v4)] 18 [] := by
  intro m
  induction m with
  | zero => intro v2 v4 out hf; exact (loopN_0 hf).elim
  | succ m ih =>
    intro v2 v4 out hf hk
    obtain ⟨q, hf, h2⟩ := loopN_s hf
    have hf : g_X7_ways_18 v0 v1 v2 v4 σ = some q := hf
    unfold g_X7_ways_18 at hf
    refine x_iload 3 (pc := 18) E dX7_ways_18 rfl ?_
    refine x_iload_n 1 (pc := 20) (i := 1) E dX7_ways_20 rfl rfl ?_
    refine x_icmp_ge (pc := 21) (tgt := 50) E dX7_ways_21 (by decide) hf (fun hf => ?_) (fun hf => ?_)
    · obtain rfl := Option.some.inj hf
      obtain rfl := lpk_r h2
      exact x_sub [2] rfl hk
    · refine x_lload_n 2 (pc := 24) (i := 2) E dX7_ways_24 rfl rfl ?_
      refine x_lconst (pc := 25) (v := 0) E dX7_ways_25 rfl ?_
      refine x_lcmp_le (pc := 26) (tgt := 50) E dX7_ways_26 dX7_ways_27 (by decide) hf (fun hf => ?_) (fun hf => ?_)
      · obtain rfl := Option.some.inj hf
        obtain rfl := lpk_r h2
        exact x_sub [2] rfl hk
      · refine x_lload_n 2 (pc := 30) (i := 2) E dX7_ways_30 rfl rfl ?_
        refine x_iload_n 0 (pc := 31) (i := 0) E dX7_ways_31 rfl rfl ?_
        refine x_iload 3 (pc := 32) E dX7_ways_32 rfl ?_
        refine x_isub (pc := 34) E dX7_ways_34 ?_
        refine x_i2l (pc := 35) E dX7_ways_35 ?_
        refine x_lmul (pc := 36) E dX7_ways_36 ?_
        refine x_iload 3 (pc := 37) E dX7_ways_37 rfl ?_
        refine x_iconst (pc := 39) (v := (1 : Int32)) E dX7_ways_39 rfl ?_
        refine x_iadd (pc := 40) E dX7_ways_40 ?_
        refine x_i2l (pc := 41) E dX7_ways_41 ?_
        refine x_ldiv (pc := 42) E dX7_ways_42 hf (fun hf => ?_)
        refine x_lstore_n (pc := 43) (lv' := [(2, .long ((v2 * ((v0 - v4).toInt64)) / ((v4 + (1 : Int32)).toInt64))), (0, .int v0), (1, .int v1), (4, .int v4)]) E dX7_ways_43 rfl (by decide) rfl ?_
        refine x_iinc 3 (pc := 44) (v := v4 + 1) (lv' := [(4, .int (v4 + 1)), (2, .long ((v2 * ((v0 - v4).toInt64)) / ((v4 + (1 : Int32)).toInt64))), (0, .int v0), (1, .int v1)]) E dX7_ways_44 rfl rfl (by decide) rfl ?_
        refine x_goto (pc := 47) (tgt := 18) E dX7_ways_47 (by decide) ?_
        obtain rfl := Option.some.inj hf
        exact x_sub [2, 3, 1, 0] rfl (ih _ _ _ (lpk_l h2) hk)
set_option maxHeartbeats 4000000 in
set_option maxRecDepth 100000 in
theorem c_X7_ways (G : Gx) (v0 : Int32) (v1 : Int32) (σ : MM) (r : Int64) (hf : f_X7_ways v0 v1 σ = some r) : Ct shM 21 yX7_ways cX7_ways 5 (some .long) rm_X7_ways G [.int v0, .int v1] σ (some (.long r)) σ := by
  refine ct_of (by decide) (Nat.le_of_ble_eq_true rfl) (fun K E hR => ?_)
  have E : OKc 21 cX7_ways 5 RX7 G K := E
  show XJ shM 21 5 rm_X7_ways G K σ [(0, .int v0), (1, .int v1)] 0 []
  unfold f_X7_ways at hf
  refine x_iload_n 1 (pc := 0) (i := 1) E dX7_ways_0 rfl rfl ?_
  obtain ⟨o1, hf3, hf⟩ := bind_some hf
  have hJ2 : XJ shM 21 5 rm_X7_ways G K σ [(0, .int v0), (1, .int v1)] 14 [.long o1] := by
    refine x_lstore_n (pc := 14) (lv' := [(2, .long o1), (0, .int v0), (1, .int v1)]) E dX7_ways_14 rfl (by decide) rfl ?_
    refine x_iconst (pc := 15) (v := (0 : Int32)) E dX7_ways_15 rfl ?_
    refine x_istore (pc := 16) (lv' := [(4, .int (0 : Int32)), (2, .long o1), (0, .int v0), (1, .int v1)]) E dX7_ways_16 (by decide) rfl ?_
    obtain ⟨o4, hl5, hf⟩ := bind_some hf
    refine x_sub [2, 3, 1, 0] rfl (l_X7_ways_18 G   v0 v1 σ E FU _ _ o4 hl5 ?_)
    refine x_lload_n 0 (pc := 50) (i := 2) E dX7_ways_50 rfl rfl ?_
    obtain rfl := Option.some.inj hf
    exact x_lret (pc := 51) E hR dX7_ways_51
  refine x_if_lt (y := 0) (pc := 1) (tgt := 9) E dX7_ways_1 (by decide) hf3 (fun hf3 => ?_) (fun hf3 => ?_)
  · refine x_lconst (pc := 9) (v := 0) E dX7_ways_9 rfl ?_
    refine x_goto (pc := 10) (tgt := 14) E dX7_ways_10 (by decide) ?_
    obtain rfl := Option.some.inj hf3
    exact x_sub [0, 1] rfl hJ2
  · refine x_iload_n 1 (pc := 4) (i := 1) E dX7_ways_4 rfl rfl ?_
    refine x_iload_n 0 (pc := 5) (i := 0) E dX7_ways_5 rfl rfl ?_
    refine x_icmp_le (pc := 6) (tgt := 13) E dX7_ways_6 (by decide) hf3 (fun hf3 => ?_) (fun hf3 => ?_)
    · refine x_lconst (pc := 13) (v := 1) E dX7_ways_13 rfl ?_
      obtain rfl := Option.some.inj hf3
      exact x_sub [0, 1] rfl hJ2
    · refine x_lconst (pc := 9) (v := 0) E dX7_ways_9 rfl ?_
      refine x_goto (pc := 10) (tgt := 14) E dX7_ways_10 (by decide) ?_
      obtain rfl := Option.some.inj hf3
      exact x_sub [0, 1] rfl hJ2
set_option maxHeartbeats 4000000 in
set_option maxRecDepth 100000 in
theorem l_X7_seldom_82 (G : Gx) {K : Kx}   (v1 : Int32) (σ : MM) (E : OKc 21 cX7_seldom 8 RX7 G K) : ∀ (m : Nat) (v3 : Int32) (v4 : Int32) (v5 : Int32) (out : Int32 × Int32), loopN (fun s => g_X7_seldom_82 v1 s.1 s.2.1 s.2.2 σ) m (v3, v4, v5) = some out → XJ shM 21 8 rm_X7_seldom G K σ [(0, .ref (gad G 0)), (3, .int out.1), (4, .int out.2)] 145 [] → XJ shM 21 8 rm_X7_seldom G K σ [(0, .ref (gad G 0)), (1, .int v1), (3, .int v3), (4, .int v4), (5, .int v5)] 82 [] := by
  intro m
  induction m with
  | zero => intro v3 v4 v5 out hf; exact (loopN_0 hf).elim
  | succ m ih =>
    intro v3 v4 v5 out hf hk
    obtain ⟨q, hf, h2⟩ := loopN_s hf
    have hf : g_X7_seldom_82 v1 v3 v4 v5 σ = some q := hf
    unfold g_X7_seldom_82 at hf
    refine x_iload 4 (pc := 82) E dX7_seldom_82 rfl ?_
    refine x_aload_n 0 (pc := 84) (i := 0) E dX7_seldom_84 rfl rfl ?_
    refine x_callVri (pc := 85) (na := 0) (As := []) E (c_X7_calledMany G σ) rfl (Nat.le_of_ble_eq_true rfl) rfl wq_520 wq_5 wq_517 wq_518 wq_519 rfl rfl (by decide) ⟨Nat.le_of_ble_eq_true rfl, Nat.le_of_ble_eq_true rfl⟩ rfl rfl (Nat.le_of_ble_eq_true rfl) dX7_seldom_85 hf (fun r9 hf => ?_)
    refine x_icmp_ge (pc := 88) (tgt := 145) E dX7_seldom_88 (by decide) hf (fun hf => ?_) (fun hf => ?_)
    · obtain rfl := Option.some.inj hf
      obtain rfl := lpk_r h2
      exact x_sub [0, 2, 3] rfl hk
    · refine x_iload_n 2 (pc := 91) (i := 3) E dX7_seldom_91 rfl rfl ?_
      refine x_aload_n 0 (pc := 92) (i := 0) E dX7_seldom_92 rfl rfl ?_
      refine x_getR (pc := 93) (r := 3) (p := 2) E rfl (Nat.le_of_ble_eq_true rfl) rfl inlX7 (by decide) rfl wq_100 dX7_seldom_93 ?_
      refine x_iload 4 (pc := 96) E dX7_seldom_96 rfl ?_
      refine x_iaload (pc := 98) E rfl (Nat.le_of_ble_eq_true rfl) dX7_seldom_98 hf (fun hf => ?_)
      refine x_iload_n 1 (pc := 99) (i := 1) E dX7_seldom_99 rfl rfl ?_
      obtain ⟨o10, hf12, hf⟩ := bind_some hf
      have hJ11 : XJ shM 21 8 rm_X7_seldom G K σ [(0, .ref (gad G 0)), (1, .int v1), (4, .int v4), (5, .int v5)] 116 [.int o10, .int v3] := by
        refine x_iadd (pc := 116) E dX7_seldom_116 ?_
        refine x_istore_n (pc := 117) (lv' := [(3, .int (v3 + o10)), (0, .ref (gad G 0)), (1, .int v1), (4, .int v4), (5, .int v5)]) E dX7_seldom_117 rfl (by decide) rfl ?_
        refine x_iload 3 (pc := 118) E dX7_seldom_118 rfl ?_
        refine x_aload_n 1 (pc := 120) (i := 0) E dX7_seldom_120 rfl rfl ?_
        refine x_getR (pc := 121) (r := 3) (p := 2) E rfl (Nat.le_of_ble_eq_true rfl) rfl inlX7 (by decide) rfl wq_100 dX7_seldom_121 ?_
        refine x_iload 4 (pc := 124) E dX7_seldom_124 rfl ?_
        refine x_iaload (pc := 126) E rfl (Nat.le_of_ble_eq_true rfl) dX7_seldom_126 hf (fun hf => ?_)
        refine x_iload_n 2 (pc := 127) (i := 1) E dX7_seldom_127 rfl rfl ?_
        refine x_icmp_ne (pc := 128) (tgt := 135) E dX7_seldom_128 (by decide) hf (fun hf => ?_) (fun hf => ?_)
        · refine x_iconst (pc := 135) (v := (0 : Int32)) E dX7_seldom_135 rfl ?_
          refine x_iadd (pc := 136) E dX7_seldom_136 ?_
          refine x_istore (pc := 137) (lv' := [(4, .int (v4 + (0 : Int32))), (3, .int (v3 + o10)), (0, .ref (gad G 0)), (1, .int v1), (5, .int v5)]) E dX7_seldom_137 (by decide) rfl ?_
          refine x_iinc 4 (pc := 139) (v := v5 + 1) (lv' := [(5, .int (v5 + 1)), (4, .int (v4 + (0 : Int32))), (3, .int (v3 + o10)), (0, .ref (gad G 0)), (1, .int v1)]) E dX7_seldom_139 rfl rfl (by decide) rfl ?_
          refine x_goto (pc := 142) (tgt := 82) E dX7_seldom_142 (by decide) ?_
          obtain rfl := Option.some.inj hf
          exact x_sub [3, 4, 2, 1, 0] rfl (ih _ _ _ _ (lpk_l h2) hk)
        · refine x_iconst (pc := 131) (v := (1 : Int32)) E dX7_seldom_131 rfl ?_
          refine x_goto (pc := 132) (tgt := 136) E dX7_seldom_132 (by decide) ?_
          refine x_iadd (pc := 136) E dX7_seldom_136 ?_
          refine x_istore (pc := 137) (lv' := [(4, .int (v4 + (1 : Int32))), (3, .int (v3 + o10)), (0, .ref (gad G 0)), (1, .int v1), (5, .int v5)]) E dX7_seldom_137 (by decide) rfl ?_
          refine x_iinc 4 (pc := 139) (v := v5 + 1) (lv' := [(5, .int (v5 + 1)), (4, .int (v4 + (1 : Int32))), (3, .int (v3 + o10)), (0, .ref (gad G 0)), (1, .int v1)]) E dX7_seldom_139 rfl rfl (by decide) rfl ?_
          refine x_goto (pc := 142) (tgt := 82) E dX7_seldom_142 (by decide) ?_
          obtain rfl := Option.some.inj hf
          exact x_sub [3, 4, 2, 1, 0] rfl (ih _ _ _ _ (lpk_l h2) hk)
      refine x_icmp_ne (pc := 100) (tgt := 115) E dX7_seldom_100 (by decide) hf12 (fun hf12 => ?_) (fun hf12 => ?_)
      · refine x_iconst (pc := 115) (v := (0 : Int32)) E dX7_seldom_115 rfl ?_
        obtain rfl := Option.some.inj hf12
        exact x_sub [0, 1, 3, 4] rfl hJ11
      · refine x_aload_n 0 (pc := 103) (i := 0) E dX7_seldom_103 rfl rfl ?_
        refine x_getI (pc := 104) (p := 20) E rfl (Nat.le_of_ble_eq_true rfl) rfl inlX7 (by decide) rfl wq_598 dX7_seldom_104 ?_
        refine x_iload 4 (pc := 107) E dX7_seldom_107 rfl ?_
        refine x_ishr (pc := 109) E dX7_seldom_109 ?_
        refine x_iconst (pc := 110) (v := (1 : Int32)) E dX7_seldom_110 rfl ?_
        refine x_iand (pc := 111) E dX7_seldom_111 ?_
        refine x_goto (pc := 112) (tgt := 116) E dX7_seldom_112 (by decide) ?_
        obtain rfl := Option.some.inj hf12
        exact x_sub [0, 1, 3, 4] rfl hJ11
set_option maxHeartbeats 4000000 in
set_option maxRecDepth 100000 in
theorem l_X7_seldom_151 (G : Gx) {K : Kx}   (v4 : Int32) (σ : MM) (E : OKc 21 cX7_seldom 8 RX7 G K) : ∀ (m : Nat) (v5 : Int64) (v7 : Int32) (out : Int64), loopN (fun s => g_X7_seldom_151 v4 s.1 s.2 σ) m (v5, v7) = some out → XJ shM 21 8 rm_X7_seldom G K σ [(5, .long out)] 200 [] → XJ shM 21 8 rm_X7_seldom G K σ [(0, .ref (gad G 0)), (4, .int v4), (5, .long v5), (7, .int v7)] 151 [] := by
  intro m
  induction m with
  | zero => intro v5 v7 out hf; exact (loopN_0 hf).elim
  | succ m ih =>
    intro v5 v7 out hf hk
    obtain ⟨q, hf, h2⟩ := loopN_s hf
    have hf : g_X7_seldom_151 v4 v5 v7 σ = some q := hf
    unfold g_X7_seldom_151 at hf
    refine x_iload 3 (pc := 151) E dX7_seldom_151 rfl ?_
    refine x_aload_n 0 (pc := 153) (i := 0) E dX7_seldom_153 rfl rfl ?_
    refine x_getR (pc := 154) (r := 4) (p := 3) E rfl (Nat.le_of_ble_eq_true rfl) rfl inlX7 (by decide) rfl wq_101 dX7_seldom_154 ?_
    refine x_iconst (pc := 157) (v := (1 : Int32)) E dX7_seldom_157 rfl ?_
    refine x_iaload (pc := 158) E rfl (Nat.le_of_ble_eq_true rfl) dX7_seldom_158 hf (fun hf => ?_)
    refine x_icmp_gt (pc := 159) (tgt := 200) E dX7_seldom_159 (by decide) hf (fun hf => ?_) (fun hf => ?_)
    · obtain rfl := Option.some.inj hf
      obtain rfl := lpk_r h2
      exact x_sub [2] rfl hk
    · refine x_lload 2 (pc := 162) E dX7_seldom_162 rfl ?_
      refine x_iload 1 (pc := 164) E dX7_seldom_164 rfl ?_
      refine x_iload 3 (pc := 166) E dX7_seldom_166 rfl ?_
      refine x_callSrl (pc := 168) (na := 2) (As := [.int v4, .int v7]) E (c_X7_ways G v4 v7 σ) wq_825 wq_5 wq_823 wq_824 rfl rfl (by decide) ⟨Nat.le_of_ble_eq_true rfl, Nat.le_of_ble_eq_true rfl⟩ rfl rfl (Nat.le_of_ble_eq_true rfl) dX7_seldom_168 hf (fun r15 hf => ?_)
      refine x_aload_n 0 (pc := 171) (i := 0) E dX7_seldom_171 rfl rfl ?_
      refine x_callVri (pc := 172) (na := 0) (As := []) E (c_X7_calledMany G σ) rfl (Nat.le_of_ble_eq_true rfl) rfl wq_520 wq_5 wq_517 wq_518 wq_519 rfl rfl (by decide) ⟨Nat.le_of_ble_eq_true rfl, Nat.le_of_ble_eq_true rfl⟩ rfl rfl (Nat.le_of_ble_eq_true rfl) dX7_seldom_172 hf (fun r16 hf => ?_)
      refine x_iload 1 (pc := 175) E dX7_seldom_175 rfl ?_
      refine x_isub (pc := 177) E dX7_seldom_177 ?_
      refine x_aload_n 0 (pc := 178) (i := 0) E dX7_seldom_178 rfl rfl ?_
      refine x_getR (pc := 179) (r := 4) (p := 3) E rfl (Nat.le_of_ble_eq_true rfl) rfl inlX7 (by decide) rfl wq_101 dX7_seldom_179 ?_
      refine x_iconst (pc := 182) (v := (1 : Int32)) E dX7_seldom_182 rfl ?_
      refine x_iaload (pc := 183) E rfl (Nat.le_of_ble_eq_true rfl) dX7_seldom_183 hf (fun hf => ?_)
      refine x_iload 3 (pc := 184) E dX7_seldom_184 rfl ?_
      refine x_isub (pc := 186) E dX7_seldom_186 ?_
      refine x_callSrl (pc := 187) (na := 2) (As := [.int (r16 - v4), .int ((σ.1 4 (1 : Int32).toNatClampNeg) - v7)]) E (c_X7_ways G (r16 - v4) ((σ.1 4 (1 : Int32).toNatClampNeg) - v7) σ) wq_825 wq_5 wq_823 wq_824 rfl rfl (by decide) ⟨Nat.le_of_ble_eq_true rfl, Nat.le_of_ble_eq_true rfl⟩ rfl rfl (Nat.le_of_ble_eq_true rfl) dX7_seldom_187 hf (fun r17 hf => ?_)
      refine x_lmul (pc := 190) E dX7_seldom_190 ?_
      refine x_ladd (pc := 191) E dX7_seldom_191 ?_
      refine x_lstore (pc := 192) (lv' := [(5, .long (v5 + (r15 * r17))), (0, .ref (gad G 0)), (4, .int v4), (7, .int v7)]) E dX7_seldom_192 (by decide) rfl ?_
      refine x_iinc 3 (pc := 194) (v := v7 + 1) (lv' := [(7, .int (v7 + 1)), (5, .long (v5 + (r15 * r17))), (0, .ref (gad G 0)), (4, .int v4)]) E dX7_seldom_194 rfl rfl (by decide) rfl ?_
      refine x_goto (pc := 197) (tgt := 151) E dX7_seldom_197 (by decide) ?_
      obtain rfl := Option.some.inj hf
      exact x_sub [2, 3, 1, 0] rfl (ih _ _ _ (lpk_l h2) hk)
set_option maxHeartbeats 4000000 in
set_option maxRecDepth 100000 in
theorem c_X7_seldom (G : Gx) (v1 : Int32) (v2 : Int32) (σ : MM) (r : Int64) (σ' : MM) (hf : f_X7_seldom v1 v2 σ = some (r, σ')) : Ct shM 21 yX7_seldom cX7_seldom 8 (some .long) rm_X7_seldom G [.ref (gad G 0), .int v1, .int v2] σ (some (.long r)) σ' := by
  refine ct_of (by decide) (Nat.le_of_ble_eq_true rfl) (fun K E hR => ?_)
  have E : OKc 21 cX7_seldom 8 RX7 G K := E
  show XJ shM 21 8 rm_X7_seldom G K σ [(0, .ref (gad G 0)), (1, .int v1), (2, .int v2)] 0 []
  unfold f_X7_seldom at hf
  refine x_iload_n 1 (pc := 0) (i := 1) E dX7_seldom_0 rfl rfl ?_
  refine x_callSri (pc := 1) (na := 1) (As := [.int v1]) E (c_X7_isSort G v1 σ) wq_147 wq_5 wq_145 wq_146 rfl rfl (by decide) ⟨Nat.le_of_ble_eq_true rfl, Nat.le_of_ble_eq_true rfl⟩ rfl rfl (Nat.le_of_ble_eq_true rfl) dX7_seldom_1 hf (fun r1 hf => ?_)
  refine x_if_ne (y := 0) (pc := 4) (tgt := 13) E dX7_seldom_4 (by decide) hf (fun hf => ?_) (fun hf => ?_)
  · refine x_iload_n 2 (pc := 13) (i := 2) E dX7_seldom_13 rfl rfl ?_
    refine x_iconst (pc := 14) (v := (0 : Int32)) E dX7_seldom_14 rfl ?_
    refine x_iconst (pc := 15) (v := (1 : Int32)) E dX7_seldom_15 rfl ?_
    refine x_callSri (pc := 16) (na := 3) (As := [.int v2, .int (0 : Int32), .int (1 : Int32)]) E (c_X7_isIn G v2 (0 : Int32) (1 : Int32) σ) wq_185 wq_5 wq_183 wq_184 rfl rfl (by decide) ⟨Nat.le_of_ble_eq_true rfl, Nat.le_of_ble_eq_true rfl⟩ rfl rfl (Nat.le_of_ble_eq_true rfl) dX7_seldom_16 hf (fun r2 hf => ?_)
    refine x_if_ne (y := 0) (pc := 19) (tgt := 29) E dX7_seldom_19 (by decide) hf (fun hf => ?_) (fun hf => ?_)
    · refine x_aload_n 0 (pc := 29) (i := 0) E dX7_seldom_29 rfl rfl ?_
      refine x_callVri (pc := 30) (na := 0) (As := []) E (c_X7_isEnough G σ) rfl (Nat.le_of_ble_eq_true rfl) rfl wq_516 wq_5 wq_513 wq_514 wq_515 rfl rfl (by decide) ⟨Nat.le_of_ble_eq_true rfl, Nat.le_of_ble_eq_true rfl⟩ rfl rfl (Nat.le_of_ble_eq_true rfl) dX7_seldom_30 hf (fun r3 hf => ?_)
      refine x_if_eq (y := 0) (pc := 33) (tgt := 43) E dX7_seldom_33 (by decide) hf (fun hf => ?_) (fun hf => ?_)
      · refine x_aload_n 0 (pc := 43) (i := 0) E dX7_seldom_43 rfl rfl ?_
        refine x_bipush (pc := 44) (v := (-3 : Int32)) E dX7_seldom_44 rfl ?_
        refine x_callVwl (pc := 46) (na := 1) (As := [.int (-3 : Int32)]) E (c_X7_noLong G (-3 : Int32) σ) rfl (Nat.le_of_ble_eq_true rfl) rfl wq_352 wq_5 wq_349 wq_350 wq_351 rfl rfl (by decide) ⟨Nat.le_of_ble_eq_true rfl, Nat.le_of_ble_eq_true rfl⟩ rfl rfl (Nat.le_of_ble_eq_true rfl) dX7_seldom_46 hf (fun r4 σ5 hf => ?_)
        obtain ⟨rfl, rfl⟩ := Prod.mk.inj (Option.some.inj hf)
        exact x_lret (pc := 49) E hR dX7_seldom_49
      · refine x_aload_n 0 (pc := 36) (i := 0) E dX7_seldom_36 rfl rfl ?_
        refine x_callVri (pc := 37) (na := 0) (As := []) E (c_X7_isLawful G σ) rfl (Nat.le_of_ble_eq_true rfl) rfl wq_580 wq_5 wq_577 wq_578 wq_579 rfl rfl (by decide) ⟨Nat.le_of_ble_eq_true rfl, Nat.le_of_ble_eq_true rfl⟩ rfl rfl (Nat.le_of_ble_eq_true rfl) dX7_seldom_37 hf (fun r6 hf => ?_)
        refine x_if_ne (y := 0) (pc := 40) (tgt := 50) E dX7_seldom_40 (by decide) hf (fun hf => ?_) (fun hf => ?_)
        · refine x_iload_n 2 (pc := 50) (i := 2) E dX7_seldom_50 rfl rfl ?_
          refine x_iconst (pc := 51) (v := (1 : Int32)) E dX7_seldom_51 rfl ?_
          refine x_icmp_ne (pc := 52) (tgt := 69) E dX7_seldom_52 (by decide) hf (fun hf => ?_) (fun hf => ?_)
          · refine x_aload_n 0 (pc := 69) (i := 0) E dX7_seldom_69 rfl rfl ?_
            refine x_callVwi (pc := 70) (na := 0) (As := []) E (c_X7_findSlip G σ) rfl (Nat.le_of_ble_eq_true rfl) rfl wq_597 wq_5 wq_594 wq_595 wq_596 rfl rfl (by decide) ⟨Nat.le_of_ble_eq_true rfl, Nat.le_of_ble_eq_true rfl⟩ rfl rfl (Nat.le_of_ble_eq_true rfl) dX7_seldom_70 hf (fun r7 σ8 hf => ?_)
            refine x_pop (pc := 73) E dX7_seldom_73 rfl ?_
            refine x_iconst (pc := 74) (v := (0 : Int32)) E dX7_seldom_74 rfl ?_
            refine x_istore_n (pc := 75) (lv' := [(3, .int (0 : Int32)), (0, .ref (gad G 0)), (1, .int v1), (2, .int v2)]) E dX7_seldom_75 rfl (by decide) rfl ?_
            refine x_iconst (pc := 76) (v := (0 : Int32)) E dX7_seldom_76 rfl ?_
            refine x_istore (pc := 77) (lv' := [(4, .int (0 : Int32)), (3, .int (0 : Int32)), (0, .ref (gad G 0)), (1, .int v1), (2, .int v2)]) E dX7_seldom_77 (by decide) rfl ?_
            refine x_iconst (pc := 79) (v := (0 : Int32)) E dX7_seldom_79 rfl ?_
            refine x_istore (pc := 80) (lv' := [(5, .int (0 : Int32)), (4, .int (0 : Int32)), (3, .int (0 : Int32)), (0, .ref (gad G 0)), (1, .int v1), (2, .int v2)]) E dX7_seldom_80 (by decide) rfl ?_
            obtain ⟨o13, hl14, hf⟩ := bind_some hf
            refine x_sub [3, 4, 2, 1, 0] rfl (l_X7_seldom_82 G   v1 σ8 E FU _ _ _ o13 hl14 ?_)
            refine x_lconst (pc := 145) (v := 0) E dX7_seldom_145 rfl ?_
            refine x_lstore (pc := 146) (lv' := [(5, .long (0 : Int64)), (0, .ref (gad G 0)), (3, .int o13.1), (4, .int o13.2)]) E dX7_seldom_146 (by decide) rfl ?_
            refine x_iload_n 2 (pc := 148) (i := 3) E dX7_seldom_148 rfl rfl ?_
            refine x_istore (pc := 149) (lv' := [(7, .int o13.1), (5, .long (0 : Int64)), (0, .ref (gad G 0)), (3, .int o13.1), (4, .int o13.2)]) E dX7_seldom_149 (by decide) rfl ?_
            obtain ⟨o18, hl19, hf⟩ := bind_some hf
            refine x_sub [2, 4, 1, 0] rfl (l_X7_seldom_151 G   o13.2 σ8 E FU _ _ o18 hl19 ?_)
            refine x_lload 0 (pc := 200) E dX7_seldom_200 rfl ?_
            obtain ⟨rfl, rfl⟩ := Prod.mk.inj (Option.some.inj hf)
            exact x_lret (pc := 202) E hR dX7_seldom_202
          · refine x_aload_n 0 (pc := 55) (i := 0) E dX7_seldom_55 rfl rfl ?_
            refine x_callVri (pc := 56) (na := 0) (As := []) E (c_X7_calledMany G σ) rfl (Nat.le_of_ble_eq_true rfl) rfl wq_520 wq_5 wq_517 wq_518 wq_519 rfl rfl (by decide) ⟨Nat.le_of_ble_eq_true rfl, Nat.le_of_ble_eq_true rfl⟩ rfl rfl (Nat.le_of_ble_eq_true rfl) dX7_seldom_56 hf (fun r20 hf => ?_)
            refine x_aload_n 0 (pc := 59) (i := 0) E dX7_seldom_59 rfl rfl ?_
            refine x_getR (pc := 60) (r := 4) (p := 3) E rfl (Nat.le_of_ble_eq_true rfl) rfl inlX7 (by decide) rfl wq_101 dX7_seldom_60 ?_
            refine x_iconst (pc := 63) (v := (1 : Int32)) E dX7_seldom_63 rfl ?_
            refine x_iaload (pc := 64) E rfl (Nat.le_of_ble_eq_true rfl) dX7_seldom_64 hf (fun hf => ?_)
            refine x_callSrl (pc := 65) (na := 2) (As := [.int r20, .int (σ.1 4 (1 : Int32).toNatClampNeg)]) E (c_X7_ways G r20 (σ.1 4 (1 : Int32).toNatClampNeg) σ) wq_825 wq_5 wq_823 wq_824 rfl rfl (by decide) ⟨Nat.le_of_ble_eq_true rfl, Nat.le_of_ble_eq_true rfl⟩ rfl rfl (Nat.le_of_ble_eq_true rfl) dX7_seldom_65 hf (fun r21 hf => ?_)
            obtain ⟨rfl, rfl⟩ := Prod.mk.inj (Option.some.inj hf)
            exact x_lret (pc := 68) E hR dX7_seldom_68
        · refine x_aload_n 0 (pc := 43) (i := 0) E dX7_seldom_43 rfl rfl ?_
          refine x_bipush (pc := 44) (v := (-3 : Int32)) E dX7_seldom_44 rfl ?_
          refine x_callVwl (pc := 46) (na := 1) (As := [.int (-3 : Int32)]) E (c_X7_noLong G (-3 : Int32) σ) rfl (Nat.le_of_ble_eq_true rfl) rfl wq_352 wq_5 wq_349 wq_350 wq_351 rfl rfl (by decide) ⟨Nat.le_of_ble_eq_true rfl, Nat.le_of_ble_eq_true rfl⟩ rfl rfl (Nat.le_of_ble_eq_true rfl) dX7_seldom_46 hf (fun r22 σ23 hf => ?_)
          obtain ⟨rfl, rfl⟩ := Prod.mk.inj (Option.some.inj hf)
          exact x_lret (pc := 49) E hR dX7_seldom_49
    · refine x_aload_n 0 (pc := 22) (i := 0) E dX7_seldom_22 rfl rfl ?_
      refine x_bipush (pc := 23) (v := (-2 : Int32)) E dX7_seldom_23 rfl ?_
      refine x_callVwl (pc := 25) (na := 1) (As := [.int (-2 : Int32)]) E (c_X7_noLong G (-2 : Int32) σ) rfl (Nat.le_of_ble_eq_true rfl) rfl wq_352 wq_5 wq_349 wq_350 wq_351 rfl rfl (by decide) ⟨Nat.le_of_ble_eq_true rfl, Nat.le_of_ble_eq_true rfl⟩ rfl rfl (Nat.le_of_ble_eq_true rfl) dX7_seldom_25 hf (fun r24 σ25 hf => ?_)
      obtain ⟨rfl, rfl⟩ := Prod.mk.inj (Option.some.inj hf)
      exact x_lret (pc := 28) E hR dX7_seldom_28
  · refine x_aload_n 0 (pc := 7) (i := 0) E dX7_seldom_7 rfl rfl ?_
    refine x_iconst (pc := 8) (v := (-1 : Int32)) E dX7_seldom_8 rfl ?_
    refine x_callVwl (pc := 9) (na := 1) (As := [.int (-1 : Int32)]) E (c_X7_noLong G (-1 : Int32) σ) rfl (Nat.le_of_ble_eq_true rfl) rfl wq_352 wq_5 wq_349 wq_350 wq_351 rfl rfl (by decide) ⟨Nat.le_of_ble_eq_true rfl, Nat.le_of_ble_eq_true rfl⟩ rfl rfl (Nat.le_of_ble_eq_true rfl) dX7_seldom_9 hf (fun r26 σ27 hf => ?_)
    obtain ⟨rfl, rfl⟩ := Prod.mk.inj (Option.some.inj hf)
    exact x_lret (pc := 12) E hR dX7_seldom_12
set_option maxHeartbeats 4000000 in
set_option maxRecDepth 100000 in
theorem c_X7_finest (G : Gx) (σ : MM) (r : Int32) (σ' : MM) (hf : f_X7_finest σ = some (r, σ')) : Ct shM 21 yX7_finest cX7_finest 7 (some .int) rm_X7_finest G [.ref (gad G 0)] σ (some (.int r)) σ' := by
  refine ct_of (by decide) (Nat.le_of_ble_eq_true rfl) (fun K E hR => ?_)
  have E : OKc 21 cX7_finest 7 RX7 G K := E
  show XJ shM 21 7 rm_X7_finest G K σ [(0, .ref (gad G 0))] 0 []
  unfold f_X7_finest at hf
  refine x_aload_n 0 (pc := 0) (i := 0) E dX7_finest_0 rfl rfl ?_
  refine x_callVri (pc := 1) (na := 0) (As := []) E (c_X7_isEnough G σ) rfl (Nat.le_of_ble_eq_true rfl) rfl wq_516 wq_5 wq_513 wq_514 wq_515 rfl rfl (by decide) ⟨Nat.le_of_ble_eq_true rfl, Nat.le_of_ble_eq_true rfl⟩ rfl rfl (Nat.le_of_ble_eq_true rfl) dX7_finest_1 hf (fun r1 hf => ?_)
  refine x_if_ne (y := 0) (pc := 4) (tgt := 14) E dX7_finest_4 (by decide) hf (fun hf => ?_) (fun hf => ?_)
  · refine x_aload_n 0 (pc := 14) (i := 0) E dX7_finest_14 rfl rfl ?_
    refine x_callVwv (pc := 15) (na := 0) (As := []) E (c_X7_findLine G σ) rfl (Nat.le_of_ble_eq_true rfl) rfl wq_545 wq_5 wq_542 wq_543 wq_544 rfl rfl (by decide) ⟨Nat.le_of_ble_eq_true rfl, Nat.le_of_ble_eq_true rfl⟩ rfl rfl (Nat.le_of_ble_eq_true rfl) dX7_finest_15 hf (fun σ3 hf => ?_)
    refine x_iconst (pc := 18) (v := (0 : Int32)) E dX7_finest_18 rfl ?_
    refine x_istore_n (pc := 19) (lv' := [(1, .int (0 : Int32)), (0, .ref (gad G 0))]) E dX7_finest_19 rfl (by decide) rfl ?_
    refine x_aload_n 1 (pc := 20) (i := 0) E dX7_finest_20 rfl rfl ?_
    refine x_aload_n 1 (pc := 21) (i := 0) E dX7_finest_21 rfl rfl ?_
    refine x_getI (pc := 22) (p := 17) E rfl (Nat.le_of_ble_eq_true rfl) rfl inlX7 (by decide) rfl wq_546 dX7_finest_22 ?_
    refine x_callVwl (pc := 25) (na := 1) (As := [.int (σ3.1 0 17)]) E (c_X7_rightOf G (σ3.1 0 17) σ3) rfl (Nat.le_of_ble_eq_true rfl) rfl wq_388 wq_5 wq_385 wq_386 wq_387 rfl rfl (by decide) ⟨Nat.le_of_ble_eq_true rfl, Nat.le_of_ble_eq_true rfl⟩ rfl rfl (Nat.le_of_ble_eq_true rfl) dX7_finest_25 hf (fun r4 σ5 hf => ?_)
    refine x_lstore_n (pc := 28) (lv' := [(2, .long r4), (1, .int (0 : Int32)), (0, .ref (gad G 0))]) E dX7_finest_28 rfl (by decide) rfl ?_
    refine x_aload_n 2 (pc := 29) (i := 0) E dX7_finest_29 rfl rfl ?_
    refine x_iconst (pc := 30) (v := (0 : Int32)) E dX7_finest_30 rfl ?_
    refine x_callVwi (pc := 31) (na := 1) (As := [.int (0 : Int32)]) E (c_X7_restOf G (0 : Int32) σ5) rfl (Nat.le_of_ble_eq_true rfl) rfl wq_663 wq_5 wq_660 wq_661 wq_662 rfl rfl (by decide) ⟨Nat.le_of_ble_eq_true rfl, Nat.le_of_ble_eq_true rfl⟩ rfl rfl (Nat.le_of_ble_eq_true rfl) dX7_finest_31 hf (fun r6 σ7 hf => ?_)
    refine x_istore (pc := 34) (lv' := [(4, .int r6), (2, .long r4), (1, .int (0 : Int32)), (0, .ref (gad G 0))]) E dX7_finest_34 (by decide) rfl ?_
    refine x_iload 0 (pc := 36) E dX7_finest_36 rfl ?_
    refine x_bipush (pc := 38) (v := (-9 : Int32)) E dX7_finest_38 rfl ?_
    obtain ⟨o14, hf16, hf⟩ := bind_some hf
    have hJ15 : XJ shM 21 7 rm_X7_finest G K o14.2.2 [(0, .ref (gad G 0)), (1, .int o14.1), (2, .long o14.2.1)] 92 [] := by
      refine x_aload_n 0 (pc := 92) (i := 0) E dX7_finest_92 rfl rfl ?_
      refine x_callVwv (pc := 93) (na := 0) (As := []) E (c_X7_findCome G o14.2.2) rfl (Nat.le_of_ble_eq_true rfl) rfl wq_800 wq_5 wq_797 wq_798 wq_799 rfl rfl (by decide) ⟨Nat.le_of_ble_eq_true rfl, Nat.le_of_ble_eq_true rfl⟩ rfl rfl (Nat.le_of_ble_eq_true rfl) dX7_finest_93 hf (fun σ18 hf => ?_)
      refine x_aload_n 0 (pc := 96) (i := 0) E dX7_finest_96 rfl rfl ?_
      refine x_aload_n 0 (pc := 97) (i := 0) E dX7_finest_97 rfl rfl ?_
      refine x_getI (pc := 98) (p := 30) E rfl (Nat.le_of_ble_eq_true rfl) rfl inlX7 (by decide) rfl wq_794 dX7_finest_98 ?_
      refine x_callVwl (pc := 101) (na := 1) (As := [.int (σ18.1 0 30)]) E (c_X7_rightOf G (σ18.1 0 30) σ18) rfl (Nat.le_of_ble_eq_true rfl) rfl wq_388 wq_5 wq_385 wq_386 wq_387 rfl rfl (by decide) ⟨Nat.le_of_ble_eq_true rfl, Nat.le_of_ble_eq_true rfl⟩ rfl rfl (Nat.le_of_ble_eq_true rfl) dX7_finest_101 hf (fun r19 σ20 hf => ?_)
      refine x_lload_n 2 (pc := 104) (i := 2) E dX7_finest_104 rfl rfl ?_
      refine x_lcmp_le (pc := 105) (tgt := 113) E dX7_finest_105 dX7_finest_106 (by decide) hf (fun hf => ?_) (fun hf => ?_)
      · refine x_iload_n 1 (pc := 113) (i := 1) E dX7_finest_113 rfl rfl ?_
        obtain ⟨rfl, rfl⟩ := Prod.mk.inj (Option.some.inj hf)
        exact x_iret (pc := 114) E hR dX7_finest_114
      · refine x_iconst (pc := 109) (v := (2 : Int32)) E dX7_finest_109 rfl ?_
        refine x_goto (pc := 110) (tgt := 114) E dX7_finest_110 (by decide) ?_
        obtain ⟨rfl, rfl⟩ := Prod.mk.inj (Option.some.inj hf)
        exact x_iret (pc := 114) E hR dX7_finest_114
    refine x_icmp_eq (pc := 40) (tgt := 92) E dX7_finest_40 (by decide) hf16 (fun hf16 => ?_) (fun hf16 => ?_)
    · obtain rfl := Option.some.inj hf16
      exact x_sub [3, 2, 1] rfl hJ15
    · refine x_aload_n 3 (pc := 43) (i := 0) E dX7_finest_43 rfl rfl ?_
      refine x_aload_n 3 (pc := 44) (i := 0) E dX7_finest_44 rfl rfl ?_
      refine x_iload 0 (pc := 45) E dX7_finest_45 rfl ?_
      refine x_sipush (pc := 47) (v := (4096 : Int32)) E dX7_finest_47 rfl ?_
      refine x_idiv (pc := 50) E dX7_finest_50 hf16 (fun hf16 => ?_)
      refine x_iload 0 (pc := 51) E dX7_finest_51 rfl ?_
      refine x_sipush (pc := 53) (v := (4096 : Int32)) E dX7_finest_53 rfl ?_
      refine x_irem (pc := 56) E dX7_finest_56 hf16 (fun hf16 => ?_)
      refine x_callVri (pc := 57) (na := 2) (As := [.int (r6 / (4096 : Int32)), .int (r6 - r6 / (4096 : Int32) * (4096 : Int32))]) E (c_X7_juryOf G (r6 / (4096 : Int32)) (r6 - r6 / (4096 : Int32) * (4096 : Int32)) σ7) rfl (Nat.le_of_ble_eq_true rfl) rfl wq_673 wq_5 wq_670 wq_671 wq_672 rfl rfl (by decide) ⟨Nat.le_of_ble_eq_true rfl, Nat.le_of_ble_eq_true rfl⟩ rfl rfl (Nat.le_of_ble_eq_true rfl) dX7_finest_57 hf16 (fun r21 hf16 => ?_)
      refine x_callVwl (pc := 60) (na := 1) (As := [.int r21]) E (c_X7_rightOf G r21 σ7) rfl (Nat.le_of_ble_eq_true rfl) rfl wq_388 wq_5 wq_385 wq_386 wq_387 rfl rfl (by decide) ⟨Nat.le_of_ble_eq_true rfl, Nat.le_of_ble_eq_true rfl⟩ rfl rfl (Nat.le_of_ble_eq_true rfl) dX7_finest_60 hf16 (fun r22 σ23 hf16 => ?_)
      refine x_lstore (pc := 63) (lv' := [(5, .long r22), (4, .int r6), (2, .long r4), (1, .int (0 : Int32)), (0, .ref (gad G 0))]) E dX7_finest_63 (by decide) rfl ?_
      refine x_lload 0 (pc := 65) E dX7_finest_65 rfl ?_
      refine x_lload_n 2 (pc := 67) (i := 2) E dX7_finest_67 rfl rfl ?_
      obtain ⟨o24, hf26, hf16⟩ := bind_some hf16
      have hJ25 : XJ shM 21 7 rm_X7_finest G K σ23 [(0, .ref (gad G 0)), (2, .long r4), (5, .long r22)] 77 [.int o24] := by
        refine x_istore_n (pc := 77) (lv' := [(1, .int o24), (0, .ref (gad G 0)), (2, .long r4), (5, .long r22)]) E dX7_finest_77 rfl (by decide) rfl ?_
        refine x_lload 3 (pc := 78) E dX7_finest_78 rfl ?_
        refine x_lload_n 2 (pc := 80) (i := 2) E dX7_finest_80 rfl rfl ?_
        refine x_lcmp_le (pc := 81) (tgt := 90) E dX7_finest_81 dX7_finest_82 (by decide) hf16 (fun hf16 => ?_) (fun hf16 => ?_)
        · refine x_lload_n 2 (pc := 90) (i := 2) E dX7_finest_90 rfl rfl ?_
          refine x_lstore_n (pc := 91) (lv' := [(2, .long r4), (1, .int o24), (0, .ref (gad G 0)), (5, .long r22)]) E dX7_finest_91 rfl (by decide) rfl ?_
          obtain rfl := Option.some.inj hf16
          exact x_sub [2, 1, 0] rfl hJ15
        · refine x_lload 3 (pc := 85) E dX7_finest_85 rfl ?_
          refine x_goto (pc := 87) (tgt := 91) E dX7_finest_87 (by decide) ?_
          refine x_lstore_n (pc := 91) (lv' := [(2, .long r22), (1, .int o24), (0, .ref (gad G 0)), (5, .long r22)]) E dX7_finest_91 rfl (by decide) rfl ?_
          obtain rfl := Option.some.inj hf16
          exact x_sub [2, 1, 0] rfl hJ15
      refine x_lcmp_le (pc := 68) (tgt := 76) E dX7_finest_68 dX7_finest_69 (by decide) hf26 (fun hf26 => ?_) (fun hf26 => ?_)
      · refine x_iload_n 3 (pc := 76) (i := 1) E dX7_finest_76 rfl rfl ?_
        obtain rfl := Option.some.inj hf26
        exact x_sub [4, 2, 0] rfl hJ25
      · refine x_iconst (pc := 72) (v := (1 : Int32)) E dX7_finest_72 rfl ?_
        refine x_goto (pc := 73) (tgt := 77) E dX7_finest_73 (by decide) ?_
        obtain rfl := Option.some.inj hf26
        exact x_sub [4, 2, 0] rfl hJ25
  · refine x_aload_n 0 (pc := 7) (i := 0) E dX7_finest_7 rfl rfl ?_
    refine x_bipush (pc := 8) (v := (-3 : Int32)) E dX7_finest_8 rfl ?_
    refine x_callVwi (pc := 10) (na := 1) (As := [.int (-3 : Int32)]) E (c_X7_no G (-3 : Int32) σ) rfl (Nat.le_of_ble_eq_true rfl) rfl wq_151 wq_5 wq_148 wq_149 wq_150 rfl rfl (by decide) ⟨Nat.le_of_ble_eq_true rfl, Nat.le_of_ble_eq_true rfl⟩ rfl rfl (Nat.le_of_ble_eq_true rfl) dX7_finest_10 hf (fun r27 σ28 hf => ?_)
    obtain ⟨rfl, rfl⟩ := Prod.mk.inj (Option.some.inj hf)
    exact x_iret (pc := 13) E hR dX7_finest_13
set_option maxHeartbeats 4000000 in
set_option maxRecDepth 100000 in
theorem l_X7_lot_43 (G : Gx) {K : Kx}   (v1 : Int32) (E : OKc 21 cX7_lot 5 RX7 G K) : ∀ (m : Nat) (v2 : Int64) (v4 : Int32) (σ : MM) (out : Int64 × MM), loopN (fun s => g_X7_lot_43 v1 s.1 s.2.1 s.2.2) m (v2, v4, σ) = some out → XJ shM 21 5 rm_X7_lot G K out.2 [(2, .long out.1)] 89 [] → XJ shM 21 5 rm_X7_lot G K σ [(0, .ref (gad G 0)), (1, .int v1), (2, .long v2), (4, .int v4)] 43 [] := by
  intro m
  induction m with
  | zero => intro v2 v4 σ out hf; exact (loopN_0 hf).elim
  | succ m ih =>
    intro v2 v4 σ out hf hk
    obtain ⟨q, hf, h2⟩ := loopN_s hf
    have hf : g_X7_lot_43 v1 v2 v4 σ = some q := hf
    unfold g_X7_lot_43 at hf
    refine x_iload 3 (pc := 43) E dX7_lot_43 rfl ?_
    refine x_iconst (pc := 45) (v := (1 : Int32)) E dX7_lot_45 rfl ?_
    refine x_aload_n 0 (pc := 46) (i := 0) E dX7_lot_46 rfl rfl ?_
    refine x_getI (pc := 47) (p := 6) E rfl (Nat.le_of_ble_eq_true rfl) rfl inlX7 (by decide) rfl wq_164 dX7_lot_47 ?_
    refine x_ishl (pc := 50) E dX7_lot_50 ?_
    refine x_icmp_ge (pc := 51) (tgt := 89) E dX7_lot_51 (by decide) hf (fun hf => ?_) (fun hf => ?_)
    · obtain rfl := Option.some.inj hf
      obtain rfl := lpk_r h2
      exact x_sub [2] rfl hk
    · refine x_iload 3 (pc := 54) E dX7_lot_54 rfl ?_
      refine x_callSri (pc := 56) (na := 1) (As := [.int v4]) E (c_X7_bits G v4 σ) wq_344 wq_5 wq_342 wq_343 rfl rfl (by decide) ⟨Nat.le_of_ble_eq_true rfl, Nat.le_of_ble_eq_true rfl⟩ rfl rfl (Nat.le_of_ble_eq_true rfl) dX7_lot_56 hf (fun r5 hf => ?_)
      refine x_aload_n 0 (pc := 59) (i := 0) E dX7_lot_59 rfl rfl ?_
      refine x_callVri (pc := 60) (na := 0) (As := []) E (c_X7_needed G σ) rfl (Nat.le_of_ble_eq_true rfl) rfl wq_348 wq_5 wq_345 wq_346 wq_347 rfl rfl (by decide) ⟨Nat.le_of_ble_eq_true rfl, Nat.le_of_ble_eq_true rfl⟩ rfl rfl (Nat.le_of_ble_eq_true rfl) dX7_lot_60 hf (fun r6 hf => ?_)
      refine x_icmp_ne (pc := 63) (tgt := 83) E dX7_lot_63 (by decide) hf (fun hf => ?_) (fun hf => ?_)
      · refine x_iinc 3 (pc := 83) (v := v4 + 1) (lv' := [(4, .int (v4 + 1)), (0, .ref (gad G 0)), (1, .int v1), (2, .long v2)]) E dX7_lot_83 rfl rfl (by decide) rfl ?_
        refine x_goto (pc := 86) (tgt := 43) E dX7_lot_86 (by decide) ?_
        obtain rfl := Option.some.inj hf
        exact x_sub [1, 2, 3, 0] rfl (ih _ _ _ _ (lpk_l h2) hk)
      · refine x_lload_n 2 (pc := 66) (i := 2) E dX7_lot_66 rfl rfl ?_
        refine x_iload_n 1 (pc := 67) (i := 1) E dX7_lot_67 rfl rfl ?_
        refine x_if_ne (y := 0) (pc := 68) (tgt := 80) E dX7_lot_68 (by decide) hf (fun hf => ?_) (fun hf => ?_)
        · refine x_lconst (pc := 80) (v := 1) E dX7_lot_80 rfl ?_
          refine x_ladd (pc := 81) E dX7_lot_81 ?_
          refine x_lstore_n (pc := 82) (lv' := [(2, .long (v2 + (1 : Int64))), (0, .ref (gad G 0)), (1, .int v1), (4, .int v4)]) E dX7_lot_82 rfl (by decide) rfl ?_
          refine x_iinc 3 (pc := 83) (v := v4 + 1) (lv' := [(4, .int (v4 + 1)), (2, .long (v2 + (1 : Int64))), (0, .ref (gad G 0)), (1, .int v1)]) E dX7_lot_83 rfl rfl (by decide) rfl ?_
          refine x_goto (pc := 86) (tgt := 43) E dX7_lot_86 (by decide) ?_
          obtain rfl := Option.some.inj hf
          exact x_sub [2, 3, 1, 0] rfl (ih _ _ _ _ (lpk_l h2) hk)
        · refine x_aload_n 0 (pc := 71) (i := 0) E dX7_lot_71 rfl rfl ?_
          refine x_iload 3 (pc := 72) E dX7_lot_72 rfl ?_
          refine x_callVwl (pc := 74) (na := 1) (As := [.int v4]) E (c_X7_rightOf G v4 σ) rfl (Nat.le_of_ble_eq_true rfl) rfl wq_388 wq_5 wq_385 wq_386 wq_387 rfl rfl (by decide) ⟨Nat.le_of_ble_eq_true rfl, Nat.le_of_ble_eq_true rfl⟩ rfl rfl (Nat.le_of_ble_eq_true rfl) dX7_lot_74 hf (fun r7 σ8 hf => ?_)
          refine x_goto (pc := 77) (tgt := 81) E dX7_lot_77 (by decide) ?_
          refine x_ladd (pc := 81) E dX7_lot_81 ?_
          refine x_lstore_n (pc := 82) (lv' := [(2, .long (v2 + r7)), (0, .ref (gad G 0)), (1, .int v1), (4, .int v4)]) E dX7_lot_82 rfl (by decide) rfl ?_
          refine x_iinc 3 (pc := 83) (v := v4 + 1) (lv' := [(4, .int (v4 + 1)), (2, .long (v2 + r7)), (0, .ref (gad G 0)), (1, .int v1)]) E dX7_lot_83 rfl rfl (by decide) rfl ?_
          refine x_goto (pc := 86) (tgt := 43) E dX7_lot_86 (by decide) ?_
          obtain rfl := Option.some.inj hf
          exact x_sub [2, 3, 1, 0] rfl (ih _ _ _ _ (lpk_l h2) hk)
set_option maxHeartbeats 4000000 in
set_option maxRecDepth 100000 in
theorem c_X7_lot (G : Gx) (v1 : Int32) (σ : MM) (r : Int64) (σ' : MM) (hf : f_X7_lot v1 σ = some (r, σ')) : Ct shM 21 yX7_lot cX7_lot 5 (some .long) rm_X7_lot G [.ref (gad G 0), .int v1] σ (some (.long r)) σ' := by
  refine ct_of (by decide) (Nat.le_of_ble_eq_true rfl) (fun K E hR => ?_)
  have E : OKc 21 cX7_lot 5 RX7 G K := E
  show XJ shM 21 5 rm_X7_lot G K σ [(0, .ref (gad G 0)), (1, .int v1)] 0 []
  unfold f_X7_lot at hf
  refine x_iload_n 1 (pc := 0) (i := 1) E dX7_lot_0 rfl rfl ?_
  refine x_iconst (pc := 1) (v := (0 : Int32)) E dX7_lot_1 rfl ?_
  refine x_iconst (pc := 2) (v := (1 : Int32)) E dX7_lot_2 rfl ?_
  refine x_callSri (pc := 3) (na := 3) (As := [.int v1, .int (0 : Int32), .int (1 : Int32)]) E (c_X7_isIn G v1 (0 : Int32) (1 : Int32) σ) wq_185 wq_5 wq_183 wq_184 rfl rfl (by decide) ⟨Nat.le_of_ble_eq_true rfl, Nat.le_of_ble_eq_true rfl⟩ rfl rfl (Nat.le_of_ble_eq_true rfl) dX7_lot_3 hf (fun r1 hf => ?_)
  refine x_if_ne (y := 0) (pc := 6) (tgt := 16) E dX7_lot_6 (by decide) hf (fun hf => ?_) (fun hf => ?_)
  · refine x_aload_n 0 (pc := 16) (i := 0) E dX7_lot_16 rfl rfl ?_
    refine x_getI (pc := 17) (p := 6) E rfl (Nat.le_of_ble_eq_true rfl) rfl inlX7 (by decide) rfl wq_164 dX7_lot_17 ?_
    refine x_aload_n 0 (pc := 20) (i := 0) E dX7_lot_20 rfl rfl ?_
    refine x_callVri (pc := 21) (na := 0) (As := []) E (c_X7_needed G σ) rfl (Nat.le_of_ble_eq_true rfl) rfl wq_348 wq_5 wq_345 wq_346 wq_347 rfl rfl (by decide) ⟨Nat.le_of_ble_eq_true rfl, Nat.le_of_ble_eq_true rfl⟩ rfl rfl (Nat.le_of_ble_eq_true rfl) dX7_lot_21 hf (fun r2 hf => ?_)
    refine x_icmp_ge (pc := 24) (tgt := 34) E dX7_lot_24 (by decide) hf (fun hf => ?_) (fun hf => ?_)
    · refine x_aload_n 0 (pc := 34) (i := 0) E dX7_lot_34 rfl rfl ?_
      refine x_callVwv (pc := 35) (na := 0) (As := []) E (c_X7_holdsTrue G σ) rfl (Nat.le_of_ble_eq_true rfl) rfl wq_357 wq_5 wq_354 wq_355 wq_356 rfl rfl (by decide) ⟨Nat.le_of_ble_eq_true rfl, Nat.le_of_ble_eq_true rfl⟩ rfl rfl (Nat.le_of_ble_eq_true rfl) dX7_lot_35 hf (fun σ4 hf => ?_)
      refine x_lconst (pc := 38) (v := 0) E dX7_lot_38 rfl ?_
      refine x_lstore_n (pc := 39) (lv' := [(2, .long (0 : Int64)), (0, .ref (gad G 0)), (1, .int v1)]) E dX7_lot_39 rfl (by decide) rfl ?_
      refine x_iconst (pc := 40) (v := (0 : Int32)) E dX7_lot_40 rfl ?_
      refine x_istore (pc := 41) (lv' := [(4, .int (0 : Int32)), (2, .long (0 : Int64)), (0, .ref (gad G 0)), (1, .int v1)]) E dX7_lot_41 (by decide) rfl ?_
      obtain ⟨o9, hl10, hf⟩ := bind_some hf
      refine x_sub [2, 3, 1, 0] rfl (l_X7_lot_43 G   v1 E FU _ _ _ o9 hl10 ?_)
      refine x_lload_n 0 (pc := 89) (i := 2) E dX7_lot_89 rfl rfl ?_
      obtain ⟨rfl, rfl⟩ := Prod.mk.inj (Option.some.inj hf)
      exact x_lret (pc := 90) E hR dX7_lot_90
    · refine x_aload_n 0 (pc := 27) (i := 0) E dX7_lot_27 rfl rfl ?_
      refine x_bipush (pc := 28) (v := (-3 : Int32)) E dX7_lot_28 rfl ?_
      refine x_callVwl (pc := 30) (na := 1) (As := [.int (-3 : Int32)]) E (c_X7_noLong G (-3 : Int32) σ) rfl (Nat.le_of_ble_eq_true rfl) rfl wq_352 wq_5 wq_349 wq_350 wq_351 rfl rfl (by decide) ⟨Nat.le_of_ble_eq_true rfl, Nat.le_of_ble_eq_true rfl⟩ rfl rfl (Nat.le_of_ble_eq_true rfl) dX7_lot_30 hf (fun r11 σ12 hf => ?_)
      obtain ⟨rfl, rfl⟩ := Prod.mk.inj (Option.some.inj hf)
      exact x_lret (pc := 33) E hR dX7_lot_33
  · refine x_aload_n 0 (pc := 9) (i := 0) E dX7_lot_9 rfl rfl ?_
    refine x_bipush (pc := 10) (v := (-2 : Int32)) E dX7_lot_10 rfl ?_
    refine x_callVwl (pc := 12) (na := 1) (As := [.int (-2 : Int32)]) E (c_X7_noLong G (-2 : Int32) σ) rfl (Nat.le_of_ble_eq_true rfl) rfl wq_352 wq_5 wq_349 wq_350 wq_351 rfl rfl (by decide) ⟨Nat.le_of_ble_eq_true rfl, Nat.le_of_ble_eq_true rfl⟩ rfl rfl (Nat.le_of_ble_eq_true rfl) dX7_lot_12 hf (fun r13 σ14 hf => ?_)
    obtain ⟨rfl, rfl⟩ := Prod.mk.inj (Option.some.inj hf)
    exact x_lret (pc := 15) E hR dX7_lot_15
set_option maxHeartbeats 4000000 in
set_option maxRecDepth 100000 in
theorem l_X7_trade_43 (G : Gx) {K : Kx}   (v1 : Int32) (v2 : Int32) (σ : MM) (E : OKc 21 cX7_trade 5 RX7 G K) : ∀ (m : Nat) (v3 : Int32) (v4 : Int32) (out : Int32), loopN (fun s => g_X7_trade_43 v1 v2 s.1 s.2 σ) m (v3, v4) = some out → XJ shM 21 5 rm_X7_trade G K σ [(0, .ref (gad G 0)), (1, .int v1), (2, .int v2), (3, .int out)] 81 [] → XJ shM 21 5 rm_X7_trade G K σ [(0, .ref (gad G 0)), (1, .int v1), (2, .int v2), (3, .int v3), (4, .int v4)] 43 [] := by
  intro m
  induction m with
  | zero => intro v3 v4 out hf; exact (loopN_0 hf).elim
  | succ m ih =>
    intro v3 v4 out hf hk
    obtain ⟨q, hf, h2⟩ := loopN_s hf
    have hf : g_X7_trade_43 v1 v2 v3 v4 σ = some q := hf
    unfold g_X7_trade_43 at hf
    refine x_iload 4 (pc := 43) E dX7_trade_43 rfl ?_
    refine x_if_lt (y := 0) (pc := 45) (tgt := 81) E dX7_trade_45 (by decide) hf (fun hf => ?_) (fun hf => ?_)
    · obtain rfl := Option.some.inj hf
      obtain rfl := lpk_r h2
      exact x_sub [0, 1, 2, 3] rfl hk
    · refine x_aload_n 0 (pc := 48) (i := 0) E dX7_trade_48 rfl rfl ?_
      refine x_getR (pc := 49) (r := 3) (p := 2) E rfl (Nat.le_of_ble_eq_true rfl) rfl inlX7 (by decide) rfl wq_100 dX7_trade_49 ?_
      refine x_iload 4 (pc := 52) E dX7_trade_52 rfl ?_
      refine x_iaload (pc := 54) E rfl (Nat.le_of_ble_eq_true rfl) dX7_trade_54 hf (fun hf => ?_)
      refine x_iload_n 2 (pc := 55) (i := 2) E dX7_trade_55 rfl rfl ?_
      refine x_icmp_ne (pc := 56) (tgt := 73) E dX7_trade_56 (by decide) hf (fun hf => ?_) (fun hf => ?_)
      · refine x_iload_n 3 (pc := 73) (i := 3) E dX7_trade_73 rfl rfl ?_
        refine x_istore_n (pc := 74) (lv' := [(3, .int v3), (0, .ref (gad G 0)), (1, .int v1), (2, .int v2), (4, .int v4)]) E dX7_trade_74 rfl (by decide) rfl ?_
        refine x_iinc 4 (pc := 75) (v := v4 + (-1)) (lv' := [(4, .int (v4 + (-1))), (3, .int v3), (0, .ref (gad G 0)), (1, .int v1), (2, .int v2)]) E dX7_trade_75 rfl rfl (by decide) rfl ?_
        refine x_goto (pc := 78) (tgt := 43) E dX7_trade_78 (by decide) ?_
        obtain rfl := Option.some.inj hf
        exact x_sub [2, 3, 4, 1, 0] rfl (ih _ _ _ (lpk_l h2) hk)
      · refine x_iload_n 1 (pc := 59) (i := 1) E dX7_trade_59 rfl rfl ?_
        refine x_iload 4 (pc := 60) E dX7_trade_60 rfl ?_
        refine x_ishr (pc := 62) E dX7_trade_62 ?_
        refine x_iconst (pc := 63) (v := (1 : Int32)) E dX7_trade_63 rfl ?_
        refine x_iand (pc := 64) E dX7_trade_64 ?_
        refine x_if_ne (y := 0) (pc := 65) (tgt := 73) E dX7_trade_65 (by decide) hf (fun hf => ?_) (fun hf => ?_)
        · refine x_iload_n 3 (pc := 73) (i := 3) E dX7_trade_73 rfl rfl ?_
          refine x_istore_n (pc := 74) (lv' := [(3, .int v3), (0, .ref (gad G 0)), (1, .int v1), (2, .int v2), (4, .int v4)]) E dX7_trade_74 rfl (by decide) rfl ?_
          refine x_iinc 4 (pc := 75) (v := v4 + (-1)) (lv' := [(4, .int (v4 + (-1))), (3, .int v3), (0, .ref (gad G 0)), (1, .int v1), (2, .int v2)]) E dX7_trade_75 rfl rfl (by decide) rfl ?_
          refine x_goto (pc := 78) (tgt := 43) E dX7_trade_78 (by decide) ?_
          obtain rfl := Option.some.inj hf
          exact x_sub [2, 3, 4, 1, 0] rfl (ih _ _ _ (lpk_l h2) hk)
        · refine x_iload 4 (pc := 68) E dX7_trade_68 rfl ?_
          refine x_goto (pc := 70) (tgt := 74) E dX7_trade_70 (by decide) ?_
          refine x_istore_n (pc := 74) (lv' := [(3, .int v4), (0, .ref (gad G 0)), (1, .int v1), (2, .int v2), (4, .int v4)]) E dX7_trade_74 rfl (by decide) rfl ?_
          refine x_iinc 4 (pc := 75) (v := v4 + (-1)) (lv' := [(4, .int (v4 + (-1))), (3, .int v4), (0, .ref (gad G 0)), (1, .int v1), (2, .int v2)]) E dX7_trade_75 rfl rfl (by decide) rfl ?_
          refine x_goto (pc := 78) (tgt := 43) E dX7_trade_78 (by decide) ?_
          obtain rfl := Option.some.inj hf
          exact x_sub [2, 3, 4, 1, 0] rfl (ih _ _ _ (lpk_l h2) hk)
set_option maxHeartbeats 4000000 in
set_option maxRecDepth 100000 in
theorem l_X7_trade_22 (G : Gx) {K : Kx}    (σ : MM) (E : OKc 21 cX7_trade 5 RX7 G K) : ∀ (m : Nat) (v1 : Int32) (v2 : Int32) (out : Int32), loopN (fun s => g_X7_trade_22 s.1 s.2 σ) m (v1, v2) = some out → XJ shM 21 5 rm_X7_trade G K σ [(1, .int out)] 105 [] → XJ shM 21 5 rm_X7_trade G K σ [(0, .ref (gad G 0)), (1, .int v1), (2, .int v2)] 22 [] := by
  intro m
  induction m with
  | zero => intro v1 v2 out hf; exact (loopN_0 hf).elim
  | succ m ih =>
    intro v1 v2 out hf hk
    obtain ⟨q, hf, h2⟩ := loopN_s hf
    have hf : g_X7_trade_22 v1 v2 σ = some q := hf
    unfold g_X7_trade_22 at hf
    refine x_iload_n 1 (pc := 22) (i := 1) E dX7_trade_22 rfl rfl ?_
    refine x_callSri (pc := 23) (na := 1) (As := [.int v1]) E (c_X7_bits G v1 σ) wq_344 wq_5 wq_342 wq_343 rfl rfl (by decide) ⟨Nat.le_of_ble_eq_true rfl, Nat.le_of_ble_eq_true rfl⟩ rfl rfl (Nat.le_of_ble_eq_true rfl) dX7_trade_23 hf (fun r2 hf => ?_)
    refine x_aload_n 0 (pc := 26) (i := 0) E dX7_trade_26 rfl rfl ?_
    refine x_callVri (pc := 27) (na := 0) (As := []) E (c_X7_needed G σ) rfl (Nat.le_of_ble_eq_true rfl) rfl wq_348 wq_5 wq_345 wq_346 wq_347 rfl rfl (by decide) ⟨Nat.le_of_ble_eq_true rfl, Nat.le_of_ble_eq_true rfl⟩ rfl rfl (Nat.le_of_ble_eq_true rfl) dX7_trade_27 hf (fun r3 hf => ?_)
    refine x_icmp_ge (pc := 30) (tgt := 105) E dX7_trade_30 (by decide) hf (fun hf => ?_) (fun hf => ?_)
    · obtain rfl := Option.some.inj hf
      obtain rfl := lpk_r h2
      exact x_sub [1] rfl hk
    · refine x_iconst (pc := 33) (v := (-1 : Int32)) E dX7_trade_33 rfl ?_
      refine x_istore_n (pc := 34) (lv' := [(3, .int (-1 : Int32)), (0, .ref (gad G 0)), (1, .int v1), (2, .int v2)]) E dX7_trade_34 rfl (by decide) rfl ?_
      refine x_aload_n 1 (pc := 35) (i := 0) E dX7_trade_35 rfl rfl ?_
      refine x_getI (pc := 36) (p := 6) E rfl (Nat.le_of_ble_eq_true rfl) rfl inlX7 (by decide) rfl wq_164 dX7_trade_36 ?_
      refine x_iconst (pc := 39) (v := (1 : Int32)) E dX7_trade_39 rfl ?_
      refine x_isub (pc := 40) E dX7_trade_40 ?_
      refine x_istore (pc := 41) (lv' := [(4, .int ((σ.1 0 6) - (1 : Int32))), (3, .int (-1 : Int32)), (0, .ref (gad G 0)), (1, .int v1), (2, .int v2)]) E dX7_trade_41 (by decide) rfl ?_
      obtain ⟨o4, hl5, hf⟩ := bind_some hf
      refine x_sub [2, 3, 4, 1, 0] rfl (l_X7_trade_43 G   v1 v2 σ E FU _ _ o4 hl5 ?_)
      refine x_iload_n 1 (pc := 81) (i := 1) E dX7_trade_81 rfl rfl ?_
      refine x_iload_n 3 (pc := 82) (i := 3) E dX7_trade_82 rfl rfl ?_
      obtain ⟨o6, hf8, hf⟩ := bind_some hf
      have hJ7 : XJ shM 21 5 rm_X7_trade G K σ [(0, .ref (gad G 0)), (2, .int v2)] 93 [.int o6, .int v1] := by
        refine x_ior (pc := 93) E dX7_trade_93 ?_
        refine x_istore_n (pc := 94) (lv' := [(1, .int (v1 ||| o6)), (0, .ref (gad G 0)), (2, .int v2)]) E dX7_trade_94 rfl (by decide) rfl ?_
        refine x_iload_n 2 (pc := 95) (i := 2) E dX7_trade_95 rfl rfl ?_
        refine x_iconst (pc := 96) (v := (1 : Int32)) E dX7_trade_96 rfl ?_
        refine x_iadd (pc := 97) E dX7_trade_97 ?_
        refine x_bipush (pc := 98) (v := (6 : Int32)) E dX7_trade_98 rfl ?_
        refine x_irem (pc := 100) E dX7_trade_100 hf (fun hf => ?_)
        refine x_istore_n (pc := 101) (lv' := [(2, .int ((v2 + (1 : Int32)) - (v2 + (1 : Int32)) / (6 : Int32) * (6 : Int32))), (1, .int (v1 ||| o6)), (0, .ref (gad G 0))]) E dX7_trade_101 rfl (by decide) rfl ?_
        refine x_goto (pc := 102) (tgt := 22) E dX7_trade_102 (by decide) ?_
        obtain rfl := Option.some.inj hf
        exact x_sub [2, 1, 0] rfl (ih _ _ _ (lpk_l h2) hk)
      refine x_if_ge (y := 0) (pc := 83) (tgt := 90) E dX7_trade_83 (by decide) hf8 (fun hf8 => ?_) (fun hf8 => ?_)
      · refine x_iconst (pc := 90) (v := (1 : Int32)) E dX7_trade_90 rfl ?_
        refine x_iload_n 3 (pc := 91) (i := 3) E dX7_trade_91 rfl rfl ?_
        refine x_ishl (pc := 92) E dX7_trade_92 ?_
        obtain rfl := Option.some.inj hf8
        exact x_sub [0, 2] rfl hJ7
      · refine x_iconst (pc := 86) (v := (0 : Int32)) E dX7_trade_86 rfl ?_
        refine x_goto (pc := 87) (tgt := 93) E dX7_trade_87 (by decide) ?_
        obtain rfl := Option.some.inj hf8
        exact x_sub [0, 2] rfl hJ7
set_option maxHeartbeats 4000000 in
set_option maxRecDepth 100000 in
theorem c_X7_trade (G : Gx) (σ : MM) (r : Int32) (σ' : MM) (hf : f_X7_trade σ = some (r, σ')) : Ct shM 21 yX7_trade cX7_trade 5 (some .int) rm_X7_trade G [.ref (gad G 0)] σ (some (.int r)) σ' := by
  refine ct_of (by decide) (Nat.le_of_ble_eq_true rfl) (fun K E hR => ?_)
  have E : OKc 21 cX7_trade 5 RX7 G K := E
  show XJ shM 21 5 rm_X7_trade G K σ [(0, .ref (gad G 0))] 0 []
  unfold f_X7_trade at hf
  refine x_aload_n 0 (pc := 0) (i := 0) E dX7_trade_0 rfl rfl ?_
  refine x_getI (pc := 1) (p := 6) E rfl (Nat.le_of_ble_eq_true rfl) rfl inlX7 (by decide) rfl wq_164 dX7_trade_1 ?_
  refine x_aload_n 0 (pc := 4) (i := 0) E dX7_trade_4 rfl rfl ?_
  refine x_callVri (pc := 5) (na := 0) (As := []) E (c_X7_needed G σ) rfl (Nat.le_of_ble_eq_true rfl) rfl wq_348 wq_5 wq_345 wq_346 wq_347 rfl rfl (by decide) ⟨Nat.le_of_ble_eq_true rfl, Nat.le_of_ble_eq_true rfl⟩ rfl rfl (Nat.le_of_ble_eq_true rfl) dX7_trade_5 hf (fun r1 hf => ?_)
  refine x_icmp_ge (pc := 8) (tgt := 18) E dX7_trade_8 (by decide) hf (fun hf => ?_) (fun hf => ?_)
  · refine x_iconst (pc := 18) (v := (0 : Int32)) E dX7_trade_18 rfl ?_
    refine x_istore_n (pc := 19) (lv' := [(1, .int (0 : Int32)), (0, .ref (gad G 0))]) E dX7_trade_19 rfl (by decide) rfl ?_
    refine x_iconst (pc := 20) (v := (0 : Int32)) E dX7_trade_20 rfl ?_
    refine x_istore_n (pc := 21) (lv' := [(2, .int (0 : Int32)), (1, .int (0 : Int32)), (0, .ref (gad G 0))]) E dX7_trade_21 rfl (by decide) rfl ?_
    obtain ⟨o9, hl10, hf⟩ := bind_some hf
    refine x_sub [2, 1, 0] rfl (l_X7_trade_22 G    σ E FU _ _ o9 hl10 ?_)
    refine x_iload_n 0 (pc := 105) (i := 1) E dX7_trade_105 rfl rfl ?_
    obtain ⟨rfl, rfl⟩ := Prod.mk.inj (Option.some.inj hf)
    exact x_iret (pc := 106) E hR dX7_trade_106
  · refine x_aload_n 0 (pc := 11) (i := 0) E dX7_trade_11 rfl rfl ?_
    refine x_bipush (pc := 12) (v := (-3 : Int32)) E dX7_trade_12 rfl ?_
    refine x_callVwi (pc := 14) (na := 1) (As := [.int (-3 : Int32)]) E (c_X7_no G (-3 : Int32) σ) rfl (Nat.le_of_ble_eq_true rfl) rfl wq_151 wq_5 wq_148 wq_149 wq_150 rfl rfl (by decide) ⟨Nat.le_of_ble_eq_true rfl, Nat.le_of_ble_eq_true rfl⟩ rfl rfl (Nat.le_of_ble_eq_true rfl) dX7_trade_14 hf (fun r11 σ12 hf => ?_)
    obtain ⟨rfl, rfl⟩ := Prod.mk.inj (Option.some.inj hf)
    exact x_iret (pc := 17) E hR dX7_trade_17
set_option maxHeartbeats 4000000 in
set_option maxRecDepth 100000 in
theorem l_X7_holdsWrong_7 (G : Gx) {K : Kx}   (v1 : Int32) (v2 : Int32) (v3 : Int32) (E : OKc 21 cX7_holdsWrong 5 RX7 G K) : ∀ (m : Nat) (v4 : Int32) (σ : MM) (out : MM), loopN (fun s => g_X7_holdsWrong_7 v1 v2 v3 s.1 s.2) m (v4, σ) = some out → XJ shM 21 5 rm_X7_holdsWrong G K out [] 58 [] → XJ shM 21 5 rm_X7_holdsWrong G K σ [(0, .ref (gad G 0)), (1, .int v1), (2, .int v2), (3, .int v3), (4, .int v4)] 7 [] := by
  intro m
  induction m with
  | zero => intro v4 σ out hf; exact (loopN_0 hf).elim
  | succ m ih =>
    intro v4 σ out hf hk
    obtain ⟨q, hf, h2⟩ := loopN_s hf
    have hf : g_X7_holdsWrong_7 v1 v2 v3 v4 σ = some q := hf
    unfold g_X7_holdsWrong_7 at hf
    refine x_iload 4 (pc := 7) E dX7_holdsWrong_7 rfl ?_
    refine x_aload_n 0 (pc := 9) (i := 0) E dX7_holdsWrong_9 rfl rfl ?_
    refine x_getI (pc := 10) (p := 6) E rfl (Nat.le_of_ble_eq_true rfl) rfl inlX7 (by decide) rfl wq_164 dX7_holdsWrong_10 ?_
    refine x_icmp_ge (pc := 13) (tgt := 58) E dX7_holdsWrong_13 (by decide) hf (fun hf => ?_) (fun hf => ?_)
    · obtain rfl := Option.some.inj hf
      obtain rfl := lpk_r h2
      exact x_sub [] rfl hk
    · refine x_aload_n 0 (pc := 16) (i := 0) E dX7_holdsWrong_16 rfl rfl ?_
      refine x_getR (pc := 17) (r := 3) (p := 2) E rfl (Nat.le_of_ble_eq_true rfl) rfl inlX7 (by decide) rfl wq_100 dX7_holdsWrong_17 ?_
      refine x_iload 4 (pc := 20) E dX7_holdsWrong_20 rfl ?_
      refine x_iaload (pc := 22) E rfl (Nat.le_of_ble_eq_true rfl) dX7_holdsWrong_22 hf (fun hf => ?_)
      refine x_iload_n 1 (pc := 23) (i := 1) E dX7_holdsWrong_23 rfl rfl ?_
      refine x_icmp_eq (pc := 24) (tgt := 30) E dX7_holdsWrong_24 (by decide) hf (fun hf => ?_) (fun hf => ?_)
      · refine x_aload_n 0 (pc := 30) (i := 0) E dX7_holdsWrong_30 rfl rfl ?_
        refine x_getR (pc := 31) (r := 8) (p := 10) E rfl (Nat.le_of_ble_eq_true rfl) rfl inlX7 (by decide) rfl wq_105 dX7_holdsWrong_31 ?_
        refine x_iconst (pc := 34) (v := (2 : Int32)) E dX7_holdsWrong_34 rfl ?_
        refine x_iload 4 (pc := 35) E dX7_holdsWrong_35 rfl ?_
        refine x_imul (pc := 37) E dX7_holdsWrong_37 ?_
        refine x_iload_n 2 (pc := 38) (i := 2) E dX7_holdsWrong_38 rfl rfl ?_
        refine x_iastore (pc := 39) E rfl (Nat.le_of_ble_eq_true rfl) dX7_holdsWrong_39 hf (fun σ3 hf => ?_)
        refine x_aload_n 0 (pc := 40) (i := 0) E dX7_holdsWrong_40 rfl rfl ?_
        refine x_getR (pc := 41) (r := 8) (p := 10) E rfl (Nat.le_of_ble_eq_true rfl) rfl inlX7 (by decide) rfl wq_105 dX7_holdsWrong_41 ?_
        refine x_iconst (pc := 44) (v := (2 : Int32)) E dX7_holdsWrong_44 rfl ?_
        refine x_iload 4 (pc := 45) E dX7_holdsWrong_45 rfl ?_
        refine x_imul (pc := 47) E dX7_holdsWrong_47 ?_
        refine x_iconst (pc := 48) (v := (1 : Int32)) E dX7_holdsWrong_48 rfl ?_
        refine x_iadd (pc := 49) E dX7_holdsWrong_49 ?_
        refine x_iload_n 3 (pc := 50) (i := 3) E dX7_holdsWrong_50 rfl rfl ?_
        refine x_iastore (pc := 51) E rfl (Nat.le_of_ble_eq_true rfl) dX7_holdsWrong_51 hf (fun σ4 hf => ?_)
        refine x_iinc 4 (pc := 52) (v := v4 + 1) (lv' := [(4, .int (v4 + 1)), (0, .ref (gad G 0)), (1, .int v1), (2, .int v2), (3, .int v3)]) E dX7_holdsWrong_52 rfl rfl (by decide) rfl ?_
        refine x_goto (pc := 55) (tgt := 7) E dX7_holdsWrong_55 (by decide) ?_
        obtain rfl := Option.some.inj hf
        exact x_sub [1, 2, 3, 4, 0] rfl (ih _ _ _ (lpk_l h2) hk)
      · refine x_goto (pc := 27) (tgt := 52) E dX7_holdsWrong_27 (by decide) ?_
        refine x_iinc 4 (pc := 52) (v := v4 + 1) (lv' := [(4, .int (v4 + 1)), (0, .ref (gad G 0)), (1, .int v1), (2, .int v2), (3, .int v3)]) E dX7_holdsWrong_52 rfl rfl (by decide) rfl ?_
        refine x_goto (pc := 55) (tgt := 7) E dX7_holdsWrong_55 (by decide) ?_
        obtain rfl := Option.some.inj hf
        exact x_sub [1, 2, 3, 4, 0] rfl (ih _ _ _ (lpk_l h2) hk)
set_option maxHeartbeats 4000000 in
set_option maxRecDepth 100000 in
theorem c_X7_holdsWrong (G : Gx) (v1 : Int32) (v2 : Int32) (v3 : Int32) (σ : MM) (σ' : MM) (hf : f_X7_holdsWrong v1 v2 v3 σ = some σ') : Ct shM 21 yX7_holdsWrong cX7_holdsWrong 5 none rm_X7_holdsWrong G [.ref (gad G 0), .int v1, .int v2, .int v3] σ none σ' := by
  refine ct_of (by decide) (Nat.le_of_ble_eq_true rfl) (fun K E hR => ?_)
  have E : OKc 21 cX7_holdsWrong 5 RX7 G K := E
  show XJ shM 21 5 rm_X7_holdsWrong G K σ [(0, .ref (gad G 0)), (1, .int v1), (2, .int v2), (3, .int v3)] 0 []
  unfold f_X7_holdsWrong at hf
  refine x_aload_n 0 (pc := 0) (i := 0) E dX7_holdsWrong_0 rfl rfl ?_
  refine x_callVwv (pc := 1) (na := 0) (As := []) E (c_X7_holdsTrue G σ) rfl (Nat.le_of_ble_eq_true rfl) rfl wq_357 wq_5 wq_354 wq_355 wq_356 rfl rfl (by decide) ⟨Nat.le_of_ble_eq_true rfl, Nat.le_of_ble_eq_true rfl⟩ rfl rfl (Nat.le_of_ble_eq_true rfl) dX7_holdsWrong_1 hf (fun σ2 hf => ?_)
  refine x_iconst (pc := 4) (v := (0 : Int32)) E dX7_holdsWrong_4 rfl ?_
  refine x_istore (pc := 5) (lv' := [(4, .int (0 : Int32)), (0, .ref (gad G 0)), (1, .int v1), (2, .int v2), (3, .int v3)]) E dX7_holdsWrong_5 (by decide) rfl ?_
  obtain ⟨o5, hl6, hf⟩ := bind_some hf
  refine x_sub [1, 2, 3, 4, 0] rfl (l_X7_holdsWrong_7 G   v1 v2 v3 E FU _ _ o5 hl6 ?_)
  obtain rfl := Option.some.inj hf
  exact x_vret (pc := 58) E hR dX7_holdsWrong_58
set_option maxHeartbeats 4000000 in
set_option maxRecDepth 100000 in
theorem l_X7_wrongly_105 (G : Gx) {K : Kx}   (v1 : Int32) (v2 : Int32) (v3 : Int32) (v5 : Int64) (E : OKc 21 cX7_wrongly 12 RX7 G K) : ∀ (m : Nat) (v7 : Int32) (v8 : Int32) (v9 : Int32) (v10 : Int32) (σ : MM) (out : Int32 × MM), loopN (fun s => g_X7_wrongly_105 v1 v2 v3 v5 s.1 s.2.1 s.2.2.1 s.2.2.2.1 s.2.2.2.2) m (v7, v8, v9, v10, σ) = some out → XJ shM 21 12 rm_X7_wrongly G K out.2 [(0, .ref (gad G 0)), (5, .long v5), (7, .int out.1)] 197 [] → XJ shM 21 12 rm_X7_wrongly G K σ [(0, .ref (gad G 0)), (1, .int v1), (2, .int v2), (3, .int v3), (5, .long v5), (7, .int v7), (8, .int v8), (9, .int v9), (10, .int v10)] 105 [] := by
  intro m
  induction m with
  | zero => intro v7 v8 v9 v10 σ out hf; exact (loopN_0 hf).elim
  | succ m ih =>
    intro v7 v8 v9 v10 σ out hf hk
    obtain ⟨q, hf, h2⟩ := loopN_s hf
    have hf : g_X7_wrongly_105 v1 v2 v3 v5 v7 v8 v9 v10 σ = some q := hf
    unfold g_X7_wrongly_105 at hf
    refine x_iload 6 (pc := 105) E dX7_wrongly_105 rfl ?_
    refine x_iload 7 (pc := 107) E dX7_wrongly_107 rfl ?_
    refine x_iadd (pc := 109) E dX7_wrongly_109 ?_
    refine x_if_le (y := 0) (pc := 110) (tgt := 197) E dX7_wrongly_110 (by decide) hf (fun hf => ?_) (fun hf => ?_)
    · obtain rfl := Option.some.inj hf
      obtain rfl := lpk_r h2
      exact x_sub [0, 4, 5] rfl hk
    · refine x_iload 6 (pc := 113) E dX7_wrongly_113 rfl ?_
      refine x_iload 7 (pc := 115) E dX7_wrongly_115 rfl ?_
      refine x_iload 8 (pc := 117) E dX7_wrongly_117 rfl ?_
      refine x_callSri (pc := 119) (na := 3) (As := [.int v8, .int v9, .int v10]) E (c_X7_mover G v8 v9 v10 σ) wq_462 wq_5 wq_460 wq_461 rfl rfl (by decide) ⟨Nat.le_of_ble_eq_true rfl, Nat.le_of_ble_eq_true rfl⟩ rfl rfl (Nat.le_of_ble_eq_true rfl) dX7_wrongly_119 hf (fun r10 hf => ?_)
      refine x_istore (pc := 122) (lv' := [(11, .int r10), (0, .ref (gad G 0)), (1, .int v1), (2, .int v2), (3, .int v3), (5, .long v5), (7, .int v7), (8, .int v8), (9, .int v9), (10, .int v10)]) E dX7_wrongly_122 (by decide) rfl ?_
      refine x_iload 0 (pc := 124) E dX7_wrongly_124 rfl ?_
      obtain ⟨o15, hf17, hf⟩ := bind_some hf
      have hJ16 : XJ shM 21 12 rm_X7_wrongly G K o15 [(0, .ref (gad G 0)), (1, .int v1), (2, .int v2), (3, .int v3), (5, .long v5), (7, .int v7), (8, .int v8), (9, .int v9), (10, .int v10), (11, .int r10)] 143 [] := by
        refine x_aload_n 0 (pc := 143) (i := 0) E dX7_wrongly_143 rfl rfl ?_
        refine x_iload 5 (pc := 144) E dX7_wrongly_144 rfl ?_
        refine x_iload 6 (pc := 146) E dX7_wrongly_146 rfl ?_
        refine x_iload 7 (pc := 148) E dX7_wrongly_148 rfl ?_
        refine x_callVwv (pc := 150) (na := 3) (As := [.int v7, .int v8, .int v9]) E (c_X7_findBest G v7 v8 v9 o15) rfl (Nat.le_of_ble_eq_true rfl) rfl wq_452 wq_5 wq_449 wq_450 wq_451 rfl rfl (by decide) ⟨Nat.le_of_ble_eq_true rfl, Nat.le_of_ble_eq_true rfl⟩ rfl rfl (Nat.le_of_ble_eq_true rfl) dX7_wrongly_150 hf (fun σ19 hf => ?_)
        refine x_iload 5 (pc := 153) E dX7_wrongly_153 rfl ?_
        refine x_iconst (pc := 155) (v := (1 : Int32)) E dX7_wrongly_155 rfl ?_
        refine x_aload_n 0 (pc := 156) (i := 0) E dX7_wrongly_156 rfl rfl ?_
        refine x_iload 6 (pc := 157) E dX7_wrongly_157 rfl ?_
        refine x_iload 7 (pc := 159) E dX7_wrongly_159 rfl ?_
        refine x_iload 8 (pc := 161) E dX7_wrongly_161 rfl ?_
        refine x_iload 5 (pc := 163) E dX7_wrongly_163 rfl ?_
        refine x_callVri (pc := 165) (na := 4) (As := [.int v8, .int v9, .int v10, .int v7]) E (c_X7_strikeOf G v8 v9 v10 v7 σ19) rfl (Nat.le_of_ble_eq_true rfl) rfl wq_481 wq_5 wq_478 wq_479 wq_480 rfl rfl (by decide) ⟨Nat.le_of_ble_eq_true rfl, Nat.le_of_ble_eq_true rfl⟩ rfl rfl (Nat.le_of_ble_eq_true rfl) dX7_wrongly_165 hf (fun r20 hf => ?_)
        refine x_ishl (pc := 168) E dX7_wrongly_168 ?_
        refine x_iconst (pc := 169) (v := (-1 : Int32)) E dX7_wrongly_169 rfl ?_
        refine x_ixor (pc := 170) E dX7_wrongly_170 ?_
        refine x_iand (pc := 171) E dX7_wrongly_171 ?_
        refine x_istore (pc := 172) (lv' := [(7, .int (v7 &&& (((1 : Int32) <<< (r20 &&& 31)) ^^^ (-1 : Int32)))), (0, .ref (gad G 0)), (1, .int v1), (2, .int v2), (3, .int v3), (5, .long v5), (8, .int v8), (9, .int v9), (10, .int v10), (11, .int r10)]) E dX7_wrongly_172 (by decide) rfl ?_
        refine x_iload 9 (pc := 174) E dX7_wrongly_174 rfl ?_
        refine x_if_ne (y := 0) (pc := 176) (tgt := 185) E dX7_wrongly_176 (by decide) hf (fun hf => ?_) (fun hf => ?_)
        · refine x_iinc 7 (pc := 185) (v := v9 + (-1)) (lv' := [(9, .int (v9 + (-1))), (7, .int (v7 &&& (((1 : Int32) <<< (r20 &&& 31)) ^^^ (-1 : Int32)))), (0, .ref (gad G 0)), (1, .int v1), (2, .int v2), (3, .int v3), (5, .long v5), (8, .int v8), (10, .int v10), (11, .int r10)]) E dX7_wrongly_185 rfl rfl (by decide) rfl ?_
          refine x_iconst (pc := 188) (v := (1 : Int32)) E dX7_wrongly_188 rfl ?_
          refine x_iload 9 (pc := 189) E dX7_wrongly_189 rfl ?_
          refine x_isub (pc := 191) E dX7_wrongly_191 ?_
          refine x_istore (pc := 192) (lv' := [(10, .int ((1 : Int32) - r10)), (9, .int (v9 + (-1))), (7, .int (v7 &&& (((1 : Int32) <<< (r20 &&& 31)) ^^^ (-1 : Int32)))), (0, .ref (gad G 0)), (1, .int v1), (2, .int v2), (3, .int v3), (5, .long v5), (8, .int v8), (11, .int r10)]) E dX7_wrongly_192 (by decide) rfl ?_
          refine x_goto (pc := 194) (tgt := 105) E dX7_wrongly_194 (by decide) ?_
          obtain rfl := Option.some.inj hf
          exact x_sub [3, 4, 5, 6, 7, 2, 8, 1, 0] rfl (ih _ _ _ _ _ _ (lpk_l h2) hk)
        · refine x_iinc 6 (pc := 179) (v := v8 + (-1)) (lv' := [(8, .int (v8 + (-1))), (7, .int (v7 &&& (((1 : Int32) <<< (r20 &&& 31)) ^^^ (-1 : Int32)))), (0, .ref (gad G 0)), (1, .int v1), (2, .int v2), (3, .int v3), (5, .long v5), (9, .int v9), (10, .int v10), (11, .int r10)]) E dX7_wrongly_179 rfl rfl (by decide) rfl ?_
          refine x_goto (pc := 182) (tgt := 188) E dX7_wrongly_182 (by decide) ?_
          refine x_iconst (pc := 188) (v := (1 : Int32)) E dX7_wrongly_188 rfl ?_
          refine x_iload 9 (pc := 189) E dX7_wrongly_189 rfl ?_
          refine x_isub (pc := 191) E dX7_wrongly_191 ?_
          refine x_istore (pc := 192) (lv' := [(10, .int ((1 : Int32) - r10)), (8, .int (v8 + (-1))), (7, .int (v7 &&& (((1 : Int32) <<< (r20 &&& 31)) ^^^ (-1 : Int32)))), (0, .ref (gad G 0)), (1, .int v1), (2, .int v2), (3, .int v3), (5, .long v5), (9, .int v9), (11, .int r10)]) E dX7_wrongly_192 (by decide) rfl ?_
          refine x_goto (pc := 194) (tgt := 105) E dX7_wrongly_194 (by decide) ?_
          obtain rfl := Option.some.inj hf
          exact x_sub [3, 4, 5, 6, 7, 2, 1, 8, 0] rfl (ih _ _ _ _ _ _ (lpk_l h2) hk)
      refine x_if_ne (y := 0) (pc := 126) (tgt := 139) E dX7_wrongly_126 (by decide) hf17 (fun hf17 => ?_) (fun hf17 => ?_)
      · refine x_aload_n 1 (pc := 139) (i := 0) E dX7_wrongly_139 rfl rfl ?_
        refine x_callVwv (pc := 140) (na := 0) (As := []) E (c_X7_holdsTrue G σ) rfl (Nat.le_of_ble_eq_true rfl) rfl wq_357 wq_5 wq_354 wq_355 wq_356 rfl rfl (by decide) ⟨Nat.le_of_ble_eq_true rfl, Nat.le_of_ble_eq_true rfl⟩ rfl rfl (Nat.le_of_ble_eq_true rfl) dX7_wrongly_140 hf17 (fun σ22 hf17 => ?_)
        obtain rfl := Option.some.inj hf17
        exact x_sub [1, 2, 3, 4, 5, 6, 7, 8, 9, 0] rfl hJ16
      · refine x_aload_n 1 (pc := 129) (i := 0) E dX7_wrongly_129 rfl rfl ?_
        refine x_iload_n 2 (pc := 130) (i := 1) E dX7_wrongly_130 rfl rfl ?_
        refine x_iload_n 3 (pc := 131) (i := 2) E dX7_wrongly_131 rfl rfl ?_
        refine x_iload_n 4 (pc := 132) (i := 3) E dX7_wrongly_132 rfl rfl ?_
        refine x_callVwv (pc := 133) (na := 3) (As := [.int v1, .int v2, .int v3]) E (c_X7_holdsWrong G v1 v2 v3 σ) rfl (Nat.le_of_ble_eq_true rfl) rfl wq_879 wq_5 wq_876 wq_877 wq_878 rfl rfl (by decide) ⟨Nat.le_of_ble_eq_true rfl, Nat.le_of_ble_eq_true rfl⟩ rfl rfl (Nat.le_of_ble_eq_true rfl) dX7_wrongly_133 hf17 (fun σ24 hf17 => ?_)
        refine x_goto (pc := 136) (tgt := 143) E dX7_wrongly_136 (by decide) ?_
        obtain rfl := Option.some.inj hf17
        exact x_sub [1, 2, 3, 4, 5, 6, 7, 8, 9, 0] rfl hJ16
set_option maxHeartbeats 4000000 in
set_option maxRecDepth 100000 in
theorem c_X7_wrongly (G : Gx) (v1 : Int32) (v2 : Int32) (v3 : Int32) (σ : MM) (r : Int64) (σ' : MM) (hf : f_X7_wrongly v1 v2 v3 σ = some (r, σ')) : Ct shM 21 yX7_wrongly cX7_wrongly 12 (some .long) rm_X7_wrongly G [.ref (gad G 0), .int v1, .int v2, .int v3] σ (some (.long r)) σ' := by
  refine ct_of (by decide) (Nat.le_of_ble_eq_true rfl) (fun K E hR => ?_)
  have E : OKc 21 cX7_wrongly 12 RX7 G K := E
  show XJ shM 21 12 rm_X7_wrongly G K σ [(0, .ref (gad G 0)), (1, .int v1), (2, .int v2), (3, .int v3)] 0 []
  unfold f_X7_wrongly at hf
  refine x_iload_n 1 (pc := 0) (i := 1) E dX7_wrongly_0 rfl rfl ?_
  refine x_callSri (pc := 1) (na := 1) (As := [.int v1]) E (c_X7_isSort G v1 σ) wq_147 wq_5 wq_145 wq_146 rfl rfl (by decide) ⟨Nat.le_of_ble_eq_true rfl, Nat.le_of_ble_eq_true rfl⟩ rfl rfl (Nat.le_of_ble_eq_true rfl) dX7_wrongly_1 hf (fun r1 hf => ?_)
  refine x_if_ne (y := 0) (pc := 4) (tgt := 13) E dX7_wrongly_4 (by decide) hf (fun hf => ?_) (fun hf => ?_)
  · refine x_iload_n 2 (pc := 13) (i := 2) E dX7_wrongly_13 rfl rfl ?_
    obtain ⟨o3, hf5, hf⟩ := bind_some hf
    have hJ4 : XJ shM 21 12 rm_X7_wrongly G K σ [(0, .ref (gad G 0)), (1, .int v1), (2, .int v2), (3, .int v3)] 56 [.int o3] := by
      refine x_istore (pc := 56) (lv' := [(4, .int o3), (0, .ref (gad G 0)), (1, .int v1), (2, .int v2), (3, .int v3)]) E dX7_wrongly_56 (by decide) rfl ?_
      refine x_iload 0 (pc := 58) E dX7_wrongly_58 rfl ?_
      refine x_if_eq (y := 0) (pc := 60) (tgt := 70) E dX7_wrongly_60 (by decide) hf (fun hf => ?_) (fun hf => ?_)
      · refine x_aload_n 1 (pc := 70) (i := 0) E dX7_wrongly_70 rfl rfl ?_
        refine x_callVwv (pc := 71) (na := 0) (As := []) E (c_X7_findTurns G σ) rfl (Nat.le_of_ble_eq_true rfl) rfl wq_524 wq_5 wq_521 wq_522 wq_523 rfl rfl (by decide) ⟨Nat.le_of_ble_eq_true rfl, Nat.le_of_ble_eq_true rfl⟩ rfl rfl (Nat.le_of_ble_eq_true rfl) dX7_wrongly_71 hf (fun σ7 hf => ?_)
        refine x_aload_n 1 (pc := 74) (i := 0) E dX7_wrongly_74 rfl rfl ?_
        refine x_callVrl (pc := 75) (na := 0) (As := []) E (c_X7_turnsOf G σ7) rfl (Nat.le_of_ble_eq_true rfl) rfl wq_532 wq_5 wq_529 wq_530 wq_531 rfl rfl (by decide) ⟨Nat.le_of_ble_eq_true rfl, Nat.le_of_ble_eq_true rfl⟩ rfl rfl (Nat.le_of_ble_eq_true rfl) dX7_wrongly_75 hf (fun r8 hf => ?_)
        refine x_lstore (pc := 78) (lv' := [(5, .long r8), (4, .int o3), (0, .ref (gad G 0)), (1, .int v1), (2, .int v2), (3, .int v3)]) E dX7_wrongly_78 (by decide) rfl ?_
        refine x_aload_n 2 (pc := 80) (i := 0) E dX7_wrongly_80 rfl rfl ?_
        refine x_callVri (pc := 81) (na := 0) (As := []) E (c_X7_called G σ7) rfl (Nat.le_of_ble_eq_true rfl) rfl wq_528 wq_5 wq_525 wq_526 wq_527 rfl rfl (by decide) ⟨Nat.le_of_ble_eq_true rfl, Nat.le_of_ble_eq_true rfl⟩ rfl rfl (Nat.le_of_ble_eq_true rfl) dX7_wrongly_81 hf (fun r9 hf => ?_)
        refine x_istore (pc := 84) (lv' := [(7, .int r9), (5, .long r8), (4, .int o3), (0, .ref (gad G 0)), (1, .int v1), (2, .int v2), (3, .int v3)]) E dX7_wrongly_84 (by decide) rfl ?_
        refine x_aload_n 3 (pc := 86) (i := 0) E dX7_wrongly_86 rfl rfl ?_
        refine x_getR (pc := 87) (r := 4) (p := 3) E rfl (Nat.le_of_ble_eq_true rfl) rfl inlX7 (by decide) rfl wq_101 dX7_wrongly_87 ?_
        refine x_iconst (pc := 90) (v := (1 : Int32)) E dX7_wrongly_90 rfl ?_
        refine x_iaload (pc := 91) E rfl (Nat.le_of_ble_eq_true rfl) dX7_wrongly_91 hf (fun hf => ?_)
        refine x_istore (pc := 92) (lv' := [(8, .int (σ7.1 4 (1 : Int32).toNatClampNeg)), (7, .int r9), (5, .long r8), (4, .int o3), (0, .ref (gad G 0)), (1, .int v1), (2, .int v2), (3, .int v3)]) E dX7_wrongly_92 (by decide) rfl ?_
        refine x_aload_n 4 (pc := 94) (i := 0) E dX7_wrongly_94 rfl rfl ?_
        refine x_getR (pc := 95) (r := 4) (p := 3) E rfl (Nat.le_of_ble_eq_true rfl) rfl inlX7 (by decide) rfl wq_101 dX7_wrongly_95 ?_
        refine x_iconst (pc := 98) (v := (2 : Int32)) E dX7_wrongly_98 rfl ?_
        refine x_iaload (pc := 99) E rfl (Nat.le_of_ble_eq_true rfl) dX7_wrongly_99 hf (fun hf => ?_)
        refine x_istore (pc := 100) (lv' := [(9, .int (σ7.1 4 (2 : Int32).toNatClampNeg)), (8, .int (σ7.1 4 (1 : Int32).toNatClampNeg)), (7, .int r9), (5, .long r8), (4, .int o3), (0, .ref (gad G 0)), (1, .int v1), (2, .int v2), (3, .int v3)]) E dX7_wrongly_100 (by decide) rfl ?_
        refine x_iconst (pc := 102) (v := (0 : Int32)) E dX7_wrongly_102 rfl ?_
        refine x_istore (pc := 103) (lv' := [(10, .int (0 : Int32)), (9, .int (σ7.1 4 (2 : Int32).toNatClampNeg)), (8, .int (σ7.1 4 (1 : Int32).toNatClampNeg)), (7, .int r9), (5, .long r8), (4, .int o3), (0, .ref (gad G 0)), (1, .int v1), (2, .int v2), (3, .int v3)]) E dX7_wrongly_103 (by decide) rfl ?_
        obtain ⟨o25, hl26, hf⟩ := bind_some hf
        refine x_sub [6, 7, 8, 9, 4, 3, 2, 1, 0] rfl (l_X7_wrongly_105 G   v1 v2 v3 r8 E FU _ _ _ _ _ o25 hl26 ?_)
        refine x_aload_n 0 (pc := 197) (i := 0) E dX7_wrongly_197 rfl rfl ?_
        refine x_callVwv (pc := 198) (na := 0) (As := []) E (c_X7_holdsTrue G o25.2) rfl (Nat.le_of_ble_eq_true rfl) rfl wq_357 wq_5 wq_354 wq_355 wq_356 rfl rfl (by decide) ⟨Nat.le_of_ble_eq_true rfl, Nat.le_of_ble_eq_true rfl⟩ rfl rfl (Nat.le_of_ble_eq_true rfl) dX7_wrongly_198 hf (fun σ28 hf => ?_)
        refine x_aload_n 0 (pc := 201) (i := 0) E dX7_wrongly_201 rfl rfl ?_
        refine x_iload 2 (pc := 202) E dX7_wrongly_202 rfl ?_
        refine x_callVwl (pc := 204) (na := 1) (As := [.int o25.1]) E (c_X7_chanceOf G o25.1 σ28) rfl (Nat.le_of_ble_eq_true rfl) rfl wq_361 wq_5 wq_358 wq_359 wq_360 rfl rfl (by decide) ⟨Nat.le_of_ble_eq_true rfl, Nat.le_of_ble_eq_true rfl⟩ rfl rfl (Nat.le_of_ble_eq_true rfl) dX7_wrongly_204 hf (fun r29 σ30 hf => ?_)
        refine x_lload 1 (pc := 207) E dX7_wrongly_207 rfl ?_
        refine x_lsub (pc := 209) E dX7_wrongly_209 ?_
        obtain ⟨rfl, rfl⟩ := Prod.mk.inj (Option.some.inj hf)
        exact x_lret (pc := 210) E hR dX7_wrongly_210
      · refine x_aload_n 1 (pc := 63) (i := 0) E dX7_wrongly_63 rfl rfl ?_
        refine x_iload 0 (pc := 64) E dX7_wrongly_64 rfl ?_
        refine x_callVwl (pc := 66) (na := 1) (As := [.int o3]) E (c_X7_noLong G o3 σ) rfl (Nat.le_of_ble_eq_true rfl) rfl wq_352 wq_5 wq_349 wq_350 wq_351 rfl rfl (by decide) ⟨Nat.le_of_ble_eq_true rfl, Nat.le_of_ble_eq_true rfl⟩ rfl rfl (Nat.le_of_ble_eq_true rfl) dX7_wrongly_66 hf (fun r31 σ32 hf => ?_)
        obtain ⟨rfl, rfl⟩ := Prod.mk.inj (Option.some.inj hf)
        exact x_lret (pc := 69) E hR dX7_wrongly_69
    refine x_if_lt (y := 0) (pc := 14) (tgt := 21) E dX7_wrongly_14 (by decide) hf5 (fun hf5 => ?_) (fun hf5 => ?_)
    · refine x_bipush (pc := 21) (v := (-4 : Int32)) E dX7_wrongly_21 rfl ?_
      refine x_goto (pc := 23) (tgt := 56) E dX7_wrongly_23 (by decide) ?_
      obtain rfl := Option.some.inj hf5
      exact x_sub [0, 1, 2, 3] rfl hJ4
    · refine x_iload_n 3 (pc := 17) (i := 3) E dX7_wrongly_17 rfl rfl ?_
      refine x_if_ge (y := 0) (pc := 18) (tgt := 26) E dX7_wrongly_18 (by decide) hf5 (fun hf5 => ?_) (fun hf5 => ?_)
      · refine x_iload_n 2 (pc := 26) (i := 2) E dX7_wrongly_26 rfl rfl ?_
        refine x_bipush (pc := 27) (v := (100 : Int32)) E dX7_wrongly_27 rfl ?_
        refine x_icmp_gt (pc := 29) (tgt := 38) E dX7_wrongly_29 (by decide) hf5 (fun hf5 => ?_) (fun hf5 => ?_)
        · refine x_bipush (pc := 38) (v := (-6 : Int32)) E dX7_wrongly_38 rfl ?_
          refine x_goto (pc := 40) (tgt := 56) E dX7_wrongly_40 (by decide) ?_
          obtain rfl := Option.some.inj hf5
          exact x_sub [0, 1, 2, 3] rfl hJ4
        · refine x_iload_n 3 (pc := 32) (i := 3) E dX7_wrongly_32 rfl rfl ?_
          refine x_bipush (pc := 33) (v := (100 : Int32)) E dX7_wrongly_33 rfl ?_
          refine x_icmp_le (pc := 35) (tgt := 43) E dX7_wrongly_35 (by decide) hf5 (fun hf5 => ?_) (fun hf5 => ?_)
          · refine x_aload_n 0 (pc := 43) (i := 0) E dX7_wrongly_43 rfl rfl ?_
            refine x_callVri (pc := 44) (na := 0) (As := []) E (c_X7_isEnough G σ) rfl (Nat.le_of_ble_eq_true rfl) rfl wq_516 wq_5 wq_513 wq_514 wq_515 rfl rfl (by decide) ⟨Nat.le_of_ble_eq_true rfl, Nat.le_of_ble_eq_true rfl⟩ rfl rfl (Nat.le_of_ble_eq_true rfl) dX7_wrongly_44 hf5 (fun r33 hf5 => ?_)
            refine x_if_ne (y := 0) (pc := 47) (tgt := 55) E dX7_wrongly_47 (by decide) hf5 (fun hf5 => ?_) (fun hf5 => ?_)
            · refine x_iconst (pc := 55) (v := (0 : Int32)) E dX7_wrongly_55 rfl ?_
              obtain rfl := Option.some.inj hf5
              exact x_sub [0, 1, 2, 3] rfl hJ4
            · refine x_bipush (pc := 50) (v := (-3 : Int32)) E dX7_wrongly_50 rfl ?_
              refine x_goto (pc := 52) (tgt := 56) E dX7_wrongly_52 (by decide) ?_
              obtain rfl := Option.some.inj hf5
              exact x_sub [0, 1, 2, 3] rfl hJ4
          · refine x_bipush (pc := 38) (v := (-6 : Int32)) E dX7_wrongly_38 rfl ?_
            refine x_goto (pc := 40) (tgt := 56) E dX7_wrongly_40 (by decide) ?_
            obtain rfl := Option.some.inj hf5
            exact x_sub [0, 1, 2, 3] rfl hJ4
      · refine x_bipush (pc := 21) (v := (-4 : Int32)) E dX7_wrongly_21 rfl ?_
        refine x_goto (pc := 23) (tgt := 56) E dX7_wrongly_23 (by decide) ?_
        obtain rfl := Option.some.inj hf5
        exact x_sub [0, 1, 2, 3] rfl hJ4
  · refine x_aload_n 0 (pc := 7) (i := 0) E dX7_wrongly_7 rfl rfl ?_
    refine x_iconst (pc := 8) (v := (-1 : Int32)) E dX7_wrongly_8 rfl ?_
    refine x_callVwl (pc := 9) (na := 1) (As := [.int (-1 : Int32)]) E (c_X7_noLong G (-1 : Int32) σ) rfl (Nat.le_of_ble_eq_true rfl) rfl wq_352 wq_5 wq_349 wq_350 wq_351 rfl rfl (by decide) ⟨Nat.le_of_ble_eq_true rfl, Nat.le_of_ble_eq_true rfl⟩ rfl rfl (Nat.le_of_ble_eq_true rfl) dX7_wrongly_9 hf (fun r34 σ35 hf => ?_)
    obtain ⟨rfl, rfl⟩ := Prod.mk.inj (Option.some.inj hf)
    exact x_lret (pc := 12) E hR dX7_wrongly_12
set_option maxHeartbeats 4000000 in
set_option maxRecDepth 100000 in
theorem l_X7_turnsWith_8 (G : Gx) {K : Kx}   (v1 : Int32) (v2 : Int32) (E : OKc 21 cX7_turnsWith 5 RX7 G K) : ∀ (m : Nat) (v3 : Int32) (σ : MM) (out : MM), loopN (fun s => g_X7_turnsWith_8 v1 v2 s.1 s.2) m (v3, σ) = some out → XJ shM 21 5 rm_X7_turnsWith G K out [(0, .ref (gad G 0))] 62 [] → XJ shM 21 5 rm_X7_turnsWith G K σ [(0, .ref (gad G 0)), (1, .int v1), (2, .int v2), (3, .int v3)] 8 [] := by
  intro m
  induction m with
  | zero => intro v3 σ out hf; exact (loopN_0 hf).elim
  | succ m ih =>
    intro v3 σ out hf hk
    obtain ⟨q, hf, h2⟩ := loopN_s hf
    have hf : g_X7_turnsWith_8 v1 v2 v3 σ = some q := hf
    unfold g_X7_turnsWith_8 at hf
    refine x_iload_n 3 (pc := 8) (i := 3) E dX7_turnsWith_8 rfl rfl ?_
    refine x_iconst (pc := 9) (v := (2 : Int32)) E dX7_turnsWith_9 rfl ?_
    refine x_iload_n 1 (pc := 10) (i := 1) E dX7_turnsWith_10 rfl rfl ?_
    refine x_imul (pc := 11) E dX7_turnsWith_11 ?_
    refine x_iconst (pc := 12) (v := (2 : Int32)) E dX7_turnsWith_12 rfl ?_
    refine x_iadd (pc := 13) E dX7_turnsWith_13 ?_
    refine x_icmp_ge (pc := 14) (tgt := 62) E dX7_turnsWith_14 (by decide) hf (fun hf => ?_) (fun hf => ?_)
    · obtain rfl := Option.some.inj hf
      obtain rfl := lpk_r h2
      exact x_sub [0] rfl hk
    · refine x_aload_n 0 (pc := 17) (i := 0) E dX7_turnsWith_17 rfl rfl ?_
      refine x_getR (pc := 18) (r := 8) (p := 10) E rfl (Nat.le_of_ble_eq_true rfl) rfl inlX7 (by decide) rfl wq_105 dX7_turnsWith_18 ?_
      refine x_iload_n 3 (pc := 21) (i := 3) E dX7_turnsWith_21 rfl rfl ?_
      refine x_iaload (pc := 22) E rfl (Nat.le_of_ble_eq_true rfl) dX7_turnsWith_22 hf (fun hf => ?_)
      refine x_iload_n 2 (pc := 23) (i := 2) E dX7_turnsWith_23 rfl rfl ?_
      refine x_iadd (pc := 24) E dX7_turnsWith_24 ?_
      refine x_istore (pc := 25) (lv' := [(4, .int ((σ.1 8 v3.toNatClampNeg) + v2)), (0, .ref (gad G 0)), (1, .int v1), (2, .int v2), (3, .int v3)]) E dX7_turnsWith_25 (by decide) rfl ?_
      refine x_aload_n 1 (pc := 27) (i := 0) E dX7_turnsWith_27 rfl rfl ?_
      refine x_getR (pc := 28) (r := 8) (p := 10) E rfl (Nat.le_of_ble_eq_true rfl) rfl inlX7 (by decide) rfl wq_105 dX7_turnsWith_28 ?_
      refine x_iload_n 4 (pc := 31) (i := 3) E dX7_turnsWith_31 rfl rfl ?_
      refine x_iload 0 (pc := 32) E dX7_turnsWith_32 rfl ?_
      refine x_if_ge (y := 0) (pc := 34) (tgt := 41) E dX7_turnsWith_34 (by decide) hf (fun hf => ?_) (fun hf => ?_)
      · refine x_iload 0 (pc := 41) E dX7_turnsWith_41 rfl ?_
        refine x_bipush (pc := 43) (v := (100 : Int32)) E dX7_turnsWith_43 rfl ?_
        refine x_icmp_le (pc := 45) (tgt := 53) E dX7_turnsWith_45 (by decide) hf (fun hf => ?_) (fun hf => ?_)
        · refine x_iload 0 (pc := 53) E dX7_turnsWith_53 rfl ?_
          refine x_iastore (pc := 55) E rfl (Nat.le_of_ble_eq_true rfl) dX7_turnsWith_55 hf (fun σ3 hf => ?_)
          refine x_iinc 4 (pc := 56) (v := v3 + 1) (lv' := [(3, .int (v3 + 1)), (4, .int ((σ.1 8 v3.toNatClampNeg) + v2)), (0, .ref (gad G 0)), (1, .int v1), (2, .int v2)]) E dX7_turnsWith_56 rfl rfl (by decide) rfl ?_
          refine x_goto (pc := 59) (tgt := 8) E dX7_turnsWith_59 (by decide) ?_
          obtain rfl := Option.some.inj hf
          exact x_sub [2, 3, 4, 0] rfl (ih _ _ _ (lpk_l h2) hk)
        · refine x_bipush (pc := 48) (v := (100 : Int32)) E dX7_turnsWith_48 rfl ?_
          refine x_goto (pc := 50) (tgt := 55) E dX7_turnsWith_50 (by decide) ?_
          refine x_iastore (pc := 55) E rfl (Nat.le_of_ble_eq_true rfl) dX7_turnsWith_55 hf (fun σ4 hf => ?_)
          refine x_iinc 4 (pc := 56) (v := v3 + 1) (lv' := [(3, .int (v3 + 1)), (4, .int ((σ.1 8 v3.toNatClampNeg) + v2)), (0, .ref (gad G 0)), (1, .int v1), (2, .int v2)]) E dX7_turnsWith_56 rfl rfl (by decide) rfl ?_
          refine x_goto (pc := 59) (tgt := 8) E dX7_turnsWith_59 (by decide) ?_
          obtain rfl := Option.some.inj hf
          exact x_sub [2, 3, 4, 0] rfl (ih _ _ _ (lpk_l h2) hk)
      · refine x_iconst (pc := 37) (v := (0 : Int32)) E dX7_turnsWith_37 rfl ?_
        refine x_goto (pc := 38) (tgt := 55) E dX7_turnsWith_38 (by decide) ?_
        refine x_iastore (pc := 55) E rfl (Nat.le_of_ble_eq_true rfl) dX7_turnsWith_55 hf (fun σ5 hf => ?_)
        refine x_iinc 4 (pc := 56) (v := v3 + 1) (lv' := [(3, .int (v3 + 1)), (4, .int ((σ.1 8 v3.toNatClampNeg) + v2)), (0, .ref (gad G 0)), (1, .int v1), (2, .int v2)]) E dX7_turnsWith_56 rfl rfl (by decide) rfl ?_
        refine x_goto (pc := 59) (tgt := 8) E dX7_turnsWith_59 (by decide) ?_
        obtain rfl := Option.some.inj hf
        exact x_sub [2, 3, 4, 0] rfl (ih _ _ _ (lpk_l h2) hk)
set_option maxHeartbeats 4000000 in
set_option maxRecDepth 100000 in
theorem c_X7_turnsWith (G : Gx) (v1 : Int32) (v2 : Int32) (σ : MM) (r : Int64) (σ' : MM) (hf : f_X7_turnsWith v1 v2 σ = some (r, σ')) : Ct shM 21 yX7_turnsWith cX7_turnsWith 5 (some .long) rm_X7_turnsWith G [.ref (gad G 0), .int v1, .int v2] σ (some (.long r)) σ' := by
  refine ct_of (by decide) (Nat.le_of_ble_eq_true rfl) (fun K E hR => ?_)
  have E : OKc 21 cX7_turnsWith 5 RX7 G K := E
  show XJ shM 21 5 rm_X7_turnsWith G K σ [(0, .ref (gad G 0)), (1, .int v1), (2, .int v2)] 0 []
  unfold f_X7_turnsWith at hf
  refine x_aload_n 0 (pc := 0) (i := 0) E dX7_turnsWith_0 rfl rfl ?_
  refine x_callVwv (pc := 1) (na := 0) (As := []) E (c_X7_holdsTrue G σ) rfl (Nat.le_of_ble_eq_true rfl) rfl wq_357 wq_5 wq_354 wq_355 wq_356 rfl rfl (by decide) ⟨Nat.le_of_ble_eq_true rfl, Nat.le_of_ble_eq_true rfl⟩ rfl rfl (Nat.le_of_ble_eq_true rfl) dX7_turnsWith_1 hf (fun σ2 hf => ?_)
  refine x_iconst (pc := 4) (v := (2 : Int32)) E dX7_turnsWith_4 rfl ?_
  refine x_iload_n 1 (pc := 5) (i := 1) E dX7_turnsWith_5 rfl rfl ?_
  refine x_imul (pc := 6) E dX7_turnsWith_6 ?_
  refine x_istore_n (pc := 7) (lv' := [(3, .int ((2 : Int32) * v1)), (0, .ref (gad G 0)), (1, .int v1), (2, .int v2)]) E dX7_turnsWith_7 rfl (by decide) rfl ?_
  obtain ⟨o6, hl7, hf⟩ := bind_some hf
  refine x_sub [1, 2, 3, 0] rfl (l_X7_turnsWith_8 G   v1 v2 E FU _ _ o6 hl7 ?_)
  refine x_aload_n 0 (pc := 62) (i := 0) E dX7_turnsWith_62 rfl rfl ?_
  refine x_aload_n 0 (pc := 63) (i := 0) E dX7_turnsWith_63 rfl rfl ?_
  refine x_callVri (pc := 64) (na := 0) (As := []) E (c_X7_called G o6) rfl (Nat.le_of_ble_eq_true rfl) rfl wq_528 wq_5 wq_525 wq_526 wq_527 rfl rfl (by decide) ⟨Nat.le_of_ble_eq_true rfl, Nat.le_of_ble_eq_true rfl⟩ rfl rfl (Nat.le_of_ble_eq_true rfl) dX7_turnsWith_64 hf (fun r8 hf => ?_)
  refine x_aload_n 0 (pc := 67) (i := 0) E dX7_turnsWith_67 rfl rfl ?_
  refine x_getR (pc := 68) (r := 4) (p := 3) E rfl (Nat.le_of_ble_eq_true rfl) rfl inlX7 (by decide) rfl wq_101 dX7_turnsWith_68 ?_
  refine x_iconst (pc := 71) (v := (1 : Int32)) E dX7_turnsWith_71 rfl ?_
  refine x_iaload (pc := 72) E rfl (Nat.le_of_ble_eq_true rfl) dX7_turnsWith_72 hf (fun hf => ?_)
  refine x_aload_n 0 (pc := 73) (i := 0) E dX7_turnsWith_73 rfl rfl ?_
  refine x_getR (pc := 74) (r := 4) (p := 3) E rfl (Nat.le_of_ble_eq_true rfl) rfl inlX7 (by decide) rfl wq_101 dX7_turnsWith_74 ?_
  refine x_iconst (pc := 77) (v := (2 : Int32)) E dX7_turnsWith_77 rfl ?_
  refine x_iaload (pc := 78) E rfl (Nat.le_of_ble_eq_true rfl) dX7_turnsWith_78 hf (fun hf => ?_)
  refine x_callVwv (pc := 79) (na := 3) (As := [.int r8, .int (o6.1 4 (1 : Int32).toNatClampNeg), .int (o6.1 4 (2 : Int32).toNatClampNeg)]) E (c_X7_findBest G r8 (o6.1 4 (1 : Int32).toNatClampNeg) (o6.1 4 (2 : Int32).toNatClampNeg) o6) rfl (Nat.le_of_ble_eq_true rfl) rfl wq_452 wq_5 wq_449 wq_450 wq_451 rfl rfl (by decide) ⟨Nat.le_of_ble_eq_true rfl, Nat.le_of_ble_eq_true rfl⟩ rfl rfl (Nat.le_of_ble_eq_true rfl) dX7_turnsWith_79 hf (fun σ10 hf => ?_)
  refine x_aload_n 0 (pc := 82) (i := 0) E dX7_turnsWith_82 rfl rfl ?_
  refine x_callVrl (pc := 83) (na := 0) (As := []) E (c_X7_turnsOf G σ10) rfl (Nat.le_of_ble_eq_true rfl) rfl wq_532 wq_5 wq_529 wq_530 wq_531 rfl rfl (by decide) ⟨Nat.le_of_ble_eq_true rfl, Nat.le_of_ble_eq_true rfl⟩ rfl rfl (Nat.le_of_ble_eq_true rfl) dX7_turnsWith_83 hf (fun r11 hf => ?_)
  obtain ⟨rfl, rfl⟩ := Prod.mk.inj (Option.some.inj hf)
  exact x_lret (pc := 86) E hR dX7_turnsWith_86
set_option maxHeartbeats 4000000 in
set_option maxRecDepth 100000 in
theorem c_X7_asked (G : Gx) (v1 : Int32) (v2 : Int32) (σ : MM) (r : Int64) (σ' : MM) (hf : f_X7_asked v1 v2 σ = some (r, σ')) : Ct shM 21 yX7_asked cX7_asked 8 (some .long) rm_X7_asked G [.ref (gad G 0), .int v1, .int v2] σ (some (.long r)) σ' := by
  refine ct_of (by decide) (Nat.le_of_ble_eq_true rfl) (fun K E hR => ?_)
  have E : OKc 21 cX7_asked 8 RX7 G K := E
  show XJ shM 21 8 rm_X7_asked G K σ [(0, .ref (gad G 0)), (1, .int v1), (2, .int v2)] 0 []
  unfold f_X7_asked at hf
  refine x_iload_n 1 (pc := 0) (i := 1) E dX7_asked_0 rfl rfl ?_
  refine x_iconst (pc := 1) (v := (0 : Int32)) E dX7_asked_1 rfl ?_
  refine x_aload_n 0 (pc := 2) (i := 0) E dX7_asked_2 rfl rfl ?_
  refine x_getI (pc := 3) (p := 6) E rfl (Nat.le_of_ble_eq_true rfl) rfl inlX7 (by decide) rfl wq_164 dX7_asked_3 ?_
  refine x_iconst (pc := 6) (v := (1 : Int32)) E dX7_asked_6 rfl ?_
  refine x_isub (pc := 7) E dX7_asked_7 ?_
  refine x_callSri (pc := 8) (na := 3) (As := [.int v1, .int (0 : Int32), .int ((σ.1 0 6) - (1 : Int32))]) E (c_X7_isIn G v1 (0 : Int32) ((σ.1 0 6) - (1 : Int32)) σ) wq_185 wq_5 wq_183 wq_184 rfl rfl (by decide) ⟨Nat.le_of_ble_eq_true rfl, Nat.le_of_ble_eq_true rfl⟩ rfl rfl (Nat.le_of_ble_eq_true rfl) dX7_asked_8 hf (fun r1 hf => ?_)
  refine x_if_ne (y := 0) (pc := 11) (tgt := 20) E dX7_asked_11 (by decide) hf (fun hf => ?_) (fun hf => ?_)
  · refine x_iload_n 2 (pc := 20) (i := 2) E dX7_asked_20 rfl rfl ?_
    refine x_iconst (pc := 21) (v := (0 : Int32)) E dX7_asked_21 rfl ?_
    refine x_bipush (pc := 22) (v := (50 : Int32)) E dX7_asked_22 rfl ?_
    refine x_callSri (pc := 24) (na := 3) (As := [.int v2, .int (0 : Int32), .int (50 : Int32)]) E (c_X7_out G v2 (0 : Int32) (50 : Int32) σ) wq_188 wq_5 wq_186 wq_187 rfl rfl (by decide) ⟨Nat.le_of_ble_eq_true rfl, Nat.le_of_ble_eq_true rfl⟩ rfl rfl (Nat.le_of_ble_eq_true rfl) dX7_asked_24 hf (fun r2 hf => ?_)
    refine x_istore_n (pc := 27) (lv' := [(3, .int r2), (0, .ref (gad G 0)), (1, .int v1), (2, .int v2)]) E dX7_asked_27 rfl (by decide) rfl ?_
    refine x_iload_n 0 (pc := 28) (i := 3) E dX7_asked_28 rfl rfl ?_
    obtain ⟨o5, hf7, hf⟩ := bind_some hf
    have hJ6 : XJ shM 21 8 rm_X7_asked G K σ [(0, .ref (gad G 0)), (1, .int v1), (2, .int v2), (3, .int o5)] 50 [] := by
      refine x_iload_n 3 (pc := 50) (i := 3) E dX7_asked_50 rfl rfl ?_
      refine x_if_eq (y := 0) (pc := 51) (tgt := 60) E dX7_asked_51 (by decide) hf (fun hf => ?_) (fun hf => ?_)
      · refine x_aload_n 0 (pc := 60) (i := 0) E dX7_asked_60 rfl rfl ?_
        refine x_iload_n 1 (pc := 61) (i := 1) E dX7_asked_61 rfl rfl ?_
        refine x_iload_n 2 (pc := 62) (i := 2) E dX7_asked_62 rfl rfl ?_
        refine x_callVwl (pc := 63) (na := 2) (As := [.int v1, .int v2]) E (c_X7_turnsWith G v1 v2 σ) rfl (Nat.le_of_ble_eq_true rfl) rfl wq_902 wq_5 wq_899 wq_900 wq_901 rfl rfl (by decide) ⟨Nat.le_of_ble_eq_true rfl, Nat.le_of_ble_eq_true rfl⟩ rfl rfl (Nat.le_of_ble_eq_true rfl) dX7_asked_63 hf (fun r8 σ9 hf => ?_)
        refine x_lstore (pc := 66) (lv' := [(4, .long r8), (0, .ref (gad G 0)), (1, .int v1), (2, .int v2), (3, .int o5)]) E dX7_asked_66 (by decide) rfl ?_
        refine x_aload_n 1 (pc := 68) (i := 0) E dX7_asked_68 rfl rfl ?_
        refine x_iload_n 2 (pc := 69) (i := 1) E dX7_asked_69 rfl rfl ?_
        refine x_iload_n 3 (pc := 70) (i := 2) E dX7_asked_70 rfl rfl ?_
        refine x_ineg (pc := 71) E dX7_asked_71 ?_
        refine x_callVwl (pc := 72) (na := 2) (As := [.int v1, .int (-v2)]) E (c_X7_turnsWith G v1 (-v2) σ9) rfl (Nat.le_of_ble_eq_true rfl) rfl wq_902 wq_5 wq_899 wq_900 wq_901 rfl rfl (by decide) ⟨Nat.le_of_ble_eq_true rfl, Nat.le_of_ble_eq_true rfl⟩ rfl rfl (Nat.le_of_ble_eq_true rfl) dX7_asked_72 hf (fun r10 σ11 hf => ?_)
        refine x_lstore (pc := 75) (lv' := [(6, .long r10), (4, .long r8), (0, .ref (gad G 0)), (1, .int v1), (2, .int v2), (3, .int o5)]) E dX7_asked_75 (by decide) rfl ?_
        refine x_lload 1 (pc := 77) E dX7_asked_77 rfl ?_
        refine x_lload 0 (pc := 79) E dX7_asked_79 rfl ?_
        refine x_ladd (pc := 81) E dX7_asked_81 ?_
        refine x_ldc2 (pc := 82) (v := 2) E wq_898 dX7_asked_82 ?_
        refine x_aload_n 2 (pc := 85) (i := 0) E dX7_asked_85 rfl rfl ?_
        refine x_iload_n 3 (pc := 86) (i := 1) E dX7_asked_86 rfl rfl ?_
        refine x_iconst (pc := 87) (v := (0 : Int32)) E dX7_asked_87 rfl ?_
        refine x_callVwl (pc := 88) (na := 2) (As := [.int v1, .int (0 : Int32)]) E (c_X7_turnsWith G v1 (0 : Int32) σ11) rfl (Nat.le_of_ble_eq_true rfl) rfl wq_902 wq_5 wq_899 wq_900 wq_901 rfl rfl (by decide) ⟨Nat.le_of_ble_eq_true rfl, Nat.le_of_ble_eq_true rfl⟩ rfl rfl (Nat.le_of_ble_eq_true rfl) dX7_asked_88 hf (fun r12 σ13 hf => ?_)
        refine x_lmul (pc := 91) E dX7_asked_91 ?_
        refine x_lsub (pc := 92) E dX7_asked_92 ?_
        obtain ⟨rfl, rfl⟩ := Prod.mk.inj (Option.some.inj hf)
        exact x_lret (pc := 93) E hR dX7_asked_93
      · refine x_aload_n 0 (pc := 54) (i := 0) E dX7_asked_54 rfl rfl ?_
        refine x_iload_n 3 (pc := 55) (i := 3) E dX7_asked_55 rfl rfl ?_
        refine x_callVwl (pc := 56) (na := 1) (As := [.int o5]) E (c_X7_noLong G o5 σ) rfl (Nat.le_of_ble_eq_true rfl) rfl wq_352 wq_5 wq_349 wq_350 wq_351 rfl rfl (by decide) ⟨Nat.le_of_ble_eq_true rfl, Nat.le_of_ble_eq_true rfl⟩ rfl rfl (Nat.le_of_ble_eq_true rfl) dX7_asked_56 hf (fun r14 σ15 hf => ?_)
        obtain ⟨rfl, rfl⟩ := Prod.mk.inj (Option.some.inj hf)
        exact x_lret (pc := 59) E hR dX7_asked_59
    refine x_if_ne (y := 0) (pc := 29) (tgt := 50) E dX7_asked_29 (by decide) hf7 (fun hf7 => ?_) (fun hf7 => ?_)
    · obtain rfl := Option.some.inj hf7
      exact x_sub [1, 2, 3, 0] rfl hJ6
    · refine x_aload_n 1 (pc := 32) (i := 0) E dX7_asked_32 rfl rfl ?_
      refine x_callVri (pc := 33) (na := 0) (As := []) E (c_X7_isEnough G σ) rfl (Nat.le_of_ble_eq_true rfl) rfl wq_516 wq_5 wq_513 wq_514 wq_515 rfl rfl (by decide) ⟨Nat.le_of_ble_eq_true rfl, Nat.le_of_ble_eq_true rfl⟩ rfl rfl (Nat.le_of_ble_eq_true rfl) dX7_asked_33 hf7 (fun r16 hf7 => ?_)
      refine x_if_eq (y := 0) (pc := 36) (tgt := 47) E dX7_asked_36 (by decide) hf7 (fun hf7 => ?_) (fun hf7 => ?_)
      · refine x_bipush (pc := 47) (v := (-3 : Int32)) E dX7_asked_47 rfl ?_
        refine x_istore_n (pc := 49) (lv' := [(3, .int (-3 : Int32)), (0, .ref (gad G 0)), (1, .int v1), (2, .int v2)]) E dX7_asked_49 rfl (by decide) rfl ?_
        obtain rfl := Option.some.inj hf7
        exact x_sub [1, 2, 3, 0] rfl hJ6
      · refine x_iload_n 2 (pc := 39) (i := 1) E dX7_asked_39 rfl rfl ?_
        refine x_aload_n 1 (pc := 40) (i := 0) E dX7_asked_40 rfl rfl ?_
        refine x_callVri (pc := 41) (na := 0) (As := []) E (c_X7_calledMany G σ) rfl (Nat.le_of_ble_eq_true rfl) rfl wq_520 wq_5 wq_517 wq_518 wq_519 rfl rfl (by decide) ⟨Nat.le_of_ble_eq_true rfl, Nat.le_of_ble_eq_true rfl⟩ rfl rfl (Nat.le_of_ble_eq_true rfl) dX7_asked_41 hf7 (fun r17 hf7 => ?_)
        refine x_icmp_lt (pc := 44) (tgt := 50) E dX7_asked_44 (by decide) hf7 (fun hf7 => ?_) (fun hf7 => ?_)
        · obtain rfl := Option.some.inj hf7
          exact x_sub [1, 2, 3, 0] rfl hJ6
        · refine x_bipush (pc := 47) (v := (-3 : Int32)) E dX7_asked_47 rfl ?_
          refine x_istore_n (pc := 49) (lv' := [(3, .int (-3 : Int32)), (0, .ref (gad G 0)), (1, .int v1), (2, .int v2)]) E dX7_asked_49 rfl (by decide) rfl ?_
          obtain rfl := Option.some.inj hf7
          exact x_sub [1, 2, 3, 0] rfl hJ6
  · refine x_aload_n 0 (pc := 14) (i := 0) E dX7_asked_14 rfl rfl ?_
    refine x_iconst (pc := 15) (v := (-1 : Int32)) E dX7_asked_15 rfl ?_
    refine x_callVwl (pc := 16) (na := 1) (As := [.int (-1 : Int32)]) E (c_X7_noLong G (-1 : Int32) σ) rfl (Nat.le_of_ble_eq_true rfl) rfl wq_352 wq_5 wq_349 wq_350 wq_351 rfl rfl (by decide) ⟨Nat.le_of_ble_eq_true rfl, Nat.le_of_ble_eq_true rfl⟩ rfl rfl (Nat.le_of_ble_eq_true rfl) dX7_asked_16 hf (fun r18 σ19 hf => ?_)
    obtain ⟨rfl, rfl⟩ := Prod.mk.inj (Option.some.inj hf)
    exact x_lret (pc := 19) E hR dX7_asked_19
set_option maxHeartbeats 4000000 in
set_option maxRecDepth 100000 in
theorem l_X7_image_2 (G : Gx) {K : Kx}    (E : OKc 21 cX7_image 2 RX7 G K) : ∀ (m : Nat) (v1 : Int32) (σ : MM) (out : MM), loopN (fun s => g_X7_image_2 s.1 s.2) m (v1, σ) = some out → XJ shM 21 2 rm_X7_image G K out [(0, .ref (gad G 0))] 41 [] → XJ shM 21 2 rm_X7_image G K σ [(0, .ref (gad G 0)), (1, .int v1)] 2 [] := by
  intro m
  induction m with
  | zero => intro v1 σ out hf; exact (loopN_0 hf).elim
  | succ m ih =>
    intro v1 σ out hf hk
    obtain ⟨q, hf, h2⟩ := loopN_s hf
    have hf : g_X7_image_2 v1 σ = some q := hf
    unfold g_X7_image_2 at hf
    refine x_iload_n 1 (pc := 2) (i := 1) E dX7_image_2 rfl rfl ?_
    refine x_bipush (pc := 3) (v := (12 : Int32)) E dX7_image_3 rfl ?_
    refine x_icmp_ge (pc := 5) (tgt := 41) E dX7_image_5 (by decide) hf (fun hf => ?_) (fun hf => ?_)
    · obtain rfl := Option.some.inj hf
      obtain rfl := lpk_r h2
      exact x_sub [0] rfl hk
    · refine x_aload_n 0 (pc := 8) (i := 0) E dX7_image_8 rfl rfl ?_
      refine x_getR (pc := 9) (r := 20) (p := 33) E rfl (Nat.le_of_ble_eq_true rfl) rfl inlX7 (by decide) rfl wq_119 dX7_image_9 ?_
      refine x_iload_n 1 (pc := 12) (i := 1) E dX7_image_12 rfl rfl ?_
      refine x_aload_n 0 (pc := 13) (i := 0) E dX7_image_13 rfl rfl ?_
      refine x_getR (pc := 14) (r := 2) (p := 1) E rfl (Nat.le_of_ble_eq_true rfl) rfl inlX7 (by decide) rfl wq_99 dX7_image_14 ?_
      refine x_iload_n 1 (pc := 17) (i := 1) E dX7_image_17 rfl rfl ?_
      refine x_iaload (pc := 18) E rfl (Nat.le_of_ble_eq_true rfl) dX7_image_18 hf (fun hf => ?_)
      refine x_iastore (pc := 19) E rfl (Nat.le_of_ble_eq_true rfl) dX7_image_19 hf (fun σ1 hf => ?_)
      refine x_aload_n 0 (pc := 20) (i := 0) E dX7_image_20 rfl rfl ?_
      refine x_getR (pc := 21) (r := 20) (p := 33) E rfl (Nat.le_of_ble_eq_true rfl) rfl inlX7 (by decide) rfl wq_119 dX7_image_21 ?_
      refine x_bipush (pc := 24) (v := (12 : Int32)) E dX7_image_24 rfl ?_
      refine x_iload_n 1 (pc := 26) (i := 1) E dX7_image_26 rfl rfl ?_
      refine x_iadd (pc := 27) E dX7_image_27 ?_
      refine x_aload_n 0 (pc := 28) (i := 0) E dX7_image_28 rfl rfl ?_
      refine x_getR (pc := 29) (r := 3) (p := 2) E rfl (Nat.le_of_ble_eq_true rfl) rfl inlX7 (by decide) rfl wq_100 dX7_image_29 ?_
      refine x_iload_n 1 (pc := 32) (i := 1) E dX7_image_32 rfl rfl ?_
      refine x_iaload (pc := 33) E rfl (Nat.le_of_ble_eq_true rfl) dX7_image_33 hf (fun hf => ?_)
      refine x_iastore (pc := 34) E rfl (Nat.le_of_ble_eq_true rfl) dX7_image_34 hf (fun σ2 hf => ?_)
      refine x_iinc 1 (pc := 35) (v := v1 + 1) (lv' := [(1, .int (v1 + 1)), (0, .ref (gad G 0))]) E dX7_image_35 rfl rfl (by decide) rfl ?_
      refine x_goto (pc := 38) (tgt := 2) E dX7_image_38 (by decide) ?_
      obtain rfl := Option.some.inj hf
      exact x_sub [1, 0] rfl (ih _ _ _ (lpk_l h2) hk)
set_option maxHeartbeats 4000000 in
set_option maxRecDepth 100000 in
theorem l_X7_image_43 (G : Gx) {K : Kx}    (E : OKc 21 cX7_image 2 RX7 G K) : ∀ (m : Nat) (v1 : Int32) (σ : MM) (out : MM), loopN (fun s => g_X7_image_43 s.1 s.2) m (v1, σ) = some out → XJ shM 21 2 rm_X7_image G K out [(0, .ref (gad G 0))] 69 [] → XJ shM 21 2 rm_X7_image G K σ [(0, .ref (gad G 0)), (1, .int v1)] 43 [] := by
  intro m
  induction m with
  | zero => intro v1 σ out hf; exact (loopN_0 hf).elim
  | succ m ih =>
    intro v1 σ out hf hk
    obtain ⟨q, hf, h2⟩ := loopN_s hf
    have hf : g_X7_image_43 v1 σ = some q := hf
    unfold g_X7_image_43 at hf
    refine x_iload_n 1 (pc := 43) (i := 1) E dX7_image_43 rfl rfl ?_
    refine x_iconst (pc := 44) (v := (5 : Int32)) E dX7_image_44 rfl ?_
    refine x_icmp_ge (pc := 45) (tgt := 69) E dX7_image_45 (by decide) hf (fun hf => ?_) (fun hf => ?_)
    · obtain rfl := Option.some.inj hf
      obtain rfl := lpk_r h2
      exact x_sub [0] rfl hk
    · refine x_aload_n 0 (pc := 48) (i := 0) E dX7_image_48 rfl rfl ?_
      refine x_getR (pc := 49) (r := 20) (p := 33) E rfl (Nat.le_of_ble_eq_true rfl) rfl inlX7 (by decide) rfl wq_119 dX7_image_49 ?_
      refine x_bipush (pc := 52) (v := (24 : Int32)) E dX7_image_52 rfl ?_
      refine x_iload_n 1 (pc := 54) (i := 1) E dX7_image_54 rfl rfl ?_
      refine x_iadd (pc := 55) E dX7_image_55 ?_
      refine x_aload_n 0 (pc := 56) (i := 0) E dX7_image_56 rfl rfl ?_
      refine x_getR (pc := 57) (r := 4) (p := 3) E rfl (Nat.le_of_ble_eq_true rfl) rfl inlX7 (by decide) rfl wq_101 dX7_image_57 ?_
      refine x_iload_n 1 (pc := 60) (i := 1) E dX7_image_60 rfl rfl ?_
      refine x_iaload (pc := 61) E rfl (Nat.le_of_ble_eq_true rfl) dX7_image_61 hf (fun hf => ?_)
      refine x_iastore (pc := 62) E rfl (Nat.le_of_ble_eq_true rfl) dX7_image_62 hf (fun σ5 hf => ?_)
      refine x_iinc 1 (pc := 63) (v := v1 + 1) (lv' := [(1, .int (v1 + 1)), (0, .ref (gad G 0))]) E dX7_image_63 rfl rfl (by decide) rfl ?_
      refine x_goto (pc := 66) (tgt := 43) E dX7_image_66 (by decide) ?_
      obtain rfl := Option.some.inj hf
      exact x_sub [1, 0] rfl (ih _ _ _ (lpk_l h2) hk)
set_option maxHeartbeats 4000000 in
set_option maxRecDepth 100000 in
theorem c_X7_image (G : Gx) (σ : MM) (r : Int32) (σ' : MM) (hf : f_X7_image σ = some (r, σ')) : Ct shM 21 yX7_image cX7_image 2 (some .int) rm_X7_image G [.ref (gad G 0)] σ (some (.int r)) σ' := by
  refine ct_of (by decide) (Nat.le_of_ble_eq_true rfl) (fun K E hR => ?_)
  have E : OKc 21 cX7_image 2 RX7 G K := E
  show XJ shM 21 2 rm_X7_image G K σ [(0, .ref (gad G 0))] 0 []
  unfold f_X7_image at hf
  refine x_iconst (pc := 0) (v := (0 : Int32)) E dX7_image_0 rfl ?_
  refine x_istore_n (pc := 1) (lv' := [(1, .int (0 : Int32)), (0, .ref (gad G 0))]) E dX7_image_1 rfl (by decide) rfl ?_
  obtain ⟨o3, hl4, hf⟩ := bind_some hf
  refine x_sub [1, 0] rfl (l_X7_image_2 G    E FU _ _ o3 hl4 ?_)
  refine x_iconst (pc := 41) (v := (0 : Int32)) E dX7_image_41 rfl ?_
  refine x_istore_n (pc := 42) (lv' := [(1, .int (0 : Int32)), (0, .ref (gad G 0))]) E dX7_image_42 rfl (by decide) rfl ?_
  obtain ⟨o6, hl7, hf⟩ := bind_some hf
  refine x_sub [1, 0] rfl (l_X7_image_43 G    E FU _ _ o6 hl7 ?_)
  refine x_aload_n 0 (pc := 69) (i := 0) E dX7_image_69 rfl rfl ?_
  refine x_aload_n 0 (pc := 70) (i := 0) E dX7_image_70 rfl rfl ?_
  refine x_getI (pc := 71) (p := 6) E rfl (Nat.le_of_ble_eq_true rfl) rfl inlX7 (by decide) rfl wq_164 dX7_image_71 ?_
  refine x_put (pc := 74) (p := 35) E rfl (Nat.le_of_ble_eq_true rfl) rfl inlX7 tyX7_ok nmX7 (by decide) rfl rfl rfl rfl wq_919 dX7_image_74 hf (fun σ8 hf => ?_)
  refine x_aload_n 0 (pc := 77) (i := 0) E dX7_image_77 rfl rfl ?_
  refine x_iconst (pc := 78) (v := (1 : Int32)) E dX7_image_78 rfl ?_
  refine x_putZ (pc := 79) (p := 34) E rfl (Nat.le_of_ble_eq_true rfl) rfl inlX7 tyX7_ok nmX7 (by decide) rfl rfl rfl wq_920 dX7_image_79 hf (fun σ9 hf => ?_)
  refine x_aload_n 0 (pc := 82) (i := 0) E dX7_image_82 rfl rfl ?_
  refine x_getI (pc := 83) (p := 6) E rfl (Nat.le_of_ble_eq_true rfl) rfl inlX7 (by decide) rfl wq_164 dX7_image_83 ?_
  obtain ⟨rfl, rfl⟩ := Prod.mk.inj (Option.some.inj hf)
  exact x_iret (pc := 86) E hR dX7_image_86
set_option maxHeartbeats 4000000 in
set_option maxRecDepth 100000 in
theorem l_X7_restore_16 (G : Gx) {K : Kx}    (E : OKc 21 cX7_restore 2 RX7 G K) : ∀ (m : Nat) (v1 : Int32) (σ : MM) (out : MM), loopN (fun s => g_X7_restore_16 s.1 s.2) m (v1, σ) = some out → XJ shM 21 2 rm_X7_restore G K out [(0, .ref (gad G 0))] 55 [] → XJ shM 21 2 rm_X7_restore G K σ [(0, .ref (gad G 0)), (1, .int v1)] 16 [] := by
  intro m
  induction m with
  | zero => intro v1 σ out hf; exact (loopN_0 hf).elim
  | succ m ih =>
    intro v1 σ out hf hk
    obtain ⟨q, hf, h2⟩ := loopN_s hf
    have hf : g_X7_restore_16 v1 σ = some q := hf
    unfold g_X7_restore_16 at hf
    refine x_iload_n 1 (pc := 16) (i := 1) E dX7_restore_16 rfl rfl ?_
    refine x_bipush (pc := 17) (v := (12 : Int32)) E dX7_restore_17 rfl ?_
    refine x_icmp_ge (pc := 19) (tgt := 55) E dX7_restore_19 (by decide) hf (fun hf => ?_) (fun hf => ?_)
    · obtain rfl := Option.some.inj hf
      obtain rfl := lpk_r h2
      exact x_sub [0] rfl hk
    · refine x_aload_n 0 (pc := 22) (i := 0) E dX7_restore_22 rfl rfl ?_
      refine x_getR (pc := 23) (r := 2) (p := 1) E rfl (Nat.le_of_ble_eq_true rfl) rfl inlX7 (by decide) rfl wq_99 dX7_restore_23 ?_
      refine x_iload_n 1 (pc := 26) (i := 1) E dX7_restore_26 rfl rfl ?_
      refine x_aload_n 0 (pc := 27) (i := 0) E dX7_restore_27 rfl rfl ?_
      refine x_getR (pc := 28) (r := 20) (p := 33) E rfl (Nat.le_of_ble_eq_true rfl) rfl inlX7 (by decide) rfl wq_119 dX7_restore_28 ?_
      refine x_iload_n 1 (pc := 31) (i := 1) E dX7_restore_31 rfl rfl ?_
      refine x_iaload (pc := 32) E rfl (Nat.le_of_ble_eq_true rfl) dX7_restore_32 hf (fun hf => ?_)
      refine x_iastore (pc := 33) E rfl (Nat.le_of_ble_eq_true rfl) dX7_restore_33 hf (fun σ1 hf => ?_)
      refine x_aload_n 0 (pc := 34) (i := 0) E dX7_restore_34 rfl rfl ?_
      refine x_getR (pc := 35) (r := 3) (p := 2) E rfl (Nat.le_of_ble_eq_true rfl) rfl inlX7 (by decide) rfl wq_100 dX7_restore_35 ?_
      refine x_iload_n 1 (pc := 38) (i := 1) E dX7_restore_38 rfl rfl ?_
      refine x_aload_n 0 (pc := 39) (i := 0) E dX7_restore_39 rfl rfl ?_
      refine x_getR (pc := 40) (r := 20) (p := 33) E rfl (Nat.le_of_ble_eq_true rfl) rfl inlX7 (by decide) rfl wq_119 dX7_restore_40 ?_
      refine x_bipush (pc := 43) (v := (12 : Int32)) E dX7_restore_43 rfl ?_
      refine x_iload_n 1 (pc := 45) (i := 1) E dX7_restore_45 rfl rfl ?_
      refine x_iadd (pc := 46) E dX7_restore_46 ?_
      refine x_iaload (pc := 47) E rfl (Nat.le_of_ble_eq_true rfl) dX7_restore_47 hf (fun hf => ?_)
      refine x_iastore (pc := 48) E rfl (Nat.le_of_ble_eq_true rfl) dX7_restore_48 hf (fun σ2 hf => ?_)
      refine x_iinc 1 (pc := 49) (v := v1 + 1) (lv' := [(1, .int (v1 + 1)), (0, .ref (gad G 0))]) E dX7_restore_49 rfl rfl (by decide) rfl ?_
      refine x_goto (pc := 52) (tgt := 16) E dX7_restore_52 (by decide) ?_
      obtain rfl := Option.some.inj hf
      exact x_sub [1, 0] rfl (ih _ _ _ (lpk_l h2) hk)
set_option maxHeartbeats 4000000 in
set_option maxRecDepth 100000 in
theorem l_X7_restore_57 (G : Gx) {K : Kx}    (E : OKc 21 cX7_restore 2 RX7 G K) : ∀ (m : Nat) (v1 : Int32) (σ : MM) (out : MM), loopN (fun s => g_X7_restore_57 s.1 s.2) m (v1, σ) = some out → XJ shM 21 2 rm_X7_restore G K out [(0, .ref (gad G 0))] 83 [] → XJ shM 21 2 rm_X7_restore G K σ [(0, .ref (gad G 0)), (1, .int v1)] 57 [] := by
  intro m
  induction m with
  | zero => intro v1 σ out hf; exact (loopN_0 hf).elim
  | succ m ih =>
    intro v1 σ out hf hk
    obtain ⟨q, hf, h2⟩ := loopN_s hf
    have hf : g_X7_restore_57 v1 σ = some q := hf
    unfold g_X7_restore_57 at hf
    refine x_iload_n 1 (pc := 57) (i := 1) E dX7_restore_57 rfl rfl ?_
    refine x_iconst (pc := 58) (v := (5 : Int32)) E dX7_restore_58 rfl ?_
    refine x_icmp_ge (pc := 59) (tgt := 83) E dX7_restore_59 (by decide) hf (fun hf => ?_) (fun hf => ?_)
    · obtain rfl := Option.some.inj hf
      obtain rfl := lpk_r h2
      exact x_sub [0] rfl hk
    · refine x_aload_n 0 (pc := 62) (i := 0) E dX7_restore_62 rfl rfl ?_
      refine x_getR (pc := 63) (r := 4) (p := 3) E rfl (Nat.le_of_ble_eq_true rfl) rfl inlX7 (by decide) rfl wq_101 dX7_restore_63 ?_
      refine x_iload_n 1 (pc := 66) (i := 1) E dX7_restore_66 rfl rfl ?_
      refine x_aload_n 0 (pc := 67) (i := 0) E dX7_restore_67 rfl rfl ?_
      refine x_getR (pc := 68) (r := 20) (p := 33) E rfl (Nat.le_of_ble_eq_true rfl) rfl inlX7 (by decide) rfl wq_119 dX7_restore_68 ?_
      refine x_bipush (pc := 71) (v := (24 : Int32)) E dX7_restore_71 rfl ?_
      refine x_iload_n 1 (pc := 73) (i := 1) E dX7_restore_73 rfl rfl ?_
      refine x_iadd (pc := 74) E dX7_restore_74 ?_
      refine x_iaload (pc := 75) E rfl (Nat.le_of_ble_eq_true rfl) dX7_restore_75 hf (fun hf => ?_)
      refine x_iastore (pc := 76) E rfl (Nat.le_of_ble_eq_true rfl) dX7_restore_76 hf (fun σ5 hf => ?_)
      refine x_iinc 1 (pc := 77) (v := v1 + 1) (lv' := [(1, .int (v1 + 1)), (0, .ref (gad G 0))]) E dX7_restore_77 rfl rfl (by decide) rfl ?_
      refine x_goto (pc := 80) (tgt := 57) E dX7_restore_80 (by decide) ?_
      obtain rfl := Option.some.inj hf
      exact x_sub [1, 0] rfl (ih _ _ _ (lpk_l h2) hk)
set_option maxHeartbeats 4000000 in
set_option maxRecDepth 100000 in
theorem c_X7_restore (G : Gx) (σ : MM) (r : Int32) (σ' : MM) (hf : f_X7_restore σ = some (r, σ')) : Ct shM 21 yX7_restore cX7_restore 2 (some .int) rm_X7_restore G [.ref (gad G 0)] σ (some (.int r)) σ' := by
  refine ct_of (by decide) (Nat.le_of_ble_eq_true rfl) (fun K E hR => ?_)
  have E : OKc 21 cX7_restore 2 RX7 G K := E
  show XJ shM 21 2 rm_X7_restore G K σ [(0, .ref (gad G 0))] 0 []
  unfold f_X7_restore at hf
  refine x_aload_n 0 (pc := 0) (i := 0) E dX7_restore_0 rfl rfl ?_
  refine x_getI (pc := 1) (p := 34) E rfl (Nat.le_of_ble_eq_true rfl) rfl inlX7 (by decide) rfl wq_920 dX7_restore_1 ?_
  refine x_if_ne (y := 0) (pc := 4) (tgt := 14) E dX7_restore_4 (by decide) hf (fun hf => ?_) (fun hf => ?_)
  · refine x_iconst (pc := 14) (v := (0 : Int32)) E dX7_restore_14 rfl ?_
    refine x_istore_n (pc := 15) (lv' := [(1, .int (0 : Int32)), (0, .ref (gad G 0))]) E dX7_restore_15 rfl (by decide) rfl ?_
    obtain ⟨o3, hl4, hf⟩ := bind_some hf
    refine x_sub [1, 0] rfl (l_X7_restore_16 G    E FU _ _ o3 hl4 ?_)
    refine x_iconst (pc := 55) (v := (0 : Int32)) E dX7_restore_55 rfl ?_
    refine x_istore_n (pc := 56) (lv' := [(1, .int (0 : Int32)), (0, .ref (gad G 0))]) E dX7_restore_56 rfl (by decide) rfl ?_
    obtain ⟨o6, hl7, hf⟩ := bind_some hf
    refine x_sub [1, 0] rfl (l_X7_restore_57 G    E FU _ _ o6 hl7 ?_)
    refine x_aload_n 0 (pc := 83) (i := 0) E dX7_restore_83 rfl rfl ?_
    refine x_aload_n 0 (pc := 84) (i := 0) E dX7_restore_84 rfl rfl ?_
    refine x_getI (pc := 85) (p := 35) E rfl (Nat.le_of_ble_eq_true rfl) rfl inlX7 (by decide) rfl wq_919 dX7_restore_85 ?_
    refine x_put (pc := 88) (p := 6) E rfl (Nat.le_of_ble_eq_true rfl) rfl inlX7 tyX7_ok nmX7 (by decide) rfl rfl rfl rfl wq_164 dX7_restore_88 hf (fun σ8 hf => ?_)
    refine x_aload_n 0 (pc := 91) (i := 0) E dX7_restore_91 rfl rfl ?_
    refine x_getI (pc := 92) (p := 6) E rfl (Nat.le_of_ble_eq_true rfl) rfl inlX7 (by decide) rfl wq_164 dX7_restore_92 ?_
    obtain ⟨rfl, rfl⟩ := Prod.mk.inj (Option.some.inj hf)
    exact x_iret (pc := 95) E hR dX7_restore_95
  · refine x_aload_n 0 (pc := 7) (i := 0) E dX7_restore_7 rfl rfl ?_
    refine x_bipush (pc := 8) (v := (-3 : Int32)) E dX7_restore_8 rfl ?_
    refine x_callVwi (pc := 10) (na := 1) (As := [.int (-3 : Int32)]) E (c_X7_no G (-3 : Int32) σ) rfl (Nat.le_of_ble_eq_true rfl) rfl wq_151 wq_5 wq_148 wq_149 wq_150 rfl rfl (by decide) ⟨Nat.le_of_ble_eq_true rfl, Nat.le_of_ble_eq_true rfl⟩ rfl rfl (Nat.le_of_ble_eq_true rfl) dX7_restore_10 hf (fun r9 σ10 hf => ?_)
    obtain ⟨rfl, rfl⟩ := Prod.mk.inj (Option.some.inj hf)
    exact x_iret (pc := 13) E hR dX7_restore_13
set_option maxHeartbeats 4000000 in
set_option maxRecDepth 100000 in
theorem l_X7_count_102 (G : Gx) {K : Kx}   (v1 : Int32) (σ : MM) (E : OKc 21 cX7_count 4 RX7 G K) : ∀ (m : Nat) (v2 : Int32) (v3 : Int32) (out : Int32), loopN (fun s => g_X7_count_102 v1 s.1 s.2 σ) m (v2, v3) = some out → XJ shM 21 4 rm_X7_count G K σ [(2, .int out)] 136 [] → XJ shM 21 4 rm_X7_count G K σ [(0, .ref (gad G 0)), (1, .int v1), (2, .int v2), (3, .int v3)] 102 [] := by
  intro m
  induction m with
  | zero => intro v2 v3 out hf; exact (loopN_0 hf).elim
  | succ m ih =>
    intro v2 v3 out hf hk
    obtain ⟨q, hf, h2⟩ := loopN_s hf
    have hf : g_X7_count_102 v1 v2 v3 σ = some q := hf
    unfold g_X7_count_102 at hf
    refine x_iload_n 3 (pc := 102) (i := 3) E dX7_count_102 rfl rfl ?_
    refine x_aload_n 0 (pc := 103) (i := 0) E dX7_count_103 rfl rfl ?_
    refine x_getI (pc := 104) (p := 6) E rfl (Nat.le_of_ble_eq_true rfl) rfl inlX7 (by decide) rfl wq_164 dX7_count_104 ?_
    refine x_icmp_ge (pc := 107) (tgt := 136) E dX7_count_107 (by decide) hf (fun hf => ?_) (fun hf => ?_)
    · obtain rfl := Option.some.inj hf
      obtain rfl := lpk_r h2
      exact x_sub [2] rfl hk
    · refine x_iload_n 2 (pc := 110) (i := 2) E dX7_count_110 rfl rfl ?_
      refine x_aload_n 0 (pc := 111) (i := 0) E dX7_count_111 rfl rfl ?_
      refine x_getR (pc := 112) (r := 3) (p := 2) E rfl (Nat.le_of_ble_eq_true rfl) rfl inlX7 (by decide) rfl wq_100 dX7_count_112 ?_
      refine x_iload_n 3 (pc := 115) (i := 3) E dX7_count_115 rfl rfl ?_
      refine x_iaload (pc := 116) E rfl (Nat.le_of_ble_eq_true rfl) dX7_count_116 hf (fun hf => ?_)
      refine x_iload_n 1 (pc := 117) (i := 1) E dX7_count_117 rfl rfl ?_
      refine x_iconst (pc := 118) (v := (4 : Int32)) E dX7_count_118 rfl ?_
      refine x_isub (pc := 119) E dX7_count_119 ?_
      refine x_icmp_ne (pc := 120) (tgt := 127) E dX7_count_120 (by decide) hf (fun hf => ?_) (fun hf => ?_)
      · refine x_iconst (pc := 127) (v := (0 : Int32)) E dX7_count_127 rfl ?_
        refine x_iadd (pc := 128) E dX7_count_128 ?_
        refine x_istore_n (pc := 129) (lv' := [(2, .int (v2 + (0 : Int32))), (0, .ref (gad G 0)), (1, .int v1), (3, .int v3)]) E dX7_count_129 rfl (by decide) rfl ?_
        refine x_iinc 3 (pc := 130) (v := v3 + 1) (lv' := [(3, .int (v3 + 1)), (2, .int (v2 + (0 : Int32))), (0, .ref (gad G 0)), (1, .int v1)]) E dX7_count_130 rfl rfl (by decide) rfl ?_
        refine x_goto (pc := 133) (tgt := 102) E dX7_count_133 (by decide) ?_
        obtain rfl := Option.some.inj hf
        exact x_sub [2, 3, 1, 0] rfl (ih _ _ _ (lpk_l h2) hk)
      · refine x_iconst (pc := 123) (v := (1 : Int32)) E dX7_count_123 rfl ?_
        refine x_goto (pc := 124) (tgt := 128) E dX7_count_124 (by decide) ?_
        refine x_iadd (pc := 128) E dX7_count_128 ?_
        refine x_istore_n (pc := 129) (lv' := [(2, .int (v2 + (1 : Int32))), (0, .ref (gad G 0)), (1, .int v1), (3, .int v3)]) E dX7_count_129 rfl (by decide) rfl ?_
        refine x_iinc 3 (pc := 130) (v := v3 + 1) (lv' := [(3, .int (v3 + 1)), (2, .int (v2 + (1 : Int32))), (0, .ref (gad G 0)), (1, .int v1)]) E dX7_count_130 rfl rfl (by decide) rfl ?_
        refine x_goto (pc := 133) (tgt := 102) E dX7_count_133 (by decide) ?_
        obtain rfl := Option.some.inj hf
        exact x_sub [2, 3, 1, 0] rfl (ih _ _ _ (lpk_l h2) hk)
set_option maxHeartbeats 4000000 in
set_option maxRecDepth 100000 in
theorem c_X7_count (G : Gx) (v1 : Int32) (σ : MM) (r : Int32) (hf : f_X7_count v1 σ = some r) : Ct shM 21 yX7_count cX7_count 4 (some .int) rm_X7_count G [.ref (gad G 0), .int v1] σ (some (.int r)) σ := by
  refine ct_of (by decide) (Nat.le_of_ble_eq_true rfl) (fun K E hR => ?_)
  have E : OKc 21 cX7_count 4 RX7 G K := E
  show XJ shM 21 4 rm_X7_count G K σ [(0, .ref (gad G 0)), (1, .int v1)] 0 []
  unfold f_X7_count at hf
  refine x_iload_n 1 (pc := 0) (i := 1) E dX7_count_0 rfl rfl ?_
  refine x_bipush (pc := 1) (v := (11 : Int32)) E dX7_count_1 rfl ?_
  refine x_bipush (pc := 3) (v := (16 : Int32)) E dX7_count_3 rfl ?_
  refine x_callSri (pc := 5) (na := 3) (As := [.int v1, .int (11 : Int32), .int (16 : Int32)]) E (c_X7_isIn G v1 (11 : Int32) (16 : Int32) σ) wq_185 wq_5 wq_183 wq_184 rfl rfl (by decide) ⟨Nat.le_of_ble_eq_true rfl, Nat.le_of_ble_eq_true rfl⟩ rfl rfl (Nat.le_of_ble_eq_true rfl) dX7_count_5 hf (fun r1 hf => ?_)
  refine x_if_eq (y := 0) (pc := 8) (tgt := 21) E dX7_count_8 (by decide) hf (fun hf => ?_) (fun hf => ?_)
  · refine x_iconst (pc := 21) (v := (0 : Int32)) E dX7_count_21 rfl ?_
    refine x_istore_n (pc := 22) (lv' := [(2, .int (0 : Int32)), (0, .ref (gad G 0)), (1, .int v1)]) E dX7_count_22 rfl (by decide) rfl ?_
    refine x_iload_n 2 (pc := 23) (i := 1) E dX7_count_23 rfl rfl ?_
    refine x_swIf hf (fun hc hf => ?_) (fun hc0 hf => ?_)
    · refine x_swIn (pc := 24) (tgt := 56) (off := 32) E dX7_count_24 (by rw [hc]; decide) (by rw [hc]; decide) (by rw [hc]; decide) (by decide) ?_
      refine x_aload_n 1 (pc := 56) (i := 0) E dX7_count_56 rfl rfl ?_
      refine x_getI (pc := 57) (p := 6) E rfl (Nat.le_of_ble_eq_true rfl) rfl inlX7 (by decide) rfl wq_164 dX7_count_57 ?_
      obtain rfl := Option.some.inj hf
      exact x_iret (pc := 60) E hR dX7_count_60
    refine x_swIf hf (fun hc hf => ?_) (fun hc1 hf => ?_)
    · refine x_swIn (pc := 24) (tgt := 61) (off := 37) E dX7_count_24 (by rw [hc]; decide) (by rw [hc]; decide) (by rw [hc]; decide) (by decide) ?_
      refine x_aload_n 1 (pc := 61) (i := 0) E dX7_count_61 rfl rfl ?_
      refine x_callVri (pc := 62) (na := 0) (As := []) E (c_X7_isEnough G σ) rfl (Nat.le_of_ble_eq_true rfl) rfl wq_516 wq_5 wq_513 wq_514 wq_515 rfl rfl (by decide) ⟨Nat.le_of_ble_eq_true rfl, Nat.le_of_ble_eq_true rfl⟩ rfl rfl (Nat.le_of_ble_eq_true rfl) dX7_count_62 hf (fun r2 hf => ?_)
      refine x_if_eq (y := 0) (pc := 65) (tgt := 75) E dX7_count_65 (by decide) hf (fun hf => ?_) (fun hf => ?_)
      · refine x_iconst (pc := 75) (v := (0 : Int32)) E dX7_count_75 rfl ?_
        obtain rfl := Option.some.inj hf
        exact x_iret (pc := 76) E hR dX7_count_76
      · refine x_aload_n 1 (pc := 68) (i := 0) E dX7_count_68 rfl rfl ?_
        refine x_callVri (pc := 69) (na := 0) (As := []) E (c_X7_calledMany G σ) rfl (Nat.le_of_ble_eq_true rfl) rfl wq_520 wq_5 wq_517 wq_518 wq_519 rfl rfl (by decide) ⟨Nat.le_of_ble_eq_true rfl, Nat.le_of_ble_eq_true rfl⟩ rfl rfl (Nat.le_of_ble_eq_true rfl) dX7_count_69 hf (fun r3 hf => ?_)
        refine x_goto (pc := 72) (tgt := 76) E dX7_count_72 (by decide) ?_
        obtain rfl := Option.some.inj hf
        exact x_iret (pc := 76) E hR dX7_count_76
    refine x_swIf hf (fun hc hf => ?_) (fun hc2 hf => ?_)
    · refine x_swIn (pc := 24) (tgt := 77) (off := 53) E dX7_count_24 (by rw [hc]; decide) (by rw [hc]; decide) (by rw [hc]; decide) (by decide) ?_
      refine x_aload_n 1 (pc := 77) (i := 0) E dX7_count_77 rfl rfl ?_
      refine x_getI (pc := 78) (p := 8) E rfl (Nat.le_of_ble_eq_true rfl) rfl inlX7 (by decide) rfl wq_201 dX7_count_78 ?_
      obtain rfl := Option.some.inj hf
      exact x_iret (pc := 81) E hR dX7_count_81
    refine x_swIf hf (fun hc hf => ?_) (fun hc3 hf => ?_)
    · refine x_swIn (pc := 24) (tgt := 82) (off := 58) E dX7_count_24 (by rw [hc]; decide) (by rw [hc]; decide) (by rw [hc]; decide) (by decide) ?_
      refine x_aload_n 1 (pc := 82) (i := 0) E dX7_count_82 rfl rfl ?_
      refine x_getI (pc := 83) (p := 19) E rfl (Nat.le_of_ble_eq_true rfl) rfl inlX7 (by decide) rfl wq_556 dX7_count_83 ?_
      obtain rfl := Option.some.inj hf
      exact x_iret (pc := 86) E hR dX7_count_86
    refine x_swOut (pc := 24) (tgt := 87) E dX7_count_24 (by decide) (sw_d [(0 : Int32), (1 : Int32), (2 : Int32), (3 : Int32)] (by decide) (by decide) (by simp only [List.mem_cons, List.not_mem_nil, or_false, not_or]; exact ⟨hc0, hc1, hc2, hc3⟩)) ?_
    refine x_iload_n 2 (pc := 87) (i := 1) E dX7_count_87 rfl rfl ?_
    refine x_iconst (pc := 88) (v := (4 : Int32)) E dX7_count_88 rfl ?_
    refine x_bipush (pc := 89) (v := (9 : Int32)) E dX7_count_89 rfl ?_
    refine x_callSri (pc := 91) (na := 3) (As := [.int v1, .int (4 : Int32), .int (9 : Int32)]) E (c_X7_isIn G v1 (4 : Int32) (9 : Int32) σ) wq_185 wq_5 wq_183 wq_184 rfl rfl (by decide) ⟨Nat.le_of_ble_eq_true rfl, Nat.le_of_ble_eq_true rfl⟩ rfl rfl (Nat.le_of_ble_eq_true rfl) dX7_count_91 hf (fun r4 hf => ?_)
    refine x_if_ne (y := 0) (pc := 94) (tgt := 100) E dX7_count_94 (by decide) hf (fun hf => ?_) (fun hf => ?_)
    · refine x_iconst (pc := 100) (v := (0 : Int32)) E dX7_count_100 rfl ?_
      refine x_istore_n (pc := 101) (lv' := [(3, .int (0 : Int32)), (2, .int (0 : Int32)), (0, .ref (gad G 0)), (1, .int v1)]) E dX7_count_101 rfl (by decide) rfl ?_
      obtain ⟨o5, hl6, hf⟩ := bind_some hf
      refine x_sub [2, 3, 1, 0] rfl (l_X7_count_102 G   v1 σ E FU _ _ o5 hl6 ?_)
      refine x_iload_n 0 (pc := 136) (i := 2) E dX7_count_136 rfl rfl ?_
      obtain rfl := Option.some.inj hf
      exact x_iret (pc := 137) E hR dX7_count_137
    · refine x_bipush (pc := 97) (v := (-9 : Int32)) E dX7_count_97 rfl ?_
      obtain rfl := Option.some.inj hf
      exact x_iret (pc := 99) E hR dX7_count_99
  · refine x_aload_n 0 (pc := 11) (i := 0) E dX7_count_11 rfl rfl ?_
    refine x_getR (pc := 12) (r := 1) (p := 0) E rfl (Nat.le_of_ble_eq_true rfl) rfl inlX7 (by decide) rfl wq_98 dX7_count_12 ?_
    refine x_iload_n 1 (pc := 15) (i := 1) E dX7_count_15 rfl rfl ?_
    refine x_bipush (pc := 16) (v := (10 : Int32)) E dX7_count_16 rfl ?_
    refine x_isub (pc := 18) E dX7_count_18 ?_
    refine x_iaload (pc := 19) E rfl (Nat.le_of_ble_eq_true rfl) dX7_count_19 hf (fun hf => ?_)
    obtain rfl := Option.some.inj hf
    exact x_iret (pc := 20) E hR dX7_count_20
