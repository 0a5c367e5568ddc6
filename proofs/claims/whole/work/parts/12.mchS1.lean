set_option maxHeartbeats 4000000 in
set_option maxRecDepth 100000 in
theorem c_X6_isSort (G : Gx) (v0 : Int32) (σ : MM) (r : Int32) (hf : f_X6_isSort v0 σ = some r) : Ct shS 56 yX6_isSort cX6_isSort 1 (some .boolean) rm_X6_isSort G [.int v0] σ (some (.int r)) σ := by
  refine ct_of (by decide) (Nat.le_of_ble_eq_true rfl) (fun K E hR => ?_)
  have E : OKc 56 cX6_isSort 1 RX6 G K := E
  show XJ shS 56 1 rm_X6_isSort G K σ [(0, .int v0)] 0 []
  unfold f_X6_isSort at hf
  refine x_iload_n 0 (pc := 0) (i := 0) E dX6_isSort_0 rfl rfl ?_
  refine x_if_lt (y := 0) (pc := 1) (tgt := 14) E dX6_isSort_1 (by decide) hf (fun hf => ?_) (fun hf => ?_)
  · refine x_iconst (pc := 14) (v := (0 : Int32)) E dX6_isSort_14 rfl ?_
    obtain ⟨hz, hf⟩ := chk_some hf
    obtain rfl := Option.some.inj hf
    exact x_zret (pc := 15) E hR (isB_nar hz) dX6_isSort_15
  · refine x_iload_n 0 (pc := 4) (i := 0) E dX6_isSort_4 rfl rfl ?_
    refine x_bipush (pc := 5) (v := (6 : Int32)) E dX6_isSort_5 rfl ?_
    refine x_icmp_ge (pc := 7) (tgt := 14) E dX6_isSort_7 (by decide) hf (fun hf => ?_) (fun hf => ?_)
    · refine x_iconst (pc := 14) (v := (0 : Int32)) E dX6_isSort_14 rfl ?_
      obtain ⟨hz, hf⟩ := chk_some hf
      obtain rfl := Option.some.inj hf
      exact x_zret (pc := 15) E hR (isB_nar hz) dX6_isSort_15
    · refine x_iconst (pc := 10) (v := (1 : Int32)) E dX6_isSort_10 rfl ?_
      refine x_goto (pc := 11) (tgt := 15) E dX6_isSort_11 (by decide) ?_
      obtain ⟨hz, hf⟩ := chk_some hf
      obtain rfl := Option.some.inj hf
      exact x_zret (pc := 15) E hR (isB_nar hz) dX6_isSort_15
set_option maxHeartbeats 4000000 in
set_option maxRecDepth 100000 in
theorem c_X6_leansRefusal (G : Gx) (v0 : Int32) (v1 : Int32) (v2 : Int32) (σ : MM) (r : Int32) (hf : f_X6_leansRefusal v0 v1 v2 σ = some r) : Ct shS 56 yX6_leansRefusal cX6_leansRefusal 3 (some .int) rm_X6_leansRefusal G [.int v0, .int v1, .int v2] σ (some (.int r)) σ := by
  refine ct_of (by decide) (Nat.le_of_ble_eq_true rfl) (fun K E hR => ?_)
  have E : OKc 56 cX6_leansRefusal 3 RX6 G K := E
  show XJ shS 56 3 rm_X6_leansRefusal G K σ [(0, .int v0), (1, .int v1), (2, .int v2)] 0 []
  unfold f_X6_leansRefusal at hf
  refine x_iload_n 0 (pc := 0) (i := 0) E dX6_leansRefusal_0 rfl rfl ?_
  refine x_callSri (pc := 1) (na := 1) (As := [.int v0]) E (c_X6_isSort G v0 σ) wq_129 wq_2 wq_127 wq_128 rfl rfl (by decide) ⟨Nat.le_of_ble_eq_true rfl, Nat.le_of_ble_eq_true rfl⟩ rfl rfl (Nat.le_of_ble_eq_true rfl) dX6_leansRefusal_1 hf (fun r1 hf => ?_)
  refine x_if_ne (y := 0) (pc := 4) (tgt := 9) E dX6_leansRefusal_4 (by decide) hf (fun hf => ?_) (fun hf => ?_)
  · refine x_iload_n 1 (pc := 9) (i := 1) E dX6_leansRefusal_9 rfl rfl ?_
    refine x_if_lt (y := 0) (pc := 10) (tgt := 17) E dX6_leansRefusal_10 (by decide) hf (fun hf => ?_) (fun hf => ?_)
    · refine x_bipush (pc := 17) (v := (-4 : Int32)) E dX6_leansRefusal_17 rfl ?_
      obtain rfl := Option.some.inj hf
      exact x_iret (pc := 19) E hR dX6_leansRefusal_19
    · refine x_iload_n 2 (pc := 13) (i := 2) E dX6_leansRefusal_13 rfl rfl ?_
      refine x_if_ge (y := 0) (pc := 14) (tgt := 20) E dX6_leansRefusal_14 (by decide) hf (fun hf => ?_) (fun hf => ?_)
      · refine x_iload_n 1 (pc := 20) (i := 1) E dX6_leansRefusal_20 rfl rfl ?_
        refine x_bipush (pc := 21) (v := (100 : Int32)) E dX6_leansRefusal_21 rfl ?_
        refine x_icmp_gt (pc := 23) (tgt := 32) E dX6_leansRefusal_23 (by decide) hf (fun hf => ?_) (fun hf => ?_)
        · refine x_bipush (pc := 32) (v := (-6 : Int32)) E dX6_leansRefusal_32 rfl ?_
          refine x_goto (pc := 34) (tgt := 38) E dX6_leansRefusal_34 (by decide) ?_
          obtain rfl := Option.some.inj hf
          exact x_iret (pc := 38) E hR dX6_leansRefusal_38
        · refine x_iload_n 2 (pc := 26) (i := 2) E dX6_leansRefusal_26 rfl rfl ?_
          refine x_bipush (pc := 27) (v := (100 : Int32)) E dX6_leansRefusal_27 rfl ?_
          refine x_icmp_le (pc := 29) (tgt := 37) E dX6_leansRefusal_29 (by decide) hf (fun hf => ?_) (fun hf => ?_)
          · refine x_iconst (pc := 37) (v := (0 : Int32)) E dX6_leansRefusal_37 rfl ?_
            obtain rfl := Option.some.inj hf
            exact x_iret (pc := 38) E hR dX6_leansRefusal_38
          · refine x_bipush (pc := 32) (v := (-6 : Int32)) E dX6_leansRefusal_32 rfl ?_
            refine x_goto (pc := 34) (tgt := 38) E dX6_leansRefusal_34 (by decide) ?_
            obtain rfl := Option.some.inj hf
            exact x_iret (pc := 38) E hR dX6_leansRefusal_38
      · refine x_bipush (pc := 17) (v := (-4 : Int32)) E dX6_leansRefusal_17 rfl ?_
        obtain rfl := Option.some.inj hf
        exact x_iret (pc := 19) E hR dX6_leansRefusal_19
  · refine x_iconst (pc := 7) (v := (-1 : Int32)) E dX6_leansRefusal_7 rfl ?_
    obtain rfl := Option.some.inj hf
    exact x_iret (pc := 8) E hR dX6_leansRefusal_8
set_option maxHeartbeats 4000000 in
set_option maxRecDepth 100000 in
theorem c_X6_refuse (G : Gx) (v1 : Int32) (σ : MM) (r : Int32) (σ' : MM) (hf : f_X6_refuse v1 σ = some (r, σ')) : Ct shS 56 yX6_refuse cX6_refuse 2 (some .int) rm_X6_refuse G [.ref (gad G 0), .int v1] σ (some (.int r)) σ' := by
  refine ct_of (by decide) (Nat.le_of_ble_eq_true rfl) (fun K E hR => ?_)
  have E : OKc 56 cX6_refuse 2 RX6 G K := E
  show XJ shS 56 2 rm_X6_refuse G K σ [(0, .ref (gad G 0)), (1, .int v1)] 0 []
  unfold f_X6_refuse at hf
  refine x_aload_n 0 (pc := 0) (i := 0) E dX6_refuse_0 rfl rfl ?_
  refine x_getR (pc := 1) (r := 15) (p := 6) E rfl (Nat.le_of_ble_eq_true rfl) rfl inlX6 (by decide) rfl wq_25 dX6_refuse_1 ?_
  refine x_iload_n 1 (pc := 4) (i := 1) E dX6_refuse_4 rfl rfl ?_
  refine x_ineg (pc := 5) E dX6_refuse_5 ?_
  refine x_dup2 (pc := 6) E dX6_refuse_6 rfl rfl ?_
  refine x_iaload (pc := 7) E rfl (Nat.le_of_ble_eq_true rfl) dX6_refuse_7 hf (fun hf => ?_)
  refine x_iconst (pc := 8) (v := (1 : Int32)) E dX6_refuse_8 rfl ?_
  refine x_iadd (pc := 9) E dX6_refuse_9 ?_
  refine x_iastore (pc := 10) E rfl (Nat.le_of_ble_eq_true rfl) dX6_refuse_10 hf (fun σ1 hf => ?_)
  refine x_iload_n 1 (pc := 11) (i := 1) E dX6_refuse_11 rfl rfl ?_
  obtain ⟨rfl, rfl⟩ := Prod.mk.inj (Option.some.inj hf)
  exact x_iret (pc := 12) E hR dX6_refuse_12
set_option maxHeartbeats 4000000 in
set_option maxRecDepth 100000 in
theorem c_X0_needed (G : Gx) (σ : MM) (r : Int32) (hf : f_X0_needed σ = some r) : Ct shS 56 yX0_needed cX0_needed 1 (some .int) rm_X0_needed G [.ref (gad G 1)] σ (some (.int r)) σ := by
  refine ct_of (by decide) (Nat.le_of_ble_eq_true rfl) (fun K E hR => ?_)
  have E : OKc 56 cX0_needed 1 RX0 G K := E
  show XJ shS 56 1 rm_X0_needed G K σ [(0, .ref (gad G 1))] 0 []
  unfold f_X0_needed at hf
  refine x_aload_n 0 (pc := 0) (i := 0) E dX0_needed_0 rfl rfl ?_
  refine x_getR (pc := 1) (r := 5) (p := 3) E rfl (Nat.le_of_ble_eq_true rfl) rfl inlX0 (by decide) rfl wq_50 dX0_needed_1 ?_
  refine x_iconst (pc := 4) (v := (0 : Int32)) E dX0_needed_4 rfl ?_
  refine x_iaload (pc := 5) E rfl (Nat.le_of_ble_eq_true rfl) dX0_needed_5 hf (fun hf => ?_)
  obtain rfl := Option.some.inj hf
  exact x_iret (pc := 6) E hR dX0_needed_6
set_option maxHeartbeats 4000000 in
set_option maxRecDepth 100000 in
theorem l_X2_take_2 (G : Gx) {K : Kx} (b : Nat) (h_b : isMd b)  (E : OKc 56 cX2_take 4 RX2 G K) : ∀ (m : Nat) (v2 : Int32) (σ : MM) (out : MM), loopN (fun s => g_X2_take_2 b s.1 s.2) m (v2, σ) = some out → XJ shS 56 4 rm_X2_take G K out [(0, .ref (gad G b)), (1, .ref (gad G 1))] 47 [] → XJ shS 56 4 rm_X2_take G K σ [(0, .ref (gad G b)), (1, .ref (gad G 1)), (2, .int v2)] 2 [] := by
  obtain ⟨hs_b_0, hs_b_1, hs_b_2, hs_b_3, hs_b_4⟩ := sh_isMd h_b
  obtain ⟨hk_b_0, hk_b_1, hk_b_2, hk_b_3, hk_b_4⟩ := lt_isMd h_b
  intro m
  induction m with
  | zero => intro v2 σ out hf; exact (loopN_0 hf).elim
  | succ m ih =>
    intro v2 σ out hf hk
    obtain ⟨q, hf, h2⟩ := loopN_s hf
    have hf : g_X2_take_2 b v2 σ = some q := hf
    unfold g_X2_take_2 at hf
    refine x_iload_n 2 (pc := 2) (i := 2) E dX2_take_2 rfl rfl ?_
    refine x_aload_n 1 (pc := 3) (i := 1) E dX2_take_3 rfl rfl ?_
    refine x_getIN (pc := 4) (p := 4) E rfl (Nat.le_of_ble_eq_true rfl) rfl inlX0 (by decide) rfl wn_12 dX2_take_4 ?_
    refine x_icmp_ge (pc := 7) (tgt := 47) E dX2_take_7 (by decide) hf (fun hf => ?_) (fun hf => ?_)
    · obtain rfl := Option.some.inj hf
      obtain rfl := lpk_r h2
      exact x_sub [0, 1] rfl hk
    · refine x_aload_n 1 (pc := 10) (i := 1) E dX2_take_10 rfl rfl ?_
      refine x_getRN (pc := 11) (r := 4) (p := 2) E rfl (Nat.le_of_ble_eq_true rfl) rfl inlX0 (by decide) rfl wn_7 dX2_take_11 ?_
      refine x_iload_n 2 (pc := 14) (i := 2) E dX2_take_14 rfl rfl ?_
      refine x_iaload (pc := 15) E rfl (Nat.le_of_ble_eq_true rfl) dX2_take_15 hf (fun hf => ?_)
      refine x_istore_n (pc := 16) (lv' := [(3, .int (σ.1 4 v2.toNatClampNeg)), (0, .ref (gad G b)), (1, .ref (gad G 1)), (2, .int v2)]) E dX2_take_16 rfl (by decide) rfl ?_
      refine x_aload_n 1 (pc := 17) (i := 0) E dX2_take_17 rfl rfl ?_
      refine x_getR (pc := 18) (r := (b + 1)) (p := 0) E hs_b_0 hk_b_0 rfl inlX2 (by decide) rfl wq_60 dX2_take_18 ?_
      refine x_iload_n 3 (pc := 21) (i := 2) E dX2_take_21 rfl rfl ?_
      refine x_aload_n 2 (pc := 22) (i := 1) E dX2_take_22 rfl rfl ?_
      refine x_getRN (pc := 23) (r := 2) (p := 0) E rfl (Nat.le_of_ble_eq_true rfl) rfl inlX0 (by decide) rfl wn_1 dX2_take_23 ?_
      refine x_iload_n 0 (pc := 26) (i := 3) E dX2_take_26 rfl rfl ?_
      refine x_iaload (pc := 27) E rfl (Nat.le_of_ble_eq_true rfl) dX2_take_27 hf (fun hf => ?_)
      refine x_iastore (pc := 28) E hs_b_1 hk_b_1 dX2_take_28 hf (fun σ1 hf => ?_)
      refine x_aload_n 1 (pc := 29) (i := 0) E dX2_take_29 rfl rfl ?_
      refine x_getR (pc := 30) (r := (b + 2)) (p := 1) E hs_b_0 hk_b_0 rfl inlX2 (by decide) rfl wq_61 dX2_take_30 ?_
      refine x_iload_n 3 (pc := 33) (i := 2) E dX2_take_33 rfl rfl ?_
      refine x_aload_n 2 (pc := 34) (i := 1) E dX2_take_34 rfl rfl ?_
      refine x_getRN (pc := 35) (r := 3) (p := 1) E rfl (Nat.le_of_ble_eq_true rfl) rfl inlX0 (by decide) rfl wn_5 dX2_take_35 ?_
      refine x_iload_n 0 (pc := 38) (i := 3) E dX2_take_38 rfl rfl ?_
      refine x_iaload (pc := 39) E rfl (Nat.le_of_ble_eq_true rfl) dX2_take_39 hf (fun hf => ?_)
      refine x_iastore (pc := 40) E hs_b_2 hk_b_2 dX2_take_40 hf (fun σ2 hf => ?_)
      refine x_iinc 3 (pc := 41) (v := v2 + 1) (lv' := [(2, .int (v2 + 1)), (3, .int (σ.1 4 v2.toNatClampNeg)), (0, .ref (gad G b)), (1, .ref (gad G 1))]) E dX2_take_41 rfl rfl (by decide) rfl ?_
      refine x_goto (pc := 44) (tgt := 2) E dX2_take_44 (by decide) ?_
      obtain rfl := Option.some.inj hf
      exact x_sub [2, 3, 0] rfl (ih _ _ _ (lpk_l h2) hk)
set_option maxHeartbeats 4000000 in
set_option maxRecDepth 100000 in
theorem c_X2_take (G : Gx) (b : Nat) (h_b : isMd b) (σ : MM) (σ' : MM) (hf : f_X2_take b σ = some σ') : Ct shS 56 yX2_take cX2_take 4 none rm_X2_take G [.ref (gad G b), .ref (gad G 1)] σ none σ' := by
  obtain ⟨hs_b_0, hs_b_1, hs_b_2, hs_b_3, hs_b_4⟩ := sh_isMd h_b
  obtain ⟨hk_b_0, hk_b_1, hk_b_2, hk_b_3, hk_b_4⟩ := lt_isMd h_b
  refine ct_of (by decide) (Nat.le_of_ble_eq_true rfl) (fun K E hR => ?_)
  have E : OKc 56 cX2_take 4 RX2 G K := E
  show XJ shS 56 4 rm_X2_take G K σ [(0, .ref (gad G b)), (1, .ref (gad G 1))] 0 []
  unfold f_X2_take at hf
  refine x_iconst (pc := 0) (v := (0 : Int32)) E dX2_take_0 rfl ?_
  refine x_istore_n (pc := 1) (lv' := [(2, .int (0 : Int32)), (0, .ref (gad G b)), (1, .ref (gad G 1))]) E dX2_take_1 rfl (by decide) rfl ?_
  obtain ⟨o3, hl4, hf⟩ := bind_some hf
  refine x_sub [1, 2, 0] rfl (l_X2_take_2 G b h_b  E FU _ _ o3 hl4 ?_)
  refine x_aload_n 0 (pc := 47) (i := 0) E dX2_take_47 rfl rfl ?_
  refine x_aload_n 1 (pc := 48) (i := 1) E dX2_take_48 rfl rfl ?_
  refine x_callVNri (pc := 49) (na := 0) (As := []) E (c_X0_needed G o3) rfl (Nat.le_of_ble_eq_true rfl) rfl wq_93 wq_16 wn_23 wq_91 wq_92 rfl rfl (by decide) ⟨Nat.le_of_ble_eq_true rfl, Nat.le_of_ble_eq_true rfl⟩ rfl rfl (Nat.le_of_ble_eq_true rfl) dX2_take_49 hf (fun r5 hf => ?_)
  refine x_put (pc := 52) (p := 4) E hs_b_0 hk_b_0 rfl inlX2 tyX2_ok nmX2 (by decide) rfl rfl rfl rfl wq_88 dX2_take_52 hf (fun σ6 hf => ?_)
  refine x_aload_n 0 (pc := 55) (i := 0) E dX2_take_55 rfl rfl ?_
  refine x_aload_n 1 (pc := 56) (i := 1) E dX2_take_56 rfl rfl ?_
  refine x_getRN (pc := 57) (r := 5) (p := 3) E rfl (Nat.le_of_ble_eq_true rfl) rfl inlX0 (by decide) rfl wn_9 dX2_take_57 ?_
  refine x_iconst (pc := 60) (v := (3 : Int32)) E dX2_take_60 rfl ?_
  refine x_iaload (pc := 61) E rfl (Nat.le_of_ble_eq_true rfl) dX2_take_61 hf (fun hf => ?_)
  refine x_iconst (pc := 62) (v := (1 : Int32)) E dX2_take_62 rfl ?_
  obtain ⟨o7, hf9, hf⟩ := bind_some hf
  have hJ8 : XJ shS 56 4 rm_X2_take G K σ6 [(0, .ref (gad G b)), (1, .ref (gad G 1))] 71 [.int o7, .ref (gad G b)] := by
    refine x_putZ (pc := 71) (p := 5) E hs_b_0 hk_b_0 rfl inlX2 tyX2_ok nmX2 (by decide) rfl rfl rfl wq_89 dX2_take_71 hf (fun σ10 hf => ?_)
    refine x_aload_n 0 (pc := 74) (i := 0) E dX2_take_74 rfl rfl ?_
    refine x_aload_n 1 (pc := 75) (i := 1) E dX2_take_75 rfl rfl ?_
    refine x_getRN (pc := 76) (r := 5) (p := 3) E rfl (Nat.le_of_ble_eq_true rfl) rfl inlX0 (by decide) rfl wn_9 dX2_take_76 ?_
    refine x_iconst (pc := 79) (v := (4 : Int32)) E dX2_take_79 rfl ?_
    refine x_iaload (pc := 80) E rfl (Nat.le_of_ble_eq_true rfl) dX2_take_80 hf (fun hf => ?_)
    refine x_put (pc := 81) (p := 6) E hs_b_0 hk_b_0 rfl inlX2 tyX2_ok nmX2 (by decide) rfl rfl rfl rfl wq_90 dX2_take_81 hf (fun σ11 hf => ?_)
    obtain rfl := Option.some.inj hf
    exact x_vret (pc := 84) E hR dX2_take_84
  refine x_icmp_ne (pc := 63) (tgt := 70) E dX2_take_63 (by decide) hf9 (fun hf9 => ?_) (fun hf9 => ?_)
  · refine x_iconst (pc := 70) (v := (0 : Int32)) E dX2_take_70 rfl ?_
    obtain rfl := Option.some.inj hf9
    exact x_sub [0, 1] rfl hJ8
  · refine x_iconst (pc := 66) (v := (1 : Int32)) E dX2_take_66 rfl ?_
    refine x_goto (pc := 67) (tgt := 71) E dX2_take_67 (by decide) ?_
    obtain rfl := Option.some.inj hf9
    exact x_sub [0, 1] rfl hJ8
set_option maxHeartbeats 4000000 in
set_option maxRecDepth 100000 in
theorem c_X6_changed (G : Gx) (σ : MM) (σ' : MM) (hf : f_X6_changed σ = some σ') : Ct shS 56 yX6_changed cX6_changed 1 none rm_X6_changed G [.ref (gad G 0)] σ none σ' := by
  refine ct_of (by decide) (Nat.le_of_ble_eq_true rfl) (fun K E hR => ?_)
  have E : OKc 56 cX6_changed 1 RX6 G K := E
  show XJ shS 56 1 rm_X6_changed G K σ [(0, .ref (gad G 0))] 0 []
  unfold f_X6_changed at hf
  refine x_aload_n 0 (pc := 0) (i := 0) E dX6_changed_0 rfl rfl ?_
  refine x_getR (pc := 1) (r := 16) (p := 7) E rfl (Nat.le_of_ble_eq_true rfl) rfl inlX6 (by decide) rfl wq_29 dX6_changed_1 ?_
  refine x_aload_n 0 (pc := 4) (i := 0) E dX6_changed_4 rfl rfl ?_
  refine x_getR (pc := 5) (r := 1) (p := 0) E rfl (Nat.le_of_ble_eq_true rfl) rfl inlX6 (by decide) rfl wq_17 dX6_changed_5 ?_
  refine x_callVNwv (pc := 8) (na := 1) (As := [.ref (gad G 1)]) E (c_X2_take G 16 (Or.inl rfl) σ) rfl (Nat.le_of_ble_eq_true rfl) rfl wq_87 wq_28 wn_22 wq_85 wq_86 rfl rfl (by decide) ⟨Nat.le_of_ble_eq_true rfl, Nat.le_of_ble_eq_true rfl⟩ rfl rfl (Nat.le_of_ble_eq_true rfl) dX6_changed_8 hf (fun σ2 hf => ?_)
  refine x_aload_n 0 (pc := 11) (i := 0) E dX6_changed_11 rfl rfl ?_
  refine x_iconst (pc := 12) (v := (0 : Int32)) E dX6_changed_12 rfl ?_
  refine x_putZ (pc := 13) (p := 13) E rfl (Nat.le_of_ble_eq_true rfl) rfl inlX6 tyX6_ok nmX6 (by decide) rfl rfl rfl wq_138 dX6_changed_13 hf (fun σ3 hf => ?_)
  refine x_aload_n 0 (pc := 16) (i := 0) E dX6_changed_16 rfl rfl ?_
  refine x_iconst (pc := 17) (v := (0 : Int32)) E dX6_changed_17 rfl ?_
  refine x_putZ (pc := 18) (p := 14) E rfl (Nat.le_of_ble_eq_true rfl) rfl inlX6 tyX6_ok nmX6 (by decide) rfl rfl rfl wq_139 dX6_changed_18 hf (fun σ4 hf => ?_)
  refine x_aload_n 0 (pc := 21) (i := 0) E dX6_changed_21 rfl rfl ?_
  refine x_iconst (pc := 22) (v := (0 : Int32)) E dX6_changed_22 rfl ?_
  refine x_putZ (pc := 23) (p := 15) E rfl (Nat.le_of_ble_eq_true rfl) rfl inlX6 tyX6_ok nmX6 (by decide) rfl rfl rfl wq_140 dX6_changed_23 hf (fun σ5 hf => ?_)
  obtain rfl := Option.some.inj hf
  exact x_vret (pc := 26) E hR dX6_changed_26
set_option maxHeartbeats 4000000 in
set_option maxRecDepth 100000 in
theorem c_X6_sort (G : Gx) (v1 : Int32) (v2 : Int32) (v3 : Int32) (σ : MM) (r : Int32) (σ' : MM) (hf : f_X6_sort v1 v2 v3 σ = some (r, σ')) : Ct shS 56 yX6_sort cX6_sort 5 (some .int) rm_X6_sort G [.ref (gad G 0), .int v1, .int v2, .int v3] σ (some (.int r)) σ' := by
  refine ct_of (by decide) (Nat.le_of_ble_eq_true rfl) (fun K E hR => ?_)
  have E : OKc 56 cX6_sort 5 RX6 G K := E
  show XJ shS 56 5 rm_X6_sort G K σ [(0, .ref (gad G 0)), (1, .int v1), (2, .int v2), (3, .int v3)] 0 []
  unfold f_X6_sort at hf
  refine x_iload_n 1 (pc := 0) (i := 1) E dX6_sort_0 rfl rfl ?_
  refine x_iload_n 2 (pc := 1) (i := 2) E dX6_sort_1 rfl rfl ?_
  refine x_iload_n 3 (pc := 2) (i := 3) E dX6_sort_2 rfl rfl ?_
  refine x_callSri (pc := 3) (na := 3) (As := [.int v1, .int v2, .int v3]) E (c_X6_leansRefusal G v1 v2 v3 σ) wq_126 wq_2 wq_124 wq_125 rfl rfl (by decide) ⟨Nat.le_of_ble_eq_true rfl, Nat.le_of_ble_eq_true rfl⟩ rfl rfl (Nat.le_of_ble_eq_true rfl) dX6_sort_3 hf (fun r1 hf => ?_)
  refine x_istore (pc := 6) (lv' := [(4, .int r1), (0, .ref (gad G 0)), (1, .int v1), (2, .int v2), (3, .int v3)]) E dX6_sort_6 (by decide) rfl ?_
  refine x_iload 0 (pc := 8) E dX6_sort_8 rfl ?_
  refine x_if_eq (y := 0) (pc := 10) (tgt := 20) E dX6_sort_10 (by decide) hf (fun hf => ?_) (fun hf => ?_)
  · refine x_aload_n 1 (pc := 20) (i := 0) E dX6_sort_20 rfl rfl ?_
    refine x_getR (pc := 21) (r := 1) (p := 0) E rfl (Nat.le_of_ble_eq_true rfl) rfl inlX6 (by decide) rfl wq_17 dX6_sort_21 ?_
    refine x_getRN (pc := 24) (r := 2) (p := 0) E rfl (Nat.le_of_ble_eq_true rfl) rfl inlX0 (by decide) rfl wn_2 dX6_sort_24 ?_
    refine x_iload_n 2 (pc := 27) (i := 1) E dX6_sort_27 rfl rfl ?_
    refine x_iload_n 3 (pc := 28) (i := 2) E dX6_sort_28 rfl rfl ?_
    refine x_iastore (pc := 29) E rfl (Nat.le_of_ble_eq_true rfl) dX6_sort_29 hf (fun σ2 hf => ?_)
    refine x_aload_n 1 (pc := 30) (i := 0) E dX6_sort_30 rfl rfl ?_
    refine x_getR (pc := 31) (r := 1) (p := 0) E rfl (Nat.le_of_ble_eq_true rfl) rfl inlX6 (by decide) rfl wq_17 dX6_sort_31 ?_
    refine x_getRN (pc := 34) (r := 3) (p := 1) E rfl (Nat.le_of_ble_eq_true rfl) rfl inlX0 (by decide) rfl wn_4 dX6_sort_34 ?_
    refine x_iload_n 2 (pc := 37) (i := 1) E dX6_sort_37 rfl rfl ?_
    refine x_iload_n 4 (pc := 38) (i := 3) E dX6_sort_38 rfl rfl ?_
    refine x_iastore (pc := 39) E rfl (Nat.le_of_ble_eq_true rfl) dX6_sort_39 hf (fun σ3 hf => ?_)
    refine x_aload_n 1 (pc := 40) (i := 0) E dX6_sort_40 rfl rfl ?_
    refine x_callVwv (pc := 41) (na := 0) (As := []) E (c_X6_changed G σ3) rfl (Nat.le_of_ble_eq_true rfl) rfl wq_137 wq_2 wq_134 wq_135 wq_136 rfl rfl (by decide) ⟨Nat.le_of_ble_eq_true rfl, Nat.le_of_ble_eq_true rfl⟩ rfl rfl (Nat.le_of_ble_eq_true rfl) dX6_sort_41 hf (fun σ5 hf => ?_)
    refine x_iconst (pc := 44) (v := (1 : Int32)) E dX6_sort_44 rfl ?_
    obtain ⟨rfl, rfl⟩ := Prod.mk.inj (Option.some.inj hf)
    exact x_iret (pc := 45) E hR dX6_sort_45
  · refine x_aload_n 1 (pc := 13) (i := 0) E dX6_sort_13 rfl rfl ?_
    refine x_iload 0 (pc := 14) E dX6_sort_14 rfl ?_
    refine x_callVwi (pc := 16) (na := 1) (As := [.int r1]) E (c_X6_refuse G r1 σ) rfl (Nat.le_of_ble_eq_true rfl) rfl wq_133 wq_2 wq_130 wq_131 wq_132 rfl rfl (by decide) ⟨Nat.le_of_ble_eq_true rfl, Nat.le_of_ble_eq_true rfl⟩ rfl rfl (Nat.le_of_ble_eq_true rfl) dX6_sort_16 hf (fun r6 σ7 hf => ?_)
    obtain ⟨rfl, rfl⟩ := Prod.mk.inj (Option.some.inj hf)
    exact x_iret (pc := 19) E hR dX6_sort_19
set_option maxHeartbeats 4000000 in
set_option maxRecDepth 100000 in
theorem c_X0_add (G : Gx) (v1 : Int32) (σ : MM) (σ' : MM) (hf : f_X0_add v1 σ = some σ') : Ct shS 56 yX0_add cX0_add 2 none rm_X0_add G [.ref (gad G 1), .int v1] σ none σ' := by
  refine ct_of (by decide) (Nat.le_of_ble_eq_true rfl) (fun K E hR => ?_)
  have E : OKc 56 cX0_add 2 RX0 G K := E
  show XJ shS 56 2 rm_X0_add G K σ [(0, .ref (gad G 1)), (1, .int v1)] 0 []
  unfold f_X0_add at hf
  refine x_aload_n 0 (pc := 0) (i := 0) E dX0_add_0 rfl rfl ?_
  refine x_getI (pc := 1) (p := 4) E rfl (Nat.le_of_ble_eq_true rfl) rfl inlX0 (by decide) rfl wq_159 dX0_add_1 ?_
  refine x_bipush (pc := 4) (v := (12 : Int32)) E dX0_add_4 rfl ?_
  refine x_icmp_ge (pc := 6) (tgt := 29) E dX0_add_6 (by decide) hf (fun hf => ?_) (fun hf => ?_)
  · obtain rfl := Option.some.inj hf
    exact x_vret (pc := 29) E hR dX0_add_29
  · refine x_aload_n 0 (pc := 9) (i := 0) E dX0_add_9 rfl rfl ?_
    refine x_getR (pc := 10) (r := 4) (p := 2) E rfl (Nat.le_of_ble_eq_true rfl) rfl inlX0 (by decide) rfl wq_49 dX0_add_10 ?_
    refine x_aload_n 0 (pc := 13) (i := 0) E dX0_add_13 rfl rfl ?_
    refine x_getI (pc := 14) (p := 4) E rfl (Nat.le_of_ble_eq_true rfl) rfl inlX0 (by decide) rfl wq_159 dX0_add_14 ?_
    refine x_iload_n 1 (pc := 17) (i := 1) E dX0_add_17 rfl rfl ?_
    refine x_iastore (pc := 18) E rfl (Nat.le_of_ble_eq_true rfl) dX0_add_18 hf (fun σ1 hf => ?_)
    refine x_aload_n 0 (pc := 19) (i := 0) E dX0_add_19 rfl rfl ?_
    refine x_dup (pc := 20) E dX0_add_20 rfl ?_
    refine x_getI (pc := 21) (p := 4) E rfl (Nat.le_of_ble_eq_true rfl) rfl inlX0 (by decide) rfl wq_159 dX0_add_21 ?_
    refine x_iconst (pc := 24) (v := (1 : Int32)) E dX0_add_24 rfl ?_
    refine x_iadd (pc := 25) E dX0_add_25 ?_
    refine x_put (pc := 26) (p := 4) E rfl (Nat.le_of_ble_eq_true rfl) rfl inlX0 tyX0_ok nmX0 (by decide) rfl rfl rfl rfl wq_159 dX0_add_26 hf (fun σ2 hf => ?_)
    obtain rfl := Option.some.inj hf
    exact x_vret (pc := 29) E hR dX0_add_29
set_option maxHeartbeats 4000000 in
set_option maxRecDepth 100000 in
theorem c_X6_person (G : Gx) (v1 : Int32) (σ : MM) (r : Int32) (σ' : MM) (hf : f_X6_person v1 σ = some (r, σ')) : Ct shS 56 yX6_person cX6_person 2 (some .int) rm_X6_person G [.ref (gad G 0), .int v1] σ (some (.int r)) σ' := by
  refine ct_of (by decide) (Nat.le_of_ble_eq_true rfl) (fun K E hR => ?_)
  have E : OKc 56 cX6_person 2 RX6 G K := E
  show XJ shS 56 2 rm_X6_person G K σ [(0, .ref (gad G 0)), (1, .int v1)] 0 []
  unfold f_X6_person at hf
  refine x_iload_n 1 (pc := 0) (i := 1) E dX6_person_0 rfl rfl ?_
  refine x_callSri (pc := 1) (na := 1) (As := [.int v1]) E (c_X6_isSort G v1 σ) wq_129 wq_2 wq_127 wq_128 rfl rfl (by decide) ⟨Nat.le_of_ble_eq_true rfl, Nat.le_of_ble_eq_true rfl⟩ rfl rfl (Nat.le_of_ble_eq_true rfl) dX6_person_1 hf (fun r1 hf => ?_)
  refine x_if_ne (y := 0) (pc := 4) (tgt := 13) E dX6_person_4 (by decide) hf (fun hf => ?_) (fun hf => ?_)
  · refine x_aload_n 0 (pc := 13) (i := 0) E dX6_person_13 rfl rfl ?_
    refine x_getR (pc := 14) (r := 1) (p := 0) E rfl (Nat.le_of_ble_eq_true rfl) rfl inlX6 (by decide) rfl wq_17 dX6_person_14 ?_
    refine x_getIN (pc := 17) (p := 4) E rfl (Nat.le_of_ble_eq_true rfl) rfl inlX0 (by decide) rfl wn_13 dX6_person_17 ?_
    refine x_bipush (pc := 20) (v := (12 : Int32)) E dX6_person_20 rfl ?_
    refine x_icmp_lt (pc := 22) (tgt := 32) E dX6_person_22 (by decide) hf (fun hf => ?_) (fun hf => ?_)
    · refine x_aload_n 0 (pc := 32) (i := 0) E dX6_person_32 rfl rfl ?_
      refine x_getR (pc := 33) (r := 1) (p := 0) E rfl (Nat.le_of_ble_eq_true rfl) rfl inlX6 (by decide) rfl wq_17 dX6_person_33 ?_
      refine x_iload_n 1 (pc := 36) (i := 1) E dX6_person_36 rfl rfl ?_
      refine x_callVNwv (pc := 37) (na := 1) (As := [.int v1]) E (c_X0_add G v1 σ) rfl (Nat.le_of_ble_eq_true rfl) rfl wq_158 wq_16 wn_24 wq_156 wq_157 rfl rfl (by decide) ⟨Nat.le_of_ble_eq_true rfl, Nat.le_of_ble_eq_true rfl⟩ rfl rfl (Nat.le_of_ble_eq_true rfl) dX6_person_37 hf (fun σ3 hf => ?_)
      refine x_aload_n 0 (pc := 40) (i := 0) E dX6_person_40 rfl rfl ?_
      refine x_callVwv (pc := 41) (na := 0) (As := []) E (c_X6_changed G σ3) rfl (Nat.le_of_ble_eq_true rfl) rfl wq_137 wq_2 wq_134 wq_135 wq_136 rfl rfl (by decide) ⟨Nat.le_of_ble_eq_true rfl, Nat.le_of_ble_eq_true rfl⟩ rfl rfl (Nat.le_of_ble_eq_true rfl) dX6_person_41 hf (fun σ5 hf => ?_)
      refine x_aload_n 0 (pc := 44) (i := 0) E dX6_person_44 rfl rfl ?_
      refine x_getR (pc := 45) (r := 1) (p := 0) E rfl (Nat.le_of_ble_eq_true rfl) rfl inlX6 (by decide) rfl wq_17 dX6_person_45 ?_
      refine x_getIN (pc := 48) (p := 4) E rfl (Nat.le_of_ble_eq_true rfl) rfl inlX0 (by decide) rfl wn_13 dX6_person_48 ?_
      refine x_iconst (pc := 51) (v := (1 : Int32)) E dX6_person_51 rfl ?_
      refine x_isub (pc := 52) E dX6_person_52 ?_
      obtain ⟨rfl, rfl⟩ := Prod.mk.inj (Option.some.inj hf)
      exact x_iret (pc := 53) E hR dX6_person_53
    · refine x_aload_n 0 (pc := 25) (i := 0) E dX6_person_25 rfl rfl ?_
      refine x_bipush (pc := 26) (v := (-6 : Int32)) E dX6_person_26 rfl ?_
      refine x_callVwi (pc := 28) (na := 1) (As := [.int (-6 : Int32)]) E (c_X6_refuse G (-6 : Int32) σ) rfl (Nat.le_of_ble_eq_true rfl) rfl wq_133 wq_2 wq_130 wq_131 wq_132 rfl rfl (by decide) ⟨Nat.le_of_ble_eq_true rfl, Nat.le_of_ble_eq_true rfl⟩ rfl rfl (Nat.le_of_ble_eq_true rfl) dX6_person_28 hf (fun r6 σ7 hf => ?_)
      obtain ⟨rfl, rfl⟩ := Prod.mk.inj (Option.some.inj hf)
      exact x_iret (pc := 31) E hR dX6_person_31
  · refine x_aload_n 0 (pc := 7) (i := 0) E dX6_person_7 rfl rfl ?_
    refine x_iconst (pc := 8) (v := (-1 : Int32)) E dX6_person_8 rfl ?_
    refine x_callVwi (pc := 9) (na := 1) (As := [.int (-1 : Int32)]) E (c_X6_refuse G (-1 : Int32) σ) rfl (Nat.le_of_ble_eq_true rfl) rfl wq_133 wq_2 wq_130 wq_131 wq_132 rfl rfl (by decide) ⟨Nat.le_of_ble_eq_true rfl, Nat.le_of_ble_eq_true rfl⟩ rfl rfl (Nat.le_of_ble_eq_true rfl) dX6_person_9 hf (fun r8 σ9 hf => ?_)
    obtain ⟨rfl, rfl⟩ := Prod.mk.inj (Option.some.inj hf)
    exact x_iret (pc := 12) E hR dX6_person_12
set_option maxHeartbeats 4000000 in
set_option maxRecDepth 100000 in
theorem c_X6_takeBack (G : Gx) (σ : MM) (r : Int32) (σ' : MM) (hf : f_X6_takeBack σ = some (r, σ')) : Ct shS 56 yX6_takeBack cX6_takeBack 1 (some .int) rm_X6_takeBack G [.ref (gad G 0)] σ (some (.int r)) σ' := by
  refine ct_of (by decide) (Nat.le_of_ble_eq_true rfl) (fun K E hR => ?_)
  have E : OKc 56 cX6_takeBack 1 RX6 G K := E
  show XJ shS 56 1 rm_X6_takeBack G K σ [(0, .ref (gad G 0))] 0 []
  unfold f_X6_takeBack at hf
  refine x_aload_n 0 (pc := 0) (i := 0) E dX6_takeBack_0 rfl rfl ?_
  refine x_getR (pc := 1) (r := 1) (p := 0) E rfl (Nat.le_of_ble_eq_true rfl) rfl inlX6 (by decide) rfl wq_17 dX6_takeBack_1 ?_
  refine x_getIN (pc := 4) (p := 4) E rfl (Nat.le_of_ble_eq_true rfl) rfl inlX0 (by decide) rfl wn_13 dX6_takeBack_4 ?_
  refine x_if_ne (y := 0) (pc := 7) (tgt := 17) E dX6_takeBack_7 (by decide) hf (fun hf => ?_) (fun hf => ?_)
  · refine x_aload_n 0 (pc := 17) (i := 0) E dX6_takeBack_17 rfl rfl ?_
    refine x_getR (pc := 18) (r := 1) (p := 0) E rfl (Nat.le_of_ble_eq_true rfl) rfl inlX6 (by decide) rfl wq_17 dX6_takeBack_18 ?_
    refine x_dup (pc := 21) E dX6_takeBack_21 rfl ?_
    refine x_getIN (pc := 22) (p := 4) E rfl (Nat.le_of_ble_eq_true rfl) rfl inlX0 (by decide) rfl wn_13 dX6_takeBack_22 ?_
    refine x_iconst (pc := 25) (v := (1 : Int32)) E dX6_takeBack_25 rfl ?_
    refine x_isub (pc := 26) E dX6_takeBack_26 ?_
    refine x_putN (pc := 27) (p := 4) E rfl (Nat.le_of_ble_eq_true rfl) rfl inlX0 tyX0_ok nmX0 (by decide) rfl rfl rfl rfl wn_13 dX6_takeBack_27 hf (fun σ1 hf => ?_)
    refine x_aload_n 0 (pc := 30) (i := 0) E dX6_takeBack_30 rfl rfl ?_
    refine x_callVwv (pc := 31) (na := 0) (As := []) E (c_X6_changed G σ1) rfl (Nat.le_of_ble_eq_true rfl) rfl wq_137 wq_2 wq_134 wq_135 wq_136 rfl rfl (by decide) ⟨Nat.le_of_ble_eq_true rfl, Nat.le_of_ble_eq_true rfl⟩ rfl rfl (Nat.le_of_ble_eq_true rfl) dX6_takeBack_31 hf (fun σ3 hf => ?_)
    refine x_aload_n 0 (pc := 34) (i := 0) E dX6_takeBack_34 rfl rfl ?_
    refine x_getR (pc := 35) (r := 1) (p := 0) E rfl (Nat.le_of_ble_eq_true rfl) rfl inlX6 (by decide) rfl wq_17 dX6_takeBack_35 ?_
    refine x_getIN (pc := 38) (p := 4) E rfl (Nat.le_of_ble_eq_true rfl) rfl inlX0 (by decide) rfl wn_13 dX6_takeBack_38 ?_
    obtain ⟨rfl, rfl⟩ := Prod.mk.inj (Option.some.inj hf)
    exact x_iret (pc := 41) E hR dX6_takeBack_41
  · refine x_aload_n 0 (pc := 10) (i := 0) E dX6_takeBack_10 rfl rfl ?_
    refine x_bipush (pc := 11) (v := (-3 : Int32)) E dX6_takeBack_11 rfl ?_
    refine x_callVwi (pc := 13) (na := 1) (As := [.int (-3 : Int32)]) E (c_X6_refuse G (-3 : Int32) σ) rfl (Nat.le_of_ble_eq_true rfl) rfl wq_133 wq_2 wq_130 wq_131 wq_132 rfl rfl (by decide) ⟨Nat.le_of_ble_eq_true rfl, Nat.le_of_ble_eq_true rfl⟩ rfl rfl (Nat.le_of_ble_eq_true rfl) dX6_takeBack_13 hf (fun r4 σ5 hf => ?_)
    obtain ⟨rfl, rfl⟩ := Prod.mk.inj (Option.some.inj hf)
    exact x_iret (pc := 16) E hR dX6_takeBack_16
set_option maxHeartbeats 4000000 in
set_option maxRecDepth 100000 in
theorem c_X6_set (G : Gx) (v1 : Int32) (v2 : Int32) (σ : MM) (r : Int32) (σ' : MM) (hf : f_X6_set v1 v2 σ = some (r, σ')) : Ct shS 56 yX6_set cX6_set 4 (some .int) rm_X6_set G [.ref (gad G 0), .int v1, .int v2] σ (some (.int r)) σ' := by
  refine ct_of (by decide) (Nat.le_of_ble_eq_true rfl) (fun K E hR => ?_)
  have E : OKc 56 cX6_set 4 RX6 G K := E
  show XJ shS 56 4 rm_X6_set G K σ [(0, .ref (gad G 0)), (1, .int v1), (2, .int v2)] 0 []
  unfold f_X6_set at hf
  refine x_iload_n 1 (pc := 0) (i := 1) E dX6_set_0 rfl rfl ?_
  refine x_if_lt (y := 0) (pc := 1) (tgt := 9) E dX6_set_1 (by decide) hf (fun hf => ?_) (fun hf => ?_)
  · refine x_aload_n 0 (pc := 9) (i := 0) E dX6_set_9 rfl rfl ?_
    refine x_bipush (pc := 10) (v := (-2 : Int32)) E dX6_set_10 rfl ?_
    refine x_callVwi (pc := 12) (na := 1) (As := [.int (-2 : Int32)]) E (c_X6_refuse G (-2 : Int32) σ) rfl (Nat.le_of_ble_eq_true rfl) rfl wq_133 wq_2 wq_130 wq_131 wq_132 rfl rfl (by decide) ⟨Nat.le_of_ble_eq_true rfl, Nat.le_of_ble_eq_true rfl⟩ rfl rfl (Nat.le_of_ble_eq_true rfl) dX6_set_12 hf (fun r1 σ2 hf => ?_)
    obtain ⟨rfl, rfl⟩ := Prod.mk.inj (Option.some.inj hf)
    exact x_iret (pc := 15) E hR dX6_set_15
  · refine x_iload_n 1 (pc := 4) (i := 1) E dX6_set_4 rfl rfl ?_
    refine x_iconst (pc := 5) (v := (5 : Int32)) E dX6_set_5 rfl ?_
    refine x_icmp_lt (pc := 6) (tgt := 16) E dX6_set_6 (by decide) hf (fun hf => ?_) (fun hf => ?_)
    · refine x_iload_n 2 (pc := 16) (i := 2) E dX6_set_16 rfl rfl ?_
      refine x_getsL (pc := 17) E wq_177 dX6_set_17 ?_
      refine x_iload_n 1 (pc := 20) (i := 1) E dX6_set_20 rfl rfl ?_
      refine x_tLoad (pc := 21) E dX6_set_21 hf (fun hf => ?_)
      refine x_icmp_ge (pc := 22) (tgt := 32) E dX6_set_22 (by decide) hf (fun hf => ?_) (fun hf => ?_)
      · refine x_iload_n 2 (pc := 32) (i := 2) E dX6_set_32 rfl rfl ?_
        refine x_getsG (pc := 33) E wq_178 dX6_set_33 ?_
        refine x_iload_n 1 (pc := 36) (i := 1) E dX6_set_36 rfl rfl ?_
        refine x_tMost (pc := 37) E dX6_set_37 hf (fun hf => ?_)
        refine x_icmp_le (pc := 38) (tgt := 48) E dX6_set_38 (by decide) hf (fun hf => ?_) (fun hf => ?_)
        · refine x_aload_n 0 (pc := 48) (i := 0) E dX6_set_48 rfl rfl ?_
          refine x_getR (pc := 49) (r := 1) (p := 0) E rfl (Nat.le_of_ble_eq_true rfl) rfl inlX6 (by decide) rfl wq_17 dX6_set_49 ?_
          refine x_getRN (pc := 52) (r := 5) (p := 3) E rfl (Nat.le_of_ble_eq_true rfl) rfl inlX0 (by decide) rfl wn_10 dX6_set_52 ?_
          refine x_iload_n 1 (pc := 55) (i := 1) E dX6_set_55 rfl rfl ?_
          refine x_iaload (pc := 56) E rfl (Nat.le_of_ble_eq_true rfl) dX6_set_56 hf (fun hf => ?_)
          refine x_istore_n (pc := 57) (lv' := [(3, .int (σ.1 5 v1.toNatClampNeg)), (0, .ref (gad G 0)), (1, .int v1), (2, .int v2)]) E dX6_set_57 rfl (by decide) rfl ?_
          refine x_aload_n 1 (pc := 58) (i := 0) E dX6_set_58 rfl rfl ?_
          refine x_getR (pc := 59) (r := 1) (p := 0) E rfl (Nat.le_of_ble_eq_true rfl) rfl inlX6 (by decide) rfl wq_17 dX6_set_59 ?_
          refine x_getRN (pc := 62) (r := 5) (p := 3) E rfl (Nat.le_of_ble_eq_true rfl) rfl inlX0 (by decide) rfl wn_10 dX6_set_62 ?_
          refine x_iload_n 2 (pc := 65) (i := 1) E dX6_set_65 rfl rfl ?_
          refine x_iload_n 3 (pc := 66) (i := 2) E dX6_set_66 rfl rfl ?_
          refine x_iastore (pc := 67) E rfl (Nat.le_of_ble_eq_true rfl) dX6_set_67 hf (fun σ3 hf => ?_)
          refine x_aload_n 1 (pc := 68) (i := 0) E dX6_set_68 rfl rfl ?_
          refine x_callVwv (pc := 69) (na := 0) (As := []) E (c_X6_changed G σ3) rfl (Nat.le_of_ble_eq_true rfl) rfl wq_137 wq_2 wq_134 wq_135 wq_136 rfl rfl (by decide) ⟨Nat.le_of_ble_eq_true rfl, Nat.le_of_ble_eq_true rfl⟩ rfl rfl (Nat.le_of_ble_eq_true rfl) dX6_set_69 hf (fun σ5 hf => ?_)
          refine x_iload_n 0 (pc := 72) (i := 3) E dX6_set_72 rfl rfl ?_
          obtain ⟨rfl, rfl⟩ := Prod.mk.inj (Option.some.inj hf)
          exact x_iret (pc := 73) E hR dX6_set_73
        · refine x_aload_n 0 (pc := 41) (i := 0) E dX6_set_41 rfl rfl ?_
          refine x_bipush (pc := 42) (v := (-6 : Int32)) E dX6_set_42 rfl ?_
          refine x_callVwi (pc := 44) (na := 1) (As := [.int (-6 : Int32)]) E (c_X6_refuse G (-6 : Int32) σ) rfl (Nat.le_of_ble_eq_true rfl) rfl wq_133 wq_2 wq_130 wq_131 wq_132 rfl rfl (by decide) ⟨Nat.le_of_ble_eq_true rfl, Nat.le_of_ble_eq_true rfl⟩ rfl rfl (Nat.le_of_ble_eq_true rfl) dX6_set_44 hf (fun r6 σ7 hf => ?_)
          obtain ⟨rfl, rfl⟩ := Prod.mk.inj (Option.some.inj hf)
          exact x_iret (pc := 47) E hR dX6_set_47
      · refine x_aload_n 0 (pc := 25) (i := 0) E dX6_set_25 rfl rfl ?_
        refine x_bipush (pc := 26) (v := (-4 : Int32)) E dX6_set_26 rfl ?_
        refine x_callVwi (pc := 28) (na := 1) (As := [.int (-4 : Int32)]) E (c_X6_refuse G (-4 : Int32) σ) rfl (Nat.le_of_ble_eq_true rfl) rfl wq_133 wq_2 wq_130 wq_131 wq_132 rfl rfl (by decide) ⟨Nat.le_of_ble_eq_true rfl, Nat.le_of_ble_eq_true rfl⟩ rfl rfl (Nat.le_of_ble_eq_true rfl) dX6_set_28 hf (fun r8 σ9 hf => ?_)
        obtain ⟨rfl, rfl⟩ := Prod.mk.inj (Option.some.inj hf)
        exact x_iret (pc := 31) E hR dX6_set_31
    · refine x_aload_n 0 (pc := 9) (i := 0) E dX6_set_9 rfl rfl ?_
      refine x_bipush (pc := 10) (v := (-2 : Int32)) E dX6_set_10 rfl ?_
      refine x_callVwi (pc := 12) (na := 1) (As := [.int (-2 : Int32)]) E (c_X6_refuse G (-2 : Int32) σ) rfl (Nat.le_of_ble_eq_true rfl) rfl wq_133 wq_2 wq_130 wq_131 wq_132 rfl rfl (by decide) ⟨Nat.le_of_ble_eq_true rfl, Nat.le_of_ble_eq_true rfl⟩ rfl rfl (Nat.le_of_ble_eq_true rfl) dX6_set_12 hf (fun r10 σ11 hf => ?_)
      obtain ⟨rfl, rfl⟩ := Prod.mk.inj (Option.some.inj hf)
      exact x_iret (pc := 15) E hR dX6_set_15
set_option maxHeartbeats 4000000 in
set_option maxRecDepth 100000 in
theorem l_X4_append_3 (G : Gx) {K : Kx}   (v1 : Int32) (v2 : Int64) (E : OKc 56 cX4_append 5 RX4 G K) : ∀ (m : Nat) (v4 : Int32) (σ : MM) (out : MM), loopN (fun s => g_X4_append_3 v1 v2 s.1 s.2) m (v4, σ) = some out → XJ shS 56 5 rm_X4_append G K out [] 52 [] → XJ shS 56 5 rm_X4_append G K σ [(0, .ref (gad G 11)), (1, .int v1), (2, .long v2), (4, .int v4)] 3 [] := by
  intro m
  induction m with
  | zero => intro v4 σ out hf; exact (loopN_0 hf).elim
  | succ m ih =>
    intro v4 σ out hf hk
    obtain ⟨q, hf, h2⟩ := loopN_s hf
    have hf : g_X4_append_3 v1 v2 v4 σ = some q := hf
    unfold g_X4_append_3 at hf
    refine x_iload 3 (pc := 3) E dX4_append_3 rfl ?_
    refine x_iload_n 1 (pc := 5) (i := 1) E dX4_append_5 rfl rfl ?_
    refine x_icmp_ge (pc := 6) (tgt := 52) E dX4_append_6 (by decide) hf (fun hf => ?_) (fun hf => ?_)
    · obtain rfl := Option.some.inj hf
      obtain rfl := lpk_r h2
      exact x_sub [] rfl hk
    · refine x_aload_n 0 (pc := 9) (i := 0) E dX4_append_9 rfl rfl ?_
      refine x_getI (pc := 10) (p := 2) E rfl (Nat.le_of_ble_eq_true rfl) rfl inlX4 (by decide) rfl wq_196 dX4_append_10 ?_
      refine x_bipush (pc := 13) (v := (80 : Int32)) E dX4_append_13 rfl ?_
      refine x_icmp_ge (pc := 15) (tgt := 52) E dX4_append_15 (by decide) hf (fun hf => ?_) (fun hf => ?_)
      · obtain rfl := Option.some.inj hf
        obtain rfl := lpk_r h2
        exact x_sub [] rfl hk
      · refine x_aload_n 0 (pc := 18) (i := 0) E dX4_append_18 rfl rfl ?_
        refine x_getR (pc := 19) (r := 12) (p := 0) E rfl (Nat.le_of_ble_eq_true rfl) rfl inlX4 (by decide) rfl wq_55 dX4_append_19 ?_
        refine x_aload_n 0 (pc := 22) (i := 0) E dX4_append_22 rfl rfl ?_
        refine x_getI (pc := 23) (p := 2) E rfl (Nat.le_of_ble_eq_true rfl) rfl inlX4 (by decide) rfl wq_196 dX4_append_23 ?_
        refine x_lload_n 2 (pc := 26) (i := 2) E dX4_append_26 rfl rfl ?_
        refine x_bipush (pc := 27) (v := (8 : Int32)) E dX4_append_27 rfl ?_
        refine x_iload 3 (pc := 29) E dX4_append_29 rfl ?_
        refine x_imul (pc := 31) E dX4_append_31 ?_
        refine x_lushr (pc := 32) E dX4_append_32 ?_
        refine x_l2i (pc := 33) E dX4_append_33 ?_
        refine x_i2b (pc := 34) E dX4_append_34 ?_
        refine x_bastore (pc := 35) E rfl (Nat.le_of_ble_eq_true rfl) dX4_append_35 hf (fun σ1 hf => ?_)
        refine x_aload_n 0 (pc := 36) (i := 0) E dX4_append_36 rfl rfl ?_
        refine x_dup (pc := 37) E dX4_append_37 rfl ?_
        refine x_getI (pc := 38) (p := 2) E rfl (Nat.le_of_ble_eq_true rfl) rfl inlX4 (by decide) rfl wq_196 dX4_append_38 ?_
        refine x_iconst (pc := 41) (v := (1 : Int32)) E dX4_append_41 rfl ?_
        refine x_iadd (pc := 42) E dX4_append_42 ?_
        refine x_put (pc := 43) (p := 2) E rfl (Nat.le_of_ble_eq_true rfl) rfl inlX4 tyX4_ok nmX4 (by decide) rfl rfl rfl rfl wq_196 dX4_append_43 hf (fun σ2 hf => ?_)
        refine x_iinc 3 (pc := 46) (v := v4 + 1) (lv' := [(4, .int (v4 + 1)), (0, .ref (gad G 11)), (1, .int v1), (2, .long v2)]) E dX4_append_46 rfl rfl (by decide) rfl ?_
        refine x_goto (pc := 49) (tgt := 3) E dX4_append_49 (by decide) ?_
        obtain rfl := Option.some.inj hf
        exact x_sub [1, 2, 3, 0] rfl (ih _ _ _ (lpk_l h2) hk)
set_option maxHeartbeats 4000000 in
set_option maxRecDepth 100000 in
theorem c_X4_append (G : Gx) (v1 : Int32) (v2 : Int64) (σ : MM) (σ' : MM) (hf : f_X4_append v1 v2 σ = some σ') : Ct shS 56 yX4_append cX4_append 5 none rm_X4_append G [.ref (gad G 11), .int v1, .long v2] σ none σ' := by
  refine ct_of (by decide) (Nat.le_of_ble_eq_true rfl) (fun K E hR => ?_)
  have E : OKc 56 cX4_append 5 RX4 G K := E
  show XJ shS 56 5 rm_X4_append G K σ [(0, .ref (gad G 11)), (1, .int v1), (2, .long v2)] 0 []
  unfold f_X4_append at hf
  refine x_iconst (pc := 0) (v := (0 : Int32)) E dX4_append_0 rfl ?_
  refine x_istore (pc := 1) (lv' := [(4, .int (0 : Int32)), (0, .ref (gad G 11)), (1, .int v1), (2, .long v2)]) E dX4_append_1 (by decide) rfl ?_
  obtain ⟨o3, hl4, hf⟩ := bind_some hf
  refine x_sub [1, 2, 3, 0] rfl (l_X4_append_3 G   v1 v2 E FU _ _ o3 hl4 ?_)
  obtain rfl := Option.some.inj hf
  exact x_vret (pc := 52) E hR dX4_append_52
set_option maxHeartbeats 4000000 in
set_option maxRecDepth 100000 in
theorem c_X6_feed (G : Gx) (v1 : Int32) (v2 : Int64) (σ : MM) (r : Int32) (σ' : MM) (hf : f_X6_feed v1 v2 σ = some (r, σ')) : Ct shS 56 yX6_feed cX6_feed 4 (some .int) rm_X6_feed G [.ref (gad G 0), .int v1, .long v2] σ (some (.int r)) σ' := by
  refine ct_of (by decide) (Nat.le_of_ble_eq_true rfl) (fun K E hR => ?_)
  have E : OKc 56 cX6_feed 4 RX6 G K := E
  show XJ shS 56 4 rm_X6_feed G K σ [(0, .ref (gad G 0)), (1, .int v1), (2, .long v2)] 0 []
  unfold f_X6_feed at hf
  refine x_iload_n 1 (pc := 0) (i := 1) E dX6_feed_0 rfl rfl ?_
  refine x_iconst (pc := 1) (v := (1 : Int32)) E dX6_feed_1 rfl ?_
  refine x_icmp_ge (pc := 2) (tgt := 12) E dX6_feed_2 (by decide) hf (fun hf => ?_) (fun hf => ?_)
  · refine x_iload_n 1 (pc := 12) (i := 1) E dX6_feed_12 rfl rfl ?_
    refine x_bipush (pc := 13) (v := (8 : Int32)) E dX6_feed_13 rfl ?_
    refine x_icmp_gt (pc := 15) (tgt := 32) E dX6_feed_15 (by decide) hf (fun hf => ?_) (fun hf => ?_)
    · refine x_aload_n 0 (pc := 32) (i := 0) E dX6_feed_32 rfl rfl ?_
      refine x_bipush (pc := 33) (v := (-6 : Int32)) E dX6_feed_33 rfl ?_
      refine x_callVwi (pc := 35) (na := 1) (As := [.int (-6 : Int32)]) E (c_X6_refuse G (-6 : Int32) σ) rfl (Nat.le_of_ble_eq_true rfl) rfl wq_133 wq_2 wq_130 wq_131 wq_132 rfl rfl (by decide) ⟨Nat.le_of_ble_eq_true rfl, Nat.le_of_ble_eq_true rfl⟩ rfl rfl (Nat.le_of_ble_eq_true rfl) dX6_feed_35 hf (fun r1 σ2 hf => ?_)
      obtain ⟨rfl, rfl⟩ := Prod.mk.inj (Option.some.inj hf)
      exact x_iret (pc := 38) E hR dX6_feed_38
    · refine x_aload_n 0 (pc := 18) (i := 0) E dX6_feed_18 rfl rfl ?_
      refine x_getR (pc := 19) (r := 11) (p := 3) E rfl (Nat.le_of_ble_eq_true rfl) rfl inlX6 (by decide) rfl wq_22 dX6_feed_19 ?_
      refine x_getIN (pc := 22) (p := 2) E rfl (Nat.le_of_ble_eq_true rfl) rfl inlX4 (by decide) rfl wn_16 dX6_feed_22 ?_
      refine x_iload_n 1 (pc := 25) (i := 1) E dX6_feed_25 rfl rfl ?_
      refine x_iadd (pc := 26) E dX6_feed_26 ?_
      refine x_bipush (pc := 27) (v := (80 : Int32)) E dX6_feed_27 rfl ?_
      refine x_icmp_le (pc := 29) (tgt := 39) E dX6_feed_29 (by decide) hf (fun hf => ?_) (fun hf => ?_)
      · refine x_aload_n 0 (pc := 39) (i := 0) E dX6_feed_39 rfl rfl ?_
        refine x_getR (pc := 40) (r := 11) (p := 3) E rfl (Nat.le_of_ble_eq_true rfl) rfl inlX6 (by decide) rfl wq_22 dX6_feed_40 ?_
        refine x_iload_n 1 (pc := 43) (i := 1) E dX6_feed_43 rfl rfl ?_
        refine x_lload_n 2 (pc := 44) (i := 2) E dX6_feed_44 rfl rfl ?_
        refine x_callVNwv (pc := 45) (na := 2) (As := [.int v1, .long v2]) E (c_X4_append G v1 v2 σ) rfl (Nat.le_of_ble_eq_true rfl) rfl wq_195 wq_21 wn_25 wq_193 wq_194 rfl rfl (by decide) ⟨Nat.le_of_ble_eq_true rfl, Nat.le_of_ble_eq_true rfl⟩ rfl rfl (Nat.le_of_ble_eq_true rfl) dX6_feed_45 hf (fun σ4 hf => ?_)
        refine x_aload_n 0 (pc := 48) (i := 0) E dX6_feed_48 rfl rfl ?_
        refine x_getR (pc := 49) (r := 11) (p := 3) E rfl (Nat.le_of_ble_eq_true rfl) rfl inlX6 (by decide) rfl wq_22 dX6_feed_49 ?_
        refine x_getIN (pc := 52) (p := 2) E rfl (Nat.le_of_ble_eq_true rfl) rfl inlX4 (by decide) rfl wn_16 dX6_feed_52 ?_
        obtain ⟨rfl, rfl⟩ := Prod.mk.inj (Option.some.inj hf)
        exact x_iret (pc := 55) E hR dX6_feed_55
      · refine x_aload_n 0 (pc := 32) (i := 0) E dX6_feed_32 rfl rfl ?_
        refine x_bipush (pc := 33) (v := (-6 : Int32)) E dX6_feed_33 rfl ?_
        refine x_callVwi (pc := 35) (na := 1) (As := [.int (-6 : Int32)]) E (c_X6_refuse G (-6 : Int32) σ) rfl (Nat.le_of_ble_eq_true rfl) rfl wq_133 wq_2 wq_130 wq_131 wq_132 rfl rfl (by decide) ⟨Nat.le_of_ble_eq_true rfl, Nat.le_of_ble_eq_true rfl⟩ rfl rfl (Nat.le_of_ble_eq_true rfl) dX6_feed_35 hf (fun r5 σ6 hf => ?_)
        obtain ⟨rfl, rfl⟩ := Prod.mk.inj (Option.some.inj hf)
        exact x_iret (pc := 38) E hR dX6_feed_38
  · refine x_aload_n 0 (pc := 5) (i := 0) E dX6_feed_5 rfl rfl ?_
    refine x_bipush (pc := 6) (v := (-4 : Int32)) E dX6_feed_6 rfl ?_
    refine x_callVwi (pc := 8) (na := 1) (As := [.int (-4 : Int32)]) E (c_X6_refuse G (-4 : Int32) σ) rfl (Nat.le_of_ble_eq_true rfl) rfl wq_133 wq_2 wq_130 wq_131 wq_132 rfl rfl (by decide) ⟨Nat.le_of_ble_eq_true rfl, Nat.le_of_ble_eq_true rfl⟩ rfl rfl (Nat.le_of_ble_eq_true rfl) dX6_feed_8 hf (fun r7 σ8 hf => ?_)
    obtain ⟨rfl, rfl⟩ := Prod.mk.inj (Option.some.inj hf)
    exact x_iret (pc := 11) E hR dX6_feed_11
set_option maxHeartbeats 4000000 in
set_option maxRecDepth 100000 in
theorem c_X4_isDigit (G : Gx) (v1 : Int32) (v2 : Int32) (σ : MM) (r : Int32) (hf : f_X4_isDigit v1 v2 σ = some r) : Ct shS 56 yX4_isDigit cX4_isDigit 3 (some .boolean) rm_X4_isDigit G [.ref (gad G 11), .int v1, .int v2] σ (some (.int r)) σ := by
  refine ct_of (by decide) (Nat.le_of_ble_eq_true rfl) (fun K E hR => ?_)
  have E : OKc 56 cX4_isDigit 3 RX4 G K := E
  show XJ shS 56 3 rm_X4_isDigit G K σ [(0, .ref (gad G 11)), (1, .int v1), (2, .int v2)] 0 []
  unfold f_X4_isDigit at hf
  refine x_aload_n 0 (pc := 0) (i := 0) E dX4_isDigit_0 rfl rfl ?_
  refine x_getI (pc := 1) (p := 3) E rfl (Nat.le_of_ble_eq_true rfl) rfl inlX4 (by decide) rfl wq_210 dX4_isDigit_1 ?_
  refine x_aload_n 0 (pc := 4) (i := 0) E dX4_isDigit_4 rfl rfl ?_
  refine x_getI (pc := 5) (p := 2) E rfl (Nat.le_of_ble_eq_true rfl) rfl inlX4 (by decide) rfl wq_196 dX4_isDigit_5 ?_
  refine x_icmp_ge (pc := 8) (tgt := 47) E dX4_isDigit_8 (by decide) hf (fun hf => ?_) (fun hf => ?_)
  · refine x_iconst (pc := 47) (v := (0 : Int32)) E dX4_isDigit_47 rfl ?_
    obtain ⟨hz, hf⟩ := chk_some hf
    obtain rfl := Option.some.inj hf
    exact x_zret (pc := 48) E hR (isB_nar hz) dX4_isDigit_48
  · refine x_aload_n 0 (pc := 11) (i := 0) E dX4_isDigit_11 rfl rfl ?_
    refine x_getR (pc := 12) (r := 12) (p := 0) E rfl (Nat.le_of_ble_eq_true rfl) rfl inlX4 (by decide) rfl wq_55 dX4_isDigit_12 ?_
    refine x_aload_n 0 (pc := 15) (i := 0) E dX4_isDigit_15 rfl rfl ?_
    refine x_getI (pc := 16) (p := 3) E rfl (Nat.le_of_ble_eq_true rfl) rfl inlX4 (by decide) rfl wq_210 dX4_isDigit_16 ?_
    refine x_baload (pc := 19) E rfl (Nat.le_of_ble_eq_true rfl) dX4_isDigit_19 hf (fun hf => ?_)
    refine x_bipush (pc := 20) (v := (48 : Int32)) E dX4_isDigit_20 rfl ?_
    refine x_iload_n 1 (pc := 22) (i := 1) E dX4_isDigit_22 rfl rfl ?_
    refine x_iadd (pc := 23) E dX4_isDigit_23 ?_
    refine x_icmp_lt (pc := 24) (tgt := 47) E dX4_isDigit_24 (by decide) hf (fun hf => ?_) (fun hf => ?_)
    · refine x_iconst (pc := 47) (v := (0 : Int32)) E dX4_isDigit_47 rfl ?_
      obtain ⟨hz, hf⟩ := chk_some hf
      obtain rfl := Option.some.inj hf
      exact x_zret (pc := 48) E hR (isB_nar hz) dX4_isDigit_48
    · refine x_aload_n 0 (pc := 27) (i := 0) E dX4_isDigit_27 rfl rfl ?_
      refine x_getR (pc := 28) (r := 12) (p := 0) E rfl (Nat.le_of_ble_eq_true rfl) rfl inlX4 (by decide) rfl wq_55 dX4_isDigit_28 ?_
      refine x_aload_n 0 (pc := 31) (i := 0) E dX4_isDigit_31 rfl rfl ?_
      refine x_getI (pc := 32) (p := 3) E rfl (Nat.le_of_ble_eq_true rfl) rfl inlX4 (by decide) rfl wq_210 dX4_isDigit_32 ?_
      refine x_baload (pc := 35) E rfl (Nat.le_of_ble_eq_true rfl) dX4_isDigit_35 hf (fun hf => ?_)
      refine x_bipush (pc := 36) (v := (48 : Int32)) E dX4_isDigit_36 rfl ?_
      refine x_iload_n 2 (pc := 38) (i := 2) E dX4_isDigit_38 rfl rfl ?_
      refine x_iadd (pc := 39) E dX4_isDigit_39 ?_
      refine x_icmp_gt (pc := 40) (tgt := 47) E dX4_isDigit_40 (by decide) hf (fun hf => ?_) (fun hf => ?_)
      · refine x_iconst (pc := 47) (v := (0 : Int32)) E dX4_isDigit_47 rfl ?_
        obtain ⟨hz, hf⟩ := chk_some hf
        obtain rfl := Option.some.inj hf
        exact x_zret (pc := 48) E hR (isB_nar hz) dX4_isDigit_48
      · refine x_iconst (pc := 43) (v := (1 : Int32)) E dX4_isDigit_43 rfl ?_
        refine x_goto (pc := 44) (tgt := 48) E dX4_isDigit_44 (by decide) ?_
        obtain ⟨hz, hf⟩ := chk_some hf
        obtain rfl := Option.some.inj hf
        exact x_zret (pc := 48) E hR (isB_nar hz) dX4_isDigit_48
set_option maxHeartbeats 4000000 in
set_option maxRecDepth 100000 in
theorem c_X4_fault (G : Gx) (v1 : Int32) (σ : MM) (r : Int32) (σ' : MM) (hf : f_X4_fault v1 σ = some (r, σ')) : Ct shS 56 yX4_fault cX4_fault 2 (some .boolean) rm_X4_fault G [.ref (gad G 11), .int v1] σ (some (.int r)) σ' := by
  refine ct_of (by decide) (Nat.le_of_ble_eq_true rfl) (fun K E hR => ?_)
  have E : OKc 56 cX4_fault 2 RX4 G K := E
  show XJ shS 56 2 rm_X4_fault G K σ [(0, .ref (gad G 11)), (1, .int v1)] 0 []
  unfold f_X4_fault at hf
  refine x_aload_n 0 (pc := 0) (i := 0) E dX4_fault_0 rfl rfl ?_
  refine x_iload_n 1 (pc := 1) (i := 1) E dX4_fault_1 rfl rfl ?_
  refine x_put (pc := 2) (p := 4) E rfl (Nat.le_of_ble_eq_true rfl) rfl inlX4 tyX4_ok nmX4 (by decide) rfl rfl rfl rfl wq_211 dX4_fault_2 hf (fun σ1 hf => ?_)
  refine x_iconst (pc := 5) (v := (0 : Int32)) E dX4_fault_5 rfl ?_
  obtain ⟨hz, hf⟩ := chk_some hf
  obtain ⟨rfl, rfl⟩ := Prod.mk.inj (Option.some.inj hf)
  exact x_zret (pc := 6) E hR (isB_nar hz) dX4_fault_6
set_option maxHeartbeats 4000000 in
set_option maxRecDepth 100000 in
theorem c_X4_digit (G : Gx) (v1 : Int32) (v2 : Int32) (σ : MM) (r : Int32) (σ' : MM) (hf : f_X4_digit v1 v2 σ = some (r, σ')) : Ct shS 56 yX4_digit cX4_digit 3 (some .int) rm_X4_digit G [.ref (gad G 11), .int v1, .int v2] σ (some (.int r)) σ' := by
  refine ct_of (by decide) (Nat.le_of_ble_eq_true rfl) (fun K E hR => ?_)
  have E : OKc 56 cX4_digit 3 RX4 G K := E
  show XJ shS 56 3 rm_X4_digit G K σ [(0, .ref (gad G 11)), (1, .int v1), (2, .int v2)] 0 []
  unfold f_X4_digit at hf
  refine x_aload_n 0 (pc := 0) (i := 0) E dX4_digit_0 rfl rfl ?_
  refine x_iload_n 1 (pc := 1) (i := 1) E dX4_digit_1 rfl rfl ?_
  refine x_iload_n 2 (pc := 2) (i := 2) E dX4_digit_2 rfl rfl ?_
  refine x_callVri (pc := 3) (na := 2) (As := [.int v1, .int v2]) E (c_X4_isDigit G v1 v2 σ) rfl (Nat.le_of_ble_eq_true rfl) rfl wq_227 wq_21 wq_224 wq_225 wq_226 rfl rfl (by decide) ⟨Nat.le_of_ble_eq_true rfl, Nat.le_of_ble_eq_true rfl⟩ rfl rfl (Nat.le_of_ble_eq_true rfl) dX4_digit_3 hf (fun r1 hf => ?_)
  refine x_if_ne (y := 0) (pc := 6) (tgt := 20) E dX4_digit_6 (by decide) hf (fun hf => ?_) (fun hf => ?_)
  · refine x_aload_n 0 (pc := 20) (i := 0) E dX4_digit_20 rfl rfl ?_
    refine x_dup (pc := 21) E dX4_digit_21 rfl ?_
    refine x_getI (pc := 22) (p := 3) E rfl (Nat.le_of_ble_eq_true rfl) rfl inlX4 (by decide) rfl wq_210 dX4_digit_22 ?_
    refine x_iconst (pc := 25) (v := (1 : Int32)) E dX4_digit_25 rfl ?_
    refine x_iadd (pc := 26) E dX4_digit_26 ?_
    refine x_put (pc := 27) (p := 3) E rfl (Nat.le_of_ble_eq_true rfl) rfl inlX4 tyX4_ok nmX4 (by decide) rfl rfl rfl rfl wq_210 dX4_digit_27 hf (fun σ2 hf => ?_)
    refine x_aload_n 0 (pc := 30) (i := 0) E dX4_digit_30 rfl rfl ?_
    refine x_getR (pc := 31) (r := 12) (p := 0) E rfl (Nat.le_of_ble_eq_true rfl) rfl inlX4 (by decide) rfl wq_55 dX4_digit_31 ?_
    refine x_aload_n 0 (pc := 34) (i := 0) E dX4_digit_34 rfl rfl ?_
    refine x_getI (pc := 35) (p := 3) E rfl (Nat.le_of_ble_eq_true rfl) rfl inlX4 (by decide) rfl wq_210 dX4_digit_35 ?_
    refine x_iconst (pc := 38) (v := (1 : Int32)) E dX4_digit_38 rfl ?_
    refine x_isub (pc := 39) E dX4_digit_39 ?_
    refine x_baload (pc := 40) E rfl (Nat.le_of_ble_eq_true rfl) dX4_digit_40 hf (fun hf => ?_)
    refine x_bipush (pc := 41) (v := (48 : Int32)) E dX4_digit_41 rfl ?_
    refine x_isub (pc := 43) E dX4_digit_43 ?_
    obtain ⟨rfl, rfl⟩ := Prod.mk.inj (Option.some.inj hf)
    exact x_iret (pc := 44) E hR dX4_digit_44
  · refine x_aload_n 0 (pc := 9) (i := 0) E dX4_digit_9 rfl rfl ?_
    refine x_aload_n 0 (pc := 10) (i := 0) E dX4_digit_10 rfl rfl ?_
    refine x_getI (pc := 11) (p := 3) E rfl (Nat.le_of_ble_eq_true rfl) rfl inlX4 (by decide) rfl wq_210 dX4_digit_11 ?_
    refine x_callVwi (pc := 14) (na := 1) (As := [.int (σ.1 11 3)]) E (c_X4_fault G (σ.1 11 3) σ) rfl (Nat.le_of_ble_eq_true rfl) rfl wq_231 wq_21 wq_228 wq_229 wq_230 rfl rfl (by decide) ⟨Nat.le_of_ble_eq_true rfl, Nat.le_of_ble_eq_true rfl⟩ rfl rfl (Nat.le_of_ble_eq_true rfl) dX4_digit_14 hf (fun r3 σ4 hf => ?_)
    refine x_pop (pc := 17) E dX4_digit_17 rfl ?_
    refine x_iconst (pc := 18) (v := (-1 : Int32)) E dX4_digit_18 rfl ?_
    obtain ⟨rfl, rfl⟩ := Prod.mk.inj (Option.some.inj hf)
    exact x_iret (pc := 19) E hR dX4_digit_19
set_option maxHeartbeats 4000000 in
set_option maxRecDepth 100000 in
theorem c_X4_sign (G : Gx) (v1 : Int32) (σ : MM) (r : Int32) (σ' : MM) (hf : f_X4_sign v1 σ = some (r, σ')) : Ct shS 56 yX4_sign cX4_sign 2 (some .boolean) rm_X4_sign G [.ref (gad G 11), .int v1] σ (some (.int r)) σ' := by
  refine ct_of (by decide) (Nat.le_of_ble_eq_true rfl) (fun K E hR => ?_)
  have E : OKc 56 cX4_sign 2 RX4 G K := E
  show XJ shS 56 2 rm_X4_sign G K σ [(0, .ref (gad G 11)), (1, .int v1)] 0 []
  unfold f_X4_sign at hf
  refine x_aload_n 0 (pc := 0) (i := 0) E dX4_sign_0 rfl rfl ?_
  refine x_getI (pc := 1) (p := 3) E rfl (Nat.le_of_ble_eq_true rfl) rfl inlX4 (by decide) rfl wq_210 dX4_sign_1 ?_
  refine x_aload_n 0 (pc := 4) (i := 0) E dX4_sign_4 rfl rfl ?_
  refine x_getI (pc := 5) (p := 2) E rfl (Nat.le_of_ble_eq_true rfl) rfl inlX4 (by decide) rfl wq_196 dX4_sign_5 ?_
  refine x_icmp_ge (pc := 8) (tgt := 24) E dX4_sign_8 (by decide) hf (fun hf => ?_) (fun hf => ?_)
  · refine x_aload_n 0 (pc := 24) (i := 0) E dX4_sign_24 rfl rfl ?_
    refine x_aload_n 0 (pc := 25) (i := 0) E dX4_sign_25 rfl rfl ?_
    refine x_getI (pc := 26) (p := 3) E rfl (Nat.le_of_ble_eq_true rfl) rfl inlX4 (by decide) rfl wq_210 dX4_sign_26 ?_
    refine x_callVwi (pc := 29) (na := 1) (As := [.int (σ.1 11 3)]) E (c_X4_fault G (σ.1 11 3) σ) rfl (Nat.le_of_ble_eq_true rfl) rfl wq_231 wq_21 wq_228 wq_229 wq_230 rfl rfl (by decide) ⟨Nat.le_of_ble_eq_true rfl, Nat.le_of_ble_eq_true rfl⟩ rfl rfl (Nat.le_of_ble_eq_true rfl) dX4_sign_29 hf (fun r1 σ2 hf => ?_)
    obtain ⟨hz, hf⟩ := chk_some hf
    obtain ⟨rfl, rfl⟩ := Prod.mk.inj (Option.some.inj hf)
    exact x_zret (pc := 32) E hR (isB_nar hz) dX4_sign_32
  · refine x_aload_n 0 (pc := 11) (i := 0) E dX4_sign_11 rfl rfl ?_
    refine x_getR (pc := 12) (r := 12) (p := 0) E rfl (Nat.le_of_ble_eq_true rfl) rfl inlX4 (by decide) rfl wq_55 dX4_sign_12 ?_
    refine x_aload_n 0 (pc := 15) (i := 0) E dX4_sign_15 rfl rfl ?_
    refine x_getI (pc := 16) (p := 3) E rfl (Nat.le_of_ble_eq_true rfl) rfl inlX4 (by decide) rfl wq_210 dX4_sign_16 ?_
    refine x_baload (pc := 19) E rfl (Nat.le_of_ble_eq_true rfl) dX4_sign_19 hf (fun hf => ?_)
    refine x_iload_n 1 (pc := 20) (i := 1) E dX4_sign_20 rfl rfl ?_
    refine x_icmp_eq (pc := 21) (tgt := 33) E dX4_sign_21 (by decide) hf (fun hf => ?_) (fun hf => ?_)
    · refine x_aload_n 0 (pc := 33) (i := 0) E dX4_sign_33 rfl rfl ?_
      refine x_dup (pc := 34) E dX4_sign_34 rfl ?_
      refine x_getI (pc := 35) (p := 3) E rfl (Nat.le_of_ble_eq_true rfl) rfl inlX4 (by decide) rfl wq_210 dX4_sign_35 ?_
      refine x_iconst (pc := 38) (v := (1 : Int32)) E dX4_sign_38 rfl ?_
      refine x_iadd (pc := 39) E dX4_sign_39 ?_
      refine x_put (pc := 40) (p := 3) E rfl (Nat.le_of_ble_eq_true rfl) rfl inlX4 tyX4_ok nmX4 (by decide) rfl rfl rfl rfl wq_210 dX4_sign_40 hf (fun σ3 hf => ?_)
      refine x_iconst (pc := 43) (v := (1 : Int32)) E dX4_sign_43 rfl ?_
      obtain ⟨hz, hf⟩ := chk_some hf
      obtain ⟨rfl, rfl⟩ := Prod.mk.inj (Option.some.inj hf)
      exact x_zret (pc := 44) E hR (isB_nar hz) dX4_sign_44
    · refine x_aload_n 0 (pc := 24) (i := 0) E dX4_sign_24 rfl rfl ?_
      refine x_aload_n 0 (pc := 25) (i := 0) E dX4_sign_25 rfl rfl ?_
      refine x_getI (pc := 26) (p := 3) E rfl (Nat.le_of_ble_eq_true rfl) rfl inlX4 (by decide) rfl wq_210 dX4_sign_26 ?_
      refine x_callVwi (pc := 29) (na := 1) (As := [.int (σ.1 11 3)]) E (c_X4_fault G (σ.1 11 3) σ) rfl (Nat.le_of_ble_eq_true rfl) rfl wq_231 wq_21 wq_228 wq_229 wq_230 rfl rfl (by decide) ⟨Nat.le_of_ble_eq_true rfl, Nat.le_of_ble_eq_true rfl⟩ rfl rfl (Nat.le_of_ble_eq_true rfl) dX4_sign_29 hf (fun r4 σ5 hf => ?_)
      obtain ⟨hz, hf⟩ := chk_some hf
      obtain ⟨rfl, rfl⟩ := Prod.mk.inj (Option.some.inj hf)
      exact x_zret (pc := 32) E hR (isB_nar hz) dX4_sign_32
set_option maxHeartbeats 4000000 in
set_option maxRecDepth 100000 in
theorem l_X4_number_15 (G : Gx) {K : Kx}   (v1 : Int32) (E : OKc 56 cX4_number 4 RX4 G K) : ∀ (m : Nat) (v2 : Int32) (v3 : Int32) (σ : MM) (out : Int32 × MM), loopN (fun s => g_X4_number_15 v1 s.1 s.2.1 s.2.2) m (v2, v3, σ) = some out → XJ shS 56 4 rm_X4_number G K out.2 [(0, .ref (gad G 11)), (1, .int v1), (2, .int out.1)] 53 [] → XJ shS 56 4 rm_X4_number G K σ [(0, .ref (gad G 11)), (1, .int v1), (2, .int v2), (3, .int v3)] 15 [] := by
  intro m
  induction m with
  | zero => intro v2 v3 σ out hf; exact (loopN_0 hf).elim
  | succ m ih =>
    intro v2 v3 σ out hf hk
    obtain ⟨q, hf, h2⟩ := loopN_s hf
    have hf : g_X4_number_15 v1 v2 v3 σ = some q := hf
    unfold g_X4_number_15 at hf
    refine x_iload_n 3 (pc := 15) (i := 3) E dX4_number_15 rfl rfl ?_
    refine x_iconst (pc := 16) (v := (2 : Int32)) E dX4_number_16 rfl ?_
    refine x_icmp_ge (pc := 17) (tgt := 53) E dX4_number_17 (by decide) hf (fun hf => ?_) (fun hf => ?_)
    · obtain rfl := Option.some.inj hf
      obtain rfl := lpk_r h2
      exact x_sub [0, 1, 2] rfl hk
    · refine x_iload_n 2 (pc := 20) (i := 2) E dX4_number_20 rfl rfl ?_
      refine x_if_le (y := 0) (pc := 21) (tgt := 53) E dX4_number_21 (by decide) hf (fun hf => ?_) (fun hf => ?_)
      · obtain rfl := Option.some.inj hf
        obtain rfl := lpk_r h2
        exact x_sub [0, 1, 2] rfl hk
      · refine x_aload_n 0 (pc := 24) (i := 0) E dX4_number_24 rfl rfl ?_
        refine x_iconst (pc := 25) (v := (0 : Int32)) E dX4_number_25 rfl ?_
        refine x_bipush (pc := 26) (v := (9 : Int32)) E dX4_number_26 rfl ?_
        refine x_callVri (pc := 28) (na := 2) (As := [.int (0 : Int32), .int (9 : Int32)]) E (c_X4_isDigit G (0 : Int32) (9 : Int32) σ) rfl (Nat.le_of_ble_eq_true rfl) rfl wq_227 wq_21 wq_224 wq_225 wq_226 rfl rfl (by decide) ⟨Nat.le_of_ble_eq_true rfl, Nat.le_of_ble_eq_true rfl⟩ rfl rfl (Nat.le_of_ble_eq_true rfl) dX4_number_28 hf (fun r3 hf => ?_)
        refine x_if_eq (y := 0) (pc := 31) (tgt := 53) E dX4_number_31 (by decide) hf (fun hf => ?_) (fun hf => ?_)
        · obtain rfl := Option.some.inj hf
          obtain rfl := lpk_r h2
          exact x_sub [0, 1, 2] rfl hk
        · refine x_bipush (pc := 34) (v := (10 : Int32)) E dX4_number_34 rfl ?_
          refine x_iload_n 2 (pc := 36) (i := 2) E dX4_number_36 rfl rfl ?_
          refine x_imul (pc := 37) E dX4_number_37 ?_
          refine x_aload_n 0 (pc := 38) (i := 0) E dX4_number_38 rfl rfl ?_
          refine x_iconst (pc := 39) (v := (0 : Int32)) E dX4_number_39 rfl ?_
          refine x_bipush (pc := 40) (v := (9 : Int32)) E dX4_number_40 rfl ?_
          refine x_callVwi (pc := 42) (na := 2) (As := [.int (0 : Int32), .int (9 : Int32)]) E (c_X4_digit G (0 : Int32) (9 : Int32) σ) rfl (Nat.le_of_ble_eq_true rfl) rfl wq_223 wq_21 wq_220 wq_221 wq_222 rfl rfl (by decide) ⟨Nat.le_of_ble_eq_true rfl, Nat.le_of_ble_eq_true rfl⟩ rfl rfl (Nat.le_of_ble_eq_true rfl) dX4_number_42 hf (fun r4 σ5 hf => ?_)
          refine x_iadd (pc := 45) E dX4_number_45 ?_
          refine x_istore_n (pc := 46) (lv' := [(2, .int (((10 : Int32) * v2) + r4)), (0, .ref (gad G 11)), (1, .int v1), (3, .int v3)]) E dX4_number_46 rfl (by decide) rfl ?_
          refine x_iinc 3 (pc := 47) (v := v3 + 1) (lv' := [(3, .int (v3 + 1)), (2, .int (((10 : Int32) * v2) + r4)), (0, .ref (gad G 11)), (1, .int v1)]) E dX4_number_47 rfl rfl (by decide) rfl ?_
          refine x_goto (pc := 50) (tgt := 15) E dX4_number_50 (by decide) ?_
          obtain rfl := Option.some.inj hf
          exact x_sub [2, 3, 1, 0] rfl (ih _ _ _ _ (lpk_l h2) hk)
set_option maxHeartbeats 4000000 in
set_option maxRecDepth 100000 in
theorem c_X4_number (G : Gx) (σ : MM) (r : Int32) (σ' : MM) (hf : f_X4_number σ = some (r, σ')) : Ct shS 56 yX4_number cX4_number 4 (some .int) rm_X4_number G [.ref (gad G 11)] σ (some (.int r)) σ' := by
  refine ct_of (by decide) (Nat.le_of_ble_eq_true rfl) (fun K E hR => ?_)
  have E : OKc 56 cX4_number 4 RX4 G K := E
  show XJ shS 56 4 rm_X4_number G K σ [(0, .ref (gad G 11))] 0 []
  unfold f_X4_number at hf
  refine x_aload_n 0 (pc := 0) (i := 0) E dX4_number_0 rfl rfl ?_
  refine x_getI (pc := 1) (p := 3) E rfl (Nat.le_of_ble_eq_true rfl) rfl inlX4 (by decide) rfl wq_210 dX4_number_1 ?_
  refine x_istore_n (pc := 4) (lv' := [(1, .int (σ.1 11 3)), (0, .ref (gad G 11))]) E dX4_number_4 rfl (by decide) rfl ?_
  refine x_aload_n 1 (pc := 5) (i := 0) E dX4_number_5 rfl rfl ?_
  refine x_iconst (pc := 6) (v := (0 : Int32)) E dX4_number_6 rfl ?_
  refine x_bipush (pc := 7) (v := (9 : Int32)) E dX4_number_7 rfl ?_
  refine x_callVwi (pc := 9) (na := 2) (As := [.int (0 : Int32), .int (9 : Int32)]) E (c_X4_digit G (0 : Int32) (9 : Int32) σ) rfl (Nat.le_of_ble_eq_true rfl) rfl wq_223 wq_21 wq_220 wq_221 wq_222 rfl rfl (by decide) ⟨Nat.le_of_ble_eq_true rfl, Nat.le_of_ble_eq_true rfl⟩ rfl rfl (Nat.le_of_ble_eq_true rfl) dX4_number_9 hf (fun r1 σ2 hf => ?_)
  refine x_istore_n (pc := 12) (lv' := [(2, .int r1), (1, .int (σ.1 11 3)), (0, .ref (gad G 11))]) E dX4_number_12 rfl (by decide) rfl ?_
  refine x_iconst (pc := 13) (v := (0 : Int32)) E dX4_number_13 rfl ?_
  refine x_istore_n (pc := 14) (lv' := [(3, .int (0 : Int32)), (2, .int r1), (1, .int (σ.1 11 3)), (0, .ref (gad G 11))]) E dX4_number_14 rfl (by decide) rfl ?_
  obtain ⟨o6, hl7, hf⟩ := bind_some hf
  refine x_sub [3, 2, 1, 0] rfl (l_X4_number_15 G   (σ.1 11 3) E FU _ _ _ o6 hl7 ?_)
  refine x_iload_n 2 (pc := 53) (i := 2) E dX4_number_53 rfl rfl ?_
  refine x_bipush (pc := 54) (v := (100 : Int32)) E dX4_number_54 rfl ?_
  refine x_icmp_le (pc := 56) (tgt := 67) E dX4_number_56 (by decide) hf (fun hf => ?_) (fun hf => ?_)
  · refine x_iload_n 2 (pc := 67) (i := 2) E dX4_number_67 rfl rfl ?_
    obtain ⟨rfl, rfl⟩ := Prod.mk.inj (Option.some.inj hf)
    exact x_iret (pc := 68) E hR dX4_number_68
  · refine x_aload_n 0 (pc := 59) (i := 0) E dX4_number_59 rfl rfl ?_
    refine x_iload_n 1 (pc := 60) (i := 1) E dX4_number_60 rfl rfl ?_
    refine x_callVwi (pc := 61) (na := 1) (As := [.int (σ.1 11 3)]) E (c_X4_fault G (σ.1 11 3) o6.2) rfl (Nat.le_of_ble_eq_true rfl) rfl wq_231 wq_21 wq_228 wq_229 wq_230 rfl rfl (by decide) ⟨Nat.le_of_ble_eq_true rfl, Nat.le_of_ble_eq_true rfl⟩ rfl rfl (Nat.le_of_ble_eq_true rfl) dX4_number_61 hf (fun r8 σ9 hf => ?_)
    refine x_pop (pc := 64) E dX4_number_64 rfl ?_
    refine x_iconst (pc := 65) (v := (-1 : Int32)) E dX4_number_65 rfl ?_
    obtain ⟨rfl, rfl⟩ := Prod.mk.inj (Option.some.inj hf)
    exact x_iret (pc := 66) E hR dX4_number_66
set_option maxHeartbeats 4000000 in
set_option maxRecDepth 100000 in
theorem c_X4_readSort (G : Gx) (σ : MM) (r : Int32) (σ' : MM) (hf : f_X4_readSort σ = some (r, σ')) : Ct shS 56 yX4_readSort cX4_readSort 5 (some .boolean) rm_X4_readSort G [.ref (gad G 11), .ref (gad G 1)] σ (some (.int r)) σ' := by
  refine ct_of (by decide) (Nat.le_of_ble_eq_true rfl) (fun K E hR => ?_)
  have E : OKc 56 cX4_readSort 5 RX4 G K := E
  show XJ shS 56 5 rm_X4_readSort G K σ [(0, .ref (gad G 11)), (1, .ref (gad G 1))] 0 []
  unfold f_X4_readSort at hf
  refine x_aload_n 0 (pc := 0) (i := 0) E dX4_readSort_0 rfl rfl ?_
  refine x_iconst (pc := 1) (v := (0 : Int32)) E dX4_readSort_1 rfl ?_
  refine x_iconst (pc := 2) (v := (5 : Int32)) E dX4_readSort_2 rfl ?_
  refine x_callVwi (pc := 3) (na := 2) (As := [.int (0 : Int32), .int (5 : Int32)]) E (c_X4_digit G (0 : Int32) (5 : Int32) σ) rfl (Nat.le_of_ble_eq_true rfl) rfl wq_223 wq_21 wq_220 wq_221 wq_222 rfl rfl (by decide) ⟨Nat.le_of_ble_eq_true rfl, Nat.le_of_ble_eq_true rfl⟩ rfl rfl (Nat.le_of_ble_eq_true rfl) dX4_readSort_3 hf (fun r1 σ2 hf => ?_)
  refine x_istore_n (pc := 6) (lv' := [(2, .int r1), (0, .ref (gad G 11)), (1, .ref (gad G 1))]) E dX4_readSort_6 rfl (by decide) rfl ?_
  refine x_iload_n 0 (pc := 7) (i := 2) E dX4_readSort_7 rfl rfl ?_
  refine x_if_lt (y := 0) (pc := 8) (tgt := 20) E dX4_readSort_8 (by decide) hf (fun hf => ?_) (fun hf => ?_)
  · refine x_iconst (pc := 20) (v := (0 : Int32)) E dX4_readSort_20 rfl ?_
    obtain ⟨hz, hf⟩ := chk_some hf
    obtain ⟨rfl, rfl⟩ := Prod.mk.inj (Option.some.inj hf)
    exact x_zret (pc := 21) E hR (isB_nar hz) dX4_readSort_21
  · refine x_aload_n 1 (pc := 11) (i := 0) E dX4_readSort_11 rfl rfl ?_
    refine x_bipush (pc := 12) (v := (58 : Int32)) E dX4_readSort_12 rfl ?_
    refine x_callVwi (pc := 14) (na := 1) (As := [.int (58 : Int32)]) E (c_X4_sign G (58 : Int32) σ2) rfl (Nat.le_of_ble_eq_true rfl) rfl wq_235 wq_21 wq_232 wq_233 wq_234 rfl rfl (by decide) ⟨Nat.le_of_ble_eq_true rfl, Nat.le_of_ble_eq_true rfl⟩ rfl rfl (Nat.le_of_ble_eq_true rfl) dX4_readSort_14 hf (fun r3 σ4 hf => ?_)
    refine x_if_ne (y := 0) (pc := 17) (tgt := 22) E dX4_readSort_17 (by decide) hf (fun hf => ?_) (fun hf => ?_)
    · refine x_aload_n 1 (pc := 22) (i := 0) E dX4_readSort_22 rfl rfl ?_
      refine x_callVwi (pc := 23) (na := 0) (As := []) E (c_X4_number G σ4) rfl (Nat.le_of_ble_eq_true rfl) rfl wq_239 wq_21 wq_236 wq_237 wq_238 rfl rfl (by decide) ⟨Nat.le_of_ble_eq_true rfl, Nat.le_of_ble_eq_true rfl⟩ rfl rfl (Nat.le_of_ble_eq_true rfl) dX4_readSort_23 hf (fun r5 σ6 hf => ?_)
      refine x_istore_n (pc := 26) (lv' := [(3, .int r5), (2, .int r1), (0, .ref (gad G 11)), (1, .ref (gad G 1))]) E dX4_readSort_26 rfl (by decide) rfl ?_
      refine x_iload_n 0 (pc := 27) (i := 3) E dX4_readSort_27 rfl rfl ?_
      refine x_if_lt (y := 0) (pc := 28) (tgt := 40) E dX4_readSort_28 (by decide) hf (fun hf => ?_) (fun hf => ?_)
      · refine x_iconst (pc := 40) (v := (0 : Int32)) E dX4_readSort_40 rfl ?_
        obtain ⟨hz, hf⟩ := chk_some hf
        obtain ⟨rfl, rfl⟩ := Prod.mk.inj (Option.some.inj hf)
        exact x_zret (pc := 41) E hR (isB_nar hz) dX4_readSort_41
      · refine x_aload_n 2 (pc := 31) (i := 0) E dX4_readSort_31 rfl rfl ?_
        refine x_bipush (pc := 32) (v := (44 : Int32)) E dX4_readSort_32 rfl ?_
        refine x_callVwi (pc := 34) (na := 1) (As := [.int (44 : Int32)]) E (c_X4_sign G (44 : Int32) σ6) rfl (Nat.le_of_ble_eq_true rfl) rfl wq_235 wq_21 wq_232 wq_233 wq_234 rfl rfl (by decide) ⟨Nat.le_of_ble_eq_true rfl, Nat.le_of_ble_eq_true rfl⟩ rfl rfl (Nat.le_of_ble_eq_true rfl) dX4_readSort_34 hf (fun r7 σ8 hf => ?_)
        refine x_if_ne (y := 0) (pc := 37) (tgt := 42) E dX4_readSort_37 (by decide) hf (fun hf => ?_) (fun hf => ?_)
        · refine x_aload_n 2 (pc := 42) (i := 0) E dX4_readSort_42 rfl rfl ?_
          refine x_callVwi (pc := 43) (na := 0) (As := []) E (c_X4_number G σ8) rfl (Nat.le_of_ble_eq_true rfl) rfl wq_239 wq_21 wq_236 wq_237 wq_238 rfl rfl (by decide) ⟨Nat.le_of_ble_eq_true rfl, Nat.le_of_ble_eq_true rfl⟩ rfl rfl (Nat.le_of_ble_eq_true rfl) dX4_readSort_43 hf (fun r9 σ10 hf => ?_)
          refine x_istore (pc := 46) (lv' := [(4, .int r9), (3, .int r5), (2, .int r1), (0, .ref (gad G 11)), (1, .ref (gad G 1))]) E dX4_readSort_46 (by decide) rfl ?_
          refine x_iload 0 (pc := 48) E dX4_readSort_48 rfl ?_
          refine x_if_lt (y := 0) (pc := 50) (tgt := 62) E dX4_readSort_50 (by decide) hf (fun hf => ?_) (fun hf => ?_)
          · refine x_iconst (pc := 62) (v := (0 : Int32)) E dX4_readSort_62 rfl ?_
            obtain ⟨hz, hf⟩ := chk_some hf
            obtain ⟨rfl, rfl⟩ := Prod.mk.inj (Option.some.inj hf)
            exact x_zret (pc := 63) E hR (isB_nar hz) dX4_readSort_63
          · refine x_aload_n 3 (pc := 53) (i := 0) E dX4_readSort_53 rfl rfl ?_
            refine x_bipush (pc := 54) (v := (59 : Int32)) E dX4_readSort_54 rfl ?_
            refine x_callVwi (pc := 56) (na := 1) (As := [.int (59 : Int32)]) E (c_X4_sign G (59 : Int32) σ10) rfl (Nat.le_of_ble_eq_true rfl) rfl wq_235 wq_21 wq_232 wq_233 wq_234 rfl rfl (by decide) ⟨Nat.le_of_ble_eq_true rfl, Nat.le_of_ble_eq_true rfl⟩ rfl rfl (Nat.le_of_ble_eq_true rfl) dX4_readSort_56 hf (fun r11 σ12 hf => ?_)
            refine x_if_ne (y := 0) (pc := 59) (tgt := 64) E dX4_readSort_59 (by decide) hf (fun hf => ?_) (fun hf => ?_)
            · refine x_aload_n 4 (pc := 64) (i := 1) E dX4_readSort_64 rfl rfl ?_
              refine x_getRN (pc := 65) (r := 2) (p := 0) E rfl (Nat.le_of_ble_eq_true rfl) rfl inlX0 (by decide) rfl wn_3 dX4_readSort_65 ?_
              refine x_iload_n 2 (pc := 68) (i := 2) E dX4_readSort_68 rfl rfl ?_
              refine x_iload_n 1 (pc := 69) (i := 3) E dX4_readSort_69 rfl rfl ?_
              refine x_iastore (pc := 70) E rfl (Nat.le_of_ble_eq_true rfl) dX4_readSort_70 hf (fun σ13 hf => ?_)
              refine x_aload_n 4 (pc := 71) (i := 1) E dX4_readSort_71 rfl rfl ?_
              refine x_getRN (pc := 72) (r := 3) (p := 1) E rfl (Nat.le_of_ble_eq_true rfl) rfl inlX0 (by decide) rfl wn_6 dX4_readSort_72 ?_
              refine x_iload_n 2 (pc := 75) (i := 2) E dX4_readSort_75 rfl rfl ?_
              refine x_iload 0 (pc := 76) E dX4_readSort_76 rfl ?_
              refine x_iastore (pc := 78) E rfl (Nat.le_of_ble_eq_true rfl) dX4_readSort_78 hf (fun σ14 hf => ?_)
              refine x_iconst (pc := 79) (v := (1 : Int32)) E dX4_readSort_79 rfl ?_
              obtain ⟨hz, hf⟩ := chk_some hf
              obtain ⟨rfl, rfl⟩ := Prod.mk.inj (Option.some.inj hf)
              exact x_zret (pc := 80) E hR (isB_nar hz) dX4_readSort_80
            · refine x_iconst (pc := 62) (v := (0 : Int32)) E dX4_readSort_62 rfl ?_
              obtain ⟨hz, hf⟩ := chk_some hf
              obtain ⟨rfl, rfl⟩ := Prod.mk.inj (Option.some.inj hf)
              exact x_zret (pc := 63) E hR (isB_nar hz) dX4_readSort_63
        · refine x_iconst (pc := 40) (v := (0 : Int32)) E dX4_readSort_40 rfl ?_
          obtain ⟨hz, hf⟩ := chk_some hf
          obtain ⟨rfl, rfl⟩ := Prod.mk.inj (Option.some.inj hf)
          exact x_zret (pc := 41) E hR (isB_nar hz) dX4_readSort_41
    · refine x_iconst (pc := 20) (v := (0 : Int32)) E dX4_readSort_20 rfl ?_
      obtain ⟨hz, hf⟩ := chk_some hf
      obtain ⟨rfl, rfl⟩ := Prod.mk.inj (Option.some.inj hf)
      exact x_zret (pc := 21) E hR (isB_nar hz) dX4_readSort_21
set_option maxHeartbeats 4000000 in
set_option maxRecDepth 100000 in
theorem l_X4_readPeople_84 (G : Gx) {K : Kx}   (v3 : Int32) (E : OKc 56 cX4_readPeople 5 RX4 G K) : ∀ (m : Nat) (v4 : Int32) (σ : MM) (out : MM), loopN (fun s => g_X4_readPeople_84 v3 s.1 s.2) m (v4, σ) = some out → XJ shS 56 5 rm_X4_readPeople G K out [] 107 [] → XJ shS 56 5 rm_X4_readPeople G K σ [(0, .ref (gad G 11)), (1, .ref (gad G 1)), (3, .int v3), (4, .int v4)] 84 [] := by
  intro m
  induction m with
  | zero => intro v4 σ out hf; exact (loopN_0 hf).elim
  | succ m ih =>
    intro v4 σ out hf hk
    obtain ⟨q, hf, h2⟩ := loopN_s hf
    have hf : g_X4_readPeople_84 v3 v4 σ = some q := hf
    unfold g_X4_readPeople_84 at hf
    refine x_iload 3 (pc := 84) E dX4_readPeople_84 rfl ?_
    refine x_iload_n 2 (pc := 86) (i := 3) E dX4_readPeople_86 rfl rfl ?_
    refine x_icmp_ge (pc := 87) (tgt := 107) E dX4_readPeople_87 (by decide) hf (fun hf => ?_) (fun hf => ?_)
    · obtain rfl := Option.some.inj hf
      obtain rfl := lpk_r h2
      exact x_sub [] rfl hk
    · refine x_aload_n 1 (pc := 90) (i := 1) E dX4_readPeople_90 rfl rfl ?_
      refine x_aload_n 0 (pc := 91) (i := 0) E dX4_readPeople_91 rfl rfl ?_
      refine x_getR (pc := 92) (r := 13) (p := 1) E rfl (Nat.le_of_ble_eq_true rfl) rfl inlX4 (by decide) rfl wq_56 dX4_readPeople_92 ?_
      refine x_iload 3 (pc := 95) E dX4_readPeople_95 rfl ?_
      refine x_iaload (pc := 97) E rfl (Nat.le_of_ble_eq_true rfl) dX4_readPeople_97 hf (fun hf => ?_)
      refine x_callVNwv (pc := 98) (na := 1) (As := [.int (σ.1 13 v4.toNatClampNeg)]) E (c_X0_add G (σ.1 13 v4.toNatClampNeg) σ) rfl (Nat.le_of_ble_eq_true rfl) rfl wq_158 wq_16 wn_27 wq_156 wq_157 rfl rfl (by decide) ⟨Nat.le_of_ble_eq_true rfl, Nat.le_of_ble_eq_true rfl⟩ rfl rfl (Nat.le_of_ble_eq_true rfl) dX4_readPeople_98 hf (fun σ4 hf => ?_)
      refine x_iinc 3 (pc := 101) (v := v4 + 1) (lv' := [(4, .int (v4 + 1)), (0, .ref (gad G 11)), (1, .ref (gad G 1)), (3, .int v3)]) E dX4_readPeople_101 rfl rfl (by decide) rfl ?_
      refine x_goto (pc := 104) (tgt := 84) E dX4_readPeople_104 (by decide) ?_
      obtain rfl := Option.some.inj hf
      exact x_sub [1, 2, 3, 0] rfl (ih _ _ _ (lpk_l h2) hk)
set_option maxHeartbeats 4000000 in
set_option maxRecDepth 100000 in
theorem l_X4_readPeople_10 (G : Gx) {K : Kx}   (v2 : Int32) (r : Int32) (σ' : MM) (hR : RetX shS 56 (some .boolean) G K (some (.int r)) σ') (E : OKc 56 cX4_readPeople 5 RX4 G K) : ∀ (m : Nat) (v3 : Int32) (σ : MM), loopN (fun s => g_X4_readPeople_10 v2 s.1 s.2) m (v3, σ) = some (r, σ') → XJ shS 56 5 rm_X4_readPeople G K σ [(0, .ref (gad G 11)), (1, .ref (gad G 1)), (2, .int v2), (3, .int v3)] 10 [] := by
  intro m
  induction m with
  | zero => intro v3 σ hf; exact (loopN_0 hf).elim
  | succ m ih =>
    intro v3 σ hf
    obtain ⟨q, hf, h2⟩ := loopN_s hf
    have hf : g_X4_readPeople_10 v2 v3 σ = some q := hf
    unfold g_X4_readPeople_10 at hf
    refine x_iload_n 3 (pc := 10) (i := 3) E dX4_readPeople_10 rfl rfl ?_
    refine x_iload_n 2 (pc := 11) (i := 2) E dX4_readPeople_11 rfl rfl ?_
    refine x_icmp_ge (pc := 12) (tgt := 57) E dX4_readPeople_12 (by decide) hf (fun hf => ?_) (fun hf => ?_)
    · refine x_iload_n 3 (pc := 57) (i := 3) E dX4_readPeople_57 rfl rfl ?_
      refine x_if_ne (y := 0) (pc := 58) (tgt := 70) E dX4_readPeople_58 (by decide) hf (fun hf => ?_) (fun hf => ?_)
      · refine x_aload_n 0 (pc := 70) (i := 0) E dX4_readPeople_70 rfl rfl ?_
        refine x_bipush (pc := 71) (v := (59 : Int32)) E dX4_readPeople_71 rfl ?_
        refine x_callVwi (pc := 73) (na := 1) (As := [.int (59 : Int32)]) E (c_X4_sign G (59 : Int32) σ) rfl (Nat.le_of_ble_eq_true rfl) rfl wq_235 wq_21 wq_232 wq_233 wq_234 rfl rfl (by decide) ⟨Nat.le_of_ble_eq_true rfl, Nat.le_of_ble_eq_true rfl⟩ rfl rfl (Nat.le_of_ble_eq_true rfl) dX4_readPeople_73 hf (fun r1 σ2 hf => ?_)
        refine x_if_ne (y := 0) (pc := 76) (tgt := 81) E dX4_readPeople_76 (by decide) hf (fun hf => ?_) (fun hf => ?_)
        · refine x_iconst (pc := 81) (v := (0 : Int32)) E dX4_readPeople_81 rfl ?_
          refine x_istore (pc := 82) (lv' := [(4, .int (0 : Int32)), (0, .ref (gad G 11)), (1, .ref (gad G 1)), (2, .int v2), (3, .int v3)]) E dX4_readPeople_82 (by decide) rfl ?_
          obtain ⟨o5, hl6, hf⟩ := bind_some hf
          refine x_sub [1, 2, 4, 0] rfl (l_X4_readPeople_84 G   v3 E FU _ _ o5 hl6 ?_)
          refine x_iconst (pc := 107) (v := (1 : Int32)) E dX4_readPeople_107 rfl ?_
          obtain ⟨hz, hf⟩ := chk_some hf
          obtain rfl := Option.some.inj hf
          obtain ⟨rfl, rfl⟩ := Prod.mk.inj (lpk_r h2)
          exact x_zret (pc := 108) E hR (isB_nar hz) dX4_readPeople_108
        · refine x_iconst (pc := 79) (v := (0 : Int32)) E dX4_readPeople_79 rfl ?_
          obtain ⟨hz, hf⟩ := chk_some hf
          obtain rfl := Option.some.inj hf
          obtain ⟨rfl, rfl⟩ := Prod.mk.inj (lpk_r h2)
          exact x_zret (pc := 80) E hR (isB_nar hz) dX4_readPeople_80
      · refine x_aload_n 0 (pc := 61) (i := 0) E dX4_readPeople_61 rfl rfl ?_
        refine x_aload_n 0 (pc := 62) (i := 0) E dX4_readPeople_62 rfl rfl ?_
        refine x_getI (pc := 63) (p := 3) E rfl (Nat.le_of_ble_eq_true rfl) rfl inlX4 (by decide) rfl wq_210 dX4_readPeople_63 ?_
        refine x_callVwi (pc := 66) (na := 1) (As := [.int (σ.1 11 3)]) E (c_X4_fault G (σ.1 11 3) σ) rfl (Nat.le_of_ble_eq_true rfl) rfl wq_231 wq_21 wq_228 wq_229 wq_230 rfl rfl (by decide) ⟨Nat.le_of_ble_eq_true rfl, Nat.le_of_ble_eq_true rfl⟩ rfl rfl (Nat.le_of_ble_eq_true rfl) dX4_readPeople_66 hf (fun r7 σ8 hf => ?_)
        obtain ⟨hz, hf⟩ := chk_some hf
        obtain rfl := Option.some.inj hf
        obtain ⟨rfl, rfl⟩ := Prod.mk.inj (lpk_r h2)
        exact x_zret (pc := 69) E hR (isB_nar hz) dX4_readPeople_69
    · refine x_iload_n 3 (pc := 15) (i := 3) E dX4_readPeople_15 rfl rfl ?_
      refine x_if_eq (y := 0) (pc := 16) (tgt := 28) E dX4_readPeople_16 (by decide) hf (fun hf => ?_) (fun hf => ?_)
      · refine x_aload_n 0 (pc := 28) (i := 0) E dX4_readPeople_28 rfl rfl ?_
        refine x_iconst (pc := 29) (v := (0 : Int32)) E dX4_readPeople_29 rfl ?_
        refine x_iconst (pc := 30) (v := (5 : Int32)) E dX4_readPeople_30 rfl ?_
        refine x_callVwi (pc := 31) (na := 2) (As := [.int (0 : Int32), .int (5 : Int32)]) E (c_X4_digit G (0 : Int32) (5 : Int32) σ) rfl (Nat.le_of_ble_eq_true rfl) rfl wq_223 wq_21 wq_220 wq_221 wq_222 rfl rfl (by decide) ⟨Nat.le_of_ble_eq_true rfl, Nat.le_of_ble_eq_true rfl⟩ rfl rfl (Nat.le_of_ble_eq_true rfl) dX4_readPeople_31 hf (fun r9 σ10 hf => ?_)
        refine x_istore (pc := 34) (lv' := [(4, .int r9), (0, .ref (gad G 11)), (1, .ref (gad G 1)), (2, .int v2), (3, .int v3)]) E dX4_readPeople_34 (by decide) rfl ?_
        refine x_iload 0 (pc := 36) E dX4_readPeople_36 rfl ?_
        refine x_if_ge (y := 0) (pc := 38) (tgt := 43) E dX4_readPeople_38 (by decide) hf (fun hf => ?_) (fun hf => ?_)
        · refine x_aload_n 1 (pc := 43) (i := 0) E dX4_readPeople_43 rfl rfl ?_
          refine x_getR (pc := 44) (r := 13) (p := 1) E rfl (Nat.le_of_ble_eq_true rfl) rfl inlX4 (by decide) rfl wq_56 dX4_readPeople_44 ?_
          refine x_iload_n 4 (pc := 47) (i := 3) E dX4_readPeople_47 rfl rfl ?_
          refine x_iload 0 (pc := 48) E dX4_readPeople_48 rfl ?_
          refine x_iastore (pc := 50) E rfl (Nat.le_of_ble_eq_true rfl) dX4_readPeople_50 hf (fun σ11 hf => ?_)
          refine x_iinc 4 (pc := 51) (v := v3 + 1) (lv' := [(3, .int (v3 + 1)), (4, .int r9), (0, .ref (gad G 11)), (1, .ref (gad G 1)), (2, .int v2)]) E dX4_readPeople_51 rfl rfl (by decide) rfl ?_
          refine x_goto (pc := 54) (tgt := 10) E dX4_readPeople_54 (by decide) ?_
          obtain rfl := Option.some.inj hf
          exact x_sub [2, 3, 4, 0] rfl (ih _ _ (lpk_l h2))
        · refine x_iconst (pc := 41) (v := (0 : Int32)) E dX4_readPeople_41 rfl ?_
          obtain ⟨hz, hf⟩ := chk_some hf
          obtain rfl := Option.some.inj hf
          obtain ⟨rfl, rfl⟩ := Prod.mk.inj (lpk_r h2)
          exact x_zret (pc := 42) E hR (isB_nar hz) dX4_readPeople_42
      · refine x_aload_n 0 (pc := 19) (i := 0) E dX4_readPeople_19 rfl rfl ?_
        refine x_iconst (pc := 20) (v := (0 : Int32)) E dX4_readPeople_20 rfl ?_
        refine x_iconst (pc := 21) (v := (5 : Int32)) E dX4_readPeople_21 rfl ?_
        refine x_callVri (pc := 22) (na := 2) (As := [.int (0 : Int32), .int (5 : Int32)]) E (c_X4_isDigit G (0 : Int32) (5 : Int32) σ) rfl (Nat.le_of_ble_eq_true rfl) rfl wq_227 wq_21 wq_224 wq_225 wq_226 rfl rfl (by decide) ⟨Nat.le_of_ble_eq_true rfl, Nat.le_of_ble_eq_true rfl⟩ rfl rfl (Nat.le_of_ble_eq_true rfl) dX4_readPeople_22 hf (fun r12 hf => ?_)
        refine x_if_eq (y := 0) (pc := 25) (tgt := 57) E dX4_readPeople_25 (by decide) hf (fun hf => ?_) (fun hf => ?_)
        · refine x_iload_n 3 (pc := 57) (i := 3) E dX4_readPeople_57 rfl rfl ?_
          refine x_if_ne (y := 0) (pc := 58) (tgt := 70) E dX4_readPeople_58 (by decide) hf (fun hf => ?_) (fun hf => ?_)
          · refine x_aload_n 0 (pc := 70) (i := 0) E dX4_readPeople_70 rfl rfl ?_
            refine x_bipush (pc := 71) (v := (59 : Int32)) E dX4_readPeople_71 rfl ?_
            refine x_callVwi (pc := 73) (na := 1) (As := [.int (59 : Int32)]) E (c_X4_sign G (59 : Int32) σ) rfl (Nat.le_of_ble_eq_true rfl) rfl wq_235 wq_21 wq_232 wq_233 wq_234 rfl rfl (by decide) ⟨Nat.le_of_ble_eq_true rfl, Nat.le_of_ble_eq_true rfl⟩ rfl rfl (Nat.le_of_ble_eq_true rfl) dX4_readPeople_73 hf (fun r13 σ14 hf => ?_)
            refine x_if_ne (y := 0) (pc := 76) (tgt := 81) E dX4_readPeople_76 (by decide) hf (fun hf => ?_) (fun hf => ?_)
            · refine x_iconst (pc := 81) (v := (0 : Int32)) E dX4_readPeople_81 rfl ?_
              refine x_istore (pc := 82) (lv' := [(4, .int (0 : Int32)), (0, .ref (gad G 11)), (1, .ref (gad G 1)), (2, .int v2), (3, .int v3)]) E dX4_readPeople_82 (by decide) rfl ?_
              obtain ⟨o15, hl16, hf⟩ := bind_some hf
              refine x_sub [1, 2, 4, 0] rfl (l_X4_readPeople_84 G   v3 E FU _ _ o15 hl16 ?_)
              refine x_iconst (pc := 107) (v := (1 : Int32)) E dX4_readPeople_107 rfl ?_
              obtain ⟨hz, hf⟩ := chk_some hf
              obtain rfl := Option.some.inj hf
              obtain ⟨rfl, rfl⟩ := Prod.mk.inj (lpk_r h2)
              exact x_zret (pc := 108) E hR (isB_nar hz) dX4_readPeople_108
            · refine x_iconst (pc := 79) (v := (0 : Int32)) E dX4_readPeople_79 rfl ?_
              obtain ⟨hz, hf⟩ := chk_some hf
              obtain rfl := Option.some.inj hf
              obtain ⟨rfl, rfl⟩ := Prod.mk.inj (lpk_r h2)
              exact x_zret (pc := 80) E hR (isB_nar hz) dX4_readPeople_80
          · refine x_aload_n 0 (pc := 61) (i := 0) E dX4_readPeople_61 rfl rfl ?_
            refine x_aload_n 0 (pc := 62) (i := 0) E dX4_readPeople_62 rfl rfl ?_
            refine x_getI (pc := 63) (p := 3) E rfl (Nat.le_of_ble_eq_true rfl) rfl inlX4 (by decide) rfl wq_210 dX4_readPeople_63 ?_
            refine x_callVwi (pc := 66) (na := 1) (As := [.int (σ.1 11 3)]) E (c_X4_fault G (σ.1 11 3) σ) rfl (Nat.le_of_ble_eq_true rfl) rfl wq_231 wq_21 wq_228 wq_229 wq_230 rfl rfl (by decide) ⟨Nat.le_of_ble_eq_true rfl, Nat.le_of_ble_eq_true rfl⟩ rfl rfl (Nat.le_of_ble_eq_true rfl) dX4_readPeople_66 hf (fun r17 σ18 hf => ?_)
            obtain ⟨hz, hf⟩ := chk_some hf
            obtain rfl := Option.some.inj hf
            obtain ⟨rfl, rfl⟩ := Prod.mk.inj (lpk_r h2)
            exact x_zret (pc := 69) E hR (isB_nar hz) dX4_readPeople_69
        · refine x_aload_n 0 (pc := 28) (i := 0) E dX4_readPeople_28 rfl rfl ?_
          refine x_iconst (pc := 29) (v := (0 : Int32)) E dX4_readPeople_29 rfl ?_
          refine x_iconst (pc := 30) (v := (5 : Int32)) E dX4_readPeople_30 rfl ?_
          refine x_callVwi (pc := 31) (na := 2) (As := [.int (0 : Int32), .int (5 : Int32)]) E (c_X4_digit G (0 : Int32) (5 : Int32) σ) rfl (Nat.le_of_ble_eq_true rfl) rfl wq_223 wq_21 wq_220 wq_221 wq_222 rfl rfl (by decide) ⟨Nat.le_of_ble_eq_true rfl, Nat.le_of_ble_eq_true rfl⟩ rfl rfl (Nat.le_of_ble_eq_true rfl) dX4_readPeople_31 hf (fun r19 σ20 hf => ?_)
          refine x_istore (pc := 34) (lv' := [(4, .int r19), (0, .ref (gad G 11)), (1, .ref (gad G 1)), (2, .int v2), (3, .int v3)]) E dX4_readPeople_34 (by decide) rfl ?_
          refine x_iload 0 (pc := 36) E dX4_readPeople_36 rfl ?_
          refine x_if_ge (y := 0) (pc := 38) (tgt := 43) E dX4_readPeople_38 (by decide) hf (fun hf => ?_) (fun hf => ?_)
          · refine x_aload_n 1 (pc := 43) (i := 0) E dX4_readPeople_43 rfl rfl ?_
            refine x_getR (pc := 44) (r := 13) (p := 1) E rfl (Nat.le_of_ble_eq_true rfl) rfl inlX4 (by decide) rfl wq_56 dX4_readPeople_44 ?_
            refine x_iload_n 4 (pc := 47) (i := 3) E dX4_readPeople_47 rfl rfl ?_
            refine x_iload 0 (pc := 48) E dX4_readPeople_48 rfl ?_
            refine x_iastore (pc := 50) E rfl (Nat.le_of_ble_eq_true rfl) dX4_readPeople_50 hf (fun σ21 hf => ?_)
            refine x_iinc 4 (pc := 51) (v := v3 + 1) (lv' := [(3, .int (v3 + 1)), (4, .int r19), (0, .ref (gad G 11)), (1, .ref (gad G 1)), (2, .int v2)]) E dX4_readPeople_51 rfl rfl (by decide) rfl ?_
            refine x_goto (pc := 54) (tgt := 10) E dX4_readPeople_54 (by decide) ?_
            obtain rfl := Option.some.inj hf
            exact x_sub [2, 3, 4, 0] rfl (ih _ _ (lpk_l h2))
          · refine x_iconst (pc := 41) (v := (0 : Int32)) E dX4_readPeople_41 rfl ?_
            obtain ⟨hz, hf⟩ := chk_some hf
            obtain rfl := Option.some.inj hf
            obtain ⟨rfl, rfl⟩ := Prod.mk.inj (lpk_r h2)
            exact x_zret (pc := 42) E hR (isB_nar hz) dX4_readPeople_42
set_option maxHeartbeats 4000000 in
set_option maxRecDepth 100000 in
theorem c_X4_readPeople (G : Gx) (σ : MM) (r : Int32) (σ' : MM) (hf : f_X4_readPeople σ = some (r, σ')) : Ct shS 56 yX4_readPeople cX4_readPeople 5 (some .boolean) rm_X4_readPeople G [.ref (gad G 11), .ref (gad G 1)] σ (some (.int r)) σ' := by
  refine ct_of (by decide) (Nat.le_of_ble_eq_true rfl) (fun K E hR => ?_)
  have E : OKc 56 cX4_readPeople 5 RX4 G K := E
  show XJ shS 56 5 rm_X4_readPeople G K σ [(0, .ref (gad G 11)), (1, .ref (gad G 1))] 0 []
  unfold f_X4_readPeople at hf
  refine x_bipush (pc := 0) (v := (12 : Int32)) E dX4_readPeople_0 rfl ?_
  refine x_aload_n 1 (pc := 2) (i := 1) E dX4_readPeople_2 rfl rfl ?_
  refine x_getIN (pc := 3) (p := 4) E rfl (Nat.le_of_ble_eq_true rfl) rfl inlX0 (by decide) rfl wn_14 dX4_readPeople_3 ?_
  refine x_isub (pc := 6) E dX4_readPeople_6 ?_
  refine x_istore_n (pc := 7) (lv' := [(2, .int ((12 : Int32) - (σ.1 1 4))), (0, .ref (gad G 11)), (1, .ref (gad G 1))]) E dX4_readPeople_7 rfl (by decide) rfl ?_
  refine x_iconst (pc := 8) (v := (0 : Int32)) E dX4_readPeople_8 rfl ?_
  refine x_istore_n (pc := 9) (lv' := [(3, .int (0 : Int32)), (2, .int ((12 : Int32) - (σ.1 1 4))), (0, .ref (gad G 11)), (1, .ref (gad G 1))]) E dX4_readPeople_9 rfl (by decide) rfl ?_
  exact x_sub [2, 3, 1, 0] rfl (l_X4_readPeople_10 G   ((12 : Int32) - (σ.1 1 4)) r σ' hR E FU _ _ hf)
set_option maxHeartbeats 4000000 in
set_option maxRecDepth 100000 in
theorem c_X4_readTerm (G : Gx) (v2 : Int32) (σ : MM) (r : Int32) (σ' : MM) (hf : f_X4_readTerm v2 σ = some (r, σ')) : Ct shS 56 yX4_readTerm cX4_readTerm 4 (some .boolean) rm_X4_readTerm G [.ref (gad G 11), .ref (gad G 1), .int v2] σ (some (.int r)) σ' := by
  refine ct_of (by decide) (Nat.le_of_ble_eq_true rfl) (fun K E hR => ?_)
  have E : OKc 56 cX4_readTerm 4 RX4 G K := E
  show XJ shS 56 4 rm_X4_readTerm G K σ [(0, .ref (gad G 11)), (1, .ref (gad G 1)), (2, .int v2)] 0 []
  unfold f_X4_readTerm at hf
  refine x_aload_n 0 (pc := 0) (i := 0) E dX4_readTerm_0 rfl rfl ?_
  refine x_getsLN (pc := 1) E wn_28 dX4_readTerm_1 ?_
  refine x_iload_n 2 (pc := 4) (i := 2) E dX4_readTerm_4 rfl rfl ?_
  refine x_tLoad (pc := 5) E dX4_readTerm_5 hf (fun hf => ?_)
  refine x_getsGN (pc := 6) E wn_29 dX4_readTerm_6 ?_
  refine x_iload_n 2 (pc := 9) (i := 2) E dX4_readTerm_9 rfl rfl ?_
  refine x_tMost (pc := 10) E dX4_readTerm_10 hf (fun hf => ?_)
  refine x_callVwi (pc := 11) (na := 2) (As := [.int (tLeast v2.toNatClampNeg), .int (tMost v2.toNatClampNeg)]) E (c_X4_digit G (tLeast v2.toNatClampNeg) (tMost v2.toNatClampNeg) σ) rfl (Nat.le_of_ble_eq_true rfl) rfl wq_223 wq_21 wq_220 wq_221 wq_222 rfl rfl (by decide) ⟨Nat.le_of_ble_eq_true rfl, Nat.le_of_ble_eq_true rfl⟩ rfl rfl (Nat.le_of_ble_eq_true rfl) dX4_readTerm_11 hf (fun r1 σ2 hf => ?_)
  refine x_istore_n (pc := 14) (lv' := [(3, .int r1), (0, .ref (gad G 11)), (1, .ref (gad G 1)), (2, .int v2)]) E dX4_readTerm_14 rfl (by decide) rfl ?_
  refine x_iload_n 0 (pc := 15) (i := 3) E dX4_readTerm_15 rfl rfl ?_
  refine x_if_lt (y := 0) (pc := 16) (tgt := 28) E dX4_readTerm_16 (by decide) hf (fun hf => ?_) (fun hf => ?_)
  · refine x_iconst (pc := 28) (v := (0 : Int32)) E dX4_readTerm_28 rfl ?_
    obtain ⟨hz, hf⟩ := chk_some hf
    obtain ⟨rfl, rfl⟩ := Prod.mk.inj (Option.some.inj hf)
    exact x_zret (pc := 29) E hR (isB_nar hz) dX4_readTerm_29
  · refine x_aload_n 1 (pc := 19) (i := 0) E dX4_readTerm_19 rfl rfl ?_
    refine x_bipush (pc := 20) (v := (59 : Int32)) E dX4_readTerm_20 rfl ?_
    refine x_callVwi (pc := 22) (na := 1) (As := [.int (59 : Int32)]) E (c_X4_sign G (59 : Int32) σ2) rfl (Nat.le_of_ble_eq_true rfl) rfl wq_235 wq_21 wq_232 wq_233 wq_234 rfl rfl (by decide) ⟨Nat.le_of_ble_eq_true rfl, Nat.le_of_ble_eq_true rfl⟩ rfl rfl (Nat.le_of_ble_eq_true rfl) dX4_readTerm_22 hf (fun r3 σ4 hf => ?_)
    refine x_if_ne (y := 0) (pc := 25) (tgt := 30) E dX4_readTerm_25 (by decide) hf (fun hf => ?_) (fun hf => ?_)
    · refine x_aload_n 2 (pc := 30) (i := 1) E dX4_readTerm_30 rfl rfl ?_
      refine x_getRN (pc := 31) (r := 5) (p := 3) E rfl (Nat.le_of_ble_eq_true rfl) rfl inlX0 (by decide) rfl wn_11 dX4_readTerm_31 ?_
      refine x_iload_n 3 (pc := 34) (i := 2) E dX4_readTerm_34 rfl rfl ?_
      refine x_iload_n 0 (pc := 35) (i := 3) E dX4_readTerm_35 rfl rfl ?_
      refine x_iastore (pc := 36) E rfl (Nat.le_of_ble_eq_true rfl) dX4_readTerm_36 hf (fun σ5 hf => ?_)
      refine x_iconst (pc := 37) (v := (1 : Int32)) E dX4_readTerm_37 rfl ?_
      obtain ⟨hz, hf⟩ := chk_some hf
      obtain ⟨rfl, rfl⟩ := Prod.mk.inj (Option.some.inj hf)
      exact x_zret (pc := 38) E hR (isB_nar hz) dX4_readTerm_38
    · refine x_iconst (pc := 28) (v := (0 : Int32)) E dX4_readTerm_28 rfl ?_
      obtain ⟨hz, hf⟩ := chk_some hf
      obtain ⟨rfl, rfl⟩ := Prod.mk.inj (Option.some.inj hf)
      exact x_zret (pc := 29) E hR (isB_nar hz) dX4_readTerm_29
set_option maxHeartbeats 4000000 in
set_option maxRecDepth 100000 in
theorem c_X4_readStrikes (G : Gx) (σ : MM) (r : Int32) (σ' : MM) (hf : f_X4_readStrikes σ = some (r, σ')) : Ct shS 56 yX4_readStrikes cX4_readStrikes 4 (some .boolean) rm_X4_readStrikes G [.ref (gad G 11), .ref (gad G 1)] σ (some (.int r)) σ' := by
  refine ct_of (by decide) (Nat.le_of_ble_eq_true rfl) (fun K E hR => ?_)
  have E : OKc 56 cX4_readStrikes 4 RX4 G K := E
  show XJ shS 56 4 rm_X4_readStrikes G K σ [(0, .ref (gad G 11)), (1, .ref (gad G 1))] 0 []
  unfold f_X4_readStrikes at hf
  refine x_aload_n 0 (pc := 0) (i := 0) E dX4_readStrikes_0 rfl rfl ?_
  refine x_iconst (pc := 1) (v := (0 : Int32)) E dX4_readStrikes_1 rfl ?_
  refine x_iconst (pc := 2) (v := (3 : Int32)) E dX4_readStrikes_2 rfl ?_
  refine x_callVwi (pc := 3) (na := 2) (As := [.int (0 : Int32), .int (3 : Int32)]) E (c_X4_digit G (0 : Int32) (3 : Int32) σ) rfl (Nat.le_of_ble_eq_true rfl) rfl wq_223 wq_21 wq_220 wq_221 wq_222 rfl rfl (by decide) ⟨Nat.le_of_ble_eq_true rfl, Nat.le_of_ble_eq_true rfl⟩ rfl rfl (Nat.le_of_ble_eq_true rfl) dX4_readStrikes_3 hf (fun r1 σ2 hf => ?_)
  refine x_istore_n (pc := 6) (lv' := [(2, .int r1), (0, .ref (gad G 11)), (1, .ref (gad G 1))]) E dX4_readStrikes_6 rfl (by decide) rfl ?_
  refine x_iload_n 0 (pc := 7) (i := 2) E dX4_readStrikes_7 rfl rfl ?_
  refine x_if_ge (y := 0) (pc := 8) (tgt := 13) E dX4_readStrikes_8 (by decide) hf (fun hf => ?_) (fun hf => ?_)
  · refine x_aload_n 1 (pc := 13) (i := 0) E dX4_readStrikes_13 rfl rfl ?_
    refine x_iconst (pc := 14) (v := (0 : Int32)) E dX4_readStrikes_14 rfl ?_
    refine x_iconst (pc := 15) (v := (3 : Int32)) E dX4_readStrikes_15 rfl ?_
    refine x_callVwi (pc := 16) (na := 2) (As := [.int (0 : Int32), .int (3 : Int32)]) E (c_X4_digit G (0 : Int32) (3 : Int32) σ2) rfl (Nat.le_of_ble_eq_true rfl) rfl wq_223 wq_21 wq_220 wq_221 wq_222 rfl rfl (by decide) ⟨Nat.le_of_ble_eq_true rfl, Nat.le_of_ble_eq_true rfl⟩ rfl rfl (Nat.le_of_ble_eq_true rfl) dX4_readStrikes_16 hf (fun r3 σ4 hf => ?_)
    refine x_istore_n (pc := 19) (lv' := [(3, .int r3), (2, .int r1), (0, .ref (gad G 11)), (1, .ref (gad G 1))]) E dX4_readStrikes_19 rfl (by decide) rfl ?_
    refine x_iload_n 0 (pc := 20) (i := 3) E dX4_readStrikes_20 rfl rfl ?_
    refine x_if_lt (y := 0) (pc := 21) (tgt := 33) E dX4_readStrikes_21 (by decide) hf (fun hf => ?_) (fun hf => ?_)
    · refine x_iconst (pc := 33) (v := (0 : Int32)) E dX4_readStrikes_33 rfl ?_
      obtain ⟨hz, hf⟩ := chk_some hf
      obtain ⟨rfl, rfl⟩ := Prod.mk.inj (Option.some.inj hf)
      exact x_zret (pc := 34) E hR (isB_nar hz) dX4_readStrikes_34
    · refine x_aload_n 2 (pc := 24) (i := 0) E dX4_readStrikes_24 rfl rfl ?_
      refine x_bipush (pc := 25) (v := (59 : Int32)) E dX4_readStrikes_25 rfl ?_
      refine x_callVwi (pc := 27) (na := 1) (As := [.int (59 : Int32)]) E (c_X4_sign G (59 : Int32) σ4) rfl (Nat.le_of_ble_eq_true rfl) rfl wq_235 wq_21 wq_232 wq_233 wq_234 rfl rfl (by decide) ⟨Nat.le_of_ble_eq_true rfl, Nat.le_of_ble_eq_true rfl⟩ rfl rfl (Nat.le_of_ble_eq_true rfl) dX4_readStrikes_27 hf (fun r5 σ6 hf => ?_)
      refine x_if_ne (y := 0) (pc := 30) (tgt := 35) E dX4_readStrikes_30 (by decide) hf (fun hf => ?_) (fun hf => ?_)
      · refine x_aload_n 3 (pc := 35) (i := 1) E dX4_readStrikes_35 rfl rfl ?_
        refine x_getRN (pc := 36) (r := 5) (p := 3) E rfl (Nat.le_of_ble_eq_true rfl) rfl inlX0 (by decide) rfl wn_11 dX4_readStrikes_36 ?_
        refine x_iconst (pc := 39) (v := (1 : Int32)) E dX4_readStrikes_39 rfl ?_
        refine x_iload_n 1 (pc := 40) (i := 2) E dX4_readStrikes_40 rfl rfl ?_
        refine x_iastore (pc := 41) E rfl (Nat.le_of_ble_eq_true rfl) dX4_readStrikes_41 hf (fun σ7 hf => ?_)
        refine x_aload_n 3 (pc := 42) (i := 1) E dX4_readStrikes_42 rfl rfl ?_
        refine x_getRN (pc := 43) (r := 5) (p := 3) E rfl (Nat.le_of_ble_eq_true rfl) rfl inlX0 (by decide) rfl wn_11 dX4_readStrikes_43 ?_
        refine x_iconst (pc := 46) (v := (2 : Int32)) E dX4_readStrikes_46 rfl ?_
        refine x_iload_n 0 (pc := 47) (i := 3) E dX4_readStrikes_47 rfl rfl ?_
        refine x_iastore (pc := 48) E rfl (Nat.le_of_ble_eq_true rfl) dX4_readStrikes_48 hf (fun σ8 hf => ?_)
        refine x_iconst (pc := 49) (v := (1 : Int32)) E dX4_readStrikes_49 rfl ?_
        obtain ⟨hz, hf⟩ := chk_some hf
        obtain ⟨rfl, rfl⟩ := Prod.mk.inj (Option.some.inj hf)
        exact x_zret (pc := 50) E hR (isB_nar hz) dX4_readStrikes_50
      · refine x_iconst (pc := 33) (v := (0 : Int32)) E dX4_readStrikes_33 rfl ?_
        obtain ⟨hz, hf⟩ := chk_some hf
        obtain ⟨rfl, rfl⟩ := Prod.mk.inj (Option.some.inj hf)
        exact x_zret (pc := 34) E hR (isB_nar hz) dX4_readStrikes_34
  · refine x_iconst (pc := 11) (v := (0 : Int32)) E dX4_readStrikes_11 rfl ?_
    obtain ⟨hz, hf⟩ := chk_some hf
    obtain ⟨rfl, rfl⟩ := Prod.mk.inj (Option.some.inj hf)
    exact x_zret (pc := 12) E hR (isB_nar hz) dX4_readStrikes_12
set_option maxHeartbeats 4000000 in
set_option maxRecDepth 100000 in
theorem c_X4_readTruth (G : Gx) (σ : MM) (r : Int32) (σ' : MM) (hf : f_X4_readTruth σ = some (r, σ')) : Ct shS 56 yX4_readTruth cX4_readTruth 3 (some .boolean) rm_X4_readTruth G [.ref (gad G 11), .ref (gad G 1)] σ (some (.int r)) σ' := by
  refine ct_of (by decide) (Nat.le_of_ble_eq_true rfl) (fun K E hR => ?_)
  have E : OKc 56 cX4_readTruth 3 RX4 G K := E
  show XJ shS 56 3 rm_X4_readTruth G K σ [(0, .ref (gad G 11)), (1, .ref (gad G 1))] 0 []
  unfold f_X4_readTruth at hf
  refine x_aload_n 0 (pc := 0) (i := 0) E dX4_readTruth_0 rfl rfl ?_
  refine x_callVwi (pc := 1) (na := 0) (As := []) E (c_X4_number G σ) rfl (Nat.le_of_ble_eq_true rfl) rfl wq_239 wq_21 wq_236 wq_237 wq_238 rfl rfl (by decide) ⟨Nat.le_of_ble_eq_true rfl, Nat.le_of_ble_eq_true rfl⟩ rfl rfl (Nat.le_of_ble_eq_true rfl) dX4_readTruth_1 hf (fun r1 σ2 hf => ?_)
  refine x_istore_n (pc := 4) (lv' := [(2, .int r1), (0, .ref (gad G 11)), (1, .ref (gad G 1))]) E dX4_readTruth_4 rfl (by decide) rfl ?_
  refine x_iload_n 0 (pc := 5) (i := 2) E dX4_readTruth_5 rfl rfl ?_
  refine x_if_lt (y := 0) (pc := 6) (tgt := 18) E dX4_readTruth_6 (by decide) hf (fun hf => ?_) (fun hf => ?_)
  · refine x_iconst (pc := 18) (v := (0 : Int32)) E dX4_readTruth_18 rfl ?_
    obtain ⟨hz, hf⟩ := chk_some hf
    obtain ⟨rfl, rfl⟩ := Prod.mk.inj (Option.some.inj hf)
    exact x_zret (pc := 19) E hR (isB_nar hz) dX4_readTruth_19
  · refine x_aload_n 1 (pc := 9) (i := 0) E dX4_readTruth_9 rfl rfl ?_
    refine x_bipush (pc := 10) (v := (59 : Int32)) E dX4_readTruth_10 rfl ?_
    refine x_callVwi (pc := 12) (na := 1) (As := [.int (59 : Int32)]) E (c_X4_sign G (59 : Int32) σ2) rfl (Nat.le_of_ble_eq_true rfl) rfl wq_235 wq_21 wq_232 wq_233 wq_234 rfl rfl (by decide) ⟨Nat.le_of_ble_eq_true rfl, Nat.le_of_ble_eq_true rfl⟩ rfl rfl (Nat.le_of_ble_eq_true rfl) dX4_readTruth_12 hf (fun r3 σ4 hf => ?_)
    refine x_if_ne (y := 0) (pc := 15) (tgt := 20) E dX4_readTruth_15 (by decide) hf (fun hf => ?_) (fun hf => ?_)
    · refine x_aload_n 2 (pc := 20) (i := 1) E dX4_readTruth_20 rfl rfl ?_
      refine x_getRN (pc := 21) (r := 5) (p := 3) E rfl (Nat.le_of_ble_eq_true rfl) rfl inlX0 (by decide) rfl wn_11 dX4_readTruth_21 ?_
      refine x_iconst (pc := 24) (v := (4 : Int32)) E dX4_readTruth_24 rfl ?_
      refine x_iload_n 0 (pc := 25) (i := 2) E dX4_readTruth_25 rfl rfl ?_
      refine x_iastore (pc := 26) E rfl (Nat.le_of_ble_eq_true rfl) dX4_readTruth_26 hf (fun σ5 hf => ?_)
      refine x_iconst (pc := 27) (v := (1 : Int32)) E dX4_readTruth_27 rfl ?_
      obtain ⟨hz, hf⟩ := chk_some hf
      obtain ⟨rfl, rfl⟩ := Prod.mk.inj (Option.some.inj hf)
      exact x_zret (pc := 28) E hR (isB_nar hz) dX4_readTruth_28
    · refine x_iconst (pc := 18) (v := (0 : Int32)) E dX4_readTruth_18 rfl ?_
      obtain ⟨hz, hf⟩ := chk_some hf
      obtain ⟨rfl, rfl⟩ := Prod.mk.inj (Option.some.inj hf)
      exact x_zret (pc := 19) E hR (isB_nar hz) dX4_readTruth_19
set_option maxHeartbeats 4000000 in
set_option maxRecDepth 100000 in
theorem c_X4_readStatement (G : Gx) (σ : MM) (r : Int32) (σ' : MM) (hf : f_X4_readStatement σ = some (r, σ')) : Ct shS 56 yX4_readStatement cX4_readStatement 3 (some .boolean) rm_X4_readStatement G [.ref (gad G 11), .ref (gad G 1)] σ (some (.int r)) σ' := by
  refine ct_of (by decide) (Nat.le_of_ble_eq_true rfl) (fun K E hR => ?_)
  have E : OKc 56 cX4_readStatement 3 RX4 G K := E
  show XJ shS 56 3 rm_X4_readStatement G K σ [(0, .ref (gad G 11)), (1, .ref (gad G 1))] 0 []
  unfold f_X4_readStatement at hf
  refine x_aload_n 0 (pc := 0) (i := 0) E dX4_readStatement_0 rfl rfl ?_
  refine x_getR (pc := 1) (r := 12) (p := 0) E rfl (Nat.le_of_ble_eq_true rfl) rfl inlX4 (by decide) rfl wq_55 dX4_readStatement_1 ?_
  refine x_aload_n 0 (pc := 4) (i := 0) E dX4_readStatement_4 rfl rfl ?_
  refine x_getI (pc := 5) (p := 3) E rfl (Nat.le_of_ble_eq_true rfl) rfl inlX4 (by decide) rfl wq_210 dX4_readStatement_5 ?_
  refine x_baload (pc := 8) E rfl (Nat.le_of_ble_eq_true rfl) dX4_readStatement_8 hf (fun hf => ?_)
  refine x_istore_n (pc := 9) (lv' := [(2, .int (σ.1 12 (σ.1 11 3).toNatClampNeg)), (0, .ref (gad G 11)), (1, .ref (gad G 1))]) E dX4_readStatement_9 rfl (by decide) rfl ?_
  refine x_iload_n 0 (pc := 10) (i := 2) E dX4_readStatement_10 rfl rfl ?_
  refine x_swIf hf (fun hc hf => ?_) (fun hc104 hf => ?_)
  · refine x_swIn (pc := 11) (tgt := 157) (off := 146) E dX4_readStatement_11 (by rw [hc]; decide) (by rw [hc]; decide) (by rw [hc]; decide) (by decide) ?_
    refine x_aload_n 1 (pc := 157) (i := 0) E dX4_readStatement_157 rfl rfl ?_
    refine x_dup (pc := 158) E dX4_readStatement_158 rfl ?_
    refine x_getI (pc := 159) (p := 3) E rfl (Nat.le_of_ble_eq_true rfl) rfl inlX4 (by decide) rfl wq_210 dX4_readStatement_159 ?_
    refine x_iconst (pc := 162) (v := (1 : Int32)) E dX4_readStatement_162 rfl ?_
    refine x_iadd (pc := 163) E dX4_readStatement_163 ?_
    refine x_put (pc := 164) (p := 3) E rfl (Nat.le_of_ble_eq_true rfl) rfl inlX4 tyX4_ok nmX4 (by decide) rfl rfl rfl rfl wq_210 dX4_readStatement_164 hf (fun σ1 hf => ?_)
    refine x_aload_n 1 (pc := 167) (i := 0) E dX4_readStatement_167 rfl rfl ?_
    refine x_aload_n 2 (pc := 168) (i := 1) E dX4_readStatement_168 rfl rfl ?_
    refine x_iconst (pc := 169) (v := (3 : Int32)) E dX4_readStatement_169 rfl ?_
    refine x_callVwi (pc := 170) (na := 2) (As := [.ref (gad G 1), .int (3 : Int32)]) E (c_X4_readTerm G (3 : Int32) σ1) rfl (Nat.le_of_ble_eq_true rfl) rfl wq_247 wq_21 wq_244 wq_245 wq_246 rfl rfl (by decide) ⟨Nat.le_of_ble_eq_true rfl, Nat.le_of_ble_eq_true rfl⟩ rfl rfl (Nat.le_of_ble_eq_true rfl) dX4_readStatement_170 hf (fun r2 σ3 hf => ?_)
    obtain ⟨hz, hf⟩ := chk_some hf
    obtain ⟨rfl, rfl⟩ := Prod.mk.inj (Option.some.inj hf)
    exact x_zret (pc := 173) E hR (isB_nar hz) dX4_readStatement_173
  refine x_swIf hf (fun hc hf => ?_) (fun hc110 hf => ?_)
  · refine x_swIn (pc := 11) (tgt := 124) (off := 113) E dX4_readStatement_11 (by rw [hc]; decide) (by rw [hc]; decide) (by rw [hc]; decide) (by decide) ?_
    refine x_aload_n 1 (pc := 124) (i := 0) E dX4_readStatement_124 rfl rfl ?_
    refine x_dup (pc := 125) E dX4_readStatement_125 rfl ?_
    refine x_getI (pc := 126) (p := 3) E rfl (Nat.le_of_ble_eq_true rfl) rfl inlX4 (by decide) rfl wq_210 dX4_readStatement_126 ?_
    refine x_iconst (pc := 129) (v := (1 : Int32)) E dX4_readStatement_129 rfl ?_
    refine x_iadd (pc := 130) E dX4_readStatement_130 ?_
    refine x_put (pc := 131) (p := 3) E rfl (Nat.le_of_ble_eq_true rfl) rfl inlX4 tyX4_ok nmX4 (by decide) rfl rfl rfl rfl wq_210 dX4_readStatement_131 hf (fun σ4 hf => ?_)
    refine x_aload_n 1 (pc := 134) (i := 0) E dX4_readStatement_134 rfl rfl ?_
    refine x_aload_n 2 (pc := 135) (i := 1) E dX4_readStatement_135 rfl rfl ?_
    refine x_iconst (pc := 136) (v := (0 : Int32)) E dX4_readStatement_136 rfl ?_
    refine x_callVwi (pc := 137) (na := 2) (As := [.ref (gad G 1), .int (0 : Int32)]) E (c_X4_readTerm G (0 : Int32) σ4) rfl (Nat.le_of_ble_eq_true rfl) rfl wq_247 wq_21 wq_244 wq_245 wq_246 rfl rfl (by decide) ⟨Nat.le_of_ble_eq_true rfl, Nat.le_of_ble_eq_true rfl⟩ rfl rfl (Nat.le_of_ble_eq_true rfl) dX4_readStatement_137 hf (fun r5 σ6 hf => ?_)
    obtain ⟨hz, hf⟩ := chk_some hf
    obtain ⟨rfl, rfl⟩ := Prod.mk.inj (Option.some.inj hf)
    exact x_zret (pc := 140) E hR (isB_nar hz) dX4_readStatement_140
  refine x_swIf hf (fun hc hf => ?_) (fun hc112 hf => ?_)
  · refine x_swIn (pc := 11) (tgt := 108) (off := 97) E dX4_readStatement_11 (by rw [hc]; decide) (by rw [hc]; decide) (by rw [hc]; decide) (by decide) ?_
    refine x_aload_n 1 (pc := 108) (i := 0) E dX4_readStatement_108 rfl rfl ?_
    refine x_dup (pc := 109) E dX4_readStatement_109 rfl ?_
    refine x_getI (pc := 110) (p := 3) E rfl (Nat.le_of_ble_eq_true rfl) rfl inlX4 (by decide) rfl wq_210 dX4_readStatement_110 ?_
    refine x_iconst (pc := 113) (v := (1 : Int32)) E dX4_readStatement_113 rfl ?_
    refine x_iadd (pc := 114) E dX4_readStatement_114 ?_
    refine x_put (pc := 115) (p := 3) E rfl (Nat.le_of_ble_eq_true rfl) rfl inlX4 tyX4_ok nmX4 (by decide) rfl rfl rfl rfl wq_210 dX4_readStatement_115 hf (fun σ7 hf => ?_)
    refine x_aload_n 1 (pc := 118) (i := 0) E dX4_readStatement_118 rfl rfl ?_
    refine x_aload_n 2 (pc := 119) (i := 1) E dX4_readStatement_119 rfl rfl ?_
    refine x_callVwi (pc := 120) (na := 1) (As := [.ref (gad G 1)]) E (c_X4_readPeople G σ7) rfl (Nat.le_of_ble_eq_true rfl) rfl wq_243 wq_21 wq_240 wq_241 wq_242 rfl rfl (by decide) ⟨Nat.le_of_ble_eq_true rfl, Nat.le_of_ble_eq_true rfl⟩ rfl rfl (Nat.le_of_ble_eq_true rfl) dX4_readStatement_120 hf (fun r8 σ9 hf => ?_)
    obtain ⟨hz, hf⟩ := chk_some hf
    obtain ⟨rfl, rfl⟩ := Prod.mk.inj (Option.some.inj hf)
    exact x_zret (pc := 123) E hR (isB_nar hz) dX4_readStatement_123
  refine x_swIf hf (fun hc hf => ?_) (fun hc115 hf => ?_)
  · refine x_swIn (pc := 11) (tgt := 92) (off := 81) E dX4_readStatement_11 (by rw [hc]; decide) (by rw [hc]; decide) (by rw [hc]; decide) (by decide) ?_
    refine x_aload_n 1 (pc := 92) (i := 0) E dX4_readStatement_92 rfl rfl ?_
    refine x_dup (pc := 93) E dX4_readStatement_93 rfl ?_
    refine x_getI (pc := 94) (p := 3) E rfl (Nat.le_of_ble_eq_true rfl) rfl inlX4 (by decide) rfl wq_210 dX4_readStatement_94 ?_
    refine x_iconst (pc := 97) (v := (1 : Int32)) E dX4_readStatement_97 rfl ?_
    refine x_iadd (pc := 98) E dX4_readStatement_98 ?_
    refine x_put (pc := 99) (p := 3) E rfl (Nat.le_of_ble_eq_true rfl) rfl inlX4 tyX4_ok nmX4 (by decide) rfl rfl rfl rfl wq_210 dX4_readStatement_99 hf (fun σ10 hf => ?_)
    refine x_aload_n 1 (pc := 102) (i := 0) E dX4_readStatement_102 rfl rfl ?_
    refine x_aload_n 2 (pc := 103) (i := 1) E dX4_readStatement_103 rfl rfl ?_
    refine x_callVwi (pc := 104) (na := 1) (As := [.ref (gad G 1)]) E (c_X4_readSort G σ10) rfl (Nat.le_of_ble_eq_true rfl) rfl wq_219 wq_21 wq_216 wq_217 wq_218 rfl rfl (by decide) ⟨Nat.le_of_ble_eq_true rfl, Nat.le_of_ble_eq_true rfl⟩ rfl rfl (Nat.le_of_ble_eq_true rfl) dX4_readStatement_104 hf (fun r11 σ12 hf => ?_)
    obtain ⟨hz, hf⟩ := chk_some hf
    obtain ⟨rfl, rfl⟩ := Prod.mk.inj (Option.some.inj hf)
    exact x_zret (pc := 107) E hR (isB_nar hz) dX4_readStatement_107
  refine x_swIf hf (fun hc hf => ?_) (fun hc116 hf => ?_)
  · refine x_swIn (pc := 11) (tgt := 174) (off := 163) E dX4_readStatement_11 (by rw [hc]; decide) (by rw [hc]; decide) (by rw [hc]; decide) (by decide) ?_
    refine x_aload_n 1 (pc := 174) (i := 0) E dX4_readStatement_174 rfl rfl ?_
    refine x_dup (pc := 175) E dX4_readStatement_175 rfl ?_
    refine x_getI (pc := 176) (p := 3) E rfl (Nat.le_of_ble_eq_true rfl) rfl inlX4 (by decide) rfl wq_210 dX4_readStatement_176 ?_
    refine x_iconst (pc := 179) (v := (1 : Int32)) E dX4_readStatement_179 rfl ?_
    refine x_iadd (pc := 180) E dX4_readStatement_180 ?_
    refine x_put (pc := 181) (p := 3) E rfl (Nat.le_of_ble_eq_true rfl) rfl inlX4 tyX4_ok nmX4 (by decide) rfl rfl rfl rfl wq_210 dX4_readStatement_181 hf (fun σ13 hf => ?_)
    refine x_aload_n 1 (pc := 184) (i := 0) E dX4_readStatement_184 rfl rfl ?_
    refine x_aload_n 2 (pc := 185) (i := 1) E dX4_readStatement_185 rfl rfl ?_
    refine x_callVwi (pc := 186) (na := 1) (As := [.ref (gad G 1)]) E (c_X4_readTruth G σ13) rfl (Nat.le_of_ble_eq_true rfl) rfl wq_255 wq_21 wq_252 wq_253 wq_254 rfl rfl (by decide) ⟨Nat.le_of_ble_eq_true rfl, Nat.le_of_ble_eq_true rfl⟩ rfl rfl (Nat.le_of_ble_eq_true rfl) dX4_readStatement_186 hf (fun r14 σ15 hf => ?_)
    obtain ⟨hz, hf⟩ := chk_some hf
    obtain ⟨rfl, rfl⟩ := Prod.mk.inj (Option.some.inj hf)
    exact x_zret (pc := 189) E hR (isB_nar hz) dX4_readStatement_189
  refine x_swIf hf (fun hc hf => ?_) (fun hc120 hf => ?_)
  · refine x_swIn (pc := 11) (tgt := 141) (off := 130) E dX4_readStatement_11 (by rw [hc]; decide) (by rw [hc]; decide) (by rw [hc]; decide) (by decide) ?_
    refine x_aload_n 1 (pc := 141) (i := 0) E dX4_readStatement_141 rfl rfl ?_
    refine x_dup (pc := 142) E dX4_readStatement_142 rfl ?_
    refine x_getI (pc := 143) (p := 3) E rfl (Nat.le_of_ble_eq_true rfl) rfl inlX4 (by decide) rfl wq_210 dX4_readStatement_143 ?_
    refine x_iconst (pc := 146) (v := (1 : Int32)) E dX4_readStatement_146 rfl ?_
    refine x_iadd (pc := 147) E dX4_readStatement_147 ?_
    refine x_put (pc := 148) (p := 3) E rfl (Nat.le_of_ble_eq_true rfl) rfl inlX4 tyX4_ok nmX4 (by decide) rfl rfl rfl rfl wq_210 dX4_readStatement_148 hf (fun σ16 hf => ?_)
    refine x_aload_n 1 (pc := 151) (i := 0) E dX4_readStatement_151 rfl rfl ?_
    refine x_aload_n 2 (pc := 152) (i := 1) E dX4_readStatement_152 rfl rfl ?_
    refine x_callVwi (pc := 153) (na := 1) (As := [.ref (gad G 1)]) E (c_X4_readStrikes G σ16) rfl (Nat.le_of_ble_eq_true rfl) rfl wq_251 wq_21 wq_248 wq_249 wq_250 rfl rfl (by decide) ⟨Nat.le_of_ble_eq_true rfl, Nat.le_of_ble_eq_true rfl⟩ rfl rfl (Nat.le_of_ble_eq_true rfl) dX4_readStatement_153 hf (fun r17 σ18 hf => ?_)
    obtain ⟨hz, hf⟩ := chk_some hf
    obtain ⟨rfl, rfl⟩ := Prod.mk.inj (Option.some.inj hf)
    exact x_zret (pc := 156) E hR (isB_nar hz) dX4_readStatement_156
  refine x_swOut (pc := 11) (tgt := 190) E dX4_readStatement_11 (by decide) (sw_d [(104 : Int32), (110 : Int32), (112 : Int32), (115 : Int32), (116 : Int32), (120 : Int32)] (by decide) (by decide) (by simp only [List.mem_cons, List.not_mem_nil, or_false, not_or]; exact ⟨hc104, hc110, hc112, hc115, hc116, hc120⟩)) ?_
  refine x_aload_n 1 (pc := 190) (i := 0) E dX4_readStatement_190 rfl rfl ?_
  refine x_aload_n 1 (pc := 191) (i := 0) E dX4_readStatement_191 rfl rfl ?_
  refine x_getI (pc := 192) (p := 3) E rfl (Nat.le_of_ble_eq_true rfl) rfl inlX4 (by decide) rfl wq_210 dX4_readStatement_192 ?_
  refine x_callVwi (pc := 195) (na := 1) (As := [.int (σ.1 11 3)]) E (c_X4_fault G (σ.1 11 3) σ) rfl (Nat.le_of_ble_eq_true rfl) rfl wq_231 wq_21 wq_228 wq_229 wq_230 rfl rfl (by decide) ⟨Nat.le_of_ble_eq_true rfl, Nat.le_of_ble_eq_true rfl⟩ rfl rfl (Nat.le_of_ble_eq_true rfl) dX4_readStatement_195 hf (fun r19 σ20 hf => ?_)
  obtain ⟨hz, hf⟩ := chk_some hf
  obtain ⟨rfl, rfl⟩ := Prod.mk.inj (Option.some.inj hf)
  exact x_zret (pc := 198) E hR (isB_nar hz) dX4_readStatement_198
set_option maxHeartbeats 4000000 in
set_option maxRecDepth 100000 in
theorem l_X4_readInto_9 (G : Gx) {K : Kx}    (E : OKc 56 cX4_readInto 4 RX4 G K) : ∀ (m : Nat) (v2 : Int32) (v3 : Int32) (σ : MM) (out : Int32 × Int32 × MM), loopN (fun s => g_X4_readInto_9 s.1 s.2.1 s.2.2) m (v2, v3, σ) = some out → XJ shS 56 4 rm_X4_readInto G K out.2.2 [(0, .ref (gad G 11)), (2, .int out.1), (3, .int out.2.1)] 42 [] → XJ shS 56 4 rm_X4_readInto G K σ [(0, .ref (gad G 11)), (1, .ref (gad G 1)), (2, .int v2), (3, .int v3)] 9 [] := by
  intro m
  induction m with
  | zero => intro v2 v3 σ out hf; exact (loopN_0 hf).elim
  | succ m ih =>
    intro v2 v3 σ out hf hk
    obtain ⟨q, hf, h2⟩ := loopN_s hf
    have hf : g_X4_readInto_9 v2 v3 σ = some q := hf
    unfold g_X4_readInto_9 at hf
    refine x_iload_n 3 (pc := 9) (i := 3) E dX4_readInto_9 rfl rfl ?_
    refine x_if_eq (y := 0) (pc := 10) (tgt := 42) E dX4_readInto_10 (by decide) hf (fun hf => ?_) (fun hf => ?_)
    · obtain rfl := Option.some.inj hf
      obtain rfl := lpk_r h2
      exact x_sub [0, 2, 3] rfl hk
    · refine x_aload_n 0 (pc := 13) (i := 0) E dX4_readInto_13 rfl rfl ?_
      refine x_getI (pc := 14) (p := 3) E rfl (Nat.le_of_ble_eq_true rfl) rfl inlX4 (by decide) rfl wq_210 dX4_readInto_14 ?_
      refine x_aload_n 0 (pc := 17) (i := 0) E dX4_readInto_17 rfl rfl ?_
      refine x_getI (pc := 18) (p := 2) E rfl (Nat.le_of_ble_eq_true rfl) rfl inlX4 (by decide) rfl wq_196 dX4_readInto_18 ?_
      refine x_icmp_ge (pc := 21) (tgt := 42) E dX4_readInto_21 (by decide) hf (fun hf => ?_) (fun hf => ?_)
      · obtain rfl := Option.some.inj hf
        obtain rfl := lpk_r h2
        exact x_sub [0, 2, 3] rfl hk
      · refine x_iload_n 2 (pc := 24) (i := 2) E dX4_readInto_24 rfl rfl ?_
        refine x_bipush (pc := 25) (v := (80 : Int32)) E dX4_readInto_25 rfl ?_
        refine x_icmp_ge (pc := 27) (tgt := 42) E dX4_readInto_27 (by decide) hf (fun hf => ?_) (fun hf => ?_)
        · obtain rfl := Option.some.inj hf
          obtain rfl := lpk_r h2
          exact x_sub [0, 2, 3] rfl hk
        · refine x_aload_n 0 (pc := 30) (i := 0) E dX4_readInto_30 rfl rfl ?_
          refine x_aload_n 1 (pc := 31) (i := 1) E dX4_readInto_31 rfl rfl ?_
          refine x_callVwi (pc := 32) (na := 1) (As := [.ref (gad G 1)]) E (c_X4_readStatement G σ) rfl (Nat.le_of_ble_eq_true rfl) rfl wq_215 wq_21 wq_212 wq_213 wq_214 rfl rfl (by decide) ⟨Nat.le_of_ble_eq_true rfl, Nat.le_of_ble_eq_true rfl⟩ rfl rfl (Nat.le_of_ble_eq_true rfl) dX4_readInto_32 hf (fun r2 σ3 hf => ?_)
          refine x_istore_n (pc := 35) (lv' := [(3, .int r2), (0, .ref (gad G 11)), (1, .ref (gad G 1)), (2, .int v2)]) E dX4_readInto_35 rfl (by decide) rfl ?_
          refine x_iinc 3 (pc := 36) (v := v2 + 1) (lv' := [(2, .int (v2 + 1)), (3, .int r2), (0, .ref (gad G 11)), (1, .ref (gad G 1))]) E dX4_readInto_36 rfl rfl (by decide) rfl ?_
          refine x_goto (pc := 39) (tgt := 9) E dX4_readInto_39 (by decide) ?_
          obtain rfl := Option.some.inj hf
          exact x_sub [2, 3, 0, 1] rfl (ih _ _ _ _ (lpk_l h2) hk)
set_option maxHeartbeats 4000000 in
set_option maxRecDepth 100000 in
theorem c_X4_readInto (G : Gx) (σ : MM) (r : Int32) (σ' : MM) (hf : f_X4_readInto σ = some (r, σ')) : Ct shS 56 yX4_readInto cX4_readInto 4 (some .int) rm_X4_readInto G [.ref (gad G 11), .ref (gad G 1)] σ (some (.int r)) σ' := by
  refine ct_of (by decide) (Nat.le_of_ble_eq_true rfl) (fun K E hR => ?_)
  have E : OKc 56 cX4_readInto 4 RX4 G K := E
  show XJ shS 56 4 rm_X4_readInto G K σ [(0, .ref (gad G 11)), (1, .ref (gad G 1))] 0 []
  unfold f_X4_readInto at hf
  refine x_iconst (pc := 0) (v := (0 : Int32)) E dX4_readInto_0 rfl ?_
  refine x_istore_n (pc := 1) (lv' := [(2, .int (0 : Int32)), (0, .ref (gad G 11)), (1, .ref (gad G 1))]) E dX4_readInto_1 rfl (by decide) rfl ?_
  refine x_iconst (pc := 2) (v := (1 : Int32)) E dX4_readInto_2 rfl ?_
  refine x_istore_n (pc := 3) (lv' := [(3, .int (1 : Int32)), (2, .int (0 : Int32)), (0, .ref (gad G 11)), (1, .ref (gad G 1))]) E dX4_readInto_3 rfl (by decide) rfl ?_
  refine x_aload_n 2 (pc := 4) (i := 0) E dX4_readInto_4 rfl rfl ?_
  refine x_iconst (pc := 5) (v := (0 : Int32)) E dX4_readInto_5 rfl ?_
  refine x_put (pc := 6) (p := 3) E rfl (Nat.le_of_ble_eq_true rfl) rfl inlX4 tyX4_ok nmX4 (by decide) rfl rfl rfl rfl wq_210 dX4_readInto_6 hf (fun σ1 hf => ?_)
  obtain ⟨o4, hl5, hf⟩ := bind_some hf
  refine x_sub [2, 3, 1, 0] rfl (l_X4_readInto_9 G    E FU _ _ _ o4 hl5 ?_)
  refine x_aload_n 0 (pc := 42) (i := 0) E dX4_readInto_42 rfl rfl ?_
  refine x_iconst (pc := 43) (v := (0 : Int32)) E dX4_readInto_43 rfl ?_
  refine x_put (pc := 44) (p := 2) E rfl (Nat.le_of_ble_eq_true rfl) rfl inlX4 tyX4_ok nmX4 (by decide) rfl rfl rfl rfl wq_196 dX4_readInto_44 hf (fun σ6 hf => ?_)
  refine x_iload_n 2 (pc := 47) (i := 3) E dX4_readInto_47 rfl rfl ?_
  refine x_if_eq (y := 0) (pc := 48) (tgt := 55) E dX4_readInto_48 (by decide) hf (fun hf => ?_) (fun hf => ?_)
  · refine x_bipush (pc := 55) (v := (-20 : Int32)) E dX4_readInto_55 rfl ?_
    refine x_aload_n 0 (pc := 57) (i := 0) E dX4_readInto_57 rfl rfl ?_
    refine x_getI (pc := 58) (p := 4) E rfl (Nat.le_of_ble_eq_true rfl) rfl inlX4 (by decide) rfl wq_211 dX4_readInto_58 ?_
    refine x_isub (pc := 61) E dX4_readInto_61 ?_
    obtain ⟨rfl, rfl⟩ := Prod.mk.inj (Option.some.inj hf)
    exact x_iret (pc := 62) E hR dX4_readInto_62
  · refine x_iload_n 1 (pc := 51) (i := 2) E dX4_readInto_51 rfl rfl ?_
    refine x_goto (pc := 52) (tgt := 62) E dX4_readInto_52 (by decide) ?_
    obtain ⟨rfl, rfl⟩ := Prod.mk.inj (Option.some.inj hf)
    exact x_iret (pc := 62) E hR dX4_readInto_62
set_option maxHeartbeats 4000000 in
set_option maxRecDepth 100000 in
theorem c_X6_court (G : Gx) (σ : MM) (r : Int32) (σ' : MM) (hf : f_X6_court σ = some (r, σ')) : Ct shS 56 yX6_court cX6_court 2 (some .int) rm_X6_court G [.ref (gad G 0)] σ (some (.int r)) σ' := by
  refine ct_of (by decide) (Nat.le_of_ble_eq_true rfl) (fun K E hR => ?_)
  have E : OKc 56 cX6_court 2 RX6 G K := E
  show XJ shS 56 2 rm_X6_court G K σ [(0, .ref (gad G 0))] 0 []
  unfold f_X6_court at hf
  refine x_aload_n 0 (pc := 0) (i := 0) E dX6_court_0 rfl rfl ?_
  refine x_getR (pc := 1) (r := 11) (p := 3) E rfl (Nat.le_of_ble_eq_true rfl) rfl inlX6 (by decide) rfl wq_22 dX6_court_1 ?_
  refine x_aload_n 0 (pc := 4) (i := 0) E dX6_court_4 rfl rfl ?_
  refine x_getR (pc := 5) (r := 1) (p := 0) E rfl (Nat.le_of_ble_eq_true rfl) rfl inlX6 (by decide) rfl wq_17 dX6_court_5 ?_
  refine x_callVNwi (pc := 8) (na := 1) (As := [.ref (gad G 1)]) E (c_X4_readInto G σ) rfl (Nat.le_of_ble_eq_true rfl) rfl wq_209 wq_21 wn_26 wq_207 wq_208 rfl rfl (by decide) ⟨Nat.le_of_ble_eq_true rfl, Nat.le_of_ble_eq_true rfl⟩ rfl rfl (Nat.le_of_ble_eq_true rfl) dX6_court_8 hf (fun r1 σ2 hf => ?_)
  refine x_istore_n (pc := 11) (lv' := [(1, .int r1), (0, .ref (gad G 0))]) E dX6_court_11 rfl (by decide) rfl ?_
  refine x_aload_n 1 (pc := 12) (i := 0) E dX6_court_12 rfl rfl ?_
  refine x_callVwv (pc := 13) (na := 0) (As := []) E (c_X6_changed G σ2) rfl (Nat.le_of_ble_eq_true rfl) rfl wq_137 wq_2 wq_134 wq_135 wq_136 rfl rfl (by decide) ⟨Nat.le_of_ble_eq_true rfl, Nat.le_of_ble_eq_true rfl⟩ rfl rfl (Nat.le_of_ble_eq_true rfl) dX6_court_13 hf (fun σ4 hf => ?_)
  refine x_iload_n 0 (pc := 16) (i := 1) E dX6_court_16 rfl rfl ?_
  obtain ⟨rfl, rfl⟩ := Prod.mk.inj (Option.some.inj hf)
  exact x_iret (pc := 17) E hR dX6_court_17
set_option maxHeartbeats 4000000 in
set_option maxRecDepth 100000 in
theorem c_X6_setOfFirst (G : Gx) (v0 : Int32) (σ : MM) (r : Int32) (hf : f_X6_setOfFirst v0 σ = some r) : Ct shS 56 yX6_setOfFirst cX6_setOfFirst 1 (some .int) rm_X6_setOfFirst G [.int v0] σ (some (.int r)) σ := by
  refine ct_of (by decide) (Nat.le_of_ble_eq_true rfl) (fun K E hR => ?_)
  have E : OKc 56 cX6_setOfFirst 1 RX6 G K := E
  show XJ shS 56 1 rm_X6_setOfFirst G K σ [(0, .int v0)] 0 []
  unfold f_X6_setOfFirst at hf
  refine x_iconst (pc := 0) (v := (1 : Int32)) E dX6_setOfFirst_0 rfl ?_
  refine x_iload_n 0 (pc := 1) (i := 0) E dX6_setOfFirst_1 rfl rfl ?_
  refine x_ishl (pc := 2) E dX6_setOfFirst_2 ?_
  refine x_iconst (pc := 3) (v := (1 : Int32)) E dX6_setOfFirst_3 rfl ?_
  refine x_isub (pc := 4) E dX6_setOfFirst_4 ?_
  obtain rfl := Option.some.inj hf
  exact x_iret (pc := 5) E hR dX6_setOfFirst_5
set_option maxHeartbeats 4000000 in
set_option maxRecDepth 100000 in
theorem c_X0_everyone (G : Gx) (σ : MM) (r : Int32) (hf : f_X0_everyone σ = some r) : Ct shS 56 yX0_everyone cX0_everyone 1 (some .int) rm_X0_everyone G [.ref (gad G 1)] σ (some (.int r)) σ := by
  refine ct_of (by decide) (Nat.le_of_ble_eq_true rfl) (fun K E hR => ?_)
  have E : OKc 56 cX0_everyone 1 RX0 G K := E
  show XJ shS 56 1 rm_X0_everyone G K σ [(0, .ref (gad G 1))] 0 []
  unfold f_X0_everyone at hf
  refine x_aload_n 0 (pc := 0) (i := 0) E dX0_everyone_0 rfl rfl ?_
  refine x_getI (pc := 1) (p := 4) E rfl (Nat.le_of_ble_eq_true rfl) rfl inlX0 (by decide) rfl wq_159 dX0_everyone_1 ?_
  refine x_callSNri (pc := 4) (na := 1) (As := [.int (σ.1 1 4)]) E (c_X6_setOfFirst G (σ.1 1 4) σ) wq_305 wq_2 wn_31 wq_304 rfl rfl (by decide) ⟨Nat.le_of_ble_eq_true rfl, Nat.le_of_ble_eq_true rfl⟩ rfl rfl (Nat.le_of_ble_eq_true rfl) dX0_everyone_4 hf (fun r1 hf => ?_)
  obtain rfl := Option.some.inj hf
  exact x_iret (pc := 7) E hR dX0_everyone_7
set_option maxHeartbeats 4000000 in
set_option maxRecDepth 100000 in
theorem c_J6_bitCount_0f7a4 (G : Gx) (v0 : Int32) (σ : MM) (r : Int32) (hf : f_J6_bitCount_0f7a4 v0 σ = some r) : Ct shS 56 yJ6_bitCount_0f7a4 cJ6_bitCount_0f7a4 1 (some .int) rm_J6_bitCount_0f7a4 G [.int v0] σ (some (.int r)) σ := by
  refine ct_of (by decide) (Nat.le_of_ble_eq_true rfl) (fun K E hR => ?_)
  have E : OKc 56 cJ6_bitCount_0f7a4 1 RJ6 G K := E
  show XJ shS 56 1 rm_J6_bitCount_0f7a4 G K σ [(0, .int v0)] 0 []
  unfold f_J6_bitCount_0f7a4 at hf
  refine x_iload_n 0 (pc := 0) (i := 0) E dJ6_bitCount_0f7a4_0 rfl rfl ?_
  refine x_iload_n 0 (pc := 1) (i := 0) E dJ6_bitCount_0f7a4_1 rfl rfl ?_
  refine x_iconst (pc := 2) (v := (1 : Int32)) E dJ6_bitCount_0f7a4_2 rfl ?_
  refine x_iushr (pc := 3) E dJ6_bitCount_0f7a4_3 ?_
  refine x_ldcw (pc := 4) (v := (1431655765 : Int32)) E wq_310 dJ6_bitCount_0f7a4_4 ?_
  refine x_iand (pc := 7) E dJ6_bitCount_0f7a4_7 ?_
  refine x_isub (pc := 8) E dJ6_bitCount_0f7a4_8 ?_
  refine x_istore_n (pc := 9) (lv' := [(0, .int (v0 - (((v0.toUInt32 >>> ((1 : Int32).toUInt32 &&& Int32.toUInt32 31)).toInt32) &&& (1431655765 : Int32))))]) E dJ6_bitCount_0f7a4_9 rfl (by decide) rfl ?_
  refine x_iload_n 0 (pc := 10) (i := 0) E dJ6_bitCount_0f7a4_10 rfl rfl ?_
  refine x_ldcw (pc := 11) (v := (858993459 : Int32)) E wq_311 dJ6_bitCount_0f7a4_11 ?_
  refine x_iand (pc := 14) E dJ6_bitCount_0f7a4_14 ?_
  refine x_iload_n 0 (pc := 15) (i := 0) E dJ6_bitCount_0f7a4_15 rfl rfl ?_
  refine x_iconst (pc := 16) (v := (2 : Int32)) E dJ6_bitCount_0f7a4_16 rfl ?_
  refine x_iushr (pc := 17) E dJ6_bitCount_0f7a4_17 ?_
  refine x_ldcw (pc := 18) (v := (858993459 : Int32)) E wq_311 dJ6_bitCount_0f7a4_18 ?_
  refine x_iand (pc := 21) E dJ6_bitCount_0f7a4_21 ?_
  refine x_iadd (pc := 22) E dJ6_bitCount_0f7a4_22 ?_
  refine x_istore_n (pc := 23) (lv' := [(0, .int (((v0 - (((v0.toUInt32 >>> ((1 : Int32).toUInt32 &&& Int32.toUInt32 31)).toInt32) &&& (1431655765 : Int32))) &&& (858993459 : Int32)) + ((((v0 - (((v0.toUInt32 >>> ((1 : Int32).toUInt32 &&& Int32.toUInt32 31)).toInt32) &&& (1431655765 : Int32))).toUInt32 >>> ((2 : Int32).toUInt32 &&& Int32.toUInt32 31)).toInt32) &&& (858993459 : Int32))))]) E dJ6_bitCount_0f7a4_23 rfl (by decide) rfl ?_
  refine x_iload_n 0 (pc := 24) (i := 0) E dJ6_bitCount_0f7a4_24 rfl rfl ?_
  refine x_iload_n 0 (pc := 25) (i := 0) E dJ6_bitCount_0f7a4_25 rfl rfl ?_
  refine x_iconst (pc := 26) (v := (4 : Int32)) E dJ6_bitCount_0f7a4_26 rfl ?_
  refine x_iushr (pc := 27) E dJ6_bitCount_0f7a4_27 ?_
  refine x_iadd (pc := 28) E dJ6_bitCount_0f7a4_28 ?_
  refine x_ldcw (pc := 29) (v := (252645135 : Int32)) E wq_312 dJ6_bitCount_0f7a4_29 ?_
  refine x_iand (pc := 32) E dJ6_bitCount_0f7a4_32 ?_
  refine x_istore_n (pc := 33) (lv' := [(0, .int (((((v0 - (((v0.toUInt32 >>> ((1 : Int32).toUInt32 &&& Int32.toUInt32 31)).toInt32) &&& (1431655765 : Int32))) &&& (858993459 : Int32)) + ((((v0 - (((v0.toUInt32 >>> ((1 : Int32).toUInt32 &&& Int32.toUInt32 31)).toInt32) &&& (1431655765 : Int32))).toUInt32 >>> ((2 : Int32).toUInt32 &&& Int32.toUInt32 31)).toInt32) &&& (858993459 : Int32))) + (((((v0 - (((v0.toUInt32 >>> ((1 : Int32).toUInt32 &&& Int32.toUInt32 31)).toInt32) &&& (1431655765 : Int32))) &&& (858993459 : Int32)) + ((((v0 - (((v0.toUInt32 >>> ((1 : Int32).toUInt32 &&& Int32.toUInt32 31)).toInt32) &&& (1431655765 : Int32))).toUInt32 >>> ((2 : Int32).toUInt32 &&& Int32.toUInt32 31)).toInt32) &&& (858993459 : Int32))).toUInt32 >>> ((4 : Int32).toUInt32 &&& Int32.toUInt32 31)).toInt32)) &&& (252645135 : Int32)))]) E dJ6_bitCount_0f7a4_33 rfl (by decide) rfl ?_
  refine x_iload_n 0 (pc := 34) (i := 0) E dJ6_bitCount_0f7a4_34 rfl rfl ?_
  refine x_iload_n 0 (pc := 35) (i := 0) E dJ6_bitCount_0f7a4_35 rfl rfl ?_
  refine x_bipush (pc := 36) (v := (8 : Int32)) E dJ6_bitCount_0f7a4_36 rfl ?_
  refine x_iushr (pc := 38) E dJ6_bitCount_0f7a4_38 ?_
  refine x_iadd (pc := 39) E dJ6_bitCount_0f7a4_39 ?_
  refine x_istore_n (pc := 40) (lv' := [(0, .int ((((((v0 - (((v0.toUInt32 >>> ((1 : Int32).toUInt32 &&& Int32.toUInt32 31)).toInt32) &&& (1431655765 : Int32))) &&& (858993459 : Int32)) + ((((v0 - (((v0.toUInt32 >>> ((1 : Int32).toUInt32 &&& Int32.toUInt32 31)).toInt32) &&& (1431655765 : Int32))).toUInt32 >>> ((2 : Int32).toUInt32 &&& Int32.toUInt32 31)).toInt32) &&& (858993459 : Int32))) + (((((v0 - (((v0.toUInt32 >>> ((1 : Int32).toUInt32 &&& Int32.toUInt32 31)).toInt32) &&& (1431655765 : Int32))) &&& (858993459 : Int32)) + ((((v0 - (((v0.toUInt32 >>> ((1 : Int32).toUInt32 &&& Int32.toUInt32 31)).toInt32) &&& (1431655765 : Int32))).toUInt32 >>> ((2 : Int32).toUInt32 &&& Int32.toUInt32 31)).toInt32) &&& (858993459 : Int32))).toUInt32 >>> ((4 : Int32).toUInt32 &&& Int32.toUInt32 31)).toInt32)) &&& (252645135 : Int32)) + (((((((v0 - (((v0.toUInt32 >>> ((1 : Int32).toUInt32 &&& Int32.toUInt32 31)).toInt32) &&& (1431655765 : Int32))) &&& (858993459 : Int32)) + ((((v0 - (((v0.toUInt32 >>> ((1 : Int32).toUInt32 &&& Int32.toUInt32 31)).toInt32) &&& (1431655765 : Int32))).toUInt32 >>> ((2 : Int32).toUInt32 &&& Int32.toUInt32 31)).toInt32) &&& (858993459 : Int32))) + (((((v0 - (((v0.toUInt32 >>> ((1 : Int32).toUInt32 &&& Int32.toUInt32 31)).toInt32) &&& (1431655765 : Int32))) &&& (858993459 : Int32)) + ((((v0 - (((v0.toUInt32 >>> ((1 : Int32).toUInt32 &&& Int32.toUInt32 31)).toInt32) &&& (1431655765 : Int32))).toUInt32 >>> ((2 : Int32).toUInt32 &&& Int32.toUInt32 31)).toInt32) &&& (858993459 : Int32))).toUInt32 >>> ((4 : Int32).toUInt32 &&& Int32.toUInt32 31)).toInt32)) &&& (252645135 : Int32)).toUInt32 >>> ((8 : Int32).toUInt32 &&& Int32.toUInt32 31)).toInt32)))]) E dJ6_bitCount_0f7a4_40 rfl (by decide) rfl ?_
  refine x_iload_n 0 (pc := 41) (i := 0) E dJ6_bitCount_0f7a4_41 rfl rfl ?_
  refine x_iload_n 0 (pc := 42) (i := 0) E dJ6_bitCount_0f7a4_42 rfl rfl ?_
  refine x_bipush (pc := 43) (v := (16 : Int32)) E dJ6_bitCount_0f7a4_43 rfl ?_
  refine x_iushr (pc := 45) E dJ6_bitCount_0f7a4_45 ?_
  refine x_iadd (pc := 46) E dJ6_bitCount_0f7a4_46 ?_
  refine x_istore_n (pc := 47) (lv' := [(0, .int (((((((v0 - (((v0.toUInt32 >>> ((1 : Int32).toUInt32 &&& Int32.toUInt32 31)).toInt32) &&& (1431655765 : Int32))) &&& (858993459 : Int32)) + ((((v0 - (((v0.toUInt32 >>> ((1 : Int32).toUInt32 &&& Int32.toUInt32 31)).toInt32) &&& (1431655765 : Int32))).toUInt32 >>> ((2 : Int32).toUInt32 &&& Int32.toUInt32 31)).toInt32) &&& (858993459 : Int32))) + (((((v0 - (((v0.toUInt32 >>> ((1 : Int32).toUInt32 &&& Int32.toUInt32 31)).toInt32) &&& (1431655765 : Int32))) &&& (858993459 : Int32)) + ((((v0 - (((v0.toUInt32 >>> ((1 : Int32).toUInt32 &&& Int32.toUInt32 31)).toInt32) &&& (1431655765 : Int32))).toUInt32 >>> ((2 : Int32).toUInt32 &&& Int32.toUInt32 31)).toInt32) &&& (858993459 : Int32))).toUInt32 >>> ((4 : Int32).toUInt32 &&& Int32.toUInt32 31)).toInt32)) &&& (252645135 : Int32)) + (((((((v0 - (((v0.toUInt32 >>> ((1 : Int32).toUInt32 &&& Int32.toUInt32 31)).toInt32) &&& (1431655765 : Int32))) &&& (858993459 : Int32)) + ((((v0 - (((v0.toUInt32 >>> ((1 : Int32).toUInt32 &&& Int32.toUInt32 31)).toInt32) &&& (1431655765 : Int32))).toUInt32 >>> ((2 : Int32).toUInt32 &&& Int32.toUInt32 31)).toInt32) &&& (858993459 : Int32))) + (((((v0 - (((v0.toUInt32 >>> ((1 : Int32).toUInt32 &&& Int32.toUInt32 31)).toInt32) &&& (1431655765 : Int32))) &&& (858993459 : Int32)) + ((((v0 - (((v0.toUInt32 >>> ((1 : Int32).toUInt32 &&& Int32.toUInt32 31)).toInt32) &&& (1431655765 : Int32))).toUInt32 >>> ((2 : Int32).toUInt32 &&& Int32.toUInt32 31)).toInt32) &&& (858993459 : Int32))).toUInt32 >>> ((4 : Int32).toUInt32 &&& Int32.toUInt32 31)).toInt32)) &&& (252645135 : Int32)).toUInt32 >>> ((8 : Int32).toUInt32 &&& Int32.toUInt32 31)).toInt32)) + ((((((((v0 - (((v0.toUInt32 >>> ((1 : Int32).toUInt32 &&& Int32.toUInt32 31)).toInt32) &&& (1431655765 : Int32))) &&& (858993459 : Int32)) + ((((v0 - (((v0.toUInt32 >>> ((1 : Int32).toUInt32 &&& Int32.toUInt32 31)).toInt32) &&& (1431655765 : Int32))).toUInt32 >>> ((2 : Int32).toUInt32 &&& Int32.toUInt32 31)).toInt32) &&& (858993459 : Int32))) + (((((v0 - (((v0.toUInt32 >>> ((1 : Int32).toUInt32 &&& Int32.toUInt32 31)).toInt32) &&& (1431655765 : Int32))) &&& (858993459 : Int32)) + ((((v0 - (((v0.toUInt32 >>> ((1 : Int32).toUInt32 &&& Int32.toUInt32 31)).toInt32) &&& (1431655765 : Int32))).toUInt32 >>> ((2 : Int32).toUInt32 &&& Int32.toUInt32 31)).toInt32) &&& (858993459 : Int32))).toUInt32 >>> ((4 : Int32).toUInt32 &&& Int32.toUInt32 31)).toInt32)) &&& (252645135 : Int32)) + (((((((v0 - (((v0.toUInt32 >>> ((1 : Int32).toUInt32 &&& Int32.toUInt32 31)).toInt32) &&& (1431655765 : Int32))) &&& (858993459 : Int32)) + ((((v0 - (((v0.toUInt32 >>> ((1 : Int32).toUInt32 &&& Int32.toUInt32 31)).toInt32) &&& (1431655765 : Int32))).toUInt32 >>> ((2 : Int32).toUInt32 &&& Int32.toUInt32 31)).toInt32) &&& (858993459 : Int32))) + (((((v0 - (((v0.toUInt32 >>> ((1 : Int32).toUInt32 &&& Int32.toUInt32 31)).toInt32) &&& (1431655765 : Int32))) &&& (858993459 : Int32)) + ((((v0 - (((v0.toUInt32 >>> ((1 : Int32).toUInt32 &&& Int32.toUInt32 31)).toInt32) &&& (1431655765 : Int32))).toUInt32 >>> ((2 : Int32).toUInt32 &&& Int32.toUInt32 31)).toInt32) &&& (858993459 : Int32))).toUInt32 >>> ((4 : Int32).toUInt32 &&& Int32.toUInt32 31)).toInt32)) &&& (252645135 : Int32)).toUInt32 >>> ((8 : Int32).toUInt32 &&& Int32.toUInt32 31)).toInt32)).toUInt32 >>> ((16 : Int32).toUInt32 &&& Int32.toUInt32 31)).toInt32)))]) E dJ6_bitCount_0f7a4_47 rfl (by decide) rfl ?_
  refine x_iload_n 0 (pc := 48) (i := 0) E dJ6_bitCount_0f7a4_48 rfl rfl ?_
  refine x_bipush (pc := 49) (v := (63 : Int32)) E dJ6_bitCount_0f7a4_49 rfl ?_
  refine x_iand (pc := 51) E dJ6_bitCount_0f7a4_51 ?_
  obtain rfl := Option.some.inj hf
  exact x_iret (pc := 52) E hR dJ6_bitCount_0f7a4_52
set_option maxHeartbeats 4000000 in
set_option maxRecDepth 100000 in
theorem c_X6_juryRefusal (G : Gx) (v1 : Int32) (σ : MM) (r : Int32) (hf : f_X6_juryRefusal v1 σ = some r) : Ct shS 56 yX6_juryRefusal cX6_juryRefusal 2 (some .int) rm_X6_juryRefusal G [.ref (gad G 0), .int v1] σ (some (.int r)) σ := by
  refine ct_of (by decide) (Nat.le_of_ble_eq_true rfl) (fun K E hR => ?_)
  have E : OKc 56 cX6_juryRefusal 2 RX6 G K := E
  show XJ shS 56 2 rm_X6_juryRefusal G K σ [(0, .ref (gad G 0)), (1, .int v1)] 0 []
  unfold f_X6_juryRefusal at hf
  refine x_iload_n 1 (pc := 0) (i := 1) E dX6_juryRefusal_0 rfl rfl ?_
  refine x_aload_n 0 (pc := 1) (i := 0) E dX6_juryRefusal_1 rfl rfl ?_
  refine x_getR (pc := 2) (r := 1) (p := 0) E rfl (Nat.le_of_ble_eq_true rfl) rfl inlX6 (by decide) rfl wq_17 dX6_juryRefusal_2 ?_
  refine x_callVNri (pc := 5) (na := 0) (As := []) E (c_X0_everyone G σ) rfl (Nat.le_of_ble_eq_true rfl) rfl wq_303 wq_16 wn_30 wq_301 wq_302 rfl rfl (by decide) ⟨Nat.le_of_ble_eq_true rfl, Nat.le_of_ble_eq_true rfl⟩ rfl rfl (Nat.le_of_ble_eq_true rfl) dX6_juryRefusal_5 hf (fun r1 hf => ?_)
  refine x_iconst (pc := 8) (v := (-1 : Int32)) E dX6_juryRefusal_8 rfl ?_
  refine x_ixor (pc := 9) E dX6_juryRefusal_9 ?_
  refine x_iand (pc := 10) E dX6_juryRefusal_10 ?_
  refine x_if_eq (y := 0) (pc := 11) (tgt := 16) E dX6_juryRefusal_11 (by decide) hf (fun hf => ?_) (fun hf => ?_)
  · refine x_iload_n 1 (pc := 16) (i := 1) E dX6_juryRefusal_16 rfl rfl ?_
    refine x_callSri (pc := 17) (na := 1) (As := [.int v1]) E (c_J6_bitCount_0f7a4 G v1 σ) wq_309 wq_308 wq_306 wq_307 rfl rfl (by decide) ⟨Nat.le_of_ble_eq_true rfl, Nat.le_of_ble_eq_true rfl⟩ rfl rfl (Nat.le_of_ble_eq_true rfl) dX6_juryRefusal_17 hf (fun r2 hf => ?_)
    refine x_aload_n 0 (pc := 20) (i := 0) E dX6_juryRefusal_20 rfl rfl ?_
    refine x_getR (pc := 21) (r := 1) (p := 0) E rfl (Nat.le_of_ble_eq_true rfl) rfl inlX6 (by decide) rfl wq_17 dX6_juryRefusal_21 ?_
    refine x_callVNri (pc := 24) (na := 0) (As := []) E (c_X0_needed G σ) rfl (Nat.le_of_ble_eq_true rfl) rfl wq_93 wq_16 wn_32 wq_91 wq_92 rfl rfl (by decide) ⟨Nat.le_of_ble_eq_true rfl, Nat.le_of_ble_eq_true rfl⟩ rfl rfl (Nat.le_of_ble_eq_true rfl) dX6_juryRefusal_24 hf (fun r3 hf => ?_)
    refine x_icmp_eq (pc := 27) (tgt := 35) E dX6_juryRefusal_27 (by decide) hf (fun hf => ?_) (fun hf => ?_)
    · refine x_iconst (pc := 35) (v := (0 : Int32)) E dX6_juryRefusal_35 rfl ?_
      obtain rfl := Option.some.inj hf
      exact x_iret (pc := 36) E hR dX6_juryRefusal_36
    · refine x_bipush (pc := 30) (v := (-3 : Int32)) E dX6_juryRefusal_30 rfl ?_
      refine x_goto (pc := 32) (tgt := 36) E dX6_juryRefusal_32 (by decide) ?_
      obtain rfl := Option.some.inj hf
      exact x_iret (pc := 36) E hR dX6_juryRefusal_36
  · refine x_iconst (pc := 14) (v := (-1 : Int32)) E dX6_juryRefusal_14 rfl ?_
    obtain rfl := Option.some.inj hf
    exact x_iret (pc := 15) E hR dX6_juryRefusal_15
set_option maxHeartbeats 4000000 in
set_option maxRecDepth 100000 in
theorem c_X6_refuseLong (G : Gx) (v1 : Int32) (σ : MM) (r : Int64) (σ' : MM) (hf : f_X6_refuseLong v1 σ = some (r, σ')) : Ct shS 56 yX6_refuseLong cX6_refuseLong 2 (some .long) rm_X6_refuseLong G [.ref (gad G 0), .int v1] σ (some (.long r)) σ' := by
  refine ct_of (by decide) (Nat.le_of_ble_eq_true rfl) (fun K E hR => ?_)
  have E : OKc 56 cX6_refuseLong 2 RX6 G K := E
  show XJ shS 56 2 rm_X6_refuseLong G K σ [(0, .ref (gad G 0)), (1, .int v1)] 0 []
  unfold f_X6_refuseLong at hf
  refine x_aload_n 0 (pc := 0) (i := 0) E dX6_refuseLong_0 rfl rfl ?_
  refine x_iload_n 1 (pc := 1) (i := 1) E dX6_refuseLong_1 rfl rfl ?_
  refine x_callVwi (pc := 2) (na := 1) (As := [.int v1]) E (c_X6_refuse G v1 σ) rfl (Nat.le_of_ble_eq_true rfl) rfl wq_133 wq_2 wq_130 wq_131 wq_132 rfl rfl (by decide) ⟨Nat.le_of_ble_eq_true rfl, Nat.le_of_ble_eq_true rfl⟩ rfl rfl (Nat.le_of_ble_eq_true rfl) dX6_refuseLong_2 hf (fun r1 σ2 hf => ?_)
  refine x_i2l (pc := 5) E dX6_refuseLong_5 ?_
  refine x_ldc2 (pc := 6) (v := 4000000000000000000) E wq_317 dX6_refuseLong_6 ?_
  refine x_lsub (pc := 9) E dX6_refuseLong_9 ?_
  obtain ⟨rfl, rfl⟩ := Prod.mk.inj (Option.some.inj hf)
  exact x_lret (pc := 10) E hR dX6_refuseLong_10
set_option maxHeartbeats 4000000 in
set_option maxRecDepth 100000 in
theorem l_X2_spreadOut_79 (G : Gx) {K : Kx} (b : Nat) (q1 : Nat) (h_b : isMd b) (hs_q1_0 : shS q1 = .inr (0, 12, 0)) (hk_q1_0 : q1 < 56) (v2 : Int32) (v3 : Int32) (v4 : Int32) (v5 : Int64) (v7 : Int64) (E : OKc 56 cX2_spreadOut 10 RX2 G K) : ∀ (m : Nat) (v9 : Int32) (σ : MM) (out : MM), loopN (fun s => g_X2_spreadOut_79 b q1 v2 v3 v4 v5 v7 s.1 s.2) m (v9, σ) = some out → XJ shS 56 10 rm_X2_spreadOut G K out [(0, .ref (gad G b)), (1, .ref (gad G q1)), (2, .int v2), (3, .int v3), (4, .int v4), (7, .long v7)] 120 [] → XJ shS 56 10 rm_X2_spreadOut G K σ [(0, .ref (gad G b)), (1, .ref (gad G q1)), (2, .int v2), (3, .int v3), (4, .int v4), (5, .long v5), (7, .long v7), (9, .int v9)] 79 [] := by
  obtain ⟨hs_b_0, hs_b_1, hs_b_2, hs_b_3, hs_b_4⟩ := sh_isMd h_b
  obtain ⟨hk_b_0, hk_b_1, hk_b_2, hk_b_3, hk_b_4⟩ := lt_isMd h_b
  intro m
  induction m with
  | zero => intro v9 σ out hf; exact (loopN_0 hf).elim
  | succ m ih =>
    intro v9 σ out hf hk
    obtain ⟨q, hf, h2⟩ := loopN_s hf
    have hf : g_X2_spreadOut_79 b q1 v2 v3 v4 v5 v7 v9 σ = some q := hf
    unfold g_X2_spreadOut_79 at hf
    refine x_iload 7 (pc := 79) E dX2_spreadOut_79 rfl ?_
    refine x_if_le (y := 0) (pc := 81) (tgt := 120) E dX2_spreadOut_81 (by decide) hf (fun hf => ?_) (fun hf => ?_)
    · obtain rfl := Option.some.inj hf
      obtain rfl := lpk_r h2
      exact x_sub [0, 1, 2, 3, 4, 6] rfl hk
    · refine x_aload_n 0 (pc := 84) (i := 0) E dX2_spreadOut_84 rfl rfl ?_
      refine x_getR (pc := 85) (r := (b + 3)) (p := 2) E hs_b_0 hk_b_0 rfl inlX2 (by decide) rfl wq_62 dX2_spreadOut_85 ?_
      refine x_iload 7 (pc := 88) E dX2_spreadOut_88 rfl ?_
      refine x_aload_n 0 (pc := 90) (i := 0) E dX2_spreadOut_90 rfl rfl ?_
      refine x_getR (pc := 91) (r := (b + 3)) (p := 2) E hs_b_0 hk_b_0 rfl inlX2 (by decide) rfl wq_62 dX2_spreadOut_91 ?_
      refine x_iload 7 (pc := 94) E dX2_spreadOut_94 rfl ?_
      refine x_laload (pc := 96) E hs_b_3 hk_b_3 dX2_spreadOut_96 hf (fun hf => ?_)
      refine x_lload 6 (pc := 97) E dX2_spreadOut_97 rfl ?_
      refine x_lmul (pc := 99) E dX2_spreadOut_99 ?_
      refine x_aload_n 0 (pc := 100) (i := 0) E dX2_spreadOut_100 rfl rfl ?_
      refine x_getR (pc := 101) (r := (b + 3)) (p := 2) E hs_b_0 hk_b_0 rfl inlX2 (by decide) rfl wq_62 dX2_spreadOut_101 ?_
      refine x_iload 7 (pc := 104) E dX2_spreadOut_104 rfl ?_
      refine x_iconst (pc := 106) (v := (1 : Int32)) E dX2_spreadOut_106 rfl ?_
      refine x_isub (pc := 107) E dX2_spreadOut_107 ?_
      refine x_laload (pc := 108) E hs_b_3 hk_b_3 dX2_spreadOut_108 hf (fun hf => ?_)
      refine x_lload 5 (pc := 109) E dX2_spreadOut_109 rfl ?_
      refine x_lmul (pc := 111) E dX2_spreadOut_111 ?_
      refine x_ladd (pc := 112) E dX2_spreadOut_112 ?_
      refine x_lastore (pc := 113) E hs_b_3 hk_b_3 dX2_spreadOut_113 hf (fun σ3 hf => ?_)
      refine x_iinc 7 (pc := 114) (v := v9 + (-1)) (lv' := [(9, .int (v9 + (-1))), (0, .ref (gad G b)), (1, .ref (gad G q1)), (2, .int v2), (3, .int v3), (4, .int v4), (5, .long v5), (7, .long v7)]) E dX2_spreadOut_114 rfl rfl (by decide) rfl ?_
      refine x_goto (pc := 117) (tgt := 79) E dX2_spreadOut_117 (by decide) ?_
      obtain rfl := Option.some.inj hf
      exact x_sub [1, 2, 3, 4, 5, 6, 7, 0] rfl (ih _ _ _ (lpk_l h2) hk)
set_option maxHeartbeats 4000000 in
set_option maxRecDepth 100000 in
theorem l_X2_spreadOut_12 (G : Gx) {K : Kx} (b : Nat) (q1 : Nat) (h_b : isMd b) (hs_q1_0 : shS q1 = .inr (0, 12, 0)) (hk_q1_0 : q1 < 56) (v2 : Int32) (E : OKc 56 cX2_spreadOut 10 RX2 G K) : ∀ (m : Nat) (v3 : Int32) (v4 : Int32) (σ : MM) (out : MM), loopN (fun s => g_X2_spreadOut_12 b q1 v2 s.1 s.2.1 s.2.2) m (v3, v4, σ) = some out → XJ shS 56 10 rm_X2_spreadOut G K out [] 137 [] → XJ shS 56 10 rm_X2_spreadOut G K σ [(0, .ref (gad G b)), (1, .ref (gad G q1)), (2, .int v2), (3, .int v3), (4, .int v4)] 12 [] := by
  obtain ⟨hs_b_0, hs_b_1, hs_b_2, hs_b_3, hs_b_4⟩ := sh_isMd h_b
  obtain ⟨hk_b_0, hk_b_1, hk_b_2, hk_b_3, hk_b_4⟩ := lt_isMd h_b
  intro m
  induction m with
  | zero => intro v3 v4 σ out hf; exact (loopN_0 hf).elim
  | succ m ih =>
    intro v3 v4 σ out hf hk
    obtain ⟨q, hf, h2⟩ := loopN_s hf
    have hf : g_X2_spreadOut_12 b q1 v2 v3 v4 σ = some q := hf
    unfold g_X2_spreadOut_12 at hf
    refine x_iload 4 (pc := 12) E dX2_spreadOut_12 rfl ?_
    refine x_bipush (pc := 14) (v := (12 : Int32)) E dX2_spreadOut_14 rfl ?_
    refine x_icmp_ge (pc := 16) (tgt := 137) E dX2_spreadOut_16 (by decide) hf (fun hf => ?_) (fun hf => ?_)
    · obtain rfl := Option.some.inj hf
      obtain rfl := lpk_r h2
      exact x_sub [] rfl hk
    · refine x_iload_n 3 (pc := 19) (i := 3) E dX2_spreadOut_19 rfl rfl ?_
      refine x_aload_n 0 (pc := 20) (i := 0) E dX2_spreadOut_20 rfl rfl ?_
      refine x_getI (pc := 21) (p := 4) E hs_b_0 hk_b_0 rfl inlX2 (by decide) rfl wq_88 dX2_spreadOut_21 ?_
      refine x_icmp_ge (pc := 24) (tgt := 137) E dX2_spreadOut_24 (by decide) hf (fun hf => ?_) (fun hf => ?_)
      · obtain rfl := Option.some.inj hf
        obtain rfl := lpk_r h2
        exact x_sub [] rfl hk
      · refine x_iload_n 2 (pc := 27) (i := 2) E dX2_spreadOut_27 rfl rfl ?_
        refine x_iconst (pc := 28) (v := (1 : Int32)) E dX2_spreadOut_28 rfl ?_
        refine x_iload 4 (pc := 29) E dX2_spreadOut_29 rfl ?_
        refine x_ishl (pc := 31) E dX2_spreadOut_31 ?_
        refine x_iand (pc := 32) E dX2_spreadOut_32 ?_
        refine x_if_ne (y := 0) (pc := 33) (tgt := 39) E dX2_spreadOut_33 (by decide) hf (fun hf => ?_) (fun hf => ?_)
        · refine x_aload_n 1 (pc := 39) (i := 1) E dX2_spreadOut_39 rfl rfl ?_
          refine x_iload 4 (pc := 40) E dX2_spreadOut_40 rfl ?_
          refine x_iaload (pc := 42) E hs_q1_0 hk_q1_0 dX2_spreadOut_42 hf (fun hf => ?_)
          refine x_i2l (pc := 43) E dX2_spreadOut_43 ?_
          refine x_lstore (pc := 44) (lv' := [(5, .long ((σ.1 q1 v4.toNatClampNeg).toInt64)), (0, .ref (gad G b)), (1, .ref (gad G q1)), (2, .int v2), (3, .int v3), (4, .int v4)]) E dX2_spreadOut_44 (by decide) rfl ?_
          refine x_ldc2 (pc := 46) (v := 100) E wq_325 dX2_spreadOut_46 ?_
          refine x_lload 0 (pc := 49) E dX2_spreadOut_49 rfl ?_
          refine x_lsub (pc := 51) E dX2_spreadOut_51 ?_
          refine x_lstore (pc := 52) (lv' := [(7, .long ((100 : Int64) - ((σ.1 q1 v4.toNatClampNeg).toInt64))), (5, .long ((σ.1 q1 v4.toNatClampNeg).toInt64)), (0, .ref (gad G b)), (1, .ref (gad G q1)), (2, .int v2), (3, .int v3), (4, .int v4)]) E dX2_spreadOut_52 (by decide) rfl ?_
          refine x_iinc 5 (pc := 54) (v := v3 + 1) (lv' := [(3, .int (v3 + 1)), (7, .long ((100 : Int64) - ((σ.1 q1 v4.toNatClampNeg).toInt64))), (5, .long ((σ.1 q1 v4.toNatClampNeg).toInt64)), (0, .ref (gad G b)), (1, .ref (gad G q1)), (2, .int v2), (4, .int v4)]) E dX2_spreadOut_54 rfl rfl (by decide) rfl ?_
          refine x_aload_n 3 (pc := 57) (i := 0) E dX2_spreadOut_57 rfl rfl ?_
          refine x_getR (pc := 58) (r := (b + 3)) (p := 2) E hs_b_0 hk_b_0 rfl inlX2 (by decide) rfl wq_62 dX2_spreadOut_58 ?_
          refine x_iload_n 0 (pc := 61) (i := 3) E dX2_spreadOut_61 rfl rfl ?_
          refine x_aload_n 3 (pc := 62) (i := 0) E dX2_spreadOut_62 rfl rfl ?_
          refine x_getR (pc := 63) (r := (b + 3)) (p := 2) E hs_b_0 hk_b_0 rfl inlX2 (by decide) rfl wq_62 dX2_spreadOut_63 ?_
          refine x_iload_n 0 (pc := 66) (i := 3) E dX2_spreadOut_66 rfl rfl ?_
          refine x_iconst (pc := 67) (v := (1 : Int32)) E dX2_spreadOut_67 rfl ?_
          refine x_isub (pc := 68) E dX2_spreadOut_68 ?_
          refine x_laload (pc := 69) E hs_b_3 hk_b_3 dX2_spreadOut_69 hf (fun hf => ?_)
          refine x_lload 2 (pc := 70) E dX2_spreadOut_70 rfl ?_
          refine x_lmul (pc := 72) E dX2_spreadOut_72 ?_
          refine x_lastore (pc := 73) E hs_b_3 hk_b_3 dX2_spreadOut_73 hf (fun σ2 hf => ?_)
          refine x_iload_n 0 (pc := 74) (i := 3) E dX2_spreadOut_74 rfl rfl ?_
          refine x_iconst (pc := 75) (v := (1 : Int32)) E dX2_spreadOut_75 rfl ?_
          refine x_isub (pc := 76) E dX2_spreadOut_76 ?_
          refine x_istore (pc := 77) (lv' := [(9, .int ((v3 + 1) - (1 : Int32))), (3, .int (v3 + 1)), (7, .long ((100 : Int64) - ((σ.1 q1 v4.toNatClampNeg).toInt64))), (5, .long ((σ.1 q1 v4.toNatClampNeg).toInt64)), (0, .ref (gad G b)), (1, .ref (gad G q1)), (2, .int v2), (4, .int v4)]) E dX2_spreadOut_77 (by decide) rfl ?_
          obtain ⟨o4, hl5, hf⟩ := bind_some hf
          refine x_sub [4, 5, 6, 1, 7, 3, 2, 0] rfl (l_X2_spreadOut_79 G b q1 h_b hs_q1_0 hk_q1_0 v2 (v3 + 1) v4 ((σ.1 q1 v4.toNatClampNeg).toInt64) ((100 : Int64) - ((σ.1 q1 v4.toNatClampNeg).toInt64)) E FU _ _ o4 hl5 ?_)
          refine x_aload_n 0 (pc := 120) (i := 0) E dX2_spreadOut_120 rfl rfl ?_
          refine x_getR (pc := 121) (r := (b + 3)) (p := 2) E hs_b_0 hk_b_0 rfl inlX2 (by decide) rfl wq_62 dX2_spreadOut_121 ?_
          refine x_iconst (pc := 124) (v := (0 : Int32)) E dX2_spreadOut_124 rfl ?_
          refine x_dup2 (pc := 125) E dX2_spreadOut_125 rfl rfl ?_
          refine x_laload (pc := 126) E hs_b_3 hk_b_3 dX2_spreadOut_126 hf (fun hf => ?_)
          refine x_lload 5 (pc := 127) E dX2_spreadOut_127 rfl ?_
          refine x_lmul (pc := 129) E dX2_spreadOut_129 ?_
          refine x_lastore (pc := 130) E hs_b_3 hk_b_3 dX2_spreadOut_130 hf (fun σ6 hf => ?_)
          refine x_iinc 4 (pc := 131) (v := v4 + 1) (lv' := [(4, .int (v4 + 1)), (0, .ref (gad G b)), (1, .ref (gad G q1)), (2, .int v2), (3, .int (v3 + 1)), (7, .long ((100 : Int64) - ((σ.1 q1 v4.toNatClampNeg).toInt64)))]) E dX2_spreadOut_131 rfl rfl (by decide) rfl ?_
          refine x_goto (pc := 134) (tgt := 12) E dX2_spreadOut_134 (by decide) ?_
          obtain rfl := Option.some.inj hf
          exact x_sub [1, 2, 3, 4, 0] rfl (ih _ _ _ _ (lpk_l h2) hk)
        · refine x_goto (pc := 36) (tgt := 131) E dX2_spreadOut_36 (by decide) ?_
          refine x_iinc 4 (pc := 131) (v := v4 + 1) (lv' := [(4, .int (v4 + 1)), (0, .ref (gad G b)), (1, .ref (gad G q1)), (2, .int v2), (3, .int v3)]) E dX2_spreadOut_131 rfl rfl (by decide) rfl ?_
          refine x_goto (pc := 134) (tgt := 12) E dX2_spreadOut_134 (by decide) ?_
          obtain rfl := Option.some.inj hf
          exact x_sub [1, 2, 3, 4, 0] rfl (ih _ _ _ _ (lpk_l h2) hk)
set_option maxHeartbeats 4000000 in
set_option maxRecDepth 100000 in
theorem c_X2_spreadOut (G : Gx) (b : Nat) (q1 : Nat) (h_b : isMd b) (hs_q1_0 : shS q1 = .inr (0, 12, 0)) (hk_q1_0 : q1 < 56) (v2 : Int32) (σ : MM) (σ' : MM) (hf : f_X2_spreadOut b q1 v2 σ = some σ') : Ct shS 56 yX2_spreadOut cX2_spreadOut 10 none rm_X2_spreadOut G [.ref (gad G b), .ref (gad G q1), .int v2] σ none σ' := by
  obtain ⟨hs_b_0, hs_b_1, hs_b_2, hs_b_3, hs_b_4⟩ := sh_isMd h_b
  obtain ⟨hk_b_0, hk_b_1, hk_b_2, hk_b_3, hk_b_4⟩ := lt_isMd h_b
  refine ct_of (by decide) (Nat.le_of_ble_eq_true rfl) (fun K E hR => ?_)
  have E : OKc 56 cX2_spreadOut 10 RX2 G K := E
  show XJ shS 56 10 rm_X2_spreadOut G K σ [(0, .ref (gad G b)), (1, .ref (gad G q1)), (2, .int v2)] 0 []
  unfold f_X2_spreadOut at hf
  refine x_iconst (pc := 0) (v := (0 : Int32)) E dX2_spreadOut_0 rfl ?_
  refine x_istore_n (pc := 1) (lv' := [(3, .int (0 : Int32)), (0, .ref (gad G b)), (1, .ref (gad G q1)), (2, .int v2)]) E dX2_spreadOut_1 rfl (by decide) rfl ?_
  refine x_aload_n 1 (pc := 2) (i := 0) E dX2_spreadOut_2 rfl rfl ?_
  refine x_getR (pc := 3) (r := (b + 3)) (p := 2) E hs_b_0 hk_b_0 rfl inlX2 (by decide) rfl wq_62 dX2_spreadOut_3 ?_
  refine x_iconst (pc := 6) (v := (0 : Int32)) E dX2_spreadOut_6 rfl ?_
  refine x_lconst (pc := 7) (v := 1) E dX2_spreadOut_7 rfl ?_
  refine x_lastore (pc := 8) E hs_b_3 hk_b_3 dX2_spreadOut_8 hf (fun σ1 hf => ?_)
  refine x_iconst (pc := 9) (v := (0 : Int32)) E dX2_spreadOut_9 rfl ?_
  refine x_istore (pc := 10) (lv' := [(4, .int (0 : Int32)), (3, .int (0 : Int32)), (0, .ref (gad G b)), (1, .ref (gad G q1)), (2, .int v2)]) E dX2_spreadOut_10 (by decide) rfl ?_
  obtain ⟨o7, hl8, hf⟩ := bind_some hf
  refine x_sub [2, 3, 4, 1, 0] rfl (l_X2_spreadOut_12 G b q1 h_b hs_q1_0 hk_q1_0 v2 E FU _ _ _ o7 hl8 ?_)
  obtain rfl := Option.some.inj hf
  exact x_vret (pc := 137) E hR dX2_spreadOut_137
