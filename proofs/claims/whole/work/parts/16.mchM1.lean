set_option maxHeartbeats 4000000 in
set_option maxRecDepth 100000 in
theorem c_X7_no (G : Gx) (v1 : Int32) (σ : MM) (r : Int32) (σ' : MM) (hf : f_X7_no v1 σ = some (r, σ')) : Ct shM 21 yX7_no cX7_no 2 (some .int) rm_X7_no G [.ref (gad G 0), .int v1] σ (some (.int r)) σ' := by
  refine ct_of (by decide) (Nat.le_of_ble_eq_true rfl) (fun K E hR => ?_)
  have E : OKc 21 cX7_no 2 RX7 G K := E
  show XJ shM 21 2 rm_X7_no G K σ [(0, .ref (gad G 0)), (1, .int v1)] 0 []
  unfold f_X7_no at hf
  refine x_aload_n 0 (pc := 0) (i := 0) E dX7_no_0 rfl rfl ?_
  refine x_getR (pc := 1) (r := 1) (p := 0) E rfl (Nat.le_of_ble_eq_true rfl) rfl inlX7 (by decide) rfl wq_98 dX7_no_1 ?_
  refine x_iload_n 1 (pc := 4) (i := 1) E dX7_no_4 rfl rfl ?_
  refine x_ineg (pc := 5) E dX7_no_5 ?_
  refine x_dup2 (pc := 6) E dX7_no_6 rfl rfl ?_
  refine x_iaload (pc := 7) E rfl (Nat.le_of_ble_eq_true rfl) dX7_no_7 hf (fun hf => ?_)
  refine x_iconst (pc := 8) (v := (1 : Int32)) E dX7_no_8 rfl ?_
  refine x_iadd (pc := 9) E dX7_no_9 ?_
  refine x_iastore (pc := 10) E rfl (Nat.le_of_ble_eq_true rfl) dX7_no_10 hf (fun σ1 hf => ?_)
  refine x_iload_n 1 (pc := 11) (i := 1) E dX7_no_11 rfl rfl ?_
  obtain ⟨rfl, rfl⟩ := Prod.mk.inj (Option.some.inj hf)
  exact x_iret (pc := 12) E hR dX7_no_12
set_option maxHeartbeats 4000000 in
set_option maxRecDepth 100000 in
theorem c_X7_noLong (G : Gx) (v1 : Int32) (σ : MM) (r : Int64) (σ' : MM) (hf : f_X7_noLong v1 σ = some (r, σ')) : Ct shM 21 yX7_noLong cX7_noLong 2 (some .long) rm_X7_noLong G [.ref (gad G 0), .int v1] σ (some (.long r)) σ' := by
  refine ct_of (by decide) (Nat.le_of_ble_eq_true rfl) (fun K E hR => ?_)
  have E : OKc 21 cX7_noLong 2 RX7 G K := E
  show XJ shM 21 2 rm_X7_noLong G K σ [(0, .ref (gad G 0)), (1, .int v1)] 0 []
  unfold f_X7_noLong at hf
  refine x_aload_n 0 (pc := 0) (i := 0) E dX7_noLong_0 rfl rfl ?_
  refine x_getR (pc := 1) (r := 1) (p := 0) E rfl (Nat.le_of_ble_eq_true rfl) rfl inlX7 (by decide) rfl wq_98 dX7_noLong_1 ?_
  refine x_iload_n 1 (pc := 4) (i := 1) E dX7_noLong_4 rfl rfl ?_
  refine x_ineg (pc := 5) E dX7_noLong_5 ?_
  refine x_dup2 (pc := 6) E dX7_noLong_6 rfl rfl ?_
  refine x_iaload (pc := 7) E rfl (Nat.le_of_ble_eq_true rfl) dX7_noLong_7 hf (fun hf => ?_)
  refine x_iconst (pc := 8) (v := (1 : Int32)) E dX7_noLong_8 rfl ?_
  refine x_iadd (pc := 9) E dX7_noLong_9 ?_
  refine x_iastore (pc := 10) E rfl (Nat.le_of_ble_eq_true rfl) dX7_noLong_10 hf (fun σ1 hf => ?_)
  refine x_iload_n 1 (pc := 11) (i := 1) E dX7_noLong_11 rfl rfl ?_
  refine x_i2l (pc := 12) E dX7_noLong_12 ?_
  refine x_ldc2 (pc := 13) (v := 4000000000000000000) E wq_353 dX7_noLong_13 ?_
  refine x_lsub (pc := 16) E dX7_noLong_16 ?_
  obtain ⟨rfl, rfl⟩ := Prod.mk.inj (Option.some.inj hf)
  exact x_lret (pc := 17) E hR dX7_noLong_17
set_option maxHeartbeats 4000000 in
set_option maxRecDepth 100000 in
theorem c_X7_isIn (G : Gx) (v0 : Int32) (v1 : Int32) (v2 : Int32) (σ : MM) (r : Int32) (hf : f_X7_isIn v0 v1 v2 σ = some r) : Ct shM 21 yX7_isIn cX7_isIn 3 (some .boolean) rm_X7_isIn G [.int v0, .int v1, .int v2] σ (some (.int r)) σ := by
  refine ct_of (by decide) (Nat.le_of_ble_eq_true rfl) (fun K E hR => ?_)
  have E : OKc 21 cX7_isIn 3 RX7 G K := E
  show XJ shM 21 3 rm_X7_isIn G K σ [(0, .int v0), (1, .int v1), (2, .int v2)] 0 []
  unfold f_X7_isIn at hf
  refine x_iload_n 0 (pc := 0) (i := 0) E dX7_isIn_0 rfl rfl ?_
  refine x_iload_n 1 (pc := 1) (i := 1) E dX7_isIn_1 rfl rfl ?_
  refine x_icmp_lt (pc := 2) (tgt := 14) E dX7_isIn_2 (by decide) hf (fun hf => ?_) (fun hf => ?_)
  · refine x_iconst (pc := 14) (v := (0 : Int32)) E dX7_isIn_14 rfl ?_
    obtain ⟨hz, hf⟩ := chk_some hf
    obtain rfl := Option.some.inj hf
    exact x_zret (pc := 15) E hR (isB_nar hz) dX7_isIn_15
  · refine x_iload_n 0 (pc := 5) (i := 0) E dX7_isIn_5 rfl rfl ?_
    refine x_iload_n 2 (pc := 6) (i := 2) E dX7_isIn_6 rfl rfl ?_
    refine x_icmp_gt (pc := 7) (tgt := 14) E dX7_isIn_7 (by decide) hf (fun hf => ?_) (fun hf => ?_)
    · refine x_iconst (pc := 14) (v := (0 : Int32)) E dX7_isIn_14 rfl ?_
      obtain ⟨hz, hf⟩ := chk_some hf
      obtain rfl := Option.some.inj hf
      exact x_zret (pc := 15) E hR (isB_nar hz) dX7_isIn_15
    · refine x_iconst (pc := 10) (v := (1 : Int32)) E dX7_isIn_10 rfl ?_
      refine x_goto (pc := 11) (tgt := 15) E dX7_isIn_11 (by decide) ?_
      obtain ⟨hz, hf⟩ := chk_some hf
      obtain rfl := Option.some.inj hf
      exact x_zret (pc := 15) E hR (isB_nar hz) dX7_isIn_15
set_option maxHeartbeats 4000000 in
set_option maxRecDepth 100000 in
theorem c_X7_out (G : Gx) (v0 : Int32) (v1 : Int32) (v2 : Int32) (σ : MM) (r : Int32) (hf : f_X7_out v0 v1 v2 σ = some r) : Ct shM 21 yX7_out cX7_out 3 (some .int) rm_X7_out G [.int v0, .int v1, .int v2] σ (some (.int r)) σ := by
  refine ct_of (by decide) (Nat.le_of_ble_eq_true rfl) (fun K E hR => ?_)
  have E : OKc 21 cX7_out 3 RX7 G K := E
  show XJ shM 21 3 rm_X7_out G K σ [(0, .int v0), (1, .int v1), (2, .int v2)] 0 []
  unfold f_X7_out at hf
  refine x_iload_n 0 (pc := 0) (i := 0) E dX7_out_0 rfl rfl ?_
  refine x_iload_n 1 (pc := 1) (i := 1) E dX7_out_1 rfl rfl ?_
  refine x_icmp_ge (pc := 2) (tgt := 10) E dX7_out_2 (by decide) hf (fun hf => ?_) (fun hf => ?_)
  · refine x_iload_n 0 (pc := 10) (i := 0) E dX7_out_10 rfl rfl ?_
    refine x_iload_n 2 (pc := 11) (i := 2) E dX7_out_11 rfl rfl ?_
    refine x_icmp_le (pc := 12) (tgt := 20) E dX7_out_12 (by decide) hf (fun hf => ?_) (fun hf => ?_)
    · refine x_iconst (pc := 20) (v := (0 : Int32)) E dX7_out_20 rfl ?_
      obtain rfl := Option.some.inj hf
      exact x_iret (pc := 21) E hR dX7_out_21
    · refine x_bipush (pc := 15) (v := (-6 : Int32)) E dX7_out_15 rfl ?_
      refine x_goto (pc := 17) (tgt := 21) E dX7_out_17 (by decide) ?_
      obtain rfl := Option.some.inj hf
      exact x_iret (pc := 21) E hR dX7_out_21
  · refine x_bipush (pc := 5) (v := (-4 : Int32)) E dX7_out_5 rfl ?_
    refine x_goto (pc := 7) (tgt := 21) E dX7_out_7 (by decide) ?_
    obtain rfl := Option.some.inj hf
    exact x_iret (pc := 21) E hR dX7_out_21
set_option maxHeartbeats 4000000 in
set_option maxRecDepth 100000 in
theorem l_X7_bits_4 (G : Gx) {K : Kx}   (v0 : Int32) (σ : MM) (E : OKc 21 cX7_bits 3 RX7 G K) : ∀ (m : Nat) (v1 : Int32) (v2 : Int32) (out : Int32), loopN (fun s => g_X7_bits_4 v0 s.1 s.2 σ) m (v1, v2) = some out → XJ shM 21 3 rm_X7_bits G K σ [(1, .int out)] 24 [] → XJ shM 21 3 rm_X7_bits G K σ [(0, .int v0), (1, .int v1), (2, .int v2)] 4 [] := by
  intro m
  induction m with
  | zero => intro v1 v2 out hf; exact (loopN_0 hf).elim
  | succ m ih =>
    intro v1 v2 out hf hk
    obtain ⟨q, hf, h2⟩ := loopN_s hf
    have hf : g_X7_bits_4 v0 v1 v2 σ = some q := hf
    unfold g_X7_bits_4 at hf
    refine x_iload_n 2 (pc := 4) (i := 2) E dX7_bits_4 rfl rfl ?_
    refine x_bipush (pc := 5) (v := (31 : Int32)) E dX7_bits_5 rfl ?_
    refine x_icmp_ge (pc := 7) (tgt := 24) E dX7_bits_7 (by decide) hf (fun hf => ?_) (fun hf => ?_)
    · obtain rfl := Option.some.inj hf
      obtain rfl := lpk_r h2
      exact x_sub [1] rfl hk
    · refine x_iload_n 1 (pc := 10) (i := 1) E dX7_bits_10 rfl rfl ?_
      refine x_iload_n 0 (pc := 11) (i := 0) E dX7_bits_11 rfl rfl ?_
      refine x_iload_n 2 (pc := 12) (i := 2) E dX7_bits_12 rfl rfl ?_
      refine x_ishr (pc := 13) E dX7_bits_13 ?_
      refine x_iconst (pc := 14) (v := (1 : Int32)) E dX7_bits_14 rfl ?_
      refine x_iand (pc := 15) E dX7_bits_15 ?_
      refine x_iadd (pc := 16) E dX7_bits_16 ?_
      refine x_istore_n (pc := 17) (lv' := [(1, .int (v1 + ((v0 >>> (v2 &&& 31)) &&& (1 : Int32)))), (0, .int v0), (2, .int v2)]) E dX7_bits_17 rfl (by decide) rfl ?_
      refine x_iinc 2 (pc := 18) (v := v2 + 1) (lv' := [(2, .int (v2 + 1)), (1, .int (v1 + ((v0 >>> (v2 &&& 31)) &&& (1 : Int32)))), (0, .int v0)]) E dX7_bits_18 rfl rfl (by decide) rfl ?_
      refine x_goto (pc := 21) (tgt := 4) E dX7_bits_21 (by decide) ?_
      obtain rfl := Option.some.inj hf
      exact x_sub [2, 1, 0] rfl (ih _ _ _ (lpk_l h2) hk)
set_option maxHeartbeats 4000000 in
set_option maxRecDepth 100000 in
theorem c_X7_bits (G : Gx) (v0 : Int32) (σ : MM) (r : Int32) (hf : f_X7_bits v0 σ = some r) : Ct shM 21 yX7_bits cX7_bits 3 (some .int) rm_X7_bits G [.int v0] σ (some (.int r)) σ := by
  refine ct_of (by decide) (Nat.le_of_ble_eq_true rfl) (fun K E hR => ?_)
  have E : OKc 21 cX7_bits 3 RX7 G K := E
  show XJ shM 21 3 rm_X7_bits G K σ [(0, .int v0)] 0 []
  unfold f_X7_bits at hf
  refine x_iconst (pc := 0) (v := (0 : Int32)) E dX7_bits_0 rfl ?_
  refine x_istore_n (pc := 1) (lv' := [(1, .int (0 : Int32)), (0, .int v0)]) E dX7_bits_1 rfl (by decide) rfl ?_
  refine x_iconst (pc := 2) (v := (0 : Int32)) E dX7_bits_2 rfl ?_
  refine x_istore_n (pc := 3) (lv' := [(2, .int (0 : Int32)), (1, .int (0 : Int32)), (0, .int v0)]) E dX7_bits_3 rfl (by decide) rfl ?_
  obtain ⟨o1, hl2, hf⟩ := bind_some hf
  refine x_sub [2, 1, 0] rfl (l_X7_bits_4 G   v0 σ E FU _ _ o1 hl2 ?_)
  refine x_iload_n 0 (pc := 24) (i := 1) E dX7_bits_24 rfl rfl ?_
  obtain rfl := Option.some.inj hf
  exact x_iret (pc := 25) E hR dX7_bits_25
set_option maxHeartbeats 4000000 in
set_option maxRecDepth 100000 in
theorem c_X7_isSort (G : Gx) (v0 : Int32) (σ : MM) (r : Int32) (hf : f_X7_isSort v0 σ = some r) : Ct shM 21 yX7_isSort cX7_isSort 1 (some .boolean) rm_X7_isSort G [.int v0] σ (some (.int r)) σ := by
  refine ct_of (by decide) (Nat.le_of_ble_eq_true rfl) (fun K E hR => ?_)
  have E : OKc 21 cX7_isSort 1 RX7 G K := E
  show XJ shM 21 1 rm_X7_isSort G K σ [(0, .int v0)] 0 []
  unfold f_X7_isSort at hf
  refine x_iload_n 0 (pc := 0) (i := 0) E dX7_isSort_0 rfl rfl ?_
  refine x_if_lt (y := 0) (pc := 1) (tgt := 14) E dX7_isSort_1 (by decide) hf (fun hf => ?_) (fun hf => ?_)
  · refine x_iconst (pc := 14) (v := (0 : Int32)) E dX7_isSort_14 rfl ?_
    obtain ⟨hz, hf⟩ := chk_some hf
    obtain rfl := Option.some.inj hf
    exact x_zret (pc := 15) E hR (isB_nar hz) dX7_isSort_15
  · refine x_iload_n 0 (pc := 4) (i := 0) E dX7_isSort_4 rfl rfl ?_
    refine x_bipush (pc := 5) (v := (6 : Int32)) E dX7_isSort_5 rfl ?_
    refine x_icmp_ge (pc := 7) (tgt := 14) E dX7_isSort_7 (by decide) hf (fun hf => ?_) (fun hf => ?_)
    · refine x_iconst (pc := 14) (v := (0 : Int32)) E dX7_isSort_14 rfl ?_
      obtain ⟨hz, hf⟩ := chk_some hf
      obtain rfl := Option.some.inj hf
      exact x_zret (pc := 15) E hR (isB_nar hz) dX7_isSort_15
    · refine x_iconst (pc := 10) (v := (1 : Int32)) E dX7_isSort_10 rfl ?_
      refine x_goto (pc := 11) (tgt := 15) E dX7_isSort_11 (by decide) ?_
      obtain ⟨hz, hf⟩ := chk_some hf
      obtain rfl := Option.some.inj hf
      exact x_zret (pc := 15) E hR (isB_nar hz) dX7_isSort_15
set_option maxHeartbeats 4000000 in
set_option maxRecDepth 100000 in
theorem c_X7_sort (G : Gx) (v1 : Int32) (v2 : Int32) (v3 : Int32) (σ : MM) (r : Int32) (σ' : MM) (hf : f_X7_sort v1 v2 v3 σ = some (r, σ')) : Ct shM 21 yX7_sort cX7_sort 5 (some .int) rm_X7_sort G [.ref (gad G 0), .int v1, .int v2, .int v3] σ (some (.int r)) σ' := by
  refine ct_of (by decide) (Nat.le_of_ble_eq_true rfl) (fun K E hR => ?_)
  have E : OKc 21 cX7_sort 5 RX7 G K := E
  show XJ shM 21 5 rm_X7_sort G K σ [(0, .ref (gad G 0)), (1, .int v1), (2, .int v2), (3, .int v3)] 0 []
  unfold f_X7_sort at hf
  refine x_iload_n 1 (pc := 0) (i := 1) E dX7_sort_0 rfl rfl ?_
  refine x_callSri (pc := 1) (na := 1) (As := [.int v1]) E (c_X7_isSort G v1 σ) wq_147 wq_5 wq_145 wq_146 rfl rfl (by decide) ⟨Nat.le_of_ble_eq_true rfl, Nat.le_of_ble_eq_true rfl⟩ rfl rfl (Nat.le_of_ble_eq_true rfl) dX7_sort_1 hf (fun r1 hf => ?_)
  refine x_if_ne (y := 0) (pc := 4) (tgt := 13) E dX7_sort_4 (by decide) hf (fun hf => ?_) (fun hf => ?_)
  · refine x_iload_n 2 (pc := 13) (i := 2) E dX7_sort_13 rfl rfl ?_
    obtain ⟨o2, hf4, hf⟩ := bind_some hf
    have hJ3 : XJ shM 21 5 rm_X7_sort G K σ [(0, .ref (gad G 0)), (1, .int v1), (2, .int v2), (3, .int v3)] 44 [.int o2] := by
      refine x_istore (pc := 44) (lv' := [(4, .int o2), (0, .ref (gad G 0)), (1, .int v1), (2, .int v2), (3, .int v3)]) E dX7_sort_44 (by decide) rfl ?_
      refine x_iload 0 (pc := 46) E dX7_sort_46 rfl ?_
      refine x_if_eq (y := 0) (pc := 48) (tgt := 58) E dX7_sort_48 (by decide) hf (fun hf => ?_) (fun hf => ?_)
      · refine x_aload_n 1 (pc := 58) (i := 0) E dX7_sort_58 rfl rfl ?_
        refine x_getR (pc := 59) (r := 2) (p := 1) E rfl (Nat.le_of_ble_eq_true rfl) rfl inlX7 (by decide) rfl wq_99 dX7_sort_59 ?_
        refine x_iconst (pc := 62) (v := (2 : Int32)) E dX7_sort_62 rfl ?_
        refine x_iload_n 2 (pc := 63) (i := 1) E dX7_sort_63 rfl rfl ?_
        refine x_imul (pc := 64) E dX7_sort_64 ?_
        refine x_iload_n 3 (pc := 65) (i := 2) E dX7_sort_65 rfl rfl ?_
        refine x_iastore (pc := 66) E rfl (Nat.le_of_ble_eq_true rfl) dX7_sort_66 hf (fun σ5 hf => ?_)
        refine x_aload_n 1 (pc := 67) (i := 0) E dX7_sort_67 rfl rfl ?_
        refine x_getR (pc := 68) (r := 2) (p := 1) E rfl (Nat.le_of_ble_eq_true rfl) rfl inlX7 (by decide) rfl wq_99 dX7_sort_68 ?_
        refine x_iconst (pc := 71) (v := (2 : Int32)) E dX7_sort_71 rfl ?_
        refine x_iload_n 2 (pc := 72) (i := 1) E dX7_sort_72 rfl rfl ?_
        refine x_imul (pc := 73) E dX7_sort_73 ?_
        refine x_iconst (pc := 74) (v := (1 : Int32)) E dX7_sort_74 rfl ?_
        refine x_iadd (pc := 75) E dX7_sort_75 ?_
        refine x_iload_n 4 (pc := 76) (i := 3) E dX7_sort_76 rfl rfl ?_
        refine x_iastore (pc := 77) E rfl (Nat.le_of_ble_eq_true rfl) dX7_sort_77 hf (fun σ6 hf => ?_)
        refine x_iconst (pc := 78) (v := (1 : Int32)) E dX7_sort_78 rfl ?_
        obtain ⟨rfl, rfl⟩ := Prod.mk.inj (Option.some.inj hf)
        exact x_iret (pc := 79) E hR dX7_sort_79
      · refine x_aload_n 1 (pc := 51) (i := 0) E dX7_sort_51 rfl rfl ?_
        refine x_iload 0 (pc := 52) E dX7_sort_52 rfl ?_
        refine x_callVwi (pc := 54) (na := 1) (As := [.int o2]) E (c_X7_no G o2 σ) rfl (Nat.le_of_ble_eq_true rfl) rfl wq_151 wq_5 wq_148 wq_149 wq_150 rfl rfl (by decide) ⟨Nat.le_of_ble_eq_true rfl, Nat.le_of_ble_eq_true rfl⟩ rfl rfl (Nat.le_of_ble_eq_true rfl) dX7_sort_54 hf (fun r7 σ8 hf => ?_)
        obtain ⟨rfl, rfl⟩ := Prod.mk.inj (Option.some.inj hf)
        exact x_iret (pc := 57) E hR dX7_sort_57
    refine x_if_lt (y := 0) (pc := 14) (tgt := 21) E dX7_sort_14 (by decide) hf4 (fun hf4 => ?_) (fun hf4 => ?_)
    · refine x_bipush (pc := 21) (v := (-4 : Int32)) E dX7_sort_21 rfl ?_
      refine x_goto (pc := 23) (tgt := 44) E dX7_sort_23 (by decide) ?_
      obtain rfl := Option.some.inj hf4
      exact x_sub [0, 1, 2, 3] rfl hJ3
    · refine x_iload_n 3 (pc := 17) (i := 3) E dX7_sort_17 rfl rfl ?_
      refine x_if_ge (y := 0) (pc := 18) (tgt := 26) E dX7_sort_18 (by decide) hf4 (fun hf4 => ?_) (fun hf4 => ?_)
      · refine x_iload_n 2 (pc := 26) (i := 2) E dX7_sort_26 rfl rfl ?_
        refine x_bipush (pc := 27) (v := (100 : Int32)) E dX7_sort_27 rfl ?_
        refine x_icmp_gt (pc := 29) (tgt := 38) E dX7_sort_29 (by decide) hf4 (fun hf4 => ?_) (fun hf4 => ?_)
        · refine x_bipush (pc := 38) (v := (-6 : Int32)) E dX7_sort_38 rfl ?_
          refine x_goto (pc := 40) (tgt := 44) E dX7_sort_40 (by decide) ?_
          obtain rfl := Option.some.inj hf4
          exact x_sub [0, 1, 2, 3] rfl hJ3
        · refine x_iload_n 3 (pc := 32) (i := 3) E dX7_sort_32 rfl rfl ?_
          refine x_bipush (pc := 33) (v := (100 : Int32)) E dX7_sort_33 rfl ?_
          refine x_icmp_le (pc := 35) (tgt := 43) E dX7_sort_35 (by decide) hf4 (fun hf4 => ?_) (fun hf4 => ?_)
          · refine x_iconst (pc := 43) (v := (0 : Int32)) E dX7_sort_43 rfl ?_
            obtain rfl := Option.some.inj hf4
            exact x_sub [0, 1, 2, 3] rfl hJ3
          · refine x_bipush (pc := 38) (v := (-6 : Int32)) E dX7_sort_38 rfl ?_
            refine x_goto (pc := 40) (tgt := 44) E dX7_sort_40 (by decide) ?_
            obtain rfl := Option.some.inj hf4
            exact x_sub [0, 1, 2, 3] rfl hJ3
      · refine x_bipush (pc := 21) (v := (-4 : Int32)) E dX7_sort_21 rfl ?_
        refine x_goto (pc := 23) (tgt := 44) E dX7_sort_23 (by decide) ?_
        obtain rfl := Option.some.inj hf4
        exact x_sub [0, 1, 2, 3] rfl hJ3
  · refine x_aload_n 0 (pc := 7) (i := 0) E dX7_sort_7 rfl rfl ?_
    refine x_iconst (pc := 8) (v := (-1 : Int32)) E dX7_sort_8 rfl ?_
    refine x_callVwi (pc := 9) (na := 1) (As := [.int (-1 : Int32)]) E (c_X7_no G (-1 : Int32) σ) rfl (Nat.le_of_ble_eq_true rfl) rfl wq_151 wq_5 wq_148 wq_149 wq_150 rfl rfl (by decide) ⟨Nat.le_of_ble_eq_true rfl, Nat.le_of_ble_eq_true rfl⟩ rfl rfl (Nat.le_of_ble_eq_true rfl) dX7_sort_9 hf (fun r9 σ10 hf => ?_)
    obtain ⟨rfl, rfl⟩ := Prod.mk.inj (Option.some.inj hf)
    exact x_iret (pc := 12) E hR dX7_sort_12
set_option maxHeartbeats 4000000 in
set_option maxRecDepth 100000 in
theorem c_X7_person (G : Gx) (v1 : Int32) (σ : MM) (r : Int32) (σ' : MM) (hf : f_X7_person v1 σ = some (r, σ')) : Ct shM 21 yX7_person cX7_person 2 (some .int) rm_X7_person G [.ref (gad G 0), .int v1] σ (some (.int r)) σ' := by
  refine ct_of (by decide) (Nat.le_of_ble_eq_true rfl) (fun K E hR => ?_)
  have E : OKc 21 cX7_person 2 RX7 G K := E
  show XJ shM 21 2 rm_X7_person G K σ [(0, .ref (gad G 0)), (1, .int v1)] 0 []
  unfold f_X7_person at hf
  refine x_iload_n 1 (pc := 0) (i := 1) E dX7_person_0 rfl rfl ?_
  refine x_callSri (pc := 1) (na := 1) (As := [.int v1]) E (c_X7_isSort G v1 σ) wq_147 wq_5 wq_145 wq_146 rfl rfl (by decide) ⟨Nat.le_of_ble_eq_true rfl, Nat.le_of_ble_eq_true rfl⟩ rfl rfl (Nat.le_of_ble_eq_true rfl) dX7_person_1 hf (fun r1 hf => ?_)
  refine x_if_ne (y := 0) (pc := 4) (tgt := 13) E dX7_person_4 (by decide) hf (fun hf => ?_) (fun hf => ?_)
  · refine x_aload_n 0 (pc := 13) (i := 0) E dX7_person_13 rfl rfl ?_
    refine x_getI (pc := 14) (p := 6) E rfl (Nat.le_of_ble_eq_true rfl) rfl inlX7 (by decide) rfl wq_164 dX7_person_14 ?_
    refine x_bipush (pc := 17) (v := (12 : Int32)) E dX7_person_17 rfl ?_
    refine x_icmp_ne (pc := 19) (tgt := 29) E dX7_person_19 (by decide) hf (fun hf => ?_) (fun hf => ?_)
    · refine x_aload_n 0 (pc := 29) (i := 0) E dX7_person_29 rfl rfl ?_
      refine x_getR (pc := 30) (r := 3) (p := 2) E rfl (Nat.le_of_ble_eq_true rfl) rfl inlX7 (by decide) rfl wq_100 dX7_person_30 ?_
      refine x_aload_n 0 (pc := 33) (i := 0) E dX7_person_33 rfl rfl ?_
      refine x_getI (pc := 34) (p := 6) E rfl (Nat.le_of_ble_eq_true rfl) rfl inlX7 (by decide) rfl wq_164 dX7_person_34 ?_
      refine x_iload_n 1 (pc := 37) (i := 1) E dX7_person_37 rfl rfl ?_
      refine x_iastore (pc := 38) E rfl (Nat.le_of_ble_eq_true rfl) dX7_person_38 hf (fun σ2 hf => ?_)
      refine x_aload_n 0 (pc := 39) (i := 0) E dX7_person_39 rfl rfl ?_
      refine x_dup (pc := 40) E dX7_person_40 rfl ?_
      refine x_getI (pc := 41) (p := 6) E rfl (Nat.le_of_ble_eq_true rfl) rfl inlX7 (by decide) rfl wq_164 dX7_person_41 ?_
      refine x_iconst (pc := 44) (v := (1 : Int32)) E dX7_person_44 rfl ?_
      refine x_iadd (pc := 45) E dX7_person_45 ?_
      refine x_put (pc := 46) (p := 6) E rfl (Nat.le_of_ble_eq_true rfl) rfl inlX7 tyX7_ok nmX7 (by decide) rfl rfl rfl rfl wq_164 dX7_person_46 hf (fun σ3 hf => ?_)
      refine x_aload_n 0 (pc := 49) (i := 0) E dX7_person_49 rfl rfl ?_
      refine x_getI (pc := 50) (p := 6) E rfl (Nat.le_of_ble_eq_true rfl) rfl inlX7 (by decide) rfl wq_164 dX7_person_50 ?_
      refine x_iconst (pc := 53) (v := (1 : Int32)) E dX7_person_53 rfl ?_
      refine x_isub (pc := 54) E dX7_person_54 ?_
      obtain ⟨rfl, rfl⟩ := Prod.mk.inj (Option.some.inj hf)
      exact x_iret (pc := 55) E hR dX7_person_55
    · refine x_aload_n 0 (pc := 22) (i := 0) E dX7_person_22 rfl rfl ?_
      refine x_bipush (pc := 23) (v := (-6 : Int32)) E dX7_person_23 rfl ?_
      refine x_callVwi (pc := 25) (na := 1) (As := [.int (-6 : Int32)]) E (c_X7_no G (-6 : Int32) σ) rfl (Nat.le_of_ble_eq_true rfl) rfl wq_151 wq_5 wq_148 wq_149 wq_150 rfl rfl (by decide) ⟨Nat.le_of_ble_eq_true rfl, Nat.le_of_ble_eq_true rfl⟩ rfl rfl (Nat.le_of_ble_eq_true rfl) dX7_person_25 hf (fun r4 σ5 hf => ?_)
      obtain ⟨rfl, rfl⟩ := Prod.mk.inj (Option.some.inj hf)
      exact x_iret (pc := 28) E hR dX7_person_28
  · refine x_aload_n 0 (pc := 7) (i := 0) E dX7_person_7 rfl rfl ?_
    refine x_iconst (pc := 8) (v := (-1 : Int32)) E dX7_person_8 rfl ?_
    refine x_callVwi (pc := 9) (na := 1) (As := [.int (-1 : Int32)]) E (c_X7_no G (-1 : Int32) σ) rfl (Nat.le_of_ble_eq_true rfl) rfl wq_151 wq_5 wq_148 wq_149 wq_150 rfl rfl (by decide) ⟨Nat.le_of_ble_eq_true rfl, Nat.le_of_ble_eq_true rfl⟩ rfl rfl (Nat.le_of_ble_eq_true rfl) dX7_person_9 hf (fun r6 σ7 hf => ?_)
    obtain ⟨rfl, rfl⟩ := Prod.mk.inj (Option.some.inj hf)
    exact x_iret (pc := 12) E hR dX7_person_12
set_option maxHeartbeats 4000000 in
set_option maxRecDepth 100000 in
theorem c_X7_takeBack (G : Gx) (σ : MM) (r : Int32) (σ' : MM) (hf : f_X7_takeBack σ = some (r, σ')) : Ct shM 21 yX7_takeBack cX7_takeBack 1 (some .int) rm_X7_takeBack G [.ref (gad G 0)] σ (some (.int r)) σ' := by
  refine ct_of (by decide) (Nat.le_of_ble_eq_true rfl) (fun K E hR => ?_)
  have E : OKc 21 cX7_takeBack 1 RX7 G K := E
  show XJ shM 21 1 rm_X7_takeBack G K σ [(0, .ref (gad G 0))] 0 []
  unfold f_X7_takeBack at hf
  refine x_aload_n 0 (pc := 0) (i := 0) E dX7_takeBack_0 rfl rfl ?_
  refine x_getI (pc := 1) (p := 6) E rfl (Nat.le_of_ble_eq_true rfl) rfl inlX7 (by decide) rfl wq_164 dX7_takeBack_1 ?_
  refine x_if_ne (y := 0) (pc := 4) (tgt := 14) E dX7_takeBack_4 (by decide) hf (fun hf => ?_) (fun hf => ?_)
  · refine x_aload_n 0 (pc := 14) (i := 0) E dX7_takeBack_14 rfl rfl ?_
    refine x_dup (pc := 15) E dX7_takeBack_15 rfl ?_
    refine x_getI (pc := 16) (p := 6) E rfl (Nat.le_of_ble_eq_true rfl) rfl inlX7 (by decide) rfl wq_164 dX7_takeBack_16 ?_
    refine x_iconst (pc := 19) (v := (1 : Int32)) E dX7_takeBack_19 rfl ?_
    refine x_isub (pc := 20) E dX7_takeBack_20 ?_
    refine x_put (pc := 21) (p := 6) E rfl (Nat.le_of_ble_eq_true rfl) rfl inlX7 tyX7_ok nmX7 (by decide) rfl rfl rfl rfl wq_164 dX7_takeBack_21 hf (fun σ1 hf => ?_)
    refine x_aload_n 0 (pc := 24) (i := 0) E dX7_takeBack_24 rfl rfl ?_
    refine x_getI (pc := 25) (p := 6) E rfl (Nat.le_of_ble_eq_true rfl) rfl inlX7 (by decide) rfl wq_164 dX7_takeBack_25 ?_
    obtain ⟨rfl, rfl⟩ := Prod.mk.inj (Option.some.inj hf)
    exact x_iret (pc := 28) E hR dX7_takeBack_28
  · refine x_aload_n 0 (pc := 7) (i := 0) E dX7_takeBack_7 rfl rfl ?_
    refine x_bipush (pc := 8) (v := (-3 : Int32)) E dX7_takeBack_8 rfl ?_
    refine x_callVwi (pc := 10) (na := 1) (As := [.int (-3 : Int32)]) E (c_X7_no G (-3 : Int32) σ) rfl (Nat.le_of_ble_eq_true rfl) rfl wq_151 wq_5 wq_148 wq_149 wq_150 rfl rfl (by decide) ⟨Nat.le_of_ble_eq_true rfl, Nat.le_of_ble_eq_true rfl⟩ rfl rfl (Nat.le_of_ble_eq_true rfl) dX7_takeBack_10 hf (fun r2 σ3 hf => ?_)
    obtain ⟨rfl, rfl⟩ := Prod.mk.inj (Option.some.inj hf)
    exact x_iret (pc := 13) E hR dX7_takeBack_13
set_option maxHeartbeats 4000000 in
set_option maxRecDepth 100000 in
theorem c_X7_set (G : Gx) (v1 : Int32) (v2 : Int32) (σ : MM) (r : Int32) (σ' : MM) (hf : f_X7_set v1 v2 σ = some (r, σ')) : Ct shM 21 yX7_set cX7_set 5 (some .int) rm_X7_set G [.ref (gad G 0), .int v1, .int v2] σ (some (.int r)) σ' := by
  refine ct_of (by decide) (Nat.le_of_ble_eq_true rfl) (fun K E hR => ?_)
  have E : OKc 21 cX7_set 5 RX7 G K := E
  show XJ shM 21 5 rm_X7_set G K σ [(0, .ref (gad G 0)), (1, .int v1), (2, .int v2)] 0 []
  unfold f_X7_set at hf
  refine x_iload_n 1 (pc := 0) (i := 1) E dX7_set_0 rfl rfl ?_
  refine x_iconst (pc := 1) (v := (0 : Int32)) E dX7_set_1 rfl ?_
  refine x_iconst (pc := 2) (v := (4 : Int32)) E dX7_set_2 rfl ?_
  refine x_callSri (pc := 3) (na := 3) (As := [.int v1, .int (0 : Int32), .int (4 : Int32)]) E (c_X7_isIn G v1 (0 : Int32) (4 : Int32) σ) wq_185 wq_5 wq_183 wq_184 rfl rfl (by decide) ⟨Nat.le_of_ble_eq_true rfl, Nat.le_of_ble_eq_true rfl⟩ rfl rfl (Nat.le_of_ble_eq_true rfl) dX7_set_3 hf (fun r1 hf => ?_)
  refine x_if_ne (y := 0) (pc := 6) (tgt := 16) E dX7_set_6 (by decide) hf (fun hf => ?_) (fun hf => ?_)
  · refine x_iload_n 2 (pc := 16) (i := 2) E dX7_set_16 rfl rfl ?_
    refine x_aload_n 0 (pc := 17) (i := 0) E dX7_set_17 rfl rfl ?_
    refine x_getR (pc := 18) (r := 5) (p := 4) E rfl (Nat.le_of_ble_eq_true rfl) rfl inlX7 (by decide) rfl wq_102 dX7_set_18 ?_
    refine x_iload_n 1 (pc := 21) (i := 1) E dX7_set_21 rfl rfl ?_
    refine x_iaload (pc := 22) E rfl (Nat.le_of_ble_eq_true rfl) dX7_set_22 hf (fun hf => ?_)
    refine x_aload_n 0 (pc := 23) (i := 0) E dX7_set_23 rfl rfl ?_
    refine x_getR (pc := 24) (r := 6) (p := 5) E rfl (Nat.le_of_ble_eq_true rfl) rfl inlX7 (by decide) rfl wq_103 dX7_set_24 ?_
    refine x_iload_n 1 (pc := 27) (i := 1) E dX7_set_27 rfl rfl ?_
    refine x_iaload (pc := 28) E rfl (Nat.le_of_ble_eq_true rfl) dX7_set_28 hf (fun hf => ?_)
    refine x_callSri (pc := 29) (na := 3) (As := [.int v2, .int (σ.1 5 v1.toNatClampNeg), .int (σ.1 6 v1.toNatClampNeg)]) E (c_X7_out G v2 (σ.1 5 v1.toNatClampNeg) (σ.1 6 v1.toNatClampNeg) σ) wq_188 wq_5 wq_186 wq_187 rfl rfl (by decide) ⟨Nat.le_of_ble_eq_true rfl, Nat.le_of_ble_eq_true rfl⟩ rfl rfl (Nat.le_of_ble_eq_true rfl) dX7_set_29 hf (fun r2 hf => ?_)
    refine x_istore_n (pc := 32) (lv' := [(3, .int r2), (0, .ref (gad G 0)), (1, .int v1), (2, .int v2)]) E dX7_set_32 rfl (by decide) rfl ?_
    refine x_iload_n 0 (pc := 33) (i := 3) E dX7_set_33 rfl rfl ?_
    refine x_if_eq (y := 0) (pc := 34) (tgt := 43) E dX7_set_34 (by decide) hf (fun hf => ?_) (fun hf => ?_)
    · refine x_aload_n 1 (pc := 43) (i := 0) E dX7_set_43 rfl rfl ?_
      refine x_getR (pc := 44) (r := 4) (p := 3) E rfl (Nat.le_of_ble_eq_true rfl) rfl inlX7 (by decide) rfl wq_101 dX7_set_44 ?_
      refine x_iload_n 2 (pc := 47) (i := 1) E dX7_set_47 rfl rfl ?_
      refine x_iaload (pc := 48) E rfl (Nat.le_of_ble_eq_true rfl) dX7_set_48 hf (fun hf => ?_)
      refine x_istore (pc := 49) (lv' := [(4, .int (σ.1 4 v1.toNatClampNeg)), (3, .int r2), (0, .ref (gad G 0)), (1, .int v1), (2, .int v2)]) E dX7_set_49 (by decide) rfl ?_
      refine x_aload_n 2 (pc := 51) (i := 0) E dX7_set_51 rfl rfl ?_
      refine x_getR (pc := 52) (r := 4) (p := 3) E rfl (Nat.le_of_ble_eq_true rfl) rfl inlX7 (by decide) rfl wq_101 dX7_set_52 ?_
      refine x_iload_n 3 (pc := 55) (i := 1) E dX7_set_55 rfl rfl ?_
      refine x_iload_n 4 (pc := 56) (i := 2) E dX7_set_56 rfl rfl ?_
      refine x_iastore (pc := 57) E rfl (Nat.le_of_ble_eq_true rfl) dX7_set_57 hf (fun σ3 hf => ?_)
      refine x_iload 0 (pc := 58) E dX7_set_58 rfl ?_
      obtain ⟨rfl, rfl⟩ := Prod.mk.inj (Option.some.inj hf)
      exact x_iret (pc := 60) E hR dX7_set_60
    · refine x_aload_n 1 (pc := 37) (i := 0) E dX7_set_37 rfl rfl ?_
      refine x_iload_n 0 (pc := 38) (i := 3) E dX7_set_38 rfl rfl ?_
      refine x_callVwi (pc := 39) (na := 1) (As := [.int r2]) E (c_X7_no G r2 σ) rfl (Nat.le_of_ble_eq_true rfl) rfl wq_151 wq_5 wq_148 wq_149 wq_150 rfl rfl (by decide) ⟨Nat.le_of_ble_eq_true rfl, Nat.le_of_ble_eq_true rfl⟩ rfl rfl (Nat.le_of_ble_eq_true rfl) dX7_set_39 hf (fun r4 σ5 hf => ?_)
      obtain ⟨rfl, rfl⟩ := Prod.mk.inj (Option.some.inj hf)
      exact x_iret (pc := 42) E hR dX7_set_42
  · refine x_aload_n 0 (pc := 9) (i := 0) E dX7_set_9 rfl rfl ?_
    refine x_bipush (pc := 10) (v := (-2 : Int32)) E dX7_set_10 rfl ?_
    refine x_callVwi (pc := 12) (na := 1) (As := [.int (-2 : Int32)]) E (c_X7_no G (-2 : Int32) σ) rfl (Nat.le_of_ble_eq_true rfl) rfl wq_151 wq_5 wq_148 wq_149 wq_150 rfl rfl (by decide) ⟨Nat.le_of_ble_eq_true rfl, Nat.le_of_ble_eq_true rfl⟩ rfl rfl (Nat.le_of_ble_eq_true rfl) dX7_set_12 hf (fun r6 σ7 hf => ?_)
    obtain ⟨rfl, rfl⟩ := Prod.mk.inj (Option.some.inj hf)
    exact x_iret (pc := 15) E hR dX7_set_15
set_option maxHeartbeats 4000000 in
set_option maxRecDepth 100000 in
theorem c_X7_needed (G : Gx) (σ : MM) (r : Int32) (hf : f_X7_needed σ = some r) : Ct shM 21 yX7_needed cX7_needed 1 (some .int) rm_X7_needed G [.ref (gad G 0)] σ (some (.int r)) σ := by
  refine ct_of (by decide) (Nat.le_of_ble_eq_true rfl) (fun K E hR => ?_)
  have E : OKc 21 cX7_needed 1 RX7 G K := E
  show XJ shM 21 1 rm_X7_needed G K σ [(0, .ref (gad G 0))] 0 []
  unfold f_X7_needed at hf
  refine x_aload_n 0 (pc := 0) (i := 0) E dX7_needed_0 rfl rfl ?_
  refine x_getR (pc := 1) (r := 4) (p := 3) E rfl (Nat.le_of_ble_eq_true rfl) rfl inlX7 (by decide) rfl wq_101 dX7_needed_1 ?_
  refine x_iconst (pc := 4) (v := (0 : Int32)) E dX7_needed_4 rfl ?_
  refine x_iaload (pc := 5) E rfl (Nat.le_of_ble_eq_true rfl) dX7_needed_5 hf (fun hf => ?_)
  obtain rfl := Option.some.inj hf
  exact x_iret (pc := 6) E hR dX7_needed_6
set_option maxHeartbeats 4000000 in
set_option maxRecDepth 100000 in
theorem c_X7_calledMany (G : Gx) (σ : MM) (r : Int32) (hf : f_X7_calledMany σ = some r) : Ct shM 21 yX7_calledMany cX7_calledMany 1 (some .int) rm_X7_calledMany G [.ref (gad G 0)] σ (some (.int r)) σ := by
  refine ct_of (by decide) (Nat.le_of_ble_eq_true rfl) (fun K E hR => ?_)
  have E : OKc 21 cX7_calledMany 1 RX7 G K := E
  show XJ shM 21 1 rm_X7_calledMany G K σ [(0, .ref (gad G 0))] 0 []
  unfold f_X7_calledMany at hf
  refine x_aload_n 0 (pc := 0) (i := 0) E dX7_calledMany_0 rfl rfl ?_
  refine x_getR (pc := 1) (r := 4) (p := 3) E rfl (Nat.le_of_ble_eq_true rfl) rfl inlX7 (by decide) rfl wq_101 dX7_calledMany_1 ?_
  refine x_iconst (pc := 4) (v := (0 : Int32)) E dX7_calledMany_4 rfl ?_
  refine x_iaload (pc := 5) E rfl (Nat.le_of_ble_eq_true rfl) dX7_calledMany_5 hf (fun hf => ?_)
  refine x_aload_n 0 (pc := 6) (i := 0) E dX7_calledMany_6 rfl rfl ?_
  refine x_getR (pc := 7) (r := 4) (p := 3) E rfl (Nat.le_of_ble_eq_true rfl) rfl inlX7 (by decide) rfl wq_101 dX7_calledMany_7 ?_
  refine x_iconst (pc := 10) (v := (1 : Int32)) E dX7_calledMany_10 rfl ?_
  refine x_iaload (pc := 11) E rfl (Nat.le_of_ble_eq_true rfl) dX7_calledMany_11 hf (fun hf => ?_)
  refine x_iadd (pc := 12) E dX7_calledMany_12 ?_
  refine x_aload_n 0 (pc := 13) (i := 0) E dX7_calledMany_13 rfl rfl ?_
  refine x_getR (pc := 14) (r := 4) (p := 3) E rfl (Nat.le_of_ble_eq_true rfl) rfl inlX7 (by decide) rfl wq_101 dX7_calledMany_14 ?_
  refine x_iconst (pc := 17) (v := (2 : Int32)) E dX7_calledMany_17 rfl ?_
  refine x_iaload (pc := 18) E rfl (Nat.le_of_ble_eq_true rfl) dX7_calledMany_18 hf (fun hf => ?_)
  refine x_iadd (pc := 19) E dX7_calledMany_19 ?_
  obtain rfl := Option.some.inj hf
  exact x_iret (pc := 20) E hR dX7_calledMany_20
set_option maxHeartbeats 4000000 in
set_option maxRecDepth 100000 in
theorem c_X7_isEnough (G : Gx) (σ : MM) (r : Int32) (hf : f_X7_isEnough σ = some r) : Ct shM 21 yX7_isEnough cX7_isEnough 1 (some .boolean) rm_X7_isEnough G [.ref (gad G 0)] σ (some (.int r)) σ := by
  refine ct_of (by decide) (Nat.le_of_ble_eq_true rfl) (fun K E hR => ?_)
  have E : OKc 21 cX7_isEnough 1 RX7 G K := E
  show XJ shM 21 1 rm_X7_isEnough G K σ [(0, .ref (gad G 0))] 0 []
  unfold f_X7_isEnough at hf
  refine x_aload_n 0 (pc := 0) (i := 0) E dX7_isEnough_0 rfl rfl ?_
  refine x_callVri (pc := 1) (na := 0) (As := []) E (c_X7_calledMany G σ) rfl (Nat.le_of_ble_eq_true rfl) rfl wq_520 wq_5 wq_517 wq_518 wq_519 rfl rfl (by decide) ⟨Nat.le_of_ble_eq_true rfl, Nat.le_of_ble_eq_true rfl⟩ rfl rfl (Nat.le_of_ble_eq_true rfl) dX7_isEnough_1 hf (fun r1 hf => ?_)
  refine x_aload_n 0 (pc := 4) (i := 0) E dX7_isEnough_4 rfl rfl ?_
  refine x_getI (pc := 5) (p := 6) E rfl (Nat.le_of_ble_eq_true rfl) rfl inlX7 (by decide) rfl wq_164 dX7_isEnough_5 ?_
  refine x_icmp_gt (pc := 8) (tgt := 15) E dX7_isEnough_8 (by decide) hf (fun hf => ?_) (fun hf => ?_)
  · refine x_iconst (pc := 15) (v := (0 : Int32)) E dX7_isEnough_15 rfl ?_
    obtain ⟨hz, hf⟩ := chk_some hf
    obtain rfl := Option.some.inj hf
    exact x_zret (pc := 16) E hR (isB_nar hz) dX7_isEnough_16
  · refine x_iconst (pc := 11) (v := (1 : Int32)) E dX7_isEnough_11 rfl ?_
    refine x_goto (pc := 12) (tgt := 16) E dX7_isEnough_12 (by decide) ?_
    obtain ⟨hz, hf⟩ := chk_some hf
    obtain rfl := Option.some.inj hf
    exact x_zret (pc := 16) E hR (isB_nar hz) dX7_isEnough_16
set_option maxHeartbeats 4000000 in
set_option maxRecDepth 100000 in
theorem c_X7_called (G : Gx) (σ : MM) (r : Int32) (hf : f_X7_called σ = some r) : Ct shM 21 yX7_called cX7_called 1 (some .int) rm_X7_called G [.ref (gad G 0)] σ (some (.int r)) σ := by
  refine ct_of (by decide) (Nat.le_of_ble_eq_true rfl) (fun K E hR => ?_)
  have E : OKc 21 cX7_called 1 RX7 G K := E
  show XJ shM 21 1 rm_X7_called G K σ [(0, .ref (gad G 0))] 0 []
  unfold f_X7_called at hf
  refine x_iconst (pc := 0) (v := (1 : Int32)) E dX7_called_0 rfl ?_
  refine x_aload_n 0 (pc := 1) (i := 0) E dX7_called_1 rfl rfl ?_
  refine x_callVri (pc := 2) (na := 0) (As := []) E (c_X7_calledMany G σ) rfl (Nat.le_of_ble_eq_true rfl) rfl wq_520 wq_5 wq_517 wq_518 wq_519 rfl rfl (by decide) ⟨Nat.le_of_ble_eq_true rfl, Nat.le_of_ble_eq_true rfl⟩ rfl rfl (Nat.le_of_ble_eq_true rfl) dX7_called_2 hf (fun r1 hf => ?_)
  refine x_ishl (pc := 5) E dX7_called_5 ?_
  refine x_iconst (pc := 6) (v := (1 : Int32)) E dX7_called_6 rfl ?_
  refine x_isub (pc := 7) E dX7_called_7 ?_
  obtain rfl := Option.some.inj hf
  exact x_iret (pc := 8) E hR dX7_called_8
set_option maxHeartbeats 4000000 in
set_option maxRecDepth 100000 in
theorem l_X7_feed_44 (G : Gx) {K : Kx}   (v1 : Int32) (v2 : Int64) (E : OKc 21 cX7_feed 6 RX7 G K) : ∀ (m : Nat) (v5 : Int32) (σ : MM) (out : MM), loopN (fun s => g_X7_feed_44 v1 v2 s.1 s.2) m (v5, σ) = some out → XJ shM 21 6 rm_X7_feed G K out [(0, .ref (gad G 0))] 87 [] → XJ shM 21 6 rm_X7_feed G K σ [(0, .ref (gad G 0)), (1, .int v1), (2, .long v2), (5, .int v5)] 44 [] := by
  intro m
  induction m with
  | zero => intro v5 σ out hf; exact (loopN_0 hf).elim
  | succ m ih =>
    intro v5 σ out hf hk
    obtain ⟨q, hf, h2⟩ := loopN_s hf
    have hf : g_X7_feed_44 v1 v2 v5 σ = some q := hf
    unfold g_X7_feed_44 at hf
    refine x_iload 3 (pc := 44) E dX7_feed_44 rfl ?_
    refine x_iload_n 1 (pc := 46) (i := 1) E dX7_feed_46 rfl rfl ?_
    refine x_icmp_ge (pc := 47) (tgt := 87) E dX7_feed_47 (by decide) hf (fun hf => ?_) (fun hf => ?_)
    · obtain rfl := Option.some.inj hf
      obtain rfl := lpk_r h2
      exact x_sub [0] rfl hk
    · refine x_aload_n 0 (pc := 50) (i := 0) E dX7_feed_50 rfl rfl ?_
      refine x_getR (pc := 51) (r := 7) (p := 7) E rfl (Nat.le_of_ble_eq_true rfl) rfl inlX7 (by decide) rfl wq_104 dX7_feed_51 ?_
      refine x_aload_n 0 (pc := 54) (i := 0) E dX7_feed_54 rfl rfl ?_
      refine x_getI (pc := 55) (p := 8) E rfl (Nat.le_of_ble_eq_true rfl) rfl inlX7 (by decide) rfl wq_201 dX7_feed_55 ?_
      refine x_lload_n 2 (pc := 58) (i := 2) E dX7_feed_58 rfl rfl ?_
      refine x_bipush (pc := 59) (v := (8 : Int32)) E dX7_feed_59 rfl ?_
      refine x_iload 3 (pc := 61) E dX7_feed_61 rfl ?_
      refine x_imul (pc := 63) E dX7_feed_63 ?_
      refine x_lshr (pc := 64) E dX7_feed_64 ?_
      refine x_ldc2 (pc := 65) (v := 255) E wq_202 dX7_feed_65 ?_
      refine x_land (pc := 68) E dX7_feed_68 ?_
      refine x_l2i (pc := 69) E dX7_feed_69 ?_
      refine x_iastore (pc := 70) E rfl (Nat.le_of_ble_eq_true rfl) dX7_feed_70 hf (fun σ5 hf => ?_)
      refine x_aload_n 0 (pc := 71) (i := 0) E dX7_feed_71 rfl rfl ?_
      refine x_dup (pc := 72) E dX7_feed_72 rfl ?_
      refine x_getI (pc := 73) (p := 8) E rfl (Nat.le_of_ble_eq_true rfl) rfl inlX7 (by decide) rfl wq_201 dX7_feed_73 ?_
      refine x_iconst (pc := 76) (v := (1 : Int32)) E dX7_feed_76 rfl ?_
      refine x_iadd (pc := 77) E dX7_feed_77 ?_
      refine x_put (pc := 78) (p := 8) E rfl (Nat.le_of_ble_eq_true rfl) rfl inlX7 tyX7_ok nmX7 (by decide) rfl rfl rfl rfl wq_201 dX7_feed_78 hf (fun σ6 hf => ?_)
      refine x_iinc 3 (pc := 81) (v := v5 + 1) (lv' := [(5, .int (v5 + 1)), (0, .ref (gad G 0)), (1, .int v1), (2, .long v2)]) E dX7_feed_81 rfl rfl (by decide) rfl ?_
      refine x_goto (pc := 84) (tgt := 44) E dX7_feed_84 (by decide) ?_
      obtain rfl := Option.some.inj hf
      exact x_sub [1, 2, 3, 0] rfl (ih _ _ _ (lpk_l h2) hk)
set_option maxHeartbeats 4000000 in
set_option maxRecDepth 100000 in
theorem c_X7_feed (G : Gx) (v1 : Int32) (v2 : Int64) (σ : MM) (r : Int32) (σ' : MM) (hf : f_X7_feed v1 v2 σ = some (r, σ')) : Ct shM 21 yX7_feed cX7_feed 6 (some .int) rm_X7_feed G [.ref (gad G 0), .int v1, .long v2] σ (some (.int r)) σ' := by
  refine ct_of (by decide) (Nat.le_of_ble_eq_true rfl) (fun K E hR => ?_)
  have E : OKc 21 cX7_feed 6 RX7 G K := E
  show XJ shM 21 6 rm_X7_feed G K σ [(0, .ref (gad G 0)), (1, .int v1), (2, .long v2)] 0 []
  unfold f_X7_feed at hf
  refine x_iload_n 1 (pc := 0) (i := 1) E dX7_feed_0 rfl rfl ?_
  refine x_iconst (pc := 1) (v := (1 : Int32)) E dX7_feed_1 rfl ?_
  refine x_bipush (pc := 2) (v := (8 : Int32)) E dX7_feed_2 rfl ?_
  refine x_callSri (pc := 4) (na := 3) (As := [.int v1, .int (1 : Int32), .int (8 : Int32)]) E (c_X7_out G v1 (1 : Int32) (8 : Int32) σ) wq_188 wq_5 wq_186 wq_187 rfl rfl (by decide) ⟨Nat.le_of_ble_eq_true rfl, Nat.le_of_ble_eq_true rfl⟩ rfl rfl (Nat.le_of_ble_eq_true rfl) dX7_feed_4 hf (fun r1 hf => ?_)
  refine x_istore (pc := 7) (lv' := [(4, .int r1), (0, .ref (gad G 0)), (1, .int v1), (2, .long v2)]) E dX7_feed_7 (by decide) rfl ?_
  refine x_iload 0 (pc := 9) E dX7_feed_9 rfl ?_
  obtain ⟨o2, hf4, hf⟩ := bind_some hf
  have hJ3 : XJ shM 21 6 rm_X7_feed G K σ [(0, .ref (gad G 0)), (1, .int v1), (2, .long v2), (4, .int o2)] 29 [] := by
    refine x_iload 3 (pc := 29) E dX7_feed_29 rfl ?_
    refine x_if_eq (y := 0) (pc := 31) (tgt := 41) E dX7_feed_31 (by decide) hf (fun hf => ?_) (fun hf => ?_)
    · refine x_iconst (pc := 41) (v := (0 : Int32)) E dX7_feed_41 rfl ?_
      refine x_istore (pc := 42) (lv' := [(5, .int (0 : Int32)), (0, .ref (gad G 0)), (1, .int v1), (2, .long v2), (4, .int o2)]) E dX7_feed_42 (by decide) rfl ?_
      obtain ⟨o7, hl8, hf⟩ := bind_some hf
      refine x_sub [1, 2, 3, 0] rfl (l_X7_feed_44 G   v1 v2 E FU _ _ o7 hl8 ?_)
      refine x_aload_n 0 (pc := 87) (i := 0) E dX7_feed_87 rfl rfl ?_
      refine x_getI (pc := 88) (p := 8) E rfl (Nat.le_of_ble_eq_true rfl) rfl inlX7 (by decide) rfl wq_201 dX7_feed_88 ?_
      obtain ⟨rfl, rfl⟩ := Prod.mk.inj (Option.some.inj hf)
      exact x_iret (pc := 91) E hR dX7_feed_91
    · refine x_aload_n 0 (pc := 34) (i := 0) E dX7_feed_34 rfl rfl ?_
      refine x_iload 3 (pc := 35) E dX7_feed_35 rfl ?_
      refine x_callVwi (pc := 37) (na := 1) (As := [.int o2]) E (c_X7_no G o2 σ) rfl (Nat.le_of_ble_eq_true rfl) rfl wq_151 wq_5 wq_148 wq_149 wq_150 rfl rfl (by decide) ⟨Nat.le_of_ble_eq_true rfl, Nat.le_of_ble_eq_true rfl⟩ rfl rfl (Nat.le_of_ble_eq_true rfl) dX7_feed_37 hf (fun r9 σ10 hf => ?_)
      obtain ⟨rfl, rfl⟩ := Prod.mk.inj (Option.some.inj hf)
      exact x_iret (pc := 40) E hR dX7_feed_40
  refine x_if_ne (y := 0) (pc := 11) (tgt := 29) E dX7_feed_11 (by decide) hf4 (fun hf4 => ?_) (fun hf4 => ?_)
  · obtain rfl := Option.some.inj hf4
    exact x_sub [1, 2, 3, 0] rfl hJ3
  · refine x_aload_n 1 (pc := 14) (i := 0) E dX7_feed_14 rfl rfl ?_
    refine x_getI (pc := 15) (p := 8) E rfl (Nat.le_of_ble_eq_true rfl) rfl inlX7 (by decide) rfl wq_201 dX7_feed_15 ?_
    refine x_iload_n 2 (pc := 18) (i := 1) E dX7_feed_18 rfl rfl ?_
    refine x_iadd (pc := 19) E dX7_feed_19 ?_
    refine x_bipush (pc := 20) (v := (80 : Int32)) E dX7_feed_20 rfl ?_
    refine x_icmp_le (pc := 22) (tgt := 29) E dX7_feed_22 (by decide) hf4 (fun hf4 => ?_) (fun hf4 => ?_)
    · obtain rfl := Option.some.inj hf4
      exact x_sub [1, 2, 3, 0] rfl hJ3
    · refine x_bipush (pc := 25) (v := (-6 : Int32)) E dX7_feed_25 rfl ?_
      refine x_istore (pc := 27) (lv' := [(4, .int (-6 : Int32)), (0, .ref (gad G 0)), (1, .int v1), (2, .long v2)]) E dX7_feed_27 (by decide) rfl ?_
      obtain rfl := Option.some.inj hf4
      exact x_sub [1, 2, 3, 0] rfl hJ3
set_option maxHeartbeats 4000000 in
set_option maxRecDepth 100000 in
theorem c_X7_sign (G : Gx) (σ : MM) (r : Int32) (hf : f_X7_sign σ = some r) : Ct shM 21 yX7_sign cX7_sign 1 (some .int) rm_X7_sign G [.ref (gad G 0)] σ (some (.int r)) σ := by
  refine ct_of (by decide) (Nat.le_of_ble_eq_true rfl) (fun K E hR => ?_)
  have E : OKc 21 cX7_sign 1 RX7 G K := E
  show XJ shM 21 1 rm_X7_sign G K σ [(0, .ref (gad G 0))] 0 []
  unfold f_X7_sign at hf
  refine x_aload_n 0 (pc := 0) (i := 0) E dX7_sign_0 rfl rfl ?_
  refine x_getI (pc := 1) (p := 9) E rfl (Nat.le_of_ble_eq_true rfl) rfl inlX7 (by decide) rfl wq_260 dX7_sign_1 ?_
  refine x_aload_n 0 (pc := 4) (i := 0) E dX7_sign_4 rfl rfl ?_
  refine x_getI (pc := 5) (p := 8) E rfl (Nat.le_of_ble_eq_true rfl) rfl inlX7 (by decide) rfl wq_201 dX7_sign_5 ?_
  refine x_icmp_ge (pc := 8) (tgt := 23) E dX7_sign_8 (by decide) hf (fun hf => ?_) (fun hf => ?_)
  · refine x_iconst (pc := 23) (v := (-1 : Int32)) E dX7_sign_23 rfl ?_
    obtain rfl := Option.some.inj hf
    exact x_iret (pc := 24) E hR dX7_sign_24
  · refine x_aload_n 0 (pc := 11) (i := 0) E dX7_sign_11 rfl rfl ?_
    refine x_getR (pc := 12) (r := 7) (p := 7) E rfl (Nat.le_of_ble_eq_true rfl) rfl inlX7 (by decide) rfl wq_104 dX7_sign_12 ?_
    refine x_aload_n 0 (pc := 15) (i := 0) E dX7_sign_15 rfl rfl ?_
    refine x_getI (pc := 16) (p := 9) E rfl (Nat.le_of_ble_eq_true rfl) rfl inlX7 (by decide) rfl wq_260 dX7_sign_16 ?_
    refine x_iaload (pc := 19) E rfl (Nat.le_of_ble_eq_true rfl) dX7_sign_19 hf (fun hf => ?_)
    refine x_goto (pc := 20) (tgt := 24) E dX7_sign_20 (by decide) ?_
    obtain rfl := Option.some.inj hf
    exact x_iret (pc := 24) E hR dX7_sign_24
set_option maxHeartbeats 4000000 in
set_option maxRecDepth 100000 in
theorem c_X7_takes (G : Gx) (v1 : Int32) (σ : MM) (r : Int32) (σ' : MM) (hf : f_X7_takes v1 σ = some (r, σ')) : Ct shM 21 yX7_takes cX7_takes 2 (some .boolean) rm_X7_takes G [.ref (gad G 0), .int v1] σ (some (.int r)) σ' := by
  refine ct_of (by decide) (Nat.le_of_ble_eq_true rfl) (fun K E hR => ?_)
  have E : OKc 21 cX7_takes 2 RX7 G K := E
  show XJ shM 21 2 rm_X7_takes G K σ [(0, .ref (gad G 0)), (1, .int v1)] 0 []
  unfold f_X7_takes at hf
  refine x_aload_n 0 (pc := 0) (i := 0) E dX7_takes_0 rfl rfl ?_
  refine x_callVri (pc := 1) (na := 0) (As := []) E (c_X7_sign G σ) rfl (Nat.le_of_ble_eq_true rfl) rfl wq_268 wq_5 wq_265 wq_266 wq_267 rfl rfl (by decide) ⟨Nat.le_of_ble_eq_true rfl, Nat.le_of_ble_eq_true rfl⟩ rfl rfl (Nat.le_of_ble_eq_true rfl) dX7_takes_1 hf (fun r1 hf => ?_)
  refine x_iload_n 1 (pc := 4) (i := 1) E dX7_takes_4 rfl rfl ?_
  refine x_icmp_eq (pc := 5) (tgt := 10) E dX7_takes_5 (by decide) hf (fun hf => ?_) (fun hf => ?_)
  · refine x_aload_n 0 (pc := 10) (i := 0) E dX7_takes_10 rfl rfl ?_
    refine x_dup (pc := 11) E dX7_takes_11 rfl ?_
    refine x_getI (pc := 12) (p := 9) E rfl (Nat.le_of_ble_eq_true rfl) rfl inlX7 (by decide) rfl wq_260 dX7_takes_12 ?_
    refine x_iconst (pc := 15) (v := (1 : Int32)) E dX7_takes_15 rfl ?_
    refine x_iadd (pc := 16) E dX7_takes_16 ?_
    refine x_put (pc := 17) (p := 9) E rfl (Nat.le_of_ble_eq_true rfl) rfl inlX7 tyX7_ok nmX7 (by decide) rfl rfl rfl rfl wq_260 dX7_takes_17 hf (fun σ2 hf => ?_)
    refine x_iconst (pc := 20) (v := (1 : Int32)) E dX7_takes_20 rfl ?_
    obtain ⟨hz, hf⟩ := chk_some hf
    obtain ⟨rfl, rfl⟩ := Prod.mk.inj (Option.some.inj hf)
    exact x_zret (pc := 21) E hR (isB_nar hz) dX7_takes_21
  · refine x_iconst (pc := 8) (v := (0 : Int32)) E dX7_takes_8 rfl ?_
    obtain ⟨hz, hf⟩ := chk_some hf
    obtain ⟨rfl, rfl⟩ := Prod.mk.inj (Option.some.inj hf)
    exact x_zret (pc := 9) E hR (isB_nar hz) dX7_takes_9
set_option maxHeartbeats 4000000 in
set_option maxRecDepth 100000 in
theorem c_X7_digit (G : Gx) (v1 : Int32) (v2 : Int32) (σ : MM) (r : Int32) (σ' : MM) (hf : f_X7_digit v1 v2 σ = some (r, σ')) : Ct shM 21 yX7_digit cX7_digit 4 (some .int) rm_X7_digit G [.ref (gad G 0), .int v1, .int v2] σ (some (.int r)) σ' := by
  refine ct_of (by decide) (Nat.le_of_ble_eq_true rfl) (fun K E hR => ?_)
  have E : OKc 21 cX7_digit 4 RX7 G K := E
  show XJ shM 21 4 rm_X7_digit G K σ [(0, .ref (gad G 0)), (1, .int v1), (2, .int v2)] 0 []
  unfold f_X7_digit at hf
  refine x_aload_n 0 (pc := 0) (i := 0) E dX7_digit_0 rfl rfl ?_
  refine x_callVri (pc := 1) (na := 0) (As := []) E (c_X7_sign G σ) rfl (Nat.le_of_ble_eq_true rfl) rfl wq_268 wq_5 wq_265 wq_266 wq_267 rfl rfl (by decide) ⟨Nat.le_of_ble_eq_true rfl, Nat.le_of_ble_eq_true rfl⟩ rfl rfl (Nat.le_of_ble_eq_true rfl) dX7_digit_1 hf (fun r1 hf => ?_)
  refine x_bipush (pc := 4) (v := (48 : Int32)) E dX7_digit_4 rfl ?_
  refine x_isub (pc := 6) E dX7_digit_6 ?_
  refine x_istore_n (pc := 7) (lv' := [(3, .int (r1 - (48 : Int32))), (0, .ref (gad G 0)), (1, .int v1), (2, .int v2)]) E dX7_digit_7 rfl (by decide) rfl ?_
  refine x_iload_n 0 (pc := 8) (i := 3) E dX7_digit_8 rfl rfl ?_
  refine x_iload_n 2 (pc := 9) (i := 1) E dX7_digit_9 rfl rfl ?_
  refine x_iload_n 3 (pc := 10) (i := 2) E dX7_digit_10 rfl rfl ?_
  refine x_callSri (pc := 11) (na := 3) (As := [.int (r1 - (48 : Int32)), .int v1, .int v2]) E (c_X7_isIn G (r1 - (48 : Int32)) v1 v2 σ) wq_185 wq_5 wq_183 wq_184 rfl rfl (by decide) ⟨Nat.le_of_ble_eq_true rfl, Nat.le_of_ble_eq_true rfl⟩ rfl rfl (Nat.le_of_ble_eq_true rfl) dX7_digit_11 hf (fun r2 hf => ?_)
  refine x_if_ne (y := 0) (pc := 14) (tgt := 19) E dX7_digit_14 (by decide) hf (fun hf => ?_) (fun hf => ?_)
  · refine x_aload_n 1 (pc := 19) (i := 0) E dX7_digit_19 rfl rfl ?_
    refine x_dup (pc := 20) E dX7_digit_20 rfl ?_
    refine x_getI (pc := 21) (p := 9) E rfl (Nat.le_of_ble_eq_true rfl) rfl inlX7 (by decide) rfl wq_260 dX7_digit_21 ?_
    refine x_iconst (pc := 24) (v := (1 : Int32)) E dX7_digit_24 rfl ?_
    refine x_iadd (pc := 25) E dX7_digit_25 ?_
    refine x_put (pc := 26) (p := 9) E rfl (Nat.le_of_ble_eq_true rfl) rfl inlX7 tyX7_ok nmX7 (by decide) rfl rfl rfl rfl wq_260 dX7_digit_26 hf (fun σ3 hf => ?_)
    refine x_iload_n 0 (pc := 29) (i := 3) E dX7_digit_29 rfl rfl ?_
    obtain ⟨rfl, rfl⟩ := Prod.mk.inj (Option.some.inj hf)
    exact x_iret (pc := 30) E hR dX7_digit_30
  · refine x_iconst (pc := 17) (v := (-1 : Int32)) E dX7_digit_17 rfl ?_
    obtain ⟨rfl, rfl⟩ := Prod.mk.inj (Option.some.inj hf)
    exact x_iret (pc := 18) E hR dX7_digit_18
set_option maxHeartbeats 4000000 in
set_option maxRecDepth 100000 in
theorem l_X7_hundredths_15 (G : Gx) {K : Kx}   (v1 : Int32) (E : OKc 21 cX7_hundredths 4 RX7 G K) : ∀ (m : Nat) (v2 : Int32) (v3 : Int32) (σ : MM) (out : Int32 × MM), loopN (fun s => g_X7_hundredths_15 v1 s.1 s.2.1 s.2.2) m (v2, v3, σ) = some out → XJ shM 21 4 rm_X7_hundredths G K out.2 [(0, .ref (gad G 0)), (1, .int v1), (2, .int out.1)] 57 [] → XJ shM 21 4 rm_X7_hundredths G K σ [(0, .ref (gad G 0)), (1, .int v1), (2, .int v2), (3, .int v3)] 15 [] := by
  intro m
  induction m with
  | zero => intro v2 v3 σ out hf; exact (loopN_0 hf).elim
  | succ m ih =>
    intro v2 v3 σ out hf hk
    obtain ⟨q, hf, h2⟩ := loopN_s hf
    have hf : g_X7_hundredths_15 v1 v2 v3 σ = some q := hf
    unfold g_X7_hundredths_15 at hf
    refine x_iload_n 3 (pc := 15) (i := 3) E dX7_hundredths_15 rfl rfl ?_
    refine x_iconst (pc := 16) (v := (3 : Int32)) E dX7_hundredths_16 rfl ?_
    refine x_icmp_ge (pc := 17) (tgt := 57) E dX7_hundredths_17 (by decide) hf (fun hf => ?_) (fun hf => ?_)
    · obtain rfl := Option.some.inj hf
      obtain rfl := lpk_r h2
      exact x_sub [0, 1, 2] rfl hk
    · refine x_iload_n 2 (pc := 20) (i := 2) E dX7_hundredths_20 rfl rfl ?_
      refine x_if_le (y := 0) (pc := 21) (tgt := 57) E dX7_hundredths_21 (by decide) hf (fun hf => ?_) (fun hf => ?_)
      · obtain rfl := Option.some.inj hf
        obtain rfl := lpk_r h2
        exact x_sub [0, 1, 2] rfl hk
      · refine x_aload_n 0 (pc := 24) (i := 0) E dX7_hundredths_24 rfl rfl ?_
        refine x_callVri (pc := 25) (na := 0) (As := []) E (c_X7_sign G σ) rfl (Nat.le_of_ble_eq_true rfl) rfl wq_268 wq_5 wq_265 wq_266 wq_267 rfl rfl (by decide) ⟨Nat.le_of_ble_eq_true rfl, Nat.le_of_ble_eq_true rfl⟩ rfl rfl (Nat.le_of_ble_eq_true rfl) dX7_hundredths_25 hf (fun r3 hf => ?_)
        refine x_bipush (pc := 28) (v := (48 : Int32)) E dX7_hundredths_28 rfl ?_
        refine x_bipush (pc := 30) (v := (57 : Int32)) E dX7_hundredths_30 rfl ?_
        refine x_callSri (pc := 32) (na := 3) (As := [.int r3, .int (48 : Int32), .int (57 : Int32)]) E (c_X7_isIn G r3 (48 : Int32) (57 : Int32) σ) wq_185 wq_5 wq_183 wq_184 rfl rfl (by decide) ⟨Nat.le_of_ble_eq_true rfl, Nat.le_of_ble_eq_true rfl⟩ rfl rfl (Nat.le_of_ble_eq_true rfl) dX7_hundredths_32 hf (fun r4 hf => ?_)
        refine x_if_eq (y := 0) (pc := 35) (tgt := 57) E dX7_hundredths_35 (by decide) hf (fun hf => ?_) (fun hf => ?_)
        · obtain rfl := Option.some.inj hf
          obtain rfl := lpk_r h2
          exact x_sub [0, 1, 2] rfl hk
        · refine x_bipush (pc := 38) (v := (10 : Int32)) E dX7_hundredths_38 rfl ?_
          refine x_iload_n 2 (pc := 40) (i := 2) E dX7_hundredths_40 rfl rfl ?_
          refine x_imul (pc := 41) E dX7_hundredths_41 ?_
          refine x_aload_n 0 (pc := 42) (i := 0) E dX7_hundredths_42 rfl rfl ?_
          refine x_iconst (pc := 43) (v := (0 : Int32)) E dX7_hundredths_43 rfl ?_
          refine x_bipush (pc := 44) (v := (9 : Int32)) E dX7_hundredths_44 rfl ?_
          refine x_callVwi (pc := 46) (na := 2) (As := [.int (0 : Int32), .int (9 : Int32)]) E (c_X7_digit G (0 : Int32) (9 : Int32) σ) rfl (Nat.le_of_ble_eq_true rfl) rfl wq_276 wq_5 wq_273 wq_274 wq_275 rfl rfl (by decide) ⟨Nat.le_of_ble_eq_true rfl, Nat.le_of_ble_eq_true rfl⟩ rfl rfl (Nat.le_of_ble_eq_true rfl) dX7_hundredths_46 hf (fun r5 σ6 hf => ?_)
          refine x_iadd (pc := 49) E dX7_hundredths_49 ?_
          refine x_istore_n (pc := 50) (lv' := [(2, .int (((10 : Int32) * v2) + r5)), (0, .ref (gad G 0)), (1, .int v1), (3, .int v3)]) E dX7_hundredths_50 rfl (by decide) rfl ?_
          refine x_iinc 3 (pc := 51) (v := v3 + 1) (lv' := [(3, .int (v3 + 1)), (2, .int (((10 : Int32) * v2) + r5)), (0, .ref (gad G 0)), (1, .int v1)]) E dX7_hundredths_51 rfl rfl (by decide) rfl ?_
          refine x_goto (pc := 54) (tgt := 15) E dX7_hundredths_54 (by decide) ?_
          obtain rfl := Option.some.inj hf
          exact x_sub [2, 3, 1, 0] rfl (ih _ _ _ _ (lpk_l h2) hk)
set_option maxHeartbeats 4000000 in
set_option maxRecDepth 100000 in
theorem c_X7_hundredths (G : Gx) (σ : MM) (r : Int32) (σ' : MM) (hf : f_X7_hundredths σ = some (r, σ')) : Ct shM 21 yX7_hundredths cX7_hundredths 4 (some .int) rm_X7_hundredths G [.ref (gad G 0)] σ (some (.int r)) σ' := by
  refine ct_of (by decide) (Nat.le_of_ble_eq_true rfl) (fun K E hR => ?_)
  have E : OKc 21 cX7_hundredths 4 RX7 G K := E
  show XJ shM 21 4 rm_X7_hundredths G K σ [(0, .ref (gad G 0))] 0 []
  unfold f_X7_hundredths at hf
  refine x_aload_n 0 (pc := 0) (i := 0) E dX7_hundredths_0 rfl rfl ?_
  refine x_getI (pc := 1) (p := 9) E rfl (Nat.le_of_ble_eq_true rfl) rfl inlX7 (by decide) rfl wq_260 dX7_hundredths_1 ?_
  refine x_istore_n (pc := 4) (lv' := [(1, .int (σ.1 0 9)), (0, .ref (gad G 0))]) E dX7_hundredths_4 rfl (by decide) rfl ?_
  refine x_aload_n 1 (pc := 5) (i := 0) E dX7_hundredths_5 rfl rfl ?_
  refine x_iconst (pc := 6) (v := (0 : Int32)) E dX7_hundredths_6 rfl ?_
  refine x_bipush (pc := 7) (v := (9 : Int32)) E dX7_hundredths_7 rfl ?_
  refine x_callVwi (pc := 9) (na := 2) (As := [.int (0 : Int32), .int (9 : Int32)]) E (c_X7_digit G (0 : Int32) (9 : Int32) σ) rfl (Nat.le_of_ble_eq_true rfl) rfl wq_276 wq_5 wq_273 wq_274 wq_275 rfl rfl (by decide) ⟨Nat.le_of_ble_eq_true rfl, Nat.le_of_ble_eq_true rfl⟩ rfl rfl (Nat.le_of_ble_eq_true rfl) dX7_hundredths_9 hf (fun r1 σ2 hf => ?_)
  refine x_istore_n (pc := 12) (lv' := [(2, .int r1), (1, .int (σ.1 0 9)), (0, .ref (gad G 0))]) E dX7_hundredths_12 rfl (by decide) rfl ?_
  refine x_iconst (pc := 13) (v := (1 : Int32)) E dX7_hundredths_13 rfl ?_
  refine x_istore_n (pc := 14) (lv' := [(3, .int (1 : Int32)), (2, .int r1), (1, .int (σ.1 0 9)), (0, .ref (gad G 0))]) E dX7_hundredths_14 rfl (by decide) rfl ?_
  obtain ⟨o7, hl8, hf⟩ := bind_some hf
  refine x_sub [3, 2, 1, 0] rfl (l_X7_hundredths_15 G   (σ.1 0 9) E FU _ _ _ o7 hl8 ?_)
  refine x_iload_n 2 (pc := 57) (i := 2) E dX7_hundredths_57 rfl rfl ?_
  refine x_bipush (pc := 58) (v := (100 : Int32)) E dX7_hundredths_58 rfl ?_
  refine x_icmp_gt (pc := 60) (tgt := 65) E dX7_hundredths_60 (by decide) hf (fun hf => ?_) (fun hf => ?_)
  · refine x_aload_n 0 (pc := 65) (i := 0) E dX7_hundredths_65 rfl rfl ?_
    refine x_iload_n 1 (pc := 66) (i := 1) E dX7_hundredths_66 rfl rfl ?_
    refine x_put (pc := 67) (p := 9) E rfl (Nat.le_of_ble_eq_true rfl) rfl inlX7 tyX7_ok nmX7 (by decide) rfl rfl rfl rfl wq_260 dX7_hundredths_67 hf (fun σ9 hf => ?_)
    refine x_iconst (pc := 70) (v := (-1 : Int32)) E dX7_hundredths_70 rfl ?_
    obtain ⟨rfl, rfl⟩ := Prod.mk.inj (Option.some.inj hf)
    exact x_iret (pc := 71) E hR dX7_hundredths_71
  · refine x_iload_n 2 (pc := 63) (i := 2) E dX7_hundredths_63 rfl rfl ?_
    obtain ⟨rfl, rfl⟩ := Prod.mk.inj (Option.some.inj hf)
    exact x_iret (pc := 64) E hR dX7_hundredths_64
set_option maxHeartbeats 4000000 in
set_option maxRecDepth 100000 in
theorem c_X7_readsSort (G : Gx) (σ : MM) (r : Int32) (σ' : MM) (hf : f_X7_readsSort σ = some (r, σ')) : Ct shM 21 yX7_readsSort cX7_readsSort 4 (some .boolean) rm_X7_readsSort G [.ref (gad G 0)] σ (some (.int r)) σ' := by
  refine ct_of (by decide) (Nat.le_of_ble_eq_true rfl) (fun K E hR => ?_)
  have E : OKc 21 cX7_readsSort 4 RX7 G K := E
  show XJ shM 21 4 rm_X7_readsSort G K σ [(0, .ref (gad G 0))] 0 []
  unfold f_X7_readsSort at hf
  refine x_aload_n 0 (pc := 0) (i := 0) E dX7_readsSort_0 rfl rfl ?_
  refine x_iconst (pc := 1) (v := (0 : Int32)) E dX7_readsSort_1 rfl ?_
  refine x_iconst (pc := 2) (v := (5 : Int32)) E dX7_readsSort_2 rfl ?_
  refine x_callVwi (pc := 3) (na := 2) (As := [.int (0 : Int32), .int (5 : Int32)]) E (c_X7_digit G (0 : Int32) (5 : Int32) σ) rfl (Nat.le_of_ble_eq_true rfl) rfl wq_276 wq_5 wq_273 wq_274 wq_275 rfl rfl (by decide) ⟨Nat.le_of_ble_eq_true rfl, Nat.le_of_ble_eq_true rfl⟩ rfl rfl (Nat.le_of_ble_eq_true rfl) dX7_readsSort_3 hf (fun r1 σ2 hf => ?_)
  refine x_istore_n (pc := 6) (lv' := [(1, .int r1), (0, .ref (gad G 0))]) E dX7_readsSort_6 rfl (by decide) rfl ?_
  refine x_iload_n 0 (pc := 7) (i := 1) E dX7_readsSort_7 rfl rfl ?_
  refine x_if_lt (y := 0) (pc := 8) (tgt := 20) E dX7_readsSort_8 (by decide) hf (fun hf => ?_) (fun hf => ?_)
  · refine x_iconst (pc := 20) (v := (0 : Int32)) E dX7_readsSort_20 rfl ?_
    obtain ⟨hz, hf⟩ := chk_some hf
    obtain ⟨rfl, rfl⟩ := Prod.mk.inj (Option.some.inj hf)
    exact x_zret (pc := 21) E hR (isB_nar hz) dX7_readsSort_21
  · refine x_aload_n 1 (pc := 11) (i := 0) E dX7_readsSort_11 rfl rfl ?_
    refine x_bipush (pc := 12) (v := (58 : Int32)) E dX7_readsSort_12 rfl ?_
    refine x_callVwi (pc := 14) (na := 1) (As := [.int (58 : Int32)]) E (c_X7_takes G (58 : Int32) σ2) rfl (Nat.le_of_ble_eq_true rfl) rfl wq_280 wq_5 wq_277 wq_278 wq_279 rfl rfl (by decide) ⟨Nat.le_of_ble_eq_true rfl, Nat.le_of_ble_eq_true rfl⟩ rfl rfl (Nat.le_of_ble_eq_true rfl) dX7_readsSort_14 hf (fun r3 σ4 hf => ?_)
    refine x_if_ne (y := 0) (pc := 17) (tgt := 22) E dX7_readsSort_17 (by decide) hf (fun hf => ?_) (fun hf => ?_)
    · refine x_aload_n 1 (pc := 22) (i := 0) E dX7_readsSort_22 rfl rfl ?_
      refine x_callVwi (pc := 23) (na := 0) (As := []) E (c_X7_hundredths G σ4) rfl (Nat.le_of_ble_eq_true rfl) rfl wq_284 wq_5 wq_281 wq_282 wq_283 rfl rfl (by decide) ⟨Nat.le_of_ble_eq_true rfl, Nat.le_of_ble_eq_true rfl⟩ rfl rfl (Nat.le_of_ble_eq_true rfl) dX7_readsSort_23 hf (fun r5 σ6 hf => ?_)
      refine x_istore_n (pc := 26) (lv' := [(2, .int r5), (1, .int r1), (0, .ref (gad G 0))]) E dX7_readsSort_26 rfl (by decide) rfl ?_
      refine x_iload_n 0 (pc := 27) (i := 2) E dX7_readsSort_27 rfl rfl ?_
      refine x_if_lt (y := 0) (pc := 28) (tgt := 40) E dX7_readsSort_28 (by decide) hf (fun hf => ?_) (fun hf => ?_)
      · refine x_iconst (pc := 40) (v := (0 : Int32)) E dX7_readsSort_40 rfl ?_
        obtain ⟨hz, hf⟩ := chk_some hf
        obtain ⟨rfl, rfl⟩ := Prod.mk.inj (Option.some.inj hf)
        exact x_zret (pc := 41) E hR (isB_nar hz) dX7_readsSort_41
      · refine x_aload_n 2 (pc := 31) (i := 0) E dX7_readsSort_31 rfl rfl ?_
        refine x_bipush (pc := 32) (v := (44 : Int32)) E dX7_readsSort_32 rfl ?_
        refine x_callVwi (pc := 34) (na := 1) (As := [.int (44 : Int32)]) E (c_X7_takes G (44 : Int32) σ6) rfl (Nat.le_of_ble_eq_true rfl) rfl wq_280 wq_5 wq_277 wq_278 wq_279 rfl rfl (by decide) ⟨Nat.le_of_ble_eq_true rfl, Nat.le_of_ble_eq_true rfl⟩ rfl rfl (Nat.le_of_ble_eq_true rfl) dX7_readsSort_34 hf (fun r7 σ8 hf => ?_)
        refine x_if_ne (y := 0) (pc := 37) (tgt := 42) E dX7_readsSort_37 (by decide) hf (fun hf => ?_) (fun hf => ?_)
        · refine x_aload_n 2 (pc := 42) (i := 0) E dX7_readsSort_42 rfl rfl ?_
          refine x_callVwi (pc := 43) (na := 0) (As := []) E (c_X7_hundredths G σ8) rfl (Nat.le_of_ble_eq_true rfl) rfl wq_284 wq_5 wq_281 wq_282 wq_283 rfl rfl (by decide) ⟨Nat.le_of_ble_eq_true rfl, Nat.le_of_ble_eq_true rfl⟩ rfl rfl (Nat.le_of_ble_eq_true rfl) dX7_readsSort_43 hf (fun r9 σ10 hf => ?_)
          refine x_istore_n (pc := 46) (lv' := [(3, .int r9), (2, .int r5), (1, .int r1), (0, .ref (gad G 0))]) E dX7_readsSort_46 rfl (by decide) rfl ?_
          refine x_iload_n 0 (pc := 47) (i := 3) E dX7_readsSort_47 rfl rfl ?_
          refine x_if_lt (y := 0) (pc := 48) (tgt := 60) E dX7_readsSort_48 (by decide) hf (fun hf => ?_) (fun hf => ?_)
          · refine x_iconst (pc := 60) (v := (0 : Int32)) E dX7_readsSort_60 rfl ?_
            obtain ⟨hz, hf⟩ := chk_some hf
            obtain ⟨rfl, rfl⟩ := Prod.mk.inj (Option.some.inj hf)
            exact x_zret (pc := 61) E hR (isB_nar hz) dX7_readsSort_61
          · refine x_aload_n 3 (pc := 51) (i := 0) E dX7_readsSort_51 rfl rfl ?_
            refine x_bipush (pc := 52) (v := (59 : Int32)) E dX7_readsSort_52 rfl ?_
            refine x_callVwi (pc := 54) (na := 1) (As := [.int (59 : Int32)]) E (c_X7_takes G (59 : Int32) σ10) rfl (Nat.le_of_ble_eq_true rfl) rfl wq_280 wq_5 wq_277 wq_278 wq_279 rfl rfl (by decide) ⟨Nat.le_of_ble_eq_true rfl, Nat.le_of_ble_eq_true rfl⟩ rfl rfl (Nat.le_of_ble_eq_true rfl) dX7_readsSort_54 hf (fun r11 σ12 hf => ?_)
            refine x_if_ne (y := 0) (pc := 57) (tgt := 62) E dX7_readsSort_57 (by decide) hf (fun hf => ?_) (fun hf => ?_)
            · refine x_aload_n 3 (pc := 62) (i := 0) E dX7_readsSort_62 rfl rfl ?_
              refine x_getR (pc := 63) (r := 2) (p := 1) E rfl (Nat.le_of_ble_eq_true rfl) rfl inlX7 (by decide) rfl wq_99 dX7_readsSort_63 ?_
              refine x_iconst (pc := 66) (v := (2 : Int32)) E dX7_readsSort_66 rfl ?_
              refine x_iload_n 2 (pc := 67) (i := 1) E dX7_readsSort_67 rfl rfl ?_
              refine x_imul (pc := 68) E dX7_readsSort_68 ?_
              refine x_iload_n 1 (pc := 69) (i := 2) E dX7_readsSort_69 rfl rfl ?_
              refine x_iastore (pc := 70) E rfl (Nat.le_of_ble_eq_true rfl) dX7_readsSort_70 hf (fun σ13 hf => ?_)
              refine x_aload_n 3 (pc := 71) (i := 0) E dX7_readsSort_71 rfl rfl ?_
              refine x_getR (pc := 72) (r := 2) (p := 1) E rfl (Nat.le_of_ble_eq_true rfl) rfl inlX7 (by decide) rfl wq_99 dX7_readsSort_72 ?_
              refine x_iconst (pc := 75) (v := (2 : Int32)) E dX7_readsSort_75 rfl ?_
              refine x_iload_n 2 (pc := 76) (i := 1) E dX7_readsSort_76 rfl rfl ?_
              refine x_imul (pc := 77) E dX7_readsSort_77 ?_
              refine x_iconst (pc := 78) (v := (1 : Int32)) E dX7_readsSort_78 rfl ?_
              refine x_iadd (pc := 79) E dX7_readsSort_79 ?_
              refine x_iload_n 0 (pc := 80) (i := 3) E dX7_readsSort_80 rfl rfl ?_
              refine x_iastore (pc := 81) E rfl (Nat.le_of_ble_eq_true rfl) dX7_readsSort_81 hf (fun σ14 hf => ?_)
              refine x_iconst (pc := 82) (v := (1 : Int32)) E dX7_readsSort_82 rfl ?_
              obtain ⟨hz, hf⟩ := chk_some hf
              obtain ⟨rfl, rfl⟩ := Prod.mk.inj (Option.some.inj hf)
              exact x_zret (pc := 83) E hR (isB_nar hz) dX7_readsSort_83
            · refine x_iconst (pc := 60) (v := (0 : Int32)) E dX7_readsSort_60 rfl ?_
              obtain ⟨hz, hf⟩ := chk_some hf
              obtain ⟨rfl, rfl⟩ := Prod.mk.inj (Option.some.inj hf)
              exact x_zret (pc := 61) E hR (isB_nar hz) dX7_readsSort_61
        · refine x_iconst (pc := 40) (v := (0 : Int32)) E dX7_readsSort_40 rfl ?_
          obtain ⟨hz, hf⟩ := chk_some hf
          obtain ⟨rfl, rfl⟩ := Prod.mk.inj (Option.some.inj hf)
          exact x_zret (pc := 41) E hR (isB_nar hz) dX7_readsSort_41
    · refine x_iconst (pc := 20) (v := (0 : Int32)) E dX7_readsSort_20 rfl ?_
      obtain ⟨hz, hf⟩ := chk_some hf
      obtain ⟨rfl, rfl⟩ := Prod.mk.inj (Option.some.inj hf)
      exact x_zret (pc := 21) E hR (isB_nar hz) dX7_readsSort_21
set_option maxHeartbeats 4000000 in
set_option maxRecDepth 100000 in
theorem l_X7_readsPeople_5 (G : Gx) {K : Kx}    (r : Int32) (σ' : MM) (hR : RetX shM 21 (some .boolean) G K (some (.int r)) σ') (E : OKc 21 cX7_readsPeople 3 RX7 G K) : ∀ (m : Nat) (v1 : Int32) (σ : MM), loopN (fun s => g_X7_readsPeople_5 s.1 s.2) m (v1, σ) = some (r, σ') → XJ shM 21 3 rm_X7_readsPeople G K σ [(0, .ref (gad G 0)), (1, .int v1)] 5 [] := by
  intro m
  induction m with
  | zero => intro v1 σ hf; exact (loopN_0 hf).elim
  | succ m ih =>
    intro v1 σ hf
    obtain ⟨q, hf, h2⟩ := loopN_s hf
    have hf : g_X7_readsPeople_5 v1 σ = some q := hf
    unfold g_X7_readsPeople_5 at hf
    refine x_aload_n 0 (pc := 5) (i := 0) E dX7_readsPeople_5 rfl rfl ?_
    refine x_callVri (pc := 6) (na := 0) (As := []) E (c_X7_sign G σ) rfl (Nat.le_of_ble_eq_true rfl) rfl wq_268 wq_5 wq_265 wq_266 wq_267 rfl rfl (by decide) ⟨Nat.le_of_ble_eq_true rfl, Nat.le_of_ble_eq_true rfl⟩ rfl rfl (Nat.le_of_ble_eq_true rfl) dX7_readsPeople_6 hf (fun r1 hf => ?_)
    refine x_bipush (pc := 9) (v := (59 : Int32)) E dX7_readsPeople_9 rfl ?_
    refine x_icmp_ne (pc := 11) (tgt := 22) E dX7_readsPeople_11 (by decide) hf (fun hf => ?_) (fun hf => ?_)
    · refine x_iload_n 1 (pc := 22) (i := 1) E dX7_readsPeople_22 rfl rfl ?_
      refine x_bipush (pc := 23) (v := (12 : Int32)) E dX7_readsPeople_23 rfl ?_
      refine x_icmp_ne (pc := 25) (tgt := 30) E dX7_readsPeople_25 (by decide) hf (fun hf => ?_) (fun hf => ?_)
      · refine x_aload_n 0 (pc := 30) (i := 0) E dX7_readsPeople_30 rfl rfl ?_
        refine x_iconst (pc := 31) (v := (0 : Int32)) E dX7_readsPeople_31 rfl ?_
        refine x_iconst (pc := 32) (v := (5 : Int32)) E dX7_readsPeople_32 rfl ?_
        refine x_callVwi (pc := 33) (na := 2) (As := [.int (0 : Int32), .int (5 : Int32)]) E (c_X7_digit G (0 : Int32) (5 : Int32) σ) rfl (Nat.le_of_ble_eq_true rfl) rfl wq_276 wq_5 wq_273 wq_274 wq_275 rfl rfl (by decide) ⟨Nat.le_of_ble_eq_true rfl, Nat.le_of_ble_eq_true rfl⟩ rfl rfl (Nat.le_of_ble_eq_true rfl) dX7_readsPeople_33 hf (fun r2 σ3 hf => ?_)
        refine x_istore_n (pc := 36) (lv' := [(2, .int r2), (0, .ref (gad G 0)), (1, .int v1)]) E dX7_readsPeople_36 rfl (by decide) rfl ?_
        refine x_iload_n 0 (pc := 37) (i := 2) E dX7_readsPeople_37 rfl rfl ?_
        refine x_if_ge (y := 0) (pc := 38) (tgt := 43) E dX7_readsPeople_38 (by decide) hf (fun hf => ?_) (fun hf => ?_)
        · refine x_aload_n 1 (pc := 43) (i := 0) E dX7_readsPeople_43 rfl rfl ?_
          refine x_getR (pc := 44) (r := 3) (p := 2) E rfl (Nat.le_of_ble_eq_true rfl) rfl inlX7 (by decide) rfl wq_100 dX7_readsPeople_44 ?_
          refine x_iload_n 2 (pc := 47) (i := 1) E dX7_readsPeople_47 rfl rfl ?_
          refine x_iload_n 0 (pc := 48) (i := 2) E dX7_readsPeople_48 rfl rfl ?_
          refine x_iastore (pc := 49) E rfl (Nat.le_of_ble_eq_true rfl) dX7_readsPeople_49 hf (fun σ4 hf => ?_)
          refine x_iinc 2 (pc := 50) (v := v1 + 1) (lv' := [(1, .int (v1 + 1)), (2, .int r2), (0, .ref (gad G 0))]) E dX7_readsPeople_50 rfl rfl (by decide) rfl ?_
          refine x_goto (pc := 53) (tgt := 5) E dX7_readsPeople_53 (by decide) ?_
          obtain rfl := Option.some.inj hf
          exact x_sub [2, 0] rfl (ih _ _ (lpk_l h2))
        · refine x_iconst (pc := 41) (v := (0 : Int32)) E dX7_readsPeople_41 rfl ?_
          obtain ⟨hz, hf⟩ := chk_some hf
          obtain rfl := Option.some.inj hf
          obtain ⟨rfl, rfl⟩ := Prod.mk.inj (lpk_r h2)
          exact x_zret (pc := 42) E hR (isB_nar hz) dX7_readsPeople_42
      · refine x_iconst (pc := 28) (v := (0 : Int32)) E dX7_readsPeople_28 rfl ?_
        obtain ⟨hz, hf⟩ := chk_some hf
        obtain rfl := Option.some.inj hf
        obtain ⟨rfl, rfl⟩ := Prod.mk.inj (lpk_r h2)
        exact x_zret (pc := 29) E hR (isB_nar hz) dX7_readsPeople_29
    · refine x_iload_n 1 (pc := 14) (i := 1) E dX7_readsPeople_14 rfl rfl ?_
      refine x_aload_n 0 (pc := 15) (i := 0) E dX7_readsPeople_15 rfl rfl ?_
      refine x_getI (pc := 16) (p := 6) E rfl (Nat.le_of_ble_eq_true rfl) rfl inlX7 (by decide) rfl wq_164 dX7_readsPeople_16 ?_
      refine x_icmp_ne (pc := 19) (tgt := 56) E dX7_readsPeople_19 (by decide) hf (fun hf => ?_) (fun hf => ?_)
      · refine x_aload_n 0 (pc := 56) (i := 0) E dX7_readsPeople_56 rfl rfl ?_
        refine x_dup (pc := 57) E dX7_readsPeople_57 rfl ?_
        refine x_getI (pc := 58) (p := 9) E rfl (Nat.le_of_ble_eq_true rfl) rfl inlX7 (by decide) rfl wq_260 dX7_readsPeople_58 ?_
        refine x_iconst (pc := 61) (v := (1 : Int32)) E dX7_readsPeople_61 rfl ?_
        refine x_iadd (pc := 62) E dX7_readsPeople_62 ?_
        refine x_put (pc := 63) (p := 9) E rfl (Nat.le_of_ble_eq_true rfl) rfl inlX7 tyX7_ok nmX7 (by decide) rfl rfl rfl rfl wq_260 dX7_readsPeople_63 hf (fun σ5 hf => ?_)
        refine x_aload_n 0 (pc := 66) (i := 0) E dX7_readsPeople_66 rfl rfl ?_
        refine x_iload_n 1 (pc := 67) (i := 1) E dX7_readsPeople_67 rfl rfl ?_
        refine x_put (pc := 68) (p := 6) E rfl (Nat.le_of_ble_eq_true rfl) rfl inlX7 tyX7_ok nmX7 (by decide) rfl rfl rfl rfl wq_164 dX7_readsPeople_68 hf (fun σ6 hf => ?_)
        refine x_iconst (pc := 71) (v := (1 : Int32)) E dX7_readsPeople_71 rfl ?_
        obtain ⟨hz, hf⟩ := chk_some hf
        obtain rfl := Option.some.inj hf
        obtain ⟨rfl, rfl⟩ := Prod.mk.inj (lpk_r h2)
        exact x_zret (pc := 72) E hR (isB_nar hz) dX7_readsPeople_72
      · refine x_iload_n 1 (pc := 22) (i := 1) E dX7_readsPeople_22 rfl rfl ?_
        refine x_bipush (pc := 23) (v := (12 : Int32)) E dX7_readsPeople_23 rfl ?_
        refine x_icmp_ne (pc := 25) (tgt := 30) E dX7_readsPeople_25 (by decide) hf (fun hf => ?_) (fun hf => ?_)
        · refine x_aload_n 0 (pc := 30) (i := 0) E dX7_readsPeople_30 rfl rfl ?_
          refine x_iconst (pc := 31) (v := (0 : Int32)) E dX7_readsPeople_31 rfl ?_
          refine x_iconst (pc := 32) (v := (5 : Int32)) E dX7_readsPeople_32 rfl ?_
          refine x_callVwi (pc := 33) (na := 2) (As := [.int (0 : Int32), .int (5 : Int32)]) E (c_X7_digit G (0 : Int32) (5 : Int32) σ) rfl (Nat.le_of_ble_eq_true rfl) rfl wq_276 wq_5 wq_273 wq_274 wq_275 rfl rfl (by decide) ⟨Nat.le_of_ble_eq_true rfl, Nat.le_of_ble_eq_true rfl⟩ rfl rfl (Nat.le_of_ble_eq_true rfl) dX7_readsPeople_33 hf (fun r7 σ8 hf => ?_)
          refine x_istore_n (pc := 36) (lv' := [(2, .int r7), (0, .ref (gad G 0)), (1, .int v1)]) E dX7_readsPeople_36 rfl (by decide) rfl ?_
          refine x_iload_n 0 (pc := 37) (i := 2) E dX7_readsPeople_37 rfl rfl ?_
          refine x_if_ge (y := 0) (pc := 38) (tgt := 43) E dX7_readsPeople_38 (by decide) hf (fun hf => ?_) (fun hf => ?_)
          · refine x_aload_n 1 (pc := 43) (i := 0) E dX7_readsPeople_43 rfl rfl ?_
            refine x_getR (pc := 44) (r := 3) (p := 2) E rfl (Nat.le_of_ble_eq_true rfl) rfl inlX7 (by decide) rfl wq_100 dX7_readsPeople_44 ?_
            refine x_iload_n 2 (pc := 47) (i := 1) E dX7_readsPeople_47 rfl rfl ?_
            refine x_iload_n 0 (pc := 48) (i := 2) E dX7_readsPeople_48 rfl rfl ?_
            refine x_iastore (pc := 49) E rfl (Nat.le_of_ble_eq_true rfl) dX7_readsPeople_49 hf (fun σ9 hf => ?_)
            refine x_iinc 2 (pc := 50) (v := v1 + 1) (lv' := [(1, .int (v1 + 1)), (2, .int r7), (0, .ref (gad G 0))]) E dX7_readsPeople_50 rfl rfl (by decide) rfl ?_
            refine x_goto (pc := 53) (tgt := 5) E dX7_readsPeople_53 (by decide) ?_
            obtain rfl := Option.some.inj hf
            exact x_sub [2, 0] rfl (ih _ _ (lpk_l h2))
          · refine x_iconst (pc := 41) (v := (0 : Int32)) E dX7_readsPeople_41 rfl ?_
            obtain ⟨hz, hf⟩ := chk_some hf
            obtain rfl := Option.some.inj hf
            obtain ⟨rfl, rfl⟩ := Prod.mk.inj (lpk_r h2)
            exact x_zret (pc := 42) E hR (isB_nar hz) dX7_readsPeople_42
        · refine x_iconst (pc := 28) (v := (0 : Int32)) E dX7_readsPeople_28 rfl ?_
          obtain ⟨hz, hf⟩ := chk_some hf
          obtain rfl := Option.some.inj hf
          obtain ⟨rfl, rfl⟩ := Prod.mk.inj (lpk_r h2)
          exact x_zret (pc := 29) E hR (isB_nar hz) dX7_readsPeople_29
set_option maxHeartbeats 4000000 in
set_option maxRecDepth 100000 in
theorem c_X7_readsPeople (G : Gx) (σ : MM) (r : Int32) (σ' : MM) (hf : f_X7_readsPeople σ = some (r, σ')) : Ct shM 21 yX7_readsPeople cX7_readsPeople 3 (some .boolean) rm_X7_readsPeople G [.ref (gad G 0)] σ (some (.int r)) σ' := by
  refine ct_of (by decide) (Nat.le_of_ble_eq_true rfl) (fun K E hR => ?_)
  have E : OKc 21 cX7_readsPeople 3 RX7 G K := E
  show XJ shM 21 3 rm_X7_readsPeople G K σ [(0, .ref (gad G 0))] 0 []
  unfold f_X7_readsPeople at hf
  refine x_aload_n 0 (pc := 0) (i := 0) E dX7_readsPeople_0 rfl rfl ?_
  refine x_getI (pc := 1) (p := 6) E rfl (Nat.le_of_ble_eq_true rfl) rfl inlX7 (by decide) rfl wq_164 dX7_readsPeople_1 ?_
  refine x_istore_n (pc := 4) (lv' := [(1, .int (σ.1 0 6)), (0, .ref (gad G 0))]) E dX7_readsPeople_4 rfl (by decide) rfl ?_
  exact x_sub [1, 0] rfl (l_X7_readsPeople_5 G    r σ' hR E FU _ _ hf)
set_option maxHeartbeats 4000000 in
set_option maxRecDepth 100000 in
theorem c_X7_readsNumber (G : Gx) (v1 : Int32) (σ : MM) (r : Int32) (σ' : MM) (hf : f_X7_readsNumber v1 σ = some (r, σ')) : Ct shM 21 yX7_readsNumber cX7_readsNumber 4 (some .boolean) rm_X7_readsNumber G [.ref (gad G 0), .int v1] σ (some (.int r)) σ' := by
  refine ct_of (by decide) (Nat.le_of_ble_eq_true rfl) (fun K E hR => ?_)
  have E : OKc 21 cX7_readsNumber 4 RX7 G K := E
  show XJ shM 21 4 rm_X7_readsNumber G K σ [(0, .ref (gad G 0)), (1, .int v1)] 0 []
  unfold f_X7_readsNumber at hf
  refine x_iload_n 1 (pc := 0) (i := 1) E dX7_readsNumber_0 rfl rfl ?_
  refine x_bipush (pc := 1) (v := (116 : Int32)) E dX7_readsNumber_1 rfl ?_
  obtain ⟨o9, hf11, hf⟩ := bind_some hf
  have hJ10 : XJ shM 21 4 rm_X7_readsNumber G K o9.2 [(0, .ref (gad G 0)), (1, .int v1)] 50 [.int o9.1] := by
    refine x_istore_n (pc := 50) (lv' := [(2, .int o9.1), (0, .ref (gad G 0)), (1, .int v1)]) E dX7_readsNumber_50 rfl (by decide) rfl ?_
    refine x_iload_n 0 (pc := 51) (i := 2) E dX7_readsNumber_51 rfl rfl ?_
    refine x_if_ge (y := 0) (pc := 52) (tgt := 57) E dX7_readsNumber_52 (by decide) hf (fun hf => ?_) (fun hf => ?_)
    · refine x_iload_n 2 (pc := 57) (i := 1) E dX7_readsNumber_57 rfl rfl ?_
      refine x_bipush (pc := 58) (v := (120 : Int32)) E dX7_readsNumber_58 rfl ?_
      obtain ⟨o14, hf16, hf⟩ := bind_some hf
      have hJ15 : XJ shM 21 4 rm_X7_readsNumber G K o14.2 [(0, .ref (gad G 0)), (1, .int v1), (2, .int o9.1)] 73 [.int o14.1] := by
        refine x_istore_n (pc := 73) (lv' := [(3, .int o14.1), (0, .ref (gad G 0)), (1, .int v1), (2, .int o9.1)]) E dX7_readsNumber_73 rfl (by decide) rfl ?_
        refine x_iload_n 0 (pc := 74) (i := 3) E dX7_readsNumber_74 rfl rfl ?_
        refine x_if_lt (y := 0) (pc := 75) (tgt := 87) E dX7_readsNumber_75 (by decide) hf (fun hf => ?_) (fun hf => ?_)
        · refine x_iconst (pc := 87) (v := (0 : Int32)) E dX7_readsNumber_87 rfl ?_
          obtain ⟨hz, hf⟩ := chk_some hf
          obtain ⟨rfl, rfl⟩ := Prod.mk.inj (Option.some.inj hf)
          exact x_zret (pc := 88) E hR (isB_nar hz) dX7_readsNumber_88
        · refine x_aload_n 1 (pc := 78) (i := 0) E dX7_readsNumber_78 rfl rfl ?_
          refine x_bipush (pc := 79) (v := (59 : Int32)) E dX7_readsNumber_79 rfl ?_
          refine x_callVwi (pc := 81) (na := 1) (As := [.int (59 : Int32)]) E (c_X7_takes G (59 : Int32) o14.2) rfl (Nat.le_of_ble_eq_true rfl) rfl wq_280 wq_5 wq_277 wq_278 wq_279 rfl rfl (by decide) ⟨Nat.le_of_ble_eq_true rfl, Nat.le_of_ble_eq_true rfl⟩ rfl rfl (Nat.le_of_ble_eq_true rfl) dX7_readsNumber_81 hf (fun r17 σ18 hf => ?_)
          refine x_if_ne (y := 0) (pc := 84) (tgt := 89) E dX7_readsNumber_84 (by decide) hf (fun hf => ?_) (fun hf => ?_)
          · refine x_aload_n 1 (pc := 89) (i := 0) E dX7_readsNumber_89 rfl rfl ?_
            refine x_getR (pc := 90) (r := 4) (p := 3) E rfl (Nat.le_of_ble_eq_true rfl) rfl inlX7 (by decide) rfl wq_101 dX7_readsNumber_90 ?_
            refine x_iload_n 2 (pc := 93) (i := 1) E dX7_readsNumber_93 rfl rfl ?_
            refine x_bipush (pc := 94) (v := (110 : Int32)) E dX7_readsNumber_94 rfl ?_
            obtain ⟨o19, hf21, hf⟩ := bind_some hf
            have hJ20 : XJ shM 21 4 rm_X7_readsNumber G K σ18 [(0, .ref (gad G 0)), (1, .int v1), (2, .int o9.1), (3, .int o14.1)] 124 [.int o19, .ref (gad G 4)] := by
              refine x_iload_n 2 (pc := 124) (i := 2) E dX7_readsNumber_124 rfl rfl ?_
              refine x_iastore (pc := 125) E rfl (Nat.le_of_ble_eq_true rfl) dX7_readsNumber_125 hf (fun σ22 hf => ?_)
              refine x_iload_n 1 (pc := 126) (i := 1) E dX7_readsNumber_126 rfl rfl ?_
              refine x_bipush (pc := 127) (v := (120 : Int32)) E dX7_readsNumber_127 rfl ?_
              refine x_icmp_ne (pc := 129) (tgt := 139) E dX7_readsNumber_129 (by decide) hf (fun hf => ?_) (fun hf => ?_)
              · refine x_iconst (pc := 139) (v := (1 : Int32)) E dX7_readsNumber_139 rfl ?_
                obtain ⟨hz, hf⟩ := chk_some hf
                obtain ⟨rfl, rfl⟩ := Prod.mk.inj (Option.some.inj hf)
                exact x_zret (pc := 140) E hR (isB_nar hz) dX7_readsNumber_140
              · refine x_aload_n 0 (pc := 132) (i := 0) E dX7_readsNumber_132 rfl rfl ?_
                refine x_getR (pc := 133) (r := 4) (p := 3) E rfl (Nat.le_of_ble_eq_true rfl) rfl inlX7 (by decide) rfl wq_101 dX7_readsNumber_133 ?_
                refine x_iconst (pc := 136) (v := (2 : Int32)) E dX7_readsNumber_136 rfl ?_
                refine x_iload_n 3 (pc := 137) (i := 3) E dX7_readsNumber_137 rfl rfl ?_
                refine x_iastore (pc := 138) E rfl (Nat.le_of_ble_eq_true rfl) dX7_readsNumber_138 hf (fun σ23 hf => ?_)
                refine x_iconst (pc := 139) (v := (1 : Int32)) E dX7_readsNumber_139 rfl ?_
                obtain ⟨hz, hf⟩ := chk_some hf
                obtain ⟨rfl, rfl⟩ := Prod.mk.inj (Option.some.inj hf)
                exact x_zret (pc := 140) E hR (isB_nar hz) dX7_readsNumber_140
            refine x_icmp_ne (pc := 96) (tgt := 103) E dX7_readsNumber_96 (by decide) hf21 (fun hf21 => ?_) (fun hf21 => ?_)
            · refine x_iload_n 2 (pc := 103) (i := 1) E dX7_readsNumber_103 rfl rfl ?_
              refine x_bipush (pc := 104) (v := (120 : Int32)) E dX7_readsNumber_104 rfl ?_
              refine x_icmp_ne (pc := 106) (tgt := 113) E dX7_readsNumber_106 (by decide) hf21 (fun hf21 => ?_) (fun hf21 => ?_)
              · refine x_iload_n 2 (pc := 113) (i := 1) E dX7_readsNumber_113 rfl rfl ?_
                refine x_bipush (pc := 114) (v := (104 : Int32)) E dX7_readsNumber_114 rfl ?_
                refine x_icmp_ne (pc := 116) (tgt := 123) E dX7_readsNumber_116 (by decide) hf21 (fun hf21 => ?_) (fun hf21 => ?_)
                · refine x_iconst (pc := 123) (v := (4 : Int32)) E dX7_readsNumber_123 rfl ?_
                  obtain rfl := Option.some.inj hf21
                  exact x_sub [1, 2, 3, 0] rfl hJ20
                · refine x_iconst (pc := 119) (v := (3 : Int32)) E dX7_readsNumber_119 rfl ?_
                  refine x_goto (pc := 120) (tgt := 124) E dX7_readsNumber_120 (by decide) ?_
                  obtain rfl := Option.some.inj hf21
                  exact x_sub [1, 2, 3, 0] rfl hJ20
              · refine x_iconst (pc := 109) (v := (1 : Int32)) E dX7_readsNumber_109 rfl ?_
                refine x_goto (pc := 110) (tgt := 124) E dX7_readsNumber_110 (by decide) ?_
                obtain rfl := Option.some.inj hf21
                exact x_sub [1, 2, 3, 0] rfl hJ20
            · refine x_iconst (pc := 99) (v := (0 : Int32)) E dX7_readsNumber_99 rfl ?_
              refine x_goto (pc := 100) (tgt := 124) E dX7_readsNumber_100 (by decide) ?_
              obtain rfl := Option.some.inj hf21
              exact x_sub [1, 2, 3, 0] rfl hJ20
          · refine x_iconst (pc := 87) (v := (0 : Int32)) E dX7_readsNumber_87 rfl ?_
            obtain ⟨hz, hf⟩ := chk_some hf
            obtain ⟨rfl, rfl⟩ := Prod.mk.inj (Option.some.inj hf)
            exact x_zret (pc := 88) E hR (isB_nar hz) dX7_readsNumber_88
      refine x_icmp_ne (pc := 60) (tgt := 72) E dX7_readsNumber_60 (by decide) hf16 (fun hf16 => ?_) (fun hf16 => ?_)
      · refine x_iconst (pc := 72) (v := (0 : Int32)) E dX7_readsNumber_72 rfl ?_
        obtain rfl := Option.some.inj hf16
        exact x_sub [1, 2, 0] rfl hJ15
      · refine x_aload_n 1 (pc := 63) (i := 0) E dX7_readsNumber_63 rfl rfl ?_
        refine x_iconst (pc := 64) (v := (0 : Int32)) E dX7_readsNumber_64 rfl ?_
        refine x_iconst (pc := 65) (v := (3 : Int32)) E dX7_readsNumber_65 rfl ?_
        refine x_callVwi (pc := 66) (na := 2) (As := [.int (0 : Int32), .int (3 : Int32)]) E (c_X7_digit G (0 : Int32) (3 : Int32) o9.2) rfl (Nat.le_of_ble_eq_true rfl) rfl wq_276 wq_5 wq_273 wq_274 wq_275 rfl rfl (by decide) ⟨Nat.le_of_ble_eq_true rfl, Nat.le_of_ble_eq_true rfl⟩ rfl rfl (Nat.le_of_ble_eq_true rfl) dX7_readsNumber_66 hf16 (fun r24 σ25 hf16 => ?_)
        refine x_goto (pc := 69) (tgt := 73) E dX7_readsNumber_69 (by decide) ?_
        obtain rfl := Option.some.inj hf16
        exact x_sub [1, 2, 0] rfl hJ15
    · refine x_iconst (pc := 55) (v := (0 : Int32)) E dX7_readsNumber_55 rfl ?_
      obtain ⟨hz, hf⟩ := chk_some hf
      obtain ⟨rfl, rfl⟩ := Prod.mk.inj (Option.some.inj hf)
      exact x_zret (pc := 56) E hR (isB_nar hz) dX7_readsNumber_56
  refine x_icmp_ne (pc := 3) (tgt := 13) E dX7_readsNumber_3 (by decide) hf11 (fun hf11 => ?_) (fun hf11 => ?_)
  · refine x_iload_n 1 (pc := 13) (i := 1) E dX7_readsNumber_13 rfl rfl ?_
    refine x_bipush (pc := 14) (v := (110 : Int32)) E dX7_readsNumber_14 rfl ?_
    refine x_icmp_ne (pc := 16) (tgt := 29) E dX7_readsNumber_16 (by decide) hf11 (fun hf11 => ?_) (fun hf11 => ?_)
    · refine x_iload_n 1 (pc := 29) (i := 1) E dX7_readsNumber_29 rfl rfl ?_
      refine x_bipush (pc := 30) (v := (120 : Int32)) E dX7_readsNumber_30 rfl ?_
      refine x_icmp_ne (pc := 32) (tgt := 44) E dX7_readsNumber_32 (by decide) hf11 (fun hf11 => ?_) (fun hf11 => ?_)
      · refine x_aload_n 0 (pc := 44) (i := 0) E dX7_readsNumber_44 rfl rfl ?_
        refine x_iconst (pc := 45) (v := (0 : Int32)) E dX7_readsNumber_45 rfl ?_
        refine x_iconst (pc := 46) (v := (1 : Int32)) E dX7_readsNumber_46 rfl ?_
        refine x_callVwi (pc := 47) (na := 2) (As := [.int (0 : Int32), .int (1 : Int32)]) E (c_X7_digit G (0 : Int32) (1 : Int32) σ) rfl (Nat.le_of_ble_eq_true rfl) rfl wq_276 wq_5 wq_273 wq_274 wq_275 rfl rfl (by decide) ⟨Nat.le_of_ble_eq_true rfl, Nat.le_of_ble_eq_true rfl⟩ rfl rfl (Nat.le_of_ble_eq_true rfl) dX7_readsNumber_47 hf11 (fun r26 σ27 hf11 => ?_)
        obtain rfl := Option.some.inj hf11
        exact x_sub [0, 1] rfl hJ10
      · refine x_aload_n 0 (pc := 35) (i := 0) E dX7_readsNumber_35 rfl rfl ?_
        refine x_iconst (pc := 36) (v := (0 : Int32)) E dX7_readsNumber_36 rfl ?_
        refine x_iconst (pc := 37) (v := (3 : Int32)) E dX7_readsNumber_37 rfl ?_
        refine x_callVwi (pc := 38) (na := 2) (As := [.int (0 : Int32), .int (3 : Int32)]) E (c_X7_digit G (0 : Int32) (3 : Int32) σ) rfl (Nat.le_of_ble_eq_true rfl) rfl wq_276 wq_5 wq_273 wq_274 wq_275 rfl rfl (by decide) ⟨Nat.le_of_ble_eq_true rfl, Nat.le_of_ble_eq_true rfl⟩ rfl rfl (Nat.le_of_ble_eq_true rfl) dX7_readsNumber_38 hf11 (fun r28 σ29 hf11 => ?_)
        refine x_goto (pc := 41) (tgt := 50) E dX7_readsNumber_41 (by decide) ?_
        obtain rfl := Option.some.inj hf11
        exact x_sub [0, 1] rfl hJ10
    · refine x_aload_n 0 (pc := 19) (i := 0) E dX7_readsNumber_19 rfl rfl ?_
      refine x_iconst (pc := 20) (v := (1 : Int32)) E dX7_readsNumber_20 rfl ?_
      refine x_bipush (pc := 21) (v := (7 : Int32)) E dX7_readsNumber_21 rfl ?_
      refine x_callVwi (pc := 23) (na := 2) (As := [.int (1 : Int32), .int (7 : Int32)]) E (c_X7_digit G (1 : Int32) (7 : Int32) σ) rfl (Nat.le_of_ble_eq_true rfl) rfl wq_276 wq_5 wq_273 wq_274 wq_275 rfl rfl (by decide) ⟨Nat.le_of_ble_eq_true rfl, Nat.le_of_ble_eq_true rfl⟩ rfl rfl (Nat.le_of_ble_eq_true rfl) dX7_readsNumber_23 hf11 (fun r30 σ31 hf11 => ?_)
      refine x_goto (pc := 26) (tgt := 50) E dX7_readsNumber_26 (by decide) ?_
      obtain rfl := Option.some.inj hf11
      exact x_sub [0, 1] rfl hJ10
  · refine x_aload_n 0 (pc := 6) (i := 0) E dX7_readsNumber_6 rfl rfl ?_
    refine x_callVwi (pc := 7) (na := 0) (As := []) E (c_X7_hundredths G σ) rfl (Nat.le_of_ble_eq_true rfl) rfl wq_284 wq_5 wq_281 wq_282 wq_283 rfl rfl (by decide) ⟨Nat.le_of_ble_eq_true rfl, Nat.le_of_ble_eq_true rfl⟩ rfl rfl (Nat.le_of_ble_eq_true rfl) dX7_readsNumber_7 hf11 (fun r32 σ33 hf11 => ?_)
    refine x_goto (pc := 10) (tgt := 50) E dX7_readsNumber_10 (by decide) ?_
    obtain rfl := Option.some.inj hf11
    exact x_sub [0, 1] rfl hJ10
set_option maxHeartbeats 4000000 in
set_option maxRecDepth 100000 in
theorem c_X7_statement (G : Gx) (σ : MM) (r : Int32) (σ' : MM) (hf : f_X7_statement σ = some (r, σ')) : Ct shM 21 yX7_statement cX7_statement 2 (some .boolean) rm_X7_statement G [.ref (gad G 0)] σ (some (.int r)) σ' := by
  refine ct_of (by decide) (Nat.le_of_ble_eq_true rfl) (fun K E hR => ?_)
  have E : OKc 21 cX7_statement 2 RX7 G K := E
  show XJ shM 21 2 rm_X7_statement G K σ [(0, .ref (gad G 0))] 0 []
  unfold f_X7_statement at hf
  refine x_aload_n 0 (pc := 0) (i := 0) E dX7_statement_0 rfl rfl ?_
  refine x_callVri (pc := 1) (na := 0) (As := []) E (c_X7_sign G σ) rfl (Nat.le_of_ble_eq_true rfl) rfl wq_268 wq_5 wq_265 wq_266 wq_267 rfl rfl (by decide) ⟨Nat.le_of_ble_eq_true rfl, Nat.le_of_ble_eq_true rfl⟩ rfl rfl (Nat.le_of_ble_eq_true rfl) dX7_statement_1 hf (fun r1 hf => ?_)
  refine x_istore_n (pc := 4) (lv' := [(1, .int r1), (0, .ref (gad G 0))]) E dX7_statement_4 rfl (by decide) rfl ?_
  refine x_iload_n 0 (pc := 5) (i := 1) E dX7_statement_5 rfl rfl ?_
  refine x_bipush (pc := 6) (v := (115 : Int32)) E dX7_statement_6 rfl ?_
  refine x_icmp_eq (pc := 8) (tgt := 43) E dX7_statement_8 (by decide) hf (fun hf => ?_) (fun hf => ?_)
  · refine x_aload_n 1 (pc := 43) (i := 0) E dX7_statement_43 rfl rfl ?_
    refine x_dup (pc := 44) E dX7_statement_44 rfl ?_
    refine x_getI (pc := 45) (p := 9) E rfl (Nat.le_of_ble_eq_true rfl) rfl inlX7 (by decide) rfl wq_260 dX7_statement_45 ?_
    refine x_iconst (pc := 48) (v := (1 : Int32)) E dX7_statement_48 rfl ?_
    refine x_iadd (pc := 49) E dX7_statement_49 ?_
    refine x_put (pc := 50) (p := 9) E rfl (Nat.le_of_ble_eq_true rfl) rfl inlX7 tyX7_ok nmX7 (by decide) rfl rfl rfl rfl wq_260 dX7_statement_50 hf (fun σ2 hf => ?_)
    refine x_iload_n 0 (pc := 53) (i := 1) E dX7_statement_53 rfl rfl ?_
    refine x_bipush (pc := 54) (v := (115 : Int32)) E dX7_statement_54 rfl ?_
    refine x_icmp_ne (pc := 56) (tgt := 66) E dX7_statement_56 (by decide) hf (fun hf => ?_) (fun hf => ?_)
    · refine x_iload_n 0 (pc := 66) (i := 1) E dX7_statement_66 rfl rfl ?_
      refine x_bipush (pc := 67) (v := (112 : Int32)) E dX7_statement_67 rfl ?_
      refine x_icmp_ne (pc := 69) (tgt := 79) E dX7_statement_69 (by decide) hf (fun hf => ?_) (fun hf => ?_)
      · refine x_aload_n 1 (pc := 79) (i := 0) E dX7_statement_79 rfl rfl ?_
        refine x_iload_n 0 (pc := 80) (i := 1) E dX7_statement_80 rfl rfl ?_
        refine x_callVwi (pc := 81) (na := 1) (As := [.int r1]) E (c_X7_readsNumber G r1 σ2) rfl (Nat.le_of_ble_eq_true rfl) rfl wq_292 wq_5 wq_289 wq_290 wq_291 rfl rfl (by decide) ⟨Nat.le_of_ble_eq_true rfl, Nat.le_of_ble_eq_true rfl⟩ rfl rfl (Nat.le_of_ble_eq_true rfl) dX7_statement_81 hf (fun r3 σ4 hf => ?_)
        obtain ⟨hz, hf⟩ := chk_some hf
        obtain ⟨rfl, rfl⟩ := Prod.mk.inj (Option.some.inj hf)
        exact x_zret (pc := 84) E hR (isB_nar hz) dX7_statement_84
      · refine x_aload_n 1 (pc := 72) (i := 0) E dX7_statement_72 rfl rfl ?_
        refine x_callVwi (pc := 73) (na := 0) (As := []) E (c_X7_readsPeople G σ2) rfl (Nat.le_of_ble_eq_true rfl) rfl wq_288 wq_5 wq_285 wq_286 wq_287 rfl rfl (by decide) ⟨Nat.le_of_ble_eq_true rfl, Nat.le_of_ble_eq_true rfl⟩ rfl rfl (Nat.le_of_ble_eq_true rfl) dX7_statement_73 hf (fun r5 σ6 hf => ?_)
        refine x_goto (pc := 76) (tgt := 84) E dX7_statement_76 (by decide) ?_
        obtain ⟨hz, hf⟩ := chk_some hf
        obtain ⟨rfl, rfl⟩ := Prod.mk.inj (Option.some.inj hf)
        exact x_zret (pc := 84) E hR (isB_nar hz) dX7_statement_84
    · refine x_aload_n 1 (pc := 59) (i := 0) E dX7_statement_59 rfl rfl ?_
      refine x_callVwi (pc := 60) (na := 0) (As := []) E (c_X7_readsSort G σ2) rfl (Nat.le_of_ble_eq_true rfl) rfl wq_272 wq_5 wq_269 wq_270 wq_271 rfl rfl (by decide) ⟨Nat.le_of_ble_eq_true rfl, Nat.le_of_ble_eq_true rfl⟩ rfl rfl (Nat.le_of_ble_eq_true rfl) dX7_statement_60 hf (fun r7 σ8 hf => ?_)
      refine x_goto (pc := 63) (tgt := 84) E dX7_statement_63 (by decide) ?_
      obtain ⟨hz, hf⟩ := chk_some hf
      obtain ⟨rfl, rfl⟩ := Prod.mk.inj (Option.some.inj hf)
      exact x_zret (pc := 84) E hR (isB_nar hz) dX7_statement_84
  · refine x_iload_n 0 (pc := 11) (i := 1) E dX7_statement_11 rfl rfl ?_
    refine x_bipush (pc := 12) (v := (112 : Int32)) E dX7_statement_12 rfl ?_
    refine x_icmp_eq (pc := 14) (tgt := 43) E dX7_statement_14 (by decide) hf (fun hf => ?_) (fun hf => ?_)
    · refine x_aload_n 1 (pc := 43) (i := 0) E dX7_statement_43 rfl rfl ?_
      refine x_dup (pc := 44) E dX7_statement_44 rfl ?_
      refine x_getI (pc := 45) (p := 9) E rfl (Nat.le_of_ble_eq_true rfl) rfl inlX7 (by decide) rfl wq_260 dX7_statement_45 ?_
      refine x_iconst (pc := 48) (v := (1 : Int32)) E dX7_statement_48 rfl ?_
      refine x_iadd (pc := 49) E dX7_statement_49 ?_
      refine x_put (pc := 50) (p := 9) E rfl (Nat.le_of_ble_eq_true rfl) rfl inlX7 tyX7_ok nmX7 (by decide) rfl rfl rfl rfl wq_260 dX7_statement_50 hf (fun σ9 hf => ?_)
      refine x_iload_n 0 (pc := 53) (i := 1) E dX7_statement_53 rfl rfl ?_
      refine x_bipush (pc := 54) (v := (115 : Int32)) E dX7_statement_54 rfl ?_
      refine x_icmp_ne (pc := 56) (tgt := 66) E dX7_statement_56 (by decide) hf (fun hf => ?_) (fun hf => ?_)
      · refine x_iload_n 0 (pc := 66) (i := 1) E dX7_statement_66 rfl rfl ?_
        refine x_bipush (pc := 67) (v := (112 : Int32)) E dX7_statement_67 rfl ?_
        refine x_icmp_ne (pc := 69) (tgt := 79) E dX7_statement_69 (by decide) hf (fun hf => ?_) (fun hf => ?_)
        · refine x_aload_n 1 (pc := 79) (i := 0) E dX7_statement_79 rfl rfl ?_
          refine x_iload_n 0 (pc := 80) (i := 1) E dX7_statement_80 rfl rfl ?_
          refine x_callVwi (pc := 81) (na := 1) (As := [.int r1]) E (c_X7_readsNumber G r1 σ9) rfl (Nat.le_of_ble_eq_true rfl) rfl wq_292 wq_5 wq_289 wq_290 wq_291 rfl rfl (by decide) ⟨Nat.le_of_ble_eq_true rfl, Nat.le_of_ble_eq_true rfl⟩ rfl rfl (Nat.le_of_ble_eq_true rfl) dX7_statement_81 hf (fun r10 σ11 hf => ?_)
          obtain ⟨hz, hf⟩ := chk_some hf
          obtain ⟨rfl, rfl⟩ := Prod.mk.inj (Option.some.inj hf)
          exact x_zret (pc := 84) E hR (isB_nar hz) dX7_statement_84
        · refine x_aload_n 1 (pc := 72) (i := 0) E dX7_statement_72 rfl rfl ?_
          refine x_callVwi (pc := 73) (na := 0) (As := []) E (c_X7_readsPeople G σ9) rfl (Nat.le_of_ble_eq_true rfl) rfl wq_288 wq_5 wq_285 wq_286 wq_287 rfl rfl (by decide) ⟨Nat.le_of_ble_eq_true rfl, Nat.le_of_ble_eq_true rfl⟩ rfl rfl (Nat.le_of_ble_eq_true rfl) dX7_statement_73 hf (fun r12 σ13 hf => ?_)
          refine x_goto (pc := 76) (tgt := 84) E dX7_statement_76 (by decide) ?_
          obtain ⟨hz, hf⟩ := chk_some hf
          obtain ⟨rfl, rfl⟩ := Prod.mk.inj (Option.some.inj hf)
          exact x_zret (pc := 84) E hR (isB_nar hz) dX7_statement_84
      · refine x_aload_n 1 (pc := 59) (i := 0) E dX7_statement_59 rfl rfl ?_
        refine x_callVwi (pc := 60) (na := 0) (As := []) E (c_X7_readsSort G σ9) rfl (Nat.le_of_ble_eq_true rfl) rfl wq_272 wq_5 wq_269 wq_270 wq_271 rfl rfl (by decide) ⟨Nat.le_of_ble_eq_true rfl, Nat.le_of_ble_eq_true rfl⟩ rfl rfl (Nat.le_of_ble_eq_true rfl) dX7_statement_60 hf (fun r14 σ15 hf => ?_)
        refine x_goto (pc := 63) (tgt := 84) E dX7_statement_63 (by decide) ?_
        obtain ⟨hz, hf⟩ := chk_some hf
        obtain ⟨rfl, rfl⟩ := Prod.mk.inj (Option.some.inj hf)
        exact x_zret (pc := 84) E hR (isB_nar hz) dX7_statement_84
    · refine x_iload_n 0 (pc := 17) (i := 1) E dX7_statement_17 rfl rfl ?_
      refine x_bipush (pc := 18) (v := (110 : Int32)) E dX7_statement_18 rfl ?_
      refine x_icmp_eq (pc := 20) (tgt := 43) E dX7_statement_20 (by decide) hf (fun hf => ?_) (fun hf => ?_)
      · refine x_aload_n 1 (pc := 43) (i := 0) E dX7_statement_43 rfl rfl ?_
        refine x_dup (pc := 44) E dX7_statement_44 rfl ?_
        refine x_getI (pc := 45) (p := 9) E rfl (Nat.le_of_ble_eq_true rfl) rfl inlX7 (by decide) rfl wq_260 dX7_statement_45 ?_
        refine x_iconst (pc := 48) (v := (1 : Int32)) E dX7_statement_48 rfl ?_
        refine x_iadd (pc := 49) E dX7_statement_49 ?_
        refine x_put (pc := 50) (p := 9) E rfl (Nat.le_of_ble_eq_true rfl) rfl inlX7 tyX7_ok nmX7 (by decide) rfl rfl rfl rfl wq_260 dX7_statement_50 hf (fun σ16 hf => ?_)
        refine x_iload_n 0 (pc := 53) (i := 1) E dX7_statement_53 rfl rfl ?_
        refine x_bipush (pc := 54) (v := (115 : Int32)) E dX7_statement_54 rfl ?_
        refine x_icmp_ne (pc := 56) (tgt := 66) E dX7_statement_56 (by decide) hf (fun hf => ?_) (fun hf => ?_)
        · refine x_iload_n 0 (pc := 66) (i := 1) E dX7_statement_66 rfl rfl ?_
          refine x_bipush (pc := 67) (v := (112 : Int32)) E dX7_statement_67 rfl ?_
          refine x_icmp_ne (pc := 69) (tgt := 79) E dX7_statement_69 (by decide) hf (fun hf => ?_) (fun hf => ?_)
          · refine x_aload_n 1 (pc := 79) (i := 0) E dX7_statement_79 rfl rfl ?_
            refine x_iload_n 0 (pc := 80) (i := 1) E dX7_statement_80 rfl rfl ?_
            refine x_callVwi (pc := 81) (na := 1) (As := [.int r1]) E (c_X7_readsNumber G r1 σ16) rfl (Nat.le_of_ble_eq_true rfl) rfl wq_292 wq_5 wq_289 wq_290 wq_291 rfl rfl (by decide) ⟨Nat.le_of_ble_eq_true rfl, Nat.le_of_ble_eq_true rfl⟩ rfl rfl (Nat.le_of_ble_eq_true rfl) dX7_statement_81 hf (fun r17 σ18 hf => ?_)
            obtain ⟨hz, hf⟩ := chk_some hf
            obtain ⟨rfl, rfl⟩ := Prod.mk.inj (Option.some.inj hf)
            exact x_zret (pc := 84) E hR (isB_nar hz) dX7_statement_84
          · refine x_aload_n 1 (pc := 72) (i := 0) E dX7_statement_72 rfl rfl ?_
            refine x_callVwi (pc := 73) (na := 0) (As := []) E (c_X7_readsPeople G σ16) rfl (Nat.le_of_ble_eq_true rfl) rfl wq_288 wq_5 wq_285 wq_286 wq_287 rfl rfl (by decide) ⟨Nat.le_of_ble_eq_true rfl, Nat.le_of_ble_eq_true rfl⟩ rfl rfl (Nat.le_of_ble_eq_true rfl) dX7_statement_73 hf (fun r19 σ20 hf => ?_)
            refine x_goto (pc := 76) (tgt := 84) E dX7_statement_76 (by decide) ?_
            obtain ⟨hz, hf⟩ := chk_some hf
            obtain ⟨rfl, rfl⟩ := Prod.mk.inj (Option.some.inj hf)
            exact x_zret (pc := 84) E hR (isB_nar hz) dX7_statement_84
        · refine x_aload_n 1 (pc := 59) (i := 0) E dX7_statement_59 rfl rfl ?_
          refine x_callVwi (pc := 60) (na := 0) (As := []) E (c_X7_readsSort G σ16) rfl (Nat.le_of_ble_eq_true rfl) rfl wq_272 wq_5 wq_269 wq_270 wq_271 rfl rfl (by decide) ⟨Nat.le_of_ble_eq_true rfl, Nat.le_of_ble_eq_true rfl⟩ rfl rfl (Nat.le_of_ble_eq_true rfl) dX7_statement_60 hf (fun r21 σ22 hf => ?_)
          refine x_goto (pc := 63) (tgt := 84) E dX7_statement_63 (by decide) ?_
          obtain ⟨hz, hf⟩ := chk_some hf
          obtain ⟨rfl, rfl⟩ := Prod.mk.inj (Option.some.inj hf)
          exact x_zret (pc := 84) E hR (isB_nar hz) dX7_statement_84
      · refine x_iload_n 0 (pc := 23) (i := 1) E dX7_statement_23 rfl rfl ?_
        refine x_bipush (pc := 24) (v := (120 : Int32)) E dX7_statement_24 rfl ?_
        refine x_icmp_eq (pc := 26) (tgt := 43) E dX7_statement_26 (by decide) hf (fun hf => ?_) (fun hf => ?_)
        · refine x_aload_n 1 (pc := 43) (i := 0) E dX7_statement_43 rfl rfl ?_
          refine x_dup (pc := 44) E dX7_statement_44 rfl ?_
          refine x_getI (pc := 45) (p := 9) E rfl (Nat.le_of_ble_eq_true rfl) rfl inlX7 (by decide) rfl wq_260 dX7_statement_45 ?_
          refine x_iconst (pc := 48) (v := (1 : Int32)) E dX7_statement_48 rfl ?_
          refine x_iadd (pc := 49) E dX7_statement_49 ?_
          refine x_put (pc := 50) (p := 9) E rfl (Nat.le_of_ble_eq_true rfl) rfl inlX7 tyX7_ok nmX7 (by decide) rfl rfl rfl rfl wq_260 dX7_statement_50 hf (fun σ23 hf => ?_)
          refine x_iload_n 0 (pc := 53) (i := 1) E dX7_statement_53 rfl rfl ?_
          refine x_bipush (pc := 54) (v := (115 : Int32)) E dX7_statement_54 rfl ?_
          refine x_icmp_ne (pc := 56) (tgt := 66) E dX7_statement_56 (by decide) hf (fun hf => ?_) (fun hf => ?_)
          · refine x_iload_n 0 (pc := 66) (i := 1) E dX7_statement_66 rfl rfl ?_
            refine x_bipush (pc := 67) (v := (112 : Int32)) E dX7_statement_67 rfl ?_
            refine x_icmp_ne (pc := 69) (tgt := 79) E dX7_statement_69 (by decide) hf (fun hf => ?_) (fun hf => ?_)
            · refine x_aload_n 1 (pc := 79) (i := 0) E dX7_statement_79 rfl rfl ?_
              refine x_iload_n 0 (pc := 80) (i := 1) E dX7_statement_80 rfl rfl ?_
              refine x_callVwi (pc := 81) (na := 1) (As := [.int r1]) E (c_X7_readsNumber G r1 σ23) rfl (Nat.le_of_ble_eq_true rfl) rfl wq_292 wq_5 wq_289 wq_290 wq_291 rfl rfl (by decide) ⟨Nat.le_of_ble_eq_true rfl, Nat.le_of_ble_eq_true rfl⟩ rfl rfl (Nat.le_of_ble_eq_true rfl) dX7_statement_81 hf (fun r24 σ25 hf => ?_)
              obtain ⟨hz, hf⟩ := chk_some hf
              obtain ⟨rfl, rfl⟩ := Prod.mk.inj (Option.some.inj hf)
              exact x_zret (pc := 84) E hR (isB_nar hz) dX7_statement_84
            · refine x_aload_n 1 (pc := 72) (i := 0) E dX7_statement_72 rfl rfl ?_
              refine x_callVwi (pc := 73) (na := 0) (As := []) E (c_X7_readsPeople G σ23) rfl (Nat.le_of_ble_eq_true rfl) rfl wq_288 wq_5 wq_285 wq_286 wq_287 rfl rfl (by decide) ⟨Nat.le_of_ble_eq_true rfl, Nat.le_of_ble_eq_true rfl⟩ rfl rfl (Nat.le_of_ble_eq_true rfl) dX7_statement_73 hf (fun r26 σ27 hf => ?_)
              refine x_goto (pc := 76) (tgt := 84) E dX7_statement_76 (by decide) ?_
              obtain ⟨hz, hf⟩ := chk_some hf
              obtain ⟨rfl, rfl⟩ := Prod.mk.inj (Option.some.inj hf)
              exact x_zret (pc := 84) E hR (isB_nar hz) dX7_statement_84
          · refine x_aload_n 1 (pc := 59) (i := 0) E dX7_statement_59 rfl rfl ?_
            refine x_callVwi (pc := 60) (na := 0) (As := []) E (c_X7_readsSort G σ23) rfl (Nat.le_of_ble_eq_true rfl) rfl wq_272 wq_5 wq_269 wq_270 wq_271 rfl rfl (by decide) ⟨Nat.le_of_ble_eq_true rfl, Nat.le_of_ble_eq_true rfl⟩ rfl rfl (Nat.le_of_ble_eq_true rfl) dX7_statement_60 hf (fun r28 σ29 hf => ?_)
            refine x_goto (pc := 63) (tgt := 84) E dX7_statement_63 (by decide) ?_
            obtain ⟨hz, hf⟩ := chk_some hf
            obtain ⟨rfl, rfl⟩ := Prod.mk.inj (Option.some.inj hf)
            exact x_zret (pc := 84) E hR (isB_nar hz) dX7_statement_84
        · refine x_iload_n 0 (pc := 29) (i := 1) E dX7_statement_29 rfl rfl ?_
          refine x_bipush (pc := 30) (v := (104 : Int32)) E dX7_statement_30 rfl ?_
          refine x_icmp_eq (pc := 32) (tgt := 43) E dX7_statement_32 (by decide) hf (fun hf => ?_) (fun hf => ?_)
          · refine x_aload_n 1 (pc := 43) (i := 0) E dX7_statement_43 rfl rfl ?_
            refine x_dup (pc := 44) E dX7_statement_44 rfl ?_
            refine x_getI (pc := 45) (p := 9) E rfl (Nat.le_of_ble_eq_true rfl) rfl inlX7 (by decide) rfl wq_260 dX7_statement_45 ?_
            refine x_iconst (pc := 48) (v := (1 : Int32)) E dX7_statement_48 rfl ?_
            refine x_iadd (pc := 49) E dX7_statement_49 ?_
            refine x_put (pc := 50) (p := 9) E rfl (Nat.le_of_ble_eq_true rfl) rfl inlX7 tyX7_ok nmX7 (by decide) rfl rfl rfl rfl wq_260 dX7_statement_50 hf (fun σ30 hf => ?_)
            refine x_iload_n 0 (pc := 53) (i := 1) E dX7_statement_53 rfl rfl ?_
            refine x_bipush (pc := 54) (v := (115 : Int32)) E dX7_statement_54 rfl ?_
            refine x_icmp_ne (pc := 56) (tgt := 66) E dX7_statement_56 (by decide) hf (fun hf => ?_) (fun hf => ?_)
            · refine x_iload_n 0 (pc := 66) (i := 1) E dX7_statement_66 rfl rfl ?_
              refine x_bipush (pc := 67) (v := (112 : Int32)) E dX7_statement_67 rfl ?_
              refine x_icmp_ne (pc := 69) (tgt := 79) E dX7_statement_69 (by decide) hf (fun hf => ?_) (fun hf => ?_)
              · refine x_aload_n 1 (pc := 79) (i := 0) E dX7_statement_79 rfl rfl ?_
                refine x_iload_n 0 (pc := 80) (i := 1) E dX7_statement_80 rfl rfl ?_
                refine x_callVwi (pc := 81) (na := 1) (As := [.int r1]) E (c_X7_readsNumber G r1 σ30) rfl (Nat.le_of_ble_eq_true rfl) rfl wq_292 wq_5 wq_289 wq_290 wq_291 rfl rfl (by decide) ⟨Nat.le_of_ble_eq_true rfl, Nat.le_of_ble_eq_true rfl⟩ rfl rfl (Nat.le_of_ble_eq_true rfl) dX7_statement_81 hf (fun r31 σ32 hf => ?_)
                obtain ⟨hz, hf⟩ := chk_some hf
                obtain ⟨rfl, rfl⟩ := Prod.mk.inj (Option.some.inj hf)
                exact x_zret (pc := 84) E hR (isB_nar hz) dX7_statement_84
              · refine x_aload_n 1 (pc := 72) (i := 0) E dX7_statement_72 rfl rfl ?_
                refine x_callVwi (pc := 73) (na := 0) (As := []) E (c_X7_readsPeople G σ30) rfl (Nat.le_of_ble_eq_true rfl) rfl wq_288 wq_5 wq_285 wq_286 wq_287 rfl rfl (by decide) ⟨Nat.le_of_ble_eq_true rfl, Nat.le_of_ble_eq_true rfl⟩ rfl rfl (Nat.le_of_ble_eq_true rfl) dX7_statement_73 hf (fun r33 σ34 hf => ?_)
                refine x_goto (pc := 76) (tgt := 84) E dX7_statement_76 (by decide) ?_
                obtain ⟨hz, hf⟩ := chk_some hf
                obtain ⟨rfl, rfl⟩ := Prod.mk.inj (Option.some.inj hf)
                exact x_zret (pc := 84) E hR (isB_nar hz) dX7_statement_84
            · refine x_aload_n 1 (pc := 59) (i := 0) E dX7_statement_59 rfl rfl ?_
              refine x_callVwi (pc := 60) (na := 0) (As := []) E (c_X7_readsSort G σ30) rfl (Nat.le_of_ble_eq_true rfl) rfl wq_272 wq_5 wq_269 wq_270 wq_271 rfl rfl (by decide) ⟨Nat.le_of_ble_eq_true rfl, Nat.le_of_ble_eq_true rfl⟩ rfl rfl (Nat.le_of_ble_eq_true rfl) dX7_statement_60 hf (fun r35 σ36 hf => ?_)
              refine x_goto (pc := 63) (tgt := 84) E dX7_statement_63 (by decide) ?_
              obtain ⟨hz, hf⟩ := chk_some hf
              obtain ⟨rfl, rfl⟩ := Prod.mk.inj (Option.some.inj hf)
              exact x_zret (pc := 84) E hR (isB_nar hz) dX7_statement_84
          · refine x_iload_n 0 (pc := 35) (i := 1) E dX7_statement_35 rfl rfl ?_
            refine x_bipush (pc := 36) (v := (116 : Int32)) E dX7_statement_36 rfl ?_
            refine x_icmp_eq (pc := 38) (tgt := 43) E dX7_statement_38 (by decide) hf (fun hf => ?_) (fun hf => ?_)
            · refine x_aload_n 1 (pc := 43) (i := 0) E dX7_statement_43 rfl rfl ?_
              refine x_dup (pc := 44) E dX7_statement_44 rfl ?_
              refine x_getI (pc := 45) (p := 9) E rfl (Nat.le_of_ble_eq_true rfl) rfl inlX7 (by decide) rfl wq_260 dX7_statement_45 ?_
              refine x_iconst (pc := 48) (v := (1 : Int32)) E dX7_statement_48 rfl ?_
              refine x_iadd (pc := 49) E dX7_statement_49 ?_
              refine x_put (pc := 50) (p := 9) E rfl (Nat.le_of_ble_eq_true rfl) rfl inlX7 tyX7_ok nmX7 (by decide) rfl rfl rfl rfl wq_260 dX7_statement_50 hf (fun σ37 hf => ?_)
              refine x_iload_n 0 (pc := 53) (i := 1) E dX7_statement_53 rfl rfl ?_
              refine x_bipush (pc := 54) (v := (115 : Int32)) E dX7_statement_54 rfl ?_
              refine x_icmp_ne (pc := 56) (tgt := 66) E dX7_statement_56 (by decide) hf (fun hf => ?_) (fun hf => ?_)
              · refine x_iload_n 0 (pc := 66) (i := 1) E dX7_statement_66 rfl rfl ?_
                refine x_bipush (pc := 67) (v := (112 : Int32)) E dX7_statement_67 rfl ?_
                refine x_icmp_ne (pc := 69) (tgt := 79) E dX7_statement_69 (by decide) hf (fun hf => ?_) (fun hf => ?_)
                · refine x_aload_n 1 (pc := 79) (i := 0) E dX7_statement_79 rfl rfl ?_
                  refine x_iload_n 0 (pc := 80) (i := 1) E dX7_statement_80 rfl rfl ?_
                  refine x_callVwi (pc := 81) (na := 1) (As := [.int r1]) E (c_X7_readsNumber G r1 σ37) rfl (Nat.le_of_ble_eq_true rfl) rfl wq_292 wq_5 wq_289 wq_290 wq_291 rfl rfl (by decide) ⟨Nat.le_of_ble_eq_true rfl, Nat.le_of_ble_eq_true rfl⟩ rfl rfl (Nat.le_of_ble_eq_true rfl) dX7_statement_81 hf (fun r38 σ39 hf => ?_)
                  obtain ⟨hz, hf⟩ := chk_some hf
                  obtain ⟨rfl, rfl⟩ := Prod.mk.inj (Option.some.inj hf)
                  exact x_zret (pc := 84) E hR (isB_nar hz) dX7_statement_84
                · refine x_aload_n 1 (pc := 72) (i := 0) E dX7_statement_72 rfl rfl ?_
                  refine x_callVwi (pc := 73) (na := 0) (As := []) E (c_X7_readsPeople G σ37) rfl (Nat.le_of_ble_eq_true rfl) rfl wq_288 wq_5 wq_285 wq_286 wq_287 rfl rfl (by decide) ⟨Nat.le_of_ble_eq_true rfl, Nat.le_of_ble_eq_true rfl⟩ rfl rfl (Nat.le_of_ble_eq_true rfl) dX7_statement_73 hf (fun r40 σ41 hf => ?_)
                  refine x_goto (pc := 76) (tgt := 84) E dX7_statement_76 (by decide) ?_
                  obtain ⟨hz, hf⟩ := chk_some hf
                  obtain ⟨rfl, rfl⟩ := Prod.mk.inj (Option.some.inj hf)
                  exact x_zret (pc := 84) E hR (isB_nar hz) dX7_statement_84
              · refine x_aload_n 1 (pc := 59) (i := 0) E dX7_statement_59 rfl rfl ?_
                refine x_callVwi (pc := 60) (na := 0) (As := []) E (c_X7_readsSort G σ37) rfl (Nat.le_of_ble_eq_true rfl) rfl wq_272 wq_5 wq_269 wq_270 wq_271 rfl rfl (by decide) ⟨Nat.le_of_ble_eq_true rfl, Nat.le_of_ble_eq_true rfl⟩ rfl rfl (Nat.le_of_ble_eq_true rfl) dX7_statement_60 hf (fun r42 σ43 hf => ?_)
                refine x_goto (pc := 63) (tgt := 84) E dX7_statement_63 (by decide) ?_
                obtain ⟨hz, hf⟩ := chk_some hf
                obtain ⟨rfl, rfl⟩ := Prod.mk.inj (Option.some.inj hf)
                exact x_zret (pc := 84) E hR (isB_nar hz) dX7_statement_84
            · refine x_iconst (pc := 41) (v := (0 : Int32)) E dX7_statement_41 rfl ?_
              obtain ⟨hz, hf⟩ := chk_some hf
              obtain ⟨rfl, rfl⟩ := Prod.mk.inj (Option.some.inj hf)
              exact x_zret (pc := 42) E hR (isB_nar hz) dX7_statement_42
set_option maxHeartbeats 4000000 in
set_option maxRecDepth 100000 in
theorem l_X7_court_9 (G : Gx) {K : Kx}    (E : OKc 21 cX7_court 3 RX7 G K) : ∀ (m : Nat) (v1 : Int32) (v2 : Int32) (σ : MM) (out : Int32 × Int32 × MM), loopN (fun s => g_X7_court_9 s.1 s.2.1 s.2.2) m (v1, v2, σ) = some out → XJ shM 21 3 rm_X7_court G K out.2.2 [(0, .ref (gad G 0)), (1, .int out.1), (2, .int out.2.1)] 44 [] → XJ shM 21 3 rm_X7_court G K σ [(0, .ref (gad G 0)), (1, .int v1), (2, .int v2)] 9 [] := by
  intro m
  induction m with
  | zero => intro v1 v2 σ out hf; exact (loopN_0 hf).elim
  | succ m ih =>
    intro v1 v2 σ out hf hk
    obtain ⟨q, hf, h2⟩ := loopN_s hf
    have hf : g_X7_court_9 v1 v2 σ = some q := hf
    unfold g_X7_court_9 at hf
    refine x_iload_n 2 (pc := 9) (i := 2) E dX7_court_9 rfl rfl ?_
    refine x_if_eq (y := 0) (pc := 10) (tgt := 44) E dX7_court_10 (by decide) hf (fun hf => ?_) (fun hf => ?_)
    · obtain rfl := Option.some.inj hf
      obtain rfl := lpk_r h2
      exact x_sub [0, 1, 2] rfl hk
    · refine x_aload_n 0 (pc := 13) (i := 0) E dX7_court_13 rfl rfl ?_
      refine x_getI (pc := 14) (p := 9) E rfl (Nat.le_of_ble_eq_true rfl) rfl inlX7 (by decide) rfl wq_260 dX7_court_14 ?_
      refine x_aload_n 0 (pc := 17) (i := 0) E dX7_court_17 rfl rfl ?_
      refine x_getI (pc := 18) (p := 8) E rfl (Nat.le_of_ble_eq_true rfl) rfl inlX7 (by decide) rfl wq_201 dX7_court_18 ?_
      refine x_icmp_ge (pc := 21) (tgt := 44) E dX7_court_21 (by decide) hf (fun hf => ?_) (fun hf => ?_)
      · obtain rfl := Option.some.inj hf
        obtain rfl := lpk_r h2
        exact x_sub [0, 1, 2] rfl hk
      · refine x_aload_n 0 (pc := 24) (i := 0) E dX7_court_24 rfl rfl ?_
        refine x_callVwi (pc := 25) (na := 0) (As := []) E (c_X7_statement G σ) rfl (Nat.le_of_ble_eq_true rfl) rfl wq_264 wq_5 wq_261 wq_262 wq_263 rfl rfl (by decide) ⟨Nat.le_of_ble_eq_true rfl, Nat.le_of_ble_eq_true rfl⟩ rfl rfl (Nat.le_of_ble_eq_true rfl) dX7_court_25 hf (fun r2 σ3 hf => ?_)
        refine x_istore_n (pc := 28) (lv' := [(2, .int r2), (0, .ref (gad G 0)), (1, .int v1)]) E dX7_court_28 rfl (by decide) rfl ?_
        refine x_iload_n 2 (pc := 29) (i := 1) E dX7_court_29 rfl rfl ?_
        refine x_iload_n 0 (pc := 30) (i := 2) E dX7_court_30 rfl rfl ?_
        refine x_if_eq (y := 0) (pc := 31) (tgt := 38) E dX7_court_31 (by decide) hf (fun hf => ?_) (fun hf => ?_)
        · refine x_iconst (pc := 38) (v := (0 : Int32)) E dX7_court_38 rfl ?_
          refine x_iadd (pc := 39) E dX7_court_39 ?_
          refine x_istore_n (pc := 40) (lv' := [(1, .int (v1 + (0 : Int32))), (2, .int r2), (0, .ref (gad G 0))]) E dX7_court_40 rfl (by decide) rfl ?_
          refine x_goto (pc := 41) (tgt := 9) E dX7_court_41 (by decide) ?_
          obtain rfl := Option.some.inj hf
          exact x_sub [2, 0, 1] rfl (ih _ _ _ _ (lpk_l h2) hk)
        · refine x_iconst (pc := 34) (v := (1 : Int32)) E dX7_court_34 rfl ?_
          refine x_goto (pc := 35) (tgt := 39) E dX7_court_35 (by decide) ?_
          refine x_iadd (pc := 39) E dX7_court_39 ?_
          refine x_istore_n (pc := 40) (lv' := [(1, .int (v1 + (1 : Int32))), (2, .int r2), (0, .ref (gad G 0))]) E dX7_court_40 rfl (by decide) rfl ?_
          refine x_goto (pc := 41) (tgt := 9) E dX7_court_41 (by decide) ?_
          obtain rfl := Option.some.inj hf
          exact x_sub [2, 0, 1] rfl (ih _ _ _ _ (lpk_l h2) hk)
set_option maxHeartbeats 4000000 in
set_option maxRecDepth 100000 in
theorem c_X7_court (G : Gx) (σ : MM) (r : Int32) (σ' : MM) (hf : f_X7_court σ = some (r, σ')) : Ct shM 21 yX7_court cX7_court 3 (some .int) rm_X7_court G [.ref (gad G 0)] σ (some (.int r)) σ' := by
  refine ct_of (by decide) (Nat.le_of_ble_eq_true rfl) (fun K E hR => ?_)
  have E : OKc 21 cX7_court 3 RX7 G K := E
  show XJ shM 21 3 rm_X7_court G K σ [(0, .ref (gad G 0))] 0 []
  unfold f_X7_court at hf
  refine x_aload_n 0 (pc := 0) (i := 0) E dX7_court_0 rfl rfl ?_
  refine x_iconst (pc := 1) (v := (0 : Int32)) E dX7_court_1 rfl ?_
  refine x_put (pc := 2) (p := 9) E rfl (Nat.le_of_ble_eq_true rfl) rfl inlX7 tyX7_ok nmX7 (by decide) rfl rfl rfl rfl wq_260 dX7_court_2 hf (fun σ1 hf => ?_)
  refine x_iconst (pc := 5) (v := (0 : Int32)) E dX7_court_5 rfl ?_
  refine x_istore_n (pc := 6) (lv' := [(1, .int (0 : Int32)), (0, .ref (gad G 0))]) E dX7_court_6 rfl (by decide) rfl ?_
  refine x_iconst (pc := 7) (v := (1 : Int32)) E dX7_court_7 rfl ?_
  refine x_istore_n (pc := 8) (lv' := [(2, .int (1 : Int32)), (1, .int (0 : Int32)), (0, .ref (gad G 0))]) E dX7_court_8 rfl (by decide) rfl ?_
  obtain ⟨o4, hl5, hf⟩ := bind_some hf
  refine x_sub [2, 1, 0] rfl (l_X7_court_9 G    E FU _ _ _ o4 hl5 ?_)
  refine x_aload_n 0 (pc := 44) (i := 0) E dX7_court_44 rfl rfl ?_
  refine x_iconst (pc := 45) (v := (0 : Int32)) E dX7_court_45 rfl ?_
  refine x_put (pc := 46) (p := 8) E rfl (Nat.le_of_ble_eq_true rfl) rfl inlX7 tyX7_ok nmX7 (by decide) rfl rfl rfl rfl wq_201 dX7_court_46 hf (fun σ6 hf => ?_)
  refine x_iload_n 2 (pc := 49) (i := 2) E dX7_court_49 rfl rfl ?_
  refine x_if_eq (y := 0) (pc := 50) (tgt := 57) E dX7_court_50 (by decide) hf (fun hf => ?_) (fun hf => ?_)
  · refine x_bipush (pc := 57) (v := (-20 : Int32)) E dX7_court_57 rfl ?_
    refine x_aload_n 0 (pc := 59) (i := 0) E dX7_court_59 rfl rfl ?_
    refine x_getI (pc := 60) (p := 9) E rfl (Nat.le_of_ble_eq_true rfl) rfl inlX7 (by decide) rfl wq_260 dX7_court_60 ?_
    refine x_isub (pc := 63) E dX7_court_63 ?_
    obtain ⟨rfl, rfl⟩ := Prod.mk.inj (Option.some.inj hf)
    exact x_iret (pc := 64) E hR dX7_court_64
  · refine x_iload_n 1 (pc := 53) (i := 1) E dX7_court_53 rfl rfl ?_
    refine x_goto (pc := 54) (tgt := 64) E dX7_court_54 (by decide) ?_
    obtain ⟨rfl, rfl⟩ := Prod.mk.inj (Option.some.inj hf)
    exact x_iret (pc := 64) E hR dX7_court_64
set_option maxHeartbeats 4000000 in
set_option maxRecDepth 100000 in
theorem l_X7_holdsTrue_2 (G : Gx) {K : Kx}    (E : OKc 21 cX7_holdsTrue 2 RX7 G K) : ∀ (m : Nat) (v1 : Int32) (σ : MM) (out : MM), loopN (fun s => g_X7_holdsTrue_2 s.1 s.2) m (v1, σ) = some out → XJ shM 21 2 rm_X7_holdsTrue G K out [] 62 [] → XJ shM 21 2 rm_X7_holdsTrue G K σ [(0, .ref (gad G 0)), (1, .int v1)] 2 [] := by
  intro m
  induction m with
  | zero => intro v1 σ out hf; exact (loopN_0 hf).elim
  | succ m ih =>
    intro v1 σ out hf hk
    obtain ⟨q, hf, h2⟩ := loopN_s hf
    have hf : g_X7_holdsTrue_2 v1 σ = some q := hf
    unfold g_X7_holdsTrue_2 at hf
    refine x_iload_n 1 (pc := 2) (i := 1) E dX7_holdsTrue_2 rfl rfl ?_
    refine x_aload_n 0 (pc := 3) (i := 0) E dX7_holdsTrue_3 rfl rfl ?_
    refine x_getI (pc := 4) (p := 6) E rfl (Nat.le_of_ble_eq_true rfl) rfl inlX7 (by decide) rfl wq_164 dX7_holdsTrue_4 ?_
    refine x_icmp_ge (pc := 7) (tgt := 62) E dX7_holdsTrue_7 (by decide) hf (fun hf => ?_) (fun hf => ?_)
    · obtain rfl := Option.some.inj hf
      obtain rfl := lpk_r h2
      exact x_sub [] rfl hk
    · refine x_aload_n 0 (pc := 10) (i := 0) E dX7_holdsTrue_10 rfl rfl ?_
      refine x_getR (pc := 11) (r := 8) (p := 10) E rfl (Nat.le_of_ble_eq_true rfl) rfl inlX7 (by decide) rfl wq_105 dX7_holdsTrue_11 ?_
      refine x_iconst (pc := 14) (v := (2 : Int32)) E dX7_holdsTrue_14 rfl ?_
      refine x_iload_n 1 (pc := 15) (i := 1) E dX7_holdsTrue_15 rfl rfl ?_
      refine x_imul (pc := 16) E dX7_holdsTrue_16 ?_
      refine x_aload_n 0 (pc := 17) (i := 0) E dX7_holdsTrue_17 rfl rfl ?_
      refine x_getR (pc := 18) (r := 2) (p := 1) E rfl (Nat.le_of_ble_eq_true rfl) rfl inlX7 (by decide) rfl wq_99 dX7_holdsTrue_18 ?_
      refine x_iconst (pc := 21) (v := (2 : Int32)) E dX7_holdsTrue_21 rfl ?_
      refine x_aload_n 0 (pc := 22) (i := 0) E dX7_holdsTrue_22 rfl rfl ?_
      refine x_getR (pc := 23) (r := 3) (p := 2) E rfl (Nat.le_of_ble_eq_true rfl) rfl inlX7 (by decide) rfl wq_100 dX7_holdsTrue_23 ?_
      refine x_iload_n 1 (pc := 26) (i := 1) E dX7_holdsTrue_26 rfl rfl ?_
      refine x_iaload (pc := 27) E rfl (Nat.le_of_ble_eq_true rfl) dX7_holdsTrue_27 hf (fun hf => ?_)
      refine x_imul (pc := 28) E dX7_holdsTrue_28 ?_
      refine x_iaload (pc := 29) E rfl (Nat.le_of_ble_eq_true rfl) dX7_holdsTrue_29 hf (fun hf => ?_)
      refine x_iastore (pc := 30) E rfl (Nat.le_of_ble_eq_true rfl) dX7_holdsTrue_30 hf (fun σ1 hf => ?_)
      refine x_aload_n 0 (pc := 31) (i := 0) E dX7_holdsTrue_31 rfl rfl ?_
      refine x_getR (pc := 32) (r := 8) (p := 10) E rfl (Nat.le_of_ble_eq_true rfl) rfl inlX7 (by decide) rfl wq_105 dX7_holdsTrue_32 ?_
      refine x_iconst (pc := 35) (v := (2 : Int32)) E dX7_holdsTrue_35 rfl ?_
      refine x_iload_n 1 (pc := 36) (i := 1) E dX7_holdsTrue_36 rfl rfl ?_
      refine x_imul (pc := 37) E dX7_holdsTrue_37 ?_
      refine x_iconst (pc := 38) (v := (1 : Int32)) E dX7_holdsTrue_38 rfl ?_
      refine x_iadd (pc := 39) E dX7_holdsTrue_39 ?_
      refine x_aload_n 0 (pc := 40) (i := 0) E dX7_holdsTrue_40 rfl rfl ?_
      refine x_getR (pc := 41) (r := 2) (p := 1) E rfl (Nat.le_of_ble_eq_true rfl) rfl inlX7 (by decide) rfl wq_99 dX7_holdsTrue_41 ?_
      refine x_iconst (pc := 44) (v := (2 : Int32)) E dX7_holdsTrue_44 rfl ?_
      refine x_aload_n 0 (pc := 45) (i := 0) E dX7_holdsTrue_45 rfl rfl ?_
      refine x_getR (pc := 46) (r := 3) (p := 2) E rfl (Nat.le_of_ble_eq_true rfl) rfl inlX7 (by decide) rfl wq_100 dX7_holdsTrue_46 ?_
      refine x_iload_n 1 (pc := 49) (i := 1) E dX7_holdsTrue_49 rfl rfl ?_
      refine x_iaload (pc := 50) E rfl (Nat.le_of_ble_eq_true rfl) dX7_holdsTrue_50 hf (fun hf => ?_)
      refine x_imul (pc := 51) E dX7_holdsTrue_51 ?_
      refine x_iconst (pc := 52) (v := (1 : Int32)) E dX7_holdsTrue_52 rfl ?_
      refine x_iadd (pc := 53) E dX7_holdsTrue_53 ?_
      refine x_iaload (pc := 54) E rfl (Nat.le_of_ble_eq_true rfl) dX7_holdsTrue_54 hf (fun hf => ?_)
      refine x_iastore (pc := 55) E rfl (Nat.le_of_ble_eq_true rfl) dX7_holdsTrue_55 hf (fun σ2 hf => ?_)
      refine x_iinc 1 (pc := 56) (v := v1 + 1) (lv' := [(1, .int (v1 + 1)), (0, .ref (gad G 0))]) E dX7_holdsTrue_56 rfl rfl (by decide) rfl ?_
      refine x_goto (pc := 59) (tgt := 2) E dX7_holdsTrue_59 (by decide) ?_
      obtain rfl := Option.some.inj hf
      exact x_sub [1, 0] rfl (ih _ _ _ (lpk_l h2) hk)
set_option maxHeartbeats 4000000 in
set_option maxRecDepth 100000 in
theorem c_X7_holdsTrue (G : Gx) (σ : MM) (σ' : MM) (hf : f_X7_holdsTrue σ = some σ') : Ct shM 21 yX7_holdsTrue cX7_holdsTrue 2 none rm_X7_holdsTrue G [.ref (gad G 0)] σ none σ' := by
  refine ct_of (by decide) (Nat.le_of_ble_eq_true rfl) (fun K E hR => ?_)
  have E : OKc 21 cX7_holdsTrue 2 RX7 G K := E
  show XJ shM 21 2 rm_X7_holdsTrue G K σ [(0, .ref (gad G 0))] 0 []
  unfold f_X7_holdsTrue at hf
  refine x_iconst (pc := 0) (v := (0 : Int32)) E dX7_holdsTrue_0 rfl ?_
  refine x_istore_n (pc := 1) (lv' := [(1, .int (0 : Int32)), (0, .ref (gad G 0))]) E dX7_holdsTrue_1 rfl (by decide) rfl ?_
  obtain ⟨o3, hl4, hf⟩ := bind_some hf
  refine x_sub [1, 0] rfl (l_X7_holdsTrue_2 G    E FU _ _ o3 hl4 ?_)
  obtain rfl := Option.some.inj hf
  exact x_vret (pc := 62) E hR dX7_holdsTrue_62
set_option maxHeartbeats 4000000 in
set_option maxRecDepth 100000 in
theorem l_X7_findFor_2 (G : Gx) {K : Kx}   (v1 : Int32) (v2 : Int32) (E : OKc 21 cX7_findFor 7 RX7 G K) : ∀ (m : Nat) (v3 : Int32) (σ : MM) (out : MM), loopN (fun s => g_X7_findFor_2 v1 v2 s.1 s.2) m (v3, σ) = some out → XJ shM 21 7 rm_X7_findFor G K out [(0, .ref (gad G 0)), (1, .int v1), (2, .int v2)] 29 [] → XJ shM 21 7 rm_X7_findFor G K σ [(0, .ref (gad G 0)), (1, .int v1), (2, .int v2), (3, .int v3)] 2 [] := by
  intro m
  induction m with
  | zero => intro v3 σ out hf; exact (loopN_0 hf).elim
  | succ m ih =>
    intro v3 σ out hf hk
    obtain ⟨q, hf, h2⟩ := loopN_s hf
    have hf : g_X7_findFor_2 v1 v2 v3 σ = some q := hf
    unfold g_X7_findFor_2 at hf
    refine x_iload_n 3 (pc := 2) (i := 3) E dX7_findFor_2 rfl rfl ?_
    refine x_bipush (pc := 3) (v := (8 : Int32)) E dX7_findFor_3 rfl ?_
    refine x_icmp_ge (pc := 5) (tgt := 29) E dX7_findFor_5 (by decide) hf (fun hf => ?_) (fun hf => ?_)
    · obtain rfl := Option.some.inj hf
      obtain rfl := lpk_r h2
      exact x_sub [0, 1, 2] rfl hk
    · refine x_aload_n 0 (pc := 8) (i := 0) E dX7_findFor_8 rfl rfl ?_
      refine x_getR (pc := 9) (r := 9) (p := 11) E rfl (Nat.le_of_ble_eq_true rfl) rfl inlX7 (by decide) rfl wq_106 dX7_findFor_9 ?_
      refine x_iload_n 3 (pc := 12) (i := 3) E dX7_findFor_12 rfl rfl ?_
      refine x_iload_n 3 (pc := 13) (i := 3) E dX7_findFor_13 rfl rfl ?_
      refine x_if_ne (y := 0) (pc := 14) (tgt := 21) E dX7_findFor_14 (by decide) hf (fun hf => ?_) (fun hf => ?_)
      · refine x_lconst (pc := 21) (v := 0) E dX7_findFor_21 rfl ?_
        refine x_lastore (pc := 22) E rfl (Nat.le_of_ble_eq_true rfl) dX7_findFor_22 hf (fun σ1 hf => ?_)
        refine x_iinc 3 (pc := 23) (v := v3 + 1) (lv' := [(3, .int (v3 + 1)), (0, .ref (gad G 0)), (1, .int v1), (2, .int v2)]) E dX7_findFor_23 rfl rfl (by decide) rfl ?_
        refine x_goto (pc := 26) (tgt := 2) E dX7_findFor_26 (by decide) ?_
        obtain rfl := Option.some.inj hf
        exact x_sub [1, 2, 3, 0] rfl (ih _ _ _ (lpk_l h2) hk)
      · refine x_lconst (pc := 17) (v := 1) E dX7_findFor_17 rfl ?_
        refine x_goto (pc := 18) (tgt := 22) E dX7_findFor_18 (by decide) ?_
        refine x_lastore (pc := 22) E rfl (Nat.le_of_ble_eq_true rfl) dX7_findFor_22 hf (fun σ2 hf => ?_)
        refine x_iinc 3 (pc := 23) (v := v3 + 1) (lv' := [(3, .int (v3 + 1)), (0, .ref (gad G 0)), (1, .int v1), (2, .int v2)]) E dX7_findFor_23 rfl rfl (by decide) rfl ?_
        refine x_goto (pc := 26) (tgt := 2) E dX7_findFor_26 (by decide) ?_
        obtain rfl := Option.some.inj hf
        exact x_sub [1, 2, 3, 0] rfl (ih _ _ _ (lpk_l h2) hk)
set_option maxHeartbeats 4000000 in
set_option maxRecDepth 100000 in
theorem l_X7_findFor_74 (G : Gx) {K : Kx}   (v1 : Int32) (v2 : Int32) (v3 : Int32) (v4 : Int32) (v5 : Int32) (E : OKc 21 cX7_findFor 7 RX7 G K) : ∀ (m : Nat) (v6 : Int32) (σ : MM) (out : MM), loopN (fun s => g_X7_findFor_74 v1 v2 v3 v4 v5 s.1 s.2) m (v6, σ) = some out → XJ shM 21 7 rm_X7_findFor G K out [(0, .ref (gad G 0)), (1, .int v1), (2, .int v2), (3, .int v3), (4, .int v4)] 129 [] → XJ shM 21 7 rm_X7_findFor G K σ [(0, .ref (gad G 0)), (1, .int v1), (2, .int v2), (3, .int v3), (4, .int v4), (5, .int v5), (6, .int v6)] 74 [] := by
  intro m
  induction m with
  | zero => intro v6 σ out hf; exact (loopN_0 hf).elim
  | succ m ih =>
    intro v6 σ out hf hk
    obtain ⟨q, hf, h2⟩ := loopN_s hf
    have hf : g_X7_findFor_74 v1 v2 v3 v4 v5 v6 σ = some q := hf
    unfold g_X7_findFor_74 at hf
    refine x_iload 6 (pc := 74) E dX7_findFor_74 rfl ?_
    refine x_if_lt (y := 0) (pc := 76) (tgt := 129) E dX7_findFor_76 (by decide) hf (fun hf => ?_) (fun hf => ?_)
    · obtain rfl := Option.some.inj hf
      obtain rfl := lpk_r h2
      exact x_sub [0, 1, 2, 3, 4] rfl hk
    · refine x_aload_n 0 (pc := 79) (i := 0) E dX7_findFor_79 rfl rfl ?_
      refine x_getR (pc := 80) (r := 9) (p := 11) E rfl (Nat.le_of_ble_eq_true rfl) rfl inlX7 (by decide) rfl wq_106 dX7_findFor_80 ?_
      refine x_iload 6 (pc := 83) E dX7_findFor_83 rfl ?_
      refine x_aload_n 0 (pc := 85) (i := 0) E dX7_findFor_85 rfl rfl ?_
      refine x_getR (pc := 86) (r := 9) (p := 11) E rfl (Nat.le_of_ble_eq_true rfl) rfl inlX7 (by decide) rfl wq_106 dX7_findFor_86 ?_
      refine x_iload 6 (pc := 89) E dX7_findFor_89 rfl ?_
      refine x_laload (pc := 91) E rfl (Nat.le_of_ble_eq_true rfl) dX7_findFor_91 hf (fun hf => ?_)
      refine x_bipush (pc := 92) (v := (100 : Int32)) E dX7_findFor_92 rfl ?_
      refine x_iload 5 (pc := 94) E dX7_findFor_94 rfl ?_
      refine x_isub (pc := 96) E dX7_findFor_96 ?_
      refine x_i2l (pc := 97) E dX7_findFor_97 ?_
      refine x_lmul (pc := 98) E dX7_findFor_98 ?_
      refine x_iload 6 (pc := 99) E dX7_findFor_99 rfl ?_
      refine x_if_le (y := 0) (pc := 101) (tgt := 120) E dX7_findFor_101 (by decide) hf (fun hf => ?_) (fun hf => ?_)
      · refine x_lconst (pc := 120) (v := 0) E dX7_findFor_120 rfl ?_
        refine x_ladd (pc := 121) E dX7_findFor_121 ?_
        refine x_lastore (pc := 122) E rfl (Nat.le_of_ble_eq_true rfl) dX7_findFor_122 hf (fun σ5 hf => ?_)
        refine x_iinc 6 (pc := 123) (v := v6 + (-1)) (lv' := [(6, .int (v6 + (-1))), (0, .ref (gad G 0)), (1, .int v1), (2, .int v2), (3, .int v3), (4, .int v4), (5, .int v5)]) E dX7_findFor_123 rfl rfl (by decide) rfl ?_
        refine x_goto (pc := 126) (tgt := 74) E dX7_findFor_126 (by decide) ?_
        obtain rfl := Option.some.inj hf
        exact x_sub [1, 2, 3, 4, 5, 6, 0] rfl (ih _ _ _ (lpk_l h2) hk)
      · refine x_aload_n 0 (pc := 104) (i := 0) E dX7_findFor_104 rfl rfl ?_
        refine x_getR (pc := 105) (r := 9) (p := 11) E rfl (Nat.le_of_ble_eq_true rfl) rfl inlX7 (by decide) rfl wq_106 dX7_findFor_105 ?_
        refine x_iload 6 (pc := 108) E dX7_findFor_108 rfl ?_
        refine x_iconst (pc := 110) (v := (1 : Int32)) E dX7_findFor_110 rfl ?_
        refine x_isub (pc := 111) E dX7_findFor_111 ?_
        refine x_laload (pc := 112) E rfl (Nat.le_of_ble_eq_true rfl) dX7_findFor_112 hf (fun hf => ?_)
        refine x_iload 5 (pc := 113) E dX7_findFor_113 rfl ?_
        refine x_i2l (pc := 115) E dX7_findFor_115 ?_
        refine x_lmul (pc := 116) E dX7_findFor_116 ?_
        refine x_goto (pc := 117) (tgt := 121) E dX7_findFor_117 (by decide) ?_
        refine x_ladd (pc := 121) E dX7_findFor_121 ?_
        refine x_lastore (pc := 122) E rfl (Nat.le_of_ble_eq_true rfl) dX7_findFor_122 hf (fun σ6 hf => ?_)
        refine x_iinc 6 (pc := 123) (v := v6 + (-1)) (lv' := [(6, .int (v6 + (-1))), (0, .ref (gad G 0)), (1, .int v1), (2, .int v2), (3, .int v3), (4, .int v4), (5, .int v5)]) E dX7_findFor_123 rfl rfl (by decide) rfl ?_
        refine x_goto (pc := 126) (tgt := 74) E dX7_findFor_126 (by decide) ?_
        obtain rfl := Option.some.inj hf
        exact x_sub [1, 2, 3, 4, 5, 6, 0] rfl (ih _ _ _ (lpk_l h2) hk)
set_option maxHeartbeats 4000000 in
set_option maxRecDepth 100000 in
theorem l_X7_findFor_34 (G : Gx) {K : Kx}   (v1 : Int32) (v2 : Int32) (E : OKc 21 cX7_findFor 7 RX7 G K) : ∀ (m : Nat) (v3 : Int32) (v4 : Int32) (σ : MM) (out : MM), loopN (fun s => g_X7_findFor_34 v1 v2 s.1 s.2.1 s.2.2) m (v3, v4, σ) = some out → XJ shM 21 7 rm_X7_findFor G K out [] 135 [] → XJ shM 21 7 rm_X7_findFor G K σ [(0, .ref (gad G 0)), (1, .int v1), (2, .int v2), (3, .int v3), (4, .int v4)] 34 [] := by
  intro m
  induction m with
  | zero => intro v3 v4 σ out hf; exact (loopN_0 hf).elim
  | succ m ih =>
    intro v3 v4 σ out hf hk
    obtain ⟨q, hf, h2⟩ := loopN_s hf
    have hf : g_X7_findFor_34 v1 v2 v3 v4 σ = some q := hf
    unfold g_X7_findFor_34 at hf
    refine x_iload 4 (pc := 34) E dX7_findFor_34 rfl ?_
    refine x_aload_n 0 (pc := 36) (i := 0) E dX7_findFor_36 rfl rfl ?_
    refine x_getI (pc := 37) (p := 6) E rfl (Nat.le_of_ble_eq_true rfl) rfl inlX7 (by decide) rfl wq_164 dX7_findFor_37 ?_
    refine x_icmp_ge (pc := 40) (tgt := 135) E dX7_findFor_40 (by decide) hf (fun hf => ?_) (fun hf => ?_)
    · obtain rfl := Option.some.inj hf
      obtain rfl := lpk_r h2
      exact x_sub [] rfl hk
    · refine x_iload_n 1 (pc := 43) (i := 1) E dX7_findFor_43 rfl rfl ?_
      refine x_iload 4 (pc := 44) E dX7_findFor_44 rfl ?_
      refine x_ishr (pc := 46) E dX7_findFor_46 ?_
      refine x_iconst (pc := 47) (v := (1 : Int32)) E dX7_findFor_47 rfl ?_
      refine x_iand (pc := 48) E dX7_findFor_48 ?_
      refine x_if_ne (y := 0) (pc := 49) (tgt := 55) E dX7_findFor_49 (by decide) hf (fun hf => ?_) (fun hf => ?_)
      · refine x_aload_n 0 (pc := 55) (i := 0) E dX7_findFor_55 rfl rfl ?_
        refine x_getR (pc := 56) (r := 8) (p := 10) E rfl (Nat.le_of_ble_eq_true rfl) rfl inlX7 (by decide) rfl wq_105 dX7_findFor_56 ?_
        refine x_iconst (pc := 59) (v := (2 : Int32)) E dX7_findFor_59 rfl ?_
        refine x_iload 4 (pc := 60) E dX7_findFor_60 rfl ?_
        refine x_imul (pc := 62) E dX7_findFor_62 ?_
        refine x_iload_n 2 (pc := 63) (i := 2) E dX7_findFor_63 rfl rfl ?_
        refine x_iadd (pc := 64) E dX7_findFor_64 ?_
        refine x_iaload (pc := 65) E rfl (Nat.le_of_ble_eq_true rfl) dX7_findFor_65 hf (fun hf => ?_)
        refine x_istore (pc := 66) (lv' := [(5, .int (σ.1 8 (((2 : Int32) * v4) + v2).toNatClampNeg)), (0, .ref (gad G 0)), (1, .int v1), (2, .int v2), (3, .int v3), (4, .int v4)]) E dX7_findFor_66 (by decide) rfl ?_
        refine x_iinc 4 (pc := 68) (v := v3 + 1) (lv' := [(3, .int (v3 + 1)), (5, .int (σ.1 8 (((2 : Int32) * v4) + v2).toNatClampNeg)), (0, .ref (gad G 0)), (1, .int v1), (2, .int v2), (4, .int v4)]) E dX7_findFor_68 rfl rfl (by decide) rfl ?_
        refine x_iload_n 0 (pc := 71) (i := 3) E dX7_findFor_71 rfl rfl ?_
        refine x_istore (pc := 72) (lv' := [(6, .int (v3 + 1)), (3, .int (v3 + 1)), (5, .int (σ.1 8 (((2 : Int32) * v4) + v2).toNatClampNeg)), (0, .ref (gad G 0)), (1, .int v1), (2, .int v2), (4, .int v4)]) E dX7_findFor_72 (by decide) rfl ?_
        obtain ⟨o7, hl8, hf⟩ := bind_some hf
        refine x_sub [3, 4, 5, 1, 6, 2, 0] rfl (l_X7_findFor_74 G   v1 v2 (v3 + 1) v4 (σ.1 8 (((2 : Int32) * v4) + v2).toNatClampNeg) E FU _ _ o7 hl8 ?_)
        refine x_iinc 4 (pc := 129) (v := v4 + 1) (lv' := [(4, .int (v4 + 1)), (0, .ref (gad G 0)), (1, .int v1), (2, .int v2), (3, .int (v3 + 1))]) E dX7_findFor_129 rfl rfl (by decide) rfl ?_
        refine x_goto (pc := 132) (tgt := 34) E dX7_findFor_132 (by decide) ?_
        obtain rfl := Option.some.inj hf
        exact x_sub [1, 2, 3, 4, 0] rfl (ih _ _ _ _ (lpk_l h2) hk)
      · refine x_goto (pc := 52) (tgt := 129) E dX7_findFor_52 (by decide) ?_
        refine x_iinc 4 (pc := 129) (v := v4 + 1) (lv' := [(4, .int (v4 + 1)), (0, .ref (gad G 0)), (1, .int v1), (2, .int v2), (3, .int v3)]) E dX7_findFor_129 rfl rfl (by decide) rfl ?_
        refine x_goto (pc := 132) (tgt := 34) E dX7_findFor_132 (by decide) ?_
        obtain rfl := Option.some.inj hf
        exact x_sub [1, 2, 3, 4, 0] rfl (ih _ _ _ _ (lpk_l h2) hk)
set_option maxHeartbeats 4000000 in
set_option maxRecDepth 100000 in
theorem c_X7_findFor (G : Gx) (v1 : Int32) (v2 : Int32) (σ : MM) (σ' : MM) (hf : f_X7_findFor v1 v2 σ = some σ') : Ct shM 21 yX7_findFor cX7_findFor 7 none rm_X7_findFor G [.ref (gad G 0), .int v1, .int v2] σ none σ' := by
  refine ct_of (by decide) (Nat.le_of_ble_eq_true rfl) (fun K E hR => ?_)
  have E : OKc 21 cX7_findFor 7 RX7 G K := E
  show XJ shM 21 7 rm_X7_findFor G K σ [(0, .ref (gad G 0)), (1, .int v1), (2, .int v2)] 0 []
  unfold f_X7_findFor at hf
  refine x_iconst (pc := 0) (v := (0 : Int32)) E dX7_findFor_0 rfl ?_
  refine x_istore_n (pc := 1) (lv' := [(3, .int (0 : Int32)), (0, .ref (gad G 0)), (1, .int v1), (2, .int v2)]) E dX7_findFor_1 rfl (by decide) rfl ?_
  obtain ⟨o3, hl4, hf⟩ := bind_some hf
  refine x_sub [1, 2, 3, 0] rfl (l_X7_findFor_2 G   v1 v2 E FU _ _ o3 hl4 ?_)
  refine x_iconst (pc := 29) (v := (0 : Int32)) E dX7_findFor_29 rfl ?_
  refine x_istore_n (pc := 30) (lv' := [(3, .int (0 : Int32)), (0, .ref (gad G 0)), (1, .int v1), (2, .int v2)]) E dX7_findFor_30 rfl (by decide) rfl ?_
  refine x_iconst (pc := 31) (v := (0 : Int32)) E dX7_findFor_31 rfl ?_
  refine x_istore (pc := 32) (lv' := [(4, .int (0 : Int32)), (3, .int (0 : Int32)), (0, .ref (gad G 0)), (1, .int v1), (2, .int v2)]) E dX7_findFor_32 (by decide) rfl ?_
  obtain ⟨o9, hl10, hf⟩ := bind_some hf
  refine x_sub [2, 3, 4, 1, 0] rfl (l_X7_findFor_34 G   v1 v2 E FU _ _ _ o9 hl10 ?_)
  obtain rfl := Option.some.inj hf
  exact x_vret (pc := 135) E hR dX7_findFor_135
