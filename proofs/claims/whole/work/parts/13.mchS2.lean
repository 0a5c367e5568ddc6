set_option maxHeartbeats 4000000 in
set_option maxRecDepth 100000 in
theorem l_X2_spreadSum_5 (G : Gx) {K : Kx} (b : Nat) (h_b : isMd b) (v2 : Int32) (σ : MM) (E : OKc 56 cX2_spreadSum 6 RX2 G K) : ∀ (m : Nat) (v3 : Int64) (v5 : Int32) (out : Int64), loopN (fun s => g_X2_spreadSum_5 b v2 s.1 s.2 σ) m (v3, v5) = some out → XJ shS 56 6 rm_X2_spreadSum G K σ [(3, .long out)] 27 [] → XJ shS 56 6 rm_X2_spreadSum G K σ [(0, .ref (gad G b)), (2, .int v2), (3, .long v3), (5, .int v5)] 5 [] := by
  obtain ⟨hs_b_0, hs_b_1, hs_b_2, hs_b_3, hs_b_4⟩ := sh_isMd h_b
  obtain ⟨hk_b_0, hk_b_1, hk_b_2, hk_b_3, hk_b_4⟩ := lt_isMd h_b
  intro m
  induction m with
  | zero => intro v3 v5 out hf; exact (loopN_0 hf).elim
  | succ m ih =>
    intro v3 v5 out hf hk
    obtain ⟨q, hf, h2⟩ := loopN_s hf
    have hf : g_X2_spreadSum_5 b v2 v3 v5 σ = some q := hf
    unfold g_X2_spreadSum_5 at hf
    refine x_iload 3 (pc := 5) E dX2_spreadSum_5 rfl ?_
    refine x_iload_n 1 (pc := 7) (i := 2) E dX2_spreadSum_7 rfl rfl ?_
    refine x_icmp_gt (pc := 8) (tgt := 27) E dX2_spreadSum_8 (by decide) hf (fun hf => ?_) (fun hf => ?_)
    · obtain rfl := Option.some.inj hf
      obtain rfl := lpk_r h2
      exact x_sub [2] rfl hk
    · refine x_lload_n 2 (pc := 11) (i := 3) E dX2_spreadSum_11 rfl rfl ?_
      refine x_aload_n 0 (pc := 12) (i := 0) E dX2_spreadSum_12 rfl rfl ?_
      refine x_getR (pc := 13) (r := (b + 3)) (p := 2) E hs_b_0 hk_b_0 rfl inlX2 (by decide) rfl wq_62 dX2_spreadSum_13 ?_
      refine x_iload 3 (pc := 16) E dX2_spreadSum_16 rfl ?_
      refine x_laload (pc := 18) E hs_b_3 hk_b_3 dX2_spreadSum_18 hf (fun hf => ?_)
      refine x_ladd (pc := 19) E dX2_spreadSum_19 ?_
      refine x_lstore_n (pc := 20) (lv' := [(3, .long (v3 + (σ.2 (b + 3) v5.toNatClampNeg))), (0, .ref (gad G b)), (2, .int v2), (5, .int v5)]) E dX2_spreadSum_20 rfl (by decide) rfl ?_
      refine x_iinc 3 (pc := 21) (v := v5 + 1) (lv' := [(5, .int (v5 + 1)), (3, .long (v3 + (σ.2 (b + 3) v5.toNatClampNeg))), (0, .ref (gad G b)), (2, .int v2)]) E dX2_spreadSum_21 rfl rfl (by decide) rfl ?_
      refine x_goto (pc := 24) (tgt := 5) E dX2_spreadSum_24 (by decide) ?_
      obtain rfl := Option.some.inj hf
      exact x_sub [2, 3, 1, 0] rfl (ih _ _ _ (lpk_l h2) hk)
set_option maxHeartbeats 4000000 in
set_option maxRecDepth 100000 in
theorem c_X2_spreadSum (G : Gx) (b : Nat) (h_b : isMd b) (v1 : Int32) (v2 : Int32) (σ : MM) (r : Int64) (hf : f_X2_spreadSum b v1 v2 σ = some r) : Ct shS 56 yX2_spreadSum cX2_spreadSum 6 (some .long) rm_X2_spreadSum G [.ref (gad G b), .int v1, .int v2] σ (some (.long r)) σ := by
  obtain ⟨hs_b_0, hs_b_1, hs_b_2, hs_b_3, hs_b_4⟩ := sh_isMd h_b
  obtain ⟨hk_b_0, hk_b_1, hk_b_2, hk_b_3, hk_b_4⟩ := lt_isMd h_b
  refine ct_of (by decide) (Nat.le_of_ble_eq_true rfl) (fun K E hR => ?_)
  have E : OKc 56 cX2_spreadSum 6 RX2 G K := E
  show XJ shS 56 6 rm_X2_spreadSum G K σ [(0, .ref (gad G b)), (1, .int v1), (2, .int v2)] 0 []
  unfold f_X2_spreadSum at hf
  refine x_lconst (pc := 0) (v := 0) E dX2_spreadSum_0 rfl ?_
  refine x_lstore_n (pc := 1) (lv' := [(3, .long (0 : Int64)), (0, .ref (gad G b)), (1, .int v1), (2, .int v2)]) E dX2_spreadSum_1 rfl (by decide) rfl ?_
  refine x_iload_n 2 (pc := 2) (i := 1) E dX2_spreadSum_2 rfl rfl ?_
  refine x_istore (pc := 3) (lv' := [(5, .int v1), (3, .long (0 : Int64)), (0, .ref (gad G b)), (1, .int v1), (2, .int v2)]) E dX2_spreadSum_3 (by decide) rfl ?_
  obtain ⟨o1, hl2, hf⟩ := bind_some hf
  refine x_sub [2, 4, 1, 0] rfl (l_X2_spreadSum_5 G b h_b v2 σ E FU _ _ o1 hl2 ?_)
  refine x_lload_n 0 (pc := 27) (i := 3) E dX2_spreadSum_27 rfl rfl ?_
  obtain rfl := Option.some.inj hf
  exact x_lret (pc := 28) E hR dX2_spreadSum_28
set_option maxHeartbeats 4000000 in
set_option maxRecDepth 100000 in
theorem c_X2_findsForA (G : Gx) (b : Nat) (h_b : isMd b) (σ : MM) (r : Int64) (hf : f_X2_findsForA b σ = some r) : Ct shS 56 yX2_findsForA cX2_findsForA 1 (some .long) rm_X2_findsForA G [.ref (gad G b)] σ (some (.long r)) σ := by
  obtain ⟨hs_b_0, hs_b_1, hs_b_2, hs_b_3, hs_b_4⟩ := sh_isMd h_b
  obtain ⟨hk_b_0, hk_b_1, hk_b_2, hk_b_3, hk_b_4⟩ := lt_isMd h_b
  refine ct_of (by decide) (Nat.le_of_ble_eq_true rfl) (fun K E hR => ?_)
  have E : OKc 56 cX2_findsForA 1 RX2 G K := E
  show XJ shS 56 1 rm_X2_findsForA G K σ [(0, .ref (gad G b))] 0 []
  unfold f_X2_findsForA at hf
  refine x_aload_n 0 (pc := 0) (i := 0) E dX2_findsForA_0 rfl rfl ?_
  refine x_getI (pc := 1) (p := 5) E hs_b_0 hk_b_0 rfl inlX2 (by decide) rfl wq_89 dX2_findsForA_1 ?_
  refine x_if_eq (y := 0) (pc := 4) (tgt := 19) E dX2_findsForA_4 (by decide) hf (fun hf => ?_) (fun hf => ?_)
  · refine x_aload_n 0 (pc := 19) (i := 0) E dX2_findsForA_19 rfl rfl ?_
    refine x_aload_n 0 (pc := 20) (i := 0) E dX2_findsForA_20 rfl rfl ?_
    refine x_getI (pc := 21) (p := 4) E hs_b_0 hk_b_0 rfl inlX2 (by decide) rfl wq_88 dX2_findsForA_21 ?_
    refine x_iconst (pc := 24) (v := (2 : Int32)) E dX2_findsForA_24 rfl ?_
    refine x_idiv (pc := 25) E dX2_findsForA_25 hf (fun hf => ?_)
    refine x_iconst (pc := 26) (v := (1 : Int32)) E dX2_findsForA_26 rfl ?_
    refine x_iadd (pc := 27) E dX2_findsForA_27 ?_
    refine x_aload_n 0 (pc := 28) (i := 0) E dX2_findsForA_28 rfl rfl ?_
    refine x_getI (pc := 29) (p := 4) E hs_b_0 hk_b_0 rfl inlX2 (by decide) rfl wq_88 dX2_findsForA_29 ?_
    refine x_callVrl (pc := 32) (na := 2) (As := [.int (((σ.1 b 4) / (2 : Int32)) + (1 : Int32)), .int (σ.1 b 4)]) E (c_X2_spreadSum G b h_b (((σ.1 b 4) / (2 : Int32)) + (1 : Int32)) (σ.1 b 4) σ) hs_b_0 hk_b_0 rfl wq_333 wq_28 wq_330 wq_331 wq_332 rfl rfl (by decide) ⟨Nat.le_of_ble_eq_true rfl, Nat.le_of_ble_eq_true rfl⟩ rfl rfl (Nat.le_of_ble_eq_true rfl) dX2_findsForA_32 hf (fun r1 hf => ?_)
    obtain rfl := Option.some.inj hf
    exact x_lret (pc := 35) E hR dX2_findsForA_35
  · refine x_aload_n 0 (pc := 7) (i := 0) E dX2_findsForA_7 rfl rfl ?_
    refine x_getR (pc := 8) (r := (b + 3)) (p := 2) E hs_b_0 hk_b_0 rfl inlX2 (by decide) rfl wq_62 dX2_findsForA_8 ?_
    refine x_aload_n 0 (pc := 11) (i := 0) E dX2_findsForA_11 rfl rfl ?_
    refine x_getI (pc := 12) (p := 4) E hs_b_0 hk_b_0 rfl inlX2 (by decide) rfl wq_88 dX2_findsForA_12 ?_
    refine x_laload (pc := 15) E hs_b_3 hk_b_3 dX2_findsForA_15 hf (fun hf => ?_)
    refine x_goto (pc := 16) (tgt := 35) E dX2_findsForA_16 (by decide) ?_
    obtain rfl := Option.some.inj hf
    exact x_lret (pc := 35) E hR dX2_findsForA_35
set_option maxHeartbeats 4000000 in
set_option maxRecDepth 100000 in
theorem c_X2_chanceOf (G : Gx) (b : Nat) (h_b : isMd b) (v1 : Int32) (σ : MM) (r : Int64) (σ' : MM) (hf : f_X2_chanceOf b v1 σ = some (r, σ')) : Ct shS 56 yX2_chanceOf cX2_chanceOf 4 (some .long) rm_X2_chanceOf G [.ref (gad G b), .int v1] σ (some (.long r)) σ' := by
  obtain ⟨hs_b_0, hs_b_1, hs_b_2, hs_b_3, hs_b_4⟩ := sh_isMd h_b
  obtain ⟨hk_b_0, hk_b_1, hk_b_2, hk_b_3, hk_b_4⟩ := lt_isMd h_b
  refine ct_of (by decide) (Nat.le_of_ble_eq_true rfl) (fun K E hR => ?_)
  have E : OKc 56 cX2_chanceOf 4 RX2 G K := E
  show XJ shS 56 4 rm_X2_chanceOf G K σ [(0, .ref (gad G b)), (1, .int v1)] 0 []
  unfold f_X2_chanceOf at hf
  refine x_aload_n 0 (pc := 0) (i := 0) E dX2_chanceOf_0 rfl rfl ?_
  refine x_aload_n 0 (pc := 1) (i := 0) E dX2_chanceOf_1 rfl rfl ?_
  refine x_getR (pc := 2) (r := (b + 1)) (p := 0) E hs_b_0 hk_b_0 rfl inlX2 (by decide) rfl wq_60 dX2_chanceOf_2 ?_
  refine x_iload_n 1 (pc := 5) (i := 1) E dX2_chanceOf_5 rfl rfl ?_
  refine x_callVwv (pc := 6) (na := 2) (As := [.ref (gad G (b + 1)), .int v1]) E (c_X2_spreadOut G b (b + 1) h_b hs_b_1 hk_b_1 v1 σ) hs_b_0 hk_b_0 rfl wq_324 wq_28 wq_321 wq_322 wq_323 rfl rfl (by decide) ⟨Nat.le_of_ble_eq_true rfl, Nat.le_of_ble_eq_true rfl⟩ rfl rfl (Nat.le_of_ble_eq_true rfl) dX2_chanceOf_6 hf (fun σ2 hf => ?_)
  refine x_aload_n 0 (pc := 9) (i := 0) E dX2_chanceOf_9 rfl rfl ?_
  refine x_callVrl (pc := 10) (na := 0) (As := []) E (c_X2_findsForA G b h_b σ2) hs_b_0 hk_b_0 rfl wq_329 wq_28 wq_326 wq_327 wq_328 rfl rfl (by decide) ⟨Nat.le_of_ble_eq_true rfl, Nat.le_of_ble_eq_true rfl⟩ rfl rfl (Nat.le_of_ble_eq_true rfl) dX2_chanceOf_10 hf (fun r3 hf => ?_)
  refine x_lstore_n (pc := 13) (lv' := [(2, .long r3), (0, .ref (gad G b)), (1, .int v1)]) E dX2_chanceOf_13 rfl (by decide) rfl ?_
  refine x_aload_n 1 (pc := 14) (i := 0) E dX2_chanceOf_14 rfl rfl ?_
  refine x_aload_n 1 (pc := 15) (i := 0) E dX2_chanceOf_15 rfl rfl ?_
  refine x_getR (pc := 16) (r := (b + 2)) (p := 1) E hs_b_0 hk_b_0 rfl inlX2 (by decide) rfl wq_61 dX2_chanceOf_16 ?_
  refine x_iload_n 2 (pc := 19) (i := 1) E dX2_chanceOf_19 rfl rfl ?_
  refine x_callVwv (pc := 20) (na := 2) (As := [.ref (gad G (b + 2)), .int v1]) E (c_X2_spreadOut G b (b + 2) h_b hs_b_2 hk_b_2 v1 σ2) hs_b_0 hk_b_0 rfl wq_324 wq_28 wq_321 wq_322 wq_323 rfl rfl (by decide) ⟨Nat.le_of_ble_eq_true rfl, Nat.le_of_ble_eq_true rfl⟩ rfl rfl (Nat.le_of_ble_eq_true rfl) dX2_chanceOf_20 hf (fun σ5 hf => ?_)
  refine x_aload_n 1 (pc := 23) (i := 0) E dX2_chanceOf_23 rfl rfl ?_
  refine x_getI (pc := 24) (p := 6) E hs_b_0 hk_b_0 rfl inlX2 (by decide) rfl wq_90 dX2_chanceOf_24 ?_
  refine x_i2l (pc := 27) E dX2_chanceOf_27 ?_
  refine x_lload_n 0 (pc := 28) (i := 2) E dX2_chanceOf_28 rfl rfl ?_
  refine x_lmul (pc := 29) E dX2_chanceOf_29 ?_
  refine x_bipush (pc := 30) (v := (100 : Int32)) E dX2_chanceOf_30 rfl ?_
  refine x_aload_n 1 (pc := 32) (i := 0) E dX2_chanceOf_32 rfl rfl ?_
  refine x_getI (pc := 33) (p := 6) E hs_b_0 hk_b_0 rfl inlX2 (by decide) rfl wq_90 dX2_chanceOf_33 ?_
  refine x_isub (pc := 36) E dX2_chanceOf_36 ?_
  refine x_i2l (pc := 37) E dX2_chanceOf_37 ?_
  refine x_aload_n 1 (pc := 38) (i := 0) E dX2_chanceOf_38 rfl rfl ?_
  refine x_callVrl (pc := 39) (na := 0) (As := []) E (c_X2_findsForA G b h_b σ5) hs_b_0 hk_b_0 rfl wq_329 wq_28 wq_326 wq_327 wq_328 rfl rfl (by decide) ⟨Nat.le_of_ble_eq_true rfl, Nat.le_of_ble_eq_true rfl⟩ rfl rfl (Nat.le_of_ble_eq_true rfl) dX2_chanceOf_39 hf (fun r6 hf => ?_)
  refine x_lmul (pc := 42) E dX2_chanceOf_42 ?_
  refine x_ladd (pc := 43) E dX2_chanceOf_43 ?_
  obtain ⟨rfl, rfl⟩ := Prod.mk.inj (Option.some.inj hf)
  exact x_lret (pc := 44) E hR dX2_chanceOf_44
set_option maxHeartbeats 4000000 in
set_option maxRecDepth 100000 in
theorem c_X6_chance (G : Gx) (v1 : Int32) (σ : MM) (r : Int64) (σ' : MM) (hf : f_X6_chance v1 σ = some (r, σ')) : Ct shS 56 yX6_chance cX6_chance 3 (some .long) rm_X6_chance G [.ref (gad G 0), .int v1] σ (some (.long r)) σ' := by
  refine ct_of (by decide) (Nat.le_of_ble_eq_true rfl) (fun K E hR => ?_)
  have E : OKc 56 cX6_chance 3 RX6 G K := E
  show XJ shS 56 3 rm_X6_chance G K σ [(0, .ref (gad G 0)), (1, .int v1)] 0 []
  unfold f_X6_chance at hf
  refine x_aload_n 0 (pc := 0) (i := 0) E dX6_chance_0 rfl rfl ?_
  refine x_iload_n 1 (pc := 1) (i := 1) E dX6_chance_1 rfl rfl ?_
  refine x_callVri (pc := 2) (na := 1) (As := [.int v1]) E (c_X6_juryRefusal G v1 σ) rfl (Nat.le_of_ble_eq_true rfl) rfl wq_300 wq_2 wq_297 wq_298 wq_299 rfl rfl (by decide) ⟨Nat.le_of_ble_eq_true rfl, Nat.le_of_ble_eq_true rfl⟩ rfl rfl (Nat.le_of_ble_eq_true rfl) dX6_chance_2 hf (fun r1 hf => ?_)
  refine x_istore_n (pc := 5) (lv' := [(2, .int r1), (0, .ref (gad G 0)), (1, .int v1)]) E dX6_chance_5 rfl (by decide) rfl ?_
  refine x_iload_n 0 (pc := 6) (i := 2) E dX6_chance_6 rfl rfl ?_
  refine x_if_eq (y := 0) (pc := 7) (tgt := 18) E dX6_chance_7 (by decide) hf (fun hf => ?_) (fun hf => ?_)
  · refine x_aload_n 1 (pc := 18) (i := 0) E dX6_chance_18 rfl rfl ?_
    refine x_getR (pc := 19) (r := 16) (p := 7) E rfl (Nat.le_of_ble_eq_true rfl) rfl inlX6 (by decide) rfl wq_29 dX6_chance_19 ?_
    refine x_iload_n 2 (pc := 22) (i := 1) E dX6_chance_22 rfl rfl ?_
    refine x_callVNwl (pc := 23) (na := 1) (As := [.int v1]) E (c_X2_chanceOf G 16 (Or.inl rfl) v1 σ) rfl (Nat.le_of_ble_eq_true rfl) rfl wq_320 wq_28 wn_33 wq_318 wq_319 rfl rfl (by decide) ⟨Nat.le_of_ble_eq_true rfl, Nat.le_of_ble_eq_true rfl⟩ rfl rfl (Nat.le_of_ble_eq_true rfl) dX6_chance_23 hf (fun r2 σ3 hf => ?_)
    obtain ⟨rfl, rfl⟩ := Prod.mk.inj (Option.some.inj hf)
    exact x_lret (pc := 26) E hR dX6_chance_26
  · refine x_aload_n 1 (pc := 10) (i := 0) E dX6_chance_10 rfl rfl ?_
    refine x_iload_n 0 (pc := 11) (i := 2) E dX6_chance_11 rfl rfl ?_
    refine x_callVwl (pc := 12) (na := 1) (As := [.int r1]) E (c_X6_refuseLong G r1 σ) rfl (Nat.le_of_ble_eq_true rfl) rfl wq_316 wq_2 wq_313 wq_314 wq_315 rfl rfl (by decide) ⟨Nat.le_of_ble_eq_true rfl, Nat.le_of_ble_eq_true rfl⟩ rfl rfl (Nat.le_of_ble_eq_true rfl) dX6_chance_12 hf (fun r4 σ5 hf => ?_)
    refine x_goto (pc := 15) (tgt := 26) E dX6_chance_15 (by decide) ?_
    obtain ⟨rfl, rfl⟩ := Prod.mk.inj (Option.some.inj hf)
    exact x_lret (pc := 26) E hR dX6_chance_26
set_option maxHeartbeats 4000000 in
set_option maxRecDepth 100000 in
theorem c_X2_findsForB (G : Gx) (σ : MM) (r : Int64) (hf : f_X2_findsForB σ = some r) : Ct shS 56 yX2_findsForB cX2_findsForB 1 (some .long) rm_X2_findsForB G [.ref (gad G 16)] σ (some (.long r)) σ := by
  refine ct_of (by decide) (Nat.le_of_ble_eq_true rfl) (fun K E hR => ?_)
  have E : OKc 56 cX2_findsForB 1 RX2 G K := E
  show XJ shS 56 1 rm_X2_findsForB G K σ [(0, .ref (gad G 16))] 0 []
  unfold f_X2_findsForB at hf
  refine x_aload_n 0 (pc := 0) (i := 0) E dX2_findsForB_0 rfl rfl ?_
  refine x_getI (pc := 1) (p := 5) E rfl (Nat.le_of_ble_eq_true rfl) rfl inlX2 (by decide) rfl wq_89 dX2_findsForB_1 ?_
  refine x_if_eq (y := 0) (pc := 4) (tgt := 16) E dX2_findsForB_4 (by decide) hf (fun hf => ?_) (fun hf => ?_)
  · refine x_aload_n 0 (pc := 16) (i := 0) E dX2_findsForB_16 rfl rfl ?_
    refine x_iconst (pc := 17) (v := (0 : Int32)) E dX2_findsForB_17 rfl ?_
    refine x_aload_n 0 (pc := 18) (i := 0) E dX2_findsForB_18 rfl rfl ?_
    refine x_getI (pc := 19) (p := 4) E rfl (Nat.le_of_ble_eq_true rfl) rfl inlX2 (by decide) rfl wq_88 dX2_findsForB_19 ?_
    refine x_iconst (pc := 22) (v := (2 : Int32)) E dX2_findsForB_22 rfl ?_
    refine x_idiv (pc := 23) E dX2_findsForB_23 hf (fun hf => ?_)
    refine x_callVrl (pc := 24) (na := 2) (As := [.int (0 : Int32), .int ((σ.1 16 4) / (2 : Int32))]) E (c_X2_spreadSum G 16 (Or.inl rfl) (0 : Int32) ((σ.1 16 4) / (2 : Int32)) σ) rfl (Nat.le_of_ble_eq_true rfl) rfl wq_333 wq_28 wq_330 wq_331 wq_332 rfl rfl (by decide) ⟨Nat.le_of_ble_eq_true rfl, Nat.le_of_ble_eq_true rfl⟩ rfl rfl (Nat.le_of_ble_eq_true rfl) dX2_findsForB_24 hf (fun r1 hf => ?_)
    obtain rfl := Option.some.inj hf
    exact x_lret (pc := 27) E hR dX2_findsForB_27
  · refine x_aload_n 0 (pc := 7) (i := 0) E dX2_findsForB_7 rfl rfl ?_
    refine x_getR (pc := 8) (r := 19) (p := 2) E rfl (Nat.le_of_ble_eq_true rfl) rfl inlX2 (by decide) rfl wq_62 dX2_findsForB_8 ?_
    refine x_iconst (pc := 11) (v := (0 : Int32)) E dX2_findsForB_11 rfl ?_
    refine x_laload (pc := 12) E rfl (Nat.le_of_ble_eq_true rfl) dX2_findsForB_12 hf (fun hf => ?_)
    refine x_goto (pc := 13) (tgt := 27) E dX2_findsForB_13 (by decide) ?_
    obtain rfl := Option.some.inj hf
    exact x_lret (pc := 27) E hR dX2_findsForB_27
set_option maxHeartbeats 4000000 in
set_option maxRecDepth 100000 in
theorem c_X2_rightOf (G : Gx) (v1 : Int32) (σ : MM) (r : Int64) (σ' : MM) (hf : f_X2_rightOf v1 σ = some (r, σ')) : Ct shS 56 yX2_rightOf cX2_rightOf 4 (some .long) rm_X2_rightOf G [.ref (gad G 16), .int v1] σ (some (.long r)) σ' := by
  refine ct_of (by decide) (Nat.le_of_ble_eq_true rfl) (fun K E hR => ?_)
  have E : OKc 56 cX2_rightOf 4 RX2 G K := E
  show XJ shS 56 4 rm_X2_rightOf G K σ [(0, .ref (gad G 16)), (1, .int v1)] 0 []
  unfold f_X2_rightOf at hf
  refine x_aload_n 0 (pc := 0) (i := 0) E dX2_rightOf_0 rfl rfl ?_
  refine x_aload_n 0 (pc := 1) (i := 0) E dX2_rightOf_1 rfl rfl ?_
  refine x_getR (pc := 2) (r := 17) (p := 0) E rfl (Nat.le_of_ble_eq_true rfl) rfl inlX2 (by decide) rfl wq_60 dX2_rightOf_2 ?_
  refine x_iload_n 1 (pc := 5) (i := 1) E dX2_rightOf_5 rfl rfl ?_
  refine x_callVwv (pc := 6) (na := 2) (As := [.ref (gad G 17), .int v1]) E (c_X2_spreadOut G 16 17 (Or.inl rfl) rfl (Nat.le_of_ble_eq_true rfl) v1 σ) rfl (Nat.le_of_ble_eq_true rfl) rfl wq_324 wq_28 wq_321 wq_322 wq_323 rfl rfl (by decide) ⟨Nat.le_of_ble_eq_true rfl, Nat.le_of_ble_eq_true rfl⟩ rfl rfl (Nat.le_of_ble_eq_true rfl) dX2_rightOf_6 hf (fun σ2 hf => ?_)
  refine x_aload_n 0 (pc := 9) (i := 0) E dX2_rightOf_9 rfl rfl ?_
  refine x_callVrl (pc := 10) (na := 0) (As := []) E (c_X2_findsForA G 16 (Or.inl rfl) σ2) rfl (Nat.le_of_ble_eq_true rfl) rfl wq_329 wq_28 wq_326 wq_327 wq_328 rfl rfl (by decide) ⟨Nat.le_of_ble_eq_true rfl, Nat.le_of_ble_eq_true rfl⟩ rfl rfl (Nat.le_of_ble_eq_true rfl) dX2_rightOf_10 hf (fun r3 hf => ?_)
  refine x_lstore_n (pc := 13) (lv' := [(2, .long r3), (0, .ref (gad G 16)), (1, .int v1)]) E dX2_rightOf_13 rfl (by decide) rfl ?_
  refine x_aload_n 1 (pc := 14) (i := 0) E dX2_rightOf_14 rfl rfl ?_
  refine x_aload_n 1 (pc := 15) (i := 0) E dX2_rightOf_15 rfl rfl ?_
  refine x_getR (pc := 16) (r := 18) (p := 1) E rfl (Nat.le_of_ble_eq_true rfl) rfl inlX2 (by decide) rfl wq_61 dX2_rightOf_16 ?_
  refine x_iload_n 2 (pc := 19) (i := 1) E dX2_rightOf_19 rfl rfl ?_
  refine x_callVwv (pc := 20) (na := 2) (As := [.ref (gad G 18), .int v1]) E (c_X2_spreadOut G 16 18 (Or.inl rfl) rfl (Nat.le_of_ble_eq_true rfl) v1 σ2) rfl (Nat.le_of_ble_eq_true rfl) rfl wq_324 wq_28 wq_321 wq_322 wq_323 rfl rfl (by decide) ⟨Nat.le_of_ble_eq_true rfl, Nat.le_of_ble_eq_true rfl⟩ rfl rfl (Nat.le_of_ble_eq_true rfl) dX2_rightOf_20 hf (fun σ5 hf => ?_)
  refine x_aload_n 1 (pc := 23) (i := 0) E dX2_rightOf_23 rfl rfl ?_
  refine x_getI (pc := 24) (p := 6) E rfl (Nat.le_of_ble_eq_true rfl) rfl inlX2 (by decide) rfl wq_90 dX2_rightOf_24 ?_
  refine x_i2l (pc := 27) E dX2_rightOf_27 ?_
  refine x_lload_n 0 (pc := 28) (i := 2) E dX2_rightOf_28 rfl rfl ?_
  refine x_lmul (pc := 29) E dX2_rightOf_29 ?_
  refine x_bipush (pc := 30) (v := (100 : Int32)) E dX2_rightOf_30 rfl ?_
  refine x_aload_n 1 (pc := 32) (i := 0) E dX2_rightOf_32 rfl rfl ?_
  refine x_getI (pc := 33) (p := 6) E rfl (Nat.le_of_ble_eq_true rfl) rfl inlX2 (by decide) rfl wq_90 dX2_rightOf_33 ?_
  refine x_isub (pc := 36) E dX2_rightOf_36 ?_
  refine x_i2l (pc := 37) E dX2_rightOf_37 ?_
  refine x_aload_n 1 (pc := 38) (i := 0) E dX2_rightOf_38 rfl rfl ?_
  refine x_callVrl (pc := 39) (na := 0) (As := []) E (c_X2_findsForB G σ5) rfl (Nat.le_of_ble_eq_true rfl) rfl wq_380 wq_28 wq_377 wq_378 wq_379 rfl rfl (by decide) ⟨Nat.le_of_ble_eq_true rfl, Nat.le_of_ble_eq_true rfl⟩ rfl rfl (Nat.le_of_ble_eq_true rfl) dX2_rightOf_39 hf (fun r6 hf => ?_)
  refine x_lmul (pc := 42) E dX2_rightOf_42 ?_
  refine x_ladd (pc := 43) E dX2_rightOf_43 ?_
  obtain ⟨rfl, rfl⟩ := Prod.mk.inj (Option.some.inj hf)
  exact x_lret (pc := 44) E hR dX2_rightOf_44
set_option maxHeartbeats 4000000 in
set_option maxRecDepth 100000 in
theorem c_X6_right (G : Gx) (v1 : Int32) (σ : MM) (r : Int64) (σ' : MM) (hf : f_X6_right v1 σ = some (r, σ')) : Ct shS 56 yX6_right cX6_right 3 (some .long) rm_X6_right G [.ref (gad G 0), .int v1] σ (some (.long r)) σ' := by
  refine ct_of (by decide) (Nat.le_of_ble_eq_true rfl) (fun K E hR => ?_)
  have E : OKc 56 cX6_right 3 RX6 G K := E
  show XJ shS 56 3 rm_X6_right G K σ [(0, .ref (gad G 0)), (1, .int v1)] 0 []
  unfold f_X6_right at hf
  refine x_aload_n 0 (pc := 0) (i := 0) E dX6_right_0 rfl rfl ?_
  refine x_iload_n 1 (pc := 1) (i := 1) E dX6_right_1 rfl rfl ?_
  refine x_callVri (pc := 2) (na := 1) (As := [.int v1]) E (c_X6_juryRefusal G v1 σ) rfl (Nat.le_of_ble_eq_true rfl) rfl wq_300 wq_2 wq_297 wq_298 wq_299 rfl rfl (by decide) ⟨Nat.le_of_ble_eq_true rfl, Nat.le_of_ble_eq_true rfl⟩ rfl rfl (Nat.le_of_ble_eq_true rfl) dX6_right_2 hf (fun r1 hf => ?_)
  refine x_istore_n (pc := 5) (lv' := [(2, .int r1), (0, .ref (gad G 0)), (1, .int v1)]) E dX6_right_5 rfl (by decide) rfl ?_
  refine x_iload_n 0 (pc := 6) (i := 2) E dX6_right_6 rfl rfl ?_
  refine x_if_eq (y := 0) (pc := 7) (tgt := 18) E dX6_right_7 (by decide) hf (fun hf => ?_) (fun hf => ?_)
  · refine x_aload_n 1 (pc := 18) (i := 0) E dX6_right_18 rfl rfl ?_
    refine x_getR (pc := 19) (r := 16) (p := 7) E rfl (Nat.le_of_ble_eq_true rfl) rfl inlX6 (by decide) rfl wq_29 dX6_right_19 ?_
    refine x_iload_n 2 (pc := 22) (i := 1) E dX6_right_22 rfl rfl ?_
    refine x_callVNwl (pc := 23) (na := 1) (As := [.int v1]) E (c_X2_rightOf G v1 σ) rfl (Nat.le_of_ble_eq_true rfl) rfl wq_376 wq_28 wn_34 wq_374 wq_375 rfl rfl (by decide) ⟨Nat.le_of_ble_eq_true rfl, Nat.le_of_ble_eq_true rfl⟩ rfl rfl (Nat.le_of_ble_eq_true rfl) dX6_right_23 hf (fun r2 σ3 hf => ?_)
    obtain ⟨rfl, rfl⟩ := Prod.mk.inj (Option.some.inj hf)
    exact x_lret (pc := 26) E hR dX6_right_26
  · refine x_aload_n 1 (pc := 10) (i := 0) E dX6_right_10 rfl rfl ?_
    refine x_iload_n 0 (pc := 11) (i := 2) E dX6_right_11 rfl rfl ?_
    refine x_callVwl (pc := 12) (na := 1) (As := [.int r1]) E (c_X6_refuseLong G r1 σ) rfl (Nat.le_of_ble_eq_true rfl) rfl wq_316 wq_2 wq_313 wq_314 wq_315 rfl rfl (by decide) ⟨Nat.le_of_ble_eq_true rfl, Nat.le_of_ble_eq_true rfl⟩ rfl rfl (Nat.le_of_ble_eq_true rfl) dX6_right_12 hf (fun r4 σ5 hf => ?_)
    refine x_goto (pc := 15) (tgt := 26) E dX6_right_15 (by decide) ?_
    obtain ⟨rfl, rfl⟩ := Prod.mk.inj (Option.some.inj hf)
    exact x_lret (pc := 26) E hR dX6_right_26
set_option maxHeartbeats 4000000 in
set_option maxRecDepth 100000 in
theorem c_X6_isSide (G : Gx) (v0 : Int32) (σ : MM) (r : Int32) (hf : f_X6_isSide v0 σ = some r) : Ct shS 56 yX6_isSide cX6_isSide 1 (some .boolean) rm_X6_isSide G [.int v0] σ (some (.int r)) σ := by
  refine ct_of (by decide) (Nat.le_of_ble_eq_true rfl) (fun K E hR => ?_)
  have E : OKc 56 cX6_isSide 1 RX6 G K := E
  show XJ shS 56 1 rm_X6_isSide G K σ [(0, .int v0)] 0 []
  unfold f_X6_isSide at hf
  refine x_iload_n 0 (pc := 0) (i := 0) E dX6_isSide_0 rfl rfl ?_
  refine x_if_eq (y := 0) (pc := 1) (tgt := 9) E dX6_isSide_1 (by decide) hf (fun hf => ?_) (fun hf => ?_)
  · refine x_iconst (pc := 9) (v := (1 : Int32)) E dX6_isSide_9 rfl ?_
    refine x_goto (pc := 10) (tgt := 14) E dX6_isSide_10 (by decide) ?_
    obtain ⟨hz, hf⟩ := chk_some hf
    obtain rfl := Option.some.inj hf
    exact x_zret (pc := 14) E hR (isB_nar hz) dX6_isSide_14
  · refine x_iload_n 0 (pc := 4) (i := 0) E dX6_isSide_4 rfl rfl ?_
    refine x_iconst (pc := 5) (v := (1 : Int32)) E dX6_isSide_5 rfl ?_
    refine x_icmp_ne (pc := 6) (tgt := 13) E dX6_isSide_6 (by decide) hf (fun hf => ?_) (fun hf => ?_)
    · refine x_iconst (pc := 13) (v := (0 : Int32)) E dX6_isSide_13 rfl ?_
      obtain ⟨hz, hf⟩ := chk_some hf
      obtain rfl := Option.some.inj hf
      exact x_zret (pc := 14) E hR (isB_nar hz) dX6_isSide_14
    · refine x_iconst (pc := 9) (v := (1 : Int32)) E dX6_isSide_9 rfl ?_
      refine x_goto (pc := 10) (tgt := 14) E dX6_isSide_10 (by decide) ?_
      obtain ⟨hz, hf⟩ := chk_some hf
      obtain rfl := Option.some.inj hf
      exact x_zret (pc := 14) E hR (isB_nar hz) dX6_isSide_14
set_option maxHeartbeats 4000000 in
set_option maxRecDepth 100000 in
theorem c_X6_leftRefusal (G : Gx) (v1 : Int32) (v2 : Int32) (v3 : Int32) (σ : MM) (r : Int32) (hf : f_X6_leftRefusal v1 v2 v3 σ = some r) : Ct shS 56 yX6_leftRefusal cX6_leftRefusal 6 (some .int) rm_X6_leftRefusal G [.ref (gad G 0), .int v1, .int v2, .int v3] σ (some (.int r)) σ := by
  refine ct_of (by decide) (Nat.le_of_ble_eq_true rfl) (fun K E hR => ?_)
  have E : OKc 56 cX6_leftRefusal 6 RX6 G K := E
  show XJ shS 56 6 rm_X6_leftRefusal G K σ [(0, .ref (gad G 0)), (1, .int v1), (2, .int v2), (3, .int v3)] 0 []
  unfold f_X6_leftRefusal at hf
  refine x_iload_n 3 (pc := 0) (i := 3) E dX6_leftRefusal_0 rfl rfl ?_
  refine x_callSri (pc := 1) (na := 1) (As := [.int v3]) E (c_X6_isSide G v3 σ) wq_399 wq_2 wq_397 wq_398 rfl rfl (by decide) ⟨Nat.le_of_ble_eq_true rfl, Nat.le_of_ble_eq_true rfl⟩ rfl rfl (Nat.le_of_ble_eq_true rfl) dX6_leftRefusal_1 hf (fun r1 hf => ?_)
  refine x_if_eq (y := 0) (pc := 4) (tgt := 21) E dX6_leftRefusal_4 (by decide) hf (fun hf => ?_) (fun hf => ?_)
  · refine x_iconst (pc := 21) (v := (-1 : Int32)) E dX6_leftRefusal_21 rfl ?_
    obtain rfl := Option.some.inj hf
    exact x_iret (pc := 22) E hR dX6_leftRefusal_22
  · refine x_iload_n 1 (pc := 7) (i := 1) E dX6_leftRefusal_7 rfl rfl ?_
    refine x_aload_n 0 (pc := 8) (i := 0) E dX6_leftRefusal_8 rfl rfl ?_
    refine x_getR (pc := 9) (r := 1) (p := 0) E rfl (Nat.le_of_ble_eq_true rfl) rfl inlX6 (by decide) rfl wq_17 dX6_leftRefusal_9 ?_
    refine x_callVNri (pc := 12) (na := 0) (As := []) E (c_X0_everyone G σ) rfl (Nat.le_of_ble_eq_true rfl) rfl wq_303 wq_16 wn_30 wq_301 wq_302 rfl rfl (by decide) ⟨Nat.le_of_ble_eq_true rfl, Nat.le_of_ble_eq_true rfl⟩ rfl rfl (Nat.le_of_ble_eq_true rfl) dX6_leftRefusal_12 hf (fun r2 hf => ?_)
    refine x_iconst (pc := 15) (v := (-1 : Int32)) E dX6_leftRefusal_15 rfl ?_
    refine x_ixor (pc := 16) E dX6_leftRefusal_16 ?_
    refine x_iand (pc := 17) E dX6_leftRefusal_17 ?_
    refine x_if_eq (y := 0) (pc := 18) (tgt := 23) E dX6_leftRefusal_18 (by decide) hf (fun hf => ?_) (fun hf => ?_)
    · refine x_iload_n 2 (pc := 23) (i := 2) E dX6_leftRefusal_23 rfl rfl ?_
      refine x_if_ge (y := 0) (pc := 24) (tgt := 30) E dX6_leftRefusal_24 (by decide) hf (fun hf => ?_) (fun hf => ?_)
      · refine x_iload_n 2 (pc := 30) (i := 2) E dX6_leftRefusal_30 rfl rfl ?_
        refine x_bipush (pc := 31) (v := (10 : Int32)) E dX6_leftRefusal_31 rfl ?_
        refine x_idiv (pc := 33) E dX6_leftRefusal_33 hf (fun hf => ?_)
        refine x_istore (pc := 34) (lv' := [(4, .int (v2 / (10 : Int32))), (0, .ref (gad G 0)), (1, .int v1), (2, .int v2), (3, .int v3)]) E dX6_leftRefusal_34 (by decide) rfl ?_
        refine x_iload_n 3 (pc := 36) (i := 2) E dX6_leftRefusal_36 rfl rfl ?_
        refine x_bipush (pc := 37) (v := (10 : Int32)) E dX6_leftRefusal_37 rfl ?_
        refine x_irem (pc := 39) E dX6_leftRefusal_39 hf (fun hf => ?_)
        refine x_istore (pc := 40) (lv' := [(5, .int (v2 - v2 / (10 : Int32) * (10 : Int32))), (4, .int (v2 / (10 : Int32))), (0, .ref (gad G 0)), (1, .int v1), (2, .int v2), (3, .int v3)]) E dX6_leftRefusal_40 (by decide) rfl ?_
        refine x_iload 1 (pc := 42) E dX6_leftRefusal_42 rfl ?_
        refine x_iconst (pc := 44) (v := (3 : Int32)) E dX6_leftRefusal_44 rfl ?_
        refine x_icmp_gt (pc := 45) (tgt := 54) E dX6_leftRefusal_45 (by decide) hf (fun hf => ?_) (fun hf => ?_)
        · refine x_bipush (pc := 54) (v := (-6 : Int32)) E dX6_leftRefusal_54 rfl ?_
          obtain rfl := Option.some.inj hf
          exact x_iret (pc := 56) E hR dX6_leftRefusal_56
        · refine x_iload 0 (pc := 48) E dX6_leftRefusal_48 rfl ?_
          refine x_iconst (pc := 50) (v := (3 : Int32)) E dX6_leftRefusal_50 rfl ?_
          refine x_icmp_le (pc := 51) (tgt := 57) E dX6_leftRefusal_51 (by decide) hf (fun hf => ?_) (fun hf => ?_)
          · refine x_iload_n 3 (pc := 57) (i := 1) E dX6_leftRefusal_57 rfl rfl ?_
            refine x_callSri (pc := 58) (na := 1) (As := [.int v1]) E (c_J6_bitCount_0f7a4 G v1 σ) wq_309 wq_308 wq_306 wq_307 rfl rfl (by decide) ⟨Nat.le_of_ble_eq_true rfl, Nat.le_of_ble_eq_true rfl⟩ rfl rfl (Nat.le_of_ble_eq_true rfl) dX6_leftRefusal_58 hf (fun r3 hf => ?_)
            refine x_aload_n 2 (pc := 61) (i := 0) E dX6_leftRefusal_61 rfl rfl ?_
            refine x_getR (pc := 62) (r := 1) (p := 0) E rfl (Nat.le_of_ble_eq_true rfl) rfl inlX6 (by decide) rfl wq_17 dX6_leftRefusal_62 ?_
            refine x_callVNri (pc := 65) (na := 0) (As := []) E (c_X0_needed G σ) rfl (Nat.le_of_ble_eq_true rfl) rfl wq_93 wq_16 wn_32 wq_91 wq_92 rfl rfl (by decide) ⟨Nat.le_of_ble_eq_true rfl, Nat.le_of_ble_eq_true rfl⟩ rfl rfl (Nat.le_of_ble_eq_true rfl) dX6_leftRefusal_65 hf (fun r4 hf => ?_)
            refine x_iload 1 (pc := 68) E dX6_leftRefusal_68 rfl ?_
            refine x_iadd (pc := 70) E dX6_leftRefusal_70 ?_
            refine x_iload 0 (pc := 71) E dX6_leftRefusal_71 rfl ?_
            refine x_iadd (pc := 73) E dX6_leftRefusal_73 ?_
            refine x_icmp_eq (pc := 74) (tgt := 82) E dX6_leftRefusal_74 (by decide) hf (fun hf => ?_) (fun hf => ?_)
            · refine x_iconst (pc := 82) (v := (0 : Int32)) E dX6_leftRefusal_82 rfl ?_
              obtain rfl := Option.some.inj hf
              exact x_iret (pc := 83) E hR dX6_leftRefusal_83
            · refine x_bipush (pc := 77) (v := (-3 : Int32)) E dX6_leftRefusal_77 rfl ?_
              refine x_goto (pc := 79) (tgt := 83) E dX6_leftRefusal_79 (by decide) ?_
              obtain rfl := Option.some.inj hf
              exact x_iret (pc := 83) E hR dX6_leftRefusal_83
          · refine x_bipush (pc := 54) (v := (-6 : Int32)) E dX6_leftRefusal_54 rfl ?_
            obtain rfl := Option.some.inj hf
            exact x_iret (pc := 56) E hR dX6_leftRefusal_56
      · refine x_bipush (pc := 27) (v := (-4 : Int32)) E dX6_leftRefusal_27 rfl ?_
        obtain rfl := Option.some.inj hf
        exact x_iret (pc := 29) E hR dX6_leftRefusal_29
    · refine x_iconst (pc := 21) (v := (-1 : Int32)) E dX6_leftRefusal_21 rfl ?_
      obtain rfl := Option.some.inj hf
      exact x_iret (pc := 22) E hR dX6_leftRefusal_22
set_option maxHeartbeats 4000000 in
set_option maxRecDepth 100000 in
theorem l_X5_sideAt_14 (G : Gx) {K : Kx}   (v0 : Int32) (σ : MM) (E : OKc 56 cX5_sideAt 8 RX5 G K) : ∀ (m : Nat) (v4 : Int32) (v5 : Int32) (v6 : Int32) (v7 : Int32) (out : Int32), loopN (fun s => g_X5_sideAt_14 v0 s.1 s.2.1 s.2.2.1 s.2.2.2 σ) m (v4, v5, v6, v7) = some out → XJ shS 56 8 rm_X5_sideAt G K σ [(6, .int out)] 67 [] → XJ shS 56 8 rm_X5_sideAt G K σ [(0, .int v0), (4, .int v4), (5, .int v5), (6, .int v6), (7, .int v7)] 14 [] := by
  intro m
  induction m with
  | zero => intro v4 v5 v6 v7 out hf; exact (loopN_0 hf).elim
  | succ m ih =>
    intro v4 v5 v6 v7 out hf hk
    obtain ⟨q, hf, h2⟩ := loopN_s hf
    have hf : g_X5_sideAt_14 v0 v4 v5 v6 v7 σ = some q := hf
    unfold g_X5_sideAt_14 at hf
    refine x_iload 4 (pc := 14) E dX5_sideAt_14 rfl ?_
    refine x_iload_n 0 (pc := 16) (i := 0) E dX5_sideAt_16 rfl rfl ?_
    refine x_icmp_gt (pc := 17) (tgt := 67) E dX5_sideAt_17 (by decide) hf (fun hf => ?_) (fun hf => ?_)
    · obtain rfl := Option.some.inj hf
      obtain rfl := lpk_r h2
      exact x_sub [3] rfl hk
    · refine x_iconst (pc := 20) (v := (1 : Int32)) E dX5_sideAt_20 rfl ?_
      refine x_iload 3 (pc := 21) E dX5_sideAt_21 rfl ?_
      refine x_isub (pc := 23) E dX5_sideAt_23 ?_
      refine x_istore (pc := 24) (lv' := [(6, .int ((1 : Int32) - v6)), (0, .int v0), (4, .int v4), (5, .int v5), (7, .int v7)]) E dX5_sideAt_24 (by decide) rfl ?_
      refine x_iload 0 (pc := 26) E dX5_sideAt_26 rfl ?_
      obtain ⟨o1, hf3, hf⟩ := bind_some hf
      have hJ2 : XJ shS 56 8 rm_X5_sideAt G K σ [(0, .int v0), (4, .int v4), (5, .int v5), (6, .int ((1 : Int32) - v6)), (7, .int v7)] 38 [.int o1] := by
        obtain ⟨o4, hf6, hf⟩ := bind_some hf
        have hJ5 : XJ shS 56 8 rm_X5_sideAt G K σ [(0, .int v0), (4, .int v4), (5, .int v5), (6, .int o4), (7, .int v7)] 47 [] := by
          refine x_iload 3 (pc := 47) E dX5_sideAt_47 rfl ?_
          refine x_if_ne (y := 0) (pc := 49) (tgt := 58) E dX5_sideAt_49 (by decide) hf (fun hf => ?_) (fun hf => ?_)
          · refine x_iinc 2 (pc := 58) (v := v5 + (-1)) (lv' := [(5, .int (v5 + (-1))), (0, .int v0), (4, .int v4), (6, .int o4), (7, .int v7)]) E dX5_sideAt_58 rfl rfl (by decide) rfl ?_
            refine x_iinc 4 (pc := 61) (v := v7 + 1) (lv' := [(7, .int (v7 + 1)), (5, .int (v5 + (-1))), (0, .int v0), (4, .int v4), (6, .int o4)]) E dX5_sideAt_61 rfl rfl (by decide) rfl ?_
            refine x_goto (pc := 64) (tgt := 14) E dX5_sideAt_64 (by decide) ?_
            obtain rfl := Option.some.inj hf
            exact x_sub [2, 3, 1, 4, 0] rfl (ih _ _ _ _ _ (lpk_l h2) hk)
          · refine x_iinc 1 (pc := 52) (v := v4 + (-1)) (lv' := [(4, .int (v4 + (-1))), (0, .int v0), (5, .int v5), (6, .int o4), (7, .int v7)]) E dX5_sideAt_52 rfl rfl (by decide) rfl ?_
            refine x_goto (pc := 55) (tgt := 61) E dX5_sideAt_55 (by decide) ?_
            refine x_iinc 4 (pc := 61) (v := v7 + 1) (lv' := [(7, .int (v7 + 1)), (4, .int (v4 + (-1))), (0, .int v0), (5, .int v5), (6, .int o4)]) E dX5_sideAt_61 rfl rfl (by decide) rfl ?_
            refine x_goto (pc := 64) (tgt := 14) E dX5_sideAt_64 (by decide) ?_
            obtain rfl := Option.some.inj hf
            exact x_sub [2, 1, 3, 4, 0] rfl (ih _ _ _ _ _ (lpk_l h2) hk)
        refine x_if_ne (y := 0) (pc := 38) (tgt := 47) E dX5_sideAt_38 (by decide) hf6 (fun hf6 => ?_) (fun hf6 => ?_)
        · obtain rfl := Option.some.inj hf6
          exact x_sub [0, 1, 2, 3, 4] rfl hJ5
        · refine x_iconst (pc := 41) (v := (1 : Int32)) E dX5_sideAt_41 rfl ?_
          refine x_iload 3 (pc := 42) E dX5_sideAt_42 rfl ?_
          refine x_isub (pc := 44) E dX5_sideAt_44 ?_
          refine x_istore (pc := 45) (lv' := [(6, .int ((1 : Int32) - ((1 : Int32) - v6))), (0, .int v0), (4, .int v4), (5, .int v5), (7, .int v7)]) E dX5_sideAt_45 (by decide) rfl ?_
          obtain rfl := Option.some.inj hf6
          exact x_sub [1, 2, 3, 0, 4] rfl hJ5
      refine x_if_ne (y := 0) (pc := 28) (tgt := 36) E dX5_sideAt_28 (by decide) hf3 (fun hf3 => ?_) (fun hf3 => ?_)
      · refine x_iload 3 (pc := 36) E dX5_sideAt_36 rfl ?_
        obtain rfl := Option.some.inj hf3
        exact x_sub [1, 2, 3, 0, 4] rfl hJ2
      · refine x_iload 2 (pc := 31) E dX5_sideAt_31 rfl ?_
        refine x_goto (pc := 33) (tgt := 38) E dX5_sideAt_33 (by decide) ?_
        obtain rfl := Option.some.inj hf3
        exact x_sub [1, 2, 3, 0, 4] rfl hJ2
set_option maxHeartbeats 4000000 in
set_option maxRecDepth 100000 in
theorem c_X5_sideAt (G : Gx) (v0 : Int32) (v1 : Int32) (v2 : Int32) (v3 : Int32) (σ : MM) (r : Int32) (hf : f_X5_sideAt v0 v1 v2 v3 σ = some r) : Ct shS 56 yX5_sideAt cX5_sideAt 8 (some .int) rm_X5_sideAt G [.int v0, .int v1, .int v2, .int v3] σ (some (.int r)) σ := by
  refine ct_of (by decide) (Nat.le_of_ble_eq_true rfl) (fun K E hR => ?_)
  have E : OKc 56 cX5_sideAt 8 RX5 G K := E
  show XJ shS 56 8 rm_X5_sideAt G K σ [(0, .int v0), (1, .int v1), (2, .int v2), (3, .int v3)] 0 []
  unfold f_X5_sideAt at hf
  refine x_iload_n 1 (pc := 0) (i := 1) E dX5_sideAt_0 rfl rfl ?_
  refine x_istore (pc := 1) (lv' := [(4, .int v1), (0, .int v0), (1, .int v1), (2, .int v2), (3, .int v3)]) E dX5_sideAt_1 (by decide) rfl ?_
  refine x_iload_n 3 (pc := 3) (i := 2) E dX5_sideAt_3 rfl rfl ?_
  refine x_istore (pc := 4) (lv' := [(5, .int v2), (4, .int v1), (0, .int v0), (1, .int v1), (2, .int v2), (3, .int v3)]) E dX5_sideAt_4 (by decide) rfl ?_
  refine x_iconst (pc := 6) (v := (1 : Int32)) E dX5_sideAt_6 rfl ?_
  refine x_iload_n 5 (pc := 7) (i := 3) E dX5_sideAt_7 rfl rfl ?_
  refine x_isub (pc := 8) E dX5_sideAt_8 ?_
  refine x_istore (pc := 9) (lv' := [(6, .int ((1 : Int32) - v3)), (5, .int v2), (4, .int v1), (0, .int v0), (1, .int v1), (2, .int v2), (3, .int v3)]) E dX5_sideAt_9 (by decide) rfl ?_
  refine x_iconst (pc := 11) (v := (0 : Int32)) E dX5_sideAt_11 rfl ?_
  refine x_istore (pc := 12) (lv' := [(7, .int (0 : Int32)), (6, .int ((1 : Int32) - v3)), (5, .int v2), (4, .int v1), (0, .int v0), (1, .int v1), (2, .int v2), (3, .int v3)]) E dX5_sideAt_12 (by decide) rfl ?_
  obtain ⟨o7, hl8, hf⟩ := bind_some hf
  refine x_sub [4, 3, 2, 1, 0] rfl (l_X5_sideAt_14 G   v0 σ E FU _ _ _ _ o7 hl8 ?_)
  refine x_iload 0 (pc := 67) E dX5_sideAt_67 rfl ?_
  obtain rfl := Option.some.inj hf
  exact x_iret (pc := 69) E hR dX5_sideAt_69
set_option maxHeartbeats 4000000 in
set_option maxRecDepth 100000 in
theorem c_X2_areAlike (G : Gx) (b : Nat) (h_b : isMd b) (v1 : Int32) (v2 : Int32) (σ : MM) (r : Int32) (hf : f_X2_areAlike b v1 v2 σ = some r) : Ct shS 56 yX2_areAlike cX2_areAlike 3 (some .boolean) rm_X2_areAlike G [.ref (gad G b), .int v1, .int v2] σ (some (.int r)) σ := by
  obtain ⟨hs_b_0, hs_b_1, hs_b_2, hs_b_3, hs_b_4⟩ := sh_isMd h_b
  obtain ⟨hk_b_0, hk_b_1, hk_b_2, hk_b_3, hk_b_4⟩ := lt_isMd h_b
  refine ct_of (by decide) (Nat.le_of_ble_eq_true rfl) (fun K E hR => ?_)
  have E : OKc 56 cX2_areAlike 3 RX2 G K := E
  show XJ shS 56 3 rm_X2_areAlike G K σ [(0, .ref (gad G b)), (1, .int v1), (2, .int v2)] 0 []
  unfold f_X2_areAlike at hf
  refine x_aload_n 0 (pc := 0) (i := 0) E dX2_areAlike_0 rfl rfl ?_
  refine x_getR (pc := 1) (r := (b + 1)) (p := 0) E hs_b_0 hk_b_0 rfl inlX2 (by decide) rfl wq_60 dX2_areAlike_1 ?_
  refine x_iload_n 1 (pc := 4) (i := 1) E dX2_areAlike_4 rfl rfl ?_
  refine x_iaload (pc := 5) E hs_b_1 hk_b_1 dX2_areAlike_5 hf (fun hf => ?_)
  refine x_aload_n 0 (pc := 6) (i := 0) E dX2_areAlike_6 rfl rfl ?_
  refine x_getR (pc := 7) (r := (b + 1)) (p := 0) E hs_b_0 hk_b_0 rfl inlX2 (by decide) rfl wq_60 dX2_areAlike_7 ?_
  refine x_iload_n 2 (pc := 10) (i := 2) E dX2_areAlike_10 rfl rfl ?_
  refine x_iaload (pc := 11) E hs_b_1 hk_b_1 dX2_areAlike_11 hf (fun hf => ?_)
  refine x_icmp_ne (pc := 12) (tgt := 34) E dX2_areAlike_12 (by decide) hf (fun hf => ?_) (fun hf => ?_)
  · refine x_iconst (pc := 34) (v := (0 : Int32)) E dX2_areAlike_34 rfl ?_
    obtain ⟨hz, hf⟩ := chk_some hf
    obtain rfl := Option.some.inj hf
    exact x_zret (pc := 35) E hR (isB_nar hz) dX2_areAlike_35
  · refine x_aload_n 0 (pc := 15) (i := 0) E dX2_areAlike_15 rfl rfl ?_
    refine x_getR (pc := 16) (r := (b + 2)) (p := 1) E hs_b_0 hk_b_0 rfl inlX2 (by decide) rfl wq_61 dX2_areAlike_16 ?_
    refine x_iload_n 1 (pc := 19) (i := 1) E dX2_areAlike_19 rfl rfl ?_
    refine x_iaload (pc := 20) E hs_b_2 hk_b_2 dX2_areAlike_20 hf (fun hf => ?_)
    refine x_aload_n 0 (pc := 21) (i := 0) E dX2_areAlike_21 rfl rfl ?_
    refine x_getR (pc := 22) (r := (b + 2)) (p := 1) E hs_b_0 hk_b_0 rfl inlX2 (by decide) rfl wq_61 dX2_areAlike_22 ?_
    refine x_iload_n 2 (pc := 25) (i := 2) E dX2_areAlike_25 rfl rfl ?_
    refine x_iaload (pc := 26) E hs_b_2 hk_b_2 dX2_areAlike_26 hf (fun hf => ?_)
    refine x_icmp_ne (pc := 27) (tgt := 34) E dX2_areAlike_27 (by decide) hf (fun hf => ?_) (fun hf => ?_)
    · refine x_iconst (pc := 34) (v := (0 : Int32)) E dX2_areAlike_34 rfl ?_
      obtain ⟨hz, hf⟩ := chk_some hf
      obtain rfl := Option.some.inj hf
      exact x_zret (pc := 35) E hR (isB_nar hz) dX2_areAlike_35
    · refine x_iconst (pc := 30) (v := (1 : Int32)) E dX2_areAlike_30 rfl ?_
      refine x_goto (pc := 31) (tgt := 35) E dX2_areAlike_31 (by decide) ?_
      obtain ⟨hz, hf⟩ := chk_some hf
      obtain rfl := Option.some.inj hf
      exact x_zret (pc := 35) E hR (isB_nar hz) dX2_areAlike_35
set_option maxHeartbeats 4000000 in
set_option maxRecDepth 100000 in
theorem l_X5_findTwins_17 (G : Gx) {K : Kx} (b : Nat) (q1 : Nat) (h_b : isTn b) (h_q1 : isMd q1) (v2 : Int32) (E : OKc 56 cX5_findTwins 4 RX5 G K) : ∀ (m : Nat) (v3 : Int32) (σ : MM) (out : MM), loopN (fun s => g_X5_findTwins_17 b q1 v2 s.1 s.2) m (v3, σ) = some out → XJ shS 56 4 rm_X5_findTwins G K out [(0, .ref (gad G b)), (1, .ref (gad G q1)), (2, .int v2)] 57 [] → XJ shS 56 4 rm_X5_findTwins G K σ [(0, .ref (gad G b)), (1, .ref (gad G q1)), (2, .int v2), (3, .int v3)] 17 [] := by
  obtain ⟨hs_b_0, hs_b_1, hs_b_2, hs_b_3⟩ := sh_isTn h_b
  obtain ⟨hk_b_0, hk_b_1, hk_b_2, hk_b_3⟩ := lt_isTn h_b
  obtain ⟨hs_q1_0, hs_q1_1, hs_q1_2, hs_q1_3, hs_q1_4⟩ := sh_isMd h_q1
  obtain ⟨hk_q1_0, hk_q1_1, hk_q1_2, hk_q1_3, hk_q1_4⟩ := lt_isMd h_q1
  intro m
  induction m with
  | zero => intro v3 σ out hf; exact (loopN_0 hf).elim
  | succ m ih =>
    intro v3 σ out hf hk
    obtain ⟨q, hf, h2⟩ := loopN_s hf
    have hf : g_X5_findTwins_17 b q1 v2 v3 σ = some q := hf
    unfold g_X5_findTwins_17 at hf
    refine x_iload_n 3 (pc := 17) (i := 3) E dX5_findTwins_17 rfl rfl ?_
    refine x_iload_n 2 (pc := 18) (i := 2) E dX5_findTwins_18 rfl rfl ?_
    refine x_icmp_ge (pc := 19) (tgt := 57) E dX5_findTwins_19 (by decide) hf (fun hf => ?_) (fun hf => ?_)
    · obtain rfl := Option.some.inj hf
      obtain rfl := lpk_r h2
      exact x_sub [0, 1, 2] rfl hk
    · refine x_aload_n 0 (pc := 22) (i := 0) E dX5_findTwins_22 rfl rfl ?_
      refine x_getI (pc := 23) (p := 3) E hs_b_0 hk_b_0 rfl inlX5 (by decide) rfl wq_403 dX5_findTwins_23 ?_
      refine x_iconst (pc := 26) (v := (1 : Int32)) E dX5_findTwins_26 rfl ?_
      refine x_iload_n 3 (pc := 27) (i := 3) E dX5_findTwins_27 rfl rfl ?_
      refine x_ishl (pc := 28) E dX5_findTwins_28 ?_
      refine x_iand (pc := 29) E dX5_findTwins_29 ?_
      refine x_if_eq (y := 0) (pc := 30) (tgt := 51) E dX5_findTwins_30 (by decide) hf (fun hf => ?_) (fun hf => ?_)
      · refine x_iinc 3 (pc := 51) (v := v3 + 1) (lv' := [(3, .int (v3 + 1)), (0, .ref (gad G b)), (1, .ref (gad G q1)), (2, .int v2)]) E dX5_findTwins_51 rfl rfl (by decide) rfl ?_
        refine x_goto (pc := 54) (tgt := 17) E dX5_findTwins_54 (by decide) ?_
        obtain rfl := Option.some.inj hf
        exact x_sub [1, 2, 3, 0] rfl (ih _ _ _ (lpk_l h2) hk)
      · refine x_aload_n 1 (pc := 33) (i := 1) E dX5_findTwins_33 rfl rfl ?_
        refine x_iload_n 2 (pc := 34) (i := 2) E dX5_findTwins_34 rfl rfl ?_
        refine x_iload_n 3 (pc := 35) (i := 3) E dX5_findTwins_35 rfl rfl ?_
        refine x_callVNri (pc := 36) (na := 2) (As := [.int v2, .int v3]) E (c_X2_areAlike G q1 h_q1 v2 v3 σ) hs_q1_0 hk_q1_0 rfl wq_415 wq_28 wn_36 wq_413 wq_414 rfl rfl (by decide) ⟨Nat.le_of_ble_eq_true rfl, Nat.le_of_ble_eq_true rfl⟩ rfl rfl (Nat.le_of_ble_eq_true rfl) dX5_findTwins_36 hf (fun r2 hf => ?_)
        refine x_if_eq (y := 0) (pc := 39) (tgt := 51) E dX5_findTwins_39 (by decide) hf (fun hf => ?_) (fun hf => ?_)
        · refine x_iinc 3 (pc := 51) (v := v3 + 1) (lv' := [(3, .int (v3 + 1)), (0, .ref (gad G b)), (1, .ref (gad G q1)), (2, .int v2)]) E dX5_findTwins_51 rfl rfl (by decide) rfl ?_
          refine x_goto (pc := 54) (tgt := 17) E dX5_findTwins_54 (by decide) ?_
          obtain rfl := Option.some.inj hf
          exact x_sub [1, 2, 3, 0] rfl (ih _ _ _ (lpk_l h2) hk)
        · refine x_aload_n 0 (pc := 42) (i := 0) E dX5_findTwins_42 rfl rfl ?_
          refine x_getR (pc := 43) (r := (b + 2)) (p := 2) E hs_b_0 hk_b_0 rfl inlX5 (by decide) rfl wq_69 dX5_findTwins_43 ?_
          refine x_iload_n 2 (pc := 46) (i := 2) E dX5_findTwins_46 rfl rfl ?_
          refine x_iconst (pc := 47) (v := (1 : Int32)) E dX5_findTwins_47 rfl ?_
          refine x_iload_n 3 (pc := 48) (i := 3) E dX5_findTwins_48 rfl rfl ?_
          refine x_ishl (pc := 49) E dX5_findTwins_49 ?_
          refine x_iastore (pc := 50) E hs_b_2 hk_b_2 dX5_findTwins_50 hf (fun σ3 hf => ?_)
          refine x_iinc 3 (pc := 51) (v := v3 + 1) (lv' := [(3, .int (v3 + 1)), (0, .ref (gad G b)), (1, .ref (gad G q1)), (2, .int v2)]) E dX5_findTwins_51 rfl rfl (by decide) rfl ?_
          refine x_goto (pc := 54) (tgt := 17) E dX5_findTwins_54 (by decide) ?_
          obtain rfl := Option.some.inj hf
          exact x_sub [1, 2, 3, 0] rfl (ih _ _ _ (lpk_l h2) hk)
set_option maxHeartbeats 4000000 in
set_option maxRecDepth 100000 in
theorem l_X5_findTwins_2 (G : Gx) {K : Kx} (b : Nat) (q1 : Nat) (h_b : isTn b) (h_q1 : isMd q1)  (E : OKc 56 cX5_findTwins 4 RX5 G K) : ∀ (m : Nat) (v2 : Int32) (σ : MM) (out : MM), loopN (fun s => g_X5_findTwins_2 b q1 s.1 s.2) m (v2, σ) = some out → XJ shS 56 4 rm_X5_findTwins G K out [] 63 [] → XJ shS 56 4 rm_X5_findTwins G K σ [(0, .ref (gad G b)), (1, .ref (gad G q1)), (2, .int v2)] 2 [] := by
  obtain ⟨hs_b_0, hs_b_1, hs_b_2, hs_b_3⟩ := sh_isTn h_b
  obtain ⟨hk_b_0, hk_b_1, hk_b_2, hk_b_3⟩ := lt_isTn h_b
  obtain ⟨hs_q1_0, hs_q1_1, hs_q1_2, hs_q1_3, hs_q1_4⟩ := sh_isMd h_q1
  obtain ⟨hk_q1_0, hk_q1_1, hk_q1_2, hk_q1_3, hk_q1_4⟩ := lt_isMd h_q1
  intro m
  induction m with
  | zero => intro v2 σ out hf; exact (loopN_0 hf).elim
  | succ m ih =>
    intro v2 σ out hf hk
    obtain ⟨q, hf, h2⟩ := loopN_s hf
    have hf : g_X5_findTwins_2 b q1 v2 σ = some q := hf
    unfold g_X5_findTwins_2 at hf
    refine x_iload_n 2 (pc := 2) (i := 2) E dX5_findTwins_2 rfl rfl ?_
    refine x_bipush (pc := 3) (v := (12 : Int32)) E dX5_findTwins_3 rfl ?_
    refine x_icmp_ge (pc := 5) (tgt := 63) E dX5_findTwins_5 (by decide) hf (fun hf => ?_) (fun hf => ?_)
    · obtain rfl := Option.some.inj hf
      obtain rfl := lpk_r h2
      exact x_sub [] rfl hk
    · refine x_aload_n 0 (pc := 8) (i := 0) E dX5_findTwins_8 rfl rfl ?_
      refine x_getR (pc := 9) (r := (b + 2)) (p := 2) E hs_b_0 hk_b_0 rfl inlX5 (by decide) rfl wq_69 dX5_findTwins_9 ?_
      refine x_iload_n 2 (pc := 12) (i := 2) E dX5_findTwins_12 rfl rfl ?_
      refine x_iconst (pc := 13) (v := (0 : Int32)) E dX5_findTwins_13 rfl ?_
      refine x_iastore (pc := 14) E hs_b_2 hk_b_2 dX5_findTwins_14 hf (fun σ1 hf => ?_)
      refine x_iconst (pc := 15) (v := (0 : Int32)) E dX5_findTwins_15 rfl ?_
      refine x_istore_n (pc := 16) (lv' := [(3, .int (0 : Int32)), (0, .ref (gad G b)), (1, .ref (gad G q1)), (2, .int v2)]) E dX5_findTwins_16 rfl (by decide) rfl ?_
      obtain ⟨o4, hl5, hf⟩ := bind_some hf
      refine x_sub [1, 2, 3, 0] rfl (l_X5_findTwins_17 G b q1 h_b h_q1 v2 E FU _ _ o4 hl5 ?_)
      refine x_iinc 2 (pc := 57) (v := v2 + 1) (lv' := [(2, .int (v2 + 1)), (0, .ref (gad G b)), (1, .ref (gad G q1))]) E dX5_findTwins_57 rfl rfl (by decide) rfl ?_
      refine x_goto (pc := 60) (tgt := 2) E dX5_findTwins_60 (by decide) ?_
      obtain rfl := Option.some.inj hf
      exact x_sub [1, 2, 0] rfl (ih _ _ _ (lpk_l h2) hk)
set_option maxHeartbeats 4000000 in
set_option maxRecDepth 100000 in
theorem c_X5_findTwins (G : Gx) (b : Nat) (q1 : Nat) (h_b : isTn b) (h_q1 : isMd q1) (σ : MM) (σ' : MM) (hf : f_X5_findTwins b q1 σ = some σ') : Ct shS 56 yX5_findTwins cX5_findTwins 4 none rm_X5_findTwins G [.ref (gad G b), .ref (gad G q1)] σ none σ' := by
  obtain ⟨hs_b_0, hs_b_1, hs_b_2, hs_b_3⟩ := sh_isTn h_b
  obtain ⟨hk_b_0, hk_b_1, hk_b_2, hk_b_3⟩ := lt_isTn h_b
  obtain ⟨hs_q1_0, hs_q1_1, hs_q1_2, hs_q1_3, hs_q1_4⟩ := sh_isMd h_q1
  obtain ⟨hk_q1_0, hk_q1_1, hk_q1_2, hk_q1_3, hk_q1_4⟩ := lt_isMd h_q1
  refine ct_of (by decide) (Nat.le_of_ble_eq_true rfl) (fun K E hR => ?_)
  have E : OKc 56 cX5_findTwins 4 RX5 G K := E
  show XJ shS 56 4 rm_X5_findTwins G K σ [(0, .ref (gad G b)), (1, .ref (gad G q1))] 0 []
  unfold f_X5_findTwins at hf
  refine x_iconst (pc := 0) (v := (0 : Int32)) E dX5_findTwins_0 rfl ?_
  refine x_istore_n (pc := 1) (lv' := [(2, .int (0 : Int32)), (0, .ref (gad G b)), (1, .ref (gad G q1))]) E dX5_findTwins_1 rfl (by decide) rfl ?_
  obtain ⟨o6, hl7, hf⟩ := bind_some hf
  refine x_sub [1, 2, 0] rfl (l_X5_findTwins_2 G b q1 h_b h_q1  E FU _ _ o6 hl7 ?_)
  obtain rfl := Option.some.inj hf
  exact x_vret (pc := 63) E hR dX5_findTwins_63
set_option maxHeartbeats 4000000 in
set_option maxRecDepth 100000 in
theorem l_X5_lesserLike_2 (G : Gx) {K : Kx} (b : Nat) (h_b : isTn b) (v1 : Int32) (σ : MM) (r : Int32) (hR : RetX shS 56 (some .int) G K (some (.int r)) σ) (E : OKc 56 cX5_lesserLike 4 RX5 G K) : ∀ (m : Nat) (v2 : Int32), loopN (fun s => g_X5_lesserLike_2 b v1 s σ) m (v2) = some r → XJ shS 56 4 rm_X5_lesserLike G K σ [(0, .ref (gad G b)), (1, .int v1), (2, .int v2)] 2 [] := by
  obtain ⟨hs_b_0, hs_b_1, hs_b_2, hs_b_3⟩ := sh_isTn h_b
  obtain ⟨hk_b_0, hk_b_1, hk_b_2, hk_b_3⟩ := lt_isTn h_b
  intro m
  induction m with
  | zero => intro v2 hf; exact (loopN_0 hf).elim
  | succ m ih =>
    intro v2 hf
    obtain ⟨q, hf, h2⟩ := loopN_s hf
    have hf : g_X5_lesserLike_2 b v1 v2 σ = some q := hf
    unfold g_X5_lesserLike_2 at hf
    refine x_iload_n 2 (pc := 2) (i := 2) E dX5_lesserLike_2 rfl rfl ?_
    refine x_bipush (pc := 3) (v := (12 : Int32)) E dX5_lesserLike_3 rfl ?_
    refine x_icmp_ge (pc := 5) (tgt := 47) E dX5_lesserLike_5 (by decide) hf (fun hf => ?_) (fun hf => ?_)
    · refine x_iload_n 1 (pc := 47) (i := 1) E dX5_lesserLike_47 rfl rfl ?_
      obtain rfl := Option.some.inj hf
      obtain rfl := lpk_r h2
      exact x_iret (pc := 48) E hR dX5_lesserLike_48
    · refine x_aload_n 0 (pc := 8) (i := 0) E dX5_lesserLike_8 rfl rfl ?_
      refine x_getR (pc := 9) (r := (b + 2)) (p := 2) E hs_b_0 hk_b_0 rfl inlX5 (by decide) rfl wq_69 dX5_lesserLike_9 ?_
      refine x_iload_n 2 (pc := 12) (i := 2) E dX5_lesserLike_12 rfl rfl ?_
      refine x_iaload (pc := 13) E hs_b_2 hk_b_2 dX5_lesserLike_13 hf (fun hf => ?_)
      refine x_istore_n (pc := 14) (lv' := [(3, .int (σ.1 (b + 2) v2.toNatClampNeg)), (0, .ref (gad G b)), (1, .int v1), (2, .int v2)]) E dX5_lesserLike_14 rfl (by decide) rfl ?_
      refine x_iload_n 2 (pc := 15) (i := 1) E dX5_lesserLike_15 rfl rfl ?_
      refine x_iconst (pc := 16) (v := (1 : Int32)) E dX5_lesserLike_16 rfl ?_
      refine x_iload_n 3 (pc := 17) (i := 2) E dX5_lesserLike_17 rfl rfl ?_
      refine x_ishl (pc := 18) E dX5_lesserLike_18 ?_
      refine x_iand (pc := 19) E dX5_lesserLike_19 ?_
      refine x_if_eq (y := 0) (pc := 20) (tgt := 41) E dX5_lesserLike_20 (by decide) hf (fun hf => ?_) (fun hf => ?_)
      · refine x_iinc 3 (pc := 41) (v := v2 + 1) (lv' := [(2, .int (v2 + 1)), (3, .int (σ.1 (b + 2) v2.toNatClampNeg)), (0, .ref (gad G b)), (1, .int v1)]) E dX5_lesserLike_41 rfl rfl (by decide) rfl ?_
        refine x_goto (pc := 44) (tgt := 2) E dX5_lesserLike_44 (by decide) ?_
        obtain rfl := Option.some.inj hf
        exact x_sub [2, 3, 0] rfl (ih _ (lpk_l h2))
      · refine x_iload_n 0 (pc := 23) (i := 3) E dX5_lesserLike_23 rfl rfl ?_
        refine x_if_eq (y := 0) (pc := 24) (tgt := 41) E dX5_lesserLike_24 (by decide) hf (fun hf => ?_) (fun hf => ?_)
        · refine x_iinc 3 (pc := 41) (v := v2 + 1) (lv' := [(2, .int (v2 + 1)), (3, .int (σ.1 (b + 2) v2.toNatClampNeg)), (0, .ref (gad G b)), (1, .int v1)]) E dX5_lesserLike_41 rfl rfl (by decide) rfl ?_
          refine x_goto (pc := 44) (tgt := 2) E dX5_lesserLike_44 (by decide) ?_
          obtain rfl := Option.some.inj hf
          exact x_sub [2, 3, 0] rfl (ih _ (lpk_l h2))
        · refine x_iload_n 2 (pc := 27) (i := 1) E dX5_lesserLike_27 rfl rfl ?_
          refine x_iload_n 0 (pc := 28) (i := 3) E dX5_lesserLike_28 rfl rfl ?_
          refine x_iand (pc := 29) E dX5_lesserLike_29 ?_
          refine x_if_ne (y := 0) (pc := 30) (tgt := 41) E dX5_lesserLike_30 (by decide) hf (fun hf => ?_) (fun hf => ?_)
          · refine x_iinc 3 (pc := 41) (v := v2 + 1) (lv' := [(2, .int (v2 + 1)), (3, .int (σ.1 (b + 2) v2.toNatClampNeg)), (0, .ref (gad G b)), (1, .int v1)]) E dX5_lesserLike_41 rfl rfl (by decide) rfl ?_
            refine x_goto (pc := 44) (tgt := 2) E dX5_lesserLike_44 (by decide) ?_
            obtain rfl := Option.some.inj hf
            exact x_sub [2, 3, 0] rfl (ih _ (lpk_l h2))
          · refine x_iload_n 2 (pc := 33) (i := 1) E dX5_lesserLike_33 rfl rfl ?_
            refine x_iconst (pc := 34) (v := (1 : Int32)) E dX5_lesserLike_34 rfl ?_
            refine x_iload_n 3 (pc := 35) (i := 2) E dX5_lesserLike_35 rfl rfl ?_
            refine x_ishl (pc := 36) E dX5_lesserLike_36 ?_
            refine x_ixor (pc := 37) E dX5_lesserLike_37 ?_
            refine x_iload_n 0 (pc := 38) (i := 3) E dX5_lesserLike_38 rfl rfl ?_
            refine x_ixor (pc := 39) E dX5_lesserLike_39 ?_
            obtain rfl := Option.some.inj hf
            obtain rfl := lpk_r h2
            exact x_iret (pc := 40) E hR dX5_lesserLike_40
set_option maxHeartbeats 4000000 in
set_option maxRecDepth 100000 in
theorem c_X5_lesserLike (G : Gx) (b : Nat) (h_b : isTn b) (v1 : Int32) (σ : MM) (r : Int32) (hf : f_X5_lesserLike b v1 σ = some r) : Ct shS 56 yX5_lesserLike cX5_lesserLike 4 (some .int) rm_X5_lesserLike G [.ref (gad G b), .int v1] σ (some (.int r)) σ := by
  obtain ⟨hs_b_0, hs_b_1, hs_b_2, hs_b_3⟩ := sh_isTn h_b
  obtain ⟨hk_b_0, hk_b_1, hk_b_2, hk_b_3⟩ := lt_isTn h_b
  refine ct_of (by decide) (Nat.le_of_ble_eq_true rfl) (fun K E hR => ?_)
  have E : OKc 56 cX5_lesserLike 4 RX5 G K := E
  show XJ shS 56 4 rm_X5_lesserLike G K σ [(0, .ref (gad G b)), (1, .int v1)] 0 []
  unfold f_X5_lesserLike at hf
  refine x_iconst (pc := 0) (v := (1 : Int32)) E dX5_lesserLike_0 rfl ?_
  refine x_istore_n (pc := 1) (lv' := [(2, .int (1 : Int32)), (0, .ref (gad G b)), (1, .int v1)]) E dX5_lesserLike_1 rfl (by decide) rfl ?_
  exact x_sub [1, 2, 0] rfl (l_X5_lesserLike_2 G b h_b v1 σ r hR E FU _ hf)
set_option maxHeartbeats 4000000 in
set_option maxRecDepth 100000 in
theorem l_X5_valueAfterBest_17 (G : Gx) {K : Kx} (b : Nat) (h_b : isTn b) (v1 : Int32) (v2 : Int32) (σ : MM) (E : OKc 56 cX5_valueAfterBest 8 RX5 G K) : ∀ (m : Nat) (v3 : Int64) (v5 : Int32) (out : Int64), loopN (fun s => g_X5_valueAfterBest_17 b v1 v2 s.1 s.2 σ) m (v3, v5) = some out → XJ shS 56 8 rm_X5_valueAfterBest G K σ [(3, .long out)] 72 [] → XJ shS 56 8 rm_X5_valueAfterBest G K σ [(0, .ref (gad G b)), (1, .int v1), (2, .int v2), (3, .long v3), (5, .int v5)] 17 [] := by
  obtain ⟨hs_b_0, hs_b_1, hs_b_2, hs_b_3⟩ := sh_isTn h_b
  obtain ⟨hk_b_0, hk_b_1, hk_b_2, hk_b_3⟩ := lt_isTn h_b
  intro m
  induction m with
  | zero => intro v3 v5 out hf; exact (loopN_0 hf).elim
  | succ m ih =>
    intro v3 v5 out hf hk
    obtain ⟨q, hf, h2⟩ := loopN_s hf
    have hf : g_X5_valueAfterBest_17 b v1 v2 v3 v5 σ = some q := hf
    unfold g_X5_valueAfterBest_17 at hf
    refine x_iload 4 (pc := 17) E dX5_valueAfterBest_17 rfl ?_
    refine x_sipush (pc := 19) (v := (4096 : Int32)) E dX5_valueAfterBest_19 rfl ?_
    refine x_icmp_ge (pc := 22) (tgt := 72) E dX5_valueAfterBest_22 (by decide) hf (fun hf => ?_) (fun hf => ?_)
    · obtain rfl := Option.some.inj hf
      obtain rfl := lpk_r h2
      exact x_sub [3] rfl hk
    · refine x_iload_n 1 (pc := 25) (i := 1) E dX5_valueAfterBest_25 rfl rfl ?_
      refine x_iload 4 (pc := 26) E dX5_valueAfterBest_26 rfl ?_
      refine x_iand (pc := 28) E dX5_valueAfterBest_28 ?_
      refine x_if_eq (y := 0) (pc := 29) (tgt := 63) E dX5_valueAfterBest_29 (by decide) hf (fun hf => ?_) (fun hf => ?_)
      · refine x_iload 4 (pc := 63) E dX5_valueAfterBest_63 rfl ?_
        refine x_iconst (pc := 65) (v := (1 : Int32)) E dX5_valueAfterBest_65 rfl ?_
        refine x_ishl (pc := 66) E dX5_valueAfterBest_66 ?_
        refine x_istore (pc := 67) (lv' := [(5, .int (v5 <<< ((1 : Int32) &&& 31))), (0, .ref (gad G b)), (1, .int v1), (2, .int v2), (3, .long v3)]) E dX5_valueAfterBest_67 (by decide) rfl ?_
        refine x_goto (pc := 69) (tgt := 17) E dX5_valueAfterBest_69 (by decide) ?_
        obtain rfl := Option.some.inj hf
        exact x_sub [1, 2, 3, 4, 0] rfl (ih _ _ _ (lpk_l h2) hk)
      · refine x_aload_n 0 (pc := 32) (i := 0) E dX5_valueAfterBest_32 rfl rfl ?_
        refine x_getR (pc := 33) (r := (b + 3)) (p := 0) E hs_b_0 hk_b_0 rfl inlX5 (by decide) rfl wq_70 dX5_valueAfterBest_33 ?_
        refine x_iload_n 1 (pc := 36) (i := 1) E dX5_valueAfterBest_36 rfl rfl ?_
        refine x_iload 4 (pc := 37) E dX5_valueAfterBest_37 rfl ?_
        refine x_ixor (pc := 39) E dX5_valueAfterBest_39 ?_
        refine x_laload (pc := 40) E hs_b_3 hk_b_3 dX5_valueAfterBest_40 hf (fun hf => ?_)
        refine x_lstore (pc := 41) (lv' := [(6, .long (σ.2 (b + 3) (v1 ^^^ v5).toNatClampNeg)), (0, .ref (gad G b)), (1, .int v1), (2, .int v2), (3, .long v3), (5, .int v5)]) E dX5_valueAfterBest_41 (by decide) rfl ?_
        refine x_iload_n 3 (pc := 43) (i := 2) E dX5_valueAfterBest_43 rfl rfl ?_
        obtain ⟨o4, hf6, hf⟩ := bind_some hf
        have hJ5 : XJ shS 56 8 rm_X5_valueAfterBest G K σ [(0, .ref (gad G b)), (1, .int v1), (2, .int v2), (5, .int v5)] 62 [.long o4] := by
          refine x_lstore_n (pc := 62) (lv' := [(3, .long o4), (0, .ref (gad G b)), (1, .int v1), (2, .int v2), (5, .int v5)]) E dX5_valueAfterBest_62 rfl (by decide) rfl ?_
          refine x_iload 4 (pc := 63) E dX5_valueAfterBest_63 rfl ?_
          refine x_iconst (pc := 65) (v := (1 : Int32)) E dX5_valueAfterBest_65 rfl ?_
          refine x_ishl (pc := 66) E dX5_valueAfterBest_66 ?_
          refine x_istore (pc := 67) (lv' := [(5, .int (v5 <<< ((1 : Int32) &&& 31))), (3, .long o4), (0, .ref (gad G b)), (1, .int v1), (2, .int v2)]) E dX5_valueAfterBest_67 (by decide) rfl ?_
          refine x_goto (pc := 69) (tgt := 17) E dX5_valueAfterBest_69 (by decide) ?_
          obtain rfl := Option.some.inj hf
          exact x_sub [2, 3, 4, 1, 0] rfl (ih _ _ _ (lpk_l h2) hk)
        refine x_if_ne (y := 0) (pc := 44) (tgt := 56) E dX5_valueAfterBest_44 (by decide) hf6 (fun hf6 => ?_) (fun hf6 => ?_)
        · refine x_lload_n 4 (pc := 56) (i := 3) E dX5_valueAfterBest_56 rfl rfl ?_
          refine x_lload 0 (pc := 57) E dX5_valueAfterBest_57 rfl ?_
          refine x_mminL (pc := 59) E wq_435 wq_436 wq_433 wq_437 (Nat.le_of_ble_eq_true rfl) (Nat.le_of_ble_eq_true rfl) dX5_valueAfterBest_59 ?_
          obtain rfl := Option.some.inj hf6
          exact x_sub [1, 2, 3, 5] rfl hJ5
        · refine x_lload_n 4 (pc := 47) (i := 3) E dX5_valueAfterBest_47 rfl rfl ?_
          refine x_lload 0 (pc := 48) E dX5_valueAfterBest_48 rfl ?_
          refine x_mmaxL (pc := 50) E wq_431 wq_432 wq_433 wq_434 (Nat.le_of_ble_eq_true rfl) (Nat.le_of_ble_eq_true rfl) dX5_valueAfterBest_50 ?_
          refine x_goto (pc := 53) (tgt := 62) E dX5_valueAfterBest_53 (by decide) ?_
          obtain rfl := Option.some.inj hf6
          exact x_sub [1, 2, 3, 5] rfl hJ5
set_option maxHeartbeats 4000000 in
set_option maxRecDepth 100000 in
theorem c_X5_valueAfterBest (G : Gx) (b : Nat) (h_b : isTn b) (v1 : Int32) (v2 : Int32) (σ : MM) (r : Int64) (hf : f_X5_valueAfterBest b v1 v2 σ = some r) : Ct shS 56 yX5_valueAfterBest cX5_valueAfterBest 8 (some .long) rm_X5_valueAfterBest G [.ref (gad G b), .int v1, .int v2] σ (some (.long r)) σ := by
  obtain ⟨hs_b_0, hs_b_1, hs_b_2, hs_b_3⟩ := sh_isTn h_b
  obtain ⟨hk_b_0, hk_b_1, hk_b_2, hk_b_3⟩ := lt_isTn h_b
  refine ct_of (by decide) (Nat.le_of_ble_eq_true rfl) (fun K E hR => ?_)
  have E : OKc 56 cX5_valueAfterBest 8 RX5 G K := E
  show XJ shS 56 8 rm_X5_valueAfterBest G K σ [(0, .ref (gad G b)), (1, .int v1), (2, .int v2)] 0 []
  unfold f_X5_valueAfterBest at hf
  refine x_iload_n 2 (pc := 0) (i := 2) E dX5_valueAfterBest_0 rfl rfl ?_
  obtain ⟨o1, hf3, hf⟩ := bind_some hf
  have hJ2 : XJ shS 56 8 rm_X5_valueAfterBest G K σ [(0, .ref (gad G b)), (1, .int v1), (2, .int v2)] 13 [.long o1] := by
    refine x_lstore_n (pc := 13) (lv' := [(3, .long o1), (0, .ref (gad G b)), (1, .int v1), (2, .int v2)]) E dX5_valueAfterBest_13 rfl (by decide) rfl ?_
    refine x_iconst (pc := 14) (v := (1 : Int32)) E dX5_valueAfterBest_14 rfl ?_
    refine x_istore (pc := 15) (lv' := [(5, .int (1 : Int32)), (3, .long o1), (0, .ref (gad G b)), (1, .int v1), (2, .int v2)]) E dX5_valueAfterBest_15 (by decide) rfl ?_
    obtain ⟨o7, hl8, hf⟩ := bind_some hf
    refine x_sub [2, 3, 4, 1, 0] rfl (l_X5_valueAfterBest_17 G b h_b v1 v2 σ E FU _ _ o7 hl8 ?_)
    refine x_lload_n 0 (pc := 72) (i := 3) E dX5_valueAfterBest_72 rfl rfl ?_
    obtain rfl := Option.some.inj hf
    exact x_lret (pc := 73) E hR dX5_valueAfterBest_73
  refine x_if_ne (y := 0) (pc := 1) (tgt := 10) E dX5_valueAfterBest_1 (by decide) hf3 (fun hf3 => ?_) (fun hf3 => ?_)
  · refine x_ldc2 (pc := 10) (v := 10000000000000001) E wq_430 dX5_valueAfterBest_10 ?_
    obtain rfl := Option.some.inj hf3
    exact x_sub [0, 1, 2] rfl hJ2
  · refine x_ldc2 (pc := 4) (v := -1) E wq_429 dX5_valueAfterBest_4 ?_
    refine x_goto (pc := 7) (tgt := 13) E dX5_valueAfterBest_7 (by decide) ?_
    obtain rfl := Option.some.inj hf3
    exact x_sub [0, 1, 2] rfl hJ2
set_option maxHeartbeats 4000000 in
set_option maxRecDepth 100000 in
theorem c_X5_worthOf (G : Gx) (b : Nat) (q1 : Nat) (h_b : isTn b) (h_q1 : isMd q1) (v2 : Int32) (σ : MM) (r : Int64) (σ' : MM) (hf : f_X5_worthOf b q1 v2 σ = some (r, σ')) : Ct shS 56 yX5_worthOf cX5_worthOf 5 (some .long) rm_X5_worthOf G [.ref (gad G b), .ref (gad G q1), .int v2] σ (some (.long r)) σ' := by
  obtain ⟨hs_b_0, hs_b_1, hs_b_2, hs_b_3⟩ := sh_isTn h_b
  obtain ⟨hk_b_0, hk_b_1, hk_b_2, hk_b_3⟩ := lt_isTn h_b
  obtain ⟨hs_q1_0, hs_q1_1, hs_q1_2, hs_q1_3, hs_q1_4⟩ := sh_isMd h_q1
  obtain ⟨hk_q1_0, hk_q1_1, hk_q1_2, hk_q1_3, hk_q1_4⟩ := lt_isMd h_q1
  refine ct_of (by decide) (Nat.le_of_ble_eq_true rfl) (fun K E hR => ?_)
  have E : OKc 56 cX5_worthOf 5 RX5 G K := E
  show XJ shS 56 5 rm_X5_worthOf G K σ [(0, .ref (gad G b)), (1, .ref (gad G q1)), (2, .int v2)] 0 []
  unfold f_X5_worthOf at hf
  refine x_aload_n 0 (pc := 0) (i := 0) E dX5_worthOf_0 rfl rfl ?_
  refine x_iload_n 2 (pc := 1) (i := 2) E dX5_worthOf_1 rfl rfl ?_
  refine x_callVri (pc := 2) (na := 1) (As := [.int v2]) E (c_X5_lesserLike G b h_b v2 σ) hs_b_0 hk_b_0 rfl wq_424 wq_33 wq_421 wq_422 wq_423 rfl rfl (by decide) ⟨Nat.le_of_ble_eq_true rfl, Nat.le_of_ble_eq_true rfl⟩ rfl rfl (Nat.le_of_ble_eq_true rfl) dX5_worthOf_2 hf (fun r1 hf => ?_)
  refine x_istore_n (pc := 5) (lv' := [(3, .int r1), (0, .ref (gad G b)), (1, .ref (gad G q1)), (2, .int v2)]) E dX5_worthOf_5 rfl (by decide) rfl ?_
  refine x_iload_n 0 (pc := 6) (i := 3) E dX5_worthOf_6 rfl rfl ?_
  refine x_iload_n 3 (pc := 7) (i := 2) E dX5_worthOf_7 rfl rfl ?_
  refine x_icmp_eq (pc := 8) (tgt := 18) E dX5_worthOf_8 (by decide) hf (fun hf => ?_) (fun hf => ?_)
  · refine x_iload_n 3 (pc := 18) (i := 2) E dX5_worthOf_18 rfl rfl ?_
    refine x_callSri (pc := 19) (na := 1) (As := [.int v2]) E (c_J6_bitCount_0f7a4 G v2 σ) wq_309 wq_308 wq_416 wq_307 rfl rfl (by decide) ⟨Nat.le_of_ble_eq_true rfl, Nat.le_of_ble_eq_true rfl⟩ rfl rfl (Nat.le_of_ble_eq_true rfl) dX5_worthOf_19 hf (fun r2 hf => ?_)
    refine x_istore (pc := 22) (lv' := [(4, .int r2), (3, .int r1), (0, .ref (gad G b)), (1, .ref (gad G q1)), (2, .int v2)]) E dX5_worthOf_22 (by decide) rfl ?_
    refine x_iload 0 (pc := 24) E dX5_worthOf_24 rfl ?_
    refine x_aload_n 2 (pc := 26) (i := 0) E dX5_worthOf_26 rfl rfl ?_
    refine x_getI (pc := 27) (p := 5) E hs_b_0 hk_b_0 rfl inlX5 (by decide) rfl wq_405 dX5_worthOf_27 ?_
    refine x_icmp_ne (pc := 30) (tgt := 41) E dX5_worthOf_30 (by decide) hf (fun hf => ?_) (fun hf => ?_)
    · refine x_aload_n 2 (pc := 41) (i := 0) E dX5_worthOf_41 rfl rfl ?_
      refine x_iload_n 4 (pc := 42) (i := 2) E dX5_worthOf_42 rfl rfl ?_
      refine x_aload_n 2 (pc := 43) (i := 0) E dX5_worthOf_43 rfl rfl ?_
      refine x_getR (pc := 44) (r := (b + 1)) (p := 1) E hs_b_0 hk_b_0 rfl inlX5 (by decide) rfl wq_68 dX5_worthOf_44 ?_
      refine x_aload_n 2 (pc := 47) (i := 0) E dX5_worthOf_47 rfl rfl ?_
      refine x_getI (pc := 48) (p := 5) E hs_b_0 hk_b_0 rfl inlX5 (by decide) rfl wq_405 dX5_worthOf_48 ?_
      refine x_aload_n 2 (pc := 51) (i := 0) E dX5_worthOf_51 rfl rfl ?_
      refine x_getI (pc := 52) (p := 4) E hs_b_0 hk_b_0 rfl inlX5 (by decide) rfl wq_404 dX5_worthOf_52 ?_
      refine x_iadd (pc := 55) E dX5_worthOf_55 ?_
      refine x_iload 0 (pc := 56) E dX5_worthOf_56 rfl ?_
      refine x_isub (pc := 58) E dX5_worthOf_58 ?_
      refine x_iaload (pc := 59) E hs_b_1 hk_b_1 dX5_worthOf_59 hf (fun hf => ?_)
      refine x_callVrl (pc := 60) (na := 2) (As := [.int v2, .int (σ.1 (b + 1) (((σ.1 b 5) + (σ.1 b 4)) - r2).toNatClampNeg)]) E (c_X5_valueAfterBest G b h_b v2 (σ.1 (b + 1) (((σ.1 b 5) + (σ.1 b 4)) - r2).toNatClampNeg) σ) hs_b_0 hk_b_0 rfl wq_428 wq_33 wq_425 wq_426 wq_427 rfl rfl (by decide) ⟨Nat.le_of_ble_eq_true rfl, Nat.le_of_ble_eq_true rfl⟩ rfl rfl (Nat.le_of_ble_eq_true rfl) dX5_worthOf_60 hf (fun r3 hf => ?_)
      obtain ⟨rfl, rfl⟩ := Prod.mk.inj (Option.some.inj hf)
      exact x_lret (pc := 63) E hR dX5_worthOf_63
    · refine x_aload_n 3 (pc := 33) (i := 1) E dX5_worthOf_33 rfl rfl ?_
      refine x_iload_n 4 (pc := 34) (i := 2) E dX5_worthOf_34 rfl rfl ?_
      refine x_callVNwl (pc := 35) (na := 1) (As := [.int v2]) E (c_X2_chanceOf G q1 h_q1 v2 σ) hs_q1_0 hk_q1_0 rfl wq_320 wq_28 wn_37 wq_318 wq_319 rfl rfl (by decide) ⟨Nat.le_of_ble_eq_true rfl, Nat.le_of_ble_eq_true rfl⟩ rfl rfl (Nat.le_of_ble_eq_true rfl) dX5_worthOf_35 hf (fun r4 σ5 hf => ?_)
      refine x_goto (pc := 38) (tgt := 63) E dX5_worthOf_38 (by decide) ?_
      obtain ⟨rfl, rfl⟩ := Prod.mk.inj (Option.some.inj hf)
      exact x_lret (pc := 63) E hR dX5_worthOf_63
  · refine x_aload_n 1 (pc := 11) (i := 0) E dX5_worthOf_11 rfl rfl ?_
    refine x_getR (pc := 12) (r := (b + 3)) (p := 0) E hs_b_0 hk_b_0 rfl inlX5 (by decide) rfl wq_70 dX5_worthOf_12 ?_
    refine x_iload_n 0 (pc := 15) (i := 3) E dX5_worthOf_15 rfl rfl ?_
    refine x_laload (pc := 16) E hs_b_3 hk_b_3 dX5_worthOf_16 hf (fun hf => ?_)
    obtain ⟨rfl, rfl⟩ := Prod.mk.inj (Option.some.inj hf)
    exact x_lret (pc := 17) E hR dX5_worthOf_17
set_option maxHeartbeats 4000000 in
set_option maxRecDepth 100000 in
theorem l_X5_lookBack_24 (G : Gx) {K : Kx} (b : Nat) (q1 : Nat) (h_b : isTn b) (h_q1 : isMd q1) (v3 : Int32) (v4 : Int32) (v5 : Int32) (E : OKc 56 cX5_lookBack 7 RX5 G K) : ∀ (m : Nat) (v6 : Int32) (σ : MM) (out : MM), loopN (fun s => g_X5_lookBack_24 b q1 v3 v4 v5 s.1 s.2) m (v6, σ) = some out → XJ shS 56 7 rm_X5_lookBack G K out [(0, .ref (gad G b)), (1, .ref (gad G q1))] 56 [] → XJ shS 56 7 rm_X5_lookBack G K σ [(0, .ref (gad G b)), (1, .ref (gad G q1)), (3, .int v3), (4, .int v4), (5, .int v5), (6, .int v6)] 24 [] := by
  obtain ⟨hs_b_0, hs_b_1, hs_b_2, hs_b_3⟩ := sh_isTn h_b
  obtain ⟨hk_b_0, hk_b_1, hk_b_2, hk_b_3⟩ := lt_isTn h_b
  obtain ⟨hs_q1_0, hs_q1_1, hs_q1_2, hs_q1_3, hs_q1_4⟩ := sh_isMd h_q1
  obtain ⟨hk_q1_0, hk_q1_1, hk_q1_2, hk_q1_3, hk_q1_4⟩ := lt_isMd h_q1
  intro m
  induction m with
  | zero => intro v6 σ out hf; exact (loopN_0 hf).elim
  | succ m ih =>
    intro v6 σ out hf hk
    obtain ⟨q, hf, h2⟩ := loopN_s hf
    have hf : g_X5_lookBack_24 b q1 v3 v4 v5 v6 σ = some q := hf
    unfold g_X5_lookBack_24 at hf
    refine x_iload 5 (pc := 24) E dX5_lookBack_24 rfl ?_
    refine x_aload_n 0 (pc := 26) (i := 0) E dX5_lookBack_26 rfl rfl ?_
    refine x_getI (pc := 27) (p := 4) E hs_b_0 hk_b_0 rfl inlX5 (by decide) rfl wq_404 dX5_lookBack_27 ?_
    refine x_icmp_ge (pc := 30) (tgt := 56) E dX5_lookBack_30 (by decide) hf (fun hf => ?_) (fun hf => ?_)
    · obtain rfl := Option.some.inj hf
      obtain rfl := lpk_r h2
      exact x_sub [0, 1] rfl hk
    · refine x_aload_n 0 (pc := 33) (i := 0) E dX5_lookBack_33 rfl rfl ?_
      refine x_getR (pc := 34) (r := (b + 1)) (p := 1) E hs_b_0 hk_b_0 rfl inlX5 (by decide) rfl wq_68 dX5_lookBack_34 ?_
      refine x_iload 5 (pc := 37) E dX5_lookBack_37 rfl ?_
      refine x_iload 5 (pc := 39) E dX5_lookBack_39 rfl ?_
      refine x_iload_n 2 (pc := 41) (i := 3) E dX5_lookBack_41 rfl rfl ?_
      refine x_iload 3 (pc := 42) E dX5_lookBack_42 rfl ?_
      refine x_iload 4 (pc := 44) E dX5_lookBack_44 rfl ?_
      refine x_callSri (pc := 46) (na := 4) (As := [.int v6, .int v3, .int v4, .int v5]) E (c_X5_sideAt G v6 v3 v4 v5 σ) wq_408 wq_33 wq_406 wq_407 rfl rfl (by decide) ⟨Nat.le_of_ble_eq_true rfl, Nat.le_of_ble_eq_true rfl⟩ rfl rfl (Nat.le_of_ble_eq_true rfl) dX5_lookBack_46 hf (fun r4 hf => ?_)
      refine x_iastore (pc := 49) E hs_b_1 hk_b_1 dX5_lookBack_49 hf (fun σ5 hf => ?_)
      refine x_iinc 5 (pc := 50) (v := v6 + 1) (lv' := [(6, .int (v6 + 1)), (0, .ref (gad G b)), (1, .ref (gad G q1)), (3, .int v3), (4, .int v4), (5, .int v5)]) E dX5_lookBack_50 rfl rfl (by decide) rfl ?_
      refine x_goto (pc := 53) (tgt := 24) E dX5_lookBack_53 (by decide) ?_
      obtain rfl := Option.some.inj hf
      exact x_sub [1, 2, 3, 4, 5, 0] rfl (ih _ _ _ (lpk_l h2) hk)
set_option maxHeartbeats 4000000 in
set_option maxRecDepth 100000 in
theorem l_X5_lookBack_64 (G : Gx) {K : Kx} (b : Nat) (q1 : Nat) (h_b : isTn b) (h_q1 : isMd q1)  (E : OKc 56 cX5_lookBack 7 RX5 G K) : ∀ (m : Nat) (v6 : Int32) (σ : MM) (out : MM), loopN (fun s => g_X5_lookBack_64 b q1 s.1 s.2) m (v6, σ) = some out → XJ shS 56 7 rm_X5_lookBack G K out [] 117 [] → XJ shS 56 7 rm_X5_lookBack G K σ [(0, .ref (gad G b)), (1, .ref (gad G q1)), (6, .int v6)] 64 [] := by
  obtain ⟨hs_b_0, hs_b_1, hs_b_2, hs_b_3⟩ := sh_isTn h_b
  obtain ⟨hk_b_0, hk_b_1, hk_b_2, hk_b_3⟩ := lt_isTn h_b
  obtain ⟨hs_q1_0, hs_q1_1, hs_q1_2, hs_q1_3, hs_q1_4⟩ := sh_isMd h_q1
  obtain ⟨hk_q1_0, hk_q1_1, hk_q1_2, hk_q1_3, hk_q1_4⟩ := lt_isMd h_q1
  intro m
  induction m with
  | zero => intro v6 σ out hf; exact (loopN_0 hf).elim
  | succ m ih =>
    intro v6 σ out hf hk
    obtain ⟨q, hf, h2⟩ := loopN_s hf
    have hf : g_X5_lookBack_64 b q1 v6 σ = some q := hf
    unfold g_X5_lookBack_64 at hf
    refine x_iload 2 (pc := 64) E dX5_lookBack_64 rfl ?_
    refine x_aload_n 0 (pc := 66) (i := 0) E dX5_lookBack_66 rfl rfl ?_
    refine x_getI (pc := 67) (p := 3) E hs_b_0 hk_b_0 rfl inlX5 (by decide) rfl wq_403 dX5_lookBack_67 ?_
    refine x_icmp_gt (pc := 70) (tgt := 117) E dX5_lookBack_70 (by decide) hf (fun hf => ?_) (fun hf => ?_)
    · obtain rfl := Option.some.inj hf
      obtain rfl := lpk_r h2
      exact x_sub [] rfl hk
    · refine x_iload 2 (pc := 73) E dX5_lookBack_73 rfl ?_
      refine x_aload_n 0 (pc := 75) (i := 0) E dX5_lookBack_75 rfl rfl ?_
      refine x_getI (pc := 76) (p := 3) E hs_b_0 hk_b_0 rfl inlX5 (by decide) rfl wq_403 dX5_lookBack_76 ?_
      refine x_iconst (pc := 79) (v := (-1 : Int32)) E dX5_lookBack_79 rfl ?_
      refine x_ixor (pc := 80) E dX5_lookBack_80 ?_
      refine x_iand (pc := 81) E dX5_lookBack_81 ?_
      refine x_if_ne (y := 0) (pc := 82) (tgt := 111) E dX5_lookBack_82 (by decide) hf (fun hf => ?_) (fun hf => ?_)
      · refine x_iinc 2 (pc := 111) (v := v6 + 1) (lv' := [(6, .int (v6 + 1)), (0, .ref (gad G b)), (1, .ref (gad G q1))]) E dX5_lookBack_111 rfl rfl (by decide) rfl ?_
        refine x_goto (pc := 114) (tgt := 64) E dX5_lookBack_114 (by decide) ?_
        obtain rfl := Option.some.inj hf
        exact x_sub [1, 2, 0] rfl (ih _ _ _ (lpk_l h2) hk)
      · refine x_iload 2 (pc := 85) E dX5_lookBack_85 rfl ?_
        refine x_callSri (pc := 87) (na := 1) (As := [.int v6]) E (c_J6_bitCount_0f7a4 G v6 σ) wq_309 wq_308 wq_416 wq_307 rfl rfl (by decide) ⟨Nat.le_of_ble_eq_true rfl, Nat.le_of_ble_eq_true rfl⟩ rfl rfl (Nat.le_of_ble_eq_true rfl) dX5_lookBack_87 hf (fun r10 hf => ?_)
        refine x_aload_n 0 (pc := 90) (i := 0) E dX5_lookBack_90 rfl rfl ?_
        refine x_getI (pc := 91) (p := 5) E hs_b_0 hk_b_0 rfl inlX5 (by decide) rfl wq_405 dX5_lookBack_91 ?_
        refine x_icmp_lt (pc := 94) (tgt := 111) E dX5_lookBack_94 (by decide) hf (fun hf => ?_) (fun hf => ?_)
        · refine x_iinc 2 (pc := 111) (v := v6 + 1) (lv' := [(6, .int (v6 + 1)), (0, .ref (gad G b)), (1, .ref (gad G q1))]) E dX5_lookBack_111 rfl rfl (by decide) rfl ?_
          refine x_goto (pc := 114) (tgt := 64) E dX5_lookBack_114 (by decide) ?_
          obtain rfl := Option.some.inj hf
          exact x_sub [1, 2, 0] rfl (ih _ _ _ (lpk_l h2) hk)
        · refine x_aload_n 0 (pc := 97) (i := 0) E dX5_lookBack_97 rfl rfl ?_
          refine x_getR (pc := 98) (r := (b + 3)) (p := 0) E hs_b_0 hk_b_0 rfl inlX5 (by decide) rfl wq_70 dX5_lookBack_98 ?_
          refine x_iload 2 (pc := 101) E dX5_lookBack_101 rfl ?_
          refine x_aload_n 0 (pc := 103) (i := 0) E dX5_lookBack_103 rfl rfl ?_
          refine x_aload_n 1 (pc := 104) (i := 1) E dX5_lookBack_104 rfl rfl ?_
          refine x_iload 2 (pc := 105) E dX5_lookBack_105 rfl ?_
          refine x_callVwl (pc := 107) (na := 2) (As := [.ref (gad G q1), .int v6]) E (c_X5_worthOf G b q1 h_b h_q1 v6 σ) hs_b_0 hk_b_0 rfl wq_420 wq_33 wq_417 wq_418 wq_419 rfl rfl (by decide) ⟨Nat.le_of_ble_eq_true rfl, Nat.le_of_ble_eq_true rfl⟩ rfl rfl (Nat.le_of_ble_eq_true rfl) dX5_lookBack_107 hf (fun r11 σ12 hf => ?_)
          refine x_lastore (pc := 110) E hs_b_3 hk_b_3 dX5_lookBack_110 hf (fun σ13 hf => ?_)
          refine x_iinc 2 (pc := 111) (v := v6 + 1) (lv' := [(6, .int (v6 + 1)), (0, .ref (gad G b)), (1, .ref (gad G q1))]) E dX5_lookBack_111 rfl rfl (by decide) rfl ?_
          refine x_goto (pc := 114) (tgt := 64) E dX5_lookBack_114 (by decide) ?_
          obtain rfl := Option.some.inj hf
          exact x_sub [1, 2, 0] rfl (ih _ _ _ (lpk_l h2) hk)
set_option maxHeartbeats 4000000 in
set_option maxRecDepth 100000 in
theorem c_X5_lookBack (G : Gx) (b : Nat) (q1 : Nat) (h_b : isTn b) (h_q1 : isMd q1) (v2 : Int32) (v3 : Int32) (v4 : Int32) (v5 : Int32) (σ : MM) (σ' : MM) (hf : f_X5_lookBack b q1 v2 v3 v4 v5 σ = some σ') : Ct shS 56 yX5_lookBack cX5_lookBack 7 none rm_X5_lookBack G [.ref (gad G b), .ref (gad G q1), .int v2, .int v3, .int v4, .int v5] σ none σ' := by
  obtain ⟨hs_b_0, hs_b_1, hs_b_2, hs_b_3⟩ := sh_isTn h_b
  obtain ⟨hk_b_0, hk_b_1, hk_b_2, hk_b_3⟩ := lt_isTn h_b
  obtain ⟨hs_q1_0, hs_q1_1, hs_q1_2, hs_q1_3, hs_q1_4⟩ := sh_isMd h_q1
  obtain ⟨hk_q1_0, hk_q1_1, hk_q1_2, hk_q1_3, hk_q1_4⟩ := lt_isMd h_q1
  refine ct_of (by decide) (Nat.le_of_ble_eq_true rfl) (fun K E hR => ?_)
  have E : OKc 56 cX5_lookBack 7 RX5 G K := E
  show XJ shS 56 7 rm_X5_lookBack G K σ [(0, .ref (gad G b)), (1, .ref (gad G q1)), (2, .int v2), (3, .int v3), (4, .int v4), (5, .int v5)] 0 []
  unfold f_X5_lookBack at hf
  refine x_aload_n 0 (pc := 0) (i := 0) E dX5_lookBack_0 rfl rfl ?_
  refine x_iload_n 2 (pc := 1) (i := 2) E dX5_lookBack_1 rfl rfl ?_
  refine x_put (pc := 2) (p := 3) E hs_b_0 hk_b_0 rfl inlX5 tyX5_ok nmX5 (by decide) rfl rfl rfl rfl wq_403 dX5_lookBack_2 hf (fun σ1 hf => ?_)
  refine x_aload_n 0 (pc := 5) (i := 0) E dX5_lookBack_5 rfl rfl ?_
  refine x_iload_n 3 (pc := 6) (i := 3) E dX5_lookBack_6 rfl rfl ?_
  refine x_iload 4 (pc := 7) E dX5_lookBack_7 rfl ?_
  refine x_iadd (pc := 9) E dX5_lookBack_9 ?_
  refine x_put (pc := 10) (p := 4) E hs_b_0 hk_b_0 rfl inlX5 tyX5_ok nmX5 (by decide) rfl rfl rfl rfl wq_404 dX5_lookBack_10 hf (fun σ2 hf => ?_)
  refine x_aload_n 0 (pc := 13) (i := 0) E dX5_lookBack_13 rfl rfl ?_
  refine x_aload_n 1 (pc := 14) (i := 1) E dX5_lookBack_14 rfl rfl ?_
  refine x_getIN (pc := 15) (p := 4) E hs_q1_0 hk_q1_0 rfl inlX2 (by decide) rfl wn_18 dX5_lookBack_15 ?_
  refine x_put (pc := 18) (p := 5) E hs_b_0 hk_b_0 rfl inlX5 tyX5_ok nmX5 (by decide) rfl rfl rfl rfl wq_405 dX5_lookBack_18 hf (fun σ3 hf => ?_)
  refine x_iconst (pc := 21) (v := (0 : Int32)) E dX5_lookBack_21 rfl ?_
  refine x_istore (pc := 22) (lv' := [(6, .int (0 : Int32)), (0, .ref (gad G b)), (1, .ref (gad G q1)), (2, .int v2), (3, .int v3), (4, .int v4), (5, .int v5)]) E dX5_lookBack_22 (by decide) rfl ?_
  obtain ⟨o6, hl7, hf⟩ := bind_some hf
  refine x_sub [1, 2, 4, 5, 6, 0] rfl (l_X5_lookBack_24 G b q1 h_b h_q1 v3 v4 v5 E FU _ _ o6 hl7 ?_)
  refine x_aload_n 0 (pc := 56) (i := 0) E dX5_lookBack_56 rfl rfl ?_
  refine x_aload_n 1 (pc := 57) (i := 1) E dX5_lookBack_57 rfl rfl ?_
  refine x_callVwv (pc := 58) (na := 1) (As := [.ref (gad G q1)]) E (c_X5_findTwins G b q1 h_b h_q1 o6) hs_b_0 hk_b_0 rfl wq_412 wq_33 wq_409 wq_410 wq_411 rfl rfl (by decide) ⟨Nat.le_of_ble_eq_true rfl, Nat.le_of_ble_eq_true rfl⟩ rfl rfl (Nat.le_of_ble_eq_true rfl) dX5_lookBack_58 hf (fun σ9 hf => ?_)
  refine x_iconst (pc := 61) (v := (1 : Int32)) E dX5_lookBack_61 rfl ?_
  refine x_istore (pc := 62) (lv' := [(6, .int (1 : Int32)), (0, .ref (gad G b)), (1, .ref (gad G q1))]) E dX5_lookBack_62 (by decide) rfl ?_
  obtain ⟨o14, hl15, hf⟩ := bind_some hf
  refine x_sub [1, 2, 0] rfl (l_X5_lookBack_64 G b q1 h_b h_q1  E FU _ _ o14 hl15 ?_)
  obtain rfl := Option.some.inj hf
  exact x_vret (pc := 117) E hR dX5_lookBack_117
set_option maxHeartbeats 4000000 in
set_option maxRecDepth 100000 in
theorem c_X5_valueOf (G : Gx) (b : Nat) (h_b : isTn b) (v1 : Int32) (σ : MM) (r : Int64) (hf : f_X5_valueOf b v1 σ = some r) : Ct shS 56 yX5_valueOf cX5_valueOf 2 (some .long) rm_X5_valueOf G [.ref (gad G b), .int v1] σ (some (.long r)) σ := by
  obtain ⟨hs_b_0, hs_b_1, hs_b_2, hs_b_3⟩ := sh_isTn h_b
  obtain ⟨hk_b_0, hk_b_1, hk_b_2, hk_b_3⟩ := lt_isTn h_b
  refine ct_of (by decide) (Nat.le_of_ble_eq_true rfl) (fun K E hR => ?_)
  have E : OKc 56 cX5_valueOf 2 RX5 G K := E
  show XJ shS 56 2 rm_X5_valueOf G K σ [(0, .ref (gad G b)), (1, .int v1)] 0 []
  unfold f_X5_valueOf at hf
  refine x_aload_n 0 (pc := 0) (i := 0) E dX5_valueOf_0 rfl rfl ?_
  refine x_getR (pc := 1) (r := (b + 3)) (p := 0) E hs_b_0 hk_b_0 rfl inlX5 (by decide) rfl wq_70 dX5_valueOf_1 ?_
  refine x_iload_n 1 (pc := 4) (i := 1) E dX5_valueOf_4 rfl rfl ?_
  refine x_laload (pc := 5) E hs_b_3 hk_b_3 dX5_valueOf_5 hf (fun hf => ?_)
  obtain rfl := Option.some.inj hf
  exact x_lret (pc := 6) E hR dX5_valueOf_6
set_option maxHeartbeats 4000000 in
set_option maxRecDepth 100000 in
theorem c_X6_best (G : Gx) (v1 : Int32) (v2 : Int32) (v3 : Int32) (σ : MM) (r : Int64) (σ' : MM) (hf : f_X6_best v1 v2 v3 σ = some (r, σ')) : Ct shS 56 yX6_best cX6_best 5 (some .long) rm_X6_best G [.ref (gad G 0), .int v1, .int v2, .int v3] σ (some (.long r)) σ' := by
  refine ct_of (by decide) (Nat.le_of_ble_eq_true rfl) (fun K E hR => ?_)
  have E : OKc 56 cX6_best 5 RX6 G K := E
  show XJ shS 56 5 rm_X6_best G K σ [(0, .ref (gad G 0)), (1, .int v1), (2, .int v2), (3, .int v3)] 0 []
  unfold f_X6_best at hf
  refine x_aload_n 0 (pc := 0) (i := 0) E dX6_best_0 rfl rfl ?_
  refine x_iload_n 1 (pc := 1) (i := 1) E dX6_best_1 rfl rfl ?_
  refine x_iload_n 2 (pc := 2) (i := 2) E dX6_best_2 rfl rfl ?_
  refine x_iload_n 3 (pc := 3) (i := 3) E dX6_best_3 rfl rfl ?_
  refine x_callVri (pc := 4) (na := 3) (As := [.int v1, .int v2, .int v3]) E (c_X6_leftRefusal G v1 v2 v3 σ) rfl (Nat.le_of_ble_eq_true rfl) rfl wq_396 wq_2 wq_393 wq_394 wq_395 rfl rfl (by decide) ⟨Nat.le_of_ble_eq_true rfl, Nat.le_of_ble_eq_true rfl⟩ rfl rfl (Nat.le_of_ble_eq_true rfl) dX6_best_4 hf (fun r1 hf => ?_)
  refine x_istore (pc := 7) (lv' := [(4, .int r1), (0, .ref (gad G 0)), (1, .int v1), (2, .int v2), (3, .int v3)]) E dX6_best_7 (by decide) rfl ?_
  refine x_iload 0 (pc := 9) E dX6_best_9 rfl ?_
  refine x_if_eq (y := 0) (pc := 11) (tgt := 21) E dX6_best_11 (by decide) hf (fun hf => ?_) (fun hf => ?_)
  · refine x_aload_n 1 (pc := 21) (i := 0) E dX6_best_21 rfl rfl ?_
    refine x_getR (pc := 22) (r := 46) (p := 10) E rfl (Nat.le_of_ble_eq_true rfl) rfl inlX6 (by decide) rfl wq_35 dX6_best_22 ?_
    refine x_aload_n 1 (pc := 25) (i := 0) E dX6_best_25 rfl rfl ?_
    refine x_getR (pc := 26) (r := 16) (p := 7) E rfl (Nat.le_of_ble_eq_true rfl) rfl inlX6 (by decide) rfl wq_29 dX6_best_26 ?_
    refine x_iload_n 2 (pc := 29) (i := 1) E dX6_best_29 rfl rfl ?_
    refine x_iload_n 3 (pc := 30) (i := 2) E dX6_best_30 rfl rfl ?_
    refine x_bipush (pc := 31) (v := (10 : Int32)) E dX6_best_31 rfl ?_
    refine x_idiv (pc := 33) E dX6_best_33 hf (fun hf => ?_)
    refine x_iload_n 3 (pc := 34) (i := 2) E dX6_best_34 rfl rfl ?_
    refine x_bipush (pc := 35) (v := (10 : Int32)) E dX6_best_35 rfl ?_
    refine x_irem (pc := 37) E dX6_best_37 hf (fun hf => ?_)
    refine x_iload_n 4 (pc := 38) (i := 3) E dX6_best_38 rfl rfl ?_
    refine x_callVNwv (pc := 39) (na := 5) (As := [.ref (gad G 16), .int v1, .int (v2 / (10 : Int32)), .int (v2 - v2 / (10 : Int32) * (10 : Int32)), .int v3]) E (c_X5_lookBack G 46 16 (Or.inr rfl) (Or.inl rfl) v1 (v2 / (10 : Int32)) (v2 - v2 / (10 : Int32) * (10 : Int32)) v3 σ) rfl (Nat.le_of_ble_eq_true rfl) rfl wq_402 wq_33 wn_35 wq_400 wq_401 rfl rfl (by decide) ⟨Nat.le_of_ble_eq_true rfl, Nat.le_of_ble_eq_true rfl⟩ rfl rfl (Nat.le_of_ble_eq_true rfl) dX6_best_39 hf (fun σ3 hf => ?_)
    refine x_aload_n 1 (pc := 42) (i := 0) E dX6_best_42 rfl rfl ?_
    refine x_getR (pc := 43) (r := 46) (p := 10) E rfl (Nat.le_of_ble_eq_true rfl) rfl inlX6 (by decide) rfl wq_35 dX6_best_43 ?_
    refine x_iload_n 2 (pc := 46) (i := 1) E dX6_best_46 rfl rfl ?_
    refine x_callVNrl (pc := 47) (na := 1) (As := [.int v1]) E (c_X5_valueOf G 46 (Or.inr rfl) v1 σ3) rfl (Nat.le_of_ble_eq_true rfl) rfl wq_440 wq_33 wn_38 wq_438 wq_439 rfl rfl (by decide) ⟨Nat.le_of_ble_eq_true rfl, Nat.le_of_ble_eq_true rfl⟩ rfl rfl (Nat.le_of_ble_eq_true rfl) dX6_best_47 hf (fun r4 hf => ?_)
    obtain ⟨rfl, rfl⟩ := Prod.mk.inj (Option.some.inj hf)
    exact x_lret (pc := 50) E hR dX6_best_50
  · refine x_aload_n 1 (pc := 14) (i := 0) E dX6_best_14 rfl rfl ?_
    refine x_iload 0 (pc := 15) E dX6_best_15 rfl ?_
    refine x_callVwl (pc := 17) (na := 1) (As := [.int r1]) E (c_X6_refuseLong G r1 σ) rfl (Nat.le_of_ble_eq_true rfl) rfl wq_316 wq_2 wq_313 wq_314 wq_315 rfl rfl (by decide) ⟨Nat.le_of_ble_eq_true rfl, Nat.le_of_ble_eq_true rfl⟩ rfl rfl (Nat.le_of_ble_eq_true rfl) dX6_best_17 hf (fun r5 σ6 hf => ?_)
    obtain ⟨rfl, rfl⟩ := Prod.mk.inj (Option.some.inj hf)
    exact x_lret (pc := 20) E hR dX6_best_20
set_option maxHeartbeats 4000000 in
set_option maxRecDepth 100000 in
theorem l_X5_strikeFrom_16 (G : Gx) {K : Kx} (b : Nat) (h_b : isTn b) (v1 : Int32) (σ : MM) (r : Int32) (hR : RetX shS 56 (some .int) G K (some (.int r)) σ) (E : OKc 56 cX5_strikeFrom 4 RX5 G K) : ∀ (m : Nat) (v2 : Int32), loopN (fun s => g_X5_strikeFrom_16 b v1 s σ) m (v2) = some r → XJ shS 56 4 rm_X5_strikeFrom G K σ [(0, .ref (gad G b)), (1, .int v1), (2, .int v2)] 16 [] := by
  obtain ⟨hs_b_0, hs_b_1, hs_b_2, hs_b_3⟩ := sh_isTn h_b
  obtain ⟨hk_b_0, hk_b_1, hk_b_2, hk_b_3⟩ := lt_isTn h_b
  intro m
  induction m with
  | zero => intro v2 hf; exact (loopN_0 hf).elim
  | succ m ih =>
    intro v2 hf
    obtain ⟨q, hf, h2⟩ := loopN_s hf
    have hf : g_X5_strikeFrom_16 b v1 v2 σ = some q := hf
    unfold g_X5_strikeFrom_16 at hf
    refine x_iload_n 2 (pc := 16) (i := 2) E dX5_strikeFrom_16 rfl rfl ?_
    refine x_bipush (pc := 17) (v := (12 : Int32)) E dX5_strikeFrom_17 rfl ?_
    refine x_icmp_ge (pc := 19) (tgt := 58) E dX5_strikeFrom_19 (by decide) hf (fun hf => ?_) (fun hf => ?_)
    · refine x_bipush (pc := 58) (v := (-9 : Int32)) E dX5_strikeFrom_58 rfl ?_
      obtain rfl := Option.some.inj hf
      obtain rfl := lpk_r h2
      exact x_iret (pc := 60) E hR dX5_strikeFrom_60
    · refine x_iconst (pc := 22) (v := (1 : Int32)) E dX5_strikeFrom_22 rfl ?_
      refine x_iload_n 2 (pc := 23) (i := 2) E dX5_strikeFrom_23 rfl rfl ?_
      refine x_ishl (pc := 24) E dX5_strikeFrom_24 ?_
      refine x_istore_n (pc := 25) (lv' := [(3, .int ((1 : Int32) <<< (v2 &&& 31))), (0, .ref (gad G b)), (1, .int v1), (2, .int v2)]) E dX5_strikeFrom_25 rfl (by decide) rfl ?_
      refine x_iload_n 2 (pc := 26) (i := 1) E dX5_strikeFrom_26 rfl rfl ?_
      refine x_iload_n 0 (pc := 27) (i := 3) E dX5_strikeFrom_27 rfl rfl ?_
      refine x_iand (pc := 28) E dX5_strikeFrom_28 ?_
      refine x_if_eq (y := 0) (pc := 29) (tgt := 52) E dX5_strikeFrom_29 (by decide) hf (fun hf => ?_) (fun hf => ?_)
      · refine x_iinc 3 (pc := 52) (v := v2 + 1) (lv' := [(2, .int (v2 + 1)), (3, .int ((1 : Int32) <<< (v2 &&& 31))), (0, .ref (gad G b)), (1, .int v1)]) E dX5_strikeFrom_52 rfl rfl (by decide) rfl ?_
        refine x_goto (pc := 55) (tgt := 16) E dX5_strikeFrom_55 (by decide) ?_
        obtain rfl := Option.some.inj hf
        exact x_sub [2, 3, 0] rfl (ih _ (lpk_l h2))
      · refine x_aload_n 1 (pc := 32) (i := 0) E dX5_strikeFrom_32 rfl rfl ?_
        refine x_getR (pc := 33) (r := (b + 3)) (p := 0) E hs_b_0 hk_b_0 rfl inlX5 (by decide) rfl wq_70 dX5_strikeFrom_33 ?_
        refine x_iload_n 2 (pc := 36) (i := 1) E dX5_strikeFrom_36 rfl rfl ?_
        refine x_iload_n 0 (pc := 37) (i := 3) E dX5_strikeFrom_37 rfl rfl ?_
        refine x_ixor (pc := 38) E dX5_strikeFrom_38 ?_
        refine x_laload (pc := 39) E hs_b_3 hk_b_3 dX5_strikeFrom_39 hf (fun hf => ?_)
        refine x_aload_n 1 (pc := 40) (i := 0) E dX5_strikeFrom_40 rfl rfl ?_
        refine x_getR (pc := 41) (r := (b + 3)) (p := 0) E hs_b_0 hk_b_0 rfl inlX5 (by decide) rfl wq_70 dX5_strikeFrom_41 ?_
        refine x_iload_n 2 (pc := 44) (i := 1) E dX5_strikeFrom_44 rfl rfl ?_
        refine x_laload (pc := 45) E hs_b_3 hk_b_3 dX5_strikeFrom_45 hf (fun hf => ?_)
        refine x_lcmp_ne (pc := 46) (tgt := 52) E dX5_strikeFrom_46 dX5_strikeFrom_47 (by decide) hf (fun hf => ?_) (fun hf => ?_)
        · refine x_iinc 3 (pc := 52) (v := v2 + 1) (lv' := [(2, .int (v2 + 1)), (3, .int ((1 : Int32) <<< (v2 &&& 31))), (0, .ref (gad G b)), (1, .int v1)]) E dX5_strikeFrom_52 rfl rfl (by decide) rfl ?_
          refine x_goto (pc := 55) (tgt := 16) E dX5_strikeFrom_55 (by decide) ?_
          obtain rfl := Option.some.inj hf
          exact x_sub [2, 3, 0] rfl (ih _ (lpk_l h2))
        · refine x_iload_n 3 (pc := 50) (i := 2) E dX5_strikeFrom_50 rfl rfl ?_
          obtain rfl := Option.some.inj hf
          obtain rfl := lpk_r h2
          exact x_iret (pc := 51) E hR dX5_strikeFrom_51
set_option maxHeartbeats 4000000 in
set_option maxRecDepth 100000 in
theorem c_X5_strikeFrom (G : Gx) (b : Nat) (h_b : isTn b) (v1 : Int32) (σ : MM) (r : Int32) (hf : f_X5_strikeFrom b v1 σ = some r) : Ct shS 56 yX5_strikeFrom cX5_strikeFrom 4 (some .int) rm_X5_strikeFrom G [.ref (gad G b), .int v1] σ (some (.int r)) σ := by
  obtain ⟨hs_b_0, hs_b_1, hs_b_2, hs_b_3⟩ := sh_isTn h_b
  obtain ⟨hk_b_0, hk_b_1, hk_b_2, hk_b_3⟩ := lt_isTn h_b
  refine ct_of (by decide) (Nat.le_of_ble_eq_true rfl) (fun K E hR => ?_)
  have E : OKc 56 cX5_strikeFrom 4 RX5 G K := E
  show XJ shS 56 4 rm_X5_strikeFrom G K σ [(0, .ref (gad G b)), (1, .int v1)] 0 []
  unfold f_X5_strikeFrom at hf
  refine x_iload_n 1 (pc := 0) (i := 1) E dX5_strikeFrom_0 rfl rfl ?_
  refine x_callSri (pc := 1) (na := 1) (As := [.int v1]) E (c_J6_bitCount_0f7a4 G v1 σ) wq_309 wq_308 wq_416 wq_307 rfl rfl (by decide) ⟨Nat.le_of_ble_eq_true rfl, Nat.le_of_ble_eq_true rfl⟩ rfl rfl (Nat.le_of_ble_eq_true rfl) dX5_strikeFrom_1 hf (fun r1 hf => ?_)
  refine x_aload_n 0 (pc := 4) (i := 0) E dX5_strikeFrom_4 rfl rfl ?_
  refine x_getI (pc := 5) (p := 5) E hs_b_0 hk_b_0 rfl inlX5 (by decide) rfl wq_405 dX5_strikeFrom_5 ?_
  refine x_icmp_gt (pc := 8) (tgt := 14) E dX5_strikeFrom_8 (by decide) hf (fun hf => ?_) (fun hf => ?_)
  · refine x_iconst (pc := 14) (v := (0 : Int32)) E dX5_strikeFrom_14 rfl ?_
    refine x_istore_n (pc := 15) (lv' := [(2, .int (0 : Int32)), (0, .ref (gad G b)), (1, .int v1)]) E dX5_strikeFrom_15 rfl (by decide) rfl ?_
    exact x_sub [1, 2, 0] rfl (l_X5_strikeFrom_16 G b h_b v1 σ r hR E FU _ hf)
  · refine x_bipush (pc := 11) (v := (-9 : Int32)) E dX5_strikeFrom_11 rfl ?_
    obtain rfl := Option.some.inj hf
    exact x_iret (pc := 13) E hR dX5_strikeFrom_13
set_option maxHeartbeats 4000000 in
set_option maxRecDepth 100000 in
theorem c_X6_strike (G : Gx) (v1 : Int32) (v2 : Int32) (v3 : Int32) (σ : MM) (r : Int32) (σ' : MM) (hf : f_X6_strike v1 v2 v3 σ = some (r, σ')) : Ct shS 56 yX6_strike cX6_strike 5 (some .int) rm_X6_strike G [.ref (gad G 0), .int v1, .int v2, .int v3] σ (some (.int r)) σ' := by
  refine ct_of (by decide) (Nat.le_of_ble_eq_true rfl) (fun K E hR => ?_)
  have E : OKc 56 cX6_strike 5 RX6 G K := E
  show XJ shS 56 5 rm_X6_strike G K σ [(0, .ref (gad G 0)), (1, .int v1), (2, .int v2), (3, .int v3)] 0 []
  unfold f_X6_strike at hf
  refine x_aload_n 0 (pc := 0) (i := 0) E dX6_strike_0 rfl rfl ?_
  refine x_iload_n 1 (pc := 1) (i := 1) E dX6_strike_1 rfl rfl ?_
  refine x_iload_n 2 (pc := 2) (i := 2) E dX6_strike_2 rfl rfl ?_
  refine x_iload_n 3 (pc := 3) (i := 3) E dX6_strike_3 rfl rfl ?_
  refine x_callVri (pc := 4) (na := 3) (As := [.int v1, .int v2, .int v3]) E (c_X6_leftRefusal G v1 v2 v3 σ) rfl (Nat.le_of_ble_eq_true rfl) rfl wq_396 wq_2 wq_393 wq_394 wq_395 rfl rfl (by decide) ⟨Nat.le_of_ble_eq_true rfl, Nat.le_of_ble_eq_true rfl⟩ rfl rfl (Nat.le_of_ble_eq_true rfl) dX6_strike_4 hf (fun r1 hf => ?_)
  refine x_istore (pc := 7) (lv' := [(4, .int r1), (0, .ref (gad G 0)), (1, .int v1), (2, .int v2), (3, .int v3)]) E dX6_strike_7 (by decide) rfl ?_
  refine x_iload 0 (pc := 9) E dX6_strike_9 rfl ?_
  refine x_if_eq (y := 0) (pc := 11) (tgt := 21) E dX6_strike_11 (by decide) hf (fun hf => ?_) (fun hf => ?_)
  · refine x_aload_n 1 (pc := 21) (i := 0) E dX6_strike_21 rfl rfl ?_
    refine x_getR (pc := 22) (r := 46) (p := 10) E rfl (Nat.le_of_ble_eq_true rfl) rfl inlX6 (by decide) rfl wq_35 dX6_strike_22 ?_
    refine x_aload_n 1 (pc := 25) (i := 0) E dX6_strike_25 rfl rfl ?_
    refine x_getR (pc := 26) (r := 16) (p := 7) E rfl (Nat.le_of_ble_eq_true rfl) rfl inlX6 (by decide) rfl wq_29 dX6_strike_26 ?_
    refine x_iload_n 2 (pc := 29) (i := 1) E dX6_strike_29 rfl rfl ?_
    refine x_iload_n 3 (pc := 30) (i := 2) E dX6_strike_30 rfl rfl ?_
    refine x_bipush (pc := 31) (v := (10 : Int32)) E dX6_strike_31 rfl ?_
    refine x_idiv (pc := 33) E dX6_strike_33 hf (fun hf => ?_)
    refine x_iload_n 3 (pc := 34) (i := 2) E dX6_strike_34 rfl rfl ?_
    refine x_bipush (pc := 35) (v := (10 : Int32)) E dX6_strike_35 rfl ?_
    refine x_irem (pc := 37) E dX6_strike_37 hf (fun hf => ?_)
    refine x_iload_n 4 (pc := 38) (i := 3) E dX6_strike_38 rfl rfl ?_
    refine x_callVNwv (pc := 39) (na := 5) (As := [.ref (gad G 16), .int v1, .int (v2 / (10 : Int32)), .int (v2 - v2 / (10 : Int32) * (10 : Int32)), .int v3]) E (c_X5_lookBack G 46 16 (Or.inr rfl) (Or.inl rfl) v1 (v2 / (10 : Int32)) (v2 - v2 / (10 : Int32) * (10 : Int32)) v3 σ) rfl (Nat.le_of_ble_eq_true rfl) rfl wq_402 wq_33 wn_35 wq_400 wq_401 rfl rfl (by decide) ⟨Nat.le_of_ble_eq_true rfl, Nat.le_of_ble_eq_true rfl⟩ rfl rfl (Nat.le_of_ble_eq_true rfl) dX6_strike_39 hf (fun σ3 hf => ?_)
    refine x_aload_n 1 (pc := 42) (i := 0) E dX6_strike_42 rfl rfl ?_
    refine x_getR (pc := 43) (r := 46) (p := 10) E rfl (Nat.le_of_ble_eq_true rfl) rfl inlX6 (by decide) rfl wq_35 dX6_strike_43 ?_
    refine x_iload_n 2 (pc := 46) (i := 1) E dX6_strike_46 rfl rfl ?_
    refine x_callVNri (pc := 47) (na := 1) (As := [.int v1]) E (c_X5_strikeFrom G 46 (Or.inr rfl) v1 σ3) rfl (Nat.le_of_ble_eq_true rfl) rfl wq_473 wq_33 wn_39 wq_471 wq_472 rfl rfl (by decide) ⟨Nat.le_of_ble_eq_true rfl, Nat.le_of_ble_eq_true rfl⟩ rfl rfl (Nat.le_of_ble_eq_true rfl) dX6_strike_47 hf (fun r4 hf => ?_)
    obtain ⟨rfl, rfl⟩ := Prod.mk.inj (Option.some.inj hf)
    exact x_iret (pc := 50) E hR dX6_strike_50
  · refine x_aload_n 1 (pc := 14) (i := 0) E dX6_strike_14 rfl rfl ?_
    refine x_iload 0 (pc := 15) E dX6_strike_15 rfl ?_
    refine x_callVwi (pc := 17) (na := 1) (As := [.int r1]) E (c_X6_refuse G r1 σ) rfl (Nat.le_of_ble_eq_true rfl) rfl wq_133 wq_2 wq_130 wq_131 wq_132 rfl rfl (by decide) ⟨Nat.le_of_ble_eq_true rfl, Nat.le_of_ble_eq_true rfl⟩ rfl rfl (Nat.le_of_ble_eq_true rfl) dX6_strike_17 hf (fun r5 σ6 hf => ?_)
    obtain ⟨rfl, rfl⟩ := Prod.mk.inj (Option.some.inj hf)
    exact x_iret (pc := 20) E hR dX6_strike_20
set_option maxHeartbeats 4000000 in
set_option maxRecDepth 100000 in
theorem c_X0_strikes (G : Gx) (σ : MM) (r : Int32) (hf : f_X0_strikes σ = some r) : Ct shS 56 yX0_strikes cX0_strikes 1 (some .int) rm_X0_strikes G [.ref (gad G 1)] σ (some (.int r)) σ := by
  refine ct_of (by decide) (Nat.le_of_ble_eq_true rfl) (fun K E hR => ?_)
  have E : OKc 56 cX0_strikes 1 RX0 G K := E
  show XJ shS 56 1 rm_X0_strikes G K σ [(0, .ref (gad G 1))] 0 []
  unfold f_X0_strikes at hf
  refine x_aload_n 0 (pc := 0) (i := 0) E dX0_strikes_0 rfl rfl ?_
  refine x_getR (pc := 1) (r := 5) (p := 3) E rfl (Nat.le_of_ble_eq_true rfl) rfl inlX0 (by decide) rfl wq_50 dX0_strikes_1 ?_
  refine x_iconst (pc := 4) (v := (1 : Int32)) E dX0_strikes_4 rfl ?_
  refine x_iaload (pc := 5) E rfl (Nat.le_of_ble_eq_true rfl) dX0_strikes_5 hf (fun hf => ?_)
  refine x_aload_n 0 (pc := 6) (i := 0) E dX0_strikes_6 rfl rfl ?_
  refine x_getR (pc := 7) (r := 5) (p := 3) E rfl (Nat.le_of_ble_eq_true rfl) rfl inlX0 (by decide) rfl wq_50 dX0_strikes_7 ?_
  refine x_iconst (pc := 10) (v := (2 : Int32)) E dX0_strikes_10 rfl ?_
  refine x_iaload (pc := 11) E rfl (Nat.le_of_ble_eq_true rfl) dX0_strikes_11 hf (fun hf => ?_)
  refine x_iadd (pc := 12) E dX0_strikes_12 ?_
  obtain rfl := Option.some.inj hf
  exact x_iret (pc := 13) E hR dX0_strikes_13
set_option maxHeartbeats 4000000 in
set_option maxRecDepth 100000 in
theorem c_X0_called (G : Gx) (σ : MM) (r : Int32) (hf : f_X0_called σ = some r) : Ct shS 56 yX0_called cX0_called 2 (some .int) rm_X0_called G [.ref (gad G 1)] σ (some (.int r)) σ := by
  refine ct_of (by decide) (Nat.le_of_ble_eq_true rfl) (fun K E hR => ?_)
  have E : OKc 56 cX0_called 2 RX0 G K := E
  show XJ shS 56 2 rm_X0_called G K σ [(0, .ref (gad G 1))] 0 []
  unfold f_X0_called at hf
  refine x_aload_n 0 (pc := 0) (i := 0) E dX0_called_0 rfl rfl ?_
  refine x_callVri (pc := 1) (na := 0) (As := []) E (c_X0_needed G σ) rfl (Nat.le_of_ble_eq_true rfl) rfl wq_93 wq_16 wq_489 wq_91 wq_92 rfl rfl (by decide) ⟨Nat.le_of_ble_eq_true rfl, Nat.le_of_ble_eq_true rfl⟩ rfl rfl (Nat.le_of_ble_eq_true rfl) dX0_called_1 hf (fun r1 hf => ?_)
  refine x_aload_n 0 (pc := 4) (i := 0) E dX0_called_4 rfl rfl ?_
  refine x_callVri (pc := 5) (na := 0) (As := []) E (c_X0_strikes G σ) rfl (Nat.le_of_ble_eq_true rfl) rfl wq_493 wq_16 wq_490 wq_491 wq_492 rfl rfl (by decide) ⟨Nat.le_of_ble_eq_true rfl, Nat.le_of_ble_eq_true rfl⟩ rfl rfl (Nat.le_of_ble_eq_true rfl) dX0_called_5 hf (fun r2 hf => ?_)
  refine x_iadd (pc := 8) E dX0_called_8 ?_
  refine x_istore_n (pc := 9) (lv' := [(1, .int (r1 + r2)), (0, .ref (gad G 1))]) E dX0_called_9 rfl (by decide) rfl ?_
  refine x_iload_n 0 (pc := 10) (i := 1) E dX0_called_10 rfl rfl ?_
  refine x_aload_n 1 (pc := 11) (i := 0) E dX0_called_11 rfl rfl ?_
  refine x_getI (pc := 12) (p := 4) E rfl (Nat.le_of_ble_eq_true rfl) rfl inlX0 (by decide) rfl wq_159 dX0_called_12 ?_
  refine x_icmp_gt (pc := 15) (tgt := 22) E dX0_called_15 (by decide) hf (fun hf => ?_) (fun hf => ?_)
  · refine x_iconst (pc := 22) (v := (0 : Int32)) E dX0_called_22 rfl ?_
    obtain rfl := Option.some.inj hf
    exact x_iret (pc := 23) E hR dX0_called_23
  · refine x_iload_n 0 (pc := 18) (i := 1) E dX0_called_18 rfl rfl ?_
    refine x_goto (pc := 19) (tgt := 23) E dX0_called_19 (by decide) ?_
    obtain rfl := Option.some.inj hf
    exact x_iret (pc := 23) E hR dX0_called_23
set_option maxHeartbeats 4000000 in
set_option maxRecDepth 100000 in
theorem c_X0_calledSet (G : Gx) (σ : MM) (r : Int32) (hf : f_X0_calledSet σ = some r) : Ct shS 56 yX0_calledSet cX0_calledSet 1 (some .int) rm_X0_calledSet G [.ref (gad G 1)] σ (some (.int r)) σ := by
  refine ct_of (by decide) (Nat.le_of_ble_eq_true rfl) (fun K E hR => ?_)
  have E : OKc 56 cX0_calledSet 1 RX0 G K := E
  show XJ shS 56 1 rm_X0_calledSet G K σ [(0, .ref (gad G 1))] 0 []
  unfold f_X0_calledSet at hf
  refine x_aload_n 0 (pc := 0) (i := 0) E dX0_calledSet_0 rfl rfl ?_
  refine x_callVri (pc := 1) (na := 0) (As := []) E (c_X0_called G σ) rfl (Nat.le_of_ble_eq_true rfl) rfl wq_488 wq_16 wq_505 wq_486 wq_487 rfl rfl (by decide) ⟨Nat.le_of_ble_eq_true rfl, Nat.le_of_ble_eq_true rfl⟩ rfl rfl (Nat.le_of_ble_eq_true rfl) dX0_calledSet_1 hf (fun r1 hf => ?_)
  refine x_callSNri (pc := 4) (na := 1) (As := [.int r1]) E (c_X6_setOfFirst G r1 σ) wq_305 wq_2 wn_31 wq_304 rfl rfl (by decide) ⟨Nat.le_of_ble_eq_true rfl, Nat.le_of_ble_eq_true rfl⟩ rfl rfl (Nat.le_of_ble_eq_true rfl) dX0_calledSet_4 hf (fun r2 hf => ?_)
  obtain rfl := Option.some.inj hf
  exact x_iret (pc := 7) E hR dX0_calledSet_7
set_option maxHeartbeats 4000000 in
set_option maxRecDepth 100000 in
theorem c_X0_strikesOf (G : Gx) (v1 : Int32) (σ : MM) (r : Int32) (hf : f_X0_strikesOf v1 σ = some r) : Ct shS 56 yX0_strikesOf cX0_strikesOf 2 (some .int) rm_X0_strikesOf G [.ref (gad G 1), .int v1] σ (some (.int r)) σ := by
  refine ct_of (by decide) (Nat.le_of_ble_eq_true rfl) (fun K E hR => ?_)
  have E : OKc 56 cX0_strikesOf 2 RX0 G K := E
  show XJ shS 56 2 rm_X0_strikesOf G K σ [(0, .ref (gad G 1)), (1, .int v1)] 0 []
  unfold f_X0_strikesOf at hf
  refine x_iload_n 1 (pc := 0) (i := 1) E dX0_strikesOf_0 rfl rfl ?_
  refine x_if_ne (y := 0) (pc := 1) (tgt := 13) E dX0_strikesOf_1 (by decide) hf (fun hf => ?_) (fun hf => ?_)
  · refine x_aload_n 0 (pc := 13) (i := 0) E dX0_strikesOf_13 rfl rfl ?_
    refine x_getR (pc := 14) (r := 5) (p := 3) E rfl (Nat.le_of_ble_eq_true rfl) rfl inlX0 (by decide) rfl wq_50 dX0_strikesOf_14 ?_
    refine x_iconst (pc := 17) (v := (2 : Int32)) E dX0_strikesOf_17 rfl ?_
    refine x_iaload (pc := 18) E rfl (Nat.le_of_ble_eq_true rfl) dX0_strikesOf_18 hf (fun hf => ?_)
    obtain rfl := Option.some.inj hf
    exact x_iret (pc := 19) E hR dX0_strikesOf_19
  · refine x_aload_n 0 (pc := 4) (i := 0) E dX0_strikesOf_4 rfl rfl ?_
    refine x_getR (pc := 5) (r := 5) (p := 3) E rfl (Nat.le_of_ble_eq_true rfl) rfl inlX0 (by decide) rfl wq_50 dX0_strikesOf_5 ?_
    refine x_iconst (pc := 8) (v := (1 : Int32)) E dX0_strikesOf_8 rfl ?_
    refine x_iaload (pc := 9) E rfl (Nat.le_of_ble_eq_true rfl) dX0_strikesOf_9 hf (fun hf => ?_)
    refine x_goto (pc := 10) (tgt := 19) E dX0_strikesOf_10 (by decide) ?_
    obtain rfl := Option.some.inj hf
    exact x_iret (pc := 19) E hR dX0_strikesOf_19
set_option maxHeartbeats 4000000 in
set_option maxRecDepth 100000 in
theorem c_X6_knowTurns (G : Gx) (σ : MM) (σ' : MM) (hf : f_X6_knowTurns σ = some σ') : Ct shS 56 yX6_knowTurns cX6_knowTurns 1 none rm_X6_knowTurns G [.ref (gad G 0)] σ none σ' := by
  refine ct_of (by decide) (Nat.le_of_ble_eq_true rfl) (fun K E hR => ?_)
  have E : OKc 56 cX6_knowTurns 1 RX6 G K := E
  show XJ shS 56 1 rm_X6_knowTurns G K σ [(0, .ref (gad G 0))] 0 []
  unfold f_X6_knowTurns at hf
  refine x_aload_n 0 (pc := 0) (i := 0) E dX6_knowTurns_0 rfl rfl ?_
  refine x_getI (pc := 1) (p := 13) E rfl (Nat.le_of_ble_eq_true rfl) rfl inlX6 (by decide) rfl wq_138 dX6_knowTurns_1 ?_
  refine x_if_ne (y := 0) (pc := 4) (tgt := 47) E dX6_knowTurns_4 (by decide) hf (fun hf => ?_) (fun hf => ?_)
  · obtain rfl := Option.some.inj hf
    exact x_vret (pc := 47) E hR dX6_knowTurns_47
  · refine x_aload_n 0 (pc := 7) (i := 0) E dX6_knowTurns_7 rfl rfl ?_
    refine x_getR (pc := 8) (r := 42) (p := 9) E rfl (Nat.le_of_ble_eq_true rfl) rfl inlX6 (by decide) rfl wq_34 dX6_knowTurns_8 ?_
    refine x_aload_n 0 (pc := 11) (i := 0) E dX6_knowTurns_11 rfl rfl ?_
    refine x_getR (pc := 12) (r := 16) (p := 7) E rfl (Nat.le_of_ble_eq_true rfl) rfl inlX6 (by decide) rfl wq_29 dX6_knowTurns_12 ?_
    refine x_aload_n 0 (pc := 15) (i := 0) E dX6_knowTurns_15 rfl rfl ?_
    refine x_getR (pc := 16) (r := 1) (p := 0) E rfl (Nat.le_of_ble_eq_true rfl) rfl inlX6 (by decide) rfl wq_17 dX6_knowTurns_16 ?_
    refine x_callVNri (pc := 19) (na := 0) (As := []) E (c_X0_calledSet G σ) rfl (Nat.le_of_ble_eq_true rfl) rfl wq_504 wq_16 wn_41 wq_502 wq_503 rfl rfl (by decide) ⟨Nat.le_of_ble_eq_true rfl, Nat.le_of_ble_eq_true rfl⟩ rfl rfl (Nat.le_of_ble_eq_true rfl) dX6_knowTurns_19 hf (fun r1 hf => ?_)
    refine x_aload_n 0 (pc := 22) (i := 0) E dX6_knowTurns_22 rfl rfl ?_
    refine x_getR (pc := 23) (r := 1) (p := 0) E rfl (Nat.le_of_ble_eq_true rfl) rfl inlX6 (by decide) rfl wq_17 dX6_knowTurns_23 ?_
    refine x_iconst (pc := 26) (v := (0 : Int32)) E dX6_knowTurns_26 rfl ?_
    refine x_callVNri (pc := 27) (na := 1) (As := [.int (0 : Int32)]) E (c_X0_strikesOf G (0 : Int32) σ) rfl (Nat.le_of_ble_eq_true rfl) rfl wq_508 wq_16 wn_42 wq_506 wq_507 rfl rfl (by decide) ⟨Nat.le_of_ble_eq_true rfl, Nat.le_of_ble_eq_true rfl⟩ rfl rfl (Nat.le_of_ble_eq_true rfl) dX6_knowTurns_27 hf (fun r2 hf => ?_)
    refine x_aload_n 0 (pc := 30) (i := 0) E dX6_knowTurns_30 rfl rfl ?_
    refine x_getR (pc := 31) (r := 1) (p := 0) E rfl (Nat.le_of_ble_eq_true rfl) rfl inlX6 (by decide) rfl wq_17 dX6_knowTurns_31 ?_
    refine x_iconst (pc := 34) (v := (1 : Int32)) E dX6_knowTurns_34 rfl ?_
    refine x_callVNri (pc := 35) (na := 1) (As := [.int (1 : Int32)]) E (c_X0_strikesOf G (1 : Int32) σ) rfl (Nat.le_of_ble_eq_true rfl) rfl wq_508 wq_16 wn_42 wq_506 wq_507 rfl rfl (by decide) ⟨Nat.le_of_ble_eq_true rfl, Nat.le_of_ble_eq_true rfl⟩ rfl rfl (Nat.le_of_ble_eq_true rfl) dX6_knowTurns_35 hf (fun r3 hf => ?_)
    refine x_iconst (pc := 38) (v := (0 : Int32)) E dX6_knowTurns_38 rfl ?_
    refine x_callVNwv (pc := 39) (na := 5) (As := [.ref (gad G 16), .int r1, .int r2, .int r3, .int (0 : Int32)]) E (c_X5_lookBack G 42 16 (Or.inl rfl) (Or.inl rfl) r1 r2 r3 (0 : Int32) σ) rfl (Nat.le_of_ble_eq_true rfl) rfl wq_402 wq_33 wn_35 wq_400 wq_401 rfl rfl (by decide) ⟨Nat.le_of_ble_eq_true rfl, Nat.le_of_ble_eq_true rfl⟩ rfl rfl (Nat.le_of_ble_eq_true rfl) dX6_knowTurns_39 hf (fun σ5 hf => ?_)
    refine x_aload_n 0 (pc := 42) (i := 0) E dX6_knowTurns_42 rfl rfl ?_
    refine x_iconst (pc := 43) (v := (1 : Int32)) E dX6_knowTurns_43 rfl ?_
    refine x_putZ (pc := 44) (p := 13) E rfl (Nat.le_of_ble_eq_true rfl) rfl inlX6 tyX6_ok nmX6 (by decide) rfl rfl rfl wq_138 dX6_knowTurns_44 hf (fun σ6 hf => ?_)
    obtain rfl := Option.some.inj hf
    exact x_vret (pc := 47) E hR dX6_knowTurns_47
set_option maxHeartbeats 4000000 in
set_option maxRecDepth 100000 in
theorem c_X6_valueByTurns (G : Gx) (σ : MM) (r : Int64) (σ' : MM) (hf : f_X6_valueByTurns σ = some (r, σ')) : Ct shS 56 yX6_valueByTurns cX6_valueByTurns 1 (some .long) rm_X6_valueByTurns G [.ref (gad G 0)] σ (some (.long r)) σ' := by
  refine ct_of (by decide) (Nat.le_of_ble_eq_true rfl) (fun K E hR => ?_)
  have E : OKc 56 cX6_valueByTurns 1 RX6 G K := E
  show XJ shS 56 1 rm_X6_valueByTurns G K σ [(0, .ref (gad G 0))] 0 []
  unfold f_X6_valueByTurns at hf
  refine x_aload_n 0 (pc := 0) (i := 0) E dX6_valueByTurns_0 rfl rfl ?_
  refine x_callVwv (pc := 1) (na := 0) (As := []) E (c_X6_knowTurns G σ) rfl (Nat.le_of_ble_eq_true rfl) rfl wq_501 wq_2 wq_498 wq_499 wq_500 rfl rfl (by decide) ⟨Nat.le_of_ble_eq_true rfl, Nat.le_of_ble_eq_true rfl⟩ rfl rfl (Nat.le_of_ble_eq_true rfl) dX6_valueByTurns_1 hf (fun σ2 hf => ?_)
  refine x_aload_n 0 (pc := 4) (i := 0) E dX6_valueByTurns_4 rfl rfl ?_
  refine x_getR (pc := 5) (r := 42) (p := 9) E rfl (Nat.le_of_ble_eq_true rfl) rfl inlX6 (by decide) rfl wq_34 dX6_valueByTurns_5 ?_
  refine x_aload_n 0 (pc := 8) (i := 0) E dX6_valueByTurns_8 rfl rfl ?_
  refine x_getR (pc := 9) (r := 1) (p := 0) E rfl (Nat.le_of_ble_eq_true rfl) rfl inlX6 (by decide) rfl wq_17 dX6_valueByTurns_9 ?_
  refine x_callVNri (pc := 12) (na := 0) (As := []) E (c_X0_calledSet G σ2) rfl (Nat.le_of_ble_eq_true rfl) rfl wq_504 wq_16 wn_41 wq_502 wq_503 rfl rfl (by decide) ⟨Nat.le_of_ble_eq_true rfl, Nat.le_of_ble_eq_true rfl⟩ rfl rfl (Nat.le_of_ble_eq_true rfl) dX6_valueByTurns_12 hf (fun r3 hf => ?_)
  refine x_callVNrl (pc := 15) (na := 1) (As := [.int r3]) E (c_X5_valueOf G 42 (Or.inl rfl) r3 σ2) rfl (Nat.le_of_ble_eq_true rfl) rfl wq_440 wq_33 wn_38 wq_438 wq_439 rfl rfl (by decide) ⟨Nat.le_of_ble_eq_true rfl, Nat.le_of_ble_eq_true rfl⟩ rfl rfl (Nat.le_of_ble_eq_true rfl) dX6_valueByTurns_15 hf (fun r4 hf => ?_)
  obtain ⟨rfl, rfl⟩ := Prod.mk.inj (Option.some.inj hf)
  exact x_lret (pc := 18) E hR dX6_valueByTurns_18
set_option maxHeartbeats 4000000 in
set_option maxRecDepth 100000 in
theorem c_X6_turns (G : Gx) (σ : MM) (r : Int64) (σ' : MM) (hf : f_X6_turns σ = some (r, σ')) : Ct shS 56 yX6_turns cX6_turns 1 (some .long) rm_X6_turns G [.ref (gad G 0)] σ (some (.long r)) σ' := by
  refine ct_of (by decide) (Nat.le_of_ble_eq_true rfl) (fun K E hR => ?_)
  have E : OKc 56 cX6_turns 1 RX6 G K := E
  show XJ shS 56 1 rm_X6_turns G K σ [(0, .ref (gad G 0))] 0 []
  unfold f_X6_turns at hf
  refine x_aload_n 0 (pc := 0) (i := 0) E dX6_turns_0 rfl rfl ?_
  refine x_getR (pc := 1) (r := 1) (p := 0) E rfl (Nat.le_of_ble_eq_true rfl) rfl inlX6 (by decide) rfl wq_17 dX6_turns_1 ?_
  refine x_callVNri (pc := 4) (na := 0) (As := []) E (c_X0_called G σ) rfl (Nat.le_of_ble_eq_true rfl) rfl wq_488 wq_16 wn_40 wq_486 wq_487 rfl rfl (by decide) ⟨Nat.le_of_ble_eq_true rfl, Nat.le_of_ble_eq_true rfl⟩ rfl rfl (Nat.le_of_ble_eq_true rfl) dX6_turns_4 hf (fun r1 hf => ?_)
  refine x_if_ne (y := 0) (pc := 7) (tgt := 17) E dX6_turns_7 (by decide) hf (fun hf => ?_) (fun hf => ?_)
  · refine x_aload_n 0 (pc := 17) (i := 0) E dX6_turns_17 rfl rfl ?_
    refine x_callVwl (pc := 18) (na := 0) (As := []) E (c_X6_valueByTurns G σ) rfl (Nat.le_of_ble_eq_true rfl) rfl wq_497 wq_2 wq_494 wq_495 wq_496 rfl rfl (by decide) ⟨Nat.le_of_ble_eq_true rfl, Nat.le_of_ble_eq_true rfl⟩ rfl rfl (Nat.le_of_ble_eq_true rfl) dX6_turns_18 hf (fun r2 σ3 hf => ?_)
    obtain ⟨rfl, rfl⟩ := Prod.mk.inj (Option.some.inj hf)
    exact x_lret (pc := 21) E hR dX6_turns_21
  · refine x_aload_n 0 (pc := 10) (i := 0) E dX6_turns_10 rfl rfl ?_
    refine x_bipush (pc := 11) (v := (-3 : Int32)) E dX6_turns_11 rfl ?_
    refine x_callVwl (pc := 13) (na := 1) (As := [.int (-3 : Int32)]) E (c_X6_refuseLong G (-3 : Int32) σ) rfl (Nat.le_of_ble_eq_true rfl) rfl wq_316 wq_2 wq_313 wq_314 wq_315 rfl rfl (by decide) ⟨Nat.le_of_ble_eq_true rfl, Nat.le_of_ble_eq_true rfl⟩ rfl rfl (Nat.le_of_ble_eq_true rfl) dX6_turns_13 hf (fun r4 σ5 hf => ?_)
    obtain ⟨rfl, rfl⟩ := Prod.mk.inj (Option.some.inj hf)
    exact x_lret (pc := 16) E hR dX6_turns_16
set_option maxHeartbeats 4000000 in
set_option maxRecDepth 100000 in
theorem l_X6_order_49 (G : Gx) {K : Kx}   (v1 : Int32) (σ : MM) (E : OKc 56 cX6_order 4 RX6 G K) : ∀ (m : Nat) (v2 : Int32) (v3 : Int32) (out : Int32), loopN (fun s => g_X6_order_49 v1 s.1 s.2 σ) m (v2, v3) = some out → XJ shS 56 4 rm_X6_order G K σ [(0, .ref (gad G 0)), (2, .int out)] 75 [] → XJ shS 56 4 rm_X6_order G K σ [(0, .ref (gad G 0)), (1, .int v1), (2, .int v2), (3, .int v3)] 49 [] := by
  intro m
  induction m with
  | zero => intro v2 v3 out hf; exact (loopN_0 hf).elim
  | succ m ih =>
    intro v2 v3 out hf hk
    obtain ⟨q, hf, h2⟩ := loopN_s hf
    have hf : g_X6_order_49 v1 v2 v3 σ = some q := hf
    unfold g_X6_order_49 at hf
    refine x_iload_n 3 (pc := 49) (i := 3) E dX6_order_49 rfl rfl ?_
    refine x_iload_n 1 (pc := 50) (i := 1) E dX6_order_50 rfl rfl ?_
    refine x_icmp_ge (pc := 51) (tgt := 75) E dX6_order_51 (by decide) hf (fun hf => ?_) (fun hf => ?_)
    · obtain rfl := Option.some.inj hf
      obtain rfl := lpk_r h2
      exact x_sub [0, 2] rfl hk
    · refine x_iload_n 2 (pc := 54) (i := 2) E dX6_order_54 rfl rfl ?_
      refine x_iconst (pc := 55) (v := (1 : Int32)) E dX6_order_55 rfl ?_
      refine x_aload_n 0 (pc := 56) (i := 0) E dX6_order_56 rfl rfl ?_
      refine x_getR (pc := 57) (r := 42) (p := 9) E rfl (Nat.le_of_ble_eq_true rfl) rfl inlX6 (by decide) rfl wq_34 dX6_order_57 ?_
      refine x_iload_n 2 (pc := 60) (i := 2) E dX6_order_60 rfl rfl ?_
      refine x_callVNri (pc := 61) (na := 1) (As := [.int v2]) E (c_X5_strikeFrom G 42 (Or.inl rfl) v2 σ) rfl (Nat.le_of_ble_eq_true rfl) rfl wq_473 wq_33 wn_39 wq_471 wq_472 rfl rfl (by decide) ⟨Nat.le_of_ble_eq_true rfl, Nat.le_of_ble_eq_true rfl⟩ rfl rfl (Nat.le_of_ble_eq_true rfl) dX6_order_61 hf (fun r6 hf => ?_)
      refine x_ishl (pc := 64) E dX6_order_64 ?_
      refine x_iconst (pc := 65) (v := (-1 : Int32)) E dX6_order_65 rfl ?_
      refine x_ixor (pc := 66) E dX6_order_66 ?_
      refine x_iand (pc := 67) E dX6_order_67 ?_
      refine x_istore_n (pc := 68) (lv' := [(2, .int (v2 &&& (((1 : Int32) <<< (r6 &&& 31)) ^^^ (-1 : Int32)))), (0, .ref (gad G 0)), (1, .int v1), (3, .int v3)]) E dX6_order_68 rfl (by decide) rfl ?_
      refine x_iinc 3 (pc := 69) (v := v3 + 1) (lv' := [(3, .int (v3 + 1)), (2, .int (v2 &&& (((1 : Int32) <<< (r6 &&& 31)) ^^^ (-1 : Int32)))), (0, .ref (gad G 0)), (1, .int v1)]) E dX6_order_69 rfl rfl (by decide) rfl ?_
      refine x_goto (pc := 72) (tgt := 49) E dX6_order_72 (by decide) ?_
      obtain rfl := Option.some.inj hf
      exact x_sub [2, 3, 1, 0] rfl (ih _ _ _ (lpk_l h2) hk)
set_option maxHeartbeats 4000000 in
set_option maxRecDepth 100000 in
theorem c_X6_order (G : Gx) (v1 : Int32) (σ : MM) (r : Int32) (σ' : MM) (hf : f_X6_order v1 σ = some (r, σ')) : Ct shS 56 yX6_order cX6_order 4 (some .int) rm_X6_order G [.ref (gad G 0), .int v1] σ (some (.int r)) σ' := by
  refine ct_of (by decide) (Nat.le_of_ble_eq_true rfl) (fun K E hR => ?_)
  have E : OKc 56 cX6_order 4 RX6 G K := E
  show XJ shS 56 4 rm_X6_order G K σ [(0, .ref (gad G 0)), (1, .int v1)] 0 []
  unfold f_X6_order at hf
  refine x_aload_n 0 (pc := 0) (i := 0) E dX6_order_0 rfl rfl ?_
  refine x_getR (pc := 1) (r := 1) (p := 0) E rfl (Nat.le_of_ble_eq_true rfl) rfl inlX6 (by decide) rfl wq_17 dX6_order_1 ?_
  refine x_callVNri (pc := 4) (na := 0) (As := []) E (c_X0_called G σ) rfl (Nat.le_of_ble_eq_true rfl) rfl wq_488 wq_16 wn_40 wq_486 wq_487 rfl rfl (by decide) ⟨Nat.le_of_ble_eq_true rfl, Nat.le_of_ble_eq_true rfl⟩ rfl rfl (Nat.le_of_ble_eq_true rfl) dX6_order_4 hf (fun r1 hf => ?_)
  refine x_if_ne (y := 0) (pc := 7) (tgt := 17) E dX6_order_7 (by decide) hf (fun hf => ?_) (fun hf => ?_)
  · refine x_iload_n 1 (pc := 17) (i := 1) E dX6_order_17 rfl rfl ?_
    refine x_if_lt (y := 0) (pc := 18) (tgt := 32) E dX6_order_18 (by decide) hf (fun hf => ?_) (fun hf => ?_)
    · refine x_bipush (pc := 32) (v := (-9 : Int32)) E dX6_order_32 rfl ?_
      obtain ⟨rfl, rfl⟩ := Prod.mk.inj (Option.some.inj hf)
      exact x_iret (pc := 34) E hR dX6_order_34
    · refine x_iload_n 1 (pc := 21) (i := 1) E dX6_order_21 rfl rfl ?_
      refine x_aload_n 0 (pc := 22) (i := 0) E dX6_order_22 rfl rfl ?_
      refine x_getR (pc := 23) (r := 1) (p := 0) E rfl (Nat.le_of_ble_eq_true rfl) rfl inlX6 (by decide) rfl wq_17 dX6_order_23 ?_
      refine x_callVNri (pc := 26) (na := 0) (As := []) E (c_X0_strikes G σ) rfl (Nat.le_of_ble_eq_true rfl) rfl wq_493 wq_16 wn_43 wq_491 wq_492 rfl rfl (by decide) ⟨Nat.le_of_ble_eq_true rfl, Nat.le_of_ble_eq_true rfl⟩ rfl rfl (Nat.le_of_ble_eq_true rfl) dX6_order_26 hf (fun r2 hf => ?_)
      refine x_icmp_lt (pc := 29) (tgt := 35) E dX6_order_29 (by decide) hf (fun hf => ?_) (fun hf => ?_)
      · refine x_aload_n 0 (pc := 35) (i := 0) E dX6_order_35 rfl rfl ?_
        refine x_callVwv (pc := 36) (na := 0) (As := []) E (c_X6_knowTurns G σ) rfl (Nat.le_of_ble_eq_true rfl) rfl wq_501 wq_2 wq_498 wq_499 wq_500 rfl rfl (by decide) ⟨Nat.le_of_ble_eq_true rfl, Nat.le_of_ble_eq_true rfl⟩ rfl rfl (Nat.le_of_ble_eq_true rfl) dX6_order_36 hf (fun σ4 hf => ?_)
        refine x_aload_n 0 (pc := 39) (i := 0) E dX6_order_39 rfl rfl ?_
        refine x_getR (pc := 40) (r := 1) (p := 0) E rfl (Nat.le_of_ble_eq_true rfl) rfl inlX6 (by decide) rfl wq_17 dX6_order_40 ?_
        refine x_callVNri (pc := 43) (na := 0) (As := []) E (c_X0_calledSet G σ4) rfl (Nat.le_of_ble_eq_true rfl) rfl wq_504 wq_16 wn_41 wq_502 wq_503 rfl rfl (by decide) ⟨Nat.le_of_ble_eq_true rfl, Nat.le_of_ble_eq_true rfl⟩ rfl rfl (Nat.le_of_ble_eq_true rfl) dX6_order_43 hf (fun r5 hf => ?_)
        refine x_istore_n (pc := 46) (lv' := [(2, .int r5), (0, .ref (gad G 0)), (1, .int v1)]) E dX6_order_46 rfl (by decide) rfl ?_
        refine x_iconst (pc := 47) (v := (0 : Int32)) E dX6_order_47 rfl ?_
        refine x_istore_n (pc := 48) (lv' := [(3, .int (0 : Int32)), (2, .int r5), (0, .ref (gad G 0)), (1, .int v1)]) E dX6_order_48 rfl (by decide) rfl ?_
        obtain ⟨o7, hl8, hf⟩ := bind_some hf
        refine x_sub [2, 3, 1, 0] rfl (l_X6_order_49 G   v1 σ4 E FU _ _ o7 hl8 ?_)
        refine x_aload_n 0 (pc := 75) (i := 0) E dX6_order_75 rfl rfl ?_
        refine x_getR (pc := 76) (r := 42) (p := 9) E rfl (Nat.le_of_ble_eq_true rfl) rfl inlX6 (by decide) rfl wq_34 dX6_order_76 ?_
        refine x_iload_n 1 (pc := 79) (i := 2) E dX6_order_79 rfl rfl ?_
        refine x_callVNri (pc := 80) (na := 1) (As := [.int o7]) E (c_X5_strikeFrom G 42 (Or.inl rfl) o7 σ4) rfl (Nat.le_of_ble_eq_true rfl) rfl wq_473 wq_33 wn_39 wq_471 wq_472 rfl rfl (by decide) ⟨Nat.le_of_ble_eq_true rfl, Nat.le_of_ble_eq_true rfl⟩ rfl rfl (Nat.le_of_ble_eq_true rfl) dX6_order_80 hf (fun r9 hf => ?_)
        obtain ⟨rfl, rfl⟩ := Prod.mk.inj (Option.some.inj hf)
        exact x_iret (pc := 83) E hR dX6_order_83
      · refine x_bipush (pc := 32) (v := (-9 : Int32)) E dX6_order_32 rfl ?_
        obtain ⟨rfl, rfl⟩ := Prod.mk.inj (Option.some.inj hf)
        exact x_iret (pc := 34) E hR dX6_order_34
  · refine x_aload_n 0 (pc := 10) (i := 0) E dX6_order_10 rfl rfl ?_
    refine x_bipush (pc := 11) (v := (-3 : Int32)) E dX6_order_11 rfl ?_
    refine x_callVwi (pc := 13) (na := 1) (As := [.int (-3 : Int32)]) E (c_X6_refuse G (-3 : Int32) σ) rfl (Nat.le_of_ble_eq_true rfl) rfl wq_133 wq_2 wq_130 wq_131 wq_132 rfl rfl (by decide) ⟨Nat.le_of_ble_eq_true rfl, Nat.le_of_ble_eq_true rfl⟩ rfl rfl (Nat.le_of_ble_eq_true rfl) dX6_order_13 hf (fun r10 σ11 hf => ?_)
    obtain ⟨rfl, rfl⟩ := Prod.mk.inj (Option.some.inj hf)
    exact x_iret (pc := 16) E hR dX6_order_16
set_option maxHeartbeats 4000000 in
set_option maxRecDepth 100000 in
theorem c_X6_put (G : Gx) (v1 : Int32) (σ : MM) (r : Int32) (σ' : MM) (hf : f_X6_put v1 σ = some (r, σ')) : Ct shS 56 yX6_put cX6_put 2 (some .int) rm_X6_put G [.ref (gad G 0), .int v1] σ (some (.int r)) σ' := by
  refine ct_of (by decide) (Nat.le_of_ble_eq_true rfl) (fun K E hR => ?_)
  have E : OKc 56 cX6_put 2 RX6 G K := E
  show XJ shS 56 2 rm_X6_put G K σ [(0, .ref (gad G 0)), (1, .int v1)] 0 []
  unfold f_X6_put at hf
  refine x_iload_n 1 (pc := 0) (i := 1) E dX6_put_0 rfl rfl ?_
  refine x_if_ge (y := 0) (pc := 1) (tgt := 11) E dX6_put_1 (by decide) hf (fun hf => ?_) (fun hf => ?_)
  · refine x_iload_n 1 (pc := 11) (i := 1) E dX6_put_11 rfl rfl ?_
    refine x_bipush (pc := 12) (v := (12 : Int32)) E dX6_put_12 rfl ?_
    refine x_icmp_ge (pc := 14) (tgt := 26) E dX6_put_14 (by decide) hf (fun hf => ?_) (fun hf => ?_)
    · refine x_aload_n 0 (pc := 26) (i := 0) E dX6_put_26 rfl rfl ?_
      refine x_bipush (pc := 27) (v := (-6 : Int32)) E dX6_put_27 rfl ?_
      refine x_callVwi (pc := 29) (na := 1) (As := [.int (-6 : Int32)]) E (c_X6_refuse G (-6 : Int32) σ) rfl (Nat.le_of_ble_eq_true rfl) rfl wq_133 wq_2 wq_130 wq_131 wq_132 rfl rfl (by decide) ⟨Nat.le_of_ble_eq_true rfl, Nat.le_of_ble_eq_true rfl⟩ rfl rfl (Nat.le_of_ble_eq_true rfl) dX6_put_29 hf (fun r1 σ2 hf => ?_)
      obtain ⟨rfl, rfl⟩ := Prod.mk.inj (Option.some.inj hf)
      exact x_iret (pc := 32) E hR dX6_put_32
    · refine x_aload_n 0 (pc := 17) (i := 0) E dX6_put_17 rfl rfl ?_
      refine x_getI (pc := 18) (p := 5) E rfl (Nat.le_of_ble_eq_true rfl) rfl inlX6 (by decide) rfl wq_551 dX6_put_18 ?_
      refine x_bipush (pc := 21) (v := (6 : Int32)) E dX6_put_21 rfl ?_
      refine x_icmp_lt (pc := 23) (tgt := 33) E dX6_put_23 (by decide) hf (fun hf => ?_) (fun hf => ?_)
      · refine x_aload_n 0 (pc := 33) (i := 0) E dX6_put_33 rfl rfl ?_
        refine x_getR (pc := 34) (r := 14) (p := 4) E rfl (Nat.le_of_ble_eq_true rfl) rfl inlX6 (by decide) rfl wq_24 dX6_put_34 ?_
        refine x_aload_n 0 (pc := 37) (i := 0) E dX6_put_37 rfl rfl ?_
        refine x_getI (pc := 38) (p := 5) E rfl (Nat.le_of_ble_eq_true rfl) rfl inlX6 (by decide) rfl wq_551 dX6_put_38 ?_
        refine x_iload_n 1 (pc := 41) (i := 1) E dX6_put_41 rfl rfl ?_
        refine x_iastore (pc := 42) E rfl (Nat.le_of_ble_eq_true rfl) dX6_put_42 hf (fun σ3 hf => ?_)
        refine x_aload_n 0 (pc := 43) (i := 0) E dX6_put_43 rfl rfl ?_
        refine x_dup (pc := 44) E dX6_put_44 rfl ?_
        refine x_getI (pc := 45) (p := 5) E rfl (Nat.le_of_ble_eq_true rfl) rfl inlX6 (by decide) rfl wq_551 dX6_put_45 ?_
        refine x_iconst (pc := 48) (v := (1 : Int32)) E dX6_put_48 rfl ?_
        refine x_iadd (pc := 49) E dX6_put_49 ?_
        refine x_put (pc := 50) (p := 5) E rfl (Nat.le_of_ble_eq_true rfl) rfl inlX6 tyX6_ok nmX6 (by decide) rfl rfl rfl rfl wq_551 dX6_put_50 hf (fun σ4 hf => ?_)
        refine x_aload_n 0 (pc := 53) (i := 0) E dX6_put_53 rfl rfl ?_
        refine x_getI (pc := 54) (p := 5) E rfl (Nat.le_of_ble_eq_true rfl) rfl inlX6 (by decide) rfl wq_551 dX6_put_54 ?_
        obtain ⟨rfl, rfl⟩ := Prod.mk.inj (Option.some.inj hf)
        exact x_iret (pc := 57) E hR dX6_put_57
      · refine x_aload_n 0 (pc := 26) (i := 0) E dX6_put_26 rfl rfl ?_
        refine x_bipush (pc := 27) (v := (-6 : Int32)) E dX6_put_27 rfl ?_
        refine x_callVwi (pc := 29) (na := 1) (As := [.int (-6 : Int32)]) E (c_X6_refuse G (-6 : Int32) σ) rfl (Nat.le_of_ble_eq_true rfl) rfl wq_133 wq_2 wq_130 wq_131 wq_132 rfl rfl (by decide) ⟨Nat.le_of_ble_eq_true rfl, Nat.le_of_ble_eq_true rfl⟩ rfl rfl (Nat.le_of_ble_eq_true rfl) dX6_put_29 hf (fun r5 σ6 hf => ?_)
        obtain ⟨rfl, rfl⟩ := Prod.mk.inj (Option.some.inj hf)
        exact x_iret (pc := 32) E hR dX6_put_32
  · refine x_aload_n 0 (pc := 4) (i := 0) E dX6_put_4 rfl rfl ?_
    refine x_bipush (pc := 5) (v := (-4 : Int32)) E dX6_put_5 rfl ?_
    refine x_callVwi (pc := 7) (na := 1) (As := [.int (-4 : Int32)]) E (c_X6_refuse G (-4 : Int32) σ) rfl (Nat.le_of_ble_eq_true rfl) rfl wq_133 wq_2 wq_130 wq_131 wq_132 rfl rfl (by decide) ⟨Nat.le_of_ble_eq_true rfl, Nat.le_of_ble_eq_true rfl⟩ rfl rfl (Nat.le_of_ble_eq_true rfl) dX6_put_7 hf (fun r7 σ8 hf => ?_)
    obtain ⟨rfl, rfl⟩ := Prod.mk.inj (Option.some.inj hf)
    exact x_iret (pc := 10) E hR dX6_put_10
set_option maxHeartbeats 4000000 in
set_option maxRecDepth 100000 in
theorem c_X6_unput (G : Gx) (σ : MM) (r : Int32) (σ' : MM) (hf : f_X6_unput σ = some (r, σ')) : Ct shS 56 yX6_unput cX6_unput 2 (some .int) rm_X6_unput G [.ref (gad G 0)] σ (some (.int r)) σ' := by
  refine ct_of (by decide) (Nat.le_of_ble_eq_true rfl) (fun K E hR => ?_)
  have E : OKc 56 cX6_unput 2 RX6 G K := E
  show XJ shS 56 2 rm_X6_unput G K σ [(0, .ref (gad G 0))] 0 []
  unfold f_X6_unput at hf
  refine x_aload_n 0 (pc := 0) (i := 0) E dX6_unput_0 rfl rfl ?_
  refine x_getI (pc := 1) (p := 5) E rfl (Nat.le_of_ble_eq_true rfl) rfl inlX6 (by decide) rfl wq_551 dX6_unput_1 ?_
  refine x_istore_n (pc := 4) (lv' := [(1, .int (σ.1 0 5)), (0, .ref (gad G 0))]) E dX6_unput_4 rfl (by decide) rfl ?_
  refine x_aload_n 1 (pc := 5) (i := 0) E dX6_unput_5 rfl rfl ?_
  refine x_iconst (pc := 6) (v := (0 : Int32)) E dX6_unput_6 rfl ?_
  refine x_put (pc := 7) (p := 5) E rfl (Nat.le_of_ble_eq_true rfl) rfl inlX6 tyX6_ok nmX6 (by decide) rfl rfl rfl rfl wq_551 dX6_unput_7 hf (fun σ1 hf => ?_)
  refine x_iload_n 0 (pc := 10) (i := 1) E dX6_unput_10 rfl rfl ?_
  obtain ⟨rfl, rfl⟩ := Prod.mk.inj (Option.some.inj hf)
  exact x_iret (pc := 11) E hR dX6_unput_11
set_option maxHeartbeats 4000000 in
set_option maxRecDepth 100000 in
theorem l_X6_rowIsLawful_36 (G : Gx) {K : Kx}    (σ : MM) (r : Int32) (hR : RetX shS 56 (some .boolean) G K (some (.int r)) σ) (E : OKc 56 cX6_rowIsLawful 4 RX6 G K) : ∀ (m : Nat) (v1 : Int32) (v2 : Int32), loopN (fun s => g_X6_rowIsLawful_36 s.1 s.2 σ) m (v1, v2) = some r → XJ shS 56 4 rm_X6_rowIsLawful G K σ [(0, .ref (gad G 0)), (1, .int v1), (2, .int v2)] 36 [] := by
  intro m
  induction m with
  | zero => intro v1 v2 hf; exact (loopN_0 hf).elim
  | succ m ih =>
    intro v1 v2 hf
    obtain ⟨q, hf, h2⟩ := loopN_s hf
    have hf : g_X6_rowIsLawful_36 v1 v2 σ = some q := hf
    unfold g_X6_rowIsLawful_36 at hf
    refine x_iload_n 2 (pc := 36) (i := 2) E dX6_rowIsLawful_36 rfl rfl ?_
    refine x_aload_n 0 (pc := 37) (i := 0) E dX6_rowIsLawful_37 rfl rfl ?_
    refine x_getI (pc := 38) (p := 5) E rfl (Nat.le_of_ble_eq_true rfl) rfl inlX6 (by decide) rfl wq_551 dX6_rowIsLawful_38 ?_
    refine x_icmp_ge (pc := 41) (tgt := 71) E dX6_rowIsLawful_41 (by decide) hf (fun hf => ?_) (fun hf => ?_)
    · refine x_iconst (pc := 71) (v := (1 : Int32)) E dX6_rowIsLawful_71 rfl ?_
      obtain ⟨hz, hf⟩ := chk_some hf
      obtain rfl := Option.some.inj hf
      obtain rfl := lpk_r h2
      exact x_zret (pc := 72) E hR (isB_nar hz) dX6_rowIsLawful_72
    · refine x_iconst (pc := 44) (v := (1 : Int32)) E dX6_rowIsLawful_44 rfl ?_
      refine x_aload_n 0 (pc := 45) (i := 0) E dX6_rowIsLawful_45 rfl rfl ?_
      refine x_getR (pc := 46) (r := 14) (p := 4) E rfl (Nat.le_of_ble_eq_true rfl) rfl inlX6 (by decide) rfl wq_24 dX6_rowIsLawful_46 ?_
      refine x_iload_n 2 (pc := 49) (i := 2) E dX6_rowIsLawful_49 rfl rfl ?_
      refine x_iaload (pc := 50) E rfl (Nat.le_of_ble_eq_true rfl) dX6_rowIsLawful_50 hf (fun hf => ?_)
      refine x_ishl (pc := 51) E dX6_rowIsLawful_51 ?_
      refine x_istore_n (pc := 52) (lv' := [(3, .int ((1 : Int32) <<< ((σ.1 14 v2.toNatClampNeg) &&& 31))), (0, .ref (gad G 0)), (1, .int v1), (2, .int v2)]) E dX6_rowIsLawful_52 rfl (by decide) rfl ?_
      refine x_iload_n 2 (pc := 53) (i := 1) E dX6_rowIsLawful_53 rfl rfl ?_
      refine x_iload_n 0 (pc := 54) (i := 3) E dX6_rowIsLawful_54 rfl rfl ?_
      refine x_iand (pc := 55) E dX6_rowIsLawful_55 ?_
      refine x_if_ne (y := 0) (pc := 56) (tgt := 61) E dX6_rowIsLawful_56 (by decide) hf (fun hf => ?_) (fun hf => ?_)
      · refine x_iload_n 2 (pc := 61) (i := 1) E dX6_rowIsLawful_61 rfl rfl ?_
        refine x_iload_n 0 (pc := 62) (i := 3) E dX6_rowIsLawful_62 rfl rfl ?_
        refine x_ixor (pc := 63) E dX6_rowIsLawful_63 ?_
        refine x_istore_n (pc := 64) (lv' := [(1, .int (v1 ^^^ ((1 : Int32) <<< ((σ.1 14 v2.toNatClampNeg) &&& 31)))), (3, .int ((1 : Int32) <<< ((σ.1 14 v2.toNatClampNeg) &&& 31))), (0, .ref (gad G 0)), (2, .int v2)]) E dX6_rowIsLawful_64 rfl (by decide) rfl ?_
        refine x_iinc 3 (pc := 65) (v := v2 + 1) (lv' := [(2, .int (v2 + 1)), (1, .int (v1 ^^^ ((1 : Int32) <<< ((σ.1 14 v2.toNatClampNeg) &&& 31)))), (3, .int ((1 : Int32) <<< ((σ.1 14 v2.toNatClampNeg) &&& 31))), (0, .ref (gad G 0))]) E dX6_rowIsLawful_65 rfl rfl (by decide) rfl ?_
        refine x_goto (pc := 68) (tgt := 36) E dX6_rowIsLawful_68 (by decide) ?_
        obtain rfl := Option.some.inj hf
        exact x_sub [3, 1, 0] rfl (ih _ _ (lpk_l h2))
      · refine x_iconst (pc := 59) (v := (0 : Int32)) E dX6_rowIsLawful_59 rfl ?_
        obtain ⟨hz, hf⟩ := chk_some hf
        obtain rfl := Option.some.inj hf
        obtain rfl := lpk_r h2
        exact x_zret (pc := 60) E hR (isB_nar hz) dX6_rowIsLawful_60
set_option maxHeartbeats 4000000 in
set_option maxRecDepth 100000 in
theorem c_X6_rowIsLawful (G : Gx) (σ : MM) (r : Int32) (hf : f_X6_rowIsLawful σ = some r) : Ct shS 56 yX6_rowIsLawful cX6_rowIsLawful 4 (some .boolean) rm_X6_rowIsLawful G [.ref (gad G 0)] σ (some (.int r)) σ := by
  refine ct_of (by decide) (Nat.le_of_ble_eq_true rfl) (fun K E hR => ?_)
  have E : OKc 56 cX6_rowIsLawful 4 RX6 G K := E
  show XJ shS 56 4 rm_X6_rowIsLawful G K σ [(0, .ref (gad G 0))] 0 []
  unfold f_X6_rowIsLawful at hf
  refine x_aload_n 0 (pc := 0) (i := 0) E dX6_rowIsLawful_0 rfl rfl ?_
  refine x_getR (pc := 1) (r := 1) (p := 0) E rfl (Nat.le_of_ble_eq_true rfl) rfl inlX6 (by decide) rfl wq_17 dX6_rowIsLawful_1 ?_
  refine x_callVNri (pc := 4) (na := 0) (As := []) E (c_X0_called G σ) rfl (Nat.le_of_ble_eq_true rfl) rfl wq_488 wq_16 wn_40 wq_486 wq_487 rfl rfl (by decide) ⟨Nat.le_of_ble_eq_true rfl, Nat.le_of_ble_eq_true rfl⟩ rfl rfl (Nat.le_of_ble_eq_true rfl) dX6_rowIsLawful_4 hf (fun r1 hf => ?_)
  refine x_if_eq (y := 0) (pc := 7) (tgt := 24) E dX6_rowIsLawful_7 (by decide) hf (fun hf => ?_) (fun hf => ?_)
  · refine x_iconst (pc := 24) (v := (0 : Int32)) E dX6_rowIsLawful_24 rfl ?_
    obtain ⟨hz, hf⟩ := chk_some hf
    obtain rfl := Option.some.inj hf
    exact x_zret (pc := 25) E hR (isB_nar hz) dX6_rowIsLawful_25
  · refine x_aload_n 0 (pc := 10) (i := 0) E dX6_rowIsLawful_10 rfl rfl ?_
    refine x_getI (pc := 11) (p := 5) E rfl (Nat.le_of_ble_eq_true rfl) rfl inlX6 (by decide) rfl wq_551 dX6_rowIsLawful_11 ?_
    refine x_aload_n 0 (pc := 14) (i := 0) E dX6_rowIsLawful_14 rfl rfl ?_
    refine x_getR (pc := 15) (r := 1) (p := 0) E rfl (Nat.le_of_ble_eq_true rfl) rfl inlX6 (by decide) rfl wq_17 dX6_rowIsLawful_15 ?_
    refine x_callVNri (pc := 18) (na := 0) (As := []) E (c_X0_strikes G σ) rfl (Nat.le_of_ble_eq_true rfl) rfl wq_493 wq_16 wn_43 wq_491 wq_492 rfl rfl (by decide) ⟨Nat.le_of_ble_eq_true rfl, Nat.le_of_ble_eq_true rfl⟩ rfl rfl (Nat.le_of_ble_eq_true rfl) dX6_rowIsLawful_18 hf (fun r2 hf => ?_)
    refine x_icmp_eq (pc := 21) (tgt := 26) E dX6_rowIsLawful_21 (by decide) hf (fun hf => ?_) (fun hf => ?_)
    · refine x_aload_n 0 (pc := 26) (i := 0) E dX6_rowIsLawful_26 rfl rfl ?_
      refine x_getR (pc := 27) (r := 1) (p := 0) E rfl (Nat.le_of_ble_eq_true rfl) rfl inlX6 (by decide) rfl wq_17 dX6_rowIsLawful_27 ?_
      refine x_callVNri (pc := 30) (na := 0) (As := []) E (c_X0_calledSet G σ) rfl (Nat.le_of_ble_eq_true rfl) rfl wq_504 wq_16 wn_41 wq_502 wq_503 rfl rfl (by decide) ⟨Nat.le_of_ble_eq_true rfl, Nat.le_of_ble_eq_true rfl⟩ rfl rfl (Nat.le_of_ble_eq_true rfl) dX6_rowIsLawful_30 hf (fun r3 hf => ?_)
      refine x_istore_n (pc := 33) (lv' := [(1, .int r3), (0, .ref (gad G 0))]) E dX6_rowIsLawful_33 rfl (by decide) rfl ?_
      refine x_iconst (pc := 34) (v := (0 : Int32)) E dX6_rowIsLawful_34 rfl ?_
      refine x_istore_n (pc := 35) (lv' := [(2, .int (0 : Int32)), (1, .int r3), (0, .ref (gad G 0))]) E dX6_rowIsLawful_35 rfl (by decide) rfl ?_
      exact x_sub [2, 1, 0] rfl (l_X6_rowIsLawful_36 G    σ r hR E FU _ _ hf)
    · refine x_iconst (pc := 24) (v := (0 : Int32)) E dX6_rowIsLawful_24 rfl ?_
      obtain ⟨hz, hf⟩ := chk_some hf
      obtain rfl := Option.some.inj hf
      exact x_zret (pc := 25) E hR (isB_nar hz) dX6_rowIsLawful_25
set_option maxHeartbeats 4000000 in
set_option maxRecDepth 100000 in
theorem c_X6_lawful (G : Gx) (σ : MM) (r : Int32) (σ' : MM) (hf : f_X6_lawful σ = some (r, σ')) : Ct shS 56 yX6_lawful cX6_lawful 1 (some .int) rm_X6_lawful G [.ref (gad G 0)] σ (some (.int r)) σ' := by
  refine ct_of (by decide) (Nat.le_of_ble_eq_true rfl) (fun K E hR => ?_)
  have E : OKc 56 cX6_lawful 1 RX6 G K := E
  show XJ shS 56 1 rm_X6_lawful G K σ [(0, .ref (gad G 0))] 0 []
  unfold f_X6_lawful at hf
  refine x_aload_n 0 (pc := 0) (i := 0) E dX6_lawful_0 rfl rfl ?_
  refine x_getR (pc := 1) (r := 1) (p := 0) E rfl (Nat.le_of_ble_eq_true rfl) rfl inlX6 (by decide) rfl wq_17 dX6_lawful_1 ?_
  refine x_callVNri (pc := 4) (na := 0) (As := []) E (c_X0_called G σ) rfl (Nat.le_of_ble_eq_true rfl) rfl wq_488 wq_16 wn_40 wq_486 wq_487 rfl rfl (by decide) ⟨Nat.le_of_ble_eq_true rfl, Nat.le_of_ble_eq_true rfl⟩ rfl rfl (Nat.le_of_ble_eq_true rfl) dX6_lawful_4 hf (fun r1 hf => ?_)
  refine x_if_ne (y := 0) (pc := 7) (tgt := 17) E dX6_lawful_7 (by decide) hf (fun hf => ?_) (fun hf => ?_)
  · refine x_aload_n 0 (pc := 17) (i := 0) E dX6_lawful_17 rfl rfl ?_
    refine x_callVri (pc := 18) (na := 0) (As := []) E (c_X6_rowIsLawful G σ) rfl (Nat.le_of_ble_eq_true rfl) rfl wq_572 wq_2 wq_569 wq_570 wq_571 rfl rfl (by decide) ⟨Nat.le_of_ble_eq_true rfl, Nat.le_of_ble_eq_true rfl⟩ rfl rfl (Nat.le_of_ble_eq_true rfl) dX6_lawful_18 hf (fun r2 hf => ?_)
    refine x_if_eq (y := 0) (pc := 21) (tgt := 28) E dX6_lawful_21 (by decide) hf (fun hf => ?_) (fun hf => ?_)
    · refine x_iconst (pc := 28) (v := (0 : Int32)) E dX6_lawful_28 rfl ?_
      obtain ⟨rfl, rfl⟩ := Prod.mk.inj (Option.some.inj hf)
      exact x_iret (pc := 29) E hR dX6_lawful_29
    · refine x_iconst (pc := 24) (v := (1 : Int32)) E dX6_lawful_24 rfl ?_
      refine x_goto (pc := 25) (tgt := 29) E dX6_lawful_25 (by decide) ?_
      obtain ⟨rfl, rfl⟩ := Prod.mk.inj (Option.some.inj hf)
      exact x_iret (pc := 29) E hR dX6_lawful_29
  · refine x_aload_n 0 (pc := 10) (i := 0) E dX6_lawful_10 rfl rfl ?_
    refine x_bipush (pc := 11) (v := (-3 : Int32)) E dX6_lawful_11 rfl ?_
    refine x_callVwi (pc := 13) (na := 1) (As := [.int (-3 : Int32)]) E (c_X6_refuse G (-3 : Int32) σ) rfl (Nat.le_of_ble_eq_true rfl) rfl wq_133 wq_2 wq_130 wq_131 wq_132 rfl rfl (by decide) ⟨Nat.le_of_ble_eq_true rfl, Nat.le_of_ble_eq_true rfl⟩ rfl rfl (Nat.le_of_ble_eq_true rfl) dX6_lawful_13 hf (fun r3 σ4 hf => ?_)
    obtain ⟨rfl, rfl⟩ := Prod.mk.inj (Option.some.inj hf)
    exact x_iret (pc := 16) E hR dX6_lawful_16
set_option maxHeartbeats 4000000 in
set_option maxRecDepth 100000 in
theorem l_X6_slip_28 (G : Gx) {K : Kx}   (v1 : Int32) (r : Int64) (σ' : MM) (hR : RetX shS 56 (some .long) G K (some (.long r)) σ') (E : OKc 56 cX6_slip 7 RX6 G K) : ∀ (m : Nat) (v2 : Int32) (v3 : Int32) (σ : MM), loopN (fun s => g_X6_slip_28 v1 s.1 s.2.1 s.2.2) m (v2, v3, σ) = some (r, σ') → XJ shS 56 7 rm_X6_slip G K σ [(0, .ref (gad G 0)), (1, .int v1), (2, .int v2), (3, .int v3)] 28 [] := by
  intro m
  induction m with
  | zero => intro v2 v3 σ hf; exact (loopN_0 hf).elim
  | succ m ih =>
    intro v2 v3 σ hf
    obtain ⟨q, hf, h2⟩ := loopN_s hf
    have hf : g_X6_slip_28 v1 v2 v3 σ = some q := hf
    unfold g_X6_slip_28 at hf
    refine x_iload_n 3 (pc := 28) (i := 3) E dX6_slip_28 rfl rfl ?_
    refine x_aload_n 0 (pc := 29) (i := 0) E dX6_slip_29 rfl rfl ?_
    refine x_getI (pc := 30) (p := 5) E rfl (Nat.le_of_ble_eq_true rfl) rfl inlX6 (by decide) rfl wq_551 dX6_slip_30 ?_
    refine x_icmp_ge (pc := 33) (tgt := 101) E dX6_slip_33 (by decide) hf (fun hf => ?_) (fun hf => ?_)
    · refine x_iload_n 1 (pc := 101) (i := 1) E dX6_slip_101 rfl rfl ?_
      refine x_if_eq (y := 0) (pc := 102) (tgt := 109) E dX6_slip_102 (by decide) hf (fun hf => ?_) (fun hf => ?_)
      · refine x_ldc2 (pc := 109) (v := -9) E wq_588 dX6_slip_109 ?_
        obtain rfl := Option.some.inj hf
        obtain ⟨rfl, rfl⟩ := Prod.mk.inj (lpk_r h2)
        exact x_lret (pc := 112) E hR dX6_slip_112
      · refine x_lconst (pc := 105) (v := 0) E dX6_slip_105 rfl ?_
        refine x_goto (pc := 106) (tgt := 112) E dX6_slip_106 (by decide) ?_
        obtain rfl := Option.some.inj hf
        obtain ⟨rfl, rfl⟩ := Prod.mk.inj (lpk_r h2)
        exact x_lret (pc := 112) E hR dX6_slip_112
    · refine x_iload_n 2 (pc := 36) (i := 2) E dX6_slip_36 rfl rfl ?_
      refine x_iconst (pc := 37) (v := (1 : Int32)) E dX6_slip_37 rfl ?_
      refine x_aload_n 0 (pc := 38) (i := 0) E dX6_slip_38 rfl rfl ?_
      refine x_getR (pc := 39) (r := 14) (p := 4) E rfl (Nat.le_of_ble_eq_true rfl) rfl inlX6 (by decide) rfl wq_24 dX6_slip_39 ?_
      refine x_iload_n 3 (pc := 42) (i := 3) E dX6_slip_42 rfl rfl ?_
      refine x_iaload (pc := 43) E rfl (Nat.le_of_ble_eq_true rfl) dX6_slip_43 hf (fun hf => ?_)
      refine x_ishl (pc := 44) E dX6_slip_44 ?_
      refine x_iconst (pc := 45) (v := (-1 : Int32)) E dX6_slip_45 rfl ?_
      refine x_ixor (pc := 46) E dX6_slip_46 ?_
      refine x_iand (pc := 47) E dX6_slip_47 ?_
      refine x_istore (pc := 48) (lv' := [(4, .int (v2 &&& (((1 : Int32) <<< ((σ.1 14 v3.toNatClampNeg) &&& 31)) ^^^ (-1 : Int32)))), (0, .ref (gad G 0)), (1, .int v1), (2, .int v2), (3, .int v3)]) E dX6_slip_48 (by decide) rfl ?_
      refine x_aload_n 1 (pc := 50) (i := 0) E dX6_slip_50 rfl rfl ?_
      refine x_getR (pc := 51) (r := 42) (p := 9) E rfl (Nat.le_of_ble_eq_true rfl) rfl inlX6 (by decide) rfl wq_34 dX6_slip_51 ?_
      refine x_iload_n 3 (pc := 54) (i := 2) E dX6_slip_54 rfl rfl ?_
      refine x_callVNrl (pc := 55) (na := 1) (As := [.int v2]) E (c_X5_valueOf G 42 (Or.inl rfl) v2 σ) rfl (Nat.le_of_ble_eq_true rfl) rfl wq_440 wq_33 wn_38 wq_438 wq_439 rfl rfl (by decide) ⟨Nat.le_of_ble_eq_true rfl, Nat.le_of_ble_eq_true rfl⟩ rfl rfl (Nat.le_of_ble_eq_true rfl) dX6_slip_55 hf (fun r5 hf => ?_)
      refine x_aload_n 1 (pc := 58) (i := 0) E dX6_slip_58 rfl rfl ?_
      refine x_getR (pc := 59) (r := 42) (p := 9) E rfl (Nat.le_of_ble_eq_true rfl) rfl inlX6 (by decide) rfl wq_34 dX6_slip_59 ?_
      refine x_iload 0 (pc := 62) E dX6_slip_62 rfl ?_
      refine x_callVNrl (pc := 64) (na := 1) (As := [.int (v2 &&& (((1 : Int32) <<< ((σ.1 14 v3.toNatClampNeg) &&& 31)) ^^^ (-1 : Int32)))]) E (c_X5_valueOf G 42 (Or.inl rfl) (v2 &&& (((1 : Int32) <<< ((σ.1 14 v3.toNatClampNeg) &&& 31)) ^^^ (-1 : Int32))) σ) rfl (Nat.le_of_ble_eq_true rfl) rfl wq_440 wq_33 wn_38 wq_438 wq_439 rfl rfl (by decide) ⟨Nat.le_of_ble_eq_true rfl, Nat.le_of_ble_eq_true rfl⟩ rfl rfl (Nat.le_of_ble_eq_true rfl) dX6_slip_64 hf (fun r6 hf => ?_)
      refine x_lsub (pc := 67) E dX6_slip_67 ?_
      refine x_mabsL (pc := 68) E wq_585 wq_586 wq_433 wq_587 (Nat.le_of_ble_eq_true rfl) (Nat.le_of_ble_eq_true rfl) dX6_slip_68 ?_
      refine x_lstore (pc := 71) (lv' := [(5, .long (if 0 < r5 - r6 then r5 - r6 else -(r5 - r6))), (4, .int (v2 &&& (((1 : Int32) <<< ((σ.1 14 v3.toNatClampNeg) &&& 31)) ^^^ (-1 : Int32)))), (0, .ref (gad G 0)), (1, .int v1), (2, .int v2), (3, .int v3)]) E dX6_slip_71 (by decide) rfl ?_
      refine x_lload 0 (pc := 73) E dX6_slip_73 rfl ?_
      refine x_lconst (pc := 75) (v := 0) E dX6_slip_75 rfl ?_
      refine x_lcmp_eq (pc := 76) (tgt := 92) E dX6_slip_76 dX6_slip_77 (by decide) hf (fun hf => ?_) (fun hf => ?_)
      · refine x_iload 1 (pc := 92) E dX6_slip_92 rfl ?_
        refine x_istore_n (pc := 94) (lv' := [(2, .int (v2 &&& (((1 : Int32) <<< ((σ.1 14 v3.toNatClampNeg) &&& 31)) ^^^ (-1 : Int32)))), (5, .long (if 0 < r5 - r6 then r5 - r6 else -(r5 - r6))), (4, .int (v2 &&& (((1 : Int32) <<< ((σ.1 14 v3.toNatClampNeg) &&& 31)) ^^^ (-1 : Int32)))), (0, .ref (gad G 0)), (1, .int v1), (3, .int v3)]) E dX6_slip_94 rfl (by decide) rfl ?_
        refine x_iinc 5 (pc := 95) (v := v3 + 1) (lv' := [(3, .int (v3 + 1)), (2, .int (v2 &&& (((1 : Int32) <<< ((σ.1 14 v3.toNatClampNeg) &&& 31)) ^^^ (-1 : Int32)))), (5, .long (if 0 < r5 - r6 then r5 - r6 else -(r5 - r6))), (4, .int (v2 &&& (((1 : Int32) <<< ((σ.1 14 v3.toNatClampNeg) &&& 31)) ^^^ (-1 : Int32)))), (0, .ref (gad G 0)), (1, .int v1)]) E dX6_slip_95 rfl rfl (by decide) rfl ?_
        refine x_goto (pc := 98) (tgt := 28) E dX6_slip_98 (by decide) ?_
        obtain rfl := Option.some.inj hf
        exact x_sub [4, 5, 1, 0] rfl (ih _ _ _ (lpk_l h2))
      · refine x_iload_n 3 (pc := 80) (i := 1) E dX6_slip_80 rfl rfl ?_
        refine x_if_eq (y := 0) (pc := 81) (tgt := 89) E dX6_slip_81 (by decide) hf (fun hf => ?_) (fun hf => ?_)
        · refine x_iload_n 5 (pc := 89) (i := 3) E dX6_slip_89 rfl rfl ?_
          refine x_i2l (pc := 90) E dX6_slip_90 ?_
          obtain rfl := Option.some.inj hf
          obtain ⟨rfl, rfl⟩ := Prod.mk.inj (lpk_r h2)
          exact x_lret (pc := 91) E hR dX6_slip_91
        · refine x_lload 0 (pc := 84) E dX6_slip_84 rfl ?_
          refine x_goto (pc := 86) (tgt := 91) E dX6_slip_86 (by decide) ?_
          obtain rfl := Option.some.inj hf
          obtain ⟨rfl, rfl⟩ := Prod.mk.inj (lpk_r h2)
          exact x_lret (pc := 91) E hR dX6_slip_91
set_option maxHeartbeats 4000000 in
set_option maxRecDepth 100000 in
theorem c_X6_slip (G : Gx) (v1 : Int32) (σ : MM) (r : Int64) (σ' : MM) (hf : f_X6_slip v1 σ = some (r, σ')) : Ct shS 56 yX6_slip cX6_slip 7 (some .long) rm_X6_slip G [.ref (gad G 0), .int v1] σ (some (.long r)) σ' := by
  refine ct_of (by decide) (Nat.le_of_ble_eq_true rfl) (fun K E hR => ?_)
  have E : OKc 56 cX6_slip 7 RX6 G K := E
  show XJ shS 56 7 rm_X6_slip G K σ [(0, .ref (gad G 0)), (1, .int v1)] 0 []
  unfold f_X6_slip at hf
  refine x_aload_n 0 (pc := 0) (i := 0) E dX6_slip_0 rfl rfl ?_
  refine x_callVri (pc := 1) (na := 0) (As := []) E (c_X6_rowIsLawful G σ) rfl (Nat.le_of_ble_eq_true rfl) rfl wq_572 wq_2 wq_569 wq_570 wq_571 rfl rfl (by decide) ⟨Nat.le_of_ble_eq_true rfl, Nat.le_of_ble_eq_true rfl⟩ rfl rfl (Nat.le_of_ble_eq_true rfl) dX6_slip_1 hf (fun r1 hf => ?_)
  refine x_if_ne (y := 0) (pc := 4) (tgt := 14) E dX6_slip_4 (by decide) hf (fun hf => ?_) (fun hf => ?_)
  · refine x_aload_n 0 (pc := 14) (i := 0) E dX6_slip_14 rfl rfl ?_
    refine x_callVwv (pc := 15) (na := 0) (As := []) E (c_X6_knowTurns G σ) rfl (Nat.le_of_ble_eq_true rfl) rfl wq_501 wq_2 wq_498 wq_499 wq_500 rfl rfl (by decide) ⟨Nat.le_of_ble_eq_true rfl, Nat.le_of_ble_eq_true rfl⟩ rfl rfl (Nat.le_of_ble_eq_true rfl) dX6_slip_15 hf (fun σ3 hf => ?_)
    refine x_aload_n 0 (pc := 18) (i := 0) E dX6_slip_18 rfl rfl ?_
    refine x_getR (pc := 19) (r := 1) (p := 0) E rfl (Nat.le_of_ble_eq_true rfl) rfl inlX6 (by decide) rfl wq_17 dX6_slip_19 ?_
    refine x_callVNri (pc := 22) (na := 0) (As := []) E (c_X0_calledSet G σ3) rfl (Nat.le_of_ble_eq_true rfl) rfl wq_504 wq_16 wn_41 wq_502 wq_503 rfl rfl (by decide) ⟨Nat.le_of_ble_eq_true rfl, Nat.le_of_ble_eq_true rfl⟩ rfl rfl (Nat.le_of_ble_eq_true rfl) dX6_slip_22 hf (fun r4 hf => ?_)
    refine x_istore_n (pc := 25) (lv' := [(2, .int r4), (0, .ref (gad G 0)), (1, .int v1)]) E dX6_slip_25 rfl (by decide) rfl ?_
    refine x_iconst (pc := 26) (v := (0 : Int32)) E dX6_slip_26 rfl ?_
    refine x_istore_n (pc := 27) (lv' := [(3, .int (0 : Int32)), (2, .int r4), (0, .ref (gad G 0)), (1, .int v1)]) E dX6_slip_27 rfl (by decide) rfl ?_
    exact x_sub [2, 3, 1, 0] rfl (l_X6_slip_28 G   v1 r σ' hR E FU _ _ _ hf)
  · refine x_aload_n 0 (pc := 7) (i := 0) E dX6_slip_7 rfl rfl ?_
    refine x_bipush (pc := 8) (v := (-3 : Int32)) E dX6_slip_8 rfl ?_
    refine x_callVwl (pc := 10) (na := 1) (As := [.int (-3 : Int32)]) E (c_X6_refuseLong G (-3 : Int32) σ) rfl (Nat.le_of_ble_eq_true rfl) rfl wq_316 wq_2 wq_313 wq_314 wq_315 rfl rfl (by decide) ⟨Nat.le_of_ble_eq_true rfl, Nat.le_of_ble_eq_true rfl⟩ rfl rfl (Nat.le_of_ble_eq_true rfl) dX6_slip_10 hf (fun r7 σ8 hf => ?_)
    obtain ⟨rfl, rfl⟩ := Prod.mk.inj (Option.some.inj hf)
    exact x_lret (pc := 13) E hR dX6_slip_13
set_option maxHeartbeats 4000000 in
set_option maxRecDepth 100000 in
theorem c_X6_valueWith (G : Gx) (q1 : Nat) (h_q1 : isMd q1) (v2 : Int32) (v3 : Int32) (v4 : Int32) (σ : MM) (r : Int64) (σ' : MM) (hf : f_X6_valueWith q1 v2 v3 v4 σ = some (r, σ')) : Ct shS 56 yX6_valueWith cX6_valueWith 6 (some .long) rm_X6_valueWith G [.ref (gad G 0), .ref (gad G q1), .int v2, .int v3, .int v4] σ (some (.long r)) σ' := by
  obtain ⟨hs_q1_0, hs_q1_1, hs_q1_2, hs_q1_3, hs_q1_4⟩ := sh_isMd h_q1
  obtain ⟨hk_q1_0, hk_q1_1, hk_q1_2, hk_q1_3, hk_q1_4⟩ := lt_isMd h_q1
  refine ct_of (by decide) (Nat.le_of_ble_eq_true rfl) (fun K E hR => ?_)
  have E : OKc 56 cX6_valueWith 6 RX6 G K := E
  show XJ shS 56 6 rm_X6_valueWith G K σ [(0, .ref (gad G 0)), (1, .ref (gad G q1)), (2, .int v2), (3, .int v3), (4, .int v4)] 0 []
  unfold f_X6_valueWith at hf
  refine x_aload_n 0 (pc := 0) (i := 0) E dX6_valueWith_0 rfl rfl ?_
  refine x_getR (pc := 1) (r := 1) (p := 0) E rfl (Nat.le_of_ble_eq_true rfl) rfl inlX6 (by decide) rfl wq_17 dX6_valueWith_1 ?_
  refine x_callVNri (pc := 4) (na := 0) (As := []) E (c_X0_needed G σ) rfl (Nat.le_of_ble_eq_true rfl) rfl wq_93 wq_16 wn_32 wq_91 wq_92 rfl rfl (by decide) ⟨Nat.le_of_ble_eq_true rfl, Nat.le_of_ble_eq_true rfl⟩ rfl rfl (Nat.le_of_ble_eq_true rfl) dX6_valueWith_4 hf (fun r1 hf => ?_)
  refine x_iload_n 2 (pc := 7) (i := 2) E dX6_valueWith_7 rfl rfl ?_
  refine x_iadd (pc := 8) E dX6_valueWith_8 ?_
  refine x_iload_n 3 (pc := 9) (i := 3) E dX6_valueWith_9 rfl rfl ?_
  refine x_iadd (pc := 10) E dX6_valueWith_10 ?_
  refine x_callSri (pc := 11) (na := 1) (As := [.int ((r1 + v2) + v3)]) E (c_X6_setOfFirst G ((r1 + v2) + v3) σ) wq_305 wq_2 wq_607 wq_304 rfl rfl (by decide) ⟨Nat.le_of_ble_eq_true rfl, Nat.le_of_ble_eq_true rfl⟩ rfl rfl (Nat.le_of_ble_eq_true rfl) dX6_valueWith_11 hf (fun r2 hf => ?_)
  refine x_istore (pc := 14) (lv' := [(5, .int r2), (0, .ref (gad G 0)), (1, .ref (gad G q1)), (2, .int v2), (3, .int v3), (4, .int v4)]) E dX6_valueWith_14 (by decide) rfl ?_
  refine x_aload_n 1 (pc := 16) (i := 0) E dX6_valueWith_16 rfl rfl ?_
  refine x_getR (pc := 17) (r := 46) (p := 10) E rfl (Nat.le_of_ble_eq_true rfl) rfl inlX6 (by decide) rfl wq_35 dX6_valueWith_17 ?_
  refine x_aload_n 2 (pc := 20) (i := 1) E dX6_valueWith_20 rfl rfl ?_
  refine x_iload 0 (pc := 21) E dX6_valueWith_21 rfl ?_
  refine x_iload_n 3 (pc := 23) (i := 2) E dX6_valueWith_23 rfl rfl ?_
  refine x_iload_n 4 (pc := 24) (i := 3) E dX6_valueWith_24 rfl rfl ?_
  refine x_iload 5 (pc := 25) E dX6_valueWith_25 rfl ?_
  refine x_callVNwv (pc := 27) (na := 5) (As := [.ref (gad G q1), .int r2, .int v2, .int v3, .int v4]) E (c_X5_lookBack G 46 q1 (Or.inr rfl) h_q1 r2 v2 v3 v4 σ) rfl (Nat.le_of_ble_eq_true rfl) rfl wq_402 wq_33 wn_35 wq_400 wq_401 rfl rfl (by decide) ⟨Nat.le_of_ble_eq_true rfl, Nat.le_of_ble_eq_true rfl⟩ rfl rfl (Nat.le_of_ble_eq_true rfl) dX6_valueWith_27 hf (fun σ4 hf => ?_)
  refine x_aload_n 1 (pc := 30) (i := 0) E dX6_valueWith_30 rfl rfl ?_
  refine x_getR (pc := 31) (r := 46) (p := 10) E rfl (Nat.le_of_ble_eq_true rfl) rfl inlX6 (by decide) rfl wq_35 dX6_valueWith_31 ?_
  refine x_iload 0 (pc := 34) E dX6_valueWith_34 rfl ?_
  refine x_callVNrl (pc := 36) (na := 1) (As := [.int r2]) E (c_X5_valueOf G 46 (Or.inr rfl) r2 σ4) rfl (Nat.le_of_ble_eq_true rfl) rfl wq_440 wq_33 wn_38 wq_438 wq_439 rfl rfl (by decide) ⟨Nat.le_of_ble_eq_true rfl, Nat.le_of_ble_eq_true rfl⟩ rfl rfl (Nat.le_of_ble_eq_true rfl) dX6_valueWith_36 hf (fun r5 hf => ?_)
  obtain ⟨rfl, rfl⟩ := Prod.mk.inj (Option.some.inj hf)
  exact x_lret (pc := 39) E hR dX6_valueWith_39
set_option maxHeartbeats 4000000 in
set_option maxRecDepth 100000 in
theorem c_X6_second (G : Gx) (σ : MM) (r : Int64) (σ' : MM) (hf : f_X6_second σ = some (r, σ')) : Ct shS 56 yX6_second cX6_second 1 (some .long) rm_X6_second G [.ref (gad G 0)] σ (some (.long r)) σ' := by
  refine ct_of (by decide) (Nat.le_of_ble_eq_true rfl) (fun K E hR => ?_)
  have E : OKc 56 cX6_second 1 RX6 G K := E
  show XJ shS 56 1 rm_X6_second G K σ [(0, .ref (gad G 0))] 0 []
  unfold f_X6_second at hf
  refine x_aload_n 0 (pc := 0) (i := 0) E dX6_second_0 rfl rfl ?_
  refine x_getR (pc := 1) (r := 1) (p := 0) E rfl (Nat.le_of_ble_eq_true rfl) rfl inlX6 (by decide) rfl wq_17 dX6_second_1 ?_
  refine x_callVNri (pc := 4) (na := 0) (As := []) E (c_X0_called G σ) rfl (Nat.le_of_ble_eq_true rfl) rfl wq_488 wq_16 wn_40 wq_486 wq_487 rfl rfl (by decide) ⟨Nat.le_of_ble_eq_true rfl, Nat.le_of_ble_eq_true rfl⟩ rfl rfl (Nat.le_of_ble_eq_true rfl) dX6_second_4 hf (fun r1 hf => ?_)
  refine x_if_ne (y := 0) (pc := 7) (tgt := 17) E dX6_second_7 (by decide) hf (fun hf => ?_) (fun hf => ?_)
  · refine x_aload_n 0 (pc := 17) (i := 0) E dX6_second_17 rfl rfl ?_
    refine x_aload_n 0 (pc := 18) (i := 0) E dX6_second_18 rfl rfl ?_
    refine x_getR (pc := 19) (r := 16) (p := 7) E rfl (Nat.le_of_ble_eq_true rfl) rfl inlX6 (by decide) rfl wq_29 dX6_second_19 ?_
    refine x_aload_n 0 (pc := 22) (i := 0) E dX6_second_22 rfl rfl ?_
    refine x_getR (pc := 23) (r := 1) (p := 0) E rfl (Nat.le_of_ble_eq_true rfl) rfl inlX6 (by decide) rfl wq_17 dX6_second_23 ?_
    refine x_iconst (pc := 26) (v := (0 : Int32)) E dX6_second_26 rfl ?_
    refine x_callVNri (pc := 27) (na := 1) (As := [.int (0 : Int32)]) E (c_X0_strikesOf G (0 : Int32) σ) rfl (Nat.le_of_ble_eq_true rfl) rfl wq_508 wq_16 wn_42 wq_506 wq_507 rfl rfl (by decide) ⟨Nat.le_of_ble_eq_true rfl, Nat.le_of_ble_eq_true rfl⟩ rfl rfl (Nat.le_of_ble_eq_true rfl) dX6_second_27 hf (fun r2 hf => ?_)
    refine x_aload_n 0 (pc := 30) (i := 0) E dX6_second_30 rfl rfl ?_
    refine x_getR (pc := 31) (r := 1) (p := 0) E rfl (Nat.le_of_ble_eq_true rfl) rfl inlX6 (by decide) rfl wq_17 dX6_second_31 ?_
    refine x_iconst (pc := 34) (v := (1 : Int32)) E dX6_second_34 rfl ?_
    refine x_callVNri (pc := 35) (na := 1) (As := [.int (1 : Int32)]) E (c_X0_strikesOf G (1 : Int32) σ) rfl (Nat.le_of_ble_eq_true rfl) rfl wq_508 wq_16 wn_42 wq_506 wq_507 rfl rfl (by decide) ⟨Nat.le_of_ble_eq_true rfl, Nat.le_of_ble_eq_true rfl⟩ rfl rfl (Nat.le_of_ble_eq_true rfl) dX6_second_35 hf (fun r3 hf => ?_)
    refine x_iconst (pc := 38) (v := (1 : Int32)) E dX6_second_38 rfl ?_
    refine x_callVwl (pc := 39) (na := 4) (As := [.ref (gad G 16), .int r2, .int r3, .int (1 : Int32)]) E (c_X6_valueWith G 16 (Or.inl rfl) r2 r3 (1 : Int32) σ) rfl (Nat.le_of_ble_eq_true rfl) rfl wq_606 wq_2 wq_603 wq_604 wq_605 rfl rfl (by decide) ⟨Nat.le_of_ble_eq_true rfl, Nat.le_of_ble_eq_true rfl⟩ rfl rfl (Nat.le_of_ble_eq_true rfl) dX6_second_39 hf (fun r4 σ5 hf => ?_)
    refine x_aload_n 0 (pc := 42) (i := 0) E dX6_second_42 rfl rfl ?_
    refine x_callVwl (pc := 43) (na := 0) (As := []) E (c_X6_valueByTurns G σ5) rfl (Nat.le_of_ble_eq_true rfl) rfl wq_497 wq_2 wq_494 wq_495 wq_496 rfl rfl (by decide) ⟨Nat.le_of_ble_eq_true rfl, Nat.le_of_ble_eq_true rfl⟩ rfl rfl (Nat.le_of_ble_eq_true rfl) dX6_second_43 hf (fun r6 σ7 hf => ?_)
    refine x_lsub (pc := 46) E dX6_second_46 ?_
    obtain ⟨rfl, rfl⟩ := Prod.mk.inj (Option.some.inj hf)
    exact x_lret (pc := 47) E hR dX6_second_47
  · refine x_aload_n 0 (pc := 10) (i := 0) E dX6_second_10 rfl rfl ?_
    refine x_bipush (pc := 11) (v := (-3 : Int32)) E dX6_second_11 rfl ?_
    refine x_callVwl (pc := 13) (na := 1) (As := [.int (-3 : Int32)]) E (c_X6_refuseLong G (-3 : Int32) σ) rfl (Nat.le_of_ble_eq_true rfl) rfl wq_316 wq_2 wq_313 wq_314 wq_315 rfl rfl (by decide) ⟨Nat.le_of_ble_eq_true rfl, Nat.le_of_ble_eq_true rfl⟩ rfl rfl (Nat.le_of_ble_eq_true rfl) dX6_second_13 hf (fun r8 σ9 hf => ?_)
    obtain ⟨rfl, rfl⟩ := Prod.mk.inj (Option.some.inj hf)
    exact x_lret (pc := 16) E hR dX6_second_16
