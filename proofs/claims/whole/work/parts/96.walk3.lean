abbrev rm_X12_balance : Room := { frames := 7, cells := 0, slots := 0, locals := 165 }
set_option maxRecDepth 100000 in
set_option maxHeartbeats 4000000 in
theorem L_X12_balance_33_ok {p : Program} {l : Launch} {e : Env} {s : State} {m : MethodId} {args : Array Value} {below : List Frame} {meth : Method} {c : Code} {D : va_G} {A : Nat → Prop} {ρ : z_A} {kd : z_K} {q : z_Q} {μ : z_M} {K : Int32 → z_M → Prop} {v1 : Int32} {v2 : Int32} {v3 : Int32} (G : z_G p c cX12_balance s m args RX12 4 D) (hr : meth.sig.returnType = (Option.some Jvm.ClassFile.FieldType.int)) (hlk : meth.locks = false) (hI : z_I kd q) (f_l0 : kd 0 = some (.inl 12)) (h : L_X12_balance_33 K v1 v2 v3 μ) : z_X p l e rm_X12_balance s m args below meth c 4 D A (MQ below (z_Qn D A ρ kd (z_Ki q K)) args s 0 0 A) 0 0 ρ kd q μ 33 [(0, .ref (0)), (1, .int (v1)), (2, .int (v2)), (3, .int (v3))] [] := by
    unfold L_X12_balance_33 at h
    refine zx_iload_n (pc := 33) G 3 rfl rfl (z_dec T_X12_balance_ok 18 (33, .iload_n 3, 1) rfl) ?_
    refine zx_iconst (pc := 34) (v := -1) G (z_dec T_X12_balance_ok 19 (34, .iconst (-1), 1) rfl) rfl ?_
    refine zx_icmp_ne (pc := 35) (tgt := 47) G rfl (z_dec T_X12_balance_ok 20 (35, .if_icmp .ne 12, 3) rfl) (fun hc => ?_) (fun hc => ?_)
    · replace h := z_neg hc h
      refine zx_aload_n (pc := 47) G (some (0)) 0 rfl rfl (z_dec T_X12_balance_ok 26 (47, .aload_n 0, 1) rfl) ?_
      refine zx_iload_n (pc := 48) G 2 rfl rfl (z_dec T_X12_balance_ok 27 (48, .iload_n 2, 1) rfl) ?_
      refine zx_iload_n (pc := 49) G 3 rfl rfl (z_dec T_X12_balance_ok 28 (49, .iload_n 3, 1) rfl) ?_
      refine zx_callV_zN (pc := 50) (rm := rm_X12_runs) G cw_RX12_183 ⟨Nat.le_of_ble_eq_true rfl, Nat.le_of_ble_eq_true rfl⟩ rfl rfl ⟨Nat.zero_le _, Nat.zero_le _⟩ f_l0 rfl (fun sz => (met_X12_runs l D ρ kd q μ sz v2 v3 _ hI f_l0 h)) rfl rfl (Nat.le_of_ble_eq_true rfl) (z_dec T_X12_balance_ok 29 (50, .invokevirtual 183, 3) rfl) (fun r2 μ1 hzr2 hn => ?_)
      clear h
      have h := hn
      clear hn
      refine zx_if_eq (pc := 53) (tgt := 66) G rfl (z_dec T_X12_balance_ok 30 (53, .ifCond .eq 13, 3) rfl) (fun hc => ?_) (fun hc => ?_)
      · replace h := z_pos hc h
        refine zx_aload_n (pc := 66) G (some (0)) 0 rfl rfl (z_dec T_X12_balance_ok 37 (66, .aload_n 0, 1) rfl) ?_
        refine zx_iload_n (pc := 67) G 1 rfl rfl (z_dec T_X12_balance_ok 38 (67, .iload_n 1, 1) rfl) ?_
        refine zx_iload_n (pc := 68) G 2 rfl rfl (z_dec T_X12_balance_ok 39 (68, .iload_n 2, 1) rfl) ?_
        refine zx_callV_iN (pc := 69) (rm := rm_X12_stakesOf) G cw_RX12_226 ⟨Nat.le_of_ble_eq_true rfl, Nat.le_of_ble_eq_true rfl⟩ rfl rfl ⟨Nat.zero_le _, Nat.zero_le _⟩ f_l0 rfl (fun sz => (met_X12_stakesOf l D ρ kd q μ1 sz v1 v2 _ hI f_l0 h)) rfl rfl (Nat.le_of_ble_eq_true rfl) (z_dec T_X12_balance_ok 40 (69, .invokevirtual 226, 3) rfl) (fun r4 μ3 hn => ?_)
        clear h
        have h := hn
        clear hn
        exact zx_iret (pc := 72) G hr hlk (Nat.le_refl _) (Nat.le_refl _) (z_dec T_X12_balance_ok 41 (72, .ireturn, 1) rfl) ⟨rfl, _, rfl, h⟩
      · replace h := z_neg hc h
        refine zx_aload_n (pc := 56) G (some (0)) 0 rfl rfl (z_dec T_X12_balance_ok 31 (56, .aload_n 0, 1) rfl) ?_
        refine zx_iload_n (pc := 57) G 1 rfl rfl (z_dec T_X12_balance_ok 32 (57, .iload_n 1, 1) rfl) ?_
        refine zx_iload_n (pc := 58) G 2 rfl rfl (z_dec T_X12_balance_ok 33 (58, .iload_n 2, 1) rfl) ?_
        refine zx_iload_n (pc := 59) G 3 rfl rfl (z_dec T_X12_balance_ok 34 (59, .iload_n 3, 1) rfl) ?_
        refine zx_callV_iN (pc := 60) (rm := rm_X12_balanceAt) G cw_RX12_233 ⟨Nat.le_of_ble_eq_true rfl, Nat.le_of_ble_eq_true rfl⟩ rfl rfl ⟨Nat.zero_le _, Nat.zero_le _⟩ f_l0 rfl (fun sz => (met_X12_balanceAt l D ρ kd q μ1 sz v1 v2 v3 _ hI f_l0 h)) rfl rfl (Nat.le_of_ble_eq_true rfl) (z_dec T_X12_balance_ok 35 (60, .invokevirtual 233, 3) rfl) (fun r6 μ5 hn => ?_)
        clear h
        have h := hn
        clear hn
        refine zx_goto (pc := 63) (tgt := 72) G rfl (z_dec T_X12_balance_ok 36 (63, .goto 9, 3) rfl) ?_
        exact zx_iret (pc := 72) G hr hlk (Nat.le_refl _) (Nat.le_refl _) (z_dec T_X12_balance_ok 41 (72, .ireturn, 1) rfl) ⟨rfl, _, rfl, h⟩
    · replace h := z_pos hc h
      refine zx_aload_n (pc := 38) G (some (0)) 0 rfl rfl (z_dec T_X12_balance_ok 21 (38, .aload_n 0, 1) rfl) ?_
      refine zx_iload_n (pc := 39) G 1 rfl rfl (z_dec T_X12_balance_ok 22 (39, .iload_n 1, 1) rfl) ?_
      refine zx_iload_n (pc := 40) G 2 rfl rfl (z_dec T_X12_balance_ok 23 (40, .iload_n 2, 1) rfl) ?_
      refine zx_callV_iN (pc := 41) (rm := rm_X12_worstOf) G cw_RX12_237 ⟨Nat.le_of_ble_eq_true rfl, Nat.le_of_ble_eq_true rfl⟩ rfl rfl ⟨Nat.zero_le _, Nat.zero_le _⟩ f_l0 rfl (fun sz => (met_X12_worstOf l D ρ kd q μ sz v1 v2 _ hI f_l0 h)) rfl rfl (Nat.le_of_ble_eq_true rfl) (z_dec T_X12_balance_ok 24 (41, .invokevirtual 237, 3) rfl) (fun r8 μ7 hn => ?_)
      clear h
      have h := hn
      clear hn
      refine zx_goto (pc := 44) (tgt := 72) G rfl (z_dec T_X12_balance_ok 25 (44, .goto 28, 3) rfl) ?_
      exact zx_iret (pc := 72) G hr hlk (Nat.le_refl _) (Nat.le_refl _) (z_dec T_X12_balance_ok 41 (72, .ireturn, 1) rfl) ⟨rfl, _, rfl, h⟩
set_option maxRecDepth 100000 in
set_option maxHeartbeats 4000000 in
theorem met_X12_balance (l : Launch) (D : va_G) (ρ : z_A) (kd : z_K) (q : z_Q) (μ : z_M) (sz : Nat) (a1 : Int32) (a2 : Int32) (a3 : Int32) (K : Int32 → z_M → Prop) (hI : z_I kd q) (h_o : kd 0 = some (.inl 12)) (h : C_X12_balance a1 a2 a3 μ K) : Met l yX12_balance (z_ws yX12_balance cX12_balance 4 (Option.some Jvm.ClassFile.FieldType.int)) rm_X12_balance (z_Pc D ρ kd q μ sz [.ref (0), .int (a1), .int (a2), .int (a3)]) (z_Qn D (z_Rg ρ sz) ρ kd (z_Ki q K)) 0 0 (z_Rg ρ sz) := by
  refine z_met (rm := rm_X12_balance) (by decide) (Nat.le_of_ble_eq_true rfl) (fun p e s m args below meth c G hr hlk => ?_)
  unfold C_X12_balance at h
  show z_X _ _ _ _ _ _ _ _ _ _ _ _ _ _ _ _ _ _ _ _ _ [(0, .ref (0)), (1, .int (a1)), (2, .int (a2)), (3, .int (a3))] _
  refine zx_aload_n (pc := 0) G (some (0)) 0 rfl rfl (z_dec T_X12_balance_ok 0 (0, .aload_n 0, 1) rfl) ?_
  refine zx_iload_n (pc := 1) G 1 rfl rfl (z_dec T_X12_balance_ok 1 (1, .iload_n 1, 1) rfl) ?_
  refine zx_callV_zN (pc := 2) (rm := rm_X12_isBook) G cw_RX12_180 ⟨Nat.le_of_ble_eq_true rfl, Nat.le_of_ble_eq_true rfl⟩ rfl rfl ⟨Nat.zero_le _, Nat.zero_le _⟩ h_o rfl (fun sz => (met_X12_isBook l D ρ kd q μ sz a1 _ hI h_o h)) rfl rfl (Nat.le_of_ble_eq_true rfl) (z_dec T_X12_balance_ok 2 (2, .invokevirtual 180, 3) rfl) (fun r2 μ1 hzr2 hn => ?_)
  clear h
  have h := hn
  clear hn
  refine zx_if_eq (pc := 5) (tgt := 30) G rfl (z_dec T_X12_balance_ok 3 (5, .ifCond .eq 25, 3) rfl) (fun hc => ?_) (fun hc => ?_)
  · replace h := z_pos hc h
    refine zx_ldc (pc := 30) G wk_RX12_236 (z_dec T_X12_balance_ok 16 (30, .ldc 236, 2) rfl) ?_
    exact zx_iret (pc := 32) G hr hlk (Nat.le_refl _) (Nat.le_refl _) (z_dec T_X12_balance_ok 17 (32, .ireturn, 1) rfl) ⟨rfl, _, rfl, h⟩
  · replace h := z_neg hc h
    refine zx_aload_n (pc := 8) G (some (0)) 0 rfl rfl (z_dec T_X12_balance_ok 4 (8, .aload_n 0, 1) rfl) ?_
    refine zx_iload_n (pc := 9) G 2 rfl rfl (z_dec T_X12_balance_ok 5 (9, .iload_n 2, 1) rfl) ?_
    refine zx_callV_zN (pc := 10) (rm := rm_X12_isRace) G cw_RX12_147 ⟨Nat.le_of_ble_eq_true rfl, Nat.le_of_ble_eq_true rfl⟩ rfl rfl ⟨Nat.zero_le _, Nat.zero_le _⟩ h_o rfl (fun sz => (met_X12_isRace l D ρ kd q μ1 sz a2 _ hI h_o h)) rfl rfl (Nat.le_of_ble_eq_true rfl) (z_dec T_X12_balance_ok 6 (10, .invokevirtual 147, 3) rfl) (fun r4 μ3 hzr4 hn => ?_)
    clear h
    have h := hn
    clear hn
    refine zx_if_eq (pc := 13) (tgt := 30) G rfl (z_dec T_X12_balance_ok 7 (13, .ifCond .eq 17, 3) rfl) (fun hc => ?_) (fun hc => ?_)
    · replace h := z_pos hc h
      refine zx_ldc (pc := 30) G wk_RX12_236 (z_dec T_X12_balance_ok 16 (30, .ldc 236, 2) rfl) ?_
      exact zx_iret (pc := 32) G hr hlk (Nat.le_refl _) (Nat.le_refl _) (z_dec T_X12_balance_ok 17 (32, .ireturn, 1) rfl) ⟨rfl, _, rfl, h⟩
    · replace h := z_neg hc h
      refine zx_iload_n (pc := 16) G 3 rfl rfl (z_dec T_X12_balance_ok 8 (16, .iload_n 3, 1) rfl) ?_
      refine zx_iconst (pc := 17) (v := -1) G (z_dec T_X12_balance_ok 9 (17, .iconst (-1), 1) rfl) rfl ?_
      refine zx_icmp_eq (pc := 18) (tgt := 33) G rfl (z_dec T_X12_balance_ok 10 (18, .if_icmp .eq 15, 3) rfl) (fun hc => ?_) (fun hc => ?_)
      · replace h := z_pos hc h
        exact L_X12_balance_33_ok G hr hlk hI h_o h
      · replace h := z_neg hc h
        refine zx_aload_n (pc := 21) G (some (0)) 0 rfl rfl (z_dec T_X12_balance_ok 11 (21, .aload_n 0, 1) rfl) ?_
        refine zx_iload_n (pc := 22) G 2 rfl rfl (z_dec T_X12_balance_ok 12 (22, .iload_n 2, 1) rfl) ?_
        refine zx_iload_n (pc := 23) G 3 rfl rfl (z_dec T_X12_balance_ok 13 (23, .iload_n 3, 1) rfl) ?_
        refine zx_callV_zN (pc := 24) (rm := rm_X12_isHorse) G cw_RX12_151 ⟨Nat.le_of_ble_eq_true rfl, Nat.le_of_ble_eq_true rfl⟩ rfl rfl ⟨Nat.zero_le _, Nat.zero_le _⟩ h_o rfl (fun sz => (met_X12_isHorse l D ρ kd q μ3 sz a2 a3 _ hI h_o h)) rfl rfl (Nat.le_of_ble_eq_true rfl) (z_dec T_X12_balance_ok 14 (24, .invokevirtual 151, 3) rfl) (fun r6 μ5 hzr6 hn => ?_)
        clear h
        have h := hn
        clear hn
        refine zx_if_ne (pc := 27) (tgt := 33) G rfl (z_dec T_X12_balance_ok 15 (27, .ifCond .ne 6, 3) rfl) (fun hc => ?_) (fun hc => ?_)
        · replace h := z_neg hc h
          exact L_X12_balance_33_ok G hr hlk hI h_o h
        · replace h := z_pos hc h
          refine zx_ldc (pc := 30) G wk_RX12_236 (z_dec T_X12_balance_ok 16 (30, .ldc 236, 2) rfl) ?_
          exact zx_iret (pc := 32) G hr hlk (Nat.le_refl _) (Nat.le_refl _) (z_dec T_X12_balance_ok 17 (32, .ireturn, 1) rfl) ⟨rfl, _, rfl, h⟩
abbrev rm_X12_round : Room := { frames := 3, cells := 0, slots := 0, locals := 81 }
set_option maxRecDepth 100000 in
set_option maxHeartbeats 4000000 in
theorem met_X12_round (l : Launch) (D : va_G) (ρ : z_A) (kd : z_K) (q : z_Q) (μ : z_M) (sz : Nat) (a1 : Int32) (a2 : Int32) (a3 : Int32) (K : Int64 → z_M → Prop) (hI : z_I kd q) (h_o : kd 0 = some (.inl 12)) (h : C_X12_round a1 a2 a3 μ K) : Met l yX12_round (z_ws yX12_round cX12_round 4 (Option.some Jvm.ClassFile.FieldType.long)) rm_X12_round (z_Pc D ρ kd q μ sz [.ref (0), .int (a1), .int (a2), .int (a3)]) (z_Qn D (z_Rg ρ sz) ρ kd (z_Kl q K)) 0 0 (z_Rg ρ sz) := by
  refine z_met (rm := rm_X12_round) (by decide) (Nat.le_of_ble_eq_true rfl) (fun p e s m args below meth c G hr hlk => ?_)
  unfold C_X12_round at h
  show z_X _ _ _ _ _ _ _ _ _ _ _ _ _ _ _ _ _ _ _ _ _ [(0, .ref (0)), (1, .int (a1)), (2, .int (a2)), (3, .int (a3))] _
  refine zx_aload_n (pc := 0) G (some (0)) 0 rfl rfl (z_dec T_X12_round_ok 0 (0, .aload_n 0, 1) rfl) ?_
  refine zx_iload_n (pc := 1) G 1 rfl rfl (z_dec T_X12_round_ok 1 (1, .iload_n 1, 1) rfl) ?_
  refine zx_callV_zN (pc := 2) (rm := rm_X12_isBook) G cw_RX12_180 ⟨Nat.le_of_ble_eq_true rfl, Nat.le_of_ble_eq_true rfl⟩ rfl rfl ⟨Nat.zero_le _, Nat.zero_le _⟩ h_o rfl (fun sz => (met_X12_isBook l D ρ kd q μ sz a1 _ hI h_o h)) rfl rfl (Nat.le_of_ble_eq_true rfl) (z_dec T_X12_round_ok 2 (2, .invokevirtual 180, 3) rfl) (fun r2 μ1 hzr2 hn => ?_)
  clear h
  have h := hn
  clear hn
  refine zx_if_eq (pc := 5) (tgt := 26) G rfl (z_dec T_X12_round_ok 3 (5, .ifCond .eq 21, 3) rfl) (fun hc => ?_) (fun hc => ?_)
  · replace h := z_pos hc h
    refine zx_ldc2 (pc := 26) G wk_RX12_186 (z_dec T_X12_round_ok 14 (26, .ldc2_w 186, 3) rfl) ?_
    exact zx_lret (pc := 29) G hr hlk (Nat.le_refl _) (Nat.le_refl _) (z_dec T_X12_round_ok 15 (29, .lreturn, 1) rfl) ⟨rfl, _, rfl, h⟩
  · replace h := z_neg hc h
    refine zx_aload_n (pc := 8) G (some (0)) 0 rfl rfl (z_dec T_X12_round_ok 4 (8, .aload_n 0, 1) rfl) ?_
    refine zx_iload_n (pc := 9) G 2 rfl rfl (z_dec T_X12_round_ok 5 (9, .iload_n 2, 1) rfl) ?_
    refine zx_callV_zN (pc := 10) (rm := rm_X12_isRace) G cw_RX12_147 ⟨Nat.le_of_ble_eq_true rfl, Nat.le_of_ble_eq_true rfl⟩ rfl rfl ⟨Nat.zero_le _, Nat.zero_le _⟩ h_o rfl (fun sz => (met_X12_isRace l D ρ kd q μ1 sz a2 _ hI h_o h)) rfl rfl (Nat.le_of_ble_eq_true rfl) (z_dec T_X12_round_ok 6 (10, .invokevirtual 147, 3) rfl) (fun r4 μ3 hzr4 hn => ?_)
    clear h
    have h := hn
    clear hn
    refine zx_if_eq (pc := 13) (tgt := 26) G rfl (z_dec T_X12_round_ok 7 (13, .ifCond .eq 13, 3) rfl) (fun hc => ?_) (fun hc => ?_)
    · replace h := z_pos hc h
      refine zx_ldc2 (pc := 26) G wk_RX12_186 (z_dec T_X12_round_ok 14 (26, .ldc2_w 186, 3) rfl) ?_
      exact zx_lret (pc := 29) G hr hlk (Nat.le_refl _) (Nat.le_refl _) (z_dec T_X12_round_ok 15 (29, .lreturn, 1) rfl) ⟨rfl, _, rfl, h⟩
    · replace h := z_neg hc h
      refine zx_iload_n (pc := 16) G 3 rfl rfl (z_dec T_X12_round_ok 8 (16, .iload_n 3, 1) rfl) ?_
      refine zx_i2l (pc := 17) G  (z_dec T_X12_round_ok 9 (17, .i2l, 1) rfl) ?_
      refine zx_lconst (pc := 18) (v := 0) G (z_dec T_X12_round_ok 10 (18, .lconst 0, 1) rfl) rfl ?_
      refine zx_lconst (pc := 19) (v := 1) G (z_dec T_X12_round_ok 11 (19, .lconst 1, 1) rfl) rfl ?_
      refine zx_callS_zN (pc := 20) (rm := rm_X12_lies) G cw_RX12_140 ⟨Nat.le_of_ble_eq_true rfl, Nat.le_of_ble_eq_true rfl⟩ rfl rfl ⟨Nat.zero_le _, Nat.zero_le _⟩ (fun sz => (met_X12_lies l D ρ kd q μ3 sz a3.toInt64 ((0 : Int64)) ((1 : Int64)) _ hI h)) rfl rfl (Nat.le_of_ble_eq_true rfl) (z_dec T_X12_round_ok 12 (20, .invokestatic 140, 3) rfl) (fun r6 μ5 hzr6 hn => ?_)
      clear h
      have h := hn
      clear hn
      refine zx_if_ne (pc := 23) (tgt := 30) G rfl (z_dec T_X12_round_ok 13 (23, .ifCond .ne 7, 3) rfl) (fun hc => ?_) (fun hc => ?_)
      · replace h := z_neg hc h
        refine zx_aload_n (pc := 30) G (some (0)) 0 rfl rfl (z_dec T_X12_round_ok 16 (30, .aload_n 0, 1) rfl) ?_
        refine zx_iload_n (pc := 31) G 1 rfl rfl (z_dec T_X12_round_ok 17 (31, .iload_n 1, 1) rfl) ?_
        refine zx_iload_n (pc := 32) G 2 rfl rfl (z_dec T_X12_round_ok 18 (32, .iload_n 2, 1) rfl) ?_
        refine zx_callV_vN (pc := 33) (rm := rm_X12_rounds) G cw_RX12_257 ⟨Nat.le_of_ble_eq_true rfl, Nat.le_of_ble_eq_true rfl⟩ rfl rfl ⟨Nat.zero_le _, Nat.zero_le _⟩ h_o rfl (fun sz => (met_X12_rounds l D ρ kd q μ5 sz a1 a2 _ hI h_o h)) rfl rfl (Nat.le_of_ble_eq_true rfl) (z_dec T_X12_round_ok 19 (33, .invokevirtual 257, 3) rfl) (fun μ7 hn => ?_)
        clear h
        have h := hn
        clear hn
        refine zx_iload_n (pc := 36) G 3 rfl rfl (z_dec T_X12_round_ok 20 (36, .iload_n 3, 1) rfl) ?_
        refine zx_if_ne (pc := 37) (tgt := 47) G rfl (z_dec T_X12_round_ok 21 (37, .ifCond .ne 10, 3) rfl) (fun hc => ?_) (fun hc => ?_)
        · replace h := z_neg hc h
          refine zx_aload_n (pc := 47) G (some (0)) 0 rfl rfl (z_dec T_X12_round_ok 25 (47, .aload_n 0, 1) rfl) ?_
          refine zx_getL (pc := 48) G gf_RX12_244 rfl h_o (z_dec T_X12_round_ok 26 (48, .getfield 244, 3) rfl) ?_
          exact zx_lret (pc := 51) G hr hlk (Nat.le_refl _) (Nat.le_refl _) (z_dec T_X12_round_ok 27 (51, .lreturn, 1) rfl) ⟨rfl, _, rfl, h⟩
        · replace h := z_pos hc h
          refine zx_aload_n (pc := 40) G (some (0)) 0 rfl rfl (z_dec T_X12_round_ok 22 (40, .aload_n 0, 1) rfl) ?_
          refine zx_getL (pc := 41) G gf_RX12_240 rfl h_o (z_dec T_X12_round_ok 23 (41, .getfield 240, 3) rfl) ?_
          refine zx_goto (pc := 44) (tgt := 51) G rfl (z_dec T_X12_round_ok 24 (44, .goto 7, 3) rfl) ?_
          exact zx_lret (pc := 51) G hr hlk (Nat.le_refl _) (Nat.le_refl _) (z_dec T_X12_round_ok 27 (51, .lreturn, 1) rfl) ⟨rfl, _, rfl, h⟩
      · replace h := z_pos hc h
        refine zx_ldc2 (pc := 26) G wk_RX12_186 (z_dec T_X12_round_ok 14 (26, .ldc2_w 186, 3) rfl) ?_
        exact zx_lret (pc := 29) G hr hlk (Nat.le_refl _) (Nat.le_refl _) (z_dec T_X12_round_ok 15 (29, .lreturn, 1) rfl) ⟨rfl, _, rfl, h⟩
abbrev rm_X12_here : Room := { frames := 0, cells := 0, slots := 0, locals := 0 }
set_option maxRecDepth 100000 in
set_option maxHeartbeats 4000000 in
theorem met_X12_here (l : Launch) (D : va_G) (ρ : z_A) (kd : z_K) (q : z_Q) (μ : z_M) (sz : Nat) (K : Int32 → z_M → Prop) (hI : z_I kd q) (h_o : kd 0 = some (.inl 12)) (h : C_X12_here μ K) : Met l yX12_here (z_ws yX12_here cX12_here 1 (Option.some Jvm.ClassFile.FieldType.int)) rm_X12_here (z_Pc D ρ kd q μ sz [.ref (0)]) (z_Qn D (z_Rg ρ sz) ρ kd (z_Ki q K)) 0 0 (z_Rg ρ sz) := by
  refine z_met (rm := rm_X12_here) (by decide) (Nat.le_of_ble_eq_true rfl) (fun p e s m args below meth c G hr hlk => ?_)
  unfold C_X12_here at h
  show z_X _ _ _ _ _ _ _ _ _ _ _ _ _ _ _ _ _ _ _ _ _ [(0, .ref (0))] _
  refine zx_aload_n (pc := 0) G (some (0)) 0 rfl rfl (z_dec T_X12_here_ok 0 (0, .aload_n 0, 1) rfl) ?_
  refine zx_getI (pc := 1) G gf_RX12_261 rfl h_o (z_dec T_X12_here_ok 1 (1, .getfield 261, 3) rfl) ?_
  refine zx_aload_n (pc := 4) G (some (0)) 0 rfl rfl (z_dec T_X12_here_ok 2 (4, .aload_n 0, 1) rfl) ?_
  refine zx_getI (pc := 5) G gf_RX12_264 rfl h_o (z_dec T_X12_here_ok 3 (5, .getfield 264, 3) rfl) ?_
  refine zx_icmp_ge (pc := 8) (tgt := 27) G rfl (z_dec T_X12_here_ok 4 (8, .if_icmp .ge 19, 3) rfl) (fun hc => ?_) (fun hc => ?_)
  · replace h := z_pos hc h
    refine zx_iconst (pc := 27) (v := 0) G (z_dec T_X12_here_ok 13 (27, .iconst 0, 1) rfl) rfl ?_
    exact zx_iret (pc := 28) G hr hlk (Nat.le_refl _) (Nat.le_refl _) (z_dec T_X12_here_ok 14 (28, .ireturn, 1) rfl) ⟨rfl, _, rfl, h⟩
  · replace h := z_neg hc h
    refine zx_aload_n (pc := 11) G (some (0)) 0 rfl rfl (z_dec T_X12_here_ok 5 (11, .aload_n 0, 1) rfl) ?_
    refine zx_getF (pc := 12) (b := 1) G gf_RX12_7 rfl h_o (zq_12_0 hI h_o) (z_dec T_X12_here_ok 6 (12, .getfield 7, 3) rfl) ?_
    refine zx_aload_n (pc := 15) G (some (0)) 0 rfl rfl (z_dec T_X12_here_ok 7 (15, .aload_n 0, 1) rfl) ?_
    refine zx_getI (pc := 16) G gf_RX12_261 rfl h_o (z_dec T_X12_here_ok 8 (16, .getfield 261, 3) rfl) ?_
    obtain ⟨c1, h⟩ := h
    refine zx_bald (pc := 19) G (zk_12_0 hI h_o) c1 (z_dec T_X12_here_ok 9 (19, .baload, 1) rfl) ?_
    refine zx_sipush (pc := 20) (v := 255) G (z_dec T_X12_here_ok 10 (20, .sipush 255, 3) rfl) rfl ?_
    refine zx_iand (pc := 23) G  (z_dec T_X12_here_ok 11 (23, .iand, 1) rfl) ?_
    refine zx_goto (pc := 24) (tgt := 28) G rfl (z_dec T_X12_here_ok 12 (24, .goto 4, 3) rfl) ?_
    exact zx_iret (pc := 28) G hr hlk (Nat.le_refl _) (Nat.le_refl _) (z_dec T_X12_here_ok 14 (28, .ireturn, 1) rfl) ⟨rfl, _, rfl, h⟩
abbrev rm_X12_wrongs : Room := { frames := 0, cells := 0, slots := 0, locals := 0 }
set_option maxRecDepth 100000 in
set_option maxHeartbeats 4000000 in
theorem met_X12_wrongs (l : Launch) (D : va_G) (ρ : z_A) (kd : z_K) (q : z_Q) (μ : z_M) (sz : Nat) (a1 : Int32) (a2 : Int32) (K : z_M → Prop) (hI : z_I kd q) (h_o : kd 0 = some (.inl 12)) (h : C_X12_wrongs a1 a2 μ K) : Met l yX12_wrongs (z_ws yX12_wrongs cX12_wrongs 3 (Option.none : Option Jvm.ClassFile.FieldType)) rm_X12_wrongs (z_Pc D ρ kd q μ sz [.ref (0), .int (a1), .int (a2)]) (z_Qn D (z_Rg ρ sz) ρ kd (z_Kv q K)) 0 0 (z_Rg ρ sz) := by
  refine z_met (rm := rm_X12_wrongs) (by decide) (Nat.le_of_ble_eq_true rfl) (fun p e s m args below meth c G hr hlk => ?_)
  unfold C_X12_wrongs at h
  show z_X _ _ _ _ _ _ _ _ _ _ _ _ _ _ _ _ _ _ _ _ _ [(0, .ref (0)), (1, .int (a1)), (2, .int (a2))] _
  refine zx_aload_n (pc := 0) G (some (0)) 0 rfl rfl (z_dec T_X12_wrongs_ok 0 (0, .aload_n 0, 1) rfl) ?_
  refine zx_aload_n (pc := 1) G (some (0)) 0 rfl rfl (z_dec T_X12_wrongs_ok 1 (1, .aload_n 0, 1) rfl) ?_
  refine zx_getI (pc := 2) G gf_RX12_267 rfl h_o (z_dec T_X12_wrongs_ok 2 (2, .getfield 267, 3) rfl) ?_
  refine zx_if_ge (pc := 5) (tgt := 15) G rfl (z_dec T_X12_wrongs_ok 3 (5, .ifCond .ge 10, 3) rfl) (fun hc => ?_) (fun hc => ?_)
  · replace h := z_pos hc h
    refine zx_sipush (pc := 15) (v := -1000) G (z_dec T_X12_wrongs_ok 7 (15, .sipush (-1000), 3) rfl) rfl ?_
    refine zx_iload_n (pc := 18) G 1 rfl rfl (z_dec T_X12_wrongs_ok 8 (18, .iload_n 1, 1) rfl) ?_
    refine zx_imul (pc := 19) G  (z_dec T_X12_wrongs_ok 9 (19, .imul, 1) rfl) ?_
    refine zx_iload_n (pc := 20) G 2 rfl rfl (z_dec T_X12_wrongs_ok 10 (20, .iload_n 2, 1) rfl) ?_
    refine zx_isub (pc := 21) G  (z_dec T_X12_wrongs_ok 11 (21, .isub, 1) rfl) ?_
    refine zx_putI (pc := 22) G gf_RX12_267 cf_12 rfl rfl h_o (z_dec T_X12_wrongs_ok 12 (22, .putfield 267, 3) rfl) ?_
    exact zx_vret (pc := 25) G hr hlk (Nat.le_refl _) (Nat.le_refl _) (z_dec T_X12_wrongs_ok 13 (25, .return_, 1) rfl) ⟨rfl, rfl, h⟩
  · replace h := z_neg hc h
    refine zx_aload_n (pc := 8) G (some (0)) 0 rfl rfl (z_dec T_X12_wrongs_ok 4 (8, .aload_n 0, 1) rfl) ?_
    refine zx_getI (pc := 9) G gf_RX12_267 rfl h_o (z_dec T_X12_wrongs_ok 5 (9, .getfield 267, 3) rfl) ?_
    refine zx_goto (pc := 12) (tgt := 22) G rfl (z_dec T_X12_wrongs_ok 6 (12, .goto 10, 3) rfl) ?_
    refine zx_putI (pc := 22) G gf_RX12_267 cf_12 rfl rfl h_o (z_dec T_X12_wrongs_ok 12 (22, .putfield 267, 3) rfl) ?_
    exact zx_vret (pc := 25) G hr hlk (Nat.le_refl _) (Nat.le_refl _) (z_dec T_X12_wrongs_ok 13 (25, .return_, 1) rfl) ⟨rfl, rfl, h⟩
abbrev rm_X12_isGood : Room := { frames := 0, cells := 0, slots := 0, locals := 0 }
set_option maxRecDepth 100000 in
set_option maxHeartbeats 4000000 in
theorem met_X12_isGood (l : Launch) (D : va_G) (ρ : z_A) (kd : z_K) (q : z_Q) (μ : z_M) (sz : Nat) (K : Int32 → z_M → Prop) (hI : z_I kd q) (h_o : kd 0 = some (.inl 12)) (h : C_X12_isGood μ K) : Met l yX12_isGood (z_ws yX12_isGood cX12_isGood 1 (Option.some Jvm.ClassFile.FieldType.boolean)) rm_X12_isGood (z_Pc D ρ kd q μ sz [.ref (0)]) (z_Qn D (z_Rg ρ sz) ρ kd (z_Kz q K)) 0 0 (z_Rg ρ sz) := by
  refine z_met (rm := rm_X12_isGood) (by decide) (Nat.le_of_ble_eq_true rfl) (fun p e s m args below meth c G hr hlk => ?_)
  unfold C_X12_isGood at h
  show z_X _ _ _ _ _ _ _ _ _ _ _ _ _ _ _ _ _ _ _ _ _ [(0, .ref (0))] _
  refine zx_aload_n (pc := 0) G (some (0)) 0 rfl rfl (z_dec T_X12_isGood_ok 0 (0, .aload_n 0, 1) rfl) ?_
  refine zx_getI (pc := 1) G gf_RX12_267 rfl h_o (z_dec T_X12_isGood_ok 1 (1, .getfield 267, 3) rfl) ?_
  refine zx_if_ne (pc := 4) (tgt := 11) G rfl (z_dec T_X12_isGood_ok 2 (4, .ifCond .ne 7, 3) rfl) (fun hc => ?_) (fun hc => ?_)
  · replace h := z_neg hc h
    refine zx_iconst (pc := 11) (v := 0) G (z_dec T_X12_isGood_ok 5 (11, .iconst 0, 1) rfl) rfl ?_
    exact zx_zret (pc := 12) G hr hlk (Nat.le_refl _) (Nat.le_refl _) (Or.inl rfl) (z_dec T_X12_isGood_ok 6 (12, .ireturn, 1) rfl) ⟨rfl, _, rfl, (Or.inl rfl), h⟩
  · replace h := z_pos hc h
    refine zx_iconst (pc := 7) (v := 1) G (z_dec T_X12_isGood_ok 3 (7, .iconst 1, 1) rfl) rfl ?_
    refine zx_goto (pc := 8) (tgt := 12) G rfl (z_dec T_X12_isGood_ok 4 (8, .goto 4, 3) rfl) ?_
    exact zx_zret (pc := 12) G hr hlk (Nat.le_refl _) (Nat.le_refl _) (Or.inr rfl) (z_dec T_X12_isGood_ok 6 (12, .ireturn, 1) rfl) ⟨rfl, _, rfl, (Or.inr rfl), h⟩
abbrev rm_X12_emit : Room := { frames := 1, cells := 0, slots := 0, locals := 20 }
set_option maxRecDepth 100000 in
set_option maxHeartbeats 4000000 in
theorem met_X12_emit (l : Launch) (D : va_G) (ρ : z_A) (kd : z_K) (q : z_Q) (μ : z_M) (sz : Nat) (a1 : Int32) (a2 : Int32) (K : z_M → Prop) (hI : z_I kd q) (h_o : kd 0 = some (.inl 12)) (h : C_X12_emit a1 a2 μ K) : Met l yX12_emit (z_ws yX12_emit cX12_emit 3 (Option.none : Option Jvm.ClassFile.FieldType)) rm_X12_emit (z_Pc D ρ kd q μ sz [.ref (0), .int (a1), .int (a2)]) (z_Qn D (z_Rg ρ sz) ρ kd (z_Kv q K)) 0 0 (z_Rg ρ sz) := by
  refine z_met (rm := rm_X12_emit) (by decide) (Nat.le_of_ble_eq_true rfl) (fun p e s m args below meth c G hr hlk => ?_)
  unfold C_X12_emit at h
  show z_X _ _ _ _ _ _ _ _ _ _ _ _ _ _ _ _ _ _ _ _ _ [(0, .ref (0)), (1, .int (a1)), (2, .int (a2))] _
  refine zx_aload_n (pc := 0) G (some (0)) 0 rfl rfl (z_dec T_X12_emit_ok 0 (0, .aload_n 0, 1) rfl) ?_
  refine zx_callV_zN (pc := 1) (rm := rm_X12_isGood) G cw_RX12_270 ⟨Nat.le_of_ble_eq_true rfl, Nat.le_of_ble_eq_true rfl⟩ rfl rfl ⟨Nat.zero_le _, Nat.zero_le _⟩ h_o rfl (fun sz => (met_X12_isGood l D ρ kd q μ sz  _ hI h_o h)) rfl rfl (Nat.le_of_ble_eq_true rfl) (z_dec T_X12_emit_ok 1 (1, .invokevirtual 270, 3) rfl) (fun r2 μ1 hzr2 hn => ?_)
  clear h
  have h := hn
  clear hn
  refine zx_if_ne (pc := 4) (tgt := 8) G rfl (z_dec T_X12_emit_ok 2 (4, .ifCond .ne 4, 3) rfl) (fun hc => ?_) (fun hc => ?_)
  · replace h := z_neg hc h
    refine zx_aload_n (pc := 8) G (some (0)) 0 rfl rfl (z_dec T_X12_emit_ok 4 (8, .aload_n 0, 1) rfl) ?_
    refine zx_getF (pc := 9) (b := 43) G gf_RX12_114 rfl h_o (zq_12_42 hI h_o) (z_dec T_X12_emit_ok 5 (9, .getfield 114, 3) rfl) ?_
    refine zx_aload_n (pc := 12) G (some (0)) 0 rfl rfl (z_dec T_X12_emit_ok 6 (12, .aload_n 0, 1) rfl) ?_
    refine zx_getI (pc := 13) G gf_RX12_274 rfl h_o (z_dec T_X12_emit_ok 7 (13, .getfield 274, 3) rfl) ?_
    refine zx_iload_n (pc := 16) G 1 rfl rfl (z_dec T_X12_emit_ok 8 (16, .iload_n 1, 1) rfl) ?_
    obtain ⟨c3, h⟩ := h
    refine zx_iast (pc := 17) G (zk_12_42 hI h_o) c3 (z_dec T_X12_emit_ok 9 (17, .iastore, 1) rfl) ?_
    refine zx_aload_n (pc := 18) G (some (0)) 0 rfl rfl (z_dec T_X12_emit_ok 10 (18, .aload_n 0, 1) rfl) ?_
    refine zx_getF (pc := 19) (b := 44) G gf_RX12_117 rfl h_o (zq_12_43 hI h_o) (z_dec T_X12_emit_ok 11 (19, .getfield 117, 3) rfl) ?_
    refine zx_aload_n (pc := 22) G (some (0)) 0 rfl rfl (z_dec T_X12_emit_ok 12 (22, .aload_n 0, 1) rfl) ?_
    refine zx_getI (pc := 23) G gf_RX12_274 rfl h_o (z_dec T_X12_emit_ok 13 (23, .getfield 274, 3) rfl) ?_
    refine zx_iload_n (pc := 26) G 2 rfl rfl (z_dec T_X12_emit_ok 14 (26, .iload_n 2, 1) rfl) ?_
    obtain ⟨c4, h⟩ := h
    refine zx_iast (pc := 27) G (zk_12_43 hI h_o) c4 (z_dec T_X12_emit_ok 15 (27, .iastore, 1) rfl) ?_
    refine zx_aload_n (pc := 28) G (some (0)) 0 rfl rfl (z_dec T_X12_emit_ok 16 (28, .aload_n 0, 1) rfl) ?_
    refine zx_dup (pc := 29) G rfl (z_dec T_X12_emit_ok 17 (29, .dup, 1) rfl) ?_
    refine zx_getI (pc := 30) G gf_RX12_274 rfl h_o (z_dec T_X12_emit_ok 18 (30, .getfield 274, 3) rfl) ?_
    refine zx_iconst (pc := 33) (v := 1) G (z_dec T_X12_emit_ok 19 (33, .iconst 1, 1) rfl) rfl ?_
    refine zx_iadd (pc := 34) G  (z_dec T_X12_emit_ok 20 (34, .iadd, 1) rfl) ?_
    refine zx_putI (pc := 35) G gf_RX12_274 cf_12 rfl rfl h_o (z_dec T_X12_emit_ok 21 (35, .putfield 274, 3) rfl) ?_
    exact zx_vret (pc := 38) G hr hlk (Nat.le_refl _) (Nat.le_refl _) (z_dec T_X12_emit_ok 22 (38, .return_, 1) rfl) ⟨rfl, rfl, h⟩
  · replace h := z_pos hc h
    exact zx_vret (pc := 7) G hr hlk (Nat.le_refl _) (Nat.le_refl _) (z_dec T_X12_emit_ok 3 (7, .return_, 1) rfl) ⟨rfl, rfl, h⟩
abbrev rm_X12_top : Room := { frames := 0, cells := 0, slots := 0, locals := 0 }
set_option maxRecDepth 100000 in
set_option maxHeartbeats 4000000 in
theorem met_X12_top (l : Launch) (D : va_G) (ρ : z_A) (kd : z_K) (q : z_Q) (μ : z_M) (sz : Nat) (K : Int32 → z_M → Prop) (hI : z_I kd q) (h_o : kd 0 = some (.inl 12)) (h : C_X12_top μ K) : Met l yX12_top (z_ws yX12_top cX12_top 1 (Option.some Jvm.ClassFile.FieldType.int)) rm_X12_top (z_Pc D ρ kd q μ sz [.ref (0)]) (z_Qn D (z_Rg ρ sz) ρ kd (z_Ki q K)) 0 0 (z_Rg ρ sz) := by
  refine z_met (rm := rm_X12_top) (by decide) (Nat.le_of_ble_eq_true rfl) (fun p e s m args below meth c G hr hlk => ?_)
  unfold C_X12_top at h
  show z_X _ _ _ _ _ _ _ _ _ _ _ _ _ _ _ _ _ _ _ _ _ [(0, .ref (0))] _
  refine zx_aload_n (pc := 0) G (some (0)) 0 rfl rfl (z_dec T_X12_top_ok 0 (0, .aload_n 0, 1) rfl) ?_
  refine zx_getI (pc := 1) G gf_RX12_277 rfl h_o (z_dec T_X12_top_ok 1 (1, .getfield 277, 3) rfl) ?_
  refine zx_if_le (pc := 4) (tgt := 21) G rfl (z_dec T_X12_top_ok 2 (4, .ifCond .le 17, 3) rfl) (fun hc => ?_) (fun hc => ?_)
  · replace h := z_pos hc h
    refine zx_iconst (pc := 21) (v := 0) G (z_dec T_X12_top_ok 11 (21, .iconst 0, 1) rfl) rfl ?_
    exact zx_iret (pc := 22) G hr hlk (Nat.le_refl _) (Nat.le_refl _) (z_dec T_X12_top_ok 12 (22, .ireturn, 1) rfl) ⟨rfl, _, rfl, h⟩
  · replace h := z_neg hc h
    refine zx_aload_n (pc := 7) G (some (0)) 0 rfl rfl (z_dec T_X12_top_ok 3 (7, .aload_n 0, 1) rfl) ?_
    refine zx_getF (pc := 8) (b := 54) G gf_RX12_120 rfl h_o (zq_12_53 hI h_o) (z_dec T_X12_top_ok 4 (8, .getfield 120, 3) rfl) ?_
    refine zx_aload_n (pc := 11) G (some (0)) 0 rfl rfl (z_dec T_X12_top_ok 5 (11, .aload_n 0, 1) rfl) ?_
    refine zx_getI (pc := 12) G gf_RX12_277 rfl h_o (z_dec T_X12_top_ok 6 (12, .getfield 277, 3) rfl) ?_
    refine zx_iconst (pc := 15) (v := 1) G (z_dec T_X12_top_ok 7 (15, .iconst 1, 1) rfl) rfl ?_
    refine zx_isub (pc := 16) G  (z_dec T_X12_top_ok 8 (16, .isub, 1) rfl) ?_
    obtain ⟨c1, h⟩ := h
    refine zx_iald (pc := 17) G (zk_12_53 hI h_o) c1 (z_dec T_X12_top_ok 9 (17, .iaload, 1) rfl) ?_
    refine zx_goto (pc := 18) (tgt := 22) G rfl (z_dec T_X12_top_ok 10 (18, .goto 4, 3) rfl) ?_
    exact zx_iret (pc := 22) G hr hlk (Nat.le_refl _) (Nat.le_refl _) (z_dec T_X12_top_ok 12 (22, .ireturn, 1) rfl) ⟨rfl, _, rfl, h⟩
abbrev rm_X12_puts : Room := { frames := 0, cells := 0, slots := 0, locals := 0 }
set_option maxRecDepth 100000 in
set_option maxHeartbeats 4000000 in
theorem met_X12_puts (l : Launch) (D : va_G) (ρ : z_A) (kd : z_K) (q : z_Q) (μ : z_M) (sz : Nat) (a1 : Int32) (K : z_M → Prop) (hI : z_I kd q) (h_o : kd 0 = some (.inl 12)) (h : C_X12_puts a1 μ K) : Met l yX12_puts (z_ws yX12_puts cX12_puts 2 (Option.none : Option Jvm.ClassFile.FieldType)) rm_X12_puts (z_Pc D ρ kd q μ sz [.ref (0), .int (a1)]) (z_Qn D (z_Rg ρ sz) ρ kd (z_Kv q K)) 0 0 (z_Rg ρ sz) := by
  refine z_met (rm := rm_X12_puts) (by decide) (Nat.le_of_ble_eq_true rfl) (fun p e s m args below meth c G hr hlk => ?_)
  unfold C_X12_puts at h
  show z_X _ _ _ _ _ _ _ _ _ _ _ _ _ _ _ _ _ _ _ _ _ [(0, .ref (0)), (1, .int (a1))] _
  refine zx_aload_n (pc := 0) G (some (0)) 0 rfl rfl (z_dec T_X12_puts_ok 0 (0, .aload_n 0, 1) rfl) ?_
  refine zx_getF (pc := 1) (b := 54) G gf_RX12_120 rfl h_o (zq_12_53 hI h_o) (z_dec T_X12_puts_ok 1 (1, .getfield 120, 3) rfl) ?_
  refine zx_aload_n (pc := 4) G (some (0)) 0 rfl rfl (z_dec T_X12_puts_ok 2 (4, .aload_n 0, 1) rfl) ?_
  refine zx_getI (pc := 5) G gf_RX12_277 rfl h_o (z_dec T_X12_puts_ok 3 (5, .getfield 277, 3) rfl) ?_
  refine zx_iload_n (pc := 8) G 1 rfl rfl (z_dec T_X12_puts_ok 4 (8, .iload_n 1, 1) rfl) ?_
  obtain ⟨c1, h⟩ := h
  refine zx_iast (pc := 9) G (zk_12_53 hI h_o) c1 (z_dec T_X12_puts_ok 5 (9, .iastore, 1) rfl) ?_
  refine zx_aload_n (pc := 10) G (some (0)) 0 rfl rfl (z_dec T_X12_puts_ok 6 (10, .aload_n 0, 1) rfl) ?_
  refine zx_dup (pc := 11) G rfl (z_dec T_X12_puts_ok 7 (11, .dup, 1) rfl) ?_
  refine zx_getI (pc := 12) G gf_RX12_277 rfl h_o (z_dec T_X12_puts_ok 8 (12, .getfield 277, 3) rfl) ?_
  refine zx_iconst (pc := 15) (v := 1) G (z_dec T_X12_puts_ok 9 (15, .iconst 1, 1) rfl) rfl ?_
  refine zx_iadd (pc := 16) G  (z_dec T_X12_puts_ok 10 (16, .iadd, 1) rfl) ?_
  refine zx_putI (pc := 17) G gf_RX12_277 cf_12 rfl rfl h_o (z_dec T_X12_puts_ok 11 (17, .putfield 277, 3) rfl) ?_
  refine zx_aload_n (pc := 20) G (some (0)) 0 rfl rfl (z_dec T_X12_puts_ok 12 (20, .aload_n 0, 1) rfl) ?_
  refine zx_dup (pc := 21) G rfl (z_dec T_X12_puts_ok 13 (21, .dup, 1) rfl) ?_
  refine zx_getI (pc := 22) G gf_RX12_261 rfl h_o (z_dec T_X12_puts_ok 14 (22, .getfield 261, 3) rfl) ?_
  refine zx_iconst (pc := 25) (v := 1) G (z_dec T_X12_puts_ok 15 (25, .iconst 1, 1) rfl) rfl ?_
  refine zx_iadd (pc := 26) G  (z_dec T_X12_puts_ok 16 (26, .iadd, 1) rfl) ?_
  refine zx_putI (pc := 27) G gf_RX12_261 cf_12 rfl rfl h_o (z_dec T_X12_puts_ok 17 (27, .putfield 261, 3) rfl) ?_
  exact zx_vret (pc := 30) G hr hlk (Nat.le_refl _) (Nat.le_refl _) (z_dec T_X12_puts_ok 18 (30, .return_, 1) rfl) ⟨rfl, rfl, h⟩
abbrev rm_X12_opens : Room := { frames := 1, cells := 0, slots := 0, locals := 22 }
set_option maxRecDepth 100000 in
set_option maxHeartbeats 4000000 in
theorem L_X12_opens_18_ok {p : Program} {l : Launch} {e : Env} {s : State} {m : MethodId} {args : Array Value} {below : List Frame} {meth : Method} {c : Code} {D : va_G} {A : Nat → Prop} {ρ : z_A} {kd : z_K} {q : z_Q} {μ : z_M} {K : z_M → Prop} (G : z_G p c cX12_opens s m args RX12 1 D) (hr : meth.sig.returnType = (Option.none : Option Jvm.ClassFile.FieldType)) (hlk : meth.locks = false) (hI : z_I kd q) (f_l0 : kd 0 = some (.inl 12)) (h : L_X12_opens_18 K μ) : z_X p l e rm_X12_opens s m args below meth c 1 D A (MQ below (z_Qn D A ρ kd (z_Kv q K)) args s 0 0 A) 0 0 ρ kd q μ 18 [(0, .ref (0))] [] := by
    unfold L_X12_opens_18 at h
    refine zx_aload_n (pc := 18) G (some (0)) 0 rfl rfl (z_dec T_X12_opens_ok 9 (18, .aload_n 0, 1) rfl) ?_
    refine zx_dup (pc := 19) G rfl (z_dec T_X12_opens_ok 10 (19, .dup, 1) rfl) ?_
    refine zx_getI (pc := 20) G gf_RX12_280 rfl f_l0 (z_dec T_X12_opens_ok 11 (20, .getfield 280, 3) rfl) ?_
    refine zx_iconst (pc := 23) (v := 1) G (z_dec T_X12_opens_ok 12 (23, .iconst 1, 1) rfl) rfl ?_
    refine zx_iadd (pc := 24) G  (z_dec T_X12_opens_ok 13 (24, .iadd, 1) rfl) ?_
    refine zx_putI (pc := 25) G gf_RX12_280 cf_12 rfl rfl f_l0 (z_dec T_X12_opens_ok 14 (25, .putfield 280, 3) rfl) ?_
    refine zx_aload_n (pc := 28) G (some (0)) 0 rfl rfl (z_dec T_X12_opens_ok 15 (28, .aload_n 0, 1) rfl) ?_
    refine zx_aload_n (pc := 29) G (some (0)) 0 rfl rfl (z_dec T_X12_opens_ok 16 (29, .aload_n 0, 1) rfl) ?_
    refine zx_callV_iN (pc := 30) (rm := rm_X12_here) G cw_RX12_286 ⟨Nat.le_of_ble_eq_true rfl, Nat.le_of_ble_eq_true rfl⟩ rfl rfl ⟨Nat.zero_le _, Nat.zero_le _⟩ f_l0 rfl (fun sz => (met_X12_here l D ρ kd q (si μ 0 49 ((μ.1 0 49) + ((1 : Int32)))) sz  _ hI f_l0 h)) rfl rfl (Nat.le_of_ble_eq_true rfl) (z_dec T_X12_opens_ok 17 (30, .invokevirtual 286, 3) rfl) (fun r2 μ1 hn => ?_)
    clear h
    have h := hn
    clear hn
    refine zx_callV_vN (pc := 33) (rm := rm_X12_puts) G cw_RX12_290 ⟨Nat.le_of_ble_eq_true rfl, Nat.le_of_ble_eq_true rfl⟩ rfl rfl ⟨Nat.zero_le _, Nat.zero_le _⟩ f_l0 rfl (fun sz => (met_X12_puts l D ρ kd q μ1 sz r2 _ hI f_l0 h)) rfl rfl (Nat.le_of_ble_eq_true rfl) (z_dec T_X12_opens_ok 18 (33, .invokevirtual 290, 3) rfl) (fun μ3 hn => ?_)
    clear h
    have h := hn
    clear hn
    exact zx_vret (pc := 36) G hr hlk (Nat.le_refl _) (Nat.le_refl _) (z_dec T_X12_opens_ok 19 (36, .return_, 1) rfl) ⟨rfl, rfl, h⟩
set_option maxRecDepth 100000 in
set_option maxHeartbeats 4000000 in
theorem met_X12_opens (l : Launch) (D : va_G) (ρ : z_A) (kd : z_K) (q : z_Q) (μ : z_M) (sz : Nat) (K : z_M → Prop) (hI : z_I kd q) (h_o : kd 0 = some (.inl 12)) (h : C_X12_opens μ K) : Met l yX12_opens (z_ws yX12_opens cX12_opens 1 (Option.none : Option Jvm.ClassFile.FieldType)) rm_X12_opens (z_Pc D ρ kd q μ sz [.ref (0)]) (z_Qn D (z_Rg ρ sz) ρ kd (z_Kv q K)) 0 0 (z_Rg ρ sz) := by
  refine z_met (rm := rm_X12_opens) (by decide) (Nat.le_of_ble_eq_true rfl) (fun p e s m args below meth c G hr hlk => ?_)
  unfold C_X12_opens at h
  show z_X _ _ _ _ _ _ _ _ _ _ _ _ _ _ _ _ _ _ _ _ _ [(0, .ref (0))] _
  refine zx_aload_n (pc := 0) G (some (0)) 0 rfl rfl (z_dec T_X12_opens_ok 0 (0, .aload_n 0, 1) rfl) ?_
  refine zx_getI (pc := 1) G gf_RX12_280 rfl h_o (z_dec T_X12_opens_ok 1 (1, .getfield 280, 3) rfl) ?_
  refine zx_bipush (pc := 4) (v := 6) G (z_dec T_X12_opens_ok 2 (4, .bipush 6, 2) rfl) rfl ?_
  refine zx_icmp_ne (pc := 6) (tgt := 18) G rfl (z_dec T_X12_opens_ok 3 (6, .if_icmp .ne 12, 3) rfl) (fun hc => ?_) (fun hc => ?_)
  · replace h := z_neg hc h
    exact L_X12_opens_18_ok G hr hlk hI h_o h
  · replace h := z_pos hc h
    refine zx_aload_n (pc := 9) G (some (0)) 0 rfl rfl (z_dec T_X12_opens_ok 4 (9, .aload_n 0, 1) rfl) ?_
    refine zx_iconst (pc := 10) (v := 5) G (z_dec T_X12_opens_ok 5 (10, .iconst 5, 1) rfl) rfl ?_
    refine zx_aload_n (pc := 11) G (some (0)) 0 rfl rfl (z_dec T_X12_opens_ok 6 (11, .aload_n 0, 1) rfl) ?_
    refine zx_getI (pc := 12) G gf_RX12_261 rfl h_o (z_dec T_X12_opens_ok 7 (12, .getfield 261, 3) rfl) ?_
    refine zx_callV_vN (pc := 15) (rm := rm_X12_wrongs) G cw_RX12_283 ⟨Nat.le_of_ble_eq_true rfl, Nat.le_of_ble_eq_true rfl⟩ rfl rfl ⟨Nat.zero_le _, Nat.zero_le _⟩ h_o rfl (fun sz => (met_X12_wrongs l D ρ kd q μ sz ((5 : Int32)) (μ.1 0 44) _ hI h_o h)) rfl rfl (Nat.le_of_ble_eq_true rfl) (z_dec T_X12_opens_ok 8 (15, .invokevirtual 283, 3) rfl) (fun μ1 hn => ?_)
    clear h
    have h := hn
    clear hn
    exact L_X12_opens_18_ok G hr hlk hI h_o h
abbrev rm_X12_seesDigit : Room := { frames := 1, cells := 0, slots := 0, locals := 25 }
set_option maxRecDepth 100000 in
set_option maxHeartbeats 4000000 in
theorem met_X12_seesDigit (l : Launch) (D : va_G) (ρ : z_A) (kd : z_K) (q : z_Q) (μ : z_M) (sz : Nat) (K : Int32 → z_M → Prop) (hI : z_I kd q) (h_o : kd 0 = some (.inl 12)) (h : C_X12_seesDigit μ K) : Met l yX12_seesDigit (z_ws yX12_seesDigit cX12_seesDigit 1 (Option.some Jvm.ClassFile.FieldType.boolean)) rm_X12_seesDigit (z_Pc D ρ kd q μ sz [.ref (0)]) (z_Qn D (z_Rg ρ sz) ρ kd (z_Kz q K)) 0 0 (z_Rg ρ sz) := by
  refine z_met (rm := rm_X12_seesDigit) (by decide) (Nat.le_of_ble_eq_true rfl) (fun p e s m args below meth c G hr hlk => ?_)
  unfold C_X12_seesDigit at h
  show z_X _ _ _ _ _ _ _ _ _ _ _ _ _ _ _ _ _ _ _ _ _ [(0, .ref (0))] _
  refine zx_aload_n (pc := 0) G (some (0)) 0 rfl rfl (z_dec T_X12_seesDigit_ok 0 (0, .aload_n 0, 1) rfl) ?_
  refine zx_callV_iN (pc := 1) (rm := rm_X12_here) G cw_RX12_286 ⟨Nat.le_of_ble_eq_true rfl, Nat.le_of_ble_eq_true rfl⟩ rfl rfl ⟨Nat.zero_le _, Nat.zero_le _⟩ h_o rfl (fun sz => (met_X12_here l D ρ kd q μ sz  _ hI h_o h)) rfl rfl (Nat.le_of_ble_eq_true rfl) (z_dec T_X12_seesDigit_ok 1 (1, .invokevirtual 286, 3) rfl) (fun r2 μ1 hn => ?_)
  clear h
  have h := hn
  clear hn
  refine zx_i2l (pc := 4) G  (z_dec T_X12_seesDigit_ok 2 (4, .i2l, 1) rfl) ?_
  refine zx_ldc2 (pc := 5) G wk_RX12_293 (z_dec T_X12_seesDigit_ok 3 (5, .ldc2_w 293, 3) rfl) ?_
  refine zx_ldc2 (pc := 8) G wk_RX12_295 (z_dec T_X12_seesDigit_ok 4 (8, .ldc2_w 295, 3) rfl) ?_
  refine zx_callS_zN (pc := 11) (rm := rm_X12_lies) G cw_RX12_140 ⟨Nat.le_of_ble_eq_true rfl, Nat.le_of_ble_eq_true rfl⟩ rfl rfl ⟨Nat.zero_le _, Nat.zero_le _⟩ (fun sz => (met_X12_lies l D ρ kd q μ1 sz r2.toInt64 ((48 : Int64)) ((57 : Int64)) _ hI h)) rfl rfl (Nat.le_of_ble_eq_true rfl) (z_dec T_X12_seesDigit_ok 5 (11, .invokestatic 140, 3) rfl) (fun r4 μ3 hzr4 hn => ?_)
  clear h
  have h := hn
  clear hn
  exact zx_zret (pc := 14) G hr hlk (Nat.le_refl _) (Nat.le_refl _) hzr4 (z_dec T_X12_seesDigit_ok 6 (14, .ireturn, 1) rfl) ⟨rfl, _, rfl, hzr4, h⟩
abbrev rm_X12_reads : Room := { frames := 2, cells := 0, slots := 0, locals := 45 }
set_option maxRecDepth 100000 in
set_option maxHeartbeats 4000000 in
theorem L_X12_reads_41_ok {p : Program} {l : Launch} {e : Env} {s : State} {m : MethodId} {args : Array Value} {below : List Frame} {meth : Method} {c : Code} {D : va_G} {A : Nat → Prop} {ρ : z_A} {kd : z_K} {q : z_Q} {μ : z_M} {K : Int32 → z_M → Prop} {P7 : Int32 → Int32 → z_M → Prop} {v1 : Int32} {v2 : Int32} (G : z_G p c cX12_reads s m args RX12 3 D) (hr : meth.sig.returnType = (Option.some Jvm.ClassFile.FieldType.int)) (hlk : meth.locks = false) (hP7 : ∀ (v1 : Int32) (v2 : Int32) (μ : z_M), P7 v1 v2 μ → (kd 0 = some (.inl 12)) → z_X p l e rm_X12_reads s m args below meth c 3 D A (MQ below (z_Qn D A ρ kd (z_Ki q K)) args s 0 0 A) 0 0 ρ kd q μ 7 [(0, .ref (0)), (1, .int (v1)), (2, .int (v2))] []) (hI : z_I kd q) (f_l0 : kd 0 = some (.inl 12)) (h : L_X12_reads_41 K P7 v1 v2 μ) : z_X p l e rm_X12_reads s m args below meth c 3 D A (MQ below (z_Qn D A ρ kd (z_Ki q K)) args s 0 0 A) 0 0 ρ kd q μ 41 [(0, .ref (0)), (1, .int (v1)), (2, .int (v2))] [] := by
    unfold L_X12_reads_41 at h
    refine zx_bipush (pc := 41) (v := 10) G (z_dec T_X12_reads_ok 22 (41, .bipush 10, 2) rfl) rfl ?_
    refine zx_iload_n (pc := 43) G 2 rfl rfl (z_dec T_X12_reads_ok 23 (43, .iload_n 2, 1) rfl) ?_
    refine zx_imul (pc := 44) G  (z_dec T_X12_reads_ok 24 (44, .imul, 1) rfl) ?_
    refine zx_aload_n (pc := 45) G (some (0)) 0 rfl rfl (z_dec T_X12_reads_ok 25 (45, .aload_n 0, 1) rfl) ?_
    refine zx_callV_iN (pc := 46) (rm := rm_X12_here) G cw_RX12_286 ⟨Nat.le_of_ble_eq_true rfl, Nat.le_of_ble_eq_true rfl⟩ rfl rfl ⟨Nat.zero_le _, Nat.zero_le _⟩ f_l0 rfl (fun sz => (met_X12_here l D ρ kd q μ sz  _ hI f_l0 h)) rfl rfl (Nat.le_of_ble_eq_true rfl) (z_dec T_X12_reads_ok 26 (46, .invokevirtual 286, 3) rfl) (fun r2 μ1 hn => ?_)
    clear h
    have h := hn
    clear hn
    refine zx_iadd (pc := 49) G  (z_dec T_X12_reads_ok 27 (49, .iadd, 1) rfl) ?_
    refine zx_bipush (pc := 50) (v := 48) G (z_dec T_X12_reads_ok 28 (50, .bipush 48, 2) rfl) rfl ?_
    refine zx_isub (pc := 52) G  (z_dec T_X12_reads_ok 29 (52, .isub, 1) rfl) ?_
    refine zx_istore_n (pc := 53) (lv' := [(2, .int (((((10 : Int32)) * v2) + r2) - ((48 : Int32)))), (0, .ref (0)), (1, .int (v1))]) G rfl (Nat.le_of_ble_eq_true rfl) rfl (z_dec T_X12_reads_ok 30 (53, .istore_n 2, 1) rfl) ?_
    refine zx_aload_n (pc := 54) G (some (0)) 1 rfl rfl (z_dec T_X12_reads_ok 31 (54, .aload_n 0, 1) rfl) ?_
    refine zx_dup (pc := 55) G rfl (z_dec T_X12_reads_ok 32 (55, .dup, 1) rfl) ?_
    refine zx_getI (pc := 56) G gf_RX12_261 rfl f_l0 (z_dec T_X12_reads_ok 33 (56, .getfield 261, 3) rfl) ?_
    refine zx_iconst (pc := 59) (v := 1) G (z_dec T_X12_reads_ok 34 (59, .iconst 1, 1) rfl) rfl ?_
    refine zx_iadd (pc := 60) G  (z_dec T_X12_reads_ok 35 (60, .iadd, 1) rfl) ?_
    refine zx_putI (pc := 61) G gf_RX12_261 cf_12 rfl rfl f_l0 (z_dec T_X12_reads_ok 36 (61, .putfield 261, 3) rfl) ?_
    refine zx_goto (pc := 64) (tgt := 7) G rfl (z_dec T_X12_reads_ok 37 (64, .goto (-57), 3) rfl) ?_
    refine zx_sub (lv' := [(0, .ref (0)), (1, .int (v1)), (2, .int (((((10 : Int32)) * v2) + r2) - ((48 : Int32))))]) [1, 2, 0] rfl ?_
    exact hP7 _ _ _ h f_l0
set_option maxRecDepth 100000 in
set_option maxHeartbeats 4000000 in
theorem B_X12_reads_7_ok {p : Program} {l : Launch} {e : Env} {s : State} {m : MethodId} {args : Array Value} {below : List Frame} {meth : Method} {c : Code} {D : va_G} {A : Nat → Prop} {ρ : z_A} {kd : z_K} {q : z_Q} {μ : z_M} {K : Int32 → z_M → Prop} {P7 : Int32 → Int32 → z_M → Prop} {v1 : Int32} {v2 : Int32} (G : z_G p c cX12_reads s m args RX12 3 D) (hr : meth.sig.returnType = (Option.some Jvm.ClassFile.FieldType.int)) (hlk : meth.locks = false) (hP7 : ∀ (v1 : Int32) (v2 : Int32) (μ : z_M), P7 v1 v2 μ → (kd 0 = some (.inl 12)) → z_X p l e rm_X12_reads s m args below meth c 3 D A (MQ below (z_Qn D A ρ kd (z_Ki q K)) args s 0 0 A) 0 0 ρ kd q μ 7 [(0, .ref (0)), (1, .int (v1)), (2, .int (v2))] []) (hI : z_I kd q) (f_l0 : kd 0 = some (.inl 12)) (h : B_X12_reads_7 K P7 v1 v2 μ) : z_X p l e rm_X12_reads s m args below meth c 3 D A (MQ below (z_Qn D A ρ kd (z_Ki q K)) args s 0 0 A) 0 0 ρ kd q μ 7 [(0, .ref (0)), (1, .int (v1)), (2, .int (v2))] [] := by
    unfold B_X12_reads_7 at h
    refine zx_aload_n (pc := 7) G (some (0)) 0 rfl rfl (z_dec T_X12_reads_ok 5 (7, .aload_n 0, 1) rfl) ?_
    refine zx_callV_zN (pc := 8) (rm := rm_X12_isGood) G cw_RX12_270 ⟨Nat.le_of_ble_eq_true rfl, Nat.le_of_ble_eq_true rfl⟩ rfl rfl ⟨Nat.zero_le _, Nat.zero_le _⟩ f_l0 rfl (fun sz => (met_X12_isGood l D ρ kd q μ sz  _ hI f_l0 h)) rfl rfl (Nat.le_of_ble_eq_true rfl) (z_dec T_X12_reads_ok 6 (8, .invokevirtual 270, 3) rfl) (fun r2 μ1 hzr2 hn => ?_)
    clear h
    have h := hn
    clear hn
    refine zx_if_eq (pc := 11) (tgt := 67) G rfl (z_dec T_X12_reads_ok 7 (11, .ifCond .eq 56, 3) rfl) (fun hc => ?_) (fun hc => ?_)
    · replace h := z_pos hc h
      refine zx_iload_n (pc := 67) G 2 rfl rfl (z_dec T_X12_reads_ok 38 (67, .iload_n 2, 1) rfl) ?_
      exact zx_iret (pc := 68) G hr hlk (Nat.le_refl _) (Nat.le_refl _) (z_dec T_X12_reads_ok 39 (68, .ireturn, 1) rfl) ⟨rfl, _, rfl, h⟩
    · replace h := z_neg hc h
      refine zx_aload_n (pc := 14) G (some (0)) 0 rfl rfl (z_dec T_X12_reads_ok 8 (14, .aload_n 0, 1) rfl) ?_
      refine zx_callV_zN (pc := 15) (rm := rm_X12_seesDigit) G cw_RX12_297 ⟨Nat.le_of_ble_eq_true rfl, Nat.le_of_ble_eq_true rfl⟩ rfl rfl ⟨Nat.zero_le _, Nat.zero_le _⟩ f_l0 rfl (fun sz => (met_X12_seesDigit l D ρ kd q μ1 sz  _ hI f_l0 h)) rfl rfl (Nat.le_of_ble_eq_true rfl) (z_dec T_X12_reads_ok 9 (15, .invokevirtual 297, 3) rfl) (fun r4 μ3 hzr4 hn => ?_)
      clear h
      have h := hn
      clear hn
      refine zx_if_eq (pc := 18) (tgt := 67) G rfl (z_dec T_X12_reads_ok 10 (18, .ifCond .eq 49, 3) rfl) (fun hc => ?_) (fun hc => ?_)
      · replace h := z_pos hc h
        refine zx_iload_n (pc := 67) G 2 rfl rfl (z_dec T_X12_reads_ok 38 (67, .iload_n 2, 1) rfl) ?_
        exact zx_iret (pc := 68) G hr hlk (Nat.le_refl _) (Nat.le_refl _) (z_dec T_X12_reads_ok 39 (68, .ireturn, 1) rfl) ⟨rfl, _, rfl, h⟩
      · replace h := z_neg hc h
        refine zx_aload_n (pc := 21) G (some (0)) 0 rfl rfl (z_dec T_X12_reads_ok 11 (21, .aload_n 0, 1) rfl) ?_
        refine zx_getI (pc := 22) G gf_RX12_261 rfl f_l0 (z_dec T_X12_reads_ok 12 (22, .getfield 261, 3) rfl) ?_
        refine zx_iload_n (pc := 25) G 1 rfl rfl (z_dec T_X12_reads_ok 13 (25, .iload_n 1, 1) rfl) ?_
        refine zx_bipush (pc := 26) (v := 6) G (z_dec T_X12_reads_ok 14 (26, .bipush 6, 2) rfl) rfl ?_
        refine zx_iadd (pc := 28) G  (z_dec T_X12_reads_ok 15 (28, .iadd, 1) rfl) ?_
        refine zx_icmp_ne (pc := 29) (tgt := 41) G rfl (z_dec T_X12_reads_ok 16 (29, .if_icmp .ne 12, 3) rfl) (fun hc => ?_) (fun hc => ?_)
        · replace h := z_neg hc h
          exact L_X12_reads_41_ok G hr hlk hP7 hI f_l0 h
        · replace h := z_pos hc h
          refine zx_aload_n (pc := 32) G (some (0)) 0 rfl rfl (z_dec T_X12_reads_ok 17 (32, .aload_n 0, 1) rfl) ?_
          refine zx_iconst (pc := 33) (v := 2) G (z_dec T_X12_reads_ok 18 (33, .iconst 2, 1) rfl) rfl ?_
          refine zx_aload_n (pc := 34) G (some (0)) 0 rfl rfl (z_dec T_X12_reads_ok 19 (34, .aload_n 0, 1) rfl) ?_
          refine zx_getI (pc := 35) G gf_RX12_261 rfl f_l0 (z_dec T_X12_reads_ok 20 (35, .getfield 261, 3) rfl) ?_
          refine zx_callV_vN (pc := 38) (rm := rm_X12_wrongs) G cw_RX12_283 ⟨Nat.le_of_ble_eq_true rfl, Nat.le_of_ble_eq_true rfl⟩ rfl rfl ⟨Nat.zero_le _, Nat.zero_le _⟩ f_l0 rfl (fun sz => (met_X12_wrongs l D ρ kd q μ3 sz ((2 : Int32)) (μ3.1 0 44) _ hI f_l0 h)) rfl rfl (Nat.le_of_ble_eq_true rfl) (z_dec T_X12_reads_ok 21 (38, .invokevirtual 283, 3) rfl) (fun μ5 hn => ?_)
          clear h
          have h := hn
          clear hn
          exact L_X12_reads_41_ok G hr hlk hP7 hI f_l0 h
set_option maxRecDepth 100000 in
set_option maxHeartbeats 4000000 in
theorem L_X12_reads_7_ok {p : Program} {l : Launch} {e : Env} {s : State} {m : MethodId} {args : Array Value} {below : List Frame} {meth : Method} {c : Code} {D : va_G} {A : Nat → Prop} {ρ : z_A} {kd : z_K} {q : z_Q} {μ : z_M} {K : Int32 → z_M → Prop} {v1 : Int32} {v2 : Int32} (G : z_G p c cX12_reads s m args RX12 3 D) (hr : meth.sig.returnType = (Option.some Jvm.ClassFile.FieldType.int)) (hlk : meth.locks = false) (hI : z_I kd q) (f_l0 : kd 0 = some (.inl 12)) (h : L_X12_reads_7 K v1 v2 μ) : z_X p l e rm_X12_reads s m args below meth c 3 D A (MQ below (z_Qn D A ρ kd (z_Ki q K)) args s 0 0 A) 0 0 ρ kd q μ 7 [(0, .ref (0)), (1, .int (v1)), (2, .int (v2))] [] :=
  h (fun (v1 : Int32) (v2 : Int32) (μ : z_M) => (kd 0 = some (.inl 12)) → z_X p l e rm_X12_reads s m args below meth c 3 D A (MQ below (z_Qn D A ρ kd (z_Ki q K)) args s 0 0 A) 0 0 ρ kd q μ 7 [(0, .ref (0)), (1, .int (v1)), (2, .int (v2))] []) (fun v1 v2 μ h f_l0 => B_X12_reads_7_ok G hr hlk (fun _ _ _ h => h) hI f_l0 h) f_l0
set_option maxRecDepth 100000 in
set_option maxHeartbeats 4000000 in
theorem met_X12_reads (l : Launch) (D : va_G) (ρ : z_A) (kd : z_K) (q : z_Q) (μ : z_M) (sz : Nat) (K : Int32 → z_M → Prop) (hI : z_I kd q) (h_o : kd 0 = some (.inl 12)) (h : C_X12_reads μ K) : Met l yX12_reads (z_ws yX12_reads cX12_reads 3 (Option.some Jvm.ClassFile.FieldType.int)) rm_X12_reads (z_Pc D ρ kd q μ sz [.ref (0)]) (z_Qn D (z_Rg ρ sz) ρ kd (z_Ki q K)) 0 0 (z_Rg ρ sz) := by
  refine z_met (rm := rm_X12_reads) (by decide) (Nat.le_of_ble_eq_true rfl) (fun p e s m args below meth c G hr hlk => ?_)
  unfold C_X12_reads at h
  show z_X _ _ _ _ _ _ _ _ _ _ _ _ _ _ _ _ _ _ _ _ _ [(0, .ref (0))] _
  refine zx_aload_n (pc := 0) G (some (0)) 0 rfl rfl (z_dec T_X12_reads_ok 0 (0, .aload_n 0, 1) rfl) ?_
  refine zx_getI (pc := 1) G gf_RX12_261 rfl h_o (z_dec T_X12_reads_ok 1 (1, .getfield 261, 3) rfl) ?_
  refine zx_istore_n (pc := 4) (lv' := [(1, .int (μ.1 0 44)), (0, .ref (0))]) G rfl (Nat.le_of_ble_eq_true rfl) rfl (z_dec T_X12_reads_ok 2 (4, .istore_n 1, 1) rfl) ?_
  refine zx_iconst (pc := 5) (v := 0) G (z_dec T_X12_reads_ok 3 (5, .iconst 0, 1) rfl) rfl ?_
  refine zx_istore_n (pc := 6) (lv' := [(2, .int ((0 : Int32))), (1, .int (μ.1 0 44)), (0, .ref (0))]) G rfl (Nat.le_of_ble_eq_true rfl) rfl (z_dec T_X12_reads_ok 4 (6, .istore_n 2, 1) rfl) ?_
  refine zx_sub (lv' := [(0, .ref (0)), (1, .int (μ.1 0 44)), (2, .int ((0 : Int32)))]) [2, 1, 0] rfl ?_
  exact L_X12_reads_7_ok G hr hlk hI h_o h
abbrev rm_X12_isTimes : Room := { frames := 0, cells := 0, slots := 0, locals := 0 }
set_option maxRecDepth 100000 in
set_option maxHeartbeats 4000000 in
theorem met_X12_isTimes (l : Launch) (D : va_G) (ρ : z_A) (kd : z_K) (q : z_Q) (μ : z_M) (sz : Nat) (a1 : Int32) (K : Int32 → z_M → Prop) (hI : z_I kd q) (h : C_X12_isTimes a1 μ K) : Met l yX12_isTimes (z_ws yX12_isTimes cX12_isTimes 1 (Option.some Jvm.ClassFile.FieldType.boolean)) rm_X12_isTimes (z_Pc D ρ kd q μ sz [.int (a1)]) (z_Qn D (z_Rg ρ sz) ρ kd (z_Kz q K)) 0 0 (z_Rg ρ sz) := by
  refine z_met (rm := rm_X12_isTimes) (by decide) (Nat.le_of_ble_eq_true rfl) (fun p e s m args below meth c G hr hlk => ?_)
  unfold C_X12_isTimes at h
  show z_X _ _ _ _ _ _ _ _ _ _ _ _ _ _ _ _ _ _ _ _ _ [(0, .int (a1))] _
  refine zx_iload_n (pc := 0) G 0 rfl rfl (z_dec T_X12_isTimes_ok 0 (0, .iload_n 0, 1) rfl) ?_
  refine zx_bipush (pc := 1) (v := 42) G (z_dec T_X12_isTimes_ok 1 (1, .bipush 42, 2) rfl) rfl ?_
  refine zx_icmp_eq (pc := 3) (tgt := 18) G rfl (z_dec T_X12_isTimes_ok 2 (3, .if_icmp .eq 15, 3) rfl) (fun hc => ?_) (fun hc => ?_)
  · replace h := z_pos hc h
    refine zx_iconst (pc := 18) (v := 1) G (z_dec T_X12_isTimes_ok 9 (18, .iconst 1, 1) rfl) rfl ?_
    refine zx_goto (pc := 19) (tgt := 23) G rfl (z_dec T_X12_isTimes_ok 10 (19, .goto 4, 3) rfl) ?_
    exact zx_zret (pc := 23) G hr hlk (Nat.le_refl _) (Nat.le_refl _) (Or.inr rfl) (z_dec T_X12_isTimes_ok 12 (23, .ireturn, 1) rfl) ⟨rfl, _, rfl, (Or.inr rfl), h⟩
  · replace h := z_neg hc h
    refine zx_iload_n (pc := 6) G 0 rfl rfl (z_dec T_X12_isTimes_ok 3 (6, .iload_n 0, 1) rfl) ?_
    refine zx_bipush (pc := 7) (v := 47) G (z_dec T_X12_isTimes_ok 4 (7, .bipush 47, 2) rfl) rfl ?_
    refine zx_icmp_eq (pc := 9) (tgt := 18) G rfl (z_dec T_X12_isTimes_ok 5 (9, .if_icmp .eq 9, 3) rfl) (fun hc => ?_) (fun hc => ?_)
    · replace h := z_pos hc h
      refine zx_iconst (pc := 18) (v := 1) G (z_dec T_X12_isTimes_ok 9 (18, .iconst 1, 1) rfl) rfl ?_
      refine zx_goto (pc := 19) (tgt := 23) G rfl (z_dec T_X12_isTimes_ok 10 (19, .goto 4, 3) rfl) ?_
      exact zx_zret (pc := 23) G hr hlk (Nat.le_refl _) (Nat.le_refl _) (Or.inr rfl) (z_dec T_X12_isTimes_ok 12 (23, .ireturn, 1) rfl) ⟨rfl, _, rfl, (Or.inr rfl), h⟩
    · replace h := z_neg hc h
      refine zx_iload_n (pc := 12) G 0 rfl rfl (z_dec T_X12_isTimes_ok 6 (12, .iload_n 0, 1) rfl) ?_
      refine zx_bipush (pc := 13) (v := 37) G (z_dec T_X12_isTimes_ok 7 (13, .bipush 37, 2) rfl) rfl ?_
      refine zx_icmp_ne (pc := 15) (tgt := 22) G rfl (z_dec T_X12_isTimes_ok 8 (15, .if_icmp .ne 7, 3) rfl) (fun hc => ?_) (fun hc => ?_)
      · replace h := z_neg hc h
        refine zx_iconst (pc := 22) (v := 0) G (z_dec T_X12_isTimes_ok 11 (22, .iconst 0, 1) rfl) rfl ?_
        exact zx_zret (pc := 23) G hr hlk (Nat.le_refl _) (Nat.le_refl _) (Or.inl rfl) (z_dec T_X12_isTimes_ok 12 (23, .ireturn, 1) rfl) ⟨rfl, _, rfl, (Or.inl rfl), h⟩
      · replace h := z_pos hc h
        refine zx_iconst (pc := 18) (v := 1) G (z_dec T_X12_isTimes_ok 9 (18, .iconst 1, 1) rfl) rfl ?_
        refine zx_goto (pc := 19) (tgt := 23) G rfl (z_dec T_X12_isTimes_ok 10 (19, .goto 4, 3) rfl) ?_
        exact zx_zret (pc := 23) G hr hlk (Nat.le_refl _) (Nat.le_refl _) (Or.inr rfl) (z_dec T_X12_isTimes_ok 12 (23, .ireturn, 1) rfl) ⟨rfl, _, rfl, (Or.inr rfl), h⟩
abbrev rm_X12_isPlus : Room := { frames := 0, cells := 0, slots := 0, locals := 0 }
set_option maxRecDepth 100000 in
set_option maxHeartbeats 4000000 in
theorem met_X12_isPlus (l : Launch) (D : va_G) (ρ : z_A) (kd : z_K) (q : z_Q) (μ : z_M) (sz : Nat) (a1 : Int32) (K : Int32 → z_M → Prop) (hI : z_I kd q) (h : C_X12_isPlus a1 μ K) : Met l yX12_isPlus (z_ws yX12_isPlus cX12_isPlus 1 (Option.some Jvm.ClassFile.FieldType.boolean)) rm_X12_isPlus (z_Pc D ρ kd q μ sz [.int (a1)]) (z_Qn D (z_Rg ρ sz) ρ kd (z_Kz q K)) 0 0 (z_Rg ρ sz) := by
  refine z_met (rm := rm_X12_isPlus) (by decide) (Nat.le_of_ble_eq_true rfl) (fun p e s m args below meth c G hr hlk => ?_)
  unfold C_X12_isPlus at h
  show z_X _ _ _ _ _ _ _ _ _ _ _ _ _ _ _ _ _ _ _ _ _ [(0, .int (a1))] _
  refine zx_iload_n (pc := 0) G 0 rfl rfl (z_dec T_X12_isPlus_ok 0 (0, .iload_n 0, 1) rfl) ?_
  refine zx_bipush (pc := 1) (v := 43) G (z_dec T_X12_isPlus_ok 1 (1, .bipush 43, 2) rfl) rfl ?_
  refine zx_icmp_eq (pc := 3) (tgt := 12) G rfl (z_dec T_X12_isPlus_ok 2 (3, .if_icmp .eq 9, 3) rfl) (fun hc => ?_) (fun hc => ?_)
  · replace h := z_pos hc h
    refine zx_iconst (pc := 12) (v := 1) G (z_dec T_X12_isPlus_ok 6 (12, .iconst 1, 1) rfl) rfl ?_
    refine zx_goto (pc := 13) (tgt := 17) G rfl (z_dec T_X12_isPlus_ok 7 (13, .goto 4, 3) rfl) ?_
    exact zx_zret (pc := 17) G hr hlk (Nat.le_refl _) (Nat.le_refl _) (Or.inr rfl) (z_dec T_X12_isPlus_ok 9 (17, .ireturn, 1) rfl) ⟨rfl, _, rfl, (Or.inr rfl), h⟩
  · replace h := z_neg hc h
    refine zx_iload_n (pc := 6) G 0 rfl rfl (z_dec T_X12_isPlus_ok 3 (6, .iload_n 0, 1) rfl) ?_
    refine zx_bipush (pc := 7) (v := 45) G (z_dec T_X12_isPlus_ok 4 (7, .bipush 45, 2) rfl) rfl ?_
    refine zx_icmp_ne (pc := 9) (tgt := 16) G rfl (z_dec T_X12_isPlus_ok 5 (9, .if_icmp .ne 7, 3) rfl) (fun hc => ?_) (fun hc => ?_)
    · replace h := z_neg hc h
      refine zx_iconst (pc := 16) (v := 0) G (z_dec T_X12_isPlus_ok 8 (16, .iconst 0, 1) rfl) rfl ?_
      exact zx_zret (pc := 17) G hr hlk (Nat.le_refl _) (Nat.le_refl _) (Or.inl rfl) (z_dec T_X12_isPlus_ok 9 (17, .ireturn, 1) rfl) ⟨rfl, _, rfl, (Or.inl rfl), h⟩
    · replace h := z_pos hc h
      refine zx_iconst (pc := 12) (v := 1) G (z_dec T_X12_isPlus_ok 6 (12, .iconst 1, 1) rfl) rfl ?_
      refine zx_goto (pc := 13) (tgt := 17) G rfl (z_dec T_X12_isPlus_ok 7 (13, .goto 4, 3) rfl) ?_
      exact zx_zret (pc := 17) G hr hlk (Nat.le_refl _) (Nat.le_refl _) (Or.inr rfl) (z_dec T_X12_isPlus_ok 9 (17, .ireturn, 1) rfl) ⟨rfl, _, rfl, (Or.inr rfl), h⟩
abbrev rm_X12_isSign : Room := { frames := 0, cells := 0, slots := 0, locals := 0 }
set_option maxRecDepth 100000 in
set_option maxHeartbeats 4000000 in
theorem met_X12_isSign (l : Launch) (D : va_G) (ρ : z_A) (kd : z_K) (q : z_Q) (μ : z_M) (sz : Nat) (a1 : Int32) (K : Int32 → z_M → Prop) (hI : z_I kd q) (h : C_X12_isSign a1 μ K) : Met l yX12_isSign (z_ws yX12_isSign cX12_isSign 1 (Option.some Jvm.ClassFile.FieldType.boolean)) rm_X12_isSign (z_Pc D ρ kd q μ sz [.int (a1)]) (z_Qn D (z_Rg ρ sz) ρ kd (z_Kz q K)) 0 0 (z_Rg ρ sz) := by
  refine z_met (rm := rm_X12_isSign) (by decide) (Nat.le_of_ble_eq_true rfl) (fun p e s m args below meth c G hr hlk => ?_)
  unfold C_X12_isSign at h
  show z_X _ _ _ _ _ _ _ _ _ _ _ _ _ _ _ _ _ _ _ _ _ [(0, .int (a1))] _
  refine zx_iload_n (pc := 0) G 0 rfl rfl (z_dec T_X12_isSign_ok 0 (0, .iload_n 0, 1) rfl) ?_
  refine zx_bipush (pc := 1) (v := 60) G (z_dec T_X12_isSign_ok 1 (1, .bipush 60, 2) rfl) rfl ?_
  refine zx_icmp_eq (pc := 3) (tgt := 18) G rfl (z_dec T_X12_isSign_ok 2 (3, .if_icmp .eq 15, 3) rfl) (fun hc => ?_) (fun hc => ?_)
  · replace h := z_pos hc h
    refine zx_iconst (pc := 18) (v := 1) G (z_dec T_X12_isSign_ok 9 (18, .iconst 1, 1) rfl) rfl ?_
    refine zx_goto (pc := 19) (tgt := 23) G rfl (z_dec T_X12_isSign_ok 10 (19, .goto 4, 3) rfl) ?_
    exact zx_zret (pc := 23) G hr hlk (Nat.le_refl _) (Nat.le_refl _) (Or.inr rfl) (z_dec T_X12_isSign_ok 12 (23, .ireturn, 1) rfl) ⟨rfl, _, rfl, (Or.inr rfl), h⟩
  · replace h := z_neg hc h
    refine zx_iload_n (pc := 6) G 0 rfl rfl (z_dec T_X12_isSign_ok 3 (6, .iload_n 0, 1) rfl) ?_
    refine zx_bipush (pc := 7) (v := 62) G (z_dec T_X12_isSign_ok 4 (7, .bipush 62, 2) rfl) rfl ?_
    refine zx_icmp_eq (pc := 9) (tgt := 18) G rfl (z_dec T_X12_isSign_ok 5 (9, .if_icmp .eq 9, 3) rfl) (fun hc => ?_) (fun hc => ?_)
    · replace h := z_pos hc h
      refine zx_iconst (pc := 18) (v := 1) G (z_dec T_X12_isSign_ok 9 (18, .iconst 1, 1) rfl) rfl ?_
      refine zx_goto (pc := 19) (tgt := 23) G rfl (z_dec T_X12_isSign_ok 10 (19, .goto 4, 3) rfl) ?_
      exact zx_zret (pc := 23) G hr hlk (Nat.le_refl _) (Nat.le_refl _) (Or.inr rfl) (z_dec T_X12_isSign_ok 12 (23, .ireturn, 1) rfl) ⟨rfl, _, rfl, (Or.inr rfl), h⟩
    · replace h := z_neg hc h
      refine zx_iload_n (pc := 12) G 0 rfl rfl (z_dec T_X12_isSign_ok 6 (12, .iload_n 0, 1) rfl) ?_
      refine zx_bipush (pc := 13) (v := 61) G (z_dec T_X12_isSign_ok 7 (13, .bipush 61, 2) rfl) rfl ?_
      refine zx_icmp_ne (pc := 15) (tgt := 22) G rfl (z_dec T_X12_isSign_ok 8 (15, .if_icmp .ne 7, 3) rfl) (fun hc => ?_) (fun hc => ?_)
      · replace h := z_neg hc h
        refine zx_iconst (pc := 22) (v := 0) G (z_dec T_X12_isSign_ok 11 (22, .iconst 0, 1) rfl) rfl ?_
        exact zx_zret (pc := 23) G hr hlk (Nat.le_refl _) (Nat.le_refl _) (Or.inl rfl) (z_dec T_X12_isSign_ok 12 (23, .ireturn, 1) rfl) ⟨rfl, _, rfl, (Or.inl rfl), h⟩
      · replace h := z_pos hc h
        refine zx_iconst (pc := 18) (v := 1) G (z_dec T_X12_isSign_ok 9 (18, .iconst 1, 1) rfl) rfl ?_
        refine zx_goto (pc := 19) (tgt := 23) G rfl (z_dec T_X12_isSign_ok 10 (19, .goto 4, 3) rfl) ?_
        exact zx_zret (pc := 23) G hr hlk (Nat.le_refl _) (Nat.le_refl _) (Or.inr rfl) (z_dec T_X12_isSign_ok 12 (23, .ireturn, 1) rfl) ⟨rfl, _, rfl, (Or.inr rfl), h⟩
abbrev rm_X12_isValue : Room := { frames := 0, cells := 0, slots := 0, locals := 0 }
set_option maxRecDepth 100000 in
set_option maxHeartbeats 4000000 in
theorem met_X12_isValue (l : Launch) (D : va_G) (ρ : z_A) (kd : z_K) (q : z_Q) (μ : z_M) (sz : Nat) (a1 : Int32) (K : Int32 → z_M → Prop) (hI : z_I kd q) (h : C_X12_isValue a1 μ K) : Met l yX12_isValue (z_ws yX12_isValue cX12_isValue 1 (Option.some Jvm.ClassFile.FieldType.boolean)) rm_X12_isValue (z_Pc D ρ kd q μ sz [.int (a1)]) (z_Qn D (z_Rg ρ sz) ρ kd (z_Kz q K)) 0 0 (z_Rg ρ sz) := by
  refine z_met (rm := rm_X12_isValue) (by decide) (Nat.le_of_ble_eq_true rfl) (fun p e s m args below meth c G hr hlk => ?_)
  unfold C_X12_isValue at h
  show z_X _ _ _ _ _ _ _ _ _ _ _ _ _ _ _ _ _ _ _ _ _ [(0, .int (a1))] _
  refine zx_iload_n (pc := 0) G 0 rfl rfl (z_dec T_X12_isValue_ok 0 (0, .iload_n 0, 1) rfl) ?_
  refine zx_bipush (pc := 1) (v := 104) G (z_dec T_X12_isValue_ok 1 (1, .bipush 104, 2) rfl) rfl ?_
  refine zx_icmp_eq (pc := 3) (tgt := 54) G rfl (z_dec T_X12_isValue_ok 2 (3, .if_icmp .eq 51, 3) rfl) (fun hc => ?_) (fun hc => ?_)
  · replace h := z_pos hc h
    refine zx_iconst (pc := 54) (v := 1) G (z_dec T_X12_isValue_ok 27 (54, .iconst 1, 1) rfl) rfl ?_
    refine zx_goto (pc := 55) (tgt := 59) G rfl (z_dec T_X12_isValue_ok 28 (55, .goto 4, 3) rfl) ?_
    exact zx_zret (pc := 59) G hr hlk (Nat.le_refl _) (Nat.le_refl _) (Or.inr rfl) (z_dec T_X12_isValue_ok 30 (59, .ireturn, 1) rfl) ⟨rfl, _, rfl, (Or.inr rfl), h⟩
  · replace h := z_neg hc h
    refine zx_iload_n (pc := 6) G 0 rfl rfl (z_dec T_X12_isValue_ok 3 (6, .iload_n 0, 1) rfl) ?_
    refine zx_bipush (pc := 7) (v := 105) G (z_dec T_X12_isValue_ok 4 (7, .bipush 105, 2) rfl) rfl ?_
    refine zx_icmp_eq (pc := 9) (tgt := 54) G rfl (z_dec T_X12_isValue_ok 5 (9, .if_icmp .eq 45, 3) rfl) (fun hc => ?_) (fun hc => ?_)
    · replace h := z_pos hc h
      refine zx_iconst (pc := 54) (v := 1) G (z_dec T_X12_isValue_ok 27 (54, .iconst 1, 1) rfl) rfl ?_
      refine zx_goto (pc := 55) (tgt := 59) G rfl (z_dec T_X12_isValue_ok 28 (55, .goto 4, 3) rfl) ?_
      exact zx_zret (pc := 59) G hr hlk (Nat.le_refl _) (Nat.le_refl _) (Or.inr rfl) (z_dec T_X12_isValue_ok 30 (59, .ireturn, 1) rfl) ⟨rfl, _, rfl, (Or.inr rfl), h⟩
    · replace h := z_neg hc h
      refine zx_iload_n (pc := 12) G 0 rfl rfl (z_dec T_X12_isValue_ok 6 (12, .iload_n 0, 1) rfl) ?_
      refine zx_bipush (pc := 13) (v := 107) G (z_dec T_X12_isValue_ok 7 (13, .bipush 107, 2) rfl) rfl ?_
      refine zx_icmp_eq (pc := 15) (tgt := 54) G rfl (z_dec T_X12_isValue_ok 8 (15, .if_icmp .eq 39, 3) rfl) (fun hc => ?_) (fun hc => ?_)
      · replace h := z_pos hc h
        refine zx_iconst (pc := 54) (v := 1) G (z_dec T_X12_isValue_ok 27 (54, .iconst 1, 1) rfl) rfl ?_
        refine zx_goto (pc := 55) (tgt := 59) G rfl (z_dec T_X12_isValue_ok 28 (55, .goto 4, 3) rfl) ?_
        exact zx_zret (pc := 59) G hr hlk (Nat.le_refl _) (Nat.le_refl _) (Or.inr rfl) (z_dec T_X12_isValue_ok 30 (59, .ireturn, 1) rfl) ⟨rfl, _, rfl, (Or.inr rfl), h⟩
      · replace h := z_neg hc h
        refine zx_iload_n (pc := 18) G 0 rfl rfl (z_dec T_X12_isValue_ok 9 (18, .iload_n 0, 1) rfl) ?_
        refine zx_bipush (pc := 19) (v := 122) G (z_dec T_X12_isValue_ok 10 (19, .bipush 122, 2) rfl) rfl ?_
        refine zx_icmp_eq (pc := 21) (tgt := 54) G rfl (z_dec T_X12_isValue_ok 11 (21, .if_icmp .eq 33, 3) rfl) (fun hc => ?_) (fun hc => ?_)
        · replace h := z_pos hc h
          refine zx_iconst (pc := 54) (v := 1) G (z_dec T_X12_isValue_ok 27 (54, .iconst 1, 1) rfl) rfl ?_
          refine zx_goto (pc := 55) (tgt := 59) G rfl (z_dec T_X12_isValue_ok 28 (55, .goto 4, 3) rfl) ?_
          exact zx_zret (pc := 59) G hr hlk (Nat.le_refl _) (Nat.le_refl _) (Or.inr rfl) (z_dec T_X12_isValue_ok 30 (59, .ireturn, 1) rfl) ⟨rfl, _, rfl, (Or.inr rfl), h⟩
        · replace h := z_neg hc h
          refine zx_iload_n (pc := 24) G 0 rfl rfl (z_dec T_X12_isValue_ok 12 (24, .iload_n 0, 1) rfl) ?_
          refine zx_bipush (pc := 25) (v := 109) G (z_dec T_X12_isValue_ok 13 (25, .bipush 109, 2) rfl) rfl ?_
          refine zx_icmp_eq (pc := 27) (tgt := 54) G rfl (z_dec T_X12_isValue_ok 14 (27, .if_icmp .eq 27, 3) rfl) (fun hc => ?_) (fun hc => ?_)
          · replace h := z_pos hc h
            refine zx_iconst (pc := 54) (v := 1) G (z_dec T_X12_isValue_ok 27 (54, .iconst 1, 1) rfl) rfl ?_
            refine zx_goto (pc := 55) (tgt := 59) G rfl (z_dec T_X12_isValue_ok 28 (55, .goto 4, 3) rfl) ?_
            exact zx_zret (pc := 59) G hr hlk (Nat.le_refl _) (Nat.le_refl _) (Or.inr rfl) (z_dec T_X12_isValue_ok 30 (59, .ireturn, 1) rfl) ⟨rfl, _, rfl, (Or.inr rfl), h⟩
          · replace h := z_neg hc h
            refine zx_iload_n (pc := 30) G 0 rfl rfl (z_dec T_X12_isValue_ok 15 (30, .iload_n 0, 1) rfl) ?_
            refine zx_bipush (pc := 31) (v := 113) G (z_dec T_X12_isValue_ok 16 (31, .bipush 113, 2) rfl) rfl ?_
            refine zx_icmp_eq (pc := 33) (tgt := 54) G rfl (z_dec T_X12_isValue_ok 17 (33, .if_icmp .eq 21, 3) rfl) (fun hc => ?_) (fun hc => ?_)
            · replace h := z_pos hc h
              refine zx_iconst (pc := 54) (v := 1) G (z_dec T_X12_isValue_ok 27 (54, .iconst 1, 1) rfl) rfl ?_
              refine zx_goto (pc := 55) (tgt := 59) G rfl (z_dec T_X12_isValue_ok 28 (55, .goto 4, 3) rfl) ?_
              exact zx_zret (pc := 59) G hr hlk (Nat.le_refl _) (Nat.le_refl _) (Or.inr rfl) (z_dec T_X12_isValue_ok 30 (59, .ireturn, 1) rfl) ⟨rfl, _, rfl, (Or.inr rfl), h⟩
            · replace h := z_neg hc h
              refine zx_iload_n (pc := 36) G 0 rfl rfl (z_dec T_X12_isValue_ok 18 (36, .iload_n 0, 1) rfl) ?_
              refine zx_bipush (pc := 37) (v := 116) G (z_dec T_X12_isValue_ok 19 (37, .bipush 116, 2) rfl) rfl ?_
              refine zx_icmp_eq (pc := 39) (tgt := 54) G rfl (z_dec T_X12_isValue_ok 20 (39, .if_icmp .eq 15, 3) rfl) (fun hc => ?_) (fun hc => ?_)
              · replace h := z_pos hc h
                refine zx_iconst (pc := 54) (v := 1) G (z_dec T_X12_isValue_ok 27 (54, .iconst 1, 1) rfl) rfl ?_
                refine zx_goto (pc := 55) (tgt := 59) G rfl (z_dec T_X12_isValue_ok 28 (55, .goto 4, 3) rfl) ?_
                exact zx_zret (pc := 59) G hr hlk (Nat.le_refl _) (Nat.le_refl _) (Or.inr rfl) (z_dec T_X12_isValue_ok 30 (59, .ireturn, 1) rfl) ⟨rfl, _, rfl, (Or.inr rfl), h⟩
              · replace h := z_neg hc h
                refine zx_iload_n (pc := 42) G 0 rfl rfl (z_dec T_X12_isValue_ok 21 (42, .iload_n 0, 1) rfl) ?_
                refine zx_bipush (pc := 43) (v := 110) G (z_dec T_X12_isValue_ok 22 (43, .bipush 110, 2) rfl) rfl ?_
                refine zx_icmp_eq (pc := 45) (tgt := 54) G rfl (z_dec T_X12_isValue_ok 23 (45, .if_icmp .eq 9, 3) rfl) (fun hc => ?_) (fun hc => ?_)
                · replace h := z_pos hc h
                  refine zx_iconst (pc := 54) (v := 1) G (z_dec T_X12_isValue_ok 27 (54, .iconst 1, 1) rfl) rfl ?_
                  refine zx_goto (pc := 55) (tgt := 59) G rfl (z_dec T_X12_isValue_ok 28 (55, .goto 4, 3) rfl) ?_
                  exact zx_zret (pc := 59) G hr hlk (Nat.le_refl _) (Nat.le_refl _) (Or.inr rfl) (z_dec T_X12_isValue_ok 30 (59, .ireturn, 1) rfl) ⟨rfl, _, rfl, (Or.inr rfl), h⟩
                · replace h := z_neg hc h
                  refine zx_iload_n (pc := 48) G 0 rfl rfl (z_dec T_X12_isValue_ok 24 (48, .iload_n 0, 1) rfl) ?_
                  refine zx_bipush (pc := 49) (v := 111) G (z_dec T_X12_isValue_ok 25 (49, .bipush 111, 2) rfl) rfl ?_
                  refine zx_icmp_ne (pc := 51) (tgt := 58) G rfl (z_dec T_X12_isValue_ok 26 (51, .if_icmp .ne 7, 3) rfl) (fun hc => ?_) (fun hc => ?_)
                  · replace h := z_neg hc h
                    refine zx_iconst (pc := 58) (v := 0) G (z_dec T_X12_isValue_ok 29 (58, .iconst 0, 1) rfl) rfl ?_
                    exact zx_zret (pc := 59) G hr hlk (Nat.le_refl _) (Nat.le_refl _) (Or.inl rfl) (z_dec T_X12_isValue_ok 30 (59, .ireturn, 1) rfl) ⟨rfl, _, rfl, (Or.inl rfl), h⟩
                  · replace h := z_pos hc h
                    refine zx_iconst (pc := 54) (v := 1) G (z_dec T_X12_isValue_ok 27 (54, .iconst 1, 1) rfl) rfl ?_
                    refine zx_goto (pc := 55) (tgt := 59) G rfl (z_dec T_X12_isValue_ok 28 (55, .goto 4, 3) rfl) ?_
                    exact zx_zret (pc := 59) G hr hlk (Nat.le_refl _) (Nat.le_refl _) (Or.inr rfl) (z_dec T_X12_isValue_ok 30 (59, .ireturn, 1) rfl) ⟨rfl, _, rfl, (Or.inr rfl), h⟩
abbrev rm_X12_sums : Room := { frames := 2, cells := 0, slots := 0, locals := 42 }
set_option maxRecDepth 100000 in
set_option maxHeartbeats 4000000 in
theorem L_X12_sums_24_ok {p : Program} {l : Launch} {e : Env} {s : State} {m : MethodId} {args : Array Value} {below : List Frame} {meth : Method} {c : Code} {D : va_G} {A : Nat → Prop} {ρ : z_A} {kd : z_K} {q : z_Q} {μ : z_M} {K : z_M → Prop} {P0 : Int32 → z_M → Prop} {v1 : Int32} (G : z_G p c cX12_sums s m args RX12 2 D) (hr : meth.sig.returnType = (Option.none : Option Jvm.ClassFile.FieldType)) (hlk : meth.locks = false) (hP0 : ∀ (v1 : Int32) (μ : z_M), P0 v1 μ → (kd 0 = some (.inl 12)) → ((v1 = 0 ∨ v1 = 1)) → z_X p l e rm_X12_sums s m args below meth c 2 D A (MQ below (z_Qn D A ρ kd (z_Kv q K)) args s 0 0 A) 0 0 ρ kd q μ 0 [(0, .ref (0)), (1, .int (v1))] []) (hI : z_I kd q) (f_l0 : kd 0 = some (.inl 12)) (f_l1 : (v1 = 0 ∨ v1 = 1)) (h : L_X12_sums_24 K P0 v1 μ) : z_X p l e rm_X12_sums s m args below meth c 2 D A (MQ below (z_Qn D A ρ kd (z_Kv q K)) args s 0 0 A) 0 0 ρ kd q μ 24 [(0, .ref (0)), (1, .int (v1))] [] := by
    unfold L_X12_sums_24 at h
    refine zx_aload_n (pc := 24) G (some (0)) 0 rfl rfl (z_dec T_X12_sums_ok 10 (24, .aload_n 0, 1) rfl) ?_
    refine zx_aload_n (pc := 25) G (some (0)) 0 rfl rfl (z_dec T_X12_sums_ok 11 (25, .aload_n 0, 1) rfl) ?_
    refine zx_callV_iN (pc := 26) (rm := rm_X12_top) G cw_RX12_300 ⟨Nat.le_of_ble_eq_true rfl, Nat.le_of_ble_eq_true rfl⟩ rfl rfl ⟨Nat.zero_le _, Nat.zero_le _⟩ f_l0 rfl (fun sz => (met_X12_top l D ρ kd q μ sz  _ hI f_l0 h)) rfl rfl (Nat.le_of_ble_eq_true rfl) (z_dec T_X12_sums_ok 12 (26, .invokevirtual 300, 3) rfl) (fun r2 μ1 hn => ?_)
    clear h
    have h := hn
    clear hn
    refine zx_iconst (pc := 29) (v := 0) G (z_dec T_X12_sums_ok 13 (29, .iconst 0, 1) rfl) rfl ?_
    refine zx_callV_vN (pc := 30) (rm := rm_X12_emit) G cw_RX12_309 ⟨Nat.le_of_ble_eq_true rfl, Nat.le_of_ble_eq_true rfl⟩ rfl rfl ⟨Nat.zero_le _, Nat.zero_le _⟩ f_l0 rfl (fun sz => (met_X12_emit l D ρ kd q μ1 sz r2 ((0 : Int32)) _ hI f_l0 h)) rfl rfl (Nat.le_of_ble_eq_true rfl) (z_dec T_X12_sums_ok 14 (30, .invokevirtual 309, 3) rfl) (fun μ3 hn => ?_)
    clear h
    have h := hn
    clear hn
    refine zx_aload_n (pc := 33) G (some (0)) 0 rfl rfl (z_dec T_X12_sums_ok 15 (33, .aload_n 0, 1) rfl) ?_
    refine zx_dup (pc := 34) G rfl (z_dec T_X12_sums_ok 16 (34, .dup, 1) rfl) ?_
    refine zx_getI (pc := 35) G gf_RX12_277 rfl f_l0 (z_dec T_X12_sums_ok 17 (35, .getfield 277, 3) rfl) ?_
    refine zx_iconst (pc := 38) (v := 1) G (z_dec T_X12_sums_ok 18 (38, .iconst 1, 1) rfl) rfl ?_
    refine zx_isub (pc := 39) G  (z_dec T_X12_sums_ok 19 (39, .isub, 1) rfl) ?_
    refine zx_putI (pc := 40) G gf_RX12_277 cf_12 rfl rfl f_l0 (z_dec T_X12_sums_ok 20 (40, .putfield 277, 3) rfl) ?_
    refine zx_goto (pc := 43) (tgt := 0) G rfl (z_dec T_X12_sums_ok 21 (43, .goto (-43), 3) rfl) ?_
    exact hP0 _ _ h f_l0 f_l1
set_option maxRecDepth 100000 in
set_option maxHeartbeats 4000000 in
theorem B_X12_sums_0_ok {p : Program} {l : Launch} {e : Env} {s : State} {m : MethodId} {args : Array Value} {below : List Frame} {meth : Method} {c : Code} {D : va_G} {A : Nat → Prop} {ρ : z_A} {kd : z_K} {q : z_Q} {μ : z_M} {K : z_M → Prop} {P0 : Int32 → z_M → Prop} {v1 : Int32} (G : z_G p c cX12_sums s m args RX12 2 D) (hr : meth.sig.returnType = (Option.none : Option Jvm.ClassFile.FieldType)) (hlk : meth.locks = false) (hP0 : ∀ (v1 : Int32) (μ : z_M), P0 v1 μ → (kd 0 = some (.inl 12)) → ((v1 = 0 ∨ v1 = 1)) → z_X p l e rm_X12_sums s m args below meth c 2 D A (MQ below (z_Qn D A ρ kd (z_Kv q K)) args s 0 0 A) 0 0 ρ kd q μ 0 [(0, .ref (0)), (1, .int (v1))] []) (hI : z_I kd q) (f_l0 : kd 0 = some (.inl 12)) (f_l1 : (v1 = 0 ∨ v1 = 1)) (h : B_X12_sums_0 K P0 v1 μ) : z_X p l e rm_X12_sums s m args below meth c 2 D A (MQ below (z_Qn D A ρ kd (z_Kv q K)) args s 0 0 A) 0 0 ρ kd q μ 0 [(0, .ref (0)), (1, .int (v1))] [] := by
    unfold B_X12_sums_0 at h
    refine zx_aload_n (pc := 0) G (some (0)) 0 rfl rfl (z_dec T_X12_sums_ok 0 (0, .aload_n 0, 1) rfl) ?_
    refine zx_callV_iN (pc := 1) (rm := rm_X12_top) G cw_RX12_300 ⟨Nat.le_of_ble_eq_true rfl, Nat.le_of_ble_eq_true rfl⟩ rfl rfl ⟨Nat.zero_le _, Nat.zero_le _⟩ f_l0 rfl (fun sz => (met_X12_top l D ρ kd q μ sz  _ hI f_l0 h)) rfl rfl (Nat.le_of_ble_eq_true rfl) (z_dec T_X12_sums_ok 1 (1, .invokevirtual 300, 3) rfl) (fun r2 μ1 hn => ?_)
    clear h
    have h := hn
    clear hn
    refine zx_callS_zN (pc := 4) (rm := rm_X12_isTimes) G cw_RX12_303 ⟨Nat.le_of_ble_eq_true rfl, Nat.le_of_ble_eq_true rfl⟩ rfl rfl ⟨Nat.zero_le _, Nat.zero_le _⟩ (fun sz => (met_X12_isTimes l D ρ kd q μ1 sz r2 _ hI h)) rfl rfl (Nat.le_of_ble_eq_true rfl) (z_dec T_X12_sums_ok 2 (4, .invokestatic 303, 3) rfl) (fun r4 μ3 hzr4 hn => ?_)
    clear h
    have h := hn
    clear hn
    refine zx_if_ne (pc := 7) (tgt := 24) G rfl (z_dec T_X12_sums_ok 3 (7, .ifCond .ne 17, 3) rfl) (fun hc => ?_) (fun hc => ?_)
    · replace h := z_neg hc h
      exact L_X12_sums_24_ok G hr hlk hP0 hI f_l0 f_l1 h
    · replace h := z_pos hc h
      refine zx_iload_n (pc := 10) G 1 rfl rfl (z_dec T_X12_sums_ok 4 (10, .iload_n 1, 1) rfl) ?_
      refine zx_if_eq (pc := 11) (tgt := 46) G rfl (z_dec T_X12_sums_ok 5 (11, .ifCond .eq 35, 3) rfl) (fun hc => ?_) (fun hc => ?_)
      · replace h := z_pos hc h
        exact zx_vret (pc := 46) G hr hlk (Nat.le_refl _) (Nat.le_refl _) (z_dec T_X12_sums_ok 22 (46, .return_, 1) rfl) ⟨rfl, rfl, h⟩
      · replace h := z_neg hc h
        refine zx_aload_n (pc := 14) G (some (0)) 0 rfl rfl (z_dec T_X12_sums_ok 6 (14, .aload_n 0, 1) rfl) ?_
        refine zx_callV_iN (pc := 15) (rm := rm_X12_top) G cw_RX12_300 ⟨Nat.le_of_ble_eq_true rfl, Nat.le_of_ble_eq_true rfl⟩ rfl rfl ⟨Nat.zero_le _, Nat.zero_le _⟩ f_l0 rfl (fun sz => (met_X12_top l D ρ kd q μ3 sz  _ hI f_l0 h)) rfl rfl (Nat.le_of_ble_eq_true rfl) (z_dec T_X12_sums_ok 7 (15, .invokevirtual 300, 3) rfl) (fun r6 μ5 hn => ?_)
        clear h
        have h := hn
        clear hn
        refine zx_callS_zN (pc := 18) (rm := rm_X12_isPlus) G cw_RX12_306 ⟨Nat.le_of_ble_eq_true rfl, Nat.le_of_ble_eq_true rfl⟩ rfl rfl ⟨Nat.zero_le _, Nat.zero_le _⟩ (fun sz => (met_X12_isPlus l D ρ kd q μ5 sz r6 _ hI h)) rfl rfl (Nat.le_of_ble_eq_true rfl) (z_dec T_X12_sums_ok 8 (18, .invokestatic 306, 3) rfl) (fun r8 μ7 hzr8 hn => ?_)
        clear h
        have h := hn
        clear hn
        refine zx_if_eq (pc := 21) (tgt := 46) G rfl (z_dec T_X12_sums_ok 9 (21, .ifCond .eq 25, 3) rfl) (fun hc => ?_) (fun hc => ?_)
        · replace h := z_pos hc h
          exact zx_vret (pc := 46) G hr hlk (Nat.le_refl _) (Nat.le_refl _) (z_dec T_X12_sums_ok 22 (46, .return_, 1) rfl) ⟨rfl, rfl, h⟩
        · replace h := z_neg hc h
          exact L_X12_sums_24_ok G hr hlk hP0 hI f_l0 f_l1 h
set_option maxRecDepth 100000 in
set_option maxHeartbeats 4000000 in
theorem L_X12_sums_0_ok {p : Program} {l : Launch} {e : Env} {s : State} {m : MethodId} {args : Array Value} {below : List Frame} {meth : Method} {c : Code} {D : va_G} {A : Nat → Prop} {ρ : z_A} {kd : z_K} {q : z_Q} {μ : z_M} {K : z_M → Prop} {v1 : Int32} (G : z_G p c cX12_sums s m args RX12 2 D) (hr : meth.sig.returnType = (Option.none : Option Jvm.ClassFile.FieldType)) (hlk : meth.locks = false) (hI : z_I kd q) (f_l0 : kd 0 = some (.inl 12)) (f_l1 : (v1 = 0 ∨ v1 = 1)) (h : L_X12_sums_0 K v1 μ) : z_X p l e rm_X12_sums s m args below meth c 2 D A (MQ below (z_Qn D A ρ kd (z_Kv q K)) args s 0 0 A) 0 0 ρ kd q μ 0 [(0, .ref (0)), (1, .int (v1))] [] :=
  h (fun (v1 : Int32) (μ : z_M) => (kd 0 = some (.inl 12)) → ((v1 = 0 ∨ v1 = 1)) → z_X p l e rm_X12_sums s m args below meth c 2 D A (MQ below (z_Qn D A ρ kd (z_Kv q K)) args s 0 0 A) 0 0 ρ kd q μ 0 [(0, .ref (0)), (1, .int (v1))] []) (fun v1 μ h f_l0 f_l1 => B_X12_sums_0_ok G hr hlk (fun _ _ h => h) hI f_l0 f_l1 h) f_l0 f_l1
set_option maxRecDepth 100000 in
set_option maxHeartbeats 4000000 in
theorem met_X12_sums (l : Launch) (D : va_G) (ρ : z_A) (kd : z_K) (q : z_Q) (μ : z_M) (sz : Nat) (a1 : Int32) (K : z_M → Prop) (hI : z_I kd q) (h_o : kd 0 = some (.inl 12)) (h_a1 : (a1 = 0 ∨ a1 = 1)) (h : C_X12_sums a1 μ K) : Met l yX12_sums (z_ws yX12_sums cX12_sums 2 (Option.none : Option Jvm.ClassFile.FieldType)) rm_X12_sums (z_Pc D ρ kd q μ sz [.ref (0), .int (a1)]) (z_Qn D (z_Rg ρ sz) ρ kd (z_Kv q K)) 0 0 (z_Rg ρ sz) := by
  refine z_met (rm := rm_X12_sums) (by decide) (Nat.le_of_ble_eq_true rfl) (fun p e s m args below meth c G hr hlk => ?_)
  unfold C_X12_sums at h
  show z_X _ _ _ _ _ _ _ _ _ _ _ _ _ _ _ _ _ _ _ _ _ [(0, .ref (0)), (1, .int (a1))] _
  exact L_X12_sums_0_ok G hr hlk hI h_o h_a1 h
abbrev rm_X12_joins : Room := { frames := 2, cells := 0, slots := 0, locals := 42 }
set_option maxRecDepth 100000 in
set_option maxHeartbeats 4000000 in
theorem L_X12_joins_22_ok {p : Program} {l : Launch} {e : Env} {s : State} {m : MethodId} {args : Array Value} {below : List Frame} {meth : Method} {c : Code} {D : va_G} {A : Nat → Prop} {ρ : z_A} {kd : z_K} {q : z_Q} {μ : z_M} {K : z_M → Prop} {P0 : Int32 → z_M → Prop} {v1 : Int32} (G : z_G p c cX12_joins s m args RX12 2 D) (hr : meth.sig.returnType = (Option.none : Option Jvm.ClassFile.FieldType)) (hlk : meth.locks = false) (hP0 : ∀ (v1 : Int32) (μ : z_M), P0 v1 μ → (kd 0 = some (.inl 12)) → ((v1 = 0 ∨ v1 = 1)) → z_X p l e rm_X12_joins s m args below meth c 2 D A (MQ below (z_Qn D A ρ kd (z_Kv q K)) args s 0 0 A) 0 0 ρ kd q μ 0 [(0, .ref (0)), (1, .int (v1))] []) (hI : z_I kd q) (f_l0 : kd 0 = some (.inl 12)) (f_l1 : (v1 = 0 ∨ v1 = 1)) (h : L_X12_joins_22 K P0 v1 μ) : z_X p l e rm_X12_joins s m args below meth c 2 D A (MQ below (z_Qn D A ρ kd (z_Kv q K)) args s 0 0 A) 0 0 ρ kd q μ 22 [(0, .ref (0)), (1, .int (v1))] [] := by
    unfold L_X12_joins_22 at h
    refine zx_aload_n (pc := 22) G (some (0)) 0 rfl rfl (z_dec T_X12_joins_ok 10 (22, .aload_n 0, 1) rfl) ?_
    refine zx_aload_n (pc := 23) G (some (0)) 0 rfl rfl (z_dec T_X12_joins_ok 11 (23, .aload_n 0, 1) rfl) ?_
    refine zx_callV_iN (pc := 24) (rm := rm_X12_top) G cw_RX12_300 ⟨Nat.le_of_ble_eq_true rfl, Nat.le_of_ble_eq_true rfl⟩ rfl rfl ⟨Nat.zero_le _, Nat.zero_le _⟩ f_l0 rfl (fun sz => (met_X12_top l D ρ kd q μ sz  _ hI f_l0 h)) rfl rfl (Nat.le_of_ble_eq_true rfl) (z_dec T_X12_joins_ok 12 (24, .invokevirtual 300, 3) rfl) (fun r2 μ1 hn => ?_)
    clear h
    have h := hn
    clear hn
    refine zx_iconst (pc := 27) (v := 0) G (z_dec T_X12_joins_ok 13 (27, .iconst 0, 1) rfl) rfl ?_
    refine zx_callV_vN (pc := 28) (rm := rm_X12_emit) G cw_RX12_309 ⟨Nat.le_of_ble_eq_true rfl, Nat.le_of_ble_eq_true rfl⟩ rfl rfl ⟨Nat.zero_le _, Nat.zero_le _⟩ f_l0 rfl (fun sz => (met_X12_emit l D ρ kd q μ1 sz r2 ((0 : Int32)) _ hI f_l0 h)) rfl rfl (Nat.le_of_ble_eq_true rfl) (z_dec T_X12_joins_ok 14 (28, .invokevirtual 309, 3) rfl) (fun μ3 hn => ?_)
    clear h
    have h := hn
    clear hn
    refine zx_aload_n (pc := 31) G (some (0)) 0 rfl rfl (z_dec T_X12_joins_ok 15 (31, .aload_n 0, 1) rfl) ?_
    refine zx_dup (pc := 32) G rfl (z_dec T_X12_joins_ok 16 (32, .dup, 1) rfl) ?_
    refine zx_getI (pc := 33) G gf_RX12_277 rfl f_l0 (z_dec T_X12_joins_ok 17 (33, .getfield 277, 3) rfl) ?_
    refine zx_iconst (pc := 36) (v := 1) G (z_dec T_X12_joins_ok 18 (36, .iconst 1, 1) rfl) rfl ?_
    refine zx_isub (pc := 37) G  (z_dec T_X12_joins_ok 19 (37, .isub, 1) rfl) ?_
    refine zx_putI (pc := 38) G gf_RX12_277 cf_12 rfl rfl f_l0 (z_dec T_X12_joins_ok 20 (38, .putfield 277, 3) rfl) ?_
    refine zx_goto (pc := 41) (tgt := 0) G rfl (z_dec T_X12_joins_ok 21 (41, .goto (-41), 3) rfl) ?_
    exact hP0 _ _ h f_l0 f_l1
set_option maxRecDepth 100000 in
set_option maxHeartbeats 4000000 in
theorem B_X12_joins_0_ok {p : Program} {l : Launch} {e : Env} {s : State} {m : MethodId} {args : Array Value} {below : List Frame} {meth : Method} {c : Code} {D : va_G} {A : Nat → Prop} {ρ : z_A} {kd : z_K} {q : z_Q} {μ : z_M} {K : z_M → Prop} {P0 : Int32 → z_M → Prop} {v1 : Int32} (G : z_G p c cX12_joins s m args RX12 2 D) (hr : meth.sig.returnType = (Option.none : Option Jvm.ClassFile.FieldType)) (hlk : meth.locks = false) (hP0 : ∀ (v1 : Int32) (μ : z_M), P0 v1 μ → (kd 0 = some (.inl 12)) → ((v1 = 0 ∨ v1 = 1)) → z_X p l e rm_X12_joins s m args below meth c 2 D A (MQ below (z_Qn D A ρ kd (z_Kv q K)) args s 0 0 A) 0 0 ρ kd q μ 0 [(0, .ref (0)), (1, .int (v1))] []) (hI : z_I kd q) (f_l0 : kd 0 = some (.inl 12)) (f_l1 : (v1 = 0 ∨ v1 = 1)) (h : B_X12_joins_0 K P0 v1 μ) : z_X p l e rm_X12_joins s m args below meth c 2 D A (MQ below (z_Qn D A ρ kd (z_Kv q K)) args s 0 0 A) 0 0 ρ kd q μ 0 [(0, .ref (0)), (1, .int (v1))] [] := by
    unfold B_X12_joins_0 at h
    refine zx_aload_n (pc := 0) G (some (0)) 0 rfl rfl (z_dec T_X12_joins_ok 0 (0, .aload_n 0, 1) rfl) ?_
    refine zx_callV_iN (pc := 1) (rm := rm_X12_top) G cw_RX12_300 ⟨Nat.le_of_ble_eq_true rfl, Nat.le_of_ble_eq_true rfl⟩ rfl rfl ⟨Nat.zero_le _, Nat.zero_le _⟩ f_l0 rfl (fun sz => (met_X12_top l D ρ kd q μ sz  _ hI f_l0 h)) rfl rfl (Nat.le_of_ble_eq_true rfl) (z_dec T_X12_joins_ok 1 (1, .invokevirtual 300, 3) rfl) (fun r2 μ1 hn => ?_)
    clear h
    have h := hn
    clear hn
    refine zx_bipush (pc := 4) (v := 38) G (z_dec T_X12_joins_ok 2 (4, .bipush 38, 2) rfl) rfl ?_
    refine zx_icmp_eq (pc := 6) (tgt := 22) G rfl (z_dec T_X12_joins_ok 3 (6, .if_icmp .eq 16, 3) rfl) (fun hc => ?_) (fun hc => ?_)
    · replace h := z_pos hc h
      exact L_X12_joins_22_ok G hr hlk hP0 hI f_l0 f_l1 h
    · replace h := z_neg hc h
      refine zx_iload_n (pc := 9) G 1 rfl rfl (z_dec T_X12_joins_ok 4 (9, .iload_n 1, 1) rfl) ?_
      refine zx_if_eq (pc := 10) (tgt := 44) G rfl (z_dec T_X12_joins_ok 5 (10, .ifCond .eq 34, 3) rfl) (fun hc => ?_) (fun hc => ?_)
      · replace h := z_pos hc h
        exact zx_vret (pc := 44) G hr hlk (Nat.le_refl _) (Nat.le_refl _) (z_dec T_X12_joins_ok 22 (44, .return_, 1) rfl) ⟨rfl, rfl, h⟩
      · replace h := z_neg hc h
        refine zx_aload_n (pc := 13) G (some (0)) 0 rfl rfl (z_dec T_X12_joins_ok 6 (13, .aload_n 0, 1) rfl) ?_
        refine zx_callV_iN (pc := 14) (rm := rm_X12_top) G cw_RX12_300 ⟨Nat.le_of_ble_eq_true rfl, Nat.le_of_ble_eq_true rfl⟩ rfl rfl ⟨Nat.zero_le _, Nat.zero_le _⟩ f_l0 rfl (fun sz => (met_X12_top l D ρ kd q μ1 sz  _ hI f_l0 h)) rfl rfl (Nat.le_of_ble_eq_true rfl) (z_dec T_X12_joins_ok 7 (14, .invokevirtual 300, 3) rfl) (fun r4 μ3 hn => ?_)
        clear h
        have h := hn
        clear hn
        refine zx_bipush (pc := 17) (v := 124) G (z_dec T_X12_joins_ok 8 (17, .bipush 124, 2) rfl) rfl ?_
        refine zx_icmp_ne (pc := 19) (tgt := 44) G rfl (z_dec T_X12_joins_ok 9 (19, .if_icmp .ne 25, 3) rfl) (fun hc => ?_) (fun hc => ?_)
        · replace h := z_neg hc h
          exact zx_vret (pc := 44) G hr hlk (Nat.le_refl _) (Nat.le_refl _) (z_dec T_X12_joins_ok 22 (44, .return_, 1) rfl) ⟨rfl, rfl, h⟩
        · replace h := z_pos hc h
          exact L_X12_joins_22_ok G hr hlk hP0 hI f_l0 f_l1 h
set_option maxRecDepth 100000 in
set_option maxHeartbeats 4000000 in
theorem L_X12_joins_0_ok {p : Program} {l : Launch} {e : Env} {s : State} {m : MethodId} {args : Array Value} {below : List Frame} {meth : Method} {c : Code} {D : va_G} {A : Nat → Prop} {ρ : z_A} {kd : z_K} {q : z_Q} {μ : z_M} {K : z_M → Prop} {v1 : Int32} (G : z_G p c cX12_joins s m args RX12 2 D) (hr : meth.sig.returnType = (Option.none : Option Jvm.ClassFile.FieldType)) (hlk : meth.locks = false) (hI : z_I kd q) (f_l0 : kd 0 = some (.inl 12)) (f_l1 : (v1 = 0 ∨ v1 = 1)) (h : L_X12_joins_0 K v1 μ) : z_X p l e rm_X12_joins s m args below meth c 2 D A (MQ below (z_Qn D A ρ kd (z_Kv q K)) args s 0 0 A) 0 0 ρ kd q μ 0 [(0, .ref (0)), (1, .int (v1))] [] :=
  h (fun (v1 : Int32) (μ : z_M) => (kd 0 = some (.inl 12)) → ((v1 = 0 ∨ v1 = 1)) → z_X p l e rm_X12_joins s m args below meth c 2 D A (MQ below (z_Qn D A ρ kd (z_Kv q K)) args s 0 0 A) 0 0 ρ kd q μ 0 [(0, .ref (0)), (1, .int (v1))] []) (fun v1 μ h f_l0 f_l1 => B_X12_joins_0_ok G hr hlk (fun _ _ h => h) hI f_l0 f_l1 h) f_l0 f_l1
set_option maxRecDepth 100000 in
set_option maxHeartbeats 4000000 in
theorem met_X12_joins (l : Launch) (D : va_G) (ρ : z_A) (kd : z_K) (q : z_Q) (μ : z_M) (sz : Nat) (a1 : Int32) (K : z_M → Prop) (hI : z_I kd q) (h_o : kd 0 = some (.inl 12)) (h_a1 : (a1 = 0 ∨ a1 = 1)) (h : C_X12_joins a1 μ K) : Met l yX12_joins (z_ws yX12_joins cX12_joins 2 (Option.none : Option Jvm.ClassFile.FieldType)) rm_X12_joins (z_Pc D ρ kd q μ sz [.ref (0), .int (a1)]) (z_Qn D (z_Rg ρ sz) ρ kd (z_Kv q K)) 0 0 (z_Rg ρ sz) := by
  refine z_met (rm := rm_X12_joins) (by decide) (Nat.le_of_ble_eq_true rfl) (fun p e s m args below meth c G hr hlk => ?_)
  unfold C_X12_joins at h
  show z_X _ _ _ _ _ _ _ _ _ _ _ _ _ _ _ _ _ _ _ _ _ [(0, .ref (0)), (1, .int (a1))] _
  exact L_X12_joins_0_ok G hr hlk hI h_o h_a1 h
abbrev rm_X12_ends : Room := { frames := 2, cells := 0, slots := 0, locals := 42 }
set_option maxRecDepth 100000 in
set_option maxHeartbeats 4000000 in
theorem B_X12_ends_0_ok {p : Program} {l : Launch} {e : Env} {s : State} {m : MethodId} {args : Array Value} {below : List Frame} {meth : Method} {c : Code} {D : va_G} {A : Nat → Prop} {ρ : z_A} {kd : z_K} {q : z_Q} {μ : z_M} {K : z_M → Prop} {P0 : z_M → Prop} (G : z_G p c cX12_ends s m args RX12 1 D) (hr : meth.sig.returnType = (Option.none : Option Jvm.ClassFile.FieldType)) (hlk : meth.locks = false) (hP0 : ∀ (μ : z_M), P0 μ → (kd 0 = some (.inl 12)) → z_X p l e rm_X12_ends s m args below meth c 1 D A (MQ below (z_Qn D A ρ kd (z_Kv q K)) args s 0 0 A) 0 0 ρ kd q μ 0 [(0, .ref (0))] []) (hI : z_I kd q) (f_l0 : kd 0 = some (.inl 12)) (h : B_X12_ends_0 K P0 μ) : z_X p l e rm_X12_ends s m args below meth c 1 D A (MQ below (z_Qn D A ρ kd (z_Kv q K)) args s 0 0 A) 0 0 ρ kd q μ 0 [(0, .ref (0))] [] := by
    unfold B_X12_ends_0 at h
    refine zx_aload_n (pc := 0) G (some (0)) 0 rfl rfl (z_dec T_X12_ends_ok 0 (0, .aload_n 0, 1) rfl) ?_
    refine zx_callV_iN (pc := 1) (rm := rm_X12_top) G cw_RX12_300 ⟨Nat.le_of_ble_eq_true rfl, Nat.le_of_ble_eq_true rfl⟩ rfl rfl ⟨Nat.zero_le _, Nat.zero_le _⟩ f_l0 rfl (fun sz => (met_X12_top l D ρ kd q μ sz  _ hI f_l0 h)) rfl rfl (Nat.le_of_ble_eq_true rfl) (z_dec T_X12_ends_ok 1 (1, .invokevirtual 300, 3) rfl) (fun r2 μ1 hn => ?_)
    clear h
    have h := hn
    clear hn
    refine zx_bipush (pc := 4) (v := 33) G (z_dec T_X12_ends_ok 2 (4, .bipush 33, 2) rfl) rfl ?_
    refine zx_icmp_ne (pc := 6) (tgt := 38) G rfl (z_dec T_X12_ends_ok 3 (6, .if_icmp .ne 32, 3) rfl) (fun hc => ?_) (fun hc => ?_)
    · replace h := z_neg hc h
      exact zx_vret (pc := 38) G hr hlk (Nat.le_refl _) (Nat.le_refl _) (z_dec T_X12_ends_ok 21 (38, .return_, 1) rfl) ⟨rfl, rfl, h⟩
    · replace h := z_pos hc h
      refine zx_aload_n (pc := 9) G (some (0)) 0 rfl rfl (z_dec T_X12_ends_ok 4 (9, .aload_n 0, 1) rfl) ?_
      refine zx_iconst (pc := 10) (v := 2) G (z_dec T_X12_ends_ok 5 (10, .iconst 2, 1) rfl) rfl ?_
      refine zx_iconst (pc := 11) (v := 0) G (z_dec T_X12_ends_ok 6 (11, .iconst 0, 1) rfl) rfl ?_
      refine zx_callV_vN (pc := 12) (rm := rm_X12_emit) G cw_RX12_309 ⟨Nat.le_of_ble_eq_true rfl, Nat.le_of_ble_eq_true rfl⟩ rfl rfl ⟨Nat.zero_le _, Nat.zero_le _⟩ f_l0 rfl (fun sz => (met_X12_emit l D ρ kd q μ1 sz ((2 : Int32)) ((0 : Int32)) _ hI f_l0 h)) rfl rfl (Nat.le_of_ble_eq_true rfl) (z_dec T_X12_ends_ok 7 (12, .invokevirtual 309, 3) rfl) (fun μ3 hn => ?_)
      clear h
      have h := hn
      clear hn
      refine zx_aload_n (pc := 15) G (some (0)) 0 rfl rfl (z_dec T_X12_ends_ok 8 (15, .aload_n 0, 1) rfl) ?_
      refine zx_dup (pc := 16) G rfl (z_dec T_X12_ends_ok 9 (16, .dup, 1) rfl) ?_
      refine zx_getI (pc := 17) G gf_RX12_277 rfl f_l0 (z_dec T_X12_ends_ok 10 (17, .getfield 277, 3) rfl) ?_
      refine zx_iconst (pc := 20) (v := 1) G (z_dec T_X12_ends_ok 11 (20, .iconst 1, 1) rfl) rfl ?_
      refine zx_isub (pc := 21) G  (z_dec T_X12_ends_ok 12 (21, .isub, 1) rfl) ?_
      refine zx_putI (pc := 22) G gf_RX12_277 cf_12 rfl rfl f_l0 (z_dec T_X12_ends_ok 13 (22, .putfield 277, 3) rfl) ?_
      refine zx_aload_n (pc := 25) G (some (0)) 0 rfl rfl (z_dec T_X12_ends_ok 14 (25, .aload_n 0, 1) rfl) ?_
      refine zx_dup (pc := 26) G rfl (z_dec T_X12_ends_ok 15 (26, .dup, 1) rfl) ?_
      refine zx_getI (pc := 27) G gf_RX12_280 rfl f_l0 (z_dec T_X12_ends_ok 16 (27, .getfield 280, 3) rfl) ?_
      refine zx_iconst (pc := 30) (v := 1) G (z_dec T_X12_ends_ok 17 (30, .iconst 1, 1) rfl) rfl ?_
      refine zx_isub (pc := 31) G  (z_dec T_X12_ends_ok 18 (31, .isub, 1) rfl) ?_
      refine zx_putI (pc := 32) G gf_RX12_280 cf_12 rfl rfl f_l0 (z_dec T_X12_ends_ok 19 (32, .putfield 280, 3) rfl) ?_
      refine zx_goto (pc := 35) (tgt := 0) G rfl (z_dec T_X12_ends_ok 20 (35, .goto (-35), 3) rfl) ?_
      exact hP0 _ h f_l0
set_option maxRecDepth 100000 in
set_option maxHeartbeats 4000000 in
theorem L_X12_ends_0_ok {p : Program} {l : Launch} {e : Env} {s : State} {m : MethodId} {args : Array Value} {below : List Frame} {meth : Method} {c : Code} {D : va_G} {A : Nat → Prop} {ρ : z_A} {kd : z_K} {q : z_Q} {μ : z_M} {K : z_M → Prop} (G : z_G p c cX12_ends s m args RX12 1 D) (hr : meth.sig.returnType = (Option.none : Option Jvm.ClassFile.FieldType)) (hlk : meth.locks = false) (hI : z_I kd q) (f_l0 : kd 0 = some (.inl 12)) (h : L_X12_ends_0 K μ) : z_X p l e rm_X12_ends s m args below meth c 1 D A (MQ below (z_Qn D A ρ kd (z_Kv q K)) args s 0 0 A) 0 0 ρ kd q μ 0 [(0, .ref (0))] [] :=
  h (fun (μ : z_M) => (kd 0 = some (.inl 12)) → z_X p l e rm_X12_ends s m args below meth c 1 D A (MQ below (z_Qn D A ρ kd (z_Kv q K)) args s 0 0 A) 0 0 ρ kd q μ 0 [(0, .ref (0))] []) (fun  μ h f_l0 => B_X12_ends_0_ok G hr hlk (fun  _ h => h) hI f_l0 h) f_l0
set_option maxRecDepth 100000 in
set_option maxHeartbeats 4000000 in
theorem met_X12_ends (l : Launch) (D : va_G) (ρ : z_A) (kd : z_K) (q : z_Q) (μ : z_M) (sz : Nat) (K : z_M → Prop) (hI : z_I kd q) (h_o : kd 0 = some (.inl 12)) (h : C_X12_ends μ K) : Met l yX12_ends (z_ws yX12_ends cX12_ends 1 (Option.none : Option Jvm.ClassFile.FieldType)) rm_X12_ends (z_Pc D ρ kd q μ sz [.ref (0)]) (z_Qn D (z_Rg ρ sz) ρ kd (z_Kv q K)) 0 0 (z_Rg ρ sz) := by
  refine z_met (rm := rm_X12_ends) (by decide) (Nat.le_of_ble_eq_true rfl) (fun p e s m args below meth c G hr hlk => ?_)
  unfold C_X12_ends at h
  show z_X _ _ _ _ _ _ _ _ _ _ _ _ _ _ _ _ _ _ _ _ _ [(0, .ref (0))] _
  exact L_X12_ends_0_ok G hr hlk hI h_o h
abbrev rm_X12_factor : Room := { frames := 3, cells := 0, slots := 0, locals := 67 }
set_option maxRecDepth 100000 in
set_option maxHeartbeats 4000000 in
theorem L_X12_factor_23_ok {p : Program} {l : Launch} {e : Env} {s : State} {m : MethodId} {args : Array Value} {below : List Frame} {meth : Method} {c : Code} {D : va_G} {A : Nat → Prop} {ρ : z_A} {kd : z_K} {q : z_Q} {μ : z_M} {K : z_M → Prop} (G : z_G p c cX12_factor s m args RX12 1 D) (hr : meth.sig.returnType = (Option.none : Option Jvm.ClassFile.FieldType)) (hlk : meth.locks = false) (hI : z_I kd q) (f_l0 : kd 0 = some (.inl 12)) (h : L_X12_factor_23 K μ) : z_X p l e rm_X12_factor s m args below meth c 1 D A (MQ below (z_Qn D A ρ kd (z_Kv q K)) args s 0 0 A) 0 0 ρ kd q μ 23 [(0, .ref (0))] [] := by
    unfold L_X12_factor_23 at h
    refine zx_aload_n (pc := 23) G (some (0)) 0 rfl rfl (z_dec T_X12_factor_ok 10 (23, .aload_n 0, 1) rfl) ?_
    refine zx_callV_zN (pc := 24) (rm := rm_X12_isGood) G cw_RX12_270 ⟨Nat.le_of_ble_eq_true rfl, Nat.le_of_ble_eq_true rfl⟩ rfl rfl ⟨Nat.zero_le _, Nat.zero_le _⟩ f_l0 rfl (fun sz => (met_X12_isGood l D ρ kd q μ sz  _ hI f_l0 h)) rfl rfl (Nat.le_of_ble_eq_true rfl) (z_dec T_X12_factor_ok 11 (24, .invokevirtual 270, 3) rfl) (fun r2 μ1 hzr2 hn => ?_)
    clear h
    have h := hn
    clear hn
    refine zx_if_ne (pc := 27) (tgt := 31) G rfl (z_dec T_X12_factor_ok 12 (27, .ifCond .ne 4, 3) rfl) (fun hc => ?_) (fun hc => ?_)
    · replace h := z_neg hc h
      refine zx_aload_n (pc := 31) G (some (0)) 0 rfl rfl (z_dec T_X12_factor_ok 14 (31, .aload_n 0, 1) rfl) ?_
      refine zx_callV_zN (pc := 32) (rm := rm_X12_seesDigit) G cw_RX12_297 ⟨Nat.le_of_ble_eq_true rfl, Nat.le_of_ble_eq_true rfl⟩ rfl rfl ⟨Nat.zero_le _, Nat.zero_le _⟩ f_l0 rfl (fun sz => (met_X12_seesDigit l D ρ kd q μ1 sz  _ hI f_l0 h)) rfl rfl (Nat.le_of_ble_eq_true rfl) (z_dec T_X12_factor_ok 15 (32, .invokevirtual 297, 3) rfl) (fun r4 μ3 hzr4 hn => ?_)
      clear h
      have h := hn
      clear hn
      refine zx_if_eq (pc := 35) (tgt := 50) G rfl (z_dec T_X12_factor_ok 16 (35, .ifCond .eq 15, 3) rfl) (fun hc => ?_) (fun hc => ?_)
      · replace h := z_pos hc h
        refine zx_aload_n (pc := 50) G (some (0)) 0 rfl rfl (z_dec T_X12_factor_ok 23 (50, .aload_n 0, 1) rfl) ?_
        refine zx_callV_iN (pc := 51) (rm := rm_X12_here) G cw_RX12_286 ⟨Nat.le_of_ble_eq_true rfl, Nat.le_of_ble_eq_true rfl⟩ rfl rfl ⟨Nat.zero_le _, Nat.zero_le _⟩ f_l0 rfl (fun sz => (met_X12_here l D ρ kd q μ3 sz  _ hI f_l0 h)) rfl rfl (Nat.le_of_ble_eq_true rfl) (z_dec T_X12_factor_ok 24 (51, .invokevirtual 286, 3) rfl) (fun r6 μ5 hn => ?_)
        clear h
        have h := hn
        clear hn
        refine zx_callS_zN (pc := 54) (rm := rm_X12_isValue) G cw_RX12_318 ⟨Nat.le_of_ble_eq_true rfl, Nat.le_of_ble_eq_true rfl⟩ rfl rfl ⟨Nat.zero_le _, Nat.zero_le _⟩ (fun sz => (met_X12_isValue l D ρ kd q μ5 sz r6 _ hI h)) rfl rfl (Nat.le_of_ble_eq_true rfl) (z_dec T_X12_factor_ok 25 (54, .invokestatic 318, 3) rfl) (fun r8 μ7 hzr8 hn => ?_)
        clear h
        have h := hn
        clear hn
        refine zx_if_eq (pc := 57) (tgt := 82) G rfl (z_dec T_X12_factor_ok 26 (57, .ifCond .eq 25, 3) rfl) (fun hc => ?_) (fun hc => ?_)
        · replace h := z_pos hc h
          refine zx_aload_n (pc := 82) G (some (0)) 0 rfl rfl (z_dec T_X12_factor_ok 39 (82, .aload_n 0, 1) rfl) ?_
          refine zx_iconst (pc := 83) (v := 1) G (z_dec T_X12_factor_ok 40 (83, .iconst 1, 1) rfl) rfl ?_
          refine zx_aload_n (pc := 84) G (some (0)) 0 rfl rfl (z_dec T_X12_factor_ok 41 (84, .aload_n 0, 1) rfl) ?_
          refine zx_getI (pc := 85) G gf_RX12_261 rfl f_l0 (z_dec T_X12_factor_ok 42 (85, .getfield 261, 3) rfl) ?_
          refine zx_callV_vN (pc := 88) (rm := rm_X12_wrongs) G cw_RX12_283 ⟨Nat.le_of_ble_eq_true rfl, Nat.le_of_ble_eq_true rfl⟩ rfl rfl ⟨Nat.zero_le _, Nat.zero_le _⟩ f_l0 rfl (fun sz => (met_X12_wrongs l D ρ kd q μ7 sz ((1 : Int32)) (μ7.1 0 44) _ hI f_l0 h)) rfl rfl (Nat.le_of_ble_eq_true rfl) (z_dec T_X12_factor_ok 43 (88, .invokevirtual 283, 3) rfl) (fun μ9 hn => ?_)
          clear h
          have h := hn
          clear hn
          exact zx_vret (pc := 91) G hr hlk (Nat.le_refl _) (Nat.le_refl _) (z_dec T_X12_factor_ok 44 (91, .return_, 1) rfl) ⟨rfl, rfl, h⟩
        · replace h := z_neg hc h
          refine zx_aload_n (pc := 60) G (some (0)) 0 rfl rfl (z_dec T_X12_factor_ok 27 (60, .aload_n 0, 1) rfl) ?_
          refine zx_iconst (pc := 61) (v := 1) G (z_dec T_X12_factor_ok 28 (61, .iconst 1, 1) rfl) rfl ?_
          refine zx_aload_n (pc := 62) G (some (0)) 0 rfl rfl (z_dec T_X12_factor_ok 29 (62, .aload_n 0, 1) rfl) ?_
          refine zx_callV_iN (pc := 63) (rm := rm_X12_here) G cw_RX12_286 ⟨Nat.le_of_ble_eq_true rfl, Nat.le_of_ble_eq_true rfl⟩ rfl rfl ⟨Nat.zero_le _, Nat.zero_le _⟩ f_l0 rfl (fun sz => (met_X12_here l D ρ kd q μ7 sz  _ hI f_l0 h)) rfl rfl (Nat.le_of_ble_eq_true rfl) (z_dec T_X12_factor_ok 30 (63, .invokevirtual 286, 3) rfl) (fun r11 μ10 hn => ?_)
          clear h
          have h := hn
          clear hn
          refine zx_callV_vN (pc := 66) (rm := rm_X12_emit) G cw_RX12_309 ⟨Nat.le_of_ble_eq_true rfl, Nat.le_of_ble_eq_true rfl⟩ rfl rfl ⟨Nat.zero_le _, Nat.zero_le _⟩ f_l0 rfl (fun sz => (met_X12_emit l D ρ kd q μ10 sz ((1 : Int32)) r11 _ hI f_l0 h)) rfl rfl (Nat.le_of_ble_eq_true rfl) (z_dec T_X12_factor_ok 31 (66, .invokevirtual 309, 3) rfl) (fun μ12 hn => ?_)
          clear h
          have h := hn
          clear hn
          refine zx_aload_n (pc := 69) G (some (0)) 0 rfl rfl (z_dec T_X12_factor_ok 32 (69, .aload_n 0, 1) rfl) ?_
          refine zx_dup (pc := 70) G rfl (z_dec T_X12_factor_ok 33 (70, .dup, 1) rfl) ?_
          refine zx_getI (pc := 71) G gf_RX12_261 rfl f_l0 (z_dec T_X12_factor_ok 34 (71, .getfield 261, 3) rfl) ?_
          refine zx_iconst (pc := 74) (v := 1) G (z_dec T_X12_factor_ok 35 (74, .iconst 1, 1) rfl) rfl ?_
          refine zx_iadd (pc := 75) G  (z_dec T_X12_factor_ok 36 (75, .iadd, 1) rfl) ?_
          refine zx_putI (pc := 76) G gf_RX12_261 cf_12 rfl rfl f_l0 (z_dec T_X12_factor_ok 37 (76, .putfield 261, 3) rfl) ?_
          refine zx_goto (pc := 79) (tgt := 91) G rfl (z_dec T_X12_factor_ok 38 (79, .goto 12, 3) rfl) ?_
          exact zx_vret (pc := 91) G hr hlk (Nat.le_refl _) (Nat.le_refl _) (z_dec T_X12_factor_ok 44 (91, .return_, 1) rfl) ⟨rfl, rfl, h⟩
      · replace h := z_neg hc h
        refine zx_aload_n (pc := 38) G (some (0)) 0 rfl rfl (z_dec T_X12_factor_ok 17 (38, .aload_n 0, 1) rfl) ?_
        refine zx_iconst (pc := 39) (v := 0) G (z_dec T_X12_factor_ok 18 (39, .iconst 0, 1) rfl) rfl ?_
        refine zx_aload_n (pc := 40) G (some (0)) 0 rfl rfl (z_dec T_X12_factor_ok 19 (40, .aload_n 0, 1) rfl) ?_
        refine zx_callV_iN (pc := 41) (rm := rm_X12_reads) G cw_RX12_315 ⟨Nat.le_of_ble_eq_true rfl, Nat.le_of_ble_eq_true rfl⟩ rfl rfl ⟨Nat.zero_le _, Nat.zero_le _⟩ f_l0 rfl (fun sz => (met_X12_reads l D ρ kd q μ3 sz  _ hI f_l0 h)) rfl rfl (Nat.le_of_ble_eq_true rfl) (z_dec T_X12_factor_ok 20 (41, .invokevirtual 315, 3) rfl) (fun r14 μ13 hn => ?_)
        clear h
        have h := hn
        clear hn
        refine zx_callV_vN (pc := 44) (rm := rm_X12_emit) G cw_RX12_309 ⟨Nat.le_of_ble_eq_true rfl, Nat.le_of_ble_eq_true rfl⟩ rfl rfl ⟨Nat.zero_le _, Nat.zero_le _⟩ f_l0 rfl (fun sz => (met_X12_emit l D ρ kd q μ13 sz ((0 : Int32)) r14 _ hI f_l0 h)) rfl rfl (Nat.le_of_ble_eq_true rfl) (z_dec T_X12_factor_ok 21 (44, .invokevirtual 309, 3) rfl) (fun μ15 hn => ?_)
        clear h
        have h := hn
        clear hn
        refine zx_goto (pc := 47) (tgt := 91) G rfl (z_dec T_X12_factor_ok 22 (47, .goto 44, 3) rfl) ?_
        exact zx_vret (pc := 91) G hr hlk (Nat.le_refl _) (Nat.le_refl _) (z_dec T_X12_factor_ok 44 (91, .return_, 1) rfl) ⟨rfl, rfl, h⟩
    · replace h := z_pos hc h
      exact zx_vret (pc := 30) G hr hlk (Nat.le_refl _) (Nat.le_refl _) (z_dec T_X12_factor_ok 13 (30, .return_, 1) rfl) ⟨rfl, rfl, h⟩
set_option maxRecDepth 100000 in
set_option maxHeartbeats 4000000 in
theorem B_X12_factor_0_ok {p : Program} {l : Launch} {e : Env} {s : State} {m : MethodId} {args : Array Value} {below : List Frame} {meth : Method} {c : Code} {D : va_G} {A : Nat → Prop} {ρ : z_A} {kd : z_K} {q : z_Q} {μ : z_M} {K : z_M → Prop} {P0 : z_M → Prop} (G : z_G p c cX12_factor s m args RX12 1 D) (hr : meth.sig.returnType = (Option.none : Option Jvm.ClassFile.FieldType)) (hlk : meth.locks = false) (hP0 : ∀ (μ : z_M), P0 μ → (kd 0 = some (.inl 12)) → z_X p l e rm_X12_factor s m args below meth c 1 D A (MQ below (z_Qn D A ρ kd (z_Kv q K)) args s 0 0 A) 0 0 ρ kd q μ 0 [(0, .ref (0))] []) (hI : z_I kd q) (f_l0 : kd 0 = some (.inl 12)) (h : B_X12_factor_0 K P0 μ) : z_X p l e rm_X12_factor s m args below meth c 1 D A (MQ below (z_Qn D A ρ kd (z_Kv q K)) args s 0 0 A) 0 0 ρ kd q μ 0 [(0, .ref (0))] [] := by
    unfold B_X12_factor_0 at h
    refine zx_aload_n (pc := 0) G (some (0)) 0 rfl rfl (z_dec T_X12_factor_ok 0 (0, .aload_n 0, 1) rfl) ?_
    refine zx_callV_zN (pc := 1) (rm := rm_X12_isGood) G cw_RX12_270 ⟨Nat.le_of_ble_eq_true rfl, Nat.le_of_ble_eq_true rfl⟩ rfl rfl ⟨Nat.zero_le _, Nat.zero_le _⟩ f_l0 rfl (fun sz => (met_X12_isGood l D ρ kd q μ sz  _ hI f_l0 h)) rfl rfl (Nat.le_of_ble_eq_true rfl) (z_dec T_X12_factor_ok 1 (1, .invokevirtual 270, 3) rfl) (fun r2 μ1 hzr2 hn => ?_)
    clear h
    have h := hn
    clear hn
    refine zx_if_eq (pc := 4) (tgt := 23) G rfl (z_dec T_X12_factor_ok 2 (4, .ifCond .eq 19, 3) rfl) (fun hc => ?_) (fun hc => ?_)
    · replace h := z_pos hc h
      exact L_X12_factor_23_ok G hr hlk hI f_l0 h
    · replace h := z_neg hc h
      refine zx_aload_n (pc := 7) G (some (0)) 0 rfl rfl (z_dec T_X12_factor_ok 3 (7, .aload_n 0, 1) rfl) ?_
      refine zx_callV_iN (pc := 8) (rm := rm_X12_here) G cw_RX12_286 ⟨Nat.le_of_ble_eq_true rfl, Nat.le_of_ble_eq_true rfl⟩ rfl rfl ⟨Nat.zero_le _, Nat.zero_le _⟩ f_l0 rfl (fun sz => (met_X12_here l D ρ kd q μ1 sz  _ hI f_l0 h)) rfl rfl (Nat.le_of_ble_eq_true rfl) (z_dec T_X12_factor_ok 4 (8, .invokevirtual 286, 3) rfl) (fun r4 μ3 hn => ?_)
      clear h
      have h := hn
      clear hn
      refine zx_bipush (pc := 11) (v := 91) G (z_dec T_X12_factor_ok 5 (11, .bipush 91, 2) rfl) rfl ?_
      refine zx_icmp_ne (pc := 13) (tgt := 23) G rfl (z_dec T_X12_factor_ok 6 (13, .if_icmp .ne 10, 3) rfl) (fun hc => ?_) (fun hc => ?_)
      · replace h := z_neg hc h
        exact L_X12_factor_23_ok G hr hlk hI f_l0 h
      · replace h := z_pos hc h
        refine zx_aload_n (pc := 16) G (some (0)) 0 rfl rfl (z_dec T_X12_factor_ok 7 (16, .aload_n 0, 1) rfl) ?_
        refine zx_callV_vN (pc := 17) (rm := rm_X12_opens) G cw_RX12_312 ⟨Nat.le_of_ble_eq_true rfl, Nat.le_of_ble_eq_true rfl⟩ rfl rfl ⟨Nat.zero_le _, Nat.zero_le _⟩ f_l0 rfl (fun sz => (met_X12_opens l D ρ kd q μ3 sz  _ hI f_l0 h)) rfl rfl (Nat.le_of_ble_eq_true rfl) (z_dec T_X12_factor_ok 8 (17, .invokevirtual 312, 3) rfl) (fun μ5 hn => ?_)
        clear h
        have h := hn
        clear hn
        refine zx_goto (pc := 20) (tgt := 0) G rfl (z_dec T_X12_factor_ok 9 (20, .goto (-20), 3) rfl) ?_
        exact hP0 _ h f_l0
set_option maxRecDepth 100000 in
set_option maxHeartbeats 4000000 in
theorem L_X12_factor_0_ok {p : Program} {l : Launch} {e : Env} {s : State} {m : MethodId} {args : Array Value} {below : List Frame} {meth : Method} {c : Code} {D : va_G} {A : Nat → Prop} {ρ : z_A} {kd : z_K} {q : z_Q} {μ : z_M} {K : z_M → Prop} (G : z_G p c cX12_factor s m args RX12 1 D) (hr : meth.sig.returnType = (Option.none : Option Jvm.ClassFile.FieldType)) (hlk : meth.locks = false) (hI : z_I kd q) (f_l0 : kd 0 = some (.inl 12)) (h : L_X12_factor_0 K μ) : z_X p l e rm_X12_factor s m args below meth c 1 D A (MQ below (z_Qn D A ρ kd (z_Kv q K)) args s 0 0 A) 0 0 ρ kd q μ 0 [(0, .ref (0))] [] :=
  h (fun (μ : z_M) => (kd 0 = some (.inl 12)) → z_X p l e rm_X12_factor s m args below meth c 1 D A (MQ below (z_Qn D A ρ kd (z_Kv q K)) args s 0 0 A) 0 0 ρ kd q μ 0 [(0, .ref (0))] []) (fun  μ h f_l0 => B_X12_factor_0_ok G hr hlk (fun  _ h => h) hI f_l0 h) f_l0
set_option maxRecDepth 100000 in
set_option maxHeartbeats 4000000 in
theorem met_X12_factor (l : Launch) (D : va_G) (ρ : z_A) (kd : z_K) (q : z_Q) (μ : z_M) (sz : Nat) (K : z_M → Prop) (hI : z_I kd q) (h_o : kd 0 = some (.inl 12)) (h : C_X12_factor μ K) : Met l yX12_factor (z_ws yX12_factor cX12_factor 1 (Option.none : Option Jvm.ClassFile.FieldType)) rm_X12_factor (z_Pc D ρ kd q μ sz [.ref (0)]) (z_Qn D (z_Rg ρ sz) ρ kd (z_Kv q K)) 0 0 (z_Rg ρ sz) := by
  refine z_met (rm := rm_X12_factor) (by decide) (Nat.le_of_ble_eq_true rfl) (fun p e s m args below meth c G hr hlk => ?_)
  unfold C_X12_factor at h
  show z_X _ _ _ _ _ _ _ _ _ _ _ _ _ _ _ _ _ _ _ _ _ [(0, .ref (0))] _
  exact L_X12_factor_0_ok G hr hlk hI h_o h
abbrev rm_X12_goesOn : Room := { frames := 3, cells := 0, slots := 0, locals := 63 }
set_option maxRecDepth 100000 in
set_option maxHeartbeats 4000000 in
theorem L_X12_goesOn_19_ok {p : Program} {l : Launch} {e : Env} {s : State} {m : MethodId} {args : Array Value} {below : List Frame} {meth : Method} {c : Code} {D : va_G} {A : Nat → Prop} {ρ : z_A} {kd : z_K} {q : z_Q} {μ : z_M} {K : Int32 → z_M → Prop} {v1 : Int32} (G : z_G p c cX12_goesOn s m args RX12 2 D) (hr : meth.sig.returnType = (Option.some Jvm.ClassFile.FieldType.boolean)) (hlk : meth.locks = false) (hI : z_I kd q) (f_l0 : kd 0 = some (.inl 12)) (h : L_X12_goesOn_19 K v1 μ) : z_X p l e rm_X12_goesOn s m args below meth c 2 D A (MQ below (z_Qn D A ρ kd (z_Kz q K)) args s 0 0 A) 0 0 ρ kd q μ 19 [(0, .ref (0)), (1, .int (v1))] [] := by
    unfold L_X12_goesOn_19 at h
    refine zx_aload_n (pc := 19) G (some (0)) 0 rfl rfl (z_dec T_X12_goesOn_ok 9 (19, .aload_n 0, 1) rfl) ?_
    refine zx_iload_n (pc := 20) G 1 rfl rfl (z_dec T_X12_goesOn_ok 10 (20, .iload_n 1, 1) rfl) ?_
    refine zx_callS_zN (pc := 21) (rm := rm_X12_isPlus) G cw_RX12_306 ⟨Nat.le_of_ble_eq_true rfl, Nat.le_of_ble_eq_true rfl⟩ rfl rfl ⟨Nat.zero_le _, Nat.zero_le _⟩ (fun sz => (met_X12_isPlus l D ρ kd q μ sz v1 _ hI h)) rfl rfl (Nat.le_of_ble_eq_true rfl) (z_dec T_X12_goesOn_ok 11 (21, .invokestatic 306, 3) rfl) (fun r2 μ1 hzr2 hn => ?_)
    clear h
    have h := hn
    clear hn
    refine zx_callV_vN (pc := 24) (rm := rm_X12_sums) G cw_RX12_321 ⟨Nat.le_of_ble_eq_true rfl, Nat.le_of_ble_eq_true rfl⟩ rfl rfl ⟨Nat.zero_le _, Nat.zero_le _⟩ f_l0 rfl (fun sz => (met_X12_sums l D ρ kd q μ1 sz r2 _ hI f_l0 hzr2 h)) rfl rfl (Nat.le_of_ble_eq_true rfl) (z_dec T_X12_goesOn_ok 12 (24, .invokevirtual 321, 3) rfl) (fun μ3 hn => ?_)
    clear h
    have h := hn
    clear hn
    refine zx_aload_n (pc := 27) G (some (0)) 0 rfl rfl (z_dec T_X12_goesOn_ok 13 (27, .aload_n 0, 1) rfl) ?_
    refine zx_iload_n (pc := 28) G 1 rfl rfl (z_dec T_X12_goesOn_ok 14 (28, .iload_n 1, 1) rfl) ?_
    refine zx_callV_vN (pc := 29) (rm := rm_X12_puts) G cw_RX12_290 ⟨Nat.le_of_ble_eq_true rfl, Nat.le_of_ble_eq_true rfl⟩ rfl rfl ⟨Nat.zero_le _, Nat.zero_le _⟩ f_l0 rfl (fun sz => (met_X12_puts l D ρ kd q μ3 sz v1 _ hI f_l0 h)) rfl rfl (Nat.le_of_ble_eq_true rfl) (z_dec T_X12_goesOn_ok 15 (29, .invokevirtual 290, 3) rfl) (fun μ4 hn => ?_)
    clear h
    have h := hn
    clear hn
    refine zx_iconst (pc := 32) (v := 1) G (z_dec T_X12_goesOn_ok 16 (32, .iconst 1, 1) rfl) rfl ?_
    exact zx_zret (pc := 33) G hr hlk (Nat.le_refl _) (Nat.le_refl _) (Or.inr rfl) (z_dec T_X12_goesOn_ok 17 (33, .ireturn, 1) rfl) ⟨rfl, _, rfl, (Or.inr rfl), h⟩
set_option maxRecDepth 100000 in
set_option maxHeartbeats 4000000 in
theorem L_X12_goesOn_137_ok {p : Program} {l : Launch} {e : Env} {s : State} {m : MethodId} {args : Array Value} {below : List Frame} {meth : Method} {c : Code} {D : va_G} {A : Nat → Prop} {ρ : z_A} {kd : z_K} {q : z_Q} {μ : z_M} {K : Int32 → z_M → Prop} {v1 : Int32} (G : z_G p c cX12_goesOn s m args RX12 2 D) (hr : meth.sig.returnType = (Option.some Jvm.ClassFile.FieldType.boolean)) (hlk : meth.locks = false) (hI : z_I kd q) (f_l0 : kd 0 = some (.inl 12)) (h : L_X12_goesOn_137 K v1 μ) : z_X p l e rm_X12_goesOn s m args below meth c 2 D A (MQ below (z_Qn D A ρ kd (z_Kz q K)) args s 0 0 A) 0 0 ρ kd q μ 137 [(0, .ref (0)), (1, .int (v1))] [] := by
    unfold L_X12_goesOn_137 at h
    refine zx_aload_n (pc := 137) G (some (0)) 0 rfl rfl (z_dec T_X12_goesOn_ok 74 (137, .aload_n 0, 1) rfl) ?_
    refine zx_iload_n (pc := 138) G 1 rfl rfl (z_dec T_X12_goesOn_ok 75 (138, .iload_n 1, 1) rfl) ?_
    refine zx_callV_vN (pc := 139) (rm := rm_X12_puts) G cw_RX12_290 ⟨Nat.le_of_ble_eq_true rfl, Nat.le_of_ble_eq_true rfl⟩ rfl rfl ⟨Nat.zero_le _, Nat.zero_le _⟩ f_l0 rfl (fun sz => (met_X12_puts l D ρ kd q μ sz v1 _ hI f_l0 h)) rfl rfl (Nat.le_of_ble_eq_true rfl) (z_dec T_X12_goesOn_ok 76 (139, .invokevirtual 290, 3) rfl) (fun μ1 hn => ?_)
    clear h
    have h := hn
    clear hn
    refine zx_iconst (pc := 142) (v := 1) G (z_dec T_X12_goesOn_ok 77 (142, .iconst 1, 1) rfl) rfl ?_
    exact zx_zret (pc := 143) G hr hlk (Nat.le_refl _) (Nat.le_refl _) (Or.inr rfl) (z_dec T_X12_goesOn_ok 78 (143, .ireturn, 1) rfl) ⟨rfl, _, rfl, (Or.inr rfl), h⟩
set_option maxRecDepth 100000 in
set_option maxHeartbeats 4000000 in
theorem L_X12_goesOn_128_ok {p : Program} {l : Launch} {e : Env} {s : State} {m : MethodId} {args : Array Value} {below : List Frame} {meth : Method} {c : Code} {D : va_G} {A : Nat → Prop} {ρ : z_A} {kd : z_K} {q : z_Q} {μ : z_M} {K : Int32 → z_M → Prop} {v1 : Int32} (G : z_G p c cX12_goesOn s m args RX12 2 D) (hr : meth.sig.returnType = (Option.some Jvm.ClassFile.FieldType.boolean)) (hlk : meth.locks = false) (hI : z_I kd q) (f_l0 : kd 0 = some (.inl 12)) (h : L_X12_goesOn_128 K v1 μ) : z_X p l e rm_X12_goesOn s m args below meth c 2 D A (MQ below (z_Qn D A ρ kd (z_Kz q K)) args s 0 0 A) 0 0 ρ kd q μ 128 [(0, .ref (0)), (1, .int (v1))] [] := by
    unfold L_X12_goesOn_128 at h
    refine zx_aload_n (pc := 128) G (some (0)) 0 rfl rfl (z_dec T_X12_goesOn_ok 69 (128, .aload_n 0, 1) rfl) ?_
    refine zx_iconst (pc := 129) (v := 1) G (z_dec T_X12_goesOn_ok 70 (129, .iconst 1, 1) rfl) rfl ?_
    refine zx_aload_n (pc := 130) G (some (0)) 0 rfl rfl (z_dec T_X12_goesOn_ok 71 (130, .aload_n 0, 1) rfl) ?_
    refine zx_getI (pc := 131) G gf_RX12_261 rfl f_l0 (z_dec T_X12_goesOn_ok 72 (131, .getfield 261, 3) rfl) ?_
    refine zx_callV_vN (pc := 134) (rm := rm_X12_wrongs) G cw_RX12_283 ⟨Nat.le_of_ble_eq_true rfl, Nat.le_of_ble_eq_true rfl⟩ rfl rfl ⟨Nat.zero_le _, Nat.zero_le _⟩ f_l0 rfl (fun sz => (met_X12_wrongs l D ρ kd q μ sz ((1 : Int32)) (μ.1 0 44) _ hI f_l0 h)) rfl rfl (Nat.le_of_ble_eq_true rfl) (z_dec T_X12_goesOn_ok 73 (134, .invokevirtual 283, 3) rfl) (fun μ1 hn => ?_)
    clear h
    have h := hn
    clear hn
    exact L_X12_goesOn_137_ok G hr hlk hI f_l0 h
set_option maxRecDepth 100000 in
set_option maxHeartbeats 4000000 in
theorem met_X12_goesOn (l : Launch) (D : va_G) (ρ : z_A) (kd : z_K) (q : z_Q) (μ : z_M) (sz : Nat) (K : Int32 → z_M → Prop) (hI : z_I kd q) (h_o : kd 0 = some (.inl 12)) (h : C_X12_goesOn μ K) : Met l yX12_goesOn (z_ws yX12_goesOn cX12_goesOn 2 (Option.some Jvm.ClassFile.FieldType.boolean)) rm_X12_goesOn (z_Pc D ρ kd q μ sz [.ref (0)]) (z_Qn D (z_Rg ρ sz) ρ kd (z_Kz q K)) 0 0 (z_Rg ρ sz) := by
  refine z_met (rm := rm_X12_goesOn) (by decide) (Nat.le_of_ble_eq_true rfl) (fun p e s m args below meth c G hr hlk => ?_)
  unfold C_X12_goesOn at h
  show z_X _ _ _ _ _ _ _ _ _ _ _ _ _ _ _ _ _ _ _ _ _ [(0, .ref (0))] _
  refine zx_aload_n (pc := 0) G (some (0)) 0 rfl rfl (z_dec T_X12_goesOn_ok 0 (0, .aload_n 0, 1) rfl) ?_
  refine zx_callV_iN (pc := 1) (rm := rm_X12_here) G cw_RX12_286 ⟨Nat.le_of_ble_eq_true rfl, Nat.le_of_ble_eq_true rfl⟩ rfl rfl ⟨Nat.zero_le _, Nat.zero_le _⟩ h_o rfl (fun sz => (met_X12_here l D ρ kd q μ sz  _ hI h_o h)) rfl rfl (Nat.le_of_ble_eq_true rfl) (z_dec T_X12_goesOn_ok 1 (1, .invokevirtual 286, 3) rfl) (fun r2 μ1 hn => ?_)
  clear h
  have h := hn
  clear hn
  refine zx_istore_n (pc := 4) (lv' := [(1, .int (r2)), (0, .ref (0))]) G rfl (Nat.le_of_ble_eq_true rfl) rfl (z_dec T_X12_goesOn_ok 2 (4, .istore_n 1, 1) rfl) ?_
  refine zx_iload_n (pc := 5) G 0 rfl rfl (z_dec T_X12_goesOn_ok 3 (5, .iload_n 1, 1) rfl) ?_
  refine zx_callS_zN (pc := 6) (rm := rm_X12_isTimes) G cw_RX12_303 ⟨Nat.le_of_ble_eq_true rfl, Nat.le_of_ble_eq_true rfl⟩ rfl rfl ⟨Nat.zero_le _, Nat.zero_le _⟩ (fun sz => (met_X12_isTimes l D ρ kd q μ1 sz r2 _ hI h)) rfl rfl (Nat.le_of_ble_eq_true rfl) (z_dec T_X12_goesOn_ok 4 (6, .invokestatic 303, 3) rfl) (fun r4 μ3 hzr4 hn => ?_)
  clear h
  have h := hn
  clear hn
  refine zx_if_ne (pc := 9) (tgt := 19) G rfl (z_dec T_X12_goesOn_ok 5 (9, .ifCond .ne 10, 3) rfl) (fun hc => ?_) (fun hc => ?_)
  · replace h := z_neg hc h
    refine zx_sub (lv' := [(0, .ref (0)), (1, .int (r2))]) [1, 0] rfl ?_
    exact L_X12_goesOn_19_ok G hr hlk hI h_o h
  · replace h := z_pos hc h
    refine zx_iload_n (pc := 12) G 0 rfl rfl (z_dec T_X12_goesOn_ok 6 (12, .iload_n 1, 1) rfl) ?_
    refine zx_callS_zN (pc := 13) (rm := rm_X12_isPlus) G cw_RX12_306 ⟨Nat.le_of_ble_eq_true rfl, Nat.le_of_ble_eq_true rfl⟩ rfl rfl ⟨Nat.zero_le _, Nat.zero_le _⟩ (fun sz => (met_X12_isPlus l D ρ kd q μ3 sz r2 _ hI h)) rfl rfl (Nat.le_of_ble_eq_true rfl) (z_dec T_X12_goesOn_ok 7 (13, .invokestatic 306, 3) rfl) (fun r6 μ5 hzr6 hn => ?_)
    clear h
    have h := hn
    clear hn
    refine zx_if_eq (pc := 16) (tgt := 34) G rfl (z_dec T_X12_goesOn_ok 8 (16, .ifCond .eq 18, 3) rfl) (fun hc => ?_) (fun hc => ?_)
    · replace h := z_pos hc h
      refine zx_aload_n (pc := 34) G (some (0)) 1 rfl rfl (z_dec T_X12_goesOn_ok 18 (34, .aload_n 0, 1) rfl) ?_
      refine zx_iconst (pc := 35) (v := 1) G (z_dec T_X12_goesOn_ok 19 (35, .iconst 1, 1) rfl) rfl ?_
      refine zx_callV_vN (pc := 36) (rm := rm_X12_sums) G cw_RX12_321 ⟨Nat.le_of_ble_eq_true rfl, Nat.le_of_ble_eq_true rfl⟩ rfl rfl ⟨Nat.zero_le _, Nat.zero_le _⟩ h_o rfl (fun sz => (met_X12_sums l D ρ kd q μ5 sz ((1 : Int32)) _ hI h_o (Or.inr rfl) h)) rfl rfl (Nat.le_of_ble_eq_true rfl) (z_dec T_X12_goesOn_ok 20 (36, .invokevirtual 321, 3) rfl) (fun μ7 hn => ?_)
      clear h
      have h := hn
      clear hn
      refine zx_iload_n (pc := 39) G 0 rfl rfl (z_dec T_X12_goesOn_ok 21 (39, .iload_n 1, 1) rfl) ?_
      refine zx_bipush (pc := 40) (v := 93) G (z_dec T_X12_goesOn_ok 22 (40, .bipush 93, 2) rfl) rfl ?_
      refine zx_icmp_ne (pc := 42) (tgt := 102) G rfl (z_dec T_X12_goesOn_ok 23 (42, .if_icmp .ne 60, 3) rfl) (fun hc => ?_) (fun hc => ?_)
      · replace h := z_neg hc h
        refine zx_iload_n (pc := 102) G 0 rfl rfl (z_dec T_X12_goesOn_ok 58 (102, .iload_n 1, 1) rfl) ?_
        refine zx_callS_zN (pc := 103) (rm := rm_X12_isSign) G cw_RX12_329 ⟨Nat.le_of_ble_eq_true rfl, Nat.le_of_ble_eq_true rfl⟩ rfl rfl ⟨Nat.zero_le _, Nat.zero_le _⟩ (fun sz => (met_X12_isSign l D ρ kd q μ7 sz r2 _ hI h)) rfl rfl (Nat.le_of_ble_eq_true rfl) (z_dec T_X12_goesOn_ok 59 (103, .invokestatic 329, 3) rfl) (fun r9 μ8 hzr9 hn => ?_)
        clear h
        have h := hn
        clear hn
        refine zx_if_eq (pc := 106) (tgt := 144) G rfl (z_dec T_X12_goesOn_ok 60 (106, .ifCond .eq 38, 3) rfl) (fun hc => ?_) (fun hc => ?_)
        · replace h := z_pos hc h
          refine zx_aload_n (pc := 144) G (some (0)) 1 rfl rfl (z_dec T_X12_goesOn_ok 79 (144, .aload_n 0, 1) rfl) ?_
          refine zx_callV_iN (pc := 145) (rm := rm_X12_top) G cw_RX12_300 ⟨Nat.le_of_ble_eq_true rfl, Nat.le_of_ble_eq_true rfl⟩ rfl rfl ⟨Nat.zero_le _, Nat.zero_le _⟩ h_o rfl (fun sz => (met_X12_top l D ρ kd q μ8 sz  _ hI h_o h)) rfl rfl (Nat.le_of_ble_eq_true rfl) (z_dec T_X12_goesOn_ok 80 (145, .invokevirtual 300, 3) rfl) (fun r11 μ10 hn => ?_)
          clear h
          have h := hn
          clear hn
          refine zx_callS_zN (pc := 148) (rm := rm_X12_isSign) G cw_RX12_329 ⟨Nat.le_of_ble_eq_true rfl, Nat.le_of_ble_eq_true rfl⟩ rfl rfl ⟨Nat.zero_le _, Nat.zero_le _⟩ (fun sz => (met_X12_isSign l D ρ kd q μ10 sz r11 _ hI h)) rfl rfl (Nat.le_of_ble_eq_true rfl) (z_dec T_X12_goesOn_ok 81 (148, .invokestatic 329, 3) rfl) (fun r13 μ12 hzr13 hn => ?_)
          clear h
          have h := hn
          clear hn
          refine zx_if_eq (pc := 151) (tgt := 176) G rfl (z_dec T_X12_goesOn_ok 82 (151, .ifCond .eq 25, 3) rfl) (fun hc => ?_) (fun hc => ?_)
          · replace h := z_pos hc h
            refine zx_aload_n (pc := 176) G (some (0)) 1 rfl rfl (z_dec T_X12_goesOn_ok 95 (176, .aload_n 0, 1) rfl) ?_
            refine zx_iconst (pc := 177) (v := 1) G (z_dec T_X12_goesOn_ok 96 (177, .iconst 1, 1) rfl) rfl ?_
            refine zx_aload_n (pc := 178) G (some (0)) 1 rfl rfl (z_dec T_X12_goesOn_ok 97 (178, .aload_n 0, 1) rfl) ?_
            refine zx_getI (pc := 179) G gf_RX12_261 rfl h_o (z_dec T_X12_goesOn_ok 98 (179, .getfield 261, 3) rfl) ?_
            refine zx_callV_vN (pc := 182) (rm := rm_X12_wrongs) G cw_RX12_283 ⟨Nat.le_of_ble_eq_true rfl, Nat.le_of_ble_eq_true rfl⟩ rfl rfl ⟨Nat.zero_le _, Nat.zero_le _⟩ h_o rfl (fun sz => (met_X12_wrongs l D ρ kd q μ12 sz ((1 : Int32)) (μ12.1 0 44) _ hI h_o h)) rfl rfl (Nat.le_of_ble_eq_true rfl) (z_dec T_X12_goesOn_ok 99 (182, .invokevirtual 283, 3) rfl) (fun μ14 hn => ?_)
            clear h
            have h := hn
            clear hn
            refine zx_iconst (pc := 185) (v := 0) G (z_dec T_X12_goesOn_ok 100 (185, .iconst 0, 1) rfl) rfl ?_
            exact zx_zret (pc := 186) G hr hlk (Nat.le_refl _) (Nat.le_refl _) (Or.inl rfl) (z_dec T_X12_goesOn_ok 101 (186, .ireturn, 1) rfl) ⟨rfl, _, rfl, (Or.inl rfl), h⟩
          · replace h := z_neg hc h
            refine zx_aload_n (pc := 154) G (some (0)) 1 rfl rfl (z_dec T_X12_goesOn_ok 83 (154, .aload_n 0, 1) rfl) ?_
            refine zx_aload_n (pc := 155) G (some (0)) 1 rfl rfl (z_dec T_X12_goesOn_ok 84 (155, .aload_n 0, 1) rfl) ?_
            refine zx_callV_iN (pc := 156) (rm := rm_X12_top) G cw_RX12_300 ⟨Nat.le_of_ble_eq_true rfl, Nat.le_of_ble_eq_true rfl⟩ rfl rfl ⟨Nat.zero_le _, Nat.zero_le _⟩ h_o rfl (fun sz => (met_X12_top l D ρ kd q μ12 sz  _ hI h_o h)) rfl rfl (Nat.le_of_ble_eq_true rfl) (z_dec T_X12_goesOn_ok 85 (156, .invokevirtual 300, 3) rfl) (fun r16 μ15 hn => ?_)
            clear h
            have h := hn
            clear hn
            refine zx_iconst (pc := 159) (v := 0) G (z_dec T_X12_goesOn_ok 86 (159, .iconst 0, 1) rfl) rfl ?_
            refine zx_callV_vN (pc := 160) (rm := rm_X12_emit) G cw_RX12_309 ⟨Nat.le_of_ble_eq_true rfl, Nat.le_of_ble_eq_true rfl⟩ rfl rfl ⟨Nat.zero_le _, Nat.zero_le _⟩ h_o rfl (fun sz => (met_X12_emit l D ρ kd q μ15 sz r16 ((0 : Int32)) _ hI h_o h)) rfl rfl (Nat.le_of_ble_eq_true rfl) (z_dec T_X12_goesOn_ok 87 (160, .invokevirtual 309, 3) rfl) (fun μ17 hn => ?_)
            clear h
            have h := hn
            clear hn
            refine zx_aload_n (pc := 163) G (some (0)) 1 rfl rfl (z_dec T_X12_goesOn_ok 88 (163, .aload_n 0, 1) rfl) ?_
            refine zx_dup (pc := 164) G rfl (z_dec T_X12_goesOn_ok 89 (164, .dup, 1) rfl) ?_
            refine zx_getI (pc := 165) G gf_RX12_277 rfl h_o (z_dec T_X12_goesOn_ok 90 (165, .getfield 277, 3) rfl) ?_
            refine zx_iconst (pc := 168) (v := 1) G (z_dec T_X12_goesOn_ok 91 (168, .iconst 1, 1) rfl) rfl ?_
            refine zx_isub (pc := 169) G  (z_dec T_X12_goesOn_ok 92 (169, .isub, 1) rfl) ?_
            refine zx_putI (pc := 170) G gf_RX12_277 cf_12 rfl rfl h_o (z_dec T_X12_goesOn_ok 93 (170, .putfield 277, 3) rfl) ?_
            refine zx_goto (pc := 173) (tgt := 185) G rfl (z_dec T_X12_goesOn_ok 94 (173, .goto 12, 3) rfl) ?_
            refine zx_iconst (pc := 185) (v := 0) G (z_dec T_X12_goesOn_ok 100 (185, .iconst 0, 1) rfl) rfl ?_
            exact zx_zret (pc := 186) G hr hlk (Nat.le_refl _) (Nat.le_refl _) (Or.inl rfl) (z_dec T_X12_goesOn_ok 101 (186, .ireturn, 1) rfl) ⟨rfl, _, rfl, (Or.inl rfl), h⟩
        · replace h := z_neg hc h
          refine zx_aload_n (pc := 109) G (some (0)) 1 rfl rfl (z_dec T_X12_goesOn_ok 61 (109, .aload_n 0, 1) rfl) ?_
          refine zx_callV_iN (pc := 110) (rm := rm_X12_top) G cw_RX12_300 ⟨Nat.le_of_ble_eq_true rfl, Nat.le_of_ble_eq_true rfl⟩ rfl rfl ⟨Nat.zero_le _, Nat.zero_le _⟩ h_o rfl (fun sz => (met_X12_top l D ρ kd q μ8 sz  _ hI h_o h)) rfl rfl (Nat.le_of_ble_eq_true rfl) (z_dec T_X12_goesOn_ok 62 (110, .invokevirtual 300, 3) rfl) (fun r19 μ18 hn => ?_)
          clear h
          have h := hn
          clear hn
          refine zx_bipush (pc := 113) (v := 91) G (z_dec T_X12_goesOn_ok 63 (113, .bipush 91, 2) rfl) rfl ?_
          refine zx_icmp_eq (pc := 115) (tgt := 128) G rfl (z_dec T_X12_goesOn_ok 64 (115, .if_icmp .eq 13, 3) rfl) (fun hc => ?_) (fun hc => ?_)
          · replace h := z_pos hc h
            refine zx_sub (lv' := [(0, .ref (0)), (1, .int (r2))]) [1, 0] rfl ?_
            exact L_X12_goesOn_128_ok G hr hlk hI h_o h
          · replace h := z_neg hc h
            refine zx_aload_n (pc := 118) G (some (0)) 1 rfl rfl (z_dec T_X12_goesOn_ok 65 (118, .aload_n 0, 1) rfl) ?_
            refine zx_callV_iN (pc := 119) (rm := rm_X12_top) G cw_RX12_300 ⟨Nat.le_of_ble_eq_true rfl, Nat.le_of_ble_eq_true rfl⟩ rfl rfl ⟨Nat.zero_le _, Nat.zero_le _⟩ h_o rfl (fun sz => (met_X12_top l D ρ kd q μ18 sz  _ hI h_o h)) rfl rfl (Nat.le_of_ble_eq_true rfl) (z_dec T_X12_goesOn_ok 66 (119, .invokevirtual 300, 3) rfl) (fun r21 μ20 hn => ?_)
            clear h
            have h := hn
            clear hn
            refine zx_callS_zN (pc := 122) (rm := rm_X12_isSign) G cw_RX12_329 ⟨Nat.le_of_ble_eq_true rfl, Nat.le_of_ble_eq_true rfl⟩ rfl rfl ⟨Nat.zero_le _, Nat.zero_le _⟩ (fun sz => (met_X12_isSign l D ρ kd q μ20 sz r21 _ hI h)) rfl rfl (Nat.le_of_ble_eq_true rfl) (z_dec T_X12_goesOn_ok 67 (122, .invokestatic 329, 3) rfl) (fun r23 μ22 hzr23 hn => ?_)
            clear h
            have h := hn
            clear hn
            refine zx_if_eq (pc := 125) (tgt := 137) G rfl (z_dec T_X12_goesOn_ok 68 (125, .ifCond .eq 12, 3) rfl) (fun hc => ?_) (fun hc => ?_)
            · replace h := z_pos hc h
              refine zx_sub (lv' := [(0, .ref (0)), (1, .int (r2))]) [1, 0] rfl ?_
              exact L_X12_goesOn_137_ok G hr hlk hI h_o h
            · replace h := z_neg hc h
              refine zx_sub (lv' := [(0, .ref (0)), (1, .int (r2))]) [1, 0] rfl ?_
              exact L_X12_goesOn_128_ok G hr hlk hI h_o h
      · replace h := z_pos hc h
        refine zx_aload_n (pc := 45) G (some (0)) 1 rfl rfl (z_dec T_X12_goesOn_ok 24 (45, .aload_n 0, 1) rfl) ?_
        refine zx_callV_iN (pc := 46) (rm := rm_X12_top) G cw_RX12_300 ⟨Nat.le_of_ble_eq_true rfl, Nat.le_of_ble_eq_true rfl⟩ rfl rfl ⟨Nat.zero_le _, Nat.zero_le _⟩ h_o rfl (fun sz => (met_X12_top l D ρ kd q μ7 sz  _ hI h_o h)) rfl rfl (Nat.le_of_ble_eq_true rfl) (z_dec T_X12_goesOn_ok 25 (46, .invokevirtual 300, 3) rfl) (fun r25 μ24 hn => ?_)
        clear h
        have h := hn
        clear hn
        refine zx_bipush (pc := 49) (v := 91) G (z_dec T_X12_goesOn_ok 26 (49, .bipush 91, 2) rfl) rfl ?_
        refine zx_icmp_eq (pc := 51) (tgt := 65) G rfl (z_dec T_X12_goesOn_ok 27 (51, .if_icmp .eq 14, 3) rfl) (fun hc => ?_) (fun hc => ?_)
        · replace h := z_pos hc h
          refine zx_aload_n (pc := 65) G (some (0)) 1 rfl rfl (z_dec T_X12_goesOn_ok 35 (65, .aload_n 0, 1) rfl) ?_
          refine zx_dup (pc := 66) G rfl (z_dec T_X12_goesOn_ok 36 (66, .dup, 1) rfl) ?_
          refine zx_getI (pc := 67) G gf_RX12_277 rfl h_o (z_dec T_X12_goesOn_ok 37 (67, .getfield 277, 3) rfl) ?_
          refine zx_iconst (pc := 70) (v := 1) G (z_dec T_X12_goesOn_ok 38 (70, .iconst 1, 1) rfl) rfl ?_
          refine zx_isub (pc := 71) G  (z_dec T_X12_goesOn_ok 39 (71, .isub, 1) rfl) ?_
          refine zx_putI (pc := 72) G gf_RX12_277 cf_12 rfl rfl h_o (z_dec T_X12_goesOn_ok 40 (72, .putfield 277, 3) rfl) ?_
          refine zx_aload_n (pc := 75) G (some (0)) 1 rfl rfl (z_dec T_X12_goesOn_ok 41 (75, .aload_n 0, 1) rfl) ?_
          refine zx_dup (pc := 76) G rfl (z_dec T_X12_goesOn_ok 42 (76, .dup, 1) rfl) ?_
          refine zx_getI (pc := 77) G gf_RX12_280 rfl h_o (z_dec T_X12_goesOn_ok 43 (77, .getfield 280, 3) rfl) ?_
          refine zx_iconst (pc := 80) (v := 1) G (z_dec T_X12_goesOn_ok 44 (80, .iconst 1, 1) rfl) rfl ?_
          refine zx_isub (pc := 81) G  (z_dec T_X12_goesOn_ok 45 (81, .isub, 1) rfl) ?_
          refine zx_putI (pc := 82) G gf_RX12_280 cf_12 rfl rfl h_o (z_dec T_X12_goesOn_ok 46 (82, .putfield 280, 3) rfl) ?_
          refine zx_aload_n (pc := 85) G (some (0)) 1 rfl rfl (z_dec T_X12_goesOn_ok 47 (85, .aload_n 0, 1) rfl) ?_
          refine zx_dup (pc := 86) G rfl (z_dec T_X12_goesOn_ok 48 (86, .dup, 1) rfl) ?_
          refine zx_getI (pc := 87) G gf_RX12_261 rfl h_o (z_dec T_X12_goesOn_ok 49 (87, .getfield 261, 3) rfl) ?_
          refine zx_iconst (pc := 90) (v := 1) G (z_dec T_X12_goesOn_ok 50 (90, .iconst 1, 1) rfl) rfl ?_
          refine zx_iadd (pc := 91) G  (z_dec T_X12_goesOn_ok 51 (91, .iadd, 1) rfl) ?_
          refine zx_putI (pc := 92) G gf_RX12_261 cf_12 rfl rfl h_o (z_dec T_X12_goesOn_ok 52 (92, .putfield 261, 3) rfl) ?_
          refine zx_aload_n (pc := 95) G (some (0)) 1 rfl rfl (z_dec T_X12_goesOn_ok 53 (95, .aload_n 0, 1) rfl) ?_
          refine zx_iconst (pc := 96) (v := 1) G (z_dec T_X12_goesOn_ok 54 (96, .iconst 1, 1) rfl) rfl ?_
          refine zx_putZ (pc := 97) G gf_RX12_325 cf_12 rfl rfl (Or.inr rfl) h_o (z_dec T_X12_goesOn_ok 55 (97, .putfield 325, 3) rfl) ?_
          refine zx_iconst (pc := 100) (v := 1) G (z_dec T_X12_goesOn_ok 56 (100, .iconst 1, 1) rfl) rfl ?_
          exact zx_zret (pc := 101) G hr hlk (Nat.le_refl _) (Nat.le_refl _) (Or.inr rfl) (z_dec T_X12_goesOn_ok 57 (101, .ireturn, 1) rfl) ⟨rfl, _, rfl, (Or.inr rfl), h⟩
        · replace h := z_neg hc h
          refine zx_aload_n (pc := 54) G (some (0)) 1 rfl rfl (z_dec T_X12_goesOn_ok 28 (54, .aload_n 0, 1) rfl) ?_
          refine zx_iconst (pc := 55) (v := 1) G (z_dec T_X12_goesOn_ok 29 (55, .iconst 1, 1) rfl) rfl ?_
          refine zx_aload_n (pc := 56) G (some (0)) 1 rfl rfl (z_dec T_X12_goesOn_ok 30 (56, .aload_n 0, 1) rfl) ?_
          refine zx_getI (pc := 57) G gf_RX12_261 rfl h_o (z_dec T_X12_goesOn_ok 31 (57, .getfield 261, 3) rfl) ?_
          refine zx_callV_vN (pc := 60) (rm := rm_X12_wrongs) G cw_RX12_283 ⟨Nat.le_of_ble_eq_true rfl, Nat.le_of_ble_eq_true rfl⟩ rfl rfl ⟨Nat.zero_le _, Nat.zero_le _⟩ h_o rfl (fun sz => (met_X12_wrongs l D ρ kd q μ24 sz ((1 : Int32)) (μ24.1 0 44) _ hI h_o h)) rfl rfl (Nat.le_of_ble_eq_true rfl) (z_dec T_X12_goesOn_ok 32 (60, .invokevirtual 283, 3) rfl) (fun μ26 hn => ?_)
          clear h
          have h := hn
          clear hn
          refine zx_iconst (pc := 63) (v := 0) G (z_dec T_X12_goesOn_ok 33 (63, .iconst 0, 1) rfl) rfl ?_
          exact zx_zret (pc := 64) G hr hlk (Nat.le_refl _) (Nat.le_refl _) (Or.inl rfl) (z_dec T_X12_goesOn_ok 34 (64, .ireturn, 1) rfl) ⟨rfl, _, rfl, (Or.inl rfl), h⟩
    · replace h := z_neg hc h
      refine zx_sub (lv' := [(0, .ref (0)), (1, .int (r2))]) [1, 0] rfl ?_
      exact L_X12_goesOn_19_ok G hr hlk hI h_o h
abbrev rm_X12_pieceOfC : Room := { frames := 4, cells := 0, slots := 0, locals := 87 }
set_option maxRecDepth 100000 in
set_option maxHeartbeats 4000000 in
theorem L_X12_pieceOfC_89_ok {p : Program} {l : Launch} {e : Env} {s : State} {m : MethodId} {args : Array Value} {below : List Frame} {meth : Method} {c : Code} {D : va_G} {A : Nat → Prop} {ρ : z_A} {kd : z_K} {q : z_Q} {μ : z_M} {K : z_M → Prop} (G : z_G p c cX12_pieceOfC s m args RX12 2 D) (hr : meth.sig.returnType = (Option.none : Option Jvm.ClassFile.FieldType)) (hlk : meth.locks = false) (hI : z_I kd q) (f_l0 : kd 0 = some (.inl 12)) (h : L_X12_pieceOfC_89 K μ) : z_X p l e rm_X12_pieceOfC s m args below meth c 2 D A (MQ below (z_Qn D A ρ kd (z_Kv q K)) args s 0 0 A) 0 0 ρ kd q μ 89 [(0, .ref (0))] [] := by
    unfold L_X12_pieceOfC_89 at h
    refine zx_aload_n (pc := 89) G (some (0)) 0 rfl rfl (z_dec T_X12_pieceOfC_ok 43 (89, .aload_n 0, 1) rfl) ?_
    refine zx_callV_zN (pc := 90) (rm := rm_X12_isGood) G cw_RX12_270 ⟨Nat.le_of_ble_eq_true rfl, Nat.le_of_ble_eq_true rfl⟩ rfl rfl ⟨Nat.zero_le _, Nat.zero_le _⟩ f_l0 rfl (fun sz => (met_X12_isGood l D ρ kd q μ sz  _ hI f_l0 h)) rfl rfl (Nat.le_of_ble_eq_true rfl) (z_dec T_X12_pieceOfC_ok 44 (90, .invokevirtual 270, 3) rfl) (fun r2 μ1 hzr2 hn => ?_)
    clear h
    have h := hn
    clear hn
    refine zx_if_eq (pc := 93) (tgt := 100) G rfl (z_dec T_X12_pieceOfC_ok 45 (93, .ifCond .eq 7, 3) rfl) (fun hc => ?_) (fun hc => ?_)
    · replace h := z_pos hc h
      exact zx_vret (pc := 100) G hr hlk (Nat.le_refl _) (Nat.le_refl _) (z_dec T_X12_pieceOfC_ok 48 (100, .return_, 1) rfl) ⟨rfl, rfl, h⟩
    · replace h := z_neg hc h
      refine zx_aload_n (pc := 96) G (some (0)) 0 rfl rfl (z_dec T_X12_pieceOfC_ok 46 (96, .aload_n 0, 1) rfl) ?_
      refine zx_callV_vN (pc := 97) (rm := rm_X12_ends) G cw_RX12_338 ⟨Nat.le_of_ble_eq_true rfl, Nat.le_of_ble_eq_true rfl⟩ rfl rfl ⟨Nat.zero_le _, Nat.zero_le _⟩ f_l0 rfl (fun sz => (met_X12_ends l D ρ kd q μ1 sz  _ hI f_l0 h)) rfl rfl (Nat.le_of_ble_eq_true rfl) (z_dec T_X12_pieceOfC_ok 47 (97, .invokevirtual 338, 3) rfl) (fun μ3 hn => ?_)
      clear h
      have h := hn
      clear hn
      exact zx_vret (pc := 100) G hr hlk (Nat.le_refl _) (Nat.le_refl _) (z_dec T_X12_pieceOfC_ok 48 (100, .return_, 1) rfl) ⟨rfl, rfl, h⟩
set_option maxRecDepth 100000 in
set_option maxHeartbeats 4000000 in
theorem L_X12_pieceOfC_61_ok {p : Program} {l : Launch} {e : Env} {s : State} {m : MethodId} {args : Array Value} {below : List Frame} {meth : Method} {c : Code} {D : va_G} {A : Nat → Prop} {ρ : z_A} {kd : z_K} {q : z_Q} {μ : z_M} {K : z_M → Prop} {P39 : Int32 → z_M → Prop} (G : z_G p c cX12_pieceOfC s m args RX12 2 D) (hr : meth.sig.returnType = (Option.none : Option Jvm.ClassFile.FieldType)) (hlk : meth.locks = false) (hP39 : ∀ (v1 : Int32) (μ : z_M), P39 v1 μ → (kd 0 = some (.inl 12)) → ((v1 = 0 ∨ v1 = 1)) → z_X p l e rm_X12_pieceOfC s m args below meth c 2 D A (MQ below (z_Qn D A ρ kd (z_Kv q K)) args s 0 0 A) 0 0 ρ kd q μ 39 [(0, .ref (0)), (1, .int (v1))] []) (hI : z_I kd q) (f_l0 : kd 0 = some (.inl 12)) (h : L_X12_pieceOfC_61 K P39 μ) : z_X p l e rm_X12_pieceOfC s m args below meth c 2 D A (MQ below (z_Qn D A ρ kd (z_Kv q K)) args s 0 0 A) 0 0 ρ kd q μ 61 [(0, .ref (0))] [] := by
    unfold L_X12_pieceOfC_61 at h
    refine zx_aload_n (pc := 61) G (some (0)) 0 rfl rfl (z_dec T_X12_pieceOfC_ok 29 (61, .aload_n 0, 1) rfl) ?_
    refine zx_iconst (pc := 62) (v := 0) G (z_dec T_X12_pieceOfC_ok 30 (62, .iconst 0, 1) rfl) rfl ?_
    refine zx_putZ (pc := 63) G gf_RX12_325 cf_12 rfl rfl (Or.inl rfl) f_l0 (z_dec T_X12_pieceOfC_ok 31 (63, .putfield 325, 3) rfl) ?_
    refine zx_aload_n (pc := 66) G (some (0)) 0 rfl rfl (z_dec T_X12_pieceOfC_ok 32 (66, .aload_n 0, 1) rfl) ?_
    refine zx_callV_zN (pc := 67) (rm := rm_X12_isGood) G cw_RX12_270 ⟨Nat.le_of_ble_eq_true rfl, Nat.le_of_ble_eq_true rfl⟩ rfl rfl ⟨Nat.zero_le _, Nat.zero_le _⟩ f_l0 rfl (fun sz => (met_X12_isGood l D ρ kd q (si μ 0 52 ((0 : Int32))) sz  _ hI f_l0 h)) rfl rfl (Nat.le_of_ble_eq_true rfl) (z_dec T_X12_pieceOfC_ok 33 (67, .invokevirtual 270, 3) rfl) (fun r2 μ1 hzr2 hn => ?_)
    clear h
    have h := hn
    clear hn
    refine zx_if_eq (pc := 70) (tgt := 84) G rfl (z_dec T_X12_pieceOfC_ok 34 (70, .ifCond .eq 14, 3) rfl) (fun hc => ?_) (fun hc => ?_)
    · replace h := z_pos hc h
      refine zx_iconst (pc := 84) (v := 0) G (z_dec T_X12_pieceOfC_ok 40 (84, .iconst 0, 1) rfl) rfl ?_
      refine zx_istore_n (pc := 85) (lv' := [(1, .int ((0 : Int32))), (0, .ref (0))]) G rfl (Nat.le_of_ble_eq_true rfl) rfl (z_dec T_X12_pieceOfC_ok 41 (85, .istore_n 1, 1) rfl) ?_
      refine zx_goto (pc := 86) (tgt := 39) G rfl (z_dec T_X12_pieceOfC_ok 42 (86, .goto (-47), 3) rfl) ?_
      refine zx_sub (lv' := [(0, .ref (0)), (1, .int ((0 : Int32)))]) [1, 0] rfl ?_
      exact hP39 _ _ h f_l0 (Or.inl rfl)
    · replace h := z_neg hc h
      refine zx_aload_n (pc := 73) G (some (0)) 0 rfl rfl (z_dec T_X12_pieceOfC_ok 35 (73, .aload_n 0, 1) rfl) ?_
      refine zx_callV_zN (pc := 74) (rm := rm_X12_goesOn) G cw_RX12_335 ⟨Nat.le_of_ble_eq_true rfl, Nat.le_of_ble_eq_true rfl⟩ rfl rfl ⟨Nat.zero_le _, Nat.zero_le _⟩ f_l0 rfl (fun sz => (met_X12_goesOn l D ρ kd q μ1 sz  _ hI f_l0 h)) rfl rfl (Nat.le_of_ble_eq_true rfl) (z_dec T_X12_pieceOfC_ok 36 (74, .invokevirtual 335, 3) rfl) (fun r4 μ3 hzr4 hn => ?_)
      clear h
      have h := hn
      clear hn
      refine zx_if_eq (pc := 77) (tgt := 84) G rfl (z_dec T_X12_pieceOfC_ok 37 (77, .ifCond .eq 7, 3) rfl) (fun hc => ?_) (fun hc => ?_)
      · replace h := z_pos hc h
        refine zx_iconst (pc := 84) (v := 0) G (z_dec T_X12_pieceOfC_ok 40 (84, .iconst 0, 1) rfl) rfl ?_
        refine zx_istore_n (pc := 85) (lv' := [(1, .int ((0 : Int32))), (0, .ref (0))]) G rfl (Nat.le_of_ble_eq_true rfl) rfl (z_dec T_X12_pieceOfC_ok 41 (85, .istore_n 1, 1) rfl) ?_
        refine zx_goto (pc := 86) (tgt := 39) G rfl (z_dec T_X12_pieceOfC_ok 42 (86, .goto (-47), 3) rfl) ?_
        refine zx_sub (lv' := [(0, .ref (0)), (1, .int ((0 : Int32)))]) [1, 0] rfl ?_
        exact hP39 _ _ h f_l0 (Or.inl rfl)
      · replace h := z_neg hc h
        refine zx_iconst (pc := 80) (v := 1) G (z_dec T_X12_pieceOfC_ok 38 (80, .iconst 1, 1) rfl) rfl ?_
        refine zx_goto (pc := 81) (tgt := 85) G rfl (z_dec T_X12_pieceOfC_ok 39 (81, .goto 4, 3) rfl) ?_
        refine zx_istore_n (pc := 85) (lv' := [(1, .int ((1 : Int32))), (0, .ref (0))]) G rfl (Nat.le_of_ble_eq_true rfl) rfl (z_dec T_X12_pieceOfC_ok 41 (85, .istore_n 1, 1) rfl) ?_
        refine zx_goto (pc := 86) (tgt := 39) G rfl (z_dec T_X12_pieceOfC_ok 42 (86, .goto (-47), 3) rfl) ?_
        refine zx_sub (lv' := [(0, .ref (0)), (1, .int ((1 : Int32)))]) [1, 0] rfl ?_
        exact hP39 _ _ h f_l0 (Or.inr rfl)
set_option maxRecDepth 100000 in
set_option maxHeartbeats 4000000 in
theorem B_X12_pieceOfC_39_ok {p : Program} {l : Launch} {e : Env} {s : State} {m : MethodId} {args : Array Value} {below : List Frame} {meth : Method} {c : Code} {D : va_G} {A : Nat → Prop} {ρ : z_A} {kd : z_K} {q : z_Q} {μ : z_M} {K : z_M → Prop} {P39 : Int32 → z_M → Prop} {v1 : Int32} (G : z_G p c cX12_pieceOfC s m args RX12 2 D) (hr : meth.sig.returnType = (Option.none : Option Jvm.ClassFile.FieldType)) (hlk : meth.locks = false) (hP39 : ∀ (v1 : Int32) (μ : z_M), P39 v1 μ → (kd 0 = some (.inl 12)) → ((v1 = 0 ∨ v1 = 1)) → z_X p l e rm_X12_pieceOfC s m args below meth c 2 D A (MQ below (z_Qn D A ρ kd (z_Kv q K)) args s 0 0 A) 0 0 ρ kd q μ 39 [(0, .ref (0)), (1, .int (v1))] []) (hI : z_I kd q) (f_l0 : kd 0 = some (.inl 12)) (f_l1 : (v1 = 0 ∨ v1 = 1)) (h : B_X12_pieceOfC_39 K P39 v1 μ) : z_X p l e rm_X12_pieceOfC s m args below meth c 2 D A (MQ below (z_Qn D A ρ kd (z_Kv q K)) args s 0 0 A) 0 0 ρ kd q μ 39 [(0, .ref (0)), (1, .int (v1))] [] := by
    unfold B_X12_pieceOfC_39 at h
    refine zx_iload_n (pc := 39) G 1 rfl rfl (z_dec T_X12_pieceOfC_ok 19 (39, .iload_n 1, 1) rfl) ?_
    refine zx_if_eq (pc := 40) (tgt := 89) G rfl (z_dec T_X12_pieceOfC_ok 20 (40, .ifCond .eq 49, 3) rfl) (fun hc => ?_) (fun hc => ?_)
    · replace h := z_pos hc h
      refine zx_sub (lv' := [(0, .ref (0))]) [0] rfl ?_
      exact L_X12_pieceOfC_89_ok G hr hlk hI f_l0 h
    · replace h := z_neg hc h
      refine zx_aload_n (pc := 43) G (some (0)) 0 rfl rfl (z_dec T_X12_pieceOfC_ok 21 (43, .aload_n 0, 1) rfl) ?_
      refine zx_callV_zN (pc := 44) (rm := rm_X12_isGood) G cw_RX12_270 ⟨Nat.le_of_ble_eq_true rfl, Nat.le_of_ble_eq_true rfl⟩ rfl rfl ⟨Nat.zero_le _, Nat.zero_le _⟩ f_l0 rfl (fun sz => (met_X12_isGood l D ρ kd q μ sz  _ hI f_l0 h)) rfl rfl (Nat.le_of_ble_eq_true rfl) (z_dec T_X12_pieceOfC_ok 22 (44, .invokevirtual 270, 3) rfl) (fun r2 μ1 hzr2 hn => ?_)
      clear h
      have h := hn
      clear hn
      refine zx_if_eq (pc := 47) (tgt := 89) G rfl (z_dec T_X12_pieceOfC_ok 23 (47, .ifCond .eq 42, 3) rfl) (fun hc => ?_) (fun hc => ?_)
      · replace h := z_pos hc h
        refine zx_sub (lv' := [(0, .ref (0))]) [0] rfl ?_
        exact L_X12_pieceOfC_89_ok G hr hlk hI f_l0 h
      · replace h := z_neg hc h
        refine zx_aload_n (pc := 50) G (some (0)) 0 rfl rfl (z_dec T_X12_pieceOfC_ok 24 (50, .aload_n 0, 1) rfl) ?_
        refine zx_getZ (pc := 51) G gf_RX12_325 rfl f_l0 (z_dec T_X12_pieceOfC_ok 25 (51, .getfield 325, 3) rfl) ?_
        refine zx_if_ne (pc := 54) (tgt := 61) G rfl (z_dec T_X12_pieceOfC_ok 26 (54, .ifCond .ne 7, 3) rfl) (fun hc => ?_) (fun hc => ?_)
        · replace h := z_neg hc h
          refine zx_sub (lv' := [(0, .ref (0))]) [0] rfl ?_
          exact L_X12_pieceOfC_61_ok G hr hlk hP39 hI f_l0 h
        · replace h := z_pos hc h
          refine zx_aload_n (pc := 57) G (some (0)) 0 rfl rfl (z_dec T_X12_pieceOfC_ok 27 (57, .aload_n 0, 1) rfl) ?_
          refine zx_callV_vN (pc := 58) (rm := rm_X12_factor) G cw_RX12_332 ⟨Nat.le_of_ble_eq_true rfl, Nat.le_of_ble_eq_true rfl⟩ rfl rfl ⟨Nat.zero_le _, Nat.zero_le _⟩ f_l0 rfl (fun sz => (met_X12_factor l D ρ kd q μ1 sz  _ hI f_l0 h)) rfl rfl (Nat.le_of_ble_eq_true rfl) (z_dec T_X12_pieceOfC_ok 28 (58, .invokevirtual 332, 3) rfl) (fun μ3 hn => ?_)
          clear h
          have h := hn
          clear hn
          refine zx_sub (lv' := [(0, .ref (0))]) [0] rfl ?_
          exact L_X12_pieceOfC_61_ok G hr hlk hP39 hI f_l0 h
set_option maxRecDepth 100000 in
set_option maxHeartbeats 4000000 in
theorem L_X12_pieceOfC_39_ok {p : Program} {l : Launch} {e : Env} {s : State} {m : MethodId} {args : Array Value} {below : List Frame} {meth : Method} {c : Code} {D : va_G} {A : Nat → Prop} {ρ : z_A} {kd : z_K} {q : z_Q} {μ : z_M} {K : z_M → Prop} {v1 : Int32} (G : z_G p c cX12_pieceOfC s m args RX12 2 D) (hr : meth.sig.returnType = (Option.none : Option Jvm.ClassFile.FieldType)) (hlk : meth.locks = false) (hI : z_I kd q) (f_l0 : kd 0 = some (.inl 12)) (f_l1 : (v1 = 0 ∨ v1 = 1)) (h : L_X12_pieceOfC_39 K v1 μ) : z_X p l e rm_X12_pieceOfC s m args below meth c 2 D A (MQ below (z_Qn D A ρ kd (z_Kv q K)) args s 0 0 A) 0 0 ρ kd q μ 39 [(0, .ref (0)), (1, .int (v1))] [] :=
  h (fun (v1 : Int32) (μ : z_M) => (kd 0 = some (.inl 12)) → ((v1 = 0 ∨ v1 = 1)) → z_X p l e rm_X12_pieceOfC s m args below meth c 2 D A (MQ below (z_Qn D A ρ kd (z_Kv q K)) args s 0 0 A) 0 0 ρ kd q μ 39 [(0, .ref (0)), (1, .int (v1))] []) (fun v1 μ h f_l0 f_l1 => B_X12_pieceOfC_39_ok G hr hlk (fun _ _ h => h) hI f_l0 f_l1 h) f_l0 f_l1
set_option maxRecDepth 100000 in
set_option maxHeartbeats 4000000 in
theorem L_X12_pieceOfC_32_ok {p : Program} {l : Launch} {e : Env} {s : State} {m : MethodId} {args : Array Value} {below : List Frame} {meth : Method} {c : Code} {D : va_G} {A : Nat → Prop} {ρ : z_A} {kd : z_K} {q : z_Q} {μ : z_M} {K : z_M → Prop} (G : z_G p c cX12_pieceOfC s m args RX12 2 D) (hr : meth.sig.returnType = (Option.none : Option Jvm.ClassFile.FieldType)) (hlk : meth.locks = false) (hI : z_I kd q) (f_l0 : kd 0 = some (.inl 12)) (h : L_X12_pieceOfC_32 K μ) : z_X p l e rm_X12_pieceOfC s m args below meth c 2 D A (MQ below (z_Qn D A ρ kd (z_Kv q K)) args s 0 0 A) 0 0 ρ kd q μ 32 [(0, .ref (0))] [] := by
    unfold L_X12_pieceOfC_32 at h
    refine zx_iconst (pc := 32) (v := 1) G (z_dec T_X12_pieceOfC_ok 14 (32, .iconst 1, 1) rfl) rfl ?_
    refine zx_istore_n (pc := 33) (lv' := [(1, .int ((1 : Int32))), (0, .ref (0))]) G rfl (Nat.le_of_ble_eq_true rfl) rfl (z_dec T_X12_pieceOfC_ok 15 (33, .istore_n 1, 1) rfl) ?_
    refine zx_aload_n (pc := 34) G (some (0)) 1 rfl rfl (z_dec T_X12_pieceOfC_ok 16 (34, .aload_n 0, 1) rfl) ?_
    refine zx_iconst (pc := 35) (v := 0) G (z_dec T_X12_pieceOfC_ok 17 (35, .iconst 0, 1) rfl) rfl ?_
    refine zx_putZ (pc := 36) G gf_RX12_325 cf_12 rfl rfl (Or.inl rfl) f_l0 (z_dec T_X12_pieceOfC_ok 18 (36, .putfield 325, 3) rfl) ?_
    refine zx_sub (lv' := [(0, .ref (0)), (1, .int ((1 : Int32)))]) [1, 0] rfl ?_
    exact L_X12_pieceOfC_39_ok G hr hlk hI f_l0 (Or.inr rfl) h
set_option maxRecDepth 100000 in
set_option maxHeartbeats 4000000 in
theorem L_X12_pieceOfC_25_ok {p : Program} {l : Launch} {e : Env} {s : State} {m : MethodId} {args : Array Value} {below : List Frame} {meth : Method} {c : Code} {D : va_G} {A : Nat → Prop} {ρ : z_A} {kd : z_K} {q : z_Q} {μ : z_M} {K : z_M → Prop} {P0 : z_M → Prop} (G : z_G p c cX12_pieceOfC s m args RX12 2 D) (hr : meth.sig.returnType = (Option.none : Option Jvm.ClassFile.FieldType)) (hlk : meth.locks = false) (hP0 : ∀ (μ : z_M), P0 μ → (kd 0 = some (.inl 12)) → z_X p l e rm_X12_pieceOfC s m args below meth c 2 D A (MQ below (z_Qn D A ρ kd (z_Kv q K)) args s 0 0 A) 0 0 ρ kd q μ 0 [(0, .ref (0))] []) (hI : z_I kd q) (f_l0 : kd 0 = some (.inl 12)) (h : L_X12_pieceOfC_25 K P0 μ) : z_X p l e rm_X12_pieceOfC s m args below meth c 2 D A (MQ below (z_Qn D A ρ kd (z_Kv q K)) args s 0 0 A) 0 0 ρ kd q μ 25 [(0, .ref (0))] [] := by
    unfold L_X12_pieceOfC_25 at h
    refine zx_aload_n (pc := 25) G (some (0)) 0 rfl rfl (z_dec T_X12_pieceOfC_ok 11 (25, .aload_n 0, 1) rfl) ?_
    refine zx_callV_vN (pc := 26) (rm := rm_X12_opens) G cw_RX12_312 ⟨Nat.le_of_ble_eq_true rfl, Nat.le_of_ble_eq_true rfl⟩ rfl rfl ⟨Nat.zero_le _, Nat.zero_le _⟩ f_l0 rfl (fun sz => (met_X12_opens l D ρ kd q μ sz  _ hI f_l0 h)) rfl rfl (Nat.le_of_ble_eq_true rfl) (z_dec T_X12_pieceOfC_ok 12 (26, .invokevirtual 312, 3) rfl) (fun μ1 hn => ?_)
    clear h
    have h := hn
    clear hn
    refine zx_goto (pc := 29) (tgt := 0) G rfl (z_dec T_X12_pieceOfC_ok 13 (29, .goto (-29), 3) rfl) ?_
    exact hP0 _ h f_l0
set_option maxRecDepth 100000 in
set_option maxHeartbeats 4000000 in
theorem B_X12_pieceOfC_0_ok {p : Program} {l : Launch} {e : Env} {s : State} {m : MethodId} {args : Array Value} {below : List Frame} {meth : Method} {c : Code} {D : va_G} {A : Nat → Prop} {ρ : z_A} {kd : z_K} {q : z_Q} {μ : z_M} {K : z_M → Prop} {P0 : z_M → Prop} (G : z_G p c cX12_pieceOfC s m args RX12 2 D) (hr : meth.sig.returnType = (Option.none : Option Jvm.ClassFile.FieldType)) (hlk : meth.locks = false) (hP0 : ∀ (μ : z_M), P0 μ → (kd 0 = some (.inl 12)) → z_X p l e rm_X12_pieceOfC s m args below meth c 2 D A (MQ below (z_Qn D A ρ kd (z_Kv q K)) args s 0 0 A) 0 0 ρ kd q μ 0 [(0, .ref (0))] []) (hI : z_I kd q) (f_l0 : kd 0 = some (.inl 12)) (h : B_X12_pieceOfC_0 K P0 μ) : z_X p l e rm_X12_pieceOfC s m args below meth c 2 D A (MQ below (z_Qn D A ρ kd (z_Kv q K)) args s 0 0 A) 0 0 ρ kd q μ 0 [(0, .ref (0))] [] := by
    unfold B_X12_pieceOfC_0 at h
    refine zx_aload_n (pc := 0) G (some (0)) 0 rfl rfl (z_dec T_X12_pieceOfC_ok 0 (0, .aload_n 0, 1) rfl) ?_
    refine zx_callV_zN (pc := 1) (rm := rm_X12_isGood) G cw_RX12_270 ⟨Nat.le_of_ble_eq_true rfl, Nat.le_of_ble_eq_true rfl⟩ rfl rfl ⟨Nat.zero_le _, Nat.zero_le _⟩ f_l0 rfl (fun sz => (met_X12_isGood l D ρ kd q μ sz  _ hI f_l0 h)) rfl rfl (Nat.le_of_ble_eq_true rfl) (z_dec T_X12_pieceOfC_ok 1 (1, .invokevirtual 270, 3) rfl) (fun r2 μ1 hzr2 hn => ?_)
    clear h
    have h := hn
    clear hn
    refine zx_if_eq (pc := 4) (tgt := 32) G rfl (z_dec T_X12_pieceOfC_ok 2 (4, .ifCond .eq 28, 3) rfl) (fun hc => ?_) (fun hc => ?_)
    · replace h := z_pos hc h
      exact L_X12_pieceOfC_32_ok G hr hlk hI f_l0 h
    · replace h := z_neg hc h
      refine zx_aload_n (pc := 7) G (some (0)) 0 rfl rfl (z_dec T_X12_pieceOfC_ok 3 (7, .aload_n 0, 1) rfl) ?_
      refine zx_callV_iN (pc := 8) (rm := rm_X12_here) G cw_RX12_286 ⟨Nat.le_of_ble_eq_true rfl, Nat.le_of_ble_eq_true rfl⟩ rfl rfl ⟨Nat.zero_le _, Nat.zero_le _⟩ f_l0 rfl (fun sz => (met_X12_here l D ρ kd q μ1 sz  _ hI f_l0 h)) rfl rfl (Nat.le_of_ble_eq_true rfl) (z_dec T_X12_pieceOfC_ok 4 (8, .invokevirtual 286, 3) rfl) (fun r4 μ3 hn => ?_)
      clear h
      have h := hn
      clear hn
      refine zx_bipush (pc := 11) (v := 33) G (z_dec T_X12_pieceOfC_ok 5 (11, .bipush 33, 2) rfl) rfl ?_
      refine zx_icmp_eq (pc := 13) (tgt := 25) G rfl (z_dec T_X12_pieceOfC_ok 6 (13, .if_icmp .eq 12, 3) rfl) (fun hc => ?_) (fun hc => ?_)
      · replace h := z_pos hc h
        exact L_X12_pieceOfC_25_ok G hr hlk hP0 hI f_l0 h
      · replace h := z_neg hc h
        refine zx_aload_n (pc := 16) G (some (0)) 0 rfl rfl (z_dec T_X12_pieceOfC_ok 7 (16, .aload_n 0, 1) rfl) ?_
        refine zx_callV_iN (pc := 17) (rm := rm_X12_here) G cw_RX12_286 ⟨Nat.le_of_ble_eq_true rfl, Nat.le_of_ble_eq_true rfl⟩ rfl rfl ⟨Nat.zero_le _, Nat.zero_le _⟩ f_l0 rfl (fun sz => (met_X12_here l D ρ kd q μ3 sz  _ hI f_l0 h)) rfl rfl (Nat.le_of_ble_eq_true rfl) (z_dec T_X12_pieceOfC_ok 8 (17, .invokevirtual 286, 3) rfl) (fun r6 μ5 hn => ?_)
        clear h
        have h := hn
        clear hn
        refine zx_bipush (pc := 20) (v := 40) G (z_dec T_X12_pieceOfC_ok 9 (20, .bipush 40, 2) rfl) rfl ?_
        refine zx_icmp_ne (pc := 22) (tgt := 32) G rfl (z_dec T_X12_pieceOfC_ok 10 (22, .if_icmp .ne 10, 3) rfl) (fun hc => ?_) (fun hc => ?_)
        · replace h := z_neg hc h
          exact L_X12_pieceOfC_32_ok G hr hlk hI f_l0 h
        · replace h := z_pos hc h
          exact L_X12_pieceOfC_25_ok G hr hlk hP0 hI f_l0 h
set_option maxRecDepth 100000 in
set_option maxHeartbeats 4000000 in
theorem L_X12_pieceOfC_0_ok {p : Program} {l : Launch} {e : Env} {s : State} {m : MethodId} {args : Array Value} {below : List Frame} {meth : Method} {c : Code} {D : va_G} {A : Nat → Prop} {ρ : z_A} {kd : z_K} {q : z_Q} {μ : z_M} {K : z_M → Prop} (G : z_G p c cX12_pieceOfC s m args RX12 2 D) (hr : meth.sig.returnType = (Option.none : Option Jvm.ClassFile.FieldType)) (hlk : meth.locks = false) (hI : z_I kd q) (f_l0 : kd 0 = some (.inl 12)) (h : L_X12_pieceOfC_0 K μ) : z_X p l e rm_X12_pieceOfC s m args below meth c 2 D A (MQ below (z_Qn D A ρ kd (z_Kv q K)) args s 0 0 A) 0 0 ρ kd q μ 0 [(0, .ref (0))] [] :=
  h (fun (μ : z_M) => (kd 0 = some (.inl 12)) → z_X p l e rm_X12_pieceOfC s m args below meth c 2 D A (MQ below (z_Qn D A ρ kd (z_Kv q K)) args s 0 0 A) 0 0 ρ kd q μ 0 [(0, .ref (0))] []) (fun  μ h f_l0 => B_X12_pieceOfC_0_ok G hr hlk (fun  _ h => h) hI f_l0 h) f_l0
set_option maxRecDepth 100000 in
set_option maxHeartbeats 4000000 in
theorem met_X12_pieceOfC (l : Launch) (D : va_G) (ρ : z_A) (kd : z_K) (q : z_Q) (μ : z_M) (sz : Nat) (K : z_M → Prop) (hI : z_I kd q) (h_o : kd 0 = some (.inl 12)) (h : C_X12_pieceOfC μ K) : Met l yX12_pieceOfC (z_ws yX12_pieceOfC cX12_pieceOfC 2 (Option.none : Option Jvm.ClassFile.FieldType)) rm_X12_pieceOfC (z_Pc D ρ kd q μ sz [.ref (0)]) (z_Qn D (z_Rg ρ sz) ρ kd (z_Kv q K)) 0 0 (z_Rg ρ sz) := by
  refine z_met (rm := rm_X12_pieceOfC) (by decide) (Nat.le_of_ble_eq_true rfl) (fun p e s m args below meth c G hr hlk => ?_)
  unfold C_X12_pieceOfC at h
  show z_X _ _ _ _ _ _ _ _ _ _ _ _ _ _ _ _ _ _ _ _ _ [(0, .ref (0))] _
  exact L_X12_pieceOfC_0_ok G hr hlk hI h_o h
abbrev rm_X12_goesBehind : Room := { frames := 3, cells := 0, slots := 0, locals := 63 }
set_option maxRecDepth 100000 in
set_option maxHeartbeats 4000000 in
theorem L_X12_goesBehind_29_ok {p : Program} {l : Launch} {e : Env} {s : State} {m : MethodId} {args : Array Value} {below : List Frame} {meth : Method} {c : Code} {D : va_G} {A : Nat → Prop} {ρ : z_A} {kd : z_K} {q : z_Q} {μ : z_M} {K : Int32 → z_M → Prop} {v1 : Int32} {t0 : Int32} (G : z_G p c cX12_goesBehind s m args RX12 2 D) (hr : meth.sig.returnType = (Option.some Jvm.ClassFile.FieldType.boolean)) (hlk : meth.locks = false) (hI : z_I kd q) (f_l0 : kd 0 = some (.inl 12)) (f_s0 : (t0 = 0 ∨ t0 = 1)) (f_s1 : kd 0 = some (.inl 12)) (h : L_X12_goesBehind_29 K v1 t0 μ) : z_X p l e rm_X12_goesBehind s m args below meth c 2 D A (MQ below (z_Qn D A ρ kd (z_Kz q K)) args s 0 0 A) 0 0 ρ kd q μ 29 [(0, .ref (0)), (1, .int (v1))] [.int (t0), .ref (0)] := by
    unfold L_X12_goesBehind_29 at h
    refine zx_callV_vN (pc := 29) (rm := rm_X12_joins) G cw_RX12_341 ⟨Nat.le_of_ble_eq_true rfl, Nat.le_of_ble_eq_true rfl⟩ rfl rfl ⟨Nat.zero_le _, Nat.zero_le _⟩ f_s1 rfl (fun sz => (met_X12_joins l D ρ kd q μ sz t0 _ hI f_s1 f_s0 h)) rfl rfl (Nat.le_of_ble_eq_true rfl) (z_dec T_X12_goesBehind_ok 16 (29, .invokevirtual 341, 3) rfl) (fun μ1 hn => ?_)
    clear h
    have h := hn
    clear hn
    refine zx_aload_n (pc := 32) G (some (0)) 0 rfl rfl (z_dec T_X12_goesBehind_ok 17 (32, .aload_n 0, 1) rfl) ?_
    refine zx_iload_n (pc := 33) G 1 rfl rfl (z_dec T_X12_goesBehind_ok 18 (33, .iload_n 1, 1) rfl) ?_
    refine zx_callV_vN (pc := 34) (rm := rm_X12_puts) G cw_RX12_290 ⟨Nat.le_of_ble_eq_true rfl, Nat.le_of_ble_eq_true rfl⟩ rfl rfl ⟨Nat.zero_le _, Nat.zero_le _⟩ f_l0 rfl (fun sz => (met_X12_puts l D ρ kd q μ1 sz v1 _ hI f_l0 h)) rfl rfl (Nat.le_of_ble_eq_true rfl) (z_dec T_X12_goesBehind_ok 19 (34, .invokevirtual 290, 3) rfl) (fun μ2 hn => ?_)
    clear h
    have h := hn
    clear hn
    refine zx_iconst (pc := 37) (v := 1) G (z_dec T_X12_goesBehind_ok 20 (37, .iconst 1, 1) rfl) rfl ?_
    exact zx_zret (pc := 38) G hr hlk (Nat.le_refl _) (Nat.le_refl _) (Or.inr rfl) (z_dec T_X12_goesBehind_ok 21 (38, .ireturn, 1) rfl) ⟨rfl, _, rfl, (Or.inr rfl), h⟩
set_option maxRecDepth 100000 in
set_option maxHeartbeats 4000000 in
theorem L_X12_goesBehind_17_ok {p : Program} {l : Launch} {e : Env} {s : State} {m : MethodId} {args : Array Value} {below : List Frame} {meth : Method} {c : Code} {D : va_G} {A : Nat → Prop} {ρ : z_A} {kd : z_K} {q : z_Q} {μ : z_M} {K : Int32 → z_M → Prop} {v1 : Int32} (G : z_G p c cX12_goesBehind s m args RX12 2 D) (hr : meth.sig.returnType = (Option.some Jvm.ClassFile.FieldType.boolean)) (hlk : meth.locks = false) (hI : z_I kd q) (f_l0 : kd 0 = some (.inl 12)) (h : L_X12_goesBehind_17 K v1 μ) : z_X p l e rm_X12_goesBehind s m args below meth c 2 D A (MQ below (z_Qn D A ρ kd (z_Kz q K)) args s 0 0 A) 0 0 ρ kd q μ 17 [(0, .ref (0)), (1, .int (v1))] [] := by
    unfold L_X12_goesBehind_17 at h
    refine zx_aload_n (pc := 17) G (some (0)) 0 rfl rfl (z_dec T_X12_goesBehind_ok 9 (17, .aload_n 0, 1) rfl) ?_
    refine zx_iload_n (pc := 18) G 1 rfl rfl (z_dec T_X12_goesBehind_ok 10 (18, .iload_n 1, 1) rfl) ?_
    refine zx_bipush (pc := 19) (v := 124) G (z_dec T_X12_goesBehind_ok 11 (19, .bipush 124, 2) rfl) rfl ?_
    refine zx_icmp_ne (pc := 21) (tgt := 28) G rfl (z_dec T_X12_goesBehind_ok 12 (21, .if_icmp .ne 7, 3) rfl) (fun hc => ?_) (fun hc => ?_)
    · replace h := z_neg hc h
      refine zx_iconst (pc := 28) (v := 0) G (z_dec T_X12_goesBehind_ok 15 (28, .iconst 0, 1) rfl) rfl ?_
      exact L_X12_goesBehind_29_ok G hr hlk hI f_l0 (Or.inl rfl) f_l0 h
    · replace h := z_pos hc h
      refine zx_iconst (pc := 24) (v := 1) G (z_dec T_X12_goesBehind_ok 13 (24, .iconst 1, 1) rfl) rfl ?_
      refine zx_goto (pc := 25) (tgt := 29) G rfl (z_dec T_X12_goesBehind_ok 14 (25, .goto 4, 3) rfl) ?_
      exact L_X12_goesBehind_29_ok G hr hlk hI f_l0 (Or.inr rfl) f_l0 h
set_option maxRecDepth 100000 in
set_option maxHeartbeats 4000000 in
theorem L_X12_goesBehind_104_ok {p : Program} {l : Launch} {e : Env} {s : State} {m : MethodId} {args : Array Value} {below : List Frame} {meth : Method} {c : Code} {D : va_G} {A : Nat → Prop} {ρ : z_A} {kd : z_K} {q : z_Q} {μ : z_M} {K : Int32 → z_M → Prop} {t0 : Int32} (G : z_G p c cX12_goesBehind s m args RX12 2 D) (hr : meth.sig.returnType = (Option.some Jvm.ClassFile.FieldType.boolean)) (hlk : meth.locks = false) (hI : z_I kd q) (f_l0 : kd 0 = some (.inl 12)) (f_s0 : (t0 = 0 ∨ t0 = 1)) (f_s1 : kd 0 = some (.inl 12)) (h : L_X12_goesBehind_104 K t0 μ) : z_X p l e rm_X12_goesBehind s m args below meth c 2 D A (MQ below (z_Qn D A ρ kd (z_Kz q K)) args s 0 0 A) 0 0 ρ kd q μ 104 [(0, .ref (0))] [.int (t0), .ref (0)] := by
    unfold L_X12_goesBehind_104 at h
    refine zx_putZ (pc := 104) G gf_RX12_344 cf_12 rfl rfl f_s0 f_s1 (z_dec T_X12_goesBehind_ok 60 (104, .putfield 344, 3) rfl) ?_
    refine zx_aload_n (pc := 107) G (some (0)) 0 rfl rfl (z_dec T_X12_goesBehind_ok 61 (107, .aload_n 0, 1) rfl) ?_
    refine zx_getZ (pc := 108) G gf_RX12_344 rfl f_l0 (z_dec T_X12_goesBehind_ok 62 (108, .getfield 344, 3) rfl) ?_
    refine zx_if_ne (pc := 111) (tgt := 118) G rfl (z_dec T_X12_goesBehind_ok 63 (111, .ifCond .ne 7, 3) rfl) (fun hc => ?_) (fun hc => ?_)
    · replace h := z_neg hc h
      refine zx_iconst (pc := 118) (v := 0) G (z_dec T_X12_goesBehind_ok 66 (118, .iconst 0, 1) rfl) rfl ?_
      exact zx_zret (pc := 119) G hr hlk (Nat.le_refl _) (Nat.le_refl _) (Or.inl rfl) (z_dec T_X12_goesBehind_ok 67 (119, .ireturn, 1) rfl) ⟨rfl, _, rfl, (Or.inl rfl), h⟩
    · replace h := z_pos hc h
      refine zx_aload_n (pc := 114) G (some (0)) 0 rfl rfl (z_dec T_X12_goesBehind_ok 64 (114, .aload_n 0, 1) rfl) ?_
      refine zx_callV_vN (pc := 115) (rm := rm_X12_ends) G cw_RX12_338 ⟨Nat.le_of_ble_eq_true rfl, Nat.le_of_ble_eq_true rfl⟩ rfl rfl ⟨Nat.zero_le _, Nat.zero_le _⟩ f_l0 rfl (fun sz => (met_X12_ends l D ρ kd q (si μ 0 51 t0) sz  _ hI f_l0 h)) rfl rfl (Nat.le_of_ble_eq_true rfl) (z_dec T_X12_goesBehind_ok 65 (115, .invokevirtual 338, 3) rfl) (fun μ1 hn => ?_)
      clear h
      have h := hn
      clear hn
      refine zx_iconst (pc := 118) (v := 0) G (z_dec T_X12_goesBehind_ok 66 (118, .iconst 0, 1) rfl) rfl ?_
      exact zx_zret (pc := 119) G hr hlk (Nat.le_refl _) (Nat.le_refl _) (Or.inl rfl) (z_dec T_X12_goesBehind_ok 67 (119, .ireturn, 1) rfl) ⟨rfl, _, rfl, (Or.inl rfl), h⟩
set_option maxRecDepth 100000 in
set_option maxHeartbeats 4000000 in
theorem met_X12_goesBehind (l : Launch) (D : va_G) (ρ : z_A) (kd : z_K) (q : z_Q) (μ : z_M) (sz : Nat) (K : Int32 → z_M → Prop) (hI : z_I kd q) (h_o : kd 0 = some (.inl 12)) (h : C_X12_goesBehind μ K) : Met l yX12_goesBehind (z_ws yX12_goesBehind cX12_goesBehind 2 (Option.some Jvm.ClassFile.FieldType.boolean)) rm_X12_goesBehind (z_Pc D ρ kd q μ sz [.ref (0)]) (z_Qn D (z_Rg ρ sz) ρ kd (z_Kz q K)) 0 0 (z_Rg ρ sz) := by
  refine z_met (rm := rm_X12_goesBehind) (by decide) (Nat.le_of_ble_eq_true rfl) (fun p e s m args below meth c G hr hlk => ?_)
  unfold C_X12_goesBehind at h
  show z_X _ _ _ _ _ _ _ _ _ _ _ _ _ _ _ _ _ _ _ _ _ [(0, .ref (0))] _
  refine zx_aload_n (pc := 0) G (some (0)) 0 rfl rfl (z_dec T_X12_goesBehind_ok 0 (0, .aload_n 0, 1) rfl) ?_
  refine zx_callV_iN (pc := 1) (rm := rm_X12_here) G cw_RX12_286 ⟨Nat.le_of_ble_eq_true rfl, Nat.le_of_ble_eq_true rfl⟩ rfl rfl ⟨Nat.zero_le _, Nat.zero_le _⟩ h_o rfl (fun sz => (met_X12_here l D ρ kd q μ sz  _ hI h_o h)) rfl rfl (Nat.le_of_ble_eq_true rfl) (z_dec T_X12_goesBehind_ok 1 (1, .invokevirtual 286, 3) rfl) (fun r2 μ1 hn => ?_)
  clear h
  have h := hn
  clear hn
  refine zx_istore_n (pc := 4) (lv' := [(1, .int (r2)), (0, .ref (0))]) G rfl (Nat.le_of_ble_eq_true rfl) rfl (z_dec T_X12_goesBehind_ok 2 (4, .istore_n 1, 1) rfl) ?_
  refine zx_iload_n (pc := 5) G 0 rfl rfl (z_dec T_X12_goesBehind_ok 3 (5, .iload_n 1, 1) rfl) ?_
  refine zx_bipush (pc := 6) (v := 38) G (z_dec T_X12_goesBehind_ok 4 (6, .bipush 38, 2) rfl) rfl ?_
  refine zx_icmp_eq (pc := 8) (tgt := 17) G rfl (z_dec T_X12_goesBehind_ok 5 (8, .if_icmp .eq 9, 3) rfl) (fun hc => ?_) (fun hc => ?_)
  · replace h := z_pos hc h
    refine zx_sub (lv' := [(0, .ref (0)), (1, .int (r2))]) [1, 0] rfl ?_
    exact L_X12_goesBehind_17_ok G hr hlk hI h_o h
  · replace h := z_neg hc h
    refine zx_iload_n (pc := 11) G 0 rfl rfl (z_dec T_X12_goesBehind_ok 6 (11, .iload_n 1, 1) rfl) ?_
    refine zx_bipush (pc := 12) (v := 124) G (z_dec T_X12_goesBehind_ok 7 (12, .bipush 124, 2) rfl) rfl ?_
    refine zx_icmp_ne (pc := 14) (tgt := 39) G rfl (z_dec T_X12_goesBehind_ok 8 (14, .if_icmp .ne 25, 3) rfl) (fun hc => ?_) (fun hc => ?_)
    · replace h := z_neg hc h
      refine zx_iload_n (pc := 39) G 0 rfl rfl (z_dec T_X12_goesBehind_ok 22 (39, .iload_n 1, 1) rfl) ?_
      refine zx_bipush (pc := 40) (v := 41) G (z_dec T_X12_goesBehind_ok 23 (40, .bipush 41, 2) rfl) rfl ?_
      refine zx_icmp_eq (pc := 42) (tgt := 56) G rfl (z_dec T_X12_goesBehind_ok 24 (42, .if_icmp .eq 14, 3) rfl) (fun hc => ?_) (fun hc => ?_)
      · replace h := z_pos hc h
        refine zx_aload_n (pc := 56) G (some (0)) 1 rfl rfl (z_dec T_X12_goesBehind_ok 32 (56, .aload_n 0, 1) rfl) ?_
        refine zx_iconst (pc := 57) (v := 1) G (z_dec T_X12_goesBehind_ok 33 (57, .iconst 1, 1) rfl) rfl ?_
        refine zx_callV_vN (pc := 58) (rm := rm_X12_joins) G cw_RX12_341 ⟨Nat.le_of_ble_eq_true rfl, Nat.le_of_ble_eq_true rfl⟩ rfl rfl ⟨Nat.zero_le _, Nat.zero_le _⟩ h_o rfl (fun sz => (met_X12_joins l D ρ kd q μ1 sz ((1 : Int32)) _ hI h_o (Or.inr rfl) h)) rfl rfl (Nat.le_of_ble_eq_true rfl) (z_dec T_X12_goesBehind_ok 34 (58, .invokevirtual 341, 3) rfl) (fun μ3 hn => ?_)
        clear h
        have h := hn
        clear hn
        refine zx_aload_n (pc := 61) G (some (0)) 1 rfl rfl (z_dec T_X12_goesBehind_ok 35 (61, .aload_n 0, 1) rfl) ?_
        refine zx_dup (pc := 62) G rfl (z_dec T_X12_goesBehind_ok 36 (62, .dup, 1) rfl) ?_
        refine zx_getI (pc := 63) G gf_RX12_277 rfl h_o (z_dec T_X12_goesBehind_ok 37 (63, .getfield 277, 3) rfl) ?_
        refine zx_iconst (pc := 66) (v := 1) G (z_dec T_X12_goesBehind_ok 38 (66, .iconst 1, 1) rfl) rfl ?_
        refine zx_isub (pc := 67) G  (z_dec T_X12_goesBehind_ok 39 (67, .isub, 1) rfl) ?_
        refine zx_putI (pc := 68) G gf_RX12_277 cf_12 rfl rfl h_o (z_dec T_X12_goesBehind_ok 40 (68, .putfield 277, 3) rfl) ?_
        refine zx_aload_n (pc := 71) G (some (0)) 1 rfl rfl (z_dec T_X12_goesBehind_ok 41 (71, .aload_n 0, 1) rfl) ?_
        refine zx_dup (pc := 72) G rfl (z_dec T_X12_goesBehind_ok 42 (72, .dup, 1) rfl) ?_
        refine zx_getI (pc := 73) G gf_RX12_280 rfl h_o (z_dec T_X12_goesBehind_ok 43 (73, .getfield 280, 3) rfl) ?_
        refine zx_iconst (pc := 76) (v := 1) G (z_dec T_X12_goesBehind_ok 44 (76, .iconst 1, 1) rfl) rfl ?_
        refine zx_isub (pc := 77) G  (z_dec T_X12_goesBehind_ok 45 (77, .isub, 1) rfl) ?_
        refine zx_putI (pc := 78) G gf_RX12_280 cf_12 rfl rfl h_o (z_dec T_X12_goesBehind_ok 46 (78, .putfield 280, 3) rfl) ?_
        refine zx_aload_n (pc := 81) G (some (0)) 1 rfl rfl (z_dec T_X12_goesBehind_ok 47 (81, .aload_n 0, 1) rfl) ?_
        refine zx_dup (pc := 82) G rfl (z_dec T_X12_goesBehind_ok 48 (82, .dup, 1) rfl) ?_
        refine zx_getI (pc := 83) G gf_RX12_261 rfl h_o (z_dec T_X12_goesBehind_ok 49 (83, .getfield 261, 3) rfl) ?_
        refine zx_iconst (pc := 86) (v := 1) G (z_dec T_X12_goesBehind_ok 50 (86, .iconst 1, 1) rfl) rfl ?_
        refine zx_iadd (pc := 87) G  (z_dec T_X12_goesBehind_ok 51 (87, .iadd, 1) rfl) ?_
        refine zx_putI (pc := 88) G gf_RX12_261 cf_12 rfl rfl h_o (z_dec T_X12_goesBehind_ok 52 (88, .putfield 261, 3) rfl) ?_
        refine zx_aload_n (pc := 91) G (some (0)) 1 rfl rfl (z_dec T_X12_goesBehind_ok 53 (91, .aload_n 0, 1) rfl) ?_
        refine zx_aload_n (pc := 92) G (some (0)) 1 rfl rfl (z_dec T_X12_goesBehind_ok 54 (92, .aload_n 0, 1) rfl) ?_
        refine zx_getI (pc := 93) G gf_RX12_277 rfl h_o (z_dec T_X12_goesBehind_ok 55 (93, .getfield 277, 3) rfl) ?_
        refine zx_if_ne (pc := 96) (tgt := 103) G rfl (z_dec T_X12_goesBehind_ok 56 (96, .ifCond .ne 7, 3) rfl) (fun hc => ?_) (fun hc => ?_)
        · replace h := z_neg hc h
          refine zx_iconst (pc := 103) (v := 0) G (z_dec T_X12_goesBehind_ok 59 (103, .iconst 0, 1) rfl) rfl ?_
          refine zx_sub (lv' := [(0, .ref (0))]) [1] rfl ?_
          exact L_X12_goesBehind_104_ok G hr hlk hI h_o (Or.inl rfl) h_o h
        · replace h := z_pos hc h
          refine zx_iconst (pc := 99) (v := 1) G (z_dec T_X12_goesBehind_ok 57 (99, .iconst 1, 1) rfl) rfl ?_
          refine zx_goto (pc := 100) (tgt := 104) G rfl (z_dec T_X12_goesBehind_ok 58 (100, .goto 4, 3) rfl) ?_
          refine zx_sub (lv' := [(0, .ref (0))]) [1] rfl ?_
          exact L_X12_goesBehind_104_ok G hr hlk hI h_o (Or.inr rfl) h_o h
      · replace h := z_neg hc h
        refine zx_aload_n (pc := 45) G (some (0)) 1 rfl rfl (z_dec T_X12_goesBehind_ok 25 (45, .aload_n 0, 1) rfl) ?_
        refine zx_iconst (pc := 46) (v := 1) G (z_dec T_X12_goesBehind_ok 26 (46, .iconst 1, 1) rfl) rfl ?_
        refine zx_aload_n (pc := 47) G (some (0)) 1 rfl rfl (z_dec T_X12_goesBehind_ok 27 (47, .aload_n 0, 1) rfl) ?_
        refine zx_getI (pc := 48) G gf_RX12_261 rfl h_o (z_dec T_X12_goesBehind_ok 28 (48, .getfield 261, 3) rfl) ?_
        refine zx_callV_vN (pc := 51) (rm := rm_X12_wrongs) G cw_RX12_283 ⟨Nat.le_of_ble_eq_true rfl, Nat.le_of_ble_eq_true rfl⟩ rfl rfl ⟨Nat.zero_le _, Nat.zero_le _⟩ h_o rfl (fun sz => (met_X12_wrongs l D ρ kd q μ1 sz ((1 : Int32)) (μ1.1 0 44) _ hI h_o h)) rfl rfl (Nat.le_of_ble_eq_true rfl) (z_dec T_X12_goesBehind_ok 29 (51, .invokevirtual 283, 3) rfl) (fun μ4 hn => ?_)
        clear h
        have h := hn
        clear hn
        refine zx_iconst (pc := 54) (v := 0) G (z_dec T_X12_goesBehind_ok 30 (54, .iconst 0, 1) rfl) rfl ?_
        exact zx_zret (pc := 55) G hr hlk (Nat.le_refl _) (Nat.le_refl _) (Or.inl rfl) (z_dec T_X12_goesBehind_ok 31 (55, .ireturn, 1) rfl) ⟨rfl, _, rfl, (Or.inl rfl), h⟩
    · replace h := z_pos hc h
      refine zx_sub (lv' := [(0, .ref (0)), (1, .int (r2))]) [1, 0] rfl ?_
      exact L_X12_goesBehind_17_ok G hr hlk hI h_o h
abbrev rm_X12_condition : Room := { frames := 5, cells := 0, slots := 0, locals := 108 }
set_option maxRecDepth 100000 in
set_option maxHeartbeats 4000000 in
theorem L_X12_condition_69_ok {p : Program} {l : Launch} {e : Env} {s : State} {m : MethodId} {args : Array Value} {below : List Frame} {meth : Method} {c : Code} {D : va_G} {A : Nat → Prop} {ρ : z_A} {kd : z_K} {q : z_Q} {μ : z_M} {K : z_M → Prop} {P47 : Int32 → z_M → Prop} {v1 : Int32} (G : z_G p c cX12_condition s m args RX12 2 D) (hr : meth.sig.returnType = (Option.none : Option Jvm.ClassFile.FieldType)) (hlk : meth.locks = false) (hP47 : ∀ (v1 : Int32) (μ : z_M), P47 v1 μ → (kd 0 = some (.inl 12)) → ((v1 = 0 ∨ v1 = 1)) → z_X p l e rm_X12_condition s m args below meth c 2 D A (MQ below (z_Qn D A ρ kd (z_Kv q K)) args s 0 0 A) 0 0 ρ kd q μ 47 [(0, .ref (0)), (1, .int (v1))] []) (hI : z_I kd q) (f_l0 : kd 0 = some (.inl 12)) (f_l1 : (v1 = 0 ∨ v1 = 1)) (h : L_X12_condition_69 K P47 v1 μ) : z_X p l e rm_X12_condition s m args below meth c 2 D A (MQ below (z_Qn D A ρ kd (z_Kv q K)) args s 0 0 A) 0 0 ρ kd q μ 69 [(0, .ref (0)), (1, .int (v1))] [] := by
    unfold L_X12_condition_69 at h
    refine zx_aload_n (pc := 69) G (some (0)) 0 rfl rfl (z_dec T_X12_condition_ok 36 (69, .aload_n 0, 1) rfl) ?_
    refine zx_callV_zN (pc := 70) (rm := rm_X12_isGood) G cw_RX12_270 ⟨Nat.le_of_ble_eq_true rfl, Nat.le_of_ble_eq_true rfl⟩ rfl rfl ⟨Nat.zero_le _, Nat.zero_le _⟩ f_l0 rfl (fun sz => (met_X12_isGood l D ρ kd q μ sz  _ hI f_l0 h)) rfl rfl (Nat.le_of_ble_eq_true rfl) (z_dec T_X12_condition_ok 37 (70, .invokevirtual 270, 3) rfl) (fun r2 μ1 hzr2 hn => ?_)
    clear h
    have h := hn
    clear hn
    refine zx_if_eq (pc := 73) (tgt := 47) G rfl (z_dec T_X12_condition_ok 38 (73, .ifCond .eq (-26), 3) rfl) (fun hc => ?_) (fun hc => ?_)
    · replace h := z_pos hc h
      exact hP47 _ _ h f_l0 f_l1
    · replace h := z_neg hc h
      refine zx_aload_n (pc := 76) G (some (0)) 0 rfl rfl (z_dec T_X12_condition_ok 39 (76, .aload_n 0, 1) rfl) ?_
      refine zx_callV_zN (pc := 77) (rm := rm_X12_goesBehind) G cw_RX12_350 ⟨Nat.le_of_ble_eq_true rfl, Nat.le_of_ble_eq_true rfl⟩ rfl rfl ⟨Nat.zero_le _, Nat.zero_le _⟩ f_l0 rfl (fun sz => (met_X12_goesBehind l D ρ kd q μ1 sz  _ hI f_l0 h)) rfl rfl (Nat.le_of_ble_eq_true rfl) (z_dec T_X12_condition_ok 40 (77, .invokevirtual 350, 3) rfl) (fun r4 μ3 hzr4 hn => ?_)
      clear h
      have h := hn
      clear hn
      refine zx_istore_n (pc := 80) (lv' := [(1, .int (r4)), (0, .ref (0))]) G rfl (Nat.le_of_ble_eq_true rfl) rfl (z_dec T_X12_condition_ok 41 (80, .istore_n 1, 1) rfl) ?_
      refine zx_goto (pc := 81) (tgt := 47) G rfl (z_dec T_X12_condition_ok 42 (81, .goto (-34), 3) rfl) ?_
      refine zx_sub (lv' := [(0, .ref (0)), (1, .int (r4))]) [1, 0] rfl ?_
      exact hP47 _ _ h f_l0 hzr4
set_option maxRecDepth 100000 in
set_option maxHeartbeats 4000000 in
theorem B_X12_condition_47_ok {p : Program} {l : Launch} {e : Env} {s : State} {m : MethodId} {args : Array Value} {below : List Frame} {meth : Method} {c : Code} {D : va_G} {A : Nat → Prop} {ρ : z_A} {kd : z_K} {q : z_Q} {μ : z_M} {K : z_M → Prop} {P47 : Int32 → z_M → Prop} {v1 : Int32} (G : z_G p c cX12_condition s m args RX12 2 D) (hr : meth.sig.returnType = (Option.none : Option Jvm.ClassFile.FieldType)) (hlk : meth.locks = false) (hP47 : ∀ (v1 : Int32) (μ : z_M), P47 v1 μ → (kd 0 = some (.inl 12)) → ((v1 = 0 ∨ v1 = 1)) → z_X p l e rm_X12_condition s m args below meth c 2 D A (MQ below (z_Qn D A ρ kd (z_Kv q K)) args s 0 0 A) 0 0 ρ kd q μ 47 [(0, .ref (0)), (1, .int (v1))] []) (hI : z_I kd q) (f_l0 : kd 0 = some (.inl 12)) (f_l1 : (v1 = 0 ∨ v1 = 1)) (h : B_X12_condition_47 K P47 v1 μ) : z_X p l e rm_X12_condition s m args below meth c 2 D A (MQ below (z_Qn D A ρ kd (z_Kv q K)) args s 0 0 A) 0 0 ρ kd q μ 47 [(0, .ref (0)), (1, .int (v1))] [] := by
    unfold B_X12_condition_47 at h
    refine zx_aload_n (pc := 47) G (some (0)) 0 rfl rfl (z_dec T_X12_condition_ok 26 (47, .aload_n 0, 1) rfl) ?_
    refine zx_callV_zN (pc := 48) (rm := rm_X12_isGood) G cw_RX12_270 ⟨Nat.le_of_ble_eq_true rfl, Nat.le_of_ble_eq_true rfl⟩ rfl rfl ⟨Nat.zero_le _, Nat.zero_le _⟩ f_l0 rfl (fun sz => (met_X12_isGood l D ρ kd q μ sz  _ hI f_l0 h)) rfl rfl (Nat.le_of_ble_eq_true rfl) (z_dec T_X12_condition_ok 27 (48, .invokevirtual 270, 3) rfl) (fun r2 μ1 hzr2 hn => ?_)
    clear h
    have h := hn
    clear hn
    refine zx_if_eq (pc := 51) (tgt := 84) G rfl (z_dec T_X12_condition_ok 28 (51, .ifCond .eq 33, 3) rfl) (fun hc => ?_) (fun hc => ?_)
    · replace h := z_pos hc h
      exact zx_vret (pc := 84) G hr hlk (Nat.le_refl _) (Nat.le_refl _) (z_dec T_X12_condition_ok 43 (84, .return_, 1) rfl) ⟨rfl, rfl, h⟩
    · replace h := z_neg hc h
      refine zx_aload_n (pc := 54) G (some (0)) 0 rfl rfl (z_dec T_X12_condition_ok 29 (54, .aload_n 0, 1) rfl) ?_
      refine zx_getZ (pc := 55) G gf_RX12_344 rfl f_l0 (z_dec T_X12_condition_ok 30 (55, .getfield 344, 3) rfl) ?_
      refine zx_if_ne (pc := 58) (tgt := 84) G rfl (z_dec T_X12_condition_ok 31 (58, .ifCond .ne 26, 3) rfl) (fun hc => ?_) (fun hc => ?_)
      · replace h := z_neg hc h
        exact zx_vret (pc := 84) G hr hlk (Nat.le_refl _) (Nat.le_refl _) (z_dec T_X12_condition_ok 43 (84, .return_, 1) rfl) ⟨rfl, rfl, h⟩
      · replace h := z_pos hc h
        refine zx_iload_n (pc := 61) G 1 rfl rfl (z_dec T_X12_condition_ok 32 (61, .iload_n 1, 1) rfl) ?_
        refine zx_if_eq (pc := 62) (tgt := 69) G rfl (z_dec T_X12_condition_ok 33 (62, .ifCond .eq 7, 3) rfl) (fun hc => ?_) (fun hc => ?_)
        · replace h := z_pos hc h
          exact L_X12_condition_69_ok G hr hlk hP47 hI f_l0 f_l1 h
        · replace h := z_neg hc h
          refine zx_aload_n (pc := 65) G (some (0)) 0 rfl rfl (z_dec T_X12_condition_ok 34 (65, .aload_n 0, 1) rfl) ?_
          refine zx_callV_vN (pc := 66) (rm := rm_X12_pieceOfC) G cw_RX12_347 ⟨Nat.le_of_ble_eq_true rfl, Nat.le_of_ble_eq_true rfl⟩ rfl rfl ⟨Nat.zero_le _, Nat.zero_le _⟩ f_l0 rfl (fun sz => (met_X12_pieceOfC l D ρ kd q μ1 sz  _ hI f_l0 h)) rfl rfl (Nat.le_of_ble_eq_true rfl) (z_dec T_X12_condition_ok 35 (66, .invokevirtual 347, 3) rfl) (fun μ3 hn => ?_)
          clear h
          have h := hn
          clear hn
          exact L_X12_condition_69_ok G hr hlk hP47 hI f_l0 f_l1 h
set_option maxRecDepth 100000 in
set_option maxHeartbeats 4000000 in
theorem L_X12_condition_47_ok {p : Program} {l : Launch} {e : Env} {s : State} {m : MethodId} {args : Array Value} {below : List Frame} {meth : Method} {c : Code} {D : va_G} {A : Nat → Prop} {ρ : z_A} {kd : z_K} {q : z_Q} {μ : z_M} {K : z_M → Prop} {v1 : Int32} (G : z_G p c cX12_condition s m args RX12 2 D) (hr : meth.sig.returnType = (Option.none : Option Jvm.ClassFile.FieldType)) (hlk : meth.locks = false) (hI : z_I kd q) (f_l0 : kd 0 = some (.inl 12)) (f_l1 : (v1 = 0 ∨ v1 = 1)) (h : L_X12_condition_47 K v1 μ) : z_X p l e rm_X12_condition s m args below meth c 2 D A (MQ below (z_Qn D A ρ kd (z_Kv q K)) args s 0 0 A) 0 0 ρ kd q μ 47 [(0, .ref (0)), (1, .int (v1))] [] :=
  h (fun (v1 : Int32) (μ : z_M) => (kd 0 = some (.inl 12)) → ((v1 = 0 ∨ v1 = 1)) → z_X p l e rm_X12_condition s m args below meth c 2 D A (MQ below (z_Qn D A ρ kd (z_Kv q K)) args s 0 0 A) 0 0 ρ kd q μ 47 [(0, .ref (0)), (1, .int (v1))] []) (fun v1 μ h f_l0 f_l1 => B_X12_condition_47_ok G hr hlk (fun _ _ h => h) hI f_l0 f_l1 h) f_l0 f_l1
set_option maxRecDepth 100000 in
set_option maxHeartbeats 4000000 in
theorem L_X12_condition_33_ok {p : Program} {l : Launch} {e : Env} {s : State} {m : MethodId} {args : Array Value} {below : List Frame} {meth : Method} {c : Code} {D : va_G} {A : Nat → Prop} {ρ : z_A} {kd : z_K} {q : z_Q} {μ : z_M} {K : z_M → Prop} (G : z_G p c cX12_condition s m args RX12 2 D) (hr : meth.sig.returnType = (Option.none : Option Jvm.ClassFile.FieldType)) (hlk : meth.locks = false) (hI : z_I kd q) (f_l0 : kd 0 = some (.inl 12)) (h : L_X12_condition_33 K μ) : z_X p l e rm_X12_condition s m args below meth c 2 D A (MQ below (z_Qn D A ρ kd (z_Kv q K)) args s 0 0 A) 0 0 ρ kd q μ 33 [(0, .ref (0))] [] := by
    unfold L_X12_condition_33 at h
    refine zx_aload_n (pc := 33) G (some (0)) 0 rfl rfl (z_dec T_X12_condition_ok 18 (33, .aload_n 0, 1) rfl) ?_
    refine zx_callV_zN (pc := 34) (rm := rm_X12_isGood) G cw_RX12_270 ⟨Nat.le_of_ble_eq_true rfl, Nat.le_of_ble_eq_true rfl⟩ rfl rfl ⟨Nat.zero_le _, Nat.zero_le _⟩ f_l0 rfl (fun sz => (met_X12_isGood l D ρ kd q μ sz  _ hI f_l0 h)) rfl rfl (Nat.le_of_ble_eq_true rfl) (z_dec T_X12_condition_ok 19 (34, .invokevirtual 270, 3) rfl) (fun r2 μ1 hzr2 hn => ?_)
    clear h
    have h := hn
    clear hn
    refine zx_if_ne (pc := 37) (tgt := 41) G rfl (z_dec T_X12_condition_ok 20 (37, .ifCond .ne 4, 3) rfl) (fun hc => ?_) (fun hc => ?_)
    · replace h := z_neg hc h
      refine zx_aload_n (pc := 41) G (some (0)) 0 rfl rfl (z_dec T_X12_condition_ok 22 (41, .aload_n 0, 1) rfl) ?_
      refine zx_callV_vN (pc := 42) (rm := rm_X12_opens) G cw_RX12_312 ⟨Nat.le_of_ble_eq_true rfl, Nat.le_of_ble_eq_true rfl⟩ rfl rfl ⟨Nat.zero_le _, Nat.zero_le _⟩ f_l0 rfl (fun sz => (met_X12_opens l D ρ kd q μ1 sz  _ hI f_l0 h)) rfl rfl (Nat.le_of_ble_eq_true rfl) (z_dec T_X12_condition_ok 23 (42, .invokevirtual 312, 3) rfl) (fun μ3 hn => ?_)
      clear h
      have h := hn
      clear hn
      refine zx_iconst (pc := 45) (v := 1) G (z_dec T_X12_condition_ok 24 (45, .iconst 1, 1) rfl) rfl ?_
      refine zx_istore_n (pc := 46) (lv' := [(1, .int ((1 : Int32))), (0, .ref (0))]) G rfl (Nat.le_of_ble_eq_true rfl) rfl (z_dec T_X12_condition_ok 25 (46, .istore_n 1, 1) rfl) ?_
      refine zx_sub (lv' := [(0, .ref (0)), (1, .int ((1 : Int32)))]) [1, 0] rfl ?_
      exact L_X12_condition_47_ok G hr hlk hI f_l0 (Or.inr rfl) h
    · replace h := z_pos hc h
      exact zx_vret (pc := 40) G hr hlk (Nat.le_refl _) (Nat.le_refl _) (z_dec T_X12_condition_ok 21 (40, .return_, 1) rfl) ⟨rfl, rfl, h⟩
set_option maxRecDepth 100000 in
set_option maxHeartbeats 4000000 in
theorem met_X12_condition (l : Launch) (D : va_G) (ρ : z_A) (kd : z_K) (q : z_Q) (μ : z_M) (sz : Nat) (K : z_M → Prop) (hI : z_I kd q) (h_o : kd 0 = some (.inl 12)) (h : C_X12_condition μ K) : Met l yX12_condition (z_ws yX12_condition cX12_condition 2 (Option.none : Option Jvm.ClassFile.FieldType)) rm_X12_condition (z_Pc D ρ kd q μ sz [.ref (0)]) (z_Qn D (z_Rg ρ sz) ρ kd (z_Kv q K)) 0 0 (z_Rg ρ sz) := by
  refine z_met (rm := rm_X12_condition) (by decide) (Nat.le_of_ble_eq_true rfl) (fun p e s m args below meth c G hr hlk => ?_)
  unfold C_X12_condition at h
  show z_X _ _ _ _ _ _ _ _ _ _ _ _ _ _ _ _ _ _ _ _ _ [(0, .ref (0))] _
  refine zx_aload_n (pc := 0) G (some (0)) 0 rfl rfl (z_dec T_X12_condition_ok 0 (0, .aload_n 0, 1) rfl) ?_
  refine zx_iconst (pc := 1) (v := 0) G (z_dec T_X12_condition_ok 1 (1, .iconst 0, 1) rfl) rfl ?_
  refine zx_putI (pc := 2) G gf_RX12_277 cf_12 rfl rfl h_o (z_dec T_X12_condition_ok 2 (2, .putfield 277, 3) rfl) ?_
  refine zx_aload_n (pc := 5) G (some (0)) 0 rfl rfl (z_dec T_X12_condition_ok 3 (5, .aload_n 0, 1) rfl) ?_
  refine zx_iconst (pc := 6) (v := 0) G (z_dec T_X12_condition_ok 4 (6, .iconst 0, 1) rfl) rfl ?_
  refine zx_putI (pc := 7) G gf_RX12_280 cf_12 rfl rfl h_o (z_dec T_X12_condition_ok 5 (7, .putfield 280, 3) rfl) ?_
  refine zx_aload_n (pc := 10) G (some (0)) 0 rfl rfl (z_dec T_X12_condition_ok 6 (10, .aload_n 0, 1) rfl) ?_
  refine zx_iconst (pc := 11) (v := 0) G (z_dec T_X12_condition_ok 7 (11, .iconst 0, 1) rfl) rfl ?_
  refine zx_putZ (pc := 12) G gf_RX12_344 cf_12 rfl rfl (Or.inl rfl) h_o (z_dec T_X12_condition_ok 8 (12, .putfield 344, 3) rfl) ?_
  refine zx_aload_n (pc := 15) G (some (0)) 0 rfl rfl (z_dec T_X12_condition_ok 9 (15, .aload_n 0, 1) rfl) ?_
  refine zx_callV_iN (pc := 16) (rm := rm_X12_here) G cw_RX12_286 ⟨Nat.le_of_ble_eq_true rfl, Nat.le_of_ble_eq_true rfl⟩ rfl rfl ⟨Nat.zero_le _, Nat.zero_le _⟩ h_o rfl (fun sz => (met_X12_here l D ρ kd q (si (si (si μ 0 50 ((0 : Int32))) 0 49 ((0 : Int32))) 0 51 ((0 : Int32))) sz  _ hI h_o h)) rfl rfl (Nat.le_of_ble_eq_true rfl) (z_dec T_X12_condition_ok 10 (16, .invokevirtual 286, 3) rfl) (fun r2 μ1 hn => ?_)
  clear h
  have h := hn
  clear hn
  refine zx_bipush (pc := 19) (v := 40) G (z_dec T_X12_condition_ok 11 (19, .bipush 40, 2) rfl) rfl ?_
  refine zx_icmp_eq (pc := 21) (tgt := 33) G rfl (z_dec T_X12_condition_ok 12 (21, .if_icmp .eq 12, 3) rfl) (fun hc => ?_) (fun hc => ?_)
  · replace h := z_pos hc h
    exact L_X12_condition_33_ok G hr hlk hI h_o h
  · replace h := z_neg hc h
    refine zx_aload_n (pc := 24) G (some (0)) 0 rfl rfl (z_dec T_X12_condition_ok 13 (24, .aload_n 0, 1) rfl) ?_
    refine zx_iconst (pc := 25) (v := 1) G (z_dec T_X12_condition_ok 14 (25, .iconst 1, 1) rfl) rfl ?_
    refine zx_aload_n (pc := 26) G (some (0)) 0 rfl rfl (z_dec T_X12_condition_ok 15 (26, .aload_n 0, 1) rfl) ?_
    refine zx_getI (pc := 27) G gf_RX12_261 rfl h_o (z_dec T_X12_condition_ok 16 (27, .getfield 261, 3) rfl) ?_
    refine zx_callV_vN (pc := 30) (rm := rm_X12_wrongs) G cw_RX12_283 ⟨Nat.le_of_ble_eq_true rfl, Nat.le_of_ble_eq_true rfl⟩ rfl rfl ⟨Nat.zero_le _, Nat.zero_le _⟩ h_o rfl (fun sz => (met_X12_wrongs l D ρ kd q μ1 sz ((1 : Int32)) (μ1.1 0 44) _ hI h_o h)) rfl rfl (Nat.le_of_ble_eq_true rfl) (z_dec T_X12_condition_ok 17 (30, .invokevirtual 283, 3) rfl) (fun μ3 hn => ?_)
    clear h
    have h := hn
    clear hn
    exact L_X12_condition_33_ok G hr hlk hI h_o h
abbrev rm_X12_digit : Room := { frames := 2, cells := 0, slots := 0, locals := 45 }
set_option maxRecDepth 100000 in
set_option maxHeartbeats 4000000 in
theorem L_X12_digit_37_ok {p : Program} {l : Launch} {e : Env} {s : State} {m : MethodId} {args : Array Value} {below : List Frame} {meth : Method} {c : Code} {D : va_G} {A : Nat → Prop} {ρ : z_A} {kd : z_K} {q : z_Q} {μ : z_M} {K : z_M → Prop} (G : z_G p c cX12_digit s m args RX12 1 D) (hr : meth.sig.returnType = (Option.none : Option Jvm.ClassFile.FieldType)) (hlk : meth.locks = false) (hI : z_I kd q) (f_l0 : kd 0 = some (.inl 12)) (h : L_X12_digit_37 K μ) : z_X p l e rm_X12_digit s m args below meth c 1 D A (MQ below (z_Qn D A ρ kd (z_Kv q K)) args s 0 0 A) 0 0 ρ kd q μ 37 [(0, .ref (0))] [] := by
    unfold L_X12_digit_37 at h
    refine zx_aload_n (pc := 37) G (some (0)) 0 rfl rfl (z_dec T_X12_digit_ok 18 (37, .aload_n 0, 1) rfl) ?_
    refine zx_getF (pc := 38) (b := 40) G gf_RX12_105 rfl f_l0 (zq_12_39 hI f_l0) (z_dec T_X12_digit_ok 19 (38, .getfield 105, 3) rfl) ?_
    refine zx_aload_n (pc := 41) G (some (0)) 0 rfl rfl (z_dec T_X12_digit_ok 20 (41, .aload_n 0, 1) rfl) ?_
    refine zx_getI (pc := 42) G gf_RX12_353 rfl f_l0 (z_dec T_X12_digit_ok 21 (42, .getfield 353, 3) rfl) ?_
    refine zx_aload_n (pc := 45) G (some (0)) 0 rfl rfl (z_dec T_X12_digit_ok 22 (45, .aload_n 0, 1) rfl) ?_
    refine zx_callV_iN (pc := 46) (rm := rm_X12_here) G cw_RX12_286 ⟨Nat.le_of_ble_eq_true rfl, Nat.le_of_ble_eq_true rfl⟩ rfl rfl ⟨Nat.zero_le _, Nat.zero_le _⟩ f_l0 rfl (fun sz => (met_X12_here l D ρ kd q μ sz  _ hI f_l0 h)) rfl rfl (Nat.le_of_ble_eq_true rfl) (z_dec T_X12_digit_ok 23 (46, .invokevirtual 286, 3) rfl) (fun r2 μ1 hn => ?_)
    clear h
    have h := hn
    clear hn
    refine zx_bipush (pc := 49) (v := 48) G (z_dec T_X12_digit_ok 24 (49, .bipush 48, 2) rfl) rfl ?_
    refine zx_isub (pc := 51) G  (z_dec T_X12_digit_ok 25 (51, .isub, 1) rfl) ?_
    obtain ⟨c3, h⟩ := h
    refine zx_iast (pc := 52) G (zk_12_39 hI f_l0) c3 (z_dec T_X12_digit_ok 26 (52, .iastore, 1) rfl) ?_
    refine zx_aload_n (pc := 53) G (some (0)) 0 rfl rfl (z_dec T_X12_digit_ok 27 (53, .aload_n 0, 1) rfl) ?_
    refine zx_dup (pc := 54) G rfl (z_dec T_X12_digit_ok 28 (54, .dup, 1) rfl) ?_
    refine zx_getI (pc := 55) G gf_RX12_261 rfl f_l0 (z_dec T_X12_digit_ok 29 (55, .getfield 261, 3) rfl) ?_
    refine zx_iconst (pc := 58) (v := 1) G (z_dec T_X12_digit_ok 30 (58, .iconst 1, 1) rfl) rfl ?_
    refine zx_iadd (pc := 59) G  (z_dec T_X12_digit_ok 31 (59, .iadd, 1) rfl) ?_
    refine zx_putI (pc := 60) G gf_RX12_261 cf_12 rfl rfl f_l0 (z_dec T_X12_digit_ok 32 (60, .putfield 261, 3) rfl) ?_
    exact zx_vret (pc := 63) G hr hlk (Nat.le_refl _) (Nat.le_refl _) (z_dec T_X12_digit_ok 33 (63, .return_, 1) rfl) ⟨rfl, rfl, h⟩
set_option maxRecDepth 100000 in
set_option maxHeartbeats 4000000 in
theorem met_X12_digit (l : Launch) (D : va_G) (ρ : z_A) (kd : z_K) (q : z_Q) (μ : z_M) (sz : Nat) (K : z_M → Prop) (hI : z_I kd q) (h_o : kd 0 = some (.inl 12)) (h : C_X12_digit μ K) : Met l yX12_digit (z_ws yX12_digit cX12_digit 1 (Option.none : Option Jvm.ClassFile.FieldType)) rm_X12_digit (z_Pc D ρ kd q μ sz [.ref (0)]) (z_Qn D (z_Rg ρ sz) ρ kd (z_Kv q K)) 0 0 (z_Rg ρ sz) := by
  refine z_met (rm := rm_X12_digit) (by decide) (Nat.le_of_ble_eq_true rfl) (fun p e s m args below meth c G hr hlk => ?_)
  unfold C_X12_digit at h
  show z_X _ _ _ _ _ _ _ _ _ _ _ _ _ _ _ _ _ _ _ _ _ [(0, .ref (0))] _
  refine zx_aload_n (pc := 0) G (some (0)) 0 rfl rfl (z_dec T_X12_digit_ok 0 (0, .aload_n 0, 1) rfl) ?_
  refine zx_callV_zN (pc := 1) (rm := rm_X12_seesDigit) G cw_RX12_297 ⟨Nat.le_of_ble_eq_true rfl, Nat.le_of_ble_eq_true rfl⟩ rfl rfl ⟨Nat.zero_le _, Nat.zero_le _⟩ h_o rfl (fun sz => (met_X12_seesDigit l D ρ kd q μ sz  _ hI h_o h)) rfl rfl (Nat.le_of_ble_eq_true rfl) (z_dec T_X12_digit_ok 1 (1, .invokevirtual 297, 3) rfl) (fun r2 μ1 hzr2 hn => ?_)
  clear h
  have h := hn
  clear hn
  refine zx_if_ne (pc := 4) (tgt := 19) G rfl (z_dec T_X12_digit_ok 2 (4, .ifCond .ne 15, 3) rfl) (fun hc => ?_) (fun hc => ?_)
  · replace h := z_neg hc h
    refine zx_aload_n (pc := 19) G (some (0)) 0 rfl rfl (z_dec T_X12_digit_ok 9 (19, .aload_n 0, 1) rfl) ?_
    refine zx_callV_iN (pc := 20) (rm := rm_X12_here) G cw_RX12_286 ⟨Nat.le_of_ble_eq_true rfl, Nat.le_of_ble_eq_true rfl⟩ rfl rfl ⟨Nat.zero_le _, Nat.zero_le _⟩ h_o rfl (fun sz => (met_X12_here l D ρ kd q μ1 sz  _ hI h_o h)) rfl rfl (Nat.le_of_ble_eq_true rfl) (z_dec T_X12_digit_ok 10 (20, .invokevirtual 286, 3) rfl) (fun r4 μ3 hn => ?_)
    clear h
    have h := hn
    clear hn
    refine zx_bipush (pc := 23) (v := 48) G (z_dec T_X12_digit_ok 11 (23, .bipush 48, 2) rfl) rfl ?_
    refine zx_icmp_ne (pc := 25) (tgt := 37) G rfl (z_dec T_X12_digit_ok 12 (25, .if_icmp .ne 12, 3) rfl) (fun hc => ?_) (fun hc => ?_)
    · replace h := z_neg hc h
      exact L_X12_digit_37_ok G hr hlk hI h_o h
    · replace h := z_pos hc h
      refine zx_aload_n (pc := 28) G (some (0)) 0 rfl rfl (z_dec T_X12_digit_ok 13 (28, .aload_n 0, 1) rfl) ?_
      refine zx_iconst (pc := 29) (v := 3) G (z_dec T_X12_digit_ok 14 (29, .iconst 3, 1) rfl) rfl ?_
      refine zx_aload_n (pc := 30) G (some (0)) 0 rfl rfl (z_dec T_X12_digit_ok 15 (30, .aload_n 0, 1) rfl) ?_
      refine zx_getI (pc := 31) G gf_RX12_261 rfl h_o (z_dec T_X12_digit_ok 16 (31, .getfield 261, 3) rfl) ?_
      refine zx_callV_vN (pc := 34) (rm := rm_X12_wrongs) G cw_RX12_283 ⟨Nat.le_of_ble_eq_true rfl, Nat.le_of_ble_eq_true rfl⟩ rfl rfl ⟨Nat.zero_le _, Nat.zero_le _⟩ h_o rfl (fun sz => (met_X12_wrongs l D ρ kd q μ3 sz ((3 : Int32)) (μ3.1 0 44) _ hI h_o h)) rfl rfl (Nat.le_of_ble_eq_true rfl) (z_dec T_X12_digit_ok 17 (34, .invokevirtual 283, 3) rfl) (fun μ5 hn => ?_)
      clear h
      have h := hn
      clear hn
      exact L_X12_digit_37_ok G hr hlk hI h_o h
  · replace h := z_pos hc h
    refine zx_aload_n (pc := 7) G (some (0)) 0 rfl rfl (z_dec T_X12_digit_ok 3 (7, .aload_n 0, 1) rfl) ?_
    refine zx_iconst (pc := 8) (v := 1) G (z_dec T_X12_digit_ok 4 (8, .iconst 1, 1) rfl) rfl ?_
    refine zx_aload_n (pc := 9) G (some (0)) 0 rfl rfl (z_dec T_X12_digit_ok 5 (9, .aload_n 0, 1) rfl) ?_
    refine zx_getI (pc := 10) G gf_RX12_261 rfl h_o (z_dec T_X12_digit_ok 6 (10, .getfield 261, 3) rfl) ?_
    refine zx_callV_vN (pc := 13) (rm := rm_X12_wrongs) G cw_RX12_283 ⟨Nat.le_of_ble_eq_true rfl, Nat.le_of_ble_eq_true rfl⟩ rfl rfl ⟨Nat.zero_le _, Nat.zero_le _⟩ h_o rfl (fun sz => (met_X12_wrongs l D ρ kd q μ1 sz ((1 : Int32)) (μ1.1 0 44) _ hI h_o h)) rfl rfl (Nat.le_of_ble_eq_true rfl) (z_dec T_X12_digit_ok 7 (13, .invokevirtual 283, 3) rfl) (fun μ6 hn => ?_)
    clear h
    have h := hn
    clear hn
    refine zx_goto (pc := 16) (tgt := 37) G rfl (z_dec T_X12_digit_ok 8 (16, .goto 21, 3) rfl) ?_
    exact L_X12_digit_37_ok G hr hlk hI h_o h
abbrev rm_X12_clause : Room := { frames := 6, cells := 0, slots := 0, locals := 129 }
set_option maxRecDepth 100000 in
set_option maxHeartbeats 4000000 in
theorem L_X12_clause_125_ok {p : Program} {l : Launch} {e : Env} {s : State} {m : MethodId} {args : Array Value} {below : List Frame} {meth : Method} {c : Code} {D : va_G} {A : Nat → Prop} {ρ : z_A} {kd : z_K} {q : z_Q} {μ : z_M} {K : z_M → Prop} (G : z_G p c cX12_clause s m args RX12 2 D) (hr : meth.sig.returnType = (Option.none : Option Jvm.ClassFile.FieldType)) (hlk : meth.locks = false) (hI : z_I kd q) (f_l0 : kd 0 = some (.inl 12)) (h : L_X12_clause_125 K μ) : z_X p l e rm_X12_clause s m args below meth c 2 D A (MQ below (z_Qn D A ρ kd (z_Kv q K)) args s 0 0 A) 0 0 ρ kd q μ 125 [(0, .ref (0))] [] := by
    unfold L_X12_clause_125 at h
    refine zx_aload_n (pc := 125) G (some (0)) 0 rfl rfl (z_dec T_X12_clause_ok 66 (125, .aload_n 0, 1) rfl) ?_
    refine zx_getF (pc := 126) (b := 42) G gf_RX12_111 rfl f_l0 (zq_12_41 hI f_l0) (z_dec T_X12_clause_ok 67 (126, .getfield 111, 3) rfl) ?_
    refine zx_aload_n (pc := 129) G (some (0)) 0 rfl rfl (z_dec T_X12_clause_ok 68 (129, .aload_n 0, 1) rfl) ?_
    refine zx_getI (pc := 130) G gf_RX12_353 rfl f_l0 (z_dec T_X12_clause_ok 69 (130, .getfield 353, 3) rfl) ?_
    refine zx_aload_n (pc := 133) G (some (0)) 0 rfl rfl (z_dec T_X12_clause_ok 70 (133, .aload_n 0, 1) rfl) ?_
    refine zx_getI (pc := 134) G gf_RX12_274 rfl f_l0 (z_dec T_X12_clause_ok 71 (134, .getfield 274, 3) rfl) ?_
    obtain ⟨c1, h⟩ := h
    refine zx_iast (pc := 137) G (zk_12_41 hI f_l0) c1 (z_dec T_X12_clause_ok 72 (137, .iastore, 1) rfl) ?_
    refine zx_aload_n (pc := 138) G (some (0)) 0 rfl rfl (z_dec T_X12_clause_ok 73 (138, .aload_n 0, 1) rfl) ?_
    refine zx_dup (pc := 139) G rfl (z_dec T_X12_clause_ok 74 (139, .dup, 1) rfl) ?_
    refine zx_getI (pc := 140) G gf_RX12_353 rfl f_l0 (z_dec T_X12_clause_ok 75 (140, .getfield 353, 3) rfl) ?_
    refine zx_iconst (pc := 143) (v := 1) G (z_dec T_X12_clause_ok 76 (143, .iconst 1, 1) rfl) rfl ?_
    refine zx_iadd (pc := 144) G  (z_dec T_X12_clause_ok 77 (144, .iadd, 1) rfl) ?_
    refine zx_putI (pc := 145) G gf_RX12_353 cf_12 rfl rfl f_l0 (z_dec T_X12_clause_ok 78 (145, .putfield 353, 3) rfl) ?_
    exact zx_vret (pc := 148) G hr hlk (Nat.le_refl _) (Nat.le_refl _) (z_dec T_X12_clause_ok 79 (148, .return_, 1) rfl) ⟨rfl, rfl, h⟩
set_option maxRecDepth 100000 in
set_option maxHeartbeats 4000000 in
theorem L_X12_clause_114_ok {p : Program} {l : Launch} {e : Env} {s : State} {m : MethodId} {args : Array Value} {below : List Frame} {meth : Method} {c : Code} {D : va_G} {A : Nat → Prop} {ρ : z_A} {kd : z_K} {q : z_Q} {μ : z_M} {K : z_M → Prop} (G : z_G p c cX12_clause s m args RX12 2 D) (hr : meth.sig.returnType = (Option.none : Option Jvm.ClassFile.FieldType)) (hlk : meth.locks = false) (hI : z_I kd q) (f_l0 : kd 0 = some (.inl 12)) (h : L_X12_clause_114 K μ) : z_X p l e rm_X12_clause s m args below meth c 2 D A (MQ below (z_Qn D A ρ kd (z_Kv q K)) args s 0 0 A) 0 0 ρ kd q μ 114 [(0, .ref (0))] [] := by
    unfold L_X12_clause_114 at h
    refine zx_aload_n (pc := 114) G (some (0)) 0 rfl rfl (z_dec T_X12_clause_ok 61 (114, .aload_n 0, 1) rfl) ?_
    refine zx_callV_zN (pc := 115) (rm := rm_X12_isGood) G cw_RX12_270 ⟨Nat.le_of_ble_eq_true rfl, Nat.le_of_ble_eq_true rfl⟩ rfl rfl ⟨Nat.zero_le _, Nat.zero_le _⟩ f_l0 rfl (fun sz => (met_X12_isGood l D ρ kd q μ sz  _ hI f_l0 h)) rfl rfl (Nat.le_of_ble_eq_true rfl) (z_dec T_X12_clause_ok 62 (115, .invokevirtual 270, 3) rfl) (fun r2 μ1 hzr2 hn => ?_)
    clear h
    have h := hn
    clear hn
    refine zx_if_eq (pc := 118) (tgt := 125) G rfl (z_dec T_X12_clause_ok 63 (118, .ifCond .eq 7, 3) rfl) (fun hc => ?_) (fun hc => ?_)
    · replace h := z_pos hc h
      exact L_X12_clause_125_ok G hr hlk hI f_l0 h
    · replace h := z_neg hc h
      refine zx_aload_n (pc := 121) G (some (0)) 0 rfl rfl (z_dec T_X12_clause_ok 64 (121, .aload_n 0, 1) rfl) ?_
      refine zx_callV_vN (pc := 122) (rm := rm_X12_condition) G cw_RX12_359 ⟨Nat.le_of_ble_eq_true rfl, Nat.le_of_ble_eq_true rfl⟩ rfl rfl ⟨Nat.zero_le _, Nat.zero_le _⟩ f_l0 rfl (fun sz => (met_X12_condition l D ρ kd q μ1 sz  _ hI f_l0 h)) rfl rfl (Nat.le_of_ble_eq_true rfl) (z_dec T_X12_clause_ok 65 (122, .invokevirtual 359, 3) rfl) (fun μ3 hn => ?_)
      clear h
      have h := hn
      clear hn
      exact L_X12_clause_125_ok G hr hlk hI f_l0 h
set_option maxRecDepth 100000 in
set_option maxHeartbeats 4000000 in
theorem L_X12_clause_53_ok {p : Program} {l : Launch} {e : Env} {s : State} {m : MethodId} {args : Array Value} {below : List Frame} {meth : Method} {c : Code} {D : va_G} {A : Nat → Prop} {ρ : z_A} {kd : z_K} {q : z_Q} {μ : z_M} {K : z_M → Prop} {v1 : Int32} (G : z_G p c cX12_clause s m args RX12 2 D) (hr : meth.sig.returnType = (Option.none : Option Jvm.ClassFile.FieldType)) (hlk : meth.locks = false) (hI : z_I kd q) (f_l0 : kd 0 = some (.inl 12)) (h : L_X12_clause_53 K v1 μ) : z_X p l e rm_X12_clause s m args below meth c 2 D A (MQ below (z_Qn D A ρ kd (z_Kv q K)) args s 0 0 A) 0 0 ρ kd q μ 53 [(0, .ref (0)), (1, .int (v1))] [] := by
    unfold L_X12_clause_53 at h
    refine zx_aload_n (pc := 53) G (some (0)) 0 rfl rfl (z_dec T_X12_clause_ok 27 (53, .aload_n 0, 1) rfl) ?_
    refine zx_callV_zN (pc := 54) (rm := rm_X12_isGood) G cw_RX12_270 ⟨Nat.le_of_ble_eq_true rfl, Nat.le_of_ble_eq_true rfl⟩ rfl rfl ⟨Nat.zero_le _, Nat.zero_le _⟩ f_l0 rfl (fun sz => (met_X12_isGood l D ρ kd q μ sz  _ hI f_l0 h)) rfl rfl (Nat.le_of_ble_eq_true rfl) (z_dec T_X12_clause_ok 28 (54, .invokevirtual 270, 3) rfl) (fun r2 μ1 hzr2 hn => ?_)
    clear h
    have h := hn
    clear hn
    refine zx_if_ne (pc := 57) (tgt := 61) G rfl (z_dec T_X12_clause_ok 29 (57, .ifCond .ne 4, 3) rfl) (fun hc => ?_) (fun hc => ?_)
    · replace h := z_neg hc h
      refine zx_aload_n (pc := 61) G (some (0)) 0 rfl rfl (z_dec T_X12_clause_ok 31 (61, .aload_n 0, 1) rfl) ?_
      refine zx_getF (pc := 62) (b := 39) G gf_RX12_102 rfl f_l0 (zq_12_38 hI f_l0) (z_dec T_X12_clause_ok 32 (62, .getfield 102, 3) rfl) ?_
      refine zx_aload_n (pc := 65) G (some (0)) 0 rfl rfl (z_dec T_X12_clause_ok 33 (65, .aload_n 0, 1) rfl) ?_
      refine zx_getI (pc := 66) G gf_RX12_353 rfl f_l0 (z_dec T_X12_clause_ok 34 (66, .getfield 353, 3) rfl) ?_
      refine zx_iload_n (pc := 69) G 1 rfl rfl (z_dec T_X12_clause_ok 35 (69, .iload_n 1, 1) rfl) ?_
      obtain ⟨c3, h⟩ := h
      refine zx_iast (pc := 70) G (zk_12_38 hI f_l0) c3 (z_dec T_X12_clause_ok 36 (70, .iastore, 1) rfl) ?_
      refine zx_aload_n (pc := 71) G (some (0)) 0 rfl rfl (z_dec T_X12_clause_ok 37 (71, .aload_n 0, 1) rfl) ?_
      refine zx_getF (pc := 72) (b := 40) G gf_RX12_105 rfl f_l0 (zq_12_39 hI f_l0) (z_dec T_X12_clause_ok 38 (72, .getfield 105, 3) rfl) ?_
      refine zx_aload_n (pc := 75) G (some (0)) 0 rfl rfl (z_dec T_X12_clause_ok 39 (75, .aload_n 0, 1) rfl) ?_
      refine zx_getI (pc := 76) G gf_RX12_353 rfl f_l0 (z_dec T_X12_clause_ok 40 (76, .getfield 353, 3) rfl) ?_
      refine zx_iconst (pc := 79) (v := 0) G (z_dec T_X12_clause_ok 41 (79, .iconst 0, 1) rfl) rfl ?_
      obtain ⟨c4, h⟩ := h
      refine zx_iast (pc := 80) G (zk_12_39 hI f_l0) c4 (z_dec T_X12_clause_ok 42 (80, .iastore, 1) rfl) ?_
      refine zx_aload_n (pc := 81) G (some (0)) 0 rfl rfl (z_dec T_X12_clause_ok 43 (81, .aload_n 0, 1) rfl) ?_
      refine zx_getF (pc := 82) (b := 41) G gf_RX12_108 rfl f_l0 (zq_12_40 hI f_l0) (z_dec T_X12_clause_ok 44 (82, .getfield 108, 3) rfl) ?_
      refine zx_aload_n (pc := 85) G (some (0)) 0 rfl rfl (z_dec T_X12_clause_ok 45 (85, .aload_n 0, 1) rfl) ?_
      refine zx_getI (pc := 86) G gf_RX12_353 rfl f_l0 (z_dec T_X12_clause_ok 46 (86, .getfield 353, 3) rfl) ?_
      refine zx_aload_n (pc := 89) G (some (0)) 0 rfl rfl (z_dec T_X12_clause_ok 47 (89, .aload_n 0, 1) rfl) ?_
      refine zx_getI (pc := 90) G gf_RX12_274 rfl f_l0 (z_dec T_X12_clause_ok 48 (90, .getfield 274, 3) rfl) ?_
      obtain ⟨c5, h⟩ := h
      refine zx_iast (pc := 93) G (zk_12_40 hI f_l0) c5 (z_dec T_X12_clause_ok 49 (93, .iastore, 1) rfl) ?_
      refine zx_aload_n (pc := 94) G (some (0)) 0 rfl rfl (z_dec T_X12_clause_ok 50 (94, .aload_n 0, 1) rfl) ?_
      refine zx_dup (pc := 95) G rfl (z_dec T_X12_clause_ok 51 (95, .dup, 1) rfl) ?_
      refine zx_getI (pc := 96) G gf_RX12_261 rfl f_l0 (z_dec T_X12_clause_ok 52 (96, .getfield 261, 3) rfl) ?_
      refine zx_iconst (pc := 99) (v := 1) G (z_dec T_X12_clause_ok 53 (99, .iconst 1, 1) rfl) rfl ?_
      refine zx_iadd (pc := 100) G  (z_dec T_X12_clause_ok 54 (100, .iadd, 1) rfl) ?_
      refine zx_putI (pc := 101) G gf_RX12_261 cf_12 rfl rfl f_l0 (z_dec T_X12_clause_ok 55 (101, .putfield 261, 3) rfl) ?_
      refine zx_iload_n (pc := 104) G 1 rfl rfl (z_dec T_X12_clause_ok 56 (104, .iload_n 1, 1) rfl) ?_
      refine zx_bipush (pc := 105) (v := 99) G (z_dec T_X12_clause_ok 57 (105, .bipush 99, 2) rfl) rfl ?_
      refine zx_icmp_eq (pc := 107) (tgt := 114) G rfl (z_dec T_X12_clause_ok 58 (107, .if_icmp .eq 7, 3) rfl) (fun hc => ?_) (fun hc => ?_)
      · replace h := z_pos hc h
        refine zx_sub (lv' := [(0, .ref (0))]) [0] rfl ?_
        exact L_X12_clause_114_ok G hr hlk hI f_l0 h
      · replace h := z_neg hc h
        refine zx_aload_n (pc := 110) G (some (0)) 0 rfl rfl (z_dec T_X12_clause_ok 59 (110, .aload_n 0, 1) rfl) ?_
        refine zx_callV_vN (pc := 111) (rm := rm_X12_digit) G cw_RX12_356 ⟨Nat.le_of_ble_eq_true rfl, Nat.le_of_ble_eq_true rfl⟩ rfl rfl ⟨Nat.zero_le _, Nat.zero_le _⟩ f_l0 rfl (fun sz => (met_X12_digit l D ρ kd q (si (si (si (si μ1 39 (μ1.1 0 47).toNatClampNeg v1) 40 ((si μ1 39 (μ1.1 0 47).toNatClampNeg v1).1 0 47).toNatClampNeg ((0 : Int32))) 41 ((si (si μ1 39 (μ1.1 0 47).toNatClampNeg v1) 40 ((si μ1 39 (μ1.1 0 47).toNatClampNeg v1).1 0 47).toNatClampNeg ((0 : Int32))).1 0 47).toNatClampNeg ((si (si μ1 39 (μ1.1 0 47).toNatClampNeg v1) 40 ((si μ1 39 (μ1.1 0 47).toNatClampNeg v1).1 0 47).toNatClampNeg ((0 : Int32))).1 0 48)) 0 44 (((si (si (si μ1 39 (μ1.1 0 47).toNatClampNeg v1) 40 ((si μ1 39 (μ1.1 0 47).toNatClampNeg v1).1 0 47).toNatClampNeg ((0 : Int32))) 41 ((si (si μ1 39 (μ1.1 0 47).toNatClampNeg v1) 40 ((si μ1 39 (μ1.1 0 47).toNatClampNeg v1).1 0 47).toNatClampNeg ((0 : Int32))).1 0 47).toNatClampNeg ((si (si μ1 39 (μ1.1 0 47).toNatClampNeg v1) 40 ((si μ1 39 (μ1.1 0 47).toNatClampNeg v1).1 0 47).toNatClampNeg ((0 : Int32))).1 0 48)).1 0 44) + ((1 : Int32)))) sz  _ hI f_l0 h)) rfl rfl (Nat.le_of_ble_eq_true rfl) (z_dec T_X12_clause_ok 60 (111, .invokevirtual 356, 3) rfl) (fun μ6 hn => ?_)
        clear h
        have h := hn
        clear hn
        refine zx_sub (lv' := [(0, .ref (0))]) [0] rfl ?_
        exact L_X12_clause_114_ok G hr hlk hI f_l0 h
    · replace h := z_pos hc h
      exact zx_vret (pc := 60) G hr hlk (Nat.le_refl _) (Nat.le_refl _) (z_dec T_X12_clause_ok 30 (60, .return_, 1) rfl) ⟨rfl, rfl, h⟩
set_option maxRecDepth 100000 in
set_option maxHeartbeats 4000000 in
theorem L_X12_clause_35_ok {p : Program} {l : Launch} {e : Env} {s : State} {m : MethodId} {args : Array Value} {below : List Frame} {meth : Method} {c : Code} {D : va_G} {A : Nat → Prop} {ρ : z_A} {kd : z_K} {q : z_Q} {μ : z_M} {K : z_M → Prop} {v1 : Int32} (G : z_G p c cX12_clause s m args RX12 2 D) (hr : meth.sig.returnType = (Option.none : Option Jvm.ClassFile.FieldType)) (hlk : meth.locks = false) (hI : z_I kd q) (f_l0 : kd 0 = some (.inl 12)) (h : L_X12_clause_35 K v1 μ) : z_X p l e rm_X12_clause s m args below meth c 2 D A (MQ below (z_Qn D A ρ kd (z_Kv q K)) args s 0 0 A) 0 0 ρ kd q μ 35 [(0, .ref (0)), (1, .int (v1))] [] := by
    unfold L_X12_clause_35 at h
    refine zx_aload_n (pc := 35) G (some (0)) 0 rfl rfl (z_dec T_X12_clause_ok 18 (35, .aload_n 0, 1) rfl) ?_
    refine zx_getI (pc := 36) G gf_RX12_353 rfl f_l0 (z_dec T_X12_clause_ok 19 (36, .getfield 353, 3) rfl) ?_
    refine zx_bipush (pc := 39) (v := 12) G (z_dec T_X12_clause_ok 20 (39, .bipush 12, 2) rfl) rfl ?_
    refine zx_icmp_ne (pc := 41) (tgt := 53) G rfl (z_dec T_X12_clause_ok 21 (41, .if_icmp .ne 12, 3) rfl) (fun hc => ?_) (fun hc => ?_)
    · replace h := z_neg hc h
      exact L_X12_clause_53_ok G hr hlk hI f_l0 h
    · replace h := z_pos hc h
      refine zx_aload_n (pc := 44) G (some (0)) 0 rfl rfl (z_dec T_X12_clause_ok 22 (44, .aload_n 0, 1) rfl) ?_
      refine zx_iconst (pc := 45) (v := 4) G (z_dec T_X12_clause_ok 23 (45, .iconst 4, 1) rfl) rfl ?_
      refine zx_aload_n (pc := 46) G (some (0)) 0 rfl rfl (z_dec T_X12_clause_ok 24 (46, .aload_n 0, 1) rfl) ?_
      refine zx_getI (pc := 47) G gf_RX12_261 rfl f_l0 (z_dec T_X12_clause_ok 25 (47, .getfield 261, 3) rfl) ?_
      refine zx_callV_vN (pc := 50) (rm := rm_X12_wrongs) G cw_RX12_283 ⟨Nat.le_of_ble_eq_true rfl, Nat.le_of_ble_eq_true rfl⟩ rfl rfl ⟨Nat.zero_le _, Nat.zero_le _⟩ f_l0 rfl (fun sz => (met_X12_wrongs l D ρ kd q μ sz ((4 : Int32)) (μ.1 0 44) _ hI f_l0 h)) rfl rfl (Nat.le_of_ble_eq_true rfl) (z_dec T_X12_clause_ok 26 (50, .invokevirtual 283, 3) rfl) (fun μ1 hn => ?_)
      clear h
      have h := hn
      clear hn
      exact L_X12_clause_53_ok G hr hlk hI f_l0 h
set_option maxRecDepth 100000 in
set_option maxHeartbeats 4000000 in
theorem met_X12_clause (l : Launch) (D : va_G) (ρ : z_A) (kd : z_K) (q : z_Q) (μ : z_M) (sz : Nat) (K : z_M → Prop) (hI : z_I kd q) (h_o : kd 0 = some (.inl 12)) (h : C_X12_clause μ K) : Met l yX12_clause (z_ws yX12_clause cX12_clause 2 (Option.none : Option Jvm.ClassFile.FieldType)) rm_X12_clause (z_Pc D ρ kd q μ sz [.ref (0)]) (z_Qn D (z_Rg ρ sz) ρ kd (z_Kv q K)) 0 0 (z_Rg ρ sz) := by
  refine z_met (rm := rm_X12_clause) (by decide) (Nat.le_of_ble_eq_true rfl) (fun p e s m args below meth c G hr hlk => ?_)
  unfold C_X12_clause at h
  show z_X _ _ _ _ _ _ _ _ _ _ _ _ _ _ _ _ _ _ _ _ _ [(0, .ref (0))] _
  refine zx_aload_n (pc := 0) G (some (0)) 0 rfl rfl (z_dec T_X12_clause_ok 0 (0, .aload_n 0, 1) rfl) ?_
  refine zx_callV_iN (pc := 1) (rm := rm_X12_here) G cw_RX12_286 ⟨Nat.le_of_ble_eq_true rfl, Nat.le_of_ble_eq_true rfl⟩ rfl rfl ⟨Nat.zero_le _, Nat.zero_le _⟩ h_o rfl (fun sz => (met_X12_here l D ρ kd q μ sz  _ hI h_o h)) rfl rfl (Nat.le_of_ble_eq_true rfl) (z_dec T_X12_clause_ok 1 (1, .invokevirtual 286, 3) rfl) (fun r2 μ1 hn => ?_)
  clear h
  have h := hn
  clear hn
  refine zx_istore_n (pc := 4) (lv' := [(1, .int (r2)), (0, .ref (0))]) G rfl (Nat.le_of_ble_eq_true rfl) rfl (z_dec T_X12_clause_ok 2 (4, .istore_n 1, 1) rfl) ?_
  refine zx_iload_n (pc := 5) G 0 rfl rfl (z_dec T_X12_clause_ok 3 (5, .iload_n 1, 1) rfl) ?_
  refine zx_bipush (pc := 6) (v := 115) G (z_dec T_X12_clause_ok 4 (6, .bipush 115, 2) rfl) rfl ?_
  refine zx_icmp_eq (pc := 8) (tgt := 35) G rfl (z_dec T_X12_clause_ok 5 (8, .if_icmp .eq 27, 3) rfl) (fun hc => ?_) (fun hc => ?_)
  · replace h := z_pos hc h
    refine zx_sub (lv' := [(0, .ref (0)), (1, .int (r2))]) [1, 0] rfl ?_
    exact L_X12_clause_35_ok G hr hlk hI h_o h
  · replace h := z_neg hc h
    refine zx_iload_n (pc := 11) G 0 rfl rfl (z_dec T_X12_clause_ok 6 (11, .iload_n 1, 1) rfl) ?_
    refine zx_bipush (pc := 12) (v := 108) G (z_dec T_X12_clause_ok 7 (12, .bipush 108, 2) rfl) rfl ?_
    refine zx_icmp_eq (pc := 14) (tgt := 35) G rfl (z_dec T_X12_clause_ok 8 (14, .if_icmp .eq 21, 3) rfl) (fun hc => ?_) (fun hc => ?_)
    · replace h := z_pos hc h
      refine zx_sub (lv' := [(0, .ref (0)), (1, .int (r2))]) [1, 0] rfl ?_
      exact L_X12_clause_35_ok G hr hlk hI h_o h
    · replace h := z_neg hc h
      refine zx_iload_n (pc := 17) G 0 rfl rfl (z_dec T_X12_clause_ok 9 (17, .iload_n 1, 1) rfl) ?_
      refine zx_bipush (pc := 18) (v := 99) G (z_dec T_X12_clause_ok 10 (18, .bipush 99, 2) rfl) rfl ?_
      refine zx_icmp_eq (pc := 20) (tgt := 35) G rfl (z_dec T_X12_clause_ok 11 (20, .if_icmp .eq 15, 3) rfl) (fun hc => ?_) (fun hc => ?_)
      · replace h := z_pos hc h
        refine zx_sub (lv' := [(0, .ref (0)), (1, .int (r2))]) [1, 0] rfl ?_
        exact L_X12_clause_35_ok G hr hlk hI h_o h
      · replace h := z_neg hc h
        refine zx_aload_n (pc := 23) G (some (0)) 1 rfl rfl (z_dec T_X12_clause_ok 12 (23, .aload_n 0, 1) rfl) ?_
        refine zx_iconst (pc := 24) (v := 1) G (z_dec T_X12_clause_ok 13 (24, .iconst 1, 1) rfl) rfl ?_
        refine zx_aload_n (pc := 25) G (some (0)) 1 rfl rfl (z_dec T_X12_clause_ok 14 (25, .aload_n 0, 1) rfl) ?_
        refine zx_getI (pc := 26) G gf_RX12_261 rfl h_o (z_dec T_X12_clause_ok 15 (26, .getfield 261, 3) rfl) ?_
        refine zx_callV_vN (pc := 29) (rm := rm_X12_wrongs) G cw_RX12_283 ⟨Nat.le_of_ble_eq_true rfl, Nat.le_of_ble_eq_true rfl⟩ rfl rfl ⟨Nat.zero_le _, Nat.zero_le _⟩ h_o rfl (fun sz => (met_X12_wrongs l D ρ kd q μ1 sz ((1 : Int32)) (μ1.1 0 44) _ hI h_o h)) rfl rfl (Nat.le_of_ble_eq_true rfl) (z_dec T_X12_clause_ok 16 (29, .invokevirtual 283, 3) rfl) (fun μ3 hn => ?_)
        clear h
        have h := hn
        clear hn
        refine zx_goto (pc := 32) (tgt := 53) G rfl (z_dec T_X12_clause_ok 17 (32, .goto 21, 3) rfl) ?_
        refine zx_sub (lv' := [(0, .ref (0)), (1, .int (r2))]) [1, 0] rfl ?_
        exact L_X12_clause_53_ok G hr hlk hI h_o h
abbrev rm_X12_way : Room := { frames := 7, cells := 0, slots := 0, locals := 150 }
set_option maxRecDepth 100000 in
set_option maxHeartbeats 4000000 in
theorem B_X12_way_257_ok {p : Program} {l : Launch} {e : Env} {s : State} {m : MethodId} {args : Array Value} {below : List Frame} {meth : Method} {c : Code} {D : va_G} {A : Nat → Prop} {ρ : z_A} {kd : z_K} {q : z_Q} {μ : z_M} {K : Int32 → z_M → Prop} {P257 : Int32 → Int32 → z_M → Prop} {v1 : Int32} {v4 : Int32} (G : z_G p c cX12_way s m args RX12 5 D) (hr : meth.sig.returnType = (Option.some Jvm.ClassFile.FieldType.int)) (hlk : meth.locks = false) (hP257 : ∀ (v1 : Int32) (v4 : Int32) (μ : z_M), P257 v1 v4 μ → (kd 0 = some (.inl 12)) → z_X p l e rm_X12_way s m args below meth c 5 D A (MQ below (z_Qn D A ρ kd (z_Ki q K)) args s 0 0 A) 0 0 ρ kd q μ 257 [(0, .ref (0)), (1, .int (v1)), (4, .int (v4))] []) (hI : z_I kd q) (f_l0 : kd 0 = some (.inl 12)) (h : B_X12_way_257 K P257 v1 v4 μ) : z_X p l e rm_X12_way s m args below meth c 5 D A (MQ below (z_Qn D A ρ kd (z_Ki q K)) args s 0 0 A) 0 0 ρ kd q μ 257 [(0, .ref (0)), (1, .int (v1)), (4, .int (v4))] [] := by
    unfold B_X12_way_257 at h
    refine zx_iload (pc := 257) G 2 rfl (z_dec T_X12_way_ok 145 (257, .iload 4, 2) rfl) ?_
    refine zx_aload_n (pc := 259) G (some (0)) 0 rfl rfl (z_dec T_X12_way_ok 146 (259, .aload_n 0, 1) rfl) ?_
    refine zx_getI (pc := 260) G gf_RX12_274 rfl f_l0 (z_dec T_X12_way_ok 147 (260, .getfield 274, 3) rfl) ?_
    refine zx_icmp_ge (pc := 263) (tgt := 312) G rfl (z_dec T_X12_way_ok 148 (263, .if_icmp .ge 49, 3) rfl) (fun hc => ?_) (fun hc => ?_)
    · replace h := z_pos hc h
      refine zx_aload_n (pc := 312) G (some (0)) 0 rfl rfl (z_dec T_X12_way_ok 175 (312, .aload_n 0, 1) rfl) ?_
      refine zx_getF (pc := 313) (b := 32) G gf_RX12_81 rfl f_l0 (zq_12_31 hI f_l0) (z_dec T_X12_way_ok 176 (313, .getfield 81, 3) rfl) ?_
      refine zx_iload_n (pc := 316) G 1 rfl rfl (z_dec T_X12_way_ok 177 (316, .iload_n 1, 1) rfl) ?_
      refine zx_aload_n (pc := 317) G (some (0)) 0 rfl rfl (z_dec T_X12_way_ok 178 (317, .aload_n 0, 1) rfl) ?_
      refine zx_getI (pc := 318) G gf_RX12_353 rfl f_l0 (z_dec T_X12_way_ok 179 (318, .getfield 353, 3) rfl) ?_
      obtain ⟨c1, h⟩ := h
      refine zx_iast (pc := 321) G (zk_12_31 hI f_l0) c1 (z_dec T_X12_way_ok 180 (321, .iastore, 1) rfl) ?_
      refine zx_aload_n (pc := 322) G (some (0)) 0 rfl rfl (z_dec T_X12_way_ok 181 (322, .aload_n 0, 1) rfl) ?_
      refine zx_getI (pc := 323) G gf_RX12_353 rfl f_l0 (z_dec T_X12_way_ok 182 (323, .getfield 353, 3) rfl) ?_
      exact zx_iret (pc := 326) G hr hlk (Nat.le_refl _) (Nat.le_refl _) (z_dec T_X12_way_ok 183 (326, .ireturn, 1) rfl) ⟨rfl, _, rfl, h⟩
    · replace h := z_neg hc h
      refine zx_aload_n (pc := 266) G (some (0)) 0 rfl rfl (z_dec T_X12_way_ok 149 (266, .aload_n 0, 1) rfl) ?_
      refine zx_getF (pc := 267) (b := 37) G gf_RX12_96 rfl f_l0 (zq_12_36 hI f_l0) (z_dec T_X12_way_ok 150 (267, .getfield 96, 3) rfl) ?_
      refine zx_sipush (pc := 270) (v := 160) G (z_dec T_X12_way_ok 151 (270, .sipush 160, 3) rfl) rfl ?_
      refine zx_iload_n (pc := 273) G 1 rfl rfl (z_dec T_X12_way_ok 152 (273, .iload_n 1, 1) rfl) ?_
      refine zx_imul (pc := 274) G  (z_dec T_X12_way_ok 153 (274, .imul, 1) rfl) ?_
      refine zx_iload (pc := 275) G 2 rfl (z_dec T_X12_way_ok 154 (275, .iload 4, 2) rfl) ?_
      refine zx_iadd (pc := 277) G  (z_dec T_X12_way_ok 155 (277, .iadd, 1) rfl) ?_
      refine zx_aload_n (pc := 278) G (some (0)) 0 rfl rfl (z_dec T_X12_way_ok 156 (278, .aload_n 0, 1) rfl) ?_
      refine zx_getF (pc := 279) (b := 43) G gf_RX12_114 rfl f_l0 (zq_12_42 hI f_l0) (z_dec T_X12_way_ok 157 (279, .getfield 114, 3) rfl) ?_
      refine zx_iload (pc := 282) G 2 rfl (z_dec T_X12_way_ok 158 (282, .iload 4, 2) rfl) ?_
      obtain ⟨c2, h⟩ := h
      refine zx_iald (pc := 284) G (zk_12_42 hI f_l0) c2 (z_dec T_X12_way_ok 159 (284, .iaload, 1) rfl) ?_
      obtain ⟨c3, h⟩ := h
      refine zx_iast (pc := 285) G (zk_12_36 hI f_l0) c3 (z_dec T_X12_way_ok 160 (285, .iastore, 1) rfl) ?_
      refine zx_aload_n (pc := 286) G (some (0)) 0 rfl rfl (z_dec T_X12_way_ok 161 (286, .aload_n 0, 1) rfl) ?_
      refine zx_getF (pc := 287) (b := 38) G gf_RX12_99 rfl f_l0 (zq_12_37 hI f_l0) (z_dec T_X12_way_ok 162 (287, .getfield 99, 3) rfl) ?_
      refine zx_sipush (pc := 290) (v := 160) G (z_dec T_X12_way_ok 163 (290, .sipush 160, 3) rfl) rfl ?_
      refine zx_iload_n (pc := 293) G 1 rfl rfl (z_dec T_X12_way_ok 164 (293, .iload_n 1, 1) rfl) ?_
      refine zx_imul (pc := 294) G  (z_dec T_X12_way_ok 165 (294, .imul, 1) rfl) ?_
      refine zx_iload (pc := 295) G 2 rfl (z_dec T_X12_way_ok 166 (295, .iload 4, 2) rfl) ?_
      refine zx_iadd (pc := 297) G  (z_dec T_X12_way_ok 167 (297, .iadd, 1) rfl) ?_
      refine zx_aload_n (pc := 298) G (some (0)) 0 rfl rfl (z_dec T_X12_way_ok 168 (298, .aload_n 0, 1) rfl) ?_
      refine zx_getF (pc := 299) (b := 44) G gf_RX12_117 rfl f_l0 (zq_12_43 hI f_l0) (z_dec T_X12_way_ok 169 (299, .getfield 117, 3) rfl) ?_
      refine zx_iload (pc := 302) G 2 rfl (z_dec T_X12_way_ok 170 (302, .iload 4, 2) rfl) ?_
      refine zx_iald (pc := 304) G (zk_12_43 hI f_l0) c2 (z_dec T_X12_way_ok 171 (304, .iaload, 1) rfl) ?_
      refine zx_iast (pc := 305) G (zk_12_37 hI f_l0) c3 (z_dec T_X12_way_ok 172 (305, .iastore, 1) rfl) ?_
      refine zx_iinc (pc := 306) (v := v4 + 1) (lv' := [(4, .int (v4 + 1)), (0, .ref (0)), (1, .int (v1))]) G 2 rfl (z_inc (by decide)) (Nat.le_of_ble_eq_true rfl) rfl (z_dec T_X12_way_ok 173 (306, .iinc 4 1, 3) rfl) ?_
      refine zx_goto (pc := 309) (tgt := 257) G rfl (z_dec T_X12_way_ok 174 (309, .goto (-52), 3) rfl) ?_
      refine zx_sub (lv' := [(0, .ref (0)), (1, .int (v1)), (4, .int (v4 + 1))]) [1, 2, 0] rfl ?_
      exact hP257 _ _ _ h f_l0
set_option maxRecDepth 100000 in
set_option maxHeartbeats 4000000 in
theorem L_X12_way_257_ok {p : Program} {l : Launch} {e : Env} {s : State} {m : MethodId} {args : Array Value} {below : List Frame} {meth : Method} {c : Code} {D : va_G} {A : Nat → Prop} {ρ : z_A} {kd : z_K} {q : z_Q} {μ : z_M} {K : Int32 → z_M → Prop} {v1 : Int32} {v4 : Int32} (G : z_G p c cX12_way s m args RX12 5 D) (hr : meth.sig.returnType = (Option.some Jvm.ClassFile.FieldType.int)) (hlk : meth.locks = false) (hI : z_I kd q) (f_l0 : kd 0 = some (.inl 12)) (h : L_X12_way_257 K v1 v4 μ) : z_X p l e rm_X12_way s m args below meth c 5 D A (MQ below (z_Qn D A ρ kd (z_Ki q K)) args s 0 0 A) 0 0 ρ kd q μ 257 [(0, .ref (0)), (1, .int (v1)), (4, .int (v4))] [] :=
  h (fun (v1 : Int32) (v4 : Int32) (μ : z_M) => (kd 0 = some (.inl 12)) → z_X p l e rm_X12_way s m args below meth c 5 D A (MQ below (z_Qn D A ρ kd (z_Ki q K)) args s 0 0 A) 0 0 ρ kd q μ 257 [(0, .ref (0)), (1, .int (v1)), (4, .int (v4))] []) (fun v1 v4 μ h f_l0 => B_X12_way_257_ok G hr hlk (fun _ _ _ h => h) hI f_l0 h) f_l0
set_option maxRecDepth 100000 in
set_option maxHeartbeats 4000000 in
theorem B_X12_way_151_ok {p : Program} {l : Launch} {e : Env} {s : State} {m : MethodId} {args : Array Value} {below : List Frame} {meth : Method} {c : Code} {D : va_G} {A : Nat → Prop} {ρ : z_A} {kd : z_K} {q : z_Q} {μ : z_M} {K : Int32 → z_M → Prop} {P151 : Int32 → Int32 → z_M → Prop} {v1 : Int32} {v4 : Int32} (G : z_G p c cX12_way s m args RX12 5 D) (hr : meth.sig.returnType = (Option.some Jvm.ClassFile.FieldType.int)) (hlk : meth.locks = false) (hP151 : ∀ (v1 : Int32) (v4 : Int32) (μ : z_M), P151 v1 v4 μ → (kd 0 = some (.inl 12)) → z_X p l e rm_X12_way s m args below meth c 5 D A (MQ below (z_Qn D A ρ kd (z_Ki q K)) args s 0 0 A) 0 0 ρ kd q μ 151 [(0, .ref (0)), (1, .int (v1)), (4, .int (v4))] []) (hI : z_I kd q) (f_l0 : kd 0 = some (.inl 12)) (h : B_X12_way_151 K P151 v1 v4 μ) : z_X p l e rm_X12_way s m args below meth c 5 D A (MQ below (z_Qn D A ρ kd (z_Ki q K)) args s 0 0 A) 0 0 ρ kd q μ 151 [(0, .ref (0)), (1, .int (v1)), (4, .int (v4))] [] := by
    unfold B_X12_way_151 at h
    refine zx_iload (pc := 151) G 2 rfl (z_dec T_X12_way_ok 81 (151, .iload 4, 2) rfl) ?_
    refine zx_aload_n (pc := 153) G (some (0)) 0 rfl rfl (z_dec T_X12_way_ok 82 (153, .aload_n 0, 1) rfl) ?_
    refine zx_getI (pc := 154) G gf_RX12_353 rfl f_l0 (z_dec T_X12_way_ok 83 (154, .getfield 353, 3) rfl) ?_
    refine zx_icmp_ge (pc := 157) (tgt := 254) G rfl (z_dec T_X12_way_ok 84 (157, .if_icmp .ge 97, 3) rfl) (fun hc => ?_) (fun hc => ?_)
    · replace h := z_pos hc h
      refine zx_iconst (pc := 254) (v := 0) G (z_dec T_X12_way_ok 143 (254, .iconst 0, 1) rfl) rfl ?_
      refine zx_istore (pc := 255) (lv' := [(4, .int ((0 : Int32))), (0, .ref (0)), (1, .int (v1))]) G (Nat.le_of_ble_eq_true rfl) rfl (z_dec T_X12_way_ok 144 (255, .istore 4, 2) rfl) ?_
      refine zx_sub (lv' := [(0, .ref (0)), (1, .int (v1)), (4, .int ((0 : Int32)))]) [1, 2, 0] rfl ?_
      exact L_X12_way_257_ok G hr hlk hI f_l0 h
    · replace h := z_neg hc h
      refine zx_aload_n (pc := 160) G (some (0)) 0 rfl rfl (z_dec T_X12_way_ok 85 (160, .aload_n 0, 1) rfl) ?_
      refine zx_getF (pc := 161) (b := 33) G gf_RX12_84 rfl f_l0 (zq_12_32 hI f_l0) (z_dec T_X12_way_ok 86 (161, .getfield 84, 3) rfl) ?_
      refine zx_bipush (pc := 164) (v := 12) G (z_dec T_X12_way_ok 87 (164, .bipush 12, 2) rfl) rfl ?_
      refine zx_iload_n (pc := 166) G 1 rfl rfl (z_dec T_X12_way_ok 88 (166, .iload_n 1, 1) rfl) ?_
      refine zx_imul (pc := 167) G  (z_dec T_X12_way_ok 89 (167, .imul, 1) rfl) ?_
      refine zx_iload (pc := 168) G 2 rfl (z_dec T_X12_way_ok 90 (168, .iload 4, 2) rfl) ?_
      refine zx_iadd (pc := 170) G  (z_dec T_X12_way_ok 91 (170, .iadd, 1) rfl) ?_
      refine zx_aload_n (pc := 171) G (some (0)) 0 rfl rfl (z_dec T_X12_way_ok 92 (171, .aload_n 0, 1) rfl) ?_
      refine zx_getF (pc := 172) (b := 39) G gf_RX12_102 rfl f_l0 (zq_12_38 hI f_l0) (z_dec T_X12_way_ok 93 (172, .getfield 102, 3) rfl) ?_
      refine zx_iload (pc := 175) G 2 rfl (z_dec T_X12_way_ok 94 (175, .iload 4, 2) rfl) ?_
      obtain ⟨c1, h⟩ := h
      refine zx_iald (pc := 177) G (zk_12_38 hI f_l0) c1 (z_dec T_X12_way_ok 95 (177, .iaload, 1) rfl) ?_
      obtain ⟨c2, h⟩ := h
      refine zx_iast (pc := 178) G (zk_12_32 hI f_l0) c2 (z_dec T_X12_way_ok 96 (178, .iastore, 1) rfl) ?_
      refine zx_aload_n (pc := 179) G (some (0)) 0 rfl rfl (z_dec T_X12_way_ok 97 (179, .aload_n 0, 1) rfl) ?_
      refine zx_getF (pc := 180) (b := 34) G gf_RX12_87 rfl f_l0 (zq_12_33 hI f_l0) (z_dec T_X12_way_ok 98 (180, .getfield 87, 3) rfl) ?_
      refine zx_bipush (pc := 183) (v := 12) G (z_dec T_X12_way_ok 99 (183, .bipush 12, 2) rfl) rfl ?_
      refine zx_iload_n (pc := 185) G 1 rfl rfl (z_dec T_X12_way_ok 100 (185, .iload_n 1, 1) rfl) ?_
      refine zx_imul (pc := 186) G  (z_dec T_X12_way_ok 101 (186, .imul, 1) rfl) ?_
      refine zx_iload (pc := 187) G 2 rfl (z_dec T_X12_way_ok 102 (187, .iload 4, 2) rfl) ?_
      refine zx_iadd (pc := 189) G  (z_dec T_X12_way_ok 103 (189, .iadd, 1) rfl) ?_
      refine zx_aload_n (pc := 190) G (some (0)) 0 rfl rfl (z_dec T_X12_way_ok 104 (190, .aload_n 0, 1) rfl) ?_
      refine zx_getF (pc := 191) (b := 40) G gf_RX12_105 rfl f_l0 (zq_12_39 hI f_l0) (z_dec T_X12_way_ok 105 (191, .getfield 105, 3) rfl) ?_
      refine zx_iload (pc := 194) G 2 rfl (z_dec T_X12_way_ok 106 (194, .iload 4, 2) rfl) ?_
      refine zx_iald (pc := 196) G (zk_12_39 hI f_l0) c1 (z_dec T_X12_way_ok 107 (196, .iaload, 1) rfl) ?_
      refine zx_iast (pc := 197) G (zk_12_33 hI f_l0) c2 (z_dec T_X12_way_ok 108 (197, .iastore, 1) rfl) ?_
      refine zx_aload_n (pc := 198) G (some (0)) 0 rfl rfl (z_dec T_X12_way_ok 109 (198, .aload_n 0, 1) rfl) ?_
      refine zx_getF (pc := 199) (b := 35) G gf_RX12_90 rfl f_l0 (zq_12_34 hI f_l0) (z_dec T_X12_way_ok 110 (199, .getfield 90, 3) rfl) ?_
      refine zx_bipush (pc := 202) (v := 12) G (z_dec T_X12_way_ok 111 (202, .bipush 12, 2) rfl) rfl ?_
      refine zx_iload_n (pc := 204) G 1 rfl rfl (z_dec T_X12_way_ok 112 (204, .iload_n 1, 1) rfl) ?_
      refine zx_imul (pc := 205) G  (z_dec T_X12_way_ok 113 (205, .imul, 1) rfl) ?_
      refine zx_iload (pc := 206) G 2 rfl (z_dec T_X12_way_ok 114 (206, .iload 4, 2) rfl) ?_
      refine zx_iadd (pc := 208) G  (z_dec T_X12_way_ok 115 (208, .iadd, 1) rfl) ?_
      refine zx_sipush (pc := 209) (v := 160) G (z_dec T_X12_way_ok 116 (209, .sipush 160, 3) rfl) rfl ?_
      refine zx_iload_n (pc := 212) G 1 rfl rfl (z_dec T_X12_way_ok 117 (212, .iload_n 1, 1) rfl) ?_
      refine zx_imul (pc := 213) G  (z_dec T_X12_way_ok 118 (213, .imul, 1) rfl) ?_
      refine zx_aload_n (pc := 214) G (some (0)) 0 rfl rfl (z_dec T_X12_way_ok 119 (214, .aload_n 0, 1) rfl) ?_
      refine zx_getF (pc := 215) (b := 41) G gf_RX12_108 rfl f_l0 (zq_12_40 hI f_l0) (z_dec T_X12_way_ok 120 (215, .getfield 108, 3) rfl) ?_
      refine zx_iload (pc := 218) G 2 rfl (z_dec T_X12_way_ok 121 (218, .iload 4, 2) rfl) ?_
      refine zx_iald (pc := 220) G (zk_12_40 hI f_l0) c1 (z_dec T_X12_way_ok 122 (220, .iaload, 1) rfl) ?_
      refine zx_iadd (pc := 221) G  (z_dec T_X12_way_ok 123 (221, .iadd, 1) rfl) ?_
      refine zx_iast (pc := 222) G (zk_12_34 hI f_l0) c2 (z_dec T_X12_way_ok 124 (222, .iastore, 1) rfl) ?_
      refine zx_aload_n (pc := 223) G (some (0)) 0 rfl rfl (z_dec T_X12_way_ok 125 (223, .aload_n 0, 1) rfl) ?_
      refine zx_getF (pc := 224) (b := 36) G gf_RX12_93 rfl f_l0 (zq_12_35 hI f_l0) (z_dec T_X12_way_ok 126 (224, .getfield 93, 3) rfl) ?_
      refine zx_bipush (pc := 227) (v := 12) G (z_dec T_X12_way_ok 127 (227, .bipush 12, 2) rfl) rfl ?_
      refine zx_iload_n (pc := 229) G 1 rfl rfl (z_dec T_X12_way_ok 128 (229, .iload_n 1, 1) rfl) ?_
      refine zx_imul (pc := 230) G  (z_dec T_X12_way_ok 129 (230, .imul, 1) rfl) ?_
      refine zx_iload (pc := 231) G 2 rfl (z_dec T_X12_way_ok 130 (231, .iload 4, 2) rfl) ?_
      refine zx_iadd (pc := 233) G  (z_dec T_X12_way_ok 131 (233, .iadd, 1) rfl) ?_
      refine zx_sipush (pc := 234) (v := 160) G (z_dec T_X12_way_ok 132 (234, .sipush 160, 3) rfl) rfl ?_
      refine zx_iload_n (pc := 237) G 1 rfl rfl (z_dec T_X12_way_ok 133 (237, .iload_n 1, 1) rfl) ?_
      refine zx_imul (pc := 238) G  (z_dec T_X12_way_ok 134 (238, .imul, 1) rfl) ?_
      refine zx_aload_n (pc := 239) G (some (0)) 0 rfl rfl (z_dec T_X12_way_ok 135 (239, .aload_n 0, 1) rfl) ?_
      refine zx_getF (pc := 240) (b := 42) G gf_RX12_111 rfl f_l0 (zq_12_41 hI f_l0) (z_dec T_X12_way_ok 136 (240, .getfield 111, 3) rfl) ?_
      refine zx_iload (pc := 243) G 2 rfl (z_dec T_X12_way_ok 137 (243, .iload 4, 2) rfl) ?_
      refine zx_iald (pc := 245) G (zk_12_41 hI f_l0) c1 (z_dec T_X12_way_ok 138 (245, .iaload, 1) rfl) ?_
      refine zx_iadd (pc := 246) G  (z_dec T_X12_way_ok 139 (246, .iadd, 1) rfl) ?_
      refine zx_iast (pc := 247) G (zk_12_35 hI f_l0) c2 (z_dec T_X12_way_ok 140 (247, .iastore, 1) rfl) ?_
      refine zx_iinc (pc := 248) (v := v4 + 1) (lv' := [(4, .int (v4 + 1)), (0, .ref (0)), (1, .int (v1))]) G 2 rfl (z_inc (by decide)) (Nat.le_of_ble_eq_true rfl) rfl (z_dec T_X12_way_ok 141 (248, .iinc 4 1, 3) rfl) ?_
      refine zx_goto (pc := 251) (tgt := 151) G rfl (z_dec T_X12_way_ok 142 (251, .goto (-100), 3) rfl) ?_
      refine zx_sub (lv' := [(0, .ref (0)), (1, .int (v1)), (4, .int (v4 + 1))]) [1, 2, 0] rfl ?_
      exact hP151 _ _ _ h f_l0
set_option maxRecDepth 100000 in
set_option maxHeartbeats 4000000 in
theorem L_X12_way_151_ok {p : Program} {l : Launch} {e : Env} {s : State} {m : MethodId} {args : Array Value} {below : List Frame} {meth : Method} {c : Code} {D : va_G} {A : Nat → Prop} {ρ : z_A} {kd : z_K} {q : z_Q} {μ : z_M} {K : Int32 → z_M → Prop} {v1 : Int32} {v4 : Int32} (G : z_G p c cX12_way s m args RX12 5 D) (hr : meth.sig.returnType = (Option.some Jvm.ClassFile.FieldType.int)) (hlk : meth.locks = false) (hI : z_I kd q) (f_l0 : kd 0 = some (.inl 12)) (h : L_X12_way_151 K v1 v4 μ) : z_X p l e rm_X12_way s m args below meth c 5 D A (MQ below (z_Qn D A ρ kd (z_Ki q K)) args s 0 0 A) 0 0 ρ kd q μ 151 [(0, .ref (0)), (1, .int (v1)), (4, .int (v4))] [] :=
  h (fun (v1 : Int32) (v4 : Int32) (μ : z_M) => (kd 0 = some (.inl 12)) → z_X p l e rm_X12_way s m args below meth c 5 D A (MQ below (z_Qn D A ρ kd (z_Ki q K)) args s 0 0 A) 0 0 ρ kd q μ 151 [(0, .ref (0)), (1, .int (v1)), (4, .int (v4))] []) (fun v1 v4 μ h f_l0 => B_X12_way_151_ok G hr hlk (fun _ _ _ h => h) hI f_l0 h) f_l0
set_option maxRecDepth 100000 in
set_option maxHeartbeats 4000000 in
theorem L_X12_way_136_ok {p : Program} {l : Launch} {e : Env} {s : State} {m : MethodId} {args : Array Value} {below : List Frame} {meth : Method} {c : Code} {D : va_G} {A : Nat → Prop} {ρ : z_A} {kd : z_K} {q : z_Q} {μ : z_M} {K : Int32 → z_M → Prop} {v1 : Int32} (G : z_G p c cX12_way s m args RX12 5 D) (hr : meth.sig.returnType = (Option.some Jvm.ClassFile.FieldType.int)) (hlk : meth.locks = false) (hI : z_I kd q) (f_l0 : kd 0 = some (.inl 12)) (h : L_X12_way_136 K v1 μ) : z_X p l e rm_X12_way s m args below meth c 5 D A (MQ below (z_Qn D A ρ kd (z_Ki q K)) args s 0 0 A) 0 0 ρ kd q μ 136 [(0, .ref (0)), (1, .int (v1))] [] := by
    unfold L_X12_way_136 at h
    refine zx_aload_n (pc := 136) G (some (0)) 0 rfl rfl (z_dec T_X12_way_ok 73 (136, .aload_n 0, 1) rfl) ?_
    refine zx_getI (pc := 137) G gf_RX12_267 rfl f_l0 (z_dec T_X12_way_ok 74 (137, .getfield 267, 3) rfl) ?_
    refine zx_if_ge (pc := 140) (tgt := 148) G rfl (z_dec T_X12_way_ok 75 (140, .ifCond .ge 8, 3) rfl) (fun hc => ?_) (fun hc => ?_)
    · replace h := z_pos hc h
      refine zx_iconst (pc := 148) (v := 0) G (z_dec T_X12_way_ok 79 (148, .iconst 0, 1) rfl) rfl ?_
      refine zx_istore (pc := 149) (lv' := [(4, .int ((0 : Int32))), (0, .ref (0)), (1, .int (v1))]) G (Nat.le_of_ble_eq_true rfl) rfl (z_dec T_X12_way_ok 80 (149, .istore 4, 2) rfl) ?_
      refine zx_sub (lv' := [(0, .ref (0)), (1, .int (v1)), (4, .int ((0 : Int32)))]) [1, 2, 0] rfl ?_
      exact L_X12_way_151_ok G hr hlk hI f_l0 h
    · replace h := z_neg hc h
      refine zx_aload_n (pc := 143) G (some (0)) 0 rfl rfl (z_dec T_X12_way_ok 76 (143, .aload_n 0, 1) rfl) ?_
      refine zx_getI (pc := 144) G gf_RX12_267 rfl f_l0 (z_dec T_X12_way_ok 77 (144, .getfield 267, 3) rfl) ?_
      exact zx_iret (pc := 147) G hr hlk (Nat.le_refl _) (Nat.le_refl _) (z_dec T_X12_way_ok 78 (147, .ireturn, 1) rfl) ⟨rfl, _, rfl, h⟩
set_option maxRecDepth 100000 in
set_option maxHeartbeats 4000000 in
theorem L_X12_way_123_ok {p : Program} {l : Launch} {e : Env} {s : State} {m : MethodId} {args : Array Value} {below : List Frame} {meth : Method} {c : Code} {D : va_G} {A : Nat → Prop} {ρ : z_A} {kd : z_K} {q : z_Q} {μ : z_M} {K : Int32 → z_M → Prop} {P62 : Int32 → Int32 → z_M → Prop} {v1 : Int32} {v3 : Int32} (G : z_G p c cX12_way s m args RX12 5 D) (hr : meth.sig.returnType = (Option.some Jvm.ClassFile.FieldType.int)) (hlk : meth.locks = false) (hP62 : ∀ (v1 : Int32) (v3 : Int32) (μ : z_M), P62 v1 v3 μ → (kd 0 = some (.inl 12)) → ((v3 = 0 ∨ v3 = 1)) → z_X p l e rm_X12_way s m args below meth c 5 D A (MQ below (z_Qn D A ρ kd (z_Ki q K)) args s 0 0 A) 0 0 ρ kd q μ 62 [(0, .ref (0)), (1, .int (v1)), (3, .int (v3))] []) (hI : z_I kd q) (f_l0 : kd 0 = some (.inl 12)) (f_l3 : (v3 = 0 ∨ v3 = 1)) (h : L_X12_way_123 K P62 v1 v3 μ) : z_X p l e rm_X12_way s m args below meth c 5 D A (MQ below (z_Qn D A ρ kd (z_Ki q K)) args s 0 0 A) 0 0 ρ kd q μ 123 [(0, .ref (0)), (1, .int (v1)), (3, .int (v3))] [] := by
    unfold L_X12_way_123 at h
    refine zx_aload_n (pc := 123) G (some (0)) 0 rfl rfl (z_dec T_X12_way_ok 66 (123, .aload_n 0, 1) rfl) ?_
    refine zx_dup (pc := 124) G rfl (z_dec T_X12_way_ok 67 (124, .dup, 1) rfl) ?_
    refine zx_getI (pc := 125) G gf_RX12_261 rfl f_l0 (z_dec T_X12_way_ok 68 (125, .getfield 261, 3) rfl) ?_
    refine zx_iconst (pc := 128) (v := 1) G (z_dec T_X12_way_ok 69 (128, .iconst 1, 1) rfl) rfl ?_
    refine zx_iadd (pc := 129) G  (z_dec T_X12_way_ok 70 (129, .iadd, 1) rfl) ?_
    refine zx_putI (pc := 130) G gf_RX12_261 cf_12 rfl rfl f_l0 (z_dec T_X12_way_ok 71 (130, .putfield 261, 3) rfl) ?_
    refine zx_goto (pc := 133) (tgt := 62) G rfl (z_dec T_X12_way_ok 72 (133, .goto (-71), 3) rfl) ?_
    exact hP62 _ _ _ h f_l0 f_l3
set_option maxRecDepth 100000 in
set_option maxHeartbeats 4000000 in
theorem L_X12_way_100_ok {p : Program} {l : Launch} {e : Env} {s : State} {m : MethodId} {args : Array Value} {below : List Frame} {meth : Method} {c : Code} {D : va_G} {A : Nat → Prop} {ρ : z_A} {kd : z_K} {q : z_Q} {μ : z_M} {K : Int32 → z_M → Prop} {P62 : Int32 → Int32 → z_M → Prop} {v1 : Int32} {t0 : Int32} (G : z_G p c cX12_way s m args RX12 5 D) (hr : meth.sig.returnType = (Option.some Jvm.ClassFile.FieldType.int)) (hlk : meth.locks = false) (hP62 : ∀ (v1 : Int32) (v3 : Int32) (μ : z_M), P62 v1 v3 μ → (kd 0 = some (.inl 12)) → ((v3 = 0 ∨ v3 = 1)) → z_X p l e rm_X12_way s m args below meth c 5 D A (MQ below (z_Qn D A ρ kd (z_Ki q K)) args s 0 0 A) 0 0 ρ kd q μ 62 [(0, .ref (0)), (1, .int (v1)), (3, .int (v3))] []) (hI : z_I kd q) (f_l0 : kd 0 = some (.inl 12)) (f_s0 : (t0 = 0 ∨ t0 = 1)) (h : L_X12_way_100 K P62 v1 t0 μ) : z_X p l e rm_X12_way s m args below meth c 5 D A (MQ below (z_Qn D A ρ kd (z_Ki q K)) args s 0 0 A) 0 0 ρ kd q μ 100 [(0, .ref (0)), (1, .int (v1))] [.int (t0)] := by
    unfold L_X12_way_100 at h
    refine zx_istore_n (pc := 100) (lv' := [(3, .int (t0)), (0, .ref (0)), (1, .int (v1))]) G rfl (Nat.le_of_ble_eq_true rfl) rfl (z_dec T_X12_way_ok 54 (100, .istore_n 3, 1) rfl) ?_
    refine zx_iload_n (pc := 101) G 0 rfl rfl (z_dec T_X12_way_ok 55 (101, .iload_n 3, 1) rfl) ?_
    refine zx_if_eq (pc := 102) (tgt := 62) G rfl (z_dec T_X12_way_ok 56 (102, .ifCond .eq (-40), 3) rfl) (fun hc => ?_) (fun hc => ?_)
    · replace h := z_pos hc h
      refine zx_sub (lv' := [(0, .ref (0)), (1, .int (v1)), (3, .int (t0))]) [1, 2, 0] rfl ?_
      exact hP62 _ _ _ h f_l0 f_s0
    · replace h := z_neg hc h
      refine zx_aload_n (pc := 105) G (some (0)) 1 rfl rfl (z_dec T_X12_way_ok 57 (105, .aload_n 0, 1) rfl) ?_
      refine zx_callV_iN (pc := 106) (rm := rm_X12_here) G cw_RX12_286 ⟨Nat.le_of_ble_eq_true rfl, Nat.le_of_ble_eq_true rfl⟩ rfl rfl ⟨Nat.zero_le _, Nat.zero_le _⟩ f_l0 rfl (fun sz => (met_X12_here l D ρ kd q μ sz  _ hI f_l0 h)) rfl rfl (Nat.le_of_ble_eq_true rfl) (z_dec T_X12_way_ok 58 (106, .invokevirtual 286, 3) rfl) (fun r2 μ1 hn => ?_)
      clear h
      have h := hn
      clear hn
      refine zx_bipush (pc := 109) (v := 59) G (z_dec T_X12_way_ok 59 (109, .bipush 59, 2) rfl) rfl ?_
      refine zx_icmp_eq (pc := 111) (tgt := 123) G rfl (z_dec T_X12_way_ok 60 (111, .if_icmp .eq 12, 3) rfl) (fun hc => ?_) (fun hc => ?_)
      · replace h := z_pos hc h
        refine zx_sub (lv' := [(0, .ref (0)), (1, .int (v1)), (3, .int (t0))]) [1, 2, 0] rfl ?_
        exact L_X12_way_123_ok G hr hlk hP62 hI f_l0 f_s0 h
      · replace h := z_neg hc h
        refine zx_aload_n (pc := 114) G (some (0)) 1 rfl rfl (z_dec T_X12_way_ok 61 (114, .aload_n 0, 1) rfl) ?_
        refine zx_iconst (pc := 115) (v := 1) G (z_dec T_X12_way_ok 62 (115, .iconst 1, 1) rfl) rfl ?_
        refine zx_aload_n (pc := 116) G (some (0)) 1 rfl rfl (z_dec T_X12_way_ok 63 (116, .aload_n 0, 1) rfl) ?_
        refine zx_getI (pc := 117) G gf_RX12_261 rfl f_l0 (z_dec T_X12_way_ok 64 (117, .getfield 261, 3) rfl) ?_
        refine zx_callV_vN (pc := 120) (rm := rm_X12_wrongs) G cw_RX12_283 ⟨Nat.le_of_ble_eq_true rfl, Nat.le_of_ble_eq_true rfl⟩ rfl rfl ⟨Nat.zero_le _, Nat.zero_le _⟩ f_l0 rfl (fun sz => (met_X12_wrongs l D ρ kd q μ1 sz ((1 : Int32)) (μ1.1 0 44) _ hI f_l0 h)) rfl rfl (Nat.le_of_ble_eq_true rfl) (z_dec T_X12_way_ok 65 (120, .invokevirtual 283, 3) rfl) (fun μ3 hn => ?_)
        clear h
        have h := hn
        clear hn
        refine zx_sub (lv' := [(0, .ref (0)), (1, .int (v1)), (3, .int (t0))]) [1, 2, 0] rfl ?_
        exact L_X12_way_123_ok G hr hlk hP62 hI f_l0 f_s0 h
set_option maxRecDepth 100000 in
set_option maxHeartbeats 4000000 in
theorem L_X12_way_99_ok {p : Program} {l : Launch} {e : Env} {s : State} {m : MethodId} {args : Array Value} {below : List Frame} {meth : Method} {c : Code} {D : va_G} {A : Nat → Prop} {ρ : z_A} {kd : z_K} {q : z_Q} {μ : z_M} {K : Int32 → z_M → Prop} {P62 : Int32 → Int32 → z_M → Prop} {v1 : Int32} (G : z_G p c cX12_way s m args RX12 5 D) (hr : meth.sig.returnType = (Option.some Jvm.ClassFile.FieldType.int)) (hlk : meth.locks = false) (hP62 : ∀ (v1 : Int32) (v3 : Int32) (μ : z_M), P62 v1 v3 μ → (kd 0 = some (.inl 12)) → ((v3 = 0 ∨ v3 = 1)) → z_X p l e rm_X12_way s m args below meth c 5 D A (MQ below (z_Qn D A ρ kd (z_Ki q K)) args s 0 0 A) 0 0 ρ kd q μ 62 [(0, .ref (0)), (1, .int (v1)), (3, .int (v3))] []) (hI : z_I kd q) (f_l0 : kd 0 = some (.inl 12)) (h : L_X12_way_99 K P62 v1 μ) : z_X p l e rm_X12_way s m args below meth c 5 D A (MQ below (z_Qn D A ρ kd (z_Ki q K)) args s 0 0 A) 0 0 ρ kd q μ 99 [(0, .ref (0)), (1, .int (v1))] [] := by
    unfold L_X12_way_99 at h
    refine zx_iconst (pc := 99) (v := 0) G (z_dec T_X12_way_ok 53 (99, .iconst 0, 1) rfl) rfl ?_
    exact L_X12_way_100_ok G hr hlk hP62 hI f_l0 (Or.inl rfl) h
set_option maxRecDepth 100000 in
set_option maxHeartbeats 4000000 in
theorem B_X12_way_62_ok {p : Program} {l : Launch} {e : Env} {s : State} {m : MethodId} {args : Array Value} {below : List Frame} {meth : Method} {c : Code} {D : va_G} {A : Nat → Prop} {ρ : z_A} {kd : z_K} {q : z_Q} {μ : z_M} {K : Int32 → z_M → Prop} {P62 : Int32 → Int32 → z_M → Prop} {v1 : Int32} {v3 : Int32} (G : z_G p c cX12_way s m args RX12 5 D) (hr : meth.sig.returnType = (Option.some Jvm.ClassFile.FieldType.int)) (hlk : meth.locks = false) (hP62 : ∀ (v1 : Int32) (v3 : Int32) (μ : z_M), P62 v1 v3 μ → (kd 0 = some (.inl 12)) → ((v3 = 0 ∨ v3 = 1)) → z_X p l e rm_X12_way s m args below meth c 5 D A (MQ below (z_Qn D A ρ kd (z_Ki q K)) args s 0 0 A) 0 0 ρ kd q μ 62 [(0, .ref (0)), (1, .int (v1)), (3, .int (v3))] []) (hI : z_I kd q) (f_l0 : kd 0 = some (.inl 12)) (f_l3 : (v3 = 0 ∨ v3 = 1)) (h : B_X12_way_62 K P62 v1 v3 μ) : z_X p l e rm_X12_way s m args below meth c 5 D A (MQ below (z_Qn D A ρ kd (z_Ki q K)) args s 0 0 A) 0 0 ρ kd q μ 62 [(0, .ref (0)), (1, .int (v1)), (3, .int (v3))] [] := by
    unfold B_X12_way_62 at h
    refine zx_iload_n (pc := 62) G 2 rfl rfl (z_dec T_X12_way_ok 36 (62, .iload_n 3, 1) rfl) ?_
    refine zx_if_eq (pc := 63) (tgt := 136) G rfl (z_dec T_X12_way_ok 37 (63, .ifCond .eq 73, 3) rfl) (fun hc => ?_) (fun hc => ?_)
    · replace h := z_pos hc h
      refine zx_sub (lv' := [(0, .ref (0)), (1, .int (v1))]) [0, 1] rfl ?_
      exact L_X12_way_136_ok G hr hlk hI f_l0 h
    · replace h := z_neg hc h
      refine zx_aload_n (pc := 66) G (some (0)) 0 rfl rfl (z_dec T_X12_way_ok 38 (66, .aload_n 0, 1) rfl) ?_
      refine zx_callV_zN (pc := 67) (rm := rm_X12_isGood) G cw_RX12_270 ⟨Nat.le_of_ble_eq_true rfl, Nat.le_of_ble_eq_true rfl⟩ rfl rfl ⟨Nat.zero_le _, Nat.zero_le _⟩ f_l0 rfl (fun sz => (met_X12_isGood l D ρ kd q μ sz  _ hI f_l0 h)) rfl rfl (Nat.le_of_ble_eq_true rfl) (z_dec T_X12_way_ok 39 (67, .invokevirtual 270, 3) rfl) (fun r2 μ1 hzr2 hn => ?_)
      clear h
      have h := hn
      clear hn
      refine zx_if_eq (pc := 70) (tgt := 136) G rfl (z_dec T_X12_way_ok 40 (70, .ifCond .eq 66, 3) rfl) (fun hc => ?_) (fun hc => ?_)
      · replace h := z_pos hc h
        refine zx_sub (lv' := [(0, .ref (0)), (1, .int (v1))]) [0, 1] rfl ?_
        exact L_X12_way_136_ok G hr hlk hI f_l0 h
      · replace h := z_neg hc h
        refine zx_aload_n (pc := 73) G (some (0)) 0 rfl rfl (z_dec T_X12_way_ok 41 (73, .aload_n 0, 1) rfl) ?_
        refine zx_callV_vN (pc := 74) (rm := rm_X12_clause) G cw_RX12_364 ⟨Nat.le_of_ble_eq_true rfl, Nat.le_of_ble_eq_true rfl⟩ rfl rfl ⟨Nat.zero_le _, Nat.zero_le _⟩ f_l0 rfl (fun sz => (met_X12_clause l D ρ kd q μ1 sz  _ hI f_l0 h)) rfl rfl (Nat.le_of_ble_eq_true rfl) (z_dec T_X12_way_ok 42 (74, .invokevirtual 364, 3) rfl) (fun μ3 hn => ?_)
        clear h
        have h := hn
        clear hn
        refine zx_aload_n (pc := 77) G (some (0)) 0 rfl rfl (z_dec T_X12_way_ok 43 (77, .aload_n 0, 1) rfl) ?_
        refine zx_callV_zN (pc := 78) (rm := rm_X12_isGood) G cw_RX12_270 ⟨Nat.le_of_ble_eq_true rfl, Nat.le_of_ble_eq_true rfl⟩ rfl rfl ⟨Nat.zero_le _, Nat.zero_le _⟩ f_l0 rfl (fun sz => (met_X12_isGood l D ρ kd q μ3 sz  _ hI f_l0 h)) rfl rfl (Nat.le_of_ble_eq_true rfl) (z_dec T_X12_way_ok 44 (78, .invokevirtual 270, 3) rfl) (fun r5 μ4 hzr5 hn => ?_)
        clear h
        have h := hn
        clear hn
        refine zx_if_eq (pc := 81) (tgt := 99) G rfl (z_dec T_X12_way_ok 45 (81, .ifCond .eq 18, 3) rfl) (fun hc => ?_) (fun hc => ?_)
        · replace h := z_pos hc h
          refine zx_sub (lv' := [(0, .ref (0)), (1, .int (v1))]) [0, 1] rfl ?_
          exact L_X12_way_99_ok G hr hlk hP62 hI f_l0 h
        · replace h := z_neg hc h
          refine zx_aload_n (pc := 84) G (some (0)) 0 rfl rfl (z_dec T_X12_way_ok 46 (84, .aload_n 0, 1) rfl) ?_
          refine zx_getI (pc := 85) G gf_RX12_261 rfl f_l0 (z_dec T_X12_way_ok 47 (85, .getfield 261, 3) rfl) ?_
          refine zx_aload_n (pc := 88) G (some (0)) 0 rfl rfl (z_dec T_X12_way_ok 48 (88, .aload_n 0, 1) rfl) ?_
          refine zx_getI (pc := 89) G gf_RX12_264 rfl f_l0 (z_dec T_X12_way_ok 49 (89, .getfield 264, 3) rfl) ?_
          refine zx_icmp_ge (pc := 92) (tgt := 99) G rfl (z_dec T_X12_way_ok 50 (92, .if_icmp .ge 7, 3) rfl) (fun hc => ?_) (fun hc => ?_)
          · replace h := z_pos hc h
            refine zx_sub (lv' := [(0, .ref (0)), (1, .int (v1))]) [0, 1] rfl ?_
            exact L_X12_way_99_ok G hr hlk hP62 hI f_l0 h
          · replace h := z_neg hc h
            refine zx_iconst (pc := 95) (v := 1) G (z_dec T_X12_way_ok 51 (95, .iconst 1, 1) rfl) rfl ?_
            refine zx_goto (pc := 96) (tgt := 100) G rfl (z_dec T_X12_way_ok 52 (96, .goto 4, 3) rfl) ?_
            refine zx_sub (lv' := [(0, .ref (0)), (1, .int (v1))]) [0, 1] rfl ?_
            exact L_X12_way_100_ok G hr hlk hP62 hI f_l0 (Or.inr rfl) h
set_option maxRecDepth 100000 in
set_option maxHeartbeats 4000000 in
theorem L_X12_way_62_ok {p : Program} {l : Launch} {e : Env} {s : State} {m : MethodId} {args : Array Value} {below : List Frame} {meth : Method} {c : Code} {D : va_G} {A : Nat → Prop} {ρ : z_A} {kd : z_K} {q : z_Q} {μ : z_M} {K : Int32 → z_M → Prop} {v1 : Int32} {v3 : Int32} (G : z_G p c cX12_way s m args RX12 5 D) (hr : meth.sig.returnType = (Option.some Jvm.ClassFile.FieldType.int)) (hlk : meth.locks = false) (hI : z_I kd q) (f_l0 : kd 0 = some (.inl 12)) (f_l3 : (v3 = 0 ∨ v3 = 1)) (h : L_X12_way_62 K v1 v3 μ) : z_X p l e rm_X12_way s m args below meth c 5 D A (MQ below (z_Qn D A ρ kd (z_Ki q K)) args s 0 0 A) 0 0 ρ kd q μ 62 [(0, .ref (0)), (1, .int (v1)), (3, .int (v3))] [] :=
  h (fun (v1 : Int32) (v3 : Int32) (μ : z_M) => (kd 0 = some (.inl 12)) → ((v3 = 0 ∨ v3 = 1)) → z_X p l e rm_X12_way s m args below meth c 5 D A (MQ below (z_Qn D A ρ kd (z_Ki q K)) args s 0 0 A) 0 0 ρ kd q μ 62 [(0, .ref (0)), (1, .int (v1)), (3, .int (v3))] []) (fun v1 v3 μ h f_l0 f_l3 => B_X12_way_62_ok G hr hlk (fun _ _ _ h => h) hI f_l0 f_l3 h) f_l0 f_l3
set_option maxRecDepth 100000 in
set_option maxHeartbeats 4000000 in
theorem met_X12_way (l : Launch) (D : va_G) (ρ : z_A) (kd : z_K) (q : z_Q) (μ : z_M) (sz : Nat) (a1 : Int32) (a2 : Int32) (K : Int32 → z_M → Prop) (hI : z_I kd q) (h_o : kd 0 = some (.inl 12)) (h : C_X12_way a1 a2 μ K) : Met l yX12_way (z_ws yX12_way cX12_way 5 (Option.some Jvm.ClassFile.FieldType.int)) rm_X12_way (z_Pc D ρ kd q μ sz [.ref (0), .int (a1), .int (a2)]) (z_Qn D (z_Rg ρ sz) ρ kd (z_Ki q K)) 0 0 (z_Rg ρ sz) := by
  refine z_met (rm := rm_X12_way) (by decide) (Nat.le_of_ble_eq_true rfl) (fun p e s m args below meth c G hr hlk => ?_)
  unfold C_X12_way at h
  show z_X _ _ _ _ _ _ _ _ _ _ _ _ _ _ _ _ _ _ _ _ _ [(0, .ref (0)), (1, .int (a1)), (2, .int (a2))] _
  refine zx_aload_n (pc := 0) G (some (0)) 0 rfl rfl (z_dec T_X12_way_ok 0 (0, .aload_n 0, 1) rfl) ?_
  refine zx_iload_n (pc := 1) G 1 rfl rfl (z_dec T_X12_way_ok 1 (1, .iload_n 1, 1) rfl) ?_
  refine zx_callV_zN (pc := 2) (rm := rm_X12_isBook) G cw_RX12_180 ⟨Nat.le_of_ble_eq_true rfl, Nat.le_of_ble_eq_true rfl⟩ rfl rfl ⟨Nat.zero_le _, Nat.zero_le _⟩ h_o rfl (fun sz => (met_X12_isBook l D ρ kd q μ sz a1 _ hI h_o h)) rfl rfl (Nat.le_of_ble_eq_true rfl) (z_dec T_X12_way_ok 2 (2, .invokevirtual 180, 3) rfl) (fun r2 μ1 hzr2 hn => ?_)
  clear h
  have h := hn
  clear hn
  refine zx_if_eq (pc := 5) (tgt := 28) G rfl (z_dec T_X12_way_ok 3 (5, .ifCond .eq 23, 3) rfl) (fun hc => ?_) (fun hc => ?_)
  · replace h := z_pos hc h
    refine zx_iconst (pc := 28) (v := -1) G (z_dec T_X12_way_ok 14 (28, .iconst (-1), 1) rfl) rfl ?_
    exact zx_iret (pc := 29) G hr hlk (Nat.le_refl _) (Nat.le_refl _) (z_dec T_X12_way_ok 15 (29, .ireturn, 1) rfl) ⟨rfl, _, rfl, h⟩
  · replace h := z_neg hc h
    refine zx_iload_n (pc := 8) G 2 rfl rfl (z_dec T_X12_way_ok 4 (8, .iload_n 2, 1) rfl) ?_
    refine zx_i2l (pc := 9) G  (z_dec T_X12_way_ok 5 (9, .i2l, 1) rfl) ?_
    refine zx_lconst (pc := 10) (v := 1) G (z_dec T_X12_way_ok 6 (10, .lconst 1, 1) rfl) rfl ?_
    refine zx_ldc2 (pc := 11) G wk_RX12_362 (z_dec T_X12_way_ok 7 (11, .ldc2_w 362, 3) rfl) ?_
    refine zx_callS_zN (pc := 14) (rm := rm_X12_lies) G cw_RX12_140 ⟨Nat.le_of_ble_eq_true rfl, Nat.le_of_ble_eq_true rfl⟩ rfl rfl ⟨Nat.zero_le _, Nat.zero_le _⟩ (fun sz => (met_X12_lies l D ρ kd q μ1 sz a2.toInt64 ((1 : Int64)) ((160 : Int64)) _ hI h)) rfl rfl (Nat.le_of_ble_eq_true rfl) (z_dec T_X12_way_ok 8 (14, .invokestatic 140, 3) rfl) (fun r4 μ3 hzr4 hn => ?_)
    clear h
    have h := hn
    clear hn
    refine zx_if_eq (pc := 17) (tgt := 28) G rfl (z_dec T_X12_way_ok 9 (17, .ifCond .eq 11, 3) rfl) (fun hc => ?_) (fun hc => ?_)
    · replace h := z_pos hc h
      refine zx_iconst (pc := 28) (v := -1) G (z_dec T_X12_way_ok 14 (28, .iconst (-1), 1) rfl) rfl ?_
      exact zx_iret (pc := 29) G hr hlk (Nat.le_refl _) (Nat.le_refl _) (z_dec T_X12_way_ok 15 (29, .ireturn, 1) rfl) ⟨rfl, _, rfl, h⟩
    · replace h := z_neg hc h
      refine zx_iload_n (pc := 20) G 2 rfl rfl (z_dec T_X12_way_ok 10 (20, .iload_n 2, 1) rfl) ?_
      refine zx_aload_n (pc := 21) G (some (0)) 0 rfl rfl (z_dec T_X12_way_ok 11 (21, .aload_n 0, 1) rfl) ?_
      refine zx_getI (pc := 22) G gf_RX12_164 rfl h_o (z_dec T_X12_way_ok 12 (22, .getfield 164, 3) rfl) ?_
      refine zx_icmp_le (pc := 25) (tgt := 30) G rfl (z_dec T_X12_way_ok 13 (25, .if_icmp .le 5, 3) rfl) (fun hc => ?_) (fun hc => ?_)
      · replace h := z_pos hc h
        refine zx_aload_n (pc := 30) G (some (0)) 0 rfl rfl (z_dec T_X12_way_ok 16 (30, .aload_n 0, 1) rfl) ?_
        refine zx_iconst (pc := 31) (v := 0) G (z_dec T_X12_way_ok 17 (31, .iconst 0, 1) rfl) rfl ?_
        refine zx_putI (pc := 32) G gf_RX12_164 cf_12 rfl rfl h_o (z_dec T_X12_way_ok 18 (32, .putfield 164, 3) rfl) ?_
        refine zx_aload_n (pc := 35) G (some (0)) 0 rfl rfl (z_dec T_X12_way_ok 19 (35, .aload_n 0, 1) rfl) ?_
        refine zx_iconst (pc := 36) (v := 0) G (z_dec T_X12_way_ok 20 (36, .iconst 0, 1) rfl) rfl ?_
        refine zx_putI (pc := 37) G gf_RX12_261 cf_12 rfl rfl h_o (z_dec T_X12_way_ok 21 (37, .putfield 261, 3) rfl) ?_
        refine zx_aload_n (pc := 40) G (some (0)) 0 rfl rfl (z_dec T_X12_way_ok 22 (40, .aload_n 0, 1) rfl) ?_
        refine zx_iload_n (pc := 41) G 2 rfl rfl (z_dec T_X12_way_ok 23 (41, .iload_n 2, 1) rfl) ?_
        refine zx_putI (pc := 42) G gf_RX12_264 cf_12 rfl rfl h_o (z_dec T_X12_way_ok 24 (42, .putfield 264, 3) rfl) ?_
        refine zx_aload_n (pc := 45) G (some (0)) 0 rfl rfl (z_dec T_X12_way_ok 25 (45, .aload_n 0, 1) rfl) ?_
        refine zx_iconst (pc := 46) (v := 0) G (z_dec T_X12_way_ok 26 (46, .iconst 0, 1) rfl) rfl ?_
        refine zx_putI (pc := 47) G gf_RX12_267 cf_12 rfl rfl h_o (z_dec T_X12_way_ok 27 (47, .putfield 267, 3) rfl) ?_
        refine zx_aload_n (pc := 50) G (some (0)) 0 rfl rfl (z_dec T_X12_way_ok 28 (50, .aload_n 0, 1) rfl) ?_
        refine zx_iconst (pc := 51) (v := 0) G (z_dec T_X12_way_ok 29 (51, .iconst 0, 1) rfl) rfl ?_
        refine zx_putI (pc := 52) G gf_RX12_353 cf_12 rfl rfl h_o (z_dec T_X12_way_ok 30 (52, .putfield 353, 3) rfl) ?_
        refine zx_aload_n (pc := 55) G (some (0)) 0 rfl rfl (z_dec T_X12_way_ok 31 (55, .aload_n 0, 1) rfl) ?_
        refine zx_iconst (pc := 56) (v := 0) G (z_dec T_X12_way_ok 32 (56, .iconst 0, 1) rfl) rfl ?_
        refine zx_putI (pc := 57) G gf_RX12_274 cf_12 rfl rfl h_o (z_dec T_X12_way_ok 33 (57, .putfield 274, 3) rfl) ?_
        refine zx_iconst (pc := 60) (v := 1) G (z_dec T_X12_way_ok 34 (60, .iconst 1, 1) rfl) rfl ?_
        refine zx_istore_n (pc := 61) (lv' := [(3, .int ((1 : Int32))), (0, .ref (0)), (1, .int (a1)), (2, .int (a2))]) G rfl (Nat.le_of_ble_eq_true rfl) rfl (z_dec T_X12_way_ok 35 (61, .istore_n 3, 1) rfl) ?_
        refine zx_sub (lv' := [(0, .ref (0)), (1, .int (a1)), (3, .int ((1 : Int32)))]) [1, 2, 0] rfl ?_
        exact L_X12_way_62_ok G hr hlk hI h_o (Or.inr rfl) h
      · replace h := z_neg hc h
        refine zx_iconst (pc := 28) (v := -1) G (z_dec T_X12_way_ok 14 (28, .iconst (-1), 1) rfl) rfl ?_
        exact zx_iret (pc := 29) G hr hlk (Nat.le_refl _) (Nat.le_refl _) (z_dec T_X12_way_ok 15 (29, .ireturn, 1) rfl) ⟨rfl, _, rfl, h⟩
abbrev rm_X12_scratch : Room := { frames := 4, cells := 0, slots := 0, locals := 90 }
set_option maxRecDepth 100000 in
set_option maxHeartbeats 4000000 in
theorem B_X12_scratch_69_ok {p : Program} {l : Launch} {e : Env} {s : State} {m : MethodId} {args : Array Value} {below : List Frame} {meth : Method} {c : Code} {D : va_G} {A : Nat → Prop} {ρ : z_A} {kd : z_K} {q : z_Q} {μ : z_M} {K : Int32 → z_M → Prop} {P69 : Int32 → Int32 → Int32 → z_M → Prop} {v1 : Int32} {v2 : Int32} {v3 : Int32} (G : z_G p c cX12_scratch s m args RX12 4 D) (hr : meth.sig.returnType = (Option.some Jvm.ClassFile.FieldType.boolean)) (hlk : meth.locks = false) (hP69 : ∀ (v1 : Int32) (v2 : Int32) (v3 : Int32) (μ : z_M), P69 v1 v2 v3 μ → (kd 0 = some (.inl 12)) → z_X p l e rm_X12_scratch s m args below meth c 4 D A (MQ below (z_Qn D A ρ kd (z_Kz q K)) args s 0 0 A) 0 0 ρ kd q μ 69 [(0, .ref (0)), (1, .int (v1)), (2, .int (v2)), (3, .int (v3))] []) (hI : z_I kd q) (f_l0 : kd 0 = some (.inl 12)) (h : B_X12_scratch_69 K P69 v1 v2 v3 μ) : z_X p l e rm_X12_scratch s m args below meth c 4 D A (MQ below (z_Qn D A ρ kd (z_Kz q K)) args s 0 0 A) 0 0 ρ kd q μ 69 [(0, .ref (0)), (1, .int (v1)), (2, .int (v2)), (3, .int (v3))] [] := by
    unfold B_X12_scratch_69 at h
    refine zx_iload_n (pc := 69) G 3 rfl rfl (z_dec T_X12_scratch_ok 46 (69, .iload_n 3, 1) rfl) ?_
    refine zx_iconst (pc := 70) (v := 4) G (z_dec T_X12_scratch_ok 47 (70, .iconst 4, 1) rfl) rfl ?_
    refine zx_icmp_ge (pc := 71) (tgt := 114) G rfl (z_dec T_X12_scratch_ok 48 (71, .if_icmp .ge 43, 3) rfl) (fun hc => ?_) (fun hc => ?_)
    · replace h := z_pos hc h
      refine zx_iconst (pc := 114) (v := 1) G (z_dec T_X12_scratch_ok 73 (114, .iconst 1, 1) rfl) rfl ?_
      exact zx_zret (pc := 115) G hr hlk (Nat.le_refl _) (Nat.le_refl _) (Or.inr rfl) (z_dec T_X12_scratch_ok 74 (115, .ireturn, 1) rfl) ⟨rfl, _, rfl, (Or.inr rfl), h⟩
    · replace h := z_neg hc h
      refine zx_aload_n (pc := 74) G (some (0)) 0 rfl rfl (z_dec T_X12_scratch_ok 49 (74, .aload_n 0, 1) rfl) ?_
      refine zx_getF (pc := 75) (b := 19) G gf_RX12_48 rfl f_l0 (zq_12_18 hI f_l0) (z_dec T_X12_scratch_ok 50 (75, .getfield 48, 3) rfl) ?_
      refine zx_iload_n (pc := 78) G 3 rfl rfl (z_dec T_X12_scratch_ok 51 (78, .iload_n 3, 1) rfl) ?_
      refine zx_iload_n (pc := 79) G 1 rfl rfl (z_dec T_X12_scratch_ok 52 (79, .iload_n 1, 1) rfl) ?_
      refine zx_iload_n (pc := 80) G 2 rfl rfl (z_dec T_X12_scratch_ok 53 (80, .iload_n 2, 1) rfl) ?_
      refine zx_callS_iN (pc := 81) (rm := rm_X12_cellOf) G cw_RX12_188 ⟨Nat.le_of_ble_eq_true rfl, Nat.le_of_ble_eq_true rfl⟩ rfl rfl ⟨Nat.zero_le _, Nat.zero_le _⟩ (fun sz => (met_X12_cellOf l D ρ kd q μ sz v3 v1 v2 _ hI h)) rfl rfl (Nat.le_of_ble_eq_true rfl) (z_dec T_X12_scratch_ok 54 (81, .invokestatic 188, 3) rfl) (fun r2 μ1 hn => ?_)
      clear h
      have h := hn
      clear hn
      refine zx_aload_n (pc := 84) G (some (0)) 0 rfl rfl (z_dec T_X12_scratch_ok 55 (84, .aload_n 0, 1) rfl) ?_
      refine zx_getF (pc := 85) (b := 17) G gf_RX12_42 rfl f_l0 (zq_12_16 hI f_l0) (z_dec T_X12_scratch_ok 56 (85, .getfield 42, 3) rfl) ?_
      refine zx_iload_n (pc := 88) G 3 rfl rfl (z_dec T_X12_scratch_ok 57 (88, .iload_n 3, 1) rfl) ?_
      refine zx_iload_n (pc := 89) G 1 rfl rfl (z_dec T_X12_scratch_ok 58 (89, .iload_n 1, 1) rfl) ?_
      refine zx_iload_n (pc := 90) G 2 rfl rfl (z_dec T_X12_scratch_ok 59 (90, .iload_n 2, 1) rfl) ?_
      refine zx_callS_iN (pc := 91) (rm := rm_X12_cellOf) G cw_RX12_188 ⟨Nat.le_of_ble_eq_true rfl, Nat.le_of_ble_eq_true rfl⟩ rfl rfl ⟨Nat.zero_le _, Nat.zero_le _⟩ (fun sz => (met_X12_cellOf l D ρ kd q μ1 sz v3 v1 v2 _ hI h)) rfl rfl (Nat.le_of_ble_eq_true rfl) (z_dec T_X12_scratch_ok 60 (91, .invokestatic 188, 3) rfl) (fun r4 μ3 hn => ?_)
      clear h
      have h := hn
      clear hn
      obtain ⟨c5, h⟩ := h
      refine zx_iald (pc := 94) G (zk_12_16 hI f_l0) c5 (z_dec T_X12_scratch_ok 61 (94, .iaload, 1) rfl) ?_
      obtain ⟨c6, h⟩ := h
      refine zx_iast (pc := 95) G (zk_12_18 hI f_l0) c6 (z_dec T_X12_scratch_ok 62 (95, .iastore, 1) rfl) ?_
      refine zx_aload_n (pc := 96) G (some (0)) 0 rfl rfl (z_dec T_X12_scratch_ok 63 (96, .aload_n 0, 1) rfl) ?_
      refine zx_getF (pc := 97) (b := 17) G gf_RX12_42 rfl f_l0 (zq_12_16 hI f_l0) (z_dec T_X12_scratch_ok 64 (97, .getfield 42, 3) rfl) ?_
      refine zx_iload_n (pc := 100) G 3 rfl rfl (z_dec T_X12_scratch_ok 65 (100, .iload_n 3, 1) rfl) ?_
      refine zx_iload_n (pc := 101) G 1 rfl rfl (z_dec T_X12_scratch_ok 66 (101, .iload_n 1, 1) rfl) ?_
      refine zx_iload_n (pc := 102) G 2 rfl rfl (z_dec T_X12_scratch_ok 67 (102, .iload_n 2, 1) rfl) ?_
      refine zx_callS_iN (pc := 103) (rm := rm_X12_cellOf) G cw_RX12_188 ⟨Nat.le_of_ble_eq_true rfl, Nat.le_of_ble_eq_true rfl⟩ rfl rfl ⟨Nat.zero_le _, Nat.zero_le _⟩ (fun sz => (met_X12_cellOf l D ρ kd q (si μ3 19 r2.toNatClampNeg (μ3.1 17 r4.toNatClampNeg)) sz v3 v1 v2 _ hI h)) rfl rfl (Nat.le_of_ble_eq_true rfl) (z_dec T_X12_scratch_ok 68 (103, .invokestatic 188, 3) rfl) (fun r8 μ7 hn => ?_)
      clear h
      have h := hn
      clear hn
      refine zx_iconst (pc := 106) (v := -1) G (z_dec T_X12_scratch_ok 69 (106, .iconst (-1), 1) rfl) rfl ?_
      obtain ⟨c9, h⟩ := h
      refine zx_iast (pc := 107) G (zk_12_16 hI f_l0) c9 (z_dec T_X12_scratch_ok 70 (107, .iastore, 1) rfl) ?_
      refine zx_iinc (pc := 108) (v := v3 + 1) (lv' := [(3, .int (v3 + 1)), (0, .ref (0)), (1, .int (v1)), (2, .int (v2))]) G 3 rfl (z_inc (by decide)) (Nat.le_of_ble_eq_true rfl) rfl (z_dec T_X12_scratch_ok 71 (108, .iinc 3 1, 3) rfl) ?_
      refine zx_goto (pc := 111) (tgt := 69) G rfl (z_dec T_X12_scratch_ok 72 (111, .goto (-42), 3) rfl) ?_
      refine zx_sub (lv' := [(0, .ref (0)), (1, .int (v1)), (2, .int (v2)), (3, .int (v3 + 1))]) [1, 2, 3, 0] rfl ?_
      exact hP69 _ _ _ _ h f_l0
set_option maxRecDepth 100000 in
set_option maxHeartbeats 4000000 in
theorem L_X12_scratch_69_ok {p : Program} {l : Launch} {e : Env} {s : State} {m : MethodId} {args : Array Value} {below : List Frame} {meth : Method} {c : Code} {D : va_G} {A : Nat → Prop} {ρ : z_A} {kd : z_K} {q : z_Q} {μ : z_M} {K : Int32 → z_M → Prop} {v1 : Int32} {v2 : Int32} {v3 : Int32} (G : z_G p c cX12_scratch s m args RX12 4 D) (hr : meth.sig.returnType = (Option.some Jvm.ClassFile.FieldType.boolean)) (hlk : meth.locks = false) (hI : z_I kd q) (f_l0 : kd 0 = some (.inl 12)) (h : L_X12_scratch_69 K v1 v2 v3 μ) : z_X p l e rm_X12_scratch s m args below meth c 4 D A (MQ below (z_Qn D A ρ kd (z_Kz q K)) args s 0 0 A) 0 0 ρ kd q μ 69 [(0, .ref (0)), (1, .int (v1)), (2, .int (v2)), (3, .int (v3))] [] :=
  h (fun (v1 : Int32) (v2 : Int32) (v3 : Int32) (μ : z_M) => (kd 0 = some (.inl 12)) → z_X p l e rm_X12_scratch s m args below meth c 4 D A (MQ below (z_Qn D A ρ kd (z_Kz q K)) args s 0 0 A) 0 0 ρ kd q μ 69 [(0, .ref (0)), (1, .int (v1)), (2, .int (v2)), (3, .int (v3))] []) (fun v1 v2 v3 μ h f_l0 => B_X12_scratch_69_ok G hr hlk (fun _ _ _ _ h => h) hI f_l0 h) f_l0
set_option maxRecDepth 100000 in
set_option maxHeartbeats 4000000 in
theorem met_X12_scratch (l : Launch) (D : va_G) (ρ : z_A) (kd : z_K) (q : z_Q) (μ : z_M) (sz : Nat) (a1 : Int32) (a2 : Int32) (K : Int32 → z_M → Prop) (hI : z_I kd q) (h_o : kd 0 = some (.inl 12)) (h : C_X12_scratch a1 a2 μ K) : Met l yX12_scratch (z_ws yX12_scratch cX12_scratch 4 (Option.some Jvm.ClassFile.FieldType.boolean)) rm_X12_scratch (z_Pc D ρ kd q μ sz [.ref (0), .int (a1), .int (a2)]) (z_Qn D (z_Rg ρ sz) ρ kd (z_Kz q K)) 0 0 (z_Rg ρ sz) := by
  refine z_met (rm := rm_X12_scratch) (by decide) (Nat.le_of_ble_eq_true rfl) (fun p e s m args below meth c G hr hlk => ?_)
  unfold C_X12_scratch at h
  show z_X _ _ _ _ _ _ _ _ _ _ _ _ _ _ _ _ _ _ _ _ _ [(0, .ref (0)), (1, .int (a1)), (2, .int (a2))] _
  refine zx_aload_n (pc := 0) G (some (0)) 0 rfl rfl (z_dec T_X12_scratch_ok 0 (0, .aload_n 0, 1) rfl) ?_
  refine zx_iload_n (pc := 1) G 1 rfl rfl (z_dec T_X12_scratch_ok 1 (1, .iload_n 1, 1) rfl) ?_
  refine zx_iload_n (pc := 2) G 2 rfl rfl (z_dec T_X12_scratch_ok 2 (2, .iload_n 2, 1) rfl) ?_
  refine zx_callV_zN (pc := 3) (rm := rm_X12_runs) G cw_RX12_183 ⟨Nat.le_of_ble_eq_true rfl, Nat.le_of_ble_eq_true rfl⟩ rfl rfl ⟨Nat.zero_le _, Nat.zero_le _⟩ h_o rfl (fun sz => (met_X12_runs l D ρ kd q μ sz a1 a2 _ hI h_o h)) rfl rfl (Nat.le_of_ble_eq_true rfl) (z_dec T_X12_scratch_ok 3 (3, .invokevirtual 183, 3) rfl) (fun r2 μ1 hzr2 hn => ?_)
  clear h
  have h := hn
  clear hn
  refine zx_if_eq (pc := 6) (tgt := 38) G rfl (z_dec T_X12_scratch_ok 4 (6, .ifCond .eq 32, 3) rfl) (fun hc => ?_) (fun hc => ?_)
  · replace h := z_pos hc h
    refine zx_iconst (pc := 38) (v := 0) G (z_dec T_X12_scratch_ok 22 (38, .iconst 0, 1) rfl) rfl ?_
    exact zx_zret (pc := 39) G hr hlk (Nat.le_refl _) (Nat.le_refl _) (Or.inl rfl) (z_dec T_X12_scratch_ok 23 (39, .ireturn, 1) rfl) ⟨rfl, _, rfl, (Or.inl rfl), h⟩
  · replace h := z_neg hc h
    refine zx_aload_n (pc := 9) G (some (0)) 0 rfl rfl (z_dec T_X12_scratch_ok 5 (9, .aload_n 0, 1) rfl) ?_
    refine zx_getF (pc := 10) (b := 12) G gf_RX12_26 rfl h_o (zq_12_11 hI h_o) (z_dec T_X12_scratch_ok 6 (10, .getfield 26, 3) rfl) ?_
    refine zx_iload_n (pc := 13) G 1 rfl rfl (z_dec T_X12_scratch_ok 7 (13, .iload_n 1, 1) rfl) ?_
    obtain ⟨c3, h⟩ := h
    refine zx_zald (pc := 14) G (zk_12_11 hI h_o) c3 (z_dec T_X12_scratch_ok 8 (14, .baload, 1) rfl) ?_
    refine zx_if_ne (pc := 15) (tgt := 38) G rfl (z_dec T_X12_scratch_ok 9 (15, .ifCond .ne 23, 3) rfl) (fun hc => ?_) (fun hc => ?_)
    · replace h := z_neg hc h
      refine zx_iconst (pc := 38) (v := 0) G (z_dec T_X12_scratch_ok 22 (38, .iconst 0, 1) rfl) rfl ?_
      exact zx_zret (pc := 39) G hr hlk (Nat.le_refl _) (Nat.le_refl _) (Or.inl rfl) (z_dec T_X12_scratch_ok 23 (39, .ireturn, 1) rfl) ⟨rfl, _, rfl, (Or.inl rfl), h⟩
    · replace h := z_pos hc h
      refine zx_aload_n (pc := 18) G (some (0)) 0 rfl rfl (z_dec T_X12_scratch_ok 10 (18, .aload_n 0, 1) rfl) ?_
      refine zx_getF (pc := 19) (b := 10) G gf_RX12_20 rfl h_o (zq_12_9 hI h_o) (z_dec T_X12_scratch_ok 11 (19, .getfield 20, 3) rfl) ?_
      refine zx_iload_n (pc := 22) G 1 rfl rfl (z_dec T_X12_scratch_ok 12 (22, .iload_n 1, 1) rfl) ?_
      refine zx_iald (pc := 23) G (zk_12_9 hI h_o) c3 (z_dec T_X12_scratch_ok 13 (23, .iaload, 1) rfl) ?_
      refine zx_aload_n (pc := 24) G (some (0)) 0 rfl rfl (z_dec T_X12_scratch_ok 14 (24, .aload_n 0, 1) rfl) ?_
      refine zx_getF (pc := 25) (b := 11) G gf_RX12_23 rfl h_o (zq_12_10 hI h_o) (z_dec T_X12_scratch_ok 15 (25, .getfield 23, 3) rfl) ?_
      refine zx_iload_n (pc := 28) G 1 rfl rfl (z_dec T_X12_scratch_ok 16 (28, .iload_n 1, 1) rfl) ?_
      refine zx_iald (pc := 29) G (zk_12_10 hI h_o) c3 (z_dec T_X12_scratch_ok 17 (29, .iaload, 1) rfl) ?_
      refine zx_callS_iN (pc := 30) (rm := rm_X12_sizeOf) G cw_RX12_395 ⟨Nat.le_of_ble_eq_true rfl, Nat.le_of_ble_eq_true rfl⟩ rfl rfl ⟨Nat.zero_le _, Nat.zero_le _⟩ (fun sz => (met_X12_sizeOf l D ρ kd q μ1 sz (μ1.1 11 a1.toNatClampNeg) _ hI h)) rfl rfl (Nat.le_of_ble_eq_true rfl) (z_dec T_X12_scratch_ok 18 (30, .invokestatic 395, 3) rfl) (fun r5 μ4 hn => ?_)
      clear h
      have h := hn
      clear hn
      refine zx_isub (pc := 33) G  (z_dec T_X12_scratch_ok 19 (33, .isub, 1) rfl) ?_
      refine zx_iconst (pc := 34) (v := 3) G (z_dec T_X12_scratch_ok 20 (34, .iconst 3, 1) rfl) rfl ?_
      refine zx_icmp_ge (pc := 35) (tgt := 40) G rfl (z_dec T_X12_scratch_ok 21 (35, .if_icmp .ge 5, 3) rfl) (fun hc => ?_) (fun hc => ?_)
      · replace h := z_pos hc h
        refine zx_aload_n (pc := 40) G (some (0)) 0 rfl rfl (z_dec T_X12_scratch_ok 24 (40, .aload_n 0, 1) rfl) ?_
        refine zx_getF (pc := 41) (b := 11) G gf_RX12_23 rfl h_o (zq_12_10 hI h_o) (z_dec T_X12_scratch_ok 25 (41, .getfield 23, 3) rfl) ?_
        refine zx_iload_n (pc := 44) G 1 rfl rfl (z_dec T_X12_scratch_ok 26 (44, .iload_n 1, 1) rfl) ?_
        refine zx_dup2 (pc := 45) G rfl rfl (z_dec T_X12_scratch_ok 27 (45, .dup2, 1) rfl) ?_
        refine zx_iald (pc := 46) G (zk_12_10 hI h_o) c3 (z_dec T_X12_scratch_ok 28 (46, .iaload, 1) rfl) ?_
        refine zx_iconst (pc := 47) (v := 1) G (z_dec T_X12_scratch_ok 29 (47, .iconst 1, 1) rfl) rfl ?_
        refine zx_iload_n (pc := 48) G 2 rfl rfl (z_dec T_X12_scratch_ok 30 (48, .iload_n 2, 1) rfl) ?_
        refine zx_ishl (pc := 49) G  (z_dec T_X12_scratch_ok 31 (49, .ishl, 1) rfl) ?_
        refine zx_ior (pc := 50) G  (z_dec T_X12_scratch_ok 32 (50, .ior, 1) rfl) ?_
        refine zx_iast (pc := 51) G (zk_12_10 hI h_o) c3 (z_dec T_X12_scratch_ok 33 (51, .iastore, 1) rfl) ?_
        refine zx_aload_n (pc := 52) G (some (0)) 0 rfl rfl (z_dec T_X12_scratch_ok 34 (52, .aload_n 0, 1) rfl) ?_
        refine zx_getF (pc := 53) (b := 18) G gf_RX12_45 rfl h_o (zq_12_17 hI h_o) (z_dec T_X12_scratch_ok 35 (53, .getfield 45, 3) rfl) ?_
        refine zx_bipush (pc := 56) (v := 8) G (z_dec T_X12_scratch_ok 36 (56, .bipush 8, 2) rfl) rfl ?_
        refine zx_iload_n (pc := 58) G 1 rfl rfl (z_dec T_X12_scratch_ok 37 (58, .iload_n 1, 1) rfl) ?_
        refine zx_imul (pc := 59) G  (z_dec T_X12_scratch_ok 38 (59, .imul, 1) rfl) ?_
        refine zx_iload_n (pc := 60) G 2 rfl rfl (z_dec T_X12_scratch_ok 39 (60, .iload_n 2, 1) rfl) ?_
        refine zx_iadd (pc := 61) G  (z_dec T_X12_scratch_ok 40 (61, .iadd, 1) rfl) ?_
        refine zx_aload_n (pc := 62) G (some (0)) 0 rfl rfl (z_dec T_X12_scratch_ok 41 (62, .aload_n 0, 1) rfl) ?_
        refine zx_getI (pc := 63) G gf_RX12_196 rfl h_o (z_dec T_X12_scratch_ok 42 (63, .getfield 196, 3) rfl) ?_
        obtain ⟨c6, h⟩ := h
        refine zx_iast (pc := 66) G (zk_12_17 hI h_o) c6 (z_dec T_X12_scratch_ok 43 (66, .iastore, 1) rfl) ?_
        refine zx_iconst (pc := 67) (v := 0) G (z_dec T_X12_scratch_ok 44 (67, .iconst 0, 1) rfl) rfl ?_
        refine zx_istore_n (pc := 68) (lv' := [(3, .int ((0 : Int32))), (0, .ref (0)), (1, .int (a1)), (2, .int (a2))]) G rfl (Nat.le_of_ble_eq_true rfl) rfl (z_dec T_X12_scratch_ok 45 (68, .istore_n 3, 1) rfl) ?_
        refine zx_sub (lv' := [(0, .ref (0)), (1, .int (a1)), (2, .int (a2)), (3, .int ((0 : Int32)))]) [1, 2, 3, 0] rfl ?_
        exact L_X12_scratch_69_ok G hr hlk hI h_o h
      · replace h := z_neg hc h
        refine zx_iconst (pc := 38) (v := 0) G (z_dec T_X12_scratch_ok 22 (38, .iconst 0, 1) rfl) rfl ?_
        exact zx_zret (pc := 39) G hr hlk (Nat.le_refl _) (Nat.le_refl _) (Or.inl rfl) (z_dec T_X12_scratch_ok 23 (39, .ireturn, 1) rfl) ⟨rfl, _, rfl, (Or.inl rfl), h⟩
abbrev rm_X12_deductionOf : Room := { frames := 1, cells := 0, slots := 0, locals := 22 }
set_option maxRecDepth 100000 in
set_option maxHeartbeats 4000000 in
theorem B_X12_deductionOf_5_ok {p : Program} {l : Launch} {e : Env} {s : State} {m : MethodId} {args : Array Value} {below : List Frame} {meth : Method} {c : Code} {D : va_G} {A : Nat → Prop} {ρ : z_A} {kd : z_K} {q : z_Q} {μ : z_M} {K : Int32 → z_M → Prop} {P5 : Int32 → Int32 → Int32 → Int32 → z_M → Prop} {v1 : Int32} {v2 : Int32} {v3 : Int32} {v4 : Int32} (G : z_G p c cX12_deductionOf s m args RX12 6 D) (hr : meth.sig.returnType = (Option.some Jvm.ClassFile.FieldType.int)) (hlk : meth.locks = false) (hP5 : ∀ (v1 : Int32) (v2 : Int32) (v3 : Int32) (v4 : Int32) (μ : z_M), P5 v1 v2 v3 v4 μ → (kd 0 = some (.inl 12)) → z_X p l e rm_X12_deductionOf s m args below meth c 6 D A (MQ below (z_Qn D A ρ kd (z_Ki q K)) args s 0 0 A) 0 0 ρ kd q μ 5 [(0, .ref (0)), (1, .int (v1)), (2, .int (v2)), (3, .int (v3)), (4, .int (v4))] []) (hI : z_I kd q) (f_l0 : kd 0 = some (.inl 12)) (h : B_X12_deductionOf_5 K P5 v1 v2 v3 v4 μ) : z_X p l e rm_X12_deductionOf s m args below meth c 6 D A (MQ below (z_Qn D A ρ kd (z_Ki q K)) args s 0 0 A) 0 0 ρ kd q μ 5 [(0, .ref (0)), (1, .int (v1)), (2, .int (v2)), (3, .int (v3)), (4, .int (v4))] [] := by
    unfold B_X12_deductionOf_5 at h
    refine zx_iload (pc := 5) G 4 rfl (z_dec T_X12_deductionOf_ok 4 (5, .iload 4, 2) rfl) ?_
    refine zx_aload_n (pc := 7) G (some (0)) 0 rfl rfl (z_dec T_X12_deductionOf_ok 5 (7, .aload_n 0, 1) rfl) ?_
    refine zx_getF (pc := 8) (b := 10) G gf_RX12_20 rfl f_l0 (zq_12_9 hI f_l0) (z_dec T_X12_deductionOf_ok 6 (8, .getfield 20, 3) rfl) ?_
    refine zx_iload_n (pc := 11) G 2 rfl rfl (z_dec T_X12_deductionOf_ok 7 (11, .iload_n 2, 1) rfl) ?_
    obtain ⟨c1, h⟩ := h
    refine zx_iald (pc := 12) G (zk_12_9 hI f_l0) c1 (z_dec T_X12_deductionOf_ok 8 (12, .iaload, 1) rfl) ?_
    refine zx_icmp_ge (pc := 13) (tgt := 126) G rfl (z_dec T_X12_deductionOf_ok 9 (13, .if_icmp .ge 113, 3) rfl) (fun hc => ?_) (fun hc => ?_)
    · replace h := z_pos hc h
      refine zx_iload_n (pc := 126) G 3 rfl rfl (z_dec T_X12_deductionOf_ok 75 (126, .iload_n 3, 1) rfl) ?_
      refine zx_bipush (pc := 127) (v := 75) G (z_dec T_X12_deductionOf_ok 76 (127, .bipush 75, 2) rfl) rfl ?_
      refine zx_icmp_le (pc := 129) (tgt := 137) G rfl (z_dec T_X12_deductionOf_ok 77 (129, .if_icmp .le 8, 3) rfl) (fun hc => ?_) (fun hc => ?_)
      · replace h := z_pos hc h
        refine zx_iload_n (pc := 137) G 3 rfl rfl (z_dec T_X12_deductionOf_ok 80 (137, .iload_n 3, 1) rfl) ?_
        exact zx_iret (pc := 138) G hr hlk (Nat.le_refl _) (Nat.le_refl _) (z_dec T_X12_deductionOf_ok 81 (138, .ireturn, 1) rfl) ⟨rfl, _, rfl, h⟩
      · replace h := z_neg hc h
        refine zx_bipush (pc := 132) (v := 75) G (z_dec T_X12_deductionOf_ok 78 (132, .bipush 75, 2) rfl) rfl ?_
        refine zx_goto (pc := 134) (tgt := 138) G rfl (z_dec T_X12_deductionOf_ok 79 (134, .goto 4, 3) rfl) ?_
        exact zx_iret (pc := 138) G hr hlk (Nat.le_refl _) (Nat.le_refl _) (z_dec T_X12_deductionOf_ok 81 (138, .ireturn, 1) rfl) ⟨rfl, _, rfl, h⟩
    · replace h := z_neg hc h
      refine zx_iload (pc := 16) G 4 rfl (z_dec T_X12_deductionOf_ok 10 (16, .iload 4, 2) rfl) ?_
      refine zx_aload_n (pc := 18) G (some (0)) 0 rfl rfl (z_dec T_X12_deductionOf_ok 11 (18, .aload_n 0, 1) rfl) ?_
      refine zx_getF (pc := 19) (b := 25) G gf_RX12_66 rfl f_l0 (zq_12_24 hI f_l0) (z_dec T_X12_deductionOf_ok 12 (19, .getfield 66, 3) rfl) ?_
      refine zx_iconst (pc := 22) (v := 3) G (z_dec T_X12_deductionOf_ok 13 (22, .iconst 3, 1) rfl) rfl ?_
      refine zx_iload_n (pc := 23) G 1 rfl rfl (z_dec T_X12_deductionOf_ok 14 (23, .iload_n 1, 1) rfl) ?_
      refine zx_imul (pc := 24) G  (z_dec T_X12_deductionOf_ok 15 (24, .imul, 1) rfl) ?_
      refine zx_iload_n (pc := 25) G 2 rfl rfl (z_dec T_X12_deductionOf_ok 16 (25, .iload_n 2, 1) rfl) ?_
      refine zx_iadd (pc := 26) G  (z_dec T_X12_deductionOf_ok 17 (26, .iadd, 1) rfl) ?_
      obtain ⟨c2, h⟩ := h
      refine zx_iald (pc := 27) G (zk_12_24 hI f_l0) c2 (z_dec T_X12_deductionOf_ok 18 (27, .iaload, 1) rfl) ?_
      refine zx_icmp_eq (pc := 28) (tgt := 120) G rfl (z_dec T_X12_deductionOf_ok 19 (28, .if_icmp .eq 92, 3) rfl) (fun hc => ?_) (fun hc => ?_)
      · replace h := z_pos hc h
        refine zx_iinc (pc := 120) (v := v4 + 1) (lv' := [(4, .int (v4 + 1)), (0, .ref (0)), (1, .int (v1)), (2, .int (v2)), (3, .int (v3))]) G 4 rfl (z_inc (by decide)) (Nat.le_of_ble_eq_true rfl) rfl (z_dec T_X12_deductionOf_ok 73 (120, .iinc 4 1, 3) rfl) ?_
        refine zx_goto (pc := 123) (tgt := 5) G rfl (z_dec T_X12_deductionOf_ok 74 (123, .goto (-118), 3) rfl) ?_
        refine zx_sub (lv' := [(0, .ref (0)), (1, .int (v1)), (2, .int (v2)), (3, .int (v3)), (4, .int (v4 + 1))]) [1, 2, 3, 4, 0] rfl ?_
        exact hP5 _ _ _ _ _ h f_l0
      · replace h := z_neg hc h
        refine zx_aload_n (pc := 31) G (some (0)) 0 rfl rfl (z_dec T_X12_deductionOf_ok 20 (31, .aload_n 0, 1) rfl) ?_
        refine zx_getF (pc := 32) (b := 11) G gf_RX12_23 rfl f_l0 (zq_12_10 hI f_l0) (z_dec T_X12_deductionOf_ok 21 (32, .getfield 23, 3) rfl) ?_
        refine zx_iload_n (pc := 35) G 2 rfl rfl (z_dec T_X12_deductionOf_ok 22 (35, .iload_n 2, 1) rfl) ?_
        refine zx_iald (pc := 36) G (zk_12_10 hI f_l0) c1 (z_dec T_X12_deductionOf_ok 23 (36, .iaload, 1) rfl) ?_
        refine zx_iload (pc := 37) G 4 rfl (z_dec T_X12_deductionOf_ok 24 (37, .iload 4, 2) rfl) ?_
        refine zx_callS_zN (pc := 39) (rm := rm_X12_hasBit) G cw_RX12_155 ⟨Nat.le_of_ble_eq_true rfl, Nat.le_of_ble_eq_true rfl⟩ rfl rfl ⟨Nat.zero_le _, Nat.zero_le _⟩ (fun sz => (met_X12_hasBit l D ρ kd q μ sz (μ.1 11 v2.toNatClampNeg) v4 _ hI h)) rfl rfl (Nat.le_of_ble_eq_true rfl) (z_dec T_X12_deductionOf_ok 25 (39, .invokestatic 155, 3) rfl) (fun r4 μ3 hzr4 hn => ?_)
        clear h
        have h := hn
        clear hn
        refine zx_if_eq (pc := 42) (tgt := 120) G rfl (z_dec T_X12_deductionOf_ok 26 (42, .ifCond .eq 78, 3) rfl) (fun hc => ?_) (fun hc => ?_)
        · replace h := z_pos hc h
          refine zx_iinc (pc := 120) (v := v4 + 1) (lv' := [(4, .int (v4 + 1)), (0, .ref (0)), (1, .int (v1)), (2, .int (v2)), (3, .int (v3))]) G 4 rfl (z_inc (by decide)) (Nat.le_of_ble_eq_true rfl) rfl (z_dec T_X12_deductionOf_ok 73 (120, .iinc 4 1, 3) rfl) ?_
          refine zx_goto (pc := 123) (tgt := 5) G rfl (z_dec T_X12_deductionOf_ok 74 (123, .goto (-118), 3) rfl) ?_
          refine zx_sub (lv' := [(0, .ref (0)), (1, .int (v1)), (2, .int (v2)), (3, .int (v3)), (4, .int (v4 + 1))]) [1, 2, 3, 4, 0] rfl ?_
          exact hP5 _ _ _ _ _ h f_l0
        · replace h := z_neg hc h
          refine zx_aload_n (pc := 45) G (some (0)) 0 rfl rfl (z_dec T_X12_deductionOf_ok 27 (45, .aload_n 0, 1) rfl) ?_
          refine zx_getF (pc := 46) (b := 18) G gf_RX12_45 rfl f_l0 (zq_12_17 hI f_l0) (z_dec T_X12_deductionOf_ok 28 (46, .getfield 45, 3) rfl) ?_
          refine zx_bipush (pc := 49) (v := 8) G (z_dec T_X12_deductionOf_ok 29 (49, .bipush 8, 2) rfl) rfl ?_
          refine zx_iload_n (pc := 51) G 2 rfl rfl (z_dec T_X12_deductionOf_ok 30 (51, .iload_n 2, 1) rfl) ?_
          refine zx_imul (pc := 52) G  (z_dec T_X12_deductionOf_ok 31 (52, .imul, 1) rfl) ?_
          refine zx_iload (pc := 53) G 4 rfl (z_dec T_X12_deductionOf_ok 32 (53, .iload 4, 2) rfl) ?_
          refine zx_iadd (pc := 55) G  (z_dec T_X12_deductionOf_ok 33 (55, .iadd, 1) rfl) ?_
          obtain ⟨c5, h⟩ := h
          refine zx_iald (pc := 56) G (zk_12_17 hI f_l0) c5 (z_dec T_X12_deductionOf_ok 34 (56, .iaload, 1) rfl) ?_
          refine zx_iload_n (pc := 57) G 1 rfl rfl (z_dec T_X12_deductionOf_ok 35 (57, .iload_n 1, 1) rfl) ?_
          refine zx_icmp_gt (pc := 58) (tgt := 64) G rfl (z_dec T_X12_deductionOf_ok 36 (58, .if_icmp .gt 6, 3) rfl) (fun hc => ?_) (fun hc => ?_)
          · replace h := z_pos hc h
            refine zx_aload_n (pc := 64) G (some (0)) 0 rfl rfl (z_dec T_X12_deductionOf_ok 38 (64, .aload_n 0, 1) rfl) ?_
            refine zx_getF (pc := 65) (b := 19) G gf_RX12_48 rfl f_l0 (zq_12_18 hI f_l0) (z_dec T_X12_deductionOf_ok 39 (65, .getfield 48, 3) rfl) ?_
            refine zx_aload_n (pc := 68) G (some (0)) 0 rfl rfl (z_dec T_X12_deductionOf_ok 40 (68, .aload_n 0, 1) rfl) ?_
            refine zx_getF (pc := 69) (b := 21) G gf_RX12_54 rfl f_l0 (zq_12_20 hI f_l0) (z_dec T_X12_deductionOf_ok 41 (69, .getfield 54, 3) rfl) ?_
            refine zx_iload_n (pc := 72) G 1 rfl rfl (z_dec T_X12_deductionOf_ok 42 (72, .iload_n 1, 1) rfl) ?_
            obtain ⟨c6, h⟩ := h
            refine zx_iald (pc := 73) G (zk_12_20 hI f_l0) c6 (z_dec T_X12_deductionOf_ok 43 (73, .iaload, 1) rfl) ?_
            refine zx_iload_n (pc := 74) G 2 rfl rfl (z_dec T_X12_deductionOf_ok 44 (74, .iload_n 2, 1) rfl) ?_
            refine zx_iload (pc := 75) G 4 rfl (z_dec T_X12_deductionOf_ok 45 (75, .iload 4, 2) rfl) ?_
            refine zx_callS_iN (pc := 77) (rm := rm_X12_cellOf) G cw_RX12_188 ⟨Nat.le_of_ble_eq_true rfl, Nat.le_of_ble_eq_true rfl⟩ rfl rfl ⟨Nat.zero_le _, Nat.zero_le _⟩ (fun sz => (met_X12_cellOf l D ρ kd q μ3 sz (μ3.1 21 v1.toNatClampNeg) v2 v4 _ hI h)) rfl rfl (Nat.le_of_ble_eq_true rfl) (z_dec T_X12_deductionOf_ok 46 (77, .invokestatic 188, 3) rfl) (fun r8 μ7 hn => ?_)
            clear h
            have h := hn
            clear hn
            obtain ⟨c9, h⟩ := h
            refine zx_iald (pc := 80) G (zk_12_18 hI f_l0) c9 (z_dec T_X12_deductionOf_ok 47 (80, .iaload, 1) rfl) ?_
            refine zx_istore (pc := 81) (lv' := [(5, .int (μ7.1 19 r8.toNatClampNeg)), (0, .ref (0)), (1, .int (v1)), (2, .int (v2)), (3, .int (v3)), (4, .int (v4))]) G (Nat.le_of_ble_eq_true rfl) rfl (z_dec T_X12_deductionOf_ok 48 (81, .istore 5, 2) rfl) ?_
            refine zx_iload (pc := 83) G 0 rfl (z_dec T_X12_deductionOf_ok 49 (83, .iload 5, 2) rfl) ?_
            refine zx_iconst (pc := 85) (v := -1) G (z_dec T_X12_deductionOf_ok 50 (85, .iconst (-1), 1) rfl) rfl ?_
            refine zx_icmp_eq (pc := 86) (tgt := 120) G rfl (z_dec T_X12_deductionOf_ok 51 (86, .if_icmp .eq 34, 3) rfl) (fun hc => ?_) (fun hc => ?_)
            · replace h := z_pos hc h
              refine zx_iinc (pc := 120) (v := v4 + 1) (lv' := [(4, .int (v4 + 1)), (5, .int (μ7.1 19 r8.toNatClampNeg)), (0, .ref (0)), (1, .int (v1)), (2, .int (v2)), (3, .int (v3))]) G 5 rfl (z_inc (by decide)) (Nat.le_of_ble_eq_true rfl) rfl (z_dec T_X12_deductionOf_ok 73 (120, .iinc 4 1, 3) rfl) ?_
              refine zx_goto (pc := 123) (tgt := 5) G rfl (z_dec T_X12_deductionOf_ok 74 (123, .goto (-118), 3) rfl) ?_
              refine zx_sub (lv' := [(0, .ref (0)), (1, .int (v1)), (2, .int (v2)), (3, .int (v3)), (4, .int (v4 + 1))]) [2, 3, 4, 5, 0] rfl ?_
              exact hP5 _ _ _ _ _ h f_l0
            · replace h := z_neg hc h
              refine zx_iload_n (pc := 89) G 4 rfl rfl (z_dec T_X12_deductionOf_ok 52 (89, .iload_n 3, 1) rfl) ?_
              refine zx_iconst (pc := 90) (v := 5) G (z_dec T_X12_deductionOf_ok 53 (90, .iconst 5, 1) rfl) rfl ?_
              refine zx_bipush (pc := 91) (v := 20) G (z_dec T_X12_deductionOf_ok 54 (91, .bipush 20, 2) rfl) rfl ?_
              refine zx_aload_n (pc := 93) G (some (0)) 1 rfl rfl (z_dec T_X12_deductionOf_ok 55 (93, .aload_n 0, 1) rfl) ?_
              refine zx_getF (pc := 94) (b := 9) G gf_RX12_17 rfl f_l0 (zq_12_8 hI f_l0) (z_dec T_X12_deductionOf_ok 56 (94, .getfield 17, 3) rfl) ?_
              refine zx_iload (pc := 97) G 0 rfl (z_dec T_X12_deductionOf_ok 57 (97, .iload 5, 2) rfl) ?_
              obtain ⟨c10, h⟩ := h
              refine zx_iald (pc := 99) G (zk_12_8 hI f_l0) c10 (z_dec T_X12_deductionOf_ok 58 (99, .iaload, 1) rfl) ?_
              refine zx_imul (pc := 100) G  (z_dec T_X12_deductionOf_ok 59 (100, .imul, 1) rfl) ?_
              refine zx_aload_n (pc := 101) G (some (0)) 1 rfl rfl (z_dec T_X12_deductionOf_ok 60 (101, .aload_n 0, 1) rfl) ?_
              refine zx_getF (pc := 102) (b := 8) G gf_RX12_13 rfl f_l0 (zq_12_7 hI f_l0) (z_dec T_X12_deductionOf_ok 61 (102, .getfield 13, 3) rfl) ?_
              refine zx_iload (pc := 105) G 0 rfl (z_dec T_X12_deductionOf_ok 62 (105, .iload 5, 2) rfl) ?_
              refine zx_iald (pc := 107) G (zk_12_7 hI f_l0) c10 (z_dec T_X12_deductionOf_ok 63 (107, .iaload, 1) rfl) ?_
              refine zx_aload_n (pc := 108) G (some (0)) 1 rfl rfl (z_dec T_X12_deductionOf_ok 64 (108, .aload_n 0, 1) rfl) ?_
              refine zx_getF (pc := 109) (b := 9) G gf_RX12_17 rfl f_l0 (zq_12_8 hI f_l0) (z_dec T_X12_deductionOf_ok 65 (109, .getfield 17, 3) rfl) ?_
              refine zx_iload (pc := 112) G 0 rfl (z_dec T_X12_deductionOf_ok 66 (112, .iload 5, 2) rfl) ?_
              refine zx_iald (pc := 114) G (zk_12_8 hI f_l0) c10 (z_dec T_X12_deductionOf_ok 67 (114, .iaload, 1) rfl) ?_
              refine zx_iadd (pc := 115) G  (z_dec T_X12_deductionOf_ok 68 (115, .iadd, 1) rfl) ?_
              obtain ⟨c11, h⟩ := h
              refine zx_idiv (pc := 116) G c11 (z_dec T_X12_deductionOf_ok 69 (116, .idiv, 1) rfl) ?_
              refine zx_imul (pc := 117) G  (z_dec T_X12_deductionOf_ok 70 (117, .imul, 1) rfl) ?_
              refine zx_iadd (pc := 118) G  (z_dec T_X12_deductionOf_ok 71 (118, .iadd, 1) rfl) ?_
              refine zx_istore_n (pc := 119) (lv' := [(3, .int (v3 + (((5 : Int32)) * ((((20 : Int32)) * (μ7.1 9 (μ7.1 19 r8.toNatClampNeg).toNatClampNeg)) / ((μ7.1 8 (μ7.1 19 r8.toNatClampNeg).toNatClampNeg) + (μ7.1 9 (μ7.1 19 r8.toNatClampNeg).toNatClampNeg)))))), (5, .int (μ7.1 19 r8.toNatClampNeg)), (0, .ref (0)), (1, .int (v1)), (2, .int (v2)), (4, .int (v4))]) G rfl (Nat.le_of_ble_eq_true rfl) rfl (z_dec T_X12_deductionOf_ok 72 (119, .istore_n 3, 1) rfl) ?_
              refine zx_iinc (pc := 120) (v := v4 + 1) (lv' := [(4, .int (v4 + 1)), (3, .int (v3 + (((5 : Int32)) * ((((20 : Int32)) * (μ7.1 9 (μ7.1 19 r8.toNatClampNeg).toNatClampNeg)) / ((μ7.1 8 (μ7.1 19 r8.toNatClampNeg).toNatClampNeg) + (μ7.1 9 (μ7.1 19 r8.toNatClampNeg).toNatClampNeg)))))), (5, .int (μ7.1 19 r8.toNatClampNeg)), (0, .ref (0)), (1, .int (v1)), (2, .int (v2))]) G 5 rfl (z_inc (by decide)) (Nat.le_of_ble_eq_true rfl) rfl (z_dec T_X12_deductionOf_ok 73 (120, .iinc 4 1, 3) rfl) ?_
              refine zx_goto (pc := 123) (tgt := 5) G rfl (z_dec T_X12_deductionOf_ok 74 (123, .goto (-118), 3) rfl) ?_
              refine zx_sub (lv' := [(0, .ref (0)), (1, .int (v1)), (2, .int (v2)), (3, .int (v3 + (((5 : Int32)) * ((((20 : Int32)) * (μ7.1 9 (μ7.1 19 r8.toNatClampNeg).toNatClampNeg)) / ((μ7.1 8 (μ7.1 19 r8.toNatClampNeg).toNatClampNeg) + (μ7.1 9 (μ7.1 19 r8.toNatClampNeg).toNatClampNeg)))))), (4, .int (v4 + 1))]) [3, 4, 5, 1, 0] rfl ?_
              exact hP5 _ _ _ _ _ h f_l0
          · replace h := z_neg hc h
            refine zx_goto (pc := 61) (tgt := 120) G rfl (z_dec T_X12_deductionOf_ok 37 (61, .goto 59, 3) rfl) ?_
            refine zx_iinc (pc := 120) (v := v4 + 1) (lv' := [(4, .int (v4 + 1)), (0, .ref (0)), (1, .int (v1)), (2, .int (v2)), (3, .int (v3))]) G 4 rfl (z_inc (by decide)) (Nat.le_of_ble_eq_true rfl) rfl (z_dec T_X12_deductionOf_ok 73 (120, .iinc 4 1, 3) rfl) ?_
            refine zx_goto (pc := 123) (tgt := 5) G rfl (z_dec T_X12_deductionOf_ok 74 (123, .goto (-118), 3) rfl) ?_
            refine zx_sub (lv' := [(0, .ref (0)), (1, .int (v1)), (2, .int (v2)), (3, .int (v3)), (4, .int (v4 + 1))]) [1, 2, 3, 4, 0] rfl ?_
            exact hP5 _ _ _ _ _ h f_l0
set_option maxRecDepth 100000 in
set_option maxHeartbeats 4000000 in
theorem L_X12_deductionOf_5_ok {p : Program} {l : Launch} {e : Env} {s : State} {m : MethodId} {args : Array Value} {below : List Frame} {meth : Method} {c : Code} {D : va_G} {A : Nat → Prop} {ρ : z_A} {kd : z_K} {q : z_Q} {μ : z_M} {K : Int32 → z_M → Prop} {v1 : Int32} {v2 : Int32} {v3 : Int32} {v4 : Int32} (G : z_G p c cX12_deductionOf s m args RX12 6 D) (hr : meth.sig.returnType = (Option.some Jvm.ClassFile.FieldType.int)) (hlk : meth.locks = false) (hI : z_I kd q) (f_l0 : kd 0 = some (.inl 12)) (h : L_X12_deductionOf_5 K v1 v2 v3 v4 μ) : z_X p l e rm_X12_deductionOf s m args below meth c 6 D A (MQ below (z_Qn D A ρ kd (z_Ki q K)) args s 0 0 A) 0 0 ρ kd q μ 5 [(0, .ref (0)), (1, .int (v1)), (2, .int (v2)), (3, .int (v3)), (4, .int (v4))] [] :=
  h (fun (v1 : Int32) (v2 : Int32) (v3 : Int32) (v4 : Int32) (μ : z_M) => (kd 0 = some (.inl 12)) → z_X p l e rm_X12_deductionOf s m args below meth c 6 D A (MQ below (z_Qn D A ρ kd (z_Ki q K)) args s 0 0 A) 0 0 ρ kd q μ 5 [(0, .ref (0)), (1, .int (v1)), (2, .int (v2)), (3, .int (v3)), (4, .int (v4))] []) (fun v1 v2 v3 v4 μ h f_l0 => B_X12_deductionOf_5_ok G hr hlk (fun _ _ _ _ _ h => h) hI f_l0 h) f_l0
set_option maxRecDepth 100000 in
set_option maxHeartbeats 4000000 in
theorem met_X12_deductionOf (l : Launch) (D : va_G) (ρ : z_A) (kd : z_K) (q : z_Q) (μ : z_M) (sz : Nat) (a1 : Int32) (a2 : Int32) (K : Int32 → z_M → Prop) (hI : z_I kd q) (h_o : kd 0 = some (.inl 12)) (h : C_X12_deductionOf a1 a2 μ K) : Met l yX12_deductionOf (z_ws yX12_deductionOf cX12_deductionOf 6 (Option.some Jvm.ClassFile.FieldType.int)) rm_X12_deductionOf (z_Pc D ρ kd q μ sz [.ref (0), .int (a1), .int (a2)]) (z_Qn D (z_Rg ρ sz) ρ kd (z_Ki q K)) 0 0 (z_Rg ρ sz) := by
  refine z_met (rm := rm_X12_deductionOf) (by decide) (Nat.le_of_ble_eq_true rfl) (fun p e s m args below meth c G hr hlk => ?_)
  unfold C_X12_deductionOf at h
  show z_X _ _ _ _ _ _ _ _ _ _ _ _ _ _ _ _ _ _ _ _ _ [(0, .ref (0)), (1, .int (a1)), (2, .int (a2))] _
  refine zx_iconst (pc := 0) (v := 0) G (z_dec T_X12_deductionOf_ok 0 (0, .iconst 0, 1) rfl) rfl ?_
  refine zx_istore_n (pc := 1) (lv' := [(3, .int ((0 : Int32))), (0, .ref (0)), (1, .int (a1)), (2, .int (a2))]) G rfl (Nat.le_of_ble_eq_true rfl) rfl (z_dec T_X12_deductionOf_ok 1 (1, .istore_n 3, 1) rfl) ?_
  refine zx_iconst (pc := 2) (v := 0) G (z_dec T_X12_deductionOf_ok 2 (2, .iconst 0, 1) rfl) rfl ?_
  refine zx_istore (pc := 3) (lv' := [(4, .int ((0 : Int32))), (3, .int ((0 : Int32))), (0, .ref (0)), (1, .int (a1)), (2, .int (a2))]) G (Nat.le_of_ble_eq_true rfl) rfl (z_dec T_X12_deductionOf_ok 3 (3, .istore 4, 2) rfl) ?_
  refine zx_sub (lv' := [(0, .ref (0)), (1, .int (a1)), (2, .int (a2)), (3, .int ((0 : Int32))), (4, .int ((0 : Int32)))]) [2, 3, 4, 1, 0] rfl ?_
  exact L_X12_deductionOf_5_ok G hr hlk hI h_o h
abbrev rm_X12_raceOf : Room := { frames := 0, cells := 0, slots := 0, locals := 0 }
set_option maxRecDepth 100000 in
set_option maxHeartbeats 4000000 in
theorem B_X12_raceOf_2_ok {p : Program} {l : Launch} {e : Env} {s : State} {m : MethodId} {args : Array Value} {below : List Frame} {meth : Method} {c : Code} {D : va_G} {A : Nat → Prop} {ρ : z_A} {kd : z_K} {q : z_Q} {μ : z_M} {K : Int32 → z_M → Prop} {P2 : Int32 → Int32 → z_M → Prop} {v1 : Int32} {v2 : Int32} (G : z_G p c cX12_raceOf s m args RX12 3 D) (hr : meth.sig.returnType = (Option.some Jvm.ClassFile.FieldType.int)) (hlk : meth.locks = false) (hP2 : ∀ (v1 : Int32) (v2 : Int32) (μ : z_M), P2 v1 v2 μ → (kd 0 = some (.inl 12)) → z_X p l e rm_X12_raceOf s m args below meth c 3 D A (MQ below (z_Qn D A ρ kd (z_Ki q K)) args s 0 0 A) 0 0 ρ kd q μ 2 [(0, .ref (0)), (1, .int (v1)), (2, .int (v2))] []) (hI : z_I kd q) (f_l0 : kd 0 = some (.inl 12)) (h : B_X12_raceOf_2 K P2 v1 v2 μ) : z_X p l e rm_X12_raceOf s m args below meth c 3 D A (MQ below (z_Qn D A ρ kd (z_Ki q K)) args s 0 0 A) 0 0 ρ kd q μ 2 [(0, .ref (0)), (1, .int (v1)), (2, .int (v2))] [] := by
    unfold B_X12_raceOf_2 at h
    refine zx_aload_n (pc := 2) G (some (0)) 0 rfl rfl (z_dec T_X12_raceOf_ok 2 (2, .aload_n 0, 1) rfl) ?_
    refine zx_getF (pc := 3) (b := 25) G gf_RX12_66 rfl f_l0 (zq_12_24 hI f_l0) (z_dec T_X12_raceOf_ok 3 (3, .getfield 66, 3) rfl) ?_
    refine zx_iconst (pc := 6) (v := 3) G (z_dec T_X12_raceOf_ok 4 (6, .iconst 3, 1) rfl) rfl ?_
    refine zx_iload_n (pc := 7) G 1 rfl rfl (z_dec T_X12_raceOf_ok 5 (7, .iload_n 1, 1) rfl) ?_
    refine zx_imul (pc := 8) G  (z_dec T_X12_raceOf_ok 6 (8, .imul, 1) rfl) ?_
    refine zx_iload_n (pc := 9) G 2 rfl rfl (z_dec T_X12_raceOf_ok 7 (9, .iload_n 2, 1) rfl) ?_
    refine zx_iadd (pc := 10) G  (z_dec T_X12_raceOf_ok 8 (10, .iadd, 1) rfl) ?_
    obtain ⟨c1, h⟩ := h
    refine zx_iald (pc := 11) G (zk_12_24 hI f_l0) c1 (z_dec T_X12_raceOf_ok 9 (11, .iaload, 1) rfl) ?_
    refine zx_iconst (pc := 12) (v := -1) G (z_dec T_X12_raceOf_ok 10 (12, .iconst (-1), 1) rfl) rfl ?_
    refine zx_icmp_ne (pc := 13) (tgt := 22) G rfl (z_dec T_X12_raceOf_ok 11 (13, .if_icmp .ne 9, 3) rfl) (fun hc => ?_) (fun hc => ?_)
    · replace h := z_neg hc h
      refine zx_iload_n (pc := 22) G 2 rfl rfl (z_dec T_X12_raceOf_ok 14 (22, .iload_n 2, 1) rfl) ?_
      exact zx_iret (pc := 23) G hr hlk (Nat.le_refl _) (Nat.le_refl _) (z_dec T_X12_raceOf_ok 15 (23, .ireturn, 1) rfl) ⟨rfl, _, rfl, h⟩
    · replace h := z_pos hc h
      refine zx_iinc (pc := 16) (v := v2 + 1) (lv' := [(2, .int (v2 + 1)), (0, .ref (0)), (1, .int (v1))]) G 2 rfl (z_inc (by decide)) (Nat.le_of_ble_eq_true rfl) rfl (z_dec T_X12_raceOf_ok 12 (16, .iinc 2 1, 3) rfl) ?_
      refine zx_goto (pc := 19) (tgt := 2) G rfl (z_dec T_X12_raceOf_ok 13 (19, .goto (-17), 3) rfl) ?_
      refine zx_sub (lv' := [(0, .ref (0)), (1, .int (v1)), (2, .int (v2 + 1))]) [1, 2, 0] rfl ?_
      exact hP2 _ _ _ h f_l0
set_option maxRecDepth 100000 in
set_option maxHeartbeats 4000000 in
theorem L_X12_raceOf_2_ok {p : Program} {l : Launch} {e : Env} {s : State} {m : MethodId} {args : Array Value} {below : List Frame} {meth : Method} {c : Code} {D : va_G} {A : Nat → Prop} {ρ : z_A} {kd : z_K} {q : z_Q} {μ : z_M} {K : Int32 → z_M → Prop} {v1 : Int32} {v2 : Int32} (G : z_G p c cX12_raceOf s m args RX12 3 D) (hr : meth.sig.returnType = (Option.some Jvm.ClassFile.FieldType.int)) (hlk : meth.locks = false) (hI : z_I kd q) (f_l0 : kd 0 = some (.inl 12)) (h : L_X12_raceOf_2 K v1 v2 μ) : z_X p l e rm_X12_raceOf s m args below meth c 3 D A (MQ below (z_Qn D A ρ kd (z_Ki q K)) args s 0 0 A) 0 0 ρ kd q μ 2 [(0, .ref (0)), (1, .int (v1)), (2, .int (v2))] [] :=
  h (fun (v1 : Int32) (v2 : Int32) (μ : z_M) => (kd 0 = some (.inl 12)) → z_X p l e rm_X12_raceOf s m args below meth c 3 D A (MQ below (z_Qn D A ρ kd (z_Ki q K)) args s 0 0 A) 0 0 ρ kd q μ 2 [(0, .ref (0)), (1, .int (v1)), (2, .int (v2))] []) (fun v1 v2 μ h f_l0 => B_X12_raceOf_2_ok G hr hlk (fun _ _ _ h => h) hI f_l0 h) f_l0
set_option maxRecDepth 100000 in
set_option maxHeartbeats 4000000 in
theorem met_X12_raceOf (l : Launch) (D : va_G) (ρ : z_A) (kd : z_K) (q : z_Q) (μ : z_M) (sz : Nat) (a1 : Int32) (K : Int32 → z_M → Prop) (hI : z_I kd q) (h_o : kd 0 = some (.inl 12)) (h : C_X12_raceOf a1 μ K) : Met l yX12_raceOf (z_ws yX12_raceOf cX12_raceOf 3 (Option.some Jvm.ClassFile.FieldType.int)) rm_X12_raceOf (z_Pc D ρ kd q μ sz [.ref (0), .int (a1)]) (z_Qn D (z_Rg ρ sz) ρ kd (z_Ki q K)) 0 0 (z_Rg ρ sz) := by
  refine z_met (rm := rm_X12_raceOf) (by decide) (Nat.le_of_ble_eq_true rfl) (fun p e s m args below meth c G hr hlk => ?_)
  unfold C_X12_raceOf at h
  show z_X _ _ _ _ _ _ _ _ _ _ _ _ _ _ _ _ _ _ _ _ _ [(0, .ref (0)), (1, .int (a1))] _
  refine zx_iconst (pc := 0) (v := 0) G (z_dec T_X12_raceOf_ok 0 (0, .iconst 0, 1) rfl) rfl ?_
  refine zx_istore_n (pc := 1) (lv' := [(2, .int ((0 : Int32))), (0, .ref (0)), (1, .int (a1))]) G rfl (Nat.le_of_ble_eq_true rfl) rfl (z_dec T_X12_raceOf_ok 1 (1, .istore_n 2, 1) rfl) ?_
  refine zx_sub (lv' := [(0, .ref (0)), (1, .int (a1)), (2, .int ((0 : Int32)))]) [1, 2, 0] rfl ?_
  exact L_X12_raceOf_2_ok G hr hlk hI h_o h
abbrev rm_X12_kept : Room := { frames := 2, cells := 0, slots := 0, locals := 47 }
set_option maxRecDepth 100000 in
set_option maxHeartbeats 4000000 in
theorem met_X12_kept (l : Launch) (D : va_G) (ρ : z_A) (kd : z_K) (q : z_Q) (μ : z_M) (sz : Nat) (a1 : Int32) (a2 : Int32) (a3 : Int64) (K : Int32 → z_M → Prop) (hI : z_I kd q) (h_o : kd 0 = some (.inl 12)) (h : C_X12_kept a1 a2 a3 μ K) : Met l yX12_kept (z_ws yX12_kept cX12_kept 5 (Option.some Jvm.ClassFile.FieldType.int)) rm_X12_kept (z_Pc D ρ kd q μ sz [.ref (0), .int (a1), .int (a2), .long (a3)]) (z_Qn D (z_Rg ρ sz) ρ kd (z_Ki q K)) 0 0 (z_Rg ρ sz) := by
  refine z_met (rm := rm_X12_kept) (by decide) (Nat.le_of_ble_eq_true rfl) (fun p e s m args below meth c G hr hlk => ?_)
  unfold C_X12_kept at h
  show z_X _ _ _ _ _ _ _ _ _ _ _ _ _ _ _ _ _ _ _ _ _ [(0, .ref (0)), (1, .int (a1)), (2, .int (a2)), (3, .long (a3))] _
  refine zx_lload_n (pc := 0) G 3 rfl rfl (z_dec T_X12_kept_ok 0 (0, .lload_n 3, 1) rfl) ?_
  refine zx_bipush (pc := 1) (v := 100) G (z_dec T_X12_kept_ok 1 (1, .bipush 100, 2) rfl) rfl ?_
  refine zx_aload_n (pc := 3) G (some (0)) 0 rfl rfl (z_dec T_X12_kept_ok 2 (3, .aload_n 0, 1) rfl) ?_
  refine zx_iload_n (pc := 4) G 1 rfl rfl (z_dec T_X12_kept_ok 3 (4, .iload_n 1, 1) rfl) ?_
  refine zx_iload_n (pc := 5) G 2 rfl rfl (z_dec T_X12_kept_ok 4 (5, .iload_n 2, 1) rfl) ?_
  refine zx_callV_iN (pc := 6) (rm := rm_X12_deductionOf) G cw_RX12_399 ⟨Nat.le_of_ble_eq_true rfl, Nat.le_of_ble_eq_true rfl⟩ rfl rfl ⟨Nat.zero_le _, Nat.zero_le _⟩ h_o rfl (fun sz => (met_X12_deductionOf l D ρ kd q μ sz a1 a2 _ hI h_o h)) rfl rfl (Nat.le_of_ble_eq_true rfl) (z_dec T_X12_kept_ok 5 (6, .invokevirtual 399, 3) rfl) (fun r2 μ1 hn => ?_)
  clear h
  have h := hn
  clear hn
  refine zx_isub (pc := 9) G  (z_dec T_X12_kept_ok 6 (9, .isub, 1) rfl) ?_
  refine zx_i2l (pc := 10) G  (z_dec T_X12_kept_ok 7 (10, .i2l, 1) rfl) ?_
  refine zx_lmul (pc := 11) G  (z_dec T_X12_kept_ok 8 (11, .lmul, 1) rfl) ?_
  refine zx_ldc2 (pc := 12) G wk_RX12_402 (z_dec T_X12_kept_ok 9 (12, .ldc2_w 402, 3) rfl) ?_
  refine zx_ldiv (pc := 15) G (by decide) (z_dec T_X12_kept_ok 10 (15, .ldiv, 1) rfl) ?_
  refine zx_l2i (pc := 16) G  (z_dec T_X12_kept_ok 11 (16, .l2i, 1) rfl) ?_
  exact zx_iret (pc := 17) G hr hlk (Nat.le_refl _) (Nat.le_refl _) (z_dec T_X12_kept_ok 12 (17, .ireturn, 1) rfl) ⟨rfl, _, rfl, h⟩
abbrev rm_X12_backToWin : Room := { frames := 3, cells := 0, slots := 0, locals := 71 }
set_option maxRecDepth 100000 in
set_option maxHeartbeats 4000000 in
theorem met_X12_backToWin (l : Launch) (D : va_G) (ρ : z_A) (kd : z_K) (q : z_Q) (μ : z_M) (sz : Nat) (a1 : Int32) (a2 : Int32) (K : Int32 → z_M → Prop) (hI : z_I kd q) (h_o : kd 0 = some (.inl 12)) (h : C_X12_backToWin a1 a2 μ K) : Met l yX12_backToWin (z_ws yX12_backToWin cX12_backToWin 6 (Option.some Jvm.ClassFile.FieldType.int)) rm_X12_backToWin (z_Pc D ρ kd q μ sz [.ref (0), .int (a1), .int (a2)]) (z_Qn D (z_Rg ρ sz) ρ kd (z_Ki q K)) 0 0 (z_Rg ρ sz) := by
  refine z_met (rm := rm_X12_backToWin) (by decide) (Nat.le_of_ble_eq_true rfl) (fun p e s m args below meth c G hr hlk => ?_)
  unfold C_X12_backToWin at h
  show z_X _ _ _ _ _ _ _ _ _ _ _ _ _ _ _ _ _ _ _ _ _ [(0, .ref (0)), (1, .int (a1)), (2, .int (a2))] _
  refine zx_aload_n (pc := 0) G (some (0)) 0 rfl rfl (z_dec T_X12_backToWin_ok 0 (0, .aload_n 0, 1) rfl) ?_
  refine zx_getF (pc := 1) (b := 25) G gf_RX12_66 rfl h_o (zq_12_24 hI h_o) (z_dec T_X12_backToWin_ok 1 (1, .getfield 66, 3) rfl) ?_
  refine zx_iconst (pc := 4) (v := 3) G (z_dec T_X12_backToWin_ok 2 (4, .iconst 3, 1) rfl) rfl ?_
  refine zx_iload_n (pc := 5) G 1 rfl rfl (z_dec T_X12_backToWin_ok 3 (5, .iload_n 1, 1) rfl) ?_
  refine zx_imul (pc := 6) G  (z_dec T_X12_backToWin_ok 4 (6, .imul, 1) rfl) ?_
  refine zx_iload_n (pc := 7) G 2 rfl rfl (z_dec T_X12_backToWin_ok 5 (7, .iload_n 2, 1) rfl) ?_
  refine zx_iadd (pc := 8) G  (z_dec T_X12_backToWin_ok 6 (8, .iadd, 1) rfl) ?_
  obtain ⟨c1, h⟩ := h
  refine zx_iald (pc := 9) G (zk_12_24 hI h_o) c1 (z_dec T_X12_backToWin_ok 7 (9, .iaload, 1) rfl) ?_
  refine zx_istore_n (pc := 10) (lv' := [(3, .int (μ.1 25 ((((3 : Int32)) * a1) + a2).toNatClampNeg)), (0, .ref (0)), (1, .int (a1)), (2, .int (a2))]) G rfl (Nat.le_of_ble_eq_true rfl) rfl (z_dec T_X12_backToWin_ok 8 (10, .istore_n 3, 1) rfl) ?_
  refine zx_aload_n (pc := 11) G (some (0)) 1 rfl rfl (z_dec T_X12_backToWin_ok 9 (11, .aload_n 0, 1) rfl) ?_
  refine zx_getF (pc := 12) (b := 26) G gf_RX12_69 rfl h_o (zq_12_25 hI h_o) (z_dec T_X12_backToWin_ok 10 (12, .getfield 69, 3) rfl) ?_
  refine zx_iconst (pc := 15) (v := 3) G (z_dec T_X12_backToWin_ok 11 (15, .iconst 3, 1) rfl) rfl ?_
  refine zx_iload_n (pc := 16) G 2 rfl rfl (z_dec T_X12_backToWin_ok 12 (16, .iload_n 1, 1) rfl) ?_
  refine zx_imul (pc := 17) G  (z_dec T_X12_backToWin_ok 13 (17, .imul, 1) rfl) ?_
  refine zx_iload_n (pc := 18) G 3 rfl rfl (z_dec T_X12_backToWin_ok 14 (18, .iload_n 2, 1) rfl) ?_
  refine zx_iadd (pc := 19) G  (z_dec T_X12_backToWin_ok 15 (19, .iadd, 1) rfl) ?_
  refine zx_iald (pc := 20) G (zk_12_25 hI h_o) c1 (z_dec T_X12_backToWin_ok 16 (20, .iaload, 1) rfl) ?_
  refine zx_istore (pc := 21) (lv' := [(4, .int (μ.1 26 ((((3 : Int32)) * a1) + a2).toNatClampNeg)), (3, .int (μ.1 25 ((((3 : Int32)) * a1) + a2).toNatClampNeg)), (0, .ref (0)), (1, .int (a1)), (2, .int (a2))]) G (Nat.le_of_ble_eq_true rfl) rfl (z_dec T_X12_backToWin_ok 17 (21, .istore 4, 2) rfl) ?_
  refine zx_aload_n (pc := 23) G (some (0)) 2 rfl rfl (z_dec T_X12_backToWin_ok 18 (23, .aload_n 0, 1) rfl) ?_
  refine zx_getF (pc := 24) (b := 11) G gf_RX12_23 rfl h_o (zq_12_10 hI h_o) (z_dec T_X12_backToWin_ok 19 (24, .getfield 23, 3) rfl) ?_
  refine zx_iload_n (pc := 27) G 4 rfl rfl (z_dec T_X12_backToWin_ok 20 (27, .iload_n 2, 1) rfl) ?_
  obtain ⟨c2, h⟩ := h
  refine zx_iald (pc := 28) G (zk_12_10 hI h_o) c2 (z_dec T_X12_backToWin_ok 21 (28, .iaload, 1) rfl) ?_
  refine zx_iload_n (pc := 29) G 1 rfl rfl (z_dec T_X12_backToWin_ok 22 (29, .iload_n 3, 1) rfl) ?_
  refine zx_callS_zN (pc := 30) (rm := rm_X12_hasBit) G cw_RX12_155 ⟨Nat.le_of_ble_eq_true rfl, Nat.le_of_ble_eq_true rfl⟩ rfl rfl ⟨Nat.zero_le _, Nat.zero_le _⟩ (fun sz => (met_X12_hasBit l D ρ kd q μ sz (μ.1 11 a2.toNatClampNeg) (μ.1 25 ((((3 : Int32)) * a1) + a2).toNatClampNeg) _ hI h)) rfl rfl (Nat.le_of_ble_eq_true rfl) (z_dec T_X12_backToWin_ok 23 (30, .invokestatic 155, 3) rfl) (fun r4 μ3 hzr4 hn => ?_)
  clear h
  have h := hn
  clear hn
  refine zx_if_eq (pc := 33) (tgt := 43) G rfl (z_dec T_X12_backToWin_ok 24 (33, .ifCond .eq 10, 3) rfl) (fun hc => ?_) (fun hc => ?_)
  · replace h := z_pos hc h
    refine zx_aload_n (pc := 43) G (some (0)) 2 rfl rfl (z_dec T_X12_backToWin_ok 30 (43, .aload_n 0, 1) rfl) ?_
    refine zx_getF (pc := 44) (b := 13) G gf_RX12_30 rfl h_o (zq_12_12 hI h_o) (z_dec T_X12_backToWin_ok 31 (44, .getfield 30, 3) rfl) ?_
    refine zx_iload_n (pc := 47) G 4 rfl rfl (z_dec T_X12_backToWin_ok 32 (47, .iload_n 2, 1) rfl) ?_
    refine zx_iald (pc := 48) G (zk_12_12 hI h_o) c2 (z_dec T_X12_backToWin_ok 33 (48, .iaload, 1) rfl) ?_
    refine zx_iload_n (pc := 49) G 1 rfl rfl (z_dec T_X12_backToWin_ok 34 (49, .iload_n 3, 1) rfl) ?_
    refine zx_callS_zN (pc := 50) (rm := rm_X12_hasBit) G cw_RX12_155 ⟨Nat.le_of_ble_eq_true rfl, Nat.le_of_ble_eq_true rfl⟩ rfl rfl ⟨Nat.zero_le _, Nat.zero_le _⟩ (fun sz => (met_X12_hasBit l D ρ kd q μ3 sz (μ3.1 13 a2.toNatClampNeg) (μ.1 25 ((((3 : Int32)) * a1) + a2).toNatClampNeg) _ hI h)) rfl rfl (Nat.le_of_ble_eq_true rfl) (z_dec T_X12_backToWin_ok 35 (50, .invokestatic 155, 3) rfl) (fun r6 μ5 hzr6 hn => ?_)
    clear h
    have h := hn
    clear hn
    refine zx_if_ne (pc := 53) (tgt := 58) G rfl (z_dec T_X12_backToWin_ok 36 (53, .ifCond .ne 5, 3) rfl) (fun hc => ?_) (fun hc => ?_)
    · replace h := z_neg hc h
      refine zx_aload_n (pc := 58) G (some (0)) 2 rfl rfl (z_dec T_X12_backToWin_ok 39 (58, .aload_n 0, 1) rfl) ?_
      refine zx_getF (pc := 59) (b := 23) G gf_RX12_60 rfl h_o (zq_12_22 hI h_o) (z_dec T_X12_backToWin_ok 40 (59, .getfield 60, 3) rfl) ?_
      refine zx_iload_n (pc := 62) G 3 rfl rfl (z_dec T_X12_backToWin_ok 41 (62, .iload_n 1, 1) rfl) ?_
      obtain ⟨c7, h⟩ := h
      refine zx_iald (pc := 63) G (zk_12_22 hI h_o) c7 (z_dec T_X12_backToWin_ok 42 (63, .iaload, 1) rfl) ?_
      refine zx_aload_n (pc := 64) G (some (0)) 2 rfl rfl (z_dec T_X12_backToWin_ok 43 (64, .aload_n 0, 1) rfl) ?_
      refine zx_getF (pc := 65) (b := 13) G gf_RX12_30 rfl h_o (zq_12_12 hI h_o) (z_dec T_X12_backToWin_ok 44 (65, .getfield 30, 3) rfl) ?_
      refine zx_iload_n (pc := 68) G 4 rfl rfl (z_dec T_X12_backToWin_ok 45 (68, .iload_n 2, 1) rfl) ?_
      refine zx_iald (pc := 69) G (zk_12_12 hI h_o) c2 (z_dec T_X12_backToWin_ok 46 (69, .iaload, 1) rfl) ?_
      refine zx_callS_iN (pc := 70) (rm := rm_X12_sizeOf) G cw_RX12_395 ⟨Nat.le_of_ble_eq_true rfl, Nat.le_of_ble_eq_true rfl⟩ rfl rfl ⟨Nat.zero_le _, Nat.zero_le _⟩ (fun sz => (met_X12_sizeOf l D ρ kd q μ5 sz (μ5.1 13 a2.toNatClampNeg) _ hI h)) rfl rfl (Nat.le_of_ble_eq_true rfl) (z_dec T_X12_backToWin_ok 47 (70, .invokestatic 395, 3) rfl) (fun r9 μ8 hn => ?_)
      clear h
      have h := hn
      clear hn
      obtain ⟨c10, h⟩ := h
      refine zx_idiv (pc := 73) G c10 (z_dec T_X12_backToWin_ok 48 (73, .idiv, 1) rfl) ?_
      refine zx_istore (pc := 74) (lv' := [(5, .int ((μ5.1 23 a1.toNatClampNeg) / r9)), (4, .int (μ.1 26 ((((3 : Int32)) * a1) + a2).toNatClampNeg)), (3, .int (μ.1 25 ((((3 : Int32)) * a1) + a2).toNatClampNeg)), (0, .ref (0)), (1, .int (a1)), (2, .int (a2))]) G (Nat.le_of_ble_eq_true rfl) rfl (z_dec T_X12_backToWin_ok 49 (74, .istore 5, 2) rfl) ?_
      refine zx_iload (pc := 76) G 0 rfl (z_dec T_X12_backToWin_ok 50 (76, .iload 5, 2) rfl) ?_
      refine zx_aload_n (pc := 78) G (some (0)) 3 rfl rfl (z_dec T_X12_backToWin_ok 51 (78, .aload_n 0, 1) rfl) ?_
      refine zx_iload_n (pc := 79) G 4 rfl rfl (z_dec T_X12_backToWin_ok 52 (79, .iload_n 1, 1) rfl) ?_
      refine zx_iload_n (pc := 80) G 5 rfl rfl (z_dec T_X12_backToWin_ok 53 (80, .iload_n 2, 1) rfl) ?_
      refine zx_iload (pc := 81) G 0 rfl (z_dec T_X12_backToWin_ok 54 (81, .iload 5, 2) rfl) ?_
      refine zx_i2l (pc := 83) G  (z_dec T_X12_backToWin_ok 55 (83, .i2l, 1) rfl) ?_
      refine zx_aload_n (pc := 84) G (some (0)) 3 rfl rfl (z_dec T_X12_backToWin_ok 56 (84, .aload_n 0, 1) rfl) ?_
      refine zx_getF (pc := 85) (b := 8) G gf_RX12_13 rfl h_o (zq_12_7 hI h_o) (z_dec T_X12_backToWin_ok 57 (85, .getfield 13, 3) rfl) ?_
      refine zx_iload (pc := 88) G 1 rfl (z_dec T_X12_backToWin_ok 58 (88, .iload 4, 2) rfl) ?_
      obtain ⟨c11, h⟩ := h
      refine zx_iald (pc := 90) G (zk_12_7 hI h_o) c11 (z_dec T_X12_backToWin_ok 59 (90, .iaload, 1) rfl) ?_
      refine zx_i2l (pc := 91) G  (z_dec T_X12_backToWin_ok 60 (91, .i2l, 1) rfl) ?_
      refine zx_lmul (pc := 92) G  (z_dec T_X12_backToWin_ok 61 (92, .lmul, 1) rfl) ?_
      refine zx_aload_n (pc := 93) G (some (0)) 3 rfl rfl (z_dec T_X12_backToWin_ok 62 (93, .aload_n 0, 1) rfl) ?_
      refine zx_getF (pc := 94) (b := 9) G gf_RX12_17 rfl h_o (zq_12_8 hI h_o) (z_dec T_X12_backToWin_ok 63 (94, .getfield 17, 3) rfl) ?_
      refine zx_iload (pc := 97) G 1 rfl (z_dec T_X12_backToWin_ok 64 (97, .iload 4, 2) rfl) ?_
      refine zx_iald (pc := 99) G (zk_12_8 hI h_o) c11 (z_dec T_X12_backToWin_ok 65 (99, .iaload, 1) rfl) ?_
      refine zx_i2l (pc := 100) G  (z_dec T_X12_backToWin_ok 66 (100, .i2l, 1) rfl) ?_
      obtain ⟨c12, h⟩ := h
      refine zx_ldiv (pc := 101) G c12 (z_dec T_X12_backToWin_ok 67 (101, .ldiv, 1) rfl) ?_
      refine zx_callV_iN (pc := 102) (rm := rm_X12_kept) G cw_RX12_404 ⟨Nat.le_of_ble_eq_true rfl, Nat.le_of_ble_eq_true rfl⟩ rfl rfl ⟨Nat.zero_le _, Nat.zero_le _⟩ h_o rfl (fun sz => (met_X12_kept l D ρ kd q μ8 sz a1 a2 (((((μ5.1 23 a1.toNatClampNeg) / r9).toInt64) * ((μ8.1 8 (μ.1 26 ((((3 : Int32)) * a1) + a2).toNatClampNeg).toNatClampNeg).toInt64)) / ((μ8.1 9 (μ.1 26 ((((3 : Int32)) * a1) + a2).toNatClampNeg).toNatClampNeg).toInt64)) _ hI h_o h)) rfl rfl (Nat.le_of_ble_eq_true rfl) (z_dec T_X12_backToWin_ok 68 (102, .invokevirtual 404, 3) rfl) (fun r14 μ13 hn => ?_)
      clear h
      have h := hn
      clear hn
      refine zx_iadd (pc := 105) G  (z_dec T_X12_backToWin_ok 69 (105, .iadd, 1) rfl) ?_
      exact zx_iret (pc := 106) G hr hlk (Nat.le_refl _) (Nat.le_refl _) (z_dec T_X12_backToWin_ok 70 (106, .ireturn, 1) rfl) ⟨rfl, _, rfl, h⟩
    · replace h := z_pos hc h
      refine zx_iconst (pc := 56) (v := 0) G (z_dec T_X12_backToWin_ok 37 (56, .iconst 0, 1) rfl) rfl ?_
      exact zx_iret (pc := 57) G hr hlk (Nat.le_refl _) (Nat.le_refl _) (z_dec T_X12_backToWin_ok 38 (57, .ireturn, 1) rfl) ⟨rfl, _, rfl, h⟩
  · replace h := z_neg hc h
    refine zx_aload_n (pc := 36) G (some (0)) 2 rfl rfl (z_dec T_X12_backToWin_ok 25 (36, .aload_n 0, 1) rfl) ?_
    refine zx_getF (pc := 37) (b := 23) G gf_RX12_60 rfl h_o (zq_12_22 hI h_o) (z_dec T_X12_backToWin_ok 26 (37, .getfield 60, 3) rfl) ?_
    refine zx_iload_n (pc := 40) G 3 rfl rfl (z_dec T_X12_backToWin_ok 27 (40, .iload_n 1, 1) rfl) ?_
    obtain ⟨c15, h⟩ := h
    refine zx_iald (pc := 41) G (zk_12_22 hI h_o) c15 (z_dec T_X12_backToWin_ok 28 (41, .iaload, 1) rfl) ?_
    exact zx_iret (pc := 42) G hr hlk (Nat.le_refl _) (Nat.le_refl _) (z_dec T_X12_backToWin_ok 29 (42, .ireturn, 1) rfl) ⟨rfl, _, rfl, h⟩
abbrev rm_X12_backForPlace : Room := { frames := 3, cells := 0, slots := 0, locals := 71 }
set_option maxRecDepth 100000 in
set_option maxHeartbeats 4000000 in
theorem L_X12_backForPlace_60_ok {p : Program} {l : Launch} {e : Env} {s : State} {m : MethodId} {args : Array Value} {below : List Frame} {meth : Method} {c : Code} {D : va_G} {A : Nat → Prop} {ρ : z_A} {kd : z_K} {q : z_Q} {μ : z_M} {K : Int32 → z_M → Prop} {v1 : Int32} (G : z_G p c cX12_backForPlace s m args RX12 6 D) (hr : meth.sig.returnType = (Option.some Jvm.ClassFile.FieldType.int)) (hlk : meth.locks = false) (hI : z_I kd q) (f_l0 : kd 0 = some (.inl 12)) (h : L_X12_backForPlace_60 K v1 μ) : z_X p l e rm_X12_backForPlace s m args below meth c 6 D A (MQ below (z_Qn D A ρ kd (z_Ki q K)) args s 0 0 A) 0 0 ρ kd q μ 60 [(0, .ref (0)), (1, .int (v1))] [] := by
    unfold L_X12_backForPlace_60 at h
    refine zx_aload_n (pc := 60) G (some (0)) 0 rfl rfl (z_dec T_X12_backForPlace_ok 39 (60, .aload_n 0, 1) rfl) ?_
    refine zx_getF (pc := 61) (b := 23) G gf_RX12_60 rfl f_l0 (zq_12_22 hI f_l0) (z_dec T_X12_backForPlace_ok 40 (61, .getfield 60, 3) rfl) ?_
    refine zx_iload_n (pc := 64) G 1 rfl rfl (z_dec T_X12_backForPlace_ok 41 (64, .iload_n 1, 1) rfl) ?_
    obtain ⟨c1, h⟩ := h
    refine zx_iald (pc := 65) G (zk_12_22 hI f_l0) c1 (z_dec T_X12_backForPlace_ok 42 (65, .iaload, 1) rfl) ?_
    exact zx_iret (pc := 66) G hr hlk (Nat.le_refl _) (Nat.le_refl _) (z_dec T_X12_backForPlace_ok 43 (66, .ireturn, 1) rfl) ⟨rfl, _, rfl, h⟩
set_option maxRecDepth 100000 in
set_option maxHeartbeats 4000000 in
theorem L_X12_backForPlace_126_ok {p : Program} {l : Launch} {e : Env} {s : State} {m : MethodId} {args : Array Value} {below : List Frame} {meth : Method} {c : Code} {D : va_G} {A : Nat → Prop} {ρ : z_A} {kd : z_K} {q : z_Q} {μ : z_M} {K : Int32 → z_M → Prop} {t0 : Int32} {t1 : Int32} {t2 : Int64} {t3 : Int32} {t4 : Int32} {t6 : Int32} (G : z_G p c cX12_backForPlace s m args RX12 6 D) (hr : meth.sig.returnType = (Option.some Jvm.ClassFile.FieldType.int)) (hlk : meth.locks = false) (hI : z_I kd q) (f_s5 : kd 0 = some (.inl 12)) (h : L_X12_backForPlace_126 K t0 t1 t2 t3 t4 t6 μ) : z_X p l e rm_X12_backForPlace s m args below meth c 6 D A (MQ below (z_Qn D A ρ kd (z_Ki q K)) args s 0 0 A) 0 0 ρ kd q μ 126 [] [.int (t0), .int (t1), .long (t2), .int (t3), .int (t4), .ref (0), .int (t6)] := by
    unfold L_X12_backForPlace_126 at h
    refine zx_imul (pc := 126) G  (z_dec T_X12_backForPlace_ok 81 (126, .imul, 1) rfl) ?_
    refine zx_i2l (pc := 127) G  (z_dec T_X12_backForPlace_ok 82 (127, .i2l, 1) rfl) ?_
    obtain ⟨c1, h⟩ := h
    refine zx_ldiv (pc := 128) G c1 (z_dec T_X12_backForPlace_ok 83 (128, .ldiv, 1) rfl) ?_
    refine zx_callV_iN (pc := 129) (rm := rm_X12_kept) G cw_RX12_404 ⟨Nat.le_of_ble_eq_true rfl, Nat.le_of_ble_eq_true rfl⟩ rfl rfl ⟨Nat.zero_le _, Nat.zero_le _⟩ f_s5 rfl (fun sz => (met_X12_kept l D ρ kd q μ sz t4 t3 (t2 / ((t1 * t0).toInt64)) _ hI f_s5 h)) rfl rfl (Nat.le_of_ble_eq_true rfl) (z_dec T_X12_backForPlace_ok 84 (129, .invokevirtual 404, 3) rfl) (fun r3 μ2 hn => ?_)
    clear h
    have h := hn
    clear hn
    refine zx_iadd (pc := 132) G  (z_dec T_X12_backForPlace_ok 85 (132, .iadd, 1) rfl) ?_
    exact zx_iret (pc := 133) G hr hlk (Nat.le_refl _) (Nat.le_refl _) (z_dec T_X12_backForPlace_ok 86 (133, .ireturn, 1) rfl) ⟨rfl, _, rfl, h⟩
set_option maxRecDepth 100000 in
set_option maxHeartbeats 4000000 in
theorem met_X12_backForPlace (l : Launch) (D : va_G) (ρ : z_A) (kd : z_K) (q : z_Q) (μ : z_M) (sz : Nat) (a1 : Int32) (a2 : Int32) (K : Int32 → z_M → Prop) (hI : z_I kd q) (h_o : kd 0 = some (.inl 12)) (h : C_X12_backForPlace a1 a2 μ K) : Met l yX12_backForPlace (z_ws yX12_backForPlace cX12_backForPlace 6 (Option.some Jvm.ClassFile.FieldType.int)) rm_X12_backForPlace (z_Pc D ρ kd q μ sz [.ref (0), .int (a1), .int (a2)]) (z_Qn D (z_Rg ρ sz) ρ kd (z_Ki q K)) 0 0 (z_Rg ρ sz) := by
  refine z_met (rm := rm_X12_backForPlace) (by decide) (Nat.le_of_ble_eq_true rfl) (fun p e s m args below meth c G hr hlk => ?_)
  unfold C_X12_backForPlace at h
  show z_X _ _ _ _ _ _ _ _ _ _ _ _ _ _ _ _ _ _ _ _ _ [(0, .ref (0)), (1, .int (a1)), (2, .int (a2))] _
  refine zx_aload_n (pc := 0) G (some (0)) 0 rfl rfl (z_dec T_X12_backForPlace_ok 0 (0, .aload_n 0, 1) rfl) ?_
  refine zx_getF (pc := 1) (b := 25) G gf_RX12_66 rfl h_o (zq_12_24 hI h_o) (z_dec T_X12_backForPlace_ok 1 (1, .getfield 66, 3) rfl) ?_
  refine zx_iconst (pc := 4) (v := 3) G (z_dec T_X12_backForPlace_ok 2 (4, .iconst 3, 1) rfl) rfl ?_
  refine zx_iload_n (pc := 5) G 1 rfl rfl (z_dec T_X12_backForPlace_ok 3 (5, .iload_n 1, 1) rfl) ?_
  refine zx_imul (pc := 6) G  (z_dec T_X12_backForPlace_ok 4 (6, .imul, 1) rfl) ?_
  refine zx_iload_n (pc := 7) G 2 rfl rfl (z_dec T_X12_backForPlace_ok 5 (7, .iload_n 2, 1) rfl) ?_
  refine zx_iadd (pc := 8) G  (z_dec T_X12_backForPlace_ok 6 (8, .iadd, 1) rfl) ?_
  obtain ⟨c1, h⟩ := h
  refine zx_iald (pc := 9) G (zk_12_24 hI h_o) c1 (z_dec T_X12_backForPlace_ok 7 (9, .iaload, 1) rfl) ?_
  refine zx_istore_n (pc := 10) (lv' := [(3, .int (μ.1 25 ((((3 : Int32)) * a1) + a2).toNatClampNeg)), (0, .ref (0)), (1, .int (a1)), (2, .int (a2))]) G rfl (Nat.le_of_ble_eq_true rfl) rfl (z_dec T_X12_backForPlace_ok 8 (10, .istore_n 3, 1) rfl) ?_
  refine zx_aload_n (pc := 11) G (some (0)) 1 rfl rfl (z_dec T_X12_backForPlace_ok 9 (11, .aload_n 0, 1) rfl) ?_
  refine zx_getF (pc := 12) (b := 26) G gf_RX12_69 rfl h_o (zq_12_25 hI h_o) (z_dec T_X12_backForPlace_ok 10 (12, .getfield 69, 3) rfl) ?_
  refine zx_iconst (pc := 15) (v := 3) G (z_dec T_X12_backForPlace_ok 11 (15, .iconst 3, 1) rfl) rfl ?_
  refine zx_iload_n (pc := 16) G 2 rfl rfl (z_dec T_X12_backForPlace_ok 12 (16, .iload_n 1, 1) rfl) ?_
  refine zx_imul (pc := 17) G  (z_dec T_X12_backForPlace_ok 13 (17, .imul, 1) rfl) ?_
  refine zx_iload_n (pc := 18) G 3 rfl rfl (z_dec T_X12_backForPlace_ok 14 (18, .iload_n 2, 1) rfl) ?_
  refine zx_iadd (pc := 19) G  (z_dec T_X12_backForPlace_ok 15 (19, .iadd, 1) rfl) ?_
  refine zx_iald (pc := 20) G (zk_12_25 hI h_o) c1 (z_dec T_X12_backForPlace_ok 16 (20, .iaload, 1) rfl) ?_
  refine zx_istore (pc := 21) (lv' := [(4, .int (μ.1 26 ((((3 : Int32)) * a1) + a2).toNatClampNeg)), (3, .int (μ.1 25 ((((3 : Int32)) * a1) + a2).toNatClampNeg)), (0, .ref (0)), (1, .int (a1)), (2, .int (a2))]) G (Nat.le_of_ble_eq_true rfl) rfl (z_dec T_X12_backForPlace_ok 17 (21, .istore 4, 2) rfl) ?_
  refine zx_aload_n (pc := 23) G (some (0)) 2 rfl rfl (z_dec T_X12_backForPlace_ok 18 (23, .aload_n 0, 1) rfl) ?_
  refine zx_getF (pc := 24) (b := 10) G gf_RX12_20 rfl h_o (zq_12_9 hI h_o) (z_dec T_X12_backForPlace_ok 19 (24, .getfield 20, 3) rfl) ?_
  refine zx_iload_n (pc := 27) G 4 rfl rfl (z_dec T_X12_backForPlace_ok 20 (27, .iload_n 2, 1) rfl) ?_
  obtain ⟨c2, h⟩ := h
  refine zx_iald (pc := 28) G (zk_12_9 hI h_o) c2 (z_dec T_X12_backForPlace_ok 21 (28, .iaload, 1) rfl) ?_
  refine zx_aload_n (pc := 29) G (some (0)) 2 rfl rfl (z_dec T_X12_backForPlace_ok 22 (29, .aload_n 0, 1) rfl) ?_
  refine zx_getF (pc := 30) (b := 11) G gf_RX12_23 rfl h_o (zq_12_10 hI h_o) (z_dec T_X12_backForPlace_ok 23 (30, .getfield 23, 3) rfl) ?_
  refine zx_iload_n (pc := 33) G 4 rfl rfl (z_dec T_X12_backForPlace_ok 24 (33, .iload_n 2, 1) rfl) ?_
  refine zx_iald (pc := 34) G (zk_12_10 hI h_o) c2 (z_dec T_X12_backForPlace_ok 25 (34, .iaload, 1) rfl) ?_
  refine zx_callS_iN (pc := 35) (rm := rm_X12_sizeOf) G cw_RX12_395 ⟨Nat.le_of_ble_eq_true rfl, Nat.le_of_ble_eq_true rfl⟩ rfl rfl ⟨Nat.zero_le _, Nat.zero_le _⟩ (fun sz => (met_X12_sizeOf l D ρ kd q μ sz (μ.1 11 a2.toNatClampNeg) _ hI h)) rfl rfl (Nat.le_of_ble_eq_true rfl) (z_dec T_X12_backForPlace_ok 26 (35, .invokestatic 395, 3) rfl) (fun r4 μ3 hn => ?_)
  clear h
  have h := hn
  clear hn
  refine zx_isub (pc := 38) G  (z_dec T_X12_backForPlace_ok 27 (38, .isub, 1) rfl) ?_
  refine zx_istore (pc := 39) (lv' := [(5, .int ((μ.1 10 a2.toNatClampNeg) - r4)), (4, .int (μ.1 26 ((((3 : Int32)) * a1) + a2).toNatClampNeg)), (3, .int (μ.1 25 ((((3 : Int32)) * a1) + a2).toNatClampNeg)), (0, .ref (0)), (1, .int (a1)), (2, .int (a2))]) G (Nat.le_of_ble_eq_true rfl) rfl (z_dec T_X12_backForPlace_ok 28 (39, .istore 5, 2) rfl) ?_
  refine zx_iload (pc := 41) G 0 rfl (z_dec T_X12_backForPlace_ok 29 (41, .iload 5, 2) rfl) ?_
  refine zx_iconst (pc := 43) (v := 5) G (z_dec T_X12_backForPlace_ok 30 (43, .iconst 5, 1) rfl) rfl ?_
  refine zx_icmp_lt (pc := 44) (tgt := 60) G rfl (z_dec T_X12_backForPlace_ok 31 (44, .if_icmp .lt 16, 3) rfl) (fun hc => ?_) (fun hc => ?_)
  · replace h := z_pos hc h
    refine zx_sub (lv' := [(0, .ref (0)), (1, .int (a1))]) [3, 4] rfl ?_
    exact L_X12_backForPlace_60_ok G hr hlk hI h_o h
  · replace h := z_neg hc h
    refine zx_aload_n (pc := 47) G (some (0)) 3 rfl rfl (z_dec T_X12_backForPlace_ok 32 (47, .aload_n 0, 1) rfl) ?_
    refine zx_getF (pc := 48) (b := 11) G gf_RX12_23 rfl h_o (zq_12_10 hI h_o) (z_dec T_X12_backForPlace_ok 33 (48, .getfield 23, 3) rfl) ?_
    refine zx_iload_n (pc := 51) G 5 rfl rfl (z_dec T_X12_backForPlace_ok 34 (51, .iload_n 2, 1) rfl) ?_
    refine zx_iald (pc := 52) G (zk_12_10 hI h_o) c2 (z_dec T_X12_backForPlace_ok 35 (52, .iaload, 1) rfl) ?_
    refine zx_iload_n (pc := 53) G 2 rfl rfl (z_dec T_X12_backForPlace_ok 36 (53, .iload_n 3, 1) rfl) ?_
    refine zx_callS_zN (pc := 54) (rm := rm_X12_hasBit) G cw_RX12_155 ⟨Nat.le_of_ble_eq_true rfl, Nat.le_of_ble_eq_true rfl⟩ rfl rfl ⟨Nat.zero_le _, Nat.zero_le _⟩ (fun sz => (met_X12_hasBit l D ρ kd q μ3 sz (μ3.1 11 a2.toNatClampNeg) (μ.1 25 ((((3 : Int32)) * a1) + a2).toNatClampNeg) _ hI h)) rfl rfl (Nat.le_of_ble_eq_true rfl) (z_dec T_X12_backForPlace_ok 37 (54, .invokestatic 155, 3) rfl) (fun r6 μ5 hzr6 hn => ?_)
    clear h
    have h := hn
    clear hn
    refine zx_if_eq (pc := 57) (tgt := 67) G rfl (z_dec T_X12_backForPlace_ok 38 (57, .ifCond .eq 10, 3) rfl) (fun hc => ?_) (fun hc => ?_)
    · replace h := z_pos hc h
      refine zx_aload_n (pc := 67) G (some (0)) 3 rfl rfl (z_dec T_X12_backForPlace_ok 44 (67, .aload_n 0, 1) rfl) ?_
      refine zx_getF (pc := 68) (b := 14) G gf_RX12_33 rfl h_o (zq_12_13 hI h_o) (z_dec T_X12_backForPlace_ok 45 (68, .getfield 33, 3) rfl) ?_
      refine zx_iload_n (pc := 71) G 5 rfl rfl (z_dec T_X12_backForPlace_ok 46 (71, .iload_n 2, 1) rfl) ?_
      refine zx_iald (pc := 72) G (zk_12_13 hI h_o) c2 (z_dec T_X12_backForPlace_ok 47 (72, .iaload, 1) rfl) ?_
      refine zx_iload_n (pc := 73) G 2 rfl rfl (z_dec T_X12_backForPlace_ok 48 (73, .iload_n 3, 1) rfl) ?_
      refine zx_callS_zN (pc := 74) (rm := rm_X12_hasBit) G cw_RX12_155 ⟨Nat.le_of_ble_eq_true rfl, Nat.le_of_ble_eq_true rfl⟩ rfl rfl ⟨Nat.zero_le _, Nat.zero_le _⟩ (fun sz => (met_X12_hasBit l D ρ kd q μ5 sz (μ5.1 14 a2.toNatClampNeg) (μ.1 25 ((((3 : Int32)) * a1) + a2).toNatClampNeg) _ hI h)) rfl rfl (Nat.le_of_ble_eq_true rfl) (z_dec T_X12_backForPlace_ok 49 (74, .invokestatic 155, 3) rfl) (fun r8 μ7 hzr8 hn => ?_)
      clear h
      have h := hn
      clear hn
      refine zx_if_ne (pc := 77) (tgt := 82) G rfl (z_dec T_X12_backForPlace_ok 50 (77, .ifCond .ne 5, 3) rfl) (fun hc => ?_) (fun hc => ?_)
      · replace h := z_neg hc h
        refine zx_aload_n (pc := 82) G (some (0)) 3 rfl rfl (z_dec T_X12_backForPlace_ok 53 (82, .aload_n 0, 1) rfl) ?_
        refine zx_getF (pc := 83) (b := 23) G gf_RX12_60 rfl h_o (zq_12_22 hI h_o) (z_dec T_X12_backForPlace_ok 54 (83, .getfield 60, 3) rfl) ?_
        refine zx_iload_n (pc := 86) G 4 rfl rfl (z_dec T_X12_backForPlace_ok 55 (86, .iload_n 1, 1) rfl) ?_
        obtain ⟨c9, h⟩ := h
        refine zx_iald (pc := 87) G (zk_12_22 hI h_o) c9 (z_dec T_X12_backForPlace_ok 56 (87, .iaload, 1) rfl) ?_
        refine zx_aload_n (pc := 88) G (some (0)) 3 rfl rfl (z_dec T_X12_backForPlace_ok 57 (88, .aload_n 0, 1) rfl) ?_
        refine zx_iload_n (pc := 89) G 4 rfl rfl (z_dec T_X12_backForPlace_ok 58 (89, .iload_n 1, 1) rfl) ?_
        refine zx_iload_n (pc := 90) G 5 rfl rfl (z_dec T_X12_backForPlace_ok 59 (90, .iload_n 2, 1) rfl) ?_
        refine zx_aload_n (pc := 91) G (some (0)) 3 rfl rfl (z_dec T_X12_backForPlace_ok 60 (91, .aload_n 0, 1) rfl) ?_
        refine zx_getF (pc := 92) (b := 23) G gf_RX12_60 rfl h_o (zq_12_22 hI h_o) (z_dec T_X12_backForPlace_ok 61 (92, .getfield 60, 3) rfl) ?_
        refine zx_iload_n (pc := 95) G 4 rfl rfl (z_dec T_X12_backForPlace_ok 62 (95, .iload_n 1, 1) rfl) ?_
        refine zx_iald (pc := 96) G (zk_12_22 hI h_o) c9 (z_dec T_X12_backForPlace_ok 63 (96, .iaload, 1) rfl) ?_
        refine zx_i2l (pc := 97) G  (z_dec T_X12_backForPlace_ok 64 (97, .i2l, 1) rfl) ?_
        refine zx_aload_n (pc := 98) G (some (0)) 3 rfl rfl (z_dec T_X12_backForPlace_ok 65 (98, .aload_n 0, 1) rfl) ?_
        refine zx_getF (pc := 99) (b := 8) G gf_RX12_13 rfl h_o (zq_12_7 hI h_o) (z_dec T_X12_backForPlace_ok 66 (99, .getfield 13, 3) rfl) ?_
        refine zx_iload (pc := 102) G 1 rfl (z_dec T_X12_backForPlace_ok 67 (102, .iload 4, 2) rfl) ?_
        obtain ⟨c10, h⟩ := h
        refine zx_iald (pc := 104) G (zk_12_7 hI h_o) c10 (z_dec T_X12_backForPlace_ok 68 (104, .iaload, 1) rfl) ?_
        refine zx_i2l (pc := 105) G  (z_dec T_X12_backForPlace_ok 69 (105, .i2l, 1) rfl) ?_
        refine zx_lmul (pc := 106) G  (z_dec T_X12_backForPlace_ok 70 (106, .lmul, 1) rfl) ?_
        refine zx_aload_n (pc := 107) G (some (0)) 3 rfl rfl (z_dec T_X12_backForPlace_ok 71 (107, .aload_n 0, 1) rfl) ?_
        refine zx_getF (pc := 108) (b := 9) G gf_RX12_17 rfl h_o (zq_12_8 hI h_o) (z_dec T_X12_backForPlace_ok 72 (108, .getfield 17, 3) rfl) ?_
        refine zx_iload (pc := 111) G 1 rfl (z_dec T_X12_backForPlace_ok 73 (111, .iload 4, 2) rfl) ?_
        refine zx_iald (pc := 113) G (zk_12_8 hI h_o) c10 (z_dec T_X12_backForPlace_ok 74 (113, .iaload, 1) rfl) ?_
        refine zx_iload (pc := 114) G 0 rfl (z_dec T_X12_backForPlace_ok 75 (114, .iload 5, 2) rfl) ?_
        refine zx_bipush (pc := 116) (v := 8) G (z_dec T_X12_backForPlace_ok 76 (116, .bipush 8, 2) rfl) rfl ?_
        refine zx_icmp_ge (pc := 118) (tgt := 125) G rfl (z_dec T_X12_backForPlace_ok 77 (118, .if_icmp .ge 7, 3) rfl) (fun hc => ?_) (fun hc => ?_)
        · replace h := z_pos hc h
          refine zx_iconst (pc := 125) (v := 5) G (z_dec T_X12_backForPlace_ok 80 (125, .iconst 5, 1) rfl) rfl ?_
          refine zx_sub (lv' := []) [] rfl ?_
          exact L_X12_backForPlace_126_ok G hr hlk hI h_o h
        · replace h := z_neg hc h
          refine zx_iconst (pc := 121) (v := 4) G (z_dec T_X12_backForPlace_ok 78 (121, .iconst 4, 1) rfl) rfl ?_
          refine zx_goto (pc := 122) (tgt := 126) G rfl (z_dec T_X12_backForPlace_ok 79 (122, .goto 4, 3) rfl) ?_
          refine zx_sub (lv' := []) [] rfl ?_
          exact L_X12_backForPlace_126_ok G hr hlk hI h_o h
      · replace h := z_pos hc h
        refine zx_iconst (pc := 80) (v := 0) G (z_dec T_X12_backForPlace_ok 51 (80, .iconst 0, 1) rfl) rfl ?_
        exact zx_iret (pc := 81) G hr hlk (Nat.le_refl _) (Nat.le_refl _) (z_dec T_X12_backForPlace_ok 52 (81, .ireturn, 1) rfl) ⟨rfl, _, rfl, h⟩
    · replace h := z_neg hc h
      refine zx_sub (lv' := [(0, .ref (0)), (1, .int (a1))]) [3, 4] rfl ?_
      exact L_X12_backForPlace_60_ok G hr hlk hI h_o h
abbrev rm_X12_backJoined : Room := { frames := 1, cells := 0, slots := 0, locals := 22 }
set_option maxRecDepth 100000 in
set_option maxHeartbeats 4000000 in
theorem B_X12_backJoined_17_ok {p : Program} {l : Launch} {e : Env} {s : State} {m : MethodId} {args : Array Value} {below : List Frame} {meth : Method} {c : Code} {D : va_G} {A : Nat → Prop} {ρ : z_A} {kd : z_K} {q : z_Q} {μ : z_M} {K : Int32 → z_M → Prop} {P17 : Int32 → Int64 → Int64 → Int64 → Int32 → z_M → Prop} {v1 : Int32} {v2 : Int64} {v4 : Int64} {v6 : Int64} {v8 : Int32} (G : z_G p c cX12_backJoined s m args RX12 11 D) (hr : meth.sig.returnType = (Option.some Jvm.ClassFile.FieldType.int)) (hlk : meth.locks = false) (hP17 : ∀ (v1 : Int32) (v2 : Int64) (v4 : Int64) (v6 : Int64) (v8 : Int32) (μ : z_M), P17 v1 v2 v4 v6 v8 μ → (kd 0 = some (.inl 12)) → z_X p l e rm_X12_backJoined s m args below meth c 11 D A (MQ below (z_Qn D A ρ kd (z_Ki q K)) args s 0 0 A) 0 0 ρ kd q μ 17 [(0, .ref (0)), (1, .int (v1)), (2, .long (v2)), (4, .long (v4)), (6, .long (v6)), (8, .int (v8))] []) (hI : z_I kd q) (f_l0 : kd 0 = some (.inl 12)) (h : B_X12_backJoined_17 K P17 v1 v2 v4 v6 v8 μ) : z_X p l e rm_X12_backJoined s m args below meth c 11 D A (MQ below (z_Qn D A ρ kd (z_Ki q K)) args s 0 0 A) 0 0 ρ kd q μ 17 [(0, .ref (0)), (1, .int (v1)), (2, .long (v2)), (4, .long (v4)), (6, .long (v6)), (8, .int (v8))] [] := by
    unfold B_X12_backJoined_17 at h
    refine zx_iload (pc := 17) G 5 rfl (z_dec T_X12_backJoined_ok 12 (17, .iload 8, 2) rfl) ?_
    refine zx_iconst (pc := 19) (v := 3) G (z_dec T_X12_backJoined_ok 13 (19, .iconst 3, 1) rfl) rfl ?_
    refine zx_icmp_ge (pc := 20) (tgt := 144) G rfl (z_dec T_X12_backJoined_ok 14 (20, .if_icmp .ge 124, 3) rfl) (fun hc => ?_) (fun hc => ?_)
    · replace h := z_pos hc h
      refine zx_lload_n (pc := 144) G 2 rfl rfl (z_dec T_X12_backJoined_ok 85 (144, .lload_n 2, 1) rfl) ?_
      refine zx_lload (pc := 145) G 3 rfl (z_dec T_X12_backJoined_ok 86 (145, .lload 4, 2) rfl) ?_
      refine zx_lmul (pc := 147) G  (z_dec T_X12_backJoined_ok 87 (147, .lmul, 1) rfl) ?_
      refine zx_lload (pc := 148) G 4 rfl (z_dec T_X12_backJoined_ok 88 (148, .lload 6, 2) rfl) ?_
      obtain ⟨c1, h⟩ := h
      refine zx_ldiv (pc := 150) G c1 (z_dec T_X12_backJoined_ok 89 (150, .ldiv, 1) rfl) ?_
      refine zx_lstore (pc := 151) (lv' := [(8, .long ((v2 * v4) / v6)), (0, .ref (0)), (1, .int (v1)), (2, .long (v2)), (4, .long (v4)), (6, .long (v6))]) G (Nat.le_of_ble_eq_true rfl) rfl (z_dec T_X12_backJoined_ok 90 (151, .lstore 8, 2) rfl) ?_
      refine zx_lload (pc := 153) G 0 rfl (z_dec T_X12_backJoined_ok 91 (153, .lload 8, 2) rfl) ?_
      refine zx_ldc2 (pc := 155) G wk_RX12_408 (z_dec T_X12_backJoined_ok 92 (155, .ldc2_w 408, 3) rfl) ?_
      refine zx_lcmp_le (pc := 158) (tgt := 168) G rfl (z_dec T_X12_backJoined_ok 93 (158, .lcmp, 1) rfl) (z_dec T_X12_backJoined_ok 94 (159, .ifCond .le 9, 3) rfl) (fun hc => ?_) (fun hc => ?_)
      · replace h := z_pos hc h
        refine zx_lload (pc := 168) G 0 rfl (z_dec T_X12_backJoined_ok 97 (168, .lload 8, 2) rfl) ?_
        refine zx_l2i (pc := 170) G  (z_dec T_X12_backJoined_ok 98 (170, .l2i, 1) rfl) ?_
        exact zx_iret (pc := 171) G hr hlk (Nat.le_refl _) (Nat.le_refl _) (z_dec T_X12_backJoined_ok 99 (171, .ireturn, 1) rfl) ⟨rfl, _, rfl, h⟩
      · replace h := z_neg hc h
        refine zx_ldcw (pc := 162) G wk_RX12_410 (z_dec T_X12_backJoined_ok 95 (162, .ldc_w 410, 3) rfl) ?_
        refine zx_goto (pc := 165) (tgt := 171) G rfl (z_dec T_X12_backJoined_ok 96 (165, .goto 6, 3) rfl) ?_
        exact zx_iret (pc := 171) G hr hlk (Nat.le_refl _) (Nat.le_refl _) (z_dec T_X12_backJoined_ok 99 (171, .ireturn, 1) rfl) ⟨rfl, _, rfl, h⟩
    · replace h := z_neg hc h
      refine zx_aload_n (pc := 23) G (some (0)) 0 rfl rfl (z_dec T_X12_backJoined_ok 15 (23, .aload_n 0, 1) rfl) ?_
      refine zx_getF (pc := 24) (b := 25) G gf_RX12_66 rfl f_l0 (zq_12_24 hI f_l0) (z_dec T_X12_backJoined_ok 16 (24, .getfield 66, 3) rfl) ?_
      refine zx_iconst (pc := 27) (v := 3) G (z_dec T_X12_backJoined_ok 17 (27, .iconst 3, 1) rfl) rfl ?_
      refine zx_iload_n (pc := 28) G 1 rfl rfl (z_dec T_X12_backJoined_ok 18 (28, .iload_n 1, 1) rfl) ?_
      refine zx_imul (pc := 29) G  (z_dec T_X12_backJoined_ok 19 (29, .imul, 1) rfl) ?_
      refine zx_iload (pc := 30) G 5 rfl (z_dec T_X12_backJoined_ok 20 (30, .iload 8, 2) rfl) ?_
      refine zx_iadd (pc := 32) G  (z_dec T_X12_backJoined_ok 21 (32, .iadd, 1) rfl) ?_
      obtain ⟨c2, h⟩ := h
      refine zx_iald (pc := 33) G (zk_12_24 hI f_l0) c2 (z_dec T_X12_backJoined_ok 22 (33, .iaload, 1) rfl) ?_
      refine zx_istore (pc := 34) (lv' := [(9, .int (μ.1 25 ((((3 : Int32)) * v1) + v8).toNatClampNeg)), (0, .ref (0)), (1, .int (v1)), (2, .long (v2)), (4, .long (v4)), (6, .long (v6)), (8, .int (v8))]) G (Nat.le_of_ble_eq_true rfl) rfl (z_dec T_X12_backJoined_ok 23 (34, .istore 9, 2) rfl) ?_
      refine zx_iload (pc := 36) G 0 rfl (z_dec T_X12_backJoined_ok 24 (36, .iload 9, 2) rfl) ?_
      refine zx_iconst (pc := 38) (v := -1) G (z_dec T_X12_backJoined_ok 25 (38, .iconst (-1), 1) rfl) rfl ?_
      refine zx_icmp_eq (pc := 39) (tgt := 138) G rfl (z_dec T_X12_backJoined_ok 26 (39, .if_icmp .eq 99, 3) rfl) (fun hc => ?_) (fun hc => ?_)
      · replace h := z_pos hc h
        refine zx_iinc (pc := 138) (v := v8 + 1) (lv' := [(8, .int (v8 + 1)), (9, .int (μ.1 25 ((((3 : Int32)) * v1) + v8).toNatClampNeg)), (0, .ref (0)), (1, .int (v1)), (2, .long (v2)), (4, .long (v4)), (6, .long (v6))]) G 6 rfl (z_inc (by decide)) (Nat.le_of_ble_eq_true rfl) rfl (z_dec T_X12_backJoined_ok 83 (138, .iinc 8 1, 3) rfl) ?_
        refine zx_goto (pc := 141) (tgt := 17) G rfl (z_dec T_X12_backJoined_ok 84 (141, .goto (-124), 3) rfl) ?_
        refine zx_sub (lv' := [(0, .ref (0)), (1, .int (v1)), (2, .long (v2)), (4, .long (v4)), (6, .long (v6)), (8, .int (v8 + 1))]) [2, 3, 4, 5, 6, 0] rfl ?_
        exact hP17 _ _ _ _ _ _ h f_l0
      · replace h := z_neg hc h
        refine zx_aload_n (pc := 42) G (some (0)) 1 rfl rfl (z_dec T_X12_backJoined_ok 27 (42, .aload_n 0, 1) rfl) ?_
        refine zx_getF (pc := 43) (b := 11) G gf_RX12_23 rfl f_l0 (zq_12_10 hI f_l0) (z_dec T_X12_backJoined_ok 28 (43, .getfield 23, 3) rfl) ?_
        refine zx_iload (pc := 46) G 6 rfl (z_dec T_X12_backJoined_ok 29 (46, .iload 8, 2) rfl) ?_
        obtain ⟨c3, h⟩ := h
        refine zx_iald (pc := 48) G (zk_12_10 hI f_l0) c3 (z_dec T_X12_backJoined_ok 30 (48, .iaload, 1) rfl) ?_
        refine zx_iload (pc := 49) G 0 rfl (z_dec T_X12_backJoined_ok 31 (49, .iload 9, 2) rfl) ?_
        refine zx_callS_zN (pc := 51) (rm := rm_X12_hasBit) G cw_RX12_155 ⟨Nat.le_of_ble_eq_true rfl, Nat.le_of_ble_eq_true rfl⟩ rfl rfl ⟨Nat.zero_le _, Nat.zero_le _⟩ (fun sz => (met_X12_hasBit l D ρ kd q μ sz (μ.1 11 v8.toNatClampNeg) (μ.1 25 ((((3 : Int32)) * v1) + v8).toNatClampNeg) _ hI h)) rfl rfl (Nat.le_of_ble_eq_true rfl) (z_dec T_X12_backJoined_ok 32 (51, .invokestatic 155, 3) rfl) (fun r5 μ4 hzr5 hn => ?_)
        clear h
        have h := hn
        clear hn
        refine zx_if_eq (pc := 54) (tgt := 60) G rfl (z_dec T_X12_backJoined_ok 33 (54, .ifCond .eq 6, 3) rfl) (fun hc => ?_) (fun hc => ?_)
        · replace h := z_pos hc h
          refine zx_aload_n (pc := 60) G (some (0)) 1 rfl rfl (z_dec T_X12_backJoined_ok 35 (60, .aload_n 0, 1) rfl) ?_
          refine zx_getF (pc := 61) (b := 13) G gf_RX12_30 rfl f_l0 (zq_12_12 hI f_l0) (z_dec T_X12_backJoined_ok 36 (61, .getfield 30, 3) rfl) ?_
          refine zx_iload (pc := 64) G 6 rfl (z_dec T_X12_backJoined_ok 37 (64, .iload 8, 2) rfl) ?_
          refine zx_iald (pc := 66) G (zk_12_12 hI f_l0) c3 (z_dec T_X12_backJoined_ok 38 (66, .iaload, 1) rfl) ?_
          refine zx_iload (pc := 67) G 0 rfl (z_dec T_X12_backJoined_ok 39 (67, .iload 9, 2) rfl) ?_
          refine zx_callS_zN (pc := 69) (rm := rm_X12_hasBit) G cw_RX12_155 ⟨Nat.le_of_ble_eq_true rfl, Nat.le_of_ble_eq_true rfl⟩ rfl rfl ⟨Nat.zero_le _, Nat.zero_le _⟩ (fun sz => (met_X12_hasBit l D ρ kd q μ4 sz (μ4.1 13 v8.toNatClampNeg) (μ.1 25 ((((3 : Int32)) * v1) + v8).toNatClampNeg) _ hI h)) rfl rfl (Nat.le_of_ble_eq_true rfl) (z_dec T_X12_backJoined_ok 40 (69, .invokestatic 155, 3) rfl) (fun r7 μ6 hzr7 hn => ?_)
          clear h
          have h := hn
          clear hn
          refine zx_if_ne (pc := 72) (tgt := 77) G rfl (z_dec T_X12_backJoined_ok 41 (72, .ifCond .ne 5, 3) rfl) (fun hc => ?_) (fun hc => ?_)
          · replace h := z_neg hc h
            refine zx_aload_n (pc := 77) G (some (0)) 1 rfl rfl (z_dec T_X12_backJoined_ok 44 (77, .aload_n 0, 1) rfl) ?_
            refine zx_getF (pc := 78) (b := 26) G gf_RX12_69 rfl f_l0 (zq_12_25 hI f_l0) (z_dec T_X12_backJoined_ok 45 (78, .getfield 69, 3) rfl) ?_
            refine zx_iconst (pc := 81) (v := 3) G (z_dec T_X12_backJoined_ok 46 (81, .iconst 3, 1) rfl) rfl ?_
            refine zx_iload_n (pc := 82) G 2 rfl rfl (z_dec T_X12_backJoined_ok 47 (82, .iload_n 1, 1) rfl) ?_
            refine zx_imul (pc := 83) G  (z_dec T_X12_backJoined_ok 48 (83, .imul, 1) rfl) ?_
            refine zx_iload (pc := 84) G 6 rfl (z_dec T_X12_backJoined_ok 49 (84, .iload 8, 2) rfl) ?_
            refine zx_iadd (pc := 86) G  (z_dec T_X12_backJoined_ok 50 (86, .iadd, 1) rfl) ?_
            refine zx_iald (pc := 87) G (zk_12_25 hI f_l0) c2 (z_dec T_X12_backJoined_ok 51 (87, .iaload, 1) rfl) ?_
            refine zx_istore (pc := 88) (lv' := [(10, .int (μ6.1 26 ((((3 : Int32)) * v1) + v8).toNatClampNeg)), (9, .int (μ.1 25 ((((3 : Int32)) * v1) + v8).toNatClampNeg)), (0, .ref (0)), (1, .int (v1)), (2, .long (v2)), (4, .long (v4)), (6, .long (v6)), (8, .int (v8))]) G (Nat.le_of_ble_eq_true rfl) rfl (z_dec T_X12_backJoined_ok 52 (88, .istore 10, 2) rfl) ?_
            refine zx_lload_n (pc := 90) G 4 rfl rfl (z_dec T_X12_backJoined_ok 53 (90, .lload_n 2, 1) rfl) ?_
            refine zx_aload_n (pc := 91) G (some (0)) 2 rfl rfl (z_dec T_X12_backJoined_ok 54 (91, .aload_n 0, 1) rfl) ?_
            refine zx_getF (pc := 92) (b := 13) G gf_RX12_30 rfl f_l0 (zq_12_12 hI f_l0) (z_dec T_X12_backJoined_ok 55 (92, .getfield 30, 3) rfl) ?_
            refine zx_iload (pc := 95) G 7 rfl (z_dec T_X12_backJoined_ok 56 (95, .iload 8, 2) rfl) ?_
            refine zx_iald (pc := 97) G (zk_12_12 hI f_l0) c3 (z_dec T_X12_backJoined_ok 57 (97, .iaload, 1) rfl) ?_
            refine zx_callS_iN (pc := 98) (rm := rm_X12_sizeOf) G cw_RX12_395 ⟨Nat.le_of_ble_eq_true rfl, Nat.le_of_ble_eq_true rfl⟩ rfl rfl ⟨Nat.zero_le _, Nat.zero_le _⟩ (fun sz => (met_X12_sizeOf l D ρ kd q μ6 sz (μ6.1 13 v8.toNatClampNeg) _ hI h)) rfl rfl (Nat.le_of_ble_eq_true rfl) (z_dec T_X12_backJoined_ok 58 (98, .invokestatic 395, 3) rfl) (fun r9 μ8 hn => ?_)
            clear h
            have h := hn
            clear hn
            refine zx_i2l (pc := 101) G  (z_dec T_X12_backJoined_ok 59 (101, .i2l, 1) rfl) ?_
            obtain ⟨c10, h⟩ := h
            refine zx_ldiv (pc := 102) G c10 (z_dec T_X12_backJoined_ok 60 (102, .ldiv, 1) rfl) ?_
            refine zx_lstore_n (pc := 103) (lv' := [(2, .long (v2 / r9.toInt64)), (10, .int (μ6.1 26 ((((3 : Int32)) * v1) + v8).toNatClampNeg)), (9, .int (μ.1 25 ((((3 : Int32)) * v1) + v8).toNatClampNeg)), (0, .ref (0)), (1, .int (v1)), (4, .long (v4)), (6, .long (v6)), (8, .int (v8))]) G rfl (Nat.le_of_ble_eq_true rfl) rfl (z_dec T_X12_backJoined_ok 61 (103, .lstore_n 2, 1) rfl) ?_
            refine zx_lload (pc := 104) G 5 rfl (z_dec T_X12_backJoined_ok 62 (104, .lload 4, 2) rfl) ?_
            refine zx_aload_n (pc := 106) G (some (0)) 3 rfl rfl (z_dec T_X12_backJoined_ok 63 (106, .aload_n 0, 1) rfl) ?_
            refine zx_getF (pc := 107) (b := 8) G gf_RX12_13 rfl f_l0 (zq_12_7 hI f_l0) (z_dec T_X12_backJoined_ok 64 (107, .getfield 13, 3) rfl) ?_
            refine zx_iload (pc := 110) G 1 rfl (z_dec T_X12_backJoined_ok 65 (110, .iload 10, 2) rfl) ?_
            obtain ⟨c11, h⟩ := h
            refine zx_iald (pc := 112) G (zk_12_7 hI f_l0) c11 (z_dec T_X12_backJoined_ok 66 (112, .iaload, 1) rfl) ?_
            refine zx_aload_n (pc := 113) G (some (0)) 3 rfl rfl (z_dec T_X12_backJoined_ok 67 (113, .aload_n 0, 1) rfl) ?_
            refine zx_getF (pc := 114) (b := 9) G gf_RX12_17 rfl f_l0 (zq_12_8 hI f_l0) (z_dec T_X12_backJoined_ok 68 (114, .getfield 17, 3) rfl) ?_
            refine zx_iload (pc := 117) G 1 rfl (z_dec T_X12_backJoined_ok 69 (117, .iload 10, 2) rfl) ?_
            refine zx_iald (pc := 119) G (zk_12_8 hI f_l0) c11 (z_dec T_X12_backJoined_ok 70 (119, .iaload, 1) rfl) ?_
            refine zx_iadd (pc := 120) G  (z_dec T_X12_backJoined_ok 71 (120, .iadd, 1) rfl) ?_
            refine zx_i2l (pc := 121) G  (z_dec T_X12_backJoined_ok 72 (121, .i2l, 1) rfl) ?_
            refine zx_lmul (pc := 122) G  (z_dec T_X12_backJoined_ok 73 (122, .lmul, 1) rfl) ?_
            refine zx_lstore (pc := 123) (lv' := [(4, .long (v4 * (((μ8.1 8 (μ6.1 26 ((((3 : Int32)) * v1) + v8).toNatClampNeg).toNatClampNeg) + (μ8.1 9 (μ6.1 26 ((((3 : Int32)) * v1) + v8).toNatClampNeg).toNatClampNeg)).toInt64))), (2, .long (v2 / r9.toInt64)), (10, .int (μ6.1 26 ((((3 : Int32)) * v1) + v8).toNatClampNeg)), (9, .int (μ.1 25 ((((3 : Int32)) * v1) + v8).toNatClampNeg)), (0, .ref (0)), (1, .int (v1)), (6, .long (v6)), (8, .int (v8))]) G (Nat.le_of_ble_eq_true rfl) rfl (z_dec T_X12_backJoined_ok 74 (123, .lstore 4, 2) rfl) ?_
            refine zx_lload (pc := 125) G 6 rfl (z_dec T_X12_backJoined_ok 75 (125, .lload 6, 2) rfl) ?_
            refine zx_aload_n (pc := 127) G (some (0)) 4 rfl rfl (z_dec T_X12_backJoined_ok 76 (127, .aload_n 0, 1) rfl) ?_
            refine zx_getF (pc := 128) (b := 9) G gf_RX12_17 rfl f_l0 (zq_12_8 hI f_l0) (z_dec T_X12_backJoined_ok 77 (128, .getfield 17, 3) rfl) ?_
            refine zx_iload (pc := 131) G 2 rfl (z_dec T_X12_backJoined_ok 78 (131, .iload 10, 2) rfl) ?_
            refine zx_iald (pc := 133) G (zk_12_8 hI f_l0) c11 (z_dec T_X12_backJoined_ok 79 (133, .iaload, 1) rfl) ?_
            refine zx_i2l (pc := 134) G  (z_dec T_X12_backJoined_ok 80 (134, .i2l, 1) rfl) ?_
            refine zx_lmul (pc := 135) G  (z_dec T_X12_backJoined_ok 81 (135, .lmul, 1) rfl) ?_
            refine zx_lstore (pc := 136) (lv' := [(6, .long (v6 * ((μ8.1 9 (μ6.1 26 ((((3 : Int32)) * v1) + v8).toNatClampNeg).toNatClampNeg).toInt64))), (4, .long (v4 * (((μ8.1 8 (μ6.1 26 ((((3 : Int32)) * v1) + v8).toNatClampNeg).toNatClampNeg) + (μ8.1 9 (μ6.1 26 ((((3 : Int32)) * v1) + v8).toNatClampNeg).toNatClampNeg)).toInt64))), (2, .long (v2 / r9.toInt64)), (10, .int (μ6.1 26 ((((3 : Int32)) * v1) + v8).toNatClampNeg)), (9, .int (μ.1 25 ((((3 : Int32)) * v1) + v8).toNatClampNeg)), (0, .ref (0)), (1, .int (v1)), (8, .int (v8))]) G (Nat.le_of_ble_eq_true rfl) rfl (z_dec T_X12_backJoined_ok 82 (136, .lstore 6, 2) rfl) ?_
            refine zx_iinc (pc := 138) (v := v8 + 1) (lv' := [(8, .int (v8 + 1)), (6, .long (v6 * ((μ8.1 9 (μ6.1 26 ((((3 : Int32)) * v1) + v8).toNatClampNeg).toNatClampNeg).toInt64))), (4, .long (v4 * (((μ8.1 8 (μ6.1 26 ((((3 : Int32)) * v1) + v8).toNatClampNeg).toNatClampNeg) + (μ8.1 9 (μ6.1 26 ((((3 : Int32)) * v1) + v8).toNatClampNeg).toNatClampNeg)).toInt64))), (2, .long (v2 / r9.toInt64)), (10, .int (μ6.1 26 ((((3 : Int32)) * v1) + v8).toNatClampNeg)), (9, .int (μ.1 25 ((((3 : Int32)) * v1) + v8).toNatClampNeg)), (0, .ref (0)), (1, .int (v1))]) G 7 rfl (z_inc (by decide)) (Nat.le_of_ble_eq_true rfl) rfl (z_dec T_X12_backJoined_ok 83 (138, .iinc 8 1, 3) rfl) ?_
            refine zx_goto (pc := 141) (tgt := 17) G rfl (z_dec T_X12_backJoined_ok 84 (141, .goto (-124), 3) rfl) ?_
            refine zx_sub (lv' := [(0, .ref (0)), (1, .int (v1)), (2, .long (v2 / r9.toInt64)), (4, .long (v4 * (((μ8.1 8 (μ6.1 26 ((((3 : Int32)) * v1) + v8).toNatClampNeg).toNatClampNeg) + (μ8.1 9 (μ6.1 26 ((((3 : Int32)) * v1) + v8).toNatClampNeg).toNatClampNeg)).toInt64))), (6, .long (v6 * ((μ8.1 9 (μ6.1 26 ((((3 : Int32)) * v1) + v8).toNatClampNeg).toNatClampNeg).toInt64))), (8, .int (v8 + 1))]) [6, 7, 3, 2, 1, 0] rfl ?_
            exact hP17 _ _ _ _ _ _ h f_l0
          · replace h := z_pos hc h
            refine zx_iconst (pc := 75) (v := 0) G (z_dec T_X12_backJoined_ok 42 (75, .iconst 0, 1) rfl) rfl ?_
            exact zx_iret (pc := 76) G hr hlk (Nat.le_refl _) (Nat.le_refl _) (z_dec T_X12_backJoined_ok 43 (76, .ireturn, 1) rfl) ⟨rfl, _, rfl, h⟩
        · replace h := z_neg hc h
          refine zx_goto (pc := 57) (tgt := 138) G rfl (z_dec T_X12_backJoined_ok 34 (57, .goto 81, 3) rfl) ?_
          refine zx_iinc (pc := 138) (v := v8 + 1) (lv' := [(8, .int (v8 + 1)), (9, .int (μ.1 25 ((((3 : Int32)) * v1) + v8).toNatClampNeg)), (0, .ref (0)), (1, .int (v1)), (2, .long (v2)), (4, .long (v4)), (6, .long (v6))]) G 6 rfl (z_inc (by decide)) (Nat.le_of_ble_eq_true rfl) rfl (z_dec T_X12_backJoined_ok 83 (138, .iinc 8 1, 3) rfl) ?_
          refine zx_goto (pc := 141) (tgt := 17) G rfl (z_dec T_X12_backJoined_ok 84 (141, .goto (-124), 3) rfl) ?_
          refine zx_sub (lv' := [(0, .ref (0)), (1, .int (v1)), (2, .long (v2)), (4, .long (v4)), (6, .long (v6)), (8, .int (v8 + 1))]) [2, 3, 4, 5, 6, 0] rfl ?_
          exact hP17 _ _ _ _ _ _ h f_l0
set_option maxRecDepth 100000 in
set_option maxHeartbeats 4000000 in
theorem L_X12_backJoined_17_ok {p : Program} {l : Launch} {e : Env} {s : State} {m : MethodId} {args : Array Value} {below : List Frame} {meth : Method} {c : Code} {D : va_G} {A : Nat → Prop} {ρ : z_A} {kd : z_K} {q : z_Q} {μ : z_M} {K : Int32 → z_M → Prop} {v1 : Int32} {v2 : Int64} {v4 : Int64} {v6 : Int64} {v8 : Int32} (G : z_G p c cX12_backJoined s m args RX12 11 D) (hr : meth.sig.returnType = (Option.some Jvm.ClassFile.FieldType.int)) (hlk : meth.locks = false) (hI : z_I kd q) (f_l0 : kd 0 = some (.inl 12)) (h : L_X12_backJoined_17 K v1 v2 v4 v6 v8 μ) : z_X p l e rm_X12_backJoined s m args below meth c 11 D A (MQ below (z_Qn D A ρ kd (z_Ki q K)) args s 0 0 A) 0 0 ρ kd q μ 17 [(0, .ref (0)), (1, .int (v1)), (2, .long (v2)), (4, .long (v4)), (6, .long (v6)), (8, .int (v8))] [] :=
  h (fun (v1 : Int32) (v2 : Int64) (v4 : Int64) (v6 : Int64) (v8 : Int32) (μ : z_M) => (kd 0 = some (.inl 12)) → z_X p l e rm_X12_backJoined s m args below meth c 11 D A (MQ below (z_Qn D A ρ kd (z_Ki q K)) args s 0 0 A) 0 0 ρ kd q μ 17 [(0, .ref (0)), (1, .int (v1)), (2, .long (v2)), (4, .long (v4)), (6, .long (v6)), (8, .int (v8))] []) (fun v1 v2 v4 v6 v8 μ h f_l0 => B_X12_backJoined_17_ok G hr hlk (fun _ _ _ _ _ _ h => h) hI f_l0 h) f_l0
set_option maxRecDepth 100000 in
set_option maxHeartbeats 4000000 in
theorem met_X12_backJoined (l : Launch) (D : va_G) (ρ : z_A) (kd : z_K) (q : z_Q) (μ : z_M) (sz : Nat) (a1 : Int32) (K : Int32 → z_M → Prop) (hI : z_I kd q) (h_o : kd 0 = some (.inl 12)) (h : C_X12_backJoined a1 μ K) : Met l yX12_backJoined (z_ws yX12_backJoined cX12_backJoined 11 (Option.some Jvm.ClassFile.FieldType.int)) rm_X12_backJoined (z_Pc D ρ kd q μ sz [.ref (0), .int (a1)]) (z_Qn D (z_Rg ρ sz) ρ kd (z_Ki q K)) 0 0 (z_Rg ρ sz) := by
  refine z_met (rm := rm_X12_backJoined) (by decide) (Nat.le_of_ble_eq_true rfl) (fun p e s m args below meth c G hr hlk => ?_)
  unfold C_X12_backJoined at h
  show z_X _ _ _ _ _ _ _ _ _ _ _ _ _ _ _ _ _ _ _ _ _ [(0, .ref (0)), (1, .int (a1))] _
  refine zx_aload_n (pc := 0) G (some (0)) 0 rfl rfl (z_dec T_X12_backJoined_ok 0 (0, .aload_n 0, 1) rfl) ?_
  refine zx_getF (pc := 1) (b := 23) G gf_RX12_60 rfl h_o (zq_12_22 hI h_o) (z_dec T_X12_backJoined_ok 1 (1, .getfield 60, 3) rfl) ?_
  refine zx_iload_n (pc := 4) G 1 rfl rfl (z_dec T_X12_backJoined_ok 2 (4, .iload_n 1, 1) rfl) ?_
  obtain ⟨c1, h⟩ := h
  refine zx_iald (pc := 5) G (zk_12_22 hI h_o) c1 (z_dec T_X12_backJoined_ok 3 (5, .iaload, 1) rfl) ?_
  refine zx_i2l (pc := 6) G  (z_dec T_X12_backJoined_ok 4 (6, .i2l, 1) rfl) ?_
  refine zx_lstore_n (pc := 7) (lv' := [(2, .long ((μ.1 23 a1.toNatClampNeg).toInt64)), (0, .ref (0)), (1, .int (a1))]) G rfl (Nat.le_of_ble_eq_true rfl) rfl (z_dec T_X12_backJoined_ok 5 (7, .lstore_n 2, 1) rfl) ?_
  refine zx_lconst (pc := 8) (v := 1) G (z_dec T_X12_backJoined_ok 6 (8, .lconst 1, 1) rfl) rfl ?_
  refine zx_lstore (pc := 9) (lv' := [(4, .long ((1 : Int64))), (2, .long ((μ.1 23 a1.toNatClampNeg).toInt64)), (0, .ref (0)), (1, .int (a1))]) G (Nat.le_of_ble_eq_true rfl) rfl (z_dec T_X12_backJoined_ok 7 (9, .lstore 4, 2) rfl) ?_
  refine zx_lconst (pc := 11) (v := 1) G (z_dec T_X12_backJoined_ok 8 (11, .lconst 1, 1) rfl) rfl ?_
  refine zx_lstore (pc := 12) (lv' := [(6, .long ((1 : Int64))), (4, .long ((1 : Int64))), (2, .long ((μ.1 23 a1.toNatClampNeg).toInt64)), (0, .ref (0)), (1, .int (a1))]) G (Nat.le_of_ble_eq_true rfl) rfl (z_dec T_X12_backJoined_ok 9 (12, .lstore 6, 2) rfl) ?_
  refine zx_iconst (pc := 14) (v := 0) G (z_dec T_X12_backJoined_ok 10 (14, .iconst 0, 1) rfl) rfl ?_
  refine zx_istore (pc := 15) (lv' := [(8, .int ((0 : Int32))), (6, .long ((1 : Int64))), (4, .long ((1 : Int64))), (2, .long ((μ.1 23 a1.toNatClampNeg).toInt64)), (0, .ref (0)), (1, .int (a1))]) G (Nat.le_of_ble_eq_true rfl) rfl (z_dec T_X12_backJoined_ok 11 (15, .istore 8, 2) rfl) ?_
  refine zx_sub (lv' := [(0, .ref (0)), (1, .int (a1)), (2, .long ((μ.1 23 a1.toNatClampNeg).toInt64)), (4, .long ((1 : Int64))), (6, .long ((1 : Int64))), (8, .int ((0 : Int32)))]) [4, 5, 3, 2, 1, 0] rfl ?_
  exact L_X12_backJoined_17_ok G hr hlk hI h_o h
abbrev rm_X12_backOf : Room := { frames := 4, cells := 0, slots := 0, locals := 96 }
set_option maxRecDepth 100000 in
set_option maxHeartbeats 4000000 in
theorem L_X12_backOf_42_ok {p : Program} {l : Launch} {e : Env} {s : State} {m : MethodId} {args : Array Value} {below : List Frame} {meth : Method} {c : Code} {D : va_G} {A : Nat → Prop} {ρ : z_A} {kd : z_K} {q : z_Q} {μ : z_M} {K : Int32 → z_M → Prop} {v1 : Int32} {v2 : Int32} {t0 : Int32} (G : z_G p c cX12_backOf s m args RX12 3 D) (hr : meth.sig.returnType = (Option.some Jvm.ClassFile.FieldType.int)) (hlk : meth.locks = false) (hI : z_I kd q) (f_l0 : kd 0 = some (.inl 12)) (h : L_X12_backOf_42 K v1 v2 t0 μ) : z_X p l e rm_X12_backOf s m args below meth c 3 D A (MQ below (z_Qn D A ρ kd (z_Ki q K)) args s 0 0 A) 0 0 ρ kd q μ 42 [(0, .ref (0)), (1, .int (v1)), (2, .int (v2))] [.int (t0)] := by
    unfold L_X12_backOf_42 at h
    refine zx_aload_n (pc := 42) G (some (0)) 0 rfl rfl (z_dec T_X12_backOf_ok 26 (42, .aload_n 0, 1) rfl) ?_
    refine zx_getF (pc := 43) (b := 22) G gf_RX12_57 rfl f_l0 (zq_12_21 hI f_l0) (z_dec T_X12_backOf_ok 27 (43, .getfield 57, 3) rfl) ?_
    refine zx_iload_n (pc := 46) G 1 rfl rfl (z_dec T_X12_backOf_ok 28 (46, .iload_n 1, 1) rfl) ?_
    obtain ⟨c1, h⟩ := h
    refine zx_iald (pc := 47) G (zk_12_21 hI f_l0) c1 (z_dec T_X12_backOf_ok 29 (47, .iaload, 1) rfl) ?_
    refine zx_if_ne (pc := 48) (tgt := 55) G rfl (z_dec T_X12_backOf_ok 30 (48, .ifCond .ne 7, 3) rfl) (fun hc => ?_) (fun hc => ?_)
    · replace h := z_neg hc h
      refine zx_aload_n (pc := 55) G (some (0)) 0 rfl rfl (z_dec T_X12_backOf_ok 33 (55, .aload_n 0, 1) rfl) ?_
      refine zx_iload_n (pc := 56) G 1 rfl rfl (z_dec T_X12_backOf_ok 34 (56, .iload_n 1, 1) rfl) ?_
      refine zx_iload_n (pc := 57) G 2 rfl rfl (z_dec T_X12_backOf_ok 35 (57, .iload_n 2, 1) rfl) ?_
      refine zx_callV_iN (pc := 58) (rm := rm_X12_backForPlace) G cw_RX12_420 ⟨Nat.le_of_ble_eq_true rfl, Nat.le_of_ble_eq_true rfl⟩ rfl rfl ⟨Nat.zero_le _, Nat.zero_le _⟩ f_l0 rfl (fun sz => (met_X12_backForPlace l D ρ kd q μ sz v1 v2 _ hI f_l0 h)) rfl rfl (Nat.le_of_ble_eq_true rfl) (z_dec T_X12_backOf_ok 36 (58, .invokevirtual 420, 3) rfl) (fun r3 μ2 hn => ?_)
      clear h
      have h := hn
      clear hn
      refine zx_iadd (pc := 61) G  (z_dec T_X12_backOf_ok 37 (61, .iadd, 1) rfl) ?_
      exact zx_iret (pc := 62) G hr hlk (Nat.le_refl _) (Nat.le_refl _) (z_dec T_X12_backOf_ok 38 (62, .ireturn, 1) rfl) ⟨rfl, _, rfl, h⟩
    · replace h := z_pos hc h
      refine zx_iconst (pc := 51) (v := 0) G (z_dec T_X12_backOf_ok 31 (51, .iconst 0, 1) rfl) rfl ?_
      refine zx_goto (pc := 52) (tgt := 61) G rfl (z_dec T_X12_backOf_ok 32 (52, .goto 9, 3) rfl) ?_
      refine zx_iadd (pc := 61) G  (z_dec T_X12_backOf_ok 37 (61, .iadd, 1) rfl) ?_
      exact zx_iret (pc := 62) G hr hlk (Nat.le_refl _) (Nat.le_refl _) (z_dec T_X12_backOf_ok 38 (62, .ireturn, 1) rfl) ⟨rfl, _, rfl, h⟩
set_option maxRecDepth 100000 in
set_option maxHeartbeats 4000000 in
theorem met_X12_backOf (l : Launch) (D : va_G) (ρ : z_A) (kd : z_K) (q : z_Q) (μ : z_M) (sz : Nat) (a1 : Int32) (K : Int32 → z_M → Prop) (hI : z_I kd q) (h_o : kd 0 = some (.inl 12)) (h : C_X12_backOf a1 μ K) : Met l yX12_backOf (z_ws yX12_backOf cX12_backOf 3 (Option.some Jvm.ClassFile.FieldType.int)) rm_X12_backOf (z_Pc D ρ kd q μ sz [.ref (0), .int (a1)]) (z_Qn D (z_Rg ρ sz) ρ kd (z_Ki q K)) 0 0 (z_Rg ρ sz) := by
  refine z_met (rm := rm_X12_backOf) (by decide) (Nat.le_of_ble_eq_true rfl) (fun p e s m args below meth c G hr hlk => ?_)
  unfold C_X12_backOf at h
  show z_X _ _ _ _ _ _ _ _ _ _ _ _ _ _ _ _ _ _ _ _ _ [(0, .ref (0)), (1, .int (a1))] _
  refine zx_aload_n (pc := 0) G (some (0)) 0 rfl rfl (z_dec T_X12_backOf_ok 0 (0, .aload_n 0, 1) rfl) ?_
  refine zx_getF (pc := 1) (b := 22) G gf_RX12_57 rfl h_o (zq_12_21 hI h_o) (z_dec T_X12_backOf_ok 1 (1, .getfield 57, 3) rfl) ?_
  refine zx_iload_n (pc := 4) G 1 rfl rfl (z_dec T_X12_backOf_ok 2 (4, .iload_n 1, 1) rfl) ?_
  obtain ⟨c1, h⟩ := h
  refine zx_iald (pc := 5) G (zk_12_21 hI h_o) c1 (z_dec T_X12_backOf_ok 3 (5, .iaload, 1) rfl) ?_
  refine zx_iconst (pc := 6) (v := 3) G (z_dec T_X12_backOf_ok 4 (6, .iconst 3, 1) rfl) rfl ?_
  refine zx_icmp_ne (pc := 7) (tgt := 16) G rfl (z_dec T_X12_backOf_ok 5 (7, .if_icmp .ne 9, 3) rfl) (fun hc => ?_) (fun hc => ?_)
  · replace h := z_neg hc h
    refine zx_aload_n (pc := 16) G (some (0)) 0 rfl rfl (z_dec T_X12_backOf_ok 10 (16, .aload_n 0, 1) rfl) ?_
    refine zx_iload_n (pc := 17) G 1 rfl rfl (z_dec T_X12_backOf_ok 11 (17, .iload_n 1, 1) rfl) ?_
    refine zx_callV_iN (pc := 18) (rm := rm_X12_raceOf) G cw_RX12_414 ⟨Nat.le_of_ble_eq_true rfl, Nat.le_of_ble_eq_true rfl⟩ rfl rfl ⟨Nat.zero_le _, Nat.zero_le _⟩ h_o rfl (fun sz => (met_X12_raceOf l D ρ kd q μ sz a1 _ hI h_o h)) rfl rfl (Nat.le_of_ble_eq_true rfl) (z_dec T_X12_backOf_ok 12 (18, .invokevirtual 414, 3) rfl) (fun r3 μ2 hn => ?_)
    clear h
    have h := hn
    clear hn
    refine zx_istore_n (pc := 21) (lv' := [(2, .int (r3)), (0, .ref (0)), (1, .int (a1))]) G rfl (Nat.le_of_ble_eq_true rfl) rfl (z_dec T_X12_backOf_ok 13 (21, .istore_n 2, 1) rfl) ?_
    refine zx_aload_n (pc := 22) G (some (0)) 1 rfl rfl (z_dec T_X12_backOf_ok 14 (22, .aload_n 0, 1) rfl) ?_
    refine zx_getF (pc := 23) (b := 22) G gf_RX12_57 rfl h_o (zq_12_21 hI h_o) (z_dec T_X12_backOf_ok 15 (23, .getfield 57, 3) rfl) ?_
    refine zx_iload_n (pc := 26) G 2 rfl rfl (z_dec T_X12_backOf_ok 16 (26, .iload_n 1, 1) rfl) ?_
    refine zx_iald (pc := 27) G (zk_12_21 hI h_o) c1 (z_dec T_X12_backOf_ok 17 (27, .iaload, 1) rfl) ?_
    refine zx_iconst (pc := 28) (v := 1) G (z_dec T_X12_backOf_ok 18 (28, .iconst 1, 1) rfl) rfl ?_
    refine zx_icmp_ne (pc := 29) (tgt := 36) G rfl (z_dec T_X12_backOf_ok 19 (29, .if_icmp .ne 7, 3) rfl) (fun hc => ?_) (fun hc => ?_)
    · replace h := z_neg hc h
      refine zx_aload_n (pc := 36) G (some (0)) 1 rfl rfl (z_dec T_X12_backOf_ok 22 (36, .aload_n 0, 1) rfl) ?_
      refine zx_iload_n (pc := 37) G 2 rfl rfl (z_dec T_X12_backOf_ok 23 (37, .iload_n 1, 1) rfl) ?_
      refine zx_iload_n (pc := 38) G 0 rfl rfl (z_dec T_X12_backOf_ok 24 (38, .iload_n 2, 1) rfl) ?_
      refine zx_callV_iN (pc := 39) (rm := rm_X12_backToWin) G cw_RX12_417 ⟨Nat.le_of_ble_eq_true rfl, Nat.le_of_ble_eq_true rfl⟩ rfl rfl ⟨Nat.zero_le _, Nat.zero_le _⟩ h_o rfl (fun sz => (met_X12_backToWin l D ρ kd q μ2 sz a1 r3 _ hI h_o h)) rfl rfl (Nat.le_of_ble_eq_true rfl) (z_dec T_X12_backOf_ok 25 (39, .invokevirtual 417, 3) rfl) (fun r5 μ4 hn => ?_)
      clear h
      have h := hn
      clear hn
      refine zx_sub (lv' := [(0, .ref (0)), (1, .int (a1)), (2, .int (r3))]) [1, 2, 0] rfl ?_
      exact L_X12_backOf_42_ok G hr hlk hI h_o h
    · replace h := z_pos hc h
      refine zx_iconst (pc := 32) (v := 0) G (z_dec T_X12_backOf_ok 20 (32, .iconst 0, 1) rfl) rfl ?_
      refine zx_goto (pc := 33) (tgt := 42) G rfl (z_dec T_X12_backOf_ok 21 (33, .goto 9, 3) rfl) ?_
      refine zx_sub (lv' := [(0, .ref (0)), (1, .int (a1)), (2, .int (r3))]) [1, 2, 0] rfl ?_
      exact L_X12_backOf_42_ok G hr hlk hI h_o h
  · replace h := z_pos hc h
    refine zx_aload_n (pc := 10) G (some (0)) 0 rfl rfl (z_dec T_X12_backOf_ok 6 (10, .aload_n 0, 1) rfl) ?_
    refine zx_iload_n (pc := 11) G 1 rfl rfl (z_dec T_X12_backOf_ok 7 (11, .iload_n 1, 1) rfl) ?_
    refine zx_callV_iN (pc := 12) (rm := rm_X12_backJoined) G cw_RX12_411 ⟨Nat.le_of_ble_eq_true rfl, Nat.le_of_ble_eq_true rfl⟩ rfl rfl ⟨Nat.zero_le _, Nat.zero_le _⟩ h_o rfl (fun sz => (met_X12_backJoined l D ρ kd q μ sz a1 _ hI h_o h)) rfl rfl (Nat.le_of_ble_eq_true rfl) (z_dec T_X12_backOf_ok 8 (12, .invokevirtual 411, 3) rfl) (fun r7 μ6 hn => ?_)
    clear h
    have h := hn
    clear hn
    exact zx_iret (pc := 15) G hr hlk (Nat.le_refl _) (Nat.le_refl _) (z_dec T_X12_backOf_ok 9 (15, .ireturn, 1) rfl) ⟨rfl, _, rfl, h⟩
abbrev rm_X12_isOut : Room := { frames := 0, cells := 0, slots := 0, locals := 0 }
set_option maxRecDepth 100000 in
set_option maxHeartbeats 4000000 in
theorem B_X12_isOut_2_ok {p : Program} {l : Launch} {e : Env} {s : State} {m : MethodId} {args : Array Value} {below : List Frame} {meth : Method} {c : Code} {D : va_G} {A : Nat → Prop} {ρ : z_A} {kd : z_K} {q : z_Q} {μ : z_M} {K : Int32 → z_M → Prop} {P2 : Int32 → Int32 → z_M → Prop} {v1 : Int32} {v2 : Int32} (G : z_G p c cX12_isOut s m args RX12 3 D) (hr : meth.sig.returnType = (Option.some Jvm.ClassFile.FieldType.boolean)) (hlk : meth.locks = false) (hP2 : ∀ (v1 : Int32) (v2 : Int32) (μ : z_M), P2 v1 v2 μ → (kd 0 = some (.inl 12)) → z_X p l e rm_X12_isOut s m args below meth c 3 D A (MQ below (z_Qn D A ρ kd (z_Kz q K)) args s 0 0 A) 0 0 ρ kd q μ 2 [(0, .ref (0)), (1, .int (v1)), (2, .int (v2))] []) (hI : z_I kd q) (f_l0 : kd 0 = some (.inl 12)) (h : B_X12_isOut_2 K P2 v1 v2 μ) : z_X p l e rm_X12_isOut s m args below meth c 3 D A (MQ below (z_Qn D A ρ kd (z_Kz q K)) args s 0 0 A) 0 0 ρ kd q μ 2 [(0, .ref (0)), (1, .int (v1)), (2, .int (v2))] [] := by
    unfold B_X12_isOut_2 at h
    refine zx_iload_n (pc := 2) G 2 rfl rfl (z_dec T_X12_isOut_ok 2 (2, .iload_n 2, 1) rfl) ?_
    refine zx_iconst (pc := 3) (v := 3) G (z_dec T_X12_isOut_ok 3 (3, .iconst 3, 1) rfl) rfl ?_
    refine zx_icmp_ge (pc := 4) (tgt := 38) G rfl (z_dec T_X12_isOut_ok 4 (4, .if_icmp .ge 34, 3) rfl) (fun hc => ?_) (fun hc => ?_)
    · replace h := z_pos hc h
      refine zx_iconst (pc := 38) (v := 1) G (z_dec T_X12_isOut_ok 24 (38, .iconst 1, 1) rfl) rfl ?_
      exact zx_zret (pc := 39) G hr hlk (Nat.le_refl _) (Nat.le_refl _) (Or.inr rfl) (z_dec T_X12_isOut_ok 25 (39, .ireturn, 1) rfl) ⟨rfl, _, rfl, (Or.inr rfl), h⟩
    · replace h := z_neg hc h
      refine zx_aload_n (pc := 7) G (some (0)) 0 rfl rfl (z_dec T_X12_isOut_ok 5 (7, .aload_n 0, 1) rfl) ?_
      refine zx_getF (pc := 8) (b := 25) G gf_RX12_66 rfl f_l0 (zq_12_24 hI f_l0) (z_dec T_X12_isOut_ok 6 (8, .getfield 66, 3) rfl) ?_
      refine zx_iconst (pc := 11) (v := 3) G (z_dec T_X12_isOut_ok 7 (11, .iconst 3, 1) rfl) rfl ?_
      refine zx_iload_n (pc := 12) G 1 rfl rfl (z_dec T_X12_isOut_ok 8 (12, .iload_n 1, 1) rfl) ?_
      refine zx_imul (pc := 13) G  (z_dec T_X12_isOut_ok 9 (13, .imul, 1) rfl) ?_
      refine zx_iload_n (pc := 14) G 2 rfl rfl (z_dec T_X12_isOut_ok 10 (14, .iload_n 2, 1) rfl) ?_
      refine zx_iadd (pc := 15) G  (z_dec T_X12_isOut_ok 11 (15, .iadd, 1) rfl) ?_
      obtain ⟨c1, h⟩ := h
      refine zx_iald (pc := 16) G (zk_12_24 hI f_l0) c1 (z_dec T_X12_isOut_ok 12 (16, .iaload, 1) rfl) ?_
      refine zx_iconst (pc := 17) (v := -1) G (z_dec T_X12_isOut_ok 13 (17, .iconst (-1), 1) rfl) rfl ?_
      refine zx_icmp_eq (pc := 18) (tgt := 32) G rfl (z_dec T_X12_isOut_ok 14 (18, .if_icmp .eq 14, 3) rfl) (fun hc => ?_) (fun hc => ?_)
      · replace h := z_pos hc h
        refine zx_iinc (pc := 32) (v := v2 + 1) (lv' := [(2, .int (v2 + 1)), (0, .ref (0)), (1, .int (v1))]) G 2 rfl (z_inc (by decide)) (Nat.le_of_ble_eq_true rfl) rfl (z_dec T_X12_isOut_ok 22 (32, .iinc 2 1, 3) rfl) ?_
        refine zx_goto (pc := 35) (tgt := 2) G rfl (z_dec T_X12_isOut_ok 23 (35, .goto (-33), 3) rfl) ?_
        refine zx_sub (lv' := [(0, .ref (0)), (1, .int (v1)), (2, .int (v2 + 1))]) [1, 2, 0] rfl ?_
        exact hP2 _ _ _ h f_l0
      · replace h := z_neg hc h
        refine zx_aload_n (pc := 21) G (some (0)) 0 rfl rfl (z_dec T_X12_isOut_ok 15 (21, .aload_n 0, 1) rfl) ?_
        refine zx_getF (pc := 22) (b := 12) G gf_RX12_26 rfl f_l0 (zq_12_11 hI f_l0) (z_dec T_X12_isOut_ok 16 (22, .getfield 26, 3) rfl) ?_
        refine zx_iload_n (pc := 25) G 2 rfl rfl (z_dec T_X12_isOut_ok 17 (25, .iload_n 2, 1) rfl) ?_
        obtain ⟨c2, h⟩ := h
        refine zx_zald (pc := 26) G (zk_12_11 hI f_l0) c2 (z_dec T_X12_isOut_ok 18 (26, .baload, 1) rfl) ?_
        refine zx_if_ne (pc := 27) (tgt := 32) G rfl (z_dec T_X12_isOut_ok 19 (27, .ifCond .ne 5, 3) rfl) (fun hc => ?_) (fun hc => ?_)
        · replace h := z_neg hc h
          refine zx_iinc (pc := 32) (v := v2 + 1) (lv' := [(2, .int (v2 + 1)), (0, .ref (0)), (1, .int (v1))]) G 2 rfl (z_inc (by decide)) (Nat.le_of_ble_eq_true rfl) rfl (z_dec T_X12_isOut_ok 22 (32, .iinc 2 1, 3) rfl) ?_
          refine zx_goto (pc := 35) (tgt := 2) G rfl (z_dec T_X12_isOut_ok 23 (35, .goto (-33), 3) rfl) ?_
          refine zx_sub (lv' := [(0, .ref (0)), (1, .int (v1)), (2, .int (v2 + 1))]) [1, 2, 0] rfl ?_
          exact hP2 _ _ _ h f_l0
        · replace h := z_pos hc h
          refine zx_iconst (pc := 30) (v := 0) G (z_dec T_X12_isOut_ok 20 (30, .iconst 0, 1) rfl) rfl ?_
          exact zx_zret (pc := 31) G hr hlk (Nat.le_refl _) (Nat.le_refl _) (Or.inl rfl) (z_dec T_X12_isOut_ok 21 (31, .ireturn, 1) rfl) ⟨rfl, _, rfl, (Or.inl rfl), h⟩
set_option maxRecDepth 100000 in
set_option maxHeartbeats 4000000 in
theorem L_X12_isOut_2_ok {p : Program} {l : Launch} {e : Env} {s : State} {m : MethodId} {args : Array Value} {below : List Frame} {meth : Method} {c : Code} {D : va_G} {A : Nat → Prop} {ρ : z_A} {kd : z_K} {q : z_Q} {μ : z_M} {K : Int32 → z_M → Prop} {v1 : Int32} {v2 : Int32} (G : z_G p c cX12_isOut s m args RX12 3 D) (hr : meth.sig.returnType = (Option.some Jvm.ClassFile.FieldType.boolean)) (hlk : meth.locks = false) (hI : z_I kd q) (f_l0 : kd 0 = some (.inl 12)) (h : L_X12_isOut_2 K v1 v2 μ) : z_X p l e rm_X12_isOut s m args below meth c 3 D A (MQ below (z_Qn D A ρ kd (z_Kz q K)) args s 0 0 A) 0 0 ρ kd q μ 2 [(0, .ref (0)), (1, .int (v1)), (2, .int (v2))] [] :=
  h (fun (v1 : Int32) (v2 : Int32) (μ : z_M) => (kd 0 = some (.inl 12)) → z_X p l e rm_X12_isOut s m args below meth c 3 D A (MQ below (z_Qn D A ρ kd (z_Kz q K)) args s 0 0 A) 0 0 ρ kd q μ 2 [(0, .ref (0)), (1, .int (v1)), (2, .int (v2))] []) (fun v1 v2 μ h f_l0 => B_X12_isOut_2_ok G hr hlk (fun _ _ _ h => h) hI f_l0 h) f_l0
set_option maxRecDepth 100000 in
set_option maxHeartbeats 4000000 in
theorem met_X12_isOut (l : Launch) (D : va_G) (ρ : z_A) (kd : z_K) (q : z_Q) (μ : z_M) (sz : Nat) (a1 : Int32) (K : Int32 → z_M → Prop) (hI : z_I kd q) (h_o : kd 0 = some (.inl 12)) (h : C_X12_isOut a1 μ K) : Met l yX12_isOut (z_ws yX12_isOut cX12_isOut 3 (Option.some Jvm.ClassFile.FieldType.boolean)) rm_X12_isOut (z_Pc D ρ kd q μ sz [.ref (0), .int (a1)]) (z_Qn D (z_Rg ρ sz) ρ kd (z_Kz q K)) 0 0 (z_Rg ρ sz) := by
  refine z_met (rm := rm_X12_isOut) (by decide) (Nat.le_of_ble_eq_true rfl) (fun p e s m args below meth c G hr hlk => ?_)
  unfold C_X12_isOut at h
  show z_X _ _ _ _ _ _ _ _ _ _ _ _ _ _ _ _ _ _ _ _ _ [(0, .ref (0)), (1, .int (a1))] _
  refine zx_iconst (pc := 0) (v := 0) G (z_dec T_X12_isOut_ok 0 (0, .iconst 0, 1) rfl) rfl ?_
  refine zx_istore_n (pc := 1) (lv' := [(2, .int ((0 : Int32))), (0, .ref (0)), (1, .int (a1))]) G rfl (Nat.le_of_ble_eq_true rfl) rfl (z_dec T_X12_isOut_ok 1 (1, .istore_n 2, 1) rfl) ?_
  refine zx_sub (lv' := [(0, .ref (0)), (1, .int (a1)), (2, .int ((0 : Int32)))]) [1, 2, 0] rfl ?_
  exact L_X12_isOut_2_ok G hr hlk hI h_o h
abbrev rm_X12_pays : Room := { frames := 5, cells := 0, slots := 0, locals := 118 }
set_option maxRecDepth 100000 in
set_option maxHeartbeats 4000000 in
theorem met_X12_pays (l : Launch) (D : va_G) (ρ : z_A) (kd : z_K) (q : z_Q) (μ : z_M) (sz : Nat) (a1 : Int32) (K : z_M → Prop) (hI : z_I kd q) (h_o : kd 0 = some (.inl 12)) (h : C_X12_pays a1 μ K) : Met l yX12_pays (z_ws yX12_pays cX12_pays 4 (Option.none : Option Jvm.ClassFile.FieldType)) rm_X12_pays (z_Pc D ρ kd q μ sz [.ref (0), .int (a1)]) (z_Qn D (z_Rg ρ sz) ρ kd (z_Kv q K)) 0 0 (z_Rg ρ sz) := by
  refine z_met (rm := rm_X12_pays) (by decide) (Nat.le_of_ble_eq_true rfl) (fun p e s m args below meth c G hr hlk => ?_)
  unfold C_X12_pays at h
  show z_X _ _ _ _ _ _ _ _ _ _ _ _ _ _ _ _ _ _ _ _ _ [(0, .ref (0)), (1, .int (a1))] _
  refine zx_aload_n (pc := 0) G (some (0)) 0 rfl rfl (z_dec T_X12_pays_ok 0 (0, .aload_n 0, 1) rfl) ?_
  refine zx_getF (pc := 1) (b := 21) G gf_RX12_54 rfl h_o (zq_12_20 hI h_o) (z_dec T_X12_pays_ok 1 (1, .getfield 54, 3) rfl) ?_
  refine zx_iload_n (pc := 4) G 1 rfl rfl (z_dec T_X12_pays_ok 2 (4, .iload_n 1, 1) rfl) ?_
  obtain ⟨c1, h⟩ := h
  refine zx_iald (pc := 5) G (zk_12_20 hI h_o) c1 (z_dec T_X12_pays_ok 3 (5, .iaload, 1) rfl) ?_
  refine zx_istore_n (pc := 6) (lv' := [(2, .int (μ.1 21 a1.toNatClampNeg)), (0, .ref (0)), (1, .int (a1))]) G rfl (Nat.le_of_ble_eq_true rfl) rfl (z_dec T_X12_pays_ok 4 (6, .istore_n 2, 1) rfl) ?_
  refine zx_aload_n (pc := 7) G (some (0)) 1 rfl rfl (z_dec T_X12_pays_ok 5 (7, .aload_n 0, 1) rfl) ?_
  refine zx_iload_n (pc := 8) G 2 rfl rfl (z_dec T_X12_pays_ok 6 (8, .iload_n 1, 1) rfl) ?_
  refine zx_callV_iN (pc := 9) (rm := rm_X12_backOf) G cw_RX12_423 ⟨Nat.le_of_ble_eq_true rfl, Nat.le_of_ble_eq_true rfl⟩ rfl rfl ⟨Nat.zero_le _, Nat.zero_le _⟩ h_o rfl (fun sz => (met_X12_backOf l D ρ kd q μ sz a1 _ hI h_o h)) rfl rfl (Nat.le_of_ble_eq_true rfl) (z_dec T_X12_pays_ok 7 (9, .invokevirtual 423, 3) rfl) (fun r3 μ2 hn => ?_)
  clear h
  have h := hn
  clear hn
  refine zx_istore_n (pc := 12) (lv' := [(3, .int (r3)), (2, .int (μ.1 21 a1.toNatClampNeg)), (0, .ref (0)), (1, .int (a1))]) G rfl (Nat.le_of_ble_eq_true rfl) rfl (z_dec T_X12_pays_ok 8 (12, .istore_n 3, 1) rfl) ?_
  refine zx_aload_n (pc := 13) G (some (0)) 2 rfl rfl (z_dec T_X12_pays_ok 9 (13, .aload_n 0, 1) rfl) ?_
  refine zx_getF (pc := 14) (b := 27) G gf_RX12_72 rfl h_o (zq_12_26 hI h_o) (z_dec T_X12_pays_ok 10 (14, .getfield 72, 3) rfl) ?_
  refine zx_iload_n (pc := 17) G 3 rfl rfl (z_dec T_X12_pays_ok 11 (17, .iload_n 1, 1) rfl) ?_
  refine zx_iconst (pc := 18) (v := 1) G (z_dec T_X12_pays_ok 12 (18, .iconst 1, 1) rfl) rfl ?_
  refine zx_zast (pc := 19) G (zk_12_26 hI h_o) c1 (z_dec T_X12_pays_ok 13 (19, .bastore, 1) rfl) ?_
  refine zx_aload_n (pc := 20) G (some (0)) 2 rfl rfl (z_dec T_X12_pays_ok 14 (20, .aload_n 0, 1) rfl) ?_
  refine zx_getF (pc := 21) (b := 16) G gf_RX12_39 rfl h_o (zq_12_15 hI h_o) (z_dec T_X12_pays_ok 15 (21, .getfield 39, 3) rfl) ?_
  refine zx_iload_n (pc := 24) G 1 rfl rfl (z_dec T_X12_pays_ok 16 (24, .iload_n 2, 1) rfl) ?_
  obtain ⟨c4, h⟩ := h
  refine zx_zald (pc := 25) G (zk_12_15 hI h_o) c4 (z_dec T_X12_pays_ok 17 (25, .baload, 1) rfl) ?_
  refine zx_if_eq (pc := 26) (tgt := 30) G rfl (z_dec T_X12_pays_ok 18 (26, .ifCond .eq 4, 3) rfl) (fun hc => ?_) (fun hc => ?_)
  · replace h := z_pos hc h
    refine zx_aload_n (pc := 30) G (some (0)) 2 rfl rfl (z_dec T_X12_pays_ok 20 (30, .aload_n 0, 1) rfl) ?_
    refine zx_getF (pc := 31) (b := 15) G gf_RX12_36 rfl h_o (zq_12_14 hI h_o) (z_dec T_X12_pays_ok 21 (31, .getfield 36, 3) rfl) ?_
    refine zx_iload_n (pc := 34) G 1 rfl rfl (z_dec T_X12_pays_ok 22 (34, .iload_n 2, 1) rfl) ?_
    refine zx_iald (pc := 35) G (zk_12_14 hI h_o) c4 (z_dec T_X12_pays_ok 23 (35, .iaload, 1) rfl) ?_
    refine zx_iload_n (pc := 36) G 0 rfl rfl (z_dec T_X12_pays_ok 24 (36, .iload_n 3, 1) rfl) ?_
    refine zx_icmp_ge (pc := 37) (tgt := 48) G rfl (z_dec T_X12_pays_ok 25 (37, .if_icmp .ge 11, 3) rfl) (fun hc => ?_) (fun hc => ?_)
    · replace h := z_pos hc h
      refine zx_aload_n (pc := 48) G (some (0)) 2 rfl rfl (z_dec T_X12_pays_ok 32 (48, .aload_n 0, 1) rfl) ?_
      refine zx_getF (pc := 49) (b := 15) G gf_RX12_36 rfl h_o (zq_12_14 hI h_o) (z_dec T_X12_pays_ok 33 (49, .getfield 36, 3) rfl) ?_
      refine zx_iload_n (pc := 52) G 1 rfl rfl (z_dec T_X12_pays_ok 34 (52, .iload_n 2, 1) rfl) ?_
      refine zx_dup2 (pc := 53) G rfl rfl (z_dec T_X12_pays_ok 35 (53, .dup2, 1) rfl) ?_
      refine zx_iald (pc := 54) G (zk_12_14 hI h_o) c4 (z_dec T_X12_pays_ok 36 (54, .iaload, 1) rfl) ?_
      refine zx_iload_n (pc := 55) G 0 rfl rfl (z_dec T_X12_pays_ok 37 (55, .iload_n 3, 1) rfl) ?_
      refine zx_isub (pc := 56) G  (z_dec T_X12_pays_ok 38 (56, .isub, 1) rfl) ?_
      refine zx_iast (pc := 57) G (zk_12_14 hI h_o) c4 (z_dec T_X12_pays_ok 39 (57, .iastore, 1) rfl) ?_
      refine zx_aload_n (pc := 58) G (some (0)) 2 rfl rfl (z_dec T_X12_pays_ok 40 (58, .aload_n 0, 1) rfl) ?_
      refine zx_getF (pc := 59) (b := 28) G gf_RX12_75 rfl h_o (zq_12_27 hI h_o) (z_dec T_X12_pays_ok 41 (59, .getfield 75, 3) rfl) ?_
      refine zx_iload_n (pc := 62) G 3 rfl rfl (z_dec T_X12_pays_ok 42 (62, .iload_n 1, 1) rfl) ?_
      refine zx_iconst (pc := 63) (v := 1) G (z_dec T_X12_pays_ok 43 (63, .iconst 1, 1) rfl) rfl ?_
      refine zx_zast (pc := 64) G (zk_12_27 hI h_o) c1 (z_dec T_X12_pays_ok 44 (64, .bastore, 1) rfl) ?_
      exact zx_vret (pc := 65) G hr hlk (Nat.le_refl _) (Nat.le_refl _) (z_dec T_X12_pays_ok 45 (65, .return_, 1) rfl) ⟨rfl, rfl, h⟩
    · replace h := z_neg hc h
      refine zx_aload_n (pc := 40) G (some (0)) 2 rfl rfl (z_dec T_X12_pays_ok 26 (40, .aload_n 0, 1) rfl) ?_
      refine zx_getF (pc := 41) (b := 16) G gf_RX12_39 rfl h_o (zq_12_15 hI h_o) (z_dec T_X12_pays_ok 27 (41, .getfield 39, 3) rfl) ?_
      refine zx_iload_n (pc := 44) G 1 rfl rfl (z_dec T_X12_pays_ok 28 (44, .iload_n 2, 1) rfl) ?_
      refine zx_iconst (pc := 45) (v := 1) G (z_dec T_X12_pays_ok 29 (45, .iconst 1, 1) rfl) rfl ?_
      refine zx_zast (pc := 46) G (zk_12_15 hI h_o) c4 (z_dec T_X12_pays_ok 30 (46, .bastore, 1) rfl) ?_
      exact zx_vret (pc := 47) G hr hlk (Nat.le_refl _) (Nat.le_refl _) (z_dec T_X12_pays_ok 31 (47, .return_, 1) rfl) ⟨rfl, rfl, h⟩
  · replace h := z_neg hc h
    exact zx_vret (pc := 29) G hr hlk (Nat.le_refl _) (Nat.le_refl _) (z_dec T_X12_pays_ok 19 (29, .return_, 1) rfl) ⟨rfl, rfl, h⟩
abbrev rm_X12_run : Room := { frames := 6, cells := 0, slots := 0, locals := 141 }
set_option maxRecDepth 100000 in
set_option maxHeartbeats 4000000 in
theorem B_X12_run_99_ok {p : Program} {l : Launch} {e : Env} {s : State} {m : MethodId} {args : Array Value} {below : List Frame} {meth : Method} {c : Code} {D : va_G} {A : Nat → Prop} {ρ : z_A} {kd : z_K} {q : z_Q} {μ : z_M} {K : Int32 → z_M → Prop} {P99 : Int32 → Int32 → z_M → Prop} {v5 : Int32} {v6 : Int32} (G : z_G p c cX12_run s m args RX12 7 D) (hr : meth.sig.returnType = (Option.some Jvm.ClassFile.FieldType.int)) (hlk : meth.locks = false) (hP99 : ∀ (v5 : Int32) (v6 : Int32) (μ : z_M), P99 v5 v6 μ → (kd 0 = some (.inl 12)) → z_X p l e rm_X12_run s m args below meth c 7 D A (MQ below (z_Qn D A ρ kd (z_Ki q K)) args s 0 0 A) 0 0 ρ kd q μ 99 [(0, .ref (0)), (5, .int (v5)), (6, .int (v6))] []) (hI : z_I kd q) (f_l0 : kd 0 = some (.inl 12)) (h : B_X12_run_99 K P99 v5 v6 μ) : z_X p l e rm_X12_run s m args below meth c 7 D A (MQ below (z_Qn D A ρ kd (z_Ki q K)) args s 0 0 A) 0 0 ρ kd q μ 99 [(0, .ref (0)), (5, .int (v5)), (6, .int (v6))] [] := by
    unfold B_X12_run_99 at h
    refine zx_iload (pc := 99) G 2 rfl (z_dec T_X12_run_ok 68 (99, .iload 6, 2) rfl) ?_
    refine zx_aload_n (pc := 101) G (some (0)) 0 rfl rfl (z_dec T_X12_run_ok 69 (101, .aload_n 0, 1) rfl) ?_
    refine zx_getI (pc := 102) G gf_RX12_196 rfl f_l0 (z_dec T_X12_run_ok 70 (102, .getfield 196, 3) rfl) ?_
    refine zx_icmp_ge (pc := 105) (tgt := 145) G rfl (z_dec T_X12_run_ok 71 (105, .if_icmp .ge 40, 3) rfl) (fun hc => ?_) (fun hc => ?_)
    · replace h := z_pos hc h
      refine zx_iload (pc := 145) G 1 rfl (z_dec T_X12_run_ok 88 (145, .iload 5, 2) rfl) ?_
      exact zx_iret (pc := 147) G hr hlk (Nat.le_refl _) (Nat.le_refl _) (z_dec T_X12_run_ok 89 (147, .ireturn, 1) rfl) ⟨rfl, _, rfl, h⟩
    · replace h := z_neg hc h
      refine zx_aload_n (pc := 108) G (some (0)) 0 rfl rfl (z_dec T_X12_run_ok 72 (108, .aload_n 0, 1) rfl) ?_
      refine zx_getF (pc := 109) (b := 27) G gf_RX12_72 rfl f_l0 (zq_12_26 hI f_l0) (z_dec T_X12_run_ok 73 (109, .getfield 72, 3) rfl) ?_
      refine zx_iload (pc := 112) G 2 rfl (z_dec T_X12_run_ok 74 (112, .iload 6, 2) rfl) ?_
      obtain ⟨c1, h⟩ := h
      refine zx_zald (pc := 114) G (zk_12_26 hI f_l0) c1 (z_dec T_X12_run_ok 75 (114, .baload, 1) rfl) ?_
      refine zx_if_ne (pc := 115) (tgt := 139) G rfl (z_dec T_X12_run_ok 76 (115, .ifCond .ne 24, 3) rfl) (fun hc => ?_) (fun hc => ?_)
      · replace h := z_neg hc h
        refine zx_iinc (pc := 139) (v := v6 + 1) (lv' := [(6, .int (v6 + 1)), (0, .ref (0)), (5, .int (v5))]) G 2 rfl (z_inc (by decide)) (Nat.le_of_ble_eq_true rfl) rfl (z_dec T_X12_run_ok 86 (139, .iinc 6 1, 3) rfl) ?_
        refine zx_goto (pc := 142) (tgt := 99) G rfl (z_dec T_X12_run_ok 87 (142, .goto (-43), 3) rfl) ?_
        refine zx_sub (lv' := [(0, .ref (0)), (5, .int (v5)), (6, .int (v6 + 1))]) [1, 2, 0] rfl ?_
        exact hP99 _ _ _ h f_l0
      · replace h := z_pos hc h
        refine zx_aload_n (pc := 118) G (some (0)) 0 rfl rfl (z_dec T_X12_run_ok 77 (118, .aload_n 0, 1) rfl) ?_
        refine zx_iload (pc := 119) G 2 rfl (z_dec T_X12_run_ok 78 (119, .iload 6, 2) rfl) ?_
        refine zx_callV_zN (pc := 121) (rm := rm_X12_isOut) G cw_RX12_426 ⟨Nat.le_of_ble_eq_true rfl, Nat.le_of_ble_eq_true rfl⟩ rfl rfl ⟨Nat.zero_le _, Nat.zero_le _⟩ f_l0 rfl (fun sz => (met_X12_isOut l D ρ kd q μ sz v6 _ hI f_l0 h)) rfl rfl (Nat.le_of_ble_eq_true rfl) (z_dec T_X12_run_ok 79 (121, .invokevirtual 426, 3) rfl) (fun r3 μ2 hzr3 hn => ?_)
        clear h
        have h := hn
        clear hn
        refine zx_if_ne (pc := 124) (tgt := 130) G rfl (z_dec T_X12_run_ok 80 (124, .ifCond .ne 6, 3) rfl) (fun hc => ?_) (fun hc => ?_)
        · replace h := z_neg hc h
          refine zx_aload_n (pc := 130) G (some (0)) 0 rfl rfl (z_dec T_X12_run_ok 82 (130, .aload_n 0, 1) rfl) ?_
          refine zx_iload (pc := 131) G 2 rfl (z_dec T_X12_run_ok 83 (131, .iload 6, 2) rfl) ?_
          refine zx_callV_vN (pc := 133) (rm := rm_X12_pays) G cw_RX12_429 ⟨Nat.le_of_ble_eq_true rfl, Nat.le_of_ble_eq_true rfl⟩ rfl rfl ⟨Nat.zero_le _, Nat.zero_le _⟩ f_l0 rfl (fun sz => (met_X12_pays l D ρ kd q μ2 sz v6 _ hI f_l0 h)) rfl rfl (Nat.le_of_ble_eq_true rfl) (z_dec T_X12_run_ok 84 (133, .invokevirtual 429, 3) rfl) (fun μ4 hn => ?_)
          clear h
          have h := hn
          clear hn
          refine zx_iinc (pc := 136) (v := v5 + 1) (lv' := [(5, .int (v5 + 1)), (0, .ref (0)), (6, .int (v6))]) G 1 rfl (z_inc (by decide)) (Nat.le_of_ble_eq_true rfl) rfl (z_dec T_X12_run_ok 85 (136, .iinc 5 1, 3) rfl) ?_
          refine zx_iinc (pc := 139) (v := v6 + 1) (lv' := [(6, .int (v6 + 1)), (5, .int (v5 + 1)), (0, .ref (0))]) G 2 rfl (z_inc (by decide)) (Nat.le_of_ble_eq_true rfl) rfl (z_dec T_X12_run_ok 86 (139, .iinc 6 1, 3) rfl) ?_
          refine zx_goto (pc := 142) (tgt := 99) G rfl (z_dec T_X12_run_ok 87 (142, .goto (-43), 3) rfl) ?_
          refine zx_sub (lv' := [(0, .ref (0)), (5, .int (v5 + 1)), (6, .int (v6 + 1))]) [2, 1, 0] rfl ?_
          exact hP99 _ _ _ h f_l0
        · replace h := z_pos hc h
          refine zx_goto (pc := 127) (tgt := 139) G rfl (z_dec T_X12_run_ok 81 (127, .goto 12, 3) rfl) ?_
          refine zx_iinc (pc := 139) (v := v6 + 1) (lv' := [(6, .int (v6 + 1)), (0, .ref (0)), (5, .int (v5))]) G 2 rfl (z_inc (by decide)) (Nat.le_of_ble_eq_true rfl) rfl (z_dec T_X12_run_ok 86 (139, .iinc 6 1, 3) rfl) ?_
          refine zx_goto (pc := 142) (tgt := 99) G rfl (z_dec T_X12_run_ok 87 (142, .goto (-43), 3) rfl) ?_
          refine zx_sub (lv' := [(0, .ref (0)), (5, .int (v5)), (6, .int (v6 + 1))]) [1, 2, 0] rfl ?_
          exact hP99 _ _ _ h f_l0
set_option maxRecDepth 100000 in
set_option maxHeartbeats 4000000 in
theorem L_X12_run_99_ok {p : Program} {l : Launch} {e : Env} {s : State} {m : MethodId} {args : Array Value} {below : List Frame} {meth : Method} {c : Code} {D : va_G} {A : Nat → Prop} {ρ : z_A} {kd : z_K} {q : z_Q} {μ : z_M} {K : Int32 → z_M → Prop} {v5 : Int32} {v6 : Int32} (G : z_G p c cX12_run s m args RX12 7 D) (hr : meth.sig.returnType = (Option.some Jvm.ClassFile.FieldType.int)) (hlk : meth.locks = false) (hI : z_I kd q) (f_l0 : kd 0 = some (.inl 12)) (h : L_X12_run_99 K v5 v6 μ) : z_X p l e rm_X12_run s m args below meth c 7 D A (MQ below (z_Qn D A ρ kd (z_Ki q K)) args s 0 0 A) 0 0 ρ kd q μ 99 [(0, .ref (0)), (5, .int (v5)), (6, .int (v6))] [] :=
  h (fun (v5 : Int32) (v6 : Int32) (μ : z_M) => (kd 0 = some (.inl 12)) → z_X p l e rm_X12_run s m args below meth c 7 D A (MQ below (z_Qn D A ρ kd (z_Ki q K)) args s 0 0 A) 0 0 ρ kd q μ 99 [(0, .ref (0)), (5, .int (v5)), (6, .int (v6))] []) (fun v5 v6 μ h f_l0 => B_X12_run_99_ok G hr hlk (fun _ _ _ h => h) hI f_l0 h) f_l0
set_option maxRecDepth 100000 in
set_option maxHeartbeats 4000000 in
theorem met_X12_run (l : Launch) (D : va_G) (ρ : z_A) (kd : z_K) (q : z_Q) (μ : z_M) (sz : Nat) (a1 : Int32) (a2 : Int32) (a3 : Int32) (K : Int32 → z_M → Prop) (hI : z_I kd q) (h_o : kd 0 = some (.inl 12)) (h : C_X12_run a1 a2 a3 μ K) : Met l yX12_run (z_ws yX12_run cX12_run 7 (Option.some Jvm.ClassFile.FieldType.int)) rm_X12_run (z_Pc D ρ kd q μ sz [.ref (0), .int (a1), .int (a2), .int (a3)]) (z_Qn D (z_Rg ρ sz) ρ kd (z_Ki q K)) 0 0 (z_Rg ρ sz) := by
  refine z_met (rm := rm_X12_run) (by decide) (Nat.le_of_ble_eq_true rfl) (fun p e s m args below meth c G hr hlk => ?_)
  unfold C_X12_run at h
  show z_X _ _ _ _ _ _ _ _ _ _ _ _ _ _ _ _ _ _ _ _ _ [(0, .ref (0)), (1, .int (a1)), (2, .int (a2)), (3, .int (a3))] _
  refine zx_aload_n (pc := 0) G (some (0)) 0 rfl rfl (z_dec T_X12_run_ok 0 (0, .aload_n 0, 1) rfl) ?_
  refine zx_iload_n (pc := 1) G 1 rfl rfl (z_dec T_X12_run_ok 1 (1, .iload_n 1, 1) rfl) ?_
  refine zx_callV_zN (pc := 2) (rm := rm_X12_isRace) G cw_RX12_147 ⟨Nat.le_of_ble_eq_true rfl, Nat.le_of_ble_eq_true rfl⟩ rfl rfl ⟨Nat.zero_le _, Nat.zero_le _⟩ h_o rfl (fun sz => (met_X12_isRace l D ρ kd q μ sz a1 _ hI h_o h)) rfl rfl (Nat.le_of_ble_eq_true rfl) (z_dec T_X12_run_ok 2 (2, .invokevirtual 147, 3) rfl) (fun r2 μ1 hzr2 hn => ?_)
  clear h
  have h := hn
  clear hn
  refine zx_if_eq (pc := 5) (tgt := 17) G rfl (z_dec T_X12_run_ok 3 (5, .ifCond .eq 12, 3) rfl) (fun hc => ?_) (fun hc => ?_)
  · replace h := z_pos hc h
    refine zx_iconst (pc := 17) (v := -1) G (z_dec T_X12_run_ok 9 (17, .iconst (-1), 1) rfl) rfl ?_
    exact zx_iret (pc := 18) G hr hlk (Nat.le_refl _) (Nat.le_refl _) (z_dec T_X12_run_ok 10 (18, .ireturn, 1) rfl) ⟨rfl, _, rfl, h⟩
  · replace h := z_neg hc h
    refine zx_aload_n (pc := 8) G (some (0)) 0 rfl rfl (z_dec T_X12_run_ok 4 (8, .aload_n 0, 1) rfl) ?_
    refine zx_getF (pc := 9) (b := 12) G gf_RX12_26 rfl h_o (zq_12_11 hI h_o) (z_dec T_X12_run_ok 5 (9, .getfield 26, 3) rfl) ?_
    refine zx_iload_n (pc := 12) G 1 rfl rfl (z_dec T_X12_run_ok 6 (12, .iload_n 1, 1) rfl) ?_
    obtain ⟨c3, h⟩ := h
    refine zx_zald (pc := 13) G (zk_12_11 hI h_o) c3 (z_dec T_X12_run_ok 7 (13, .baload, 1) rfl) ?_
    refine zx_if_eq (pc := 14) (tgt := 19) G rfl (z_dec T_X12_run_ok 8 (14, .ifCond .eq 5, 3) rfl) (fun hc => ?_) (fun hc => ?_)
    · replace h := z_pos hc h
      refine zx_iconst (pc := 19) (v := 1) G (z_dec T_X12_run_ok 11 (19, .iconst 1, 1) rfl) rfl ?_
      refine zx_aload_n (pc := 20) G (some (0)) 0 rfl rfl (z_dec T_X12_run_ok 12 (20, .aload_n 0, 1) rfl) ?_
      refine zx_getF (pc := 21) (b := 10) G gf_RX12_20 rfl h_o (zq_12_9 hI h_o) (z_dec T_X12_run_ok 13 (21, .getfield 20, 3) rfl) ?_
      refine zx_iload_n (pc := 24) G 1 rfl rfl (z_dec T_X12_run_ok 14 (24, .iload_n 1, 1) rfl) ?_
      refine zx_iald (pc := 25) G (zk_12_9 hI h_o) c3 (z_dec T_X12_run_ok 15 (25, .iaload, 1) rfl) ?_
      refine zx_ishl (pc := 26) G  (z_dec T_X12_run_ok 16 (26, .ishl, 1) rfl) ?_
      refine zx_iconst (pc := 27) (v := 1) G (z_dec T_X12_run_ok 17 (27, .iconst 1, 1) rfl) rfl ?_
      refine zx_isub (pc := 28) G  (z_dec T_X12_run_ok 18 (28, .isub, 1) rfl) ?_
      refine zx_aload_n (pc := 29) G (some (0)) 0 rfl rfl (z_dec T_X12_run_ok 19 (29, .aload_n 0, 1) rfl) ?_
      refine zx_getF (pc := 30) (b := 11) G gf_RX12_23 rfl h_o (zq_12_10 hI h_o) (z_dec T_X12_run_ok 20 (30, .getfield 23, 3) rfl) ?_
      refine zx_iload_n (pc := 33) G 1 rfl rfl (z_dec T_X12_run_ok 21 (33, .iload_n 1, 1) rfl) ?_
      refine zx_iald (pc := 34) G (zk_12_10 hI h_o) c3 (z_dec T_X12_run_ok 22 (34, .iaload, 1) rfl) ?_
      refine zx_iconst (pc := 35) (v := -1) G (z_dec T_X12_run_ok 23 (35, .iconst (-1), 1) rfl) rfl ?_
      refine zx_ixor (pc := 36) G  (z_dec T_X12_run_ok 24 (36, .ixor, 1) rfl) ?_
      refine zx_iand (pc := 37) G  (z_dec T_X12_run_ok 25 (37, .iand, 1) rfl) ?_
      refine zx_istore (pc := 38) (lv' := [(4, .int (((((1 : Int32)) <<< ((μ1.1 10 a1.toNatClampNeg) &&& 31)) - ((1 : Int32))) &&& ((μ1.1 11 a1.toNatClampNeg) ^^^ ((-1 : Int32))))), (0, .ref (0)), (1, .int (a1)), (2, .int (a2)), (3, .int (a3))]) G (Nat.le_of_ble_eq_true rfl) rfl (z_dec T_X12_run_ok 26 (38, .istore 4, 2) rfl) ?_
      refine zx_iload_n (pc := 40) G 3 rfl rfl (z_dec T_X12_run_ok 27 (40, .iload_n 2, 1) rfl) ?_
      refine zx_if_eq (pc := 41) (tgt := 70) G rfl (z_dec T_X12_run_ok 28 (41, .ifCond .eq 29, 3) rfl) (fun hc => ?_) (fun hc => ?_)
      · replace h := z_pos hc h
        refine zx_iconst (pc := 70) (v := -1) G (z_dec T_X12_run_ok 47 (70, .iconst (-1), 1) rfl) rfl ?_
        exact zx_iret (pc := 71) G hr hlk (Nat.le_refl _) (Nat.le_refl _) (z_dec T_X12_run_ok 48 (71, .ireturn, 1) rfl) ⟨rfl, _, rfl, h⟩
      · replace h := z_neg hc h
        refine zx_iload_n (pc := 44) G 3 rfl rfl (z_dec T_X12_run_ok 29 (44, .iload_n 2, 1) rfl) ?_
        refine zx_iload (pc := 45) G 0 rfl (z_dec T_X12_run_ok 30 (45, .iload 4, 2) rfl) ?_
        refine zx_iconst (pc := 47) (v := -1) G (z_dec T_X12_run_ok 31 (47, .iconst (-1), 1) rfl) rfl ?_
        refine zx_ixor (pc := 48) G  (z_dec T_X12_run_ok 32 (48, .ixor, 1) rfl) ?_
        refine zx_iand (pc := 49) G  (z_dec T_X12_run_ok 33 (49, .iand, 1) rfl) ?_
        refine zx_if_ne (pc := 50) (tgt := 70) G rfl (z_dec T_X12_run_ok 34 (50, .ifCond .ne 20, 3) rfl) (fun hc => ?_) (fun hc => ?_)
        · replace h := z_neg hc h
          refine zx_iconst (pc := 70) (v := -1) G (z_dec T_X12_run_ok 47 (70, .iconst (-1), 1) rfl) rfl ?_
          exact zx_iret (pc := 71) G hr hlk (Nat.le_refl _) (Nat.le_refl _) (z_dec T_X12_run_ok 48 (71, .ireturn, 1) rfl) ⟨rfl, _, rfl, h⟩
        · replace h := z_pos hc h
          refine zx_iload_n (pc := 53) G 4 rfl rfl (z_dec T_X12_run_ok 35 (53, .iload_n 3, 1) rfl) ?_
          refine zx_iload (pc := 54) G 0 rfl (z_dec T_X12_run_ok 36 (54, .iload 4, 2) rfl) ?_
          refine zx_iconst (pc := 56) (v := -1) G (z_dec T_X12_run_ok 37 (56, .iconst (-1), 1) rfl) rfl ?_
          refine zx_ixor (pc := 57) G  (z_dec T_X12_run_ok 38 (57, .ixor, 1) rfl) ?_
          refine zx_iand (pc := 58) G  (z_dec T_X12_run_ok 39 (58, .iand, 1) rfl) ?_
          refine zx_if_ne (pc := 59) (tgt := 70) G rfl (z_dec T_X12_run_ok 40 (59, .ifCond .ne 11, 3) rfl) (fun hc => ?_) (fun hc => ?_)
          · replace h := z_neg hc h
            refine zx_iconst (pc := 70) (v := -1) G (z_dec T_X12_run_ok 47 (70, .iconst (-1), 1) rfl) rfl ?_
            exact zx_iret (pc := 71) G hr hlk (Nat.le_refl _) (Nat.le_refl _) (z_dec T_X12_run_ok 48 (71, .ireturn, 1) rfl) ⟨rfl, _, rfl, h⟩
          · replace h := z_pos hc h
            refine zx_iload_n (pc := 62) G 3 rfl rfl (z_dec T_X12_run_ok 41 (62, .iload_n 2, 1) rfl) ?_
            refine zx_iload_n (pc := 63) G 4 rfl rfl (z_dec T_X12_run_ok 42 (63, .iload_n 3, 1) rfl) ?_
            refine zx_iconst (pc := 64) (v := -1) G (z_dec T_X12_run_ok 43 (64, .iconst (-1), 1) rfl) rfl ?_
            refine zx_ixor (pc := 65) G  (z_dec T_X12_run_ok 44 (65, .ixor, 1) rfl) ?_
            refine zx_iand (pc := 66) G  (z_dec T_X12_run_ok 45 (66, .iand, 1) rfl) ?_
            refine zx_if_eq (pc := 67) (tgt := 72) G rfl (z_dec T_X12_run_ok 46 (67, .ifCond .eq 5, 3) rfl) (fun hc => ?_) (fun hc => ?_)
            · replace h := z_pos hc h
              refine zx_aload_n (pc := 72) G (some (0)) 1 rfl rfl (z_dec T_X12_run_ok 49 (72, .aload_n 0, 1) rfl) ?_
              refine zx_getF (pc := 73) (b := 12) G gf_RX12_26 rfl h_o (zq_12_11 hI h_o) (z_dec T_X12_run_ok 50 (73, .getfield 26, 3) rfl) ?_
              refine zx_iload_n (pc := 76) G 2 rfl rfl (z_dec T_X12_run_ok 51 (76, .iload_n 1, 1) rfl) ?_
              refine zx_iconst (pc := 77) (v := 1) G (z_dec T_X12_run_ok 52 (77, .iconst 1, 1) rfl) rfl ?_
              refine zx_zast (pc := 78) G (zk_12_11 hI h_o) c3 (z_dec T_X12_run_ok 53 (78, .bastore, 1) rfl) ?_
              refine zx_aload_n (pc := 79) G (some (0)) 1 rfl rfl (z_dec T_X12_run_ok 54 (79, .aload_n 0, 1) rfl) ?_
              refine zx_getF (pc := 80) (b := 13) G gf_RX12_30 rfl h_o (zq_12_12 hI h_o) (z_dec T_X12_run_ok 55 (80, .getfield 30, 3) rfl) ?_
              refine zx_iload_n (pc := 83) G 2 rfl rfl (z_dec T_X12_run_ok 56 (83, .iload_n 1, 1) rfl) ?_
              refine zx_iload_n (pc := 84) G 3 rfl rfl (z_dec T_X12_run_ok 57 (84, .iload_n 2, 1) rfl) ?_
              refine zx_iast (pc := 85) G (zk_12_12 hI h_o) c3 (z_dec T_X12_run_ok 58 (85, .iastore, 1) rfl) ?_
              refine zx_aload_n (pc := 86) G (some (0)) 1 rfl rfl (z_dec T_X12_run_ok 59 (86, .aload_n 0, 1) rfl) ?_
              refine zx_getF (pc := 87) (b := 14) G gf_RX12_33 rfl h_o (zq_12_13 hI h_o) (z_dec T_X12_run_ok 60 (87, .getfield 33, 3) rfl) ?_
              refine zx_iload_n (pc := 90) G 2 rfl rfl (z_dec T_X12_run_ok 61 (90, .iload_n 1, 1) rfl) ?_
              refine zx_iload_n (pc := 91) G 4 rfl rfl (z_dec T_X12_run_ok 62 (91, .iload_n 3, 1) rfl) ?_
              refine zx_iast (pc := 92) G (zk_12_13 hI h_o) c3 (z_dec T_X12_run_ok 63 (92, .iastore, 1) rfl) ?_
              refine zx_iconst (pc := 93) (v := 0) G (z_dec T_X12_run_ok 64 (93, .iconst 0, 1) rfl) rfl ?_
              refine zx_istore (pc := 94) (lv' := [(5, .int ((0 : Int32))), (4, .int (((((1 : Int32)) <<< ((μ1.1 10 a1.toNatClampNeg) &&& 31)) - ((1 : Int32))) &&& ((μ1.1 11 a1.toNatClampNeg) ^^^ ((-1 : Int32))))), (0, .ref (0)), (1, .int (a1)), (2, .int (a2)), (3, .int (a3))]) G (Nat.le_of_ble_eq_true rfl) rfl (z_dec T_X12_run_ok 65 (94, .istore 5, 2) rfl) ?_
              refine zx_iconst (pc := 96) (v := 0) G (z_dec T_X12_run_ok 66 (96, .iconst 0, 1) rfl) rfl ?_
              refine zx_istore (pc := 97) (lv' := [(6, .int ((0 : Int32))), (5, .int ((0 : Int32))), (4, .int (((((1 : Int32)) <<< ((μ1.1 10 a1.toNatClampNeg) &&& 31)) - ((1 : Int32))) &&& ((μ1.1 11 a1.toNatClampNeg) ^^^ ((-1 : Int32))))), (0, .ref (0)), (1, .int (a1)), (2, .int (a2)), (3, .int (a3))]) G (Nat.le_of_ble_eq_true rfl) rfl (z_dec T_X12_run_ok 67 (97, .istore 6, 2) rfl) ?_
              refine zx_sub (lv' := [(0, .ref (0)), (5, .int ((0 : Int32))), (6, .int ((0 : Int32)))]) [3, 1, 0] rfl ?_
              exact L_X12_run_99_ok G hr hlk hI h_o h
            · replace h := z_neg hc h
              refine zx_iconst (pc := 70) (v := -1) G (z_dec T_X12_run_ok 47 (70, .iconst (-1), 1) rfl) rfl ?_
              exact zx_iret (pc := 71) G hr hlk (Nat.le_refl _) (Nat.le_refl _) (z_dec T_X12_run_ok 48 (71, .ireturn, 1) rfl) ⟨rfl, _, rfl, h⟩
    · replace h := z_neg hc h
      refine zx_iconst (pc := 17) (v := -1) G (z_dec T_X12_run_ok 9 (17, .iconst (-1), 1) rfl) rfl ?_
      exact zx_iret (pc := 18) G hr hlk (Nat.le_refl _) (Nat.le_refl _) (z_dec T_X12_run_ok 10 (18, .ireturn, 1) rfl) ⟨rfl, _, rfl, h⟩
abbrev rm_X12_isBet : Room := { frames := 1, cells := 0, slots := 0, locals := 25 }
set_option maxRecDepth 100000 in
set_option maxHeartbeats 4000000 in
theorem met_X12_isBet (l : Launch) (D : va_G) (ρ : z_A) (kd : z_K) (q : z_Q) (μ : z_M) (sz : Nat) (a1 : Int32) (K : Int32 → z_M → Prop) (hI : z_I kd q) (h_o : kd 0 = some (.inl 12)) (h : C_X12_isBet a1 μ K) : Met l yX12_isBet (z_ws yX12_isBet cX12_isBet 2 (Option.some Jvm.ClassFile.FieldType.boolean)) rm_X12_isBet (z_Pc D ρ kd q μ sz [.ref (0), .int (a1)]) (z_Qn D (z_Rg ρ sz) ρ kd (z_Kz q K)) 0 0 (z_Rg ρ sz) := by
  refine z_met (rm := rm_X12_isBet) (by decide) (Nat.le_of_ble_eq_true rfl) (fun p e s m args below meth c G hr hlk => ?_)
  unfold C_X12_isBet at h
  show z_X _ _ _ _ _ _ _ _ _ _ _ _ _ _ _ _ _ _ _ _ _ [(0, .ref (0)), (1, .int (a1))] _
  refine zx_iload_n (pc := 0) G 1 rfl rfl (z_dec T_X12_isBet_ok 0 (0, .iload_n 1, 1) rfl) ?_
  refine zx_i2l (pc := 1) G  (z_dec T_X12_isBet_ok 1 (1, .i2l, 1) rfl) ?_
  refine zx_lconst (pc := 2) (v := 0) G (z_dec T_X12_isBet_ok 2 (2, .lconst 0, 1) rfl) rfl ?_
  refine zx_aload_n (pc := 3) G (some (0)) 0 rfl rfl (z_dec T_X12_isBet_ok 3 (3, .aload_n 0, 1) rfl) ?_
  refine zx_getI (pc := 4) G gf_RX12_196 rfl h_o (z_dec T_X12_isBet_ok 4 (4, .getfield 196, 3) rfl) ?_
  refine zx_iconst (pc := 7) (v := 1) G (z_dec T_X12_isBet_ok 5 (7, .iconst 1, 1) rfl) rfl ?_
  refine zx_isub (pc := 8) G  (z_dec T_X12_isBet_ok 6 (8, .isub, 1) rfl) ?_
  refine zx_i2l (pc := 9) G  (z_dec T_X12_isBet_ok 7 (9, .i2l, 1) rfl) ?_
  refine zx_callS_zN (pc := 10) (rm := rm_X12_lies) G cw_RX12_140 ⟨Nat.le_of_ble_eq_true rfl, Nat.le_of_ble_eq_true rfl⟩ rfl rfl ⟨Nat.zero_le _, Nat.zero_le _⟩ (fun sz => (met_X12_lies l D ρ kd q μ sz a1.toInt64 ((0 : Int64)) (((μ.1 0 6) - ((1 : Int32))).toInt64) _ hI h)) rfl rfl (Nat.le_of_ble_eq_true rfl) (z_dec T_X12_isBet_ok 8 (10, .invokestatic 140, 3) rfl) (fun r2 μ1 hzr2 hn => ?_)
  clear h
  have h := hn
  clear hn
  exact zx_zret (pc := 13) G hr hlk (Nat.le_refl _) (Nat.le_refl _) hzr2 (z_dec T_X12_isBet_ok 9 (13, .ireturn, 1) rfl) ⟨rfl, _, rfl, hzr2, h⟩
abbrev rm_X12_has : Room := { frames := 5, cells := 0, slots := 0, locals := 118 }
set_option maxRecDepth 100000 in
set_option maxHeartbeats 4000000 in
theorem met_X12_has (l : Launch) (D : va_G) (ρ : z_A) (kd : z_K) (q : z_Q) (μ : z_M) (sz : Nat) (a1 : Int32) (a2 : Int32) (K : Int32 → z_M → Prop) (hI : z_I kd q) (h_o : kd 0 = some (.inl 12)) (h : C_X12_has a1 a2 μ K) : Met l yX12_has (z_ws yX12_has cX12_has 3 (Option.some Jvm.ClassFile.FieldType.int)) rm_X12_has (z_Pc D ρ kd q μ sz [.ref (0), .int (a1), .int (a2)]) (z_Qn D (z_Rg ρ sz) ρ kd (z_Ki q K)) 0 0 (z_Rg ρ sz) := by
  refine z_met (rm := rm_X12_has) (by decide) (Nat.le_of_ble_eq_true rfl) (fun p e s m args below meth c G hr hlk => ?_)
  unfold C_X12_has at h
  show z_X _ _ _ _ _ _ _ _ _ _ _ _ _ _ _ _ _ _ _ _ _ [(0, .ref (0)), (1, .int (a1)), (2, .int (a2))] _
  refine zx_aload_n (pc := 0) G (some (0)) 0 rfl rfl (z_dec T_X12_has_ok 0 (0, .aload_n 0, 1) rfl) ?_
  refine zx_iload_n (pc := 1) G 1 rfl rfl (z_dec T_X12_has_ok 1 (1, .iload_n 1, 1) rfl) ?_
  refine zx_callV_zN (pc := 2) (rm := rm_X12_isBet) G cw_RX12_432 ⟨Nat.le_of_ble_eq_true rfl, Nat.le_of_ble_eq_true rfl⟩ rfl rfl ⟨Nat.zero_le _, Nat.zero_le _⟩ h_o rfl (fun sz => (met_X12_isBet l D ρ kd q μ sz a1 _ hI h_o h)) rfl rfl (Nat.le_of_ble_eq_true rfl) (z_dec T_X12_has_ok 2 (2, .invokevirtual 432, 3) rfl) (fun r2 μ1 hzr2 hn => ?_)
  clear h
  have h := hn
  clear hn
  refine zx_if_eq (pc := 5) (tgt := 18) G rfl (z_dec T_X12_has_ok 3 (5, .ifCond .eq 13, 3) rfl) (fun hc => ?_) (fun hc => ?_)
  · replace h := z_pos hc h
    refine zx_iconst (pc := 18) (v := -1) G (z_dec T_X12_has_ok 10 (18, .iconst (-1), 1) rfl) rfl ?_
    exact zx_iret (pc := 19) G hr hlk (Nat.le_refl _) (Nat.le_refl _) (z_dec T_X12_has_ok 11 (19, .ireturn, 1) rfl) ⟨rfl, _, rfl, h⟩
  · replace h := z_neg hc h
    refine zx_iload_n (pc := 8) G 2 rfl rfl (z_dec T_X12_has_ok 4 (8, .iload_n 2, 1) rfl) ?_
    refine zx_i2l (pc := 9) G  (z_dec T_X12_has_ok 5 (9, .i2l, 1) rfl) ?_
    refine zx_lconst (pc := 10) (v := 0) G (z_dec T_X12_has_ok 6 (10, .lconst 0, 1) rfl) rfl ?_
    refine zx_lconst (pc := 11) (v := 1) G (z_dec T_X12_has_ok 7 (11, .lconst 1, 1) rfl) rfl ?_
    refine zx_callS_zN (pc := 12) (rm := rm_X12_lies) G cw_RX12_140 ⟨Nat.le_of_ble_eq_true rfl, Nat.le_of_ble_eq_true rfl⟩ rfl rfl ⟨Nat.zero_le _, Nat.zero_le _⟩ (fun sz => (met_X12_lies l D ρ kd q μ1 sz a2.toInt64 ((0 : Int64)) ((1 : Int64)) _ hI h)) rfl rfl (Nat.le_of_ble_eq_true rfl) (z_dec T_X12_has_ok 8 (12, .invokestatic 140, 3) rfl) (fun r4 μ3 hzr4 hn => ?_)
    clear h
    have h := hn
    clear hn
    refine zx_if_ne (pc := 15) (tgt := 20) G rfl (z_dec T_X12_has_ok 9 (15, .ifCond .ne 5, 3) rfl) (fun hc => ?_) (fun hc => ?_)
    · replace h := z_neg hc h
      refine zx_aload_n (pc := 20) G (some (0)) 0 rfl rfl (z_dec T_X12_has_ok 12 (20, .aload_n 0, 1) rfl) ?_
      refine zx_getF (pc := 21) (b := 27) G gf_RX12_72 rfl h_o (zq_12_26 hI h_o) (z_dec T_X12_has_ok 13 (21, .getfield 72, 3) rfl) ?_
      refine zx_iload_n (pc := 24) G 1 rfl rfl (z_dec T_X12_has_ok 14 (24, .iload_n 1, 1) rfl) ?_
      obtain ⟨c5, h⟩ := h
      refine zx_zald (pc := 25) G (zk_12_26 hI h_o) c5 (z_dec T_X12_has_ok 15 (25, .baload, 1) rfl) ?_
      refine zx_if_ne (pc := 26) (tgt := 32) G rfl (z_dec T_X12_has_ok 16 (26, .ifCond .ne 6, 3) rfl) (fun hc => ?_) (fun hc => ?_)
      · replace h := z_neg hc h
        refine zx_iload_n (pc := 32) G 2 rfl rfl (z_dec T_X12_has_ok 19 (32, .iload_n 2, 1) rfl) ?_
        refine zx_if_ne (pc := 33) (tgt := 44) G rfl (z_dec T_X12_has_ok 20 (33, .ifCond .ne 11, 3) rfl) (fun hc => ?_) (fun hc => ?_)
        · replace h := z_neg hc h
          refine zx_aload_n (pc := 44) G (some (0)) 0 rfl rfl (z_dec T_X12_has_ok 25 (44, .aload_n 0, 1) rfl) ?_
          refine zx_getF (pc := 45) (b := 28) G gf_RX12_75 rfl h_o (zq_12_27 hI h_o) (z_dec T_X12_has_ok 26 (45, .getfield 75, 3) rfl) ?_
          refine zx_iload_n (pc := 48) G 1 rfl rfl (z_dec T_X12_has_ok 27 (48, .iload_n 1, 1) rfl) ?_
          refine zx_zald (pc := 49) G (zk_12_27 hI h_o) c5 (z_dec T_X12_has_ok 28 (49, .baload, 1) rfl) ?_
          refine zx_if_eq (pc := 50) (tgt := 57) G rfl (z_dec T_X12_has_ok 29 (50, .ifCond .eq 7, 3) rfl) (fun hc => ?_) (fun hc => ?_)
          · replace h := z_pos hc h
            refine zx_iconst (pc := 57) (v := 0) G (z_dec T_X12_has_ok 32 (57, .iconst 0, 1) rfl) rfl ?_
            exact zx_iret (pc := 58) G hr hlk (Nat.le_refl _) (Nat.le_refl _) (z_dec T_X12_has_ok 33 (58, .ireturn, 1) rfl) ⟨rfl, _, rfl, h⟩
          · replace h := z_neg hc h
            refine zx_iconst (pc := 53) (v := 1) G (z_dec T_X12_has_ok 30 (53, .iconst 1, 1) rfl) rfl ?_
            refine zx_goto (pc := 54) (tgt := 58) G rfl (z_dec T_X12_has_ok 31 (54, .goto 4, 3) rfl) ?_
            exact zx_iret (pc := 58) G hr hlk (Nat.le_refl _) (Nat.le_refl _) (z_dec T_X12_has_ok 33 (58, .ireturn, 1) rfl) ⟨rfl, _, rfl, h⟩
        · replace h := z_pos hc h
          refine zx_aload_n (pc := 36) G (some (0)) 0 rfl rfl (z_dec T_X12_has_ok 21 (36, .aload_n 0, 1) rfl) ?_
          refine zx_iload_n (pc := 37) G 1 rfl rfl (z_dec T_X12_has_ok 22 (37, .iload_n 1, 1) rfl) ?_
          refine zx_callV_iN (pc := 38) (rm := rm_X12_backOf) G cw_RX12_423 ⟨Nat.le_of_ble_eq_true rfl, Nat.le_of_ble_eq_true rfl⟩ rfl rfl ⟨Nat.zero_le _, Nat.zero_le _⟩ h_o rfl (fun sz => (met_X12_backOf l D ρ kd q μ3 sz a1 _ hI h_o h)) rfl rfl (Nat.le_of_ble_eq_true rfl) (z_dec T_X12_has_ok 23 (38, .invokevirtual 423, 3) rfl) (fun r7 μ6 hn => ?_)
          clear h
          have h := hn
          clear hn
          refine zx_goto (pc := 41) (tgt := 58) G rfl (z_dec T_X12_has_ok 24 (41, .goto 17, 3) rfl) ?_
          exact zx_iret (pc := 58) G hr hlk (Nat.le_refl _) (Nat.le_refl _) (z_dec T_X12_has_ok 33 (58, .ireturn, 1) rfl) ⟨rfl, _, rfl, h⟩
      · replace h := z_pos hc h
        refine zx_bipush (pc := 29) (v := -2) G (z_dec T_X12_has_ok 17 (29, .bipush (-2), 2) rfl) rfl ?_
        exact zx_iret (pc := 31) G hr hlk (Nat.le_refl _) (Nat.le_refl _) (z_dec T_X12_has_ok 18 (31, .ireturn, 1) rfl) ⟨rfl, _, rfl, h⟩
    · replace h := z_pos hc h
      refine zx_iconst (pc := 18) (v := -1) G (z_dec T_X12_has_ok 10 (18, .iconst (-1), 1) rfl) rfl ?_
      exact zx_iret (pc := 19) G hr hlk (Nat.le_refl _) (Nat.le_refl _) (z_dec T_X12_has_ok 11 (19, .ireturn, 1) rfl) ⟨rfl, _, rfl, h⟩
abbrev rm_X12_deduction : Room := { frames := 2, cells := 0, slots := 0, locals := 47 }
set_option maxRecDepth 100000 in
set_option maxHeartbeats 4000000 in
theorem met_X12_deduction (l : Launch) (D : va_G) (ρ : z_A) (kd : z_K) (q : z_Q) (μ : z_M) (sz : Nat) (a1 : Int32) (K : Int32 → z_M → Prop) (hI : z_I kd q) (h_o : kd 0 = some (.inl 12)) (h : C_X12_deduction a1 μ K) : Met l yX12_deduction (z_ws yX12_deduction cX12_deduction 2 (Option.some Jvm.ClassFile.FieldType.int)) rm_X12_deduction (z_Pc D ρ kd q μ sz [.ref (0), .int (a1)]) (z_Qn D (z_Rg ρ sz) ρ kd (z_Ki q K)) 0 0 (z_Rg ρ sz) := by
  refine z_met (rm := rm_X12_deduction) (by decide) (Nat.le_of_ble_eq_true rfl) (fun p e s m args below meth c G hr hlk => ?_)
  unfold C_X12_deduction at h
  show z_X _ _ _ _ _ _ _ _ _ _ _ _ _ _ _ _ _ _ _ _ _ [(0, .ref (0)), (1, .int (a1))] _
  refine zx_aload_n (pc := 0) G (some (0)) 0 rfl rfl (z_dec T_X12_deduction_ok 0 (0, .aload_n 0, 1) rfl) ?_
  refine zx_iload_n (pc := 1) G 1 rfl rfl (z_dec T_X12_deduction_ok 1 (1, .iload_n 1, 1) rfl) ?_
  refine zx_callV_zN (pc := 2) (rm := rm_X12_isBet) G cw_RX12_432 ⟨Nat.le_of_ble_eq_true rfl, Nat.le_of_ble_eq_true rfl⟩ rfl rfl ⟨Nat.zero_le _, Nat.zero_le _⟩ h_o rfl (fun sz => (met_X12_isBet l D ρ kd q μ sz a1 _ hI h_o h)) rfl rfl (Nat.le_of_ble_eq_true rfl) (z_dec T_X12_deduction_ok 2 (2, .invokevirtual 432, 3) rfl) (fun r2 μ1 hzr2 hn => ?_)
  clear h
  have h := hn
  clear hn
  refine zx_if_eq (pc := 5) (tgt := 31) G rfl (z_dec T_X12_deduction_ok 3 (5, .ifCond .eq 26, 3) rfl) (fun hc => ?_) (fun hc => ?_)
  · replace h := z_pos hc h
    refine zx_iconst (pc := 31) (v := -1) G (z_dec T_X12_deduction_ok 17 (31, .iconst (-1), 1) rfl) rfl ?_
    exact zx_iret (pc := 32) G hr hlk (Nat.le_refl _) (Nat.le_refl _) (z_dec T_X12_deduction_ok 18 (32, .ireturn, 1) rfl) ⟨rfl, _, rfl, h⟩
  · replace h := z_neg hc h
    refine zx_aload_n (pc := 8) G (some (0)) 0 rfl rfl (z_dec T_X12_deduction_ok 4 (8, .aload_n 0, 1) rfl) ?_
    refine zx_getF (pc := 9) (b := 22) G gf_RX12_57 rfl h_o (zq_12_21 hI h_o) (z_dec T_X12_deduction_ok 5 (9, .getfield 57, 3) rfl) ?_
    refine zx_iload_n (pc := 12) G 1 rfl rfl (z_dec T_X12_deduction_ok 6 (12, .iload_n 1, 1) rfl) ?_
    obtain ⟨c3, h⟩ := h
    refine zx_iald (pc := 13) G (zk_12_21 hI h_o) c3 (z_dec T_X12_deduction_ok 7 (13, .iaload, 1) rfl) ?_
    refine zx_iconst (pc := 14) (v := 3) G (z_dec T_X12_deduction_ok 8 (14, .iconst 3, 1) rfl) rfl ?_
    refine zx_icmp_eq (pc := 15) (tgt := 31) G rfl (z_dec T_X12_deduction_ok 9 (15, .if_icmp .eq 16, 3) rfl) (fun hc => ?_) (fun hc => ?_)
    · replace h := z_pos hc h
      refine zx_iconst (pc := 31) (v := -1) G (z_dec T_X12_deduction_ok 17 (31, .iconst (-1), 1) rfl) rfl ?_
      exact zx_iret (pc := 32) G hr hlk (Nat.le_refl _) (Nat.le_refl _) (z_dec T_X12_deduction_ok 18 (32, .ireturn, 1) rfl) ⟨rfl, _, rfl, h⟩
    · replace h := z_neg hc h
      refine zx_aload_n (pc := 18) G (some (0)) 0 rfl rfl (z_dec T_X12_deduction_ok 10 (18, .aload_n 0, 1) rfl) ?_
      refine zx_iload_n (pc := 19) G 1 rfl rfl (z_dec T_X12_deduction_ok 11 (19, .iload_n 1, 1) rfl) ?_
      refine zx_aload_n (pc := 20) G (some (0)) 0 rfl rfl (z_dec T_X12_deduction_ok 12 (20, .aload_n 0, 1) rfl) ?_
      refine zx_iload_n (pc := 21) G 1 rfl rfl (z_dec T_X12_deduction_ok 13 (21, .iload_n 1, 1) rfl) ?_
      refine zx_callV_iN (pc := 22) (rm := rm_X12_raceOf) G cw_RX12_414 ⟨Nat.le_of_ble_eq_true rfl, Nat.le_of_ble_eq_true rfl⟩ rfl rfl ⟨Nat.zero_le _, Nat.zero_le _⟩ h_o rfl (fun sz => (met_X12_raceOf l D ρ kd q μ1 sz a1 _ hI h_o h)) rfl rfl (Nat.le_of_ble_eq_true rfl) (z_dec T_X12_deduction_ok 14 (22, .invokevirtual 414, 3) rfl) (fun r5 μ4 hn => ?_)
      clear h
      have h := hn
      clear hn
      refine zx_callV_iN (pc := 25) (rm := rm_X12_deductionOf) G cw_RX12_399 ⟨Nat.le_of_ble_eq_true rfl, Nat.le_of_ble_eq_true rfl⟩ rfl rfl ⟨Nat.zero_le _, Nat.zero_le _⟩ h_o rfl (fun sz => (met_X12_deductionOf l D ρ kd q μ4 sz a1 r5 _ hI h_o h)) rfl rfl (Nat.le_of_ble_eq_true rfl) (z_dec T_X12_deduction_ok 15 (25, .invokevirtual 399, 3) rfl) (fun r7 μ6 hn => ?_)
      clear h
      have h := hn
      clear hn
      refine zx_goto (pc := 28) (tgt := 32) G rfl (z_dec T_X12_deduction_ok 16 (28, .goto 4, 3) rfl) ?_
      exact zx_iret (pc := 32) G hr hlk (Nat.le_refl _) (Nat.le_refl _) (z_dec T_X12_deduction_ok 18 (32, .ireturn, 1) rfl) ⟨rfl, _, rfl, h⟩
abbrev rm_X12_bookIs : Room := { frames := 2, cells := 0, slots := 0, locals := 46 }
set_option maxRecDepth 100000 in
set_option maxHeartbeats 4000000 in
theorem B_X12_bookIs_15_ok {p : Program} {l : Launch} {e : Env} {s : State} {m : MethodId} {args : Array Value} {below : List Frame} {meth : Method} {c : Code} {D : va_G} {A : Nat → Prop} {ρ : z_A} {kd : z_K} {q : z_Q} {μ : z_M} {K : Int32 → z_M → Prop} {P15 : Int32 → Int32 → Int32 → Int32 → z_M → Prop} {v1 : Int32} {v2 : Int32} {v3 : Int32} {v4 : Int32} (G : z_G p c cX12_bookIs s m args RX12 5 D) (hr : meth.sig.returnType = (Option.some Jvm.ClassFile.FieldType.int)) (hlk : meth.locks = false) (hP15 : ∀ (v1 : Int32) (v2 : Int32) (v3 : Int32) (v4 : Int32) (μ : z_M), P15 v1 v2 v3 v4 μ → (kd 0 = some (.inl 12)) → z_X p l e rm_X12_bookIs s m args below meth c 5 D A (MQ below (z_Qn D A ρ kd (z_Ki q K)) args s 0 0 A) 0 0 ρ kd q μ 15 [(0, .ref (0)), (1, .int (v1)), (2, .int (v2)), (3, .int (v3)), (4, .int (v4))] []) (hI : z_I kd q) (f_l0 : kd 0 = some (.inl 12)) (h : B_X12_bookIs_15 K P15 v1 v2 v3 v4 μ) : z_X p l e rm_X12_bookIs s m args below meth c 5 D A (MQ below (z_Qn D A ρ kd (z_Ki q K)) args s 0 0 A) 0 0 ρ kd q μ 15 [(0, .ref (0)), (1, .int (v1)), (2, .int (v2)), (3, .int (v3)), (4, .int (v4))] [] := by
    unfold B_X12_bookIs_15 at h
    refine zx_iload (pc := 15) G 4 rfl (z_dec T_X12_bookIs_ok 10 (15, .iload 4, 2) rfl) ?_
    refine zx_aload_n (pc := 17) G (some (0)) 0 rfl rfl (z_dec T_X12_bookIs_ok 11 (17, .aload_n 0, 1) rfl) ?_
    refine zx_getI (pc := 18) G gf_RX12_196 rfl f_l0 (z_dec T_X12_bookIs_ok 12 (18, .getfield 196, 3) rfl) ?_
    refine zx_icmp_ge (pc := 21) (tgt := 49) G rfl (z_dec T_X12_bookIs_ok 13 (21, .if_icmp .ge 28, 3) rfl) (fun hc => ?_) (fun hc => ?_)
    · replace h := z_pos hc h
      refine zx_iload_n (pc := 49) G 2 rfl rfl (z_dec T_X12_bookIs_ok 28 (49, .iload_n 2, 1) rfl) ?_
      refine zx_if_ne (pc := 50) (tgt := 62) G rfl (z_dec T_X12_bookIs_ok 29 (50, .ifCond .ne 12, 3) rfl) (fun hc => ?_) (fun hc => ?_)
      · replace h := z_neg hc h
        refine zx_iload_n (pc := 62) G 2 rfl rfl (z_dec T_X12_bookIs_ok 35 (62, .iload_n 2, 1) rfl) ?_
        refine zx_iconst (pc := 63) (v := 1) G (z_dec T_X12_bookIs_ok 36 (63, .iconst 1, 1) rfl) rfl ?_
        refine zx_icmp_ne (pc := 64) (tgt := 84) G rfl (z_dec T_X12_bookIs_ok 37 (64, .if_icmp .ne 20, 3) rfl) (fun hc => ?_) (fun hc => ?_)
        · replace h := z_neg hc h
          refine zx_iload_n (pc := 84) G 2 rfl rfl (z_dec T_X12_bookIs_ok 47 (84, .iload_n 2, 1) rfl) ?_
          refine zx_iconst (pc := 85) (v := 2) G (z_dec T_X12_bookIs_ok 48 (85, .iconst 2, 1) rfl) rfl ?_
          refine zx_icmp_ne (pc := 86) (tgt := 93) G rfl (z_dec T_X12_bookIs_ok 49 (86, .if_icmp .ne 7, 3) rfl) (fun hc => ?_) (fun hc => ?_)
          · replace h := z_neg hc h
            refine zx_iconst (pc := 93) (v := -1) G (z_dec T_X12_bookIs_ok 52 (93, .iconst (-1), 1) rfl) rfl ?_
            exact zx_iret (pc := 94) G hr hlk (Nat.le_refl _) (Nat.le_refl _) (z_dec T_X12_bookIs_ok 53 (94, .ireturn, 1) rfl) ⟨rfl, _, rfl, h⟩
          · replace h := z_pos hc h
            refine zx_iload_n (pc := 89) G 3 rfl rfl (z_dec T_X12_bookIs_ok 50 (89, .iload_n 3, 1) rfl) ?_
            refine zx_goto (pc := 90) (tgt := 94) G rfl (z_dec T_X12_bookIs_ok 51 (90, .goto 4, 3) rfl) ?_
            exact zx_iret (pc := 94) G hr hlk (Nat.le_refl _) (Nat.le_refl _) (z_dec T_X12_bookIs_ok 53 (94, .ireturn, 1) rfl) ⟨rfl, _, rfl, h⟩
        · replace h := z_pos hc h
          refine zx_aload_n (pc := 67) G (some (0)) 0 rfl rfl (z_dec T_X12_bookIs_ok 38 (67, .aload_n 0, 1) rfl) ?_
          refine zx_getF (pc := 68) (b := 16) G gf_RX12_39 rfl f_l0 (zq_12_15 hI f_l0) (z_dec T_X12_bookIs_ok 39 (68, .getfield 39, 3) rfl) ?_
          refine zx_iload_n (pc := 71) G 1 rfl rfl (z_dec T_X12_bookIs_ok 40 (71, .iload_n 1, 1) rfl) ?_
          obtain ⟨c1, h⟩ := h
          refine zx_zald (pc := 72) G (zk_12_15 hI f_l0) c1 (z_dec T_X12_bookIs_ok 41 (72, .baload, 1) rfl) ?_
          refine zx_if_eq (pc := 73) (tgt := 80) G rfl (z_dec T_X12_bookIs_ok 42 (73, .ifCond .eq 7, 3) rfl) (fun hc => ?_) (fun hc => ?_)
          · replace h := z_pos hc h
            refine zx_iconst (pc := 80) (v := 0) G (z_dec T_X12_bookIs_ok 45 (80, .iconst 0, 1) rfl) rfl ?_
            refine zx_goto (pc := 81) (tgt := 94) G rfl (z_dec T_X12_bookIs_ok 46 (81, .goto 13, 3) rfl) ?_
            exact zx_iret (pc := 94) G hr hlk (Nat.le_refl _) (Nat.le_refl _) (z_dec T_X12_bookIs_ok 53 (94, .ireturn, 1) rfl) ⟨rfl, _, rfl, h⟩
          · replace h := z_neg hc h
            refine zx_iconst (pc := 76) (v := 1) G (z_dec T_X12_bookIs_ok 43 (76, .iconst 1, 1) rfl) rfl ?_
            refine zx_goto (pc := 77) (tgt := 94) G rfl (z_dec T_X12_bookIs_ok 44 (77, .goto 17, 3) rfl) ?_
            exact zx_iret (pc := 94) G hr hlk (Nat.le_refl _) (Nat.le_refl _) (z_dec T_X12_bookIs_ok 53 (94, .ireturn, 1) rfl) ⟨rfl, _, rfl, h⟩
      · replace h := z_pos hc h
        refine zx_aload_n (pc := 53) G (some (0)) 0 rfl rfl (z_dec T_X12_bookIs_ok 30 (53, .aload_n 0, 1) rfl) ?_
        refine zx_getF (pc := 54) (b := 15) G gf_RX12_36 rfl f_l0 (zq_12_14 hI f_l0) (z_dec T_X12_bookIs_ok 31 (54, .getfield 36, 3) rfl) ?_
        refine zx_iload_n (pc := 57) G 1 rfl rfl (z_dec T_X12_bookIs_ok 32 (57, .iload_n 1, 1) rfl) ?_
        obtain ⟨c2, h⟩ := h
        refine zx_iald (pc := 58) G (zk_12_14 hI f_l0) c2 (z_dec T_X12_bookIs_ok 33 (58, .iaload, 1) rfl) ?_
        refine zx_goto (pc := 59) (tgt := 94) G rfl (z_dec T_X12_bookIs_ok 34 (59, .goto 35, 3) rfl) ?_
        exact zx_iret (pc := 94) G hr hlk (Nat.le_refl _) (Nat.le_refl _) (z_dec T_X12_bookIs_ok 53 (94, .ireturn, 1) rfl) ⟨rfl, _, rfl, h⟩
    · replace h := z_neg hc h
      refine zx_iload_n (pc := 24) G 3 rfl rfl (z_dec T_X12_bookIs_ok 14 (24, .iload_n 3, 1) rfl) ?_
      refine zx_aload_n (pc := 25) G (some (0)) 0 rfl rfl (z_dec T_X12_bookIs_ok 15 (25, .aload_n 0, 1) rfl) ?_
      refine zx_getF (pc := 26) (b := 21) G gf_RX12_54 rfl f_l0 (zq_12_20 hI f_l0) (z_dec T_X12_bookIs_ok 16 (26, .getfield 54, 3) rfl) ?_
      refine zx_iload (pc := 29) G 4 rfl (z_dec T_X12_bookIs_ok 17 (29, .iload 4, 2) rfl) ?_
      obtain ⟨c3, h⟩ := h
      refine zx_iald (pc := 31) G (zk_12_20 hI f_l0) c3 (z_dec T_X12_bookIs_ok 18 (31, .iaload, 1) rfl) ?_
      refine zx_iload_n (pc := 32) G 1 rfl rfl (z_dec T_X12_bookIs_ok 19 (32, .iload_n 1, 1) rfl) ?_
      refine zx_icmp_ne (pc := 33) (tgt := 40) G rfl (z_dec T_X12_bookIs_ok 20 (33, .if_icmp .ne 7, 3) rfl) (fun hc => ?_) (fun hc => ?_)
      · replace h := z_neg hc h
        refine zx_iconst (pc := 40) (v := 0) G (z_dec T_X12_bookIs_ok 23 (40, .iconst 0, 1) rfl) rfl ?_
        refine zx_iadd (pc := 41) G  (z_dec T_X12_bookIs_ok 24 (41, .iadd, 1) rfl) ?_
        refine zx_istore_n (pc := 42) (lv' := [(3, .int (v3 + ((0 : Int32)))), (0, .ref (0)), (1, .int (v1)), (2, .int (v2)), (4, .int (v4))]) G rfl (Nat.le_of_ble_eq_true rfl) rfl (z_dec T_X12_bookIs_ok 25 (42, .istore_n 3, 1) rfl) ?_
        refine zx_iinc (pc := 43) (v := v4 + 1) (lv' := [(4, .int (v4 + 1)), (3, .int (v3 + ((0 : Int32)))), (0, .ref (0)), (1, .int (v1)), (2, .int (v2))]) G 4 rfl (z_inc (by decide)) (Nat.le_of_ble_eq_true rfl) rfl (z_dec T_X12_bookIs_ok 26 (43, .iinc 4 1, 3) rfl) ?_
        refine zx_goto (pc := 46) (tgt := 15) G rfl (z_dec T_X12_bookIs_ok 27 (46, .goto (-31), 3) rfl) ?_
        refine zx_sub (lv' := [(0, .ref (0)), (1, .int (v1)), (2, .int (v2)), (3, .int (v3 + ((0 : Int32)))), (4, .int (v4 + 1))]) [2, 3, 4, 1, 0] rfl ?_
        exact hP15 _ _ _ _ _ h f_l0
      · replace h := z_pos hc h
        refine zx_iconst (pc := 36) (v := 1) G (z_dec T_X12_bookIs_ok 21 (36, .iconst 1, 1) rfl) rfl ?_
        refine zx_goto (pc := 37) (tgt := 41) G rfl (z_dec T_X12_bookIs_ok 22 (37, .goto 4, 3) rfl) ?_
        refine zx_iadd (pc := 41) G  (z_dec T_X12_bookIs_ok 24 (41, .iadd, 1) rfl) ?_
        refine zx_istore_n (pc := 42) (lv' := [(3, .int (v3 + ((1 : Int32)))), (0, .ref (0)), (1, .int (v1)), (2, .int (v2)), (4, .int (v4))]) G rfl (Nat.le_of_ble_eq_true rfl) rfl (z_dec T_X12_bookIs_ok 25 (42, .istore_n 3, 1) rfl) ?_
        refine zx_iinc (pc := 43) (v := v4 + 1) (lv' := [(4, .int (v4 + 1)), (3, .int (v3 + ((1 : Int32)))), (0, .ref (0)), (1, .int (v1)), (2, .int (v2))]) G 4 rfl (z_inc (by decide)) (Nat.le_of_ble_eq_true rfl) rfl (z_dec T_X12_bookIs_ok 26 (43, .iinc 4 1, 3) rfl) ?_
        refine zx_goto (pc := 46) (tgt := 15) G rfl (z_dec T_X12_bookIs_ok 27 (46, .goto (-31), 3) rfl) ?_
        refine zx_sub (lv' := [(0, .ref (0)), (1, .int (v1)), (2, .int (v2)), (3, .int (v3 + ((1 : Int32)))), (4, .int (v4 + 1))]) [2, 3, 4, 1, 0] rfl ?_
        exact hP15 _ _ _ _ _ h f_l0
set_option maxRecDepth 100000 in
set_option maxHeartbeats 4000000 in
theorem L_X12_bookIs_15_ok {p : Program} {l : Launch} {e : Env} {s : State} {m : MethodId} {args : Array Value} {below : List Frame} {meth : Method} {c : Code} {D : va_G} {A : Nat → Prop} {ρ : z_A} {kd : z_K} {q : z_Q} {μ : z_M} {K : Int32 → z_M → Prop} {v1 : Int32} {v2 : Int32} {v3 : Int32} {v4 : Int32} (G : z_G p c cX12_bookIs s m args RX12 5 D) (hr : meth.sig.returnType = (Option.some Jvm.ClassFile.FieldType.int)) (hlk : meth.locks = false) (hI : z_I kd q) (f_l0 : kd 0 = some (.inl 12)) (h : L_X12_bookIs_15 K v1 v2 v3 v4 μ) : z_X p l e rm_X12_bookIs s m args below meth c 5 D A (MQ below (z_Qn D A ρ kd (z_Ki q K)) args s 0 0 A) 0 0 ρ kd q μ 15 [(0, .ref (0)), (1, .int (v1)), (2, .int (v2)), (3, .int (v3)), (4, .int (v4))] [] :=
  h (fun (v1 : Int32) (v2 : Int32) (v3 : Int32) (v4 : Int32) (μ : z_M) => (kd 0 = some (.inl 12)) → z_X p l e rm_X12_bookIs s m args below meth c 5 D A (MQ below (z_Qn D A ρ kd (z_Ki q K)) args s 0 0 A) 0 0 ρ kd q μ 15 [(0, .ref (0)), (1, .int (v1)), (2, .int (v2)), (3, .int (v3)), (4, .int (v4))] []) (fun v1 v2 v3 v4 μ h f_l0 => B_X12_bookIs_15_ok G hr hlk (fun _ _ _ _ _ h => h) hI f_l0 h) f_l0
set_option maxRecDepth 100000 in
set_option maxHeartbeats 4000000 in
theorem met_X12_bookIs (l : Launch) (D : va_G) (ρ : z_A) (kd : z_K) (q : z_Q) (μ : z_M) (sz : Nat) (a1 : Int32) (a2 : Int32) (K : Int32 → z_M → Prop) (hI : z_I kd q) (h_o : kd 0 = some (.inl 12)) (h : C_X12_bookIs a1 a2 μ K) : Met l yX12_bookIs (z_ws yX12_bookIs cX12_bookIs 5 (Option.some Jvm.ClassFile.FieldType.int)) rm_X12_bookIs (z_Pc D ρ kd q μ sz [.ref (0), .int (a1), .int (a2)]) (z_Qn D (z_Rg ρ sz) ρ kd (z_Ki q K)) 0 0 (z_Rg ρ sz) := by
  refine z_met (rm := rm_X12_bookIs) (by decide) (Nat.le_of_ble_eq_true rfl) (fun p e s m args below meth c G hr hlk => ?_)
  unfold C_X12_bookIs at h
  show z_X _ _ _ _ _ _ _ _ _ _ _ _ _ _ _ _ _ _ _ _ _ [(0, .ref (0)), (1, .int (a1)), (2, .int (a2))] _
  refine zx_aload_n (pc := 0) G (some (0)) 0 rfl rfl (z_dec T_X12_bookIs_ok 0 (0, .aload_n 0, 1) rfl) ?_
  refine zx_iload_n (pc := 1) G 1 rfl rfl (z_dec T_X12_bookIs_ok 1 (1, .iload_n 1, 1) rfl) ?_
  refine zx_callV_zN (pc := 2) (rm := rm_X12_isBook) G cw_RX12_180 ⟨Nat.le_of_ble_eq_true rfl, Nat.le_of_ble_eq_true rfl⟩ rfl rfl ⟨Nat.zero_le _, Nat.zero_le _⟩ h_o rfl (fun sz => (met_X12_isBook l D ρ kd q μ sz a1 _ hI h_o h)) rfl rfl (Nat.le_of_ble_eq_true rfl) (z_dec T_X12_bookIs_ok 2 (2, .invokevirtual 180, 3) rfl) (fun r2 μ1 hzr2 hn => ?_)
  clear h
  have h := hn
  clear hn
  refine zx_if_ne (pc := 5) (tgt := 10) G rfl (z_dec T_X12_bookIs_ok 3 (5, .ifCond .ne 5, 3) rfl) (fun hc => ?_) (fun hc => ?_)
  · replace h := z_neg hc h
    refine zx_iconst (pc := 10) (v := 0) G (z_dec T_X12_bookIs_ok 6 (10, .iconst 0, 1) rfl) rfl ?_
    refine zx_istore_n (pc := 11) (lv' := [(3, .int ((0 : Int32))), (0, .ref (0)), (1, .int (a1)), (2, .int (a2))]) G rfl (Nat.le_of_ble_eq_true rfl) rfl (z_dec T_X12_bookIs_ok 7 (11, .istore_n 3, 1) rfl) ?_
    refine zx_iconst (pc := 12) (v := 0) G (z_dec T_X12_bookIs_ok 8 (12, .iconst 0, 1) rfl) rfl ?_
    refine zx_istore (pc := 13) (lv' := [(4, .int ((0 : Int32))), (3, .int ((0 : Int32))), (0, .ref (0)), (1, .int (a1)), (2, .int (a2))]) G (Nat.le_of_ble_eq_true rfl) rfl (z_dec T_X12_bookIs_ok 9 (13, .istore 4, 2) rfl) ?_
    refine zx_sub (lv' := [(0, .ref (0)), (1, .int (a1)), (2, .int (a2)), (3, .int ((0 : Int32))), (4, .int ((0 : Int32)))]) [2, 3, 4, 1, 0] rfl ?_
    exact L_X12_bookIs_15_ok G hr hlk hI h_o h
  · replace h := z_pos hc h
    refine zx_iconst (pc := 8) (v := -1) G (z_dec T_X12_bookIs_ok 4 (8, .iconst (-1), 1) rfl) rfl ?_
    exact zx_iret (pc := 9) G hr hlk (Nat.le_refl _) (Nat.le_refl _) (z_dec T_X12_bookIs_ok 5 (9, .ireturn, 1) rfl) ⟨rfl, _, rfl, h⟩
abbrev rm_X12_longest : Room := { frames := 1, cells := 0, slots := 0, locals := 22 }
set_option maxRecDepth 100000 in
set_option maxHeartbeats 4000000 in
theorem B_X12_longest_5_ok {p : Program} {l : Launch} {e : Env} {s : State} {m : MethodId} {args : Array Value} {below : List Frame} {meth : Method} {c : Code} {D : va_G} {A : Nat → Prop} {ρ : z_A} {kd : z_K} {q : z_Q} {μ : z_M} {K : Int32 → z_M → Prop} {P5 : Int32 → Int32 → Int32 → Int32 → z_M → Prop} {v1 : Int32} {v2 : Int32} {v3 : Int32} {v4 : Int32} (G : z_G p c cX12_longest s m args RX12 5 D) (hr : meth.sig.returnType = (Option.some Jvm.ClassFile.FieldType.int)) (hlk : meth.locks = false) (hP5 : ∀ (v1 : Int32) (v2 : Int32) (v3 : Int32) (v4 : Int32) (μ : z_M), P5 v1 v2 v3 v4 μ → (kd 0 = some (.inl 12)) → z_X p l e rm_X12_longest s m args below meth c 5 D A (MQ below (z_Qn D A ρ kd (z_Ki q K)) args s 0 0 A) 0 0 ρ kd q μ 5 [(0, .ref (0)), (1, .int (v1)), (2, .int (v2)), (3, .int (v3)), (4, .int (v4))] []) (hI : z_I kd q) (f_l0 : kd 0 = some (.inl 12)) (h : B_X12_longest_5 K P5 v1 v2 v3 v4 μ) : z_X p l e rm_X12_longest s m args below meth c 5 D A (MQ below (z_Qn D A ρ kd (z_Ki q K)) args s 0 0 A) 0 0 ρ kd q μ 5 [(0, .ref (0)), (1, .int (v1)), (2, .int (v2)), (3, .int (v3)), (4, .int (v4))] [] := by
    unfold B_X12_longest_5 at h
    refine zx_iload (pc := 5) G 4 rfl (z_dec T_X12_longest_ok 4 (5, .iload 4, 2) rfl) ?_
    refine zx_aload_n (pc := 7) G (some (0)) 0 rfl rfl (z_dec T_X12_longest_ok 5 (7, .aload_n 0, 1) rfl) ?_
    refine zx_getI (pc := 8) G gf_RX12_144 rfl f_l0 (z_dec T_X12_longest_ok 6 (8, .getfield 144, 3) rfl) ?_
    refine zx_icmp_ge (pc := 11) (tgt := 59) G rfl (z_dec T_X12_longest_ok 7 (11, .if_icmp .ge 48, 3) rfl) (fun hc => ?_) (fun hc => ?_)
    · replace h := z_pos hc h
      refine zx_iload_n (pc := 59) G 3 rfl rfl (z_dec T_X12_longest_ok 32 (59, .iload_n 3, 1) rfl) ?_
      exact zx_iret (pc := 60) G hr hlk (Nat.le_refl _) (Nat.le_refl _) (z_dec T_X12_longest_ok 33 (60, .ireturn, 1) rfl) ⟨rfl, _, rfl, h⟩
    · replace h := z_neg hc h
      refine zx_aload_n (pc := 14) G (some (0)) 0 rfl rfl (z_dec T_X12_longest_ok 8 (14, .aload_n 0, 1) rfl) ?_
      refine zx_getF (pc := 15) (b := 16) G gf_RX12_39 rfl f_l0 (zq_12_15 hI f_l0) (z_dec T_X12_longest_ok 9 (15, .getfield 39, 3) rfl) ?_
      refine zx_iload (pc := 18) G 4 rfl (z_dec T_X12_longest_ok 10 (18, .iload 4, 2) rfl) ?_
      obtain ⟨c1, h⟩ := h
      refine zx_zald (pc := 20) G (zk_12_15 hI f_l0) c1 (z_dec T_X12_longest_ok 11 (20, .baload, 1) rfl) ?_
      refine zx_if_ne (pc := 21) (tgt := 53) G rfl (z_dec T_X12_longest_ok 12 (21, .ifCond .ne 32, 3) rfl) (fun hc => ?_) (fun hc => ?_)
      · replace h := z_neg hc h
        refine zx_iinc (pc := 53) (v := v4 + 1) (lv' := [(4, .int (v4 + 1)), (0, .ref (0)), (1, .int (v1)), (2, .int (v2)), (3, .int (v3))]) G 4 rfl (z_inc (by decide)) (Nat.le_of_ble_eq_true rfl) rfl (z_dec T_X12_longest_ok 30 (53, .iinc 4 1, 3) rfl) ?_
        refine zx_goto (pc := 56) (tgt := 5) G rfl (z_dec T_X12_longest_ok 31 (56, .goto (-51), 3) rfl) ?_
        refine zx_sub (lv' := [(0, .ref (0)), (1, .int (v1)), (2, .int (v2)), (3, .int (v3)), (4, .int (v4 + 1))]) [1, 2, 3, 4, 0] rfl ?_
        exact hP5 _ _ _ _ _ h f_l0
      · replace h := z_pos hc h
        refine zx_aload_n (pc := 24) G (some (0)) 0 rfl rfl (z_dec T_X12_longest_ok 13 (24, .aload_n 0, 1) rfl) ?_
        refine zx_getF (pc := 25) (b := 17) G gf_RX12_42 rfl f_l0 (zq_12_16 hI f_l0) (z_dec T_X12_longest_ok 14 (25, .getfield 42, 3) rfl) ?_
        refine zx_iload (pc := 28) G 4 rfl (z_dec T_X12_longest_ok 15 (28, .iload 4, 2) rfl) ?_
        refine zx_iload_n (pc := 30) G 1 rfl rfl (z_dec T_X12_longest_ok 16 (30, .iload_n 1, 1) rfl) ?_
        refine zx_iload_n (pc := 31) G 2 rfl rfl (z_dec T_X12_longest_ok 17 (31, .iload_n 2, 1) rfl) ?_
        refine zx_callS_iN (pc := 32) (rm := rm_X12_cellOf) G cw_RX12_188 ⟨Nat.le_of_ble_eq_true rfl, Nat.le_of_ble_eq_true rfl⟩ rfl rfl ⟨Nat.zero_le _, Nat.zero_le _⟩ (fun sz => (met_X12_cellOf l D ρ kd q μ sz v4 v1 v2 _ hI h)) rfl rfl (Nat.le_of_ble_eq_true rfl) (z_dec T_X12_longest_ok 18 (32, .invokestatic 188, 3) rfl) (fun r3 μ2 hn => ?_)
        clear h
        have h := hn
        clear hn
        obtain ⟨c4, h⟩ := h
        refine zx_iald (pc := 35) G (zk_12_16 hI f_l0) c4 (z_dec T_X12_longest_ok 19 (35, .iaload, 1) rfl) ?_
        refine zx_iload_n (pc := 36) G 3 rfl rfl (z_dec T_X12_longest_ok 20 (36, .iload_n 3, 1) rfl) ?_
        refine zx_icmp_le (pc := 37) (tgt := 53) G rfl (z_dec T_X12_longest_ok 21 (37, .if_icmp .le 16, 3) rfl) (fun hc => ?_) (fun hc => ?_)
        · replace h := z_pos hc h
          refine zx_iinc (pc := 53) (v := v4 + 1) (lv' := [(4, .int (v4 + 1)), (0, .ref (0)), (1, .int (v1)), (2, .int (v2)), (3, .int (v3))]) G 4 rfl (z_inc (by decide)) (Nat.le_of_ble_eq_true rfl) rfl (z_dec T_X12_longest_ok 30 (53, .iinc 4 1, 3) rfl) ?_
          refine zx_goto (pc := 56) (tgt := 5) G rfl (z_dec T_X12_longest_ok 31 (56, .goto (-51), 3) rfl) ?_
          refine zx_sub (lv' := [(0, .ref (0)), (1, .int (v1)), (2, .int (v2)), (3, .int (v3)), (4, .int (v4 + 1))]) [1, 2, 3, 4, 0] rfl ?_
          exact hP5 _ _ _ _ _ h f_l0
        · replace h := z_neg hc h
          refine zx_aload_n (pc := 40) G (some (0)) 0 rfl rfl (z_dec T_X12_longest_ok 22 (40, .aload_n 0, 1) rfl) ?_
          refine zx_getF (pc := 41) (b := 17) G gf_RX12_42 rfl f_l0 (zq_12_16 hI f_l0) (z_dec T_X12_longest_ok 23 (41, .getfield 42, 3) rfl) ?_
          refine zx_iload (pc := 44) G 4 rfl (z_dec T_X12_longest_ok 24 (44, .iload 4, 2) rfl) ?_
          refine zx_iload_n (pc := 46) G 1 rfl rfl (z_dec T_X12_longest_ok 25 (46, .iload_n 1, 1) rfl) ?_
          refine zx_iload_n (pc := 47) G 2 rfl rfl (z_dec T_X12_longest_ok 26 (47, .iload_n 2, 1) rfl) ?_
          refine zx_callS_iN (pc := 48) (rm := rm_X12_cellOf) G cw_RX12_188 ⟨Nat.le_of_ble_eq_true rfl, Nat.le_of_ble_eq_true rfl⟩ rfl rfl ⟨Nat.zero_le _, Nat.zero_le _⟩ (fun sz => (met_X12_cellOf l D ρ kd q μ2 sz v4 v1 v2 _ hI h)) rfl rfl (Nat.le_of_ble_eq_true rfl) (z_dec T_X12_longest_ok 27 (48, .invokestatic 188, 3) rfl) (fun r6 μ5 hn => ?_)
          clear h
          have h := hn
          clear hn
          obtain ⟨c7, h⟩ := h
          refine zx_iald (pc := 51) G (zk_12_16 hI f_l0) c7 (z_dec T_X12_longest_ok 28 (51, .iaload, 1) rfl) ?_
          refine zx_istore_n (pc := 52) (lv' := [(3, .int (μ5.1 17 r6.toNatClampNeg)), (0, .ref (0)), (1, .int (v1)), (2, .int (v2)), (4, .int (v4))]) G rfl (Nat.le_of_ble_eq_true rfl) rfl (z_dec T_X12_longest_ok 29 (52, .istore_n 3, 1) rfl) ?_
          refine zx_iinc (pc := 53) (v := v4 + 1) (lv' := [(4, .int (v4 + 1)), (3, .int (μ5.1 17 r6.toNatClampNeg)), (0, .ref (0)), (1, .int (v1)), (2, .int (v2))]) G 4 rfl (z_inc (by decide)) (Nat.le_of_ble_eq_true rfl) rfl (z_dec T_X12_longest_ok 30 (53, .iinc 4 1, 3) rfl) ?_
          refine zx_goto (pc := 56) (tgt := 5) G rfl (z_dec T_X12_longest_ok 31 (56, .goto (-51), 3) rfl) ?_
          refine zx_sub (lv' := [(0, .ref (0)), (1, .int (v1)), (2, .int (v2)), (3, .int (μ5.1 17 r6.toNatClampNeg)), (4, .int (v4 + 1))]) [2, 3, 4, 1, 0] rfl ?_
          exact hP5 _ _ _ _ _ h f_l0
set_option maxRecDepth 100000 in
set_option maxHeartbeats 4000000 in
theorem L_X12_longest_5_ok {p : Program} {l : Launch} {e : Env} {s : State} {m : MethodId} {args : Array Value} {below : List Frame} {meth : Method} {c : Code} {D : va_G} {A : Nat → Prop} {ρ : z_A} {kd : z_K} {q : z_Q} {μ : z_M} {K : Int32 → z_M → Prop} {v1 : Int32} {v2 : Int32} {v3 : Int32} {v4 : Int32} (G : z_G p c cX12_longest s m args RX12 5 D) (hr : meth.sig.returnType = (Option.some Jvm.ClassFile.FieldType.int)) (hlk : meth.locks = false) (hI : z_I kd q) (f_l0 : kd 0 = some (.inl 12)) (h : L_X12_longest_5 K v1 v2 v3 v4 μ) : z_X p l e rm_X12_longest s m args below meth c 5 D A (MQ below (z_Qn D A ρ kd (z_Ki q K)) args s 0 0 A) 0 0 ρ kd q μ 5 [(0, .ref (0)), (1, .int (v1)), (2, .int (v2)), (3, .int (v3)), (4, .int (v4))] [] :=
  h (fun (v1 : Int32) (v2 : Int32) (v3 : Int32) (v4 : Int32) (μ : z_M) => (kd 0 = some (.inl 12)) → z_X p l e rm_X12_longest s m args below meth c 5 D A (MQ below (z_Qn D A ρ kd (z_Ki q K)) args s 0 0 A) 0 0 ρ kd q μ 5 [(0, .ref (0)), (1, .int (v1)), (2, .int (v2)), (3, .int (v3)), (4, .int (v4))] []) (fun v1 v2 v3 v4 μ h f_l0 => B_X12_longest_5_ok G hr hlk (fun _ _ _ _ _ h => h) hI f_l0 h) f_l0
set_option maxRecDepth 100000 in
set_option maxHeartbeats 4000000 in
theorem met_X12_longest (l : Launch) (D : va_G) (ρ : z_A) (kd : z_K) (q : z_Q) (μ : z_M) (sz : Nat) (a1 : Int32) (a2 : Int32) (K : Int32 → z_M → Prop) (hI : z_I kd q) (h_o : kd 0 = some (.inl 12)) (h : C_X12_longest a1 a2 μ K) : Met l yX12_longest (z_ws yX12_longest cX12_longest 5 (Option.some Jvm.ClassFile.FieldType.int)) rm_X12_longest (z_Pc D ρ kd q μ sz [.ref (0), .int (a1), .int (a2)]) (z_Qn D (z_Rg ρ sz) ρ kd (z_Ki q K)) 0 0 (z_Rg ρ sz) := by
  refine z_met (rm := rm_X12_longest) (by decide) (Nat.le_of_ble_eq_true rfl) (fun p e s m args below meth c G hr hlk => ?_)
  unfold C_X12_longest at h
  show z_X _ _ _ _ _ _ _ _ _ _ _ _ _ _ _ _ _ _ _ _ _ [(0, .ref (0)), (1, .int (a1)), (2, .int (a2))] _
  refine zx_iconst (pc := 0) (v := -1) G (z_dec T_X12_longest_ok 0 (0, .iconst (-1), 1) rfl) rfl ?_
  refine zx_istore_n (pc := 1) (lv' := [(3, .int ((-1 : Int32))), (0, .ref (0)), (1, .int (a1)), (2, .int (a2))]) G rfl (Nat.le_of_ble_eq_true rfl) rfl (z_dec T_X12_longest_ok 1 (1, .istore_n 3, 1) rfl) ?_
  refine zx_iconst (pc := 2) (v := 0) G (z_dec T_X12_longest_ok 2 (2, .iconst 0, 1) rfl) rfl ?_
  refine zx_istore (pc := 3) (lv' := [(4, .int ((0 : Int32))), (3, .int ((-1 : Int32))), (0, .ref (0)), (1, .int (a1)), (2, .int (a2))]) G (Nat.le_of_ble_eq_true rfl) rfl (z_dec T_X12_longest_ok 3 (3, .istore 4, 2) rfl) ?_
  refine zx_sub (lv' := [(0, .ref (0)), (1, .int (a1)), (2, .int (a2)), (3, .int ((-1 : Int32))), (4, .int ((0 : Int32)))]) [2, 3, 4, 1, 0] rfl ?_
  exact L_X12_longest_5_ok G hr hlk hI h_o h
abbrev rm_X12_isPriced : Room := { frames := 4, cells := 0, slots := 0, locals := 90 }
set_option maxRecDepth 100000 in
set_option maxHeartbeats 4000000 in
theorem B_X12_isPriced_2_ok {p : Program} {l : Launch} {e : Env} {s : State} {m : MethodId} {args : Array Value} {below : List Frame} {meth : Method} {c : Code} {D : va_G} {A : Nat → Prop} {ρ : z_A} {kd : z_K} {q : z_Q} {μ : z_M} {K : Int32 → z_M → Prop} {P2 : Int32 → Int32 → z_M → Prop} {v1 : Int32} {v2 : Int32} (G : z_G p c cX12_isPriced s m args RX12 3 D) (hr : meth.sig.returnType = (Option.some Jvm.ClassFile.FieldType.boolean)) (hlk : meth.locks = false) (hP2 : ∀ (v1 : Int32) (v2 : Int32) (μ : z_M), P2 v1 v2 μ → (kd 0 = some (.inl 12)) → z_X p l e rm_X12_isPriced s m args below meth c 3 D A (MQ below (z_Qn D A ρ kd (z_Kz q K)) args s 0 0 A) 0 0 ρ kd q μ 2 [(0, .ref (0)), (1, .int (v1)), (2, .int (v2))] []) (hI : z_I kd q) (f_l0 : kd 0 = some (.inl 12)) (h : B_X12_isPriced_2 K P2 v1 v2 μ) : z_X p l e rm_X12_isPriced s m args below meth c 3 D A (MQ below (z_Qn D A ρ kd (z_Kz q K)) args s 0 0 A) 0 0 ρ kd q μ 2 [(0, .ref (0)), (1, .int (v1)), (2, .int (v2))] [] := by
    unfold B_X12_isPriced_2 at h
    refine zx_iload_n (pc := 2) G 2 rfl rfl (z_dec T_X12_isPriced_ok 2 (2, .iload_n 2, 1) rfl) ?_
    refine zx_aload_n (pc := 3) G (some (0)) 0 rfl rfl (z_dec T_X12_isPriced_ok 3 (3, .aload_n 0, 1) rfl) ?_
    refine zx_getF (pc := 4) (b := 10) G gf_RX12_20 rfl f_l0 (zq_12_9 hI f_l0) (z_dec T_X12_isPriced_ok 4 (4, .getfield 20, 3) rfl) ?_
    refine zx_iload_n (pc := 7) G 1 rfl rfl (z_dec T_X12_isPriced_ok 5 (7, .iload_n 1, 1) rfl) ?_
    obtain ⟨c1, h⟩ := h
    refine zx_iald (pc := 8) G (zk_12_9 hI f_l0) c1 (z_dec T_X12_isPriced_ok 6 (8, .iaload, 1) rfl) ?_
    refine zx_icmp_ge (pc := 9) (tgt := 39) G rfl (z_dec T_X12_isPriced_ok 7 (9, .if_icmp .ge 30, 3) rfl) (fun hc => ?_) (fun hc => ?_)
    · replace h := z_pos hc h
      refine zx_iconst (pc := 39) (v := 1) G (z_dec T_X12_isPriced_ok 23 (39, .iconst 1, 1) rfl) rfl ?_
      exact zx_zret (pc := 40) G hr hlk (Nat.le_refl _) (Nat.le_refl _) (Or.inr rfl) (z_dec T_X12_isPriced_ok 24 (40, .ireturn, 1) rfl) ⟨rfl, _, rfl, (Or.inr rfl), h⟩
    · replace h := z_neg hc h
      refine zx_aload_n (pc := 12) G (some (0)) 0 rfl rfl (z_dec T_X12_isPriced_ok 8 (12, .aload_n 0, 1) rfl) ?_
      refine zx_iload_n (pc := 13) G 1 rfl rfl (z_dec T_X12_isPriced_ok 9 (13, .iload_n 1, 1) rfl) ?_
      refine zx_iload_n (pc := 14) G 2 rfl rfl (z_dec T_X12_isPriced_ok 10 (14, .iload_n 2, 1) rfl) ?_
      refine zx_callV_zN (pc := 15) (rm := rm_X12_runs) G cw_RX12_183 ⟨Nat.le_of_ble_eq_true rfl, Nat.le_of_ble_eq_true rfl⟩ rfl rfl ⟨Nat.zero_le _, Nat.zero_le _⟩ f_l0 rfl (fun sz => (met_X12_runs l D ρ kd q μ sz v1 v2 _ hI f_l0 h)) rfl rfl (Nat.le_of_ble_eq_true rfl) (z_dec T_X12_isPriced_ok 11 (15, .invokevirtual 183, 3) rfl) (fun r3 μ2 hzr3 hn => ?_)
      clear h
      have h := hn
      clear hn
      refine zx_if_eq (pc := 18) (tgt := 33) G rfl (z_dec T_X12_isPriced_ok 12 (18, .ifCond .eq 15, 3) rfl) (fun hc => ?_) (fun hc => ?_)
      · replace h := z_pos hc h
        refine zx_iinc (pc := 33) (v := v2 + 1) (lv' := [(2, .int (v2 + 1)), (0, .ref (0)), (1, .int (v1))]) G 2 rfl (z_inc (by decide)) (Nat.le_of_ble_eq_true rfl) rfl (z_dec T_X12_isPriced_ok 21 (33, .iinc 2 1, 3) rfl) ?_
        refine zx_goto (pc := 36) (tgt := 2) G rfl (z_dec T_X12_isPriced_ok 22 (36, .goto (-34), 3) rfl) ?_
        refine zx_sub (lv' := [(0, .ref (0)), (1, .int (v1)), (2, .int (v2 + 1))]) [1, 2, 0] rfl ?_
        exact hP2 _ _ _ h f_l0
      · replace h := z_neg hc h
        refine zx_aload_n (pc := 21) G (some (0)) 0 rfl rfl (z_dec T_X12_isPriced_ok 13 (21, .aload_n 0, 1) rfl) ?_
        refine zx_iload_n (pc := 22) G 1 rfl rfl (z_dec T_X12_isPriced_ok 14 (22, .iload_n 1, 1) rfl) ?_
        refine zx_iload_n (pc := 23) G 2 rfl rfl (z_dec T_X12_isPriced_ok 15 (23, .iload_n 2, 1) rfl) ?_
        refine zx_callV_iN (pc := 24) (rm := rm_X12_longest) G cw_RX12_435 ⟨Nat.le_of_ble_eq_true rfl, Nat.le_of_ble_eq_true rfl⟩ rfl rfl ⟨Nat.zero_le _, Nat.zero_le _⟩ f_l0 rfl (fun sz => (met_X12_longest l D ρ kd q μ2 sz v1 v2 _ hI f_l0 h)) rfl rfl (Nat.le_of_ble_eq_true rfl) (z_dec T_X12_isPriced_ok 16 (24, .invokevirtual 435, 3) rfl) (fun r5 μ4 hn => ?_)
        clear h
        have h := hn
        clear hn
        refine zx_iconst (pc := 27) (v := -1) G (z_dec T_X12_isPriced_ok 17 (27, .iconst (-1), 1) rfl) rfl ?_
        refine zx_icmp_ne (pc := 28) (tgt := 33) G rfl (z_dec T_X12_isPriced_ok 18 (28, .if_icmp .ne 5, 3) rfl) (fun hc => ?_) (fun hc => ?_)
        · replace h := z_neg hc h
          refine zx_iinc (pc := 33) (v := v2 + 1) (lv' := [(2, .int (v2 + 1)), (0, .ref (0)), (1, .int (v1))]) G 2 rfl (z_inc (by decide)) (Nat.le_of_ble_eq_true rfl) rfl (z_dec T_X12_isPriced_ok 21 (33, .iinc 2 1, 3) rfl) ?_
          refine zx_goto (pc := 36) (tgt := 2) G rfl (z_dec T_X12_isPriced_ok 22 (36, .goto (-34), 3) rfl) ?_
          refine zx_sub (lv' := [(0, .ref (0)), (1, .int (v1)), (2, .int (v2 + 1))]) [1, 2, 0] rfl ?_
          exact hP2 _ _ _ h f_l0
        · replace h := z_pos hc h
          refine zx_iconst (pc := 31) (v := 0) G (z_dec T_X12_isPriced_ok 19 (31, .iconst 0, 1) rfl) rfl ?_
          exact zx_zret (pc := 32) G hr hlk (Nat.le_refl _) (Nat.le_refl _) (Or.inl rfl) (z_dec T_X12_isPriced_ok 20 (32, .ireturn, 1) rfl) ⟨rfl, _, rfl, (Or.inl rfl), h⟩
set_option maxRecDepth 100000 in
set_option maxHeartbeats 4000000 in
theorem L_X12_isPriced_2_ok {p : Program} {l : Launch} {e : Env} {s : State} {m : MethodId} {args : Array Value} {below : List Frame} {meth : Method} {c : Code} {D : va_G} {A : Nat → Prop} {ρ : z_A} {kd : z_K} {q : z_Q} {μ : z_M} {K : Int32 → z_M → Prop} {v1 : Int32} {v2 : Int32} (G : z_G p c cX12_isPriced s m args RX12 3 D) (hr : meth.sig.returnType = (Option.some Jvm.ClassFile.FieldType.boolean)) (hlk : meth.locks = false) (hI : z_I kd q) (f_l0 : kd 0 = some (.inl 12)) (h : L_X12_isPriced_2 K v1 v2 μ) : z_X p l e rm_X12_isPriced s m args below meth c 3 D A (MQ below (z_Qn D A ρ kd (z_Kz q K)) args s 0 0 A) 0 0 ρ kd q μ 2 [(0, .ref (0)), (1, .int (v1)), (2, .int (v2))] [] :=
  h (fun (v1 : Int32) (v2 : Int32) (μ : z_M) => (kd 0 = some (.inl 12)) → z_X p l e rm_X12_isPriced s m args below meth c 3 D A (MQ below (z_Qn D A ρ kd (z_Kz q K)) args s 0 0 A) 0 0 ρ kd q μ 2 [(0, .ref (0)), (1, .int (v1)), (2, .int (v2))] []) (fun v1 v2 μ h f_l0 => B_X12_isPriced_2_ok G hr hlk (fun _ _ _ h => h) hI f_l0 h) f_l0
set_option maxRecDepth 100000 in
set_option maxHeartbeats 4000000 in
theorem met_X12_isPriced (l : Launch) (D : va_G) (ρ : z_A) (kd : z_K) (q : z_Q) (μ : z_M) (sz : Nat) (a1 : Int32) (K : Int32 → z_M → Prop) (hI : z_I kd q) (h_o : kd 0 = some (.inl 12)) (h : C_X12_isPriced a1 μ K) : Met l yX12_isPriced (z_ws yX12_isPriced cX12_isPriced 3 (Option.some Jvm.ClassFile.FieldType.boolean)) rm_X12_isPriced (z_Pc D ρ kd q μ sz [.ref (0), .int (a1)]) (z_Qn D (z_Rg ρ sz) ρ kd (z_Kz q K)) 0 0 (z_Rg ρ sz) := by
  refine z_met (rm := rm_X12_isPriced) (by decide) (Nat.le_of_ble_eq_true rfl) (fun p e s m args below meth c G hr hlk => ?_)
  unfold C_X12_isPriced at h
  show z_X _ _ _ _ _ _ _ _ _ _ _ _ _ _ _ _ _ _ _ _ _ [(0, .ref (0)), (1, .int (a1))] _
  refine zx_iconst (pc := 0) (v := 0) G (z_dec T_X12_isPriced_ok 0 (0, .iconst 0, 1) rfl) rfl ?_
  refine zx_istore_n (pc := 1) (lv' := [(2, .int ((0 : Int32))), (0, .ref (0)), (1, .int (a1))]) G rfl (Nat.le_of_ble_eq_true rfl) rfl (z_dec T_X12_isPriced_ok 1 (1, .istore_n 2, 1) rfl) ?_
  refine zx_sub (lv' := [(0, .ref (0)), (1, .int (a1)), (2, .int ((0 : Int32)))]) [1, 2, 0] rfl ?_
  exact L_X12_isPriced_2_ok G hr hlk hI h_o h
abbrev rm_X12_isSure : Room := { frames := 5, cells := 0, slots := 0, locals := 112 }
set_option maxRecDepth 100000 in
set_option maxHeartbeats 4000000 in
theorem B_X12_isSure_25_ok {p : Program} {l : Launch} {e : Env} {s : State} {m : MethodId} {args : Array Value} {below : List Frame} {meth : Method} {c : Code} {D : va_G} {A : Nat → Prop} {ρ : z_A} {kd : z_K} {q : z_Q} {μ : z_M} {K : Int32 → z_M → Prop} {P25 : Int32 → Int32 → z_M → Prop} {v1 : Int32} {v2 : Int32} (G : z_G p c cX12_isSure s m args RX12 3 D) (hr : meth.sig.returnType = (Option.some Jvm.ClassFile.FieldType.boolean)) (hlk : meth.locks = false) (hP25 : ∀ (v1 : Int32) (v2 : Int32) (μ : z_M), P25 v1 v2 μ → (kd 0 = some (.inl 12)) → z_X p l e rm_X12_isSure s m args below meth c 3 D A (MQ below (z_Qn D A ρ kd (z_Kz q K)) args s 0 0 A) 0 0 ρ kd q μ 25 [(0, .ref (0)), (1, .int (v1)), (2, .int (v2))] []) (hI : z_I kd q) (f_l0 : kd 0 = some (.inl 12)) (h : B_X12_isSure_25 K P25 v1 v2 μ) : z_X p l e rm_X12_isSure s m args below meth c 3 D A (MQ below (z_Qn D A ρ kd (z_Kz q K)) args s 0 0 A) 0 0 ρ kd q μ 25 [(0, .ref (0)), (1, .int (v1)), (2, .int (v2))] [] := by
    unfold B_X12_isSure_25 at h
    refine zx_iload_n (pc := 25) G 2 rfl rfl (z_dec T_X12_isSure_ok 15 (25, .iload_n 2, 1) rfl) ?_
    refine zx_aload_n (pc := 26) G (some (0)) 0 rfl rfl (z_dec T_X12_isSure_ok 16 (26, .aload_n 0, 1) rfl) ?_
    refine zx_getF (pc := 27) (b := 10) G gf_RX12_20 rfl f_l0 (zq_12_9 hI f_l0) (z_dec T_X12_isSure_ok 17 (27, .getfield 20, 3) rfl) ?_
    refine zx_iload_n (pc := 30) G 1 rfl rfl (z_dec T_X12_isSure_ok 18 (30, .iload_n 1, 1) rfl) ?_
    obtain ⟨c1, h⟩ := h
    refine zx_iald (pc := 31) G (zk_12_9 hI f_l0) c1 (z_dec T_X12_isSure_ok 19 (31, .iaload, 1) rfl) ?_
    refine zx_icmp_ge (pc := 32) (tgt := 60) G rfl (z_dec T_X12_isSure_ok 20 (32, .if_icmp .ge 28, 3) rfl) (fun hc => ?_) (fun hc => ?_)
    · replace h := z_pos hc h
      refine zx_aload_n (pc := 60) G (some (0)) 0 rfl rfl (z_dec T_X12_isSure_ok 34 (60, .aload_n 0, 1) rfl) ?_
      refine zx_getL (pc := 61) G gf_RX12_240 rfl f_l0 (z_dec T_X12_isSure_ok 35 (61, .getfield 240, 3) rfl) ?_
      refine zx_aload_n (pc := 64) G (some (0)) 0 rfl rfl (z_dec T_X12_isSure_ok 36 (64, .aload_n 0, 1) rfl) ?_
      refine zx_getL (pc := 65) G gf_RX12_244 rfl f_l0 (z_dec T_X12_isSure_ok 37 (65, .getfield 244, 3) rfl) ?_
      refine zx_lcmp_ge (pc := 68) (tgt := 76) G rfl (z_dec T_X12_isSure_ok 38 (68, .lcmp, 1) rfl) (z_dec T_X12_isSure_ok 39 (69, .ifCond .ge 7, 3) rfl) (fun hc => ?_) (fun hc => ?_)
      · replace h := z_pos hc h
        refine zx_iconst (pc := 76) (v := 0) G (z_dec T_X12_isSure_ok 42 (76, .iconst 0, 1) rfl) rfl ?_
        exact zx_zret (pc := 77) G hr hlk (Nat.le_refl _) (Nat.le_refl _) (Or.inl rfl) (z_dec T_X12_isSure_ok 43 (77, .ireturn, 1) rfl) ⟨rfl, _, rfl, (Or.inl rfl), h⟩
      · replace h := z_neg hc h
        refine zx_iconst (pc := 72) (v := 1) G (z_dec T_X12_isSure_ok 40 (72, .iconst 1, 1) rfl) rfl ?_
        refine zx_goto (pc := 73) (tgt := 77) G rfl (z_dec T_X12_isSure_ok 41 (73, .goto 4, 3) rfl) ?_
        exact zx_zret (pc := 77) G hr hlk (Nat.le_refl _) (Nat.le_refl _) (Or.inr rfl) (z_dec T_X12_isSure_ok 43 (77, .ireturn, 1) rfl) ⟨rfl, _, rfl, (Or.inr rfl), h⟩
    · replace h := z_neg hc h
      refine zx_aload_n (pc := 35) G (some (0)) 0 rfl rfl (z_dec T_X12_isSure_ok 21 (35, .aload_n 0, 1) rfl) ?_
      refine zx_iload_n (pc := 36) G 1 rfl rfl (z_dec T_X12_isSure_ok 22 (36, .iload_n 1, 1) rfl) ?_
      refine zx_iload_n (pc := 37) G 2 rfl rfl (z_dec T_X12_isSure_ok 23 (37, .iload_n 2, 1) rfl) ?_
      refine zx_callV_zN (pc := 38) (rm := rm_X12_runs) G cw_RX12_183 ⟨Nat.le_of_ble_eq_true rfl, Nat.le_of_ble_eq_true rfl⟩ rfl rfl ⟨Nat.zero_le _, Nat.zero_le _⟩ f_l0 rfl (fun sz => (met_X12_runs l D ρ kd q μ sz v1 v2 _ hI f_l0 h)) rfl rfl (Nat.le_of_ble_eq_true rfl) (z_dec T_X12_isSure_ok 24 (38, .invokevirtual 183, 3) rfl) (fun r3 μ2 hzr3 hn => ?_)
      clear h
      have h := hn
      clear hn
      refine zx_if_eq (pc := 41) (tgt := 54) G rfl (z_dec T_X12_isSure_ok 25 (41, .ifCond .eq 13, 3) rfl) (fun hc => ?_) (fun hc => ?_)
      · replace h := z_pos hc h
        refine zx_iinc (pc := 54) (v := v2 + 1) (lv' := [(2, .int (v2 + 1)), (0, .ref (0)), (1, .int (v1))]) G 2 rfl (z_inc (by decide)) (Nat.le_of_ble_eq_true rfl) rfl (z_dec T_X12_isSure_ok 32 (54, .iinc 2 1, 3) rfl) ?_
        refine zx_goto (pc := 57) (tgt := 25) G rfl (z_dec T_X12_isSure_ok 33 (57, .goto (-32), 3) rfl) ?_
        refine zx_sub (lv' := [(0, .ref (0)), (1, .int (v1)), (2, .int (v2 + 1))]) [1, 2, 0] rfl ?_
        exact hP25 _ _ _ h f_l0
      · replace h := z_neg hc h
        refine zx_aload_n (pc := 44) G (some (0)) 0 rfl rfl (z_dec T_X12_isSure_ok 26 (44, .aload_n 0, 1) rfl) ?_
        refine zx_aload_n (pc := 45) G (some (0)) 0 rfl rfl (z_dec T_X12_isSure_ok 27 (45, .aload_n 0, 1) rfl) ?_
        refine zx_iload_n (pc := 46) G 1 rfl rfl (z_dec T_X12_isSure_ok 28 (46, .iload_n 1, 1) rfl) ?_
        refine zx_iload_n (pc := 47) G 2 rfl rfl (z_dec T_X12_isSure_ok 29 (47, .iload_n 2, 1) rfl) ?_
        refine zx_callV_iN (pc := 48) (rm := rm_X12_longest) G cw_RX12_435 ⟨Nat.le_of_ble_eq_true rfl, Nat.le_of_ble_eq_true rfl⟩ rfl rfl ⟨Nat.zero_le _, Nat.zero_le _⟩ f_l0 rfl (fun sz => (met_X12_longest l D ρ kd q μ2 sz v1 v2 _ hI f_l0 h)) rfl rfl (Nat.le_of_ble_eq_true rfl) (z_dec T_X12_isSure_ok 30 (48, .invokevirtual 435, 3) rfl) (fun r5 μ4 hn => ?_)
        clear h
        have h := hn
        clear hn
        refine zx_callV_vN (pc := 51) (rm := rm_X12_adds) G cw_RX12_254 ⟨Nat.le_of_ble_eq_true rfl, Nat.le_of_ble_eq_true rfl⟩ rfl rfl ⟨Nat.zero_le _, Nat.zero_le _⟩ f_l0 rfl (fun sz => (met_X12_adds l D ρ kd q μ4 sz r5 _ hI f_l0 h)) rfl rfl (Nat.le_of_ble_eq_true rfl) (z_dec T_X12_isSure_ok 31 (51, .invokevirtual 254, 3) rfl) (fun μ6 hn => ?_)
        clear h
        have h := hn
        clear hn
        refine zx_iinc (pc := 54) (v := v2 + 1) (lv' := [(2, .int (v2 + 1)), (0, .ref (0)), (1, .int (v1))]) G 2 rfl (z_inc (by decide)) (Nat.le_of_ble_eq_true rfl) rfl (z_dec T_X12_isSure_ok 32 (54, .iinc 2 1, 3) rfl) ?_
        refine zx_goto (pc := 57) (tgt := 25) G rfl (z_dec T_X12_isSure_ok 33 (57, .goto (-32), 3) rfl) ?_
        refine zx_sub (lv' := [(0, .ref (0)), (1, .int (v1)), (2, .int (v2 + 1))]) [1, 2, 0] rfl ?_
        exact hP25 _ _ _ h f_l0
set_option maxRecDepth 100000 in
set_option maxHeartbeats 4000000 in
theorem L_X12_isSure_25_ok {p : Program} {l : Launch} {e : Env} {s : State} {m : MethodId} {args : Array Value} {below : List Frame} {meth : Method} {c : Code} {D : va_G} {A : Nat → Prop} {ρ : z_A} {kd : z_K} {q : z_Q} {μ : z_M} {K : Int32 → z_M → Prop} {v1 : Int32} {v2 : Int32} (G : z_G p c cX12_isSure s m args RX12 3 D) (hr : meth.sig.returnType = (Option.some Jvm.ClassFile.FieldType.boolean)) (hlk : meth.locks = false) (hI : z_I kd q) (f_l0 : kd 0 = some (.inl 12)) (h : L_X12_isSure_25 K v1 v2 μ) : z_X p l e rm_X12_isSure s m args below meth c 3 D A (MQ below (z_Qn D A ρ kd (z_Kz q K)) args s 0 0 A) 0 0 ρ kd q μ 25 [(0, .ref (0)), (1, .int (v1)), (2, .int (v2))] [] :=
  h (fun (v1 : Int32) (v2 : Int32) (μ : z_M) => (kd 0 = some (.inl 12)) → z_X p l e rm_X12_isSure s m args below meth c 3 D A (MQ below (z_Qn D A ρ kd (z_Kz q K)) args s 0 0 A) 0 0 ρ kd q μ 25 [(0, .ref (0)), (1, .int (v1)), (2, .int (v2))] []) (fun v1 v2 μ h f_l0 => B_X12_isSure_25_ok G hr hlk (fun _ _ _ h => h) hI f_l0 h) f_l0
set_option maxRecDepth 100000 in
set_option maxHeartbeats 4000000 in
theorem met_X12_isSure (l : Launch) (D : va_G) (ρ : z_A) (kd : z_K) (q : z_Q) (μ : z_M) (sz : Nat) (a1 : Int32) (K : Int32 → z_M → Prop) (hI : z_I kd q) (h_o : kd 0 = some (.inl 12)) (h : C_X12_isSure a1 μ K) : Met l yX12_isSure (z_ws yX12_isSure cX12_isSure 3 (Option.some Jvm.ClassFile.FieldType.boolean)) rm_X12_isSure (z_Pc D ρ kd q μ sz [.ref (0), .int (a1)]) (z_Qn D (z_Rg ρ sz) ρ kd (z_Kz q K)) 0 0 (z_Rg ρ sz) := by
  refine z_met (rm := rm_X12_isSure) (by decide) (Nat.le_of_ble_eq_true rfl) (fun p e s m args below meth c G hr hlk => ?_)
  unfold C_X12_isSure at h
  show z_X _ _ _ _ _ _ _ _ _ _ _ _ _ _ _ _ _ _ _ _ _ [(0, .ref (0)), (1, .int (a1))] _
  refine zx_aload_n (pc := 0) G (some (0)) 0 rfl rfl (z_dec T_X12_isSure_ok 0 (0, .aload_n 0, 1) rfl) ?_
  refine zx_getF (pc := 1) (b := 12) G gf_RX12_26 rfl h_o (zq_12_11 hI h_o) (z_dec T_X12_isSure_ok 1 (1, .getfield 26, 3) rfl) ?_
  refine zx_iload_n (pc := 4) G 1 rfl rfl (z_dec T_X12_isSure_ok 2 (4, .iload_n 1, 1) rfl) ?_
  obtain ⟨c1, h⟩ := h
  refine zx_zald (pc := 5) G (zk_12_11 hI h_o) c1 (z_dec T_X12_isSure_ok 3 (5, .baload, 1) rfl) ?_
  refine zx_if_ne (pc := 6) (tgt := 17) G rfl (z_dec T_X12_isSure_ok 4 (6, .ifCond .ne 11, 3) rfl) (fun hc => ?_) (fun hc => ?_)
  · replace h := z_neg hc h
    refine zx_iconst (pc := 17) (v := 0) G (z_dec T_X12_isSure_ok 9 (17, .iconst 0, 1) rfl) rfl ?_
    exact zx_zret (pc := 18) G hr hlk (Nat.le_refl _) (Nat.le_refl _) (Or.inl rfl) (z_dec T_X12_isSure_ok 10 (18, .ireturn, 1) rfl) ⟨rfl, _, rfl, (Or.inl rfl), h⟩
  · replace h := z_pos hc h
    refine zx_aload_n (pc := 9) G (some (0)) 0 rfl rfl (z_dec T_X12_isSure_ok 5 (9, .aload_n 0, 1) rfl) ?_
    refine zx_iload_n (pc := 10) G 1 rfl rfl (z_dec T_X12_isSure_ok 6 (10, .iload_n 1, 1) rfl) ?_
    refine zx_callV_zN (pc := 11) (rm := rm_X12_isPriced) G cw_RX12_438 ⟨Nat.le_of_ble_eq_true rfl, Nat.le_of_ble_eq_true rfl⟩ rfl rfl ⟨Nat.zero_le _, Nat.zero_le _⟩ h_o rfl (fun sz => (met_X12_isPriced l D ρ kd q μ sz a1 _ hI h_o h)) rfl rfl (Nat.le_of_ble_eq_true rfl) (z_dec T_X12_isSure_ok 7 (11, .invokevirtual 438, 3) rfl) (fun r3 μ2 hzr3 hn => ?_)
    clear h
    have h := hn
    clear hn
    refine zx_if_ne (pc := 14) (tgt := 19) G rfl (z_dec T_X12_isSure_ok 8 (14, .ifCond .ne 5, 3) rfl) (fun hc => ?_) (fun hc => ?_)
    · replace h := z_neg hc h
      refine zx_aload_n (pc := 19) G (some (0)) 0 rfl rfl (z_dec T_X12_isSure_ok 11 (19, .aload_n 0, 1) rfl) ?_
      refine zx_callV_vN (pc := 20) (rm := rm_X12_begins) G cw_RX12_251 ⟨Nat.le_of_ble_eq_true rfl, Nat.le_of_ble_eq_true rfl⟩ rfl rfl ⟨Nat.zero_le _, Nat.zero_le _⟩ h_o rfl (fun sz => (met_X12_begins l D ρ kd q μ2 sz  _ hI h_o h)) rfl rfl (Nat.le_of_ble_eq_true rfl) (z_dec T_X12_isSure_ok 12 (20, .invokevirtual 251, 3) rfl) (fun μ4 hn => ?_)
      clear h
      have h := hn
      clear hn
      refine zx_iconst (pc := 23) (v := 0) G (z_dec T_X12_isSure_ok 13 (23, .iconst 0, 1) rfl) rfl ?_
      refine zx_istore_n (pc := 24) (lv' := [(2, .int ((0 : Int32))), (0, .ref (0)), (1, .int (a1))]) G rfl (Nat.le_of_ble_eq_true rfl) rfl (z_dec T_X12_isSure_ok 14 (24, .istore_n 2, 1) rfl) ?_
      refine zx_sub (lv' := [(0, .ref (0)), (1, .int (a1)), (2, .int ((0 : Int32)))]) [1, 2, 0] rfl ?_
      exact L_X12_isSure_25_ok G hr hlk hI h_o h
    · replace h := z_pos hc h
      refine zx_iconst (pc := 17) (v := 0) G (z_dec T_X12_isSure_ok 9 (17, .iconst 0, 1) rfl) rfl ?_
      exact zx_zret (pc := 18) G hr hlk (Nat.le_refl _) (Nat.le_refl _) (Or.inl rfl) (z_dec T_X12_isSure_ok 10 (18, .ireturn, 1) rfl) ⟨rfl, _, rfl, (Or.inl rfl), h⟩
abbrev rm_X12_now : Room := { frames := 6, cells := 0, slots := 0, locals := 134 }
set_option maxRecDepth 100000 in
set_option maxHeartbeats 4000000 in
theorem B_X12_now_40_ok {p : Program} {l : Launch} {e : Env} {s : State} {m : MethodId} {args : Array Value} {below : List Frame} {meth : Method} {c : Code} {D : va_G} {A : Nat → Prop} {ρ : z_A} {kd : z_K} {q : z_Q} {μ : z_M} {K : Int32 → z_M → Prop} {P20 : Int32 → Int32 → z_M → Prop} {P40 : Int32 → Int32 → Int32 → Int32 → z_M → Prop} {v1 : Int32} {v2 : Int32} {v3 : Int32} {v4 : Int32} (G : z_G p c cX12_now s m args RX12 5 D) (hr : meth.sig.returnType = (Option.some Jvm.ClassFile.FieldType.boolean)) (hlk : meth.locks = false) (hP20 : ∀ (v1 : Int32) (v2 : Int32) (μ : z_M), P20 v1 v2 μ → (kd 0 = some (.inl 12)) → z_X p l e rm_X12_now s m args below meth c 5 D A (MQ below (z_Qn D A ρ kd (z_Kz q K)) args s 0 0 A) 0 0 ρ kd q μ 20 [(0, .ref (0)), (1, .int (v1)), (2, .int (v2))] []) (hP40 : ∀ (v1 : Int32) (v2 : Int32) (v3 : Int32) (v4 : Int32) (μ : z_M), P40 v1 v2 v3 v4 μ → (kd 0 = some (.inl 12)) → ((v3 = 0 ∨ v3 = 1)) → z_X p l e rm_X12_now s m args below meth c 5 D A (MQ below (z_Qn D A ρ kd (z_Kz q K)) args s 0 0 A) 0 0 ρ kd q μ 40 [(0, .ref (0)), (1, .int (v1)), (2, .int (v2)), (3, .int (v3)), (4, .int (v4))] []) (hI : z_I kd q) (f_l0 : kd 0 = some (.inl 12)) (f_l3 : (v3 = 0 ∨ v3 = 1)) (h : B_X12_now_40 K P20 P40 v1 v2 v3 v4 μ) : z_X p l e rm_X12_now s m args below meth c 5 D A (MQ below (z_Qn D A ρ kd (z_Kz q K)) args s 0 0 A) 0 0 ρ kd q μ 40 [(0, .ref (0)), (1, .int (v1)), (2, .int (v2)), (3, .int (v3)), (4, .int (v4))] [] := by
    unfold B_X12_now_40 at h
    refine zx_iload (pc := 40) G 4 rfl (z_dec T_X12_now_ok 23 (40, .iload 4, 2) rfl) ?_
    refine zx_iload_n (pc := 42) G 1 rfl rfl (z_dec T_X12_now_ok 24 (42, .iload_n 1, 1) rfl) ?_
    refine zx_icmp_ge (pc := 43) (tgt := 66) G rfl (z_dec T_X12_now_ok 25 (43, .if_icmp .ge 23, 3) rfl) (fun hc => ?_) (fun hc => ?_)
    · replace h := z_pos hc h
      refine zx_iinc (pc := 66) (v := v2 + 1) (lv' := [(2, .int (v2 + 1)), (0, .ref (0)), (1, .int (v1)), (3, .int (v3)), (4, .int (v4))]) G 2 rfl (z_inc (by decide)) (Nat.le_of_ble_eq_true rfl) rfl (z_dec T_X12_now_ok 37 (66, .iinc 2 1, 3) rfl) ?_
      refine zx_goto (pc := 69) (tgt := 20) G rfl (z_dec T_X12_now_ok 38 (69, .goto (-49), 3) rfl) ?_
      refine zx_sub (lv' := [(0, .ref (0)), (1, .int (v1)), (2, .int (v2 + 1))]) [1, 2, 0] rfl ?_
      exact hP20 _ _ _ h f_l0
    · replace h := z_neg hc h
      refine zx_aload_n (pc := 46) G (some (0)) 0 rfl rfl (z_dec T_X12_now_ok 26 (46, .aload_n 0, 1) rfl) ?_
      refine zx_getF (pc := 47) (b := 60) G gf_RX12_130 rfl f_l0 (zq_12_59 hI f_l0) (z_dec T_X12_now_ok 27 (47, .getfield 130, 3) rfl) ?_
      refine zx_sipush (pc := 50) (v := 600) G (z_dec T_X12_now_ok 28 (50, .sipush 600, 3) rfl) rfl ?_
      refine zx_iload_n (pc := 53) G 2 rfl rfl (z_dec T_X12_now_ok 29 (53, .iload_n 2, 1) rfl) ?_
      refine zx_imul (pc := 54) G  (z_dec T_X12_now_ok 30 (54, .imul, 1) rfl) ?_
      refine zx_iload (pc := 55) G 4 rfl (z_dec T_X12_now_ok 31 (55, .iload 4, 2) rfl) ?_
      refine zx_iadd (pc := 57) G  (z_dec T_X12_now_ok 32 (57, .iadd, 1) rfl) ?_
      refine zx_iload_n (pc := 58) G 3 rfl rfl (z_dec T_X12_now_ok 33 (58, .iload_n 3, 1) rfl) ?_
      obtain ⟨c1, h⟩ := h
      refine zx_zast (pc := 59) G (zk_12_59 hI f_l0) c1 (z_dec T_X12_now_ok 34 (59, .bastore, 1) rfl) ?_
      refine zx_iinc (pc := 60) (v := v4 + 1) (lv' := [(4, .int (v4 + 1)), (0, .ref (0)), (1, .int (v1)), (2, .int (v2)), (3, .int (v3))]) G 4 rfl (z_inc (by decide)) (Nat.le_of_ble_eq_true rfl) rfl (z_dec T_X12_now_ok 35 (60, .iinc 4 1, 3) rfl) ?_
      refine zx_goto (pc := 63) (tgt := 40) G rfl (z_dec T_X12_now_ok 36 (63, .goto (-23), 3) rfl) ?_
      refine zx_sub (lv' := [(0, .ref (0)), (1, .int (v1)), (2, .int (v2)), (3, .int (v3)), (4, .int (v4 + 1))]) [1, 2, 3, 4, 0] rfl ?_
      exact hP40 _ _ _ _ _ h f_l0 f_l3
set_option maxRecDepth 100000 in
set_option maxHeartbeats 4000000 in
theorem L_X12_now_40_ok {p : Program} {l : Launch} {e : Env} {s : State} {m : MethodId} {args : Array Value} {below : List Frame} {meth : Method} {c : Code} {D : va_G} {A : Nat → Prop} {ρ : z_A} {kd : z_K} {q : z_Q} {μ : z_M} {K : Int32 → z_M → Prop} {P20 : Int32 → Int32 → z_M → Prop} {v1 : Int32} {v2 : Int32} {v3 : Int32} {v4 : Int32} (G : z_G p c cX12_now s m args RX12 5 D) (hr : meth.sig.returnType = (Option.some Jvm.ClassFile.FieldType.boolean)) (hlk : meth.locks = false) (hP20 : ∀ (v1 : Int32) (v2 : Int32) (μ : z_M), P20 v1 v2 μ → (kd 0 = some (.inl 12)) → z_X p l e rm_X12_now s m args below meth c 5 D A (MQ below (z_Qn D A ρ kd (z_Kz q K)) args s 0 0 A) 0 0 ρ kd q μ 20 [(0, .ref (0)), (1, .int (v1)), (2, .int (v2))] []) (hI : z_I kd q) (f_l0 : kd 0 = some (.inl 12)) (f_l3 : (v3 = 0 ∨ v3 = 1)) (h : L_X12_now_40 K P20 v1 v2 v3 v4 μ) : z_X p l e rm_X12_now s m args below meth c 5 D A (MQ below (z_Qn D A ρ kd (z_Kz q K)) args s 0 0 A) 0 0 ρ kd q μ 40 [(0, .ref (0)), (1, .int (v1)), (2, .int (v2)), (3, .int (v3)), (4, .int (v4))] [] :=
  h (fun (v1 : Int32) (v2 : Int32) (v3 : Int32) (v4 : Int32) (μ : z_M) => (kd 0 = some (.inl 12)) → ((v3 = 0 ∨ v3 = 1)) → z_X p l e rm_X12_now s m args below meth c 5 D A (MQ below (z_Qn D A ρ kd (z_Kz q K)) args s 0 0 A) 0 0 ρ kd q μ 40 [(0, .ref (0)), (1, .int (v1)), (2, .int (v2)), (3, .int (v3)), (4, .int (v4))] []) (fun v1 v2 v3 v4 μ h f_l0 f_l3 => B_X12_now_40_ok G hr hlk hP20 (fun _ _ _ _ _ h => h) hI f_l0 f_l3 h) f_l0 f_l3
set_option maxRecDepth 100000 in
set_option maxHeartbeats 4000000 in
theorem B_X12_now_20_ok {p : Program} {l : Launch} {e : Env} {s : State} {m : MethodId} {args : Array Value} {below : List Frame} {meth : Method} {c : Code} {D : va_G} {A : Nat → Prop} {ρ : z_A} {kd : z_K} {q : z_Q} {μ : z_M} {K : Int32 → z_M → Prop} {P20 : Int32 → Int32 → z_M → Prop} {v1 : Int32} {v2 : Int32} (G : z_G p c cX12_now s m args RX12 5 D) (hr : meth.sig.returnType = (Option.some Jvm.ClassFile.FieldType.boolean)) (hlk : meth.locks = false) (hP20 : ∀ (v1 : Int32) (v2 : Int32) (μ : z_M), P20 v1 v2 μ → (kd 0 = some (.inl 12)) → z_X p l e rm_X12_now s m args below meth c 5 D A (MQ below (z_Qn D A ρ kd (z_Kz q K)) args s 0 0 A) 0 0 ρ kd q μ 20 [(0, .ref (0)), (1, .int (v1)), (2, .int (v2))] []) (hI : z_I kd q) (f_l0 : kd 0 = some (.inl 12)) (h : B_X12_now_20 K P20 v1 v2 μ) : z_X p l e rm_X12_now s m args below meth c 5 D A (MQ below (z_Qn D A ρ kd (z_Kz q K)) args s 0 0 A) 0 0 ρ kd q μ 20 [(0, .ref (0)), (1, .int (v1)), (2, .int (v2))] [] := by
    unfold B_X12_now_20 at h
    refine zx_iload_n (pc := 20) G 2 rfl rfl (z_dec T_X12_now_ok 12 (20, .iload_n 2, 1) rfl) ?_
    refine zx_aload_n (pc := 21) G (some (0)) 0 rfl rfl (z_dec T_X12_now_ok 13 (21, .aload_n 0, 1) rfl) ?_
    refine zx_getI (pc := 22) G gf_RX12_136 rfl f_l0 (z_dec T_X12_now_ok 14 (22, .getfield 136, 3) rfl) ?_
    refine zx_icmp_ge (pc := 25) (tgt := 72) G rfl (z_dec T_X12_now_ok 15 (25, .if_icmp .ge 47, 3) rfl) (fun hc => ?_) (fun hc => ?_)
    · replace h := z_pos hc h
      refine zx_aload_n (pc := 72) G (some (0)) 0 rfl rfl (z_dec T_X12_now_ok 39 (72, .aload_n 0, 1) rfl) ?_
      refine zx_iload_n (pc := 73) G 1 rfl rfl (z_dec T_X12_now_ok 40 (73, .iload_n 1, 1) rfl) ?_
      refine zx_putI (pc := 74) G gf_RX12_199 cf_12 rfl rfl f_l0 (z_dec T_X12_now_ok 41 (74, .putfield 199, 3) rfl) ?_
      refine zx_iconst (pc := 77) (v := 1) G (z_dec T_X12_now_ok 42 (77, .iconst 1, 1) rfl) rfl ?_
      exact zx_zret (pc := 78) G hr hlk (Nat.le_refl _) (Nat.le_refl _) (Or.inr rfl) (z_dec T_X12_now_ok 43 (78, .ireturn, 1) rfl) ⟨rfl, _, rfl, (Or.inr rfl), h⟩
    · replace h := z_neg hc h
      refine zx_aload_n (pc := 28) G (some (0)) 0 rfl rfl (z_dec T_X12_now_ok 16 (28, .aload_n 0, 1) rfl) ?_
      refine zx_iload_n (pc := 29) G 2 rfl rfl (z_dec T_X12_now_ok 17 (29, .iload_n 2, 1) rfl) ?_
      refine zx_callV_zN (pc := 30) (rm := rm_X12_isSure) G cw_RX12_443 ⟨Nat.le_of_ble_eq_true rfl, Nat.le_of_ble_eq_true rfl⟩ rfl rfl ⟨Nat.zero_le _, Nat.zero_le _⟩ f_l0 rfl (fun sz => (met_X12_isSure l D ρ kd q μ sz v2 _ hI f_l0 h)) rfl rfl (Nat.le_of_ble_eq_true rfl) (z_dec T_X12_now_ok 18 (30, .invokevirtual 443, 3) rfl) (fun r2 μ1 hzr2 hn => ?_)
      clear h
      have h := hn
      clear hn
      refine zx_istore_n (pc := 33) (lv' := [(3, .int (r2)), (0, .ref (0)), (1, .int (v1)), (2, .int (v2))]) G rfl (Nat.le_of_ble_eq_true rfl) rfl (z_dec T_X12_now_ok 19 (33, .istore_n 3, 1) rfl) ?_
      refine zx_aload_n (pc := 34) G (some (0)) 1 rfl rfl (z_dec T_X12_now_ok 20 (34, .aload_n 0, 1) rfl) ?_
      refine zx_getI (pc := 35) G gf_RX12_199 rfl f_l0 (z_dec T_X12_now_ok 21 (35, .getfield 199, 3) rfl) ?_
      refine zx_istore (pc := 38) (lv' := [(4, .int (μ1.1 0 2)), (3, .int (r2)), (0, .ref (0)), (1, .int (v1)), (2, .int (v2))]) G (Nat.le_of_ble_eq_true rfl) rfl (z_dec T_X12_now_ok 22 (38, .istore 4, 2) rfl) ?_
      refine zx_sub (lv' := [(0, .ref (0)), (1, .int (v1)), (2, .int (v2)), (3, .int (r2)), (4, .int (μ1.1 0 2))]) [2, 3, 4, 1, 0] rfl ?_
      exact L_X12_now_40_ok G hr hlk hP20 hI f_l0 hzr2 h
set_option maxRecDepth 100000 in
set_option maxHeartbeats 4000000 in
theorem L_X12_now_20_ok {p : Program} {l : Launch} {e : Env} {s : State} {m : MethodId} {args : Array Value} {below : List Frame} {meth : Method} {c : Code} {D : va_G} {A : Nat → Prop} {ρ : z_A} {kd : z_K} {q : z_Q} {μ : z_M} {K : Int32 → z_M → Prop} {v1 : Int32} {v2 : Int32} (G : z_G p c cX12_now s m args RX12 5 D) (hr : meth.sig.returnType = (Option.some Jvm.ClassFile.FieldType.boolean)) (hlk : meth.locks = false) (hI : z_I kd q) (f_l0 : kd 0 = some (.inl 12)) (h : L_X12_now_20 K v1 v2 μ) : z_X p l e rm_X12_now s m args below meth c 5 D A (MQ below (z_Qn D A ρ kd (z_Kz q K)) args s 0 0 A) 0 0 ρ kd q μ 20 [(0, .ref (0)), (1, .int (v1)), (2, .int (v2))] [] :=
  h (fun (v1 : Int32) (v2 : Int32) (μ : z_M) => (kd 0 = some (.inl 12)) → z_X p l e rm_X12_now s m args below meth c 5 D A (MQ below (z_Qn D A ρ kd (z_Kz q K)) args s 0 0 A) 0 0 ρ kd q μ 20 [(0, .ref (0)), (1, .int (v1)), (2, .int (v2))] []) (fun v1 v2 μ h f_l0 => B_X12_now_20_ok G hr hlk (fun _ _ _ h => h) hI f_l0 h) f_l0
set_option maxRecDepth 100000 in
set_option maxHeartbeats 4000000 in
theorem met_X12_now (l : Launch) (D : va_G) (ρ : z_A) (kd : z_K) (q : z_Q) (μ : z_M) (sz : Nat) (a1 : Int32) (K : Int32 → z_M → Prop) (hI : z_I kd q) (h_o : kd 0 = some (.inl 12)) (h : C_X12_now a1 μ K) : Met l yX12_now (z_ws yX12_now cX12_now 5 (Option.some Jvm.ClassFile.FieldType.boolean)) rm_X12_now (z_Pc D ρ kd q μ sz [.ref (0), .int (a1)]) (z_Qn D (z_Rg ρ sz) ρ kd (z_Kz q K)) 0 0 (z_Rg ρ sz) := by
  refine z_met (rm := rm_X12_now) (by decide) (Nat.le_of_ble_eq_true rfl) (fun p e s m args below meth c G hr hlk => ?_)
  unfold C_X12_now at h
  show z_X _ _ _ _ _ _ _ _ _ _ _ _ _ _ _ _ _ _ _ _ _ [(0, .ref (0)), (1, .int (a1))] _
  refine zx_iload_n (pc := 0) G 1 rfl rfl (z_dec T_X12_now_ok 0 (0, .iload_n 1, 1) rfl) ?_
  refine zx_i2l (pc := 1) G  (z_dec T_X12_now_ok 1 (1, .i2l, 1) rfl) ?_
  refine zx_aload_n (pc := 2) G (some (0)) 0 rfl rfl (z_dec T_X12_now_ok 2 (2, .aload_n 0, 1) rfl) ?_
  refine zx_getI (pc := 3) G gf_RX12_199 rfl h_o (z_dec T_X12_now_ok 3 (3, .getfield 199, 3) rfl) ?_
  refine zx_i2l (pc := 6) G  (z_dec T_X12_now_ok 4 (6, .i2l, 1) rfl) ?_
  refine zx_ldc2 (pc := 7) G wk_RX12_441 (z_dec T_X12_now_ok 5 (7, .ldc2_w 441, 3) rfl) ?_
  refine zx_callS_zN (pc := 10) (rm := rm_X12_lies) G cw_RX12_140 ⟨Nat.le_of_ble_eq_true rfl, Nat.le_of_ble_eq_true rfl⟩ rfl rfl ⟨Nat.zero_le _, Nat.zero_le _⟩ (fun sz => (met_X12_lies l D ρ kd q μ sz a1.toInt64 ((μ.1 0 2).toInt64) ((599 : Int64)) _ hI h)) rfl rfl (Nat.le_of_ble_eq_true rfl) (z_dec T_X12_now_ok 6 (10, .invokestatic 140, 3) rfl) (fun r2 μ1 hzr2 hn => ?_)
  clear h
  have h := hn
  clear hn
  refine zx_if_ne (pc := 13) (tgt := 18) G rfl (z_dec T_X12_now_ok 7 (13, .ifCond .ne 5, 3) rfl) (fun hc => ?_) (fun hc => ?_)
  · replace h := z_neg hc h
    refine zx_iconst (pc := 18) (v := 0) G (z_dec T_X12_now_ok 10 (18, .iconst 0, 1) rfl) rfl ?_
    refine zx_istore_n (pc := 19) (lv' := [(2, .int ((0 : Int32))), (0, .ref (0)), (1, .int (a1))]) G rfl (Nat.le_of_ble_eq_true rfl) rfl (z_dec T_X12_now_ok 11 (19, .istore_n 2, 1) rfl) ?_
    refine zx_sub (lv' := [(0, .ref (0)), (1, .int (a1)), (2, .int ((0 : Int32)))]) [1, 2, 0] rfl ?_
    exact L_X12_now_20_ok G hr hlk hI h_o h
  · replace h := z_pos hc h
    refine zx_iconst (pc := 16) (v := 0) G (z_dec T_X12_now_ok 8 (16, .iconst 0, 1) rfl) rfl ?_
    exact zx_zret (pc := 17) G hr hlk (Nat.le_refl _) (Nat.le_refl _) (Or.inl rfl) (z_dec T_X12_now_ok 9 (17, .ireturn, 1) rfl) ⟨rfl, _, rfl, (Or.inl rfl), h⟩
abbrev rm_X12_sure : Room := { frames := 6, cells := 0, slots := 0, locals := 134 }
set_option maxRecDepth 100000 in
set_option maxHeartbeats 4000000 in
theorem met_X12_sure (l : Launch) (D : va_G) (ρ : z_A) (kd : z_K) (q : z_Q) (μ : z_M) (sz : Nat) (a1 : Int32) (K : Int32 → z_M → Prop) (hI : z_I kd q) (h_o : kd 0 = some (.inl 12)) (h : C_X12_sure a1 μ K) : Met l yX12_sure (z_ws yX12_sure cX12_sure 2 (Option.some Jvm.ClassFile.FieldType.int)) rm_X12_sure (z_Pc D ρ kd q μ sz [.ref (0), .int (a1)]) (z_Qn D (z_Rg ρ sz) ρ kd (z_Ki q K)) 0 0 (z_Rg ρ sz) := by
  refine z_met (rm := rm_X12_sure) (by decide) (Nat.le_of_ble_eq_true rfl) (fun p e s m args below meth c G hr hlk => ?_)
  unfold C_X12_sure at h
  show z_X _ _ _ _ _ _ _ _ _ _ _ _ _ _ _ _ _ _ _ _ _ [(0, .ref (0)), (1, .int (a1))] _
  refine zx_aload_n (pc := 0) G (some (0)) 0 rfl rfl (z_dec T_X12_sure_ok 0 (0, .aload_n 0, 1) rfl) ?_
  refine zx_iload_n (pc := 1) G 1 rfl rfl (z_dec T_X12_sure_ok 1 (1, .iload_n 1, 1) rfl) ?_
  refine zx_callV_zN (pc := 2) (rm := rm_X12_isRace) G cw_RX12_147 ⟨Nat.le_of_ble_eq_true rfl, Nat.le_of_ble_eq_true rfl⟩ rfl rfl ⟨Nat.zero_le _, Nat.zero_le _⟩ h_o rfl (fun sz => (met_X12_isRace l D ρ kd q μ sz a1 _ hI h_o h)) rfl rfl (Nat.le_of_ble_eq_true rfl) (z_dec T_X12_sure_ok 2 (2, .invokevirtual 147, 3) rfl) (fun r2 μ1 hzr2 hn => ?_)
  clear h
  have h := hn
  clear hn
  refine zx_if_eq (pc := 5) (tgt := 24) G rfl (z_dec T_X12_sure_ok 3 (5, .ifCond .eq 19, 3) rfl) (fun hc => ?_) (fun hc => ?_)
  · replace h := z_pos hc h
    refine zx_iconst (pc := 24) (v := -1) G (z_dec T_X12_sure_ok 12 (24, .iconst (-1), 1) rfl) rfl ?_
    exact zx_iret (pc := 25) G hr hlk (Nat.le_refl _) (Nat.le_refl _) (z_dec T_X12_sure_ok 13 (25, .ireturn, 1) rfl) ⟨rfl, _, rfl, h⟩
  · replace h := z_neg hc h
    refine zx_aload_n (pc := 8) G (some (0)) 0 rfl rfl (z_dec T_X12_sure_ok 4 (8, .aload_n 0, 1) rfl) ?_
    refine zx_iload_n (pc := 9) G 1 rfl rfl (z_dec T_X12_sure_ok 5 (9, .iload_n 1, 1) rfl) ?_
    refine zx_callV_zN (pc := 10) (rm := rm_X12_isSure) G cw_RX12_443 ⟨Nat.le_of_ble_eq_true rfl, Nat.le_of_ble_eq_true rfl⟩ rfl rfl ⟨Nat.zero_le _, Nat.zero_le _⟩ h_o rfl (fun sz => (met_X12_isSure l D ρ kd q μ1 sz a1 _ hI h_o h)) rfl rfl (Nat.le_of_ble_eq_true rfl) (z_dec T_X12_sure_ok 6 (10, .invokevirtual 443, 3) rfl) (fun r4 μ3 hzr4 hn => ?_)
    clear h
    have h := hn
    clear hn
    refine zx_if_eq (pc := 13) (tgt := 20) G rfl (z_dec T_X12_sure_ok 7 (13, .ifCond .eq 7, 3) rfl) (fun hc => ?_) (fun hc => ?_)
    · replace h := z_pos hc h
      refine zx_iconst (pc := 20) (v := 0) G (z_dec T_X12_sure_ok 10 (20, .iconst 0, 1) rfl) rfl ?_
      refine zx_goto (pc := 21) (tgt := 25) G rfl (z_dec T_X12_sure_ok 11 (21, .goto 4, 3) rfl) ?_
      exact zx_iret (pc := 25) G hr hlk (Nat.le_refl _) (Nat.le_refl _) (z_dec T_X12_sure_ok 13 (25, .ireturn, 1) rfl) ⟨rfl, _, rfl, h⟩
    · replace h := z_neg hc h
      refine zx_iconst (pc := 16) (v := 1) G (z_dec T_X12_sure_ok 8 (16, .iconst 1, 1) rfl) rfl ?_
      refine zx_goto (pc := 17) (tgt := 25) G rfl (z_dec T_X12_sure_ok 9 (17, .goto 8, 3) rfl) ?_
      exact zx_iret (pc := 25) G hr hlk (Nat.le_refl _) (Nat.le_refl _) (z_dec T_X12_sure_ok 13 (25, .ireturn, 1) rfl) ⟨rfl, _, rfl, h⟩
abbrev rm_X12_stood : Room := { frames := 2, cells := 0, slots := 0, locals := 46 }
set_option maxRecDepth 100000 in
set_option maxHeartbeats 4000000 in
theorem L_X12_stood_118_ok {p : Program} {l : Launch} {e : Env} {s : State} {m : MethodId} {args : Array Value} {below : List Frame} {meth : Method} {c : Code} {D : va_G} {A : Nat → Prop} {ρ : z_A} {kd : z_K} {q : z_Q} {μ : z_M} {K : Int32 → z_M → Prop} {P39 : Int32 → Int32 → Int32 → Int32 → Int32 → Int32 → Int32 → Int32 → z_M → Prop} {v1 : Int32} {v2 : Int32} {v3 : Int32} {v6 : Int32} {v7 : Int32} {v8 : Int32} {t0 : Int32} (G : z_G p c cX12_stood s m args RX12 10 D) (hr : meth.sig.returnType = (Option.some Jvm.ClassFile.FieldType.int)) (hlk : meth.locks = false) (hP39 : ∀ (v1 : Int32) (v2 : Int32) (v3 : Int32) (v4 : Int32) (v5 : Int32) (v6 : Int32) (v7 : Int32) (v8 : Int32) (μ : z_M), P39 v1 v2 v3 v4 v5 v6 v7 v8 μ → (kd 0 = some (.inl 12)) → z_X p l e rm_X12_stood s m args below meth c 10 D A (MQ below (z_Qn D A ρ kd (z_Ki q K)) args s 0 0 A) 0 0 ρ kd q μ 39 [(0, .ref (0)), (1, .int (v1)), (2, .int (v2)), (3, .int (v3)), (4, .int (v4)), (5, .int (v5)), (6, .int (v6)), (7, .int (v7)), (8, .int (v8))] []) (hI : z_I kd q) (f_l0 : kd 0 = some (.inl 12)) (h : L_X12_stood_118 K P39 v1 v2 v3 v6 v7 v8 t0 μ) : z_X p l e rm_X12_stood s m args below meth c 10 D A (MQ below (z_Qn D A ρ kd (z_Ki q K)) args s 0 0 A) 0 0 ρ kd q μ 118 [(0, .ref (0)), (1, .int (v1)), (2, .int (v2)), (3, .int (v3)), (6, .int (v6)), (7, .int (v7)), (8, .int (v8))] [.int (t0)] := by
    unfold L_X12_stood_118 at h
    refine zx_istore (pc := 118) (lv' := [(4, .int (t0)), (0, .ref (0)), (1, .int (v1)), (2, .int (v2)), (3, .int (v3)), (6, .int (v6)), (7, .int (v7)), (8, .int (v8))]) G (Nat.le_of_ble_eq_true rfl) rfl (z_dec T_X12_stood_ok 62 (118, .istore 4, 2) rfl) ?_
    refine zx_iload (pc := 120) G 7 rfl (z_dec T_X12_stood_ok 63 (120, .iload 8, 2) rfl) ?_
    refine zx_istore (pc := 122) (lv' := [(5, .int (v8)), (4, .int (t0)), (0, .ref (0)), (1, .int (v1)), (2, .int (v2)), (3, .int (v3)), (6, .int (v6)), (7, .int (v7)), (8, .int (v8))]) G (Nat.le_of_ble_eq_true rfl) rfl (z_dec T_X12_stood_ok 64 (122, .istore 5, 2) rfl) ?_
    refine zx_iinc (pc := 124) (v := v8 + 1) (lv' := [(8, .int (v8 + 1)), (5, .int (v8)), (4, .int (t0)), (0, .ref (0)), (1, .int (v1)), (2, .int (v2)), (3, .int (v3)), (6, .int (v6)), (7, .int (v7))]) G 8 rfl (z_inc (by decide)) (Nat.le_of_ble_eq_true rfl) rfl (z_dec T_X12_stood_ok 65 (124, .iinc 8 1, 3) rfl) ?_
    refine zx_goto (pc := 127) (tgt := 39) G rfl (z_dec T_X12_stood_ok 66 (127, .goto (-88), 3) rfl) ?_
    refine zx_sub (lv' := [(0, .ref (0)), (1, .int (v1)), (2, .int (v2)), (3, .int (v3)), (4, .int (t0)), (5, .int (v8)), (6, .int (v6)), (7, .int (v7)), (8, .int (v8 + 1))]) [3, 4, 5, 6, 2, 1, 7, 8, 0] rfl ?_
    exact hP39 _ _ _ _ _ _ _ _ _ h f_l0
set_option maxRecDepth 100000 in
set_option maxHeartbeats 4000000 in
theorem L_X12_stood_92_ok {p : Program} {l : Launch} {e : Env} {s : State} {m : MethodId} {args : Array Value} {below : List Frame} {meth : Method} {c : Code} {D : va_G} {A : Nat → Prop} {ρ : z_A} {kd : z_K} {q : z_Q} {μ : z_M} {K : Int32 → z_M → Prop} {P39 : Int32 → Int32 → Int32 → Int32 → Int32 → Int32 → Int32 → Int32 → z_M → Prop} {v1 : Int32} {v2 : Int32} {v3 : Int32} {v4 : Int32} {v5 : Int32} {v6 : Int32} {v8 : Int32} {v9 : Int32} {t0 : Int32} (G : z_G p c cX12_stood s m args RX12 10 D) (hr : meth.sig.returnType = (Option.some Jvm.ClassFile.FieldType.int)) (hlk : meth.locks = false) (hP39 : ∀ (v1 : Int32) (v2 : Int32) (v3 : Int32) (v4 : Int32) (v5 : Int32) (v6 : Int32) (v7 : Int32) (v8 : Int32) (μ : z_M), P39 v1 v2 v3 v4 v5 v6 v7 v8 μ → (kd 0 = some (.inl 12)) → z_X p l e rm_X12_stood s m args below meth c 10 D A (MQ below (z_Qn D A ρ kd (z_Ki q K)) args s 0 0 A) 0 0 ρ kd q μ 39 [(0, .ref (0)), (1, .int (v1)), (2, .int (v2)), (3, .int (v3)), (4, .int (v4)), (5, .int (v5)), (6, .int (v6)), (7, .int (v7)), (8, .int (v8))] []) (hI : z_I kd q) (f_l0 : kd 0 = some (.inl 12)) (h : L_X12_stood_92 K P39 v1 v2 v3 v4 v5 v6 v8 v9 t0 μ) : z_X p l e rm_X12_stood s m args below meth c 10 D A (MQ below (z_Qn D A ρ kd (z_Ki q K)) args s 0 0 A) 0 0 ρ kd q μ 92 [(0, .ref (0)), (1, .int (v1)), (2, .int (v2)), (3, .int (v3)), (4, .int (v4)), (5, .int (v5)), (6, .int (v6)), (8, .int (v8)), (9, .int (v9))] [.int (t0)] := by
    unfold L_X12_stood_92 at h
    refine zx_istore (pc := 92) (lv' := [(7, .int (t0)), (0, .ref (0)), (1, .int (v1)), (2, .int (v2)), (3, .int (v3)), (4, .int (v4)), (5, .int (v5)), (6, .int (v6)), (8, .int (v8)), (9, .int (v9))]) G (Nat.le_of_ble_eq_true rfl) rfl (z_dec T_X12_stood_ok 51 (92, .istore 7, 2) rfl) ?_
    refine zx_iload (pc := 94) G 9 rfl (z_dec T_X12_stood_ok 52 (94, .iload 9, 2) rfl) ?_
    refine zx_if_ne (pc := 96) (tgt := 102) G rfl (z_dec T_X12_stood_ok 53 (96, .ifCond .ne 6, 3) rfl) (fun hc => ?_) (fun hc => ?_)
    · replace h := z_neg hc h
      refine zx_iinc (pc := 102) (v := v3 + 1) (lv' := [(3, .int (v3 + 1)), (7, .int (t0)), (0, .ref (0)), (1, .int (v1)), (2, .int (v2)), (4, .int (v4)), (5, .int (v5)), (6, .int (v6)), (8, .int (v8)), (9, .int (v9))]) G 4 rfl (z_inc (by decide)) (Nat.le_of_ble_eq_true rfl) rfl (z_dec T_X12_stood_ok 55 (102, .iinc 3 1, 3) rfl) ?_
      refine zx_iload (pc := 105) G 5 rfl (z_dec T_X12_stood_ok 56 (105, .iload 4, 2) rfl) ?_
      refine zx_iconst (pc := 107) (v := -1) G (z_dec T_X12_stood_ok 57 (107, .iconst (-1), 1) rfl) rfl ?_
      refine zx_icmp_ne (pc := 108) (tgt := 116) G rfl (z_dec T_X12_stood_ok 58 (108, .if_icmp .ne 8, 3) rfl) (fun hc => ?_) (fun hc => ?_)
      · replace h := z_neg hc h
        refine zx_iload (pc := 116) G 5 rfl (z_dec T_X12_stood_ok 61 (116, .iload 4, 2) rfl) ?_
        refine zx_sub (lv' := [(0, .ref (0)), (1, .int (v1)), (2, .int (v2)), (3, .int (v3 + 1)), (6, .int (v6)), (7, .int (t0)), (8, .int (v8))]) [2, 3, 4, 0, 7, 1, 8] rfl ?_
        exact L_X12_stood_118_ok G hr hlk hP39 hI f_l0 h
      · replace h := z_pos hc h
        refine zx_iload (pc := 111) G 8 rfl (z_dec T_X12_stood_ok 59 (111, .iload 8, 2) rfl) ?_
        refine zx_goto (pc := 113) (tgt := 118) G rfl (z_dec T_X12_stood_ok 60 (113, .goto 5, 3) rfl) ?_
        refine zx_sub (lv' := [(0, .ref (0)), (1, .int (v1)), (2, .int (v2)), (3, .int (v3 + 1)), (6, .int (v6)), (7, .int (t0)), (8, .int (v8))]) [2, 3, 4, 0, 7, 1, 8] rfl ?_
        exact L_X12_stood_118_ok G hr hlk hP39 hI f_l0 h
    · replace h := z_pos hc h
      refine zx_goto (pc := 99) (tgt := 124) G rfl (z_dec T_X12_stood_ok 54 (99, .goto 25, 3) rfl) ?_
      refine zx_iinc (pc := 124) (v := v8 + 1) (lv' := [(8, .int (v8 + 1)), (7, .int (t0)), (0, .ref (0)), (1, .int (v1)), (2, .int (v2)), (3, .int (v3)), (4, .int (v4)), (5, .int (v5)), (6, .int (v6)), (9, .int (v9))]) G 8 rfl (z_inc (by decide)) (Nat.le_of_ble_eq_true rfl) rfl (z_dec T_X12_stood_ok 65 (124, .iinc 8 1, 3) rfl) ?_
      refine zx_goto (pc := 127) (tgt := 39) G rfl (z_dec T_X12_stood_ok 66 (127, .goto (-88), 3) rfl) ?_
      refine zx_sub (lv' := [(0, .ref (0)), (1, .int (v1)), (2, .int (v2)), (3, .int (v3)), (4, .int (v4)), (5, .int (v5)), (6, .int (v6)), (7, .int (t0)), (8, .int (v8 + 1))]) [2, 3, 4, 5, 6, 7, 8, 1, 0] rfl ?_
      exact hP39 _ _ _ _ _ _ _ _ _ h f_l0
set_option maxRecDepth 100000 in
set_option maxHeartbeats 4000000 in
theorem L_X12_stood_76_ok {p : Program} {l : Launch} {e : Env} {s : State} {m : MethodId} {args : Array Value} {below : List Frame} {meth : Method} {c : Code} {D : va_G} {A : Nat → Prop} {ρ : z_A} {kd : z_K} {q : z_Q} {μ : z_M} {K : Int32 → z_M → Prop} {P39 : Int32 → Int32 → Int32 → Int32 → Int32 → Int32 → Int32 → Int32 → z_M → Prop} {v1 : Int32} {v2 : Int32} {v3 : Int32} {v4 : Int32} {v5 : Int32} {v7 : Int32} {v8 : Int32} {v9 : Int32} {t0 : Int32} (G : z_G p c cX12_stood s m args RX12 10 D) (hr : meth.sig.returnType = (Option.some Jvm.ClassFile.FieldType.int)) (hlk : meth.locks = false) (hP39 : ∀ (v1 : Int32) (v2 : Int32) (v3 : Int32) (v4 : Int32) (v5 : Int32) (v6 : Int32) (v7 : Int32) (v8 : Int32) (μ : z_M), P39 v1 v2 v3 v4 v5 v6 v7 v8 μ → (kd 0 = some (.inl 12)) → z_X p l e rm_X12_stood s m args below meth c 10 D A (MQ below (z_Qn D A ρ kd (z_Ki q K)) args s 0 0 A) 0 0 ρ kd q μ 39 [(0, .ref (0)), (1, .int (v1)), (2, .int (v2)), (3, .int (v3)), (4, .int (v4)), (5, .int (v5)), (6, .int (v6)), (7, .int (v7)), (8, .int (v8))] []) (hI : z_I kd q) (f_l0 : kd 0 = some (.inl 12)) (h : L_X12_stood_76 K P39 v1 v2 v3 v4 v5 v7 v8 v9 t0 μ) : z_X p l e rm_X12_stood s m args below meth c 10 D A (MQ below (z_Qn D A ρ kd (z_Ki q K)) args s 0 0 A) 0 0 ρ kd q μ 76 [(0, .ref (0)), (1, .int (v1)), (2, .int (v2)), (3, .int (v3)), (4, .int (v4)), (5, .int (v5)), (7, .int (v7)), (8, .int (v8)), (9, .int (v9))] [.int (t0)] := by
    unfold L_X12_stood_76 at h
    refine zx_istore (pc := 76) (lv' := [(6, .int (t0)), (0, .ref (0)), (1, .int (v1)), (2, .int (v2)), (3, .int (v3)), (4, .int (v4)), (5, .int (v5)), (7, .int (v7)), (8, .int (v8)), (9, .int (v9))]) G (Nat.le_of_ble_eq_true rfl) rfl (z_dec T_X12_stood_ok 44 (76, .istore 6, 2) rfl) ?_
    refine zx_iload (pc := 78) G 0 rfl (z_dec T_X12_stood_ok 45 (78, .iload 6, 2) rfl) ?_
    refine zx_iload (pc := 80) G 7 rfl (z_dec T_X12_stood_ok 46 (80, .iload 7, 2) rfl) ?_
    refine zx_icmp_le (pc := 82) (tgt := 90) G rfl (z_dec T_X12_stood_ok 47 (82, .if_icmp .le 8, 3) rfl) (fun hc => ?_) (fun hc => ?_)
    · replace h := z_pos hc h
      refine zx_iload (pc := 90) G 7 rfl (z_dec T_X12_stood_ok 50 (90, .iload 7, 2) rfl) ?_
      refine zx_sub (lv' := [(0, .ref (0)), (1, .int (v1)), (2, .int (v2)), (3, .int (v3)), (4, .int (v4)), (5, .int (v5)), (6, .int (t0)), (8, .int (v8)), (9, .int (v9))]) [1, 2, 3, 4, 5, 6, 0, 8, 9] rfl ?_
      exact L_X12_stood_92_ok G hr hlk hP39 hI f_l0 h
    · replace h := z_neg hc h
      refine zx_iload (pc := 85) G 0 rfl (z_dec T_X12_stood_ok 48 (85, .iload 6, 2) rfl) ?_
      refine zx_goto (pc := 87) (tgt := 92) G rfl (z_dec T_X12_stood_ok 49 (87, .goto 5, 3) rfl) ?_
      refine zx_sub (lv' := [(0, .ref (0)), (1, .int (v1)), (2, .int (v2)), (3, .int (v3)), (4, .int (v4)), (5, .int (v5)), (6, .int (t0)), (8, .int (v8)), (9, .int (v9))]) [1, 2, 3, 4, 5, 6, 0, 8, 9] rfl ?_
      exact L_X12_stood_92_ok G hr hlk hP39 hI f_l0 h
set_option maxRecDepth 100000 in
set_option maxHeartbeats 4000000 in
theorem B_X12_stood_39_ok {p : Program} {l : Launch} {e : Env} {s : State} {m : MethodId} {args : Array Value} {below : List Frame} {meth : Method} {c : Code} {D : va_G} {A : Nat → Prop} {ρ : z_A} {kd : z_K} {q : z_Q} {μ : z_M} {K : Int32 → z_M → Prop} {P39 : Int32 → Int32 → Int32 → Int32 → Int32 → Int32 → Int32 → Int32 → z_M → Prop} {v1 : Int32} {v2 : Int32} {v3 : Int32} {v4 : Int32} {v5 : Int32} {v6 : Int32} {v7 : Int32} {v8 : Int32} (G : z_G p c cX12_stood s m args RX12 10 D) (hr : meth.sig.returnType = (Option.some Jvm.ClassFile.FieldType.int)) (hlk : meth.locks = false) (hP39 : ∀ (v1 : Int32) (v2 : Int32) (v3 : Int32) (v4 : Int32) (v5 : Int32) (v6 : Int32) (v7 : Int32) (v8 : Int32) (μ : z_M), P39 v1 v2 v3 v4 v5 v6 v7 v8 μ → (kd 0 = some (.inl 12)) → z_X p l e rm_X12_stood s m args below meth c 10 D A (MQ below (z_Qn D A ρ kd (z_Ki q K)) args s 0 0 A) 0 0 ρ kd q μ 39 [(0, .ref (0)), (1, .int (v1)), (2, .int (v2)), (3, .int (v3)), (4, .int (v4)), (5, .int (v5)), (6, .int (v6)), (7, .int (v7)), (8, .int (v8))] []) (hI : z_I kd q) (f_l0 : kd 0 = some (.inl 12)) (h : B_X12_stood_39 K P39 v1 v2 v3 v4 v5 v6 v7 v8 μ) : z_X p l e rm_X12_stood s m args below meth c 10 D A (MQ below (z_Qn D A ρ kd (z_Ki q K)) args s 0 0 A) 0 0 ρ kd q μ 39 [(0, .ref (0)), (1, .int (v1)), (2, .int (v2)), (3, .int (v3)), (4, .int (v4)), (5, .int (v5)), (6, .int (v6)), (7, .int (v7)), (8, .int (v8))] [] := by
    unfold B_X12_stood_39 at h
    refine zx_iload (pc := 39) G 8 rfl (z_dec T_X12_stood_ok 24 (39, .iload 8, 2) rfl) ?_
    refine zx_aload_n (pc := 41) G (some (0)) 0 rfl rfl (z_dec T_X12_stood_ok 25 (41, .aload_n 0, 1) rfl) ?_
    refine zx_getI (pc := 42) G gf_RX12_199 rfl f_l0 (z_dec T_X12_stood_ok 26 (42, .getfield 199, 3) rfl) ?_
    refine zx_icmp_ge (pc := 45) (tgt := 130) G rfl (z_dec T_X12_stood_ok 27 (45, .if_icmp .ge 85, 3) rfl) (fun hc => ?_) (fun hc => ?_)
    · replace h := z_pos hc h
      refine zx_iload_n (pc := 130) G 2 rfl rfl (z_dec T_X12_stood_ok 67 (130, .iload_n 2, 1) rfl) ?_
      refine zx_if_ne (pc := 131) (tgt := 138) G rfl (z_dec T_X12_stood_ok 68 (131, .ifCond .ne 7, 3) rfl) (fun hc => ?_) (fun hc => ?_)
      · replace h := z_neg hc h
        refine zx_iload_n (pc := 138) G 2 rfl rfl (z_dec T_X12_stood_ok 71 (138, .iload_n 2, 1) rfl) ?_
        refine zx_iconst (pc := 139) (v := 1) G (z_dec T_X12_stood_ok 72 (139, .iconst 1, 1) rfl) rfl ?_
        refine zx_icmp_ne (pc := 140) (tgt := 148) G rfl (z_dec T_X12_stood_ok 73 (140, .if_icmp .ne 8, 3) rfl) (fun hc => ?_) (fun hc => ?_)
        · replace h := z_neg hc h
          refine zx_iload_n (pc := 148) G 2 rfl rfl (z_dec T_X12_stood_ok 76 (148, .iload_n 2, 1) rfl) ?_
          refine zx_iconst (pc := 149) (v := 2) G (z_dec T_X12_stood_ok 77 (149, .iconst 2, 1) rfl) rfl ?_
          refine zx_icmp_ne (pc := 150) (tgt := 158) G rfl (z_dec T_X12_stood_ok 78 (150, .if_icmp .ne 8, 3) rfl) (fun hc => ?_) (fun hc => ?_)
          · replace h := z_neg hc h
            refine zx_iload (pc := 158) G 7 rfl (z_dec T_X12_stood_ok 81 (158, .iload 7, 2) rfl) ?_
            exact zx_iret (pc := 160) G hr hlk (Nat.le_refl _) (Nat.le_refl _) (z_dec T_X12_stood_ok 82 (160, .ireturn, 1) rfl) ⟨rfl, _, rfl, h⟩
          · replace h := z_pos hc h
            refine zx_iload (pc := 153) G 5 rfl (z_dec T_X12_stood_ok 79 (153, .iload 5, 2) rfl) ?_
            refine zx_goto (pc := 155) (tgt := 160) G rfl (z_dec T_X12_stood_ok 80 (155, .goto 5, 3) rfl) ?_
            exact zx_iret (pc := 160) G hr hlk (Nat.le_refl _) (Nat.le_refl _) (z_dec T_X12_stood_ok 82 (160, .ireturn, 1) rfl) ⟨rfl, _, rfl, h⟩
        · replace h := z_pos hc h
          refine zx_iload (pc := 143) G 4 rfl (z_dec T_X12_stood_ok 74 (143, .iload 4, 2) rfl) ?_
          refine zx_goto (pc := 145) (tgt := 160) G rfl (z_dec T_X12_stood_ok 75 (145, .goto 15, 3) rfl) ?_
          exact zx_iret (pc := 160) G hr hlk (Nat.le_refl _) (Nat.le_refl _) (z_dec T_X12_stood_ok 82 (160, .ireturn, 1) rfl) ⟨rfl, _, rfl, h⟩
      · replace h := z_pos hc h
        refine zx_iload_n (pc := 134) G 3 rfl rfl (z_dec T_X12_stood_ok 69 (134, .iload_n 3, 1) rfl) ?_
        refine zx_goto (pc := 135) (tgt := 160) G rfl (z_dec T_X12_stood_ok 70 (135, .goto 25, 3) rfl) ?_
        exact zx_iret (pc := 160) G hr hlk (Nat.le_refl _) (Nat.le_refl _) (z_dec T_X12_stood_ok 82 (160, .ireturn, 1) rfl) ⟨rfl, _, rfl, h⟩
    · replace h := z_neg hc h
      refine zx_aload_n (pc := 48) G (some (0)) 0 rfl rfl (z_dec T_X12_stood_ok 28 (48, .aload_n 0, 1) rfl) ?_
      refine zx_getF (pc := 49) (b := 60) G gf_RX12_130 rfl f_l0 (zq_12_59 hI f_l0) (z_dec T_X12_stood_ok 29 (49, .getfield 130, 3) rfl) ?_
      refine zx_sipush (pc := 52) (v := 600) G (z_dec T_X12_stood_ok 30 (52, .sipush 600, 3) rfl) rfl ?_
      refine zx_iload_n (pc := 55) G 1 rfl rfl (z_dec T_X12_stood_ok 31 (55, .iload_n 1, 1) rfl) ?_
      refine zx_imul (pc := 56) G  (z_dec T_X12_stood_ok 32 (56, .imul, 1) rfl) ?_
      refine zx_iload (pc := 57) G 8 rfl (z_dec T_X12_stood_ok 33 (57, .iload 8, 2) rfl) ?_
      refine zx_iadd (pc := 59) G  (z_dec T_X12_stood_ok 34 (59, .iadd, 1) rfl) ?_
      obtain ⟨c1, h⟩ := h
      refine zx_zald (pc := 60) G (zk_12_59 hI f_l0) c1 (z_dec T_X12_stood_ok 35 (60, .baload, 1) rfl) ?_
      refine zx_istore (pc := 61) (lv' := [(9, .int (μ.1 60 ((((600 : Int32)) * v1) + v8).toNatClampNeg)), (0, .ref (0)), (1, .int (v1)), (2, .int (v2)), (3, .int (v3)), (4, .int (v4)), (5, .int (v5)), (6, .int (v6)), (7, .int (v7)), (8, .int (v8))]) G (Nat.le_of_ble_eq_true rfl) rfl (z_dec T_X12_stood_ok 36 (61, .istore 9, 2) rfl) ?_
      refine zx_iload (pc := 63) G 0 rfl (z_dec T_X12_stood_ok 37 (63, .iload 9, 2) rfl) ?_
      refine zx_if_eq (pc := 65) (tgt := 75) G rfl (z_dec T_X12_stood_ok 38 (65, .ifCond .eq 10, 3) rfl) (fun hc => ?_) (fun hc => ?_)
      · replace h := z_pos hc h
        refine zx_iconst (pc := 75) (v := 0) G (z_dec T_X12_stood_ok 43 (75, .iconst 0, 1) rfl) rfl ?_
        refine zx_sub (lv' := [(0, .ref (0)), (1, .int (v1)), (2, .int (v2)), (3, .int (v3)), (4, .int (v4)), (5, .int (v5)), (7, .int (v7)), (8, .int (v8)), (9, .int (μ.1 60 ((((600 : Int32)) * v1) + v8).toNatClampNeg))]) [1, 2, 3, 4, 5, 6, 8, 9, 0] rfl ?_
        exact L_X12_stood_76_ok G hr hlk hP39 hI f_l0 h
      · replace h := z_neg hc h
        refine zx_iload (pc := 68) G 7 rfl (z_dec T_X12_stood_ok 39 (68, .iload 6, 2) rfl) ?_
        refine zx_iconst (pc := 70) (v := 1) G (z_dec T_X12_stood_ok 40 (70, .iconst 1, 1) rfl) rfl ?_
        refine zx_iadd (pc := 71) G  (z_dec T_X12_stood_ok 41 (71, .iadd, 1) rfl) ?_
        refine zx_goto (pc := 72) (tgt := 76) G rfl (z_dec T_X12_stood_ok 42 (72, .goto 4, 3) rfl) ?_
        refine zx_sub (lv' := [(0, .ref (0)), (1, .int (v1)), (2, .int (v2)), (3, .int (v3)), (4, .int (v4)), (5, .int (v5)), (7, .int (v7)), (8, .int (v8)), (9, .int (μ.1 60 ((((600 : Int32)) * v1) + v8).toNatClampNeg))]) [1, 2, 3, 4, 5, 6, 8, 9, 0] rfl ?_
        exact L_X12_stood_76_ok G hr hlk hP39 hI f_l0 h
set_option maxRecDepth 100000 in
set_option maxHeartbeats 4000000 in
theorem L_X12_stood_39_ok {p : Program} {l : Launch} {e : Env} {s : State} {m : MethodId} {args : Array Value} {below : List Frame} {meth : Method} {c : Code} {D : va_G} {A : Nat → Prop} {ρ : z_A} {kd : z_K} {q : z_Q} {μ : z_M} {K : Int32 → z_M → Prop} {v1 : Int32} {v2 : Int32} {v3 : Int32} {v4 : Int32} {v5 : Int32} {v6 : Int32} {v7 : Int32} {v8 : Int32} (G : z_G p c cX12_stood s m args RX12 10 D) (hr : meth.sig.returnType = (Option.some Jvm.ClassFile.FieldType.int)) (hlk : meth.locks = false) (hI : z_I kd q) (f_l0 : kd 0 = some (.inl 12)) (h : L_X12_stood_39 K v1 v2 v3 v4 v5 v6 v7 v8 μ) : z_X p l e rm_X12_stood s m args below meth c 10 D A (MQ below (z_Qn D A ρ kd (z_Ki q K)) args s 0 0 A) 0 0 ρ kd q μ 39 [(0, .ref (0)), (1, .int (v1)), (2, .int (v2)), (3, .int (v3)), (4, .int (v4)), (5, .int (v5)), (6, .int (v6)), (7, .int (v7)), (8, .int (v8))] [] :=
  h (fun (v1 : Int32) (v2 : Int32) (v3 : Int32) (v4 : Int32) (v5 : Int32) (v6 : Int32) (v7 : Int32) (v8 : Int32) (μ : z_M) => (kd 0 = some (.inl 12)) → z_X p l e rm_X12_stood s m args below meth c 10 D A (MQ below (z_Qn D A ρ kd (z_Ki q K)) args s 0 0 A) 0 0 ρ kd q μ 39 [(0, .ref (0)), (1, .int (v1)), (2, .int (v2)), (3, .int (v3)), (4, .int (v4)), (5, .int (v5)), (6, .int (v6)), (7, .int (v7)), (8, .int (v8))] []) (fun v1 v2 v3 v4 v5 v6 v7 v8 μ h f_l0 => B_X12_stood_39_ok G hr hlk (fun _ _ _ _ _ _ _ _ _ h => h) hI f_l0 h) f_l0
set_option maxRecDepth 100000 in
set_option maxHeartbeats 4000000 in
theorem met_X12_stood (l : Launch) (D : va_G) (ρ : z_A) (kd : z_K) (q : z_Q) (μ : z_M) (sz : Nat) (a1 : Int32) (a2 : Int32) (K : Int32 → z_M → Prop) (hI : z_I kd q) (h_o : kd 0 = some (.inl 12)) (h : C_X12_stood a1 a2 μ K) : Met l yX12_stood (z_ws yX12_stood cX12_stood 10 (Option.some Jvm.ClassFile.FieldType.int)) rm_X12_stood (z_Pc D ρ kd q μ sz [.ref (0), .int (a1), .int (a2)]) (z_Qn D (z_Rg ρ sz) ρ kd (z_Ki q K)) 0 0 (z_Rg ρ sz) := by
  refine z_met (rm := rm_X12_stood) (by decide) (Nat.le_of_ble_eq_true rfl) (fun p e s m args below meth c G hr hlk => ?_)
  unfold C_X12_stood at h
  show z_X _ _ _ _ _ _ _ _ _ _ _ _ _ _ _ _ _ _ _ _ _ [(0, .ref (0)), (1, .int (a1)), (2, .int (a2))] _
  refine zx_aload_n (pc := 0) G (some (0)) 0 rfl rfl (z_dec T_X12_stood_ok 0 (0, .aload_n 0, 1) rfl) ?_
  refine zx_iload_n (pc := 1) G 1 rfl rfl (z_dec T_X12_stood_ok 1 (1, .iload_n 1, 1) rfl) ?_
  refine zx_callV_zN (pc := 2) (rm := rm_X12_isRace) G cw_RX12_147 ⟨Nat.le_of_ble_eq_true rfl, Nat.le_of_ble_eq_true rfl⟩ rfl rfl ⟨Nat.zero_le _, Nat.zero_le _⟩ h_o rfl (fun sz => (met_X12_isRace l D ρ kd q μ sz a1 _ hI h_o h)) rfl rfl (Nat.le_of_ble_eq_true rfl) (z_dec T_X12_stood_ok 2 (2, .invokevirtual 147, 3) rfl) (fun r2 μ1 hzr2 hn => ?_)
  clear h
  have h := hn
  clear hn
  refine zx_if_eq (pc := 5) (tgt := 20) G rfl (z_dec T_X12_stood_ok 3 (5, .ifCond .eq 15, 3) rfl) (fun hc => ?_) (fun hc => ?_)
  · replace h := z_pos hc h
    refine zx_iconst (pc := 20) (v := -1) G (z_dec T_X12_stood_ok 10 (20, .iconst (-1), 1) rfl) rfl ?_
    exact zx_iret (pc := 21) G hr hlk (Nat.le_refl _) (Nat.le_refl _) (z_dec T_X12_stood_ok 11 (21, .ireturn, 1) rfl) ⟨rfl, _, rfl, h⟩
  · replace h := z_neg hc h
    refine zx_iload_n (pc := 8) G 2 rfl rfl (z_dec T_X12_stood_ok 4 (8, .iload_n 2, 1) rfl) ?_
    refine zx_i2l (pc := 9) G  (z_dec T_X12_stood_ok 5 (9, .i2l, 1) rfl) ?_
    refine zx_lconst (pc := 10) (v := 0) G (z_dec T_X12_stood_ok 6 (10, .lconst 0, 1) rfl) rfl ?_
    refine zx_ldc2 (pc := 11) G wk_RX12_446 (z_dec T_X12_stood_ok 7 (11, .ldc2_w 446, 3) rfl) ?_
    refine zx_callS_zN (pc := 14) (rm := rm_X12_lies) G cw_RX12_140 ⟨Nat.le_of_ble_eq_true rfl, Nat.le_of_ble_eq_true rfl⟩ rfl rfl ⟨Nat.zero_le _, Nat.zero_le _⟩ (fun sz => (met_X12_lies l D ρ kd q μ1 sz a2.toInt64 ((0 : Int64)) ((3 : Int64)) _ hI h)) rfl rfl (Nat.le_of_ble_eq_true rfl) (z_dec T_X12_stood_ok 8 (14, .invokestatic 140, 3) rfl) (fun r4 μ3 hzr4 hn => ?_)
    clear h
    have h := hn
    clear hn
    refine zx_if_ne (pc := 17) (tgt := 22) G rfl (z_dec T_X12_stood_ok 9 (17, .ifCond .ne 5, 3) rfl) (fun hc => ?_) (fun hc => ?_)
    · replace h := z_neg hc h
      refine zx_iconst (pc := 22) (v := 0) G (z_dec T_X12_stood_ok 12 (22, .iconst 0, 1) rfl) rfl ?_
      refine zx_istore_n (pc := 23) (lv' := [(3, .int ((0 : Int32))), (0, .ref (0)), (1, .int (a1)), (2, .int (a2))]) G rfl (Nat.le_of_ble_eq_true rfl) rfl (z_dec T_X12_stood_ok 13 (23, .istore_n 3, 1) rfl) ?_
      refine zx_iconst (pc := 24) (v := -1) G (z_dec T_X12_stood_ok 14 (24, .iconst (-1), 1) rfl) rfl ?_
      refine zx_istore (pc := 25) (lv' := [(4, .int ((-1 : Int32))), (3, .int ((0 : Int32))), (0, .ref (0)), (1, .int (a1)), (2, .int (a2))]) G (Nat.le_of_ble_eq_true rfl) rfl (z_dec T_X12_stood_ok 15 (25, .istore 4, 2) rfl) ?_
      refine zx_iconst (pc := 27) (v := -1) G (z_dec T_X12_stood_ok 16 (27, .iconst (-1), 1) rfl) rfl ?_
      refine zx_istore (pc := 28) (lv' := [(5, .int ((-1 : Int32))), (4, .int ((-1 : Int32))), (3, .int ((0 : Int32))), (0, .ref (0)), (1, .int (a1)), (2, .int (a2))]) G (Nat.le_of_ble_eq_true rfl) rfl (z_dec T_X12_stood_ok 17 (28, .istore 5, 2) rfl) ?_
      refine zx_iconst (pc := 30) (v := 0) G (z_dec T_X12_stood_ok 18 (30, .iconst 0, 1) rfl) rfl ?_
      refine zx_istore (pc := 31) (lv' := [(6, .int ((0 : Int32))), (5, .int ((-1 : Int32))), (4, .int ((-1 : Int32))), (3, .int ((0 : Int32))), (0, .ref (0)), (1, .int (a1)), (2, .int (a2))]) G (Nat.le_of_ble_eq_true rfl) rfl (z_dec T_X12_stood_ok 19 (31, .istore 6, 2) rfl) ?_
      refine zx_iconst (pc := 33) (v := 0) G (z_dec T_X12_stood_ok 20 (33, .iconst 0, 1) rfl) rfl ?_
      refine zx_istore (pc := 34) (lv' := [(7, .int ((0 : Int32))), (6, .int ((0 : Int32))), (5, .int ((-1 : Int32))), (4, .int ((-1 : Int32))), (3, .int ((0 : Int32))), (0, .ref (0)), (1, .int (a1)), (2, .int (a2))]) G (Nat.le_of_ble_eq_true rfl) rfl (z_dec T_X12_stood_ok 21 (34, .istore 7, 2) rfl) ?_
      refine zx_iconst (pc := 36) (v := 0) G (z_dec T_X12_stood_ok 22 (36, .iconst 0, 1) rfl) rfl ?_
      refine zx_istore (pc := 37) (lv' := [(8, .int ((0 : Int32))), (7, .int ((0 : Int32))), (6, .int ((0 : Int32))), (5, .int ((-1 : Int32))), (4, .int ((-1 : Int32))), (3, .int ((0 : Int32))), (0, .ref (0)), (1, .int (a1)), (2, .int (a2))]) G (Nat.le_of_ble_eq_true rfl) rfl (z_dec T_X12_stood_ok 23 (37, .istore 8, 2) rfl) ?_
      refine zx_sub (lv' := [(0, .ref (0)), (1, .int (a1)), (2, .int (a2)), (3, .int ((0 : Int32))), (4, .int ((-1 : Int32))), (5, .int ((-1 : Int32))), (6, .int ((0 : Int32))), (7, .int ((0 : Int32))), (8, .int ((0 : Int32)))]) [6, 7, 8, 5, 4, 3, 2, 1, 0] rfl ?_
      exact L_X12_stood_39_ok G hr hlk hI h_o h
    · replace h := z_pos hc h
      refine zx_iconst (pc := 20) (v := -1) G (z_dec T_X12_stood_ok 10 (20, .iconst (-1), 1) rfl) rfl ?_
      exact zx_iret (pc := 21) G hr hlk (Nat.le_refl _) (Nat.le_refl _) (z_dec T_X12_stood_ok 11 (21, .ireturn, 1) rfl) ⟨rfl, _, rfl, h⟩
abbrev rm_X12_leastFor : Room := { frames := 0, cells := 0, slots := 0, locals := 0 }
set_option maxRecDepth 100000 in
set_option maxHeartbeats 4000000 in
theorem met_X12_leastFor (l : Launch) (D : va_G) (ρ : z_A) (kd : z_K) (q : z_Q) (μ : z_M) (sz : Nat) (a1 : Int32) (a2 : Int32) (K : Int32 → z_M → Prop) (hI : z_I kd q) (h_o : kd 0 = some (.inl 12)) (h : C_X12_leastFor a1 a2 μ K) : Met l yX12_leastFor (z_ws yX12_leastFor cX12_leastFor 4 (Option.some Jvm.ClassFile.FieldType.int)) rm_X12_leastFor (z_Pc D ρ kd q μ sz [.ref (0), .int (a1), .int (a2)]) (z_Qn D (z_Rg ρ sz) ρ kd (z_Ki q K)) 0 0 (z_Rg ρ sz) := by
  refine z_met (rm := rm_X12_leastFor) (by decide) (Nat.le_of_ble_eq_true rfl) (fun p e s m args below meth c G hr hlk => ?_)
  unfold C_X12_leastFor at h
  show z_X _ _ _ _ _ _ _ _ _ _ _ _ _ _ _ _ _ _ _ _ _ [(0, .ref (0)), (1, .int (a1)), (2, .int (a2))] _
  refine zx_aload_n (pc := 0) G (some (0)) 0 rfl rfl (z_dec T_X12_leastFor_ok 0 (0, .aload_n 0, 1) rfl) ?_
  refine zx_getF (pc := 1) (b := 8) G gf_RX12_13 rfl h_o (zq_12_7 hI h_o) (z_dec T_X12_leastFor_ok 1 (1, .getfield 13, 3) rfl) ?_
  refine zx_iload_n (pc := 4) G 1 rfl rfl (z_dec T_X12_leastFor_ok 2 (4, .iload_n 1, 1) rfl) ?_
  obtain ⟨c1, h⟩ := h
  refine zx_iald (pc := 5) G (zk_12_7 hI h_o) c1 (z_dec T_X12_leastFor_ok 3 (5, .iaload, 1) rfl) ?_
  refine zx_aload_n (pc := 6) G (some (0)) 0 rfl rfl (z_dec T_X12_leastFor_ok 4 (6, .aload_n 0, 1) rfl) ?_
  refine zx_getF (pc := 7) (b := 9) G gf_RX12_17 rfl h_o (zq_12_8 hI h_o) (z_dec T_X12_leastFor_ok 5 (7, .getfield 17, 3) rfl) ?_
  refine zx_iload_n (pc := 10) G 1 rfl rfl (z_dec T_X12_leastFor_ok 6 (10, .iload_n 1, 1) rfl) ?_
  refine zx_iald (pc := 11) G (zk_12_8 hI h_o) c1 (z_dec T_X12_leastFor_ok 7 (11, .iaload, 1) rfl) ?_
  refine zx_iadd (pc := 12) G  (z_dec T_X12_leastFor_ok 8 (12, .iadd, 1) rfl) ?_
  refine zx_istore_n (pc := 13) (lv' := [(3, .int ((μ.1 8 a1.toNatClampNeg) + (μ.1 9 a1.toNatClampNeg))), (0, .ref (0)), (1, .int (a1)), (2, .int (a2))]) G rfl (Nat.le_of_ble_eq_true rfl) rfl (z_dec T_X12_leastFor_ok 9 (13, .istore_n 3, 1) rfl) ?_
  refine zx_iload_n (pc := 14) G 3 rfl rfl (z_dec T_X12_leastFor_ok 10 (14, .iload_n 2, 1) rfl) ?_
  refine zx_i2l (pc := 15) G  (z_dec T_X12_leastFor_ok 11 (15, .i2l, 1) rfl) ?_
  refine zx_aload_n (pc := 16) G (some (0)) 1 rfl rfl (z_dec T_X12_leastFor_ok 12 (16, .aload_n 0, 1) rfl) ?_
  refine zx_getF (pc := 17) (b := 9) G gf_RX12_17 rfl h_o (zq_12_8 hI h_o) (z_dec T_X12_leastFor_ok 13 (17, .getfield 17, 3) rfl) ?_
  refine zx_iload_n (pc := 20) G 2 rfl rfl (z_dec T_X12_leastFor_ok 14 (20, .iload_n 1, 1) rfl) ?_
  refine zx_iald (pc := 21) G (zk_12_8 hI h_o) c1 (z_dec T_X12_leastFor_ok 15 (21, .iaload, 1) rfl) ?_
  refine zx_i2l (pc := 22) G  (z_dec T_X12_leastFor_ok 16 (22, .i2l, 1) rfl) ?_
  refine zx_lmul (pc := 23) G  (z_dec T_X12_leastFor_ok 17 (23, .lmul, 1) rfl) ?_
  refine zx_iload_n (pc := 24) G 0 rfl rfl (z_dec T_X12_leastFor_ok 18 (24, .iload_n 3, 1) rfl) ?_
  refine zx_i2l (pc := 25) G  (z_dec T_X12_leastFor_ok 19 (25, .i2l, 1) rfl) ?_
  refine zx_ladd (pc := 26) G  (z_dec T_X12_leastFor_ok 20 (26, .ladd, 1) rfl) ?_
  refine zx_lconst (pc := 27) (v := 1) G (z_dec T_X12_leastFor_ok 21 (27, .lconst 1, 1) rfl) rfl ?_
  refine zx_lsub (pc := 28) G  (z_dec T_X12_leastFor_ok 22 (28, .lsub, 1) rfl) ?_
  refine zx_iload_n (pc := 29) G 0 rfl rfl (z_dec T_X12_leastFor_ok 23 (29, .iload_n 3, 1) rfl) ?_
  refine zx_i2l (pc := 30) G  (z_dec T_X12_leastFor_ok 24 (30, .i2l, 1) rfl) ?_
  obtain ⟨c2, h⟩ := h
  refine zx_ldiv (pc := 31) G c2 (z_dec T_X12_leastFor_ok 25 (31, .ldiv, 1) rfl) ?_
  refine zx_l2i (pc := 32) G  (z_dec T_X12_leastFor_ok 26 (32, .l2i, 1) rfl) ?_
  exact zx_iret (pc := 33) G hr hlk (Nat.le_refl _) (Nat.le_refl _) (z_dec T_X12_leastFor_ok 27 (33, .ireturn, 1) rfl) ⟨rfl, _, rfl, h⟩
abbrev rm_X12_stakesFor : Room := { frames := 4, cells := 0, slots := 0, locals := 90 }
set_option maxRecDepth 100000 in
set_option maxHeartbeats 4000000 in
theorem B_X12_stakesFor_5_ok {p : Program} {l : Launch} {e : Env} {s : State} {m : MethodId} {args : Array Value} {below : List Frame} {meth : Method} {c : Code} {D : va_G} {A : Nat → Prop} {ρ : z_A} {kd : z_K} {q : z_Q} {μ : z_M} {K : Int32 → z_M → Prop} {P5 : Int32 → Int32 → Int32 → Int32 → z_M → Prop} {v1 : Int32} {v2 : Int32} {v3 : Int32} {v4 : Int32} (G : z_G p c cX12_stakesFor s m args RX12 5 D) (hr : meth.sig.returnType = (Option.some Jvm.ClassFile.FieldType.int)) (hlk : meth.locks = false) (hP5 : ∀ (v1 : Int32) (v2 : Int32) (v3 : Int32) (v4 : Int32) (μ : z_M), P5 v1 v2 v3 v4 μ → (kd 0 = some (.inl 12)) → z_X p l e rm_X12_stakesFor s m args below meth c 5 D A (MQ below (z_Qn D A ρ kd (z_Ki q K)) args s 0 0 A) 0 0 ρ kd q μ 5 [(0, .ref (0)), (1, .int (v1)), (2, .int (v2)), (3, .int (v3)), (4, .int (v4))] []) (hI : z_I kd q) (f_l0 : kd 0 = some (.inl 12)) (h : B_X12_stakesFor_5 K P5 v1 v2 v3 v4 μ) : z_X p l e rm_X12_stakesFor s m args below meth c 5 D A (MQ below (z_Qn D A ρ kd (z_Ki q K)) args s 0 0 A) 0 0 ρ kd q μ 5 [(0, .ref (0)), (1, .int (v1)), (2, .int (v2)), (3, .int (v3)), (4, .int (v4))] [] := by
    unfold B_X12_stakesFor_5 at h
    refine zx_iload (pc := 5) G 4 rfl (z_dec T_X12_stakesFor_ok 4 (5, .iload 4, 2) rfl) ?_
    refine zx_aload_n (pc := 7) G (some (0)) 0 rfl rfl (z_dec T_X12_stakesFor_ok 5 (7, .aload_n 0, 1) rfl) ?_
    refine zx_getF (pc := 8) (b := 10) G gf_RX12_20 rfl f_l0 (zq_12_9 hI f_l0) (z_dec T_X12_stakesFor_ok 6 (8, .getfield 20, 3) rfl) ?_
    refine zx_iload_n (pc := 11) G 1 rfl rfl (z_dec T_X12_stakesFor_ok 7 (11, .iload_n 1, 1) rfl) ?_
    obtain ⟨c1, h⟩ := h
    refine zx_iald (pc := 12) G (zk_12_9 hI f_l0) c1 (z_dec T_X12_stakesFor_ok 8 (12, .iaload, 1) rfl) ?_
    refine zx_icmp_ge (pc := 13) (tgt := 51) G rfl (z_dec T_X12_stakesFor_ok 9 (13, .if_icmp .ge 38, 3) rfl) (fun hc => ?_) (fun hc => ?_)
    · replace h := z_pos hc h
      refine zx_iload_n (pc := 51) G 3 rfl rfl (z_dec T_X12_stakesFor_ok 29 (51, .iload_n 3, 1) rfl) ?_
      exact zx_iret (pc := 52) G hr hlk (Nat.le_refl _) (Nat.le_refl _) (z_dec T_X12_stakesFor_ok 30 (52, .ireturn, 1) rfl) ⟨rfl, _, rfl, h⟩
    · replace h := z_neg hc h
      refine zx_iload_n (pc := 16) G 3 rfl rfl (z_dec T_X12_stakesFor_ok 10 (16, .iload_n 3, 1) rfl) ?_
      refine zx_aload_n (pc := 17) G (some (0)) 0 rfl rfl (z_dec T_X12_stakesFor_ok 11 (17, .aload_n 0, 1) rfl) ?_
      refine zx_iload_n (pc := 18) G 1 rfl rfl (z_dec T_X12_stakesFor_ok 12 (18, .iload_n 1, 1) rfl) ?_
      refine zx_iload (pc := 19) G 4 rfl (z_dec T_X12_stakesFor_ok 13 (19, .iload 4, 2) rfl) ?_
      refine zx_callV_zN (pc := 21) (rm := rm_X12_runs) G cw_RX12_183 ⟨Nat.le_of_ble_eq_true rfl, Nat.le_of_ble_eq_true rfl⟩ rfl rfl ⟨Nat.zero_le _, Nat.zero_le _⟩ f_l0 rfl (fun sz => (met_X12_runs l D ρ kd q μ sz v1 v4 _ hI f_l0 h)) rfl rfl (Nat.le_of_ble_eq_true rfl) (z_dec T_X12_stakesFor_ok 14 (21, .invokevirtual 183, 3) rfl) (fun r3 μ2 hzr3 hn => ?_)
      clear h
      have h := hn
      clear hn
      refine zx_if_eq (pc := 24) (tgt := 42) G rfl (z_dec T_X12_stakesFor_ok 15 (24, .ifCond .eq 18, 3) rfl) (fun hc => ?_) (fun hc => ?_)
      · replace h := z_pos hc h
        refine zx_iconst (pc := 42) (v := 0) G (z_dec T_X12_stakesFor_ok 24 (42, .iconst 0, 1) rfl) rfl ?_
        refine zx_iadd (pc := 43) G  (z_dec T_X12_stakesFor_ok 25 (43, .iadd, 1) rfl) ?_
        refine zx_istore_n (pc := 44) (lv' := [(3, .int (v3 + ((0 : Int32)))), (0, .ref (0)), (1, .int (v1)), (2, .int (v2)), (4, .int (v4))]) G rfl (Nat.le_of_ble_eq_true rfl) rfl (z_dec T_X12_stakesFor_ok 26 (44, .istore_n 3, 1) rfl) ?_
        refine zx_iinc (pc := 45) (v := v4 + 1) (lv' := [(4, .int (v4 + 1)), (3, .int (v3 + ((0 : Int32)))), (0, .ref (0)), (1, .int (v1)), (2, .int (v2))]) G 4 rfl (z_inc (by decide)) (Nat.le_of_ble_eq_true rfl) rfl (z_dec T_X12_stakesFor_ok 27 (45, .iinc 4 1, 3) rfl) ?_
        refine zx_goto (pc := 48) (tgt := 5) G rfl (z_dec T_X12_stakesFor_ok 28 (48, .goto (-43), 3) rfl) ?_
        refine zx_sub (lv' := [(0, .ref (0)), (1, .int (v1)), (2, .int (v2)), (3, .int (v3 + ((0 : Int32)))), (4, .int (v4 + 1))]) [2, 3, 4, 1, 0] rfl ?_
        exact hP5 _ _ _ _ _ h f_l0
      · replace h := z_neg hc h
        refine zx_aload_n (pc := 27) G (some (0)) 0 rfl rfl (z_dec T_X12_stakesFor_ok 16 (27, .aload_n 0, 1) rfl) ?_
        refine zx_aload_n (pc := 28) G (some (0)) 0 rfl rfl (z_dec T_X12_stakesFor_ok 17 (28, .aload_n 0, 1) rfl) ?_
        refine zx_iload_n (pc := 29) G 1 rfl rfl (z_dec T_X12_stakesFor_ok 18 (29, .iload_n 1, 1) rfl) ?_
        refine zx_iload (pc := 30) G 4 rfl (z_dec T_X12_stakesFor_ok 19 (30, .iload 4, 2) rfl) ?_
        refine zx_callV_iN (pc := 32) (rm := rm_X12_longest) G cw_RX12_435 ⟨Nat.le_of_ble_eq_true rfl, Nat.le_of_ble_eq_true rfl⟩ rfl rfl ⟨Nat.zero_le _, Nat.zero_le _⟩ f_l0 rfl (fun sz => (met_X12_longest l D ρ kd q μ2 sz v1 v4 _ hI f_l0 h)) rfl rfl (Nat.le_of_ble_eq_true rfl) (z_dec T_X12_stakesFor_ok 20 (32, .invokevirtual 435, 3) rfl) (fun r5 μ4 hn => ?_)
        clear h
        have h := hn
        clear hn
        refine zx_iload_n (pc := 35) G 2 rfl rfl (z_dec T_X12_stakesFor_ok 21 (35, .iload_n 2, 1) rfl) ?_
        refine zx_callV_iN (pc := 36) (rm := rm_X12_leastFor) G cw_RX12_448 ⟨Nat.le_of_ble_eq_true rfl, Nat.le_of_ble_eq_true rfl⟩ rfl rfl ⟨Nat.zero_le _, Nat.zero_le _⟩ f_l0 rfl (fun sz => (met_X12_leastFor l D ρ kd q μ4 sz r5 v2 _ hI f_l0 h)) rfl rfl (Nat.le_of_ble_eq_true rfl) (z_dec T_X12_stakesFor_ok 22 (36, .invokevirtual 448, 3) rfl) (fun r7 μ6 hn => ?_)
        clear h
        have h := hn
        clear hn
        refine zx_goto (pc := 39) (tgt := 43) G rfl (z_dec T_X12_stakesFor_ok 23 (39, .goto 4, 3) rfl) ?_
        refine zx_iadd (pc := 43) G  (z_dec T_X12_stakesFor_ok 25 (43, .iadd, 1) rfl) ?_
        refine zx_istore_n (pc := 44) (lv' := [(3, .int (v3 + r7)), (0, .ref (0)), (1, .int (v1)), (2, .int (v2)), (4, .int (v4))]) G rfl (Nat.le_of_ble_eq_true rfl) rfl (z_dec T_X12_stakesFor_ok 26 (44, .istore_n 3, 1) rfl) ?_
        refine zx_iinc (pc := 45) (v := v4 + 1) (lv' := [(4, .int (v4 + 1)), (3, .int (v3 + r7)), (0, .ref (0)), (1, .int (v1)), (2, .int (v2))]) G 4 rfl (z_inc (by decide)) (Nat.le_of_ble_eq_true rfl) rfl (z_dec T_X12_stakesFor_ok 27 (45, .iinc 4 1, 3) rfl) ?_
        refine zx_goto (pc := 48) (tgt := 5) G rfl (z_dec T_X12_stakesFor_ok 28 (48, .goto (-43), 3) rfl) ?_
        refine zx_sub (lv' := [(0, .ref (0)), (1, .int (v1)), (2, .int (v2)), (3, .int (v3 + r7)), (4, .int (v4 + 1))]) [2, 3, 4, 1, 0] rfl ?_
        exact hP5 _ _ _ _ _ h f_l0
set_option maxRecDepth 100000 in
set_option maxHeartbeats 4000000 in
theorem L_X12_stakesFor_5_ok {p : Program} {l : Launch} {e : Env} {s : State} {m : MethodId} {args : Array Value} {below : List Frame} {meth : Method} {c : Code} {D : va_G} {A : Nat → Prop} {ρ : z_A} {kd : z_K} {q : z_Q} {μ : z_M} {K : Int32 → z_M → Prop} {v1 : Int32} {v2 : Int32} {v3 : Int32} {v4 : Int32} (G : z_G p c cX12_stakesFor s m args RX12 5 D) (hr : meth.sig.returnType = (Option.some Jvm.ClassFile.FieldType.int)) (hlk : meth.locks = false) (hI : z_I kd q) (f_l0 : kd 0 = some (.inl 12)) (h : L_X12_stakesFor_5 K v1 v2 v3 v4 μ) : z_X p l e rm_X12_stakesFor s m args below meth c 5 D A (MQ below (z_Qn D A ρ kd (z_Ki q K)) args s 0 0 A) 0 0 ρ kd q μ 5 [(0, .ref (0)), (1, .int (v1)), (2, .int (v2)), (3, .int (v3)), (4, .int (v4))] [] :=
  h (fun (v1 : Int32) (v2 : Int32) (v3 : Int32) (v4 : Int32) (μ : z_M) => (kd 0 = some (.inl 12)) → z_X p l e rm_X12_stakesFor s m args below meth c 5 D A (MQ below (z_Qn D A ρ kd (z_Ki q K)) args s 0 0 A) 0 0 ρ kd q μ 5 [(0, .ref (0)), (1, .int (v1)), (2, .int (v2)), (3, .int (v3)), (4, .int (v4))] []) (fun v1 v2 v3 v4 μ h f_l0 => B_X12_stakesFor_5_ok G hr hlk (fun _ _ _ _ _ h => h) hI f_l0 h) f_l0
set_option maxRecDepth 100000 in
set_option maxHeartbeats 4000000 in
theorem met_X12_stakesFor (l : Launch) (D : va_G) (ρ : z_A) (kd : z_K) (q : z_Q) (μ : z_M) (sz : Nat) (a1 : Int32) (a2 : Int32) (K : Int32 → z_M → Prop) (hI : z_I kd q) (h_o : kd 0 = some (.inl 12)) (h : C_X12_stakesFor a1 a2 μ K) : Met l yX12_stakesFor (z_ws yX12_stakesFor cX12_stakesFor 5 (Option.some Jvm.ClassFile.FieldType.int)) rm_X12_stakesFor (z_Pc D ρ kd q μ sz [.ref (0), .int (a1), .int (a2)]) (z_Qn D (z_Rg ρ sz) ρ kd (z_Ki q K)) 0 0 (z_Rg ρ sz) := by
  refine z_met (rm := rm_X12_stakesFor) (by decide) (Nat.le_of_ble_eq_true rfl) (fun p e s m args below meth c G hr hlk => ?_)
  unfold C_X12_stakesFor at h
  show z_X _ _ _ _ _ _ _ _ _ _ _ _ _ _ _ _ _ _ _ _ _ [(0, .ref (0)), (1, .int (a1)), (2, .int (a2))] _
  refine zx_iconst (pc := 0) (v := 0) G (z_dec T_X12_stakesFor_ok 0 (0, .iconst 0, 1) rfl) rfl ?_
  refine zx_istore_n (pc := 1) (lv' := [(3, .int ((0 : Int32))), (0, .ref (0)), (1, .int (a1)), (2, .int (a2))]) G rfl (Nat.le_of_ble_eq_true rfl) rfl (z_dec T_X12_stakesFor_ok 1 (1, .istore_n 3, 1) rfl) ?_
  refine zx_iconst (pc := 2) (v := 0) G (z_dec T_X12_stakesFor_ok 2 (2, .iconst 0, 1) rfl) rfl ?_
  refine zx_istore (pc := 3) (lv' := [(4, .int ((0 : Int32))), (3, .int ((0 : Int32))), (0, .ref (0)), (1, .int (a1)), (2, .int (a2))]) G (Nat.le_of_ble_eq_true rfl) rfl (z_dec T_X12_stakesFor_ok 3 (3, .istore 4, 2) rfl) ?_
  refine zx_sub (lv' := [(0, .ref (0)), (1, .int (a1)), (2, .int (a2)), (3, .int ((0 : Int32))), (4, .int ((0 : Int32)))]) [2, 3, 4, 1, 0] rfl ?_
  exact L_X12_stakesFor_5_ok G hr hlk hI h_o h
abbrev rm_X12_most : Room := { frames := 5, cells := 0, slots := 0, locals := 114 }
set_option maxRecDepth 100000 in
set_option maxHeartbeats 4000000 in
theorem B_X12_most_64_ok {p : Program} {l : Launch} {e : Env} {s : State} {m : MethodId} {args : Array Value} {below : List Frame} {meth : Method} {c : Code} {D : va_G} {A : Nat → Prop} {ρ : z_A} {kd : z_K} {q : z_Q} {μ : z_M} {K : Int32 → z_M → Prop} {P64 : Int32 → Int32 → Int32 → Int32 → Int32 → Int32 → z_M → Prop} {v1 : Int32} {v2 : Int32} {v3 : Int32} {v4 : Int32} {v5 : Int32} {v6 : Int32} (G : z_G p c cX12_most s m args RX12 8 D) (hr : meth.sig.returnType = (Option.some Jvm.ClassFile.FieldType.int)) (hlk : meth.locks = false) (hP64 : ∀ (v1 : Int32) (v2 : Int32) (v3 : Int32) (v4 : Int32) (v5 : Int32) (v6 : Int32) (μ : z_M), P64 v1 v2 v3 v4 v5 v6 μ → (kd 0 = some (.inl 12)) → z_X p l e rm_X12_most s m args below meth c 8 D A (MQ below (z_Qn D A ρ kd (z_Ki q K)) args s 0 0 A) 0 0 ρ kd q μ 64 [(0, .ref (0)), (1, .int (v1)), (2, .int (v2)), (3, .int (v3)), (4, .int (v4)), (5, .int (v5)), (6, .int (v6))] []) (hI : z_I kd q) (f_l0 : kd 0 = some (.inl 12)) (h : B_X12_most_64 K P64 v1 v2 v3 v4 v5 v6 μ) : z_X p l e rm_X12_most s m args below meth c 8 D A (MQ below (z_Qn D A ρ kd (z_Ki q K)) args s 0 0 A) 0 0 ρ kd q μ 64 [(0, .ref (0)), (1, .int (v1)), (2, .int (v2)), (3, .int (v3)), (4, .int (v4)), (5, .int (v5)), (6, .int (v6))] [] := by
    unfold B_X12_most_64 at h
    refine zx_aload_n (pc := 64) G (some (0)) 0 rfl rfl (z_dec T_X12_most_ok 37 (64, .aload_n 0, 1) rfl) ?_
    refine zx_iload_n (pc := 65) G 1 rfl rfl (z_dec T_X12_most_ok 38 (65, .iload_n 1, 1) rfl) ?_
    refine zx_iload (pc := 66) G 6 rfl (z_dec T_X12_most_ok 39 (66, .iload 6, 2) rfl) ?_
    refine zx_callV_iN (pc := 68) (rm := rm_X12_stakesFor) G cw_RX12_453 ⟨Nat.le_of_ble_eq_true rfl, Nat.le_of_ble_eq_true rfl⟩ rfl rfl ⟨Nat.zero_le _, Nat.zero_le _⟩ f_l0 rfl (fun sz => (met_X12_stakesFor l D ρ kd q μ sz v1 v6 _ hI f_l0 h)) rfl rfl (Nat.le_of_ble_eq_true rfl) (z_dec T_X12_most_ok 40 (68, .invokevirtual 453, 3) rfl) (fun r2 μ1 hn => ?_)
    clear h
    have h := hn
    clear hn
    refine zx_iload_n (pc := 71) G 2 rfl rfl (z_dec T_X12_most_ok 41 (71, .iload_n 2, 1) rfl) ?_
    refine zx_icmp_gt (pc := 72) (tgt := 111) G rfl (z_dec T_X12_most_ok 42 (72, .if_icmp .gt 39, 3) rfl) (fun hc => ?_) (fun hc => ?_)
    · replace h := z_pos hc h
      refine zx_iload_n (pc := 111) G 3 rfl rfl (z_dec T_X12_most_ok 60 (111, .iload_n 3, 1) rfl) ?_
      refine zx_iconst (pc := 112) (v := -1) G (z_dec T_X12_most_ok 61 (112, .iconst (-1), 1) rfl) rfl ?_
      refine zx_icmp_ne (pc := 113) (tgt := 121) G rfl (z_dec T_X12_most_ok 62 (113, .if_icmp .ne 8, 3) rfl) (fun hc => ?_) (fun hc => ?_)
      · replace h := z_neg hc h
        refine zx_iload (pc := 121) G 5 rfl (z_dec T_X12_most_ok 65 (121, .iload 5, 2) rfl) ?_
        refine zx_if_eq (pc := 123) (tgt := 135) G rfl (z_dec T_X12_most_ok 66 (123, .ifCond .eq 12, 3) rfl) (fun hc => ?_) (fun hc => ?_)
        · replace h := z_pos hc h
          refine zx_iconst (pc := 135) (v := 0) G (z_dec T_X12_most_ok 72 (135, .iconst 0, 1) rfl) rfl ?_
          refine zx_goto (pc := 136) (tgt := 151) G rfl (z_dec T_X12_most_ok 73 (136, .goto 15, 3) rfl) ?_
          exact zx_iret (pc := 151) G hr hlk (Nat.le_refl _) (Nat.le_refl _) (z_dec T_X12_most_ok 81 (151, .ireturn, 1) rfl) ⟨rfl, _, rfl, h⟩
        · replace h := z_neg hc h
          refine zx_aload_n (pc := 126) G (some (0)) 0 rfl rfl (z_dec T_X12_most_ok 67 (126, .aload_n 0, 1) rfl) ?_
          refine zx_iload_n (pc := 127) G 1 rfl rfl (z_dec T_X12_most_ok 68 (127, .iload_n 1, 1) rfl) ?_
          refine zx_iload_n (pc := 128) G 3 rfl rfl (z_dec T_X12_most_ok 69 (128, .iload_n 3, 1) rfl) ?_
          refine zx_callV_zN (pc := 129) (rm := rm_X12_runs) G cw_RX12_183 ⟨Nat.le_of_ble_eq_true rfl, Nat.le_of_ble_eq_true rfl⟩ rfl rfl ⟨Nat.zero_le _, Nat.zero_le _⟩ f_l0 rfl (fun sz => (met_X12_runs l D ρ kd q μ1 sz v1 v3 _ hI f_l0 h)) rfl rfl (Nat.le_of_ble_eq_true rfl) (z_dec T_X12_most_ok 70 (129, .invokevirtual 183, 3) rfl) (fun r4 μ3 hzr4 hn => ?_)
          clear h
          have h := hn
          clear hn
          refine zx_if_ne (pc := 132) (tgt := 139) G rfl (z_dec T_X12_most_ok 71 (132, .ifCond .ne 7, 3) rfl) (fun hc => ?_) (fun hc => ?_)
          · replace h := z_neg hc h
            refine zx_aload_n (pc := 139) G (some (0)) 0 rfl rfl (z_dec T_X12_most_ok 74 (139, .aload_n 0, 1) rfl) ?_
            refine zx_aload_n (pc := 140) G (some (0)) 0 rfl rfl (z_dec T_X12_most_ok 75 (140, .aload_n 0, 1) rfl) ?_
            refine zx_iload_n (pc := 141) G 1 rfl rfl (z_dec T_X12_most_ok 76 (141, .iload_n 1, 1) rfl) ?_
            refine zx_iload_n (pc := 142) G 3 rfl rfl (z_dec T_X12_most_ok 77 (142, .iload_n 3, 1) rfl) ?_
            refine zx_callV_iN (pc := 143) (rm := rm_X12_longest) G cw_RX12_435 ⟨Nat.le_of_ble_eq_true rfl, Nat.le_of_ble_eq_true rfl⟩ rfl rfl ⟨Nat.zero_le _, Nat.zero_le _⟩ f_l0 rfl (fun sz => (met_X12_longest l D ρ kd q μ3 sz v1 v3 _ hI f_l0 h)) rfl rfl (Nat.le_of_ble_eq_true rfl) (z_dec T_X12_most_ok 78 (143, .invokevirtual 435, 3) rfl) (fun r6 μ5 hn => ?_)
            clear h
            have h := hn
            clear hn
            refine zx_iload (pc := 146) G 4 rfl (z_dec T_X12_most_ok 79 (146, .iload 4, 2) rfl) ?_
            refine zx_callV_iN (pc := 148) (rm := rm_X12_leastFor) G cw_RX12_448 ⟨Nat.le_of_ble_eq_true rfl, Nat.le_of_ble_eq_true rfl⟩ rfl rfl ⟨Nat.zero_le _, Nat.zero_le _⟩ f_l0 rfl (fun sz => (met_X12_leastFor l D ρ kd q μ5 sz r6 v4 _ hI f_l0 h)) rfl rfl (Nat.le_of_ble_eq_true rfl) (z_dec T_X12_most_ok 80 (148, .invokevirtual 448, 3) rfl) (fun r8 μ7 hn => ?_)
            clear h
            have h := hn
            clear hn
            exact zx_iret (pc := 151) G hr hlk (Nat.le_refl _) (Nat.le_refl _) (z_dec T_X12_most_ok 81 (151, .ireturn, 1) rfl) ⟨rfl, _, rfl, h⟩
          · replace h := z_pos hc h
            refine zx_iconst (pc := 135) (v := 0) G (z_dec T_X12_most_ok 72 (135, .iconst 0, 1) rfl) rfl ?_
            refine zx_goto (pc := 136) (tgt := 151) G rfl (z_dec T_X12_most_ok 73 (136, .goto 15, 3) rfl) ?_
            exact zx_iret (pc := 151) G hr hlk (Nat.le_refl _) (Nat.le_refl _) (z_dec T_X12_most_ok 81 (151, .ireturn, 1) rfl) ⟨rfl, _, rfl, h⟩
      · replace h := z_pos hc h
        refine zx_iload (pc := 116) G 5 rfl (z_dec T_X12_most_ok 63 (116, .iload 5, 2) rfl) ?_
        refine zx_goto (pc := 118) (tgt := 151) G rfl (z_dec T_X12_most_ok 64 (118, .goto 33, 3) rfl) ?_
        exact zx_iret (pc := 151) G hr hlk (Nat.le_refl _) (Nat.le_refl _) (z_dec T_X12_most_ok 81 (151, .ireturn, 1) rfl) ⟨rfl, _, rfl, h⟩
    · replace h := z_neg hc h
      refine zx_iload (pc := 75) G 6 rfl (z_dec T_X12_most_ok 43 (75, .iload 6, 2) rfl) ?_
      refine zx_aload_n (pc := 77) G (some (0)) 0 rfl rfl (z_dec T_X12_most_ok 44 (77, .aload_n 0, 1) rfl) ?_
      refine zx_iload_n (pc := 78) G 1 rfl rfl (z_dec T_X12_most_ok 45 (78, .iload_n 1, 1) rfl) ?_
      refine zx_iload (pc := 79) G 6 rfl (z_dec T_X12_most_ok 46 (79, .iload 6, 2) rfl) ?_
      refine zx_callV_iN (pc := 81) (rm := rm_X12_stakesFor) G cw_RX12_453 ⟨Nat.le_of_ble_eq_true rfl, Nat.le_of_ble_eq_true rfl⟩ rfl rfl ⟨Nat.zero_le _, Nat.zero_le _⟩ f_l0 rfl (fun sz => (met_X12_stakesFor l D ρ kd q μ1 sz v1 v6 _ hI f_l0 h)) rfl rfl (Nat.le_of_ble_eq_true rfl) (z_dec T_X12_most_ok 47 (81, .invokevirtual 453, 3) rfl) (fun r10 μ9 hn => ?_)
      clear h
      have h := hn
      clear hn
      refine zx_isub (pc := 84) G  (z_dec T_X12_most_ok 48 (84, .isub, 1) rfl) ?_
      refine zx_istore (pc := 85) (lv' := [(7, .int (v6 - r10)), (0, .ref (0)), (1, .int (v1)), (2, .int (v2)), (3, .int (v3)), (4, .int (v4)), (5, .int (v5)), (6, .int (v6))]) G (Nat.le_of_ble_eq_true rfl) rfl (z_dec T_X12_most_ok 49 (85, .istore 7, 2) rfl) ?_
      refine zx_iload (pc := 87) G 0 rfl (z_dec T_X12_most_ok 50 (87, .iload 7, 2) rfl) ?_
      refine zx_iload (pc := 89) G 6 rfl (z_dec T_X12_most_ok 51 (89, .iload 5, 2) rfl) ?_
      refine zx_icmp_gt (pc := 91) (tgt := 97) G rfl (z_dec T_X12_most_ok 52 (91, .if_icmp .gt 6, 3) rfl) (fun hc => ?_) (fun hc => ?_)
      · replace h := z_pos hc h
        refine zx_iload (pc := 97) G 0 rfl (z_dec T_X12_most_ok 54 (97, .iload 7, 2) rfl) ?_
        refine zx_istore (pc := 99) (lv' := [(5, .int (v6 - r10)), (7, .int (v6 - r10)), (0, .ref (0)), (1, .int (v1)), (2, .int (v2)), (3, .int (v3)), (4, .int (v4)), (6, .int (v6))]) G (Nat.le_of_ble_eq_true rfl) rfl (z_dec T_X12_most_ok 55 (99, .istore 5, 2) rfl) ?_
        refine zx_iload (pc := 101) G 7 rfl (z_dec T_X12_most_ok 56 (101, .iload 6, 2) rfl) ?_
        refine zx_istore (pc := 103) (lv' := [(4, .int (v6)), (5, .int (v6 - r10)), (7, .int (v6 - r10)), (0, .ref (0)), (1, .int (v1)), (2, .int (v2)), (3, .int (v3)), (6, .int (v6))]) G (Nat.le_of_ble_eq_true rfl) rfl (z_dec T_X12_most_ok 57 (103, .istore 4, 2) rfl) ?_
        refine zx_iinc (pc := 105) (v := v6 + 1) (lv' := [(6, .int (v6 + 1)), (4, .int (v6)), (5, .int (v6 - r10)), (7, .int (v6 - r10)), (0, .ref (0)), (1, .int (v1)), (2, .int (v2)), (3, .int (v3))]) G 7 rfl (z_inc (by decide)) (Nat.le_of_ble_eq_true rfl) rfl (z_dec T_X12_most_ok 58 (105, .iinc 6 1, 3) rfl) ?_
        refine zx_goto (pc := 108) (tgt := 64) G rfl (z_dec T_X12_most_ok 59 (108, .goto (-44), 3) rfl) ?_
        refine zx_sub (lv' := [(0, .ref (0)), (1, .int (v1)), (2, .int (v2)), (3, .int (v3)), (4, .int (v6)), (5, .int (v6 - r10)), (6, .int (v6 + 1))]) [4, 5, 6, 7, 1, 2, 0] rfl ?_
        exact hP64 _ _ _ _ _ _ _ h f_l0
      · replace h := z_neg hc h
        refine zx_goto (pc := 94) (tgt := 105) G rfl (z_dec T_X12_most_ok 53 (94, .goto 11, 3) rfl) ?_
        refine zx_iinc (pc := 105) (v := v6 + 1) (lv' := [(6, .int (v6 + 1)), (7, .int (v6 - r10)), (0, .ref (0)), (1, .int (v1)), (2, .int (v2)), (3, .int (v3)), (4, .int (v4)), (5, .int (v5))]) G 7 rfl (z_inc (by decide)) (Nat.le_of_ble_eq_true rfl) rfl (z_dec T_X12_most_ok 58 (105, .iinc 6 1, 3) rfl) ?_
        refine zx_goto (pc := 108) (tgt := 64) G rfl (z_dec T_X12_most_ok 59 (108, .goto (-44), 3) rfl) ?_
        refine zx_sub (lv' := [(0, .ref (0)), (1, .int (v1)), (2, .int (v2)), (3, .int (v3)), (4, .int (v4)), (5, .int (v5)), (6, .int (v6 + 1))]) [2, 3, 4, 5, 6, 7, 0] rfl ?_
        exact hP64 _ _ _ _ _ _ _ h f_l0
set_option maxRecDepth 100000 in
set_option maxHeartbeats 4000000 in
theorem L_X12_most_64_ok {p : Program} {l : Launch} {e : Env} {s : State} {m : MethodId} {args : Array Value} {below : List Frame} {meth : Method} {c : Code} {D : va_G} {A : Nat → Prop} {ρ : z_A} {kd : z_K} {q : z_Q} {μ : z_M} {K : Int32 → z_M → Prop} {v1 : Int32} {v2 : Int32} {v3 : Int32} {v4 : Int32} {v5 : Int32} {v6 : Int32} (G : z_G p c cX12_most s m args RX12 8 D) (hr : meth.sig.returnType = (Option.some Jvm.ClassFile.FieldType.int)) (hlk : meth.locks = false) (hI : z_I kd q) (f_l0 : kd 0 = some (.inl 12)) (h : L_X12_most_64 K v1 v2 v3 v4 v5 v6 μ) : z_X p l e rm_X12_most s m args below meth c 8 D A (MQ below (z_Qn D A ρ kd (z_Ki q K)) args s 0 0 A) 0 0 ρ kd q μ 64 [(0, .ref (0)), (1, .int (v1)), (2, .int (v2)), (3, .int (v3)), (4, .int (v4)), (5, .int (v5)), (6, .int (v6))] [] :=
  h (fun (v1 : Int32) (v2 : Int32) (v3 : Int32) (v4 : Int32) (v5 : Int32) (v6 : Int32) (μ : z_M) => (kd 0 = some (.inl 12)) → z_X p l e rm_X12_most s m args below meth c 8 D A (MQ below (z_Qn D A ρ kd (z_Ki q K)) args s 0 0 A) 0 0 ρ kd q μ 64 [(0, .ref (0)), (1, .int (v1)), (2, .int (v2)), (3, .int (v3)), (4, .int (v4)), (5, .int (v5)), (6, .int (v6))] []) (fun v1 v2 v3 v4 v5 v6 μ h f_l0 => B_X12_most_64_ok G hr hlk (fun _ _ _ _ _ _ _ h => h) hI f_l0 h) f_l0
set_option maxRecDepth 100000 in
set_option maxHeartbeats 4000000 in
theorem L_X12_most_45_ok {p : Program} {l : Launch} {e : Env} {s : State} {m : MethodId} {args : Array Value} {below : List Frame} {meth : Method} {c : Code} {D : va_G} {A : Nat → Prop} {ρ : z_A} {kd : z_K} {q : z_Q} {μ : z_M} {K : Int32 → z_M → Prop} {v1 : Int32} {v2 : Int32} {v3 : Int32} (G : z_G p c cX12_most s m args RX12 8 D) (hr : meth.sig.returnType = (Option.some Jvm.ClassFile.FieldType.int)) (hlk : meth.locks = false) (hI : z_I kd q) (f_l0 : kd 0 = some (.inl 12)) (h : L_X12_most_45 K v1 v2 v3 μ) : z_X p l e rm_X12_most s m args below meth c 8 D A (MQ below (z_Qn D A ρ kd (z_Ki q K)) args s 0 0 A) 0 0 ρ kd q μ 45 [(0, .ref (0)), (1, .int (v1)), (2, .int (v2)), (3, .int (v3))] [] := by
    unfold L_X12_most_45 at h
    refine zx_aload_n (pc := 45) G (some (0)) 0 rfl rfl (z_dec T_X12_most_ok 25 (45, .aload_n 0, 1) rfl) ?_
    refine zx_iload_n (pc := 46) G 1 rfl rfl (z_dec T_X12_most_ok 26 (46, .iload_n 1, 1) rfl) ?_
    refine zx_callV_zN (pc := 47) (rm := rm_X12_isPriced) G cw_RX12_438 ⟨Nat.le_of_ble_eq_true rfl, Nat.le_of_ble_eq_true rfl⟩ rfl rfl ⟨Nat.zero_le _, Nat.zero_le _⟩ f_l0 rfl (fun sz => (met_X12_isPriced l D ρ kd q μ sz v1 _ hI f_l0 h)) rfl rfl (Nat.le_of_ble_eq_true rfl) (z_dec T_X12_most_ok 27 (47, .invokevirtual 438, 3) rfl) (fun r2 μ1 hzr2 hn => ?_)
    clear h
    have h := hn
    clear hn
    refine zx_if_ne (pc := 50) (tgt := 55) G rfl (z_dec T_X12_most_ok 28 (50, .ifCond .ne 5, 3) rfl) (fun hc => ?_) (fun hc => ?_)
    · replace h := z_neg hc h
      refine zx_iconst (pc := 55) (v := 0) G (z_dec T_X12_most_ok 31 (55, .iconst 0, 1) rfl) rfl ?_
      refine zx_istore (pc := 56) (lv' := [(4, .int ((0 : Int32))), (0, .ref (0)), (1, .int (v1)), (2, .int (v2)), (3, .int (v3))]) G (Nat.le_of_ble_eq_true rfl) rfl (z_dec T_X12_most_ok 32 (56, .istore 4, 2) rfl) ?_
      refine zx_iconst (pc := 58) (v := 0) G (z_dec T_X12_most_ok 33 (58, .iconst 0, 1) rfl) rfl ?_
      refine zx_istore (pc := 59) (lv' := [(5, .int ((0 : Int32))), (4, .int ((0 : Int32))), (0, .ref (0)), (1, .int (v1)), (2, .int (v2)), (3, .int (v3))]) G (Nat.le_of_ble_eq_true rfl) rfl (z_dec T_X12_most_ok 34 (59, .istore 5, 2) rfl) ?_
      refine zx_iconst (pc := 61) (v := 1) G (z_dec T_X12_most_ok 35 (61, .iconst 1, 1) rfl) rfl ?_
      refine zx_istore (pc := 62) (lv' := [(6, .int ((1 : Int32))), (5, .int ((0 : Int32))), (4, .int ((0 : Int32))), (0, .ref (0)), (1, .int (v1)), (2, .int (v2)), (3, .int (v3))]) G (Nat.le_of_ble_eq_true rfl) rfl (z_dec T_X12_most_ok 36 (62, .istore 6, 2) rfl) ?_
      refine zx_sub (lv' := [(0, .ref (0)), (1, .int (v1)), (2, .int (v2)), (3, .int (v3)), (4, .int ((0 : Int32))), (5, .int ((0 : Int32))), (6, .int ((1 : Int32)))]) [3, 4, 5, 6, 2, 1, 0] rfl ?_
      exact L_X12_most_64_ok G hr hlk hI f_l0 h
    · replace h := z_pos hc h
      refine zx_iconst (pc := 53) (v := 0) G (z_dec T_X12_most_ok 29 (53, .iconst 0, 1) rfl) rfl ?_
      exact zx_iret (pc := 54) G hr hlk (Nat.le_refl _) (Nat.le_refl _) (z_dec T_X12_most_ok 30 (54, .ireturn, 1) rfl) ⟨rfl, _, rfl, h⟩
set_option maxRecDepth 100000 in
set_option maxHeartbeats 4000000 in
theorem met_X12_most (l : Launch) (D : va_G) (ρ : z_A) (kd : z_K) (q : z_Q) (μ : z_M) (sz : Nat) (a1 : Int32) (a2 : Int32) (a3 : Int32) (K : Int32 → z_M → Prop) (hI : z_I kd q) (h_o : kd 0 = some (.inl 12)) (h : C_X12_most a1 a2 a3 μ K) : Met l yX12_most (z_ws yX12_most cX12_most 8 (Option.some Jvm.ClassFile.FieldType.int)) rm_X12_most (z_Pc D ρ kd q μ sz [.ref (0), .int (a1), .int (a2), .int (a3)]) (z_Qn D (z_Rg ρ sz) ρ kd (z_Ki q K)) 0 0 (z_Rg ρ sz) := by
  refine z_met (rm := rm_X12_most) (by decide) (Nat.le_of_ble_eq_true rfl) (fun p e s m args below meth c G hr hlk => ?_)
  unfold C_X12_most at h
  show z_X _ _ _ _ _ _ _ _ _ _ _ _ _ _ _ _ _ _ _ _ _ [(0, .ref (0)), (1, .int (a1)), (2, .int (a2)), (3, .int (a3))] _
  refine zx_aload_n (pc := 0) G (some (0)) 0 rfl rfl (z_dec T_X12_most_ok 0 (0, .aload_n 0, 1) rfl) ?_
  refine zx_iload_n (pc := 1) G 1 rfl rfl (z_dec T_X12_most_ok 1 (1, .iload_n 1, 1) rfl) ?_
  refine zx_callV_zN (pc := 2) (rm := rm_X12_isRace) G cw_RX12_147 ⟨Nat.le_of_ble_eq_true rfl, Nat.le_of_ble_eq_true rfl⟩ rfl rfl ⟨Nat.zero_le _, Nat.zero_le _⟩ h_o rfl (fun sz => (met_X12_isRace l D ρ kd q μ sz a1 _ hI h_o h)) rfl rfl (Nat.le_of_ble_eq_true rfl) (z_dec T_X12_most_ok 2 (2, .invokevirtual 147, 3) rfl) (fun r2 μ1 hzr2 hn => ?_)
  clear h
  have h := hn
  clear hn
  refine zx_if_eq (pc := 5) (tgt := 43) G rfl (z_dec T_X12_most_ok 3 (5, .ifCond .eq 38, 3) rfl) (fun hc => ?_) (fun hc => ?_)
  · replace h := z_pos hc h
    refine zx_iconst (pc := 43) (v := -1) G (z_dec T_X12_most_ok 23 (43, .iconst (-1), 1) rfl) rfl ?_
    exact zx_iret (pc := 44) G hr hlk (Nat.le_refl _) (Nat.le_refl _) (z_dec T_X12_most_ok 24 (44, .ireturn, 1) rfl) ⟨rfl, _, rfl, h⟩
  · replace h := z_neg hc h
    refine zx_aload_n (pc := 8) G (some (0)) 0 rfl rfl (z_dec T_X12_most_ok 4 (8, .aload_n 0, 1) rfl) ?_
    refine zx_getF (pc := 9) (b := 12) G gf_RX12_26 rfl h_o (zq_12_11 hI h_o) (z_dec T_X12_most_ok 5 (9, .getfield 26, 3) rfl) ?_
    refine zx_iload_n (pc := 12) G 1 rfl rfl (z_dec T_X12_most_ok 6 (12, .iload_n 1, 1) rfl) ?_
    obtain ⟨c3, h⟩ := h
    refine zx_zald (pc := 13) G (zk_12_11 hI h_o) c3 (z_dec T_X12_most_ok 7 (13, .baload, 1) rfl) ?_
    refine zx_if_ne (pc := 14) (tgt := 43) G rfl (z_dec T_X12_most_ok 8 (14, .ifCond .ne 29, 3) rfl) (fun hc => ?_) (fun hc => ?_)
    · replace h := z_neg hc h
      refine zx_iconst (pc := 43) (v := -1) G (z_dec T_X12_most_ok 23 (43, .iconst (-1), 1) rfl) rfl ?_
      exact zx_iret (pc := 44) G hr hlk (Nat.le_refl _) (Nat.le_refl _) (z_dec T_X12_most_ok 24 (44, .ireturn, 1) rfl) ⟨rfl, _, rfl, h⟩
    · replace h := z_pos hc h
      refine zx_iload_n (pc := 17) G 2 rfl rfl (z_dec T_X12_most_ok 9 (17, .iload_n 2, 1) rfl) ?_
      refine zx_i2l (pc := 18) G  (z_dec T_X12_most_ok 10 (18, .i2l, 1) rfl) ?_
      refine zx_lconst (pc := 19) (v := 1) G (z_dec T_X12_most_ok 11 (19, .lconst 1, 1) rfl) rfl ?_
      refine zx_ldc2 (pc := 20) G wk_RX12_451 (z_dec T_X12_most_ok 12 (20, .ldc2_w 451, 3) rfl) ?_
      refine zx_callS_zN (pc := 23) (rm := rm_X12_lies) G cw_RX12_140 ⟨Nat.le_of_ble_eq_true rfl, Nat.le_of_ble_eq_true rfl⟩ rfl rfl ⟨Nat.zero_le _, Nat.zero_le _⟩ (fun sz => (met_X12_lies l D ρ kd q μ1 sz a2.toInt64 ((1 : Int64)) ((3000 : Int64)) _ hI h)) rfl rfl (Nat.le_of_ble_eq_true rfl) (z_dec T_X12_most_ok 13 (23, .invokestatic 140, 3) rfl) (fun r5 μ4 hzr5 hn => ?_)
      clear h
      have h := hn
      clear hn
      refine zx_if_eq (pc := 26) (tgt := 43) G rfl (z_dec T_X12_most_ok 14 (26, .ifCond .eq 17, 3) rfl) (fun hc => ?_) (fun hc => ?_)
      · replace h := z_pos hc h
        refine zx_iconst (pc := 43) (v := -1) G (z_dec T_X12_most_ok 23 (43, .iconst (-1), 1) rfl) rfl ?_
        exact zx_iret (pc := 44) G hr hlk (Nat.le_refl _) (Nat.le_refl _) (z_dec T_X12_most_ok 24 (44, .ireturn, 1) rfl) ⟨rfl, _, rfl, h⟩
      · replace h := z_neg hc h
        refine zx_iload_n (pc := 29) G 3 rfl rfl (z_dec T_X12_most_ok 15 (29, .iload_n 3, 1) rfl) ?_
        refine zx_iconst (pc := 30) (v := -1) G (z_dec T_X12_most_ok 16 (30, .iconst (-1), 1) rfl) rfl ?_
        refine zx_icmp_eq (pc := 31) (tgt := 45) G rfl (z_dec T_X12_most_ok 17 (31, .if_icmp .eq 14, 3) rfl) (fun hc => ?_) (fun hc => ?_)
        · replace h := z_pos hc h
          exact L_X12_most_45_ok G hr hlk hI h_o h
        · replace h := z_neg hc h
          refine zx_aload_n (pc := 34) G (some (0)) 0 rfl rfl (z_dec T_X12_most_ok 18 (34, .aload_n 0, 1) rfl) ?_
          refine zx_iload_n (pc := 35) G 1 rfl rfl (z_dec T_X12_most_ok 19 (35, .iload_n 1, 1) rfl) ?_
          refine zx_iload_n (pc := 36) G 3 rfl rfl (z_dec T_X12_most_ok 20 (36, .iload_n 3, 1) rfl) ?_
          refine zx_callV_zN (pc := 37) (rm := rm_X12_isHorse) G cw_RX12_151 ⟨Nat.le_of_ble_eq_true rfl, Nat.le_of_ble_eq_true rfl⟩ rfl rfl ⟨Nat.zero_le _, Nat.zero_le _⟩ h_o rfl (fun sz => (met_X12_isHorse l D ρ kd q μ4 sz a1 a3 _ hI h_o h)) rfl rfl (Nat.le_of_ble_eq_true rfl) (z_dec T_X12_most_ok 21 (37, .invokevirtual 151, 3) rfl) (fun r7 μ6 hzr7 hn => ?_)
          clear h
          have h := hn
          clear hn
          refine zx_if_ne (pc := 40) (tgt := 45) G rfl (z_dec T_X12_most_ok 22 (40, .ifCond .ne 5, 3) rfl) (fun hc => ?_) (fun hc => ?_)
          · replace h := z_neg hc h
            exact L_X12_most_45_ok G hr hlk hI h_o h
          · replace h := z_pos hc h
            refine zx_iconst (pc := 43) (v := -1) G (z_dec T_X12_most_ok 23 (43, .iconst (-1), 1) rfl) rfl ?_
            exact zx_iret (pc := 44) G hr hlk (Nat.le_refl _) (Nat.le_refl _) (z_dec T_X12_most_ok 24 (44, .ireturn, 1) rfl) ⟨rfl, _, rfl, h⟩
abbrev rm_X12_worstWith : Room := { frames := 6, cells := 0, slots := 0, locals := 139 }
set_option maxRecDepth 100000 in
set_option maxHeartbeats 4000000 in
theorem L_X12_worstWith_83_ok {p : Program} {l : Launch} {e : Env} {s : State} {m : MethodId} {args : Array Value} {below : List Frame} {meth : Method} {c : Code} {D : va_G} {A : Nat → Prop} {ρ : z_A} {kd : z_K} {q : z_Q} {μ : z_M} {K : Int32 → z_M → Prop} {P9 : Int32 → Int32 → Int32 → Int32 → Int32 → Int32 → Int32 → Int32 → z_M → Prop} {v1 : Int32} {v2 : Int32} {v3 : Int32} {v4 : Int32} {v5 : Int32} {v8 : Int32} {t0 : Int32} (G : z_G p c cX12_worstWith s m args RX12 10 D) (hr : meth.sig.returnType = (Option.some Jvm.ClassFile.FieldType.int)) (hlk : meth.locks = false) (hP9 : ∀ (v1 : Int32) (v2 : Int32) (v3 : Int32) (v4 : Int32) (v5 : Int32) (v6 : Int32) (v7 : Int32) (v8 : Int32) (μ : z_M), P9 v1 v2 v3 v4 v5 v6 v7 v8 μ → (kd 0 = some (.inl 12)) → ((v7 = 0 ∨ v7 = 1)) → z_X p l e rm_X12_worstWith s m args below meth c 10 D A (MQ below (z_Qn D A ρ kd (z_Ki q K)) args s 0 0 A) 0 0 ρ kd q μ 9 [(0, .ref (0)), (1, .int (v1)), (2, .int (v2)), (3, .int (v3)), (4, .int (v4)), (5, .int (v5)), (6, .int (v6)), (7, .int (v7)), (8, .int (v8))] []) (hI : z_I kd q) (f_l0 : kd 0 = some (.inl 12)) (h : L_X12_worstWith_83 K P9 v1 v2 v3 v4 v5 v8 t0 μ) : z_X p l e rm_X12_worstWith s m args below meth c 10 D A (MQ below (z_Qn D A ρ kd (z_Ki q K)) args s 0 0 A) 0 0 ρ kd q μ 83 [(0, .ref (0)), (1, .int (v1)), (2, .int (v2)), (3, .int (v3)), (4, .int (v4)), (5, .int (v5)), (8, .int (v8))] [.int (t0)] := by
    unfold L_X12_worstWith_83 at h
    refine zx_istore (pc := 83) (lv' := [(6, .int (t0)), (0, .ref (0)), (1, .int (v1)), (2, .int (v2)), (3, .int (v3)), (4, .int (v4)), (5, .int (v5)), (8, .int (v8))]) G (Nat.le_of_ble_eq_true rfl) rfl (z_dec T_X12_worstWith_ok 43 (83, .istore 6, 2) rfl) ?_
    refine zx_iconst (pc := 85) (v := 1) G (z_dec T_X12_worstWith_ok 44 (85, .iconst 1, 1) rfl) rfl ?_
    refine zx_istore (pc := 86) (lv' := [(7, .int ((1 : Int32))), (6, .int (t0)), (0, .ref (0)), (1, .int (v1)), (2, .int (v2)), (3, .int (v3)), (4, .int (v4)), (5, .int (v5)), (8, .int (v8))]) G (Nat.le_of_ble_eq_true rfl) rfl (z_dec T_X12_worstWith_ok 45 (86, .istore 7, 2) rfl) ?_
    refine zx_iinc (pc := 88) (v := v8 + 1) (lv' := [(8, .int (v8 + 1)), (7, .int ((1 : Int32))), (6, .int (t0)), (0, .ref (0)), (1, .int (v1)), (2, .int (v2)), (3, .int (v3)), (4, .int (v4)), (5, .int (v5))]) G 8 rfl (z_inc (by decide)) (Nat.le_of_ble_eq_true rfl) rfl (z_dec T_X12_worstWith_ok 46 (88, .iinc 8 1, 3) rfl) ?_
    refine zx_goto (pc := 91) (tgt := 9) G rfl (z_dec T_X12_worstWith_ok 47 (91, .goto (-82), 3) rfl) ?_
    refine zx_sub (lv' := [(0, .ref (0)), (1, .int (v1)), (2, .int (v2)), (3, .int (v3)), (4, .int (v4)), (5, .int (v5)), (6, .int (t0)), (7, .int ((1 : Int32))), (8, .int (v8 + 1))]) [3, 4, 5, 6, 7, 8, 2, 1, 0] rfl ?_
    exact hP9 _ _ _ _ _ _ _ _ _ h f_l0 (Or.inr rfl)
set_option maxRecDepth 100000 in
set_option maxHeartbeats 4000000 in
theorem L_X12_worstWith_61_ok {p : Program} {l : Launch} {e : Env} {s : State} {m : MethodId} {args : Array Value} {below : List Frame} {meth : Method} {c : Code} {D : va_G} {A : Nat → Prop} {ρ : z_A} {kd : z_K} {q : z_Q} {μ : z_M} {K : Int32 → z_M → Prop} {P9 : Int32 → Int32 → Int32 → Int32 → Int32 → Int32 → Int32 → Int32 → z_M → Prop} {v1 : Int32} {v2 : Int32} {v3 : Int32} {v4 : Int32} {v5 : Int32} {v6 : Int32} {v7 : Int32} {v8 : Int32} {t0 : Int32} {t1 : Int32} (G : z_G p c cX12_worstWith s m args RX12 10 D) (hr : meth.sig.returnType = (Option.some Jvm.ClassFile.FieldType.int)) (hlk : meth.locks = false) (hP9 : ∀ (v1 : Int32) (v2 : Int32) (v3 : Int32) (v4 : Int32) (v5 : Int32) (v6 : Int32) (v7 : Int32) (v8 : Int32) (μ : z_M), P9 v1 v2 v3 v4 v5 v6 v7 v8 μ → (kd 0 = some (.inl 12)) → ((v7 = 0 ∨ v7 = 1)) → z_X p l e rm_X12_worstWith s m args below meth c 10 D A (MQ below (z_Qn D A ρ kd (z_Ki q K)) args s 0 0 A) 0 0 ρ kd q μ 9 [(0, .ref (0)), (1, .int (v1)), (2, .int (v2)), (3, .int (v3)), (4, .int (v4)), (5, .int (v5)), (6, .int (v6)), (7, .int (v7)), (8, .int (v8))] []) (hI : z_I kd q) (f_l0 : kd 0 = some (.inl 12)) (f_l7 : (v7 = 0 ∨ v7 = 1)) (h : L_X12_worstWith_61 K P9 v1 v2 v3 v4 v5 v6 v7 v8 t0 t1 μ) : z_X p l e rm_X12_worstWith s m args below meth c 10 D A (MQ below (z_Qn D A ρ kd (z_Ki q K)) args s 0 0 A) 0 0 ρ kd q μ 61 [(0, .ref (0)), (1, .int (v1)), (2, .int (v2)), (3, .int (v3)), (4, .int (v4)), (5, .int (v5)), (6, .int (v6)), (7, .int (v7)), (8, .int (v8))] [.int (t0), .int (t1)] := by
    unfold L_X12_worstWith_61 at h
    refine zx_iadd (pc := 61) G  (z_dec T_X12_worstWith_ok 33 (61, .iadd, 1) rfl) ?_
    refine zx_istore (pc := 62) (lv' := [(9, .int (t1 + t0)), (0, .ref (0)), (1, .int (v1)), (2, .int (v2)), (3, .int (v3)), (4, .int (v4)), (5, .int (v5)), (6, .int (v6)), (7, .int (v7)), (8, .int (v8))]) G (Nat.le_of_ble_eq_true rfl) rfl (z_dec T_X12_worstWith_ok 34 (62, .istore 9, 2) rfl) ?_
    refine zx_iload (pc := 64) G 8 rfl (z_dec T_X12_worstWith_ok 35 (64, .iload 7, 2) rfl) ?_
    refine zx_if_eq (pc := 66) (tgt := 76) G rfl (z_dec T_X12_worstWith_ok 36 (66, .ifCond .eq 10, 3) rfl) (fun hc => ?_) (fun hc => ?_)
    · replace h := z_pos hc h
      refine zx_iload (pc := 76) G 0 rfl (z_dec T_X12_worstWith_ok 40 (76, .iload 9, 2) rfl) ?_
      refine zx_goto (pc := 78) (tgt := 83) G rfl (z_dec T_X12_worstWith_ok 41 (78, .goto 5, 3) rfl) ?_
      refine zx_sub (lv' := [(0, .ref (0)), (1, .int (v1)), (2, .int (v2)), (3, .int (v3)), (4, .int (v4)), (5, .int (v5)), (8, .int (v8))]) [1, 2, 3, 4, 5, 6, 9] rfl ?_
      exact L_X12_worstWith_83_ok G hr hlk hP9 hI f_l0 h
    · replace h := z_neg hc h
      refine zx_iload (pc := 69) G 0 rfl (z_dec T_X12_worstWith_ok 37 (69, .iload 9, 2) rfl) ?_
      refine zx_iload (pc := 71) G 7 rfl (z_dec T_X12_worstWith_ok 38 (71, .iload 6, 2) rfl) ?_
      refine zx_icmp_ge (pc := 73) (tgt := 81) G rfl (z_dec T_X12_worstWith_ok 39 (73, .if_icmp .ge 8, 3) rfl) (fun hc => ?_) (fun hc => ?_)
      · replace h := z_pos hc h
        refine zx_iload (pc := 81) G 7 rfl (z_dec T_X12_worstWith_ok 42 (81, .iload 6, 2) rfl) ?_
        refine zx_sub (lv' := [(0, .ref (0)), (1, .int (v1)), (2, .int (v2)), (3, .int (v3)), (4, .int (v4)), (5, .int (v5)), (8, .int (v8))]) [1, 2, 3, 4, 5, 6, 9] rfl ?_
        exact L_X12_worstWith_83_ok G hr hlk hP9 hI f_l0 h
      · replace h := z_neg hc h
        refine zx_iload (pc := 76) G 0 rfl (z_dec T_X12_worstWith_ok 40 (76, .iload 9, 2) rfl) ?_
        refine zx_goto (pc := 78) (tgt := 83) G rfl (z_dec T_X12_worstWith_ok 41 (78, .goto 5, 3) rfl) ?_
        refine zx_sub (lv' := [(0, .ref (0)), (1, .int (v1)), (2, .int (v2)), (3, .int (v3)), (4, .int (v4)), (5, .int (v5)), (8, .int (v8))]) [1, 2, 3, 4, 5, 6, 9] rfl ?_
        exact L_X12_worstWith_83_ok G hr hlk hP9 hI f_l0 h
set_option maxRecDepth 100000 in
set_option maxHeartbeats 4000000 in
theorem B_X12_worstWith_9_ok {p : Program} {l : Launch} {e : Env} {s : State} {m : MethodId} {args : Array Value} {below : List Frame} {meth : Method} {c : Code} {D : va_G} {A : Nat → Prop} {ρ : z_A} {kd : z_K} {q : z_Q} {μ : z_M} {K : Int32 → z_M → Prop} {P9 : Int32 → Int32 → Int32 → Int32 → Int32 → Int32 → Int32 → Int32 → z_M → Prop} {v1 : Int32} {v2 : Int32} {v3 : Int32} {v4 : Int32} {v5 : Int32} {v6 : Int32} {v7 : Int32} {v8 : Int32} (G : z_G p c cX12_worstWith s m args RX12 10 D) (hr : meth.sig.returnType = (Option.some Jvm.ClassFile.FieldType.int)) (hlk : meth.locks = false) (hP9 : ∀ (v1 : Int32) (v2 : Int32) (v3 : Int32) (v4 : Int32) (v5 : Int32) (v6 : Int32) (v7 : Int32) (v8 : Int32) (μ : z_M), P9 v1 v2 v3 v4 v5 v6 v7 v8 μ → (kd 0 = some (.inl 12)) → ((v7 = 0 ∨ v7 = 1)) → z_X p l e rm_X12_worstWith s m args below meth c 10 D A (MQ below (z_Qn D A ρ kd (z_Ki q K)) args s 0 0 A) 0 0 ρ kd q μ 9 [(0, .ref (0)), (1, .int (v1)), (2, .int (v2)), (3, .int (v3)), (4, .int (v4)), (5, .int (v5)), (6, .int (v6)), (7, .int (v7)), (8, .int (v8))] []) (hI : z_I kd q) (f_l0 : kd 0 = some (.inl 12)) (f_l7 : (v7 = 0 ∨ v7 = 1)) (h : B_X12_worstWith_9 K P9 v1 v2 v3 v4 v5 v6 v7 v8 μ) : z_X p l e rm_X12_worstWith s m args below meth c 10 D A (MQ below (z_Qn D A ρ kd (z_Ki q K)) args s 0 0 A) 0 0 ρ kd q μ 9 [(0, .ref (0)), (1, .int (v1)), (2, .int (v2)), (3, .int (v3)), (4, .int (v4)), (5, .int (v5)), (6, .int (v6)), (7, .int (v7)), (8, .int (v8))] [] := by
    unfold B_X12_worstWith_9 at h
    refine zx_iload (pc := 9) G 8 rfl (z_dec T_X12_worstWith_ok 6 (9, .iload 8, 2) rfl) ?_
    refine zx_aload_n (pc := 11) G (some (0)) 0 rfl rfl (z_dec T_X12_worstWith_ok 7 (11, .aload_n 0, 1) rfl) ?_
    refine zx_getF (pc := 12) (b := 10) G gf_RX12_20 rfl f_l0 (zq_12_9 hI f_l0) (z_dec T_X12_worstWith_ok 8 (12, .getfield 20, 3) rfl) ?_
    refine zx_iload_n (pc := 15) G 2 rfl rfl (z_dec T_X12_worstWith_ok 9 (15, .iload_n 2, 1) rfl) ?_
    obtain ⟨c1, h⟩ := h
    refine zx_iald (pc := 16) G (zk_12_9 hI f_l0) c1 (z_dec T_X12_worstWith_ok 10 (16, .iaload, 1) rfl) ?_
    refine zx_icmp_ge (pc := 17) (tgt := 94) G rfl (z_dec T_X12_worstWith_ok 11 (17, .if_icmp .ge 77, 3) rfl) (fun hc => ?_) (fun hc => ?_)
    · replace h := z_pos hc h
      refine zx_iload (pc := 94) G 6 rfl (z_dec T_X12_worstWith_ok 48 (94, .iload 6, 2) rfl) ?_
      exact zx_iret (pc := 96) G hr hlk (Nat.le_refl _) (Nat.le_refl _) (z_dec T_X12_worstWith_ok 49 (96, .ireturn, 1) rfl) ⟨rfl, _, rfl, h⟩
    · replace h := z_neg hc h
      refine zx_aload_n (pc := 20) G (some (0)) 0 rfl rfl (z_dec T_X12_worstWith_ok 12 (20, .aload_n 0, 1) rfl) ?_
      refine zx_iload_n (pc := 21) G 2 rfl rfl (z_dec T_X12_worstWith_ok 13 (21, .iload_n 2, 1) rfl) ?_
      refine zx_iload (pc := 22) G 8 rfl (z_dec T_X12_worstWith_ok 14 (22, .iload 8, 2) rfl) ?_
      refine zx_callV_zN (pc := 24) (rm := rm_X12_runs) G cw_RX12_183 ⟨Nat.le_of_ble_eq_true rfl, Nat.le_of_ble_eq_true rfl⟩ rfl rfl ⟨Nat.zero_le _, Nat.zero_le _⟩ f_l0 rfl (fun sz => (met_X12_runs l D ρ kd q μ sz v2 v8 _ hI f_l0 h)) rfl rfl (Nat.le_of_ble_eq_true rfl) (z_dec T_X12_worstWith_ok 15 (24, .invokevirtual 183, 3) rfl) (fun r3 μ2 hzr3 hn => ?_)
      clear h
      have h := hn
      clear hn
      refine zx_if_ne (pc := 27) (tgt := 33) G rfl (z_dec T_X12_worstWith_ok 16 (27, .ifCond .ne 6, 3) rfl) (fun hc => ?_) (fun hc => ?_)
      · replace h := z_neg hc h
        refine zx_aload_n (pc := 33) G (some (0)) 0 rfl rfl (z_dec T_X12_worstWith_ok 18 (33, .aload_n 0, 1) rfl) ?_
        refine zx_iload_n (pc := 34) G 1 rfl rfl (z_dec T_X12_worstWith_ok 19 (34, .iload_n 1, 1) rfl) ?_
        refine zx_iload_n (pc := 35) G 2 rfl rfl (z_dec T_X12_worstWith_ok 20 (35, .iload_n 2, 1) rfl) ?_
        refine zx_iload (pc := 36) G 8 rfl (z_dec T_X12_worstWith_ok 21 (36, .iload 8, 2) rfl) ?_
        refine zx_callV_iN (pc := 38) (rm := rm_X12_balanceAt) G cw_RX12_233 ⟨Nat.le_of_ble_eq_true rfl, Nat.le_of_ble_eq_true rfl⟩ rfl rfl ⟨Nat.zero_le _, Nat.zero_le _⟩ f_l0 rfl (fun sz => (met_X12_balanceAt l D ρ kd q μ2 sz v1 v2 v8 _ hI f_l0 h)) rfl rfl (Nat.le_of_ble_eq_true rfl) (z_dec T_X12_worstWith_ok 22 (38, .invokevirtual 233, 3) rfl) (fun r5 μ4 hn => ?_)
        clear h
        have h := hn
        clear hn
        refine zx_iload (pc := 41) G 8 rfl (z_dec T_X12_worstWith_ok 23 (41, .iload 8, 2) rfl) ?_
        refine zx_iload_n (pc := 43) G 3 rfl rfl (z_dec T_X12_worstWith_ok 24 (43, .iload_n 3, 1) rfl) ?_
        refine zx_icmp_ne (pc := 44) (tgt := 58) G rfl (z_dec T_X12_worstWith_ok 25 (44, .if_icmp .ne 14, 3) rfl) (fun hc => ?_) (fun hc => ?_)
        · replace h := z_neg hc h
          refine zx_iload (pc := 58) G 4 rfl (z_dec T_X12_worstWith_ok 31 (58, .iload 4, 2) rfl) ?_
          refine zx_ineg (pc := 60) G  (z_dec T_X12_worstWith_ok 32 (60, .ineg, 1) rfl) ?_
          exact L_X12_worstWith_61_ok G hr hlk hP9 hI f_l0 f_l7 h
        · replace h := z_pos hc h
          refine zx_aload_n (pc := 47) G (some (0)) 0 rfl rfl (z_dec T_X12_worstWith_ok 26 (47, .aload_n 0, 1) rfl) ?_
          refine zx_iload (pc := 48) G 4 rfl (z_dec T_X12_worstWith_ok 27 (48, .iload 4, 2) rfl) ?_
          refine zx_iload (pc := 50) G 5 rfl (z_dec T_X12_worstWith_ok 28 (50, .iload 5, 2) rfl) ?_
          refine zx_callV_iN (pc := 52) (rm := rm_X12_wonBy) G cw_RX12_230 ⟨Nat.le_of_ble_eq_true rfl, Nat.le_of_ble_eq_true rfl⟩ rfl rfl ⟨Nat.zero_le _, Nat.zero_le _⟩ f_l0 rfl (fun sz => (met_X12_wonBy l D ρ kd q μ4 sz v4 v5 _ hI f_l0 h)) rfl rfl (Nat.le_of_ble_eq_true rfl) (z_dec T_X12_worstWith_ok 29 (52, .invokevirtual 230, 3) rfl) (fun r7 μ6 hn => ?_)
          clear h
          have h := hn
          clear hn
          refine zx_goto (pc := 55) (tgt := 61) G rfl (z_dec T_X12_worstWith_ok 30 (55, .goto 6, 3) rfl) ?_
          exact L_X12_worstWith_61_ok G hr hlk hP9 hI f_l0 f_l7 h
      · replace h := z_pos hc h
        refine zx_goto (pc := 30) (tgt := 88) G rfl (z_dec T_X12_worstWith_ok 17 (30, .goto 58, 3) rfl) ?_
        refine zx_iinc (pc := 88) (v := v8 + 1) (lv' := [(8, .int (v8 + 1)), (0, .ref (0)), (1, .int (v1)), (2, .int (v2)), (3, .int (v3)), (4, .int (v4)), (5, .int (v5)), (6, .int (v6)), (7, .int (v7))]) G 8 rfl (z_inc (by decide)) (Nat.le_of_ble_eq_true rfl) rfl (z_dec T_X12_worstWith_ok 46 (88, .iinc 8 1, 3) rfl) ?_
        refine zx_goto (pc := 91) (tgt := 9) G rfl (z_dec T_X12_worstWith_ok 47 (91, .goto (-82), 3) rfl) ?_
        refine zx_sub (lv' := [(0, .ref (0)), (1, .int (v1)), (2, .int (v2)), (3, .int (v3)), (4, .int (v4)), (5, .int (v5)), (6, .int (v6)), (7, .int (v7)), (8, .int (v8 + 1))]) [1, 2, 3, 4, 5, 6, 7, 8, 0] rfl ?_
        exact hP9 _ _ _ _ _ _ _ _ _ h f_l0 f_l7
set_option maxRecDepth 100000 in
set_option maxHeartbeats 4000000 in
theorem L_X12_worstWith_9_ok {p : Program} {l : Launch} {e : Env} {s : State} {m : MethodId} {args : Array Value} {below : List Frame} {meth : Method} {c : Code} {D : va_G} {A : Nat → Prop} {ρ : z_A} {kd : z_K} {q : z_Q} {μ : z_M} {K : Int32 → z_M → Prop} {v1 : Int32} {v2 : Int32} {v3 : Int32} {v4 : Int32} {v5 : Int32} {v6 : Int32} {v7 : Int32} {v8 : Int32} (G : z_G p c cX12_worstWith s m args RX12 10 D) (hr : meth.sig.returnType = (Option.some Jvm.ClassFile.FieldType.int)) (hlk : meth.locks = false) (hI : z_I kd q) (f_l0 : kd 0 = some (.inl 12)) (f_l7 : (v7 = 0 ∨ v7 = 1)) (h : L_X12_worstWith_9 K v1 v2 v3 v4 v5 v6 v7 v8 μ) : z_X p l e rm_X12_worstWith s m args below meth c 10 D A (MQ below (z_Qn D A ρ kd (z_Ki q K)) args s 0 0 A) 0 0 ρ kd q μ 9 [(0, .ref (0)), (1, .int (v1)), (2, .int (v2)), (3, .int (v3)), (4, .int (v4)), (5, .int (v5)), (6, .int (v6)), (7, .int (v7)), (8, .int (v8))] [] :=
  h (fun (v1 : Int32) (v2 : Int32) (v3 : Int32) (v4 : Int32) (v5 : Int32) (v6 : Int32) (v7 : Int32) (v8 : Int32) (μ : z_M) => (kd 0 = some (.inl 12)) → ((v7 = 0 ∨ v7 = 1)) → z_X p l e rm_X12_worstWith s m args below meth c 10 D A (MQ below (z_Qn D A ρ kd (z_Ki q K)) args s 0 0 A) 0 0 ρ kd q μ 9 [(0, .ref (0)), (1, .int (v1)), (2, .int (v2)), (3, .int (v3)), (4, .int (v4)), (5, .int (v5)), (6, .int (v6)), (7, .int (v7)), (8, .int (v8))] []) (fun v1 v2 v3 v4 v5 v6 v7 v8 μ h f_l0 f_l7 => B_X12_worstWith_9_ok G hr hlk (fun _ _ _ _ _ _ _ _ _ h => h) hI f_l0 f_l7 h) f_l0 f_l7
set_option maxRecDepth 100000 in
set_option maxHeartbeats 4000000 in
theorem met_X12_worstWith (l : Launch) (D : va_G) (ρ : z_A) (kd : z_K) (q : z_Q) (μ : z_M) (sz : Nat) (a1 : Int32) (a2 : Int32) (a3 : Int32) (a4 : Int32) (a5 : Int32) (K : Int32 → z_M → Prop) (hI : z_I kd q) (h_o : kd 0 = some (.inl 12)) (h : C_X12_worstWith a1 a2 a3 a4 a5 μ K) : Met l yX12_worstWith (z_ws yX12_worstWith cX12_worstWith 10 (Option.some Jvm.ClassFile.FieldType.int)) rm_X12_worstWith (z_Pc D ρ kd q μ sz [.ref (0), .int (a1), .int (a2), .int (a3), .int (a4), .int (a5)]) (z_Qn D (z_Rg ρ sz) ρ kd (z_Ki q K)) 0 0 (z_Rg ρ sz) := by
  refine z_met (rm := rm_X12_worstWith) (by decide) (Nat.le_of_ble_eq_true rfl) (fun p e s m args below meth c G hr hlk => ?_)
  unfold C_X12_worstWith at h
  show z_X _ _ _ _ _ _ _ _ _ _ _ _ _ _ _ _ _ _ _ _ _ [(0, .ref (0)), (1, .int (a1)), (2, .int (a2)), (3, .int (a3)), (4, .int (a4)), (5, .int (a5))] _
  refine zx_iconst (pc := 0) (v := 0) G (z_dec T_X12_worstWith_ok 0 (0, .iconst 0, 1) rfl) rfl ?_
  refine zx_istore (pc := 1) (lv' := [(6, .int ((0 : Int32))), (0, .ref (0)), (1, .int (a1)), (2, .int (a2)), (3, .int (a3)), (4, .int (a4)), (5, .int (a5))]) G (Nat.le_of_ble_eq_true rfl) rfl (z_dec T_X12_worstWith_ok 1 (1, .istore 6, 2) rfl) ?_
  refine zx_iconst (pc := 3) (v := 0) G (z_dec T_X12_worstWith_ok 2 (3, .iconst 0, 1) rfl) rfl ?_
  refine zx_istore (pc := 4) (lv' := [(7, .int ((0 : Int32))), (6, .int ((0 : Int32))), (0, .ref (0)), (1, .int (a1)), (2, .int (a2)), (3, .int (a3)), (4, .int (a4)), (5, .int (a5))]) G (Nat.le_of_ble_eq_true rfl) rfl (z_dec T_X12_worstWith_ok 3 (4, .istore 7, 2) rfl) ?_
  refine zx_iconst (pc := 6) (v := 0) G (z_dec T_X12_worstWith_ok 4 (6, .iconst 0, 1) rfl) rfl ?_
  refine zx_istore (pc := 7) (lv' := [(8, .int ((0 : Int32))), (7, .int ((0 : Int32))), (6, .int ((0 : Int32))), (0, .ref (0)), (1, .int (a1)), (2, .int (a2)), (3, .int (a3)), (4, .int (a4)), (5, .int (a5))]) G (Nat.le_of_ble_eq_true rfl) rfl (z_dec T_X12_worstWith_ok 5 (7, .istore 8, 2) rfl) ?_
  refine zx_sub (lv' := [(0, .ref (0)), (1, .int (a1)), (2, .int (a2)), (3, .int (a3)), (4, .int (a4)), (5, .int (a5)), (6, .int ((0 : Int32))), (7, .int ((0 : Int32))), (8, .int ((0 : Int32)))]) [3, 4, 5, 6, 7, 8, 2, 1, 0] rfl ?_
  exact L_X12_worstWith_9_ok G hr hlk hI h_o (Or.inl rfl) h
