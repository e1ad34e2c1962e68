abbrev rm_X1_stakesOf : Room := { frames := 0, cells := 0, slots := 0, locals := 0 }
set_option maxRecDepth 100000 in
set_option maxHeartbeats 4000000 in
theorem met_X1_stakesOf (l : Launch) (D : va_G) (ρ : z_A) (kd : z_K) (q : z_Q) (μ : z_M) (sz : Nat) (o : Nat) (a1 : Int32) (K : Int32 → z_M → Prop) (hI : z_I kd q) (h_o : kd o = some (.inl 1)) (h : C_X1_stakesOf kd q o a1 μ K) : Met l yX1_stakesOf (z_ws yX1_stakesOf cX1_stakesOf 2 (Option.some Jvm.ClassFile.FieldType.int)) rm_X1_stakesOf (z_Pc D ρ kd q μ sz [.ref (o), .int (a1)]) (z_Qn D (z_Rg ρ sz) ρ kd (z_Ki q K)) 0 0 (z_Rg ρ sz) := by
  refine z_met (rm := rm_X1_stakesOf) (by decide) (Nat.le_of_ble_eq_true rfl) (fun p e s m args below meth c G hr hlk => ?_)
  unfold C_X1_stakesOf at h
  show z_X _ _ _ _ _ _ _ _ _ _ _ _ _ _ _ _ _ _ _ _ _ [(0, .ref (o)), (1, .int (a1))] _
  refine zx_iload_n (pc := 0) G 1 rfl rfl (z_dec T_X1_stakesOf_ok 0 (0, .iload_n 1, 1) rfl) ?_
  refine zx_if_lt (pc := 1) (tgt := 18) G rfl (z_dec T_X1_stakesOf_ok 1 (1, .ifCond .lt 17, 3) rfl) (fun hc => ?_) (fun hc => ?_)
  · replace h := z_pos hc h
    refine zx_iconst (pc := 18) (v := 0) G (z_dec T_X1_stakesOf_ok 10 (18, .iconst 0, 1) rfl) rfl ?_
    exact zx_iret (pc := 19) G hr hlk (Nat.le_refl _) (Nat.le_refl _) (z_dec T_X1_stakesOf_ok 11 (19, .ireturn, 1) rfl) ⟨rfl, _, rfl, h⟩
  · replace h := z_neg hc h
    refine zx_iload_n (pc := 4) G 1 rfl rfl (z_dec T_X1_stakesOf_ok 2 (4, .iload_n 1, 1) rfl) ?_
    refine zx_iconst (pc := 5) (v := 3) G (z_dec T_X1_stakesOf_ok 3 (5, .iconst 3, 1) rfl) rfl ?_
    refine zx_icmp_ge (pc := 6) (tgt := 18) G rfl (z_dec T_X1_stakesOf_ok 4 (6, .if_icmp .ge 12, 3) rfl) (fun hc => ?_) (fun hc => ?_)
    · replace h := z_pos hc h
      refine zx_iconst (pc := 18) (v := 0) G (z_dec T_X1_stakesOf_ok 10 (18, .iconst 0, 1) rfl) rfl ?_
      exact zx_iret (pc := 19) G hr hlk (Nat.le_refl _) (Nat.le_refl _) (z_dec T_X1_stakesOf_ok 11 (19, .ireturn, 1) rfl) ⟨rfl, _, rfl, h⟩
    · replace h := z_neg hc h
      refine zx_aload_n (pc := 9) G (some (o)) 0 rfl rfl (z_dec T_X1_stakesOf_ok 5 (9, .aload_n 0, 1) rfl) ?_
      refine zx_getF (pc := 10) (b := o + 4) G gf_RX1_25 rfl h_o (zq_1_6 hI h_o) (z_dec T_X1_stakesOf_ok 6 (10, .getfield 25, 3) rfl) ?_
      refine zx_iload_n (pc := 13) G 1 rfl rfl (z_dec T_X1_stakesOf_ok 7 (13, .iload_n 1, 1) rfl) ?_
      obtain ⟨c1, h⟩ := h
      refine zx_iald (pc := 14) G (zk_1_6 hI h_o) c1 (z_dec T_X1_stakesOf_ok 8 (14, .iaload, 1) rfl) ?_
      refine zx_goto (pc := 15) (tgt := 19) G rfl (z_dec T_X1_stakesOf_ok 9 (15, .goto 4, 3) rfl) ?_
      exact zx_iret (pc := 19) G hr hlk (Nat.le_refl _) (Nat.le_refl _) (z_dec T_X1_stakesOf_ok 11 (19, .ireturn, 1) rfl) ⟨rfl, _, rfl, h⟩
abbrev rm_X1_balanceAt : Room := { frames := 0, cells := 0, slots := 0, locals := 0 }
set_option maxRecDepth 100000 in
set_option maxHeartbeats 4000000 in
theorem met_X1_balanceAt (l : Launch) (D : va_G) (ρ : z_A) (kd : z_K) (q : z_Q) (μ : z_M) (sz : Nat) (o : Nat) (a1 : Int32) (a2 : Int32) (K : Int32 → z_M → Prop) (hI : z_I kd q) (h_o : kd o = some (.inl 1)) (h : C_X1_balanceAt kd q o a1 a2 μ K) : Met l yX1_balanceAt (z_ws yX1_balanceAt cX1_balanceAt 4 (Option.some Jvm.ClassFile.FieldType.int)) rm_X1_balanceAt (z_Pc D ρ kd q μ sz [.ref (o), .int (a1), .int (a2)]) (z_Qn D (z_Rg ρ sz) ρ kd (z_Ki q K)) 0 0 (z_Rg ρ sz) := by
  refine z_met (rm := rm_X1_balanceAt) (by decide) (Nat.le_of_ble_eq_true rfl) (fun p e s m args below meth c G hr hlk => ?_)
  unfold C_X1_balanceAt at h
  show z_X _ _ _ _ _ _ _ _ _ _ _ _ _ _ _ _ _ _ _ _ _ [(0, .ref (o)), (1, .int (a1)), (2, .int (a2))] _
  refine zx_iload_n (pc := 0) G 1 rfl rfl (z_dec T_X1_balanceAt_ok 0 (0, .iload_n 1, 1) rfl) ?_
  refine zx_bipush (pc := 1) (v := 8) G (z_dec T_X1_balanceAt_ok 1 (1, .bipush 8, 2) rfl) rfl ?_
  refine zx_imul (pc := 3) G  (z_dec T_X1_balanceAt_ok 2 (3, .imul, 1) rfl) ?_
  refine zx_iload_n (pc := 4) G 2 rfl rfl (z_dec T_X1_balanceAt_ok 3 (4, .iload_n 2, 1) rfl) ?_
  refine zx_iadd (pc := 5) G  (z_dec T_X1_balanceAt_ok 4 (5, .iadd, 1) rfl) ?_
  refine zx_istore_n (pc := 6) (lv' := [(3, .int ((a1 * ((8 : Int32))) + a2)), (0, .ref (o)), (1, .int (a1)), (2, .int (a2))]) G rfl (Nat.le_of_ble_eq_true rfl) rfl (z_dec T_X1_balanceAt_ok 5 (6, .istore_n 3, 1) rfl) ?_
  refine zx_iload_n (pc := 7) G 2 rfl rfl (z_dec T_X1_balanceAt_ok 6 (7, .iload_n 1, 1) rfl) ?_
  refine zx_if_lt (pc := 8) (tgt := 26) G rfl (z_dec T_X1_balanceAt_ok 7 (8, .ifCond .lt 18, 3) rfl) (fun hc => ?_) (fun hc => ?_)
  · replace h := z_pos hc h
    refine zx_iconst (pc := 26) (v := 0) G (z_dec T_X1_balanceAt_ok 16 (26, .iconst 0, 1) rfl) rfl ?_
    exact zx_iret (pc := 27) G hr hlk (Nat.le_refl _) (Nat.le_refl _) (z_dec T_X1_balanceAt_ok 17 (27, .ireturn, 1) rfl) ⟨rfl, _, rfl, h⟩
  · replace h := z_neg hc h
    refine zx_iload_n (pc := 11) G 2 rfl rfl (z_dec T_X1_balanceAt_ok 8 (11, .iload_n 1, 1) rfl) ?_
    refine zx_iconst (pc := 12) (v := 3) G (z_dec T_X1_balanceAt_ok 9 (12, .iconst 3, 1) rfl) rfl ?_
    refine zx_icmp_ge (pc := 13) (tgt := 26) G rfl (z_dec T_X1_balanceAt_ok 10 (13, .if_icmp .ge 13, 3) rfl) (fun hc => ?_) (fun hc => ?_)
    · replace h := z_pos hc h
      refine zx_iconst (pc := 26) (v := 0) G (z_dec T_X1_balanceAt_ok 16 (26, .iconst 0, 1) rfl) rfl ?_
      exact zx_iret (pc := 27) G hr hlk (Nat.le_refl _) (Nat.le_refl _) (z_dec T_X1_balanceAt_ok 17 (27, .ireturn, 1) rfl) ⟨rfl, _, rfl, h⟩
    · replace h := z_neg hc h
      refine zx_iload_n (pc := 16) G 0 rfl rfl (z_dec T_X1_balanceAt_ok 11 (16, .iload_n 3, 1) rfl) ?_
      refine zx_if_lt (pc := 17) (tgt := 26) G rfl (z_dec T_X1_balanceAt_ok 12 (17, .ifCond .lt 9, 3) rfl) (fun hc => ?_) (fun hc => ?_)
      · replace h := z_pos hc h
        refine zx_iconst (pc := 26) (v := 0) G (z_dec T_X1_balanceAt_ok 16 (26, .iconst 0, 1) rfl) rfl ?_
        exact zx_iret (pc := 27) G hr hlk (Nat.le_refl _) (Nat.le_refl _) (z_dec T_X1_balanceAt_ok 17 (27, .ireturn, 1) rfl) ⟨rfl, _, rfl, h⟩
      · replace h := z_neg hc h
        refine zx_iload_n (pc := 20) G 0 rfl rfl (z_dec T_X1_balanceAt_ok 13 (20, .iload_n 3, 1) rfl) ?_
        refine zx_bipush (pc := 21) (v := 24) G (z_dec T_X1_balanceAt_ok 14 (21, .bipush 24, 2) rfl) rfl ?_
        refine zx_icmp_lt (pc := 23) (tgt := 28) G rfl (z_dec T_X1_balanceAt_ok 15 (23, .if_icmp .lt 5, 3) rfl) (fun hc => ?_) (fun hc => ?_)
        · replace h := z_pos hc h
          refine zx_aload_n (pc := 28) G (some (o)) 1 rfl rfl (z_dec T_X1_balanceAt_ok 18 (28, .aload_n 0, 1) rfl) ?_
          refine zx_getF (pc := 29) (b := o + 4) G gf_RX1_25 rfl h_o (zq_1_6 hI h_o) (z_dec T_X1_balanceAt_ok 19 (29, .getfield 25, 3) rfl) ?_
          refine zx_iload_n (pc := 32) G 2 rfl rfl (z_dec T_X1_balanceAt_ok 20 (32, .iload_n 1, 1) rfl) ?_
          obtain ⟨c1, h⟩ := h
          refine zx_iald (pc := 33) G (zk_1_6 hI h_o) c1 (z_dec T_X1_balanceAt_ok 21 (33, .iaload, 1) rfl) ?_
          refine zx_aload_n (pc := 34) G (some (o)) 1 rfl rfl (z_dec T_X1_balanceAt_ok 22 (34, .aload_n 0, 1) rfl) ?_
          refine zx_getF (pc := 35) (b := o + 5) G gf_RX1_28 rfl h_o (zq_1_7 hI h_o) (z_dec T_X1_balanceAt_ok 23 (35, .getfield 28, 3) rfl) ?_
          refine zx_iload_n (pc := 38) G 0 rfl rfl (z_dec T_X1_balanceAt_ok 24 (38, .iload_n 3, 1) rfl) ?_
          obtain ⟨c2, h⟩ := h
          refine zx_iald (pc := 39) G (zk_1_7 hI h_o) c2 (z_dec T_X1_balanceAt_ok 25 (39, .iaload, 1) rfl) ?_
          refine zx_isub (pc := 40) G  (z_dec T_X1_balanceAt_ok 26 (40, .isub, 1) rfl) ?_
          exact zx_iret (pc := 41) G hr hlk (Nat.le_refl _) (Nat.le_refl _) (z_dec T_X1_balanceAt_ok 27 (41, .ireturn, 1) rfl) ⟨rfl, _, rfl, h⟩
        · replace h := z_neg hc h
          refine zx_iconst (pc := 26) (v := 0) G (z_dec T_X1_balanceAt_ok 16 (26, .iconst 0, 1) rfl) rfl ?_
          exact zx_iret (pc := 27) G hr hlk (Nat.le_refl _) (Nat.le_refl _) (z_dec T_X1_balanceAt_ok 17 (27, .ireturn, 1) rfl) ⟨rfl, _, rfl, h⟩
abbrev rm_X7_advance : Room := { frames := 0, cells := 0, slots := 0, locals := 0 }
set_option maxRecDepth 100000 in
set_option maxHeartbeats 4000000 in
theorem met_X7_advance (l : Launch) (D : va_G) (ρ : z_A) (kd : z_K) (q : z_Q) (μ : z_M) (sz : Nat) (K : z_M → Prop) (hI : z_I kd q) (h_o : kd 10 = some (.inl 7)) (h : C_X7_advance kd q μ K) : Met l yX7_advance (z_ws yX7_advance cX7_advance 1 (Option.none : Option Jvm.ClassFile.FieldType)) rm_X7_advance (z_Pc D ρ kd q μ sz [.ref (10)]) (z_Qn D (z_Rg ρ sz) ρ kd (z_Kv q K)) 0 0 (z_Rg ρ sz) := by
  refine z_met (rm := rm_X7_advance) (by decide) (Nat.le_of_ble_eq_true rfl) (fun p e s m args below meth c G hr hlk => ?_)
  unfold C_X7_advance at h
  show z_X _ _ _ _ _ _ _ _ _ _ _ _ _ _ _ _ _ _ _ _ _ [(0, .ref (10))] _
  refine zx_aload_n (pc := 0) G (some (10)) 0 rfl rfl (z_dec T_X7_advance_ok 0 (0, .aload_n 0, 1) rfl) ?_
  refine zx_dup (pc := 1) G rfl (z_dec T_X7_advance_ok 1 (1, .dup, 1) rfl) ?_
  refine zx_getI (pc := 2) G gf_RX7_26 rfl h_o (z_dec T_X7_advance_ok 2 (2, .getfield 26, 3) rfl) ?_
  refine zx_iconst (pc := 5) (v := 1) G (z_dec T_X7_advance_ok 3 (5, .iconst 1, 1) rfl) rfl ?_
  refine zx_iadd (pc := 6) G  (z_dec T_X7_advance_ok 4 (6, .iadd, 1) rfl) ?_
  refine zx_putI (pc := 7) G gf_RX7_26 cf_7 rfl rfl h_o (z_dec T_X7_advance_ok 5 (7, .putfield 26, 3) rfl) ?_
  refine zx_aload_n (pc := 10) G (some (10)) 0 rfl rfl (z_dec T_X7_advance_ok 6 (10, .aload_n 0, 1) rfl) ?_
  refine zx_aload_n (pc := 11) G (some (10)) 0 rfl rfl (z_dec T_X7_advance_ok 7 (11, .aload_n 0, 1) rfl) ?_
  have hh := z_rt hI h_o
  refine zx_getR (pc := 12) G gf_RX7_15 rfl h_o (z_dec T_X7_advance_ok 8 (12, .getfield 15, 3) rfl) ?_
  generalize ew1 : q 10 1 = w1 at hh ⊢
  have fw1 := hh
  replace h := h w1 ew1.symm
  obtain ⟨h1, h2⟩ := h
  rcases w1 with _ | o2
  · replace h := h1 rfl
    refine zx_ifnullN (pc := 15) (tgt := 60) G rfl (z_dec T_X7_advance_ok 9 (15, .ifnull 45, 3) rfl) ?_
    refine zx_iconst (pc := 60) (v := -1) G (z_dec T_X7_advance_ok 30 (60, .iconst (-1), 1) rfl) rfl ?_
    refine zx_putI (pc := 61) G gf_RX7_32 cf_7 rfl rfl h_o (z_dec T_X7_advance_ok 31 (61, .putfield 32, 3) rfl) ?_
    exact zx_vret (pc := 64) G hr hlk (Nat.le_refl _) (Nat.le_refl _) (z_dec T_X7_advance_ok 32 (64, .return_, 1) rfl) ⟨rfl, rfl, h⟩
  · replace h := h2 o2 rfl
    refine zx_ifnullS (pc := 15) G (fw1 o2 rfl) (z_dec T_X7_advance_ok 9 (15, .ifnull 45, 3) rfl) ?_
    refine zx_aload_n (pc := 18) G (some (10)) 0 rfl rfl (z_dec T_X7_advance_ok 10 (18, .aload_n 0, 1) rfl) ?_
    refine zx_getI (pc := 19) G gf_RX7_26 rfl h_o (z_dec T_X7_advance_ok 11 (19, .getfield 26, 3) rfl) ?_
    refine zx_if_lt (pc := 22) (tgt := 60) G rfl (z_dec T_X7_advance_ok 12 (22, .ifCond .lt 38, 3) rfl) (fun hc => ?_) (fun hc => ?_)
    · replace h := z_pos hc h
      refine zx_iconst (pc := 60) (v := -1) G (z_dec T_X7_advance_ok 30 (60, .iconst (-1), 1) rfl) rfl ?_
      refine zx_putI (pc := 61) G gf_RX7_32 cf_7 rfl rfl h_o (z_dec T_X7_advance_ok 31 (61, .putfield 32, 3) rfl) ?_
      exact zx_vret (pc := 64) G hr hlk (Nat.le_refl _) (Nat.le_refl _) (z_dec T_X7_advance_ok 32 (64, .return_, 1) rfl) ⟨rfl, rfl, h⟩
    · replace h := z_neg hc h
      refine zx_aload_n (pc := 25) G (some (10)) 0 rfl rfl (z_dec T_X7_advance_ok 13 (25, .aload_n 0, 1) rfl) ?_
      refine zx_getI (pc := 26) G gf_RX7_26 rfl h_o (z_dec T_X7_advance_ok 14 (26, .getfield 26, 3) rfl) ?_
      refine zx_aload_n (pc := 29) G (some (10)) 0 rfl rfl (z_dec T_X7_advance_ok 15 (29, .aload_n 0, 1) rfl) ?_
      refine zx_getI (pc := 30) G gf_RX7_19 rfl h_o (z_dec T_X7_advance_ok 16 (30, .getfield 19, 3) rfl) ?_
      refine zx_icmp_ge (pc := 33) (tgt := 60) G rfl (z_dec T_X7_advance_ok 17 (33, .if_icmp .ge 27, 3) rfl) (fun hc => ?_) (fun hc => ?_)
      · replace h := z_pos hc h
        refine zx_iconst (pc := 60) (v := -1) G (z_dec T_X7_advance_ok 30 (60, .iconst (-1), 1) rfl) rfl ?_
        refine zx_putI (pc := 61) G gf_RX7_32 cf_7 rfl rfl h_o (z_dec T_X7_advance_ok 31 (61, .putfield 32, 3) rfl) ?_
        exact zx_vret (pc := 64) G hr hlk (Nat.le_refl _) (Nat.le_refl _) (z_dec T_X7_advance_ok 32 (64, .return_, 1) rfl) ⟨rfl, rfl, h⟩
      · replace h := z_neg hc h
        refine zx_aload_n (pc := 36) G (some (10)) 0 rfl rfl (z_dec T_X7_advance_ok 18 (36, .aload_n 0, 1) rfl) ?_
        refine zx_getI (pc := 37) G gf_RX7_26 rfl h_o (z_dec T_X7_advance_ok 19 (37, .getfield 26, 3) rfl) ?_
        refine zx_aload_n (pc := 40) G (some (10)) 0 rfl rfl (z_dec T_X7_advance_ok 20 (40, .aload_n 0, 1) rfl) ?_
        have hh := z_rt hI h_o
        refine zx_getR (pc := 41) G gf_RX7_15 rfl h_o (z_dec T_X7_advance_ok 21 (41, .getfield 15, 3) rfl) ?_
        generalize ew3 : q 10 1 = w3 at hh ⊢
        have fw3 := hh
        replace h := h w3 ew3.symm
        obtain ⟨o4, rfl, h⟩ := h
        refine zx_alen (pc := 44) G (fw3 o4 rfl) (z_dec T_X7_advance_ok 22 (44, .arraylength, 1) rfl) ?_
        refine zx_icmp_ge (pc := 45) (tgt := 60) G rfl (z_dec T_X7_advance_ok 23 (45, .if_icmp .ge 15, 3) rfl) (fun hc => ?_) (fun hc => ?_)
        · replace h := z_pos hc h
          refine zx_iconst (pc := 60) (v := -1) G (z_dec T_X7_advance_ok 30 (60, .iconst (-1), 1) rfl) rfl ?_
          refine zx_putI (pc := 61) G gf_RX7_32 cf_7 rfl rfl h_o (z_dec T_X7_advance_ok 31 (61, .putfield 32, 3) rfl) ?_
          exact zx_vret (pc := 64) G hr hlk (Nat.le_refl _) (Nat.le_refl _) (z_dec T_X7_advance_ok 32 (64, .return_, 1) rfl) ⟨rfl, rfl, h⟩
        · replace h := z_neg hc h
          refine zx_aload_n (pc := 48) G (some (10)) 0 rfl rfl (z_dec T_X7_advance_ok 24 (48, .aload_n 0, 1) rfl) ?_
          have hh := z_rt hI h_o
          refine zx_getR (pc := 49) G gf_RX7_15 rfl h_o (z_dec T_X7_advance_ok 25 (49, .getfield 15, 3) rfl) ?_
          generalize ew5 : q 10 1 = w5 at hh ⊢
          have fw5 := hh
          replace h := h w5 ew5.symm
          refine zx_aload_n (pc := 52) G (some (10)) 0 rfl rfl (z_dec T_X7_advance_ok 26 (52, .aload_n 0, 1) rfl) ?_
          refine zx_getI (pc := 53) G gf_RX7_26 rfl h_o (z_dec T_X7_advance_ok 27 (53, .getfield 26, 3) rfl) ?_
          obtain ⟨o6, rfl, h⟩ := h
          obtain ⟨c7, h⟩ := h
          refine zx_iald (pc := 56) G (fw5 o6 rfl) c7 (z_dec T_X7_advance_ok 28 (56, .iaload, 1) rfl) ?_
          refine zx_goto (pc := 57) (tgt := 61) G rfl (z_dec T_X7_advance_ok 29 (57, .goto 4, 3) rfl) ?_
          refine zx_putI (pc := 61) G gf_RX7_32 cf_7 rfl rfl h_o (z_dec T_X7_advance_ok 31 (61, .putfield 32, 3) rfl) ?_
          exact zx_vret (pc := 64) G hr hlk (Nat.le_refl _) (Nat.le_refl _) (z_dec T_X7_advance_ok 32 (64, .return_, 1) rfl) ⟨rfl, rfl, h⟩
abbrev rm_X7_fail : Room := { frames := 0, cells := 0, slots := 0, locals := 0 }
set_option maxRecDepth 100000 in
set_option maxHeartbeats 4000000 in
theorem met_X7_fail (l : Launch) (D : va_G) (ρ : z_A) (kd : z_K) (q : z_Q) (μ : z_M) (sz : Nat) (a1 : Int32) (K : z_M → Prop) (hI : z_I kd q) (h_o : kd 10 = some (.inl 7)) (h : C_X7_fail kd q a1 μ K) : Met l yX7_fail (z_ws yX7_fail cX7_fail 2 (Option.none : Option Jvm.ClassFile.FieldType)) rm_X7_fail (z_Pc D ρ kd q μ sz [.ref (10), .int (a1)]) (z_Qn D (z_Rg ρ sz) ρ kd (z_Kv q K)) 0 0 (z_Rg ρ sz) := by
  refine z_met (rm := rm_X7_fail) (by decide) (Nat.le_of_ble_eq_true rfl) (fun p e s m args below meth c G hr hlk => ?_)
  unfold C_X7_fail at h
  show z_X _ _ _ _ _ _ _ _ _ _ _ _ _ _ _ _ _ _ _ _ _ [(0, .ref (10)), (1, .int (a1))] _
  refine zx_aload_n (pc := 0) G (some (10)) 0 rfl rfl (z_dec T_X7_fail_ok 0 (0, .aload_n 0, 1) rfl) ?_
  refine zx_getI (pc := 1) G gf_RX7_23 rfl h_o (z_dec T_X7_fail_ok 1 (1, .getfield 23, 3) rfl) ?_
  refine zx_if_ne (pc := 4) (tgt := 12) G rfl (z_dec T_X7_fail_ok 2 (4, .ifCond .ne 8, 3) rfl) (fun hc => ?_) (fun hc => ?_)
  · replace h := z_neg hc h
    exact zx_vret (pc := 12) G hr hlk (Nat.le_refl _) (Nat.le_refl _) (z_dec T_X7_fail_ok 6 (12, .return_, 1) rfl) ⟨rfl, rfl, h⟩
  · replace h := z_pos hc h
    refine zx_aload_n (pc := 7) G (some (10)) 0 rfl rfl (z_dec T_X7_fail_ok 3 (7, .aload_n 0, 1) rfl) ?_
    refine zx_iload_n (pc := 8) G 1 rfl rfl (z_dec T_X7_fail_ok 4 (8, .iload_n 1, 1) rfl) ?_
    refine zx_putI (pc := 9) G gf_RX7_23 cf_7 rfl rfl h_o (z_dec T_X7_fail_ok 5 (9, .putfield 23, 3) rfl) ?_
    exact zx_vret (pc := 12) G hr hlk (Nat.le_refl _) (Nat.le_refl _) (z_dec T_X7_fail_ok 6 (12, .return_, 1) rfl) ⟨rfl, rfl, h⟩
abbrev rm_X7_openOne : Room := { frames := 1, cells := 0, slots := 0, locals := 21 }
set_option maxRecDepth 100000 in
set_option maxHeartbeats 4000000 in
theorem met_X7_openOne (l : Launch) (D : va_G) (ρ : z_A) (kd : z_K) (q : z_Q) (μ : z_M) (sz : Nat) (K : z_M → Prop) (hI : z_I kd q) (h_o : kd 10 = some (.inl 7)) (h : C_X7_openOne kd q μ K) : Met l yX7_openOne (z_ws yX7_openOne cX7_openOne 1 (Option.none : Option Jvm.ClassFile.FieldType)) rm_X7_openOne (z_Pc D ρ kd q μ sz [.ref (10)]) (z_Qn D (z_Rg ρ sz) ρ kd (z_Kv q K)) 0 0 (z_Rg ρ sz) := by
  refine z_met (rm := rm_X7_openOne) (by decide) (Nat.le_of_ble_eq_true rfl) (fun p e s m args below meth c G hr hlk => ?_)
  unfold C_X7_openOne at h
  show z_X _ _ _ _ _ _ _ _ _ _ _ _ _ _ _ _ _ _ _ _ _ [(0, .ref (10))] _
  refine zx_aload_n (pc := 0) G (some (10)) 0 rfl rfl (z_dec T_X7_openOne_ok 0 (0, .aload_n 0, 1) rfl) ?_
  refine zx_getI (pc := 1) G gf_RX7_23 rfl h_o (z_dec T_X7_openOne_ok 1 (1, .getfield 23, 3) rfl) ?_
  refine zx_if_eq (pc := 4) (tgt := 8) G rfl (z_dec T_X7_openOne_ok 2 (4, .ifCond .eq 4, 3) rfl) (fun hc => ?_) (fun hc => ?_)
  · replace h := z_pos hc h
    refine zx_aload_n (pc := 8) G (some (10)) 0 rfl rfl (z_dec T_X7_openOne_ok 4 (8, .aload_n 0, 1) rfl) ?_
    refine zx_getI (pc := 9) G gf_RX7_46 rfl h_o (z_dec T_X7_openOne_ok 5 (9, .getfield 46, 3) rfl) ?_
    refine zx_bipush (pc := 12) (v := 6) G (z_dec T_X7_openOne_ok 6 (12, .bipush 6, 2) rfl) rfl ?_
    refine zx_icmp_lt (pc := 14) (tgt := 25) G rfl (z_dec T_X7_openOne_ok 7 (14, .if_icmp .lt 11, 3) rfl) (fun hc => ?_) (fun hc => ?_)
    · replace h := z_pos hc h
      refine zx_aload_n (pc := 25) G (some (10)) 0 rfl rfl (z_dec T_X7_openOne_ok 12 (25, .aload_n 0, 1) rfl) ?_
      refine zx_dup (pc := 26) G rfl (z_dec T_X7_openOne_ok 13 (26, .dup, 1) rfl) ?_
      refine zx_getI (pc := 27) G gf_RX7_46 rfl h_o (z_dec T_X7_openOne_ok 14 (27, .getfield 46, 3) rfl) ?_
      refine zx_iconst (pc := 30) (v := 1) G (z_dec T_X7_openOne_ok 15 (30, .iconst 1, 1) rfl) rfl ?_
      refine zx_iadd (pc := 31) G  (z_dec T_X7_openOne_ok 16 (31, .iadd, 1) rfl) ?_
      refine zx_putI (pc := 32) G gf_RX7_46 cf_7 rfl rfl h_o (z_dec T_X7_openOne_ok 17 (32, .putfield 46, 3) rfl) ?_
      refine zx_aload_n (pc := 35) G (some (10)) 0 rfl rfl (z_dec T_X7_openOne_ok 18 (35, .aload_n 0, 1) rfl) ?_
      refine zx_callV_vN (pc := 36) (rm := rm_X7_advance) G cw_RX7_29 ⟨Nat.le_of_ble_eq_true rfl, Nat.le_of_ble_eq_true rfl⟩ rfl rfl ⟨Nat.zero_le _, Nat.zero_le _⟩ h_o rfl (fun sz => (met_X7_advance l D ρ kd q (si μ 10 5 ((μ.1 10 5) + ((1 : Int32)))) sz  _ hI h_o h)) rfl rfl (Nat.le_of_ble_eq_true rfl) (z_dec T_X7_openOne_ok 19 (36, .invokevirtual 29, 3) rfl) (fun μ1 hn => ?_)
      clear h
      have h := hn
      clear hn
      exact zx_vret (pc := 39) G hr hlk (Nat.le_refl _) (Nat.le_refl _) (z_dec T_X7_openOne_ok 20 (39, .return_, 1) rfl) ⟨rfl, rfl, h⟩
    · replace h := z_neg hc h
      refine zx_aload_n (pc := 17) G (some (10)) 0 rfl rfl (z_dec T_X7_openOne_ok 8 (17, .aload_n 0, 1) rfl) ?_
      refine zx_iconst (pc := 18) (v := 5) G (z_dec T_X7_openOne_ok 9 (18, .iconst 5, 1) rfl) rfl ?_
      refine zx_callV_vN (pc := 19) (rm := rm_X7_fail) G cw_RX7_43 ⟨Nat.le_of_ble_eq_true rfl, Nat.le_of_ble_eq_true rfl⟩ rfl rfl ⟨Nat.zero_le _, Nat.zero_le _⟩ h_o rfl (fun sz => (met_X7_fail l D ρ kd q μ sz ((5 : Int32)) _ hI h_o h)) rfl rfl (Nat.le_of_ble_eq_true rfl) (z_dec T_X7_openOne_ok 10 (19, .invokevirtual 43, 3) rfl) (fun μ2 hn => ?_)
      clear h
      have h := hn
      clear hn
      refine zx_goto (pc := 22) (tgt := 39) G rfl (z_dec T_X7_openOne_ok 11 (22, .goto 17, 3) rfl) ?_
      exact zx_vret (pc := 39) G hr hlk (Nat.le_refl _) (Nat.le_refl _) (z_dec T_X7_openOne_ok 20 (39, .return_, 1) rfl) ⟨rfl, rfl, h⟩
  · replace h := z_neg hc h
    exact zx_vret (pc := 7) G hr hlk (Nat.le_refl _) (Nat.le_refl _) (z_dec T_X7_openOne_ok 3 (7, .return_, 1) rfl) ⟨rfl, rfl, h⟩
abbrev rm_X7_pass : Room := { frames := 1, cells := 0, slots := 0, locals := 21 }
set_option maxRecDepth 100000 in
set_option maxHeartbeats 4000000 in
theorem met_X7_pass (l : Launch) (D : va_G) (ρ : z_A) (kd : z_K) (q : z_Q) (μ : z_M) (sz : Nat) (a1 : Int32) (K : z_M → Prop) (hI : z_I kd q) (h_o : kd 10 = some (.inl 7)) (h : C_X7_pass kd q a1 μ K) : Met l yX7_pass (z_ws yX7_pass cX7_pass 2 (Option.none : Option Jvm.ClassFile.FieldType)) rm_X7_pass (z_Pc D ρ kd q μ sz [.ref (10), .int (a1)]) (z_Qn D (z_Rg ρ sz) ρ kd (z_Kv q K)) 0 0 (z_Rg ρ sz) := by
  refine z_met (rm := rm_X7_pass) (by decide) (Nat.le_of_ble_eq_true rfl) (fun p e s m args below meth c G hr hlk => ?_)
  unfold C_X7_pass at h
  show z_X _ _ _ _ _ _ _ _ _ _ _ _ _ _ _ _ _ _ _ _ _ [(0, .ref (10)), (1, .int (a1))] _
  refine zx_aload_n (pc := 0) G (some (10)) 0 rfl rfl (z_dec T_X7_pass_ok 0 (0, .aload_n 0, 1) rfl) ?_
  refine zx_getI (pc := 1) G gf_RX7_23 rfl h_o (z_dec T_X7_pass_ok 1 (1, .getfield 23, 3) rfl) ?_
  refine zx_if_eq (pc := 4) (tgt := 8) G rfl (z_dec T_X7_pass_ok 2 (4, .ifCond .eq 4, 3) rfl) (fun hc => ?_) (fun hc => ?_)
  · replace h := z_pos hc h
    refine zx_aload_n (pc := 8) G (some (10)) 0 rfl rfl (z_dec T_X7_pass_ok 4 (8, .aload_n 0, 1) rfl) ?_
    refine zx_getI (pc := 9) G gf_RX7_32 rfl h_o (z_dec T_X7_pass_ok 5 (9, .getfield 32, 3) rfl) ?_
    refine zx_iload_n (pc := 12) G 1 rfl rfl (z_dec T_X7_pass_ok 6 (12, .iload_n 1, 1) rfl) ?_
    refine zx_icmp_eq (pc := 13) (tgt := 24) G rfl (z_dec T_X7_pass_ok 7 (13, .if_icmp .eq 11, 3) rfl) (fun hc => ?_) (fun hc => ?_)
    · replace h := z_pos hc h
      refine zx_aload_n (pc := 24) G (some (10)) 0 rfl rfl (z_dec T_X7_pass_ok 12 (24, .aload_n 0, 1) rfl) ?_
      refine zx_callV_vN (pc := 25) (rm := rm_X7_advance) G cw_RX7_29 ⟨Nat.le_of_ble_eq_true rfl, Nat.le_of_ble_eq_true rfl⟩ rfl rfl ⟨Nat.zero_le _, Nat.zero_le _⟩ h_o rfl (fun sz => (met_X7_advance l D ρ kd q μ sz  _ hI h_o h)) rfl rfl (Nat.le_of_ble_eq_true rfl) (z_dec T_X7_pass_ok 13 (25, .invokevirtual 29, 3) rfl) (fun μ1 hn => ?_)
      clear h
      have h := hn
      clear hn
      exact zx_vret (pc := 28) G hr hlk (Nat.le_refl _) (Nat.le_refl _) (z_dec T_X7_pass_ok 14 (28, .return_, 1) rfl) ⟨rfl, rfl, h⟩
    · replace h := z_neg hc h
      refine zx_aload_n (pc := 16) G (some (10)) 0 rfl rfl (z_dec T_X7_pass_ok 8 (16, .aload_n 0, 1) rfl) ?_
      refine zx_iconst (pc := 17) (v := 1) G (z_dec T_X7_pass_ok 9 (17, .iconst 1, 1) rfl) rfl ?_
      refine zx_callV_vN (pc := 18) (rm := rm_X7_fail) G cw_RX7_43 ⟨Nat.le_of_ble_eq_true rfl, Nat.le_of_ble_eq_true rfl⟩ rfl rfl ⟨Nat.zero_le _, Nat.zero_le _⟩ h_o rfl (fun sz => (met_X7_fail l D ρ kd q μ sz ((1 : Int32)) _ hI h_o h)) rfl rfl (Nat.le_of_ble_eq_true rfl) (z_dec T_X7_pass_ok 10 (18, .invokevirtual 43, 3) rfl) (fun μ2 hn => ?_)
      clear h
      have h := hn
      clear hn
      refine zx_goto (pc := 21) (tgt := 28) G rfl (z_dec T_X7_pass_ok 11 (21, .goto 7, 3) rfl) ?_
      exact zx_vret (pc := 28) G hr hlk (Nat.le_refl _) (Nat.le_refl _) (z_dec T_X7_pass_ok 14 (28, .return_, 1) rfl) ⟨rfl, rfl, h⟩
  · replace h := z_neg hc h
    exact zx_vret (pc := 7) G hr hlk (Nat.le_refl _) (Nat.le_refl _) (z_dec T_X7_pass_ok 3 (7, .return_, 1) rfl) ⟨rfl, rfl, h⟩
abbrev rm_X7_number : Room := { frames := 1, cells := 0, slots := 0, locals := 21 }
set_option maxRecDepth 100000 in
set_option maxHeartbeats 4000000 in
theorem L_X7_number_54_ok {p : Program} {l : Launch} {e : Env} {s : State} {m : MethodId} {args : Array Value} {below : List Frame} {meth : Method} {c : Code} {D : va_G} {A : Nat → Prop} {ρ : z_A} {kd : z_K} {q : z_Q} {μ : z_M} {K : Int64 → z_M → Prop} {v1 : Int64} (G : z_G p c cX7_number s m args RX7 4 D) (hr : meth.sig.returnType = (Option.some Jvm.ClassFile.FieldType.long)) (hlk : meth.locks = false) (hI : z_I kd q) (f_l0 : kd 10 = some (.inl 7)) (h : L_X7_number_54 kd q K v1 μ) : z_X p l e rm_X7_number s m args below meth c 4 D A (MQ below (z_Qn D A ρ kd (z_Kl q K)) args s 0 0 A) 0 0 ρ kd q μ 54 [(0, .ref (10)), (1, .long (v1))] [] := by
    unfold L_X7_number_54 at h
    refine zx_aload_n (pc := 54) G (some (10)) 0 rfl rfl (z_dec T_X7_number_ok 29 (54, .aload_n 0, 1) rfl) ?_
    refine zx_getI (pc := 55) G gf_RX7_32 rfl f_l0 (z_dec T_X7_number_ok 30 (55, .getfield 32, 3) rfl) ?_
    refine zx_bipush (pc := 58) (v := 48) G (z_dec T_X7_number_ok 31 (58, .bipush 48, 2) rfl) rfl ?_
    refine zx_icmp_lt (pc := 60) (tgt := 77) G rfl (z_dec T_X7_number_ok 32 (60, .if_icmp .lt 17, 3) rfl) (fun hc => ?_) (fun hc => ?_)
    · replace h := z_pos hc h
      refine zx_lload_n (pc := 77) G 1 rfl rfl (z_dec T_X7_number_ok 40 (77, .lload_n 1, 1) rfl) ?_
      exact zx_lret (pc := 78) G hr hlk (Nat.le_refl _) (Nat.le_refl _) (z_dec T_X7_number_ok 41 (78, .lreturn, 1) rfl) ⟨rfl, _, rfl, h⟩
    · replace h := z_neg hc h
      refine zx_aload_n (pc := 63) G (some (10)) 0 rfl rfl (z_dec T_X7_number_ok 33 (63, .aload_n 0, 1) rfl) ?_
      refine zx_getI (pc := 64) G gf_RX7_32 rfl f_l0 (z_dec T_X7_number_ok 34 (64, .getfield 32, 3) rfl) ?_
      refine zx_bipush (pc := 67) (v := 57) G (z_dec T_X7_number_ok 35 (67, .bipush 57, 2) rfl) rfl ?_
      refine zx_icmp_gt (pc := 69) (tgt := 77) G rfl (z_dec T_X7_number_ok 36 (69, .if_icmp .gt 8, 3) rfl) (fun hc => ?_) (fun hc => ?_)
      · replace h := z_pos hc h
        refine zx_lload_n (pc := 77) G 1 rfl rfl (z_dec T_X7_number_ok 40 (77, .lload_n 1, 1) rfl) ?_
        exact zx_lret (pc := 78) G hr hlk (Nat.le_refl _) (Nat.le_refl _) (z_dec T_X7_number_ok 41 (78, .lreturn, 1) rfl) ⟨rfl, _, rfl, h⟩
      · replace h := z_neg hc h
        refine zx_aload_n (pc := 72) G (some (10)) 0 rfl rfl (z_dec T_X7_number_ok 37 (72, .aload_n 0, 1) rfl) ?_
        refine zx_iconst (pc := 73) (v := 2) G (z_dec T_X7_number_ok 38 (73, .iconst 2, 1) rfl) rfl ?_
        refine zx_callV_vN (pc := 74) (rm := rm_X7_fail) G cw_RX7_43 ⟨Nat.le_of_ble_eq_true rfl, Nat.le_of_ble_eq_true rfl⟩ rfl rfl ⟨Nat.zero_le _, Nat.zero_le _⟩ f_l0 rfl (fun sz => (met_X7_fail l D ρ kd q μ sz ((2 : Int32)) _ hI f_l0 h)) rfl rfl (Nat.le_of_ble_eq_true rfl) (z_dec T_X7_number_ok 39 (74, .invokevirtual 43, 3) rfl) (fun μ1 hn => ?_)
        clear h
        have h := hn
        clear hn
        refine zx_lload_n (pc := 77) G 1 rfl rfl (z_dec T_X7_number_ok 40 (77, .lload_n 1, 1) rfl) ?_
        exact zx_lret (pc := 78) G hr hlk (Nat.le_refl _) (Nat.le_refl _) (z_dec T_X7_number_ok 41 (78, .lreturn, 1) rfl) ⟨rfl, _, rfl, h⟩
set_option maxRecDepth 100000 in
set_option maxHeartbeats 4000000 in
theorem B_X7_number_4_ok {p : Program} {l : Launch} {e : Env} {s : State} {m : MethodId} {args : Array Value} {below : List Frame} {meth : Method} {c : Code} {D : va_G} {A : Nat → Prop} {ρ : z_A} {kd : z_K} {q : z_Q} {μ : z_M} {K : Int64 → z_M → Prop} {P4 : Int64 → Int32 → z_M → Prop} {v1 : Int64} {v3 : Int32} (G : z_G p c cX7_number s m args RX7 4 D) (hr : meth.sig.returnType = (Option.some Jvm.ClassFile.FieldType.long)) (hlk : meth.locks = false) (hP4 : ∀ (v1 : Int64) (v3 : Int32) (μ : z_M), P4 v1 v3 μ → (kd 10 = some (.inl 7)) → z_X p l e rm_X7_number s m args below meth c 4 D A (MQ below (z_Qn D A ρ kd (z_Kl q K)) args s 0 0 A) 0 0 ρ kd q μ 4 [(0, .ref (10)), (1, .long (v1)), (3, .int (v3))] []) (hI : z_I kd q) (f_l0 : kd 10 = some (.inl 7)) (h : B_X7_number_4 kd q K P4 v1 v3 μ) : z_X p l e rm_X7_number s m args below meth c 4 D A (MQ below (z_Qn D A ρ kd (z_Kl q K)) args s 0 0 A) 0 0 ρ kd q μ 4 [(0, .ref (10)), (1, .long (v1)), (3, .int (v3))] [] := by
    unfold B_X7_number_4 at h
    refine zx_iload_n (pc := 4) G 2 rfl rfl (z_dec T_X7_number_ok 4 (4, .iload_n 3, 1) rfl) ?_
    refine zx_bipush (pc := 5) (v := 6) G (z_dec T_X7_number_ok 5 (5, .bipush 6, 2) rfl) rfl ?_
    refine zx_icmp_ge (pc := 7) (tgt := 54) G rfl (z_dec T_X7_number_ok 6 (7, .if_icmp .ge 47, 3) rfl) (fun hc => ?_) (fun hc => ?_)
    · replace h := z_pos hc h
      refine zx_sub (lv' := [(0, .ref (10)), (1, .long (v1))]) [0, 1] rfl ?_
      exact L_X7_number_54_ok G hr hlk hI f_l0 h
    · replace h := z_neg hc h
      refine zx_aload_n (pc := 10) G (some (10)) 0 rfl rfl (z_dec T_X7_number_ok 7 (10, .aload_n 0, 1) rfl) ?_
      refine zx_getI (pc := 11) G gf_RX7_32 rfl f_l0 (z_dec T_X7_number_ok 8 (11, .getfield 32, 3) rfl) ?_
      refine zx_bipush (pc := 14) (v := 48) G (z_dec T_X7_number_ok 9 (14, .bipush 48, 2) rfl) rfl ?_
      refine zx_icmp_lt (pc := 16) (tgt := 54) G rfl (z_dec T_X7_number_ok 10 (16, .if_icmp .lt 38, 3) rfl) (fun hc => ?_) (fun hc => ?_)
      · replace h := z_pos hc h
        refine zx_sub (lv' := [(0, .ref (10)), (1, .long (v1))]) [0, 1] rfl ?_
        exact L_X7_number_54_ok G hr hlk hI f_l0 h
      · replace h := z_neg hc h
        refine zx_aload_n (pc := 19) G (some (10)) 0 rfl rfl (z_dec T_X7_number_ok 11 (19, .aload_n 0, 1) rfl) ?_
        refine zx_getI (pc := 20) G gf_RX7_32 rfl f_l0 (z_dec T_X7_number_ok 12 (20, .getfield 32, 3) rfl) ?_
        refine zx_bipush (pc := 23) (v := 57) G (z_dec T_X7_number_ok 13 (23, .bipush 57, 2) rfl) rfl ?_
        refine zx_icmp_gt (pc := 25) (tgt := 54) G rfl (z_dec T_X7_number_ok 14 (25, .if_icmp .gt 29, 3) rfl) (fun hc => ?_) (fun hc => ?_)
        · replace h := z_pos hc h
          refine zx_sub (lv' := [(0, .ref (10)), (1, .long (v1))]) [0, 1] rfl ?_
          exact L_X7_number_54_ok G hr hlk hI f_l0 h
        · replace h := z_neg hc h
          refine zx_ldc2 (pc := 28) G wk_RX7_100 (z_dec T_X7_number_ok 15 (28, .ldc2_w 100, 3) rfl) ?_
          refine zx_lload_n (pc := 31) G 1 rfl rfl (z_dec T_X7_number_ok 16 (31, .lload_n 1, 1) rfl) ?_
          refine zx_lmul (pc := 32) G  (z_dec T_X7_number_ok 17 (32, .lmul, 1) rfl) ?_
          refine zx_aload_n (pc := 33) G (some (10)) 0 rfl rfl (z_dec T_X7_number_ok 18 (33, .aload_n 0, 1) rfl) ?_
          refine zx_getI (pc := 34) G gf_RX7_32 rfl f_l0 (z_dec T_X7_number_ok 19 (34, .getfield 32, 3) rfl) ?_
          refine zx_i2l (pc := 37) G  (z_dec T_X7_number_ok 20 (37, .i2l, 1) rfl) ?_
          refine zx_ladd (pc := 38) G  (z_dec T_X7_number_ok 21 (38, .ladd, 1) rfl) ?_
          refine zx_ldc2 (pc := 39) G wk_RX7_102 (z_dec T_X7_number_ok 22 (39, .ldc2_w 102, 3) rfl) ?_
          refine zx_lsub (pc := 42) G  (z_dec T_X7_number_ok 23 (42, .lsub, 1) rfl) ?_
          refine zx_lstore_n (pc := 43) (lv' := [(1, .long (((((10 : Int64)) * v1) + ((μ.1 10 4).toInt64)) - ((48 : Int64)))), (0, .ref (10)), (3, .int (v3))]) G rfl (Nat.le_of_ble_eq_true rfl) rfl (z_dec T_X7_number_ok 24 (43, .lstore_n 1, 1) rfl) ?_
          refine zx_aload_n (pc := 44) G (some (10)) 1 rfl rfl (z_dec T_X7_number_ok 25 (44, .aload_n 0, 1) rfl) ?_
          refine zx_callV_vN (pc := 45) (rm := rm_X7_advance) G cw_RX7_29 ⟨Nat.le_of_ble_eq_true rfl, Nat.le_of_ble_eq_true rfl⟩ rfl rfl ⟨Nat.zero_le _, Nat.zero_le _⟩ f_l0 rfl (fun sz => (met_X7_advance l D ρ kd q μ sz  _ hI f_l0 h)) rfl rfl (Nat.le_of_ble_eq_true rfl) (z_dec T_X7_number_ok 26 (45, .invokevirtual 29, 3) rfl) (fun μ1 hn => ?_)
          clear h
          have h := hn
          clear hn
          refine zx_iinc (pc := 48) (v := v3 + 1) (lv' := [(3, .int (v3 + 1)), (1, .long (((((10 : Int64)) * v1) + ((μ.1 10 4).toInt64)) - ((48 : Int64)))), (0, .ref (10))]) G 2 rfl (z_inc (by decide)) (Nat.le_of_ble_eq_true rfl) rfl (z_dec T_X7_number_ok 27 (48, .iinc 3 1, 3) rfl) ?_
          refine zx_goto (pc := 51) (tgt := 4) G rfl (z_dec T_X7_number_ok 28 (51, .goto (-47), 3) rfl) ?_
          refine zx_sub (lv' := [(0, .ref (10)), (1, .long (((((10 : Int64)) * v1) + ((μ.1 10 4).toInt64)) - ((48 : Int64)))), (3, .int (v3 + 1))]) [2, 1, 0] rfl ?_
          exact hP4 _ _ _ h f_l0
set_option maxRecDepth 100000 in
set_option maxHeartbeats 4000000 in
theorem L_X7_number_4_ok {p : Program} {l : Launch} {e : Env} {s : State} {m : MethodId} {args : Array Value} {below : List Frame} {meth : Method} {c : Code} {D : va_G} {A : Nat → Prop} {ρ : z_A} {kd : z_K} {q : z_Q} {μ : z_M} {K : Int64 → z_M → Prop} {v1 : Int64} {v3 : Int32} (G : z_G p c cX7_number s m args RX7 4 D) (hr : meth.sig.returnType = (Option.some Jvm.ClassFile.FieldType.long)) (hlk : meth.locks = false) (hI : z_I kd q) (f_l0 : kd 10 = some (.inl 7)) (h : L_X7_number_4 kd q K v1 v3 μ) : z_X p l e rm_X7_number s m args below meth c 4 D A (MQ below (z_Qn D A ρ kd (z_Kl q K)) args s 0 0 A) 0 0 ρ kd q μ 4 [(0, .ref (10)), (1, .long (v1)), (3, .int (v3))] [] :=
  h (fun (v1 : Int64) (v3 : Int32) (μ : z_M) => (kd 10 = some (.inl 7)) → z_X p l e rm_X7_number s m args below meth c 4 D A (MQ below (z_Qn D A ρ kd (z_Kl q K)) args s 0 0 A) 0 0 ρ kd q μ 4 [(0, .ref (10)), (1, .long (v1)), (3, .int (v3))] []) (fun v1 v3 μ h f_l0 => B_X7_number_4_ok G hr hlk (fun _ _ _ h => h) hI f_l0 h) f_l0
set_option maxRecDepth 100000 in
set_option maxHeartbeats 4000000 in
theorem met_X7_number (l : Launch) (D : va_G) (ρ : z_A) (kd : z_K) (q : z_Q) (μ : z_M) (sz : Nat) (K : Int64 → z_M → Prop) (hI : z_I kd q) (h_o : kd 10 = some (.inl 7)) (h : C_X7_number kd q μ K) : Met l yX7_number (z_ws yX7_number cX7_number 4 (Option.some Jvm.ClassFile.FieldType.long)) rm_X7_number (z_Pc D ρ kd q μ sz [.ref (10)]) (z_Qn D (z_Rg ρ sz) ρ kd (z_Kl q K)) 0 0 (z_Rg ρ sz) := by
  refine z_met (rm := rm_X7_number) (by decide) (Nat.le_of_ble_eq_true rfl) (fun p e s m args below meth c G hr hlk => ?_)
  unfold C_X7_number at h
  show z_X _ _ _ _ _ _ _ _ _ _ _ _ _ _ _ _ _ _ _ _ _ [(0, .ref (10))] _
  refine zx_lconst (pc := 0) (v := 0) G (z_dec T_X7_number_ok 0 (0, .lconst 0, 1) rfl) rfl ?_
  refine zx_lstore_n (pc := 1) (lv' := [(1, .long ((0 : Int64))), (0, .ref (10))]) G rfl (Nat.le_of_ble_eq_true rfl) rfl (z_dec T_X7_number_ok 1 (1, .lstore_n 1, 1) rfl) ?_
  refine zx_iconst (pc := 2) (v := 0) G (z_dec T_X7_number_ok 2 (2, .iconst 0, 1) rfl) rfl ?_
  refine zx_istore_n (pc := 3) (lv' := [(3, .int ((0 : Int32))), (1, .long ((0 : Int64))), (0, .ref (10))]) G rfl (Nat.le_of_ble_eq_true rfl) rfl (z_dec T_X7_number_ok 3 (3, .istore_n 3, 1) rfl) ?_
  refine zx_sub (lv' := [(0, .ref (10)), (1, .long ((0 : Int64))), (3, .int ((0 : Int32)))]) [2, 1, 0] rfl ?_
  exact L_X7_number_4_ok G hr hlk hI h_o h
abbrev rm_X8_isLetter : Room := { frames := 0, cells := 0, slots := 0, locals := 0 }
set_option maxRecDepth 100000 in
set_option maxHeartbeats 4000000 in
theorem met_X8_isLetter (l : Launch) (D : va_G) (ρ : z_A) (kd : z_K) (q : z_Q) (μ : z_M) (sz : Nat) (a1 : Int32) (K : Int32 → z_M → Prop) (hI : z_I kd q) (h : C_X8_isLetter kd q a1 μ K) : Met l yX8_isLetter (z_ws yX8_isLetter cX8_isLetter 1 (Option.some Jvm.ClassFile.FieldType.boolean)) rm_X8_isLetter (z_Pc D ρ kd q μ sz [.int (a1)]) (z_Qn D (z_Rg ρ sz) ρ kd (z_Kz q K)) 0 0 (z_Rg ρ sz) := by
  refine z_met (rm := rm_X8_isLetter) (by decide) (Nat.le_of_ble_eq_true rfl) (fun p e s m args below meth c G hr hlk => ?_)
  unfold C_X8_isLetter at h
  show z_X _ _ _ _ _ _ _ _ _ _ _ _ _ _ _ _ _ _ _ _ _ [(0, .int (a1))] _
  refine zx_iload_n (pc := 0) G 0 rfl rfl (z_dec T_X8_isLetter_ok 0 (0, .iload_n 0, 1) rfl) ?_
  by_cases n1 : a1 = 104
  · replace h := z_pos n1 h
    refine zx_tableIn (pc := 1) (tgt := 92) (off := 91) G (by rw [n1]; decide) (by rw [n1]; decide) (by rw [n1]; rfl) rfl (z_dec T_X8_isLetter_ok 1 (1, .tableswitch 93 104 122 #[91, 91, 93, 91, 93, 91, 91, 91, 93, 91, 93, 93, 91, 93, 93, 93, 93, 93, 91], 91) rfl) ?_
    refine zx_iconst (pc := 92) (v := 1) G (z_dec T_X8_isLetter_ok 2 (92, .iconst 1, 1) rfl) rfl ?_
    exact zx_zret (pc := 93) G hr hlk (Nat.le_refl _) (Nat.le_refl _) (Or.inr rfl) (z_dec T_X8_isLetter_ok 3 (93, .ireturn, 1) rfl) ⟨rfl, _, rfl, (Or.inr rfl), h⟩
  replace h := z_neg n1 h
  by_cases n2 : a1 = 105
  · replace h := z_pos n2 h
    refine zx_tableIn (pc := 1) (tgt := 92) (off := 91) G (by rw [n2]; decide) (by rw [n2]; decide) (by rw [n2]; rfl) rfl (z_dec T_X8_isLetter_ok 1 (1, .tableswitch 93 104 122 #[91, 91, 93, 91, 93, 91, 91, 91, 93, 91, 93, 93, 91, 93, 93, 93, 93, 93, 91], 91) rfl) ?_
    refine zx_iconst (pc := 92) (v := 1) G (z_dec T_X8_isLetter_ok 2 (92, .iconst 1, 1) rfl) rfl ?_
    exact zx_zret (pc := 93) G hr hlk (Nat.le_refl _) (Nat.le_refl _) (Or.inr rfl) (z_dec T_X8_isLetter_ok 3 (93, .ireturn, 1) rfl) ⟨rfl, _, rfl, (Or.inr rfl), h⟩
  replace h := z_neg n2 h
  by_cases n3 : a1 = 107
  · replace h := z_pos n3 h
    refine zx_tableIn (pc := 1) (tgt := 92) (off := 91) G (by rw [n3]; decide) (by rw [n3]; decide) (by rw [n3]; rfl) rfl (z_dec T_X8_isLetter_ok 1 (1, .tableswitch 93 104 122 #[91, 91, 93, 91, 93, 91, 91, 91, 93, 91, 93, 93, 91, 93, 93, 93, 93, 93, 91], 91) rfl) ?_
    refine zx_iconst (pc := 92) (v := 1) G (z_dec T_X8_isLetter_ok 2 (92, .iconst 1, 1) rfl) rfl ?_
    exact zx_zret (pc := 93) G hr hlk (Nat.le_refl _) (Nat.le_refl _) (Or.inr rfl) (z_dec T_X8_isLetter_ok 3 (93, .ireturn, 1) rfl) ⟨rfl, _, rfl, (Or.inr rfl), h⟩
  replace h := z_neg n3 h
  by_cases n4 : a1 = 109
  · replace h := z_pos n4 h
    refine zx_tableIn (pc := 1) (tgt := 92) (off := 91) G (by rw [n4]; decide) (by rw [n4]; decide) (by rw [n4]; rfl) rfl (z_dec T_X8_isLetter_ok 1 (1, .tableswitch 93 104 122 #[91, 91, 93, 91, 93, 91, 91, 91, 93, 91, 93, 93, 91, 93, 93, 93, 93, 93, 91], 91) rfl) ?_
    refine zx_iconst (pc := 92) (v := 1) G (z_dec T_X8_isLetter_ok 2 (92, .iconst 1, 1) rfl) rfl ?_
    exact zx_zret (pc := 93) G hr hlk (Nat.le_refl _) (Nat.le_refl _) (Or.inr rfl) (z_dec T_X8_isLetter_ok 3 (93, .ireturn, 1) rfl) ⟨rfl, _, rfl, (Or.inr rfl), h⟩
  replace h := z_neg n4 h
  by_cases n5 : a1 = 110
  · replace h := z_pos n5 h
    refine zx_tableIn (pc := 1) (tgt := 92) (off := 91) G (by rw [n5]; decide) (by rw [n5]; decide) (by rw [n5]; rfl) rfl (z_dec T_X8_isLetter_ok 1 (1, .tableswitch 93 104 122 #[91, 91, 93, 91, 93, 91, 91, 91, 93, 91, 93, 93, 91, 93, 93, 93, 93, 93, 91], 91) rfl) ?_
    refine zx_iconst (pc := 92) (v := 1) G (z_dec T_X8_isLetter_ok 2 (92, .iconst 1, 1) rfl) rfl ?_
    exact zx_zret (pc := 93) G hr hlk (Nat.le_refl _) (Nat.le_refl _) (Or.inr rfl) (z_dec T_X8_isLetter_ok 3 (93, .ireturn, 1) rfl) ⟨rfl, _, rfl, (Or.inr rfl), h⟩
  replace h := z_neg n5 h
  by_cases n6 : a1 = 111
  · replace h := z_pos n6 h
    refine zx_tableIn (pc := 1) (tgt := 92) (off := 91) G (by rw [n6]; decide) (by rw [n6]; decide) (by rw [n6]; rfl) rfl (z_dec T_X8_isLetter_ok 1 (1, .tableswitch 93 104 122 #[91, 91, 93, 91, 93, 91, 91, 91, 93, 91, 93, 93, 91, 93, 93, 93, 93, 93, 91], 91) rfl) ?_
    refine zx_iconst (pc := 92) (v := 1) G (z_dec T_X8_isLetter_ok 2 (92, .iconst 1, 1) rfl) rfl ?_
    exact zx_zret (pc := 93) G hr hlk (Nat.le_refl _) (Nat.le_refl _) (Or.inr rfl) (z_dec T_X8_isLetter_ok 3 (93, .ireturn, 1) rfl) ⟨rfl, _, rfl, (Or.inr rfl), h⟩
  replace h := z_neg n6 h
  by_cases n7 : a1 = 113
  · replace h := z_pos n7 h
    refine zx_tableIn (pc := 1) (tgt := 92) (off := 91) G (by rw [n7]; decide) (by rw [n7]; decide) (by rw [n7]; rfl) rfl (z_dec T_X8_isLetter_ok 1 (1, .tableswitch 93 104 122 #[91, 91, 93, 91, 93, 91, 91, 91, 93, 91, 93, 93, 91, 93, 93, 93, 93, 93, 91], 91) rfl) ?_
    refine zx_iconst (pc := 92) (v := 1) G (z_dec T_X8_isLetter_ok 2 (92, .iconst 1, 1) rfl) rfl ?_
    exact zx_zret (pc := 93) G hr hlk (Nat.le_refl _) (Nat.le_refl _) (Or.inr rfl) (z_dec T_X8_isLetter_ok 3 (93, .ireturn, 1) rfl) ⟨rfl, _, rfl, (Or.inr rfl), h⟩
  replace h := z_neg n7 h
  by_cases n8 : a1 = 116
  · replace h := z_pos n8 h
    refine zx_tableIn (pc := 1) (tgt := 92) (off := 91) G (by rw [n8]; decide) (by rw [n8]; decide) (by rw [n8]; rfl) rfl (z_dec T_X8_isLetter_ok 1 (1, .tableswitch 93 104 122 #[91, 91, 93, 91, 93, 91, 91, 91, 93, 91, 93, 93, 91, 93, 93, 93, 93, 93, 91], 91) rfl) ?_
    refine zx_iconst (pc := 92) (v := 1) G (z_dec T_X8_isLetter_ok 2 (92, .iconst 1, 1) rfl) rfl ?_
    exact zx_zret (pc := 93) G hr hlk (Nat.le_refl _) (Nat.le_refl _) (Or.inr rfl) (z_dec T_X8_isLetter_ok 3 (93, .ireturn, 1) rfl) ⟨rfl, _, rfl, (Or.inr rfl), h⟩
  replace h := z_neg n8 h
  by_cases n9 : a1 = 122
  · replace h := z_pos n9 h
    refine zx_tableIn (pc := 1) (tgt := 92) (off := 91) G (by rw [n9]; decide) (by rw [n9]; decide) (by rw [n9]; rfl) rfl (z_dec T_X8_isLetter_ok 1 (1, .tableswitch 93 104 122 #[91, 91, 93, 91, 93, 91, 91, 91, 93, 91, 93, 93, 91, 93, 93, 93, 93, 93, 91], 91) rfl) ?_
    refine zx_iconst (pc := 92) (v := 1) G (z_dec T_X8_isLetter_ok 2 (92, .iconst 1, 1) rfl) rfl ?_
    exact zx_zret (pc := 93) G hr hlk (Nat.le_refl _) (Nat.le_refl _) (Or.inr rfl) (z_dec T_X8_isLetter_ok 3 (93, .ireturn, 1) rfl) ⟨rfl, _, rfl, (Or.inr rfl), h⟩
  replace h := z_neg n9 h
  -- default
  by_cases hr1 : a1.toInt < 104 ∨ 122 < a1.toInt
  · refine zx_tableOut (pc := 1) (tgt := 94) G hr1 rfl (z_dec T_X8_isLetter_ok 1 (1, .tableswitch 93 104 122 #[91, 91, 93, 91, 93, 91, 91, 91, 93, 91, 93, 93, 91, 93, 93, 93, 93, 93, 91], 91) rfl) ?_
    refine zx_iconst (pc := 94) (v := 0) G (z_dec T_X8_isLetter_ok 4 (94, .iconst 0, 1) rfl) rfl ?_
    exact zx_zret (pc := 95) G hr hlk (Nat.le_refl _) (Nat.le_refl _) (Or.inl rfl) (z_dec T_X8_isLetter_ok 5 (95, .ireturn, 1) rfl) ⟨rfl, _, rfl, (Or.inl rfl), h⟩
  · have hd : a1 = 106 ∨ a1 = 108 ∨ a1 = 112 ∨ a1 = 114 ∨ a1 = 115 ∨ a1 = 117 ∨ a1 = 118 ∨ a1 = 119 ∨ a1 = 120 ∨ a1 = 121 := by
      have t1 : ¬ a1.toInt < 104 := fun q => hr1 (Or.inl q)
      have t2 : ¬ 122 < a1.toInt := fun q => hr1 (Or.inr q)
      have u104 : ¬ a1.toInt = 104 := lv_neT n1 rfl
      have u105 : ¬ a1.toInt = 105 := lv_neT n2 rfl
      have u107 : ¬ a1.toInt = 107 := lv_neT n3 rfl
      have u109 : ¬ a1.toInt = 109 := lv_neT n4 rfl
      have u110 : ¬ a1.toInt = 110 := lv_neT n5 rfl
      have u111 : ¬ a1.toInt = 111 := lv_neT n6 rfl
      have u113 : ¬ a1.toInt = 113 := lv_neT n7 rfl
      have u116 : ¬ a1.toInt = 116 := lv_neT n8 rfl
      have u122 : ¬ a1.toInt = 122 := lv_neT n9 rfl
      have b106 : a1 = 106 ↔ a1.toInt = 106 := ⟨fun q => by rw [q]; rfl, fun q => Int32.toInt_inj.mp (by rw [q]; rfl)⟩
      have b108 : a1 = 108 ↔ a1.toInt = 108 := ⟨fun q => by rw [q]; rfl, fun q => Int32.toInt_inj.mp (by rw [q]; rfl)⟩
      have b112 : a1 = 112 ↔ a1.toInt = 112 := ⟨fun q => by rw [q]; rfl, fun q => Int32.toInt_inj.mp (by rw [q]; rfl)⟩
      have b114 : a1 = 114 ↔ a1.toInt = 114 := ⟨fun q => by rw [q]; rfl, fun q => Int32.toInt_inj.mp (by rw [q]; rfl)⟩
      have b115 : a1 = 115 ↔ a1.toInt = 115 := ⟨fun q => by rw [q]; rfl, fun q => Int32.toInt_inj.mp (by rw [q]; rfl)⟩
      have b117 : a1 = 117 ↔ a1.toInt = 117 := ⟨fun q => by rw [q]; rfl, fun q => Int32.toInt_inj.mp (by rw [q]; rfl)⟩
      have b118 : a1 = 118 ↔ a1.toInt = 118 := ⟨fun q => by rw [q]; rfl, fun q => Int32.toInt_inj.mp (by rw [q]; rfl)⟩
      have b119 : a1 = 119 ↔ a1.toInt = 119 := ⟨fun q => by rw [q]; rfl, fun q => Int32.toInt_inj.mp (by rw [q]; rfl)⟩
      have b120 : a1 = 120 ↔ a1.toInt = 120 := ⟨fun q => by rw [q]; rfl, fun q => Int32.toInt_inj.mp (by rw [q]; rfl)⟩
      have b121 : a1 = 121 ↔ a1.toInt = 121 := ⟨fun q => by rw [q]; rfl, fun q => Int32.toInt_inj.mp (by rw [q]; rfl)⟩
      simp only [b106, b108, b112, b114, b115, b117, b118, b119, b120, b121]
      omega
    rcases hd with hd | hd | hd | hd | hd | hd | hd | hd | hd | hd
    · refine zx_tableIn (pc := 1) (tgt := 94) (off := 93) G (by rw [hd]; decide) (by rw [hd]; decide) (by rw [hd]; rfl) rfl (z_dec T_X8_isLetter_ok 1 (1, .tableswitch 93 104 122 #[91, 91, 93, 91, 93, 91, 91, 91, 93, 91, 93, 93, 91, 93, 93, 93, 93, 93, 91], 91) rfl) ?_
      refine zx_iconst (pc := 94) (v := 0) G (z_dec T_X8_isLetter_ok 4 (94, .iconst 0, 1) rfl) rfl ?_
      exact zx_zret (pc := 95) G hr hlk (Nat.le_refl _) (Nat.le_refl _) (Or.inl rfl) (z_dec T_X8_isLetter_ok 5 (95, .ireturn, 1) rfl) ⟨rfl, _, rfl, (Or.inl rfl), h⟩
    · refine zx_tableIn (pc := 1) (tgt := 94) (off := 93) G (by rw [hd]; decide) (by rw [hd]; decide) (by rw [hd]; rfl) rfl (z_dec T_X8_isLetter_ok 1 (1, .tableswitch 93 104 122 #[91, 91, 93, 91, 93, 91, 91, 91, 93, 91, 93, 93, 91, 93, 93, 93, 93, 93, 91], 91) rfl) ?_
      refine zx_iconst (pc := 94) (v := 0) G (z_dec T_X8_isLetter_ok 4 (94, .iconst 0, 1) rfl) rfl ?_
      exact zx_zret (pc := 95) G hr hlk (Nat.le_refl _) (Nat.le_refl _) (Or.inl rfl) (z_dec T_X8_isLetter_ok 5 (95, .ireturn, 1) rfl) ⟨rfl, _, rfl, (Or.inl rfl), h⟩
    · refine zx_tableIn (pc := 1) (tgt := 94) (off := 93) G (by rw [hd]; decide) (by rw [hd]; decide) (by rw [hd]; rfl) rfl (z_dec T_X8_isLetter_ok 1 (1, .tableswitch 93 104 122 #[91, 91, 93, 91, 93, 91, 91, 91, 93, 91, 93, 93, 91, 93, 93, 93, 93, 93, 91], 91) rfl) ?_
      refine zx_iconst (pc := 94) (v := 0) G (z_dec T_X8_isLetter_ok 4 (94, .iconst 0, 1) rfl) rfl ?_
      exact zx_zret (pc := 95) G hr hlk (Nat.le_refl _) (Nat.le_refl _) (Or.inl rfl) (z_dec T_X8_isLetter_ok 5 (95, .ireturn, 1) rfl) ⟨rfl, _, rfl, (Or.inl rfl), h⟩
    · refine zx_tableIn (pc := 1) (tgt := 94) (off := 93) G (by rw [hd]; decide) (by rw [hd]; decide) (by rw [hd]; rfl) rfl (z_dec T_X8_isLetter_ok 1 (1, .tableswitch 93 104 122 #[91, 91, 93, 91, 93, 91, 91, 91, 93, 91, 93, 93, 91, 93, 93, 93, 93, 93, 91], 91) rfl) ?_
      refine zx_iconst (pc := 94) (v := 0) G (z_dec T_X8_isLetter_ok 4 (94, .iconst 0, 1) rfl) rfl ?_
      exact zx_zret (pc := 95) G hr hlk (Nat.le_refl _) (Nat.le_refl _) (Or.inl rfl) (z_dec T_X8_isLetter_ok 5 (95, .ireturn, 1) rfl) ⟨rfl, _, rfl, (Or.inl rfl), h⟩
    · refine zx_tableIn (pc := 1) (tgt := 94) (off := 93) G (by rw [hd]; decide) (by rw [hd]; decide) (by rw [hd]; rfl) rfl (z_dec T_X8_isLetter_ok 1 (1, .tableswitch 93 104 122 #[91, 91, 93, 91, 93, 91, 91, 91, 93, 91, 93, 93, 91, 93, 93, 93, 93, 93, 91], 91) rfl) ?_
      refine zx_iconst (pc := 94) (v := 0) G (z_dec T_X8_isLetter_ok 4 (94, .iconst 0, 1) rfl) rfl ?_
      exact zx_zret (pc := 95) G hr hlk (Nat.le_refl _) (Nat.le_refl _) (Or.inl rfl) (z_dec T_X8_isLetter_ok 5 (95, .ireturn, 1) rfl) ⟨rfl, _, rfl, (Or.inl rfl), h⟩
    · refine zx_tableIn (pc := 1) (tgt := 94) (off := 93) G (by rw [hd]; decide) (by rw [hd]; decide) (by rw [hd]; rfl) rfl (z_dec T_X8_isLetter_ok 1 (1, .tableswitch 93 104 122 #[91, 91, 93, 91, 93, 91, 91, 91, 93, 91, 93, 93, 91, 93, 93, 93, 93, 93, 91], 91) rfl) ?_
      refine zx_iconst (pc := 94) (v := 0) G (z_dec T_X8_isLetter_ok 4 (94, .iconst 0, 1) rfl) rfl ?_
      exact zx_zret (pc := 95) G hr hlk (Nat.le_refl _) (Nat.le_refl _) (Or.inl rfl) (z_dec T_X8_isLetter_ok 5 (95, .ireturn, 1) rfl) ⟨rfl, _, rfl, (Or.inl rfl), h⟩
    · refine zx_tableIn (pc := 1) (tgt := 94) (off := 93) G (by rw [hd]; decide) (by rw [hd]; decide) (by rw [hd]; rfl) rfl (z_dec T_X8_isLetter_ok 1 (1, .tableswitch 93 104 122 #[91, 91, 93, 91, 93, 91, 91, 91, 93, 91, 93, 93, 91, 93, 93, 93, 93, 93, 91], 91) rfl) ?_
      refine zx_iconst (pc := 94) (v := 0) G (z_dec T_X8_isLetter_ok 4 (94, .iconst 0, 1) rfl) rfl ?_
      exact zx_zret (pc := 95) G hr hlk (Nat.le_refl _) (Nat.le_refl _) (Or.inl rfl) (z_dec T_X8_isLetter_ok 5 (95, .ireturn, 1) rfl) ⟨rfl, _, rfl, (Or.inl rfl), h⟩
    · refine zx_tableIn (pc := 1) (tgt := 94) (off := 93) G (by rw [hd]; decide) (by rw [hd]; decide) (by rw [hd]; rfl) rfl (z_dec T_X8_isLetter_ok 1 (1, .tableswitch 93 104 122 #[91, 91, 93, 91, 93, 91, 91, 91, 93, 91, 93, 93, 91, 93, 93, 93, 93, 93, 91], 91) rfl) ?_
      refine zx_iconst (pc := 94) (v := 0) G (z_dec T_X8_isLetter_ok 4 (94, .iconst 0, 1) rfl) rfl ?_
      exact zx_zret (pc := 95) G hr hlk (Nat.le_refl _) (Nat.le_refl _) (Or.inl rfl) (z_dec T_X8_isLetter_ok 5 (95, .ireturn, 1) rfl) ⟨rfl, _, rfl, (Or.inl rfl), h⟩
    · refine zx_tableIn (pc := 1) (tgt := 94) (off := 93) G (by rw [hd]; decide) (by rw [hd]; decide) (by rw [hd]; rfl) rfl (z_dec T_X8_isLetter_ok 1 (1, .tableswitch 93 104 122 #[91, 91, 93, 91, 93, 91, 91, 91, 93, 91, 93, 93, 91, 93, 93, 93, 93, 93, 91], 91) rfl) ?_
      refine zx_iconst (pc := 94) (v := 0) G (z_dec T_X8_isLetter_ok 4 (94, .iconst 0, 1) rfl) rfl ?_
      exact zx_zret (pc := 95) G hr hlk (Nat.le_refl _) (Nat.le_refl _) (Or.inl rfl) (z_dec T_X8_isLetter_ok 5 (95, .ireturn, 1) rfl) ⟨rfl, _, rfl, (Or.inl rfl), h⟩
    · refine zx_tableIn (pc := 1) (tgt := 94) (off := 93) G (by rw [hd]; decide) (by rw [hd]; decide) (by rw [hd]; rfl) rfl (z_dec T_X8_isLetter_ok 1 (1, .tableswitch 93 104 122 #[91, 91, 93, 91, 93, 91, 91, 91, 93, 91, 93, 93, 91, 93, 93, 93, 93, 93, 91], 91) rfl) ?_
      refine zx_iconst (pc := 94) (v := 0) G (z_dec T_X8_isLetter_ok 4 (94, .iconst 0, 1) rfl) rfl ?_
      exact zx_zret (pc := 95) G hr hlk (Nat.le_refl _) (Nat.le_refl _) (Or.inl rfl) (z_dec T_X8_isLetter_ok 5 (95, .ireturn, 1) rfl) ⟨rfl, _, rfl, (Or.inl rfl), h⟩
abbrev rm_X8_thousandths : Room := { frames := 0, cells := 0, slots := 0, locals := 0 }
set_option maxRecDepth 100000 in
set_option maxHeartbeats 4000000 in
theorem L_X8_thousandths_124_ok {p : Program} {l : Launch} {e : Env} {s : State} {m : MethodId} {args : Array Value} {below : List Frame} {meth : Method} {c : Code} {D : va_G} {A : Nat → Prop} {ρ : z_A} {kd : z_K} {q : z_Q} {μ : z_M} {K : Int64 → z_M → Prop} {v1 : Int64} {v3 : Int64} (G : z_G p c cX8_thousandths s m args RX8 8 D) (hr : meth.sig.returnType = (Option.some Jvm.ClassFile.FieldType.long)) (hlk : meth.locks = false) (hI : z_I kd q) (h : L_X8_thousandths_124 kd q K v1 v3 μ) : z_X p l e rm_X8_thousandths s m args below meth c 8 D A (MQ below (z_Qn D A ρ kd (z_Kl q K)) args s 0 0 A) 0 0 ρ kd q μ 124 [(1, .long (v1)), (3, .long (v3))] [] := by
    unfold L_X8_thousandths_124 at h
    refine zx_lload_n (pc := 124) G 1 rfl rfl (z_dec T_X8_thousandths_ok 68 (124, .lload_n 3, 1) rfl) ?_
    refine zx_lconst (pc := 125) (v := 0) G (z_dec T_X8_thousandths_ok 69 (125, .lconst 0, 1) rfl) rfl ?_
    refine zx_lcmp_le (pc := 126) (tgt := 140) G rfl (z_dec T_X8_thousandths_ok 70 (126, .lcmp, 1) rfl) (z_dec T_X8_thousandths_ok 71 (127, .ifCond .le 13, 3) rfl) (fun hc => ?_) (fun hc => ?_)
    · replace h := z_pos hc h
      refine zx_lconst (pc := 140) (v := 0) G (z_dec T_X8_thousandths_ok 78 (140, .lconst 0, 1) rfl) rfl ?_
      exact zx_lret (pc := 141) G hr hlk (Nat.le_refl _) (Nat.le_refl _) (z_dec T_X8_thousandths_ok 79 (141, .lreturn, 1) rfl) ⟨rfl, _, rfl, h⟩
    · replace h := z_neg hc h
      refine zx_ldc2 (pc := 130) G wk_RX8_68 (z_dec T_X8_thousandths_ok 72 (130, .ldc2_w 68, 3) rfl) ?_
      refine zx_lload_n (pc := 133) G 0 rfl rfl (z_dec T_X8_thousandths_ok 73 (133, .lload_n 1, 1) rfl) ?_
      refine zx_lmul (pc := 134) G  (z_dec T_X8_thousandths_ok 74 (134, .lmul, 1) rfl) ?_
      refine zx_lload_n (pc := 135) G 1 rfl rfl (z_dec T_X8_thousandths_ok 75 (135, .lload_n 3, 1) rfl) ?_
      obtain ⟨c1, h⟩ := h
      refine zx_ldiv (pc := 136) G c1 (z_dec T_X8_thousandths_ok 76 (136, .ldiv, 1) rfl) ?_
      refine zx_goto (pc := 137) (tgt := 141) G rfl (z_dec T_X8_thousandths_ok 77 (137, .goto 4, 3) rfl) ?_
      exact zx_lret (pc := 141) G hr hlk (Nat.le_refl _) (Nat.le_refl _) (z_dec T_X8_thousandths_ok 79 (141, .lreturn, 1) rfl) ⟨rfl, _, rfl, h⟩
set_option maxRecDepth 100000 in
set_option maxHeartbeats 4000000 in
theorem B_X8_thousandths_13_ok {p : Program} {l : Launch} {e : Env} {s : State} {m : MethodId} {args : Array Value} {below : List Frame} {meth : Method} {c : Code} {D : va_G} {A : Nat → Prop} {ρ : z_A} {kd : z_K} {q : z_Q} {μ : z_M} {K : Int64 → z_M → Prop} {P13 : Int64 → Int64 → Int32 → z_M → Prop} {v1 : Int64} {v3 : Int64} {v5 : Int32} (G : z_G p c cX8_thousandths s m args RX8 8 D) (hr : meth.sig.returnType = (Option.some Jvm.ClassFile.FieldType.long)) (hlk : meth.locks = false) (hP13 : ∀ (v1 : Int64) (v3 : Int64) (v5 : Int32) (μ : z_M), P13 v1 v3 v5 μ → (kd 9 = some (.inl 8)) → z_X p l e rm_X8_thousandths s m args below meth c 8 D A (MQ below (z_Qn D A ρ kd (z_Kl q K)) args s 0 0 A) 0 0 ρ kd q μ 13 [(0, .ref (9)), (1, .long (v1)), (3, .long (v3)), (5, .int (v5))] []) (hI : z_I kd q) (f_l0 : kd 9 = some (.inl 8)) (h : B_X8_thousandths_13 kd q K P13 v1 v3 v5 μ) : z_X p l e rm_X8_thousandths s m args below meth c 8 D A (MQ below (z_Qn D A ρ kd (z_Kl q K)) args s 0 0 A) 0 0 ρ kd q μ 13 [(0, .ref (9)), (1, .long (v1)), (3, .long (v3)), (5, .int (v5))] [] := by
    unfold B_X8_thousandths_13 at h
    refine zx_iload (pc := 13) G 3 rfl (z_dec T_X8_thousandths_ok 9 (13, .iload 5, 2) rfl) ?_
    refine zx_if_lt (pc := 15) (tgt := 124) G rfl (z_dec T_X8_thousandths_ok 10 (15, .ifCond .lt 109, 3) rfl) (fun hc => ?_) (fun hc => ?_)
    · replace h := z_pos hc h
      refine zx_sub (lv' := [(1, .long (v1)), (3, .long (v3))]) [1, 2] rfl ?_
      exact L_X8_thousandths_124_ok G hr hlk hI h
    · replace h := z_neg hc h
      refine zx_iload (pc := 18) G 3 rfl (z_dec T_X8_thousandths_ok 11 (18, .iload 5, 2) rfl) ?_
      refine zx_bipush (pc := 20) (v := 24) G (z_dec T_X8_thousandths_ok 12 (20, .bipush 24, 2) rfl) rfl ?_
      refine zx_icmp_ge (pc := 22) (tgt := 124) G rfl (z_dec T_X8_thousandths_ok 13 (22, .if_icmp .ge 102, 3) rfl) (fun hc => ?_) (fun hc => ?_)
      · replace h := z_pos hc h
        refine zx_sub (lv' := [(1, .long (v1)), (3, .long (v3))]) [1, 2] rfl ?_
        exact L_X8_thousandths_124_ok G hr hlk hI h
      · replace h := z_neg hc h
        refine zx_iload (pc := 25) G 3 rfl (z_dec T_X8_thousandths_ok 14 (25, .iload 5, 2) rfl) ?_
        refine zx_aload_n (pc := 27) G (some (9)) 0 rfl rfl (z_dec T_X8_thousandths_ok 15 (27, .aload_n 0, 1) rfl) ?_
        refine zx_getI (pc := 28) G gf_RX8_29 rfl f_l0 (z_dec T_X8_thousandths_ok 16 (28, .getfield 29, 3) rfl) ?_
        refine zx_bipush (pc := 31) (v := 8) G (z_dec T_X8_thousandths_ok 17 (31, .bipush 8, 2) rfl) rfl ?_
        refine zx_imul (pc := 33) G  (z_dec T_X8_thousandths_ok 18 (33, .imul, 1) rfl) ?_
        refine zx_bipush (pc := 34) (v := 8) G (z_dec T_X8_thousandths_ok 19 (34, .bipush 8, 2) rfl) rfl ?_
        refine zx_iadd (pc := 36) G  (z_dec T_X8_thousandths_ok 20 (36, .iadd, 1) rfl) ?_
        refine zx_icmp_ge (pc := 37) (tgt := 124) G rfl (z_dec T_X8_thousandths_ok 21 (37, .if_icmp .ge 87, 3) rfl) (fun hc => ?_) (fun hc => ?_)
        · replace h := z_pos hc h
          refine zx_sub (lv' := [(1, .long (v1)), (3, .long (v3))]) [1, 2] rfl ?_
          exact L_X8_thousandths_124_ok G hr hlk hI h
        · replace h := z_neg hc h
          refine zx_aload_n (pc := 40) G (some (9)) 0 rfl rfl (z_dec T_X8_thousandths_ok 22 (40, .aload_n 0, 1) rfl) ?_
          have hh := z_sb hI f_l0
          refine zx_getR (pc := 41) G gf_RX8_25 rfl f_l0 (z_dec T_X8_thousandths_ok 23 (41, .getfield 25, 3) rfl) ?_
          generalize ew1 : q 9 1 = w1 at hh ⊢
          have fw1 := hh
          replace h := h w1 ew1.symm
          obtain ⟨o2, rfl, h⟩ := h
          refine zx_getF (pc := 44) (b := o2 + 1) G gf_RX8_35 rfl (fw1 o2 rfl) (zq_1_3 hI (fw1 o2 rfl)) (z_dec T_X8_thousandths_ok 24 (44, .getfield 35, 3) rfl) ?_
          refine zx_iload (pc := 47) G 3 rfl (z_dec T_X8_thousandths_ok 25 (47, .iload 5, 2) rfl) ?_
          obtain ⟨c3, h⟩ := h
          refine zx_iald (pc := 49) G (zk_1_3 hI (fw1 o2 rfl)) c3 (z_dec T_X8_thousandths_ok 26 (49, .iaload, 1) rfl) ?_
          refine zx_istore (pc := 50) (lv' := [(6, .int (μ.1 (o2 + 1) v5.toNatClampNeg)), (0, .ref (9)), (1, .long (v1)), (3, .long (v3)), (5, .int (v5))]) G (Nat.le_of_ble_eq_true rfl) rfl (z_dec T_X8_thousandths_ok 27 (50, .istore 6, 2) rfl) ?_
          refine zx_iload (pc := 52) G 0 rfl (z_dec T_X8_thousandths_ok 28 (52, .iload 6, 2) rfl) ?_
          refine zx_if_lt (pc := 54) (tgt := 118) G rfl (z_dec T_X8_thousandths_ok 29 (54, .ifCond .lt 64, 3) rfl) (fun hc => ?_) (fun hc => ?_)
          · replace h := z_pos hc h
            refine zx_iinc (pc := 118) (v := v5 + 1) (lv' := [(5, .int (v5 + 1)), (6, .int (μ.1 (o2 + 1) v5.toNatClampNeg)), (0, .ref (9)), (1, .long (v1)), (3, .long (v3))]) G 4 rfl (z_inc (by decide)) (Nat.le_of_ble_eq_true rfl) rfl (z_dec T_X8_thousandths_ok 66 (118, .iinc 5 1, 3) rfl) ?_
            refine zx_goto (pc := 121) (tgt := 13) G rfl (z_dec T_X8_thousandths_ok 67 (121, .goto (-108), 3) rfl) ?_
            refine zx_sub (lv' := [(0, .ref (9)), (1, .long (v1)), (3, .long (v3)), (5, .int (v5 + 1))]) [2, 3, 4, 0] rfl ?_
            exact hP13 _ _ _ _ h f_l0
          · replace h := z_neg hc h
            refine zx_iload (pc := 57) G 0 rfl (z_dec T_X8_thousandths_ok 30 (57, .iload 6, 2) rfl) ?_
            refine zx_aload_n (pc := 59) G (some (9)) 1 rfl rfl (z_dec T_X8_thousandths_ok 31 (59, .aload_n 0, 1) rfl) ?_
            refine zx_getF (pc := 60) (b := 3) G gf_RX8_9 rfl f_l0 (zq_8_0 hI f_l0) (z_dec T_X8_thousandths_ok 32 (60, .getfield 9, 3) rfl) ?_
            refine zx_getI (pc := 63) G gf_RX8_58 rfl (zk_8_0 hI f_l0) (z_dec T_X8_thousandths_ok 33 (63, .getfield 58, 3) rfl) ?_
            refine zx_icmp_ge (pc := 66) (tgt := 118) G rfl (z_dec T_X8_thousandths_ok 34 (66, .if_icmp .ge 52, 3) rfl) (fun hc => ?_) (fun hc => ?_)
            · replace h := z_pos hc h
              refine zx_iinc (pc := 118) (v := v5 + 1) (lv' := [(5, .int (v5 + 1)), (6, .int (μ.1 (o2 + 1) v5.toNatClampNeg)), (0, .ref (9)), (1, .long (v1)), (3, .long (v3))]) G 4 rfl (z_inc (by decide)) (Nat.le_of_ble_eq_true rfl) rfl (z_dec T_X8_thousandths_ok 66 (118, .iinc 5 1, 3) rfl) ?_
              refine zx_goto (pc := 121) (tgt := 13) G rfl (z_dec T_X8_thousandths_ok 67 (121, .goto (-108), 3) rfl) ?_
              refine zx_sub (lv' := [(0, .ref (9)), (1, .long (v1)), (3, .long (v3)), (5, .int (v5 + 1))]) [2, 3, 4, 0] rfl ?_
              exact hP13 _ _ _ _ h f_l0
            · replace h := z_neg hc h
              refine zx_aload_n (pc := 69) G (some (9)) 1 rfl rfl (z_dec T_X8_thousandths_ok 35 (69, .aload_n 0, 1) rfl) ?_
              refine zx_getF (pc := 70) (b := 3) G gf_RX8_9 rfl f_l0 (zq_8_0 hI f_l0) (z_dec T_X8_thousandths_ok 36 (70, .getfield 9, 3) rfl) ?_
              refine zx_getF (pc := 73) (b := 4) G gf_RX8_62 rfl (zk_8_0 hI f_l0) (zq_3_0 hI (zk_8_0 hI f_l0)) (z_dec T_X8_thousandths_ok 37 (73, .getfield 62, 3) rfl) ?_
              refine zx_iload (pc := 76) G 0 rfl (z_dec T_X8_thousandths_ok 38 (76, .iload 6, 2) rfl) ?_
              obtain ⟨c4, h⟩ := h
              refine zx_iald (pc := 78) G (zk_3_0 hI (zk_8_0 hI f_l0)) c4 (z_dec T_X8_thousandths_ok 39 (78, .iaload, 1) rfl) ?_
              refine zx_aload_n (pc := 79) G (some (9)) 1 rfl rfl (z_dec T_X8_thousandths_ok 40 (79, .aload_n 0, 1) rfl) ?_
              refine zx_getF (pc := 80) (b := 3) G gf_RX8_9 rfl f_l0 (zq_8_0 hI f_l0) (z_dec T_X8_thousandths_ok 41 (80, .getfield 9, 3) rfl) ?_
              refine zx_getF (pc := 83) (b := 5) G gf_RX8_65 rfl (zk_8_0 hI f_l0) (zq_3_1 hI (zk_8_0 hI f_l0)) (z_dec T_X8_thousandths_ok 42 (83, .getfield 65, 3) rfl) ?_
              refine zx_iload (pc := 86) G 0 rfl (z_dec T_X8_thousandths_ok 43 (86, .iload 6, 2) rfl) ?_
              refine zx_iald (pc := 88) G (zk_3_1 hI (zk_8_0 hI f_l0)) c4 (z_dec T_X8_thousandths_ok 44 (88, .iaload, 1) rfl) ?_
              refine zx_iadd (pc := 89) G  (z_dec T_X8_thousandths_ok 45 (89, .iadd, 1) rfl) ?_
              refine zx_istore (pc := 90) (lv' := [(7, .int ((μ.1 4 (μ.1 (o2 + 1) v5.toNatClampNeg).toNatClampNeg) + (μ.1 5 (μ.1 (o2 + 1) v5.toNatClampNeg).toNatClampNeg))), (6, .int (μ.1 (o2 + 1) v5.toNatClampNeg)), (0, .ref (9)), (1, .long (v1)), (3, .long (v3)), (5, .int (v5))]) G (Nat.le_of_ble_eq_true rfl) rfl (z_dec T_X8_thousandths_ok 46 (90, .istore 7, 2) rfl) ?_
              refine zx_lload_n (pc := 92) G 3 rfl rfl (z_dec T_X8_thousandths_ok 47 (92, .lload_n 1, 1) rfl) ?_
              refine zx_iload (pc := 93) G 0 rfl (z_dec T_X8_thousandths_ok 48 (93, .iload 7, 2) rfl) ?_
              refine zx_i2l (pc := 95) G  (z_dec T_X8_thousandths_ok 49 (95, .i2l, 1) rfl) ?_
              refine zx_lmul (pc := 96) G  (z_dec T_X8_thousandths_ok 50 (96, .lmul, 1) rfl) ?_
              refine zx_lload_n (pc := 97) G 4 rfl rfl (z_dec T_X8_thousandths_ok 51 (97, .lload_n 3, 1) rfl) ?_
              refine zx_aload_n (pc := 98) G (some (9)) 2 rfl rfl (z_dec T_X8_thousandths_ok 52 (98, .aload_n 0, 1) rfl) ?_
              refine zx_getF (pc := 99) (b := 3) G gf_RX8_9 rfl f_l0 (zq_8_0 hI f_l0) (z_dec T_X8_thousandths_ok 53 (99, .getfield 9, 3) rfl) ?_
              refine zx_getF (pc := 102) (b := 5) G gf_RX8_65 rfl (zk_8_0 hI f_l0) (zq_3_1 hI (zk_8_0 hI f_l0)) (z_dec T_X8_thousandths_ok 54 (102, .getfield 65, 3) rfl) ?_
              refine zx_iload (pc := 105) G 1 rfl (z_dec T_X8_thousandths_ok 55 (105, .iload 6, 2) rfl) ?_
              refine zx_iald (pc := 107) G (zk_3_1 hI (zk_8_0 hI f_l0)) c4 (z_dec T_X8_thousandths_ok 56 (107, .iaload, 1) rfl) ?_
              refine zx_i2l (pc := 108) G  (z_dec T_X8_thousandths_ok 57 (108, .i2l, 1) rfl) ?_
              refine zx_lmul (pc := 109) G  (z_dec T_X8_thousandths_ok 58 (109, .lmul, 1) rfl) ?_
              refine zx_ladd (pc := 110) G  (z_dec T_X8_thousandths_ok 59 (110, .ladd, 1) rfl) ?_
              refine zx_lstore_n (pc := 111) (lv' := [(1, .long ((v1 * (((μ.1 4 (μ.1 (o2 + 1) v5.toNatClampNeg).toNatClampNeg) + (μ.1 5 (μ.1 (o2 + 1) v5.toNatClampNeg).toNatClampNeg)).toInt64)) + (v3 * ((μ.1 5 (μ.1 (o2 + 1) v5.toNatClampNeg).toNatClampNeg).toInt64)))), (7, .int ((μ.1 4 (μ.1 (o2 + 1) v5.toNatClampNeg).toNatClampNeg) + (μ.1 5 (μ.1 (o2 + 1) v5.toNatClampNeg).toNatClampNeg))), (6, .int (μ.1 (o2 + 1) v5.toNatClampNeg)), (0, .ref (9)), (3, .long (v3)), (5, .int (v5))]) G rfl (Nat.le_of_ble_eq_true rfl) rfl (z_dec T_X8_thousandths_ok 60 (111, .lstore_n 1, 1) rfl) ?_
              refine zx_lload_n (pc := 112) G 4 rfl rfl (z_dec T_X8_thousandths_ok 61 (112, .lload_n 3, 1) rfl) ?_
              refine zx_iload (pc := 113) G 1 rfl (z_dec T_X8_thousandths_ok 62 (113, .iload 7, 2) rfl) ?_
              refine zx_i2l (pc := 115) G  (z_dec T_X8_thousandths_ok 63 (115, .i2l, 1) rfl) ?_
              refine zx_lmul (pc := 116) G  (z_dec T_X8_thousandths_ok 64 (116, .lmul, 1) rfl) ?_
              refine zx_lstore_n (pc := 117) (lv' := [(3, .long (v3 * (((μ.1 4 (μ.1 (o2 + 1) v5.toNatClampNeg).toNatClampNeg) + (μ.1 5 (μ.1 (o2 + 1) v5.toNatClampNeg).toNatClampNeg)).toInt64))), (1, .long ((v1 * (((μ.1 4 (μ.1 (o2 + 1) v5.toNatClampNeg).toNatClampNeg) + (μ.1 5 (μ.1 (o2 + 1) v5.toNatClampNeg).toNatClampNeg)).toInt64)) + (v3 * ((μ.1 5 (μ.1 (o2 + 1) v5.toNatClampNeg).toNatClampNeg).toInt64)))), (7, .int ((μ.1 4 (μ.1 (o2 + 1) v5.toNatClampNeg).toNatClampNeg) + (μ.1 5 (μ.1 (o2 + 1) v5.toNatClampNeg).toNatClampNeg))), (6, .int (μ.1 (o2 + 1) v5.toNatClampNeg)), (0, .ref (9)), (5, .int (v5))]) G rfl (Nat.le_of_ble_eq_true rfl) rfl (z_dec T_X8_thousandths_ok 65 (117, .lstore_n 3, 1) rfl) ?_
              refine zx_iinc (pc := 118) (v := v5 + 1) (lv' := [(5, .int (v5 + 1)), (3, .long (v3 * (((μ.1 4 (μ.1 (o2 + 1) v5.toNatClampNeg).toNatClampNeg) + (μ.1 5 (μ.1 (o2 + 1) v5.toNatClampNeg).toNatClampNeg)).toInt64))), (1, .long ((v1 * (((μ.1 4 (μ.1 (o2 + 1) v5.toNatClampNeg).toNatClampNeg) + (μ.1 5 (μ.1 (o2 + 1) v5.toNatClampNeg).toNatClampNeg)).toInt64)) + (v3 * ((μ.1 5 (μ.1 (o2 + 1) v5.toNatClampNeg).toNatClampNeg).toInt64)))), (7, .int ((μ.1 4 (μ.1 (o2 + 1) v5.toNatClampNeg).toNatClampNeg) + (μ.1 5 (μ.1 (o2 + 1) v5.toNatClampNeg).toNatClampNeg))), (6, .int (μ.1 (o2 + 1) v5.toNatClampNeg)), (0, .ref (9))]) G 5 rfl (z_inc (by decide)) (Nat.le_of_ble_eq_true rfl) rfl (z_dec T_X8_thousandths_ok 66 (118, .iinc 5 1, 3) rfl) ?_
              refine zx_goto (pc := 121) (tgt := 13) G rfl (z_dec T_X8_thousandths_ok 67 (121, .goto (-108), 3) rfl) ?_
              refine zx_sub (lv' := [(0, .ref (9)), (1, .long ((v1 * (((μ.1 4 (μ.1 (o2 + 1) v5.toNatClampNeg).toNatClampNeg) + (μ.1 5 (μ.1 (o2 + 1) v5.toNatClampNeg).toNatClampNeg)).toInt64)) + (v3 * ((μ.1 5 (μ.1 (o2 + 1) v5.toNatClampNeg).toNatClampNeg).toInt64)))), (3, .long (v3 * (((μ.1 4 (μ.1 (o2 + 1) v5.toNatClampNeg).toNatClampNeg) + (μ.1 5 (μ.1 (o2 + 1) v5.toNatClampNeg).toNatClampNeg)).toInt64))), (5, .int (v5 + 1))]) [5, 2, 1, 0] rfl ?_
              exact hP13 _ _ _ _ h f_l0
set_option maxRecDepth 100000 in
set_option maxHeartbeats 4000000 in
theorem L_X8_thousandths_13_ok {p : Program} {l : Launch} {e : Env} {s : State} {m : MethodId} {args : Array Value} {below : List Frame} {meth : Method} {c : Code} {D : va_G} {A : Nat → Prop} {ρ : z_A} {kd : z_K} {q : z_Q} {μ : z_M} {K : Int64 → z_M → Prop} {v1 : Int64} {v3 : Int64} {v5 : Int32} (G : z_G p c cX8_thousandths s m args RX8 8 D) (hr : meth.sig.returnType = (Option.some Jvm.ClassFile.FieldType.long)) (hlk : meth.locks = false) (hI : z_I kd q) (f_l0 : kd 9 = some (.inl 8)) (h : L_X8_thousandths_13 kd q K v1 v3 v5 μ) : z_X p l e rm_X8_thousandths s m args below meth c 8 D A (MQ below (z_Qn D A ρ kd (z_Kl q K)) args s 0 0 A) 0 0 ρ kd q μ 13 [(0, .ref (9)), (1, .long (v1)), (3, .long (v3)), (5, .int (v5))] [] :=
  h (fun (v1 : Int64) (v3 : Int64) (v5 : Int32) (μ : z_M) => (kd 9 = some (.inl 8)) → z_X p l e rm_X8_thousandths s m args below meth c 8 D A (MQ below (z_Qn D A ρ kd (z_Kl q K)) args s 0 0 A) 0 0 ρ kd q μ 13 [(0, .ref (9)), (1, .long (v1)), (3, .long (v3)), (5, .int (v5))] []) (fun v1 v3 v5 μ h f_l0 => B_X8_thousandths_13_ok G hr hlk (fun _ _ _ _ h => h) hI f_l0 h) f_l0
set_option maxRecDepth 100000 in
set_option maxHeartbeats 4000000 in
theorem met_X8_thousandths (l : Launch) (D : va_G) (ρ : z_A) (kd : z_K) (q : z_Q) (μ : z_M) (sz : Nat) (K : Int64 → z_M → Prop) (hI : z_I kd q) (h_o : kd 9 = some (.inl 8)) (h : C_X8_thousandths kd q μ K) : Met l yX8_thousandths (z_ws yX8_thousandths cX8_thousandths 8 (Option.some Jvm.ClassFile.FieldType.long)) rm_X8_thousandths (z_Pc D ρ kd q μ sz [.ref (9)]) (z_Qn D (z_Rg ρ sz) ρ kd (z_Kl q K)) 0 0 (z_Rg ρ sz) := by
  refine z_met (rm := rm_X8_thousandths) (by decide) (Nat.le_of_ble_eq_true rfl) (fun p e s m args below meth c G hr hlk => ?_)
  unfold C_X8_thousandths at h
  show z_X _ _ _ _ _ _ _ _ _ _ _ _ _ _ _ _ _ _ _ _ _ [(0, .ref (9))] _
  refine zx_lconst (pc := 0) (v := 0) G (z_dec T_X8_thousandths_ok 0 (0, .lconst 0, 1) rfl) rfl ?_
  refine zx_lstore_n (pc := 1) (lv' := [(1, .long ((0 : Int64))), (0, .ref (9))]) G rfl (Nat.le_of_ble_eq_true rfl) rfl (z_dec T_X8_thousandths_ok 1 (1, .lstore_n 1, 1) rfl) ?_
  refine zx_lconst (pc := 2) (v := 1) G (z_dec T_X8_thousandths_ok 2 (2, .lconst 1, 1) rfl) rfl ?_
  refine zx_lstore_n (pc := 3) (lv' := [(3, .long ((1 : Int64))), (1, .long ((0 : Int64))), (0, .ref (9))]) G rfl (Nat.le_of_ble_eq_true rfl) rfl (z_dec T_X8_thousandths_ok 3 (3, .lstore_n 3, 1) rfl) ?_
  refine zx_aload_n (pc := 4) G (some (9)) 2 rfl rfl (z_dec T_X8_thousandths_ok 4 (4, .aload_n 0, 1) rfl) ?_
  refine zx_getI (pc := 5) G gf_RX8_29 rfl h_o (z_dec T_X8_thousandths_ok 5 (5, .getfield 29, 3) rfl) ?_
  refine zx_bipush (pc := 8) (v := 8) G (z_dec T_X8_thousandths_ok 6 (8, .bipush 8, 2) rfl) rfl ?_
  refine zx_imul (pc := 10) G  (z_dec T_X8_thousandths_ok 7 (10, .imul, 1) rfl) ?_
  refine zx_istore (pc := 11) (lv' := [(5, .int ((μ.1 9 2) * ((8 : Int32)))), (3, .long ((1 : Int64))), (1, .long ((0 : Int64))), (0, .ref (9))]) G (Nat.le_of_ble_eq_true rfl) rfl (z_dec T_X8_thousandths_ok 8 (11, .istore 5, 2) rfl) ?_
  refine zx_sub (lv' := [(0, .ref (9)), (1, .long ((0 : Int64))), (3, .long ((1 : Int64))), (5, .int ((μ.1 9 2) * ((8 : Int32))))]) [3, 2, 1, 0] rfl ?_
  exact L_X8_thousandths_13_ok G hr hlk hI h_o h
abbrev rm_X8_valueOf : Room := { frames := 1, cells := 0, slots := 0, locals := 27 }
set_option maxRecDepth 100000 in
set_option maxHeartbeats 4000000 in
theorem met_X8_valueOf (l : Launch) (D : va_G) (ρ : z_A) (kd : z_K) (q : z_Q) (μ : z_M) (sz : Nat) (a1 : Int32) (K : Int64 → z_M → Prop) (hI : z_I kd q) (h_o : kd 9 = some (.inl 8)) (h : C_X8_valueOf kd q a1 μ K) : Met l yX8_valueOf (z_ws yX8_valueOf cX8_valueOf 3 (Option.some Jvm.ClassFile.FieldType.long)) rm_X8_valueOf (z_Pc D ρ kd q μ sz [.ref (9), .int (a1)]) (z_Qn D (z_Rg ρ sz) ρ kd (z_Kl q K)) 0 0 (z_Rg ρ sz) := by
  refine z_met (rm := rm_X8_valueOf) (by decide) (Nat.le_of_ble_eq_true rfl) (fun p e s m args below meth c G hr hlk => ?_)
  unfold C_X8_valueOf at h
  show z_X _ _ _ _ _ _ _ _ _ _ _ _ _ _ _ _ _ _ _ _ _ [(0, .ref (9)), (1, .int (a1))] _
  refine zx_aload_n (pc := 0) G (some (9)) 0 rfl rfl (z_dec T_X8_valueOf_ok 0 (0, .aload_n 0, 1) rfl) ?_
  refine zx_getI (pc := 1) G gf_RX8_29 rfl h_o (z_dec T_X8_valueOf_ok 1 (1, .getfield 29, 3) rfl) ?_
  refine zx_bipush (pc := 4) (v := 8) G (z_dec T_X8_valueOf_ok 2 (4, .bipush 8, 2) rfl) rfl ?_
  refine zx_imul (pc := 6) G  (z_dec T_X8_valueOf_ok 3 (6, .imul, 1) rfl) ?_
  refine zx_aload_n (pc := 7) G (some (9)) 0 rfl rfl (z_dec T_X8_valueOf_ok 4 (7, .aload_n 0, 1) rfl) ?_
  refine zx_getI (pc := 8) G gf_RX8_32 rfl h_o (z_dec T_X8_valueOf_ok 5 (8, .getfield 32, 3) rfl) ?_
  refine zx_iadd (pc := 11) G  (z_dec T_X8_valueOf_ok 6 (11, .iadd, 1) rfl) ?_
  refine zx_istore_n (pc := 12) (lv' := [(2, .int (((μ.1 9 2) * ((8 : Int32))) + (μ.1 9 3))), (0, .ref (9)), (1, .int (a1))]) G rfl (Nat.le_of_ble_eq_true rfl) rfl (z_dec T_X8_valueOf_ok 7 (12, .istore_n 2, 1) rfl) ?_
  refine zx_aload_n (pc := 13) G (some (9)) 1 rfl rfl (z_dec T_X8_valueOf_ok 8 (13, .aload_n 0, 1) rfl) ?_
  have hh := z_sb hI h_o
  refine zx_getR (pc := 14) G gf_RX8_25 rfl h_o (z_dec T_X8_valueOf_ok 9 (14, .getfield 25, 3) rfl) ?_
  generalize ew1 : q 9 1 = w1 at hh ⊢
  have fw1 := hh
  replace h := h w1 ew1.symm
  obtain ⟨h1, h2⟩ := h
  rcases w1 with _ | o2
  · replace h := h1 rfl
    refine zx_ifnullN (pc := 17) (tgt := 30) G rfl (z_dec T_X8_valueOf_ok 10 (17, .ifnull 13, 3) rfl) ?_
    refine zx_lconst (pc := 30) (v := 0) G (z_dec T_X8_valueOf_ok 16 (30, .lconst 0, 1) rfl) rfl ?_
    exact zx_lret (pc := 31) G hr hlk (Nat.le_refl _) (Nat.le_refl _) (z_dec T_X8_valueOf_ok 17 (31, .lreturn, 1) rfl) ⟨rfl, _, rfl, h⟩
  · replace h := h2 o2 rfl
    refine zx_ifnullS (pc := 17) G (fw1 o2 rfl) (z_dec T_X8_valueOf_ok 10 (17, .ifnull 13, 3) rfl) ?_
    refine zx_iload_n (pc := 20) G 0 rfl rfl (z_dec T_X8_valueOf_ok 11 (20, .iload_n 2, 1) rfl) ?_
    refine zx_if_lt (pc := 21) (tgt := 30) G rfl (z_dec T_X8_valueOf_ok 12 (21, .ifCond .lt 9, 3) rfl) (fun hc => ?_) (fun hc => ?_)
    · replace h := z_pos hc h
      refine zx_lconst (pc := 30) (v := 0) G (z_dec T_X8_valueOf_ok 16 (30, .lconst 0, 1) rfl) rfl ?_
      exact zx_lret (pc := 31) G hr hlk (Nat.le_refl _) (Nat.le_refl _) (z_dec T_X8_valueOf_ok 17 (31, .lreturn, 1) rfl) ⟨rfl, _, rfl, h⟩
    · replace h := z_neg hc h
      refine zx_iload_n (pc := 24) G 0 rfl rfl (z_dec T_X8_valueOf_ok 13 (24, .iload_n 2, 1) rfl) ?_
      refine zx_bipush (pc := 25) (v := 24) G (z_dec T_X8_valueOf_ok 14 (25, .bipush 24, 2) rfl) rfl ?_
      refine zx_icmp_lt (pc := 27) (tgt := 32) G rfl (z_dec T_X8_valueOf_ok 15 (27, .if_icmp .lt 5, 3) rfl) (fun hc => ?_) (fun hc => ?_)
      · replace h := z_pos hc h
        refine zx_iload_n (pc := 32) G 2 rfl rfl (z_dec T_X8_valueOf_ok 18 (32, .iload_n 1, 1) rfl) ?_
        by_cases n3 : a1 = 104
        · replace h := z_pos n3 h
          refine zx_tableIn (pc := 33) (tgt := 124) (off := 91) G (by rw [n3]; decide) (by rw [n3]; decide) (by rw [n3]; rfl) rfl (z_dec T_X8_valueOf_ok 19 (33, .tableswitch 187 104 122 #[91, 97, 187, 127, 187, 139, 176, 187, 187, 145, 187, 187, 163, 187, 187, 187, 187, 187, 133], 91) rfl) ?_
          refine zx_aload_n (pc := 124) G (some (9)) 1 rfl rfl (z_dec T_X8_valueOf_ok 20 (124, .aload_n 0, 1) rfl) ?_
          refine zx_getI (pc := 125) G gf_RX8_32 rfl h_o (z_dec T_X8_valueOf_ok 21 (125, .getfield 32, 3) rfl) ?_
          refine zx_i2l (pc := 128) G  (z_dec T_X8_valueOf_ok 22 (128, .i2l, 1) rfl) ?_
          exact zx_lret (pc := 129) G hr hlk (Nat.le_refl _) (Nat.le_refl _) (z_dec T_X8_valueOf_ok 23 (129, .lreturn, 1) rfl) ⟨rfl, _, rfl, h⟩
        replace h := z_neg n3 h
        by_cases n9 : a1 = 105
        · replace h := z_pos n9 h
          refine zx_tableIn (pc := 33) (tgt := 130) (off := 97) G (by rw [n9]; decide) (by rw [n9]; decide) (by rw [n9]; rfl) rfl (z_dec T_X8_valueOf_ok 19 (33, .tableswitch 187 104 122 #[91, 97, 187, 127, 187, 139, 176, 187, 187, 145, 187, 187, 163, 187, 187, 187, 187, 187, 133], 91) rfl) ?_
          refine zx_aload_n (pc := 130) G (some (9)) 1 rfl rfl (z_dec T_X8_valueOf_ok 24 (130, .aload_n 0, 1) rfl) ?_
          have hh := z_sb hI h_o
          refine zx_getR (pc := 131) G gf_RX8_25 rfl h_o (z_dec T_X8_valueOf_ok 25 (131, .getfield 25, 3) rfl) ?_
          generalize ew4 : q 9 1 = w4 at hh ⊢
          have fw4 := hh
          replace h := h w4 ew4.symm
          obtain ⟨o5, rfl, h⟩ := h
          refine zx_getF (pc := 134) (b := o5 + 1) G gf_RX8_35 rfl (fw4 o5 rfl) (zq_1_3 hI (fw4 o5 rfl)) (z_dec T_X8_valueOf_ok 26 (134, .getfield 35, 3) rfl) ?_
          refine zx_iload_n (pc := 137) G 0 rfl rfl (z_dec T_X8_valueOf_ok 27 (137, .iload_n 2, 1) rfl) ?_
          obtain ⟨c6, h⟩ := h
          refine zx_iald (pc := 138) G (zk_1_3 hI (fw4 o5 rfl)) c6 (z_dec T_X8_valueOf_ok 28 (138, .iaload, 1) rfl) ?_
          refine zx_iconst (pc := 139) (v := -1) G (z_dec T_X8_valueOf_ok 29 (139, .iconst (-1), 1) rfl) rfl ?_
          refine zx_icmp_ne (pc := 140) (tgt := 149) G rfl (z_dec T_X8_valueOf_ok 30 (140, .if_icmp .ne 9, 3) rfl) (fun hc => ?_) (fun hc => ?_)
          · replace h := z_neg hc h
            refine zx_aload_n (pc := 149) G (some (9)) 1 rfl rfl (z_dec T_X8_valueOf_ok 33 (149, .aload_n 0, 1) rfl) ?_
            have hh := z_sb hI h_o
            refine zx_getR (pc := 150) G gf_RX8_25 rfl h_o (z_dec T_X8_valueOf_ok 34 (150, .getfield 25, 3) rfl) ?_
            generalize ew7 : q 9 1 = w7 at hh ⊢
            have fw7 := hh
            replace h := h w7 ew7.symm
            obtain ⟨o8, rfl, h⟩ := h
            refine zx_getF (pc := 153) (b := o8 + 1) G gf_RX8_35 rfl (fw7 o8 rfl) (zq_1_3 hI (fw7 o8 rfl)) (z_dec T_X8_valueOf_ok 35 (153, .getfield 35, 3) rfl) ?_
            refine zx_iload_n (pc := 156) G 0 rfl rfl (z_dec T_X8_valueOf_ok 36 (156, .iload_n 2, 1) rfl) ?_
            refine zx_iald (pc := 157) G (zk_1_3 hI (fw7 o8 rfl)) c6 (z_dec T_X8_valueOf_ok 37 (157, .iaload, 1) rfl) ?_
            refine zx_i2l (pc := 158) G  (z_dec T_X8_valueOf_ok 38 (158, .i2l, 1) rfl) ?_
            exact zx_lret (pc := 159) G hr hlk (Nat.le_refl _) (Nat.le_refl _) (z_dec T_X8_valueOf_ok 39 (159, .lreturn, 1) rfl) ⟨rfl, _, rfl, h⟩
          · replace h := z_pos hc h
            refine zx_ldc2 (pc := 143) G wk_RX8_41 (z_dec T_X8_valueOf_ok 31 (143, .ldc2_w 41, 3) rfl) ?_
            refine zx_goto (pc := 146) (tgt := 159) G rfl (z_dec T_X8_valueOf_ok 32 (146, .goto 13, 3) rfl) ?_
            exact zx_lret (pc := 159) G hr hlk (Nat.le_refl _) (Nat.le_refl _) (z_dec T_X8_valueOf_ok 39 (159, .lreturn, 1) rfl) ⟨rfl, _, rfl, h⟩
        replace h := z_neg n9 h
        by_cases n10 : a1 = 107
        · replace h := z_pos n10 h
          refine zx_tableIn (pc := 33) (tgt := 160) (off := 127) G (by rw [n10]; decide) (by rw [n10]; decide) (by rw [n10]; rfl) rfl (z_dec T_X8_valueOf_ok 19 (33, .tableswitch 187 104 122 #[91, 97, 187, 127, 187, 139, 176, 187, 187, 145, 187, 187, 163, 187, 187, 187, 187, 187, 133], 91) rfl) ?_
          refine zx_aload_n (pc := 160) G (some (9)) 1 rfl rfl (z_dec T_X8_valueOf_ok 40 (160, .aload_n 0, 1) rfl) ?_
          refine zx_getI (pc := 161) G gf_RX8_19 rfl h_o (z_dec T_X8_valueOf_ok 41 (161, .getfield 19, 3) rfl) ?_
          refine zx_i2l (pc := 164) G  (z_dec T_X8_valueOf_ok 42 (164, .i2l, 1) rfl) ?_
          exact zx_lret (pc := 165) G hr hlk (Nat.le_refl _) (Nat.le_refl _) (z_dec T_X8_valueOf_ok 43 (165, .lreturn, 1) rfl) ⟨rfl, _, rfl, h⟩
        replace h := z_neg n10 h
        by_cases n11 : a1 = 109
        · replace h := z_pos n11 h
          refine zx_tableIn (pc := 33) (tgt := 172) (off := 139) G (by rw [n11]; decide) (by rw [n11]; decide) (by rw [n11]; rfl) rfl (z_dec T_X8_valueOf_ok 19 (33, .tableswitch 187 104 122 #[91, 97, 187, 127, 187, 139, 176, 187, 187, 145, 187, 187, 163, 187, 187, 187, 187, 187, 133], 91) rfl) ?_
          refine zx_aload_n (pc := 172) G (some (9)) 1 rfl rfl (z_dec T_X8_valueOf_ok 48 (172, .aload_n 0, 1) rfl) ?_
          refine zx_getI (pc := 173) G gf_RX8_22 rfl h_o (z_dec T_X8_valueOf_ok 49 (173, .getfield 22, 3) rfl) ?_
          refine zx_i2l (pc := 176) G  (z_dec T_X8_valueOf_ok 50 (176, .i2l, 1) rfl) ?_
          exact zx_lret (pc := 177) G hr hlk (Nat.le_refl _) (Nat.le_refl _) (z_dec T_X8_valueOf_ok 51 (177, .lreturn, 1) rfl) ⟨rfl, _, rfl, h⟩
        replace h := z_neg n11 h
        by_cases n15 : a1 = 110
        · replace h := z_pos n15 h
          refine zx_tableIn (pc := 33) (tgt := 209) (off := 176) G (by rw [n15]; decide) (by rw [n15]; decide) (by rw [n15]; rfl) rfl (z_dec T_X8_valueOf_ok 19 (33, .tableswitch 187 104 122 #[91, 97, 187, 127, 187, 139, 176, 187, 187, 145, 187, 187, 163, 187, 187, 187, 187, 187, 133], 91) rfl) ?_
          refine zx_aload_n (pc := 209) G (some (9)) 1 rfl rfl (z_dec T_X8_valueOf_ok 69 (209, .aload_n 0, 1) rfl) ?_
          have hh := z_sb hI h_o
          refine zx_getR (pc := 210) G gf_RX8_25 rfl h_o (z_dec T_X8_valueOf_ok 70 (210, .getfield 25, 3) rfl) ?_
          generalize ew12 : q 9 1 = w12 at hh ⊢
          have fw12 := hh
          replace h := h w12 ew12.symm
          obtain ⟨o13, rfl, h⟩ := h
          refine zx_getF (pc := 213) (b := o13 + 6) G gf_RX8_51 rfl (fw12 o13 rfl) (zq_1_8 hI (fw12 o13 rfl)) (z_dec T_X8_valueOf_ok 71 (213, .getfield 51, 3) rfl) ?_
          refine zx_iload_n (pc := 216) G 0 rfl rfl (z_dec T_X8_valueOf_ok 72 (216, .iload_n 2, 1) rfl) ?_
          obtain ⟨c14, h⟩ := h
          refine zx_iald (pc := 217) G (zk_1_8 hI (fw12 o13 rfl)) c14 (z_dec T_X8_valueOf_ok 73 (217, .iaload, 1) rfl) ?_
          refine zx_i2l (pc := 218) G  (z_dec T_X8_valueOf_ok 74 (218, .i2l, 1) rfl) ?_
          exact zx_lret (pc := 219) G hr hlk (Nat.le_refl _) (Nat.le_refl _) (z_dec T_X8_valueOf_ok 75 (219, .lreturn, 1) rfl) ⟨rfl, _, rfl, h⟩
        replace h := z_neg n15 h
        by_cases n20 : a1 = 113
        · replace h := z_pos n20 h
          refine zx_tableIn (pc := 33) (tgt := 178) (off := 145) G (by rw [n20]; decide) (by rw [n20]; decide) (by rw [n20]; rfl) rfl (z_dec T_X8_valueOf_ok 19 (33, .tableswitch 187 104 122 #[91, 97, 187, 127, 187, 139, 176, 187, 187, 145, 187, 187, 163, 187, 187, 187, 187, 187, 133], 91) rfl) ?_
          refine zx_aload_n (pc := 178) G (some (9)) 1 rfl rfl (z_dec T_X8_valueOf_ok 52 (178, .aload_n 0, 1) rfl) ?_
          have hh := z_sb hI h_o
          refine zx_getR (pc := 179) G gf_RX8_25 rfl h_o (z_dec T_X8_valueOf_ok 53 (179, .getfield 25, 3) rfl) ?_
          generalize ew16 : q 9 1 = w16 at hh ⊢
          have fw16 := hh
          replace h := h w16 ew16.symm
          refine zx_aload_n (pc := 182) G (some (9)) 1 rfl rfl (z_dec T_X8_valueOf_ok 54 (182, .aload_n 0, 1) rfl) ?_
          refine zx_getI (pc := 183) G gf_RX8_29 rfl h_o (z_dec T_X8_valueOf_ok 55 (183, .getfield 29, 3) rfl) ?_
          refine zx_aload_n (pc := 186) G (some (9)) 1 rfl rfl (z_dec T_X8_valueOf_ok 56 (186, .aload_n 0, 1) rfl) ?_
          refine zx_getI (pc := 187) G gf_RX8_32 rfl h_o (z_dec T_X8_valueOf_ok 57 (187, .getfield 32, 3) rfl) ?_
          obtain ⟨o17, rfl, h⟩ := h
          refine zx_callV_iN (pc := 190) (rm := rm_X1_balanceAt) G cw_RX8_43 ⟨Nat.le_of_ble_eq_true rfl, Nat.le_of_ble_eq_true rfl⟩ rfl rfl ⟨Nat.zero_le _, Nat.zero_le _⟩ (fw16 o17 rfl) rfl (fun sz => (met_X1_balanceAt l D ρ kd q μ sz o17 (μ.1 9 2) (μ.1 9 3) _ hI (fw16 o17 rfl) h)) rfl rfl (Nat.le_of_ble_eq_true rfl) (z_dec T_X8_valueOf_ok 58 (190, .invokevirtual 43, 3) rfl) (fun r19 μ18 hn => ?_)
          clear h
          have h := hn
          clear hn
          refine zx_ineg (pc := 193) G  (z_dec T_X8_valueOf_ok 59 (193, .ineg, 1) rfl) ?_
          refine zx_i2l (pc := 194) G  (z_dec T_X8_valueOf_ok 60 (194, .i2l, 1) rfl) ?_
          exact zx_lret (pc := 195) G hr hlk (Nat.le_refl _) (Nat.le_refl _) (z_dec T_X8_valueOf_ok 61 (195, .lreturn, 1) rfl) ⟨rfl, _, rfl, h⟩
        replace h := z_neg n20 h
        by_cases n25 : a1 = 116
        · replace h := z_pos n25 h
          refine zx_tableIn (pc := 33) (tgt := 196) (off := 163) G (by rw [n25]; decide) (by rw [n25]; decide) (by rw [n25]; rfl) rfl (z_dec T_X8_valueOf_ok 19 (33, .tableswitch 187 104 122 #[91, 97, 187, 127, 187, 139, 176, 187, 187, 145, 187, 187, 163, 187, 187, 187, 187, 187, 133], 91) rfl) ?_
          refine zx_aload_n (pc := 196) G (some (9)) 1 rfl rfl (z_dec T_X8_valueOf_ok 62 (196, .aload_n 0, 1) rfl) ?_
          have hh := z_sb hI h_o
          refine zx_getR (pc := 197) G gf_RX8_25 rfl h_o (z_dec T_X8_valueOf_ok 63 (197, .getfield 25, 3) rfl) ?_
          generalize ew21 : q 9 1 = w21 at hh ⊢
          have fw21 := hh
          replace h := h w21 ew21.symm
          refine zx_aload_n (pc := 200) G (some (9)) 1 rfl rfl (z_dec T_X8_valueOf_ok 64 (200, .aload_n 0, 1) rfl) ?_
          refine zx_getI (pc := 201) G gf_RX8_29 rfl h_o (z_dec T_X8_valueOf_ok 65 (201, .getfield 29, 3) rfl) ?_
          obtain ⟨o22, rfl, h⟩ := h
          refine zx_callV_iN (pc := 204) (rm := rm_X1_stakesOf) G cw_RX8_47 ⟨Nat.le_of_ble_eq_true rfl, Nat.le_of_ble_eq_true rfl⟩ rfl rfl ⟨Nat.zero_le _, Nat.zero_le _⟩ (fw21 o22 rfl) rfl (fun sz => (met_X1_stakesOf l D ρ kd q μ sz o22 (μ.1 9 2) _ hI (fw21 o22 rfl) h)) rfl rfl (Nat.le_of_ble_eq_true rfl) (z_dec T_X8_valueOf_ok 66 (204, .invokevirtual 47, 3) rfl) (fun r24 μ23 hn => ?_)
          clear h
          have h := hn
          clear hn
          refine zx_i2l (pc := 207) G  (z_dec T_X8_valueOf_ok 67 (207, .i2l, 1) rfl) ?_
          exact zx_lret (pc := 208) G hr hlk (Nat.le_refl _) (Nat.le_refl _) (z_dec T_X8_valueOf_ok 68 (208, .lreturn, 1) rfl) ⟨rfl, _, rfl, h⟩
        replace h := z_neg n25 h
        by_cases n26 : a1 = 122
        · replace h := z_pos n26 h
          refine zx_tableIn (pc := 33) (tgt := 166) (off := 133) G (by rw [n26]; decide) (by rw [n26]; decide) (by rw [n26]; rfl) rfl (z_dec T_X8_valueOf_ok 19 (33, .tableswitch 187 104 122 #[91, 97, 187, 127, 187, 139, 176, 187, 187, 145, 187, 187, 163, 187, 187, 187, 187, 187, 133], 91) rfl) ?_
          refine zx_aload_n (pc := 166) G (some (9)) 1 rfl rfl (z_dec T_X8_valueOf_ok 44 (166, .aload_n 0, 1) rfl) ?_
          refine zx_getI (pc := 167) G gf_RX8_15 rfl h_o (z_dec T_X8_valueOf_ok 45 (167, .getfield 15, 3) rfl) ?_
          refine zx_i2l (pc := 170) G  (z_dec T_X8_valueOf_ok 46 (170, .i2l, 1) rfl) ?_
          exact zx_lret (pc := 171) G hr hlk (Nat.le_refl _) (Nat.le_refl _) (z_dec T_X8_valueOf_ok 47 (171, .lreturn, 1) rfl) ⟨rfl, _, rfl, h⟩
        replace h := z_neg n26 h
        -- default
        by_cases hr1 : a1.toInt < 104 ∨ 122 < a1.toInt
        · refine zx_tableOut (pc := 33) (tgt := 220) G hr1 rfl (z_dec T_X8_valueOf_ok 19 (33, .tableswitch 187 104 122 #[91, 97, 187, 127, 187, 139, 176, 187, 187, 145, 187, 187, 163, 187, 187, 187, 187, 187, 133], 91) rfl) ?_
          refine zx_aload_n (pc := 220) G (some (9)) 1 rfl rfl (z_dec T_X8_valueOf_ok 76 (220, .aload_n 0, 1) rfl) ?_
          refine zx_callV_lN (pc := 221) (rm := rm_X8_thousandths) G cw_RX8_54 ⟨Nat.le_of_ble_eq_true rfl, Nat.le_of_ble_eq_true rfl⟩ rfl rfl ⟨Nat.zero_le _, Nat.zero_le _⟩ h_o rfl (fun sz => (met_X8_thousandths l D ρ kd q μ sz  _ hI h_o h)) rfl rfl (Nat.le_of_ble_eq_true rfl) (z_dec T_X8_valueOf_ok 77 (221, .invokevirtual 54, 3) rfl) (fun r28 μ27 hn => ?_)
          clear h
          have h := hn
          clear hn
          exact zx_lret (pc := 224) G hr hlk (Nat.le_refl _) (Nat.le_refl _) (z_dec T_X8_valueOf_ok 78 (224, .lreturn, 1) rfl) ⟨rfl, _, rfl, h⟩
        · have hd : a1 = 106 ∨ a1 = 108 ∨ a1 = 111 ∨ a1 = 112 ∨ a1 = 114 ∨ a1 = 115 ∨ a1 = 117 ∨ a1 = 118 ∨ a1 = 119 ∨ a1 = 120 ∨ a1 = 121 := by
            have t1 : ¬ a1.toInt < 104 := fun q => hr1 (Or.inl q)
            have t2 : ¬ 122 < a1.toInt := fun q => hr1 (Or.inr q)
            have u104 : ¬ a1.toInt = 104 := lv_neT n3 rfl
            have u105 : ¬ a1.toInt = 105 := lv_neT n9 rfl
            have u107 : ¬ a1.toInt = 107 := lv_neT n10 rfl
            have u109 : ¬ a1.toInt = 109 := lv_neT n11 rfl
            have u110 : ¬ a1.toInt = 110 := lv_neT n15 rfl
            have u113 : ¬ a1.toInt = 113 := lv_neT n20 rfl
            have u116 : ¬ a1.toInt = 116 := lv_neT n25 rfl
            have u122 : ¬ a1.toInt = 122 := lv_neT n26 rfl
            have b106 : a1 = 106 ↔ a1.toInt = 106 := ⟨fun q => by rw [q]; rfl, fun q => Int32.toInt_inj.mp (by rw [q]; rfl)⟩
            have b108 : a1 = 108 ↔ a1.toInt = 108 := ⟨fun q => by rw [q]; rfl, fun q => Int32.toInt_inj.mp (by rw [q]; rfl)⟩
            have b111 : a1 = 111 ↔ a1.toInt = 111 := ⟨fun q => by rw [q]; rfl, fun q => Int32.toInt_inj.mp (by rw [q]; rfl)⟩
            have b112 : a1 = 112 ↔ a1.toInt = 112 := ⟨fun q => by rw [q]; rfl, fun q => Int32.toInt_inj.mp (by rw [q]; rfl)⟩
            have b114 : a1 = 114 ↔ a1.toInt = 114 := ⟨fun q => by rw [q]; rfl, fun q => Int32.toInt_inj.mp (by rw [q]; rfl)⟩
            have b115 : a1 = 115 ↔ a1.toInt = 115 := ⟨fun q => by rw [q]; rfl, fun q => Int32.toInt_inj.mp (by rw [q]; rfl)⟩
            have b117 : a1 = 117 ↔ a1.toInt = 117 := ⟨fun q => by rw [q]; rfl, fun q => Int32.toInt_inj.mp (by rw [q]; rfl)⟩
            have b118 : a1 = 118 ↔ a1.toInt = 118 := ⟨fun q => by rw [q]; rfl, fun q => Int32.toInt_inj.mp (by rw [q]; rfl)⟩
            have b119 : a1 = 119 ↔ a1.toInt = 119 := ⟨fun q => by rw [q]; rfl, fun q => Int32.toInt_inj.mp (by rw [q]; rfl)⟩
            have b120 : a1 = 120 ↔ a1.toInt = 120 := ⟨fun q => by rw [q]; rfl, fun q => Int32.toInt_inj.mp (by rw [q]; rfl)⟩
            have b121 : a1 = 121 ↔ a1.toInt = 121 := ⟨fun q => by rw [q]; rfl, fun q => Int32.toInt_inj.mp (by rw [q]; rfl)⟩
            simp only [b106, b108, b111, b112, b114, b115, b117, b118, b119, b120, b121]
            omega
          rcases hd with hd | hd | hd | hd | hd | hd | hd | hd | hd | hd | hd
          · refine zx_tableIn (pc := 33) (tgt := 220) (off := 187) G (by rw [hd]; decide) (by rw [hd]; decide) (by rw [hd]; rfl) rfl (z_dec T_X8_valueOf_ok 19 (33, .tableswitch 187 104 122 #[91, 97, 187, 127, 187, 139, 176, 187, 187, 145, 187, 187, 163, 187, 187, 187, 187, 187, 133], 91) rfl) ?_
            refine zx_aload_n (pc := 220) G (some (9)) 1 rfl rfl (z_dec T_X8_valueOf_ok 76 (220, .aload_n 0, 1) rfl) ?_
            refine zx_callV_lN (pc := 221) (rm := rm_X8_thousandths) G cw_RX8_54 ⟨Nat.le_of_ble_eq_true rfl, Nat.le_of_ble_eq_true rfl⟩ rfl rfl ⟨Nat.zero_le _, Nat.zero_le _⟩ h_o rfl (fun sz => (met_X8_thousandths l D ρ kd q μ sz  _ hI h_o h)) rfl rfl (Nat.le_of_ble_eq_true rfl) (z_dec T_X8_valueOf_ok 77 (221, .invokevirtual 54, 3) rfl) (fun r28 μ27 hn => ?_)
            clear h
            have h := hn
            clear hn
            exact zx_lret (pc := 224) G hr hlk (Nat.le_refl _) (Nat.le_refl _) (z_dec T_X8_valueOf_ok 78 (224, .lreturn, 1) rfl) ⟨rfl, _, rfl, h⟩
          · refine zx_tableIn (pc := 33) (tgt := 220) (off := 187) G (by rw [hd]; decide) (by rw [hd]; decide) (by rw [hd]; rfl) rfl (z_dec T_X8_valueOf_ok 19 (33, .tableswitch 187 104 122 #[91, 97, 187, 127, 187, 139, 176, 187, 187, 145, 187, 187, 163, 187, 187, 187, 187, 187, 133], 91) rfl) ?_
            refine zx_aload_n (pc := 220) G (some (9)) 1 rfl rfl (z_dec T_X8_valueOf_ok 76 (220, .aload_n 0, 1) rfl) ?_
            refine zx_callV_lN (pc := 221) (rm := rm_X8_thousandths) G cw_RX8_54 ⟨Nat.le_of_ble_eq_true rfl, Nat.le_of_ble_eq_true rfl⟩ rfl rfl ⟨Nat.zero_le _, Nat.zero_le _⟩ h_o rfl (fun sz => (met_X8_thousandths l D ρ kd q μ sz  _ hI h_o h)) rfl rfl (Nat.le_of_ble_eq_true rfl) (z_dec T_X8_valueOf_ok 77 (221, .invokevirtual 54, 3) rfl) (fun r28 μ27 hn => ?_)
            clear h
            have h := hn
            clear hn
            exact zx_lret (pc := 224) G hr hlk (Nat.le_refl _) (Nat.le_refl _) (z_dec T_X8_valueOf_ok 78 (224, .lreturn, 1) rfl) ⟨rfl, _, rfl, h⟩
          · refine zx_tableIn (pc := 33) (tgt := 220) (off := 187) G (by rw [hd]; decide) (by rw [hd]; decide) (by rw [hd]; rfl) rfl (z_dec T_X8_valueOf_ok 19 (33, .tableswitch 187 104 122 #[91, 97, 187, 127, 187, 139, 176, 187, 187, 145, 187, 187, 163, 187, 187, 187, 187, 187, 133], 91) rfl) ?_
            refine zx_aload_n (pc := 220) G (some (9)) 1 rfl rfl (z_dec T_X8_valueOf_ok 76 (220, .aload_n 0, 1) rfl) ?_
            refine zx_callV_lN (pc := 221) (rm := rm_X8_thousandths) G cw_RX8_54 ⟨Nat.le_of_ble_eq_true rfl, Nat.le_of_ble_eq_true rfl⟩ rfl rfl ⟨Nat.zero_le _, Nat.zero_le _⟩ h_o rfl (fun sz => (met_X8_thousandths l D ρ kd q μ sz  _ hI h_o h)) rfl rfl (Nat.le_of_ble_eq_true rfl) (z_dec T_X8_valueOf_ok 77 (221, .invokevirtual 54, 3) rfl) (fun r28 μ27 hn => ?_)
            clear h
            have h := hn
            clear hn
            exact zx_lret (pc := 224) G hr hlk (Nat.le_refl _) (Nat.le_refl _) (z_dec T_X8_valueOf_ok 78 (224, .lreturn, 1) rfl) ⟨rfl, _, rfl, h⟩
          · refine zx_tableIn (pc := 33) (tgt := 220) (off := 187) G (by rw [hd]; decide) (by rw [hd]; decide) (by rw [hd]; rfl) rfl (z_dec T_X8_valueOf_ok 19 (33, .tableswitch 187 104 122 #[91, 97, 187, 127, 187, 139, 176, 187, 187, 145, 187, 187, 163, 187, 187, 187, 187, 187, 133], 91) rfl) ?_
            refine zx_aload_n (pc := 220) G (some (9)) 1 rfl rfl (z_dec T_X8_valueOf_ok 76 (220, .aload_n 0, 1) rfl) ?_
            refine zx_callV_lN (pc := 221) (rm := rm_X8_thousandths) G cw_RX8_54 ⟨Nat.le_of_ble_eq_true rfl, Nat.le_of_ble_eq_true rfl⟩ rfl rfl ⟨Nat.zero_le _, Nat.zero_le _⟩ h_o rfl (fun sz => (met_X8_thousandths l D ρ kd q μ sz  _ hI h_o h)) rfl rfl (Nat.le_of_ble_eq_true rfl) (z_dec T_X8_valueOf_ok 77 (221, .invokevirtual 54, 3) rfl) (fun r28 μ27 hn => ?_)
            clear h
            have h := hn
            clear hn
            exact zx_lret (pc := 224) G hr hlk (Nat.le_refl _) (Nat.le_refl _) (z_dec T_X8_valueOf_ok 78 (224, .lreturn, 1) rfl) ⟨rfl, _, rfl, h⟩
          · refine zx_tableIn (pc := 33) (tgt := 220) (off := 187) G (by rw [hd]; decide) (by rw [hd]; decide) (by rw [hd]; rfl) rfl (z_dec T_X8_valueOf_ok 19 (33, .tableswitch 187 104 122 #[91, 97, 187, 127, 187, 139, 176, 187, 187, 145, 187, 187, 163, 187, 187, 187, 187, 187, 133], 91) rfl) ?_
            refine zx_aload_n (pc := 220) G (some (9)) 1 rfl rfl (z_dec T_X8_valueOf_ok 76 (220, .aload_n 0, 1) rfl) ?_
            refine zx_callV_lN (pc := 221) (rm := rm_X8_thousandths) G cw_RX8_54 ⟨Nat.le_of_ble_eq_true rfl, Nat.le_of_ble_eq_true rfl⟩ rfl rfl ⟨Nat.zero_le _, Nat.zero_le _⟩ h_o rfl (fun sz => (met_X8_thousandths l D ρ kd q μ sz  _ hI h_o h)) rfl rfl (Nat.le_of_ble_eq_true rfl) (z_dec T_X8_valueOf_ok 77 (221, .invokevirtual 54, 3) rfl) (fun r28 μ27 hn => ?_)
            clear h
            have h := hn
            clear hn
            exact zx_lret (pc := 224) G hr hlk (Nat.le_refl _) (Nat.le_refl _) (z_dec T_X8_valueOf_ok 78 (224, .lreturn, 1) rfl) ⟨rfl, _, rfl, h⟩
          · refine zx_tableIn (pc := 33) (tgt := 220) (off := 187) G (by rw [hd]; decide) (by rw [hd]; decide) (by rw [hd]; rfl) rfl (z_dec T_X8_valueOf_ok 19 (33, .tableswitch 187 104 122 #[91, 97, 187, 127, 187, 139, 176, 187, 187, 145, 187, 187, 163, 187, 187, 187, 187, 187, 133], 91) rfl) ?_
            refine zx_aload_n (pc := 220) G (some (9)) 1 rfl rfl (z_dec T_X8_valueOf_ok 76 (220, .aload_n 0, 1) rfl) ?_
            refine zx_callV_lN (pc := 221) (rm := rm_X8_thousandths) G cw_RX8_54 ⟨Nat.le_of_ble_eq_true rfl, Nat.le_of_ble_eq_true rfl⟩ rfl rfl ⟨Nat.zero_le _, Nat.zero_le _⟩ h_o rfl (fun sz => (met_X8_thousandths l D ρ kd q μ sz  _ hI h_o h)) rfl rfl (Nat.le_of_ble_eq_true rfl) (z_dec T_X8_valueOf_ok 77 (221, .invokevirtual 54, 3) rfl) (fun r28 μ27 hn => ?_)
            clear h
            have h := hn
            clear hn
            exact zx_lret (pc := 224) G hr hlk (Nat.le_refl _) (Nat.le_refl _) (z_dec T_X8_valueOf_ok 78 (224, .lreturn, 1) rfl) ⟨rfl, _, rfl, h⟩
          · refine zx_tableIn (pc := 33) (tgt := 220) (off := 187) G (by rw [hd]; decide) (by rw [hd]; decide) (by rw [hd]; rfl) rfl (z_dec T_X8_valueOf_ok 19 (33, .tableswitch 187 104 122 #[91, 97, 187, 127, 187, 139, 176, 187, 187, 145, 187, 187, 163, 187, 187, 187, 187, 187, 133], 91) rfl) ?_
            refine zx_aload_n (pc := 220) G (some (9)) 1 rfl rfl (z_dec T_X8_valueOf_ok 76 (220, .aload_n 0, 1) rfl) ?_
            refine zx_callV_lN (pc := 221) (rm := rm_X8_thousandths) G cw_RX8_54 ⟨Nat.le_of_ble_eq_true rfl, Nat.le_of_ble_eq_true rfl⟩ rfl rfl ⟨Nat.zero_le _, Nat.zero_le _⟩ h_o rfl (fun sz => (met_X8_thousandths l D ρ kd q μ sz  _ hI h_o h)) rfl rfl (Nat.le_of_ble_eq_true rfl) (z_dec T_X8_valueOf_ok 77 (221, .invokevirtual 54, 3) rfl) (fun r28 μ27 hn => ?_)
            clear h
            have h := hn
            clear hn
            exact zx_lret (pc := 224) G hr hlk (Nat.le_refl _) (Nat.le_refl _) (z_dec T_X8_valueOf_ok 78 (224, .lreturn, 1) rfl) ⟨rfl, _, rfl, h⟩
          · refine zx_tableIn (pc := 33) (tgt := 220) (off := 187) G (by rw [hd]; decide) (by rw [hd]; decide) (by rw [hd]; rfl) rfl (z_dec T_X8_valueOf_ok 19 (33, .tableswitch 187 104 122 #[91, 97, 187, 127, 187, 139, 176, 187, 187, 145, 187, 187, 163, 187, 187, 187, 187, 187, 133], 91) rfl) ?_
            refine zx_aload_n (pc := 220) G (some (9)) 1 rfl rfl (z_dec T_X8_valueOf_ok 76 (220, .aload_n 0, 1) rfl) ?_
            refine zx_callV_lN (pc := 221) (rm := rm_X8_thousandths) G cw_RX8_54 ⟨Nat.le_of_ble_eq_true rfl, Nat.le_of_ble_eq_true rfl⟩ rfl rfl ⟨Nat.zero_le _, Nat.zero_le _⟩ h_o rfl (fun sz => (met_X8_thousandths l D ρ kd q μ sz  _ hI h_o h)) rfl rfl (Nat.le_of_ble_eq_true rfl) (z_dec T_X8_valueOf_ok 77 (221, .invokevirtual 54, 3) rfl) (fun r28 μ27 hn => ?_)
            clear h
            have h := hn
            clear hn
            exact zx_lret (pc := 224) G hr hlk (Nat.le_refl _) (Nat.le_refl _) (z_dec T_X8_valueOf_ok 78 (224, .lreturn, 1) rfl) ⟨rfl, _, rfl, h⟩
          · refine zx_tableIn (pc := 33) (tgt := 220) (off := 187) G (by rw [hd]; decide) (by rw [hd]; decide) (by rw [hd]; rfl) rfl (z_dec T_X8_valueOf_ok 19 (33, .tableswitch 187 104 122 #[91, 97, 187, 127, 187, 139, 176, 187, 187, 145, 187, 187, 163, 187, 187, 187, 187, 187, 133], 91) rfl) ?_
            refine zx_aload_n (pc := 220) G (some (9)) 1 rfl rfl (z_dec T_X8_valueOf_ok 76 (220, .aload_n 0, 1) rfl) ?_
            refine zx_callV_lN (pc := 221) (rm := rm_X8_thousandths) G cw_RX8_54 ⟨Nat.le_of_ble_eq_true rfl, Nat.le_of_ble_eq_true rfl⟩ rfl rfl ⟨Nat.zero_le _, Nat.zero_le _⟩ h_o rfl (fun sz => (met_X8_thousandths l D ρ kd q μ sz  _ hI h_o h)) rfl rfl (Nat.le_of_ble_eq_true rfl) (z_dec T_X8_valueOf_ok 77 (221, .invokevirtual 54, 3) rfl) (fun r28 μ27 hn => ?_)
            clear h
            have h := hn
            clear hn
            exact zx_lret (pc := 224) G hr hlk (Nat.le_refl _) (Nat.le_refl _) (z_dec T_X8_valueOf_ok 78 (224, .lreturn, 1) rfl) ⟨rfl, _, rfl, h⟩
          · refine zx_tableIn (pc := 33) (tgt := 220) (off := 187) G (by rw [hd]; decide) (by rw [hd]; decide) (by rw [hd]; rfl) rfl (z_dec T_X8_valueOf_ok 19 (33, .tableswitch 187 104 122 #[91, 97, 187, 127, 187, 139, 176, 187, 187, 145, 187, 187, 163, 187, 187, 187, 187, 187, 133], 91) rfl) ?_
            refine zx_aload_n (pc := 220) G (some (9)) 1 rfl rfl (z_dec T_X8_valueOf_ok 76 (220, .aload_n 0, 1) rfl) ?_
            refine zx_callV_lN (pc := 221) (rm := rm_X8_thousandths) G cw_RX8_54 ⟨Nat.le_of_ble_eq_true rfl, Nat.le_of_ble_eq_true rfl⟩ rfl rfl ⟨Nat.zero_le _, Nat.zero_le _⟩ h_o rfl (fun sz => (met_X8_thousandths l D ρ kd q μ sz  _ hI h_o h)) rfl rfl (Nat.le_of_ble_eq_true rfl) (z_dec T_X8_valueOf_ok 77 (221, .invokevirtual 54, 3) rfl) (fun r28 μ27 hn => ?_)
            clear h
            have h := hn
            clear hn
            exact zx_lret (pc := 224) G hr hlk (Nat.le_refl _) (Nat.le_refl _) (z_dec T_X8_valueOf_ok 78 (224, .lreturn, 1) rfl) ⟨rfl, _, rfl, h⟩
          · refine zx_tableIn (pc := 33) (tgt := 220) (off := 187) G (by rw [hd]; decide) (by rw [hd]; decide) (by rw [hd]; rfl) rfl (z_dec T_X8_valueOf_ok 19 (33, .tableswitch 187 104 122 #[91, 97, 187, 127, 187, 139, 176, 187, 187, 145, 187, 187, 163, 187, 187, 187, 187, 187, 133], 91) rfl) ?_
            refine zx_aload_n (pc := 220) G (some (9)) 1 rfl rfl (z_dec T_X8_valueOf_ok 76 (220, .aload_n 0, 1) rfl) ?_
            refine zx_callV_lN (pc := 221) (rm := rm_X8_thousandths) G cw_RX8_54 ⟨Nat.le_of_ble_eq_true rfl, Nat.le_of_ble_eq_true rfl⟩ rfl rfl ⟨Nat.zero_le _, Nat.zero_le _⟩ h_o rfl (fun sz => (met_X8_thousandths l D ρ kd q μ sz  _ hI h_o h)) rfl rfl (Nat.le_of_ble_eq_true rfl) (z_dec T_X8_valueOf_ok 77 (221, .invokevirtual 54, 3) rfl) (fun r28 μ27 hn => ?_)
            clear h
            have h := hn
            clear hn
            exact zx_lret (pc := 224) G hr hlk (Nat.le_refl _) (Nat.le_refl _) (z_dec T_X8_valueOf_ok 78 (224, .lreturn, 1) rfl) ⟨rfl, _, rfl, h⟩
      · replace h := z_neg hc h
        refine zx_lconst (pc := 30) (v := 0) G (z_dec T_X8_valueOf_ok 16 (30, .lconst 0, 1) rfl) rfl ?_
        exact zx_lret (pc := 31) G hr hlk (Nat.le_refl _) (Nat.le_refl _) (z_dec T_X8_valueOf_ok 17 (31, .lreturn, 1) rfl) ⟨rfl, _, rfl, h⟩
abbrev rm_grp (n : Nat) : Room := { frames := 8 * n + 8, cells := 0, slots := 0, locals := 400 * n + 600 }
def z_IH (l : Launch) (n : Nat) : Prop := (∀ (D : va_G) (ρ : z_A) (kd : z_K) (q : z_Q) (μ : z_M) (sz : Nat) (K : Int32 → z_M → Prop), z_I kd q → kd 10 = some (.inl 7) → C_X7_condition (z_En n) kd q μ K → Met l yX7_condition (z_ws yX7_condition cX7_condition 5 (Option.some Jvm.ClassFile.FieldType.boolean)) (rm_grp n) (z_Pc D ρ kd q μ sz [.ref (10)]) (z_Qn D (z_Rg ρ sz) ρ kd (z_Kz q K)) 0 0 (z_Rg ρ sz)) ∧ (∀ (D : va_G) (ρ : z_A) (kd : z_K) (q : z_Q) (μ : z_M) (sz : Nat) (K : Int32 → z_M → Prop), z_I kd q → kd 10 = some (.inl 7) → C_X7_part (z_En n) kd q μ K → Met l yX7_part (z_ws yX7_part cX7_part 5 (Option.some Jvm.ClassFile.FieldType.boolean)) (rm_grp n) (z_Pc D ρ kd q μ sz [.ref (10)]) (z_Qn D (z_Rg ρ sz) ρ kd (z_Kz q K)) 0 0 (z_Rg ρ sz)) ∧ (∀ (D : va_G) (ρ : z_A) (kd : z_K) (q : z_Q) (μ : z_M) (sz : Nat) (K : Int32 → z_M → Prop), z_I kd q → kd 10 = some (.inl 7) → C_X7_piece (z_En n) kd q μ K → Met l yX7_piece (z_ws yX7_piece cX7_piece 7 (Option.some Jvm.ClassFile.FieldType.boolean)) (rm_grp n) (z_Pc D ρ kd q μ sz [.ref (10)]) (z_Qn D (z_Rg ρ sz) ρ kd (z_Kz q K)) 0 0 (z_Rg ρ sz)) ∧ (∀ (D : va_G) (ρ : z_A) (kd : z_K) (q : z_Q) (μ : z_M) (sz : Nat) (K : Int64 → z_M → Prop), z_I kd q → kd 10 = some (.inl 7) → C_X7_expression (z_En n) kd q μ K → Met l yX7_expression (z_ws yX7_expression cX7_expression 7 (Option.some Jvm.ClassFile.FieldType.long)) (rm_grp n) (z_Pc D ρ kd q μ sz [.ref (10)]) (z_Qn D (z_Rg ρ sz) ρ kd (z_Kl q K)) 0 0 (z_Rg ρ sz)) ∧ (∀ (D : va_G) (ρ : z_A) (kd : z_K) (q : z_Q) (μ : z_M) (sz : Nat) (K : Int64 → z_M → Prop), z_I kd q → kd 10 = some (.inl 7) → C_X7_term (z_En n) kd q μ K → Met l yX7_term (z_ws yX7_term cX7_term 7 (Option.some Jvm.ClassFile.FieldType.long)) (rm_grp n) (z_Pc D ρ kd q μ sz [.ref (10)]) (z_Qn D (z_Rg ρ sz) ρ kd (z_Kl q K)) 0 0 (z_Rg ρ sz)) ∧ (∀ (D : va_G) (ρ : z_A) (kd : z_K) (q : z_Q) (μ : z_M) (sz : Nat) (K : Int64 → z_M → Prop), z_I kd q → kd 10 = some (.inl 7) → C_X7_factor (z_En n) kd q μ K → Met l yX7_factor (z_ws yX7_factor cX7_factor 3 (Option.some Jvm.ClassFile.FieldType.long)) (rm_grp n) (z_Pc D ρ kd q μ sz [.ref (10)]) (z_Qn D (z_Rg ρ sz) ρ kd (z_Kl q K)) 0 0 (z_Rg ρ sz))
theorem IH_X7_condition {l : Launch} {n : Nat} (IH : z_IH l n) (D : va_G) (ρ : z_A) (kd : z_K) (q : z_Q) (μ : z_M) (sz : Nat) (K : Int32 → z_M → Prop) (hI : z_I kd q) (h_o : kd 10 = some (.inl 7)) (h : C_X7_condition (z_En n) kd q μ K) : Met l yX7_condition (z_ws yX7_condition cX7_condition 5 (Option.some Jvm.ClassFile.FieldType.boolean)) (rm_grp n) (z_Pc D ρ kd q μ sz [.ref (10)]) (z_Qn D (z_Rg ρ sz) ρ kd (z_Kz q K)) 0 0 (z_Rg ρ sz) := IH.1 D ρ kd q μ sz K hI h_o h
theorem IH_X7_part {l : Launch} {n : Nat} (IH : z_IH l n) (D : va_G) (ρ : z_A) (kd : z_K) (q : z_Q) (μ : z_M) (sz : Nat) (K : Int32 → z_M → Prop) (hI : z_I kd q) (h_o : kd 10 = some (.inl 7)) (h : C_X7_part (z_En n) kd q μ K) : Met l yX7_part (z_ws yX7_part cX7_part 5 (Option.some Jvm.ClassFile.FieldType.boolean)) (rm_grp n) (z_Pc D ρ kd q μ sz [.ref (10)]) (z_Qn D (z_Rg ρ sz) ρ kd (z_Kz q K)) 0 0 (z_Rg ρ sz) := IH.2.1 D ρ kd q μ sz K hI h_o h
theorem IH_X7_piece {l : Launch} {n : Nat} (IH : z_IH l n) (D : va_G) (ρ : z_A) (kd : z_K) (q : z_Q) (μ : z_M) (sz : Nat) (K : Int32 → z_M → Prop) (hI : z_I kd q) (h_o : kd 10 = some (.inl 7)) (h : C_X7_piece (z_En n) kd q μ K) : Met l yX7_piece (z_ws yX7_piece cX7_piece 7 (Option.some Jvm.ClassFile.FieldType.boolean)) (rm_grp n) (z_Pc D ρ kd q μ sz [.ref (10)]) (z_Qn D (z_Rg ρ sz) ρ kd (z_Kz q K)) 0 0 (z_Rg ρ sz) := IH.2.2.1 D ρ kd q μ sz K hI h_o h
theorem IH_X7_expression {l : Launch} {n : Nat} (IH : z_IH l n) (D : va_G) (ρ : z_A) (kd : z_K) (q : z_Q) (μ : z_M) (sz : Nat) (K : Int64 → z_M → Prop) (hI : z_I kd q) (h_o : kd 10 = some (.inl 7)) (h : C_X7_expression (z_En n) kd q μ K) : Met l yX7_expression (z_ws yX7_expression cX7_expression 7 (Option.some Jvm.ClassFile.FieldType.long)) (rm_grp n) (z_Pc D ρ kd q μ sz [.ref (10)]) (z_Qn D (z_Rg ρ sz) ρ kd (z_Kl q K)) 0 0 (z_Rg ρ sz) := IH.2.2.2.1 D ρ kd q μ sz K hI h_o h
theorem IH_X7_term {l : Launch} {n : Nat} (IH : z_IH l n) (D : va_G) (ρ : z_A) (kd : z_K) (q : z_Q) (μ : z_M) (sz : Nat) (K : Int64 → z_M → Prop) (hI : z_I kd q) (h_o : kd 10 = some (.inl 7)) (h : C_X7_term (z_En n) kd q μ K) : Met l yX7_term (z_ws yX7_term cX7_term 7 (Option.some Jvm.ClassFile.FieldType.long)) (rm_grp n) (z_Pc D ρ kd q μ sz [.ref (10)]) (z_Qn D (z_Rg ρ sz) ρ kd (z_Kl q K)) 0 0 (z_Rg ρ sz) := IH.2.2.2.2.1 D ρ kd q μ sz K hI h_o h
theorem IH_X7_factor {l : Launch} {n : Nat} (IH : z_IH l n) (D : va_G) (ρ : z_A) (kd : z_K) (q : z_Q) (μ : z_M) (sz : Nat) (K : Int64 → z_M → Prop) (hI : z_I kd q) (h_o : kd 10 = some (.inl 7)) (h : C_X7_factor (z_En n) kd q μ K) : Met l yX7_factor (z_ws yX7_factor cX7_factor 3 (Option.some Jvm.ClassFile.FieldType.long)) (rm_grp n) (z_Pc D ρ kd q μ sz [.ref (10)]) (z_Qn D (z_Rg ρ sz) ρ kd (z_Kl q K)) 0 0 (z_Rg ρ sz) := IH.2.2.2.2.2 D ρ kd q μ sz K hI h_o h
set_option maxRecDepth 100000 in
set_option maxHeartbeats 4000000 in
theorem L_X7_condition_53_ok {p : Program} {l : Launch} {e : Env} {s : State} {m : MethodId} {args : Array Value} {below : List Frame} {meth : Method} {c : Code} {D : va_G} {A : Nat → Prop} {ρ : z_A} {kd : z_K} {q : z_Q} {μ : z_M} {K : Int32 → z_M → Prop} {P7 : Int32 → Int32 → z_M → Prop} {v1 : Int32} {v2 : Int32} {v3 : Int32} {t0 : Int32} {n : Nat} (IH : z_IH l n) (G : z_G p c cX7_condition s m args RX7 5 D) (hr : meth.sig.returnType = (Option.some Jvm.ClassFile.FieldType.boolean)) (hlk : meth.locks = false) (hP7 : ∀ (v1 : Int32) (v2 : Int32) (μ : z_M), P7 v1 v2 μ → (kd 10 = some (.inl 7)) → ((v1 = 0 ∨ v1 = 1)) → z_X p l e (rm_grp (n + 1)) s m args below meth c 5 D A (MQ below (z_Qn D A ρ kd (z_Kz q K)) args s 0 0 A) 0 0 ρ kd q μ 7 [(0, .ref (10)), (1, .int (v1)), (2, .int (v2))] []) (hI : z_I kd q) (f_l0 : kd 10 = some (.inl 7)) (f_l1 : (v1 = 0 ∨ v1 = 1)) (f_s0 : (t0 = 0 ∨ t0 = 1)) (f_s1 : kd 10 = some (.inl 7)) (h : L_X7_condition_53 (z_En n) kd q K P7 v1 v2 v3 t0 μ) : z_X p l e (rm_grp (n + 1)) s m args below meth c 5 D A (MQ below (z_Qn D A ρ kd (z_Kz q K)) args s 0 0 A) 0 0 ρ kd q μ 53 [(0, .ref (10)), (1, .int (v1)), (2, .int (v2)), (3, .int (v3))] [.int (t0), .ref (10)] := by
    unfold L_X7_condition_53 at h
    refine zx_putZ (pc := 53) G gf_RX7_53 cf_7 rfl rfl f_s0 f_s1 (z_dec T_X7_condition_ok 28 (53, .putfield 53, 3) rfl) ?_
    refine zx_aload_n (pc := 56) G (some (10)) 0 rfl rfl (z_dec T_X7_condition_ok 29 (56, .aload_n 0, 1) rfl) ?_
    refine zx_callV_zN (pc := 57) (rm := (rm_grp n)) G cw_RX7_73 ⟨by show 8 * n + 8 + 1 ≤ 8 * (n + 1) + 8; omega, by show 8 + (5 + 11) + (400 * n + 600) ≤ 400 * (n + 1) + 600; omega⟩ rfl rfl ⟨Nat.zero_le _, Nat.zero_le _⟩ f_l0 rfl (fun sz => (IH_X7_part IH D ρ kd q (si μ 10 7 t0) sz  _ hI f_l0 h)) rfl rfl (Nat.le_of_ble_eq_true rfl) (z_dec T_X7_condition_ok 30 (57, .invokevirtual 73, 3) rfl) (fun r2 μ1 hzr2 hn => ?_)
    clear h
    have h := hn
    clear hn
    refine zx_istore (pc := 60) (lv' := [(4, .int (r2)), (0, .ref (10)), (1, .int (v1)), (2, .int (v2)), (3, .int (v3))]) G (Nat.le_of_ble_eq_true rfl) rfl (z_dec T_X7_condition_ok 31 (60, .istore 4, 2) rfl) ?_
    refine zx_aload_n (pc := 62) G (some (10)) 1 rfl rfl (z_dec T_X7_condition_ok 32 (62, .aload_n 0, 1) rfl) ?_
    refine zx_iload_n (pc := 63) G 4 rfl rfl (z_dec T_X7_condition_ok 33 (63, .iload_n 3, 1) rfl) ?_
    obtain ⟨c3, h⟩ := h
    refine zx_putZ (pc := 64) G gf_RX7_53 cf_7 rfl rfl c3 f_l0 (z_dec T_X7_condition_ok 34 (64, .putfield 53, 3) rfl) ?_
    refine zx_iload_n (pc := 67) G 2 rfl rfl (z_dec T_X7_condition_ok 35 (67, .iload_n 1, 1) rfl) ?_
    refine zx_if_ne (pc := 68) (tgt := 76) G rfl (z_dec T_X7_condition_ok 36 (68, .ifCond .ne 8, 3) rfl) (fun hc => ?_) (fun hc => ?_)
    · replace h := z_neg hc h
      refine zx_iconst (pc := 76) (v := 1) G (z_dec T_X7_condition_ok 39 (76, .iconst 1, 1) rfl) rfl ?_
      refine zx_goto (pc := 77) (tgt := 81) G rfl (z_dec T_X7_condition_ok 40 (77, .goto 4, 3) rfl) ?_
      refine zx_istore_n (pc := 81) (lv' := [(1, .int ((1 : Int32))), (4, .int (r2)), (0, .ref (10)), (2, .int (v2)), (3, .int (v3))]) G rfl (Nat.le_of_ble_eq_true rfl) rfl (z_dec T_X7_condition_ok 42 (81, .istore_n 1, 1) rfl) ?_
      refine zx_iinc (pc := 82) (v := v2 + 1) (lv' := [(2, .int (v2 + 1)), (1, .int ((1 : Int32))), (4, .int (r2)), (0, .ref (10)), (3, .int (v3))]) G 3 rfl (z_inc (by decide)) (Nat.le_of_ble_eq_true rfl) rfl (z_dec T_X7_condition_ok 43 (82, .iinc 2 1, 3) rfl) ?_
      refine zx_goto (pc := 85) (tgt := 7) G rfl (z_dec T_X7_condition_ok 44 (85, .goto (-78), 3) rfl) ?_
      refine zx_sub (lv' := [(0, .ref (10)), (1, .int ((1 : Int32))), (2, .int (v2 + 1))]) [3, 1, 0] rfl ?_
      exact hP7 _ _ _ h f_l0 (Or.inr rfl)
    · replace h := z_pos hc h
      refine zx_iload (pc := 71) G 0 rfl (z_dec T_X7_condition_ok 37 (71, .iload 4, 2) rfl) ?_
      refine zx_if_eq (pc := 73) (tgt := 80) G rfl (z_dec T_X7_condition_ok 38 (73, .ifCond .eq 7, 3) rfl) (fun hc => ?_) (fun hc => ?_)
      · replace h := z_pos hc h
        refine zx_iconst (pc := 80) (v := 0) G (z_dec T_X7_condition_ok 41 (80, .iconst 0, 1) rfl) rfl ?_
        refine zx_istore_n (pc := 81) (lv' := [(1, .int ((0 : Int32))), (4, .int (r2)), (0, .ref (10)), (2, .int (v2)), (3, .int (v3))]) G rfl (Nat.le_of_ble_eq_true rfl) rfl (z_dec T_X7_condition_ok 42 (81, .istore_n 1, 1) rfl) ?_
        refine zx_iinc (pc := 82) (v := v2 + 1) (lv' := [(2, .int (v2 + 1)), (1, .int ((0 : Int32))), (4, .int (r2)), (0, .ref (10)), (3, .int (v3))]) G 3 rfl (z_inc (by decide)) (Nat.le_of_ble_eq_true rfl) rfl (z_dec T_X7_condition_ok 43 (82, .iinc 2 1, 3) rfl) ?_
        refine zx_goto (pc := 85) (tgt := 7) G rfl (z_dec T_X7_condition_ok 44 (85, .goto (-78), 3) rfl) ?_
        refine zx_sub (lv' := [(0, .ref (10)), (1, .int ((0 : Int32))), (2, .int (v2 + 1))]) [3, 1, 0] rfl ?_
        exact hP7 _ _ _ h f_l0 (Or.inl rfl)
      · replace h := z_neg hc h
        refine zx_iconst (pc := 76) (v := 1) G (z_dec T_X7_condition_ok 39 (76, .iconst 1, 1) rfl) rfl ?_
        refine zx_goto (pc := 77) (tgt := 81) G rfl (z_dec T_X7_condition_ok 40 (77, .goto 4, 3) rfl) ?_
        refine zx_istore_n (pc := 81) (lv' := [(1, .int ((1 : Int32))), (4, .int (r2)), (0, .ref (10)), (2, .int (v2)), (3, .int (v3))]) G rfl (Nat.le_of_ble_eq_true rfl) rfl (z_dec T_X7_condition_ok 42 (81, .istore_n 1, 1) rfl) ?_
        refine zx_iinc (pc := 82) (v := v2 + 1) (lv' := [(2, .int (v2 + 1)), (1, .int ((1 : Int32))), (4, .int (r2)), (0, .ref (10)), (3, .int (v3))]) G 3 rfl (z_inc (by decide)) (Nat.le_of_ble_eq_true rfl) rfl (z_dec T_X7_condition_ok 43 (82, .iinc 2 1, 3) rfl) ?_
        refine zx_goto (pc := 85) (tgt := 7) G rfl (z_dec T_X7_condition_ok 44 (85, .goto (-78), 3) rfl) ?_
        refine zx_sub (lv' := [(0, .ref (10)), (1, .int ((1 : Int32))), (2, .int (v2 + 1))]) [3, 1, 0] rfl ?_
        exact hP7 _ _ _ h f_l0 (Or.inr rfl)
set_option maxRecDepth 100000 in
set_option maxHeartbeats 4000000 in
theorem L_X7_condition_52_ok {p : Program} {l : Launch} {e : Env} {s : State} {m : MethodId} {args : Array Value} {below : List Frame} {meth : Method} {c : Code} {D : va_G} {A : Nat → Prop} {ρ : z_A} {kd : z_K} {q : z_Q} {μ : z_M} {K : Int32 → z_M → Prop} {P7 : Int32 → Int32 → z_M → Prop} {v1 : Int32} {v2 : Int32} {v3 : Int32} {n : Nat} (IH : z_IH l n) (G : z_G p c cX7_condition s m args RX7 5 D) (hr : meth.sig.returnType = (Option.some Jvm.ClassFile.FieldType.boolean)) (hlk : meth.locks = false) (hP7 : ∀ (v1 : Int32) (v2 : Int32) (μ : z_M), P7 v1 v2 μ → (kd 10 = some (.inl 7)) → ((v1 = 0 ∨ v1 = 1)) → z_X p l e (rm_grp (n + 1)) s m args below meth c 5 D A (MQ below (z_Qn D A ρ kd (z_Kz q K)) args s 0 0 A) 0 0 ρ kd q μ 7 [(0, .ref (10)), (1, .int (v1)), (2, .int (v2))] []) (hI : z_I kd q) (f_l0 : kd 10 = some (.inl 7)) (f_l1 : (v1 = 0 ∨ v1 = 1)) (f_s0 : kd 10 = some (.inl 7)) (h : L_X7_condition_52 (z_En n) kd q K P7 v1 v2 v3 μ) : z_X p l e (rm_grp (n + 1)) s m args below meth c 5 D A (MQ below (z_Qn D A ρ kd (z_Kz q K)) args s 0 0 A) 0 0 ρ kd q μ 52 [(0, .ref (10)), (1, .int (v1)), (2, .int (v2)), (3, .int (v3))] [.ref (10)] := by
    unfold L_X7_condition_52 at h
    refine zx_iconst (pc := 52) (v := 0) G (z_dec T_X7_condition_ok 27 (52, .iconst 0, 1) rfl) rfl ?_
    exact L_X7_condition_53_ok IH G hr hlk hP7 hI f_l0 f_l1 (Or.inl rfl) f_s0 h
set_option maxRecDepth 100000 in
set_option maxHeartbeats 4000000 in
theorem B_X7_condition_7_ok {p : Program} {l : Launch} {e : Env} {s : State} {m : MethodId} {args : Array Value} {below : List Frame} {meth : Method} {c : Code} {D : va_G} {A : Nat → Prop} {ρ : z_A} {kd : z_K} {q : z_Q} {μ : z_M} {K : Int32 → z_M → Prop} {P7 : Int32 → Int32 → z_M → Prop} {v1 : Int32} {v2 : Int32} {n : Nat} (IH : z_IH l n) (G : z_G p c cX7_condition s m args RX7 5 D) (hr : meth.sig.returnType = (Option.some Jvm.ClassFile.FieldType.boolean)) (hlk : meth.locks = false) (hP7 : ∀ (v1 : Int32) (v2 : Int32) (μ : z_M), P7 v1 v2 μ → (kd 10 = some (.inl 7)) → ((v1 = 0 ∨ v1 = 1)) → z_X p l e (rm_grp (n + 1)) s m args below meth c 5 D A (MQ below (z_Qn D A ρ kd (z_Kz q K)) args s 0 0 A) 0 0 ρ kd q μ 7 [(0, .ref (10)), (1, .int (v1)), (2, .int (v2))] []) (hI : z_I kd q) (f_l0 : kd 10 = some (.inl 7)) (f_l1 : (v1 = 0 ∨ v1 = 1)) (h : B_X7_condition_7 (z_En n) kd q K P7 v1 v2 μ) : z_X p l e (rm_grp (n + 1)) s m args below meth c 5 D A (MQ below (z_Qn D A ρ kd (z_Kz q K)) args s 0 0 A) 0 0 ρ kd q μ 7 [(0, .ref (10)), (1, .int (v1)), (2, .int (v2))] [] := by
    unfold B_X7_condition_7 at h
    refine zx_iload_n (pc := 7) G 2 rfl rfl (z_dec T_X7_condition_ok 5 (7, .iload_n 2, 1) rfl) ?_
    refine zx_sipush (pc := 8) (v := 160) G (z_dec T_X7_condition_ok 6 (8, .sipush 160, 3) rfl) rfl ?_
    refine zx_icmp_ge (pc := 11) (tgt := 88) G rfl (z_dec T_X7_condition_ok 7 (11, .if_icmp .ge 77, 3) rfl) (fun hc => ?_) (fun hc => ?_)
    · replace h := z_pos hc h
      refine zx_iload_n (pc := 88) G 1 rfl rfl (z_dec T_X7_condition_ok 45 (88, .iload_n 1, 1) rfl) ?_
      exact zx_zret (pc := 89) G hr hlk (Nat.le_refl _) (Nat.le_refl _) f_l1 (z_dec T_X7_condition_ok 46 (89, .ireturn, 1) rfl) ⟨rfl, _, rfl, f_l1, h⟩
    · replace h := z_neg hc h
      refine zx_aload_n (pc := 14) G (some (10)) 0 rfl rfl (z_dec T_X7_condition_ok 8 (14, .aload_n 0, 1) rfl) ?_
      refine zx_getI (pc := 15) G gf_RX7_23 rfl f_l0 (z_dec T_X7_condition_ok 9 (15, .getfield 23, 3) rfl) ?_
      refine zx_if_ne (pc := 18) (tgt := 88) G rfl (z_dec T_X7_condition_ok 10 (18, .ifCond .ne 70, 3) rfl) (fun hc => ?_) (fun hc => ?_)
      · replace h := z_neg hc h
        refine zx_iload_n (pc := 88) G 1 rfl rfl (z_dec T_X7_condition_ok 45 (88, .iload_n 1, 1) rfl) ?_
        exact zx_zret (pc := 89) G hr hlk (Nat.le_refl _) (Nat.le_refl _) f_l1 (z_dec T_X7_condition_ok 46 (89, .ireturn, 1) rfl) ⟨rfl, _, rfl, f_l1, h⟩
      · replace h := z_pos hc h
        refine zx_aload_n (pc := 21) G (some (10)) 0 rfl rfl (z_dec T_X7_condition_ok 11 (21, .aload_n 0, 1) rfl) ?_
        refine zx_getI (pc := 22) G gf_RX7_32 rfl f_l0 (z_dec T_X7_condition_ok 12 (22, .getfield 32, 3) rfl) ?_
        refine zx_bipush (pc := 25) (v := 124) G (z_dec T_X7_condition_ok 13 (25, .bipush 124, 2) rfl) rfl ?_
        refine zx_icmp_ne (pc := 27) (tgt := 88) G rfl (z_dec T_X7_condition_ok 14 (27, .if_icmp .ne 61, 3) rfl) (fun hc => ?_) (fun hc => ?_)
        · replace h := z_neg hc h
          refine zx_iload_n (pc := 88) G 1 rfl rfl (z_dec T_X7_condition_ok 45 (88, .iload_n 1, 1) rfl) ?_
          exact zx_zret (pc := 89) G hr hlk (Nat.le_refl _) (Nat.le_refl _) f_l1 (z_dec T_X7_condition_ok 46 (89, .ireturn, 1) rfl) ⟨rfl, _, rfl, f_l1, h⟩
        · replace h := z_pos hc h
          refine zx_aload_n (pc := 30) G (some (10)) 0 rfl rfl (z_dec T_X7_condition_ok 15 (30, .aload_n 0, 1) rfl) ?_
          refine zx_getZ (pc := 31) G gf_RX7_53 rfl f_l0 (z_dec T_X7_condition_ok 16 (31, .getfield 53, 3) rfl) ?_
          refine zx_istore_n (pc := 34) (lv' := [(3, .int (μ.1 10 7)), (0, .ref (10)), (1, .int (v1)), (2, .int (v2))]) G rfl (Nat.le_of_ble_eq_true rfl) rfl (z_dec T_X7_condition_ok 17 (34, .istore_n 3, 1) rfl) ?_
          refine zx_aload_n (pc := 35) G (some (10)) 1 rfl rfl (z_dec T_X7_condition_ok 18 (35, .aload_n 0, 1) rfl) ?_
          refine zx_callV_vN (pc := 36) (rm := rm_X7_advance) G cw_RX7_29 ⟨by show 0 + 1 ≤ 8 * (n + 1) + 8; omega, by show 8 + (1 + 11) + 0 ≤ 400 * (n + 1) + 600; omega⟩ rfl rfl ⟨Nat.zero_le _, Nat.zero_le _⟩ f_l0 rfl (fun sz => (met_X7_advance l D ρ kd q μ sz  _ hI f_l0 h)) rfl rfl (Nat.le_of_ble_eq_true rfl) (z_dec T_X7_condition_ok 19 (36, .invokevirtual 29, 3) rfl) (fun μ1 hn => ?_)
          clear h
          have h := hn
          clear hn
          refine zx_aload_n (pc := 39) G (some (10)) 1 rfl rfl (z_dec T_X7_condition_ok 20 (39, .aload_n 0, 1) rfl) ?_
          refine zx_iload_n (pc := 40) G 0 rfl rfl (z_dec T_X7_condition_ok 21 (40, .iload_n 3, 1) rfl) ?_
          refine zx_if_eq (pc := 41) (tgt := 52) G rfl (z_dec T_X7_condition_ok 22 (41, .ifCond .eq 11, 3) rfl) (fun hc => ?_) (fun hc => ?_)
          · replace h := z_pos hc h
            refine zx_sub (lv' := [(0, .ref (10)), (1, .int (v1)), (2, .int (v2)), (3, .int (μ.1 10 7))]) [1, 2, 3, 0] rfl ?_
            exact L_X7_condition_52_ok IH G hr hlk hP7 hI f_l0 f_l1 f_l0 h
          · replace h := z_neg hc h
            refine zx_iload_n (pc := 44) G 2 rfl rfl (z_dec T_X7_condition_ok 23 (44, .iload_n 1, 1) rfl) ?_
            refine zx_if_ne (pc := 45) (tgt := 52) G rfl (z_dec T_X7_condition_ok 24 (45, .ifCond .ne 7, 3) rfl) (fun hc => ?_) (fun hc => ?_)
            · replace h := z_neg hc h
              refine zx_sub (lv' := [(0, .ref (10)), (1, .int (v1)), (2, .int (v2)), (3, .int (μ.1 10 7))]) [1, 2, 3, 0] rfl ?_
              exact L_X7_condition_52_ok IH G hr hlk hP7 hI f_l0 f_l1 f_l0 h
            · replace h := z_pos hc h
              refine zx_iconst (pc := 48) (v := 1) G (z_dec T_X7_condition_ok 25 (48, .iconst 1, 1) rfl) rfl ?_
              refine zx_goto (pc := 49) (tgt := 53) G rfl (z_dec T_X7_condition_ok 26 (49, .goto 4, 3) rfl) ?_
              refine zx_sub (lv' := [(0, .ref (10)), (1, .int (v1)), (2, .int (v2)), (3, .int (μ.1 10 7))]) [1, 2, 3, 0] rfl ?_
              exact L_X7_condition_53_ok IH G hr hlk hP7 hI f_l0 f_l1 (Or.inr rfl) f_l0 h
set_option maxRecDepth 100000 in
set_option maxHeartbeats 4000000 in
theorem L_X7_condition_7_ok {p : Program} {l : Launch} {e : Env} {s : State} {m : MethodId} {args : Array Value} {below : List Frame} {meth : Method} {c : Code} {D : va_G} {A : Nat → Prop} {ρ : z_A} {kd : z_K} {q : z_Q} {μ : z_M} {K : Int32 → z_M → Prop} {v1 : Int32} {v2 : Int32} {n : Nat} (IH : z_IH l n) (G : z_G p c cX7_condition s m args RX7 5 D) (hr : meth.sig.returnType = (Option.some Jvm.ClassFile.FieldType.boolean)) (hlk : meth.locks = false) (hI : z_I kd q) (f_l0 : kd 10 = some (.inl 7)) (f_l1 : (v1 = 0 ∨ v1 = 1)) (h : L_X7_condition_7 (z_En n) kd q K v1 v2 μ) : z_X p l e (rm_grp (n + 1)) s m args below meth c 5 D A (MQ below (z_Qn D A ρ kd (z_Kz q K)) args s 0 0 A) 0 0 ρ kd q μ 7 [(0, .ref (10)), (1, .int (v1)), (2, .int (v2))] [] :=
  h (fun (v1 : Int32) (v2 : Int32) (μ : z_M) => (kd 10 = some (.inl 7)) → ((v1 = 0 ∨ v1 = 1)) → z_X p l e (rm_grp (n + 1)) s m args below meth c 5 D A (MQ below (z_Qn D A ρ kd (z_Kz q K)) args s 0 0 A) 0 0 ρ kd q μ 7 [(0, .ref (10)), (1, .int (v1)), (2, .int (v2))] []) (fun v1 v2 μ h f_l0 f_l1 => B_X7_condition_7_ok IH G hr hlk (fun _ _ _ h => h) hI f_l0 f_l1 h) f_l0 f_l1
set_option maxRecDepth 100000 in
set_option maxHeartbeats 4000000 in
theorem mb_X7_condition {l : Launch} {n : Nat} (IH : z_IH l n) (D : va_G) (ρ : z_A) (kd : z_K) (q : z_Q) (μ : z_M) (sz : Nat) (K : Int32 → z_M → Prop) (hI : z_I kd q) (h_o : kd 10 = some (.inl 7)) (h : BC_X7_condition (z_En n) kd q μ K) : Met l yX7_condition (z_ws yX7_condition cX7_condition 5 (Option.some Jvm.ClassFile.FieldType.boolean)) (rm_grp (n + 1)) (z_Pc D ρ kd q μ sz [.ref (10)]) (z_Qn D (z_Rg ρ sz) ρ kd (z_Kz q K)) 0 0 (z_Rg ρ sz) := by
  refine z_met (rm := (rm_grp (n + 1))) (by decide) (Nat.le_of_ble_eq_true rfl) (fun p e s m args below meth c G hr hlk => ?_)
  unfold BC_X7_condition at h
  show z_X _ _ _ _ _ _ _ _ _ _ _ _ _ _ _ _ _ _ _ _ _ [(0, .ref (10))] _
  refine zx_aload_n (pc := 0) G (some (10)) 0 rfl rfl (z_dec T_X7_condition_ok 0 (0, .aload_n 0, 1) rfl) ?_
  refine zx_callV_zN (pc := 1) (rm := (rm_grp n)) G cw_RX7_73 ⟨by show 8 * n + 8 + 1 ≤ 8 * (n + 1) + 8; omega, by show 8 + (5 + 11) + (400 * n + 600) ≤ 400 * (n + 1) + 600; omega⟩ rfl rfl ⟨Nat.zero_le _, Nat.zero_le _⟩ h_o rfl (fun sz => (IH_X7_part IH D ρ kd q μ sz  _ hI h_o h)) rfl rfl (Nat.le_of_ble_eq_true rfl) (z_dec T_X7_condition_ok 1 (1, .invokevirtual 73, 3) rfl) (fun r2 μ1 hzr2 hn => ?_)
  clear h
  have h := hn
  clear hn
  refine zx_istore_n (pc := 4) (lv' := [(1, .int (r2)), (0, .ref (10))]) G rfl (Nat.le_of_ble_eq_true rfl) rfl (z_dec T_X7_condition_ok 2 (4, .istore_n 1, 1) rfl) ?_
  refine zx_iconst (pc := 5) (v := 0) G (z_dec T_X7_condition_ok 3 (5, .iconst 0, 1) rfl) rfl ?_
  refine zx_istore_n (pc := 6) (lv' := [(2, .int ((0 : Int32))), (1, .int (r2)), (0, .ref (10))]) G rfl (Nat.le_of_ble_eq_true rfl) rfl (z_dec T_X7_condition_ok 4 (6, .istore_n 2, 1) rfl) ?_
  refine zx_sub (lv' := [(0, .ref (10)), (1, .int (r2)), (2, .int ((0 : Int32)))]) [2, 1, 0] rfl ?_
  exact L_X7_condition_7_ok IH G hr hlk hI h_o hzr2 h
set_option maxRecDepth 100000 in
set_option maxHeartbeats 4000000 in
theorem L_X7_part_53_ok {p : Program} {l : Launch} {e : Env} {s : State} {m : MethodId} {args : Array Value} {below : List Frame} {meth : Method} {c : Code} {D : va_G} {A : Nat → Prop} {ρ : z_A} {kd : z_K} {q : z_Q} {μ : z_M} {K : Int32 → z_M → Prop} {P7 : Int32 → Int32 → z_M → Prop} {v1 : Int32} {v2 : Int32} {v3 : Int32} {t0 : Int32} {n : Nat} (IH : z_IH l n) (G : z_G p c cX7_part s m args RX7 5 D) (hr : meth.sig.returnType = (Option.some Jvm.ClassFile.FieldType.boolean)) (hlk : meth.locks = false) (hP7 : ∀ (v1 : Int32) (v2 : Int32) (μ : z_M), P7 v1 v2 μ → (kd 10 = some (.inl 7)) → ((v1 = 0 ∨ v1 = 1)) → z_X p l e (rm_grp (n + 1)) s m args below meth c 5 D A (MQ below (z_Qn D A ρ kd (z_Kz q K)) args s 0 0 A) 0 0 ρ kd q μ 7 [(0, .ref (10)), (1, .int (v1)), (2, .int (v2))] []) (hI : z_I kd q) (f_l0 : kd 10 = some (.inl 7)) (f_l1 : (v1 = 0 ∨ v1 = 1)) (f_s0 : (t0 = 0 ∨ t0 = 1)) (f_s1 : kd 10 = some (.inl 7)) (h : L_X7_part_53 (z_En n) kd q K P7 v1 v2 v3 t0 μ) : z_X p l e (rm_grp (n + 1)) s m args below meth c 5 D A (MQ below (z_Qn D A ρ kd (z_Kz q K)) args s 0 0 A) 0 0 ρ kd q μ 53 [(0, .ref (10)), (1, .int (v1)), (2, .int (v2)), (3, .int (v3))] [.int (t0), .ref (10)] := by
    unfold L_X7_part_53 at h
    refine zx_putZ (pc := 53) G gf_RX7_53 cf_7 rfl rfl f_s0 f_s1 (z_dec T_X7_part_ok 28 (53, .putfield 53, 3) rfl) ?_
    refine zx_aload_n (pc := 56) G (some (10)) 0 rfl rfl (z_dec T_X7_part_ok 29 (56, .aload_n 0, 1) rfl) ?_
    refine zx_callV_zN (pc := 57) (rm := (rm_grp n)) G cw_RX7_76 ⟨by show 8 * n + 8 + 1 ≤ 8 * (n + 1) + 8; omega, by show 8 + (7 + 11) + (400 * n + 600) ≤ 400 * (n + 1) + 600; omega⟩ rfl rfl ⟨Nat.zero_le _, Nat.zero_le _⟩ f_l0 rfl (fun sz => (IH_X7_piece IH D ρ kd q (si μ 10 7 t0) sz  _ hI f_l0 h)) rfl rfl (Nat.le_of_ble_eq_true rfl) (z_dec T_X7_part_ok 30 (57, .invokevirtual 76, 3) rfl) (fun r2 μ1 hzr2 hn => ?_)
    clear h
    have h := hn
    clear hn
    refine zx_istore (pc := 60) (lv' := [(4, .int (r2)), (0, .ref (10)), (1, .int (v1)), (2, .int (v2)), (3, .int (v3))]) G (Nat.le_of_ble_eq_true rfl) rfl (z_dec T_X7_part_ok 31 (60, .istore 4, 2) rfl) ?_
    refine zx_aload_n (pc := 62) G (some (10)) 1 rfl rfl (z_dec T_X7_part_ok 32 (62, .aload_n 0, 1) rfl) ?_
    refine zx_iload_n (pc := 63) G 4 rfl rfl (z_dec T_X7_part_ok 33 (63, .iload_n 3, 1) rfl) ?_
    obtain ⟨c3, h⟩ := h
    refine zx_putZ (pc := 64) G gf_RX7_53 cf_7 rfl rfl c3 f_l0 (z_dec T_X7_part_ok 34 (64, .putfield 53, 3) rfl) ?_
    refine zx_iload_n (pc := 67) G 2 rfl rfl (z_dec T_X7_part_ok 35 (67, .iload_n 1, 1) rfl) ?_
    refine zx_if_eq (pc := 68) (tgt := 80) G rfl (z_dec T_X7_part_ok 36 (68, .ifCond .eq 12, 3) rfl) (fun hc => ?_) (fun hc => ?_)
    · replace h := z_pos hc h
      refine zx_iconst (pc := 80) (v := 0) G (z_dec T_X7_part_ok 41 (80, .iconst 0, 1) rfl) rfl ?_
      refine zx_istore_n (pc := 81) (lv' := [(1, .int ((0 : Int32))), (4, .int (r2)), (0, .ref (10)), (2, .int (v2)), (3, .int (v3))]) G rfl (Nat.le_of_ble_eq_true rfl) rfl (z_dec T_X7_part_ok 42 (81, .istore_n 1, 1) rfl) ?_
      refine zx_iinc (pc := 82) (v := v2 + 1) (lv' := [(2, .int (v2 + 1)), (1, .int ((0 : Int32))), (4, .int (r2)), (0, .ref (10)), (3, .int (v3))]) G 3 rfl (z_inc (by decide)) (Nat.le_of_ble_eq_true rfl) rfl (z_dec T_X7_part_ok 43 (82, .iinc 2 1, 3) rfl) ?_
      refine zx_goto (pc := 85) (tgt := 7) G rfl (z_dec T_X7_part_ok 44 (85, .goto (-78), 3) rfl) ?_
      refine zx_sub (lv' := [(0, .ref (10)), (1, .int ((0 : Int32))), (2, .int (v2 + 1))]) [3, 1, 0] rfl ?_
      exact hP7 _ _ _ h f_l0 (Or.inl rfl)
    · replace h := z_neg hc h
      refine zx_iload (pc := 71) G 0 rfl (z_dec T_X7_part_ok 37 (71, .iload 4, 2) rfl) ?_
      refine zx_if_eq (pc := 73) (tgt := 80) G rfl (z_dec T_X7_part_ok 38 (73, .ifCond .eq 7, 3) rfl) (fun hc => ?_) (fun hc => ?_)
      · replace h := z_pos hc h
        refine zx_iconst (pc := 80) (v := 0) G (z_dec T_X7_part_ok 41 (80, .iconst 0, 1) rfl) rfl ?_
        refine zx_istore_n (pc := 81) (lv' := [(1, .int ((0 : Int32))), (4, .int (r2)), (0, .ref (10)), (2, .int (v2)), (3, .int (v3))]) G rfl (Nat.le_of_ble_eq_true rfl) rfl (z_dec T_X7_part_ok 42 (81, .istore_n 1, 1) rfl) ?_
        refine zx_iinc (pc := 82) (v := v2 + 1) (lv' := [(2, .int (v2 + 1)), (1, .int ((0 : Int32))), (4, .int (r2)), (0, .ref (10)), (3, .int (v3))]) G 3 rfl (z_inc (by decide)) (Nat.le_of_ble_eq_true rfl) rfl (z_dec T_X7_part_ok 43 (82, .iinc 2 1, 3) rfl) ?_
        refine zx_goto (pc := 85) (tgt := 7) G rfl (z_dec T_X7_part_ok 44 (85, .goto (-78), 3) rfl) ?_
        refine zx_sub (lv' := [(0, .ref (10)), (1, .int ((0 : Int32))), (2, .int (v2 + 1))]) [3, 1, 0] rfl ?_
        exact hP7 _ _ _ h f_l0 (Or.inl rfl)
      · replace h := z_neg hc h
        refine zx_iconst (pc := 76) (v := 1) G (z_dec T_X7_part_ok 39 (76, .iconst 1, 1) rfl) rfl ?_
        refine zx_goto (pc := 77) (tgt := 81) G rfl (z_dec T_X7_part_ok 40 (77, .goto 4, 3) rfl) ?_
        refine zx_istore_n (pc := 81) (lv' := [(1, .int ((1 : Int32))), (4, .int (r2)), (0, .ref (10)), (2, .int (v2)), (3, .int (v3))]) G rfl (Nat.le_of_ble_eq_true rfl) rfl (z_dec T_X7_part_ok 42 (81, .istore_n 1, 1) rfl) ?_
        refine zx_iinc (pc := 82) (v := v2 + 1) (lv' := [(2, .int (v2 + 1)), (1, .int ((1 : Int32))), (4, .int (r2)), (0, .ref (10)), (3, .int (v3))]) G 3 rfl (z_inc (by decide)) (Nat.le_of_ble_eq_true rfl) rfl (z_dec T_X7_part_ok 43 (82, .iinc 2 1, 3) rfl) ?_
        refine zx_goto (pc := 85) (tgt := 7) G rfl (z_dec T_X7_part_ok 44 (85, .goto (-78), 3) rfl) ?_
        refine zx_sub (lv' := [(0, .ref (10)), (1, .int ((1 : Int32))), (2, .int (v2 + 1))]) [3, 1, 0] rfl ?_
        exact hP7 _ _ _ h f_l0 (Or.inr rfl)
set_option maxRecDepth 100000 in
set_option maxHeartbeats 4000000 in
theorem L_X7_part_52_ok {p : Program} {l : Launch} {e : Env} {s : State} {m : MethodId} {args : Array Value} {below : List Frame} {meth : Method} {c : Code} {D : va_G} {A : Nat → Prop} {ρ : z_A} {kd : z_K} {q : z_Q} {μ : z_M} {K : Int32 → z_M → Prop} {P7 : Int32 → Int32 → z_M → Prop} {v1 : Int32} {v2 : Int32} {v3 : Int32} {n : Nat} (IH : z_IH l n) (G : z_G p c cX7_part s m args RX7 5 D) (hr : meth.sig.returnType = (Option.some Jvm.ClassFile.FieldType.boolean)) (hlk : meth.locks = false) (hP7 : ∀ (v1 : Int32) (v2 : Int32) (μ : z_M), P7 v1 v2 μ → (kd 10 = some (.inl 7)) → ((v1 = 0 ∨ v1 = 1)) → z_X p l e (rm_grp (n + 1)) s m args below meth c 5 D A (MQ below (z_Qn D A ρ kd (z_Kz q K)) args s 0 0 A) 0 0 ρ kd q μ 7 [(0, .ref (10)), (1, .int (v1)), (2, .int (v2))] []) (hI : z_I kd q) (f_l0 : kd 10 = some (.inl 7)) (f_l1 : (v1 = 0 ∨ v1 = 1)) (f_s0 : kd 10 = some (.inl 7)) (h : L_X7_part_52 (z_En n) kd q K P7 v1 v2 v3 μ) : z_X p l e (rm_grp (n + 1)) s m args below meth c 5 D A (MQ below (z_Qn D A ρ kd (z_Kz q K)) args s 0 0 A) 0 0 ρ kd q μ 52 [(0, .ref (10)), (1, .int (v1)), (2, .int (v2)), (3, .int (v3))] [.ref (10)] := by
    unfold L_X7_part_52 at h
    refine zx_iconst (pc := 52) (v := 0) G (z_dec T_X7_part_ok 27 (52, .iconst 0, 1) rfl) rfl ?_
    exact L_X7_part_53_ok IH G hr hlk hP7 hI f_l0 f_l1 (Or.inl rfl) f_s0 h
set_option maxRecDepth 100000 in
set_option maxHeartbeats 4000000 in
theorem B_X7_part_7_ok {p : Program} {l : Launch} {e : Env} {s : State} {m : MethodId} {args : Array Value} {below : List Frame} {meth : Method} {c : Code} {D : va_G} {A : Nat → Prop} {ρ : z_A} {kd : z_K} {q : z_Q} {μ : z_M} {K : Int32 → z_M → Prop} {P7 : Int32 → Int32 → z_M → Prop} {v1 : Int32} {v2 : Int32} {n : Nat} (IH : z_IH l n) (G : z_G p c cX7_part s m args RX7 5 D) (hr : meth.sig.returnType = (Option.some Jvm.ClassFile.FieldType.boolean)) (hlk : meth.locks = false) (hP7 : ∀ (v1 : Int32) (v2 : Int32) (μ : z_M), P7 v1 v2 μ → (kd 10 = some (.inl 7)) → ((v1 = 0 ∨ v1 = 1)) → z_X p l e (rm_grp (n + 1)) s m args below meth c 5 D A (MQ below (z_Qn D A ρ kd (z_Kz q K)) args s 0 0 A) 0 0 ρ kd q μ 7 [(0, .ref (10)), (1, .int (v1)), (2, .int (v2))] []) (hI : z_I kd q) (f_l0 : kd 10 = some (.inl 7)) (f_l1 : (v1 = 0 ∨ v1 = 1)) (h : B_X7_part_7 (z_En n) kd q K P7 v1 v2 μ) : z_X p l e (rm_grp (n + 1)) s m args below meth c 5 D A (MQ below (z_Qn D A ρ kd (z_Kz q K)) args s 0 0 A) 0 0 ρ kd q μ 7 [(0, .ref (10)), (1, .int (v1)), (2, .int (v2))] [] := by
    unfold B_X7_part_7 at h
    refine zx_iload_n (pc := 7) G 2 rfl rfl (z_dec T_X7_part_ok 5 (7, .iload_n 2, 1) rfl) ?_
    refine zx_sipush (pc := 8) (v := 160) G (z_dec T_X7_part_ok 6 (8, .sipush 160, 3) rfl) rfl ?_
    refine zx_icmp_ge (pc := 11) (tgt := 88) G rfl (z_dec T_X7_part_ok 7 (11, .if_icmp .ge 77, 3) rfl) (fun hc => ?_) (fun hc => ?_)
    · replace h := z_pos hc h
      refine zx_iload_n (pc := 88) G 1 rfl rfl (z_dec T_X7_part_ok 45 (88, .iload_n 1, 1) rfl) ?_
      exact zx_zret (pc := 89) G hr hlk (Nat.le_refl _) (Nat.le_refl _) f_l1 (z_dec T_X7_part_ok 46 (89, .ireturn, 1) rfl) ⟨rfl, _, rfl, f_l1, h⟩
    · replace h := z_neg hc h
      refine zx_aload_n (pc := 14) G (some (10)) 0 rfl rfl (z_dec T_X7_part_ok 8 (14, .aload_n 0, 1) rfl) ?_
      refine zx_getI (pc := 15) G gf_RX7_23 rfl f_l0 (z_dec T_X7_part_ok 9 (15, .getfield 23, 3) rfl) ?_
      refine zx_if_ne (pc := 18) (tgt := 88) G rfl (z_dec T_X7_part_ok 10 (18, .ifCond .ne 70, 3) rfl) (fun hc => ?_) (fun hc => ?_)
      · replace h := z_neg hc h
        refine zx_iload_n (pc := 88) G 1 rfl rfl (z_dec T_X7_part_ok 45 (88, .iload_n 1, 1) rfl) ?_
        exact zx_zret (pc := 89) G hr hlk (Nat.le_refl _) (Nat.le_refl _) f_l1 (z_dec T_X7_part_ok 46 (89, .ireturn, 1) rfl) ⟨rfl, _, rfl, f_l1, h⟩
      · replace h := z_pos hc h
        refine zx_aload_n (pc := 21) G (some (10)) 0 rfl rfl (z_dec T_X7_part_ok 11 (21, .aload_n 0, 1) rfl) ?_
        refine zx_getI (pc := 22) G gf_RX7_32 rfl f_l0 (z_dec T_X7_part_ok 12 (22, .getfield 32, 3) rfl) ?_
        refine zx_bipush (pc := 25) (v := 38) G (z_dec T_X7_part_ok 13 (25, .bipush 38, 2) rfl) rfl ?_
        refine zx_icmp_ne (pc := 27) (tgt := 88) G rfl (z_dec T_X7_part_ok 14 (27, .if_icmp .ne 61, 3) rfl) (fun hc => ?_) (fun hc => ?_)
        · replace h := z_neg hc h
          refine zx_iload_n (pc := 88) G 1 rfl rfl (z_dec T_X7_part_ok 45 (88, .iload_n 1, 1) rfl) ?_
          exact zx_zret (pc := 89) G hr hlk (Nat.le_refl _) (Nat.le_refl _) f_l1 (z_dec T_X7_part_ok 46 (89, .ireturn, 1) rfl) ⟨rfl, _, rfl, f_l1, h⟩
        · replace h := z_pos hc h
          refine zx_aload_n (pc := 30) G (some (10)) 0 rfl rfl (z_dec T_X7_part_ok 15 (30, .aload_n 0, 1) rfl) ?_
          refine zx_getZ (pc := 31) G gf_RX7_53 rfl f_l0 (z_dec T_X7_part_ok 16 (31, .getfield 53, 3) rfl) ?_
          refine zx_istore_n (pc := 34) (lv' := [(3, .int (μ.1 10 7)), (0, .ref (10)), (1, .int (v1)), (2, .int (v2))]) G rfl (Nat.le_of_ble_eq_true rfl) rfl (z_dec T_X7_part_ok 17 (34, .istore_n 3, 1) rfl) ?_
          refine zx_aload_n (pc := 35) G (some (10)) 1 rfl rfl (z_dec T_X7_part_ok 18 (35, .aload_n 0, 1) rfl) ?_
          refine zx_callV_vN (pc := 36) (rm := rm_X7_advance) G cw_RX7_29 ⟨by show 0 + 1 ≤ 8 * (n + 1) + 8; omega, by show 8 + (1 + 11) + 0 ≤ 400 * (n + 1) + 600; omega⟩ rfl rfl ⟨Nat.zero_le _, Nat.zero_le _⟩ f_l0 rfl (fun sz => (met_X7_advance l D ρ kd q μ sz  _ hI f_l0 h)) rfl rfl (Nat.le_of_ble_eq_true rfl) (z_dec T_X7_part_ok 19 (36, .invokevirtual 29, 3) rfl) (fun μ1 hn => ?_)
          clear h
          have h := hn
          clear hn
          refine zx_aload_n (pc := 39) G (some (10)) 1 rfl rfl (z_dec T_X7_part_ok 20 (39, .aload_n 0, 1) rfl) ?_
          refine zx_iload_n (pc := 40) G 0 rfl rfl (z_dec T_X7_part_ok 21 (40, .iload_n 3, 1) rfl) ?_
          refine zx_if_eq (pc := 41) (tgt := 52) G rfl (z_dec T_X7_part_ok 22 (41, .ifCond .eq 11, 3) rfl) (fun hc => ?_) (fun hc => ?_)
          · replace h := z_pos hc h
            refine zx_sub (lv' := [(0, .ref (10)), (1, .int (v1)), (2, .int (v2)), (3, .int (μ.1 10 7))]) [1, 2, 3, 0] rfl ?_
            exact L_X7_part_52_ok IH G hr hlk hP7 hI f_l0 f_l1 f_l0 h
          · replace h := z_neg hc h
            refine zx_iload_n (pc := 44) G 2 rfl rfl (z_dec T_X7_part_ok 23 (44, .iload_n 1, 1) rfl) ?_
            refine zx_if_eq (pc := 45) (tgt := 52) G rfl (z_dec T_X7_part_ok 24 (45, .ifCond .eq 7, 3) rfl) (fun hc => ?_) (fun hc => ?_)
            · replace h := z_pos hc h
              refine zx_sub (lv' := [(0, .ref (10)), (1, .int (v1)), (2, .int (v2)), (3, .int (μ.1 10 7))]) [1, 2, 3, 0] rfl ?_
              exact L_X7_part_52_ok IH G hr hlk hP7 hI f_l0 f_l1 f_l0 h
            · replace h := z_neg hc h
              refine zx_iconst (pc := 48) (v := 1) G (z_dec T_X7_part_ok 25 (48, .iconst 1, 1) rfl) rfl ?_
              refine zx_goto (pc := 49) (tgt := 53) G rfl (z_dec T_X7_part_ok 26 (49, .goto 4, 3) rfl) ?_
              refine zx_sub (lv' := [(0, .ref (10)), (1, .int (v1)), (2, .int (v2)), (3, .int (μ.1 10 7))]) [1, 2, 3, 0] rfl ?_
              exact L_X7_part_53_ok IH G hr hlk hP7 hI f_l0 f_l1 (Or.inr rfl) f_l0 h
set_option maxRecDepth 100000 in
set_option maxHeartbeats 4000000 in
theorem L_X7_part_7_ok {p : Program} {l : Launch} {e : Env} {s : State} {m : MethodId} {args : Array Value} {below : List Frame} {meth : Method} {c : Code} {D : va_G} {A : Nat → Prop} {ρ : z_A} {kd : z_K} {q : z_Q} {μ : z_M} {K : Int32 → z_M → Prop} {v1 : Int32} {v2 : Int32} {n : Nat} (IH : z_IH l n) (G : z_G p c cX7_part s m args RX7 5 D) (hr : meth.sig.returnType = (Option.some Jvm.ClassFile.FieldType.boolean)) (hlk : meth.locks = false) (hI : z_I kd q) (f_l0 : kd 10 = some (.inl 7)) (f_l1 : (v1 = 0 ∨ v1 = 1)) (h : L_X7_part_7 (z_En n) kd q K v1 v2 μ) : z_X p l e (rm_grp (n + 1)) s m args below meth c 5 D A (MQ below (z_Qn D A ρ kd (z_Kz q K)) args s 0 0 A) 0 0 ρ kd q μ 7 [(0, .ref (10)), (1, .int (v1)), (2, .int (v2))] [] :=
  h (fun (v1 : Int32) (v2 : Int32) (μ : z_M) => (kd 10 = some (.inl 7)) → ((v1 = 0 ∨ v1 = 1)) → z_X p l e (rm_grp (n + 1)) s m args below meth c 5 D A (MQ below (z_Qn D A ρ kd (z_Kz q K)) args s 0 0 A) 0 0 ρ kd q μ 7 [(0, .ref (10)), (1, .int (v1)), (2, .int (v2))] []) (fun v1 v2 μ h f_l0 f_l1 => B_X7_part_7_ok IH G hr hlk (fun _ _ _ h => h) hI f_l0 f_l1 h) f_l0 f_l1
set_option maxRecDepth 100000 in
set_option maxHeartbeats 4000000 in
theorem mb_X7_part {l : Launch} {n : Nat} (IH : z_IH l n) (D : va_G) (ρ : z_A) (kd : z_K) (q : z_Q) (μ : z_M) (sz : Nat) (K : Int32 → z_M → Prop) (hI : z_I kd q) (h_o : kd 10 = some (.inl 7)) (h : BC_X7_part (z_En n) kd q μ K) : Met l yX7_part (z_ws yX7_part cX7_part 5 (Option.some Jvm.ClassFile.FieldType.boolean)) (rm_grp (n + 1)) (z_Pc D ρ kd q μ sz [.ref (10)]) (z_Qn D (z_Rg ρ sz) ρ kd (z_Kz q K)) 0 0 (z_Rg ρ sz) := by
  refine z_met (rm := (rm_grp (n + 1))) (by decide) (Nat.le_of_ble_eq_true rfl) (fun p e s m args below meth c G hr hlk => ?_)
  unfold BC_X7_part at h
  show z_X _ _ _ _ _ _ _ _ _ _ _ _ _ _ _ _ _ _ _ _ _ [(0, .ref (10))] _
  refine zx_aload_n (pc := 0) G (some (10)) 0 rfl rfl (z_dec T_X7_part_ok 0 (0, .aload_n 0, 1) rfl) ?_
  refine zx_callV_zN (pc := 1) (rm := (rm_grp n)) G cw_RX7_76 ⟨by show 8 * n + 8 + 1 ≤ 8 * (n + 1) + 8; omega, by show 8 + (7 + 11) + (400 * n + 600) ≤ 400 * (n + 1) + 600; omega⟩ rfl rfl ⟨Nat.zero_le _, Nat.zero_le _⟩ h_o rfl (fun sz => (IH_X7_piece IH D ρ kd q μ sz  _ hI h_o h)) rfl rfl (Nat.le_of_ble_eq_true rfl) (z_dec T_X7_part_ok 1 (1, .invokevirtual 76, 3) rfl) (fun r2 μ1 hzr2 hn => ?_)
  clear h
  have h := hn
  clear hn
  refine zx_istore_n (pc := 4) (lv' := [(1, .int (r2)), (0, .ref (10))]) G rfl (Nat.le_of_ble_eq_true rfl) rfl (z_dec T_X7_part_ok 2 (4, .istore_n 1, 1) rfl) ?_
  refine zx_iconst (pc := 5) (v := 0) G (z_dec T_X7_part_ok 3 (5, .iconst 0, 1) rfl) rfl ?_
  refine zx_istore_n (pc := 6) (lv' := [(2, .int ((0 : Int32))), (1, .int (r2)), (0, .ref (10))]) G rfl (Nat.le_of_ble_eq_true rfl) rfl (z_dec T_X7_part_ok 4 (6, .istore_n 2, 1) rfl) ?_
  refine zx_sub (lv' := [(0, .ref (10)), (1, .int (r2)), (2, .int ((0 : Int32)))]) [2, 1, 0] rfl ?_
  exact L_X7_part_7_ok IH G hr hlk hI h_o hzr2 h
set_option maxRecDepth 100000 in
set_option maxHeartbeats 4000000 in
theorem L_X7_piece_34_ok {p : Program} {l : Launch} {e : Env} {s : State} {m : MethodId} {args : Array Value} {below : List Frame} {meth : Method} {c : Code} {D : va_G} {A : Nat → Prop} {ρ : z_A} {kd : z_K} {q : z_Q} {μ : z_M} {K : Int32 → z_M → Prop} {t0 : Int32} {n : Nat} (IH : z_IH l n) (G : z_G p c cX7_piece s m args RX7 7 D) (hr : meth.sig.returnType = (Option.some Jvm.ClassFile.FieldType.boolean)) (hlk : meth.locks = false) (hI : z_I kd q) (f_l0 : kd 10 = some (.inl 7)) (f_s0 : (t0 = 0 ∨ t0 = 1)) (h : L_X7_piece_34 (z_En n) kd q K t0 μ) : z_X p l e (rm_grp (n + 1)) s m args below meth c 7 D A (MQ below (z_Qn D A ρ kd (z_Kz q K)) args s 0 0 A) 0 0 ρ kd q μ 34 [(0, .ref (10))] [.int (t0)] := by
    unfold L_X7_piece_34 at h
    refine zx_istore_n (pc := 34) (lv' := [(1, .int (t0)), (0, .ref (10))]) G rfl (Nat.le_of_ble_eq_true rfl) rfl (z_dec T_X7_piece_ok 17 (34, .istore_n 1, 1) rfl) ?_
    refine zx_aload_n (pc := 35) G (some (10)) 1 rfl rfl (z_dec T_X7_piece_ok 18 (35, .aload_n 0, 1) rfl) ?_
    refine zx_dup (pc := 36) G rfl (z_dec T_X7_piece_ok 19 (36, .dup, 1) rfl) ?_
    refine zx_getI (pc := 37) G gf_RX7_46 rfl f_l0 (z_dec T_X7_piece_ok 20 (37, .getfield 46, 3) rfl) ?_
    refine zx_iconst (pc := 40) (v := 1) G (z_dec T_X7_piece_ok 21 (40, .iconst 1, 1) rfl) rfl ?_
    refine zx_isub (pc := 41) G  (z_dec T_X7_piece_ok 22 (41, .isub, 1) rfl) ?_
    refine zx_putI (pc := 42) G gf_RX7_46 cf_7 rfl rfl f_l0 (z_dec T_X7_piece_ok 23 (42, .putfield 46, 3) rfl) ?_
    refine zx_iload_n (pc := 45) G 0 rfl rfl (z_dec T_X7_piece_ok 24 (45, .iload_n 1, 1) rfl) ?_
    exact zx_zret (pc := 46) G hr hlk (Nat.le_refl _) (Nat.le_refl _) f_s0 (z_dec T_X7_piece_ok 25 (46, .ireturn, 1) rfl) ⟨rfl, _, rfl, f_s0, h⟩
set_option maxRecDepth 100000 in
set_option maxHeartbeats 4000000 in
theorem L_X7_piece_120_ok {p : Program} {l : Launch} {e : Env} {s : State} {m : MethodId} {args : Array Value} {below : List Frame} {meth : Method} {c : Code} {D : va_G} {A : Nat → Prop} {ρ : z_A} {kd : z_K} {q : z_Q} {μ : z_M} {K : Int32 → z_M → Prop} {v2 : Int64} {v4 : Int32} {n : Nat} (IH : z_IH l n) (G : z_G p c cX7_piece s m args RX7 7 D) (hr : meth.sig.returnType = (Option.some Jvm.ClassFile.FieldType.boolean)) (hlk : meth.locks = false) (hI : z_I kd q) (f_l0 : kd 10 = some (.inl 7)) (h : L_X7_piece_120 (z_En n) kd q K v2 v4 μ) : z_X p l e (rm_grp (n + 1)) s m args below meth c 7 D A (MQ below (z_Qn D A ρ kd (z_Kz q K)) args s 0 0 A) 0 0 ρ kd q μ 120 [(0, .ref (10)), (2, .long (v2)), (4, .int (v4))] [] := by
    unfold L_X7_piece_120 at h
    refine zx_aload_n (pc := 120) G (some (10)) 0 rfl rfl (z_dec T_X7_piece_ok 64 (120, .aload_n 0, 1) rfl) ?_
    refine zx_getI (pc := 121) G gf_RX7_23 rfl f_l0 (z_dec T_X7_piece_ok 65 (121, .getfield 23, 3) rfl) ?_
    refine zx_if_eq (pc := 124) (tgt := 129) G rfl (z_dec T_X7_piece_ok 66 (124, .ifCond .eq 5, 3) rfl) (fun hc => ?_) (fun hc => ?_)
    · replace h := z_pos hc h
      refine zx_aload_n (pc := 129) G (some (10)) 0 rfl rfl (z_dec T_X7_piece_ok 69 (129, .aload_n 0, 1) rfl) ?_
      refine zx_callV_vN (pc := 130) (rm := rm_X7_advance) G cw_RX7_29 ⟨by show 0 + 1 ≤ 8 * (n + 1) + 8; omega, by show 8 + (1 + 11) + 0 ≤ 400 * (n + 1) + 600; omega⟩ rfl rfl ⟨Nat.zero_le _, Nat.zero_le _⟩ f_l0 rfl (fun sz => (met_X7_advance l D ρ kd q μ sz  _ hI f_l0 h)) rfl rfl (Nat.le_of_ble_eq_true rfl) (z_dec T_X7_piece_ok 70 (130, .invokevirtual 29, 3) rfl) (fun μ1 hn => ?_)
      clear h
      have h := hn
      clear hn
      refine zx_aload_n (pc := 133) G (some (10)) 0 rfl rfl (z_dec T_X7_piece_ok 71 (133, .aload_n 0, 1) rfl) ?_
      refine zx_callV_lN (pc := 134) (rm := (rm_grp n)) G cw_RX7_79 ⟨by show 8 * n + 8 + 1 ≤ 8 * (n + 1) + 8; omega, by show 8 + (7 + 11) + (400 * n + 600) ≤ 400 * (n + 1) + 600; omega⟩ rfl rfl ⟨Nat.zero_le _, Nat.zero_le _⟩ f_l0 rfl (fun sz => (IH_X7_expression IH D ρ kd q μ1 sz  _ hI f_l0 h)) rfl rfl (Nat.le_of_ble_eq_true rfl) (z_dec T_X7_piece_ok 72 (134, .invokevirtual 79, 3) rfl) (fun r3 μ2 hn => ?_)
      clear h
      have h := hn
      clear hn
      refine zx_lstore (pc := 137) (lv' := [(5, .long (r3)), (0, .ref (10)), (2, .long (v2)), (4, .int (v4))]) G (Nat.le_of_ble_eq_true rfl) rfl (z_dec T_X7_piece_ok 73 (137, .lstore 5, 2) rfl) ?_
      refine zx_iload (pc := 139) G 3 rfl (z_dec T_X7_piece_ok 74 (139, .iload 4, 2) rfl) ?_
      refine zx_bipush (pc := 141) (v := 60) G (z_dec T_X7_piece_ok 75 (141, .bipush 60, 2) rfl) rfl ?_
      refine zx_icmp_ne (pc := 143) (tgt := 159) G rfl (z_dec T_X7_piece_ok 76 (143, .if_icmp .ne 16, 3) rfl) (fun hc => ?_) (fun hc => ?_)
      · replace h := z_neg hc h
        refine zx_iload (pc := 159) G 3 rfl (z_dec T_X7_piece_ok 85 (159, .iload 4, 2) rfl) ?_
        refine zx_bipush (pc := 161) (v := 62) G (z_dec T_X7_piece_ok 86 (161, .bipush 62, 2) rfl) rfl ?_
        refine zx_icmp_ne (pc := 163) (tgt := 181) G rfl (z_dec T_X7_piece_ok 87 (163, .if_icmp .ne 18, 3) rfl) (fun hc => ?_) (fun hc => ?_)
        · replace h := z_neg hc h
          refine zx_lload_n (pc := 181) G 2 rfl rfl (z_dec T_X7_piece_ok 96 (181, .lload_n 2, 1) rfl) ?_
          refine zx_lload (pc := 182) G 0 rfl (z_dec T_X7_piece_ok 97 (182, .lload 5, 2) rfl) ?_
          refine zx_lcmp_ne (pc := 184) (tgt := 192) G rfl (z_dec T_X7_piece_ok 98 (184, .lcmp, 1) rfl) (z_dec T_X7_piece_ok 99 (185, .ifCond .ne 7, 3) rfl) (fun hc => ?_) (fun hc => ?_)
          · replace h := z_neg hc h
            refine zx_iconst (pc := 192) (v := 0) G (z_dec T_X7_piece_ok 102 (192, .iconst 0, 1) rfl) rfl ?_
            exact zx_zret (pc := 193) G hr hlk (Nat.le_refl _) (Nat.le_refl _) (Or.inl rfl) (z_dec T_X7_piece_ok 103 (193, .ireturn, 1) rfl) ⟨rfl, _, rfl, (Or.inl rfl), h⟩
          · replace h := z_pos hc h
            refine zx_iconst (pc := 188) (v := 1) G (z_dec T_X7_piece_ok 100 (188, .iconst 1, 1) rfl) rfl ?_
            refine zx_goto (pc := 189) (tgt := 193) G rfl (z_dec T_X7_piece_ok 101 (189, .goto 4, 3) rfl) ?_
            exact zx_zret (pc := 193) G hr hlk (Nat.le_refl _) (Nat.le_refl _) (Or.inr rfl) (z_dec T_X7_piece_ok 103 (193, .ireturn, 1) rfl) ⟨rfl, _, rfl, (Or.inr rfl), h⟩
        · replace h := z_pos hc h
          refine zx_lload_n (pc := 166) G 2 rfl rfl (z_dec T_X7_piece_ok 88 (166, .lload_n 2, 1) rfl) ?_
          refine zx_lload (pc := 167) G 0 rfl (z_dec T_X7_piece_ok 89 (167, .lload 5, 2) rfl) ?_
          refine zx_lcmp_le (pc := 169) (tgt := 177) G rfl (z_dec T_X7_piece_ok 90 (169, .lcmp, 1) rfl) (z_dec T_X7_piece_ok 91 (170, .ifCond .le 7, 3) rfl) (fun hc => ?_) (fun hc => ?_)
          · replace h := z_pos hc h
            refine zx_iconst (pc := 177) (v := 0) G (z_dec T_X7_piece_ok 94 (177, .iconst 0, 1) rfl) rfl ?_
            refine zx_goto (pc := 178) (tgt := 193) G rfl (z_dec T_X7_piece_ok 95 (178, .goto 15, 3) rfl) ?_
            exact zx_zret (pc := 193) G hr hlk (Nat.le_refl _) (Nat.le_refl _) (Or.inl rfl) (z_dec T_X7_piece_ok 103 (193, .ireturn, 1) rfl) ⟨rfl, _, rfl, (Or.inl rfl), h⟩
          · replace h := z_neg hc h
            refine zx_iconst (pc := 173) (v := 1) G (z_dec T_X7_piece_ok 92 (173, .iconst 1, 1) rfl) rfl ?_
            refine zx_goto (pc := 174) (tgt := 193) G rfl (z_dec T_X7_piece_ok 93 (174, .goto 19, 3) rfl) ?_
            exact zx_zret (pc := 193) G hr hlk (Nat.le_refl _) (Nat.le_refl _) (Or.inr rfl) (z_dec T_X7_piece_ok 103 (193, .ireturn, 1) rfl) ⟨rfl, _, rfl, (Or.inr rfl), h⟩
      · replace h := z_pos hc h
        refine zx_lload_n (pc := 146) G 2 rfl rfl (z_dec T_X7_piece_ok 77 (146, .lload_n 2, 1) rfl) ?_
        refine zx_lload (pc := 147) G 0 rfl (z_dec T_X7_piece_ok 78 (147, .lload 5, 2) rfl) ?_
        refine zx_lcmp_ge (pc := 149) (tgt := 157) G rfl (z_dec T_X7_piece_ok 79 (149, .lcmp, 1) rfl) (z_dec T_X7_piece_ok 80 (150, .ifCond .ge 7, 3) rfl) (fun hc => ?_) (fun hc => ?_)
        · replace h := z_pos hc h
          refine zx_iconst (pc := 157) (v := 0) G (z_dec T_X7_piece_ok 83 (157, .iconst 0, 1) rfl) rfl ?_
          exact zx_zret (pc := 158) G hr hlk (Nat.le_refl _) (Nat.le_refl _) (Or.inl rfl) (z_dec T_X7_piece_ok 84 (158, .ireturn, 1) rfl) ⟨rfl, _, rfl, (Or.inl rfl), h⟩
        · replace h := z_neg hc h
          refine zx_iconst (pc := 153) (v := 1) G (z_dec T_X7_piece_ok 81 (153, .iconst 1, 1) rfl) rfl ?_
          refine zx_goto (pc := 154) (tgt := 158) G rfl (z_dec T_X7_piece_ok 82 (154, .goto 4, 3) rfl) ?_
          exact zx_zret (pc := 158) G hr hlk (Nat.le_refl _) (Nat.le_refl _) (Or.inr rfl) (z_dec T_X7_piece_ok 84 (158, .ireturn, 1) rfl) ⟨rfl, _, rfl, (Or.inr rfl), h⟩
    · replace h := z_neg hc h
      refine zx_iconst (pc := 127) (v := 0) G (z_dec T_X7_piece_ok 67 (127, .iconst 0, 1) rfl) rfl ?_
      exact zx_zret (pc := 128) G hr hlk (Nat.le_refl _) (Nat.le_refl _) (Or.inl rfl) (z_dec T_X7_piece_ok 68 (128, .ireturn, 1) rfl) ⟨rfl, _, rfl, (Or.inl rfl), h⟩
set_option maxRecDepth 100000 in
set_option maxHeartbeats 4000000 in
theorem mb_X7_piece {l : Launch} {n : Nat} (IH : z_IH l n) (D : va_G) (ρ : z_A) (kd : z_K) (q : z_Q) (μ : z_M) (sz : Nat) (K : Int32 → z_M → Prop) (hI : z_I kd q) (h_o : kd 10 = some (.inl 7)) (h : BC_X7_piece (z_En n) kd q μ K) : Met l yX7_piece (z_ws yX7_piece cX7_piece 7 (Option.some Jvm.ClassFile.FieldType.boolean)) (rm_grp (n + 1)) (z_Pc D ρ kd q μ sz [.ref (10)]) (z_Qn D (z_Rg ρ sz) ρ kd (z_Kz q K)) 0 0 (z_Rg ρ sz) := by
  refine z_met (rm := (rm_grp (n + 1))) (by decide) (Nat.le_of_ble_eq_true rfl) (fun p e s m args below meth c G hr hlk => ?_)
  unfold BC_X7_piece at h
  show z_X _ _ _ _ _ _ _ _ _ _ _ _ _ _ _ _ _ _ _ _ _ [(0, .ref (10))] _
  refine zx_aload_n (pc := 0) G (some (10)) 0 rfl rfl (z_dec T_X7_piece_ok 0 (0, .aload_n 0, 1) rfl) ?_
  refine zx_getI (pc := 1) G gf_RX7_23 rfl h_o (z_dec T_X7_piece_ok 1 (1, .getfield 23, 3) rfl) ?_
  refine zx_if_eq (pc := 4) (tgt := 9) G rfl (z_dec T_X7_piece_ok 2 (4, .ifCond .eq 5, 3) rfl) (fun hc => ?_) (fun hc => ?_)
  · replace h := z_pos hc h
    refine zx_aload_n (pc := 9) G (some (10)) 0 rfl rfl (z_dec T_X7_piece_ok 5 (9, .aload_n 0, 1) rfl) ?_
    refine zx_getI (pc := 10) G gf_RX7_32 rfl h_o (z_dec T_X7_piece_ok 6 (10, .getfield 32, 3) rfl) ?_
    refine zx_bipush (pc := 13) (v := 33) G (z_dec T_X7_piece_ok 7 (13, .bipush 33, 2) rfl) rfl ?_
    refine zx_icmp_ne (pc := 15) (tgt := 47) G rfl (z_dec T_X7_piece_ok 8 (15, .if_icmp .ne 32, 3) rfl) (fun hc => ?_) (fun hc => ?_)
    · replace h := z_neg hc h
      refine zx_aload_n (pc := 47) G (some (10)) 0 rfl rfl (z_dec T_X7_piece_ok 26 (47, .aload_n 0, 1) rfl) ?_
      refine zx_getI (pc := 48) G gf_RX7_32 rfl h_o (z_dec T_X7_piece_ok 27 (48, .getfield 32, 3) rfl) ?_
      refine zx_bipush (pc := 51) (v := 40) G (z_dec T_X7_piece_ok 28 (51, .bipush 40, 2) rfl) rfl ?_
      refine zx_icmp_ne (pc := 53) (tgt := 83) G rfl (z_dec T_X7_piece_ok 29 (53, .if_icmp .ne 30, 3) rfl) (fun hc => ?_) (fun hc => ?_)
      · replace h := z_neg hc h
        refine zx_aload_n (pc := 83) G (some (10)) 0 rfl rfl (z_dec T_X7_piece_ok 46 (83, .aload_n 0, 1) rfl) ?_
        refine zx_callV_lN (pc := 84) (rm := (rm_grp n)) G cw_RX7_79 ⟨by show 8 * n + 8 + 1 ≤ 8 * (n + 1) + 8; omega, by show 8 + (7 + 11) + (400 * n + 600) ≤ 400 * (n + 1) + 600; omega⟩ rfl rfl ⟨Nat.zero_le _, Nat.zero_le _⟩ h_o rfl (fun sz => (IH_X7_expression IH D ρ kd q μ sz  _ hI h_o h)) rfl rfl (Nat.le_of_ble_eq_true rfl) (z_dec T_X7_piece_ok 47 (84, .invokevirtual 79, 3) rfl) (fun r2 μ1 hn => ?_)
        clear h
        have h := hn
        clear hn
        refine zx_lstore_n (pc := 87) (lv' := [(2, .long (r2)), (0, .ref (10))]) G rfl (Nat.le_of_ble_eq_true rfl) rfl (z_dec T_X7_piece_ok 48 (87, .lstore_n 2, 1) rfl) ?_
        refine zx_aload_n (pc := 88) G (some (10)) 1 rfl rfl (z_dec T_X7_piece_ok 49 (88, .aload_n 0, 1) rfl) ?_
        refine zx_getI (pc := 89) G gf_RX7_32 rfl h_o (z_dec T_X7_piece_ok 50 (89, .getfield 32, 3) rfl) ?_
        refine zx_istore (pc := 92) (lv' := [(4, .int (μ1.1 10 4)), (2, .long (r2)), (0, .ref (10))]) G (Nat.le_of_ble_eq_true rfl) rfl (z_dec T_X7_piece_ok 51 (92, .istore 4, 2) rfl) ?_
        refine zx_iload (pc := 94) G 0 rfl (z_dec T_X7_piece_ok 52 (94, .iload 4, 2) rfl) ?_
        refine zx_bipush (pc := 96) (v := 60) G (z_dec T_X7_piece_ok 53 (96, .bipush 60, 2) rfl) rfl ?_
        refine zx_icmp_eq (pc := 98) (tgt := 120) G rfl (z_dec T_X7_piece_ok 54 (98, .if_icmp .eq 22, 3) rfl) (fun hc => ?_) (fun hc => ?_)
        · replace h := z_pos hc h
          refine zx_sub (lv' := [(0, .ref (10)), (2, .long (r2)), (4, .int (μ1.1 10 4))]) [2, 1, 0] rfl ?_
          exact L_X7_piece_120_ok IH G hr hlk hI h_o h
        · replace h := z_neg hc h
          refine zx_iload (pc := 101) G 0 rfl (z_dec T_X7_piece_ok 55 (101, .iload 4, 2) rfl) ?_
          refine zx_bipush (pc := 103) (v := 62) G (z_dec T_X7_piece_ok 56 (103, .bipush 62, 2) rfl) rfl ?_
          refine zx_icmp_eq (pc := 105) (tgt := 120) G rfl (z_dec T_X7_piece_ok 57 (105, .if_icmp .eq 15, 3) rfl) (fun hc => ?_) (fun hc => ?_)
          · replace h := z_pos hc h
            refine zx_sub (lv' := [(0, .ref (10)), (2, .long (r2)), (4, .int (μ1.1 10 4))]) [2, 1, 0] rfl ?_
            exact L_X7_piece_120_ok IH G hr hlk hI h_o h
          · replace h := z_neg hc h
            refine zx_iload (pc := 108) G 0 rfl (z_dec T_X7_piece_ok 58 (108, .iload 4, 2) rfl) ?_
            refine zx_bipush (pc := 110) (v := 61) G (z_dec T_X7_piece_ok 59 (110, .bipush 61, 2) rfl) rfl ?_
            refine zx_icmp_eq (pc := 112) (tgt := 120) G rfl (z_dec T_X7_piece_ok 60 (112, .if_icmp .eq 8, 3) rfl) (fun hc => ?_) (fun hc => ?_)
            · replace h := z_pos hc h
              refine zx_sub (lv' := [(0, .ref (10)), (2, .long (r2)), (4, .int (μ1.1 10 4))]) [2, 1, 0] rfl ?_
              exact L_X7_piece_120_ok IH G hr hlk hI h_o h
            · replace h := z_neg hc h
              refine zx_aload_n (pc := 115) G (some (10)) 2 rfl rfl (z_dec T_X7_piece_ok 61 (115, .aload_n 0, 1) rfl) ?_
              refine zx_iconst (pc := 116) (v := 1) G (z_dec T_X7_piece_ok 62 (116, .iconst 1, 1) rfl) rfl ?_
              refine zx_callV_vN (pc := 117) (rm := rm_X7_fail) G cw_RX7_43 ⟨by show 0 + 1 ≤ 8 * (n + 1) + 8; omega, by show 8 + (2 + 11) + 0 ≤ 400 * (n + 1) + 600; omega⟩ rfl rfl ⟨Nat.zero_le _, Nat.zero_le _⟩ h_o rfl (fun sz => (met_X7_fail l D ρ kd q μ1 sz ((1 : Int32)) _ hI h_o h)) rfl rfl (Nat.le_of_ble_eq_true rfl) (z_dec T_X7_piece_ok 63 (117, .invokevirtual 43, 3) rfl) (fun μ3 hn => ?_)
              clear h
              have h := hn
              clear hn
              refine zx_sub (lv' := [(0, .ref (10)), (2, .long (r2)), (4, .int (μ1.1 10 4))]) [2, 1, 0] rfl ?_
              exact L_X7_piece_120_ok IH G hr hlk hI h_o h
      · replace h := z_pos hc h
        refine zx_aload_n (pc := 56) G (some (10)) 0 rfl rfl (z_dec T_X7_piece_ok 30 (56, .aload_n 0, 1) rfl) ?_
        refine zx_callV_vN (pc := 57) (rm := rm_X7_openOne) G cw_RX7_60 ⟨by show 1 + 1 ≤ 8 * (n + 1) + 8; omega, by show 8 + (1 + 11) + 21 ≤ 400 * (n + 1) + 600; omega⟩ rfl rfl ⟨Nat.zero_le _, Nat.zero_le _⟩ h_o rfl (fun sz => (met_X7_openOne l D ρ kd q μ sz  _ hI h_o h)) rfl rfl (Nat.le_of_ble_eq_true rfl) (z_dec T_X7_piece_ok 31 (57, .invokevirtual 60, 3) rfl) (fun μ4 hn => ?_)
        clear h
        have h := hn
        clear hn
        refine zx_aload_n (pc := 60) G (some (10)) 0 rfl rfl (z_dec T_X7_piece_ok 32 (60, .aload_n 0, 1) rfl) ?_
        refine zx_callV_zN (pc := 61) (rm := (rm_grp n)) G cw_RX7_63 ⟨by show 8 * n + 8 + 1 ≤ 8 * (n + 1) + 8; omega, by show 8 + (5 + 11) + (400 * n + 600) ≤ 400 * (n + 1) + 600; omega⟩ rfl rfl ⟨Nat.zero_le _, Nat.zero_le _⟩ h_o rfl (fun sz => (IH_X7_condition IH D ρ kd q μ4 sz  _ hI h_o h)) rfl rfl (Nat.le_of_ble_eq_true rfl) (z_dec T_X7_piece_ok 33 (61, .invokevirtual 63, 3) rfl) (fun r6 μ5 hzr6 hn => ?_)
        clear h
        have h := hn
        clear hn
        refine zx_istore_n (pc := 64) (lv' := [(1, .int (r6)), (0, .ref (10))]) G rfl (Nat.le_of_ble_eq_true rfl) rfl (z_dec T_X7_piece_ok 34 (64, .istore_n 1, 1) rfl) ?_
        refine zx_aload_n (pc := 65) G (some (10)) 1 rfl rfl (z_dec T_X7_piece_ok 35 (65, .aload_n 0, 1) rfl) ?_
        refine zx_bipush (pc := 66) (v := 41) G (z_dec T_X7_piece_ok 36 (66, .bipush 41, 2) rfl) rfl ?_
        refine zx_callV_vN (pc := 68) (rm := rm_X7_pass) G cw_RX7_35 ⟨by show 1 + 1 ≤ 8 * (n + 1) + 8; omega, by show 8 + (2 + 11) + 21 ≤ 400 * (n + 1) + 600; omega⟩ rfl rfl ⟨Nat.zero_le _, Nat.zero_le _⟩ h_o rfl (fun sz => (met_X7_pass l D ρ kd q μ5 sz ((41 : Int32)) _ hI h_o h)) rfl rfl (Nat.le_of_ble_eq_true rfl) (z_dec T_X7_piece_ok 37 (68, .invokevirtual 35, 3) rfl) (fun μ7 hn => ?_)
        clear h
        have h := hn
        clear hn
        refine zx_aload_n (pc := 71) G (some (10)) 1 rfl rfl (z_dec T_X7_piece_ok 38 (71, .aload_n 0, 1) rfl) ?_
        refine zx_dup (pc := 72) G rfl (z_dec T_X7_piece_ok 39 (72, .dup, 1) rfl) ?_
        refine zx_getI (pc := 73) G gf_RX7_46 rfl h_o (z_dec T_X7_piece_ok 40 (73, .getfield 46, 3) rfl) ?_
        refine zx_iconst (pc := 76) (v := 1) G (z_dec T_X7_piece_ok 41 (76, .iconst 1, 1) rfl) rfl ?_
        refine zx_isub (pc := 77) G  (z_dec T_X7_piece_ok 42 (77, .isub, 1) rfl) ?_
        refine zx_putI (pc := 78) G gf_RX7_46 cf_7 rfl rfl h_o (z_dec T_X7_piece_ok 43 (78, .putfield 46, 3) rfl) ?_
        refine zx_iload_n (pc := 81) G 0 rfl rfl (z_dec T_X7_piece_ok 44 (81, .iload_n 1, 1) rfl) ?_
        exact zx_zret (pc := 82) G hr hlk (Nat.le_refl _) (Nat.le_refl _) hzr6 (z_dec T_X7_piece_ok 45 (82, .ireturn, 1) rfl) ⟨rfl, _, rfl, hzr6, h⟩
    · replace h := z_pos hc h
      refine zx_aload_n (pc := 18) G (some (10)) 0 rfl rfl (z_dec T_X7_piece_ok 9 (18, .aload_n 0, 1) rfl) ?_
      refine zx_callV_vN (pc := 19) (rm := rm_X7_openOne) G cw_RX7_60 ⟨by show 1 + 1 ≤ 8 * (n + 1) + 8; omega, by show 8 + (1 + 11) + 21 ≤ 400 * (n + 1) + 600; omega⟩ rfl rfl ⟨Nat.zero_le _, Nat.zero_le _⟩ h_o rfl (fun sz => (met_X7_openOne l D ρ kd q μ sz  _ hI h_o h)) rfl rfl (Nat.le_of_ble_eq_true rfl) (z_dec T_X7_piece_ok 10 (19, .invokevirtual 60, 3) rfl) (fun μ8 hn => ?_)
      clear h
      have h := hn
      clear hn
      refine zx_aload_n (pc := 22) G (some (10)) 0 rfl rfl (z_dec T_X7_piece_ok 11 (22, .aload_n 0, 1) rfl) ?_
      refine zx_callV_zN (pc := 23) (rm := (rm_grp n)) G cw_RX7_76 ⟨by show 8 * n + 8 + 1 ≤ 8 * (n + 1) + 8; omega, by show 8 + (7 + 11) + (400 * n + 600) ≤ 400 * (n + 1) + 600; omega⟩ rfl rfl ⟨Nat.zero_le _, Nat.zero_le _⟩ h_o rfl (fun sz => (IH_X7_piece IH D ρ kd q μ8 sz  _ hI h_o h)) rfl rfl (Nat.le_of_ble_eq_true rfl) (z_dec T_X7_piece_ok 12 (23, .invokevirtual 76, 3) rfl) (fun r10 μ9 hzr10 hn => ?_)
      clear h
      have h := hn
      clear hn
      refine zx_if_ne (pc := 26) (tgt := 33) G rfl (z_dec T_X7_piece_ok 13 (26, .ifCond .ne 7, 3) rfl) (fun hc => ?_) (fun hc => ?_)
      · replace h := z_neg hc h
        refine zx_iconst (pc := 33) (v := 0) G (z_dec T_X7_piece_ok 16 (33, .iconst 0, 1) rfl) rfl ?_
        exact L_X7_piece_34_ok IH G hr hlk hI h_o (Or.inl rfl) h
      · replace h := z_pos hc h
        refine zx_iconst (pc := 29) (v := 1) G (z_dec T_X7_piece_ok 14 (29, .iconst 1, 1) rfl) rfl ?_
        refine zx_goto (pc := 30) (tgt := 34) G rfl (z_dec T_X7_piece_ok 15 (30, .goto 4, 3) rfl) ?_
        exact L_X7_piece_34_ok IH G hr hlk hI h_o (Or.inr rfl) h
  · replace h := z_neg hc h
    refine zx_iconst (pc := 7) (v := 0) G (z_dec T_X7_piece_ok 3 (7, .iconst 0, 1) rfl) rfl ?_
    exact zx_zret (pc := 8) G hr hlk (Nat.le_refl _) (Nat.le_refl _) (Or.inl rfl) (z_dec T_X7_piece_ok 4 (8, .ireturn, 1) rfl) ⟨rfl, _, rfl, (Or.inl rfl), h⟩
set_option maxRecDepth 100000 in
set_option maxHeartbeats 4000000 in
theorem L_X7_expression_39_ok {p : Program} {l : Launch} {e : Env} {s : State} {m : MethodId} {args : Array Value} {below : List Frame} {meth : Method} {c : Code} {D : va_G} {A : Nat → Prop} {ρ : z_A} {kd : z_K} {q : z_Q} {μ : z_M} {K : Int64 → z_M → Prop} {P7 : Int64 → Int32 → z_M → Prop} {v1 : Int64} {v3 : Int32} {n : Nat} (IH : z_IH l n) (G : z_G p c cX7_expression s m args RX7 7 D) (hr : meth.sig.returnType = (Option.some Jvm.ClassFile.FieldType.long)) (hlk : meth.locks = false) (hP7 : ∀ (v1 : Int64) (v3 : Int32) (μ : z_M), P7 v1 v3 μ → (kd 10 = some (.inl 7)) → z_X p l e (rm_grp (n + 1)) s m args below meth c 7 D A (MQ below (z_Qn D A ρ kd (z_Kl q K)) args s 0 0 A) 0 0 ρ kd q μ 7 [(0, .ref (10)), (1, .long (v1)), (3, .int (v3))] []) (hI : z_I kd q) (f_l0 : kd 10 = some (.inl 7)) (h : L_X7_expression_39 (z_En n) kd q K P7 v1 v3 μ) : z_X p l e (rm_grp (n + 1)) s m args below meth c 7 D A (MQ below (z_Qn D A ρ kd (z_Kl q K)) args s 0 0 A) 0 0 ρ kd q μ 39 [(0, .ref (10)), (1, .long (v1)), (3, .int (v3))] [] := by
    unfold L_X7_expression_39 at h
    refine zx_aload_n (pc := 39) G (some (10)) 0 rfl rfl (z_dec T_X7_expression_ok 19 (39, .aload_n 0, 1) rfl) ?_
    refine zx_getI (pc := 40) G gf_RX7_32 rfl f_l0 (z_dec T_X7_expression_ok 20 (40, .getfield 32, 3) rfl) ?_
    refine zx_istore (pc := 43) (lv' := [(4, .int (μ.1 10 4)), (0, .ref (10)), (1, .long (v1)), (3, .int (v3))]) G (Nat.le_of_ble_eq_true rfl) rfl (z_dec T_X7_expression_ok 21 (43, .istore 4, 2) rfl) ?_
    refine zx_aload_n (pc := 45) G (some (10)) 1 rfl rfl (z_dec T_X7_expression_ok 22 (45, .aload_n 0, 1) rfl) ?_
    refine zx_callV_vN (pc := 46) (rm := rm_X7_advance) G cw_RX7_29 ⟨by show 0 + 1 ≤ 8 * (n + 1) + 8; omega, by show 8 + (1 + 11) + 0 ≤ 400 * (n + 1) + 600; omega⟩ rfl rfl ⟨Nat.zero_le _, Nat.zero_le _⟩ f_l0 rfl (fun sz => (met_X7_advance l D ρ kd q μ sz  _ hI f_l0 h)) rfl rfl (Nat.le_of_ble_eq_true rfl) (z_dec T_X7_expression_ok 23 (46, .invokevirtual 29, 3) rfl) (fun μ1 hn => ?_)
    clear h
    have h := hn
    clear hn
    refine zx_aload_n (pc := 49) G (some (10)) 1 rfl rfl (z_dec T_X7_expression_ok 24 (49, .aload_n 0, 1) rfl) ?_
    refine zx_callV_lN (pc := 50) (rm := (rm_grp n)) G cw_RX7_83 ⟨by show 8 * n + 8 + 1 ≤ 8 * (n + 1) + 8; omega, by show 8 + (7 + 11) + (400 * n + 600) ≤ 400 * (n + 1) + 600; omega⟩ rfl rfl ⟨Nat.zero_le _, Nat.zero_le _⟩ f_l0 rfl (fun sz => (IH_X7_term IH D ρ kd q μ1 sz  _ hI f_l0 h)) rfl rfl (Nat.le_of_ble_eq_true rfl) (z_dec T_X7_expression_ok 25 (50, .invokevirtual 83, 3) rfl) (fun r3 μ2 hn => ?_)
    clear h
    have h := hn
    clear hn
    refine zx_lstore (pc := 53) (lv' := [(5, .long (r3)), (4, .int (μ.1 10 4)), (0, .ref (10)), (1, .long (v1)), (3, .int (v3))]) G (Nat.le_of_ble_eq_true rfl) rfl (z_dec T_X7_expression_ok 26 (53, .lstore 5, 2) rfl) ?_
    refine zx_iload (pc := 55) G 1 rfl (z_dec T_X7_expression_ok 27 (55, .iload 4, 2) rfl) ?_
    refine zx_bipush (pc := 57) (v := 43) G (z_dec T_X7_expression_ok 28 (57, .bipush 43, 2) rfl) rfl ?_
    refine zx_icmp_ne (pc := 59) (tgt := 69) G rfl (z_dec T_X7_expression_ok 29 (59, .if_icmp .ne 10, 3) rfl) (fun hc => ?_) (fun hc => ?_)
    · replace h := z_neg hc h
      refine zx_lload_n (pc := 69) G 3 rfl rfl (z_dec T_X7_expression_ok 34 (69, .lload_n 1, 1) rfl) ?_
      refine zx_lload (pc := 70) G 0 rfl (z_dec T_X7_expression_ok 35 (70, .lload 5, 2) rfl) ?_
      refine zx_lsub (pc := 72) G  (z_dec T_X7_expression_ok 36 (72, .lsub, 1) rfl) ?_
      refine zx_lstore_n (pc := 73) (lv' := [(1, .long (v1 - r3)), (5, .long (r3)), (4, .int (μ.1 10 4)), (0, .ref (10)), (3, .int (v3))]) G rfl (Nat.le_of_ble_eq_true rfl) rfl (z_dec T_X7_expression_ok 37 (73, .lstore_n 1, 1) rfl) ?_
      refine zx_iinc (pc := 74) (v := v3 + 1) (lv' := [(3, .int (v3 + 1)), (1, .long (v1 - r3)), (5, .long (r3)), (4, .int (μ.1 10 4)), (0, .ref (10))]) G 4 rfl (z_inc (by decide)) (Nat.le_of_ble_eq_true rfl) rfl (z_dec T_X7_expression_ok 38 (74, .iinc 3 1, 3) rfl) ?_
      refine zx_goto (pc := 77) (tgt := 7) G rfl (z_dec T_X7_expression_ok 39 (77, .goto (-70), 3) rfl) ?_
      refine zx_sub (lv' := [(0, .ref (10)), (1, .long (v1 - r3)), (3, .int (v3 + 1))]) [4, 1, 0] rfl ?_
      exact hP7 _ _ _ h f_l0
    · replace h := z_pos hc h
      refine zx_lload_n (pc := 62) G 3 rfl rfl (z_dec T_X7_expression_ok 30 (62, .lload_n 1, 1) rfl) ?_
      refine zx_lload (pc := 63) G 0 rfl (z_dec T_X7_expression_ok 31 (63, .lload 5, 2) rfl) ?_
      refine zx_ladd (pc := 65) G  (z_dec T_X7_expression_ok 32 (65, .ladd, 1) rfl) ?_
      refine zx_goto (pc := 66) (tgt := 73) G rfl (z_dec T_X7_expression_ok 33 (66, .goto 7, 3) rfl) ?_
      refine zx_lstore_n (pc := 73) (lv' := [(1, .long (v1 + r3)), (5, .long (r3)), (4, .int (μ.1 10 4)), (0, .ref (10)), (3, .int (v3))]) G rfl (Nat.le_of_ble_eq_true rfl) rfl (z_dec T_X7_expression_ok 37 (73, .lstore_n 1, 1) rfl) ?_
      refine zx_iinc (pc := 74) (v := v3 + 1) (lv' := [(3, .int (v3 + 1)), (1, .long (v1 + r3)), (5, .long (r3)), (4, .int (μ.1 10 4)), (0, .ref (10))]) G 4 rfl (z_inc (by decide)) (Nat.le_of_ble_eq_true rfl) rfl (z_dec T_X7_expression_ok 38 (74, .iinc 3 1, 3) rfl) ?_
      refine zx_goto (pc := 77) (tgt := 7) G rfl (z_dec T_X7_expression_ok 39 (77, .goto (-70), 3) rfl) ?_
      refine zx_sub (lv' := [(0, .ref (10)), (1, .long (v1 + r3)), (3, .int (v3 + 1))]) [4, 1, 0] rfl ?_
      exact hP7 _ _ _ h f_l0
set_option maxRecDepth 100000 in
set_option maxHeartbeats 4000000 in
theorem B_X7_expression_7_ok {p : Program} {l : Launch} {e : Env} {s : State} {m : MethodId} {args : Array Value} {below : List Frame} {meth : Method} {c : Code} {D : va_G} {A : Nat → Prop} {ρ : z_A} {kd : z_K} {q : z_Q} {μ : z_M} {K : Int64 → z_M → Prop} {P7 : Int64 → Int32 → z_M → Prop} {v1 : Int64} {v3 : Int32} {n : Nat} (IH : z_IH l n) (G : z_G p c cX7_expression s m args RX7 7 D) (hr : meth.sig.returnType = (Option.some Jvm.ClassFile.FieldType.long)) (hlk : meth.locks = false) (hP7 : ∀ (v1 : Int64) (v3 : Int32) (μ : z_M), P7 v1 v3 μ → (kd 10 = some (.inl 7)) → z_X p l e (rm_grp (n + 1)) s m args below meth c 7 D A (MQ below (z_Qn D A ρ kd (z_Kl q K)) args s 0 0 A) 0 0 ρ kd q μ 7 [(0, .ref (10)), (1, .long (v1)), (3, .int (v3))] []) (hI : z_I kd q) (f_l0 : kd 10 = some (.inl 7)) (h : B_X7_expression_7 (z_En n) kd q K P7 v1 v3 μ) : z_X p l e (rm_grp (n + 1)) s m args below meth c 7 D A (MQ below (z_Qn D A ρ kd (z_Kl q K)) args s 0 0 A) 0 0 ρ kd q μ 7 [(0, .ref (10)), (1, .long (v1)), (3, .int (v3))] [] := by
    unfold B_X7_expression_7 at h
    refine zx_iload_n (pc := 7) G 2 rfl rfl (z_dec T_X7_expression_ok 5 (7, .iload_n 3, 1) rfl) ?_
    refine zx_sipush (pc := 8) (v := 160) G (z_dec T_X7_expression_ok 6 (8, .sipush 160, 3) rfl) rfl ?_
    refine zx_icmp_ge (pc := 11) (tgt := 80) G rfl (z_dec T_X7_expression_ok 7 (11, .if_icmp .ge 69, 3) rfl) (fun hc => ?_) (fun hc => ?_)
    · replace h := z_pos hc h
      refine zx_lload_n (pc := 80) G 1 rfl rfl (z_dec T_X7_expression_ok 40 (80, .lload_n 1, 1) rfl) ?_
      exact zx_lret (pc := 81) G hr hlk (Nat.le_refl _) (Nat.le_refl _) (z_dec T_X7_expression_ok 41 (81, .lreturn, 1) rfl) ⟨rfl, _, rfl, h⟩
    · replace h := z_neg hc h
      refine zx_aload_n (pc := 14) G (some (10)) 0 rfl rfl (z_dec T_X7_expression_ok 8 (14, .aload_n 0, 1) rfl) ?_
      refine zx_getI (pc := 15) G gf_RX7_23 rfl f_l0 (z_dec T_X7_expression_ok 9 (15, .getfield 23, 3) rfl) ?_
      refine zx_if_ne (pc := 18) (tgt := 80) G rfl (z_dec T_X7_expression_ok 10 (18, .ifCond .ne 62, 3) rfl) (fun hc => ?_) (fun hc => ?_)
      · replace h := z_neg hc h
        refine zx_lload_n (pc := 80) G 1 rfl rfl (z_dec T_X7_expression_ok 40 (80, .lload_n 1, 1) rfl) ?_
        exact zx_lret (pc := 81) G hr hlk (Nat.le_refl _) (Nat.le_refl _) (z_dec T_X7_expression_ok 41 (81, .lreturn, 1) rfl) ⟨rfl, _, rfl, h⟩
      · replace h := z_pos hc h
        refine zx_aload_n (pc := 21) G (some (10)) 0 rfl rfl (z_dec T_X7_expression_ok 11 (21, .aload_n 0, 1) rfl) ?_
        refine zx_getI (pc := 22) G gf_RX7_32 rfl f_l0 (z_dec T_X7_expression_ok 12 (22, .getfield 32, 3) rfl) ?_
        refine zx_bipush (pc := 25) (v := 43) G (z_dec T_X7_expression_ok 13 (25, .bipush 43, 2) rfl) rfl ?_
        refine zx_icmp_eq (pc := 27) (tgt := 39) G rfl (z_dec T_X7_expression_ok 14 (27, .if_icmp .eq 12, 3) rfl) (fun hc => ?_) (fun hc => ?_)
        · replace h := z_pos hc h
          exact L_X7_expression_39_ok IH G hr hlk hP7 hI f_l0 h
        · replace h := z_neg hc h
          refine zx_aload_n (pc := 30) G (some (10)) 0 rfl rfl (z_dec T_X7_expression_ok 15 (30, .aload_n 0, 1) rfl) ?_
          refine zx_getI (pc := 31) G gf_RX7_32 rfl f_l0 (z_dec T_X7_expression_ok 16 (31, .getfield 32, 3) rfl) ?_
          refine zx_bipush (pc := 34) (v := 45) G (z_dec T_X7_expression_ok 17 (34, .bipush 45, 2) rfl) rfl ?_
          refine zx_icmp_ne (pc := 36) (tgt := 80) G rfl (z_dec T_X7_expression_ok 18 (36, .if_icmp .ne 44, 3) rfl) (fun hc => ?_) (fun hc => ?_)
          · replace h := z_neg hc h
            refine zx_lload_n (pc := 80) G 1 rfl rfl (z_dec T_X7_expression_ok 40 (80, .lload_n 1, 1) rfl) ?_
            exact zx_lret (pc := 81) G hr hlk (Nat.le_refl _) (Nat.le_refl _) (z_dec T_X7_expression_ok 41 (81, .lreturn, 1) rfl) ⟨rfl, _, rfl, h⟩
          · replace h := z_pos hc h
            exact L_X7_expression_39_ok IH G hr hlk hP7 hI f_l0 h
set_option maxRecDepth 100000 in
set_option maxHeartbeats 4000000 in
theorem L_X7_expression_7_ok {p : Program} {l : Launch} {e : Env} {s : State} {m : MethodId} {args : Array Value} {below : List Frame} {meth : Method} {c : Code} {D : va_G} {A : Nat → Prop} {ρ : z_A} {kd : z_K} {q : z_Q} {μ : z_M} {K : Int64 → z_M → Prop} {v1 : Int64} {v3 : Int32} {n : Nat} (IH : z_IH l n) (G : z_G p c cX7_expression s m args RX7 7 D) (hr : meth.sig.returnType = (Option.some Jvm.ClassFile.FieldType.long)) (hlk : meth.locks = false) (hI : z_I kd q) (f_l0 : kd 10 = some (.inl 7)) (h : L_X7_expression_7 (z_En n) kd q K v1 v3 μ) : z_X p l e (rm_grp (n + 1)) s m args below meth c 7 D A (MQ below (z_Qn D A ρ kd (z_Kl q K)) args s 0 0 A) 0 0 ρ kd q μ 7 [(0, .ref (10)), (1, .long (v1)), (3, .int (v3))] [] :=
  h (fun (v1 : Int64) (v3 : Int32) (μ : z_M) => (kd 10 = some (.inl 7)) → z_X p l e (rm_grp (n + 1)) s m args below meth c 7 D A (MQ below (z_Qn D A ρ kd (z_Kl q K)) args s 0 0 A) 0 0 ρ kd q μ 7 [(0, .ref (10)), (1, .long (v1)), (3, .int (v3))] []) (fun v1 v3 μ h f_l0 => B_X7_expression_7_ok IH G hr hlk (fun _ _ _ h => h) hI f_l0 h) f_l0
set_option maxRecDepth 100000 in
set_option maxHeartbeats 4000000 in
theorem mb_X7_expression {l : Launch} {n : Nat} (IH : z_IH l n) (D : va_G) (ρ : z_A) (kd : z_K) (q : z_Q) (μ : z_M) (sz : Nat) (K : Int64 → z_M → Prop) (hI : z_I kd q) (h_o : kd 10 = some (.inl 7)) (h : BC_X7_expression (z_En n) kd q μ K) : Met l yX7_expression (z_ws yX7_expression cX7_expression 7 (Option.some Jvm.ClassFile.FieldType.long)) (rm_grp (n + 1)) (z_Pc D ρ kd q μ sz [.ref (10)]) (z_Qn D (z_Rg ρ sz) ρ kd (z_Kl q K)) 0 0 (z_Rg ρ sz) := by
  refine z_met (rm := (rm_grp (n + 1))) (by decide) (Nat.le_of_ble_eq_true rfl) (fun p e s m args below meth c G hr hlk => ?_)
  unfold BC_X7_expression at h
  show z_X _ _ _ _ _ _ _ _ _ _ _ _ _ _ _ _ _ _ _ _ _ [(0, .ref (10))] _
  refine zx_aload_n (pc := 0) G (some (10)) 0 rfl rfl (z_dec T_X7_expression_ok 0 (0, .aload_n 0, 1) rfl) ?_
  refine zx_callV_lN (pc := 1) (rm := (rm_grp n)) G cw_RX7_83 ⟨by show 8 * n + 8 + 1 ≤ 8 * (n + 1) + 8; omega, by show 8 + (7 + 11) + (400 * n + 600) ≤ 400 * (n + 1) + 600; omega⟩ rfl rfl ⟨Nat.zero_le _, Nat.zero_le _⟩ h_o rfl (fun sz => (IH_X7_term IH D ρ kd q μ sz  _ hI h_o h)) rfl rfl (Nat.le_of_ble_eq_true rfl) (z_dec T_X7_expression_ok 1 (1, .invokevirtual 83, 3) rfl) (fun r2 μ1 hn => ?_)
  clear h
  have h := hn
  clear hn
  refine zx_lstore_n (pc := 4) (lv' := [(1, .long (r2)), (0, .ref (10))]) G rfl (Nat.le_of_ble_eq_true rfl) rfl (z_dec T_X7_expression_ok 2 (4, .lstore_n 1, 1) rfl) ?_
  refine zx_iconst (pc := 5) (v := 0) G (z_dec T_X7_expression_ok 3 (5, .iconst 0, 1) rfl) rfl ?_
  refine zx_istore_n (pc := 6) (lv' := [(3, .int ((0 : Int32))), (1, .long (r2)), (0, .ref (10))]) G rfl (Nat.le_of_ble_eq_true rfl) rfl (z_dec T_X7_expression_ok 4 (6, .istore_n 3, 1) rfl) ?_
  refine zx_sub (lv' := [(0, .ref (10)), (1, .long (r2)), (3, .int ((0 : Int32)))]) [2, 1, 0] rfl ?_
  exact L_X7_expression_7_ok IH G hr hlk hI h_o h
set_option maxRecDepth 100000 in
set_option maxHeartbeats 4000000 in
theorem L_X7_term_48_ok {p : Program} {l : Launch} {e : Env} {s : State} {m : MethodId} {args : Array Value} {below : List Frame} {meth : Method} {c : Code} {D : va_G} {A : Nat → Prop} {ρ : z_A} {kd : z_K} {q : z_Q} {μ : z_M} {K : Int64 → z_M → Prop} {P7 : Int64 → Int32 → z_M → Prop} {v1 : Int64} {v3 : Int32} {n : Nat} (IH : z_IH l n) (G : z_G p c cX7_term s m args RX7 7 D) (hr : meth.sig.returnType = (Option.some Jvm.ClassFile.FieldType.long)) (hlk : meth.locks = false) (hP7 : ∀ (v1 : Int64) (v3 : Int32) (μ : z_M), P7 v1 v3 μ → (kd 10 = some (.inl 7)) → z_X p l e (rm_grp (n + 1)) s m args below meth c 7 D A (MQ below (z_Qn D A ρ kd (z_Kl q K)) args s 0 0 A) 0 0 ρ kd q μ 7 [(0, .ref (10)), (1, .long (v1)), (3, .int (v3))] []) (hI : z_I kd q) (f_l0 : kd 10 = some (.inl 7)) (h : L_X7_term_48 (z_En n) kd q K P7 v1 v3 μ) : z_X p l e (rm_grp (n + 1)) s m args below meth c 7 D A (MQ below (z_Qn D A ρ kd (z_Kl q K)) args s 0 0 A) 0 0 ρ kd q μ 48 [(0, .ref (10)), (1, .long (v1)), (3, .int (v3))] [] := by
    unfold L_X7_term_48 at h
    refine zx_aload_n (pc := 48) G (some (10)) 0 rfl rfl (z_dec T_X7_term_ok 23 (48, .aload_n 0, 1) rfl) ?_
    refine zx_getI (pc := 49) G gf_RX7_32 rfl f_l0 (z_dec T_X7_term_ok 24 (49, .getfield 32, 3) rfl) ?_
    refine zx_istore (pc := 52) (lv' := [(4, .int (μ.1 10 4)), (0, .ref (10)), (1, .long (v1)), (3, .int (v3))]) G (Nat.le_of_ble_eq_true rfl) rfl (z_dec T_X7_term_ok 25 (52, .istore 4, 2) rfl) ?_
    refine zx_aload_n (pc := 54) G (some (10)) 1 rfl rfl (z_dec T_X7_term_ok 26 (54, .aload_n 0, 1) rfl) ?_
    refine zx_callV_vN (pc := 55) (rm := rm_X7_advance) G cw_RX7_29 ⟨by show 0 + 1 ≤ 8 * (n + 1) + 8; omega, by show 8 + (1 + 11) + 0 ≤ 400 * (n + 1) + 600; omega⟩ rfl rfl ⟨Nat.zero_le _, Nat.zero_le _⟩ f_l0 rfl (fun sz => (met_X7_advance l D ρ kd q μ sz  _ hI f_l0 h)) rfl rfl (Nat.le_of_ble_eq_true rfl) (z_dec T_X7_term_ok 27 (55, .invokevirtual 29, 3) rfl) (fun μ1 hn => ?_)
    clear h
    have h := hn
    clear hn
    refine zx_aload_n (pc := 58) G (some (10)) 1 rfl rfl (z_dec T_X7_term_ok 28 (58, .aload_n 0, 1) rfl) ?_
    refine zx_callV_lN (pc := 59) (rm := (rm_grp n)) G cw_RX7_86 ⟨by show 8 * n + 8 + 1 ≤ 8 * (n + 1) + 8; omega, by show 8 + (3 + 11) + (400 * n + 600) ≤ 400 * (n + 1) + 600; omega⟩ rfl rfl ⟨Nat.zero_le _, Nat.zero_le _⟩ f_l0 rfl (fun sz => (IH_X7_factor IH D ρ kd q μ1 sz  _ hI f_l0 h)) rfl rfl (Nat.le_of_ble_eq_true rfl) (z_dec T_X7_term_ok 29 (59, .invokevirtual 86, 3) rfl) (fun r3 μ2 hn => ?_)
    clear h
    have h := hn
    clear hn
    refine zx_lstore (pc := 62) (lv' := [(5, .long (r3)), (4, .int (μ.1 10 4)), (0, .ref (10)), (1, .long (v1)), (3, .int (v3))]) G (Nat.le_of_ble_eq_true rfl) rfl (z_dec T_X7_term_ok 30 (62, .lstore 5, 2) rfl) ?_
    refine zx_iload (pc := 64) G 1 rfl (z_dec T_X7_term_ok 31 (64, .iload 4, 2) rfl) ?_
    refine zx_bipush (pc := 66) (v := 42) G (z_dec T_X7_term_ok 32 (66, .bipush 42, 2) rfl) rfl ?_
    refine zx_icmp_ne (pc := 68) (tgt := 79) G rfl (z_dec T_X7_term_ok 33 (68, .if_icmp .ne 11, 3) rfl) (fun hc => ?_) (fun hc => ?_)
    · replace h := z_neg hc h
      refine zx_lload (pc := 79) G 0 rfl (z_dec T_X7_term_ok 39 (79, .lload 5, 2) rfl) ?_
      refine zx_lconst (pc := 81) (v := 0) G (z_dec T_X7_term_ok 40 (81, .lconst 0, 1) rfl) rfl ?_
      refine zx_lcmp_ne (pc := 82) (tgt := 112) G rfl (z_dec T_X7_term_ok 41 (82, .lcmp, 1) rfl) (z_dec T_X7_term_ok 42 (83, .ifCond .ne 29, 3) rfl) (fun hc => ?_) (fun hc => ?_)
      · replace h := z_neg hc h
        refine zx_iload (pc := 112) G 1 rfl (z_dec T_X7_term_ok 55 (112, .iload 4, 2) rfl) ?_
        refine zx_bipush (pc := 114) (v := 47) G (z_dec T_X7_term_ok 56 (114, .bipush 47, 2) rfl) rfl ?_
        refine zx_icmp_ne (pc := 116) (tgt := 126) G rfl (z_dec T_X7_term_ok 57 (116, .if_icmp .ne 10, 3) rfl) (fun hc => ?_) (fun hc => ?_)
        · replace h := z_neg hc h
          refine zx_lload_n (pc := 126) G 3 rfl rfl (z_dec T_X7_term_ok 62 (126, .lload_n 1, 1) rfl) ?_
          refine zx_lload (pc := 127) G 0 rfl (z_dec T_X7_term_ok 63 (127, .lload 5, 2) rfl) ?_
          obtain ⟨c4, h⟩ := h
          refine zx_lrem (pc := 129) G c4 (z_dec T_X7_term_ok 64 (129, .lrem, 1) rfl) ?_
          refine zx_lstore_n (pc := 130) (lv' := [(1, .long (v1 - v1 / r3 * r3)), (5, .long (r3)), (4, .int (μ.1 10 4)), (0, .ref (10)), (3, .int (v3))]) G rfl (Nat.le_of_ble_eq_true rfl) rfl (z_dec T_X7_term_ok 65 (130, .lstore_n 1, 1) rfl) ?_
          refine zx_iinc (pc := 131) (v := v3 + 1) (lv' := [(3, .int (v3 + 1)), (1, .long (v1 - v1 / r3 * r3)), (5, .long (r3)), (4, .int (μ.1 10 4)), (0, .ref (10))]) G 4 rfl (z_inc (by decide)) (Nat.le_of_ble_eq_true rfl) rfl (z_dec T_X7_term_ok 66 (131, .iinc 3 1, 3) rfl) ?_
          refine zx_goto (pc := 134) (tgt := 7) G rfl (z_dec T_X7_term_ok 67 (134, .goto (-127), 3) rfl) ?_
          refine zx_sub (lv' := [(0, .ref (10)), (1, .long (v1 - v1 / r3 * r3)), (3, .int (v3 + 1))]) [4, 1, 0] rfl ?_
          exact hP7 _ _ _ h f_l0
        · replace h := z_pos hc h
          refine zx_lload_n (pc := 119) G 3 rfl rfl (z_dec T_X7_term_ok 58 (119, .lload_n 1, 1) rfl) ?_
          refine zx_lload (pc := 120) G 0 rfl (z_dec T_X7_term_ok 59 (120, .lload 5, 2) rfl) ?_
          obtain ⟨c5, h⟩ := h
          refine zx_ldiv (pc := 122) G c5 (z_dec T_X7_term_ok 60 (122, .ldiv, 1) rfl) ?_
          refine zx_goto (pc := 123) (tgt := 130) G rfl (z_dec T_X7_term_ok 61 (123, .goto 7, 3) rfl) ?_
          refine zx_lstore_n (pc := 130) (lv' := [(1, .long (v1 / r3)), (5, .long (r3)), (4, .int (μ.1 10 4)), (0, .ref (10)), (3, .int (v3))]) G rfl (Nat.le_of_ble_eq_true rfl) rfl (z_dec T_X7_term_ok 65 (130, .lstore_n 1, 1) rfl) ?_
          refine zx_iinc (pc := 131) (v := v3 + 1) (lv' := [(3, .int (v3 + 1)), (1, .long (v1 / r3)), (5, .long (r3)), (4, .int (μ.1 10 4)), (0, .ref (10))]) G 4 rfl (z_inc (by decide)) (Nat.le_of_ble_eq_true rfl) rfl (z_dec T_X7_term_ok 66 (131, .iinc 3 1, 3) rfl) ?_
          refine zx_goto (pc := 134) (tgt := 7) G rfl (z_dec T_X7_term_ok 67 (134, .goto (-127), 3) rfl) ?_
          refine zx_sub (lv' := [(0, .ref (10)), (1, .long (v1 / r3)), (3, .int (v3 + 1))]) [4, 1, 0] rfl ?_
          exact hP7 _ _ _ h f_l0
      · replace h := z_pos hc h
        refine zx_aload_n (pc := 86) G (some (10)) 2 rfl rfl (z_dec T_X7_term_ok 43 (86, .aload_n 0, 1) rfl) ?_
        refine zx_aload_n (pc := 87) G (some (10)) 2 rfl rfl (z_dec T_X7_term_ok 44 (87, .aload_n 0, 1) rfl) ?_
        refine zx_getZ (pc := 88) G gf_RX7_57 rfl f_l0 (z_dec T_X7_term_ok 45 (88, .getfield 57, 3) rfl) ?_
        refine zx_if_ne (pc := 91) (tgt := 101) G rfl (z_dec T_X7_term_ok 46 (91, .ifCond .ne 10, 3) rfl) (fun hc => ?_) (fun hc => ?_)
        · replace h := z_neg hc h
          refine zx_iconst (pc := 101) (v := 1) G (z_dec T_X7_term_ok 50 (101, .iconst 1, 1) rfl) rfl ?_
          refine zx_goto (pc := 102) (tgt := 106) G rfl (z_dec T_X7_term_ok 51 (102, .goto 4, 3) rfl) ?_
          refine zx_putZ (pc := 106) G gf_RX7_57 cf_7 rfl rfl (Or.inr rfl) f_l0 (z_dec T_X7_term_ok 53 (106, .putfield 57, 3) rfl) ?_
          refine zx_goto (pc := 109) (tgt := 131) G rfl (z_dec T_X7_term_ok 54 (109, .goto 22, 3) rfl) ?_
          refine zx_iinc (pc := 131) (v := v3 + 1) (lv' := [(3, .int (v3 + 1)), (5, .long (r3)), (4, .int (μ.1 10 4)), (0, .ref (10)), (1, .long (v1))]) G 4 rfl (z_inc (by decide)) (Nat.le_of_ble_eq_true rfl) rfl (z_dec T_X7_term_ok 66 (131, .iinc 3 1, 3) rfl) ?_
          refine zx_goto (pc := 134) (tgt := 7) G rfl (z_dec T_X7_term_ok 67 (134, .goto (-127), 3) rfl) ?_
          refine zx_sub (lv' := [(0, .ref (10)), (1, .long (v1)), (3, .int (v3 + 1))]) [3, 4, 0] rfl ?_
          exact hP7 _ _ _ h f_l0
        · replace h := z_pos hc h
          refine zx_aload_n (pc := 94) G (some (10)) 2 rfl rfl (z_dec T_X7_term_ok 47 (94, .aload_n 0, 1) rfl) ?_
          refine zx_getZ (pc := 95) G gf_RX7_53 rfl f_l0 (z_dec T_X7_term_ok 48 (95, .getfield 53, 3) rfl) ?_
          refine zx_if_eq (pc := 98) (tgt := 105) G rfl (z_dec T_X7_term_ok 49 (98, .ifCond .eq 7, 3) rfl) (fun hc => ?_) (fun hc => ?_)
          · replace h := z_pos hc h
            refine zx_iconst (pc := 105) (v := 0) G (z_dec T_X7_term_ok 52 (105, .iconst 0, 1) rfl) rfl ?_
            refine zx_putZ (pc := 106) G gf_RX7_57 cf_7 rfl rfl (Or.inl rfl) f_l0 (z_dec T_X7_term_ok 53 (106, .putfield 57, 3) rfl) ?_
            refine zx_goto (pc := 109) (tgt := 131) G rfl (z_dec T_X7_term_ok 54 (109, .goto 22, 3) rfl) ?_
            refine zx_iinc (pc := 131) (v := v3 + 1) (lv' := [(3, .int (v3 + 1)), (5, .long (r3)), (4, .int (μ.1 10 4)), (0, .ref (10)), (1, .long (v1))]) G 4 rfl (z_inc (by decide)) (Nat.le_of_ble_eq_true rfl) rfl (z_dec T_X7_term_ok 66 (131, .iinc 3 1, 3) rfl) ?_
            refine zx_goto (pc := 134) (tgt := 7) G rfl (z_dec T_X7_term_ok 67 (134, .goto (-127), 3) rfl) ?_
            refine zx_sub (lv' := [(0, .ref (10)), (1, .long (v1)), (3, .int (v3 + 1))]) [3, 4, 0] rfl ?_
            exact hP7 _ _ _ h f_l0
          · replace h := z_neg hc h
            refine zx_iconst (pc := 101) (v := 1) G (z_dec T_X7_term_ok 50 (101, .iconst 1, 1) rfl) rfl ?_
            refine zx_goto (pc := 102) (tgt := 106) G rfl (z_dec T_X7_term_ok 51 (102, .goto 4, 3) rfl) ?_
            refine zx_putZ (pc := 106) G gf_RX7_57 cf_7 rfl rfl (Or.inr rfl) f_l0 (z_dec T_X7_term_ok 53 (106, .putfield 57, 3) rfl) ?_
            refine zx_goto (pc := 109) (tgt := 131) G rfl (z_dec T_X7_term_ok 54 (109, .goto 22, 3) rfl) ?_
            refine zx_iinc (pc := 131) (v := v3 + 1) (lv' := [(3, .int (v3 + 1)), (5, .long (r3)), (4, .int (μ.1 10 4)), (0, .ref (10)), (1, .long (v1))]) G 4 rfl (z_inc (by decide)) (Nat.le_of_ble_eq_true rfl) rfl (z_dec T_X7_term_ok 66 (131, .iinc 3 1, 3) rfl) ?_
            refine zx_goto (pc := 134) (tgt := 7) G rfl (z_dec T_X7_term_ok 67 (134, .goto (-127), 3) rfl) ?_
            refine zx_sub (lv' := [(0, .ref (10)), (1, .long (v1)), (3, .int (v3 + 1))]) [3, 4, 0] rfl ?_
            exact hP7 _ _ _ h f_l0
    · replace h := z_pos hc h
      refine zx_lload_n (pc := 71) G 3 rfl rfl (z_dec T_X7_term_ok 34 (71, .lload_n 1, 1) rfl) ?_
      refine zx_lload (pc := 72) G 0 rfl (z_dec T_X7_term_ok 35 (72, .lload 5, 2) rfl) ?_
      refine zx_lmul (pc := 74) G  (z_dec T_X7_term_ok 36 (74, .lmul, 1) rfl) ?_
      refine zx_lstore_n (pc := 75) (lv' := [(1, .long (v1 * r3)), (5, .long (r3)), (4, .int (μ.1 10 4)), (0, .ref (10)), (3, .int (v3))]) G rfl (Nat.le_of_ble_eq_true rfl) rfl (z_dec T_X7_term_ok 37 (75, .lstore_n 1, 1) rfl) ?_
      refine zx_goto (pc := 76) (tgt := 131) G rfl (z_dec T_X7_term_ok 38 (76, .goto 55, 3) rfl) ?_
      refine zx_iinc (pc := 131) (v := v3 + 1) (lv' := [(3, .int (v3 + 1)), (1, .long (v1 * r3)), (5, .long (r3)), (4, .int (μ.1 10 4)), (0, .ref (10))]) G 4 rfl (z_inc (by decide)) (Nat.le_of_ble_eq_true rfl) rfl (z_dec T_X7_term_ok 66 (131, .iinc 3 1, 3) rfl) ?_
      refine zx_goto (pc := 134) (tgt := 7) G rfl (z_dec T_X7_term_ok 67 (134, .goto (-127), 3) rfl) ?_
      refine zx_sub (lv' := [(0, .ref (10)), (1, .long (v1 * r3)), (3, .int (v3 + 1))]) [4, 1, 0] rfl ?_
      exact hP7 _ _ _ h f_l0
set_option maxRecDepth 100000 in
set_option maxHeartbeats 4000000 in
theorem B_X7_term_7_ok {p : Program} {l : Launch} {e : Env} {s : State} {m : MethodId} {args : Array Value} {below : List Frame} {meth : Method} {c : Code} {D : va_G} {A : Nat → Prop} {ρ : z_A} {kd : z_K} {q : z_Q} {μ : z_M} {K : Int64 → z_M → Prop} {P7 : Int64 → Int32 → z_M → Prop} {v1 : Int64} {v3 : Int32} {n : Nat} (IH : z_IH l n) (G : z_G p c cX7_term s m args RX7 7 D) (hr : meth.sig.returnType = (Option.some Jvm.ClassFile.FieldType.long)) (hlk : meth.locks = false) (hP7 : ∀ (v1 : Int64) (v3 : Int32) (μ : z_M), P7 v1 v3 μ → (kd 10 = some (.inl 7)) → z_X p l e (rm_grp (n + 1)) s m args below meth c 7 D A (MQ below (z_Qn D A ρ kd (z_Kl q K)) args s 0 0 A) 0 0 ρ kd q μ 7 [(0, .ref (10)), (1, .long (v1)), (3, .int (v3))] []) (hI : z_I kd q) (f_l0 : kd 10 = some (.inl 7)) (h : B_X7_term_7 (z_En n) kd q K P7 v1 v3 μ) : z_X p l e (rm_grp (n + 1)) s m args below meth c 7 D A (MQ below (z_Qn D A ρ kd (z_Kl q K)) args s 0 0 A) 0 0 ρ kd q μ 7 [(0, .ref (10)), (1, .long (v1)), (3, .int (v3))] [] := by
    unfold B_X7_term_7 at h
    refine zx_iload_n (pc := 7) G 2 rfl rfl (z_dec T_X7_term_ok 5 (7, .iload_n 3, 1) rfl) ?_
    refine zx_sipush (pc := 8) (v := 160) G (z_dec T_X7_term_ok 6 (8, .sipush 160, 3) rfl) rfl ?_
    refine zx_icmp_ge (pc := 11) (tgt := 137) G rfl (z_dec T_X7_term_ok 7 (11, .if_icmp .ge 126, 3) rfl) (fun hc => ?_) (fun hc => ?_)
    · replace h := z_pos hc h
      refine zx_lload_n (pc := 137) G 1 rfl rfl (z_dec T_X7_term_ok 68 (137, .lload_n 1, 1) rfl) ?_
      exact zx_lret (pc := 138) G hr hlk (Nat.le_refl _) (Nat.le_refl _) (z_dec T_X7_term_ok 69 (138, .lreturn, 1) rfl) ⟨rfl, _, rfl, h⟩
    · replace h := z_neg hc h
      refine zx_aload_n (pc := 14) G (some (10)) 0 rfl rfl (z_dec T_X7_term_ok 8 (14, .aload_n 0, 1) rfl) ?_
      refine zx_getI (pc := 15) G gf_RX7_23 rfl f_l0 (z_dec T_X7_term_ok 9 (15, .getfield 23, 3) rfl) ?_
      refine zx_if_ne (pc := 18) (tgt := 137) G rfl (z_dec T_X7_term_ok 10 (18, .ifCond .ne 119, 3) rfl) (fun hc => ?_) (fun hc => ?_)
      · replace h := z_neg hc h
        refine zx_lload_n (pc := 137) G 1 rfl rfl (z_dec T_X7_term_ok 68 (137, .lload_n 1, 1) rfl) ?_
        exact zx_lret (pc := 138) G hr hlk (Nat.le_refl _) (Nat.le_refl _) (z_dec T_X7_term_ok 69 (138, .lreturn, 1) rfl) ⟨rfl, _, rfl, h⟩
      · replace h := z_pos hc h
        refine zx_aload_n (pc := 21) G (some (10)) 0 rfl rfl (z_dec T_X7_term_ok 11 (21, .aload_n 0, 1) rfl) ?_
        refine zx_getI (pc := 22) G gf_RX7_32 rfl f_l0 (z_dec T_X7_term_ok 12 (22, .getfield 32, 3) rfl) ?_
        refine zx_bipush (pc := 25) (v := 42) G (z_dec T_X7_term_ok 13 (25, .bipush 42, 2) rfl) rfl ?_
        refine zx_icmp_eq (pc := 27) (tgt := 48) G rfl (z_dec T_X7_term_ok 14 (27, .if_icmp .eq 21, 3) rfl) (fun hc => ?_) (fun hc => ?_)
        · replace h := z_pos hc h
          exact L_X7_term_48_ok IH G hr hlk hP7 hI f_l0 h
        · replace h := z_neg hc h
          refine zx_aload_n (pc := 30) G (some (10)) 0 rfl rfl (z_dec T_X7_term_ok 15 (30, .aload_n 0, 1) rfl) ?_
          refine zx_getI (pc := 31) G gf_RX7_32 rfl f_l0 (z_dec T_X7_term_ok 16 (31, .getfield 32, 3) rfl) ?_
          refine zx_bipush (pc := 34) (v := 47) G (z_dec T_X7_term_ok 17 (34, .bipush 47, 2) rfl) rfl ?_
          refine zx_icmp_eq (pc := 36) (tgt := 48) G rfl (z_dec T_X7_term_ok 18 (36, .if_icmp .eq 12, 3) rfl) (fun hc => ?_) (fun hc => ?_)
          · replace h := z_pos hc h
            exact L_X7_term_48_ok IH G hr hlk hP7 hI f_l0 h
          · replace h := z_neg hc h
            refine zx_aload_n (pc := 39) G (some (10)) 0 rfl rfl (z_dec T_X7_term_ok 19 (39, .aload_n 0, 1) rfl) ?_
            refine zx_getI (pc := 40) G gf_RX7_32 rfl f_l0 (z_dec T_X7_term_ok 20 (40, .getfield 32, 3) rfl) ?_
            refine zx_bipush (pc := 43) (v := 37) G (z_dec T_X7_term_ok 21 (43, .bipush 37, 2) rfl) rfl ?_
            refine zx_icmp_ne (pc := 45) (tgt := 137) G rfl (z_dec T_X7_term_ok 22 (45, .if_icmp .ne 92, 3) rfl) (fun hc => ?_) (fun hc => ?_)
            · replace h := z_neg hc h
              refine zx_lload_n (pc := 137) G 1 rfl rfl (z_dec T_X7_term_ok 68 (137, .lload_n 1, 1) rfl) ?_
              exact zx_lret (pc := 138) G hr hlk (Nat.le_refl _) (Nat.le_refl _) (z_dec T_X7_term_ok 69 (138, .lreturn, 1) rfl) ⟨rfl, _, rfl, h⟩
            · replace h := z_pos hc h
              exact L_X7_term_48_ok IH G hr hlk hP7 hI f_l0 h
set_option maxRecDepth 100000 in
set_option maxHeartbeats 4000000 in
theorem L_X7_term_7_ok {p : Program} {l : Launch} {e : Env} {s : State} {m : MethodId} {args : Array Value} {below : List Frame} {meth : Method} {c : Code} {D : va_G} {A : Nat → Prop} {ρ : z_A} {kd : z_K} {q : z_Q} {μ : z_M} {K : Int64 → z_M → Prop} {v1 : Int64} {v3 : Int32} {n : Nat} (IH : z_IH l n) (G : z_G p c cX7_term s m args RX7 7 D) (hr : meth.sig.returnType = (Option.some Jvm.ClassFile.FieldType.long)) (hlk : meth.locks = false) (hI : z_I kd q) (f_l0 : kd 10 = some (.inl 7)) (h : L_X7_term_7 (z_En n) kd q K v1 v3 μ) : z_X p l e (rm_grp (n + 1)) s m args below meth c 7 D A (MQ below (z_Qn D A ρ kd (z_Kl q K)) args s 0 0 A) 0 0 ρ kd q μ 7 [(0, .ref (10)), (1, .long (v1)), (3, .int (v3))] [] :=
  h (fun (v1 : Int64) (v3 : Int32) (μ : z_M) => (kd 10 = some (.inl 7)) → z_X p l e (rm_grp (n + 1)) s m args below meth c 7 D A (MQ below (z_Qn D A ρ kd (z_Kl q K)) args s 0 0 A) 0 0 ρ kd q μ 7 [(0, .ref (10)), (1, .long (v1)), (3, .int (v3))] []) (fun v1 v3 μ h f_l0 => B_X7_term_7_ok IH G hr hlk (fun _ _ _ h => h) hI f_l0 h) f_l0
set_option maxRecDepth 100000 in
set_option maxHeartbeats 4000000 in
theorem mb_X7_term {l : Launch} {n : Nat} (IH : z_IH l n) (D : va_G) (ρ : z_A) (kd : z_K) (q : z_Q) (μ : z_M) (sz : Nat) (K : Int64 → z_M → Prop) (hI : z_I kd q) (h_o : kd 10 = some (.inl 7)) (h : BC_X7_term (z_En n) kd q μ K) : Met l yX7_term (z_ws yX7_term cX7_term 7 (Option.some Jvm.ClassFile.FieldType.long)) (rm_grp (n + 1)) (z_Pc D ρ kd q μ sz [.ref (10)]) (z_Qn D (z_Rg ρ sz) ρ kd (z_Kl q K)) 0 0 (z_Rg ρ sz) := by
  refine z_met (rm := (rm_grp (n + 1))) (by decide) (Nat.le_of_ble_eq_true rfl) (fun p e s m args below meth c G hr hlk => ?_)
  unfold BC_X7_term at h
  show z_X _ _ _ _ _ _ _ _ _ _ _ _ _ _ _ _ _ _ _ _ _ [(0, .ref (10))] _
  refine zx_aload_n (pc := 0) G (some (10)) 0 rfl rfl (z_dec T_X7_term_ok 0 (0, .aload_n 0, 1) rfl) ?_
  refine zx_callV_lN (pc := 1) (rm := (rm_grp n)) G cw_RX7_86 ⟨by show 8 * n + 8 + 1 ≤ 8 * (n + 1) + 8; omega, by show 8 + (3 + 11) + (400 * n + 600) ≤ 400 * (n + 1) + 600; omega⟩ rfl rfl ⟨Nat.zero_le _, Nat.zero_le _⟩ h_o rfl (fun sz => (IH_X7_factor IH D ρ kd q μ sz  _ hI h_o h)) rfl rfl (Nat.le_of_ble_eq_true rfl) (z_dec T_X7_term_ok 1 (1, .invokevirtual 86, 3) rfl) (fun r2 μ1 hn => ?_)
  clear h
  have h := hn
  clear hn
  refine zx_lstore_n (pc := 4) (lv' := [(1, .long (r2)), (0, .ref (10))]) G rfl (Nat.le_of_ble_eq_true rfl) rfl (z_dec T_X7_term_ok 2 (4, .lstore_n 1, 1) rfl) ?_
  refine zx_iconst (pc := 5) (v := 0) G (z_dec T_X7_term_ok 3 (5, .iconst 0, 1) rfl) rfl ?_
  refine zx_istore_n (pc := 6) (lv' := [(3, .int ((0 : Int32))), (1, .long (r2)), (0, .ref (10))]) G rfl (Nat.le_of_ble_eq_true rfl) rfl (z_dec T_X7_term_ok 4 (6, .istore_n 3, 1) rfl) ?_
  refine zx_sub (lv' := [(0, .ref (10)), (1, .long (r2)), (3, .int ((0 : Int32)))]) [2, 1, 0] rfl ?_
  exact L_X7_term_7_ok IH G hr hlk hI h_o h
set_option maxRecDepth 100000 in
set_option maxHeartbeats 4000000 in
theorem L_X7_factor_113_ok {p : Program} {l : Launch} {e : Env} {s : State} {m : MethodId} {args : Array Value} {below : List Frame} {meth : Method} {c : Code} {D : va_G} {A : Nat → Prop} {ρ : z_A} {kd : z_K} {q : z_Q} {μ : z_M} {K : Int64 → z_M → Prop} {t0 : Int64} {n : Nat} (IH : z_IH l n) (G : z_G p c cX7_factor s m args RX7 3 D) (hr : meth.sig.returnType = (Option.some Jvm.ClassFile.FieldType.long)) (hlk : meth.locks = false) (hI : z_I kd q) (f_l0 : kd 10 = some (.inl 7)) (h : L_X7_factor_113 (z_En n) kd q K t0 μ) : z_X p l e (rm_grp (n + 1)) s m args below meth c 3 D A (MQ below (z_Qn D A ρ kd (z_Kl q K)) args s 0 0 A) 0 0 ρ kd q μ 113 [(0, .ref (10))] [.long (t0)] := by
    unfold L_X7_factor_113 at h
    refine zx_lstore_n (pc := 113) (lv' := [(1, .long (t0)), (0, .ref (10))]) G rfl (Nat.le_of_ble_eq_true rfl) rfl (z_dec T_X7_factor_ok 55 (113, .lstore_n 1, 1) rfl) ?_
    refine zx_aload_n (pc := 114) G (some (10)) 1 rfl rfl (z_dec T_X7_factor_ok 56 (114, .aload_n 0, 1) rfl) ?_
    refine zx_callV_vN (pc := 115) (rm := rm_X7_advance) G cw_RX7_29 ⟨by show 0 + 1 ≤ 8 * (n + 1) + 8; omega, by show 8 + (1 + 11) + 0 ≤ 400 * (n + 1) + 600; omega⟩ rfl rfl ⟨Nat.zero_le _, Nat.zero_le _⟩ f_l0 rfl (fun sz => (met_X7_advance l D ρ kd q μ sz  _ hI f_l0 h)) rfl rfl (Nat.le_of_ble_eq_true rfl) (z_dec T_X7_factor_ok 57 (115, .invokevirtual 29, 3) rfl) (fun μ1 hn => ?_)
    clear h
    have h := hn
    clear hn
    refine zx_goto (pc := 118) (tgt := 126) G rfl (z_dec T_X7_factor_ok 58 (118, .goto 8, 3) rfl) ?_
    refine zx_lload_n (pc := 126) G 0 rfl rfl (z_dec T_X7_factor_ok 62 (126, .lload_n 1, 1) rfl) ?_
    exact zx_lret (pc := 127) G hr hlk (Nat.le_refl _) (Nat.le_refl _) (z_dec T_X7_factor_ok 63 (127, .lreturn, 1) rfl) ⟨rfl, _, rfl, h⟩
set_option maxRecDepth 100000 in
set_option maxHeartbeats 4000000 in
theorem L_X7_factor_112_ok {p : Program} {l : Launch} {e : Env} {s : State} {m : MethodId} {args : Array Value} {below : List Frame} {meth : Method} {c : Code} {D : va_G} {A : Nat → Prop} {ρ : z_A} {kd : z_K} {q : z_Q} {μ : z_M} {K : Int64 → z_M → Prop} {n : Nat} (IH : z_IH l n) (G : z_G p c cX7_factor s m args RX7 3 D) (hr : meth.sig.returnType = (Option.some Jvm.ClassFile.FieldType.long)) (hlk : meth.locks = false) (hI : z_I kd q) (f_l0 : kd 10 = some (.inl 7)) (h : L_X7_factor_112 (z_En n) kd q K μ) : z_X p l e (rm_grp (n + 1)) s m args below meth c 3 D A (MQ below (z_Qn D A ρ kd (z_Kl q K)) args s 0 0 A) 0 0 ρ kd q μ 112 [(0, .ref (10))] [] := by
    unfold L_X7_factor_112 at h
    refine zx_lconst (pc := 112) (v := 0) G (z_dec T_X7_factor_ok 54 (112, .lconst 0, 1) rfl) rfl ?_
    exact L_X7_factor_113_ok IH G hr hlk hI f_l0 h
set_option maxRecDepth 100000 in
set_option maxHeartbeats 4000000 in
theorem L_X7_factor_74_ok {p : Program} {l : Launch} {e : Env} {s : State} {m : MethodId} {args : Array Value} {below : List Frame} {meth : Method} {c : Code} {D : va_G} {A : Nat → Prop} {ρ : z_A} {kd : z_K} {q : z_Q} {μ : z_M} {K : Int64 → z_M → Prop} {v1 : Int64} {n : Nat} (IH : z_IH l n) (G : z_G p c cX7_factor s m args RX7 3 D) (hr : meth.sig.returnType = (Option.some Jvm.ClassFile.FieldType.long)) (hlk : meth.locks = false) (hI : z_I kd q) (f_l0 : kd 10 = some (.inl 7)) (h : L_X7_factor_74 (z_En n) kd q K v1 μ) : z_X p l e (rm_grp (n + 1)) s m args below meth c 3 D A (MQ below (z_Qn D A ρ kd (z_Kl q K)) args s 0 0 A) 0 0 ρ kd q μ 74 [(0, .ref (10)), (1, .long (v1))] [] := by
    unfold L_X7_factor_74 at h
    refine zx_aload_n (pc := 74) G (some (10)) 0 rfl rfl (z_dec T_X7_factor_ok 38 (74, .aload_n 0, 1) rfl) ?_
    refine zx_getI (pc := 75) G gf_RX7_32 rfl f_l0 (z_dec T_X7_factor_ok 39 (75, .getfield 32, 3) rfl) ?_
    refine zx_callS_zN (pc := 78) (rm := rm_X8_isLetter) G cw_RX7_92 ⟨by show 0 + 1 ≤ 8 * (n + 1) + 8; omega, by show 8 + (1 + 11) + 0 ≤ 400 * (n + 1) + 600; omega⟩ rfl rfl ⟨Nat.zero_le _, Nat.zero_le _⟩ (fun sz => (met_X8_isLetter l D ρ kd q μ sz (μ.1 10 4) _ hI h)) rfl rfl (Nat.le_of_ble_eq_true rfl) (z_dec T_X7_factor_ok 40 (78, .invokestatic 92, 3) rfl) (fun r2 μ1 hzr2 hn => ?_)
    clear h
    have h := hn
    clear hn
    refine zx_if_eq (pc := 81) (tgt := 121) G rfl (z_dec T_X7_factor_ok 41 (81, .ifCond .eq 40, 3) rfl) (fun hc => ?_) (fun hc => ?_)
    · replace h := z_pos hc h
      refine zx_aload_n (pc := 121) G (some (10)) 0 rfl rfl (z_dec T_X7_factor_ok 59 (121, .aload_n 0, 1) rfl) ?_
      refine zx_iconst (pc := 122) (v := 1) G (z_dec T_X7_factor_ok 60 (122, .iconst 1, 1) rfl) rfl ?_
      refine zx_callV_vN (pc := 123) (rm := rm_X7_fail) G cw_RX7_43 ⟨by show 0 + 1 ≤ 8 * (n + 1) + 8; omega, by show 8 + (2 + 11) + 0 ≤ 400 * (n + 1) + 600; omega⟩ rfl rfl ⟨Nat.zero_le _, Nat.zero_le _⟩ f_l0 rfl (fun sz => (met_X7_fail l D ρ kd q μ1 sz ((1 : Int32)) _ hI f_l0 h)) rfl rfl (Nat.le_of_ble_eq_true rfl) (z_dec T_X7_factor_ok 61 (123, .invokevirtual 43, 3) rfl) (fun μ3 hn => ?_)
      clear h
      have h := hn
      clear hn
      refine zx_lload_n (pc := 126) G 1 rfl rfl (z_dec T_X7_factor_ok 62 (126, .lload_n 1, 1) rfl) ?_
      exact zx_lret (pc := 127) G hr hlk (Nat.le_refl _) (Nat.le_refl _) (z_dec T_X7_factor_ok 63 (127, .lreturn, 1) rfl) ⟨rfl, _, rfl, h⟩
    · replace h := z_neg hc h
      refine zx_aload_n (pc := 84) G (some (10)) 0 rfl rfl (z_dec T_X7_factor_ok 42 (84, .aload_n 0, 1) rfl) ?_
      refine zx_getZ (pc := 85) G gf_RX7_53 rfl f_l0 (z_dec T_X7_factor_ok 43 (85, .getfield 53, 3) rfl) ?_
      refine zx_if_eq (pc := 88) (tgt := 112) G rfl (z_dec T_X7_factor_ok 44 (88, .ifCond .eq 24, 3) rfl) (fun hc => ?_) (fun hc => ?_)
      · replace h := z_pos hc h
        refine zx_sub (lv' := [(0, .ref (10))]) [0] rfl ?_
        exact L_X7_factor_112_ok IH G hr hlk hI f_l0 h
      · replace h := z_neg hc h
        refine zx_aload_n (pc := 91) G (some (10)) 0 rfl rfl (z_dec T_X7_factor_ok 45 (91, .aload_n 0, 1) rfl) ?_
        refine zx_getZ (pc := 92) G gf_RX7_57 rfl f_l0 (z_dec T_X7_factor_ok 46 (92, .getfield 57, 3) rfl) ?_
        refine zx_if_ne (pc := 95) (tgt := 112) G rfl (z_dec T_X7_factor_ok 47 (95, .ifCond .ne 17, 3) rfl) (fun hc => ?_) (fun hc => ?_)
        · replace h := z_neg hc h
          refine zx_sub (lv' := [(0, .ref (10))]) [0] rfl ?_
          exact L_X7_factor_112_ok IH G hr hlk hI f_l0 h
        · replace h := z_pos hc h
          refine zx_aload_n (pc := 98) G (some (10)) 0 rfl rfl (z_dec T_X7_factor_ok 48 (98, .aload_n 0, 1) rfl) ?_
          refine zx_getF (pc := 99) (b := 9) G gf_RX7_9 rfl f_l0 (zq_7_0 hI f_l0) (z_dec T_X7_factor_ok 49 (99, .getfield 9, 3) rfl) ?_
          refine zx_aload_n (pc := 102) G (some (10)) 0 rfl rfl (z_dec T_X7_factor_ok 50 (102, .aload_n 0, 1) rfl) ?_
          refine zx_getI (pc := 103) G gf_RX7_32 rfl f_l0 (z_dec T_X7_factor_ok 51 (103, .getfield 32, 3) rfl) ?_
          refine zx_callV_lN (pc := 106) (rm := rm_X8_valueOf) G cw_RX7_96 ⟨by show 1 + 1 ≤ 8 * (n + 1) + 8; omega, by show 8 + (3 + 11) + 27 ≤ 400 * (n + 1) + 600; omega⟩ rfl rfl ⟨Nat.zero_le _, Nat.zero_le _⟩ (zk_7_0 hI f_l0) rfl (fun sz => (met_X8_valueOf l D ρ kd q μ1 sz (μ1.1 10 4) _ hI (zk_7_0 hI f_l0) h)) rfl rfl (Nat.le_of_ble_eq_true rfl) (z_dec T_X7_factor_ok 52 (106, .invokevirtual 96, 3) rfl) (fun r5 μ4 hn => ?_)
          clear h
          have h := hn
          clear hn
          refine zx_goto (pc := 109) (tgt := 113) G rfl (z_dec T_X7_factor_ok 53 (109, .goto 4, 3) rfl) ?_
          refine zx_sub (lv' := [(0, .ref (10))]) [0] rfl ?_
          exact L_X7_factor_113_ok IH G hr hlk hI f_l0 h
set_option maxRecDepth 100000 in
set_option maxHeartbeats 4000000 in
theorem mb_X7_factor {l : Launch} {n : Nat} (IH : z_IH l n) (D : va_G) (ρ : z_A) (kd : z_K) (q : z_Q) (μ : z_M) (sz : Nat) (K : Int64 → z_M → Prop) (hI : z_I kd q) (h_o : kd 10 = some (.inl 7)) (h : BC_X7_factor (z_En n) kd q μ K) : Met l yX7_factor (z_ws yX7_factor cX7_factor 3 (Option.some Jvm.ClassFile.FieldType.long)) (rm_grp (n + 1)) (z_Pc D ρ kd q μ sz [.ref (10)]) (z_Qn D (z_Rg ρ sz) ρ kd (z_Kl q K)) 0 0 (z_Rg ρ sz) := by
  refine z_met (rm := (rm_grp (n + 1))) (by decide) (Nat.le_of_ble_eq_true rfl) (fun p e s m args below meth c G hr hlk => ?_)
  unfold BC_X7_factor at h
  show z_X _ _ _ _ _ _ _ _ _ _ _ _ _ _ _ _ _ _ _ _ _ [(0, .ref (10))] _
  refine zx_aload_n (pc := 0) G (some (10)) 0 rfl rfl (z_dec T_X7_factor_ok 0 (0, .aload_n 0, 1) rfl) ?_
  refine zx_getI (pc := 1) G gf_RX7_23 rfl h_o (z_dec T_X7_factor_ok 1 (1, .getfield 23, 3) rfl) ?_
  refine zx_if_eq (pc := 4) (tgt := 9) G rfl (z_dec T_X7_factor_ok 2 (4, .ifCond .eq 5, 3) rfl) (fun hc => ?_) (fun hc => ?_)
  · replace h := z_pos hc h
    refine zx_lconst (pc := 9) (v := 0) G (z_dec T_X7_factor_ok 5 (9, .lconst 0, 1) rfl) rfl ?_
    refine zx_lstore_n (pc := 10) (lv' := [(1, .long ((0 : Int64))), (0, .ref (10))]) G rfl (Nat.le_of_ble_eq_true rfl) rfl (z_dec T_X7_factor_ok 6 (10, .lstore_n 1, 1) rfl) ?_
    refine zx_aload_n (pc := 11) G (some (10)) 1 rfl rfl (z_dec T_X7_factor_ok 7 (11, .aload_n 0, 1) rfl) ?_
    refine zx_getI (pc := 12) G gf_RX7_32 rfl h_o (z_dec T_X7_factor_ok 8 (12, .getfield 32, 3) rfl) ?_
    refine zx_bipush (pc := 15) (v := 91) G (z_dec T_X7_factor_ok 9 (15, .bipush 91, 2) rfl) rfl ?_
    refine zx_icmp_ne (pc := 17) (tgt := 48) G rfl (z_dec T_X7_factor_ok 10 (17, .if_icmp .ne 31, 3) rfl) (fun hc => ?_) (fun hc => ?_)
    · replace h := z_neg hc h
      refine zx_aload_n (pc := 48) G (some (10)) 1 rfl rfl (z_dec T_X7_factor_ok 26 (48, .aload_n 0, 1) rfl) ?_
      refine zx_getI (pc := 49) G gf_RX7_32 rfl h_o (z_dec T_X7_factor_ok 27 (49, .getfield 32, 3) rfl) ?_
      refine zx_bipush (pc := 52) (v := 48) G (z_dec T_X7_factor_ok 28 (52, .bipush 48, 2) rfl) rfl ?_
      refine zx_icmp_lt (pc := 54) (tgt := 74) G rfl (z_dec T_X7_factor_ok 29 (54, .if_icmp .lt 20, 3) rfl) (fun hc => ?_) (fun hc => ?_)
      · replace h := z_pos hc h
        refine zx_sub (lv' := [(0, .ref (10)), (1, .long ((0 : Int64)))]) [1, 0] rfl ?_
        exact L_X7_factor_74_ok IH G hr hlk hI h_o h
      · replace h := z_neg hc h
        refine zx_aload_n (pc := 57) G (some (10)) 1 rfl rfl (z_dec T_X7_factor_ok 30 (57, .aload_n 0, 1) rfl) ?_
        refine zx_getI (pc := 58) G gf_RX7_32 rfl h_o (z_dec T_X7_factor_ok 31 (58, .getfield 32, 3) rfl) ?_
        refine zx_bipush (pc := 61) (v := 57) G (z_dec T_X7_factor_ok 32 (61, .bipush 57, 2) rfl) rfl ?_
        refine zx_icmp_gt (pc := 63) (tgt := 74) G rfl (z_dec T_X7_factor_ok 33 (63, .if_icmp .gt 11, 3) rfl) (fun hc => ?_) (fun hc => ?_)
        · replace h := z_pos hc h
          refine zx_sub (lv' := [(0, .ref (10)), (1, .long ((0 : Int64)))]) [1, 0] rfl ?_
          exact L_X7_factor_74_ok IH G hr hlk hI h_o h
        · replace h := z_neg hc h
          refine zx_aload_n (pc := 66) G (some (10)) 1 rfl rfl (z_dec T_X7_factor_ok 34 (66, .aload_n 0, 1) rfl) ?_
          refine zx_callV_lN (pc := 67) (rm := rm_X7_number) G cw_RX7_89 ⟨by show 1 + 1 ≤ 8 * (n + 1) + 8; omega, by show 8 + (4 + 11) + 21 ≤ 400 * (n + 1) + 600; omega⟩ rfl rfl ⟨Nat.zero_le _, Nat.zero_le _⟩ h_o rfl (fun sz => (met_X7_number l D ρ kd q μ sz  _ hI h_o h)) rfl rfl (Nat.le_of_ble_eq_true rfl) (z_dec T_X7_factor_ok 35 (67, .invokevirtual 89, 3) rfl) (fun r2 μ1 hn => ?_)
          clear h
          have h := hn
          clear hn
          refine zx_lstore_n (pc := 70) (lv' := [(1, .long (r2)), (0, .ref (10))]) G rfl (Nat.le_of_ble_eq_true rfl) rfl (z_dec T_X7_factor_ok 36 (70, .lstore_n 1, 1) rfl) ?_
          refine zx_goto (pc := 71) (tgt := 126) G rfl (z_dec T_X7_factor_ok 37 (71, .goto 55, 3) rfl) ?_
          refine zx_lload_n (pc := 126) G 0 rfl rfl (z_dec T_X7_factor_ok 62 (126, .lload_n 1, 1) rfl) ?_
          exact zx_lret (pc := 127) G hr hlk (Nat.le_refl _) (Nat.le_refl _) (z_dec T_X7_factor_ok 63 (127, .lreturn, 1) rfl) ⟨rfl, _, rfl, h⟩
    · replace h := z_pos hc h
      refine zx_aload_n (pc := 20) G (some (10)) 1 rfl rfl (z_dec T_X7_factor_ok 11 (20, .aload_n 0, 1) rfl) ?_
      refine zx_callV_vN (pc := 21) (rm := rm_X7_openOne) G cw_RX7_60 ⟨by show 1 + 1 ≤ 8 * (n + 1) + 8; omega, by show 8 + (1 + 11) + 21 ≤ 400 * (n + 1) + 600; omega⟩ rfl rfl ⟨Nat.zero_le _, Nat.zero_le _⟩ h_o rfl (fun sz => (met_X7_openOne l D ρ kd q μ sz  _ hI h_o h)) rfl rfl (Nat.le_of_ble_eq_true rfl) (z_dec T_X7_factor_ok 12 (21, .invokevirtual 60, 3) rfl) (fun μ3 hn => ?_)
      clear h
      have h := hn
      clear hn
      refine zx_aload_n (pc := 24) G (some (10)) 1 rfl rfl (z_dec T_X7_factor_ok 13 (24, .aload_n 0, 1) rfl) ?_
      refine zx_callV_lN (pc := 25) (rm := (rm_grp n)) G cw_RX7_79 ⟨by show 8 * n + 8 + 1 ≤ 8 * (n + 1) + 8; omega, by show 8 + (7 + 11) + (400 * n + 600) ≤ 400 * (n + 1) + 600; omega⟩ rfl rfl ⟨Nat.zero_le _, Nat.zero_le _⟩ h_o rfl (fun sz => (IH_X7_expression IH D ρ kd q μ3 sz  _ hI h_o h)) rfl rfl (Nat.le_of_ble_eq_true rfl) (z_dec T_X7_factor_ok 14 (25, .invokevirtual 79, 3) rfl) (fun r5 μ4 hn => ?_)
      clear h
      have h := hn
      clear hn
      refine zx_lstore_n (pc := 28) (lv' := [(1, .long (r5)), (0, .ref (10))]) G rfl (Nat.le_of_ble_eq_true rfl) rfl (z_dec T_X7_factor_ok 15 (28, .lstore_n 1, 1) rfl) ?_
      refine zx_aload_n (pc := 29) G (some (10)) 1 rfl rfl (z_dec T_X7_factor_ok 16 (29, .aload_n 0, 1) rfl) ?_
      refine zx_bipush (pc := 30) (v := 93) G (z_dec T_X7_factor_ok 17 (30, .bipush 93, 2) rfl) rfl ?_
      refine zx_callV_vN (pc := 32) (rm := rm_X7_pass) G cw_RX7_35 ⟨by show 1 + 1 ≤ 8 * (n + 1) + 8; omega, by show 8 + (2 + 11) + 21 ≤ 400 * (n + 1) + 600; omega⟩ rfl rfl ⟨Nat.zero_le _, Nat.zero_le _⟩ h_o rfl (fun sz => (met_X7_pass l D ρ kd q μ4 sz ((93 : Int32)) _ hI h_o h)) rfl rfl (Nat.le_of_ble_eq_true rfl) (z_dec T_X7_factor_ok 18 (32, .invokevirtual 35, 3) rfl) (fun μ6 hn => ?_)
      clear h
      have h := hn
      clear hn
      refine zx_aload_n (pc := 35) G (some (10)) 1 rfl rfl (z_dec T_X7_factor_ok 19 (35, .aload_n 0, 1) rfl) ?_
      refine zx_dup (pc := 36) G rfl (z_dec T_X7_factor_ok 20 (36, .dup, 1) rfl) ?_
      refine zx_getI (pc := 37) G gf_RX7_46 rfl h_o (z_dec T_X7_factor_ok 21 (37, .getfield 46, 3) rfl) ?_
      refine zx_iconst (pc := 40) (v := 1) G (z_dec T_X7_factor_ok 22 (40, .iconst 1, 1) rfl) rfl ?_
      refine zx_isub (pc := 41) G  (z_dec T_X7_factor_ok 23 (41, .isub, 1) rfl) ?_
      refine zx_putI (pc := 42) G gf_RX7_46 cf_7 rfl rfl h_o (z_dec T_X7_factor_ok 24 (42, .putfield 46, 3) rfl) ?_
      refine zx_goto (pc := 45) (tgt := 126) G rfl (z_dec T_X7_factor_ok 25 (45, .goto 81, 3) rfl) ?_
      refine zx_lload_n (pc := 126) G 0 rfl rfl (z_dec T_X7_factor_ok 62 (126, .lload_n 1, 1) rfl) ?_
      exact zx_lret (pc := 127) G hr hlk (Nat.le_refl _) (Nat.le_refl _) (z_dec T_X7_factor_ok 63 (127, .lreturn, 1) rfl) ⟨rfl, _, rfl, h⟩
  · replace h := z_neg hc h
    refine zx_lconst (pc := 7) (v := 0) G (z_dec T_X7_factor_ok 3 (7, .lconst 0, 1) rfl) rfl ?_
    exact zx_lret (pc := 8) G hr hlk (Nat.le_refl _) (Nat.le_refl _) (z_dec T_X7_factor_ok 4 (8, .lreturn, 1) rfl) ⟨rfl, _, rfl, h⟩
theorem z_IH_all (l : Launch) : ∀ n, z_IH l n
  | 0 => ⟨fun _ _ _ _ _ _ _ _ _ h => absurd h id, fun _ _ _ _ _ _ _ _ _ h => absurd h id, fun _ _ _ _ _ _ _ _ _ h => absurd h id, fun _ _ _ _ _ _ _ _ _ h => absurd h id, fun _ _ _ _ _ _ _ _ _ h => absurd h id, fun _ _ _ _ _ _ _ _ _ h => absurd h id⟩
  | n + 1 => ⟨fun D ρ kd q μ sz K hI h_o h => mb_X7_condition (z_IH_all l n) D ρ kd q μ sz K hI h_o h, fun D ρ kd q μ sz K hI h_o h => mb_X7_part (z_IH_all l n) D ρ kd q μ sz K hI h_o h, fun D ρ kd q μ sz K hI h_o h => mb_X7_piece (z_IH_all l n) D ρ kd q μ sz K hI h_o h, fun D ρ kd q μ sz K hI h_o h => mb_X7_expression (z_IH_all l n) D ρ kd q μ sz K hI h_o h, fun D ρ kd q μ sz K hI h_o h => mb_X7_term (z_IH_all l n) D ρ kd q μ sz K hI h_o h, fun D ρ kd q μ sz K hI h_o h => mb_X7_factor (z_IH_all l n) D ρ kd q μ sz K hI h_o h⟩
abbrev rm_X7_condition : Room := rm_grp 40
theorem met_X7_condition (l : Launch) (D : va_G) (ρ : z_A) (kd : z_K) (q : z_Q) (μ : z_M) (sz : Nat) (K : Int32 → z_M → Prop) (hI : z_I kd q) (h_o : kd 10 = some (.inl 7)) (h : C_X7_condition z_deep kd q μ K) : Met l yX7_condition (z_ws yX7_condition cX7_condition 5 (Option.some Jvm.ClassFile.FieldType.boolean)) rm_X7_condition (z_Pc D ρ kd q μ sz [.ref (10)]) (z_Qn D (z_Rg ρ sz) ρ kd (z_Kz q K)) 0 0 (z_Rg ρ sz) := IH_X7_condition (z_IH_all l 40) D ρ kd q μ sz K hI h_o h
abbrev rm_X7_part : Room := rm_grp 40
theorem met_X7_part (l : Launch) (D : va_G) (ρ : z_A) (kd : z_K) (q : z_Q) (μ : z_M) (sz : Nat) (K : Int32 → z_M → Prop) (hI : z_I kd q) (h_o : kd 10 = some (.inl 7)) (h : C_X7_part z_deep kd q μ K) : Met l yX7_part (z_ws yX7_part cX7_part 5 (Option.some Jvm.ClassFile.FieldType.boolean)) rm_X7_part (z_Pc D ρ kd q μ sz [.ref (10)]) (z_Qn D (z_Rg ρ sz) ρ kd (z_Kz q K)) 0 0 (z_Rg ρ sz) := IH_X7_part (z_IH_all l 40) D ρ kd q μ sz K hI h_o h
abbrev rm_X7_piece : Room := rm_grp 40
theorem met_X7_piece (l : Launch) (D : va_G) (ρ : z_A) (kd : z_K) (q : z_Q) (μ : z_M) (sz : Nat) (K : Int32 → z_M → Prop) (hI : z_I kd q) (h_o : kd 10 = some (.inl 7)) (h : C_X7_piece z_deep kd q μ K) : Met l yX7_piece (z_ws yX7_piece cX7_piece 7 (Option.some Jvm.ClassFile.FieldType.boolean)) rm_X7_piece (z_Pc D ρ kd q μ sz [.ref (10)]) (z_Qn D (z_Rg ρ sz) ρ kd (z_Kz q K)) 0 0 (z_Rg ρ sz) := IH_X7_piece (z_IH_all l 40) D ρ kd q μ sz K hI h_o h
abbrev rm_X7_expression : Room := rm_grp 40
theorem met_X7_expression (l : Launch) (D : va_G) (ρ : z_A) (kd : z_K) (q : z_Q) (μ : z_M) (sz : Nat) (K : Int64 → z_M → Prop) (hI : z_I kd q) (h_o : kd 10 = some (.inl 7)) (h : C_X7_expression z_deep kd q μ K) : Met l yX7_expression (z_ws yX7_expression cX7_expression 7 (Option.some Jvm.ClassFile.FieldType.long)) rm_X7_expression (z_Pc D ρ kd q μ sz [.ref (10)]) (z_Qn D (z_Rg ρ sz) ρ kd (z_Kl q K)) 0 0 (z_Rg ρ sz) := IH_X7_expression (z_IH_all l 40) D ρ kd q μ sz K hI h_o h
abbrev rm_X7_term : Room := rm_grp 40
theorem met_X7_term (l : Launch) (D : va_G) (ρ : z_A) (kd : z_K) (q : z_Q) (μ : z_M) (sz : Nat) (K : Int64 → z_M → Prop) (hI : z_I kd q) (h_o : kd 10 = some (.inl 7)) (h : C_X7_term z_deep kd q μ K) : Met l yX7_term (z_ws yX7_term cX7_term 7 (Option.some Jvm.ClassFile.FieldType.long)) rm_X7_term (z_Pc D ρ kd q μ sz [.ref (10)]) (z_Qn D (z_Rg ρ sz) ρ kd (z_Kl q K)) 0 0 (z_Rg ρ sz) := IH_X7_term (z_IH_all l 40) D ρ kd q μ sz K hI h_o h
abbrev rm_X7_factor : Room := rm_grp 40
theorem met_X7_factor (l : Launch) (D : va_G) (ρ : z_A) (kd : z_K) (q : z_Q) (μ : z_M) (sz : Nat) (K : Int64 → z_M → Prop) (hI : z_I kd q) (h_o : kd 10 = some (.inl 7)) (h : C_X7_factor z_deep kd q μ K) : Met l yX7_factor (z_ws yX7_factor cX7_factor 3 (Option.some Jvm.ClassFile.FieldType.long)) rm_X7_factor (z_Pc D ρ kd q μ sz [.ref (10)]) (z_Qn D (z_Rg ρ sz) ρ kd (z_Kl q K)) 0 0 (z_Rg ρ sz) := IH_X7_factor (z_IH_all l 40) D ρ kd q μ sz K hI h_o h
abbrev rm_X0_take : Room := { frames := 0, cells := 0, slots := 0, locals := 0 }
set_option maxRecDepth 100000 in
set_option maxHeartbeats 4000000 in
theorem met_X0_take (l : Launch) (D : va_G) (ρ : z_A) (kd : z_K) (q : z_Q) (μ : z_M) (sz : Nat) (o : Nat) (a1 : Int32) (a2 : Int32) (a3 : Int32) (K : z_M → Prop) (hI : z_I kd q) (h_o : kd o = some (.inl 0)) (h : C_X0_take kd q o a1 a2 a3 μ K) : Met l yX0_take (z_ws yX0_take cX0_take 4 (Option.none : Option Jvm.ClassFile.FieldType)) rm_X0_take (z_Pc D ρ kd q μ sz [.ref (o), .int (a1), .int (a2), .int (a3)]) (z_Qn D (z_Rg ρ sz) ρ kd (z_Kv q K)) 0 0 (z_Rg ρ sz) := by
  refine z_met (rm := rm_X0_take) (by decide) (Nat.le_of_ble_eq_true rfl) (fun p e s m args below meth c G hr hlk => ?_)
  unfold C_X0_take at h
  show z_X _ _ _ _ _ _ _ _ _ _ _ _ _ _ _ _ _ _ _ _ _ [(0, .ref (o)), (1, .int (a1)), (2, .int (a2)), (3, .int (a3))] _
  refine zx_iload_n (pc := 0) G 1 rfl rfl (z_dec T_X0_take_ok 0 (0, .iload_n 1, 1) rfl) ?_
  refine zx_if_lt (pc := 1) (tgt := 28) G rfl (z_dec T_X0_take_ok 1 (1, .ifCond .lt 27, 3) rfl) (fun hc => ?_) (fun hc => ?_)
  · replace h := z_pos hc h
    exact zx_vret (pc := 28) G hr hlk (Nat.le_refl _) (Nat.le_refl _) (z_dec T_X0_take_ok 18 (28, .return_, 1) rfl) ⟨rfl, rfl, h⟩
  · replace h := z_neg hc h
    refine zx_iload_n (pc := 4) G 1 rfl rfl (z_dec T_X0_take_ok 2 (4, .iload_n 1, 1) rfl) ?_
    refine zx_iconst (pc := 5) (v := 3) G (z_dec T_X0_take_ok 3 (5, .iconst 3, 1) rfl) rfl ?_
    refine zx_icmp_ge (pc := 6) (tgt := 28) G rfl (z_dec T_X0_take_ok 4 (6, .if_icmp .ge 22, 3) rfl) (fun hc => ?_) (fun hc => ?_)
    · replace h := z_pos hc h
      exact zx_vret (pc := 28) G hr hlk (Nat.le_refl _) (Nat.le_refl _) (z_dec T_X0_take_ok 18 (28, .return_, 1) rfl) ⟨rfl, rfl, h⟩
    · replace h := z_neg hc h
      refine zx_aload_n (pc := 9) G (some (o)) 0 rfl rfl (z_dec T_X0_take_ok 5 (9, .aload_n 0, 1) rfl) ?_
      refine zx_iload_n (pc := 10) G 1 rfl rfl (z_dec T_X0_take_ok 6 (10, .iload_n 1, 1) rfl) ?_
      refine zx_putI (pc := 11) G gf_RX0_34 cf_0 rfl rfl h_o (z_dec T_X0_take_ok 7 (11, .putfield 34, 3) rfl) ?_
      refine zx_aload_n (pc := 14) G (some (o)) 0 rfl rfl (z_dec T_X0_take_ok 8 (14, .aload_n 0, 1) rfl) ?_
      refine zx_getF (pc := 15) (b := o + 1) G gf_RX0_27 rfl h_o (zq_0_5 hI h_o) (z_dec T_X0_take_ok 9 (15, .getfield 27, 3) rfl) ?_
      refine zx_iload_n (pc := 18) G 1 rfl rfl (z_dec T_X0_take_ok 10 (18, .iload_n 1, 1) rfl) ?_
      refine zx_iload_n (pc := 19) G 2 rfl rfl (z_dec T_X0_take_ok 11 (19, .iload_n 2, 1) rfl) ?_
      obtain ⟨c1, h⟩ := h
      refine zx_iast (pc := 20) G (zk_0_5 hI h_o) c1 (z_dec T_X0_take_ok 12 (20, .iastore, 1) rfl) ?_
      refine zx_aload_n (pc := 21) G (some (o)) 0 rfl rfl (z_dec T_X0_take_ok 13 (21, .aload_n 0, 1) rfl) ?_
      refine zx_getF (pc := 22) (b := o + 2) G gf_RX0_31 rfl h_o (zq_0_6 hI h_o) (z_dec T_X0_take_ok 14 (22, .getfield 31, 3) rfl) ?_
      refine zx_iload_n (pc := 25) G 1 rfl rfl (z_dec T_X0_take_ok 15 (25, .iload_n 1, 1) rfl) ?_
      refine zx_iload_n (pc := 26) G 3 rfl rfl (z_dec T_X0_take_ok 16 (26, .iload_n 3, 1) rfl) ?_
      refine zx_iast (pc := 27) G (zk_0_6 hI h_o) c1 (z_dec T_X0_take_ok 17 (27, .iastore, 1) rfl) ?_
      exact zx_vret (pc := 28) G hr hlk (Nat.le_refl _) (Nat.le_refl _) (z_dec T_X0_take_ok 18 (28, .return_, 1) rfl) ⟨rfl, rfl, h⟩
abbrev rm_X0_horseIn : Room := { frames := 0, cells := 0, slots := 0, locals := 0 }
set_option maxRecDepth 100000 in
set_option maxHeartbeats 4000000 in
theorem met_X0_horseIn (l : Launch) (D : va_G) (ρ : z_A) (kd : z_K) (q : z_Q) (μ : z_M) (sz : Nat) (o : Nat) (a1 : Int32) (K : Int32 → z_M → Prop) (hI : z_I kd q) (h_o : kd o = some (.inl 0)) (h : C_X0_horseIn kd q o a1 μ K) : Met l yX0_horseIn (z_ws yX0_horseIn cX0_horseIn 2 (Option.some Jvm.ClassFile.FieldType.int)) rm_X0_horseIn (z_Pc D ρ kd q μ sz [.ref (o), .int (a1)]) (z_Qn D (z_Rg ρ sz) ρ kd (z_Ki q K)) 0 0 (z_Rg ρ sz) := by
  refine z_met (rm := rm_X0_horseIn) (by decide) (Nat.le_of_ble_eq_true rfl) (fun p e s m args below meth c G hr hlk => ?_)
  unfold C_X0_horseIn at h
  show z_X _ _ _ _ _ _ _ _ _ _ _ _ _ _ _ _ _ _ _ _ _ [(0, .ref (o)), (1, .int (a1))] _
  refine zx_iload_n (pc := 0) G 1 rfl rfl (z_dec T_X0_horseIn_ok 0 (0, .iload_n 1, 1) rfl) ?_
  refine zx_if_lt (pc := 1) (tgt := 18) G rfl (z_dec T_X0_horseIn_ok 1 (1, .ifCond .lt 17, 3) rfl) (fun hc => ?_) (fun hc => ?_)
  · replace h := z_pos hc h
    refine zx_iconst (pc := 18) (v := -1) G (z_dec T_X0_horseIn_ok 10 (18, .iconst (-1), 1) rfl) rfl ?_
    exact zx_iret (pc := 19) G hr hlk (Nat.le_refl _) (Nat.le_refl _) (z_dec T_X0_horseIn_ok 11 (19, .ireturn, 1) rfl) ⟨rfl, _, rfl, h⟩
  · replace h := z_neg hc h
    refine zx_iload_n (pc := 4) G 1 rfl rfl (z_dec T_X0_horseIn_ok 2 (4, .iload_n 1, 1) rfl) ?_
    refine zx_iconst (pc := 5) (v := 3) G (z_dec T_X0_horseIn_ok 3 (5, .iconst 3, 1) rfl) rfl ?_
    refine zx_icmp_ge (pc := 6) (tgt := 18) G rfl (z_dec T_X0_horseIn_ok 4 (6, .if_icmp .ge 12, 3) rfl) (fun hc => ?_) (fun hc => ?_)
    · replace h := z_pos hc h
      refine zx_iconst (pc := 18) (v := -1) G (z_dec T_X0_horseIn_ok 10 (18, .iconst (-1), 1) rfl) rfl ?_
      exact zx_iret (pc := 19) G hr hlk (Nat.le_refl _) (Nat.le_refl _) (z_dec T_X0_horseIn_ok 11 (19, .ireturn, 1) rfl) ⟨rfl, _, rfl, h⟩
    · replace h := z_neg hc h
      refine zx_aload_n (pc := 9) G (some (o)) 0 rfl rfl (z_dec T_X0_horseIn_ok 5 (9, .aload_n 0, 1) rfl) ?_
      refine zx_getF (pc := 10) (b := o + 1) G gf_RX0_27 rfl h_o (zq_0_5 hI h_o) (z_dec T_X0_horseIn_ok 6 (10, .getfield 27, 3) rfl) ?_
      refine zx_iload_n (pc := 13) G 1 rfl rfl (z_dec T_X0_horseIn_ok 7 (13, .iload_n 1, 1) rfl) ?_
      obtain ⟨c1, h⟩ := h
      refine zx_iald (pc := 14) G (zk_0_5 hI h_o) c1 (z_dec T_X0_horseIn_ok 8 (14, .iaload, 1) rfl) ?_
      refine zx_goto (pc := 15) (tgt := 19) G rfl (z_dec T_X0_horseIn_ok 9 (15, .goto 4, 3) rfl) ?_
      exact zx_iret (pc := 19) G hr hlk (Nat.le_refl _) (Nat.le_refl _) (z_dec T_X0_horseIn_ok 11 (19, .ireturn, 1) rfl) ⟨rfl, _, rfl, h⟩
abbrev rm_X0_stepIn : Room := { frames := 0, cells := 0, slots := 0, locals := 0 }
set_option maxRecDepth 100000 in
set_option maxHeartbeats 4000000 in
theorem met_X0_stepIn (l : Launch) (D : va_G) (ρ : z_A) (kd : z_K) (q : z_Q) (μ : z_M) (sz : Nat) (o : Nat) (a1 : Int32) (K : Int32 → z_M → Prop) (hI : z_I kd q) (h_o : kd o = some (.inl 0)) (h : C_X0_stepIn kd q o a1 μ K) : Met l yX0_stepIn (z_ws yX0_stepIn cX0_stepIn 2 (Option.some Jvm.ClassFile.FieldType.int)) rm_X0_stepIn (z_Pc D ρ kd q μ sz [.ref (o), .int (a1)]) (z_Qn D (z_Rg ρ sz) ρ kd (z_Ki q K)) 0 0 (z_Rg ρ sz) := by
  refine z_met (rm := rm_X0_stepIn) (by decide) (Nat.le_of_ble_eq_true rfl) (fun p e s m args below meth c G hr hlk => ?_)
  unfold C_X0_stepIn at h
  show z_X _ _ _ _ _ _ _ _ _ _ _ _ _ _ _ _ _ _ _ _ _ [(0, .ref (o)), (1, .int (a1))] _
  refine zx_iload_n (pc := 0) G 1 rfl rfl (z_dec T_X0_stepIn_ok 0 (0, .iload_n 1, 1) rfl) ?_
  refine zx_if_lt (pc := 1) (tgt := 18) G rfl (z_dec T_X0_stepIn_ok 1 (1, .ifCond .lt 17, 3) rfl) (fun hc => ?_) (fun hc => ?_)
  · replace h := z_pos hc h
    refine zx_iconst (pc := 18) (v := -1) G (z_dec T_X0_stepIn_ok 10 (18, .iconst (-1), 1) rfl) rfl ?_
    exact zx_iret (pc := 19) G hr hlk (Nat.le_refl _) (Nat.le_refl _) (z_dec T_X0_stepIn_ok 11 (19, .ireturn, 1) rfl) ⟨rfl, _, rfl, h⟩
  · replace h := z_neg hc h
    refine zx_iload_n (pc := 4) G 1 rfl rfl (z_dec T_X0_stepIn_ok 2 (4, .iload_n 1, 1) rfl) ?_
    refine zx_iconst (pc := 5) (v := 3) G (z_dec T_X0_stepIn_ok 3 (5, .iconst 3, 1) rfl) rfl ?_
    refine zx_icmp_ge (pc := 6) (tgt := 18) G rfl (z_dec T_X0_stepIn_ok 4 (6, .if_icmp .ge 12, 3) rfl) (fun hc => ?_) (fun hc => ?_)
    · replace h := z_pos hc h
      refine zx_iconst (pc := 18) (v := -1) G (z_dec T_X0_stepIn_ok 10 (18, .iconst (-1), 1) rfl) rfl ?_
      exact zx_iret (pc := 19) G hr hlk (Nat.le_refl _) (Nat.le_refl _) (z_dec T_X0_stepIn_ok 11 (19, .ireturn, 1) rfl) ⟨rfl, _, rfl, h⟩
    · replace h := z_neg hc h
      refine zx_aload_n (pc := 9) G (some (o)) 0 rfl rfl (z_dec T_X0_stepIn_ok 5 (9, .aload_n 0, 1) rfl) ?_
      refine zx_getF (pc := 10) (b := o + 2) G gf_RX0_31 rfl h_o (zq_0_6 hI h_o) (z_dec T_X0_stepIn_ok 6 (10, .getfield 31, 3) rfl) ?_
      refine zx_iload_n (pc := 13) G 1 rfl rfl (z_dec T_X0_stepIn_ok 7 (13, .iload_n 1, 1) rfl) ?_
      obtain ⟨c1, h⟩ := h
      refine zx_iald (pc := 14) G (zk_0_6 hI h_o) c1 (z_dec T_X0_stepIn_ok 8 (14, .iaload, 1) rfl) ?_
      refine zx_goto (pc := 15) (tgt := 19) G rfl (z_dec T_X0_stepIn_ok 9 (15, .goto 4, 3) rfl) ?_
      exact zx_iret (pc := 19) G hr hlk (Nat.le_refl _) (Nat.le_refl _) (z_dec T_X0_stepIn_ok 11 (19, .ireturn, 1) rfl) ⟨rfl, _, rfl, h⟩
abbrev rm_X0_isToWin : Room := { frames := 0, cells := 0, slots := 0, locals := 0 }
set_option maxRecDepth 100000 in
set_option maxHeartbeats 4000000 in
theorem met_X0_isToWin (l : Launch) (D : va_G) (ρ : z_A) (kd : z_K) (q : z_Q) (μ : z_M) (sz : Nat) (o : Nat) (K : Int32 → z_M → Prop) (hI : z_I kd q) (h_o : kd o = some (.inl 0)) (h : C_X0_isToWin kd q o μ K) : Met l yX0_isToWin (z_ws yX0_isToWin cX0_isToWin 1 (Option.some Jvm.ClassFile.FieldType.boolean)) rm_X0_isToWin (z_Pc D ρ kd q μ sz [.ref (o)]) (z_Qn D (z_Rg ρ sz) ρ kd (z_Kz q K)) 0 0 (z_Rg ρ sz) := by
  refine z_met (rm := rm_X0_isToWin) (by decide) (Nat.le_of_ble_eq_true rfl) (fun p e s m args below meth c G hr hlk => ?_)
  unfold C_X0_isToWin at h
  show z_X _ _ _ _ _ _ _ _ _ _ _ _ _ _ _ _ _ _ _ _ _ [(0, .ref (o))] _
  refine zx_aload_n (pc := 0) G (some (o)) 0 rfl rfl (z_dec T_X0_isToWin_ok 0 (0, .aload_n 0, 1) rfl) ?_
  refine zx_getI (pc := 1) G gf_RX0_18 rfl h_o (z_dec T_X0_isToWin_ok 1 (1, .getfield 18, 3) rfl) ?_
  refine zx_if_eq (pc := 4) (tgt := 15) G rfl (z_dec T_X0_isToWin_ok 2 (4, .ifCond .eq 11, 3) rfl) (fun hc => ?_) (fun hc => ?_)
  · replace h := z_pos hc h
    refine zx_iconst (pc := 15) (v := 1) G (z_dec T_X0_isToWin_ok 7 (15, .iconst 1, 1) rfl) rfl ?_
    refine zx_goto (pc := 16) (tgt := 20) G rfl (z_dec T_X0_isToWin_ok 8 (16, .goto 4, 3) rfl) ?_
    exact zx_zret (pc := 20) G hr hlk (Nat.le_refl _) (Nat.le_refl _) (Or.inr rfl) (z_dec T_X0_isToWin_ok 10 (20, .ireturn, 1) rfl) ⟨rfl, _, rfl, (Or.inr rfl), h⟩
  · replace h := z_neg hc h
    refine zx_aload_n (pc := 7) G (some (o)) 0 rfl rfl (z_dec T_X0_isToWin_ok 3 (7, .aload_n 0, 1) rfl) ?_
    refine zx_getI (pc := 8) G gf_RX0_18 rfl h_o (z_dec T_X0_isToWin_ok 4 (8, .getfield 18, 3) rfl) ?_
    refine zx_iconst (pc := 11) (v := 2) G (z_dec T_X0_isToWin_ok 5 (11, .iconst 2, 1) rfl) rfl ?_
    refine zx_icmp_ne (pc := 12) (tgt := 19) G rfl (z_dec T_X0_isToWin_ok 6 (12, .if_icmp .ne 7, 3) rfl) (fun hc => ?_) (fun hc => ?_)
    · replace h := z_neg hc h
      refine zx_iconst (pc := 19) (v := 0) G (z_dec T_X0_isToWin_ok 9 (19, .iconst 0, 1) rfl) rfl ?_
      exact zx_zret (pc := 20) G hr hlk (Nat.le_refl _) (Nat.le_refl _) (Or.inl rfl) (z_dec T_X0_isToWin_ok 10 (20, .ireturn, 1) rfl) ⟨rfl, _, rfl, (Or.inl rfl), h⟩
    · replace h := z_pos hc h
      refine zx_iconst (pc := 15) (v := 1) G (z_dec T_X0_isToWin_ok 7 (15, .iconst 1, 1) rfl) rfl ?_
      refine zx_goto (pc := 16) (tgt := 20) G rfl (z_dec T_X0_isToWin_ok 8 (16, .goto 4, 3) rfl) ?_
      exact zx_zret (pc := 20) G hr hlk (Nat.le_refl _) (Nat.le_refl _) (Or.inr rfl) (z_dec T_X0_isToWin_ok 10 (20, .ireturn, 1) rfl) ⟨rfl, _, rfl, (Or.inr rfl), h⟩
abbrev rm_X0_isNear : Room := { frames := 1, cells := 0, slots := 0, locals := 21 }
set_option maxRecDepth 100000 in
set_option maxHeartbeats 4000000 in
theorem met_X0_isNear (l : Launch) (D : va_G) (ρ : z_A) (kd : z_K) (q : z_Q) (μ : z_M) (sz : Nat) (o : Nat) (a1 : Option Nat) (a2 : Int32) (K : Int32 → z_M → Prop) (hI : z_I kd q) (h_o : kd o = some (.inl 0)) (h_a1 : ∀ a, a1 = some a → kd a = some (.inl 0)) (h : C_X0_isNear kd q o a1 a2 μ K) : Met l yX0_isNear (z_ws yX0_isNear cX0_isNear 3 (Option.some Jvm.ClassFile.FieldType.boolean)) rm_X0_isNear (z_Pc D ρ kd q μ sz [.ref (o), va_rf (a1), .int (a2)]) (z_Qn D (z_Rg ρ sz) ρ kd (z_Kz q K)) 0 0 (z_Rg ρ sz) := by
  refine z_met (rm := rm_X0_isNear) (by decide) (by cases a1 <;> exact Nat.le_of_ble_eq_true rfl) (fun p e s m args below meth c G hr hlk => ?_)
  unfold C_X0_isNear at h
  rw [show lv_args 0 [.ref (o), va_rf (a1), .int (a2)] = [(0, .ref (o)), (1, va_rf (a1)), (2, .int (a2))] from by cases a1 <;> rfl]
  refine zx_aload_n (pc := 0) G (some (o)) 0 rfl rfl (z_dec T_X0_isNear_ok 0 (0, .aload_n 0, 1) rfl) ?_
  refine zx_callV_zN (pc := 1) (rm := rm_X0_isToWin) G cw_RX0_37 ⟨Nat.le_of_ble_eq_true rfl, Nat.le_of_ble_eq_true rfl⟩ rfl rfl ⟨Nat.zero_le _, Nat.zero_le _⟩ h_o rfl (fun sz => (met_X0_isToWin l D ρ kd q μ sz o _ hI h_o h)) rfl rfl (Nat.le_of_ble_eq_true rfl) (z_dec T_X0_isNear_ok 1 (1, .invokevirtual 37, 3) rfl) (fun r2 μ1 hzr2 hn => ?_)
  clear h
  have h := hn
  clear hn
  refine zx_if_eq (pc := 4) (tgt := 44) G rfl (z_dec T_X0_isNear_ok 2 (4, .ifCond .eq 40, 3) rfl) (fun hc => ?_) (fun hc => ?_)
  · replace h := z_pos hc h
    refine zx_iconst (pc := 44) (v := 0) G (z_dec T_X0_isNear_ok 20 (44, .iconst 0, 1) rfl) rfl ?_
    exact zx_zret (pc := 45) G hr hlk (Nat.le_refl _) (Nat.le_refl _) (Or.inl rfl) (z_dec T_X0_isNear_ok 21 (45, .ireturn, 1) rfl) ⟨rfl, _, rfl, (Or.inl rfl), h⟩
  · replace h := z_neg hc h
    refine zx_aload_n (pc := 7) G (a1) 1 rfl rfl (z_dec T_X0_isNear_ok 3 (7, .aload_n 1, 1) rfl) ?_
    obtain ⟨o3, rfl, h⟩ := h
    refine zx_callV_zN (pc := 8) (rm := rm_X0_isToWin) G cw_RX0_37 ⟨Nat.le_of_ble_eq_true rfl, Nat.le_of_ble_eq_true rfl⟩ rfl rfl ⟨Nat.zero_le _, Nat.zero_le _⟩ (h_a1 o3 rfl) rfl (fun sz => (met_X0_isToWin l D ρ kd q μ1 sz o3 _ hI (h_a1 o3 rfl) h)) rfl rfl (Nat.le_of_ble_eq_true rfl) (z_dec T_X0_isNear_ok 4 (8, .invokevirtual 37, 3) rfl) (fun r5 μ4 hzr5 hn => ?_)
    clear h
    have h := hn
    clear hn
    refine zx_if_eq (pc := 11) (tgt := 44) G rfl (z_dec T_X0_isNear_ok 5 (11, .ifCond .eq 33, 3) rfl) (fun hc => ?_) (fun hc => ?_)
    · replace h := z_pos hc h
      refine zx_iconst (pc := 44) (v := 0) G (z_dec T_X0_isNear_ok 20 (44, .iconst 0, 1) rfl) rfl ?_
      exact zx_zret (pc := 45) G hr hlk (Nat.le_refl _) (Nat.le_refl _) (Or.inl rfl) (z_dec T_X0_isNear_ok 21 (45, .ireturn, 1) rfl) ⟨rfl, _, rfl, (Or.inl rfl), h⟩
    · replace h := z_neg hc h
      refine zx_aload_n (pc := 14) G (some (o)) 0 rfl rfl (z_dec T_X0_isNear_ok 6 (14, .aload_n 0, 1) rfl) ?_
      refine zx_getI (pc := 15) G gf_RX0_34 rfl h_o (z_dec T_X0_isNear_ok 7 (15, .getfield 34, 3) rfl) ?_
      refine zx_aload_n (pc := 18) G (some (o3)) 1 rfl rfl (z_dec T_X0_isNear_ok 8 (18, .aload_n 1, 1) rfl) ?_
      refine zx_getI (pc := 19) G gf_RX0_34 rfl (h_a1 o3 rfl) (z_dec T_X0_isNear_ok 9 (19, .getfield 34, 3) rfl) ?_
      refine zx_icmp_ne (pc := 22) (tgt := 44) G rfl (z_dec T_X0_isNear_ok 10 (22, .if_icmp .ne 22, 3) rfl) (fun hc => ?_) (fun hc => ?_)
      · replace h := z_neg hc h
        refine zx_iconst (pc := 44) (v := 0) G (z_dec T_X0_isNear_ok 20 (44, .iconst 0, 1) rfl) rfl ?_
        exact zx_zret (pc := 45) G hr hlk (Nat.le_refl _) (Nat.le_refl _) (Or.inl rfl) (z_dec T_X0_isNear_ok 21 (45, .ireturn, 1) rfl) ⟨rfl, _, rfl, (Or.inl rfl), h⟩
      · replace h := z_pos hc h
        refine zx_aload_n (pc := 25) G (some (o)) 0 rfl rfl (z_dec T_X0_isNear_ok 11 (25, .aload_n 0, 1) rfl) ?_
        refine zx_aload_n (pc := 26) G (some (o)) 0 rfl rfl (z_dec T_X0_isNear_ok 12 (26, .aload_n 0, 1) rfl) ?_
        refine zx_getI (pc := 27) G gf_RX0_34 rfl h_o (z_dec T_X0_isNear_ok 13 (27, .getfield 34, 3) rfl) ?_
        refine zx_callV_iN (pc := 30) (rm := rm_X0_horseIn) G cw_RX0_41 ⟨Nat.le_of_ble_eq_true rfl, Nat.le_of_ble_eq_true rfl⟩ rfl rfl ⟨Nat.zero_le _, Nat.zero_le _⟩ h_o rfl (fun sz => (met_X0_horseIn l D ρ kd q μ4 sz o (μ4.1 o 7) _ hI h_o h)) rfl rfl (Nat.le_of_ble_eq_true rfl) (z_dec T_X0_isNear_ok 14 (30, .invokevirtual 41, 3) rfl) (fun r7 μ6 hn => ?_)
        clear h
        have h := hn
        clear hn
        refine zx_aload_n (pc := 33) G (some (o3)) 1 rfl rfl (z_dec T_X0_isNear_ok 15 (33, .aload_n 1, 1) rfl) ?_
        refine zx_aload_n (pc := 34) G (some (o)) 0 rfl rfl (z_dec T_X0_isNear_ok 16 (34, .aload_n 0, 1) rfl) ?_
        refine zx_getI (pc := 35) G gf_RX0_34 rfl h_o (z_dec T_X0_isNear_ok 17 (35, .getfield 34, 3) rfl) ?_
        refine zx_callV_iN (pc := 38) (rm := rm_X0_horseIn) G cw_RX0_41 ⟨Nat.le_of_ble_eq_true rfl, Nat.le_of_ble_eq_true rfl⟩ rfl rfl ⟨Nat.zero_le _, Nat.zero_le _⟩ (h_a1 o3 rfl) rfl (fun sz => (met_X0_horseIn l D ρ kd q μ6 sz o3 (μ6.1 o 7) _ hI (h_a1 o3 rfl) h)) rfl rfl (Nat.le_of_ble_eq_true rfl) (z_dec T_X0_isNear_ok 18 (38, .invokevirtual 41, 3) rfl) (fun r9 μ8 hn => ?_)
        clear h
        have h := hn
        clear hn
        refine zx_icmp_eq (pc := 41) (tgt := 46) G rfl (z_dec T_X0_isNear_ok 19 (41, .if_icmp .eq 5, 3) rfl) (fun hc => ?_) (fun hc => ?_)
        · replace h := z_pos hc h
          refine zx_aload_n (pc := 46) G (some (o)) 0 rfl rfl (z_dec T_X0_isNear_ok 22 (46, .aload_n 0, 1) rfl) ?_
          refine zx_getI (pc := 47) G gf_RX0_24 rfl h_o (z_dec T_X0_isNear_ok 23 (47, .getfield 24, 3) rfl) ?_
          refine zx_aload_n (pc := 50) G (some (o3)) 1 rfl rfl (z_dec T_X0_isNear_ok 24 (50, .aload_n 1, 1) rfl) ?_
          refine zx_getI (pc := 51) G gf_RX0_24 rfl (h_a1 o3 rfl) (z_dec T_X0_isNear_ok 25 (51, .getfield 24, 3) rfl) ?_
          refine zx_isub (pc := 54) G  (z_dec T_X0_isNear_ok 26 (54, .isub, 1) rfl) ?_
          refine zx_mabs (pc := 55) G wm_RX0_45 ⟨Nat.le_of_ble_eq_true rfl, Nat.le_of_ble_eq_true rfl, Nat.zero_le _, Nat.zero_le _⟩ (z_dec T_X0_isNear_ok 27 (55, .invokestatic 45, 3) rfl) ?_
          refine zx_iload_n (pc := 58) G 2 rfl rfl (z_dec T_X0_isNear_ok 28 (58, .iload_n 2, 1) rfl) ?_
          refine zx_icmp_gt (pc := 59) (tgt := 66) G rfl (z_dec T_X0_isNear_ok 29 (59, .if_icmp .gt 7, 3) rfl) (fun hc => ?_) (fun hc => ?_)
          · replace h := z_pos hc h
            refine zx_iconst (pc := 66) (v := 0) G (z_dec T_X0_isNear_ok 32 (66, .iconst 0, 1) rfl) rfl ?_
            exact zx_zret (pc := 67) G hr hlk (Nat.le_refl _) (Nat.le_refl _) (Or.inl rfl) (z_dec T_X0_isNear_ok 33 (67, .ireturn, 1) rfl) ⟨rfl, _, rfl, (Or.inl rfl), h⟩
          · replace h := z_neg hc h
            refine zx_iconst (pc := 62) (v := 1) G (z_dec T_X0_isNear_ok 30 (62, .iconst 1, 1) rfl) rfl ?_
            refine zx_goto (pc := 63) (tgt := 67) G rfl (z_dec T_X0_isNear_ok 31 (63, .goto 4, 3) rfl) ?_
            exact zx_zret (pc := 67) G hr hlk (Nat.le_refl _) (Nat.le_refl _) (Or.inr rfl) (z_dec T_X0_isNear_ok 33 (67, .ireturn, 1) rfl) ⟨rfl, _, rfl, (Or.inr rfl), h⟩
        · replace h := z_neg hc h
          refine zx_iconst (pc := 44) (v := 0) G (z_dec T_X0_isNear_ok 20 (44, .iconst 0, 1) rfl) rfl ?_
          exact zx_zret (pc := 45) G hr hlk (Nat.le_refl _) (Nat.le_refl _) (Or.inl rfl) (z_dec T_X0_isNear_ok 21 (45, .ireturn, 1) rfl) ⟨rfl, _, rfl, (Or.inl rfl), h⟩
abbrev rm_X1_tell : Room := { frames := 1, cells := 0, slots := 0, locals := 26 }
set_option maxRecDepth 100000 in
set_option maxHeartbeats 4000000 in
theorem met_X1_tell (l : Launch) (D : va_G) (ρ : z_A) (kd : z_K) (q : z_Q) (μ : z_M) (sz : Nat) (o : Nat) (a1 : Option Nat) (a2 : Int32) (a3 : Int32) (K : z_M → Prop) (hI : z_I kd q) (h_o : kd o = some (.inl 1)) (h_a1 : ∀ a, a1 = some a → kd a = some (.inr (0, z_len kd a))) (h : C_X1_tell kd q o a1 a2 a3 μ K) : Met l yX1_tell (z_ws yX1_tell cX1_tell 4 (Option.none : Option Jvm.ClassFile.FieldType)) rm_X1_tell (z_Pc D ρ kd q μ sz [.ref (o), va_rf (a1), .int (a2), .int (a3)]) (z_Qn D (z_Rg ρ sz) ρ kd (z_Kv q K)) 0 0 (z_Rg ρ sz) := by
  refine z_met (rm := rm_X1_tell) (by decide) (by cases a1 <;> exact Nat.le_of_ble_eq_true rfl) (fun p e s m args below meth c G hr hlk => ?_)
  unfold C_X1_tell at h
  rw [show lv_args 0 [.ref (o), va_rf (a1), .int (a2), .int (a3)] = [(0, .ref (o)), (1, va_rf (a1)), (2, .int (a2)), (3, .int (a3))] from by cases a1 <;> rfl]
  refine zx_aload_n (pc := 0) G (a1) 1 rfl rfl (z_dec T_X1_tell_ok 0 (0, .aload_n 1, 1) rfl) ?_
  obtain ⟨h1, h2⟩ := h
  rcases a1 with _ | o1
  · replace h := h1 rfl
    refine zx_ifnullN (pc := 1) (tgt := 21) G rfl (z_dec T_X1_tell_ok 1 (1, .ifnull 20, 3) rfl) ?_
    exact zx_vret (pc := 21) G hr hlk (Nat.le_refl _) (Nat.le_refl _) (z_dec T_X1_tell_ok 11 (21, .return_, 1) rfl) ⟨rfl, rfl, h⟩
  · replace h := h2 o1 rfl
    refine zx_ifnullS (pc := 1) G (h_a1 o1 rfl) (z_dec T_X1_tell_ok 1 (1, .ifnull 20, 3) rfl) ?_
    refine zx_iload_n (pc := 4) G 2 rfl rfl (z_dec T_X1_tell_ok 2 (4, .iload_n 2, 1) rfl) ?_
    refine zx_if_lt (pc := 5) (tgt := 21) G rfl (z_dec T_X1_tell_ok 3 (5, .ifCond .lt 16, 3) rfl) (fun hc => ?_) (fun hc => ?_)
    · replace h := z_pos hc h
      exact zx_vret (pc := 21) G hr hlk (Nat.le_refl _) (Nat.le_refl _) (z_dec T_X1_tell_ok 11 (21, .return_, 1) rfl) ⟨rfl, rfl, h⟩
    · replace h := z_neg hc h
      refine zx_iload_n (pc := 8) G 2 rfl rfl (z_dec T_X1_tell_ok 4 (8, .iload_n 2, 1) rfl) ?_
      refine zx_sipush (pc := 9) (v := 160) G (z_dec T_X1_tell_ok 5 (9, .sipush 160, 3) rfl) rfl ?_
      refine zx_icmp_gt (pc := 12) (tgt := 21) G rfl (z_dec T_X1_tell_ok 6 (12, .if_icmp .gt 9, 3) rfl) (fun hc => ?_) (fun hc => ?_)
      · replace h := z_pos hc h
        exact zx_vret (pc := 21) G hr hlk (Nat.le_refl _) (Nat.le_refl _) (z_dec T_X1_tell_ok 11 (21, .return_, 1) rfl) ⟨rfl, rfl, h⟩
      · replace h := z_neg hc h
        refine zx_iload_n (pc := 15) G 2 rfl rfl (z_dec T_X1_tell_ok 7 (15, .iload_n 2, 1) rfl) ?_
        refine zx_aload_n (pc := 16) G (some (o1)) 1 rfl rfl (z_dec T_X1_tell_ok 8 (16, .aload_n 1, 1) rfl) ?_
        refine zx_alen (pc := 17) G (h_a1 o1 rfl) (z_dec T_X1_tell_ok 9 (17, .arraylength, 1) rfl) ?_
        refine zx_icmp_le (pc := 18) (tgt := 22) G rfl (z_dec T_X1_tell_ok 10 (18, .if_icmp .le 4, 3) rfl) (fun hc => ?_) (fun hc => ?_)
        · replace h := z_pos hc h
          refine zx_aload_n (pc := 22) G (some (o1)) 1 rfl rfl (z_dec T_X1_tell_ok 12 (22, .aload_n 1, 1) rfl) ?_
          refine zx_iconst (pc := 23) (v := 0) G (z_dec T_X1_tell_ok 13 (23, .iconst 0, 1) rfl) rfl ?_
          refine zx_aload_n (pc := 24) G (some (o)) 0 rfl rfl (z_dec T_X1_tell_ok 14 (24, .aload_n 0, 1) rfl) ?_
          refine zx_getF (pc := 25) (b := o + 7) G gf_RX1_34 rfl h_o (zq_1_9 hI h_o) (z_dec T_X1_tell_ok 15 (25, .getfield 34, 3) rfl) ?_
          refine zx_iconst (pc := 28) (v := 0) G (z_dec T_X1_tell_ok 16 (28, .iconst 0, 1) rfl) rfl ?_
          refine zx_iload_n (pc := 29) G 2 rfl rfl (z_dec T_X1_tell_ok 17 (29, .iload_n 2, 1) rfl) ?_
          obtain ⟨c2, h⟩ := h
          obtain ⟨c3, h⟩ := h
          obtain ⟨c4, h⟩ := h
          obtain ⟨c5, h⟩ := h
          refine zx_copy (pc := 30) G wc_RX1_37 ⟨Nat.le_of_ble_eq_true rfl, Nat.le_of_ble_eq_true rfl⟩ (h_a1 o1 rfl) (zk_1_9 hI h_o) c2 c2 c3 c4 c5 (z_dec T_X1_tell_ok 18 (30, .invokestatic 37, 3) rfl) ?_
          refine zx_aload_n (pc := 33) G (some (o)) 0 rfl rfl (z_dec T_X1_tell_ok 19 (33, .aload_n 0, 1) rfl) ?_
          refine zx_iload_n (pc := 34) G 2 rfl rfl (z_dec T_X1_tell_ok 20 (34, .iload_n 2, 1) rfl) ?_
          refine zx_putI (pc := 35) G gf_RX1_43 cf_1 rfl rfl h_o (z_dec T_X1_tell_ok 21 (35, .putfield 43, 3) rfl) ?_
          refine zx_aload_n (pc := 38) G (some (o)) 0 rfl rfl (z_dec T_X1_tell_ok 22 (38, .aload_n 0, 1) rfl) ?_
          refine zx_iload_n (pc := 39) G 3 rfl rfl (z_dec T_X1_tell_ok 23 (39, .iload_n 3, 1) rfl) ?_
          refine zx_putI (pc := 40) G gf_RX1_46 cf_1 rfl rfl h_o (z_dec T_X1_tell_ok 24 (40, .putfield 46, 3) rfl) ?_
          exact zx_vret (pc := 43) G hr hlk (Nat.le_refl _) (Nat.le_refl _) (z_dec T_X1_tell_ok 25 (43, .return_, 1) rfl) ⟨rfl, rfl, h⟩
        · replace h := z_neg hc h
          exact zx_vret (pc := 21) G hr hlk (Nat.le_refl _) (Nat.le_refl _) (z_dec T_X1_tell_ok 11 (21, .return_, 1) rfl) ⟨rfl, rfl, h⟩
abbrev rm_X1_rides : Room := { frames := 0, cells := 0, slots := 0, locals := 0 }
set_option maxRecDepth 100000 in
set_option maxHeartbeats 4000000 in
theorem met_X1_rides (l : Launch) (D : va_G) (ρ : z_A) (kd : z_K) (q : z_Q) (μ : z_M) (sz : Nat) (o : Nat) (a1 : Int32) (a2 : Int32) (K : z_M → Prop) (hI : z_I kd q) (h_o : kd o = some (.inl 1)) (h : C_X1_rides kd q o a1 a2 μ K) : Met l yX1_rides (z_ws yX1_rides cX1_rides 3 (Option.none : Option Jvm.ClassFile.FieldType)) rm_X1_rides (z_Pc D ρ kd q μ sz [.ref (o), .int (a1), .int (a2)]) (z_Qn D (z_Rg ρ sz) ρ kd (z_Kv q K)) 0 0 (z_Rg ρ sz) := by
  refine z_met (rm := rm_X1_rides) (by decide) (Nat.le_of_ble_eq_true rfl) (fun p e s m args below meth c G hr hlk => ?_)
  unfold C_X1_rides at h
  show z_X _ _ _ _ _ _ _ _ _ _ _ _ _ _ _ _ _ _ _ _ _ [(0, .ref (o)), (1, .int (a1)), (2, .int (a2))] _
  refine zx_iload_n (pc := 0) G 1 rfl rfl (z_dec T_X1_rides_ok 0 (0, .iload_n 1, 1) rfl) ?_
  refine zx_if_lt (pc := 1) (tgt := 20) G rfl (z_dec T_X1_rides_ok 1 (1, .ifCond .lt 19, 3) rfl) (fun hc => ?_) (fun hc => ?_)
  · replace h := z_pos hc h
    exact zx_vret (pc := 20) G hr hlk (Nat.le_refl _) (Nat.le_refl _) (z_dec T_X1_rides_ok 13 (20, .return_, 1) rfl) ⟨rfl, rfl, h⟩
  · replace h := z_neg hc h
    refine zx_iload_n (pc := 4) G 1 rfl rfl (z_dec T_X1_rides_ok 2 (4, .iload_n 1, 1) rfl) ?_
    refine zx_bipush (pc := 5) (v := 24) G (z_dec T_X1_rides_ok 3 (5, .bipush 24, 2) rfl) rfl ?_
    refine zx_icmp_ge (pc := 7) (tgt := 20) G rfl (z_dec T_X1_rides_ok 4 (7, .if_icmp .ge 13, 3) rfl) (fun hc => ?_) (fun hc => ?_)
    · replace h := z_pos hc h
      exact zx_vret (pc := 20) G hr hlk (Nat.le_refl _) (Nat.le_refl _) (z_dec T_X1_rides_ok 13 (20, .return_, 1) rfl) ⟨rfl, rfl, h⟩
    · replace h := z_neg hc h
      refine zx_aload_n (pc := 10) G (some (o)) 0 rfl rfl (z_dec T_X1_rides_ok 5 (10, .aload_n 0, 1) rfl) ?_
      refine zx_getF (pc := 11) (b := o + 6) G gf_RX1_31 rfl h_o (zq_1_8 hI h_o) (z_dec T_X1_rides_ok 6 (11, .getfield 31, 3) rfl) ?_
      refine zx_iload_n (pc := 14) G 1 rfl rfl (z_dec T_X1_rides_ok 7 (14, .iload_n 1, 1) rfl) ?_
      refine zx_dup2 (pc := 15) G rfl rfl (z_dec T_X1_rides_ok 8 (15, .dup2, 1) rfl) ?_
      obtain ⟨c1, h⟩ := h
      refine zx_iald (pc := 16) G (zk_1_8 hI h_o) c1 (z_dec T_X1_rides_ok 9 (16, .iaload, 1) rfl) ?_
      refine zx_iload_n (pc := 17) G 2 rfl rfl (z_dec T_X1_rides_ok 10 (17, .iload_n 2, 1) rfl) ?_
      refine zx_iadd (pc := 18) G  (z_dec T_X1_rides_ok 11 (18, .iadd, 1) rfl) ?_
      refine zx_iast (pc := 19) G (zk_1_8 hI h_o) c1 (z_dec T_X1_rides_ok 12 (19, .iastore, 1) rfl) ?_
      exact zx_vret (pc := 20) G hr hlk (Nat.le_refl _) (Nat.le_refl _) (z_dec T_X1_rides_ok 13 (20, .return_, 1) rfl) ⟨rfl, rfl, h⟩
abbrev rm_X1_owes : Room := { frames := 0, cells := 0, slots := 0, locals := 0 }
set_option maxRecDepth 100000 in
set_option maxHeartbeats 4000000 in
theorem met_X1_owes (l : Launch) (D : va_G) (ρ : z_A) (kd : z_K) (q : z_Q) (μ : z_M) (sz : Nat) (o : Nat) (a1 : Int32) (a2 : Int32) (a3 : Int32) (K : z_M → Prop) (hI : z_I kd q) (h_o : kd o = some (.inl 1)) (h : C_X1_owes kd q o a1 a2 a3 μ K) : Met l yX1_owes (z_ws yX1_owes cX1_owes 4 (Option.none : Option Jvm.ClassFile.FieldType)) rm_X1_owes (z_Pc D ρ kd q μ sz [.ref (o), .int (a1), .int (a2), .int (a3)]) (z_Qn D (z_Rg ρ sz) ρ kd (z_Kv q K)) 0 0 (z_Rg ρ sz) := by
  refine z_met (rm := rm_X1_owes) (by decide) (Nat.le_of_ble_eq_true rfl) (fun p e s m args below meth c G hr hlk => ?_)
  unfold C_X1_owes at h
  show z_X _ _ _ _ _ _ _ _ _ _ _ _ _ _ _ _ _ _ _ _ _ [(0, .ref (o)), (1, .int (a1)), (2, .int (a2)), (3, .int (a3))] _
  refine zx_iload_n (pc := 0) G 1 rfl rfl (z_dec T_X1_owes_ok 0 (0, .iload_n 1, 1) rfl) ?_
  refine zx_if_lt (pc := 1) (tgt := 45) G rfl (z_dec T_X1_owes_ok 1 (1, .ifCond .lt 44, 3) rfl) (fun hc => ?_) (fun hc => ?_)
  · replace h := z_pos hc h
    exact zx_vret (pc := 45) G hr hlk (Nat.le_refl _) (Nat.le_refl _) (z_dec T_X1_owes_ok 33 (45, .return_, 1) rfl) ⟨rfl, rfl, h⟩
  · replace h := z_neg hc h
    refine zx_iload_n (pc := 4) G 1 rfl rfl (z_dec T_X1_owes_ok 2 (4, .iload_n 1, 1) rfl) ?_
    refine zx_bipush (pc := 5) (v := 24) G (z_dec T_X1_owes_ok 3 (5, .bipush 24, 2) rfl) rfl ?_
    refine zx_icmp_ge (pc := 7) (tgt := 45) G rfl (z_dec T_X1_owes_ok 4 (7, .if_icmp .ge 38, 3) rfl) (fun hc => ?_) (fun hc => ?_)
    · replace h := z_pos hc h
      exact zx_vret (pc := 45) G hr hlk (Nat.le_refl _) (Nat.le_refl _) (z_dec T_X1_owes_ok 33 (45, .return_, 1) rfl) ⟨rfl, rfl, h⟩
    · replace h := z_neg hc h
      refine zx_aload_n (pc := 10) G (some (o)) 0 rfl rfl (z_dec T_X1_owes_ok 5 (10, .aload_n 0, 1) rfl) ?_
      refine zx_getF (pc := 11) (b := o + 3) G gf_RX1_22 rfl h_o (zq_1_5 hI h_o) (z_dec T_X1_owes_ok 6 (11, .getfield 22, 3) rfl) ?_
      refine zx_iload_n (pc := 14) G 1 rfl rfl (z_dec T_X1_owes_ok 7 (14, .iload_n 1, 1) rfl) ?_
      refine zx_dup2 (pc := 15) G rfl rfl (z_dec T_X1_owes_ok 8 (15, .dup2, 1) rfl) ?_
      obtain ⟨c1, h⟩ := h
      refine zx_iald (pc := 16) G (zk_1_5 hI h_o) c1 (z_dec T_X1_owes_ok 9 (16, .iaload, 1) rfl) ?_
      refine zx_iload_n (pc := 17) G 2 rfl rfl (z_dec T_X1_owes_ok 10 (17, .iload_n 2, 1) rfl) ?_
      refine zx_iadd (pc := 18) G  (z_dec T_X1_owes_ok 11 (18, .iadd, 1) rfl) ?_
      refine zx_iast (pc := 19) G (zk_1_5 hI h_o) c1 (z_dec T_X1_owes_ok 12 (19, .iastore, 1) rfl) ?_
      refine zx_aload_n (pc := 20) G (some (o)) 0 rfl rfl (z_dec T_X1_owes_ok 13 (20, .aload_n 0, 1) rfl) ?_
      refine zx_getF (pc := 21) (b := o + 4) G gf_RX1_25 rfl h_o (zq_1_6 hI h_o) (z_dec T_X1_owes_ok 14 (21, .getfield 25, 3) rfl) ?_
      refine zx_iload_n (pc := 24) G 1 rfl rfl (z_dec T_X1_owes_ok 15 (24, .iload_n 1, 1) rfl) ?_
      refine zx_bipush (pc := 25) (v := 8) G (z_dec T_X1_owes_ok 16 (25, .bipush 8, 2) rfl) rfl ?_
      refine zx_idiv (pc := 27) G (by decide) (z_dec T_X1_owes_ok 17 (27, .idiv, 1) rfl) ?_
      refine zx_dup2 (pc := 28) G rfl rfl (z_dec T_X1_owes_ok 18 (28, .dup2, 1) rfl) ?_
      obtain ⟨c2, h⟩ := h
      refine zx_iald (pc := 29) G (zk_1_6 hI h_o) c2 (z_dec T_X1_owes_ok 19 (29, .iaload, 1) rfl) ?_
      refine zx_iload_n (pc := 30) G 2 rfl rfl (z_dec T_X1_owes_ok 20 (30, .iload_n 2, 1) rfl) ?_
      refine zx_iadd (pc := 31) G  (z_dec T_X1_owes_ok 21 (31, .iadd, 1) rfl) ?_
      refine zx_iast (pc := 32) G (zk_1_6 hI h_o) c2 (z_dec T_X1_owes_ok 22 (32, .iastore, 1) rfl) ?_
      refine zx_aload_n (pc := 33) G (some (o)) 0 rfl rfl (z_dec T_X1_owes_ok 23 (33, .aload_n 0, 1) rfl) ?_
      refine zx_getF (pc := 34) (b := o + 5) G gf_RX1_28 rfl h_o (zq_1_7 hI h_o) (z_dec T_X1_owes_ok 24 (34, .getfield 28, 3) rfl) ?_
      refine zx_iload_n (pc := 37) G 1 rfl rfl (z_dec T_X1_owes_ok 25 (37, .iload_n 1, 1) rfl) ?_
      refine zx_dup2 (pc := 38) G rfl rfl (z_dec T_X1_owes_ok 26 (38, .dup2, 1) rfl) ?_
      refine zx_iald (pc := 39) G (zk_1_7 hI h_o) c1 (z_dec T_X1_owes_ok 27 (39, .iaload, 1) rfl) ?_
      refine zx_iload_n (pc := 40) G 2 rfl rfl (z_dec T_X1_owes_ok 28 (40, .iload_n 2, 1) rfl) ?_
      refine zx_iload_n (pc := 41) G 3 rfl rfl (z_dec T_X1_owes_ok 29 (41, .iload_n 3, 1) rfl) ?_
      refine zx_iadd (pc := 42) G  (z_dec T_X1_owes_ok 30 (42, .iadd, 1) rfl) ?_
      refine zx_iadd (pc := 43) G  (z_dec T_X1_owes_ok 31 (43, .iadd, 1) rfl) ?_
      refine zx_iast (pc := 44) G (zk_1_7 hI h_o) c1 (z_dec T_X1_owes_ok 32 (44, .iastore, 1) rfl) ?_
      exact zx_vret (pc := 45) G hr hlk (Nat.le_refl _) (Nat.le_refl _) (z_dec T_X1_owes_ok 33 (45, .return_, 1) rfl) ⟨rfl, rfl, h⟩
abbrev rm_X1_lose : Room := { frames := 0, cells := 0, slots := 0, locals := 0 }
set_option maxRecDepth 100000 in
set_option maxHeartbeats 4000000 in
theorem met_X1_lose (l : Launch) (D : va_G) (ρ : z_A) (kd : z_K) (q : z_Q) (μ : z_M) (sz : Nat) (o : Nat) (a1 : Int32) (K : z_M → Prop) (hI : z_I kd q) (h_o : kd o = some (.inl 1)) (h : C_X1_lose kd q o a1 μ K) : Met l yX1_lose (z_ws yX1_lose cX1_lose 2 (Option.none : Option Jvm.ClassFile.FieldType)) rm_X1_lose (z_Pc D ρ kd q μ sz [.ref (o), .int (a1)]) (z_Qn D (z_Rg ρ sz) ρ kd (z_Kv q K)) 0 0 (z_Rg ρ sz) := by
  refine z_met (rm := rm_X1_lose) (by decide) (Nat.le_of_ble_eq_true rfl) (fun p e s m args below meth c G hr hlk => ?_)
  unfold C_X1_lose at h
  show z_X _ _ _ _ _ _ _ _ _ _ _ _ _ _ _ _ _ _ _ _ _ [(0, .ref (o)), (1, .int (a1))] _
  refine zx_iload_n (pc := 0) G 1 rfl rfl (z_dec T_X1_lose_ok 0 (0, .iload_n 1, 1) rfl) ?_
  refine zx_if_lt (pc := 1) (tgt := 61) G rfl (z_dec T_X1_lose_ok 1 (1, .ifCond .lt 60, 3) rfl) (fun hc => ?_) (fun hc => ?_)
  · replace h := z_pos hc h
    exact zx_vret (pc := 61) G hr hlk (Nat.le_refl _) (Nat.le_refl _) (z_dec T_X1_lose_ok 41 (61, .return_, 1) rfl) ⟨rfl, rfl, h⟩
  · replace h := z_neg hc h
    refine zx_iload_n (pc := 4) G 1 rfl rfl (z_dec T_X1_lose_ok 2 (4, .iload_n 1, 1) rfl) ?_
    refine zx_bipush (pc := 5) (v := 24) G (z_dec T_X1_lose_ok 3 (5, .bipush 24, 2) rfl) rfl ?_
    refine zx_icmp_ge (pc := 7) (tgt := 61) G rfl (z_dec T_X1_lose_ok 4 (7, .if_icmp .ge 54, 3) rfl) (fun hc => ?_) (fun hc => ?_)
    · replace h := z_pos hc h
      exact zx_vret (pc := 61) G hr hlk (Nat.le_refl _) (Nat.le_refl _) (z_dec T_X1_lose_ok 41 (61, .return_, 1) rfl) ⟨rfl, rfl, h⟩
    · replace h := z_neg hc h
      refine zx_aload_n (pc := 10) G (some (o)) 0 rfl rfl (z_dec T_X1_lose_ok 5 (10, .aload_n 0, 1) rfl) ?_
      refine zx_getF (pc := 11) (b := o + 2) G gf_RX1_19 rfl h_o (zq_1_4 hI h_o) (z_dec T_X1_lose_ok 6 (11, .getfield 19, 3) rfl) ?_
      refine zx_iload_n (pc := 14) G 1 rfl rfl (z_dec T_X1_lose_ok 7 (14, .iload_n 1, 1) rfl) ?_
      refine zx_aload_n (pc := 15) G (some (o)) 0 rfl rfl (z_dec T_X1_lose_ok 8 (15, .aload_n 0, 1) rfl) ?_
      refine zx_getF (pc := 16) (b := o + 1) G gf_RX1_15 rfl h_o (zq_1_3 hI h_o) (z_dec T_X1_lose_ok 9 (16, .getfield 15, 3) rfl) ?_
      refine zx_iload_n (pc := 19) G 1 rfl rfl (z_dec T_X1_lose_ok 10 (19, .iload_n 1, 1) rfl) ?_
      obtain ⟨c1, h⟩ := h
      refine zx_iald (pc := 20) G (zk_1_3 hI h_o) c1 (z_dec T_X1_lose_ok 11 (20, .iaload, 1) rfl) ?_
      refine zx_iast (pc := 21) G (zk_1_4 hI h_o) c1 (z_dec T_X1_lose_ok 12 (21, .iastore, 1) rfl) ?_
      refine zx_aload_n (pc := 22) G (some (o)) 0 rfl rfl (z_dec T_X1_lose_ok 13 (22, .aload_n 0, 1) rfl) ?_
      refine zx_getF (pc := 23) (b := o + 1) G gf_RX1_15 rfl h_o (zq_1_3 hI h_o) (z_dec T_X1_lose_ok 14 (23, .getfield 15, 3) rfl) ?_
      refine zx_iload_n (pc := 26) G 1 rfl rfl (z_dec T_X1_lose_ok 15 (26, .iload_n 1, 1) rfl) ?_
      refine zx_iconst (pc := 27) (v := -1) G (z_dec T_X1_lose_ok 16 (27, .iconst (-1), 1) rfl) rfl ?_
      refine zx_iast (pc := 28) G (zk_1_3 hI h_o) c1 (z_dec T_X1_lose_ok 17 (28, .iastore, 1) rfl) ?_
      refine zx_aload_n (pc := 29) G (some (o)) 0 rfl rfl (z_dec T_X1_lose_ok 18 (29, .aload_n 0, 1) rfl) ?_
      refine zx_getF (pc := 30) (b := o + 4) G gf_RX1_25 rfl h_o (zq_1_6 hI h_o) (z_dec T_X1_lose_ok 19 (30, .getfield 25, 3) rfl) ?_
      refine zx_iload_n (pc := 33) G 1 rfl rfl (z_dec T_X1_lose_ok 20 (33, .iload_n 1, 1) rfl) ?_
      refine zx_bipush (pc := 34) (v := 8) G (z_dec T_X1_lose_ok 21 (34, .bipush 8, 2) rfl) rfl ?_
      refine zx_idiv (pc := 36) G (by decide) (z_dec T_X1_lose_ok 22 (36, .idiv, 1) rfl) ?_
      refine zx_dup2 (pc := 37) G rfl rfl (z_dec T_X1_lose_ok 23 (37, .dup2, 1) rfl) ?_
      obtain ⟨c2, h⟩ := h
      refine zx_iald (pc := 38) G (zk_1_6 hI h_o) c2 (z_dec T_X1_lose_ok 24 (38, .iaload, 1) rfl) ?_
      refine zx_aload_n (pc := 39) G (some (o)) 0 rfl rfl (z_dec T_X1_lose_ok 25 (39, .aload_n 0, 1) rfl) ?_
      refine zx_getF (pc := 40) (b := o + 3) G gf_RX1_22 rfl h_o (zq_1_5 hI h_o) (z_dec T_X1_lose_ok 26 (40, .getfield 22, 3) rfl) ?_
      refine zx_iload_n (pc := 43) G 1 rfl rfl (z_dec T_X1_lose_ok 27 (43, .iload_n 1, 1) rfl) ?_
      refine zx_iald (pc := 44) G (zk_1_5 hI h_o) c1 (z_dec T_X1_lose_ok 28 (44, .iaload, 1) rfl) ?_
      refine zx_isub (pc := 45) G  (z_dec T_X1_lose_ok 29 (45, .isub, 1) rfl) ?_
      refine zx_iast (pc := 46) G (zk_1_6 hI h_o) c2 (z_dec T_X1_lose_ok 30 (46, .iastore, 1) rfl) ?_
      refine zx_aload_n (pc := 47) G (some (o)) 0 rfl rfl (z_dec T_X1_lose_ok 31 (47, .aload_n 0, 1) rfl) ?_
      refine zx_getF (pc := 48) (b := o + 3) G gf_RX1_22 rfl h_o (zq_1_5 hI h_o) (z_dec T_X1_lose_ok 32 (48, .getfield 22, 3) rfl) ?_
      refine zx_iload_n (pc := 51) G 1 rfl rfl (z_dec T_X1_lose_ok 33 (51, .iload_n 1, 1) rfl) ?_
      refine zx_iconst (pc := 52) (v := 0) G (z_dec T_X1_lose_ok 34 (52, .iconst 0, 1) rfl) rfl ?_
      refine zx_iast (pc := 53) G (zk_1_5 hI h_o) c1 (z_dec T_X1_lose_ok 35 (53, .iastore, 1) rfl) ?_
      refine zx_aload_n (pc := 54) G (some (o)) 0 rfl rfl (z_dec T_X1_lose_ok 36 (54, .aload_n 0, 1) rfl) ?_
      refine zx_getF (pc := 55) (b := o + 5) G gf_RX1_28 rfl h_o (zq_1_7 hI h_o) (z_dec T_X1_lose_ok 37 (55, .getfield 28, 3) rfl) ?_
      refine zx_iload_n (pc := 58) G 1 rfl rfl (z_dec T_X1_lose_ok 38 (58, .iload_n 1, 1) rfl) ?_
      refine zx_iconst (pc := 59) (v := 0) G (z_dec T_X1_lose_ok 39 (59, .iconst 0, 1) rfl) rfl ?_
      refine zx_iast (pc := 60) G (zk_1_7 hI h_o) c1 (z_dec T_X1_lose_ok 40 (60, .iastore, 1) rfl) ?_
      exact zx_vret (pc := 61) G hr hlk (Nat.le_refl _) (Nat.le_refl _) (z_dec T_X1_lose_ok 41 (61, .return_, 1) rfl) ⟨rfl, rfl, h⟩
abbrev rm_X2_clear : Room := { frames := 0, cells := 0, slots := 0, locals := 0 }
set_option maxRecDepth 100000 in
set_option maxHeartbeats 4000000 in
theorem met_X2_clear (l : Launch) (D : va_G) (ρ : z_A) (kd : z_K) (q : z_Q) (μ : z_M) (sz : Nat) (K : z_M → Prop) (hI : z_I kd q) (h_o : kd 12 = some (.inl 2)) (h : C_X2_clear kd q μ K) : Met l yX2_clear (z_ws yX2_clear cX2_clear 1 (Option.none : Option Jvm.ClassFile.FieldType)) rm_X2_clear (z_Pc D ρ kd q μ sz [.ref (12)]) (z_Qn D (z_Rg ρ sz) ρ kd (z_Kv q K)) 0 0 (z_Rg ρ sz) := by
  refine z_met (rm := rm_X2_clear) (by decide) (Nat.le_of_ble_eq_true rfl) (fun p e s m args below meth c G hr hlk => ?_)
  unfold C_X2_clear at h
  show z_X _ _ _ _ _ _ _ _ _ _ _ _ _ _ _ _ _ _ _ _ _ [(0, .ref (12))] _
  refine zx_aload_n (pc := 0) G (some (12)) 0 rfl rfl (z_dec T_X2_clear_ok 0 (0, .aload_n 0, 1) rfl) ?_
  refine zx_iconst (pc := 1) (v := 0) G (z_dec T_X2_clear_ok 1 (1, .iconst 0, 1) rfl) rfl ?_
  refine zx_putI (pc := 2) G gf_RX2_24 cf_2 rfl rfl h_o (z_dec T_X2_clear_ok 2 (2, .putfield 24, 3) rfl) ?_
  refine zx_aload_n (pc := 5) G (some (12)) 0 rfl rfl (z_dec T_X2_clear_ok 3 (5, .aload_n 0, 1) rfl) ?_
  refine zx_iconst (pc := 6) (v := 0) G (z_dec T_X2_clear_ok 4 (6, .iconst 0, 1) rfl) rfl ?_
  refine zx_putI (pc := 7) G gf_RX2_28 cf_2 rfl rfl h_o (z_dec T_X2_clear_ok 5 (7, .putfield 28, 3) rfl) ?_
  refine zx_aload_n (pc := 10) G (some (12)) 0 rfl rfl (z_dec T_X2_clear_ok 6 (10, .aload_n 0, 1) rfl) ?_
  refine zx_iconst (pc := 11) (v := 0) G (z_dec T_X2_clear_ok 7 (11, .iconst 0, 1) rfl) rfl ?_
  refine zx_putI (pc := 12) G gf_RX2_31 cf_2 rfl rfl h_o (z_dec T_X2_clear_ok 8 (12, .putfield 31, 3) rfl) ?_
  exact zx_vret (pc := 15) G hr hlk (Nat.le_refl _) (Nat.le_refl _) (z_dec T_X2_clear_ok 9 (15, .return_, 1) rfl) ⟨rfl, rfl, h⟩
abbrev rm_X2_add : Room := { frames := 1, cells := 0, slots := 0, locals := 21 }
set_option maxRecDepth 100000 in
set_option maxHeartbeats 4000000 in
theorem met_X2_add (l : Launch) (D : va_G) (ρ : z_A) (kd : z_K) (q : z_Q) (μ : z_M) (sz : Nat) (a1 : Int32) (a2 : Int32) (K : z_M → Prop) (hI : z_I kd q) (h_o : kd 12 = some (.inl 2)) (h : C_X2_add kd q a1 a2 μ K) : Met l yX2_add (z_ws yX2_add cX2_add 3 (Option.none : Option Jvm.ClassFile.FieldType)) rm_X2_add (z_Pc D ρ kd q μ sz [.ref (12), .int (a1), .int (a2)]) (z_Qn D (z_Rg ρ sz) ρ kd (z_Kv q K)) 0 0 (z_Rg ρ sz) := by
  refine z_met (rm := rm_X2_add) (by decide) (Nat.le_of_ble_eq_true rfl) (fun p e s m args below meth c G hr hlk => ?_)
  unfold C_X2_add at h
  show z_X _ _ _ _ _ _ _ _ _ _ _ _ _ _ _ _ _ _ _ _ _ [(0, .ref (12)), (1, .int (a1)), (2, .int (a2))] _
  refine zx_aload_n (pc := 0) G (some (12)) 0 rfl rfl (z_dec T_X2_add_ok 0 (0, .aload_n 0, 1) rfl) ?_
  refine zx_getI (pc := 1) G gf_RX2_24 rfl h_o (z_dec T_X2_add_ok 1 (1, .getfield 24, 3) rfl) ?_
  refine zx_bipush (pc := 4) (v := 8) G (z_dec T_X2_add_ok 2 (4, .bipush 8, 2) rfl) rfl ?_
  refine zx_icmp_ge (pc := 6) (tgt := 43) G rfl (z_dec T_X2_add_ok 3 (6, .if_icmp .ge 37, 3) rfl) (fun hc => ?_) (fun hc => ?_)
  · replace h := z_pos hc h
    exact zx_vret (pc := 43) G hr hlk (Nat.le_refl _) (Nat.le_refl _) (z_dec T_X2_add_ok 24 (43, .return_, 1) rfl) ⟨rfl, rfl, h⟩
  · replace h := z_neg hc h
    refine zx_aload_n (pc := 9) G (some (12)) 0 rfl rfl (z_dec T_X2_add_ok 4 (9, .aload_n 0, 1) rfl) ?_
    refine zx_getF (pc := 10) (b := 13) G gf_RX2_9 rfl h_o (zq_2_0 hI h_o) (z_dec T_X2_add_ok 5 (10, .getfield 9, 3) rfl) ?_
    refine zx_aload_n (pc := 13) G (some (12)) 0 rfl rfl (z_dec T_X2_add_ok 6 (13, .aload_n 0, 1) rfl) ?_
    refine zx_getI (pc := 14) G gf_RX2_24 rfl h_o (z_dec T_X2_add_ok 7 (14, .getfield 24, 3) rfl) ?_
    refine zx_iload_n (pc := 17) G 1 rfl rfl (z_dec T_X2_add_ok 8 (17, .iload_n 1, 1) rfl) ?_
    obtain ⟨c1, h⟩ := h
    refine zx_iast (pc := 18) G (zk_2_0 hI h_o) c1 (z_dec T_X2_add_ok 9 (18, .iastore, 1) rfl) ?_
    refine zx_aload_n (pc := 19) G (some (12)) 0 rfl rfl (z_dec T_X2_add_ok 10 (19, .aload_n 0, 1) rfl) ?_
    refine zx_getF (pc := 20) (b := 14) G gf_RX2_15 rfl h_o (zq_2_1 hI h_o) (z_dec T_X2_add_ok 11 (20, .getfield 15, 3) rfl) ?_
    refine zx_aload_n (pc := 23) G (some (12)) 0 rfl rfl (z_dec T_X2_add_ok 12 (23, .aload_n 0, 1) rfl) ?_
    refine zx_getI (pc := 24) G gf_RX2_24 rfl h_o (z_dec T_X2_add_ok 13 (24, .getfield 24, 3) rfl) ?_
    refine zx_iload_n (pc := 27) G 2 rfl rfl (z_dec T_X2_add_ok 14 (27, .iload_n 2, 1) rfl) ?_
    refine zx_iconst (pc := 28) (v := 1) G (z_dec T_X2_add_ok 15 (28, .iconst 1, 1) rfl) rfl ?_
    refine zx_mmax (pc := 29) G wm_RX2_34 ⟨Nat.le_of_ble_eq_true rfl, Nat.le_of_ble_eq_true rfl, Nat.zero_le _, Nat.zero_le _⟩ (z_dec T_X2_add_ok 16 (29, .invokestatic 34, 3) rfl) ?_
    obtain ⟨c2, h⟩ := h
    refine zx_iast (pc := 32) G (zk_2_1 hI h_o) c2 (z_dec T_X2_add_ok 17 (32, .iastore, 1) rfl) ?_
    refine zx_aload_n (pc := 33) G (some (12)) 0 rfl rfl (z_dec T_X2_add_ok 18 (33, .aload_n 0, 1) rfl) ?_
    refine zx_dup (pc := 34) G rfl (z_dec T_X2_add_ok 19 (34, .dup, 1) rfl) ?_
    refine zx_getI (pc := 35) G gf_RX2_24 rfl h_o (z_dec T_X2_add_ok 20 (35, .getfield 24, 3) rfl) ?_
    refine zx_iconst (pc := 38) (v := 1) G (z_dec T_X2_add_ok 21 (38, .iconst 1, 1) rfl) rfl ?_
    refine zx_iadd (pc := 39) G  (z_dec T_X2_add_ok 22 (39, .iadd, 1) rfl) ?_
    refine zx_putI (pc := 40) G gf_RX2_24 cf_2 rfl rfl h_o (z_dec T_X2_add_ok 23 (40, .putfield 24, 3) rfl) ?_
    exact zx_vret (pc := 43) G hr hlk (Nat.le_refl _) (Nat.le_refl _) (z_dec T_X2_add_ok 24 (43, .return_, 1) rfl) ⟨rfl, rfl, h⟩
abbrev rm_X2_least : Room := { frames := 1, cells := 0, slots := 0, locals := 21 }
set_option maxRecDepth 100000 in
set_option maxHeartbeats 4000000 in
theorem B_X2_least_5_ok {p : Program} {l : Launch} {e : Env} {s : State} {m : MethodId} {args : Array Value} {below : List Frame} {meth : Method} {c : Code} {D : va_G} {A : Nat → Prop} {ρ : z_A} {kd : z_K} {q : z_Q} {μ : z_M} {K : Int32 → z_M → Prop} {P5 : Int32 → Int32 → z_M → Prop} {v1 : Int32} {v2 : Int32} (G : z_G p c cX2_least s m args RX2 3 D) (hr : meth.sig.returnType = (Option.some Jvm.ClassFile.FieldType.int)) (hlk : meth.locks = false) (hP5 : ∀ (v1 : Int32) (v2 : Int32) (μ : z_M), P5 v1 v2 μ → (kd 12 = some (.inl 2)) → z_X p l e rm_X2_least s m args below meth c 3 D A (MQ below (z_Qn D A ρ kd (z_Ki q K)) args s 0 0 A) 0 0 ρ kd q μ 5 [(0, .ref (12)), (1, .int (v1)), (2, .int (v2))] []) (hI : z_I kd q) (f_l0 : kd 12 = some (.inl 2)) (h : B_X2_least_5 kd q K P5 v1 v2 μ) : z_X p l e rm_X2_least s m args below meth c 3 D A (MQ below (z_Qn D A ρ kd (z_Ki q K)) args s 0 0 A) 0 0 ρ kd q μ 5 [(0, .ref (12)), (1, .int (v1)), (2, .int (v2))] [] := by
    unfold B_X2_least_5 at h
    refine zx_iload_n (pc := 5) G 2 rfl rfl (z_dec T_X2_least_ok 4 (5, .iload_n 2, 1) rfl) ?_
    refine zx_aload_n (pc := 6) G (some (12)) 0 rfl rfl (z_dec T_X2_least_ok 5 (6, .aload_n 0, 1) rfl) ?_
    refine zx_getI (pc := 7) G gf_RX2_24 rfl f_l0 (z_dec T_X2_least_ok 6 (7, .getfield 24, 3) rfl) ?_
    refine zx_icmp_ge (pc := 10) (tgt := 36) G rfl (z_dec T_X2_least_ok 7 (10, .if_icmp .ge 26, 3) rfl) (fun hc => ?_) (fun hc => ?_)
    · replace h := z_pos hc h
      refine zx_iload_n (pc := 36) G 1 rfl rfl (z_dec T_X2_least_ok 20 (36, .iload_n 1, 1) rfl) ?_
      exact zx_iret (pc := 37) G hr hlk (Nat.le_refl _) (Nat.le_refl _) (z_dec T_X2_least_ok 21 (37, .ireturn, 1) rfl) ⟨rfl, _, rfl, h⟩
    · replace h := z_neg hc h
      refine zx_iload_n (pc := 13) G 2 rfl rfl (z_dec T_X2_least_ok 8 (13, .iload_n 2, 1) rfl) ?_
      refine zx_bipush (pc := 14) (v := 8) G (z_dec T_X2_least_ok 9 (14, .bipush 8, 2) rfl) rfl ?_
      refine zx_icmp_ge (pc := 16) (tgt := 36) G rfl (z_dec T_X2_least_ok 10 (16, .if_icmp .ge 20, 3) rfl) (fun hc => ?_) (fun hc => ?_)
      · replace h := z_pos hc h
        refine zx_iload_n (pc := 36) G 1 rfl rfl (z_dec T_X2_least_ok 20 (36, .iload_n 1, 1) rfl) ?_
        exact zx_iret (pc := 37) G hr hlk (Nat.le_refl _) (Nat.le_refl _) (z_dec T_X2_least_ok 21 (37, .ireturn, 1) rfl) ⟨rfl, _, rfl, h⟩
      · replace h := z_neg hc h
        refine zx_iload_n (pc := 19) G 1 rfl rfl (z_dec T_X2_least_ok 11 (19, .iload_n 1, 1) rfl) ?_
        refine zx_aload_n (pc := 20) G (some (12)) 0 rfl rfl (z_dec T_X2_least_ok 12 (20, .aload_n 0, 1) rfl) ?_
        refine zx_getF (pc := 21) (b := 16) G gf_RX2_21 rfl f_l0 (zq_2_3 hI f_l0) (z_dec T_X2_least_ok 13 (21, .getfield 21, 3) rfl) ?_
        refine zx_iload_n (pc := 24) G 2 rfl rfl (z_dec T_X2_least_ok 14 (24, .iload_n 2, 1) rfl) ?_
        obtain ⟨c1, h⟩ := h
        refine zx_iald (pc := 25) G (zk_2_3 hI f_l0) c1 (z_dec T_X2_least_ok 15 (25, .iaload, 1) rfl) ?_
        refine zx_mmin (pc := 26) G wm_RX2_49 ⟨Nat.le_of_ble_eq_true rfl, Nat.le_of_ble_eq_true rfl, Nat.zero_le _, Nat.zero_le _⟩ (z_dec T_X2_least_ok 16 (26, .invokestatic 49, 3) rfl) ?_
        refine zx_istore_n (pc := 29) (lv' := [(1, .int (z_min v1 (μ.1 16 v2.toNatClampNeg))), (0, .ref (12)), (2, .int (v2))]) G rfl (Nat.le_of_ble_eq_true rfl) rfl (z_dec T_X2_least_ok 17 (29, .istore_n 1, 1) rfl) ?_
        refine zx_iinc (pc := 30) (v := v2 + 1) (lv' := [(2, .int (v2 + 1)), (1, .int (z_min v1 (μ.1 16 v2.toNatClampNeg))), (0, .ref (12))]) G 2 rfl (z_inc (by decide)) (Nat.le_of_ble_eq_true rfl) rfl (z_dec T_X2_least_ok 18 (30, .iinc 2 1, 3) rfl) ?_
        refine zx_goto (pc := 33) (tgt := 5) G rfl (z_dec T_X2_least_ok 19 (33, .goto (-28), 3) rfl) ?_
        refine zx_sub (lv' := [(0, .ref (12)), (1, .int (z_min v1 (μ.1 16 v2.toNatClampNeg))), (2, .int (v2 + 1))]) [2, 1, 0] rfl ?_
        exact hP5 _ _ _ h f_l0
set_option maxRecDepth 100000 in
set_option maxHeartbeats 4000000 in
theorem L_X2_least_5_ok {p : Program} {l : Launch} {e : Env} {s : State} {m : MethodId} {args : Array Value} {below : List Frame} {meth : Method} {c : Code} {D : va_G} {A : Nat → Prop} {ρ : z_A} {kd : z_K} {q : z_Q} {μ : z_M} {K : Int32 → z_M → Prop} {v1 : Int32} {v2 : Int32} (G : z_G p c cX2_least s m args RX2 3 D) (hr : meth.sig.returnType = (Option.some Jvm.ClassFile.FieldType.int)) (hlk : meth.locks = false) (hI : z_I kd q) (f_l0 : kd 12 = some (.inl 2)) (h : L_X2_least_5 kd q K v1 v2 μ) : z_X p l e rm_X2_least s m args below meth c 3 D A (MQ below (z_Qn D A ρ kd (z_Ki q K)) args s 0 0 A) 0 0 ρ kd q μ 5 [(0, .ref (12)), (1, .int (v1)), (2, .int (v2))] [] :=
  h (fun (v1 : Int32) (v2 : Int32) (μ : z_M) => (kd 12 = some (.inl 2)) → z_X p l e rm_X2_least s m args below meth c 3 D A (MQ below (z_Qn D A ρ kd (z_Ki q K)) args s 0 0 A) 0 0 ρ kd q μ 5 [(0, .ref (12)), (1, .int (v1)), (2, .int (v2))] []) (fun v1 v2 μ h f_l0 => B_X2_least_5_ok G hr hlk (fun _ _ _ h => h) hI f_l0 h) f_l0
set_option maxRecDepth 100000 in
set_option maxHeartbeats 4000000 in
theorem met_X2_least (l : Launch) (D : va_G) (ρ : z_A) (kd : z_K) (q : z_Q) (μ : z_M) (sz : Nat) (K : Int32 → z_M → Prop) (hI : z_I kd q) (h_o : kd 12 = some (.inl 2)) (h : C_X2_least kd q μ K) : Met l yX2_least (z_ws yX2_least cX2_least 3 (Option.some Jvm.ClassFile.FieldType.int)) rm_X2_least (z_Pc D ρ kd q μ sz [.ref (12)]) (z_Qn D (z_Rg ρ sz) ρ kd (z_Ki q K)) 0 0 (z_Rg ρ sz) := by
  refine z_met (rm := rm_X2_least) (by decide) (Nat.le_of_ble_eq_true rfl) (fun p e s m args below meth c G hr hlk => ?_)
  unfold C_X2_least at h
  show z_X _ _ _ _ _ _ _ _ _ _ _ _ _ _ _ _ _ _ _ _ _ [(0, .ref (12))] _
  refine zx_ldc (pc := 0) G wk_RX2_48 (z_dec T_X2_least_ok 0 (0, .ldc 48, 2) rfl) ?_
  refine zx_istore_n (pc := 2) (lv' := [(1, .int ((2000000000 : Int32))), (0, .ref (12))]) G rfl (Nat.le_of_ble_eq_true rfl) rfl (z_dec T_X2_least_ok 1 (2, .istore_n 1, 1) rfl) ?_
  refine zx_iconst (pc := 3) (v := 0) G (z_dec T_X2_least_ok 2 (3, .iconst 0, 1) rfl) rfl ?_
  refine zx_istore_n (pc := 4) (lv' := [(2, .int ((0 : Int32))), (1, .int ((2000000000 : Int32))), (0, .ref (12))]) G rfl (Nat.le_of_ble_eq_true rfl) rfl (z_dec T_X2_least_ok 3 (4, .istore_n 2, 1) rfl) ?_
  refine zx_sub (lv' := [(0, .ref (12)), (1, .int ((2000000000 : Int32))), (2, .int ((0 : Int32)))]) [2, 1, 0] rfl ?_
  exact L_X2_least_5_ok G hr hlk hI h_o h
abbrev rm_X2_lift : Room := { frames := 1, cells := 0, slots := 0, locals := 21 }
set_option maxRecDepth 100000 in
set_option maxHeartbeats 4000000 in
theorem met_X2_lift (l : Launch) (D : va_G) (ρ : z_A) (kd : z_K) (q : z_Q) (μ : z_M) (sz : Nat) (a1 : Int32) (a2 : Int32) (K : z_M → Prop) (hI : z_I kd q) (h_o : kd 12 = some (.inl 2)) (h : C_X2_lift kd q a1 a2 μ K) : Met l yX2_lift (z_ws yX2_lift cX2_lift 3 (Option.none : Option Jvm.ClassFile.FieldType)) rm_X2_lift (z_Pc D ρ kd q μ sz [.ref (12), .int (a1), .int (a2)]) (z_Qn D (z_Rg ρ sz) ρ kd (z_Kv q K)) 0 0 (z_Rg ρ sz) := by
  refine z_met (rm := rm_X2_lift) (by decide) (Nat.le_of_ble_eq_true rfl) (fun p e s m args below meth c G hr hlk => ?_)
  unfold C_X2_lift at h
  show z_X _ _ _ _ _ _ _ _ _ _ _ _ _ _ _ _ _ _ _ _ _ [(0, .ref (12)), (1, .int (a1)), (2, .int (a2))] _
  refine zx_aload_n (pc := 0) G (some (12)) 0 rfl rfl (z_dec T_X2_lift_ok 0 (0, .aload_n 0, 1) rfl) ?_
  refine zx_getF (pc := 1) (b := 15) G gf_RX2_18 rfl h_o (zq_2_2 hI h_o) (z_dec T_X2_lift_ok 1 (1, .getfield 18, 3) rfl) ?_
  refine zx_iload_n (pc := 4) G 1 rfl rfl (z_dec T_X2_lift_ok 2 (4, .iload_n 1, 1) rfl) ?_
  refine zx_iload_n (pc := 5) G 2 rfl rfl (z_dec T_X2_lift_ok 3 (5, .iload_n 2, 1) rfl) ?_
  obtain ⟨c1, h⟩ := h
  refine zx_iast (pc := 6) G (zk_2_2 hI h_o) c1 (z_dec T_X2_lift_ok 4 (6, .iastore, 1) rfl) ?_
  refine zx_aload_n (pc := 7) G (some (12)) 0 rfl rfl (z_dec T_X2_lift_ok 5 (7, .aload_n 0, 1) rfl) ?_
  refine zx_getF (pc := 8) (b := 16) G gf_RX2_21 rfl h_o (zq_2_3 hI h_o) (z_dec T_X2_lift_ok 6 (8, .getfield 21, 3) rfl) ?_
  refine zx_iload_n (pc := 11) G 1 rfl rfl (z_dec T_X2_lift_ok 7 (11, .iload_n 1, 1) rfl) ?_
  refine zx_iload_n (pc := 12) G 2 rfl rfl (z_dec T_X2_lift_ok 8 (12, .iload_n 2, 1) rfl) ?_
  refine zx_iload_n (pc := 13) G 2 rfl rfl (z_dec T_X2_lift_ok 9 (13, .iload_n 2, 1) rfl) ?_
  refine zx_aload_n (pc := 14) G (some (12)) 0 rfl rfl (z_dec T_X2_lift_ok 10 (14, .aload_n 0, 1) rfl) ?_
  refine zx_getF (pc := 15) (b := 13) G gf_RX2_9 rfl h_o (zq_2_0 hI h_o) (z_dec T_X2_lift_ok 11 (15, .getfield 9, 3) rfl) ?_
  refine zx_iload_n (pc := 18) G 1 rfl rfl (z_dec T_X2_lift_ok 12 (18, .iload_n 1, 1) rfl) ?_
  refine zx_iald (pc := 19) G (zk_2_0 hI h_o) c1 (z_dec T_X2_lift_ok 13 (19, .iaload, 1) rfl) ?_
  refine zx_imul (pc := 20) G  (z_dec T_X2_lift_ok 14 (20, .imul, 1) rfl) ?_
  refine zx_aload_n (pc := 21) G (some (12)) 0 rfl rfl (z_dec T_X2_lift_ok 15 (21, .aload_n 0, 1) rfl) ?_
  refine zx_getF (pc := 22) (b := 14) G gf_RX2_15 rfl h_o (zq_2_1 hI h_o) (z_dec T_X2_lift_ok 16 (22, .getfield 15, 3) rfl) ?_
  refine zx_iload_n (pc := 25) G 1 rfl rfl (z_dec T_X2_lift_ok 17 (25, .iload_n 1, 1) rfl) ?_
  refine zx_iald (pc := 26) G (zk_2_1 hI h_o) c1 (z_dec T_X2_lift_ok 18 (26, .iaload, 1) rfl) ?_
  refine zx_iconst (pc := 27) (v := 1) G (z_dec T_X2_lift_ok 19 (27, .iconst 1, 1) rfl) rfl ?_
  refine zx_mmax (pc := 28) G wm_RX2_34 ⟨Nat.le_of_ble_eq_true rfl, Nat.le_of_ble_eq_true rfl, Nat.zero_le _, Nat.zero_le _⟩ (z_dec T_X2_lift_ok 20 (28, .invokestatic 34, 3) rfl) ?_
  obtain ⟨c2, h⟩ := h
  refine zx_idiv (pc := 31) G c2 (z_dec T_X2_lift_ok 21 (31, .idiv, 1) rfl) ?_
  refine zx_iadd (pc := 32) G  (z_dec T_X2_lift_ok 22 (32, .iadd, 1) rfl) ?_
  refine zx_iast (pc := 33) G (zk_2_3 hI h_o) c1 (z_dec T_X2_lift_ok 23 (33, .iastore, 1) rfl) ?_
  exact zx_vret (pc := 34) G hr hlk (Nat.le_refl _) (Nat.le_refl _) (z_dec T_X2_lift_ok 24 (34, .return_, 1) rfl) ⟨rfl, rfl, h⟩
abbrev rm_X2_seek : Room := { frames := 2, cells := 0, slots := 0, locals := 43 }
set_option maxRecDepth 100000 in
set_option maxHeartbeats 4000000 in
theorem B_X2_seek_81_ok {p : Program} {l : Launch} {e : Env} {s : State} {m : MethodId} {args : Array Value} {below : List Frame} {meth : Method} {c : Code} {D : va_G} {A : Nat → Prop} {ρ : z_A} {kd : z_K} {q : z_Q} {μ : z_M} {K : z_M → Prop} {P35 : Int32 → Int32 → Int32 → z_M → Prop} {P81 : Int32 → Int32 → Int32 → Int32 → Int32 → z_M → Prop} {v1 : Int32} {v2 : Int32} {v3 : Int32} {v4 : Int32} {v5 : Int32} (G : z_G p c cX2_seek s m args RX2 6 D) (hr : meth.sig.returnType = (Option.none : Option Jvm.ClassFile.FieldType)) (hlk : meth.locks = false) (hP35 : ∀ (v1 : Int32) (v2 : Int32) (v3 : Int32) (μ : z_M), P35 v1 v2 v3 μ → (kd 12 = some (.inl 2)) → z_X p l e rm_X2_seek s m args below meth c 6 D A (MQ below (z_Qn D A ρ kd (z_Kv q K)) args s 0 0 A) 0 0 ρ kd q μ 35 [(0, .ref (12)), (1, .int (v1)), (2, .int (v2)), (3, .int (v3))] []) (hP81 : ∀ (v1 : Int32) (v2 : Int32) (v3 : Int32) (v4 : Int32) (v5 : Int32) (μ : z_M), P81 v1 v2 v3 v4 v5 μ → (kd 12 = some (.inl 2)) → z_X p l e rm_X2_seek s m args below meth c 6 D A (MQ below (z_Qn D A ρ kd (z_Kv q K)) args s 0 0 A) 0 0 ρ kd q μ 81 [(0, .ref (12)), (1, .int (v1)), (2, .int (v2)), (3, .int (v3)), (4, .int (v4)), (5, .int (v5))] []) (hI : z_I kd q) (f_l0 : kd 12 = some (.inl 2)) (h : B_X2_seek_81 kd q K P35 P81 v1 v2 v3 v4 v5 μ) : z_X p l e rm_X2_seek s m args below meth c 6 D A (MQ below (z_Qn D A ρ kd (z_Kv q K)) args s 0 0 A) 0 0 ρ kd q μ 81 [(0, .ref (12)), (1, .int (v1)), (2, .int (v2)), (3, .int (v3)), (4, .int (v4)), (5, .int (v5))] [] := by
    unfold B_X2_seek_81 at h
    refine zx_iload (pc := 81) G 5 rfl (z_dec T_X2_seek_ok 45 (81, .iload 5, 2) rfl) ?_
    refine zx_aload_n (pc := 83) G (some (12)) 0 rfl rfl (z_dec T_X2_seek_ok 46 (83, .aload_n 0, 1) rfl) ?_
    refine zx_getI (pc := 84) G gf_RX2_24 rfl f_l0 (z_dec T_X2_seek_ok 47 (84, .getfield 24, 3) rfl) ?_
    refine zx_icmp_ge (pc := 87) (tgt := 133) G rfl (z_dec T_X2_seek_ok 48 (87, .if_icmp .ge 46, 3) rfl) (fun hc => ?_) (fun hc => ?_)
    · replace h := z_pos hc h
      refine zx_iinc (pc := 133) (v := v3 + 1) (lv' := [(3, .int (v3 + 1)), (0, .ref (12)), (1, .int (v1)), (2, .int (v2)), (4, .int (v4)), (5, .int (v5))]) G 3 rfl (z_inc (by decide)) (Nat.le_of_ble_eq_true rfl) rfl (z_dec T_X2_seek_ok 70 (133, .iinc 3 1, 3) rfl) ?_
      refine zx_goto (pc := 136) (tgt := 35) G rfl (z_dec T_X2_seek_ok 71 (136, .goto (-101), 3) rfl) ?_
      refine zx_sub (lv' := [(0, .ref (12)), (1, .int (v1)), (2, .int (v2)), (3, .int (v3 + 1))]) [1, 2, 3, 0] rfl ?_
      exact hP35 _ _ _ _ h f_l0
    · replace h := z_neg hc h
      refine zx_iload (pc := 90) G 5 rfl (z_dec T_X2_seek_ok 49 (90, .iload 5, 2) rfl) ?_
      refine zx_bipush (pc := 92) (v := 8) G (z_dec T_X2_seek_ok 50 (92, .bipush 8, 2) rfl) rfl ?_
      refine zx_icmp_ge (pc := 94) (tgt := 133) G rfl (z_dec T_X2_seek_ok 51 (94, .if_icmp .ge 39, 3) rfl) (fun hc => ?_) (fun hc => ?_)
      · replace h := z_pos hc h
        refine zx_iinc (pc := 133) (v := v3 + 1) (lv' := [(3, .int (v3 + 1)), (0, .ref (12)), (1, .int (v1)), (2, .int (v2)), (4, .int (v4)), (5, .int (v5))]) G 3 rfl (z_inc (by decide)) (Nat.le_of_ble_eq_true rfl) rfl (z_dec T_X2_seek_ok 70 (133, .iinc 3 1, 3) rfl) ?_
        refine zx_goto (pc := 136) (tgt := 35) G rfl (z_dec T_X2_seek_ok 71 (136, .goto (-101), 3) rfl) ?_
        refine zx_sub (lv' := [(0, .ref (12)), (1, .int (v1)), (2, .int (v2)), (3, .int (v3 + 1))]) [1, 2, 3, 0] rfl ?_
        exact hP35 _ _ _ _ h f_l0
      · replace h := z_neg hc h
        refine zx_aload_n (pc := 97) G (some (12)) 0 rfl rfl (z_dec T_X2_seek_ok 52 (97, .aload_n 0, 1) rfl) ?_
        refine zx_getF (pc := 98) (b := 16) G gf_RX2_21 rfl f_l0 (zq_2_3 hI f_l0) (z_dec T_X2_seek_ok 53 (98, .getfield 21, 3) rfl) ?_
        refine zx_iload (pc := 101) G 5 rfl (z_dec T_X2_seek_ok 54 (101, .iload 5, 2) rfl) ?_
        obtain ⟨c1, h⟩ := h
        refine zx_iald (pc := 103) G (zk_2_3 hI f_l0) c1 (z_dec T_X2_seek_ok 55 (103, .iaload, 1) rfl) ?_
        refine zx_iload (pc := 104) G 4 rfl (z_dec T_X2_seek_ok 56 (104, .iload 4, 2) rfl) ?_
        refine zx_icmp_ne (pc := 106) (tgt := 127) G rfl (z_dec T_X2_seek_ok 57 (106, .if_icmp .ne 21, 3) rfl) (fun hc => ?_) (fun hc => ?_)
        · replace h := z_neg hc h
          refine zx_iinc (pc := 127) (v := v5 + 1) (lv' := [(5, .int (v5 + 1)), (0, .ref (12)), (1, .int (v1)), (2, .int (v2)), (3, .int (v3)), (4, .int (v4))]) G 5 rfl (z_inc (by decide)) (Nat.le_of_ble_eq_true rfl) rfl (z_dec T_X2_seek_ok 68 (127, .iinc 5 1, 3) rfl) ?_
          refine zx_goto (pc := 130) (tgt := 81) G rfl (z_dec T_X2_seek_ok 69 (130, .goto (-49), 3) rfl) ?_
          refine zx_sub (lv' := [(0, .ref (12)), (1, .int (v1)), (2, .int (v2)), (3, .int (v3)), (4, .int (v4)), (5, .int (v5 + 1))]) [1, 2, 3, 4, 5, 0] rfl ?_
          exact hP81 _ _ _ _ _ _ h f_l0
        · replace h := z_pos hc h
          refine zx_aload_n (pc := 109) G (some (12)) 0 rfl rfl (z_dec T_X2_seek_ok 58 (109, .aload_n 0, 1) rfl) ?_
          refine zx_iload (pc := 110) G 5 rfl (z_dec T_X2_seek_ok 59 (110, .iload 5, 2) rfl) ?_
          refine zx_aload_n (pc := 112) G (some (12)) 0 rfl rfl (z_dec T_X2_seek_ok 60 (112, .aload_n 0, 1) rfl) ?_
          refine zx_getF (pc := 113) (b := 15) G gf_RX2_18 rfl f_l0 (zq_2_2 hI f_l0) (z_dec T_X2_seek_ok 61 (113, .getfield 18, 3) rfl) ?_
          refine zx_iload (pc := 116) G 5 rfl (z_dec T_X2_seek_ok 62 (116, .iload 5, 2) rfl) ?_
          refine zx_iald (pc := 118) G (zk_2_2 hI f_l0) c1 (z_dec T_X2_seek_ok 63 (118, .iaload, 1) rfl) ?_
          refine zx_iconst (pc := 119) (v := 1) G (z_dec T_X2_seek_ok 64 (119, .iconst 1, 1) rfl) rfl ?_
          refine zx_iadd (pc := 120) G  (z_dec T_X2_seek_ok 65 (120, .iadd, 1) rfl) ?_
          refine zx_callV_vN (pc := 121) (rm := rm_X2_lift) G cw_RX2_40 ⟨Nat.le_of_ble_eq_true rfl, Nat.le_of_ble_eq_true rfl⟩ rfl rfl ⟨Nat.zero_le _, Nat.zero_le _⟩ f_l0 rfl (fun sz => (met_X2_lift l D ρ kd q μ sz v5 ((μ.1 15 v5.toNatClampNeg) + ((1 : Int32))) _ hI f_l0 h)) rfl rfl (Nat.le_of_ble_eq_true rfl) (z_dec T_X2_seek_ok 66 (121, .invokevirtual 40, 3) rfl) (fun μ2 hn => ?_)
          clear h
          have h := hn
          clear hn
          refine zx_iinc (pc := 124) (v := v2 + 1) (lv' := [(2, .int (v2 + 1)), (0, .ref (12)), (1, .int (v1)), (3, .int (v3)), (4, .int (v4)), (5, .int (v5))]) G 2 rfl (z_inc (by decide)) (Nat.le_of_ble_eq_true rfl) rfl (z_dec T_X2_seek_ok 67 (124, .iinc 2 1, 3) rfl) ?_
          refine zx_iinc (pc := 127) (v := v5 + 1) (lv' := [(5, .int (v5 + 1)), (2, .int (v2 + 1)), (0, .ref (12)), (1, .int (v1)), (3, .int (v3)), (4, .int (v4))]) G 5 rfl (z_inc (by decide)) (Nat.le_of_ble_eq_true rfl) rfl (z_dec T_X2_seek_ok 68 (127, .iinc 5 1, 3) rfl) ?_
          refine zx_goto (pc := 130) (tgt := 81) G rfl (z_dec T_X2_seek_ok 69 (130, .goto (-49), 3) rfl) ?_
          refine zx_sub (lv' := [(0, .ref (12)), (1, .int (v1)), (2, .int (v2 + 1)), (3, .int (v3)), (4, .int (v4)), (5, .int (v5 + 1))]) [2, 3, 1, 4, 5, 0] rfl ?_
          exact hP81 _ _ _ _ _ _ h f_l0
set_option maxRecDepth 100000 in
set_option maxHeartbeats 4000000 in
theorem L_X2_seek_81_ok {p : Program} {l : Launch} {e : Env} {s : State} {m : MethodId} {args : Array Value} {below : List Frame} {meth : Method} {c : Code} {D : va_G} {A : Nat → Prop} {ρ : z_A} {kd : z_K} {q : z_Q} {μ : z_M} {K : z_M → Prop} {P35 : Int32 → Int32 → Int32 → z_M → Prop} {v1 : Int32} {v2 : Int32} {v3 : Int32} {v4 : Int32} {v5 : Int32} (G : z_G p c cX2_seek s m args RX2 6 D) (hr : meth.sig.returnType = (Option.none : Option Jvm.ClassFile.FieldType)) (hlk : meth.locks = false) (hP35 : ∀ (v1 : Int32) (v2 : Int32) (v3 : Int32) (μ : z_M), P35 v1 v2 v3 μ → (kd 12 = some (.inl 2)) → z_X p l e rm_X2_seek s m args below meth c 6 D A (MQ below (z_Qn D A ρ kd (z_Kv q K)) args s 0 0 A) 0 0 ρ kd q μ 35 [(0, .ref (12)), (1, .int (v1)), (2, .int (v2)), (3, .int (v3))] []) (hI : z_I kd q) (f_l0 : kd 12 = some (.inl 2)) (h : L_X2_seek_81 kd q K P35 v1 v2 v3 v4 v5 μ) : z_X p l e rm_X2_seek s m args below meth c 6 D A (MQ below (z_Qn D A ρ kd (z_Kv q K)) args s 0 0 A) 0 0 ρ kd q μ 81 [(0, .ref (12)), (1, .int (v1)), (2, .int (v2)), (3, .int (v3)), (4, .int (v4)), (5, .int (v5))] [] :=
  h (fun (v1 : Int32) (v2 : Int32) (v3 : Int32) (v4 : Int32) (v5 : Int32) (μ : z_M) => (kd 12 = some (.inl 2)) → z_X p l e rm_X2_seek s m args below meth c 6 D A (MQ below (z_Qn D A ρ kd (z_Kv q K)) args s 0 0 A) 0 0 ρ kd q μ 81 [(0, .ref (12)), (1, .int (v1)), (2, .int (v2)), (3, .int (v3)), (4, .int (v4)), (5, .int (v5))] []) (fun v1 v2 v3 v4 v5 μ h f_l0 => B_X2_seek_81_ok G hr hlk hP35 (fun _ _ _ _ _ _ h => h) hI f_l0 h) f_l0
set_option maxRecDepth 100000 in
set_option maxHeartbeats 4000000 in
theorem B_X2_seek_35_ok {p : Program} {l : Launch} {e : Env} {s : State} {m : MethodId} {args : Array Value} {below : List Frame} {meth : Method} {c : Code} {D : va_G} {A : Nat → Prop} {ρ : z_A} {kd : z_K} {q : z_Q} {μ : z_M} {K : z_M → Prop} {P35 : Int32 → Int32 → Int32 → z_M → Prop} {v1 : Int32} {v2 : Int32} {v3 : Int32} (G : z_G p c cX2_seek s m args RX2 6 D) (hr : meth.sig.returnType = (Option.none : Option Jvm.ClassFile.FieldType)) (hlk : meth.locks = false) (hP35 : ∀ (v1 : Int32) (v2 : Int32) (v3 : Int32) (μ : z_M), P35 v1 v2 v3 μ → (kd 12 = some (.inl 2)) → z_X p l e rm_X2_seek s m args below meth c 6 D A (MQ below (z_Qn D A ρ kd (z_Kv q K)) args s 0 0 A) 0 0 ρ kd q μ 35 [(0, .ref (12)), (1, .int (v1)), (2, .int (v2)), (3, .int (v3))] []) (hI : z_I kd q) (f_l0 : kd 12 = some (.inl 2)) (h : B_X2_seek_35 kd q K P35 v1 v2 v3 μ) : z_X p l e rm_X2_seek s m args below meth c 6 D A (MQ below (z_Qn D A ρ kd (z_Kv q K)) args s 0 0 A) 0 0 ρ kd q μ 35 [(0, .ref (12)), (1, .int (v1)), (2, .int (v2)), (3, .int (v3))] [] := by
    unfold B_X2_seek_35 at h
    refine zx_iload_n (pc := 35) G 3 rfl rfl (z_dec T_X2_seek_ok 20 (35, .iload_n 3, 1) rfl) ?_
    refine zx_sipush (pc := 36) (v := 3000) G (z_dec T_X2_seek_ok 21 (36, .sipush 3000, 3) rfl) rfl ?_
    refine zx_icmp_ge (pc := 39) (tgt := 139) G rfl (z_dec T_X2_seek_ok 22 (39, .if_icmp .ge 100, 3) rfl) (fun hc => ?_) (fun hc => ?_)
    · replace h := z_pos hc h
      exact zx_vret (pc := 139) G hr hlk (Nat.le_refl _) (Nat.le_refl _) (z_dec T_X2_seek_ok 72 (139, .return_, 1) rfl) ⟨rfl, rfl, h⟩
    · replace h := z_neg hc h
      refine zx_iload_n (pc := 42) G 2 rfl rfl (z_dec T_X2_seek_ok 23 (42, .iload_n 2, 1) rfl) ?_
      refine zx_iload_n (pc := 43) G 1 rfl rfl (z_dec T_X2_seek_ok 24 (43, .iload_n 1, 1) rfl) ?_
      refine zx_icmp_gt (pc := 44) (tgt := 139) G rfl (z_dec T_X2_seek_ok 25 (44, .if_icmp .gt 95, 3) rfl) (fun hc => ?_) (fun hc => ?_)
      · replace h := z_pos hc h
        exact zx_vret (pc := 139) G hr hlk (Nat.le_refl _) (Nat.le_refl _) (z_dec T_X2_seek_ok 72 (139, .return_, 1) rfl) ⟨rfl, rfl, h⟩
      · replace h := z_neg hc h
        refine zx_aload_n (pc := 47) G (some (12)) 0 rfl rfl (z_dec T_X2_seek_ok 26 (47, .aload_n 0, 1) rfl) ?_
        refine zx_callV_iN (pc := 48) (rm := rm_X2_least) G cw_RX2_44 ⟨Nat.le_of_ble_eq_true rfl, Nat.le_of_ble_eq_true rfl⟩ rfl rfl ⟨Nat.zero_le _, Nat.zero_le _⟩ f_l0 rfl (fun sz => (met_X2_least l D ρ kd q μ sz  _ hI f_l0 h)) rfl rfl (Nat.le_of_ble_eq_true rfl) (z_dec T_X2_seek_ok 27 (48, .invokevirtual 44, 3) rfl) (fun r2 μ1 hn => ?_)
        clear h
        have h := hn
        clear hn
        refine zx_istore (pc := 51) (lv' := [(4, .int (r2)), (0, .ref (12)), (1, .int (v1)), (2, .int (v2)), (3, .int (v3))]) G (Nat.le_of_ble_eq_true rfl) rfl (z_dec T_X2_seek_ok 28 (51, .istore 4, 2) rfl) ?_
        refine zx_iload (pc := 53) G 0 rfl (z_dec T_X2_seek_ok 29 (53, .iload 4, 2) rfl) ?_
        refine zx_iload_n (pc := 55) G 3 rfl rfl (z_dec T_X2_seek_ok 30 (55, .iload_n 2, 1) rfl) ?_
        refine zx_isub (pc := 56) G  (z_dec T_X2_seek_ok 31 (56, .isub, 1) rfl) ?_
        refine zx_aload_n (pc := 57) G (some (12)) 1 rfl rfl (z_dec T_X2_seek_ok 32 (57, .aload_n 0, 1) rfl) ?_
        refine zx_getI (pc := 58) G gf_RX2_28 rfl f_l0 (z_dec T_X2_seek_ok 33 (58, .getfield 28, 3) rfl) ?_
        refine zx_icmp_le (pc := 61) (tgt := 78) G rfl (z_dec T_X2_seek_ok 34 (61, .if_icmp .le 17, 3) rfl) (fun hc => ?_) (fun hc => ?_)
        · replace h := z_pos hc h
          refine zx_iconst (pc := 78) (v := 0) G (z_dec T_X2_seek_ok 43 (78, .iconst 0, 1) rfl) rfl ?_
          refine zx_istore (pc := 79) (lv' := [(5, .int ((0 : Int32))), (4, .int (r2)), (0, .ref (12)), (1, .int (v1)), (2, .int (v2)), (3, .int (v3))]) G (Nat.le_of_ble_eq_true rfl) rfl (z_dec T_X2_seek_ok 44 (79, .istore 5, 2) rfl) ?_
          refine zx_sub (lv' := [(0, .ref (12)), (1, .int (v1)), (2, .int (v2)), (3, .int (v3)), (4, .int (r2)), (5, .int ((0 : Int32)))]) [2, 3, 4, 5, 1, 0] rfl ?_
          exact L_X2_seek_81_ok G hr hlk hP35 hI f_l0 h
        · replace h := z_neg hc h
          refine zx_aload_n (pc := 64) G (some (12)) 1 rfl rfl (z_dec T_X2_seek_ok 35 (64, .aload_n 0, 1) rfl) ?_
          refine zx_iload (pc := 65) G 0 rfl (z_dec T_X2_seek_ok 36 (65, .iload 4, 2) rfl) ?_
          refine zx_iload_n (pc := 67) G 3 rfl rfl (z_dec T_X2_seek_ok 37 (67, .iload_n 2, 1) rfl) ?_
          refine zx_isub (pc := 68) G  (z_dec T_X2_seek_ok 38 (68, .isub, 1) rfl) ?_
          refine zx_putI (pc := 69) G gf_RX2_28 cf_2 rfl rfl f_l0 (z_dec T_X2_seek_ok 39 (69, .putfield 28, 3) rfl) ?_
          refine zx_aload_n (pc := 72) G (some (12)) 1 rfl rfl (z_dec T_X2_seek_ok 40 (72, .aload_n 0, 1) rfl) ?_
          refine zx_iload (pc := 73) G 0 rfl (z_dec T_X2_seek_ok 41 (73, .iload 4, 2) rfl) ?_
          refine zx_putI (pc := 75) G gf_RX2_31 cf_2 rfl rfl f_l0 (z_dec T_X2_seek_ok 42 (75, .putfield 31, 3) rfl) ?_
          refine zx_iconst (pc := 78) (v := 0) G (z_dec T_X2_seek_ok 43 (78, .iconst 0, 1) rfl) rfl ?_
          refine zx_istore (pc := 79) (lv' := [(5, .int ((0 : Int32))), (4, .int (r2)), (0, .ref (12)), (1, .int (v1)), (2, .int (v2)), (3, .int (v3))]) G (Nat.le_of_ble_eq_true rfl) rfl (z_dec T_X2_seek_ok 44 (79, .istore 5, 2) rfl) ?_
          refine zx_sub (lv' := [(0, .ref (12)), (1, .int (v1)), (2, .int (v2)), (3, .int (v3)), (4, .int (r2)), (5, .int ((0 : Int32)))]) [2, 3, 4, 5, 1, 0] rfl ?_
          exact L_X2_seek_81_ok G hr hlk hP35 hI f_l0 h
set_option maxRecDepth 100000 in
set_option maxHeartbeats 4000000 in
theorem L_X2_seek_35_ok {p : Program} {l : Launch} {e : Env} {s : State} {m : MethodId} {args : Array Value} {below : List Frame} {meth : Method} {c : Code} {D : va_G} {A : Nat → Prop} {ρ : z_A} {kd : z_K} {q : z_Q} {μ : z_M} {K : z_M → Prop} {v1 : Int32} {v2 : Int32} {v3 : Int32} (G : z_G p c cX2_seek s m args RX2 6 D) (hr : meth.sig.returnType = (Option.none : Option Jvm.ClassFile.FieldType)) (hlk : meth.locks = false) (hI : z_I kd q) (f_l0 : kd 12 = some (.inl 2)) (h : L_X2_seek_35 kd q K v1 v2 v3 μ) : z_X p l e rm_X2_seek s m args below meth c 6 D A (MQ below (z_Qn D A ρ kd (z_Kv q K)) args s 0 0 A) 0 0 ρ kd q μ 35 [(0, .ref (12)), (1, .int (v1)), (2, .int (v2)), (3, .int (v3))] [] :=
  h (fun (v1 : Int32) (v2 : Int32) (v3 : Int32) (μ : z_M) => (kd 12 = some (.inl 2)) → z_X p l e rm_X2_seek s m args below meth c 6 D A (MQ below (z_Qn D A ρ kd (z_Kv q K)) args s 0 0 A) 0 0 ρ kd q μ 35 [(0, .ref (12)), (1, .int (v1)), (2, .int (v2)), (3, .int (v3))] []) (fun v1 v2 v3 μ h f_l0 => B_X2_seek_35_ok G hr hlk (fun _ _ _ _ h => h) hI f_l0 h) f_l0
set_option maxRecDepth 100000 in
set_option maxHeartbeats 4000000 in
theorem B_X2_seek_4_ok {p : Program} {l : Launch} {e : Env} {s : State} {m : MethodId} {args : Array Value} {below : List Frame} {meth : Method} {c : Code} {D : va_G} {A : Nat → Prop} {ρ : z_A} {kd : z_K} {q : z_Q} {μ : z_M} {K : z_M → Prop} {P4 : Int32 → Int32 → Int32 → z_M → Prop} {v1 : Int32} {v2 : Int32} {v3 : Int32} (G : z_G p c cX2_seek s m args RX2 6 D) (hr : meth.sig.returnType = (Option.none : Option Jvm.ClassFile.FieldType)) (hlk : meth.locks = false) (hP4 : ∀ (v1 : Int32) (v2 : Int32) (v3 : Int32) (μ : z_M), P4 v1 v2 v3 μ → (kd 12 = some (.inl 2)) → z_X p l e rm_X2_seek s m args below meth c 6 D A (MQ below (z_Qn D A ρ kd (z_Kv q K)) args s 0 0 A) 0 0 ρ kd q μ 4 [(0, .ref (12)), (1, .int (v1)), (2, .int (v2)), (3, .int (v3))] []) (hI : z_I kd q) (f_l0 : kd 12 = some (.inl 2)) (h : B_X2_seek_4 kd q K P4 v1 v2 v3 μ) : z_X p l e rm_X2_seek s m args below meth c 6 D A (MQ below (z_Qn D A ρ kd (z_Kv q K)) args s 0 0 A) 0 0 ρ kd q μ 4 [(0, .ref (12)), (1, .int (v1)), (2, .int (v2)), (3, .int (v3))] [] := by
    unfold B_X2_seek_4 at h
    refine zx_iload_n (pc := 4) G 3 rfl rfl (z_dec T_X2_seek_ok 4 (4, .iload_n 3, 1) rfl) ?_
    refine zx_aload_n (pc := 5) G (some (12)) 0 rfl rfl (z_dec T_X2_seek_ok 5 (5, .aload_n 0, 1) rfl) ?_
    refine zx_getI (pc := 6) G gf_RX2_24 rfl f_l0 (z_dec T_X2_seek_ok 6 (6, .getfield 24, 3) rfl) ?_
    refine zx_icmp_ge (pc := 9) (tgt := 33) G rfl (z_dec T_X2_seek_ok 7 (9, .if_icmp .ge 24, 3) rfl) (fun hc => ?_) (fun hc => ?_)
    · replace h := z_pos hc h
      refine zx_iconst (pc := 33) (v := 0) G (z_dec T_X2_seek_ok 18 (33, .iconst 0, 1) rfl) rfl ?_
      refine zx_istore_n (pc := 34) (lv' := [(3, .int ((0 : Int32))), (0, .ref (12)), (1, .int (v1)), (2, .int (v2))]) G rfl (Nat.le_of_ble_eq_true rfl) rfl (z_dec T_X2_seek_ok 19 (34, .istore_n 3, 1) rfl) ?_
      refine zx_sub (lv' := [(0, .ref (12)), (1, .int (v1)), (2, .int (v2)), (3, .int ((0 : Int32)))]) [1, 2, 3, 0] rfl ?_
      exact L_X2_seek_35_ok G hr hlk hI f_l0 h
    · replace h := z_neg hc h
      refine zx_iload_n (pc := 12) G 3 rfl rfl (z_dec T_X2_seek_ok 8 (12, .iload_n 3, 1) rfl) ?_
      refine zx_bipush (pc := 13) (v := 8) G (z_dec T_X2_seek_ok 9 (13, .bipush 8, 2) rfl) rfl ?_
      refine zx_icmp_ge (pc := 15) (tgt := 33) G rfl (z_dec T_X2_seek_ok 10 (15, .if_icmp .ge 18, 3) rfl) (fun hc => ?_) (fun hc => ?_)
      · replace h := z_pos hc h
        refine zx_iconst (pc := 33) (v := 0) G (z_dec T_X2_seek_ok 18 (33, .iconst 0, 1) rfl) rfl ?_
        refine zx_istore_n (pc := 34) (lv' := [(3, .int ((0 : Int32))), (0, .ref (12)), (1, .int (v1)), (2, .int (v2))]) G rfl (Nat.le_of_ble_eq_true rfl) rfl (z_dec T_X2_seek_ok 19 (34, .istore_n 3, 1) rfl) ?_
        refine zx_sub (lv' := [(0, .ref (12)), (1, .int (v1)), (2, .int (v2)), (3, .int ((0 : Int32)))]) [1, 2, 3, 0] rfl ?_
        exact L_X2_seek_35_ok G hr hlk hI f_l0 h
      · replace h := z_neg hc h
        refine zx_aload_n (pc := 18) G (some (12)) 0 rfl rfl (z_dec T_X2_seek_ok 11 (18, .aload_n 0, 1) rfl) ?_
        refine zx_iload_n (pc := 19) G 3 rfl rfl (z_dec T_X2_seek_ok 12 (19, .iload_n 3, 1) rfl) ?_
        refine zx_iconst (pc := 20) (v := 1) G (z_dec T_X2_seek_ok 13 (20, .iconst 1, 1) rfl) rfl ?_
        refine zx_callV_vN (pc := 21) (rm := rm_X2_lift) G cw_RX2_40 ⟨Nat.le_of_ble_eq_true rfl, Nat.le_of_ble_eq_true rfl⟩ rfl rfl ⟨Nat.zero_le _, Nat.zero_le _⟩ f_l0 rfl (fun sz => (met_X2_lift l D ρ kd q μ sz v3 ((1 : Int32)) _ hI f_l0 h)) rfl rfl (Nat.le_of_ble_eq_true rfl) (z_dec T_X2_seek_ok 14 (21, .invokevirtual 40, 3) rfl) (fun μ1 hn => ?_)
        clear h
        have h := hn
        clear hn
        refine zx_iinc (pc := 24) (v := v2 + 1) (lv' := [(2, .int (v2 + 1)), (0, .ref (12)), (1, .int (v1)), (3, .int (v3))]) G 2 rfl (z_inc (by decide)) (Nat.le_of_ble_eq_true rfl) rfl (z_dec T_X2_seek_ok 15 (24, .iinc 2 1, 3) rfl) ?_
        refine zx_iinc (pc := 27) (v := v3 + 1) (lv' := [(3, .int (v3 + 1)), (2, .int (v2 + 1)), (0, .ref (12)), (1, .int (v1))]) G 3 rfl (z_inc (by decide)) (Nat.le_of_ble_eq_true rfl) rfl (z_dec T_X2_seek_ok 16 (27, .iinc 3 1, 3) rfl) ?_
        refine zx_goto (pc := 30) (tgt := 4) G rfl (z_dec T_X2_seek_ok 17 (30, .goto (-26), 3) rfl) ?_
        refine zx_sub (lv' := [(0, .ref (12)), (1, .int (v1)), (2, .int (v2 + 1)), (3, .int (v3 + 1))]) [2, 3, 1, 0] rfl ?_
        exact hP4 _ _ _ _ h f_l0
set_option maxRecDepth 100000 in
set_option maxHeartbeats 4000000 in
theorem L_X2_seek_4_ok {p : Program} {l : Launch} {e : Env} {s : State} {m : MethodId} {args : Array Value} {below : List Frame} {meth : Method} {c : Code} {D : va_G} {A : Nat → Prop} {ρ : z_A} {kd : z_K} {q : z_Q} {μ : z_M} {K : z_M → Prop} {v1 : Int32} {v2 : Int32} {v3 : Int32} (G : z_G p c cX2_seek s m args RX2 6 D) (hr : meth.sig.returnType = (Option.none : Option Jvm.ClassFile.FieldType)) (hlk : meth.locks = false) (hI : z_I kd q) (f_l0 : kd 12 = some (.inl 2)) (h : L_X2_seek_4 kd q K v1 v2 v3 μ) : z_X p l e rm_X2_seek s m args below meth c 6 D A (MQ below (z_Qn D A ρ kd (z_Kv q K)) args s 0 0 A) 0 0 ρ kd q μ 4 [(0, .ref (12)), (1, .int (v1)), (2, .int (v2)), (3, .int (v3))] [] :=
  h (fun (v1 : Int32) (v2 : Int32) (v3 : Int32) (μ : z_M) => (kd 12 = some (.inl 2)) → z_X p l e rm_X2_seek s m args below meth c 6 D A (MQ below (z_Qn D A ρ kd (z_Kv q K)) args s 0 0 A) 0 0 ρ kd q μ 4 [(0, .ref (12)), (1, .int (v1)), (2, .int (v2)), (3, .int (v3))] []) (fun v1 v2 v3 μ h f_l0 => B_X2_seek_4_ok G hr hlk (fun _ _ _ _ h => h) hI f_l0 h) f_l0
set_option maxRecDepth 100000 in
set_option maxHeartbeats 4000000 in
theorem met_X2_seek (l : Launch) (D : va_G) (ρ : z_A) (kd : z_K) (q : z_Q) (μ : z_M) (sz : Nat) (a1 : Int32) (K : z_M → Prop) (hI : z_I kd q) (h_o : kd 12 = some (.inl 2)) (h : C_X2_seek kd q a1 μ K) : Met l yX2_seek (z_ws yX2_seek cX2_seek 6 (Option.none : Option Jvm.ClassFile.FieldType)) rm_X2_seek (z_Pc D ρ kd q μ sz [.ref (12), .int (a1)]) (z_Qn D (z_Rg ρ sz) ρ kd (z_Kv q K)) 0 0 (z_Rg ρ sz) := by
  refine z_met (rm := rm_X2_seek) (by decide) (Nat.le_of_ble_eq_true rfl) (fun p e s m args below meth c G hr hlk => ?_)
  unfold C_X2_seek at h
  show z_X _ _ _ _ _ _ _ _ _ _ _ _ _ _ _ _ _ _ _ _ _ [(0, .ref (12)), (1, .int (a1))] _
  refine zx_iconst (pc := 0) (v := 0) G (z_dec T_X2_seek_ok 0 (0, .iconst 0, 1) rfl) rfl ?_
  refine zx_istore_n (pc := 1) (lv' := [(2, .int ((0 : Int32))), (0, .ref (12)), (1, .int (a1))]) G rfl (Nat.le_of_ble_eq_true rfl) rfl (z_dec T_X2_seek_ok 1 (1, .istore_n 2, 1) rfl) ?_
  refine zx_iconst (pc := 2) (v := 0) G (z_dec T_X2_seek_ok 2 (2, .iconst 0, 1) rfl) rfl ?_
  refine zx_istore_n (pc := 3) (lv' := [(3, .int ((0 : Int32))), (2, .int ((0 : Int32))), (0, .ref (12)), (1, .int (a1))]) G rfl (Nat.le_of_ble_eq_true rfl) rfl (z_dec T_X2_seek_ok 3 (3, .istore_n 3, 1) rfl) ?_
  refine zx_sub (lv' := [(0, .ref (12)), (1, .int (a1)), (2, .int ((0 : Int32))), (3, .int ((0 : Int32)))]) [2, 3, 1, 0] rfl ?_
  exact L_X2_seek_4_ok G hr hlk hI h_o h
abbrev rm_X2_stakeAt : Room := { frames := 1, cells := 0, slots := 0, locals := 21 }
set_option maxRecDepth 100000 in
set_option maxHeartbeats 4000000 in
theorem met_X2_stakeAt (l : Launch) (D : va_G) (ρ : z_A) (kd : z_K) (q : z_Q) (μ : z_M) (sz : Nat) (a1 : Int32) (a2 : Int32) (K : Int32 → z_M → Prop) (hI : z_I kd q) (h_o : kd 12 = some (.inl 2)) (h : C_X2_stakeAt kd q a1 a2 μ K) : Met l yX2_stakeAt (z_ws yX2_stakeAt cX2_stakeAt 4 (Option.some Jvm.ClassFile.FieldType.int)) rm_X2_stakeAt (z_Pc D ρ kd q μ sz [.ref (12), .int (a1), .int (a2)]) (z_Qn D (z_Rg ρ sz) ρ kd (z_Ki q K)) 0 0 (z_Rg ρ sz) := by
  refine z_met (rm := rm_X2_stakeAt) (by decide) (Nat.le_of_ble_eq_true rfl) (fun p e s m args below meth c G hr hlk => ?_)
  unfold C_X2_stakeAt at h
  show z_X _ _ _ _ _ _ _ _ _ _ _ _ _ _ _ _ _ _ _ _ _ [(0, .ref (12)), (1, .int (a1)), (2, .int (a2))] _
  refine zx_iload_n (pc := 0) G 1 rfl rfl (z_dec T_X2_stakeAt_ok 0 (0, .iload_n 1, 1) rfl) ?_
  refine zx_iload_n (pc := 1) G 2 rfl rfl (z_dec T_X2_stakeAt_ok 1 (1, .iload_n 2, 1) rfl) ?_
  refine zx_iadd (pc := 2) G  (z_dec T_X2_stakeAt_ok 2 (2, .iadd, 1) rfl) ?_
  refine zx_iconst (pc := 3) (v := 1) G (z_dec T_X2_stakeAt_ok 3 (3, .iconst 1, 1) rfl) rfl ?_
  refine zx_mmax (pc := 4) G wm_RX2_34 ⟨Nat.le_of_ble_eq_true rfl, Nat.le_of_ble_eq_true rfl, Nat.zero_le _, Nat.zero_le _⟩ (z_dec T_X2_stakeAt_ok 4 (4, .invokestatic 34, 3) rfl) ?_
  refine zx_istore_n (pc := 7) (lv' := [(3, .int (z_max (a1 + a2) ((1 : Int32)))), (0, .ref (12)), (1, .int (a1)), (2, .int (a2))]) G rfl (Nat.le_of_ble_eq_true rfl) rfl (z_dec T_X2_stakeAt_ok 5 (7, .istore_n 3, 1) rfl) ?_
  refine zx_aload_n (pc := 8) G (some (12)) 1 rfl rfl (z_dec T_X2_stakeAt_ok 6 (8, .aload_n 0, 1) rfl) ?_
  refine zx_getI (pc := 9) G gf_RX2_31 rfl h_o (z_dec T_X2_stakeAt_ok 7 (9, .getfield 31, 3) rfl) ?_
  refine zx_iload_n (pc := 12) G 3 rfl rfl (z_dec T_X2_stakeAt_ok 8 (12, .iload_n 2, 1) rfl) ?_
  refine zx_imul (pc := 13) G  (z_dec T_X2_stakeAt_ok 9 (13, .imul, 1) rfl) ?_
  refine zx_iload_n (pc := 14) G 0 rfl rfl (z_dec T_X2_stakeAt_ok 10 (14, .iload_n 3, 1) rfl) ?_
  refine zx_iadd (pc := 15) G  (z_dec T_X2_stakeAt_ok 11 (15, .iadd, 1) rfl) ?_
  refine zx_iconst (pc := 16) (v := 1) G (z_dec T_X2_stakeAt_ok 12 (16, .iconst 1, 1) rfl) rfl ?_
  refine zx_isub (pc := 17) G  (z_dec T_X2_stakeAt_ok 13 (17, .isub, 1) rfl) ?_
  refine zx_iload_n (pc := 18) G 0 rfl rfl (z_dec T_X2_stakeAt_ok 14 (18, .iload_n 3, 1) rfl) ?_
  obtain ⟨c1, h⟩ := h
  refine zx_idiv (pc := 19) G c1 (z_dec T_X2_stakeAt_ok 15 (19, .idiv, 1) rfl) ?_
  exact zx_iret (pc := 20) G hr hlk (Nat.le_refl _) (Nat.le_refl _) (z_dec T_X2_stakeAt_ok 16 (20, .ireturn, 1) rfl) ⟨rfl, _, rfl, h⟩
abbrev rm_X10_byteAt : Room := { frames := 0, cells := 0, slots := 0, locals := 0 }
set_option maxRecDepth 100000 in
set_option maxHeartbeats 4000000 in
theorem met_X10_byteAt (l : Launch) (D : va_G) (ρ : z_A) (kd : z_K) (q : z_Q) (μ : z_M) (sz : Nat) (o : Nat) (a1 : Int32) (K : Int32 → z_M → Prop) (hI : z_I kd q) (h_o : kd o = some (.inl 10)) (h : C_X10_byteAt kd q o a1 μ K) : Met l yX10_byteAt (z_ws yX10_byteAt cX10_byteAt 2 (Option.some Jvm.ClassFile.FieldType.int)) rm_X10_byteAt (z_Pc D ρ kd q μ sz [.ref (o), .int (a1)]) (z_Qn D (z_Rg ρ sz) ρ kd (z_Ki q K)) 0 0 (z_Rg ρ sz) := by
  refine z_met (rm := rm_X10_byteAt) (by decide) (Nat.le_of_ble_eq_true rfl) (fun p e s m args below meth c G hr hlk => ?_)
  unfold C_X10_byteAt at h
  show z_X _ _ _ _ _ _ _ _ _ _ _ _ _ _ _ _ _ _ _ _ _ [(0, .ref (o)), (1, .int (a1))] _
  refine zx_iload_n (pc := 0) G 1 rfl rfl (z_dec T_X10_byteAt_ok 0 (0, .iload_n 1, 1) rfl) ?_
  refine zx_if_lt (pc := 1) (tgt := 20) G rfl (z_dec T_X10_byteAt_ok 1 (1, .ifCond .lt 19, 3) rfl) (fun hc => ?_) (fun hc => ?_)
  · replace h := z_pos hc h
    refine zx_iconst (pc := 20) (v := 0) G (z_dec T_X10_byteAt_ok 10 (20, .iconst 0, 1) rfl) rfl ?_
    exact zx_iret (pc := 21) G hr hlk (Nat.le_refl _) (Nat.le_refl _) (z_dec T_X10_byteAt_ok 11 (21, .ireturn, 1) rfl) ⟨rfl, _, rfl, h⟩
  · replace h := z_neg hc h
    refine zx_iload_n (pc := 4) G 1 rfl rfl (z_dec T_X10_byteAt_ok 2 (4, .iload_n 1, 1) rfl) ?_
    refine zx_sipush (pc := 5) (v := 200) G (z_dec T_X10_byteAt_ok 3 (5, .sipush 200, 3) rfl) rfl ?_
    refine zx_icmp_ge (pc := 8) (tgt := 20) G rfl (z_dec T_X10_byteAt_ok 4 (8, .if_icmp .ge 12, 3) rfl) (fun hc => ?_) (fun hc => ?_)
    · replace h := z_pos hc h
      refine zx_iconst (pc := 20) (v := 0) G (z_dec T_X10_byteAt_ok 10 (20, .iconst 0, 1) rfl) rfl ?_
      exact zx_iret (pc := 21) G hr hlk (Nat.le_refl _) (Nat.le_refl _) (z_dec T_X10_byteAt_ok 11 (21, .ireturn, 1) rfl) ⟨rfl, _, rfl, h⟩
    · replace h := z_neg hc h
      refine zx_aload_n (pc := 11) G (some (o)) 0 rfl rfl (z_dec T_X10_byteAt_ok 5 (11, .aload_n 0, 1) rfl) ?_
      refine zx_getF (pc := 12) (b := o + 1) G gf_RX10_9 rfl h_o (zq_10_0 hI h_o) (z_dec T_X10_byteAt_ok 6 (12, .getfield 9, 3) rfl) ?_
      refine zx_iload_n (pc := 15) G 1 rfl rfl (z_dec T_X10_byteAt_ok 7 (15, .iload_n 1, 1) rfl) ?_
      obtain ⟨c1, h⟩ := h
      refine zx_iald (pc := 16) G (zk_10_0 hI h_o) c1 (z_dec T_X10_byteAt_ok 8 (16, .iaload, 1) rfl) ?_
      refine zx_goto (pc := 17) (tgt := 21) G rfl (z_dec T_X10_byteAt_ok 9 (17, .goto 4, 3) rfl) ?_
      exact zx_iret (pc := 21) G hr hlk (Nat.le_refl _) (Nat.le_refl _) (z_dec T_X10_byteAt_ok 11 (21, .ireturn, 1) rfl) ⟨rfl, _, rfl, h⟩
abbrev rm_X3_fill : Room := { frames := 1, cells := 0, slots := 0, locals := 21 }
set_option maxRecDepth 100000 in
set_option maxHeartbeats 4000000 in
theorem L_X3_fill_130_ok {p : Program} {l : Launch} {e : Env} {s : State} {m : MethodId} {args : Array Value} {below : List Frame} {meth : Method} {c : Code} {D : va_G} {A : Nat → Prop} {ρ : z_A} {kd : z_K} {q : z_Q} {μ : z_M} {K : Int32 → z_M → Prop} {v0 : Nat} {v2 : Int32} (G : z_G p c cX3_fill s m args RX3 4 D) (hr : meth.sig.returnType = (Option.some Jvm.ClassFile.FieldType.boolean)) (hlk : meth.locks = false) (hI : z_I kd q) (f_l0 : kd v0 = some (.inl 3)) (h : L_X3_fill_130 kd q K v0 v2 μ) : z_X p l e rm_X3_fill s m args below meth c 4 D A (MQ below (z_Qn D A ρ kd (z_Kz q K)) args s 0 0 A) 0 0 ρ kd q μ 130 [(0, .ref (v0)), (2, .int (v2))] [] := by
    unfold L_X3_fill_130 at h
    refine zx_aload_n (pc := 130) G (some (v0)) 0 rfl rfl (z_dec T_X3_fill_ok 83 (130, .aload_n 0, 1) rfl) ?_
    refine zx_iload_n (pc := 131) G 1 rfl rfl (z_dec T_X3_fill_ok 84 (131, .iload_n 2, 1) rfl) ?_
    refine zx_putI (pc := 132) G gf_RX3_24 cf_3 rfl rfl f_l0 (z_dec T_X3_fill_ok 85 (132, .putfield 24, 3) rfl) ?_
    refine zx_iconst (pc := 135) (v := 1) G (z_dec T_X3_fill_ok 86 (135, .iconst 1, 1) rfl) rfl ?_
    exact zx_zret (pc := 136) G hr hlk (Nat.le_refl _) (Nat.le_refl _) (Or.inr rfl) (z_dec T_X3_fill_ok 87 (136, .ireturn, 1) rfl) ⟨rfl, _, rfl, (Or.inr rfl), h⟩
set_option maxRecDepth 100000 in
set_option maxHeartbeats 4000000 in
theorem B_X3_fill_2_ok {p : Program} {l : Launch} {e : Env} {s : State} {m : MethodId} {args : Array Value} {below : List Frame} {meth : Method} {c : Code} {D : va_G} {A : Nat → Prop} {ρ : z_A} {kd : z_K} {q : z_Q} {μ : z_M} {K : Int32 → z_M → Prop} {P2 : Nat → Option Nat → Int32 → Int32 → z_M → Prop} {v0 : Nat} {v1 : Option Nat} {v2 : Int32} {v3 : Int32} (G : z_G p c cX3_fill s m args RX3 4 D) (hr : meth.sig.returnType = (Option.some Jvm.ClassFile.FieldType.boolean)) (hlk : meth.locks = false) (hP2 : ∀ (v0 : Nat) (v1 : Option Nat) (v2 : Int32) (v3 : Int32) (μ : z_M), P2 v0 v1 v2 v3 μ → (kd v0 = some (.inl 3)) → (∀ a, v1 = some a → kd a = some (.inl 10)) → z_X p l e rm_X3_fill s m args below meth c 4 D A (MQ below (z_Qn D A ρ kd (z_Kz q K)) args s 0 0 A) 0 0 ρ kd q μ 2 [(0, .ref (v0)), (1, va_rf (v1)), (2, .int (v2)), (3, .int (v3))] []) (hI : z_I kd q) (f_l0 : kd v0 = some (.inl 3)) (f_l1 : ∀ a, v1 = some a → kd a = some (.inl 10)) (h : B_X3_fill_2 kd q K P2 v0 v1 v2 v3 μ) : z_X p l e rm_X3_fill s m args below meth c 4 D A (MQ below (z_Qn D A ρ kd (z_Kz q K)) args s 0 0 A) 0 0 ρ kd q μ 2 [(0, .ref (v0)), (1, va_rf (v1)), (2, .int (v2)), (3, .int (v3))] [] := by
    unfold B_X3_fill_2 at h
    refine zx_iload_n (pc := 2) G 3 rfl rfl (z_dec T_X3_fill_ok 2 (2, .iload_n 3, 1) rfl) ?_
    refine zx_iload_n (pc := 3) G 2 rfl rfl (z_dec T_X3_fill_ok 3 (3, .iload_n 2, 1) rfl) ?_
    refine zx_icmp_ge (pc := 4) (tgt := 130) G rfl (z_dec T_X3_fill_ok 4 (4, .if_icmp .ge 126, 3) rfl) (fun hc => ?_) (fun hc => ?_)
    · replace h := z_pos hc h
      refine zx_sub (lv' := [(0, .ref (v0)), (2, .int (v2))]) [0, 2] rfl ?_
      exact L_X3_fill_130_ok G hr hlk hI f_l0 h
    · replace h := z_neg hc h
      refine zx_iload_n (pc := 7) G 3 rfl rfl (z_dec T_X3_fill_ok 5 (7, .iload_n 3, 1) rfl) ?_
      refine zx_bipush (pc := 8) (v := 24) G (z_dec T_X3_fill_ok 6 (8, .bipush 24, 2) rfl) rfl ?_
      refine zx_icmp_ge (pc := 10) (tgt := 130) G rfl (z_dec T_X3_fill_ok 7 (10, .if_icmp .ge 120, 3) rfl) (fun hc => ?_) (fun hc => ?_)
      · replace h := z_pos hc h
        refine zx_sub (lv' := [(0, .ref (v0)), (2, .int (v2))]) [0, 2] rfl ?_
        exact L_X3_fill_130_ok G hr hlk hI f_l0 h
      · replace h := z_neg hc h
        refine zx_aload_n (pc := 13) G (some (v0)) 0 rfl rfl (z_dec T_X3_fill_ok 8 (13, .aload_n 0, 1) rfl) ?_
        refine zx_getF (pc := 14) (b := v0 + 1) G gf_RX3_9 rfl f_l0 (zq_3_0 hI f_l0) (z_dec T_X3_fill_ok 9 (14, .getfield 9, 3) rfl) ?_
        refine zx_iload_n (pc := 17) G 3 rfl rfl (z_dec T_X3_fill_ok 10 (17, .iload_n 3, 1) rfl) ?_
        refine zx_aload_n (pc := 18) G (v1) 1 rfl rfl (z_dec T_X3_fill_ok 11 (18, .aload_n 1, 1) rfl) ?_
        refine zx_iconst (pc := 19) (v := 2) G (z_dec T_X3_fill_ok 12 (19, .iconst 2, 1) rfl) rfl ?_
        refine zx_iload_n (pc := 20) G 3 rfl rfl (z_dec T_X3_fill_ok 13 (20, .iload_n 3, 1) rfl) ?_
        refine zx_imul (pc := 21) G  (z_dec T_X3_fill_ok 14 (21, .imul, 1) rfl) ?_
        obtain ⟨o1, rfl, h⟩ := h
        refine zx_callV_iN (pc := 22) (rm := rm_X10_byteAt) G cw_RX3_18 ⟨Nat.le_of_ble_eq_true rfl, Nat.le_of_ble_eq_true rfl⟩ rfl rfl ⟨Nat.zero_le _, Nat.zero_le _⟩ (f_l1 o1 rfl) rfl (fun sz => (met_X10_byteAt l D ρ kd q μ sz o1 (((2 : Int32)) * v3) _ hI (f_l1 o1 rfl) h)) rfl rfl (Nat.le_of_ble_eq_true rfl) (z_dec T_X3_fill_ok 15 (22, .invokevirtual 18, 3) rfl) (fun r3 μ2 hn => ?_)
        clear h
        have h := hn
        clear hn
        obtain ⟨c4, h⟩ := h
        refine zx_iast (pc := 25) G (zk_3_0 hI f_l0) c4 (z_dec T_X3_fill_ok 16 (25, .iastore, 1) rfl) ?_
        refine zx_aload_n (pc := 26) G (some (v0)) 0 rfl rfl (z_dec T_X3_fill_ok 17 (26, .aload_n 0, 1) rfl) ?_
        refine zx_getF (pc := 27) (b := v0 + 2) G gf_RX3_15 rfl f_l0 (zq_3_1 hI f_l0) (z_dec T_X3_fill_ok 18 (27, .getfield 15, 3) rfl) ?_
        refine zx_iload_n (pc := 30) G 3 rfl rfl (z_dec T_X3_fill_ok 19 (30, .iload_n 3, 1) rfl) ?_
        refine zx_aload_n (pc := 31) G (some (o1)) 1 rfl rfl (z_dec T_X3_fill_ok 20 (31, .aload_n 1, 1) rfl) ?_
        refine zx_iconst (pc := 32) (v := 2) G (z_dec T_X3_fill_ok 21 (32, .iconst 2, 1) rfl) rfl ?_
        refine zx_iload_n (pc := 33) G 3 rfl rfl (z_dec T_X3_fill_ok 22 (33, .iload_n 3, 1) rfl) ?_
        refine zx_imul (pc := 34) G  (z_dec T_X3_fill_ok 23 (34, .imul, 1) rfl) ?_
        refine zx_iconst (pc := 35) (v := 1) G (z_dec T_X3_fill_ok 24 (35, .iconst 1, 1) rfl) rfl ?_
        refine zx_iadd (pc := 36) G  (z_dec T_X3_fill_ok 25 (36, .iadd, 1) rfl) ?_
        refine zx_callV_iN (pc := 37) (rm := rm_X10_byteAt) G cw_RX3_18 ⟨Nat.le_of_ble_eq_true rfl, Nat.le_of_ble_eq_true rfl⟩ rfl rfl ⟨Nat.zero_le _, Nat.zero_le _⟩ (f_l1 o1 rfl) rfl (fun sz => (met_X10_byteAt l D ρ kd q (si μ2 (v0 + 1) v3.toNatClampNeg r3) sz o1 ((((2 : Int32)) * v3) + ((1 : Int32))) _ hI (f_l1 o1 rfl) h)) rfl rfl (Nat.le_of_ble_eq_true rfl) (z_dec T_X3_fill_ok 26 (37, .invokevirtual 18, 3) rfl) (fun r6 μ5 hn => ?_)
        clear h
        have h := hn
        clear hn
        refine zx_iast (pc := 40) G (zk_3_1 hI f_l0) c4 (z_dec T_X3_fill_ok 27 (40, .iastore, 1) rfl) ?_
        refine zx_aload_n (pc := 41) G (some (v0)) 0 rfl rfl (z_dec T_X3_fill_ok 28 (41, .aload_n 0, 1) rfl) ?_
        refine zx_getF (pc := 42) (b := v0 + 1) G gf_RX3_9 rfl f_l0 (zq_3_0 hI f_l0) (z_dec T_X3_fill_ok 29 (42, .getfield 9, 3) rfl) ?_
        refine zx_iload_n (pc := 45) G 3 rfl rfl (z_dec T_X3_fill_ok 30 (45, .iload_n 3, 1) rfl) ?_
        refine zx_iald (pc := 46) G (zk_3_0 hI f_l0) c4 (z_dec T_X3_fill_ok 31 (46, .iaload, 1) rfl) ?_
        refine zx_iconst (pc := 47) (v := 1) G (z_dec T_X3_fill_ok 32 (47, .iconst 1, 1) rfl) rfl ?_
        refine zx_icmp_lt (pc := 48) (tgt := 83) G rfl (z_dec T_X3_fill_ok 33 (48, .if_icmp .lt 35, 3) rfl) (fun hc => ?_) (fun hc => ?_)
        · replace h := z_pos hc h
          refine zx_iconst (pc := 83) (v := 0) G (z_dec T_X3_fill_ok 52 (83, .iconst 0, 1) rfl) rfl ?_
          exact zx_zret (pc := 84) G hr hlk (Nat.le_refl _) (Nat.le_refl _) (Or.inl rfl) (z_dec T_X3_fill_ok 53 (84, .ireturn, 1) rfl) ⟨rfl, _, rfl, (Or.inl rfl), h⟩
        · replace h := z_neg hc h
          refine zx_aload_n (pc := 51) G (some (v0)) 0 rfl rfl (z_dec T_X3_fill_ok 34 (51, .aload_n 0, 1) rfl) ?_
          refine zx_getF (pc := 52) (b := v0 + 1) G gf_RX3_9 rfl f_l0 (zq_3_0 hI f_l0) (z_dec T_X3_fill_ok 35 (52, .getfield 9, 3) rfl) ?_
          refine zx_iload_n (pc := 55) G 3 rfl rfl (z_dec T_X3_fill_ok 36 (55, .iload_n 3, 1) rfl) ?_
          refine zx_iald (pc := 56) G (zk_3_0 hI f_l0) c4 (z_dec T_X3_fill_ok 37 (56, .iaload, 1) rfl) ?_
          refine zx_bipush (pc := 57) (v := 60) G (z_dec T_X3_fill_ok 38 (57, .bipush 60, 2) rfl) rfl ?_
          refine zx_icmp_gt (pc := 59) (tgt := 83) G rfl (z_dec T_X3_fill_ok 39 (59, .if_icmp .gt 24, 3) rfl) (fun hc => ?_) (fun hc => ?_)
          · replace h := z_pos hc h
            refine zx_iconst (pc := 83) (v := 0) G (z_dec T_X3_fill_ok 52 (83, .iconst 0, 1) rfl) rfl ?_
            exact zx_zret (pc := 84) G hr hlk (Nat.le_refl _) (Nat.le_refl _) (Or.inl rfl) (z_dec T_X3_fill_ok 53 (84, .ireturn, 1) rfl) ⟨rfl, _, rfl, (Or.inl rfl), h⟩
          · replace h := z_neg hc h
            refine zx_aload_n (pc := 62) G (some (v0)) 0 rfl rfl (z_dec T_X3_fill_ok 40 (62, .aload_n 0, 1) rfl) ?_
            refine zx_getF (pc := 63) (b := v0 + 2) G gf_RX3_15 rfl f_l0 (zq_3_1 hI f_l0) (z_dec T_X3_fill_ok 41 (63, .getfield 15, 3) rfl) ?_
            refine zx_iload_n (pc := 66) G 3 rfl rfl (z_dec T_X3_fill_ok 42 (66, .iload_n 3, 1) rfl) ?_
            refine zx_iald (pc := 67) G (zk_3_1 hI f_l0) c4 (z_dec T_X3_fill_ok 43 (67, .iaload, 1) rfl) ?_
            refine zx_iconst (pc := 68) (v := 1) G (z_dec T_X3_fill_ok 44 (68, .iconst 1, 1) rfl) rfl ?_
            refine zx_icmp_lt (pc := 69) (tgt := 83) G rfl (z_dec T_X3_fill_ok 45 (69, .if_icmp .lt 14, 3) rfl) (fun hc => ?_) (fun hc => ?_)
            · replace h := z_pos hc h
              refine zx_iconst (pc := 83) (v := 0) G (z_dec T_X3_fill_ok 52 (83, .iconst 0, 1) rfl) rfl ?_
              exact zx_zret (pc := 84) G hr hlk (Nat.le_refl _) (Nat.le_refl _) (Or.inl rfl) (z_dec T_X3_fill_ok 53 (84, .ireturn, 1) rfl) ⟨rfl, _, rfl, (Or.inl rfl), h⟩
            · replace h := z_neg hc h
              refine zx_aload_n (pc := 72) G (some (v0)) 0 rfl rfl (z_dec T_X3_fill_ok 46 (72, .aload_n 0, 1) rfl) ?_
              refine zx_getF (pc := 73) (b := v0 + 2) G gf_RX3_15 rfl f_l0 (zq_3_1 hI f_l0) (z_dec T_X3_fill_ok 47 (73, .getfield 15, 3) rfl) ?_
              refine zx_iload_n (pc := 76) G 3 rfl rfl (z_dec T_X3_fill_ok 48 (76, .iload_n 3, 1) rfl) ?_
              refine zx_iald (pc := 77) G (zk_3_1 hI f_l0) c4 (z_dec T_X3_fill_ok 49 (77, .iaload, 1) rfl) ?_
              refine zx_bipush (pc := 78) (v := 12) G (z_dec T_X3_fill_ok 50 (78, .bipush 12, 2) rfl) rfl ?_
              refine zx_icmp_le (pc := 80) (tgt := 85) G rfl (z_dec T_X3_fill_ok 51 (80, .if_icmp .le 5, 3) rfl) (fun hc => ?_) (fun hc => ?_)
              · replace h := z_pos hc h
                refine zx_iload_n (pc := 85) G 3 rfl rfl (z_dec T_X3_fill_ok 54 (85, .iload_n 3, 1) rfl) ?_
                refine zx_if_le (pc := 86) (tgt := 124) G rfl (z_dec T_X3_fill_ok 55 (86, .ifCond .le 38, 3) rfl) (fun hc => ?_) (fun hc => ?_)
                · replace h := z_pos hc h
                  refine zx_iinc (pc := 124) (v := v3 + 1) (lv' := [(3, .int (v3 + 1)), (0, .ref (v0)), (1, .ref (o1)), (2, .int (v2))]) G 3 rfl (z_inc (by decide)) (Nat.le_of_ble_eq_true rfl) rfl (z_dec T_X3_fill_ok 81 (124, .iinc 3 1, 3) rfl) ?_
                  refine zx_goto (pc := 127) (tgt := 2) G rfl (z_dec T_X3_fill_ok 82 (127, .goto (-125), 3) rfl) ?_
                  refine zx_sub (lv' := [(0, .ref (v0)), (1, .ref (o1)), (2, .int (v2)), (3, .int (v3 + 1))]) [1, 2, 3, 0] rfl ?_
                  exact hP2 _ _ _ _ _ h f_l0 (fun a ha => by cases ha; exact (f_l1 o1 rfl))
                · replace h := z_neg hc h
                  refine zx_aload_n (pc := 89) G (some (v0)) 0 rfl rfl (z_dec T_X3_fill_ok 56 (89, .aload_n 0, 1) rfl) ?_
                  refine zx_getF (pc := 90) (b := v0 + 1) G gf_RX3_9 rfl f_l0 (zq_3_0 hI f_l0) (z_dec T_X3_fill_ok 57 (90, .getfield 9, 3) rfl) ?_
                  refine zx_iload_n (pc := 93) G 3 rfl rfl (z_dec T_X3_fill_ok 58 (93, .iload_n 3, 1) rfl) ?_
                  refine zx_iald (pc := 94) G (zk_3_0 hI f_l0) c4 (z_dec T_X3_fill_ok 59 (94, .iaload, 1) rfl) ?_
                  refine zx_aload_n (pc := 95) G (some (v0)) 0 rfl rfl (z_dec T_X3_fill_ok 60 (95, .aload_n 0, 1) rfl) ?_
                  refine zx_getF (pc := 96) (b := v0 + 2) G gf_RX3_15 rfl f_l0 (zq_3_1 hI f_l0) (z_dec T_X3_fill_ok 61 (96, .getfield 15, 3) rfl) ?_
                  refine zx_iload_n (pc := 99) G 3 rfl rfl (z_dec T_X3_fill_ok 62 (99, .iload_n 3, 1) rfl) ?_
                  refine zx_iconst (pc := 100) (v := 1) G (z_dec T_X3_fill_ok 63 (100, .iconst 1, 1) rfl) rfl ?_
                  refine zx_isub (pc := 101) G  (z_dec T_X3_fill_ok 64 (101, .isub, 1) rfl) ?_
                  obtain ⟨c7, h⟩ := h
                  refine zx_iald (pc := 102) G (zk_3_1 hI f_l0) c7 (z_dec T_X3_fill_ok 65 (102, .iaload, 1) rfl) ?_
                  refine zx_imul (pc := 103) G  (z_dec T_X3_fill_ok 66 (103, .imul, 1) rfl) ?_
                  refine zx_aload_n (pc := 104) G (some (v0)) 0 rfl rfl (z_dec T_X3_fill_ok 67 (104, .aload_n 0, 1) rfl) ?_
                  refine zx_getF (pc := 105) (b := v0 + 1) G gf_RX3_9 rfl f_l0 (zq_3_0 hI f_l0) (z_dec T_X3_fill_ok 68 (105, .getfield 9, 3) rfl) ?_
                  refine zx_iload_n (pc := 108) G 3 rfl rfl (z_dec T_X3_fill_ok 69 (108, .iload_n 3, 1) rfl) ?_
                  refine zx_iconst (pc := 109) (v := 1) G (z_dec T_X3_fill_ok 70 (109, .iconst 1, 1) rfl) rfl ?_
                  refine zx_isub (pc := 110) G  (z_dec T_X3_fill_ok 71 (110, .isub, 1) rfl) ?_
                  refine zx_iald (pc := 111) G (zk_3_0 hI f_l0) c7 (z_dec T_X3_fill_ok 72 (111, .iaload, 1) rfl) ?_
                  refine zx_aload_n (pc := 112) G (some (v0)) 0 rfl rfl (z_dec T_X3_fill_ok 73 (112, .aload_n 0, 1) rfl) ?_
                  refine zx_getF (pc := 113) (b := v0 + 2) G gf_RX3_15 rfl f_l0 (zq_3_1 hI f_l0) (z_dec T_X3_fill_ok 74 (113, .getfield 15, 3) rfl) ?_
                  refine zx_iload_n (pc := 116) G 3 rfl rfl (z_dec T_X3_fill_ok 75 (116, .iload_n 3, 1) rfl) ?_
                  refine zx_iald (pc := 117) G (zk_3_1 hI f_l0) c4 (z_dec T_X3_fill_ok 76 (117, .iaload, 1) rfl) ?_
                  refine zx_imul (pc := 118) G  (z_dec T_X3_fill_ok 77 (118, .imul, 1) rfl) ?_
                  refine zx_icmp_gt (pc := 119) (tgt := 124) G rfl (z_dec T_X3_fill_ok 78 (119, .if_icmp .gt 5, 3) rfl) (fun hc => ?_) (fun hc => ?_)
                  · replace h := z_pos hc h
                    refine zx_iinc (pc := 124) (v := v3 + 1) (lv' := [(3, .int (v3 + 1)), (0, .ref (v0)), (1, .ref (o1)), (2, .int (v2))]) G 3 rfl (z_inc (by decide)) (Nat.le_of_ble_eq_true rfl) rfl (z_dec T_X3_fill_ok 81 (124, .iinc 3 1, 3) rfl) ?_
                    refine zx_goto (pc := 127) (tgt := 2) G rfl (z_dec T_X3_fill_ok 82 (127, .goto (-125), 3) rfl) ?_
                    refine zx_sub (lv' := [(0, .ref (v0)), (1, .ref (o1)), (2, .int (v2)), (3, .int (v3 + 1))]) [1, 2, 3, 0] rfl ?_
                    exact hP2 _ _ _ _ _ h f_l0 (fun a ha => by cases ha; exact (f_l1 o1 rfl))
                  · replace h := z_neg hc h
                    refine zx_iconst (pc := 122) (v := 0) G (z_dec T_X3_fill_ok 79 (122, .iconst 0, 1) rfl) rfl ?_
                    exact zx_zret (pc := 123) G hr hlk (Nat.le_refl _) (Nat.le_refl _) (Or.inl rfl) (z_dec T_X3_fill_ok 80 (123, .ireturn, 1) rfl) ⟨rfl, _, rfl, (Or.inl rfl), h⟩
              · replace h := z_neg hc h
                refine zx_iconst (pc := 83) (v := 0) G (z_dec T_X3_fill_ok 52 (83, .iconst 0, 1) rfl) rfl ?_
                exact zx_zret (pc := 84) G hr hlk (Nat.le_refl _) (Nat.le_refl _) (Or.inl rfl) (z_dec T_X3_fill_ok 53 (84, .ireturn, 1) rfl) ⟨rfl, _, rfl, (Or.inl rfl), h⟩
set_option maxRecDepth 100000 in
set_option maxHeartbeats 4000000 in
theorem L_X3_fill_2_ok {p : Program} {l : Launch} {e : Env} {s : State} {m : MethodId} {args : Array Value} {below : List Frame} {meth : Method} {c : Code} {D : va_G} {A : Nat → Prop} {ρ : z_A} {kd : z_K} {q : z_Q} {μ : z_M} {K : Int32 → z_M → Prop} {v0 : Nat} {v1 : Option Nat} {v2 : Int32} {v3 : Int32} (G : z_G p c cX3_fill s m args RX3 4 D) (hr : meth.sig.returnType = (Option.some Jvm.ClassFile.FieldType.boolean)) (hlk : meth.locks = false) (hI : z_I kd q) (f_l0 : kd v0 = some (.inl 3)) (f_l1 : ∀ a, v1 = some a → kd a = some (.inl 10)) (h : L_X3_fill_2 kd q K v0 v1 v2 v3 μ) : z_X p l e rm_X3_fill s m args below meth c 4 D A (MQ below (z_Qn D A ρ kd (z_Kz q K)) args s 0 0 A) 0 0 ρ kd q μ 2 [(0, .ref (v0)), (1, va_rf (v1)), (2, .int (v2)), (3, .int (v3))] [] :=
  h (fun (v0 : Nat) (v1 : Option Nat) (v2 : Int32) (v3 : Int32) (μ : z_M) => (kd v0 = some (.inl 3)) → (∀ a, v1 = some a → kd a = some (.inl 10)) → z_X p l e rm_X3_fill s m args below meth c 4 D A (MQ below (z_Qn D A ρ kd (z_Kz q K)) args s 0 0 A) 0 0 ρ kd q μ 2 [(0, .ref (v0)), (1, va_rf (v1)), (2, .int (v2)), (3, .int (v3))] []) (fun v0 v1 v2 v3 μ h f_l0 f_l1 => B_X3_fill_2_ok G hr hlk (fun _ _ _ _ _ h => h) hI f_l0 f_l1 h) f_l0 f_l1
set_option maxRecDepth 100000 in
set_option maxHeartbeats 4000000 in
theorem met_X3_fill (l : Launch) (D : va_G) (ρ : z_A) (kd : z_K) (q : z_Q) (μ : z_M) (sz : Nat) (o : Nat) (a1 : Option Nat) (a2 : Int32) (K : Int32 → z_M → Prop) (hI : z_I kd q) (h_o : kd o = some (.inl 3)) (h_a1 : ∀ a, a1 = some a → kd a = some (.inl 10)) (h : C_X3_fill kd q o a1 a2 μ K) : Met l yX3_fill (z_ws yX3_fill cX3_fill 4 (Option.some Jvm.ClassFile.FieldType.boolean)) rm_X3_fill (z_Pc D ρ kd q μ sz [.ref (o), va_rf (a1), .int (a2)]) (z_Qn D (z_Rg ρ sz) ρ kd (z_Kz q K)) 0 0 (z_Rg ρ sz) := by
  refine z_met (rm := rm_X3_fill) (by decide) (by cases a1 <;> exact Nat.le_of_ble_eq_true rfl) (fun p e s m args below meth c G hr hlk => ?_)
  unfold C_X3_fill at h
  rw [show lv_args 0 [.ref (o), va_rf (a1), .int (a2)] = [(0, .ref (o)), (1, va_rf (a1)), (2, .int (a2))] from by cases a1 <;> rfl]
  refine zx_iconst (pc := 0) (v := 0) G (z_dec T_X3_fill_ok 0 (0, .iconst 0, 1) rfl) rfl ?_
  refine zx_istore_n (pc := 1) (lv' := [(3, .int ((0 : Int32))), (0, .ref (o)), (1, va_rf (a1)), (2, .int (a2))]) G rfl (Nat.le_of_ble_eq_true rfl) rfl (z_dec T_X3_fill_ok 1 (1, .istore_n 3, 1) rfl) ?_
  refine zx_sub (lv' := [(0, .ref (o)), (1, va_rf (a1)), (2, .int (a2)), (3, .int ((0 : Int32)))]) [1, 2, 3, 0] rfl ?_
  exact L_X3_fill_2_ok G hr hlk hI h_o h_a1 h
abbrev rm_X3_holds : Room := { frames := 0, cells := 0, slots := 0, locals := 0 }
set_option maxRecDepth 100000 in
set_option maxHeartbeats 4000000 in
theorem met_X3_holds (l : Launch) (D : va_G) (ρ : z_A) (kd : z_K) (q : z_Q) (μ : z_M) (sz : Nat) (o : Nat) (a1 : Int32) (K : Int32 → z_M → Prop) (hI : z_I kd q) (h_o : kd o = some (.inl 3)) (h : C_X3_holds kd q o a1 μ K) : Met l yX3_holds (z_ws yX3_holds cX3_holds 2 (Option.some Jvm.ClassFile.FieldType.boolean)) rm_X3_holds (z_Pc D ρ kd q μ sz [.ref (o), .int (a1)]) (z_Qn D (z_Rg ρ sz) ρ kd (z_Kz q K)) 0 0 (z_Rg ρ sz) := by
  refine z_met (rm := rm_X3_holds) (by decide) (Nat.le_of_ble_eq_true rfl) (fun p e s m args below meth c G hr hlk => ?_)
  unfold C_X3_holds at h
  show z_X _ _ _ _ _ _ _ _ _ _ _ _ _ _ _ _ _ _ _ _ _ [(0, .ref (o)), (1, .int (a1))] _
  refine zx_iload_n (pc := 0) G 1 rfl rfl (z_dec T_X3_holds_ok 0 (0, .iload_n 1, 1) rfl) ?_
  refine zx_if_lt (pc := 1) (tgt := 22) G rfl (z_dec T_X3_holds_ok 1 (1, .ifCond .lt 21, 3) rfl) (fun hc => ?_) (fun hc => ?_)
  · replace h := z_pos hc h
    refine zx_iconst (pc := 22) (v := 0) G (z_dec T_X3_holds_ok 11 (22, .iconst 0, 1) rfl) rfl ?_
    exact zx_zret (pc := 23) G hr hlk (Nat.le_refl _) (Nat.le_refl _) (Or.inl rfl) (z_dec T_X3_holds_ok 12 (23, .ireturn, 1) rfl) ⟨rfl, _, rfl, (Or.inl rfl), h⟩
  · replace h := z_neg hc h
    refine zx_iload_n (pc := 4) G 1 rfl rfl (z_dec T_X3_holds_ok 2 (4, .iload_n 1, 1) rfl) ?_
    refine zx_aload_n (pc := 5) G (some (o)) 0 rfl rfl (z_dec T_X3_holds_ok 3 (5, .aload_n 0, 1) rfl) ?_
    refine zx_getI (pc := 6) G gf_RX3_24 rfl h_o (z_dec T_X3_holds_ok 4 (6, .getfield 24, 3) rfl) ?_
    refine zx_icmp_ge (pc := 9) (tgt := 22) G rfl (z_dec T_X3_holds_ok 5 (9, .if_icmp .ge 13, 3) rfl) (fun hc => ?_) (fun hc => ?_)
    · replace h := z_pos hc h
      refine zx_iconst (pc := 22) (v := 0) G (z_dec T_X3_holds_ok 11 (22, .iconst 0, 1) rfl) rfl ?_
      exact zx_zret (pc := 23) G hr hlk (Nat.le_refl _) (Nat.le_refl _) (Or.inl rfl) (z_dec T_X3_holds_ok 12 (23, .ireturn, 1) rfl) ⟨rfl, _, rfl, (Or.inl rfl), h⟩
    · replace h := z_neg hc h
      refine zx_iload_n (pc := 12) G 1 rfl rfl (z_dec T_X3_holds_ok 6 (12, .iload_n 1, 1) rfl) ?_
      refine zx_bipush (pc := 13) (v := 24) G (z_dec T_X3_holds_ok 7 (13, .bipush 24, 2) rfl) rfl ?_
      refine zx_icmp_ge (pc := 15) (tgt := 22) G rfl (z_dec T_X3_holds_ok 8 (15, .if_icmp .ge 7, 3) rfl) (fun hc => ?_) (fun hc => ?_)
      · replace h := z_pos hc h
        refine zx_iconst (pc := 22) (v := 0) G (z_dec T_X3_holds_ok 11 (22, .iconst 0, 1) rfl) rfl ?_
        exact zx_zret (pc := 23) G hr hlk (Nat.le_refl _) (Nat.le_refl _) (Or.inl rfl) (z_dec T_X3_holds_ok 12 (23, .ireturn, 1) rfl) ⟨rfl, _, rfl, (Or.inl rfl), h⟩
      · replace h := z_neg hc h
        refine zx_iconst (pc := 18) (v := 1) G (z_dec T_X3_holds_ok 9 (18, .iconst 1, 1) rfl) rfl ?_
        refine zx_goto (pc := 19) (tgt := 23) G rfl (z_dec T_X3_holds_ok 10 (19, .goto 4, 3) rfl) ?_
        exact zx_zret (pc := 23) G hr hlk (Nat.le_refl _) (Nat.le_refl _) (Or.inr rfl) (z_dec T_X3_holds_ok 12 (23, .ireturn, 1) rfl) ⟨rfl, _, rfl, (Or.inr rfl), h⟩
abbrev rm_X3_aOf : Room := { frames := 1, cells := 0, slots := 0, locals := 21 }
set_option maxRecDepth 100000 in
set_option maxHeartbeats 4000000 in
theorem met_X3_aOf (l : Launch) (D : va_G) (ρ : z_A) (kd : z_K) (q : z_Q) (μ : z_M) (sz : Nat) (o : Nat) (a1 : Int32) (K : Int32 → z_M → Prop) (hI : z_I kd q) (h_o : kd o = some (.inl 3)) (h : C_X3_aOf kd q o a1 μ K) : Met l yX3_aOf (z_ws yX3_aOf cX3_aOf 2 (Option.some Jvm.ClassFile.FieldType.int)) rm_X3_aOf (z_Pc D ρ kd q μ sz [.ref (o), .int (a1)]) (z_Qn D (z_Rg ρ sz) ρ kd (z_Ki q K)) 0 0 (z_Rg ρ sz) := by
  refine z_met (rm := rm_X3_aOf) (by decide) (Nat.le_of_ble_eq_true rfl) (fun p e s m args below meth c G hr hlk => ?_)
  unfold C_X3_aOf at h
  show z_X _ _ _ _ _ _ _ _ _ _ _ _ _ _ _ _ _ _ _ _ _ [(0, .ref (o)), (1, .int (a1))] _
  refine zx_aload_n (pc := 0) G (some (o)) 0 rfl rfl (z_dec T_X3_aOf_ok 0 (0, .aload_n 0, 1) rfl) ?_
  refine zx_iload_n (pc := 1) G 1 rfl rfl (z_dec T_X3_aOf_ok 1 (1, .iload_n 1, 1) rfl) ?_
  refine zx_callV_zN (pc := 2) (rm := rm_X3_holds) G cw_RX3_28 ⟨Nat.le_of_ble_eq_true rfl, Nat.le_of_ble_eq_true rfl⟩ rfl rfl ⟨Nat.zero_le _, Nat.zero_le _⟩ h_o rfl (fun sz => (met_X3_holds l D ρ kd q μ sz o a1 _ hI h_o h)) rfl rfl (Nat.le_of_ble_eq_true rfl) (z_dec T_X3_aOf_ok 2 (2, .invokevirtual 28, 3) rfl) (fun r2 μ1 hzr2 hn => ?_)
  clear h
  have h := hn
  clear hn
  refine zx_if_eq (pc := 5) (tgt := 17) G rfl (z_dec T_X3_aOf_ok 3 (5, .ifCond .eq 12, 3) rfl) (fun hc => ?_) (fun hc => ?_)
  · replace h := z_pos hc h
    refine zx_iconst (pc := 17) (v := 0) G (z_dec T_X3_aOf_ok 9 (17, .iconst 0, 1) rfl) rfl ?_
    exact zx_iret (pc := 18) G hr hlk (Nat.le_refl _) (Nat.le_refl _) (z_dec T_X3_aOf_ok 10 (18, .ireturn, 1) rfl) ⟨rfl, _, rfl, h⟩
  · replace h := z_neg hc h
    refine zx_aload_n (pc := 8) G (some (o)) 0 rfl rfl (z_dec T_X3_aOf_ok 4 (8, .aload_n 0, 1) rfl) ?_
    refine zx_getF (pc := 9) (b := o + 1) G gf_RX3_9 rfl h_o (zq_3_0 hI h_o) (z_dec T_X3_aOf_ok 5 (9, .getfield 9, 3) rfl) ?_
    refine zx_iload_n (pc := 12) G 1 rfl rfl (z_dec T_X3_aOf_ok 6 (12, .iload_n 1, 1) rfl) ?_
    obtain ⟨c3, h⟩ := h
    refine zx_iald (pc := 13) G (zk_3_0 hI h_o) c3 (z_dec T_X3_aOf_ok 7 (13, .iaload, 1) rfl) ?_
    refine zx_goto (pc := 14) (tgt := 18) G rfl (z_dec T_X3_aOf_ok 8 (14, .goto 4, 3) rfl) ?_
    exact zx_iret (pc := 18) G hr hlk (Nat.le_refl _) (Nat.le_refl _) (z_dec T_X3_aOf_ok 10 (18, .ireturn, 1) rfl) ⟨rfl, _, rfl, h⟩
abbrev rm_X3_bOf : Room := { frames := 1, cells := 0, slots := 0, locals := 21 }
set_option maxRecDepth 100000 in
set_option maxHeartbeats 4000000 in
theorem met_X3_bOf (l : Launch) (D : va_G) (ρ : z_A) (kd : z_K) (q : z_Q) (μ : z_M) (sz : Nat) (o : Nat) (a1 : Int32) (K : Int32 → z_M → Prop) (hI : z_I kd q) (h_o : kd o = some (.inl 3)) (h : C_X3_bOf kd q o a1 μ K) : Met l yX3_bOf (z_ws yX3_bOf cX3_bOf 2 (Option.some Jvm.ClassFile.FieldType.int)) rm_X3_bOf (z_Pc D ρ kd q μ sz [.ref (o), .int (a1)]) (z_Qn D (z_Rg ρ sz) ρ kd (z_Ki q K)) 0 0 (z_Rg ρ sz) := by
  refine z_met (rm := rm_X3_bOf) (by decide) (Nat.le_of_ble_eq_true rfl) (fun p e s m args below meth c G hr hlk => ?_)
  unfold C_X3_bOf at h
  show z_X _ _ _ _ _ _ _ _ _ _ _ _ _ _ _ _ _ _ _ _ _ [(0, .ref (o)), (1, .int (a1))] _
  refine zx_aload_n (pc := 0) G (some (o)) 0 rfl rfl (z_dec T_X3_bOf_ok 0 (0, .aload_n 0, 1) rfl) ?_
  refine zx_iload_n (pc := 1) G 1 rfl rfl (z_dec T_X3_bOf_ok 1 (1, .iload_n 1, 1) rfl) ?_
  refine zx_callV_zN (pc := 2) (rm := rm_X3_holds) G cw_RX3_28 ⟨Nat.le_of_ble_eq_true rfl, Nat.le_of_ble_eq_true rfl⟩ rfl rfl ⟨Nat.zero_le _, Nat.zero_le _⟩ h_o rfl (fun sz => (met_X3_holds l D ρ kd q μ sz o a1 _ hI h_o h)) rfl rfl (Nat.le_of_ble_eq_true rfl) (z_dec T_X3_bOf_ok 2 (2, .invokevirtual 28, 3) rfl) (fun r2 μ1 hzr2 hn => ?_)
  clear h
  have h := hn
  clear hn
  refine zx_if_eq (pc := 5) (tgt := 17) G rfl (z_dec T_X3_bOf_ok 3 (5, .ifCond .eq 12, 3) rfl) (fun hc => ?_) (fun hc => ?_)
  · replace h := z_pos hc h
    refine zx_iconst (pc := 17) (v := 1) G (z_dec T_X3_bOf_ok 9 (17, .iconst 1, 1) rfl) rfl ?_
    exact zx_iret (pc := 18) G hr hlk (Nat.le_refl _) (Nat.le_refl _) (z_dec T_X3_bOf_ok 10 (18, .ireturn, 1) rfl) ⟨rfl, _, rfl, h⟩
  · replace h := z_neg hc h
    refine zx_aload_n (pc := 8) G (some (o)) 0 rfl rfl (z_dec T_X3_bOf_ok 4 (8, .aload_n 0, 1) rfl) ?_
    refine zx_getF (pc := 9) (b := o + 2) G gf_RX3_15 rfl h_o (zq_3_1 hI h_o) (z_dec T_X3_bOf_ok 5 (9, .getfield 15, 3) rfl) ?_
    refine zx_iload_n (pc := 12) G 1 rfl rfl (z_dec T_X3_bOf_ok 6 (12, .iload_n 1, 1) rfl) ?_
    obtain ⟨c3, h⟩ := h
    refine zx_iald (pc := 13) G (zk_3_1 hI h_o) c3 (z_dec T_X3_bOf_ok 7 (13, .iaload, 1) rfl) ?_
    refine zx_goto (pc := 14) (tgt := 18) G rfl (z_dec T_X3_bOf_ok 8 (14, .goto 4, 3) rfl) ?_
    exact zx_iret (pc := 18) G hr hlk (Nat.le_refl _) (Nat.le_refl _) (z_dec T_X3_bOf_ok 10 (18, .ireturn, 1) rfl) ⟨rfl, _, rfl, h⟩
abbrev rm_X3_wholeOf : Room := { frames := 2, cells := 0, slots := 0, locals := 42 }
set_option maxRecDepth 100000 in
set_option maxHeartbeats 4000000 in
theorem met_X3_wholeOf (l : Launch) (D : va_G) (ρ : z_A) (kd : z_K) (q : z_Q) (μ : z_M) (sz : Nat) (o : Nat) (a1 : Int32) (K : Int32 → z_M → Prop) (hI : z_I kd q) (h_o : kd o = some (.inl 3)) (h : C_X3_wholeOf kd q o a1 μ K) : Met l yX3_wholeOf (z_ws yX3_wholeOf cX3_wholeOf 2 (Option.some Jvm.ClassFile.FieldType.int)) rm_X3_wholeOf (z_Pc D ρ kd q μ sz [.ref (o), .int (a1)]) (z_Qn D (z_Rg ρ sz) ρ kd (z_Ki q K)) 0 0 (z_Rg ρ sz) := by
  refine z_met (rm := rm_X3_wholeOf) (by decide) (Nat.le_of_ble_eq_true rfl) (fun p e s m args below meth c G hr hlk => ?_)
  unfold C_X3_wholeOf at h
  show z_X _ _ _ _ _ _ _ _ _ _ _ _ _ _ _ _ _ _ _ _ _ [(0, .ref (o)), (1, .int (a1))] _
  refine zx_aload_n (pc := 0) G (some (o)) 0 rfl rfl (z_dec T_X3_wholeOf_ok 0 (0, .aload_n 0, 1) rfl) ?_
  refine zx_iload_n (pc := 1) G 1 rfl rfl (z_dec T_X3_wholeOf_ok 1 (1, .iload_n 1, 1) rfl) ?_
  refine zx_callV_iN (pc := 2) (rm := rm_X3_aOf) G cw_RX3_32 ⟨Nat.le_of_ble_eq_true rfl, Nat.le_of_ble_eq_true rfl⟩ rfl rfl ⟨Nat.zero_le _, Nat.zero_le _⟩ h_o rfl (fun sz => (met_X3_aOf l D ρ kd q μ sz o a1 _ hI h_o h)) rfl rfl (Nat.le_of_ble_eq_true rfl) (z_dec T_X3_wholeOf_ok 2 (2, .invokevirtual 32, 3) rfl) (fun r2 μ1 hn => ?_)
  clear h
  have h := hn
  clear hn
  refine zx_aload_n (pc := 5) G (some (o)) 0 rfl rfl (z_dec T_X3_wholeOf_ok 3 (5, .aload_n 0, 1) rfl) ?_
  refine zx_iload_n (pc := 6) G 1 rfl rfl (z_dec T_X3_wholeOf_ok 4 (6, .iload_n 1, 1) rfl) ?_
  refine zx_callV_iN (pc := 7) (rm := rm_X3_bOf) G cw_RX3_35 ⟨Nat.le_of_ble_eq_true rfl, Nat.le_of_ble_eq_true rfl⟩ rfl rfl ⟨Nat.zero_le _, Nat.zero_le _⟩ h_o rfl (fun sz => (met_X3_bOf l D ρ kd q μ1 sz o a1 _ hI h_o h)) rfl rfl (Nat.le_of_ble_eq_true rfl) (z_dec T_X3_wholeOf_ok 5 (7, .invokevirtual 35, 3) rfl) (fun r4 μ3 hn => ?_)
  clear h
  have h := hn
  clear hn
  refine zx_iadd (pc := 10) G  (z_dec T_X3_wholeOf_ok 6 (10, .iadd, 1) rfl) ?_
  exact zx_iret (pc := 11) G hr hlk (Nat.le_refl _) (Nat.le_refl _) (z_dec T_X3_wholeOf_ok 7 (11, .ireturn, 1) rfl) ⟨rfl, _, rfl, h⟩
abbrev rm_X3_won : Room := { frames := 2, cells := 0, slots := 0, locals := 42 }
set_option maxRecDepth 100000 in
set_option maxHeartbeats 4000000 in
theorem met_X3_won (l : Launch) (D : va_G) (ρ : z_A) (kd : z_K) (q : z_Q) (μ : z_M) (sz : Nat) (o : Nat) (a1 : Int32) (a2 : Int32) (K : Int32 → z_M → Prop) (hI : z_I kd q) (h_o : kd o = some (.inl 3)) (h : C_X3_won kd q o a1 a2 μ K) : Met l yX3_won (z_ws yX3_won cX3_won 3 (Option.some Jvm.ClassFile.FieldType.int)) rm_X3_won (z_Pc D ρ kd q μ sz [.ref (o), .int (a1), .int (a2)]) (z_Qn D (z_Rg ρ sz) ρ kd (z_Ki q K)) 0 0 (z_Rg ρ sz) := by
  refine z_met (rm := rm_X3_won) (by decide) (Nat.le_of_ble_eq_true rfl) (fun p e s m args below meth c G hr hlk => ?_)
  unfold C_X3_won at h
  show z_X _ _ _ _ _ _ _ _ _ _ _ _ _ _ _ _ _ _ _ _ _ [(0, .ref (o)), (1, .int (a1)), (2, .int (a2))] _
  refine zx_iload_n (pc := 0) G 1 rfl rfl (z_dec T_X3_won_ok 0 (0, .iload_n 1, 1) rfl) ?_
  refine zx_aload_n (pc := 1) G (some (o)) 0 rfl rfl (z_dec T_X3_won_ok 1 (1, .aload_n 0, 1) rfl) ?_
  refine zx_iload_n (pc := 2) G 2 rfl rfl (z_dec T_X3_won_ok 2 (2, .iload_n 2, 1) rfl) ?_
  refine zx_callV_iN (pc := 3) (rm := rm_X3_aOf) G cw_RX3_32 ⟨Nat.le_of_ble_eq_true rfl, Nat.le_of_ble_eq_true rfl⟩ rfl rfl ⟨Nat.zero_le _, Nat.zero_le _⟩ h_o rfl (fun sz => (met_X3_aOf l D ρ kd q μ sz o a2 _ hI h_o h)) rfl rfl (Nat.le_of_ble_eq_true rfl) (z_dec T_X3_won_ok 3 (3, .invokevirtual 32, 3) rfl) (fun r2 μ1 hn => ?_)
  clear h
  have h := hn
  clear hn
  refine zx_imul (pc := 6) G  (z_dec T_X3_won_ok 4 (6, .imul, 1) rfl) ?_
  refine zx_aload_n (pc := 7) G (some (o)) 0 rfl rfl (z_dec T_X3_won_ok 5 (7, .aload_n 0, 1) rfl) ?_
  refine zx_iload_n (pc := 8) G 2 rfl rfl (z_dec T_X3_won_ok 6 (8, .iload_n 2, 1) rfl) ?_
  refine zx_callV_iN (pc := 9) (rm := rm_X3_bOf) G cw_RX3_35 ⟨Nat.le_of_ble_eq_true rfl, Nat.le_of_ble_eq_true rfl⟩ rfl rfl ⟨Nat.zero_le _, Nat.zero_le _⟩ h_o rfl (fun sz => (met_X3_bOf l D ρ kd q μ1 sz o a2 _ hI h_o h)) rfl rfl (Nat.le_of_ble_eq_true rfl) (z_dec T_X3_won_ok 7 (9, .invokevirtual 35, 3) rfl) (fun r4 μ3 hn => ?_)
  clear h
  have h := hn
  clear hn
  obtain ⟨c5, h⟩ := h
  refine zx_idiv (pc := 12) G c5 (z_dec T_X3_won_ok 8 (12, .idiv, 1) rfl) ?_
  exact zx_iret (pc := 13) G hr hlk (Nat.le_refl _) (Nat.le_refl _) (z_dec T_X3_won_ok 9 (13, .ireturn, 1) rfl) ⟨rfl, _, rfl, h⟩
abbrev rm_X6_holds : Room := { frames := 0, cells := 0, slots := 0, locals := 0 }
set_option maxRecDepth 100000 in
set_option maxHeartbeats 4000000 in
theorem met_X6_holds (l : Launch) (D : va_G) (ρ : z_A) (kd : z_K) (q : z_Q) (μ : z_M) (sz : Nat) (o : Nat) (a1 : Int32) (K : Int32 → z_M → Prop) (hI : z_I kd q) (h_o : kd o = some (.inl 6)) (h : C_X6_holds kd q o a1 μ K) : Met l yX6_holds (z_ws yX6_holds cX6_holds 2 (Option.some Jvm.ClassFile.FieldType.boolean)) rm_X6_holds (z_Pc D ρ kd q μ sz [.ref (o), .int (a1)]) (z_Qn D (z_Rg ρ sz) ρ kd (z_Kz q K)) 0 0 (z_Rg ρ sz) := by
  refine z_met (rm := rm_X6_holds) (by decide) (Nat.le_of_ble_eq_true rfl) (fun p e s m args below meth c G hr hlk => ?_)
  unfold C_X6_holds at h
  show z_X _ _ _ _ _ _ _ _ _ _ _ _ _ _ _ _ _ _ _ _ _ [(0, .ref (o)), (1, .int (a1))] _
  refine zx_iload_n (pc := 0) G 1 rfl rfl (z_dec T_X6_holds_ok 0 (0, .iload_n 1, 1) rfl) ?_
  refine zx_if_lt (pc := 1) (tgt := 16) G rfl (z_dec T_X6_holds_ok 1 (1, .ifCond .lt 15, 3) rfl) (fun hc => ?_) (fun hc => ?_)
  · replace h := z_pos hc h
    refine zx_iconst (pc := 16) (v := 0) G (z_dec T_X6_holds_ok 8 (16, .iconst 0, 1) rfl) rfl ?_
    exact zx_zret (pc := 17) G hr hlk (Nat.le_refl _) (Nat.le_refl _) (Or.inl rfl) (z_dec T_X6_holds_ok 9 (17, .ireturn, 1) rfl) ⟨rfl, _, rfl, (Or.inl rfl), h⟩
  · replace h := z_neg hc h
    refine zx_iload_n (pc := 4) G 1 rfl rfl (z_dec T_X6_holds_ok 2 (4, .iload_n 1, 1) rfl) ?_
    refine zx_aload_n (pc := 5) G (some (o)) 0 rfl rfl (z_dec T_X6_holds_ok 3 (5, .aload_n 0, 1) rfl) ?_
    refine zx_getI (pc := 6) G gf_RX6_9 rfl h_o (z_dec T_X6_holds_ok 4 (6, .getfield 9, 3) rfl) ?_
    refine zx_icmp_ge (pc := 9) (tgt := 16) G rfl (z_dec T_X6_holds_ok 5 (9, .if_icmp .ge 7, 3) rfl) (fun hc => ?_) (fun hc => ?_)
    · replace h := z_pos hc h
      refine zx_iconst (pc := 16) (v := 0) G (z_dec T_X6_holds_ok 8 (16, .iconst 0, 1) rfl) rfl ?_
      exact zx_zret (pc := 17) G hr hlk (Nat.le_refl _) (Nat.le_refl _) (Or.inl rfl) (z_dec T_X6_holds_ok 9 (17, .ireturn, 1) rfl) ⟨rfl, _, rfl, (Or.inl rfl), h⟩
    · replace h := z_neg hc h
      refine zx_iconst (pc := 12) (v := 1) G (z_dec T_X6_holds_ok 6 (12, .iconst 1, 1) rfl) rfl ?_
      refine zx_goto (pc := 13) (tgt := 17) G rfl (z_dec T_X6_holds_ok 7 (13, .goto 4, 3) rfl) ?_
      exact zx_zret (pc := 17) G hr hlk (Nat.le_refl _) (Nat.le_refl _) (Or.inr rfl) (z_dec T_X6_holds_ok 9 (17, .ireturn, 1) rfl) ⟨rfl, _, rfl, (Or.inr rfl), h⟩
abbrev rm_X6_isGone : Room := { frames := 1, cells := 0, slots := 0, locals := 21 }
set_option maxRecDepth 100000 in
set_option maxHeartbeats 4000000 in
theorem met_X6_isGone (l : Launch) (D : va_G) (ρ : z_A) (kd : z_K) (q : z_Q) (μ : z_M) (sz : Nat) (o : Nat) (a1 : Int32) (K : Int32 → z_M → Prop) (hI : z_I kd q) (h_o : kd o = some (.inl 6)) (h : C_X6_isGone kd q o a1 μ K) : Met l yX6_isGone (z_ws yX6_isGone cX6_isGone 2 (Option.some Jvm.ClassFile.FieldType.boolean)) rm_X6_isGone (z_Pc D ρ kd q μ sz [.ref (o), .int (a1)]) (z_Qn D (z_Rg ρ sz) ρ kd (z_Kz q K)) 0 0 (z_Rg ρ sz) := by
  refine z_met (rm := rm_X6_isGone) (by decide) (Nat.le_of_ble_eq_true rfl) (fun p e s m args below meth c G hr hlk => ?_)
  unfold C_X6_isGone at h
  show z_X _ _ _ _ _ _ _ _ _ _ _ _ _ _ _ _ _ _ _ _ _ [(0, .ref (o)), (1, .int (a1))] _
  refine zx_aload_n (pc := 0) G (some (o)) 0 rfl rfl (z_dec T_X6_isGone_ok 0 (0, .aload_n 0, 1) rfl) ?_
  refine zx_iload_n (pc := 1) G 1 rfl rfl (z_dec T_X6_isGone_ok 1 (1, .iload_n 1, 1) rfl) ?_
  refine zx_callV_zN (pc := 2) (rm := rm_X6_holds) G cw_RX6_25 ⟨Nat.le_of_ble_eq_true rfl, Nat.le_of_ble_eq_true rfl⟩ rfl rfl ⟨Nat.zero_le _, Nat.zero_le _⟩ h_o rfl (fun sz => (met_X6_holds l D ρ kd q μ sz o a1 _ hI h_o h)) rfl rfl (Nat.le_of_ble_eq_true rfl) (z_dec T_X6_isGone_ok 2 (2, .invokevirtual 25, 3) rfl) (fun r2 μ1 hzr2 hn => ?_)
  clear h
  have h := hn
  clear hn
  refine zx_if_eq (pc := 5) (tgt := 23) G rfl (z_dec T_X6_isGone_ok 3 (5, .ifCond .eq 18, 3) rfl) (fun hc => ?_) (fun hc => ?_)
  · replace h := z_pos hc h
    refine zx_iconst (pc := 23) (v := 0) G (z_dec T_X6_isGone_ok 13 (23, .iconst 0, 1) rfl) rfl ?_
    exact zx_zret (pc := 24) G hr hlk (Nat.le_refl _) (Nat.le_refl _) (Or.inl rfl) (z_dec T_X6_isGone_ok 14 (24, .ireturn, 1) rfl) ⟨rfl, _, rfl, (Or.inl rfl), h⟩
  · replace h := z_neg hc h
    refine zx_aload_n (pc := 8) G (some (o)) 0 rfl rfl (z_dec T_X6_isGone_ok 4 (8, .aload_n 0, 1) rfl) ?_
    refine zx_getI (pc := 9) G gf_RX6_29 rfl h_o (z_dec T_X6_isGone_ok 5 (9, .getfield 29, 3) rfl) ?_
    refine zx_iload_n (pc := 12) G 1 rfl rfl (z_dec T_X6_isGone_ok 6 (12, .iload_n 1, 1) rfl) ?_
    refine zx_ishr (pc := 13) G  (z_dec T_X6_isGone_ok 7 (13, .ishr, 1) rfl) ?_
    refine zx_iconst (pc := 14) (v := 1) G (z_dec T_X6_isGone_ok 8 (14, .iconst 1, 1) rfl) rfl ?_
    refine zx_iand (pc := 15) G  (z_dec T_X6_isGone_ok 9 (15, .iand, 1) rfl) ?_
    refine zx_if_eq (pc := 16) (tgt := 23) G rfl (z_dec T_X6_isGone_ok 10 (16, .ifCond .eq 7, 3) rfl) (fun hc => ?_) (fun hc => ?_)
    · replace h := z_pos hc h
      refine zx_iconst (pc := 23) (v := 0) G (z_dec T_X6_isGone_ok 13 (23, .iconst 0, 1) rfl) rfl ?_
      exact zx_zret (pc := 24) G hr hlk (Nat.le_refl _) (Nat.le_refl _) (Or.inl rfl) (z_dec T_X6_isGone_ok 14 (24, .ireturn, 1) rfl) ⟨rfl, _, rfl, (Or.inl rfl), h⟩
    · replace h := z_neg hc h
      refine zx_iconst (pc := 19) (v := 1) G (z_dec T_X6_isGone_ok 11 (19, .iconst 1, 1) rfl) rfl ?_
      refine zx_goto (pc := 20) (tgt := 24) G rfl (z_dec T_X6_isGone_ok 12 (20, .goto 4, 3) rfl) ?_
      exact zx_zret (pc := 24) G hr hlk (Nat.le_refl _) (Nat.le_refl _) (Or.inr rfl) (z_dec T_X6_isGone_ok 14 (24, .ireturn, 1) rfl) ⟨rfl, _, rfl, (Or.inr rfl), h⟩
abbrev rm_X6_runs : Room := { frames := 2, cells := 0, slots := 0, locals := 42 }
set_option maxRecDepth 100000 in
set_option maxHeartbeats 4000000 in
theorem met_X6_runs (l : Launch) (D : va_G) (ρ : z_A) (kd : z_K) (q : z_Q) (μ : z_M) (sz : Nat) (o : Nat) (a1 : Int32) (K : Int32 → z_M → Prop) (hI : z_I kd q) (h_o : kd o = some (.inl 6)) (h : C_X6_runs kd q o a1 μ K) : Met l yX6_runs (z_ws yX6_runs cX6_runs 2 (Option.some Jvm.ClassFile.FieldType.boolean)) rm_X6_runs (z_Pc D ρ kd q μ sz [.ref (o), .int (a1)]) (z_Qn D (z_Rg ρ sz) ρ kd (z_Kz q K)) 0 0 (z_Rg ρ sz) := by
  refine z_met (rm := rm_X6_runs) (by decide) (Nat.le_of_ble_eq_true rfl) (fun p e s m args below meth c G hr hlk => ?_)
  unfold C_X6_runs at h
  show z_X _ _ _ _ _ _ _ _ _ _ _ _ _ _ _ _ _ _ _ _ _ [(0, .ref (o)), (1, .int (a1))] _
  refine zx_aload_n (pc := 0) G (some (o)) 0 rfl rfl (z_dec T_X6_runs_ok 0 (0, .aload_n 0, 1) rfl) ?_
  refine zx_iload_n (pc := 1) G 1 rfl rfl (z_dec T_X6_runs_ok 1 (1, .iload_n 1, 1) rfl) ?_
  refine zx_callV_zN (pc := 2) (rm := rm_X6_holds) G cw_RX6_25 ⟨Nat.le_of_ble_eq_true rfl, Nat.le_of_ble_eq_true rfl⟩ rfl rfl ⟨Nat.zero_le _, Nat.zero_le _⟩ h_o rfl (fun sz => (met_X6_holds l D ρ kd q μ sz o a1 _ hI h_o h)) rfl rfl (Nat.le_of_ble_eq_true rfl) (z_dec T_X6_runs_ok 2 (2, .invokevirtual 25, 3) rfl) (fun r2 μ1 hzr2 hn => ?_)
  clear h
  have h := hn
  clear hn
  refine zx_if_eq (pc := 5) (tgt := 20) G rfl (z_dec T_X6_runs_ok 3 (5, .ifCond .eq 15, 3) rfl) (fun hc => ?_) (fun hc => ?_)
  · replace h := z_pos hc h
    refine zx_iconst (pc := 20) (v := 0) G (z_dec T_X6_runs_ok 10 (20, .iconst 0, 1) rfl) rfl ?_
    exact zx_zret (pc := 21) G hr hlk (Nat.le_refl _) (Nat.le_refl _) (Or.inl rfl) (z_dec T_X6_runs_ok 11 (21, .ireturn, 1) rfl) ⟨rfl, _, rfl, (Or.inl rfl), h⟩
  · replace h := z_neg hc h
    refine zx_aload_n (pc := 8) G (some (o)) 0 rfl rfl (z_dec T_X6_runs_ok 4 (8, .aload_n 0, 1) rfl) ?_
    refine zx_iload_n (pc := 9) G 1 rfl rfl (z_dec T_X6_runs_ok 5 (9, .iload_n 1, 1) rfl) ?_
    refine zx_callV_zN (pc := 10) (rm := rm_X6_isGone) G cw_RX6_32 ⟨Nat.le_of_ble_eq_true rfl, Nat.le_of_ble_eq_true rfl⟩ rfl rfl ⟨Nat.zero_le _, Nat.zero_le _⟩ h_o rfl (fun sz => (met_X6_isGone l D ρ kd q μ1 sz o a1 _ hI h_o h)) rfl rfl (Nat.le_of_ble_eq_true rfl) (z_dec T_X6_runs_ok 6 (10, .invokevirtual 32, 3) rfl) (fun r4 μ3 hzr4 hn => ?_)
    clear h
    have h := hn
    clear hn
    refine zx_if_ne (pc := 13) (tgt := 20) G rfl (z_dec T_X6_runs_ok 7 (13, .ifCond .ne 7, 3) rfl) (fun hc => ?_) (fun hc => ?_)
    · replace h := z_neg hc h
      refine zx_iconst (pc := 20) (v := 0) G (z_dec T_X6_runs_ok 10 (20, .iconst 0, 1) rfl) rfl ?_
      exact zx_zret (pc := 21) G hr hlk (Nat.le_refl _) (Nat.le_refl _) (Or.inl rfl) (z_dec T_X6_runs_ok 11 (21, .ireturn, 1) rfl) ⟨rfl, _, rfl, (Or.inl rfl), h⟩
    · replace h := z_pos hc h
      refine zx_iconst (pc := 16) (v := 1) G (z_dec T_X6_runs_ok 8 (16, .iconst 1, 1) rfl) rfl ?_
      refine zx_goto (pc := 17) (tgt := 21) G rfl (z_dec T_X6_runs_ok 9 (17, .goto 4, 3) rfl) ?_
      exact zx_zret (pc := 21) G hr hlk (Nat.le_refl _) (Nat.le_refl _) (Or.inr rfl) (z_dec T_X6_runs_ok 11 (21, .ireturn, 1) rfl) ⟨rfl, _, rfl, (Or.inr rfl), h⟩
abbrev rm_X4_start : Room := { frames := 3, cells := 0, slots := 0, locals := 63 }
set_option maxRecDepth 100000 in
set_option maxHeartbeats 4000000 in
theorem L_X4_start_130_ok {p : Program} {l : Launch} {e : Env} {s : State} {m : MethodId} {args : Array Value} {below : List Frame} {meth : Method} {c : Code} {D : va_G} {A : Nat → Prop} {ρ : z_A} {kd : z_K} {q : z_Q} {μ : z_M} {K : z_M → Prop} (G : z_G p c cX4_start s m args RX4 5 D) (hr : meth.sig.returnType = (Option.none : Option Jvm.ClassFile.FieldType)) (hlk : meth.locks = false) (hI : z_I kd q) (f_l0 : kd 17 = some (.inl 4)) (h : L_X4_start_130 kd q K μ) : z_X p l e rm_X4_start s m args below meth c 5 D A (MQ below (z_Qn D A ρ kd (z_Kv q K)) args s 0 0 A) 0 0 ρ kd q μ 130 [(0, .ref (17))] [] := by
    unfold L_X4_start_130 at h
    refine zx_aload_n (pc := 130) G (some (17)) 0 rfl rfl (z_dec T_X4_start_ok 65 (130, .aload_n 0, 1) rfl) ?_
    refine zx_aload_n (pc := 131) G (some (17)) 0 rfl rfl (z_dec T_X4_start_ok 66 (131, .aload_n 0, 1) rfl) ?_
    refine zx_getI (pc := 132) G gf_RX4_26 rfl f_l0 (z_dec T_X4_start_ok 67 (132, .getfield 26, 3) rfl) ?_
    refine zx_putI (pc := 135) G gf_RX4_49 cf_4 rfl rfl f_l0 (z_dec T_X4_start_ok 68 (135, .putfield 49, 3) rfl) ?_
    exact zx_vret (pc := 138) G hr hlk (Nat.le_refl _) (Nat.le_refl _) (z_dec T_X4_start_ok 69 (138, .return_, 1) rfl) ⟨rfl, rfl, h⟩
set_option maxRecDepth 100000 in
set_option maxHeartbeats 4000000 in
theorem B_X4_start_25_ok {p : Program} {l : Launch} {e : Env} {s : State} {m : MethodId} {args : Array Value} {below : List Frame} {meth : Method} {c : Code} {D : va_G} {A : Nat → Prop} {ρ : z_A} {kd : z_K} {q : z_Q} {μ : z_M} {K : z_M → Prop} {P25 : Option Nat → Option Nat → Int32 → Int32 → z_M → Prop} {v1 : Option Nat} {v2 : Option Nat} {v3 : Int32} {v4 : Int32} (G : z_G p c cX4_start s m args RX4 5 D) (hr : meth.sig.returnType = (Option.none : Option Jvm.ClassFile.FieldType)) (hlk : meth.locks = false) (hP25 : ∀ (v1 : Option Nat) (v2 : Option Nat) (v3 : Int32) (v4 : Int32) (μ : z_M), P25 v1 v2 v3 v4 μ → (kd 17 = some (.inl 4)) → (∀ a, v1 = some a → kd a = some (.inl 1)) → (∀ a, v2 = some a → kd a = some (.inl 6)) → z_X p l e rm_X4_start s m args below meth c 5 D A (MQ below (z_Qn D A ρ kd (z_Kv q K)) args s 0 0 A) 0 0 ρ kd q μ 25 [(0, .ref (17)), (1, va_rf (v1)), (2, va_rf (v2)), (3, .int (v3)), (4, .int (v4))] []) (hI : z_I kd q) (f_l0 : kd 17 = some (.inl 4)) (f_l1 : ∀ a, v1 = some a → kd a = some (.inl 1)) (f_l2 : ∀ a, v2 = some a → kd a = some (.inl 6)) (h : B_X4_start_25 kd q K P25 v1 v2 v3 v4 μ) : z_X p l e rm_X4_start s m args below meth c 5 D A (MQ below (z_Qn D A ρ kd (z_Kv q K)) args s 0 0 A) 0 0 ρ kd q μ 25 [(0, .ref (17)), (1, va_rf (v1)), (2, va_rf (v2)), (3, .int (v3)), (4, .int (v4))] [] := by
    unfold B_X4_start_25 at h
    refine zx_iload (pc := 25) G 4 rfl (z_dec T_X4_start_ok 14 (25, .iload 4, 2) rfl) ?_
    refine zx_aload_n (pc := 27) G (v2) 2 rfl rfl (z_dec T_X4_start_ok 15 (27, .aload_n 2, 1) rfl) ?_
    obtain ⟨o1, rfl, h⟩ := h
    refine zx_getI (pc := 28) G gf_RX4_29 rfl (f_l2 o1 rfl) (z_dec T_X4_start_ok 16 (28, .getfield 29, 3) rfl) ?_
    refine zx_icmp_ge (pc := 31) (tgt := 130) G rfl (z_dec T_X4_start_ok 17 (31, .if_icmp .ge 99, 3) rfl) (fun hc => ?_) (fun hc => ?_)
    · replace h := z_pos hc h
      refine zx_sub (lv' := [(0, .ref (17))]) [0] rfl ?_
      exact L_X4_start_130_ok G hr hlk hI f_l0 h
    · replace h := z_neg hc h
      refine zx_iload (pc := 34) G 4 rfl (z_dec T_X4_start_ok 18 (34, .iload 4, 2) rfl) ?_
      refine zx_bipush (pc := 36) (v := 8) G (z_dec T_X4_start_ok 19 (36, .bipush 8, 2) rfl) rfl ?_
      refine zx_icmp_ge (pc := 38) (tgt := 130) G rfl (z_dec T_X4_start_ok 20 (38, .if_icmp .ge 92, 3) rfl) (fun hc => ?_) (fun hc => ?_)
      · replace h := z_pos hc h
        refine zx_sub (lv' := [(0, .ref (17))]) [0] rfl ?_
        exact L_X4_start_130_ok G hr hlk hI f_l0 h
      · replace h := z_neg hc h
        refine zx_aload_n (pc := 41) G (some (o1)) 2 rfl rfl (z_dec T_X4_start_ok 21 (41, .aload_n 2, 1) rfl) ?_
        refine zx_iload (pc := 42) G 4 rfl (z_dec T_X4_start_ok 22 (42, .iload 4, 2) rfl) ?_
        refine zx_callV_zN (pc := 44) (rm := rm_X6_runs) G cw_RX4_34 ⟨Nat.le_of_ble_eq_true rfl, Nat.le_of_ble_eq_true rfl⟩ rfl rfl ⟨Nat.zero_le _, Nat.zero_le _⟩ (f_l2 o1 rfl) rfl (fun sz => (met_X6_runs l D ρ kd q μ sz o1 v4 _ hI (f_l2 o1 rfl) h)) rfl rfl (Nat.le_of_ble_eq_true rfl) (z_dec T_X4_start_ok 23 (44, .invokevirtual 34, 3) rfl) (fun r3 μ2 hzr3 hn => ?_)
        clear h
        have h := hn
        clear hn
        refine zx_if_eq (pc := 47) (tgt := 124) G rfl (z_dec T_X4_start_ok 24 (47, .ifCond .eq 77, 3) rfl) (fun hc => ?_) (fun hc => ?_)
        · replace h := z_pos hc h
          refine zx_iinc (pc := 124) (v := v4 + 1) (lv' := [(4, .int (v4 + 1)), (0, .ref (17)), (1, va_rf (v1)), (2, .ref (o1)), (3, .int (v3))]) G 4 rfl (z_inc (by decide)) (Nat.le_of_ble_eq_true rfl) rfl (z_dec T_X4_start_ok 63 (124, .iinc 4 1, 3) rfl) ?_
          refine zx_goto (pc := 127) (tgt := 25) G rfl (z_dec T_X4_start_ok 64 (127, .goto (-102), 3) rfl) ?_
          refine zx_sub (lv' := [(0, .ref (17)), (1, va_rf (v1)), (2, .ref (o1)), (3, .int (v3)), (4, .int (v4 + 1))]) [1, 2, 3, 4, 0] rfl ?_
          exact hP25 _ _ _ _ _ h f_l0 f_l1 (fun a ha => by cases ha; exact (f_l2 o1 rfl))
        · replace h := z_neg hc h
          refine zx_aload_n (pc := 50) G (some (17)) 0 rfl rfl (z_dec T_X4_start_ok 25 (50, .aload_n 0, 1) rfl) ?_
          refine zx_getF (pc := 51) (b := 18) G gf_RX4_9 rfl f_l0 (zq_4_0 hI f_l0) (z_dec T_X4_start_ok 26 (51, .getfield 9, 3) rfl) ?_
          refine zx_iload (pc := 54) G 4 rfl (z_dec T_X4_start_ok 27 (54, .iload 4, 2) rfl) ?_
          refine zx_aload_n (pc := 56) G (v1) 1 rfl rfl (z_dec T_X4_start_ok 28 (56, .aload_n 1, 1) rfl) ?_
          refine zx_iload_n (pc := 57) G 3 rfl rfl (z_dec T_X4_start_ok 29 (57, .iload_n 3, 1) rfl) ?_
          refine zx_iload (pc := 58) G 4 rfl (z_dec T_X4_start_ok 30 (58, .iload 4, 2) rfl) ?_
          obtain ⟨o4, rfl, h⟩ := h
          refine zx_callV_iN (pc := 60) (rm := rm_X1_balanceAt) G cw_RX4_38 ⟨Nat.le_of_ble_eq_true rfl, Nat.le_of_ble_eq_true rfl⟩ rfl rfl ⟨Nat.zero_le _, Nat.zero_le _⟩ (f_l1 o4 rfl) rfl (fun sz => (met_X1_balanceAt l D ρ kd q μ2 sz o4 v3 v4 _ hI (f_l1 o4 rfl) h)) rfl rfl (Nat.le_of_ble_eq_true rfl) (z_dec T_X4_start_ok 31 (60, .invokevirtual 38, 3) rfl) (fun r6 μ5 hn => ?_)
          clear h
          have h := hn
          clear hn
          obtain ⟨c7, h⟩ := h
          refine zx_iast (pc := 63) G (zk_4_0 hI f_l0) c7 (z_dec T_X4_start_ok 32 (63, .iastore, 1) rfl) ?_
          refine zx_aload_n (pc := 64) G (some (17)) 0 rfl rfl (z_dec T_X4_start_ok 33 (64, .aload_n 0, 1) rfl) ?_
          refine zx_getF (pc := 65) (b := 18) G gf_RX4_9 rfl f_l0 (zq_4_0 hI f_l0) (z_dec T_X4_start_ok 34 (65, .getfield 9, 3) rfl) ?_
          refine zx_iload (pc := 68) G 4 rfl (z_dec T_X4_start_ok 35 (68, .iload 4, 2) rfl) ?_
          refine zx_iald (pc := 70) G (zk_4_0 hI f_l0) c7 (z_dec T_X4_start_ok 36 (70, .iaload, 1) rfl) ?_
          refine zx_aload_n (pc := 71) G (some (17)) 0 rfl rfl (z_dec T_X4_start_ok 37 (71, .aload_n 0, 1) rfl) ?_
          refine zx_getI (pc := 72) G gf_RX4_26 rfl f_l0 (z_dec T_X4_start_ok 38 (72, .getfield 26, 3) rfl) ?_
          refine zx_icmp_ge (pc := 75) (tgt := 106) G rfl (z_dec T_X4_start_ok 39 (75, .if_icmp .ge 31, 3) rfl) (fun hc => ?_) (fun hc => ?_)
          · replace h := z_pos hc h
            refine zx_aload_n (pc := 106) G (some (17)) 0 rfl rfl (z_dec T_X4_start_ok 54 (106, .aload_n 0, 1) rfl) ?_
            refine zx_aload_n (pc := 107) G (some (17)) 0 rfl rfl (z_dec T_X4_start_ok 55 (107, .aload_n 0, 1) rfl) ?_
            refine zx_getI (pc := 108) G gf_RX4_23 rfl f_l0 (z_dec T_X4_start_ok 56 (108, .getfield 23, 3) rfl) ?_
            refine zx_aload_n (pc := 111) G (some (17)) 0 rfl rfl (z_dec T_X4_start_ok 57 (111, .aload_n 0, 1) rfl) ?_
            refine zx_getF (pc := 112) (b := 18) G gf_RX4_9 rfl f_l0 (zq_4_0 hI f_l0) (z_dec T_X4_start_ok 58 (112, .getfield 9, 3) rfl) ?_
            refine zx_iload (pc := 115) G 4 rfl (z_dec T_X4_start_ok 59 (115, .iload 4, 2) rfl) ?_
            refine zx_iald (pc := 117) G (zk_4_0 hI f_l0) c7 (z_dec T_X4_start_ok 60 (117, .iaload, 1) rfl) ?_
            refine zx_mmin (pc := 118) G wm_RX4_44 ⟨Nat.le_of_ble_eq_true rfl, Nat.le_of_ble_eq_true rfl, Nat.zero_le _, Nat.zero_le _⟩ (z_dec T_X4_start_ok 61 (118, .invokestatic 44, 3) rfl) ?_
            refine zx_putI (pc := 121) G gf_RX4_23 cf_4 rfl rfl f_l0 (z_dec T_X4_start_ok 62 (121, .putfield 23, 3) rfl) ?_
            refine zx_iinc (pc := 124) (v := v4 + 1) (lv' := [(4, .int (v4 + 1)), (0, .ref (17)), (1, .ref (o4)), (2, .ref (o1)), (3, .int (v3))]) G 4 rfl (z_inc (by decide)) (Nat.le_of_ble_eq_true rfl) rfl (z_dec T_X4_start_ok 63 (124, .iinc 4 1, 3) rfl) ?_
            refine zx_goto (pc := 127) (tgt := 25) G rfl (z_dec T_X4_start_ok 64 (127, .goto (-102), 3) rfl) ?_
            refine zx_sub (lv' := [(0, .ref (17)), (1, .ref (o4)), (2, .ref (o1)), (3, .int (v3)), (4, .int (v4 + 1))]) [1, 2, 3, 4, 0] rfl ?_
            exact hP25 _ _ _ _ _ h f_l0 (fun a ha => by cases ha; exact (f_l1 o4 rfl)) (fun a ha => by cases ha; exact (f_l2 o1 rfl))
          · replace h := z_neg hc h
            refine zx_aload_n (pc := 78) G (some (17)) 0 rfl rfl (z_dec T_X4_start_ok 40 (78, .aload_n 0, 1) rfl) ?_
            refine zx_aload_n (pc := 79) G (some (17)) 0 rfl rfl (z_dec T_X4_start_ok 41 (79, .aload_n 0, 1) rfl) ?_
            refine zx_getI (pc := 80) G gf_RX4_26 rfl f_l0 (z_dec T_X4_start_ok 42 (80, .getfield 26, 3) rfl) ?_
            refine zx_putI (pc := 83) G gf_RX4_23 cf_4 rfl rfl f_l0 (z_dec T_X4_start_ok 43 (83, .putfield 23, 3) rfl) ?_
            refine zx_aload_n (pc := 86) G (some (17)) 0 rfl rfl (z_dec T_X4_start_ok 44 (86, .aload_n 0, 1) rfl) ?_
            refine zx_aload_n (pc := 87) G (some (17)) 0 rfl rfl (z_dec T_X4_start_ok 45 (87, .aload_n 0, 1) rfl) ?_
            refine zx_getF (pc := 88) (b := 18) G gf_RX4_9 rfl f_l0 (zq_4_0 hI f_l0) (z_dec T_X4_start_ok 46 (88, .getfield 9, 3) rfl) ?_
            refine zx_iload (pc := 91) G 4 rfl (z_dec T_X4_start_ok 47 (91, .iload 4, 2) rfl) ?_
            refine zx_iald (pc := 93) G (zk_4_0 hI f_l0) c7 (z_dec T_X4_start_ok 48 (93, .iaload, 1) rfl) ?_
            refine zx_putI (pc := 94) G gf_RX4_26 cf_4 rfl rfl f_l0 (z_dec T_X4_start_ok 49 (94, .putfield 26, 3) rfl) ?_
            refine zx_aload_n (pc := 97) G (some (17)) 0 rfl rfl (z_dec T_X4_start_ok 50 (97, .aload_n 0, 1) rfl) ?_
            refine zx_iload (pc := 98) G 4 rfl (z_dec T_X4_start_ok 51 (98, .iload 4, 2) rfl) ?_
            refine zx_putI (pc := 100) G gf_RX4_19 cf_4 rfl rfl f_l0 (z_dec T_X4_start_ok 52 (100, .putfield 19, 3) rfl) ?_
            refine zx_goto (pc := 103) (tgt := 124) G rfl (z_dec T_X4_start_ok 53 (103, .goto 21, 3) rfl) ?_
            refine zx_iinc (pc := 124) (v := v4 + 1) (lv' := [(4, .int (v4 + 1)), (0, .ref (17)), (1, .ref (o4)), (2, .ref (o1)), (3, .int (v3))]) G 4 rfl (z_inc (by decide)) (Nat.le_of_ble_eq_true rfl) rfl (z_dec T_X4_start_ok 63 (124, .iinc 4 1, 3) rfl) ?_
            refine zx_goto (pc := 127) (tgt := 25) G rfl (z_dec T_X4_start_ok 64 (127, .goto (-102), 3) rfl) ?_
            refine zx_sub (lv' := [(0, .ref (17)), (1, .ref (o4)), (2, .ref (o1)), (3, .int (v3)), (4, .int (v4 + 1))]) [1, 2, 3, 4, 0] rfl ?_
            exact hP25 _ _ _ _ _ h f_l0 (fun a ha => by cases ha; exact (f_l1 o4 rfl)) (fun a ha => by cases ha; exact (f_l2 o1 rfl))
set_option maxRecDepth 100000 in
set_option maxHeartbeats 4000000 in
theorem L_X4_start_25_ok {p : Program} {l : Launch} {e : Env} {s : State} {m : MethodId} {args : Array Value} {below : List Frame} {meth : Method} {c : Code} {D : va_G} {A : Nat → Prop} {ρ : z_A} {kd : z_K} {q : z_Q} {μ : z_M} {K : z_M → Prop} {v1 : Option Nat} {v2 : Option Nat} {v3 : Int32} {v4 : Int32} (G : z_G p c cX4_start s m args RX4 5 D) (hr : meth.sig.returnType = (Option.none : Option Jvm.ClassFile.FieldType)) (hlk : meth.locks = false) (hI : z_I kd q) (f_l0 : kd 17 = some (.inl 4)) (f_l1 : ∀ a, v1 = some a → kd a = some (.inl 1)) (f_l2 : ∀ a, v2 = some a → kd a = some (.inl 6)) (h : L_X4_start_25 kd q K v1 v2 v3 v4 μ) : z_X p l e rm_X4_start s m args below meth c 5 D A (MQ below (z_Qn D A ρ kd (z_Kv q K)) args s 0 0 A) 0 0 ρ kd q μ 25 [(0, .ref (17)), (1, va_rf (v1)), (2, va_rf (v2)), (3, .int (v3)), (4, .int (v4))] [] :=
  h (fun (v1 : Option Nat) (v2 : Option Nat) (v3 : Int32) (v4 : Int32) (μ : z_M) => (kd 17 = some (.inl 4)) → (∀ a, v1 = some a → kd a = some (.inl 1)) → (∀ a, v2 = some a → kd a = some (.inl 6)) → z_X p l e rm_X4_start s m args below meth c 5 D A (MQ below (z_Qn D A ρ kd (z_Kv q K)) args s 0 0 A) 0 0 ρ kd q μ 25 [(0, .ref (17)), (1, va_rf (v1)), (2, va_rf (v2)), (3, .int (v3)), (4, .int (v4))] []) (fun v1 v2 v3 v4 μ h f_l0 f_l1 f_l2 => B_X4_start_25_ok G hr hlk (fun _ _ _ _ _ h => h) hI f_l0 f_l1 f_l2 h) f_l0 f_l1 f_l2
set_option maxRecDepth 100000 in
set_option maxHeartbeats 4000000 in
theorem met_X4_start (l : Launch) (D : va_G) (ρ : z_A) (kd : z_K) (q : z_Q) (μ : z_M) (sz : Nat) (a1 : Option Nat) (a2 : Option Nat) (a3 : Int32) (K : z_M → Prop) (hI : z_I kd q) (h_o : kd 17 = some (.inl 4)) (h_a1 : ∀ a, a1 = some a → kd a = some (.inl 1)) (h_a2 : ∀ a, a2 = some a → kd a = some (.inl 6)) (h : C_X4_start kd q a1 a2 a3 μ K) : Met l yX4_start (z_ws yX4_start cX4_start 5 (Option.none : Option Jvm.ClassFile.FieldType)) rm_X4_start (z_Pc D ρ kd q μ sz [.ref (17), va_rf (a1), va_rf (a2), .int (a3)]) (z_Qn D (z_Rg ρ sz) ρ kd (z_Kv q K)) 0 0 (z_Rg ρ sz) := by
  refine z_met (rm := rm_X4_start) (by decide) (by cases a1 <;> cases a2 <;> exact Nat.le_of_ble_eq_true rfl) (fun p e s m args below meth c G hr hlk => ?_)
  unfold C_X4_start at h
  rw [show lv_args 0 [.ref (17), va_rf (a1), va_rf (a2), .int (a3)] = [(0, .ref (17)), (1, va_rf (a1)), (2, va_rf (a2)), (3, .int (a3))] from by cases a1 <;> cases a2 <;> rfl]
  refine zx_aload_n (pc := 0) G (some (17)) 0 rfl rfl (z_dec T_X4_start_ok 0 (0, .aload_n 0, 1) rfl) ?_
  refine zx_iconst (pc := 1) (v := -1) G (z_dec T_X4_start_ok 1 (1, .iconst (-1), 1) rfl) rfl ?_
  refine zx_putI (pc := 2) G gf_RX4_15 cf_4 rfl rfl h_o (z_dec T_X4_start_ok 2 (2, .putfield 15, 3) rfl) ?_
  refine zx_aload_n (pc := 5) G (some (17)) 0 rfl rfl (z_dec T_X4_start_ok 3 (5, .aload_n 0, 1) rfl) ?_
  refine zx_iconst (pc := 6) (v := -1) G (z_dec T_X4_start_ok 4 (6, .iconst (-1), 1) rfl) rfl ?_
  refine zx_putI (pc := 7) G gf_RX4_19 cf_4 rfl rfl h_o (z_dec T_X4_start_ok 5 (7, .putfield 19, 3) rfl) ?_
  refine zx_aload_n (pc := 10) G (some (17)) 0 rfl rfl (z_dec T_X4_start_ok 6 (10, .aload_n 0, 1) rfl) ?_
  refine zx_ldc (pc := 11) G wk_RX4_22 (z_dec T_X4_start_ok 7 (11, .ldc 22, 2) rfl) ?_
  refine zx_putI (pc := 13) G gf_RX4_23 cf_4 rfl rfl h_o (z_dec T_X4_start_ok 8 (13, .putfield 23, 3) rfl) ?_
  refine zx_aload_n (pc := 16) G (some (17)) 0 rfl rfl (z_dec T_X4_start_ok 9 (16, .aload_n 0, 1) rfl) ?_
  refine zx_ldc (pc := 17) G wk_RX4_22 (z_dec T_X4_start_ok 10 (17, .ldc 22, 2) rfl) ?_
  refine zx_putI (pc := 19) G gf_RX4_26 cf_4 rfl rfl h_o (z_dec T_X4_start_ok 11 (19, .putfield 26, 3) rfl) ?_
  refine zx_iconst (pc := 22) (v := 0) G (z_dec T_X4_start_ok 12 (22, .iconst 0, 1) rfl) rfl ?_
  refine zx_istore (pc := 23) (lv' := [(4, .int ((0 : Int32))), (0, .ref (17)), (1, va_rf (a1)), (2, va_rf (a2)), (3, .int (a3))]) G (Nat.le_of_ble_eq_true rfl) rfl (z_dec T_X4_start_ok 13 (23, .istore 4, 2) rfl) ?_
  refine zx_sub (lv' := [(0, .ref (17)), (1, va_rf (a1)), (2, va_rf (a2)), (3, .int (a3)), (4, .int ((0 : Int32)))]) [1, 2, 3, 4, 0] rfl ?_
  exact L_X4_start_25_ok G hr hlk hI h_o h_a1 h_a2 h
abbrev rm_X4_offer : Room := { frames := 1, cells := 0, slots := 0, locals := 21 }
set_option maxRecDepth 100000 in
set_option maxHeartbeats 4000000 in
theorem L_X4_offer_30_ok {p : Program} {l : Launch} {e : Env} {s : State} {m : MethodId} {args : Array Value} {below : List Frame} {meth : Method} {c : Code} {D : va_G} {A : Nat → Prop} {ρ : z_A} {kd : z_K} {q : z_Q} {μ : z_M} {K : z_M → Prop} {v1 : Int32} {v2 : Int32} {v3 : Int32} {v4 : Int32} {t0 : Int32} (G : z_G p c cX4_offer s m args RX4 7 D) (hr : meth.sig.returnType = (Option.none : Option Jvm.ClassFile.FieldType)) (hlk : meth.locks = false) (hI : z_I kd q) (f_l0 : kd 17 = some (.inl 4)) (h : L_X4_offer_30 kd q K v1 v2 v3 v4 t0 μ) : z_X p l e rm_X4_offer s m args below meth c 7 D A (MQ below (z_Qn D A ρ kd (z_Kv q K)) args s 0 0 A) 0 0 ρ kd q μ 30 [(0, .ref (17)), (1, .int (v1)), (2, .int (v2)), (3, .int (v3)), (4, .int (v4))] [.int (t0)] := by
    unfold L_X4_offer_30 at h
    refine zx_iload_n (pc := 30) G 3 rfl rfl (z_dec T_X4_offer_ok 15 (30, .iload_n 3, 1) rfl) ?_
    refine zx_isub (pc := 31) G  (z_dec T_X4_offer_ok 16 (31, .isub, 1) rfl) ?_
    refine zx_istore (pc := 32) (lv' := [(5, .int (t0 - v3)), (0, .ref (17)), (1, .int (v1)), (2, .int (v2)), (3, .int (v3)), (4, .int (v4))]) G (Nat.le_of_ble_eq_true rfl) rfl (z_dec T_X4_offer_ok 17 (32, .istore 5, 2) rfl) ?_
    refine zx_aload_n (pc := 34) G (some (17)) 1 rfl rfl (z_dec T_X4_offer_ok 18 (34, .aload_n 0, 1) rfl) ?_
    refine zx_getF (pc := 35) (b := 18) G gf_RX4_9 rfl f_l0 (zq_4_0 hI f_l0) (z_dec T_X4_offer_ok 19 (35, .getfield 9, 3) rfl) ?_
    refine zx_iload_n (pc := 38) G 3 rfl rfl (z_dec T_X4_offer_ok 20 (38, .iload_n 2, 1) rfl) ?_
    obtain ⟨c1, h⟩ := h
    refine zx_iald (pc := 39) G (zk_4_0 hI f_l0) c1 (z_dec T_X4_offer_ok 21 (39, .iaload, 1) rfl) ?_
    refine zx_iload (pc := 40) G 5 rfl (z_dec T_X4_offer_ok 22 (40, .iload 4, 2) rfl) ?_
    refine zx_iadd (pc := 42) G  (z_dec T_X4_offer_ok 23 (42, .iadd, 1) rfl) ?_
    refine zx_iload (pc := 43) G 0 rfl (z_dec T_X4_offer_ok 24 (43, .iload 5, 2) rfl) ?_
    refine zx_mmin (pc := 45) G wm_RX4_44 ⟨Nat.le_of_ble_eq_true rfl, Nat.le_of_ble_eq_true rfl, Nat.zero_le _, Nat.zero_le _⟩ (z_dec T_X4_offer_ok 25 (45, .invokestatic 44, 3) rfl) ?_
    refine zx_istore (pc := 48) (lv' := [(6, .int (z_min ((μ.1 18 v2.toNatClampNeg) + v4) (t0 - v3))), (5, .int (t0 - v3)), (0, .ref (17)), (1, .int (v1)), (2, .int (v2)), (3, .int (v3)), (4, .int (v4))]) G (Nat.le_of_ble_eq_true rfl) rfl (z_dec T_X4_offer_ok 26 (48, .istore 6, 2) rfl) ?_
    refine zx_iload (pc := 50) G 0 rfl (z_dec T_X4_offer_ok 27 (50, .iload 6, 2) rfl) ?_
    refine zx_aload_n (pc := 52) G (some (17)) 2 rfl rfl (z_dec T_X4_offer_ok 28 (52, .aload_n 0, 1) rfl) ?_
    refine zx_getI (pc := 53) G gf_RX4_26 rfl f_l0 (z_dec T_X4_offer_ok 29 (53, .getfield 26, 3) rfl) ?_
    refine zx_icmp_le (pc := 56) (tgt := 80) G rfl (z_dec T_X4_offer_ok 30 (56, .if_icmp .le 24, 3) rfl) (fun hc => ?_) (fun hc => ?_)
    · replace h := z_pos hc h
      exact zx_vret (pc := 80) G hr hlk (Nat.le_refl _) (Nat.le_refl _) (z_dec T_X4_offer_ok 43 (80, .return_, 1) rfl) ⟨rfl, rfl, h⟩
    · replace h := z_neg hc h
      refine zx_aload_n (pc := 59) G (some (17)) 2 rfl rfl (z_dec T_X4_offer_ok 31 (59, .aload_n 0, 1) rfl) ?_
      refine zx_iload (pc := 60) G 0 rfl (z_dec T_X4_offer_ok 32 (60, .iload 6, 2) rfl) ?_
      refine zx_putI (pc := 62) G gf_RX4_26 cf_4 rfl rfl f_l0 (z_dec T_X4_offer_ok 33 (62, .putfield 26, 3) rfl) ?_
      refine zx_aload_n (pc := 65) G (some (17)) 2 rfl rfl (z_dec T_X4_offer_ok 34 (65, .aload_n 0, 1) rfl) ?_
      refine zx_iload_n (pc := 66) G 3 rfl rfl (z_dec T_X4_offer_ok 35 (66, .iload_n 1, 1) rfl) ?_
      refine zx_putI (pc := 67) G gf_RX4_15 cf_4 rfl rfl f_l0 (z_dec T_X4_offer_ok 36 (67, .putfield 15, 3) rfl) ?_
      refine zx_aload_n (pc := 70) G (some (17)) 2 rfl rfl (z_dec T_X4_offer_ok 37 (70, .aload_n 0, 1) rfl) ?_
      refine zx_iload_n (pc := 71) G 4 rfl rfl (z_dec T_X4_offer_ok 38 (71, .iload_n 2, 1) rfl) ?_
      refine zx_putI (pc := 72) G gf_RX4_52 cf_4 rfl rfl f_l0 (z_dec T_X4_offer_ok 39 (72, .putfield 52, 3) rfl) ?_
      refine zx_aload_n (pc := 75) G (some (17)) 2 rfl rfl (z_dec T_X4_offer_ok 40 (75, .aload_n 0, 1) rfl) ?_
      refine zx_iload_n (pc := 76) G 5 rfl rfl (z_dec T_X4_offer_ok 41 (76, .iload_n 3, 1) rfl) ?_
      refine zx_putI (pc := 77) G gf_RX4_55 cf_4 rfl rfl f_l0 (z_dec T_X4_offer_ok 42 (77, .putfield 55, 3) rfl) ?_
      exact zx_vret (pc := 80) G hr hlk (Nat.le_refl _) (Nat.le_refl _) (z_dec T_X4_offer_ok 43 (80, .return_, 1) rfl) ⟨rfl, rfl, h⟩
set_option maxRecDepth 100000 in
set_option maxHeartbeats 4000000 in
theorem met_X4_offer (l : Launch) (D : va_G) (ρ : z_A) (kd : z_K) (q : z_Q) (μ : z_M) (sz : Nat) (a1 : Int32) (a2 : Int32) (a3 : Int32) (a4 : Int32) (K : z_M → Prop) (hI : z_I kd q) (h_o : kd 17 = some (.inl 4)) (h : C_X4_offer kd q a1 a2 a3 a4 μ K) : Met l yX4_offer (z_ws yX4_offer cX4_offer 7 (Option.none : Option Jvm.ClassFile.FieldType)) rm_X4_offer (z_Pc D ρ kd q μ sz [.ref (17), .int (a1), .int (a2), .int (a3), .int (a4)]) (z_Qn D (z_Rg ρ sz) ρ kd (z_Kv q K)) 0 0 (z_Rg ρ sz) := by
  refine z_met (rm := rm_X4_offer) (by decide) (Nat.le_of_ble_eq_true rfl) (fun p e s m args below meth c G hr hlk => ?_)
  unfold C_X4_offer at h
  show z_X _ _ _ _ _ _ _ _ _ _ _ _ _ _ _ _ _ _ _ _ _ [(0, .ref (17)), (1, .int (a1)), (2, .int (a2)), (3, .int (a3)), (4, .int (a4))] _
  refine zx_iload_n (pc := 0) G 2 rfl rfl (z_dec T_X4_offer_ok 0 (0, .iload_n 2, 1) rfl) ?_
  refine zx_if_lt (pc := 1) (tgt := 10) G rfl (z_dec T_X4_offer_ok 1 (1, .ifCond .lt 9, 3) rfl) (fun hc => ?_) (fun hc => ?_)
  · replace h := z_pos hc h
    exact zx_vret (pc := 10) G hr hlk (Nat.le_refl _) (Nat.le_refl _) (z_dec T_X4_offer_ok 5 (10, .return_, 1) rfl) ⟨rfl, rfl, h⟩
  · replace h := z_neg hc h
    refine zx_iload_n (pc := 4) G 2 rfl rfl (z_dec T_X4_offer_ok 2 (4, .iload_n 2, 1) rfl) ?_
    refine zx_bipush (pc := 5) (v := 8) G (z_dec T_X4_offer_ok 3 (5, .bipush 8, 2) rfl) rfl ?_
    refine zx_icmp_lt (pc := 7) (tgt := 11) G rfl (z_dec T_X4_offer_ok 4 (7, .if_icmp .lt 4, 3) rfl) (fun hc => ?_) (fun hc => ?_)
    · replace h := z_pos hc h
      refine zx_iload_n (pc := 11) G 2 rfl rfl (z_dec T_X4_offer_ok 6 (11, .iload_n 2, 1) rfl) ?_
      refine zx_aload_n (pc := 12) G (some (17)) 0 rfl rfl (z_dec T_X4_offer_ok 7 (12, .aload_n 0, 1) rfl) ?_
      refine zx_getI (pc := 13) G gf_RX4_19 rfl h_o (z_dec T_X4_offer_ok 8 (13, .getfield 19, 3) rfl) ?_
      refine zx_icmp_ne (pc := 16) (tgt := 26) G rfl (z_dec T_X4_offer_ok 9 (16, .if_icmp .ne 10, 3) rfl) (fun hc => ?_) (fun hc => ?_)
      · replace h := z_neg hc h
        refine zx_aload_n (pc := 26) G (some (17)) 0 rfl rfl (z_dec T_X4_offer_ok 13 (26, .aload_n 0, 1) rfl) ?_
        refine zx_getI (pc := 27) G gf_RX4_49 rfl h_o (z_dec T_X4_offer_ok 14 (27, .getfield 49, 3) rfl) ?_
        exact L_X4_offer_30_ok G hr hlk hI h_o h
      · replace h := z_pos hc h
        refine zx_aload_n (pc := 19) G (some (17)) 0 rfl rfl (z_dec T_X4_offer_ok 10 (19, .aload_n 0, 1) rfl) ?_
        refine zx_getI (pc := 20) G gf_RX4_23 rfl h_o (z_dec T_X4_offer_ok 11 (20, .getfield 23, 3) rfl) ?_
        refine zx_goto (pc := 23) (tgt := 30) G rfl (z_dec T_X4_offer_ok 12 (23, .goto 7, 3) rfl) ?_
        exact L_X4_offer_30_ok G hr hlk hI h_o h
    · replace h := z_neg hc h
      exact zx_vret (pc := 10) G hr hlk (Nat.le_refl _) (Nat.le_refl _) (z_dec T_X4_offer_ok 5 (10, .return_, 1) rfl) ⟨rfl, rfl, h⟩
abbrev rm_X5_clear : Room := { frames := 0, cells := 0, slots := 0, locals := 0 }
set_option maxRecDepth 100000 in
set_option maxHeartbeats 4000000 in
theorem B_X5_clear_2_ok {p : Program} {l : Launch} {e : Env} {s : State} {m : MethodId} {args : Array Value} {below : List Frame} {meth : Method} {c : Code} {D : va_G} {A : Nat → Prop} {ρ : z_A} {kd : z_K} {q : z_Q} {μ : z_M} {K : z_M → Prop} {P2 : Int32 → z_M → Prop} {v1 : Int32} (G : z_G p c cX5_clear s m args RX5 2 D) (hr : meth.sig.returnType = (Option.none : Option Jvm.ClassFile.FieldType)) (hlk : meth.locks = false) (hP2 : ∀ (v1 : Int32) (μ : z_M), P2 v1 μ → (kd 19 = some (.inl 5)) → z_X p l e rm_X5_clear s m args below meth c 2 D A (MQ below (z_Qn D A ρ kd (z_Kv q K)) args s 0 0 A) 0 0 ρ kd q μ 2 [(0, .ref (19)), (1, .int (v1))] []) (hI : z_I kd q) (f_l0 : kd 19 = some (.inl 5)) (h : B_X5_clear_2 kd q K P2 v1 μ) : z_X p l e rm_X5_clear s m args below meth c 2 D A (MQ below (z_Qn D A ρ kd (z_Kv q K)) args s 0 0 A) 0 0 ρ kd q μ 2 [(0, .ref (19)), (1, .int (v1))] [] := by
    unfold B_X5_clear_2 at h
    refine zx_iload_n (pc := 2) G 1 rfl rfl (z_dec T_X5_clear_ok 2 (2, .iload_n 1, 1) rfl) ?_
    refine zx_aload_n (pc := 3) G (some (19)) 0 rfl rfl (z_dec T_X5_clear_ok 3 (3, .aload_n 0, 1) rfl) ?_
    refine zx_getF (pc := 4) (b := 20) G gf_RX5_9 rfl f_l0 (zq_5_0 hI f_l0) (z_dec T_X5_clear_ok 4 (4, .getfield 9, 3) rfl) ?_
    refine zx_alen (pc := 7) G (zk_5_0 hI f_l0) (z_dec T_X5_clear_ok 5 (7, .arraylength, 1) rfl) ?_
    refine zx_icmp_ge (pc := 8) (tgt := 34) G rfl (z_dec T_X5_clear_ok 6 (8, .if_icmp .ge 26, 3) rfl) (fun hc => ?_) (fun hc => ?_)
    · replace h := z_pos hc h
      exact zx_vret (pc := 34) G hr hlk (Nat.le_refl _) (Nat.le_refl _) (z_dec T_X5_clear_ok 20 (34, .return_, 1) rfl) ⟨rfl, rfl, h⟩
    · replace h := z_neg hc h
      refine zx_aload_n (pc := 11) G (some (19)) 0 rfl rfl (z_dec T_X5_clear_ok 7 (11, .aload_n 0, 1) rfl) ?_
      refine zx_getF (pc := 12) (b := 20) G gf_RX5_9 rfl f_l0 (zq_5_0 hI f_l0) (z_dec T_X5_clear_ok 8 (12, .getfield 9, 3) rfl) ?_
      refine zx_iload_n (pc := 15) G 1 rfl rfl (z_dec T_X5_clear_ok 9 (15, .iload_n 1, 1) rfl) ?_
      refine zx_iload_n (pc := 16) G 1 rfl rfl (z_dec T_X5_clear_ok 10 (16, .iload_n 1, 1) rfl) ?_
      refine zx_iconst (pc := 17) (v := 5) G (z_dec T_X5_clear_ok 11 (17, .iconst 5, 1) rfl) rfl ?_
      refine zx_irem (pc := 18) G (by decide) (z_dec T_X5_clear_ok 12 (18, .irem, 1) rfl) ?_
      refine zx_if_ne (pc := 19) (tgt := 26) G rfl (z_dec T_X5_clear_ok 13 (19, .ifCond .ne 7, 3) rfl) (fun hc => ?_) (fun hc => ?_)
      · replace h := z_neg hc h
        refine zx_iconst (pc := 26) (v := -1) G (z_dec T_X5_clear_ok 16 (26, .iconst (-1), 1) rfl) rfl ?_
        obtain ⟨c1, h⟩ := h
        refine zx_iast (pc := 27) G (zk_5_0 hI f_l0) c1 (z_dec T_X5_clear_ok 17 (27, .iastore, 1) rfl) ?_
        refine zx_iinc (pc := 28) (v := v1 + 1) (lv' := [(1, .int (v1 + 1)), (0, .ref (19))]) G 1 rfl (z_inc (by decide)) (Nat.le_of_ble_eq_true rfl) rfl (z_dec T_X5_clear_ok 18 (28, .iinc 1 1, 3) rfl) ?_
        refine zx_goto (pc := 31) (tgt := 2) G rfl (z_dec T_X5_clear_ok 19 (31, .goto (-29), 3) rfl) ?_
        refine zx_sub (lv' := [(0, .ref (19)), (1, .int (v1 + 1))]) [1, 0] rfl ?_
        exact hP2 _ _ h f_l0
      · replace h := z_pos hc h
        refine zx_iconst (pc := 22) (v := 0) G (z_dec T_X5_clear_ok 14 (22, .iconst 0, 1) rfl) rfl ?_
        refine zx_goto (pc := 23) (tgt := 27) G rfl (z_dec T_X5_clear_ok 15 (23, .goto 4, 3) rfl) ?_
        obtain ⟨c2, h⟩ := h
        refine zx_iast (pc := 27) G (zk_5_0 hI f_l0) c2 (z_dec T_X5_clear_ok 17 (27, .iastore, 1) rfl) ?_
        refine zx_iinc (pc := 28) (v := v1 + 1) (lv' := [(1, .int (v1 + 1)), (0, .ref (19))]) G 1 rfl (z_inc (by decide)) (Nat.le_of_ble_eq_true rfl) rfl (z_dec T_X5_clear_ok 18 (28, .iinc 1 1, 3) rfl) ?_
        refine zx_goto (pc := 31) (tgt := 2) G rfl (z_dec T_X5_clear_ok 19 (31, .goto (-29), 3) rfl) ?_
        refine zx_sub (lv' := [(0, .ref (19)), (1, .int (v1 + 1))]) [1, 0] rfl ?_
        exact hP2 _ _ h f_l0
set_option maxRecDepth 100000 in
set_option maxHeartbeats 4000000 in
theorem L_X5_clear_2_ok {p : Program} {l : Launch} {e : Env} {s : State} {m : MethodId} {args : Array Value} {below : List Frame} {meth : Method} {c : Code} {D : va_G} {A : Nat → Prop} {ρ : z_A} {kd : z_K} {q : z_Q} {μ : z_M} {K : z_M → Prop} {v1 : Int32} (G : z_G p c cX5_clear s m args RX5 2 D) (hr : meth.sig.returnType = (Option.none : Option Jvm.ClassFile.FieldType)) (hlk : meth.locks = false) (hI : z_I kd q) (f_l0 : kd 19 = some (.inl 5)) (h : L_X5_clear_2 kd q K v1 μ) : z_X p l e rm_X5_clear s m args below meth c 2 D A (MQ below (z_Qn D A ρ kd (z_Kv q K)) args s 0 0 A) 0 0 ρ kd q μ 2 [(0, .ref (19)), (1, .int (v1))] [] :=
  h (fun (v1 : Int32) (μ : z_M) => (kd 19 = some (.inl 5)) → z_X p l e rm_X5_clear s m args below meth c 2 D A (MQ below (z_Qn D A ρ kd (z_Kv q K)) args s 0 0 A) 0 0 ρ kd q μ 2 [(0, .ref (19)), (1, .int (v1))] []) (fun v1 μ h f_l0 => B_X5_clear_2_ok G hr hlk (fun _ _ h => h) hI f_l0 h) f_l0
set_option maxRecDepth 100000 in
set_option maxHeartbeats 4000000 in
theorem met_X5_clear (l : Launch) (D : va_G) (ρ : z_A) (kd : z_K) (q : z_Q) (μ : z_M) (sz : Nat) (K : z_M → Prop) (hI : z_I kd q) (h_o : kd 19 = some (.inl 5)) (h : C_X5_clear kd q μ K) : Met l yX5_clear (z_ws yX5_clear cX5_clear 2 (Option.none : Option Jvm.ClassFile.FieldType)) rm_X5_clear (z_Pc D ρ kd q μ sz [.ref (19)]) (z_Qn D (z_Rg ρ sz) ρ kd (z_Kv q K)) 0 0 (z_Rg ρ sz) := by
  refine z_met (rm := rm_X5_clear) (by decide) (Nat.le_of_ble_eq_true rfl) (fun p e s m args below meth c G hr hlk => ?_)
  unfold C_X5_clear at h
  show z_X _ _ _ _ _ _ _ _ _ _ _ _ _ _ _ _ _ _ _ _ _ [(0, .ref (19))] _
  refine zx_iconst (pc := 0) (v := 0) G (z_dec T_X5_clear_ok 0 (0, .iconst 0, 1) rfl) rfl ?_
  refine zx_istore_n (pc := 1) (lv' := [(1, .int ((0 : Int32))), (0, .ref (19))]) G rfl (Nat.le_of_ble_eq_true rfl) rfl (z_dec T_X5_clear_ok 1 (1, .istore_n 1, 1) rfl) ?_
  refine zx_sub (lv' := [(0, .ref (19)), (1, .int ((0 : Int32)))]) [1, 0] rfl ?_
  exact L_X5_clear_2_ok G hr hlk hI h_o h
abbrev rm_X5_note : Room := { frames := 0, cells := 0, slots := 0, locals := 0 }
set_option maxRecDepth 100000 in
set_option maxHeartbeats 4000000 in
theorem met_X5_note (l : Launch) (D : va_G) (ρ : z_A) (kd : z_K) (q : z_Q) (μ : z_M) (sz : Nat) (a1 : Int32) (a2 : Int32) (a3 : Int32) (K : z_M → Prop) (hI : z_I kd q) (h_o : kd 19 = some (.inl 5)) (h : C_X5_note kd q a1 a2 a3 μ K) : Met l yX5_note (z_ws yX5_note cX5_note 5 (Option.none : Option Jvm.ClassFile.FieldType)) rm_X5_note (z_Pc D ρ kd q μ sz [.ref (19), .int (a1), .int (a2), .int (a3)]) (z_Qn D (z_Rg ρ sz) ρ kd (z_Kv q K)) 0 0 (z_Rg ρ sz) := by
  refine z_met (rm := rm_X5_note) (by decide) (Nat.le_of_ble_eq_true rfl) (fun p e s m args below meth c G hr hlk => ?_)
  unfold C_X5_note at h
  show z_X _ _ _ _ _ _ _ _ _ _ _ _ _ _ _ _ _ _ _ _ _ [(0, .ref (19)), (1, .int (a1)), (2, .int (a2)), (3, .int (a3))] _
  refine zx_iload_n (pc := 0) G 1 rfl rfl (z_dec T_X5_note_ok 0 (0, .iload_n 1, 1) rfl) ?_
  refine zx_iconst (pc := 1) (v := 5) G (z_dec T_X5_note_ok 1 (1, .iconst 5, 1) rfl) rfl ?_
  refine zx_imul (pc := 2) G  (z_dec T_X5_note_ok 2 (2, .imul, 1) rfl) ?_
  refine zx_iload_n (pc := 3) G 2 rfl rfl (z_dec T_X5_note_ok 3 (3, .iload_n 2, 1) rfl) ?_
  refine zx_iadd (pc := 4) G  (z_dec T_X5_note_ok 4 (4, .iadd, 1) rfl) ?_
  refine zx_istore (pc := 5) (lv' := [(4, .int ((a1 * ((5 : Int32))) + a2)), (0, .ref (19)), (1, .int (a1)), (2, .int (a2)), (3, .int (a3))]) G (Nat.le_of_ble_eq_true rfl) rfl (z_dec T_X5_note_ok 5 (5, .istore 4, 2) rfl) ?_
  refine zx_iload (pc := 7) G 0 rfl (z_dec T_X5_note_ok 6 (7, .iload 4, 2) rfl) ?_
  refine zx_if_lt (pc := 9) (tgt := 30) G rfl (z_dec T_X5_note_ok 7 (9, .ifCond .lt 21, 3) rfl) (fun hc => ?_) (fun hc => ?_)
  · replace h := z_pos hc h
    exact zx_vret (pc := 30) G hr hlk (Nat.le_refl _) (Nat.le_refl _) (z_dec T_X5_note_ok 18 (30, .return_, 1) rfl) ⟨rfl, rfl, h⟩
  · replace h := z_neg hc h
    refine zx_iload (pc := 12) G 0 rfl (z_dec T_X5_note_ok 8 (12, .iload 4, 2) rfl) ?_
    refine zx_aload_n (pc := 14) G (some (19)) 1 rfl rfl (z_dec T_X5_note_ok 9 (14, .aload_n 0, 1) rfl) ?_
    refine zx_getF (pc := 15) (b := 20) G gf_RX5_9 rfl h_o (zq_5_0 hI h_o) (z_dec T_X5_note_ok 10 (15, .getfield 9, 3) rfl) ?_
    refine zx_alen (pc := 18) G (zk_5_0 hI h_o) (z_dec T_X5_note_ok 11 (18, .arraylength, 1) rfl) ?_
    refine zx_icmp_ge (pc := 19) (tgt := 30) G rfl (z_dec T_X5_note_ok 12 (19, .if_icmp .ge 11, 3) rfl) (fun hc => ?_) (fun hc => ?_)
    · replace h := z_pos hc h
      exact zx_vret (pc := 30) G hr hlk (Nat.le_refl _) (Nat.le_refl _) (z_dec T_X5_note_ok 18 (30, .return_, 1) rfl) ⟨rfl, rfl, h⟩
    · replace h := z_neg hc h
      refine zx_aload_n (pc := 22) G (some (19)) 1 rfl rfl (z_dec T_X5_note_ok 13 (22, .aload_n 0, 1) rfl) ?_
      refine zx_getF (pc := 23) (b := 20) G gf_RX5_9 rfl h_o (zq_5_0 hI h_o) (z_dec T_X5_note_ok 14 (23, .getfield 9, 3) rfl) ?_
      refine zx_iload (pc := 26) G 0 rfl (z_dec T_X5_note_ok 15 (26, .iload 4, 2) rfl) ?_
      refine zx_iload_n (pc := 28) G 4 rfl rfl (z_dec T_X5_note_ok 16 (28, .iload_n 3, 1) rfl) ?_
      obtain ⟨c1, h⟩ := h
      refine zx_iast (pc := 29) G (zk_5_0 hI h_o) c1 (z_dec T_X5_note_ok 17 (29, .iastore, 1) rfl) ?_
      exact zx_vret (pc := 30) G hr hlk (Nat.le_refl _) (Nat.le_refl _) (z_dec T_X5_note_ok 18 (30, .return_, 1) rfl) ⟨rfl, rfl, h⟩
abbrev rm_X5_keep : Room := { frames := 1, cells := 0, slots := 0, locals := 26 }
set_option maxRecDepth 100000 in
set_option maxHeartbeats 4000000 in
theorem met_X5_keep (l : Launch) (D : va_G) (ρ : z_A) (kd : z_K) (q : z_Q) (μ : z_M) (sz : Nat) (a1 : Option Nat) (a2 : Int32) (K : z_M → Prop) (hI : z_I kd q) (h_o : kd 19 = some (.inl 5)) (h_a1 : ∀ a, a1 = some a → kd a = some (.inl 1)) (h : C_X5_keep kd q a1 a2 μ K) : Met l yX5_keep (z_ws yX5_keep cX5_keep 3 (Option.none : Option Jvm.ClassFile.FieldType)) rm_X5_keep (z_Pc D ρ kd q μ sz [.ref (19), va_rf (a1), .int (a2)]) (z_Qn D (z_Rg ρ sz) ρ kd (z_Kv q K)) 0 0 (z_Rg ρ sz) := by
  refine z_met (rm := rm_X5_keep) (by decide) (by cases a1 <;> exact Nat.le_of_ble_eq_true rfl) (fun p e s m args below meth c G hr hlk => ?_)
  unfold C_X5_keep at h
  rw [show lv_args 0 [.ref (19), va_rf (a1), .int (a2)] = [(0, .ref (19)), (1, va_rf (a1)), (2, .int (a2))] from by cases a1 <;> rfl]
  refine zx_iload_n (pc := 0) G 2 rfl rfl (z_dec T_X5_keep_ok 0 (0, .iload_n 2, 1) rfl) ?_
  refine zx_if_lt (pc := 1) (tgt := 27) G rfl (z_dec T_X5_keep_ok 1 (1, .ifCond .lt 26, 3) rfl) (fun hc => ?_) (fun hc => ?_)
  · replace h := z_pos hc h
    exact zx_vret (pc := 27) G hr hlk (Nat.le_refl _) (Nat.le_refl _) (z_dec T_X5_keep_ok 15 (27, .return_, 1) rfl) ⟨rfl, rfl, h⟩
  · replace h := z_neg hc h
    refine zx_iload_n (pc := 4) G 2 rfl rfl (z_dec T_X5_keep_ok 2 (4, .iload_n 2, 1) rfl) ?_
    refine zx_iconst (pc := 5) (v := 3) G (z_dec T_X5_keep_ok 3 (5, .iconst 3, 1) rfl) rfl ?_
    refine zx_icmp_ge (pc := 6) (tgt := 27) G rfl (z_dec T_X5_keep_ok 4 (6, .if_icmp .ge 21, 3) rfl) (fun hc => ?_) (fun hc => ?_)
    · replace h := z_pos hc h
      exact zx_vret (pc := 27) G hr hlk (Nat.le_refl _) (Nat.le_refl _) (z_dec T_X5_keep_ok 15 (27, .return_, 1) rfl) ⟨rfl, rfl, h⟩
    · replace h := z_neg hc h
      refine zx_aload_n (pc := 9) G (a1) 1 rfl rfl (z_dec T_X5_keep_ok 5 (9, .aload_n 1, 1) rfl) ?_
      obtain ⟨o1, rfl, h⟩ := h
      refine zx_getF (pc := 10) (b := o1 + 1) G gf_RX5_18 rfl (h_a1 o1 rfl) (zq_1_3 hI (h_a1 o1 rfl)) (z_dec T_X5_keep_ok 6 (10, .getfield 18, 3) rfl) ?_
      refine zx_iload_n (pc := 13) G 2 rfl rfl (z_dec T_X5_keep_ok 7 (13, .iload_n 2, 1) rfl) ?_
      refine zx_bipush (pc := 14) (v := 8) G (z_dec T_X5_keep_ok 8 (14, .bipush 8, 2) rfl) rfl ?_
      refine zx_imul (pc := 16) G  (z_dec T_X5_keep_ok 9 (16, .imul, 1) rfl) ?_
      refine zx_aload_n (pc := 17) G (some (19)) 0 rfl rfl (z_dec T_X5_keep_ok 10 (17, .aload_n 0, 1) rfl) ?_
      refine zx_getF (pc := 18) (b := 21) G gf_RX5_15 rfl h_o (zq_5_1 hI h_o) (z_dec T_X5_keep_ok 11 (18, .getfield 15, 3) rfl) ?_
      refine zx_iconst (pc := 21) (v := 0) G (z_dec T_X5_keep_ok 12 (21, .iconst 0, 1) rfl) rfl ?_
      refine zx_bipush (pc := 22) (v := 8) G (z_dec T_X5_keep_ok 13 (22, .bipush 8, 2) rfl) rfl ?_
      obtain ⟨c2, h⟩ := h
      obtain ⟨c3, h⟩ := h
      obtain ⟨c4, h⟩ := h
      obtain ⟨c5, h⟩ := h
      obtain ⟨c6, h⟩ := h
      refine zx_copy (pc := 24) G wc_RX5_23 ⟨Nat.le_of_ble_eq_true rfl, Nat.le_of_ble_eq_true rfl⟩ (zk_1_3 hI (h_a1 o1 rfl)) (zk_5_1 hI h_o) c2 c3 c4 c5 c6 (z_dec T_X5_keep_ok 14 (24, .invokestatic 23, 3) rfl) ?_
      exact zx_vret (pc := 27) G hr hlk (Nat.le_refl _) (Nat.le_refl _) (z_dec T_X5_keep_ok 15 (27, .return_, 1) rfl) ⟨rfl, rfl, h⟩
abbrev rm_X5_giveBack : Room := { frames := 1, cells := 0, slots := 0, locals := 26 }
set_option maxRecDepth 100000 in
set_option maxHeartbeats 4000000 in
theorem met_X5_giveBack (l : Launch) (D : va_G) (ρ : z_A) (kd : z_K) (q : z_Q) (μ : z_M) (sz : Nat) (a1 : Option Nat) (a2 : Int32) (K : z_M → Prop) (hI : z_I kd q) (h_o : kd 19 = some (.inl 5)) (h_a1 : ∀ a, a1 = some a → kd a = some (.inl 1)) (h : C_X5_giveBack kd q a1 a2 μ K) : Met l yX5_giveBack (z_ws yX5_giveBack cX5_giveBack 3 (Option.none : Option Jvm.ClassFile.FieldType)) rm_X5_giveBack (z_Pc D ρ kd q μ sz [.ref (19), va_rf (a1), .int (a2)]) (z_Qn D (z_Rg ρ sz) ρ kd (z_Kv q K)) 0 0 (z_Rg ρ sz) := by
  refine z_met (rm := rm_X5_giveBack) (by decide) (by cases a1 <;> exact Nat.le_of_ble_eq_true rfl) (fun p e s m args below meth c G hr hlk => ?_)
  unfold C_X5_giveBack at h
  rw [show lv_args 0 [.ref (19), va_rf (a1), .int (a2)] = [(0, .ref (19)), (1, va_rf (a1)), (2, .int (a2))] from by cases a1 <;> rfl]
  refine zx_iload_n (pc := 0) G 2 rfl rfl (z_dec T_X5_giveBack_ok 0 (0, .iload_n 2, 1) rfl) ?_
  refine zx_if_lt (pc := 1) (tgt := 27) G rfl (z_dec T_X5_giveBack_ok 1 (1, .ifCond .lt 26, 3) rfl) (fun hc => ?_) (fun hc => ?_)
  · replace h := z_pos hc h
    exact zx_vret (pc := 27) G hr hlk (Nat.le_refl _) (Nat.le_refl _) (z_dec T_X5_giveBack_ok 15 (27, .return_, 1) rfl) ⟨rfl, rfl, h⟩
  · replace h := z_neg hc h
    refine zx_iload_n (pc := 4) G 2 rfl rfl (z_dec T_X5_giveBack_ok 2 (4, .iload_n 2, 1) rfl) ?_
    refine zx_iconst (pc := 5) (v := 3) G (z_dec T_X5_giveBack_ok 3 (5, .iconst 3, 1) rfl) rfl ?_
    refine zx_icmp_ge (pc := 6) (tgt := 27) G rfl (z_dec T_X5_giveBack_ok 4 (6, .if_icmp .ge 21, 3) rfl) (fun hc => ?_) (fun hc => ?_)
    · replace h := z_pos hc h
      exact zx_vret (pc := 27) G hr hlk (Nat.le_refl _) (Nat.le_refl _) (z_dec T_X5_giveBack_ok 15 (27, .return_, 1) rfl) ⟨rfl, rfl, h⟩
    · replace h := z_neg hc h
      refine zx_aload_n (pc := 9) G (some (19)) 0 rfl rfl (z_dec T_X5_giveBack_ok 5 (9, .aload_n 0, 1) rfl) ?_
      refine zx_getF (pc := 10) (b := 21) G gf_RX5_15 rfl h_o (zq_5_1 hI h_o) (z_dec T_X5_giveBack_ok 6 (10, .getfield 15, 3) rfl) ?_
      refine zx_iconst (pc := 13) (v := 0) G (z_dec T_X5_giveBack_ok 7 (13, .iconst 0, 1) rfl) rfl ?_
      refine zx_aload_n (pc := 14) G (a1) 1 rfl rfl (z_dec T_X5_giveBack_ok 8 (14, .aload_n 1, 1) rfl) ?_
      obtain ⟨o1, rfl, h⟩ := h
      refine zx_getF (pc := 15) (b := o1 + 1) G gf_RX5_18 rfl (h_a1 o1 rfl) (zq_1_3 hI (h_a1 o1 rfl)) (z_dec T_X5_giveBack_ok 9 (15, .getfield 18, 3) rfl) ?_
      refine zx_iload_n (pc := 18) G 2 rfl rfl (z_dec T_X5_giveBack_ok 10 (18, .iload_n 2, 1) rfl) ?_
      refine zx_bipush (pc := 19) (v := 8) G (z_dec T_X5_giveBack_ok 11 (19, .bipush 8, 2) rfl) rfl ?_
      refine zx_imul (pc := 21) G  (z_dec T_X5_giveBack_ok 12 (21, .imul, 1) rfl) ?_
      refine zx_bipush (pc := 22) (v := 8) G (z_dec T_X5_giveBack_ok 13 (22, .bipush 8, 2) rfl) rfl ?_
      obtain ⟨c2, h⟩ := h
      obtain ⟨c3, h⟩ := h
      obtain ⟨c4, h⟩ := h
      obtain ⟨c5, h⟩ := h
      obtain ⟨c6, h⟩ := h
      refine zx_copy (pc := 24) G wc_RX5_23 ⟨Nat.le_of_ble_eq_true rfl, Nat.le_of_ble_eq_true rfl⟩ (zk_5_1 hI h_o) (zk_1_3 hI (h_a1 o1 rfl)) c2 c3 c4 c5 c6 (z_dec T_X5_giveBack_ok 14 (24, .invokestatic 23, 3) rfl) ?_
      exact zx_vret (pc := 27) G hr hlk (Nat.le_refl _) (Nat.le_refl _) (z_dec T_X5_giveBack_ok 15 (27, .return_, 1) rfl) ⟨rfl, rfl, h⟩
abbrev rm_X5_wonByRow : Room := { frames := 0, cells := 0, slots := 0, locals := 0 }
set_option maxRecDepth 100000 in
set_option maxHeartbeats 4000000 in
theorem L_X5_wonByRow_86_ok {p : Program} {l : Launch} {e : Env} {s : State} {m : MethodId} {args : Array Value} {below : List Frame} {meth : Method} {c : Code} {D : va_G} {A : Nat → Prop} {ρ : z_A} {kd : z_K} {q : z_Q} {μ : z_M} {K : Int32 → z_M → Prop} {P38 : Int32 → Int32 → Int32 → z_M → Prop} {v3 : Int32} {v4 : Int32} {v5 : Int32} {t0 : Int32} (G : z_G p c cX5_wonByRow s m args RX5 8 D) (hr : meth.sig.returnType = (Option.some Jvm.ClassFile.FieldType.int)) (hlk : meth.locks = false) (hP38 : ∀ (v3 : Int32) (v4 : Int32) (v5 : Int32) (μ : z_M), P38 v3 v4 v5 μ → (kd 19 = some (.inl 5)) → z_X p l e rm_X5_wonByRow s m args below meth c 8 D A (MQ below (z_Qn D A ρ kd (z_Ki q K)) args s 0 0 A) 0 0 ρ kd q μ 38 [(0, .ref (19)), (3, .int (v3)), (4, .int (v4)), (5, .int (v5))] []) (hI : z_I kd q) (f_l0 : kd 19 = some (.inl 5)) (h : L_X5_wonByRow_86 kd q K P38 v3 v4 v5 t0 μ) : z_X p l e rm_X5_wonByRow s m args below meth c 8 D A (MQ below (z_Qn D A ρ kd (z_Ki q K)) args s 0 0 A) 0 0 ρ kd q μ 86 [(0, .ref (19)), (3, .int (v3)), (4, .int (v4)), (5, .int (v5))] [.int (t0)] := by
    unfold L_X5_wonByRow_86 at h
    refine zx_istore (pc := 86) (lv' := [(7, .int (t0)), (0, .ref (19)), (3, .int (v3)), (4, .int (v4)), (5, .int (v5))]) G (Nat.le_of_ble_eq_true rfl) rfl (z_dec T_X5_wonByRow_ok 55 (86, .istore 7, 2) rfl) ?_
    refine zx_iload (pc := 88) G 0 rfl (z_dec T_X5_wonByRow_ok 56 (88, .iload 7, 2) rfl) ?_
    refine zx_iconst (pc := 90) (v := -1) G (z_dec T_X5_wonByRow_ok 57 (90, .iconst (-1), 1) rfl) rfl ?_
    refine zx_icmp_ne (pc := 91) (tgt := 96) G rfl (z_dec T_X5_wonByRow_ok 58 (91, .if_icmp .ne 5, 3) rfl) (fun hc => ?_) (fun hc => ?_)
    · replace h := z_neg hc h
      refine zx_iload (pc := 96) G 3 rfl (z_dec T_X5_wonByRow_ok 61 (96, .iload 4, 2) rfl) ?_
      refine zx_iload (pc := 98) G 0 rfl (z_dec T_X5_wonByRow_ok 62 (98, .iload 7, 2) rfl) ?_
      refine zx_iadd (pc := 100) G  (z_dec T_X5_wonByRow_ok 63 (100, .iadd, 1) rfl) ?_
      refine zx_istore (pc := 101) (lv' := [(4, .int (v4 + t0)), (7, .int (t0)), (0, .ref (19)), (3, .int (v3)), (5, .int (v5))]) G (Nat.le_of_ble_eq_true rfl) rfl (z_dec T_X5_wonByRow_ok 64 (101, .istore 4, 2) rfl) ?_
      refine zx_iinc (pc := 103) (v := v5 + 1) (lv' := [(5, .int (v5 + 1)), (4, .int (v4 + t0)), (7, .int (t0)), (0, .ref (19)), (3, .int (v3))]) G 4 rfl (z_inc (by decide)) (Nat.le_of_ble_eq_true rfl) rfl (z_dec T_X5_wonByRow_ok 65 (103, .iinc 5 1, 3) rfl) ?_
      refine zx_goto (pc := 106) (tgt := 38) G rfl (z_dec T_X5_wonByRow_ok 66 (106, .goto (-68), 3) rfl) ?_
      refine zx_sub (lv' := [(0, .ref (19)), (3, .int (v3)), (4, .int (v4 + t0)), (5, .int (v5 + 1))]) [3, 4, 1, 0] rfl ?_
      exact hP38 _ _ _ _ h f_l0
    · replace h := z_pos hc h
      refine zx_iconst (pc := 94) (v := -1) G (z_dec T_X5_wonByRow_ok 59 (94, .iconst (-1), 1) rfl) rfl ?_
      exact zx_iret (pc := 95) G hr hlk (Nat.le_refl _) (Nat.le_refl _) (z_dec T_X5_wonByRow_ok 60 (95, .ireturn, 1) rfl) ⟨rfl, _, rfl, h⟩
set_option maxRecDepth 100000 in
set_option maxHeartbeats 4000000 in
theorem L_X5_wonByRow_85_ok {p : Program} {l : Launch} {e : Env} {s : State} {m : MethodId} {args : Array Value} {below : List Frame} {meth : Method} {c : Code} {D : va_G} {A : Nat → Prop} {ρ : z_A} {kd : z_K} {q : z_Q} {μ : z_M} {K : Int32 → z_M → Prop} {P38 : Int32 → Int32 → Int32 → z_M → Prop} {v3 : Int32} {v4 : Int32} {v5 : Int32} (G : z_G p c cX5_wonByRow s m args RX5 8 D) (hr : meth.sig.returnType = (Option.some Jvm.ClassFile.FieldType.int)) (hlk : meth.locks = false) (hP38 : ∀ (v3 : Int32) (v4 : Int32) (v5 : Int32) (μ : z_M), P38 v3 v4 v5 μ → (kd 19 = some (.inl 5)) → z_X p l e rm_X5_wonByRow s m args below meth c 8 D A (MQ below (z_Qn D A ρ kd (z_Ki q K)) args s 0 0 A) 0 0 ρ kd q μ 38 [(0, .ref (19)), (3, .int (v3)), (4, .int (v4)), (5, .int (v5))] []) (hI : z_I kd q) (f_l0 : kd 19 = some (.inl 5)) (h : L_X5_wonByRow_85 kd q K P38 v3 v4 v5 μ) : z_X p l e rm_X5_wonByRow s m args below meth c 8 D A (MQ below (z_Qn D A ρ kd (z_Ki q K)) args s 0 0 A) 0 0 ρ kd q μ 85 [(0, .ref (19)), (3, .int (v3)), (4, .int (v4)), (5, .int (v5))] [] := by
    unfold L_X5_wonByRow_85 at h
    refine zx_iconst (pc := 85) (v := -1) G (z_dec T_X5_wonByRow_ok 54 (85, .iconst (-1), 1) rfl) rfl ?_
    exact L_X5_wonByRow_86_ok G hr hlk hP38 hI f_l0 h
set_option maxRecDepth 100000 in
set_option maxHeartbeats 4000000 in
theorem B_X5_wonByRow_38_ok {p : Program} {l : Launch} {e : Env} {s : State} {m : MethodId} {args : Array Value} {below : List Frame} {meth : Method} {c : Code} {D : va_G} {A : Nat → Prop} {ρ : z_A} {kd : z_K} {q : z_Q} {μ : z_M} {K : Int32 → z_M → Prop} {P38 : Int32 → Int32 → Int32 → z_M → Prop} {v3 : Int32} {v4 : Int32} {v5 : Int32} (G : z_G p c cX5_wonByRow s m args RX5 8 D) (hr : meth.sig.returnType = (Option.some Jvm.ClassFile.FieldType.int)) (hlk : meth.locks = false) (hP38 : ∀ (v3 : Int32) (v4 : Int32) (v5 : Int32) (μ : z_M), P38 v3 v4 v5 μ → (kd 19 = some (.inl 5)) → z_X p l e rm_X5_wonByRow s m args below meth c 8 D A (MQ below (z_Qn D A ρ kd (z_Ki q K)) args s 0 0 A) 0 0 ρ kd q μ 38 [(0, .ref (19)), (3, .int (v3)), (4, .int (v4)), (5, .int (v5))] []) (hI : z_I kd q) (f_l0 : kd 19 = some (.inl 5)) (h : B_X5_wonByRow_38 kd q K P38 v3 v4 v5 μ) : z_X p l e rm_X5_wonByRow s m args below meth c 8 D A (MQ below (z_Qn D A ρ kd (z_Ki q K)) args s 0 0 A) 0 0 ρ kd q μ 38 [(0, .ref (19)), (3, .int (v3)), (4, .int (v4)), (5, .int (v5))] [] := by
    unfold B_X5_wonByRow_38 at h
    refine zx_iload (pc := 38) G 3 rfl (z_dec T_X5_wonByRow_ok 27 (38, .iload 5, 2) rfl) ?_
    refine zx_iconst (pc := 40) (v := 4) G (z_dec T_X5_wonByRow_ok 28 (40, .iconst 4, 1) rfl) rfl ?_
    refine zx_icmp_ge (pc := 41) (tgt := 109) G rfl (z_dec T_X5_wonByRow_ok 29 (41, .if_icmp .ge 68, 3) rfl) (fun hc => ?_) (fun hc => ?_)
    · replace h := z_pos hc h
      refine zx_iload (pc := 109) G 2 rfl (z_dec T_X5_wonByRow_ok 67 (109, .iload 4, 2) rfl) ?_
      exact zx_iret (pc := 111) G hr hlk (Nat.le_refl _) (Nat.le_refl _) (z_dec T_X5_wonByRow_ok 68 (111, .ireturn, 1) rfl) ⟨rfl, _, rfl, h⟩
    · replace h := z_neg hc h
      refine zx_iload (pc := 44) G 3 rfl (z_dec T_X5_wonByRow_ok 30 (44, .iload 5, 2) rfl) ?_
      refine zx_iconst (pc := 46) (v := 5) G (z_dec T_X5_wonByRow_ok 31 (46, .iconst 5, 1) rfl) rfl ?_
      refine zx_imul (pc := 47) G  (z_dec T_X5_wonByRow_ok 32 (47, .imul, 1) rfl) ?_
      refine zx_iload_n (pc := 48) G 1 rfl rfl (z_dec T_X5_wonByRow_ok 33 (48, .iload_n 3, 1) rfl) ?_
      refine zx_iconst (pc := 49) (v := 4) G (z_dec T_X5_wonByRow_ok 34 (49, .iconst 4, 1) rfl) rfl ?_
      refine zx_iload (pc := 50) G 3 rfl (z_dec T_X5_wonByRow_ok 35 (50, .iload 5, 2) rfl) ?_
      refine zx_imul (pc := 52) G  (z_dec T_X5_wonByRow_ok 36 (52, .imul, 1) rfl) ?_
      refine zx_ishr (pc := 53) G  (z_dec T_X5_wonByRow_ok 37 (53, .ishr, 1) rfl) ?_
      refine zx_bipush (pc := 54) (v := 15) G (z_dec T_X5_wonByRow_ok 38 (54, .bipush 15, 2) rfl) rfl ?_
      refine zx_iand (pc := 56) G  (z_dec T_X5_wonByRow_ok 39 (56, .iand, 1) rfl) ?_
      refine zx_iadd (pc := 57) G  (z_dec T_X5_wonByRow_ok 40 (57, .iadd, 1) rfl) ?_
      refine zx_istore (pc := 58) (lv' := [(6, .int ((v5 * ((5 : Int32))) + ((v3 >>> ((((4 : Int32)) * v5) &&& 31)) &&& ((15 : Int32))))), (0, .ref (19)), (3, .int (v3)), (4, .int (v4)), (5, .int (v5))]) G (Nat.le_of_ble_eq_true rfl) rfl (z_dec T_X5_wonByRow_ok 41 (58, .istore 6, 2) rfl) ?_
      refine zx_iload (pc := 60) G 0 rfl (z_dec T_X5_wonByRow_ok 42 (60, .iload 6, 2) rfl) ?_
      refine zx_if_lt (pc := 62) (tgt := 85) G rfl (z_dec T_X5_wonByRow_ok 43 (62, .ifCond .lt 23, 3) rfl) (fun hc => ?_) (fun hc => ?_)
      · replace h := z_pos hc h
        refine zx_sub (lv' := [(0, .ref (19)), (3, .int (v3)), (4, .int (v4)), (5, .int (v5))]) [1, 2, 3, 4] rfl ?_
        exact L_X5_wonByRow_85_ok G hr hlk hP38 hI f_l0 h
      · replace h := z_neg hc h
        refine zx_iload (pc := 65) G 0 rfl (z_dec T_X5_wonByRow_ok 44 (65, .iload 6, 2) rfl) ?_
        refine zx_aload_n (pc := 67) G (some (19)) 1 rfl rfl (z_dec T_X5_wonByRow_ok 45 (67, .aload_n 0, 1) rfl) ?_
        refine zx_getF (pc := 68) (b := 20) G gf_RX5_9 rfl f_l0 (zq_5_0 hI f_l0) (z_dec T_X5_wonByRow_ok 46 (68, .getfield 9, 3) rfl) ?_
        refine zx_alen (pc := 71) G (zk_5_0 hI f_l0) (z_dec T_X5_wonByRow_ok 47 (71, .arraylength, 1) rfl) ?_
        refine zx_icmp_ge (pc := 72) (tgt := 85) G rfl (z_dec T_X5_wonByRow_ok 48 (72, .if_icmp .ge 13, 3) rfl) (fun hc => ?_) (fun hc => ?_)
        · replace h := z_pos hc h
          refine zx_sub (lv' := [(0, .ref (19)), (3, .int (v3)), (4, .int (v4)), (5, .int (v5))]) [1, 2, 3, 4] rfl ?_
          exact L_X5_wonByRow_85_ok G hr hlk hP38 hI f_l0 h
        · replace h := z_neg hc h
          refine zx_aload_n (pc := 75) G (some (19)) 1 rfl rfl (z_dec T_X5_wonByRow_ok 49 (75, .aload_n 0, 1) rfl) ?_
          refine zx_getF (pc := 76) (b := 20) G gf_RX5_9 rfl f_l0 (zq_5_0 hI f_l0) (z_dec T_X5_wonByRow_ok 50 (76, .getfield 9, 3) rfl) ?_
          refine zx_iload (pc := 79) G 0 rfl (z_dec T_X5_wonByRow_ok 51 (79, .iload 6, 2) rfl) ?_
          obtain ⟨c1, h⟩ := h
          refine zx_iald (pc := 81) G (zk_5_0 hI f_l0) c1 (z_dec T_X5_wonByRow_ok 52 (81, .iaload, 1) rfl) ?_
          refine zx_goto (pc := 82) (tgt := 86) G rfl (z_dec T_X5_wonByRow_ok 53 (82, .goto 4, 3) rfl) ?_
          refine zx_sub (lv' := [(0, .ref (19)), (3, .int (v3)), (4, .int (v4)), (5, .int (v5))]) [1, 2, 3, 4] rfl ?_
          exact L_X5_wonByRow_86_ok G hr hlk hP38 hI f_l0 h
set_option maxRecDepth 100000 in
set_option maxHeartbeats 4000000 in
theorem L_X5_wonByRow_38_ok {p : Program} {l : Launch} {e : Env} {s : State} {m : MethodId} {args : Array Value} {below : List Frame} {meth : Method} {c : Code} {D : va_G} {A : Nat → Prop} {ρ : z_A} {kd : z_K} {q : z_Q} {μ : z_M} {K : Int32 → z_M → Prop} {v3 : Int32} {v4 : Int32} {v5 : Int32} (G : z_G p c cX5_wonByRow s m args RX5 8 D) (hr : meth.sig.returnType = (Option.some Jvm.ClassFile.FieldType.int)) (hlk : meth.locks = false) (hI : z_I kd q) (f_l0 : kd 19 = some (.inl 5)) (h : L_X5_wonByRow_38 kd q K v3 v4 v5 μ) : z_X p l e rm_X5_wonByRow s m args below meth c 8 D A (MQ below (z_Qn D A ρ kd (z_Ki q K)) args s 0 0 A) 0 0 ρ kd q μ 38 [(0, .ref (19)), (3, .int (v3)), (4, .int (v4)), (5, .int (v5))] [] :=
  h (fun (v3 : Int32) (v4 : Int32) (v5 : Int32) (μ : z_M) => (kd 19 = some (.inl 5)) → z_X p l e rm_X5_wonByRow s m args below meth c 8 D A (MQ below (z_Qn D A ρ kd (z_Ki q K)) args s 0 0 A) 0 0 ρ kd q μ 38 [(0, .ref (19)), (3, .int (v3)), (4, .int (v4)), (5, .int (v5))] []) (fun v3 v4 v5 μ h f_l0 => B_X5_wonByRow_38_ok G hr hlk (fun _ _ _ _ h => h) hI f_l0 h) f_l0
set_option maxRecDepth 100000 in
set_option maxHeartbeats 4000000 in
theorem B_X5_wonByRow_5_ok {p : Program} {l : Launch} {e : Env} {s : State} {m : MethodId} {args : Array Value} {below : List Frame} {meth : Method} {c : Code} {D : va_G} {A : Nat → Prop} {ρ : z_A} {kd : z_K} {q : z_Q} {μ : z_M} {K : Int32 → z_M → Prop} {P5 : Int32 → Int32 → Int32 → Int32 → z_M → Prop} {v1 : Int32} {v2 : Int32} {v3 : Int32} {v4 : Int32} (G : z_G p c cX5_wonByRow s m args RX5 8 D) (hr : meth.sig.returnType = (Option.some Jvm.ClassFile.FieldType.int)) (hlk : meth.locks = false) (hP5 : ∀ (v1 : Int32) (v2 : Int32) (v3 : Int32) (v4 : Int32) (μ : z_M), P5 v1 v2 v3 v4 μ → (kd 19 = some (.inl 5)) → z_X p l e rm_X5_wonByRow s m args below meth c 8 D A (MQ below (z_Qn D A ρ kd (z_Ki q K)) args s 0 0 A) 0 0 ρ kd q μ 5 [(0, .ref (19)), (1, .int (v1)), (2, .int (v2)), (3, .int (v3)), (4, .int (v4))] []) (hI : z_I kd q) (f_l0 : kd 19 = some (.inl 5)) (h : B_X5_wonByRow_5 kd q K P5 v1 v2 v3 v4 μ) : z_X p l e rm_X5_wonByRow s m args below meth c 8 D A (MQ below (z_Qn D A ρ kd (z_Ki q K)) args s 0 0 A) 0 0 ρ kd q μ 5 [(0, .ref (19)), (1, .int (v1)), (2, .int (v2)), (3, .int (v3)), (4, .int (v4))] [] := by
    unfold B_X5_wonByRow_5 at h
    refine zx_iload (pc := 5) G 4 rfl (z_dec T_X5_wonByRow_ok 4 (5, .iload 4, 2) rfl) ?_
    refine zx_iload_n (pc := 7) G 2 rfl rfl (z_dec T_X5_wonByRow_ok 5 (7, .iload_n 2, 1) rfl) ?_
    refine zx_icmp_ge (pc := 8) (tgt := 32) G rfl (z_dec T_X5_wonByRow_ok 6 (8, .if_icmp .ge 24, 3) rfl) (fun hc => ?_) (fun hc => ?_)
    · replace h := z_pos hc h
      refine zx_iconst (pc := 32) (v := 0) G (z_dec T_X5_wonByRow_ok 23 (32, .iconst 0, 1) rfl) rfl ?_
      refine zx_istore (pc := 33) (lv' := [(4, .int ((0 : Int32))), (0, .ref (19)), (1, .int (v1)), (2, .int (v2)), (3, .int (v3))]) G (Nat.le_of_ble_eq_true rfl) rfl (z_dec T_X5_wonByRow_ok 24 (33, .istore 4, 2) rfl) ?_
      refine zx_iconst (pc := 35) (v := 0) G (z_dec T_X5_wonByRow_ok 25 (35, .iconst 0, 1) rfl) rfl ?_
      refine zx_istore (pc := 36) (lv' := [(5, .int ((0 : Int32))), (4, .int ((0 : Int32))), (0, .ref (19)), (1, .int (v1)), (2, .int (v2)), (3, .int (v3))]) G (Nat.le_of_ble_eq_true rfl) rfl (z_dec T_X5_wonByRow_ok 26 (36, .istore 5, 2) rfl) ?_
      refine zx_sub (lv' := [(0, .ref (19)), (3, .int (v3)), (4, .int ((0 : Int32))), (5, .int ((0 : Int32)))]) [2, 5, 1, 0] rfl ?_
      exact L_X5_wonByRow_38_ok G hr hlk hI f_l0 h
    · replace h := z_neg hc h
      refine zx_iload_n (pc := 11) G 3 rfl rfl (z_dec T_X5_wonByRow_ok 7 (11, .iload_n 3, 1) rfl) ?_
      refine zx_iconst (pc := 12) (v := 1) G (z_dec T_X5_wonByRow_ok 8 (12, .iconst 1, 1) rfl) rfl ?_
      refine zx_iconst (pc := 13) (v := 4) G (z_dec T_X5_wonByRow_ok 9 (13, .iconst 4, 1) rfl) rfl ?_
      refine zx_iload_n (pc := 14) G 1 rfl rfl (z_dec T_X5_wonByRow_ok 10 (14, .iload_n 1, 1) rfl) ?_
      refine zx_iconst (pc := 15) (v := 2) G (z_dec T_X5_wonByRow_ok 11 (15, .iconst 2, 1) rfl) rfl ?_
      refine zx_iload (pc := 16) G 4 rfl (z_dec T_X5_wonByRow_ok 12 (16, .iload 4, 2) rfl) ?_
      refine zx_imul (pc := 18) G  (z_dec T_X5_wonByRow_ok 13 (18, .imul, 1) rfl) ?_
      refine zx_ishr (pc := 19) G  (z_dec T_X5_wonByRow_ok 14 (19, .ishr, 1) rfl) ?_
      refine zx_iconst (pc := 20) (v := 3) G (z_dec T_X5_wonByRow_ok 15 (20, .iconst 3, 1) rfl) rfl ?_
      refine zx_iand (pc := 21) G  (z_dec T_X5_wonByRow_ok 16 (21, .iand, 1) rfl) ?_
      refine zx_imul (pc := 22) G  (z_dec T_X5_wonByRow_ok 17 (22, .imul, 1) rfl) ?_
      refine zx_ishl (pc := 23) G  (z_dec T_X5_wonByRow_ok 18 (23, .ishl, 1) rfl) ?_
      refine zx_iadd (pc := 24) G  (z_dec T_X5_wonByRow_ok 19 (24, .iadd, 1) rfl) ?_
      refine zx_istore_n (pc := 25) (lv' := [(3, .int (v3 + (((1 : Int32)) <<< ((((4 : Int32)) * ((v1 >>> ((((2 : Int32)) * v4) &&& 31)) &&& ((3 : Int32)))) &&& 31)))), (0, .ref (19)), (1, .int (v1)), (2, .int (v2)), (4, .int (v4))]) G rfl (Nat.le_of_ble_eq_true rfl) rfl (z_dec T_X5_wonByRow_ok 20 (25, .istore_n 3, 1) rfl) ?_
      refine zx_iinc (pc := 26) (v := v4 + 1) (lv' := [(4, .int (v4 + 1)), (3, .int (v3 + (((1 : Int32)) <<< ((((4 : Int32)) * ((v1 >>> ((((2 : Int32)) * v4) &&& 31)) &&& ((3 : Int32)))) &&& 31)))), (0, .ref (19)), (1, .int (v1)), (2, .int (v2))]) G 4 rfl (z_inc (by decide)) (Nat.le_of_ble_eq_true rfl) rfl (z_dec T_X5_wonByRow_ok 21 (26, .iinc 4 1, 3) rfl) ?_
      refine zx_goto (pc := 29) (tgt := 5) G rfl (z_dec T_X5_wonByRow_ok 22 (29, .goto (-24), 3) rfl) ?_
      refine zx_sub (lv' := [(0, .ref (19)), (1, .int (v1)), (2, .int (v2)), (3, .int (v3 + (((1 : Int32)) <<< ((((4 : Int32)) * ((v1 >>> ((((2 : Int32)) * v4) &&& 31)) &&& ((3 : Int32)))) &&& 31)))), (4, .int (v4 + 1))]) [2, 3, 4, 1, 0] rfl ?_
      exact hP5 _ _ _ _ _ h f_l0
set_option maxRecDepth 100000 in
set_option maxHeartbeats 4000000 in
theorem L_X5_wonByRow_5_ok {p : Program} {l : Launch} {e : Env} {s : State} {m : MethodId} {args : Array Value} {below : List Frame} {meth : Method} {c : Code} {D : va_G} {A : Nat → Prop} {ρ : z_A} {kd : z_K} {q : z_Q} {μ : z_M} {K : Int32 → z_M → Prop} {v1 : Int32} {v2 : Int32} {v3 : Int32} {v4 : Int32} (G : z_G p c cX5_wonByRow s m args RX5 8 D) (hr : meth.sig.returnType = (Option.some Jvm.ClassFile.FieldType.int)) (hlk : meth.locks = false) (hI : z_I kd q) (f_l0 : kd 19 = some (.inl 5)) (h : L_X5_wonByRow_5 kd q K v1 v2 v3 v4 μ) : z_X p l e rm_X5_wonByRow s m args below meth c 8 D A (MQ below (z_Qn D A ρ kd (z_Ki q K)) args s 0 0 A) 0 0 ρ kd q μ 5 [(0, .ref (19)), (1, .int (v1)), (2, .int (v2)), (3, .int (v3)), (4, .int (v4))] [] :=
  h (fun (v1 : Int32) (v2 : Int32) (v3 : Int32) (v4 : Int32) (μ : z_M) => (kd 19 = some (.inl 5)) → z_X p l e rm_X5_wonByRow s m args below meth c 8 D A (MQ below (z_Qn D A ρ kd (z_Ki q K)) args s 0 0 A) 0 0 ρ kd q μ 5 [(0, .ref (19)), (1, .int (v1)), (2, .int (v2)), (3, .int (v3)), (4, .int (v4))] []) (fun v1 v2 v3 v4 μ h f_l0 => B_X5_wonByRow_5_ok G hr hlk (fun _ _ _ _ _ h => h) hI f_l0 h) f_l0
set_option maxRecDepth 100000 in
set_option maxHeartbeats 4000000 in
theorem met_X5_wonByRow (l : Launch) (D : va_G) (ρ : z_A) (kd : z_K) (q : z_Q) (μ : z_M) (sz : Nat) (a1 : Int32) (a2 : Int32) (K : Int32 → z_M → Prop) (hI : z_I kd q) (h_o : kd 19 = some (.inl 5)) (h : C_X5_wonByRow kd q a1 a2 μ K) : Met l yX5_wonByRow (z_ws yX5_wonByRow cX5_wonByRow 8 (Option.some Jvm.ClassFile.FieldType.int)) rm_X5_wonByRow (z_Pc D ρ kd q μ sz [.ref (19), .int (a1), .int (a2)]) (z_Qn D (z_Rg ρ sz) ρ kd (z_Ki q K)) 0 0 (z_Rg ρ sz) := by
  refine z_met (rm := rm_X5_wonByRow) (by decide) (Nat.le_of_ble_eq_true rfl) (fun p e s m args below meth c G hr hlk => ?_)
  unfold C_X5_wonByRow at h
  show z_X _ _ _ _ _ _ _ _ _ _ _ _ _ _ _ _ _ _ _ _ _ [(0, .ref (19)), (1, .int (a1)), (2, .int (a2))] _
  refine zx_iconst (pc := 0) (v := 0) G (z_dec T_X5_wonByRow_ok 0 (0, .iconst 0, 1) rfl) rfl ?_
  refine zx_istore_n (pc := 1) (lv' := [(3, .int ((0 : Int32))), (0, .ref (19)), (1, .int (a1)), (2, .int (a2))]) G rfl (Nat.le_of_ble_eq_true rfl) rfl (z_dec T_X5_wonByRow_ok 1 (1, .istore_n 3, 1) rfl) ?_
  refine zx_iconst (pc := 2) (v := 0) G (z_dec T_X5_wonByRow_ok 2 (2, .iconst 0, 1) rfl) rfl ?_
  refine zx_istore (pc := 3) (lv' := [(4, .int ((0 : Int32))), (3, .int ((0 : Int32))), (0, .ref (19)), (1, .int (a1)), (2, .int (a2))]) G (Nat.le_of_ble_eq_true rfl) rfl (z_dec T_X5_wonByRow_ok 3 (3, .istore 4, 2) rfl) ?_
  refine zx_sub (lv' := [(0, .ref (19)), (1, .int (a1)), (2, .int (a2)), (3, .int ((0 : Int32))), (4, .int ((0 : Int32)))]) [2, 3, 4, 1, 0] rfl ?_
  exact L_X5_wonByRow_5_ok G hr hlk hI h_o h
abbrev rm_X5_seek : Room := { frames := 1, cells := 0, slots := 0, locals := 27 }
set_option maxRecDepth 100000 in
set_option maxHeartbeats 4000000 in
theorem B_X5_seek_7_ok {p : Program} {l : Launch} {e : Env} {s : State} {m : MethodId} {args : Array Value} {below : List Frame} {meth : Method} {c : Code} {D : va_G} {A : Nat → Prop} {ρ : z_A} {kd : z_K} {q : z_Q} {μ : z_M} {K : z_M → Prop} {P7 : Int32 → Int32 → z_M → Prop} {v1 : Int32} {v2 : Int32} (G : z_G p c cX5_seek s m args RX5 4 D) (hr : meth.sig.returnType = (Option.none : Option Jvm.ClassFile.FieldType)) (hlk : meth.locks = false) (hP7 : ∀ (v1 : Int32) (v2 : Int32) (μ : z_M), P7 v1 v2 μ → (kd 19 = some (.inl 5)) → z_X p l e rm_X5_seek s m args below meth c 4 D A (MQ below (z_Qn D A ρ kd (z_Kv q K)) args s 0 0 A) 0 0 ρ kd q μ 7 [(0, .ref (19)), (1, .int (v1)), (2, .int (v2))] []) (hI : z_I kd q) (f_l0 : kd 19 = some (.inl 5)) (h : B_X5_seek_7 kd q K P7 v1 v2 μ) : z_X p l e rm_X5_seek s m args below meth c 4 D A (MQ below (z_Qn D A ρ kd (z_Kv q K)) args s 0 0 A) 0 0 ρ kd q μ 7 [(0, .ref (19)), (1, .int (v1)), (2, .int (v2))] [] := by
    unfold B_X5_seek_7 at h
    refine zx_iload_n (pc := 7) G 1 rfl rfl (z_dec T_X5_seek_ok 5 (7, .iload_n 1, 1) rfl) ?_
    refine zx_iconst (pc := 8) (v := 4) G (z_dec T_X5_seek_ok 6 (8, .iconst 4, 1) rfl) rfl ?_
    refine zx_icmp_gt (pc := 9) (tgt := 52) G rfl (z_dec T_X5_seek_ok 7 (9, .if_icmp .gt 43, 3) rfl) (fun hc => ?_) (fun hc => ?_)
    · replace h := z_pos hc h
      exact zx_vret (pc := 52) G hr hlk (Nat.le_refl _) (Nat.le_refl _) (z_dec T_X5_seek_ok 32 (52, .return_, 1) rfl) ⟨rfl, rfl, h⟩
    · replace h := z_neg hc h
      refine zx_iload_n (pc := 12) G 2 rfl rfl (z_dec T_X5_seek_ok 8 (12, .iload_n 2, 1) rfl) ?_
      refine zx_iconst (pc := 13) (v := 1) G (z_dec T_X5_seek_ok 9 (13, .iconst 1, 1) rfl) rfl ?_
      refine zx_iconst (pc := 14) (v := 2) G (z_dec T_X5_seek_ok 10 (14, .iconst 2, 1) rfl) rfl ?_
      refine zx_iload_n (pc := 15) G 1 rfl rfl (z_dec T_X5_seek_ok 11 (15, .iload_n 1, 1) rfl) ?_
      refine zx_imul (pc := 16) G  (z_dec T_X5_seek_ok 12 (16, .imul, 1) rfl) ?_
      refine zx_ishl (pc := 17) G  (z_dec T_X5_seek_ok 13 (17, .ishl, 1) rfl) ?_
      refine zx_icmp_ge (pc := 18) (tgt := 52) G rfl (z_dec T_X5_seek_ok 14 (18, .if_icmp .ge 34, 3) rfl) (fun hc => ?_) (fun hc => ?_)
      · replace h := z_pos hc h
        exact zx_vret (pc := 52) G hr hlk (Nat.le_refl _) (Nat.le_refl _) (z_dec T_X5_seek_ok 32 (52, .return_, 1) rfl) ⟨rfl, rfl, h⟩
      · replace h := z_neg hc h
        refine zx_aload_n (pc := 21) G (some (19)) 0 rfl rfl (z_dec T_X5_seek_ok 15 (21, .aload_n 0, 1) rfl) ?_
        refine zx_iload_n (pc := 22) G 2 rfl rfl (z_dec T_X5_seek_ok 16 (22, .iload_n 2, 1) rfl) ?_
        refine zx_iload_n (pc := 23) G 1 rfl rfl (z_dec T_X5_seek_ok 17 (23, .iload_n 1, 1) rfl) ?_
        refine zx_callV_iN (pc := 24) (rm := rm_X5_wonByRow) G cw_RX5_33 ⟨Nat.le_of_ble_eq_true rfl, Nat.le_of_ble_eq_true rfl⟩ rfl rfl ⟨Nat.zero_le _, Nat.zero_le _⟩ f_l0 rfl (fun sz => (met_X5_wonByRow l D ρ kd q μ sz v2 v1 _ hI f_l0 h)) rfl rfl (Nat.le_of_ble_eq_true rfl) (z_dec T_X5_seek_ok 18 (24, .invokevirtual 33, 3) rfl) (fun r2 μ1 hn => ?_)
        clear h
        have h := hn
        clear hn
        refine zx_istore_n (pc := 27) (lv' := [(3, .int (r2)), (0, .ref (19)), (1, .int (v1)), (2, .int (v2))]) G rfl (Nat.le_of_ble_eq_true rfl) rfl (z_dec T_X5_seek_ok 19 (27, .istore_n 3, 1) rfl) ?_
        refine zx_iload_n (pc := 28) G 0 rfl rfl (z_dec T_X5_seek_ok 20 (28, .iload_n 3, 1) rfl) ?_
        refine zx_aload_n (pc := 29) G (some (19)) 1 rfl rfl (z_dec T_X5_seek_ok 21 (29, .aload_n 0, 1) rfl) ?_
        refine zx_getI (pc := 30) G gf_RX5_29 rfl f_l0 (z_dec T_X5_seek_ok 22 (30, .getfield 29, 3) rfl) ?_
        refine zx_icmp_le (pc := 33) (tgt := 46) G rfl (z_dec T_X5_seek_ok 23 (33, .if_icmp .le 13, 3) rfl) (fun hc => ?_) (fun hc => ?_)
        · replace h := z_pos hc h
          refine zx_iinc (pc := 46) (v := v2 + 1) (lv' := [(2, .int (v2 + 1)), (3, .int (r2)), (0, .ref (19)), (1, .int (v1))]) G 3 rfl (z_inc (by decide)) (Nat.le_of_ble_eq_true rfl) rfl (z_dec T_X5_seek_ok 30 (46, .iinc 2 1, 3) rfl) ?_
          refine zx_goto (pc := 49) (tgt := 7) G rfl (z_dec T_X5_seek_ok 31 (49, .goto (-42), 3) rfl) ?_
          refine zx_sub (lv' := [(0, .ref (19)), (1, .int (v1)), (2, .int (v2 + 1))]) [2, 3, 0] rfl ?_
          exact hP7 _ _ _ h f_l0
        · replace h := z_neg hc h
          refine zx_aload_n (pc := 36) G (some (19)) 1 rfl rfl (z_dec T_X5_seek_ok 24 (36, .aload_n 0, 1) rfl) ?_
          refine zx_iload_n (pc := 37) G 0 rfl rfl (z_dec T_X5_seek_ok 25 (37, .iload_n 3, 1) rfl) ?_
          refine zx_putI (pc := 38) G gf_RX5_29 cf_5 rfl rfl f_l0 (z_dec T_X5_seek_ok 26 (38, .putfield 29, 3) rfl) ?_
          refine zx_aload_n (pc := 41) G (some (19)) 1 rfl rfl (z_dec T_X5_seek_ok 27 (41, .aload_n 0, 1) rfl) ?_
          refine zx_iload_n (pc := 42) G 3 rfl rfl (z_dec T_X5_seek_ok 28 (42, .iload_n 2, 1) rfl) ?_
          refine zx_putI (pc := 43) G gf_RX5_37 cf_5 rfl rfl f_l0 (z_dec T_X5_seek_ok 29 (43, .putfield 37, 3) rfl) ?_
          refine zx_iinc (pc := 46) (v := v2 + 1) (lv' := [(2, .int (v2 + 1)), (3, .int (r2)), (0, .ref (19)), (1, .int (v1))]) G 3 rfl (z_inc (by decide)) (Nat.le_of_ble_eq_true rfl) rfl (z_dec T_X5_seek_ok 30 (46, .iinc 2 1, 3) rfl) ?_
          refine zx_goto (pc := 49) (tgt := 7) G rfl (z_dec T_X5_seek_ok 31 (49, .goto (-42), 3) rfl) ?_
          refine zx_sub (lv' := [(0, .ref (19)), (1, .int (v1)), (2, .int (v2 + 1))]) [2, 3, 0] rfl ?_
          exact hP7 _ _ _ h f_l0
set_option maxRecDepth 100000 in
set_option maxHeartbeats 4000000 in
theorem L_X5_seek_7_ok {p : Program} {l : Launch} {e : Env} {s : State} {m : MethodId} {args : Array Value} {below : List Frame} {meth : Method} {c : Code} {D : va_G} {A : Nat → Prop} {ρ : z_A} {kd : z_K} {q : z_Q} {μ : z_M} {K : z_M → Prop} {v1 : Int32} {v2 : Int32} (G : z_G p c cX5_seek s m args RX5 4 D) (hr : meth.sig.returnType = (Option.none : Option Jvm.ClassFile.FieldType)) (hlk : meth.locks = false) (hI : z_I kd q) (f_l0 : kd 19 = some (.inl 5)) (h : L_X5_seek_7 kd q K v1 v2 μ) : z_X p l e rm_X5_seek s m args below meth c 4 D A (MQ below (z_Qn D A ρ kd (z_Kv q K)) args s 0 0 A) 0 0 ρ kd q μ 7 [(0, .ref (19)), (1, .int (v1)), (2, .int (v2))] [] :=
  h (fun (v1 : Int32) (v2 : Int32) (μ : z_M) => (kd 19 = some (.inl 5)) → z_X p l e rm_X5_seek s m args below meth c 4 D A (MQ below (z_Qn D A ρ kd (z_Kv q K)) args s 0 0 A) 0 0 ρ kd q μ 7 [(0, .ref (19)), (1, .int (v1)), (2, .int (v2))] []) (fun v1 v2 μ h f_l0 => B_X5_seek_7_ok G hr hlk (fun _ _ _ h => h) hI f_l0 h) f_l0
set_option maxRecDepth 100000 in
set_option maxHeartbeats 4000000 in
theorem met_X5_seek (l : Launch) (D : va_G) (ρ : z_A) (kd : z_K) (q : z_Q) (μ : z_M) (sz : Nat) (a1 : Int32) (K : z_M → Prop) (hI : z_I kd q) (h_o : kd 19 = some (.inl 5)) (h : C_X5_seek kd q a1 μ K) : Met l yX5_seek (z_ws yX5_seek cX5_seek 4 (Option.none : Option Jvm.ClassFile.FieldType)) rm_X5_seek (z_Pc D ρ kd q μ sz [.ref (19), .int (a1)]) (z_Qn D (z_Rg ρ sz) ρ kd (z_Kv q K)) 0 0 (z_Rg ρ sz) := by
  refine z_met (rm := rm_X5_seek) (by decide) (Nat.le_of_ble_eq_true rfl) (fun p e s m args below meth c G hr hlk => ?_)
  unfold C_X5_seek at h
  show z_X _ _ _ _ _ _ _ _ _ _ _ _ _ _ _ _ _ _ _ _ _ [(0, .ref (19)), (1, .int (a1))] _
  refine zx_aload_n (pc := 0) G (some (19)) 0 rfl rfl (z_dec T_X5_seek_ok 0 (0, .aload_n 0, 1) rfl) ?_
  refine zx_iconst (pc := 1) (v := -1) G (z_dec T_X5_seek_ok 1 (1, .iconst (-1), 1) rfl) rfl ?_
  refine zx_putI (pc := 2) G gf_RX5_29 cf_5 rfl rfl h_o (z_dec T_X5_seek_ok 2 (2, .putfield 29, 3) rfl) ?_
  refine zx_iconst (pc := 5) (v := 0) G (z_dec T_X5_seek_ok 3 (5, .iconst 0, 1) rfl) rfl ?_
  refine zx_istore_n (pc := 6) (lv' := [(2, .int ((0 : Int32))), (0, .ref (19)), (1, .int (a1))]) G rfl (Nat.le_of_ble_eq_true rfl) rfl (z_dec T_X5_seek_ok 4 (6, .istore_n 2, 1) rfl) ?_
  refine zx_sub (lv' := [(0, .ref (19)), (1, .int (a1)), (2, .int ((0 : Int32)))]) [1, 2, 0] rfl ?_
  exact L_X5_seek_7_ok G hr hlk hI h_o h
abbrev rm_X5_bookOf : Room := { frames := 0, cells := 0, slots := 0, locals := 0 }
set_option maxRecDepth 100000 in
set_option maxHeartbeats 4000000 in
theorem met_X5_bookOf (l : Launch) (D : va_G) (ρ : z_A) (kd : z_K) (q : z_Q) (μ : z_M) (sz : Nat) (a1 : Int32) (a2 : Int32) (K : Int32 → z_M → Prop) (hI : z_I kd q) (h_o : kd 19 = some (.inl 5)) (h : C_X5_bookOf kd q a1 a2 μ K) : Met l yX5_bookOf (z_ws yX5_bookOf cX5_bookOf 3 (Option.some Jvm.ClassFile.FieldType.int)) rm_X5_bookOf (z_Pc D ρ kd q μ sz [.ref (19), .int (a1), .int (a2)]) (z_Qn D (z_Rg ρ sz) ρ kd (z_Ki q K)) 0 0 (z_Rg ρ sz) := by
  refine z_met (rm := rm_X5_bookOf) (by decide) (Nat.le_of_ble_eq_true rfl) (fun p e s m args below meth c G hr hlk => ?_)
  unfold C_X5_bookOf at h
  show z_X _ _ _ _ _ _ _ _ _ _ _ _ _ _ _ _ _ _ _ _ _ [(0, .ref (19)), (1, .int (a1)), (2, .int (a2))] _
  refine zx_aload_n (pc := 0) G (some (19)) 0 rfl rfl (z_dec T_X5_bookOf_ok 0 (0, .aload_n 0, 1) rfl) ?_
  refine zx_getI (pc := 1) G gf_RX5_37 rfl h_o (z_dec T_X5_bookOf_ok 1 (1, .getfield 37, 3) rfl) ?_
  refine zx_iconst (pc := 4) (v := 2) G (z_dec T_X5_bookOf_ok 2 (4, .iconst 2, 1) rfl) rfl ?_
  refine zx_iload_n (pc := 5) G 2 rfl rfl (z_dec T_X5_bookOf_ok 3 (5, .iload_n 2, 1) rfl) ?_
  refine zx_iconst (pc := 6) (v := 1) G (z_dec T_X5_bookOf_ok 4 (6, .iconst 1, 1) rfl) rfl ?_
  refine zx_isub (pc := 7) G  (z_dec T_X5_bookOf_ok 5 (7, .isub, 1) rfl) ?_
  refine zx_iload_n (pc := 8) G 1 rfl rfl (z_dec T_X5_bookOf_ok 6 (8, .iload_n 1, 1) rfl) ?_
  refine zx_isub (pc := 9) G  (z_dec T_X5_bookOf_ok 7 (9, .isub, 1) rfl) ?_
  refine zx_imul (pc := 10) G  (z_dec T_X5_bookOf_ok 8 (10, .imul, 1) rfl) ?_
  refine zx_ishr (pc := 11) G  (z_dec T_X5_bookOf_ok 9 (11, .ishr, 1) rfl) ?_
  refine zx_iconst (pc := 12) (v := 3) G (z_dec T_X5_bookOf_ok 10 (12, .iconst 3, 1) rfl) rfl ?_
  refine zx_iand (pc := 13) G  (z_dec T_X5_bookOf_ok 11 (13, .iand, 1) rfl) ?_
  exact zx_iret (pc := 14) G hr hlk (Nat.le_refl _) (Nat.le_refl _) (z_dec T_X5_bookOf_ok 12 (14, .ireturn, 1) rfl) ⟨rfl, _, rfl, h⟩
abbrev rm_X6_all : Room := { frames := 0, cells := 0, slots := 0, locals := 0 }
set_option maxRecDepth 100000 in
set_option maxHeartbeats 4000000 in
theorem met_X6_all (l : Launch) (D : va_G) (ρ : z_A) (kd : z_K) (q : z_Q) (μ : z_M) (sz : Nat) (o : Nat) (K : Int32 → z_M → Prop) (hI : z_I kd q) (h_o : kd o = some (.inl 6)) (h : C_X6_all kd q o μ K) : Met l yX6_all (z_ws yX6_all cX6_all 1 (Option.some Jvm.ClassFile.FieldType.int)) rm_X6_all (z_Pc D ρ kd q μ sz [.ref (o)]) (z_Qn D (z_Rg ρ sz) ρ kd (z_Ki q K)) 0 0 (z_Rg ρ sz) := by
  refine z_met (rm := rm_X6_all) (by decide) (Nat.le_of_ble_eq_true rfl) (fun p e s m args below meth c G hr hlk => ?_)
  unfold C_X6_all at h
  show z_X _ _ _ _ _ _ _ _ _ _ _ _ _ _ _ _ _ _ _ _ _ [(0, .ref (o))] _
  refine zx_iconst (pc := 0) (v := 1) G (z_dec T_X6_all_ok 0 (0, .iconst 1, 1) rfl) rfl ?_
  refine zx_aload_n (pc := 1) G (some (o)) 0 rfl rfl (z_dec T_X6_all_ok 1 (1, .aload_n 0, 1) rfl) ?_
  refine zx_getI (pc := 2) G gf_RX6_9 rfl h_o (z_dec T_X6_all_ok 2 (2, .getfield 9, 3) rfl) ?_
  refine zx_ishl (pc := 5) G  (z_dec T_X6_all_ok 3 (5, .ishl, 1) rfl) ?_
  refine zx_iconst (pc := 6) (v := 1) G (z_dec T_X6_all_ok 4 (6, .iconst 1, 1) rfl) rfl ?_
  refine zx_isub (pc := 7) G  (z_dec T_X6_all_ok 5 (7, .isub, 1) rfl) ?_
  exact zx_iret (pc := 8) G hr hlk (Nat.le_refl _) (Nat.le_refl _) (z_dec T_X6_all_ok 6 (8, .ireturn, 1) rfl) ⟨rfl, _, rfl, h⟩
abbrev rm_X6_runners : Room := { frames := 1, cells := 0, slots := 0, locals := 20 }
set_option maxRecDepth 100000 in
set_option maxHeartbeats 4000000 in
theorem met_X6_runners (l : Launch) (D : va_G) (ρ : z_A) (kd : z_K) (q : z_Q) (μ : z_M) (sz : Nat) (o : Nat) (K : Int32 → z_M → Prop) (hI : z_I kd q) (h_o : kd o = some (.inl 6)) (h : C_X6_runners kd q o μ K) : Met l yX6_runners (z_ws yX6_runners cX6_runners 1 (Option.some Jvm.ClassFile.FieldType.int)) rm_X6_runners (z_Pc D ρ kd q μ sz [.ref (o)]) (z_Qn D (z_Rg ρ sz) ρ kd (z_Ki q K)) 0 0 (z_Rg ρ sz) := by
  refine z_met (rm := rm_X6_runners) (by decide) (Nat.le_of_ble_eq_true rfl) (fun p e s m args below meth c G hr hlk => ?_)
  unfold C_X6_runners at h
  show z_X _ _ _ _ _ _ _ _ _ _ _ _ _ _ _ _ _ _ _ _ _ [(0, .ref (o))] _
  refine zx_aload_n (pc := 0) G (some (o)) 0 rfl rfl (z_dec T_X6_runners_ok 0 (0, .aload_n 0, 1) rfl) ?_
  refine zx_callV_iN (pc := 1) (rm := rm_X6_all) G cw_RX6_35 ⟨Nat.le_of_ble_eq_true rfl, Nat.le_of_ble_eq_true rfl⟩ rfl rfl ⟨Nat.zero_le _, Nat.zero_le _⟩ h_o rfl (fun sz => (met_X6_all l D ρ kd q μ sz o _ hI h_o h)) rfl rfl (Nat.le_of_ble_eq_true rfl) (z_dec T_X6_runners_ok 1 (1, .invokevirtual 35, 3) rfl) (fun r2 μ1 hn => ?_)
  clear h
  have h := hn
  clear hn
  refine zx_aload_n (pc := 4) G (some (o)) 0 rfl rfl (z_dec T_X6_runners_ok 2 (4, .aload_n 0, 1) rfl) ?_
  refine zx_getI (pc := 5) G gf_RX6_29 rfl h_o (z_dec T_X6_runners_ok 3 (5, .getfield 29, 3) rfl) ?_
  refine zx_iconst (pc := 8) (v := -1) G (z_dec T_X6_runners_ok 4 (8, .iconst (-1), 1) rfl) rfl ?_
  refine zx_ixor (pc := 9) G  (z_dec T_X6_runners_ok 5 (9, .ixor, 1) rfl) ?_
  refine zx_iand (pc := 10) G  (z_dec T_X6_runners_ok 6 (10, .iand, 1) rfl) ?_
  exact zx_iret (pc := 11) G hr hlk (Nat.le_refl _) (Nat.le_refl _) (z_dec T_X6_runners_ok 7 (11, .ireturn, 1) rfl) ⟨rfl, _, rfl, h⟩
abbrev rm_J6_bitCount_0f7a4 : Room := { frames := 0, cells := 0, slots := 0, locals := 0 }
set_option maxRecDepth 100000 in
set_option maxHeartbeats 4000000 in
theorem met_J6_bitCount_0f7a4 (l : Launch) (D : va_G) (ρ : z_A) (kd : z_K) (q : z_Q) (μ : z_M) (sz : Nat) (a1 : Int32) (K : Int32 → z_M → Prop) (h : C_J6_bitCount_0f7a4 a1 μ K) : Met l yJ6_bitCount_0f7a4 (z_ws yJ6_bitCount_0f7a4 cJ6_bitCount_0f7a4 1 (Option.some Jvm.ClassFile.FieldType.int)) rm_J6_bitCount_0f7a4 (z_Pc D ρ kd q μ sz [.int (a1)]) (z_Qn D (z_Rg ρ sz) ρ kd (z_Ki q K)) 0 0 (z_Rg ρ sz) := by
  refine z_met (rm := rm_J6_bitCount_0f7a4) (by decide) (Nat.le_of_ble_eq_true rfl) (fun p e s m args below meth c G hr hlk => ?_)
  unfold C_J6_bitCount_0f7a4 at h
  show z_X _ _ _ _ _ _ _ _ _ _ _ _ _ _ _ _ _ _ _ _ _ [(0, .int (a1))] _
  refine zx_iload_n (pc := 0) G 0 rfl rfl (z_dec T_J6_bitCount_0f7a4_ok 0 (0, .iload_n 0, 1) rfl) ?_
  refine zx_iload_n (pc := 1) G 0 rfl rfl (z_dec T_J6_bitCount_0f7a4_ok 1 (1, .iload_n 0, 1) rfl) ?_
  refine zx_iconst (pc := 2) (v := 1) G (z_dec T_J6_bitCount_0f7a4_ok 2 (2, .iconst 1, 1) rfl) rfl ?_
  refine zx_iushr (pc := 3) G  (z_dec T_J6_bitCount_0f7a4_ok 3 (3, .iushr, 1) rfl) ?_
  refine zx_ldcw (pc := 4) G wk_RJ6_265 (z_dec T_J6_bitCount_0f7a4_ok 4 (4, .ldc_w 265, 3) rfl) ?_
  refine zx_iand (pc := 7) G  (z_dec T_J6_bitCount_0f7a4_ok 5 (7, .iand, 1) rfl) ?_
  refine zx_isub (pc := 8) G  (z_dec T_J6_bitCount_0f7a4_ok 6 (8, .isub, 1) rfl) ?_
  refine zx_istore_n (pc := 9) (lv' := [(0, .int (a1 - (((a1.toUInt32 >>> (((1 : Int32)).toUInt32 &&& Int32.toUInt32 31)).toInt32) &&& ((1431655765 : Int32)))))]) G rfl (Nat.le_of_ble_eq_true rfl) rfl (z_dec T_J6_bitCount_0f7a4_ok 7 (9, .istore_n 0, 1) rfl) ?_
  refine zx_iload_n (pc := 10) G 0 rfl rfl (z_dec T_J6_bitCount_0f7a4_ok 8 (10, .iload_n 0, 1) rfl) ?_
  refine zx_ldcw (pc := 11) G wk_RJ6_266 (z_dec T_J6_bitCount_0f7a4_ok 9 (11, .ldc_w 266, 3) rfl) ?_
  refine zx_iand (pc := 14) G  (z_dec T_J6_bitCount_0f7a4_ok 10 (14, .iand, 1) rfl) ?_
  refine zx_iload_n (pc := 15) G 0 rfl rfl (z_dec T_J6_bitCount_0f7a4_ok 11 (15, .iload_n 0, 1) rfl) ?_
  refine zx_iconst (pc := 16) (v := 2) G (z_dec T_J6_bitCount_0f7a4_ok 12 (16, .iconst 2, 1) rfl) rfl ?_
  refine zx_iushr (pc := 17) G  (z_dec T_J6_bitCount_0f7a4_ok 13 (17, .iushr, 1) rfl) ?_
  refine zx_ldcw (pc := 18) G wk_RJ6_266 (z_dec T_J6_bitCount_0f7a4_ok 14 (18, .ldc_w 266, 3) rfl) ?_
  refine zx_iand (pc := 21) G  (z_dec T_J6_bitCount_0f7a4_ok 15 (21, .iand, 1) rfl) ?_
  refine zx_iadd (pc := 22) G  (z_dec T_J6_bitCount_0f7a4_ok 16 (22, .iadd, 1) rfl) ?_
  refine zx_istore_n (pc := 23) (lv' := [(0, .int (((a1 - (((a1.toUInt32 >>> (((1 : Int32)).toUInt32 &&& Int32.toUInt32 31)).toInt32) &&& ((1431655765 : Int32)))) &&& ((858993459 : Int32))) + ((((a1 - (((a1.toUInt32 >>> (((1 : Int32)).toUInt32 &&& Int32.toUInt32 31)).toInt32) &&& ((1431655765 : Int32)))).toUInt32 >>> (((2 : Int32)).toUInt32 &&& Int32.toUInt32 31)).toInt32) &&& ((858993459 : Int32)))))]) G rfl (Nat.le_of_ble_eq_true rfl) rfl (z_dec T_J6_bitCount_0f7a4_ok 17 (23, .istore_n 0, 1) rfl) ?_
  refine zx_iload_n (pc := 24) G 0 rfl rfl (z_dec T_J6_bitCount_0f7a4_ok 18 (24, .iload_n 0, 1) rfl) ?_
  refine zx_iload_n (pc := 25) G 0 rfl rfl (z_dec T_J6_bitCount_0f7a4_ok 19 (25, .iload_n 0, 1) rfl) ?_
  refine zx_iconst (pc := 26) (v := 4) G (z_dec T_J6_bitCount_0f7a4_ok 20 (26, .iconst 4, 1) rfl) rfl ?_
  refine zx_iushr (pc := 27) G  (z_dec T_J6_bitCount_0f7a4_ok 21 (27, .iushr, 1) rfl) ?_
  refine zx_iadd (pc := 28) G  (z_dec T_J6_bitCount_0f7a4_ok 22 (28, .iadd, 1) rfl) ?_
  refine zx_ldcw (pc := 29) G wk_RJ6_267 (z_dec T_J6_bitCount_0f7a4_ok 23 (29, .ldc_w 267, 3) rfl) ?_
  refine zx_iand (pc := 32) G  (z_dec T_J6_bitCount_0f7a4_ok 24 (32, .iand, 1) rfl) ?_
  refine zx_istore_n (pc := 33) (lv' := [(0, .int (((((a1 - (((a1.toUInt32 >>> (((1 : Int32)).toUInt32 &&& Int32.toUInt32 31)).toInt32) &&& ((1431655765 : Int32)))) &&& ((858993459 : Int32))) + ((((a1 - (((a1.toUInt32 >>> (((1 : Int32)).toUInt32 &&& Int32.toUInt32 31)).toInt32) &&& ((1431655765 : Int32)))).toUInt32 >>> (((2 : Int32)).toUInt32 &&& Int32.toUInt32 31)).toInt32) &&& ((858993459 : Int32)))) + (((((a1 - (((a1.toUInt32 >>> (((1 : Int32)).toUInt32 &&& Int32.toUInt32 31)).toInt32) &&& ((1431655765 : Int32)))) &&& ((858993459 : Int32))) + ((((a1 - (((a1.toUInt32 >>> (((1 : Int32)).toUInt32 &&& Int32.toUInt32 31)).toInt32) &&& ((1431655765 : Int32)))).toUInt32 >>> (((2 : Int32)).toUInt32 &&& Int32.toUInt32 31)).toInt32) &&& ((858993459 : Int32)))).toUInt32 >>> (((4 : Int32)).toUInt32 &&& Int32.toUInt32 31)).toInt32)) &&& ((252645135 : Int32))))]) G rfl (Nat.le_of_ble_eq_true rfl) rfl (z_dec T_J6_bitCount_0f7a4_ok 25 (33, .istore_n 0, 1) rfl) ?_
  refine zx_iload_n (pc := 34) G 0 rfl rfl (z_dec T_J6_bitCount_0f7a4_ok 26 (34, .iload_n 0, 1) rfl) ?_
  refine zx_iload_n (pc := 35) G 0 rfl rfl (z_dec T_J6_bitCount_0f7a4_ok 27 (35, .iload_n 0, 1) rfl) ?_
  refine zx_bipush (pc := 36) (v := 8) G (z_dec T_J6_bitCount_0f7a4_ok 28 (36, .bipush 8, 2) rfl) rfl ?_
  refine zx_iushr (pc := 38) G  (z_dec T_J6_bitCount_0f7a4_ok 29 (38, .iushr, 1) rfl) ?_
  refine zx_iadd (pc := 39) G  (z_dec T_J6_bitCount_0f7a4_ok 30 (39, .iadd, 1) rfl) ?_
  refine zx_istore_n (pc := 40) (lv' := [(0, .int ((((((a1 - (((a1.toUInt32 >>> (((1 : Int32)).toUInt32 &&& Int32.toUInt32 31)).toInt32) &&& ((1431655765 : Int32)))) &&& ((858993459 : Int32))) + ((((a1 - (((a1.toUInt32 >>> (((1 : Int32)).toUInt32 &&& Int32.toUInt32 31)).toInt32) &&& ((1431655765 : Int32)))).toUInt32 >>> (((2 : Int32)).toUInt32 &&& Int32.toUInt32 31)).toInt32) &&& ((858993459 : Int32)))) + (((((a1 - (((a1.toUInt32 >>> (((1 : Int32)).toUInt32 &&& Int32.toUInt32 31)).toInt32) &&& ((1431655765 : Int32)))) &&& ((858993459 : Int32))) + ((((a1 - (((a1.toUInt32 >>> (((1 : Int32)).toUInt32 &&& Int32.toUInt32 31)).toInt32) &&& ((1431655765 : Int32)))).toUInt32 >>> (((2 : Int32)).toUInt32 &&& Int32.toUInt32 31)).toInt32) &&& ((858993459 : Int32)))).toUInt32 >>> (((4 : Int32)).toUInt32 &&& Int32.toUInt32 31)).toInt32)) &&& ((252645135 : Int32))) + (((((((a1 - (((a1.toUInt32 >>> (((1 : Int32)).toUInt32 &&& Int32.toUInt32 31)).toInt32) &&& ((1431655765 : Int32)))) &&& ((858993459 : Int32))) + ((((a1 - (((a1.toUInt32 >>> (((1 : Int32)).toUInt32 &&& Int32.toUInt32 31)).toInt32) &&& ((1431655765 : Int32)))).toUInt32 >>> (((2 : Int32)).toUInt32 &&& Int32.toUInt32 31)).toInt32) &&& ((858993459 : Int32)))) + (((((a1 - (((a1.toUInt32 >>> (((1 : Int32)).toUInt32 &&& Int32.toUInt32 31)).toInt32) &&& ((1431655765 : Int32)))) &&& ((858993459 : Int32))) + ((((a1 - (((a1.toUInt32 >>> (((1 : Int32)).toUInt32 &&& Int32.toUInt32 31)).toInt32) &&& ((1431655765 : Int32)))).toUInt32 >>> (((2 : Int32)).toUInt32 &&& Int32.toUInt32 31)).toInt32) &&& ((858993459 : Int32)))).toUInt32 >>> (((4 : Int32)).toUInt32 &&& Int32.toUInt32 31)).toInt32)) &&& ((252645135 : Int32))).toUInt32 >>> (((8 : Int32)).toUInt32 &&& Int32.toUInt32 31)).toInt32)))]) G rfl (Nat.le_of_ble_eq_true rfl) rfl (z_dec T_J6_bitCount_0f7a4_ok 31 (40, .istore_n 0, 1) rfl) ?_
  refine zx_iload_n (pc := 41) G 0 rfl rfl (z_dec T_J6_bitCount_0f7a4_ok 32 (41, .iload_n 0, 1) rfl) ?_
  refine zx_iload_n (pc := 42) G 0 rfl rfl (z_dec T_J6_bitCount_0f7a4_ok 33 (42, .iload_n 0, 1) rfl) ?_
  refine zx_bipush (pc := 43) (v := 16) G (z_dec T_J6_bitCount_0f7a4_ok 34 (43, .bipush 16, 2) rfl) rfl ?_
  refine zx_iushr (pc := 45) G  (z_dec T_J6_bitCount_0f7a4_ok 35 (45, .iushr, 1) rfl) ?_
  refine zx_iadd (pc := 46) G  (z_dec T_J6_bitCount_0f7a4_ok 36 (46, .iadd, 1) rfl) ?_
  refine zx_istore_n (pc := 47) (lv' := [(0, .int (((((((a1 - (((a1.toUInt32 >>> (((1 : Int32)).toUInt32 &&& Int32.toUInt32 31)).toInt32) &&& ((1431655765 : Int32)))) &&& ((858993459 : Int32))) + ((((a1 - (((a1.toUInt32 >>> (((1 : Int32)).toUInt32 &&& Int32.toUInt32 31)).toInt32) &&& ((1431655765 : Int32)))).toUInt32 >>> (((2 : Int32)).toUInt32 &&& Int32.toUInt32 31)).toInt32) &&& ((858993459 : Int32)))) + (((((a1 - (((a1.toUInt32 >>> (((1 : Int32)).toUInt32 &&& Int32.toUInt32 31)).toInt32) &&& ((1431655765 : Int32)))) &&& ((858993459 : Int32))) + ((((a1 - (((a1.toUInt32 >>> (((1 : Int32)).toUInt32 &&& Int32.toUInt32 31)).toInt32) &&& ((1431655765 : Int32)))).toUInt32 >>> (((2 : Int32)).toUInt32 &&& Int32.toUInt32 31)).toInt32) &&& ((858993459 : Int32)))).toUInt32 >>> (((4 : Int32)).toUInt32 &&& Int32.toUInt32 31)).toInt32)) &&& ((252645135 : Int32))) + (((((((a1 - (((a1.toUInt32 >>> (((1 : Int32)).toUInt32 &&& Int32.toUInt32 31)).toInt32) &&& ((1431655765 : Int32)))) &&& ((858993459 : Int32))) + ((((a1 - (((a1.toUInt32 >>> (((1 : Int32)).toUInt32 &&& Int32.toUInt32 31)).toInt32) &&& ((1431655765 : Int32)))).toUInt32 >>> (((2 : Int32)).toUInt32 &&& Int32.toUInt32 31)).toInt32) &&& ((858993459 : Int32)))) + (((((a1 - (((a1.toUInt32 >>> (((1 : Int32)).toUInt32 &&& Int32.toUInt32 31)).toInt32) &&& ((1431655765 : Int32)))) &&& ((858993459 : Int32))) + ((((a1 - (((a1.toUInt32 >>> (((1 : Int32)).toUInt32 &&& Int32.toUInt32 31)).toInt32) &&& ((1431655765 : Int32)))).toUInt32 >>> (((2 : Int32)).toUInt32 &&& Int32.toUInt32 31)).toInt32) &&& ((858993459 : Int32)))).toUInt32 >>> (((4 : Int32)).toUInt32 &&& Int32.toUInt32 31)).toInt32)) &&& ((252645135 : Int32))).toUInt32 >>> (((8 : Int32)).toUInt32 &&& Int32.toUInt32 31)).toInt32)) + ((((((((a1 - (((a1.toUInt32 >>> (((1 : Int32)).toUInt32 &&& Int32.toUInt32 31)).toInt32) &&& ((1431655765 : Int32)))) &&& ((858993459 : Int32))) + ((((a1 - (((a1.toUInt32 >>> (((1 : Int32)).toUInt32 &&& Int32.toUInt32 31)).toInt32) &&& ((1431655765 : Int32)))).toUInt32 >>> (((2 : Int32)).toUInt32 &&& Int32.toUInt32 31)).toInt32) &&& ((858993459 : Int32)))) + (((((a1 - (((a1.toUInt32 >>> (((1 : Int32)).toUInt32 &&& Int32.toUInt32 31)).toInt32) &&& ((1431655765 : Int32)))) &&& ((858993459 : Int32))) + ((((a1 - (((a1.toUInt32 >>> (((1 : Int32)).toUInt32 &&& Int32.toUInt32 31)).toInt32) &&& ((1431655765 : Int32)))).toUInt32 >>> (((2 : Int32)).toUInt32 &&& Int32.toUInt32 31)).toInt32) &&& ((858993459 : Int32)))).toUInt32 >>> (((4 : Int32)).toUInt32 &&& Int32.toUInt32 31)).toInt32)) &&& ((252645135 : Int32))) + (((((((a1 - (((a1.toUInt32 >>> (((1 : Int32)).toUInt32 &&& Int32.toUInt32 31)).toInt32) &&& ((1431655765 : Int32)))) &&& ((858993459 : Int32))) + ((((a1 - (((a1.toUInt32 >>> (((1 : Int32)).toUInt32 &&& Int32.toUInt32 31)).toInt32) &&& ((1431655765 : Int32)))).toUInt32 >>> (((2 : Int32)).toUInt32 &&& Int32.toUInt32 31)).toInt32) &&& ((858993459 : Int32)))) + (((((a1 - (((a1.toUInt32 >>> (((1 : Int32)).toUInt32 &&& Int32.toUInt32 31)).toInt32) &&& ((1431655765 : Int32)))) &&& ((858993459 : Int32))) + ((((a1 - (((a1.toUInt32 >>> (((1 : Int32)).toUInt32 &&& Int32.toUInt32 31)).toInt32) &&& ((1431655765 : Int32)))).toUInt32 >>> (((2 : Int32)).toUInt32 &&& Int32.toUInt32 31)).toInt32) &&& ((858993459 : Int32)))).toUInt32 >>> (((4 : Int32)).toUInt32 &&& Int32.toUInt32 31)).toInt32)) &&& ((252645135 : Int32))).toUInt32 >>> (((8 : Int32)).toUInt32 &&& Int32.toUInt32 31)).toInt32)).toUInt32 >>> (((16 : Int32)).toUInt32 &&& Int32.toUInt32 31)).toInt32)))]) G rfl (Nat.le_of_ble_eq_true rfl) rfl (z_dec T_J6_bitCount_0f7a4_ok 37 (47, .istore_n 0, 1) rfl) ?_
  refine zx_iload_n (pc := 48) G 0 rfl rfl (z_dec T_J6_bitCount_0f7a4_ok 38 (48, .iload_n 0, 1) rfl) ?_
  refine zx_bipush (pc := 49) (v := 63) G (z_dec T_J6_bitCount_0f7a4_ok 39 (49, .bipush 63, 2) rfl) rfl ?_
  refine zx_iand (pc := 51) G  (z_dec T_J6_bitCount_0f7a4_ok 40 (51, .iand, 1) rfl) ?_
  exact zx_iret (pc := 52) G hr hlk (Nat.le_refl _) (Nat.le_refl _) (z_dec T_J6_bitCount_0f7a4_ok 41 (52, .ireturn, 1) rfl) ⟨rfl, _, rfl, h⟩
abbrev rm_X6_left : Room := { frames := 2, cells := 0, slots := 0, locals := 40 }
set_option maxRecDepth 100000 in
set_option maxHeartbeats 4000000 in
theorem met_X6_left (l : Launch) (D : va_G) (ρ : z_A) (kd : z_K) (q : z_Q) (μ : z_M) (sz : Nat) (o : Nat) (K : Int32 → z_M → Prop) (hI : z_I kd q) (h_o : kd o = some (.inl 6)) (h : C_X6_left kd q o μ K) : Met l yX6_left (z_ws yX6_left cX6_left 1 (Option.some Jvm.ClassFile.FieldType.int)) rm_X6_left (z_Pc D ρ kd q μ sz [.ref (o)]) (z_Qn D (z_Rg ρ sz) ρ kd (z_Ki q K)) 0 0 (z_Rg ρ sz) := by
  refine z_met (rm := rm_X6_left) (by decide) (Nat.le_of_ble_eq_true rfl) (fun p e s m args below meth c G hr hlk => ?_)
  unfold C_X6_left at h
  show z_X _ _ _ _ _ _ _ _ _ _ _ _ _ _ _ _ _ _ _ _ _ [(0, .ref (o))] _
  refine zx_aload_n (pc := 0) G (some (o)) 0 rfl rfl (z_dec T_X6_left_ok 0 (0, .aload_n 0, 1) rfl) ?_
  refine zx_callV_iN (pc := 1) (rm := rm_X6_runners) G cw_RX6_39 ⟨Nat.le_of_ble_eq_true rfl, Nat.le_of_ble_eq_true rfl⟩ rfl rfl ⟨Nat.zero_le _, Nat.zero_le _⟩ h_o rfl (fun sz => (met_X6_runners l D ρ kd q μ sz o _ hI h_o h)) rfl rfl (Nat.le_of_ble_eq_true rfl) (z_dec T_X6_left_ok 1 (1, .invokevirtual 39, 3) rfl) (fun r2 μ1 hn => ?_)
  clear h
  have h := hn
  clear hn
  refine zx_callS_iN (pc := 4) (rm := rm_J6_bitCount_0f7a4) G cw_RX6_42 ⟨Nat.le_of_ble_eq_true rfl, Nat.le_of_ble_eq_true rfl⟩ rfl rfl ⟨Nat.zero_le _, Nat.zero_le _⟩ (fun sz => (met_J6_bitCount_0f7a4 l D ρ kd q μ1 sz r2 _  h)) rfl rfl (Nat.le_of_ble_eq_true rfl) (z_dec T_X6_left_ok 2 (4, .invokestatic 42, 3) rfl) (fun r4 μ3 hn => ?_)
  clear h
  have h := hn
  clear hn
  exact zx_iret (pc := 7) G hr hlk (Nat.le_refl _) (Nat.le_refl _) (z_dec T_X6_left_ok 3 (7, .ireturn, 1) rfl) ⟨rfl, _, rfl, h⟩
abbrev rm_X6_lose : Room := { frames := 1, cells := 0, slots := 0, locals := 21 }
set_option maxRecDepth 100000 in
set_option maxHeartbeats 4000000 in
theorem met_X6_lose (l : Launch) (D : va_G) (ρ : z_A) (kd : z_K) (q : z_Q) (μ : z_M) (sz : Nat) (o : Nat) (a1 : Int32) (a2 : Int32) (K : z_M → Prop) (hI : z_I kd q) (h_o : kd o = some (.inl 6)) (h : C_X6_lose kd q o a1 a2 μ K) : Met l yX6_lose (z_ws yX6_lose cX6_lose 3 (Option.none : Option Jvm.ClassFile.FieldType)) rm_X6_lose (z_Pc D ρ kd q μ sz [.ref (o), .int (a1), .int (a2)]) (z_Qn D (z_Rg ρ sz) ρ kd (z_Kv q K)) 0 0 (z_Rg ρ sz) := by
  refine z_met (rm := rm_X6_lose) (by decide) (Nat.le_of_ble_eq_true rfl) (fun p e s m args below meth c G hr hlk => ?_)
  unfold C_X6_lose at h
  show z_X _ _ _ _ _ _ _ _ _ _ _ _ _ _ _ _ _ _ _ _ _ [(0, .ref (o)), (1, .int (a1)), (2, .int (a2))] _
  refine zx_aload_n (pc := 0) G (some (o)) 0 rfl rfl (z_dec T_X6_lose_ok 0 (0, .aload_n 0, 1) rfl) ?_
  refine zx_iload_n (pc := 1) G 1 rfl rfl (z_dec T_X6_lose_ok 1 (1, .iload_n 1, 1) rfl) ?_
  refine zx_callV_zN (pc := 2) (rm := rm_X6_holds) G cw_RX6_25 ⟨Nat.le_of_ble_eq_true rfl, Nat.le_of_ble_eq_true rfl⟩ rfl rfl ⟨Nat.zero_le _, Nat.zero_le _⟩ h_o rfl (fun sz => (met_X6_holds l D ρ kd q μ sz o a1 _ hI h_o h)) rfl rfl (Nat.le_of_ble_eq_true rfl) (z_dec T_X6_lose_ok 2 (2, .invokevirtual 25, 3) rfl) (fun r2 μ1 hzr2 hn => ?_)
  clear h
  have h := hn
  clear hn
  refine zx_if_eq (pc := 5) (tgt := 27) G rfl (z_dec T_X6_lose_ok 3 (5, .ifCond .eq 22, 3) rfl) (fun hc => ?_) (fun hc => ?_)
  · replace h := z_pos hc h
    exact zx_vret (pc := 27) G hr hlk (Nat.le_refl _) (Nat.le_refl _) (z_dec T_X6_lose_ok 17 (27, .return_, 1) rfl) ⟨rfl, rfl, h⟩
  · replace h := z_neg hc h
    refine zx_aload_n (pc := 8) G (some (o)) 0 rfl rfl (z_dec T_X6_lose_ok 4 (8, .aload_n 0, 1) rfl) ?_
    refine zx_dup (pc := 9) G rfl (z_dec T_X6_lose_ok 5 (9, .dup, 1) rfl) ?_
    refine zx_getI (pc := 10) G gf_RX6_29 rfl h_o (z_dec T_X6_lose_ok 6 (10, .getfield 29, 3) rfl) ?_
    refine zx_iconst (pc := 13) (v := 1) G (z_dec T_X6_lose_ok 7 (13, .iconst 1, 1) rfl) rfl ?_
    refine zx_iload_n (pc := 14) G 1 rfl rfl (z_dec T_X6_lose_ok 8 (14, .iload_n 1, 1) rfl) ?_
    refine zx_ishl (pc := 15) G  (z_dec T_X6_lose_ok 9 (15, .ishl, 1) rfl) ?_
    refine zx_ior (pc := 16) G  (z_dec T_X6_lose_ok 10 (16, .ior, 1) rfl) ?_
    refine zx_putI (pc := 17) G gf_RX6_29 cf_6 rfl rfl h_o (z_dec T_X6_lose_ok 11 (17, .putfield 29, 3) rfl) ?_
    refine zx_aload_n (pc := 20) G (some (o)) 0 rfl rfl (z_dec T_X6_lose_ok 12 (20, .aload_n 0, 1) rfl) ?_
    refine zx_getF (pc := 21) (b := o + 1) G gf_RX6_15 rfl h_o (zq_6_1 hI h_o) (z_dec T_X6_lose_ok 13 (21, .getfield 15, 3) rfl) ?_
    refine zx_iload_n (pc := 24) G 1 rfl rfl (z_dec T_X6_lose_ok 14 (24, .iload_n 1, 1) rfl) ?_
    refine zx_iload_n (pc := 25) G 2 rfl rfl (z_dec T_X6_lose_ok 15 (25, .iload_n 2, 1) rfl) ?_
    obtain ⟨c3, h⟩ := h
    refine zx_iast (pc := 26) G (zk_6_1 hI h_o) c3 (z_dec T_X6_lose_ok 16 (26, .iastore, 1) rfl) ?_
    exact zx_vret (pc := 27) G hr hlk (Nat.le_refl _) (Nat.le_refl _) (z_dec T_X6_lose_ok 17 (27, .return_, 1) rfl) ⟨rfl, rfl, h⟩
abbrev rm_X6_wentBehind : Room := { frames := 2, cells := 0, slots := 0, locals := 42 }
set_option maxRecDepth 100000 in
set_option maxHeartbeats 4000000 in
theorem met_X6_wentBehind (l : Launch) (D : va_G) (ρ : z_A) (kd : z_K) (q : z_Q) (μ : z_M) (sz : Nat) (o : Nat) (a1 : Int32) (a2 : Int32) (K : Int32 → z_M → Prop) (hI : z_I kd q) (h_o : kd o = some (.inl 6)) (h : C_X6_wentBehind kd q o a1 a2 μ K) : Met l yX6_wentBehind (z_ws yX6_wentBehind cX6_wentBehind 3 (Option.some Jvm.ClassFile.FieldType.boolean)) rm_X6_wentBehind (z_Pc D ρ kd q μ sz [.ref (o), .int (a1), .int (a2)]) (z_Qn D (z_Rg ρ sz) ρ kd (z_Kz q K)) 0 0 (z_Rg ρ sz) := by
  refine z_met (rm := rm_X6_wentBehind) (by decide) (Nat.le_of_ble_eq_true rfl) (fun p e s m args below meth c G hr hlk => ?_)
  unfold C_X6_wentBehind at h
  show z_X _ _ _ _ _ _ _ _ _ _ _ _ _ _ _ _ _ _ _ _ _ [(0, .ref (o)), (1, .int (a1)), (2, .int (a2))] _
  refine zx_aload_n (pc := 0) G (some (o)) 0 rfl rfl (z_dec T_X6_wentBehind_ok 0 (0, .aload_n 0, 1) rfl) ?_
  refine zx_iload_n (pc := 1) G 1 rfl rfl (z_dec T_X6_wentBehind_ok 1 (1, .iload_n 1, 1) rfl) ?_
  refine zx_callV_zN (pc := 2) (rm := rm_X6_isGone) G cw_RX6_32 ⟨Nat.le_of_ble_eq_true rfl, Nat.le_of_ble_eq_true rfl⟩ rfl rfl ⟨Nat.zero_le _, Nat.zero_le _⟩ h_o rfl (fun sz => (met_X6_isGone l D ρ kd q μ sz o a1 _ hI h_o h)) rfl rfl (Nat.le_of_ble_eq_true rfl) (z_dec T_X6_wentBehind_ok 2 (2, .invokevirtual 32, 3) rfl) (fun r2 μ1 hzr2 hn => ?_)
  clear h
  have h := hn
  clear hn
  refine zx_if_eq (pc := 5) (tgt := 22) G rfl (z_dec T_X6_wentBehind_ok 3 (5, .ifCond .eq 17, 3) rfl) (fun hc => ?_) (fun hc => ?_)
  · replace h := z_pos hc h
    refine zx_iconst (pc := 22) (v := 0) G (z_dec T_X6_wentBehind_ok 12 (22, .iconst 0, 1) rfl) rfl ?_
    exact zx_zret (pc := 23) G hr hlk (Nat.le_refl _) (Nat.le_refl _) (Or.inl rfl) (z_dec T_X6_wentBehind_ok 13 (23, .ireturn, 1) rfl) ⟨rfl, _, rfl, (Or.inl rfl), h⟩
  · replace h := z_neg hc h
    refine zx_iload_n (pc := 8) G 2 rfl rfl (z_dec T_X6_wentBehind_ok 4 (8, .iload_n 2, 1) rfl) ?_
    refine zx_aload_n (pc := 9) G (some (o)) 0 rfl rfl (z_dec T_X6_wentBehind_ok 5 (9, .aload_n 0, 1) rfl) ?_
    refine zx_getF (pc := 10) (b := o + 1) G gf_RX6_15 rfl h_o (zq_6_1 hI h_o) (z_dec T_X6_wentBehind_ok 6 (10, .getfield 15, 3) rfl) ?_
    refine zx_iload_n (pc := 13) G 1 rfl rfl (z_dec T_X6_wentBehind_ok 7 (13, .iload_n 1, 1) rfl) ?_
    obtain ⟨c3, h⟩ := h
    refine zx_iald (pc := 14) G (zk_6_1 hI h_o) c3 (z_dec T_X6_wentBehind_ok 8 (14, .iaload, 1) rfl) ?_
    refine zx_icmp_ge (pc := 15) (tgt := 22) G rfl (z_dec T_X6_wentBehind_ok 9 (15, .if_icmp .ge 7, 3) rfl) (fun hc => ?_) (fun hc => ?_)
    · replace h := z_pos hc h
      refine zx_iconst (pc := 22) (v := 0) G (z_dec T_X6_wentBehind_ok 12 (22, .iconst 0, 1) rfl) rfl ?_
      exact zx_zret (pc := 23) G hr hlk (Nat.le_refl _) (Nat.le_refl _) (Or.inl rfl) (z_dec T_X6_wentBehind_ok 13 (23, .ireturn, 1) rfl) ⟨rfl, _, rfl, (Or.inl rfl), h⟩
    · replace h := z_neg hc h
      refine zx_iconst (pc := 18) (v := 1) G (z_dec T_X6_wentBehind_ok 10 (18, .iconst 1, 1) rfl) rfl ?_
      refine zx_goto (pc := 19) (tgt := 23) G rfl (z_dec T_X6_wentBehind_ok 11 (19, .goto 4, 3) rfl) ?_
      exact zx_zret (pc := 23) G hr hlk (Nat.le_refl _) (Nat.le_refl _) (Or.inr rfl) (z_dec T_X6_wentBehind_ok 13 (23, .ireturn, 1) rfl) ⟨rfl, _, rfl, (Or.inr rfl), h⟩
abbrev rm_X6_end : Room := { frames := 0, cells := 0, slots := 0, locals := 0 }
set_option maxRecDepth 100000 in
set_option maxHeartbeats 4000000 in
theorem met_X6_end (l : Launch) (D : va_G) (ρ : z_A) (kd : z_K) (q : z_Q) (μ : z_M) (sz : Nat) (o : Nat) (a1 : Int32) (a2 : Int32) (K : z_M → Prop) (hI : z_I kd q) (h_o : kd o = some (.inl 6)) (h : C_X6_end kd q o a1 a2 μ K) : Met l yX6_end (z_ws yX6_end cX6_end 3 (Option.none : Option Jvm.ClassFile.FieldType)) rm_X6_end (z_Pc D ρ kd q μ sz [.ref (o), .int (a1), .int (a2)]) (z_Qn D (z_Rg ρ sz) ρ kd (z_Kv q K)) 0 0 (z_Rg ρ sz) := by
  refine z_met (rm := rm_X6_end) (by decide) (Nat.le_of_ble_eq_true rfl) (fun p e s m args below meth c G hr hlk => ?_)
  unfold C_X6_end at h
  show z_X _ _ _ _ _ _ _ _ _ _ _ _ _ _ _ _ _ _ _ _ _ [(0, .ref (o)), (1, .int (a1)), (2, .int (a2))] _
  refine zx_aload_n (pc := 0) G (some (o)) 0 rfl rfl (z_dec T_X6_end_ok 0 (0, .aload_n 0, 1) rfl) ?_
  refine zx_iload_n (pc := 1) G 1 rfl rfl (z_dec T_X6_end_ok 1 (1, .iload_n 1, 1) rfl) ?_
  refine zx_putI (pc := 2) G gf_RX6_48 cf_6 rfl rfl h_o (z_dec T_X6_end_ok 2 (2, .putfield 48, 3) rfl) ?_
  refine zx_aload_n (pc := 5) G (some (o)) 0 rfl rfl (z_dec T_X6_end_ok 3 (5, .aload_n 0, 1) rfl) ?_
  refine zx_iload_n (pc := 6) G 2 rfl rfl (z_dec T_X6_end_ok 4 (6, .iload_n 2, 1) rfl) ?_
  refine zx_putI (pc := 7) G gf_RX6_51 cf_6 rfl rfl h_o (z_dec T_X6_end_ok 5 (7, .putfield 51, 3) rfl) ?_
  refine zx_aload_n (pc := 10) G (some (o)) 0 rfl rfl (z_dec T_X6_end_ok 6 (10, .aload_n 0, 1) rfl) ?_
  refine zx_iconst (pc := 11) (v := 1) G (z_dec T_X6_end_ok 7 (11, .iconst 1, 1) rfl) rfl ?_
  refine zx_putZ (pc := 12) G gf_RX6_54 cf_6 rfl rfl (Or.inr rfl) h_o (z_dec T_X6_end_ok 8 (12, .putfield 54, 3) rfl) ?_
  exact zx_vret (pc := 15) G hr hlk (Nat.le_refl _) (Nat.le_refl _) (z_dec T_X6_end_ok 9 (15, .return_, 1) rfl) ⟨rfl, rfl, h⟩
abbrev rm_X6_winners : Room := { frames := 1, cells := 0, slots := 0, locals := 20 }
set_option maxRecDepth 100000 in
set_option maxHeartbeats 4000000 in
theorem met_X6_winners (l : Launch) (D : va_G) (ρ : z_A) (kd : z_K) (q : z_Q) (μ : z_M) (sz : Nat) (o : Nat) (K : Int32 → z_M → Prop) (hI : z_I kd q) (h_o : kd o = some (.inl 6)) (h : C_X6_winners kd q o μ K) : Met l yX6_winners (z_ws yX6_winners cX6_winners 1 (Option.some Jvm.ClassFile.FieldType.int)) rm_X6_winners (z_Pc D ρ kd q μ sz [.ref (o)]) (z_Qn D (z_Rg ρ sz) ρ kd (z_Ki q K)) 0 0 (z_Rg ρ sz) := by
  refine z_met (rm := rm_X6_winners) (by decide) (Nat.le_of_ble_eq_true rfl) (fun p e s m args below meth c G hr hlk => ?_)
  unfold C_X6_winners at h
  show z_X _ _ _ _ _ _ _ _ _ _ _ _ _ _ _ _ _ _ _ _ _ [(0, .ref (o))] _
  refine zx_aload_n (pc := 0) G (some (o)) 0 rfl rfl (z_dec T_X6_winners_ok 0 (0, .aload_n 0, 1) rfl) ?_
  refine zx_getI (pc := 1) G gf_RX6_48 rfl h_o (z_dec T_X6_winners_ok 1 (1, .getfield 48, 3) rfl) ?_
  refine zx_callS_iN (pc := 4) (rm := rm_J6_bitCount_0f7a4) G cw_RX6_42 ⟨Nat.le_of_ble_eq_true rfl, Nat.le_of_ble_eq_true rfl⟩ rfl rfl ⟨Nat.zero_le _, Nat.zero_le _⟩ (fun sz => (met_J6_bitCount_0f7a4 l D ρ kd q μ sz (μ.1 o 4) _  h)) rfl rfl (Nat.le_of_ble_eq_true rfl) (z_dec T_X6_winners_ok 2 (4, .invokestatic 42, 3) rfl) (fun r2 μ1 hn => ?_)
  clear h
  have h := hn
  clear hn
  exact zx_iret (pc := 7) G hr hlk (Nat.le_refl _) (Nat.le_refl _) (z_dec T_X6_winners_ok 3 (7, .ireturn, 1) rfl) ⟨rfl, _, rfl, h⟩
abbrev rm_X6_hasWon : Room := { frames := 1, cells := 0, slots := 0, locals := 21 }
set_option maxRecDepth 100000 in
set_option maxHeartbeats 4000000 in
theorem met_X6_hasWon (l : Launch) (D : va_G) (ρ : z_A) (kd : z_K) (q : z_Q) (μ : z_M) (sz : Nat) (o : Nat) (a1 : Int32) (K : Int32 → z_M → Prop) (hI : z_I kd q) (h_o : kd o = some (.inl 6)) (h : C_X6_hasWon kd q o a1 μ K) : Met l yX6_hasWon (z_ws yX6_hasWon cX6_hasWon 2 (Option.some Jvm.ClassFile.FieldType.boolean)) rm_X6_hasWon (z_Pc D ρ kd q μ sz [.ref (o), .int (a1)]) (z_Qn D (z_Rg ρ sz) ρ kd (z_Kz q K)) 0 0 (z_Rg ρ sz) := by
  refine z_met (rm := rm_X6_hasWon) (by decide) (Nat.le_of_ble_eq_true rfl) (fun p e s m args below meth c G hr hlk => ?_)
  unfold C_X6_hasWon at h
  show z_X _ _ _ _ _ _ _ _ _ _ _ _ _ _ _ _ _ _ _ _ _ [(0, .ref (o)), (1, .int (a1))] _
  refine zx_aload_n (pc := 0) G (some (o)) 0 rfl rfl (z_dec T_X6_hasWon_ok 0 (0, .aload_n 0, 1) rfl) ?_
  refine zx_iload_n (pc := 1) G 1 rfl rfl (z_dec T_X6_hasWon_ok 1 (1, .iload_n 1, 1) rfl) ?_
  refine zx_callV_zN (pc := 2) (rm := rm_X6_holds) G cw_RX6_25 ⟨Nat.le_of_ble_eq_true rfl, Nat.le_of_ble_eq_true rfl⟩ rfl rfl ⟨Nat.zero_le _, Nat.zero_le _⟩ h_o rfl (fun sz => (met_X6_holds l D ρ kd q μ sz o a1 _ hI h_o h)) rfl rfl (Nat.le_of_ble_eq_true rfl) (z_dec T_X6_hasWon_ok 2 (2, .invokevirtual 25, 3) rfl) (fun r2 μ1 hzr2 hn => ?_)
  clear h
  have h := hn
  clear hn
  refine zx_if_eq (pc := 5) (tgt := 23) G rfl (z_dec T_X6_hasWon_ok 3 (5, .ifCond .eq 18, 3) rfl) (fun hc => ?_) (fun hc => ?_)
  · replace h := z_pos hc h
    refine zx_iconst (pc := 23) (v := 0) G (z_dec T_X6_hasWon_ok 13 (23, .iconst 0, 1) rfl) rfl ?_
    exact zx_zret (pc := 24) G hr hlk (Nat.le_refl _) (Nat.le_refl _) (Or.inl rfl) (z_dec T_X6_hasWon_ok 14 (24, .ireturn, 1) rfl) ⟨rfl, _, rfl, (Or.inl rfl), h⟩
  · replace h := z_neg hc h
    refine zx_aload_n (pc := 8) G (some (o)) 0 rfl rfl (z_dec T_X6_hasWon_ok 4 (8, .aload_n 0, 1) rfl) ?_
    refine zx_getI (pc := 9) G gf_RX6_48 rfl h_o (z_dec T_X6_hasWon_ok 5 (9, .getfield 48, 3) rfl) ?_
    refine zx_iload_n (pc := 12) G 1 rfl rfl (z_dec T_X6_hasWon_ok 6 (12, .iload_n 1, 1) rfl) ?_
    refine zx_ishr (pc := 13) G  (z_dec T_X6_hasWon_ok 7 (13, .ishr, 1) rfl) ?_
    refine zx_iconst (pc := 14) (v := 1) G (z_dec T_X6_hasWon_ok 8 (14, .iconst 1, 1) rfl) rfl ?_
    refine zx_iand (pc := 15) G  (z_dec T_X6_hasWon_ok 9 (15, .iand, 1) rfl) ?_
    refine zx_if_eq (pc := 16) (tgt := 23) G rfl (z_dec T_X6_hasWon_ok 10 (16, .ifCond .eq 7, 3) rfl) (fun hc => ?_) (fun hc => ?_)
    · replace h := z_pos hc h
      refine zx_iconst (pc := 23) (v := 0) G (z_dec T_X6_hasWon_ok 13 (23, .iconst 0, 1) rfl) rfl ?_
      exact zx_zret (pc := 24) G hr hlk (Nat.le_refl _) (Nat.le_refl _) (Or.inl rfl) (z_dec T_X6_hasWon_ok 14 (24, .ireturn, 1) rfl) ⟨rfl, _, rfl, (Or.inl rfl), h⟩
    · replace h := z_neg hc h
      refine zx_iconst (pc := 19) (v := 1) G (z_dec T_X6_hasWon_ok 11 (19, .iconst 1, 1) rfl) rfl ?_
      refine zx_goto (pc := 20) (tgt := 24) G rfl (z_dec T_X6_hasWon_ok 12 (20, .goto 4, 3) rfl) ?_
      exact zx_zret (pc := 24) G hr hlk (Nat.le_refl _) (Nat.le_refl _) (Or.inr rfl) (z_dec T_X6_hasWon_ok 14 (24, .ireturn, 1) rfl) ⟨rfl, _, rfl, (Or.inr rfl), h⟩
abbrev rm_X6_isPlaced : Room := { frames := 1, cells := 0, slots := 0, locals := 21 }
set_option maxRecDepth 100000 in
set_option maxHeartbeats 4000000 in
theorem met_X6_isPlaced (l : Launch) (D : va_G) (ρ : z_A) (kd : z_K) (q : z_Q) (μ : z_M) (sz : Nat) (o : Nat) (a1 : Int32) (K : Int32 → z_M → Prop) (hI : z_I kd q) (h_o : kd o = some (.inl 6)) (h : C_X6_isPlaced kd q o a1 μ K) : Met l yX6_isPlaced (z_ws yX6_isPlaced cX6_isPlaced 2 (Option.some Jvm.ClassFile.FieldType.boolean)) rm_X6_isPlaced (z_Pc D ρ kd q μ sz [.ref (o), .int (a1)]) (z_Qn D (z_Rg ρ sz) ρ kd (z_Kz q K)) 0 0 (z_Rg ρ sz) := by
  refine z_met (rm := rm_X6_isPlaced) (by decide) (Nat.le_of_ble_eq_true rfl) (fun p e s m args below meth c G hr hlk => ?_)
  unfold C_X6_isPlaced at h
  show z_X _ _ _ _ _ _ _ _ _ _ _ _ _ _ _ _ _ _ _ _ _ [(0, .ref (o)), (1, .int (a1))] _
  refine zx_aload_n (pc := 0) G (some (o)) 0 rfl rfl (z_dec T_X6_isPlaced_ok 0 (0, .aload_n 0, 1) rfl) ?_
  refine zx_iload_n (pc := 1) G 1 rfl rfl (z_dec T_X6_isPlaced_ok 1 (1, .iload_n 1, 1) rfl) ?_
  refine zx_callV_zN (pc := 2) (rm := rm_X6_holds) G cw_RX6_25 ⟨Nat.le_of_ble_eq_true rfl, Nat.le_of_ble_eq_true rfl⟩ rfl rfl ⟨Nat.zero_le _, Nat.zero_le _⟩ h_o rfl (fun sz => (met_X6_holds l D ρ kd q μ sz o a1 _ hI h_o h)) rfl rfl (Nat.le_of_ble_eq_true rfl) (z_dec T_X6_isPlaced_ok 2 (2, .invokevirtual 25, 3) rfl) (fun r2 μ1 hzr2 hn => ?_)
  clear h
  have h := hn
  clear hn
  refine zx_if_eq (pc := 5) (tgt := 23) G rfl (z_dec T_X6_isPlaced_ok 3 (5, .ifCond .eq 18, 3) rfl) (fun hc => ?_) (fun hc => ?_)
  · replace h := z_pos hc h
    refine zx_iconst (pc := 23) (v := 0) G (z_dec T_X6_isPlaced_ok 13 (23, .iconst 0, 1) rfl) rfl ?_
    exact zx_zret (pc := 24) G hr hlk (Nat.le_refl _) (Nat.le_refl _) (Or.inl rfl) (z_dec T_X6_isPlaced_ok 14 (24, .ireturn, 1) rfl) ⟨rfl, _, rfl, (Or.inl rfl), h⟩
  · replace h := z_neg hc h
    refine zx_aload_n (pc := 8) G (some (o)) 0 rfl rfl (z_dec T_X6_isPlaced_ok 4 (8, .aload_n 0, 1) rfl) ?_
    refine zx_getI (pc := 9) G gf_RX6_51 rfl h_o (z_dec T_X6_isPlaced_ok 5 (9, .getfield 51, 3) rfl) ?_
    refine zx_iload_n (pc := 12) G 1 rfl rfl (z_dec T_X6_isPlaced_ok 6 (12, .iload_n 1, 1) rfl) ?_
    refine zx_ishr (pc := 13) G  (z_dec T_X6_isPlaced_ok 7 (13, .ishr, 1) rfl) ?_
    refine zx_iconst (pc := 14) (v := 1) G (z_dec T_X6_isPlaced_ok 8 (14, .iconst 1, 1) rfl) rfl ?_
    refine zx_iand (pc := 15) G  (z_dec T_X6_isPlaced_ok 9 (15, .iand, 1) rfl) ?_
    refine zx_if_eq (pc := 16) (tgt := 23) G rfl (z_dec T_X6_isPlaced_ok 10 (16, .ifCond .eq 7, 3) rfl) (fun hc => ?_) (fun hc => ?_)
    · replace h := z_pos hc h
      refine zx_iconst (pc := 23) (v := 0) G (z_dec T_X6_isPlaced_ok 13 (23, .iconst 0, 1) rfl) rfl ?_
      exact zx_zret (pc := 24) G hr hlk (Nat.le_refl _) (Nat.le_refl _) (Or.inl rfl) (z_dec T_X6_isPlaced_ok 14 (24, .ireturn, 1) rfl) ⟨rfl, _, rfl, (Or.inl rfl), h⟩
    · replace h := z_neg hc h
      refine zx_iconst (pc := 19) (v := 1) G (z_dec T_X6_isPlaced_ok 11 (19, .iconst 1, 1) rfl) rfl ?_
      refine zx_goto (pc := 20) (tgt := 24) G rfl (z_dec T_X6_isPlaced_ok 12 (20, .goto 4, 3) rfl) ?_
      exact zx_zret (pc := 24) G hr hlk (Nat.le_refl _) (Nat.le_refl _) (Or.inr rfl) (z_dec T_X6_isPlaced_ok 14 (24, .ireturn, 1) rfl) ⟨rfl, _, rfl, (Or.inr rfl), h⟩
abbrev rm_X6_endSure : Room := { frames := 1, cells := 0, slots := 0, locals := 21 }
set_option maxRecDepth 100000 in
set_option maxHeartbeats 4000000 in
theorem L_X6_endSure_35_ok {p : Program} {l : Launch} {e : Env} {s : State} {m : MethodId} {args : Array Value} {below : List Frame} {meth : Method} {c : Code} {D : va_G} {A : Nat → Prop} {ρ : z_A} {kd : z_K} {q : z_Q} {μ : z_M} {K : z_M → Prop} {v0 : Nat} {v1 : Int32} {v2 : Int32} {v3 : Int32} {t0 : Int32} {t1 : Nat} (G : z_G p c cX6_endSure s m args RX6 4 D) (hr : meth.sig.returnType = (Option.none : Option Jvm.ClassFile.FieldType)) (hlk : meth.locks = false) (hI : z_I kd q) (f_l0 : kd v0 = some (.inl 6)) (f_s1 : kd t1 = some (.inl 6)) (h : L_X6_endSure_35 kd q K v0 v1 v2 v3 t0 t1 μ) : z_X p l e rm_X6_endSure s m args below meth c 4 D A (MQ below (z_Qn D A ρ kd (z_Kv q K)) args s 0 0 A) 0 0 ρ kd q μ 35 [(0, .ref (v0)), (1, .int (v1)), (2, .int (v2)), (3, .int (v3))] [.int (t0), .ref (t1)] := by
    unfold L_X6_endSure_35 at h
    refine zx_putI (pc := 35) G gf_RX6_58 cf_6 rfl rfl f_s1 (z_dec T_X6_endSure_ok 23 (35, .putfield 58, 3) rfl) ?_
    refine zx_aload_n (pc := 38) G (some (v0)) 0 rfl rfl (z_dec T_X6_endSure_ok 24 (38, .aload_n 0, 1) rfl) ?_
    refine zx_aload_n (pc := 39) G (some (v0)) 0 rfl rfl (z_dec T_X6_endSure_ok 25 (39, .aload_n 0, 1) rfl) ?_
    refine zx_getI (pc := 40) G gf_RX6_61 rfl f_l0 (z_dec T_X6_endSure_ok 26 (40, .getfield 61, 3) rfl) ?_
    refine zx_aload_n (pc := 43) G (some (v0)) 0 rfl rfl (z_dec T_X6_endSure_ok 27 (43, .aload_n 0, 1) rfl) ?_
    refine zx_getI (pc := 44) G gf_RX6_58 rfl f_l0 (z_dec T_X6_endSure_ok 28 (44, .getfield 58, 3) rfl) ?_
    refine zx_mmax (pc := 47) G wm_RX6_64 ⟨Nat.le_of_ble_eq_true rfl, Nat.le_of_ble_eq_true rfl, Nat.zero_le _, Nat.zero_le _⟩ (z_dec T_X6_endSure_ok 29 (47, .invokestatic 64, 3) rfl) ?_
    refine zx_putI (pc := 50) G gf_RX6_61 cf_6 rfl rfl f_l0 (z_dec T_X6_endSure_ok 30 (50, .putfield 61, 3) rfl) ?_
    refine zx_aload_n (pc := 53) G (some (v0)) 0 rfl rfl (z_dec T_X6_endSure_ok 31 (53, .aload_n 0, 1) rfl) ?_
    refine zx_dup (pc := 54) G rfl (z_dec T_X6_endSure_ok 32 (54, .dup, 1) rfl) ?_
    refine zx_getI (pc := 55) G gf_RX6_70 rfl f_l0 (z_dec T_X6_endSure_ok 33 (55, .getfield 70, 3) rfl) ?_
    refine zx_iload_n (pc := 58) G 3 rfl rfl (z_dec T_X6_endSure_ok 34 (58, .iload_n 3, 1) rfl) ?_
    refine zx_iadd (pc := 59) G  (z_dec T_X6_endSure_ok 35 (59, .iadd, 1) rfl) ?_
    refine zx_putI (pc := 60) G gf_RX6_70 cf_6 rfl rfl f_l0 (z_dec T_X6_endSure_ok 36 (60, .putfield 70, 3) rfl) ?_
    refine zx_aload_n (pc := 63) G (some (v0)) 0 rfl rfl (z_dec T_X6_endSure_ok 37 (63, .aload_n 0, 1) rfl) ?_
    refine zx_getI (pc := 64) G gf_RX6_19 rfl f_l0 (z_dec T_X6_endSure_ok 38 (64, .getfield 19, 3) rfl) ?_
    refine zx_iconst (pc := 67) (v := -1) G (z_dec T_X6_endSure_ok 39 (67, .iconst (-1), 1) rfl) rfl ?_
    refine zx_icmp_ne (pc := 68) (tgt := 76) G rfl (z_dec T_X6_endSure_ok 40 (68, .if_icmp .ne 8, 3) rfl) (fun hc => ?_) (fun hc => ?_)
    · replace h := z_neg hc h
      refine zx_aload_n (pc := 76) G (some (v0)) 0 rfl rfl (z_dec T_X6_endSure_ok 44 (76, .aload_n 0, 1) rfl) ?_
      refine zx_iload_n (pc := 77) G 2 rfl rfl (z_dec T_X6_endSure_ok 45 (77, .iload_n 2, 1) rfl) ?_
      refine zx_putI (pc := 78) G gf_RX6_22 cf_6 rfl rfl f_l0 (z_dec T_X6_endSure_ok 46 (78, .putfield 22, 3) rfl) ?_
      exact zx_vret (pc := 81) G hr hlk (Nat.le_refl _) (Nat.le_refl _) (z_dec T_X6_endSure_ok 47 (81, .return_, 1) rfl) ⟨rfl, rfl, h⟩
    · replace h := z_pos hc h
      refine zx_aload_n (pc := 71) G (some (v0)) 0 rfl rfl (z_dec T_X6_endSure_ok 41 (71, .aload_n 0, 1) rfl) ?_
      refine zx_iload_n (pc := 72) G 1 rfl rfl (z_dec T_X6_endSure_ok 42 (72, .iload_n 1, 1) rfl) ?_
      refine zx_putI (pc := 73) G gf_RX6_19 cf_6 rfl rfl f_l0 (z_dec T_X6_endSure_ok 43 (73, .putfield 19, 3) rfl) ?_
      refine zx_aload_n (pc := 76) G (some (v0)) 0 rfl rfl (z_dec T_X6_endSure_ok 44 (76, .aload_n 0, 1) rfl) ?_
      refine zx_iload_n (pc := 77) G 2 rfl rfl (z_dec T_X6_endSure_ok 45 (77, .iload_n 2, 1) rfl) ?_
      refine zx_putI (pc := 78) G gf_RX6_22 cf_6 rfl rfl f_l0 (z_dec T_X6_endSure_ok 46 (78, .putfield 22, 3) rfl) ?_
      exact zx_vret (pc := 81) G hr hlk (Nat.le_refl _) (Nat.le_refl _) (z_dec T_X6_endSure_ok 47 (81, .return_, 1) rfl) ⟨rfl, rfl, h⟩
set_option maxRecDepth 100000 in
set_option maxHeartbeats 4000000 in
theorem L_X6_endSure_34_ok {p : Program} {l : Launch} {e : Env} {s : State} {m : MethodId} {args : Array Value} {below : List Frame} {meth : Method} {c : Code} {D : va_G} {A : Nat → Prop} {ρ : z_A} {kd : z_K} {q : z_Q} {μ : z_M} {K : z_M → Prop} {v0 : Nat} {v1 : Int32} {v2 : Int32} {v3 : Int32} {t0 : Nat} (G : z_G p c cX6_endSure s m args RX6 4 D) (hr : meth.sig.returnType = (Option.none : Option Jvm.ClassFile.FieldType)) (hlk : meth.locks = false) (hI : z_I kd q) (f_l0 : kd v0 = some (.inl 6)) (f_s0 : kd t0 = some (.inl 6)) (h : L_X6_endSure_34 kd q K v0 v1 v2 v3 t0 μ) : z_X p l e rm_X6_endSure s m args below meth c 4 D A (MQ below (z_Qn D A ρ kd (z_Kv q K)) args s 0 0 A) 0 0 ρ kd q μ 34 [(0, .ref (v0)), (1, .int (v1)), (2, .int (v2)), (3, .int (v3))] [.ref (t0)] := by
    unfold L_X6_endSure_34 at h
    refine zx_iload_n (pc := 34) G 3 rfl rfl (z_dec T_X6_endSure_ok 22 (34, .iload_n 3, 1) rfl) ?_
    exact L_X6_endSure_35_ok G hr hlk hI f_l0 f_s0 h
set_option maxRecDepth 100000 in
set_option maxHeartbeats 4000000 in
theorem met_X6_endSure (l : Launch) (D : va_G) (ρ : z_A) (kd : z_K) (q : z_Q) (μ : z_M) (sz : Nat) (o : Nat) (a1 : Int32) (a2 : Int32) (K : z_M → Prop) (hI : z_I kd q) (h_o : kd o = some (.inl 6)) (h : C_X6_endSure kd q o a1 a2 μ K) : Met l yX6_endSure (z_ws yX6_endSure cX6_endSure 4 (Option.none : Option Jvm.ClassFile.FieldType)) rm_X6_endSure (z_Pc D ρ kd q μ sz [.ref (o), .int (a1), .int (a2)]) (z_Qn D (z_Rg ρ sz) ρ kd (z_Kv q K)) 0 0 (z_Rg ρ sz) := by
  refine z_met (rm := rm_X6_endSure) (by decide) (Nat.le_of_ble_eq_true rfl) (fun p e s m args below meth c G hr hlk => ?_)
  unfold C_X6_endSure at h
  show z_X _ _ _ _ _ _ _ _ _ _ _ _ _ _ _ _ _ _ _ _ _ [(0, .ref (o)), (1, .int (a1)), (2, .int (a2))] _
  refine zx_iload_n (pc := 0) G 2 rfl rfl (z_dec T_X6_endSure_ok 0 (0, .iload_n 2, 1) rfl) ?_
  refine zx_iload_n (pc := 1) G 1 rfl rfl (z_dec T_X6_endSure_ok 1 (1, .iload_n 1, 1) rfl) ?_
  refine zx_isub (pc := 2) G  (z_dec T_X6_endSure_ok 2 (2, .isub, 1) rfl) ?_
  refine zx_iconst (pc := 3) (v := 1) G (z_dec T_X6_endSure_ok 3 (3, .iconst 1, 1) rfl) rfl ?_
  refine zx_iadd (pc := 4) G  (z_dec T_X6_endSure_ok 4 (4, .iadd, 1) rfl) ?_
  refine zx_istore_n (pc := 5) (lv' := [(3, .int ((a2 - a1) + ((1 : Int32)))), (0, .ref (o)), (1, .int (a1)), (2, .int (a2))]) G rfl (Nat.le_of_ble_eq_true rfl) rfl (z_dec T_X6_endSure_ok 5 (5, .istore_n 3, 1) rfl) ?_
  refine zx_aload_n (pc := 6) G (some (o)) 1 rfl rfl (z_dec T_X6_endSure_ok 6 (6, .aload_n 0, 1) rfl) ?_
  refine zx_aload_n (pc := 7) G (some (o)) 1 rfl rfl (z_dec T_X6_endSure_ok 7 (7, .aload_n 0, 1) rfl) ?_
  refine zx_getI (pc := 8) G gf_RX6_22 rfl h_o (z_dec T_X6_endSure_ok 8 (8, .getfield 22, 3) rfl) ?_
  refine zx_iconst (pc := 11) (v := -1) G (z_dec T_X6_endSure_ok 9 (11, .iconst (-1), 1) rfl) rfl ?_
  refine zx_icmp_eq (pc := 12) (tgt := 34) G rfl (z_dec T_X6_endSure_ok 10 (12, .if_icmp .eq 22, 3) rfl) (fun hc => ?_) (fun hc => ?_)
  · replace h := z_pos hc h
    refine zx_sub (lv' := [(0, .ref (o)), (1, .int (a1)), (2, .int (a2)), (3, .int ((a2 - a1) + ((1 : Int32))))]) [1, 2, 3, 0] rfl ?_
    exact L_X6_endSure_34_ok G hr hlk hI h_o h_o h
  · replace h := z_neg hc h
    refine zx_aload_n (pc := 15) G (some (o)) 1 rfl rfl (z_dec T_X6_endSure_ok 11 (15, .aload_n 0, 1) rfl) ?_
    refine zx_getI (pc := 16) G gf_RX6_22 rfl h_o (z_dec T_X6_endSure_ok 12 (16, .getfield 22, 3) rfl) ?_
    refine zx_iload_n (pc := 19) G 2 rfl rfl (z_dec T_X6_endSure_ok 13 (19, .iload_n 1, 1) rfl) ?_
    refine zx_iconst (pc := 20) (v := 1) G (z_dec T_X6_endSure_ok 14 (20, .iconst 1, 1) rfl) rfl ?_
    refine zx_isub (pc := 21) G  (z_dec T_X6_endSure_ok 15 (21, .isub, 1) rfl) ?_
    refine zx_icmp_ne (pc := 22) (tgt := 34) G rfl (z_dec T_X6_endSure_ok 16 (22, .if_icmp .ne 12, 3) rfl) (fun hc => ?_) (fun hc => ?_)
    · replace h := z_neg hc h
      refine zx_sub (lv' := [(0, .ref (o)), (1, .int (a1)), (2, .int (a2)), (3, .int ((a2 - a1) + ((1 : Int32))))]) [1, 2, 3, 0] rfl ?_
      exact L_X6_endSure_34_ok G hr hlk hI h_o h_o h
    · replace h := z_pos hc h
      refine zx_aload_n (pc := 25) G (some (o)) 1 rfl rfl (z_dec T_X6_endSure_ok 17 (25, .aload_n 0, 1) rfl) ?_
      refine zx_getI (pc := 26) G gf_RX6_58 rfl h_o (z_dec T_X6_endSure_ok 18 (26, .getfield 58, 3) rfl) ?_
      refine zx_iload_n (pc := 29) G 0 rfl rfl (z_dec T_X6_endSure_ok 19 (29, .iload_n 3, 1) rfl) ?_
      refine zx_iadd (pc := 30) G  (z_dec T_X6_endSure_ok 20 (30, .iadd, 1) rfl) ?_
      refine zx_goto (pc := 31) (tgt := 35) G rfl (z_dec T_X6_endSure_ok 21 (31, .goto 4, 3) rfl) ?_
      refine zx_sub (lv' := [(0, .ref (o)), (1, .int (a1)), (2, .int (a2)), (3, .int ((a2 - a1) + ((1 : Int32))))]) [1, 2, 3, 0] rfl ?_
      exact L_X6_endSure_35_ok G hr hlk hI h_o h_o h
abbrev rm_X7_stepsToMove : Room := { frames := 1, cells := 0, slots := 0, locals := 21 }
set_option maxRecDepth 100000 in
set_option maxHeartbeats 4000000 in
theorem L_X7_stepsToMove_18_ok {p : Program} {l : Launch} {e : Env} {s : State} {m : MethodId} {args : Array Value} {below : List Frame} {meth : Method} {c : Code} {D : va_G} {A : Nat → Prop} {ρ : z_A} {kd : z_K} {q : z_Q} {μ : z_M} {K : Int32 → z_M → Prop} {v1 : Int32} (G : z_G p c cX7_stepsToMove s m args RX7 2 D) (hr : meth.sig.returnType = (Option.some Jvm.ClassFile.FieldType.int)) (hlk : meth.locks = false) (hI : z_I kd q) (f_l0 : kd 10 = some (.inl 7)) (h : L_X7_stepsToMove_18 kd q K v1 μ) : z_X p l e rm_X7_stepsToMove s m args below meth c 2 D A (MQ below (z_Qn D A ρ kd (z_Ki q K)) args s 0 0 A) 0 0 ρ kd q μ 18 [(0, .ref (10)), (1, .int (v1))] [] := by
    unfold L_X7_stepsToMove_18 at h
    refine zx_aload_n (pc := 18) G (some (10)) 0 rfl rfl (z_dec T_X7_stepsToMove_ok 10 (18, .aload_n 0, 1) rfl) ?_
    refine zx_iconst (pc := 19) (v := 1) G (z_dec T_X7_stepsToMove_ok 11 (19, .iconst 1, 1) rfl) rfl ?_
    refine zx_callV_vN (pc := 20) (rm := rm_X7_fail) G cw_RX7_43 ⟨Nat.le_of_ble_eq_true rfl, Nat.le_of_ble_eq_true rfl⟩ rfl rfl ⟨Nat.zero_le _, Nat.zero_le _⟩ f_l0 rfl (fun sz => (met_X7_fail l D ρ kd q μ sz ((1 : Int32)) _ hI f_l0 h)) rfl rfl (Nat.le_of_ble_eq_true rfl) (z_dec T_X7_stepsToMove_ok 12 (20, .invokevirtual 43, 3) rfl) (fun μ1 hn => ?_)
    clear h
    have h := hn
    clear hn
    refine zx_goto (pc := 23) (tgt := 42) G rfl (z_dec T_X7_stepsToMove_ok 13 (23, .goto 19, 3) rfl) ?_
    refine zx_iload_n (pc := 42) G 1 rfl rfl (z_dec T_X7_stepsToMove_ok 22 (42, .iload_n 1, 1) rfl) ?_
    exact zx_iret (pc := 43) G hr hlk (Nat.le_refl _) (Nat.le_refl _) (z_dec T_X7_stepsToMove_ok 23 (43, .ireturn, 1) rfl) ⟨rfl, _, rfl, h⟩
set_option maxRecDepth 100000 in
set_option maxHeartbeats 4000000 in
theorem met_X7_stepsToMove (l : Launch) (D : va_G) (ρ : z_A) (kd : z_K) (q : z_Q) (μ : z_M) (sz : Nat) (K : Int32 → z_M → Prop) (hI : z_I kd q) (h_o : kd 10 = some (.inl 7)) (h : C_X7_stepsToMove kd q μ K) : Met l yX7_stepsToMove (z_ws yX7_stepsToMove cX7_stepsToMove 2 (Option.some Jvm.ClassFile.FieldType.int)) rm_X7_stepsToMove (z_Pc D ρ kd q μ sz [.ref (10)]) (z_Qn D (z_Rg ρ sz) ρ kd (z_Ki q K)) 0 0 (z_Rg ρ sz) := by
  refine z_met (rm := rm_X7_stepsToMove) (by decide) (Nat.le_of_ble_eq_true rfl) (fun p e s m args below meth c G hr hlk => ?_)
  unfold C_X7_stepsToMove at h
  show z_X _ _ _ _ _ _ _ _ _ _ _ _ _ _ _ _ _ _ _ _ _ [(0, .ref (10))] _
  refine zx_aload_n (pc := 0) G (some (10)) 0 rfl rfl (z_dec T_X7_stepsToMove_ok 0 (0, .aload_n 0, 1) rfl) ?_
  refine zx_getI (pc := 1) G gf_RX7_32 rfl h_o (z_dec T_X7_stepsToMove_ok 1 (1, .getfield 32, 3) rfl) ?_
  refine zx_bipush (pc := 4) (v := 48) G (z_dec T_X7_stepsToMove_ok 2 (4, .bipush 48, 2) rfl) rfl ?_
  refine zx_isub (pc := 6) G  (z_dec T_X7_stepsToMove_ok 3 (6, .isub, 1) rfl) ?_
  refine zx_istore_n (pc := 7) (lv' := [(1, .int ((μ.1 10 4) - ((48 : Int32)))), (0, .ref (10))]) G rfl (Nat.le_of_ble_eq_true rfl) rfl (z_dec T_X7_stepsToMove_ok 4 (7, .istore_n 1, 1) rfl) ?_
  refine zx_iload_n (pc := 8) G 0 rfl rfl (z_dec T_X7_stepsToMove_ok 5 (8, .iload_n 1, 1) rfl) ?_
  refine zx_if_lt (pc := 9) (tgt := 18) G rfl (z_dec T_X7_stepsToMove_ok 6 (9, .ifCond .lt 9, 3) rfl) (fun hc => ?_) (fun hc => ?_)
  · replace h := z_pos hc h
    refine zx_sub (lv' := [(0, .ref (10)), (1, .int ((μ.1 10 4) - ((48 : Int32))))]) [1, 0] rfl ?_
    exact L_X7_stepsToMove_18_ok G hr hlk hI h_o h
  · replace h := z_neg hc h
    refine zx_iload_n (pc := 12) G 0 rfl rfl (z_dec T_X7_stepsToMove_ok 7 (12, .iload_n 1, 1) rfl) ?_
    refine zx_bipush (pc := 13) (v := 9) G (z_dec T_X7_stepsToMove_ok 8 (13, .bipush 9, 2) rfl) rfl ?_
    refine zx_icmp_le (pc := 15) (tgt := 26) G rfl (z_dec T_X7_stepsToMove_ok 9 (15, .if_icmp .le 11, 3) rfl) (fun hc => ?_) (fun hc => ?_)
    · replace h := z_pos hc h
      refine zx_iload_n (pc := 26) G 0 rfl rfl (z_dec T_X7_stepsToMove_ok 14 (26, .iload_n 1, 1) rfl) ?_
      refine zx_if_ne (pc := 27) (tgt := 38) G rfl (z_dec T_X7_stepsToMove_ok 15 (27, .ifCond .ne 11, 3) rfl) (fun hc => ?_) (fun hc => ?_)
      · replace h := z_neg hc h
        refine zx_aload_n (pc := 38) G (some (10)) 1 rfl rfl (z_dec T_X7_stepsToMove_ok 20 (38, .aload_n 0, 1) rfl) ?_
        refine zx_callV_vN (pc := 39) (rm := rm_X7_advance) G cw_RX7_29 ⟨Nat.le_of_ble_eq_true rfl, Nat.le_of_ble_eq_true rfl⟩ rfl rfl ⟨Nat.zero_le _, Nat.zero_le _⟩ h_o rfl (fun sz => (met_X7_advance l D ρ kd q μ sz  _ hI h_o h)) rfl rfl (Nat.le_of_ble_eq_true rfl) (z_dec T_X7_stepsToMove_ok 21 (39, .invokevirtual 29, 3) rfl) (fun μ1 hn => ?_)
        clear h
        have h := hn
        clear hn
        refine zx_iload_n (pc := 42) G 0 rfl rfl (z_dec T_X7_stepsToMove_ok 22 (42, .iload_n 1, 1) rfl) ?_
        exact zx_iret (pc := 43) G hr hlk (Nat.le_refl _) (Nat.le_refl _) (z_dec T_X7_stepsToMove_ok 23 (43, .ireturn, 1) rfl) ⟨rfl, _, rfl, h⟩
      · replace h := z_pos hc h
        refine zx_aload_n (pc := 30) G (some (10)) 1 rfl rfl (z_dec T_X7_stepsToMove_ok 16 (30, .aload_n 0, 1) rfl) ?_
        refine zx_iconst (pc := 31) (v := 3) G (z_dec T_X7_stepsToMove_ok 17 (31, .iconst 3, 1) rfl) rfl ?_
        refine zx_callV_vN (pc := 32) (rm := rm_X7_fail) G cw_RX7_43 ⟨Nat.le_of_ble_eq_true rfl, Nat.le_of_ble_eq_true rfl⟩ rfl rfl ⟨Nat.zero_le _, Nat.zero_le _⟩ h_o rfl (fun sz => (met_X7_fail l D ρ kd q μ sz ((3 : Int32)) _ hI h_o h)) rfl rfl (Nat.le_of_ble_eq_true rfl) (z_dec T_X7_stepsToMove_ok 18 (32, .invokevirtual 43, 3) rfl) (fun μ2 hn => ?_)
        clear h
        have h := hn
        clear hn
        refine zx_goto (pc := 35) (tgt := 42) G rfl (z_dec T_X7_stepsToMove_ok 19 (35, .goto 7, 3) rfl) ?_
        refine zx_iload_n (pc := 42) G 0 rfl rfl (z_dec T_X7_stepsToMove_ok 22 (42, .iload_n 1, 1) rfl) ?_
        exact zx_iret (pc := 43) G hr hlk (Nat.le_refl _) (Nat.le_refl _) (z_dec T_X7_stepsToMove_ok 23 (43, .ireturn, 1) rfl) ⟨rfl, _, rfl, h⟩
    · replace h := z_neg hc h
      refine zx_sub (lv' := [(0, .ref (10)), (1, .int ((μ.1 10 4) - ((48 : Int32))))]) [1, 0] rfl ?_
      exact L_X7_stepsToMove_18_ok G hr hlk hI h_o h
abbrev rm_X8_lengthenOthers : Room := { frames := 1, cells := 0, slots := 0, locals := 21 }
set_option maxRecDepth 100000 in
set_option maxHeartbeats 4000000 in
theorem B_X8_lengthenOthers_8_ok {p : Program} {l : Launch} {e : Env} {s : State} {m : MethodId} {args : Array Value} {below : List Frame} {meth : Method} {c : Code} {D : va_G} {A : Nat → Prop} {ρ : z_A} {kd : z_K} {q : z_Q} {μ : z_M} {K : z_M → Prop} {P8 : Int32 → Int32 → z_M → Prop} {v1 : Int32} {v2 : Int32} (G : z_G p c cX8_lengthenOthers s m args RX8 3 D) (hr : meth.sig.returnType = (Option.none : Option Jvm.ClassFile.FieldType)) (hlk : meth.locks = false) (hP8 : ∀ (v1 : Int32) (v2 : Int32) (μ : z_M), P8 v1 v2 μ → (kd 9 = some (.inl 8)) → z_X p l e rm_X8_lengthenOthers s m args below meth c 3 D A (MQ below (z_Qn D A ρ kd (z_Kv q K)) args s 0 0 A) 0 0 ρ kd q μ 8 [(0, .ref (9)), (1, .int (v1)), (2, .int (v2))] []) (hI : z_I kd q) (f_l0 : kd 9 = some (.inl 8)) (h : B_X8_lengthenOthers_8 kd q K P8 v1 v2 μ) : z_X p l e rm_X8_lengthenOthers s m args below meth c 3 D A (MQ below (z_Qn D A ρ kd (z_Kv q K)) args s 0 0 A) 0 0 ρ kd q μ 8 [(0, .ref (9)), (1, .int (v1)), (2, .int (v2))] [] := by
    unfold B_X8_lengthenOthers_8 at h
    refine zx_iload_n (pc := 8) G 2 rfl rfl (z_dec T_X8_lengthenOthers_ok 5 (8, .iload_n 2, 1) rfl) ?_
    refine zx_if_lt (pc := 9) (tgt := 99) G rfl (z_dec T_X8_lengthenOthers_ok 6 (9, .ifCond .lt 90, 3) rfl) (fun hc => ?_) (fun hc => ?_)
    · replace h := z_pos hc h
      exact zx_vret (pc := 99) G hr hlk (Nat.le_refl _) (Nat.le_refl _) (z_dec T_X8_lengthenOthers_ok 54 (99, .return_, 1) rfl) ⟨rfl, rfl, h⟩
    · replace h := z_neg hc h
      refine zx_iload_n (pc := 12) G 2 rfl rfl (z_dec T_X8_lengthenOthers_ok 7 (12, .iload_n 2, 1) rfl) ?_
      refine zx_bipush (pc := 13) (v := 24) G (z_dec T_X8_lengthenOthers_ok 8 (13, .bipush 24, 2) rfl) rfl ?_
      refine zx_icmp_ge (pc := 15) (tgt := 99) G rfl (z_dec T_X8_lengthenOthers_ok 9 (15, .if_icmp .ge 84, 3) rfl) (fun hc => ?_) (fun hc => ?_)
      · replace h := z_pos hc h
        exact zx_vret (pc := 99) G hr hlk (Nat.le_refl _) (Nat.le_refl _) (z_dec T_X8_lengthenOthers_ok 54 (99, .return_, 1) rfl) ⟨rfl, rfl, h⟩
      · replace h := z_neg hc h
        refine zx_iload_n (pc := 18) G 2 rfl rfl (z_dec T_X8_lengthenOthers_ok 10 (18, .iload_n 2, 1) rfl) ?_
        refine zx_aload_n (pc := 19) G (some (9)) 0 rfl rfl (z_dec T_X8_lengthenOthers_ok 11 (19, .aload_n 0, 1) rfl) ?_
        refine zx_getI (pc := 20) G gf_RX8_29 rfl f_l0 (z_dec T_X8_lengthenOthers_ok 12 (20, .getfield 29, 3) rfl) ?_
        refine zx_bipush (pc := 23) (v := 8) G (z_dec T_X8_lengthenOthers_ok 13 (23, .bipush 8, 2) rfl) rfl ?_
        refine zx_imul (pc := 25) G  (z_dec T_X8_lengthenOthers_ok 14 (25, .imul, 1) rfl) ?_
        refine zx_bipush (pc := 26) (v := 8) G (z_dec T_X8_lengthenOthers_ok 15 (26, .bipush 8, 2) rfl) rfl ?_
        refine zx_iadd (pc := 28) G  (z_dec T_X8_lengthenOthers_ok 16 (28, .iadd, 1) rfl) ?_
        refine zx_icmp_ge (pc := 29) (tgt := 99) G rfl (z_dec T_X8_lengthenOthers_ok 17 (29, .if_icmp .ge 70, 3) rfl) (fun hc => ?_) (fun hc => ?_)
        · replace h := z_pos hc h
          exact zx_vret (pc := 99) G hr hlk (Nat.le_refl _) (Nat.le_refl _) (z_dec T_X8_lengthenOthers_ok 54 (99, .return_, 1) rfl) ⟨rfl, rfl, h⟩
        · replace h := z_neg hc h
          refine zx_iload_n (pc := 32) G 2 rfl rfl (z_dec T_X8_lengthenOthers_ok 18 (32, .iload_n 2, 1) rfl) ?_
          refine zx_aload_n (pc := 33) G (some (9)) 0 rfl rfl (z_dec T_X8_lengthenOthers_ok 19 (33, .aload_n 0, 1) rfl) ?_
          refine zx_getI (pc := 34) G gf_RX8_29 rfl f_l0 (z_dec T_X8_lengthenOthers_ok 20 (34, .getfield 29, 3) rfl) ?_
          refine zx_bipush (pc := 37) (v := 8) G (z_dec T_X8_lengthenOthers_ok 21 (37, .bipush 8, 2) rfl) rfl ?_
          refine zx_imul (pc := 39) G  (z_dec T_X8_lengthenOthers_ok 22 (39, .imul, 1) rfl) ?_
          refine zx_aload_n (pc := 40) G (some (9)) 0 rfl rfl (z_dec T_X8_lengthenOthers_ok 23 (40, .aload_n 0, 1) rfl) ?_
          refine zx_getI (pc := 41) G gf_RX8_32 rfl f_l0 (z_dec T_X8_lengthenOthers_ok 24 (41, .getfield 32, 3) rfl) ?_
          refine zx_iadd (pc := 44) G  (z_dec T_X8_lengthenOthers_ok 25 (44, .iadd, 1) rfl) ?_
          refine zx_icmp_eq (pc := 45) (tgt := 93) G rfl (z_dec T_X8_lengthenOthers_ok 26 (45, .if_icmp .eq 48, 3) rfl) (fun hc => ?_) (fun hc => ?_)
          · replace h := z_pos hc h
            refine zx_iinc (pc := 93) (v := v2 + 1) (lv' := [(2, .int (v2 + 1)), (0, .ref (9)), (1, .int (v1))]) G 2 rfl (z_inc (by decide)) (Nat.le_of_ble_eq_true rfl) rfl (z_dec T_X8_lengthenOthers_ok 52 (93, .iinc 2 1, 3) rfl) ?_
            refine zx_goto (pc := 96) (tgt := 8) G rfl (z_dec T_X8_lengthenOthers_ok 53 (96, .goto (-88), 3) rfl) ?_
            refine zx_sub (lv' := [(0, .ref (9)), (1, .int (v1)), (2, .int (v2 + 1))]) [1, 2, 0] rfl ?_
            exact hP8 _ _ _ h f_l0
          · replace h := z_neg hc h
            refine zx_aload_n (pc := 48) G (some (9)) 0 rfl rfl (z_dec T_X8_lengthenOthers_ok 27 (48, .aload_n 0, 1) rfl) ?_
            have hh := z_sb hI f_l0
            refine zx_getR (pc := 49) G gf_RX8_25 rfl f_l0 (z_dec T_X8_lengthenOthers_ok 28 (49, .getfield 25, 3) rfl) ?_
            generalize ew1 : q 9 1 = w1 at hh ⊢
            have fw1 := hh
            replace h := h w1 ew1.symm
            obtain ⟨o2, rfl, h⟩ := h
            refine zx_getF (pc := 52) (b := o2 + 1) G gf_RX8_35 rfl (fw1 o2 rfl) (zq_1_3 hI (fw1 o2 rfl)) (z_dec T_X8_lengthenOthers_ok 29 (52, .getfield 35, 3) rfl) ?_
            refine zx_iload_n (pc := 55) G 2 rfl rfl (z_dec T_X8_lengthenOthers_ok 30 (55, .iload_n 2, 1) rfl) ?_
            obtain ⟨c3, h⟩ := h
            refine zx_iald (pc := 56) G (zk_1_3 hI (fw1 o2 rfl)) c3 (z_dec T_X8_lengthenOthers_ok 31 (56, .iaload, 1) rfl) ?_
            refine zx_iconst (pc := 57) (v := -1) G (z_dec T_X8_lengthenOthers_ok 32 (57, .iconst (-1), 1) rfl) rfl ?_
            refine zx_icmp_eq (pc := 58) (tgt := 93) G rfl (z_dec T_X8_lengthenOthers_ok 33 (58, .if_icmp .eq 35, 3) rfl) (fun hc => ?_) (fun hc => ?_)
            · replace h := z_pos hc h
              refine zx_iinc (pc := 93) (v := v2 + 1) (lv' := [(2, .int (v2 + 1)), (0, .ref (9)), (1, .int (v1))]) G 2 rfl (z_inc (by decide)) (Nat.le_of_ble_eq_true rfl) rfl (z_dec T_X8_lengthenOthers_ok 52 (93, .iinc 2 1, 3) rfl) ?_
              refine zx_goto (pc := 96) (tgt := 8) G rfl (z_dec T_X8_lengthenOthers_ok 53 (96, .goto (-88), 3) rfl) ?_
              refine zx_sub (lv' := [(0, .ref (9)), (1, .int (v1)), (2, .int (v2 + 1))]) [1, 2, 0] rfl ?_
              exact hP8 _ _ _ h f_l0
            · replace h := z_neg hc h
              refine zx_aload_n (pc := 61) G (some (9)) 0 rfl rfl (z_dec T_X8_lengthenOthers_ok 34 (61, .aload_n 0, 1) rfl) ?_
              have hh := z_sb hI f_l0
              refine zx_getR (pc := 62) G gf_RX8_25 rfl f_l0 (z_dec T_X8_lengthenOthers_ok 35 (62, .getfield 25, 3) rfl) ?_
              generalize ew4 : q 9 1 = w4 at hh ⊢
              have fw4 := hh
              replace h := h w4 ew4.symm
              obtain ⟨o5, rfl, h⟩ := h
              refine zx_getF (pc := 65) (b := o5 + 1) G gf_RX8_35 rfl (fw4 o5 rfl) (zq_1_3 hI (fw4 o5 rfl)) (z_dec T_X8_lengthenOthers_ok 36 (65, .getfield 35, 3) rfl) ?_
              refine zx_iload_n (pc := 68) G 2 rfl rfl (z_dec T_X8_lengthenOthers_ok 37 (68, .iload_n 2, 1) rfl) ?_
              refine zx_aload_n (pc := 69) G (some (9)) 0 rfl rfl (z_dec T_X8_lengthenOthers_ok 38 (69, .aload_n 0, 1) rfl) ?_
              have hh := z_sb hI f_l0
              refine zx_getR (pc := 70) G gf_RX8_25 rfl f_l0 (z_dec T_X8_lengthenOthers_ok 39 (70, .getfield 25, 3) rfl) ?_
              generalize ew6 : q 9 1 = w6 at hh ⊢
              have fw6 := hh
              replace h := h w6 ew6.symm
              obtain ⟨o7, rfl, h⟩ := h
              refine zx_getF (pc := 73) (b := o7 + 1) G gf_RX8_35 rfl (fw6 o7 rfl) (zq_1_3 hI (fw6 o7 rfl)) (z_dec T_X8_lengthenOthers_ok 40 (73, .getfield 35, 3) rfl) ?_
              refine zx_iload_n (pc := 76) G 2 rfl rfl (z_dec T_X8_lengthenOthers_ok 41 (76, .iload_n 2, 1) rfl) ?_
              refine zx_iald (pc := 77) G (zk_1_3 hI (fw6 o7 rfl)) c3 (z_dec T_X8_lengthenOthers_ok 42 (77, .iaload, 1) rfl) ?_
              refine zx_iload_n (pc := 78) G 1 rfl rfl (z_dec T_X8_lengthenOthers_ok 43 (78, .iload_n 1, 1) rfl) ?_
              refine zx_iadd (pc := 79) G  (z_dec T_X8_lengthenOthers_ok 44 (79, .iadd, 1) rfl) ?_
              refine zx_aload_n (pc := 80) G (some (9)) 0 rfl rfl (z_dec T_X8_lengthenOthers_ok 45 (80, .aload_n 0, 1) rfl) ?_
              refine zx_getF (pc := 81) (b := 3) G gf_RX8_9 rfl f_l0 (zq_8_0 hI f_l0) (z_dec T_X8_lengthenOthers_ok 46 (81, .getfield 9, 3) rfl) ?_
              refine zx_getI (pc := 84) G gf_RX8_58 rfl (zk_8_0 hI f_l0) (z_dec T_X8_lengthenOthers_ok 47 (84, .getfield 58, 3) rfl) ?_
              refine zx_iconst (pc := 87) (v := 1) G (z_dec T_X8_lengthenOthers_ok 48 (87, .iconst 1, 1) rfl) rfl ?_
              refine zx_isub (pc := 88) G  (z_dec T_X8_lengthenOthers_ok 49 (88, .isub, 1) rfl) ?_
              refine zx_mmin (pc := 89) G wm_RX8_79 ⟨Nat.le_of_ble_eq_true rfl, Nat.le_of_ble_eq_true rfl, Nat.zero_le _, Nat.zero_le _⟩ (z_dec T_X8_lengthenOthers_ok 50 (89, .invokestatic 79, 3) rfl) ?_
              refine zx_iast (pc := 92) G (zk_1_3 hI (fw4 o5 rfl)) c3 (z_dec T_X8_lengthenOthers_ok 51 (92, .iastore, 1) rfl) ?_
              refine zx_iinc (pc := 93) (v := v2 + 1) (lv' := [(2, .int (v2 + 1)), (0, .ref (9)), (1, .int (v1))]) G 2 rfl (z_inc (by decide)) (Nat.le_of_ble_eq_true rfl) rfl (z_dec T_X8_lengthenOthers_ok 52 (93, .iinc 2 1, 3) rfl) ?_
              refine zx_goto (pc := 96) (tgt := 8) G rfl (z_dec T_X8_lengthenOthers_ok 53 (96, .goto (-88), 3) rfl) ?_
              refine zx_sub (lv' := [(0, .ref (9)), (1, .int (v1)), (2, .int (v2 + 1))]) [1, 2, 0] rfl ?_
              exact hP8 _ _ _ h f_l0
set_option maxRecDepth 100000 in
set_option maxHeartbeats 4000000 in
theorem L_X8_lengthenOthers_8_ok {p : Program} {l : Launch} {e : Env} {s : State} {m : MethodId} {args : Array Value} {below : List Frame} {meth : Method} {c : Code} {D : va_G} {A : Nat → Prop} {ρ : z_A} {kd : z_K} {q : z_Q} {μ : z_M} {K : z_M → Prop} {v1 : Int32} {v2 : Int32} (G : z_G p c cX8_lengthenOthers s m args RX8 3 D) (hr : meth.sig.returnType = (Option.none : Option Jvm.ClassFile.FieldType)) (hlk : meth.locks = false) (hI : z_I kd q) (f_l0 : kd 9 = some (.inl 8)) (h : L_X8_lengthenOthers_8 kd q K v1 v2 μ) : z_X p l e rm_X8_lengthenOthers s m args below meth c 3 D A (MQ below (z_Qn D A ρ kd (z_Kv q K)) args s 0 0 A) 0 0 ρ kd q μ 8 [(0, .ref (9)), (1, .int (v1)), (2, .int (v2))] [] :=
  h (fun (v1 : Int32) (v2 : Int32) (μ : z_M) => (kd 9 = some (.inl 8)) → z_X p l e rm_X8_lengthenOthers s m args below meth c 3 D A (MQ below (z_Qn D A ρ kd (z_Kv q K)) args s 0 0 A) 0 0 ρ kd q μ 8 [(0, .ref (9)), (1, .int (v1)), (2, .int (v2))] []) (fun v1 v2 μ h f_l0 => B_X8_lengthenOthers_8_ok G hr hlk (fun _ _ _ h => h) hI f_l0 h) f_l0
set_option maxRecDepth 100000 in
set_option maxHeartbeats 4000000 in
theorem met_X8_lengthenOthers (l : Launch) (D : va_G) (ρ : z_A) (kd : z_K) (q : z_Q) (μ : z_M) (sz : Nat) (a1 : Int32) (K : z_M → Prop) (hI : z_I kd q) (h_o : kd 9 = some (.inl 8)) (h : C_X8_lengthenOthers kd q a1 μ K) : Met l yX8_lengthenOthers (z_ws yX8_lengthenOthers cX8_lengthenOthers 3 (Option.none : Option Jvm.ClassFile.FieldType)) rm_X8_lengthenOthers (z_Pc D ρ kd q μ sz [.ref (9), .int (a1)]) (z_Qn D (z_Rg ρ sz) ρ kd (z_Kv q K)) 0 0 (z_Rg ρ sz) := by
  refine z_met (rm := rm_X8_lengthenOthers) (by decide) (Nat.le_of_ble_eq_true rfl) (fun p e s m args below meth c G hr hlk => ?_)
  unfold C_X8_lengthenOthers at h
  show z_X _ _ _ _ _ _ _ _ _ _ _ _ _ _ _ _ _ _ _ _ _ [(0, .ref (9)), (1, .int (a1))] _
  refine zx_aload_n (pc := 0) G (some (9)) 0 rfl rfl (z_dec T_X8_lengthenOthers_ok 0 (0, .aload_n 0, 1) rfl) ?_
  refine zx_getI (pc := 1) G gf_RX8_29 rfl h_o (z_dec T_X8_lengthenOthers_ok 1 (1, .getfield 29, 3) rfl) ?_
  refine zx_bipush (pc := 4) (v := 8) G (z_dec T_X8_lengthenOthers_ok 2 (4, .bipush 8, 2) rfl) rfl ?_
  refine zx_imul (pc := 6) G  (z_dec T_X8_lengthenOthers_ok 3 (6, .imul, 1) rfl) ?_
  refine zx_istore_n (pc := 7) (lv' := [(2, .int ((μ.1 9 2) * ((8 : Int32)))), (0, .ref (9)), (1, .int (a1))]) G rfl (Nat.le_of_ble_eq_true rfl) rfl (z_dec T_X8_lengthenOthers_ok 4 (7, .istore_n 2, 1) rfl) ?_
  refine zx_sub (lv' := [(0, .ref (9)), (1, .int (a1)), (2, .int ((μ.1 9 2) * ((8 : Int32))))]) [1, 2, 0] rfl ?_
  exact L_X8_lengthenOthers_8_ok G hr hlk hI h_o h
abbrev rm_X8_move : Room := { frames := 2, cells := 0, slots := 0, locals := 43 }
set_option maxRecDepth 100000 in
set_option maxHeartbeats 4000000 in
theorem met_X8_move (l : Launch) (D : va_G) (ρ : z_A) (kd : z_K) (q : z_Q) (μ : z_M) (sz : Nat) (a1 : Int32) (a2 : Int32) (K : z_M → Prop) (hI : z_I kd q) (h_o : kd 9 = some (.inl 8)) (h : C_X8_move kd q a1 a2 μ K) : Met l yX8_move (z_ws yX8_move cX8_move 4 (Option.none : Option Jvm.ClassFile.FieldType)) rm_X8_move (z_Pc D ρ kd q μ sz [.ref (9), .int (a1), .int (a2)]) (z_Qn D (z_Rg ρ sz) ρ kd (z_Kv q K)) 0 0 (z_Rg ρ sz) := by
  refine z_met (rm := rm_X8_move) (by decide) (Nat.le_of_ble_eq_true rfl) (fun p e s m args below meth c G hr hlk => ?_)
  unfold C_X8_move at h
  show z_X _ _ _ _ _ _ _ _ _ _ _ _ _ _ _ _ _ _ _ _ _ [(0, .ref (9)), (1, .int (a1)), (2, .int (a2))] _
  refine zx_aload_n (pc := 0) G (some (9)) 0 rfl rfl (z_dec T_X8_move_ok 0 (0, .aload_n 0, 1) rfl) ?_
  refine zx_getI (pc := 1) G gf_RX8_29 rfl h_o (z_dec T_X8_move_ok 1 (1, .getfield 29, 3) rfl) ?_
  refine zx_bipush (pc := 4) (v := 8) G (z_dec T_X8_move_ok 2 (4, .bipush 8, 2) rfl) rfl ?_
  refine zx_imul (pc := 6) G  (z_dec T_X8_move_ok 3 (6, .imul, 1) rfl) ?_
  refine zx_aload_n (pc := 7) G (some (9)) 0 rfl rfl (z_dec T_X8_move_ok 4 (7, .aload_n 0, 1) rfl) ?_
  refine zx_getI (pc := 8) G gf_RX8_32 rfl h_o (z_dec T_X8_move_ok 5 (8, .getfield 32, 3) rfl) ?_
  refine zx_iadd (pc := 11) G  (z_dec T_X8_move_ok 6 (11, .iadd, 1) rfl) ?_
  refine zx_istore_n (pc := 12) (lv' := [(3, .int (((μ.1 9 2) * ((8 : Int32))) + (μ.1 9 3))), (0, .ref (9)), (1, .int (a1)), (2, .int (a2))]) G rfl (Nat.le_of_ble_eq_true rfl) rfl (z_dec T_X8_move_ok 7 (12, .istore_n 3, 1) rfl) ?_
  refine zx_aload_n (pc := 13) G (some (9)) 1 rfl rfl (z_dec T_X8_move_ok 8 (13, .aload_n 0, 1) rfl) ?_
  have hh := z_sb hI h_o
  refine zx_getR (pc := 14) G gf_RX8_25 rfl h_o (z_dec T_X8_move_ok 9 (14, .getfield 25, 3) rfl) ?_
  generalize ew1 : q 9 1 = w1 at hh ⊢
  have fw1 := hh
  replace h := h w1 ew1.symm
  obtain ⟨h1, h2⟩ := h
  rcases w1 with _ | o2
  · replace h := h1 rfl
    refine zx_ifnullN (pc := 17) (tgt := 30) G rfl (z_dec T_X8_move_ok 10 (17, .ifnull 13, 3) rfl) ?_
    exact zx_vret (pc := 30) G hr hlk (Nat.le_refl _) (Nat.le_refl _) (z_dec T_X8_move_ok 16 (30, .return_, 1) rfl) ⟨rfl, rfl, h⟩
  · replace h := h2 o2 rfl
    refine zx_ifnullS (pc := 17) G (fw1 o2 rfl) (z_dec T_X8_move_ok 10 (17, .ifnull 13, 3) rfl) ?_
    refine zx_iload_n (pc := 20) G 0 rfl rfl (z_dec T_X8_move_ok 11 (20, .iload_n 3, 1) rfl) ?_
    refine zx_if_lt (pc := 21) (tgt := 30) G rfl (z_dec T_X8_move_ok 12 (21, .ifCond .lt 9, 3) rfl) (fun hc => ?_) (fun hc => ?_)
    · replace h := z_pos hc h
      exact zx_vret (pc := 30) G hr hlk (Nat.le_refl _) (Nat.le_refl _) (z_dec T_X8_move_ok 16 (30, .return_, 1) rfl) ⟨rfl, rfl, h⟩
    · replace h := z_neg hc h
      refine zx_iload_n (pc := 24) G 0 rfl rfl (z_dec T_X8_move_ok 13 (24, .iload_n 3, 1) rfl) ?_
      refine zx_bipush (pc := 25) (v := 24) G (z_dec T_X8_move_ok 14 (25, .bipush 24, 2) rfl) rfl ?_
      refine zx_icmp_lt (pc := 27) (tgt := 31) G rfl (z_dec T_X8_move_ok 15 (27, .if_icmp .lt 4, 3) rfl) (fun hc => ?_) (fun hc => ?_)
      · replace h := z_pos hc h
        refine zx_iload_n (pc := 31) G 2 rfl rfl (z_dec T_X8_move_ok 17 (31, .iload_n 1, 1) rfl) ?_
        refine zx_bipush (pc := 32) (v := 108) G (z_dec T_X8_move_ok 18 (32, .bipush 108, 2) rfl) rfl ?_
        refine zx_icmp_ne (pc := 34) (tgt := 45) G rfl (z_dec T_X8_move_ok 19 (34, .if_icmp .ne 11, 3) rfl) (fun hc => ?_) (fun hc => ?_)
        · replace h := z_neg hc h
          refine zx_iload_n (pc := 45) G 2 rfl rfl (z_dec T_X8_move_ok 24 (45, .iload_n 1, 1) rfl) ?_
          refine zx_bipush (pc := 46) (v := 99) G (z_dec T_X8_move_ok 25 (46, .bipush 99, 2) rfl) rfl ?_
          refine zx_icmp_ne (pc := 48) (tgt := 64) G rfl (z_dec T_X8_move_ok 26 (48, .if_icmp .ne 16, 3) rfl) (fun hc => ?_) (fun hc => ?_)
          · replace h := z_neg hc h
            refine zx_aload_n (pc := 64) G (some (9)) 1 rfl rfl (z_dec T_X8_move_ok 34 (64, .aload_n 0, 1) rfl) ?_
            have hh := z_sb hI h_o
            refine zx_getR (pc := 65) G gf_RX8_25 rfl h_o (z_dec T_X8_move_ok 35 (65, .getfield 25, 3) rfl) ?_
            generalize ew3 : q 9 1 = w3 at hh ⊢
            have fw3 := hh
            replace h := h w3 ew3.symm
            obtain ⟨o4, rfl, h⟩ := h
            refine zx_getF (pc := 68) (b := o4 + 1) G gf_RX8_35 rfl (fw3 o4 rfl) (zq_1_3 hI (fw3 o4 rfl)) (z_dec T_X8_move_ok 36 (68, .getfield 35, 3) rfl) ?_
            refine zx_iload_n (pc := 71) G 0 rfl rfl (z_dec T_X8_move_ok 37 (71, .iload_n 3, 1) rfl) ?_
            obtain ⟨c5, h⟩ := h
            refine zx_iald (pc := 72) G (zk_1_3 hI (fw3 o4 rfl)) c5 (z_dec T_X8_move_ok 38 (72, .iaload, 1) rfl) ?_
            refine zx_iconst (pc := 73) (v := -1) G (z_dec T_X8_move_ok 39 (73, .iconst (-1), 1) rfl) rfl ?_
            refine zx_icmp_eq (pc := 74) (tgt := 101) G rfl (z_dec T_X8_move_ok 40 (74, .if_icmp .eq 27, 3) rfl) (fun hc => ?_) (fun hc => ?_)
            · replace h := z_pos hc h
              exact zx_vret (pc := 101) G hr hlk (Nat.le_refl _) (Nat.le_refl _) (z_dec T_X8_move_ok 55 (101, .return_, 1) rfl) ⟨rfl, rfl, h⟩
            · replace h := z_neg hc h
              refine zx_aload_n (pc := 77) G (some (9)) 1 rfl rfl (z_dec T_X8_move_ok 41 (77, .aload_n 0, 1) rfl) ?_
              have hh := z_sb hI h_o
              refine zx_getR (pc := 78) G gf_RX8_25 rfl h_o (z_dec T_X8_move_ok 42 (78, .getfield 25, 3) rfl) ?_
              generalize ew6 : q 9 1 = w6 at hh ⊢
              have fw6 := hh
              replace h := h w6 ew6.symm
              obtain ⟨o7, rfl, h⟩ := h
              refine zx_getF (pc := 81) (b := o7 + 1) G gf_RX8_35 rfl (fw6 o7 rfl) (zq_1_3 hI (fw6 o7 rfl)) (z_dec T_X8_move_ok 43 (81, .getfield 35, 3) rfl) ?_
              refine zx_iload_n (pc := 84) G 0 rfl rfl (z_dec T_X8_move_ok 44 (84, .iload_n 3, 1) rfl) ?_
              refine zx_aload_n (pc := 85) G (some (9)) 1 rfl rfl (z_dec T_X8_move_ok 45 (85, .aload_n 0, 1) rfl) ?_
              have hh := z_sb hI h_o
              refine zx_getR (pc := 86) G gf_RX8_25 rfl h_o (z_dec T_X8_move_ok 46 (86, .getfield 25, 3) rfl) ?_
              generalize ew8 : q 9 1 = w8 at hh ⊢
              have fw8 := hh
              replace h := h w8 ew8.symm
              obtain ⟨o9, rfl, h⟩ := h
              refine zx_getF (pc := 89) (b := o9 + 1) G gf_RX8_35 rfl (fw8 o9 rfl) (zq_1_3 hI (fw8 o9 rfl)) (z_dec T_X8_move_ok 47 (89, .getfield 35, 3) rfl) ?_
              refine zx_iload_n (pc := 92) G 0 rfl rfl (z_dec T_X8_move_ok 48 (92, .iload_n 3, 1) rfl) ?_
              refine zx_iald (pc := 93) G (zk_1_3 hI (fw8 o9 rfl)) c5 (z_dec T_X8_move_ok 49 (93, .iaload, 1) rfl) ?_
              refine zx_iload_n (pc := 94) G 3 rfl rfl (z_dec T_X8_move_ok 50 (94, .iload_n 2, 1) rfl) ?_
              refine zx_isub (pc := 95) G  (z_dec T_X8_move_ok 51 (95, .isub, 1) rfl) ?_
              refine zx_iconst (pc := 96) (v := 0) G (z_dec T_X8_move_ok 52 (96, .iconst 0, 1) rfl) rfl ?_
              refine zx_mmax (pc := 97) G wm_RX8_74 ⟨Nat.le_of_ble_eq_true rfl, Nat.le_of_ble_eq_true rfl, Nat.zero_le _, Nat.zero_le _⟩ (z_dec T_X8_move_ok 53 (97, .invokestatic 74, 3) rfl) ?_
              refine zx_iast (pc := 100) G (zk_1_3 hI (fw6 o7 rfl)) c5 (z_dec T_X8_move_ok 54 (100, .iastore, 1) rfl) ?_
              exact zx_vret (pc := 101) G hr hlk (Nat.le_refl _) (Nat.le_refl _) (z_dec T_X8_move_ok 55 (101, .return_, 1) rfl) ⟨rfl, rfl, h⟩
          · replace h := z_pos hc h
            refine zx_aload_n (pc := 51) G (some (9)) 1 rfl rfl (z_dec T_X8_move_ok 27 (51, .aload_n 0, 1) rfl) ?_
            have hh := z_sb hI h_o
            refine zx_getR (pc := 52) G gf_RX8_25 rfl h_o (z_dec T_X8_move_ok 28 (52, .getfield 25, 3) rfl) ?_
            generalize ew10 : q 9 1 = w10 at hh ⊢
            have fw10 := hh
            replace h := h w10 ew10.symm
            obtain ⟨o11, rfl, h⟩ := h
            refine zx_getF (pc := 55) (b := o11 + 1) G gf_RX8_35 rfl (fw10 o11 rfl) (zq_1_3 hI (fw10 o11 rfl)) (z_dec T_X8_move_ok 29 (55, .getfield 35, 3) rfl) ?_
            refine zx_iload_n (pc := 58) G 0 rfl rfl (z_dec T_X8_move_ok 30 (58, .iload_n 3, 1) rfl) ?_
            refine zx_iconst (pc := 59) (v := -1) G (z_dec T_X8_move_ok 31 (59, .iconst (-1), 1) rfl) rfl ?_
            obtain ⟨c12, h⟩ := h
            refine zx_iast (pc := 60) G (zk_1_3 hI (fw10 o11 rfl)) c12 (z_dec T_X8_move_ok 32 (60, .iastore, 1) rfl) ?_
            refine zx_goto (pc := 61) (tgt := 101) G rfl (z_dec T_X8_move_ok 33 (61, .goto 40, 3) rfl) ?_
            exact zx_vret (pc := 101) G hr hlk (Nat.le_refl _) (Nat.le_refl _) (z_dec T_X8_move_ok 55 (101, .return_, 1) rfl) ⟨rfl, rfl, h⟩
        · replace h := z_pos hc h
          refine zx_aload_n (pc := 37) G (some (9)) 1 rfl rfl (z_dec T_X8_move_ok 20 (37, .aload_n 0, 1) rfl) ?_
          refine zx_iload_n (pc := 38) G 3 rfl rfl (z_dec T_X8_move_ok 21 (38, .iload_n 2, 1) rfl) ?_
          refine zx_callV_vN (pc := 39) (rm := rm_X8_lengthenOthers) G cw_RX8_70 ⟨Nat.le_of_ble_eq_true rfl, Nat.le_of_ble_eq_true rfl⟩ rfl rfl ⟨Nat.zero_le _, Nat.zero_le _⟩ h_o rfl (fun sz => (met_X8_lengthenOthers l D ρ kd q μ sz a2 _ hI h_o h)) rfl rfl (Nat.le_of_ble_eq_true rfl) (z_dec T_X8_move_ok 22 (39, .invokevirtual 70, 3) rfl) (fun μ13 hn => ?_)
          clear h
          have h := hn
          clear hn
          refine zx_goto (pc := 42) (tgt := 101) G rfl (z_dec T_X8_move_ok 23 (42, .goto 59, 3) rfl) ?_
          exact zx_vret (pc := 101) G hr hlk (Nat.le_refl _) (Nat.le_refl _) (z_dec T_X8_move_ok 55 (101, .return_, 1) rfl) ⟨rfl, rfl, h⟩
      · replace h := z_neg hc h
        exact zx_vret (pc := 30) G hr hlk (Nat.le_refl _) (Nat.le_refl _) (z_dec T_X8_move_ok 16 (30, .return_, 1) rfl) ⟨rfl, rfl, h⟩
abbrev rm_X7_clause : Room := { frames := 337, cells := 0, slots := 0, locals := 17024 }
set_option maxRecDepth 100000 in
set_option maxHeartbeats 4000000 in
theorem L_X7_clause_102_ok {p : Program} {l : Launch} {e : Env} {s : State} {m : MethodId} {args : Array Value} {below : List Frame} {meth : Method} {c : Code} {D : va_G} {A : Nat → Prop} {ρ : z_A} {kd : z_K} {q : z_Q} {μ : z_M} {K : z_M → Prop} {v2 : Int32} {v3 : Int32} {v4 : Int32} (G : z_G p c cX7_clause s m args RX7 6 D) (hr : meth.sig.returnType = (Option.none : Option Jvm.ClassFile.FieldType)) (hlk : meth.locks = false) (hI : z_I kd q) (f_l0 : kd 10 = some (.inl 7)) (f_l2 : (v2 = 0 ∨ v2 = 1)) (h : L_X7_clause_102 kd q K v2 v3 v4 μ) : z_X p l e rm_X7_clause s m args below meth c 6 D A (MQ below (z_Qn D A ρ kd (z_Kv q K)) args s 0 0 A) 0 0 ρ kd q μ 102 [(0, .ref (10)), (2, .int (v2)), (3, .int (v3)), (4, .int (v4))] [] := by
    unfold L_X7_clause_102 at h
    refine zx_aload_n (pc := 102) G (some (10)) 0 rfl rfl (z_dec T_X7_clause_ok 51 (102, .aload_n 0, 1) rfl) ?_
    refine zx_iconst (pc := 103) (v := 0) G (z_dec T_X7_clause_ok 52 (103, .iconst 0, 1) rfl) rfl ?_
    refine zx_putI (pc := 104) G gf_RX7_46 cf_7 rfl rfl f_l0 (z_dec T_X7_clause_ok 53 (104, .putfield 46, 3) rfl) ?_
    refine zx_aload_n (pc := 107) G (some (10)) 0 rfl rfl (z_dec T_X7_clause_ok 54 (107, .aload_n 0, 1) rfl) ?_
    refine zx_iload_n (pc := 108) G 1 rfl rfl (z_dec T_X7_clause_ok 55 (108, .iload_n 2, 1) rfl) ?_
    refine zx_putZ (pc := 109) G gf_RX7_53 cf_7 rfl rfl f_l2 f_l0 (z_dec T_X7_clause_ok 56 (109, .putfield 53, 3) rfl) ?_
    refine zx_aload_n (pc := 112) G (some (10)) 0 rfl rfl (z_dec T_X7_clause_ok 57 (112, .aload_n 0, 1) rfl) ?_
    refine zx_iconst (pc := 113) (v := 0) G (z_dec T_X7_clause_ok 58 (113, .iconst 0, 1) rfl) rfl ?_
    refine zx_putZ (pc := 114) G gf_RX7_57 cf_7 rfl rfl (Or.inl rfl) f_l0 (z_dec T_X7_clause_ok 59 (114, .putfield 57, 3) rfl) ?_
    refine zx_aload_n (pc := 117) G (some (10)) 0 rfl rfl (z_dec T_X7_clause_ok 60 (117, .aload_n 0, 1) rfl) ?_
    refine zx_callV_vN (pc := 118) (rm := rm_X7_openOne) G cw_RX7_60 ⟨Nat.le_of_ble_eq_true rfl, Nat.le_of_ble_eq_true rfl⟩ rfl rfl ⟨Nat.zero_le _, Nat.zero_le _⟩ f_l0 rfl (fun sz => (met_X7_openOne l D ρ kd q (si (si (si μ 10 5 ((0 : Int32))) 10 7 v2) 10 8 ((0 : Int32))) sz  _ hI f_l0 h)) rfl rfl (Nat.le_of_ble_eq_true rfl) (z_dec T_X7_clause_ok 61 (118, .invokevirtual 60, 3) rfl) (fun μ1 hn => ?_)
    clear h
    have h := hn
    clear hn
    refine zx_aload_n (pc := 121) G (some (10)) 0 rfl rfl (z_dec T_X7_clause_ok 62 (121, .aload_n 0, 1) rfl) ?_
    refine zx_callV_zN (pc := 122) (rm := rm_X7_condition) G cw_RX7_63 ⟨Nat.le_of_ble_eq_true rfl, Nat.le_of_ble_eq_true rfl⟩ rfl rfl ⟨Nat.zero_le _, Nat.zero_le _⟩ f_l0 rfl (fun sz => (met_X7_condition l D ρ kd q μ1 sz  _ hI f_l0 h)) rfl rfl (Nat.le_of_ble_eq_true rfl) (z_dec T_X7_clause_ok 63 (122, .invokevirtual 63, 3) rfl) (fun r3 μ2 hzr3 hn => ?_)
    clear h
    have h := hn
    clear hn
    refine zx_istore (pc := 125) (lv' := [(5, .int (r3)), (0, .ref (10)), (2, .int (v2)), (3, .int (v3)), (4, .int (v4))]) G (Nat.le_of_ble_eq_true rfl) rfl (z_dec T_X7_clause_ok 64 (125, .istore 5, 2) rfl) ?_
    refine zx_aload_n (pc := 127) G (some (10)) 1 rfl rfl (z_dec T_X7_clause_ok 65 (127, .aload_n 0, 1) rfl) ?_
    refine zx_bipush (pc := 128) (v := 41) G (z_dec T_X7_clause_ok 66 (128, .bipush 41, 2) rfl) rfl ?_
    refine zx_callV_vN (pc := 130) (rm := rm_X7_pass) G cw_RX7_35 ⟨Nat.le_of_ble_eq_true rfl, Nat.le_of_ble_eq_true rfl⟩ rfl rfl ⟨Nat.zero_le _, Nat.zero_le _⟩ f_l0 rfl (fun sz => (met_X7_pass l D ρ kd q μ2 sz ((41 : Int32)) _ hI f_l0 h)) rfl rfl (Nat.le_of_ble_eq_true rfl) (z_dec T_X7_clause_ok 67 (130, .invokevirtual 35, 3) rfl) (fun μ4 hn => ?_)
    clear h
    have h := hn
    clear hn
    refine zx_aload_n (pc := 133) G (some (10)) 1 rfl rfl (z_dec T_X7_clause_ok 68 (133, .aload_n 0, 1) rfl) ?_
    refine zx_dup (pc := 134) G rfl (z_dec T_X7_clause_ok 69 (134, .dup, 1) rfl) ?_
    refine zx_getI (pc := 135) G gf_RX7_46 rfl f_l0 (z_dec T_X7_clause_ok 70 (135, .getfield 46, 3) rfl) ?_
    refine zx_iconst (pc := 138) (v := 1) G (z_dec T_X7_clause_ok 71 (138, .iconst 1, 1) rfl) rfl ?_
    refine zx_isub (pc := 139) G  (z_dec T_X7_clause_ok 72 (139, .isub, 1) rfl) ?_
    refine zx_putI (pc := 140) G gf_RX7_46 cf_7 rfl rfl f_l0 (z_dec T_X7_clause_ok 73 (140, .putfield 46, 3) rfl) ?_
    refine zx_iload_n (pc := 143) G 2 rfl rfl (z_dec T_X7_clause_ok 74 (143, .iload_n 2, 1) rfl) ?_
    refine zx_if_eq (pc := 144) (tgt := 176) G rfl (z_dec T_X7_clause_ok 75 (144, .ifCond .eq 32, 3) rfl) (fun hc => ?_) (fun hc => ?_)
    · replace h := z_pos hc h
      exact zx_vret (pc := 176) G hr hlk (Nat.le_refl _) (Nat.le_refl _) (z_dec T_X7_clause_ok 89 (176, .return_, 1) rfl) ⟨rfl, rfl, h⟩
    · replace h := z_neg hc h
      refine zx_aload_n (pc := 147) G (some (10)) 1 rfl rfl (z_dec T_X7_clause_ok 76 (147, .aload_n 0, 1) rfl) ?_
      refine zx_getI (pc := 148) G gf_RX7_23 rfl f_l0 (z_dec T_X7_clause_ok 77 (148, .getfield 23, 3) rfl) ?_
      refine zx_if_ne (pc := 151) (tgt := 176) G rfl (z_dec T_X7_clause_ok 78 (151, .ifCond .ne 25, 3) rfl) (fun hc => ?_) (fun hc => ?_)
      · replace h := z_neg hc h
        exact zx_vret (pc := 176) G hr hlk (Nat.le_refl _) (Nat.le_refl _) (z_dec T_X7_clause_ok 89 (176, .return_, 1) rfl) ⟨rfl, rfl, h⟩
      · replace h := z_pos hc h
        refine zx_iload (pc := 154) G 0 rfl (z_dec T_X7_clause_ok 79 (154, .iload 5, 2) rfl) ?_
        refine zx_if_eq (pc := 156) (tgt := 176) G rfl (z_dec T_X7_clause_ok 80 (156, .ifCond .eq 20, 3) rfl) (fun hc => ?_) (fun hc => ?_)
        · replace h := z_pos hc h
          exact zx_vret (pc := 176) G hr hlk (Nat.le_refl _) (Nat.le_refl _) (z_dec T_X7_clause_ok 89 (176, .return_, 1) rfl) ⟨rfl, rfl, h⟩
        · replace h := z_neg hc h
          refine zx_aload_n (pc := 159) G (some (10)) 1 rfl rfl (z_dec T_X7_clause_ok 81 (159, .aload_n 0, 1) rfl) ?_
          refine zx_getZ (pc := 160) G gf_RX7_57 rfl f_l0 (z_dec T_X7_clause_ok 82 (160, .getfield 57, 3) rfl) ?_
          refine zx_if_ne (pc := 163) (tgt := 176) G rfl (z_dec T_X7_clause_ok 83 (163, .ifCond .ne 13, 3) rfl) (fun hc => ?_) (fun hc => ?_)
          · replace h := z_neg hc h
            exact zx_vret (pc := 176) G hr hlk (Nat.le_refl _) (Nat.le_refl _) (z_dec T_X7_clause_ok 89 (176, .return_, 1) rfl) ⟨rfl, rfl, h⟩
          · replace h := z_pos hc h
            refine zx_aload_n (pc := 166) G (some (10)) 1 rfl rfl (z_dec T_X7_clause_ok 84 (166, .aload_n 0, 1) rfl) ?_
            refine zx_getF (pc := 167) (b := 9) G gf_RX7_9 rfl f_l0 (zq_7_0 hI f_l0) (z_dec T_X7_clause_ok 85 (167, .getfield 9, 3) rfl) ?_
            refine zx_iload_n (pc := 170) G 3 rfl rfl (z_dec T_X7_clause_ok 86 (170, .iload_n 3, 1) rfl) ?_
            refine zx_iload (pc := 171) G 4 rfl (z_dec T_X7_clause_ok 87 (171, .iload 4, 2) rfl) ?_
            refine zx_callV_vN (pc := 173) (rm := rm_X8_move) G cw_RX7_67 ⟨Nat.le_of_ble_eq_true rfl, Nat.le_of_ble_eq_true rfl⟩ rfl rfl ⟨Nat.zero_le _, Nat.zero_le _⟩ (zk_7_0 hI f_l0) rfl (fun sz => (met_X8_move l D ρ kd q (si μ4 10 5 ((μ4.1 10 5) - ((1 : Int32)))) sz v3 v4 _ hI (zk_7_0 hI f_l0) h)) rfl rfl (Nat.le_of_ble_eq_true rfl) (z_dec T_X7_clause_ok 88 (173, .invokevirtual 67, 3) rfl) (fun μ5 hn => ?_)
            clear h
            have h := hn
            clear hn
            exact zx_vret (pc := 176) G hr hlk (Nat.le_refl _) (Nat.le_refl _) (z_dec T_X7_clause_ok 89 (176, .return_, 1) rfl) ⟨rfl, rfl, h⟩
set_option maxRecDepth 100000 in
set_option maxHeartbeats 4000000 in
theorem L_X7_clause_79_ok {p : Program} {l : Launch} {e : Env} {s : State} {m : MethodId} {args : Array Value} {below : List Frame} {meth : Method} {c : Code} {D : va_G} {A : Nat → Prop} {ρ : z_A} {kd : z_K} {q : z_Q} {μ : z_M} {K : z_M → Prop} {v2 : Int32} {v3 : Int32} {t0 : Int32} (G : z_G p c cX7_clause s m args RX7 6 D) (hr : meth.sig.returnType = (Option.none : Option Jvm.ClassFile.FieldType)) (hlk : meth.locks = false) (hI : z_I kd q) (f_l0 : kd 10 = some (.inl 7)) (f_l2 : (v2 = 0 ∨ v2 = 1)) (h : L_X7_clause_79 kd q K v2 v3 t0 μ) : z_X p l e rm_X7_clause s m args below meth c 6 D A (MQ below (z_Qn D A ρ kd (z_Kv q K)) args s 0 0 A) 0 0 ρ kd q μ 79 [(0, .ref (10)), (2, .int (v2)), (3, .int (v3))] [.int (t0)] := by
    unfold L_X7_clause_79 at h
    refine zx_istore (pc := 79) (lv' := [(4, .int (t0)), (0, .ref (10)), (2, .int (v2)), (3, .int (v3))]) G (Nat.le_of_ble_eq_true rfl) rfl (z_dec T_X7_clause_ok 40 (79, .istore 4, 2) rfl) ?_
    refine zx_aload_n (pc := 81) G (some (10)) 1 rfl rfl (z_dec T_X7_clause_ok 41 (81, .aload_n 0, 1) rfl) ?_
    refine zx_getI (pc := 82) G gf_RX7_23 rfl f_l0 (z_dec T_X7_clause_ok 42 (82, .getfield 23, 3) rfl) ?_
    refine zx_if_ne (pc := 85) (tgt := 102) G rfl (z_dec T_X7_clause_ok 43 (85, .ifCond .ne 17, 3) rfl) (fun hc => ?_) (fun hc => ?_)
    · replace h := z_neg hc h
      refine zx_sub (lv' := [(0, .ref (10)), (2, .int (v2)), (3, .int (v3)), (4, .int (t0))]) [1, 2, 3, 0] rfl ?_
      exact L_X7_clause_102_ok G hr hlk hI f_l0 f_l2 h
    · replace h := z_pos hc h
      refine zx_aload_n (pc := 88) G (some (10)) 1 rfl rfl (z_dec T_X7_clause_ok 44 (88, .aload_n 0, 1) rfl) ?_
      refine zx_getI (pc := 89) G gf_RX7_32 rfl f_l0 (z_dec T_X7_clause_ok 45 (89, .getfield 32, 3) rfl) ?_
      refine zx_bipush (pc := 92) (v := 40) G (z_dec T_X7_clause_ok 46 (92, .bipush 40, 2) rfl) rfl ?_
      refine zx_icmp_eq (pc := 94) (tgt := 102) G rfl (z_dec T_X7_clause_ok 47 (94, .if_icmp .eq 8, 3) rfl) (fun hc => ?_) (fun hc => ?_)
      · replace h := z_pos hc h
        refine zx_sub (lv' := [(0, .ref (10)), (2, .int (v2)), (3, .int (v3)), (4, .int (t0))]) [1, 2, 3, 0] rfl ?_
        exact L_X7_clause_102_ok G hr hlk hI f_l0 f_l2 h
      · replace h := z_neg hc h
        refine zx_aload_n (pc := 97) G (some (10)) 1 rfl rfl (z_dec T_X7_clause_ok 48 (97, .aload_n 0, 1) rfl) ?_
        refine zx_iconst (pc := 98) (v := 1) G (z_dec T_X7_clause_ok 49 (98, .iconst 1, 1) rfl) rfl ?_
        refine zx_callV_vN (pc := 99) (rm := rm_X7_fail) G cw_RX7_43 ⟨Nat.le_of_ble_eq_true rfl, Nat.le_of_ble_eq_true rfl⟩ rfl rfl ⟨Nat.zero_le _, Nat.zero_le _⟩ f_l0 rfl (fun sz => (met_X7_fail l D ρ kd q μ sz ((1 : Int32)) _ hI f_l0 h)) rfl rfl (Nat.le_of_ble_eq_true rfl) (z_dec T_X7_clause_ok 50 (99, .invokevirtual 43, 3) rfl) (fun μ1 hn => ?_)
        clear h
        have h := hn
        clear hn
        refine zx_sub (lv' := [(0, .ref (10)), (2, .int (v2)), (3, .int (v3)), (4, .int (t0))]) [1, 2, 3, 0] rfl ?_
        exact L_X7_clause_102_ok G hr hlk hI f_l0 f_l2 h
set_option maxRecDepth 100000 in
set_option maxHeartbeats 4000000 in
theorem L_X7_clause_53_ok {p : Program} {l : Launch} {e : Env} {s : State} {m : MethodId} {args : Array Value} {below : List Frame} {meth : Method} {c : Code} {D : va_G} {A : Nat → Prop} {ρ : z_A} {kd : z_K} {q : z_Q} {μ : z_M} {K : z_M → Prop} {v2 : Int32} {v3 : Int32} (G : z_G p c cX7_clause s m args RX7 6 D) (hr : meth.sig.returnType = (Option.none : Option Jvm.ClassFile.FieldType)) (hlk : meth.locks = false) (hI : z_I kd q) (f_l0 : kd 10 = some (.inl 7)) (f_l2 : (v2 = 0 ∨ v2 = 1)) (h : L_X7_clause_53 kd q K v2 v3 μ) : z_X p l e rm_X7_clause s m args below meth c 6 D A (MQ below (z_Qn D A ρ kd (z_Kv q K)) args s 0 0 A) 0 0 ρ kd q μ 53 [(0, .ref (10)), (2, .int (v2)), (3, .int (v3))] [] := by
    unfold L_X7_clause_53 at h
    refine zx_aload_n (pc := 53) G (some (10)) 0 rfl rfl (z_dec T_X7_clause_ok 27 (53, .aload_n 0, 1) rfl) ?_
    refine zx_getI (pc := 54) G gf_RX7_23 rfl f_l0 (z_dec T_X7_clause_ok 28 (54, .getfield 23, 3) rfl) ?_
    refine zx_if_eq (pc := 57) (tgt := 61) G rfl (z_dec T_X7_clause_ok 29 (57, .ifCond .eq 4, 3) rfl) (fun hc => ?_) (fun hc => ?_)
    · replace h := z_pos hc h
      refine zx_aload_n (pc := 61) G (some (10)) 0 rfl rfl (z_dec T_X7_clause_ok 31 (61, .aload_n 0, 1) rfl) ?_
      refine zx_callV_vN (pc := 62) (rm := rm_X7_advance) G cw_RX7_29 ⟨Nat.le_of_ble_eq_true rfl, Nat.le_of_ble_eq_true rfl⟩ rfl rfl ⟨Nat.zero_le _, Nat.zero_le _⟩ f_l0 rfl (fun sz => (met_X7_advance l D ρ kd q μ sz  _ hI f_l0 h)) rfl rfl (Nat.le_of_ble_eq_true rfl) (z_dec T_X7_clause_ok 32 (62, .invokevirtual 29, 3) rfl) (fun μ1 hn => ?_)
      clear h
      have h := hn
      clear hn
      refine zx_iload_n (pc := 65) G 2 rfl rfl (z_dec T_X7_clause_ok 33 (65, .iload_n 3, 1) rfl) ?_
      refine zx_bipush (pc := 66) (v := 99) G (z_dec T_X7_clause_ok 34 (66, .bipush 99, 2) rfl) rfl ?_
      refine zx_icmp_ne (pc := 68) (tgt := 75) G rfl (z_dec T_X7_clause_ok 35 (68, .if_icmp .ne 7, 3) rfl) (fun hc => ?_) (fun hc => ?_)
      · replace h := z_neg hc h
        refine zx_aload_n (pc := 75) G (some (10)) 0 rfl rfl (z_dec T_X7_clause_ok 38 (75, .aload_n 0, 1) rfl) ?_
        refine zx_callV_iN (pc := 76) (rm := rm_X7_stepsToMove) G cw_RX7_49 ⟨Nat.le_of_ble_eq_true rfl, Nat.le_of_ble_eq_true rfl⟩ rfl rfl ⟨Nat.zero_le _, Nat.zero_le _⟩ f_l0 rfl (fun sz => (met_X7_stepsToMove l D ρ kd q μ1 sz  _ hI f_l0 h)) rfl rfl (Nat.le_of_ble_eq_true rfl) (z_dec T_X7_clause_ok 39 (76, .invokevirtual 49, 3) rfl) (fun r3 μ2 hn => ?_)
        clear h
        have h := hn
        clear hn
        exact L_X7_clause_79_ok G hr hlk hI f_l0 f_l2 h
      · replace h := z_pos hc h
        refine zx_iconst (pc := 71) (v := 0) G (z_dec T_X7_clause_ok 36 (71, .iconst 0, 1) rfl) rfl ?_
        refine zx_goto (pc := 72) (tgt := 79) G rfl (z_dec T_X7_clause_ok 37 (72, .goto 7, 3) rfl) ?_
        exact L_X7_clause_79_ok G hr hlk hI f_l0 f_l2 h
    · replace h := z_neg hc h
      exact zx_vret (pc := 60) G hr hlk (Nat.le_refl _) (Nat.le_refl _) (z_dec T_X7_clause_ok 30 (60, .return_, 1) rfl) ⟨rfl, rfl, h⟩
set_option maxRecDepth 100000 in
set_option maxHeartbeats 4000000 in
theorem L_X7_clause_35_ok {p : Program} {l : Launch} {e : Env} {s : State} {m : MethodId} {args : Array Value} {below : List Frame} {meth : Method} {c : Code} {D : va_G} {A : Nat → Prop} {ρ : z_A} {kd : z_K} {q : z_Q} {μ : z_M} {K : z_M → Prop} {v1 : Int32} {v2 : Int32} {v3 : Int32} (G : z_G p c cX7_clause s m args RX7 6 D) (hr : meth.sig.returnType = (Option.none : Option Jvm.ClassFile.FieldType)) (hlk : meth.locks = false) (hI : z_I kd q) (f_l0 : kd 10 = some (.inl 7)) (f_l2 : (v2 = 0 ∨ v2 = 1)) (h : L_X7_clause_35 kd q K v1 v2 v3 μ) : z_X p l e rm_X7_clause s m args below meth c 6 D A (MQ below (z_Qn D A ρ kd (z_Kv q K)) args s 0 0 A) 0 0 ρ kd q μ 35 [(0, .ref (10)), (1, .int (v1)), (2, .int (v2)), (3, .int (v3))] [] := by
    unfold L_X7_clause_35 at h
    refine zx_aload_n (pc := 35) G (some (10)) 0 rfl rfl (z_dec T_X7_clause_ok 18 (35, .aload_n 0, 1) rfl) ?_
    refine zx_getI (pc := 36) G gf_RX7_23 rfl f_l0 (z_dec T_X7_clause_ok 19 (36, .getfield 23, 3) rfl) ?_
    refine zx_if_ne (pc := 39) (tgt := 53) G rfl (z_dec T_X7_clause_ok 20 (39, .ifCond .ne 14, 3) rfl) (fun hc => ?_) (fun hc => ?_)
    · replace h := z_neg hc h
      refine zx_sub (lv' := [(0, .ref (10)), (2, .int (v2)), (3, .int (v3))]) [0, 2, 3] rfl ?_
      exact L_X7_clause_53_ok G hr hlk hI f_l0 f_l2 h
    · replace h := z_pos hc h
      refine zx_iload_n (pc := 42) G 1 rfl rfl (z_dec T_X7_clause_ok 21 (42, .iload_n 1, 1) rfl) ?_
      refine zx_bipush (pc := 43) (v := 12) G (z_dec T_X7_clause_ok 22 (43, .bipush 12, 2) rfl) rfl ?_
      refine zx_icmp_lt (pc := 45) (tgt := 53) G rfl (z_dec T_X7_clause_ok 23 (45, .if_icmp .lt 8, 3) rfl) (fun hc => ?_) (fun hc => ?_)
      · replace h := z_pos hc h
        refine zx_sub (lv' := [(0, .ref (10)), (2, .int (v2)), (3, .int (v3))]) [0, 2, 3] rfl ?_
        exact L_X7_clause_53_ok G hr hlk hI f_l0 f_l2 h
      · replace h := z_neg hc h
        refine zx_aload_n (pc := 48) G (some (10)) 0 rfl rfl (z_dec T_X7_clause_ok 24 (48, .aload_n 0, 1) rfl) ?_
        refine zx_iconst (pc := 49) (v := 4) G (z_dec T_X7_clause_ok 25 (49, .iconst 4, 1) rfl) rfl ?_
        refine zx_callV_vN (pc := 50) (rm := rm_X7_fail) G cw_RX7_43 ⟨Nat.le_of_ble_eq_true rfl, Nat.le_of_ble_eq_true rfl⟩ rfl rfl ⟨Nat.zero_le _, Nat.zero_le _⟩ f_l0 rfl (fun sz => (met_X7_fail l D ρ kd q μ sz ((4 : Int32)) _ hI f_l0 h)) rfl rfl (Nat.le_of_ble_eq_true rfl) (z_dec T_X7_clause_ok 26 (50, .invokevirtual 43, 3) rfl) (fun μ1 hn => ?_)
        clear h
        have h := hn
        clear hn
        refine zx_sub (lv' := [(0, .ref (10)), (2, .int (v2)), (3, .int (v3))]) [0, 2, 3] rfl ?_
        exact L_X7_clause_53_ok G hr hlk hI f_l0 f_l2 h
set_option maxRecDepth 100000 in
set_option maxHeartbeats 4000000 in
theorem met_X7_clause (l : Launch) (D : va_G) (ρ : z_A) (kd : z_K) (q : z_Q) (μ : z_M) (sz : Nat) (a1 : Int32) (a2 : Int32) (K : z_M → Prop) (hI : z_I kd q) (h_o : kd 10 = some (.inl 7)) (h_a2 : (a2 = 0 ∨ a2 = 1)) (h : C_X7_clause kd q a1 a2 μ K) : Met l yX7_clause (z_ws yX7_clause cX7_clause 6 (Option.none : Option Jvm.ClassFile.FieldType)) rm_X7_clause (z_Pc D ρ kd q μ sz [.ref (10), .int (a1), .int (a2)]) (z_Qn D (z_Rg ρ sz) ρ kd (z_Kv q K)) 0 0 (z_Rg ρ sz) := by
  refine z_met (rm := rm_X7_clause) (by decide) (Nat.le_of_ble_eq_true rfl) (fun p e s m args below meth c G hr hlk => ?_)
  unfold C_X7_clause at h
  show z_X _ _ _ _ _ _ _ _ _ _ _ _ _ _ _ _ _ _ _ _ _ [(0, .ref (10)), (1, .int (a1)), (2, .int (a2))] _
  refine zx_aload_n (pc := 0) G (some (10)) 0 rfl rfl (z_dec T_X7_clause_ok 0 (0, .aload_n 0, 1) rfl) ?_
  refine zx_getI (pc := 1) G gf_RX7_32 rfl h_o (z_dec T_X7_clause_ok 1 (1, .getfield 32, 3) rfl) ?_
  refine zx_istore_n (pc := 4) (lv' := [(3, .int (μ.1 10 4)), (0, .ref (10)), (1, .int (a1)), (2, .int (a2))]) G rfl (Nat.le_of_ble_eq_true rfl) rfl (z_dec T_X7_clause_ok 2 (4, .istore_n 3, 1) rfl) ?_
  refine zx_aload_n (pc := 5) G (some (10)) 1 rfl rfl (z_dec T_X7_clause_ok 3 (5, .aload_n 0, 1) rfl) ?_
  refine zx_getI (pc := 6) G gf_RX7_23 rfl h_o (z_dec T_X7_clause_ok 4 (6, .getfield 23, 3) rfl) ?_
  refine zx_if_ne (pc := 9) (tgt := 35) G rfl (z_dec T_X7_clause_ok 5 (9, .ifCond .ne 26, 3) rfl) (fun hc => ?_) (fun hc => ?_)
  · replace h := z_neg hc h
    refine zx_sub (lv' := [(0, .ref (10)), (1, .int (a1)), (2, .int (a2)), (3, .int (μ.1 10 4))]) [1, 2, 3, 0] rfl ?_
    exact L_X7_clause_35_ok G hr hlk hI h_o h_a2 h
  · replace h := z_pos hc h
    refine zx_iload_n (pc := 12) G 0 rfl rfl (z_dec T_X7_clause_ok 6 (12, .iload_n 3, 1) rfl) ?_
    refine zx_bipush (pc := 13) (v := 115) G (z_dec T_X7_clause_ok 7 (13, .bipush 115, 2) rfl) rfl ?_
    refine zx_icmp_eq (pc := 15) (tgt := 35) G rfl (z_dec T_X7_clause_ok 8 (15, .if_icmp .eq 20, 3) rfl) (fun hc => ?_) (fun hc => ?_)
    · replace h := z_pos hc h
      refine zx_sub (lv' := [(0, .ref (10)), (1, .int (a1)), (2, .int (a2)), (3, .int (μ.1 10 4))]) [1, 2, 3, 0] rfl ?_
      exact L_X7_clause_35_ok G hr hlk hI h_o h_a2 h
    · replace h := z_neg hc h
      refine zx_iload_n (pc := 18) G 0 rfl rfl (z_dec T_X7_clause_ok 9 (18, .iload_n 3, 1) rfl) ?_
      refine zx_bipush (pc := 19) (v := 108) G (z_dec T_X7_clause_ok 10 (19, .bipush 108, 2) rfl) rfl ?_
      refine zx_icmp_eq (pc := 21) (tgt := 35) G rfl (z_dec T_X7_clause_ok 11 (21, .if_icmp .eq 14, 3) rfl) (fun hc => ?_) (fun hc => ?_)
      · replace h := z_pos hc h
        refine zx_sub (lv' := [(0, .ref (10)), (1, .int (a1)), (2, .int (a2)), (3, .int (μ.1 10 4))]) [1, 2, 3, 0] rfl ?_
        exact L_X7_clause_35_ok G hr hlk hI h_o h_a2 h
      · replace h := z_neg hc h
        refine zx_iload_n (pc := 24) G 0 rfl rfl (z_dec T_X7_clause_ok 12 (24, .iload_n 3, 1) rfl) ?_
        refine zx_bipush (pc := 25) (v := 99) G (z_dec T_X7_clause_ok 13 (25, .bipush 99, 2) rfl) rfl ?_
        refine zx_icmp_eq (pc := 27) (tgt := 35) G rfl (z_dec T_X7_clause_ok 14 (27, .if_icmp .eq 8, 3) rfl) (fun hc => ?_) (fun hc => ?_)
        · replace h := z_pos hc h
          refine zx_sub (lv' := [(0, .ref (10)), (1, .int (a1)), (2, .int (a2)), (3, .int (μ.1 10 4))]) [1, 2, 3, 0] rfl ?_
          exact L_X7_clause_35_ok G hr hlk hI h_o h_a2 h
        · replace h := z_neg hc h
          refine zx_aload_n (pc := 30) G (some (10)) 1 rfl rfl (z_dec T_X7_clause_ok 15 (30, .aload_n 0, 1) rfl) ?_
          refine zx_iconst (pc := 31) (v := 1) G (z_dec T_X7_clause_ok 16 (31, .iconst 1, 1) rfl) rfl ?_
          refine zx_callV_vN (pc := 32) (rm := rm_X7_fail) G cw_RX7_43 ⟨Nat.le_of_ble_eq_true rfl, Nat.le_of_ble_eq_true rfl⟩ rfl rfl ⟨Nat.zero_le _, Nat.zero_le _⟩ h_o rfl (fun sz => (met_X7_fail l D ρ kd q μ sz ((1 : Int32)) _ hI h_o h)) rfl rfl (Nat.le_of_ble_eq_true rfl) (z_dec T_X7_clause_ok 17 (32, .invokevirtual 43, 3) rfl) (fun μ1 hn => ?_)
          clear h
          have h := hn
          clear hn
          refine zx_sub (lv' := [(0, .ref (10)), (1, .int (a1)), (2, .int (a2)), (3, .int (μ.1 10 4))]) [1, 2, 3, 0] rfl ?_
          exact L_X7_clause_35_ok G hr hlk hI h_o h_a2 h
abbrev rm_X7_read : Room := { frames := 338, cells := 0, slots := 0, locals := 17049 }
set_option maxRecDepth 100000 in
set_option maxHeartbeats 4000000 in
theorem L_X7_read_84_ok {p : Program} {l : Launch} {e : Env} {s : State} {m : MethodId} {args : Array Value} {below : List Frame} {meth : Method} {c : Code} {D : va_G} {A : Nat → Prop} {ρ : z_A} {kd : z_K} {q : z_Q} {μ : z_M} {K : Int32 → z_Q → z_M → Prop} {v4 : Int32} (G : z_G p c cX7_read s m args RX7 6 D) (hr : meth.sig.returnType = (Option.some Jvm.ClassFile.FieldType.int)) (hlk : meth.locks = false) (hI : z_I kd q) (f_l0 : kd 10 = some (.inl 7)) (h : L_X7_read_84 kd K v4 q μ) : z_X p l e rm_X7_read s m args below meth c 6 D A (MQ below (z_Qn D A ρ kd (z_KiQ kd K)) args s 0 0 A) 0 0 ρ kd q μ 84 [(0, .ref (10)), (4, .int (v4))] [] := by
    unfold L_X7_read_84 at h
    refine zx_aload_n (pc := 84) G (some (10)) 0 rfl rfl (z_dec T_X7_read_ok 42 (84, .aload_n 0, 1) rfl) ?_
    refine zx_getI (pc := 85) G gf_RX7_23 rfl f_l0 (z_dec T_X7_read_ok 43 (85, .getfield 23, 3) rfl) ?_
    refine zx_if_ne (pc := 88) (tgt := 96) G rfl (z_dec T_X7_read_ok 44 (88, .ifCond .ne 8, 3) rfl) (fun hc => ?_) (fun hc => ?_)
    · replace h := z_neg hc h
      refine zx_sipush (pc := 96) (v := -1000) G (z_dec T_X7_read_ok 47 (96, .sipush (-1000), 3) rfl) rfl ?_
      refine zx_aload_n (pc := 99) G (some (10)) 0 rfl rfl (z_dec T_X7_read_ok 48 (99, .aload_n 0, 1) rfl) ?_
      refine zx_getI (pc := 100) G gf_RX7_23 rfl f_l0 (z_dec T_X7_read_ok 49 (100, .getfield 23, 3) rfl) ?_
      refine zx_imul (pc := 103) G  (z_dec T_X7_read_ok 50 (103, .imul, 1) rfl) ?_
      refine zx_aload_n (pc := 104) G (some (10)) 0 rfl rfl (z_dec T_X7_read_ok 51 (104, .aload_n 0, 1) rfl) ?_
      refine zx_getI (pc := 105) G gf_RX7_26 rfl f_l0 (z_dec T_X7_read_ok 52 (105, .getfield 26, 3) rfl) ?_
      refine zx_isub (pc := 108) G  (z_dec T_X7_read_ok 53 (108, .isub, 1) rfl) ?_
      exact zx_iret (pc := 109) G hr hlk (Nat.le_refl _) (Nat.le_refl _) (z_dec T_X7_read_ok 54 (109, .ireturn, 1) rfl) ⟨hI, _, rfl, h⟩
    · replace h := z_pos hc h
      refine zx_iload (pc := 91) G 1 rfl (z_dec T_X7_read_ok 45 (91, .iload 4, 2) rfl) ?_
      refine zx_goto (pc := 93) (tgt := 109) G rfl (z_dec T_X7_read_ok 46 (93, .goto 16, 3) rfl) ?_
      exact zx_iret (pc := 109) G hr hlk (Nat.le_refl _) (Nat.le_refl _) (z_dec T_X7_read_ok 54 (109, .ireturn, 1) rfl) ⟨hI, _, rfl, h⟩
set_option maxRecDepth 100000 in
set_option maxHeartbeats 4000000 in
theorem L_X7_read_68_ok {p : Program} {l : Launch} {e : Env} {s : State} {m : MethodId} {args : Array Value} {below : List Frame} {meth : Method} {c : Code} {D : va_G} {A : Nat → Prop} {ρ : z_A} {kd : z_K} {q : z_Q} {μ : z_M} {K : Int32 → z_Q → z_M → Prop} {P30 : Int32 → Int32 → Int32 → z_Q → z_M → Prop} {v3 : Int32} {v4 : Int32} {v5 : Int32} (G : z_G p c cX7_read s m args RX7 6 D) (hr : meth.sig.returnType = (Option.some Jvm.ClassFile.FieldType.int)) (hlk : meth.locks = false) (hP30 : ∀ (v3 : Int32) (v4 : Int32) (v5 : Int32) (q : z_Q) (μ : z_M), P30 v3 v4 v5 q μ → z_I kd q → (kd 10 = some (.inl 7)) → ((v3 = 0 ∨ v3 = 1)) → z_X p l e rm_X7_read s m args below meth c 6 D A (MQ below (z_Qn D A ρ kd (z_KiQ kd K)) args s 0 0 A) 0 0 ρ kd q μ 30 [(0, .ref (10)), (3, .int (v3)), (4, .int (v4)), (5, .int (v5))] []) (hI : z_I kd q) (f_l0 : kd 10 = some (.inl 7)) (f_l3 : (v3 = 0 ∨ v3 = 1)) (h : L_X7_read_68 kd K P30 v3 v4 v5 q μ) : z_X p l e rm_X7_read s m args below meth c 6 D A (MQ below (z_Qn D A ρ kd (z_KiQ kd K)) args s 0 0 A) 0 0 ρ kd q μ 68 [(0, .ref (10)), (3, .int (v3)), (4, .int (v4)), (5, .int (v5))] [] := by
    unfold L_X7_read_68 at h
    refine zx_aload_n (pc := 68) G (some (10)) 0 rfl rfl (z_dec T_X7_read_ok 35 (68, .aload_n 0, 1) rfl) ?_
    refine zx_iload (pc := 69) G 3 rfl (z_dec T_X7_read_ok 36 (69, .iload 5, 2) rfl) ?_
    refine zx_iload_n (pc := 71) G 1 rfl rfl (z_dec T_X7_read_ok 37 (71, .iload_n 3, 1) rfl) ?_
    refine zx_callV_vN (pc := 72) (rm := rm_X7_clause) G cw_RX7_39 ⟨Nat.le_of_ble_eq_true rfl, Nat.le_of_ble_eq_true rfl⟩ rfl rfl ⟨Nat.zero_le _, Nat.zero_le _⟩ f_l0 rfl (fun sz => (met_X7_clause l D ρ kd q μ sz v5 v3 _ hI f_l0 f_l3 h)) rfl rfl (Nat.le_of_ble_eq_true rfl) (z_dec T_X7_read_ok 38 (72, .invokevirtual 39, 3) rfl) (fun μ1 hn => ?_)
    clear h
    have h := hn
    clear hn
    refine zx_iinc (pc := 75) (v := v4 + 1) (lv' := [(4, .int (v4 + 1)), (0, .ref (10)), (3, .int (v3)), (5, .int (v5))]) G 2 rfl (z_inc (by decide)) (Nat.le_of_ble_eq_true rfl) rfl (z_dec T_X7_read_ok 39 (75, .iinc 4 1, 3) rfl) ?_
    refine zx_iinc (pc := 78) (v := v5 + 1) (lv' := [(5, .int (v5 + 1)), (4, .int (v4 + 1)), (0, .ref (10)), (3, .int (v3))]) G 3 rfl (z_inc (by decide)) (Nat.le_of_ble_eq_true rfl) rfl (z_dec T_X7_read_ok 40 (78, .iinc 5 1, 3) rfl) ?_
    refine zx_goto (pc := 81) (tgt := 30) G rfl (z_dec T_X7_read_ok 41 (81, .goto (-51), 3) rfl) ?_
    refine zx_sub (lv' := [(0, .ref (10)), (3, .int (v3)), (4, .int (v4 + 1)), (5, .int (v5 + 1))]) [2, 3, 1, 0] rfl ?_
    exact hP30 _ _ _ _ _ h hI f_l0 f_l3
set_option maxRecDepth 100000 in
set_option maxHeartbeats 4000000 in
theorem L_X7_read_57_ok {p : Program} {l : Launch} {e : Env} {s : State} {m : MethodId} {args : Array Value} {below : List Frame} {meth : Method} {c : Code} {D : va_G} {A : Nat → Prop} {ρ : z_A} {kd : z_K} {q : z_Q} {μ : z_M} {K : Int32 → z_Q → z_M → Prop} {P30 : Int32 → Int32 → Int32 → z_Q → z_M → Prop} {v3 : Int32} {v4 : Int32} {v5 : Int32} (G : z_G p c cX7_read s m args RX7 6 D) (hr : meth.sig.returnType = (Option.some Jvm.ClassFile.FieldType.int)) (hlk : meth.locks = false) (hP30 : ∀ (v3 : Int32) (v4 : Int32) (v5 : Int32) (q : z_Q) (μ : z_M), P30 v3 v4 v5 q μ → z_I kd q → (kd 10 = some (.inl 7)) → ((v3 = 0 ∨ v3 = 1)) → z_X p l e rm_X7_read s m args below meth c 6 D A (MQ below (z_Qn D A ρ kd (z_KiQ kd K)) args s 0 0 A) 0 0 ρ kd q μ 30 [(0, .ref (10)), (3, .int (v3)), (4, .int (v4)), (5, .int (v5))] []) (hI : z_I kd q) (f_l0 : kd 10 = some (.inl 7)) (f_l3 : (v3 = 0 ∨ v3 = 1)) (h : L_X7_read_57 kd K P30 v3 v4 v5 q μ) : z_X p l e rm_X7_read s m args below meth c 6 D A (MQ below (z_Qn D A ρ kd (z_KiQ kd K)) args s 0 0 A) 0 0 ρ kd q μ 57 [(0, .ref (10)), (3, .int (v3)), (4, .int (v4)), (5, .int (v5))] [] := by
    unfold L_X7_read_57 at h
    refine zx_iload (pc := 57) G 3 rfl (z_dec T_X7_read_ok 30 (57, .iload 5, 2) rfl) ?_
    refine zx_if_le (pc := 59) (tgt := 68) G rfl (z_dec T_X7_read_ok 31 (59, .ifCond .le 9, 3) rfl) (fun hc => ?_) (fun hc => ?_)
    · replace h := z_pos hc h
      exact L_X7_read_68_ok G hr hlk hP30 hI f_l0 f_l3 h
    · replace h := z_neg hc h
      refine zx_aload_n (pc := 62) G (some (10)) 0 rfl rfl (z_dec T_X7_read_ok 32 (62, .aload_n 0, 1) rfl) ?_
      refine zx_bipush (pc := 63) (v := 59) G (z_dec T_X7_read_ok 33 (63, .bipush 59, 2) rfl) rfl ?_
      refine zx_callV_vN (pc := 65) (rm := rm_X7_pass) G cw_RX7_35 ⟨Nat.le_of_ble_eq_true rfl, Nat.le_of_ble_eq_true rfl⟩ rfl rfl ⟨Nat.zero_le _, Nat.zero_le _⟩ f_l0 rfl (fun sz => (met_X7_pass l D ρ kd q μ sz ((59 : Int32)) _ hI f_l0 h)) rfl rfl (Nat.le_of_ble_eq_true rfl) (z_dec T_X7_read_ok 34 (65, .invokevirtual 35, 3) rfl) (fun μ1 hn => ?_)
      clear h
      have h := hn
      clear hn
      exact L_X7_read_68_ok G hr hlk hP30 hI f_l0 f_l3 h
set_option maxRecDepth 100000 in
set_option maxHeartbeats 4000000 in
theorem B_X7_read_30_ok {p : Program} {l : Launch} {e : Env} {s : State} {m : MethodId} {args : Array Value} {below : List Frame} {meth : Method} {c : Code} {D : va_G} {A : Nat → Prop} {ρ : z_A} {kd : z_K} {q : z_Q} {μ : z_M} {K : Int32 → z_Q → z_M → Prop} {P30 : Int32 → Int32 → Int32 → z_Q → z_M → Prop} {v3 : Int32} {v4 : Int32} {v5 : Int32} (G : z_G p c cX7_read s m args RX7 6 D) (hr : meth.sig.returnType = (Option.some Jvm.ClassFile.FieldType.int)) (hlk : meth.locks = false) (hP30 : ∀ (v3 : Int32) (v4 : Int32) (v5 : Int32) (q : z_Q) (μ : z_M), P30 v3 v4 v5 q μ → z_I kd q → (kd 10 = some (.inl 7)) → ((v3 = 0 ∨ v3 = 1)) → z_X p l e rm_X7_read s m args below meth c 6 D A (MQ below (z_Qn D A ρ kd (z_KiQ kd K)) args s 0 0 A) 0 0 ρ kd q μ 30 [(0, .ref (10)), (3, .int (v3)), (4, .int (v4)), (5, .int (v5))] []) (hI : z_I kd q) (f_l0 : kd 10 = some (.inl 7)) (f_l3 : (v3 = 0 ∨ v3 = 1)) (h : B_X7_read_30 kd K P30 v3 v4 v5 q μ) : z_X p l e rm_X7_read s m args below meth c 6 D A (MQ below (z_Qn D A ρ kd (z_KiQ kd K)) args s 0 0 A) 0 0 ρ kd q μ 30 [(0, .ref (10)), (3, .int (v3)), (4, .int (v4)), (5, .int (v5))] [] := by
    unfold B_X7_read_30 at h
    refine zx_iload (pc := 30) G 3 rfl (z_dec T_X7_read_ok 18 (30, .iload 5, 2) rfl) ?_
    refine zx_bipush (pc := 32) (v := 12) G (z_dec T_X7_read_ok 19 (32, .bipush 12, 2) rfl) rfl ?_
    refine zx_icmp_gt (pc := 34) (tgt := 84) G rfl (z_dec T_X7_read_ok 20 (34, .if_icmp .gt 50, 3) rfl) (fun hc => ?_) (fun hc => ?_)
    · replace h := z_pos hc h
      refine zx_sub (lv' := [(0, .ref (10)), (4, .int (v4))]) [0, 2] rfl ?_
      exact L_X7_read_84_ok G hr hlk hI f_l0 h
    · replace h := z_neg hc h
      refine zx_aload_n (pc := 37) G (some (10)) 0 rfl rfl (z_dec T_X7_read_ok 21 (37, .aload_n 0, 1) rfl) ?_
      refine zx_getI (pc := 38) G gf_RX7_23 rfl f_l0 (z_dec T_X7_read_ok 22 (38, .getfield 23, 3) rfl) ?_
      refine zx_if_ne (pc := 41) (tgt := 84) G rfl (z_dec T_X7_read_ok 23 (41, .ifCond .ne 43, 3) rfl) (fun hc => ?_) (fun hc => ?_)
      · replace h := z_neg hc h
        refine zx_sub (lv' := [(0, .ref (10)), (4, .int (v4))]) [0, 2] rfl ?_
        exact L_X7_read_84_ok G hr hlk hI f_l0 h
      · replace h := z_pos hc h
        refine zx_iload (pc := 44) G 3 rfl (z_dec T_X7_read_ok 24 (44, .iload 5, 2) rfl) ?_
        refine zx_if_eq (pc := 46) (tgt := 57) G rfl (z_dec T_X7_read_ok 25 (46, .ifCond .eq 11, 3) rfl) (fun hc => ?_) (fun hc => ?_)
        · replace h := z_pos hc h
          exact L_X7_read_57_ok G hr hlk hP30 hI f_l0 f_l3 h
        · replace h := z_neg hc h
          refine zx_aload_n (pc := 49) G (some (10)) 0 rfl rfl (z_dec T_X7_read_ok 26 (49, .aload_n 0, 1) rfl) ?_
          refine zx_getI (pc := 50) G gf_RX7_32 rfl f_l0 (z_dec T_X7_read_ok 27 (50, .getfield 32, 3) rfl) ?_
          refine zx_iconst (pc := 53) (v := -1) G (z_dec T_X7_read_ok 28 (53, .iconst (-1), 1) rfl) rfl ?_
          refine zx_icmp_eq (pc := 54) (tgt := 84) G rfl (z_dec T_X7_read_ok 29 (54, .if_icmp .eq 30, 3) rfl) (fun hc => ?_) (fun hc => ?_)
          · replace h := z_pos hc h
            refine zx_sub (lv' := [(0, .ref (10)), (4, .int (v4))]) [0, 2] rfl ?_
            exact L_X7_read_84_ok G hr hlk hI f_l0 h
          · replace h := z_neg hc h
            exact L_X7_read_57_ok G hr hlk hP30 hI f_l0 f_l3 h
set_option maxRecDepth 100000 in
set_option maxHeartbeats 4000000 in
theorem L_X7_read_30_ok {p : Program} {l : Launch} {e : Env} {s : State} {m : MethodId} {args : Array Value} {below : List Frame} {meth : Method} {c : Code} {D : va_G} {A : Nat → Prop} {ρ : z_A} {kd : z_K} {q : z_Q} {μ : z_M} {K : Int32 → z_Q → z_M → Prop} {v3 : Int32} {v4 : Int32} {v5 : Int32} (G : z_G p c cX7_read s m args RX7 6 D) (hr : meth.sig.returnType = (Option.some Jvm.ClassFile.FieldType.int)) (hlk : meth.locks = false) (hI : z_I kd q) (f_l0 : kd 10 = some (.inl 7)) (f_l3 : (v3 = 0 ∨ v3 = 1)) (h : L_X7_read_30 kd K v3 v4 v5 q μ) : z_X p l e rm_X7_read s m args below meth c 6 D A (MQ below (z_Qn D A ρ kd (z_KiQ kd K)) args s 0 0 A) 0 0 ρ kd q μ 30 [(0, .ref (10)), (3, .int (v3)), (4, .int (v4)), (5, .int (v5))] [] :=
  h (fun (v3 : Int32) (v4 : Int32) (v5 : Int32) (q : z_Q) (μ : z_M) => z_I kd q → (kd 10 = some (.inl 7)) → ((v3 = 0 ∨ v3 = 1)) → z_X p l e rm_X7_read s m args below meth c 6 D A (MQ below (z_Qn D A ρ kd (z_KiQ kd K)) args s 0 0 A) 0 0 ρ kd q μ 30 [(0, .ref (10)), (3, .int (v3)), (4, .int (v4)), (5, .int (v5))] []) (fun v3 v4 v5 q μ h hI f_l0 f_l3 => B_X7_read_30_ok G hr hlk (fun _ _ _ _ _ h => h) hI f_l0 f_l3 h) hI f_l0 f_l3
set_option maxRecDepth 100000 in
set_option maxHeartbeats 4000000 in
theorem met_X7_read (l : Launch) (D : va_G) (ρ : z_A) (kd : z_K) (q : z_Q) (μ : z_M) (sz : Nat) (a1 : Option Nat) (a2 : Int32) (a3 : Int32) (K : Int32 → z_Q → z_M → Prop) (hI : z_I kd q) (h_o : kd 10 = some (.inl 7)) (h_a1 : ∀ a, a1 = some a → kd a = some (.inr (0, z_len kd a))) (h_a3 : (a3 = 0 ∨ a3 = 1)) (h : C_X7_read kd q a1 a2 a3 μ K) : Met l yX7_read (z_ws yX7_read cX7_read 6 (Option.some Jvm.ClassFile.FieldType.int)) rm_X7_read (z_Pc D ρ kd q μ sz [.ref (10), va_rf (a1), .int (a2), .int (a3)]) (z_Qn D (z_Rg ρ sz) ρ kd (z_KiQ kd K)) 0 0 (z_Rg ρ sz) := by
  refine z_met (rm := rm_X7_read) (by decide) (by cases a1 <;> exact Nat.le_of_ble_eq_true rfl) (fun p e s m args below meth c G hr hlk => ?_)
  unfold C_X7_read at h
  rw [show lv_args 0 [.ref (10), va_rf (a1), .int (a2), .int (a3)] = [(0, .ref (10)), (1, va_rf (a1)), (2, .int (a2)), (3, .int (a3))] from by cases a1 <;> rfl]
  refine zx_aload_n (pc := 0) G (some (10)) 0 rfl rfl (z_dec T_X7_read_ok 0 (0, .aload_n 0, 1) rfl) ?_
  refine zx_aload_n (pc := 1) G (a1) 1 rfl rfl (z_dec T_X7_read_ok 1 (1, .aload_n 1, 1) rfl) ?_
  refine zx_putR (pc := 2) G (a1) gf_RX7_15 cf_7 rfl rfl h_o (z_dec T_X7_read_ok 2 (2, .putfield 15, 3) rfl) ?_
  have hI1 := z_I_rt hI h_o (w := (a1)) h_a1
  refine zx_aload_n (pc := 5) G (some (10)) 0 rfl rfl (z_dec T_X7_read_ok 3 (5, .aload_n 0, 1) rfl) ?_
  refine zx_iload_n (pc := 6) G 2 rfl rfl (z_dec T_X7_read_ok 4 (6, .iload_n 2, 1) rfl) ?_
  refine zx_putI (pc := 7) G gf_RX7_19 cf_7 rfl rfl h_o (z_dec T_X7_read_ok 5 (7, .putfield 19, 3) rfl) ?_
  refine zx_aload_n (pc := 10) G (some (10)) 0 rfl rfl (z_dec T_X7_read_ok 6 (10, .aload_n 0, 1) rfl) ?_
  refine zx_iconst (pc := 11) (v := 0) G (z_dec T_X7_read_ok 7 (11, .iconst 0, 1) rfl) rfl ?_
  refine zx_putI (pc := 12) G gf_RX7_23 cf_7 rfl rfl h_o (z_dec T_X7_read_ok 8 (12, .putfield 23, 3) rfl) ?_
  refine zx_aload_n (pc := 15) G (some (10)) 0 rfl rfl (z_dec T_X7_read_ok 9 (15, .aload_n 0, 1) rfl) ?_
  refine zx_iconst (pc := 16) (v := -1) G (z_dec T_X7_read_ok 10 (16, .iconst (-1), 1) rfl) rfl ?_
  refine zx_putI (pc := 17) G gf_RX7_26 cf_7 rfl rfl h_o (z_dec T_X7_read_ok 11 (17, .putfield 26, 3) rfl) ?_
  refine zx_aload_n (pc := 20) G (some (10)) 0 rfl rfl (z_dec T_X7_read_ok 12 (20, .aload_n 0, 1) rfl) ?_
  refine zx_callV_vN (pc := 21) (rm := rm_X7_advance) G cw_RX7_29 ⟨Nat.le_of_ble_eq_true rfl, Nat.le_of_ble_eq_true rfl⟩ rfl rfl ⟨Nat.zero_le _, Nat.zero_le _⟩ h_o rfl (fun sz => (met_X7_advance l D ρ kd (sr q 10 1 (a1)) (si (si (si μ 10 2 a2) 10 6 ((0 : Int32))) 10 3 ((-1 : Int32))) sz  _ hI1 h_o h)) rfl rfl (Nat.le_of_ble_eq_true rfl) (z_dec T_X7_read_ok 13 (21, .invokevirtual 29, 3) rfl) (fun μ2 hn => ?_)
  clear h
  have h := hn
  clear hn
  refine zx_iconst (pc := 24) (v := 0) G (z_dec T_X7_read_ok 14 (24, .iconst 0, 1) rfl) rfl ?_
  refine zx_istore (pc := 25) (lv' := [(4, .int ((0 : Int32))), (0, .ref (10)), (1, va_rf (a1)), (2, .int (a2)), (3, .int (a3))]) G (Nat.le_of_ble_eq_true rfl) rfl (z_dec T_X7_read_ok 15 (25, .istore 4, 2) rfl) ?_
  refine zx_iconst (pc := 27) (v := 0) G (z_dec T_X7_read_ok 16 (27, .iconst 0, 1) rfl) rfl ?_
  refine zx_istore (pc := 28) (lv' := [(5, .int ((0 : Int32))), (4, .int ((0 : Int32))), (0, .ref (10)), (1, va_rf (a1)), (2, .int (a2)), (3, .int (a3))]) G (Nat.le_of_ble_eq_true rfl) rfl (z_dec T_X7_read_ok 17 (28, .istore 5, 2) rfl) ?_
  refine zx_sub (lv' := [(0, .ref (10)), (3, .int (a3)), (4, .int ((0 : Int32))), (5, .int ((0 : Int32)))]) [2, 5, 1, 0] rfl ?_
  exact L_X7_read_30_ok G hr hlk hI1 h_o h_a3 h
abbrev rm_X8_setBettor : Room := { frames := 0, cells := 0, slots := 0, locals := 0 }
set_option maxRecDepth 100000 in
set_option maxHeartbeats 4000000 in
theorem met_X8_setBettor (l : Launch) (D : va_G) (ρ : z_A) (kd : z_K) (q : z_Q) (μ : z_M) (sz : Nat) (a1 : Int32) (a2 : Int32) (a3 : Int32) (K : z_M → Prop) (hI : z_I kd q) (h_o : kd 9 = some (.inl 8)) (h : C_X8_setBettor kd q a1 a2 a3 μ K) : Met l yX8_setBettor (z_ws yX8_setBettor cX8_setBettor 4 (Option.none : Option Jvm.ClassFile.FieldType)) rm_X8_setBettor (z_Pc D ρ kd q μ sz [.ref (9), .int (a1), .int (a2), .int (a3)]) (z_Qn D (z_Rg ρ sz) ρ kd (z_Kv q K)) 0 0 (z_Rg ρ sz) := by
  refine z_met (rm := rm_X8_setBettor) (by decide) (Nat.le_of_ble_eq_true rfl) (fun p e s m args below meth c G hr hlk => ?_)
  unfold C_X8_setBettor at h
  show z_X _ _ _ _ _ _ _ _ _ _ _ _ _ _ _ _ _ _ _ _ _ [(0, .ref (9)), (1, .int (a1)), (2, .int (a2)), (3, .int (a3))] _
  refine zx_aload_n (pc := 0) G (some (9)) 0 rfl rfl (z_dec T_X8_setBettor_ok 0 (0, .aload_n 0, 1) rfl) ?_
  refine zx_iload_n (pc := 1) G 1 rfl rfl (z_dec T_X8_setBettor_ok 1 (1, .iload_n 1, 1) rfl) ?_
  refine zx_putI (pc := 2) G gf_RX8_15 cf_8 rfl rfl h_o (z_dec T_X8_setBettor_ok 2 (2, .putfield 15, 3) rfl) ?_
  refine zx_aload_n (pc := 5) G (some (9)) 0 rfl rfl (z_dec T_X8_setBettor_ok 3 (5, .aload_n 0, 1) rfl) ?_
  refine zx_iload_n (pc := 6) G 2 rfl rfl (z_dec T_X8_setBettor_ok 4 (6, .iload_n 2, 1) rfl) ?_
  refine zx_putI (pc := 7) G gf_RX8_19 cf_8 rfl rfl h_o (z_dec T_X8_setBettor_ok 5 (7, .putfield 19, 3) rfl) ?_
  refine zx_aload_n (pc := 10) G (some (9)) 0 rfl rfl (z_dec T_X8_setBettor_ok 6 (10, .aload_n 0, 1) rfl) ?_
  refine zx_iload_n (pc := 11) G 3 rfl rfl (z_dec T_X8_setBettor_ok 7 (11, .iload_n 3, 1) rfl) ?_
  refine zx_putI (pc := 12) G gf_RX8_22 cf_8 rfl rfl h_o (z_dec T_X8_setBettor_ok 8 (12, .putfield 22, 3) rfl) ?_
  exact zx_vret (pc := 15) G hr hlk (Nat.le_refl _) (Nat.le_refl _) (z_dec T_X8_setBettor_ok 9 (15, .return_, 1) rfl) ⟨rfl, rfl, h⟩
