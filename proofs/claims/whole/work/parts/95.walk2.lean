abbrev rm_X11_purse : Room := { frames := 4, cells := 0, slots := 0, locals := 93 }
set_option maxRecDepth 100000 in
set_option maxHeartbeats 4000000 in
theorem met_X11_purse (l : Launch) (D : va_G) (ρ : z_A) (kd : z_K) (q : z_Q) (μ : z_M) (sz : Nat) (a1 : Int32) (a2 : Int32) (a3 : Int32) (K : Int32 → z_M → Prop) (hI : z_I kd q) (h_o : kd 0 = some (.inl 11)) (h : C_X11_purse kd q a1 a2 a3 μ K) : Met l yX11_purse (z_ws yX11_purse cX11_purse 4 (Option.some Jvm.ClassFile.FieldType.int)) rm_X11_purse (z_Pc D ρ kd q μ sz [.ref (0), .int (a1), .int (a2), .int (a3)]) (z_Qn D (z_Rg ρ sz) ρ kd (z_Ki q K)) 0 0 (z_Rg ρ sz) := by
  refine z_met (rm := rm_X11_purse) (by decide) (Nat.le_of_ble_eq_true rfl) (fun p e s m args below meth c G hr hlk => ?_)
  unfold C_X11_purse at h
  show z_X _ _ _ _ _ _ _ _ _ _ _ _ _ _ _ _ _ _ _ _ _ [(0, .ref (0)), (1, .int (a1)), (2, .int (a2)), (3, .int (a3))] _
  refine zx_iload_n (pc := 0) G 1 rfl rfl (z_dec T_X11_purse_ok 0 (0, .iload_n 1, 1) rfl) ?_
  refine zx_callS_zN (pc := 1) (rm := rm_X11_isBettor) G cw_RX11_336 ⟨Nat.le_of_ble_eq_true rfl, Nat.le_of_ble_eq_true rfl⟩ rfl rfl ⟨Nat.zero_le _, Nat.zero_le _⟩ (fun sz => (met_X11_isBettor l D ρ kd q μ sz a1 _ hI h)) rfl rfl (Nat.le_of_ble_eq_true rfl) (z_dec T_X11_purse_ok 1 (1, .invokestatic 336, 3) rfl) (fun r2 μ1 hzr2 hn => ?_)
  clear h
  have h := hn
  clear hn
  refine zx_if_eq (pc := 4) (tgt := 15) G rfl (z_dec T_X11_purse_ok 2 (4, .ifCond .eq 11, 3) rfl) (fun hc => ?_) (fun hc => ?_)
  · replace h := z_pos hc h
    refine zx_iconst (pc := 15) (v := -1) G (z_dec T_X11_purse_ok 7 (15, .iconst (-1), 1) rfl) rfl ?_
    exact zx_iret (pc := 16) G hr hlk (Nat.le_refl _) (Nat.le_refl _) (z_dec T_X11_purse_ok 8 (16, .ireturn, 1) rfl) ⟨rfl, _, rfl, h⟩
  · replace h := z_neg hc h
    refine zx_iload_n (pc := 7) G 2 rfl rfl (z_dec T_X11_purse_ok 3 (7, .iload_n 2, 1) rfl) ?_
    refine zx_iload_n (pc := 8) G 3 rfl rfl (z_dec T_X11_purse_ok 4 (8, .iload_n 3, 1) rfl) ?_
    refine zx_callS_zN (pc := 9) (rm := rm_X11_isCompany) G cw_RX11_356 ⟨Nat.le_of_ble_eq_true rfl, Nat.le_of_ble_eq_true rfl⟩ rfl rfl ⟨Nat.zero_le _, Nat.zero_le _⟩ (fun sz => (met_X11_isCompany l D ρ kd q μ1 sz a2 a3 _ hI h)) rfl rfl (Nat.le_of_ble_eq_true rfl) (z_dec T_X11_purse_ok 5 (9, .invokestatic 356, 3) rfl) (fun r4 μ3 hzr4 hn => ?_)
    clear h
    have h := hn
    clear hn
    refine zx_if_ne (pc := 12) (tgt := 17) G rfl (z_dec T_X11_purse_ok 6 (12, .ifCond .ne 5, 3) rfl) (fun hc => ?_) (fun hc => ?_)
    · replace h := z_neg hc h
      refine zx_aload_n (pc := 17) G (some (0)) 0 rfl rfl (z_dec T_X11_purse_ok 9 (17, .aload_n 0, 1) rfl) ?_
      refine zx_iload_n (pc := 18) G 3 rfl rfl (z_dec T_X11_purse_ok 10 (18, .iload_n 3, 1) rfl) ?_
      refine zx_callV_vN (pc := 19) (rm := rm_X11_meet) G cw_RX11_360 ⟨Nat.le_of_ble_eq_true rfl, Nat.le_of_ble_eq_true rfl⟩ rfl rfl ⟨Nat.zero_le _, Nat.zero_le _⟩ h_o rfl (fun sz => (met_X11_meet l D ρ kd q μ3 sz a3 _ hI h_o h)) rfl rfl (Nat.le_of_ble_eq_true rfl) (z_dec T_X11_purse_ok 11 (19, .invokevirtual 360, 3) rfl) (fun μ5 hn => ?_)
      clear h
      have h := hn
      clear hn
      refine zx_aload_n (pc := 22) G (some (0)) 0 rfl rfl (z_dec T_X11_purse_ok 12 (22, .aload_n 0, 1) rfl) ?_
      refine zx_iload_n (pc := 23) G 1 rfl rfl (z_dec T_X11_purse_ok 13 (23, .iload_n 1, 1) rfl) ?_
      refine zx_iload_n (pc := 24) G 2 rfl rfl (z_dec T_X11_purse_ok 14 (24, .iload_n 2, 1) rfl) ?_
      refine zx_callV_iN (pc := 25) (rm := rm_X11_allWith) G cw_RX11_367 ⟨Nat.le_of_ble_eq_true rfl, Nat.le_of_ble_eq_true rfl⟩ rfl rfl ⟨Nat.zero_le _, Nat.zero_le _⟩ h_o rfl (fun sz => (met_X11_allWith l D ρ kd q μ5 sz a1 a2 _ hI h_o h)) rfl rfl (Nat.le_of_ble_eq_true rfl) (z_dec T_X11_purse_ok 15 (25, .invokevirtual 367, 3) rfl) (fun r7 μ6 hn => ?_)
      clear h
      have h := hn
      clear hn
      exact zx_iret (pc := 28) G hr hlk (Nat.le_refl _) (Nat.le_refl _) (z_dec T_X11_purse_ok 16 (28, .ireturn, 1) rfl) ⟨rfl, _, rfl, h⟩
    · replace h := z_pos hc h
      refine zx_iconst (pc := 15) (v := -1) G (z_dec T_X11_purse_ok 7 (15, .iconst (-1), 1) rfl) rfl ?_
      exact zx_iret (pc := 16) G hr hlk (Nat.le_refl _) (Nat.le_refl _) (z_dec T_X11_purse_ok 8 (16, .ireturn, 1) rfl) ⟨rfl, _, rfl, h⟩
abbrev rm_X11_isTold : Room := { frames := 2, cells := 0, slots := 0, locals := 42 }
set_option maxRecDepth 100000 in
set_option maxHeartbeats 4000000 in
theorem met_X11_isTold (l : Launch) (D : va_G) (ρ : z_A) (kd : z_K) (q : z_Q) (μ : z_M) (sz : Nat) (a1 : Option Nat) (K : Int32 → z_M → Prop) (hI : z_I kd q) (h_o : kd 0 = some (.inl 11)) (h_a1 : ∀ a, a1 = some a → kd a = some (.inl 0)) (h : C_X11_isTold kd q a1 μ K) : Met l yX11_isTold (z_ws yX11_isTold cX11_isTold 3 (Option.some Jvm.ClassFile.FieldType.boolean)) rm_X11_isTold (z_Pc D ρ kd q μ sz [.ref (0), va_rf (a1)]) (z_Qn D (z_Rg ρ sz) ρ kd (z_Kz q K)) 0 0 (z_Rg ρ sz) := by
  refine z_met (rm := rm_X11_isTold) (by decide) (by cases a1 <;> exact Nat.le_of_ble_eq_true rfl) (fun p e s m args below meth c G hr hlk => ?_)
  unfold C_X11_isTold at h
  rw [show lv_args 0 [.ref (0), va_rf (a1)] = [(0, .ref (0)), (1, va_rf (a1))] from by cases a1 <;> rfl]
  refine zx_aload_n (pc := 0) G (some (0)) 0 rfl rfl (z_dec T_X11_isTold_ok 0 (0, .aload_n 0, 1) rfl) ?_
  refine zx_aload_n (pc := 1) G (a1) 1 rfl rfl (z_dec T_X11_isTold_ok 1 (1, .aload_n 1, 1) rfl) ?_
  obtain ⟨o1, rfl, h⟩ := h
  refine zx_getI (pc := 2) G gf_RX11_439 rfl (h_a1 o1 rfl) (z_dec T_X11_isTold_ok 2 (2, .getfield 439, 3) rfl) ?_
  refine zx_callV_rN (pc := 5) (rm := rm_X11_raceAt) G cw_RX11_98 ⟨Nat.le_of_ble_eq_true rfl, Nat.le_of_ble_eq_true rfl⟩ rfl rfl ⟨Nat.zero_le _, Nat.zero_le _⟩ h_o rfl (fun sz => (met_X11_raceAt l D ρ kd q μ sz (μ.1 o1 7) _ hI h_o h)) rfl rfl (Nat.le_of_ble_eq_true rfl) (z_dec T_X11_isTold_ok 3 (5, .invokevirtual 98, 3) rfl) (fun r3 μ2 hfr3 hn => ?_)
  clear h
  have h := hn
  clear hn
  refine zx_astore_n (pc := 8) (lv' := [(2, va_rf (r3)), (0, .ref (0)), (1, .ref (o1))]) G (r3) rfl (Nat.le_of_ble_eq_true rfl) rfl (z_dec T_X11_isTold_ok 4 (8, .astore_n 2, 1) rfl) ?_
  refine zx_aload_n (pc := 9) G (some (o1)) 2 rfl rfl (z_dec T_X11_isTold_ok 5 (9, .aload_n 1, 1) rfl) ?_
  refine zx_callV_zN (pc := 10) (rm := rm_X0_isToWin) G cw_RX11_409 ⟨Nat.le_of_ble_eq_true rfl, Nat.le_of_ble_eq_true rfl⟩ rfl rfl ⟨Nat.zero_le _, Nat.zero_le _⟩ (h_a1 o1 rfl) rfl (fun sz => (met_X0_isToWin l D ρ kd q μ2 sz o1 _ hI (h_a1 o1 rfl) h)) rfl rfl (Nat.le_of_ble_eq_true rfl) (z_dec T_X11_isTold_ok 6 (10, .invokevirtual 409, 3) rfl) (fun r5 μ4 hzr5 hn => ?_)
  clear h
  have h := hn
  clear hn
  refine zx_if_eq (pc := 13) (tgt := 46) G rfl (z_dec T_X11_isTold_ok 7 (13, .ifCond .eq 33, 3) rfl) (fun hc => ?_) (fun hc => ?_)
  · replace h := z_pos hc h
    refine zx_iconst (pc := 46) (v := 0) G (z_dec T_X11_isTold_ok 22 (46, .iconst 0, 1) rfl) rfl ?_
    exact zx_zret (pc := 47) G hr hlk (Nat.le_refl _) (Nat.le_refl _) (Or.inl rfl) (z_dec T_X11_isTold_ok 23 (47, .ireturn, 1) rfl) ⟨rfl, _, rfl, (Or.inl rfl), h⟩
  · replace h := z_neg hc h
    refine zx_aload_n (pc := 16) G (r3) 0 rfl rfl (z_dec T_X11_isTold_ok 8 (16, .aload_n 2, 1) rfl) ?_
    obtain ⟨h1, h2⟩ := h
    rcases r3 with _ | o6
    · replace h := h1 rfl
      refine zx_ifnullN (pc := 17) (tgt := 46) G rfl (z_dec T_X11_isTold_ok 9 (17, .ifnull 29, 3) rfl) ?_
      refine zx_iconst (pc := 46) (v := 0) G (z_dec T_X11_isTold_ok 22 (46, .iconst 0, 1) rfl) rfl ?_
      exact zx_zret (pc := 47) G hr hlk (Nat.le_refl _) (Nat.le_refl _) (Or.inl rfl) (z_dec T_X11_isTold_ok 23 (47, .ireturn, 1) rfl) ⟨rfl, _, rfl, (Or.inl rfl), h⟩
    · replace h := h2 o6 rfl
      refine zx_ifnullS (pc := 17) G (hfr3 o6 rfl) (z_dec T_X11_isTold_ok 9 (17, .ifnull 29, 3) rfl) ?_
      refine zx_aload_n (pc := 20) G (some (o6)) 0 rfl rfl (z_dec T_X11_isTold_ok 10 (20, .aload_n 2, 1) rfl) ?_
      refine zx_getZ (pc := 21) G gf_RX11_159 rfl (hfr3 o6 rfl) (z_dec T_X11_isTold_ok 11 (21, .getfield 159, 3) rfl) ?_
      refine zx_if_eq (pc := 24) (tgt := 46) G rfl (z_dec T_X11_isTold_ok 12 (24, .ifCond .eq 22, 3) rfl) (fun hc => ?_) (fun hc => ?_)
      · replace h := z_pos hc h
        refine zx_iconst (pc := 46) (v := 0) G (z_dec T_X11_isTold_ok 22 (46, .iconst 0, 1) rfl) rfl ?_
        exact zx_zret (pc := 47) G hr hlk (Nat.le_refl _) (Nat.le_refl _) (Or.inl rfl) (z_dec T_X11_isTold_ok 23 (47, .ireturn, 1) rfl) ⟨rfl, _, rfl, (Or.inl rfl), h⟩
      · replace h := z_neg hc h
        refine zx_aload_n (pc := 27) G (some (o6)) 0 rfl rfl (z_dec T_X11_isTold_ok 13 (27, .aload_n 2, 1) rfl) ?_
        refine zx_aload_n (pc := 28) G (some (o1)) 2 rfl rfl (z_dec T_X11_isTold_ok 14 (28, .aload_n 1, 1) rfl) ?_
        refine zx_aload_n (pc := 29) G (some (o1)) 2 rfl rfl (z_dec T_X11_isTold_ok 15 (29, .aload_n 1, 1) rfl) ?_
        refine zx_getI (pc := 30) G gf_RX11_439 rfl (h_a1 o1 rfl) (z_dec T_X11_isTold_ok 16 (30, .getfield 439, 3) rfl) ?_
        refine zx_callV_iN (pc := 33) (rm := rm_X0_horseIn) G cw_RX11_223 ⟨Nat.le_of_ble_eq_true rfl, Nat.le_of_ble_eq_true rfl⟩ rfl rfl ⟨Nat.zero_le _, Nat.zero_le _⟩ (h_a1 o1 rfl) rfl (fun sz => (met_X0_horseIn l D ρ kd q μ4 sz o1 (μ4.1 o1 7) _ hI (h_a1 o1 rfl) h)) rfl rfl (Nat.le_of_ble_eq_true rfl) (z_dec T_X11_isTold_ok 17 (33, .invokevirtual 223, 3) rfl) (fun r8 μ7 hn => ?_)
        clear h
        have h := hn
        clear hn
        refine zx_callV_zN (pc := 36) (rm := rm_X6_isGone) G cw_RX11_449 ⟨Nat.le_of_ble_eq_true rfl, Nat.le_of_ble_eq_true rfl⟩ rfl rfl ⟨Nat.zero_le _, Nat.zero_le _⟩ (hfr3 o6 rfl) rfl (fun sz => (met_X6_isGone l D ρ kd q μ7 sz o6 r8 _ hI (hfr3 o6 rfl) h)) rfl rfl (Nat.le_of_ble_eq_true rfl) (z_dec T_X11_isTold_ok 18 (36, .invokevirtual 449, 3) rfl) (fun r10 μ9 hzr10 hn => ?_)
        clear h
        have h := hn
        clear hn
        refine zx_if_ne (pc := 39) (tgt := 46) G rfl (z_dec T_X11_isTold_ok 19 (39, .ifCond .ne 7, 3) rfl) (fun hc => ?_) (fun hc => ?_)
        · replace h := z_neg hc h
          refine zx_iconst (pc := 46) (v := 0) G (z_dec T_X11_isTold_ok 22 (46, .iconst 0, 1) rfl) rfl ?_
          exact zx_zret (pc := 47) G hr hlk (Nat.le_refl _) (Nat.le_refl _) (Or.inl rfl) (z_dec T_X11_isTold_ok 23 (47, .ireturn, 1) rfl) ⟨rfl, _, rfl, (Or.inl rfl), h⟩
        · replace h := z_pos hc h
          refine zx_iconst (pc := 42) (v := 1) G (z_dec T_X11_isTold_ok 20 (42, .iconst 1, 1) rfl) rfl ?_
          refine zx_goto (pc := 43) (tgt := 47) G rfl (z_dec T_X11_isTold_ok 21 (43, .goto 4, 3) rfl) ?_
          exact zx_zret (pc := 47) G hr hlk (Nat.le_refl _) (Nat.le_refl _) (Or.inr rfl) (z_dec T_X11_isTold_ok 23 (47, .ireturn, 1) rfl) ⟨rfl, _, rfl, (Or.inr rfl), h⟩
abbrev rm_X11_stoodShorterAtLast : Room := { frames := 1, cells := 0, slots := 0, locals := 21 }
set_option maxRecDepth 100000 in
set_option maxHeartbeats 4000000 in
theorem met_X11_stoodShorterAtLast (l : Launch) (D : va_G) (ρ : z_A) (kd : z_K) (q : z_Q) (μ : z_M) (sz : Nat) (a1 : Option Nat) (K : Int32 → z_M → Prop) (hI : z_I kd q) (h_o : kd 0 = some (.inl 11)) (h_a1 : ∀ a, a1 = some a → kd a = some (.inl 0)) (h : C_X11_stoodShorterAtLast kd q a1 μ K) : Met l yX11_stoodShorterAtLast (z_ws yX11_stoodShorterAtLast cX11_stoodShorterAtLast 5 (Option.some Jvm.ClassFile.FieldType.boolean)) rm_X11_stoodShorterAtLast (z_Pc D ρ kd q μ sz [.ref (0), va_rf (a1)]) (z_Qn D (z_Rg ρ sz) ρ kd (z_Kz q K)) 0 0 (z_Rg ρ sz) := by
  refine z_met (rm := rm_X11_stoodShorterAtLast) (by decide) (by cases a1 <;> exact Nat.le_of_ble_eq_true rfl) (fun p e s m args below meth c G hr hlk => ?_)
  unfold C_X11_stoodShorterAtLast at h
  rw [show lv_args 0 [.ref (0), va_rf (a1)] = [(0, .ref (0)), (1, va_rf (a1))] from by cases a1 <;> rfl]
  refine zx_aload_n (pc := 0) G (some (0)) 0 rfl rfl (z_dec T_X11_stoodShorterAtLast_ok 0 (0, .aload_n 0, 1) rfl) ?_
  refine zx_aload_n (pc := 1) G (a1) 1 rfl rfl (z_dec T_X11_stoodShorterAtLast_ok 1 (1, .aload_n 1, 1) rfl) ?_
  obtain ⟨o1, rfl, h⟩ := h
  refine zx_getI (pc := 2) G gf_RX11_395 rfl (h_a1 o1 rfl) (z_dec T_X11_stoodShorterAtLast_ok 2 (2, .getfield 395, 3) rfl) ?_
  refine zx_callV_rN (pc := 5) (rm := rm_X11_bookAt) G cw_RX11_141 ⟨Nat.le_of_ble_eq_true rfl, Nat.le_of_ble_eq_true rfl⟩ rfl rfl ⟨Nat.zero_le _, Nat.zero_le _⟩ h_o rfl (fun sz => (met_X11_bookAt l D ρ kd q μ sz (μ.1 o1 1) _ hI h_o h)) rfl rfl (Nat.le_of_ble_eq_true rfl) (z_dec T_X11_stoodShorterAtLast_ok 3 (5, .invokevirtual 141, 3) rfl) (fun r3 μ2 hfr3 hn => ?_)
  clear h
  have h := hn
  clear hn
  refine zx_astore_n (pc := 8) (lv' := [(2, va_rf (r3)), (0, .ref (0)), (1, .ref (o1))]) G (r3) rfl (Nat.le_of_ble_eq_true rfl) rfl (z_dec T_X11_stoodShorterAtLast_ok 4 (8, .astore_n 2, 1) rfl) ?_
  refine zx_aload_n (pc := 9) G (some (o1)) 2 rfl rfl (z_dec T_X11_stoodShorterAtLast_ok 5 (9, .aload_n 1, 1) rfl) ?_
  refine zx_aload_n (pc := 10) G (some (o1)) 2 rfl rfl (z_dec T_X11_stoodShorterAtLast_ok 6 (10, .aload_n 1, 1) rfl) ?_
  refine zx_getI (pc := 11) G gf_RX11_439 rfl (h_a1 o1 rfl) (z_dec T_X11_stoodShorterAtLast_ok 7 (11, .getfield 439, 3) rfl) ?_
  refine zx_callV_iN (pc := 14) (rm := rm_X0_horseIn) G cw_RX11_223 ⟨Nat.le_of_ble_eq_true rfl, Nat.le_of_ble_eq_true rfl⟩ rfl rfl ⟨Nat.zero_le _, Nat.zero_le _⟩ (h_a1 o1 rfl) rfl (fun sz => (met_X0_horseIn l D ρ kd q μ2 sz o1 (μ2.1 o1 7) _ hI (h_a1 o1 rfl) h)) rfl rfl (Nat.le_of_ble_eq_true rfl) (z_dec T_X11_stoodShorterAtLast_ok 8 (14, .invokevirtual 223, 3) rfl) (fun r5 μ4 hn => ?_)
  clear h
  have h := hn
  clear hn
  refine zx_istore_n (pc := 17) (lv' := [(3, .int (r5)), (2, va_rf (r3)), (0, .ref (0)), (1, .ref (o1))]) G rfl (Nat.le_of_ble_eq_true rfl) (by cases r3 <;> rfl) (z_dec T_X11_stoodShorterAtLast_ok 9 (17, .istore_n 3, 1) rfl) ?_
  refine zx_aload_n (pc := 18) G (r3) 1 rfl rfl (z_dec T_X11_stoodShorterAtLast_ok 10 (18, .aload_n 2, 1) rfl) ?_
  obtain ⟨h1, h2⟩ := h
  rcases r3 with _ | o6
  · replace h := h1 rfl
    refine zx_ifnullN (pc := 19) (tgt := 27) G rfl (z_dec T_X11_stoodShorterAtLast_ok 11 (19, .ifnull 8, 3) rfl) ?_
    refine zx_iconst (pc := 27) (v := 0) G (z_dec T_X11_stoodShorterAtLast_ok 15 (27, .iconst 0, 1) rfl) rfl ?_
    exact zx_zret (pc := 28) G hr hlk (Nat.le_refl _) (Nat.le_refl _) (Or.inl rfl) (z_dec T_X11_stoodShorterAtLast_ok 16 (28, .ireturn, 1) rfl) ⟨rfl, _, rfl, (Or.inl rfl), h⟩
  · replace h := h2 o6 rfl
    refine zx_ifnullS (pc := 19) G (hfr3 o6 rfl) (z_dec T_X11_stoodShorterAtLast_ok 11 (19, .ifnull 8, 3) rfl) ?_
    refine zx_iload_n (pc := 22) G 0 rfl rfl (z_dec T_X11_stoodShorterAtLast_ok 12 (22, .iload_n 3, 1) rfl) ?_
    refine zx_iconst (pc := 23) (v := -1) G (z_dec T_X11_stoodShorterAtLast_ok 13 (23, .iconst (-1), 1) rfl) rfl ?_
    refine zx_icmp_ne (pc := 24) (tgt := 29) G rfl (z_dec T_X11_stoodShorterAtLast_ok 14 (24, .if_icmp .ne 5, 3) rfl) (fun hc => ?_) (fun hc => ?_)
    · replace h := z_neg hc h
      refine zx_aload_n (pc := 29) G (some (o6)) 1 rfl rfl (z_dec T_X11_stoodShorterAtLast_ok 17 (29, .aload_n 2, 1) rfl) ?_
      refine zx_getF (pc := 30) (b := o6 + 1) G gf_RX11_166 rfl (hfr3 o6 rfl) (zq_1_3 hI (hfr3 o6 rfl)) (z_dec T_X11_stoodShorterAtLast_ok 18 (30, .getfield 166, 3) rfl) ?_
      refine zx_aload_n (pc := 33) G (some (o1)) 3 rfl rfl (z_dec T_X11_stoodShorterAtLast_ok 19 (33, .aload_n 1, 1) rfl) ?_
      refine zx_getI (pc := 34) G gf_RX11_439 rfl (h_a1 o1 rfl) (z_dec T_X11_stoodShorterAtLast_ok 20 (34, .getfield 439, 3) rfl) ?_
      refine zx_iload_n (pc := 37) G 0 rfl rfl (z_dec T_X11_stoodShorterAtLast_ok 21 (37, .iload_n 3, 1) rfl) ?_
      refine zx_callS_iN (pc := 38) (rm := rm_X11_spot) G cw_RX11_168 ⟨Nat.le_of_ble_eq_true rfl, Nat.le_of_ble_eq_true rfl⟩ rfl rfl ⟨Nat.zero_le _, Nat.zero_le _⟩ (fun sz => (met_X11_spot l D ρ kd q μ4 sz (μ4.1 o1 7) r5 _ hI h)) rfl rfl (Nat.le_of_ble_eq_true rfl) (z_dec T_X11_stoodShorterAtLast_ok 22 (38, .invokestatic 168, 3) rfl) (fun r8 μ7 hn => ?_)
      clear h
      have h := hn
      clear hn
      obtain ⟨c9, h⟩ := h
      refine zx_iald (pc := 41) G (zk_1_3 hI (hfr3 o6 rfl)) c9 (z_dec T_X11_stoodShorterAtLast_ok 23 (41, .iaload, 1) rfl) ?_
      refine zx_istore (pc := 42) (lv' := [(4, .int (μ7.1 (o6 + 1) r8.toNatClampNeg)), (3, .int (r5)), (2, .ref (o6)), (0, .ref (0)), (1, .ref (o1))]) G (Nat.le_of_ble_eq_true rfl) rfl (z_dec T_X11_stoodShorterAtLast_ok 24 (42, .istore 4, 2) rfl) ?_
      refine zx_iload (pc := 44) G 0 rfl (z_dec T_X11_stoodShorterAtLast_ok 25 (44, .iload 4, 2) rfl) ?_
      refine zx_iconst (pc := 46) (v := -1) G (z_dec T_X11_stoodShorterAtLast_ok 26 (46, .iconst (-1), 1) rfl) rfl ?_
      refine zx_icmp_eq (pc := 47) (tgt := 67) G rfl (z_dec T_X11_stoodShorterAtLast_ok 27 (47, .if_icmp .eq 20, 3) rfl) (fun hc => ?_) (fun hc => ?_)
      · replace h := z_pos hc h
        refine zx_iconst (pc := 67) (v := 0) G (z_dec T_X11_stoodShorterAtLast_ok 36 (67, .iconst 0, 1) rfl) rfl ?_
        exact zx_zret (pc := 68) G hr hlk (Nat.le_refl _) (Nat.le_refl _) (Or.inl rfl) (z_dec T_X11_stoodShorterAtLast_ok 37 (68, .ireturn, 1) rfl) ⟨rfl, _, rfl, (Or.inl rfl), h⟩
      · replace h := z_neg hc h
        refine zx_aload_n (pc := 50) G (some (o1)) 4 rfl rfl (z_dec T_X11_stoodShorterAtLast_ok 28 (50, .aload_n 1, 1) rfl) ?_
        refine zx_aload_n (pc := 51) G (some (o1)) 4 rfl rfl (z_dec T_X11_stoodShorterAtLast_ok 29 (51, .aload_n 1, 1) rfl) ?_
        refine zx_getI (pc := 52) G gf_RX11_439 rfl (h_a1 o1 rfl) (z_dec T_X11_stoodShorterAtLast_ok 30 (52, .getfield 439, 3) rfl) ?_
        refine zx_callV_iN (pc := 55) (rm := rm_X0_stepIn) G cw_RX11_412 ⟨Nat.le_of_ble_eq_true rfl, Nat.le_of_ble_eq_true rfl⟩ rfl rfl ⟨Nat.zero_le _, Nat.zero_le _⟩ (h_a1 o1 rfl) rfl (fun sz => (met_X0_stepIn l D ρ kd q μ7 sz o1 (μ7.1 o1 7) _ hI (h_a1 o1 rfl) h)) rfl rfl (Nat.le_of_ble_eq_true rfl) (z_dec T_X11_stoodShorterAtLast_ok 31 (55, .invokevirtual 412, 3) rfl) (fun r11 μ10 hn => ?_)
        clear h
        have h := hn
        clear hn
        refine zx_iload (pc := 58) G 0 rfl (z_dec T_X11_stoodShorterAtLast_ok 32 (58, .iload 4, 2) rfl) ?_
        refine zx_icmp_le (pc := 60) (tgt := 67) G rfl (z_dec T_X11_stoodShorterAtLast_ok 33 (60, .if_icmp .le 7, 3) rfl) (fun hc => ?_) (fun hc => ?_)
        · replace h := z_pos hc h
          refine zx_iconst (pc := 67) (v := 0) G (z_dec T_X11_stoodShorterAtLast_ok 36 (67, .iconst 0, 1) rfl) rfl ?_
          exact zx_zret (pc := 68) G hr hlk (Nat.le_refl _) (Nat.le_refl _) (Or.inl rfl) (z_dec T_X11_stoodShorterAtLast_ok 37 (68, .ireturn, 1) rfl) ⟨rfl, _, rfl, (Or.inl rfl), h⟩
        · replace h := z_neg hc h
          refine zx_iconst (pc := 63) (v := 1) G (z_dec T_X11_stoodShorterAtLast_ok 34 (63, .iconst 1, 1) rfl) rfl ?_
          refine zx_goto (pc := 64) (tgt := 68) G rfl (z_dec T_X11_stoodShorterAtLast_ok 35 (64, .goto 4, 3) rfl) ?_
          exact zx_zret (pc := 68) G hr hlk (Nat.le_refl _) (Nat.le_refl _) (Or.inr rfl) (z_dec T_X11_stoodShorterAtLast_ok 37 (68, .ireturn, 1) rfl) ⟨rfl, _, rfl, (Or.inr rfl), h⟩
    · replace h := z_pos hc h
      refine zx_iconst (pc := 27) (v := 0) G (z_dec T_X11_stoodShorterAtLast_ok 15 (27, .iconst 0, 1) rfl) rfl ?_
      exact zx_zret (pc := 28) G hr hlk (Nat.le_refl _) (Nat.le_refl _) (Or.inl rfl) (z_dec T_X11_stoodShorterAtLast_ok 16 (28, .ireturn, 1) rfl) ⟨rfl, _, rfl, (Or.inl rfl), h⟩
abbrev rm_X11_knew : Room := { frames := 3, cells := 0, slots := 0, locals := 64 }
set_option maxRecDepth 100000 in
set_option maxHeartbeats 4000000 in
theorem B_X11_knew_26_ok {p : Program} {l : Launch} {e : Env} {s : State} {m : MethodId} {args : Array Value} {below : List Frame} {meth : Method} {c : Code} {D : va_G} {A : Nat → Prop} {ρ : z_A} {kd : z_K} {q : z_Q} {μ : z_M} {K : Int32 → z_M → Prop} {P26 : Int32 → Int32 → Int32 → Int32 → Int32 → z_M → Prop} {v1 : Int32} {v2 : Int32} {v3 : Int32} {v4 : Int32} {v5 : Int32} (G : z_G p c cX11_knew s m args RX11 7 D) (hr : meth.sig.returnType = (Option.some Jvm.ClassFile.FieldType.int)) (hlk : meth.locks = false) (hP26 : ∀ (v1 : Int32) (v2 : Int32) (v3 : Int32) (v4 : Int32) (v5 : Int32) (μ : z_M), P26 v1 v2 v3 v4 v5 μ → (kd 0 = some (.inl 11)) → z_X p l e rm_X11_knew s m args below meth c 7 D A (MQ below (z_Qn D A ρ kd (z_Ki q K)) args s 0 0 A) 0 0 ρ kd q μ 26 [(0, .ref (0)), (1, .int (v1)), (2, .int (v2)), (3, .int (v3)), (4, .int (v4)), (5, .int (v5))] []) (hI : z_I kd q) (f_l0 : kd 0 = some (.inl 11)) (h : B_X11_knew_26 kd q K P26 v1 v2 v3 v4 v5 μ) : z_X p l e rm_X11_knew s m args below meth c 7 D A (MQ below (z_Qn D A ρ kd (z_Ki q K)) args s 0 0 A) 0 0 ρ kd q μ 26 [(0, .ref (0)), (1, .int (v1)), (2, .int (v2)), (3, .int (v3)), (4, .int (v4)), (5, .int (v5))] [] := by
    unfold B_X11_knew_26 at h
    refine zx_iload (pc := 26) G 5 rfl (z_dec T_X11_knew_ok 16 (26, .iload 5, 2) rfl) ?_
    refine zx_aload_n (pc := 28) G (some (0)) 0 rfl rfl (z_dec T_X11_knew_ok 17 (28, .aload_n 0, 1) rfl) ?_
    refine zx_getI (pc := 29) G gf_RX11_194 rfl f_l0 (z_dec T_X11_knew_ok 18 (29, .getfield 194, 3) rfl) ?_
    refine zx_icmp_ge (pc := 32) (tgt := 87) G rfl (z_dec T_X11_knew_ok 19 (32, .if_icmp .ge 55, 3) rfl) (fun hc => ?_) (fun hc => ?_)
    · replace h := z_pos hc h
      refine zx_iload_n (pc := 87) G 2 rfl rfl (z_dec T_X11_knew_ok 42 (87, .iload_n 2, 1) rfl) ?_
      refine zx_if_ne (pc := 88) (tgt := 95) G rfl (z_dec T_X11_knew_ok 43 (88, .ifCond .ne 7, 3) rfl) (fun hc => ?_) (fun hc => ?_)
      · replace h := z_neg hc h
        refine zx_iload (pc := 95) G 4 rfl (z_dec T_X11_knew_ok 46 (95, .iload 4, 2) rfl) ?_
        exact zx_iret (pc := 97) G hr hlk (Nat.le_refl _) (Nat.le_refl _) (z_dec T_X11_knew_ok 47 (97, .ireturn, 1) rfl) ⟨rfl, _, rfl, h⟩
      · replace h := z_pos hc h
        refine zx_iload_n (pc := 91) G 3 rfl rfl (z_dec T_X11_knew_ok 44 (91, .iload_n 3, 1) rfl) ?_
        refine zx_goto (pc := 92) (tgt := 97) G rfl (z_dec T_X11_knew_ok 45 (92, .goto 5, 3) rfl) ?_
        exact zx_iret (pc := 97) G hr hlk (Nat.le_refl _) (Nat.le_refl _) (z_dec T_X11_knew_ok 47 (97, .ireturn, 1) rfl) ⟨rfl, _, rfl, h⟩
    · replace h := z_neg hc h
      refine zx_aload_n (pc := 35) G (some (0)) 0 rfl rfl (z_dec T_X11_knew_ok 20 (35, .aload_n 0, 1) rfl) ?_
      refine zx_iload (pc := 36) G 5 rfl (z_dec T_X11_knew_ok 21 (36, .iload 5, 2) rfl) ?_
      refine zx_callV_rN (pc := 38) (rm := rm_X11_betAt) G cw_RX11_219 ⟨Nat.le_of_ble_eq_true rfl, Nat.le_of_ble_eq_true rfl⟩ rfl rfl ⟨Nat.zero_le _, Nat.zero_le _⟩ f_l0 rfl (fun sz => (met_X11_betAt l D ρ kd q μ sz v5 _ hI f_l0 h)) rfl rfl (Nat.le_of_ble_eq_true rfl) (z_dec T_X11_knew_ok 22 (38, .invokevirtual 219, 3) rfl) (fun r2 μ1 hfr2 hn => ?_)
      clear h
      have h := hn
      clear hn
      refine zx_astore (pc := 41) (lv' := [(6, va_rf (r2)), (0, .ref (0)), (1, .int (v1)), (2, .int (v2)), (3, .int (v3)), (4, .int (v4)), (5, .int (v5))]) G (r2) (Nat.le_of_ble_eq_true rfl) rfl (z_dec T_X11_knew_ok 23 (41, .astore 6, 2) rfl) ?_
      refine zx_aload (pc := 43) G (r2) 0 rfl (z_dec T_X11_knew_ok 24 (43, .aload 6, 2) rfl) ?_
      obtain ⟨h1, h2⟩ := h
      rcases r2 with _ | o3
      · replace h := h1 rfl
        refine zx_ifnullN (pc := 45) (tgt := 81) G rfl (z_dec T_X11_knew_ok 25 (45, .ifnull 36, 3) rfl) ?_
        refine zx_iinc (pc := 81) (v := v5 + 1) (lv' := [(5, .int (v5 + 1)), (6, va_rf (none)), (0, .ref (0)), (1, .int (v1)), (2, .int (v2)), (3, .int (v3)), (4, .int (v4))]) G 6 rfl (z_inc (by decide)) (Nat.le_of_ble_eq_true rfl) rfl (z_dec T_X11_knew_ok 40 (81, .iinc 5 1, 3) rfl) ?_
        refine zx_goto (pc := 84) (tgt := 26) G rfl (z_dec T_X11_knew_ok 41 (84, .goto (-58), 3) rfl) ?_
        refine zx_sub (lv' := [(0, .ref (0)), (1, .int (v1)), (2, .int (v2)), (3, .int (v3)), (4, .int (v4)), (5, .int (v5 + 1))]) [2, 3, 4, 5, 6, 0] rfl ?_
        exact hP26 _ _ _ _ _ _ h f_l0
      · replace h := h2 o3 rfl
        refine zx_ifnullS (pc := 45) G (hfr2 o3 rfl) (z_dec T_X11_knew_ok 25 (45, .ifnull 36, 3) rfl) ?_
        refine zx_aload (pc := 48) G (some (o3)) 0 rfl (z_dec T_X11_knew_ok 26 (48, .aload 6, 2) rfl) ?_
        refine zx_getI (pc := 50) G gf_RX11_370 rfl (hfr2 o3 rfl) (z_dec T_X11_knew_ok 27 (50, .getfield 370, 3) rfl) ?_
        refine zx_iload_n (pc := 53) G 2 rfl rfl (z_dec T_X11_knew_ok 28 (53, .iload_n 1, 1) rfl) ?_
        refine zx_icmp_ne (pc := 54) (tgt := 81) G rfl (z_dec T_X11_knew_ok 29 (54, .if_icmp .ne 27, 3) rfl) (fun hc => ?_) (fun hc => ?_)
        · replace h := z_neg hc h
          refine zx_iinc (pc := 81) (v := v5 + 1) (lv' := [(5, .int (v5 + 1)), (6, .ref (o3)), (0, .ref (0)), (1, .int (v1)), (2, .int (v2)), (3, .int (v3)), (4, .int (v4))]) G 6 rfl (z_inc (by decide)) (Nat.le_of_ble_eq_true rfl) rfl (z_dec T_X11_knew_ok 40 (81, .iinc 5 1, 3) rfl) ?_
          refine zx_goto (pc := 84) (tgt := 26) G rfl (z_dec T_X11_knew_ok 41 (84, .goto (-58), 3) rfl) ?_
          refine zx_sub (lv' := [(0, .ref (0)), (1, .int (v1)), (2, .int (v2)), (3, .int (v3)), (4, .int (v4)), (5, .int (v5 + 1))]) [2, 3, 4, 5, 6, 0] rfl ?_
          exact hP26 _ _ _ _ _ _ h f_l0
        · replace h := z_pos hc h
          refine zx_aload_n (pc := 57) G (some (0)) 1 rfl rfl (z_dec T_X11_knew_ok 30 (57, .aload_n 0, 1) rfl) ?_
          refine zx_aload (pc := 58) G (some (o3)) 0 rfl (z_dec T_X11_knew_ok 31 (58, .aload 6, 2) rfl) ?_
          refine zx_callV_zN (pc := 60) (rm := rm_X11_isTold) G cw_RX11_373 ⟨Nat.le_of_ble_eq_true rfl, Nat.le_of_ble_eq_true rfl⟩ rfl rfl ⟨Nat.zero_le _, Nat.zero_le _⟩ f_l0 rfl (fun sz => (met_X11_isTold l D ρ kd q μ1 sz (some o3) _ hI f_l0 (fun a ha => by cases ha; exact (hfr2 o3 rfl)) h)) rfl rfl (Nat.le_of_ble_eq_true rfl) (z_dec T_X11_knew_ok 32 (60, .invokevirtual 373, 3) rfl) (fun r5 μ4 hzr5 hn => ?_)
          clear h
          have h := hn
          clear hn
          refine zx_if_eq (pc := 63) (tgt := 81) G rfl (z_dec T_X11_knew_ok 33 (63, .ifCond .eq 18, 3) rfl) (fun hc => ?_) (fun hc => ?_)
          · replace h := z_pos hc h
            refine zx_iinc (pc := 81) (v := v5 + 1) (lv' := [(5, .int (v5 + 1)), (6, .ref (o3)), (0, .ref (0)), (1, .int (v1)), (2, .int (v2)), (3, .int (v3)), (4, .int (v4))]) G 6 rfl (z_inc (by decide)) (Nat.le_of_ble_eq_true rfl) rfl (z_dec T_X11_knew_ok 40 (81, .iinc 5 1, 3) rfl) ?_
            refine zx_goto (pc := 84) (tgt := 26) G rfl (z_dec T_X11_knew_ok 41 (84, .goto (-58), 3) rfl) ?_
            refine zx_sub (lv' := [(0, .ref (0)), (1, .int (v1)), (2, .int (v2)), (3, .int (v3)), (4, .int (v4)), (5, .int (v5 + 1))]) [2, 3, 4, 5, 6, 0] rfl ?_
            exact hP26 _ _ _ _ _ _ h f_l0
          · replace h := z_neg hc h
            refine zx_iinc (pc := 66) (v := v3 + 1) (lv' := [(3, .int (v3 + 1)), (6, .ref (o3)), (0, .ref (0)), (1, .int (v1)), (2, .int (v2)), (4, .int (v4)), (5, .int (v5))]) G 4 rfl (z_inc (by decide)) (Nat.le_of_ble_eq_true rfl) rfl (z_dec T_X11_knew_ok 34 (66, .iinc 3 1, 3) rfl) ?_
            refine zx_aload_n (pc := 69) G (some (0)) 2 rfl rfl (z_dec T_X11_knew_ok 35 (69, .aload_n 0, 1) rfl) ?_
            refine zx_aload (pc := 70) G (some (o3)) 1 rfl (z_dec T_X11_knew_ok 36 (70, .aload 6, 2) rfl) ?_
            refine zx_callV_zN (pc := 72) (rm := rm_X11_stoodShorterAtLast) G cw_RX11_376 ⟨Nat.le_of_ble_eq_true rfl, Nat.le_of_ble_eq_true rfl⟩ rfl rfl ⟨Nat.zero_le _, Nat.zero_le _⟩ f_l0 rfl (fun sz => (met_X11_stoodShorterAtLast l D ρ kd q μ4 sz (some o3) _ hI f_l0 (fun a ha => by cases ha; exact (hfr2 o3 rfl)) h)) rfl rfl (Nat.le_of_ble_eq_true rfl) (z_dec T_X11_knew_ok 37 (72, .invokevirtual 376, 3) rfl) (fun r7 μ6 hzr7 hn => ?_)
            clear h
            have h := hn
            clear hn
            refine zx_if_eq (pc := 75) (tgt := 81) G rfl (z_dec T_X11_knew_ok 38 (75, .ifCond .eq 6, 3) rfl) (fun hc => ?_) (fun hc => ?_)
            · replace h := z_pos hc h
              refine zx_iinc (pc := 81) (v := v5 + 1) (lv' := [(5, .int (v5 + 1)), (3, .int (v3 + 1)), (6, .ref (o3)), (0, .ref (0)), (1, .int (v1)), (2, .int (v2)), (4, .int (v4))]) G 6 rfl (z_inc (by decide)) (Nat.le_of_ble_eq_true rfl) rfl (z_dec T_X11_knew_ok 40 (81, .iinc 5 1, 3) rfl) ?_
              refine zx_goto (pc := 84) (tgt := 26) G rfl (z_dec T_X11_knew_ok 41 (84, .goto (-58), 3) rfl) ?_
              refine zx_sub (lv' := [(0, .ref (0)), (1, .int (v1)), (2, .int (v2)), (3, .int (v3 + 1)), (4, .int (v4)), (5, .int (v5 + 1))]) [3, 4, 5, 1, 6, 0] rfl ?_
              exact hP26 _ _ _ _ _ _ h f_l0
            · replace h := z_neg hc h
              refine zx_iinc (pc := 78) (v := v4 + 1) (lv' := [(4, .int (v4 + 1)), (3, .int (v3 + 1)), (6, .ref (o3)), (0, .ref (0)), (1, .int (v1)), (2, .int (v2)), (5, .int (v5))]) G 5 rfl (z_inc (by decide)) (Nat.le_of_ble_eq_true rfl) rfl (z_dec T_X11_knew_ok 39 (78, .iinc 4 1, 3) rfl) ?_
              refine zx_iinc (pc := 81) (v := v5 + 1) (lv' := [(5, .int (v5 + 1)), (4, .int (v4 + 1)), (3, .int (v3 + 1)), (6, .ref (o3)), (0, .ref (0)), (1, .int (v1)), (2, .int (v2))]) G 6 rfl (z_inc (by decide)) (Nat.le_of_ble_eq_true rfl) rfl (z_dec T_X11_knew_ok 40 (81, .iinc 5 1, 3) rfl) ?_
              refine zx_goto (pc := 84) (tgt := 26) G rfl (z_dec T_X11_knew_ok 41 (84, .goto (-58), 3) rfl) ?_
              refine zx_sub (lv' := [(0, .ref (0)), (1, .int (v1)), (2, .int (v2)), (3, .int (v3 + 1)), (4, .int (v4 + 1)), (5, .int (v5 + 1))]) [4, 5, 6, 2, 1, 0] rfl ?_
              exact hP26 _ _ _ _ _ _ h f_l0
set_option maxRecDepth 100000 in
set_option maxHeartbeats 4000000 in
theorem L_X11_knew_26_ok {p : Program} {l : Launch} {e : Env} {s : State} {m : MethodId} {args : Array Value} {below : List Frame} {meth : Method} {c : Code} {D : va_G} {A : Nat → Prop} {ρ : z_A} {kd : z_K} {q : z_Q} {μ : z_M} {K : Int32 → z_M → Prop} {v1 : Int32} {v2 : Int32} {v3 : Int32} {v4 : Int32} {v5 : Int32} (G : z_G p c cX11_knew s m args RX11 7 D) (hr : meth.sig.returnType = (Option.some Jvm.ClassFile.FieldType.int)) (hlk : meth.locks = false) (hI : z_I kd q) (f_l0 : kd 0 = some (.inl 11)) (h : L_X11_knew_26 kd q K v1 v2 v3 v4 v5 μ) : z_X p l e rm_X11_knew s m args below meth c 7 D A (MQ below (z_Qn D A ρ kd (z_Ki q K)) args s 0 0 A) 0 0 ρ kd q μ 26 [(0, .ref (0)), (1, .int (v1)), (2, .int (v2)), (3, .int (v3)), (4, .int (v4)), (5, .int (v5))] [] :=
  h (fun (v1 : Int32) (v2 : Int32) (v3 : Int32) (v4 : Int32) (v5 : Int32) (μ : z_M) => (kd 0 = some (.inl 11)) → z_X p l e rm_X11_knew s m args below meth c 7 D A (MQ below (z_Qn D A ρ kd (z_Ki q K)) args s 0 0 A) 0 0 ρ kd q μ 26 [(0, .ref (0)), (1, .int (v1)), (2, .int (v2)), (3, .int (v3)), (4, .int (v4)), (5, .int (v5))] []) (fun v1 v2 v3 v4 v5 μ h f_l0 => B_X11_knew_26_ok G hr hlk (fun _ _ _ _ _ _ h => h) hI f_l0 h) f_l0
set_option maxRecDepth 100000 in
set_option maxHeartbeats 4000000 in
theorem met_X11_knew (l : Launch) (D : va_G) (ρ : z_A) (kd : z_K) (q : z_Q) (μ : z_M) (sz : Nat) (a1 : Int32) (a2 : Int32) (K : Int32 → z_M → Prop) (hI : z_I kd q) (h_o : kd 0 = some (.inl 11)) (h : C_X11_knew kd q a1 a2 μ K) : Met l yX11_knew (z_ws yX11_knew cX11_knew 7 (Option.some Jvm.ClassFile.FieldType.int)) rm_X11_knew (z_Pc D ρ kd q μ sz [.ref (0), .int (a1), .int (a2)]) (z_Qn D (z_Rg ρ sz) ρ kd (z_Ki q K)) 0 0 (z_Rg ρ sz) := by
  refine z_met (rm := rm_X11_knew) (by decide) (Nat.le_of_ble_eq_true rfl) (fun p e s m args below meth c G hr hlk => ?_)
  unfold C_X11_knew at h
  show z_X _ _ _ _ _ _ _ _ _ _ _ _ _ _ _ _ _ _ _ _ _ [(0, .ref (0)), (1, .int (a1)), (2, .int (a2))] _
  refine zx_iload_n (pc := 0) G 1 rfl rfl (z_dec T_X11_knew_ok 0 (0, .iload_n 1, 1) rfl) ?_
  refine zx_callS_zN (pc := 1) (rm := rm_X11_isBettor) G cw_RX11_336 ⟨Nat.le_of_ble_eq_true rfl, Nat.le_of_ble_eq_true rfl⟩ rfl rfl ⟨Nat.zero_le _, Nat.zero_le _⟩ (fun sz => (met_X11_isBettor l D ρ kd q μ sz a1 _ hI h)) rfl rfl (Nat.le_of_ble_eq_true rfl) (z_dec T_X11_knew_ok 1 (1, .invokestatic 336, 3) rfl) (fun r2 μ1 hzr2 hn => ?_)
  clear h
  have h := hn
  clear hn
  refine zx_if_eq (pc := 4) (tgt := 16) G rfl (z_dec T_X11_knew_ok 2 (4, .ifCond .eq 12, 3) rfl) (fun hc => ?_) (fun hc => ?_)
  · replace h := z_pos hc h
    refine zx_iconst (pc := 16) (v := -1) G (z_dec T_X11_knew_ok 8 (16, .iconst (-1), 1) rfl) rfl ?_
    exact zx_iret (pc := 17) G hr hlk (Nat.le_refl _) (Nat.le_refl _) (z_dec T_X11_knew_ok 9 (17, .ireturn, 1) rfl) ⟨rfl, _, rfl, h⟩
  · replace h := z_neg hc h
    refine zx_iload_n (pc := 7) G 2 rfl rfl (z_dec T_X11_knew_ok 3 (7, .iload_n 2, 1) rfl) ?_
    refine zx_if_lt (pc := 8) (tgt := 16) G rfl (z_dec T_X11_knew_ok 4 (8, .ifCond .lt 8, 3) rfl) (fun hc => ?_) (fun hc => ?_)
    · replace h := z_pos hc h
      refine zx_iconst (pc := 16) (v := -1) G (z_dec T_X11_knew_ok 8 (16, .iconst (-1), 1) rfl) rfl ?_
      exact zx_iret (pc := 17) G hr hlk (Nat.le_refl _) (Nat.le_refl _) (z_dec T_X11_knew_ok 9 (17, .ireturn, 1) rfl) ⟨rfl, _, rfl, h⟩
    · replace h := z_neg hc h
      refine zx_iload_n (pc := 11) G 2 rfl rfl (z_dec T_X11_knew_ok 5 (11, .iload_n 2, 1) rfl) ?_
      refine zx_iconst (pc := 12) (v := 1) G (z_dec T_X11_knew_ok 6 (12, .iconst 1, 1) rfl) rfl ?_
      refine zx_icmp_le (pc := 13) (tgt := 18) G rfl (z_dec T_X11_knew_ok 7 (13, .if_icmp .le 5, 3) rfl) (fun hc => ?_) (fun hc => ?_)
      · replace h := z_pos hc h
        refine zx_iconst (pc := 18) (v := 0) G (z_dec T_X11_knew_ok 10 (18, .iconst 0, 1) rfl) rfl ?_
        refine zx_istore_n (pc := 19) (lv' := [(3, .int ((0 : Int32))), (0, .ref (0)), (1, .int (a1)), (2, .int (a2))]) G rfl (Nat.le_of_ble_eq_true rfl) rfl (z_dec T_X11_knew_ok 11 (19, .istore_n 3, 1) rfl) ?_
        refine zx_iconst (pc := 20) (v := 0) G (z_dec T_X11_knew_ok 12 (20, .iconst 0, 1) rfl) rfl ?_
        refine zx_istore (pc := 21) (lv' := [(4, .int ((0 : Int32))), (3, .int ((0 : Int32))), (0, .ref (0)), (1, .int (a1)), (2, .int (a2))]) G (Nat.le_of_ble_eq_true rfl) rfl (z_dec T_X11_knew_ok 13 (21, .istore 4, 2) rfl) ?_
        refine zx_iconst (pc := 23) (v := 0) G (z_dec T_X11_knew_ok 14 (23, .iconst 0, 1) rfl) rfl ?_
        refine zx_istore (pc := 24) (lv' := [(5, .int ((0 : Int32))), (4, .int ((0 : Int32))), (3, .int ((0 : Int32))), (0, .ref (0)), (1, .int (a1)), (2, .int (a2))]) G (Nat.le_of_ble_eq_true rfl) rfl (z_dec T_X11_knew_ok 15 (24, .istore 5, 2) rfl) ?_
        refine zx_sub (lv' := [(0, .ref (0)), (1, .int (a1)), (2, .int (a2)), (3, .int ((0 : Int32))), (4, .int ((0 : Int32))), (5, .int ((0 : Int32)))]) [3, 4, 5, 2, 1, 0] rfl ?_
        exact L_X11_knew_26_ok G hr hlk hI h_o h
      · replace h := z_neg hc h
        refine zx_iconst (pc := 16) (v := -1) G (z_dec T_X11_knew_ok 8 (16, .iconst (-1), 1) rfl) rfl ?_
        exact zx_iret (pc := 17) G hr hlk (Nat.le_refl _) (Nat.le_refl _) (z_dec T_X11_knew_ok 9 (17, .ireturn, 1) rfl) ⟨rfl, _, rfl, h⟩
abbrev rm_X11_isFull : Room := { frames := 3, cells := 0, slots := 0, locals := 63 }
set_option maxRecDepth 100000 in
set_option maxHeartbeats 4000000 in
theorem B_X11_isFull_2_ok {p : Program} {l : Launch} {e : Env} {s : State} {m : MethodId} {args : Array Value} {below : List Frame} {meth : Method} {c : Code} {D : va_G} {A : Nat → Prop} {ρ : z_A} {kd : z_K} {q : z_Q} {μ : z_M} {K : Int32 → z_M → Prop} {P2 : Option Nat → Option Nat → Int32 → Int32 → z_M → Prop} {v0 : Option Nat} {v1 : Option Nat} {v2 : Int32} {v3 : Int32} (G : z_G p c cX11_isFull s m args RX11 4 D) (hr : meth.sig.returnType = (Option.some Jvm.ClassFile.FieldType.boolean)) (hlk : meth.locks = false) (hP2 : ∀ (v0 : Option Nat) (v1 : Option Nat) (v2 : Int32) (v3 : Int32) (μ : z_M), P2 v0 v1 v2 v3 μ → (∀ a, v0 = some a → kd a = some (.inl 1)) → (∀ a, v1 = some a → kd a = some (.inl 6)) → z_X p l e rm_X11_isFull s m args below meth c 4 D A (MQ below (z_Qn D A ρ kd (z_Kz q K)) args s 0 0 A) 0 0 ρ kd q μ 2 [(0, va_rf (v0)), (1, va_rf (v1)), (2, .int (v2)), (3, .int (v3))] []) (hI : z_I kd q) (f_l0 : ∀ a, v0 = some a → kd a = some (.inl 1)) (f_l1 : ∀ a, v1 = some a → kd a = some (.inl 6)) (h : B_X11_isFull_2 kd q K P2 v0 v1 v2 v3 μ) : z_X p l e rm_X11_isFull s m args below meth c 4 D A (MQ below (z_Qn D A ρ kd (z_Kz q K)) args s 0 0 A) 0 0 ρ kd q μ 2 [(0, va_rf (v0)), (1, va_rf (v1)), (2, .int (v2)), (3, .int (v3))] [] := by
    unfold B_X11_isFull_2 at h
    refine zx_iload_n (pc := 2) G 3 rfl rfl (z_dec T_X11_isFull_ok 2 (2, .iload_n 3, 1) rfl) ?_
    refine zx_aload_n (pc := 3) G (v1) 1 rfl rfl (z_dec T_X11_isFull_ok 3 (3, .aload_n 1, 1) rfl) ?_
    obtain ⟨o1, rfl, h⟩ := h
    refine zx_getI (pc := 4) G gf_RX11_297 rfl (f_l1 o1 rfl) (z_dec T_X11_isFull_ok 4 (4, .getfield 297, 3) rfl) ?_
    refine zx_icmp_ge (pc := 7) (tgt := 40) G rfl (z_dec T_X11_isFull_ok 5 (7, .if_icmp .ge 33, 3) rfl) (fun hc => ?_) (fun hc => ?_)
    · replace h := z_pos hc h
      refine zx_iconst (pc := 40) (v := 1) G (z_dec T_X11_isFull_ok 22 (40, .iconst 1, 1) rfl) rfl ?_
      exact zx_zret (pc := 41) G hr hlk (Nat.le_refl _) (Nat.le_refl _) (Or.inr rfl) (z_dec T_X11_isFull_ok 23 (41, .ireturn, 1) rfl) ⟨rfl, _, rfl, (Or.inr rfl), h⟩
    · replace h := z_neg hc h
      refine zx_aload_n (pc := 10) G (some (o1)) 1 rfl rfl (z_dec T_X11_isFull_ok 6 (10, .aload_n 1, 1) rfl) ?_
      refine zx_iload_n (pc := 11) G 3 rfl rfl (z_dec T_X11_isFull_ok 7 (11, .iload_n 3, 1) rfl) ?_
      refine zx_callV_zN (pc := 12) (rm := rm_X6_runs) G cw_RX11_156 ⟨Nat.le_of_ble_eq_true rfl, Nat.le_of_ble_eq_true rfl⟩ rfl rfl ⟨Nat.zero_le _, Nat.zero_le _⟩ (f_l1 o1 rfl) rfl (fun sz => (met_X6_runs l D ρ kd q μ sz o1 v3 _ hI (f_l1 o1 rfl) h)) rfl rfl (Nat.le_of_ble_eq_true rfl) (z_dec T_X11_isFull_ok 8 (12, .invokevirtual 156, 3) rfl) (fun r3 μ2 hzr3 hn => ?_)
      clear h
      have h := hn
      clear hn
      refine zx_if_eq (pc := 15) (tgt := 34) G rfl (z_dec T_X11_isFull_ok 9 (15, .ifCond .eq 19, 3) rfl) (fun hc => ?_) (fun hc => ?_)
      · replace h := z_pos hc h
        refine zx_iinc (pc := 34) (v := v3 + 1) (lv' := [(3, .int (v3 + 1)), (0, va_rf (v0)), (1, .ref (o1)), (2, .int (v2))]) G 3 rfl (z_inc (by decide)) (Nat.le_of_ble_eq_true rfl) rfl (z_dec T_X11_isFull_ok 20 (34, .iinc 3 1, 3) rfl) ?_
        refine zx_goto (pc := 37) (tgt := 2) G rfl (z_dec T_X11_isFull_ok 21 (37, .goto (-35), 3) rfl) ?_
        refine zx_sub (lv' := [(0, va_rf (v0)), (1, .ref (o1)), (2, .int (v2)), (3, .int (v3 + 1))]) [1, 2, 3, 0] rfl ?_
        exact hP2 _ _ _ _ _ h f_l0 (fun a ha => by cases ha; exact (f_l1 o1 rfl))
      · replace h := z_neg hc h
        refine zx_aload_n (pc := 18) G (v0) 0 rfl rfl (z_dec T_X11_isFull_ok 10 (18, .aload_n 0, 1) rfl) ?_
        obtain ⟨o4, rfl, h⟩ := h
        refine zx_getF (pc := 19) (b := o4 + 1) G gf_RX11_166 rfl (f_l0 o4 rfl) (zq_1_3 hI (f_l0 o4 rfl)) (z_dec T_X11_isFull_ok 11 (19, .getfield 166, 3) rfl) ?_
        refine zx_iload_n (pc := 22) G 2 rfl rfl (z_dec T_X11_isFull_ok 12 (22, .iload_n 2, 1) rfl) ?_
        refine zx_iload_n (pc := 23) G 3 rfl rfl (z_dec T_X11_isFull_ok 13 (23, .iload_n 3, 1) rfl) ?_
        refine zx_callS_iN (pc := 24) (rm := rm_X11_spot) G cw_RX11_168 ⟨Nat.le_of_ble_eq_true rfl, Nat.le_of_ble_eq_true rfl⟩ rfl rfl ⟨Nat.zero_le _, Nat.zero_le _⟩ (fun sz => (met_X11_spot l D ρ kd q μ2 sz v2 v3 _ hI h)) rfl rfl (Nat.le_of_ble_eq_true rfl) (z_dec T_X11_isFull_ok 14 (24, .invokestatic 168, 3) rfl) (fun r6 μ5 hn => ?_)
        clear h
        have h := hn
        clear hn
        obtain ⟨c7, h⟩ := h
        refine zx_iald (pc := 27) G (zk_1_3 hI (f_l0 o4 rfl)) c7 (z_dec T_X11_isFull_ok 15 (27, .iaload, 1) rfl) ?_
        refine zx_iconst (pc := 28) (v := -1) G (z_dec T_X11_isFull_ok 16 (28, .iconst (-1), 1) rfl) rfl ?_
        refine zx_icmp_ne (pc := 29) (tgt := 34) G rfl (z_dec T_X11_isFull_ok 17 (29, .if_icmp .ne 5, 3) rfl) (fun hc => ?_) (fun hc => ?_)
        · replace h := z_neg hc h
          refine zx_iinc (pc := 34) (v := v3 + 1) (lv' := [(3, .int (v3 + 1)), (0, .ref (o4)), (1, .ref (o1)), (2, .int (v2))]) G 3 rfl (z_inc (by decide)) (Nat.le_of_ble_eq_true rfl) rfl (z_dec T_X11_isFull_ok 20 (34, .iinc 3 1, 3) rfl) ?_
          refine zx_goto (pc := 37) (tgt := 2) G rfl (z_dec T_X11_isFull_ok 21 (37, .goto (-35), 3) rfl) ?_
          refine zx_sub (lv' := [(0, .ref (o4)), (1, .ref (o1)), (2, .int (v2)), (3, .int (v3 + 1))]) [1, 2, 3, 0] rfl ?_
          exact hP2 _ _ _ _ _ h (fun a ha => by cases ha; exact (f_l0 o4 rfl)) (fun a ha => by cases ha; exact (f_l1 o1 rfl))
        · replace h := z_pos hc h
          refine zx_iconst (pc := 32) (v := 0) G (z_dec T_X11_isFull_ok 18 (32, .iconst 0, 1) rfl) rfl ?_
          exact zx_zret (pc := 33) G hr hlk (Nat.le_refl _) (Nat.le_refl _) (Or.inl rfl) (z_dec T_X11_isFull_ok 19 (33, .ireturn, 1) rfl) ⟨rfl, _, rfl, (Or.inl rfl), h⟩
set_option maxRecDepth 100000 in
set_option maxHeartbeats 4000000 in
theorem L_X11_isFull_2_ok {p : Program} {l : Launch} {e : Env} {s : State} {m : MethodId} {args : Array Value} {below : List Frame} {meth : Method} {c : Code} {D : va_G} {A : Nat → Prop} {ρ : z_A} {kd : z_K} {q : z_Q} {μ : z_M} {K : Int32 → z_M → Prop} {v0 : Option Nat} {v1 : Option Nat} {v2 : Int32} {v3 : Int32} (G : z_G p c cX11_isFull s m args RX11 4 D) (hr : meth.sig.returnType = (Option.some Jvm.ClassFile.FieldType.boolean)) (hlk : meth.locks = false) (hI : z_I kd q) (f_l0 : ∀ a, v0 = some a → kd a = some (.inl 1)) (f_l1 : ∀ a, v1 = some a → kd a = some (.inl 6)) (h : L_X11_isFull_2 kd q K v0 v1 v2 v3 μ) : z_X p l e rm_X11_isFull s m args below meth c 4 D A (MQ below (z_Qn D A ρ kd (z_Kz q K)) args s 0 0 A) 0 0 ρ kd q μ 2 [(0, va_rf (v0)), (1, va_rf (v1)), (2, .int (v2)), (3, .int (v3))] [] :=
  h (fun (v0 : Option Nat) (v1 : Option Nat) (v2 : Int32) (v3 : Int32) (μ : z_M) => (∀ a, v0 = some a → kd a = some (.inl 1)) → (∀ a, v1 = some a → kd a = some (.inl 6)) → z_X p l e rm_X11_isFull s m args below meth c 4 D A (MQ below (z_Qn D A ρ kd (z_Kz q K)) args s 0 0 A) 0 0 ρ kd q μ 2 [(0, va_rf (v0)), (1, va_rf (v1)), (2, .int (v2)), (3, .int (v3))] []) (fun v0 v1 v2 v3 μ h f_l0 f_l1 => B_X11_isFull_2_ok G hr hlk (fun _ _ _ _ _ h => h) hI f_l0 f_l1 h) f_l0 f_l1
set_option maxRecDepth 100000 in
set_option maxHeartbeats 4000000 in
theorem met_X11_isFull (l : Launch) (D : va_G) (ρ : z_A) (kd : z_K) (q : z_Q) (μ : z_M) (sz : Nat) (a1 : Option Nat) (a2 : Option Nat) (a3 : Int32) (K : Int32 → z_M → Prop) (hI : z_I kd q) (h_a1 : ∀ a, a1 = some a → kd a = some (.inl 1)) (h_a2 : ∀ a, a2 = some a → kd a = some (.inl 6)) (h : C_X11_isFull kd q a1 a2 a3 μ K) : Met l yX11_isFull (z_ws yX11_isFull cX11_isFull 4 (Option.some Jvm.ClassFile.FieldType.boolean)) rm_X11_isFull (z_Pc D ρ kd q μ sz [va_rf (a1), va_rf (a2), .int (a3)]) (z_Qn D (z_Rg ρ sz) ρ kd (z_Kz q K)) 0 0 (z_Rg ρ sz) := by
  refine z_met (rm := rm_X11_isFull) (by decide) (by cases a1 <;> cases a2 <;> exact Nat.le_of_ble_eq_true rfl) (fun p e s m args below meth c G hr hlk => ?_)
  unfold C_X11_isFull at h
  rw [show lv_args 0 [va_rf (a1), va_rf (a2), .int (a3)] = [(0, va_rf (a1)), (1, va_rf (a2)), (2, .int (a3))] from by cases a1 <;> cases a2 <;> rfl]
  refine zx_iconst (pc := 0) (v := 0) G (z_dec T_X11_isFull_ok 0 (0, .iconst 0, 1) rfl) rfl ?_
  refine zx_istore_n (pc := 1) (lv' := [(3, .int ((0 : Int32))), (0, va_rf (a1)), (1, va_rf (a2)), (2, .int (a3))]) G rfl (Nat.le_of_ble_eq_true rfl) rfl (z_dec T_X11_isFull_ok 1 (1, .istore_n 3, 1) rfl) ?_
  refine zx_sub (lv' := [(0, va_rf (a1)), (1, va_rf (a2)), (2, .int (a3)), (3, .int ((0 : Int32)))]) [1, 2, 3, 0] rfl ?_
  exact L_X11_isFull_2_ok G hr hlk hI h_a1 h_a2 h
abbrev rm_X11_chance : Room := { frames := 4, cells := 0, slots := 0, locals := 88 }
set_option maxRecDepth 100000 in
set_option maxHeartbeats 4000000 in
theorem L_X11_chance_176_ok {p : Program} {l : Launch} {e : Env} {s : State} {m : MethodId} {args : Array Value} {below : List Frame} {meth : Method} {c : Code} {D : va_G} {A : Nat → Prop} {ρ : z_A} {kd : z_K} {q : z_Q} {μ : z_M} {K : Int64 → z_M → Prop} {P55 : Int32 → Int32 → Int32 → Nat → Int32 → Int64 → Int64 → Int32 → z_M → Prop} {v1 : Int32} {v2 : Int32} {v3 : Int32} {v4 : Nat} {v5 : Int32} {v10 : Int32} (G : z_G p c cX11_chance s m args RX11 13 D) (hr : meth.sig.returnType = (Option.some Jvm.ClassFile.FieldType.long)) (hlk : meth.locks = false) (hP55 : ∀ (v1 : Int32) (v2 : Int32) (v3 : Int32) (v4 : Nat) (v5 : Int32) (v6 : Int64) (v8 : Int64) (v10 : Int32) (μ : z_M), P55 v1 v2 v3 v4 v5 v6 v8 v10 μ → (kd 0 = some (.inl 11)) → (kd v4 = some (.inl 6)) → ((v5 = 0 ∨ v5 = 1)) → z_X p l e rm_X11_chance s m args below meth c 13 D A (MQ below (z_Qn D A ρ kd (z_Kl q K)) args s 0 0 A) 0 0 ρ kd q μ 55 [(0, .ref (0)), (1, .int (v1)), (2, .int (v2)), (3, .int (v3)), (4, .ref (v4)), (5, .int (v5)), (6, .long (v6)), (8, .long (v8)), (10, .int (v10))] []) (hI : z_I kd q) (f_l0 : kd 0 = some (.inl 11)) (f_l4 : kd v4 = some (.inl 6)) (f_l5 : (v5 = 0 ∨ v5 = 1)) (h : L_X11_chance_176 kd q K P55 v1 v2 v3 v4 v5 v10 μ) : z_X p l e rm_X11_chance s m args below meth c 13 D A (MQ below (z_Qn D A ρ kd (z_Kl q K)) args s 0 0 A) 0 0 ρ kd q μ 176 [(0, .ref (0)), (1, .int (v1)), (2, .int (v2)), (3, .int (v3)), (4, .ref (v4)), (5, .int (v5)), (10, .int (v10))] [] := by
    unfold L_X11_chance_176 at h
    refine zx_aload_n (pc := 176) G (some (0)) 0 rfl rfl (z_dec T_X11_chance_ok 87 (176, .aload_n 0, 1) rfl) ?_
    refine zx_getF (pc := 177) (b := 11) G gf_RX11_62 rfl f_l0 (zq_11_7 hI f_l0) (z_dec T_X11_chance_ok 88 (177, .getfield 62, 3) rfl) ?_
    refine zx_getL (pc := 180) G gf_RX11_252 rfl (zk_11_7 hI f_l0) (z_dec T_X11_chance_ok 89 (180, .getfield 252, 3) rfl) ?_
    refine zx_lstore (pc := 183) (lv' := [(6, .long (μ.2 11 0)), (0, .ref (0)), (1, .int (v1)), (2, .int (v2)), (3, .int (v3)), (4, .ref (v4)), (5, .int (v5)), (10, .int (v10))]) G (Nat.le_of_ble_eq_true rfl) rfl (z_dec T_X11_chance_ok 90 (183, .lstore 6, 2) rfl) ?_
    refine zx_aload_n (pc := 185) G (some (0)) 1 rfl rfl (z_dec T_X11_chance_ok 91 (185, .aload_n 0, 1) rfl) ?_
    refine zx_getF (pc := 186) (b := 11) G gf_RX11_62 rfl f_l0 (zq_11_7 hI f_l0) (z_dec T_X11_chance_ok 92 (186, .getfield 62, 3) rfl) ?_
    refine zx_getL (pc := 189) G gf_RX11_256 rfl (zk_11_7 hI f_l0) (z_dec T_X11_chance_ok 93 (189, .getfield 256, 3) rfl) ?_
    refine zx_lstore (pc := 192) (lv' := [(8, .long (μ.2 11 1)), (6, .long (μ.2 11 0)), (0, .ref (0)), (1, .int (v1)), (2, .int (v2)), (3, .int (v3)), (4, .ref (v4)), (5, .int (v5)), (10, .int (v10))]) G (Nat.le_of_ble_eq_true rfl) rfl (z_dec T_X11_chance_ok 94 (192, .lstore 8, 2) rfl) ?_
    refine zx_iinc (pc := 194) (v := v10 + 1) (lv' := [(10, .int (v10 + 1)), (8, .long (μ.2 11 1)), (6, .long (μ.2 11 0)), (0, .ref (0)), (1, .int (v1)), (2, .int (v2)), (3, .int (v3)), (4, .ref (v4)), (5, .int (v5))]) G 8 rfl (z_inc (by decide)) (Nat.le_of_ble_eq_true rfl) rfl (z_dec T_X11_chance_ok 95 (194, .iinc 10 1, 3) rfl) ?_
    refine zx_goto (pc := 197) (tgt := 55) G rfl (z_dec T_X11_chance_ok 96 (197, .goto (-142), 3) rfl) ?_
    refine zx_sub (lv' := [(0, .ref (0)), (1, .int (v1)), (2, .int (v2)), (3, .int (v3)), (4, .ref (v4)), (5, .int (v5)), (6, .long (μ.2 11 0)), (8, .long (μ.2 11 1)), (10, .int (v10 + 1))]) [3, 4, 5, 6, 7, 8, 2, 1, 0] rfl ?_
    exact hP55 _ _ _ _ _ _ _ _ _ h f_l0 f_l4 f_l5
set_option maxRecDepth 100000 in
set_option maxHeartbeats 4000000 in
theorem L_X11_chance_149_ok {p : Program} {l : Launch} {e : Env} {s : State} {m : MethodId} {args : Array Value} {below : List Frame} {meth : Method} {c : Code} {D : va_G} {A : Nat → Prop} {ρ : z_A} {kd : z_K} {q : z_Q} {μ : z_M} {K : Int64 → z_M → Prop} {P55 : Int32 → Int32 → Int32 → Nat → Int32 → Int64 → Int64 → Int32 → z_M → Prop} {v1 : Int32} {v2 : Int32} {v3 : Int32} {v4 : Nat} {v5 : Int32} {v6 : Int64} {v8 : Int64} {v10 : Int32} {t0 : Int32} (G : z_G p c cX11_chance s m args RX11 13 D) (hr : meth.sig.returnType = (Option.some Jvm.ClassFile.FieldType.long)) (hlk : meth.locks = false) (hP55 : ∀ (v1 : Int32) (v2 : Int32) (v3 : Int32) (v4 : Nat) (v5 : Int32) (v6 : Int64) (v8 : Int64) (v10 : Int32) (μ : z_M), P55 v1 v2 v3 v4 v5 v6 v8 v10 μ → (kd 0 = some (.inl 11)) → (kd v4 = some (.inl 6)) → ((v5 = 0 ∨ v5 = 1)) → z_X p l e rm_X11_chance s m args below meth c 13 D A (MQ below (z_Qn D A ρ kd (z_Kl q K)) args s 0 0 A) 0 0 ρ kd q μ 55 [(0, .ref (0)), (1, .int (v1)), (2, .int (v2)), (3, .int (v3)), (4, .ref (v4)), (5, .int (v5)), (6, .long (v6)), (8, .long (v8)), (10, .int (v10))] []) (hI : z_I kd q) (f_l0 : kd 0 = some (.inl 11)) (f_l4 : kd v4 = some (.inl 6)) (f_l5 : (v5 = 0 ∨ v5 = 1)) (h : L_X11_chance_149 kd q K P55 v1 v2 v3 v4 v5 v6 v8 v10 t0 μ) : z_X p l e rm_X11_chance s m args below meth c 13 D A (MQ below (z_Qn D A ρ kd (z_Kl q K)) args s 0 0 A) 0 0 ρ kd q μ 149 [(0, .ref (0)), (1, .int (v1)), (2, .int (v2)), (3, .int (v3)), (4, .ref (v4)), (5, .int (v5)), (6, .long (v6)), (8, .long (v8)), (10, .int (v10))] [.int (t0)] := by
    unfold L_X11_chance_149 at h
    refine zx_istore (pc := 149) (lv' := [(12, .int (t0)), (0, .ref (0)), (1, .int (v1)), (2, .int (v2)), (3, .int (v3)), (4, .ref (v4)), (5, .int (v5)), (6, .long (v6)), (8, .long (v8)), (10, .int (v10))]) G (Nat.le_of_ble_eq_true rfl) rfl (z_dec T_X11_chance_ok 75 (149, .istore 12, 2) rfl) ?_
    refine zx_lload (pc := 151) G 8 rfl (z_dec T_X11_chance_ok 76 (151, .lload 8, 2) rfl) ?_
    refine zx_lconst (pc := 153) (v := 0) G (z_dec T_X11_chance_ok 77 (153, .lconst 0, 1) rfl) rfl ?_
    refine zx_lcmp_eq (pc := 154) (tgt := 176) G rfl (z_dec T_X11_chance_ok 78 (154, .lcmp, 1) rfl) (z_dec T_X11_chance_ok 79 (155, .ifCond .eq 21, 3) rfl) (fun hc => ?_) (fun hc => ?_)
    · replace h := z_pos hc h
      refine zx_sub (lv' := [(0, .ref (0)), (1, .int (v1)), (2, .int (v2)), (3, .int (v3)), (4, .ref (v4)), (5, .int (v5)), (10, .int (v10))]) [1, 2, 3, 4, 5, 6, 9] rfl ?_
      exact L_X11_chance_176_ok G hr hlk hP55 hI f_l0 f_l4 f_l5 h
    · replace h := z_neg hc h
      refine zx_iload (pc := 158) G 6 rfl (z_dec T_X11_chance_ok 80 (158, .iload 5, 2) rfl) ?_
      refine zx_if_eq (pc := 160) (tgt := 171) G rfl (z_dec T_X11_chance_ok 81 (160, .ifCond .eq 11, 3) rfl) (fun hc => ?_) (fun hc => ?_)
      · replace h := z_pos hc h
        refine zx_iload (pc := 171) G 0 rfl (z_dec T_X11_chance_ok 85 (171, .iload 12, 2) rfl) ?_
        refine zx_if_ge (pc := 173) (tgt := 194) G rfl (z_dec T_X11_chance_ok 86 (173, .ifCond .ge 21, 3) rfl) (fun hc => ?_) (fun hc => ?_)
        · replace h := z_pos hc h
          refine zx_iinc (pc := 194) (v := v10 + 1) (lv' := [(10, .int (v10 + 1)), (12, .int (t0)), (0, .ref (0)), (1, .int (v1)), (2, .int (v2)), (3, .int (v3)), (4, .ref (v4)), (5, .int (v5)), (6, .long (v6)), (8, .long (v8))]) G 9 rfl (z_inc (by decide)) (Nat.le_of_ble_eq_true rfl) rfl (z_dec T_X11_chance_ok 95 (194, .iinc 10 1, 3) rfl) ?_
          refine zx_goto (pc := 197) (tgt := 55) G rfl (z_dec T_X11_chance_ok 96 (197, .goto (-142), 3) rfl) ?_
          refine zx_sub (lv' := [(0, .ref (0)), (1, .int (v1)), (2, .int (v2)), (3, .int (v3)), (4, .ref (v4)), (5, .int (v5)), (6, .long (v6)), (8, .long (v8)), (10, .int (v10 + 1))]) [2, 3, 4, 5, 6, 7, 8, 9, 0] rfl ?_
          exact hP55 _ _ _ _ _ _ _ _ _ h f_l0 f_l4 f_l5
        · replace h := z_neg hc h
          refine zx_sub (lv' := [(0, .ref (0)), (1, .int (v1)), (2, .int (v2)), (3, .int (v3)), (4, .ref (v4)), (5, .int (v5)), (10, .int (v10))]) [1, 2, 3, 4, 5, 6, 9] rfl ?_
          exact L_X11_chance_176_ok G hr hlk hP55 hI f_l0 f_l4 f_l5 h
      · replace h := z_neg hc h
        refine zx_iload (pc := 163) G 0 rfl (z_dec T_X11_chance_ok 82 (163, .iload 12, 2) rfl) ?_
        refine zx_if_le (pc := 165) (tgt := 194) G rfl (z_dec T_X11_chance_ok 83 (165, .ifCond .le 29, 3) rfl) (fun hc => ?_) (fun hc => ?_)
        · replace h := z_pos hc h
          refine zx_iinc (pc := 194) (v := v10 + 1) (lv' := [(10, .int (v10 + 1)), (12, .int (t0)), (0, .ref (0)), (1, .int (v1)), (2, .int (v2)), (3, .int (v3)), (4, .ref (v4)), (5, .int (v5)), (6, .long (v6)), (8, .long (v8))]) G 9 rfl (z_inc (by decide)) (Nat.le_of_ble_eq_true rfl) rfl (z_dec T_X11_chance_ok 95 (194, .iinc 10 1, 3) rfl) ?_
          refine zx_goto (pc := 197) (tgt := 55) G rfl (z_dec T_X11_chance_ok 96 (197, .goto (-142), 3) rfl) ?_
          refine zx_sub (lv' := [(0, .ref (0)), (1, .int (v1)), (2, .int (v2)), (3, .int (v3)), (4, .ref (v4)), (5, .int (v5)), (6, .long (v6)), (8, .long (v8)), (10, .int (v10 + 1))]) [2, 3, 4, 5, 6, 7, 8, 9, 0] rfl ?_
          exact hP55 _ _ _ _ _ _ _ _ _ h f_l0 f_l4 f_l5
        · replace h := z_neg hc h
          refine zx_goto (pc := 168) (tgt := 176) G rfl (z_dec T_X11_chance_ok 84 (168, .goto 8, 3) rfl) ?_
          refine zx_sub (lv' := [(0, .ref (0)), (1, .int (v1)), (2, .int (v2)), (3, .int (v3)), (4, .ref (v4)), (5, .int (v5)), (10, .int (v10))]) [1, 2, 3, 4, 5, 6, 9] rfl ?_
          exact L_X11_chance_176_ok G hr hlk hP55 hI f_l0 f_l4 f_l5 h
set_option maxRecDepth 100000 in
set_option maxHeartbeats 4000000 in
theorem B_X11_chance_55_ok {p : Program} {l : Launch} {e : Env} {s : State} {m : MethodId} {args : Array Value} {below : List Frame} {meth : Method} {c : Code} {D : va_G} {A : Nat → Prop} {ρ : z_A} {kd : z_K} {q : z_Q} {μ : z_M} {K : Int64 → z_M → Prop} {P55 : Int32 → Int32 → Int32 → Nat → Int32 → Int64 → Int64 → Int32 → z_M → Prop} {v1 : Int32} {v2 : Int32} {v3 : Int32} {v4 : Nat} {v5 : Int32} {v6 : Int64} {v8 : Int64} {v10 : Int32} (G : z_G p c cX11_chance s m args RX11 13 D) (hr : meth.sig.returnType = (Option.some Jvm.ClassFile.FieldType.long)) (hlk : meth.locks = false) (hP55 : ∀ (v1 : Int32) (v2 : Int32) (v3 : Int32) (v4 : Nat) (v5 : Int32) (v6 : Int64) (v8 : Int64) (v10 : Int32) (μ : z_M), P55 v1 v2 v3 v4 v5 v6 v8 v10 μ → (kd 0 = some (.inl 11)) → (kd v4 = some (.inl 6)) → ((v5 = 0 ∨ v5 = 1)) → z_X p l e rm_X11_chance s m args below meth c 13 D A (MQ below (z_Qn D A ρ kd (z_Kl q K)) args s 0 0 A) 0 0 ρ kd q μ 55 [(0, .ref (0)), (1, .int (v1)), (2, .int (v2)), (3, .int (v3)), (4, .ref (v4)), (5, .int (v5)), (6, .long (v6)), (8, .long (v8)), (10, .int (v10))] []) (hI : z_I kd q) (f_l0 : kd 0 = some (.inl 11)) (f_l4 : kd v4 = some (.inl 6)) (f_l5 : (v5 = 0 ∨ v5 = 1)) (h : B_X11_chance_55 kd q K P55 v1 v2 v3 v4 v5 v6 v8 v10 μ) : z_X p l e rm_X11_chance s m args below meth c 13 D A (MQ below (z_Qn D A ρ kd (z_Kl q K)) args s 0 0 A) 0 0 ρ kd q μ 55 [(0, .ref (0)), (1, .int (v1)), (2, .int (v2)), (3, .int (v3)), (4, .ref (v4)), (5, .int (v5)), (6, .long (v6)), (8, .long (v8)), (10, .int (v10))] [] := by
    unfold B_X11_chance_55 at h
    refine zx_iload (pc := 55) G 8 rfl (z_dec T_X11_chance_ok 30 (55, .iload 10, 2) rfl) ?_
    refine zx_aload_n (pc := 57) G (some (0)) 0 rfl rfl (z_dec T_X11_chance_ok 31 (57, .aload_n 0, 1) rfl) ?_
    refine zx_getI (pc := 58) G gf_RX11_114 rfl f_l0 (z_dec T_X11_chance_ok 32 (58, .getfield 114, 3) rfl) ?_
    refine zx_icmp_ge (pc := 61) (tgt := 200) G rfl (z_dec T_X11_chance_ok 33 (61, .if_icmp .ge 139, 3) rfl) (fun hc => ?_) (fun hc => ?_)
    · replace h := z_pos hc h
      refine zx_lload (pc := 200) G 7 rfl (z_dec T_X11_chance_ok 97 (200, .lload 8, 2) rfl) ?_
      refine zx_lconst (pc := 202) (v := 0) G (z_dec T_X11_chance_ok 98 (202, .lconst 0, 1) rfl) rfl ?_
      refine zx_lcmp_ne (pc := 203) (tgt := 211) G rfl (z_dec T_X11_chance_ok 99 (203, .lcmp, 1) rfl) (z_dec T_X11_chance_ok 100 (204, .ifCond .ne 7, 3) rfl) (fun hc => ?_) (fun hc => ?_)
      · replace h := z_neg hc h
        refine zx_iload_n (pc := 211) G 3 rfl rfl (z_dec T_X11_chance_ok 103 (211, .iload_n 3, 1) rfl) ?_
        refine zx_iconst (pc := 212) (v := 1) G (z_dec T_X11_chance_ok 104 (212, .iconst 1, 1) rfl) rfl ?_
        refine zx_iand (pc := 213) G  (z_dec T_X11_chance_ok 105 (213, .iand, 1) rfl) ?_
        refine zx_if_ne (pc := 214) (tgt := 222) G rfl (z_dec T_X11_chance_ok 106 (214, .ifCond .ne 8, 3) rfl) (fun hc => ?_) (fun hc => ?_)
        · replace h := z_neg hc h
          refine zx_lload (pc := 222) G 7 rfl (z_dec T_X11_chance_ok 109 (222, .lload 8, 2) rfl) ?_
          exact zx_lret (pc := 224) G hr hlk (Nat.le_refl _) (Nat.le_refl _) (z_dec T_X11_chance_ok 110 (224, .lreturn, 1) rfl) ⟨rfl, _, rfl, h⟩
        · replace h := z_pos hc h
          refine zx_lload (pc := 217) G 6 rfl (z_dec T_X11_chance_ok 107 (217, .lload 6, 2) rfl) ?_
          refine zx_goto (pc := 219) (tgt := 224) G rfl (z_dec T_X11_chance_ok 108 (219, .goto 5, 3) rfl) ?_
          exact zx_lret (pc := 224) G hr hlk (Nat.le_refl _) (Nat.le_refl _) (z_dec T_X11_chance_ok 110 (224, .lreturn, 1) rfl) ⟨rfl, _, rfl, h⟩
      · replace h := z_pos hc h
        refine zx_ldc2 (pc := 207) G wk_RX11_391 (z_dec T_X11_chance_ok 101 (207, .ldc2_w 391, 3) rfl) ?_
        exact zx_lret (pc := 210) G hr hlk (Nat.le_refl _) (Nat.le_refl _) (z_dec T_X11_chance_ok 102 (210, .lreturn, 1) rfl) ⟨rfl, _, rfl, h⟩
    · replace h := z_neg hc h
      refine zx_aload_n (pc := 64) G (some (0)) 0 rfl rfl (z_dec T_X11_chance_ok 34 (64, .aload_n 0, 1) rfl) ?_
      refine zx_iload (pc := 65) G 8 rfl (z_dec T_X11_chance_ok 35 (65, .iload 10, 2) rfl) ?_
      refine zx_callV_rN (pc := 67) (rm := rm_X11_bookAt) G cw_RX11_141 ⟨Nat.le_of_ble_eq_true rfl, Nat.le_of_ble_eq_true rfl⟩ rfl rfl ⟨Nat.zero_le _, Nat.zero_le _⟩ f_l0 rfl (fun sz => (met_X11_bookAt l D ρ kd q μ sz v10 _ hI f_l0 h)) rfl rfl (Nat.le_of_ble_eq_true rfl) (z_dec T_X11_chance_ok 36 (67, .invokevirtual 141, 3) rfl) (fun r2 μ1 hfr2 hn => ?_)
      clear h
      have h := hn
      clear hn
      refine zx_astore (pc := 70) (lv' := [(11, va_rf (r2)), (0, .ref (0)), (1, .int (v1)), (2, .int (v2)), (3, .int (v3)), (4, .ref (v4)), (5, .int (v5)), (6, .long (v6)), (8, .long (v8)), (10, .int (v10))]) G (r2) (Nat.le_of_ble_eq_true rfl) rfl (z_dec T_X11_chance_ok 37 (70, .astore 11, 2) rfl) ?_
      refine zx_aload (pc := 72) G (r2) 0 rfl (z_dec T_X11_chance_ok 38 (72, .aload 11, 2) rfl) ?_
      obtain ⟨h1, h2⟩ := h
      rcases r2 with _ | o3
      · replace h := h1 rfl
        refine zx_ifnullN (pc := 74) (tgt := 194) G rfl (z_dec T_X11_chance_ok 39 (74, .ifnull 120, 3) rfl) ?_
        refine zx_iinc (pc := 194) (v := v10 + 1) (lv' := [(10, .int (v10 + 1)), (11, va_rf (none)), (0, .ref (0)), (1, .int (v1)), (2, .int (v2)), (3, .int (v3)), (4, .ref (v4)), (5, .int (v5)), (6, .long (v6)), (8, .long (v8))]) G 9 rfl (z_inc (by decide)) (Nat.le_of_ble_eq_true rfl) rfl (z_dec T_X11_chance_ok 95 (194, .iinc 10 1, 3) rfl) ?_
        refine zx_goto (pc := 197) (tgt := 55) G rfl (z_dec T_X11_chance_ok 96 (197, .goto (-142), 3) rfl) ?_
        refine zx_sub (lv' := [(0, .ref (0)), (1, .int (v1)), (2, .int (v2)), (3, .int (v3)), (4, .ref (v4)), (5, .int (v5)), (6, .long (v6)), (8, .long (v8)), (10, .int (v10 + 1))]) [2, 3, 4, 5, 6, 7, 8, 9, 0] rfl ?_
        exact hP55 _ _ _ _ _ _ _ _ _ h f_l0 f_l4 f_l5
      · replace h := h2 o3 rfl
        refine zx_ifnullS (pc := 74) G (hfr2 o3 rfl) (z_dec T_X11_chance_ok 39 (74, .ifnull 120, 3) rfl) ?_
        refine zx_aload (pc := 77) G (some (o3)) 0 rfl (z_dec T_X11_chance_ok 40 (77, .aload 11, 2) rfl) ?_
        refine zx_aload (pc := 79) G (some (v4)) 5 rfl (z_dec T_X11_chance_ok 41 (79, .aload 4, 2) rfl) ?_
        refine zx_iload_n (pc := 81) G 2 rfl rfl (z_dec T_X11_chance_ok 42 (81, .iload_n 1, 1) rfl) ?_
        refine zx_callS_zN (pc := 82) (rm := rm_X11_isFull) G cw_RX11_379 ⟨Nat.le_of_ble_eq_true rfl, Nat.le_of_ble_eq_true rfl⟩ rfl rfl ⟨Nat.zero_le _, Nat.zero_le _⟩ (fun sz => (met_X11_isFull l D ρ kd q μ1 sz (some o3) (some v4) v1 _ hI (fun a ha => by cases ha; exact (hfr2 o3 rfl)) (fun a ha => by cases ha; exact f_l4) h)) rfl rfl (Nat.le_of_ble_eq_true rfl) (z_dec T_X11_chance_ok 43 (82, .invokestatic 379, 3) rfl) (fun r5 μ4 hzr5 hn => ?_)
        clear h
        have h := hn
        clear hn
        refine zx_if_eq (pc := 85) (tgt := 194) G rfl (z_dec T_X11_chance_ok 44 (85, .ifCond .eq 109, 3) rfl) (fun hc => ?_) (fun hc => ?_)
        · replace h := z_pos hc h
          refine zx_iinc (pc := 194) (v := v10 + 1) (lv' := [(10, .int (v10 + 1)), (11, .ref (o3)), (0, .ref (0)), (1, .int (v1)), (2, .int (v2)), (3, .int (v3)), (4, .ref (v4)), (5, .int (v5)), (6, .long (v6)), (8, .long (v8))]) G 9 rfl (z_inc (by decide)) (Nat.le_of_ble_eq_true rfl) rfl (z_dec T_X11_chance_ok 95 (194, .iinc 10 1, 3) rfl) ?_
          refine zx_goto (pc := 197) (tgt := 55) G rfl (z_dec T_X11_chance_ok 96 (197, .goto (-142), 3) rfl) ?_
          refine zx_sub (lv' := [(0, .ref (0)), (1, .int (v1)), (2, .int (v2)), (3, .int (v3)), (4, .ref (v4)), (5, .int (v5)), (6, .long (v6)), (8, .long (v8)), (10, .int (v10 + 1))]) [2, 3, 4, 5, 6, 7, 8, 9, 0] rfl ?_
          exact hP55 _ _ _ _ _ _ _ _ _ h f_l0 f_l4 f_l5
        · replace h := z_neg hc h
          refine zx_aload_n (pc := 88) G (some (0)) 1 rfl rfl (z_dec T_X11_chance_ok 45 (88, .aload_n 0, 1) rfl) ?_
          refine zx_aload (pc := 89) G (some (o3)) 0 rfl (z_dec T_X11_chance_ok 46 (89, .aload 11, 2) rfl) ?_
          refine zx_iload_n (pc := 91) G 2 rfl rfl (z_dec T_X11_chance_ok 47 (91, .iload_n 1, 1) rfl) ?_
          refine zx_callV_vN (pc := 92) (rm := rm_X11_sumSlate) G cw_RX11_245 ⟨Nat.le_of_ble_eq_true rfl, Nat.le_of_ble_eq_true rfl⟩ rfl rfl ⟨Nat.zero_le _, Nat.zero_le _⟩ f_l0 rfl (fun sz => (met_X11_sumSlate l D ρ kd q μ4 sz (some o3) v1 _ hI f_l0 (fun a ha => by cases ha; exact (hfr2 o3 rfl)) h)) rfl rfl (Nat.le_of_ble_eq_true rfl) (z_dec T_X11_chance_ok 48 (92, .invokevirtual 245, 3) rfl) (fun μ6 hn => ?_)
          clear h
          have h := hn
          clear hn
          refine zx_aload_n (pc := 95) G (some (0)) 1 rfl rfl (z_dec T_X11_chance_ok 49 (95, .aload_n 0, 1) rfl) ?_
          refine zx_getF (pc := 96) (b := 11) G gf_RX11_62 rfl f_l0 (zq_11_7 hI f_l0) (z_dec T_X11_chance_ok 50 (96, .getfield 62, 3) rfl) ?_
          refine zx_aload_n (pc := 99) G (some (0)) 1 rfl rfl (z_dec T_X11_chance_ok 51 (99, .aload_n 0, 1) rfl) ?_
          refine zx_getF (pc := 100) (b := 3) G gf_RX11_19 rfl f_l0 (zq_11_1 hI f_l0) (z_dec T_X11_chance_ok 52 (100, .getfield 19, 3) rfl) ?_
          refine zx_aload (pc := 103) G (some (o3)) 0 rfl (z_dec T_X11_chance_ok 53 (103, .aload 11, 2) rfl) ?_
          refine zx_getF (pc := 105) (b := o3 + 1) G gf_RX11_166 rfl (hfr2 o3 rfl) (zq_1_3 hI (hfr2 o3 rfl)) (z_dec T_X11_chance_ok 54 (105, .getfield 166, 3) rfl) ?_
          refine zx_iload_n (pc := 108) G 2 rfl rfl (z_dec T_X11_chance_ok 55 (108, .iload_n 1, 1) rfl) ?_
          refine zx_iload_n (pc := 109) G 3 rfl rfl (z_dec T_X11_chance_ok 56 (109, .iload_n 2, 1) rfl) ?_
          refine zx_callS_iN (pc := 110) (rm := rm_X11_spot) G cw_RX11_168 ⟨Nat.le_of_ble_eq_true rfl, Nat.le_of_ble_eq_true rfl⟩ rfl rfl ⟨Nat.zero_le _, Nat.zero_le _⟩ (fun sz => (met_X11_spot l D ρ kd q μ6 sz v1 v2 _ hI h)) rfl rfl (Nat.le_of_ble_eq_true rfl) (z_dec T_X11_chance_ok 57 (110, .invokestatic 168, 3) rfl) (fun r8 μ7 hn => ?_)
          clear h
          have h := hn
          clear hn
          obtain ⟨c9, h⟩ := h
          refine zx_iald (pc := 113) G (zk_1_3 hI (hfr2 o3 rfl)) c9 (z_dec T_X11_chance_ok 58 (113, .iaload, 1) rfl) ?_
          refine zx_callV_vN (pc := 114) (rm := rm_X9_divideInto) G cw_RX11_383 ⟨Nat.le_of_ble_eq_true rfl, Nat.le_of_ble_eq_true rfl⟩ rfl rfl ⟨Nat.zero_le _, Nat.zero_le _⟩ (zk_11_7 hI f_l0) rfl (fun sz => (met_X9_divideInto l D ρ kd q μ7 sz (some 3) (μ7.1 (o3 + 1) r8.toNatClampNeg) _ hI (zk_11_7 hI f_l0) (fun a ha => by cases ha; exact (zk_11_1 hI f_l0)) h)) rfl rfl (Nat.le_of_ble_eq_true rfl) (z_dec T_X11_chance_ok 59 (114, .invokevirtual 383, 3) rfl) (fun μ10 hn => ?_)
          clear h
          have h := hn
          clear hn
          refine zx_lload (pc := 117) G 8 rfl (z_dec T_X11_chance_ok 60 (117, .lload 8, 2) rfl) ?_
          refine zx_lconst (pc := 119) (v := 0) G (z_dec T_X11_chance_ok 61 (119, .lconst 0, 1) rfl) rfl ?_
          refine zx_lcmp_ne (pc := 120) (tgt := 128) G rfl (z_dec T_X11_chance_ok 62 (120, .lcmp, 1) rfl) (z_dec T_X11_chance_ok 63 (121, .ifCond .ne 7, 3) rfl) (fun hc => ?_) (fun hc => ?_)
          · replace h := z_neg hc h
            refine zx_aload_n (pc := 128) G (some (0)) 1 rfl rfl (z_dec T_X11_chance_ok 66 (128, .aload_n 0, 1) rfl) ?_
            refine zx_getF (pc := 129) (b := 11) G gf_RX11_62 rfl f_l0 (zq_11_7 hI f_l0) (z_dec T_X11_chance_ok 67 (129, .getfield 62, 3) rfl) ?_
            refine zx_getL (pc := 132) G gf_RX11_252 rfl (zk_11_7 hI f_l0) (z_dec T_X11_chance_ok 68 (132, .getfield 252, 3) rfl) ?_
            refine zx_aload_n (pc := 135) G (some (0)) 1 rfl rfl (z_dec T_X11_chance_ok 69 (135, .aload_n 0, 1) rfl) ?_
            refine zx_getF (pc := 136) (b := 11) G gf_RX11_62 rfl f_l0 (zq_11_7 hI f_l0) (z_dec T_X11_chance_ok 70 (136, .getfield 62, 3) rfl) ?_
            refine zx_getL (pc := 139) G gf_RX11_256 rfl (zk_11_7 hI f_l0) (z_dec T_X11_chance_ok 71 (139, .getfield 256, 3) rfl) ?_
            refine zx_lload (pc := 142) G 7 rfl (z_dec T_X11_chance_ok 72 (142, .lload 6, 2) rfl) ?_
            refine zx_lload (pc := 144) G 8 rfl (z_dec T_X11_chance_ok 73 (144, .lload 8, 2) rfl) ?_
            refine zx_callS_iN (pc := 146) (rm := rm_X9_compare) G cw_RX11_387 ⟨Nat.le_of_ble_eq_true rfl, Nat.le_of_ble_eq_true rfl⟩ rfl rfl ⟨Nat.zero_le _, Nat.zero_le _⟩ (fun sz => (met_X9_compare l D ρ kd q μ10 sz (μ10.2 11 0) (μ10.2 11 1) v6 v8 _ hI h)) rfl rfl (Nat.le_of_ble_eq_true rfl) (z_dec T_X11_chance_ok 74 (146, .invokestatic 387, 3) rfl) (fun r12 μ11 hn => ?_)
            clear h
            have h := hn
            clear hn
            refine zx_sub (lv' := [(0, .ref (0)), (1, .int (v1)), (2, .int (v2)), (3, .int (v3)), (4, .ref (v4)), (5, .int (v5)), (6, .long (v6)), (8, .long (v8)), (10, .int (v10))]) [1, 2, 3, 4, 5, 6, 7, 8, 9] rfl ?_
            exact L_X11_chance_149_ok G hr hlk hP55 hI f_l0 f_l4 f_l5 h
          · replace h := z_pos hc h
            refine zx_iconst (pc := 124) (v := 0) G (z_dec T_X11_chance_ok 64 (124, .iconst 0, 1) rfl) rfl ?_
            refine zx_goto (pc := 125) (tgt := 149) G rfl (z_dec T_X11_chance_ok 65 (125, .goto 24, 3) rfl) ?_
            refine zx_sub (lv' := [(0, .ref (0)), (1, .int (v1)), (2, .int (v2)), (3, .int (v3)), (4, .ref (v4)), (5, .int (v5)), (6, .long (v6)), (8, .long (v8)), (10, .int (v10))]) [1, 2, 3, 4, 5, 6, 7, 8, 9] rfl ?_
            exact L_X11_chance_149_ok G hr hlk hP55 hI f_l0 f_l4 f_l5 h
set_option maxRecDepth 100000 in
set_option maxHeartbeats 4000000 in
theorem L_X11_chance_55_ok {p : Program} {l : Launch} {e : Env} {s : State} {m : MethodId} {args : Array Value} {below : List Frame} {meth : Method} {c : Code} {D : va_G} {A : Nat → Prop} {ρ : z_A} {kd : z_K} {q : z_Q} {μ : z_M} {K : Int64 → z_M → Prop} {v1 : Int32} {v2 : Int32} {v3 : Int32} {v4 : Nat} {v5 : Int32} {v6 : Int64} {v8 : Int64} {v10 : Int32} (G : z_G p c cX11_chance s m args RX11 13 D) (hr : meth.sig.returnType = (Option.some Jvm.ClassFile.FieldType.long)) (hlk : meth.locks = false) (hI : z_I kd q) (f_l0 : kd 0 = some (.inl 11)) (f_l4 : kd v4 = some (.inl 6)) (f_l5 : (v5 = 0 ∨ v5 = 1)) (h : L_X11_chance_55 kd q K v1 v2 v3 v4 v5 v6 v8 v10 μ) : z_X p l e rm_X11_chance s m args below meth c 13 D A (MQ below (z_Qn D A ρ kd (z_Kl q K)) args s 0 0 A) 0 0 ρ kd q μ 55 [(0, .ref (0)), (1, .int (v1)), (2, .int (v2)), (3, .int (v3)), (4, .ref (v4)), (5, .int (v5)), (6, .long (v6)), (8, .long (v8)), (10, .int (v10))] [] :=
  h (fun (v1 : Int32) (v2 : Int32) (v3 : Int32) (v4 : Nat) (v5 : Int32) (v6 : Int64) (v8 : Int64) (v10 : Int32) (μ : z_M) => (kd 0 = some (.inl 11)) → (kd v4 = some (.inl 6)) → ((v5 = 0 ∨ v5 = 1)) → z_X p l e rm_X11_chance s m args below meth c 13 D A (MQ below (z_Qn D A ρ kd (z_Kl q K)) args s 0 0 A) 0 0 ρ kd q μ 55 [(0, .ref (0)), (1, .int (v1)), (2, .int (v2)), (3, .int (v3)), (4, .ref (v4)), (5, .int (v5)), (6, .long (v6)), (8, .long (v8)), (10, .int (v10))] []) (fun v1 v2 v3 v4 v5 v6 v8 v10 μ h f_l0 f_l4 f_l5 => B_X11_chance_55_ok G hr hlk (fun _ _ _ _ _ _ _ _ _ h => h) hI f_l0 f_l4 f_l5 h) f_l0 f_l4 f_l5
set_option maxRecDepth 100000 in
set_option maxHeartbeats 4000000 in
theorem L_X11_chance_44_ok {p : Program} {l : Launch} {e : Env} {s : State} {m : MethodId} {args : Array Value} {below : List Frame} {meth : Method} {c : Code} {D : va_G} {A : Nat → Prop} {ρ : z_A} {kd : z_K} {q : z_Q} {μ : z_M} {K : Int64 → z_M → Prop} {v1 : Int32} {v2 : Int32} {v3 : Int32} {v4 : Nat} {t0 : Int32} (G : z_G p c cX11_chance s m args RX11 13 D) (hr : meth.sig.returnType = (Option.some Jvm.ClassFile.FieldType.long)) (hlk : meth.locks = false) (hI : z_I kd q) (f_l0 : kd 0 = some (.inl 11)) (f_l4 : kd v4 = some (.inl 6)) (f_s0 : (t0 = 0 ∨ t0 = 1)) (h : L_X11_chance_44 kd q K v1 v2 v3 v4 t0 μ) : z_X p l e rm_X11_chance s m args below meth c 13 D A (MQ below (z_Qn D A ρ kd (z_Kl q K)) args s 0 0 A) 0 0 ρ kd q μ 44 [(0, .ref (0)), (1, .int (v1)), (2, .int (v2)), (3, .int (v3)), (4, .ref (v4))] [.int (t0)] := by
    unfold L_X11_chance_44 at h
    refine zx_istore (pc := 44) (lv' := [(5, .int (t0)), (0, .ref (0)), (1, .int (v1)), (2, .int (v2)), (3, .int (v3)), (4, .ref (v4))]) G (Nat.le_of_ble_eq_true rfl) rfl (z_dec T_X11_chance_ok 23 (44, .istore 5, 2) rfl) ?_
    refine zx_lconst (pc := 46) (v := 0) G (z_dec T_X11_chance_ok 24 (46, .lconst 0, 1) rfl) rfl ?_
    refine zx_lstore (pc := 47) (lv' := [(6, .long ((0 : Int64))), (5, .int (t0)), (0, .ref (0)), (1, .int (v1)), (2, .int (v2)), (3, .int (v3)), (4, .ref (v4))]) G (Nat.le_of_ble_eq_true rfl) rfl (z_dec T_X11_chance_ok 25 (47, .lstore 6, 2) rfl) ?_
    refine zx_lconst (pc := 49) (v := 0) G (z_dec T_X11_chance_ok 26 (49, .lconst 0, 1) rfl) rfl ?_
    refine zx_lstore (pc := 50) (lv' := [(8, .long ((0 : Int64))), (6, .long ((0 : Int64))), (5, .int (t0)), (0, .ref (0)), (1, .int (v1)), (2, .int (v2)), (3, .int (v3)), (4, .ref (v4))]) G (Nat.le_of_ble_eq_true rfl) rfl (z_dec T_X11_chance_ok 27 (50, .lstore 8, 2) rfl) ?_
    refine zx_iconst (pc := 52) (v := 0) G (z_dec T_X11_chance_ok 28 (52, .iconst 0, 1) rfl) rfl ?_
    refine zx_istore (pc := 53) (lv' := [(10, .int ((0 : Int32))), (8, .long ((0 : Int64))), (6, .long ((0 : Int64))), (5, .int (t0)), (0, .ref (0)), (1, .int (v1)), (2, .int (v2)), (3, .int (v3)), (4, .ref (v4))]) G (Nat.le_of_ble_eq_true rfl) rfl (z_dec T_X11_chance_ok 29 (53, .istore 10, 2) rfl) ?_
    refine zx_sub (lv' := [(0, .ref (0)), (1, .int (v1)), (2, .int (v2)), (3, .int (v3)), (4, .ref (v4)), (5, .int (t0)), (6, .long ((0 : Int64))), (8, .long ((0 : Int64))), (10, .int ((0 : Int32)))]) [4, 5, 6, 7, 8, 3, 2, 1, 0] rfl ?_
    exact L_X11_chance_55_ok G hr hlk hI f_l0 f_l4 f_s0 h
set_option maxRecDepth 100000 in
set_option maxHeartbeats 4000000 in
theorem met_X11_chance (l : Launch) (D : va_G) (ρ : z_A) (kd : z_K) (q : z_Q) (μ : z_M) (sz : Nat) (a1 : Int32) (a2 : Int32) (a3 : Int32) (K : Int64 → z_M → Prop) (hI : z_I kd q) (h_o : kd 0 = some (.inl 11)) (h : C_X11_chance kd q a1 a2 a3 μ K) : Met l yX11_chance (z_ws yX11_chance cX11_chance 13 (Option.some Jvm.ClassFile.FieldType.long)) rm_X11_chance (z_Pc D ρ kd q μ sz [.ref (0), .int (a1), .int (a2), .int (a3)]) (z_Qn D (z_Rg ρ sz) ρ kd (z_Kl q K)) 0 0 (z_Rg ρ sz) := by
  refine z_met (rm := rm_X11_chance) (by decide) (Nat.le_of_ble_eq_true rfl) (fun p e s m args below meth c G hr hlk => ?_)
  unfold C_X11_chance at h
  show z_X _ _ _ _ _ _ _ _ _ _ _ _ _ _ _ _ _ _ _ _ _ [(0, .ref (0)), (1, .int (a1)), (2, .int (a2)), (3, .int (a3))] _
  refine zx_aload_n (pc := 0) G (some (0)) 0 rfl rfl (z_dec T_X11_chance_ok 0 (0, .aload_n 0, 1) rfl) ?_
  refine zx_iload_n (pc := 1) G 1 rfl rfl (z_dec T_X11_chance_ok 1 (1, .iload_n 1, 1) rfl) ?_
  refine zx_callV_rN (pc := 2) (rm := rm_X11_raceAt) G cw_RX11_98 ⟨Nat.le_of_ble_eq_true rfl, Nat.le_of_ble_eq_true rfl⟩ rfl rfl ⟨Nat.zero_le _, Nat.zero_le _⟩ h_o rfl (fun sz => (met_X11_raceAt l D ρ kd q μ sz a1 _ hI h_o h)) rfl rfl (Nat.le_of_ble_eq_true rfl) (z_dec T_X11_chance_ok 2 (2, .invokevirtual 98, 3) rfl) (fun r2 μ1 hfr2 hn => ?_)
  clear h
  have h := hn
  clear hn
  refine zx_astore (pc := 5) (lv' := [(4, va_rf (r2)), (0, .ref (0)), (1, .int (a1)), (2, .int (a2)), (3, .int (a3))]) G (r2) (Nat.le_of_ble_eq_true rfl) rfl (z_dec T_X11_chance_ok 3 (5, .astore 4, 2) rfl) ?_
  refine zx_aload (pc := 7) G (r2) 0 rfl (z_dec T_X11_chance_ok 4 (7, .aload 4, 2) rfl) ?_
  obtain ⟨h1, h2⟩ := h
  rcases r2 with _ | o3
  · replace h := h1 rfl
    refine zx_ifnullN (pc := 9) (tgt := 30) G rfl (z_dec T_X11_chance_ok 5 (9, .ifnull 21, 3) rfl) ?_
    refine zx_ldc2 (pc := 30) G wk_RX11_243 (z_dec T_X11_chance_ok 15 (30, .ldc2_w 243, 3) rfl) ?_
    exact zx_lret (pc := 33) G hr hlk (Nat.le_refl _) (Nat.le_refl _) (z_dec T_X11_chance_ok 16 (33, .lreturn, 1) rfl) ⟨rfl, _, rfl, h⟩
  · replace h := h2 o3 rfl
    refine zx_ifnullS (pc := 9) G (hfr2 o3 rfl) (z_dec T_X11_chance_ok 5 (9, .ifnull 21, 3) rfl) ?_
    refine zx_aload (pc := 12) G (some (o3)) 0 rfl (z_dec T_X11_chance_ok 6 (12, .aload 4, 2) rfl) ?_
    refine zx_iload_n (pc := 14) G 3 rfl rfl (z_dec T_X11_chance_ok 7 (14, .iload_n 2, 1) rfl) ?_
    refine zx_callV_zN (pc := 15) (rm := rm_X6_runs) G cw_RX11_156 ⟨Nat.le_of_ble_eq_true rfl, Nat.le_of_ble_eq_true rfl⟩ rfl rfl ⟨Nat.zero_le _, Nat.zero_le _⟩ (hfr2 o3 rfl) rfl (fun sz => (met_X6_runs l D ρ kd q μ1 sz o3 a2 _ hI (hfr2 o3 rfl) h)) rfl rfl (Nat.le_of_ble_eq_true rfl) (z_dec T_X11_chance_ok 8 (15, .invokevirtual 156, 3) rfl) (fun r5 μ4 hzr5 hn => ?_)
    clear h
    have h := hn
    clear hn
    refine zx_if_eq (pc := 18) (tgt := 30) G rfl (z_dec T_X11_chance_ok 9 (18, .ifCond .eq 12, 3) rfl) (fun hc => ?_) (fun hc => ?_)
    · replace h := z_pos hc h
      refine zx_ldc2 (pc := 30) G wk_RX11_243 (z_dec T_X11_chance_ok 15 (30, .ldc2_w 243, 3) rfl) ?_
      exact zx_lret (pc := 33) G hr hlk (Nat.le_refl _) (Nat.le_refl _) (z_dec T_X11_chance_ok 16 (33, .lreturn, 1) rfl) ⟨rfl, _, rfl, h⟩
    · replace h := z_neg hc h
      refine zx_iload_n (pc := 21) G 4 rfl rfl (z_dec T_X11_chance_ok 10 (21, .iload_n 3, 1) rfl) ?_
      refine zx_if_lt (pc := 22) (tgt := 30) G rfl (z_dec T_X11_chance_ok 11 (22, .ifCond .lt 8, 3) rfl) (fun hc => ?_) (fun hc => ?_)
      · replace h := z_pos hc h
        refine zx_ldc2 (pc := 30) G wk_RX11_243 (z_dec T_X11_chance_ok 15 (30, .ldc2_w 243, 3) rfl) ?_
        exact zx_lret (pc := 33) G hr hlk (Nat.le_refl _) (Nat.le_refl _) (z_dec T_X11_chance_ok 16 (33, .lreturn, 1) rfl) ⟨rfl, _, rfl, h⟩
      · replace h := z_neg hc h
        refine zx_iload_n (pc := 25) G 4 rfl rfl (z_dec T_X11_chance_ok 12 (25, .iload_n 3, 1) rfl) ?_
        refine zx_iconst (pc := 26) (v := 3) G (z_dec T_X11_chance_ok 13 (26, .iconst 3, 1) rfl) rfl ?_
        refine zx_icmp_le (pc := 27) (tgt := 34) G rfl (z_dec T_X11_chance_ok 14 (27, .if_icmp .le 7, 3) rfl) (fun hc => ?_) (fun hc => ?_)
        · replace h := z_pos hc h
          refine zx_iload_n (pc := 34) G 4 rfl rfl (z_dec T_X11_chance_ok 17 (34, .iload_n 3, 1) rfl) ?_
          refine zx_iconst (pc := 35) (v := 2) G (z_dec T_X11_chance_ok 18 (35, .iconst 2, 1) rfl) rfl ?_
          refine zx_icmp_lt (pc := 36) (tgt := 43) G rfl (z_dec T_X11_chance_ok 19 (36, .if_icmp .lt 7, 3) rfl) (fun hc => ?_) (fun hc => ?_)
          · replace h := z_pos hc h
            refine zx_iconst (pc := 43) (v := 0) G (z_dec T_X11_chance_ok 22 (43, .iconst 0, 1) rfl) rfl ?_
            refine zx_sub (lv' := [(0, .ref (0)), (1, .int (a1)), (2, .int (a2)), (3, .int (a3)), (4, .ref (o3))]) [1, 2, 3, 4, 0] rfl ?_
            exact L_X11_chance_44_ok G hr hlk hI h_o (hfr2 o3 rfl) (Or.inl rfl) h
          · replace h := z_neg hc h
            refine zx_iconst (pc := 39) (v := 1) G (z_dec T_X11_chance_ok 20 (39, .iconst 1, 1) rfl) rfl ?_
            refine zx_goto (pc := 40) (tgt := 44) G rfl (z_dec T_X11_chance_ok 21 (40, .goto 4, 3) rfl) ?_
            refine zx_sub (lv' := [(0, .ref (0)), (1, .int (a1)), (2, .int (a2)), (3, .int (a3)), (4, .ref (o3))]) [1, 2, 3, 4, 0] rfl ?_
            exact L_X11_chance_44_ok G hr hlk hI h_o (hfr2 o3 rfl) (Or.inr rfl) h
        · replace h := z_neg hc h
          refine zx_ldc2 (pc := 30) G wk_RX11_243 (z_dec T_X11_chance_ok 15 (30, .ldc2_w 243, 3) rfl) ?_
          exact zx_lret (pc := 33) G hr hlk (Nat.le_refl _) (Nat.le_refl _) (z_dec T_X11_chance_ok 16 (33, .lreturn, 1) rfl) ⟨rfl, _, rfl, h⟩
abbrev rm_X11_check : Room := { frames := 2, cells := 0, slots := 0, locals := 44 }
set_option maxRecDepth 100000 in
set_option maxHeartbeats 4000000 in
theorem B_X11_check_36_ok {p : Program} {l : Launch} {e : Env} {s : State} {m : MethodId} {args : Array Value} {below : List Frame} {meth : Method} {c : Code} {D : va_G} {A : Nat → Prop} {ρ : z_A} {kd : z_K} {q : z_Q} {μ : z_M} {K : Int32 → z_M → Prop} {P36 : Int32 → Int32 → Int32 → Int32 → z_M → Prop} {v1 : Int32} {v2 : Int32} {v3 : Int32} {v4 : Int32} (G : z_G p c cX11_check s m args RX11 6 D) (hr : meth.sig.returnType = (Option.some Jvm.ClassFile.FieldType.int)) (hlk : meth.locks = false) (hP36 : ∀ (v1 : Int32) (v2 : Int32) (v3 : Int32) (v4 : Int32) (μ : z_M), P36 v1 v2 v3 v4 μ → (kd 0 = some (.inl 11)) → z_X p l e rm_X11_check s m args below meth c 6 D A (MQ below (z_Qn D A ρ kd (z_Ki q K)) args s 0 0 A) 0 0 ρ kd q μ 36 [(0, .ref (0)), (1, .int (v1)), (2, .int (v2)), (3, .int (v3)), (4, .int (v4))] []) (hI : z_I kd q) (f_l0 : kd 0 = some (.inl 11)) (h : B_X11_check_36 kd q K P36 v1 v2 v3 v4 μ) : z_X p l e rm_X11_check s m args below meth c 6 D A (MQ below (z_Qn D A ρ kd (z_Ki q K)) args s 0 0 A) 0 0 ρ kd q μ 36 [(0, .ref (0)), (1, .int (v1)), (2, .int (v2)), (3, .int (v3)), (4, .int (v4))] [] := by
    unfold B_X11_check_36 at h
    refine zx_iload (pc := 36) G 4 rfl (z_dec T_X11_check_ok 20 (36, .iload 4, 2) rfl) ?_
    refine zx_aload_n (pc := 38) G (some (0)) 0 rfl rfl (z_dec T_X11_check_ok 21 (38, .aload_n 0, 1) rfl) ?_
    refine zx_getI (pc := 39) G gf_RX11_194 rfl f_l0 (z_dec T_X11_check_ok 22 (39, .getfield 194, 3) rfl) ?_
    refine zx_icmp_ge (pc := 42) (tgt := 128) G rfl (z_dec T_X11_check_ok 23 (42, .if_icmp .ge 86, 3) rfl) (fun hc => ?_) (fun hc => ?_)
    · replace h := z_pos hc h
      refine zx_iload_n (pc := 128) G 3 rfl rfl (z_dec T_X11_check_ok 66 (128, .iload_n 3, 1) rfl) ?_
      refine zx_iconst (pc := 129) (v := 2) G (z_dec T_X11_check_ok 67 (129, .iconst 2, 1) rfl) rfl ?_
      refine zx_iload_n (pc := 130) G 2 rfl rfl (z_dec T_X11_check_ok 68 (130, .iload_n 2, 1) rfl) ?_
      refine zx_imul (pc := 131) G  (z_dec T_X11_check_ok 69 (131, .imul, 1) rfl) ?_
      refine zx_icmp_ne (pc := 132) (tgt := 139) G rfl (z_dec T_X11_check_ok 70 (132, .if_icmp .ne 7, 3) rfl) (fun hc => ?_) (fun hc => ?_)
      · replace h := z_neg hc h
        refine zx_iload_n (pc := 139) G 3 rfl rfl (z_dec T_X11_check_ok 73 (139, .iload_n 3, 1) rfl) ?_
        exact zx_iret (pc := 140) G hr hlk (Nat.le_refl _) (Nat.le_refl _) (z_dec T_X11_check_ok 74 (140, .ireturn, 1) rfl) ⟨rfl, _, rfl, h⟩
      · replace h := z_pos hc h
        refine zx_iconst (pc := 135) (v := -1) G (z_dec T_X11_check_ok 71 (135, .iconst (-1), 1) rfl) rfl ?_
        refine zx_goto (pc := 136) (tgt := 140) G rfl (z_dec T_X11_check_ok 72 (136, .goto 4, 3) rfl) ?_
        exact zx_iret (pc := 140) G hr hlk (Nat.le_refl _) (Nat.le_refl _) (z_dec T_X11_check_ok 74 (140, .ireturn, 1) rfl) ⟨rfl, _, rfl, h⟩
    · replace h := z_neg hc h
      refine zx_aload_n (pc := 45) G (some (0)) 0 rfl rfl (z_dec T_X11_check_ok 24 (45, .aload_n 0, 1) rfl) ?_
      refine zx_iload (pc := 46) G 4 rfl (z_dec T_X11_check_ok 25 (46, .iload 4, 2) rfl) ?_
      refine zx_callV_rN (pc := 48) (rm := rm_X11_betAt) G cw_RX11_219 ⟨Nat.le_of_ble_eq_true rfl, Nat.le_of_ble_eq_true rfl⟩ rfl rfl ⟨Nat.zero_le _, Nat.zero_le _⟩ f_l0 rfl (fun sz => (met_X11_betAt l D ρ kd q μ sz v4 _ hI f_l0 h)) rfl rfl (Nat.le_of_ble_eq_true rfl) (z_dec T_X11_check_ok 26 (48, .invokevirtual 219, 3) rfl) (fun r2 μ1 hfr2 hn => ?_)
      clear h
      have h := hn
      clear hn
      refine zx_astore (pc := 51) (lv' := [(5, va_rf (r2)), (0, .ref (0)), (1, .int (v1)), (2, .int (v2)), (3, .int (v3)), (4, .int (v4))]) G (r2) (Nat.le_of_ble_eq_true rfl) rfl (z_dec T_X11_check_ok 27 (51, .astore 5, 2) rfl) ?_
      refine zx_aload (pc := 53) G (r2) 0 rfl (z_dec T_X11_check_ok 28 (53, .aload 5, 2) rfl) ?_
      obtain ⟨h1, h2⟩ := h
      rcases r2 with _ | o3
      · replace h := h1 rfl
        refine zx_ifnullN (pc := 55) (tgt := 122) G rfl (z_dec T_X11_check_ok 29 (55, .ifnull 67, 3) rfl) ?_
        refine zx_iinc (pc := 122) (v := v4 + 1) (lv' := [(4, .int (v4 + 1)), (5, va_rf (none)), (0, .ref (0)), (1, .int (v1)), (2, .int (v2)), (3, .int (v3))]) G 5 rfl (z_inc (by decide)) (Nat.le_of_ble_eq_true rfl) rfl (z_dec T_X11_check_ok 64 (122, .iinc 4 1, 3) rfl) ?_
        refine zx_goto (pc := 125) (tgt := 36) G rfl (z_dec T_X11_check_ok 65 (125, .goto (-89), 3) rfl) ?_
        refine zx_sub (lv' := [(0, .ref (0)), (1, .int (v1)), (2, .int (v2)), (3, .int (v3)), (4, .int (v4 + 1))]) [2, 3, 4, 5, 0] rfl ?_
        exact hP36 _ _ _ _ _ h f_l0
      · replace h := h2 o3 rfl
        refine zx_ifnullS (pc := 55) G (hfr2 o3 rfl) (z_dec T_X11_check_ok 29 (55, .ifnull 67, 3) rfl) ?_
        refine zx_aload (pc := 58) G (some (o3)) 0 rfl (z_dec T_X11_check_ok 30 (58, .aload 5, 2) rfl) ?_
        refine zx_getI (pc := 60) G gf_RX11_395 rfl (hfr2 o3 rfl) (z_dec T_X11_check_ok 31 (60, .getfield 395, 3) rfl) ?_
        refine zx_iload_n (pc := 63) G 2 rfl rfl (z_dec T_X11_check_ok 32 (63, .iload_n 1, 1) rfl) ?_
        refine zx_icmp_ne (pc := 64) (tgt := 122) G rfl (z_dec T_X11_check_ok 33 (64, .if_icmp .ne 58, 3) rfl) (fun hc => ?_) (fun hc => ?_)
        · replace h := z_neg hc h
          refine zx_iinc (pc := 122) (v := v4 + 1) (lv' := [(4, .int (v4 + 1)), (5, .ref (o3)), (0, .ref (0)), (1, .int (v1)), (2, .int (v2)), (3, .int (v3))]) G 5 rfl (z_inc (by decide)) (Nat.le_of_ble_eq_true rfl) rfl (z_dec T_X11_check_ok 64 (122, .iinc 4 1, 3) rfl) ?_
          refine zx_goto (pc := 125) (tgt := 36) G rfl (z_dec T_X11_check_ok 65 (125, .goto (-89), 3) rfl) ?_
          refine zx_sub (lv' := [(0, .ref (0)), (1, .int (v1)), (2, .int (v2)), (3, .int (v3)), (4, .int (v4 + 1))]) [2, 3, 4, 5, 0] rfl ?_
          exact hP36 _ _ _ _ _ h f_l0
        · replace h := z_pos hc h
          refine zx_aload (pc := 67) G (some (o3)) 0 rfl (z_dec T_X11_check_ok 34 (67, .aload 5, 2) rfl) ?_
          refine zx_getZ (pc := 69) G gf_RX11_259 rfl (hfr2 o3 rfl) (z_dec T_X11_check_ok 35 (69, .getfield 259, 3) rfl) ?_
          refine zx_if_eq (pc := 72) (tgt := 122) G rfl (z_dec T_X11_check_ok 36 (72, .ifCond .eq 50, 3) rfl) (fun hc => ?_) (fun hc => ?_)
          · replace h := z_pos hc h
            refine zx_iinc (pc := 122) (v := v4 + 1) (lv' := [(4, .int (v4 + 1)), (5, .ref (o3)), (0, .ref (0)), (1, .int (v1)), (2, .int (v2)), (3, .int (v3))]) G 5 rfl (z_inc (by decide)) (Nat.le_of_ble_eq_true rfl) rfl (z_dec T_X11_check_ok 64 (122, .iinc 4 1, 3) rfl) ?_
            refine zx_goto (pc := 125) (tgt := 36) G rfl (z_dec T_X11_check_ok 65 (125, .goto (-89), 3) rfl) ?_
            refine zx_sub (lv' := [(0, .ref (0)), (1, .int (v1)), (2, .int (v2)), (3, .int (v3)), (4, .int (v4 + 1))]) [2, 3, 4, 5, 0] rfl ?_
            exact hP36 _ _ _ _ _ h f_l0
          · replace h := z_neg hc h
            refine zx_iload_n (pc := 75) G 4 rfl rfl (z_dec T_X11_check_ok 37 (75, .iload_n 3, 1) rfl) ?_
            refine zx_iconst (pc := 76) (v := 2) G (z_dec T_X11_check_ok 38 (76, .iconst 2, 1) rfl) rfl ?_
            refine zx_iload_n (pc := 77) G 3 rfl rfl (z_dec T_X11_check_ok 39 (77, .iload_n 2, 1) rfl) ?_
            refine zx_imul (pc := 78) G  (z_dec T_X11_check_ok 40 (78, .imul, 1) rfl) ?_
            refine zx_icmp_ge (pc := 79) (tgt := 95) G rfl (z_dec T_X11_check_ok 41 (79, .if_icmp .ge 16, 3) rfl) (fun hc => ?_) (fun hc => ?_)
            · replace h := z_pos hc h
              refine zx_iload_n (pc := 95) G 4 rfl rfl (z_dec T_X11_check_ok 48 (95, .iload_n 3, 1) rfl) ?_
              exact zx_iret (pc := 96) G hr hlk (Nat.le_refl _) (Nat.le_refl _) (z_dec T_X11_check_ok 49 (96, .ireturn, 1) rfl) ⟨rfl, _, rfl, h⟩
            · replace h := z_neg hc h
              refine zx_aload_n (pc := 82) G (some (0)) 1 rfl rfl (z_dec T_X11_check_ok 42 (82, .aload_n 0, 1) rfl) ?_
              refine zx_getF (pc := 83) (b := 1) G gf_RX11_12 rfl f_l0 (zq_11_0 hI f_l0) (z_dec T_X11_check_ok 43 (83, .getfield 12, 3) rfl) ?_
              refine zx_iload_n (pc := 86) G 4 rfl rfl (z_dec T_X11_check_ok 44 (86, .iload_n 3, 1) rfl) ?_
              refine zx_callV_iN (pc := 87) (rm := rm_X10_wordAt) G cw_RX11_396 ⟨Nat.le_of_ble_eq_true rfl, Nat.le_of_ble_eq_true rfl⟩ rfl rfl ⟨Nat.zero_le _, Nat.zero_le _⟩ (zk_11_0 hI f_l0) rfl (fun sz => (met_X10_wordAt l D ρ kd q μ1 sz 1 v3 _ hI (zk_11_0 hI f_l0) h)) rfl rfl (Nat.le_of_ble_eq_true rfl) (z_dec T_X11_check_ok 45 (87, .invokevirtual 396, 3) rfl) (fun r5 μ4 hn => ?_)
              clear h
              have h := hn
              clear hn
              refine zx_iload (pc := 90) G 5 rfl (z_dec T_X11_check_ok 46 (90, .iload 4, 2) rfl) ?_
              refine zx_icmp_eq (pc := 92) (tgt := 97) G rfl (z_dec T_X11_check_ok 47 (92, .if_icmp .eq 5, 3) rfl) (fun hc => ?_) (fun hc => ?_)
              · replace h := z_pos hc h
                refine zx_aload_n (pc := 97) G (some (0)) 1 rfl rfl (z_dec T_X11_check_ok 50 (97, .aload_n 0, 1) rfl) ?_
                refine zx_getF (pc := 98) (b := 1) G gf_RX11_12 rfl f_l0 (zq_11_0 hI f_l0) (z_dec T_X11_check_ok 51 (98, .getfield 12, 3) rfl) ?_
                refine zx_iload_n (pc := 101) G 4 rfl rfl (z_dec T_X11_check_ok 52 (101, .iload_n 3, 1) rfl) ?_
                refine zx_iconst (pc := 102) (v := 1) G (z_dec T_X11_check_ok 53 (102, .iconst 1, 1) rfl) rfl ?_
                refine zx_iadd (pc := 103) G  (z_dec T_X11_check_ok 54 (103, .iadd, 1) rfl) ?_
                refine zx_callV_iN (pc := 104) (rm := rm_X10_wordAt) G cw_RX11_396 ⟨Nat.le_of_ble_eq_true rfl, Nat.le_of_ble_eq_true rfl⟩ rfl rfl ⟨Nat.zero_le _, Nat.zero_le _⟩ (zk_11_0 hI f_l0) rfl (fun sz => (met_X10_wordAt l D ρ kd q μ4 sz 1 (v3 + ((1 : Int32))) _ hI (zk_11_0 hI f_l0) h)) rfl rfl (Nat.le_of_ble_eq_true rfl) (z_dec T_X11_check_ok 55 (104, .invokevirtual 396, 3) rfl) (fun r7 μ6 hn => ?_)
                clear h
                have h := hn
                clear hn
                refine zx_aload (pc := 107) G (some (o3)) 0 rfl (z_dec T_X11_check_ok 56 (107, .aload 5, 2) rfl) ?_
                refine zx_getI (pc := 109) G gf_RX11_262 rfl (hfr2 o3 rfl) (z_dec T_X11_check_ok 57 (109, .getfield 262, 3) rfl) ?_
                refine zx_icmp_eq (pc := 112) (tgt := 119) G rfl (z_dec T_X11_check_ok 58 (112, .if_icmp .eq 7, 3) rfl) (fun hc => ?_) (fun hc => ?_)
                · replace h := z_pos hc h
                  refine zx_iinc (pc := 119) (v := v3 + 2) (lv' := [(3, .int (v3 + 2)), (5, .ref (o3)), (0, .ref (0)), (1, .int (v1)), (2, .int (v2)), (4, .int (v4))]) G 4 rfl (z_inc (by decide)) (Nat.le_of_ble_eq_true rfl) rfl (z_dec T_X11_check_ok 63 (119, .iinc 3 2, 3) rfl) ?_
                  refine zx_iinc (pc := 122) (v := v4 + 1) (lv' := [(4, .int (v4 + 1)), (3, .int (v3 + 2)), (5, .ref (o3)), (0, .ref (0)), (1, .int (v1)), (2, .int (v2))]) G 5 rfl (z_inc (by decide)) (Nat.le_of_ble_eq_true rfl) rfl (z_dec T_X11_check_ok 64 (122, .iinc 4 1, 3) rfl) ?_
                  refine zx_goto (pc := 125) (tgt := 36) G rfl (z_dec T_X11_check_ok 65 (125, .goto (-89), 3) rfl) ?_
                  refine zx_sub (lv' := [(0, .ref (0)), (1, .int (v1)), (2, .int (v2)), (3, .int (v3 + 2)), (4, .int (v4 + 1))]) [3, 4, 5, 1, 0] rfl ?_
                  exact hP36 _ _ _ _ _ h f_l0
                · replace h := z_neg hc h
                  refine zx_iload_n (pc := 115) G 4 rfl rfl (z_dec T_X11_check_ok 59 (115, .iload_n 3, 1) rfl) ?_
                  refine zx_iconst (pc := 116) (v := 1) G (z_dec T_X11_check_ok 60 (116, .iconst 1, 1) rfl) rfl ?_
                  refine zx_iadd (pc := 117) G  (z_dec T_X11_check_ok 61 (117, .iadd, 1) rfl) ?_
                  exact zx_iret (pc := 118) G hr hlk (Nat.le_refl _) (Nat.le_refl _) (z_dec T_X11_check_ok 62 (118, .ireturn, 1) rfl) ⟨rfl, _, rfl, h⟩
              · replace h := z_neg hc h
                refine zx_iload_n (pc := 95) G 4 rfl rfl (z_dec T_X11_check_ok 48 (95, .iload_n 3, 1) rfl) ?_
                exact zx_iret (pc := 96) G hr hlk (Nat.le_refl _) (Nat.le_refl _) (z_dec T_X11_check_ok 49 (96, .ireturn, 1) rfl) ⟨rfl, _, rfl, h⟩
set_option maxRecDepth 100000 in
set_option maxHeartbeats 4000000 in
theorem L_X11_check_36_ok {p : Program} {l : Launch} {e : Env} {s : State} {m : MethodId} {args : Array Value} {below : List Frame} {meth : Method} {c : Code} {D : va_G} {A : Nat → Prop} {ρ : z_A} {kd : z_K} {q : z_Q} {μ : z_M} {K : Int32 → z_M → Prop} {v1 : Int32} {v2 : Int32} {v3 : Int32} {v4 : Int32} (G : z_G p c cX11_check s m args RX11 6 D) (hr : meth.sig.returnType = (Option.some Jvm.ClassFile.FieldType.int)) (hlk : meth.locks = false) (hI : z_I kd q) (f_l0 : kd 0 = some (.inl 11)) (h : L_X11_check_36 kd q K v1 v2 v3 v4 μ) : z_X p l e rm_X11_check s m args below meth c 6 D A (MQ below (z_Qn D A ρ kd (z_Ki q K)) args s 0 0 A) 0 0 ρ kd q μ 36 [(0, .ref (0)), (1, .int (v1)), (2, .int (v2)), (3, .int (v3)), (4, .int (v4))] [] :=
  h (fun (v1 : Int32) (v2 : Int32) (v3 : Int32) (v4 : Int32) (μ : z_M) => (kd 0 = some (.inl 11)) → z_X p l e rm_X11_check s m args below meth c 6 D A (MQ below (z_Qn D A ρ kd (z_Ki q K)) args s 0 0 A) 0 0 ρ kd q μ 36 [(0, .ref (0)), (1, .int (v1)), (2, .int (v2)), (3, .int (v3)), (4, .int (v4))] []) (fun v1 v2 v3 v4 μ h f_l0 => B_X11_check_36_ok G hr hlk (fun _ _ _ _ _ h => h) hI f_l0 h) f_l0
set_option maxRecDepth 100000 in
set_option maxHeartbeats 4000000 in
theorem met_X11_check (l : Launch) (D : va_G) (ρ : z_A) (kd : z_K) (q : z_Q) (μ : z_M) (sz : Nat) (a1 : Int32) (a2 : Int32) (K : Int32 → z_M → Prop) (hI : z_I kd q) (h_o : kd 0 = some (.inl 11)) (h : C_X11_check kd q a1 a2 μ K) : Met l yX11_check (z_ws yX11_check cX11_check 6 (Option.some Jvm.ClassFile.FieldType.int)) rm_X11_check (z_Pc D ρ kd q μ sz [.ref (0), .int (a1), .int (a2)]) (z_Qn D (z_Rg ρ sz) ρ kd (z_Ki q K)) 0 0 (z_Rg ρ sz) := by
  refine z_met (rm := rm_X11_check) (by decide) (Nat.le_of_ble_eq_true rfl) (fun p e s m args below meth c G hr hlk => ?_)
  unfold C_X11_check at h
  show z_X _ _ _ _ _ _ _ _ _ _ _ _ _ _ _ _ _ _ _ _ _ [(0, .ref (0)), (1, .int (a1)), (2, .int (a2))] _
  refine zx_aload_n (pc := 0) G (some (0)) 0 rfl rfl (z_dec T_X11_check_ok 0 (0, .aload_n 0, 1) rfl) ?_
  refine zx_iload_n (pc := 1) G 1 rfl rfl (z_dec T_X11_check_ok 1 (1, .iload_n 1, 1) rfl) ?_
  refine zx_callV_rN (pc := 2) (rm := rm_X11_bookAt) G cw_RX11_141 ⟨Nat.le_of_ble_eq_true rfl, Nat.le_of_ble_eq_true rfl⟩ rfl rfl ⟨Nat.zero_le _, Nat.zero_le _⟩ h_o rfl (fun sz => (met_X11_bookAt l D ρ kd q μ sz a1 _ hI h_o h)) rfl rfl (Nat.le_of_ble_eq_true rfl) (z_dec T_X11_check_ok 2 (2, .invokevirtual 141, 3) rfl) (fun r2 μ1 hfr2 hn => ?_)
  clear h
  have h := hn
  clear hn
  obtain ⟨h1, h2⟩ := h
  rcases r2 with _ | o3
  · replace h := h1 rfl
    refine zx_ifnullN (pc := 5) (tgt := 28) G rfl (z_dec T_X11_check_ok 3 (5, .ifnull 23, 3) rfl) ?_
    refine zx_bipush (pc := 28) (v := -2) G (z_dec T_X11_check_ok 14 (28, .bipush (-2), 2) rfl) rfl ?_
    exact zx_iret (pc := 30) G hr hlk (Nat.le_refl _) (Nat.le_refl _) (z_dec T_X11_check_ok 15 (30, .ireturn, 1) rfl) ⟨rfl, _, rfl, h⟩
  · replace h := h2 o3 rfl
    refine zx_ifnullS (pc := 5) G (hfr2 o3 rfl) (z_dec T_X11_check_ok 3 (5, .ifnull 23, 3) rfl) ?_
    refine zx_iload_n (pc := 8) G 2 rfl rfl (z_dec T_X11_check_ok 4 (8, .iload_n 2, 1) rfl) ?_
    refine zx_if_lt (pc := 9) (tgt := 28) G rfl (z_dec T_X11_check_ok 5 (9, .ifCond .lt 19, 3) rfl) (fun hc => ?_) (fun hc => ?_)
    · replace h := z_pos hc h
      refine zx_bipush (pc := 28) (v := -2) G (z_dec T_X11_check_ok 14 (28, .bipush (-2), 2) rfl) rfl ?_
      exact zx_iret (pc := 30) G hr hlk (Nat.le_refl _) (Nat.le_refl _) (z_dec T_X11_check_ok 15 (30, .ireturn, 1) rfl) ⟨rfl, _, rfl, h⟩
    · replace h := z_neg hc h
      refine zx_aload_n (pc := 12) G (some (0)) 0 rfl rfl (z_dec T_X11_check_ok 6 (12, .aload_n 0, 1) rfl) ?_
      refine zx_getF (pc := 13) (b := 1) G gf_RX11_12 rfl h_o (zq_11_0 hI h_o) (z_dec T_X11_check_ok 7 (13, .getfield 12, 3) rfl) ?_
      refine zx_ldc2 (pc := 16) G wk_RX11_393 (z_dec T_X11_check_ok 8 (16, .ldc2_w 393, 3) rfl) ?_
      refine zx_iload_n (pc := 19) G 2 rfl rfl (z_dec T_X11_check_ok 9 (19, .iload_n 2, 1) rfl) ?_
      refine zx_i2l (pc := 20) G  (z_dec T_X11_check_ok 10 (20, .i2l, 1) rfl) ?_
      refine zx_lmul (pc := 21) G  (z_dec T_X11_check_ok 11 (21, .lmul, 1) rfl) ?_
      refine zx_callV_zN (pc := 22) (rm := rm_X10_give) G cw_RX11_133 ⟨Nat.le_of_ble_eq_true rfl, Nat.le_of_ble_eq_true rfl⟩ rfl rfl ⟨Nat.zero_le _, Nat.zero_le _⟩ (zk_11_0 hI h_o) rfl (fun sz => (met_X10_give l D ρ kd q μ1 sz 1 (((8 : Int64)) * a2.toInt64) _ hI (zk_11_0 hI h_o) h)) rfl rfl (Nat.le_of_ble_eq_true rfl) (z_dec T_X11_check_ok 12 (22, .invokevirtual 133, 3) rfl) (fun r5 μ4 hzr5 hn => ?_)
      clear h
      have h := hn
      clear hn
      refine zx_if_ne (pc := 25) (tgt := 31) G rfl (z_dec T_X11_check_ok 13 (25, .ifCond .ne 6, 3) rfl) (fun hc => ?_) (fun hc => ?_)
      · replace h := z_neg hc h
        refine zx_iconst (pc := 31) (v := 0) G (z_dec T_X11_check_ok 16 (31, .iconst 0, 1) rfl) rfl ?_
        refine zx_istore_n (pc := 32) (lv' := [(3, .int ((0 : Int32))), (0, .ref (0)), (1, .int (a1)), (2, .int (a2))]) G rfl (Nat.le_of_ble_eq_true rfl) rfl (z_dec T_X11_check_ok 17 (32, .istore_n 3, 1) rfl) ?_
        refine zx_iconst (pc := 33) (v := 0) G (z_dec T_X11_check_ok 18 (33, .iconst 0, 1) rfl) rfl ?_
        refine zx_istore (pc := 34) (lv' := [(4, .int ((0 : Int32))), (3, .int ((0 : Int32))), (0, .ref (0)), (1, .int (a1)), (2, .int (a2))]) G (Nat.le_of_ble_eq_true rfl) rfl (z_dec T_X11_check_ok 19 (34, .istore 4, 2) rfl) ?_
        refine zx_sub (lv' := [(0, .ref (0)), (1, .int (a1)), (2, .int (a2)), (3, .int ((0 : Int32))), (4, .int ((0 : Int32)))]) [2, 3, 4, 1, 0] rfl ?_
        exact L_X11_check_36_ok G hr hlk hI h_o h
      · replace h := z_pos hc h
        refine zx_bipush (pc := 28) (v := -2) G (z_dec T_X11_check_ok 14 (28, .bipush (-2), 2) rfl) rfl ?_
        exact zx_iret (pc := 30) G hr hlk (Nat.le_refl _) (Nat.le_refl _) (z_dec T_X11_check_ok 15 (30, .ireturn, 1) rfl) ⟨rfl, _, rfl, h⟩
abbrev rm_X11_countOfOne : Room := { frames := 2, cells := 0, slots := 0, locals := 40 }
set_option maxRecDepth 100000 in
set_option maxHeartbeats 4000000 in
theorem L_X11_countOfOne_46_ok {p : Program} {l : Launch} {e : Env} {s : State} {m : MethodId} {args : Array Value} {below : List Frame} {meth : Method} {c : Code} {D : va_G} {A : Nat → Prop} {ρ : z_A} {kd : z_K} {q : z_Q} {μ : z_M} {K : Int32 → z_M → Prop} {v1 : Int32} {t0 : Int32} (G : z_G p c cX11_countOfOne s m args RX11 3 D) (hr : meth.sig.returnType = (Option.some Jvm.ClassFile.FieldType.int)) (hlk : meth.locks = false) (hI : z_I kd q) (f_s1 : kd 0 = some (.inl 11)) (h : L_X11_countOfOne_46 kd q K v1 t0 μ) : z_X p l e rm_X11_countOfOne s m args below meth c 3 D A (MQ below (z_Qn D A ρ kd (z_Ki q K)) args s 0 0 A) 0 0 ρ kd q μ 46 [(1, .int (v1))] [.int (t0), .ref (0)] := by
    unfold L_X11_countOfOne_46 at h
    refine zx_callV_rN (pc := 46) (rm := rm_X11_raceAt) G cw_RX11_98 ⟨Nat.le_of_ble_eq_true rfl, Nat.le_of_ble_eq_true rfl⟩ rfl rfl ⟨Nat.zero_le _, Nat.zero_le _⟩ f_s1 rfl (fun sz => (met_X11_raceAt l D ρ kd q μ sz t0 _ hI f_s1 h)) rfl rfl (Nat.le_of_ble_eq_true rfl) (z_dec T_X11_countOfOne_ok 27 (46, .invokevirtual 98, 3) rfl) (fun r2 μ1 hfr2 hn => ?_)
    clear h
    have h := hn
    clear hn
    refine zx_astore_n (pc := 49) (lv' := [(2, va_rf (r2)), (1, .int (v1))]) G (r2) rfl (Nat.le_of_ble_eq_true rfl) rfl (z_dec T_X11_countOfOne_ok 28 (49, .astore_n 2, 1) rfl) ?_
    refine zx_aload_n (pc := 50) G (r2) 0 rfl rfl (z_dec T_X11_countOfOne_ok 29 (50, .aload_n 2, 1) rfl) ?_
    obtain ⟨h1, h2⟩ := h
    rcases r2 with _ | o3
    · replace h := h1 rfl
      refine zx_ifnonnullN (pc := 51) G  (z_dec T_X11_countOfOne_ok 30 (51, .ifnonnull 5, 3) rfl) ?_
      refine zx_iconst (pc := 54) (v := -1) G (z_dec T_X11_countOfOne_ok 31 (54, .iconst (-1), 1) rfl) rfl ?_
      exact zx_iret (pc := 55) G hr hlk (Nat.le_refl _) (Nat.le_refl _) (z_dec T_X11_countOfOne_ok 32 (55, .ireturn, 1) rfl) ⟨rfl, _, rfl, h⟩
    · replace h := h2 o3 rfl
      refine zx_ifnonnullS (pc := 51) (tgt := 56) G (hfr2 o3 rfl) rfl (z_dec T_X11_countOfOne_ok 30 (51, .ifnonnull 5, 3) rfl) ?_
      refine zx_iload_n (pc := 56) G 1 rfl rfl (z_dec T_X11_countOfOne_ok 33 (56, .iload_n 1, 1) rfl) ?_
      refine zx_bipush (pc := 57) (v := 20) G (z_dec T_X11_countOfOne_ok 34 (57, .bipush 20, 2) rfl) rfl ?_
      refine zx_icmp_lt (pc := 59) (tgt := 75) G rfl (z_dec T_X11_countOfOne_ok 35 (59, .if_icmp .lt 16, 3) rfl) (fun hc => ?_) (fun hc => ?_)
      · replace h := z_pos hc h
        refine zx_aload_n (pc := 75) G (some (o3)) 0 rfl rfl (z_dec T_X11_countOfOne_ok 43 (75, .aload_n 2, 1) rfl) ?_
        refine zx_callV_iN (pc := 76) (rm := rm_X6_runners) G cw_RX11_213 ⟨Nat.le_of_ble_eq_true rfl, Nat.le_of_ble_eq_true rfl⟩ rfl rfl ⟨Nat.zero_le _, Nat.zero_le _⟩ (hfr2 o3 rfl) rfl (fun sz => (met_X6_runners l D ρ kd q μ1 sz o3 _ hI (hfr2 o3 rfl) h)) rfl rfl (Nat.le_of_ble_eq_true rfl) (z_dec T_X11_countOfOne_ok 44 (76, .invokevirtual 213, 3) rfl) (fun r5 μ4 hn => ?_)
        clear h
        have h := hn
        clear hn
        exact zx_iret (pc := 79) G hr hlk (Nat.le_refl _) (Nat.le_refl _) (z_dec T_X11_countOfOne_ok 45 (79, .ireturn, 1) rfl) ⟨rfl, _, rfl, h⟩
      · replace h := z_neg hc h
        refine zx_aload_n (pc := 62) G (some (o3)) 0 rfl rfl (z_dec T_X11_countOfOne_ok 36 (62, .aload_n 2, 1) rfl) ?_
        refine zx_getZ (pc := 63) G gf_RX11_159 rfl (hfr2 o3 rfl) (z_dec T_X11_countOfOne_ok 37 (63, .getfield 159, 3) rfl) ?_
        refine zx_if_eq (pc := 66) (tgt := 73) G rfl (z_dec T_X11_countOfOne_ok 38 (66, .ifCond .eq 7, 3) rfl) (fun hc => ?_) (fun hc => ?_)
        · replace h := z_pos hc h
          refine zx_iconst (pc := 73) (v := 0) G (z_dec T_X11_countOfOne_ok 41 (73, .iconst 0, 1) rfl) rfl ?_
          exact zx_iret (pc := 74) G hr hlk (Nat.le_refl _) (Nat.le_refl _) (z_dec T_X11_countOfOne_ok 42 (74, .ireturn, 1) rfl) ⟨rfl, _, rfl, h⟩
        · replace h := z_neg hc h
          refine zx_iconst (pc := 69) (v := 1) G (z_dec T_X11_countOfOne_ok 39 (69, .iconst 1, 1) rfl) rfl ?_
          refine zx_goto (pc := 70) (tgt := 74) G rfl (z_dec T_X11_countOfOne_ok 40 (70, .goto 4, 3) rfl) ?_
          exact zx_iret (pc := 74) G hr hlk (Nat.le_refl _) (Nat.le_refl _) (z_dec T_X11_countOfOne_ok 42 (74, .ireturn, 1) rfl) ⟨rfl, _, rfl, h⟩
set_option maxRecDepth 100000 in
set_option maxHeartbeats 4000000 in
theorem met_X11_countOfOne (l : Launch) (D : va_G) (ρ : z_A) (kd : z_K) (q : z_Q) (μ : z_M) (sz : Nat) (a1 : Int32) (K : Int32 → z_M → Prop) (hI : z_I kd q) (h_o : kd 0 = some (.inl 11)) (h : C_X11_countOfOne kd q a1 μ K) : Met l yX11_countOfOne (z_ws yX11_countOfOne cX11_countOfOne 3 (Option.some Jvm.ClassFile.FieldType.int)) rm_X11_countOfOne (z_Pc D ρ kd q μ sz [.ref (0), .int (a1)]) (z_Qn D (z_Rg ρ sz) ρ kd (z_Ki q K)) 0 0 (z_Rg ρ sz) := by
  refine z_met (rm := rm_X11_countOfOne) (by decide) (Nat.le_of_ble_eq_true rfl) (fun p e s m args below meth c G hr hlk => ?_)
  unfold C_X11_countOfOne at h
  show z_X _ _ _ _ _ _ _ _ _ _ _ _ _ _ _ _ _ _ _ _ _ [(0, .ref (0)), (1, .int (a1))] _
  refine zx_iload_n (pc := 0) G 1 rfl rfl (z_dec T_X11_countOfOne_ok 0 (0, .iload_n 1, 1) rfl) ?_
  refine zx_bipush (pc := 1) (v := 30) G (z_dec T_X11_countOfOne_ok 1 (1, .bipush 30, 2) rfl) rfl ?_
  refine zx_icmp_lt (pc := 3) (tgt := 28) G rfl (z_dec T_X11_countOfOne_ok 2 (3, .if_icmp .lt 25, 3) rfl) (fun hc => ?_) (fun hc => ?_)
  · replace h := z_pos hc h
    refine zx_aload_n (pc := 28) G (some (0)) 0 rfl rfl (z_dec T_X11_countOfOne_ok 16 (28, .aload_n 0, 1) rfl) ?_
    refine zx_iload_n (pc := 29) G 1 rfl rfl (z_dec T_X11_countOfOne_ok 17 (29, .iload_n 1, 1) rfl) ?_
    refine zx_bipush (pc := 30) (v := 20) G (z_dec T_X11_countOfOne_ok 18 (30, .bipush 20, 2) rfl) rfl ?_
    refine zx_icmp_lt (pc := 32) (tgt := 42) G rfl (z_dec T_X11_countOfOne_ok 19 (32, .if_icmp .lt 10, 3) rfl) (fun hc => ?_) (fun hc => ?_)
    · replace h := z_pos hc h
      refine zx_iload_n (pc := 42) G 1 rfl rfl (z_dec T_X11_countOfOne_ok 24 (42, .iload_n 1, 1) rfl) ?_
      refine zx_bipush (pc := 43) (v := 10) G (z_dec T_X11_countOfOne_ok 25 (43, .bipush 10, 2) rfl) rfl ?_
      refine zx_isub (pc := 45) G  (z_dec T_X11_countOfOne_ok 26 (45, .isub, 1) rfl) ?_
      refine zx_sub (lv' := [(1, .int (a1))]) [1] rfl ?_
      exact L_X11_countOfOne_46_ok G hr hlk hI h_o h
    · replace h := z_neg hc h
      refine zx_iload_n (pc := 35) G 1 rfl rfl (z_dec T_X11_countOfOne_ok 20 (35, .iload_n 1, 1) rfl) ?_
      refine zx_bipush (pc := 36) (v := 20) G (z_dec T_X11_countOfOne_ok 21 (36, .bipush 20, 2) rfl) rfl ?_
      refine zx_isub (pc := 38) G  (z_dec T_X11_countOfOne_ok 22 (38, .isub, 1) rfl) ?_
      refine zx_goto (pc := 39) (tgt := 46) G rfl (z_dec T_X11_countOfOne_ok 23 (39, .goto 7, 3) rfl) ?_
      refine zx_sub (lv' := [(1, .int (a1))]) [1] rfl ?_
      exact L_X11_countOfOne_46_ok G hr hlk hI h_o h
  · replace h := z_neg hc h
    refine zx_aload_n (pc := 6) G (some (0)) 0 rfl rfl (z_dec T_X11_countOfOne_ok 3 (6, .aload_n 0, 1) rfl) ?_
    refine zx_iload_n (pc := 7) G 1 rfl rfl (z_dec T_X11_countOfOne_ok 4 (7, .iload_n 1, 1) rfl) ?_
    refine zx_bipush (pc := 8) (v := 30) G (z_dec T_X11_countOfOne_ok 5 (8, .bipush 30, 2) rfl) rfl ?_
    refine zx_isub (pc := 10) G  (z_dec T_X11_countOfOne_ok 6 (10, .isub, 1) rfl) ?_
    refine zx_callV_rN (pc := 11) (rm := rm_X11_bookAt) G cw_RX11_141 ⟨Nat.le_of_ble_eq_true rfl, Nat.le_of_ble_eq_true rfl⟩ rfl rfl ⟨Nat.zero_le _, Nat.zero_le _⟩ h_o rfl (fun sz => (met_X11_bookAt l D ρ kd q μ sz (a1 - ((30 : Int32))) _ hI h_o h)) rfl rfl (Nat.le_of_ble_eq_true rfl) (z_dec T_X11_countOfOne_ok 7 (11, .invokevirtual 141, 3) rfl) (fun r2 μ1 hfr2 hn => ?_)
    clear h
    have h := hn
    clear hn
    refine zx_astore_n (pc := 14) (lv' := [(2, va_rf (r2)), (0, .ref (0)), (1, .int (a1))]) G (r2) rfl (Nat.le_of_ble_eq_true rfl) rfl (z_dec T_X11_countOfOne_ok 8 (14, .astore_n 2, 1) rfl) ?_
    refine zx_aload_n (pc := 15) G (r2) 0 rfl rfl (z_dec T_X11_countOfOne_ok 9 (15, .aload_n 2, 1) rfl) ?_
    obtain ⟨h1, h2⟩ := h
    rcases r2 with _ | o3
    · replace h := h1 rfl
      refine zx_ifnonnullN (pc := 16) G  (z_dec T_X11_countOfOne_ok 10 (16, .ifnonnull 7, 3) rfl) ?_
      refine zx_iconst (pc := 19) (v := -1) G (z_dec T_X11_countOfOne_ok 11 (19, .iconst (-1), 1) rfl) rfl ?_
      refine zx_goto (pc := 20) (tgt := 27) G rfl (z_dec T_X11_countOfOne_ok 12 (20, .goto 7, 3) rfl) ?_
      exact zx_iret (pc := 27) G hr hlk (Nat.le_refl _) (Nat.le_refl _) (z_dec T_X11_countOfOne_ok 15 (27, .ireturn, 1) rfl) ⟨rfl, _, rfl, h⟩
    · replace h := h2 o3 rfl
      refine zx_ifnonnullS (pc := 16) (tgt := 23) G (hfr2 o3 rfl) rfl (z_dec T_X11_countOfOne_ok 10 (16, .ifnonnull 7, 3) rfl) ?_
      refine zx_aload_n (pc := 23) G (some (o3)) 0 rfl rfl (z_dec T_X11_countOfOne_ok 13 (23, .aload_n 2, 1) rfl) ?_
      refine zx_getI (pc := 24) G gf_RX11_402 rfl (hfr2 o3 rfl) (z_dec T_X11_countOfOne_ok 14 (24, .getfield 402, 3) rfl) ?_
      exact zx_iret (pc := 27) G hr hlk (Nat.le_refl _) (Nat.le_refl _) (z_dec T_X11_countOfOne_ok 15 (27, .ireturn, 1) rfl) ⟨rfl, _, rfl, h⟩
abbrev rm_X11_count : Room := { frames := 3, cells := 0, slots := 0, locals := 62 }
set_option maxRecDepth 100000 in
set_option maxHeartbeats 4000000 in
theorem met_X11_count (l : Launch) (D : va_G) (ρ : z_A) (kd : z_K) (q : z_Q) (μ : z_M) (sz : Nat) (a1 : Int32) (K : Int32 → z_M → Prop) (hI : z_I kd q) (h_o : kd 0 = some (.inl 11)) (h : C_X11_count kd q a1 μ K) : Met l yX11_count (z_ws yX11_count cX11_count 2 (Option.some Jvm.ClassFile.FieldType.int)) rm_X11_count (z_Pc D ρ kd q μ sz [.ref (0), .int (a1)]) (z_Qn D (z_Rg ρ sz) ρ kd (z_Ki q K)) 0 0 (z_Rg ρ sz) := by
  refine z_met (rm := rm_X11_count) (by decide) (Nat.le_of_ble_eq_true rfl) (fun p e s m args below meth c G hr hlk => ?_)
  unfold C_X11_count at h
  show z_X _ _ _ _ _ _ _ _ _ _ _ _ _ _ _ _ _ _ _ _ _ [(0, .ref (0)), (1, .int (a1))] _
  refine zx_iload_n (pc := 0) G 1 rfl rfl (z_dec T_X11_count_ok 0 (0, .iload_n 1, 1) rfl) ?_
  by_cases n1 : a1 = 0
  · replace h := z_pos n1 h
    refine zx_tableIn (pc := 1) (tgt := 40) (off := 39) G (by rw [n1]; decide) (by rw [n1]; decide) (by rw [n1]; rfl) rfl (z_dec T_X11_count_ok 1 (1, .tableswitch 75 0 5 #[39, 44, 49, 54, 59, 67], 39) rfl) ?_
    refine zx_aload_n (pc := 40) G (some (0)) 0 rfl rfl (z_dec T_X11_count_ok 2 (40, .aload_n 0, 1) rfl) ?_
    refine zx_getI (pc := 41) G gf_RX11_91 rfl h_o (z_dec T_X11_count_ok 3 (41, .getfield 91, 3) rfl) ?_
    exact zx_iret (pc := 44) G hr hlk (Nat.le_refl _) (Nat.le_refl _) (z_dec T_X11_count_ok 4 (44, .ireturn, 1) rfl) ⟨rfl, _, rfl, h⟩
  replace h := z_neg n1 h
  by_cases n2 : a1 = 1
  · replace h := z_pos n2 h
    refine zx_tableIn (pc := 1) (tgt := 45) (off := 44) G (by rw [n2]; decide) (by rw [n2]; decide) (by rw [n2]; rfl) rfl (z_dec T_X11_count_ok 1 (1, .tableswitch 75 0 5 #[39, 44, 49, 54, 59, 67], 39) rfl) ?_
    refine zx_aload_n (pc := 45) G (some (0)) 0 rfl rfl (z_dec T_X11_count_ok 5 (45, .aload_n 0, 1) rfl) ?_
    refine zx_getI (pc := 46) G gf_RX11_95 rfl h_o (z_dec T_X11_count_ok 6 (46, .getfield 95, 3) rfl) ?_
    exact zx_iret (pc := 49) G hr hlk (Nat.le_refl _) (Nat.le_refl _) (z_dec T_X11_count_ok 7 (49, .ireturn, 1) rfl) ⟨rfl, _, rfl, h⟩
  replace h := z_neg n2 h
  by_cases n3 : a1 = 2
  · replace h := z_pos n3 h
    refine zx_tableIn (pc := 1) (tgt := 50) (off := 49) G (by rw [n3]; decide) (by rw [n3]; decide) (by rw [n3]; rfl) rfl (z_dec T_X11_count_ok 1 (1, .tableswitch 75 0 5 #[39, 44, 49, 54, 59, 67], 39) rfl) ?_
    refine zx_aload_n (pc := 50) G (some (0)) 0 rfl rfl (z_dec T_X11_count_ok 8 (50, .aload_n 0, 1) rfl) ?_
    refine zx_getI (pc := 51) G gf_RX11_114 rfl h_o (z_dec T_X11_count_ok 9 (51, .getfield 114, 3) rfl) ?_
    exact zx_iret (pc := 54) G hr hlk (Nat.le_refl _) (Nat.le_refl _) (z_dec T_X11_count_ok 10 (54, .ireturn, 1) rfl) ⟨rfl, _, rfl, h⟩
  replace h := z_neg n3 h
  by_cases n4 : a1 = 3
  · replace h := z_pos n4 h
    refine zx_tableIn (pc := 1) (tgt := 55) (off := 54) G (by rw [n4]; decide) (by rw [n4]; decide) (by rw [n4]; rfl) rfl (z_dec T_X11_count_ok 1 (1, .tableswitch 75 0 5 #[39, 44, 49, 54, 59, 67], 39) rfl) ?_
    refine zx_aload_n (pc := 55) G (some (0)) 0 rfl rfl (z_dec T_X11_count_ok 11 (55, .aload_n 0, 1) rfl) ?_
    refine zx_getI (pc := 56) G gf_RX11_194 rfl h_o (z_dec T_X11_count_ok 12 (56, .getfield 194, 3) rfl) ?_
    exact zx_iret (pc := 59) G hr hlk (Nat.le_refl _) (Nat.le_refl _) (z_dec T_X11_count_ok 13 (59, .ireturn, 1) rfl) ⟨rfl, _, rfl, h⟩
  replace h := z_neg n4 h
  by_cases n5 : a1 = 4
  · replace h := z_pos n5 h
    refine zx_tableIn (pc := 1) (tgt := 60) (off := 59) G (by rw [n5]; decide) (by rw [n5]; decide) (by rw [n5]; rfl) rfl (z_dec T_X11_count_ok 1 (1, .tableswitch 75 0 5 #[39, 44, 49, 54, 59, 67], 39) rfl) ?_
    refine zx_aload_n (pc := 60) G (some (0)) 0 rfl rfl (z_dec T_X11_count_ok 14 (60, .aload_n 0, 1) rfl) ?_
    refine zx_getF (pc := 61) (b := 3) G gf_RX11_19 rfl h_o (zq_11_1 hI h_o) (z_dec T_X11_count_ok 15 (61, .getfield 19, 3) rfl) ?_
    refine zx_getI (pc := 64) G gf_RX11_128 rfl (zk_11_1 hI h_o) (z_dec T_X11_count_ok 16 (64, .getfield 128, 3) rfl) ?_
    exact zx_iret (pc := 67) G hr hlk (Nat.le_refl _) (Nat.le_refl _) (z_dec T_X11_count_ok 17 (67, .ireturn, 1) rfl) ⟨rfl, _, rfl, h⟩
  replace h := z_neg n5 h
  by_cases n6 : a1 = 5
  · replace h := z_pos n6 h
    refine zx_tableIn (pc := 1) (tgt := 68) (off := 67) G (by rw [n6]; decide) (by rw [n6]; decide) (by rw [n6]; rfl) rfl (z_dec T_X11_count_ok 1 (1, .tableswitch 75 0 5 #[39, 44, 49, 54, 59, 67], 39) rfl) ?_
    refine zx_aload_n (pc := 68) G (some (0)) 0 rfl rfl (z_dec T_X11_count_ok 18 (68, .aload_n 0, 1) rfl) ?_
    refine zx_getF (pc := 69) (b := 1) G gf_RX11_12 rfl h_o (zq_11_0 hI h_o) (z_dec T_X11_count_ok 19 (69, .getfield 12, 3) rfl) ?_
    refine zx_getI (pc := 72) G gf_RX11_125 rfl (zk_11_0 hI h_o) (z_dec T_X11_count_ok 20 (72, .getfield 125, 3) rfl) ?_
    exact zx_iret (pc := 75) G hr hlk (Nat.le_refl _) (Nat.le_refl _) (z_dec T_X11_count_ok 21 (75, .ireturn, 1) rfl) ⟨rfl, _, rfl, h⟩
  replace h := z_neg n6 h
  -- default
  by_cases hr1 : a1.toInt < 0 ∨ 5 < a1.toInt
  · refine zx_tableOut (pc := 1) (tgt := 76) G hr1 rfl (z_dec T_X11_count_ok 1 (1, .tableswitch 75 0 5 #[39, 44, 49, 54, 59, 67], 39) rfl) ?_
    refine zx_aload_n (pc := 76) G (some (0)) 0 rfl rfl (z_dec T_X11_count_ok 22 (76, .aload_n 0, 1) rfl) ?_
    refine zx_iload_n (pc := 77) G 1 rfl rfl (z_dec T_X11_count_ok 23 (77, .iload_n 1, 1) rfl) ?_
    refine zx_callV_iN (pc := 78) (rm := rm_X11_countOfOne) G cw_RX11_399 ⟨Nat.le_of_ble_eq_true rfl, Nat.le_of_ble_eq_true rfl⟩ rfl rfl ⟨Nat.zero_le _, Nat.zero_le _⟩ h_o rfl (fun sz => (met_X11_countOfOne l D ρ kd q μ sz a1 _ hI h_o h)) rfl rfl (Nat.le_of_ble_eq_true rfl) (z_dec T_X11_count_ok 24 (78, .invokevirtual 399, 3) rfl) (fun r8 μ7 hn => ?_)
    clear h
    have h := hn
    clear hn
    exact zx_iret (pc := 81) G hr hlk (Nat.le_refl _) (Nat.le_refl _) (z_dec T_X11_count_ok 25 (81, .ireturn, 1) rfl) ⟨rfl, _, rfl, h⟩
  · exfalso
    have t1 : ¬ a1.toInt < 0 := fun q => hr1 (Or.inl q)
    have t2 : ¬ 5 < a1.toInt := fun q => hr1 (Or.inr q)
    have u0 : ¬ a1.toInt = 0 := lv_neT n1 rfl
    have u1 : ¬ a1.toInt = 1 := lv_neT n2 rfl
    have u2 : ¬ a1.toInt = 2 := lv_neT n3 rfl
    have u3 : ¬ a1.toInt = 3 := lv_neT n4 rfl
    have u4 : ¬ a1.toInt = 4 := lv_neT n5 rfl
    have u5 : ¬ a1.toInt = 5 := lv_neT n6 rfl
    omega
abbrev rm_X11_mayBet : Room := { frames := 1, cells := 0, slots := 0, locals := 20 }
set_option maxRecDepth 100000 in
set_option maxHeartbeats 4000000 in
theorem met_X11_mayBet (l : Launch) (D : va_G) (ρ : z_A) (kd : z_K) (q : z_Q) (μ : z_M) (sz : Nat) (a1 : Int32) (a2 : Option Nat) (a3 : Int32) (K : Int32 → z_M → Prop) (hI : z_I kd q) (h_o : kd 0 = some (.inl 11)) (h_a2 : ∀ a, a2 = some a → kd a = some (.inl 1)) (h : C_X11_mayBet kd q a1 a2 a3 μ K) : Met l yX11_mayBet (z_ws yX11_mayBet cX11_mayBet 4 (Option.some Jvm.ClassFile.FieldType.boolean)) rm_X11_mayBet (z_Pc D ρ kd q μ sz [.ref (0), .int (a1), va_rf (a2), .int (a3)]) (z_Qn D (z_Rg ρ sz) ρ kd (z_Kz q K)) 0 0 (z_Rg ρ sz) := by
  refine z_met (rm := rm_X11_mayBet) (by decide) (by cases a2 <;> exact Nat.le_of_ble_eq_true rfl) (fun p e s m args below meth c G hr hlk => ?_)
  unfold C_X11_mayBet at h
  rw [show lv_args 0 [.ref (0), .int (a1), va_rf (a2), .int (a3)] = [(0, .ref (0)), (1, .int (a1)), (2, va_rf (a2)), (3, .int (a3))] from by cases a2 <;> rfl]
  refine zx_iload_n (pc := 0) G 1 rfl rfl (z_dec T_X11_mayBet_ok 0 (0, .iload_n 1, 1) rfl) ?_
  refine zx_callS_zN (pc := 1) (rm := rm_X11_isBettor) G cw_RX11_336 ⟨Nat.le_of_ble_eq_true rfl, Nat.le_of_ble_eq_true rfl⟩ rfl rfl ⟨Nat.zero_le _, Nat.zero_le _⟩ (fun sz => (met_X11_isBettor l D ρ kd q μ sz a1 _ hI h)) rfl rfl (Nat.le_of_ble_eq_true rfl) (z_dec T_X11_mayBet_ok 1 (1, .invokestatic 336, 3) rfl) (fun r2 μ1 hzr2 hn => ?_)
  clear h
  have h := hn
  clear hn
  refine zx_if_eq (pc := 4) (tgt := 38) G rfl (z_dec T_X11_mayBet_ok 2 (4, .ifCond .eq 34, 3) rfl) (fun hc => ?_) (fun hc => ?_)
  · replace h := z_pos hc h
    refine zx_iconst (pc := 38) (v := 0) G (z_dec T_X11_mayBet_ok 17 (38, .iconst 0, 1) rfl) rfl ?_
    exact zx_zret (pc := 39) G hr hlk (Nat.le_refl _) (Nat.le_refl _) (Or.inl rfl) (z_dec T_X11_mayBet_ok 18 (39, .ireturn, 1) rfl) ⟨rfl, _, rfl, (Or.inl rfl), h⟩
  · replace h := z_neg hc h
    refine zx_aload_n (pc := 7) G (a2) 2 rfl rfl (z_dec T_X11_mayBet_ok 3 (7, .aload_n 2, 1) rfl) ?_
    obtain ⟨h1, h2⟩ := h
    rcases a2 with _ | o3
    · replace h := h1 rfl
      refine zx_ifnullN (pc := 8) (tgt := 38) G rfl (z_dec T_X11_mayBet_ok 4 (8, .ifnull 30, 3) rfl) ?_
      refine zx_iconst (pc := 38) (v := 0) G (z_dec T_X11_mayBet_ok 17 (38, .iconst 0, 1) rfl) rfl ?_
      exact zx_zret (pc := 39) G hr hlk (Nat.le_refl _) (Nat.le_refl _) (Or.inl rfl) (z_dec T_X11_mayBet_ok 18 (39, .ireturn, 1) rfl) ⟨rfl, _, rfl, (Or.inl rfl), h⟩
    · replace h := h2 o3 rfl
      refine zx_ifnullS (pc := 8) G (h_a2 o3 rfl) (z_dec T_X11_mayBet_ok 4 (8, .ifnull 30, 3) rfl) ?_
      refine zx_aload_n (pc := 11) G (some (o3)) 2 rfl rfl (z_dec T_X11_mayBet_ok 5 (11, .aload_n 2, 1) rfl) ?_
      refine zx_getZ (pc := 12) G gf_RX11_278 rfl (h_a2 o3 rfl) (z_dec T_X11_mayBet_ok 6 (12, .getfield 278, 3) rfl) ?_
      refine zx_if_ne (pc := 15) (tgt := 38) G rfl (z_dec T_X11_mayBet_ok 7 (15, .ifCond .ne 23, 3) rfl) (fun hc => ?_) (fun hc => ?_)
      · replace h := z_neg hc h
        refine zx_iconst (pc := 38) (v := 0) G (z_dec T_X11_mayBet_ok 17 (38, .iconst 0, 1) rfl) rfl ?_
        exact zx_zret (pc := 39) G hr hlk (Nat.le_refl _) (Nat.le_refl _) (Or.inl rfl) (z_dec T_X11_mayBet_ok 18 (39, .ireturn, 1) rfl) ⟨rfl, _, rfl, (Or.inl rfl), h⟩
      · replace h := z_pos hc h
        refine zx_iload_n (pc := 18) G 3 rfl rfl (z_dec T_X11_mayBet_ok 8 (18, .iload_n 3, 1) rfl) ?_
        refine zx_callS_zN (pc := 19) (rm := rm_X11_isStake) G cw_RX11_339 ⟨Nat.le_of_ble_eq_true rfl, Nat.le_of_ble_eq_true rfl⟩ rfl rfl ⟨Nat.zero_le _, Nat.zero_le _⟩ (fun sz => (met_X11_isStake l D ρ kd q μ1 sz a3 _ hI h)) rfl rfl (Nat.le_of_ble_eq_true rfl) (z_dec T_X11_mayBet_ok 9 (19, .invokestatic 339, 3) rfl) (fun r5 μ4 hzr5 hn => ?_)
        clear h
        have h := hn
        clear hn
        refine zx_if_eq (pc := 22) (tgt := 38) G rfl (z_dec T_X11_mayBet_ok 10 (22, .ifCond .eq 16, 3) rfl) (fun hc => ?_) (fun hc => ?_)
        · replace h := z_pos hc h
          refine zx_iconst (pc := 38) (v := 0) G (z_dec T_X11_mayBet_ok 17 (38, .iconst 0, 1) rfl) rfl ?_
          exact zx_zret (pc := 39) G hr hlk (Nat.le_refl _) (Nat.le_refl _) (Or.inl rfl) (z_dec T_X11_mayBet_ok 18 (39, .ireturn, 1) rfl) ⟨rfl, _, rfl, (Or.inl rfl), h⟩
        · replace h := z_neg hc h
          refine zx_aload_n (pc := 25) G (some (0)) 0 rfl rfl (z_dec T_X11_mayBet_ok 11 (25, .aload_n 0, 1) rfl) ?_
          refine zx_getI (pc := 26) G gf_RX11_194 rfl h_o (z_dec T_X11_mayBet_ok 12 (26, .getfield 194, 3) rfl) ?_
          refine zx_bipush (pc := 29) (v := 80) G (z_dec T_X11_mayBet_ok 13 (29, .bipush 80, 2) rfl) rfl ?_
          refine zx_icmp_ge (pc := 31) (tgt := 38) G rfl (z_dec T_X11_mayBet_ok 14 (31, .if_icmp .ge 7, 3) rfl) (fun hc => ?_) (fun hc => ?_)
          · replace h := z_pos hc h
            refine zx_iconst (pc := 38) (v := 0) G (z_dec T_X11_mayBet_ok 17 (38, .iconst 0, 1) rfl) rfl ?_
            exact zx_zret (pc := 39) G hr hlk (Nat.le_refl _) (Nat.le_refl _) (Or.inl rfl) (z_dec T_X11_mayBet_ok 18 (39, .ireturn, 1) rfl) ⟨rfl, _, rfl, (Or.inl rfl), h⟩
          · replace h := z_neg hc h
            refine zx_iconst (pc := 34) (v := 1) G (z_dec T_X11_mayBet_ok 15 (34, .iconst 1, 1) rfl) rfl ?_
            refine zx_goto (pc := 35) (tgt := 39) G rfl (z_dec T_X11_mayBet_ok 16 (35, .goto 4, 3) rfl) ?_
            exact zx_zret (pc := 39) G hr hlk (Nat.le_refl _) (Nat.le_refl _) (Or.inr rfl) (z_dec T_X11_mayBet_ok 18 (39, .ireturn, 1) rfl) ⟨rfl, _, rfl, (Or.inr rfl), h⟩
abbrev rm_X11_standsOpen : Room := { frames := 1, cells := 0, slots := 0, locals := 21 }
set_option maxRecDepth 100000 in
set_option maxHeartbeats 4000000 in
theorem met_X11_standsOpen (l : Launch) (D : va_G) (ρ : z_A) (kd : z_K) (q : z_Q) (μ : z_M) (sz : Nat) (a1 : Option Nat) (a2 : Int32) (a3 : Int32) (K : Int32 → z_M → Prop) (hI : z_I kd q) (h_o : kd 0 = some (.inl 11)) (h_a1 : ∀ a, a1 = some a → kd a = some (.inl 1)) (h : C_X11_standsOpen kd q a1 a2 a3 μ K) : Met l yX11_standsOpen (z_ws yX11_standsOpen cX11_standsOpen 5 (Option.some Jvm.ClassFile.FieldType.boolean)) rm_X11_standsOpen (z_Pc D ρ kd q μ sz [.ref (0), va_rf (a1), .int (a2), .int (a3)]) (z_Qn D (z_Rg ρ sz) ρ kd (z_Kz q K)) 0 0 (z_Rg ρ sz) := by
  refine z_met (rm := rm_X11_standsOpen) (by decide) (by cases a1 <;> exact Nat.le_of_ble_eq_true rfl) (fun p e s m args below meth c G hr hlk => ?_)
  unfold C_X11_standsOpen at h
  rw [show lv_args 0 [.ref (0), va_rf (a1), .int (a2), .int (a3)] = [(0, .ref (0)), (1, va_rf (a1)), (2, .int (a2)), (3, .int (a3))] from by cases a1 <;> rfl]
  refine zx_aload_n (pc := 0) G (some (0)) 0 rfl rfl (z_dec T_X11_standsOpen_ok 0 (0, .aload_n 0, 1) rfl) ?_
  refine zx_iload_n (pc := 1) G 2 rfl rfl (z_dec T_X11_standsOpen_ok 1 (1, .iload_n 2, 1) rfl) ?_
  refine zx_callV_rN (pc := 2) (rm := rm_X11_raceAt) G cw_RX11_98 ⟨Nat.le_of_ble_eq_true rfl, Nat.le_of_ble_eq_true rfl⟩ rfl rfl ⟨Nat.zero_le _, Nat.zero_le _⟩ h_o rfl (fun sz => (met_X11_raceAt l D ρ kd q μ sz a2 _ hI h_o h)) rfl rfl (Nat.le_of_ble_eq_true rfl) (z_dec T_X11_standsOpen_ok 2 (2, .invokevirtual 98, 3) rfl) (fun r2 μ1 hfr2 hn => ?_)
  clear h
  have h := hn
  clear hn
  refine zx_astore (pc := 5) (lv' := [(4, va_rf (r2)), (0, .ref (0)), (1, va_rf (a1)), (2, .int (a2)), (3, .int (a3))]) G (r2) (Nat.le_of_ble_eq_true rfl) rfl (z_dec T_X11_standsOpen_ok 3 (5, .astore 4, 2) rfl) ?_
  refine zx_aload_n (pc := 7) G (a1) 2 rfl rfl (z_dec T_X11_standsOpen_ok 4 (7, .aload_n 1, 1) rfl) ?_
  obtain ⟨h1, h2⟩ := h
  rcases a1 with _ | o3
  · replace h := h1 rfl
    refine zx_ifnullN (pc := 8) (tgt := 33) G rfl (z_dec T_X11_standsOpen_ok 5 (8, .ifnull 25, 3) rfl) ?_
    refine zx_iconst (pc := 33) (v := 0) G (z_dec T_X11_standsOpen_ok 15 (33, .iconst 0, 1) rfl) rfl ?_
    exact zx_zret (pc := 34) G hr hlk (Nat.le_refl _) (Nat.le_refl _) (Or.inl rfl) (z_dec T_X11_standsOpen_ok 16 (34, .ireturn, 1) rfl) ⟨rfl, _, rfl, (Or.inl rfl), h⟩
  · replace h := h2 o3 rfl
    refine zx_ifnullS (pc := 8) G (h_a1 o3 rfl) (z_dec T_X11_standsOpen_ok 5 (8, .ifnull 25, 3) rfl) ?_
    refine zx_aload (pc := 11) G (r2) 0 rfl (z_dec T_X11_standsOpen_ok 6 (11, .aload 4, 2) rfl) ?_
    obtain ⟨h1, h2⟩ := h
    rcases r2 with _ | o4
    · replace h := h1 rfl
      refine zx_ifnullN (pc := 13) (tgt := 33) G rfl (z_dec T_X11_standsOpen_ok 7 (13, .ifnull 20, 3) rfl) ?_
      refine zx_iconst (pc := 33) (v := 0) G (z_dec T_X11_standsOpen_ok 15 (33, .iconst 0, 1) rfl) rfl ?_
      exact zx_zret (pc := 34) G hr hlk (Nat.le_refl _) (Nat.le_refl _) (Or.inl rfl) (z_dec T_X11_standsOpen_ok 16 (34, .ireturn, 1) rfl) ⟨rfl, _, rfl, (Or.inl rfl), h⟩
    · replace h := h2 o4 rfl
      refine zx_ifnullS (pc := 13) G (hfr2 o4 rfl) (z_dec T_X11_standsOpen_ok 7 (13, .ifnull 20, 3) rfl) ?_
      refine zx_aload (pc := 16) G (some (o4)) 0 rfl (z_dec T_X11_standsOpen_ok 8 (16, .aload 4, 2) rfl) ?_
      refine zx_getZ (pc := 18) G gf_RX11_159 rfl (hfr2 o4 rfl) (z_dec T_X11_standsOpen_ok 9 (18, .getfield 159, 3) rfl) ?_
      refine zx_if_ne (pc := 21) (tgt := 33) G rfl (z_dec T_X11_standsOpen_ok 10 (21, .ifCond .ne 12, 3) rfl) (fun hc => ?_) (fun hc => ?_)
      · replace h := z_neg hc h
        refine zx_iconst (pc := 33) (v := 0) G (z_dec T_X11_standsOpen_ok 15 (33, .iconst 0, 1) rfl) rfl ?_
        exact zx_zret (pc := 34) G hr hlk (Nat.le_refl _) (Nat.le_refl _) (Or.inl rfl) (z_dec T_X11_standsOpen_ok 16 (34, .ireturn, 1) rfl) ⟨rfl, _, rfl, (Or.inl rfl), h⟩
      · replace h := z_pos hc h
        refine zx_aload (pc := 24) G (some (o4)) 0 rfl (z_dec T_X11_standsOpen_ok 11 (24, .aload 4, 2) rfl) ?_
        refine zx_iload_n (pc := 26) G 4 rfl rfl (z_dec T_X11_standsOpen_ok 12 (26, .iload_n 3, 1) rfl) ?_
        refine zx_callV_zN (pc := 27) (rm := rm_X6_holds) G cw_RX11_172 ⟨Nat.le_of_ble_eq_true rfl, Nat.le_of_ble_eq_true rfl⟩ rfl rfl ⟨Nat.zero_le _, Nat.zero_le _⟩ (hfr2 o4 rfl) rfl (fun sz => (met_X6_holds l D ρ kd q μ1 sz o4 a3 _ hI (hfr2 o4 rfl) h)) rfl rfl (Nat.le_of_ble_eq_true rfl) (z_dec T_X11_standsOpen_ok 13 (27, .invokevirtual 172, 3) rfl) (fun r6 μ5 hzr6 hn => ?_)
        clear h
        have h := hn
        clear hn
        refine zx_if_ne (pc := 30) (tgt := 35) G rfl (z_dec T_X11_standsOpen_ok 14 (30, .ifCond .ne 5, 3) rfl) (fun hc => ?_) (fun hc => ?_)
        · replace h := z_neg hc h
          refine zx_aload_n (pc := 35) G (some (o3)) 2 rfl rfl (z_dec T_X11_standsOpen_ok 17 (35, .aload_n 1, 1) rfl) ?_
          refine zx_getF (pc := 36) (b := o3 + 1) G gf_RX11_166 rfl (h_a1 o3 rfl) (zq_1_3 hI (h_a1 o3 rfl)) (z_dec T_X11_standsOpen_ok 18 (36, .getfield 166, 3) rfl) ?_
          refine zx_iload_n (pc := 39) G 3 rfl rfl (z_dec T_X11_standsOpen_ok 19 (39, .iload_n 2, 1) rfl) ?_
          refine zx_iload_n (pc := 40) G 4 rfl rfl (z_dec T_X11_standsOpen_ok 20 (40, .iload_n 3, 1) rfl) ?_
          refine zx_callS_iN (pc := 41) (rm := rm_X11_spot) G cw_RX11_168 ⟨Nat.le_of_ble_eq_true rfl, Nat.le_of_ble_eq_true rfl⟩ rfl rfl ⟨Nat.zero_le _, Nat.zero_le _⟩ (fun sz => (met_X11_spot l D ρ kd q μ5 sz a2 a3 _ hI h)) rfl rfl (Nat.le_of_ble_eq_true rfl) (z_dec T_X11_standsOpen_ok 21 (41, .invokestatic 168, 3) rfl) (fun r8 μ7 hn => ?_)
          clear h
          have h := hn
          clear hn
          obtain ⟨c9, h⟩ := h
          refine zx_iald (pc := 44) G (zk_1_3 hI (h_a1 o3 rfl)) c9 (z_dec T_X11_standsOpen_ok 22 (44, .iaload, 1) rfl) ?_
          refine zx_iconst (pc := 45) (v := -1) G (z_dec T_X11_standsOpen_ok 23 (45, .iconst (-1), 1) rfl) rfl ?_
          refine zx_icmp_eq (pc := 46) (tgt := 53) G rfl (z_dec T_X11_standsOpen_ok 24 (46, .if_icmp .eq 7, 3) rfl) (fun hc => ?_) (fun hc => ?_)
          · replace h := z_pos hc h
            refine zx_iconst (pc := 53) (v := 0) G (z_dec T_X11_standsOpen_ok 27 (53, .iconst 0, 1) rfl) rfl ?_
            exact zx_zret (pc := 54) G hr hlk (Nat.le_refl _) (Nat.le_refl _) (Or.inl rfl) (z_dec T_X11_standsOpen_ok 28 (54, .ireturn, 1) rfl) ⟨rfl, _, rfl, (Or.inl rfl), h⟩
          · replace h := z_neg hc h
            refine zx_iconst (pc := 49) (v := 1) G (z_dec T_X11_standsOpen_ok 25 (49, .iconst 1, 1) rfl) rfl ?_
            refine zx_goto (pc := 50) (tgt := 54) G rfl (z_dec T_X11_standsOpen_ok 26 (50, .goto 4, 3) rfl) ?_
            exact zx_zret (pc := 54) G hr hlk (Nat.le_refl _) (Nat.le_refl _) (Or.inr rfl) (z_dec T_X11_standsOpen_ok 28 (54, .ireturn, 1) rfl) ⟨rfl, _, rfl, (Or.inr rfl), h⟩
        · replace h := z_pos hc h
          refine zx_iconst (pc := 33) (v := 0) G (z_dec T_X11_standsOpen_ok 15 (33, .iconst 0, 1) rfl) rfl ?_
          exact zx_zret (pc := 34) G hr hlk (Nat.le_refl _) (Nat.le_refl _) (Or.inl rfl) (z_dec T_X11_standsOpen_ok 16 (34, .ireturn, 1) rfl) ⟨rfl, _, rfl, (Or.inl rfl), h⟩
abbrev rm_X11_mayJoin : Room := { frames := 2, cells := 0, slots := 0, locals := 45 }
set_option maxRecDepth 100000 in
set_option maxHeartbeats 4000000 in
theorem met_X11_mayJoin (l : Launch) (D : va_G) (ρ : z_A) (kd : z_K) (q : z_Q) (μ : z_M) (sz : Nat) (a1 : Option Nat) (a2 : Int32) (a3 : Int32) (K : Int32 → z_M → Prop) (hI : z_I kd q) (h_o : kd 0 = some (.inl 11)) (h_a1 : ∀ a, a1 = some a → kd a = some (.inl 1)) (h : C_X11_mayJoin kd q a1 a2 a3 μ K) : Met l yX11_mayJoin (z_ws yX11_mayJoin cX11_mayJoin 4 (Option.some Jvm.ClassFile.FieldType.boolean)) rm_X11_mayJoin (z_Pc D ρ kd q μ sz [.ref (0), va_rf (a1), .int (a2), .int (a3)]) (z_Qn D (z_Rg ρ sz) ρ kd (z_Kz q K)) 0 0 (z_Rg ρ sz) := by
  refine z_met (rm := rm_X11_mayJoin) (by decide) (by cases a1 <;> exact Nat.le_of_ble_eq_true rfl) (fun p e s m args below meth c G hr hlk => ?_)
  unfold C_X11_mayJoin at h
  rw [show lv_args 0 [.ref (0), va_rf (a1), .int (a2), .int (a3)] = [(0, .ref (0)), (1, va_rf (a1)), (2, .int (a2)), (3, .int (a3))] from by cases a1 <;> rfl]
  refine zx_iload_n (pc := 0) G 3 rfl rfl (z_dec T_X11_mayJoin_ok 0 (0, .iload_n 3, 1) rfl) ?_
  refine zx_iconst (pc := 1) (v := -1) G (z_dec T_X11_mayJoin_ok 1 (1, .iconst (-1), 1) rfl) rfl ?_
  refine zx_icmp_eq (pc := 2) (tgt := 15) G rfl (z_dec T_X11_mayJoin_ok 2 (2, .if_icmp .eq 13, 3) rfl) (fun hc => ?_) (fun hc => ?_)
  · replace h := z_pos hc h
    refine zx_iconst (pc := 15) (v := 1) G (z_dec T_X11_mayJoin_ok 9 (15, .iconst 1, 1) rfl) rfl ?_
    refine zx_goto (pc := 16) (tgt := 20) G rfl (z_dec T_X11_mayJoin_ok 10 (16, .goto 4, 3) rfl) ?_
    exact zx_zret (pc := 20) G hr hlk (Nat.le_refl _) (Nat.le_refl _) (Or.inr rfl) (z_dec T_X11_mayJoin_ok 12 (20, .ireturn, 1) rfl) ⟨rfl, _, rfl, (Or.inr rfl), h⟩
  · replace h := z_neg hc h
    refine zx_aload_n (pc := 5) G (some (0)) 0 rfl rfl (z_dec T_X11_mayJoin_ok 3 (5, .aload_n 0, 1) rfl) ?_
    refine zx_aload_n (pc := 6) G (a1) 1 rfl rfl (z_dec T_X11_mayJoin_ok 4 (6, .aload_n 1, 1) rfl) ?_
    refine zx_iload_n (pc := 7) G 2 rfl rfl (z_dec T_X11_mayJoin_ok 5 (7, .iload_n 2, 1) rfl) ?_
    refine zx_iload_n (pc := 8) G 3 rfl rfl (z_dec T_X11_mayJoin_ok 6 (8, .iload_n 3, 1) rfl) ?_
    refine zx_callV_zN (pc := 9) (rm := rm_X11_standsOpen) G cw_RX11_177 ⟨Nat.le_of_ble_eq_true rfl, Nat.le_of_ble_eq_true rfl⟩ rfl rfl ⟨Nat.zero_le _, Nat.zero_le _⟩ h_o rfl (fun sz => (met_X11_standsOpen l D ρ kd q μ sz a1 a2 a3 _ hI h_o h_a1 h)) rfl rfl (Nat.le_of_ble_eq_true rfl) (z_dec T_X11_mayJoin_ok 7 (9, .invokevirtual 177, 3) rfl) (fun r2 μ1 hzr2 hn => ?_)
    clear h
    have h := hn
    clear hn
    refine zx_if_eq (pc := 12) (tgt := 19) G rfl (z_dec T_X11_mayJoin_ok 8 (12, .ifCond .eq 7, 3) rfl) (fun hc => ?_) (fun hc => ?_)
    · replace h := z_pos hc h
      refine zx_iconst (pc := 19) (v := 0) G (z_dec T_X11_mayJoin_ok 11 (19, .iconst 0, 1) rfl) rfl ?_
      exact zx_zret (pc := 20) G hr hlk (Nat.le_refl _) (Nat.le_refl _) (Or.inl rfl) (z_dec T_X11_mayJoin_ok 12 (20, .ireturn, 1) rfl) ⟨rfl, _, rfl, (Or.inl rfl), h⟩
    · replace h := z_neg hc h
      refine zx_iconst (pc := 15) (v := 1) G (z_dec T_X11_mayJoin_ok 9 (15, .iconst 1, 1) rfl) rfl ?_
      refine zx_goto (pc := 16) (tgt := 20) G rfl (z_dec T_X11_mayJoin_ok 10 (16, .goto 4, 3) rfl) ?_
      exact zx_zret (pc := 20) G hr hlk (Nat.le_refl _) (Nat.le_refl _) (Or.inr rfl) (z_dec T_X11_mayJoin_ok 12 (20, .ireturn, 1) rfl) ⟨rfl, _, rfl, (Or.inr rfl), h⟩
abbrev rm_X11_takeIfAny : Room := { frames := 1, cells := 0, slots := 0, locals := 23 }
set_option maxRecDepth 100000 in
set_option maxHeartbeats 4000000 in
theorem met_X11_takeIfAny (l : Launch) (D : va_G) (ρ : z_A) (kd : z_K) (q : z_Q) (μ : z_M) (sz : Nat) (a1 : Option Nat) (a2 : Option Nat) (a3 : Int32) (a4 : Int32) (K : z_M → Prop) (hI : z_I kd q) (h_o : kd 0 = some (.inl 11)) (h_a1 : ∀ a, a1 = some a → kd a = some (.inl 0)) (h_a2 : ∀ a, a2 = some a → kd a = some (.inl 1)) (h : C_X11_takeIfAny kd q a1 a2 a3 a4 μ K) : Met l yX11_takeIfAny (z_ws yX11_takeIfAny cX11_takeIfAny 5 (Option.none : Option Jvm.ClassFile.FieldType)) rm_X11_takeIfAny (z_Pc D ρ kd q μ sz [.ref (0), va_rf (a1), va_rf (a2), .int (a3), .int (a4)]) (z_Qn D (z_Rg ρ sz) ρ kd (z_Kv q K)) 0 0 (z_Rg ρ sz) := by
  refine z_met (rm := rm_X11_takeIfAny) (by decide) (by cases a1 <;> cases a2 <;> exact Nat.le_of_ble_eq_true rfl) (fun p e s m args below meth c G hr hlk => ?_)
  unfold C_X11_takeIfAny at h
  rw [show lv_args 0 [.ref (0), va_rf (a1), va_rf (a2), .int (a3), .int (a4)] = [(0, .ref (0)), (1, va_rf (a1)), (2, va_rf (a2)), (3, .int (a3)), (4, .int (a4))] from by cases a1 <;> cases a2 <;> rfl]
  refine zx_iload (pc := 0) G 4 rfl (z_dec T_X11_takeIfAny_ok 0 (0, .iload 4, 2) rfl) ?_
  refine zx_iconst (pc := 2) (v := -1) G (z_dec T_X11_takeIfAny_ok 1 (2, .iconst (-1), 1) rfl) rfl ?_
  refine zx_icmp_eq (pc := 3) (tgt := 24) G rfl (z_dec T_X11_takeIfAny_ok 2 (3, .if_icmp .eq 21, 3) rfl) (fun hc => ?_) (fun hc => ?_)
  · replace h := z_pos hc h
    exact zx_vret (pc := 24) G hr hlk (Nat.le_refl _) (Nat.le_refl _) (z_dec T_X11_takeIfAny_ok 13 (24, .return_, 1) rfl) ⟨rfl, rfl, h⟩
  · replace h := z_neg hc h
    refine zx_aload_n (pc := 6) G (a1) 1 rfl rfl (z_dec T_X11_takeIfAny_ok 3 (6, .aload_n 1, 1) rfl) ?_
    refine zx_iload_n (pc := 7) G 3 rfl rfl (z_dec T_X11_takeIfAny_ok 4 (7, .iload_n 3, 1) rfl) ?_
    refine zx_iload (pc := 8) G 4 rfl (z_dec T_X11_takeIfAny_ok 5 (8, .iload 4, 2) rfl) ?_
    refine zx_aload_n (pc := 10) G (a2) 2 rfl rfl (z_dec T_X11_takeIfAny_ok 6 (10, .aload_n 2, 1) rfl) ?_
    obtain ⟨o1, rfl, h⟩ := h
    refine zx_getF (pc := 11) (b := o1 + 1) G gf_RX11_166 rfl (h_a2 o1 rfl) (zq_1_3 hI (h_a2 o1 rfl)) (z_dec T_X11_takeIfAny_ok 7 (11, .getfield 166, 3) rfl) ?_
    refine zx_iload_n (pc := 14) G 3 rfl rfl (z_dec T_X11_takeIfAny_ok 8 (14, .iload_n 3, 1) rfl) ?_
    refine zx_iload (pc := 15) G 4 rfl (z_dec T_X11_takeIfAny_ok 9 (15, .iload 4, 2) rfl) ?_
    refine zx_callS_iN (pc := 17) (rm := rm_X11_spot) G cw_RX11_168 ⟨Nat.le_of_ble_eq_true rfl, Nat.le_of_ble_eq_true rfl⟩ rfl rfl ⟨Nat.zero_le _, Nat.zero_le _⟩ (fun sz => (met_X11_spot l D ρ kd q μ sz a3 a4 _ hI h)) rfl rfl (by cases a1 <;> exact Nat.le_of_ble_eq_true rfl) (z_dec T_X11_takeIfAny_ok 10 (17, .invokestatic 168, 3) rfl) (fun r3 μ2 hn => ?_)
    clear h
    have h := hn
    clear hn
    obtain ⟨c4, h⟩ := h
    refine zx_iald (pc := 20) G (zk_1_3 hI (h_a2 o1 rfl)) c4 (z_dec T_X11_takeIfAny_ok 11 (20, .iaload, 1) rfl) ?_
    obtain ⟨o5, rfl, h⟩ := h
    refine zx_callV_vN (pc := 21) (rm := rm_X0_take) G cw_RX11_184 ⟨Nat.le_of_ble_eq_true rfl, Nat.le_of_ble_eq_true rfl⟩ rfl rfl ⟨Nat.zero_le _, Nat.zero_le _⟩ (h_a1 o5 rfl) rfl (fun sz => (met_X0_take l D ρ kd q μ2 sz o5 a3 a4 (μ2.1 (o1 + 1) r3.toNatClampNeg) _ hI (h_a1 o5 rfl) h)) rfl rfl (Nat.le_of_ble_eq_true rfl) (z_dec T_X11_takeIfAny_ok 12 (21, .invokevirtual 184, 3) rfl) (fun μ6 hn => ?_)
    clear h
    have h := hn
    clear hn
    exact zx_vret (pc := 24) G hr hlk (Nat.le_refl _) (Nat.le_refl _) (z_dec T_X11_takeIfAny_ok 13 (24, .return_, 1) rfl) ⟨rfl, rfl, h⟩
abbrev rm_X11_put : Room := { frames := 3, cells := 0, slots := 0, locals := 64 }
set_option maxRecDepth 100000 in
set_option maxHeartbeats 4000000 in
theorem B_X11_put_62_ok {p : Program} {l : Launch} {e : Env} {s : State} {m : MethodId} {args : Array Value} {below : List Frame} {meth : Method} {c : Code} {D : va_G} {A : Nat → Prop} {ρ : z_A} {kd : z_K} {q : z_Q} {μ : z_M} {K : z_Q → z_M → Prop} {P62 : Nat → Nat → Int32 → z_Q → z_M → Prop} {v1 : Nat} {v2 : Nat} {v3 : Int32} (G : z_G p c cX11_put s m args RX11 5 D) (hr : meth.sig.returnType = (Option.none : Option Jvm.ClassFile.FieldType)) (hlk : meth.locks = false) (hP62 : ∀ (v1 : Nat) (v2 : Nat) (v3 : Int32) (q : z_Q) (μ : z_M), P62 v1 v2 v3 q μ → z_I kd q → (kd 0 = some (.inl 11)) → (kd v1 = some (.inl 0)) → (kd v2 = some (.inl 1)) → z_X p l e rm_X11_put s m args below meth c 5 D A (MQ below (z_Qn D A ρ kd (z_KvQ kd K)) args s 0 0 A) 0 0 ρ kd q μ 62 [(0, .ref (0)), (1, .ref (v1)), (2, .ref (v2)), (3, .int (v3))] []) (hI : z_I kd q) (f_l0 : kd 0 = some (.inl 11)) (f_l1 : kd v1 = some (.inl 0)) (f_l2 : kd v2 = some (.inl 1)) (h : B_X11_put_62 kd K P62 v1 v2 v3 q μ) : z_X p l e rm_X11_put s m args below meth c 5 D A (MQ below (z_Qn D A ρ kd (z_KvQ kd K)) args s 0 0 A) 0 0 ρ kd q μ 62 [(0, .ref (0)), (1, .ref (v1)), (2, .ref (v2)), (3, .int (v3))] [] := by
    unfold B_X11_put_62 at h
    refine zx_iload_n (pc := 62) G 3 rfl rfl (z_dec T_X11_put_ok 36 (62, .iload_n 3, 1) rfl) ?_
    refine zx_iconst (pc := 63) (v := 3) G (z_dec T_X11_put_ok 37 (63, .iconst 3, 1) rfl) rfl ?_
    refine zx_icmp_ge (pc := 64) (tgt := 134) G rfl (z_dec T_X11_put_ok 38 (64, .if_icmp .ge 70, 3) rfl) (fun hc => ?_) (fun hc => ?_)
    · replace h := z_pos hc h
      exact zx_vret (pc := 134) G hr hlk (Nat.le_refl _) (Nat.le_refl _) (z_dec T_X11_put_ok 72 (134, .return_, 1) rfl) ⟨hI, rfl, h⟩
    · replace h := z_neg hc h
      refine zx_aload_n (pc := 67) G (some (v1)) 1 rfl rfl (z_dec T_X11_put_ok 39 (67, .aload_n 1, 1) rfl) ?_
      refine zx_iload_n (pc := 68) G 3 rfl rfl (z_dec T_X11_put_ok 40 (68, .iload_n 3, 1) rfl) ?_
      refine zx_callV_iN (pc := 69) (rm := rm_X0_horseIn) G cw_RX11_223 ⟨Nat.le_of_ble_eq_true rfl, Nat.le_of_ble_eq_true rfl⟩ rfl rfl ⟨Nat.zero_le _, Nat.zero_le _⟩ f_l1 rfl (fun sz => (met_X0_horseIn l D ρ kd q μ sz v1 v3 _ hI f_l1 h)) rfl rfl (Nat.le_of_ble_eq_true rfl) (z_dec T_X11_put_ok 41 (69, .invokevirtual 223, 3) rfl) (fun r2 μ1 hn => ?_)
      clear h
      have h := hn
      clear hn
      refine zx_istore (pc := 72) (lv' := [(4, .int (r2)), (0, .ref (0)), (1, .ref (v1)), (2, .ref (v2)), (3, .int (v3))]) G (Nat.le_of_ble_eq_true rfl) rfl (z_dec T_X11_put_ok 42 (72, .istore 4, 2) rfl) ?_
      refine zx_iload (pc := 74) G 0 rfl (z_dec T_X11_put_ok 43 (74, .iload 4, 2) rfl) ?_
      refine zx_iconst (pc := 76) (v := -1) G (z_dec T_X11_put_ok 44 (76, .iconst (-1), 1) rfl) rfl ?_
      refine zx_icmp_eq (pc := 77) (tgt := 128) G rfl (z_dec T_X11_put_ok 45 (77, .if_icmp .eq 51, 3) rfl) (fun hc => ?_) (fun hc => ?_)
      · replace h := z_pos hc h
        refine zx_iinc (pc := 128) (v := v3 + 1) (lv' := [(3, .int (v3 + 1)), (4, .int (r2)), (0, .ref (0)), (1, .ref (v1)), (2, .ref (v2))]) G 4 rfl (z_inc (by decide)) (Nat.le_of_ble_eq_true rfl) rfl (z_dec T_X11_put_ok 70 (128, .iinc 3 1, 3) rfl) ?_
        refine zx_goto (pc := 131) (tgt := 62) G rfl (z_dec T_X11_put_ok 71 (131, .goto (-69), 3) rfl) ?_
        refine zx_sub (lv' := [(0, .ref (0)), (1, .ref (v1)), (2, .ref (v2)), (3, .int (v3 + 1))]) [2, 3, 4, 0] rfl ?_
        exact hP62 _ _ _ _ _ h hI f_l0 f_l1 f_l2
      · replace h := z_neg hc h
        refine zx_aload_n (pc := 80) G (some (v2)) 3 rfl rfl (z_dec T_X11_put_ok 46 (80, .aload_n 2, 1) rfl) ?_
        refine zx_iload_n (pc := 81) G 4 rfl rfl (z_dec T_X11_put_ok 47 (81, .iload_n 3, 1) rfl) ?_
        refine zx_iload (pc := 82) G 0 rfl (z_dec T_X11_put_ok 48 (82, .iload 4, 2) rfl) ?_
        refine zx_callS_iN (pc := 84) (rm := rm_X11_spot) G cw_RX11_168 ⟨Nat.le_of_ble_eq_true rfl, Nat.le_of_ble_eq_true rfl⟩ rfl rfl ⟨Nat.zero_le _, Nat.zero_le _⟩ (fun sz => (met_X11_spot l D ρ kd q μ1 sz v3 r2 _ hI h)) rfl rfl (Nat.le_of_ble_eq_true rfl) (z_dec T_X11_put_ok 49 (84, .invokestatic 168, 3) rfl) (fun r4 μ3 hn => ?_)
        clear h
        have h := hn
        clear hn
        refine zx_iconst (pc := 87) (v := 1) G (z_dec T_X11_put_ok 50 (87, .iconst 1, 1) rfl) rfl ?_
        refine zx_callV_vN (pc := 88) (rm := rm_X1_rides) G cw_RX11_406 ⟨Nat.le_of_ble_eq_true rfl, Nat.le_of_ble_eq_true rfl⟩ rfl rfl ⟨Nat.zero_le _, Nat.zero_le _⟩ f_l2 rfl (fun sz => (met_X1_rides l D ρ kd q μ3 sz v2 r4 ((1 : Int32)) _ hI f_l2 h)) rfl rfl (Nat.le_of_ble_eq_true rfl) (z_dec T_X11_put_ok 51 (88, .invokevirtual 406, 3) rfl) (fun μ5 hn => ?_)
        clear h
        have h := hn
        clear hn
        refine zx_aload_n (pc := 91) G (some (v1)) 2 rfl rfl (z_dec T_X11_put_ok 52 (91, .aload_n 1, 1) rfl) ?_
        refine zx_callV_zN (pc := 92) (rm := rm_X0_isToWin) G cw_RX11_409 ⟨Nat.le_of_ble_eq_true rfl, Nat.le_of_ble_eq_true rfl⟩ rfl rfl ⟨Nat.zero_le _, Nat.zero_le _⟩ f_l1 rfl (fun sz => (met_X0_isToWin l D ρ kd q μ5 sz v1 _ hI f_l1 h)) rfl rfl (Nat.le_of_ble_eq_true rfl) (z_dec T_X11_put_ok 53 (92, .invokevirtual 409, 3) rfl) (fun r7 μ6 hzr7 hn => ?_)
        clear h
        have h := hn
        clear hn
        refine zx_if_eq (pc := 95) (tgt := 128) G rfl (z_dec T_X11_put_ok 54 (95, .ifCond .eq 33, 3) rfl) (fun hc => ?_) (fun hc => ?_)
        · replace h := z_pos hc h
          refine zx_iinc (pc := 128) (v := v3 + 1) (lv' := [(3, .int (v3 + 1)), (4, .int (r2)), (0, .ref (0)), (1, .ref (v1)), (2, .ref (v2))]) G 4 rfl (z_inc (by decide)) (Nat.le_of_ble_eq_true rfl) rfl (z_dec T_X11_put_ok 70 (128, .iinc 3 1, 3) rfl) ?_
          refine zx_goto (pc := 131) (tgt := 62) G rfl (z_dec T_X11_put_ok 71 (131, .goto (-69), 3) rfl) ?_
          refine zx_sub (lv' := [(0, .ref (0)), (1, .ref (v1)), (2, .ref (v2)), (3, .int (v3 + 1))]) [2, 3, 4, 0] rfl ?_
          exact hP62 _ _ _ _ _ h hI f_l0 f_l1 f_l2
        · replace h := z_neg hc h
          refine zx_aload_n (pc := 98) G (some (v2)) 3 rfl rfl (z_dec T_X11_put_ok 55 (98, .aload_n 2, 1) rfl) ?_
          refine zx_iload_n (pc := 99) G 4 rfl rfl (z_dec T_X11_put_ok 56 (99, .iload_n 3, 1) rfl) ?_
          refine zx_iload (pc := 100) G 0 rfl (z_dec T_X11_put_ok 57 (100, .iload 4, 2) rfl) ?_
          refine zx_callS_iN (pc := 102) (rm := rm_X11_spot) G cw_RX11_168 ⟨Nat.le_of_ble_eq_true rfl, Nat.le_of_ble_eq_true rfl⟩ rfl rfl ⟨Nat.zero_le _, Nat.zero_le _⟩ (fun sz => (met_X11_spot l D ρ kd q μ6 sz v3 r2 _ hI h)) rfl rfl (Nat.le_of_ble_eq_true rfl) (z_dec T_X11_put_ok 58 (102, .invokestatic 168, 3) rfl) (fun r9 μ8 hn => ?_)
          clear h
          have h := hn
          clear hn
          refine zx_aload_n (pc := 105) G (some (v1)) 2 rfl rfl (z_dec T_X11_put_ok 59 (105, .aload_n 1, 1) rfl) ?_
          refine zx_getI (pc := 106) G gf_RX11_405 rfl f_l1 (z_dec T_X11_put_ok 60 (106, .getfield 405, 3) rfl) ?_
          refine zx_aload_n (pc := 109) G (some (0)) 1 rfl rfl (z_dec T_X11_put_ok 61 (109, .aload_n 0, 1) rfl) ?_
          refine zx_getF (pc := 110) (b := 3) G gf_RX11_19 rfl f_l0 (zq_11_1 hI f_l0) (z_dec T_X11_put_ok 62 (110, .getfield 19, 3) rfl) ?_
          refine zx_aload_n (pc := 113) G (some (v1)) 2 rfl rfl (z_dec T_X11_put_ok 63 (113, .aload_n 1, 1) rfl) ?_
          refine zx_getI (pc := 114) G gf_RX11_405 rfl f_l1 (z_dec T_X11_put_ok 64 (114, .getfield 405, 3) rfl) ?_
          refine zx_aload_n (pc := 117) G (some (v1)) 2 rfl rfl (z_dec T_X11_put_ok 65 (117, .aload_n 1, 1) rfl) ?_
          refine zx_iload_n (pc := 118) G 4 rfl rfl (z_dec T_X11_put_ok 66 (118, .iload_n 3, 1) rfl) ?_
          refine zx_callV_iN (pc := 119) (rm := rm_X0_stepIn) G cw_RX11_412 ⟨Nat.le_of_ble_eq_true rfl, Nat.le_of_ble_eq_true rfl⟩ rfl rfl ⟨Nat.zero_le _, Nat.zero_le _⟩ f_l1 rfl (fun sz => (met_X0_stepIn l D ρ kd q μ8 sz v1 v3 _ hI f_l1 h)) rfl rfl (Nat.le_of_ble_eq_true rfl) (z_dec T_X11_put_ok 67 (119, .invokevirtual 412, 3) rfl) (fun r11 μ10 hn => ?_)
          clear h
          have h := hn
          clear hn
          refine zx_callV_iN (pc := 122) (rm := rm_X3_won) G cw_RX11_415 ⟨Nat.le_of_ble_eq_true rfl, Nat.le_of_ble_eq_true rfl⟩ rfl rfl ⟨Nat.zero_le _, Nat.zero_le _⟩ (zk_11_1 hI f_l0) rfl (fun sz => (met_X3_won l D ρ kd q μ10 sz 3 (μ8.1 v1 3) r11 _ hI (zk_11_1 hI f_l0) h)) rfl rfl (Nat.le_of_ble_eq_true rfl) (z_dec T_X11_put_ok 68 (122, .invokevirtual 415, 3) rfl) (fun r13 μ12 hn => ?_)
          clear h
          have h := hn
          clear hn
          refine zx_callV_vN (pc := 125) (rm := rm_X1_owes) G cw_RX11_418 ⟨Nat.le_of_ble_eq_true rfl, Nat.le_of_ble_eq_true rfl⟩ rfl rfl ⟨Nat.zero_le _, Nat.zero_le _⟩ f_l2 rfl (fun sz => (met_X1_owes l D ρ kd q μ12 sz v2 r9 (μ8.1 v1 3) r13 _ hI f_l2 h)) rfl rfl (Nat.le_of_ble_eq_true rfl) (z_dec T_X11_put_ok 69 (125, .invokevirtual 418, 3) rfl) (fun μ14 hn => ?_)
          clear h
          have h := hn
          clear hn
          refine zx_iinc (pc := 128) (v := v3 + 1) (lv' := [(3, .int (v3 + 1)), (4, .int (r2)), (0, .ref (0)), (1, .ref (v1)), (2, .ref (v2))]) G 4 rfl (z_inc (by decide)) (Nat.le_of_ble_eq_true rfl) rfl (z_dec T_X11_put_ok 70 (128, .iinc 3 1, 3) rfl) ?_
          refine zx_goto (pc := 131) (tgt := 62) G rfl (z_dec T_X11_put_ok 71 (131, .goto (-69), 3) rfl) ?_
          refine zx_sub (lv' := [(0, .ref (0)), (1, .ref (v1)), (2, .ref (v2)), (3, .int (v3 + 1))]) [2, 3, 4, 0] rfl ?_
          exact hP62 _ _ _ _ _ h hI f_l0 f_l1 f_l2
set_option maxRecDepth 100000 in
set_option maxHeartbeats 4000000 in
theorem L_X11_put_62_ok {p : Program} {l : Launch} {e : Env} {s : State} {m : MethodId} {args : Array Value} {below : List Frame} {meth : Method} {c : Code} {D : va_G} {A : Nat → Prop} {ρ : z_A} {kd : z_K} {q : z_Q} {μ : z_M} {K : z_Q → z_M → Prop} {v1 : Nat} {v2 : Nat} {v3 : Int32} (G : z_G p c cX11_put s m args RX11 5 D) (hr : meth.sig.returnType = (Option.none : Option Jvm.ClassFile.FieldType)) (hlk : meth.locks = false) (hI : z_I kd q) (f_l0 : kd 0 = some (.inl 11)) (f_l1 : kd v1 = some (.inl 0)) (f_l2 : kd v2 = some (.inl 1)) (h : L_X11_put_62 kd K v1 v2 v3 q μ) : z_X p l e rm_X11_put s m args below meth c 5 D A (MQ below (z_Qn D A ρ kd (z_KvQ kd K)) args s 0 0 A) 0 0 ρ kd q μ 62 [(0, .ref (0)), (1, .ref (v1)), (2, .ref (v2)), (3, .int (v3))] [] :=
  h (fun (v1 : Nat) (v2 : Nat) (v3 : Int32) (q : z_Q) (μ : z_M) => z_I kd q → (kd 0 = some (.inl 11)) → (kd v1 = some (.inl 0)) → (kd v2 = some (.inl 1)) → z_X p l e rm_X11_put s m args below meth c 5 D A (MQ below (z_Qn D A ρ kd (z_KvQ kd K)) args s 0 0 A) 0 0 ρ kd q μ 62 [(0, .ref (0)), (1, .ref (v1)), (2, .ref (v2)), (3, .int (v3))] []) (fun v1 v2 v3 q μ h hI f_l0 f_l1 f_l2 => B_X11_put_62_ok G hr hlk (fun _ _ _ _ _ h => h) hI f_l0 f_l1 f_l2 h) hI f_l0 f_l1 f_l2
set_option maxRecDepth 100000 in
set_option maxHeartbeats 4000000 in
theorem L_X11_put_56_ok {p : Program} {l : Launch} {e : Env} {s : State} {m : MethodId} {args : Array Value} {below : List Frame} {meth : Method} {c : Code} {D : va_G} {A : Nat → Prop} {ρ : z_A} {kd : z_K} {q : z_Q} {μ : z_M} {K : z_Q → z_M → Prop} {v1 : Nat} {v2 : Nat} {t0 : Int32} {t1 : Int32} {t2 : Nat} (G : z_G p c cX11_put s m args RX11 5 D) (hr : meth.sig.returnType = (Option.none : Option Jvm.ClassFile.FieldType)) (hlk : meth.locks = false) (hI : z_I kd q) (f_l0 : kd 0 = some (.inl 11)) (f_l1 : kd v1 = some (.inl 0)) (f_l2 : kd v2 = some (.inl 1)) (f_s2 : kd t2 = some (.inl 1)) (h : L_X11_put_56 kd K v1 v2 t0 t1 t2 q μ) : z_X p l e rm_X11_put s m args below meth c 5 D A (MQ below (z_Qn D A ρ kd (z_KvQ kd K)) args s 0 0 A) 0 0 ρ kd q μ 56 [(0, .ref (0)), (1, .ref (v1)), (2, .ref (v2))] [.int (t0), .int (t1), .ref (t2)] := by
    unfold L_X11_put_56 at h
    refine zx_iadd (pc := 56) G  (z_dec T_X11_put_ok 32 (56, .iadd, 1) rfl) ?_
    refine zx_putI (pc := 57) G gf_RX11_275 cf_1 rfl rfl f_s2 (z_dec T_X11_put_ok 33 (57, .putfield 275, 3) rfl) ?_
    refine zx_iconst (pc := 60) (v := 0) G (z_dec T_X11_put_ok 34 (60, .iconst 0, 1) rfl) rfl ?_
    refine zx_istore_n (pc := 61) (lv' := [(3, .int ((0 : Int32))), (0, .ref (0)), (1, .ref (v1)), (2, .ref (v2))]) G rfl (Nat.le_of_ble_eq_true rfl) rfl (z_dec T_X11_put_ok 35 (61, .istore_n 3, 1) rfl) ?_
    refine zx_sub (lv' := [(0, .ref (0)), (1, .ref (v1)), (2, .ref (v2)), (3, .int ((0 : Int32)))]) [1, 2, 3, 0] rfl ?_
    exact L_X11_put_62_ok G hr hlk hI f_l0 f_l1 f_l2 h
set_option maxRecDepth 100000 in
set_option maxHeartbeats 4000000 in
theorem met_X11_put (l : Launch) (D : va_G) (ρ : z_A) (kd : z_K) (q : z_Q) (μ : z_M) (sz : Nat) (a1 : Option Nat) (a2 : Option Nat) (K : z_Q → z_M → Prop) (hI : z_I kd q) (h_o : kd 0 = some (.inl 11)) (h_a1 : ∀ a, a1 = some a → kd a = some (.inl 0)) (h_a2 : ∀ a, a2 = some a → kd a = some (.inl 1)) (h : C_X11_put kd q a1 a2 μ K) : Met l yX11_put (z_ws yX11_put cX11_put 5 (Option.none : Option Jvm.ClassFile.FieldType)) rm_X11_put (z_Pc D ρ kd q μ sz [.ref (0), va_rf (a1), va_rf (a2)]) (z_Qn D (z_Rg ρ sz) ρ kd (z_KvQ kd K)) 0 0 (z_Rg ρ sz) := by
  refine z_met (rm := rm_X11_put) (by decide) (by cases a1 <;> cases a2 <;> exact Nat.le_of_ble_eq_true rfl) (fun p e s m args below meth c G hr hlk => ?_)
  unfold C_X11_put at h
  rw [show lv_args 0 [.ref (0), va_rf (a1), va_rf (a2)] = [(0, .ref (0)), (1, va_rf (a1)), (2, va_rf (a2))] from by cases a1 <;> cases a2 <;> rfl]
  refine zx_aload_n (pc := 0) G (some (0)) 0 rfl rfl (z_dec T_X11_put_ok 0 (0, .aload_n 0, 1) rfl) ?_
  refine zx_getF (pc := 1) (b := 8) G gf_RX11_37 rfl h_o (zq_11_4 hI h_o) (z_dec T_X11_put_ok 1 (1, .getfield 37, 3) rfl) ?_
  refine zx_aload_n (pc := 4) G (some (0)) 0 rfl rfl (z_dec T_X11_put_ok 2 (4, .aload_n 0, 1) rfl) ?_
  refine zx_getI (pc := 5) G gf_RX11_194 rfl h_o (z_dec T_X11_put_ok 3 (5, .getfield 194, 3) rfl) ?_
  refine zx_aload_n (pc := 8) G (a1) 1 rfl rfl (z_dec T_X11_put_ok 4 (8, .aload_n 1, 1) rfl) ?_
  obtain ⟨o1, rfl, h⟩ := h
  obtain ⟨c2, h⟩ := h
  refine zx_aast (pc := 9) (t := 0) G (zk_11_4 hI h_o) (h_a1 o1 rfl) c2 (z_dec T_X11_put_ok 5 (9, .aastore, 1) rfl) ?_
  have hI3 := z_I_el hI (zk_11_4 hI h_o) (h_a1 o1 rfl) (j := (μ.1 0 15).toNatClampNeg)
  refine zx_aload_n (pc := 10) G (some (0)) 0 rfl rfl (z_dec T_X11_put_ok 6 (10, .aload_n 0, 1) rfl) ?_
  refine zx_dup (pc := 11) G rfl (z_dec T_X11_put_ok 7 (11, .dup, 1) rfl) ?_
  refine zx_getI (pc := 12) G gf_RX11_194 rfl h_o (z_dec T_X11_put_ok 8 (12, .getfield 194, 3) rfl) ?_
  refine zx_iconst (pc := 15) (v := 1) G (z_dec T_X11_put_ok 9 (15, .iconst 1, 1) rfl) rfl ?_
  refine zx_iadd (pc := 16) G  (z_dec T_X11_put_ok 10 (16, .iadd, 1) rfl) ?_
  refine zx_putI (pc := 17) G gf_RX11_194 cf_11 rfl rfl h_o (z_dec T_X11_put_ok 11 (17, .putfield 194, 3) rfl) ?_
  refine zx_aload_n (pc := 20) G (a2) 2 rfl rfl (z_dec T_X11_put_ok 12 (20, .aload_n 2, 1) rfl) ?_
  refine zx_dup (pc := 21) G (z_rfcat _) (z_dec T_X11_put_ok 13 (21, .dup, 1) rfl) ?_
  obtain ⟨o4, rfl, h⟩ := h
  refine zx_getI (pc := 22) G gf_RX11_281 rfl (h_a2 o4 rfl) (z_dec T_X11_put_ok 14 (22, .getfield 281, 3) rfl) ?_
  refine zx_iconst (pc := 25) (v := 1) G (z_dec T_X11_put_ok 15 (25, .iconst 1, 1) rfl) rfl ?_
  refine zx_iadd (pc := 26) G  (z_dec T_X11_put_ok 16 (26, .iadd, 1) rfl) ?_
  refine zx_putI (pc := 27) G gf_RX11_281 cf_1 rfl rfl (h_a2 o4 rfl) (z_dec T_X11_put_ok 17 (27, .putfield 281, 3) rfl) ?_
  refine zx_aload_n (pc := 30) G (some (o4)) 2 rfl rfl (z_dec T_X11_put_ok 18 (30, .aload_n 2, 1) rfl) ?_
  refine zx_dup (pc := 31) G rfl (z_dec T_X11_put_ok 19 (31, .dup, 1) rfl) ?_
  refine zx_getI (pc := 32) G gf_RX11_275 rfl (h_a2 o4 rfl) (z_dec T_X11_put_ok 20 (32, .getfield 275, 3) rfl) ?_
  refine zx_aload_n (pc := 35) G (some (o1)) 1 rfl rfl (z_dec T_X11_put_ok 21 (35, .aload_n 1, 1) rfl) ?_
  refine zx_getI (pc := 36) G gf_RX11_268 rfl (h_a1 o1 rfl) (z_dec T_X11_put_ok 22 (36, .getfield 268, 3) rfl) ?_
  refine zx_iconst (pc := 39) (v := 2) G (z_dec T_X11_put_ok 23 (39, .iconst 2, 1) rfl) rfl ?_
  refine zx_icmp_ne (pc := 40) (tgt := 52) G rfl (z_dec T_X11_put_ok 24 (40, .if_icmp .ne 12, 3) rfl) (fun hc => ?_) (fun hc => ?_)
  · replace h := z_neg hc h
    refine zx_aload_n (pc := 52) G (some (o1)) 1 rfl rfl (z_dec T_X11_put_ok 30 (52, .aload_n 1, 1) rfl) ?_
    refine zx_getI (pc := 53) G gf_RX11_405 rfl (h_a1 o1 rfl) (z_dec T_X11_put_ok 31 (53, .getfield 405, 3) rfl) ?_
    exact L_X11_put_56_ok G hr hlk hI3 h_o (h_a1 o1 rfl) (h_a2 o4 rfl) (h_a2 o4 rfl) h
  · replace h := z_pos hc h
    refine zx_iconst (pc := 43) (v := 2) G (z_dec T_X11_put_ok 25 (43, .iconst 2, 1) rfl) rfl ?_
    refine zx_aload_n (pc := 44) G (some (o1)) 1 rfl rfl (z_dec T_X11_put_ok 26 (44, .aload_n 1, 1) rfl) ?_
    refine zx_getI (pc := 45) G gf_RX11_405 rfl (h_a1 o1 rfl) (z_dec T_X11_put_ok 27 (45, .getfield 405, 3) rfl) ?_
    refine zx_imul (pc := 48) G  (z_dec T_X11_put_ok 28 (48, .imul, 1) rfl) ?_
    refine zx_goto (pc := 49) (tgt := 56) G rfl (z_dec T_X11_put_ok 29 (49, .goto 7, 3) rfl) ?_
    exact L_X11_put_56_ok G hr hlk hI3 h_o (h_a1 o1 rfl) (h_a2 o4 rfl) (h_a2 o4 rfl) h
abbrev rm_X11_follow : Room := { frames := 339, cells := 0, slots := 0, locals := 17074 }
set_option maxRecDepth 100000 in
set_option maxHeartbeats 4000000 in
theorem B_X11_follow_21_ok {p : Program} {l : Launch} {e : Env} {s : State} {m : MethodId} {args : Array Value} {below : List Frame} {meth : Method} {c : Code} {D : va_G} {A : Nat → Prop} {ρ : z_A} {kd : z_K} {q : z_Q} {μ : z_M} {K : z_Q → z_M → Prop} {P21 : Nat → Option Nat → Int32 → z_Q → z_M → Prop} {v1 : Nat} {v2 : Option Nat} {v3 : Int32} (G : z_G p c cX11_follow s m args RX11 5 D) (hr : meth.sig.returnType = (Option.none : Option Jvm.ClassFile.FieldType)) (hlk : meth.locks = false) (hP21 : ∀ (v1 : Nat) (v2 : Option Nat) (v3 : Int32) (q : z_Q) (μ : z_M), P21 v1 v2 v3 q μ → z_I kd q → (kd 0 = some (.inl 11)) → (kd v1 = some (.inl 0)) → (∀ a, v2 = some a → kd a = some (.inl 1)) → z_X p l e rm_X11_follow s m args below meth c 5 D A (MQ below (z_Qn D A ρ kd (z_KvQ kd K)) args s 0 0 A) 0 0 ρ kd q μ 21 [(0, .ref (0)), (1, .ref (v1)), (2, va_rf (v2)), (3, .int (v3))] []) (hI : z_I kd q) (f_l0 : kd 0 = some (.inl 11)) (f_l1 : kd v1 = some (.inl 0)) (f_l2 : ∀ a, v2 = some a → kd a = some (.inl 1)) (h : B_X11_follow_21 kd K P21 v1 v2 v3 q μ) : z_X p l e rm_X11_follow s m args below meth c 5 D A (MQ below (z_Qn D A ρ kd (z_KvQ kd K)) args s 0 0 A) 0 0 ρ kd q μ 21 [(0, .ref (0)), (1, .ref (v1)), (2, va_rf (v2)), (3, .int (v3))] [] := by
    unfold B_X11_follow_21 at h
    refine zx_iload_n (pc := 21) G 3 rfl rfl (z_dec T_X11_follow_ok 11 (21, .iload_n 3, 1) rfl) ?_
    refine zx_iconst (pc := 22) (v := 3) G (z_dec T_X11_follow_ok 12 (22, .iconst 3, 1) rfl) rfl ?_
    refine zx_icmp_ge (pc := 23) (tgt := 80) G rfl (z_dec T_X11_follow_ok 13 (23, .if_icmp .ge 57, 3) rfl) (fun hc => ?_) (fun hc => ?_)
    · replace h := z_pos hc h
      exact zx_vret (pc := 80) G hr hlk (Nat.le_refl _) (Nat.le_refl _) (z_dec T_X11_follow_ok 41 (80, .return_, 1) rfl) ⟨hI, rfl, h⟩
    · replace h := z_neg hc h
      refine zx_aload_n (pc := 26) G (some (v1)) 1 rfl rfl (z_dec T_X11_follow_ok 14 (26, .aload_n 1, 1) rfl) ?_
      refine zx_iload_n (pc := 27) G 3 rfl rfl (z_dec T_X11_follow_ok 15 (27, .iload_n 3, 1) rfl) ?_
      refine zx_callV_iN (pc := 28) (rm := rm_X0_horseIn) G cw_RX11_223 ⟨Nat.le_of_ble_eq_true rfl, Nat.le_of_ble_eq_true rfl⟩ rfl rfl ⟨Nat.zero_le _, Nat.zero_le _⟩ f_l1 rfl (fun sz => (met_X0_horseIn l D ρ kd q μ sz v1 v3 _ hI f_l1 h)) rfl rfl (Nat.le_of_ble_eq_true rfl) (z_dec T_X11_follow_ok 16 (28, .invokevirtual 223, 3) rfl) (fun r2 μ1 hn => ?_)
      clear h
      have h := hn
      clear hn
      refine zx_istore (pc := 31) (lv' := [(4, .int (r2)), (0, .ref (0)), (1, .ref (v1)), (2, va_rf (v2)), (3, .int (v3))]) G (Nat.le_of_ble_eq_true rfl) rfl (z_dec T_X11_follow_ok 17 (31, .istore 4, 2) rfl) ?_
      refine zx_iload (pc := 33) G 0 rfl (z_dec T_X11_follow_ok 18 (33, .iload 4, 2) rfl) ?_
      refine zx_iconst (pc := 35) (v := -1) G (z_dec T_X11_follow_ok 19 (35, .iconst (-1), 1) rfl) rfl ?_
      refine zx_icmp_eq (pc := 36) (tgt := 74) G rfl (z_dec T_X11_follow_ok 20 (36, .if_icmp .eq 38, 3) rfl) (fun hc => ?_) (fun hc => ?_)
      · replace h := z_pos hc h
        refine zx_iinc (pc := 74) (v := v3 + 1) (lv' := [(3, .int (v3 + 1)), (4, .int (r2)), (0, .ref (0)), (1, .ref (v1)), (2, va_rf (v2))]) G 4 rfl (z_inc (by decide)) (Nat.le_of_ble_eq_true rfl) (by cases v2 <;> rfl) (z_dec T_X11_follow_ok 39 (74, .iinc 3 1, 3) rfl) ?_
        refine zx_goto (pc := 77) (tgt := 21) G rfl (z_dec T_X11_follow_ok 40 (77, .goto (-56), 3) rfl) ?_
        refine zx_sub (lv' := [(0, .ref (0)), (1, .ref (v1)), (2, va_rf (v2)), (3, .int (v3 + 1))]) [2, 3, 4, 0] rfl ?_
        exact hP21 _ _ _ _ _ h hI f_l0 f_l1 f_l2
      · replace h := z_neg hc h
        refine zx_aload_n (pc := 39) G (v2) 3 rfl rfl (z_dec T_X11_follow_ok 21 (39, .aload_n 2, 1) rfl) ?_
        obtain ⟨o3, rfl, h⟩ := h
        refine zx_getI (pc := 40) G gf_RX11_402 rfl (f_l2 o3 rfl) (z_dec T_X11_follow_ok 22 (40, .getfield 402, 3) rfl) ?_
        refine zx_if_le (pc := 43) (tgt := 74) G rfl (z_dec T_X11_follow_ok 23 (43, .ifCond .le 31, 3) rfl) (fun hc => ?_) (fun hc => ?_)
        · replace h := z_pos hc h
          refine zx_iinc (pc := 74) (v := v3 + 1) (lv' := [(3, .int (v3 + 1)), (4, .int (r2)), (0, .ref (0)), (1, .ref (v1)), (2, .ref (o3))]) G 4 rfl (z_inc (by decide)) (Nat.le_of_ble_eq_true rfl) rfl (z_dec T_X11_follow_ok 39 (74, .iinc 3 1, 3) rfl) ?_
          refine zx_goto (pc := 77) (tgt := 21) G rfl (z_dec T_X11_follow_ok 40 (77, .goto (-56), 3) rfl) ?_
          refine zx_sub (lv' := [(0, .ref (0)), (1, .ref (v1)), (2, .ref (o3)), (3, .int (v3 + 1))]) [2, 3, 4, 0] rfl ?_
          exact hP21 _ _ _ _ _ h hI f_l0 f_l1 (fun a ha => by cases ha; exact (f_l2 o3 rfl))
        · replace h := z_neg hc h
          refine zx_aload_n (pc := 46) G (some (0)) 1 rfl rfl (z_dec T_X11_follow_ok 24 (46, .aload_n 0, 1) rfl) ?_
          refine zx_getF (pc := 47) (b := 9) G gf_RX11_46 rfl f_l0 (zq_11_5 hI f_l0) (z_dec T_X11_follow_ok 25 (47, .getfield 46, 3) rfl) ?_
          refine zx_aload_n (pc := 50) G (some (o3)) 3 rfl rfl (z_dec T_X11_follow_ok 26 (50, .aload_n 2, 1) rfl) ?_
          refine zx_iload_n (pc := 51) G 4 rfl rfl (z_dec T_X11_follow_ok 27 (51, .iload_n 3, 1) rfl) ?_
          refine zx_iload (pc := 52) G 0 rfl (z_dec T_X11_follow_ok 28 (52, .iload 4, 2) rfl) ?_
          refine zx_callV_vQ (pc := 54) (rm := rm_X8_setPlace) G cw_RX11_422 ⟨Nat.le_of_ble_eq_true rfl, Nat.le_of_ble_eq_true rfl⟩ rfl rfl ⟨Nat.zero_le _, Nat.zero_le _⟩ (zk_11_5 hI f_l0) rfl (fun sz => (met_X8_setPlace l D ρ kd q μ1 sz (some o3) v3 r2 _ hI (zk_11_5 hI f_l0) (fun a ha => by cases ha; exact (f_l2 o3 rfl)) h)) rfl rfl (Nat.le_of_ble_eq_true rfl) (z_dec T_X11_follow_ok 29 (54, .invokevirtual 422, 3) rfl) (fun q5 hI6 μ4 hn => ?_)
          clear h
          have h := hn
          clear hn
          refine zx_aload_n (pc := 57) G (some (0)) 1 rfl rfl (z_dec T_X11_follow_ok 30 (57, .aload_n 0, 1) rfl) ?_
          refine zx_getF (pc := 58) (b := 10) G gf_RX11_55 rfl f_l0 (zq_11_6 hI6 f_l0) (z_dec T_X11_follow_ok 31 (58, .getfield 55, 3) rfl) ?_
          refine zx_aload_n (pc := 61) G (some (o3)) 3 rfl rfl (z_dec T_X11_follow_ok 32 (61, .aload_n 2, 1) rfl) ?_
          refine zx_getF (pc := 62) (b := o3 + 7) G gf_RX11_426 rfl (f_l2 o3 rfl) (zq_1_9 hI6 (f_l2 o3 rfl)) (z_dec T_X11_follow_ok 33 (62, .getfield 426, 3) rfl) ?_
          refine zx_aload_n (pc := 65) G (some (o3)) 3 rfl rfl (z_dec T_X11_follow_ok 34 (65, .aload_n 2, 1) rfl) ?_
          refine zx_getI (pc := 66) G gf_RX11_429 rfl (f_l2 o3 rfl) (z_dec T_X11_follow_ok 35 (66, .getfield 429, 3) rfl) ?_
          refine zx_iconst (pc := 69) (v := 1) G (z_dec T_X11_follow_ok 36 (69, .iconst 1, 1) rfl) rfl ?_
          refine zx_callV_iQ (pc := 70) (rm := rm_X7_read) G cw_RX11_148 ⟨Nat.le_of_ble_eq_true rfl, Nat.le_of_ble_eq_true rfl⟩ rfl rfl ⟨Nat.zero_le _, Nat.zero_le _⟩ (zk_11_6 hI6 f_l0) rfl (fun sz => (met_X7_read l D ρ kd q5 μ4 sz (some (o3 + 7)) (μ4.1 o3 10) ((1 : Int32)) _ hI6 (zk_11_6 hI6 f_l0) (fun a ha => by cases ha; exact (z_lenf (zk_1_9 hI6 (f_l2 o3 rfl)))) (Or.inr rfl) h)) rfl rfl (Nat.le_of_ble_eq_true rfl) (z_dec T_X11_follow_ok 37 (70, .invokevirtual 148, 3) rfl) (fun r9 q8 hI10 μ7 hn => ?_)
          clear h
          have h := hn
          clear hn
          refine zx_pop (pc := 73) G rfl (z_dec T_X11_follow_ok 38 (73, .pop, 1) rfl) ?_
          refine zx_iinc (pc := 74) (v := v3 + 1) (lv' := [(3, .int (v3 + 1)), (4, .int (r2)), (0, .ref (0)), (1, .ref (v1)), (2, .ref (o3))]) G 4 rfl (z_inc (by decide)) (Nat.le_of_ble_eq_true rfl) rfl (z_dec T_X11_follow_ok 39 (74, .iinc 3 1, 3) rfl) ?_
          refine zx_goto (pc := 77) (tgt := 21) G rfl (z_dec T_X11_follow_ok 40 (77, .goto (-56), 3) rfl) ?_
          refine zx_sub (lv' := [(0, .ref (0)), (1, .ref (v1)), (2, .ref (o3)), (3, .int (v3 + 1))]) [2, 3, 4, 0] rfl ?_
          exact hP21 _ _ _ _ _ h hI10 f_l0 f_l1 (fun a ha => by cases ha; exact (f_l2 o3 rfl))
set_option maxRecDepth 100000 in
set_option maxHeartbeats 4000000 in
theorem L_X11_follow_21_ok {p : Program} {l : Launch} {e : Env} {s : State} {m : MethodId} {args : Array Value} {below : List Frame} {meth : Method} {c : Code} {D : va_G} {A : Nat → Prop} {ρ : z_A} {kd : z_K} {q : z_Q} {μ : z_M} {K : z_Q → z_M → Prop} {v1 : Nat} {v2 : Option Nat} {v3 : Int32} (G : z_G p c cX11_follow s m args RX11 5 D) (hr : meth.sig.returnType = (Option.none : Option Jvm.ClassFile.FieldType)) (hlk : meth.locks = false) (hI : z_I kd q) (f_l0 : kd 0 = some (.inl 11)) (f_l1 : kd v1 = some (.inl 0)) (f_l2 : ∀ a, v2 = some a → kd a = some (.inl 1)) (h : L_X11_follow_21 kd K v1 v2 v3 q μ) : z_X p l e rm_X11_follow s m args below meth c 5 D A (MQ below (z_Qn D A ρ kd (z_KvQ kd K)) args s 0 0 A) 0 0 ρ kd q μ 21 [(0, .ref (0)), (1, .ref (v1)), (2, va_rf (v2)), (3, .int (v3))] [] :=
  h (fun (v1 : Nat) (v2 : Option Nat) (v3 : Int32) (q : z_Q) (μ : z_M) => z_I kd q → (kd 0 = some (.inl 11)) → (kd v1 = some (.inl 0)) → (∀ a, v2 = some a → kd a = some (.inl 1)) → z_X p l e rm_X11_follow s m args below meth c 5 D A (MQ below (z_Qn D A ρ kd (z_KvQ kd K)) args s 0 0 A) 0 0 ρ kd q μ 21 [(0, .ref (0)), (1, .ref (v1)), (2, va_rf (v2)), (3, .int (v3))] []) (fun v1 v2 v3 q μ h hI f_l0 f_l1 f_l2 => B_X11_follow_21_ok G hr hlk (fun _ _ _ _ _ h => h) hI f_l0 f_l1 f_l2 h) hI f_l0 f_l1 f_l2
set_option maxRecDepth 100000 in
set_option maxHeartbeats 4000000 in
theorem met_X11_follow (l : Launch) (D : va_G) (ρ : z_A) (kd : z_K) (q : z_Q) (μ : z_M) (sz : Nat) (a1 : Option Nat) (a2 : Option Nat) (K : z_Q → z_M → Prop) (hI : z_I kd q) (h_o : kd 0 = some (.inl 11)) (h_a1 : ∀ a, a1 = some a → kd a = some (.inl 0)) (h_a2 : ∀ a, a2 = some a → kd a = some (.inl 1)) (h : C_X11_follow kd q a1 a2 μ K) : Met l yX11_follow (z_ws yX11_follow cX11_follow 5 (Option.none : Option Jvm.ClassFile.FieldType)) rm_X11_follow (z_Pc D ρ kd q μ sz [.ref (0), va_rf (a1), va_rf (a2)]) (z_Qn D (z_Rg ρ sz) ρ kd (z_KvQ kd K)) 0 0 (z_Rg ρ sz) := by
  refine z_met (rm := rm_X11_follow) (by decide) (by cases a1 <;> cases a2 <;> exact Nat.le_of_ble_eq_true rfl) (fun p e s m args below meth c G hr hlk => ?_)
  unfold C_X11_follow at h
  rw [show lv_args 0 [.ref (0), va_rf (a1), va_rf (a2)] = [(0, .ref (0)), (1, va_rf (a1)), (2, va_rf (a2))] from by cases a1 <;> cases a2 <;> rfl]
  refine zx_aload_n (pc := 0) G (some (0)) 0 rfl rfl (z_dec T_X11_follow_ok 0 (0, .aload_n 0, 1) rfl) ?_
  refine zx_getF (pc := 1) (b := 9) G gf_RX11_46 rfl h_o (zq_11_5 hI h_o) (z_dec T_X11_follow_ok 1 (1, .getfield 46, 3) rfl) ?_
  refine zx_aload_n (pc := 4) G (a1) 1 rfl rfl (z_dec T_X11_follow_ok 2 (4, .aload_n 1, 1) rfl) ?_
  obtain ⟨o1, rfl, h⟩ := h
  refine zx_getI (pc := 5) G gf_RX11_370 rfl (h_a1 o1 rfl) (z_dec T_X11_follow_ok 3 (5, .getfield 370, 3) rfl) ?_
  refine zx_aload_n (pc := 8) G (some (o1)) 1 rfl rfl (z_dec T_X11_follow_ok 4 (8, .aload_n 1, 1) rfl) ?_
  refine zx_getI (pc := 9) G gf_RX11_405 rfl (h_a1 o1 rfl) (z_dec T_X11_follow_ok 5 (9, .getfield 405, 3) rfl) ?_
  refine zx_aload_n (pc := 12) G (some (o1)) 1 rfl rfl (z_dec T_X11_follow_ok 6 (12, .aload_n 1, 1) rfl) ?_
  refine zx_getI (pc := 13) G gf_RX11_421 rfl (h_a1 o1 rfl) (z_dec T_X11_follow_ok 7 (13, .getfield 421, 3) rfl) ?_
  refine zx_callV_vN (pc := 16) (rm := rm_X8_setBettor) G cw_RX11_343 ⟨Nat.le_of_ble_eq_true rfl, Nat.le_of_ble_eq_true rfl⟩ rfl rfl ⟨Nat.zero_le _, Nat.zero_le _⟩ (zk_11_5 hI h_o) rfl (fun sz => (met_X8_setBettor l D ρ kd q μ sz (μ.1 o1 0) (μ.1 o1 3) (μ.1 o1 4) _ hI (zk_11_5 hI h_o) h)) rfl rfl (Nat.le_of_ble_eq_true rfl) (z_dec T_X11_follow_ok 8 (16, .invokevirtual 343, 3) rfl) (fun μ2 hn => ?_)
  clear h
  have h := hn
  clear hn
  refine zx_iconst (pc := 19) (v := 0) G (z_dec T_X11_follow_ok 9 (19, .iconst 0, 1) rfl) rfl ?_
  refine zx_istore_n (pc := 20) (lv' := [(3, .int ((0 : Int32))), (0, .ref (0)), (1, .ref (o1)), (2, va_rf (a2))]) G rfl (Nat.le_of_ble_eq_true rfl) (by cases a2 <;> rfl) (z_dec T_X11_follow_ok 10 (20, .istore_n 3, 1) rfl) ?_
  refine zx_sub (lv' := [(0, .ref (0)), (1, .ref (o1)), (2, va_rf (a2)), (3, .int ((0 : Int32)))]) [1, 2, 3, 0] rfl ?_
  exact L_X11_follow_21_ok G hr hlk hI h_o (h_a1 o1 rfl) h_a2 h
abbrev rm_X12_lies : Room := { frames := 0, cells := 0, slots := 0, locals := 0 }
set_option maxRecDepth 100000 in
set_option maxHeartbeats 4000000 in
theorem met_X12_lies (l : Launch) (D : va_G) (ρ : z_A) (kd : z_K) (q : z_Q) (μ : z_M) (sz : Nat) (a1 : Int64) (a2 : Int64) (a3 : Int64) (K : Int32 → z_M → Prop) (hI : z_I kd q) (h : C_X12_lies a1 a2 a3 μ K) : Met l yX12_lies (z_ws yX12_lies cX12_lies 6 (Option.some Jvm.ClassFile.FieldType.boolean)) rm_X12_lies (z_Pc D ρ kd q μ sz [.long (a1), .long (a2), .long (a3)]) (z_Qn D (z_Rg ρ sz) ρ kd (z_Kz q K)) 0 0 (z_Rg ρ sz) := by
  refine z_met (rm := rm_X12_lies) (by decide) (Nat.le_of_ble_eq_true rfl) (fun p e s m args below meth c G hr hlk => ?_)
  unfold C_X12_lies at h
  show z_X _ _ _ _ _ _ _ _ _ _ _ _ _ _ _ _ _ _ _ _ _ [(0, .long (a1)), (2, .long (a2)), (4, .long (a3))] _
  refine zx_lload_n (pc := 0) G 0 rfl rfl (z_dec T_X12_lies_ok 0 (0, .lload_n 0, 1) rfl) ?_
  refine zx_lload_n (pc := 1) G 1 rfl rfl (z_dec T_X12_lies_ok 1 (1, .lload_n 2, 1) rfl) ?_
  refine zx_lcmp_lt (pc := 2) (tgt := 17) G rfl (z_dec T_X12_lies_ok 2 (2, .lcmp, 1) rfl) (z_dec T_X12_lies_ok 3 (3, .ifCond .lt 14, 3) rfl) (fun hc => ?_) (fun hc => ?_)
  · replace h := z_pos hc h
    refine zx_iconst (pc := 17) (v := 0) G (z_dec T_X12_lies_ok 10 (17, .iconst 0, 1) rfl) rfl ?_
    exact zx_zret (pc := 18) G hr hlk (Nat.le_refl _) (Nat.le_refl _) (Or.inl rfl) (z_dec T_X12_lies_ok 11 (18, .ireturn, 1) rfl) ⟨rfl, _, rfl, (Or.inl rfl), h⟩
  · replace h := z_neg hc h
    refine zx_lload_n (pc := 6) G 0 rfl rfl (z_dec T_X12_lies_ok 4 (6, .lload_n 0, 1) rfl) ?_
    refine zx_lload (pc := 7) G 2 rfl (z_dec T_X12_lies_ok 5 (7, .lload 4, 2) rfl) ?_
    refine zx_lcmp_gt (pc := 9) (tgt := 17) G rfl (z_dec T_X12_lies_ok 6 (9, .lcmp, 1) rfl) (z_dec T_X12_lies_ok 7 (10, .ifCond .gt 7, 3) rfl) (fun hc => ?_) (fun hc => ?_)
    · replace h := z_pos hc h
      refine zx_iconst (pc := 17) (v := 0) G (z_dec T_X12_lies_ok 10 (17, .iconst 0, 1) rfl) rfl ?_
      exact zx_zret (pc := 18) G hr hlk (Nat.le_refl _) (Nat.le_refl _) (Or.inl rfl) (z_dec T_X12_lies_ok 11 (18, .ireturn, 1) rfl) ⟨rfl, _, rfl, (Or.inl rfl), h⟩
    · replace h := z_neg hc h
      refine zx_iconst (pc := 13) (v := 1) G (z_dec T_X12_lies_ok 8 (13, .iconst 1, 1) rfl) rfl ?_
      refine zx_goto (pc := 14) (tgt := 18) G rfl (z_dec T_X12_lies_ok 9 (14, .goto 4, 3) rfl) ?_
      exact zx_zret (pc := 18) G hr hlk (Nat.le_refl _) (Nat.le_refl _) (Or.inr rfl) (z_dec T_X12_lies_ok 11 (18, .ireturn, 1) rfl) ⟨rfl, _, rfl, (Or.inr rfl), h⟩
abbrev rm_X12_hasBit : Room := { frames := 0, cells := 0, slots := 0, locals := 0 }
set_option maxRecDepth 100000 in
set_option maxHeartbeats 4000000 in
theorem met_X12_hasBit (l : Launch) (D : va_G) (ρ : z_A) (kd : z_K) (q : z_Q) (μ : z_M) (sz : Nat) (a1 : Int32) (a2 : Int32) (K : Int32 → z_M → Prop) (hI : z_I kd q) (h : C_X12_hasBit a1 a2 μ K) : Met l yX12_hasBit (z_ws yX12_hasBit cX12_hasBit 2 (Option.some Jvm.ClassFile.FieldType.boolean)) rm_X12_hasBit (z_Pc D ρ kd q μ sz [.int (a1), .int (a2)]) (z_Qn D (z_Rg ρ sz) ρ kd (z_Kz q K)) 0 0 (z_Rg ρ sz) := by
  refine z_met (rm := rm_X12_hasBit) (by decide) (Nat.le_of_ble_eq_true rfl) (fun p e s m args below meth c G hr hlk => ?_)
  unfold C_X12_hasBit at h
  show z_X _ _ _ _ _ _ _ _ _ _ _ _ _ _ _ _ _ _ _ _ _ [(0, .int (a1)), (1, .int (a2))] _
  refine zx_iload_n (pc := 0) G 0 rfl rfl (z_dec T_X12_hasBit_ok 0 (0, .iload_n 0, 1) rfl) ?_
  refine zx_iload_n (pc := 1) G 1 rfl rfl (z_dec T_X12_hasBit_ok 1 (1, .iload_n 1, 1) rfl) ?_
  refine zx_ishr (pc := 2) G  (z_dec T_X12_hasBit_ok 2 (2, .ishr, 1) rfl) ?_
  refine zx_iconst (pc := 3) (v := 1) G (z_dec T_X12_hasBit_ok 3 (3, .iconst 1, 1) rfl) rfl ?_
  refine zx_iand (pc := 4) G  (z_dec T_X12_hasBit_ok 4 (4, .iand, 1) rfl) ?_
  refine zx_iconst (pc := 5) (v := 1) G (z_dec T_X12_hasBit_ok 5 (5, .iconst 1, 1) rfl) rfl ?_
  refine zx_icmp_ne (pc := 6) (tgt := 13) G rfl (z_dec T_X12_hasBit_ok 6 (6, .if_icmp .ne 7, 3) rfl) (fun hc => ?_) (fun hc => ?_)
  · replace h := z_neg hc h
    refine zx_iconst (pc := 13) (v := 0) G (z_dec T_X12_hasBit_ok 9 (13, .iconst 0, 1) rfl) rfl ?_
    exact zx_zret (pc := 14) G hr hlk (Nat.le_refl _) (Nat.le_refl _) (Or.inl rfl) (z_dec T_X12_hasBit_ok 10 (14, .ireturn, 1) rfl) ⟨rfl, _, rfl, (Or.inl rfl), h⟩
  · replace h := z_pos hc h
    refine zx_iconst (pc := 9) (v := 1) G (z_dec T_X12_hasBit_ok 7 (9, .iconst 1, 1) rfl) rfl ?_
    refine zx_goto (pc := 10) (tgt := 14) G rfl (z_dec T_X12_hasBit_ok 8 (10, .goto 4, 3) rfl) ?_
    exact zx_zret (pc := 14) G hr hlk (Nat.le_refl _) (Nat.le_refl _) (Or.inr rfl) (z_dec T_X12_hasBit_ok 10 (14, .ireturn, 1) rfl) ⟨rfl, _, rfl, (Or.inr rfl), h⟩
abbrev rm_X12_sizeOf : Room := { frames := 0, cells := 0, slots := 0, locals := 0 }
set_option maxRecDepth 100000 in
set_option maxHeartbeats 4000000 in
theorem B_X12_sizeOf_4_ok {p : Program} {l : Launch} {e : Env} {s : State} {m : MethodId} {args : Array Value} {below : List Frame} {meth : Method} {c : Code} {D : va_G} {A : Nat → Prop} {ρ : z_A} {kd : z_K} {q : z_Q} {μ : z_M} {K : Int32 → z_M → Prop} {P4 : Int32 → Int32 → z_M → Prop} {v1 : Int32} {v2 : Int32} (G : z_G p c cX12_sizeOf s m args RX12 3 D) (hr : meth.sig.returnType = (Option.some Jvm.ClassFile.FieldType.int)) (hlk : meth.locks = false) (hP4 : ∀ (v1 : Int32) (v2 : Int32) (μ : z_M), P4 v1 v2 μ → z_X p l e rm_X12_sizeOf s m args below meth c 3 D A (MQ below (z_Qn D A ρ kd (z_Ki q K)) args s 0 0 A) 0 0 ρ kd q μ 4 [(1, .int (v1)), (2, .int (v2))] []) (hI : z_I kd q) (h : B_X12_sizeOf_4 K P4 v1 v2 μ) : z_X p l e rm_X12_sizeOf s m args below meth c 3 D A (MQ below (z_Qn D A ρ kd (z_Ki q K)) args s 0 0 A) 0 0 ρ kd q μ 4 [(1, .int (v1)), (2, .int (v2))] [] := by
    unfold B_X12_sizeOf_4 at h
    refine zx_iload_n (pc := 4) G 1 rfl rfl (z_dec T_X12_sizeOf_ok 4 (4, .iload_n 2, 1) rfl) ?_
    refine zx_if_eq (pc := 5) (tgt := 20) G rfl (z_dec T_X12_sizeOf_ok 5 (5, .ifCond .eq 15, 3) rfl) (fun hc => ?_) (fun hc => ?_)
    · replace h := z_pos hc h
      refine zx_iload_n (pc := 20) G 0 rfl rfl (z_dec T_X12_sizeOf_ok 14 (20, .iload_n 1, 1) rfl) ?_
      exact zx_iret (pc := 21) G hr hlk (Nat.le_refl _) (Nat.le_refl _) (z_dec T_X12_sizeOf_ok 15 (21, .ireturn, 1) rfl) ⟨rfl, _, rfl, h⟩
    · replace h := z_neg hc h
      refine zx_iinc (pc := 8) (v := v1 + 1) (lv' := [(1, .int (v1 + 1)), (2, .int (v2))]) G 0 rfl (z_inc (by decide)) (Nat.le_of_ble_eq_true rfl) rfl (z_dec T_X12_sizeOf_ok 6 (8, .iinc 1 1, 3) rfl) ?_
      refine zx_iload_n (pc := 11) G 1 rfl rfl (z_dec T_X12_sizeOf_ok 7 (11, .iload_n 2, 1) rfl) ?_
      refine zx_iload_n (pc := 12) G 1 rfl rfl (z_dec T_X12_sizeOf_ok 8 (12, .iload_n 2, 1) rfl) ?_
      refine zx_iconst (pc := 13) (v := 1) G (z_dec T_X12_sizeOf_ok 9 (13, .iconst 1, 1) rfl) rfl ?_
      refine zx_isub (pc := 14) G  (z_dec T_X12_sizeOf_ok 10 (14, .isub, 1) rfl) ?_
      refine zx_iand (pc := 15) G  (z_dec T_X12_sizeOf_ok 11 (15, .iand, 1) rfl) ?_
      refine zx_istore_n (pc := 16) (lv' := [(2, .int (v2 &&& (v2 - ((1 : Int32))))), (1, .int (v1 + 1))]) G rfl (Nat.le_of_ble_eq_true rfl) rfl (z_dec T_X12_sizeOf_ok 12 (16, .istore_n 2, 1) rfl) ?_
      refine zx_goto (pc := 17) (tgt := 4) G rfl (z_dec T_X12_sizeOf_ok 13 (17, .goto (-13), 3) rfl) ?_
      refine zx_sub (lv' := [(1, .int (v1 + 1)), (2, .int (v2 &&& (v2 - ((1 : Int32)))))]) [1, 0] rfl ?_
      exact hP4 _ _ _ h
set_option maxRecDepth 100000 in
set_option maxHeartbeats 4000000 in
theorem L_X12_sizeOf_4_ok {p : Program} {l : Launch} {e : Env} {s : State} {m : MethodId} {args : Array Value} {below : List Frame} {meth : Method} {c : Code} {D : va_G} {A : Nat → Prop} {ρ : z_A} {kd : z_K} {q : z_Q} {μ : z_M} {K : Int32 → z_M → Prop} {v1 : Int32} {v2 : Int32} (G : z_G p c cX12_sizeOf s m args RX12 3 D) (hr : meth.sig.returnType = (Option.some Jvm.ClassFile.FieldType.int)) (hlk : meth.locks = false) (hI : z_I kd q) (h : L_X12_sizeOf_4 K v1 v2 μ) : z_X p l e rm_X12_sizeOf s m args below meth c 3 D A (MQ below (z_Qn D A ρ kd (z_Ki q K)) args s 0 0 A) 0 0 ρ kd q μ 4 [(1, .int (v1)), (2, .int (v2))] [] :=
  h (fun (v1 : Int32) (v2 : Int32) (μ : z_M) => z_X p l e rm_X12_sizeOf s m args below meth c 3 D A (MQ below (z_Qn D A ρ kd (z_Ki q K)) args s 0 0 A) 0 0 ρ kd q μ 4 [(1, .int (v1)), (2, .int (v2))] []) (fun v1 v2 μ h  => B_X12_sizeOf_4_ok G hr hlk (fun _ _ _ h => h) hI  h) 
set_option maxRecDepth 100000 in
set_option maxHeartbeats 4000000 in
theorem met_X12_sizeOf (l : Launch) (D : va_G) (ρ : z_A) (kd : z_K) (q : z_Q) (μ : z_M) (sz : Nat) (a1 : Int32) (K : Int32 → z_M → Prop) (hI : z_I kd q) (h : C_X12_sizeOf a1 μ K) : Met l yX12_sizeOf (z_ws yX12_sizeOf cX12_sizeOf 3 (Option.some Jvm.ClassFile.FieldType.int)) rm_X12_sizeOf (z_Pc D ρ kd q μ sz [.int (a1)]) (z_Qn D (z_Rg ρ sz) ρ kd (z_Ki q K)) 0 0 (z_Rg ρ sz) := by
  refine z_met (rm := rm_X12_sizeOf) (by decide) (Nat.le_of_ble_eq_true rfl) (fun p e s m args below meth c G hr hlk => ?_)
  unfold C_X12_sizeOf at h
  show z_X _ _ _ _ _ _ _ _ _ _ _ _ _ _ _ _ _ _ _ _ _ [(0, .int (a1))] _
  refine zx_iconst (pc := 0) (v := 0) G (z_dec T_X12_sizeOf_ok 0 (0, .iconst 0, 1) rfl) rfl ?_
  refine zx_istore_n (pc := 1) (lv' := [(1, .int ((0 : Int32))), (0, .int (a1))]) G rfl (Nat.le_of_ble_eq_true rfl) rfl (z_dec T_X12_sizeOf_ok 1 (1, .istore_n 1, 1) rfl) ?_
  refine zx_iload_n (pc := 2) G 1 rfl rfl (z_dec T_X12_sizeOf_ok 2 (2, .iload_n 0, 1) rfl) ?_
  refine zx_istore_n (pc := 3) (lv' := [(2, .int (a1)), (1, .int ((0 : Int32))), (0, .int (a1))]) G rfl (Nat.le_of_ble_eq_true rfl) rfl (z_dec T_X12_sizeOf_ok 3 (3, .istore_n 2, 1) rfl) ?_
  refine zx_sub (lv' := [(1, .int ((0 : Int32))), (2, .int (a1))]) [1, 0] rfl ?_
  exact L_X12_sizeOf_4_ok G hr hlk hI h
abbrev rm_X12_isRace : Room := { frames := 1, cells := 0, slots := 0, locals := 25 }
set_option maxRecDepth 100000 in
set_option maxHeartbeats 4000000 in
theorem met_X12_isRace (l : Launch) (D : va_G) (ρ : z_A) (kd : z_K) (q : z_Q) (μ : z_M) (sz : Nat) (a1 : Int32) (K : Int32 → z_M → Prop) (hI : z_I kd q) (h_o : kd 0 = some (.inl 12)) (h : C_X12_isRace a1 μ K) : Met l yX12_isRace (z_ws yX12_isRace cX12_isRace 2 (Option.some Jvm.ClassFile.FieldType.boolean)) rm_X12_isRace (z_Pc D ρ kd q μ sz [.ref (0), .int (a1)]) (z_Qn D (z_Rg ρ sz) ρ kd (z_Kz q K)) 0 0 (z_Rg ρ sz) := by
  refine z_met (rm := rm_X12_isRace) (by decide) (Nat.le_of_ble_eq_true rfl) (fun p e s m args below meth c G hr hlk => ?_)
  unfold C_X12_isRace at h
  show z_X _ _ _ _ _ _ _ _ _ _ _ _ _ _ _ _ _ _ _ _ _ [(0, .ref (0)), (1, .int (a1))] _
  refine zx_iload_n (pc := 0) G 1 rfl rfl (z_dec T_X12_isRace_ok 0 (0, .iload_n 1, 1) rfl) ?_
  refine zx_i2l (pc := 1) G  (z_dec T_X12_isRace_ok 1 (1, .i2l, 1) rfl) ?_
  refine zx_lconst (pc := 2) (v := 0) G (z_dec T_X12_isRace_ok 2 (2, .lconst 0, 1) rfl) rfl ?_
  refine zx_aload_n (pc := 3) G (some (0)) 0 rfl rfl (z_dec T_X12_isRace_ok 3 (3, .aload_n 0, 1) rfl) ?_
  refine zx_getI (pc := 4) G gf_RX12_136 rfl h_o (z_dec T_X12_isRace_ok 4 (4, .getfield 136, 3) rfl) ?_
  refine zx_iconst (pc := 7) (v := 1) G (z_dec T_X12_isRace_ok 5 (7, .iconst 1, 1) rfl) rfl ?_
  refine zx_isub (pc := 8) G  (z_dec T_X12_isRace_ok 6 (8, .isub, 1) rfl) ?_
  refine zx_i2l (pc := 9) G  (z_dec T_X12_isRace_ok 7 (9, .i2l, 1) rfl) ?_
  refine zx_callS_zN (pc := 10) (rm := rm_X12_lies) G cw_RX12_140 ⟨Nat.le_of_ble_eq_true rfl, Nat.le_of_ble_eq_true rfl⟩ rfl rfl ⟨Nat.zero_le _, Nat.zero_le _⟩ (fun sz => (met_X12_lies l D ρ kd q μ sz a1.toInt64 ((0 : Int64)) (((μ.1 0 3) - ((1 : Int32))).toInt64) _ hI h)) rfl rfl (Nat.le_of_ble_eq_true rfl) (z_dec T_X12_isRace_ok 8 (10, .invokestatic 140, 3) rfl) (fun r2 μ1 hzr2 hn => ?_)
  clear h
  have h := hn
  clear hn
  exact zx_zret (pc := 13) G hr hlk (Nat.le_refl _) (Nat.le_refl _) hzr2 (z_dec T_X12_isRace_ok 9 (13, .ireturn, 1) rfl) ⟨rfl, _, rfl, hzr2, h⟩
abbrev rm_X12_isBook : Room := { frames := 1, cells := 0, slots := 0, locals := 25 }
set_option maxRecDepth 100000 in
set_option maxHeartbeats 4000000 in
theorem met_X12_isBook (l : Launch) (D : va_G) (ρ : z_A) (kd : z_K) (q : z_Q) (μ : z_M) (sz : Nat) (a1 : Int32) (K : Int32 → z_M → Prop) (hI : z_I kd q) (h_o : kd 0 = some (.inl 12)) (h : C_X12_isBook a1 μ K) : Met l yX12_isBook (z_ws yX12_isBook cX12_isBook 2 (Option.some Jvm.ClassFile.FieldType.boolean)) rm_X12_isBook (z_Pc D ρ kd q μ sz [.ref (0), .int (a1)]) (z_Qn D (z_Rg ρ sz) ρ kd (z_Kz q K)) 0 0 (z_Rg ρ sz) := by
  refine z_met (rm := rm_X12_isBook) (by decide) (Nat.le_of_ble_eq_true rfl) (fun p e s m args below meth c G hr hlk => ?_)
  unfold C_X12_isBook at h
  show z_X _ _ _ _ _ _ _ _ _ _ _ _ _ _ _ _ _ _ _ _ _ [(0, .ref (0)), (1, .int (a1))] _
  refine zx_iload_n (pc := 0) G 1 rfl rfl (z_dec T_X12_isBook_ok 0 (0, .iload_n 1, 1) rfl) ?_
  refine zx_i2l (pc := 1) G  (z_dec T_X12_isBook_ok 1 (1, .i2l, 1) rfl) ?_
  refine zx_lconst (pc := 2) (v := 0) G (z_dec T_X12_isBook_ok 2 (2, .lconst 0, 1) rfl) rfl ?_
  refine zx_aload_n (pc := 3) G (some (0)) 0 rfl rfl (z_dec T_X12_isBook_ok 3 (3, .aload_n 0, 1) rfl) ?_
  refine zx_getI (pc := 4) G gf_RX12_144 rfl h_o (z_dec T_X12_isBook_ok 4 (4, .getfield 144, 3) rfl) ?_
  refine zx_iconst (pc := 7) (v := 1) G (z_dec T_X12_isBook_ok 5 (7, .iconst 1, 1) rfl) rfl ?_
  refine zx_isub (pc := 8) G  (z_dec T_X12_isBook_ok 6 (8, .isub, 1) rfl) ?_
  refine zx_i2l (pc := 9) G  (z_dec T_X12_isBook_ok 7 (9, .i2l, 1) rfl) ?_
  refine zx_callS_zN (pc := 10) (rm := rm_X12_lies) G cw_RX12_140 ⟨Nat.le_of_ble_eq_true rfl, Nat.le_of_ble_eq_true rfl⟩ rfl rfl ⟨Nat.zero_le _, Nat.zero_le _⟩ (fun sz => (met_X12_lies l D ρ kd q μ sz a1.toInt64 ((0 : Int64)) (((μ.1 0 4) - ((1 : Int32))).toInt64) _ hI h)) rfl rfl (Nat.le_of_ble_eq_true rfl) (z_dec T_X12_isBook_ok 8 (10, .invokestatic 140, 3) rfl) (fun r2 μ1 hzr2 hn => ?_)
  clear h
  have h := hn
  clear hn
  exact zx_zret (pc := 13) G hr hlk (Nat.le_refl _) (Nat.le_refl _) hzr2 (z_dec T_X12_isBook_ok 9 (13, .ireturn, 1) rfl) ⟨rfl, _, rfl, hzr2, h⟩
abbrev rm_X12_isHorse : Room := { frames := 2, cells := 0, slots := 0, locals := 46 }
set_option maxRecDepth 100000 in
set_option maxHeartbeats 4000000 in
theorem met_X12_isHorse (l : Launch) (D : va_G) (ρ : z_A) (kd : z_K) (q : z_Q) (μ : z_M) (sz : Nat) (a1 : Int32) (a2 : Int32) (K : Int32 → z_M → Prop) (hI : z_I kd q) (h_o : kd 0 = some (.inl 12)) (h : C_X12_isHorse a1 a2 μ K) : Met l yX12_isHorse (z_ws yX12_isHorse cX12_isHorse 3 (Option.some Jvm.ClassFile.FieldType.boolean)) rm_X12_isHorse (z_Pc D ρ kd q μ sz [.ref (0), .int (a1), .int (a2)]) (z_Qn D (z_Rg ρ sz) ρ kd (z_Kz q K)) 0 0 (z_Rg ρ sz) := by
  refine z_met (rm := rm_X12_isHorse) (by decide) (Nat.le_of_ble_eq_true rfl) (fun p e s m args below meth c G hr hlk => ?_)
  unfold C_X12_isHorse at h
  show z_X _ _ _ _ _ _ _ _ _ _ _ _ _ _ _ _ _ _ _ _ _ [(0, .ref (0)), (1, .int (a1)), (2, .int (a2))] _
  refine zx_aload_n (pc := 0) G (some (0)) 0 rfl rfl (z_dec T_X12_isHorse_ok 0 (0, .aload_n 0, 1) rfl) ?_
  refine zx_iload_n (pc := 1) G 1 rfl rfl (z_dec T_X12_isHorse_ok 1 (1, .iload_n 1, 1) rfl) ?_
  refine zx_callV_zN (pc := 2) (rm := rm_X12_isRace) G cw_RX12_147 ⟨Nat.le_of_ble_eq_true rfl, Nat.le_of_ble_eq_true rfl⟩ rfl rfl ⟨Nat.zero_le _, Nat.zero_le _⟩ h_o rfl (fun sz => (met_X12_isRace l D ρ kd q μ sz a1 _ hI h_o h)) rfl rfl (Nat.le_of_ble_eq_true rfl) (z_dec T_X12_isHorse_ok 2 (2, .invokevirtual 147, 3) rfl) (fun r2 μ1 hzr2 hn => ?_)
  clear h
  have h := hn
  clear hn
  refine zx_if_eq (pc := 5) (tgt := 30) G rfl (z_dec T_X12_isHorse_ok 3 (5, .ifCond .eq 25, 3) rfl) (fun hc => ?_) (fun hc => ?_)
  · replace h := z_pos hc h
    refine zx_iconst (pc := 30) (v := 0) G (z_dec T_X12_isHorse_ok 18 (30, .iconst 0, 1) rfl) rfl ?_
    exact zx_zret (pc := 31) G hr hlk (Nat.le_refl _) (Nat.le_refl _) (Or.inl rfl) (z_dec T_X12_isHorse_ok 19 (31, .ireturn, 1) rfl) ⟨rfl, _, rfl, (Or.inl rfl), h⟩
  · replace h := z_neg hc h
    refine zx_iload_n (pc := 8) G 2 rfl rfl (z_dec T_X12_isHorse_ok 4 (8, .iload_n 2, 1) rfl) ?_
    refine zx_i2l (pc := 9) G  (z_dec T_X12_isHorse_ok 5 (9, .i2l, 1) rfl) ?_
    refine zx_lconst (pc := 10) (v := 0) G (z_dec T_X12_isHorse_ok 6 (10, .lconst 0, 1) rfl) rfl ?_
    refine zx_aload_n (pc := 11) G (some (0)) 0 rfl rfl (z_dec T_X12_isHorse_ok 7 (11, .aload_n 0, 1) rfl) ?_
    refine zx_getF (pc := 12) (b := 10) G gf_RX12_20 rfl h_o (zq_12_9 hI h_o) (z_dec T_X12_isHorse_ok 8 (12, .getfield 20, 3) rfl) ?_
    refine zx_iload_n (pc := 15) G 1 rfl rfl (z_dec T_X12_isHorse_ok 9 (15, .iload_n 1, 1) rfl) ?_
    obtain ⟨c3, h⟩ := h
    refine zx_iald (pc := 16) G (zk_12_9 hI h_o) c3 (z_dec T_X12_isHorse_ok 10 (16, .iaload, 1) rfl) ?_
    refine zx_iconst (pc := 17) (v := 1) G (z_dec T_X12_isHorse_ok 11 (17, .iconst 1, 1) rfl) rfl ?_
    refine zx_isub (pc := 18) G  (z_dec T_X12_isHorse_ok 12 (18, .isub, 1) rfl) ?_
    refine zx_i2l (pc := 19) G  (z_dec T_X12_isHorse_ok 13 (19, .i2l, 1) rfl) ?_
    refine zx_callS_zN (pc := 20) (rm := rm_X12_lies) G cw_RX12_140 ⟨Nat.le_of_ble_eq_true rfl, Nat.le_of_ble_eq_true rfl⟩ rfl rfl ⟨Nat.zero_le _, Nat.zero_le _⟩ (fun sz => (met_X12_lies l D ρ kd q μ1 sz a2.toInt64 ((0 : Int64)) (((μ1.1 10 a1.toNatClampNeg) - ((1 : Int32))).toInt64) _ hI h)) rfl rfl (Nat.le_of_ble_eq_true rfl) (z_dec T_X12_isHorse_ok 14 (20, .invokestatic 140, 3) rfl) (fun r5 μ4 hzr5 hn => ?_)
    clear h
    have h := hn
    clear hn
    refine zx_if_eq (pc := 23) (tgt := 30) G rfl (z_dec T_X12_isHorse_ok 15 (23, .ifCond .eq 7, 3) rfl) (fun hc => ?_) (fun hc => ?_)
    · replace h := z_pos hc h
      refine zx_iconst (pc := 30) (v := 0) G (z_dec T_X12_isHorse_ok 18 (30, .iconst 0, 1) rfl) rfl ?_
      exact zx_zret (pc := 31) G hr hlk (Nat.le_refl _) (Nat.le_refl _) (Or.inl rfl) (z_dec T_X12_isHorse_ok 19 (31, .ireturn, 1) rfl) ⟨rfl, _, rfl, (Or.inl rfl), h⟩
    · replace h := z_neg hc h
      refine zx_iconst (pc := 26) (v := 1) G (z_dec T_X12_isHorse_ok 16 (26, .iconst 1, 1) rfl) rfl ?_
      refine zx_goto (pc := 27) (tgt := 31) G rfl (z_dec T_X12_isHorse_ok 17 (27, .goto 4, 3) rfl) ?_
      exact zx_zret (pc := 31) G hr hlk (Nat.le_refl _) (Nat.le_refl _) (Or.inr rfl) (z_dec T_X12_isHorse_ok 19 (31, .ireturn, 1) rfl) ⟨rfl, _, rfl, (Or.inr rfl), h⟩
abbrev rm_X12_runs : Room := { frames := 3, cells := 0, slots := 0, locals := 68 }
set_option maxRecDepth 100000 in
set_option maxHeartbeats 4000000 in
theorem met_X12_runs (l : Launch) (D : va_G) (ρ : z_A) (kd : z_K) (q : z_Q) (μ : z_M) (sz : Nat) (a1 : Int32) (a2 : Int32) (K : Int32 → z_M → Prop) (hI : z_I kd q) (h_o : kd 0 = some (.inl 12)) (h : C_X12_runs a1 a2 μ K) : Met l yX12_runs (z_ws yX12_runs cX12_runs 3 (Option.some Jvm.ClassFile.FieldType.boolean)) rm_X12_runs (z_Pc D ρ kd q μ sz [.ref (0), .int (a1), .int (a2)]) (z_Qn D (z_Rg ρ sz) ρ kd (z_Kz q K)) 0 0 (z_Rg ρ sz) := by
  refine z_met (rm := rm_X12_runs) (by decide) (Nat.le_of_ble_eq_true rfl) (fun p e s m args below meth c G hr hlk => ?_)
  unfold C_X12_runs at h
  show z_X _ _ _ _ _ _ _ _ _ _ _ _ _ _ _ _ _ _ _ _ _ [(0, .ref (0)), (1, .int (a1)), (2, .int (a2))] _
  refine zx_aload_n (pc := 0) G (some (0)) 0 rfl rfl (z_dec T_X12_runs_ok 0 (0, .aload_n 0, 1) rfl) ?_
  refine zx_iload_n (pc := 1) G 1 rfl rfl (z_dec T_X12_runs_ok 1 (1, .iload_n 1, 1) rfl) ?_
  refine zx_iload_n (pc := 2) G 2 rfl rfl (z_dec T_X12_runs_ok 2 (2, .iload_n 2, 1) rfl) ?_
  refine zx_callV_zN (pc := 3) (rm := rm_X12_isHorse) G cw_RX12_151 ⟨Nat.le_of_ble_eq_true rfl, Nat.le_of_ble_eq_true rfl⟩ rfl rfl ⟨Nat.zero_le _, Nat.zero_le _⟩ h_o rfl (fun sz => (met_X12_isHorse l D ρ kd q μ sz a1 a2 _ hI h_o h)) rfl rfl (Nat.le_of_ble_eq_true rfl) (z_dec T_X12_runs_ok 3 (3, .invokevirtual 151, 3) rfl) (fun r2 μ1 hzr2 hn => ?_)
  clear h
  have h := hn
  clear hn
  refine zx_if_eq (pc := 6) (tgt := 26) G rfl (z_dec T_X12_runs_ok 4 (6, .ifCond .eq 20, 3) rfl) (fun hc => ?_) (fun hc => ?_)
  · replace h := z_pos hc h
    refine zx_iconst (pc := 26) (v := 0) G (z_dec T_X12_runs_ok 14 (26, .iconst 0, 1) rfl) rfl ?_
    exact zx_zret (pc := 27) G hr hlk (Nat.le_refl _) (Nat.le_refl _) (Or.inl rfl) (z_dec T_X12_runs_ok 15 (27, .ireturn, 1) rfl) ⟨rfl, _, rfl, (Or.inl rfl), h⟩
  · replace h := z_neg hc h
    refine zx_aload_n (pc := 9) G (some (0)) 0 rfl rfl (z_dec T_X12_runs_ok 5 (9, .aload_n 0, 1) rfl) ?_
    refine zx_getF (pc := 10) (b := 11) G gf_RX12_23 rfl h_o (zq_12_10 hI h_o) (z_dec T_X12_runs_ok 6 (10, .getfield 23, 3) rfl) ?_
    refine zx_iload_n (pc := 13) G 1 rfl rfl (z_dec T_X12_runs_ok 7 (13, .iload_n 1, 1) rfl) ?_
    obtain ⟨c3, h⟩ := h
    refine zx_iald (pc := 14) G (zk_12_10 hI h_o) c3 (z_dec T_X12_runs_ok 8 (14, .iaload, 1) rfl) ?_
    refine zx_iload_n (pc := 15) G 2 rfl rfl (z_dec T_X12_runs_ok 9 (15, .iload_n 2, 1) rfl) ?_
    refine zx_callS_zN (pc := 16) (rm := rm_X12_hasBit) G cw_RX12_155 ⟨Nat.le_of_ble_eq_true rfl, Nat.le_of_ble_eq_true rfl⟩ rfl rfl ⟨Nat.zero_le _, Nat.zero_le _⟩ (fun sz => (met_X12_hasBit l D ρ kd q μ1 sz (μ1.1 11 a1.toNatClampNeg) a2 _ hI h)) rfl rfl (Nat.le_of_ble_eq_true rfl) (z_dec T_X12_runs_ok 10 (16, .invokestatic 155, 3) rfl) (fun r5 μ4 hzr5 hn => ?_)
    clear h
    have h := hn
    clear hn
    refine zx_if_ne (pc := 19) (tgt := 26) G rfl (z_dec T_X12_runs_ok 11 (19, .ifCond .ne 7, 3) rfl) (fun hc => ?_) (fun hc => ?_)
    · replace h := z_neg hc h
      refine zx_iconst (pc := 26) (v := 0) G (z_dec T_X12_runs_ok 14 (26, .iconst 0, 1) rfl) rfl ?_
      exact zx_zret (pc := 27) G hr hlk (Nat.le_refl _) (Nat.le_refl _) (Or.inl rfl) (z_dec T_X12_runs_ok 15 (27, .ireturn, 1) rfl) ⟨rfl, _, rfl, (Or.inl rfl), h⟩
    · replace h := z_pos hc h
      refine zx_iconst (pc := 22) (v := 1) G (z_dec T_X12_runs_ok 12 (22, .iconst 1, 1) rfl) rfl ?_
      refine zx_goto (pc := 23) (tgt := 27) G rfl (z_dec T_X12_runs_ok 13 (23, .goto 4, 3) rfl) ?_
      exact zx_zret (pc := 27) G hr hlk (Nat.le_refl _) (Nat.le_refl _) (Or.inr rfl) (z_dec T_X12_runs_ok 15 (27, .ireturn, 1) rfl) ⟨rfl, _, rfl, (Or.inr rfl), h⟩
abbrev rm_X12_cellOf : Room := { frames := 0, cells := 0, slots := 0, locals := 0 }
set_option maxRecDepth 100000 in
set_option maxHeartbeats 4000000 in
theorem met_X12_cellOf (l : Launch) (D : va_G) (ρ : z_A) (kd : z_K) (q : z_Q) (μ : z_M) (sz : Nat) (a1 : Int32) (a2 : Int32) (a3 : Int32) (K : Int32 → z_M → Prop) (hI : z_I kd q) (h : C_X12_cellOf a1 a2 a3 μ K) : Met l yX12_cellOf (z_ws yX12_cellOf cX12_cellOf 3 (Option.some Jvm.ClassFile.FieldType.int)) rm_X12_cellOf (z_Pc D ρ kd q μ sz [.int (a1), .int (a2), .int (a3)]) (z_Qn D (z_Rg ρ sz) ρ kd (z_Ki q K)) 0 0 (z_Rg ρ sz) := by
  refine z_met (rm := rm_X12_cellOf) (by decide) (Nat.le_of_ble_eq_true rfl) (fun p e s m args below meth c G hr hlk => ?_)
  unfold C_X12_cellOf at h
  show z_X _ _ _ _ _ _ _ _ _ _ _ _ _ _ _ _ _ _ _ _ _ [(0, .int (a1)), (1, .int (a2)), (2, .int (a3))] _
  refine zx_bipush (pc := 0) (v := 24) G (z_dec T_X12_cellOf_ok 0 (0, .bipush 24, 2) rfl) rfl ?_
  refine zx_iload_n (pc := 2) G 0 rfl rfl (z_dec T_X12_cellOf_ok 1 (2, .iload_n 0, 1) rfl) ?_
  refine zx_imul (pc := 3) G  (z_dec T_X12_cellOf_ok 2 (3, .imul, 1) rfl) ?_
  refine zx_bipush (pc := 4) (v := 8) G (z_dec T_X12_cellOf_ok 3 (4, .bipush 8, 2) rfl) rfl ?_
  refine zx_iload_n (pc := 6) G 1 rfl rfl (z_dec T_X12_cellOf_ok 4 (6, .iload_n 1, 1) rfl) ?_
  refine zx_imul (pc := 7) G  (z_dec T_X12_cellOf_ok 5 (7, .imul, 1) rfl) ?_
  refine zx_iadd (pc := 8) G  (z_dec T_X12_cellOf_ok 6 (8, .iadd, 1) rfl) ?_
  refine zx_iload_n (pc := 9) G 2 rfl rfl (z_dec T_X12_cellOf_ok 7 (9, .iload_n 2, 1) rfl) ?_
  refine zx_iadd (pc := 10) G  (z_dec T_X12_cellOf_ok 8 (10, .iadd, 1) rfl) ?_
  exact zx_iret (pc := 11) G hr hlk (Nat.le_refl _) (Nat.le_refl _) (z_dec T_X12_cellOf_ok 9 (11, .ireturn, 1) rfl) ⟨rfl, _, rfl, h⟩
abbrev rm_X12_race : Room := { frames := 1, cells := 0, slots := 0, locals := 25 }
set_option maxRecDepth 100000 in
set_option maxHeartbeats 4000000 in
theorem met_X12_race (l : Launch) (D : va_G) (ρ : z_A) (kd : z_K) (q : z_Q) (μ : z_M) (sz : Nat) (a1 : Int32) (K : Int32 → z_M → Prop) (hI : z_I kd q) (h_o : kd 0 = some (.inl 12)) (h : C_X12_race a1 μ K) : Met l yX12_race (z_ws yX12_race cX12_race 2 (Option.some Jvm.ClassFile.FieldType.int)) rm_X12_race (z_Pc D ρ kd q μ sz [.ref (0), .int (a1)]) (z_Qn D (z_Rg ρ sz) ρ kd (z_Ki q K)) 0 0 (z_Rg ρ sz) := by
  refine z_met (rm := rm_X12_race) (by decide) (Nat.le_of_ble_eq_true rfl) (fun p e s m args below meth c G hr hlk => ?_)
  unfold C_X12_race at h
  show z_X _ _ _ _ _ _ _ _ _ _ _ _ _ _ _ _ _ _ _ _ _ [(0, .ref (0)), (1, .int (a1))] _
  refine zx_aload_n (pc := 0) G (some (0)) 0 rfl rfl (z_dec T_X12_race_ok 0 (0, .aload_n 0, 1) rfl) ?_
  refine zx_getI (pc := 1) G gf_RX12_136 rfl h_o (z_dec T_X12_race_ok 1 (1, .getfield 136, 3) rfl) ?_
  refine zx_iconst (pc := 4) (v := 3) G (z_dec T_X12_race_ok 2 (4, .iconst 3, 1) rfl) rfl ?_
  refine zx_icmp_eq (pc := 5) (tgt := 22) G rfl (z_dec T_X12_race_ok 3 (5, .if_icmp .eq 17, 3) rfl) (fun hc => ?_) (fun hc => ?_)
  · replace h := z_pos hc h
    refine zx_iconst (pc := 22) (v := -1) G (z_dec T_X12_race_ok 10 (22, .iconst (-1), 1) rfl) rfl ?_
    exact zx_iret (pc := 23) G hr hlk (Nat.le_refl _) (Nat.le_refl _) (z_dec T_X12_race_ok 11 (23, .ireturn, 1) rfl) ⟨rfl, _, rfl, h⟩
  · replace h := z_neg hc h
    refine zx_iload_n (pc := 8) G 1 rfl rfl (z_dec T_X12_race_ok 4 (8, .iload_n 1, 1) rfl) ?_
    refine zx_i2l (pc := 9) G  (z_dec T_X12_race_ok 5 (9, .i2l, 1) rfl) ?_
    refine zx_ldc2 (pc := 10) G wk_RX12_158 (z_dec T_X12_race_ok 6 (10, .ldc2_w 158, 3) rfl) ?_
    refine zx_ldc2 (pc := 13) G wk_RX12_160 (z_dec T_X12_race_ok 7 (13, .ldc2_w 160, 3) rfl) ?_
    refine zx_callS_zN (pc := 16) (rm := rm_X12_lies) G cw_RX12_140 ⟨Nat.le_of_ble_eq_true rfl, Nat.le_of_ble_eq_true rfl⟩ rfl rfl ⟨Nat.zero_le _, Nat.zero_le _⟩ (fun sz => (met_X12_lies l D ρ kd q μ sz a1.toInt64 ((2 : Int64)) ((8 : Int64)) _ hI h)) rfl rfl (Nat.le_of_ble_eq_true rfl) (z_dec T_X12_race_ok 8 (16, .invokestatic 140, 3) rfl) (fun r2 μ1 hzr2 hn => ?_)
    clear h
    have h := hn
    clear hn
    refine zx_if_ne (pc := 19) (tgt := 24) G rfl (z_dec T_X12_race_ok 9 (19, .ifCond .ne 5, 3) rfl) (fun hc => ?_) (fun hc => ?_)
    · replace h := z_neg hc h
      refine zx_aload_n (pc := 24) G (some (0)) 0 rfl rfl (z_dec T_X12_race_ok 12 (24, .aload_n 0, 1) rfl) ?_
      refine zx_getF (pc := 25) (b := 10) G gf_RX12_20 rfl h_o (zq_12_9 hI h_o) (z_dec T_X12_race_ok 13 (25, .getfield 20, 3) rfl) ?_
      refine zx_aload_n (pc := 28) G (some (0)) 0 rfl rfl (z_dec T_X12_race_ok 14 (28, .aload_n 0, 1) rfl) ?_
      refine zx_getI (pc := 29) G gf_RX12_136 rfl h_o (z_dec T_X12_race_ok 15 (29, .getfield 136, 3) rfl) ?_
      refine zx_iload_n (pc := 32) G 1 rfl rfl (z_dec T_X12_race_ok 16 (32, .iload_n 1, 1) rfl) ?_
      obtain ⟨c3, h⟩ := h
      refine zx_iast (pc := 33) G (zk_12_9 hI h_o) c3 (z_dec T_X12_race_ok 17 (33, .iastore, 1) rfl) ?_
      refine zx_aload_n (pc := 34) G (some (0)) 0 rfl rfl (z_dec T_X12_race_ok 18 (34, .aload_n 0, 1) rfl) ?_
      refine zx_dup (pc := 35) G rfl (z_dec T_X12_race_ok 19 (35, .dup, 1) rfl) ?_
      refine zx_getI (pc := 36) G gf_RX12_136 rfl h_o (z_dec T_X12_race_ok 20 (36, .getfield 136, 3) rfl) ?_
      refine zx_iconst (pc := 39) (v := 1) G (z_dec T_X12_race_ok 21 (39, .iconst 1, 1) rfl) rfl ?_
      refine zx_iadd (pc := 40) G  (z_dec T_X12_race_ok 22 (40, .iadd, 1) rfl) ?_
      refine zx_putI (pc := 41) G gf_RX12_136 cf_12 rfl rfl h_o (z_dec T_X12_race_ok 23 (41, .putfield 136, 3) rfl) ?_
      refine zx_aload_n (pc := 44) G (some (0)) 0 rfl rfl (z_dec T_X12_race_ok 24 (44, .aload_n 0, 1) rfl) ?_
      refine zx_getI (pc := 45) G gf_RX12_136 rfl h_o (z_dec T_X12_race_ok 25 (45, .getfield 136, 3) rfl) ?_
      refine zx_iconst (pc := 48) (v := 1) G (z_dec T_X12_race_ok 26 (48, .iconst 1, 1) rfl) rfl ?_
      refine zx_isub (pc := 49) G  (z_dec T_X12_race_ok 27 (49, .isub, 1) rfl) ?_
      exact zx_iret (pc := 50) G hr hlk (Nat.le_refl _) (Nat.le_refl _) (z_dec T_X12_race_ok 28 (50, .ireturn, 1) rfl) ⟨rfl, _, rfl, h⟩
    · replace h := z_pos hc h
      refine zx_iconst (pc := 22) (v := -1) G (z_dec T_X12_race_ok 10 (22, .iconst (-1), 1) rfl) rfl ?_
      exact zx_iret (pc := 23) G hr hlk (Nat.le_refl _) (Nat.le_refl _) (z_dec T_X12_race_ok 11 (23, .ireturn, 1) rfl) ⟨rfl, _, rfl, h⟩
abbrev rm_X12_book : Room := { frames := 1, cells := 0, slots := 0, locals := 25 }
set_option maxRecDepth 100000 in
set_option maxHeartbeats 4000000 in
theorem met_X12_book (l : Launch) (D : va_G) (ρ : z_A) (kd : z_K) (q : z_Q) (μ : z_M) (sz : Nat) (a1 : Int32) (K : Int32 → z_M → Prop) (hI : z_I kd q) (h_o : kd 0 = some (.inl 12)) (h : C_X12_book a1 μ K) : Met l yX12_book (z_ws yX12_book cX12_book 2 (Option.some Jvm.ClassFile.FieldType.int)) rm_X12_book (z_Pc D ρ kd q μ sz [.ref (0), .int (a1)]) (z_Qn D (z_Rg ρ sz) ρ kd (z_Ki q K)) 0 0 (z_Rg ρ sz) := by
  refine z_met (rm := rm_X12_book) (by decide) (Nat.le_of_ble_eq_true rfl) (fun p e s m args below meth c G hr hlk => ?_)
  unfold C_X12_book at h
  show z_X _ _ _ _ _ _ _ _ _ _ _ _ _ _ _ _ _ _ _ _ _ [(0, .ref (0)), (1, .int (a1))] _
  refine zx_aload_n (pc := 0) G (some (0)) 0 rfl rfl (z_dec T_X12_book_ok 0 (0, .aload_n 0, 1) rfl) ?_
  refine zx_getI (pc := 1) G gf_RX12_144 rfl h_o (z_dec T_X12_book_ok 1 (1, .getfield 144, 3) rfl) ?_
  refine zx_iconst (pc := 4) (v := 4) G (z_dec T_X12_book_ok 2 (4, .iconst 4, 1) rfl) rfl ?_
  refine zx_icmp_eq (pc := 5) (tgt := 20) G rfl (z_dec T_X12_book_ok 3 (5, .if_icmp .eq 15, 3) rfl) (fun hc => ?_) (fun hc => ?_)
  · replace h := z_pos hc h
    refine zx_iconst (pc := 20) (v := -1) G (z_dec T_X12_book_ok 10 (20, .iconst (-1), 1) rfl) rfl ?_
    exact zx_iret (pc := 21) G hr hlk (Nat.le_refl _) (Nat.le_refl _) (z_dec T_X12_book_ok 11 (21, .ireturn, 1) rfl) ⟨rfl, _, rfl, h⟩
  · replace h := z_neg hc h
    refine zx_iload_n (pc := 8) G 1 rfl rfl (z_dec T_X12_book_ok 4 (8, .iload_n 1, 1) rfl) ?_
    refine zx_i2l (pc := 9) G  (z_dec T_X12_book_ok 5 (9, .i2l, 1) rfl) ?_
    refine zx_lconst (pc := 10) (v := 0) G (z_dec T_X12_book_ok 6 (10, .lconst 0, 1) rfl) rfl ?_
    refine zx_ldc2 (pc := 11) G wk_RX12_162 (z_dec T_X12_book_ok 7 (11, .ldc2_w 162, 3) rfl) ?_
    refine zx_callS_zN (pc := 14) (rm := rm_X12_lies) G cw_RX12_140 ⟨Nat.le_of_ble_eq_true rfl, Nat.le_of_ble_eq_true rfl⟩ rfl rfl ⟨Nat.zero_le _, Nat.zero_le _⟩ (fun sz => (met_X12_lies l D ρ kd q μ sz a1.toInt64 ((0 : Int64)) ((1000000 : Int64)) _ hI h)) rfl rfl (Nat.le_of_ble_eq_true rfl) (z_dec T_X12_book_ok 8 (14, .invokestatic 140, 3) rfl) (fun r2 μ1 hzr2 hn => ?_)
    clear h
    have h := hn
    clear hn
    refine zx_if_ne (pc := 17) (tgt := 22) G rfl (z_dec T_X12_book_ok 9 (17, .ifCond .ne 5, 3) rfl) (fun hc => ?_) (fun hc => ?_)
    · replace h := z_neg hc h
      refine zx_aload_n (pc := 22) G (some (0)) 0 rfl rfl (z_dec T_X12_book_ok 12 (22, .aload_n 0, 1) rfl) ?_
      refine zx_getF (pc := 23) (b := 15) G gf_RX12_36 rfl h_o (zq_12_14 hI h_o) (z_dec T_X12_book_ok 13 (23, .getfield 36, 3) rfl) ?_
      refine zx_aload_n (pc := 26) G (some (0)) 0 rfl rfl (z_dec T_X12_book_ok 14 (26, .aload_n 0, 1) rfl) ?_
      refine zx_getI (pc := 27) G gf_RX12_144 rfl h_o (z_dec T_X12_book_ok 15 (27, .getfield 144, 3) rfl) ?_
      refine zx_iload_n (pc := 30) G 1 rfl rfl (z_dec T_X12_book_ok 16 (30, .iload_n 1, 1) rfl) ?_
      obtain ⟨c3, h⟩ := h
      refine zx_iast (pc := 31) G (zk_12_14 hI h_o) c3 (z_dec T_X12_book_ok 17 (31, .iastore, 1) rfl) ?_
      refine zx_aload_n (pc := 32) G (some (0)) 0 rfl rfl (z_dec T_X12_book_ok 18 (32, .aload_n 0, 1) rfl) ?_
      refine zx_dup (pc := 33) G rfl (z_dec T_X12_book_ok 19 (33, .dup, 1) rfl) ?_
      refine zx_getI (pc := 34) G gf_RX12_144 rfl h_o (z_dec T_X12_book_ok 20 (34, .getfield 144, 3) rfl) ?_
      refine zx_iconst (pc := 37) (v := 1) G (z_dec T_X12_book_ok 21 (37, .iconst 1, 1) rfl) rfl ?_
      refine zx_iadd (pc := 38) G  (z_dec T_X12_book_ok 22 (38, .iadd, 1) rfl) ?_
      refine zx_putI (pc := 39) G gf_RX12_144 cf_12 rfl rfl h_o (z_dec T_X12_book_ok 23 (39, .putfield 144, 3) rfl) ?_
      refine zx_aload_n (pc := 42) G (some (0)) 0 rfl rfl (z_dec T_X12_book_ok 24 (42, .aload_n 0, 1) rfl) ?_
      refine zx_getI (pc := 43) G gf_RX12_144 rfl h_o (z_dec T_X12_book_ok 25 (43, .getfield 144, 3) rfl) ?_
      refine zx_iconst (pc := 46) (v := 1) G (z_dec T_X12_book_ok 26 (46, .iconst 1, 1) rfl) rfl ?_
      refine zx_isub (pc := 47) G  (z_dec T_X12_book_ok 27 (47, .isub, 1) rfl) ?_
      exact zx_iret (pc := 48) G hr hlk (Nat.le_refl _) (Nat.le_refl _) (z_dec T_X12_book_ok 28 (48, .ireturn, 1) rfl) ⟨rfl, _, rfl, h⟩
    · replace h := z_pos hc h
      refine zx_iconst (pc := 20) (v := -1) G (z_dec T_X12_book_ok 10 (20, .iconst (-1), 1) rfl) rfl ?_
      exact zx_iret (pc := 21) G hr hlk (Nat.le_refl _) (Nat.le_refl _) (z_dec T_X12_book_ok 11 (21, .ireturn, 1) rfl) ⟨rfl, _, rfl, h⟩
abbrev rm_X12_push : Room := { frames := 0, cells := 0, slots := 0, locals := 0 }
set_option maxRecDepth 100000 in
set_option maxHeartbeats 4000000 in
theorem B_X12_push_3_ok {p : Program} {l : Launch} {e : Env} {s : State} {m : MethodId} {args : Array Value} {below : List Frame} {meth : Method} {c : Code} {D : va_G} {A : Nat → Prop} {ρ : z_A} {kd : z_K} {q : z_Q} {μ : z_M} {K : z_M → Prop} {P3 : Int32 → Int32 → z_M → Prop} {v1 : Int32} {v2 : Int32} (G : z_G p c cX12_push s m args RX12 3 D) (hr : meth.sig.returnType = (Option.none : Option Jvm.ClassFile.FieldType)) (hlk : meth.locks = false) (hP3 : ∀ (v1 : Int32) (v2 : Int32) (μ : z_M), P3 v1 v2 μ → (kd 0 = some (.inl 12)) → z_X p l e rm_X12_push s m args below meth c 3 D A (MQ below (z_Qn D A ρ kd (z_Kv q K)) args s 0 0 A) 0 0 ρ kd q μ 3 [(0, .ref (0)), (1, .int (v1)), (2, .int (v2))] []) (hI : z_I kd q) (f_l0 : kd 0 = some (.inl 12)) (h : B_X12_push_3 K P3 v1 v2 μ) : z_X p l e rm_X12_push s m args below meth c 3 D A (MQ below (z_Qn D A ρ kd (z_Kv q K)) args s 0 0 A) 0 0 ρ kd q μ 3 [(0, .ref (0)), (1, .int (v1)), (2, .int (v2))] [] := by
    unfold B_X12_push_3 at h
    refine zx_iload_n (pc := 3) G 2 rfl rfl (z_dec T_X12_push_ok 2 (3, .iload_n 2, 1) rfl) ?_
    refine zx_if_lt (pc := 4) (tgt := 36) G rfl (z_dec T_X12_push_ok 3 (4, .ifCond .lt 32, 3) rfl) (fun hc => ?_) (fun hc => ?_)
    · replace h := z_pos hc h
      exact zx_vret (pc := 36) G hr hlk (Nat.le_refl _) (Nat.le_refl _) (z_dec T_X12_push_ok 21 (36, .return_, 1) rfl) ⟨rfl, rfl, h⟩
    · replace h := z_neg hc h
      refine zx_aload_n (pc := 7) G (some (0)) 0 rfl rfl (z_dec T_X12_push_ok 4 (7, .aload_n 0, 1) rfl) ?_
      refine zx_getF (pc := 8) (b := 1) G gf_RX12_7 rfl f_l0 (zq_12_0 hI f_l0) (z_dec T_X12_push_ok 5 (8, .getfield 7, 3) rfl) ?_
      refine zx_aload_n (pc := 11) G (some (0)) 0 rfl rfl (z_dec T_X12_push_ok 6 (11, .aload_n 0, 1) rfl) ?_
      refine zx_getI (pc := 12) G gf_RX12_164 rfl f_l0 (z_dec T_X12_push_ok 7 (12, .getfield 164, 3) rfl) ?_
      refine zx_iload_n (pc := 15) G 1 rfl rfl (z_dec T_X12_push_ok 8 (15, .iload_n 1, 1) rfl) ?_
      refine zx_iload_n (pc := 16) G 2 rfl rfl (z_dec T_X12_push_ok 9 (16, .iload_n 2, 1) rfl) ?_
      refine zx_ishr (pc := 17) G  (z_dec T_X12_push_ok 10 (17, .ishr, 1) rfl) ?_
      refine zx_i2b (pc := 18) G  (z_dec T_X12_push_ok 11 (18, .i2b, 1) rfl) ?_
      obtain ⟨c1, h⟩ := h
      refine zx_bast (pc := 19) G (zk_12_0 hI f_l0) c1 (z_dec T_X12_push_ok 12 (19, .bastore, 1) rfl) ?_
      refine zx_aload_n (pc := 20) G (some (0)) 0 rfl rfl (z_dec T_X12_push_ok 13 (20, .aload_n 0, 1) rfl) ?_
      refine zx_dup (pc := 21) G rfl (z_dec T_X12_push_ok 14 (21, .dup, 1) rfl) ?_
      refine zx_getI (pc := 22) G gf_RX12_164 rfl f_l0 (z_dec T_X12_push_ok 15 (22, .getfield 164, 3) rfl) ?_
      refine zx_iconst (pc := 25) (v := 1) G (z_dec T_X12_push_ok 16 (25, .iconst 1, 1) rfl) rfl ?_
      refine zx_iadd (pc := 26) G  (z_dec T_X12_push_ok 17 (26, .iadd, 1) rfl) ?_
      refine zx_putI (pc := 27) G gf_RX12_164 cf_12 rfl rfl f_l0 (z_dec T_X12_push_ok 18 (27, .putfield 164, 3) rfl) ?_
      refine zx_iinc (pc := 30) (v := v2 + (-8)) (lv' := [(2, .int (v2 + (-8))), (0, .ref (0)), (1, .int (v1))]) G 2 rfl (z_inc (by decide)) (Nat.le_of_ble_eq_true rfl) rfl (z_dec T_X12_push_ok 19 (30, .iinc 2 (-8), 3) rfl) ?_
      refine zx_goto (pc := 33) (tgt := 3) G rfl (z_dec T_X12_push_ok 20 (33, .goto (-30), 3) rfl) ?_
      refine zx_sub (lv' := [(0, .ref (0)), (1, .int (v1)), (2, .int (v2 + (-8)))]) [1, 2, 0] rfl ?_
      exact hP3 _ _ _ h f_l0
set_option maxRecDepth 100000 in
set_option maxHeartbeats 4000000 in
theorem L_X12_push_3_ok {p : Program} {l : Launch} {e : Env} {s : State} {m : MethodId} {args : Array Value} {below : List Frame} {meth : Method} {c : Code} {D : va_G} {A : Nat → Prop} {ρ : z_A} {kd : z_K} {q : z_Q} {μ : z_M} {K : z_M → Prop} {v1 : Int32} {v2 : Int32} (G : z_G p c cX12_push s m args RX12 3 D) (hr : meth.sig.returnType = (Option.none : Option Jvm.ClassFile.FieldType)) (hlk : meth.locks = false) (hI : z_I kd q) (f_l0 : kd 0 = some (.inl 12)) (h : L_X12_push_3 K v1 v2 μ) : z_X p l e rm_X12_push s m args below meth c 3 D A (MQ below (z_Qn D A ρ kd (z_Kv q K)) args s 0 0 A) 0 0 ρ kd q μ 3 [(0, .ref (0)), (1, .int (v1)), (2, .int (v2))] [] :=
  h (fun (v1 : Int32) (v2 : Int32) (μ : z_M) => (kd 0 = some (.inl 12)) → z_X p l e rm_X12_push s m args below meth c 3 D A (MQ below (z_Qn D A ρ kd (z_Kv q K)) args s 0 0 A) 0 0 ρ kd q μ 3 [(0, .ref (0)), (1, .int (v1)), (2, .int (v2))] []) (fun v1 v2 μ h f_l0 => B_X12_push_3_ok G hr hlk (fun _ _ _ h => h) hI f_l0 h) f_l0
set_option maxRecDepth 100000 in
set_option maxHeartbeats 4000000 in
theorem met_X12_push (l : Launch) (D : va_G) (ρ : z_A) (kd : z_K) (q : z_Q) (μ : z_M) (sz : Nat) (a1 : Int32) (K : z_M → Prop) (hI : z_I kd q) (h_o : kd 0 = some (.inl 12)) (h : C_X12_push a1 μ K) : Met l yX12_push (z_ws yX12_push cX12_push 3 (Option.none : Option Jvm.ClassFile.FieldType)) rm_X12_push (z_Pc D ρ kd q μ sz [.ref (0), .int (a1)]) (z_Qn D (z_Rg ρ sz) ρ kd (z_Kv q K)) 0 0 (z_Rg ρ sz) := by
  refine z_met (rm := rm_X12_push) (by decide) (Nat.le_of_ble_eq_true rfl) (fun p e s m args below meth c G hr hlk => ?_)
  unfold C_X12_push at h
  show z_X _ _ _ _ _ _ _ _ _ _ _ _ _ _ _ _ _ _ _ _ _ [(0, .ref (0)), (1, .int (a1))] _
  refine zx_bipush (pc := 0) (v := 24) G (z_dec T_X12_push_ok 0 (0, .bipush 24, 2) rfl) rfl ?_
  refine zx_istore_n (pc := 2) (lv' := [(2, .int ((24 : Int32))), (0, .ref (0)), (1, .int (a1))]) G rfl (Nat.le_of_ble_eq_true rfl) rfl (z_dec T_X12_push_ok 1 (2, .istore_n 2, 1) rfl) ?_
  refine zx_sub (lv' := [(0, .ref (0)), (1, .int (a1)), (2, .int ((24 : Int32)))]) [1, 2, 0] rfl ?_
  exact L_X12_push_3_ok G hr hlk hI h_o h
abbrev rm_X12_feed : Room := { frames := 1, cells := 0, slots := 0, locals := 22 }
set_option maxRecDepth 100000 in
set_option maxHeartbeats 4000000 in
theorem met_X12_feed (l : Launch) (D : va_G) (ρ : z_A) (kd : z_K) (q : z_Q) (μ : z_M) (sz : Nat) (a1 : Int32) (a2 : Int32) (a3 : Int32) (a4 : Int32) (a5 : Int32) (K : Int32 → z_M → Prop) (hI : z_I kd q) (h_o : kd 0 = some (.inl 12)) (h : C_X12_feed a1 a2 a3 a4 a5 μ K) : Met l yX12_feed (z_ws yX12_feed cX12_feed 6 (Option.some Jvm.ClassFile.FieldType.int)) rm_X12_feed (z_Pc D ρ kd q μ sz [.ref (0), .int (a1), .int (a2), .int (a3), .int (a4), .int (a5)]) (z_Qn D (z_Rg ρ sz) ρ kd (z_Ki q K)) 0 0 (z_Rg ρ sz) := by
  refine z_met (rm := rm_X12_feed) (by decide) (Nat.le_of_ble_eq_true rfl) (fun p e s m args below meth c G hr hlk => ?_)
  unfold C_X12_feed at h
  show z_X _ _ _ _ _ _ _ _ _ _ _ _ _ _ _ _ _ _ _ _ _ [(0, .ref (0)), (1, .int (a1)), (2, .int (a2)), (3, .int (a3)), (4, .int (a4)), (5, .int (a5))] _
  refine zx_aload_n (pc := 0) G (some (0)) 0 rfl rfl (z_dec T_X12_feed_ok 0 (0, .aload_n 0, 1) rfl) ?_
  refine zx_getI (pc := 1) G gf_RX12_164 rfl h_o (z_dec T_X12_feed_ok 1 (1, .getfield 164, 3) rfl) ?_
  refine zx_bipush (pc := 4) (v := 20) G (z_dec T_X12_feed_ok 2 (4, .bipush 20, 2) rfl) rfl ?_
  refine zx_iadd (pc := 6) G  (z_dec T_X12_feed_ok 3 (6, .iadd, 1) rfl) ?_
  refine zx_sipush (pc := 7) (v := 200) G (z_dec T_X12_feed_ok 4 (7, .sipush 200, 3) rfl) rfl ?_
  refine zx_icmp_le (pc := 10) (tgt := 15) G rfl (z_dec T_X12_feed_ok 5 (10, .if_icmp .le 5, 3) rfl) (fun hc => ?_) (fun hc => ?_)
  · replace h := z_pos hc h
    refine zx_aload_n (pc := 15) G (some (0)) 0 rfl rfl (z_dec T_X12_feed_ok 8 (15, .aload_n 0, 1) rfl) ?_
    refine zx_iload_n (pc := 16) G 1 rfl rfl (z_dec T_X12_feed_ok 9 (16, .iload_n 1, 1) rfl) ?_
    refine zx_callV_vN (pc := 17) (rm := rm_X12_push) G cw_RX12_167 ⟨Nat.le_of_ble_eq_true rfl, Nat.le_of_ble_eq_true rfl⟩ rfl rfl ⟨Nat.zero_le _, Nat.zero_le _⟩ h_o rfl (fun sz => (met_X12_push l D ρ kd q μ sz a1 _ hI h_o h)) rfl rfl (Nat.le_of_ble_eq_true rfl) (z_dec T_X12_feed_ok 10 (17, .invokevirtual 167, 3) rfl) (fun μ1 hn => ?_)
    clear h
    have h := hn
    clear hn
    refine zx_aload_n (pc := 20) G (some (0)) 0 rfl rfl (z_dec T_X12_feed_ok 11 (20, .aload_n 0, 1) rfl) ?_
    refine zx_iload_n (pc := 21) G 2 rfl rfl (z_dec T_X12_feed_ok 12 (21, .iload_n 2, 1) rfl) ?_
    refine zx_callV_vN (pc := 22) (rm := rm_X12_push) G cw_RX12_167 ⟨Nat.le_of_ble_eq_true rfl, Nat.le_of_ble_eq_true rfl⟩ rfl rfl ⟨Nat.zero_le _, Nat.zero_le _⟩ h_o rfl (fun sz => (met_X12_push l D ρ kd q μ1 sz a2 _ hI h_o h)) rfl rfl (Nat.le_of_ble_eq_true rfl) (z_dec T_X12_feed_ok 13 (22, .invokevirtual 167, 3) rfl) (fun μ2 hn => ?_)
    clear h
    have h := hn
    clear hn
    refine zx_aload_n (pc := 25) G (some (0)) 0 rfl rfl (z_dec T_X12_feed_ok 14 (25, .aload_n 0, 1) rfl) ?_
    refine zx_iload_n (pc := 26) G 3 rfl rfl (z_dec T_X12_feed_ok 15 (26, .iload_n 3, 1) rfl) ?_
    refine zx_callV_vN (pc := 27) (rm := rm_X12_push) G cw_RX12_167 ⟨Nat.le_of_ble_eq_true rfl, Nat.le_of_ble_eq_true rfl⟩ rfl rfl ⟨Nat.zero_le _, Nat.zero_le _⟩ h_o rfl (fun sz => (met_X12_push l D ρ kd q μ2 sz a3 _ hI h_o h)) rfl rfl (Nat.le_of_ble_eq_true rfl) (z_dec T_X12_feed_ok 16 (27, .invokevirtual 167, 3) rfl) (fun μ3 hn => ?_)
    clear h
    have h := hn
    clear hn
    refine zx_aload_n (pc := 30) G (some (0)) 0 rfl rfl (z_dec T_X12_feed_ok 17 (30, .aload_n 0, 1) rfl) ?_
    refine zx_iload (pc := 31) G 4 rfl (z_dec T_X12_feed_ok 18 (31, .iload 4, 2) rfl) ?_
    refine zx_callV_vN (pc := 33) (rm := rm_X12_push) G cw_RX12_167 ⟨Nat.le_of_ble_eq_true rfl, Nat.le_of_ble_eq_true rfl⟩ rfl rfl ⟨Nat.zero_le _, Nat.zero_le _⟩ h_o rfl (fun sz => (met_X12_push l D ρ kd q μ3 sz a4 _ hI h_o h)) rfl rfl (Nat.le_of_ble_eq_true rfl) (z_dec T_X12_feed_ok 19 (33, .invokevirtual 167, 3) rfl) (fun μ4 hn => ?_)
    clear h
    have h := hn
    clear hn
    refine zx_aload_n (pc := 36) G (some (0)) 0 rfl rfl (z_dec T_X12_feed_ok 20 (36, .aload_n 0, 1) rfl) ?_
    refine zx_iload (pc := 37) G 5 rfl (z_dec T_X12_feed_ok 21 (37, .iload 5, 2) rfl) ?_
    refine zx_callV_vN (pc := 39) (rm := rm_X12_push) G cw_RX12_167 ⟨Nat.le_of_ble_eq_true rfl, Nat.le_of_ble_eq_true rfl⟩ rfl rfl ⟨Nat.zero_le _, Nat.zero_le _⟩ h_o rfl (fun sz => (met_X12_push l D ρ kd q μ4 sz a5 _ hI h_o h)) rfl rfl (Nat.le_of_ble_eq_true rfl) (z_dec T_X12_feed_ok 22 (39, .invokevirtual 167, 3) rfl) (fun μ5 hn => ?_)
    clear h
    have h := hn
    clear hn
    refine zx_aload_n (pc := 42) G (some (0)) 0 rfl rfl (z_dec T_X12_feed_ok 23 (42, .aload_n 0, 1) rfl) ?_
    refine zx_getI (pc := 43) G gf_RX12_164 rfl h_o (z_dec T_X12_feed_ok 24 (43, .getfield 164, 3) rfl) ?_
    exact zx_iret (pc := 46) G hr hlk (Nat.le_refl _) (Nat.le_refl _) (z_dec T_X12_feed_ok 25 (46, .ireturn, 1) rfl) ⟨rfl, _, rfl, h⟩
  · replace h := z_neg hc h
    refine zx_iconst (pc := 13) (v := -1) G (z_dec T_X12_feed_ok 6 (13, .iconst (-1), 1) rfl) rfl ?_
    exact zx_iret (pc := 14) G hr hlk (Nat.le_refl _) (Nat.le_refl _) (z_dec T_X12_feed_ok 7 (14, .ireturn, 1) rfl) ⟨rfl, _, rfl, h⟩
abbrev rm_X12_ladder : Room := { frames := 1, cells := 0, slots := 0, locals := 25 }
set_option maxRecDepth 100000 in
set_option maxHeartbeats 4000000 in
theorem L_X12_ladder_127_ok {p : Program} {l : Launch} {e : Env} {s : State} {m : MethodId} {args : Array Value} {below : List Frame} {meth : Method} {c : Code} {D : va_G} {A : Nat → Prop} {ρ : z_A} {kd : z_K} {q : z_Q} {μ : z_M} {K : Int32 → z_M → Prop} {P38 : Int32 → Int32 → z_M → Prop} {v1 : Int32} {v2 : Int32} {v3 : Int32} {v4 : Int32} (G : z_G p c cX12_ladder s m args RX12 5 D) (hr : meth.sig.returnType = (Option.some Jvm.ClassFile.FieldType.boolean)) (hlk : meth.locks = false) (hP38 : ∀ (v1 : Int32) (v2 : Int32) (μ : z_M), P38 v1 v2 μ → (kd 0 = some (.inl 12)) → z_X p l e rm_X12_ladder s m args below meth c 5 D A (MQ below (z_Qn D A ρ kd (z_Kz q K)) args s 0 0 A) 0 0 ρ kd q μ 38 [(0, .ref (0)), (1, .int (v1)), (2, .int (v2))] []) (hI : z_I kd q) (f_l0 : kd 0 = some (.inl 12)) (h : L_X12_ladder_127 K P38 v1 v2 v3 v4 μ) : z_X p l e rm_X12_ladder s m args below meth c 5 D A (MQ below (z_Qn D A ρ kd (z_Kz q K)) args s 0 0 A) 0 0 ρ kd q μ 127 [(0, .ref (0)), (1, .int (v1)), (2, .int (v2)), (3, .int (v3)), (4, .int (v4))] [] := by
    unfold L_X12_ladder_127 at h
    refine zx_aload_n (pc := 127) G (some (0)) 0 rfl rfl (z_dec T_X12_ladder_ok 78 (127, .aload_n 0, 1) rfl) ?_
    refine zx_getF (pc := 128) (b := 8) G gf_RX12_13 rfl f_l0 (zq_12_7 hI f_l0) (z_dec T_X12_ladder_ok 79 (128, .getfield 13, 3) rfl) ?_
    refine zx_iload_n (pc := 131) G 2 rfl rfl (z_dec T_X12_ladder_ok 80 (131, .iload_n 2, 1) rfl) ?_
    refine zx_iload_n (pc := 132) G 3 rfl rfl (z_dec T_X12_ladder_ok 81 (132, .iload_n 3, 1) rfl) ?_
    obtain ⟨c1, h⟩ := h
    refine zx_iast (pc := 133) G (zk_12_7 hI f_l0) c1 (z_dec T_X12_ladder_ok 82 (133, .iastore, 1) rfl) ?_
    refine zx_aload_n (pc := 134) G (some (0)) 0 rfl rfl (z_dec T_X12_ladder_ok 83 (134, .aload_n 0, 1) rfl) ?_
    refine zx_getF (pc := 135) (b := 9) G gf_RX12_17 rfl f_l0 (zq_12_8 hI f_l0) (z_dec T_X12_ladder_ok 84 (135, .getfield 17, 3) rfl) ?_
    refine zx_iload_n (pc := 138) G 2 rfl rfl (z_dec T_X12_ladder_ok 85 (138, .iload_n 2, 1) rfl) ?_
    refine zx_iload (pc := 139) G 4 rfl (z_dec T_X12_ladder_ok 86 (139, .iload 4, 2) rfl) ?_
    refine zx_iast (pc := 141) G (zk_12_8 hI f_l0) c1 (z_dec T_X12_ladder_ok 87 (141, .iastore, 1) rfl) ?_
    refine zx_iinc (pc := 142) (v := v2 + 1) (lv' := [(2, .int (v2 + 1)), (0, .ref (0)), (1, .int (v1)), (3, .int (v3)), (4, .int (v4))]) G 2 rfl (z_inc (by decide)) (Nat.le_of_ble_eq_true rfl) rfl (z_dec T_X12_ladder_ok 88 (142, .iinc 2 1, 3) rfl) ?_
    refine zx_goto (pc := 145) (tgt := 38) G rfl (z_dec T_X12_ladder_ok 89 (145, .goto (-107), 3) rfl) ?_
    refine zx_sub (lv' := [(0, .ref (0)), (1, .int (v1)), (2, .int (v2 + 1))]) [1, 2, 0] rfl ?_
    exact hP38 _ _ _ h f_l0
set_option maxRecDepth 100000 in
set_option maxHeartbeats 4000000 in
theorem B_X12_ladder_38_ok {p : Program} {l : Launch} {e : Env} {s : State} {m : MethodId} {args : Array Value} {below : List Frame} {meth : Method} {c : Code} {D : va_G} {A : Nat → Prop} {ρ : z_A} {kd : z_K} {q : z_Q} {μ : z_M} {K : Int32 → z_M → Prop} {P38 : Int32 → Int32 → z_M → Prop} {v1 : Int32} {v2 : Int32} (G : z_G p c cX12_ladder s m args RX12 5 D) (hr : meth.sig.returnType = (Option.some Jvm.ClassFile.FieldType.boolean)) (hlk : meth.locks = false) (hP38 : ∀ (v1 : Int32) (v2 : Int32) (μ : z_M), P38 v1 v2 μ → (kd 0 = some (.inl 12)) → z_X p l e rm_X12_ladder s m args below meth c 5 D A (MQ below (z_Qn D A ρ kd (z_Kz q K)) args s 0 0 A) 0 0 ρ kd q μ 38 [(0, .ref (0)), (1, .int (v1)), (2, .int (v2))] []) (hI : z_I kd q) (f_l0 : kd 0 = some (.inl 12)) (h : B_X12_ladder_38 K P38 v1 v2 μ) : z_X p l e rm_X12_ladder s m args below meth c 5 D A (MQ below (z_Qn D A ρ kd (z_Kz q K)) args s 0 0 A) 0 0 ρ kd q μ 38 [(0, .ref (0)), (1, .int (v1)), (2, .int (v2))] [] := by
    unfold B_X12_ladder_38 at h
    refine zx_iload_n (pc := 38) G 2 rfl rfl (z_dec T_X12_ladder_ok 22 (38, .iload_n 2, 1) rfl) ?_
    refine zx_iload_n (pc := 39) G 1 rfl rfl (z_dec T_X12_ladder_ok 23 (39, .iload_n 1, 1) rfl) ?_
    refine zx_icmp_ge (pc := 40) (tgt := 148) G rfl (z_dec T_X12_ladder_ok 24 (40, .if_icmp .ge 108, 3) rfl) (fun hc => ?_) (fun hc => ?_)
    · replace h := z_pos hc h
      refine zx_aload_n (pc := 148) G (some (0)) 0 rfl rfl (z_dec T_X12_ladder_ok 90 (148, .aload_n 0, 1) rfl) ?_
      refine zx_iload_n (pc := 149) G 1 rfl rfl (z_dec T_X12_ladder_ok 91 (149, .iload_n 1, 1) rfl) ?_
      refine zx_putI (pc := 150) G gf_RX12_171 cf_12 rfl rfl f_l0 (z_dec T_X12_ladder_ok 92 (150, .putfield 171, 3) rfl) ?_
      refine zx_iconst (pc := 153) (v := 1) G (z_dec T_X12_ladder_ok 93 (153, .iconst 1, 1) rfl) rfl ?_
      exact zx_zret (pc := 154) G hr hlk (Nat.le_refl _) (Nat.le_refl _) (Or.inr rfl) (z_dec T_X12_ladder_ok 94 (154, .ireturn, 1) rfl) ⟨rfl, _, rfl, (Or.inr rfl), h⟩
    · replace h := z_neg hc h
      refine zx_aload_n (pc := 43) G (some (0)) 0 rfl rfl (z_dec T_X12_ladder_ok 25 (43, .aload_n 0, 1) rfl) ?_
      refine zx_getF (pc := 44) (b := 1) G gf_RX12_7 rfl f_l0 (zq_12_0 hI f_l0) (z_dec T_X12_ladder_ok 26 (44, .getfield 7, 3) rfl) ?_
      refine zx_iconst (pc := 47) (v := 2) G (z_dec T_X12_ladder_ok 27 (47, .iconst 2, 1) rfl) rfl ?_
      refine zx_iload_n (pc := 48) G 2 rfl rfl (z_dec T_X12_ladder_ok 28 (48, .iload_n 2, 1) rfl) ?_
      refine zx_imul (pc := 49) G  (z_dec T_X12_ladder_ok 29 (49, .imul, 1) rfl) ?_
      obtain ⟨c1, h⟩ := h
      refine zx_bald (pc := 50) G (zk_12_0 hI f_l0) c1 (z_dec T_X12_ladder_ok 30 (50, .baload, 1) rfl) ?_
      refine zx_sipush (pc := 51) (v := 255) G (z_dec T_X12_ladder_ok 31 (51, .sipush 255, 3) rfl) rfl ?_
      refine zx_iand (pc := 54) G  (z_dec T_X12_ladder_ok 32 (54, .iand, 1) rfl) ?_
      refine zx_istore_n (pc := 55) (lv' := [(3, .int ((μ.1 1 (((2 : Int32)) * v2).toNatClampNeg) &&& ((255 : Int32)))), (0, .ref (0)), (1, .int (v1)), (2, .int (v2))]) G rfl (Nat.le_of_ble_eq_true rfl) rfl (z_dec T_X12_ladder_ok 33 (55, .istore_n 3, 1) rfl) ?_
      refine zx_aload_n (pc := 56) G (some (0)) 1 rfl rfl (z_dec T_X12_ladder_ok 34 (56, .aload_n 0, 1) rfl) ?_
      refine zx_getF (pc := 57) (b := 1) G gf_RX12_7 rfl f_l0 (zq_12_0 hI f_l0) (z_dec T_X12_ladder_ok 35 (57, .getfield 7, 3) rfl) ?_
      refine zx_iconst (pc := 60) (v := 2) G (z_dec T_X12_ladder_ok 36 (60, .iconst 2, 1) rfl) rfl ?_
      refine zx_iload_n (pc := 61) G 3 rfl rfl (z_dec T_X12_ladder_ok 37 (61, .iload_n 2, 1) rfl) ?_
      refine zx_imul (pc := 62) G  (z_dec T_X12_ladder_ok 38 (62, .imul, 1) rfl) ?_
      refine zx_iconst (pc := 63) (v := 1) G (z_dec T_X12_ladder_ok 39 (63, .iconst 1, 1) rfl) rfl ?_
      refine zx_iadd (pc := 64) G  (z_dec T_X12_ladder_ok 40 (64, .iadd, 1) rfl) ?_
      obtain ⟨c2, h⟩ := h
      refine zx_bald (pc := 65) G (zk_12_0 hI f_l0) c2 (z_dec T_X12_ladder_ok 41 (65, .baload, 1) rfl) ?_
      refine zx_sipush (pc := 66) (v := 255) G (z_dec T_X12_ladder_ok 42 (66, .sipush 255, 3) rfl) rfl ?_
      refine zx_iand (pc := 69) G  (z_dec T_X12_ladder_ok 43 (69, .iand, 1) rfl) ?_
      refine zx_istore (pc := 70) (lv' := [(4, .int ((μ.1 1 ((((2 : Int32)) * v2) + ((1 : Int32))).toNatClampNeg) &&& ((255 : Int32)))), (3, .int ((μ.1 1 (((2 : Int32)) * v2).toNatClampNeg) &&& ((255 : Int32)))), (0, .ref (0)), (1, .int (v1)), (2, .int (v2))]) G (Nat.le_of_ble_eq_true rfl) rfl (z_dec T_X12_ladder_ok 44 (70, .istore 4, 2) rfl) ?_
      refine zx_iload_n (pc := 72) G 1 rfl rfl (z_dec T_X12_ladder_ok 45 (72, .iload_n 3, 1) rfl) ?_
      refine zx_i2l (pc := 73) G  (z_dec T_X12_ladder_ok 46 (73, .i2l, 1) rfl) ?_
      refine zx_lconst (pc := 74) (v := 1) G (z_dec T_X12_ladder_ok 47 (74, .lconst 1, 1) rfl) rfl ?_
      refine zx_ldc2 (pc := 75) G wk_RX12_176 (z_dec T_X12_ladder_ok 48 (75, .ldc2_w 176, 3) rfl) ?_
      refine zx_callS_zN (pc := 78) (rm := rm_X12_lies) G cw_RX12_140 ⟨Nat.le_of_ble_eq_true rfl, Nat.le_of_ble_eq_true rfl⟩ rfl rfl ⟨Nat.zero_le _, Nat.zero_le _⟩ (fun sz => (met_X12_lies l D ρ kd q μ sz (((μ.1 1 (((2 : Int32)) * v2).toNatClampNeg) &&& ((255 : Int32))).toInt64) ((1 : Int64)) ((60 : Int64)) _ hI h)) rfl rfl (Nat.le_of_ble_eq_true rfl) (z_dec T_X12_ladder_ok 49 (78, .invokestatic 140, 3) rfl) (fun r4 μ3 hzr4 hn => ?_)
      clear h
      have h := hn
      clear hn
      refine zx_if_eq (pc := 81) (tgt := 125) G rfl (z_dec T_X12_ladder_ok 50 (81, .ifCond .eq 44, 3) rfl) (fun hc => ?_) (fun hc => ?_)
      · replace h := z_pos hc h
        refine zx_iconst (pc := 125) (v := 0) G (z_dec T_X12_ladder_ok 76 (125, .iconst 0, 1) rfl) rfl ?_
        exact zx_zret (pc := 126) G hr hlk (Nat.le_refl _) (Nat.le_refl _) (Or.inl rfl) (z_dec T_X12_ladder_ok 77 (126, .ireturn, 1) rfl) ⟨rfl, _, rfl, (Or.inl rfl), h⟩
      · replace h := z_neg hc h
        refine zx_iload (pc := 84) G 0 rfl (z_dec T_X12_ladder_ok 51 (84, .iload 4, 2) rfl) ?_
        refine zx_i2l (pc := 86) G  (z_dec T_X12_ladder_ok 52 (86, .i2l, 1) rfl) ?_
        refine zx_lconst (pc := 87) (v := 1) G (z_dec T_X12_ladder_ok 53 (87, .lconst 1, 1) rfl) rfl ?_
        refine zx_ldc2 (pc := 88) G wk_RX12_178 (z_dec T_X12_ladder_ok 54 (88, .ldc2_w 178, 3) rfl) ?_
        refine zx_callS_zN (pc := 91) (rm := rm_X12_lies) G cw_RX12_140 ⟨Nat.le_of_ble_eq_true rfl, Nat.le_of_ble_eq_true rfl⟩ rfl rfl ⟨Nat.zero_le _, Nat.zero_le _⟩ (fun sz => (met_X12_lies l D ρ kd q μ3 sz (((μ.1 1 ((((2 : Int32)) * v2) + ((1 : Int32))).toNatClampNeg) &&& ((255 : Int32))).toInt64) ((1 : Int64)) ((12 : Int64)) _ hI h)) rfl rfl (Nat.le_of_ble_eq_true rfl) (z_dec T_X12_ladder_ok 55 (91, .invokestatic 140, 3) rfl) (fun r6 μ5 hzr6 hn => ?_)
        clear h
        have h := hn
        clear hn
        refine zx_if_eq (pc := 94) (tgt := 125) G rfl (z_dec T_X12_ladder_ok 56 (94, .ifCond .eq 31, 3) rfl) (fun hc => ?_) (fun hc => ?_)
        · replace h := z_pos hc h
          refine zx_iconst (pc := 125) (v := 0) G (z_dec T_X12_ladder_ok 76 (125, .iconst 0, 1) rfl) rfl ?_
          exact zx_zret (pc := 126) G hr hlk (Nat.le_refl _) (Nat.le_refl _) (Or.inl rfl) (z_dec T_X12_ladder_ok 77 (126, .ireturn, 1) rfl) ⟨rfl, _, rfl, (Or.inl rfl), h⟩
        · replace h := z_neg hc h
          refine zx_iload_n (pc := 97) G 4 rfl rfl (z_dec T_X12_ladder_ok 57 (97, .iload_n 2, 1) rfl) ?_
          refine zx_if_le (pc := 98) (tgt := 127) G rfl (z_dec T_X12_ladder_ok 58 (98, .ifCond .le 29, 3) rfl) (fun hc => ?_) (fun hc => ?_)
          · replace h := z_pos hc h
            refine zx_sub (lv' := [(0, .ref (0)), (1, .int (v1)), (2, .int (v2)), (3, .int ((μ.1 1 (((2 : Int32)) * v2).toNatClampNeg) &&& ((255 : Int32)))), (4, .int ((μ.1 1 ((((2 : Int32)) * v2) + ((1 : Int32))).toNatClampNeg) &&& ((255 : Int32))))]) [2, 3, 4, 1, 0] rfl ?_
            exact L_X12_ladder_127_ok G hr hlk hP38 hI f_l0 h
          · replace h := z_neg hc h
            refine zx_iload_n (pc := 101) G 1 rfl rfl (z_dec T_X12_ladder_ok 59 (101, .iload_n 3, 1) rfl) ?_
            refine zx_aload_n (pc := 102) G (some (0)) 2 rfl rfl (z_dec T_X12_ladder_ok 60 (102, .aload_n 0, 1) rfl) ?_
            refine zx_getF (pc := 103) (b := 9) G gf_RX12_17 rfl f_l0 (zq_12_8 hI f_l0) (z_dec T_X12_ladder_ok 61 (103, .getfield 17, 3) rfl) ?_
            refine zx_iload_n (pc := 106) G 4 rfl rfl (z_dec T_X12_ladder_ok 62 (106, .iload_n 2, 1) rfl) ?_
            refine zx_iconst (pc := 107) (v := 1) G (z_dec T_X12_ladder_ok 63 (107, .iconst 1, 1) rfl) rfl ?_
            refine zx_isub (pc := 108) G  (z_dec T_X12_ladder_ok 64 (108, .isub, 1) rfl) ?_
            obtain ⟨c7, h⟩ := h
            refine zx_iald (pc := 109) G (zk_12_8 hI f_l0) c7 (z_dec T_X12_ladder_ok 65 (109, .iaload, 1) rfl) ?_
            refine zx_imul (pc := 110) G  (z_dec T_X12_ladder_ok 66 (110, .imul, 1) rfl) ?_
            refine zx_aload_n (pc := 111) G (some (0)) 2 rfl rfl (z_dec T_X12_ladder_ok 67 (111, .aload_n 0, 1) rfl) ?_
            refine zx_getF (pc := 112) (b := 8) G gf_RX12_13 rfl f_l0 (zq_12_7 hI f_l0) (z_dec T_X12_ladder_ok 68 (112, .getfield 13, 3) rfl) ?_
            refine zx_iload_n (pc := 115) G 4 rfl rfl (z_dec T_X12_ladder_ok 69 (115, .iload_n 2, 1) rfl) ?_
            refine zx_iconst (pc := 116) (v := 1) G (z_dec T_X12_ladder_ok 70 (116, .iconst 1, 1) rfl) rfl ?_
            refine zx_isub (pc := 117) G  (z_dec T_X12_ladder_ok 71 (117, .isub, 1) rfl) ?_
            refine zx_iald (pc := 118) G (zk_12_7 hI f_l0) c7 (z_dec T_X12_ladder_ok 72 (118, .iaload, 1) rfl) ?_
            refine zx_iload (pc := 119) G 0 rfl (z_dec T_X12_ladder_ok 73 (119, .iload 4, 2) rfl) ?_
            refine zx_imul (pc := 121) G  (z_dec T_X12_ladder_ok 74 (121, .imul, 1) rfl) ?_
            refine zx_icmp_gt (pc := 122) (tgt := 127) G rfl (z_dec T_X12_ladder_ok 75 (122, .if_icmp .gt 5, 3) rfl) (fun hc => ?_) (fun hc => ?_)
            · replace h := z_pos hc h
              refine zx_sub (lv' := [(0, .ref (0)), (1, .int (v1)), (2, .int (v2)), (3, .int ((μ.1 1 (((2 : Int32)) * v2).toNatClampNeg) &&& ((255 : Int32)))), (4, .int ((μ.1 1 ((((2 : Int32)) * v2) + ((1 : Int32))).toNatClampNeg) &&& ((255 : Int32))))]) [2, 3, 4, 1, 0] rfl ?_
              exact L_X12_ladder_127_ok G hr hlk hP38 hI f_l0 h
            · replace h := z_neg hc h
              refine zx_iconst (pc := 125) (v := 0) G (z_dec T_X12_ladder_ok 76 (125, .iconst 0, 1) rfl) rfl ?_
              exact zx_zret (pc := 126) G hr hlk (Nat.le_refl _) (Nat.le_refl _) (Or.inl rfl) (z_dec T_X12_ladder_ok 77 (126, .ireturn, 1) rfl) ⟨rfl, _, rfl, (Or.inl rfl), h⟩
set_option maxRecDepth 100000 in
set_option maxHeartbeats 4000000 in
theorem L_X12_ladder_38_ok {p : Program} {l : Launch} {e : Env} {s : State} {m : MethodId} {args : Array Value} {below : List Frame} {meth : Method} {c : Code} {D : va_G} {A : Nat → Prop} {ρ : z_A} {kd : z_K} {q : z_Q} {μ : z_M} {K : Int32 → z_M → Prop} {v1 : Int32} {v2 : Int32} (G : z_G p c cX12_ladder s m args RX12 5 D) (hr : meth.sig.returnType = (Option.some Jvm.ClassFile.FieldType.boolean)) (hlk : meth.locks = false) (hI : z_I kd q) (f_l0 : kd 0 = some (.inl 12)) (h : L_X12_ladder_38 K v1 v2 μ) : z_X p l e rm_X12_ladder s m args below meth c 5 D A (MQ below (z_Qn D A ρ kd (z_Kz q K)) args s 0 0 A) 0 0 ρ kd q μ 38 [(0, .ref (0)), (1, .int (v1)), (2, .int (v2))] [] :=
  h (fun (v1 : Int32) (v2 : Int32) (μ : z_M) => (kd 0 = some (.inl 12)) → z_X p l e rm_X12_ladder s m args below meth c 5 D A (MQ below (z_Qn D A ρ kd (z_Kz q K)) args s 0 0 A) 0 0 ρ kd q μ 38 [(0, .ref (0)), (1, .int (v1)), (2, .int (v2))] []) (fun v1 v2 μ h f_l0 => B_X12_ladder_38_ok G hr hlk (fun _ _ _ h => h) hI f_l0 h) f_l0
set_option maxRecDepth 100000 in
set_option maxHeartbeats 4000000 in
theorem met_X12_ladder (l : Launch) (D : va_G) (ρ : z_A) (kd : z_K) (q : z_Q) (μ : z_M) (sz : Nat) (a1 : Int32) (K : Int32 → z_M → Prop) (hI : z_I kd q) (h_o : kd 0 = some (.inl 12)) (h : C_X12_ladder a1 μ K) : Met l yX12_ladder (z_ws yX12_ladder cX12_ladder 5 (Option.some Jvm.ClassFile.FieldType.boolean)) rm_X12_ladder (z_Pc D ρ kd q μ sz [.ref (0), .int (a1)]) (z_Qn D (z_Rg ρ sz) ρ kd (z_Kz q K)) 0 0 (z_Rg ρ sz) := by
  refine z_met (rm := rm_X12_ladder) (by decide) (Nat.le_of_ble_eq_true rfl) (fun p e s m args below meth c G hr hlk => ?_)
  unfold C_X12_ladder at h
  show z_X _ _ _ _ _ _ _ _ _ _ _ _ _ _ _ _ _ _ _ _ _ [(0, .ref (0)), (1, .int (a1))] _
  refine zx_aload_n (pc := 0) G (some (0)) 0 rfl rfl (z_dec T_X12_ladder_ok 0 (0, .aload_n 0, 1) rfl) ?_
  refine zx_getI (pc := 1) G gf_RX12_171 rfl h_o (z_dec T_X12_ladder_ok 1 (1, .getfield 171, 3) rfl) ?_
  refine zx_if_gt (pc := 4) (tgt := 29) G rfl (z_dec T_X12_ladder_ok 2 (4, .ifCond .gt 25, 3) rfl) (fun hc => ?_) (fun hc => ?_)
  · replace h := z_pos hc h
    refine zx_iconst (pc := 29) (v := 0) G (z_dec T_X12_ladder_ok 15 (29, .iconst 0, 1) rfl) rfl ?_
    exact zx_zret (pc := 30) G hr hlk (Nat.le_refl _) (Nat.le_refl _) (Or.inl rfl) (z_dec T_X12_ladder_ok 16 (30, .ireturn, 1) rfl) ⟨rfl, _, rfl, (Or.inl rfl), h⟩
  · replace h := z_neg hc h
    refine zx_iload_n (pc := 7) G 1 rfl rfl (z_dec T_X12_ladder_ok 3 (7, .iload_n 1, 1) rfl) ?_
    refine zx_i2l (pc := 8) G  (z_dec T_X12_ladder_ok 4 (8, .i2l, 1) rfl) ?_
    refine zx_lconst (pc := 9) (v := 1) G (z_dec T_X12_ladder_ok 5 (9, .lconst 1, 1) rfl) rfl ?_
    refine zx_ldc2 (pc := 10) G wk_RX12_174 (z_dec T_X12_ladder_ok 6 (10, .ldc2_w 174, 3) rfl) ?_
    refine zx_callS_zN (pc := 13) (rm := rm_X12_lies) G cw_RX12_140 ⟨Nat.le_of_ble_eq_true rfl, Nat.le_of_ble_eq_true rfl⟩ rfl rfl ⟨Nat.zero_le _, Nat.zero_le _⟩ (fun sz => (met_X12_lies l D ρ kd q μ sz a1.toInt64 ((1 : Int64)) ((24 : Int64)) _ hI h)) rfl rfl (Nat.le_of_ble_eq_true rfl) (z_dec T_X12_ladder_ok 7 (13, .invokestatic 140, 3) rfl) (fun r2 μ1 hzr2 hn => ?_)
    clear h
    have h := hn
    clear hn
    refine zx_if_eq (pc := 16) (tgt := 29) G rfl (z_dec T_X12_ladder_ok 8 (16, .ifCond .eq 13, 3) rfl) (fun hc => ?_) (fun hc => ?_)
    · replace h := z_pos hc h
      refine zx_iconst (pc := 29) (v := 0) G (z_dec T_X12_ladder_ok 15 (29, .iconst 0, 1) rfl) rfl ?_
      exact zx_zret (pc := 30) G hr hlk (Nat.le_refl _) (Nat.le_refl _) (Or.inl rfl) (z_dec T_X12_ladder_ok 16 (30, .ireturn, 1) rfl) ⟨rfl, _, rfl, (Or.inl rfl), h⟩
    · replace h := z_neg hc h
      refine zx_iconst (pc := 19) (v := 2) G (z_dec T_X12_ladder_ok 9 (19, .iconst 2, 1) rfl) rfl ?_
      refine zx_iload_n (pc := 20) G 1 rfl rfl (z_dec T_X12_ladder_ok 10 (20, .iload_n 1, 1) rfl) ?_
      refine zx_imul (pc := 21) G  (z_dec T_X12_ladder_ok 11 (21, .imul, 1) rfl) ?_
      refine zx_aload_n (pc := 22) G (some (0)) 0 rfl rfl (z_dec T_X12_ladder_ok 12 (22, .aload_n 0, 1) rfl) ?_
      refine zx_getI (pc := 23) G gf_RX12_164 rfl h_o (z_dec T_X12_ladder_ok 13 (23, .getfield 164, 3) rfl) ?_
      refine zx_icmp_le (pc := 26) (tgt := 31) G rfl (z_dec T_X12_ladder_ok 14 (26, .if_icmp .le 5, 3) rfl) (fun hc => ?_) (fun hc => ?_)
      · replace h := z_pos hc h
        refine zx_aload_n (pc := 31) G (some (0)) 0 rfl rfl (z_dec T_X12_ladder_ok 17 (31, .aload_n 0, 1) rfl) ?_
        refine zx_iconst (pc := 32) (v := 0) G (z_dec T_X12_ladder_ok 18 (32, .iconst 0, 1) rfl) rfl ?_
        refine zx_putI (pc := 33) G gf_RX12_164 cf_12 rfl rfl h_o (z_dec T_X12_ladder_ok 19 (33, .putfield 164, 3) rfl) ?_
        refine zx_iconst (pc := 36) (v := 0) G (z_dec T_X12_ladder_ok 20 (36, .iconst 0, 1) rfl) rfl ?_
        refine zx_istore_n (pc := 37) (lv' := [(2, .int ((0 : Int32))), (0, .ref (0)), (1, .int (a1))]) G rfl (Nat.le_of_ble_eq_true rfl) rfl (z_dec T_X12_ladder_ok 21 (37, .istore_n 2, 1) rfl) ?_
        refine zx_sub (lv' := [(0, .ref (0)), (1, .int (a1)), (2, .int ((0 : Int32)))]) [1, 2, 0] rfl ?_
        exact L_X12_ladder_38_ok G hr hlk hI h_o h
      · replace h := z_neg hc h
        refine zx_iconst (pc := 29) (v := 0) G (z_dec T_X12_ladder_ok 15 (29, .iconst 0, 1) rfl) rfl ?_
        exact zx_zret (pc := 30) G hr hlk (Nat.le_refl _) (Nat.le_refl _) (Or.inl rfl) (z_dec T_X12_ladder_ok 16 (30, .ireturn, 1) rfl) ⟨rfl, _, rfl, (Or.inl rfl), h⟩
abbrev rm_X12_slate : Room := { frames := 4, cells := 0, slots := 0, locals := 90 }
set_option maxRecDepth 100000 in
set_option maxHeartbeats 4000000 in
theorem met_X12_slate (l : Launch) (D : va_G) (ρ : z_A) (kd : z_K) (q : z_Q) (μ : z_M) (sz : Nat) (a1 : Int32) (a2 : Int32) (a3 : Int32) (a4 : Int32) (K : Int32 → z_M → Prop) (hI : z_I kd q) (h_o : kd 0 = some (.inl 12)) (h : C_X12_slate a1 a2 a3 a4 μ K) : Met l yX12_slate (z_ws yX12_slate cX12_slate 5 (Option.some Jvm.ClassFile.FieldType.boolean)) rm_X12_slate (z_Pc D ρ kd q μ sz [.ref (0), .int (a1), .int (a2), .int (a3), .int (a4)]) (z_Qn D (z_Rg ρ sz) ρ kd (z_Kz q K)) 0 0 (z_Rg ρ sz) := by
  refine z_met (rm := rm_X12_slate) (by decide) (Nat.le_of_ble_eq_true rfl) (fun p e s m args below meth c G hr hlk => ?_)
  unfold C_X12_slate at h
  show z_X _ _ _ _ _ _ _ _ _ _ _ _ _ _ _ _ _ _ _ _ _ [(0, .ref (0)), (1, .int (a1)), (2, .int (a2)), (3, .int (a3)), (4, .int (a4))] _
  refine zx_aload_n (pc := 0) G (some (0)) 0 rfl rfl (z_dec T_X12_slate_ok 0 (0, .aload_n 0, 1) rfl) ?_
  refine zx_iload_n (pc := 1) G 1 rfl rfl (z_dec T_X12_slate_ok 1 (1, .iload_n 1, 1) rfl) ?_
  refine zx_callV_zN (pc := 2) (rm := rm_X12_isBook) G cw_RX12_180 ⟨Nat.le_of_ble_eq_true rfl, Nat.le_of_ble_eq_true rfl⟩ rfl rfl ⟨Nat.zero_le _, Nat.zero_le _⟩ h_o rfl (fun sz => (met_X12_isBook l D ρ kd q μ sz a1 _ hI h_o h)) rfl rfl (Nat.le_of_ble_eq_true rfl) (z_dec T_X12_slate_ok 2 (2, .invokevirtual 180, 3) rfl) (fun r2 μ1 hzr2 hn => ?_)
  clear h
  have h := hn
  clear hn
  refine zx_if_eq (pc := 5) (tgt := 45) G rfl (z_dec T_X12_slate_ok 3 (5, .ifCond .eq 40, 3) rfl) (fun hc => ?_) (fun hc => ?_)
  · replace h := z_pos hc h
    refine zx_iconst (pc := 45) (v := 0) G (z_dec T_X12_slate_ok 24 (45, .iconst 0, 1) rfl) rfl ?_
    exact zx_zret (pc := 46) G hr hlk (Nat.le_refl _) (Nat.le_refl _) (Or.inl rfl) (z_dec T_X12_slate_ok 25 (46, .ireturn, 1) rfl) ⟨rfl, _, rfl, (Or.inl rfl), h⟩
  · replace h := z_neg hc h
    refine zx_aload_n (pc := 8) G (some (0)) 0 rfl rfl (z_dec T_X12_slate_ok 4 (8, .aload_n 0, 1) rfl) ?_
    refine zx_iload_n (pc := 9) G 2 rfl rfl (z_dec T_X12_slate_ok 5 (9, .iload_n 2, 1) rfl) ?_
    refine zx_iload_n (pc := 10) G 3 rfl rfl (z_dec T_X12_slate_ok 6 (10, .iload_n 3, 1) rfl) ?_
    refine zx_callV_zN (pc := 11) (rm := rm_X12_runs) G cw_RX12_183 ⟨Nat.le_of_ble_eq_true rfl, Nat.le_of_ble_eq_true rfl⟩ rfl rfl ⟨Nat.zero_le _, Nat.zero_le _⟩ h_o rfl (fun sz => (met_X12_runs l D ρ kd q μ1 sz a2 a3 _ hI h_o h)) rfl rfl (Nat.le_of_ble_eq_true rfl) (z_dec T_X12_slate_ok 7 (11, .invokevirtual 183, 3) rfl) (fun r4 μ3 hzr4 hn => ?_)
    clear h
    have h := hn
    clear hn
    refine zx_if_eq (pc := 14) (tgt := 45) G rfl (z_dec T_X12_slate_ok 8 (14, .ifCond .eq 31, 3) rfl) (fun hc => ?_) (fun hc => ?_)
    · replace h := z_pos hc h
      refine zx_iconst (pc := 45) (v := 0) G (z_dec T_X12_slate_ok 24 (45, .iconst 0, 1) rfl) rfl ?_
      exact zx_zret (pc := 46) G hr hlk (Nat.le_refl _) (Nat.le_refl _) (Or.inl rfl) (z_dec T_X12_slate_ok 25 (46, .ireturn, 1) rfl) ⟨rfl, _, rfl, (Or.inl rfl), h⟩
    · replace h := z_neg hc h
      refine zx_aload_n (pc := 17) G (some (0)) 0 rfl rfl (z_dec T_X12_slate_ok 9 (17, .aload_n 0, 1) rfl) ?_
      refine zx_getF (pc := 18) (b := 12) G gf_RX12_26 rfl h_o (zq_12_11 hI h_o) (z_dec T_X12_slate_ok 10 (18, .getfield 26, 3) rfl) ?_
      refine zx_iload_n (pc := 21) G 2 rfl rfl (z_dec T_X12_slate_ok 11 (21, .iload_n 2, 1) rfl) ?_
      obtain ⟨c5, h⟩ := h
      refine zx_zald (pc := 22) G (zk_12_11 hI h_o) c5 (z_dec T_X12_slate_ok 12 (22, .baload, 1) rfl) ?_
      refine zx_if_ne (pc := 23) (tgt := 45) G rfl (z_dec T_X12_slate_ok 13 (23, .ifCond .ne 22, 3) rfl) (fun hc => ?_) (fun hc => ?_)
      · replace h := z_neg hc h
        refine zx_iconst (pc := 45) (v := 0) G (z_dec T_X12_slate_ok 24 (45, .iconst 0, 1) rfl) rfl ?_
        exact zx_zret (pc := 46) G hr hlk (Nat.le_refl _) (Nat.le_refl _) (Or.inl rfl) (z_dec T_X12_slate_ok 25 (46, .ireturn, 1) rfl) ⟨rfl, _, rfl, (Or.inl rfl), h⟩
      · replace h := z_pos hc h
        refine zx_iload (pc := 26) G 4 rfl (z_dec T_X12_slate_ok 14 (26, .iload 4, 2) rfl) ?_
        refine zx_i2l (pc := 28) G  (z_dec T_X12_slate_ok 15 (28, .i2l, 1) rfl) ?_
        refine zx_ldc2 (pc := 29) G wk_RX12_186 (z_dec T_X12_slate_ok 16 (29, .ldc2_w 186, 3) rfl) ?_
        refine zx_aload_n (pc := 32) G (some (0)) 0 rfl rfl (z_dec T_X12_slate_ok 17 (32, .aload_n 0, 1) rfl) ?_
        refine zx_getI (pc := 33) G gf_RX12_171 rfl h_o (z_dec T_X12_slate_ok 18 (33, .getfield 171, 3) rfl) ?_
        refine zx_iconst (pc := 36) (v := 1) G (z_dec T_X12_slate_ok 19 (36, .iconst 1, 1) rfl) rfl ?_
        refine zx_isub (pc := 37) G  (z_dec T_X12_slate_ok 20 (37, .isub, 1) rfl) ?_
        refine zx_i2l (pc := 38) G  (z_dec T_X12_slate_ok 21 (38, .i2l, 1) rfl) ?_
        refine zx_callS_zN (pc := 39) (rm := rm_X12_lies) G cw_RX12_140 ⟨Nat.le_of_ble_eq_true rfl, Nat.le_of_ble_eq_true rfl⟩ rfl rfl ⟨Nat.zero_le _, Nat.zero_le _⟩ (fun sz => (met_X12_lies l D ρ kd q μ3 sz a4.toInt64 ((-1 : Int64)) (((μ3.1 0 5) - ((1 : Int32))).toInt64) _ hI h)) rfl rfl (Nat.le_of_ble_eq_true rfl) (z_dec T_X12_slate_ok 22 (39, .invokestatic 140, 3) rfl) (fun r7 μ6 hzr7 hn => ?_)
        clear h
        have h := hn
        clear hn
        refine zx_if_ne (pc := 42) (tgt := 47) G rfl (z_dec T_X12_slate_ok 23 (42, .ifCond .ne 5, 3) rfl) (fun hc => ?_) (fun hc => ?_)
        · replace h := z_neg hc h
          refine zx_aload_n (pc := 47) G (some (0)) 0 rfl rfl (z_dec T_X12_slate_ok 26 (47, .aload_n 0, 1) rfl) ?_
          refine zx_getF (pc := 48) (b := 17) G gf_RX12_42 rfl h_o (zq_12_16 hI h_o) (z_dec T_X12_slate_ok 27 (48, .getfield 42, 3) rfl) ?_
          refine zx_iload_n (pc := 51) G 1 rfl rfl (z_dec T_X12_slate_ok 28 (51, .iload_n 1, 1) rfl) ?_
          refine zx_iload_n (pc := 52) G 2 rfl rfl (z_dec T_X12_slate_ok 29 (52, .iload_n 2, 1) rfl) ?_
          refine zx_iload_n (pc := 53) G 3 rfl rfl (z_dec T_X12_slate_ok 30 (53, .iload_n 3, 1) rfl) ?_
          refine zx_callS_iN (pc := 54) (rm := rm_X12_cellOf) G cw_RX12_188 ⟨Nat.le_of_ble_eq_true rfl, Nat.le_of_ble_eq_true rfl⟩ rfl rfl ⟨Nat.zero_le _, Nat.zero_le _⟩ (fun sz => (met_X12_cellOf l D ρ kd q μ6 sz a1 a2 a3 _ hI h)) rfl rfl (Nat.le_of_ble_eq_true rfl) (z_dec T_X12_slate_ok 31 (54, .invokestatic 188, 3) rfl) (fun r9 μ8 hn => ?_)
          clear h
          have h := hn
          clear hn
          refine zx_iload (pc := 57) G 4 rfl (z_dec T_X12_slate_ok 32 (57, .iload 4, 2) rfl) ?_
          obtain ⟨c10, h⟩ := h
          refine zx_iast (pc := 59) G (zk_12_16 hI h_o) c10 (z_dec T_X12_slate_ok 33 (59, .iastore, 1) rfl) ?_
          refine zx_iconst (pc := 60) (v := 1) G (z_dec T_X12_slate_ok 34 (60, .iconst 1, 1) rfl) rfl ?_
          exact zx_zret (pc := 61) G hr hlk (Nat.le_refl _) (Nat.le_refl _) (Or.inr rfl) (z_dec T_X12_slate_ok 35 (61, .ireturn, 1) rfl) ⟨rfl, _, rfl, (Or.inr rfl), h⟩
        · replace h := z_pos hc h
          refine zx_iconst (pc := 45) (v := 0) G (z_dec T_X12_slate_ok 24 (45, .iconst 0, 1) rfl) rfl ?_
          exact zx_zret (pc := 46) G hr hlk (Nat.le_refl _) (Nat.le_refl _) (Or.inl rfl) (z_dec T_X12_slate_ok 25 (46, .ireturn, 1) rfl) ⟨rfl, _, rfl, (Or.inl rfl), h⟩
abbrev rm_X12_step : Room := { frames := 3, cells := 0, slots := 0, locals := 68 }
set_option maxRecDepth 100000 in
set_option maxHeartbeats 4000000 in
theorem met_X12_step (l : Launch) (D : va_G) (ρ : z_A) (kd : z_K) (q : z_Q) (μ : z_M) (sz : Nat) (a1 : Int32) (a2 : Int32) (a3 : Int32) (K : Int32 → z_M → Prop) (hI : z_I kd q) (h_o : kd 0 = some (.inl 12)) (h : C_X12_step a1 a2 a3 μ K) : Met l yX12_step (z_ws yX12_step cX12_step 4 (Option.some Jvm.ClassFile.FieldType.int)) rm_X12_step (z_Pc D ρ kd q μ sz [.ref (0), .int (a1), .int (a2), .int (a3)]) (z_Qn D (z_Rg ρ sz) ρ kd (z_Ki q K)) 0 0 (z_Rg ρ sz) := by
  refine z_met (rm := rm_X12_step) (by decide) (Nat.le_of_ble_eq_true rfl) (fun p e s m args below meth c G hr hlk => ?_)
  unfold C_X12_step at h
  show z_X _ _ _ _ _ _ _ _ _ _ _ _ _ _ _ _ _ _ _ _ _ [(0, .ref (0)), (1, .int (a1)), (2, .int (a2)), (3, .int (a3))] _
  refine zx_aload_n (pc := 0) G (some (0)) 0 rfl rfl (z_dec T_X12_step_ok 0 (0, .aload_n 0, 1) rfl) ?_
  refine zx_iload_n (pc := 1) G 1 rfl rfl (z_dec T_X12_step_ok 1 (1, .iload_n 1, 1) rfl) ?_
  refine zx_callV_zN (pc := 2) (rm := rm_X12_isBook) G cw_RX12_180 ⟨Nat.le_of_ble_eq_true rfl, Nat.le_of_ble_eq_true rfl⟩ rfl rfl ⟨Nat.zero_le _, Nat.zero_le _⟩ h_o rfl (fun sz => (met_X12_isBook l D ρ kd q μ sz a1 _ hI h_o h)) rfl rfl (Nat.le_of_ble_eq_true rfl) (z_dec T_X12_step_ok 2 (2, .invokevirtual 180, 3) rfl) (fun r2 μ1 hzr2 hn => ?_)
  clear h
  have h := hn
  clear hn
  refine zx_if_eq (pc := 5) (tgt := 31) G rfl (z_dec T_X12_step_ok 3 (5, .ifCond .eq 26, 3) rfl) (fun hc => ?_) (fun hc => ?_)
  · replace h := z_pos hc h
    refine zx_iconst (pc := 31) (v := -1) G (z_dec T_X12_step_ok 17 (31, .iconst (-1), 1) rfl) rfl ?_
    exact zx_iret (pc := 32) G hr hlk (Nat.le_refl _) (Nat.le_refl _) (z_dec T_X12_step_ok 18 (32, .ireturn, 1) rfl) ⟨rfl, _, rfl, h⟩
  · replace h := z_neg hc h
    refine zx_aload_n (pc := 8) G (some (0)) 0 rfl rfl (z_dec T_X12_step_ok 4 (8, .aload_n 0, 1) rfl) ?_
    refine zx_iload_n (pc := 9) G 2 rfl rfl (z_dec T_X12_step_ok 5 (9, .iload_n 2, 1) rfl) ?_
    refine zx_iload_n (pc := 10) G 3 rfl rfl (z_dec T_X12_step_ok 6 (10, .iload_n 3, 1) rfl) ?_
    refine zx_callV_zN (pc := 11) (rm := rm_X12_isHorse) G cw_RX12_151 ⟨Nat.le_of_ble_eq_true rfl, Nat.le_of_ble_eq_true rfl⟩ rfl rfl ⟨Nat.zero_le _, Nat.zero_le _⟩ h_o rfl (fun sz => (met_X12_isHorse l D ρ kd q μ1 sz a2 a3 _ hI h_o h)) rfl rfl (Nat.le_of_ble_eq_true rfl) (z_dec T_X12_step_ok 7 (11, .invokevirtual 151, 3) rfl) (fun r4 μ3 hzr4 hn => ?_)
    clear h
    have h := hn
    clear hn
    refine zx_if_eq (pc := 14) (tgt := 31) G rfl (z_dec T_X12_step_ok 8 (14, .ifCond .eq 17, 3) rfl) (fun hc => ?_) (fun hc => ?_)
    · replace h := z_pos hc h
      refine zx_iconst (pc := 31) (v := -1) G (z_dec T_X12_step_ok 17 (31, .iconst (-1), 1) rfl) rfl ?_
      exact zx_iret (pc := 32) G hr hlk (Nat.le_refl _) (Nat.le_refl _) (z_dec T_X12_step_ok 18 (32, .ireturn, 1) rfl) ⟨rfl, _, rfl, h⟩
    · replace h := z_neg hc h
      refine zx_aload_n (pc := 17) G (some (0)) 0 rfl rfl (z_dec T_X12_step_ok 9 (17, .aload_n 0, 1) rfl) ?_
      refine zx_getF (pc := 18) (b := 17) G gf_RX12_42 rfl h_o (zq_12_16 hI h_o) (z_dec T_X12_step_ok 10 (18, .getfield 42, 3) rfl) ?_
      refine zx_iload_n (pc := 21) G 1 rfl rfl (z_dec T_X12_step_ok 11 (21, .iload_n 1, 1) rfl) ?_
      refine zx_iload_n (pc := 22) G 2 rfl rfl (z_dec T_X12_step_ok 12 (22, .iload_n 2, 1) rfl) ?_
      refine zx_iload_n (pc := 23) G 3 rfl rfl (z_dec T_X12_step_ok 13 (23, .iload_n 3, 1) rfl) ?_
      refine zx_callS_iN (pc := 24) (rm := rm_X12_cellOf) G cw_RX12_188 ⟨Nat.le_of_ble_eq_true rfl, Nat.le_of_ble_eq_true rfl⟩ rfl rfl ⟨Nat.zero_le _, Nat.zero_le _⟩ (fun sz => (met_X12_cellOf l D ρ kd q μ3 sz a1 a2 a3 _ hI h)) rfl rfl (Nat.le_of_ble_eq_true rfl) (z_dec T_X12_step_ok 14 (24, .invokestatic 188, 3) rfl) (fun r6 μ5 hn => ?_)
      clear h
      have h := hn
      clear hn
      obtain ⟨c7, h⟩ := h
      refine zx_iald (pc := 27) G (zk_12_16 hI h_o) c7 (z_dec T_X12_step_ok 15 (27, .iaload, 1) rfl) ?_
      refine zx_goto (pc := 28) (tgt := 32) G rfl (z_dec T_X12_step_ok 16 (28, .goto 4, 3) rfl) ?_
      exact zx_iret (pc := 32) G hr hlk (Nat.le_refl _) (Nat.le_refl _) (z_dec T_X12_step_ok 18 (32, .ireturn, 1) rfl) ⟨rfl, _, rfl, h⟩
abbrev rm_X12_isBettor : Room := { frames := 1, cells := 0, slots := 0, locals := 25 }
set_option maxRecDepth 100000 in
set_option maxHeartbeats 4000000 in
theorem met_X12_isBettor (l : Launch) (D : va_G) (ρ : z_A) (kd : z_K) (q : z_Q) (μ : z_M) (sz : Nat) (a1 : Int32) (K : Int32 → z_M → Prop) (hI : z_I kd q) (h : C_X12_isBettor a1 μ K) : Met l yX12_isBettor (z_ws yX12_isBettor cX12_isBettor 1 (Option.some Jvm.ClassFile.FieldType.boolean)) rm_X12_isBettor (z_Pc D ρ kd q μ sz [.int (a1)]) (z_Qn D (z_Rg ρ sz) ρ kd (z_Kz q K)) 0 0 (z_Rg ρ sz) := by
  refine z_met (rm := rm_X12_isBettor) (by decide) (Nat.le_of_ble_eq_true rfl) (fun p e s m args below meth c G hr hlk => ?_)
  unfold C_X12_isBettor at h
  show z_X _ _ _ _ _ _ _ _ _ _ _ _ _ _ _ _ _ _ _ _ _ [(0, .int (a1))] _
  refine zx_iload_n (pc := 0) G 0 rfl rfl (z_dec T_X12_isBettor_ok 0 (0, .iload_n 0, 1) rfl) ?_
  refine zx_i2l (pc := 1) G  (z_dec T_X12_isBettor_ok 1 (1, .i2l, 1) rfl) ?_
  refine zx_lconst (pc := 2) (v := 0) G (z_dec T_X12_isBettor_ok 2 (2, .lconst 0, 1) rfl) rfl ?_
  refine zx_ldc2 (pc := 3) G wk_RX12_192 (z_dec T_X12_isBettor_ok 3 (3, .ldc2_w 192, 3) rfl) ?_
  refine zx_callS_zN (pc := 6) (rm := rm_X12_lies) G cw_RX12_140 ⟨Nat.le_of_ble_eq_true rfl, Nat.le_of_ble_eq_true rfl⟩ rfl rfl ⟨Nat.zero_le _, Nat.zero_le _⟩ (fun sz => (met_X12_lies l D ρ kd q μ sz a1.toInt64 ((0 : Int64)) ((15 : Int64)) _ hI h)) rfl rfl (Nat.le_of_ble_eq_true rfl) (z_dec T_X12_isBettor_ok 4 (6, .invokestatic 140, 3) rfl) (fun r2 μ1 hzr2 hn => ?_)
  clear h
  have h := hn
  clear hn
  exact zx_zret (pc := 9) G hr hlk (Nat.le_refl _) (Nat.le_refl _) hzr2 (z_dec T_X12_isBettor_ok 5 (9, .ireturn, 1) rfl) ⟨rfl, _, rfl, hzr2, h⟩
abbrev rm_X12_isStake : Room := { frames := 1, cells := 0, slots := 0, locals := 25 }
set_option maxRecDepth 100000 in
set_option maxHeartbeats 4000000 in
theorem met_X12_isStake (l : Launch) (D : va_G) (ρ : z_A) (kd : z_K) (q : z_Q) (μ : z_M) (sz : Nat) (a1 : Int32) (K : Int32 → z_M → Prop) (hI : z_I kd q) (h : C_X12_isStake a1 μ K) : Met l yX12_isStake (z_ws yX12_isStake cX12_isStake 1 (Option.some Jvm.ClassFile.FieldType.boolean)) rm_X12_isStake (z_Pc D ρ kd q μ sz [.int (a1)]) (z_Qn D (z_Rg ρ sz) ρ kd (z_Kz q K)) 0 0 (z_Rg ρ sz) := by
  refine z_met (rm := rm_X12_isStake) (by decide) (Nat.le_of_ble_eq_true rfl) (fun p e s m args below meth c G hr hlk => ?_)
  unfold C_X12_isStake at h
  show z_X _ _ _ _ _ _ _ _ _ _ _ _ _ _ _ _ _ _ _ _ _ [(0, .int (a1))] _
  refine zx_iload_n (pc := 0) G 0 rfl rfl (z_dec T_X12_isStake_ok 0 (0, .iload_n 0, 1) rfl) ?_
  refine zx_i2l (pc := 1) G  (z_dec T_X12_isStake_ok 1 (1, .i2l, 1) rfl) ?_
  refine zx_lconst (pc := 2) (v := 1) G (z_dec T_X12_isStake_ok 2 (2, .lconst 1, 1) rfl) rfl ?_
  refine zx_ldc2 (pc := 3) G wk_RX12_194 (z_dec T_X12_isStake_ok 3 (3, .ldc2_w 194, 3) rfl) ?_
  refine zx_callS_zN (pc := 6) (rm := rm_X12_lies) G cw_RX12_140 ⟨Nat.le_of_ble_eq_true rfl, Nat.le_of_ble_eq_true rfl⟩ rfl rfl ⟨Nat.zero_le _, Nat.zero_le _⟩ (fun sz => (met_X12_lies l D ρ kd q μ sz a1.toInt64 ((1 : Int64)) ((20000 : Int64)) _ hI h)) rfl rfl (Nat.le_of_ble_eq_true rfl) (z_dec T_X12_isStake_ok 4 (6, .invokestatic 140, 3) rfl) (fun r2 μ1 hzr2 hn => ?_)
  clear h
  have h := hn
  clear hn
  exact zx_zret (pc := 9) G hr hlk (Nat.le_refl _) (Nat.le_refl _) hzr2 (z_dec T_X12_isStake_ok 5 (9, .ireturn, 1) rfl) ⟨rfl, _, rfl, hzr2, h⟩
abbrev rm_X12_canBet : Room := { frames := 4, cells := 0, slots := 0, locals := 90 }
set_option maxRecDepth 100000 in
set_option maxHeartbeats 4000000 in
theorem met_X12_canBet (l : Launch) (D : va_G) (ρ : z_A) (kd : z_K) (q : z_Q) (μ : z_M) (sz : Nat) (a1 : Int32) (a2 : Int32) (a3 : Int32) (K : Int32 → z_M → Prop) (hI : z_I kd q) (h_o : kd 0 = some (.inl 12)) (h : C_X12_canBet a1 a2 a3 μ K) : Met l yX12_canBet (z_ws yX12_canBet cX12_canBet 4 (Option.some Jvm.ClassFile.FieldType.boolean)) rm_X12_canBet (z_Pc D ρ kd q μ sz [.ref (0), .int (a1), .int (a2), .int (a3)]) (z_Qn D (z_Rg ρ sz) ρ kd (z_Kz q K)) 0 0 (z_Rg ρ sz) := by
  refine z_met (rm := rm_X12_canBet) (by decide) (Nat.le_of_ble_eq_true rfl) (fun p e s m args below meth c G hr hlk => ?_)
  unfold C_X12_canBet at h
  show z_X _ _ _ _ _ _ _ _ _ _ _ _ _ _ _ _ _ _ _ _ _ [(0, .ref (0)), (1, .int (a1)), (2, .int (a2)), (3, .int (a3))] _
  refine zx_aload_n (pc := 0) G (some (0)) 0 rfl rfl (z_dec T_X12_canBet_ok 0 (0, .aload_n 0, 1) rfl) ?_
  refine zx_iload_n (pc := 1) G 2 rfl rfl (z_dec T_X12_canBet_ok 1 (1, .iload_n 2, 1) rfl) ?_
  refine zx_iload_n (pc := 2) G 3 rfl rfl (z_dec T_X12_canBet_ok 2 (2, .iload_n 3, 1) rfl) ?_
  refine zx_callV_zN (pc := 3) (rm := rm_X12_runs) G cw_RX12_183 ⟨Nat.le_of_ble_eq_true rfl, Nat.le_of_ble_eq_true rfl⟩ rfl rfl ⟨Nat.zero_le _, Nat.zero_le _⟩ h_o rfl (fun sz => (met_X12_runs l D ρ kd q μ sz a2 a3 _ hI h_o h)) rfl rfl (Nat.le_of_ble_eq_true rfl) (z_dec T_X12_canBet_ok 3 (3, .invokevirtual 183, 3) rfl) (fun r2 μ1 hzr2 hn => ?_)
  clear h
  have h := hn
  clear hn
  refine zx_if_eq (pc := 6) (tgt := 37) G rfl (z_dec T_X12_canBet_ok 4 (6, .ifCond .eq 31, 3) rfl) (fun hc => ?_) (fun hc => ?_)
  · replace h := z_pos hc h
    refine zx_iconst (pc := 37) (v := 0) G (z_dec T_X12_canBet_ok 21 (37, .iconst 0, 1) rfl) rfl ?_
    exact zx_zret (pc := 38) G hr hlk (Nat.le_refl _) (Nat.le_refl _) (Or.inl rfl) (z_dec T_X12_canBet_ok 22 (38, .ireturn, 1) rfl) ⟨rfl, _, rfl, (Or.inl rfl), h⟩
  · replace h := z_neg hc h
    refine zx_aload_n (pc := 9) G (some (0)) 0 rfl rfl (z_dec T_X12_canBet_ok 5 (9, .aload_n 0, 1) rfl) ?_
    refine zx_getF (pc := 10) (b := 12) G gf_RX12_26 rfl h_o (zq_12_11 hI h_o) (z_dec T_X12_canBet_ok 6 (10, .getfield 26, 3) rfl) ?_
    refine zx_iload_n (pc := 13) G 2 rfl rfl (z_dec T_X12_canBet_ok 7 (13, .iload_n 2, 1) rfl) ?_
    obtain ⟨c3, h⟩ := h
    refine zx_zald (pc := 14) G (zk_12_11 hI h_o) c3 (z_dec T_X12_canBet_ok 8 (14, .baload, 1) rfl) ?_
    refine zx_if_ne (pc := 15) (tgt := 37) G rfl (z_dec T_X12_canBet_ok 9 (15, .ifCond .ne 22, 3) rfl) (fun hc => ?_) (fun hc => ?_)
    · replace h := z_neg hc h
      refine zx_iconst (pc := 37) (v := 0) G (z_dec T_X12_canBet_ok 21 (37, .iconst 0, 1) rfl) rfl ?_
      exact zx_zret (pc := 38) G hr hlk (Nat.le_refl _) (Nat.le_refl _) (Or.inl rfl) (z_dec T_X12_canBet_ok 22 (38, .ireturn, 1) rfl) ⟨rfl, _, rfl, (Or.inl rfl), h⟩
    · replace h := z_pos hc h
      refine zx_aload_n (pc := 18) G (some (0)) 0 rfl rfl (z_dec T_X12_canBet_ok 10 (18, .aload_n 0, 1) rfl) ?_
      refine zx_getF (pc := 19) (b := 17) G gf_RX12_42 rfl h_o (zq_12_16 hI h_o) (z_dec T_X12_canBet_ok 11 (19, .getfield 42, 3) rfl) ?_
      refine zx_iload_n (pc := 22) G 1 rfl rfl (z_dec T_X12_canBet_ok 12 (22, .iload_n 1, 1) rfl) ?_
      refine zx_iload_n (pc := 23) G 2 rfl rfl (z_dec T_X12_canBet_ok 13 (23, .iload_n 2, 1) rfl) ?_
      refine zx_iload_n (pc := 24) G 3 rfl rfl (z_dec T_X12_canBet_ok 14 (24, .iload_n 3, 1) rfl) ?_
      refine zx_callS_iN (pc := 25) (rm := rm_X12_cellOf) G cw_RX12_188 ⟨Nat.le_of_ble_eq_true rfl, Nat.le_of_ble_eq_true rfl⟩ rfl rfl ⟨Nat.zero_le _, Nat.zero_le _⟩ (fun sz => (met_X12_cellOf l D ρ kd q μ1 sz a1 a2 a3 _ hI h)) rfl rfl (Nat.le_of_ble_eq_true rfl) (z_dec T_X12_canBet_ok 15 (25, .invokestatic 188, 3) rfl) (fun r5 μ4 hn => ?_)
      clear h
      have h := hn
      clear hn
      obtain ⟨c6, h⟩ := h
      refine zx_iald (pc := 28) G (zk_12_16 hI h_o) c6 (z_dec T_X12_canBet_ok 16 (28, .iaload, 1) rfl) ?_
      refine zx_iconst (pc := 29) (v := -1) G (z_dec T_X12_canBet_ok 17 (29, .iconst (-1), 1) rfl) rfl ?_
      refine zx_icmp_eq (pc := 30) (tgt := 37) G rfl (z_dec T_X12_canBet_ok 18 (30, .if_icmp .eq 7, 3) rfl) (fun hc => ?_) (fun hc => ?_)
      · replace h := z_pos hc h
        refine zx_iconst (pc := 37) (v := 0) G (z_dec T_X12_canBet_ok 21 (37, .iconst 0, 1) rfl) rfl ?_
        exact zx_zret (pc := 38) G hr hlk (Nat.le_refl _) (Nat.le_refl _) (Or.inl rfl) (z_dec T_X12_canBet_ok 22 (38, .ireturn, 1) rfl) ⟨rfl, _, rfl, (Or.inl rfl), h⟩
      · replace h := z_neg hc h
        refine zx_iconst (pc := 33) (v := 1) G (z_dec T_X12_canBet_ok 19 (33, .iconst 1, 1) rfl) rfl ?_
        refine zx_goto (pc := 34) (tgt := 38) G rfl (z_dec T_X12_canBet_ok 20 (34, .goto 4, 3) rfl) ?_
        exact zx_zret (pc := 38) G hr hlk (Nat.le_refl _) (Nat.le_refl _) (Or.inr rfl) (z_dec T_X12_canBet_ok 22 (38, .ireturn, 1) rfl) ⟨rfl, _, rfl, (Or.inr rfl), h⟩
abbrev rm_X12_writes : Room := { frames := 0, cells := 0, slots := 0, locals := 0 }
set_option maxRecDepth 100000 in
set_option maxHeartbeats 4000000 in
theorem B_X12_writes_77_ok {p : Program} {l : Launch} {e : Env} {s : State} {m : MethodId} {args : Array Value} {below : List Frame} {meth : Method} {c : Code} {D : va_G} {A : Nat → Prop} {ρ : z_A} {kd : z_K} {q : z_Q} {μ : z_M} {K : z_M → Prop} {P77 : Int32 → z_M → Prop} {v5 : Int32} (G : z_G p c cX12_writes s m args RX12 6 D) (hr : meth.sig.returnType = (Option.none : Option Jvm.ClassFile.FieldType)) (hlk : meth.locks = false) (hP77 : ∀ (v5 : Int32) (μ : z_M), P77 v5 μ → (kd 0 = some (.inl 12)) → z_X p l e rm_X12_writes s m args below meth c 6 D A (MQ below (z_Qn D A ρ kd (z_Kv q K)) args s 0 0 A) 0 0 ρ kd q μ 77 [(0, .ref (0)), (5, .int (v5))] []) (hI : z_I kd q) (f_l0 : kd 0 = some (.inl 12)) (h : B_X12_writes_77 K P77 v5 μ) : z_X p l e rm_X12_writes s m args below meth c 6 D A (MQ below (z_Qn D A ρ kd (z_Kv q K)) args s 0 0 A) 0 0 ρ kd q μ 77 [(0, .ref (0)), (5, .int (v5))] [] := by
    unfold B_X12_writes_77 at h
    refine zx_iload (pc := 77) G 1 rfl (z_dec T_X12_writes_ok 45 (77, .iload 5, 2) rfl) ?_
    refine zx_iconst (pc := 79) (v := 3) G (z_dec T_X12_writes_ok 46 (79, .iconst 3, 1) rfl) rfl ?_
    refine zx_icmp_ge (pc := 80) (tgt := 104) G rfl (z_dec T_X12_writes_ok 47 (80, .if_icmp .ge 24, 3) rfl) (fun hc => ?_) (fun hc => ?_)
    · replace h := z_pos hc h
      exact zx_vret (pc := 104) G hr hlk (Nat.le_refl _) (Nat.le_refl _) (z_dec T_X12_writes_ok 60 (104, .return_, 1) rfl) ⟨rfl, rfl, h⟩
    · replace h := z_neg hc h
      refine zx_aload_n (pc := 83) G (some (0)) 0 rfl rfl (z_dec T_X12_writes_ok 48 (83, .aload_n 0, 1) rfl) ?_
      refine zx_getF (pc := 84) (b := 25) G gf_RX12_66 rfl f_l0 (zq_12_24 hI f_l0) (z_dec T_X12_writes_ok 49 (84, .getfield 66, 3) rfl) ?_
      refine zx_iconst (pc := 87) (v := 3) G (z_dec T_X12_writes_ok 50 (87, .iconst 3, 1) rfl) rfl ?_
      refine zx_aload_n (pc := 88) G (some (0)) 0 rfl rfl (z_dec T_X12_writes_ok 51 (88, .aload_n 0, 1) rfl) ?_
      refine zx_getI (pc := 89) G gf_RX12_196 rfl f_l0 (z_dec T_X12_writes_ok 52 (89, .getfield 196, 3) rfl) ?_
      refine zx_imul (pc := 92) G  (z_dec T_X12_writes_ok 53 (92, .imul, 1) rfl) ?_
      refine zx_iload (pc := 93) G 1 rfl (z_dec T_X12_writes_ok 54 (93, .iload 5, 2) rfl) ?_
      refine zx_iadd (pc := 95) G  (z_dec T_X12_writes_ok 55 (95, .iadd, 1) rfl) ?_
      refine zx_iconst (pc := 96) (v := -1) G (z_dec T_X12_writes_ok 56 (96, .iconst (-1), 1) rfl) rfl ?_
      obtain ⟨c1, h⟩ := h
      refine zx_iast (pc := 97) G (zk_12_24 hI f_l0) c1 (z_dec T_X12_writes_ok 57 (97, .iastore, 1) rfl) ?_
      refine zx_iinc (pc := 98) (v := v5 + 1) (lv' := [(5, .int (v5 + 1)), (0, .ref (0))]) G 1 rfl (z_inc (by decide)) (Nat.le_of_ble_eq_true rfl) rfl (z_dec T_X12_writes_ok 58 (98, .iinc 5 1, 3) rfl) ?_
      refine zx_goto (pc := 101) (tgt := 77) G rfl (z_dec T_X12_writes_ok 59 (101, .goto (-24), 3) rfl) ?_
      refine zx_sub (lv' := [(0, .ref (0)), (5, .int (v5 + 1))]) [1, 0] rfl ?_
      exact hP77 _ _ h f_l0
set_option maxRecDepth 100000 in
set_option maxHeartbeats 4000000 in
theorem L_X12_writes_77_ok {p : Program} {l : Launch} {e : Env} {s : State} {m : MethodId} {args : Array Value} {below : List Frame} {meth : Method} {c : Code} {D : va_G} {A : Nat → Prop} {ρ : z_A} {kd : z_K} {q : z_Q} {μ : z_M} {K : z_M → Prop} {v5 : Int32} (G : z_G p c cX12_writes s m args RX12 6 D) (hr : meth.sig.returnType = (Option.none : Option Jvm.ClassFile.FieldType)) (hlk : meth.locks = false) (hI : z_I kd q) (f_l0 : kd 0 = some (.inl 12)) (h : L_X12_writes_77 K v5 μ) : z_X p l e rm_X12_writes s m args below meth c 6 D A (MQ below (z_Qn D A ρ kd (z_Kv q K)) args s 0 0 A) 0 0 ρ kd q μ 77 [(0, .ref (0)), (5, .int (v5))] [] :=
  h (fun (v5 : Int32) (μ : z_M) => (kd 0 = some (.inl 12)) → z_X p l e rm_X12_writes s m args below meth c 6 D A (MQ below (z_Qn D A ρ kd (z_Kv q K)) args s 0 0 A) 0 0 ρ kd q μ 77 [(0, .ref (0)), (5, .int (v5))] []) (fun v5 μ h f_l0 => B_X12_writes_77_ok G hr hlk (fun _ _ h => h) hI f_l0 h) f_l0
set_option maxRecDepth 100000 in
set_option maxHeartbeats 4000000 in
theorem met_X12_writes (l : Launch) (D : va_G) (ρ : z_A) (kd : z_K) (q : z_Q) (μ : z_M) (sz : Nat) (a1 : Int32) (a2 : Int32) (a3 : Int32) (a4 : Int32) (K : z_M → Prop) (hI : z_I kd q) (h_o : kd 0 = some (.inl 12)) (h : C_X12_writes a1 a2 a3 a4 μ K) : Met l yX12_writes (z_ws yX12_writes cX12_writes 6 (Option.none : Option Jvm.ClassFile.FieldType)) rm_X12_writes (z_Pc D ρ kd q μ sz [.ref (0), .int (a1), .int (a2), .int (a3), .int (a4)]) (z_Qn D (z_Rg ρ sz) ρ kd (z_Kv q K)) 0 0 (z_Rg ρ sz) := by
  refine z_met (rm := rm_X12_writes) (by decide) (Nat.le_of_ble_eq_true rfl) (fun p e s m args below meth c G hr hlk => ?_)
  unfold C_X12_writes at h
  show z_X _ _ _ _ _ _ _ _ _ _ _ _ _ _ _ _ _ _ _ _ _ [(0, .ref (0)), (1, .int (a1)), (2, .int (a2)), (3, .int (a3)), (4, .int (a4))] _
  refine zx_aload_n (pc := 0) G (some (0)) 0 rfl rfl (z_dec T_X12_writes_ok 0 (0, .aload_n 0, 1) rfl) ?_
  refine zx_getF (pc := 1) (b := 20) G gf_RX12_51 rfl h_o (zq_12_19 hI h_o) (z_dec T_X12_writes_ok 1 (1, .getfield 51, 3) rfl) ?_
  refine zx_aload_n (pc := 4) G (some (0)) 0 rfl rfl (z_dec T_X12_writes_ok 2 (4, .aload_n 0, 1) rfl) ?_
  refine zx_getI (pc := 5) G gf_RX12_196 rfl h_o (z_dec T_X12_writes_ok 3 (5, .getfield 196, 3) rfl) ?_
  refine zx_iload_n (pc := 8) G 1 rfl rfl (z_dec T_X12_writes_ok 4 (8, .iload_n 1, 1) rfl) ?_
  obtain ⟨c1, h⟩ := h
  refine zx_iast (pc := 9) G (zk_12_19 hI h_o) c1 (z_dec T_X12_writes_ok 5 (9, .iastore, 1) rfl) ?_
  refine zx_aload_n (pc := 10) G (some (0)) 0 rfl rfl (z_dec T_X12_writes_ok 6 (10, .aload_n 0, 1) rfl) ?_
  refine zx_getF (pc := 11) (b := 21) G gf_RX12_54 rfl h_o (zq_12_20 hI h_o) (z_dec T_X12_writes_ok 7 (11, .getfield 54, 3) rfl) ?_
  refine zx_aload_n (pc := 14) G (some (0)) 0 rfl rfl (z_dec T_X12_writes_ok 8 (14, .aload_n 0, 1) rfl) ?_
  refine zx_getI (pc := 15) G gf_RX12_196 rfl h_o (z_dec T_X12_writes_ok 9 (15, .getfield 196, 3) rfl) ?_
  refine zx_iload_n (pc := 18) G 2 rfl rfl (z_dec T_X12_writes_ok 10 (18, .iload_n 2, 1) rfl) ?_
  obtain ⟨c2, h⟩ := h
  refine zx_iast (pc := 19) G (zk_12_20 hI h_o) c2 (z_dec T_X12_writes_ok 11 (19, .iastore, 1) rfl) ?_
  refine zx_aload_n (pc := 20) G (some (0)) 0 rfl rfl (z_dec T_X12_writes_ok 12 (20, .aload_n 0, 1) rfl) ?_
  refine zx_getF (pc := 21) (b := 22) G gf_RX12_57 rfl h_o (zq_12_21 hI h_o) (z_dec T_X12_writes_ok 13 (21, .getfield 57, 3) rfl) ?_
  refine zx_aload_n (pc := 24) G (some (0)) 0 rfl rfl (z_dec T_X12_writes_ok 14 (24, .aload_n 0, 1) rfl) ?_
  refine zx_getI (pc := 25) G gf_RX12_196 rfl h_o (z_dec T_X12_writes_ok 15 (25, .getfield 196, 3) rfl) ?_
  refine zx_iload_n (pc := 28) G 3 rfl rfl (z_dec T_X12_writes_ok 16 (28, .iload_n 3, 1) rfl) ?_
  obtain ⟨c3, h⟩ := h
  refine zx_iast (pc := 29) G (zk_12_21 hI h_o) c3 (z_dec T_X12_writes_ok 17 (29, .iastore, 1) rfl) ?_
  refine zx_aload_n (pc := 30) G (some (0)) 0 rfl rfl (z_dec T_X12_writes_ok 18 (30, .aload_n 0, 1) rfl) ?_
  refine zx_getF (pc := 31) (b := 23) G gf_RX12_60 rfl h_o (zq_12_22 hI h_o) (z_dec T_X12_writes_ok 19 (31, .getfield 60, 3) rfl) ?_
  refine zx_aload_n (pc := 34) G (some (0)) 0 rfl rfl (z_dec T_X12_writes_ok 20 (34, .aload_n 0, 1) rfl) ?_
  refine zx_getI (pc := 35) G gf_RX12_196 rfl h_o (z_dec T_X12_writes_ok 21 (35, .getfield 196, 3) rfl) ?_
  refine zx_iload (pc := 38) G 4 rfl (z_dec T_X12_writes_ok 22 (38, .iload 4, 2) rfl) ?_
  obtain ⟨c4, h⟩ := h
  refine zx_iast (pc := 40) G (zk_12_22 hI h_o) c4 (z_dec T_X12_writes_ok 23 (40, .iastore, 1) rfl) ?_
  refine zx_aload_n (pc := 41) G (some (0)) 0 rfl rfl (z_dec T_X12_writes_ok 24 (41, .aload_n 0, 1) rfl) ?_
  refine zx_getF (pc := 42) (b := 24) G gf_RX12_63 rfl h_o (zq_12_23 hI h_o) (z_dec T_X12_writes_ok 25 (42, .getfield 63, 3) rfl) ?_
  refine zx_aload_n (pc := 45) G (some (0)) 0 rfl rfl (z_dec T_X12_writes_ok 26 (45, .aload_n 0, 1) rfl) ?_
  refine zx_getI (pc := 46) G gf_RX12_196 rfl h_o (z_dec T_X12_writes_ok 27 (46, .getfield 196, 3) rfl) ?_
  refine zx_aload_n (pc := 49) G (some (0)) 0 rfl rfl (z_dec T_X12_writes_ok 28 (49, .aload_n 0, 1) rfl) ?_
  refine zx_getI (pc := 50) G gf_RX12_199 rfl h_o (z_dec T_X12_writes_ok 29 (50, .getfield 199, 3) rfl) ?_
  obtain ⟨c5, h⟩ := h
  refine zx_iast (pc := 53) G (zk_12_23 hI h_o) c5 (z_dec T_X12_writes_ok 30 (53, .iastore, 1) rfl) ?_
  refine zx_aload_n (pc := 54) G (some (0)) 0 rfl rfl (z_dec T_X12_writes_ok 31 (54, .aload_n 0, 1) rfl) ?_
  refine zx_getF (pc := 55) (b := 27) G gf_RX12_72 rfl h_o (zq_12_26 hI h_o) (z_dec T_X12_writes_ok 32 (55, .getfield 72, 3) rfl) ?_
  refine zx_aload_n (pc := 58) G (some (0)) 0 rfl rfl (z_dec T_X12_writes_ok 33 (58, .aload_n 0, 1) rfl) ?_
  refine zx_getI (pc := 59) G gf_RX12_196 rfl h_o (z_dec T_X12_writes_ok 34 (59, .getfield 196, 3) rfl) ?_
  refine zx_iconst (pc := 62) (v := 0) G (z_dec T_X12_writes_ok 35 (62, .iconst 0, 1) rfl) rfl ?_
  obtain ⟨c6, h⟩ := h
  refine zx_zast (pc := 63) G (zk_12_26 hI h_o) c6 (z_dec T_X12_writes_ok 36 (63, .bastore, 1) rfl) ?_
  refine zx_aload_n (pc := 64) G (some (0)) 0 rfl rfl (z_dec T_X12_writes_ok 37 (64, .aload_n 0, 1) rfl) ?_
  refine zx_getF (pc := 65) (b := 28) G gf_RX12_75 rfl h_o (zq_12_27 hI h_o) (z_dec T_X12_writes_ok 38 (65, .getfield 75, 3) rfl) ?_
  refine zx_aload_n (pc := 68) G (some (0)) 0 rfl rfl (z_dec T_X12_writes_ok 39 (68, .aload_n 0, 1) rfl) ?_
  refine zx_getI (pc := 69) G gf_RX12_196 rfl h_o (z_dec T_X12_writes_ok 40 (69, .getfield 196, 3) rfl) ?_
  refine zx_iconst (pc := 72) (v := 0) G (z_dec T_X12_writes_ok 41 (72, .iconst 0, 1) rfl) rfl ?_
  obtain ⟨c7, h⟩ := h
  refine zx_zast (pc := 73) G (zk_12_27 hI h_o) c7 (z_dec T_X12_writes_ok 42 (73, .bastore, 1) rfl) ?_
  refine zx_iconst (pc := 74) (v := 0) G (z_dec T_X12_writes_ok 43 (74, .iconst 0, 1) rfl) rfl ?_
  refine zx_istore (pc := 75) (lv' := [(5, .int ((0 : Int32))), (0, .ref (0)), (1, .int (a1)), (2, .int (a2)), (3, .int (a3)), (4, .int (a4))]) G (Nat.le_of_ble_eq_true rfl) rfl (z_dec T_X12_writes_ok 44 (75, .istore 5, 2) rfl) ?_
  refine zx_sub (lv' := [(0, .ref (0)), (5, .int ((0 : Int32)))]) [1, 0] rfl ?_
  exact L_X12_writes_77_ok G hr hlk hI h_o h
abbrev rm_X12_takes : Room := { frames := 1, cells := 0, slots := 0, locals := 22 }
set_option maxRecDepth 100000 in
set_option maxHeartbeats 4000000 in
theorem met_X12_takes (l : Launch) (D : va_G) (ρ : z_A) (kd : z_K) (q : z_Q) (μ : z_M) (sz : Nat) (a1 : Int32) (a2 : Int32) (a3 : Int32) (K : z_M → Prop) (hI : z_I kd q) (h_o : kd 0 = some (.inl 12)) (h : C_X12_takes a1 a2 a3 μ K) : Met l yX12_takes (z_ws yX12_takes cX12_takes 4 (Option.none : Option Jvm.ClassFile.FieldType)) rm_X12_takes (z_Pc D ρ kd q μ sz [.ref (0), .int (a1), .int (a2), .int (a3)]) (z_Qn D (z_Rg ρ sz) ρ kd (z_Kv q K)) 0 0 (z_Rg ρ sz) := by
  refine z_met (rm := rm_X12_takes) (by decide) (Nat.le_of_ble_eq_true rfl) (fun p e s m args below meth c G hr hlk => ?_)
  unfold C_X12_takes at h
  show z_X _ _ _ _ _ _ _ _ _ _ _ _ _ _ _ _ _ _ _ _ _ [(0, .ref (0)), (1, .int (a1)), (2, .int (a2)), (3, .int (a3))] _
  refine zx_aload_n (pc := 0) G (some (0)) 0 rfl rfl (z_dec T_X12_takes_ok 0 (0, .aload_n 0, 1) rfl) ?_
  refine zx_getF (pc := 1) (b := 25) G gf_RX12_66 rfl h_o (zq_12_24 hI h_o) (z_dec T_X12_takes_ok 1 (1, .getfield 66, 3) rfl) ?_
  refine zx_iconst (pc := 4) (v := 3) G (z_dec T_X12_takes_ok 2 (4, .iconst 3, 1) rfl) rfl ?_
  refine zx_aload_n (pc := 5) G (some (0)) 0 rfl rfl (z_dec T_X12_takes_ok 3 (5, .aload_n 0, 1) rfl) ?_
  refine zx_getI (pc := 6) G gf_RX12_196 rfl h_o (z_dec T_X12_takes_ok 4 (6, .getfield 196, 3) rfl) ?_
  refine zx_imul (pc := 9) G  (z_dec T_X12_takes_ok 5 (9, .imul, 1) rfl) ?_
  refine zx_iload_n (pc := 10) G 2 rfl rfl (z_dec T_X12_takes_ok 6 (10, .iload_n 2, 1) rfl) ?_
  refine zx_iadd (pc := 11) G  (z_dec T_X12_takes_ok 7 (11, .iadd, 1) rfl) ?_
  refine zx_iload_n (pc := 12) G 3 rfl rfl (z_dec T_X12_takes_ok 8 (12, .iload_n 3, 1) rfl) ?_
  obtain ⟨c1, h⟩ := h
  refine zx_iast (pc := 13) G (zk_12_24 hI h_o) c1 (z_dec T_X12_takes_ok 9 (13, .iastore, 1) rfl) ?_
  refine zx_aload_n (pc := 14) G (some (0)) 0 rfl rfl (z_dec T_X12_takes_ok 10 (14, .aload_n 0, 1) rfl) ?_
  refine zx_getF (pc := 15) (b := 26) G gf_RX12_69 rfl h_o (zq_12_25 hI h_o) (z_dec T_X12_takes_ok 11 (15, .getfield 69, 3) rfl) ?_
  refine zx_iconst (pc := 18) (v := 3) G (z_dec T_X12_takes_ok 12 (18, .iconst 3, 1) rfl) rfl ?_
  refine zx_aload_n (pc := 19) G (some (0)) 0 rfl rfl (z_dec T_X12_takes_ok 13 (19, .aload_n 0, 1) rfl) ?_
  refine zx_getI (pc := 20) G gf_RX12_196 rfl h_o (z_dec T_X12_takes_ok 14 (20, .getfield 196, 3) rfl) ?_
  refine zx_imul (pc := 23) G  (z_dec T_X12_takes_ok 15 (23, .imul, 1) rfl) ?_
  refine zx_iload_n (pc := 24) G 2 rfl rfl (z_dec T_X12_takes_ok 16 (24, .iload_n 2, 1) rfl) ?_
  refine zx_iadd (pc := 25) G  (z_dec T_X12_takes_ok 17 (25, .iadd, 1) rfl) ?_
  refine zx_aload_n (pc := 26) G (some (0)) 0 rfl rfl (z_dec T_X12_takes_ok 18 (26, .aload_n 0, 1) rfl) ?_
  refine zx_getF (pc := 27) (b := 17) G gf_RX12_42 rfl h_o (zq_12_16 hI h_o) (z_dec T_X12_takes_ok 19 (27, .getfield 42, 3) rfl) ?_
  refine zx_iload_n (pc := 30) G 1 rfl rfl (z_dec T_X12_takes_ok 20 (30, .iload_n 1, 1) rfl) ?_
  refine zx_iload_n (pc := 31) G 2 rfl rfl (z_dec T_X12_takes_ok 21 (31, .iload_n 2, 1) rfl) ?_
  refine zx_iload_n (pc := 32) G 3 rfl rfl (z_dec T_X12_takes_ok 22 (32, .iload_n 3, 1) rfl) ?_
  refine zx_callS_iN (pc := 33) (rm := rm_X12_cellOf) G cw_RX12_188 ⟨Nat.le_of_ble_eq_true rfl, Nat.le_of_ble_eq_true rfl⟩ rfl rfl ⟨Nat.zero_le _, Nat.zero_le _⟩ (fun sz => (met_X12_cellOf l D ρ kd q (si μ 25 ((((3 : Int32)) * (μ.1 0 6)) + a2).toNatClampNeg a3) sz a1 a2 a3 _ hI h)) rfl rfl (Nat.le_of_ble_eq_true rfl) (z_dec T_X12_takes_ok 23 (33, .invokestatic 188, 3) rfl) (fun r3 μ2 hn => ?_)
  clear h
  have h := hn
  clear hn
  obtain ⟨c4, h⟩ := h
  refine zx_iald (pc := 36) G (zk_12_16 hI h_o) c4 (z_dec T_X12_takes_ok 24 (36, .iaload, 1) rfl) ?_
  obtain ⟨c5, h⟩ := h
  refine zx_iast (pc := 37) G (zk_12_25 hI h_o) c5 (z_dec T_X12_takes_ok 25 (37, .iastore, 1) rfl) ?_
  exact zx_vret (pc := 38) G hr hlk (Nat.le_refl _) (Nat.le_refl _) (z_dec T_X12_takes_ok 26 (38, .return_, 1) rfl) ⟨rfl, rfl, h⟩
abbrev rm_X12_worked : Room := { frames := 0, cells := 0, slots := 0, locals := 0 }
set_option maxRecDepth 100000 in
set_option maxHeartbeats 4000000 in
theorem met_X12_worked (l : Launch) (D : va_G) (ρ : z_A) (kd : z_K) (q : z_Q) (μ : z_M) (sz : Nat) (a1 : Int32) (a2 : Int64) (a3 : Int64) (K : Int64 → z_M → Prop) (hI : z_I kd q) (h : C_X12_worked a1 a2 a3 μ K) : Met l yX12_worked (z_ws yX12_worked cX12_worked 5 (Option.some Jvm.ClassFile.FieldType.long)) rm_X12_worked (z_Pc D ρ kd q μ sz [.int (a1), .long (a2), .long (a3)]) (z_Qn D (z_Rg ρ sz) ρ kd (z_Kl q K)) 0 0 (z_Rg ρ sz) := by
  refine z_met (rm := rm_X12_worked) (by decide) (Nat.le_of_ble_eq_true rfl) (fun p e s m args below meth c G hr hlk => ?_)
  unfold C_X12_worked at h
  show z_X _ _ _ _ _ _ _ _ _ _ _ _ _ _ _ _ _ _ _ _ _ [(0, .int (a1)), (1, .long (a2)), (3, .long (a3))] _
  refine zx_iload_n (pc := 0) G 0 rfl rfl (z_dec T_X12_worked_ok 0 (0, .iload_n 0, 1) rfl) ?_
  by_cases n2 : a1 = 37
  · replace h := z_pos n2 h
    refine zx_lookup (pc := 1) (tgt := 94) (off := 93) G (by decide) (by rw [n2]; rfl) rfl (z_dec T_X12_worked_ok 1 (1, .lookupswitch 131 #[(37, 93), (42, 75), (43, 67), (45, 71), (47, 79), (60, 107), (62, 119)], 67) rfl) ?_
    refine zx_lload_n (pc := 94) G 2 rfl rfl (z_dec T_X12_worked_ok 24 (94, .lload_n 3, 1) rfl) ?_
    refine zx_lconst (pc := 95) (v := 0) G (z_dec T_X12_worked_ok 25 (95, .lconst 0, 1) rfl) rfl ?_
    refine zx_lcmp_ne (pc := 96) (tgt := 104) G rfl (z_dec T_X12_worked_ok 26 (96, .lcmp, 1) rfl) (z_dec T_X12_worked_ok 27 (97, .ifCond .ne 7, 3) rfl) (fun hc => ?_) (fun hc => ?_)
    · replace h := z_neg hc h
      refine zx_lload_n (pc := 104) G 1 rfl rfl (z_dec T_X12_worked_ok 30 (104, .lload_n 1, 1) rfl) ?_
      refine zx_lload_n (pc := 105) G 2 rfl rfl (z_dec T_X12_worked_ok 31 (105, .lload_n 3, 1) rfl) ?_
      obtain ⟨c1, h⟩ := h
      refine zx_lrem (pc := 106) G c1 (z_dec T_X12_worked_ok 32 (106, .lrem, 1) rfl) ?_
      exact zx_lret (pc := 107) G hr hlk (Nat.le_refl _) (Nat.le_refl _) (z_dec T_X12_worked_ok 33 (107, .lreturn, 1) rfl) ⟨rfl, _, rfl, h⟩
    · replace h := z_pos hc h
      refine zx_lconst (pc := 100) (v := 0) G (z_dec T_X12_worked_ok 28 (100, .lconst 0, 1) rfl) rfl ?_
      refine zx_goto (pc := 101) (tgt := 107) G rfl (z_dec T_X12_worked_ok 29 (101, .goto 6, 3) rfl) ?_
      exact zx_lret (pc := 107) G hr hlk (Nat.le_refl _) (Nat.le_refl _) (z_dec T_X12_worked_ok 33 (107, .lreturn, 1) rfl) ⟨rfl, _, rfl, h⟩
  replace h := z_neg n2 h
  by_cases n3 : a1 = 42
  · replace h := z_pos n3 h
    refine zx_lookup (pc := 1) (tgt := 76) (off := 75) G (by decide) (by rw [n3]; rfl) rfl (z_dec T_X12_worked_ok 1 (1, .lookupswitch 131 #[(37, 93), (42, 75), (43, 67), (45, 71), (47, 79), (60, 107), (62, 119)], 67) rfl) ?_
    refine zx_lload_n (pc := 76) G 1 rfl rfl (z_dec T_X12_worked_ok 10 (76, .lload_n 1, 1) rfl) ?_
    refine zx_lload_n (pc := 77) G 2 rfl rfl (z_dec T_X12_worked_ok 11 (77, .lload_n 3, 1) rfl) ?_
    refine zx_lmul (pc := 78) G  (z_dec T_X12_worked_ok 12 (78, .lmul, 1) rfl) ?_
    exact zx_lret (pc := 79) G hr hlk (Nat.le_refl _) (Nat.le_refl _) (z_dec T_X12_worked_ok 13 (79, .lreturn, 1) rfl) ⟨rfl, _, rfl, h⟩
  replace h := z_neg n3 h
  by_cases n4 : a1 = 43
  · replace h := z_pos n4 h
    refine zx_lookup (pc := 1) (tgt := 68) (off := 67) G (by decide) (by rw [n4]; rfl) rfl (z_dec T_X12_worked_ok 1 (1, .lookupswitch 131 #[(37, 93), (42, 75), (43, 67), (45, 71), (47, 79), (60, 107), (62, 119)], 67) rfl) ?_
    refine zx_lload_n (pc := 68) G 1 rfl rfl (z_dec T_X12_worked_ok 2 (68, .lload_n 1, 1) rfl) ?_
    refine zx_lload_n (pc := 69) G 2 rfl rfl (z_dec T_X12_worked_ok 3 (69, .lload_n 3, 1) rfl) ?_
    refine zx_ladd (pc := 70) G  (z_dec T_X12_worked_ok 4 (70, .ladd, 1) rfl) ?_
    exact zx_lret (pc := 71) G hr hlk (Nat.le_refl _) (Nat.le_refl _) (z_dec T_X12_worked_ok 5 (71, .lreturn, 1) rfl) ⟨rfl, _, rfl, h⟩
  replace h := z_neg n4 h
  by_cases n5 : a1 = 45
  · replace h := z_pos n5 h
    refine zx_lookup (pc := 1) (tgt := 72) (off := 71) G (by decide) (by rw [n5]; rfl) rfl (z_dec T_X12_worked_ok 1 (1, .lookupswitch 131 #[(37, 93), (42, 75), (43, 67), (45, 71), (47, 79), (60, 107), (62, 119)], 67) rfl) ?_
    refine zx_lload_n (pc := 72) G 1 rfl rfl (z_dec T_X12_worked_ok 6 (72, .lload_n 1, 1) rfl) ?_
    refine zx_lload_n (pc := 73) G 2 rfl rfl (z_dec T_X12_worked_ok 7 (73, .lload_n 3, 1) rfl) ?_
    refine zx_lsub (pc := 74) G  (z_dec T_X12_worked_ok 8 (74, .lsub, 1) rfl) ?_
    exact zx_lret (pc := 75) G hr hlk (Nat.le_refl _) (Nat.le_refl _) (z_dec T_X12_worked_ok 9 (75, .lreturn, 1) rfl) ⟨rfl, _, rfl, h⟩
  replace h := z_neg n5 h
  by_cases n7 : a1 = 47
  · replace h := z_pos n7 h
    refine zx_lookup (pc := 1) (tgt := 80) (off := 79) G (by decide) (by rw [n7]; rfl) rfl (z_dec T_X12_worked_ok 1 (1, .lookupswitch 131 #[(37, 93), (42, 75), (43, 67), (45, 71), (47, 79), (60, 107), (62, 119)], 67) rfl) ?_
    refine zx_lload_n (pc := 80) G 2 rfl rfl (z_dec T_X12_worked_ok 14 (80, .lload_n 3, 1) rfl) ?_
    refine zx_lconst (pc := 81) (v := 0) G (z_dec T_X12_worked_ok 15 (81, .lconst 0, 1) rfl) rfl ?_
    refine zx_lcmp_ne (pc := 82) (tgt := 90) G rfl (z_dec T_X12_worked_ok 16 (82, .lcmp, 1) rfl) (z_dec T_X12_worked_ok 17 (83, .ifCond .ne 7, 3) rfl) (fun hc => ?_) (fun hc => ?_)
    · replace h := z_neg hc h
      refine zx_lload_n (pc := 90) G 1 rfl rfl (z_dec T_X12_worked_ok 20 (90, .lload_n 1, 1) rfl) ?_
      refine zx_lload_n (pc := 91) G 2 rfl rfl (z_dec T_X12_worked_ok 21 (91, .lload_n 3, 1) rfl) ?_
      obtain ⟨c6, h⟩ := h
      refine zx_ldiv (pc := 92) G c6 (z_dec T_X12_worked_ok 22 (92, .ldiv, 1) rfl) ?_
      exact zx_lret (pc := 93) G hr hlk (Nat.le_refl _) (Nat.le_refl _) (z_dec T_X12_worked_ok 23 (93, .lreturn, 1) rfl) ⟨rfl, _, rfl, h⟩
    · replace h := z_pos hc h
      refine zx_lconst (pc := 86) (v := 0) G (z_dec T_X12_worked_ok 18 (86, .lconst 0, 1) rfl) rfl ?_
      refine zx_goto (pc := 87) (tgt := 93) G rfl (z_dec T_X12_worked_ok 19 (87, .goto 6, 3) rfl) ?_
      exact zx_lret (pc := 93) G hr hlk (Nat.le_refl _) (Nat.le_refl _) (z_dec T_X12_worked_ok 23 (93, .lreturn, 1) rfl) ⟨rfl, _, rfl, h⟩
  replace h := z_neg n7 h
  by_cases n8 : a1 = 60
  · replace h := z_pos n8 h
    refine zx_lookup (pc := 1) (tgt := 108) (off := 107) G (by decide) (by rw [n8]; rfl) rfl (z_dec T_X12_worked_ok 1 (1, .lookupswitch 131 #[(37, 93), (42, 75), (43, 67), (45, 71), (47, 79), (60, 107), (62, 119)], 67) rfl) ?_
    refine zx_lload_n (pc := 108) G 1 rfl rfl (z_dec T_X12_worked_ok 34 (108, .lload_n 1, 1) rfl) ?_
    refine zx_lload_n (pc := 109) G 2 rfl rfl (z_dec T_X12_worked_ok 35 (109, .lload_n 3, 1) rfl) ?_
    refine zx_lcmp_ge (pc := 110) (tgt := 118) G rfl (z_dec T_X12_worked_ok 36 (110, .lcmp, 1) rfl) (z_dec T_X12_worked_ok 37 (111, .ifCond .ge 7, 3) rfl) (fun hc => ?_) (fun hc => ?_)
    · replace h := z_pos hc h
      refine zx_lconst (pc := 118) (v := 0) G (z_dec T_X12_worked_ok 40 (118, .lconst 0, 1) rfl) rfl ?_
      exact zx_lret (pc := 119) G hr hlk (Nat.le_refl _) (Nat.le_refl _) (z_dec T_X12_worked_ok 41 (119, .lreturn, 1) rfl) ⟨rfl, _, rfl, h⟩
    · replace h := z_neg hc h
      refine zx_lconst (pc := 114) (v := 1) G (z_dec T_X12_worked_ok 38 (114, .lconst 1, 1) rfl) rfl ?_
      refine zx_goto (pc := 115) (tgt := 119) G rfl (z_dec T_X12_worked_ok 39 (115, .goto 4, 3) rfl) ?_
      exact zx_lret (pc := 119) G hr hlk (Nat.le_refl _) (Nat.le_refl _) (z_dec T_X12_worked_ok 41 (119, .lreturn, 1) rfl) ⟨rfl, _, rfl, h⟩
  replace h := z_neg n8 h
  by_cases n9 : a1 = 62
  · replace h := z_pos n9 h
    refine zx_lookup (pc := 1) (tgt := 120) (off := 119) G (by decide) (by rw [n9]; rfl) rfl (z_dec T_X12_worked_ok 1 (1, .lookupswitch 131 #[(37, 93), (42, 75), (43, 67), (45, 71), (47, 79), (60, 107), (62, 119)], 67) rfl) ?_
    refine zx_lload_n (pc := 120) G 1 rfl rfl (z_dec T_X12_worked_ok 42 (120, .lload_n 1, 1) rfl) ?_
    refine zx_lload_n (pc := 121) G 2 rfl rfl (z_dec T_X12_worked_ok 43 (121, .lload_n 3, 1) rfl) ?_
    refine zx_lcmp_le (pc := 122) (tgt := 130) G rfl (z_dec T_X12_worked_ok 44 (122, .lcmp, 1) rfl) (z_dec T_X12_worked_ok 45 (123, .ifCond .le 7, 3) rfl) (fun hc => ?_) (fun hc => ?_)
    · replace h := z_pos hc h
      refine zx_lconst (pc := 130) (v := 0) G (z_dec T_X12_worked_ok 48 (130, .lconst 0, 1) rfl) rfl ?_
      exact zx_lret (pc := 131) G hr hlk (Nat.le_refl _) (Nat.le_refl _) (z_dec T_X12_worked_ok 49 (131, .lreturn, 1) rfl) ⟨rfl, _, rfl, h⟩
    · replace h := z_neg hc h
      refine zx_lconst (pc := 126) (v := 1) G (z_dec T_X12_worked_ok 46 (126, .lconst 1, 1) rfl) rfl ?_
      refine zx_goto (pc := 127) (tgt := 131) G rfl (z_dec T_X12_worked_ok 47 (127, .goto 4, 3) rfl) ?_
      exact zx_lret (pc := 131) G hr hlk (Nat.le_refl _) (Nat.le_refl _) (z_dec T_X12_worked_ok 49 (131, .lreturn, 1) rfl) ⟨rfl, _, rfl, h⟩
  replace h := z_neg n9 h
  refine zx_lookup (pc := 1) (tgt := 132) (off := 131) G (by decide) (by show Op.lookupswitch.offset [(37, 93), (42, 75), (43, 67), (45, 71), (47, 79), (60, 107), (62, 119)] _ _ = _; rw [lv_osw (a := 37) n2 rfl, lv_osw (a := 42) n3 rfl, lv_osw (a := 43) n4 rfl, lv_osw (a := 45) n5 rfl, lv_osw (a := 47) n7 rfl, lv_osw (a := 60) n8 rfl, lv_osw (a := 62) n9 rfl]; rfl) rfl (z_dec T_X12_worked_ok 1 (1, .lookupswitch 131 #[(37, 93), (42, 75), (43, 67), (45, 71), (47, 79), (60, 107), (62, 119)], 67) rfl) ?_
  refine zx_lload_n (pc := 132) G 1 rfl rfl (z_dec T_X12_worked_ok 50 (132, .lload_n 1, 1) rfl) ?_
  refine zx_lload_n (pc := 133) G 2 rfl rfl (z_dec T_X12_worked_ok 51 (133, .lload_n 3, 1) rfl) ?_
  refine zx_lcmp_ne (pc := 134) (tgt := 142) G rfl (z_dec T_X12_worked_ok 52 (134, .lcmp, 1) rfl) (z_dec T_X12_worked_ok 53 (135, .ifCond .ne 7, 3) rfl) (fun hc => ?_) (fun hc => ?_)
  · replace h := z_neg hc h
    refine zx_lconst (pc := 142) (v := 0) G (z_dec T_X12_worked_ok 56 (142, .lconst 0, 1) rfl) rfl ?_
    exact zx_lret (pc := 143) G hr hlk (Nat.le_refl _) (Nat.le_refl _) (z_dec T_X12_worked_ok 57 (143, .lreturn, 1) rfl) ⟨rfl, _, rfl, h⟩
  · replace h := z_pos hc h
    refine zx_lconst (pc := 138) (v := 1) G (z_dec T_X12_worked_ok 54 (138, .lconst 1, 1) rfl) rfl ?_
    refine zx_goto (pc := 139) (tgt := 143) G rfl (z_dec T_X12_worked_ok 55 (139, .goto 4, 3) rfl) ?_
    exact zx_lret (pc := 143) G hr hlk (Nat.le_refl _) (Nat.le_refl _) (z_dec T_X12_worked_ok 57 (143, .lreturn, 1) rfl) ⟨rfl, _, rfl, h⟩
abbrev rm_X12_does : Room := { frames := 1, cells := 0, slots := 0, locals := 24 }
set_option maxRecDepth 100000 in
set_option maxHeartbeats 4000000 in
theorem L_X12_does_42_ok {p : Program} {l : Launch} {e : Env} {s : State} {m : MethodId} {args : Array Value} {below : List Frame} {meth : Method} {c : Code} {D : va_G} {A : Nat → Prop} {ρ : z_A} {kd : z_K} {q : z_Q} {μ : z_M} {K : z_M → Prop} {v2 : Int32} {v3 : Int32} {t0 : Int64} {t1 : Int64} (G : z_G p c cX12_does s m args RX12 4 D) (hr : meth.sig.returnType = (Option.none : Option Jvm.ClassFile.FieldType)) (hlk : meth.locks = false) (hI : z_I kd q) (f_l0 : kd 0 = some (.inl 12)) (h : L_X12_does_42 K v2 v3 t0 t1 μ) : z_X p l e rm_X12_does s m args below meth c 4 D A (MQ below (z_Qn D A ρ kd (z_Kv q K)) args s 0 0 A) 0 0 ρ kd q μ 42 [(0, .ref (0)), (2, .int (v2)), (3, .int (v3))] [.long (t0), .long (t1)] := by
    unfold L_X12_does_42 at h
    refine zx_lcmp_eq (pc := 42) (tgt := 47) G rfl (z_dec T_X12_does_ok 25 (42, .lcmp, 1) rfl) (z_dec T_X12_does_ok 26 (43, .ifCond .eq 4, 3) rfl) (fun hc => ?_) (fun hc => ?_)
    · replace h := z_pos hc h
      refine zx_aload_n (pc := 47) G (some (0)) 0 rfl rfl (z_dec T_X12_does_ok 28 (47, .aload_n 0, 1) rfl) ?_
      refine zx_getF (pc := 48) (b := 58) G gf_RX12_123 rfl f_l0 (zq_12_57 hI f_l0) (z_dec T_X12_does_ok 29 (48, .getfield 123, 3) rfl) ?_
      refine zx_iload_n (pc := 51) G 1 rfl rfl (z_dec T_X12_does_ok 30 (51, .iload_n 2, 1) rfl) ?_
      refine zx_aload_n (pc := 52) G (some (0)) 0 rfl rfl (z_dec T_X12_does_ok 31 (52, .aload_n 0, 1) rfl) ?_
      refine zx_getF (pc := 53) (b := 58) G gf_RX12_123 rfl f_l0 (zq_12_57 hI f_l0) (z_dec T_X12_does_ok 32 (53, .getfield 123, 3) rfl) ?_
      refine zx_iload_n (pc := 56) G 2 rfl rfl (z_dec T_X12_does_ok 33 (56, .iload_n 3, 1) rfl) ?_
      obtain ⟨c1, h⟩ := h
      refine zx_lald (pc := 57) G (zk_12_57 hI f_l0) c1 (z_dec T_X12_does_ok 34 (57, .laload, 1) rfl) ?_
      obtain ⟨c2, h⟩ := h
      refine zx_last (pc := 58) G (zk_12_57 hI f_l0) c2 (z_dec T_X12_does_ok 35 (58, .lastore, 1) rfl) ?_
      refine zx_aload_n (pc := 59) G (some (0)) 0 rfl rfl (z_dec T_X12_does_ok 36 (59, .aload_n 0, 1) rfl) ?_
      refine zx_getF (pc := 60) (b := 59) G gf_RX12_127 rfl f_l0 (zq_12_58 hI f_l0) (z_dec T_X12_does_ok 37 (60, .getfield 127, 3) rfl) ?_
      refine zx_iload_n (pc := 63) G 1 rfl rfl (z_dec T_X12_does_ok 38 (63, .iload_n 2, 1) rfl) ?_
      refine zx_aload_n (pc := 64) G (some (0)) 0 rfl rfl (z_dec T_X12_does_ok 39 (64, .aload_n 0, 1) rfl) ?_
      refine zx_getF (pc := 65) (b := 59) G gf_RX12_127 rfl f_l0 (zq_12_58 hI f_l0) (z_dec T_X12_does_ok 40 (65, .getfield 127, 3) rfl) ?_
      refine zx_iload_n (pc := 68) G 2 rfl rfl (z_dec T_X12_does_ok 41 (68, .iload_n 3, 1) rfl) ?_
      refine zx_zald (pc := 69) G (zk_12_58 hI f_l0) c1 (z_dec T_X12_does_ok 42 (69, .baload, 1) rfl) ?_
      refine zx_zast (pc := 70) G (zk_12_58 hI f_l0) c2 (z_dec T_X12_does_ok 43 (70, .bastore, 1) rfl) ?_
      exact zx_vret (pc := 71) G hr hlk (Nat.le_refl _) (Nat.le_refl _) (z_dec T_X12_does_ok 44 (71, .return_, 1) rfl) ⟨rfl, rfl, h⟩
    · replace h := z_neg hc h
      exact zx_vret (pc := 46) G hr hlk (Nat.le_refl _) (Nat.le_refl _) (z_dec T_X12_does_ok 27 (46, .return_, 1) rfl) ⟨rfl, rfl, h⟩
set_option maxRecDepth 100000 in
set_option maxHeartbeats 4000000 in
theorem L_X12_does_16_ok {p : Program} {l : Launch} {e : Env} {s : State} {m : MethodId} {args : Array Value} {below : List Frame} {meth : Method} {c : Code} {D : va_G} {A : Nat → Prop} {ρ : z_A} {kd : z_K} {q : z_Q} {μ : z_M} {K : z_M → Prop} {v1 : Int32} {v2 : Int32} {v3 : Int32} (G : z_G p c cX12_does s m args RX12 4 D) (hr : meth.sig.returnType = (Option.none : Option Jvm.ClassFile.FieldType)) (hlk : meth.locks = false) (hI : z_I kd q) (f_l0 : kd 0 = some (.inl 12)) (h : L_X12_does_16 K v1 v2 v3 μ) : z_X p l e rm_X12_does s m args below meth c 4 D A (MQ below (z_Qn D A ρ kd (z_Kv q K)) args s 0 0 A) 0 0 ρ kd q μ 16 [(0, .ref (0)), (1, .int (v1)), (2, .int (v2)), (3, .int (v3))] [] := by
    unfold L_X12_does_16 at h
    refine zx_aload_n (pc := 16) G (some (0)) 0 rfl rfl (z_dec T_X12_does_ok 10 (16, .aload_n 0, 1) rfl) ?_
    refine zx_getF (pc := 17) (b := 59) G gf_RX12_127 rfl f_l0 (zq_12_58 hI f_l0) (z_dec T_X12_does_ok 11 (17, .getfield 127, 3) rfl) ?_
    refine zx_iload_n (pc := 20) G 2 rfl rfl (z_dec T_X12_does_ok 12 (20, .iload_n 2, 1) rfl) ?_
    obtain ⟨c1, h⟩ := h
    refine zx_zald (pc := 21) G (zk_12_58 hI f_l0) c1 (z_dec T_X12_does_ok 13 (21, .baload, 1) rfl) ?_
    refine zx_if_ne (pc := 22) (tgt := 46) G rfl (z_dec T_X12_does_ok 14 (22, .ifCond .ne 24, 3) rfl) (fun hc => ?_) (fun hc => ?_)
    · replace h := z_neg hc h
      exact zx_vret (pc := 46) G hr hlk (Nat.le_refl _) (Nat.le_refl _) (z_dec T_X12_does_ok 27 (46, .return_, 1) rfl) ⟨rfl, rfl, h⟩
    · replace h := z_pos hc h
      refine zx_aload_n (pc := 25) G (some (0)) 0 rfl rfl (z_dec T_X12_does_ok 15 (25, .aload_n 0, 1) rfl) ?_
      refine zx_getF (pc := 26) (b := 58) G gf_RX12_123 rfl f_l0 (zq_12_57 hI f_l0) (z_dec T_X12_does_ok 16 (26, .getfield 123, 3) rfl) ?_
      refine zx_iload_n (pc := 29) G 2 rfl rfl (z_dec T_X12_does_ok 17 (29, .iload_n 2, 1) rfl) ?_
      refine zx_lald (pc := 30) G (zk_12_57 hI f_l0) c1 (z_dec T_X12_does_ok 18 (30, .laload, 1) rfl) ?_
      refine zx_iload_n (pc := 31) G 1 rfl rfl (z_dec T_X12_does_ok 19 (31, .iload_n 1, 1) rfl) ?_
      refine zx_bipush (pc := 32) (v := 38) G (z_dec T_X12_does_ok 20 (32, .bipush 38, 2) rfl) rfl ?_
      refine zx_icmp_ne (pc := 34) (tgt := 41) G rfl (z_dec T_X12_does_ok 21 (34, .if_icmp .ne 7, 3) rfl) (fun hc => ?_) (fun hc => ?_)
      · replace h := z_neg hc h
        refine zx_lconst (pc := 41) (v := 0) G (z_dec T_X12_does_ok 24 (41, .lconst 0, 1) rfl) rfl ?_
        refine zx_sub (lv' := [(0, .ref (0)), (2, .int (v2)), (3, .int (v3))]) [0, 2, 3] rfl ?_
        exact L_X12_does_42_ok G hr hlk hI f_l0 h
      · replace h := z_pos hc h
        refine zx_lconst (pc := 37) (v := 1) G (z_dec T_X12_does_ok 22 (37, .lconst 1, 1) rfl) rfl ?_
        refine zx_goto (pc := 38) (tgt := 42) G rfl (z_dec T_X12_does_ok 23 (38, .goto 4, 3) rfl) ?_
        refine zx_sub (lv' := [(0, .ref (0)), (2, .int (v2)), (3, .int (v3))]) [0, 2, 3] rfl ?_
        exact L_X12_does_42_ok G hr hlk hI f_l0 h
set_option maxRecDepth 100000 in
set_option maxHeartbeats 4000000 in
theorem L_X12_does_123_ok {p : Program} {l : Launch} {e : Env} {s : State} {m : MethodId} {args : Array Value} {below : List Frame} {meth : Method} {c : Code} {D : va_G} {A : Nat → Prop} {ρ : z_A} {kd : z_K} {q : z_Q} {μ : z_M} {K : z_M → Prop} {v1 : Int32} {v2 : Int32} {v3 : Int32} {t0 : Int32} {t1 : Int32} (G : z_G p c cX12_does s m args RX12 4 D) (hr : meth.sig.returnType = (Option.none : Option Jvm.ClassFile.FieldType)) (hlk : meth.locks = false) (hI : z_I kd q) (f_l0 : kd 0 = some (.inl 12)) (f_s0 : (t0 = 0 ∨ t0 = 1)) (f_s2 : kd 59 = some (.inr (2, 200))) (h : L_X12_does_123 K v1 v2 v3 t0 t1 μ) : z_X p l e rm_X12_does s m args below meth c 4 D A (MQ below (z_Qn D A ρ kd (z_Kv q K)) args s 0 0 A) 0 0 ρ kd q μ 123 [(0, .ref (0)), (1, .int (v1)), (2, .int (v2)), (3, .int (v3))] [.int (t0), .int (t1), .ref (59)] := by
    unfold L_X12_does_123 at h
    obtain ⟨c1, h⟩ := h
    refine zx_zast (pc := 123) G f_s2 c1 (z_dec T_X12_does_ok 74 (123, .bastore, 1) rfl) ?_
    refine zx_aload_n (pc := 124) G (some (0)) 0 rfl rfl (z_dec T_X12_does_ok 75 (124, .aload_n 0, 1) rfl) ?_
    refine zx_getF (pc := 125) (b := 58) G gf_RX12_123 rfl f_l0 (zq_12_57 hI f_l0) (z_dec T_X12_does_ok 76 (125, .getfield 123, 3) rfl) ?_
    refine zx_iload_n (pc := 128) G 2 rfl rfl (z_dec T_X12_does_ok 77 (128, .iload_n 2, 1) rfl) ?_
    refine zx_iload_n (pc := 129) G 1 rfl rfl (z_dec T_X12_does_ok 78 (129, .iload_n 1, 1) rfl) ?_
    refine zx_aload_n (pc := 130) G (some (0)) 0 rfl rfl (z_dec T_X12_does_ok 79 (130, .aload_n 0, 1) rfl) ?_
    refine zx_getF (pc := 131) (b := 58) G gf_RX12_123 rfl f_l0 (zq_12_57 hI f_l0) (z_dec T_X12_does_ok 80 (131, .getfield 123, 3) rfl) ?_
    refine zx_iload_n (pc := 134) G 2 rfl rfl (z_dec T_X12_does_ok 81 (134, .iload_n 2, 1) rfl) ?_
    obtain ⟨c2, h⟩ := h
    refine zx_lald (pc := 135) G (zk_12_57 hI f_l0) c2 (z_dec T_X12_does_ok 82 (135, .laload, 1) rfl) ?_
    refine zx_aload_n (pc := 136) G (some (0)) 0 rfl rfl (z_dec T_X12_does_ok 83 (136, .aload_n 0, 1) rfl) ?_
    refine zx_getF (pc := 137) (b := 58) G gf_RX12_123 rfl f_l0 (zq_12_57 hI f_l0) (z_dec T_X12_does_ok 84 (137, .getfield 123, 3) rfl) ?_
    refine zx_iload_n (pc := 140) G 3 rfl rfl (z_dec T_X12_does_ok 85 (140, .iload_n 3, 1) rfl) ?_
    obtain ⟨c3, h⟩ := h
    refine zx_lald (pc := 141) G (zk_12_57 hI f_l0) c3 (z_dec T_X12_does_ok 86 (141, .laload, 1) rfl) ?_
    refine zx_callS_lN (pc := 142) (rm := rm_X12_worked) G cw_RX12_381 ⟨Nat.le_of_ble_eq_true rfl, Nat.le_of_ble_eq_true rfl⟩ rfl rfl ⟨Nat.zero_le _, Nat.zero_le _⟩ (fun sz => (met_X12_worked l D ρ kd q (si μ 59 t1.toNatClampNeg (t0 &&& 1)) sz v1 ((si μ 59 t1.toNatClampNeg (t0 &&& 1)).2 58 v2.toNatClampNeg) ((si μ 59 t1.toNatClampNeg (t0 &&& 1)).2 58 v3.toNatClampNeg) _ hI h)) rfl rfl (Nat.le_of_ble_eq_true rfl) (z_dec T_X12_does_ok 87 (142, .invokestatic 381, 3) rfl) (fun r5 μ4 hn => ?_)
    clear h
    have h := hn
    clear hn
    refine zx_last (pc := 145) G (zk_12_57 hI f_l0) c2 (z_dec T_X12_does_ok 88 (145, .lastore, 1) rfl) ?_
    exact zx_vret (pc := 146) G hr hlk (Nat.le_refl _) (Nat.le_refl _) (z_dec T_X12_does_ok 89 (146, .return_, 1) rfl) ⟨rfl, rfl, h⟩
set_option maxRecDepth 100000 in
set_option maxHeartbeats 4000000 in
theorem L_X12_does_122_ok {p : Program} {l : Launch} {e : Env} {s : State} {m : MethodId} {args : Array Value} {below : List Frame} {meth : Method} {c : Code} {D : va_G} {A : Nat → Prop} {ρ : z_A} {kd : z_K} {q : z_Q} {μ : z_M} {K : z_M → Prop} {v1 : Int32} {v2 : Int32} {v3 : Int32} {t0 : Int32} (G : z_G p c cX12_does s m args RX12 4 D) (hr : meth.sig.returnType = (Option.none : Option Jvm.ClassFile.FieldType)) (hlk : meth.locks = false) (hI : z_I kd q) (f_l0 : kd 0 = some (.inl 12)) (f_s1 : kd 59 = some (.inr (2, 200))) (h : L_X12_does_122 K v1 v2 v3 t0 μ) : z_X p l e rm_X12_does s m args below meth c 4 D A (MQ below (z_Qn D A ρ kd (z_Kv q K)) args s 0 0 A) 0 0 ρ kd q μ 122 [(0, .ref (0)), (1, .int (v1)), (2, .int (v2)), (3, .int (v3))] [.int (t0), .ref (59)] := by
    unfold L_X12_does_122 at h
    refine zx_iconst (pc := 122) (v := 0) G (z_dec T_X12_does_ok 73 (122, .iconst 0, 1) rfl) rfl ?_
    exact L_X12_does_123_ok G hr hlk hI f_l0 (Or.inl rfl) f_s1 h
set_option maxRecDepth 100000 in
set_option maxHeartbeats 4000000 in
theorem L_X12_does_107_ok {p : Program} {l : Launch} {e : Env} {s : State} {m : MethodId} {args : Array Value} {below : List Frame} {meth : Method} {c : Code} {D : va_G} {A : Nat → Prop} {ρ : z_A} {kd : z_K} {q : z_Q} {μ : z_M} {K : z_M → Prop} {v1 : Int32} {v2 : Int32} {v3 : Int32} {t0 : Int32} (G : z_G p c cX12_does s m args RX12 4 D) (hr : meth.sig.returnType = (Option.none : Option Jvm.ClassFile.FieldType)) (hlk : meth.locks = false) (hI : z_I kd q) (f_l0 : kd 0 = some (.inl 12)) (f_s1 : kd 59 = some (.inr (2, 200))) (h : L_X12_does_107 K v1 v2 v3 t0 μ) : z_X p l e rm_X12_does s m args below meth c 4 D A (MQ below (z_Qn D A ρ kd (z_Kv q K)) args s 0 0 A) 0 0 ρ kd q μ 107 [(0, .ref (0)), (1, .int (v1)), (2, .int (v2)), (3, .int (v3))] [.int (t0), .ref (59)] := by
    unfold L_X12_does_107 at h
    refine zx_aload_n (pc := 107) G (some (0)) 0 rfl rfl (z_dec T_X12_does_ok 64 (107, .aload_n 0, 1) rfl) ?_
    refine zx_getF (pc := 108) (b := 58) G gf_RX12_123 rfl f_l0 (zq_12_57 hI f_l0) (z_dec T_X12_does_ok 65 (108, .getfield 123, 3) rfl) ?_
    refine zx_iload_n (pc := 111) G 3 rfl rfl (z_dec T_X12_does_ok 66 (111, .iload_n 3, 1) rfl) ?_
    obtain ⟨c1, h⟩ := h
    refine zx_lald (pc := 112) G (zk_12_57 hI f_l0) c1 (z_dec T_X12_does_ok 67 (112, .laload, 1) rfl) ?_
    refine zx_lconst (pc := 113) (v := 0) G (z_dec T_X12_does_ok 68 (113, .lconst 0, 1) rfl) rfl ?_
    refine zx_lcmp_ne (pc := 114) (tgt := 122) G rfl (z_dec T_X12_does_ok 69 (114, .lcmp, 1) rfl) (z_dec T_X12_does_ok 70 (115, .ifCond .ne 7, 3) rfl) (fun hc => ?_) (fun hc => ?_)
    · replace h := z_neg hc h
      exact L_X12_does_122_ok G hr hlk hI f_l0 f_s1 h
    · replace h := z_pos hc h
      refine zx_iconst (pc := 118) (v := 1) G (z_dec T_X12_does_ok 71 (118, .iconst 1, 1) rfl) rfl ?_
      refine zx_goto (pc := 119) (tgt := 123) G rfl (z_dec T_X12_does_ok 72 (119, .goto 4, 3) rfl) ?_
      exact L_X12_does_123_ok G hr hlk hI f_l0 (Or.inr rfl) f_s1 h
set_option maxRecDepth 100000 in
set_option maxHeartbeats 4000000 in
theorem met_X12_does (l : Launch) (D : va_G) (ρ : z_A) (kd : z_K) (q : z_Q) (μ : z_M) (sz : Nat) (a1 : Int32) (a2 : Int32) (K : z_M → Prop) (hI : z_I kd q) (h_o : kd 0 = some (.inl 12)) (h : C_X12_does a1 a2 μ K) : Met l yX12_does (z_ws yX12_does cX12_does 4 (Option.none : Option Jvm.ClassFile.FieldType)) rm_X12_does (z_Pc D ρ kd q μ sz [.ref (0), .int (a1), .int (a2)]) (z_Qn D (z_Rg ρ sz) ρ kd (z_Kv q K)) 0 0 (z_Rg ρ sz) := by
  refine z_met (rm := rm_X12_does) (by decide) (Nat.le_of_ble_eq_true rfl) (fun p e s m args below meth c G hr hlk => ?_)
  unfold C_X12_does at h
  show z_X _ _ _ _ _ _ _ _ _ _ _ _ _ _ _ _ _ _ _ _ _ [(0, .ref (0)), (1, .int (a1)), (2, .int (a2))] _
  refine zx_iload_n (pc := 0) G 2 rfl rfl (z_dec T_X12_does_ok 0 (0, .iload_n 2, 1) rfl) ?_
  refine zx_iconst (pc := 1) (v := 1) G (z_dec T_X12_does_ok 1 (1, .iconst 1, 1) rfl) rfl ?_
  refine zx_iadd (pc := 2) G  (z_dec T_X12_does_ok 2 (2, .iadd, 1) rfl) ?_
  refine zx_istore_n (pc := 3) (lv' := [(3, .int (a2 + ((1 : Int32)))), (0, .ref (0)), (1, .int (a1)), (2, .int (a2))]) G rfl (Nat.le_of_ble_eq_true rfl) rfl (z_dec T_X12_does_ok 3 (3, .istore_n 3, 1) rfl) ?_
  refine zx_iload_n (pc := 4) G 2 rfl rfl (z_dec T_X12_does_ok 4 (4, .iload_n 1, 1) rfl) ?_
  refine zx_bipush (pc := 5) (v := 38) G (z_dec T_X12_does_ok 5 (5, .bipush 38, 2) rfl) rfl ?_
  refine zx_icmp_eq (pc := 7) (tgt := 16) G rfl (z_dec T_X12_does_ok 6 (7, .if_icmp .eq 9, 3) rfl) (fun hc => ?_) (fun hc => ?_)
  · replace h := z_pos hc h
    refine zx_sub (lv' := [(0, .ref (0)), (1, .int (a1)), (2, .int (a2)), (3, .int (a2 + ((1 : Int32))))]) [1, 2, 3, 0] rfl ?_
    exact L_X12_does_16_ok G hr hlk hI h_o h
  · replace h := z_neg hc h
    refine zx_iload_n (pc := 10) G 2 rfl rfl (z_dec T_X12_does_ok 7 (10, .iload_n 1, 1) rfl) ?_
    refine zx_bipush (pc := 11) (v := 124) G (z_dec T_X12_does_ok 8 (11, .bipush 124, 2) rfl) rfl ?_
    refine zx_icmp_ne (pc := 13) (tgt := 72) G rfl (z_dec T_X12_does_ok 9 (13, .if_icmp .ne 59, 3) rfl) (fun hc => ?_) (fun hc => ?_)
    · replace h := z_neg hc h
      refine zx_aload_n (pc := 72) G (some (0)) 1 rfl rfl (z_dec T_X12_does_ok 45 (72, .aload_n 0, 1) rfl) ?_
      refine zx_getF (pc := 73) (b := 59) G gf_RX12_127 rfl h_o (zq_12_58 hI h_o) (z_dec T_X12_does_ok 46 (73, .getfield 127, 3) rfl) ?_
      refine zx_iload_n (pc := 76) G 3 rfl rfl (z_dec T_X12_does_ok 47 (76, .iload_n 2, 1) rfl) ?_
      refine zx_aload_n (pc := 77) G (some (0)) 1 rfl rfl (z_dec T_X12_does_ok 48 (77, .aload_n 0, 1) rfl) ?_
      refine zx_getF (pc := 78) (b := 59) G gf_RX12_127 rfl h_o (zq_12_58 hI h_o) (z_dec T_X12_does_ok 49 (78, .getfield 127, 3) rfl) ?_
      refine zx_iload_n (pc := 81) G 3 rfl rfl (z_dec T_X12_does_ok 50 (81, .iload_n 2, 1) rfl) ?_
      obtain ⟨c1, h⟩ := h
      refine zx_zald (pc := 82) G (zk_12_58 hI h_o) c1 (z_dec T_X12_does_ok 51 (82, .baload, 1) rfl) ?_
      refine zx_if_ne (pc := 83) (tgt := 118) G rfl (z_dec T_X12_does_ok 52 (83, .ifCond .ne 35, 3) rfl) (fun hc => ?_) (fun hc => ?_)
      · replace h := z_neg hc h
        refine zx_iconst (pc := 118) (v := 1) G (z_dec T_X12_does_ok 71 (118, .iconst 1, 1) rfl) rfl ?_
        refine zx_goto (pc := 119) (tgt := 123) G rfl (z_dec T_X12_does_ok 72 (119, .goto 4, 3) rfl) ?_
        refine zx_sub (lv' := [(0, .ref (0)), (1, .int (a1)), (2, .int (a2)), (3, .int (a2 + ((1 : Int32))))]) [1, 2, 3, 0] rfl ?_
        exact L_X12_does_123_ok G hr hlk hI h_o (Or.inr rfl) (zk_12_58 hI h_o) h
      · replace h := z_pos hc h
        refine zx_aload_n (pc := 86) G (some (0)) 1 rfl rfl (z_dec T_X12_does_ok 53 (86, .aload_n 0, 1) rfl) ?_
        refine zx_getF (pc := 87) (b := 59) G gf_RX12_127 rfl h_o (zq_12_58 hI h_o) (z_dec T_X12_does_ok 54 (87, .getfield 127, 3) rfl) ?_
        refine zx_iload_n (pc := 90) G 0 rfl rfl (z_dec T_X12_does_ok 55 (90, .iload_n 3, 1) rfl) ?_
        obtain ⟨c2, h⟩ := h
        refine zx_zald (pc := 91) G (zk_12_58 hI h_o) c2 (z_dec T_X12_does_ok 56 (91, .baload, 1) rfl) ?_
        refine zx_if_ne (pc := 92) (tgt := 118) G rfl (z_dec T_X12_does_ok 57 (92, .ifCond .ne 26, 3) rfl) (fun hc => ?_) (fun hc => ?_)
        · replace h := z_neg hc h
          refine zx_iconst (pc := 118) (v := 1) G (z_dec T_X12_does_ok 71 (118, .iconst 1, 1) rfl) rfl ?_
          refine zx_goto (pc := 119) (tgt := 123) G rfl (z_dec T_X12_does_ok 72 (119, .goto 4, 3) rfl) ?_
          refine zx_sub (lv' := [(0, .ref (0)), (1, .int (a1)), (2, .int (a2)), (3, .int (a2 + ((1 : Int32))))]) [1, 2, 3, 0] rfl ?_
          exact L_X12_does_123_ok G hr hlk hI h_o (Or.inr rfl) (zk_12_58 hI h_o) h
        · replace h := z_pos hc h
          refine zx_iload_n (pc := 95) G 2 rfl rfl (z_dec T_X12_does_ok 58 (95, .iload_n 1, 1) rfl) ?_
          refine zx_bipush (pc := 96) (v := 47) G (z_dec T_X12_does_ok 59 (96, .bipush 47, 2) rfl) rfl ?_
          refine zx_icmp_eq (pc := 98) (tgt := 107) G rfl (z_dec T_X12_does_ok 60 (98, .if_icmp .eq 9, 3) rfl) (fun hc => ?_) (fun hc => ?_)
          · replace h := z_pos hc h
            refine zx_sub (lv' := [(0, .ref (0)), (1, .int (a1)), (2, .int (a2)), (3, .int (a2 + ((1 : Int32))))]) [1, 2, 3, 0] rfl ?_
            exact L_X12_does_107_ok G hr hlk hI h_o (zk_12_58 hI h_o) h
          · replace h := z_neg hc h
            refine zx_iload_n (pc := 101) G 2 rfl rfl (z_dec T_X12_does_ok 61 (101, .iload_n 1, 1) rfl) ?_
            refine zx_bipush (pc := 102) (v := 37) G (z_dec T_X12_does_ok 62 (102, .bipush 37, 2) rfl) rfl ?_
            refine zx_icmp_ne (pc := 104) (tgt := 122) G rfl (z_dec T_X12_does_ok 63 (104, .if_icmp .ne 18, 3) rfl) (fun hc => ?_) (fun hc => ?_)
            · replace h := z_neg hc h
              refine zx_sub (lv' := [(0, .ref (0)), (1, .int (a1)), (2, .int (a2)), (3, .int (a2 + ((1 : Int32))))]) [1, 2, 3, 0] rfl ?_
              exact L_X12_does_122_ok G hr hlk hI h_o (zk_12_58 hI h_o) h
            · replace h := z_pos hc h
              refine zx_sub (lv' := [(0, .ref (0)), (1, .int (a1)), (2, .int (a2)), (3, .int (a2 + ((1 : Int32))))]) [1, 2, 3, 0] rfl ?_
              exact L_X12_does_107_ok G hr hlk hI h_o (zk_12_58 hI h_o) h
    · replace h := z_pos hc h
      refine zx_sub (lv' := [(0, .ref (0)), (1, .int (a1)), (2, .int (a2)), (3, .int (a2 + ((1 : Int32))))]) [1, 2, 3, 0] rfl ?_
      exact L_X12_does_16_ok G hr hlk hI h_o h
abbrev rm_X12_isToWin : Room := { frames := 0, cells := 0, slots := 0, locals := 0 }
set_option maxRecDepth 100000 in
set_option maxHeartbeats 4000000 in
theorem met_X12_isToWin (l : Launch) (D : va_G) (ρ : z_A) (kd : z_K) (q : z_Q) (μ : z_M) (sz : Nat) (a1 : Int32) (K : Int32 → z_M → Prop) (hI : z_I kd q) (h_o : kd 0 = some (.inl 12)) (h : C_X12_isToWin a1 μ K) : Met l yX12_isToWin (z_ws yX12_isToWin cX12_isToWin 2 (Option.some Jvm.ClassFile.FieldType.boolean)) rm_X12_isToWin (z_Pc D ρ kd q μ sz [.ref (0), .int (a1)]) (z_Qn D (z_Rg ρ sz) ρ kd (z_Kz q K)) 0 0 (z_Rg ρ sz) := by
  refine z_met (rm := rm_X12_isToWin) (by decide) (Nat.le_of_ble_eq_true rfl) (fun p e s m args below meth c G hr hlk => ?_)
  unfold C_X12_isToWin at h
  show z_X _ _ _ _ _ _ _ _ _ _ _ _ _ _ _ _ _ _ _ _ _ [(0, .ref (0)), (1, .int (a1))] _
  refine zx_aload_n (pc := 0) G (some (0)) 0 rfl rfl (z_dec T_X12_isToWin_ok 0 (0, .aload_n 0, 1) rfl) ?_
  refine zx_getF (pc := 1) (b := 22) G gf_RX12_57 rfl h_o (zq_12_21 hI h_o) (z_dec T_X12_isToWin_ok 1 (1, .getfield 57, 3) rfl) ?_
  refine zx_iload_n (pc := 4) G 1 rfl rfl (z_dec T_X12_isToWin_ok 2 (4, .iload_n 1, 1) rfl) ?_
  obtain ⟨c1, h⟩ := h
  refine zx_iald (pc := 5) G (zk_12_21 hI h_o) c1 (z_dec T_X12_isToWin_ok 3 (5, .iaload, 1) rfl) ?_
  refine zx_if_eq (pc := 6) (tgt := 19) G rfl (z_dec T_X12_isToWin_ok 4 (6, .ifCond .eq 13, 3) rfl) (fun hc => ?_) (fun hc => ?_)
  · replace h := z_pos hc h
    refine zx_iconst (pc := 19) (v := 1) G (z_dec T_X12_isToWin_ok 11 (19, .iconst 1, 1) rfl) rfl ?_
    refine zx_goto (pc := 20) (tgt := 24) G rfl (z_dec T_X12_isToWin_ok 12 (20, .goto 4, 3) rfl) ?_
    exact zx_zret (pc := 24) G hr hlk (Nat.le_refl _) (Nat.le_refl _) (Or.inr rfl) (z_dec T_X12_isToWin_ok 14 (24, .ireturn, 1) rfl) ⟨rfl, _, rfl, (Or.inr rfl), h⟩
  · replace h := z_neg hc h
    refine zx_aload_n (pc := 9) G (some (0)) 0 rfl rfl (z_dec T_X12_isToWin_ok 5 (9, .aload_n 0, 1) rfl) ?_
    refine zx_getF (pc := 10) (b := 22) G gf_RX12_57 rfl h_o (zq_12_21 hI h_o) (z_dec T_X12_isToWin_ok 6 (10, .getfield 57, 3) rfl) ?_
    refine zx_iload_n (pc := 13) G 1 rfl rfl (z_dec T_X12_isToWin_ok 7 (13, .iload_n 1, 1) rfl) ?_
    refine zx_iald (pc := 14) G (zk_12_21 hI h_o) c1 (z_dec T_X12_isToWin_ok 8 (14, .iaload, 1) rfl) ?_
    refine zx_iconst (pc := 15) (v := 2) G (z_dec T_X12_isToWin_ok 9 (15, .iconst 2, 1) rfl) rfl ?_
    refine zx_icmp_ne (pc := 16) (tgt := 23) G rfl (z_dec T_X12_isToWin_ok 10 (16, .if_icmp .ne 7, 3) rfl) (fun hc => ?_) (fun hc => ?_)
    · replace h := z_neg hc h
      refine zx_iconst (pc := 23) (v := 0) G (z_dec T_X12_isToWin_ok 13 (23, .iconst 0, 1) rfl) rfl ?_
      exact zx_zret (pc := 24) G hr hlk (Nat.le_refl _) (Nat.le_refl _) (Or.inl rfl) (z_dec T_X12_isToWin_ok 14 (24, .ireturn, 1) rfl) ⟨rfl, _, rfl, (Or.inl rfl), h⟩
    · replace h := z_pos hc h
      refine zx_iconst (pc := 19) (v := 1) G (z_dec T_X12_isToWin_ok 11 (19, .iconst 1, 1) rfl) rfl ?_
      refine zx_goto (pc := 20) (tgt := 24) G rfl (z_dec T_X12_isToWin_ok 12 (20, .goto 4, 3) rfl) ?_
      exact zx_zret (pc := 24) G hr hlk (Nat.le_refl _) (Nat.le_refl _) (Or.inr rfl) (z_dec T_X12_isToWin_ok 14 (24, .ireturn, 1) rfl) ⟨rfl, _, rfl, (Or.inr rfl), h⟩
abbrev rm_X12_stakesOf : Room := { frames := 4, cells := 0, slots := 0, locals := 90 }
set_option maxRecDepth 100000 in
set_option maxHeartbeats 4000000 in
theorem B_X12_stakesOf_5_ok {p : Program} {l : Launch} {e : Env} {s : State} {m : MethodId} {args : Array Value} {below : List Frame} {meth : Method} {c : Code} {D : va_G} {A : Nat → Prop} {ρ : z_A} {kd : z_K} {q : z_Q} {μ : z_M} {K : Int32 → z_M → Prop} {P5 : Int32 → Int32 → Int32 → Int32 → z_M → Prop} {v1 : Int32} {v2 : Int32} {v3 : Int32} {v4 : Int32} (G : z_G p c cX12_stakesOf s m args RX12 5 D) (hr : meth.sig.returnType = (Option.some Jvm.ClassFile.FieldType.int)) (hlk : meth.locks = false) (hP5 : ∀ (v1 : Int32) (v2 : Int32) (v3 : Int32) (v4 : Int32) (μ : z_M), P5 v1 v2 v3 v4 μ → (kd 0 = some (.inl 12)) → z_X p l e rm_X12_stakesOf s m args below meth c 5 D A (MQ below (z_Qn D A ρ kd (z_Ki q K)) args s 0 0 A) 0 0 ρ kd q μ 5 [(0, .ref (0)), (1, .int (v1)), (2, .int (v2)), (3, .int (v3)), (4, .int (v4))] []) (hI : z_I kd q) (f_l0 : kd 0 = some (.inl 12)) (h : B_X12_stakesOf_5 K P5 v1 v2 v3 v4 μ) : z_X p l e rm_X12_stakesOf s m args below meth c 5 D A (MQ below (z_Qn D A ρ kd (z_Ki q K)) args s 0 0 A) 0 0 ρ kd q μ 5 [(0, .ref (0)), (1, .int (v1)), (2, .int (v2)), (3, .int (v3)), (4, .int (v4))] [] := by
    unfold B_X12_stakesOf_5 at h
    refine zx_iload (pc := 5) G 4 rfl (z_dec T_X12_stakesOf_ok 4 (5, .iload 4, 2) rfl) ?_
    refine zx_aload_n (pc := 7) G (some (0)) 0 rfl rfl (z_dec T_X12_stakesOf_ok 5 (7, .aload_n 0, 1) rfl) ?_
    refine zx_getI (pc := 8) G gf_RX12_196 rfl f_l0 (z_dec T_X12_stakesOf_ok 6 (8, .getfield 196, 3) rfl) ?_
    refine zx_icmp_ge (pc := 11) (tgt := 84) G rfl (z_dec T_X12_stakesOf_ok 7 (11, .if_icmp .ge 73, 3) rfl) (fun hc => ?_) (fun hc => ?_)
    · replace h := z_pos hc h
      refine zx_iload_n (pc := 84) G 3 rfl rfl (z_dec T_X12_stakesOf_ok 49 (84, .iload_n 3, 1) rfl) ?_
      exact zx_iret (pc := 85) G hr hlk (Nat.le_refl _) (Nat.le_refl _) (z_dec T_X12_stakesOf_ok 50 (85, .ireturn, 1) rfl) ⟨rfl, _, rfl, h⟩
    · replace h := z_neg hc h
      refine zx_aload_n (pc := 14) G (some (0)) 0 rfl rfl (z_dec T_X12_stakesOf_ok 8 (14, .aload_n 0, 1) rfl) ?_
      refine zx_getF (pc := 15) (b := 21) G gf_RX12_54 rfl f_l0 (zq_12_20 hI f_l0) (z_dec T_X12_stakesOf_ok 9 (15, .getfield 54, 3) rfl) ?_
      refine zx_iload (pc := 18) G 4 rfl (z_dec T_X12_stakesOf_ok 10 (18, .iload 4, 2) rfl) ?_
      obtain ⟨c1, h⟩ := h
      refine zx_iald (pc := 20) G (zk_12_20 hI f_l0) c1 (z_dec T_X12_stakesOf_ok 11 (20, .iaload, 1) rfl) ?_
      refine zx_iload_n (pc := 21) G 1 rfl rfl (z_dec T_X12_stakesOf_ok 12 (21, .iload_n 1, 1) rfl) ?_
      refine zx_icmp_ne (pc := 22) (tgt := 78) G rfl (z_dec T_X12_stakesOf_ok 13 (22, .if_icmp .ne 56, 3) rfl) (fun hc => ?_) (fun hc => ?_)
      · replace h := z_neg hc h
        refine zx_iinc (pc := 78) (v := v4 + 1) (lv' := [(4, .int (v4 + 1)), (0, .ref (0)), (1, .int (v1)), (2, .int (v2)), (3, .int (v3))]) G 4 rfl (z_inc (by decide)) (Nat.le_of_ble_eq_true rfl) rfl (z_dec T_X12_stakesOf_ok 47 (78, .iinc 4 1, 3) rfl) ?_
        refine zx_goto (pc := 81) (tgt := 5) G rfl (z_dec T_X12_stakesOf_ok 48 (81, .goto (-76), 3) rfl) ?_
        refine zx_sub (lv' := [(0, .ref (0)), (1, .int (v1)), (2, .int (v2)), (3, .int (v3)), (4, .int (v4 + 1))]) [1, 2, 3, 4, 0] rfl ?_
        exact hP5 _ _ _ _ _ h f_l0
      · replace h := z_pos hc h
        refine zx_aload_n (pc := 25) G (some (0)) 0 rfl rfl (z_dec T_X12_stakesOf_ok 14 (25, .aload_n 0, 1) rfl) ?_
        refine zx_iload (pc := 26) G 4 rfl (z_dec T_X12_stakesOf_ok 15 (26, .iload 4, 2) rfl) ?_
        refine zx_callV_zN (pc := 28) (rm := rm_X12_isToWin) G cw_RX12_223 ⟨Nat.le_of_ble_eq_true rfl, Nat.le_of_ble_eq_true rfl⟩ rfl rfl ⟨Nat.zero_le _, Nat.zero_le _⟩ f_l0 rfl (fun sz => (met_X12_isToWin l D ρ kd q μ sz v4 _ hI f_l0 h)) rfl rfl (Nat.le_of_ble_eq_true rfl) (z_dec T_X12_stakesOf_ok 16 (28, .invokevirtual 223, 3) rfl) (fun r3 μ2 hzr3 hn => ?_)
        clear h
        have h := hn
        clear hn
        refine zx_if_eq (pc := 31) (tgt := 78) G rfl (z_dec T_X12_stakesOf_ok 17 (31, .ifCond .eq 47, 3) rfl) (fun hc => ?_) (fun hc => ?_)
        · replace h := z_pos hc h
          refine zx_iinc (pc := 78) (v := v4 + 1) (lv' := [(4, .int (v4 + 1)), (0, .ref (0)), (1, .int (v1)), (2, .int (v2)), (3, .int (v3))]) G 4 rfl (z_inc (by decide)) (Nat.le_of_ble_eq_true rfl) rfl (z_dec T_X12_stakesOf_ok 47 (78, .iinc 4 1, 3) rfl) ?_
          refine zx_goto (pc := 81) (tgt := 5) G rfl (z_dec T_X12_stakesOf_ok 48 (81, .goto (-76), 3) rfl) ?_
          refine zx_sub (lv' := [(0, .ref (0)), (1, .int (v1)), (2, .int (v2)), (3, .int (v3)), (4, .int (v4 + 1))]) [1, 2, 3, 4, 0] rfl ?_
          exact hP5 _ _ _ _ _ h f_l0
        · replace h := z_neg hc h
          refine zx_aload_n (pc := 34) G (some (0)) 0 rfl rfl (z_dec T_X12_stakesOf_ok 18 (34, .aload_n 0, 1) rfl) ?_
          refine zx_getF (pc := 35) (b := 25) G gf_RX12_66 rfl f_l0 (zq_12_24 hI f_l0) (z_dec T_X12_stakesOf_ok 19 (35, .getfield 66, 3) rfl) ?_
          refine zx_iconst (pc := 38) (v := 3) G (z_dec T_X12_stakesOf_ok 20 (38, .iconst 3, 1) rfl) rfl ?_
          refine zx_iload (pc := 39) G 4 rfl (z_dec T_X12_stakesOf_ok 21 (39, .iload 4, 2) rfl) ?_
          refine zx_imul (pc := 41) G  (z_dec T_X12_stakesOf_ok 22 (41, .imul, 1) rfl) ?_
          refine zx_iload_n (pc := 42) G 2 rfl rfl (z_dec T_X12_stakesOf_ok 23 (42, .iload_n 2, 1) rfl) ?_
          refine zx_iadd (pc := 43) G  (z_dec T_X12_stakesOf_ok 24 (43, .iadd, 1) rfl) ?_
          obtain ⟨c4, h⟩ := h
          refine zx_iald (pc := 44) G (zk_12_24 hI f_l0) c4 (z_dec T_X12_stakesOf_ok 25 (44, .iaload, 1) rfl) ?_
          refine zx_iconst (pc := 45) (v := -1) G (z_dec T_X12_stakesOf_ok 26 (45, .iconst (-1), 1) rfl) rfl ?_
          refine zx_icmp_eq (pc := 46) (tgt := 78) G rfl (z_dec T_X12_stakesOf_ok 27 (46, .if_icmp .eq 32, 3) rfl) (fun hc => ?_) (fun hc => ?_)
          · replace h := z_pos hc h
            refine zx_iinc (pc := 78) (v := v4 + 1) (lv' := [(4, .int (v4 + 1)), (0, .ref (0)), (1, .int (v1)), (2, .int (v2)), (3, .int (v3))]) G 4 rfl (z_inc (by decide)) (Nat.le_of_ble_eq_true rfl) rfl (z_dec T_X12_stakesOf_ok 47 (78, .iinc 4 1, 3) rfl) ?_
            refine zx_goto (pc := 81) (tgt := 5) G rfl (z_dec T_X12_stakesOf_ok 48 (81, .goto (-76), 3) rfl) ?_
            refine zx_sub (lv' := [(0, .ref (0)), (1, .int (v1)), (2, .int (v2)), (3, .int (v3)), (4, .int (v4 + 1))]) [1, 2, 3, 4, 0] rfl ?_
            exact hP5 _ _ _ _ _ h f_l0
          · replace h := z_neg hc h
            refine zx_aload_n (pc := 49) G (some (0)) 0 rfl rfl (z_dec T_X12_stakesOf_ok 28 (49, .aload_n 0, 1) rfl) ?_
            refine zx_iload_n (pc := 50) G 2 rfl rfl (z_dec T_X12_stakesOf_ok 29 (50, .iload_n 2, 1) rfl) ?_
            refine zx_aload_n (pc := 51) G (some (0)) 0 rfl rfl (z_dec T_X12_stakesOf_ok 30 (51, .aload_n 0, 1) rfl) ?_
            refine zx_getF (pc := 52) (b := 25) G gf_RX12_66 rfl f_l0 (zq_12_24 hI f_l0) (z_dec T_X12_stakesOf_ok 31 (52, .getfield 66, 3) rfl) ?_
            refine zx_iconst (pc := 55) (v := 3) G (z_dec T_X12_stakesOf_ok 32 (55, .iconst 3, 1) rfl) rfl ?_
            refine zx_iload (pc := 56) G 4 rfl (z_dec T_X12_stakesOf_ok 33 (56, .iload 4, 2) rfl) ?_
            refine zx_imul (pc := 58) G  (z_dec T_X12_stakesOf_ok 34 (58, .imul, 1) rfl) ?_
            refine zx_iload_n (pc := 59) G 2 rfl rfl (z_dec T_X12_stakesOf_ok 35 (59, .iload_n 2, 1) rfl) ?_
            refine zx_iadd (pc := 60) G  (z_dec T_X12_stakesOf_ok 36 (60, .iadd, 1) rfl) ?_
            refine zx_iald (pc := 61) G (zk_12_24 hI f_l0) c4 (z_dec T_X12_stakesOf_ok 37 (61, .iaload, 1) rfl) ?_
            refine zx_callV_zN (pc := 62) (rm := rm_X12_runs) G cw_RX12_183 ⟨Nat.le_of_ble_eq_true rfl, Nat.le_of_ble_eq_true rfl⟩ rfl rfl ⟨Nat.zero_le _, Nat.zero_le _⟩ f_l0 rfl (fun sz => (met_X12_runs l D ρ kd q μ2 sz v2 (μ2.1 25 ((((3 : Int32)) * v4) + v2).toNatClampNeg) _ hI f_l0 h)) rfl rfl (Nat.le_of_ble_eq_true rfl) (z_dec T_X12_stakesOf_ok 38 (62, .invokevirtual 183, 3) rfl) (fun r6 μ5 hzr6 hn => ?_)
            clear h
            have h := hn
            clear hn
            refine zx_if_eq (pc := 65) (tgt := 78) G rfl (z_dec T_X12_stakesOf_ok 39 (65, .ifCond .eq 13, 3) rfl) (fun hc => ?_) (fun hc => ?_)
            · replace h := z_pos hc h
              refine zx_iinc (pc := 78) (v := v4 + 1) (lv' := [(4, .int (v4 + 1)), (0, .ref (0)), (1, .int (v1)), (2, .int (v2)), (3, .int (v3))]) G 4 rfl (z_inc (by decide)) (Nat.le_of_ble_eq_true rfl) rfl (z_dec T_X12_stakesOf_ok 47 (78, .iinc 4 1, 3) rfl) ?_
              refine zx_goto (pc := 81) (tgt := 5) G rfl (z_dec T_X12_stakesOf_ok 48 (81, .goto (-76), 3) rfl) ?_
              refine zx_sub (lv' := [(0, .ref (0)), (1, .int (v1)), (2, .int (v2)), (3, .int (v3)), (4, .int (v4 + 1))]) [1, 2, 3, 4, 0] rfl ?_
              exact hP5 _ _ _ _ _ h f_l0
            · replace h := z_neg hc h
              refine zx_iload_n (pc := 68) G 3 rfl rfl (z_dec T_X12_stakesOf_ok 40 (68, .iload_n 3, 1) rfl) ?_
              refine zx_aload_n (pc := 69) G (some (0)) 0 rfl rfl (z_dec T_X12_stakesOf_ok 41 (69, .aload_n 0, 1) rfl) ?_
              refine zx_getF (pc := 70) (b := 23) G gf_RX12_60 rfl f_l0 (zq_12_22 hI f_l0) (z_dec T_X12_stakesOf_ok 42 (70, .getfield 60, 3) rfl) ?_
              refine zx_iload (pc := 73) G 4 rfl (z_dec T_X12_stakesOf_ok 43 (73, .iload 4, 2) rfl) ?_
              refine zx_iald (pc := 75) G (zk_12_22 hI f_l0) c1 (z_dec T_X12_stakesOf_ok 44 (75, .iaload, 1) rfl) ?_
              refine zx_iadd (pc := 76) G  (z_dec T_X12_stakesOf_ok 45 (76, .iadd, 1) rfl) ?_
              refine zx_istore_n (pc := 77) (lv' := [(3, .int (v3 + (μ5.1 23 v4.toNatClampNeg))), (0, .ref (0)), (1, .int (v1)), (2, .int (v2)), (4, .int (v4))]) G rfl (Nat.le_of_ble_eq_true rfl) rfl (z_dec T_X12_stakesOf_ok 46 (77, .istore_n 3, 1) rfl) ?_
              refine zx_iinc (pc := 78) (v := v4 + 1) (lv' := [(4, .int (v4 + 1)), (3, .int (v3 + (μ5.1 23 v4.toNatClampNeg))), (0, .ref (0)), (1, .int (v1)), (2, .int (v2))]) G 4 rfl (z_inc (by decide)) (Nat.le_of_ble_eq_true rfl) rfl (z_dec T_X12_stakesOf_ok 47 (78, .iinc 4 1, 3) rfl) ?_
              refine zx_goto (pc := 81) (tgt := 5) G rfl (z_dec T_X12_stakesOf_ok 48 (81, .goto (-76), 3) rfl) ?_
              refine zx_sub (lv' := [(0, .ref (0)), (1, .int (v1)), (2, .int (v2)), (3, .int (v3 + (μ5.1 23 v4.toNatClampNeg))), (4, .int (v4 + 1))]) [2, 3, 4, 1, 0] rfl ?_
              exact hP5 _ _ _ _ _ h f_l0
set_option maxRecDepth 100000 in
set_option maxHeartbeats 4000000 in
theorem L_X12_stakesOf_5_ok {p : Program} {l : Launch} {e : Env} {s : State} {m : MethodId} {args : Array Value} {below : List Frame} {meth : Method} {c : Code} {D : va_G} {A : Nat → Prop} {ρ : z_A} {kd : z_K} {q : z_Q} {μ : z_M} {K : Int32 → z_M → Prop} {v1 : Int32} {v2 : Int32} {v3 : Int32} {v4 : Int32} (G : z_G p c cX12_stakesOf s m args RX12 5 D) (hr : meth.sig.returnType = (Option.some Jvm.ClassFile.FieldType.int)) (hlk : meth.locks = false) (hI : z_I kd q) (f_l0 : kd 0 = some (.inl 12)) (h : L_X12_stakesOf_5 K v1 v2 v3 v4 μ) : z_X p l e rm_X12_stakesOf s m args below meth c 5 D A (MQ below (z_Qn D A ρ kd (z_Ki q K)) args s 0 0 A) 0 0 ρ kd q μ 5 [(0, .ref (0)), (1, .int (v1)), (2, .int (v2)), (3, .int (v3)), (4, .int (v4))] [] :=
  h (fun (v1 : Int32) (v2 : Int32) (v3 : Int32) (v4 : Int32) (μ : z_M) => (kd 0 = some (.inl 12)) → z_X p l e rm_X12_stakesOf s m args below meth c 5 D A (MQ below (z_Qn D A ρ kd (z_Ki q K)) args s 0 0 A) 0 0 ρ kd q μ 5 [(0, .ref (0)), (1, .int (v1)), (2, .int (v2)), (3, .int (v3)), (4, .int (v4))] []) (fun v1 v2 v3 v4 μ h f_l0 => B_X12_stakesOf_5_ok G hr hlk (fun _ _ _ _ _ h => h) hI f_l0 h) f_l0
set_option maxRecDepth 100000 in
set_option maxHeartbeats 4000000 in
theorem met_X12_stakesOf (l : Launch) (D : va_G) (ρ : z_A) (kd : z_K) (q : z_Q) (μ : z_M) (sz : Nat) (a1 : Int32) (a2 : Int32) (K : Int32 → z_M → Prop) (hI : z_I kd q) (h_o : kd 0 = some (.inl 12)) (h : C_X12_stakesOf a1 a2 μ K) : Met l yX12_stakesOf (z_ws yX12_stakesOf cX12_stakesOf 5 (Option.some Jvm.ClassFile.FieldType.int)) rm_X12_stakesOf (z_Pc D ρ kd q μ sz [.ref (0), .int (a1), .int (a2)]) (z_Qn D (z_Rg ρ sz) ρ kd (z_Ki q K)) 0 0 (z_Rg ρ sz) := by
  refine z_met (rm := rm_X12_stakesOf) (by decide) (Nat.le_of_ble_eq_true rfl) (fun p e s m args below meth c G hr hlk => ?_)
  unfold C_X12_stakesOf at h
  show z_X _ _ _ _ _ _ _ _ _ _ _ _ _ _ _ _ _ _ _ _ _ [(0, .ref (0)), (1, .int (a1)), (2, .int (a2))] _
  refine zx_iconst (pc := 0) (v := 0) G (z_dec T_X12_stakesOf_ok 0 (0, .iconst 0, 1) rfl) rfl ?_
  refine zx_istore_n (pc := 1) (lv' := [(3, .int ((0 : Int32))), (0, .ref (0)), (1, .int (a1)), (2, .int (a2))]) G rfl (Nat.le_of_ble_eq_true rfl) rfl (z_dec T_X12_stakesOf_ok 1 (1, .istore_n 3, 1) rfl) ?_
  refine zx_iconst (pc := 2) (v := 0) G (z_dec T_X12_stakesOf_ok 2 (2, .iconst 0, 1) rfl) rfl ?_
  refine zx_istore (pc := 3) (lv' := [(4, .int ((0 : Int32))), (3, .int ((0 : Int32))), (0, .ref (0)), (1, .int (a1)), (2, .int (a2))]) G (Nat.le_of_ble_eq_true rfl) rfl (z_dec T_X12_stakesOf_ok 3 (3, .istore 4, 2) rfl) ?_
  refine zx_sub (lv' := [(0, .ref (0)), (1, .int (a1)), (2, .int (a2)), (3, .int ((0 : Int32))), (4, .int ((0 : Int32)))]) [2, 3, 4, 1, 0] rfl ?_
  exact L_X12_stakesOf_5_ok G hr hlk hI h_o h
abbrev rm_X12_wonBy : Room := { frames := 0, cells := 0, slots := 0, locals := 0 }
set_option maxRecDepth 100000 in
set_option maxHeartbeats 4000000 in
theorem met_X12_wonBy (l : Launch) (D : va_G) (ρ : z_A) (kd : z_K) (q : z_Q) (μ : z_M) (sz : Nat) (a1 : Int32) (a2 : Int32) (K : Int32 → z_M → Prop) (hI : z_I kd q) (h_o : kd 0 = some (.inl 12)) (h : C_X12_wonBy a1 a2 μ K) : Met l yX12_wonBy (z_ws yX12_wonBy cX12_wonBy 3 (Option.some Jvm.ClassFile.FieldType.int)) rm_X12_wonBy (z_Pc D ρ kd q μ sz [.ref (0), .int (a1), .int (a2)]) (z_Qn D (z_Rg ρ sz) ρ kd (z_Ki q K)) 0 0 (z_Rg ρ sz) := by
  refine z_met (rm := rm_X12_wonBy) (by decide) (Nat.le_of_ble_eq_true rfl) (fun p e s m args below meth c G hr hlk => ?_)
  unfold C_X12_wonBy at h
  show z_X _ _ _ _ _ _ _ _ _ _ _ _ _ _ _ _ _ _ _ _ _ [(0, .ref (0)), (1, .int (a1)), (2, .int (a2))] _
  refine zx_iload_n (pc := 0) G 1 rfl rfl (z_dec T_X12_wonBy_ok 0 (0, .iload_n 1, 1) rfl) ?_
  refine zx_i2l (pc := 1) G  (z_dec T_X12_wonBy_ok 1 (1, .i2l, 1) rfl) ?_
  refine zx_aload_n (pc := 2) G (some (0)) 0 rfl rfl (z_dec T_X12_wonBy_ok 2 (2, .aload_n 0, 1) rfl) ?_
  refine zx_getF (pc := 3) (b := 8) G gf_RX12_13 rfl h_o (zq_12_7 hI h_o) (z_dec T_X12_wonBy_ok 3 (3, .getfield 13, 3) rfl) ?_
  refine zx_iload_n (pc := 6) G 2 rfl rfl (z_dec T_X12_wonBy_ok 4 (6, .iload_n 2, 1) rfl) ?_
  obtain ⟨c1, h⟩ := h
  refine zx_iald (pc := 7) G (zk_12_7 hI h_o) c1 (z_dec T_X12_wonBy_ok 5 (7, .iaload, 1) rfl) ?_
  refine zx_i2l (pc := 8) G  (z_dec T_X12_wonBy_ok 6 (8, .i2l, 1) rfl) ?_
  refine zx_lmul (pc := 9) G  (z_dec T_X12_wonBy_ok 7 (9, .lmul, 1) rfl) ?_
  refine zx_aload_n (pc := 10) G (some (0)) 0 rfl rfl (z_dec T_X12_wonBy_ok 8 (10, .aload_n 0, 1) rfl) ?_
  refine zx_getF (pc := 11) (b := 9) G gf_RX12_17 rfl h_o (zq_12_8 hI h_o) (z_dec T_X12_wonBy_ok 9 (11, .getfield 17, 3) rfl) ?_
  refine zx_iload_n (pc := 14) G 2 rfl rfl (z_dec T_X12_wonBy_ok 10 (14, .iload_n 2, 1) rfl) ?_
  refine zx_iald (pc := 15) G (zk_12_8 hI h_o) c1 (z_dec T_X12_wonBy_ok 11 (15, .iaload, 1) rfl) ?_
  refine zx_i2l (pc := 16) G  (z_dec T_X12_wonBy_ok 12 (16, .i2l, 1) rfl) ?_
  obtain ⟨c2, h⟩ := h
  refine zx_ldiv (pc := 17) G c2 (z_dec T_X12_wonBy_ok 13 (17, .ldiv, 1) rfl) ?_
  refine zx_l2i (pc := 18) G  (z_dec T_X12_wonBy_ok 14 (18, .l2i, 1) rfl) ?_
  exact zx_iret (pc := 19) G hr hlk (Nat.le_refl _) (Nat.le_refl _) (z_dec T_X12_wonBy_ok 15 (19, .ireturn, 1) rfl) ⟨rfl, _, rfl, h⟩
abbrev rm_X12_balanceAt : Room := { frames := 5, cells := 0, slots := 0, locals := 114 }
set_option maxRecDepth 100000 in
set_option maxHeartbeats 4000000 in
theorem B_X12_balanceAt_11_ok {p : Program} {l : Launch} {e : Env} {s : State} {m : MethodId} {args : Array Value} {below : List Frame} {meth : Method} {c : Code} {D : va_G} {A : Nat → Prop} {ρ : z_A} {kd : z_K} {q : z_Q} {μ : z_M} {K : Int32 → z_M → Prop} {P11 : Int32 → Int32 → Int32 → Int32 → Int32 → z_M → Prop} {v1 : Int32} {v2 : Int32} {v3 : Int32} {v4 : Int32} {v5 : Int32} (G : z_G p c cX12_balanceAt s m args RX12 6 D) (hr : meth.sig.returnType = (Option.some Jvm.ClassFile.FieldType.int)) (hlk : meth.locks = false) (hP11 : ∀ (v1 : Int32) (v2 : Int32) (v3 : Int32) (v4 : Int32) (v5 : Int32) (μ : z_M), P11 v1 v2 v3 v4 v5 μ → (kd 0 = some (.inl 12)) → z_X p l e rm_X12_balanceAt s m args below meth c 6 D A (MQ below (z_Qn D A ρ kd (z_Ki q K)) args s 0 0 A) 0 0 ρ kd q μ 11 [(0, .ref (0)), (1, .int (v1)), (2, .int (v2)), (3, .int (v3)), (4, .int (v4)), (5, .int (v5))] []) (hI : z_I kd q) (f_l0 : kd 0 = some (.inl 12)) (h : B_X12_balanceAt_11 K P11 v1 v2 v3 v4 v5 μ) : z_X p l e rm_X12_balanceAt s m args below meth c 6 D A (MQ below (z_Qn D A ρ kd (z_Ki q K)) args s 0 0 A) 0 0 ρ kd q μ 11 [(0, .ref (0)), (1, .int (v1)), (2, .int (v2)), (3, .int (v3)), (4, .int (v4)), (5, .int (v5))] [] := by
    unfold B_X12_balanceAt_11 at h
    refine zx_iload (pc := 11) G 5 rfl (z_dec T_X12_balanceAt_ok 7 (11, .iload 5, 2) rfl) ?_
    refine zx_aload_n (pc := 13) G (some (0)) 0 rfl rfl (z_dec T_X12_balanceAt_ok 8 (13, .aload_n 0, 1) rfl) ?_
    refine zx_getI (pc := 14) G gf_RX12_196 rfl f_l0 (z_dec T_X12_balanceAt_ok 9 (14, .getfield 196, 3) rfl) ?_
    refine zx_icmp_ge (pc := 17) (tgt := 96) G rfl (z_dec T_X12_balanceAt_ok 10 (17, .if_icmp .ge 79, 3) rfl) (fun hc => ?_) (fun hc => ?_)
    · replace h := z_pos hc h
      refine zx_iload (pc := 96) G 4 rfl (z_dec T_X12_balanceAt_ok 55 (96, .iload 4, 2) rfl) ?_
      exact zx_iret (pc := 98) G hr hlk (Nat.le_refl _) (Nat.le_refl _) (z_dec T_X12_balanceAt_ok 56 (98, .ireturn, 1) rfl) ⟨rfl, _, rfl, h⟩
    · replace h := z_neg hc h
      refine zx_aload_n (pc := 20) G (some (0)) 0 rfl rfl (z_dec T_X12_balanceAt_ok 11 (20, .aload_n 0, 1) rfl) ?_
      refine zx_getF (pc := 21) (b := 21) G gf_RX12_54 rfl f_l0 (zq_12_20 hI f_l0) (z_dec T_X12_balanceAt_ok 12 (21, .getfield 54, 3) rfl) ?_
      refine zx_iload (pc := 24) G 5 rfl (z_dec T_X12_balanceAt_ok 13 (24, .iload 5, 2) rfl) ?_
      obtain ⟨c1, h⟩ := h
      refine zx_iald (pc := 26) G (zk_12_20 hI f_l0) c1 (z_dec T_X12_balanceAt_ok 14 (26, .iaload, 1) rfl) ?_
      refine zx_iload_n (pc := 27) G 1 rfl rfl (z_dec T_X12_balanceAt_ok 15 (27, .iload_n 1, 1) rfl) ?_
      refine zx_icmp_ne (pc := 28) (tgt := 90) G rfl (z_dec T_X12_balanceAt_ok 16 (28, .if_icmp .ne 62, 3) rfl) (fun hc => ?_) (fun hc => ?_)
      · replace h := z_neg hc h
        refine zx_iinc (pc := 90) (v := v5 + 1) (lv' := [(5, .int (v5 + 1)), (0, .ref (0)), (1, .int (v1)), (2, .int (v2)), (3, .int (v3)), (4, .int (v4))]) G 5 rfl (z_inc (by decide)) (Nat.le_of_ble_eq_true rfl) rfl (z_dec T_X12_balanceAt_ok 53 (90, .iinc 5 1, 3) rfl) ?_
        refine zx_goto (pc := 93) (tgt := 11) G rfl (z_dec T_X12_balanceAt_ok 54 (93, .goto (-82), 3) rfl) ?_
        refine zx_sub (lv' := [(0, .ref (0)), (1, .int (v1)), (2, .int (v2)), (3, .int (v3)), (4, .int (v4)), (5, .int (v5 + 1))]) [1, 2, 3, 4, 5, 0] rfl ?_
        exact hP11 _ _ _ _ _ _ h f_l0
      · replace h := z_pos hc h
        refine zx_aload_n (pc := 31) G (some (0)) 0 rfl rfl (z_dec T_X12_balanceAt_ok 17 (31, .aload_n 0, 1) rfl) ?_
        refine zx_iload (pc := 32) G 5 rfl (z_dec T_X12_balanceAt_ok 18 (32, .iload 5, 2) rfl) ?_
        refine zx_callV_zN (pc := 34) (rm := rm_X12_isToWin) G cw_RX12_223 ⟨Nat.le_of_ble_eq_true rfl, Nat.le_of_ble_eq_true rfl⟩ rfl rfl ⟨Nat.zero_le _, Nat.zero_le _⟩ f_l0 rfl (fun sz => (met_X12_isToWin l D ρ kd q μ sz v5 _ hI f_l0 h)) rfl rfl (Nat.le_of_ble_eq_true rfl) (z_dec T_X12_balanceAt_ok 19 (34, .invokevirtual 223, 3) rfl) (fun r3 μ2 hzr3 hn => ?_)
        clear h
        have h := hn
        clear hn
        refine zx_if_eq (pc := 37) (tgt := 90) G rfl (z_dec T_X12_balanceAt_ok 20 (37, .ifCond .eq 53, 3) rfl) (fun hc => ?_) (fun hc => ?_)
        · replace h := z_pos hc h
          refine zx_iinc (pc := 90) (v := v5 + 1) (lv' := [(5, .int (v5 + 1)), (0, .ref (0)), (1, .int (v1)), (2, .int (v2)), (3, .int (v3)), (4, .int (v4))]) G 5 rfl (z_inc (by decide)) (Nat.le_of_ble_eq_true rfl) rfl (z_dec T_X12_balanceAt_ok 53 (90, .iinc 5 1, 3) rfl) ?_
          refine zx_goto (pc := 93) (tgt := 11) G rfl (z_dec T_X12_balanceAt_ok 54 (93, .goto (-82), 3) rfl) ?_
          refine zx_sub (lv' := [(0, .ref (0)), (1, .int (v1)), (2, .int (v2)), (3, .int (v3)), (4, .int (v4)), (5, .int (v5 + 1))]) [1, 2, 3, 4, 5, 0] rfl ?_
          exact hP11 _ _ _ _ _ _ h f_l0
        · replace h := z_neg hc h
          refine zx_aload_n (pc := 40) G (some (0)) 0 rfl rfl (z_dec T_X12_balanceAt_ok 21 (40, .aload_n 0, 1) rfl) ?_
          refine zx_getF (pc := 41) (b := 25) G gf_RX12_66 rfl f_l0 (zq_12_24 hI f_l0) (z_dec T_X12_balanceAt_ok 22 (41, .getfield 66, 3) rfl) ?_
          refine zx_iconst (pc := 44) (v := 3) G (z_dec T_X12_balanceAt_ok 23 (44, .iconst 3, 1) rfl) rfl ?_
          refine zx_iload (pc := 45) G 5 rfl (z_dec T_X12_balanceAt_ok 24 (45, .iload 5, 2) rfl) ?_
          refine zx_imul (pc := 47) G  (z_dec T_X12_balanceAt_ok 25 (47, .imul, 1) rfl) ?_
          refine zx_iload_n (pc := 48) G 2 rfl rfl (z_dec T_X12_balanceAt_ok 26 (48, .iload_n 2, 1) rfl) ?_
          refine zx_iadd (pc := 49) G  (z_dec T_X12_balanceAt_ok 27 (49, .iadd, 1) rfl) ?_
          obtain ⟨c4, h⟩ := h
          refine zx_iald (pc := 50) G (zk_12_24 hI f_l0) c4 (z_dec T_X12_balanceAt_ok 28 (50, .iaload, 1) rfl) ?_
          refine zx_iload_n (pc := 51) G 3 rfl rfl (z_dec T_X12_balanceAt_ok 29 (51, .iload_n 3, 1) rfl) ?_
          refine zx_icmp_ne (pc := 52) (tgt := 90) G rfl (z_dec T_X12_balanceAt_ok 30 (52, .if_icmp .ne 38, 3) rfl) (fun hc => ?_) (fun hc => ?_)
          · replace h := z_neg hc h
            refine zx_iinc (pc := 90) (v := v5 + 1) (lv' := [(5, .int (v5 + 1)), (0, .ref (0)), (1, .int (v1)), (2, .int (v2)), (3, .int (v3)), (4, .int (v4))]) G 5 rfl (z_inc (by decide)) (Nat.le_of_ble_eq_true rfl) rfl (z_dec T_X12_balanceAt_ok 53 (90, .iinc 5 1, 3) rfl) ?_
            refine zx_goto (pc := 93) (tgt := 11) G rfl (z_dec T_X12_balanceAt_ok 54 (93, .goto (-82), 3) rfl) ?_
            refine zx_sub (lv' := [(0, .ref (0)), (1, .int (v1)), (2, .int (v2)), (3, .int (v3)), (4, .int (v4)), (5, .int (v5 + 1))]) [1, 2, 3, 4, 5, 0] rfl ?_
            exact hP11 _ _ _ _ _ _ h f_l0
          · replace h := z_pos hc h
            refine zx_iload (pc := 55) G 4 rfl (z_dec T_X12_balanceAt_ok 31 (55, .iload 4, 2) rfl) ?_
            refine zx_aload_n (pc := 57) G (some (0)) 0 rfl rfl (z_dec T_X12_balanceAt_ok 32 (57, .aload_n 0, 1) rfl) ?_
            refine zx_getF (pc := 58) (b := 23) G gf_RX12_60 rfl f_l0 (zq_12_22 hI f_l0) (z_dec T_X12_balanceAt_ok 33 (58, .getfield 60, 3) rfl) ?_
            refine zx_iload (pc := 61) G 5 rfl (z_dec T_X12_balanceAt_ok 34 (61, .iload 5, 2) rfl) ?_
            refine zx_iald (pc := 63) G (zk_12_22 hI f_l0) c1 (z_dec T_X12_balanceAt_ok 35 (63, .iaload, 1) rfl) ?_
            refine zx_aload_n (pc := 64) G (some (0)) 0 rfl rfl (z_dec T_X12_balanceAt_ok 36 (64, .aload_n 0, 1) rfl) ?_
            refine zx_aload_n (pc := 65) G (some (0)) 0 rfl rfl (z_dec T_X12_balanceAt_ok 37 (65, .aload_n 0, 1) rfl) ?_
            refine zx_getF (pc := 66) (b := 23) G gf_RX12_60 rfl f_l0 (zq_12_22 hI f_l0) (z_dec T_X12_balanceAt_ok 38 (66, .getfield 60, 3) rfl) ?_
            refine zx_iload (pc := 69) G 5 rfl (z_dec T_X12_balanceAt_ok 39 (69, .iload 5, 2) rfl) ?_
            refine zx_iald (pc := 71) G (zk_12_22 hI f_l0) c1 (z_dec T_X12_balanceAt_ok 40 (71, .iaload, 1) rfl) ?_
            refine zx_aload_n (pc := 72) G (some (0)) 0 rfl rfl (z_dec T_X12_balanceAt_ok 41 (72, .aload_n 0, 1) rfl) ?_
            refine zx_getF (pc := 73) (b := 26) G gf_RX12_69 rfl f_l0 (zq_12_25 hI f_l0) (z_dec T_X12_balanceAt_ok 42 (73, .getfield 69, 3) rfl) ?_
            refine zx_iconst (pc := 76) (v := 3) G (z_dec T_X12_balanceAt_ok 43 (76, .iconst 3, 1) rfl) rfl ?_
            refine zx_iload (pc := 77) G 5 rfl (z_dec T_X12_balanceAt_ok 44 (77, .iload 5, 2) rfl) ?_
            refine zx_imul (pc := 79) G  (z_dec T_X12_balanceAt_ok 45 (79, .imul, 1) rfl) ?_
            refine zx_iload_n (pc := 80) G 2 rfl rfl (z_dec T_X12_balanceAt_ok 46 (80, .iload_n 2, 1) rfl) ?_
            refine zx_iadd (pc := 81) G  (z_dec T_X12_balanceAt_ok 47 (81, .iadd, 1) rfl) ?_
            refine zx_iald (pc := 82) G (zk_12_25 hI f_l0) c4 (z_dec T_X12_balanceAt_ok 48 (82, .iaload, 1) rfl) ?_
            refine zx_callV_iN (pc := 83) (rm := rm_X12_wonBy) G cw_RX12_230 ⟨Nat.le_of_ble_eq_true rfl, Nat.le_of_ble_eq_true rfl⟩ rfl rfl ⟨Nat.zero_le _, Nat.zero_le _⟩ f_l0 rfl (fun sz => (met_X12_wonBy l D ρ kd q μ2 sz (μ2.1 23 v5.toNatClampNeg) (μ2.1 26 ((((3 : Int32)) * v5) + v2).toNatClampNeg) _ hI f_l0 h)) rfl rfl (Nat.le_of_ble_eq_true rfl) (z_dec T_X12_balanceAt_ok 49 (83, .invokevirtual 230, 3) rfl) (fun r6 μ5 hn => ?_)
            clear h
            have h := hn
            clear hn
            refine zx_iadd (pc := 86) G  (z_dec T_X12_balanceAt_ok 50 (86, .iadd, 1) rfl) ?_
            refine zx_isub (pc := 87) G  (z_dec T_X12_balanceAt_ok 51 (87, .isub, 1) rfl) ?_
            refine zx_istore (pc := 88) (lv' := [(4, .int (v4 - ((μ2.1 23 v5.toNatClampNeg) + r6))), (0, .ref (0)), (1, .int (v1)), (2, .int (v2)), (3, .int (v3)), (5, .int (v5))]) G (Nat.le_of_ble_eq_true rfl) rfl (z_dec T_X12_balanceAt_ok 52 (88, .istore 4, 2) rfl) ?_
            refine zx_iinc (pc := 90) (v := v5 + 1) (lv' := [(5, .int (v5 + 1)), (4, .int (v4 - ((μ2.1 23 v5.toNatClampNeg) + r6))), (0, .ref (0)), (1, .int (v1)), (2, .int (v2)), (3, .int (v3))]) G 5 rfl (z_inc (by decide)) (Nat.le_of_ble_eq_true rfl) rfl (z_dec T_X12_balanceAt_ok 53 (90, .iinc 5 1, 3) rfl) ?_
            refine zx_goto (pc := 93) (tgt := 11) G rfl (z_dec T_X12_balanceAt_ok 54 (93, .goto (-82), 3) rfl) ?_
            refine zx_sub (lv' := [(0, .ref (0)), (1, .int (v1)), (2, .int (v2)), (3, .int (v3)), (4, .int (v4 - ((μ2.1 23 v5.toNatClampNeg) + r6))), (5, .int (v5 + 1))]) [2, 3, 4, 5, 1, 0] rfl ?_
            exact hP11 _ _ _ _ _ _ h f_l0
set_option maxRecDepth 100000 in
set_option maxHeartbeats 4000000 in
theorem L_X12_balanceAt_11_ok {p : Program} {l : Launch} {e : Env} {s : State} {m : MethodId} {args : Array Value} {below : List Frame} {meth : Method} {c : Code} {D : va_G} {A : Nat → Prop} {ρ : z_A} {kd : z_K} {q : z_Q} {μ : z_M} {K : Int32 → z_M → Prop} {v1 : Int32} {v2 : Int32} {v3 : Int32} {v4 : Int32} {v5 : Int32} (G : z_G p c cX12_balanceAt s m args RX12 6 D) (hr : meth.sig.returnType = (Option.some Jvm.ClassFile.FieldType.int)) (hlk : meth.locks = false) (hI : z_I kd q) (f_l0 : kd 0 = some (.inl 12)) (h : L_X12_balanceAt_11 K v1 v2 v3 v4 v5 μ) : z_X p l e rm_X12_balanceAt s m args below meth c 6 D A (MQ below (z_Qn D A ρ kd (z_Ki q K)) args s 0 0 A) 0 0 ρ kd q μ 11 [(0, .ref (0)), (1, .int (v1)), (2, .int (v2)), (3, .int (v3)), (4, .int (v4)), (5, .int (v5))] [] :=
  h (fun (v1 : Int32) (v2 : Int32) (v3 : Int32) (v4 : Int32) (v5 : Int32) (μ : z_M) => (kd 0 = some (.inl 12)) → z_X p l e rm_X12_balanceAt s m args below meth c 6 D A (MQ below (z_Qn D A ρ kd (z_Ki q K)) args s 0 0 A) 0 0 ρ kd q μ 11 [(0, .ref (0)), (1, .int (v1)), (2, .int (v2)), (3, .int (v3)), (4, .int (v4)), (5, .int (v5))] []) (fun v1 v2 v3 v4 v5 μ h f_l0 => B_X12_balanceAt_11_ok G hr hlk (fun _ _ _ _ _ _ h => h) hI f_l0 h) f_l0
set_option maxRecDepth 100000 in
set_option maxHeartbeats 4000000 in
theorem met_X12_balanceAt (l : Launch) (D : va_G) (ρ : z_A) (kd : z_K) (q : z_Q) (μ : z_M) (sz : Nat) (a1 : Int32) (a2 : Int32) (a3 : Int32) (K : Int32 → z_M → Prop) (hI : z_I kd q) (h_o : kd 0 = some (.inl 12)) (h : C_X12_balanceAt a1 a2 a3 μ K) : Met l yX12_balanceAt (z_ws yX12_balanceAt cX12_balanceAt 6 (Option.some Jvm.ClassFile.FieldType.int)) rm_X12_balanceAt (z_Pc D ρ kd q μ sz [.ref (0), .int (a1), .int (a2), .int (a3)]) (z_Qn D (z_Rg ρ sz) ρ kd (z_Ki q K)) 0 0 (z_Rg ρ sz) := by
  refine z_met (rm := rm_X12_balanceAt) (by decide) (Nat.le_of_ble_eq_true rfl) (fun p e s m args below meth c G hr hlk => ?_)
  unfold C_X12_balanceAt at h
  show z_X _ _ _ _ _ _ _ _ _ _ _ _ _ _ _ _ _ _ _ _ _ [(0, .ref (0)), (1, .int (a1)), (2, .int (a2)), (3, .int (a3))] _
  refine zx_aload_n (pc := 0) G (some (0)) 0 rfl rfl (z_dec T_X12_balanceAt_ok 0 (0, .aload_n 0, 1) rfl) ?_
  refine zx_iload_n (pc := 1) G 1 rfl rfl (z_dec T_X12_balanceAt_ok 1 (1, .iload_n 1, 1) rfl) ?_
  refine zx_iload_n (pc := 2) G 2 rfl rfl (z_dec T_X12_balanceAt_ok 2 (2, .iload_n 2, 1) rfl) ?_
  refine zx_callV_iN (pc := 3) (rm := rm_X12_stakesOf) G cw_RX12_226 ⟨Nat.le_of_ble_eq_true rfl, Nat.le_of_ble_eq_true rfl⟩ rfl rfl ⟨Nat.zero_le _, Nat.zero_le _⟩ h_o rfl (fun sz => (met_X12_stakesOf l D ρ kd q μ sz a1 a2 _ hI h_o h)) rfl rfl (Nat.le_of_ble_eq_true rfl) (z_dec T_X12_balanceAt_ok 3 (3, .invokevirtual 226, 3) rfl) (fun r2 μ1 hn => ?_)
  clear h
  have h := hn
  clear hn
  refine zx_istore (pc := 6) (lv' := [(4, .int (r2)), (0, .ref (0)), (1, .int (a1)), (2, .int (a2)), (3, .int (a3))]) G (Nat.le_of_ble_eq_true rfl) rfl (z_dec T_X12_balanceAt_ok 4 (6, .istore 4, 2) rfl) ?_
  refine zx_iconst (pc := 8) (v := 0) G (z_dec T_X12_balanceAt_ok 5 (8, .iconst 0, 1) rfl) rfl ?_
  refine zx_istore (pc := 9) (lv' := [(5, .int ((0 : Int32))), (4, .int (r2)), (0, .ref (0)), (1, .int (a1)), (2, .int (a2)), (3, .int (a3))]) G (Nat.le_of_ble_eq_true rfl) rfl (z_dec T_X12_balanceAt_ok 6 (9, .istore 5, 2) rfl) ?_
  refine zx_sub (lv' := [(0, .ref (0)), (1, .int (a1)), (2, .int (a2)), (3, .int (a3)), (4, .int (r2)), (5, .int ((0 : Int32)))]) [2, 3, 4, 5, 1, 0] rfl ?_
  exact L_X12_balanceAt_11_ok G hr hlk hI h_o h
abbrev rm_X12_betsAt : Room := { frames := 0, cells := 0, slots := 0, locals := 0 }
set_option maxRecDepth 100000 in
set_option maxHeartbeats 4000000 in
theorem L_X12_betsAt_47_ok {p : Program} {l : Launch} {e : Env} {s : State} {m : MethodId} {args : Array Value} {below : List Frame} {meth : Method} {c : Code} {D : va_G} {A : Nat → Prop} {ρ : z_A} {kd : z_K} {q : z_Q} {μ : z_M} {K : Int32 → z_M → Prop} {P6 : Int32 → Int32 → Int32 → Int32 → Int32 → z_M → Prop} {v1 : Int32} {v2 : Int32} {v3 : Int32} {v5 : Int32} {t0 : Int32} (G : z_G p c cX12_betsAt s m args RX12 6 D) (hr : meth.sig.returnType = (Option.some Jvm.ClassFile.FieldType.int)) (hlk : meth.locks = false) (hP6 : ∀ (v1 : Int32) (v2 : Int32) (v3 : Int32) (v4 : Int32) (v5 : Int32) (μ : z_M), P6 v1 v2 v3 v4 v5 μ → (kd 0 = some (.inl 12)) → z_X p l e rm_X12_betsAt s m args below meth c 6 D A (MQ below (z_Qn D A ρ kd (z_Ki q K)) args s 0 0 A) 0 0 ρ kd q μ 6 [(0, .ref (0)), (1, .int (v1)), (2, .int (v2)), (3, .int (v3)), (4, .int (v4)), (5, .int (v5))] []) (hI : z_I kd q) (f_l0 : kd 0 = some (.inl 12)) (h : L_X12_betsAt_47 K P6 v1 v2 v3 v5 t0 μ) : z_X p l e rm_X12_betsAt s m args below meth c 6 D A (MQ below (z_Qn D A ρ kd (z_Ki q K)) args s 0 0 A) 0 0 ρ kd q μ 47 [(0, .ref (0)), (1, .int (v1)), (2, .int (v2)), (3, .int (v3)), (5, .int (v5))] [.int (t0)] := by
    unfold L_X12_betsAt_47 at h
    refine zx_iconst (pc := 47) (v := 0) G (z_dec T_X12_betsAt_ok 27 (47, .iconst 0, 1) rfl) rfl ?_
    refine zx_iadd (pc := 48) G  (z_dec T_X12_betsAt_ok 28 (48, .iadd, 1) rfl) ?_
    refine zx_istore (pc := 49) (lv' := [(4, .int (t0 + ((0 : Int32)))), (0, .ref (0)), (1, .int (v1)), (2, .int (v2)), (3, .int (v3)), (5, .int (v5))]) G (Nat.le_of_ble_eq_true rfl) rfl (z_dec T_X12_betsAt_ok 29 (49, .istore 4, 2) rfl) ?_
    refine zx_iinc (pc := 51) (v := v5 + 1) (lv' := [(5, .int (v5 + 1)), (4, .int (t0 + ((0 : Int32)))), (0, .ref (0)), (1, .int (v1)), (2, .int (v2)), (3, .int (v3))]) G 5 rfl (z_inc (by decide)) (Nat.le_of_ble_eq_true rfl) rfl (z_dec T_X12_betsAt_ok 30 (51, .iinc 5 1, 3) rfl) ?_
    refine zx_goto (pc := 54) (tgt := 6) G rfl (z_dec T_X12_betsAt_ok 31 (54, .goto (-48), 3) rfl) ?_
    refine zx_sub (lv' := [(0, .ref (0)), (1, .int (v1)), (2, .int (v2)), (3, .int (v3)), (4, .int (t0 + ((0 : Int32)))), (5, .int (v5 + 1))]) [2, 3, 4, 5, 1, 0] rfl ?_
    exact hP6 _ _ _ _ _ _ h f_l0
set_option maxRecDepth 100000 in
set_option maxHeartbeats 4000000 in
theorem B_X12_betsAt_6_ok {p : Program} {l : Launch} {e : Env} {s : State} {m : MethodId} {args : Array Value} {below : List Frame} {meth : Method} {c : Code} {D : va_G} {A : Nat → Prop} {ρ : z_A} {kd : z_K} {q : z_Q} {μ : z_M} {K : Int32 → z_M → Prop} {P6 : Int32 → Int32 → Int32 → Int32 → Int32 → z_M → Prop} {v1 : Int32} {v2 : Int32} {v3 : Int32} {v4 : Int32} {v5 : Int32} (G : z_G p c cX12_betsAt s m args RX12 6 D) (hr : meth.sig.returnType = (Option.some Jvm.ClassFile.FieldType.int)) (hlk : meth.locks = false) (hP6 : ∀ (v1 : Int32) (v2 : Int32) (v3 : Int32) (v4 : Int32) (v5 : Int32) (μ : z_M), P6 v1 v2 v3 v4 v5 μ → (kd 0 = some (.inl 12)) → z_X p l e rm_X12_betsAt s m args below meth c 6 D A (MQ below (z_Qn D A ρ kd (z_Ki q K)) args s 0 0 A) 0 0 ρ kd q μ 6 [(0, .ref (0)), (1, .int (v1)), (2, .int (v2)), (3, .int (v3)), (4, .int (v4)), (5, .int (v5))] []) (hI : z_I kd q) (f_l0 : kd 0 = some (.inl 12)) (h : B_X12_betsAt_6 K P6 v1 v2 v3 v4 v5 μ) : z_X p l e rm_X12_betsAt s m args below meth c 6 D A (MQ below (z_Qn D A ρ kd (z_Ki q K)) args s 0 0 A) 0 0 ρ kd q μ 6 [(0, .ref (0)), (1, .int (v1)), (2, .int (v2)), (3, .int (v3)), (4, .int (v4)), (5, .int (v5))] [] := by
    unfold B_X12_betsAt_6 at h
    refine zx_iload (pc := 6) G 5 rfl (z_dec T_X12_betsAt_ok 4 (6, .iload 5, 2) rfl) ?_
    refine zx_aload_n (pc := 8) G (some (0)) 0 rfl rfl (z_dec T_X12_betsAt_ok 5 (8, .aload_n 0, 1) rfl) ?_
    refine zx_getI (pc := 9) G gf_RX12_196 rfl f_l0 (z_dec T_X12_betsAt_ok 6 (9, .getfield 196, 3) rfl) ?_
    refine zx_icmp_ge (pc := 12) (tgt := 57) G rfl (z_dec T_X12_betsAt_ok 7 (12, .if_icmp .ge 45, 3) rfl) (fun hc => ?_) (fun hc => ?_)
    · replace h := z_pos hc h
      refine zx_iload (pc := 57) G 4 rfl (z_dec T_X12_betsAt_ok 32 (57, .iload 4, 2) rfl) ?_
      exact zx_iret (pc := 59) G hr hlk (Nat.le_refl _) (Nat.le_refl _) (z_dec T_X12_betsAt_ok 33 (59, .ireturn, 1) rfl) ⟨rfl, _, rfl, h⟩
    · replace h := z_neg hc h
      refine zx_iload (pc := 15) G 4 rfl (z_dec T_X12_betsAt_ok 8 (15, .iload 4, 2) rfl) ?_
      refine zx_aload_n (pc := 17) G (some (0)) 0 rfl rfl (z_dec T_X12_betsAt_ok 9 (17, .aload_n 0, 1) rfl) ?_
      refine zx_getF (pc := 18) (b := 21) G gf_RX12_54 rfl f_l0 (zq_12_20 hI f_l0) (z_dec T_X12_betsAt_ok 10 (18, .getfield 54, 3) rfl) ?_
      refine zx_iload (pc := 21) G 5 rfl (z_dec T_X12_betsAt_ok 11 (21, .iload 5, 2) rfl) ?_
      obtain ⟨c1, h⟩ := h
      refine zx_iald (pc := 23) G (zk_12_20 hI f_l0) c1 (z_dec T_X12_betsAt_ok 12 (23, .iaload, 1) rfl) ?_
      refine zx_iload_n (pc := 24) G 1 rfl rfl (z_dec T_X12_betsAt_ok 13 (24, .iload_n 1, 1) rfl) ?_
      refine zx_icmp_ne (pc := 25) (tgt := 47) G rfl (z_dec T_X12_betsAt_ok 14 (25, .if_icmp .ne 22, 3) rfl) (fun hc => ?_) (fun hc => ?_)
      · replace h := z_neg hc h
        refine zx_sub (lv' := [(0, .ref (0)), (1, .int (v1)), (2, .int (v2)), (3, .int (v3)), (5, .int (v5))]) [0, 1, 2, 3, 5] rfl ?_
        exact L_X12_betsAt_47_ok G hr hlk hP6 hI f_l0 h
      · replace h := z_pos hc h
        refine zx_aload_n (pc := 28) G (some (0)) 0 rfl rfl (z_dec T_X12_betsAt_ok 15 (28, .aload_n 0, 1) rfl) ?_
        refine zx_getF (pc := 29) (b := 25) G gf_RX12_66 rfl f_l0 (zq_12_24 hI f_l0) (z_dec T_X12_betsAt_ok 16 (29, .getfield 66, 3) rfl) ?_
        refine zx_iconst (pc := 32) (v := 3) G (z_dec T_X12_betsAt_ok 17 (32, .iconst 3, 1) rfl) rfl ?_
        refine zx_iload (pc := 33) G 5 rfl (z_dec T_X12_betsAt_ok 18 (33, .iload 5, 2) rfl) ?_
        refine zx_imul (pc := 35) G  (z_dec T_X12_betsAt_ok 19 (35, .imul, 1) rfl) ?_
        refine zx_iload_n (pc := 36) G 2 rfl rfl (z_dec T_X12_betsAt_ok 20 (36, .iload_n 2, 1) rfl) ?_
        refine zx_iadd (pc := 37) G  (z_dec T_X12_betsAt_ok 21 (37, .iadd, 1) rfl) ?_
        obtain ⟨c2, h⟩ := h
        refine zx_iald (pc := 38) G (zk_12_24 hI f_l0) c2 (z_dec T_X12_betsAt_ok 22 (38, .iaload, 1) rfl) ?_
        refine zx_iload_n (pc := 39) G 3 rfl rfl (z_dec T_X12_betsAt_ok 23 (39, .iload_n 3, 1) rfl) ?_
        refine zx_icmp_ne (pc := 40) (tgt := 47) G rfl (z_dec T_X12_betsAt_ok 24 (40, .if_icmp .ne 7, 3) rfl) (fun hc => ?_) (fun hc => ?_)
        · replace h := z_neg hc h
          refine zx_sub (lv' := [(0, .ref (0)), (1, .int (v1)), (2, .int (v2)), (3, .int (v3)), (5, .int (v5))]) [0, 1, 2, 3, 5] rfl ?_
          exact L_X12_betsAt_47_ok G hr hlk hP6 hI f_l0 h
        · replace h := z_pos hc h
          refine zx_iconst (pc := 43) (v := 1) G (z_dec T_X12_betsAt_ok 25 (43, .iconst 1, 1) rfl) rfl ?_
          refine zx_goto (pc := 44) (tgt := 48) G rfl (z_dec T_X12_betsAt_ok 26 (44, .goto 4, 3) rfl) ?_
          refine zx_iadd (pc := 48) G  (z_dec T_X12_betsAt_ok 28 (48, .iadd, 1) rfl) ?_
          refine zx_istore (pc := 49) (lv' := [(4, .int (v4 + ((1 : Int32)))), (0, .ref (0)), (1, .int (v1)), (2, .int (v2)), (3, .int (v3)), (5, .int (v5))]) G (Nat.le_of_ble_eq_true rfl) rfl (z_dec T_X12_betsAt_ok 29 (49, .istore 4, 2) rfl) ?_
          refine zx_iinc (pc := 51) (v := v5 + 1) (lv' := [(5, .int (v5 + 1)), (4, .int (v4 + ((1 : Int32)))), (0, .ref (0)), (1, .int (v1)), (2, .int (v2)), (3, .int (v3))]) G 5 rfl (z_inc (by decide)) (Nat.le_of_ble_eq_true rfl) rfl (z_dec T_X12_betsAt_ok 30 (51, .iinc 5 1, 3) rfl) ?_
          refine zx_goto (pc := 54) (tgt := 6) G rfl (z_dec T_X12_betsAt_ok 31 (54, .goto (-48), 3) rfl) ?_
          refine zx_sub (lv' := [(0, .ref (0)), (1, .int (v1)), (2, .int (v2)), (3, .int (v3)), (4, .int (v4 + ((1 : Int32)))), (5, .int (v5 + 1))]) [2, 3, 4, 5, 1, 0] rfl ?_
          exact hP6 _ _ _ _ _ _ h f_l0
set_option maxRecDepth 100000 in
set_option maxHeartbeats 4000000 in
theorem L_X12_betsAt_6_ok {p : Program} {l : Launch} {e : Env} {s : State} {m : MethodId} {args : Array Value} {below : List Frame} {meth : Method} {c : Code} {D : va_G} {A : Nat → Prop} {ρ : z_A} {kd : z_K} {q : z_Q} {μ : z_M} {K : Int32 → z_M → Prop} {v1 : Int32} {v2 : Int32} {v3 : Int32} {v4 : Int32} {v5 : Int32} (G : z_G p c cX12_betsAt s m args RX12 6 D) (hr : meth.sig.returnType = (Option.some Jvm.ClassFile.FieldType.int)) (hlk : meth.locks = false) (hI : z_I kd q) (f_l0 : kd 0 = some (.inl 12)) (h : L_X12_betsAt_6 K v1 v2 v3 v4 v5 μ) : z_X p l e rm_X12_betsAt s m args below meth c 6 D A (MQ below (z_Qn D A ρ kd (z_Ki q K)) args s 0 0 A) 0 0 ρ kd q μ 6 [(0, .ref (0)), (1, .int (v1)), (2, .int (v2)), (3, .int (v3)), (4, .int (v4)), (5, .int (v5))] [] :=
  h (fun (v1 : Int32) (v2 : Int32) (v3 : Int32) (v4 : Int32) (v5 : Int32) (μ : z_M) => (kd 0 = some (.inl 12)) → z_X p l e rm_X12_betsAt s m args below meth c 6 D A (MQ below (z_Qn D A ρ kd (z_Ki q K)) args s 0 0 A) 0 0 ρ kd q μ 6 [(0, .ref (0)), (1, .int (v1)), (2, .int (v2)), (3, .int (v3)), (4, .int (v4)), (5, .int (v5))] []) (fun v1 v2 v3 v4 v5 μ h f_l0 => B_X12_betsAt_6_ok G hr hlk (fun _ _ _ _ _ _ h => h) hI f_l0 h) f_l0
set_option maxRecDepth 100000 in
set_option maxHeartbeats 4000000 in
theorem met_X12_betsAt (l : Launch) (D : va_G) (ρ : z_A) (kd : z_K) (q : z_Q) (μ : z_M) (sz : Nat) (a1 : Int32) (a2 : Int32) (a3 : Int32) (K : Int32 → z_M → Prop) (hI : z_I kd q) (h_o : kd 0 = some (.inl 12)) (h : C_X12_betsAt a1 a2 a3 μ K) : Met l yX12_betsAt (z_ws yX12_betsAt cX12_betsAt 6 (Option.some Jvm.ClassFile.FieldType.int)) rm_X12_betsAt (z_Pc D ρ kd q μ sz [.ref (0), .int (a1), .int (a2), .int (a3)]) (z_Qn D (z_Rg ρ sz) ρ kd (z_Ki q K)) 0 0 (z_Rg ρ sz) := by
  refine z_met (rm := rm_X12_betsAt) (by decide) (Nat.le_of_ble_eq_true rfl) (fun p e s m args below meth c G hr hlk => ?_)
  unfold C_X12_betsAt at h
  show z_X _ _ _ _ _ _ _ _ _ _ _ _ _ _ _ _ _ _ _ _ _ [(0, .ref (0)), (1, .int (a1)), (2, .int (a2)), (3, .int (a3))] _
  refine zx_iconst (pc := 0) (v := 0) G (z_dec T_X12_betsAt_ok 0 (0, .iconst 0, 1) rfl) rfl ?_
  refine zx_istore (pc := 1) (lv' := [(4, .int ((0 : Int32))), (0, .ref (0)), (1, .int (a1)), (2, .int (a2)), (3, .int (a3))]) G (Nat.le_of_ble_eq_true rfl) rfl (z_dec T_X12_betsAt_ok 1 (1, .istore 4, 2) rfl) ?_
  refine zx_iconst (pc := 3) (v := 0) G (z_dec T_X12_betsAt_ok 2 (3, .iconst 0, 1) rfl) rfl ?_
  refine zx_istore (pc := 4) (lv' := [(5, .int ((0 : Int32))), (4, .int ((0 : Int32))), (0, .ref (0)), (1, .int (a1)), (2, .int (a2)), (3, .int (a3))]) G (Nat.le_of_ble_eq_true rfl) rfl (z_dec T_X12_betsAt_ok 3 (4, .istore 5, 2) rfl) ?_
  refine zx_sub (lv' := [(0, .ref (0)), (1, .int (a1)), (2, .int (a2)), (3, .int (a3)), (4, .int ((0 : Int32))), (5, .int ((0 : Int32)))]) [2, 3, 4, 5, 1, 0] rfl ?_
  exact L_X12_betsAt_6_ok G hr hlk hI h_o h
abbrev rm_X12_divisor : Room := { frames := 0, cells := 0, slots := 0, locals := 0 }
set_option maxRecDepth 100000 in
set_option maxHeartbeats 4000000 in
theorem B_X12_divisor_6_ok {p : Program} {l : Launch} {e : Env} {s : State} {m : MethodId} {args : Array Value} {below : List Frame} {meth : Method} {c : Code} {D : va_G} {A : Nat → Prop} {ρ : z_A} {kd : z_K} {q : z_Q} {μ : z_M} {K : Int64 → z_M → Prop} {P6 : Int64 → Int64 → z_M → Prop} {v4 : Int64} {v6 : Int64} (G : z_G p c cX12_divisor s m args RX12 10 D) (hr : meth.sig.returnType = (Option.some Jvm.ClassFile.FieldType.long)) (hlk : meth.locks = false) (hP6 : ∀ (v4 : Int64) (v6 : Int64) (μ : z_M), P6 v4 v6 μ → z_X p l e rm_X12_divisor s m args below meth c 10 D A (MQ below (z_Qn D A ρ kd (z_Kl q K)) args s 0 0 A) 0 0 ρ kd q μ 6 [(4, .long (v4)), (6, .long (v6))] []) (hI : z_I kd q) (h : B_X12_divisor_6 K P6 v4 v6 μ) : z_X p l e rm_X12_divisor s m args below meth c 10 D A (MQ below (z_Qn D A ρ kd (z_Kl q K)) args s 0 0 A) 0 0 ρ kd q μ 6 [(4, .long (v4)), (6, .long (v6))] [] := by
    unfold B_X12_divisor_6 at h
    refine zx_lload (pc := 6) G 1 rfl (z_dec T_X12_divisor_ok 4 (6, .lload 6, 2) rfl) ?_
    refine zx_lconst (pc := 8) (v := 0) G (z_dec T_X12_divisor_ok 5 (8, .lconst 0, 1) rfl) rfl ?_
    refine zx_lcmp_eq (pc := 9) (tgt := 31) G rfl (z_dec T_X12_divisor_ok 6 (9, .lcmp, 1) rfl) (z_dec T_X12_divisor_ok 7 (10, .ifCond .eq 21, 3) rfl) (fun hc => ?_) (fun hc => ?_)
    · replace h := z_pos hc h
      refine zx_lload (pc := 31) G 0 rfl (z_dec T_X12_divisor_ok 17 (31, .lload 4, 2) rfl) ?_
      exact zx_lret (pc := 33) G hr hlk (Nat.le_refl _) (Nat.le_refl _) (z_dec T_X12_divisor_ok 18 (33, .lreturn, 1) rfl) ⟨rfl, _, rfl, h⟩
    · replace h := z_neg hc h
      refine zx_lload (pc := 13) G 0 rfl (z_dec T_X12_divisor_ok 8 (13, .lload 4, 2) rfl) ?_
      refine zx_lload (pc := 15) G 1 rfl (z_dec T_X12_divisor_ok 9 (15, .lload 6, 2) rfl) ?_
      obtain ⟨c1, h⟩ := h
      refine zx_lrem (pc := 17) G c1 (z_dec T_X12_divisor_ok 10 (17, .lrem, 1) rfl) ?_
      refine zx_lstore (pc := 18) (lv' := [(8, .long (v4 - v4 / v6 * v6)), (4, .long (v4)), (6, .long (v6))]) G (Nat.le_of_ble_eq_true rfl) rfl (z_dec T_X12_divisor_ok 11 (18, .lstore 8, 2) rfl) ?_
      refine zx_lload (pc := 20) G 2 rfl (z_dec T_X12_divisor_ok 12 (20, .lload 6, 2) rfl) ?_
      refine zx_lstore (pc := 22) (lv' := [(4, .long (v6)), (8, .long (v4 - v4 / v6 * v6)), (6, .long (v6))]) G (Nat.le_of_ble_eq_true rfl) rfl (z_dec T_X12_divisor_ok 13 (22, .lstore 4, 2) rfl) ?_
      refine zx_lload (pc := 24) G 1 rfl (z_dec T_X12_divisor_ok 14 (24, .lload 8, 2) rfl) ?_
      refine zx_lstore (pc := 26) (lv' := [(6, .long (v4 - v4 / v6 * v6)), (4, .long (v6)), (8, .long (v4 - v4 / v6 * v6))]) G (Nat.le_of_ble_eq_true rfl) rfl (z_dec T_X12_divisor_ok 15 (26, .lstore 6, 2) rfl) ?_
      refine zx_goto (pc := 28) (tgt := 6) G rfl (z_dec T_X12_divisor_ok 16 (28, .goto (-22), 3) rfl) ?_
      refine zx_sub (lv' := [(4, .long (v6)), (6, .long (v4 - v4 / v6 * v6))]) [1, 0] rfl ?_
      exact hP6 _ _ _ h
set_option maxRecDepth 100000 in
set_option maxHeartbeats 4000000 in
theorem L_X12_divisor_6_ok {p : Program} {l : Launch} {e : Env} {s : State} {m : MethodId} {args : Array Value} {below : List Frame} {meth : Method} {c : Code} {D : va_G} {A : Nat → Prop} {ρ : z_A} {kd : z_K} {q : z_Q} {μ : z_M} {K : Int64 → z_M → Prop} {v4 : Int64} {v6 : Int64} (G : z_G p c cX12_divisor s m args RX12 10 D) (hr : meth.sig.returnType = (Option.some Jvm.ClassFile.FieldType.long)) (hlk : meth.locks = false) (hI : z_I kd q) (h : L_X12_divisor_6 K v4 v6 μ) : z_X p l e rm_X12_divisor s m args below meth c 10 D A (MQ below (z_Qn D A ρ kd (z_Kl q K)) args s 0 0 A) 0 0 ρ kd q μ 6 [(4, .long (v4)), (6, .long (v6))] [] :=
  h (fun (v4 : Int64) (v6 : Int64) (μ : z_M) => z_X p l e rm_X12_divisor s m args below meth c 10 D A (MQ below (z_Qn D A ρ kd (z_Kl q K)) args s 0 0 A) 0 0 ρ kd q μ 6 [(4, .long (v4)), (6, .long (v6))] []) (fun v4 v6 μ h  => B_X12_divisor_6_ok G hr hlk (fun _ _ _ h => h) hI  h) 
set_option maxRecDepth 100000 in
set_option maxHeartbeats 4000000 in
theorem met_X12_divisor (l : Launch) (D : va_G) (ρ : z_A) (kd : z_K) (q : z_Q) (μ : z_M) (sz : Nat) (a1 : Int64) (a2 : Int64) (K : Int64 → z_M → Prop) (hI : z_I kd q) (h : C_X12_divisor a1 a2 μ K) : Met l yX12_divisor (z_ws yX12_divisor cX12_divisor 10 (Option.some Jvm.ClassFile.FieldType.long)) rm_X12_divisor (z_Pc D ρ kd q μ sz [.long (a1), .long (a2)]) (z_Qn D (z_Rg ρ sz) ρ kd (z_Kl q K)) 0 0 (z_Rg ρ sz) := by
  refine z_met (rm := rm_X12_divisor) (by decide) (Nat.le_of_ble_eq_true rfl) (fun p e s m args below meth c G hr hlk => ?_)
  unfold C_X12_divisor at h
  show z_X _ _ _ _ _ _ _ _ _ _ _ _ _ _ _ _ _ _ _ _ _ [(0, .long (a1)), (2, .long (a2))] _
  refine zx_lload_n (pc := 0) G 0 rfl rfl (z_dec T_X12_divisor_ok 0 (0, .lload_n 0, 1) rfl) ?_
  refine zx_lstore (pc := 1) (lv' := [(4, .long (a1)), (0, .long (a1)), (2, .long (a2))]) G (Nat.le_of_ble_eq_true rfl) rfl (z_dec T_X12_divisor_ok 1 (1, .lstore 4, 2) rfl) ?_
  refine zx_lload_n (pc := 3) G 2 rfl rfl (z_dec T_X12_divisor_ok 2 (3, .lload_n 2, 1) rfl) ?_
  refine zx_lstore (pc := 4) (lv' := [(6, .long (a2)), (4, .long (a1)), (0, .long (a1)), (2, .long (a2))]) G (Nat.le_of_ble_eq_true rfl) rfl (z_dec T_X12_divisor_ok 3 (4, .lstore 6, 2) rfl) ?_
  refine zx_sub (lv' := [(4, .long (a1)), (6, .long (a2))]) [1, 0] rfl ?_
  exact L_X12_divisor_6_ok G hr hlk hI h
abbrev rm_X12_adds : Room := { frames := 1, cells := 0, slots := 0, locals := 29 }
set_option maxRecDepth 100000 in
set_option maxHeartbeats 4000000 in
theorem met_X12_adds (l : Launch) (D : va_G) (ρ : z_A) (kd : z_K) (q : z_Q) (μ : z_M) (sz : Nat) (a1 : Int32) (K : z_M → Prop) (hI : z_I kd q) (h_o : kd 0 = some (.inl 12)) (h : C_X12_adds a1 μ K) : Met l yX12_adds (z_ws yX12_adds cX12_adds 10 (Option.none : Option Jvm.ClassFile.FieldType)) rm_X12_adds (z_Pc D ρ kd q μ sz [.ref (0), .int (a1)]) (z_Qn D (z_Rg ρ sz) ρ kd (z_Kv q K)) 0 0 (z_Rg ρ sz) := by
  refine z_met (rm := rm_X12_adds) (by decide) (Nat.le_of_ble_eq_true rfl) (fun p e s m args below meth c G hr hlk => ?_)
  unfold C_X12_adds at h
  show z_X _ _ _ _ _ _ _ _ _ _ _ _ _ _ _ _ _ _ _ _ _ [(0, .ref (0)), (1, .int (a1))] _
  refine zx_aload_n (pc := 0) G (some (0)) 0 rfl rfl (z_dec T_X12_adds_ok 0 (0, .aload_n 0, 1) rfl) ?_
  refine zx_getF (pc := 1) (b := 8) G gf_RX12_13 rfl h_o (zq_12_7 hI h_o) (z_dec T_X12_adds_ok 1 (1, .getfield 13, 3) rfl) ?_
  refine zx_iload_n (pc := 4) G 1 rfl rfl (z_dec T_X12_adds_ok 2 (4, .iload_n 1, 1) rfl) ?_
  obtain ⟨c1, h⟩ := h
  refine zx_iald (pc := 5) G (zk_12_7 hI h_o) c1 (z_dec T_X12_adds_ok 3 (5, .iaload, 1) rfl) ?_
  refine zx_aload_n (pc := 6) G (some (0)) 0 rfl rfl (z_dec T_X12_adds_ok 4 (6, .aload_n 0, 1) rfl) ?_
  refine zx_getF (pc := 7) (b := 9) G gf_RX12_17 rfl h_o (zq_12_8 hI h_o) (z_dec T_X12_adds_ok 5 (7, .getfield 17, 3) rfl) ?_
  refine zx_iload_n (pc := 10) G 1 rfl rfl (z_dec T_X12_adds_ok 6 (10, .iload_n 1, 1) rfl) ?_
  refine zx_iald (pc := 11) G (zk_12_8 hI h_o) c1 (z_dec T_X12_adds_ok 7 (11, .iaload, 1) rfl) ?_
  refine zx_iadd (pc := 12) G  (z_dec T_X12_adds_ok 8 (12, .iadd, 1) rfl) ?_
  refine zx_i2l (pc := 13) G  (z_dec T_X12_adds_ok 9 (13, .i2l, 1) rfl) ?_
  refine zx_lstore_n (pc := 14) (lv' := [(2, .long (((μ.1 8 a1.toNatClampNeg) + (μ.1 9 a1.toNatClampNeg)).toInt64)), (0, .ref (0)), (1, .int (a1))]) G rfl (Nat.le_of_ble_eq_true rfl) rfl (z_dec T_X12_adds_ok 10 (14, .lstore_n 2, 1) rfl) ?_
  refine zx_aload_n (pc := 15) G (some (0)) 1 rfl rfl (z_dec T_X12_adds_ok 11 (15, .aload_n 0, 1) rfl) ?_
  refine zx_getL (pc := 16) G gf_RX12_240 rfl h_o (z_dec T_X12_adds_ok 12 (16, .getfield 240, 3) rfl) ?_
  refine zx_lload_n (pc := 19) G 0 rfl rfl (z_dec T_X12_adds_ok 13 (19, .lload_n 2, 1) rfl) ?_
  refine zx_lmul (pc := 20) G  (z_dec T_X12_adds_ok 14 (20, .lmul, 1) rfl) ?_
  refine zx_aload_n (pc := 21) G (some (0)) 1 rfl rfl (z_dec T_X12_adds_ok 15 (21, .aload_n 0, 1) rfl) ?_
  refine zx_getF (pc := 22) (b := 9) G gf_RX12_17 rfl h_o (zq_12_8 hI h_o) (z_dec T_X12_adds_ok 16 (22, .getfield 17, 3) rfl) ?_
  refine zx_iload_n (pc := 25) G 2 rfl rfl (z_dec T_X12_adds_ok 17 (25, .iload_n 1, 1) rfl) ?_
  refine zx_iald (pc := 26) G (zk_12_8 hI h_o) c1 (z_dec T_X12_adds_ok 18 (26, .iaload, 1) rfl) ?_
  refine zx_i2l (pc := 27) G  (z_dec T_X12_adds_ok 19 (27, .i2l, 1) rfl) ?_
  refine zx_aload_n (pc := 28) G (some (0)) 1 rfl rfl (z_dec T_X12_adds_ok 20 (28, .aload_n 0, 1) rfl) ?_
  refine zx_getL (pc := 29) G gf_RX12_244 rfl h_o (z_dec T_X12_adds_ok 21 (29, .getfield 244, 3) rfl) ?_
  refine zx_lmul (pc := 32) G  (z_dec T_X12_adds_ok 22 (32, .lmul, 1) rfl) ?_
  refine zx_ladd (pc := 33) G  (z_dec T_X12_adds_ok 23 (33, .ladd, 1) rfl) ?_
  refine zx_lstore (pc := 34) (lv' := [(4, .long (((μ.2 0 29) * (((μ.1 8 a1.toNatClampNeg) + (μ.1 9 a1.toNatClampNeg)).toInt64)) + (((μ.1 9 a1.toNatClampNeg).toInt64) * (μ.2 0 30)))), (2, .long (((μ.1 8 a1.toNatClampNeg) + (μ.1 9 a1.toNatClampNeg)).toInt64)), (0, .ref (0)), (1, .int (a1))]) G (Nat.le_of_ble_eq_true rfl) rfl (z_dec T_X12_adds_ok 24 (34, .lstore 4, 2) rfl) ?_
  refine zx_aload_n (pc := 36) G (some (0)) 2 rfl rfl (z_dec T_X12_adds_ok 25 (36, .aload_n 0, 1) rfl) ?_
  refine zx_getL (pc := 37) G gf_RX12_244 rfl h_o (z_dec T_X12_adds_ok 26 (37, .getfield 244, 3) rfl) ?_
  refine zx_lload_n (pc := 40) G 1 rfl rfl (z_dec T_X12_adds_ok 27 (40, .lload_n 2, 1) rfl) ?_
  refine zx_lmul (pc := 41) G  (z_dec T_X12_adds_ok 28 (41, .lmul, 1) rfl) ?_
  refine zx_lstore (pc := 42) (lv' := [(6, .long ((μ.2 0 30) * (((μ.1 8 a1.toNatClampNeg) + (μ.1 9 a1.toNatClampNeg)).toInt64))), (4, .long (((μ.2 0 29) * (((μ.1 8 a1.toNatClampNeg) + (μ.1 9 a1.toNatClampNeg)).toInt64)) + (((μ.1 9 a1.toNatClampNeg).toInt64) * (μ.2 0 30)))), (2, .long (((μ.1 8 a1.toNatClampNeg) + (μ.1 9 a1.toNatClampNeg)).toInt64)), (0, .ref (0)), (1, .int (a1))]) G (Nat.le_of_ble_eq_true rfl) rfl (z_dec T_X12_adds_ok 29 (42, .lstore 6, 2) rfl) ?_
  refine zx_lload (pc := 44) G 1 rfl (z_dec T_X12_adds_ok 30 (44, .lload 4, 2) rfl) ?_
  refine zx_lload (pc := 46) G 0 rfl (z_dec T_X12_adds_ok 31 (46, .lload 6, 2) rfl) ?_
  refine zx_callS_lN (pc := 48) (rm := rm_X12_divisor) G cw_RX12_247 ⟨Nat.le_of_ble_eq_true rfl, Nat.le_of_ble_eq_true rfl⟩ rfl rfl ⟨Nat.zero_le _, Nat.zero_le _⟩ (fun sz => (met_X12_divisor l D ρ kd q μ sz (((μ.2 0 29) * (((μ.1 8 a1.toNatClampNeg) + (μ.1 9 a1.toNatClampNeg)).toInt64)) + (((μ.1 9 a1.toNatClampNeg).toInt64) * (μ.2 0 30))) ((μ.2 0 30) * (((μ.1 8 a1.toNatClampNeg) + (μ.1 9 a1.toNatClampNeg)).toInt64)) _ hI h)) rfl rfl (Nat.le_of_ble_eq_true rfl) (z_dec T_X12_adds_ok 32 (48, .invokestatic 247, 3) rfl) (fun r3 μ2 hn => ?_)
  clear h
  have h := hn
  clear hn
  refine zx_lstore (pc := 51) (lv' := [(8, .long (r3)), (6, .long ((μ.2 0 30) * (((μ.1 8 a1.toNatClampNeg) + (μ.1 9 a1.toNatClampNeg)).toInt64))), (4, .long (((μ.2 0 29) * (((μ.1 8 a1.toNatClampNeg) + (μ.1 9 a1.toNatClampNeg)).toInt64)) + (((μ.1 9 a1.toNatClampNeg).toInt64) * (μ.2 0 30)))), (2, .long (((μ.1 8 a1.toNatClampNeg) + (μ.1 9 a1.toNatClampNeg)).toInt64)), (0, .ref (0)), (1, .int (a1))]) G (Nat.le_of_ble_eq_true rfl) rfl (z_dec T_X12_adds_ok 33 (51, .lstore 8, 2) rfl) ?_
  refine zx_aload_n (pc := 53) G (some (0)) 4 rfl rfl (z_dec T_X12_adds_ok 34 (53, .aload_n 0, 1) rfl) ?_
  refine zx_lload (pc := 54) G 2 rfl (z_dec T_X12_adds_ok 35 (54, .lload 4, 2) rfl) ?_
  refine zx_lload (pc := 56) G 0 rfl (z_dec T_X12_adds_ok 36 (56, .lload 8, 2) rfl) ?_
  obtain ⟨c4, h⟩ := h
  refine zx_ldiv (pc := 58) G c4 (z_dec T_X12_adds_ok 37 (58, .ldiv, 1) rfl) ?_
  refine zx_putL (pc := 59) G gf_RX12_240 cf_12 rfl rfl h_o (z_dec T_X12_adds_ok 38 (59, .putfield 240, 3) rfl) ?_
  refine zx_aload_n (pc := 62) G (some (0)) 4 rfl rfl (z_dec T_X12_adds_ok 39 (62, .aload_n 0, 1) rfl) ?_
  refine zx_lload (pc := 63) G 1 rfl (z_dec T_X12_adds_ok 40 (63, .lload 6, 2) rfl) ?_
  refine zx_lload (pc := 65) G 0 rfl (z_dec T_X12_adds_ok 41 (65, .lload 8, 2) rfl) ?_
  refine zx_ldiv (pc := 67) G c4 (z_dec T_X12_adds_ok 42 (67, .ldiv, 1) rfl) ?_
  refine zx_putL (pc := 68) G gf_RX12_244 cf_12 rfl rfl h_o (z_dec T_X12_adds_ok 43 (68, .putfield 244, 3) rfl) ?_
  exact zx_vret (pc := 71) G hr hlk (Nat.le_refl _) (Nat.le_refl _) (z_dec T_X12_adds_ok 44 (71, .return_, 1) rfl) ⟨rfl, rfl, h⟩
abbrev rm_X12_begins : Room := { frames := 0, cells := 0, slots := 0, locals := 0 }
set_option maxRecDepth 100000 in
set_option maxHeartbeats 4000000 in
theorem met_X12_begins (l : Launch) (D : va_G) (ρ : z_A) (kd : z_K) (q : z_Q) (μ : z_M) (sz : Nat) (K : z_M → Prop) (hI : z_I kd q) (h_o : kd 0 = some (.inl 12)) (h : C_X12_begins μ K) : Met l yX12_begins (z_ws yX12_begins cX12_begins 1 (Option.none : Option Jvm.ClassFile.FieldType)) rm_X12_begins (z_Pc D ρ kd q μ sz [.ref (0)]) (z_Qn D (z_Rg ρ sz) ρ kd (z_Kv q K)) 0 0 (z_Rg ρ sz) := by
  refine z_met (rm := rm_X12_begins) (by decide) (Nat.le_of_ble_eq_true rfl) (fun p e s m args below meth c G hr hlk => ?_)
  unfold C_X12_begins at h
  show z_X _ _ _ _ _ _ _ _ _ _ _ _ _ _ _ _ _ _ _ _ _ [(0, .ref (0))] _
  refine zx_aload_n (pc := 0) G (some (0)) 0 rfl rfl (z_dec T_X12_begins_ok 0 (0, .aload_n 0, 1) rfl) ?_
  refine zx_lconst (pc := 1) (v := 0) G (z_dec T_X12_begins_ok 1 (1, .lconst 0, 1) rfl) rfl ?_
  refine zx_putL (pc := 2) G gf_RX12_240 cf_12 rfl rfl h_o (z_dec T_X12_begins_ok 2 (2, .putfield 240, 3) rfl) ?_
  refine zx_aload_n (pc := 5) G (some (0)) 0 rfl rfl (z_dec T_X12_begins_ok 3 (5, .aload_n 0, 1) rfl) ?_
  refine zx_lconst (pc := 6) (v := 1) G (z_dec T_X12_begins_ok 4 (6, .lconst 1, 1) rfl) rfl ?_
  refine zx_putL (pc := 7) G gf_RX12_244 cf_12 rfl rfl h_o (z_dec T_X12_begins_ok 5 (7, .putfield 244, 3) rfl) ?_
  exact zx_vret (pc := 10) G hr hlk (Nat.le_refl _) (Nat.le_refl _) (z_dec T_X12_begins_ok 6 (10, .return_, 1) rfl) ⟨rfl, rfl, h⟩
abbrev rm_X12_rounds : Room := { frames := 2, cells := 0, slots := 0, locals := 58 }
set_option maxRecDepth 100000 in
set_option maxHeartbeats 4000000 in
theorem B_X12_rounds_6_ok {p : Program} {l : Launch} {e : Env} {s : State} {m : MethodId} {args : Array Value} {below : List Frame} {meth : Method} {c : Code} {D : va_G} {A : Nat → Prop} {ρ : z_A} {kd : z_K} {q : z_Q} {μ : z_M} {K : z_M → Prop} {P6 : Int32 → Int32 → Int32 → z_M → Prop} {v1 : Int32} {v2 : Int32} {v3 : Int32} (G : z_G p c cX12_rounds s m args RX12 4 D) (hr : meth.sig.returnType = (Option.none : Option Jvm.ClassFile.FieldType)) (hlk : meth.locks = false) (hP6 : ∀ (v1 : Int32) (v2 : Int32) (v3 : Int32) (μ : z_M), P6 v1 v2 v3 μ → (kd 0 = some (.inl 12)) → z_X p l e rm_X12_rounds s m args below meth c 4 D A (MQ below (z_Qn D A ρ kd (z_Kv q K)) args s 0 0 A) 0 0 ρ kd q μ 6 [(0, .ref (0)), (1, .int (v1)), (2, .int (v2)), (3, .int (v3))] []) (hI : z_I kd q) (f_l0 : kd 0 = some (.inl 12)) (h : B_X12_rounds_6 K P6 v1 v2 v3 μ) : z_X p l e rm_X12_rounds s m args below meth c 4 D A (MQ below (z_Qn D A ρ kd (z_Kv q K)) args s 0 0 A) 0 0 ρ kd q μ 6 [(0, .ref (0)), (1, .int (v1)), (2, .int (v2)), (3, .int (v3))] [] := by
    unfold B_X12_rounds_6 at h
    refine zx_iload_n (pc := 6) G 3 rfl rfl (z_dec T_X12_rounds_ok 4 (6, .iload_n 3, 1) rfl) ?_
    refine zx_aload_n (pc := 7) G (some (0)) 0 rfl rfl (z_dec T_X12_rounds_ok 5 (7, .aload_n 0, 1) rfl) ?_
    refine zx_getF (pc := 8) (b := 10) G gf_RX12_20 rfl f_l0 (zq_12_9 hI f_l0) (z_dec T_X12_rounds_ok 6 (8, .getfield 20, 3) rfl) ?_
    refine zx_iload_n (pc := 11) G 2 rfl rfl (z_dec T_X12_rounds_ok 7 (11, .iload_n 2, 1) rfl) ?_
    obtain ⟨c1, h⟩ := h
    refine zx_iald (pc := 12) G (zk_12_9 hI f_l0) c1 (z_dec T_X12_rounds_ok 8 (12, .iaload, 1) rfl) ?_
    refine zx_icmp_ge (pc := 13) (tgt := 52) G rfl (z_dec T_X12_rounds_ok 9 (13, .if_icmp .ge 39, 3) rfl) (fun hc => ?_) (fun hc => ?_)
    · replace h := z_pos hc h
      exact zx_vret (pc := 52) G hr hlk (Nat.le_refl _) (Nat.le_refl _) (z_dec T_X12_rounds_ok 30 (52, .return_, 1) rfl) ⟨rfl, rfl, h⟩
    · replace h := z_neg hc h
      refine zx_aload_n (pc := 16) G (some (0)) 0 rfl rfl (z_dec T_X12_rounds_ok 10 (16, .aload_n 0, 1) rfl) ?_
      refine zx_getF (pc := 17) (b := 17) G gf_RX12_42 rfl f_l0 (zq_12_16 hI f_l0) (z_dec T_X12_rounds_ok 11 (17, .getfield 42, 3) rfl) ?_
      refine zx_iload_n (pc := 20) G 1 rfl rfl (z_dec T_X12_rounds_ok 12 (20, .iload_n 1, 1) rfl) ?_
      refine zx_iload_n (pc := 21) G 2 rfl rfl (z_dec T_X12_rounds_ok 13 (21, .iload_n 2, 1) rfl) ?_
      refine zx_iload_n (pc := 22) G 3 rfl rfl (z_dec T_X12_rounds_ok 14 (22, .iload_n 3, 1) rfl) ?_
      refine zx_callS_iN (pc := 23) (rm := rm_X12_cellOf) G cw_RX12_188 ⟨Nat.le_of_ble_eq_true rfl, Nat.le_of_ble_eq_true rfl⟩ rfl rfl ⟨Nat.zero_le _, Nat.zero_le _⟩ (fun sz => (met_X12_cellOf l D ρ kd q μ sz v1 v2 v3 _ hI h)) rfl rfl (Nat.le_of_ble_eq_true rfl) (z_dec T_X12_rounds_ok 15 (23, .invokestatic 188, 3) rfl) (fun r3 μ2 hn => ?_)
      clear h
      have h := hn
      clear hn
      obtain ⟨c4, h⟩ := h
      refine zx_iald (pc := 26) G (zk_12_16 hI f_l0) c4 (z_dec T_X12_rounds_ok 16 (26, .iaload, 1) rfl) ?_
      refine zx_iconst (pc := 27) (v := -1) G (z_dec T_X12_rounds_ok 17 (27, .iconst (-1), 1) rfl) rfl ?_
      refine zx_icmp_eq (pc := 28) (tgt := 46) G rfl (z_dec T_X12_rounds_ok 18 (28, .if_icmp .eq 18, 3) rfl) (fun hc => ?_) (fun hc => ?_)
      · replace h := z_pos hc h
        refine zx_iinc (pc := 46) (v := v3 + 1) (lv' := [(3, .int (v3 + 1)), (0, .ref (0)), (1, .int (v1)), (2, .int (v2))]) G 3 rfl (z_inc (by decide)) (Nat.le_of_ble_eq_true rfl) rfl (z_dec T_X12_rounds_ok 28 (46, .iinc 3 1, 3) rfl) ?_
        refine zx_goto (pc := 49) (tgt := 6) G rfl (z_dec T_X12_rounds_ok 29 (49, .goto (-43), 3) rfl) ?_
        refine zx_sub (lv' := [(0, .ref (0)), (1, .int (v1)), (2, .int (v2)), (3, .int (v3 + 1))]) [1, 2, 3, 0] rfl ?_
        exact hP6 _ _ _ _ h f_l0
      · replace h := z_neg hc h
        refine zx_aload_n (pc := 31) G (some (0)) 0 rfl rfl (z_dec T_X12_rounds_ok 19 (31, .aload_n 0, 1) rfl) ?_
        refine zx_aload_n (pc := 32) G (some (0)) 0 rfl rfl (z_dec T_X12_rounds_ok 20 (32, .aload_n 0, 1) rfl) ?_
        refine zx_getF (pc := 33) (b := 17) G gf_RX12_42 rfl f_l0 (zq_12_16 hI f_l0) (z_dec T_X12_rounds_ok 21 (33, .getfield 42, 3) rfl) ?_
        refine zx_iload_n (pc := 36) G 1 rfl rfl (z_dec T_X12_rounds_ok 22 (36, .iload_n 1, 1) rfl) ?_
        refine zx_iload_n (pc := 37) G 2 rfl rfl (z_dec T_X12_rounds_ok 23 (37, .iload_n 2, 1) rfl) ?_
        refine zx_iload_n (pc := 38) G 3 rfl rfl (z_dec T_X12_rounds_ok 24 (38, .iload_n 3, 1) rfl) ?_
        refine zx_callS_iN (pc := 39) (rm := rm_X12_cellOf) G cw_RX12_188 ⟨Nat.le_of_ble_eq_true rfl, Nat.le_of_ble_eq_true rfl⟩ rfl rfl ⟨Nat.zero_le _, Nat.zero_le _⟩ (fun sz => (met_X12_cellOf l D ρ kd q μ2 sz v1 v2 v3 _ hI h)) rfl rfl (Nat.le_of_ble_eq_true rfl) (z_dec T_X12_rounds_ok 25 (39, .invokestatic 188, 3) rfl) (fun r6 μ5 hn => ?_)
        clear h
        have h := hn
        clear hn
        obtain ⟨c7, h⟩ := h
        refine zx_iald (pc := 42) G (zk_12_16 hI f_l0) c7 (z_dec T_X12_rounds_ok 26 (42, .iaload, 1) rfl) ?_
        refine zx_callV_vN (pc := 43) (rm := rm_X12_adds) G cw_RX12_254 ⟨Nat.le_of_ble_eq_true rfl, Nat.le_of_ble_eq_true rfl⟩ rfl rfl ⟨Nat.zero_le _, Nat.zero_le _⟩ f_l0 rfl (fun sz => (met_X12_adds l D ρ kd q μ5 sz (μ5.1 17 r6.toNatClampNeg) _ hI f_l0 h)) rfl rfl (Nat.le_of_ble_eq_true rfl) (z_dec T_X12_rounds_ok 27 (43, .invokevirtual 254, 3) rfl) (fun μ8 hn => ?_)
        clear h
        have h := hn
        clear hn
        refine zx_iinc (pc := 46) (v := v3 + 1) (lv' := [(3, .int (v3 + 1)), (0, .ref (0)), (1, .int (v1)), (2, .int (v2))]) G 3 rfl (z_inc (by decide)) (Nat.le_of_ble_eq_true rfl) rfl (z_dec T_X12_rounds_ok 28 (46, .iinc 3 1, 3) rfl) ?_
        refine zx_goto (pc := 49) (tgt := 6) G rfl (z_dec T_X12_rounds_ok 29 (49, .goto (-43), 3) rfl) ?_
        refine zx_sub (lv' := [(0, .ref (0)), (1, .int (v1)), (2, .int (v2)), (3, .int (v3 + 1))]) [1, 2, 3, 0] rfl ?_
        exact hP6 _ _ _ _ h f_l0
set_option maxRecDepth 100000 in
set_option maxHeartbeats 4000000 in
theorem L_X12_rounds_6_ok {p : Program} {l : Launch} {e : Env} {s : State} {m : MethodId} {args : Array Value} {below : List Frame} {meth : Method} {c : Code} {D : va_G} {A : Nat → Prop} {ρ : z_A} {kd : z_K} {q : z_Q} {μ : z_M} {K : z_M → Prop} {v1 : Int32} {v2 : Int32} {v3 : Int32} (G : z_G p c cX12_rounds s m args RX12 4 D) (hr : meth.sig.returnType = (Option.none : Option Jvm.ClassFile.FieldType)) (hlk : meth.locks = false) (hI : z_I kd q) (f_l0 : kd 0 = some (.inl 12)) (h : L_X12_rounds_6 K v1 v2 v3 μ) : z_X p l e rm_X12_rounds s m args below meth c 4 D A (MQ below (z_Qn D A ρ kd (z_Kv q K)) args s 0 0 A) 0 0 ρ kd q μ 6 [(0, .ref (0)), (1, .int (v1)), (2, .int (v2)), (3, .int (v3))] [] :=
  h (fun (v1 : Int32) (v2 : Int32) (v3 : Int32) (μ : z_M) => (kd 0 = some (.inl 12)) → z_X p l e rm_X12_rounds s m args below meth c 4 D A (MQ below (z_Qn D A ρ kd (z_Kv q K)) args s 0 0 A) 0 0 ρ kd q μ 6 [(0, .ref (0)), (1, .int (v1)), (2, .int (v2)), (3, .int (v3))] []) (fun v1 v2 v3 μ h f_l0 => B_X12_rounds_6_ok G hr hlk (fun _ _ _ _ h => h) hI f_l0 h) f_l0
set_option maxRecDepth 100000 in
set_option maxHeartbeats 4000000 in
theorem met_X12_rounds (l : Launch) (D : va_G) (ρ : z_A) (kd : z_K) (q : z_Q) (μ : z_M) (sz : Nat) (a1 : Int32) (a2 : Int32) (K : z_M → Prop) (hI : z_I kd q) (h_o : kd 0 = some (.inl 12)) (h : C_X12_rounds a1 a2 μ K) : Met l yX12_rounds (z_ws yX12_rounds cX12_rounds 4 (Option.none : Option Jvm.ClassFile.FieldType)) rm_X12_rounds (z_Pc D ρ kd q μ sz [.ref (0), .int (a1), .int (a2)]) (z_Qn D (z_Rg ρ sz) ρ kd (z_Kv q K)) 0 0 (z_Rg ρ sz) := by
  refine z_met (rm := rm_X12_rounds) (by decide) (Nat.le_of_ble_eq_true rfl) (fun p e s m args below meth c G hr hlk => ?_)
  unfold C_X12_rounds at h
  show z_X _ _ _ _ _ _ _ _ _ _ _ _ _ _ _ _ _ _ _ _ _ [(0, .ref (0)), (1, .int (a1)), (2, .int (a2))] _
  refine zx_aload_n (pc := 0) G (some (0)) 0 rfl rfl (z_dec T_X12_rounds_ok 0 (0, .aload_n 0, 1) rfl) ?_
  refine zx_callV_vN (pc := 1) (rm := rm_X12_begins) G cw_RX12_251 ⟨Nat.le_of_ble_eq_true rfl, Nat.le_of_ble_eq_true rfl⟩ rfl rfl ⟨Nat.zero_le _, Nat.zero_le _⟩ h_o rfl (fun sz => (met_X12_begins l D ρ kd q μ sz  _ hI h_o h)) rfl rfl (Nat.le_of_ble_eq_true rfl) (z_dec T_X12_rounds_ok 1 (1, .invokevirtual 251, 3) rfl) (fun μ1 hn => ?_)
  clear h
  have h := hn
  clear hn
  refine zx_iconst (pc := 4) (v := 0) G (z_dec T_X12_rounds_ok 2 (4, .iconst 0, 1) rfl) rfl ?_
  refine zx_istore_n (pc := 5) (lv' := [(3, .int ((0 : Int32))), (0, .ref (0)), (1, .int (a1)), (2, .int (a2))]) G rfl (Nat.le_of_ble_eq_true rfl) rfl (z_dec T_X12_rounds_ok 3 (5, .istore_n 3, 1) rfl) ?_
  refine zx_sub (lv' := [(0, .ref (0)), (1, .int (a1)), (2, .int (a2)), (3, .int ((0 : Int32)))]) [1, 2, 3, 0] rfl ?_
  exact L_X12_rounds_6_ok G hr hlk hI h_o h
abbrev rm_X12_valueOf : Room := { frames := 6, cells := 0, slots := 0, locals := 139 }
set_option maxRecDepth 100000 in
set_option maxHeartbeats 4000000 in
theorem met_X12_valueOf (l : Launch) (D : va_G) (ρ : z_A) (kd : z_K) (q : z_Q) (μ : z_M) (sz : Nat) (a1 : Int32) (K : Int64 → z_M → Prop) (hI : z_I kd q) (h_o : kd 0 = some (.inl 12)) (h : C_X12_valueOf a1 μ K) : Met l yX12_valueOf (z_ws yX12_valueOf cX12_valueOf 3 (Option.some Jvm.ClassFile.FieldType.long)) rm_X12_valueOf (z_Pc D ρ kd q μ sz [.ref (0), .int (a1)]) (z_Qn D (z_Rg ρ sz) ρ kd (z_Kl q K)) 0 0 (z_Rg ρ sz) := by
  refine z_met (rm := rm_X12_valueOf) (by decide) (Nat.le_of_ble_eq_true rfl) (fun p e s m args below meth c G hr hlk => ?_)
  unfold C_X12_valueOf at h
  show z_X _ _ _ _ _ _ _ _ _ _ _ _ _ _ _ _ _ _ _ _ _ [(0, .ref (0)), (1, .int (a1))] _
  refine zx_aload_n (pc := 0) G (some (0)) 0 rfl rfl (z_dec T_X12_valueOf_ok 0 (0, .aload_n 0, 1) rfl) ?_
  refine zx_getF (pc := 1) (b := 17) G gf_RX12_42 rfl h_o (zq_12_16 hI h_o) (z_dec T_X12_valueOf_ok 1 (1, .getfield 42, 3) rfl) ?_
  refine zx_aload_n (pc := 4) G (some (0)) 0 rfl rfl (z_dec T_X12_valueOf_ok 2 (4, .aload_n 0, 1) rfl) ?_
  refine zx_getI (pc := 5) G gf_RX12_367 rfl h_o (z_dec T_X12_valueOf_ok 3 (5, .getfield 367, 3) rfl) ?_
  refine zx_aload_n (pc := 8) G (some (0)) 0 rfl rfl (z_dec T_X12_valueOf_ok 4 (8, .aload_n 0, 1) rfl) ?_
  refine zx_getI (pc := 9) G gf_RX12_370 rfl h_o (z_dec T_X12_valueOf_ok 5 (9, .getfield 370, 3) rfl) ?_
  refine zx_aload_n (pc := 12) G (some (0)) 0 rfl rfl (z_dec T_X12_valueOf_ok 6 (12, .aload_n 0, 1) rfl) ?_
  refine zx_getI (pc := 13) G gf_RX12_373 rfl h_o (z_dec T_X12_valueOf_ok 7 (13, .getfield 373, 3) rfl) ?_
  refine zx_callS_iN (pc := 16) (rm := rm_X12_cellOf) G cw_RX12_188 ⟨Nat.le_of_ble_eq_true rfl, Nat.le_of_ble_eq_true rfl⟩ rfl rfl ⟨Nat.zero_le _, Nat.zero_le _⟩ (fun sz => (met_X12_cellOf l D ρ kd q μ sz (μ.1 0 54) (μ.1 0 55) (μ.1 0 56) _ hI h)) rfl rfl (Nat.le_of_ble_eq_true rfl) (z_dec T_X12_valueOf_ok 8 (16, .invokestatic 188, 3) rfl) (fun r2 μ1 hn => ?_)
  clear h
  have h := hn
  clear hn
  obtain ⟨c3, h⟩ := h
  refine zx_iald (pc := 19) G (zk_12_16 hI h_o) c3 (z_dec T_X12_valueOf_ok 9 (19, .iaload, 1) rfl) ?_
  refine zx_istore_n (pc := 20) (lv' := [(2, .int (μ1.1 17 r2.toNatClampNeg)), (0, .ref (0)), (1, .int (a1))]) G rfl (Nat.le_of_ble_eq_true rfl) rfl (z_dec T_X12_valueOf_ok 10 (20, .istore_n 2, 1) rfl) ?_
  refine zx_iload_n (pc := 21) G 2 rfl rfl (z_dec T_X12_valueOf_ok 11 (21, .iload_n 1, 1) rfl) ?_
  by_cases n4 : a1 = 104
  · replace h := z_pos n4 h
    refine zx_tableIn (pc := 22) (tgt := 112) (off := 90) G (by rw [n4]; decide) (by rw [n4]; decide) (by rw [n4]; rfl) rfl (z_dec T_X12_valueOf_ok 12 (22, .tableswitch 193 104 122 #[90, 96, 193, 110, 193, 136, 175, 193, 193, 142, 193, 193, 161, 193, 193, 193, 193, 193, 123], 90) rfl) ?_
    refine zx_aload_n (pc := 112) G (some (0)) 1 rfl rfl (z_dec T_X12_valueOf_ok 13 (112, .aload_n 0, 1) rfl) ?_
    refine zx_getI (pc := 113) G gf_RX12_373 rfl h_o (z_dec T_X12_valueOf_ok 14 (113, .getfield 373, 3) rfl) ?_
    refine zx_i2l (pc := 116) G  (z_dec T_X12_valueOf_ok 15 (116, .i2l, 1) rfl) ?_
    exact zx_lret (pc := 117) G hr hlk (Nat.le_refl _) (Nat.le_refl _) (z_dec T_X12_valueOf_ok 16 (117, .lreturn, 1) rfl) ⟨rfl, _, rfl, h⟩
  replace h := z_neg n4 h
  by_cases n5 : a1 = 105
  · replace h := z_pos n5 h
    refine zx_tableIn (pc := 22) (tgt := 118) (off := 96) G (by rw [n5]; decide) (by rw [n5]; decide) (by rw [n5]; rfl) rfl (z_dec T_X12_valueOf_ok 12 (22, .tableswitch 193 104 122 #[90, 96, 193, 110, 193, 136, 175, 193, 193, 142, 193, 193, 161, 193, 193, 193, 193, 193, 123], 90) rfl) ?_
    refine zx_iload_n (pc := 118) G 0 rfl rfl (z_dec T_X12_valueOf_ok 17 (118, .iload_n 2, 1) rfl) ?_
    refine zx_iconst (pc := 119) (v := -1) G (z_dec T_X12_valueOf_ok 18 (119, .iconst (-1), 1) rfl) rfl ?_
    refine zx_icmp_ne (pc := 120) (tgt := 129) G rfl (z_dec T_X12_valueOf_ok 19 (120, .if_icmp .ne 9, 3) rfl) (fun hc => ?_) (fun hc => ?_)
    · replace h := z_neg hc h
      refine zx_iload_n (pc := 129) G 0 rfl rfl (z_dec T_X12_valueOf_ok 22 (129, .iload_n 2, 1) rfl) ?_
      refine zx_i2l (pc := 130) G  (z_dec T_X12_valueOf_ok 23 (130, .i2l, 1) rfl) ?_
      exact zx_lret (pc := 131) G hr hlk (Nat.le_refl _) (Nat.le_refl _) (z_dec T_X12_valueOf_ok 24 (131, .lreturn, 1) rfl) ⟨rfl, _, rfl, h⟩
    · replace h := z_pos hc h
      refine zx_ldc2 (pc := 123) G wk_RX12_174 (z_dec T_X12_valueOf_ok 20 (123, .ldc2_w 174, 3) rfl) ?_
      refine zx_goto (pc := 126) (tgt := 131) G rfl (z_dec T_X12_valueOf_ok 21 (126, .goto 5, 3) rfl) ?_
      exact zx_lret (pc := 131) G hr hlk (Nat.le_refl _) (Nat.le_refl _) (z_dec T_X12_valueOf_ok 24 (131, .lreturn, 1) rfl) ⟨rfl, _, rfl, h⟩
  replace h := z_neg n5 h
  by_cases n7 : a1 = 107
  · replace h := z_pos n7 h
    refine zx_tableIn (pc := 22) (tgt := 132) (off := 110) G (by rw [n7]; decide) (by rw [n7]; decide) (by rw [n7]; rfl) rfl (z_dec T_X12_valueOf_ok 12 (22, .tableswitch 193 104 122 #[90, 96, 193, 110, 193, 136, 175, 193, 193, 142, 193, 193, 161, 193, 193, 193, 193, 193, 123], 90) rfl) ?_
    refine zx_aload_n (pc := 132) G (some (0)) 1 rfl rfl (z_dec T_X12_valueOf_ok 25 (132, .aload_n 0, 1) rfl) ?_
    refine zx_getF (pc := 133) (b := 23) G gf_RX12_60 rfl h_o (zq_12_22 hI h_o) (z_dec T_X12_valueOf_ok 26 (133, .getfield 60, 3) rfl) ?_
    refine zx_aload_n (pc := 136) G (some (0)) 1 rfl rfl (z_dec T_X12_valueOf_ok 27 (136, .aload_n 0, 1) rfl) ?_
    refine zx_getI (pc := 137) G gf_RX12_196 rfl h_o (z_dec T_X12_valueOf_ok 28 (137, .getfield 196, 3) rfl) ?_
    refine zx_iconst (pc := 140) (v := 1) G (z_dec T_X12_valueOf_ok 29 (140, .iconst 1, 1) rfl) rfl ?_
    refine zx_isub (pc := 141) G  (z_dec T_X12_valueOf_ok 30 (141, .isub, 1) rfl) ?_
    obtain ⟨c6, h⟩ := h
    refine zx_iald (pc := 142) G (zk_12_22 hI h_o) c6 (z_dec T_X12_valueOf_ok 31 (142, .iaload, 1) rfl) ?_
    refine zx_i2l (pc := 143) G  (z_dec T_X12_valueOf_ok 32 (143, .i2l, 1) rfl) ?_
    exact zx_lret (pc := 144) G hr hlk (Nat.le_refl _) (Nat.le_refl _) (z_dec T_X12_valueOf_ok 33 (144, .lreturn, 1) rfl) ⟨rfl, _, rfl, h⟩
  replace h := z_neg n7 h
  by_cases n8 : a1 = 109
  · replace h := z_pos n8 h
    refine zx_tableIn (pc := 22) (tgt := 158) (off := 136) G (by rw [n8]; decide) (by rw [n8]; decide) (by rw [n8]; rfl) rfl (z_dec T_X12_valueOf_ok 12 (22, .tableswitch 193 104 122 #[90, 96, 193, 110, 193, 136, 175, 193, 193, 142, 193, 193, 161, 193, 193, 193, 193, 193, 123], 90) rfl) ?_
    refine zx_aload_n (pc := 158) G (some (0)) 1 rfl rfl (z_dec T_X12_valueOf_ok 43 (158, .aload_n 0, 1) rfl) ?_
    refine zx_getI (pc := 159) G gf_RX12_199 rfl h_o (z_dec T_X12_valueOf_ok 44 (159, .getfield 199, 3) rfl) ?_
    refine zx_i2l (pc := 162) G  (z_dec T_X12_valueOf_ok 45 (162, .i2l, 1) rfl) ?_
    exact zx_lret (pc := 163) G hr hlk (Nat.le_refl _) (Nat.le_refl _) (z_dec T_X12_valueOf_ok 46 (163, .lreturn, 1) rfl) ⟨rfl, _, rfl, h⟩
  replace h := z_neg n8 h
  by_cases n11 : a1 = 110
  · replace h := z_pos n11 h
    refine zx_tableIn (pc := 22) (tgt := 197) (off := 175) G (by rw [n11]; decide) (by rw [n11]; decide) (by rw [n11]; rfl) rfl (z_dec T_X12_valueOf_ok 12 (22, .tableswitch 193 104 122 #[90, 96, 193, 110, 193, 136, 175, 193, 193, 142, 193, 193, 161, 193, 193, 193, 193, 193, 123], 90) rfl) ?_
    refine zx_aload_n (pc := 197) G (some (0)) 1 rfl rfl (z_dec T_X12_valueOf_ok 66 (197, .aload_n 0, 1) rfl) ?_
    refine zx_aload_n (pc := 198) G (some (0)) 1 rfl rfl (z_dec T_X12_valueOf_ok 67 (198, .aload_n 0, 1) rfl) ?_
    refine zx_getI (pc := 199) G gf_RX12_367 rfl h_o (z_dec T_X12_valueOf_ok 68 (199, .getfield 367, 3) rfl) ?_
    refine zx_aload_n (pc := 202) G (some (0)) 1 rfl rfl (z_dec T_X12_valueOf_ok 69 (202, .aload_n 0, 1) rfl) ?_
    refine zx_getI (pc := 203) G gf_RX12_370 rfl h_o (z_dec T_X12_valueOf_ok 70 (203, .getfield 370, 3) rfl) ?_
    refine zx_aload_n (pc := 206) G (some (0)) 1 rfl rfl (z_dec T_X12_valueOf_ok 71 (206, .aload_n 0, 1) rfl) ?_
    refine zx_getI (pc := 207) G gf_RX12_373 rfl h_o (z_dec T_X12_valueOf_ok 72 (207, .getfield 373, 3) rfl) ?_
    refine zx_callV_iN (pc := 210) (rm := rm_X12_betsAt) G cw_RX12_376 ⟨Nat.le_of_ble_eq_true rfl, Nat.le_of_ble_eq_true rfl⟩ rfl rfl ⟨Nat.zero_le _, Nat.zero_le _⟩ h_o rfl (fun sz => (met_X12_betsAt l D ρ kd q μ1 sz (μ1.1 0 54) (μ1.1 0 55) (μ1.1 0 56) _ hI h_o h)) rfl rfl (Nat.le_of_ble_eq_true rfl) (z_dec T_X12_valueOf_ok 73 (210, .invokevirtual 376, 3) rfl) (fun r10 μ9 hn => ?_)
    clear h
    have h := hn
    clear hn
    refine zx_i2l (pc := 213) G  (z_dec T_X12_valueOf_ok 74 (213, .i2l, 1) rfl) ?_
    exact zx_lret (pc := 214) G hr hlk (Nat.le_refl _) (Nat.le_refl _) (z_dec T_X12_valueOf_ok 75 (214, .lreturn, 1) rfl) ⟨rfl, _, rfl, h⟩
  replace h := z_neg n11 h
  by_cases n14 : a1 = 113
  · replace h := z_pos n14 h
    refine zx_tableIn (pc := 22) (tgt := 164) (off := 142) G (by rw [n14]; decide) (by rw [n14]; decide) (by rw [n14]; rfl) rfl (z_dec T_X12_valueOf_ok 12 (22, .tableswitch 193 104 122 #[90, 96, 193, 110, 193, 136, 175, 193, 193, 142, 193, 193, 161, 193, 193, 193, 193, 193, 123], 90) rfl) ?_
    refine zx_aload_n (pc := 164) G (some (0)) 1 rfl rfl (z_dec T_X12_valueOf_ok 47 (164, .aload_n 0, 1) rfl) ?_
    refine zx_aload_n (pc := 165) G (some (0)) 1 rfl rfl (z_dec T_X12_valueOf_ok 48 (165, .aload_n 0, 1) rfl) ?_
    refine zx_getI (pc := 166) G gf_RX12_367 rfl h_o (z_dec T_X12_valueOf_ok 49 (166, .getfield 367, 3) rfl) ?_
    refine zx_aload_n (pc := 169) G (some (0)) 1 rfl rfl (z_dec T_X12_valueOf_ok 50 (169, .aload_n 0, 1) rfl) ?_
    refine zx_getI (pc := 170) G gf_RX12_370 rfl h_o (z_dec T_X12_valueOf_ok 51 (170, .getfield 370, 3) rfl) ?_
    refine zx_aload_n (pc := 173) G (some (0)) 1 rfl rfl (z_dec T_X12_valueOf_ok 52 (173, .aload_n 0, 1) rfl) ?_
    refine zx_getI (pc := 174) G gf_RX12_373 rfl h_o (z_dec T_X12_valueOf_ok 53 (174, .getfield 373, 3) rfl) ?_
    refine zx_callV_iN (pc := 177) (rm := rm_X12_balanceAt) G cw_RX12_233 ⟨Nat.le_of_ble_eq_true rfl, Nat.le_of_ble_eq_true rfl⟩ rfl rfl ⟨Nat.zero_le _, Nat.zero_le _⟩ h_o rfl (fun sz => (met_X12_balanceAt l D ρ kd q μ1 sz (μ1.1 0 54) (μ1.1 0 55) (μ1.1 0 56) _ hI h_o h)) rfl rfl (Nat.le_of_ble_eq_true rfl) (z_dec T_X12_valueOf_ok 54 (177, .invokevirtual 233, 3) rfl) (fun r13 μ12 hn => ?_)
    clear h
    have h := hn
    clear hn
    refine zx_ineg (pc := 180) G  (z_dec T_X12_valueOf_ok 55 (180, .ineg, 1) rfl) ?_
    refine zx_i2l (pc := 181) G  (z_dec T_X12_valueOf_ok 56 (181, .i2l, 1) rfl) ?_
    exact zx_lret (pc := 182) G hr hlk (Nat.le_refl _) (Nat.le_refl _) (z_dec T_X12_valueOf_ok 57 (182, .lreturn, 1) rfl) ⟨rfl, _, rfl, h⟩
  replace h := z_neg n14 h
  by_cases n17 : a1 = 116
  · replace h := z_pos n17 h
    refine zx_tableIn (pc := 22) (tgt := 183) (off := 161) G (by rw [n17]; decide) (by rw [n17]; decide) (by rw [n17]; rfl) rfl (z_dec T_X12_valueOf_ok 12 (22, .tableswitch 193 104 122 #[90, 96, 193, 110, 193, 136, 175, 193, 193, 142, 193, 193, 161, 193, 193, 193, 193, 193, 123], 90) rfl) ?_
    refine zx_aload_n (pc := 183) G (some (0)) 1 rfl rfl (z_dec T_X12_valueOf_ok 58 (183, .aload_n 0, 1) rfl) ?_
    refine zx_aload_n (pc := 184) G (some (0)) 1 rfl rfl (z_dec T_X12_valueOf_ok 59 (184, .aload_n 0, 1) rfl) ?_
    refine zx_getI (pc := 185) G gf_RX12_367 rfl h_o (z_dec T_X12_valueOf_ok 60 (185, .getfield 367, 3) rfl) ?_
    refine zx_aload_n (pc := 188) G (some (0)) 1 rfl rfl (z_dec T_X12_valueOf_ok 61 (188, .aload_n 0, 1) rfl) ?_
    refine zx_getI (pc := 189) G gf_RX12_370 rfl h_o (z_dec T_X12_valueOf_ok 62 (189, .getfield 370, 3) rfl) ?_
    refine zx_callV_iN (pc := 192) (rm := rm_X12_stakesOf) G cw_RX12_226 ⟨Nat.le_of_ble_eq_true rfl, Nat.le_of_ble_eq_true rfl⟩ rfl rfl ⟨Nat.zero_le _, Nat.zero_le _⟩ h_o rfl (fun sz => (met_X12_stakesOf l D ρ kd q μ1 sz (μ1.1 0 54) (μ1.1 0 55) _ hI h_o h)) rfl rfl (Nat.le_of_ble_eq_true rfl) (z_dec T_X12_valueOf_ok 63 (192, .invokevirtual 226, 3) rfl) (fun r16 μ15 hn => ?_)
    clear h
    have h := hn
    clear hn
    refine zx_i2l (pc := 195) G  (z_dec T_X12_valueOf_ok 64 (195, .i2l, 1) rfl) ?_
    exact zx_lret (pc := 196) G hr hlk (Nat.le_refl _) (Nat.le_refl _) (z_dec T_X12_valueOf_ok 65 (196, .lreturn, 1) rfl) ⟨rfl, _, rfl, h⟩
  replace h := z_neg n17 h
  by_cases n19 : a1 = 122
  · replace h := z_pos n19 h
    refine zx_tableIn (pc := 22) (tgt := 145) (off := 123) G (by rw [n19]; decide) (by rw [n19]; decide) (by rw [n19]; rfl) rfl (z_dec T_X12_valueOf_ok 12 (22, .tableswitch 193 104 122 #[90, 96, 193, 110, 193, 136, 175, 193, 193, 142, 193, 193, 161, 193, 193, 193, 193, 193, 123], 90) rfl) ?_
    refine zx_aload_n (pc := 145) G (some (0)) 1 rfl rfl (z_dec T_X12_valueOf_ok 34 (145, .aload_n 0, 1) rfl) ?_
    refine zx_getF (pc := 146) (b := 20) G gf_RX12_51 rfl h_o (zq_12_19 hI h_o) (z_dec T_X12_valueOf_ok 35 (146, .getfield 51, 3) rfl) ?_
    refine zx_aload_n (pc := 149) G (some (0)) 1 rfl rfl (z_dec T_X12_valueOf_ok 36 (149, .aload_n 0, 1) rfl) ?_
    refine zx_getI (pc := 150) G gf_RX12_196 rfl h_o (z_dec T_X12_valueOf_ok 37 (150, .getfield 196, 3) rfl) ?_
    refine zx_iconst (pc := 153) (v := 1) G (z_dec T_X12_valueOf_ok 38 (153, .iconst 1, 1) rfl) rfl ?_
    refine zx_isub (pc := 154) G  (z_dec T_X12_valueOf_ok 39 (154, .isub, 1) rfl) ?_
    obtain ⟨c18, h⟩ := h
    refine zx_iald (pc := 155) G (zk_12_19 hI h_o) c18 (z_dec T_X12_valueOf_ok 40 (155, .iaload, 1) rfl) ?_
    refine zx_i2l (pc := 156) G  (z_dec T_X12_valueOf_ok 41 (156, .i2l, 1) rfl) ?_
    exact zx_lret (pc := 157) G hr hlk (Nat.le_refl _) (Nat.le_refl _) (z_dec T_X12_valueOf_ok 42 (157, .lreturn, 1) rfl) ⟨rfl, _, rfl, h⟩
  replace h := z_neg n19 h
  -- default
  by_cases hr1 : a1.toInt < 104 ∨ 122 < a1.toInt
  · refine zx_tableOut (pc := 22) (tgt := 215) G hr1 rfl (z_dec T_X12_valueOf_ok 12 (22, .tableswitch 193 104 122 #[90, 96, 193, 110, 193, 136, 175, 193, 193, 142, 193, 193, 161, 193, 193, 193, 193, 193, 123], 90) rfl) ?_
    refine zx_aload_n (pc := 215) G (some (0)) 1 rfl rfl (z_dec T_X12_valueOf_ok 76 (215, .aload_n 0, 1) rfl) ?_
    refine zx_aload_n (pc := 216) G (some (0)) 1 rfl rfl (z_dec T_X12_valueOf_ok 77 (216, .aload_n 0, 1) rfl) ?_
    refine zx_getI (pc := 217) G gf_RX12_367 rfl h_o (z_dec T_X12_valueOf_ok 78 (217, .getfield 367, 3) rfl) ?_
    refine zx_aload_n (pc := 220) G (some (0)) 1 rfl rfl (z_dec T_X12_valueOf_ok 79 (220, .aload_n 0, 1) rfl) ?_
    refine zx_getI (pc := 221) G gf_RX12_370 rfl h_o (z_dec T_X12_valueOf_ok 80 (221, .getfield 370, 3) rfl) ?_
    refine zx_callV_vN (pc := 224) (rm := rm_X12_rounds) G cw_RX12_257 ⟨Nat.le_of_ble_eq_true rfl, Nat.le_of_ble_eq_true rfl⟩ rfl rfl ⟨Nat.zero_le _, Nat.zero_le _⟩ h_o rfl (fun sz => (met_X12_rounds l D ρ kd q μ1 sz (μ1.1 0 54) (μ1.1 0 55) _ hI h_o h)) rfl rfl (Nat.le_of_ble_eq_true rfl) (z_dec T_X12_valueOf_ok 81 (224, .invokevirtual 257, 3) rfl) (fun μ20 hn => ?_)
    clear h
    have h := hn
    clear hn
    refine zx_ldc2 (pc := 227) G wk_RX12_379 (z_dec T_X12_valueOf_ok 82 (227, .ldc2_w 379, 3) rfl) ?_
    refine zx_aload_n (pc := 230) G (some (0)) 1 rfl rfl (z_dec T_X12_valueOf_ok 83 (230, .aload_n 0, 1) rfl) ?_
    refine zx_getL (pc := 231) G gf_RX12_240 rfl h_o (z_dec T_X12_valueOf_ok 84 (231, .getfield 240, 3) rfl) ?_
    refine zx_lmul (pc := 234) G  (z_dec T_X12_valueOf_ok 85 (234, .lmul, 1) rfl) ?_
    refine zx_aload_n (pc := 235) G (some (0)) 1 rfl rfl (z_dec T_X12_valueOf_ok 86 (235, .aload_n 0, 1) rfl) ?_
    refine zx_getL (pc := 236) G gf_RX12_244 rfl h_o (z_dec T_X12_valueOf_ok 87 (236, .getfield 244, 3) rfl) ?_
    obtain ⟨c21, h⟩ := h
    refine zx_ldiv (pc := 239) G c21 (z_dec T_X12_valueOf_ok 88 (239, .ldiv, 1) rfl) ?_
    exact zx_lret (pc := 240) G hr hlk (Nat.le_refl _) (Nat.le_refl _) (z_dec T_X12_valueOf_ok 89 (240, .lreturn, 1) rfl) ⟨rfl, _, rfl, h⟩
  · have hd : a1 = 106 ∨ a1 = 108 ∨ a1 = 111 ∨ a1 = 112 ∨ a1 = 114 ∨ a1 = 115 ∨ a1 = 117 ∨ a1 = 118 ∨ a1 = 119 ∨ a1 = 120 ∨ a1 = 121 := by
      have t1 : ¬ a1.toInt < 104 := fun q => hr1 (Or.inl q)
      have t2 : ¬ 122 < a1.toInt := fun q => hr1 (Or.inr q)
      have u104 : ¬ a1.toInt = 104 := lv_neT n4 rfl
      have u105 : ¬ a1.toInt = 105 := lv_neT n5 rfl
      have u107 : ¬ a1.toInt = 107 := lv_neT n7 rfl
      have u109 : ¬ a1.toInt = 109 := lv_neT n8 rfl
      have u110 : ¬ a1.toInt = 110 := lv_neT n11 rfl
      have u113 : ¬ a1.toInt = 113 := lv_neT n14 rfl
      have u116 : ¬ a1.toInt = 116 := lv_neT n17 rfl
      have u122 : ¬ a1.toInt = 122 := lv_neT n19 rfl
      have b106 : a1 = 106 ↔ a1.toInt = 106 := ⟨fun q => by rw [q]; rfl, fun q => Int32.toInt_inj.mp (by rw [q]; rfl)⟩
      have b108 : a1 = 108 ↔ a1.toInt = 108 := ⟨fun q => by rw [q]; rfl, fun q => Int32.toInt_inj.mp (by rw [q]; rfl)⟩
      have b111 : a1 = 111 ↔ a1.toInt = 111 := ⟨fun q => by rw [q]; rfl, fun q => Int32.toInt_inj.mp (by rw [q]; rfl)⟩
      have b112 : a1 = 112 ↔ a1.toInt = 112 := ⟨fun q => by rw [q]; rfl, fun q => Int32.toInt_inj.mp (by rw [q]; rfl)⟩
      have b114 : a1 = 114 ↔ a1.toInt = 114 := ⟨fun q => by rw [q]; rfl, fun q => Int32.toInt_inj.mp (by rw [q]; rfl)⟩
      have b115 : a1 = 115 ↔ a1.toInt = 115 := ⟨fun q => by rw [q]; rfl, fun q => Int32.toInt_inj.mp (by rw [q]; rfl)⟩
      have b117 : a1 = 117 ↔ a1.toInt = 117 := ⟨fun q => by rw [q]; rfl, fun q => Int32.toInt_inj.mp (by rw [q]; rfl)⟩
      have b118 : a1 = 118 ↔ a1.toInt = 118 := ⟨fun q => by rw [q]; rfl, fun q => Int32.toInt_inj.mp (by rw [q]; rfl)⟩
      have b119 : a1 = 119 ↔ a1.toInt = 119 := ⟨fun q => by rw [q]; rfl, fun q => Int32.toInt_inj.mp (by rw [q]; rfl)⟩
      have b120 : a1 = 120 ↔ a1.toInt = 120 := ⟨fun q => by rw [q]; rfl, fun q => Int32.toInt_inj.mp (by rw [q]; rfl)⟩
      have b121 : a1 = 121 ↔ a1.toInt = 121 := ⟨fun q => by rw [q]; rfl, fun q => Int32.toInt_inj.mp (by rw [q]; rfl)⟩
      simp only [b106, b108, b111, b112, b114, b115, b117, b118, b119, b120, b121]
      omega
    rcases hd with hd | hd | hd | hd | hd | hd | hd | hd | hd | hd | hd
    · refine zx_tableIn (pc := 22) (tgt := 215) (off := 193) G (by rw [hd]; decide) (by rw [hd]; decide) (by rw [hd]; rfl) rfl (z_dec T_X12_valueOf_ok 12 (22, .tableswitch 193 104 122 #[90, 96, 193, 110, 193, 136, 175, 193, 193, 142, 193, 193, 161, 193, 193, 193, 193, 193, 123], 90) rfl) ?_
      refine zx_aload_n (pc := 215) G (some (0)) 1 rfl rfl (z_dec T_X12_valueOf_ok 76 (215, .aload_n 0, 1) rfl) ?_
      refine zx_aload_n (pc := 216) G (some (0)) 1 rfl rfl (z_dec T_X12_valueOf_ok 77 (216, .aload_n 0, 1) rfl) ?_
      refine zx_getI (pc := 217) G gf_RX12_367 rfl h_o (z_dec T_X12_valueOf_ok 78 (217, .getfield 367, 3) rfl) ?_
      refine zx_aload_n (pc := 220) G (some (0)) 1 rfl rfl (z_dec T_X12_valueOf_ok 79 (220, .aload_n 0, 1) rfl) ?_
      refine zx_getI (pc := 221) G gf_RX12_370 rfl h_o (z_dec T_X12_valueOf_ok 80 (221, .getfield 370, 3) rfl) ?_
      refine zx_callV_vN (pc := 224) (rm := rm_X12_rounds) G cw_RX12_257 ⟨Nat.le_of_ble_eq_true rfl, Nat.le_of_ble_eq_true rfl⟩ rfl rfl ⟨Nat.zero_le _, Nat.zero_le _⟩ h_o rfl (fun sz => (met_X12_rounds l D ρ kd q μ1 sz (μ1.1 0 54) (μ1.1 0 55) _ hI h_o h)) rfl rfl (Nat.le_of_ble_eq_true rfl) (z_dec T_X12_valueOf_ok 81 (224, .invokevirtual 257, 3) rfl) (fun μ20 hn => ?_)
      clear h
      have h := hn
      clear hn
      refine zx_ldc2 (pc := 227) G wk_RX12_379 (z_dec T_X12_valueOf_ok 82 (227, .ldc2_w 379, 3) rfl) ?_
      refine zx_aload_n (pc := 230) G (some (0)) 1 rfl rfl (z_dec T_X12_valueOf_ok 83 (230, .aload_n 0, 1) rfl) ?_
      refine zx_getL (pc := 231) G gf_RX12_240 rfl h_o (z_dec T_X12_valueOf_ok 84 (231, .getfield 240, 3) rfl) ?_
      refine zx_lmul (pc := 234) G  (z_dec T_X12_valueOf_ok 85 (234, .lmul, 1) rfl) ?_
      refine zx_aload_n (pc := 235) G (some (0)) 1 rfl rfl (z_dec T_X12_valueOf_ok 86 (235, .aload_n 0, 1) rfl) ?_
      refine zx_getL (pc := 236) G gf_RX12_244 rfl h_o (z_dec T_X12_valueOf_ok 87 (236, .getfield 244, 3) rfl) ?_
      obtain ⟨c21, h⟩ := h
      refine zx_ldiv (pc := 239) G c21 (z_dec T_X12_valueOf_ok 88 (239, .ldiv, 1) rfl) ?_
      exact zx_lret (pc := 240) G hr hlk (Nat.le_refl _) (Nat.le_refl _) (z_dec T_X12_valueOf_ok 89 (240, .lreturn, 1) rfl) ⟨rfl, _, rfl, h⟩
    · refine zx_tableIn (pc := 22) (tgt := 215) (off := 193) G (by rw [hd]; decide) (by rw [hd]; decide) (by rw [hd]; rfl) rfl (z_dec T_X12_valueOf_ok 12 (22, .tableswitch 193 104 122 #[90, 96, 193, 110, 193, 136, 175, 193, 193, 142, 193, 193, 161, 193, 193, 193, 193, 193, 123], 90) rfl) ?_
      refine zx_aload_n (pc := 215) G (some (0)) 1 rfl rfl (z_dec T_X12_valueOf_ok 76 (215, .aload_n 0, 1) rfl) ?_
      refine zx_aload_n (pc := 216) G (some (0)) 1 rfl rfl (z_dec T_X12_valueOf_ok 77 (216, .aload_n 0, 1) rfl) ?_
      refine zx_getI (pc := 217) G gf_RX12_367 rfl h_o (z_dec T_X12_valueOf_ok 78 (217, .getfield 367, 3) rfl) ?_
      refine zx_aload_n (pc := 220) G (some (0)) 1 rfl rfl (z_dec T_X12_valueOf_ok 79 (220, .aload_n 0, 1) rfl) ?_
      refine zx_getI (pc := 221) G gf_RX12_370 rfl h_o (z_dec T_X12_valueOf_ok 80 (221, .getfield 370, 3) rfl) ?_
      refine zx_callV_vN (pc := 224) (rm := rm_X12_rounds) G cw_RX12_257 ⟨Nat.le_of_ble_eq_true rfl, Nat.le_of_ble_eq_true rfl⟩ rfl rfl ⟨Nat.zero_le _, Nat.zero_le _⟩ h_o rfl (fun sz => (met_X12_rounds l D ρ kd q μ1 sz (μ1.1 0 54) (μ1.1 0 55) _ hI h_o h)) rfl rfl (Nat.le_of_ble_eq_true rfl) (z_dec T_X12_valueOf_ok 81 (224, .invokevirtual 257, 3) rfl) (fun μ20 hn => ?_)
      clear h
      have h := hn
      clear hn
      refine zx_ldc2 (pc := 227) G wk_RX12_379 (z_dec T_X12_valueOf_ok 82 (227, .ldc2_w 379, 3) rfl) ?_
      refine zx_aload_n (pc := 230) G (some (0)) 1 rfl rfl (z_dec T_X12_valueOf_ok 83 (230, .aload_n 0, 1) rfl) ?_
      refine zx_getL (pc := 231) G gf_RX12_240 rfl h_o (z_dec T_X12_valueOf_ok 84 (231, .getfield 240, 3) rfl) ?_
      refine zx_lmul (pc := 234) G  (z_dec T_X12_valueOf_ok 85 (234, .lmul, 1) rfl) ?_
      refine zx_aload_n (pc := 235) G (some (0)) 1 rfl rfl (z_dec T_X12_valueOf_ok 86 (235, .aload_n 0, 1) rfl) ?_
      refine zx_getL (pc := 236) G gf_RX12_244 rfl h_o (z_dec T_X12_valueOf_ok 87 (236, .getfield 244, 3) rfl) ?_
      obtain ⟨c21, h⟩ := h
      refine zx_ldiv (pc := 239) G c21 (z_dec T_X12_valueOf_ok 88 (239, .ldiv, 1) rfl) ?_
      exact zx_lret (pc := 240) G hr hlk (Nat.le_refl _) (Nat.le_refl _) (z_dec T_X12_valueOf_ok 89 (240, .lreturn, 1) rfl) ⟨rfl, _, rfl, h⟩
    · refine zx_tableIn (pc := 22) (tgt := 215) (off := 193) G (by rw [hd]; decide) (by rw [hd]; decide) (by rw [hd]; rfl) rfl (z_dec T_X12_valueOf_ok 12 (22, .tableswitch 193 104 122 #[90, 96, 193, 110, 193, 136, 175, 193, 193, 142, 193, 193, 161, 193, 193, 193, 193, 193, 123], 90) rfl) ?_
      refine zx_aload_n (pc := 215) G (some (0)) 1 rfl rfl (z_dec T_X12_valueOf_ok 76 (215, .aload_n 0, 1) rfl) ?_
      refine zx_aload_n (pc := 216) G (some (0)) 1 rfl rfl (z_dec T_X12_valueOf_ok 77 (216, .aload_n 0, 1) rfl) ?_
      refine zx_getI (pc := 217) G gf_RX12_367 rfl h_o (z_dec T_X12_valueOf_ok 78 (217, .getfield 367, 3) rfl) ?_
      refine zx_aload_n (pc := 220) G (some (0)) 1 rfl rfl (z_dec T_X12_valueOf_ok 79 (220, .aload_n 0, 1) rfl) ?_
      refine zx_getI (pc := 221) G gf_RX12_370 rfl h_o (z_dec T_X12_valueOf_ok 80 (221, .getfield 370, 3) rfl) ?_
      refine zx_callV_vN (pc := 224) (rm := rm_X12_rounds) G cw_RX12_257 ⟨Nat.le_of_ble_eq_true rfl, Nat.le_of_ble_eq_true rfl⟩ rfl rfl ⟨Nat.zero_le _, Nat.zero_le _⟩ h_o rfl (fun sz => (met_X12_rounds l D ρ kd q μ1 sz (μ1.1 0 54) (μ1.1 0 55) _ hI h_o h)) rfl rfl (Nat.le_of_ble_eq_true rfl) (z_dec T_X12_valueOf_ok 81 (224, .invokevirtual 257, 3) rfl) (fun μ20 hn => ?_)
      clear h
      have h := hn
      clear hn
      refine zx_ldc2 (pc := 227) G wk_RX12_379 (z_dec T_X12_valueOf_ok 82 (227, .ldc2_w 379, 3) rfl) ?_
      refine zx_aload_n (pc := 230) G (some (0)) 1 rfl rfl (z_dec T_X12_valueOf_ok 83 (230, .aload_n 0, 1) rfl) ?_
      refine zx_getL (pc := 231) G gf_RX12_240 rfl h_o (z_dec T_X12_valueOf_ok 84 (231, .getfield 240, 3) rfl) ?_
      refine zx_lmul (pc := 234) G  (z_dec T_X12_valueOf_ok 85 (234, .lmul, 1) rfl) ?_
      refine zx_aload_n (pc := 235) G (some (0)) 1 rfl rfl (z_dec T_X12_valueOf_ok 86 (235, .aload_n 0, 1) rfl) ?_
      refine zx_getL (pc := 236) G gf_RX12_244 rfl h_o (z_dec T_X12_valueOf_ok 87 (236, .getfield 244, 3) rfl) ?_
      obtain ⟨c21, h⟩ := h
      refine zx_ldiv (pc := 239) G c21 (z_dec T_X12_valueOf_ok 88 (239, .ldiv, 1) rfl) ?_
      exact zx_lret (pc := 240) G hr hlk (Nat.le_refl _) (Nat.le_refl _) (z_dec T_X12_valueOf_ok 89 (240, .lreturn, 1) rfl) ⟨rfl, _, rfl, h⟩
    · refine zx_tableIn (pc := 22) (tgt := 215) (off := 193) G (by rw [hd]; decide) (by rw [hd]; decide) (by rw [hd]; rfl) rfl (z_dec T_X12_valueOf_ok 12 (22, .tableswitch 193 104 122 #[90, 96, 193, 110, 193, 136, 175, 193, 193, 142, 193, 193, 161, 193, 193, 193, 193, 193, 123], 90) rfl) ?_
      refine zx_aload_n (pc := 215) G (some (0)) 1 rfl rfl (z_dec T_X12_valueOf_ok 76 (215, .aload_n 0, 1) rfl) ?_
      refine zx_aload_n (pc := 216) G (some (0)) 1 rfl rfl (z_dec T_X12_valueOf_ok 77 (216, .aload_n 0, 1) rfl) ?_
      refine zx_getI (pc := 217) G gf_RX12_367 rfl h_o (z_dec T_X12_valueOf_ok 78 (217, .getfield 367, 3) rfl) ?_
      refine zx_aload_n (pc := 220) G (some (0)) 1 rfl rfl (z_dec T_X12_valueOf_ok 79 (220, .aload_n 0, 1) rfl) ?_
      refine zx_getI (pc := 221) G gf_RX12_370 rfl h_o (z_dec T_X12_valueOf_ok 80 (221, .getfield 370, 3) rfl) ?_
      refine zx_callV_vN (pc := 224) (rm := rm_X12_rounds) G cw_RX12_257 ⟨Nat.le_of_ble_eq_true rfl, Nat.le_of_ble_eq_true rfl⟩ rfl rfl ⟨Nat.zero_le _, Nat.zero_le _⟩ h_o rfl (fun sz => (met_X12_rounds l D ρ kd q μ1 sz (μ1.1 0 54) (μ1.1 0 55) _ hI h_o h)) rfl rfl (Nat.le_of_ble_eq_true rfl) (z_dec T_X12_valueOf_ok 81 (224, .invokevirtual 257, 3) rfl) (fun μ20 hn => ?_)
      clear h
      have h := hn
      clear hn
      refine zx_ldc2 (pc := 227) G wk_RX12_379 (z_dec T_X12_valueOf_ok 82 (227, .ldc2_w 379, 3) rfl) ?_
      refine zx_aload_n (pc := 230) G (some (0)) 1 rfl rfl (z_dec T_X12_valueOf_ok 83 (230, .aload_n 0, 1) rfl) ?_
      refine zx_getL (pc := 231) G gf_RX12_240 rfl h_o (z_dec T_X12_valueOf_ok 84 (231, .getfield 240, 3) rfl) ?_
      refine zx_lmul (pc := 234) G  (z_dec T_X12_valueOf_ok 85 (234, .lmul, 1) rfl) ?_
      refine zx_aload_n (pc := 235) G (some (0)) 1 rfl rfl (z_dec T_X12_valueOf_ok 86 (235, .aload_n 0, 1) rfl) ?_
      refine zx_getL (pc := 236) G gf_RX12_244 rfl h_o (z_dec T_X12_valueOf_ok 87 (236, .getfield 244, 3) rfl) ?_
      obtain ⟨c21, h⟩ := h
      refine zx_ldiv (pc := 239) G c21 (z_dec T_X12_valueOf_ok 88 (239, .ldiv, 1) rfl) ?_
      exact zx_lret (pc := 240) G hr hlk (Nat.le_refl _) (Nat.le_refl _) (z_dec T_X12_valueOf_ok 89 (240, .lreturn, 1) rfl) ⟨rfl, _, rfl, h⟩
    · refine zx_tableIn (pc := 22) (tgt := 215) (off := 193) G (by rw [hd]; decide) (by rw [hd]; decide) (by rw [hd]; rfl) rfl (z_dec T_X12_valueOf_ok 12 (22, .tableswitch 193 104 122 #[90, 96, 193, 110, 193, 136, 175, 193, 193, 142, 193, 193, 161, 193, 193, 193, 193, 193, 123], 90) rfl) ?_
      refine zx_aload_n (pc := 215) G (some (0)) 1 rfl rfl (z_dec T_X12_valueOf_ok 76 (215, .aload_n 0, 1) rfl) ?_
      refine zx_aload_n (pc := 216) G (some (0)) 1 rfl rfl (z_dec T_X12_valueOf_ok 77 (216, .aload_n 0, 1) rfl) ?_
      refine zx_getI (pc := 217) G gf_RX12_367 rfl h_o (z_dec T_X12_valueOf_ok 78 (217, .getfield 367, 3) rfl) ?_
      refine zx_aload_n (pc := 220) G (some (0)) 1 rfl rfl (z_dec T_X12_valueOf_ok 79 (220, .aload_n 0, 1) rfl) ?_
      refine zx_getI (pc := 221) G gf_RX12_370 rfl h_o (z_dec T_X12_valueOf_ok 80 (221, .getfield 370, 3) rfl) ?_
      refine zx_callV_vN (pc := 224) (rm := rm_X12_rounds) G cw_RX12_257 ⟨Nat.le_of_ble_eq_true rfl, Nat.le_of_ble_eq_true rfl⟩ rfl rfl ⟨Nat.zero_le _, Nat.zero_le _⟩ h_o rfl (fun sz => (met_X12_rounds l D ρ kd q μ1 sz (μ1.1 0 54) (μ1.1 0 55) _ hI h_o h)) rfl rfl (Nat.le_of_ble_eq_true rfl) (z_dec T_X12_valueOf_ok 81 (224, .invokevirtual 257, 3) rfl) (fun μ20 hn => ?_)
      clear h
      have h := hn
      clear hn
      refine zx_ldc2 (pc := 227) G wk_RX12_379 (z_dec T_X12_valueOf_ok 82 (227, .ldc2_w 379, 3) rfl) ?_
      refine zx_aload_n (pc := 230) G (some (0)) 1 rfl rfl (z_dec T_X12_valueOf_ok 83 (230, .aload_n 0, 1) rfl) ?_
      refine zx_getL (pc := 231) G gf_RX12_240 rfl h_o (z_dec T_X12_valueOf_ok 84 (231, .getfield 240, 3) rfl) ?_
      refine zx_lmul (pc := 234) G  (z_dec T_X12_valueOf_ok 85 (234, .lmul, 1) rfl) ?_
      refine zx_aload_n (pc := 235) G (some (0)) 1 rfl rfl (z_dec T_X12_valueOf_ok 86 (235, .aload_n 0, 1) rfl) ?_
      refine zx_getL (pc := 236) G gf_RX12_244 rfl h_o (z_dec T_X12_valueOf_ok 87 (236, .getfield 244, 3) rfl) ?_
      obtain ⟨c21, h⟩ := h
      refine zx_ldiv (pc := 239) G c21 (z_dec T_X12_valueOf_ok 88 (239, .ldiv, 1) rfl) ?_
      exact zx_lret (pc := 240) G hr hlk (Nat.le_refl _) (Nat.le_refl _) (z_dec T_X12_valueOf_ok 89 (240, .lreturn, 1) rfl) ⟨rfl, _, rfl, h⟩
    · refine zx_tableIn (pc := 22) (tgt := 215) (off := 193) G (by rw [hd]; decide) (by rw [hd]; decide) (by rw [hd]; rfl) rfl (z_dec T_X12_valueOf_ok 12 (22, .tableswitch 193 104 122 #[90, 96, 193, 110, 193, 136, 175, 193, 193, 142, 193, 193, 161, 193, 193, 193, 193, 193, 123], 90) rfl) ?_
      refine zx_aload_n (pc := 215) G (some (0)) 1 rfl rfl (z_dec T_X12_valueOf_ok 76 (215, .aload_n 0, 1) rfl) ?_
      refine zx_aload_n (pc := 216) G (some (0)) 1 rfl rfl (z_dec T_X12_valueOf_ok 77 (216, .aload_n 0, 1) rfl) ?_
      refine zx_getI (pc := 217) G gf_RX12_367 rfl h_o (z_dec T_X12_valueOf_ok 78 (217, .getfield 367, 3) rfl) ?_
      refine zx_aload_n (pc := 220) G (some (0)) 1 rfl rfl (z_dec T_X12_valueOf_ok 79 (220, .aload_n 0, 1) rfl) ?_
      refine zx_getI (pc := 221) G gf_RX12_370 rfl h_o (z_dec T_X12_valueOf_ok 80 (221, .getfield 370, 3) rfl) ?_
      refine zx_callV_vN (pc := 224) (rm := rm_X12_rounds) G cw_RX12_257 ⟨Nat.le_of_ble_eq_true rfl, Nat.le_of_ble_eq_true rfl⟩ rfl rfl ⟨Nat.zero_le _, Nat.zero_le _⟩ h_o rfl (fun sz => (met_X12_rounds l D ρ kd q μ1 sz (μ1.1 0 54) (μ1.1 0 55) _ hI h_o h)) rfl rfl (Nat.le_of_ble_eq_true rfl) (z_dec T_X12_valueOf_ok 81 (224, .invokevirtual 257, 3) rfl) (fun μ20 hn => ?_)
      clear h
      have h := hn
      clear hn
      refine zx_ldc2 (pc := 227) G wk_RX12_379 (z_dec T_X12_valueOf_ok 82 (227, .ldc2_w 379, 3) rfl) ?_
      refine zx_aload_n (pc := 230) G (some (0)) 1 rfl rfl (z_dec T_X12_valueOf_ok 83 (230, .aload_n 0, 1) rfl) ?_
      refine zx_getL (pc := 231) G gf_RX12_240 rfl h_o (z_dec T_X12_valueOf_ok 84 (231, .getfield 240, 3) rfl) ?_
      refine zx_lmul (pc := 234) G  (z_dec T_X12_valueOf_ok 85 (234, .lmul, 1) rfl) ?_
      refine zx_aload_n (pc := 235) G (some (0)) 1 rfl rfl (z_dec T_X12_valueOf_ok 86 (235, .aload_n 0, 1) rfl) ?_
      refine zx_getL (pc := 236) G gf_RX12_244 rfl h_o (z_dec T_X12_valueOf_ok 87 (236, .getfield 244, 3) rfl) ?_
      obtain ⟨c21, h⟩ := h
      refine zx_ldiv (pc := 239) G c21 (z_dec T_X12_valueOf_ok 88 (239, .ldiv, 1) rfl) ?_
      exact zx_lret (pc := 240) G hr hlk (Nat.le_refl _) (Nat.le_refl _) (z_dec T_X12_valueOf_ok 89 (240, .lreturn, 1) rfl) ⟨rfl, _, rfl, h⟩
    · refine zx_tableIn (pc := 22) (tgt := 215) (off := 193) G (by rw [hd]; decide) (by rw [hd]; decide) (by rw [hd]; rfl) rfl (z_dec T_X12_valueOf_ok 12 (22, .tableswitch 193 104 122 #[90, 96, 193, 110, 193, 136, 175, 193, 193, 142, 193, 193, 161, 193, 193, 193, 193, 193, 123], 90) rfl) ?_
      refine zx_aload_n (pc := 215) G (some (0)) 1 rfl rfl (z_dec T_X12_valueOf_ok 76 (215, .aload_n 0, 1) rfl) ?_
      refine zx_aload_n (pc := 216) G (some (0)) 1 rfl rfl (z_dec T_X12_valueOf_ok 77 (216, .aload_n 0, 1) rfl) ?_
      refine zx_getI (pc := 217) G gf_RX12_367 rfl h_o (z_dec T_X12_valueOf_ok 78 (217, .getfield 367, 3) rfl) ?_
      refine zx_aload_n (pc := 220) G (some (0)) 1 rfl rfl (z_dec T_X12_valueOf_ok 79 (220, .aload_n 0, 1) rfl) ?_
      refine zx_getI (pc := 221) G gf_RX12_370 rfl h_o (z_dec T_X12_valueOf_ok 80 (221, .getfield 370, 3) rfl) ?_
      refine zx_callV_vN (pc := 224) (rm := rm_X12_rounds) G cw_RX12_257 ⟨Nat.le_of_ble_eq_true rfl, Nat.le_of_ble_eq_true rfl⟩ rfl rfl ⟨Nat.zero_le _, Nat.zero_le _⟩ h_o rfl (fun sz => (met_X12_rounds l D ρ kd q μ1 sz (μ1.1 0 54) (μ1.1 0 55) _ hI h_o h)) rfl rfl (Nat.le_of_ble_eq_true rfl) (z_dec T_X12_valueOf_ok 81 (224, .invokevirtual 257, 3) rfl) (fun μ20 hn => ?_)
      clear h
      have h := hn
      clear hn
      refine zx_ldc2 (pc := 227) G wk_RX12_379 (z_dec T_X12_valueOf_ok 82 (227, .ldc2_w 379, 3) rfl) ?_
      refine zx_aload_n (pc := 230) G (some (0)) 1 rfl rfl (z_dec T_X12_valueOf_ok 83 (230, .aload_n 0, 1) rfl) ?_
      refine zx_getL (pc := 231) G gf_RX12_240 rfl h_o (z_dec T_X12_valueOf_ok 84 (231, .getfield 240, 3) rfl) ?_
      refine zx_lmul (pc := 234) G  (z_dec T_X12_valueOf_ok 85 (234, .lmul, 1) rfl) ?_
      refine zx_aload_n (pc := 235) G (some (0)) 1 rfl rfl (z_dec T_X12_valueOf_ok 86 (235, .aload_n 0, 1) rfl) ?_
      refine zx_getL (pc := 236) G gf_RX12_244 rfl h_o (z_dec T_X12_valueOf_ok 87 (236, .getfield 244, 3) rfl) ?_
      obtain ⟨c21, h⟩ := h
      refine zx_ldiv (pc := 239) G c21 (z_dec T_X12_valueOf_ok 88 (239, .ldiv, 1) rfl) ?_
      exact zx_lret (pc := 240) G hr hlk (Nat.le_refl _) (Nat.le_refl _) (z_dec T_X12_valueOf_ok 89 (240, .lreturn, 1) rfl) ⟨rfl, _, rfl, h⟩
    · refine zx_tableIn (pc := 22) (tgt := 215) (off := 193) G (by rw [hd]; decide) (by rw [hd]; decide) (by rw [hd]; rfl) rfl (z_dec T_X12_valueOf_ok 12 (22, .tableswitch 193 104 122 #[90, 96, 193, 110, 193, 136, 175, 193, 193, 142, 193, 193, 161, 193, 193, 193, 193, 193, 123], 90) rfl) ?_
      refine zx_aload_n (pc := 215) G (some (0)) 1 rfl rfl (z_dec T_X12_valueOf_ok 76 (215, .aload_n 0, 1) rfl) ?_
      refine zx_aload_n (pc := 216) G (some (0)) 1 rfl rfl (z_dec T_X12_valueOf_ok 77 (216, .aload_n 0, 1) rfl) ?_
      refine zx_getI (pc := 217) G gf_RX12_367 rfl h_o (z_dec T_X12_valueOf_ok 78 (217, .getfield 367, 3) rfl) ?_
      refine zx_aload_n (pc := 220) G (some (0)) 1 rfl rfl (z_dec T_X12_valueOf_ok 79 (220, .aload_n 0, 1) rfl) ?_
      refine zx_getI (pc := 221) G gf_RX12_370 rfl h_o (z_dec T_X12_valueOf_ok 80 (221, .getfield 370, 3) rfl) ?_
      refine zx_callV_vN (pc := 224) (rm := rm_X12_rounds) G cw_RX12_257 ⟨Nat.le_of_ble_eq_true rfl, Nat.le_of_ble_eq_true rfl⟩ rfl rfl ⟨Nat.zero_le _, Nat.zero_le _⟩ h_o rfl (fun sz => (met_X12_rounds l D ρ kd q μ1 sz (μ1.1 0 54) (μ1.1 0 55) _ hI h_o h)) rfl rfl (Nat.le_of_ble_eq_true rfl) (z_dec T_X12_valueOf_ok 81 (224, .invokevirtual 257, 3) rfl) (fun μ20 hn => ?_)
      clear h
      have h := hn
      clear hn
      refine zx_ldc2 (pc := 227) G wk_RX12_379 (z_dec T_X12_valueOf_ok 82 (227, .ldc2_w 379, 3) rfl) ?_
      refine zx_aload_n (pc := 230) G (some (0)) 1 rfl rfl (z_dec T_X12_valueOf_ok 83 (230, .aload_n 0, 1) rfl) ?_
      refine zx_getL (pc := 231) G gf_RX12_240 rfl h_o (z_dec T_X12_valueOf_ok 84 (231, .getfield 240, 3) rfl) ?_
      refine zx_lmul (pc := 234) G  (z_dec T_X12_valueOf_ok 85 (234, .lmul, 1) rfl) ?_
      refine zx_aload_n (pc := 235) G (some (0)) 1 rfl rfl (z_dec T_X12_valueOf_ok 86 (235, .aload_n 0, 1) rfl) ?_
      refine zx_getL (pc := 236) G gf_RX12_244 rfl h_o (z_dec T_X12_valueOf_ok 87 (236, .getfield 244, 3) rfl) ?_
      obtain ⟨c21, h⟩ := h
      refine zx_ldiv (pc := 239) G c21 (z_dec T_X12_valueOf_ok 88 (239, .ldiv, 1) rfl) ?_
      exact zx_lret (pc := 240) G hr hlk (Nat.le_refl _) (Nat.le_refl _) (z_dec T_X12_valueOf_ok 89 (240, .lreturn, 1) rfl) ⟨rfl, _, rfl, h⟩
    · refine zx_tableIn (pc := 22) (tgt := 215) (off := 193) G (by rw [hd]; decide) (by rw [hd]; decide) (by rw [hd]; rfl) rfl (z_dec T_X12_valueOf_ok 12 (22, .tableswitch 193 104 122 #[90, 96, 193, 110, 193, 136, 175, 193, 193, 142, 193, 193, 161, 193, 193, 193, 193, 193, 123], 90) rfl) ?_
      refine zx_aload_n (pc := 215) G (some (0)) 1 rfl rfl (z_dec T_X12_valueOf_ok 76 (215, .aload_n 0, 1) rfl) ?_
      refine zx_aload_n (pc := 216) G (some (0)) 1 rfl rfl (z_dec T_X12_valueOf_ok 77 (216, .aload_n 0, 1) rfl) ?_
      refine zx_getI (pc := 217) G gf_RX12_367 rfl h_o (z_dec T_X12_valueOf_ok 78 (217, .getfield 367, 3) rfl) ?_
      refine zx_aload_n (pc := 220) G (some (0)) 1 rfl rfl (z_dec T_X12_valueOf_ok 79 (220, .aload_n 0, 1) rfl) ?_
      refine zx_getI (pc := 221) G gf_RX12_370 rfl h_o (z_dec T_X12_valueOf_ok 80 (221, .getfield 370, 3) rfl) ?_
      refine zx_callV_vN (pc := 224) (rm := rm_X12_rounds) G cw_RX12_257 ⟨Nat.le_of_ble_eq_true rfl, Nat.le_of_ble_eq_true rfl⟩ rfl rfl ⟨Nat.zero_le _, Nat.zero_le _⟩ h_o rfl (fun sz => (met_X12_rounds l D ρ kd q μ1 sz (μ1.1 0 54) (μ1.1 0 55) _ hI h_o h)) rfl rfl (Nat.le_of_ble_eq_true rfl) (z_dec T_X12_valueOf_ok 81 (224, .invokevirtual 257, 3) rfl) (fun μ20 hn => ?_)
      clear h
      have h := hn
      clear hn
      refine zx_ldc2 (pc := 227) G wk_RX12_379 (z_dec T_X12_valueOf_ok 82 (227, .ldc2_w 379, 3) rfl) ?_
      refine zx_aload_n (pc := 230) G (some (0)) 1 rfl rfl (z_dec T_X12_valueOf_ok 83 (230, .aload_n 0, 1) rfl) ?_
      refine zx_getL (pc := 231) G gf_RX12_240 rfl h_o (z_dec T_X12_valueOf_ok 84 (231, .getfield 240, 3) rfl) ?_
      refine zx_lmul (pc := 234) G  (z_dec T_X12_valueOf_ok 85 (234, .lmul, 1) rfl) ?_
      refine zx_aload_n (pc := 235) G (some (0)) 1 rfl rfl (z_dec T_X12_valueOf_ok 86 (235, .aload_n 0, 1) rfl) ?_
      refine zx_getL (pc := 236) G gf_RX12_244 rfl h_o (z_dec T_X12_valueOf_ok 87 (236, .getfield 244, 3) rfl) ?_
      obtain ⟨c21, h⟩ := h
      refine zx_ldiv (pc := 239) G c21 (z_dec T_X12_valueOf_ok 88 (239, .ldiv, 1) rfl) ?_
      exact zx_lret (pc := 240) G hr hlk (Nat.le_refl _) (Nat.le_refl _) (z_dec T_X12_valueOf_ok 89 (240, .lreturn, 1) rfl) ⟨rfl, _, rfl, h⟩
    · refine zx_tableIn (pc := 22) (tgt := 215) (off := 193) G (by rw [hd]; decide) (by rw [hd]; decide) (by rw [hd]; rfl) rfl (z_dec T_X12_valueOf_ok 12 (22, .tableswitch 193 104 122 #[90, 96, 193, 110, 193, 136, 175, 193, 193, 142, 193, 193, 161, 193, 193, 193, 193, 193, 123], 90) rfl) ?_
      refine zx_aload_n (pc := 215) G (some (0)) 1 rfl rfl (z_dec T_X12_valueOf_ok 76 (215, .aload_n 0, 1) rfl) ?_
      refine zx_aload_n (pc := 216) G (some (0)) 1 rfl rfl (z_dec T_X12_valueOf_ok 77 (216, .aload_n 0, 1) rfl) ?_
      refine zx_getI (pc := 217) G gf_RX12_367 rfl h_o (z_dec T_X12_valueOf_ok 78 (217, .getfield 367, 3) rfl) ?_
      refine zx_aload_n (pc := 220) G (some (0)) 1 rfl rfl (z_dec T_X12_valueOf_ok 79 (220, .aload_n 0, 1) rfl) ?_
      refine zx_getI (pc := 221) G gf_RX12_370 rfl h_o (z_dec T_X12_valueOf_ok 80 (221, .getfield 370, 3) rfl) ?_
      refine zx_callV_vN (pc := 224) (rm := rm_X12_rounds) G cw_RX12_257 ⟨Nat.le_of_ble_eq_true rfl, Nat.le_of_ble_eq_true rfl⟩ rfl rfl ⟨Nat.zero_le _, Nat.zero_le _⟩ h_o rfl (fun sz => (met_X12_rounds l D ρ kd q μ1 sz (μ1.1 0 54) (μ1.1 0 55) _ hI h_o h)) rfl rfl (Nat.le_of_ble_eq_true rfl) (z_dec T_X12_valueOf_ok 81 (224, .invokevirtual 257, 3) rfl) (fun μ20 hn => ?_)
      clear h
      have h := hn
      clear hn
      refine zx_ldc2 (pc := 227) G wk_RX12_379 (z_dec T_X12_valueOf_ok 82 (227, .ldc2_w 379, 3) rfl) ?_
      refine zx_aload_n (pc := 230) G (some (0)) 1 rfl rfl (z_dec T_X12_valueOf_ok 83 (230, .aload_n 0, 1) rfl) ?_
      refine zx_getL (pc := 231) G gf_RX12_240 rfl h_o (z_dec T_X12_valueOf_ok 84 (231, .getfield 240, 3) rfl) ?_
      refine zx_lmul (pc := 234) G  (z_dec T_X12_valueOf_ok 85 (234, .lmul, 1) rfl) ?_
      refine zx_aload_n (pc := 235) G (some (0)) 1 rfl rfl (z_dec T_X12_valueOf_ok 86 (235, .aload_n 0, 1) rfl) ?_
      refine zx_getL (pc := 236) G gf_RX12_244 rfl h_o (z_dec T_X12_valueOf_ok 87 (236, .getfield 244, 3) rfl) ?_
      obtain ⟨c21, h⟩ := h
      refine zx_ldiv (pc := 239) G c21 (z_dec T_X12_valueOf_ok 88 (239, .ldiv, 1) rfl) ?_
      exact zx_lret (pc := 240) G hr hlk (Nat.le_refl _) (Nat.le_refl _) (z_dec T_X12_valueOf_ok 89 (240, .lreturn, 1) rfl) ⟨rfl, _, rfl, h⟩
    · refine zx_tableIn (pc := 22) (tgt := 215) (off := 193) G (by rw [hd]; decide) (by rw [hd]; decide) (by rw [hd]; rfl) rfl (z_dec T_X12_valueOf_ok 12 (22, .tableswitch 193 104 122 #[90, 96, 193, 110, 193, 136, 175, 193, 193, 142, 193, 193, 161, 193, 193, 193, 193, 193, 123], 90) rfl) ?_
      refine zx_aload_n (pc := 215) G (some (0)) 1 rfl rfl (z_dec T_X12_valueOf_ok 76 (215, .aload_n 0, 1) rfl) ?_
      refine zx_aload_n (pc := 216) G (some (0)) 1 rfl rfl (z_dec T_X12_valueOf_ok 77 (216, .aload_n 0, 1) rfl) ?_
      refine zx_getI (pc := 217) G gf_RX12_367 rfl h_o (z_dec T_X12_valueOf_ok 78 (217, .getfield 367, 3) rfl) ?_
      refine zx_aload_n (pc := 220) G (some (0)) 1 rfl rfl (z_dec T_X12_valueOf_ok 79 (220, .aload_n 0, 1) rfl) ?_
      refine zx_getI (pc := 221) G gf_RX12_370 rfl h_o (z_dec T_X12_valueOf_ok 80 (221, .getfield 370, 3) rfl) ?_
      refine zx_callV_vN (pc := 224) (rm := rm_X12_rounds) G cw_RX12_257 ⟨Nat.le_of_ble_eq_true rfl, Nat.le_of_ble_eq_true rfl⟩ rfl rfl ⟨Nat.zero_le _, Nat.zero_le _⟩ h_o rfl (fun sz => (met_X12_rounds l D ρ kd q μ1 sz (μ1.1 0 54) (μ1.1 0 55) _ hI h_o h)) rfl rfl (Nat.le_of_ble_eq_true rfl) (z_dec T_X12_valueOf_ok 81 (224, .invokevirtual 257, 3) rfl) (fun μ20 hn => ?_)
      clear h
      have h := hn
      clear hn
      refine zx_ldc2 (pc := 227) G wk_RX12_379 (z_dec T_X12_valueOf_ok 82 (227, .ldc2_w 379, 3) rfl) ?_
      refine zx_aload_n (pc := 230) G (some (0)) 1 rfl rfl (z_dec T_X12_valueOf_ok 83 (230, .aload_n 0, 1) rfl) ?_
      refine zx_getL (pc := 231) G gf_RX12_240 rfl h_o (z_dec T_X12_valueOf_ok 84 (231, .getfield 240, 3) rfl) ?_
      refine zx_lmul (pc := 234) G  (z_dec T_X12_valueOf_ok 85 (234, .lmul, 1) rfl) ?_
      refine zx_aload_n (pc := 235) G (some (0)) 1 rfl rfl (z_dec T_X12_valueOf_ok 86 (235, .aload_n 0, 1) rfl) ?_
      refine zx_getL (pc := 236) G gf_RX12_244 rfl h_o (z_dec T_X12_valueOf_ok 87 (236, .getfield 244, 3) rfl) ?_
      obtain ⟨c21, h⟩ := h
      refine zx_ldiv (pc := 239) G c21 (z_dec T_X12_valueOf_ok 88 (239, .ldiv, 1) rfl) ?_
      exact zx_lret (pc := 240) G hr hlk (Nat.le_refl _) (Nat.le_refl _) (z_dec T_X12_valueOf_ok 89 (240, .lreturn, 1) rfl) ⟨rfl, _, rfl, h⟩
abbrev rm_X12_holds : Room := { frames := 7, cells := 0, slots := 0, locals := 161 }
set_option maxRecDepth 100000 in
set_option maxHeartbeats 4000000 in
theorem B_X12_holds_9_ok {p : Program} {l : Launch} {e : Env} {s : State} {m : MethodId} {args : Array Value} {below : List Frame} {meth : Method} {c : Code} {D : va_G} {A : Nat → Prop} {ρ : z_A} {kd : z_K} {q : z_Q} {μ : z_M} {K : Int32 → z_M → Prop} {P9 : Int32 → Int32 → Int32 → z_M → Prop} {v1 : Int32} {v2 : Int32} {v3 : Int32} (G : z_G p c cX12_holds s m args RX12 4 D) (hr : meth.sig.returnType = (Option.some Jvm.ClassFile.FieldType.boolean)) (hlk : meth.locks = false) (hP9 : ∀ (v1 : Int32) (v2 : Int32) (v3 : Int32) (μ : z_M), P9 v1 v2 v3 μ → (kd 0 = some (.inl 12)) → z_X p l e rm_X12_holds s m args below meth c 4 D A (MQ below (z_Qn D A ρ kd (z_Kz q K)) args s 0 0 A) 0 0 ρ kd q μ 9 [(0, .ref (0)), (1, .int (v1)), (2, .int (v2)), (3, .int (v3))] []) (hI : z_I kd q) (f_l0 : kd 0 = some (.inl 12)) (h : B_X12_holds_9 K P9 v1 v2 v3 μ) : z_X p l e rm_X12_holds s m args below meth c 4 D A (MQ below (z_Qn D A ρ kd (z_Kz q K)) args s 0 0 A) 0 0 ρ kd q μ 9 [(0, .ref (0)), (1, .int (v1)), (2, .int (v2)), (3, .int (v3))] [] := by
    unfold B_X12_holds_9 at h
    refine zx_iload_n (pc := 9) G 3 rfl rfl (z_dec T_X12_holds_ok 7 (9, .iload_n 3, 1) rfl) ?_
    refine zx_aload_n (pc := 10) G (some (0)) 0 rfl rfl (z_dec T_X12_holds_ok 8 (10, .aload_n 0, 1) rfl) ?_
    refine zx_getF (pc := 11) (b := 36) G gf_RX12_93 rfl f_l0 (zq_12_35 hI f_l0) (z_dec T_X12_holds_ok 9 (11, .getfield 93, 3) rfl) ?_
    refine zx_iload_n (pc := 14) G 1 rfl rfl (z_dec T_X12_holds_ok 10 (14, .iload_n 1, 1) rfl) ?_
    obtain ⟨c1, h⟩ := h
    refine zx_iald (pc := 15) G (zk_12_35 hI f_l0) c1 (z_dec T_X12_holds_ok 11 (15, .iaload, 1) rfl) ?_
    refine zx_icmp_ge (pc := 16) (tgt := 130) G rfl (z_dec T_X12_holds_ok 12 (16, .if_icmp .ge 114, 3) rfl) (fun hc => ?_) (fun hc => ?_)
    · replace h := z_pos hc h
      refine zx_aload_n (pc := 130) G (some (0)) 0 rfl rfl (z_dec T_X12_holds_ok 80 (130, .aload_n 0, 1) rfl) ?_
      refine zx_getF (pc := 131) (b := 59) G gf_RX12_127 rfl f_l0 (zq_12_58 hI f_l0) (z_dec T_X12_holds_ok 81 (131, .getfield 127, 3) rfl) ?_
      refine zx_iconst (pc := 134) (v := 0) G (z_dec T_X12_holds_ok 82 (134, .iconst 0, 1) rfl) rfl ?_
      refine zx_zald (pc := 135) G (zk_12_58 hI f_l0) (z_inlit (by decide) (by decide)) (z_dec T_X12_holds_ok 83 (135, .baload, 1) rfl) ?_
      refine zx_if_ne (pc := 136) (tgt := 154) G rfl (z_dec T_X12_holds_ok 84 (136, .ifCond .ne 18, 3) rfl) (fun hc => ?_) (fun hc => ?_)
      · replace h := z_neg hc h
        refine zx_iconst (pc := 154) (v := 0) G (z_dec T_X12_holds_ok 94 (154, .iconst 0, 1) rfl) rfl ?_
        exact zx_zret (pc := 155) G hr hlk (Nat.le_refl _) (Nat.le_refl _) (Or.inl rfl) (z_dec T_X12_holds_ok 95 (155, .ireturn, 1) rfl) ⟨rfl, _, rfl, (Or.inl rfl), h⟩
      · replace h := z_pos hc h
        refine zx_aload_n (pc := 139) G (some (0)) 0 rfl rfl (z_dec T_X12_holds_ok 85 (139, .aload_n 0, 1) rfl) ?_
        refine zx_getF (pc := 140) (b := 58) G gf_RX12_123 rfl f_l0 (zq_12_57 hI f_l0) (z_dec T_X12_holds_ok 86 (140, .getfield 123, 3) rfl) ?_
        refine zx_iconst (pc := 143) (v := 0) G (z_dec T_X12_holds_ok 87 (143, .iconst 0, 1) rfl) rfl ?_
        refine zx_lald (pc := 144) G (zk_12_57 hI f_l0) (z_inlit (by decide) (by decide)) (z_dec T_X12_holds_ok 88 (144, .laload, 1) rfl) ?_
        refine zx_lconst (pc := 145) (v := 1) G (z_dec T_X12_holds_ok 89 (145, .lconst 1, 1) rfl) rfl ?_
        refine zx_lcmp_ne (pc := 146) (tgt := 154) G rfl (z_dec T_X12_holds_ok 90 (146, .lcmp, 1) rfl) (z_dec T_X12_holds_ok 91 (147, .ifCond .ne 7, 3) rfl) (fun hc => ?_) (fun hc => ?_)
        · replace h := z_neg hc h
          refine zx_iconst (pc := 154) (v := 0) G (z_dec T_X12_holds_ok 94 (154, .iconst 0, 1) rfl) rfl ?_
          exact zx_zret (pc := 155) G hr hlk (Nat.le_refl _) (Nat.le_refl _) (Or.inl rfl) (z_dec T_X12_holds_ok 95 (155, .ireturn, 1) rfl) ⟨rfl, _, rfl, (Or.inl rfl), h⟩
        · replace h := z_pos hc h
          refine zx_iconst (pc := 150) (v := 1) G (z_dec T_X12_holds_ok 92 (150, .iconst 1, 1) rfl) rfl ?_
          refine zx_goto (pc := 151) (tgt := 155) G rfl (z_dec T_X12_holds_ok 93 (151, .goto 4, 3) rfl) ?_
          exact zx_zret (pc := 155) G hr hlk (Nat.le_refl _) (Nat.le_refl _) (Or.inr rfl) (z_dec T_X12_holds_ok 95 (155, .ireturn, 1) rfl) ⟨rfl, _, rfl, (Or.inr rfl), h⟩
    · replace h := z_neg hc h
      refine zx_aload_n (pc := 19) G (some (0)) 0 rfl rfl (z_dec T_X12_holds_ok 13 (19, .aload_n 0, 1) rfl) ?_
      refine zx_getF (pc := 20) (b := 37) G gf_RX12_96 rfl f_l0 (zq_12_36 hI f_l0) (z_dec T_X12_holds_ok 14 (20, .getfield 96, 3) rfl) ?_
      refine zx_iload_n (pc := 23) G 3 rfl rfl (z_dec T_X12_holds_ok 15 (23, .iload_n 3, 1) rfl) ?_
      obtain ⟨c2, h⟩ := h
      refine zx_iald (pc := 24) G (zk_12_36 hI f_l0) c2 (z_dec T_X12_holds_ok 16 (24, .iaload, 1) rfl) ?_
      refine zx_iconst (pc := 25) (v := 2) G (z_dec T_X12_holds_ok 17 (25, .iconst 2, 1) rfl) rfl ?_
      refine zx_icmp_le (pc := 26) (tgt := 48) G rfl (z_dec T_X12_holds_ok 18 (26, .if_icmp .le 22, 3) rfl) (fun hc => ?_) (fun hc => ?_)
      · replace h := z_pos hc h
        refine zx_aload_n (pc := 48) G (some (0)) 0 rfl rfl (z_dec T_X12_holds_ok 30 (48, .aload_n 0, 1) rfl) ?_
        refine zx_getF (pc := 49) (b := 37) G gf_RX12_96 rfl f_l0 (zq_12_36 hI f_l0) (z_dec T_X12_holds_ok 31 (49, .getfield 96, 3) rfl) ?_
        refine zx_iload_n (pc := 52) G 3 rfl rfl (z_dec T_X12_holds_ok 32 (52, .iload_n 3, 1) rfl) ?_
        refine zx_iald (pc := 53) G (zk_12_36 hI f_l0) c2 (z_dec T_X12_holds_ok 33 (53, .iaload, 1) rfl) ?_
        refine zx_iconst (pc := 54) (v := 2) G (z_dec T_X12_holds_ok 34 (54, .iconst 2, 1) rfl) rfl ?_
        refine zx_icmp_ne (pc := 55) (tgt := 79) G rfl (z_dec T_X12_holds_ok 35 (55, .if_icmp .ne 24, 3) rfl) (fun hc => ?_) (fun hc => ?_)
        · replace h := z_neg hc h
          refine zx_aload_n (pc := 79) G (some (0)) 0 rfl rfl (z_dec T_X12_holds_ok 51 (79, .aload_n 0, 1) rfl) ?_
          refine zx_getF (pc := 80) (b := 59) G gf_RX12_127 rfl f_l0 (zq_12_58 hI f_l0) (z_dec T_X12_holds_ok 52 (80, .getfield 127, 3) rfl) ?_
          refine zx_iload_n (pc := 83) G 2 rfl rfl (z_dec T_X12_holds_ok 53 (83, .iload_n 2, 1) rfl) ?_
          refine zx_iconst (pc := 84) (v := 0) G (z_dec T_X12_holds_ok 54 (84, .iconst 0, 1) rfl) rfl ?_
          obtain ⟨c3, h⟩ := h
          refine zx_zast (pc := 85) G (zk_12_58 hI f_l0) c3 (z_dec T_X12_holds_ok 55 (85, .bastore, 1) rfl) ?_
          refine zx_aload_n (pc := 86) G (some (0)) 0 rfl rfl (z_dec T_X12_holds_ok 56 (86, .aload_n 0, 1) rfl) ?_
          refine zx_getF (pc := 87) (b := 58) G gf_RX12_123 rfl f_l0 (zq_12_57 hI f_l0) (z_dec T_X12_holds_ok 57 (87, .getfield 123, 3) rfl) ?_
          refine zx_iload_n (pc := 90) G 2 rfl rfl (z_dec T_X12_holds_ok 58 (90, .iload_n 2, 1) rfl) ?_
          refine zx_aload_n (pc := 91) G (some (0)) 0 rfl rfl (z_dec T_X12_holds_ok 59 (91, .aload_n 0, 1) rfl) ?_
          refine zx_getF (pc := 92) (b := 37) G gf_RX12_96 rfl f_l0 (zq_12_36 hI f_l0) (z_dec T_X12_holds_ok 60 (92, .getfield 96, 3) rfl) ?_
          refine zx_iload_n (pc := 95) G 3 rfl rfl (z_dec T_X12_holds_ok 61 (95, .iload_n 3, 1) rfl) ?_
          refine zx_iald (pc := 96) G (zk_12_36 hI f_l0) c2 (z_dec T_X12_holds_ok 62 (96, .iaload, 1) rfl) ?_
          refine zx_if_ne (pc := 97) (tgt := 110) G rfl (z_dec T_X12_holds_ok 63 (97, .ifCond .ne 13, 3) rfl) (fun hc => ?_) (fun hc => ?_)
          · replace h := z_neg hc h
            refine zx_aload_n (pc := 110) G (some (0)) 0 rfl rfl (z_dec T_X12_holds_ok 70 (110, .aload_n 0, 1) rfl) ?_
            refine zx_aload_n (pc := 111) G (some (0)) 0 rfl rfl (z_dec T_X12_holds_ok 71 (111, .aload_n 0, 1) rfl) ?_
            refine zx_getF (pc := 112) (b := 38) G gf_RX12_99 rfl f_l0 (zq_12_37 hI f_l0) (z_dec T_X12_holds_ok 72 (112, .getfield 99, 3) rfl) ?_
            refine zx_iload_n (pc := 115) G 3 rfl rfl (z_dec T_X12_holds_ok 73 (115, .iload_n 3, 1) rfl) ?_
            refine zx_iald (pc := 116) G (zk_12_37 hI f_l0) c2 (z_dec T_X12_holds_ok 74 (116, .iaload, 1) rfl) ?_
            refine zx_callV_lN (pc := 117) (rm := rm_X12_valueOf) G cw_RX12_388 ⟨Nat.le_of_ble_eq_true rfl, Nat.le_of_ble_eq_true rfl⟩ rfl rfl ⟨Nat.zero_le _, Nat.zero_le _⟩ f_l0 rfl (fun sz => (met_X12_valueOf l D ρ kd q (si μ 59 v2.toNatClampNeg (((0 : Int32)) &&& 1)) sz ((si μ 59 v2.toNatClampNeg (((0 : Int32)) &&& 1)).1 38 v3.toNatClampNeg) _ hI f_l0 h)) rfl rfl (Nat.le_of_ble_eq_true rfl) (z_dec T_X12_holds_ok 75 (117, .invokevirtual 388, 3) rfl) (fun r5 μ4 hn => ?_)
            clear h
            have h := hn
            clear hn
            refine zx_last (pc := 120) G (zk_12_57 hI f_l0) c3 (z_dec T_X12_holds_ok 76 (120, .lastore, 1) rfl) ?_
            refine zx_iinc (pc := 121) (v := v2 + 1) (lv' := [(2, .int (v2 + 1)), (0, .ref (0)), (1, .int (v1)), (3, .int (v3))]) G 2 rfl (z_inc (by decide)) (Nat.le_of_ble_eq_true rfl) rfl (z_dec T_X12_holds_ok 77 (121, .iinc 2 1, 3) rfl) ?_
            refine zx_iinc (pc := 124) (v := v3 + 1) (lv' := [(3, .int (v3 + 1)), (2, .int (v2 + 1)), (0, .ref (0)), (1, .int (v1))]) G 3 rfl (z_inc (by decide)) (Nat.le_of_ble_eq_true rfl) rfl (z_dec T_X12_holds_ok 78 (124, .iinc 3 1, 3) rfl) ?_
            refine zx_goto (pc := 127) (tgt := 9) G rfl (z_dec T_X12_holds_ok 79 (127, .goto (-118), 3) rfl) ?_
            refine zx_sub (lv' := [(0, .ref (0)), (1, .int (v1)), (2, .int (v2 + 1)), (3, .int (v3 + 1))]) [2, 3, 1, 0] rfl ?_
            exact hP9 _ _ _ _ h f_l0
          · replace h := z_pos hc h
            refine zx_aload_n (pc := 100) G (some (0)) 0 rfl rfl (z_dec T_X12_holds_ok 64 (100, .aload_n 0, 1) rfl) ?_
            refine zx_getF (pc := 101) (b := 38) G gf_RX12_99 rfl f_l0 (zq_12_37 hI f_l0) (z_dec T_X12_holds_ok 65 (101, .getfield 99, 3) rfl) ?_
            refine zx_iload_n (pc := 104) G 3 rfl rfl (z_dec T_X12_holds_ok 66 (104, .iload_n 3, 1) rfl) ?_
            refine zx_iald (pc := 105) G (zk_12_37 hI f_l0) c2 (z_dec T_X12_holds_ok 67 (105, .iaload, 1) rfl) ?_
            refine zx_i2l (pc := 106) G  (z_dec T_X12_holds_ok 68 (106, .i2l, 1) rfl) ?_
            refine zx_goto (pc := 107) (tgt := 120) G rfl (z_dec T_X12_holds_ok 69 (107, .goto 13, 3) rfl) ?_
            refine zx_last (pc := 120) G (zk_12_57 hI f_l0) c3 (z_dec T_X12_holds_ok 76 (120, .lastore, 1) rfl) ?_
            refine zx_iinc (pc := 121) (v := v2 + 1) (lv' := [(2, .int (v2 + 1)), (0, .ref (0)), (1, .int (v1)), (3, .int (v3))]) G 2 rfl (z_inc (by decide)) (Nat.le_of_ble_eq_true rfl) rfl (z_dec T_X12_holds_ok 77 (121, .iinc 2 1, 3) rfl) ?_
            refine zx_iinc (pc := 124) (v := v3 + 1) (lv' := [(3, .int (v3 + 1)), (2, .int (v2 + 1)), (0, .ref (0)), (1, .int (v1))]) G 3 rfl (z_inc (by decide)) (Nat.le_of_ble_eq_true rfl) rfl (z_dec T_X12_holds_ok 78 (124, .iinc 3 1, 3) rfl) ?_
            refine zx_goto (pc := 127) (tgt := 9) G rfl (z_dec T_X12_holds_ok 79 (127, .goto (-118), 3) rfl) ?_
            refine zx_sub (lv' := [(0, .ref (0)), (1, .int (v1)), (2, .int (v2 + 1)), (3, .int (v3 + 1))]) [2, 3, 1, 0] rfl ?_
            exact hP9 _ _ _ _ h f_l0
        · replace h := z_pos hc h
          refine zx_aload_n (pc := 58) G (some (0)) 0 rfl rfl (z_dec T_X12_holds_ok 36 (58, .aload_n 0, 1) rfl) ?_
          refine zx_getF (pc := 59) (b := 58) G gf_RX12_123 rfl f_l0 (zq_12_57 hI f_l0) (z_dec T_X12_holds_ok 37 (59, .getfield 123, 3) rfl) ?_
          refine zx_iload_n (pc := 62) G 2 rfl rfl (z_dec T_X12_holds_ok 38 (62, .iload_n 2, 1) rfl) ?_
          refine zx_iconst (pc := 63) (v := 1) G (z_dec T_X12_holds_ok 39 (63, .iconst 1, 1) rfl) rfl ?_
          refine zx_isub (pc := 64) G  (z_dec T_X12_holds_ok 40 (64, .isub, 1) rfl) ?_
          refine zx_lconst (pc := 65) (v := 1) G (z_dec T_X12_holds_ok 41 (65, .lconst 1, 1) rfl) rfl ?_
          refine zx_aload_n (pc := 66) G (some (0)) 0 rfl rfl (z_dec T_X12_holds_ok 42 (66, .aload_n 0, 1) rfl) ?_
          refine zx_getF (pc := 67) (b := 58) G gf_RX12_123 rfl f_l0 (zq_12_57 hI f_l0) (z_dec T_X12_holds_ok 43 (67, .getfield 123, 3) rfl) ?_
          refine zx_iload_n (pc := 70) G 2 rfl rfl (z_dec T_X12_holds_ok 44 (70, .iload_n 2, 1) rfl) ?_
          refine zx_iconst (pc := 71) (v := 1) G (z_dec T_X12_holds_ok 45 (71, .iconst 1, 1) rfl) rfl ?_
          refine zx_isub (pc := 72) G  (z_dec T_X12_holds_ok 46 (72, .isub, 1) rfl) ?_
          obtain ⟨c6, h⟩ := h
          refine zx_lald (pc := 73) G (zk_12_57 hI f_l0) c6 (z_dec T_X12_holds_ok 47 (73, .laload, 1) rfl) ?_
          refine zx_lsub (pc := 74) G  (z_dec T_X12_holds_ok 48 (74, .lsub, 1) rfl) ?_
          refine zx_last (pc := 75) G (zk_12_57 hI f_l0) c6 (z_dec T_X12_holds_ok 49 (75, .lastore, 1) rfl) ?_
          refine zx_goto (pc := 76) (tgt := 124) G rfl (z_dec T_X12_holds_ok 50 (76, .goto 48, 3) rfl) ?_
          refine zx_iinc (pc := 124) (v := v3 + 1) (lv' := [(3, .int (v3 + 1)), (0, .ref (0)), (1, .int (v1)), (2, .int (v2))]) G 3 rfl (z_inc (by decide)) (Nat.le_of_ble_eq_true rfl) rfl (z_dec T_X12_holds_ok 78 (124, .iinc 3 1, 3) rfl) ?_
          refine zx_goto (pc := 127) (tgt := 9) G rfl (z_dec T_X12_holds_ok 79 (127, .goto (-118), 3) rfl) ?_
          refine zx_sub (lv' := [(0, .ref (0)), (1, .int (v1)), (2, .int (v2)), (3, .int (v3 + 1))]) [1, 2, 3, 0] rfl ?_
          exact hP9 _ _ _ _ h f_l0
      · replace h := z_neg hc h
        refine zx_iinc (pc := 29) (v := v2 + (-1)) (lv' := [(2, .int (v2 + (-1))), (0, .ref (0)), (1, .int (v1)), (3, .int (v3))]) G 2 rfl (z_inc (by decide)) (Nat.le_of_ble_eq_true rfl) rfl (z_dec T_X12_holds_ok 19 (29, .iinc 2 (-1), 3) rfl) ?_
        refine zx_aload_n (pc := 32) G (some (0)) 1 rfl rfl (z_dec T_X12_holds_ok 20 (32, .aload_n 0, 1) rfl) ?_
        refine zx_aload_n (pc := 33) G (some (0)) 1 rfl rfl (z_dec T_X12_holds_ok 21 (33, .aload_n 0, 1) rfl) ?_
        refine zx_getF (pc := 34) (b := 37) G gf_RX12_96 rfl f_l0 (zq_12_36 hI f_l0) (z_dec T_X12_holds_ok 22 (34, .getfield 96, 3) rfl) ?_
        refine zx_iload_n (pc := 37) G 3 rfl rfl (z_dec T_X12_holds_ok 23 (37, .iload_n 3, 1) rfl) ?_
        refine zx_iald (pc := 38) G (zk_12_36 hI f_l0) c2 (z_dec T_X12_holds_ok 24 (38, .iaload, 1) rfl) ?_
        refine zx_iload_n (pc := 39) G 0 rfl rfl (z_dec T_X12_holds_ok 25 (39, .iload_n 2, 1) rfl) ?_
        refine zx_iconst (pc := 40) (v := 1) G (z_dec T_X12_holds_ok 26 (40, .iconst 1, 1) rfl) rfl ?_
        refine zx_isub (pc := 41) G  (z_dec T_X12_holds_ok 27 (41, .isub, 1) rfl) ?_
        refine zx_callV_vN (pc := 42) (rm := rm_X12_does) G cw_RX12_385 ⟨Nat.le_of_ble_eq_true rfl, Nat.le_of_ble_eq_true rfl⟩ rfl rfl ⟨Nat.zero_le _, Nat.zero_le _⟩ f_l0 rfl (fun sz => (met_X12_does l D ρ kd q μ sz (μ.1 37 v3.toNatClampNeg) ((v2 + (-1)) - ((1 : Int32))) _ hI f_l0 h)) rfl rfl (Nat.le_of_ble_eq_true rfl) (z_dec T_X12_holds_ok 28 (42, .invokevirtual 385, 3) rfl) (fun μ7 hn => ?_)
        clear h
        have h := hn
        clear hn
        refine zx_goto (pc := 45) (tgt := 124) G rfl (z_dec T_X12_holds_ok 29 (45, .goto 79, 3) rfl) ?_
        refine zx_iinc (pc := 124) (v := v3 + 1) (lv' := [(3, .int (v3 + 1)), (2, .int (v2 + (-1))), (0, .ref (0)), (1, .int (v1))]) G 3 rfl (z_inc (by decide)) (Nat.le_of_ble_eq_true rfl) rfl (z_dec T_X12_holds_ok 78 (124, .iinc 3 1, 3) rfl) ?_
        refine zx_goto (pc := 127) (tgt := 9) G rfl (z_dec T_X12_holds_ok 79 (127, .goto (-118), 3) rfl) ?_
        refine zx_sub (lv' := [(0, .ref (0)), (1, .int (v1)), (2, .int (v2 + (-1))), (3, .int (v3 + 1))]) [2, 3, 1, 0] rfl ?_
        exact hP9 _ _ _ _ h f_l0
set_option maxRecDepth 100000 in
set_option maxHeartbeats 4000000 in
theorem L_X12_holds_9_ok {p : Program} {l : Launch} {e : Env} {s : State} {m : MethodId} {args : Array Value} {below : List Frame} {meth : Method} {c : Code} {D : va_G} {A : Nat → Prop} {ρ : z_A} {kd : z_K} {q : z_Q} {μ : z_M} {K : Int32 → z_M → Prop} {v1 : Int32} {v2 : Int32} {v3 : Int32} (G : z_G p c cX12_holds s m args RX12 4 D) (hr : meth.sig.returnType = (Option.some Jvm.ClassFile.FieldType.boolean)) (hlk : meth.locks = false) (hI : z_I kd q) (f_l0 : kd 0 = some (.inl 12)) (h : L_X12_holds_9 K v1 v2 v3 μ) : z_X p l e rm_X12_holds s m args below meth c 4 D A (MQ below (z_Qn D A ρ kd (z_Kz q K)) args s 0 0 A) 0 0 ρ kd q μ 9 [(0, .ref (0)), (1, .int (v1)), (2, .int (v2)), (3, .int (v3))] [] :=
  h (fun (v1 : Int32) (v2 : Int32) (v3 : Int32) (μ : z_M) => (kd 0 = some (.inl 12)) → z_X p l e rm_X12_holds s m args below meth c 4 D A (MQ below (z_Qn D A ρ kd (z_Kz q K)) args s 0 0 A) 0 0 ρ kd q μ 9 [(0, .ref (0)), (1, .int (v1)), (2, .int (v2)), (3, .int (v3))] []) (fun v1 v2 v3 μ h f_l0 => B_X12_holds_9_ok G hr hlk (fun _ _ _ _ h => h) hI f_l0 h) f_l0
set_option maxRecDepth 100000 in
set_option maxHeartbeats 4000000 in
theorem met_X12_holds (l : Launch) (D : va_G) (ρ : z_A) (kd : z_K) (q : z_Q) (μ : z_M) (sz : Nat) (a1 : Int32) (K : Int32 → z_M → Prop) (hI : z_I kd q) (h_o : kd 0 = some (.inl 12)) (h : C_X12_holds a1 μ K) : Met l yX12_holds (z_ws yX12_holds cX12_holds 4 (Option.some Jvm.ClassFile.FieldType.boolean)) rm_X12_holds (z_Pc D ρ kd q μ sz [.ref (0), .int (a1)]) (z_Qn D (z_Rg ρ sz) ρ kd (z_Kz q K)) 0 0 (z_Rg ρ sz) := by
  refine z_met (rm := rm_X12_holds) (by decide) (Nat.le_of_ble_eq_true rfl) (fun p e s m args below meth c G hr hlk => ?_)
  unfold C_X12_holds at h
  show z_X _ _ _ _ _ _ _ _ _ _ _ _ _ _ _ _ _ _ _ _ _ [(0, .ref (0)), (1, .int (a1))] _
  refine zx_iconst (pc := 0) (v := 0) G (z_dec T_X12_holds_ok 0 (0, .iconst 0, 1) rfl) rfl ?_
  refine zx_istore_n (pc := 1) (lv' := [(2, .int ((0 : Int32))), (0, .ref (0)), (1, .int (a1))]) G rfl (Nat.le_of_ble_eq_true rfl) rfl (z_dec T_X12_holds_ok 1 (1, .istore_n 2, 1) rfl) ?_
  refine zx_aload_n (pc := 2) G (some (0)) 1 rfl rfl (z_dec T_X12_holds_ok 2 (2, .aload_n 0, 1) rfl) ?_
  refine zx_getF (pc := 3) (b := 35) G gf_RX12_90 rfl h_o (zq_12_34 hI h_o) (z_dec T_X12_holds_ok 3 (3, .getfield 90, 3) rfl) ?_
  refine zx_iload_n (pc := 6) G 2 rfl rfl (z_dec T_X12_holds_ok 4 (6, .iload_n 1, 1) rfl) ?_
  obtain ⟨c1, h⟩ := h
  refine zx_iald (pc := 7) G (zk_12_34 hI h_o) c1 (z_dec T_X12_holds_ok 5 (7, .iaload, 1) rfl) ?_
  refine zx_istore_n (pc := 8) (lv' := [(3, .int (μ.1 35 a1.toNatClampNeg)), (2, .int ((0 : Int32))), (0, .ref (0)), (1, .int (a1))]) G rfl (Nat.le_of_ble_eq_true rfl) rfl (z_dec T_X12_holds_ok 6 (8, .istore_n 3, 1) rfl) ?_
  refine zx_sub (lv' := [(0, .ref (0)), (1, .int (a1)), (2, .int ((0 : Int32))), (3, .int (μ.1 35 a1.toNatClampNeg))]) [2, 3, 1, 0] rfl ?_
  exact L_X12_holds_9_ok G hr hlk hI h_o h
abbrev rm_X12_moves : Room := { frames := 8, cells := 0, slots := 0, locals := 184 }
set_option maxRecDepth 100000 in
set_option maxHeartbeats 4000000 in
theorem B_X12_moves_152_ok {p : Program} {l : Launch} {e : Env} {s : State} {m : MethodId} {args : Array Value} {below : List Frame} {meth : Method} {c : Code} {D : va_G} {A : Nat → Prop} {ρ : z_A} {kd : z_K} {q : z_Q} {μ : z_M} {K : z_M → Prop} {P21 : Int32 → Int32 → Int32 → Int32 → z_M → Prop} {P152 : Int32 → Int32 → Int32 → Int32 → Int32 → z_M → Prop} {v1 : Int32} {v2 : Int32} {v3 : Int32} {v4 : Int32} {v6 : Int32} (G : z_G p c cX12_moves s m args RX12 8 D) (hr : meth.sig.returnType = (Option.none : Option Jvm.ClassFile.FieldType)) (hlk : meth.locks = false) (hP21 : ∀ (v1 : Int32) (v2 : Int32) (v3 : Int32) (v4 : Int32) (μ : z_M), P21 v1 v2 v3 v4 μ → (kd 0 = some (.inl 12)) → z_X p l e rm_X12_moves s m args below meth c 8 D A (MQ below (z_Qn D A ρ kd (z_Kv q K)) args s 0 0 A) 0 0 ρ kd q μ 21 [(0, .ref (0)), (1, .int (v1)), (2, .int (v2)), (3, .int (v3)), (4, .int (v4))] []) (hP152 : ∀ (v1 : Int32) (v2 : Int32) (v3 : Int32) (v4 : Int32) (v6 : Int32) (μ : z_M), P152 v1 v2 v3 v4 v6 μ → (kd 0 = some (.inl 12)) → z_X p l e rm_X12_moves s m args below meth c 8 D A (MQ below (z_Qn D A ρ kd (z_Kv q K)) args s 0 0 A) 0 0 ρ kd q μ 152 [(0, .ref (0)), (1, .int (v1)), (2, .int (v2)), (3, .int (v3)), (4, .int (v4)), (6, .int (v6))] []) (hI : z_I kd q) (f_l0 : kd 0 = some (.inl 12)) (h : B_X12_moves_152 K P21 P152 v1 v2 v3 v4 v6 μ) : z_X p l e rm_X12_moves s m args below meth c 8 D A (MQ below (z_Qn D A ρ kd (z_Kv q K)) args s 0 0 A) 0 0 ρ kd q μ 152 [(0, .ref (0)), (1, .int (v1)), (2, .int (v2)), (3, .int (v3)), (4, .int (v4)), (6, .int (v6))] [] := by
    unfold B_X12_moves_152 at h
    refine zx_iload (pc := 152) G 5 rfl (z_dec T_X12_moves_ok 84 (152, .iload 6, 2) rfl) ?_
    refine zx_aload_n (pc := 154) G (some (0)) 0 rfl rfl (z_dec T_X12_moves_ok 85 (154, .aload_n 0, 1) rfl) ?_
    refine zx_getF (pc := 155) (b := 10) G gf_RX12_20 rfl f_l0 (zq_12_9 hI f_l0) (z_dec T_X12_moves_ok 86 (155, .getfield 20, 3) rfl) ?_
    refine zx_iload_n (pc := 158) G 2 rfl rfl (z_dec T_X12_moves_ok 87 (158, .iload_n 2, 1) rfl) ?_
    obtain ⟨c1, h⟩ := h
    refine zx_iald (pc := 159) G (zk_12_9 hI f_l0) c1 (z_dec T_X12_moves_ok 88 (159, .iaload, 1) rfl) ?_
    refine zx_icmp_ge (pc := 160) (tgt := 253) G rfl (z_dec T_X12_moves_ok 89 (160, .if_icmp .ge 93, 3) rfl) (fun hc => ?_) (fun hc => ?_)
    · replace h := z_pos hc h
      refine zx_iinc (pc := 253) (v := v4 + 1) (lv' := [(4, .int (v4 + 1)), (0, .ref (0)), (1, .int (v1)), (2, .int (v2)), (3, .int (v3)), (6, .int (v6))]) G 4 rfl (z_inc (by decide)) (Nat.le_of_ble_eq_true rfl) rfl (z_dec T_X12_moves_ok 139 (253, .iinc 4 1, 3) rfl) ?_
      refine zx_goto (pc := 256) (tgt := 21) G rfl (z_dec T_X12_moves_ok 140 (256, .goto (-235), 3) rfl) ?_
      refine zx_sub (lv' := [(0, .ref (0)), (1, .int (v1)), (2, .int (v2)), (3, .int (v3)), (4, .int (v4 + 1))]) [1, 2, 3, 4, 0] rfl ?_
      exact hP21 _ _ _ _ _ h f_l0
    · replace h := z_neg hc h
      refine zx_iload_n (pc := 163) G 1 rfl rfl (z_dec T_X12_moves_ok 90 (163, .iload_n 1, 1) rfl) ?_
      refine zx_iload_n (pc := 164) G 2 rfl rfl (z_dec T_X12_moves_ok 91 (164, .iload_n 2, 1) rfl) ?_
      refine zx_iload (pc := 165) G 5 rfl (z_dec T_X12_moves_ok 92 (165, .iload 6, 2) rfl) ?_
      refine zx_callS_iN (pc := 167) (rm := rm_X12_cellOf) G cw_RX12_188 ⟨Nat.le_of_ble_eq_true rfl, Nat.le_of_ble_eq_true rfl⟩ rfl rfl ⟨Nat.zero_le _, Nat.zero_le _⟩ (fun sz => (met_X12_cellOf l D ρ kd q μ sz v1 v2 v6 _ hI h)) rfl rfl (Nat.le_of_ble_eq_true rfl) (z_dec T_X12_moves_ok 93 (167, .invokestatic 188, 3) rfl) (fun r3 μ2 hn => ?_)
      clear h
      have h := hn
      clear hn
      refine zx_istore (pc := 170) (lv' := [(7, .int (r3)), (0, .ref (0)), (1, .int (v1)), (2, .int (v2)), (3, .int (v3)), (4, .int (v4)), (6, .int (v6))]) G (Nat.le_of_ble_eq_true rfl) rfl (z_dec T_X12_moves_ok 94 (170, .istore 7, 2) rfl) ?_
      refine zx_iload (pc := 172) G 6 rfl (z_dec T_X12_moves_ok 95 (172, .iload 6, 2) rfl) ?_
      refine zx_iload_n (pc := 174) G 4 rfl rfl (z_dec T_X12_moves_ok 96 (174, .iload_n 3, 1) rfl) ?_
      refine zx_icmp_eq (pc := 175) (tgt := 247) G rfl (z_dec T_X12_moves_ok 97 (175, .if_icmp .eq 72, 3) rfl) (fun hc => ?_) (fun hc => ?_)
      · replace h := z_pos hc h
        refine zx_iinc (pc := 247) (v := v6 + 1) (lv' := [(6, .int (v6 + 1)), (7, .int (r3)), (0, .ref (0)), (1, .int (v1)), (2, .int (v2)), (3, .int (v3)), (4, .int (v4))]) G 6 rfl (z_inc (by decide)) (Nat.le_of_ble_eq_true rfl) rfl (z_dec T_X12_moves_ok 137 (247, .iinc 6 1, 3) rfl) ?_
        refine zx_goto (pc := 250) (tgt := 152) G rfl (z_dec T_X12_moves_ok 138 (250, .goto (-98), 3) rfl) ?_
        refine zx_sub (lv' := [(0, .ref (0)), (1, .int (v1)), (2, .int (v2)), (3, .int (v3)), (4, .int (v4)), (6, .int (v6 + 1))]) [2, 3, 4, 5, 6, 0] rfl ?_
        exact hP152 _ _ _ _ _ _ h f_l0
      · replace h := z_neg hc h
        refine zx_aload_n (pc := 178) G (some (0)) 1 rfl rfl (z_dec T_X12_moves_ok 98 (178, .aload_n 0, 1) rfl) ?_
        refine zx_getF (pc := 179) (b := 17) G gf_RX12_42 rfl f_l0 (zq_12_16 hI f_l0) (z_dec T_X12_moves_ok 99 (179, .getfield 42, 3) rfl) ?_
        refine zx_iload (pc := 182) G 0 rfl (z_dec T_X12_moves_ok 100 (182, .iload 7, 2) rfl) ?_
        obtain ⟨c4, h⟩ := h
        refine zx_iald (pc := 184) G (zk_12_16 hI f_l0) c4 (z_dec T_X12_moves_ok 101 (184, .iaload, 1) rfl) ?_
        refine zx_iconst (pc := 185) (v := -1) G (z_dec T_X12_moves_ok 102 (185, .iconst (-1), 1) rfl) rfl ?_
        refine zx_icmp_ne (pc := 186) (tgt := 192) G rfl (z_dec T_X12_moves_ok 103 (186, .if_icmp .ne 6, 3) rfl) (fun hc => ?_) (fun hc => ?_)
        · replace h := z_neg hc h
          refine zx_aload_n (pc := 192) G (some (0)) 1 rfl rfl (z_dec T_X12_moves_ok 105 (192, .aload_n 0, 1) rfl) ?_
          refine zx_getF (pc := 193) (b := 17) G gf_RX12_42 rfl f_l0 (zq_12_16 hI f_l0) (z_dec T_X12_moves_ok 106 (193, .getfield 42, 3) rfl) ?_
          refine zx_iload (pc := 196) G 0 rfl (z_dec T_X12_moves_ok 107 (196, .iload 7, 2) rfl) ?_
          refine zx_aload_n (pc := 198) G (some (0)) 1 rfl rfl (z_dec T_X12_moves_ok 108 (198, .aload_n 0, 1) rfl) ?_
          refine zx_getF (pc := 199) (b := 17) G gf_RX12_42 rfl f_l0 (zq_12_16 hI f_l0) (z_dec T_X12_moves_ok 109 (199, .getfield 42, 3) rfl) ?_
          refine zx_iload (pc := 202) G 0 rfl (z_dec T_X12_moves_ok 110 (202, .iload 7, 2) rfl) ?_
          refine zx_iald (pc := 204) G (zk_12_16 hI f_l0) c4 (z_dec T_X12_moves_ok 111 (204, .iaload, 1) rfl) ?_
          refine zx_aload_n (pc := 205) G (some (0)) 1 rfl rfl (z_dec T_X12_moves_ok 112 (205, .aload_n 0, 1) rfl) ?_
          refine zx_getF (pc := 206) (b := 34) G gf_RX12_87 rfl f_l0 (zq_12_33 hI f_l0) (z_dec T_X12_moves_ok 113 (206, .getfield 87, 3) rfl) ?_
          refine zx_iload (pc := 209) G 5 rfl (z_dec T_X12_moves_ok 114 (209, .iload 4, 2) rfl) ?_
          obtain ⟨c5, h⟩ := h
          refine zx_iald (pc := 211) G (zk_12_33 hI f_l0) c5 (z_dec T_X12_moves_ok 115 (211, .iaload, 1) rfl) ?_
          refine zx_iadd (pc := 212) G  (z_dec T_X12_moves_ok 116 (212, .iadd, 1) rfl) ?_
          refine zx_aload_n (pc := 213) G (some (0)) 1 rfl rfl (z_dec T_X12_moves_ok 117 (213, .aload_n 0, 1) rfl) ?_
          refine zx_getI (pc := 214) G gf_RX12_171 rfl f_l0 (z_dec T_X12_moves_ok 118 (214, .getfield 171, 3) rfl) ?_
          refine zx_iconst (pc := 217) (v := 1) G (z_dec T_X12_moves_ok 119 (217, .iconst 1, 1) rfl) rfl ?_
          refine zx_isub (pc := 218) G  (z_dec T_X12_moves_ok 120 (218, .isub, 1) rfl) ?_
          refine zx_icmp_le (pc := 219) (tgt := 231) G rfl (z_dec T_X12_moves_ok 121 (219, .if_icmp .le 12, 3) rfl) (fun hc => ?_) (fun hc => ?_)
          · replace h := z_pos hc h
            refine zx_aload_n (pc := 231) G (some (0)) 1 rfl rfl (z_dec T_X12_moves_ok 127 (231, .aload_n 0, 1) rfl) ?_
            refine zx_getF (pc := 232) (b := 17) G gf_RX12_42 rfl f_l0 (zq_12_16 hI f_l0) (z_dec T_X12_moves_ok 128 (232, .getfield 42, 3) rfl) ?_
            refine zx_iload (pc := 235) G 0 rfl (z_dec T_X12_moves_ok 129 (235, .iload 7, 2) rfl) ?_
            refine zx_iald (pc := 237) G (zk_12_16 hI f_l0) c4 (z_dec T_X12_moves_ok 130 (237, .iaload, 1) rfl) ?_
            refine zx_aload_n (pc := 238) G (some (0)) 1 rfl rfl (z_dec T_X12_moves_ok 131 (238, .aload_n 0, 1) rfl) ?_
            refine zx_getF (pc := 239) (b := 34) G gf_RX12_87 rfl f_l0 (zq_12_33 hI f_l0) (z_dec T_X12_moves_ok 132 (239, .getfield 87, 3) rfl) ?_
            refine zx_iload (pc := 242) G 5 rfl (z_dec T_X12_moves_ok 133 (242, .iload 4, 2) rfl) ?_
            refine zx_iald (pc := 244) G (zk_12_33 hI f_l0) c5 (z_dec T_X12_moves_ok 134 (244, .iaload, 1) rfl) ?_
            refine zx_iadd (pc := 245) G  (z_dec T_X12_moves_ok 135 (245, .iadd, 1) rfl) ?_
            refine zx_iast (pc := 246) G (zk_12_16 hI f_l0) c4 (z_dec T_X12_moves_ok 136 (246, .iastore, 1) rfl) ?_
            refine zx_iinc (pc := 247) (v := v6 + 1) (lv' := [(6, .int (v6 + 1)), (7, .int (r3)), (0, .ref (0)), (1, .int (v1)), (2, .int (v2)), (3, .int (v3)), (4, .int (v4))]) G 6 rfl (z_inc (by decide)) (Nat.le_of_ble_eq_true rfl) rfl (z_dec T_X12_moves_ok 137 (247, .iinc 6 1, 3) rfl) ?_
            refine zx_goto (pc := 250) (tgt := 152) G rfl (z_dec T_X12_moves_ok 138 (250, .goto (-98), 3) rfl) ?_
            refine zx_sub (lv' := [(0, .ref (0)), (1, .int (v1)), (2, .int (v2)), (3, .int (v3)), (4, .int (v4)), (6, .int (v6 + 1))]) [2, 3, 4, 5, 6, 0] rfl ?_
            exact hP152 _ _ _ _ _ _ h f_l0
          · replace h := z_neg hc h
            refine zx_aload_n (pc := 222) G (some (0)) 1 rfl rfl (z_dec T_X12_moves_ok 122 (222, .aload_n 0, 1) rfl) ?_
            refine zx_getI (pc := 223) G gf_RX12_171 rfl f_l0 (z_dec T_X12_moves_ok 123 (223, .getfield 171, 3) rfl) ?_
            refine zx_iconst (pc := 226) (v := 1) G (z_dec T_X12_moves_ok 124 (226, .iconst 1, 1) rfl) rfl ?_
            refine zx_isub (pc := 227) G  (z_dec T_X12_moves_ok 125 (227, .isub, 1) rfl) ?_
            refine zx_goto (pc := 228) (tgt := 246) G rfl (z_dec T_X12_moves_ok 126 (228, .goto 18, 3) rfl) ?_
            refine zx_iast (pc := 246) G (zk_12_16 hI f_l0) c4 (z_dec T_X12_moves_ok 136 (246, .iastore, 1) rfl) ?_
            refine zx_iinc (pc := 247) (v := v6 + 1) (lv' := [(6, .int (v6 + 1)), (7, .int (r3)), (0, .ref (0)), (1, .int (v1)), (2, .int (v2)), (3, .int (v3)), (4, .int (v4))]) G 6 rfl (z_inc (by decide)) (Nat.le_of_ble_eq_true rfl) rfl (z_dec T_X12_moves_ok 137 (247, .iinc 6 1, 3) rfl) ?_
            refine zx_goto (pc := 250) (tgt := 152) G rfl (z_dec T_X12_moves_ok 138 (250, .goto (-98), 3) rfl) ?_
            refine zx_sub (lv' := [(0, .ref (0)), (1, .int (v1)), (2, .int (v2)), (3, .int (v3)), (4, .int (v4)), (6, .int (v6 + 1))]) [2, 3, 4, 5, 6, 0] rfl ?_
            exact hP152 _ _ _ _ _ _ h f_l0
        · replace h := z_pos hc h
          refine zx_goto (pc := 189) (tgt := 247) G rfl (z_dec T_X12_moves_ok 104 (189, .goto 58, 3) rfl) ?_
          refine zx_iinc (pc := 247) (v := v6 + 1) (lv' := [(6, .int (v6 + 1)), (7, .int (r3)), (0, .ref (0)), (1, .int (v1)), (2, .int (v2)), (3, .int (v3)), (4, .int (v4))]) G 6 rfl (z_inc (by decide)) (Nat.le_of_ble_eq_true rfl) rfl (z_dec T_X12_moves_ok 137 (247, .iinc 6 1, 3) rfl) ?_
          refine zx_goto (pc := 250) (tgt := 152) G rfl (z_dec T_X12_moves_ok 138 (250, .goto (-98), 3) rfl) ?_
          refine zx_sub (lv' := [(0, .ref (0)), (1, .int (v1)), (2, .int (v2)), (3, .int (v3)), (4, .int (v4)), (6, .int (v6 + 1))]) [2, 3, 4, 5, 6, 0] rfl ?_
          exact hP152 _ _ _ _ _ _ h f_l0
set_option maxRecDepth 100000 in
set_option maxHeartbeats 4000000 in
theorem L_X12_moves_152_ok {p : Program} {l : Launch} {e : Env} {s : State} {m : MethodId} {args : Array Value} {below : List Frame} {meth : Method} {c : Code} {D : va_G} {A : Nat → Prop} {ρ : z_A} {kd : z_K} {q : z_Q} {μ : z_M} {K : z_M → Prop} {P21 : Int32 → Int32 → Int32 → Int32 → z_M → Prop} {v1 : Int32} {v2 : Int32} {v3 : Int32} {v4 : Int32} {v6 : Int32} (G : z_G p c cX12_moves s m args RX12 8 D) (hr : meth.sig.returnType = (Option.none : Option Jvm.ClassFile.FieldType)) (hlk : meth.locks = false) (hP21 : ∀ (v1 : Int32) (v2 : Int32) (v3 : Int32) (v4 : Int32) (μ : z_M), P21 v1 v2 v3 v4 μ → (kd 0 = some (.inl 12)) → z_X p l e rm_X12_moves s m args below meth c 8 D A (MQ below (z_Qn D A ρ kd (z_Kv q K)) args s 0 0 A) 0 0 ρ kd q μ 21 [(0, .ref (0)), (1, .int (v1)), (2, .int (v2)), (3, .int (v3)), (4, .int (v4))] []) (hI : z_I kd q) (f_l0 : kd 0 = some (.inl 12)) (h : L_X12_moves_152 K P21 v1 v2 v3 v4 v6 μ) : z_X p l e rm_X12_moves s m args below meth c 8 D A (MQ below (z_Qn D A ρ kd (z_Kv q K)) args s 0 0 A) 0 0 ρ kd q μ 152 [(0, .ref (0)), (1, .int (v1)), (2, .int (v2)), (3, .int (v3)), (4, .int (v4)), (6, .int (v6))] [] :=
  h (fun (v1 : Int32) (v2 : Int32) (v3 : Int32) (v4 : Int32) (v6 : Int32) (μ : z_M) => (kd 0 = some (.inl 12)) → z_X p l e rm_X12_moves s m args below meth c 8 D A (MQ below (z_Qn D A ρ kd (z_Kv q K)) args s 0 0 A) 0 0 ρ kd q μ 152 [(0, .ref (0)), (1, .int (v1)), (2, .int (v2)), (3, .int (v3)), (4, .int (v4)), (6, .int (v6))] []) (fun v1 v2 v3 v4 v6 μ h f_l0 => B_X12_moves_152_ok G hr hlk hP21 (fun _ _ _ _ _ _ h => h) hI f_l0 h) f_l0
set_option maxRecDepth 100000 in
set_option maxHeartbeats 4000000 in
theorem B_X12_moves_21_ok {p : Program} {l : Launch} {e : Env} {s : State} {m : MethodId} {args : Array Value} {below : List Frame} {meth : Method} {c : Code} {D : va_G} {A : Nat → Prop} {ρ : z_A} {kd : z_K} {q : z_Q} {μ : z_M} {K : z_M → Prop} {P21 : Int32 → Int32 → Int32 → Int32 → z_M → Prop} {v1 : Int32} {v2 : Int32} {v3 : Int32} {v4 : Int32} (G : z_G p c cX12_moves s m args RX12 8 D) (hr : meth.sig.returnType = (Option.none : Option Jvm.ClassFile.FieldType)) (hlk : meth.locks = false) (hP21 : ∀ (v1 : Int32) (v2 : Int32) (v3 : Int32) (v4 : Int32) (μ : z_M), P21 v1 v2 v3 v4 μ → (kd 0 = some (.inl 12)) → z_X p l e rm_X12_moves s m args below meth c 8 D A (MQ below (z_Qn D A ρ kd (z_Kv q K)) args s 0 0 A) 0 0 ρ kd q μ 21 [(0, .ref (0)), (1, .int (v1)), (2, .int (v2)), (3, .int (v3)), (4, .int (v4))] []) (hI : z_I kd q) (f_l0 : kd 0 = some (.inl 12)) (h : B_X12_moves_21 K P21 v1 v2 v3 v4 μ) : z_X p l e rm_X12_moves s m args below meth c 8 D A (MQ below (z_Qn D A ρ kd (z_Kv q K)) args s 0 0 A) 0 0 ρ kd q μ 21 [(0, .ref (0)), (1, .int (v1)), (2, .int (v2)), (3, .int (v3)), (4, .int (v4))] [] := by
    unfold B_X12_moves_21 at h
    refine zx_iload (pc := 21) G 4 rfl (z_dec T_X12_moves_ok 13 (21, .iload 4, 2) rfl) ?_
    refine zx_bipush (pc := 23) (v := 12) G (z_dec T_X12_moves_ok 14 (23, .bipush 12, 2) rfl) rfl ?_
    refine zx_iload_n (pc := 25) G 1 rfl rfl (z_dec T_X12_moves_ok 15 (25, .iload_n 1, 1) rfl) ?_
    refine zx_imul (pc := 26) G  (z_dec T_X12_moves_ok 16 (26, .imul, 1) rfl) ?_
    refine zx_aload_n (pc := 27) G (some (0)) 0 rfl rfl (z_dec T_X12_moves_ok 17 (27, .aload_n 0, 1) rfl) ?_
    refine zx_getF (pc := 28) (b := 32) G gf_RX12_81 rfl f_l0 (zq_12_31 hI f_l0) (z_dec T_X12_moves_ok 18 (28, .getfield 81, 3) rfl) ?_
    refine zx_iload_n (pc := 31) G 1 rfl rfl (z_dec T_X12_moves_ok 19 (31, .iload_n 1, 1) rfl) ?_
    obtain ⟨c1, h⟩ := h
    refine zx_iald (pc := 32) G (zk_12_31 hI f_l0) c1 (z_dec T_X12_moves_ok 20 (32, .iaload, 1) rfl) ?_
    refine zx_iadd (pc := 33) G  (z_dec T_X12_moves_ok 21 (33, .iadd, 1) rfl) ?_
    refine zx_icmp_ge (pc := 34) (tgt := 259) G rfl (z_dec T_X12_moves_ok 22 (34, .if_icmp .ge 225, 3) rfl) (fun hc => ?_) (fun hc => ?_)
    · replace h := z_pos hc h
      exact zx_vret (pc := 259) G hr hlk (Nat.le_refl _) (Nat.le_refl _) (z_dec T_X12_moves_ok 141 (259, .return_, 1) rfl) ⟨rfl, rfl, h⟩
    · replace h := z_neg hc h
      refine zx_aload_n (pc := 37) G (some (0)) 0 rfl rfl (z_dec T_X12_moves_ok 23 (37, .aload_n 0, 1) rfl) ?_
      refine zx_iload (pc := 38) G 4 rfl (z_dec T_X12_moves_ok 24 (38, .iload 4, 2) rfl) ?_
      refine zx_callV_zN (pc := 40) (rm := rm_X12_holds) G cw_RX12_392 ⟨Nat.le_of_ble_eq_true rfl, Nat.le_of_ble_eq_true rfl⟩ rfl rfl ⟨Nat.zero_le _, Nat.zero_le _⟩ f_l0 rfl (fun sz => (met_X12_holds l D ρ kd q μ sz v4 _ hI f_l0 h)) rfl rfl (Nat.le_of_ble_eq_true rfl) (z_dec T_X12_moves_ok 25 (40, .invokevirtual 392, 3) rfl) (fun r3 μ2 hzr3 hn => ?_)
      clear h
      have h := hn
      clear hn
      refine zx_if_ne (pc := 43) (tgt := 49) G rfl (z_dec T_X12_moves_ok 26 (43, .ifCond .ne 6, 3) rfl) (fun hc => ?_) (fun hc => ?_)
      · replace h := z_neg hc h
        refine zx_iload_n (pc := 49) G 1 rfl rfl (z_dec T_X12_moves_ok 28 (49, .iload_n 1, 1) rfl) ?_
        refine zx_iload_n (pc := 50) G 2 rfl rfl (z_dec T_X12_moves_ok 29 (50, .iload_n 2, 1) rfl) ?_
        refine zx_iload_n (pc := 51) G 3 rfl rfl (z_dec T_X12_moves_ok 30 (51, .iload_n 3, 1) rfl) ?_
        refine zx_callS_iN (pc := 52) (rm := rm_X12_cellOf) G cw_RX12_188 ⟨Nat.le_of_ble_eq_true rfl, Nat.le_of_ble_eq_true rfl⟩ rfl rfl ⟨Nat.zero_le _, Nat.zero_le _⟩ (fun sz => (met_X12_cellOf l D ρ kd q μ2 sz v1 v2 v3 _ hI h)) rfl rfl (Nat.le_of_ble_eq_true rfl) (z_dec T_X12_moves_ok 31 (52, .invokestatic 188, 3) rfl) (fun r5 μ4 hn => ?_)
        clear h
        have h := hn
        clear hn
        refine zx_istore (pc := 55) (lv' := [(5, .int (r5)), (0, .ref (0)), (1, .int (v1)), (2, .int (v2)), (3, .int (v3)), (4, .int (v4))]) G (Nat.le_of_ble_eq_true rfl) rfl (z_dec T_X12_moves_ok 32 (55, .istore 5, 2) rfl) ?_
        refine zx_aload_n (pc := 57) G (some (0)) 1 rfl rfl (z_dec T_X12_moves_ok 33 (57, .aload_n 0, 1) rfl) ?_
        refine zx_getF (pc := 58) (b := 33) G gf_RX12_84 rfl f_l0 (zq_12_32 hI f_l0) (z_dec T_X12_moves_ok 34 (58, .getfield 84, 3) rfl) ?_
        refine zx_iload (pc := 61) G 5 rfl (z_dec T_X12_moves_ok 35 (61, .iload 4, 2) rfl) ?_
        obtain ⟨c6, h⟩ := h
        refine zx_iald (pc := 63) G (zk_12_32 hI f_l0) c6 (z_dec T_X12_moves_ok 36 (63, .iaload, 1) rfl) ?_
        refine zx_bipush (pc := 64) (v := 99) G (z_dec T_X12_moves_ok 37 (64, .bipush 99, 2) rfl) rfl ?_
        refine zx_icmp_ne (pc := 66) (tgt := 80) G rfl (z_dec T_X12_moves_ok 38 (66, .if_icmp .ne 14, 3) rfl) (fun hc => ?_) (fun hc => ?_)
        · replace h := z_neg hc h
          refine zx_aload_n (pc := 80) G (some (0)) 1 rfl rfl (z_dec T_X12_moves_ok 45 (80, .aload_n 0, 1) rfl) ?_
          refine zx_getF (pc := 81) (b := 33) G gf_RX12_84 rfl f_l0 (zq_12_32 hI f_l0) (z_dec T_X12_moves_ok 46 (81, .getfield 84, 3) rfl) ?_
          refine zx_iload (pc := 84) G 5 rfl (z_dec T_X12_moves_ok 47 (84, .iload 4, 2) rfl) ?_
          refine zx_iald (pc := 86) G (zk_12_32 hI f_l0) c6 (z_dec T_X12_moves_ok 48 (86, .iaload, 1) rfl) ?_
          refine zx_bipush (pc := 87) (v := 115) G (z_dec T_X12_moves_ok 49 (87, .bipush 115, 2) rfl) rfl ?_
          refine zx_icmp_ne (pc := 89) (tgt := 149) G rfl (z_dec T_X12_moves_ok 50 (89, .if_icmp .ne 60, 3) rfl) (fun hc => ?_) (fun hc => ?_)
          · replace h := z_neg hc h
            refine zx_iconst (pc := 149) (v := 0) G (z_dec T_X12_moves_ok 82 (149, .iconst 0, 1) rfl) rfl ?_
            refine zx_istore (pc := 150) (lv' := [(6, .int ((0 : Int32))), (5, .int (r5)), (0, .ref (0)), (1, .int (v1)), (2, .int (v2)), (3, .int (v3)), (4, .int (v4))]) G (Nat.le_of_ble_eq_true rfl) rfl (z_dec T_X12_moves_ok 83 (150, .istore 6, 2) rfl) ?_
            refine zx_sub (lv' := [(0, .ref (0)), (1, .int (v1)), (2, .int (v2)), (3, .int (v3)), (4, .int (v4)), (6, .int ((0 : Int32)))]) [2, 3, 4, 5, 6, 0] rfl ?_
            exact L_X12_moves_152_ok G hr hlk hP21 hI f_l0 h
          · replace h := z_pos hc h
            refine zx_aload_n (pc := 92) G (some (0)) 1 rfl rfl (z_dec T_X12_moves_ok 51 (92, .aload_n 0, 1) rfl) ?_
            refine zx_getF (pc := 93) (b := 17) G gf_RX12_42 rfl f_l0 (zq_12_16 hI f_l0) (z_dec T_X12_moves_ok 52 (93, .getfield 42, 3) rfl) ?_
            refine zx_iload (pc := 96) G 0 rfl (z_dec T_X12_moves_ok 53 (96, .iload 5, 2) rfl) ?_
            obtain ⟨c7, h⟩ := h
            refine zx_iald (pc := 98) G (zk_12_16 hI f_l0) c7 (z_dec T_X12_moves_ok 54 (98, .iaload, 1) rfl) ?_
            refine zx_iconst (pc := 99) (v := -1) G (z_dec T_X12_moves_ok 55 (99, .iconst (-1), 1) rfl) rfl ?_
            refine zx_icmp_eq (pc := 100) (tgt := 253) G rfl (z_dec T_X12_moves_ok 56 (100, .if_icmp .eq 153, 3) rfl) (fun hc => ?_) (fun hc => ?_)
            · replace h := z_pos hc h
              refine zx_iinc (pc := 253) (v := v4 + 1) (lv' := [(4, .int (v4 + 1)), (5, .int (r5)), (0, .ref (0)), (1, .int (v1)), (2, .int (v2)), (3, .int (v3))]) G 5 rfl (z_inc (by decide)) (Nat.le_of_ble_eq_true rfl) rfl (z_dec T_X12_moves_ok 139 (253, .iinc 4 1, 3) rfl) ?_
              refine zx_goto (pc := 256) (tgt := 21) G rfl (z_dec T_X12_moves_ok 140 (256, .goto (-235), 3) rfl) ?_
              refine zx_sub (lv' := [(0, .ref (0)), (1, .int (v1)), (2, .int (v2)), (3, .int (v3)), (4, .int (v4 + 1))]) [2, 3, 4, 5, 0] rfl ?_
              exact hP21 _ _ _ _ _ h f_l0
            · replace h := z_neg hc h
              refine zx_aload_n (pc := 103) G (some (0)) 1 rfl rfl (z_dec T_X12_moves_ok 57 (103, .aload_n 0, 1) rfl) ?_
              refine zx_getF (pc := 104) (b := 17) G gf_RX12_42 rfl f_l0 (zq_12_16 hI f_l0) (z_dec T_X12_moves_ok 58 (104, .getfield 42, 3) rfl) ?_
              refine zx_iload (pc := 107) G 0 rfl (z_dec T_X12_moves_ok 59 (107, .iload 5, 2) rfl) ?_
              refine zx_aload_n (pc := 109) G (some (0)) 1 rfl rfl (z_dec T_X12_moves_ok 60 (109, .aload_n 0, 1) rfl) ?_
              refine zx_getF (pc := 110) (b := 17) G gf_RX12_42 rfl f_l0 (zq_12_16 hI f_l0) (z_dec T_X12_moves_ok 61 (110, .getfield 42, 3) rfl) ?_
              refine zx_iload (pc := 113) G 0 rfl (z_dec T_X12_moves_ok 62 (113, .iload 5, 2) rfl) ?_
              refine zx_iald (pc := 115) G (zk_12_16 hI f_l0) c7 (z_dec T_X12_moves_ok 63 (115, .iaload, 1) rfl) ?_
              refine zx_aload_n (pc := 116) G (some (0)) 1 rfl rfl (z_dec T_X12_moves_ok 64 (116, .aload_n 0, 1) rfl) ?_
              refine zx_getF (pc := 117) (b := 34) G gf_RX12_87 rfl f_l0 (zq_12_33 hI f_l0) (z_dec T_X12_moves_ok 65 (117, .getfield 87, 3) rfl) ?_
              refine zx_iload (pc := 120) G 5 rfl (z_dec T_X12_moves_ok 66 (120, .iload 4, 2) rfl) ?_
              refine zx_iald (pc := 122) G (zk_12_33 hI f_l0) c6 (z_dec T_X12_moves_ok 67 (122, .iaload, 1) rfl) ?_
              refine zx_icmp_ge (pc := 123) (tgt := 130) G rfl (z_dec T_X12_moves_ok 68 (123, .if_icmp .ge 7, 3) rfl) (fun hc => ?_) (fun hc => ?_)
              · replace h := z_pos hc h
                refine zx_aload_n (pc := 130) G (some (0)) 1 rfl rfl (z_dec T_X12_moves_ok 71 (130, .aload_n 0, 1) rfl) ?_
                refine zx_getF (pc := 131) (b := 17) G gf_RX12_42 rfl f_l0 (zq_12_16 hI f_l0) (z_dec T_X12_moves_ok 72 (131, .getfield 42, 3) rfl) ?_
                refine zx_iload (pc := 134) G 0 rfl (z_dec T_X12_moves_ok 73 (134, .iload 5, 2) rfl) ?_
                refine zx_iald (pc := 136) G (zk_12_16 hI f_l0) c7 (z_dec T_X12_moves_ok 74 (136, .iaload, 1) rfl) ?_
                refine zx_aload_n (pc := 137) G (some (0)) 1 rfl rfl (z_dec T_X12_moves_ok 75 (137, .aload_n 0, 1) rfl) ?_
                refine zx_getF (pc := 138) (b := 34) G gf_RX12_87 rfl f_l0 (zq_12_33 hI f_l0) (z_dec T_X12_moves_ok 76 (138, .getfield 87, 3) rfl) ?_
                refine zx_iload (pc := 141) G 5 rfl (z_dec T_X12_moves_ok 77 (141, .iload 4, 2) rfl) ?_
                refine zx_iald (pc := 143) G (zk_12_33 hI f_l0) c6 (z_dec T_X12_moves_ok 78 (143, .iaload, 1) rfl) ?_
                refine zx_isub (pc := 144) G  (z_dec T_X12_moves_ok 79 (144, .isub, 1) rfl) ?_
                refine zx_iast (pc := 145) G (zk_12_16 hI f_l0) c7 (z_dec T_X12_moves_ok 80 (145, .iastore, 1) rfl) ?_
                refine zx_goto (pc := 146) (tgt := 253) G rfl (z_dec T_X12_moves_ok 81 (146, .goto 107, 3) rfl) ?_
                refine zx_iinc (pc := 253) (v := v4 + 1) (lv' := [(4, .int (v4 + 1)), (5, .int (r5)), (0, .ref (0)), (1, .int (v1)), (2, .int (v2)), (3, .int (v3))]) G 5 rfl (z_inc (by decide)) (Nat.le_of_ble_eq_true rfl) rfl (z_dec T_X12_moves_ok 139 (253, .iinc 4 1, 3) rfl) ?_
                refine zx_goto (pc := 256) (tgt := 21) G rfl (z_dec T_X12_moves_ok 140 (256, .goto (-235), 3) rfl) ?_
                refine zx_sub (lv' := [(0, .ref (0)), (1, .int (v1)), (2, .int (v2)), (3, .int (v3)), (4, .int (v4 + 1))]) [2, 3, 4, 5, 0] rfl ?_
                exact hP21 _ _ _ _ _ h f_l0
              · replace h := z_neg hc h
                refine zx_iconst (pc := 126) (v := 0) G (z_dec T_X12_moves_ok 69 (126, .iconst 0, 1) rfl) rfl ?_
                refine zx_goto (pc := 127) (tgt := 145) G rfl (z_dec T_X12_moves_ok 70 (127, .goto 18, 3) rfl) ?_
                refine zx_iast (pc := 145) G (zk_12_16 hI f_l0) c7 (z_dec T_X12_moves_ok 80 (145, .iastore, 1) rfl) ?_
                refine zx_goto (pc := 146) (tgt := 253) G rfl (z_dec T_X12_moves_ok 81 (146, .goto 107, 3) rfl) ?_
                refine zx_iinc (pc := 253) (v := v4 + 1) (lv' := [(4, .int (v4 + 1)), (5, .int (r5)), (0, .ref (0)), (1, .int (v1)), (2, .int (v2)), (3, .int (v3))]) G 5 rfl (z_inc (by decide)) (Nat.le_of_ble_eq_true rfl) rfl (z_dec T_X12_moves_ok 139 (253, .iinc 4 1, 3) rfl) ?_
                refine zx_goto (pc := 256) (tgt := 21) G rfl (z_dec T_X12_moves_ok 140 (256, .goto (-235), 3) rfl) ?_
                refine zx_sub (lv' := [(0, .ref (0)), (1, .int (v1)), (2, .int (v2)), (3, .int (v3)), (4, .int (v4 + 1))]) [2, 3, 4, 5, 0] rfl ?_
                exact hP21 _ _ _ _ _ h f_l0
        · replace h := z_pos hc h
          refine zx_aload_n (pc := 69) G (some (0)) 1 rfl rfl (z_dec T_X12_moves_ok 39 (69, .aload_n 0, 1) rfl) ?_
          refine zx_getF (pc := 70) (b := 17) G gf_RX12_42 rfl f_l0 (zq_12_16 hI f_l0) (z_dec T_X12_moves_ok 40 (70, .getfield 42, 3) rfl) ?_
          refine zx_iload (pc := 73) G 0 rfl (z_dec T_X12_moves_ok 41 (73, .iload 5, 2) rfl) ?_
          refine zx_iconst (pc := 75) (v := -1) G (z_dec T_X12_moves_ok 42 (75, .iconst (-1), 1) rfl) rfl ?_
          obtain ⟨c8, h⟩ := h
          refine zx_iast (pc := 76) G (zk_12_16 hI f_l0) c8 (z_dec T_X12_moves_ok 43 (76, .iastore, 1) rfl) ?_
          refine zx_goto (pc := 77) (tgt := 253) G rfl (z_dec T_X12_moves_ok 44 (77, .goto 176, 3) rfl) ?_
          refine zx_iinc (pc := 253) (v := v4 + 1) (lv' := [(4, .int (v4 + 1)), (5, .int (r5)), (0, .ref (0)), (1, .int (v1)), (2, .int (v2)), (3, .int (v3))]) G 5 rfl (z_inc (by decide)) (Nat.le_of_ble_eq_true rfl) rfl (z_dec T_X12_moves_ok 139 (253, .iinc 4 1, 3) rfl) ?_
          refine zx_goto (pc := 256) (tgt := 21) G rfl (z_dec T_X12_moves_ok 140 (256, .goto (-235), 3) rfl) ?_
          refine zx_sub (lv' := [(0, .ref (0)), (1, .int (v1)), (2, .int (v2)), (3, .int (v3)), (4, .int (v4 + 1))]) [2, 3, 4, 5, 0] rfl ?_
          exact hP21 _ _ _ _ _ h f_l0
      · replace h := z_pos hc h
        refine zx_goto (pc := 46) (tgt := 253) G rfl (z_dec T_X12_moves_ok 27 (46, .goto 207, 3) rfl) ?_
        refine zx_iinc (pc := 253) (v := v4 + 1) (lv' := [(4, .int (v4 + 1)), (0, .ref (0)), (1, .int (v1)), (2, .int (v2)), (3, .int (v3))]) G 4 rfl (z_inc (by decide)) (Nat.le_of_ble_eq_true rfl) rfl (z_dec T_X12_moves_ok 139 (253, .iinc 4 1, 3) rfl) ?_
        refine zx_goto (pc := 256) (tgt := 21) G rfl (z_dec T_X12_moves_ok 140 (256, .goto (-235), 3) rfl) ?_
        refine zx_sub (lv' := [(0, .ref (0)), (1, .int (v1)), (2, .int (v2)), (3, .int (v3)), (4, .int (v4 + 1))]) [1, 2, 3, 4, 0] rfl ?_
        exact hP21 _ _ _ _ _ h f_l0
set_option maxRecDepth 100000 in
set_option maxHeartbeats 4000000 in
theorem L_X12_moves_21_ok {p : Program} {l : Launch} {e : Env} {s : State} {m : MethodId} {args : Array Value} {below : List Frame} {meth : Method} {c : Code} {D : va_G} {A : Nat → Prop} {ρ : z_A} {kd : z_K} {q : z_Q} {μ : z_M} {K : z_M → Prop} {v1 : Int32} {v2 : Int32} {v3 : Int32} {v4 : Int32} (G : z_G p c cX12_moves s m args RX12 8 D) (hr : meth.sig.returnType = (Option.none : Option Jvm.ClassFile.FieldType)) (hlk : meth.locks = false) (hI : z_I kd q) (f_l0 : kd 0 = some (.inl 12)) (h : L_X12_moves_21 K v1 v2 v3 v4 μ) : z_X p l e rm_X12_moves s m args below meth c 8 D A (MQ below (z_Qn D A ρ kd (z_Kv q K)) args s 0 0 A) 0 0 ρ kd q μ 21 [(0, .ref (0)), (1, .int (v1)), (2, .int (v2)), (3, .int (v3)), (4, .int (v4))] [] :=
  h (fun (v1 : Int32) (v2 : Int32) (v3 : Int32) (v4 : Int32) (μ : z_M) => (kd 0 = some (.inl 12)) → z_X p l e rm_X12_moves s m args below meth c 8 D A (MQ below (z_Qn D A ρ kd (z_Kv q K)) args s 0 0 A) 0 0 ρ kd q μ 21 [(0, .ref (0)), (1, .int (v1)), (2, .int (v2)), (3, .int (v3)), (4, .int (v4))] []) (fun v1 v2 v3 v4 μ h f_l0 => B_X12_moves_21_ok G hr hlk (fun _ _ _ _ _ h => h) hI f_l0 h) f_l0
set_option maxRecDepth 100000 in
set_option maxHeartbeats 4000000 in
theorem met_X12_moves (l : Launch) (D : va_G) (ρ : z_A) (kd : z_K) (q : z_Q) (μ : z_M) (sz : Nat) (a1 : Int32) (a2 : Int32) (a3 : Int32) (K : z_M → Prop) (hI : z_I kd q) (h_o : kd 0 = some (.inl 12)) (h : C_X12_moves a1 a2 a3 μ K) : Met l yX12_moves (z_ws yX12_moves cX12_moves 8 (Option.none : Option Jvm.ClassFile.FieldType)) rm_X12_moves (z_Pc D ρ kd q μ sz [.ref (0), .int (a1), .int (a2), .int (a3)]) (z_Qn D (z_Rg ρ sz) ρ kd (z_Kv q K)) 0 0 (z_Rg ρ sz) := by
  refine z_met (rm := rm_X12_moves) (by decide) (Nat.le_of_ble_eq_true rfl) (fun p e s m args below meth c G hr hlk => ?_)
  unfold C_X12_moves at h
  show z_X _ _ _ _ _ _ _ _ _ _ _ _ _ _ _ _ _ _ _ _ _ [(0, .ref (0)), (1, .int (a1)), (2, .int (a2)), (3, .int (a3))] _
  refine zx_aload_n (pc := 0) G (some (0)) 0 rfl rfl (z_dec T_X12_moves_ok 0 (0, .aload_n 0, 1) rfl) ?_
  refine zx_iload_n (pc := 1) G 1 rfl rfl (z_dec T_X12_moves_ok 1 (1, .iload_n 1, 1) rfl) ?_
  refine zx_putI (pc := 2) G gf_RX12_367 cf_12 rfl rfl h_o (z_dec T_X12_moves_ok 2 (2, .putfield 367, 3) rfl) ?_
  refine zx_aload_n (pc := 5) G (some (0)) 0 rfl rfl (z_dec T_X12_moves_ok 3 (5, .aload_n 0, 1) rfl) ?_
  refine zx_iload_n (pc := 6) G 2 rfl rfl (z_dec T_X12_moves_ok 4 (6, .iload_n 2, 1) rfl) ?_
  refine zx_putI (pc := 7) G gf_RX12_370 cf_12 rfl rfl h_o (z_dec T_X12_moves_ok 5 (7, .putfield 370, 3) rfl) ?_
  refine zx_aload_n (pc := 10) G (some (0)) 0 rfl rfl (z_dec T_X12_moves_ok 6 (10, .aload_n 0, 1) rfl) ?_
  refine zx_iload_n (pc := 11) G 3 rfl rfl (z_dec T_X12_moves_ok 7 (11, .iload_n 3, 1) rfl) ?_
  refine zx_putI (pc := 12) G gf_RX12_373 cf_12 rfl rfl h_o (z_dec T_X12_moves_ok 8 (12, .putfield 373, 3) rfl) ?_
  refine zx_bipush (pc := 15) (v := 12) G (z_dec T_X12_moves_ok 9 (15, .bipush 12, 2) rfl) rfl ?_
  refine zx_iload_n (pc := 17) G 1 rfl rfl (z_dec T_X12_moves_ok 10 (17, .iload_n 1, 1) rfl) ?_
  refine zx_imul (pc := 18) G  (z_dec T_X12_moves_ok 11 (18, .imul, 1) rfl) ?_
  refine zx_istore (pc := 19) (lv' := [(4, .int (((12 : Int32)) * a1)), (0, .ref (0)), (1, .int (a1)), (2, .int (a2)), (3, .int (a3))]) G (Nat.le_of_ble_eq_true rfl) rfl (z_dec T_X12_moves_ok 12 (19, .istore 4, 2) rfl) ?_
  refine zx_sub (lv' := [(0, .ref (0)), (1, .int (a1)), (2, .int (a2)), (3, .int (a3)), (4, .int (((12 : Int32)) * a1))]) [1, 2, 3, 4, 0] rfl ?_
  exact L_X12_moves_21_ok G hr hlk hI h_o h
abbrev rm_X12_bet : Room := { frames := 9, cells := 0, slots := 0, locals := 211 }
set_option maxRecDepth 100000 in
set_option maxHeartbeats 4000000 in
theorem L_X12_bet_106_ok {p : Program} {l : Launch} {e : Env} {s : State} {m : MethodId} {args : Array Value} {below : List Frame} {meth : Method} {c : Code} {D : va_G} {A : Nat → Prop} {ρ : z_A} {kd : z_K} {q : z_Q} {μ : z_M} {K : Int32 → z_M → Prop} {v2 : Int32} {v4 : Int32} {v5 : Int32} {t0 : Int32} {t1 : Int32} {t2 : Int32} (G : z_G p c cX12_bet s m args RX12 7 D) (hr : meth.sig.returnType = (Option.some Jvm.ClassFile.FieldType.int)) (hlk : meth.locks = false) (hI : z_I kd q) (f_l0 : kd 0 = some (.inl 12)) (f_s3 : kd 15 = some (.inr (0, 4))) (h : L_X12_bet_106 K v2 v4 v5 t0 t1 t2 μ) : z_X p l e rm_X12_bet s m args below meth c 7 D A (MQ below (z_Qn D A ρ kd (z_Ki q K)) args s 0 0 A) 0 0 ρ kd q μ 106 [(0, .ref (0)), (2, .int (v2)), (4, .int (v4)), (5, .int (v5))] [.int (t0), .int (t1), .int (t2), .ref (15)] := by
    unfold L_X12_bet_106 at h
    refine zx_iadd (pc := 106) G  (z_dec T_X12_bet_ok 57 (106, .iadd, 1) rfl) ?_
    obtain ⟨c1, h⟩ := h
    refine zx_iast (pc := 107) G f_s3 c1 (z_dec T_X12_bet_ok 58 (107, .iastore, 1) rfl) ?_
    refine zx_aload_n (pc := 108) G (some (0)) 0 rfl rfl (z_dec T_X12_bet_ok 59 (108, .aload_n 0, 1) rfl) ?_
    refine zx_dup (pc := 109) G rfl (z_dec T_X12_bet_ok 60 (109, .dup, 1) rfl) ?_
    refine zx_getI (pc := 110) G gf_RX12_196 rfl f_l0 (z_dec T_X12_bet_ok 61 (110, .getfield 196, 3) rfl) ?_
    refine zx_iconst (pc := 113) (v := 1) G (z_dec T_X12_bet_ok 62 (113, .iconst 1, 1) rfl) rfl ?_
    refine zx_iadd (pc := 114) G  (z_dec T_X12_bet_ok 63 (114, .iadd, 1) rfl) ?_
    refine zx_putI (pc := 115) G gf_RX12_196 cf_12 rfl rfl f_l0 (z_dec T_X12_bet_ok 64 (115, .putfield 196, 3) rfl) ?_
    refine zx_aload_n (pc := 118) G (some (0)) 0 rfl rfl (z_dec T_X12_bet_ok 65 (118, .aload_n 0, 1) rfl) ?_
    refine zx_iload_n (pc := 119) G 1 rfl rfl (z_dec T_X12_bet_ok 66 (119, .iload_n 2, 1) rfl) ?_
    refine zx_iload (pc := 120) G 2 rfl (z_dec T_X12_bet_ok 67 (120, .iload 4, 2) rfl) ?_
    refine zx_iload (pc := 122) G 3 rfl (z_dec T_X12_bet_ok 68 (122, .iload 5, 2) rfl) ?_
    refine zx_callV_vN (pc := 124) (rm := rm_X12_moves) G cw_RX12_220 ⟨Nat.le_of_ble_eq_true rfl, Nat.le_of_ble_eq_true rfl⟩ rfl rfl ⟨Nat.zero_le _, Nat.zero_le _⟩ f_l0 rfl (fun sz => (met_X12_moves l D ρ kd q (si (si μ 15 t2.toNatClampNeg (t1 + t0)) 0 6 (((si μ 15 t2.toNatClampNeg (t1 + t0)).1 0 6) + ((1 : Int32)))) sz v2 v4 v5 _ hI f_l0 h)) rfl rfl (Nat.le_of_ble_eq_true rfl) (z_dec T_X12_bet_ok 69 (124, .invokevirtual 220, 3) rfl) (fun μ2 hn => ?_)
    clear h
    have h := hn
    clear hn
    refine zx_aload_n (pc := 127) G (some (0)) 0 rfl rfl (z_dec T_X12_bet_ok 70 (127, .aload_n 0, 1) rfl) ?_
    refine zx_getI (pc := 128) G gf_RX12_196 rfl f_l0 (z_dec T_X12_bet_ok 71 (128, .getfield 196, 3) rfl) ?_
    refine zx_iconst (pc := 131) (v := 1) G (z_dec T_X12_bet_ok 72 (131, .iconst 1, 1) rfl) rfl ?_
    refine zx_isub (pc := 132) G  (z_dec T_X12_bet_ok 73 (132, .isub, 1) rfl) ?_
    exact zx_iret (pc := 133) G hr hlk (Nat.le_refl _) (Nat.le_refl _) (z_dec T_X12_bet_ok 74 (133, .ireturn, 1) rfl) ⟨rfl, _, rfl, h⟩
set_option maxRecDepth 100000 in
set_option maxHeartbeats 4000000 in
theorem met_X12_bet (l : Launch) (D : va_G) (ρ : z_A) (kd : z_K) (q : z_Q) (μ : z_M) (sz : Nat) (a1 : Int32) (a2 : Int32) (a3 : Int32) (a4 : Int32) (a5 : Int32) (a6 : Int32) (K : Int32 → z_M → Prop) (hI : z_I kd q) (h_o : kd 0 = some (.inl 12)) (h : C_X12_bet a1 a2 a3 a4 a5 a6 μ K) : Met l yX12_bet (z_ws yX12_bet cX12_bet 7 (Option.some Jvm.ClassFile.FieldType.int)) rm_X12_bet (z_Pc D ρ kd q μ sz [.ref (0), .int (a1), .int (a2), .int (a3), .int (a4), .int (a5), .int (a6)]) (z_Qn D (z_Rg ρ sz) ρ kd (z_Ki q K)) 0 0 (z_Rg ρ sz) := by
  refine z_met (rm := rm_X12_bet) (by decide) (Nat.le_of_ble_eq_true rfl) (fun p e s m args below meth c G hr hlk => ?_)
  unfold C_X12_bet at h
  show z_X _ _ _ _ _ _ _ _ _ _ _ _ _ _ _ _ _ _ _ _ _ [(0, .ref (0)), (1, .int (a1)), (2, .int (a2)), (3, .int (a3)), (4, .int (a4)), (5, .int (a5)), (6, .int (a6))] _
  refine zx_aload_n (pc := 0) G (some (0)) 0 rfl rfl (z_dec T_X12_bet_ok 0 (0, .aload_n 0, 1) rfl) ?_
  refine zx_getI (pc := 1) G gf_RX12_196 rfl h_o (z_dec T_X12_bet_ok 1 (1, .getfield 196, 3) rfl) ?_
  refine zx_bipush (pc := 4) (v := 80) G (z_dec T_X12_bet_ok 2 (4, .bipush 80, 2) rfl) rfl ?_
  refine zx_icmp_eq (pc := 6) (tgt := 65) G rfl (z_dec T_X12_bet_ok 3 (6, .if_icmp .eq 59, 3) rfl) (fun hc => ?_) (fun hc => ?_)
  · replace h := z_pos hc h
    refine zx_iconst (pc := 65) (v := -1) G (z_dec T_X12_bet_ok 31 (65, .iconst (-1), 1) rfl) rfl ?_
    exact zx_iret (pc := 66) G hr hlk (Nat.le_refl _) (Nat.le_refl _) (z_dec T_X12_bet_ok 32 (66, .ireturn, 1) rfl) ⟨rfl, _, rfl, h⟩
  · replace h := z_neg hc h
    refine zx_iload_n (pc := 9) G 1 rfl rfl (z_dec T_X12_bet_ok 4 (9, .iload_n 1, 1) rfl) ?_
    refine zx_callS_zN (pc := 10) (rm := rm_X12_isBettor) G cw_RX12_202 ⟨Nat.le_of_ble_eq_true rfl, Nat.le_of_ble_eq_true rfl⟩ rfl rfl ⟨Nat.zero_le _, Nat.zero_le _⟩ (fun sz => (met_X12_isBettor l D ρ kd q μ sz a1 _ hI h)) rfl rfl (Nat.le_of_ble_eq_true rfl) (z_dec T_X12_bet_ok 5 (10, .invokestatic 202, 3) rfl) (fun r2 μ1 hzr2 hn => ?_)
    clear h
    have h := hn
    clear hn
    refine zx_if_eq (pc := 13) (tgt := 65) G rfl (z_dec T_X12_bet_ok 6 (13, .ifCond .eq 52, 3) rfl) (fun hc => ?_) (fun hc => ?_)
    · replace h := z_pos hc h
      refine zx_iconst (pc := 65) (v := -1) G (z_dec T_X12_bet_ok 31 (65, .iconst (-1), 1) rfl) rfl ?_
      exact zx_iret (pc := 66) G hr hlk (Nat.le_refl _) (Nat.le_refl _) (z_dec T_X12_bet_ok 32 (66, .ireturn, 1) rfl) ⟨rfl, _, rfl, h⟩
    · replace h := z_neg hc h
      refine zx_aload_n (pc := 16) G (some (0)) 0 rfl rfl (z_dec T_X12_bet_ok 7 (16, .aload_n 0, 1) rfl) ?_
      refine zx_iload_n (pc := 17) G 2 rfl rfl (z_dec T_X12_bet_ok 8 (17, .iload_n 2, 1) rfl) ?_
      refine zx_callV_zN (pc := 18) (rm := rm_X12_isBook) G cw_RX12_180 ⟨Nat.le_of_ble_eq_true rfl, Nat.le_of_ble_eq_true rfl⟩ rfl rfl ⟨Nat.zero_le _, Nat.zero_le _⟩ h_o rfl (fun sz => (met_X12_isBook l D ρ kd q μ1 sz a2 _ hI h_o h)) rfl rfl (Nat.le_of_ble_eq_true rfl) (z_dec T_X12_bet_ok 9 (18, .invokevirtual 180, 3) rfl) (fun r4 μ3 hzr4 hn => ?_)
      clear h
      have h := hn
      clear hn
      refine zx_if_eq (pc := 21) (tgt := 65) G rfl (z_dec T_X12_bet_ok 10 (21, .ifCond .eq 44, 3) rfl) (fun hc => ?_) (fun hc => ?_)
      · replace h := z_pos hc h
        refine zx_iconst (pc := 65) (v := -1) G (z_dec T_X12_bet_ok 31 (65, .iconst (-1), 1) rfl) rfl ?_
        exact zx_iret (pc := 66) G hr hlk (Nat.le_refl _) (Nat.le_refl _) (z_dec T_X12_bet_ok 32 (66, .ireturn, 1) rfl) ⟨rfl, _, rfl, h⟩
      · replace h := z_neg hc h
        refine zx_aload_n (pc := 24) G (some (0)) 0 rfl rfl (z_dec T_X12_bet_ok 11 (24, .aload_n 0, 1) rfl) ?_
        refine zx_getF (pc := 25) (b := 16) G gf_RX12_39 rfl h_o (zq_12_15 hI h_o) (z_dec T_X12_bet_ok 12 (25, .getfield 39, 3) rfl) ?_
        refine zx_iload_n (pc := 28) G 2 rfl rfl (z_dec T_X12_bet_ok 13 (28, .iload_n 2, 1) rfl) ?_
        obtain ⟨c5, h⟩ := h
        refine zx_zald (pc := 29) G (zk_12_15 hI h_o) c5 (z_dec T_X12_bet_ok 14 (29, .baload, 1) rfl) ?_
        refine zx_if_ne (pc := 30) (tgt := 65) G rfl (z_dec T_X12_bet_ok 15 (30, .ifCond .ne 35, 3) rfl) (fun hc => ?_) (fun hc => ?_)
        · replace h := z_neg hc h
          refine zx_iconst (pc := 65) (v := -1) G (z_dec T_X12_bet_ok 31 (65, .iconst (-1), 1) rfl) rfl ?_
          exact zx_iret (pc := 66) G hr hlk (Nat.le_refl _) (Nat.le_refl _) (z_dec T_X12_bet_ok 32 (66, .ireturn, 1) rfl) ⟨rfl, _, rfl, h⟩
        · replace h := z_pos hc h
          refine zx_iload_n (pc := 33) G 3 rfl rfl (z_dec T_X12_bet_ok 16 (33, .iload_n 3, 1) rfl) ?_
          refine zx_i2l (pc := 34) G  (z_dec T_X12_bet_ok 17 (34, .i2l, 1) rfl) ?_
          refine zx_lconst (pc := 35) (v := 0) G (z_dec T_X12_bet_ok 18 (35, .lconst 0, 1) rfl) rfl ?_
          refine zx_ldc2 (pc := 36) G wk_RX12_158 (z_dec T_X12_bet_ok 19 (36, .ldc2_w 158, 3) rfl) ?_
          refine zx_callS_zN (pc := 39) (rm := rm_X12_lies) G cw_RX12_140 ⟨Nat.le_of_ble_eq_true rfl, Nat.le_of_ble_eq_true rfl⟩ rfl rfl ⟨Nat.zero_le _, Nat.zero_le _⟩ (fun sz => (met_X12_lies l D ρ kd q μ3 sz a3.toInt64 ((0 : Int64)) ((2 : Int64)) _ hI h)) rfl rfl (Nat.le_of_ble_eq_true rfl) (z_dec T_X12_bet_ok 20 (39, .invokestatic 140, 3) rfl) (fun r7 μ6 hzr7 hn => ?_)
          clear h
          have h := hn
          clear hn
          refine zx_if_eq (pc := 42) (tgt := 65) G rfl (z_dec T_X12_bet_ok 21 (42, .ifCond .eq 23, 3) rfl) (fun hc => ?_) (fun hc => ?_)
          · replace h := z_pos hc h
            refine zx_iconst (pc := 65) (v := -1) G (z_dec T_X12_bet_ok 31 (65, .iconst (-1), 1) rfl) rfl ?_
            exact zx_iret (pc := 66) G hr hlk (Nat.le_refl _) (Nat.le_refl _) (z_dec T_X12_bet_ok 32 (66, .ireturn, 1) rfl) ⟨rfl, _, rfl, h⟩
          · replace h := z_neg hc h
            refine zx_aload_n (pc := 45) G (some (0)) 0 rfl rfl (z_dec T_X12_bet_ok 22 (45, .aload_n 0, 1) rfl) ?_
            refine zx_iload_n (pc := 46) G 2 rfl rfl (z_dec T_X12_bet_ok 23 (46, .iload_n 2, 1) rfl) ?_
            refine zx_iload (pc := 47) G 4 rfl (z_dec T_X12_bet_ok 24 (47, .iload 4, 2) rfl) ?_
            refine zx_iload (pc := 49) G 5 rfl (z_dec T_X12_bet_ok 25 (49, .iload 5, 2) rfl) ?_
            refine zx_callV_zN (pc := 51) (rm := rm_X12_canBet) G cw_RX12_205 ⟨Nat.le_of_ble_eq_true rfl, Nat.le_of_ble_eq_true rfl⟩ rfl rfl ⟨Nat.zero_le _, Nat.zero_le _⟩ h_o rfl (fun sz => (met_X12_canBet l D ρ kd q μ6 sz a2 a4 a5 _ hI h_o h)) rfl rfl (Nat.le_of_ble_eq_true rfl) (z_dec T_X12_bet_ok 26 (51, .invokevirtual 205, 3) rfl) (fun r9 μ8 hzr9 hn => ?_)
            clear h
            have h := hn
            clear hn
            refine zx_if_eq (pc := 54) (tgt := 65) G rfl (z_dec T_X12_bet_ok 27 (54, .ifCond .eq 11, 3) rfl) (fun hc => ?_) (fun hc => ?_)
            · replace h := z_pos hc h
              refine zx_iconst (pc := 65) (v := -1) G (z_dec T_X12_bet_ok 31 (65, .iconst (-1), 1) rfl) rfl ?_
              exact zx_iret (pc := 66) G hr hlk (Nat.le_refl _) (Nat.le_refl _) (z_dec T_X12_bet_ok 32 (66, .ireturn, 1) rfl) ⟨rfl, _, rfl, h⟩
            · replace h := z_neg hc h
              refine zx_iload (pc := 57) G 6 rfl (z_dec T_X12_bet_ok 28 (57, .iload 6, 2) rfl) ?_
              refine zx_callS_zN (pc := 59) (rm := rm_X12_isStake) G cw_RX12_209 ⟨Nat.le_of_ble_eq_true rfl, Nat.le_of_ble_eq_true rfl⟩ rfl rfl ⟨Nat.zero_le _, Nat.zero_le _⟩ (fun sz => (met_X12_isStake l D ρ kd q μ8 sz a6 _ hI h)) rfl rfl (Nat.le_of_ble_eq_true rfl) (z_dec T_X12_bet_ok 29 (59, .invokestatic 209, 3) rfl) (fun r11 μ10 hzr11 hn => ?_)
              clear h
              have h := hn
              clear hn
              refine zx_if_ne (pc := 62) (tgt := 67) G rfl (z_dec T_X12_bet_ok 30 (62, .ifCond .ne 5, 3) rfl) (fun hc => ?_) (fun hc => ?_)
              · replace h := z_neg hc h
                refine zx_aload_n (pc := 67) G (some (0)) 0 rfl rfl (z_dec T_X12_bet_ok 33 (67, .aload_n 0, 1) rfl) ?_
                refine zx_iload_n (pc := 68) G 1 rfl rfl (z_dec T_X12_bet_ok 34 (68, .iload_n 1, 1) rfl) ?_
                refine zx_iload_n (pc := 69) G 2 rfl rfl (z_dec T_X12_bet_ok 35 (69, .iload_n 2, 1) rfl) ?_
                refine zx_iload_n (pc := 70) G 3 rfl rfl (z_dec T_X12_bet_ok 36 (70, .iload_n 3, 1) rfl) ?_
                refine zx_iload (pc := 71) G 6 rfl (z_dec T_X12_bet_ok 37 (71, .iload 6, 2) rfl) ?_
                refine zx_callV_vN (pc := 73) (rm := rm_X12_writes) G cw_RX12_212 ⟨Nat.le_of_ble_eq_true rfl, Nat.le_of_ble_eq_true rfl⟩ rfl rfl ⟨Nat.zero_le _, Nat.zero_le _⟩ h_o rfl (fun sz => (met_X12_writes l D ρ kd q μ10 sz a1 a2 a3 a6 _ hI h_o h)) rfl rfl (Nat.le_of_ble_eq_true rfl) (z_dec T_X12_bet_ok 38 (73, .invokevirtual 212, 3) rfl) (fun μ12 hn => ?_)
                clear h
                have h := hn
                clear hn
                refine zx_aload_n (pc := 76) G (some (0)) 0 rfl rfl (z_dec T_X12_bet_ok 39 (76, .aload_n 0, 1) rfl) ?_
                refine zx_iload_n (pc := 77) G 2 rfl rfl (z_dec T_X12_bet_ok 40 (77, .iload_n 2, 1) rfl) ?_
                refine zx_iload (pc := 78) G 4 rfl (z_dec T_X12_bet_ok 41 (78, .iload 4, 2) rfl) ?_
                refine zx_iload (pc := 80) G 5 rfl (z_dec T_X12_bet_ok 42 (80, .iload 5, 2) rfl) ?_
                refine zx_callV_vN (pc := 82) (rm := rm_X12_takes) G cw_RX12_216 ⟨Nat.le_of_ble_eq_true rfl, Nat.le_of_ble_eq_true rfl⟩ rfl rfl ⟨Nat.zero_le _, Nat.zero_le _⟩ h_o rfl (fun sz => (met_X12_takes l D ρ kd q μ12 sz a2 a4 a5 _ hI h_o h)) rfl rfl (Nat.le_of_ble_eq_true rfl) (z_dec T_X12_bet_ok 43 (82, .invokevirtual 216, 3) rfl) (fun μ13 hn => ?_)
                clear h
                have h := hn
                clear hn
                refine zx_aload_n (pc := 85) G (some (0)) 0 rfl rfl (z_dec T_X12_bet_ok 44 (85, .aload_n 0, 1) rfl) ?_
                refine zx_getF (pc := 86) (b := 15) G gf_RX12_36 rfl h_o (zq_12_14 hI h_o) (z_dec T_X12_bet_ok 45 (86, .getfield 36, 3) rfl) ?_
                refine zx_iload_n (pc := 89) G 2 rfl rfl (z_dec T_X12_bet_ok 46 (89, .iload_n 2, 1) rfl) ?_
                refine zx_dup2 (pc := 90) G rfl rfl (z_dec T_X12_bet_ok 47 (90, .dup2, 1) rfl) ?_
                refine zx_iald (pc := 91) G (zk_12_14 hI h_o) c5 (z_dec T_X12_bet_ok 48 (91, .iaload, 1) rfl) ?_
                refine zx_iload_n (pc := 92) G 3 rfl rfl (z_dec T_X12_bet_ok 49 (92, .iload_n 3, 1) rfl) ?_
                refine zx_iconst (pc := 93) (v := 2) G (z_dec T_X12_bet_ok 50 (93, .iconst 2, 1) rfl) rfl ?_
                refine zx_icmp_ne (pc := 94) (tgt := 104) G rfl (z_dec T_X12_bet_ok 51 (94, .if_icmp .ne 10, 3) rfl) (fun hc => ?_) (fun hc => ?_)
                · replace h := z_neg hc h
                  refine zx_iload (pc := 104) G 6 rfl (z_dec T_X12_bet_ok 56 (104, .iload 6, 2) rfl) ?_
                  refine zx_sub (lv' := [(0, .ref (0)), (2, .int (a2)), (4, .int (a4)), (5, .int (a5))]) [0, 2, 4, 5] rfl ?_
                  exact L_X12_bet_106_ok G hr hlk hI h_o (zk_12_14 hI h_o) h
                · replace h := z_pos hc h
                  refine zx_iconst (pc := 97) (v := 2) G (z_dec T_X12_bet_ok 52 (97, .iconst 2, 1) rfl) rfl ?_
                  refine zx_iload (pc := 98) G 6 rfl (z_dec T_X12_bet_ok 53 (98, .iload 6, 2) rfl) ?_
                  refine zx_imul (pc := 100) G  (z_dec T_X12_bet_ok 54 (100, .imul, 1) rfl) ?_
                  refine zx_goto (pc := 101) (tgt := 106) G rfl (z_dec T_X12_bet_ok 55 (101, .goto 5, 3) rfl) ?_
                  refine zx_sub (lv' := [(0, .ref (0)), (2, .int (a2)), (4, .int (a4)), (5, .int (a5))]) [0, 2, 4, 5] rfl ?_
                  exact L_X12_bet_106_ok G hr hlk hI h_o (zk_12_14 hI h_o) h
              · replace h := z_pos hc h
                refine zx_iconst (pc := 65) (v := -1) G (z_dec T_X12_bet_ok 31 (65, .iconst (-1), 1) rfl) rfl ?_
                exact zx_iret (pc := 66) G hr hlk (Nat.le_refl _) (Nat.le_refl _) (z_dec T_X12_bet_ok 32 (66, .ireturn, 1) rfl) ⟨rfl, _, rfl, h⟩
abbrev rm_X12_joined : Room := { frames := 9, cells := 0, slots := 0, locals := 211 }
set_option maxRecDepth 100000 in
set_option maxHeartbeats 4000000 in
theorem B_X12_joined_209_ok {p : Program} {l : Launch} {e : Env} {s : State} {m : MethodId} {args : Array Value} {below : List Frame} {meth : Method} {c : Code} {D : va_G} {A : Nat → Prop} {ρ : z_A} {kd : z_K} {q : z_Q} {μ : z_M} {K : Int32 → z_M → Prop} {P209 : Int32 → Int32 → Int32 → z_M → Prop} {v2 : Int32} {v8 : Int32} {v9 : Int32} (G : z_G p c cX12_joined s m args RX12 10 D) (hr : meth.sig.returnType = (Option.some Jvm.ClassFile.FieldType.int)) (hlk : meth.locks = false) (hP209 : ∀ (v2 : Int32) (v8 : Int32) (v9 : Int32) (μ : z_M), P209 v2 v8 v9 μ → (kd 0 = some (.inl 12)) → z_X p l e rm_X12_joined s m args below meth c 10 D A (MQ below (z_Qn D A ρ kd (z_Ki q K)) args s 0 0 A) 0 0 ρ kd q μ 209 [(0, .ref (0)), (2, .int (v2)), (8, .int (v8)), (9, .int (v9))] []) (hI : z_I kd q) (f_l0 : kd 0 = some (.inl 12)) (h : B_X12_joined_209 K P209 v2 v8 v9 μ) : z_X p l e rm_X12_joined s m args below meth c 10 D A (MQ below (z_Qn D A ρ kd (z_Ki q K)) args s 0 0 A) 0 0 ρ kd q μ 209 [(0, .ref (0)), (2, .int (v2)), (8, .int (v8)), (9, .int (v9))] [] := by
    unfold B_X12_joined_209 at h
    refine zx_iload (pc := 209) G 3 rfl (z_dec T_X12_joined_ok 117 (209, .iload 9, 2) rfl) ?_
    refine zx_iconst (pc := 211) (v := 3) G (z_dec T_X12_joined_ok 118 (211, .iconst 3, 1) rfl) rfl ?_
    refine zx_icmp_ge (pc := 212) (tgt := 256) G rfl (z_dec T_X12_joined_ok 119 (212, .if_icmp .ge 44, 3) rfl) (fun hc => ?_) (fun hc => ?_)
    · replace h := z_pos hc h
      refine zx_iload (pc := 256) G 2 rfl (z_dec T_X12_joined_ok 144 (256, .iload 8, 2) rfl) ?_
      exact zx_iret (pc := 258) G hr hlk (Nat.le_refl _) (Nat.le_refl _) (z_dec T_X12_joined_ok 145 (258, .ireturn, 1) rfl) ⟨rfl, _, rfl, h⟩
    · replace h := z_neg hc h
      refine zx_aload_n (pc := 215) G (some (0)) 0 rfl rfl (z_dec T_X12_joined_ok 120 (215, .aload_n 0, 1) rfl) ?_
      refine zx_getF (pc := 216) (b := 25) G gf_RX12_66 rfl f_l0 (zq_12_24 hI f_l0) (z_dec T_X12_joined_ok 121 (216, .getfield 66, 3) rfl) ?_
      refine zx_iconst (pc := 219) (v := 3) G (z_dec T_X12_joined_ok 122 (219, .iconst 3, 1) rfl) rfl ?_
      refine zx_iload (pc := 220) G 2 rfl (z_dec T_X12_joined_ok 123 (220, .iload 8, 2) rfl) ?_
      refine zx_imul (pc := 222) G  (z_dec T_X12_joined_ok 124 (222, .imul, 1) rfl) ?_
      refine zx_iload (pc := 223) G 3 rfl (z_dec T_X12_joined_ok 125 (223, .iload 9, 2) rfl) ?_
      refine zx_iadd (pc := 225) G  (z_dec T_X12_joined_ok 126 (225, .iadd, 1) rfl) ?_
      obtain ⟨c1, h⟩ := h
      refine zx_iald (pc := 226) G (zk_12_24 hI f_l0) c1 (z_dec T_X12_joined_ok 127 (226, .iaload, 1) rfl) ?_
      refine zx_iconst (pc := 227) (v := -1) G (z_dec T_X12_joined_ok 128 (227, .iconst (-1), 1) rfl) rfl ?_
      refine zx_icmp_eq (pc := 228) (tgt := 250) G rfl (z_dec T_X12_joined_ok 129 (228, .if_icmp .eq 22, 3) rfl) (fun hc => ?_) (fun hc => ?_)
      · replace h := z_pos hc h
        refine zx_iinc (pc := 250) (v := v9 + 1) (lv' := [(9, .int (v9 + 1)), (0, .ref (0)), (2, .int (v2)), (8, .int (v8))]) G 3 rfl (z_inc (by decide)) (Nat.le_of_ble_eq_true rfl) rfl (z_dec T_X12_joined_ok 142 (250, .iinc 9 1, 3) rfl) ?_
        refine zx_goto (pc := 253) (tgt := 209) G rfl (z_dec T_X12_joined_ok 143 (253, .goto (-44), 3) rfl) ?_
        refine zx_sub (lv' := [(0, .ref (0)), (2, .int (v2)), (8, .int (v8)), (9, .int (v9 + 1))]) [1, 2, 3, 0] rfl ?_
        exact hP209 _ _ _ _ h f_l0
      · replace h := z_neg hc h
        refine zx_aload_n (pc := 231) G (some (0)) 0 rfl rfl (z_dec T_X12_joined_ok 130 (231, .aload_n 0, 1) rfl) ?_
        refine zx_iload_n (pc := 232) G 1 rfl rfl (z_dec T_X12_joined_ok 131 (232, .iload_n 2, 1) rfl) ?_
        refine zx_iload (pc := 233) G 3 rfl (z_dec T_X12_joined_ok 132 (233, .iload 9, 2) rfl) ?_
        refine zx_aload_n (pc := 235) G (some (0)) 0 rfl rfl (z_dec T_X12_joined_ok 133 (235, .aload_n 0, 1) rfl) ?_
        refine zx_getF (pc := 236) (b := 25) G gf_RX12_66 rfl f_l0 (zq_12_24 hI f_l0) (z_dec T_X12_joined_ok 134 (236, .getfield 66, 3) rfl) ?_
        refine zx_iconst (pc := 239) (v := 3) G (z_dec T_X12_joined_ok 135 (239, .iconst 3, 1) rfl) rfl ?_
        refine zx_iload (pc := 240) G 2 rfl (z_dec T_X12_joined_ok 136 (240, .iload 8, 2) rfl) ?_
        refine zx_imul (pc := 242) G  (z_dec T_X12_joined_ok 137 (242, .imul, 1) rfl) ?_
        refine zx_iload (pc := 243) G 3 rfl (z_dec T_X12_joined_ok 138 (243, .iload 9, 2) rfl) ?_
        refine zx_iadd (pc := 245) G  (z_dec T_X12_joined_ok 139 (245, .iadd, 1) rfl) ?_
        refine zx_iald (pc := 246) G (zk_12_24 hI f_l0) c1 (z_dec T_X12_joined_ok 140 (246, .iaload, 1) rfl) ?_
        refine zx_callV_vN (pc := 247) (rm := rm_X12_moves) G cw_RX12_220 ⟨Nat.le_of_ble_eq_true rfl, Nat.le_of_ble_eq_true rfl⟩ rfl rfl ⟨Nat.zero_le _, Nat.zero_le _⟩ f_l0 rfl (fun sz => (met_X12_moves l D ρ kd q μ sz v2 v9 (μ.1 25 ((((3 : Int32)) * v8) + v9).toNatClampNeg) _ hI f_l0 h)) rfl rfl (Nat.le_of_ble_eq_true rfl) (z_dec T_X12_joined_ok 141 (247, .invokevirtual 220, 3) rfl) (fun μ2 hn => ?_)
        clear h
        have h := hn
        clear hn
        refine zx_iinc (pc := 250) (v := v9 + 1) (lv' := [(9, .int (v9 + 1)), (0, .ref (0)), (2, .int (v2)), (8, .int (v8))]) G 3 rfl (z_inc (by decide)) (Nat.le_of_ble_eq_true rfl) rfl (z_dec T_X12_joined_ok 142 (250, .iinc 9 1, 3) rfl) ?_
        refine zx_goto (pc := 253) (tgt := 209) G rfl (z_dec T_X12_joined_ok 143 (253, .goto (-44), 3) rfl) ?_
        refine zx_sub (lv' := [(0, .ref (0)), (2, .int (v2)), (8, .int (v8)), (9, .int (v9 + 1))]) [1, 2, 3, 0] rfl ?_
        exact hP209 _ _ _ _ h f_l0
set_option maxRecDepth 100000 in
set_option maxHeartbeats 4000000 in
theorem L_X12_joined_209_ok {p : Program} {l : Launch} {e : Env} {s : State} {m : MethodId} {args : Array Value} {below : List Frame} {meth : Method} {c : Code} {D : va_G} {A : Nat → Prop} {ρ : z_A} {kd : z_K} {q : z_Q} {μ : z_M} {K : Int32 → z_M → Prop} {v2 : Int32} {v8 : Int32} {v9 : Int32} (G : z_G p c cX12_joined s m args RX12 10 D) (hr : meth.sig.returnType = (Option.some Jvm.ClassFile.FieldType.int)) (hlk : meth.locks = false) (hI : z_I kd q) (f_l0 : kd 0 = some (.inl 12)) (h : L_X12_joined_209 K v2 v8 v9 μ) : z_X p l e rm_X12_joined s m args below meth c 10 D A (MQ below (z_Qn D A ρ kd (z_Ki q K)) args s 0 0 A) 0 0 ρ kd q μ 209 [(0, .ref (0)), (2, .int (v2)), (8, .int (v8)), (9, .int (v9))] [] :=
  h (fun (v2 : Int32) (v8 : Int32) (v9 : Int32) (μ : z_M) => (kd 0 = some (.inl 12)) → z_X p l e rm_X12_joined s m args below meth c 10 D A (MQ below (z_Qn D A ρ kd (z_Ki q K)) args s 0 0 A) 0 0 ρ kd q μ 209 [(0, .ref (0)), (2, .int (v2)), (8, .int (v8)), (9, .int (v9))] []) (fun v2 v8 v9 μ h f_l0 => B_X12_joined_209_ok G hr hlk (fun _ _ _ _ h => h) hI f_l0 h) f_l0
set_option maxRecDepth 100000 in
set_option maxHeartbeats 4000000 in
theorem B_X12_joined_140_ok {p : Program} {l : Launch} {e : Env} {s : State} {m : MethodId} {args : Array Value} {below : List Frame} {meth : Method} {c : Code} {D : va_G} {A : Nat → Prop} {ρ : z_A} {kd : z_K} {q : z_Q} {μ : z_M} {K : Int32 → z_M → Prop} {P140 : Int32 → Int32 → Int32 → z_M → Prop} {v2 : Int32} {v6 : Int32} {v8 : Int32} (G : z_G p c cX12_joined s m args RX12 10 D) (hr : meth.sig.returnType = (Option.some Jvm.ClassFile.FieldType.int)) (hlk : meth.locks = false) (hP140 : ∀ (v2 : Int32) (v6 : Int32) (v8 : Int32) (μ : z_M), P140 v2 v6 v8 μ → (kd 0 = some (.inl 12)) → z_X p l e rm_X12_joined s m args below meth c 10 D A (MQ below (z_Qn D A ρ kd (z_Ki q K)) args s 0 0 A) 0 0 ρ kd q μ 140 [(0, .ref (0)), (2, .int (v2)), (6, .int (v6)), (8, .int (v8))] []) (hI : z_I kd q) (f_l0 : kd 0 = some (.inl 12)) (h : B_X12_joined_140 K P140 v2 v6 v8 μ) : z_X p l e rm_X12_joined s m args below meth c 10 D A (MQ below (z_Qn D A ρ kd (z_Ki q K)) args s 0 0 A) 0 0 ρ kd q μ 140 [(0, .ref (0)), (2, .int (v2)), (6, .int (v6)), (8, .int (v8))] [] := by
    unfold B_X12_joined_140 at h
    refine zx_iload (pc := 140) G 3 rfl (z_dec T_X12_joined_ok 77 (140, .iload 8, 2) rfl) ?_
    refine zx_iconst (pc := 142) (v := 3) G (z_dec T_X12_joined_ok 78 (142, .iconst 3, 1) rfl) rfl ?_
    refine zx_icmp_ge (pc := 143) (tgt := 177) G rfl (z_dec T_X12_joined_ok 79 (143, .if_icmp .ge 34, 3) rfl) (fun hc => ?_) (fun hc => ?_)
    · replace h := z_pos hc h
      refine zx_aload_n (pc := 177) G (some (0)) 0 rfl rfl (z_dec T_X12_joined_ok 96 (177, .aload_n 0, 1) rfl) ?_
      refine zx_getF (pc := 178) (b := 15) G gf_RX12_36 rfl f_l0 (zq_12_14 hI f_l0) (z_dec T_X12_joined_ok 97 (178, .getfield 36, 3) rfl) ?_
      refine zx_iload_n (pc := 181) G 1 rfl rfl (z_dec T_X12_joined_ok 98 (181, .iload_n 2, 1) rfl) ?_
      refine zx_dup2 (pc := 182) G rfl rfl (z_dec T_X12_joined_ok 99 (182, .dup2, 1) rfl) ?_
      obtain ⟨c1, h⟩ := h
      refine zx_iald (pc := 183) G (zk_12_14 hI f_l0) c1 (z_dec T_X12_joined_ok 100 (183, .iaload, 1) rfl) ?_
      refine zx_iload (pc := 184) G 2 rfl (z_dec T_X12_joined_ok 101 (184, .iload 6, 2) rfl) ?_
      refine zx_iadd (pc := 186) G  (z_dec T_X12_joined_ok 102 (186, .iadd, 1) rfl) ?_
      refine zx_iast (pc := 187) G (zk_12_14 hI f_l0) c1 (z_dec T_X12_joined_ok 103 (187, .iastore, 1) rfl) ?_
      refine zx_aload_n (pc := 188) G (some (0)) 0 rfl rfl (z_dec T_X12_joined_ok 104 (188, .aload_n 0, 1) rfl) ?_
      refine zx_dup (pc := 189) G rfl (z_dec T_X12_joined_ok 105 (189, .dup, 1) rfl) ?_
      refine zx_getI (pc := 190) G gf_RX12_196 rfl f_l0 (z_dec T_X12_joined_ok 106 (190, .getfield 196, 3) rfl) ?_
      refine zx_iconst (pc := 193) (v := 1) G (z_dec T_X12_joined_ok 107 (193, .iconst 1, 1) rfl) rfl ?_
      refine zx_iadd (pc := 194) G  (z_dec T_X12_joined_ok 108 (194, .iadd, 1) rfl) ?_
      refine zx_putI (pc := 195) G gf_RX12_196 cf_12 rfl rfl f_l0 (z_dec T_X12_joined_ok 109 (195, .putfield 196, 3) rfl) ?_
      refine zx_aload_n (pc := 198) G (some (0)) 0 rfl rfl (z_dec T_X12_joined_ok 110 (198, .aload_n 0, 1) rfl) ?_
      refine zx_getI (pc := 199) G gf_RX12_196 rfl f_l0 (z_dec T_X12_joined_ok 111 (199, .getfield 196, 3) rfl) ?_
      refine zx_iconst (pc := 202) (v := 1) G (z_dec T_X12_joined_ok 112 (202, .iconst 1, 1) rfl) rfl ?_
      refine zx_isub (pc := 203) G  (z_dec T_X12_joined_ok 113 (203, .isub, 1) rfl) ?_
      refine zx_istore (pc := 204) (lv' := [(8, .int (((si (si μ 15 v2.toNatClampNeg ((μ.1 15 v2.toNatClampNeg) + v6)) 0 6 (((si μ 15 v2.toNatClampNeg ((μ.1 15 v2.toNatClampNeg) + v6)).1 0 6) + ((1 : Int32)))).1 0 6) - ((1 : Int32)))), (0, .ref (0)), (2, .int (v2)), (6, .int (v6))]) G (Nat.le_of_ble_eq_true rfl) rfl (z_dec T_X12_joined_ok 114 (204, .istore 8, 2) rfl) ?_
      refine zx_iconst (pc := 206) (v := 0) G (z_dec T_X12_joined_ok 115 (206, .iconst 0, 1) rfl) rfl ?_
      refine zx_istore (pc := 207) (lv' := [(9, .int ((0 : Int32))), (8, .int (((si (si μ 15 v2.toNatClampNeg ((μ.1 15 v2.toNatClampNeg) + v6)) 0 6 (((si μ 15 v2.toNatClampNeg ((μ.1 15 v2.toNatClampNeg) + v6)).1 0 6) + ((1 : Int32)))).1 0 6) - ((1 : Int32)))), (0, .ref (0)), (2, .int (v2)), (6, .int (v6))]) G (Nat.le_of_ble_eq_true rfl) rfl (z_dec T_X12_joined_ok 116 (207, .istore 9, 2) rfl) ?_
      refine zx_sub (lv' := [(0, .ref (0)), (2, .int (v2)), (8, .int (((si (si μ 15 v2.toNatClampNeg ((μ.1 15 v2.toNatClampNeg) + v6)) 0 6 (((si μ 15 v2.toNatClampNeg ((μ.1 15 v2.toNatClampNeg) + v6)).1 0 6) + ((1 : Int32)))).1 0 6) - ((1 : Int32)))), (9, .int ((0 : Int32)))]) [2, 3, 1, 0] rfl ?_
      exact L_X12_joined_209_ok G hr hlk hI f_l0 h
    · replace h := z_neg hc h
      refine zx_aload_n (pc := 146) G (some (0)) 0 rfl rfl (z_dec T_X12_joined_ok 80 (146, .aload_n 0, 1) rfl) ?_
      refine zx_getF (pc := 147) (b := 29) G gf_RX12_78 rfl f_l0 (zq_12_28 hI f_l0) (z_dec T_X12_joined_ok 81 (147, .getfield 78, 3) rfl) ?_
      refine zx_iload (pc := 150) G 3 rfl (z_dec T_X12_joined_ok 82 (150, .iload 8, 2) rfl) ?_
      obtain ⟨c2, h⟩ := h
      refine zx_iald (pc := 152) G (zk_12_28 hI f_l0) c2 (z_dec T_X12_joined_ok 83 (152, .iaload, 1) rfl) ?_
      refine zx_iconst (pc := 153) (v := -1) G (z_dec T_X12_joined_ok 84 (153, .iconst (-1), 1) rfl) rfl ?_
      refine zx_icmp_eq (pc := 154) (tgt := 171) G rfl (z_dec T_X12_joined_ok 85 (154, .if_icmp .eq 17, 3) rfl) (fun hc => ?_) (fun hc => ?_)
      · replace h := z_pos hc h
        refine zx_iinc (pc := 171) (v := v8 + 1) (lv' := [(8, .int (v8 + 1)), (0, .ref (0)), (2, .int (v2)), (6, .int (v6))]) G 3 rfl (z_inc (by decide)) (Nat.le_of_ble_eq_true rfl) rfl (z_dec T_X12_joined_ok 94 (171, .iinc 8 1, 3) rfl) ?_
        refine zx_goto (pc := 174) (tgt := 140) G rfl (z_dec T_X12_joined_ok 95 (174, .goto (-34), 3) rfl) ?_
        refine zx_sub (lv' := [(0, .ref (0)), (2, .int (v2)), (6, .int (v6)), (8, .int (v8 + 1))]) [1, 2, 3, 0] rfl ?_
        exact hP140 _ _ _ _ h f_l0
      · replace h := z_neg hc h
        refine zx_aload_n (pc := 157) G (some (0)) 0 rfl rfl (z_dec T_X12_joined_ok 86 (157, .aload_n 0, 1) rfl) ?_
        refine zx_iload_n (pc := 158) G 1 rfl rfl (z_dec T_X12_joined_ok 87 (158, .iload_n 2, 1) rfl) ?_
        refine zx_iload (pc := 159) G 3 rfl (z_dec T_X12_joined_ok 88 (159, .iload 8, 2) rfl) ?_
        refine zx_aload_n (pc := 161) G (some (0)) 0 rfl rfl (z_dec T_X12_joined_ok 89 (161, .aload_n 0, 1) rfl) ?_
        refine zx_getF (pc := 162) (b := 29) G gf_RX12_78 rfl f_l0 (zq_12_28 hI f_l0) (z_dec T_X12_joined_ok 90 (162, .getfield 78, 3) rfl) ?_
        refine zx_iload (pc := 165) G 3 rfl (z_dec T_X12_joined_ok 91 (165, .iload 8, 2) rfl) ?_
        refine zx_iald (pc := 167) G (zk_12_28 hI f_l0) c2 (z_dec T_X12_joined_ok 92 (167, .iaload, 1) rfl) ?_
        refine zx_callV_vN (pc := 168) (rm := rm_X12_takes) G cw_RX12_216 ⟨Nat.le_of_ble_eq_true rfl, Nat.le_of_ble_eq_true rfl⟩ rfl rfl ⟨Nat.zero_le _, Nat.zero_le _⟩ f_l0 rfl (fun sz => (met_X12_takes l D ρ kd q μ sz v2 v8 (μ.1 29 v8.toNatClampNeg) _ hI f_l0 h)) rfl rfl (Nat.le_of_ble_eq_true rfl) (z_dec T_X12_joined_ok 93 (168, .invokevirtual 216, 3) rfl) (fun μ3 hn => ?_)
        clear h
        have h := hn
        clear hn
        refine zx_iinc (pc := 171) (v := v8 + 1) (lv' := [(8, .int (v8 + 1)), (0, .ref (0)), (2, .int (v2)), (6, .int (v6))]) G 3 rfl (z_inc (by decide)) (Nat.le_of_ble_eq_true rfl) rfl (z_dec T_X12_joined_ok 94 (171, .iinc 8 1, 3) rfl) ?_
        refine zx_goto (pc := 174) (tgt := 140) G rfl (z_dec T_X12_joined_ok 95 (174, .goto (-34), 3) rfl) ?_
        refine zx_sub (lv' := [(0, .ref (0)), (2, .int (v2)), (6, .int (v6)), (8, .int (v8 + 1))]) [1, 2, 3, 0] rfl ?_
        exact hP140 _ _ _ _ h f_l0
set_option maxRecDepth 100000 in
set_option maxHeartbeats 4000000 in
theorem L_X12_joined_140_ok {p : Program} {l : Launch} {e : Env} {s : State} {m : MethodId} {args : Array Value} {below : List Frame} {meth : Method} {c : Code} {D : va_G} {A : Nat → Prop} {ρ : z_A} {kd : z_K} {q : z_Q} {μ : z_M} {K : Int32 → z_M → Prop} {v2 : Int32} {v6 : Int32} {v8 : Int32} (G : z_G p c cX12_joined s m args RX12 10 D) (hr : meth.sig.returnType = (Option.some Jvm.ClassFile.FieldType.int)) (hlk : meth.locks = false) (hI : z_I kd q) (f_l0 : kd 0 = some (.inl 12)) (h : L_X12_joined_140 K v2 v6 v8 μ) : z_X p l e rm_X12_joined s m args below meth c 10 D A (MQ below (z_Qn D A ρ kd (z_Ki q K)) args s 0 0 A) 0 0 ρ kd q μ 140 [(0, .ref (0)), (2, .int (v2)), (6, .int (v6)), (8, .int (v8))] [] :=
  h (fun (v2 : Int32) (v6 : Int32) (v8 : Int32) (μ : z_M) => (kd 0 = some (.inl 12)) → z_X p l e rm_X12_joined s m args below meth c 10 D A (MQ below (z_Qn D A ρ kd (z_Ki q K)) args s 0 0 A) 0 0 ρ kd q μ 140 [(0, .ref (0)), (2, .int (v2)), (6, .int (v6)), (8, .int (v8))] []) (fun v2 v6 v8 μ h f_l0 => B_X12_joined_140_ok G hr hlk (fun _ _ _ _ h => h) hI f_l0 h) f_l0
set_option maxRecDepth 100000 in
set_option maxHeartbeats 4000000 in
theorem B_X12_joined_72_ok {p : Program} {l : Launch} {e : Env} {s : State} {m : MethodId} {args : Array Value} {below : List Frame} {meth : Method} {c : Code} {D : va_G} {A : Nat → Prop} {ρ : z_A} {kd : z_K} {q : z_Q} {μ : z_M} {K : Int32 → z_M → Prop} {P72 : Int32 → Int32 → Int32 → Int32 → Int32 → z_M → Prop} {v1 : Int32} {v2 : Int32} {v6 : Int32} {v7 : Int32} {v8 : Int32} (G : z_G p c cX12_joined s m args RX12 10 D) (hr : meth.sig.returnType = (Option.some Jvm.ClassFile.FieldType.int)) (hlk : meth.locks = false) (hP72 : ∀ (v1 : Int32) (v2 : Int32) (v6 : Int32) (v7 : Int32) (v8 : Int32) (μ : z_M), P72 v1 v2 v6 v7 v8 μ → (kd 0 = some (.inl 12)) → z_X p l e rm_X12_joined s m args below meth c 10 D A (MQ below (z_Qn D A ρ kd (z_Ki q K)) args s 0 0 A) 0 0 ρ kd q μ 72 [(0, .ref (0)), (1, .int (v1)), (2, .int (v2)), (6, .int (v6)), (7, .int (v7)), (8, .int (v8))] []) (hI : z_I kd q) (f_l0 : kd 0 = some (.inl 12)) (h : B_X12_joined_72 K P72 v1 v2 v6 v7 v8 μ) : z_X p l e rm_X12_joined s m args below meth c 10 D A (MQ below (z_Qn D A ρ kd (z_Ki q K)) args s 0 0 A) 0 0 ρ kd q μ 72 [(0, .ref (0)), (1, .int (v1)), (2, .int (v2)), (6, .int (v6)), (7, .int (v7)), (8, .int (v8))] [] := by
    unfold B_X12_joined_72 at h
    refine zx_iload (pc := 72) G 5 rfl (z_dec T_X12_joined_ok 40 (72, .iload 8, 2) rfl) ?_
    refine zx_iconst (pc := 74) (v := 3) G (z_dec T_X12_joined_ok 41 (74, .iconst 3, 1) rfl) rfl ?_
    refine zx_icmp_ge (pc := 75) (tgt := 120) G rfl (z_dec T_X12_joined_ok 42 (75, .if_icmp .ge 45, 3) rfl) (fun hc => ?_) (fun hc => ?_)
    · replace h := z_pos hc h
      refine zx_iload (pc := 120) G 4 rfl (z_dec T_X12_joined_ok 64 (120, .iload 7, 2) rfl) ?_
      refine zx_iconst (pc := 122) (v := 2) G (z_dec T_X12_joined_ok 65 (122, .iconst 2, 1) rfl) rfl ?_
      refine zx_icmp_ge (pc := 123) (tgt := 128) G rfl (z_dec T_X12_joined_ok 66 (123, .if_icmp .ge 5, 3) rfl) (fun hc => ?_) (fun hc => ?_)
      · replace h := z_pos hc h
        refine zx_aload_n (pc := 128) G (some (0)) 0 rfl rfl (z_dec T_X12_joined_ok 69 (128, .aload_n 0, 1) rfl) ?_
        refine zx_iload_n (pc := 129) G 1 rfl rfl (z_dec T_X12_joined_ok 70 (129, .iload_n 1, 1) rfl) ?_
        refine zx_iload_n (pc := 130) G 2 rfl rfl (z_dec T_X12_joined_ok 71 (130, .iload_n 2, 1) rfl) ?_
        refine zx_iconst (pc := 131) (v := 3) G (z_dec T_X12_joined_ok 72 (131, .iconst 3, 1) rfl) rfl ?_
        refine zx_iload (pc := 132) G 3 rfl (z_dec T_X12_joined_ok 73 (132, .iload 6, 2) rfl) ?_
        refine zx_callV_vN (pc := 134) (rm := rm_X12_writes) G cw_RX12_212 ⟨Nat.le_of_ble_eq_true rfl, Nat.le_of_ble_eq_true rfl⟩ rfl rfl ⟨Nat.zero_le _, Nat.zero_le _⟩ f_l0 rfl (fun sz => (met_X12_writes l D ρ kd q μ sz v1 v2 ((3 : Int32)) v6 _ hI f_l0 h)) rfl rfl (Nat.le_of_ble_eq_true rfl) (z_dec T_X12_joined_ok 74 (134, .invokevirtual 212, 3) rfl) (fun μ1 hn => ?_)
        clear h
        have h := hn
        clear hn
        refine zx_iconst (pc := 137) (v := 0) G (z_dec T_X12_joined_ok 75 (137, .iconst 0, 1) rfl) rfl ?_
        refine zx_istore (pc := 138) (lv' := [(8, .int ((0 : Int32))), (0, .ref (0)), (1, .int (v1)), (2, .int (v2)), (6, .int (v6)), (7, .int (v7))]) G (Nat.le_of_ble_eq_true rfl) rfl (z_dec T_X12_joined_ok 76 (138, .istore 8, 2) rfl) ?_
        refine zx_sub (lv' := [(0, .ref (0)), (2, .int (v2)), (6, .int (v6)), (8, .int ((0 : Int32)))]) [1, 3, 4, 0] rfl ?_
        exact L_X12_joined_140_ok G hr hlk hI f_l0 h
      · replace h := z_neg hc h
        refine zx_iconst (pc := 126) (v := -1) G (z_dec T_X12_joined_ok 67 (126, .iconst (-1), 1) rfl) rfl ?_
        exact zx_iret (pc := 127) G hr hlk (Nat.le_refl _) (Nat.le_refl _) (z_dec T_X12_joined_ok 68 (127, .ireturn, 1) rfl) ⟨rfl, _, rfl, h⟩
    · replace h := z_neg hc h
      refine zx_aload_n (pc := 78) G (some (0)) 0 rfl rfl (z_dec T_X12_joined_ok 43 (78, .aload_n 0, 1) rfl) ?_
      refine zx_getF (pc := 79) (b := 29) G gf_RX12_78 rfl f_l0 (zq_12_28 hI f_l0) (z_dec T_X12_joined_ok 44 (79, .getfield 78, 3) rfl) ?_
      refine zx_iload (pc := 82) G 5 rfl (z_dec T_X12_joined_ok 45 (82, .iload 8, 2) rfl) ?_
      obtain ⟨c2, h⟩ := h
      refine zx_iald (pc := 84) G (zk_12_28 hI f_l0) c2 (z_dec T_X12_joined_ok 46 (84, .iaload, 1) rfl) ?_
      refine zx_iconst (pc := 85) (v := -1) G (z_dec T_X12_joined_ok 47 (85, .iconst (-1), 1) rfl) rfl ?_
      refine zx_icmp_ne (pc := 86) (tgt := 92) G rfl (z_dec T_X12_joined_ok 48 (86, .if_icmp .ne 6, 3) rfl) (fun hc => ?_) (fun hc => ?_)
      · replace h := z_neg hc h
        refine zx_aload_n (pc := 92) G (some (0)) 0 rfl rfl (z_dec T_X12_joined_ok 50 (92, .aload_n 0, 1) rfl) ?_
        refine zx_iload_n (pc := 93) G 2 rfl rfl (z_dec T_X12_joined_ok 51 (93, .iload_n 2, 1) rfl) ?_
        refine zx_iload (pc := 94) G 5 rfl (z_dec T_X12_joined_ok 52 (94, .iload 8, 2) rfl) ?_
        refine zx_aload_n (pc := 96) G (some (0)) 0 rfl rfl (z_dec T_X12_joined_ok 53 (96, .aload_n 0, 1) rfl) ?_
        refine zx_getF (pc := 97) (b := 29) G gf_RX12_78 rfl f_l0 (zq_12_28 hI f_l0) (z_dec T_X12_joined_ok 54 (97, .getfield 78, 3) rfl) ?_
        refine zx_iload (pc := 100) G 5 rfl (z_dec T_X12_joined_ok 55 (100, .iload 8, 2) rfl) ?_
        refine zx_iald (pc := 102) G (zk_12_28 hI f_l0) c2 (z_dec T_X12_joined_ok 56 (102, .iaload, 1) rfl) ?_
        refine zx_callV_zN (pc := 103) (rm := rm_X12_canBet) G cw_RX12_205 ⟨Nat.le_of_ble_eq_true rfl, Nat.le_of_ble_eq_true rfl⟩ rfl rfl ⟨Nat.zero_le _, Nat.zero_le _⟩ f_l0 rfl (fun sz => (met_X12_canBet l D ρ kd q μ sz v2 v8 (μ.1 29 v8.toNatClampNeg) _ hI f_l0 h)) rfl rfl (Nat.le_of_ble_eq_true rfl) (z_dec T_X12_joined_ok 57 (103, .invokevirtual 205, 3) rfl) (fun r4 μ3 hzr4 hn => ?_)
        clear h
        have h := hn
        clear hn
        refine zx_if_ne (pc := 106) (tgt := 111) G rfl (z_dec T_X12_joined_ok 58 (106, .ifCond .ne 5, 3) rfl) (fun hc => ?_) (fun hc => ?_)
        · replace h := z_neg hc h
          refine zx_iinc (pc := 111) (v := v7 + 1) (lv' := [(7, .int (v7 + 1)), (0, .ref (0)), (1, .int (v1)), (2, .int (v2)), (6, .int (v6)), (8, .int (v8))]) G 4 rfl (z_inc (by decide)) (Nat.le_of_ble_eq_true rfl) rfl (z_dec T_X12_joined_ok 61 (111, .iinc 7 1, 3) rfl) ?_
          refine zx_iinc (pc := 114) (v := v8 + 1) (lv' := [(8, .int (v8 + 1)), (7, .int (v7 + 1)), (0, .ref (0)), (1, .int (v1)), (2, .int (v2)), (6, .int (v6))]) G 5 rfl (z_inc (by decide)) (Nat.le_of_ble_eq_true rfl) rfl (z_dec T_X12_joined_ok 62 (114, .iinc 8 1, 3) rfl) ?_
          refine zx_goto (pc := 117) (tgt := 72) G rfl (z_dec T_X12_joined_ok 63 (117, .goto (-45), 3) rfl) ?_
          refine zx_sub (lv' := [(0, .ref (0)), (1, .int (v1)), (2, .int (v2)), (6, .int (v6)), (7, .int (v7 + 1)), (8, .int (v8 + 1))]) [2, 3, 4, 5, 1, 0] rfl ?_
          exact hP72 _ _ _ _ _ _ h f_l0
        · replace h := z_pos hc h
          refine zx_iconst (pc := 109) (v := -1) G (z_dec T_X12_joined_ok 59 (109, .iconst (-1), 1) rfl) rfl ?_
          exact zx_iret (pc := 110) G hr hlk (Nat.le_refl _) (Nat.le_refl _) (z_dec T_X12_joined_ok 60 (110, .ireturn, 1) rfl) ⟨rfl, _, rfl, h⟩
      · replace h := z_pos hc h
        refine zx_goto (pc := 89) (tgt := 114) G rfl (z_dec T_X12_joined_ok 49 (89, .goto 25, 3) rfl) ?_
        refine zx_iinc (pc := 114) (v := v8 + 1) (lv' := [(8, .int (v8 + 1)), (0, .ref (0)), (1, .int (v1)), (2, .int (v2)), (6, .int (v6)), (7, .int (v7))]) G 5 rfl (z_inc (by decide)) (Nat.le_of_ble_eq_true rfl) rfl (z_dec T_X12_joined_ok 62 (114, .iinc 8 1, 3) rfl) ?_
        refine zx_goto (pc := 117) (tgt := 72) G rfl (z_dec T_X12_joined_ok 63 (117, .goto (-45), 3) rfl) ?_
        refine zx_sub (lv' := [(0, .ref (0)), (1, .int (v1)), (2, .int (v2)), (6, .int (v6)), (7, .int (v7)), (8, .int (v8 + 1))]) [1, 2, 3, 4, 5, 0] rfl ?_
        exact hP72 _ _ _ _ _ _ h f_l0
set_option maxRecDepth 100000 in
set_option maxHeartbeats 4000000 in
theorem L_X12_joined_72_ok {p : Program} {l : Launch} {e : Env} {s : State} {m : MethodId} {args : Array Value} {below : List Frame} {meth : Method} {c : Code} {D : va_G} {A : Nat → Prop} {ρ : z_A} {kd : z_K} {q : z_Q} {μ : z_M} {K : Int32 → z_M → Prop} {v1 : Int32} {v2 : Int32} {v6 : Int32} {v7 : Int32} {v8 : Int32} (G : z_G p c cX12_joined s m args RX12 10 D) (hr : meth.sig.returnType = (Option.some Jvm.ClassFile.FieldType.int)) (hlk : meth.locks = false) (hI : z_I kd q) (f_l0 : kd 0 = some (.inl 12)) (h : L_X12_joined_72 K v1 v2 v6 v7 v8 μ) : z_X p l e rm_X12_joined s m args below meth c 10 D A (MQ below (z_Qn D A ρ kd (z_Ki q K)) args s 0 0 A) 0 0 ρ kd q μ 72 [(0, .ref (0)), (1, .int (v1)), (2, .int (v2)), (6, .int (v6)), (7, .int (v7)), (8, .int (v8))] [] :=
  h (fun (v1 : Int32) (v2 : Int32) (v6 : Int32) (v7 : Int32) (v8 : Int32) (μ : z_M) => (kd 0 = some (.inl 12)) → z_X p l e rm_X12_joined s m args below meth c 10 D A (MQ below (z_Qn D A ρ kd (z_Ki q K)) args s 0 0 A) 0 0 ρ kd q μ 72 [(0, .ref (0)), (1, .int (v1)), (2, .int (v2)), (6, .int (v6)), (7, .int (v7)), (8, .int (v8))] []) (fun v1 v2 v6 v7 v8 μ h f_l0 => B_X12_joined_72_ok G hr hlk (fun _ _ _ _ _ _ h => h) hI f_l0 h) f_l0
set_option maxRecDepth 100000 in
set_option maxHeartbeats 4000000 in
theorem met_X12_joined (l : Launch) (D : va_G) (ρ : z_A) (kd : z_K) (q : z_Q) (μ : z_M) (sz : Nat) (a1 : Int32) (a2 : Int32) (a3 : Int32) (a4 : Int32) (a5 : Int32) (a6 : Int32) (K : Int32 → z_M → Prop) (hI : z_I kd q) (h_o : kd 0 = some (.inl 12)) (h : C_X12_joined a1 a2 a3 a4 a5 a6 μ K) : Met l yX12_joined (z_ws yX12_joined cX12_joined 10 (Option.some Jvm.ClassFile.FieldType.int)) rm_X12_joined (z_Pc D ρ kd q μ sz [.ref (0), .int (a1), .int (a2), .int (a3), .int (a4), .int (a5), .int (a6)]) (z_Qn D (z_Rg ρ sz) ρ kd (z_Ki q K)) 0 0 (z_Rg ρ sz) := by
  refine z_met (rm := rm_X12_joined) (by decide) (Nat.le_of_ble_eq_true rfl) (fun p e s m args below meth c G hr hlk => ?_)
  unfold C_X12_joined at h
  show z_X _ _ _ _ _ _ _ _ _ _ _ _ _ _ _ _ _ _ _ _ _ [(0, .ref (0)), (1, .int (a1)), (2, .int (a2)), (3, .int (a3)), (4, .int (a4)), (5, .int (a5)), (6, .int (a6))] _
  refine zx_aload_n (pc := 0) G (some (0)) 0 rfl rfl (z_dec T_X12_joined_ok 0 (0, .aload_n 0, 1) rfl) ?_
  refine zx_getI (pc := 1) G gf_RX12_196 rfl h_o (z_dec T_X12_joined_ok 1 (1, .getfield 196, 3) rfl) ?_
  refine zx_bipush (pc := 4) (v := 80) G (z_dec T_X12_joined_ok 2 (4, .bipush 80, 2) rfl) rfl ?_
  refine zx_icmp_eq (pc := 6) (tgt := 41) G rfl (z_dec T_X12_joined_ok 3 (6, .if_icmp .eq 35, 3) rfl) (fun hc => ?_) (fun hc => ?_)
  · replace h := z_pos hc h
    refine zx_iconst (pc := 41) (v := -1) G (z_dec T_X12_joined_ok 19 (41, .iconst (-1), 1) rfl) rfl ?_
    exact zx_iret (pc := 42) G hr hlk (Nat.le_refl _) (Nat.le_refl _) (z_dec T_X12_joined_ok 20 (42, .ireturn, 1) rfl) ⟨rfl, _, rfl, h⟩
  · replace h := z_neg hc h
    refine zx_iload_n (pc := 9) G 1 rfl rfl (z_dec T_X12_joined_ok 4 (9, .iload_n 1, 1) rfl) ?_
    refine zx_callS_zN (pc := 10) (rm := rm_X12_isBettor) G cw_RX12_202 ⟨Nat.le_of_ble_eq_true rfl, Nat.le_of_ble_eq_true rfl⟩ rfl rfl ⟨Nat.zero_le _, Nat.zero_le _⟩ (fun sz => (met_X12_isBettor l D ρ kd q μ sz a1 _ hI h)) rfl rfl (Nat.le_of_ble_eq_true rfl) (z_dec T_X12_joined_ok 5 (10, .invokestatic 202, 3) rfl) (fun r2 μ1 hzr2 hn => ?_)
    clear h
    have h := hn
    clear hn
    refine zx_if_eq (pc := 13) (tgt := 41) G rfl (z_dec T_X12_joined_ok 6 (13, .ifCond .eq 28, 3) rfl) (fun hc => ?_) (fun hc => ?_)
    · replace h := z_pos hc h
      refine zx_iconst (pc := 41) (v := -1) G (z_dec T_X12_joined_ok 19 (41, .iconst (-1), 1) rfl) rfl ?_
      exact zx_iret (pc := 42) G hr hlk (Nat.le_refl _) (Nat.le_refl _) (z_dec T_X12_joined_ok 20 (42, .ireturn, 1) rfl) ⟨rfl, _, rfl, h⟩
    · replace h := z_neg hc h
      refine zx_aload_n (pc := 16) G (some (0)) 0 rfl rfl (z_dec T_X12_joined_ok 7 (16, .aload_n 0, 1) rfl) ?_
      refine zx_iload_n (pc := 17) G 2 rfl rfl (z_dec T_X12_joined_ok 8 (17, .iload_n 2, 1) rfl) ?_
      refine zx_callV_zN (pc := 18) (rm := rm_X12_isBook) G cw_RX12_180 ⟨Nat.le_of_ble_eq_true rfl, Nat.le_of_ble_eq_true rfl⟩ rfl rfl ⟨Nat.zero_le _, Nat.zero_le _⟩ h_o rfl (fun sz => (met_X12_isBook l D ρ kd q μ1 sz a2 _ hI h_o h)) rfl rfl (Nat.le_of_ble_eq_true rfl) (z_dec T_X12_joined_ok 9 (18, .invokevirtual 180, 3) rfl) (fun r4 μ3 hzr4 hn => ?_)
      clear h
      have h := hn
      clear hn
      refine zx_if_eq (pc := 21) (tgt := 41) G rfl (z_dec T_X12_joined_ok 10 (21, .ifCond .eq 20, 3) rfl) (fun hc => ?_) (fun hc => ?_)
      · replace h := z_pos hc h
        refine zx_iconst (pc := 41) (v := -1) G (z_dec T_X12_joined_ok 19 (41, .iconst (-1), 1) rfl) rfl ?_
        exact zx_iret (pc := 42) G hr hlk (Nat.le_refl _) (Nat.le_refl _) (z_dec T_X12_joined_ok 20 (42, .ireturn, 1) rfl) ⟨rfl, _, rfl, h⟩
      · replace h := z_neg hc h
        refine zx_aload_n (pc := 24) G (some (0)) 0 rfl rfl (z_dec T_X12_joined_ok 11 (24, .aload_n 0, 1) rfl) ?_
        refine zx_getF (pc := 25) (b := 16) G gf_RX12_39 rfl h_o (zq_12_15 hI h_o) (z_dec T_X12_joined_ok 12 (25, .getfield 39, 3) rfl) ?_
        refine zx_iload_n (pc := 28) G 2 rfl rfl (z_dec T_X12_joined_ok 13 (28, .iload_n 2, 1) rfl) ?_
        obtain ⟨c5, h⟩ := h
        refine zx_zald (pc := 29) G (zk_12_15 hI h_o) c5 (z_dec T_X12_joined_ok 14 (29, .baload, 1) rfl) ?_
        refine zx_if_ne (pc := 30) (tgt := 41) G rfl (z_dec T_X12_joined_ok 15 (30, .ifCond .ne 11, 3) rfl) (fun hc => ?_) (fun hc => ?_)
        · replace h := z_neg hc h
          refine zx_iconst (pc := 41) (v := -1) G (z_dec T_X12_joined_ok 19 (41, .iconst (-1), 1) rfl) rfl ?_
          exact zx_iret (pc := 42) G hr hlk (Nat.le_refl _) (Nat.le_refl _) (z_dec T_X12_joined_ok 20 (42, .ireturn, 1) rfl) ⟨rfl, _, rfl, h⟩
        · replace h := z_pos hc h
          refine zx_iload (pc := 33) G 6 rfl (z_dec T_X12_joined_ok 16 (33, .iload 6, 2) rfl) ?_
          refine zx_callS_zN (pc := 35) (rm := rm_X12_isStake) G cw_RX12_209 ⟨Nat.le_of_ble_eq_true rfl, Nat.le_of_ble_eq_true rfl⟩ rfl rfl ⟨Nat.zero_le _, Nat.zero_le _⟩ (fun sz => (met_X12_isStake l D ρ kd q μ3 sz a6 _ hI h)) rfl rfl (Nat.le_of_ble_eq_true rfl) (z_dec T_X12_joined_ok 17 (35, .invokestatic 209, 3) rfl) (fun r7 μ6 hzr7 hn => ?_)
          clear h
          have h := hn
          clear hn
          refine zx_if_ne (pc := 38) (tgt := 43) G rfl (z_dec T_X12_joined_ok 18 (38, .ifCond .ne 5, 3) rfl) (fun hc => ?_) (fun hc => ?_)
          · replace h := z_neg hc h
            refine zx_aload_n (pc := 43) G (some (0)) 0 rfl rfl (z_dec T_X12_joined_ok 21 (43, .aload_n 0, 1) rfl) ?_
            refine zx_getF (pc := 44) (b := 29) G gf_RX12_78 rfl h_o (zq_12_28 hI h_o) (z_dec T_X12_joined_ok 22 (44, .getfield 78, 3) rfl) ?_
            refine zx_iconst (pc := 47) (v := 0) G (z_dec T_X12_joined_ok 23 (47, .iconst 0, 1) rfl) rfl ?_
            refine zx_iload_n (pc := 48) G 3 rfl rfl (z_dec T_X12_joined_ok 24 (48, .iload_n 3, 1) rfl) ?_
            refine zx_iast (pc := 49) G (zk_12_28 hI h_o) (z_inlit (by decide) (by decide)) (z_dec T_X12_joined_ok 25 (49, .iastore, 1) rfl) ?_
            refine zx_aload_n (pc := 50) G (some (0)) 0 rfl rfl (z_dec T_X12_joined_ok 26 (50, .aload_n 0, 1) rfl) ?_
            refine zx_getF (pc := 51) (b := 29) G gf_RX12_78 rfl h_o (zq_12_28 hI h_o) (z_dec T_X12_joined_ok 27 (51, .getfield 78, 3) rfl) ?_
            refine zx_iconst (pc := 54) (v := 1) G (z_dec T_X12_joined_ok 28 (54, .iconst 1, 1) rfl) rfl ?_
            refine zx_iload (pc := 55) G 4 rfl (z_dec T_X12_joined_ok 29 (55, .iload 4, 2) rfl) ?_
            refine zx_iast (pc := 57) G (zk_12_28 hI h_o) (z_inlit (by decide) (by decide)) (z_dec T_X12_joined_ok 30 (57, .iastore, 1) rfl) ?_
            refine zx_aload_n (pc := 58) G (some (0)) 0 rfl rfl (z_dec T_X12_joined_ok 31 (58, .aload_n 0, 1) rfl) ?_
            refine zx_getF (pc := 59) (b := 29) G gf_RX12_78 rfl h_o (zq_12_28 hI h_o) (z_dec T_X12_joined_ok 32 (59, .getfield 78, 3) rfl) ?_
            refine zx_iconst (pc := 62) (v := 2) G (z_dec T_X12_joined_ok 33 (62, .iconst 2, 1) rfl) rfl ?_
            refine zx_iload (pc := 63) G 5 rfl (z_dec T_X12_joined_ok 34 (63, .iload 5, 2) rfl) ?_
            refine zx_iast (pc := 65) G (zk_12_28 hI h_o) (z_inlit (by decide) (by decide)) (z_dec T_X12_joined_ok 35 (65, .iastore, 1) rfl) ?_
            refine zx_iconst (pc := 66) (v := 0) G (z_dec T_X12_joined_ok 36 (66, .iconst 0, 1) rfl) rfl ?_
            refine zx_istore (pc := 67) (lv' := [(7, .int ((0 : Int32))), (0, .ref (0)), (1, .int (a1)), (2, .int (a2)), (3, .int (a3)), (4, .int (a4)), (5, .int (a5)), (6, .int (a6))]) G (Nat.le_of_ble_eq_true rfl) rfl (z_dec T_X12_joined_ok 37 (67, .istore 7, 2) rfl) ?_
            refine zx_iconst (pc := 69) (v := 0) G (z_dec T_X12_joined_ok 38 (69, .iconst 0, 1) rfl) rfl ?_
            refine zx_istore (pc := 70) (lv' := [(8, .int ((0 : Int32))), (7, .int ((0 : Int32))), (0, .ref (0)), (1, .int (a1)), (2, .int (a2)), (3, .int (a3)), (4, .int (a4)), (5, .int (a5)), (6, .int (a6))]) G (Nat.le_of_ble_eq_true rfl) rfl (z_dec T_X12_joined_ok 39 (70, .istore 8, 2) rfl) ?_
            refine zx_sub (lv' := [(0, .ref (0)), (1, .int (a1)), (2, .int (a2)), (6, .int (a6)), (7, .int ((0 : Int32))), (8, .int ((0 : Int32)))]) [2, 3, 4, 8, 1, 0] rfl ?_
            exact L_X12_joined_72_ok G hr hlk hI h_o h
          · replace h := z_pos hc h
            refine zx_iconst (pc := 41) (v := -1) G (z_dec T_X12_joined_ok 19 (41, .iconst (-1), 1) rfl) rfl ?_
            exact zx_iret (pc := 42) G hr hlk (Nat.le_refl _) (Nat.le_refl _) (z_dec T_X12_joined_ok 20 (42, .ireturn, 1) rfl) ⟨rfl, _, rfl, h⟩
abbrev rm_X12_worstOf : Room := { frames := 6, cells := 0, slots := 0, locals := 139 }
set_option maxRecDepth 100000 in
set_option maxHeartbeats 4000000 in
theorem L_X12_worstOf_59_ok {p : Program} {l : Launch} {e : Env} {s : State} {m : MethodId} {args : Array Value} {below : List Frame} {meth : Method} {c : Code} {D : va_G} {A : Nat → Prop} {ρ : z_A} {kd : z_K} {q : z_Q} {μ : z_M} {K : Int32 → z_M → Prop} {P8 : Int32 → Int32 → Int32 → Int32 → Int32 → z_M → Prop} {v1 : Int32} {v2 : Int32} {v5 : Int32} {t0 : Int32} (G : z_G p c cX12_worstOf s m args RX12 7 D) (hr : meth.sig.returnType = (Option.some Jvm.ClassFile.FieldType.int)) (hlk : meth.locks = false) (hP8 : ∀ (v1 : Int32) (v2 : Int32) (v3 : Int32) (v4 : Int32) (v5 : Int32) (μ : z_M), P8 v1 v2 v3 v4 v5 μ → (kd 0 = some (.inl 12)) → ((v4 = 0 ∨ v4 = 1)) → z_X p l e rm_X12_worstOf s m args below meth c 7 D A (MQ below (z_Qn D A ρ kd (z_Ki q K)) args s 0 0 A) 0 0 ρ kd q μ 8 [(0, .ref (0)), (1, .int (v1)), (2, .int (v2)), (3, .int (v3)), (4, .int (v4)), (5, .int (v5))] []) (hI : z_I kd q) (f_l0 : kd 0 = some (.inl 12)) (h : L_X12_worstOf_59 K P8 v1 v2 v5 t0 μ) : z_X p l e rm_X12_worstOf s m args below meth c 7 D A (MQ below (z_Qn D A ρ kd (z_Ki q K)) args s 0 0 A) 0 0 ρ kd q μ 59 [(0, .ref (0)), (1, .int (v1)), (2, .int (v2)), (5, .int (v5))] [.int (t0)] := by
    unfold L_X12_worstOf_59 at h
    refine zx_istore_n (pc := 59) (lv' := [(3, .int (t0)), (0, .ref (0)), (1, .int (v1)), (2, .int (v2)), (5, .int (v5))]) G rfl (Nat.le_of_ble_eq_true rfl) rfl (z_dec T_X12_worstOf_ok 32 (59, .istore_n 3, 1) rfl) ?_
    refine zx_iconst (pc := 60) (v := 1) G (z_dec T_X12_worstOf_ok 33 (60, .iconst 1, 1) rfl) rfl ?_
    refine zx_istore (pc := 61) (lv' := [(4, .int ((1 : Int32))), (3, .int (t0)), (0, .ref (0)), (1, .int (v1)), (2, .int (v2)), (5, .int (v5))]) G (Nat.le_of_ble_eq_true rfl) rfl (z_dec T_X12_worstOf_ok 34 (61, .istore 4, 2) rfl) ?_
    refine zx_iinc (pc := 63) (v := v5 + 1) (lv' := [(5, .int (v5 + 1)), (4, .int ((1 : Int32))), (3, .int (t0)), (0, .ref (0)), (1, .int (v1)), (2, .int (v2))]) G 5 rfl (z_inc (by decide)) (Nat.le_of_ble_eq_true rfl) rfl (z_dec T_X12_worstOf_ok 35 (63, .iinc 5 1, 3) rfl) ?_
    refine zx_goto (pc := 66) (tgt := 8) G rfl (z_dec T_X12_worstOf_ok 36 (66, .goto (-58), 3) rfl) ?_
    refine zx_sub (lv' := [(0, .ref (0)), (1, .int (v1)), (2, .int (v2)), (3, .int (t0)), (4, .int ((1 : Int32))), (5, .int (v5 + 1))]) [3, 4, 5, 2, 1, 0] rfl ?_
    exact hP8 _ _ _ _ _ _ h f_l0 (Or.inr rfl)
set_option maxRecDepth 100000 in
set_option maxHeartbeats 4000000 in
theorem B_X12_worstOf_8_ok {p : Program} {l : Launch} {e : Env} {s : State} {m : MethodId} {args : Array Value} {below : List Frame} {meth : Method} {c : Code} {D : va_G} {A : Nat → Prop} {ρ : z_A} {kd : z_K} {q : z_Q} {μ : z_M} {K : Int32 → z_M → Prop} {P8 : Int32 → Int32 → Int32 → Int32 → Int32 → z_M → Prop} {v1 : Int32} {v2 : Int32} {v3 : Int32} {v4 : Int32} {v5 : Int32} (G : z_G p c cX12_worstOf s m args RX12 7 D) (hr : meth.sig.returnType = (Option.some Jvm.ClassFile.FieldType.int)) (hlk : meth.locks = false) (hP8 : ∀ (v1 : Int32) (v2 : Int32) (v3 : Int32) (v4 : Int32) (v5 : Int32) (μ : z_M), P8 v1 v2 v3 v4 v5 μ → (kd 0 = some (.inl 12)) → ((v4 = 0 ∨ v4 = 1)) → z_X p l e rm_X12_worstOf s m args below meth c 7 D A (MQ below (z_Qn D A ρ kd (z_Ki q K)) args s 0 0 A) 0 0 ρ kd q μ 8 [(0, .ref (0)), (1, .int (v1)), (2, .int (v2)), (3, .int (v3)), (4, .int (v4)), (5, .int (v5))] []) (hI : z_I kd q) (f_l0 : kd 0 = some (.inl 12)) (f_l4 : (v4 = 0 ∨ v4 = 1)) (h : B_X12_worstOf_8 K P8 v1 v2 v3 v4 v5 μ) : z_X p l e rm_X12_worstOf s m args below meth c 7 D A (MQ below (z_Qn D A ρ kd (z_Ki q K)) args s 0 0 A) 0 0 ρ kd q μ 8 [(0, .ref (0)), (1, .int (v1)), (2, .int (v2)), (3, .int (v3)), (4, .int (v4)), (5, .int (v5))] [] := by
    unfold B_X12_worstOf_8 at h
    refine zx_iload (pc := 8) G 5 rfl (z_dec T_X12_worstOf_ok 6 (8, .iload 5, 2) rfl) ?_
    refine zx_aload_n (pc := 10) G (some (0)) 0 rfl rfl (z_dec T_X12_worstOf_ok 7 (10, .aload_n 0, 1) rfl) ?_
    refine zx_getF (pc := 11) (b := 10) G gf_RX12_20 rfl f_l0 (zq_12_9 hI f_l0) (z_dec T_X12_worstOf_ok 8 (11, .getfield 20, 3) rfl) ?_
    refine zx_iload_n (pc := 14) G 2 rfl rfl (z_dec T_X12_worstOf_ok 9 (14, .iload_n 2, 1) rfl) ?_
    obtain ⟨c1, h⟩ := h
    refine zx_iald (pc := 15) G (zk_12_9 hI f_l0) c1 (z_dec T_X12_worstOf_ok 10 (15, .iaload, 1) rfl) ?_
    refine zx_icmp_ge (pc := 16) (tgt := 69) G rfl (z_dec T_X12_worstOf_ok 11 (16, .if_icmp .ge 53, 3) rfl) (fun hc => ?_) (fun hc => ?_)
    · replace h := z_pos hc h
      refine zx_iload_n (pc := 69) G 3 rfl rfl (z_dec T_X12_worstOf_ok 37 (69, .iload_n 3, 1) rfl) ?_
      exact zx_iret (pc := 70) G hr hlk (Nat.le_refl _) (Nat.le_refl _) (z_dec T_X12_worstOf_ok 38 (70, .ireturn, 1) rfl) ⟨rfl, _, rfl, h⟩
    · replace h := z_neg hc h
      refine zx_aload_n (pc := 19) G (some (0)) 0 rfl rfl (z_dec T_X12_worstOf_ok 12 (19, .aload_n 0, 1) rfl) ?_
      refine zx_iload_n (pc := 20) G 2 rfl rfl (z_dec T_X12_worstOf_ok 13 (20, .iload_n 2, 1) rfl) ?_
      refine zx_iload (pc := 21) G 5 rfl (z_dec T_X12_worstOf_ok 14 (21, .iload 5, 2) rfl) ?_
      refine zx_callV_zN (pc := 23) (rm := rm_X12_runs) G cw_RX12_183 ⟨Nat.le_of_ble_eq_true rfl, Nat.le_of_ble_eq_true rfl⟩ rfl rfl ⟨Nat.zero_le _, Nat.zero_le _⟩ f_l0 rfl (fun sz => (met_X12_runs l D ρ kd q μ sz v2 v5 _ hI f_l0 h)) rfl rfl (Nat.le_of_ble_eq_true rfl) (z_dec T_X12_worstOf_ok 15 (23, .invokevirtual 183, 3) rfl) (fun r3 μ2 hzr3 hn => ?_)
      clear h
      have h := hn
      clear hn
      refine zx_if_ne (pc := 26) (tgt := 32) G rfl (z_dec T_X12_worstOf_ok 16 (26, .ifCond .ne 6, 3) rfl) (fun hc => ?_) (fun hc => ?_)
      · replace h := z_neg hc h
        refine zx_aload_n (pc := 32) G (some (0)) 0 rfl rfl (z_dec T_X12_worstOf_ok 18 (32, .aload_n 0, 1) rfl) ?_
        refine zx_iload_n (pc := 33) G 1 rfl rfl (z_dec T_X12_worstOf_ok 19 (33, .iload_n 1, 1) rfl) ?_
        refine zx_iload_n (pc := 34) G 2 rfl rfl (z_dec T_X12_worstOf_ok 20 (34, .iload_n 2, 1) rfl) ?_
        refine zx_iload (pc := 35) G 5 rfl (z_dec T_X12_worstOf_ok 21 (35, .iload 5, 2) rfl) ?_
        refine zx_callV_iN (pc := 37) (rm := rm_X12_balanceAt) G cw_RX12_233 ⟨Nat.le_of_ble_eq_true rfl, Nat.le_of_ble_eq_true rfl⟩ rfl rfl ⟨Nat.zero_le _, Nat.zero_le _⟩ f_l0 rfl (fun sz => (met_X12_balanceAt l D ρ kd q μ2 sz v1 v2 v5 _ hI f_l0 h)) rfl rfl (Nat.le_of_ble_eq_true rfl) (z_dec T_X12_worstOf_ok 22 (37, .invokevirtual 233, 3) rfl) (fun r5 μ4 hn => ?_)
        clear h
        have h := hn
        clear hn
        refine zx_istore (pc := 40) (lv' := [(6, .int (r5)), (0, .ref (0)), (1, .int (v1)), (2, .int (v2)), (3, .int (v3)), (4, .int (v4)), (5, .int (v5))]) G (Nat.le_of_ble_eq_true rfl) rfl (z_dec T_X12_worstOf_ok 23 (40, .istore 6, 2) rfl) ?_
        refine zx_iload (pc := 42) G 5 rfl (z_dec T_X12_worstOf_ok 24 (42, .iload 4, 2) rfl) ?_
        refine zx_if_eq (pc := 44) (tgt := 53) G rfl (z_dec T_X12_worstOf_ok 25 (44, .ifCond .eq 9, 3) rfl) (fun hc => ?_) (fun hc => ?_)
        · replace h := z_pos hc h
          refine zx_iload (pc := 53) G 0 rfl (z_dec T_X12_worstOf_ok 29 (53, .iload 6, 2) rfl) ?_
          refine zx_goto (pc := 55) (tgt := 59) G rfl (z_dec T_X12_worstOf_ok 30 (55, .goto 4, 3) rfl) ?_
          refine zx_sub (lv' := [(0, .ref (0)), (1, .int (v1)), (2, .int (v2)), (5, .int (v5))]) [1, 2, 3, 6] rfl ?_
          exact L_X12_worstOf_59_ok G hr hlk hP8 hI f_l0 h
        · replace h := z_neg hc h
          refine zx_iload (pc := 47) G 0 rfl (z_dec T_X12_worstOf_ok 26 (47, .iload 6, 2) rfl) ?_
          refine zx_iload_n (pc := 49) G 4 rfl rfl (z_dec T_X12_worstOf_ok 27 (49, .iload_n 3, 1) rfl) ?_
          refine zx_icmp_ge (pc := 50) (tgt := 58) G rfl (z_dec T_X12_worstOf_ok 28 (50, .if_icmp .ge 8, 3) rfl) (fun hc => ?_) (fun hc => ?_)
          · replace h := z_pos hc h
            refine zx_iload_n (pc := 58) G 4 rfl rfl (z_dec T_X12_worstOf_ok 31 (58, .iload_n 3, 1) rfl) ?_
            refine zx_sub (lv' := [(0, .ref (0)), (1, .int (v1)), (2, .int (v2)), (5, .int (v5))]) [1, 2, 3, 6] rfl ?_
            exact L_X12_worstOf_59_ok G hr hlk hP8 hI f_l0 h
          · replace h := z_neg hc h
            refine zx_iload (pc := 53) G 0 rfl (z_dec T_X12_worstOf_ok 29 (53, .iload 6, 2) rfl) ?_
            refine zx_goto (pc := 55) (tgt := 59) G rfl (z_dec T_X12_worstOf_ok 30 (55, .goto 4, 3) rfl) ?_
            refine zx_sub (lv' := [(0, .ref (0)), (1, .int (v1)), (2, .int (v2)), (5, .int (v5))]) [1, 2, 3, 6] rfl ?_
            exact L_X12_worstOf_59_ok G hr hlk hP8 hI f_l0 h
      · replace h := z_pos hc h
        refine zx_goto (pc := 29) (tgt := 63) G rfl (z_dec T_X12_worstOf_ok 17 (29, .goto 34, 3) rfl) ?_
        refine zx_iinc (pc := 63) (v := v5 + 1) (lv' := [(5, .int (v5 + 1)), (0, .ref (0)), (1, .int (v1)), (2, .int (v2)), (3, .int (v3)), (4, .int (v4))]) G 5 rfl (z_inc (by decide)) (Nat.le_of_ble_eq_true rfl) rfl (z_dec T_X12_worstOf_ok 35 (63, .iinc 5 1, 3) rfl) ?_
        refine zx_goto (pc := 66) (tgt := 8) G rfl (z_dec T_X12_worstOf_ok 36 (66, .goto (-58), 3) rfl) ?_
        refine zx_sub (lv' := [(0, .ref (0)), (1, .int (v1)), (2, .int (v2)), (3, .int (v3)), (4, .int (v4)), (5, .int (v5 + 1))]) [1, 2, 3, 4, 5, 0] rfl ?_
        exact hP8 _ _ _ _ _ _ h f_l0 f_l4
set_option maxRecDepth 100000 in
set_option maxHeartbeats 4000000 in
theorem L_X12_worstOf_8_ok {p : Program} {l : Launch} {e : Env} {s : State} {m : MethodId} {args : Array Value} {below : List Frame} {meth : Method} {c : Code} {D : va_G} {A : Nat → Prop} {ρ : z_A} {kd : z_K} {q : z_Q} {μ : z_M} {K : Int32 → z_M → Prop} {v1 : Int32} {v2 : Int32} {v3 : Int32} {v4 : Int32} {v5 : Int32} (G : z_G p c cX12_worstOf s m args RX12 7 D) (hr : meth.sig.returnType = (Option.some Jvm.ClassFile.FieldType.int)) (hlk : meth.locks = false) (hI : z_I kd q) (f_l0 : kd 0 = some (.inl 12)) (f_l4 : (v4 = 0 ∨ v4 = 1)) (h : L_X12_worstOf_8 K v1 v2 v3 v4 v5 μ) : z_X p l e rm_X12_worstOf s m args below meth c 7 D A (MQ below (z_Qn D A ρ kd (z_Ki q K)) args s 0 0 A) 0 0 ρ kd q μ 8 [(0, .ref (0)), (1, .int (v1)), (2, .int (v2)), (3, .int (v3)), (4, .int (v4)), (5, .int (v5))] [] :=
  h (fun (v1 : Int32) (v2 : Int32) (v3 : Int32) (v4 : Int32) (v5 : Int32) (μ : z_M) => (kd 0 = some (.inl 12)) → ((v4 = 0 ∨ v4 = 1)) → z_X p l e rm_X12_worstOf s m args below meth c 7 D A (MQ below (z_Qn D A ρ kd (z_Ki q K)) args s 0 0 A) 0 0 ρ kd q μ 8 [(0, .ref (0)), (1, .int (v1)), (2, .int (v2)), (3, .int (v3)), (4, .int (v4)), (5, .int (v5))] []) (fun v1 v2 v3 v4 v5 μ h f_l0 f_l4 => B_X12_worstOf_8_ok G hr hlk (fun _ _ _ _ _ _ h => h) hI f_l0 f_l4 h) f_l0 f_l4
set_option maxRecDepth 100000 in
set_option maxHeartbeats 4000000 in
theorem met_X12_worstOf (l : Launch) (D : va_G) (ρ : z_A) (kd : z_K) (q : z_Q) (μ : z_M) (sz : Nat) (a1 : Int32) (a2 : Int32) (K : Int32 → z_M → Prop) (hI : z_I kd q) (h_o : kd 0 = some (.inl 12)) (h : C_X12_worstOf a1 a2 μ K) : Met l yX12_worstOf (z_ws yX12_worstOf cX12_worstOf 7 (Option.some Jvm.ClassFile.FieldType.int)) rm_X12_worstOf (z_Pc D ρ kd q μ sz [.ref (0), .int (a1), .int (a2)]) (z_Qn D (z_Rg ρ sz) ρ kd (z_Ki q K)) 0 0 (z_Rg ρ sz) := by
  refine z_met (rm := rm_X12_worstOf) (by decide) (Nat.le_of_ble_eq_true rfl) (fun p e s m args below meth c G hr hlk => ?_)
  unfold C_X12_worstOf at h
  show z_X _ _ _ _ _ _ _ _ _ _ _ _ _ _ _ _ _ _ _ _ _ [(0, .ref (0)), (1, .int (a1)), (2, .int (a2))] _
  refine zx_iconst (pc := 0) (v := 0) G (z_dec T_X12_worstOf_ok 0 (0, .iconst 0, 1) rfl) rfl ?_
  refine zx_istore_n (pc := 1) (lv' := [(3, .int ((0 : Int32))), (0, .ref (0)), (1, .int (a1)), (2, .int (a2))]) G rfl (Nat.le_of_ble_eq_true rfl) rfl (z_dec T_X12_worstOf_ok 1 (1, .istore_n 3, 1) rfl) ?_
  refine zx_iconst (pc := 2) (v := 0) G (z_dec T_X12_worstOf_ok 2 (2, .iconst 0, 1) rfl) rfl ?_
  refine zx_istore (pc := 3) (lv' := [(4, .int ((0 : Int32))), (3, .int ((0 : Int32))), (0, .ref (0)), (1, .int (a1)), (2, .int (a2))]) G (Nat.le_of_ble_eq_true rfl) rfl (z_dec T_X12_worstOf_ok 3 (3, .istore 4, 2) rfl) ?_
  refine zx_iconst (pc := 5) (v := 0) G (z_dec T_X12_worstOf_ok 4 (5, .iconst 0, 1) rfl) rfl ?_
  refine zx_istore (pc := 6) (lv' := [(5, .int ((0 : Int32))), (4, .int ((0 : Int32))), (3, .int ((0 : Int32))), (0, .ref (0)), (1, .int (a1)), (2, .int (a2))]) G (Nat.le_of_ble_eq_true rfl) rfl (z_dec T_X12_worstOf_ok 5 (6, .istore 5, 2) rfl) ?_
  refine zx_sub (lv' := [(0, .ref (0)), (1, .int (a1)), (2, .int (a2)), (3, .int ((0 : Int32))), (4, .int ((0 : Int32))), (5, .int ((0 : Int32)))]) [3, 4, 5, 2, 1, 0] rfl ?_
  exact L_X12_worstOf_8_ok G hr hlk hI h_o (Or.inl rfl) h
