abbrev rm_X8_setPlace : Room := { frames := 0, cells := 0, slots := 0, locals := 0 }
set_option maxRecDepth 100000 in
set_option maxHeartbeats 4000000 in
theorem met_X8_setPlace (l : Launch) (D : va_G) (ρ : z_A) (kd : z_K) (q : z_Q) (μ : z_M) (sz : Nat) (a1 : Option Nat) (a2 : Int32) (a3 : Int32) (K : z_Q → z_M → Prop) (hI : z_I kd q) (h_o : kd 9 = some (.inl 8)) (h_a1 : ∀ a, a1 = some a → kd a = some (.inl 1)) (h : C_X8_setPlace kd q a1 a2 a3 μ K) : Met l yX8_setPlace (z_ws yX8_setPlace cX8_setPlace 4 (Option.none : Option Jvm.ClassFile.FieldType)) rm_X8_setPlace (z_Pc D ρ kd q μ sz [.ref (9), va_rf (a1), .int (a2), .int (a3)]) (z_Qn D (z_Rg ρ sz) ρ kd (z_KvQ kd K)) 0 0 (z_Rg ρ sz) := by
  refine z_met (rm := rm_X8_setPlace) (by decide) (by cases a1 <;> exact Nat.le_of_ble_eq_true rfl) (fun p e s m args below meth c G hr hlk => ?_)
  unfold C_X8_setPlace at h
  rw [show lv_args 0 [.ref (9), va_rf (a1), .int (a2), .int (a3)] = [(0, .ref (9)), (1, va_rf (a1)), (2, .int (a2)), (3, .int (a3))] from by cases a1 <;> rfl]
  refine zx_aload_n (pc := 0) G (some (9)) 0 rfl rfl (z_dec T_X8_setPlace_ok 0 (0, .aload_n 0, 1) rfl) ?_
  refine zx_aload_n (pc := 1) G (a1) 1 rfl rfl (z_dec T_X8_setPlace_ok 1 (1, .aload_n 1, 1) rfl) ?_
  refine zx_putR (pc := 2) G (a1) gf_RX8_25 cf_8 rfl rfl h_o (z_dec T_X8_setPlace_ok 2 (2, .putfield 25, 3) rfl) ?_
  have hI1 := z_I_sb hI h_o (w := (a1)) h_a1
  refine zx_aload_n (pc := 5) G (some (9)) 0 rfl rfl (z_dec T_X8_setPlace_ok 3 (5, .aload_n 0, 1) rfl) ?_
  refine zx_iload_n (pc := 6) G 2 rfl rfl (z_dec T_X8_setPlace_ok 4 (6, .iload_n 2, 1) rfl) ?_
  refine zx_putI (pc := 7) G gf_RX8_29 cf_8 rfl rfl h_o (z_dec T_X8_setPlace_ok 5 (7, .putfield 29, 3) rfl) ?_
  refine zx_aload_n (pc := 10) G (some (9)) 0 rfl rfl (z_dec T_X8_setPlace_ok 6 (10, .aload_n 0, 1) rfl) ?_
  refine zx_iload_n (pc := 11) G 3 rfl rfl (z_dec T_X8_setPlace_ok 7 (11, .iload_n 3, 1) rfl) ?_
  refine zx_putI (pc := 12) G gf_RX8_32 cf_8 rfl rfl h_o (z_dec T_X8_setPlace_ok 8 (12, .putfield 32, 3) rfl) ?_
  exact zx_vret (pc := 15) G hr hlk (Nat.le_refl _) (Nat.le_refl _) (z_dec T_X8_setPlace_ok 9 (15, .return_, 1) rfl) ⟨hI1, rfl, h⟩
abbrev rm_X9_clear : Room := { frames := 0, cells := 0, slots := 0, locals := 0 }
set_option maxRecDepth 100000 in
set_option maxHeartbeats 4000000 in
theorem met_X9_clear (l : Launch) (D : va_G) (ρ : z_A) (kd : z_K) (q : z_Q) (μ : z_M) (sz : Nat) (K : z_M → Prop) (hI : z_I kd q) (h_o : kd 11 = some (.inl 9)) (h : C_X9_clear kd q μ K) : Met l yX9_clear (z_ws yX9_clear cX9_clear 1 (Option.none : Option Jvm.ClassFile.FieldType)) rm_X9_clear (z_Pc D ρ kd q μ sz [.ref (11)]) (z_Qn D (z_Rg ρ sz) ρ kd (z_Kv q K)) 0 0 (z_Rg ρ sz) := by
  refine z_met (rm := rm_X9_clear) (by decide) (Nat.le_of_ble_eq_true rfl) (fun p e s m args below meth c G hr hlk => ?_)
  unfold C_X9_clear at h
  show z_X _ _ _ _ _ _ _ _ _ _ _ _ _ _ _ _ _ _ _ _ _ [(0, .ref (11))] _
  refine zx_aload_n (pc := 0) G (some (11)) 0 rfl rfl (z_dec T_X9_clear_ok 0 (0, .aload_n 0, 1) rfl) ?_
  refine zx_lconst (pc := 1) (v := 0) G (z_dec T_X9_clear_ok 1 (1, .lconst 0, 1) rfl) rfl ?_
  refine zx_putL (pc := 2) G gf_RX9_7 cf_9 rfl rfl h_o (z_dec T_X9_clear_ok 2 (2, .putfield 7, 3) rfl) ?_
  refine zx_aload_n (pc := 5) G (some (11)) 0 rfl rfl (z_dec T_X9_clear_ok 3 (5, .aload_n 0, 1) rfl) ?_
  refine zx_lconst (pc := 6) (v := 1) G (z_dec T_X9_clear_ok 4 (6, .lconst 1, 1) rfl) rfl ?_
  refine zx_putL (pc := 7) G gf_RX9_13 cf_9 rfl rfl h_o (z_dec T_X9_clear_ok 5 (7, .putfield 13, 3) rfl) ?_
  exact zx_vret (pc := 10) G hr hlk (Nat.le_refl _) (Nat.le_refl _) (z_dec T_X9_clear_ok 6 (10, .return_, 1) rfl) ⟨rfl, rfl, h⟩
abbrev rm_X9_add : Room := { frames := 0, cells := 0, slots := 0, locals := 0 }
set_option maxRecDepth 100000 in
set_option maxHeartbeats 4000000 in
theorem met_X9_add (l : Launch) (D : va_G) (ρ : z_A) (kd : z_K) (q : z_Q) (μ : z_M) (sz : Nat) (a1 : Int32) (a2 : Int32) (K : z_M → Prop) (hI : z_I kd q) (h_o : kd 11 = some (.inl 9)) (h : C_X9_add kd q a1 a2 μ K) : Met l yX9_add (z_ws yX9_add cX9_add 3 (Option.none : Option Jvm.ClassFile.FieldType)) rm_X9_add (z_Pc D ρ kd q μ sz [.ref (11), .int (a1), .int (a2)]) (z_Qn D (z_Rg ρ sz) ρ kd (z_Kv q K)) 0 0 (z_Rg ρ sz) := by
  refine z_met (rm := rm_X9_add) (by decide) (Nat.le_of_ble_eq_true rfl) (fun p e s m args below meth c G hr hlk => ?_)
  unfold C_X9_add at h
  show z_X _ _ _ _ _ _ _ _ _ _ _ _ _ _ _ _ _ _ _ _ _ [(0, .ref (11)), (1, .int (a1)), (2, .int (a2))] _
  refine zx_aload_n (pc := 0) G (some (11)) 0 rfl rfl (z_dec T_X9_add_ok 0 (0, .aload_n 0, 1) rfl) ?_
  refine zx_aload_n (pc := 1) G (some (11)) 0 rfl rfl (z_dec T_X9_add_ok 1 (1, .aload_n 0, 1) rfl) ?_
  refine zx_getL (pc := 2) G gf_RX9_7 rfl h_o (z_dec T_X9_add_ok 2 (2, .getfield 7, 3) rfl) ?_
  refine zx_iload_n (pc := 5) G 2 rfl rfl (z_dec T_X9_add_ok 3 (5, .iload_n 2, 1) rfl) ?_
  refine zx_i2l (pc := 6) G  (z_dec T_X9_add_ok 4 (6, .i2l, 1) rfl) ?_
  refine zx_lmul (pc := 7) G  (z_dec T_X9_add_ok 5 (7, .lmul, 1) rfl) ?_
  refine zx_aload_n (pc := 8) G (some (11)) 0 rfl rfl (z_dec T_X9_add_ok 6 (8, .aload_n 0, 1) rfl) ?_
  refine zx_getL (pc := 9) G gf_RX9_13 rfl h_o (z_dec T_X9_add_ok 7 (9, .getfield 13, 3) rfl) ?_
  refine zx_iload_n (pc := 12) G 1 rfl rfl (z_dec T_X9_add_ok 8 (12, .iload_n 1, 1) rfl) ?_
  refine zx_i2l (pc := 13) G  (z_dec T_X9_add_ok 9 (13, .i2l, 1) rfl) ?_
  refine zx_lmul (pc := 14) G  (z_dec T_X9_add_ok 10 (14, .lmul, 1) rfl) ?_
  refine zx_ladd (pc := 15) G  (z_dec T_X9_add_ok 11 (15, .ladd, 1) rfl) ?_
  refine zx_putL (pc := 16) G gf_RX9_7 cf_9 rfl rfl h_o (z_dec T_X9_add_ok 12 (16, .putfield 7, 3) rfl) ?_
  refine zx_aload_n (pc := 19) G (some (11)) 0 rfl rfl (z_dec T_X9_add_ok 13 (19, .aload_n 0, 1) rfl) ?_
  refine zx_dup (pc := 20) G rfl (z_dec T_X9_add_ok 14 (20, .dup, 1) rfl) ?_
  refine zx_getL (pc := 21) G gf_RX9_13 rfl h_o (z_dec T_X9_add_ok 15 (21, .getfield 13, 3) rfl) ?_
  refine zx_iload_n (pc := 24) G 2 rfl rfl (z_dec T_X9_add_ok 16 (24, .iload_n 2, 1) rfl) ?_
  refine zx_i2l (pc := 25) G  (z_dec T_X9_add_ok 17 (25, .i2l, 1) rfl) ?_
  refine zx_lmul (pc := 26) G  (z_dec T_X9_add_ok 18 (26, .lmul, 1) rfl) ?_
  refine zx_putL (pc := 27) G gf_RX9_13 cf_9 rfl rfl h_o (z_dec T_X9_add_ok 19 (27, .putfield 13, 3) rfl) ?_
  exact zx_vret (pc := 30) G hr hlk (Nat.le_refl _) (Nat.le_refl _) (z_dec T_X9_add_ok 20 (30, .return_, 1) rfl) ⟨rfl, rfl, h⟩
abbrev rm_X9_greatestDivisor : Room := { frames := 0, cells := 0, slots := 0, locals := 0 }
set_option maxRecDepth 100000 in
set_option maxHeartbeats 4000000 in
theorem B_X9_greatestDivisor_9_ok {p : Program} {l : Launch} {e : Env} {s : State} {m : MethodId} {args : Array Value} {below : List Frame} {meth : Method} {c : Code} {D : va_G} {A : Nat → Prop} {ρ : z_A} {kd : z_K} {q : z_Q} {μ : z_M} {K : Int64 → z_M → Prop} {P9 : Int64 → Int64 → Int32 → z_M → Prop} {v4 : Int64} {v6 : Int64} {v8 : Int32} (G : z_G p c cX9_greatestDivisor s m args RX9 11 D) (hr : meth.sig.returnType = (Option.some Jvm.ClassFile.FieldType.long)) (hlk : meth.locks = false) (hP9 : ∀ (v4 : Int64) (v6 : Int64) (v8 : Int32) (μ : z_M), P9 v4 v6 v8 μ → z_X p l e rm_X9_greatestDivisor s m args below meth c 11 D A (MQ below (z_Qn D A ρ kd (z_Kl q K)) args s 0 0 A) 0 0 ρ kd q μ 9 [(4, .long (v4)), (6, .long (v6)), (8, .int (v8))] []) (hI : z_I kd q) (h : B_X9_greatestDivisor_9 kd q K P9 v4 v6 v8 μ) : z_X p l e rm_X9_greatestDivisor s m args below meth c 11 D A (MQ below (z_Qn D A ρ kd (z_Kl q K)) args s 0 0 A) 0 0 ρ kd q μ 9 [(4, .long (v4)), (6, .long (v6)), (8, .int (v8))] [] := by
    unfold B_X9_greatestDivisor_9 at h
    refine zx_iload (pc := 9) G 2 rfl (z_dec T_X9_greatestDivisor_ok 6 (9, .iload 8, 2) rfl) ?_
    refine zx_sipush (pc := 11) (v := 200) G (z_dec T_X9_greatestDivisor_ok 7 (11, .sipush 200, 3) rfl) rfl ?_
    refine zx_icmp_ge (pc := 14) (tgt := 45) G rfl (z_dec T_X9_greatestDivisor_ok 8 (14, .if_icmp .ge 31, 3) rfl) (fun hc => ?_) (fun hc => ?_)
    · replace h := z_pos hc h
      refine zx_lload (pc := 45) G 0 rfl (z_dec T_X9_greatestDivisor_ok 23 (45, .lload 4, 2) rfl) ?_
      exact zx_lret (pc := 47) G hr hlk (Nat.le_refl _) (Nat.le_refl _) (z_dec T_X9_greatestDivisor_ok 24 (47, .lreturn, 1) rfl) ⟨rfl, _, rfl, h⟩
    · replace h := z_neg hc h
      refine zx_lload (pc := 17) G 1 rfl (z_dec T_X9_greatestDivisor_ok 9 (17, .lload 6, 2) rfl) ?_
      refine zx_lconst (pc := 19) (v := 0) G (z_dec T_X9_greatestDivisor_ok 10 (19, .lconst 0, 1) rfl) rfl ?_
      refine zx_lcmp_eq (pc := 20) (tgt := 45) G rfl (z_dec T_X9_greatestDivisor_ok 11 (20, .lcmp, 1) rfl) (z_dec T_X9_greatestDivisor_ok 12 (21, .ifCond .eq 24, 3) rfl) (fun hc => ?_) (fun hc => ?_)
      · replace h := z_pos hc h
        refine zx_lload (pc := 45) G 0 rfl (z_dec T_X9_greatestDivisor_ok 23 (45, .lload 4, 2) rfl) ?_
        exact zx_lret (pc := 47) G hr hlk (Nat.le_refl _) (Nat.le_refl _) (z_dec T_X9_greatestDivisor_ok 24 (47, .lreturn, 1) rfl) ⟨rfl, _, rfl, h⟩
      · replace h := z_neg hc h
        refine zx_lload (pc := 24) G 0 rfl (z_dec T_X9_greatestDivisor_ok 13 (24, .lload 4, 2) rfl) ?_
        refine zx_lload (pc := 26) G 1 rfl (z_dec T_X9_greatestDivisor_ok 14 (26, .lload 6, 2) rfl) ?_
        obtain ⟨c1, h⟩ := h
        refine zx_lrem (pc := 28) G c1 (z_dec T_X9_greatestDivisor_ok 15 (28, .lrem, 1) rfl) ?_
        refine zx_lstore (pc := 29) (lv' := [(9, .long (v4 - v4 / v6 * v6)), (4, .long (v4)), (6, .long (v6)), (8, .int (v8))]) G (Nat.le_of_ble_eq_true rfl) rfl (z_dec T_X9_greatestDivisor_ok 16 (29, .lstore 9, 2) rfl) ?_
        refine zx_lload (pc := 31) G 2 rfl (z_dec T_X9_greatestDivisor_ok 17 (31, .lload 6, 2) rfl) ?_
        refine zx_lstore (pc := 33) (lv' := [(4, .long (v6)), (9, .long (v4 - v4 / v6 * v6)), (6, .long (v6)), (8, .int (v8))]) G (Nat.le_of_ble_eq_true rfl) rfl (z_dec T_X9_greatestDivisor_ok 18 (33, .lstore 4, 2) rfl) ?_
        refine zx_lload (pc := 35) G 1 rfl (z_dec T_X9_greatestDivisor_ok 19 (35, .lload 9, 2) rfl) ?_
        refine zx_lstore (pc := 37) (lv' := [(6, .long (v4 - v4 / v6 * v6)), (4, .long (v6)), (9, .long (v4 - v4 / v6 * v6)), (8, .int (v8))]) G (Nat.le_of_ble_eq_true rfl) rfl (z_dec T_X9_greatestDivisor_ok 20 (37, .lstore 6, 2) rfl) ?_
        refine zx_iinc (pc := 39) (v := v8 + 1) (lv' := [(8, .int (v8 + 1)), (6, .long (v4 - v4 / v6 * v6)), (4, .long (v6)), (9, .long (v4 - v4 / v6 * v6))]) G 3 rfl (z_inc (by decide)) (Nat.le_of_ble_eq_true rfl) rfl (z_dec T_X9_greatestDivisor_ok 21 (39, .iinc 8 1, 3) rfl) ?_
        refine zx_goto (pc := 42) (tgt := 9) G rfl (z_dec T_X9_greatestDivisor_ok 22 (42, .goto (-33), 3) rfl) ?_
        refine zx_sub (lv' := [(4, .long (v6)), (6, .long (v4 - v4 / v6 * v6)), (8, .int (v8 + 1))]) [2, 1, 0] rfl ?_
        exact hP9 _ _ _ _ h
set_option maxRecDepth 100000 in
set_option maxHeartbeats 4000000 in
theorem L_X9_greatestDivisor_9_ok {p : Program} {l : Launch} {e : Env} {s : State} {m : MethodId} {args : Array Value} {below : List Frame} {meth : Method} {c : Code} {D : va_G} {A : Nat → Prop} {ρ : z_A} {kd : z_K} {q : z_Q} {μ : z_M} {K : Int64 → z_M → Prop} {v4 : Int64} {v6 : Int64} {v8 : Int32} (G : z_G p c cX9_greatestDivisor s m args RX9 11 D) (hr : meth.sig.returnType = (Option.some Jvm.ClassFile.FieldType.long)) (hlk : meth.locks = false) (hI : z_I kd q) (h : L_X9_greatestDivisor_9 kd q K v4 v6 v8 μ) : z_X p l e rm_X9_greatestDivisor s m args below meth c 11 D A (MQ below (z_Qn D A ρ kd (z_Kl q K)) args s 0 0 A) 0 0 ρ kd q μ 9 [(4, .long (v4)), (6, .long (v6)), (8, .int (v8))] [] :=
  h (fun (v4 : Int64) (v6 : Int64) (v8 : Int32) (μ : z_M) => z_X p l e rm_X9_greatestDivisor s m args below meth c 11 D A (MQ below (z_Qn D A ρ kd (z_Kl q K)) args s 0 0 A) 0 0 ρ kd q μ 9 [(4, .long (v4)), (6, .long (v6)), (8, .int (v8))] []) (fun v4 v6 v8 μ h  => B_X9_greatestDivisor_9_ok G hr hlk (fun _ _ _ _ h => h) hI  h) 
set_option maxRecDepth 100000 in
set_option maxHeartbeats 4000000 in
theorem met_X9_greatestDivisor (l : Launch) (D : va_G) (ρ : z_A) (kd : z_K) (q : z_Q) (μ : z_M) (sz : Nat) (a1 : Int64) (a2 : Int64) (K : Int64 → z_M → Prop) (hI : z_I kd q) (h : C_X9_greatestDivisor kd q a1 a2 μ K) : Met l yX9_greatestDivisor (z_ws yX9_greatestDivisor cX9_greatestDivisor 11 (Option.some Jvm.ClassFile.FieldType.long)) rm_X9_greatestDivisor (z_Pc D ρ kd q μ sz [.long (a1), .long (a2)]) (z_Qn D (z_Rg ρ sz) ρ kd (z_Kl q K)) 0 0 (z_Rg ρ sz) := by
  refine z_met (rm := rm_X9_greatestDivisor) (by decide) (Nat.le_of_ble_eq_true rfl) (fun p e s m args below meth c G hr hlk => ?_)
  unfold C_X9_greatestDivisor at h
  show z_X _ _ _ _ _ _ _ _ _ _ _ _ _ _ _ _ _ _ _ _ _ [(0, .long (a1)), (2, .long (a2))] _
  refine zx_lload_n (pc := 0) G 0 rfl rfl (z_dec T_X9_greatestDivisor_ok 0 (0, .lload_n 0, 1) rfl) ?_
  refine zx_lstore (pc := 1) (lv' := [(4, .long (a1)), (0, .long (a1)), (2, .long (a2))]) G (Nat.le_of_ble_eq_true rfl) rfl (z_dec T_X9_greatestDivisor_ok 1 (1, .lstore 4, 2) rfl) ?_
  refine zx_lload_n (pc := 3) G 2 rfl rfl (z_dec T_X9_greatestDivisor_ok 2 (3, .lload_n 2, 1) rfl) ?_
  refine zx_lstore (pc := 4) (lv' := [(6, .long (a2)), (4, .long (a1)), (0, .long (a1)), (2, .long (a2))]) G (Nat.le_of_ble_eq_true rfl) rfl (z_dec T_X9_greatestDivisor_ok 3 (4, .lstore 6, 2) rfl) ?_
  refine zx_iconst (pc := 6) (v := 0) G (z_dec T_X9_greatestDivisor_ok 4 (6, .iconst 0, 1) rfl) rfl ?_
  refine zx_istore (pc := 7) (lv' := [(8, .int ((0 : Int32))), (6, .long (a2)), (4, .long (a1)), (0, .long (a1)), (2, .long (a2))]) G (Nat.le_of_ble_eq_true rfl) rfl (z_dec T_X9_greatestDivisor_ok 5 (7, .istore 8, 2) rfl) ?_
  refine zx_sub (lv' := [(4, .long (a1)), (6, .long (a2)), (8, .int ((0 : Int32)))]) [2, 1, 0] rfl ?_
  exact L_X9_greatestDivisor_9_ok G hr hlk hI h
abbrev rm_X9_shorten : Room := { frames := 1, cells := 0, slots := 0, locals := 30 }
set_option maxRecDepth 100000 in
set_option maxHeartbeats 4000000 in
theorem met_X9_shorten (l : Launch) (D : va_G) (ρ : z_A) (kd : z_K) (q : z_Q) (μ : z_M) (sz : Nat) (K : z_M → Prop) (hI : z_I kd q) (h_o : kd 11 = some (.inl 9)) (h : C_X9_shorten kd q μ K) : Met l yX9_shorten (z_ws yX9_shorten cX9_shorten 3 (Option.none : Option Jvm.ClassFile.FieldType)) rm_X9_shorten (z_Pc D ρ kd q μ sz [.ref (11)]) (z_Qn D (z_Rg ρ sz) ρ kd (z_Kv q K)) 0 0 (z_Rg ρ sz) := by
  refine z_met (rm := rm_X9_shorten) (by decide) (Nat.le_of_ble_eq_true rfl) (fun p e s m args below meth c G hr hlk => ?_)
  unfold C_X9_shorten at h
  show z_X _ _ _ _ _ _ _ _ _ _ _ _ _ _ _ _ _ _ _ _ _ [(0, .ref (11))] _
  refine zx_aload_n (pc := 0) G (some (11)) 0 rfl rfl (z_dec T_X9_shorten_ok 0 (0, .aload_n 0, 1) rfl) ?_
  refine zx_getL (pc := 1) G gf_RX9_7 rfl h_o (z_dec T_X9_shorten_ok 1 (1, .getfield 7, 3) rfl) ?_
  refine zx_aload_n (pc := 4) G (some (11)) 0 rfl rfl (z_dec T_X9_shorten_ok 2 (4, .aload_n 0, 1) rfl) ?_
  refine zx_getL (pc := 5) G gf_RX9_13 rfl h_o (z_dec T_X9_shorten_ok 3 (5, .getfield 13, 3) rfl) ?_
  refine zx_callS_lN (pc := 8) (rm := rm_X9_greatestDivisor) G cw_RX9_16 ⟨Nat.le_of_ble_eq_true rfl, Nat.le_of_ble_eq_true rfl⟩ rfl rfl ⟨Nat.zero_le _, Nat.zero_le _⟩ (fun sz => (met_X9_greatestDivisor l D ρ kd q μ sz (μ.2 11 0) (μ.2 11 1) _ hI h)) rfl rfl (Nat.le_of_ble_eq_true rfl) (z_dec T_X9_shorten_ok 4 (8, .invokestatic 16, 3) rfl) (fun r2 μ1 hn => ?_)
  clear h
  have h := hn
  clear hn
  refine zx_lstore_n (pc := 11) (lv' := [(1, .long (r2)), (0, .ref (11))]) G rfl (Nat.le_of_ble_eq_true rfl) rfl (z_dec T_X9_shorten_ok 5 (11, .lstore_n 1, 1) rfl) ?_
  refine zx_lload_n (pc := 12) G 0 rfl rfl (z_dec T_X9_shorten_ok 6 (12, .lload_n 1, 1) rfl) ?_
  refine zx_lconst (pc := 13) (v := 1) G (z_dec T_X9_shorten_ok 7 (13, .lconst 1, 1) rfl) rfl ?_
  refine zx_lcmp_le (pc := 14) (tgt := 38) G rfl (z_dec T_X9_shorten_ok 8 (14, .lcmp, 1) rfl) (z_dec T_X9_shorten_ok 9 (15, .ifCond .le 23, 3) rfl) (fun hc => ?_) (fun hc => ?_)
  · replace h := z_pos hc h
    exact zx_vret (pc := 38) G hr hlk (Nat.le_refl _) (Nat.le_refl _) (z_dec T_X9_shorten_ok 22 (38, .return_, 1) rfl) ⟨rfl, rfl, h⟩
  · replace h := z_neg hc h
    refine zx_aload_n (pc := 18) G (some (11)) 1 rfl rfl (z_dec T_X9_shorten_ok 10 (18, .aload_n 0, 1) rfl) ?_
    refine zx_dup (pc := 19) G rfl (z_dec T_X9_shorten_ok 11 (19, .dup, 1) rfl) ?_
    refine zx_getL (pc := 20) G gf_RX9_7 rfl h_o (z_dec T_X9_shorten_ok 12 (20, .getfield 7, 3) rfl) ?_
    refine zx_lload_n (pc := 23) G 0 rfl rfl (z_dec T_X9_shorten_ok 13 (23, .lload_n 1, 1) rfl) ?_
    obtain ⟨c3, h⟩ := h
    refine zx_ldiv (pc := 24) G c3 (z_dec T_X9_shorten_ok 14 (24, .ldiv, 1) rfl) ?_
    refine zx_putL (pc := 25) G gf_RX9_7 cf_9 rfl rfl h_o (z_dec T_X9_shorten_ok 15 (25, .putfield 7, 3) rfl) ?_
    refine zx_aload_n (pc := 28) G (some (11)) 1 rfl rfl (z_dec T_X9_shorten_ok 16 (28, .aload_n 0, 1) rfl) ?_
    refine zx_dup (pc := 29) G rfl (z_dec T_X9_shorten_ok 17 (29, .dup, 1) rfl) ?_
    refine zx_getL (pc := 30) G gf_RX9_13 rfl h_o (z_dec T_X9_shorten_ok 18 (30, .getfield 13, 3) rfl) ?_
    refine zx_lload_n (pc := 33) G 0 rfl rfl (z_dec T_X9_shorten_ok 19 (33, .lload_n 1, 1) rfl) ?_
    refine zx_ldiv (pc := 34) G c3 (z_dec T_X9_shorten_ok 20 (34, .ldiv, 1) rfl) ?_
    refine zx_putL (pc := 35) G gf_RX9_13 cf_9 rfl rfl h_o (z_dec T_X9_shorten_ok 21 (35, .putfield 13, 3) rfl) ?_
    exact zx_vret (pc := 38) G hr hlk (Nat.le_refl _) (Nat.le_refl _) (z_dec T_X9_shorten_ok 22 (38, .return_, 1) rfl) ⟨rfl, rfl, h⟩
abbrev rm_X9_divideInto : Room := { frames := 3, cells := 0, slots := 0, locals := 63 }
set_option maxRecDepth 100000 in
set_option maxHeartbeats 4000000 in
theorem met_X9_divideInto (l : Launch) (D : va_G) (ρ : z_A) (kd : z_K) (q : z_Q) (μ : z_M) (sz : Nat) (a1 : Option Nat) (a2 : Int32) (K : z_M → Prop) (hI : z_I kd q) (h_o : kd 11 = some (.inl 9)) (h_a1 : ∀ a, a1 = some a → kd a = some (.inl 3)) (h : C_X9_divideInto kd q a1 a2 μ K) : Met l yX9_divideInto (z_ws yX9_divideInto cX9_divideInto 6 (Option.none : Option Jvm.ClassFile.FieldType)) rm_X9_divideInto (z_Pc D ρ kd q μ sz [.ref (11), va_rf (a1), .int (a2)]) (z_Qn D (z_Rg ρ sz) ρ kd (z_Kv q K)) 0 0 (z_Rg ρ sz) := by
  refine z_met (rm := rm_X9_divideInto) (by decide) (by cases a1 <;> exact Nat.le_of_ble_eq_true rfl) (fun p e s m args below meth c G hr hlk => ?_)
  unfold C_X9_divideInto at h
  rw [show lv_args 0 [.ref (11), va_rf (a1), .int (a2)] = [(0, .ref (11)), (1, va_rf (a1)), (2, .int (a2))] from by cases a1 <;> rfl]
  refine zx_aload_n (pc := 0) G (a1) 1 rfl rfl (z_dec T_X9_divideInto_ok 0 (0, .aload_n 1, 1) rfl) ?_
  refine zx_iload_n (pc := 1) G 2 rfl rfl (z_dec T_X9_divideInto_ok 1 (1, .iload_n 2, 1) rfl) ?_
  obtain ⟨o1, rfl, h⟩ := h
  refine zx_callV_iN (pc := 2) (rm := rm_X3_wholeOf) G cw_RX9_20 ⟨Nat.le_of_ble_eq_true rfl, Nat.le_of_ble_eq_true rfl⟩ rfl rfl ⟨Nat.zero_le _, Nat.zero_le _⟩ (h_a1 o1 rfl) rfl (fun sz => (met_X3_wholeOf l D ρ kd q μ sz o1 a2 _ hI (h_a1 o1 rfl) h)) rfl rfl (Nat.le_of_ble_eq_true rfl) (z_dec T_X9_divideInto_ok 2 (2, .invokevirtual 20, 3) rfl) (fun r3 μ2 hn => ?_)
  clear h
  have h := hn
  clear hn
  refine zx_iconst (pc := 5) (v := 1) G (z_dec T_X9_divideInto_ok 3 (5, .iconst 1, 1) rfl) rfl ?_
  refine zx_mmax (pc := 6) G wm_RX9_26 ⟨Nat.le_of_ble_eq_true rfl, Nat.le_of_ble_eq_true rfl, Nat.zero_le _, Nat.zero_le _⟩ (z_dec T_X9_divideInto_ok 4 (6, .invokestatic 26, 3) rfl) ?_
  refine zx_istore_n (pc := 9) (lv' := [(3, .int (z_max r3 ((1 : Int32)))), (0, .ref (11)), (1, .ref (o1)), (2, .int (a2))]) G rfl (Nat.le_of_ble_eq_true rfl) rfl (z_dec T_X9_divideInto_ok 5 (9, .istore_n 3, 1) rfl) ?_
  refine zx_aload_n (pc := 10) G (some (11)) 1 rfl rfl (z_dec T_X9_divideInto_ok 6 (10, .aload_n 0, 1) rfl) ?_
  refine zx_getL (pc := 11) G gf_RX9_13 rfl h_o (z_dec T_X9_divideInto_ok 7 (11, .getfield 13, 3) rfl) ?_
  refine zx_iload_n (pc := 14) G 0 rfl rfl (z_dec T_X9_divideInto_ok 8 (14, .iload_n 3, 1) rfl) ?_
  refine zx_i2l (pc := 15) G  (z_dec T_X9_divideInto_ok 9 (15, .i2l, 1) rfl) ?_
  obtain ⟨c4, h⟩ := h
  refine zx_ldiv (pc := 16) G c4 (z_dec T_X9_divideInto_ok 10 (16, .ldiv, 1) rfl) ?_
  refine zx_aload_n (pc := 17) G (some (o1)) 2 rfl rfl (z_dec T_X9_divideInto_ok 11 (17, .aload_n 1, 1) rfl) ?_
  refine zx_iload_n (pc := 18) G 3 rfl rfl (z_dec T_X9_divideInto_ok 12 (18, .iload_n 2, 1) rfl) ?_
  refine zx_callV_iN (pc := 19) (rm := rm_X3_bOf) G cw_RX9_32 ⟨Nat.le_of_ble_eq_true rfl, Nat.le_of_ble_eq_true rfl⟩ rfl rfl ⟨Nat.zero_le _, Nat.zero_le _⟩ (h_a1 o1 rfl) rfl (fun sz => (met_X3_bOf l D ρ kd q μ2 sz o1 a2 _ hI (h_a1 o1 rfl) h)) rfl rfl (Nat.le_of_ble_eq_true rfl) (z_dec T_X9_divideInto_ok 13 (19, .invokevirtual 32, 3) rfl) (fun r6 μ5 hn => ?_)
  clear h
  have h := hn
  clear hn
  refine zx_i2l (pc := 22) G  (z_dec T_X9_divideInto_ok 14 (22, .i2l, 1) rfl) ?_
  refine zx_lmul (pc := 23) G  (z_dec T_X9_divideInto_ok 15 (23, .lmul, 1) rfl) ?_
  refine zx_lstore (pc := 24) (lv' := [(4, .long (((μ2.2 11 1) / ((z_max r3 ((1 : Int32))).toInt64)) * r6.toInt64)), (3, .int (z_max r3 ((1 : Int32)))), (0, .ref (11)), (1, .ref (o1)), (2, .int (a2))]) G (Nat.le_of_ble_eq_true rfl) rfl (z_dec T_X9_divideInto_ok 16 (24, .lstore 4, 2) rfl) ?_
  refine zx_aload_n (pc := 26) G (some (11)) 2 rfl rfl (z_dec T_X9_divideInto_ok 17 (26, .aload_n 0, 1) rfl) ?_
  refine zx_aload_n (pc := 27) G (some (11)) 2 rfl rfl (z_dec T_X9_divideInto_ok 18 (27, .aload_n 0, 1) rfl) ?_
  refine zx_getL (pc := 28) G gf_RX9_7 rfl h_o (z_dec T_X9_divideInto_ok 19 (28, .getfield 7, 3) rfl) ?_
  refine zx_putL (pc := 31) G gf_RX9_13 cf_9 rfl rfl h_o (z_dec T_X9_divideInto_ok 20 (31, .putfield 13, 3) rfl) ?_
  refine zx_aload_n (pc := 34) G (some (11)) 2 rfl rfl (z_dec T_X9_divideInto_ok 21 (34, .aload_n 0, 1) rfl) ?_
  refine zx_lload (pc := 35) G 0 rfl (z_dec T_X9_divideInto_ok 22 (35, .lload 4, 2) rfl) ?_
  refine zx_putL (pc := 37) G gf_RX9_7 cf_9 rfl rfl h_o (z_dec T_X9_divideInto_ok 23 (37, .putfield 7, 3) rfl) ?_
  refine zx_aload_n (pc := 40) G (some (11)) 2 rfl rfl (z_dec T_X9_divideInto_ok 24 (40, .aload_n 0, 1) rfl) ?_
  refine zx_callV_vN (pc := 41) (rm := rm_X9_shorten) G cw_RX9_35 ⟨Nat.le_of_ble_eq_true rfl, Nat.le_of_ble_eq_true rfl⟩ rfl rfl ⟨Nat.zero_le _, Nat.zero_le _⟩ h_o rfl (fun sz => (met_X9_shorten l D ρ kd q (sl (sl μ5 11 1 (μ5.2 11 0)) 11 0 (((μ2.2 11 1) / ((z_max r3 ((1 : Int32))).toInt64)) * r6.toInt64)) sz  _ hI h_o h)) rfl rfl (Nat.le_of_ble_eq_true rfl) (z_dec T_X9_divideInto_ok 25 (41, .invokevirtual 35, 3) rfl) (fun μ7 hn => ?_)
  clear h
  have h := hn
  clear hn
  exact zx_vret (pc := 44) G hr hlk (Nat.le_refl _) (Nat.le_refl _) (z_dec T_X9_divideInto_ok 26 (44, .return_, 1) rfl) ⟨rfl, rfl, h⟩
abbrev rm_J13_compare_74951 : Room := { frames := 0, cells := 0, slots := 0, locals := 0 }
set_option maxRecDepth 100000 in
set_option maxHeartbeats 4000000 in
theorem met_J13_compare_74951 (l : Launch) (D : va_G) (ρ : z_A) (kd : z_K) (q : z_Q) (μ : z_M) (sz : Nat) (a1 : Int64) (a2 : Int64) (K : Int32 → z_M → Prop) (h : C_J13_compare_74951 a1 a2 μ K) : Met l yJ13_compare_74951 (z_ws yJ13_compare_74951 cJ13_compare_74951 4 (Option.some Jvm.ClassFile.FieldType.int)) rm_J13_compare_74951 (z_Pc D ρ kd q μ sz [.long (a1), .long (a2)]) (z_Qn D (z_Rg ρ sz) ρ kd (z_Ki q K)) 0 0 (z_Rg ρ sz) := by
  refine z_met (rm := rm_J13_compare_74951) (by decide) (Nat.le_of_ble_eq_true rfl) (fun p e s m args below meth c G hr hlk => ?_)
  unfold C_J13_compare_74951 at h
  show z_X _ _ _ _ _ _ _ _ _ _ _ _ _ _ _ _ _ _ _ _ _ [(0, .long (a1)), (2, .long (a2))] _
  refine zx_lload_n (pc := 0) G 0 rfl rfl (z_dec T_J13_compare_74951_ok 0 (0, .lload_n 0, 1) rfl) ?_
  refine zx_lload_n (pc := 1) G 1 rfl rfl (z_dec T_J13_compare_74951_ok 1 (1, .lload_n 2, 1) rfl) ?_
  refine zx_lcmp_ge (pc := 2) (tgt := 10) G rfl (z_dec T_J13_compare_74951_ok 2 (2, .lcmp, 1) rfl) (z_dec T_J13_compare_74951_ok 3 (3, .ifCond .ge 7, 3) rfl) (fun hc => ?_) (fun hc => ?_)
  · replace h := z_pos hc h
    refine zx_lload_n (pc := 10) G 0 rfl rfl (z_dec T_J13_compare_74951_ok 6 (10, .lload_n 0, 1) rfl) ?_
    refine zx_lload_n (pc := 11) G 1 rfl rfl (z_dec T_J13_compare_74951_ok 7 (11, .lload_n 2, 1) rfl) ?_
    refine zx_lcmp_ne (pc := 12) (tgt := 20) G rfl (z_dec T_J13_compare_74951_ok 8 (12, .lcmp, 1) rfl) (z_dec T_J13_compare_74951_ok 9 (13, .ifCond .ne 7, 3) rfl) (fun hc => ?_) (fun hc => ?_)
    · replace h := z_neg hc h
      refine zx_iconst (pc := 20) (v := 1) G (z_dec T_J13_compare_74951_ok 12 (20, .iconst 1, 1) rfl) rfl ?_
      exact zx_iret (pc := 21) G hr hlk (Nat.le_refl _) (Nat.le_refl _) (z_dec T_J13_compare_74951_ok 13 (21, .ireturn, 1) rfl) ⟨rfl, _, rfl, h⟩
    · replace h := z_pos hc h
      refine zx_iconst (pc := 16) (v := 0) G (z_dec T_J13_compare_74951_ok 10 (16, .iconst 0, 1) rfl) rfl ?_
      refine zx_goto (pc := 17) (tgt := 21) G rfl (z_dec T_J13_compare_74951_ok 11 (17, .goto 4, 3) rfl) ?_
      exact zx_iret (pc := 21) G hr hlk (Nat.le_refl _) (Nat.le_refl _) (z_dec T_J13_compare_74951_ok 13 (21, .ireturn, 1) rfl) ⟨rfl, _, rfl, h⟩
  · replace h := z_neg hc h
    refine zx_iconst (pc := 6) (v := -1) G (z_dec T_J13_compare_74951_ok 4 (6, .iconst (-1), 1) rfl) rfl ?_
    refine zx_goto (pc := 7) (tgt := 21) G rfl (z_dec T_J13_compare_74951_ok 5 (7, .goto 14, 3) rfl) ?_
    exact zx_iret (pc := 21) G hr hlk (Nat.le_refl _) (Nat.le_refl _) (z_dec T_J13_compare_74951_ok 13 (21, .ireturn, 1) rfl) ⟨rfl, _, rfl, h⟩
abbrev rm_X9_compare : Room := { frames := 1, cells := 0, slots := 0, locals := 23 }
set_option maxRecDepth 100000 in
set_option maxHeartbeats 4000000 in
theorem L_X9_compare_141_ok {p : Program} {l : Launch} {e : Env} {s : State} {m : MethodId} {args : Array Value} {below : List Frame} {meth : Method} {c : Code} {D : va_G} {A : Nat → Prop} {ρ : z_A} {kd : z_K} {q : z_Q} {μ : z_M} {K : Int32 → z_M → Prop} {t0 : Int64} {t1 : Int64} (G : z_G p c cX9_compare s m args RX9 25 D) (hr : meth.sig.returnType = (Option.some Jvm.ClassFile.FieldType.int)) (hlk : meth.locks = false) (hI : z_I kd q) (h : L_X9_compare_141 kd q K t0 t1 μ) : z_X p l e rm_X9_compare s m args below meth c 25 D A (MQ below (z_Qn D A ρ kd (z_Ki q K)) args s 0 0 A) 0 0 ρ kd q μ 141 [] [.long (t0), .long (t1)] := by
    unfold L_X9_compare_141 at h
    refine zx_callS_iN (pc := 141) (rm := rm_J13_compare_74951) G cw_RX9_38 ⟨Nat.le_of_ble_eq_true rfl, Nat.le_of_ble_eq_true rfl⟩ rfl rfl ⟨Nat.zero_le _, Nat.zero_le _⟩ (fun sz => (met_J13_compare_74951 l D ρ kd q μ sz t1 t0 _  h)) rfl rfl (Nat.le_of_ble_eq_true rfl) (z_dec T_X9_compare_ok 77 (141, .invokestatic 38, 3) rfl) (fun r2 μ1 hn => ?_)
    clear h
    have h := hn
    clear hn
    exact zx_iret (pc := 144) G hr hlk (Nat.le_refl _) (Nat.le_refl _) (z_dec T_X9_compare_ok 78 (144, .ireturn, 1) rfl) ⟨rfl, _, rfl, h⟩
set_option maxRecDepth 100000 in
set_option maxHeartbeats 4000000 in
theorem L_X9_compare_129_ok {p : Program} {l : Launch} {e : Env} {s : State} {m : MethodId} {args : Array Value} {below : List Frame} {meth : Method} {c : Code} {D : va_G} {A : Nat → Prop} {ρ : z_A} {kd : z_K} {q : z_Q} {μ : z_M} {K : Int32 → z_M → Prop} {v14 : Int64} {t0 : Int64} (G : z_G p c cX9_compare s m args RX9 25 D) (hr : meth.sig.returnType = (Option.some Jvm.ClassFile.FieldType.int)) (hlk : meth.locks = false) (hI : z_I kd q) (h : L_X9_compare_129 kd q K v14 t0 μ) : z_X p l e rm_X9_compare s m args below meth c 25 D A (MQ below (z_Qn D A ρ kd (z_Ki q K)) args s 0 0 A) 0 0 ρ kd q μ 129 [(14, .long (v14))] [.long (t0)] := by
    unfold L_X9_compare_129 at h
    refine zx_lload (pc := 129) G 0 rfl (z_dec T_X9_compare_ok 70 (129, .lload 14, 2) rfl) ?_
    refine zx_lconst (pc := 131) (v := 0) G (z_dec T_X9_compare_ok 71 (131, .lconst 0, 1) rfl) rfl ?_
    refine zx_lcmp_ne (pc := 132) (tgt := 140) G rfl (z_dec T_X9_compare_ok 72 (132, .lcmp, 1) rfl) (z_dec T_X9_compare_ok 73 (133, .ifCond .ne 7, 3) rfl) (fun hc => ?_) (fun hc => ?_)
    · replace h := z_neg hc h
      refine zx_lconst (pc := 140) (v := 0) G (z_dec T_X9_compare_ok 76 (140, .lconst 0, 1) rfl) rfl ?_
      refine zx_sub (lv' := []) [] rfl ?_
      exact L_X9_compare_141_ok G hr hlk hI h
    · replace h := z_pos hc h
      refine zx_lconst (pc := 136) (v := 1) G (z_dec T_X9_compare_ok 74 (136, .lconst 1, 1) rfl) rfl ?_
      refine zx_goto (pc := 137) (tgt := 141) G rfl (z_dec T_X9_compare_ok 75 (137, .goto 4, 3) rfl) ?_
      refine zx_sub (lv' := []) [] rfl ?_
      exact L_X9_compare_141_ok G hr hlk hI h
set_option maxRecDepth 100000 in
set_option maxHeartbeats 4000000 in
theorem L_X9_compare_117_ok {p : Program} {l : Launch} {e : Env} {s : State} {m : MethodId} {args : Array Value} {below : List Frame} {meth : Method} {c : Code} {D : va_G} {A : Nat → Prop} {ρ : z_A} {kd : z_K} {q : z_Q} {μ : z_M} {K : Int32 → z_M → Prop} {v10 : Int64} {v14 : Int64} (G : z_G p c cX9_compare s m args RX9 25 D) (hr : meth.sig.returnType = (Option.some Jvm.ClassFile.FieldType.int)) (hlk : meth.locks = false) (hI : z_I kd q) (h : L_X9_compare_117 kd q K v10 v14 μ) : z_X p l e rm_X9_compare s m args below meth c 25 D A (MQ below (z_Qn D A ρ kd (z_Ki q K)) args s 0 0 A) 0 0 ρ kd q μ 117 [(10, .long (v10)), (14, .long (v14))] [] := by
    unfold L_X9_compare_117 at h
    refine zx_lload (pc := 117) G 0 rfl (z_dec T_X9_compare_ok 63 (117, .lload 10, 2) rfl) ?_
    refine zx_lconst (pc := 119) (v := 0) G (z_dec T_X9_compare_ok 64 (119, .lconst 0, 1) rfl) rfl ?_
    refine zx_lcmp_ne (pc := 120) (tgt := 128) G rfl (z_dec T_X9_compare_ok 65 (120, .lcmp, 1) rfl) (z_dec T_X9_compare_ok 66 (121, .ifCond .ne 7, 3) rfl) (fun hc => ?_) (fun hc => ?_)
    · replace h := z_neg hc h
      refine zx_lconst (pc := 128) (v := 0) G (z_dec T_X9_compare_ok 69 (128, .lconst 0, 1) rfl) rfl ?_
      refine zx_sub (lv' := [(14, .long (v14))]) [1] rfl ?_
      exact L_X9_compare_129_ok G hr hlk hI h
    · replace h := z_pos hc h
      refine zx_lconst (pc := 124) (v := 1) G (z_dec T_X9_compare_ok 67 (124, .lconst 1, 1) rfl) rfl ?_
      refine zx_goto (pc := 125) (tgt := 129) G rfl (z_dec T_X9_compare_ok 68 (125, .goto 4, 3) rfl) ?_
      refine zx_sub (lv' := [(14, .long (v14))]) [1] rfl ?_
      exact L_X9_compare_129_ok G hr hlk hI h
set_option maxRecDepth 100000 in
set_option maxHeartbeats 4000000 in
theorem B_X9_compare_17_ok {p : Program} {l : Launch} {e : Env} {s : State} {m : MethodId} {args : Array Value} {below : List Frame} {meth : Method} {c : Code} {D : va_G} {A : Nat → Prop} {ρ : z_A} {kd : z_K} {q : z_Q} {μ : z_M} {K : Int32 → z_M → Prop} {P17 : Int64 → Int64 → Int64 → Int64 → Int32 → z_M → Prop} {v8 : Int64} {v10 : Int64} {v12 : Int64} {v14 : Int64} {v16 : Int32} (G : z_G p c cX9_compare s m args RX9 25 D) (hr : meth.sig.returnType = (Option.some Jvm.ClassFile.FieldType.int)) (hlk : meth.locks = false) (hP17 : ∀ (v8 : Int64) (v10 : Int64) (v12 : Int64) (v14 : Int64) (v16 : Int32) (μ : z_M), P17 v8 v10 v12 v14 v16 μ → z_X p l e rm_X9_compare s m args below meth c 25 D A (MQ below (z_Qn D A ρ kd (z_Ki q K)) args s 0 0 A) 0 0 ρ kd q μ 17 [(8, .long (v8)), (10, .long (v10)), (12, .long (v12)), (14, .long (v14)), (16, .int (v16))] []) (hI : z_I kd q) (h : B_X9_compare_17 kd q K P17 v8 v10 v12 v14 v16 μ) : z_X p l e rm_X9_compare s m args below meth c 25 D A (MQ below (z_Qn D A ρ kd (z_Ki q K)) args s 0 0 A) 0 0 ρ kd q μ 17 [(8, .long (v8)), (10, .long (v10)), (12, .long (v12)), (14, .long (v14)), (16, .int (v16))] [] := by
    unfold B_X9_compare_17 at h
    refine zx_iload (pc := 17) G 4 rfl (z_dec T_X9_compare_ok 10 (17, .iload 16, 2) rfl) ?_
    refine zx_sipush (pc := 19) (v := 200) G (z_dec T_X9_compare_ok 11 (19, .sipush 200, 3) rfl) rfl ?_
    refine zx_icmp_ge (pc := 22) (tgt := 117) G rfl (z_dec T_X9_compare_ok 12 (22, .if_icmp .ge 95, 3) rfl) (fun hc => ?_) (fun hc => ?_)
    · replace h := z_pos hc h
      refine zx_sub (lv' := [(10, .long (v10)), (14, .long (v14))]) [1, 3] rfl ?_
      exact L_X9_compare_117_ok G hr hlk hI h
    · replace h := z_neg hc h
      refine zx_lload (pc := 25) G 1 rfl (z_dec T_X9_compare_ok 13 (25, .lload 10, 2) rfl) ?_
      refine zx_lconst (pc := 27) (v := 0) G (z_dec T_X9_compare_ok 14 (27, .lconst 0, 1) rfl) rfl ?_
      refine zx_lcmp_le (pc := 28) (tgt := 117) G rfl (z_dec T_X9_compare_ok 15 (28, .lcmp, 1) rfl) (z_dec T_X9_compare_ok 16 (29, .ifCond .le 88, 3) rfl) (fun hc => ?_) (fun hc => ?_)
      · replace h := z_pos hc h
        refine zx_sub (lv' := [(10, .long (v10)), (14, .long (v14))]) [1, 3] rfl ?_
        exact L_X9_compare_117_ok G hr hlk hI h
      · replace h := z_neg hc h
        refine zx_lload (pc := 32) G 3 rfl (z_dec T_X9_compare_ok 17 (32, .lload 14, 2) rfl) ?_
        refine zx_lconst (pc := 34) (v := 0) G (z_dec T_X9_compare_ok 18 (34, .lconst 0, 1) rfl) rfl ?_
        refine zx_lcmp_le (pc := 35) (tgt := 117) G rfl (z_dec T_X9_compare_ok 19 (35, .lcmp, 1) rfl) (z_dec T_X9_compare_ok 20 (36, .ifCond .le 81, 3) rfl) (fun hc => ?_) (fun hc => ?_)
        · replace h := z_pos hc h
          refine zx_sub (lv' := [(10, .long (v10)), (14, .long (v14))]) [1, 3] rfl ?_
          exact L_X9_compare_117_ok G hr hlk hI h
        · replace h := z_neg hc h
          refine zx_lload (pc := 39) G 0 rfl (z_dec T_X9_compare_ok 21 (39, .lload 8, 2) rfl) ?_
          refine zx_lload (pc := 41) G 1 rfl (z_dec T_X9_compare_ok 22 (41, .lload 10, 2) rfl) ?_
          obtain ⟨c1, h⟩ := h
          refine zx_ldiv (pc := 43) G c1 (z_dec T_X9_compare_ok 23 (43, .ldiv, 1) rfl) ?_
          refine zx_lstore (pc := 44) (lv' := [(17, .long (v8 / v10)), (8, .long (v8)), (10, .long (v10)), (12, .long (v12)), (14, .long (v14)), (16, .int (v16))]) G (Nat.le_of_ble_eq_true rfl) rfl (z_dec T_X9_compare_ok 24 (44, .lstore 17, 2) rfl) ?_
          refine zx_lload (pc := 46) G 3 rfl (z_dec T_X9_compare_ok 25 (46, .lload 12, 2) rfl) ?_
          refine zx_lload (pc := 48) G 4 rfl (z_dec T_X9_compare_ok 26 (48, .lload 14, 2) rfl) ?_
          obtain ⟨c2, h⟩ := h
          refine zx_ldiv (pc := 50) G c2 (z_dec T_X9_compare_ok 27 (50, .ldiv, 1) rfl) ?_
          refine zx_lstore (pc := 51) (lv' := [(19, .long (v12 / v14)), (17, .long (v8 / v10)), (8, .long (v8)), (10, .long (v10)), (12, .long (v12)), (14, .long (v14)), (16, .int (v16))]) G (Nat.le_of_ble_eq_true rfl) rfl (z_dec T_X9_compare_ok 28 (51, .lstore 19, 2) rfl) ?_
          refine zx_lload (pc := 53) G 1 rfl (z_dec T_X9_compare_ok 29 (53, .lload 17, 2) rfl) ?_
          refine zx_lload (pc := 55) G 0 rfl (z_dec T_X9_compare_ok 30 (55, .lload 19, 2) rfl) ?_
          refine zx_lcmp_eq (pc := 57) (tgt := 75) G rfl (z_dec T_X9_compare_ok 31 (57, .lcmp, 1) rfl) (z_dec T_X9_compare_ok 32 (58, .ifCond .eq 17, 3) rfl) (fun hc => ?_) (fun hc => ?_)
          · replace h := z_pos hc h
            refine zx_lload (pc := 75) G 2 rfl (z_dec T_X9_compare_ok 41 (75, .lload 8, 2) rfl) ?_
            refine zx_lload (pc := 77) G 1 rfl (z_dec T_X9_compare_ok 42 (77, .lload 17, 2) rfl) ?_
            refine zx_lload (pc := 79) G 3 rfl (z_dec T_X9_compare_ok 43 (79, .lload 10, 2) rfl) ?_
            refine zx_lmul (pc := 81) G  (z_dec T_X9_compare_ok 44 (81, .lmul, 1) rfl) ?_
            refine zx_lsub (pc := 82) G  (z_dec T_X9_compare_ok 45 (82, .lsub, 1) rfl) ?_
            refine zx_lstore (pc := 83) (lv' := [(21, .long (v8 - ((v8 / v10) * v10))), (19, .long (v12 / v14)), (17, .long (v8 / v10)), (8, .long (v8)), (10, .long (v10)), (12, .long (v12)), (14, .long (v14)), (16, .int (v16))]) G (Nat.le_of_ble_eq_true rfl) rfl (z_dec T_X9_compare_ok 46 (83, .lstore 21, 2) rfl) ?_
            refine zx_lload (pc := 85) G 5 rfl (z_dec T_X9_compare_ok 47 (85, .lload 12, 2) rfl) ?_
            refine zx_lload (pc := 87) G 1 rfl (z_dec T_X9_compare_ok 48 (87, .lload 19, 2) rfl) ?_
            refine zx_lload (pc := 89) G 6 rfl (z_dec T_X9_compare_ok 49 (89, .lload 14, 2) rfl) ?_
            refine zx_lmul (pc := 91) G  (z_dec T_X9_compare_ok 50 (91, .lmul, 1) rfl) ?_
            refine zx_lsub (pc := 92) G  (z_dec T_X9_compare_ok 51 (92, .lsub, 1) rfl) ?_
            refine zx_lstore (pc := 93) (lv' := [(23, .long (v12 - ((v12 / v14) * v14))), (21, .long (v8 - ((v8 / v10) * v10))), (19, .long (v12 / v14)), (17, .long (v8 / v10)), (8, .long (v8)), (10, .long (v10)), (12, .long (v12)), (14, .long (v14)), (16, .int (v16))]) G (Nat.le_of_ble_eq_true rfl) rfl (z_dec T_X9_compare_ok 52 (93, .lstore 23, 2) rfl) ?_
            refine zx_lload (pc := 95) G 7 rfl (z_dec T_X9_compare_ok 53 (95, .lload 14, 2) rfl) ?_
            refine zx_lstore (pc := 97) (lv' := [(8, .long (v14)), (23, .long (v12 - ((v12 / v14) * v14))), (21, .long (v8 - ((v8 / v10) * v10))), (19, .long (v12 / v14)), (17, .long (v8 / v10)), (10, .long (v10)), (12, .long (v12)), (14, .long (v14)), (16, .int (v16))]) G (Nat.le_of_ble_eq_true rfl) rfl (z_dec T_X9_compare_ok 54 (97, .lstore 8, 2) rfl) ?_
            refine zx_lload (pc := 99) G 5 rfl (z_dec T_X9_compare_ok 55 (99, .lload 10, 2) rfl) ?_
            refine zx_lstore (pc := 101) (lv' := [(12, .long (v10)), (8, .long (v14)), (23, .long (v12 - ((v12 / v14) * v14))), (21, .long (v8 - ((v8 / v10) * v10))), (19, .long (v12 / v14)), (17, .long (v8 / v10)), (10, .long (v10)), (14, .long (v14)), (16, .int (v16))]) G (Nat.le_of_ble_eq_true rfl) rfl (z_dec T_X9_compare_ok 56 (101, .lstore 12, 2) rfl) ?_
            refine zx_lload (pc := 103) G 2 rfl (z_dec T_X9_compare_ok 57 (103, .lload 23, 2) rfl) ?_
            refine zx_lstore (pc := 105) (lv' := [(10, .long (v12 - ((v12 / v14) * v14))), (12, .long (v10)), (8, .long (v14)), (23, .long (v12 - ((v12 / v14) * v14))), (21, .long (v8 - ((v8 / v10) * v10))), (19, .long (v12 / v14)), (17, .long (v8 / v10)), (14, .long (v14)), (16, .int (v16))]) G (Nat.le_of_ble_eq_true rfl) rfl (z_dec T_X9_compare_ok 58 (105, .lstore 10, 2) rfl) ?_
            refine zx_lload (pc := 107) G 4 rfl (z_dec T_X9_compare_ok 59 (107, .lload 21, 2) rfl) ?_
            refine zx_lstore (pc := 109) (lv' := [(14, .long (v8 - ((v8 / v10) * v10))), (10, .long (v12 - ((v12 / v14) * v14))), (12, .long (v10)), (8, .long (v14)), (23, .long (v12 - ((v12 / v14) * v14))), (21, .long (v8 - ((v8 / v10) * v10))), (19, .long (v12 / v14)), (17, .long (v8 / v10)), (16, .int (v16))]) G (Nat.le_of_ble_eq_true rfl) rfl (z_dec T_X9_compare_ok 60 (109, .lstore 14, 2) rfl) ?_
            refine zx_iinc (pc := 111) (v := v16 + 1) (lv' := [(16, .int (v16 + 1)), (14, .long (v8 - ((v8 / v10) * v10))), (10, .long (v12 - ((v12 / v14) * v14))), (12, .long (v10)), (8, .long (v14)), (23, .long (v12 - ((v12 / v14) * v14))), (21, .long (v8 - ((v8 / v10) * v10))), (19, .long (v12 / v14)), (17, .long (v8 / v10))]) G 8 rfl (z_inc (by decide)) (Nat.le_of_ble_eq_true rfl) rfl (z_dec T_X9_compare_ok 61 (111, .iinc 16 1, 3) rfl) ?_
            refine zx_goto (pc := 114) (tgt := 17) G rfl (z_dec T_X9_compare_ok 62 (114, .goto (-97), 3) rfl) ?_
            refine zx_sub (lv' := [(8, .long (v14)), (10, .long (v12 - ((v12 / v14) * v14))), (12, .long (v10)), (14, .long (v8 - ((v8 / v10) * v10))), (16, .int (v16 + 1))]) [4, 2, 3, 1, 0] rfl ?_
            exact hP17 _ _ _ _ _ _ h
          · replace h := z_neg hc h
            refine zx_lload (pc := 61) G 1 rfl (z_dec T_X9_compare_ok 33 (61, .lload 17, 2) rfl) ?_
            refine zx_lload (pc := 63) G 0 rfl (z_dec T_X9_compare_ok 34 (63, .lload 19, 2) rfl) ?_
            refine zx_lcmp_ge (pc := 65) (tgt := 73) G rfl (z_dec T_X9_compare_ok 35 (65, .lcmp, 1) rfl) (z_dec T_X9_compare_ok 36 (66, .ifCond .ge 7, 3) rfl) (fun hc => ?_) (fun hc => ?_)
            · replace h := z_pos hc h
              refine zx_iconst (pc := 73) (v := 1) G (z_dec T_X9_compare_ok 39 (73, .iconst 1, 1) rfl) rfl ?_
              exact zx_iret (pc := 74) G hr hlk (Nat.le_refl _) (Nat.le_refl _) (z_dec T_X9_compare_ok 40 (74, .ireturn, 1) rfl) ⟨rfl, _, rfl, h⟩
            · replace h := z_neg hc h
              refine zx_iconst (pc := 69) (v := -1) G (z_dec T_X9_compare_ok 37 (69, .iconst (-1), 1) rfl) rfl ?_
              refine zx_goto (pc := 70) (tgt := 74) G rfl (z_dec T_X9_compare_ok 38 (70, .goto 4, 3) rfl) ?_
              exact zx_iret (pc := 74) G hr hlk (Nat.le_refl _) (Nat.le_refl _) (z_dec T_X9_compare_ok 40 (74, .ireturn, 1) rfl) ⟨rfl, _, rfl, h⟩
set_option maxRecDepth 100000 in
set_option maxHeartbeats 4000000 in
theorem L_X9_compare_17_ok {p : Program} {l : Launch} {e : Env} {s : State} {m : MethodId} {args : Array Value} {below : List Frame} {meth : Method} {c : Code} {D : va_G} {A : Nat → Prop} {ρ : z_A} {kd : z_K} {q : z_Q} {μ : z_M} {K : Int32 → z_M → Prop} {v8 : Int64} {v10 : Int64} {v12 : Int64} {v14 : Int64} {v16 : Int32} (G : z_G p c cX9_compare s m args RX9 25 D) (hr : meth.sig.returnType = (Option.some Jvm.ClassFile.FieldType.int)) (hlk : meth.locks = false) (hI : z_I kd q) (h : L_X9_compare_17 kd q K v8 v10 v12 v14 v16 μ) : z_X p l e rm_X9_compare s m args below meth c 25 D A (MQ below (z_Qn D A ρ kd (z_Ki q K)) args s 0 0 A) 0 0 ρ kd q μ 17 [(8, .long (v8)), (10, .long (v10)), (12, .long (v12)), (14, .long (v14)), (16, .int (v16))] [] :=
  h (fun (v8 : Int64) (v10 : Int64) (v12 : Int64) (v14 : Int64) (v16 : Int32) (μ : z_M) => z_X p l e rm_X9_compare s m args below meth c 25 D A (MQ below (z_Qn D A ρ kd (z_Ki q K)) args s 0 0 A) 0 0 ρ kd q μ 17 [(8, .long (v8)), (10, .long (v10)), (12, .long (v12)), (14, .long (v14)), (16, .int (v16))] []) (fun v8 v10 v12 v14 v16 μ h  => B_X9_compare_17_ok G hr hlk (fun _ _ _ _ _ _ h => h) hI  h) 
set_option maxRecDepth 100000 in
set_option maxHeartbeats 4000000 in
theorem met_X9_compare (l : Launch) (D : va_G) (ρ : z_A) (kd : z_K) (q : z_Q) (μ : z_M) (sz : Nat) (a1 : Int64) (a2 : Int64) (a3 : Int64) (a4 : Int64) (K : Int32 → z_M → Prop) (hI : z_I kd q) (h : C_X9_compare kd q a1 a2 a3 a4 μ K) : Met l yX9_compare (z_ws yX9_compare cX9_compare 25 (Option.some Jvm.ClassFile.FieldType.int)) rm_X9_compare (z_Pc D ρ kd q μ sz [.long (a1), .long (a2), .long (a3), .long (a4)]) (z_Qn D (z_Rg ρ sz) ρ kd (z_Ki q K)) 0 0 (z_Rg ρ sz) := by
  refine z_met (rm := rm_X9_compare) (by decide) (Nat.le_of_ble_eq_true rfl) (fun p e s m args below meth c G hr hlk => ?_)
  unfold C_X9_compare at h
  show z_X _ _ _ _ _ _ _ _ _ _ _ _ _ _ _ _ _ _ _ _ _ [(0, .long (a1)), (2, .long (a2)), (4, .long (a3)), (6, .long (a4))] _
  refine zx_lload_n (pc := 0) G 0 rfl rfl (z_dec T_X9_compare_ok 0 (0, .lload_n 0, 1) rfl) ?_
  refine zx_lstore (pc := 1) (lv' := [(8, .long (a1)), (0, .long (a1)), (2, .long (a2)), (4, .long (a3)), (6, .long (a4))]) G (Nat.le_of_ble_eq_true rfl) rfl (z_dec T_X9_compare_ok 1 (1, .lstore 8, 2) rfl) ?_
  refine zx_lload_n (pc := 3) G 2 rfl rfl (z_dec T_X9_compare_ok 2 (3, .lload_n 2, 1) rfl) ?_
  refine zx_lstore (pc := 4) (lv' := [(10, .long (a2)), (8, .long (a1)), (0, .long (a1)), (2, .long (a2)), (4, .long (a3)), (6, .long (a4))]) G (Nat.le_of_ble_eq_true rfl) rfl (z_dec T_X9_compare_ok 3 (4, .lstore 10, 2) rfl) ?_
  refine zx_lload (pc := 6) G 4 rfl (z_dec T_X9_compare_ok 4 (6, .lload 4, 2) rfl) ?_
  refine zx_lstore (pc := 8) (lv' := [(12, .long (a3)), (10, .long (a2)), (8, .long (a1)), (0, .long (a1)), (2, .long (a2)), (4, .long (a3)), (6, .long (a4))]) G (Nat.le_of_ble_eq_true rfl) rfl (z_dec T_X9_compare_ok 5 (8, .lstore 12, 2) rfl) ?_
  refine zx_lload (pc := 10) G 6 rfl (z_dec T_X9_compare_ok 6 (10, .lload 6, 2) rfl) ?_
  refine zx_lstore (pc := 12) (lv' := [(14, .long (a4)), (12, .long (a3)), (10, .long (a2)), (8, .long (a1)), (0, .long (a1)), (2, .long (a2)), (4, .long (a3)), (6, .long (a4))]) G (Nat.le_of_ble_eq_true rfl) rfl (z_dec T_X9_compare_ok 7 (12, .lstore 14, 2) rfl) ?_
  refine zx_iconst (pc := 14) (v := 0) G (z_dec T_X9_compare_ok 8 (14, .iconst 0, 1) rfl) rfl ?_
  refine zx_istore (pc := 15) (lv' := [(16, .int ((0 : Int32))), (14, .long (a4)), (12, .long (a3)), (10, .long (a2)), (8, .long (a1)), (0, .long (a1)), (2, .long (a2)), (4, .long (a3)), (6, .long (a4))]) G (Nat.le_of_ble_eq_true rfl) rfl (z_dec T_X9_compare_ok 9 (15, .istore 16, 2) rfl) ?_
  refine zx_sub (lv' := [(8, .long (a1)), (10, .long (a2)), (12, .long (a3)), (14, .long (a4)), (16, .int ((0 : Int32)))]) [4, 3, 2, 1, 0] rfl ?_
  exact L_X9_compare_17_ok G hr hlk hI h
abbrev rm_X10_hasRoom : Room := { frames := 0, cells := 0, slots := 0, locals := 0 }
set_option maxRecDepth 100000 in
set_option maxHeartbeats 4000000 in
theorem met_X10_hasRoom (l : Launch) (D : va_G) (ρ : z_A) (kd : z_K) (q : z_Q) (μ : z_M) (sz : Nat) (o : Nat) (K : Int32 → z_M → Prop) (hI : z_I kd q) (h_o : kd o = some (.inl 10)) (h : C_X10_hasRoom kd q o μ K) : Met l yX10_hasRoom (z_ws yX10_hasRoom cX10_hasRoom 1 (Option.some Jvm.ClassFile.FieldType.boolean)) rm_X10_hasRoom (z_Pc D ρ kd q μ sz [.ref (o)]) (z_Qn D (z_Rg ρ sz) ρ kd (z_Kz q K)) 0 0 (z_Rg ρ sz) := by
  refine z_met (rm := rm_X10_hasRoom) (by decide) (Nat.le_of_ble_eq_true rfl) (fun p e s m args below meth c G hr hlk => ?_)
  unfold C_X10_hasRoom at h
  show z_X _ _ _ _ _ _ _ _ _ _ _ _ _ _ _ _ _ _ _ _ _ [(0, .ref (o))] _
  refine zx_aload_n (pc := 0) G (some (o)) 0 rfl rfl (z_dec T_X10_hasRoom_ok 0 (0, .aload_n 0, 1) rfl) ?_
  refine zx_getI (pc := 1) G gf_RX10_15 rfl h_o (z_dec T_X10_hasRoom_ok 1 (1, .getfield 15, 3) rfl) ?_
  refine zx_bipush (pc := 4) (v := 20) G (z_dec T_X10_hasRoom_ok 2 (4, .bipush 20, 2) rfl) rfl ?_
  refine zx_iadd (pc := 6) G  (z_dec T_X10_hasRoom_ok 3 (6, .iadd, 1) rfl) ?_
  refine zx_sipush (pc := 7) (v := 200) G (z_dec T_X10_hasRoom_ok 4 (7, .sipush 200, 3) rfl) rfl ?_
  refine zx_icmp_gt (pc := 10) (tgt := 17) G rfl (z_dec T_X10_hasRoom_ok 5 (10, .if_icmp .gt 7, 3) rfl) (fun hc => ?_) (fun hc => ?_)
  · replace h := z_pos hc h
    refine zx_iconst (pc := 17) (v := 0) G (z_dec T_X10_hasRoom_ok 8 (17, .iconst 0, 1) rfl) rfl ?_
    exact zx_zret (pc := 18) G hr hlk (Nat.le_refl _) (Nat.le_refl _) (Or.inl rfl) (z_dec T_X10_hasRoom_ok 9 (18, .ireturn, 1) rfl) ⟨rfl, _, rfl, (Or.inl rfl), h⟩
  · replace h := z_neg hc h
    refine zx_iconst (pc := 13) (v := 1) G (z_dec T_X10_hasRoom_ok 6 (13, .iconst 1, 1) rfl) rfl ?_
    refine zx_goto (pc := 14) (tgt := 18) G rfl (z_dec T_X10_hasRoom_ok 7 (14, .goto 4, 3) rfl) ?_
    exact zx_zret (pc := 18) G hr hlk (Nat.le_refl _) (Nat.le_refl _) (Or.inr rfl) (z_dec T_X10_hasRoom_ok 9 (18, .ireturn, 1) rfl) ⟨rfl, _, rfl, (Or.inr rfl), h⟩
abbrev rm_X10_put : Room := { frames := 0, cells := 0, slots := 0, locals := 0 }
set_option maxRecDepth 100000 in
set_option maxHeartbeats 4000000 in
theorem B_X10_put_3_ok {p : Program} {l : Launch} {e : Env} {s : State} {m : MethodId} {args : Array Value} {below : List Frame} {meth : Method} {c : Code} {D : va_G} {A : Nat → Prop} {ρ : z_A} {kd : z_K} {q : z_Q} {μ : z_M} {K : z_M → Prop} {P3 : Nat → Int32 → Int32 → z_M → Prop} {v0 : Nat} {v1 : Int32} {v2 : Int32} (G : z_G p c cX10_put s m args RX10 3 D) (hr : meth.sig.returnType = (Option.none : Option Jvm.ClassFile.FieldType)) (hlk : meth.locks = false) (hP3 : ∀ (v0 : Nat) (v1 : Int32) (v2 : Int32) (μ : z_M), P3 v0 v1 v2 μ → (kd v0 = some (.inl 10)) → z_X p l e rm_X10_put s m args below meth c 3 D A (MQ below (z_Qn D A ρ kd (z_Kv q K)) args s 0 0 A) 0 0 ρ kd q μ 3 [(0, .ref (v0)), (1, .int (v1)), (2, .int (v2))] []) (hI : z_I kd q) (f_l0 : kd v0 = some (.inl 10)) (h : B_X10_put_3 kd q K P3 v0 v1 v2 μ) : z_X p l e rm_X10_put s m args below meth c 3 D A (MQ below (z_Qn D A ρ kd (z_Kv q K)) args s 0 0 A) 0 0 ρ kd q μ 3 [(0, .ref (v0)), (1, .int (v1)), (2, .int (v2))] [] := by
    unfold B_X10_put_3 at h
    refine zx_iload_n (pc := 3) G 2 rfl rfl (z_dec T_X10_put_ok 2 (3, .iload_n 2, 1) rfl) ?_
    refine zx_if_lt (pc := 4) (tgt := 49) G rfl (z_dec T_X10_put_ok 3 (4, .ifCond .lt 45, 3) rfl) (fun hc => ?_) (fun hc => ?_)
    · replace h := z_pos hc h
      exact zx_vret (pc := 49) G hr hlk (Nat.le_refl _) (Nat.le_refl _) (z_dec T_X10_put_ok 26 (49, .return_, 1) rfl) ⟨rfl, rfl, h⟩
    · replace h := z_neg hc h
      refine zx_aload_n (pc := 7) G (some (v0)) 0 rfl rfl (z_dec T_X10_put_ok 4 (7, .aload_n 0, 1) rfl) ?_
      refine zx_getI (pc := 8) G gf_RX10_15 rfl f_l0 (z_dec T_X10_put_ok 5 (8, .getfield 15, 3) rfl) ?_
      refine zx_sipush (pc := 11) (v := 200) G (z_dec T_X10_put_ok 6 (11, .sipush 200, 3) rfl) rfl ?_
      refine zx_icmp_ge (pc := 14) (tgt := 49) G rfl (z_dec T_X10_put_ok 7 (14, .if_icmp .ge 35, 3) rfl) (fun hc => ?_) (fun hc => ?_)
      · replace h := z_pos hc h
        exact zx_vret (pc := 49) G hr hlk (Nat.le_refl _) (Nat.le_refl _) (z_dec T_X10_put_ok 26 (49, .return_, 1) rfl) ⟨rfl, rfl, h⟩
      · replace h := z_neg hc h
        refine zx_aload_n (pc := 17) G (some (v0)) 0 rfl rfl (z_dec T_X10_put_ok 8 (17, .aload_n 0, 1) rfl) ?_
        refine zx_getF (pc := 18) (b := v0 + 1) G gf_RX10_9 rfl f_l0 (zq_10_0 hI f_l0) (z_dec T_X10_put_ok 9 (18, .getfield 9, 3) rfl) ?_
        refine zx_aload_n (pc := 21) G (some (v0)) 0 rfl rfl (z_dec T_X10_put_ok 10 (21, .aload_n 0, 1) rfl) ?_
        refine zx_getI (pc := 22) G gf_RX10_15 rfl f_l0 (z_dec T_X10_put_ok 11 (22, .getfield 15, 3) rfl) ?_
        refine zx_iload_n (pc := 25) G 1 rfl rfl (z_dec T_X10_put_ok 12 (25, .iload_n 1, 1) rfl) ?_
        refine zx_iload_n (pc := 26) G 2 rfl rfl (z_dec T_X10_put_ok 13 (26, .iload_n 2, 1) rfl) ?_
        refine zx_iushr (pc := 27) G  (z_dec T_X10_put_ok 14 (27, .iushr, 1) rfl) ?_
        refine zx_sipush (pc := 28) (v := 255) G (z_dec T_X10_put_ok 15 (28, .sipush 255, 3) rfl) rfl ?_
        refine zx_iand (pc := 31) G  (z_dec T_X10_put_ok 16 (31, .iand, 1) rfl) ?_
        obtain ⟨c1, h⟩ := h
        refine zx_iast (pc := 32) G (zk_10_0 hI f_l0) c1 (z_dec T_X10_put_ok 17 (32, .iastore, 1) rfl) ?_
        refine zx_aload_n (pc := 33) G (some (v0)) 0 rfl rfl (z_dec T_X10_put_ok 18 (33, .aload_n 0, 1) rfl) ?_
        refine zx_dup (pc := 34) G rfl (z_dec T_X10_put_ok 19 (34, .dup, 1) rfl) ?_
        refine zx_getI (pc := 35) G gf_RX10_15 rfl f_l0 (z_dec T_X10_put_ok 20 (35, .getfield 15, 3) rfl) ?_
        refine zx_iconst (pc := 38) (v := 1) G (z_dec T_X10_put_ok 21 (38, .iconst 1, 1) rfl) rfl ?_
        refine zx_iadd (pc := 39) G  (z_dec T_X10_put_ok 22 (39, .iadd, 1) rfl) ?_
        refine zx_putI (pc := 40) G gf_RX10_15 cf_10 rfl rfl f_l0 (z_dec T_X10_put_ok 23 (40, .putfield 15, 3) rfl) ?_
        refine zx_iinc (pc := 43) (v := v2 + (-8)) (lv' := [(2, .int (v2 + (-8))), (0, .ref (v0)), (1, .int (v1))]) G 2 rfl (z_inc (by decide)) (Nat.le_of_ble_eq_true rfl) rfl (z_dec T_X10_put_ok 24 (43, .iinc 2 (-8), 3) rfl) ?_
        refine zx_goto (pc := 46) (tgt := 3) G rfl (z_dec T_X10_put_ok 25 (46, .goto (-43), 3) rfl) ?_
        refine zx_sub (lv' := [(0, .ref (v0)), (1, .int (v1)), (2, .int (v2 + (-8)))]) [1, 2, 0] rfl ?_
        exact hP3 _ _ _ _ h f_l0
set_option maxRecDepth 100000 in
set_option maxHeartbeats 4000000 in
theorem L_X10_put_3_ok {p : Program} {l : Launch} {e : Env} {s : State} {m : MethodId} {args : Array Value} {below : List Frame} {meth : Method} {c : Code} {D : va_G} {A : Nat → Prop} {ρ : z_A} {kd : z_K} {q : z_Q} {μ : z_M} {K : z_M → Prop} {v0 : Nat} {v1 : Int32} {v2 : Int32} (G : z_G p c cX10_put s m args RX10 3 D) (hr : meth.sig.returnType = (Option.none : Option Jvm.ClassFile.FieldType)) (hlk : meth.locks = false) (hI : z_I kd q) (f_l0 : kd v0 = some (.inl 10)) (h : L_X10_put_3 kd q K v0 v1 v2 μ) : z_X p l e rm_X10_put s m args below meth c 3 D A (MQ below (z_Qn D A ρ kd (z_Kv q K)) args s 0 0 A) 0 0 ρ kd q μ 3 [(0, .ref (v0)), (1, .int (v1)), (2, .int (v2))] [] :=
  h (fun (v0 : Nat) (v1 : Int32) (v2 : Int32) (μ : z_M) => (kd v0 = some (.inl 10)) → z_X p l e rm_X10_put s m args below meth c 3 D A (MQ below (z_Qn D A ρ kd (z_Kv q K)) args s 0 0 A) 0 0 ρ kd q μ 3 [(0, .ref (v0)), (1, .int (v1)), (2, .int (v2))] []) (fun v0 v1 v2 μ h f_l0 => B_X10_put_3_ok G hr hlk (fun _ _ _ _ h => h) hI f_l0 h) f_l0
set_option maxRecDepth 100000 in
set_option maxHeartbeats 4000000 in
theorem met_X10_put (l : Launch) (D : va_G) (ρ : z_A) (kd : z_K) (q : z_Q) (μ : z_M) (sz : Nat) (o : Nat) (a1 : Int32) (K : z_M → Prop) (hI : z_I kd q) (h_o : kd o = some (.inl 10)) (h : C_X10_put kd q o a1 μ K) : Met l yX10_put (z_ws yX10_put cX10_put 3 (Option.none : Option Jvm.ClassFile.FieldType)) rm_X10_put (z_Pc D ρ kd q μ sz [.ref (o), .int (a1)]) (z_Qn D (z_Rg ρ sz) ρ kd (z_Kv q K)) 0 0 (z_Rg ρ sz) := by
  refine z_met (rm := rm_X10_put) (by decide) (Nat.le_of_ble_eq_true rfl) (fun p e s m args below meth c G hr hlk => ?_)
  unfold C_X10_put at h
  show z_X _ _ _ _ _ _ _ _ _ _ _ _ _ _ _ _ _ _ _ _ _ [(0, .ref (o)), (1, .int (a1))] _
  refine zx_bipush (pc := 0) (v := 24) G (z_dec T_X10_put_ok 0 (0, .bipush 24, 2) rfl) rfl ?_
  refine zx_istore_n (pc := 2) (lv' := [(2, .int ((24 : Int32))), (0, .ref (o)), (1, .int (a1))]) G rfl (Nat.le_of_ble_eq_true rfl) rfl (z_dec T_X10_put_ok 1 (2, .istore_n 2, 1) rfl) ?_
  refine zx_sub (lv' := [(0, .ref (o)), (1, .int (a1)), (2, .int ((24 : Int32)))]) [1, 2, 0] rfl ?_
  exact L_X10_put_3_ok G hr hlk hI h_o h
abbrev rm_X10_give : Room := { frames := 0, cells := 0, slots := 0, locals := 0 }
set_option maxRecDepth 100000 in
set_option maxHeartbeats 4000000 in
theorem met_X10_give (l : Launch) (D : va_G) (ρ : z_A) (kd : z_K) (q : z_Q) (μ : z_M) (sz : Nat) (o : Nat) (a1 : Int64) (K : Int32 → z_M → Prop) (hI : z_I kd q) (h_o : kd o = some (.inl 10)) (h : C_X10_give kd q o a1 μ K) : Met l yX10_give (z_ws yX10_give cX10_give 3 (Option.some Jvm.ClassFile.FieldType.boolean)) rm_X10_give (z_Pc D ρ kd q μ sz [.ref (o), .long (a1)]) (z_Qn D (z_Rg ρ sz) ρ kd (z_Kz q K)) 0 0 (z_Rg ρ sz) := by
  refine z_met (rm := rm_X10_give) (by decide) (Nat.le_of_ble_eq_true rfl) (fun p e s m args below meth c G hr hlk => ?_)
  unfold C_X10_give at h
  show z_X _ _ _ _ _ _ _ _ _ _ _ _ _ _ _ _ _ _ _ _ _ [(0, .ref (o)), (1, .long (a1))] _
  refine zx_lload_n (pc := 0) G 1 rfl rfl (z_dec T_X10_give_ok 0 (0, .lload_n 1, 1) rfl) ?_
  refine zx_aload_n (pc := 1) G (some (o)) 0 rfl rfl (z_dec T_X10_give_ok 1 (1, .aload_n 0, 1) rfl) ?_
  refine zx_getI (pc := 2) G gf_RX10_15 rfl h_o (z_dec T_X10_give_ok 2 (2, .getfield 15, 3) rfl) ?_
  refine zx_i2l (pc := 5) G  (z_dec T_X10_give_ok 3 (5, .i2l, 1) rfl) ?_
  refine zx_lcmp_le (pc := 6) (tgt := 12) G rfl (z_dec T_X10_give_ok 4 (6, .lcmp, 1) rfl) (z_dec T_X10_give_ok 5 (7, .ifCond .le 5, 3) rfl) (fun hc => ?_) (fun hc => ?_)
  · replace h := z_pos hc h
    refine zx_aload_n (pc := 12) G (some (o)) 0 rfl rfl (z_dec T_X10_give_ok 8 (12, .aload_n 0, 1) rfl) ?_
    refine zx_iconst (pc := 13) (v := 0) G (z_dec T_X10_give_ok 9 (13, .iconst 0, 1) rfl) rfl ?_
    refine zx_putI (pc := 14) G gf_RX10_15 cf_10 rfl rfl h_o (z_dec T_X10_give_ok 10 (14, .putfield 15, 3) rfl) ?_
    refine zx_iconst (pc := 17) (v := 1) G (z_dec T_X10_give_ok 11 (17, .iconst 1, 1) rfl) rfl ?_
    exact zx_zret (pc := 18) G hr hlk (Nat.le_refl _) (Nat.le_refl _) (Or.inr rfl) (z_dec T_X10_give_ok 12 (18, .ireturn, 1) rfl) ⟨rfl, _, rfl, (Or.inr rfl), h⟩
  · replace h := z_neg hc h
    refine zx_iconst (pc := 10) (v := 0) G (z_dec T_X10_give_ok 6 (10, .iconst 0, 1) rfl) rfl ?_
    exact zx_zret (pc := 11) G hr hlk (Nat.le_refl _) (Nat.le_refl _) (Or.inl rfl) (z_dec T_X10_give_ok 7 (11, .ireturn, 1) rfl) ⟨rfl, _, rfl, (Or.inl rfl), h⟩
abbrev rm_X10_wordAt : Room := { frames := 1, cells := 0, slots := 0, locals := 21 }
set_option maxRecDepth 100000 in
set_option maxHeartbeats 4000000 in
theorem B_X10_wordAt_4_ok {p : Program} {l : Launch} {e : Env} {s : State} {m : MethodId} {args : Array Value} {below : List Frame} {meth : Method} {c : Code} {D : va_G} {A : Nat → Prop} {ρ : z_A} {kd : z_K} {q : z_Q} {μ : z_M} {K : Int32 → z_M → Prop} {P4 : Nat → Int32 → Int32 → Int32 → z_M → Prop} {v0 : Nat} {v1 : Int32} {v2 : Int32} {v3 : Int32} (G : z_G p c cX10_wordAt s m args RX10 4 D) (hr : meth.sig.returnType = (Option.some Jvm.ClassFile.FieldType.int)) (hlk : meth.locks = false) (hP4 : ∀ (v0 : Nat) (v1 : Int32) (v2 : Int32) (v3 : Int32) (μ : z_M), P4 v0 v1 v2 v3 μ → (kd v0 = some (.inl 10)) → z_X p l e rm_X10_wordAt s m args below meth c 4 D A (MQ below (z_Qn D A ρ kd (z_Ki q K)) args s 0 0 A) 0 0 ρ kd q μ 4 [(0, .ref (v0)), (1, .int (v1)), (2, .int (v2)), (3, .int (v3))] []) (hI : z_I kd q) (f_l0 : kd v0 = some (.inl 10)) (h : B_X10_wordAt_4 kd q K P4 v0 v1 v2 v3 μ) : z_X p l e rm_X10_wordAt s m args below meth c 4 D A (MQ below (z_Qn D A ρ kd (z_Ki q K)) args s 0 0 A) 0 0 ρ kd q μ 4 [(0, .ref (v0)), (1, .int (v1)), (2, .int (v2)), (3, .int (v3))] [] := by
    unfold B_X10_wordAt_4 at h
    refine zx_iload_n (pc := 4) G 3 rfl rfl (z_dec T_X10_wordAt_ok 4 (4, .iload_n 3, 1) rfl) ?_
    refine zx_iconst (pc := 5) (v := 4) G (z_dec T_X10_wordAt_ok 5 (5, .iconst 4, 1) rfl) rfl ?_
    refine zx_icmp_ge (pc := 6) (tgt := 30) G rfl (z_dec T_X10_wordAt_ok 6 (6, .if_icmp .ge 24, 3) rfl) (fun hc => ?_) (fun hc => ?_)
    · replace h := z_pos hc h
      refine zx_iload_n (pc := 30) G 2 rfl rfl (z_dec T_X10_wordAt_ok 21 (30, .iload_n 2, 1) rfl) ?_
      exact zx_iret (pc := 31) G hr hlk (Nat.le_refl _) (Nat.le_refl _) (z_dec T_X10_wordAt_ok 22 (31, .ireturn, 1) rfl) ⟨rfl, _, rfl, h⟩
    · replace h := z_neg hc h
      refine zx_iload_n (pc := 9) G 2 rfl rfl (z_dec T_X10_wordAt_ok 7 (9, .iload_n 2, 1) rfl) ?_
      refine zx_bipush (pc := 10) (v := 8) G (z_dec T_X10_wordAt_ok 8 (10, .bipush 8, 2) rfl) rfl ?_
      refine zx_ishl (pc := 12) G  (z_dec T_X10_wordAt_ok 9 (12, .ishl, 1) rfl) ?_
      refine zx_aload_n (pc := 13) G (some (v0)) 0 rfl rfl (z_dec T_X10_wordAt_ok 10 (13, .aload_n 0, 1) rfl) ?_
      refine zx_iconst (pc := 14) (v := 4) G (z_dec T_X10_wordAt_ok 11 (14, .iconst 4, 1) rfl) rfl ?_
      refine zx_iload_n (pc := 15) G 1 rfl rfl (z_dec T_X10_wordAt_ok 12 (15, .iload_n 1, 1) rfl) ?_
      refine zx_imul (pc := 16) G  (z_dec T_X10_wordAt_ok 13 (16, .imul, 1) rfl) ?_
      refine zx_iload_n (pc := 17) G 3 rfl rfl (z_dec T_X10_wordAt_ok 14 (17, .iload_n 3, 1) rfl) ?_
      refine zx_iadd (pc := 18) G  (z_dec T_X10_wordAt_ok 15 (18, .iadd, 1) rfl) ?_
      refine zx_callV_iN (pc := 19) (rm := rm_X10_byteAt) G cw_RX10_19 ⟨Nat.le_of_ble_eq_true rfl, Nat.le_of_ble_eq_true rfl⟩ rfl rfl ⟨Nat.zero_le _, Nat.zero_le _⟩ f_l0 rfl (fun sz => (met_X10_byteAt l D ρ kd q μ sz v0 ((((4 : Int32)) * v1) + v3) _ hI f_l0 h)) rfl rfl (Nat.le_of_ble_eq_true rfl) (z_dec T_X10_wordAt_ok 16 (19, .invokevirtual 19, 3) rfl) (fun r2 μ1 hn => ?_)
      clear h
      have h := hn
      clear hn
      refine zx_ior (pc := 22) G  (z_dec T_X10_wordAt_ok 17 (22, .ior, 1) rfl) ?_
      refine zx_istore_n (pc := 23) (lv' := [(2, .int ((v2 <<< (((8 : Int32)) &&& 31)) ||| r2)), (0, .ref (v0)), (1, .int (v1)), (3, .int (v3))]) G rfl (Nat.le_of_ble_eq_true rfl) rfl (z_dec T_X10_wordAt_ok 18 (23, .istore_n 2, 1) rfl) ?_
      refine zx_iinc (pc := 24) (v := v3 + 1) (lv' := [(3, .int (v3 + 1)), (2, .int ((v2 <<< (((8 : Int32)) &&& 31)) ||| r2)), (0, .ref (v0)), (1, .int (v1))]) G 3 rfl (z_inc (by decide)) (Nat.le_of_ble_eq_true rfl) rfl (z_dec T_X10_wordAt_ok 19 (24, .iinc 3 1, 3) rfl) ?_
      refine zx_goto (pc := 27) (tgt := 4) G rfl (z_dec T_X10_wordAt_ok 20 (27, .goto (-23), 3) rfl) ?_
      refine zx_sub (lv' := [(0, .ref (v0)), (1, .int (v1)), (2, .int ((v2 <<< (((8 : Int32)) &&& 31)) ||| r2)), (3, .int (v3 + 1))]) [2, 3, 1, 0] rfl ?_
      exact hP4 _ _ _ _ _ h f_l0
set_option maxRecDepth 100000 in
set_option maxHeartbeats 4000000 in
theorem L_X10_wordAt_4_ok {p : Program} {l : Launch} {e : Env} {s : State} {m : MethodId} {args : Array Value} {below : List Frame} {meth : Method} {c : Code} {D : va_G} {A : Nat → Prop} {ρ : z_A} {kd : z_K} {q : z_Q} {μ : z_M} {K : Int32 → z_M → Prop} {v0 : Nat} {v1 : Int32} {v2 : Int32} {v3 : Int32} (G : z_G p c cX10_wordAt s m args RX10 4 D) (hr : meth.sig.returnType = (Option.some Jvm.ClassFile.FieldType.int)) (hlk : meth.locks = false) (hI : z_I kd q) (f_l0 : kd v0 = some (.inl 10)) (h : L_X10_wordAt_4 kd q K v0 v1 v2 v3 μ) : z_X p l e rm_X10_wordAt s m args below meth c 4 D A (MQ below (z_Qn D A ρ kd (z_Ki q K)) args s 0 0 A) 0 0 ρ kd q μ 4 [(0, .ref (v0)), (1, .int (v1)), (2, .int (v2)), (3, .int (v3))] [] :=
  h (fun (v0 : Nat) (v1 : Int32) (v2 : Int32) (v3 : Int32) (μ : z_M) => (kd v0 = some (.inl 10)) → z_X p l e rm_X10_wordAt s m args below meth c 4 D A (MQ below (z_Qn D A ρ kd (z_Ki q K)) args s 0 0 A) 0 0 ρ kd q μ 4 [(0, .ref (v0)), (1, .int (v1)), (2, .int (v2)), (3, .int (v3))] []) (fun v0 v1 v2 v3 μ h f_l0 => B_X10_wordAt_4_ok G hr hlk (fun _ _ _ _ _ h => h) hI f_l0 h) f_l0
set_option maxRecDepth 100000 in
set_option maxHeartbeats 4000000 in
theorem met_X10_wordAt (l : Launch) (D : va_G) (ρ : z_A) (kd : z_K) (q : z_Q) (μ : z_M) (sz : Nat) (o : Nat) (a1 : Int32) (K : Int32 → z_M → Prop) (hI : z_I kd q) (h_o : kd o = some (.inl 10)) (h : C_X10_wordAt kd q o a1 μ K) : Met l yX10_wordAt (z_ws yX10_wordAt cX10_wordAt 4 (Option.some Jvm.ClassFile.FieldType.int)) rm_X10_wordAt (z_Pc D ρ kd q μ sz [.ref (o), .int (a1)]) (z_Qn D (z_Rg ρ sz) ρ kd (z_Ki q K)) 0 0 (z_Rg ρ sz) := by
  refine z_met (rm := rm_X10_wordAt) (by decide) (Nat.le_of_ble_eq_true rfl) (fun p e s m args below meth c G hr hlk => ?_)
  unfold C_X10_wordAt at h
  show z_X _ _ _ _ _ _ _ _ _ _ _ _ _ _ _ _ _ _ _ _ _ [(0, .ref (o)), (1, .int (a1))] _
  refine zx_iconst (pc := 0) (v := 0) G (z_dec T_X10_wordAt_ok 0 (0, .iconst 0, 1) rfl) rfl ?_
  refine zx_istore_n (pc := 1) (lv' := [(2, .int ((0 : Int32))), (0, .ref (o)), (1, .int (a1))]) G rfl (Nat.le_of_ble_eq_true rfl) rfl (z_dec T_X10_wordAt_ok 1 (1, .istore_n 2, 1) rfl) ?_
  refine zx_iconst (pc := 2) (v := 0) G (z_dec T_X10_wordAt_ok 2 (2, .iconst 0, 1) rfl) rfl ?_
  refine zx_istore_n (pc := 3) (lv' := [(3, .int ((0 : Int32))), (2, .int ((0 : Int32))), (0, .ref (o)), (1, .int (a1))]) G rfl (Nat.le_of_ble_eq_true rfl) rfl (z_dec T_X10_wordAt_ok 3 (3, .istore_n 3, 1) rfl) ?_
  refine zx_sub (lv' := [(0, .ref (o)), (1, .int (a1)), (2, .int ((0 : Int32))), (3, .int ((0 : Int32)))]) [2, 3, 1, 0] rfl ?_
  exact L_X10_wordAt_4_ok G hr hlk hI h_o h
abbrev rm_X11_bookAt : Room := { frames := 0, cells := 0, slots := 0, locals := 0 }
set_option maxRecDepth 100000 in
set_option maxHeartbeats 4000000 in
theorem met_X11_bookAt (l : Launch) (D : va_G) (ρ : z_A) (kd : z_K) (q : z_Q) (μ : z_M) (sz : Nat) (a1 : Int32) (K : Option Nat → z_M → Prop) (hI : z_I kd q) (h_o : kd 0 = some (.inl 11)) (h : C_X11_bookAt kd q a1 μ K) : Met l yX11_bookAt (z_ws yX11_bookAt cX11_bookAt 2 (Option.some (Jvm.ClassFile.FieldType.object "SlateRing$Book"))) rm_X11_bookAt (z_Pc D ρ kd q μ sz [.ref (0), .int (a1)]) (z_Qn D (z_Rg ρ sz) ρ kd (z_Kr kd 1 q K)) 0 0 (z_Rg ρ sz) := by
  refine z_met (rm := rm_X11_bookAt) (by decide) (Nat.le_of_ble_eq_true rfl) (fun p e s m args below meth c G hr hlk => ?_)
  unfold C_X11_bookAt at h
  show z_X _ _ _ _ _ _ _ _ _ _ _ _ _ _ _ _ _ _ _ _ _ [(0, .ref (0)), (1, .int (a1))] _
  refine zx_iload_n (pc := 0) G 1 rfl rfl (z_dec T_X11_bookAt_ok 0 (0, .iload_n 1, 1) rfl) ?_
  refine zx_if_lt (pc := 1) (tgt := 21) G rfl (z_dec T_X11_bookAt_ok 1 (1, .ifCond .lt 20, 3) rfl) (fun hc => ?_) (fun hc => ?_)
  · replace h := z_pos hc h
    refine zx_null (pc := 21) G  (z_dec T_X11_bookAt_ok 11 (21, .aconst_null, 1) rfl) ?_
    exact zx_aret (pc := 22) G (none) hr (Or.inl ⟨_, rfl⟩) hlk (Nat.le_refl _) (Nat.le_refl _) (z_dec T_X11_bookAt_ok 12 (22, .areturn, 1) rfl) ⟨rfl, _, rfl, (fun a h => by cases h), h⟩
  · replace h := z_neg hc h
    refine zx_iload_n (pc := 4) G 1 rfl rfl (z_dec T_X11_bookAt_ok 2 (4, .iload_n 1, 1) rfl) ?_
    refine zx_aload_n (pc := 5) G (some (0)) 0 rfl rfl (z_dec T_X11_bookAt_ok 3 (5, .aload_n 0, 1) rfl) ?_
    refine zx_getI (pc := 6) G gf_RX11_114 rfl h_o (z_dec T_X11_bookAt_ok 4 (6, .getfield 114, 3) rfl) ?_
    refine zx_icmp_ge (pc := 9) (tgt := 21) G rfl (z_dec T_X11_bookAt_ok 5 (9, .if_icmp .ge 12, 3) rfl) (fun hc => ?_) (fun hc => ?_)
    · replace h := z_pos hc h
      refine zx_null (pc := 21) G  (z_dec T_X11_bookAt_ok 11 (21, .aconst_null, 1) rfl) ?_
      exact zx_aret (pc := 22) G (none) hr (Or.inl ⟨_, rfl⟩) hlk (Nat.le_refl _) (Nat.le_refl _) (z_dec T_X11_bookAt_ok 12 (22, .areturn, 1) rfl) ⟨rfl, _, rfl, (fun a h => by cases h), h⟩
    · replace h := z_neg hc h
      refine zx_aload_n (pc := 12) G (some (0)) 0 rfl rfl (z_dec T_X11_bookAt_ok 6 (12, .aload_n 0, 1) rfl) ?_
      refine zx_getF (pc := 13) (b := 7) G gf_RX11_31 rfl h_o (zq_11_3 hI h_o) (z_dec T_X11_bookAt_ok 7 (13, .getfield 31, 3) rfl) ?_
      refine zx_iload_n (pc := 16) G 1 rfl rfl (z_dec T_X11_bookAt_ok 8 (16, .iload_n 1, 1) rfl) ?_
      obtain ⟨c1, h⟩ := h
      have hh := z_el hI (zk_11_3 hI h_o) (z_inlt c1)
      refine zx_aald (pc := 17) (t := 1) G (zk_11_3 hI h_o) c1 (z_dec T_X11_bookAt_ok 9 (17, .aaload, 1) rfl) ?_
      generalize ew2 : q 7 a1.toNatClampNeg = w2 at hh ⊢
      have fw2 := hh
      replace h := h w2 ew2.symm
      refine zx_goto (pc := 18) (tgt := 22) G rfl (z_dec T_X11_bookAt_ok 10 (18, .goto 4, 3) rfl) ?_
      exact zx_aret (pc := 22) G (w2) hr (Or.inl ⟨_, rfl⟩) hlk (Nat.le_refl _) (Nat.le_refl _) (z_dec T_X11_bookAt_ok 12 (22, .areturn, 1) rfl) ⟨rfl, _, rfl, fw2, h⟩
abbrev rm_X11_spot : Room := { frames := 0, cells := 0, slots := 0, locals := 0 }
set_option maxRecDepth 100000 in
set_option maxHeartbeats 4000000 in
theorem met_X11_spot (l : Launch) (D : va_G) (ρ : z_A) (kd : z_K) (q : z_Q) (μ : z_M) (sz : Nat) (a1 : Int32) (a2 : Int32) (K : Int32 → z_M → Prop) (hI : z_I kd q) (h : C_X11_spot kd q a1 a2 μ K) : Met l yX11_spot (z_ws yX11_spot cX11_spot 2 (Option.some Jvm.ClassFile.FieldType.int)) rm_X11_spot (z_Pc D ρ kd q μ sz [.int (a1), .int (a2)]) (z_Qn D (z_Rg ρ sz) ρ kd (z_Ki q K)) 0 0 (z_Rg ρ sz) := by
  refine z_met (rm := rm_X11_spot) (by decide) (Nat.le_of_ble_eq_true rfl) (fun p e s m args below meth c G hr hlk => ?_)
  unfold C_X11_spot at h
  show z_X _ _ _ _ _ _ _ _ _ _ _ _ _ _ _ _ _ _ _ _ _ [(0, .int (a1)), (1, .int (a2))] _
  refine zx_iload_n (pc := 0) G 0 rfl rfl (z_dec T_X11_spot_ok 0 (0, .iload_n 0, 1) rfl) ?_
  refine zx_bipush (pc := 1) (v := 8) G (z_dec T_X11_spot_ok 1 (1, .bipush 8, 2) rfl) rfl ?_
  refine zx_imul (pc := 3) G  (z_dec T_X11_spot_ok 2 (3, .imul, 1) rfl) ?_
  refine zx_iload_n (pc := 4) G 1 rfl rfl (z_dec T_X11_spot_ok 3 (4, .iload_n 1, 1) rfl) ?_
  refine zx_iadd (pc := 5) G  (z_dec T_X11_spot_ok 4 (5, .iadd, 1) rfl) ?_
  exact zx_iret (pc := 6) G hr hlk (Nat.le_refl _) (Nat.le_refl _) (z_dec T_X11_spot_ok 5 (6, .ireturn, 1) rfl) ⟨rfl, _, rfl, h⟩
abbrev rm_X11_longest : Room := { frames := 1, cells := 0, slots := 0, locals := 21 }
set_option maxRecDepth 100000 in
set_option maxHeartbeats 4000000 in
theorem B_X11_longest_5_ok {p : Program} {l : Launch} {e : Env} {s : State} {m : MethodId} {args : Array Value} {below : List Frame} {meth : Method} {c : Code} {D : va_G} {A : Nat → Prop} {ρ : z_A} {kd : z_K} {q : z_Q} {μ : z_M} {K : Int32 → z_M → Prop} {P5 : Int32 → Int32 → Int32 → Int32 → z_M → Prop} {v1 : Int32} {v2 : Int32} {v3 : Int32} {v4 : Int32} (G : z_G p c cX11_longest s m args RX11 6 D) (hr : meth.sig.returnType = (Option.some Jvm.ClassFile.FieldType.int)) (hlk : meth.locks = false) (hP5 : ∀ (v1 : Int32) (v2 : Int32) (v3 : Int32) (v4 : Int32) (μ : z_M), P5 v1 v2 v3 v4 μ → (kd 0 = some (.inl 11)) → z_X p l e rm_X11_longest s m args below meth c 6 D A (MQ below (z_Qn D A ρ kd (z_Ki q K)) args s 0 0 A) 0 0 ρ kd q μ 5 [(0, .ref (0)), (1, .int (v1)), (2, .int (v2)), (3, .int (v3)), (4, .int (v4))] []) (hI : z_I kd q) (f_l0 : kd 0 = some (.inl 11)) (h : B_X11_longest_5 kd q K P5 v1 v2 v3 v4 μ) : z_X p l e rm_X11_longest s m args below meth c 6 D A (MQ below (z_Qn D A ρ kd (z_Ki q K)) args s 0 0 A) 0 0 ρ kd q μ 5 [(0, .ref (0)), (1, .int (v1)), (2, .int (v2)), (3, .int (v3)), (4, .int (v4))] [] := by
    unfold B_X11_longest_5 at h
    refine zx_iload (pc := 5) G 4 rfl (z_dec T_X11_longest_ok 4 (5, .iload 4, 2) rfl) ?_
    refine zx_aload_n (pc := 7) G (some (0)) 0 rfl rfl (z_dec T_X11_longest_ok 5 (7, .aload_n 0, 1) rfl) ?_
    refine zx_getI (pc := 8) G gf_RX11_114 rfl f_l0 (z_dec T_X11_longest_ok 6 (8, .getfield 114, 3) rfl) ?_
    refine zx_icmp_ge (pc := 11) (tgt := 57) G rfl (z_dec T_X11_longest_ok 7 (11, .if_icmp .ge 46, 3) rfl) (fun hc => ?_) (fun hc => ?_)
    · replace h := z_pos hc h
      refine zx_iload_n (pc := 57) G 3 rfl rfl (z_dec T_X11_longest_ok 28 (57, .iload_n 3, 1) rfl) ?_
      exact zx_iret (pc := 58) G hr hlk (Nat.le_refl _) (Nat.le_refl _) (z_dec T_X11_longest_ok 29 (58, .ireturn, 1) rfl) ⟨rfl, _, rfl, h⟩
    · replace h := z_neg hc h
      refine zx_aload_n (pc := 14) G (some (0)) 0 rfl rfl (z_dec T_X11_longest_ok 8 (14, .aload_n 0, 1) rfl) ?_
      refine zx_iload (pc := 15) G 4 rfl (z_dec T_X11_longest_ok 9 (15, .iload 4, 2) rfl) ?_
      refine zx_callV_rN (pc := 17) (rm := rm_X11_bookAt) G cw_RX11_141 ⟨Nat.le_of_ble_eq_true rfl, Nat.le_of_ble_eq_true rfl⟩ rfl rfl ⟨Nat.zero_le _, Nat.zero_le _⟩ f_l0 rfl (fun sz => (met_X11_bookAt l D ρ kd q μ sz v4 _ hI f_l0 h)) rfl rfl (Nat.le_of_ble_eq_true rfl) (z_dec T_X11_longest_ok 10 (17, .invokevirtual 141, 3) rfl) (fun r2 μ1 hfr2 hn => ?_)
      clear h
      have h := hn
      clear hn
      refine zx_astore (pc := 20) (lv' := [(5, va_rf (r2)), (0, .ref (0)), (1, .int (v1)), (2, .int (v2)), (3, .int (v3)), (4, .int (v4))]) G (r2) (Nat.le_of_ble_eq_true rfl) rfl (z_dec T_X11_longest_ok 11 (20, .astore 5, 2) rfl) ?_
      refine zx_aload (pc := 22) G (r2) 0 rfl (z_dec T_X11_longest_ok 12 (22, .aload 5, 2) rfl) ?_
      obtain ⟨h1, h2⟩ := h
      rcases r2 with _ | o3
      · replace h := h1 rfl
        refine zx_ifnullN (pc := 24) (tgt := 51) G rfl (z_dec T_X11_longest_ok 13 (24, .ifnull 27, 3) rfl) ?_
        refine zx_iinc (pc := 51) (v := v4 + 1) (lv' := [(4, .int (v4 + 1)), (5, va_rf (none)), (0, .ref (0)), (1, .int (v1)), (2, .int (v2)), (3, .int (v3))]) G 5 rfl (z_inc (by decide)) (Nat.le_of_ble_eq_true rfl) rfl (z_dec T_X11_longest_ok 26 (51, .iinc 4 1, 3) rfl) ?_
        refine zx_goto (pc := 54) (tgt := 5) G rfl (z_dec T_X11_longest_ok 27 (54, .goto (-49), 3) rfl) ?_
        refine zx_sub (lv' := [(0, .ref (0)), (1, .int (v1)), (2, .int (v2)), (3, .int (v3)), (4, .int (v4 + 1))]) [2, 3, 4, 5, 0] rfl ?_
        exact hP5 _ _ _ _ _ h f_l0
      · replace h := h2 o3 rfl
        refine zx_ifnullS (pc := 24) G (hfr2 o3 rfl) (z_dec T_X11_longest_ok 13 (24, .ifnull 27, 3) rfl) ?_
        refine zx_aload (pc := 27) G (some (o3)) 0 rfl (z_dec T_X11_longest_ok 14 (27, .aload 5, 2) rfl) ?_
        refine zx_getZ (pc := 29) G gf_RX11_278 rfl (hfr2 o3 rfl) (z_dec T_X11_longest_ok 15 (29, .getfield 278, 3) rfl) ?_
        refine zx_if_ne (pc := 32) (tgt := 51) G rfl (z_dec T_X11_longest_ok 16 (32, .ifCond .ne 19, 3) rfl) (fun hc => ?_) (fun hc => ?_)
        · replace h := z_neg hc h
          refine zx_iinc (pc := 51) (v := v4 + 1) (lv' := [(4, .int (v4 + 1)), (5, .ref (o3)), (0, .ref (0)), (1, .int (v1)), (2, .int (v2)), (3, .int (v3))]) G 5 rfl (z_inc (by decide)) (Nat.le_of_ble_eq_true rfl) rfl (z_dec T_X11_longest_ok 26 (51, .iinc 4 1, 3) rfl) ?_
          refine zx_goto (pc := 54) (tgt := 5) G rfl (z_dec T_X11_longest_ok 27 (54, .goto (-49), 3) rfl) ?_
          refine zx_sub (lv' := [(0, .ref (0)), (1, .int (v1)), (2, .int (v2)), (3, .int (v3)), (4, .int (v4 + 1))]) [2, 3, 4, 5, 0] rfl ?_
          exact hP5 _ _ _ _ _ h f_l0
        · replace h := z_pos hc h
          refine zx_iload_n (pc := 35) G 4 rfl rfl (z_dec T_X11_longest_ok 17 (35, .iload_n 3, 1) rfl) ?_
          refine zx_aload (pc := 36) G (some (o3)) 0 rfl (z_dec T_X11_longest_ok 18 (36, .aload 5, 2) rfl) ?_
          refine zx_getF (pc := 38) (b := o3 + 1) G gf_RX11_166 rfl (hfr2 o3 rfl) (zq_1_3 hI (hfr2 o3 rfl)) (z_dec T_X11_longest_ok 19 (38, .getfield 166, 3) rfl) ?_
          refine zx_iload_n (pc := 41) G 2 rfl rfl (z_dec T_X11_longest_ok 20 (41, .iload_n 1, 1) rfl) ?_
          refine zx_iload_n (pc := 42) G 3 rfl rfl (z_dec T_X11_longest_ok 21 (42, .iload_n 2, 1) rfl) ?_
          refine zx_callS_iN (pc := 43) (rm := rm_X11_spot) G cw_RX11_168 ⟨Nat.le_of_ble_eq_true rfl, Nat.le_of_ble_eq_true rfl⟩ rfl rfl ⟨Nat.zero_le _, Nat.zero_le _⟩ (fun sz => (met_X11_spot l D ρ kd q μ1 sz v1 v2 _ hI h)) rfl rfl (Nat.le_of_ble_eq_true rfl) (z_dec T_X11_longest_ok 22 (43, .invokestatic 168, 3) rfl) (fun r5 μ4 hn => ?_)
          clear h
          have h := hn
          clear hn
          obtain ⟨c6, h⟩ := h
          refine zx_iald (pc := 46) G (zk_1_3 hI (hfr2 o3 rfl)) c6 (z_dec T_X11_longest_ok 23 (46, .iaload, 1) rfl) ?_
          refine zx_mmax (pc := 47) G wm_RX11_464 ⟨Nat.le_of_ble_eq_true rfl, Nat.le_of_ble_eq_true rfl, Nat.zero_le _, Nat.zero_le _⟩ (z_dec T_X11_longest_ok 24 (47, .invokestatic 464, 3) rfl) ?_
          refine zx_istore_n (pc := 50) (lv' := [(3, .int (z_max v3 (μ4.1 (o3 + 1) r5.toNatClampNeg))), (5, .ref (o3)), (0, .ref (0)), (1, .int (v1)), (2, .int (v2)), (4, .int (v4))]) G rfl (Nat.le_of_ble_eq_true rfl) rfl (z_dec T_X11_longest_ok 25 (50, .istore_n 3, 1) rfl) ?_
          refine zx_iinc (pc := 51) (v := v4 + 1) (lv' := [(4, .int (v4 + 1)), (3, .int (z_max v3 (μ4.1 (o3 + 1) r5.toNatClampNeg))), (5, .ref (o3)), (0, .ref (0)), (1, .int (v1)), (2, .int (v2))]) G 5 rfl (z_inc (by decide)) (Nat.le_of_ble_eq_true rfl) rfl (z_dec T_X11_longest_ok 26 (51, .iinc 4 1, 3) rfl) ?_
          refine zx_goto (pc := 54) (tgt := 5) G rfl (z_dec T_X11_longest_ok 27 (54, .goto (-49), 3) rfl) ?_
          refine zx_sub (lv' := [(0, .ref (0)), (1, .int (v1)), (2, .int (v2)), (3, .int (z_max v3 (μ4.1 (o3 + 1) r5.toNatClampNeg))), (4, .int (v4 + 1))]) [3, 4, 5, 1, 0] rfl ?_
          exact hP5 _ _ _ _ _ h f_l0
set_option maxRecDepth 100000 in
set_option maxHeartbeats 4000000 in
theorem L_X11_longest_5_ok {p : Program} {l : Launch} {e : Env} {s : State} {m : MethodId} {args : Array Value} {below : List Frame} {meth : Method} {c : Code} {D : va_G} {A : Nat → Prop} {ρ : z_A} {kd : z_K} {q : z_Q} {μ : z_M} {K : Int32 → z_M → Prop} {v1 : Int32} {v2 : Int32} {v3 : Int32} {v4 : Int32} (G : z_G p c cX11_longest s m args RX11 6 D) (hr : meth.sig.returnType = (Option.some Jvm.ClassFile.FieldType.int)) (hlk : meth.locks = false) (hI : z_I kd q) (f_l0 : kd 0 = some (.inl 11)) (h : L_X11_longest_5 kd q K v1 v2 v3 v4 μ) : z_X p l e rm_X11_longest s m args below meth c 6 D A (MQ below (z_Qn D A ρ kd (z_Ki q K)) args s 0 0 A) 0 0 ρ kd q μ 5 [(0, .ref (0)), (1, .int (v1)), (2, .int (v2)), (3, .int (v3)), (4, .int (v4))] [] :=
  h (fun (v1 : Int32) (v2 : Int32) (v3 : Int32) (v4 : Int32) (μ : z_M) => (kd 0 = some (.inl 11)) → z_X p l e rm_X11_longest s m args below meth c 6 D A (MQ below (z_Qn D A ρ kd (z_Ki q K)) args s 0 0 A) 0 0 ρ kd q μ 5 [(0, .ref (0)), (1, .int (v1)), (2, .int (v2)), (3, .int (v3)), (4, .int (v4))] []) (fun v1 v2 v3 v4 μ h f_l0 => B_X11_longest_5_ok G hr hlk (fun _ _ _ _ _ h => h) hI f_l0 h) f_l0
set_option maxRecDepth 100000 in
set_option maxHeartbeats 4000000 in
theorem met_X11_longest (l : Launch) (D : va_G) (ρ : z_A) (kd : z_K) (q : z_Q) (μ : z_M) (sz : Nat) (a1 : Int32) (a2 : Int32) (K : Int32 → z_M → Prop) (hI : z_I kd q) (h_o : kd 0 = some (.inl 11)) (h : C_X11_longest kd q a1 a2 μ K) : Met l yX11_longest (z_ws yX11_longest cX11_longest 6 (Option.some Jvm.ClassFile.FieldType.int)) rm_X11_longest (z_Pc D ρ kd q μ sz [.ref (0), .int (a1), .int (a2)]) (z_Qn D (z_Rg ρ sz) ρ kd (z_Ki q K)) 0 0 (z_Rg ρ sz) := by
  refine z_met (rm := rm_X11_longest) (by decide) (Nat.le_of_ble_eq_true rfl) (fun p e s m args below meth c G hr hlk => ?_)
  unfold C_X11_longest at h
  show z_X _ _ _ _ _ _ _ _ _ _ _ _ _ _ _ _ _ _ _ _ _ [(0, .ref (0)), (1, .int (a1)), (2, .int (a2))] _
  refine zx_iconst (pc := 0) (v := -1) G (z_dec T_X11_longest_ok 0 (0, .iconst (-1), 1) rfl) rfl ?_
  refine zx_istore_n (pc := 1) (lv' := [(3, .int ((-1 : Int32))), (0, .ref (0)), (1, .int (a1)), (2, .int (a2))]) G rfl (Nat.le_of_ble_eq_true rfl) rfl (z_dec T_X11_longest_ok 1 (1, .istore_n 3, 1) rfl) ?_
  refine zx_iconst (pc := 2) (v := 0) G (z_dec T_X11_longest_ok 2 (2, .iconst 0, 1) rfl) rfl ?_
  refine zx_istore (pc := 3) (lv' := [(4, .int ((0 : Int32))), (3, .int ((-1 : Int32))), (0, .ref (0)), (1, .int (a1)), (2, .int (a2))]) G (Nat.le_of_ble_eq_true rfl) rfl (z_dec T_X11_longest_ok 3 (3, .istore 4, 2) rfl) ?_
  refine zx_sub (lv' := [(0, .ref (0)), (1, .int (a1)), (2, .int (a2)), (3, .int ((-1 : Int32))), (4, .int ((0 : Int32)))]) [2, 3, 4, 1, 0] rfl ?_
  exact L_X11_longest_5_ok G hr hlk hI h_o h
abbrev rm_X11_raceAt : Room := { frames := 0, cells := 0, slots := 0, locals := 0 }
set_option maxRecDepth 100000 in
set_option maxHeartbeats 4000000 in
theorem met_X11_raceAt (l : Launch) (D : va_G) (ρ : z_A) (kd : z_K) (q : z_Q) (μ : z_M) (sz : Nat) (a1 : Int32) (K : Option Nat → z_M → Prop) (hI : z_I kd q) (h_o : kd 0 = some (.inl 11)) (h : C_X11_raceAt kd q a1 μ K) : Met l yX11_raceAt (z_ws yX11_raceAt cX11_raceAt 2 (Option.some (Jvm.ClassFile.FieldType.object "SlateRing$Race"))) rm_X11_raceAt (z_Pc D ρ kd q μ sz [.ref (0), .int (a1)]) (z_Qn D (z_Rg ρ sz) ρ kd (z_Kr kd 6 q K)) 0 0 (z_Rg ρ sz) := by
  refine z_met (rm := rm_X11_raceAt) (by decide) (Nat.le_of_ble_eq_true rfl) (fun p e s m args below meth c G hr hlk => ?_)
  unfold C_X11_raceAt at h
  show z_X _ _ _ _ _ _ _ _ _ _ _ _ _ _ _ _ _ _ _ _ _ [(0, .ref (0)), (1, .int (a1))] _
  refine zx_iload_n (pc := 0) G 1 rfl rfl (z_dec T_X11_raceAt_ok 0 (0, .iload_n 1, 1) rfl) ?_
  refine zx_if_lt (pc := 1) (tgt := 21) G rfl (z_dec T_X11_raceAt_ok 1 (1, .ifCond .lt 20, 3) rfl) (fun hc => ?_) (fun hc => ?_)
  · replace h := z_pos hc h
    refine zx_null (pc := 21) G  (z_dec T_X11_raceAt_ok 11 (21, .aconst_null, 1) rfl) ?_
    exact zx_aret (pc := 22) G (none) hr (Or.inl ⟨_, rfl⟩) hlk (Nat.le_refl _) (Nat.le_refl _) (z_dec T_X11_raceAt_ok 12 (22, .areturn, 1) rfl) ⟨rfl, _, rfl, (fun a h => by cases h), h⟩
  · replace h := z_neg hc h
    refine zx_iload_n (pc := 4) G 1 rfl rfl (z_dec T_X11_raceAt_ok 2 (4, .iload_n 1, 1) rfl) ?_
    refine zx_aload_n (pc := 5) G (some (0)) 0 rfl rfl (z_dec T_X11_raceAt_ok 3 (5, .aload_n 0, 1) rfl) ?_
    refine zx_getI (pc := 6) G gf_RX11_95 rfl h_o (z_dec T_X11_raceAt_ok 4 (6, .getfield 95, 3) rfl) ?_
    refine zx_icmp_ge (pc := 9) (tgt := 21) G rfl (z_dec T_X11_raceAt_ok 5 (9, .if_icmp .ge 12, 3) rfl) (fun hc => ?_) (fun hc => ?_)
    · replace h := z_pos hc h
      refine zx_null (pc := 21) G  (z_dec T_X11_raceAt_ok 11 (21, .aconst_null, 1) rfl) ?_
      exact zx_aret (pc := 22) G (none) hr (Or.inl ⟨_, rfl⟩) hlk (Nat.le_refl _) (Nat.le_refl _) (z_dec T_X11_raceAt_ok 12 (22, .areturn, 1) rfl) ⟨rfl, _, rfl, (fun a h => by cases h), h⟩
    · replace h := z_neg hc h
      refine zx_aload_n (pc := 12) G (some (0)) 0 rfl rfl (z_dec T_X11_raceAt_ok 6 (12, .aload_n 0, 1) rfl) ?_
      refine zx_getF (pc := 13) (b := 6) G gf_RX11_25 rfl h_o (zq_11_2 hI h_o) (z_dec T_X11_raceAt_ok 7 (13, .getfield 25, 3) rfl) ?_
      refine zx_iload_n (pc := 16) G 1 rfl rfl (z_dec T_X11_raceAt_ok 8 (16, .iload_n 1, 1) rfl) ?_
      obtain ⟨c1, h⟩ := h
      have hh := z_el hI (zk_11_2 hI h_o) (z_inlt c1)
      refine zx_aald (pc := 17) (t := 6) G (zk_11_2 hI h_o) c1 (z_dec T_X11_raceAt_ok 9 (17, .aaload, 1) rfl) ?_
      generalize ew2 : q 6 a1.toNatClampNeg = w2 at hh ⊢
      have fw2 := hh
      replace h := h w2 ew2.symm
      refine zx_goto (pc := 18) (tgt := 22) G rfl (z_dec T_X11_raceAt_ok 10 (18, .goto 4, 3) rfl) ?_
      exact zx_aret (pc := 22) G (w2) hr (Or.inl ⟨_, rfl⟩) hlk (Nat.le_refl _) (Nat.le_refl _) (z_dec T_X11_raceAt_ok 12 (22, .areturn, 1) rfl) ⟨rfl, _, rfl, fw2, h⟩
abbrev rm_X11_isSureNow : Room := { frames := 3, cells := 0, slots := 0, locals := 63 }
set_option maxRecDepth 100000 in
set_option maxHeartbeats 4000000 in
theorem B_X11_isSureNow_28_ok {p : Program} {l : Launch} {e : Env} {s : State} {m : MethodId} {args : Array Value} {below : List Frame} {meth : Method} {c : Code} {D : va_G} {A : Nat → Prop} {ρ : z_A} {kd : z_K} {q : z_Q} {μ : z_M} {K : Int32 → z_M → Prop} {P28 : Int32 → Nat → Int32 → z_M → Prop} {v1 : Int32} {v2 : Nat} {v3 : Int32} (G : z_G p c cX11_isSureNow s m args RX11 5 D) (hr : meth.sig.returnType = (Option.some Jvm.ClassFile.FieldType.boolean)) (hlk : meth.locks = false) (hP28 : ∀ (v1 : Int32) (v2 : Nat) (v3 : Int32) (μ : z_M), P28 v1 v2 v3 μ → (kd 0 = some (.inl 11)) → (kd v2 = some (.inl 6)) → z_X p l e rm_X11_isSureNow s m args below meth c 5 D A (MQ below (z_Qn D A ρ kd (z_Kz q K)) args s 0 0 A) 0 0 ρ kd q μ 28 [(0, .ref (0)), (1, .int (v1)), (2, .ref (v2)), (3, .int (v3))] []) (hI : z_I kd q) (f_l0 : kd 0 = some (.inl 11)) (f_l2 : kd v2 = some (.inl 6)) (h : B_X11_isSureNow_28 kd q K P28 v1 v2 v3 μ) : z_X p l e rm_X11_isSureNow s m args below meth c 5 D A (MQ below (z_Qn D A ρ kd (z_Kz q K)) args s 0 0 A) 0 0 ρ kd q μ 28 [(0, .ref (0)), (1, .int (v1)), (2, .ref (v2)), (3, .int (v3))] [] := by
    unfold B_X11_isSureNow_28 at h
    refine zx_iload_n (pc := 28) G 3 rfl rfl (z_dec T_X11_isSureNow_ok 16 (28, .iload_n 3, 1) rfl) ?_
    refine zx_aload_n (pc := 29) G (some (v2)) 2 rfl rfl (z_dec T_X11_isSureNow_ok 17 (29, .aload_n 2, 1) rfl) ?_
    refine zx_getI (pc := 30) G gf_RX11_297 rfl f_l2 (z_dec T_X11_isSureNow_ok 18 (30, .getfield 297, 3) rfl) ?_
    refine zx_icmp_ge (pc := 33) (tgt := 91) G rfl (z_dec T_X11_isSureNow_ok 19 (33, .if_icmp .ge 58, 3) rfl) (fun hc => ?_) (fun hc => ?_)
    · replace h := z_pos hc h
      refine zx_aload_n (pc := 91) G (some (0)) 0 rfl rfl (z_dec T_X11_isSureNow_ok 47 (91, .aload_n 0, 1) rfl) ?_
      refine zx_getF (pc := 92) (b := 11) G gf_RX11_62 rfl f_l0 (zq_11_7 hI f_l0) (z_dec T_X11_isSureNow_ok 48 (92, .getfield 62, 3) rfl) ?_
      refine zx_getL (pc := 95) G gf_RX11_252 rfl (zk_11_7 hI f_l0) (z_dec T_X11_isSureNow_ok 49 (95, .getfield 252, 3) rfl) ?_
      refine zx_aload_n (pc := 98) G (some (0)) 0 rfl rfl (z_dec T_X11_isSureNow_ok 50 (98, .aload_n 0, 1) rfl) ?_
      refine zx_getF (pc := 99) (b := 11) G gf_RX11_62 rfl f_l0 (zq_11_7 hI f_l0) (z_dec T_X11_isSureNow_ok 51 (99, .getfield 62, 3) rfl) ?_
      refine zx_getL (pc := 102) G gf_RX11_256 rfl (zk_11_7 hI f_l0) (z_dec T_X11_isSureNow_ok 52 (102, .getfield 256, 3) rfl) ?_
      refine zx_lcmp_ge (pc := 105) (tgt := 113) G rfl (z_dec T_X11_isSureNow_ok 53 (105, .lcmp, 1) rfl) (z_dec T_X11_isSureNow_ok 54 (106, .ifCond .ge 7, 3) rfl) (fun hc => ?_) (fun hc => ?_)
      · replace h := z_pos hc h
        refine zx_iconst (pc := 113) (v := 0) G (z_dec T_X11_isSureNow_ok 57 (113, .iconst 0, 1) rfl) rfl ?_
        exact zx_zret (pc := 114) G hr hlk (Nat.le_refl _) (Nat.le_refl _) (Or.inl rfl) (z_dec T_X11_isSureNow_ok 58 (114, .ireturn, 1) rfl) ⟨rfl, _, rfl, (Or.inl rfl), h⟩
      · replace h := z_neg hc h
        refine zx_iconst (pc := 109) (v := 1) G (z_dec T_X11_isSureNow_ok 55 (109, .iconst 1, 1) rfl) rfl ?_
        refine zx_goto (pc := 110) (tgt := 114) G rfl (z_dec T_X11_isSureNow_ok 56 (110, .goto 4, 3) rfl) ?_
        exact zx_zret (pc := 114) G hr hlk (Nat.le_refl _) (Nat.le_refl _) (Or.inr rfl) (z_dec T_X11_isSureNow_ok 58 (114, .ireturn, 1) rfl) ⟨rfl, _, rfl, (Or.inr rfl), h⟩
    · replace h := z_neg hc h
      refine zx_aload_n (pc := 36) G (some (v2)) 2 rfl rfl (z_dec T_X11_isSureNow_ok 20 (36, .aload_n 2, 1) rfl) ?_
      refine zx_iload_n (pc := 37) G 3 rfl rfl (z_dec T_X11_isSureNow_ok 21 (37, .iload_n 3, 1) rfl) ?_
      refine zx_callV_zN (pc := 38) (rm := rm_X6_runs) G cw_RX11_156 ⟨Nat.le_of_ble_eq_true rfl, Nat.le_of_ble_eq_true rfl⟩ rfl rfl ⟨Nat.zero_le _, Nat.zero_le _⟩ f_l2 rfl (fun sz => (met_X6_runs l D ρ kd q μ sz v2 v3 _ hI f_l2 h)) rfl rfl (Nat.le_of_ble_eq_true rfl) (z_dec T_X11_isSureNow_ok 22 (38, .invokevirtual 156, 3) rfl) (fun r2 μ1 hzr2 hn => ?_)
      clear h
      have h := hn
      clear hn
      refine zx_if_eq (pc := 41) (tgt := 85) G rfl (z_dec T_X11_isSureNow_ok 23 (41, .ifCond .eq 44, 3) rfl) (fun hc => ?_) (fun hc => ?_)
      · replace h := z_pos hc h
        refine zx_iinc (pc := 85) (v := v3 + 1) (lv' := [(3, .int (v3 + 1)), (0, .ref (0)), (1, .int (v1)), (2, .ref (v2))]) G 3 rfl (z_inc (by decide)) (Nat.le_of_ble_eq_true rfl) rfl (z_dec T_X11_isSureNow_ok 45 (85, .iinc 3 1, 3) rfl) ?_
        refine zx_goto (pc := 88) (tgt := 28) G rfl (z_dec T_X11_isSureNow_ok 46 (88, .goto (-60), 3) rfl) ?_
        refine zx_sub (lv' := [(0, .ref (0)), (1, .int (v1)), (2, .ref (v2)), (3, .int (v3 + 1))]) [1, 2, 3, 0] rfl ?_
        exact hP28 _ _ _ _ h f_l0 f_l2
      · replace h := z_neg hc h
        refine zx_aload_n (pc := 44) G (some (0)) 0 rfl rfl (z_dec T_X11_isSureNow_ok 24 (44, .aload_n 0, 1) rfl) ?_
        refine zx_iload_n (pc := 45) G 1 rfl rfl (z_dec T_X11_isSureNow_ok 25 (45, .iload_n 1, 1) rfl) ?_
        refine zx_iload_n (pc := 46) G 3 rfl rfl (z_dec T_X11_isSureNow_ok 26 (46, .iload_n 3, 1) rfl) ?_
        refine zx_callV_iN (pc := 47) (rm := rm_X11_longest) G cw_RX11_300 ⟨Nat.le_of_ble_eq_true rfl, Nat.le_of_ble_eq_true rfl⟩ rfl rfl ⟨Nat.zero_le _, Nat.zero_le _⟩ f_l0 rfl (fun sz => (met_X11_longest l D ρ kd q μ1 sz v1 v3 _ hI f_l0 h)) rfl rfl (Nat.le_of_ble_eq_true rfl) (z_dec T_X11_isSureNow_ok 27 (47, .invokevirtual 300, 3) rfl) (fun r4 μ3 hn => ?_)
        clear h
        have h := hn
        clear hn
        refine zx_istore (pc := 50) (lv' := [(4, .int (r4)), (0, .ref (0)), (1, .int (v1)), (2, .ref (v2)), (3, .int (v3))]) G (Nat.le_of_ble_eq_true rfl) rfl (z_dec T_X11_isSureNow_ok 28 (50, .istore 4, 2) rfl) ?_
        refine zx_iload (pc := 52) G 0 rfl (z_dec T_X11_isSureNow_ok 29 (52, .iload 4, 2) rfl) ?_
        refine zx_iconst (pc := 54) (v := -1) G (z_dec T_X11_isSureNow_ok 30 (54, .iconst (-1), 1) rfl) rfl ?_
        refine zx_icmp_ne (pc := 55) (tgt := 60) G rfl (z_dec T_X11_isSureNow_ok 31 (55, .if_icmp .ne 5, 3) rfl) (fun hc => ?_) (fun hc => ?_)
        · replace h := z_neg hc h
          refine zx_aload_n (pc := 60) G (some (0)) 1 rfl rfl (z_dec T_X11_isSureNow_ok 34 (60, .aload_n 0, 1) rfl) ?_
          refine zx_getF (pc := 61) (b := 11) G gf_RX11_62 rfl f_l0 (zq_11_7 hI f_l0) (z_dec T_X11_isSureNow_ok 35 (61, .getfield 62, 3) rfl) ?_
          refine zx_aload_n (pc := 64) G (some (0)) 1 rfl rfl (z_dec T_X11_isSureNow_ok 36 (64, .aload_n 0, 1) rfl) ?_
          refine zx_getF (pc := 65) (b := 3) G gf_RX11_19 rfl f_l0 (zq_11_1 hI f_l0) (z_dec T_X11_isSureNow_ok 37 (65, .getfield 19, 3) rfl) ?_
          refine zx_iload (pc := 68) G 0 rfl (z_dec T_X11_isSureNow_ok 38 (68, .iload 4, 2) rfl) ?_
          refine zx_callV_iN (pc := 70) (rm := rm_X3_bOf) G cw_RX11_306 ⟨Nat.le_of_ble_eq_true rfl, Nat.le_of_ble_eq_true rfl⟩ rfl rfl ⟨Nat.zero_le _, Nat.zero_le _⟩ (zk_11_1 hI f_l0) rfl (fun sz => (met_X3_bOf l D ρ kd q μ3 sz 3 r4 _ hI (zk_11_1 hI f_l0) h)) rfl rfl (Nat.le_of_ble_eq_true rfl) (z_dec T_X11_isSureNow_ok 39 (70, .invokevirtual 306, 3) rfl) (fun r6 μ5 hn => ?_)
          clear h
          have h := hn
          clear hn
          refine zx_aload_n (pc := 73) G (some (0)) 1 rfl rfl (z_dec T_X11_isSureNow_ok 40 (73, .aload_n 0, 1) rfl) ?_
          refine zx_getF (pc := 74) (b := 3) G gf_RX11_19 rfl f_l0 (zq_11_1 hI f_l0) (z_dec T_X11_isSureNow_ok 41 (74, .getfield 19, 3) rfl) ?_
          refine zx_iload (pc := 77) G 0 rfl (z_dec T_X11_isSureNow_ok 42 (77, .iload 4, 2) rfl) ?_
          refine zx_callV_iN (pc := 79) (rm := rm_X3_wholeOf) G cw_RX11_481 ⟨Nat.le_of_ble_eq_true rfl, Nat.le_of_ble_eq_true rfl⟩ rfl rfl ⟨Nat.zero_le _, Nat.zero_le _⟩ (zk_11_1 hI f_l0) rfl (fun sz => (met_X3_wholeOf l D ρ kd q μ5 sz 3 r4 _ hI (zk_11_1 hI f_l0) h)) rfl rfl (Nat.le_of_ble_eq_true rfl) (z_dec T_X11_isSureNow_ok 43 (79, .invokevirtual 481, 3) rfl) (fun r8 μ7 hn => ?_)
          clear h
          have h := hn
          clear hn
          refine zx_callV_vN (pc := 82) (rm := rm_X9_add) G cw_RX11_487 ⟨Nat.le_of_ble_eq_true rfl, Nat.le_of_ble_eq_true rfl⟩ rfl rfl ⟨Nat.zero_le _, Nat.zero_le _⟩ (zk_11_7 hI f_l0) rfl (fun sz => (met_X9_add l D ρ kd q μ7 sz r6 r8 _ hI (zk_11_7 hI f_l0) h)) rfl rfl (Nat.le_of_ble_eq_true rfl) (z_dec T_X11_isSureNow_ok 44 (82, .invokevirtual 487, 3) rfl) (fun μ9 hn => ?_)
          clear h
          have h := hn
          clear hn
          refine zx_iinc (pc := 85) (v := v3 + 1) (lv' := [(3, .int (v3 + 1)), (4, .int (r4)), (0, .ref (0)), (1, .int (v1)), (2, .ref (v2))]) G 4 rfl (z_inc (by decide)) (Nat.le_of_ble_eq_true rfl) rfl (z_dec T_X11_isSureNow_ok 45 (85, .iinc 3 1, 3) rfl) ?_
          refine zx_goto (pc := 88) (tgt := 28) G rfl (z_dec T_X11_isSureNow_ok 46 (88, .goto (-60), 3) rfl) ?_
          refine zx_sub (lv' := [(0, .ref (0)), (1, .int (v1)), (2, .ref (v2)), (3, .int (v3 + 1))]) [2, 3, 4, 0] rfl ?_
          exact hP28 _ _ _ _ h f_l0 f_l2
        · replace h := z_pos hc h
          refine zx_iconst (pc := 58) (v := 0) G (z_dec T_X11_isSureNow_ok 32 (58, .iconst 0, 1) rfl) rfl ?_
          exact zx_zret (pc := 59) G hr hlk (Nat.le_refl _) (Nat.le_refl _) (Or.inl rfl) (z_dec T_X11_isSureNow_ok 33 (59, .ireturn, 1) rfl) ⟨rfl, _, rfl, (Or.inl rfl), h⟩
set_option maxRecDepth 100000 in
set_option maxHeartbeats 4000000 in
theorem L_X11_isSureNow_28_ok {p : Program} {l : Launch} {e : Env} {s : State} {m : MethodId} {args : Array Value} {below : List Frame} {meth : Method} {c : Code} {D : va_G} {A : Nat → Prop} {ρ : z_A} {kd : z_K} {q : z_Q} {μ : z_M} {K : Int32 → z_M → Prop} {v1 : Int32} {v2 : Nat} {v3 : Int32} (G : z_G p c cX11_isSureNow s m args RX11 5 D) (hr : meth.sig.returnType = (Option.some Jvm.ClassFile.FieldType.boolean)) (hlk : meth.locks = false) (hI : z_I kd q) (f_l0 : kd 0 = some (.inl 11)) (f_l2 : kd v2 = some (.inl 6)) (h : L_X11_isSureNow_28 kd q K v1 v2 v3 μ) : z_X p l e rm_X11_isSureNow s m args below meth c 5 D A (MQ below (z_Qn D A ρ kd (z_Kz q K)) args s 0 0 A) 0 0 ρ kd q μ 28 [(0, .ref (0)), (1, .int (v1)), (2, .ref (v2)), (3, .int (v3))] [] :=
  h (fun (v1 : Int32) (v2 : Nat) (v3 : Int32) (μ : z_M) => (kd 0 = some (.inl 11)) → (kd v2 = some (.inl 6)) → z_X p l e rm_X11_isSureNow s m args below meth c 5 D A (MQ below (z_Qn D A ρ kd (z_Kz q K)) args s 0 0 A) 0 0 ρ kd q μ 28 [(0, .ref (0)), (1, .int (v1)), (2, .ref (v2)), (3, .int (v3))] []) (fun v1 v2 v3 μ h f_l0 f_l2 => B_X11_isSureNow_28_ok G hr hlk (fun _ _ _ _ h => h) hI f_l0 f_l2 h) f_l0 f_l2
set_option maxRecDepth 100000 in
set_option maxHeartbeats 4000000 in
theorem met_X11_isSureNow (l : Launch) (D : va_G) (ρ : z_A) (kd : z_K) (q : z_Q) (μ : z_M) (sz : Nat) (a1 : Int32) (K : Int32 → z_M → Prop) (hI : z_I kd q) (h_o : kd 0 = some (.inl 11)) (h : C_X11_isSureNow kd q a1 μ K) : Met l yX11_isSureNow (z_ws yX11_isSureNow cX11_isSureNow 5 (Option.some Jvm.ClassFile.FieldType.boolean)) rm_X11_isSureNow (z_Pc D ρ kd q μ sz [.ref (0), .int (a1)]) (z_Qn D (z_Rg ρ sz) ρ kd (z_Kz q K)) 0 0 (z_Rg ρ sz) := by
  refine z_met (rm := rm_X11_isSureNow) (by decide) (Nat.le_of_ble_eq_true rfl) (fun p e s m args below meth c G hr hlk => ?_)
  unfold C_X11_isSureNow at h
  show z_X _ _ _ _ _ _ _ _ _ _ _ _ _ _ _ _ _ _ _ _ _ [(0, .ref (0)), (1, .int (a1))] _
  refine zx_aload_n (pc := 0) G (some (0)) 0 rfl rfl (z_dec T_X11_isSureNow_ok 0 (0, .aload_n 0, 1) rfl) ?_
  refine zx_iload_n (pc := 1) G 1 rfl rfl (z_dec T_X11_isSureNow_ok 1 (1, .iload_n 1, 1) rfl) ?_
  refine zx_callV_rN (pc := 2) (rm := rm_X11_raceAt) G cw_RX11_98 ⟨Nat.le_of_ble_eq_true rfl, Nat.le_of_ble_eq_true rfl⟩ rfl rfl ⟨Nat.zero_le _, Nat.zero_le _⟩ h_o rfl (fun sz => (met_X11_raceAt l D ρ kd q μ sz a1 _ hI h_o h)) rfl rfl (Nat.le_of_ble_eq_true rfl) (z_dec T_X11_isSureNow_ok 2 (2, .invokevirtual 98, 3) rfl) (fun r2 μ1 hfr2 hn => ?_)
  clear h
  have h := hn
  clear hn
  refine zx_astore_n (pc := 5) (lv' := [(2, va_rf (r2)), (0, .ref (0)), (1, .int (a1))]) G (r2) rfl (Nat.le_of_ble_eq_true rfl) rfl (z_dec T_X11_isSureNow_ok 3 (5, .astore_n 2, 1) rfl) ?_
  refine zx_aload_n (pc := 6) G (r2) 0 rfl rfl (z_dec T_X11_isSureNow_ok 4 (6, .aload_n 2, 1) rfl) ?_
  obtain ⟨h1, h2⟩ := h
  rcases r2 with _ | o3
  · replace h := h1 rfl
    refine zx_ifnullN (pc := 7) (tgt := 17) G rfl (z_dec T_X11_isSureNow_ok 5 (7, .ifnull 10, 3) rfl) ?_
    refine zx_iconst (pc := 17) (v := 0) G (z_dec T_X11_isSureNow_ok 9 (17, .iconst 0, 1) rfl) rfl ?_
    exact zx_zret (pc := 18) G hr hlk (Nat.le_refl _) (Nat.le_refl _) (Or.inl rfl) (z_dec T_X11_isSureNow_ok 10 (18, .ireturn, 1) rfl) ⟨rfl, _, rfl, (Or.inl rfl), h⟩
  · replace h := h2 o3 rfl
    refine zx_ifnullS (pc := 7) G (hfr2 o3 rfl) (z_dec T_X11_isSureNow_ok 5 (7, .ifnull 10, 3) rfl) ?_
    refine zx_aload_n (pc := 10) G (some (o3)) 0 rfl rfl (z_dec T_X11_isSureNow_ok 6 (10, .aload_n 2, 1) rfl) ?_
    refine zx_getZ (pc := 11) G gf_RX11_159 rfl (hfr2 o3 rfl) (z_dec T_X11_isSureNow_ok 7 (11, .getfield 159, 3) rfl) ?_
    refine zx_if_eq (pc := 14) (tgt := 19) G rfl (z_dec T_X11_isSureNow_ok 8 (14, .ifCond .eq 5, 3) rfl) (fun hc => ?_) (fun hc => ?_)
    · replace h := z_pos hc h
      refine zx_aload_n (pc := 19) G (some (0)) 1 rfl rfl (z_dec T_X11_isSureNow_ok 11 (19, .aload_n 0, 1) rfl) ?_
      refine zx_getF (pc := 20) (b := 11) G gf_RX11_62 rfl h_o (zq_11_7 hI h_o) (z_dec T_X11_isSureNow_ok 12 (20, .getfield 62, 3) rfl) ?_
      refine zx_callV_vN (pc := 23) (rm := rm_X9_clear) G cw_RX11_486 ⟨Nat.le_of_ble_eq_true rfl, Nat.le_of_ble_eq_true rfl⟩ rfl rfl ⟨Nat.zero_le _, Nat.zero_le _⟩ (zk_11_7 hI h_o) rfl (fun sz => (met_X9_clear l D ρ kd q μ1 sz  _ hI (zk_11_7 hI h_o) h)) rfl rfl (Nat.le_of_ble_eq_true rfl) (z_dec T_X11_isSureNow_ok 13 (23, .invokevirtual 486, 3) rfl) (fun μ4 hn => ?_)
      clear h
      have h := hn
      clear hn
      refine zx_iconst (pc := 26) (v := 0) G (z_dec T_X11_isSureNow_ok 14 (26, .iconst 0, 1) rfl) rfl ?_
      refine zx_istore_n (pc := 27) (lv' := [(3, .int ((0 : Int32))), (2, .ref (o3)), (0, .ref (0)), (1, .int (a1))]) G rfl (Nat.le_of_ble_eq_true rfl) rfl (z_dec T_X11_isSureNow_ok 15 (27, .istore_n 3, 1) rfl) ?_
      refine zx_sub (lv' := [(0, .ref (0)), (1, .int (a1)), (2, .ref (o3)), (3, .int ((0 : Int32)))]) [2, 3, 1, 0] rfl ?_
      exact L_X11_isSureNow_28_ok G hr hlk hI h_o (hfr2 o3 rfl) h
    · replace h := z_neg hc h
      refine zx_iconst (pc := 17) (v := 0) G (z_dec T_X11_isSureNow_ok 9 (17, .iconst 0, 1) rfl) rfl ?_
      exact zx_zret (pc := 18) G hr hlk (Nat.le_refl _) (Nat.le_refl _) (Or.inl rfl) (z_dec T_X11_isSureNow_ok 10 (18, .ireturn, 1) rfl) ⟨rfl, _, rfl, (Or.inl rfl), h⟩
abbrev rm_X11_now : Room := { frames := 4, cells := 0, slots := 0, locals := 87 }
set_option maxRecDepth 100000 in
set_option maxHeartbeats 4000000 in
theorem B_X11_now_19_ok {p : Program} {l : Launch} {e : Env} {s : State} {m : MethodId} {args : Array Value} {below : List Frame} {meth : Method} {c : Code} {D : va_G} {A : Nat → Prop} {ρ : z_A} {kd : z_K} {q : z_Q} {μ : z_M} {K : Int32 → z_M → Prop} {P19 : Int32 → Int32 → z_M → Prop} {v1 : Int32} {v2 : Int32} (G : z_G p c cX11_now s m args RX11 4 D) (hr : meth.sig.returnType = (Option.some Jvm.ClassFile.FieldType.boolean)) (hlk : meth.locks = false) (hP19 : ∀ (v1 : Int32) (v2 : Int32) (μ : z_M), P19 v1 v2 μ → (kd 0 = some (.inl 11)) → z_X p l e rm_X11_now s m args below meth c 4 D A (MQ below (z_Qn D A ρ kd (z_Kz q K)) args s 0 0 A) 0 0 ρ kd q μ 19 [(0, .ref (0)), (1, .int (v1)), (2, .int (v2))] []) (hI : z_I kd q) (f_l0 : kd 0 = some (.inl 11)) (h : B_X11_now_19 kd q K P19 v1 v2 μ) : z_X p l e rm_X11_now s m args below meth c 4 D A (MQ below (z_Qn D A ρ kd (z_Kz q K)) args s 0 0 A) 0 0 ρ kd q μ 19 [(0, .ref (0)), (1, .int (v1)), (2, .int (v2))] [] := by
    unfold B_X11_now_19 at h
    refine zx_iload_n (pc := 19) G 2 rfl rfl (z_dec T_X11_now_ok 11 (19, .iload_n 2, 1) rfl) ?_
    refine zx_aload_n (pc := 20) G (some (0)) 0 rfl rfl (z_dec T_X11_now_ok 12 (20, .aload_n 0, 1) rfl) ?_
    refine zx_getI (pc := 21) G gf_RX11_95 rfl f_l0 (z_dec T_X11_now_ok 13 (21, .getfield 95, 3) rfl) ?_
    refine zx_icmp_ge (pc := 24) (tgt := 70) G rfl (z_dec T_X11_now_ok 14 (24, .if_icmp .ge 46, 3) rfl) (fun hc => ?_) (fun hc => ?_)
    · replace h := z_pos hc h
      refine zx_aload_n (pc := 70) G (some (0)) 0 rfl rfl (z_dec T_X11_now_ok 38 (70, .aload_n 0, 1) rfl) ?_
      refine zx_iload_n (pc := 71) G 1 rfl rfl (z_dec T_X11_now_ok 39 (71, .iload_n 1, 1) rfl) ?_
      refine zx_putI (pc := 72) G gf_RX11_91 cf_11 rfl rfl f_l0 (z_dec T_X11_now_ok 40 (72, .putfield 91, 3) rfl) ?_
      refine zx_iconst (pc := 75) (v := 1) G (z_dec T_X11_now_ok 41 (75, .iconst 1, 1) rfl) rfl ?_
      exact zx_zret (pc := 76) G hr hlk (Nat.le_refl _) (Nat.le_refl _) (Or.inr rfl) (z_dec T_X11_now_ok 42 (76, .ireturn, 1) rfl) ⟨rfl, _, rfl, (Or.inr rfl), h⟩
    · replace h := z_neg hc h
      refine zx_aload_n (pc := 27) G (some (0)) 0 rfl rfl (z_dec T_X11_now_ok 15 (27, .aload_n 0, 1) rfl) ?_
      refine zx_iload_n (pc := 28) G 2 rfl rfl (z_dec T_X11_now_ok 16 (28, .iload_n 2, 1) rfl) ?_
      refine zx_callV_rN (pc := 29) (rm := rm_X11_raceAt) G cw_RX11_98 ⟨Nat.le_of_ble_eq_true rfl, Nat.le_of_ble_eq_true rfl⟩ rfl rfl ⟨Nat.zero_le _, Nat.zero_le _⟩ f_l0 rfl (fun sz => (met_X11_raceAt l D ρ kd q μ sz v2 _ hI f_l0 h)) rfl rfl (Nat.le_of_ble_eq_true rfl) (z_dec T_X11_now_ok 17 (29, .invokevirtual 98, 3) rfl) (fun r2 μ1 hfr2 hn => ?_)
      clear h
      have h := hn
      clear hn
      refine zx_astore_n (pc := 32) (lv' := [(3, va_rf (r2)), (0, .ref (0)), (1, .int (v1)), (2, .int (v2))]) G (r2) rfl (Nat.le_of_ble_eq_true rfl) rfl (z_dec T_X11_now_ok 18 (32, .astore_n 3, 1) rfl) ?_
      refine zx_aload_n (pc := 33) G (r2) 0 rfl rfl (z_dec T_X11_now_ok 19 (33, .aload_n 3, 1) rfl) ?_
      obtain ⟨h1, h2⟩ := h
      rcases r2 with _ | o3
      · replace h := h1 rfl
        refine zx_ifnullN (pc := 34) (tgt := 64) G rfl (z_dec T_X11_now_ok 20 (34, .ifnull 30, 3) rfl) ?_
        refine zx_iinc (pc := 64) (v := v2 + 1) (lv' := [(2, .int (v2 + 1)), (3, va_rf (none)), (0, .ref (0)), (1, .int (v1))]) G 3 rfl (z_inc (by decide)) (Nat.le_of_ble_eq_true rfl) rfl (z_dec T_X11_now_ok 36 (64, .iinc 2 1, 3) rfl) ?_
        refine zx_goto (pc := 67) (tgt := 19) G rfl (z_dec T_X11_now_ok 37 (67, .goto (-48), 3) rfl) ?_
        refine zx_sub (lv' := [(0, .ref (0)), (1, .int (v1)), (2, .int (v2 + 1))]) [2, 3, 0] rfl ?_
        exact hP19 _ _ _ h f_l0
      · replace h := h2 o3 rfl
        refine zx_ifnullS (pc := 34) G (hfr2 o3 rfl) (z_dec T_X11_now_ok 20 (34, .ifnull 30, 3) rfl) ?_
        refine zx_iload_n (pc := 37) G 2 rfl rfl (z_dec T_X11_now_ok 21 (37, .iload_n 1, 1) rfl) ?_
        refine zx_aload_n (pc := 38) G (some (0)) 1 rfl rfl (z_dec T_X11_now_ok 22 (38, .aload_n 0, 1) rfl) ?_
        refine zx_getI (pc := 39) G gf_RX11_91 rfl f_l0 (z_dec T_X11_now_ok 23 (39, .getfield 91, 3) rfl) ?_
        refine zx_icmp_le (pc := 42) (tgt := 64) G rfl (z_dec T_X11_now_ok 24 (42, .if_icmp .le 22, 3) rfl) (fun hc => ?_) (fun hc => ?_)
        · replace h := z_pos hc h
          refine zx_iinc (pc := 64) (v := v2 + 1) (lv' := [(2, .int (v2 + 1)), (3, .ref (o3)), (0, .ref (0)), (1, .int (v1))]) G 3 rfl (z_inc (by decide)) (Nat.le_of_ble_eq_true rfl) rfl (z_dec T_X11_now_ok 36 (64, .iinc 2 1, 3) rfl) ?_
          refine zx_goto (pc := 67) (tgt := 19) G rfl (z_dec T_X11_now_ok 37 (67, .goto (-48), 3) rfl) ?_
          refine zx_sub (lv' := [(0, .ref (0)), (1, .int (v1)), (2, .int (v2 + 1))]) [2, 3, 0] rfl ?_
          exact hP19 _ _ _ h f_l0
        · replace h := z_neg hc h
          refine zx_aload_n (pc := 45) G (some (0)) 1 rfl rfl (z_dec T_X11_now_ok 25 (45, .aload_n 0, 1) rfl) ?_
          refine zx_iload_n (pc := 46) G 3 rfl rfl (z_dec T_X11_now_ok 26 (46, .iload_n 2, 1) rfl) ?_
          refine zx_callV_zN (pc := 47) (rm := rm_X11_isSureNow) G cw_RX11_102 ⟨Nat.le_of_ble_eq_true rfl, Nat.le_of_ble_eq_true rfl⟩ rfl rfl ⟨Nat.zero_le _, Nat.zero_le _⟩ f_l0 rfl (fun sz => (met_X11_isSureNow l D ρ kd q μ1 sz v2 _ hI f_l0 h)) rfl rfl (Nat.le_of_ble_eq_true rfl) (z_dec T_X11_now_ok 27 (47, .invokevirtual 102, 3) rfl) (fun r5 μ4 hzr5 hn => ?_)
          clear h
          have h := hn
          clear hn
          refine zx_if_eq (pc := 50) (tgt := 64) G rfl (z_dec T_X11_now_ok 28 (50, .ifCond .eq 14, 3) rfl) (fun hc => ?_) (fun hc => ?_)
          · replace h := z_pos hc h
            refine zx_iinc (pc := 64) (v := v2 + 1) (lv' := [(2, .int (v2 + 1)), (3, .ref (o3)), (0, .ref (0)), (1, .int (v1))]) G 3 rfl (z_inc (by decide)) (Nat.le_of_ble_eq_true rfl) rfl (z_dec T_X11_now_ok 36 (64, .iinc 2 1, 3) rfl) ?_
            refine zx_goto (pc := 67) (tgt := 19) G rfl (z_dec T_X11_now_ok 37 (67, .goto (-48), 3) rfl) ?_
            refine zx_sub (lv' := [(0, .ref (0)), (1, .int (v1)), (2, .int (v2 + 1))]) [2, 3, 0] rfl ?_
            exact hP19 _ _ _ h f_l0
          · replace h := z_neg hc h
            refine zx_aload_n (pc := 53) G (some (o3)) 0 rfl rfl (z_dec T_X11_now_ok 29 (53, .aload_n 3, 1) rfl) ?_
            refine zx_aload_n (pc := 54) G (some (0)) 1 rfl rfl (z_dec T_X11_now_ok 30 (54, .aload_n 0, 1) rfl) ?_
            refine zx_getI (pc := 55) G gf_RX11_91 rfl f_l0 (z_dec T_X11_now_ok 31 (55, .getfield 91, 3) rfl) ?_
            refine zx_iload_n (pc := 58) G 2 rfl rfl (z_dec T_X11_now_ok 32 (58, .iload_n 1, 1) rfl) ?_
            refine zx_iconst (pc := 59) (v := 1) G (z_dec T_X11_now_ok 33 (59, .iconst 1, 1) rfl) rfl ?_
            refine zx_isub (pc := 60) G  (z_dec T_X11_now_ok 34 (60, .isub, 1) rfl) ?_
            refine zx_callV_vN (pc := 61) (rm := rm_X6_endSure) G cw_RX11_106 ⟨Nat.le_of_ble_eq_true rfl, Nat.le_of_ble_eq_true rfl⟩ rfl rfl ⟨Nat.zero_le _, Nat.zero_le _⟩ (hfr2 o3 rfl) rfl (fun sz => (met_X6_endSure l D ρ kd q μ4 sz o3 (μ4.1 0 12) (v1 - ((1 : Int32))) _ hI (hfr2 o3 rfl) h)) rfl rfl (Nat.le_of_ble_eq_true rfl) (z_dec T_X11_now_ok 35 (61, .invokevirtual 106, 3) rfl) (fun μ6 hn => ?_)
            clear h
            have h := hn
            clear hn
            refine zx_iinc (pc := 64) (v := v2 + 1) (lv' := [(2, .int (v2 + 1)), (3, .ref (o3)), (0, .ref (0)), (1, .int (v1))]) G 3 rfl (z_inc (by decide)) (Nat.le_of_ble_eq_true rfl) rfl (z_dec T_X11_now_ok 36 (64, .iinc 2 1, 3) rfl) ?_
            refine zx_goto (pc := 67) (tgt := 19) G rfl (z_dec T_X11_now_ok 37 (67, .goto (-48), 3) rfl) ?_
            refine zx_sub (lv' := [(0, .ref (0)), (1, .int (v1)), (2, .int (v2 + 1))]) [2, 3, 0] rfl ?_
            exact hP19 _ _ _ h f_l0
set_option maxRecDepth 100000 in
set_option maxHeartbeats 4000000 in
theorem L_X11_now_19_ok {p : Program} {l : Launch} {e : Env} {s : State} {m : MethodId} {args : Array Value} {below : List Frame} {meth : Method} {c : Code} {D : va_G} {A : Nat → Prop} {ρ : z_A} {kd : z_K} {q : z_Q} {μ : z_M} {K : Int32 → z_M → Prop} {v1 : Int32} {v2 : Int32} (G : z_G p c cX11_now s m args RX11 4 D) (hr : meth.sig.returnType = (Option.some Jvm.ClassFile.FieldType.boolean)) (hlk : meth.locks = false) (hI : z_I kd q) (f_l0 : kd 0 = some (.inl 11)) (h : L_X11_now_19 kd q K v1 v2 μ) : z_X p l e rm_X11_now s m args below meth c 4 D A (MQ below (z_Qn D A ρ kd (z_Kz q K)) args s 0 0 A) 0 0 ρ kd q μ 19 [(0, .ref (0)), (1, .int (v1)), (2, .int (v2))] [] :=
  h (fun (v1 : Int32) (v2 : Int32) (μ : z_M) => (kd 0 = some (.inl 11)) → z_X p l e rm_X11_now s m args below meth c 4 D A (MQ below (z_Qn D A ρ kd (z_Kz q K)) args s 0 0 A) 0 0 ρ kd q μ 19 [(0, .ref (0)), (1, .int (v1)), (2, .int (v2))] []) (fun v1 v2 μ h f_l0 => B_X11_now_19_ok G hr hlk (fun _ _ _ h => h) hI f_l0 h) f_l0
set_option maxRecDepth 100000 in
set_option maxHeartbeats 4000000 in
theorem met_X11_now (l : Launch) (D : va_G) (ρ : z_A) (kd : z_K) (q : z_Q) (μ : z_M) (sz : Nat) (a1 : Int32) (K : Int32 → z_M → Prop) (hI : z_I kd q) (h_o : kd 0 = some (.inl 11)) (h : C_X11_now kd q a1 μ K) : Met l yX11_now (z_ws yX11_now cX11_now 4 (Option.some Jvm.ClassFile.FieldType.boolean)) rm_X11_now (z_Pc D ρ kd q μ sz [.ref (0), .int (a1)]) (z_Qn D (z_Rg ρ sz) ρ kd (z_Kz q K)) 0 0 (z_Rg ρ sz) := by
  refine z_met (rm := rm_X11_now) (by decide) (Nat.le_of_ble_eq_true rfl) (fun p e s m args below meth c G hr hlk => ?_)
  unfold C_X11_now at h
  show z_X _ _ _ _ _ _ _ _ _ _ _ _ _ _ _ _ _ _ _ _ _ [(0, .ref (0)), (1, .int (a1))] _
  refine zx_iload_n (pc := 0) G 1 rfl rfl (z_dec T_X11_now_ok 0 (0, .iload_n 1, 1) rfl) ?_
  refine zx_aload_n (pc := 1) G (some (0)) 0 rfl rfl (z_dec T_X11_now_ok 1 (1, .aload_n 0, 1) rfl) ?_
  refine zx_getI (pc := 2) G gf_RX11_91 rfl h_o (z_dec T_X11_now_ok 2 (2, .getfield 91, 3) rfl) ?_
  refine zx_icmp_lt (pc := 5) (tgt := 15) G rfl (z_dec T_X11_now_ok 3 (5, .if_icmp .lt 10, 3) rfl) (fun hc => ?_) (fun hc => ?_)
  · replace h := z_pos hc h
    refine zx_iconst (pc := 15) (v := 0) G (z_dec T_X11_now_ok 7 (15, .iconst 0, 1) rfl) rfl ?_
    exact zx_zret (pc := 16) G hr hlk (Nat.le_refl _) (Nat.le_refl _) (Or.inl rfl) (z_dec T_X11_now_ok 8 (16, .ireturn, 1) rfl) ⟨rfl, _, rfl, (Or.inl rfl), h⟩
  · replace h := z_neg hc h
    refine zx_iload_n (pc := 8) G 1 rfl rfl (z_dec T_X11_now_ok 4 (8, .iload_n 1, 1) rfl) ?_
    refine zx_sipush (pc := 9) (v := 600) G (z_dec T_X11_now_ok 5 (9, .sipush 600, 3) rfl) rfl ?_
    refine zx_icmp_lt (pc := 12) (tgt := 17) G rfl (z_dec T_X11_now_ok 6 (12, .if_icmp .lt 5, 3) rfl) (fun hc => ?_) (fun hc => ?_)
    · replace h := z_pos hc h
      refine zx_iconst (pc := 17) (v := 0) G (z_dec T_X11_now_ok 9 (17, .iconst 0, 1) rfl) rfl ?_
      refine zx_istore_n (pc := 18) (lv' := [(2, .int ((0 : Int32))), (0, .ref (0)), (1, .int (a1))]) G rfl (Nat.le_of_ble_eq_true rfl) rfl (z_dec T_X11_now_ok 10 (18, .istore_n 2, 1) rfl) ?_
      refine zx_sub (lv' := [(0, .ref (0)), (1, .int (a1)), (2, .int ((0 : Int32)))]) [1, 2, 0] rfl ?_
      exact L_X11_now_19_ok G hr hlk hI h_o h
    · replace h := z_neg hc h
      refine zx_iconst (pc := 15) (v := 0) G (z_dec T_X11_now_ok 7 (15, .iconst 0, 1) rfl) rfl ?_
      exact zx_zret (pc := 16) G hr hlk (Nat.le_refl _) (Nat.le_refl _) (Or.inl rfl) (z_dec T_X11_now_ok 8 (16, .ireturn, 1) rfl) ⟨rfl, _, rfl, (Or.inl rfl), h⟩
abbrev rm_X11_feed : Room := { frames := 1, cells := 0, slots := 0, locals := 22 }
set_option maxRecDepth 100000 in
set_option maxHeartbeats 4000000 in
theorem met_X11_feed (l : Launch) (D : va_G) (ρ : z_A) (kd : z_K) (q : z_Q) (μ : z_M) (sz : Nat) (a1 : Int32) (a2 : Int32) (a3 : Int32) (a4 : Int32) (a5 : Int32) (K : Int32 → z_M → Prop) (hI : z_I kd q) (h_o : kd 0 = some (.inl 11)) (h : C_X11_feed kd q a1 a2 a3 a4 a5 μ K) : Met l yX11_feed (z_ws yX11_feed cX11_feed 6 (Option.some Jvm.ClassFile.FieldType.int)) rm_X11_feed (z_Pc D ρ kd q μ sz [.ref (0), .int (a1), .int (a2), .int (a3), .int (a4), .int (a5)]) (z_Qn D (z_Rg ρ sz) ρ kd (z_Ki q K)) 0 0 (z_Rg ρ sz) := by
  refine z_met (rm := rm_X11_feed) (by decide) (Nat.le_of_ble_eq_true rfl) (fun p e s m args below meth c G hr hlk => ?_)
  unfold C_X11_feed at h
  show z_X _ _ _ _ _ _ _ _ _ _ _ _ _ _ _ _ _ _ _ _ _ [(0, .ref (0)), (1, .int (a1)), (2, .int (a2)), (3, .int (a3)), (4, .int (a4)), (5, .int (a5))] _
  refine zx_aload_n (pc := 0) G (some (0)) 0 rfl rfl (z_dec T_X11_feed_ok 0 (0, .aload_n 0, 1) rfl) ?_
  refine zx_getF (pc := 1) (b := 1) G gf_RX11_12 rfl h_o (zq_11_0 hI h_o) (z_dec T_X11_feed_ok 1 (1, .getfield 12, 3) rfl) ?_
  refine zx_callV_zN (pc := 4) (rm := rm_X10_hasRoom) G cw_RX11_118 ⟨Nat.le_of_ble_eq_true rfl, Nat.le_of_ble_eq_true rfl⟩ rfl rfl ⟨Nat.zero_le _, Nat.zero_le _⟩ (zk_11_0 hI h_o) rfl (fun sz => (met_X10_hasRoom l D ρ kd q μ sz 1 _ hI (zk_11_0 hI h_o) h)) rfl rfl (Nat.le_of_ble_eq_true rfl) (z_dec T_X11_feed_ok 2 (4, .invokevirtual 118, 3) rfl) (fun r2 μ1 hzr2 hn => ?_)
  clear h
  have h := hn
  clear hn
  refine zx_if_ne (pc := 7) (tgt := 12) G rfl (z_dec T_X11_feed_ok 3 (7, .ifCond .ne 5, 3) rfl) (fun hc => ?_) (fun hc => ?_)
  · replace h := z_neg hc h
    refine zx_aload_n (pc := 12) G (some (0)) 0 rfl rfl (z_dec T_X11_feed_ok 6 (12, .aload_n 0, 1) rfl) ?_
    refine zx_getF (pc := 13) (b := 1) G gf_RX11_12 rfl h_o (zq_11_0 hI h_o) (z_dec T_X11_feed_ok 7 (13, .getfield 12, 3) rfl) ?_
    refine zx_iload_n (pc := 16) G 1 rfl rfl (z_dec T_X11_feed_ok 8 (16, .iload_n 1, 1) rfl) ?_
    refine zx_callV_vN (pc := 17) (rm := rm_X10_put) G cw_RX11_122 ⟨Nat.le_of_ble_eq_true rfl, Nat.le_of_ble_eq_true rfl⟩ rfl rfl ⟨Nat.zero_le _, Nat.zero_le _⟩ (zk_11_0 hI h_o) rfl (fun sz => (met_X10_put l D ρ kd q μ1 sz 1 a1 _ hI (zk_11_0 hI h_o) h)) rfl rfl (Nat.le_of_ble_eq_true rfl) (z_dec T_X11_feed_ok 9 (17, .invokevirtual 122, 3) rfl) (fun μ3 hn => ?_)
    clear h
    have h := hn
    clear hn
    refine zx_aload_n (pc := 20) G (some (0)) 0 rfl rfl (z_dec T_X11_feed_ok 10 (20, .aload_n 0, 1) rfl) ?_
    refine zx_getF (pc := 21) (b := 1) G gf_RX11_12 rfl h_o (zq_11_0 hI h_o) (z_dec T_X11_feed_ok 11 (21, .getfield 12, 3) rfl) ?_
    refine zx_iload_n (pc := 24) G 2 rfl rfl (z_dec T_X11_feed_ok 12 (24, .iload_n 2, 1) rfl) ?_
    refine zx_callV_vN (pc := 25) (rm := rm_X10_put) G cw_RX11_122 ⟨Nat.le_of_ble_eq_true rfl, Nat.le_of_ble_eq_true rfl⟩ rfl rfl ⟨Nat.zero_le _, Nat.zero_le _⟩ (zk_11_0 hI h_o) rfl (fun sz => (met_X10_put l D ρ kd q μ3 sz 1 a2 _ hI (zk_11_0 hI h_o) h)) rfl rfl (Nat.le_of_ble_eq_true rfl) (z_dec T_X11_feed_ok 13 (25, .invokevirtual 122, 3) rfl) (fun μ4 hn => ?_)
    clear h
    have h := hn
    clear hn
    refine zx_aload_n (pc := 28) G (some (0)) 0 rfl rfl (z_dec T_X11_feed_ok 14 (28, .aload_n 0, 1) rfl) ?_
    refine zx_getF (pc := 29) (b := 1) G gf_RX11_12 rfl h_o (zq_11_0 hI h_o) (z_dec T_X11_feed_ok 15 (29, .getfield 12, 3) rfl) ?_
    refine zx_iload_n (pc := 32) G 3 rfl rfl (z_dec T_X11_feed_ok 16 (32, .iload_n 3, 1) rfl) ?_
    refine zx_callV_vN (pc := 33) (rm := rm_X10_put) G cw_RX11_122 ⟨Nat.le_of_ble_eq_true rfl, Nat.le_of_ble_eq_true rfl⟩ rfl rfl ⟨Nat.zero_le _, Nat.zero_le _⟩ (zk_11_0 hI h_o) rfl (fun sz => (met_X10_put l D ρ kd q μ4 sz 1 a3 _ hI (zk_11_0 hI h_o) h)) rfl rfl (Nat.le_of_ble_eq_true rfl) (z_dec T_X11_feed_ok 17 (33, .invokevirtual 122, 3) rfl) (fun μ5 hn => ?_)
    clear h
    have h := hn
    clear hn
    refine zx_aload_n (pc := 36) G (some (0)) 0 rfl rfl (z_dec T_X11_feed_ok 18 (36, .aload_n 0, 1) rfl) ?_
    refine zx_getF (pc := 37) (b := 1) G gf_RX11_12 rfl h_o (zq_11_0 hI h_o) (z_dec T_X11_feed_ok 19 (37, .getfield 12, 3) rfl) ?_
    refine zx_iload (pc := 40) G 4 rfl (z_dec T_X11_feed_ok 20 (40, .iload 4, 2) rfl) ?_
    refine zx_callV_vN (pc := 42) (rm := rm_X10_put) G cw_RX11_122 ⟨Nat.le_of_ble_eq_true rfl, Nat.le_of_ble_eq_true rfl⟩ rfl rfl ⟨Nat.zero_le _, Nat.zero_le _⟩ (zk_11_0 hI h_o) rfl (fun sz => (met_X10_put l D ρ kd q μ5 sz 1 a4 _ hI (zk_11_0 hI h_o) h)) rfl rfl (Nat.le_of_ble_eq_true rfl) (z_dec T_X11_feed_ok 21 (42, .invokevirtual 122, 3) rfl) (fun μ6 hn => ?_)
    clear h
    have h := hn
    clear hn
    refine zx_aload_n (pc := 45) G (some (0)) 0 rfl rfl (z_dec T_X11_feed_ok 22 (45, .aload_n 0, 1) rfl) ?_
    refine zx_getF (pc := 46) (b := 1) G gf_RX11_12 rfl h_o (zq_11_0 hI h_o) (z_dec T_X11_feed_ok 23 (46, .getfield 12, 3) rfl) ?_
    refine zx_iload (pc := 49) G 5 rfl (z_dec T_X11_feed_ok 24 (49, .iload 5, 2) rfl) ?_
    refine zx_callV_vN (pc := 51) (rm := rm_X10_put) G cw_RX11_122 ⟨Nat.le_of_ble_eq_true rfl, Nat.le_of_ble_eq_true rfl⟩ rfl rfl ⟨Nat.zero_le _, Nat.zero_le _⟩ (zk_11_0 hI h_o) rfl (fun sz => (met_X10_put l D ρ kd q μ6 sz 1 a5 _ hI (zk_11_0 hI h_o) h)) rfl rfl (Nat.le_of_ble_eq_true rfl) (z_dec T_X11_feed_ok 25 (51, .invokevirtual 122, 3) rfl) (fun μ7 hn => ?_)
    clear h
    have h := hn
    clear hn
    refine zx_aload_n (pc := 54) G (some (0)) 0 rfl rfl (z_dec T_X11_feed_ok 26 (54, .aload_n 0, 1) rfl) ?_
    refine zx_getF (pc := 55) (b := 1) G gf_RX11_12 rfl h_o (zq_11_0 hI h_o) (z_dec T_X11_feed_ok 27 (55, .getfield 12, 3) rfl) ?_
    refine zx_getI (pc := 58) G gf_RX11_125 rfl (zk_11_0 hI h_o) (z_dec T_X11_feed_ok 28 (58, .getfield 125, 3) rfl) ?_
    exact zx_iret (pc := 61) G hr hlk (Nat.le_refl _) (Nat.le_refl _) (z_dec T_X11_feed_ok 29 (61, .ireturn, 1) rfl) ⟨rfl, _, rfl, h⟩
  · replace h := z_pos hc h
    refine zx_iconst (pc := 10) (v := -1) G (z_dec T_X11_feed_ok 4 (10, .iconst (-1), 1) rfl) rfl ?_
    exact zx_iret (pc := 11) G hr hlk (Nat.le_refl _) (Nat.le_refl _) (z_dec T_X11_feed_ok 5 (11, .ireturn, 1) rfl) ⟨rfl, _, rfl, h⟩
abbrev rm_X11_ladder : Room := { frames := 2, cells := 0, slots := 0, locals := 44 }
set_option maxRecDepth 100000 in
set_option maxHeartbeats 4000000 in
theorem met_X11_ladder (l : Launch) (D : va_G) (ρ : z_A) (kd : z_K) (q : z_Q) (μ : z_M) (sz : Nat) (a1 : Int32) (K : Int32 → z_M → Prop) (hI : z_I kd q) (h_o : kd 0 = some (.inl 11)) (h : C_X11_ladder kd q a1 μ K) : Met l yX11_ladder (z_ws yX11_ladder cX11_ladder 2 (Option.some Jvm.ClassFile.FieldType.boolean)) rm_X11_ladder (z_Pc D ρ kd q μ sz [.ref (0), .int (a1)]) (z_Qn D (z_Rg ρ sz) ρ kd (z_Kz q K)) 0 0 (z_Rg ρ sz) := by
  refine z_met (rm := rm_X11_ladder) (by decide) (Nat.le_of_ble_eq_true rfl) (fun p e s m args below meth c G hr hlk => ?_)
  unfold C_X11_ladder at h
  show z_X _ _ _ _ _ _ _ _ _ _ _ _ _ _ _ _ _ _ _ _ _ [(0, .ref (0)), (1, .int (a1))] _
  refine zx_iload_n (pc := 0) G 1 rfl rfl (z_dec T_X11_ladder_ok 0 (0, .iload_n 1, 1) rfl) ?_
  refine zx_iconst (pc := 1) (v := 1) G (z_dec T_X11_ladder_ok 1 (1, .iconst 1, 1) rfl) rfl ?_
  refine zx_icmp_lt (pc := 2) (tgt := 37) G rfl (z_dec T_X11_ladder_ok 2 (2, .if_icmp .lt 35, 3) rfl) (fun hc => ?_) (fun hc => ?_)
  · replace h := z_pos hc h
    refine zx_iconst (pc := 37) (v := 0) G (z_dec T_X11_ladder_ok 18 (37, .iconst 0, 1) rfl) rfl ?_
    exact zx_zret (pc := 38) G hr hlk (Nat.le_refl _) (Nat.le_refl _) (Or.inl rfl) (z_dec T_X11_ladder_ok 19 (38, .ireturn, 1) rfl) ⟨rfl, _, rfl, (Or.inl rfl), h⟩
  · replace h := z_neg hc h
    refine zx_iload_n (pc := 5) G 1 rfl rfl (z_dec T_X11_ladder_ok 3 (5, .iload_n 1, 1) rfl) ?_
    refine zx_bipush (pc := 6) (v := 24) G (z_dec T_X11_ladder_ok 4 (6, .bipush 24, 2) rfl) rfl ?_
    refine zx_icmp_gt (pc := 8) (tgt := 37) G rfl (z_dec T_X11_ladder_ok 5 (8, .if_icmp .gt 29, 3) rfl) (fun hc => ?_) (fun hc => ?_)
    · replace h := z_pos hc h
      refine zx_iconst (pc := 37) (v := 0) G (z_dec T_X11_ladder_ok 18 (37, .iconst 0, 1) rfl) rfl ?_
      exact zx_zret (pc := 38) G hr hlk (Nat.le_refl _) (Nat.le_refl _) (Or.inl rfl) (z_dec T_X11_ladder_ok 19 (38, .ireturn, 1) rfl) ⟨rfl, _, rfl, (Or.inl rfl), h⟩
    · replace h := z_neg hc h
      refine zx_aload_n (pc := 11) G (some (0)) 0 rfl rfl (z_dec T_X11_ladder_ok 6 (11, .aload_n 0, 1) rfl) ?_
      refine zx_getF (pc := 12) (b := 3) G gf_RX11_19 rfl h_o (zq_11_1 hI h_o) (z_dec T_X11_ladder_ok 7 (12, .getfield 19, 3) rfl) ?_
      refine zx_getI (pc := 15) G gf_RX11_128 rfl (zk_11_1 hI h_o) (z_dec T_X11_ladder_ok 8 (15, .getfield 128, 3) rfl) ?_
      refine zx_if_gt (pc := 18) (tgt := 37) G rfl (z_dec T_X11_ladder_ok 9 (18, .ifCond .gt 19, 3) rfl) (fun hc => ?_) (fun hc => ?_)
      · replace h := z_pos hc h
        refine zx_iconst (pc := 37) (v := 0) G (z_dec T_X11_ladder_ok 18 (37, .iconst 0, 1) rfl) rfl ?_
        exact zx_zret (pc := 38) G hr hlk (Nat.le_refl _) (Nat.le_refl _) (Or.inl rfl) (z_dec T_X11_ladder_ok 19 (38, .ireturn, 1) rfl) ⟨rfl, _, rfl, (Or.inl rfl), h⟩
      · replace h := z_neg hc h
        refine zx_aload_n (pc := 21) G (some (0)) 0 rfl rfl (z_dec T_X11_ladder_ok 10 (21, .aload_n 0, 1) rfl) ?_
        refine zx_getF (pc := 22) (b := 1) G gf_RX11_12 rfl h_o (zq_11_0 hI h_o) (z_dec T_X11_ladder_ok 11 (22, .getfield 12, 3) rfl) ?_
        refine zx_ldc2 (pc := 25) G wk_RX11_131 (z_dec T_X11_ladder_ok 12 (25, .ldc2_w 131, 3) rfl) ?_
        refine zx_iload_n (pc := 28) G 1 rfl rfl (z_dec T_X11_ladder_ok 13 (28, .iload_n 1, 1) rfl) ?_
        refine zx_i2l (pc := 29) G  (z_dec T_X11_ladder_ok 14 (29, .i2l, 1) rfl) ?_
        refine zx_lmul (pc := 30) G  (z_dec T_X11_ladder_ok 15 (30, .lmul, 1) rfl) ?_
        refine zx_callV_zN (pc := 31) (rm := rm_X10_give) G cw_RX11_133 ⟨Nat.le_of_ble_eq_true rfl, Nat.le_of_ble_eq_true rfl⟩ rfl rfl ⟨Nat.zero_le _, Nat.zero_le _⟩ (zk_11_0 hI h_o) rfl (fun sz => (met_X10_give l D ρ kd q μ sz 1 (((2 : Int64)) * a1.toInt64) _ hI (zk_11_0 hI h_o) h)) rfl rfl (Nat.le_of_ble_eq_true rfl) (z_dec T_X11_ladder_ok 16 (31, .invokevirtual 133, 3) rfl) (fun r2 μ1 hzr2 hn => ?_)
        clear h
        have h := hn
        clear hn
        refine zx_if_ne (pc := 34) (tgt := 39) G rfl (z_dec T_X11_ladder_ok 17 (34, .ifCond .ne 5, 3) rfl) (fun hc => ?_) (fun hc => ?_)
        · replace h := z_neg hc h
          refine zx_aload_n (pc := 39) G (some (0)) 0 rfl rfl (z_dec T_X11_ladder_ok 20 (39, .aload_n 0, 1) rfl) ?_
          refine zx_getF (pc := 40) (b := 3) G gf_RX11_19 rfl h_o (zq_11_1 hI h_o) (z_dec T_X11_ladder_ok 21 (40, .getfield 19, 3) rfl) ?_
          refine zx_aload_n (pc := 43) G (some (0)) 0 rfl rfl (z_dec T_X11_ladder_ok 22 (43, .aload_n 0, 1) rfl) ?_
          refine zx_getF (pc := 44) (b := 1) G gf_RX11_12 rfl h_o (zq_11_0 hI h_o) (z_dec T_X11_ladder_ok 23 (44, .getfield 12, 3) rfl) ?_
          refine zx_iload_n (pc := 47) G 1 rfl rfl (z_dec T_X11_ladder_ok 24 (47, .iload_n 1, 1) rfl) ?_
          refine zx_callV_zN (pc := 48) (rm := rm_X3_fill) G cw_RX11_137 ⟨Nat.le_of_ble_eq_true rfl, Nat.le_of_ble_eq_true rfl⟩ rfl rfl ⟨Nat.zero_le _, Nat.zero_le _⟩ (zk_11_1 hI h_o) rfl (fun sz => (met_X3_fill l D ρ kd q μ1 sz 3 (some 1) a1 _ hI (zk_11_1 hI h_o) (fun a ha => by cases ha; exact (zk_11_0 hI h_o)) h)) rfl rfl (Nat.le_of_ble_eq_true rfl) (z_dec T_X11_ladder_ok 25 (48, .invokevirtual 137, 3) rfl) (fun r4 μ3 hzr4 hn => ?_)
          clear h
          have h := hn
          clear hn
          exact zx_zret (pc := 51) G hr hlk (Nat.le_refl _) (Nat.le_refl _) hzr4 (z_dec T_X11_ladder_ok 26 (51, .ireturn, 1) rfl) ⟨rfl, _, rfl, hzr4, h⟩
        · replace h := z_pos hc h
          refine zx_iconst (pc := 37) (v := 0) G (z_dec T_X11_ladder_ok 18 (37, .iconst 0, 1) rfl) rfl ?_
          exact zx_zret (pc := 38) G hr hlk (Nat.le_refl _) (Nat.le_refl _) (Or.inl rfl) (z_dec T_X11_ladder_ok 19 (38, .ireturn, 1) rfl) ⟨rfl, _, rfl, (Or.inl rfl), h⟩
abbrev rm_X11_way : Room := { frames := 339, cells := 0, slots := 0, locals := 17074 }
set_option maxRecDepth 100000 in
set_option maxHeartbeats 4000000 in
theorem met_X11_way (l : Launch) (D : va_G) (ρ : z_A) (kd : z_K) (q : z_Q) (μ : z_M) (sz : Nat) (a1 : Int32) (a2 : Int32) (K : Int32 → z_Q → z_M → Prop) (hI : z_I kd q) (h_o : kd 0 = some (.inl 11)) (h : C_X11_way kd q a1 a2 μ K) : Met l yX11_way (z_ws yX11_way cX11_way 5 (Option.some Jvm.ClassFile.FieldType.int)) rm_X11_way (z_Pc D ρ kd q μ sz [.ref (0), .int (a1), .int (a2)]) (z_Qn D (z_Rg ρ sz) ρ kd (z_KiQ kd K)) 0 0 (z_Rg ρ sz) := by
  refine z_met (rm := rm_X11_way) (by decide) (Nat.le_of_ble_eq_true rfl) (fun p e s m args below meth c G hr hlk => ?_)
  unfold C_X11_way at h
  show z_X _ _ _ _ _ _ _ _ _ _ _ _ _ _ _ _ _ _ _ _ _ [(0, .ref (0)), (1, .int (a1)), (2, .int (a2))] _
  refine zx_aload_n (pc := 0) G (some (0)) 0 rfl rfl (z_dec T_X11_way_ok 0 (0, .aload_n 0, 1) rfl) ?_
  refine zx_iload_n (pc := 1) G 1 rfl rfl (z_dec T_X11_way_ok 1 (1, .iload_n 1, 1) rfl) ?_
  refine zx_callV_rN (pc := 2) (rm := rm_X11_bookAt) G cw_RX11_141 ⟨Nat.le_of_ble_eq_true rfl, Nat.le_of_ble_eq_true rfl⟩ rfl rfl ⟨Nat.zero_le _, Nat.zero_le _⟩ h_o rfl (fun sz => (met_X11_bookAt l D ρ kd q μ sz a1 _ hI h_o h)) rfl rfl (Nat.le_of_ble_eq_true rfl) (z_dec T_X11_way_ok 2 (2, .invokevirtual 141, 3) rfl) (fun r2 μ1 hfr2 hn => ?_)
  clear h
  have h := hn
  clear hn
  refine zx_astore_n (pc := 5) (lv' := [(3, va_rf (r2)), (0, .ref (0)), (1, .int (a1)), (2, .int (a2))]) G (r2) rfl (Nat.le_of_ble_eq_true rfl) rfl (z_dec T_X11_way_ok 3 (5, .astore_n 3, 1) rfl) ?_
  refine zx_aload_n (pc := 6) G (r2) 0 rfl rfl (z_dec T_X11_way_ok 4 (6, .aload_n 3, 1) rfl) ?_
  obtain ⟨h1, h2⟩ := h
  rcases r2 with _ | o3
  · replace h := h1 rfl
    refine zx_ifnullN (pc := 7) (tgt := 34) G rfl (z_dec T_X11_way_ok 5 (7, .ifnull 27, 3) rfl) ?_
    refine zx_iconst (pc := 34) (v := -1) G (z_dec T_X11_way_ok 18 (34, .iconst (-1), 1) rfl) rfl ?_
    exact zx_iret (pc := 35) G hr hlk (Nat.le_refl _) (Nat.le_refl _) (z_dec T_X11_way_ok 19 (35, .ireturn, 1) rfl) ⟨hI, _, rfl, h⟩
  · replace h := h2 o3 rfl
    refine zx_ifnullS (pc := 7) G (hfr2 o3 rfl) (z_dec T_X11_way_ok 5 (7, .ifnull 27, 3) rfl) ?_
    refine zx_iload_n (pc := 10) G 3 rfl rfl (z_dec T_X11_way_ok 6 (10, .iload_n 2, 1) rfl) ?_
    refine zx_iconst (pc := 11) (v := 1) G (z_dec T_X11_way_ok 7 (11, .iconst 1, 1) rfl) rfl ?_
    refine zx_icmp_lt (pc := 12) (tgt := 34) G rfl (z_dec T_X11_way_ok 8 (12, .if_icmp .lt 22, 3) rfl) (fun hc => ?_) (fun hc => ?_)
    · replace h := z_pos hc h
      refine zx_iconst (pc := 34) (v := -1) G (z_dec T_X11_way_ok 18 (34, .iconst (-1), 1) rfl) rfl ?_
      exact zx_iret (pc := 35) G hr hlk (Nat.le_refl _) (Nat.le_refl _) (z_dec T_X11_way_ok 19 (35, .ireturn, 1) rfl) ⟨hI, _, rfl, h⟩
    · replace h := z_neg hc h
      refine zx_iload_n (pc := 15) G 3 rfl rfl (z_dec T_X11_way_ok 9 (15, .iload_n 2, 1) rfl) ?_
      refine zx_sipush (pc := 16) (v := 160) G (z_dec T_X11_way_ok 10 (16, .sipush 160, 3) rfl) rfl ?_
      refine zx_icmp_gt (pc := 19) (tgt := 34) G rfl (z_dec T_X11_way_ok 11 (19, .if_icmp .gt 15, 3) rfl) (fun hc => ?_) (fun hc => ?_)
      · replace h := z_pos hc h
        refine zx_iconst (pc := 34) (v := -1) G (z_dec T_X11_way_ok 18 (34, .iconst (-1), 1) rfl) rfl ?_
        exact zx_iret (pc := 35) G hr hlk (Nat.le_refl _) (Nat.le_refl _) (z_dec T_X11_way_ok 19 (35, .ireturn, 1) rfl) ⟨hI, _, rfl, h⟩
      · replace h := z_neg hc h
        refine zx_aload_n (pc := 22) G (some (0)) 1 rfl rfl (z_dec T_X11_way_ok 12 (22, .aload_n 0, 1) rfl) ?_
        refine zx_getF (pc := 23) (b := 1) G gf_RX11_12 rfl h_o (zq_11_0 hI h_o) (z_dec T_X11_way_ok 13 (23, .getfield 12, 3) rfl) ?_
        refine zx_iload_n (pc := 26) G 3 rfl rfl (z_dec T_X11_way_ok 14 (26, .iload_n 2, 1) rfl) ?_
        refine zx_i2l (pc := 27) G  (z_dec T_X11_way_ok 15 (27, .i2l, 1) rfl) ?_
        refine zx_callV_zN (pc := 28) (rm := rm_X10_give) G cw_RX11_133 ⟨Nat.le_of_ble_eq_true rfl, Nat.le_of_ble_eq_true rfl⟩ rfl rfl ⟨Nat.zero_le _, Nat.zero_le _⟩ (zk_11_0 hI h_o) rfl (fun sz => (met_X10_give l D ρ kd q μ1 sz 1 a2.toInt64 _ hI (zk_11_0 hI h_o) h)) rfl rfl (Nat.le_of_ble_eq_true rfl) (z_dec T_X11_way_ok 16 (28, .invokevirtual 133, 3) rfl) (fun r5 μ4 hzr5 hn => ?_)
        clear h
        have h := hn
        clear hn
        refine zx_if_ne (pc := 31) (tgt := 36) G rfl (z_dec T_X11_way_ok 17 (31, .ifCond .ne 5, 3) rfl) (fun hc => ?_) (fun hc => ?_)
        · replace h := z_neg hc h
          refine zx_aload_n (pc := 36) G (some (0)) 1 rfl rfl (z_dec T_X11_way_ok 20 (36, .aload_n 0, 1) rfl) ?_
          refine zx_getF (pc := 37) (b := 10) G gf_RX11_55 rfl h_o (zq_11_6 hI h_o) (z_dec T_X11_way_ok 21 (37, .getfield 55, 3) rfl) ?_
          refine zx_aload_n (pc := 40) G (some (0)) 1 rfl rfl (z_dec T_X11_way_ok 22 (40, .aload_n 0, 1) rfl) ?_
          refine zx_getF (pc := 41) (b := 1) G gf_RX11_12 rfl h_o (zq_11_0 hI h_o) (z_dec T_X11_way_ok 23 (41, .getfield 12, 3) rfl) ?_
          refine zx_getF (pc := 44) (b := 2) G gf_RX11_145 rfl (zk_11_0 hI h_o) (zq_10_0 hI (zk_11_0 hI h_o)) (z_dec T_X11_way_ok 24 (44, .getfield 145, 3) rfl) ?_
          refine zx_iload_n (pc := 47) G 3 rfl rfl (z_dec T_X11_way_ok 25 (47, .iload_n 2, 1) rfl) ?_
          refine zx_iconst (pc := 48) (v := 0) G (z_dec T_X11_way_ok 26 (48, .iconst 0, 1) rfl) rfl ?_
          refine zx_callV_iQ (pc := 49) (rm := rm_X7_read) G cw_RX11_148 ⟨Nat.le_of_ble_eq_true rfl, Nat.le_of_ble_eq_true rfl⟩ rfl rfl ⟨Nat.zero_le _, Nat.zero_le _⟩ (zk_11_6 hI h_o) rfl (fun sz => (met_X7_read l D ρ kd q μ4 sz (some 2) a2 ((0 : Int32)) _ hI (zk_11_6 hI h_o) (fun a ha => by cases ha; exact (z_lenf (zk_10_0 hI (zk_11_0 hI h_o)))) (Or.inl rfl) h)) rfl rfl (Nat.le_of_ble_eq_true rfl) (z_dec T_X11_way_ok 27 (49, .invokevirtual 148, 3) rfl) (fun r8 q7 hI9 μ6 hn => ?_)
          clear h
          have h := hn
          clear hn
          refine zx_istore (pc := 52) (lv' := [(4, .int (r8)), (3, .ref (o3)), (0, .ref (0)), (1, .int (a1)), (2, .int (a2))]) G (Nat.le_of_ble_eq_true rfl) rfl (z_dec T_X11_way_ok 28 (52, .istore 4, 2) rfl) ?_
          refine zx_iload (pc := 54) G 0 rfl (z_dec T_X11_way_ok 29 (54, .iload 4, 2) rfl) ?_
          refine zx_if_le (pc := 56) (tgt := 73) G rfl (z_dec T_X11_way_ok 30 (56, .ifCond .le 17, 3) rfl) (fun hc => ?_) (fun hc => ?_)
          · replace h := z_pos hc h
            refine zx_iload (pc := 73) G 0 rfl (z_dec T_X11_way_ok 38 (73, .iload 4, 2) rfl) ?_
            exact zx_iret (pc := 75) G hr hlk (Nat.le_refl _) (Nat.le_refl _) (z_dec T_X11_way_ok 39 (75, .ireturn, 1) rfl) ⟨hI9, _, rfl, h⟩
          · replace h := z_neg hc h
            refine zx_aload_n (pc := 59) G (some (o3)) 1 rfl rfl (z_dec T_X11_way_ok 31 (59, .aload_n 3, 1) rfl) ?_
            refine zx_aload_n (pc := 60) G (some (0)) 2 rfl rfl (z_dec T_X11_way_ok 32 (60, .aload_n 0, 1) rfl) ?_
            refine zx_getF (pc := 61) (b := 1) G gf_RX11_12 rfl h_o (zq_11_0 hI9 h_o) (z_dec T_X11_way_ok 33 (61, .getfield 12, 3) rfl) ?_
            refine zx_getF (pc := 64) (b := 2) G gf_RX11_145 rfl (zk_11_0 hI9 h_o) (zq_10_0 hI9 (zk_11_0 hI9 h_o)) (z_dec T_X11_way_ok 34 (64, .getfield 145, 3) rfl) ?_
            refine zx_iload_n (pc := 67) G 4 rfl rfl (z_dec T_X11_way_ok 35 (67, .iload_n 2, 1) rfl) ?_
            refine zx_iload (pc := 68) G 0 rfl (z_dec T_X11_way_ok 36 (68, .iload 4, 2) rfl) ?_
            refine zx_callV_vN (pc := 70) (rm := rm_X1_tell) G cw_RX11_152 ⟨Nat.le_of_ble_eq_true rfl, Nat.le_of_ble_eq_true rfl⟩ rfl rfl ⟨Nat.zero_le _, Nat.zero_le _⟩ (hfr2 o3 rfl) rfl (fun sz => (met_X1_tell l D ρ kd q7 μ6 sz o3 (some 2) a2 r8 _ hI9 (hfr2 o3 rfl) (fun a ha => by cases ha; exact (z_lenf (zk_10_0 hI9 (zk_11_0 hI9 h_o)))) h)) rfl rfl (Nat.le_of_ble_eq_true rfl) (z_dec T_X11_way_ok 37 (70, .invokevirtual 152, 3) rfl) (fun μ10 hn => ?_)
            clear h
            have h := hn
            clear hn
            refine zx_iload (pc := 73) G 0 rfl (z_dec T_X11_way_ok 38 (73, .iload 4, 2) rfl) ?_
            exact zx_iret (pc := 75) G hr hlk (Nat.le_refl _) (Nat.le_refl _) (z_dec T_X11_way_ok 39 (75, .ireturn, 1) rfl) ⟨hI9, _, rfl, h⟩
        · replace h := z_pos hc h
          refine zx_iconst (pc := 34) (v := -1) G (z_dec T_X11_way_ok 18 (34, .iconst (-1), 1) rfl) rfl ?_
          exact zx_iret (pc := 35) G hr hlk (Nat.le_refl _) (Nat.le_refl _) (z_dec T_X11_way_ok 19 (35, .ireturn, 1) rfl) ⟨hI, _, rfl, h⟩
abbrev rm_X11_slate : Room := { frames := 3, cells := 0, slots := 0, locals := 63 }
set_option maxRecDepth 100000 in
set_option maxHeartbeats 4000000 in
theorem L_X11_slate_63_ok {p : Program} {l : Launch} {e : Env} {s : State} {m : MethodId} {args : Array Value} {below : List Frame} {meth : Method} {c : Code} {D : va_G} {A : Nat → Prop} {ρ : z_A} {kd : z_K} {q : z_Q} {μ : z_M} {K : Int32 → z_M → Prop} {v2 : Int32} {v3 : Int32} {v4 : Int32} {v5 : Nat} (G : z_G p c cX11_slate s m args RX11 7 D) (hr : meth.sig.returnType = (Option.some Jvm.ClassFile.FieldType.boolean)) (hlk : meth.locks = false) (hI : z_I kd q) (f_l5 : kd v5 = some (.inl 1)) (h : L_X11_slate_63 kd q K v2 v3 v4 v5 μ) : z_X p l e rm_X11_slate s m args below meth c 7 D A (MQ below (z_Qn D A ρ kd (z_Kz q K)) args s 0 0 A) 0 0 ρ kd q μ 63 [(2, .int (v2)), (3, .int (v3)), (4, .int (v4)), (5, .ref (v5))] [] := by
    unfold L_X11_slate_63 at h
    refine zx_aload (pc := 63) G (some (v5)) 3 rfl (z_dec T_X11_slate_ok 31 (63, .aload 5, 2) rfl) ?_
    refine zx_getF (pc := 65) (b := v5 + 1) G gf_RX11_166 rfl f_l5 (zq_1_3 hI f_l5) (z_dec T_X11_slate_ok 32 (65, .getfield 166, 3) rfl) ?_
    refine zx_iload_n (pc := 68) G 0 rfl rfl (z_dec T_X11_slate_ok 33 (68, .iload_n 2, 1) rfl) ?_
    refine zx_iload_n (pc := 69) G 1 rfl rfl (z_dec T_X11_slate_ok 34 (69, .iload_n 3, 1) rfl) ?_
    refine zx_callS_iN (pc := 70) (rm := rm_X11_spot) G cw_RX11_168 ⟨Nat.le_of_ble_eq_true rfl, Nat.le_of_ble_eq_true rfl⟩ rfl rfl ⟨Nat.zero_le _, Nat.zero_le _⟩ (fun sz => (met_X11_spot l D ρ kd q μ sz v2 v3 _ hI h)) rfl rfl (Nat.le_of_ble_eq_true rfl) (z_dec T_X11_slate_ok 35 (70, .invokestatic 168, 3) rfl) (fun r2 μ1 hn => ?_)
    clear h
    have h := hn
    clear hn
    refine zx_iload (pc := 73) G 2 rfl (z_dec T_X11_slate_ok 36 (73, .iload 4, 2) rfl) ?_
    obtain ⟨c3, h⟩ := h
    refine zx_iast (pc := 75) G (zk_1_3 hI f_l5) c3 (z_dec T_X11_slate_ok 37 (75, .iastore, 1) rfl) ?_
    refine zx_iconst (pc := 76) (v := 1) G (z_dec T_X11_slate_ok 38 (76, .iconst 1, 1) rfl) rfl ?_
    exact zx_zret (pc := 77) G hr hlk (Nat.le_refl _) (Nat.le_refl _) (Or.inr rfl) (z_dec T_X11_slate_ok 39 (77, .ireturn, 1) rfl) ⟨rfl, _, rfl, (Or.inr rfl), h⟩
set_option maxRecDepth 100000 in
set_option maxHeartbeats 4000000 in
theorem met_X11_slate (l : Launch) (D : va_G) (ρ : z_A) (kd : z_K) (q : z_Q) (μ : z_M) (sz : Nat) (a1 : Int32) (a2 : Int32) (a3 : Int32) (a4 : Int32) (K : Int32 → z_M → Prop) (hI : z_I kd q) (h_o : kd 0 = some (.inl 11)) (h : C_X11_slate kd q a1 a2 a3 a4 μ K) : Met l yX11_slate (z_ws yX11_slate cX11_slate 7 (Option.some Jvm.ClassFile.FieldType.boolean)) rm_X11_slate (z_Pc D ρ kd q μ sz [.ref (0), .int (a1), .int (a2), .int (a3), .int (a4)]) (z_Qn D (z_Rg ρ sz) ρ kd (z_Kz q K)) 0 0 (z_Rg ρ sz) := by
  refine z_met (rm := rm_X11_slate) (by decide) (Nat.le_of_ble_eq_true rfl) (fun p e s m args below meth c G hr hlk => ?_)
  unfold C_X11_slate at h
  show z_X _ _ _ _ _ _ _ _ _ _ _ _ _ _ _ _ _ _ _ _ _ [(0, .ref (0)), (1, .int (a1)), (2, .int (a2)), (3, .int (a3)), (4, .int (a4))] _
  refine zx_aload_n (pc := 0) G (some (0)) 0 rfl rfl (z_dec T_X11_slate_ok 0 (0, .aload_n 0, 1) rfl) ?_
  refine zx_iload_n (pc := 1) G 1 rfl rfl (z_dec T_X11_slate_ok 1 (1, .iload_n 1, 1) rfl) ?_
  refine zx_callV_rN (pc := 2) (rm := rm_X11_bookAt) G cw_RX11_141 ⟨Nat.le_of_ble_eq_true rfl, Nat.le_of_ble_eq_true rfl⟩ rfl rfl ⟨Nat.zero_le _, Nat.zero_le _⟩ h_o rfl (fun sz => (met_X11_bookAt l D ρ kd q μ sz a1 _ hI h_o h)) rfl rfl (Nat.le_of_ble_eq_true rfl) (z_dec T_X11_slate_ok 2 (2, .invokevirtual 141, 3) rfl) (fun r2 μ1 hfr2 hn => ?_)
  clear h
  have h := hn
  clear hn
  refine zx_astore (pc := 5) (lv' := [(5, va_rf (r2)), (0, .ref (0)), (1, .int (a1)), (2, .int (a2)), (3, .int (a3)), (4, .int (a4))]) G (r2) (Nat.le_of_ble_eq_true rfl) rfl (z_dec T_X11_slate_ok 3 (5, .astore 5, 2) rfl) ?_
  refine zx_aload_n (pc := 7) G (some (0)) 1 rfl rfl (z_dec T_X11_slate_ok 4 (7, .aload_n 0, 1) rfl) ?_
  refine zx_iload_n (pc := 8) G 3 rfl rfl (z_dec T_X11_slate_ok 5 (8, .iload_n 2, 1) rfl) ?_
  refine zx_callV_rN (pc := 9) (rm := rm_X11_raceAt) G cw_RX11_98 ⟨Nat.le_of_ble_eq_true rfl, Nat.le_of_ble_eq_true rfl⟩ rfl rfl ⟨Nat.zero_le _, Nat.zero_le _⟩ h_o rfl (fun sz => (met_X11_raceAt l D ρ kd q μ1 sz a2 _ hI h_o h)) rfl rfl (Nat.le_of_ble_eq_true rfl) (z_dec T_X11_slate_ok 6 (9, .invokevirtual 98, 3) rfl) (fun r4 μ3 hfr4 hn => ?_)
  clear h
  have h := hn
  clear hn
  refine zx_astore (pc := 12) (lv' := [(6, va_rf (r4)), (5, va_rf (r2)), (0, .ref (0)), (1, .int (a1)), (2, .int (a2)), (3, .int (a3)), (4, .int (a4))]) G (r4) (Nat.le_of_ble_eq_true rfl) (by cases r2 <;> rfl) (z_dec T_X11_slate_ok 7 (12, .astore 6, 2) rfl) ?_
  refine zx_aload (pc := 14) G (r2) 1 rfl (z_dec T_X11_slate_ok 8 (14, .aload 5, 2) rfl) ?_
  obtain ⟨h1, h2⟩ := h
  rcases r2 with _ | o5
  · replace h := h1 rfl
    refine zx_ifnullN (pc := 16) (tgt := 41) G rfl (z_dec T_X11_slate_ok 9 (16, .ifnull 25, 3) rfl) ?_
    refine zx_iconst (pc := 41) (v := 0) G (z_dec T_X11_slate_ok 19 (41, .iconst 0, 1) rfl) rfl ?_
    exact zx_zret (pc := 42) G hr hlk (Nat.le_refl _) (Nat.le_refl _) (Or.inl rfl) (z_dec T_X11_slate_ok 20 (42, .ireturn, 1) rfl) ⟨rfl, _, rfl, (Or.inl rfl), h⟩
  · replace h := h2 o5 rfl
    refine zx_ifnullS (pc := 16) G (hfr2 o5 rfl) (z_dec T_X11_slate_ok 9 (16, .ifnull 25, 3) rfl) ?_
    refine zx_aload (pc := 19) G (r4) 0 rfl (z_dec T_X11_slate_ok 10 (19, .aload 6, 2) rfl) ?_
    obtain ⟨h1, h2⟩ := h
    rcases r4 with _ | o6
    · replace h := h1 rfl
      refine zx_ifnullN (pc := 21) (tgt := 41) G rfl (z_dec T_X11_slate_ok 11 (21, .ifnull 20, 3) rfl) ?_
      refine zx_iconst (pc := 41) (v := 0) G (z_dec T_X11_slate_ok 19 (41, .iconst 0, 1) rfl) rfl ?_
      exact zx_zret (pc := 42) G hr hlk (Nat.le_refl _) (Nat.le_refl _) (Or.inl rfl) (z_dec T_X11_slate_ok 20 (42, .ireturn, 1) rfl) ⟨rfl, _, rfl, (Or.inl rfl), h⟩
    · replace h := h2 o6 rfl
      refine zx_ifnullS (pc := 21) G (hfr4 o6 rfl) (z_dec T_X11_slate_ok 11 (21, .ifnull 20, 3) rfl) ?_
      refine zx_aload (pc := 24) G (some (o6)) 0 rfl (z_dec T_X11_slate_ok 12 (24, .aload 6, 2) rfl) ?_
      refine zx_iload_n (pc := 26) G 5 rfl rfl (z_dec T_X11_slate_ok 13 (26, .iload_n 3, 1) rfl) ?_
      refine zx_callV_zN (pc := 27) (rm := rm_X6_runs) G cw_RX11_156 ⟨Nat.le_of_ble_eq_true rfl, Nat.le_of_ble_eq_true rfl⟩ rfl rfl ⟨Nat.zero_le _, Nat.zero_le _⟩ (hfr4 o6 rfl) rfl (fun sz => (met_X6_runs l D ρ kd q μ3 sz o6 a3 _ hI (hfr4 o6 rfl) h)) rfl rfl (Nat.le_of_ble_eq_true rfl) (z_dec T_X11_slate_ok 14 (27, .invokevirtual 156, 3) rfl) (fun r8 μ7 hzr8 hn => ?_)
      clear h
      have h := hn
      clear hn
      refine zx_if_eq (pc := 30) (tgt := 41) G rfl (z_dec T_X11_slate_ok 15 (30, .ifCond .eq 11, 3) rfl) (fun hc => ?_) (fun hc => ?_)
      · replace h := z_pos hc h
        refine zx_iconst (pc := 41) (v := 0) G (z_dec T_X11_slate_ok 19 (41, .iconst 0, 1) rfl) rfl ?_
        exact zx_zret (pc := 42) G hr hlk (Nat.le_refl _) (Nat.le_refl _) (Or.inl rfl) (z_dec T_X11_slate_ok 20 (42, .ireturn, 1) rfl) ⟨rfl, _, rfl, (Or.inl rfl), h⟩
      · replace h := z_neg hc h
        refine zx_aload (pc := 33) G (some (o6)) 0 rfl (z_dec T_X11_slate_ok 16 (33, .aload 6, 2) rfl) ?_
        refine zx_getZ (pc := 35) G gf_RX11_159 rfl (hfr4 o6 rfl) (z_dec T_X11_slate_ok 17 (35, .getfield 159, 3) rfl) ?_
        refine zx_if_eq (pc := 38) (tgt := 43) G rfl (z_dec T_X11_slate_ok 18 (38, .ifCond .eq 5, 3) rfl) (fun hc => ?_) (fun hc => ?_)
        · replace h := z_pos hc h
          refine zx_iload (pc := 43) G 6 rfl (z_dec T_X11_slate_ok 21 (43, .iload 4, 2) rfl) ?_
          refine zx_iconst (pc := 45) (v := -1) G (z_dec T_X11_slate_ok 22 (45, .iconst (-1), 1) rfl) rfl ?_
          refine zx_icmp_eq (pc := 46) (tgt := 63) G rfl (z_dec T_X11_slate_ok 23 (46, .if_icmp .eq 17, 3) rfl) (fun hc => ?_) (fun hc => ?_)
          · replace h := z_pos hc h
            refine zx_sub (lv' := [(2, .int (a2)), (3, .int (a3)), (4, .int (a4)), (5, .ref (o5))]) [4, 5, 6, 1] rfl ?_
            exact L_X11_slate_63_ok G hr hlk hI (hfr2 o5 rfl) h
          · replace h := z_neg hc h
            refine zx_aload_n (pc := 49) G (some (0)) 2 rfl rfl (z_dec T_X11_slate_ok 24 (49, .aload_n 0, 1) rfl) ?_
            refine zx_getF (pc := 50) (b := 3) G gf_RX11_19 rfl h_o (zq_11_1 hI h_o) (z_dec T_X11_slate_ok 25 (50, .getfield 19, 3) rfl) ?_
            refine zx_iload (pc := 53) G 6 rfl (z_dec T_X11_slate_ok 26 (53, .iload 4, 2) rfl) ?_
            refine zx_callV_zN (pc := 55) (rm := rm_X3_holds) G cw_RX11_163 ⟨Nat.le_of_ble_eq_true rfl, Nat.le_of_ble_eq_true rfl⟩ rfl rfl ⟨Nat.zero_le _, Nat.zero_le _⟩ (zk_11_1 hI h_o) rfl (fun sz => (met_X3_holds l D ρ kd q μ7 sz 3 a4 _ hI (zk_11_1 hI h_o) h)) rfl rfl (Nat.le_of_ble_eq_true rfl) (z_dec T_X11_slate_ok 27 (55, .invokevirtual 163, 3) rfl) (fun r10 μ9 hzr10 hn => ?_)
            clear h
            have h := hn
            clear hn
            refine zx_if_ne (pc := 58) (tgt := 63) G rfl (z_dec T_X11_slate_ok 28 (58, .ifCond .ne 5, 3) rfl) (fun hc => ?_) (fun hc => ?_)
            · replace h := z_neg hc h
              refine zx_sub (lv' := [(2, .int (a2)), (3, .int (a3)), (4, .int (a4)), (5, .ref (o5))]) [4, 5, 6, 1] rfl ?_
              exact L_X11_slate_63_ok G hr hlk hI (hfr2 o5 rfl) h
            · replace h := z_pos hc h
              refine zx_iconst (pc := 61) (v := 0) G (z_dec T_X11_slate_ok 29 (61, .iconst 0, 1) rfl) rfl ?_
              exact zx_zret (pc := 62) G hr hlk (Nat.le_refl _) (Nat.le_refl _) (Or.inl rfl) (z_dec T_X11_slate_ok 30 (62, .ireturn, 1) rfl) ⟨rfl, _, rfl, (Or.inl rfl), h⟩
        · replace h := z_neg hc h
          refine zx_iconst (pc := 41) (v := 0) G (z_dec T_X11_slate_ok 19 (41, .iconst 0, 1) rfl) rfl ?_
          exact zx_zret (pc := 42) G hr hlk (Nat.le_refl _) (Nat.le_refl _) (Or.inl rfl) (z_dec T_X11_slate_ok 20 (42, .ireturn, 1) rfl) ⟨rfl, _, rfl, (Or.inl rfl), h⟩
abbrev rm_X11_step : Room := { frames := 1, cells := 0, slots := 0, locals := 21 }
set_option maxRecDepth 100000 in
set_option maxHeartbeats 4000000 in
theorem met_X11_step (l : Launch) (D : va_G) (ρ : z_A) (kd : z_K) (q : z_Q) (μ : z_M) (sz : Nat) (a1 : Int32) (a2 : Int32) (a3 : Int32) (K : Int32 → z_M → Prop) (hI : z_I kd q) (h_o : kd 0 = some (.inl 11)) (h : C_X11_step kd q a1 a2 a3 μ K) : Met l yX11_step (z_ws yX11_step cX11_step 6 (Option.some Jvm.ClassFile.FieldType.int)) rm_X11_step (z_Pc D ρ kd q μ sz [.ref (0), .int (a1), .int (a2), .int (a3)]) (z_Qn D (z_Rg ρ sz) ρ kd (z_Ki q K)) 0 0 (z_Rg ρ sz) := by
  refine z_met (rm := rm_X11_step) (by decide) (Nat.le_of_ble_eq_true rfl) (fun p e s m args below meth c G hr hlk => ?_)
  unfold C_X11_step at h
  show z_X _ _ _ _ _ _ _ _ _ _ _ _ _ _ _ _ _ _ _ _ _ [(0, .ref (0)), (1, .int (a1)), (2, .int (a2)), (3, .int (a3))] _
  refine zx_aload_n (pc := 0) G (some (0)) 0 rfl rfl (z_dec T_X11_step_ok 0 (0, .aload_n 0, 1) rfl) ?_
  refine zx_iload_n (pc := 1) G 1 rfl rfl (z_dec T_X11_step_ok 1 (1, .iload_n 1, 1) rfl) ?_
  refine zx_callV_rN (pc := 2) (rm := rm_X11_bookAt) G cw_RX11_141 ⟨Nat.le_of_ble_eq_true rfl, Nat.le_of_ble_eq_true rfl⟩ rfl rfl ⟨Nat.zero_le _, Nat.zero_le _⟩ h_o rfl (fun sz => (met_X11_bookAt l D ρ kd q μ sz a1 _ hI h_o h)) rfl rfl (Nat.le_of_ble_eq_true rfl) (z_dec T_X11_step_ok 2 (2, .invokevirtual 141, 3) rfl) (fun r2 μ1 hfr2 hn => ?_)
  clear h
  have h := hn
  clear hn
  refine zx_astore (pc := 5) (lv' := [(4, va_rf (r2)), (0, .ref (0)), (1, .int (a1)), (2, .int (a2)), (3, .int (a3))]) G (r2) (Nat.le_of_ble_eq_true rfl) rfl (z_dec T_X11_step_ok 3 (5, .astore 4, 2) rfl) ?_
  refine zx_aload_n (pc := 7) G (some (0)) 1 rfl rfl (z_dec T_X11_step_ok 4 (7, .aload_n 0, 1) rfl) ?_
  refine zx_iload_n (pc := 8) G 3 rfl rfl (z_dec T_X11_step_ok 5 (8, .iload_n 2, 1) rfl) ?_
  refine zx_callV_rN (pc := 9) (rm := rm_X11_raceAt) G cw_RX11_98 ⟨Nat.le_of_ble_eq_true rfl, Nat.le_of_ble_eq_true rfl⟩ rfl rfl ⟨Nat.zero_le _, Nat.zero_le _⟩ h_o rfl (fun sz => (met_X11_raceAt l D ρ kd q μ1 sz a2 _ hI h_o h)) rfl rfl (Nat.le_of_ble_eq_true rfl) (z_dec T_X11_step_ok 6 (9, .invokevirtual 98, 3) rfl) (fun r4 μ3 hfr4 hn => ?_)
  clear h
  have h := hn
  clear hn
  refine zx_astore (pc := 12) (lv' := [(5, va_rf (r4)), (4, va_rf (r2)), (0, .ref (0)), (1, .int (a1)), (2, .int (a2)), (3, .int (a3))]) G (r4) (Nat.le_of_ble_eq_true rfl) (by cases r2 <;> rfl) (z_dec T_X11_step_ok 7 (12, .astore 5, 2) rfl) ?_
  refine zx_aload (pc := 14) G (r2) 1 rfl (z_dec T_X11_step_ok 8 (14, .aload 4, 2) rfl) ?_
  obtain ⟨h1, h2⟩ := h
  rcases r2 with _ | o5
  · replace h := h1 rfl
    refine zx_ifnullN (pc := 16) (tgt := 33) G rfl (z_dec T_X11_step_ok 9 (16, .ifnull 17, 3) rfl) ?_
    refine zx_iconst (pc := 33) (v := -1) G (z_dec T_X11_step_ok 16 (33, .iconst (-1), 1) rfl) rfl ?_
    exact zx_iret (pc := 34) G hr hlk (Nat.le_refl _) (Nat.le_refl _) (z_dec T_X11_step_ok 17 (34, .ireturn, 1) rfl) ⟨rfl, _, rfl, h⟩
  · replace h := h2 o5 rfl
    refine zx_ifnullS (pc := 16) G (hfr2 o5 rfl) (z_dec T_X11_step_ok 9 (16, .ifnull 17, 3) rfl) ?_
    refine zx_aload (pc := 19) G (r4) 0 rfl (z_dec T_X11_step_ok 10 (19, .aload 5, 2) rfl) ?_
    obtain ⟨h1, h2⟩ := h
    rcases r4 with _ | o6
    · replace h := h1 rfl
      refine zx_ifnullN (pc := 21) (tgt := 33) G rfl (z_dec T_X11_step_ok 11 (21, .ifnull 12, 3) rfl) ?_
      refine zx_iconst (pc := 33) (v := -1) G (z_dec T_X11_step_ok 16 (33, .iconst (-1), 1) rfl) rfl ?_
      exact zx_iret (pc := 34) G hr hlk (Nat.le_refl _) (Nat.le_refl _) (z_dec T_X11_step_ok 17 (34, .ireturn, 1) rfl) ⟨rfl, _, rfl, h⟩
    · replace h := h2 o6 rfl
      refine zx_ifnullS (pc := 21) G (hfr4 o6 rfl) (z_dec T_X11_step_ok 11 (21, .ifnull 12, 3) rfl) ?_
      refine zx_aload (pc := 24) G (some (o6)) 0 rfl (z_dec T_X11_step_ok 12 (24, .aload 5, 2) rfl) ?_
      refine zx_iload_n (pc := 26) G 5 rfl rfl (z_dec T_X11_step_ok 13 (26, .iload_n 3, 1) rfl) ?_
      refine zx_callV_zN (pc := 27) (rm := rm_X6_holds) G cw_RX11_172 ⟨Nat.le_of_ble_eq_true rfl, Nat.le_of_ble_eq_true rfl⟩ rfl rfl ⟨Nat.zero_le _, Nat.zero_le _⟩ (hfr4 o6 rfl) rfl (fun sz => (met_X6_holds l D ρ kd q μ3 sz o6 a3 _ hI (hfr4 o6 rfl) h)) rfl rfl (Nat.le_of_ble_eq_true rfl) (z_dec T_X11_step_ok 14 (27, .invokevirtual 172, 3) rfl) (fun r8 μ7 hzr8 hn => ?_)
      clear h
      have h := hn
      clear hn
      refine zx_if_ne (pc := 30) (tgt := 35) G rfl (z_dec T_X11_step_ok 15 (30, .ifCond .ne 5, 3) rfl) (fun hc => ?_) (fun hc => ?_)
      · replace h := z_neg hc h
        refine zx_aload (pc := 35) G (some (o5)) 1 rfl (z_dec T_X11_step_ok 18 (35, .aload 4, 2) rfl) ?_
        refine zx_getF (pc := 37) (b := o5 + 1) G gf_RX11_166 rfl (hfr2 o5 rfl) (zq_1_3 hI (hfr2 o5 rfl)) (z_dec T_X11_step_ok 19 (37, .getfield 166, 3) rfl) ?_
        refine zx_iload_n (pc := 40) G 4 rfl rfl (z_dec T_X11_step_ok 20 (40, .iload_n 2, 1) rfl) ?_
        refine zx_iload_n (pc := 41) G 5 rfl rfl (z_dec T_X11_step_ok 21 (41, .iload_n 3, 1) rfl) ?_
        refine zx_callS_iN (pc := 42) (rm := rm_X11_spot) G cw_RX11_168 ⟨Nat.le_of_ble_eq_true rfl, Nat.le_of_ble_eq_true rfl⟩ rfl rfl ⟨Nat.zero_le _, Nat.zero_le _⟩ (fun sz => (met_X11_spot l D ρ kd q μ7 sz a2 a3 _ hI h)) rfl rfl (Nat.le_of_ble_eq_true rfl) (z_dec T_X11_step_ok 22 (42, .invokestatic 168, 3) rfl) (fun r10 μ9 hn => ?_)
        clear h
        have h := hn
        clear hn
        obtain ⟨c11, h⟩ := h
        refine zx_iald (pc := 45) G (zk_1_3 hI (hfr2 o5 rfl)) c11 (z_dec T_X11_step_ok 23 (45, .iaload, 1) rfl) ?_
        exact zx_iret (pc := 46) G hr hlk (Nat.le_refl _) (Nat.le_refl _) (z_dec T_X11_step_ok 24 (46, .ireturn, 1) rfl) ⟨rfl, _, rfl, h⟩
      · replace h := z_pos hc h
        refine zx_iconst (pc := 33) (v := -1) G (z_dec T_X11_step_ok 16 (33, .iconst (-1), 1) rfl) rfl ?_
        exact zx_iret (pc := 34) G hr hlk (Nat.le_refl _) (Nat.le_refl _) (z_dec T_X11_step_ok 17 (34, .ireturn, 1) rfl) ⟨rfl, _, rfl, h⟩
abbrev rm_X11_scratch : Room := { frames := 3, cells := 0, slots := 0, locals := 63 }
set_option maxRecDepth 100000 in
set_option maxHeartbeats 4000000 in
theorem B_X11_scratch_47_ok {p : Program} {l : Launch} {e : Env} {s : State} {m : MethodId} {args : Array Value} {below : List Frame} {meth : Method} {c : Code} {D : va_G} {A : Nat → Prop} {ρ : z_A} {kd : z_K} {q : z_Q} {μ : z_M} {K : Int32 → z_M → Prop} {P47 : Int32 → Int32 → Int32 → z_M → Prop} {v1 : Int32} {v2 : Int32} {v4 : Int32} (G : z_G p c cX11_scratch s m args RX11 6 D) (hr : meth.sig.returnType = (Option.some Jvm.ClassFile.FieldType.boolean)) (hlk : meth.locks = false) (hP47 : ∀ (v1 : Int32) (v2 : Int32) (v4 : Int32) (μ : z_M), P47 v1 v2 v4 μ → (kd 0 = some (.inl 11)) → z_X p l e rm_X11_scratch s m args below meth c 6 D A (MQ below (z_Qn D A ρ kd (z_Kz q K)) args s 0 0 A) 0 0 ρ kd q μ 47 [(0, .ref (0)), (1, .int (v1)), (2, .int (v2)), (4, .int (v4))] []) (hI : z_I kd q) (f_l0 : kd 0 = some (.inl 11)) (h : B_X11_scratch_47 kd q K P47 v1 v2 v4 μ) : z_X p l e rm_X11_scratch s m args below meth c 6 D A (MQ below (z_Qn D A ρ kd (z_Kz q K)) args s 0 0 A) 0 0 ρ kd q μ 47 [(0, .ref (0)), (1, .int (v1)), (2, .int (v2)), (4, .int (v4))] [] := by
    unfold B_X11_scratch_47 at h
    refine zx_iload (pc := 47) G 3 rfl (z_dec T_X11_scratch_ok 26 (47, .iload 4, 2) rfl) ?_
    refine zx_aload_n (pc := 49) G (some (0)) 0 rfl rfl (z_dec T_X11_scratch_ok 27 (49, .aload_n 0, 1) rfl) ?_
    refine zx_getI (pc := 50) G gf_RX11_114 rfl f_l0 (z_dec T_X11_scratch_ok 28 (50, .getfield 114, 3) rfl) ?_
    refine zx_icmp_ge (pc := 53) (tgt := 85) G rfl (z_dec T_X11_scratch_ok 29 (53, .if_icmp .ge 32, 3) rfl) (fun hc => ?_) (fun hc => ?_)
    · replace h := z_pos hc h
      refine zx_iconst (pc := 85) (v := 1) G (z_dec T_X11_scratch_ok 43 (85, .iconst 1, 1) rfl) rfl ?_
      exact zx_zret (pc := 86) G hr hlk (Nat.le_refl _) (Nat.le_refl _) (Or.inr rfl) (z_dec T_X11_scratch_ok 44 (86, .ireturn, 1) rfl) ⟨rfl, _, rfl, (Or.inr rfl), h⟩
    · replace h := z_neg hc h
      refine zx_aload_n (pc := 56) G (some (0)) 0 rfl rfl (z_dec T_X11_scratch_ok 30 (56, .aload_n 0, 1) rfl) ?_
      refine zx_iload (pc := 57) G 3 rfl (z_dec T_X11_scratch_ok 31 (57, .iload 4, 2) rfl) ?_
      refine zx_callV_rN (pc := 59) (rm := rm_X11_bookAt) G cw_RX11_141 ⟨Nat.le_of_ble_eq_true rfl, Nat.le_of_ble_eq_true rfl⟩ rfl rfl ⟨Nat.zero_le _, Nat.zero_le _⟩ f_l0 rfl (fun sz => (met_X11_bookAt l D ρ kd q μ sz v4 _ hI f_l0 h)) rfl rfl (Nat.le_of_ble_eq_true rfl) (z_dec T_X11_scratch_ok 32 (59, .invokevirtual 141, 3) rfl) (fun r2 μ1 hfr2 hn => ?_)
      clear h
      have h := hn
      clear hn
      refine zx_astore (pc := 62) (lv' := [(5, va_rf (r2)), (0, .ref (0)), (1, .int (v1)), (2, .int (v2)), (4, .int (v4))]) G (r2) (Nat.le_of_ble_eq_true rfl) rfl (z_dec T_X11_scratch_ok 33 (62, .astore 5, 2) rfl) ?_
      refine zx_aload (pc := 64) G (r2) 0 rfl (z_dec T_X11_scratch_ok 34 (64, .aload 5, 2) rfl) ?_
      obtain ⟨h1, h2⟩ := h
      rcases r2 with _ | o3
      · replace h := h1 rfl
        refine zx_ifnullN (pc := 66) (tgt := 79) G rfl (z_dec T_X11_scratch_ok 35 (66, .ifnull 13, 3) rfl) ?_
        refine zx_iinc (pc := 79) (v := v4 + 1) (lv' := [(4, .int (v4 + 1)), (5, va_rf (none)), (0, .ref (0)), (1, .int (v1)), (2, .int (v2))]) G 4 rfl (z_inc (by decide)) (Nat.le_of_ble_eq_true rfl) rfl (z_dec T_X11_scratch_ok 41 (79, .iinc 4 1, 3) rfl) ?_
        refine zx_goto (pc := 82) (tgt := 47) G rfl (z_dec T_X11_scratch_ok 42 (82, .goto (-35), 3) rfl) ?_
        refine zx_sub (lv' := [(0, .ref (0)), (1, .int (v1)), (2, .int (v2)), (4, .int (v4 + 1))]) [2, 3, 4, 0] rfl ?_
        exact hP47 _ _ _ _ h f_l0
      · replace h := h2 o3 rfl
        refine zx_ifnullS (pc := 66) G (hfr2 o3 rfl) (z_dec T_X11_scratch_ok 35 (66, .ifnull 13, 3) rfl) ?_
        refine zx_aload (pc := 69) G (some (o3)) 0 rfl (z_dec T_X11_scratch_ok 36 (69, .aload 5, 2) rfl) ?_
        refine zx_iload_n (pc := 71) G 2 rfl rfl (z_dec T_X11_scratch_ok 37 (71, .iload_n 1, 1) rfl) ?_
        refine zx_iload_n (pc := 72) G 3 rfl rfl (z_dec T_X11_scratch_ok 38 (72, .iload_n 2, 1) rfl) ?_
        refine zx_callS_iN (pc := 73) (rm := rm_X11_spot) G cw_RX11_168 ⟨Nat.le_of_ble_eq_true rfl, Nat.le_of_ble_eq_true rfl⟩ rfl rfl ⟨Nat.zero_le _, Nat.zero_le _⟩ (fun sz => (met_X11_spot l D ρ kd q μ1 sz v1 v2 _ hI h)) rfl rfl (Nat.le_of_ble_eq_true rfl) (z_dec T_X11_scratch_ok 39 (73, .invokestatic 168, 3) rfl) (fun r5 μ4 hn => ?_)
        clear h
        have h := hn
        clear hn
        refine zx_callV_vN (pc := 76) (rm := rm_X1_lose) G cw_RX11_211 ⟨Nat.le_of_ble_eq_true rfl, Nat.le_of_ble_eq_true rfl⟩ rfl rfl ⟨Nat.zero_le _, Nat.zero_le _⟩ (hfr2 o3 rfl) rfl (fun sz => (met_X1_lose l D ρ kd q μ4 sz o3 r5 _ hI (hfr2 o3 rfl) h)) rfl rfl (Nat.le_of_ble_eq_true rfl) (z_dec T_X11_scratch_ok 40 (76, .invokevirtual 211, 3) rfl) (fun μ6 hn => ?_)
        clear h
        have h := hn
        clear hn
        refine zx_iinc (pc := 79) (v := v4 + 1) (lv' := [(4, .int (v4 + 1)), (5, .ref (o3)), (0, .ref (0)), (1, .int (v1)), (2, .int (v2))]) G 4 rfl (z_inc (by decide)) (Nat.le_of_ble_eq_true rfl) rfl (z_dec T_X11_scratch_ok 41 (79, .iinc 4 1, 3) rfl) ?_
        refine zx_goto (pc := 82) (tgt := 47) G rfl (z_dec T_X11_scratch_ok 42 (82, .goto (-35), 3) rfl) ?_
        refine zx_sub (lv' := [(0, .ref (0)), (1, .int (v1)), (2, .int (v2)), (4, .int (v4 + 1))]) [2, 3, 4, 0] rfl ?_
        exact hP47 _ _ _ _ h f_l0
set_option maxRecDepth 100000 in
set_option maxHeartbeats 4000000 in
theorem L_X11_scratch_47_ok {p : Program} {l : Launch} {e : Env} {s : State} {m : MethodId} {args : Array Value} {below : List Frame} {meth : Method} {c : Code} {D : va_G} {A : Nat → Prop} {ρ : z_A} {kd : z_K} {q : z_Q} {μ : z_M} {K : Int32 → z_M → Prop} {v1 : Int32} {v2 : Int32} {v4 : Int32} (G : z_G p c cX11_scratch s m args RX11 6 D) (hr : meth.sig.returnType = (Option.some Jvm.ClassFile.FieldType.boolean)) (hlk : meth.locks = false) (hI : z_I kd q) (f_l0 : kd 0 = some (.inl 11)) (h : L_X11_scratch_47 kd q K v1 v2 v4 μ) : z_X p l e rm_X11_scratch s m args below meth c 6 D A (MQ below (z_Qn D A ρ kd (z_Kz q K)) args s 0 0 A) 0 0 ρ kd q μ 47 [(0, .ref (0)), (1, .int (v1)), (2, .int (v2)), (4, .int (v4))] [] :=
  h (fun (v1 : Int32) (v2 : Int32) (v4 : Int32) (μ : z_M) => (kd 0 = some (.inl 11)) → z_X p l e rm_X11_scratch s m args below meth c 6 D A (MQ below (z_Qn D A ρ kd (z_Kz q K)) args s 0 0 A) 0 0 ρ kd q μ 47 [(0, .ref (0)), (1, .int (v1)), (2, .int (v2)), (4, .int (v4))] []) (fun v1 v2 v4 μ h f_l0 => B_X11_scratch_47_ok G hr hlk (fun _ _ _ _ h => h) hI f_l0 h) f_l0
set_option maxRecDepth 100000 in
set_option maxHeartbeats 4000000 in
theorem met_X11_scratch (l : Launch) (D : va_G) (ρ : z_A) (kd : z_K) (q : z_Q) (μ : z_M) (sz : Nat) (a1 : Int32) (a2 : Int32) (K : Int32 → z_M → Prop) (hI : z_I kd q) (h_o : kd 0 = some (.inl 11)) (h : C_X11_scratch kd q a1 a2 μ K) : Met l yX11_scratch (z_ws yX11_scratch cX11_scratch 6 (Option.some Jvm.ClassFile.FieldType.boolean)) rm_X11_scratch (z_Pc D ρ kd q μ sz [.ref (0), .int (a1), .int (a2)]) (z_Qn D (z_Rg ρ sz) ρ kd (z_Kz q K)) 0 0 (z_Rg ρ sz) := by
  refine z_met (rm := rm_X11_scratch) (by decide) (Nat.le_of_ble_eq_true rfl) (fun p e s m args below meth c G hr hlk => ?_)
  unfold C_X11_scratch at h
  show z_X _ _ _ _ _ _ _ _ _ _ _ _ _ _ _ _ _ _ _ _ _ [(0, .ref (0)), (1, .int (a1)), (2, .int (a2))] _
  refine zx_aload_n (pc := 0) G (some (0)) 0 rfl rfl (z_dec T_X11_scratch_ok 0 (0, .aload_n 0, 1) rfl) ?_
  refine zx_iload_n (pc := 1) G 1 rfl rfl (z_dec T_X11_scratch_ok 1 (1, .iload_n 1, 1) rfl) ?_
  refine zx_callV_rN (pc := 2) (rm := rm_X11_raceAt) G cw_RX11_98 ⟨Nat.le_of_ble_eq_true rfl, Nat.le_of_ble_eq_true rfl⟩ rfl rfl ⟨Nat.zero_le _, Nat.zero_le _⟩ h_o rfl (fun sz => (met_X11_raceAt l D ρ kd q μ sz a1 _ hI h_o h)) rfl rfl (Nat.le_of_ble_eq_true rfl) (z_dec T_X11_scratch_ok 2 (2, .invokevirtual 98, 3) rfl) (fun r2 μ1 hfr2 hn => ?_)
  clear h
  have h := hn
  clear hn
  refine zx_astore_n (pc := 5) (lv' := [(3, va_rf (r2)), (0, .ref (0)), (1, .int (a1)), (2, .int (a2))]) G (r2) rfl (Nat.le_of_ble_eq_true rfl) rfl (z_dec T_X11_scratch_ok 3 (5, .astore_n 3, 1) rfl) ?_
  refine zx_aload_n (pc := 6) G (r2) 0 rfl rfl (z_dec T_X11_scratch_ok 4 (6, .aload_n 3, 1) rfl) ?_
  obtain ⟨h1, h2⟩ := h
  rcases r2 with _ | o3
  · replace h := h1 rfl
    refine zx_ifnullN (pc := 7) (tgt := 33) G rfl (z_dec T_X11_scratch_ok 5 (7, .ifnull 26, 3) rfl) ?_
    refine zx_iconst (pc := 33) (v := 0) G (z_dec T_X11_scratch_ok 17 (33, .iconst 0, 1) rfl) rfl ?_
    exact zx_zret (pc := 34) G hr hlk (Nat.le_refl _) (Nat.le_refl _) (Or.inl rfl) (z_dec T_X11_scratch_ok 18 (34, .ireturn, 1) rfl) ⟨rfl, _, rfl, (Or.inl rfl), h⟩
  · replace h := h2 o3 rfl
    refine zx_ifnullS (pc := 7) G (hfr2 o3 rfl) (z_dec T_X11_scratch_ok 5 (7, .ifnull 26, 3) rfl) ?_
    refine zx_aload_n (pc := 10) G (some (o3)) 0 rfl rfl (z_dec T_X11_scratch_ok 6 (10, .aload_n 3, 1) rfl) ?_
    refine zx_iload_n (pc := 11) G 3 rfl rfl (z_dec T_X11_scratch_ok 7 (11, .iload_n 2, 1) rfl) ?_
    refine zx_callV_zN (pc := 12) (rm := rm_X6_runs) G cw_RX11_156 ⟨Nat.le_of_ble_eq_true rfl, Nat.le_of_ble_eq_true rfl⟩ rfl rfl ⟨Nat.zero_le _, Nat.zero_le _⟩ (hfr2 o3 rfl) rfl (fun sz => (met_X6_runs l D ρ kd q μ1 sz o3 a2 _ hI (hfr2 o3 rfl) h)) rfl rfl (Nat.le_of_ble_eq_true rfl) (z_dec T_X11_scratch_ok 8 (12, .invokevirtual 156, 3) rfl) (fun r5 μ4 hzr5 hn => ?_)
    clear h
    have h := hn
    clear hn
    refine zx_if_eq (pc := 15) (tgt := 33) G rfl (z_dec T_X11_scratch_ok 9 (15, .ifCond .eq 18, 3) rfl) (fun hc => ?_) (fun hc => ?_)
    · replace h := z_pos hc h
      refine zx_iconst (pc := 33) (v := 0) G (z_dec T_X11_scratch_ok 17 (33, .iconst 0, 1) rfl) rfl ?_
      exact zx_zret (pc := 34) G hr hlk (Nat.le_refl _) (Nat.le_refl _) (Or.inl rfl) (z_dec T_X11_scratch_ok 18 (34, .ireturn, 1) rfl) ⟨rfl, _, rfl, (Or.inl rfl), h⟩
    · replace h := z_neg hc h
      refine zx_aload_n (pc := 18) G (some (o3)) 0 rfl rfl (z_dec T_X11_scratch_ok 10 (18, .aload_n 3, 1) rfl) ?_
      refine zx_getZ (pc := 19) G gf_RX11_159 rfl (hfr2 o3 rfl) (z_dec T_X11_scratch_ok 11 (19, .getfield 159, 3) rfl) ?_
      refine zx_if_ne (pc := 22) (tgt := 33) G rfl (z_dec T_X11_scratch_ok 12 (22, .ifCond .ne 11, 3) rfl) (fun hc => ?_) (fun hc => ?_)
      · replace h := z_neg hc h
        refine zx_iconst (pc := 33) (v := 0) G (z_dec T_X11_scratch_ok 17 (33, .iconst 0, 1) rfl) rfl ?_
        exact zx_zret (pc := 34) G hr hlk (Nat.le_refl _) (Nat.le_refl _) (Or.inl rfl) (z_dec T_X11_scratch_ok 18 (34, .ireturn, 1) rfl) ⟨rfl, _, rfl, (Or.inl rfl), h⟩
      · replace h := z_pos hc h
        refine zx_aload_n (pc := 25) G (some (o3)) 0 rfl rfl (z_dec T_X11_scratch_ok 13 (25, .aload_n 3, 1) rfl) ?_
        refine zx_callV_iN (pc := 26) (rm := rm_X6_left) G cw_RX11_204 ⟨Nat.le_of_ble_eq_true rfl, Nat.le_of_ble_eq_true rfl⟩ rfl rfl ⟨Nat.zero_le _, Nat.zero_le _⟩ (hfr2 o3 rfl) rfl (fun sz => (met_X6_left l D ρ kd q μ4 sz o3 _ hI (hfr2 o3 rfl) h)) rfl rfl (Nat.le_of_ble_eq_true rfl) (z_dec T_X11_scratch_ok 14 (26, .invokevirtual 204, 3) rfl) (fun r7 μ6 hn => ?_)
        clear h
        have h := hn
        clear hn
        refine zx_iconst (pc := 29) (v := 2) G (z_dec T_X11_scratch_ok 15 (29, .iconst 2, 1) rfl) rfl ?_
        refine zx_icmp_gt (pc := 30) (tgt := 35) G rfl (z_dec T_X11_scratch_ok 16 (30, .if_icmp .gt 5, 3) rfl) (fun hc => ?_) (fun hc => ?_)
        · replace h := z_pos hc h
          refine zx_aload_n (pc := 35) G (some (o3)) 0 rfl rfl (z_dec T_X11_scratch_ok 19 (35, .aload_n 3, 1) rfl) ?_
          refine zx_iload_n (pc := 36) G 3 rfl rfl (z_dec T_X11_scratch_ok 20 (36, .iload_n 2, 1) rfl) ?_
          refine zx_aload_n (pc := 37) G (some (0)) 1 rfl rfl (z_dec T_X11_scratch_ok 21 (37, .aload_n 0, 1) rfl) ?_
          refine zx_getI (pc := 38) G gf_RX11_194 rfl h_o (z_dec T_X11_scratch_ok 22 (38, .getfield 194, 3) rfl) ?_
          refine zx_callV_vN (pc := 41) (rm := rm_X6_lose) G cw_RX11_208 ⟨Nat.le_of_ble_eq_true rfl, Nat.le_of_ble_eq_true rfl⟩ rfl rfl ⟨Nat.zero_le _, Nat.zero_le _⟩ (hfr2 o3 rfl) rfl (fun sz => (met_X6_lose l D ρ kd q μ6 sz o3 a2 (μ6.1 0 15) _ hI (hfr2 o3 rfl) h)) rfl rfl (Nat.le_of_ble_eq_true rfl) (z_dec T_X11_scratch_ok 23 (41, .invokevirtual 208, 3) rfl) (fun μ8 hn => ?_)
          clear h
          have h := hn
          clear hn
          refine zx_iconst (pc := 44) (v := 0) G (z_dec T_X11_scratch_ok 24 (44, .iconst 0, 1) rfl) rfl ?_
          refine zx_istore (pc := 45) (lv' := [(4, .int ((0 : Int32))), (3, .ref (o3)), (0, .ref (0)), (1, .int (a1)), (2, .int (a2))]) G (Nat.le_of_ble_eq_true rfl) rfl (z_dec T_X11_scratch_ok 25 (45, .istore 4, 2) rfl) ?_
          refine zx_sub (lv' := [(0, .ref (0)), (1, .int (a1)), (2, .int (a2)), (4, .int ((0 : Int32)))]) [2, 3, 4, 0] rfl ?_
          exact L_X11_scratch_47_ok G hr hlk hI h_o h
        · replace h := z_neg hc h
          refine zx_iconst (pc := 33) (v := 0) G (z_dec T_X11_scratch_ok 17 (33, .iconst 0, 1) rfl) rfl ?_
          exact zx_zret (pc := 34) G hr hlk (Nat.le_refl _) (Nat.le_refl _) (Or.inl rfl) (z_dec T_X11_scratch_ok 18 (34, .ireturn, 1) rfl) ⟨rfl, _, rfl, (Or.inl rfl), h⟩
abbrev rm_X11_allEnded : Room := { frames := 1, cells := 0, slots := 0, locals := 21 }
set_option maxRecDepth 100000 in
set_option maxHeartbeats 4000000 in
theorem B_X11_allEnded_2_ok {p : Program} {l : Launch} {e : Env} {s : State} {m : MethodId} {args : Array Value} {below : List Frame} {meth : Method} {c : Code} {D : va_G} {A : Nat → Prop} {ρ : z_A} {kd : z_K} {q : z_Q} {μ : z_M} {K : Int32 → z_M → Prop} {P2 : Option Nat → Int32 → z_M → Prop} {v1 : Option Nat} {v2 : Int32} (G : z_G p c cX11_allEnded s m args RX11 4 D) (hr : meth.sig.returnType = (Option.some Jvm.ClassFile.FieldType.boolean)) (hlk : meth.locks = false) (hP2 : ∀ (v1 : Option Nat) (v2 : Int32) (μ : z_M), P2 v1 v2 μ → (kd 0 = some (.inl 11)) → (∀ a, v1 = some a → kd a = some (.inl 0)) → z_X p l e rm_X11_allEnded s m args below meth c 4 D A (MQ below (z_Qn D A ρ kd (z_Kz q K)) args s 0 0 A) 0 0 ρ kd q μ 2 [(0, .ref (0)), (1, va_rf (v1)), (2, .int (v2))] []) (hI : z_I kd q) (f_l0 : kd 0 = some (.inl 11)) (f_l1 : ∀ a, v1 = some a → kd a = some (.inl 0)) (h : B_X11_allEnded_2 kd q K P2 v1 v2 μ) : z_X p l e rm_X11_allEnded s m args below meth c 4 D A (MQ below (z_Qn D A ρ kd (z_Kz q K)) args s 0 0 A) 0 0 ρ kd q μ 2 [(0, .ref (0)), (1, va_rf (v1)), (2, .int (v2))] [] := by
    unfold B_X11_allEnded_2 at h
    refine zx_iload_n (pc := 2) G 2 rfl rfl (z_dec T_X11_allEnded_ok 2 (2, .iload_n 2, 1) rfl) ?_
    refine zx_iconst (pc := 3) (v := 3) G (z_dec T_X11_allEnded_ok 3 (3, .iconst 3, 1) rfl) rfl ?_
    refine zx_icmp_ge (pc := 4) (tgt := 41) G rfl (z_dec T_X11_allEnded_ok 4 (4, .if_icmp .ge 37, 3) rfl) (fun hc => ?_) (fun hc => ?_)
    · replace h := z_pos hc h
      refine zx_iconst (pc := 41) (v := 1) G (z_dec T_X11_allEnded_ok 23 (41, .iconst 1, 1) rfl) rfl ?_
      exact zx_zret (pc := 42) G hr hlk (Nat.le_refl _) (Nat.le_refl _) (Or.inr rfl) (z_dec T_X11_allEnded_ok 24 (42, .ireturn, 1) rfl) ⟨rfl, _, rfl, (Or.inr rfl), h⟩
    · replace h := z_neg hc h
      refine zx_aload_n (pc := 7) G (v1) 1 rfl rfl (z_dec T_X11_allEnded_ok 5 (7, .aload_n 1, 1) rfl) ?_
      refine zx_iload_n (pc := 8) G 2 rfl rfl (z_dec T_X11_allEnded_ok 6 (8, .iload_n 2, 1) rfl) ?_
      obtain ⟨o1, rfl, h⟩ := h
      refine zx_callV_iN (pc := 9) (rm := rm_X0_horseIn) G cw_RX11_223 ⟨Nat.le_of_ble_eq_true rfl, Nat.le_of_ble_eq_true rfl⟩ rfl rfl ⟨Nat.zero_le _, Nat.zero_le _⟩ (f_l1 o1 rfl) rfl (fun sz => (met_X0_horseIn l D ρ kd q μ sz o1 v2 _ hI (f_l1 o1 rfl) h)) rfl rfl (Nat.le_of_ble_eq_true rfl) (z_dec T_X11_allEnded_ok 7 (9, .invokevirtual 223, 3) rfl) (fun r3 μ2 hn => ?_)
      clear h
      have h := hn
      clear hn
      refine zx_iconst (pc := 12) (v := -1) G (z_dec T_X11_allEnded_ok 8 (12, .iconst (-1), 1) rfl) rfl ?_
      refine zx_icmp_eq (pc := 13) (tgt := 35) G rfl (z_dec T_X11_allEnded_ok 9 (13, .if_icmp .eq 22, 3) rfl) (fun hc => ?_) (fun hc => ?_)
      · replace h := z_pos hc h
        refine zx_iinc (pc := 35) (v := v2 + 1) (lv' := [(2, .int (v2 + 1)), (0, .ref (0)), (1, .ref (o1))]) G 2 rfl (z_inc (by decide)) (Nat.le_of_ble_eq_true rfl) rfl (z_dec T_X11_allEnded_ok 21 (35, .iinc 2 1, 3) rfl) ?_
        refine zx_goto (pc := 38) (tgt := 2) G rfl (z_dec T_X11_allEnded_ok 22 (38, .goto (-36), 3) rfl) ?_
        refine zx_sub (lv' := [(0, .ref (0)), (1, .ref (o1)), (2, .int (v2 + 1))]) [1, 2, 0] rfl ?_
        exact hP2 _ _ _ h f_l0 (fun a ha => by cases ha; exact (f_l1 o1 rfl))
      · replace h := z_neg hc h
        refine zx_aload_n (pc := 16) G (some (0)) 0 rfl rfl (z_dec T_X11_allEnded_ok 10 (16, .aload_n 0, 1) rfl) ?_
        refine zx_iload_n (pc := 17) G 2 rfl rfl (z_dec T_X11_allEnded_ok 11 (17, .iload_n 2, 1) rfl) ?_
        refine zx_callV_rN (pc := 18) (rm := rm_X11_raceAt) G cw_RX11_98 ⟨Nat.le_of_ble_eq_true rfl, Nat.le_of_ble_eq_true rfl⟩ rfl rfl ⟨Nat.zero_le _, Nat.zero_le _⟩ f_l0 rfl (fun sz => (met_X11_raceAt l D ρ kd q μ2 sz v2 _ hI f_l0 h)) rfl rfl (Nat.le_of_ble_eq_true rfl) (z_dec T_X11_allEnded_ok 12 (18, .invokevirtual 98, 3) rfl) (fun r5 μ4 hfr5 hn => ?_)
        clear h
        have h := hn
        clear hn
        refine zx_astore_n (pc := 21) (lv' := [(3, va_rf (r5)), (0, .ref (0)), (1, .ref (o1)), (2, .int (v2))]) G (r5) rfl (Nat.le_of_ble_eq_true rfl) rfl (z_dec T_X11_allEnded_ok 13 (21, .astore_n 3, 1) rfl) ?_
        refine zx_aload_n (pc := 22) G (r5) 0 rfl rfl (z_dec T_X11_allEnded_ok 14 (22, .aload_n 3, 1) rfl) ?_
        obtain ⟨h1, h2⟩ := h
        rcases r5 with _ | o6
        · replace h := h1 rfl
          refine zx_ifnullN (pc := 23) (tgt := 33) G rfl (z_dec T_X11_allEnded_ok 15 (23, .ifnull 10, 3) rfl) ?_
          refine zx_iconst (pc := 33) (v := 0) G (z_dec T_X11_allEnded_ok 19 (33, .iconst 0, 1) rfl) rfl ?_
          exact zx_zret (pc := 34) G hr hlk (Nat.le_refl _) (Nat.le_refl _) (Or.inl rfl) (z_dec T_X11_allEnded_ok 20 (34, .ireturn, 1) rfl) ⟨rfl, _, rfl, (Or.inl rfl), h⟩
        · replace h := h2 o6 rfl
          refine zx_ifnullS (pc := 23) G (hfr5 o6 rfl) (z_dec T_X11_allEnded_ok 15 (23, .ifnull 10, 3) rfl) ?_
          refine zx_aload_n (pc := 26) G (some (o6)) 0 rfl rfl (z_dec T_X11_allEnded_ok 16 (26, .aload_n 3, 1) rfl) ?_
          refine zx_getZ (pc := 27) G gf_RX11_159 rfl (hfr5 o6 rfl) (z_dec T_X11_allEnded_ok 17 (27, .getfield 159, 3) rfl) ?_
          refine zx_if_ne (pc := 30) (tgt := 35) G rfl (z_dec T_X11_allEnded_ok 18 (30, .ifCond .ne 5, 3) rfl) (fun hc => ?_) (fun hc => ?_)
          · replace h := z_neg hc h
            refine zx_iinc (pc := 35) (v := v2 + 1) (lv' := [(2, .int (v2 + 1)), (3, .ref (o6)), (0, .ref (0)), (1, .ref (o1))]) G 3 rfl (z_inc (by decide)) (Nat.le_of_ble_eq_true rfl) rfl (z_dec T_X11_allEnded_ok 21 (35, .iinc 2 1, 3) rfl) ?_
            refine zx_goto (pc := 38) (tgt := 2) G rfl (z_dec T_X11_allEnded_ok 22 (38, .goto (-36), 3) rfl) ?_
            refine zx_sub (lv' := [(0, .ref (0)), (1, .ref (o1)), (2, .int (v2 + 1))]) [2, 3, 0] rfl ?_
            exact hP2 _ _ _ h f_l0 (fun a ha => by cases ha; exact (f_l1 o1 rfl))
          · replace h := z_pos hc h
            refine zx_iconst (pc := 33) (v := 0) G (z_dec T_X11_allEnded_ok 19 (33, .iconst 0, 1) rfl) rfl ?_
            exact zx_zret (pc := 34) G hr hlk (Nat.le_refl _) (Nat.le_refl _) (Or.inl rfl) (z_dec T_X11_allEnded_ok 20 (34, .ireturn, 1) rfl) ⟨rfl, _, rfl, (Or.inl rfl), h⟩
set_option maxRecDepth 100000 in
set_option maxHeartbeats 4000000 in
theorem L_X11_allEnded_2_ok {p : Program} {l : Launch} {e : Env} {s : State} {m : MethodId} {args : Array Value} {below : List Frame} {meth : Method} {c : Code} {D : va_G} {A : Nat → Prop} {ρ : z_A} {kd : z_K} {q : z_Q} {μ : z_M} {K : Int32 → z_M → Prop} {v1 : Option Nat} {v2 : Int32} (G : z_G p c cX11_allEnded s m args RX11 4 D) (hr : meth.sig.returnType = (Option.some Jvm.ClassFile.FieldType.boolean)) (hlk : meth.locks = false) (hI : z_I kd q) (f_l0 : kd 0 = some (.inl 11)) (f_l1 : ∀ a, v1 = some a → kd a = some (.inl 0)) (h : L_X11_allEnded_2 kd q K v1 v2 μ) : z_X p l e rm_X11_allEnded s m args below meth c 4 D A (MQ below (z_Qn D A ρ kd (z_Kz q K)) args s 0 0 A) 0 0 ρ kd q μ 2 [(0, .ref (0)), (1, va_rf (v1)), (2, .int (v2))] [] :=
  h (fun (v1 : Option Nat) (v2 : Int32) (μ : z_M) => (kd 0 = some (.inl 11)) → (∀ a, v1 = some a → kd a = some (.inl 0)) → z_X p l e rm_X11_allEnded s m args below meth c 4 D A (MQ below (z_Qn D A ρ kd (z_Kz q K)) args s 0 0 A) 0 0 ρ kd q μ 2 [(0, .ref (0)), (1, va_rf (v1)), (2, .int (v2))] []) (fun v1 v2 μ h f_l0 f_l1 => B_X11_allEnded_2_ok G hr hlk (fun _ _ _ h => h) hI f_l0 f_l1 h) f_l0 f_l1
set_option maxRecDepth 100000 in
set_option maxHeartbeats 4000000 in
theorem met_X11_allEnded (l : Launch) (D : va_G) (ρ : z_A) (kd : z_K) (q : z_Q) (μ : z_M) (sz : Nat) (a1 : Option Nat) (K : Int32 → z_M → Prop) (hI : z_I kd q) (h_o : kd 0 = some (.inl 11)) (h_a1 : ∀ a, a1 = some a → kd a = some (.inl 0)) (h : C_X11_allEnded kd q a1 μ K) : Met l yX11_allEnded (z_ws yX11_allEnded cX11_allEnded 4 (Option.some Jvm.ClassFile.FieldType.boolean)) rm_X11_allEnded (z_Pc D ρ kd q μ sz [.ref (0), va_rf (a1)]) (z_Qn D (z_Rg ρ sz) ρ kd (z_Kz q K)) 0 0 (z_Rg ρ sz) := by
  refine z_met (rm := rm_X11_allEnded) (by decide) (by cases a1 <;> exact Nat.le_of_ble_eq_true rfl) (fun p e s m args below meth c G hr hlk => ?_)
  unfold C_X11_allEnded at h
  rw [show lv_args 0 [.ref (0), va_rf (a1)] = [(0, .ref (0)), (1, va_rf (a1))] from by cases a1 <;> rfl]
  refine zx_iconst (pc := 0) (v := 0) G (z_dec T_X11_allEnded_ok 0 (0, .iconst 0, 1) rfl) rfl ?_
  refine zx_istore_n (pc := 1) (lv' := [(2, .int ((0 : Int32))), (0, .ref (0)), (1, va_rf (a1))]) G rfl (Nat.le_of_ble_eq_true rfl) (by cases a1 <;> rfl) (z_dec T_X11_allEnded_ok 1 (1, .istore_n 2, 1) rfl) ?_
  refine zx_sub (lv' := [(0, .ref (0)), (1, va_rf (a1)), (2, .int ((0 : Int32)))]) [1, 2, 0] rfl ?_
  exact L_X11_allEnded_2_ok G hr hlk hI h_o h_a1 h
abbrev rm_X11_betAt : Room := { frames := 0, cells := 0, slots := 0, locals := 0 }
set_option maxRecDepth 100000 in
set_option maxHeartbeats 4000000 in
theorem met_X11_betAt (l : Launch) (D : va_G) (ρ : z_A) (kd : z_K) (q : z_Q) (μ : z_M) (sz : Nat) (a1 : Int32) (K : Option Nat → z_M → Prop) (hI : z_I kd q) (h_o : kd 0 = some (.inl 11)) (h : C_X11_betAt kd q a1 μ K) : Met l yX11_betAt (z_ws yX11_betAt cX11_betAt 2 (Option.some (Jvm.ClassFile.FieldType.object "SlateRing$Bet"))) rm_X11_betAt (z_Pc D ρ kd q μ sz [.ref (0), .int (a1)]) (z_Qn D (z_Rg ρ sz) ρ kd (z_Kr kd 0 q K)) 0 0 (z_Rg ρ sz) := by
  refine z_met (rm := rm_X11_betAt) (by decide) (Nat.le_of_ble_eq_true rfl) (fun p e s m args below meth c G hr hlk => ?_)
  unfold C_X11_betAt at h
  show z_X _ _ _ _ _ _ _ _ _ _ _ _ _ _ _ _ _ _ _ _ _ [(0, .ref (0)), (1, .int (a1))] _
  refine zx_iload_n (pc := 0) G 1 rfl rfl (z_dec T_X11_betAt_ok 0 (0, .iload_n 1, 1) rfl) ?_
  refine zx_if_lt (pc := 1) (tgt := 21) G rfl (z_dec T_X11_betAt_ok 1 (1, .ifCond .lt 20, 3) rfl) (fun hc => ?_) (fun hc => ?_)
  · replace h := z_pos hc h
    refine zx_null (pc := 21) G  (z_dec T_X11_betAt_ok 11 (21, .aconst_null, 1) rfl) ?_
    exact zx_aret (pc := 22) G (none) hr (Or.inl ⟨_, rfl⟩) hlk (Nat.le_refl _) (Nat.le_refl _) (z_dec T_X11_betAt_ok 12 (22, .areturn, 1) rfl) ⟨rfl, _, rfl, (fun a h => by cases h), h⟩
  · replace h := z_neg hc h
    refine zx_iload_n (pc := 4) G 1 rfl rfl (z_dec T_X11_betAt_ok 2 (4, .iload_n 1, 1) rfl) ?_
    refine zx_aload_n (pc := 5) G (some (0)) 0 rfl rfl (z_dec T_X11_betAt_ok 3 (5, .aload_n 0, 1) rfl) ?_
    refine zx_getI (pc := 6) G gf_RX11_194 rfl h_o (z_dec T_X11_betAt_ok 4 (6, .getfield 194, 3) rfl) ?_
    refine zx_icmp_ge (pc := 9) (tgt := 21) G rfl (z_dec T_X11_betAt_ok 5 (9, .if_icmp .ge 12, 3) rfl) (fun hc => ?_) (fun hc => ?_)
    · replace h := z_pos hc h
      refine zx_null (pc := 21) G  (z_dec T_X11_betAt_ok 11 (21, .aconst_null, 1) rfl) ?_
      exact zx_aret (pc := 22) G (none) hr (Or.inl ⟨_, rfl⟩) hlk (Nat.le_refl _) (Nat.le_refl _) (z_dec T_X11_betAt_ok 12 (22, .areturn, 1) rfl) ⟨rfl, _, rfl, (fun a h => by cases h), h⟩
    · replace h := z_neg hc h
      refine zx_aload_n (pc := 12) G (some (0)) 0 rfl rfl (z_dec T_X11_betAt_ok 6 (12, .aload_n 0, 1) rfl) ?_
      refine zx_getF (pc := 13) (b := 8) G gf_RX11_37 rfl h_o (zq_11_4 hI h_o) (z_dec T_X11_betAt_ok 7 (13, .getfield 37, 3) rfl) ?_
      refine zx_iload_n (pc := 16) G 1 rfl rfl (z_dec T_X11_betAt_ok 8 (16, .iload_n 1, 1) rfl) ?_
      obtain ⟨c1, h⟩ := h
      have hh := z_el hI (zk_11_4 hI h_o) (z_inlt c1)
      refine zx_aald (pc := 17) (t := 0) G (zk_11_4 hI h_o) c1 (z_dec T_X11_betAt_ok 9 (17, .aaload, 1) rfl) ?_
      generalize ew2 : q 8 a1.toNatClampNeg = w2 at hh ⊢
      have fw2 := hh
      replace h := h w2 ew2.symm
      refine zx_goto (pc := 18) (tgt := 22) G rfl (z_dec T_X11_betAt_ok 10 (18, .goto 4, 3) rfl) ?_
      exact zx_aret (pc := 22) G (w2) hr (Or.inl ⟨_, rfl⟩) hlk (Nat.le_refl _) (Nat.le_refl _) (z_dec T_X11_betAt_ok 12 (22, .areturn, 1) rfl) ⟨rfl, _, rfl, fw2, h⟩
abbrev rm_X11_joinedBack : Room := { frames := 2, cells := 0, slots := 0, locals := 42 }
set_option maxRecDepth 100000 in
set_option maxHeartbeats 4000000 in
theorem B_X11_joinedBack_13_ok {p : Program} {l : Launch} {e : Env} {s : State} {m : MethodId} {args : Array Value} {below : List Frame} {meth : Method} {c : Code} {D : va_G} {A : Nat → Prop} {ρ : z_A} {kd : z_K} {q : z_Q} {μ : z_M} {K : Int32 → z_M → Prop} {P13 : Nat → Int32 → Int64 → Int32 → Int32 → z_M → Prop} {v1 : Nat} {v2 : Int32} {v3 : Int64} {v5 : Int32} {v6 : Int32} (G : z_G p c cX11_joinedBack s m args RX11 11 D) (hr : meth.sig.returnType = (Option.some Jvm.ClassFile.FieldType.int)) (hlk : meth.locks = false) (hP13 : ∀ (v1 : Nat) (v2 : Int32) (v3 : Int64) (v5 : Int32) (v6 : Int32) (μ : z_M), P13 v1 v2 v3 v5 v6 μ → (kd 0 = some (.inl 11)) → (kd v1 = some (.inl 0)) → z_X p l e rm_X11_joinedBack s m args below meth c 11 D A (MQ below (z_Qn D A ρ kd (z_Ki q K)) args s 0 0 A) 0 0 ρ kd q μ 13 [(0, .ref (0)), (1, .ref (v1)), (2, .int (v2)), (3, .long (v3)), (5, .int (v5)), (6, .int (v6))] []) (hI : z_I kd q) (f_l0 : kd 0 = some (.inl 11)) (f_l1 : kd v1 = some (.inl 0)) (h : B_X11_joinedBack_13 kd q K P13 v1 v2 v3 v5 v6 μ) : z_X p l e rm_X11_joinedBack s m args below meth c 11 D A (MQ below (z_Qn D A ρ kd (z_Ki q K)) args s 0 0 A) 0 0 ρ kd q μ 13 [(0, .ref (0)), (1, .ref (v1)), (2, .int (v2)), (3, .long (v3)), (5, .int (v5)), (6, .int (v6))] [] := by
    unfold B_X11_joinedBack_13 at h
    refine zx_iload (pc := 13) G 5 rfl (z_dec T_X11_joinedBack_ok 9 (13, .iload 6, 2) rfl) ?_
    refine zx_iconst (pc := 15) (v := 3) G (z_dec T_X11_joinedBack_ok 10 (15, .iconst 3, 1) rfl) rfl ?_
    refine zx_icmp_ge (pc := 16) (tgt := 137) G rfl (z_dec T_X11_joinedBack_ok 11 (16, .if_icmp .ge 121, 3) rfl) (fun hc => ?_) (fun hc => ?_)
    · replace h := z_pos hc h
      refine zx_iload_n (pc := 137) G 2 rfl rfl (z_dec T_X11_joinedBack_ok 71 (137, .iload_n 2, 1) rfl) ?_
      refine zx_i2l (pc := 138) G  (z_dec T_X11_joinedBack_ok 72 (138, .i2l, 1) rfl) ?_
      refine zx_lload_n (pc := 139) G 3 rfl rfl (z_dec T_X11_joinedBack_ok 73 (139, .lload_n 3, 1) rfl) ?_
      refine zx_lmul (pc := 140) G  (z_dec T_X11_joinedBack_ok 74 (140, .lmul, 1) rfl) ?_
      refine zx_iload (pc := 141) G 4 rfl (z_dec T_X11_joinedBack_ok 75 (141, .iload 5, 2) rfl) ?_
      refine zx_iconst (pc := 143) (v := 1) G (z_dec T_X11_joinedBack_ok 76 (143, .iconst 1, 1) rfl) rfl ?_
      refine zx_mmax (pc := 144) G wm_RX11_464 ⟨Nat.le_of_ble_eq_true rfl, Nat.le_of_ble_eq_true rfl, Nat.zero_le _, Nat.zero_le _⟩ (z_dec T_X11_joinedBack_ok 77 (144, .invokestatic 464, 3) rfl) ?_
      refine zx_i2l (pc := 147) G  (z_dec T_X11_joinedBack_ok 78 (147, .i2l, 1) rfl) ?_
      obtain ⟨c1, h⟩ := h
      refine zx_ldiv (pc := 148) G c1 (z_dec T_X11_joinedBack_ok 79 (148, .ldiv, 1) rfl) ?_
      refine zx_ldc2 (pc := 149) G wk_RX11_469 (z_dec T_X11_joinedBack_ok 80 (149, .ldc2_w 469, 3) rfl) ?_
      refine zx_mminL (pc := 152) G wm_RX11_471 ⟨Nat.le_of_ble_eq_true rfl, Nat.le_of_ble_eq_true rfl, Nat.zero_le _, Nat.zero_le _⟩ (z_dec T_X11_joinedBack_ok 81 (152, .invokestatic 471, 3) rfl) ?_
      refine zx_l2i (pc := 155) G  (z_dec T_X11_joinedBack_ok 82 (155, .l2i, 1) rfl) ?_
      exact zx_iret (pc := 156) G hr hlk (Nat.le_refl _) (Nat.le_refl _) (z_dec T_X11_joinedBack_ok 83 (156, .ireturn, 1) rfl) ⟨rfl, _, rfl, h⟩
    · replace h := z_neg hc h
      refine zx_aload_n (pc := 19) G (some (v1)) 1 rfl rfl (z_dec T_X11_joinedBack_ok 12 (19, .aload_n 1, 1) rfl) ?_
      refine zx_iload (pc := 20) G 5 rfl (z_dec T_X11_joinedBack_ok 13 (20, .iload 6, 2) rfl) ?_
      refine zx_callV_iN (pc := 22) (rm := rm_X0_horseIn) G cw_RX11_223 ⟨Nat.le_of_ble_eq_true rfl, Nat.le_of_ble_eq_true rfl⟩ rfl rfl ⟨Nat.zero_le _, Nat.zero_le _⟩ f_l1 rfl (fun sz => (met_X0_horseIn l D ρ kd q μ sz v1 v6 _ hI f_l1 h)) rfl rfl (Nat.le_of_ble_eq_true rfl) (z_dec T_X11_joinedBack_ok 14 (22, .invokevirtual 223, 3) rfl) (fun r3 μ2 hn => ?_)
      clear h
      have h := hn
      clear hn
      refine zx_istore (pc := 25) (lv' := [(7, .int (r3)), (0, .ref (0)), (1, .ref (v1)), (2, .int (v2)), (3, .long (v3)), (5, .int (v5)), (6, .int (v6))]) G (Nat.le_of_ble_eq_true rfl) rfl (z_dec T_X11_joinedBack_ok 15 (25, .istore 7, 2) rfl) ?_
      refine zx_aload_n (pc := 27) G (some (0)) 1 rfl rfl (z_dec T_X11_joinedBack_ok 16 (27, .aload_n 0, 1) rfl) ?_
      refine zx_iload (pc := 28) G 6 rfl (z_dec T_X11_joinedBack_ok 17 (28, .iload 6, 2) rfl) ?_
      refine zx_callV_rN (pc := 30) (rm := rm_X11_raceAt) G cw_RX11_98 ⟨Nat.le_of_ble_eq_true rfl, Nat.le_of_ble_eq_true rfl⟩ rfl rfl ⟨Nat.zero_le _, Nat.zero_le _⟩ f_l0 rfl (fun sz => (met_X11_raceAt l D ρ kd q μ2 sz v6 _ hI f_l0 h)) rfl rfl (Nat.le_of_ble_eq_true rfl) (z_dec T_X11_joinedBack_ok 18 (30, .invokevirtual 98, 3) rfl) (fun r5 μ4 hfr5 hn => ?_)
      clear h
      have h := hn
      clear hn
      refine zx_astore (pc := 33) (lv' := [(8, va_rf (r5)), (7, .int (r3)), (0, .ref (0)), (1, .ref (v1)), (2, .int (v2)), (3, .long (v3)), (5, .int (v5)), (6, .int (v6))]) G (r5) (Nat.le_of_ble_eq_true rfl) rfl (z_dec T_X11_joinedBack_ok 19 (33, .astore 8, 2) rfl) ?_
      refine zx_iload (pc := 35) G 1 rfl (z_dec T_X11_joinedBack_ok 20 (35, .iload 7, 2) rfl) ?_
      refine zx_iconst (pc := 37) (v := -1) G (z_dec T_X11_joinedBack_ok 21 (37, .iconst (-1), 1) rfl) rfl ?_
      refine zx_icmp_eq (pc := 38) (tgt := 131) G rfl (z_dec T_X11_joinedBack_ok 22 (38, .if_icmp .eq 93, 3) rfl) (fun hc => ?_) (fun hc => ?_)
      · replace h := z_pos hc h
        refine zx_iinc (pc := 131) (v := v6 + 1) (lv' := [(6, .int (v6 + 1)), (8, va_rf (r5)), (7, .int (r3)), (0, .ref (0)), (1, .ref (v1)), (2, .int (v2)), (3, .long (v3)), (5, .int (v5))]) G 7 rfl (z_inc (by decide)) (Nat.le_of_ble_eq_true rfl) rfl (z_dec T_X11_joinedBack_ok 69 (131, .iinc 6 1, 3) rfl) ?_
        refine zx_goto (pc := 134) (tgt := 13) G rfl (z_dec T_X11_joinedBack_ok 70 (134, .goto (-121), 3) rfl) ?_
        refine zx_sub (lv' := [(0, .ref (0)), (1, .ref (v1)), (2, .int (v2)), (3, .long (v3)), (5, .int (v5)), (6, .int (v6 + 1))]) [3, 4, 5, 6, 7, 0] rfl ?_
        exact hP13 _ _ _ _ _ _ h f_l0 f_l1
      · replace h := z_neg hc h
        refine zx_aload (pc := 41) G (r5) 0 rfl (z_dec T_X11_joinedBack_ok 23 (41, .aload 8, 2) rfl) ?_
        obtain ⟨h1, h2⟩ := h
        rcases r5 with _ | o6
        · replace h := h1 rfl
          refine zx_ifnullN (pc := 43) (tgt := 131) G rfl (z_dec T_X11_joinedBack_ok 24 (43, .ifnull 88, 3) rfl) ?_
          refine zx_iinc (pc := 131) (v := v6 + 1) (lv' := [(6, .int (v6 + 1)), (8, va_rf (none)), (7, .int (r3)), (0, .ref (0)), (1, .ref (v1)), (2, .int (v2)), (3, .long (v3)), (5, .int (v5))]) G 7 rfl (z_inc (by decide)) (Nat.le_of_ble_eq_true rfl) rfl (z_dec T_X11_joinedBack_ok 69 (131, .iinc 6 1, 3) rfl) ?_
          refine zx_goto (pc := 134) (tgt := 13) G rfl (z_dec T_X11_joinedBack_ok 70 (134, .goto (-121), 3) rfl) ?_
          refine zx_sub (lv' := [(0, .ref (0)), (1, .ref (v1)), (2, .int (v2)), (3, .long (v3)), (5, .int (v5)), (6, .int (v6 + 1))]) [3, 4, 5, 6, 7, 0] rfl ?_
          exact hP13 _ _ _ _ _ _ h f_l0 f_l1
        · replace h := h2 o6 rfl
          refine zx_ifnullS (pc := 43) G (hfr5 o6 rfl) (z_dec T_X11_joinedBack_ok 24 (43, .ifnull 88, 3) rfl) ?_
          refine zx_aload (pc := 46) G (some (o6)) 0 rfl (z_dec T_X11_joinedBack_ok 25 (46, .aload 8, 2) rfl) ?_
          refine zx_iload (pc := 48) G 1 rfl (z_dec T_X11_joinedBack_ok 26 (48, .iload 7, 2) rfl) ?_
          refine zx_callV_zN (pc := 50) (rm := rm_X6_isGone) G cw_RX11_449 ⟨Nat.le_of_ble_eq_true rfl, Nat.le_of_ble_eq_true rfl⟩ rfl rfl ⟨Nat.zero_le _, Nat.zero_le _⟩ (hfr5 o6 rfl) rfl (fun sz => (met_X6_isGone l D ρ kd q μ4 sz o6 r3 _ hI (hfr5 o6 rfl) h)) rfl rfl (Nat.le_of_ble_eq_true rfl) (z_dec T_X11_joinedBack_ok 27 (50, .invokevirtual 449, 3) rfl) (fun r8 μ7 hzr8 hn => ?_)
          clear h
          have h := hn
          clear hn
          refine zx_if_ne (pc := 53) (tgt := 131) G rfl (z_dec T_X11_joinedBack_ok 28 (53, .ifCond .ne 78, 3) rfl) (fun hc => ?_) (fun hc => ?_)
          · replace h := z_neg hc h
            refine zx_iinc (pc := 131) (v := v6 + 1) (lv' := [(6, .int (v6 + 1)), (8, .ref (o6)), (7, .int (r3)), (0, .ref (0)), (1, .ref (v1)), (2, .int (v2)), (3, .long (v3)), (5, .int (v5))]) G 7 rfl (z_inc (by decide)) (Nat.le_of_ble_eq_true rfl) rfl (z_dec T_X11_joinedBack_ok 69 (131, .iinc 6 1, 3) rfl) ?_
            refine zx_goto (pc := 134) (tgt := 13) G rfl (z_dec T_X11_joinedBack_ok 70 (134, .goto (-121), 3) rfl) ?_
            refine zx_sub (lv' := [(0, .ref (0)), (1, .ref (v1)), (2, .int (v2)), (3, .long (v3)), (5, .int (v5)), (6, .int (v6 + 1))]) [3, 4, 5, 6, 7, 0] rfl ?_
            exact hP13 _ _ _ _ _ _ h f_l0 f_l1
          · replace h := z_pos hc h
            refine zx_aload (pc := 56) G (some (o6)) 0 rfl (z_dec T_X11_joinedBack_ok 29 (56, .aload 8, 2) rfl) ?_
            refine zx_callV_iN (pc := 58) (rm := rm_X6_winners) G cw_RX11_452 ⟨Nat.le_of_ble_eq_true rfl, Nat.le_of_ble_eq_true rfl⟩ rfl rfl ⟨Nat.zero_le _, Nat.zero_le _⟩ (hfr5 o6 rfl) rfl (fun sz => (met_X6_winners l D ρ kd q μ7 sz o6 _ hI (hfr5 o6 rfl) h)) rfl rfl (Nat.le_of_ble_eq_true rfl) (z_dec T_X11_joinedBack_ok 30 (58, .invokevirtual 452, 3) rfl) (fun r10 μ9 hn => ?_)
            clear h
            have h := hn
            clear hn
            refine zx_istore (pc := 61) (lv' := [(9, .int (r10)), (8, .ref (o6)), (7, .int (r3)), (0, .ref (0)), (1, .ref (v1)), (2, .int (v2)), (3, .long (v3)), (5, .int (v5)), (6, .int (v6))]) G (Nat.le_of_ble_eq_true rfl) rfl (z_dec T_X11_joinedBack_ok 31 (61, .istore 9, 2) rfl) ?_
            refine zx_aload (pc := 63) G (some (o6)) 1 rfl (z_dec T_X11_joinedBack_ok 32 (63, .aload 8, 2) rfl) ?_
            refine zx_iload (pc := 65) G 2 rfl (z_dec T_X11_joinedBack_ok 33 (65, .iload 7, 2) rfl) ?_
            refine zx_callV_zN (pc := 67) (rm := rm_X6_hasWon) G cw_RX11_455 ⟨Nat.le_of_ble_eq_true rfl, Nat.le_of_ble_eq_true rfl⟩ rfl rfl ⟨Nat.zero_le _, Nat.zero_le _⟩ (hfr5 o6 rfl) rfl (fun sz => (met_X6_hasWon l D ρ kd q μ9 sz o6 r3 _ hI (hfr5 o6 rfl) h)) rfl rfl (Nat.le_of_ble_eq_true rfl) (z_dec T_X11_joinedBack_ok 34 (67, .invokevirtual 455, 3) rfl) (fun r12 μ11 hzr12 hn => ?_)
            clear h
            have h := hn
            clear hn
            refine zx_if_eq (pc := 70) (tgt := 79) G rfl (z_dec T_X11_joinedBack_ok 35 (70, .ifCond .eq 9, 3) rfl) (fun hc => ?_) (fun hc => ?_)
            · replace h := z_pos hc h
              refine zx_iconst (pc := 79) (v := 0) G (z_dec T_X11_joinedBack_ok 39 (79, .iconst 0, 1) rfl) rfl ?_
              exact zx_iret (pc := 80) G hr hlk (Nat.le_refl _) (Nat.le_refl _) (z_dec T_X11_joinedBack_ok 40 (80, .ireturn, 1) rfl) ⟨rfl, _, rfl, h⟩
            · replace h := z_neg hc h
              refine zx_iload (pc := 73) G 0 rfl (z_dec T_X11_joinedBack_ok 36 (73, .iload 9, 2) rfl) ?_
              refine zx_iconst (pc := 75) (v := 1) G (z_dec T_X11_joinedBack_ok 37 (75, .iconst 1, 1) rfl) rfl ?_
              refine zx_icmp_ge (pc := 76) (tgt := 81) G rfl (z_dec T_X11_joinedBack_ok 38 (76, .if_icmp .ge 5, 3) rfl) (fun hc => ?_) (fun hc => ?_)
              · replace h := z_pos hc h
                refine zx_aload_n (pc := 81) G (some (v1)) 4 rfl rfl (z_dec T_X11_joinedBack_ok 41 (81, .aload_n 1, 1) rfl) ?_
                refine zx_iload (pc := 82) G 8 rfl (z_dec T_X11_joinedBack_ok 42 (82, .iload 6, 2) rfl) ?_
                refine zx_callV_iN (pc := 84) (rm := rm_X0_stepIn) G cw_RX11_412 ⟨Nat.le_of_ble_eq_true rfl, Nat.le_of_ble_eq_true rfl⟩ rfl rfl ⟨Nat.zero_le _, Nat.zero_le _⟩ f_l1 rfl (fun sz => (met_X0_stepIn l D ρ kd q μ11 sz v1 v6 _ hI f_l1 h)) rfl rfl (Nat.le_of_ble_eq_true rfl) (z_dec T_X11_joinedBack_ok 43 (84, .invokevirtual 412, 3) rfl) (fun r14 μ13 hn => ?_)
                clear h
                have h := hn
                clear hn
                refine zx_istore (pc := 87) (lv' := [(10, .int (r14)), (9, .int (r10)), (8, .ref (o6)), (7, .int (r3)), (0, .ref (0)), (1, .ref (v1)), (2, .int (v2)), (3, .long (v3)), (5, .int (v5)), (6, .int (v6))]) G (Nat.le_of_ble_eq_true rfl) rfl (z_dec T_X11_joinedBack_ok 44 (87, .istore 10, 2) rfl) ?_
                refine zx_iload_n (pc := 89) G 6 rfl rfl (z_dec T_X11_joinedBack_ok 45 (89, .iload_n 2, 1) rfl) ?_
                refine zx_iload (pc := 90) G 1 rfl (z_dec T_X11_joinedBack_ok 46 (90, .iload 9, 2) rfl) ?_
                obtain ⟨c15, h⟩ := h
                refine zx_idiv (pc := 92) G c15 (z_dec T_X11_joinedBack_ok 47 (92, .idiv, 1) rfl) ?_
                refine zx_istore_n (pc := 93) (lv' := [(2, .int (v2 / r10)), (10, .int (r14)), (9, .int (r10)), (8, .ref (o6)), (7, .int (r3)), (0, .ref (0)), (1, .ref (v1)), (3, .long (v3)), (5, .int (v5)), (6, .int (v6))]) G rfl (Nat.le_of_ble_eq_true rfl) rfl (z_dec T_X11_joinedBack_ok 48 (93, .istore_n 2, 1) rfl) ?_
                refine zx_lload_n (pc := 94) G 7 rfl rfl (z_dec T_X11_joinedBack_ok 49 (94, .lload_n 3, 1) rfl) ?_
                refine zx_aload_n (pc := 95) G (some (0)) 5 rfl rfl (z_dec T_X11_joinedBack_ok 50 (95, .aload_n 0, 1) rfl) ?_
                refine zx_getF (pc := 96) (b := 3) G gf_RX11_19 rfl f_l0 (zq_11_1 hI f_l0) (z_dec T_X11_joinedBack_ok 51 (96, .getfield 19, 3) rfl) ?_
                refine zx_iload (pc := 99) G 1 rfl (z_dec T_X11_joinedBack_ok 52 (99, .iload 10, 2) rfl) ?_
                refine zx_callV_iN (pc := 101) (rm := rm_X3_aOf) G cw_RX11_303 ⟨Nat.le_of_ble_eq_true rfl, Nat.le_of_ble_eq_true rfl⟩ rfl rfl ⟨Nat.zero_le _, Nat.zero_le _⟩ (zk_11_1 hI f_l0) rfl (fun sz => (met_X3_aOf l D ρ kd q μ13 sz 3 r14 _ hI (zk_11_1 hI f_l0) h)) rfl rfl (Nat.le_of_ble_eq_true rfl) (z_dec T_X11_joinedBack_ok 53 (101, .invokevirtual 303, 3) rfl) (fun r17 μ16 hn => ?_)
                clear h
                have h := hn
                clear hn
                refine zx_aload_n (pc := 104) G (some (0)) 5 rfl rfl (z_dec T_X11_joinedBack_ok 54 (104, .aload_n 0, 1) rfl) ?_
                refine zx_getF (pc := 105) (b := 3) G gf_RX11_19 rfl f_l0 (zq_11_1 hI f_l0) (z_dec T_X11_joinedBack_ok 55 (105, .getfield 19, 3) rfl) ?_
                refine zx_iload (pc := 108) G 1 rfl (z_dec T_X11_joinedBack_ok 56 (108, .iload 10, 2) rfl) ?_
                refine zx_callV_iN (pc := 110) (rm := rm_X3_bOf) G cw_RX11_306 ⟨Nat.le_of_ble_eq_true rfl, Nat.le_of_ble_eq_true rfl⟩ rfl rfl ⟨Nat.zero_le _, Nat.zero_le _⟩ (zk_11_1 hI f_l0) rfl (fun sz => (met_X3_bOf l D ρ kd q μ16 sz 3 r14 _ hI (zk_11_1 hI f_l0) h)) rfl rfl (Nat.le_of_ble_eq_true rfl) (z_dec T_X11_joinedBack_ok 57 (110, .invokevirtual 306, 3) rfl) (fun r19 μ18 hn => ?_)
                clear h
                have h := hn
                clear hn
                refine zx_iadd (pc := 113) G  (z_dec T_X11_joinedBack_ok 58 (113, .iadd, 1) rfl) ?_
                refine zx_i2l (pc := 114) G  (z_dec T_X11_joinedBack_ok 59 (114, .i2l, 1) rfl) ?_
                refine zx_lmul (pc := 115) G  (z_dec T_X11_joinedBack_ok 60 (115, .lmul, 1) rfl) ?_
                refine zx_lstore_n (pc := 116) (lv' := [(3, .long (v3 * ((r17 + r19).toInt64))), (2, .int (v2 / r10)), (10, .int (r14)), (9, .int (r10)), (8, .ref (o6)), (7, .int (r3)), (0, .ref (0)), (1, .ref (v1)), (5, .int (v5)), (6, .int (v6))]) G rfl (Nat.le_of_ble_eq_true rfl) rfl (z_dec T_X11_joinedBack_ok 61 (116, .lstore_n 3, 1) rfl) ?_
                refine zx_iload (pc := 117) G 8 rfl (z_dec T_X11_joinedBack_ok 62 (117, .iload 5, 2) rfl) ?_
                refine zx_aload_n (pc := 119) G (some (0)) 6 rfl rfl (z_dec T_X11_joinedBack_ok 63 (119, .aload_n 0, 1) rfl) ?_
                refine zx_getF (pc := 120) (b := 3) G gf_RX11_19 rfl f_l0 (zq_11_1 hI f_l0) (z_dec T_X11_joinedBack_ok 64 (120, .getfield 19, 3) rfl) ?_
                refine zx_iload (pc := 123) G 2 rfl (z_dec T_X11_joinedBack_ok 65 (123, .iload 10, 2) rfl) ?_
                refine zx_callV_iN (pc := 125) (rm := rm_X3_bOf) G cw_RX11_306 ⟨Nat.le_of_ble_eq_true rfl, Nat.le_of_ble_eq_true rfl⟩ rfl rfl ⟨Nat.zero_le _, Nat.zero_le _⟩ (zk_11_1 hI f_l0) rfl (fun sz => (met_X3_bOf l D ρ kd q μ18 sz 3 r14 _ hI (zk_11_1 hI f_l0) h)) rfl rfl (Nat.le_of_ble_eq_true rfl) (z_dec T_X11_joinedBack_ok 66 (125, .invokevirtual 306, 3) rfl) (fun r21 μ20 hn => ?_)
                clear h
                have h := hn
                clear hn
                refine zx_imul (pc := 128) G  (z_dec T_X11_joinedBack_ok 67 (128, .imul, 1) rfl) ?_
                refine zx_istore (pc := 129) (lv' := [(5, .int (v5 * r21)), (3, .long (v3 * ((r17 + r19).toInt64))), (2, .int (v2 / r10)), (10, .int (r14)), (9, .int (r10)), (8, .ref (o6)), (7, .int (r3)), (0, .ref (0)), (1, .ref (v1)), (6, .int (v6))]) G (Nat.le_of_ble_eq_true rfl) rfl (z_dec T_X11_joinedBack_ok 68 (129, .istore 5, 2) rfl) ?_
                refine zx_iinc (pc := 131) (v := v6 + 1) (lv' := [(6, .int (v6 + 1)), (5, .int (v5 * r21)), (3, .long (v3 * ((r17 + r19).toInt64))), (2, .int (v2 / r10)), (10, .int (r14)), (9, .int (r10)), (8, .ref (o6)), (7, .int (r3)), (0, .ref (0)), (1, .ref (v1))]) G 9 rfl (z_inc (by decide)) (Nat.le_of_ble_eq_true rfl) rfl (z_dec T_X11_joinedBack_ok 69 (131, .iinc 6 1, 3) rfl) ?_
                refine zx_goto (pc := 134) (tgt := 13) G rfl (z_dec T_X11_joinedBack_ok 70 (134, .goto (-121), 3) rfl) ?_
                refine zx_sub (lv' := [(0, .ref (0)), (1, .ref (v1)), (2, .int (v2 / r10)), (3, .long (v3 * ((r17 + r19).toInt64))), (5, .int (v5 * r21)), (6, .int (v6 + 1))]) [8, 9, 3, 2, 1, 0] rfl ?_
                exact hP13 _ _ _ _ _ _ h f_l0 f_l1
              · replace h := z_neg hc h
                refine zx_iconst (pc := 79) (v := 0) G (z_dec T_X11_joinedBack_ok 39 (79, .iconst 0, 1) rfl) rfl ?_
                exact zx_iret (pc := 80) G hr hlk (Nat.le_refl _) (Nat.le_refl _) (z_dec T_X11_joinedBack_ok 40 (80, .ireturn, 1) rfl) ⟨rfl, _, rfl, h⟩
set_option maxRecDepth 100000 in
set_option maxHeartbeats 4000000 in
theorem L_X11_joinedBack_13_ok {p : Program} {l : Launch} {e : Env} {s : State} {m : MethodId} {args : Array Value} {below : List Frame} {meth : Method} {c : Code} {D : va_G} {A : Nat → Prop} {ρ : z_A} {kd : z_K} {q : z_Q} {μ : z_M} {K : Int32 → z_M → Prop} {v1 : Nat} {v2 : Int32} {v3 : Int64} {v5 : Int32} {v6 : Int32} (G : z_G p c cX11_joinedBack s m args RX11 11 D) (hr : meth.sig.returnType = (Option.some Jvm.ClassFile.FieldType.int)) (hlk : meth.locks = false) (hI : z_I kd q) (f_l0 : kd 0 = some (.inl 11)) (f_l1 : kd v1 = some (.inl 0)) (h : L_X11_joinedBack_13 kd q K v1 v2 v3 v5 v6 μ) : z_X p l e rm_X11_joinedBack s m args below meth c 11 D A (MQ below (z_Qn D A ρ kd (z_Ki q K)) args s 0 0 A) 0 0 ρ kd q μ 13 [(0, .ref (0)), (1, .ref (v1)), (2, .int (v2)), (3, .long (v3)), (5, .int (v5)), (6, .int (v6))] [] :=
  h (fun (v1 : Nat) (v2 : Int32) (v3 : Int64) (v5 : Int32) (v6 : Int32) (μ : z_M) => (kd 0 = some (.inl 11)) → (kd v1 = some (.inl 0)) → z_X p l e rm_X11_joinedBack s m args below meth c 11 D A (MQ below (z_Qn D A ρ kd (z_Ki q K)) args s 0 0 A) 0 0 ρ kd q μ 13 [(0, .ref (0)), (1, .ref (v1)), (2, .int (v2)), (3, .long (v3)), (5, .int (v5)), (6, .int (v6))] []) (fun v1 v2 v3 v5 v6 μ h f_l0 f_l1 => B_X11_joinedBack_13_ok G hr hlk (fun _ _ _ _ _ _ h => h) hI f_l0 f_l1 h) f_l0 f_l1
set_option maxRecDepth 100000 in
set_option maxHeartbeats 4000000 in
theorem met_X11_joinedBack (l : Launch) (D : va_G) (ρ : z_A) (kd : z_K) (q : z_Q) (μ : z_M) (sz : Nat) (a1 : Option Nat) (K : Int32 → z_M → Prop) (hI : z_I kd q) (h_o : kd 0 = some (.inl 11)) (h_a1 : ∀ a, a1 = some a → kd a = some (.inl 0)) (h : C_X11_joinedBack kd q a1 μ K) : Met l yX11_joinedBack (z_ws yX11_joinedBack cX11_joinedBack 11 (Option.some Jvm.ClassFile.FieldType.int)) rm_X11_joinedBack (z_Pc D ρ kd q μ sz [.ref (0), va_rf (a1)]) (z_Qn D (z_Rg ρ sz) ρ kd (z_Ki q K)) 0 0 (z_Rg ρ sz) := by
  refine z_met (rm := rm_X11_joinedBack) (by decide) (by cases a1 <;> exact Nat.le_of_ble_eq_true rfl) (fun p e s m args below meth c G hr hlk => ?_)
  unfold C_X11_joinedBack at h
  rw [show lv_args 0 [.ref (0), va_rf (a1)] = [(0, .ref (0)), (1, va_rf (a1))] from by cases a1 <;> rfl]
  refine zx_aload_n (pc := 0) G (a1) 1 rfl rfl (z_dec T_X11_joinedBack_ok 0 (0, .aload_n 1, 1) rfl) ?_
  obtain ⟨o1, rfl, h⟩ := h
  refine zx_getI (pc := 1) G gf_RX11_405 rfl (h_a1 o1 rfl) (z_dec T_X11_joinedBack_ok 1 (1, .getfield 405, 3) rfl) ?_
  refine zx_istore_n (pc := 4) (lv' := [(2, .int (μ.1 o1 3)), (0, .ref (0)), (1, .ref (o1))]) G rfl (Nat.le_of_ble_eq_true rfl) rfl (z_dec T_X11_joinedBack_ok 2 (4, .istore_n 2, 1) rfl) ?_
  refine zx_lconst (pc := 5) (v := 1) G (z_dec T_X11_joinedBack_ok 3 (5, .lconst 1, 1) rfl) rfl ?_
  refine zx_lstore_n (pc := 6) (lv' := [(3, .long ((1 : Int64))), (2, .int (μ.1 o1 3)), (0, .ref (0)), (1, .ref (o1))]) G rfl (Nat.le_of_ble_eq_true rfl) rfl (z_dec T_X11_joinedBack_ok 4 (6, .lstore_n 3, 1) rfl) ?_
  refine zx_iconst (pc := 7) (v := 1) G (z_dec T_X11_joinedBack_ok 5 (7, .iconst 1, 1) rfl) rfl ?_
  refine zx_istore (pc := 8) (lv' := [(5, .int ((1 : Int32))), (3, .long ((1 : Int64))), (2, .int (μ.1 o1 3)), (0, .ref (0)), (1, .ref (o1))]) G (Nat.le_of_ble_eq_true rfl) rfl (z_dec T_X11_joinedBack_ok 6 (8, .istore 5, 2) rfl) ?_
  refine zx_iconst (pc := 10) (v := 0) G (z_dec T_X11_joinedBack_ok 7 (10, .iconst 0, 1) rfl) rfl ?_
  refine zx_istore (pc := 11) (lv' := [(6, .int ((0 : Int32))), (5, .int ((1 : Int32))), (3, .long ((1 : Int64))), (2, .int (μ.1 o1 3)), (0, .ref (0)), (1, .ref (o1))]) G (Nat.le_of_ble_eq_true rfl) rfl (z_dec T_X11_joinedBack_ok 8 (11, .istore 6, 2) rfl) ?_
  refine zx_sub (lv' := [(0, .ref (0)), (1, .ref (o1)), (2, .int (μ.1 o1 3)), (3, .long ((1 : Int64))), (5, .int ((1 : Int32))), (6, .int ((0 : Int32)))]) [4, 5, 3, 2, 1, 0] rfl ?_
  exact L_X11_joinedBack_13_ok G hr hlk hI h_o (h_a1 o1 rfl) h
abbrev rm_X11_deductionFrom : Room := { frames := 3, cells := 0, slots := 0, locals := 64 }
set_option maxRecDepth 100000 in
set_option maxHeartbeats 4000000 in
theorem B_X11_deductionFrom_36_ok {p : Program} {l : Launch} {e : Env} {s : State} {m : MethodId} {args : Array Value} {below : List Frame} {meth : Method} {c : Code} {D : va_G} {A : Nat → Prop} {ρ : z_A} {kd : z_K} {q : z_Q} {μ : z_M} {K : Int32 → z_M → Prop} {P36 : Int32 → Nat → Nat → Nat → Int32 → Int32 → z_M → Prop} {v1 : Int32} {v2 : Nat} {v3 : Nat} {v4 : Nat} {v5 : Int32} {v6 : Int32} (G : z_G p c cX11_deductionFrom s m args RX11 8 D) (hr : meth.sig.returnType = (Option.some Jvm.ClassFile.FieldType.int)) (hlk : meth.locks = false) (hP36 : ∀ (v1 : Int32) (v2 : Nat) (v3 : Nat) (v4 : Nat) (v5 : Int32) (v6 : Int32) (μ : z_M), P36 v1 v2 v3 v4 v5 v6 μ → (kd 0 = some (.inl 11)) → (kd v2 = some (.inl 0)) → (kd v3 = some (.inl 6)) → (kd v4 = some (.inl 1)) → z_X p l e rm_X11_deductionFrom s m args below meth c 8 D A (MQ below (z_Qn D A ρ kd (z_Ki q K)) args s 0 0 A) 0 0 ρ kd q μ 36 [(0, .ref (0)), (1, .int (v1)), (2, .ref (v2)), (3, .ref (v3)), (4, .ref (v4)), (5, .int (v5)), (6, .int (v6))] []) (hI : z_I kd q) (f_l0 : kd 0 = some (.inl 11)) (f_l2 : kd v2 = some (.inl 0)) (f_l3 : kd v3 = some (.inl 6)) (f_l4 : kd v4 = some (.inl 1)) (h : B_X11_deductionFrom_36 kd q K P36 v1 v2 v3 v4 v5 v6 μ) : z_X p l e rm_X11_deductionFrom s m args below meth c 8 D A (MQ below (z_Qn D A ρ kd (z_Ki q K)) args s 0 0 A) 0 0 ρ kd q μ 36 [(0, .ref (0)), (1, .int (v1)), (2, .ref (v2)), (3, .ref (v3)), (4, .ref (v4)), (5, .int (v5)), (6, .int (v6))] [] := by
    unfold B_X11_deductionFrom_36 at h
    refine zx_iload (pc := 36) G 6 rfl (z_dec T_X11_deductionFrom_ok 20 (36, .iload 6, 2) rfl) ?_
    refine zx_aload_n (pc := 38) G (some (v3)) 3 rfl rfl (z_dec T_X11_deductionFrom_ok 21 (38, .aload_n 3, 1) rfl) ?_
    refine zx_getI (pc := 39) G gf_RX11_297 rfl f_l3 (z_dec T_X11_deductionFrom_ok 22 (39, .getfield 297, 3) rfl) ?_
    refine zx_icmp_ge (pc := 42) (tgt := 128) G rfl (z_dec T_X11_deductionFrom_ok 23 (42, .if_icmp .ge 86, 3) rfl) (fun hc => ?_) (fun hc => ?_)
    · replace h := z_pos hc h
      refine zx_iload (pc := 128) G 5 rfl (z_dec T_X11_deductionFrom_ok 66 (128, .iload 5, 2) rfl) ?_
      refine zx_bipush (pc := 130) (v := 75) G (z_dec T_X11_deductionFrom_ok 67 (130, .bipush 75, 2) rfl) rfl ?_
      refine zx_mmin (pc := 132) G wm_RX11_484 ⟨Nat.le_of_ble_eq_true rfl, Nat.le_of_ble_eq_true rfl, Nat.zero_le _, Nat.zero_le _⟩ (z_dec T_X11_deductionFrom_ok 68 (132, .invokestatic 484, 3) rfl) ?_
      exact zx_iret (pc := 135) G hr hlk (Nat.le_refl _) (Nat.le_refl _) (z_dec T_X11_deductionFrom_ok 69 (135, .ireturn, 1) rfl) ⟨rfl, _, rfl, h⟩
    · replace h := z_neg hc h
      refine zx_iload (pc := 45) G 6 rfl (z_dec T_X11_deductionFrom_ok 24 (45, .iload 6, 2) rfl) ?_
      refine zx_aload_n (pc := 47) G (some (v2)) 2 rfl rfl (z_dec T_X11_deductionFrom_ok 25 (47, .aload_n 2, 1) rfl) ?_
      refine zx_aload_n (pc := 48) G (some (v2)) 2 rfl rfl (z_dec T_X11_deductionFrom_ok 26 (48, .aload_n 2, 1) rfl) ?_
      refine zx_getI (pc := 49) G gf_RX11_439 rfl f_l2 (z_dec T_X11_deductionFrom_ok 27 (49, .getfield 439, 3) rfl) ?_
      refine zx_callV_iN (pc := 52) (rm := rm_X0_horseIn) G cw_RX11_223 ⟨Nat.le_of_ble_eq_true rfl, Nat.le_of_ble_eq_true rfl⟩ rfl rfl ⟨Nat.zero_le _, Nat.zero_le _⟩ f_l2 rfl (fun sz => (met_X0_horseIn l D ρ kd q μ sz v2 (μ.1 v2 7) _ hI f_l2 h)) rfl rfl (Nat.le_of_ble_eq_true rfl) (z_dec T_X11_deductionFrom_ok 28 (52, .invokevirtual 223, 3) rfl) (fun r2 μ1 hn => ?_)
      clear h
      have h := hn
      clear hn
      refine zx_icmp_eq (pc := 55) (tgt := 122) G rfl (z_dec T_X11_deductionFrom_ok 29 (55, .if_icmp .eq 67, 3) rfl) (fun hc => ?_) (fun hc => ?_)
      · replace h := z_pos hc h
        refine zx_iinc (pc := 122) (v := v6 + 1) (lv' := [(6, .int (v6 + 1)), (0, .ref (0)), (1, .int (v1)), (2, .ref (v2)), (3, .ref (v3)), (4, .ref (v4)), (5, .int (v5))]) G 6 rfl (z_inc (by decide)) (Nat.le_of_ble_eq_true rfl) rfl (z_dec T_X11_deductionFrom_ok 64 (122, .iinc 6 1, 3) rfl) ?_
        refine zx_goto (pc := 125) (tgt := 36) G rfl (z_dec T_X11_deductionFrom_ok 65 (125, .goto (-89), 3) rfl) ?_
        refine zx_sub (lv' := [(0, .ref (0)), (1, .int (v1)), (2, .ref (v2)), (3, .ref (v3)), (4, .ref (v4)), (5, .int (v5)), (6, .int (v6 + 1))]) [1, 2, 3, 4, 5, 6, 0] rfl ?_
        exact hP36 _ _ _ _ _ _ _ h f_l0 f_l2 f_l3 f_l4
      · replace h := z_neg hc h
        refine zx_aload_n (pc := 58) G (some (v3)) 3 rfl rfl (z_dec T_X11_deductionFrom_ok 30 (58, .aload_n 3, 1) rfl) ?_
        refine zx_iload (pc := 59) G 6 rfl (z_dec T_X11_deductionFrom_ok 31 (59, .iload 6, 2) rfl) ?_
        refine zx_iload_n (pc := 61) G 1 rfl rfl (z_dec T_X11_deductionFrom_ok 32 (61, .iload_n 1, 1) rfl) ?_
        refine zx_callV_zN (pc := 62) (rm := rm_X6_wentBehind) G cw_RX11_475 ⟨Nat.le_of_ble_eq_true rfl, Nat.le_of_ble_eq_true rfl⟩ rfl rfl ⟨Nat.zero_le _, Nat.zero_le _⟩ f_l3 rfl (fun sz => (met_X6_wentBehind l D ρ kd q μ1 sz v3 v6 v1 _ hI f_l3 h)) rfl rfl (Nat.le_of_ble_eq_true rfl) (z_dec T_X11_deductionFrom_ok 33 (62, .invokevirtual 475, 3) rfl) (fun r4 μ3 hzr4 hn => ?_)
        clear h
        have h := hn
        clear hn
        refine zx_if_eq (pc := 65) (tgt := 122) G rfl (z_dec T_X11_deductionFrom_ok 34 (65, .ifCond .eq 57, 3) rfl) (fun hc => ?_) (fun hc => ?_)
        · replace h := z_pos hc h
          refine zx_iinc (pc := 122) (v := v6 + 1) (lv' := [(6, .int (v6 + 1)), (0, .ref (0)), (1, .int (v1)), (2, .ref (v2)), (3, .ref (v3)), (4, .ref (v4)), (5, .int (v5))]) G 6 rfl (z_inc (by decide)) (Nat.le_of_ble_eq_true rfl) rfl (z_dec T_X11_deductionFrom_ok 64 (122, .iinc 6 1, 3) rfl) ?_
          refine zx_goto (pc := 125) (tgt := 36) G rfl (z_dec T_X11_deductionFrom_ok 65 (125, .goto (-89), 3) rfl) ?_
          refine zx_sub (lv' := [(0, .ref (0)), (1, .int (v1)), (2, .ref (v2)), (3, .ref (v3)), (4, .ref (v4)), (5, .int (v5)), (6, .int (v6 + 1))]) [1, 2, 3, 4, 5, 6, 0] rfl ?_
          exact hP36 _ _ _ _ _ _ _ h f_l0 f_l2 f_l3 f_l4
        · replace h := z_neg hc h
          refine zx_aload (pc := 68) G (some (v4)) 4 rfl (z_dec T_X11_deductionFrom_ok 35 (68, .aload 4, 2) rfl) ?_
          refine zx_getF (pc := 70) (b := v4 + 2) G gf_RX11_478 rfl f_l4 (zq_1_4 hI f_l4) (z_dec T_X11_deductionFrom_ok 36 (70, .getfield 478, 3) rfl) ?_
          refine zx_aload_n (pc := 73) G (some (v2)) 2 rfl rfl (z_dec T_X11_deductionFrom_ok 37 (73, .aload_n 2, 1) rfl) ?_
          refine zx_getI (pc := 74) G gf_RX11_439 rfl f_l2 (z_dec T_X11_deductionFrom_ok 38 (74, .getfield 439, 3) rfl) ?_
          refine zx_iload (pc := 77) G 6 rfl (z_dec T_X11_deductionFrom_ok 39 (77, .iload 6, 2) rfl) ?_
          refine zx_callS_iN (pc := 79) (rm := rm_X11_spot) G cw_RX11_168 ⟨Nat.le_of_ble_eq_true rfl, Nat.le_of_ble_eq_true rfl⟩ rfl rfl ⟨Nat.zero_le _, Nat.zero_le _⟩ (fun sz => (met_X11_spot l D ρ kd q μ3 sz (μ3.1 v2 7) v6 _ hI h)) rfl rfl (Nat.le_of_ble_eq_true rfl) (z_dec T_X11_deductionFrom_ok 40 (79, .invokestatic 168, 3) rfl) (fun r6 μ5 hn => ?_)
          clear h
          have h := hn
          clear hn
          obtain ⟨c7, h⟩ := h
          refine zx_iald (pc := 82) G (zk_1_4 hI f_l4) c7 (z_dec T_X11_deductionFrom_ok 41 (82, .iaload, 1) rfl) ?_
          refine zx_istore (pc := 83) (lv' := [(7, .int (μ5.1 (v4 + 2) r6.toNatClampNeg)), (0, .ref (0)), (1, .int (v1)), (2, .ref (v2)), (3, .ref (v3)), (4, .ref (v4)), (5, .int (v5)), (6, .int (v6))]) G (Nat.le_of_ble_eq_true rfl) rfl (z_dec T_X11_deductionFrom_ok 42 (83, .istore 7, 2) rfl) ?_
          refine zx_iload (pc := 85) G 0 rfl (z_dec T_X11_deductionFrom_ok 43 (85, .iload 7, 2) rfl) ?_
          refine zx_iconst (pc := 87) (v := -1) G (z_dec T_X11_deductionFrom_ok 44 (87, .iconst (-1), 1) rfl) rfl ?_
          refine zx_icmp_eq (pc := 88) (tgt := 122) G rfl (z_dec T_X11_deductionFrom_ok 45 (88, .if_icmp .eq 34, 3) rfl) (fun hc => ?_) (fun hc => ?_)
          · replace h := z_pos hc h
            refine zx_iinc (pc := 122) (v := v6 + 1) (lv' := [(6, .int (v6 + 1)), (7, .int (μ5.1 (v4 + 2) r6.toNatClampNeg)), (0, .ref (0)), (1, .int (v1)), (2, .ref (v2)), (3, .ref (v3)), (4, .ref (v4)), (5, .int (v5))]) G 7 rfl (z_inc (by decide)) (Nat.le_of_ble_eq_true rfl) rfl (z_dec T_X11_deductionFrom_ok 64 (122, .iinc 6 1, 3) rfl) ?_
            refine zx_goto (pc := 125) (tgt := 36) G rfl (z_dec T_X11_deductionFrom_ok 65 (125, .goto (-89), 3) rfl) ?_
            refine zx_sub (lv' := [(0, .ref (0)), (1, .int (v1)), (2, .ref (v2)), (3, .ref (v3)), (4, .ref (v4)), (5, .int (v5)), (6, .int (v6 + 1))]) [2, 3, 4, 5, 6, 7, 0] rfl ?_
            exact hP36 _ _ _ _ _ _ _ h f_l0 f_l2 f_l3 f_l4
          · replace h := z_neg hc h
            refine zx_iload (pc := 91) G 6 rfl (z_dec T_X11_deductionFrom_ok 46 (91, .iload 5, 2) rfl) ?_
            refine zx_bipush (pc := 93) (v := 100) G (z_dec T_X11_deductionFrom_ok 47 (93, .bipush 100, 2) rfl) rfl ?_
            refine zx_aload_n (pc := 95) G (some (0)) 1 rfl rfl (z_dec T_X11_deductionFrom_ok 48 (95, .aload_n 0, 1) rfl) ?_
            refine zx_getF (pc := 96) (b := 3) G gf_RX11_19 rfl f_l0 (zq_11_1 hI f_l0) (z_dec T_X11_deductionFrom_ok 49 (96, .getfield 19, 3) rfl) ?_
            refine zx_iload (pc := 99) G 0 rfl (z_dec T_X11_deductionFrom_ok 50 (99, .iload 7, 2) rfl) ?_
            refine zx_callV_iN (pc := 101) (rm := rm_X3_bOf) G cw_RX11_306 ⟨Nat.le_of_ble_eq_true rfl, Nat.le_of_ble_eq_true rfl⟩ rfl rfl ⟨Nat.zero_le _, Nat.zero_le _⟩ (zk_11_1 hI f_l0) rfl (fun sz => (met_X3_bOf l D ρ kd q μ5 sz 3 (μ5.1 (v4 + 2) r6.toNatClampNeg) _ hI (zk_11_1 hI f_l0) h)) rfl rfl (Nat.le_of_ble_eq_true rfl) (z_dec T_X11_deductionFrom_ok 51 (101, .invokevirtual 306, 3) rfl) (fun r9 μ8 hn => ?_)
            clear h
            have h := hn
            clear hn
            refine zx_imul (pc := 104) G  (z_dec T_X11_deductionFrom_ok 52 (104, .imul, 1) rfl) ?_
            refine zx_aload_n (pc := 105) G (some (0)) 1 rfl rfl (z_dec T_X11_deductionFrom_ok 53 (105, .aload_n 0, 1) rfl) ?_
            refine zx_getF (pc := 106) (b := 3) G gf_RX11_19 rfl f_l0 (zq_11_1 hI f_l0) (z_dec T_X11_deductionFrom_ok 54 (106, .getfield 19, 3) rfl) ?_
            refine zx_iload (pc := 109) G 0 rfl (z_dec T_X11_deductionFrom_ok 55 (109, .iload 7, 2) rfl) ?_
            refine zx_callV_iN (pc := 111) (rm := rm_X3_wholeOf) G cw_RX11_481 ⟨Nat.le_of_ble_eq_true rfl, Nat.le_of_ble_eq_true rfl⟩ rfl rfl ⟨Nat.zero_le _, Nat.zero_le _⟩ (zk_11_1 hI f_l0) rfl (fun sz => (met_X3_wholeOf l D ρ kd q μ8 sz 3 (μ5.1 (v4 + 2) r6.toNatClampNeg) _ hI (zk_11_1 hI f_l0) h)) rfl rfl (Nat.le_of_ble_eq_true rfl) (z_dec T_X11_deductionFrom_ok 56 (111, .invokevirtual 481, 3) rfl) (fun r11 μ10 hn => ?_)
            clear h
            have h := hn
            clear hn
            obtain ⟨c12, h⟩ := h
            refine zx_idiv (pc := 114) G c12 (z_dec T_X11_deductionFrom_ok 57 (114, .idiv, 1) rfl) ?_
            refine zx_iconst (pc := 115) (v := 5) G (z_dec T_X11_deductionFrom_ok 58 (115, .iconst 5, 1) rfl) rfl ?_
            refine zx_idiv (pc := 116) G (by decide) (z_dec T_X11_deductionFrom_ok 59 (116, .idiv, 1) rfl) ?_
            refine zx_iconst (pc := 117) (v := 5) G (z_dec T_X11_deductionFrom_ok 60 (117, .iconst 5, 1) rfl) rfl ?_
            refine zx_imul (pc := 118) G  (z_dec T_X11_deductionFrom_ok 61 (118, .imul, 1) rfl) ?_
            refine zx_iadd (pc := 119) G  (z_dec T_X11_deductionFrom_ok 62 (119, .iadd, 1) rfl) ?_
            refine zx_istore (pc := 120) (lv' := [(5, .int (v5 + ((((((100 : Int32)) * r9) / r11) / ((5 : Int32))) * ((5 : Int32))))), (7, .int (μ5.1 (v4 + 2) r6.toNatClampNeg)), (0, .ref (0)), (1, .int (v1)), (2, .ref (v2)), (3, .ref (v3)), (4, .ref (v4)), (6, .int (v6))]) G (Nat.le_of_ble_eq_true rfl) rfl (z_dec T_X11_deductionFrom_ok 63 (120, .istore 5, 2) rfl) ?_
            refine zx_iinc (pc := 122) (v := v6 + 1) (lv' := [(6, .int (v6 + 1)), (5, .int (v5 + ((((((100 : Int32)) * r9) / r11) / ((5 : Int32))) * ((5 : Int32))))), (7, .int (μ5.1 (v4 + 2) r6.toNatClampNeg)), (0, .ref (0)), (1, .int (v1)), (2, .ref (v2)), (3, .ref (v3)), (4, .ref (v4))]) G 7 rfl (z_inc (by decide)) (Nat.le_of_ble_eq_true rfl) rfl (z_dec T_X11_deductionFrom_ok 64 (122, .iinc 6 1, 3) rfl) ?_
            refine zx_goto (pc := 125) (tgt := 36) G rfl (z_dec T_X11_deductionFrom_ok 65 (125, .goto (-89), 3) rfl) ?_
            refine zx_sub (lv' := [(0, .ref (0)), (1, .int (v1)), (2, .ref (v2)), (3, .ref (v3)), (4, .ref (v4)), (5, .int (v5 + ((((((100 : Int32)) * r9) / r11) / ((5 : Int32))) * ((5 : Int32))))), (6, .int (v6 + 1))]) [3, 4, 5, 6, 7, 1, 0] rfl ?_
            exact hP36 _ _ _ _ _ _ _ h f_l0 f_l2 f_l3 f_l4
set_option maxRecDepth 100000 in
set_option maxHeartbeats 4000000 in
theorem L_X11_deductionFrom_36_ok {p : Program} {l : Launch} {e : Env} {s : State} {m : MethodId} {args : Array Value} {below : List Frame} {meth : Method} {c : Code} {D : va_G} {A : Nat → Prop} {ρ : z_A} {kd : z_K} {q : z_Q} {μ : z_M} {K : Int32 → z_M → Prop} {v1 : Int32} {v2 : Nat} {v3 : Nat} {v4 : Nat} {v5 : Int32} {v6 : Int32} (G : z_G p c cX11_deductionFrom s m args RX11 8 D) (hr : meth.sig.returnType = (Option.some Jvm.ClassFile.FieldType.int)) (hlk : meth.locks = false) (hI : z_I kd q) (f_l0 : kd 0 = some (.inl 11)) (f_l2 : kd v2 = some (.inl 0)) (f_l3 : kd v3 = some (.inl 6)) (f_l4 : kd v4 = some (.inl 1)) (h : L_X11_deductionFrom_36 kd q K v1 v2 v3 v4 v5 v6 μ) : z_X p l e rm_X11_deductionFrom s m args below meth c 8 D A (MQ below (z_Qn D A ρ kd (z_Ki q K)) args s 0 0 A) 0 0 ρ kd q μ 36 [(0, .ref (0)), (1, .int (v1)), (2, .ref (v2)), (3, .ref (v3)), (4, .ref (v4)), (5, .int (v5)), (6, .int (v6))] [] :=
  h (fun (v1 : Int32) (v2 : Nat) (v3 : Nat) (v4 : Nat) (v5 : Int32) (v6 : Int32) (μ : z_M) => (kd 0 = some (.inl 11)) → (kd v2 = some (.inl 0)) → (kd v3 = some (.inl 6)) → (kd v4 = some (.inl 1)) → z_X p l e rm_X11_deductionFrom s m args below meth c 8 D A (MQ below (z_Qn D A ρ kd (z_Ki q K)) args s 0 0 A) 0 0 ρ kd q μ 36 [(0, .ref (0)), (1, .int (v1)), (2, .ref (v2)), (3, .ref (v3)), (4, .ref (v4)), (5, .int (v5)), (6, .int (v6))] []) (fun v1 v2 v3 v4 v5 v6 μ h f_l0 f_l2 f_l3 f_l4 => B_X11_deductionFrom_36_ok G hr hlk (fun _ _ _ _ _ _ _ h => h) hI f_l0 f_l2 f_l3 f_l4 h) f_l0 f_l2 f_l3 f_l4
set_option maxRecDepth 100000 in
set_option maxHeartbeats 4000000 in
theorem met_X11_deductionFrom (l : Launch) (D : va_G) (ρ : z_A) (kd : z_K) (q : z_Q) (μ : z_M) (sz : Nat) (a1 : Int32) (a2 : Option Nat) (K : Int32 → z_M → Prop) (hI : z_I kd q) (h_o : kd 0 = some (.inl 11)) (h_a2 : ∀ a, a2 = some a → kd a = some (.inl 0)) (h : C_X11_deductionFrom kd q a1 a2 μ K) : Met l yX11_deductionFrom (z_ws yX11_deductionFrom cX11_deductionFrom 8 (Option.some Jvm.ClassFile.FieldType.int)) rm_X11_deductionFrom (z_Pc D ρ kd q μ sz [.ref (0), .int (a1), va_rf (a2)]) (z_Qn D (z_Rg ρ sz) ρ kd (z_Ki q K)) 0 0 (z_Rg ρ sz) := by
  refine z_met (rm := rm_X11_deductionFrom) (by decide) (by cases a2 <;> exact Nat.le_of_ble_eq_true rfl) (fun p e s m args below meth c G hr hlk => ?_)
  unfold C_X11_deductionFrom at h
  rw [show lv_args 0 [.ref (0), .int (a1), va_rf (a2)] = [(0, .ref (0)), (1, .int (a1)), (2, va_rf (a2))] from by cases a2 <;> rfl]
  refine zx_aload_n (pc := 0) G (some (0)) 0 rfl rfl (z_dec T_X11_deductionFrom_ok 0 (0, .aload_n 0, 1) rfl) ?_
  refine zx_aload_n (pc := 1) G (a2) 2 rfl rfl (z_dec T_X11_deductionFrom_ok 1 (1, .aload_n 2, 1) rfl) ?_
  obtain ⟨o1, rfl, h⟩ := h
  refine zx_getI (pc := 2) G gf_RX11_439 rfl (h_a2 o1 rfl) (z_dec T_X11_deductionFrom_ok 2 (2, .getfield 439, 3) rfl) ?_
  refine zx_callV_rN (pc := 5) (rm := rm_X11_raceAt) G cw_RX11_98 ⟨Nat.le_of_ble_eq_true rfl, Nat.le_of_ble_eq_true rfl⟩ rfl rfl ⟨Nat.zero_le _, Nat.zero_le _⟩ h_o rfl (fun sz => (met_X11_raceAt l D ρ kd q μ sz (μ.1 o1 7) _ hI h_o h)) rfl rfl (Nat.le_of_ble_eq_true rfl) (z_dec T_X11_deductionFrom_ok 3 (5, .invokevirtual 98, 3) rfl) (fun r3 μ2 hfr3 hn => ?_)
  clear h
  have h := hn
  clear hn
  refine zx_astore_n (pc := 8) (lv' := [(3, va_rf (r3)), (0, .ref (0)), (1, .int (a1)), (2, .ref (o1))]) G (r3) rfl (Nat.le_of_ble_eq_true rfl) rfl (z_dec T_X11_deductionFrom_ok 4 (8, .astore_n 3, 1) rfl) ?_
  refine zx_aload_n (pc := 9) G (some (0)) 1 rfl rfl (z_dec T_X11_deductionFrom_ok 5 (9, .aload_n 0, 1) rfl) ?_
  refine zx_aload_n (pc := 10) G (some (o1)) 3 rfl rfl (z_dec T_X11_deductionFrom_ok 6 (10, .aload_n 2, 1) rfl) ?_
  refine zx_getI (pc := 11) G gf_RX11_395 rfl (h_a2 o1 rfl) (z_dec T_X11_deductionFrom_ok 7 (11, .getfield 395, 3) rfl) ?_
  refine zx_callV_rN (pc := 14) (rm := rm_X11_bookAt) G cw_RX11_141 ⟨Nat.le_of_ble_eq_true rfl, Nat.le_of_ble_eq_true rfl⟩ rfl rfl ⟨Nat.zero_le _, Nat.zero_le _⟩ h_o rfl (fun sz => (met_X11_bookAt l D ρ kd q μ2 sz (μ2.1 o1 1) _ hI h_o h)) rfl rfl (Nat.le_of_ble_eq_true rfl) (z_dec T_X11_deductionFrom_ok 8 (14, .invokevirtual 141, 3) rfl) (fun r5 μ4 hfr5 hn => ?_)
  clear h
  have h := hn
  clear hn
  refine zx_astore (pc := 17) (lv' := [(4, va_rf (r5)), (3, va_rf (r3)), (0, .ref (0)), (1, .int (a1)), (2, .ref (o1))]) G (r5) (Nat.le_of_ble_eq_true rfl) (by cases r3 <;> rfl) (z_dec T_X11_deductionFrom_ok 9 (17, .astore 4, 2) rfl) ?_
  refine zx_aload_n (pc := 19) G (r3) 1 rfl rfl (z_dec T_X11_deductionFrom_ok 10 (19, .aload_n 3, 1) rfl) ?_
  obtain ⟨h1, h2⟩ := h
  rcases r3 with _ | o6
  · replace h := h1 rfl
    refine zx_ifnullN (pc := 20) (tgt := 28) G rfl (z_dec T_X11_deductionFrom_ok 11 (20, .ifnull 8, 3) rfl) ?_
    refine zx_iconst (pc := 28) (v := 0) G (z_dec T_X11_deductionFrom_ok 14 (28, .iconst 0, 1) rfl) rfl ?_
    exact zx_iret (pc := 29) G hr hlk (Nat.le_refl _) (Nat.le_refl _) (z_dec T_X11_deductionFrom_ok 15 (29, .ireturn, 1) rfl) ⟨rfl, _, rfl, h⟩
  · replace h := h2 o6 rfl
    refine zx_ifnullS (pc := 20) G (hfr3 o6 rfl) (z_dec T_X11_deductionFrom_ok 11 (20, .ifnull 8, 3) rfl) ?_
    refine zx_aload (pc := 23) G (r5) 0 rfl (z_dec T_X11_deductionFrom_ok 12 (23, .aload 4, 2) rfl) ?_
    obtain ⟨h1, h2⟩ := h
    rcases r5 with _ | o7
    · replace h := h1 rfl
      refine zx_ifnonnullN (pc := 25) G  (z_dec T_X11_deductionFrom_ok 13 (25, .ifnonnull 5, 3) rfl) ?_
      refine zx_iconst (pc := 28) (v := 0) G (z_dec T_X11_deductionFrom_ok 14 (28, .iconst 0, 1) rfl) rfl ?_
      exact zx_iret (pc := 29) G hr hlk (Nat.le_refl _) (Nat.le_refl _) (z_dec T_X11_deductionFrom_ok 15 (29, .ireturn, 1) rfl) ⟨rfl, _, rfl, h⟩
    · replace h := h2 o7 rfl
      refine zx_ifnonnullS (pc := 25) (tgt := 30) G (hfr5 o7 rfl) rfl (z_dec T_X11_deductionFrom_ok 13 (25, .ifnonnull 5, 3) rfl) ?_
      refine zx_iconst (pc := 30) (v := 0) G (z_dec T_X11_deductionFrom_ok 16 (30, .iconst 0, 1) rfl) rfl ?_
      refine zx_istore (pc := 31) (lv' := [(5, .int ((0 : Int32))), (4, .ref (o7)), (3, .ref (o6)), (0, .ref (0)), (1, .int (a1)), (2, .ref (o1))]) G (Nat.le_of_ble_eq_true rfl) rfl (z_dec T_X11_deductionFrom_ok 17 (31, .istore 5, 2) rfl) ?_
      refine zx_iconst (pc := 33) (v := 0) G (z_dec T_X11_deductionFrom_ok 18 (33, .iconst 0, 1) rfl) rfl ?_
      refine zx_istore (pc := 34) (lv' := [(6, .int ((0 : Int32))), (5, .int ((0 : Int32))), (4, .ref (o7)), (3, .ref (o6)), (0, .ref (0)), (1, .int (a1)), (2, .ref (o1))]) G (Nat.le_of_ble_eq_true rfl) rfl (z_dec T_X11_deductionFrom_ok 19 (34, .istore 6, 2) rfl) ?_
      refine zx_sub (lv' := [(0, .ref (0)), (1, .int (a1)), (2, .ref (o1)), (3, .ref (o6)), (4, .ref (o7)), (5, .int ((0 : Int32))), (6, .int ((0 : Int32)))]) [4, 5, 6, 3, 2, 1, 0] rfl ?_
      exact L_X11_deductionFrom_36_ok G hr hlk hI h_o (h_a2 o1 rfl) (hfr3 o6 rfl) (hfr5 o7 rfl) h
abbrev rm_X11_rest : Room := { frames := 0, cells := 0, slots := 0, locals := 0 }
set_option maxRecDepth 100000 in
set_option maxHeartbeats 4000000 in
theorem met_X11_rest (l : Launch) (D : va_G) (ρ : z_A) (kd : z_K) (q : z_Q) (μ : z_M) (sz : Nat) (a1 : Int32) (a2 : Int32) (K : Int32 → z_M → Prop) (hI : z_I kd q) (h : C_X11_rest kd q a1 a2 μ K) : Met l yX11_rest (z_ws yX11_rest cX11_rest 2 (Option.some Jvm.ClassFile.FieldType.int)) rm_X11_rest (z_Pc D ρ kd q μ sz [.int (a1), .int (a2)]) (z_Qn D (z_Rg ρ sz) ρ kd (z_Ki q K)) 0 0 (z_Rg ρ sz) := by
  refine z_met (rm := rm_X11_rest) (by decide) (Nat.le_of_ble_eq_true rfl) (fun p e s m args below meth c G hr hlk => ?_)
  unfold C_X11_rest at h
  show z_X _ _ _ _ _ _ _ _ _ _ _ _ _ _ _ _ _ _ _ _ _ [(0, .int (a1)), (1, .int (a2))] _
  refine zx_iload_n (pc := 0) G 0 rfl rfl (z_dec T_X11_rest_ok 0 (0, .iload_n 0, 1) rfl) ?_
  refine zx_bipush (pc := 1) (v := 100) G (z_dec T_X11_rest_ok 1 (1, .bipush 100, 2) rfl) rfl ?_
  refine zx_iload_n (pc := 3) G 1 rfl rfl (z_dec T_X11_rest_ok 2 (3, .iload_n 1, 1) rfl) ?_
  refine zx_isub (pc := 4) G  (z_dec T_X11_rest_ok 3 (4, .isub, 1) rfl) ?_
  refine zx_imul (pc := 5) G  (z_dec T_X11_rest_ok 4 (5, .imul, 1) rfl) ?_
  refine zx_bipush (pc := 6) (v := 100) G (z_dec T_X11_rest_ok 5 (6, .bipush 100, 2) rfl) rfl ?_
  refine zx_idiv (pc := 8) G (by decide) (z_dec T_X11_rest_ok 6 (8, .idiv, 1) rfl) ?_
  exact zx_iret (pc := 9) G hr hlk (Nat.le_refl _) (Nat.le_refl _) (z_dec T_X11_rest_ok 7 (9, .ireturn, 1) rfl) ⟨rfl, _, rfl, h⟩
abbrev rm_X11_placeBack : Room := { frames := 3, cells := 0, slots := 0, locals := 60 }
set_option maxRecDepth 100000 in
set_option maxHeartbeats 4000000 in
theorem L_X11_placeBack_92_ok {p : Program} {l : Launch} {e : Env} {s : State} {m : MethodId} {args : Array Value} {below : List Frame} {meth : Method} {c : Code} {D : va_G} {A : Nat → Prop} {ρ : z_A} {kd : z_K} {q : z_Q} {μ : z_M} {K : Int32 → z_M → Prop} {v1 : Nat} {v3 : Int32} {t0 : Int32} {t1 : Int32} {t2 : Int32} (G : z_G p c cX11_placeBack s m args RX11 8 D) (hr : meth.sig.returnType = (Option.some Jvm.ClassFile.FieldType.int)) (hlk : meth.locks = false) (hI : z_I kd q) (f_l1 : kd v1 = some (.inl 0)) (h : L_X11_placeBack_92 kd q K v1 v3 t0 t1 t2 μ) : z_X p l e rm_X11_placeBack s m args below meth c 8 D A (MQ below (z_Qn D A ρ kd (z_Ki q K)) args s 0 0 A) 0 0 ρ kd q μ 92 [(1, .ref (v1)), (3, .int (v3))] [.int (t0), .int (t1), .int (t2)] := by
    unfold L_X11_placeBack_92 at h
    refine zx_imul (pc := 92) G  (z_dec T_X11_placeBack_ok 46 (92, .imul, 1) rfl) ?_
    obtain ⟨c1, h⟩ := h
    refine zx_idiv (pc := 93) G c1 (z_dec T_X11_placeBack_ok 47 (93, .idiv, 1) rfl) ?_
    refine zx_istore (pc := 94) (lv' := [(7, .int (t2 / (t1 * t0))), (1, .ref (v1)), (3, .int (v3))]) G (Nat.le_of_ble_eq_true rfl) rfl (z_dec T_X11_placeBack_ok 48 (94, .istore 7, 2) rfl) ?_
    refine zx_aload_n (pc := 96) G (some (v1)) 1 rfl rfl (z_dec T_X11_placeBack_ok 49 (96, .aload_n 1, 1) rfl) ?_
    refine zx_getI (pc := 97) G gf_RX11_405 rfl f_l1 (z_dec T_X11_placeBack_ok 50 (97, .getfield 405, 3) rfl) ?_
    refine zx_iload (pc := 100) G 0 rfl (z_dec T_X11_placeBack_ok 51 (100, .iload 7, 2) rfl) ?_
    refine zx_iload_n (pc := 102) G 2 rfl rfl (z_dec T_X11_placeBack_ok 52 (102, .iload_n 3, 1) rfl) ?_
    refine zx_callS_iN (pc := 103) (rm := rm_X11_rest) G cw_RX11_458 ⟨Nat.le_of_ble_eq_true rfl, Nat.le_of_ble_eq_true rfl⟩ rfl rfl ⟨Nat.zero_le _, Nat.zero_le _⟩ (fun sz => (met_X11_rest l D ρ kd q μ sz (t2 / (t1 * t0)) v3 _ hI h)) rfl rfl (Nat.le_of_ble_eq_true rfl) (z_dec T_X11_placeBack_ok 53 (103, .invokestatic 458, 3) rfl) (fun r3 μ2 hn => ?_)
    clear h
    have h := hn
    clear hn
    refine zx_iadd (pc := 106) G  (z_dec T_X11_placeBack_ok 54 (106, .iadd, 1) rfl) ?_
    exact zx_iret (pc := 107) G hr hlk (Nat.le_refl _) (Nat.le_refl _) (z_dec T_X11_placeBack_ok 55 (107, .ireturn, 1) rfl) ⟨rfl, _, rfl, h⟩
set_option maxRecDepth 100000 in
set_option maxHeartbeats 4000000 in
theorem met_X11_placeBack (l : Launch) (D : va_G) (ρ : z_A) (kd : z_K) (q : z_Q) (μ : z_M) (sz : Nat) (a1 : Option Nat) (a2 : Option Nat) (a3 : Int32) (K : Int32 → z_M → Prop) (hI : z_I kd q) (h_o : kd 0 = some (.inl 11)) (h_a1 : ∀ a, a1 = some a → kd a = some (.inl 0)) (h_a2 : ∀ a, a2 = some a → kd a = some (.inl 6)) (h : C_X11_placeBack kd q a1 a2 a3 μ K) : Met l yX11_placeBack (z_ws yX11_placeBack cX11_placeBack 8 (Option.some Jvm.ClassFile.FieldType.int)) rm_X11_placeBack (z_Pc D ρ kd q μ sz [.ref (0), va_rf (a1), va_rf (a2), .int (a3)]) (z_Qn D (z_Rg ρ sz) ρ kd (z_Ki q K)) 0 0 (z_Rg ρ sz) := by
  refine z_met (rm := rm_X11_placeBack) (by decide) (by cases a1 <;> cases a2 <;> exact Nat.le_of_ble_eq_true rfl) (fun p e s m args below meth c G hr hlk => ?_)
  unfold C_X11_placeBack at h
  rw [show lv_args 0 [.ref (0), va_rf (a1), va_rf (a2), .int (a3)] = [(0, .ref (0)), (1, va_rf (a1)), (2, va_rf (a2)), (3, .int (a3))] from by cases a1 <;> cases a2 <;> rfl]
  refine zx_aload_n (pc := 0) G (a1) 1 rfl rfl (z_dec T_X11_placeBack_ok 0 (0, .aload_n 1, 1) rfl) ?_
  refine zx_aload_n (pc := 1) G (a1) 1 rfl rfl (z_dec T_X11_placeBack_ok 1 (1, .aload_n 1, 1) rfl) ?_
  obtain ⟨o1, rfl, h⟩ := h
  refine zx_getI (pc := 2) G gf_RX11_439 rfl (h_a1 o1 rfl) (z_dec T_X11_placeBack_ok 2 (2, .getfield 439, 3) rfl) ?_
  refine zx_callV_iN (pc := 5) (rm := rm_X0_horseIn) G cw_RX11_223 ⟨Nat.le_of_ble_eq_true rfl, Nat.le_of_ble_eq_true rfl⟩ rfl rfl ⟨Nat.zero_le _, Nat.zero_le _⟩ (h_a1 o1 rfl) rfl (fun sz => (met_X0_horseIn l D ρ kd q μ sz o1 (μ.1 o1 7) _ hI (h_a1 o1 rfl) h)) rfl rfl (Nat.le_of_ble_eq_true rfl) (z_dec T_X11_placeBack_ok 3 (5, .invokevirtual 223, 3) rfl) (fun r3 μ2 hn => ?_)
  clear h
  have h := hn
  clear hn
  refine zx_istore (pc := 8) (lv' := [(4, .int (r3)), (0, .ref (0)), (1, .ref (o1)), (2, va_rf (a2)), (3, .int (a3))]) G (Nat.le_of_ble_eq_true rfl) rfl (z_dec T_X11_placeBack_ok 4 (8, .istore 4, 2) rfl) ?_
  refine zx_aload_n (pc := 10) G (a2) 3 rfl rfl (z_dec T_X11_placeBack_ok 5 (10, .aload_n 2, 1) rfl) ?_
  obtain ⟨o4, rfl, h⟩ := h
  refine zx_callV_iN (pc := 11) (rm := rm_X6_left) G cw_RX11_204 ⟨Nat.le_of_ble_eq_true rfl, Nat.le_of_ble_eq_true rfl⟩ rfl rfl ⟨Nat.zero_le _, Nat.zero_le _⟩ (h_a2 o4 rfl) rfl (fun sz => (met_X6_left l D ρ kd q μ2 sz o4 _ hI (h_a2 o4 rfl) h)) rfl rfl (Nat.le_of_ble_eq_true rfl) (z_dec T_X11_placeBack_ok 6 (11, .invokevirtual 204, 3) rfl) (fun r6 μ5 hn => ?_)
  clear h
  have h := hn
  clear hn
  refine zx_istore (pc := 14) (lv' := [(5, .int (r6)), (4, .int (r3)), (0, .ref (0)), (1, .ref (o1)), (2, .ref (o4)), (3, .int (a3))]) G (Nat.le_of_ble_eq_true rfl) rfl (z_dec T_X11_placeBack_ok 7 (14, .istore 5, 2) rfl) ?_
  refine zx_iload (pc := 16) G 0 rfl (z_dec T_X11_placeBack_ok 8 (16, .iload 5, 2) rfl) ?_
  refine zx_iconst (pc := 18) (v := 5) G (z_dec T_X11_placeBack_ok 9 (18, .iconst 5, 1) rfl) rfl ?_
  refine zx_icmp_lt (pc := 19) (tgt := 31) G rfl (z_dec T_X11_placeBack_ok 10 (19, .if_icmp .lt 12, 3) rfl) (fun hc => ?_) (fun hc => ?_)
  · replace h := z_pos hc h
    refine zx_aload_n (pc := 31) G (some (o1)) 3 rfl rfl (z_dec T_X11_placeBack_ok 15 (31, .aload_n 1, 1) rfl) ?_
    refine zx_getI (pc := 32) G gf_RX11_405 rfl (h_a1 o1 rfl) (z_dec T_X11_placeBack_ok 16 (32, .getfield 405, 3) rfl) ?_
    exact zx_iret (pc := 35) G hr hlk (Nat.le_refl _) (Nat.le_refl _) (z_dec T_X11_placeBack_ok 17 (35, .ireturn, 1) rfl) ⟨rfl, _, rfl, h⟩
  · replace h := z_neg hc h
    refine zx_aload_n (pc := 22) G (some (o4)) 4 rfl rfl (z_dec T_X11_placeBack_ok 11 (22, .aload_n 2, 1) rfl) ?_
    refine zx_iload (pc := 23) G 1 rfl (z_dec T_X11_placeBack_ok 12 (23, .iload 4, 2) rfl) ?_
    refine zx_callV_zN (pc := 25) (rm := rm_X6_isGone) G cw_RX11_449 ⟨Nat.le_of_ble_eq_true rfl, Nat.le_of_ble_eq_true rfl⟩ rfl rfl ⟨Nat.zero_le _, Nat.zero_le _⟩ (h_a2 o4 rfl) rfl (fun sz => (met_X6_isGone l D ρ kd q μ5 sz o4 r3 _ hI (h_a2 o4 rfl) h)) rfl rfl (Nat.le_of_ble_eq_true rfl) (z_dec T_X11_placeBack_ok 13 (25, .invokevirtual 449, 3) rfl) (fun r8 μ7 hzr8 hn => ?_)
    clear h
    have h := hn
    clear hn
    refine zx_if_eq (pc := 28) (tgt := 36) G rfl (z_dec T_X11_placeBack_ok 14 (28, .ifCond .eq 8, 3) rfl) (fun hc => ?_) (fun hc => ?_)
    · replace h := z_pos hc h
      refine zx_aload_n (pc := 36) G (some (o4)) 4 rfl rfl (z_dec T_X11_placeBack_ok 18 (36, .aload_n 2, 1) rfl) ?_
      refine zx_iload (pc := 37) G 1 rfl (z_dec T_X11_placeBack_ok 19 (37, .iload 4, 2) rfl) ?_
      refine zx_callV_zN (pc := 39) (rm := rm_X6_isPlaced) G cw_RX11_461 ⟨Nat.le_of_ble_eq_true rfl, Nat.le_of_ble_eq_true rfl⟩ rfl rfl ⟨Nat.zero_le _, Nat.zero_le _⟩ (h_a2 o4 rfl) rfl (fun sz => (met_X6_isPlaced l D ρ kd q μ7 sz o4 r3 _ hI (h_a2 o4 rfl) h)) rfl rfl (Nat.le_of_ble_eq_true rfl) (z_dec T_X11_placeBack_ok 20 (39, .invokevirtual 461, 3) rfl) (fun r10 μ9 hzr10 hn => ?_)
      clear h
      have h := hn
      clear hn
      refine zx_if_ne (pc := 42) (tgt := 47) G rfl (z_dec T_X11_placeBack_ok 21 (42, .ifCond .ne 5, 3) rfl) (fun hc => ?_) (fun hc => ?_)
      · replace h := z_neg hc h
        refine zx_aload_n (pc := 47) G (some (o1)) 3 rfl rfl (z_dec T_X11_placeBack_ok 24 (47, .aload_n 1, 1) rfl) ?_
        refine zx_aload_n (pc := 48) G (some (o1)) 3 rfl rfl (z_dec T_X11_placeBack_ok 25 (48, .aload_n 1, 1) rfl) ?_
        refine zx_getI (pc := 49) G gf_RX11_439 rfl (h_a1 o1 rfl) (z_dec T_X11_placeBack_ok 26 (49, .getfield 439, 3) rfl) ?_
        refine zx_callV_iN (pc := 52) (rm := rm_X0_stepIn) G cw_RX11_412 ⟨Nat.le_of_ble_eq_true rfl, Nat.le_of_ble_eq_true rfl⟩ rfl rfl ⟨Nat.zero_le _, Nat.zero_le _⟩ (h_a1 o1 rfl) rfl (fun sz => (met_X0_stepIn l D ρ kd q μ9 sz o1 (μ9.1 o1 7) _ hI (h_a1 o1 rfl) h)) rfl rfl (Nat.le_of_ble_eq_true rfl) (z_dec T_X11_placeBack_ok 27 (52, .invokevirtual 412, 3) rfl) (fun r12 μ11 hn => ?_)
        clear h
        have h := hn
        clear hn
        refine zx_istore (pc := 55) (lv' := [(6, .int (r12)), (5, .int (r6)), (4, .int (r3)), (0, .ref (0)), (1, .ref (o1)), (2, .ref (o4)), (3, .int (a3))]) G (Nat.le_of_ble_eq_true rfl) rfl (z_dec T_X11_placeBack_ok 28 (55, .istore 6, 2) rfl) ?_
        refine zx_aload_n (pc := 57) G (some (o1)) 4 rfl rfl (z_dec T_X11_placeBack_ok 29 (57, .aload_n 1, 1) rfl) ?_
        refine zx_getI (pc := 58) G gf_RX11_405 rfl (h_a1 o1 rfl) (z_dec T_X11_placeBack_ok 30 (58, .getfield 405, 3) rfl) ?_
        refine zx_aload_n (pc := 61) G (some (0)) 3 rfl rfl (z_dec T_X11_placeBack_ok 31 (61, .aload_n 0, 1) rfl) ?_
        refine zx_getF (pc := 62) (b := 3) G gf_RX11_19 rfl h_o (zq_11_1 hI h_o) (z_dec T_X11_placeBack_ok 32 (62, .getfield 19, 3) rfl) ?_
        refine zx_iload (pc := 65) G 0 rfl (z_dec T_X11_placeBack_ok 33 (65, .iload 6, 2) rfl) ?_
        refine zx_callV_iN (pc := 67) (rm := rm_X3_aOf) G cw_RX11_303 ⟨Nat.le_of_ble_eq_true rfl, Nat.le_of_ble_eq_true rfl⟩ rfl rfl ⟨Nat.zero_le _, Nat.zero_le _⟩ (zk_11_1 hI h_o) rfl (fun sz => (met_X3_aOf l D ρ kd q μ11 sz 3 r12 _ hI (zk_11_1 hI h_o) h)) rfl rfl (Nat.le_of_ble_eq_true rfl) (z_dec T_X11_placeBack_ok 34 (67, .invokevirtual 303, 3) rfl) (fun r14 μ13 hn => ?_)
        clear h
        have h := hn
        clear hn
        refine zx_imul (pc := 70) G  (z_dec T_X11_placeBack_ok 35 (70, .imul, 1) rfl) ?_
        refine zx_aload_n (pc := 71) G (some (0)) 3 rfl rfl (z_dec T_X11_placeBack_ok 36 (71, .aload_n 0, 1) rfl) ?_
        refine zx_getF (pc := 72) (b := 3) G gf_RX11_19 rfl h_o (zq_11_1 hI h_o) (z_dec T_X11_placeBack_ok 37 (72, .getfield 19, 3) rfl) ?_
        refine zx_iload (pc := 75) G 0 rfl (z_dec T_X11_placeBack_ok 38 (75, .iload 6, 2) rfl) ?_
        refine zx_callV_iN (pc := 77) (rm := rm_X3_bOf) G cw_RX11_306 ⟨Nat.le_of_ble_eq_true rfl, Nat.le_of_ble_eq_true rfl⟩ rfl rfl ⟨Nat.zero_le _, Nat.zero_le _⟩ (zk_11_1 hI h_o) rfl (fun sz => (met_X3_bOf l D ρ kd q μ13 sz 3 r12 _ hI (zk_11_1 hI h_o) h)) rfl rfl (Nat.le_of_ble_eq_true rfl) (z_dec T_X11_placeBack_ok 39 (77, .invokevirtual 306, 3) rfl) (fun r16 μ15 hn => ?_)
        clear h
        have h := hn
        clear hn
        refine zx_iload (pc := 80) G 1 rfl (z_dec T_X11_placeBack_ok 40 (80, .iload 5, 2) rfl) ?_
        refine zx_bipush (pc := 82) (v := 8) G (z_dec T_X11_placeBack_ok 41 (82, .bipush 8, 2) rfl) rfl ?_
        refine zx_icmp_lt (pc := 84) (tgt := 91) G rfl (z_dec T_X11_placeBack_ok 42 (84, .if_icmp .lt 7, 3) rfl) (fun hc => ?_) (fun hc => ?_)
        · replace h := z_pos hc h
          refine zx_iconst (pc := 91) (v := 4) G (z_dec T_X11_placeBack_ok 45 (91, .iconst 4, 1) rfl) rfl ?_
          refine zx_sub (lv' := [(1, .ref (o1)), (3, .int (a3))]) [4, 6] rfl ?_
          exact L_X11_placeBack_92_ok G hr hlk hI (h_a1 o1 rfl) h
        · replace h := z_neg hc h
          refine zx_iconst (pc := 87) (v := 5) G (z_dec T_X11_placeBack_ok 43 (87, .iconst 5, 1) rfl) rfl ?_
          refine zx_goto (pc := 88) (tgt := 92) G rfl (z_dec T_X11_placeBack_ok 44 (88, .goto 4, 3) rfl) ?_
          refine zx_sub (lv' := [(1, .ref (o1)), (3, .int (a3))]) [4, 6] rfl ?_
          exact L_X11_placeBack_92_ok G hr hlk hI (h_a1 o1 rfl) h
      · replace h := z_pos hc h
        refine zx_iconst (pc := 45) (v := 0) G (z_dec T_X11_placeBack_ok 22 (45, .iconst 0, 1) rfl) rfl ?_
        exact zx_iret (pc := 46) G hr hlk (Nat.le_refl _) (Nat.le_refl _) (z_dec T_X11_placeBack_ok 23 (46, .ireturn, 1) rfl) ⟨rfl, _, rfl, h⟩
    · replace h := z_neg hc h
      refine zx_aload_n (pc := 31) G (some (o1)) 3 rfl rfl (z_dec T_X11_placeBack_ok 15 (31, .aload_n 1, 1) rfl) ?_
      refine zx_getI (pc := 32) G gf_RX11_405 rfl (h_a1 o1 rfl) (z_dec T_X11_placeBack_ok 16 (32, .getfield 405, 3) rfl) ?_
      exact zx_iret (pc := 35) G hr hlk (Nat.le_refl _) (Nat.le_refl _) (z_dec T_X11_placeBack_ok 17 (35, .ireturn, 1) rfl) ⟨rfl, _, rfl, h⟩
abbrev rm_X11_winBack : Room := { frames := 3, cells := 0, slots := 0, locals := 64 }
set_option maxRecDepth 100000 in
set_option maxHeartbeats 4000000 in
theorem met_X11_winBack (l : Launch) (D : va_G) (ρ : z_A) (kd : z_K) (q : z_Q) (μ : z_M) (sz : Nat) (a1 : Option Nat) (a2 : Option Nat) (a3 : Int32) (K : Int32 → z_M → Prop) (hI : z_I kd q) (h_o : kd 0 = some (.inl 11)) (h_a1 : ∀ a, a1 = some a → kd a = some (.inl 0)) (h_a2 : ∀ a, a2 = some a → kd a = some (.inl 6)) (h : C_X11_winBack kd q a1 a2 a3 μ K) : Met l yX11_winBack (z_ws yX11_winBack cX11_winBack 7 (Option.some Jvm.ClassFile.FieldType.int)) rm_X11_winBack (z_Pc D ρ kd q μ sz [.ref (0), va_rf (a1), va_rf (a2), .int (a3)]) (z_Qn D (z_Rg ρ sz) ρ kd (z_Ki q K)) 0 0 (z_Rg ρ sz) := by
  refine z_met (rm := rm_X11_winBack) (by decide) (by cases a1 <;> cases a2 <;> exact Nat.le_of_ble_eq_true rfl) (fun p e s m args below meth c G hr hlk => ?_)
  unfold C_X11_winBack at h
  rw [show lv_args 0 [.ref (0), va_rf (a1), va_rf (a2), .int (a3)] = [(0, .ref (0)), (1, va_rf (a1)), (2, va_rf (a2)), (3, .int (a3))] from by cases a1 <;> cases a2 <;> rfl]
  refine zx_aload_n (pc := 0) G (a1) 1 rfl rfl (z_dec T_X11_winBack_ok 0 (0, .aload_n 1, 1) rfl) ?_
  refine zx_aload_n (pc := 1) G (a1) 1 rfl rfl (z_dec T_X11_winBack_ok 1 (1, .aload_n 1, 1) rfl) ?_
  obtain ⟨o1, rfl, h⟩ := h
  refine zx_getI (pc := 2) G gf_RX11_439 rfl (h_a1 o1 rfl) (z_dec T_X11_winBack_ok 2 (2, .getfield 439, 3) rfl) ?_
  refine zx_callV_iN (pc := 5) (rm := rm_X0_horseIn) G cw_RX11_223 ⟨Nat.le_of_ble_eq_true rfl, Nat.le_of_ble_eq_true rfl⟩ rfl rfl ⟨Nat.zero_le _, Nat.zero_le _⟩ (h_a1 o1 rfl) rfl (fun sz => (met_X0_horseIn l D ρ kd q μ sz o1 (μ.1 o1 7) _ hI (h_a1 o1 rfl) h)) rfl rfl (Nat.le_of_ble_eq_true rfl) (z_dec T_X11_winBack_ok 3 (5, .invokevirtual 223, 3) rfl) (fun r3 μ2 hn => ?_)
  clear h
  have h := hn
  clear hn
  refine zx_istore (pc := 8) (lv' := [(4, .int (r3)), (0, .ref (0)), (1, .ref (o1)), (2, va_rf (a2)), (3, .int (a3))]) G (Nat.le_of_ble_eq_true rfl) rfl (z_dec T_X11_winBack_ok 4 (8, .istore 4, 2) rfl) ?_
  refine zx_aload_n (pc := 10) G (a2) 3 rfl rfl (z_dec T_X11_winBack_ok 5 (10, .aload_n 2, 1) rfl) ?_
  refine zx_iload (pc := 11) G 0 rfl (z_dec T_X11_winBack_ok 6 (11, .iload 4, 2) rfl) ?_
  obtain ⟨o4, rfl, h⟩ := h
  refine zx_callV_zN (pc := 13) (rm := rm_X6_isGone) G cw_RX11_449 ⟨Nat.le_of_ble_eq_true rfl, Nat.le_of_ble_eq_true rfl⟩ rfl rfl ⟨Nat.zero_le _, Nat.zero_le _⟩ (h_a2 o4 rfl) rfl (fun sz => (met_X6_isGone l D ρ kd q μ2 sz o4 r3 _ hI (h_a2 o4 rfl) h)) rfl rfl (Nat.le_of_ble_eq_true rfl) (z_dec T_X11_winBack_ok 7 (13, .invokevirtual 449, 3) rfl) (fun r6 μ5 hzr6 hn => ?_)
  clear h
  have h := hn
  clear hn
  refine zx_if_eq (pc := 16) (tgt := 24) G rfl (z_dec T_X11_winBack_ok 8 (16, .ifCond .eq 8, 3) rfl) (fun hc => ?_) (fun hc => ?_)
  · replace h := z_pos hc h
    refine zx_aload_n (pc := 24) G (some (o4)) 3 rfl rfl (z_dec T_X11_winBack_ok 12 (24, .aload_n 2, 1) rfl) ?_
    refine zx_callV_iN (pc := 25) (rm := rm_X6_winners) G cw_RX11_452 ⟨Nat.le_of_ble_eq_true rfl, Nat.le_of_ble_eq_true rfl⟩ rfl rfl ⟨Nat.zero_le _, Nat.zero_le _⟩ (h_a2 o4 rfl) rfl (fun sz => (met_X6_winners l D ρ kd q μ5 sz o4 _ hI (h_a2 o4 rfl) h)) rfl rfl (Nat.le_of_ble_eq_true rfl) (z_dec T_X11_winBack_ok 13 (25, .invokevirtual 452, 3) rfl) (fun r8 μ7 hn => ?_)
    clear h
    have h := hn
    clear hn
    refine zx_istore (pc := 28) (lv' := [(5, .int (r8)), (4, .int (r3)), (0, .ref (0)), (1, .ref (o1)), (2, .ref (o4)), (3, .int (a3))]) G (Nat.le_of_ble_eq_true rfl) rfl (z_dec T_X11_winBack_ok 14 (28, .istore 5, 2) rfl) ?_
    refine zx_aload_n (pc := 30) G (some (o4)) 4 rfl rfl (z_dec T_X11_winBack_ok 15 (30, .aload_n 2, 1) rfl) ?_
    refine zx_iload (pc := 31) G 1 rfl (z_dec T_X11_winBack_ok 16 (31, .iload 4, 2) rfl) ?_
    refine zx_callV_zN (pc := 33) (rm := rm_X6_hasWon) G cw_RX11_455 ⟨Nat.le_of_ble_eq_true rfl, Nat.le_of_ble_eq_true rfl⟩ rfl rfl ⟨Nat.zero_le _, Nat.zero_le _⟩ (h_a2 o4 rfl) rfl (fun sz => (met_X6_hasWon l D ρ kd q μ7 sz o4 r3 _ hI (h_a2 o4 rfl) h)) rfl rfl (Nat.le_of_ble_eq_true rfl) (z_dec T_X11_winBack_ok 17 (33, .invokevirtual 455, 3) rfl) (fun r10 μ9 hzr10 hn => ?_)
    clear h
    have h := hn
    clear hn
    refine zx_if_eq (pc := 36) (tgt := 45) G rfl (z_dec T_X11_winBack_ok 18 (36, .ifCond .eq 9, 3) rfl) (fun hc => ?_) (fun hc => ?_)
    · replace h := z_pos hc h
      refine zx_iconst (pc := 45) (v := 0) G (z_dec T_X11_winBack_ok 22 (45, .iconst 0, 1) rfl) rfl ?_
      exact zx_iret (pc := 46) G hr hlk (Nat.le_refl _) (Nat.le_refl _) (z_dec T_X11_winBack_ok 23 (46, .ireturn, 1) rfl) ⟨rfl, _, rfl, h⟩
    · replace h := z_neg hc h
      refine zx_iload (pc := 39) G 0 rfl (z_dec T_X11_winBack_ok 19 (39, .iload 5, 2) rfl) ?_
      refine zx_iconst (pc := 41) (v := 1) G (z_dec T_X11_winBack_ok 20 (41, .iconst 1, 1) rfl) rfl ?_
      refine zx_icmp_ge (pc := 42) (tgt := 47) G rfl (z_dec T_X11_winBack_ok 21 (42, .if_icmp .ge 5, 3) rfl) (fun hc => ?_) (fun hc => ?_)
      · replace h := z_pos hc h
        refine zx_aload_n (pc := 47) G (some (o1)) 3 rfl rfl (z_dec T_X11_winBack_ok 24 (47, .aload_n 1, 1) rfl) ?_
        refine zx_getI (pc := 48) G gf_RX11_405 rfl (h_a1 o1 rfl) (z_dec T_X11_winBack_ok 25 (48, .getfield 405, 3) rfl) ?_
        refine zx_iload (pc := 51) G 0 rfl (z_dec T_X11_winBack_ok 26 (51, .iload 5, 2) rfl) ?_
        obtain ⟨c11, h⟩ := h
        refine zx_idiv (pc := 53) G c11 (z_dec T_X11_winBack_ok 27 (53, .idiv, 1) rfl) ?_
        refine zx_istore (pc := 54) (lv' := [(6, .int ((μ9.1 o1 3) / r8)), (5, .int (r8)), (4, .int (r3)), (0, .ref (0)), (1, .ref (o1)), (2, .ref (o4)), (3, .int (a3))]) G (Nat.le_of_ble_eq_true rfl) rfl (z_dec T_X11_winBack_ok 28 (54, .istore 6, 2) rfl) ?_
        refine zx_iload (pc := 56) G 0 rfl (z_dec T_X11_winBack_ok 29 (56, .iload 6, 2) rfl) ?_
        refine zx_aload_n (pc := 58) G (some (0)) 3 rfl rfl (z_dec T_X11_winBack_ok 30 (58, .aload_n 0, 1) rfl) ?_
        refine zx_getF (pc := 59) (b := 3) G gf_RX11_19 rfl h_o (zq_11_1 hI h_o) (z_dec T_X11_winBack_ok 31 (59, .getfield 19, 3) rfl) ?_
        refine zx_iload (pc := 62) G 0 rfl (z_dec T_X11_winBack_ok 32 (62, .iload 6, 2) rfl) ?_
        refine zx_aload_n (pc := 64) G (some (o1)) 4 rfl rfl (z_dec T_X11_winBack_ok 33 (64, .aload_n 1, 1) rfl) ?_
        refine zx_aload_n (pc := 65) G (some (o1)) 4 rfl rfl (z_dec T_X11_winBack_ok 34 (65, .aload_n 1, 1) rfl) ?_
        refine zx_getI (pc := 66) G gf_RX11_439 rfl (h_a1 o1 rfl) (z_dec T_X11_winBack_ok 35 (66, .getfield 439, 3) rfl) ?_
        refine zx_callV_iN (pc := 69) (rm := rm_X0_stepIn) G cw_RX11_412 ⟨Nat.le_of_ble_eq_true rfl, Nat.le_of_ble_eq_true rfl⟩ rfl rfl ⟨Nat.zero_le _, Nat.zero_le _⟩ (h_a1 o1 rfl) rfl (fun sz => (met_X0_stepIn l D ρ kd q μ9 sz o1 (μ9.1 o1 7) _ hI (h_a1 o1 rfl) h)) rfl rfl (Nat.le_of_ble_eq_true rfl) (z_dec T_X11_winBack_ok 36 (69, .invokevirtual 412, 3) rfl) (fun r13 μ12 hn => ?_)
        clear h
        have h := hn
        clear hn
        refine zx_callV_iN (pc := 72) (rm := rm_X3_won) G cw_RX11_415 ⟨Nat.le_of_ble_eq_true rfl, Nat.le_of_ble_eq_true rfl⟩ rfl rfl ⟨Nat.zero_le _, Nat.zero_le _⟩ (zk_11_1 hI h_o) rfl (fun sz => (met_X3_won l D ρ kd q μ12 sz 3 ((μ9.1 o1 3) / r8) r13 _ hI (zk_11_1 hI h_o) h)) rfl rfl (Nat.le_of_ble_eq_true rfl) (z_dec T_X11_winBack_ok 37 (72, .invokevirtual 415, 3) rfl) (fun r15 μ14 hn => ?_)
        clear h
        have h := hn
        clear hn
        refine zx_iload_n (pc := 75) G 6 rfl rfl (z_dec T_X11_winBack_ok 38 (75, .iload_n 3, 1) rfl) ?_
        refine zx_callS_iN (pc := 76) (rm := rm_X11_rest) G cw_RX11_458 ⟨Nat.le_of_ble_eq_true rfl, Nat.le_of_ble_eq_true rfl⟩ rfl rfl ⟨Nat.zero_le _, Nat.zero_le _⟩ (fun sz => (met_X11_rest l D ρ kd q μ14 sz r15 a3 _ hI h)) rfl rfl (Nat.le_of_ble_eq_true rfl) (z_dec T_X11_winBack_ok 39 (76, .invokestatic 458, 3) rfl) (fun r17 μ16 hn => ?_)
        clear h
        have h := hn
        clear hn
        refine zx_iadd (pc := 79) G  (z_dec T_X11_winBack_ok 40 (79, .iadd, 1) rfl) ?_
        exact zx_iret (pc := 80) G hr hlk (Nat.le_refl _) (Nat.le_refl _) (z_dec T_X11_winBack_ok 41 (80, .ireturn, 1) rfl) ⟨rfl, _, rfl, h⟩
      · replace h := z_neg hc h
        refine zx_iconst (pc := 45) (v := 0) G (z_dec T_X11_winBack_ok 22 (45, .iconst 0, 1) rfl) rfl ?_
        exact zx_iret (pc := 46) G hr hlk (Nat.le_refl _) (Nat.le_refl _) (z_dec T_X11_winBack_ok 23 (46, .ireturn, 1) rfl) ⟨rfl, _, rfl, h⟩
  · replace h := z_neg hc h
    refine zx_aload_n (pc := 19) G (some (o1)) 2 rfl rfl (z_dec T_X11_winBack_ok 9 (19, .aload_n 1, 1) rfl) ?_
    refine zx_getI (pc := 20) G gf_RX11_405 rfl (h_a1 o1 rfl) (z_dec T_X11_winBack_ok 10 (20, .getfield 405, 3) rfl) ?_
    exact zx_iret (pc := 23) G hr hlk (Nat.le_refl _) (Nat.le_refl _) (z_dec T_X11_winBack_ok 11 (23, .ireturn, 1) rfl) ⟨rfl, _, rfl, h⟩
abbrev rm_X11_singleBack : Room := { frames := 4, cells := 0, slots := 0, locals := 91 }
set_option maxRecDepth 100000 in
set_option maxHeartbeats 4000000 in
theorem L_X11_singleBack_47_ok {p : Program} {l : Launch} {e : Env} {s : State} {m : MethodId} {args : Array Value} {below : List Frame} {meth : Method} {c : Code} {D : va_G} {A : Nat → Prop} {ρ : z_A} {kd : z_K} {q : z_Q} {μ : z_M} {K : Int32 → z_M → Prop} {v2 : Nat} {v3 : Nat} {v4 : Int32} {v5 : Int32} (G : z_G p c cX11_singleBack s m args RX11 6 D) (hr : meth.sig.returnType = (Option.some Jvm.ClassFile.FieldType.int)) (hlk : meth.locks = false) (hI : z_I kd q) (f_l0 : kd 0 = some (.inl 11)) (f_l2 : kd v2 = some (.inl 0)) (f_l3 : kd v3 = some (.inl 6)) (h : L_X11_singleBack_47 kd q K v2 v3 v4 v5 μ) : z_X p l e rm_X11_singleBack s m args below meth c 6 D A (MQ below (z_Qn D A ρ kd (z_Ki q K)) args s 0 0 A) 0 0 ρ kd q μ 47 [(0, .ref (0)), (2, .ref (v2)), (3, .ref (v3)), (4, .int (v4)), (5, .int (v5))] [] := by
    unfold L_X11_singleBack_47 at h
    refine zx_aload_n (pc := 47) G (some (v2)) 1 rfl rfl (z_dec T_X11_singleBack_ok 28 (47, .aload_n 2, 1) rfl) ?_
    refine zx_getI (pc := 48) G gf_RX11_268 rfl f_l2 (z_dec T_X11_singleBack_ok 29 (48, .getfield 268, 3) rfl) ?_
    refine zx_if_eq (pc := 51) (tgt := 67) G rfl (z_dec T_X11_singleBack_ok 30 (51, .ifCond .eq 16, 3) rfl) (fun hc => ?_) (fun hc => ?_)
    · replace h := z_pos hc h
      refine zx_iload (pc := 67) G 4 rfl (z_dec T_X11_singleBack_ok 39 (67, .iload 5, 2) rfl) ?_
      exact zx_iret (pc := 69) G hr hlk (Nat.le_refl _) (Nat.le_refl _) (z_dec T_X11_singleBack_ok 40 (69, .ireturn, 1) rfl) ⟨rfl, _, rfl, h⟩
    · replace h := z_neg hc h
      refine zx_iload (pc := 54) G 4 rfl (z_dec T_X11_singleBack_ok 31 (54, .iload 5, 2) rfl) ?_
      refine zx_aload_n (pc := 56) G (some (0)) 0 rfl rfl (z_dec T_X11_singleBack_ok 32 (56, .aload_n 0, 1) rfl) ?_
      refine zx_aload_n (pc := 57) G (some (v2)) 1 rfl rfl (z_dec T_X11_singleBack_ok 33 (57, .aload_n 2, 1) rfl) ?_
      refine zx_aload_n (pc := 58) G (some (v3)) 2 rfl rfl (z_dec T_X11_singleBack_ok 34 (58, .aload_n 3, 1) rfl) ?_
      refine zx_iload (pc := 59) G 3 rfl (z_dec T_X11_singleBack_ok 35 (59, .iload 4, 2) rfl) ?_
      refine zx_callV_iN (pc := 61) (rm := rm_X11_placeBack) G cw_RX11_446 ⟨Nat.le_of_ble_eq_true rfl, Nat.le_of_ble_eq_true rfl⟩ rfl rfl ⟨Nat.zero_le _, Nat.zero_le _⟩ f_l0 rfl (fun sz => (met_X11_placeBack l D ρ kd q μ sz (some v2) (some v3) v4 _ hI f_l0 (fun a ha => by cases ha; exact f_l2) (fun a ha => by cases ha; exact f_l3) h)) rfl rfl (Nat.le_of_ble_eq_true rfl) (z_dec T_X11_singleBack_ok 36 (61, .invokevirtual 446, 3) rfl) (fun r2 μ1 hn => ?_)
      clear h
      have h := hn
      clear hn
      refine zx_iadd (pc := 64) G  (z_dec T_X11_singleBack_ok 37 (64, .iadd, 1) rfl) ?_
      refine zx_istore (pc := 65) (lv' := [(5, .int (v5 + r2)), (0, .ref (0)), (2, .ref (v2)), (3, .ref (v3)), (4, .int (v4))]) G (Nat.le_of_ble_eq_true rfl) rfl (z_dec T_X11_singleBack_ok 38 (65, .istore 5, 2) rfl) ?_
      refine zx_iload (pc := 67) G 0 rfl (z_dec T_X11_singleBack_ok 39 (67, .iload 5, 2) rfl) ?_
      exact zx_iret (pc := 69) G hr hlk (Nat.le_refl _) (Nat.le_refl _) (z_dec T_X11_singleBack_ok 40 (69, .ireturn, 1) rfl) ⟨rfl, _, rfl, h⟩
set_option maxRecDepth 100000 in
set_option maxHeartbeats 4000000 in
theorem met_X11_singleBack (l : Launch) (D : va_G) (ρ : z_A) (kd : z_K) (q : z_Q) (μ : z_M) (sz : Nat) (a1 : Int32) (a2 : Option Nat) (K : Int32 → z_M → Prop) (hI : z_I kd q) (h_o : kd 0 = some (.inl 11)) (h_a2 : ∀ a, a2 = some a → kd a = some (.inl 0)) (h : C_X11_singleBack kd q a1 a2 μ K) : Met l yX11_singleBack (z_ws yX11_singleBack cX11_singleBack 6 (Option.some Jvm.ClassFile.FieldType.int)) rm_X11_singleBack (z_Pc D ρ kd q μ sz [.ref (0), .int (a1), va_rf (a2)]) (z_Qn D (z_Rg ρ sz) ρ kd (z_Ki q K)) 0 0 (z_Rg ρ sz) := by
  refine z_met (rm := rm_X11_singleBack) (by decide) (by cases a2 <;> exact Nat.le_of_ble_eq_true rfl) (fun p e s m args below meth c G hr hlk => ?_)
  unfold C_X11_singleBack at h
  rw [show lv_args 0 [.ref (0), .int (a1), va_rf (a2)] = [(0, .ref (0)), (1, .int (a1)), (2, va_rf (a2))] from by cases a2 <;> rfl]
  refine zx_aload_n (pc := 0) G (some (0)) 0 rfl rfl (z_dec T_X11_singleBack_ok 0 (0, .aload_n 0, 1) rfl) ?_
  refine zx_aload_n (pc := 1) G (a2) 2 rfl rfl (z_dec T_X11_singleBack_ok 1 (1, .aload_n 2, 1) rfl) ?_
  obtain ⟨o1, rfl, h⟩ := h
  refine zx_getI (pc := 2) G gf_RX11_439 rfl (h_a2 o1 rfl) (z_dec T_X11_singleBack_ok 2 (2, .getfield 439, 3) rfl) ?_
  refine zx_callV_rN (pc := 5) (rm := rm_X11_raceAt) G cw_RX11_98 ⟨Nat.le_of_ble_eq_true rfl, Nat.le_of_ble_eq_true rfl⟩ rfl rfl ⟨Nat.zero_le _, Nat.zero_le _⟩ h_o rfl (fun sz => (met_X11_raceAt l D ρ kd q μ sz (μ.1 o1 7) _ hI h_o h)) rfl rfl (Nat.le_of_ble_eq_true rfl) (z_dec T_X11_singleBack_ok 3 (5, .invokevirtual 98, 3) rfl) (fun r3 μ2 hfr3 hn => ?_)
  clear h
  have h := hn
  clear hn
  refine zx_astore_n (pc := 8) (lv' := [(3, va_rf (r3)), (0, .ref (0)), (1, .int (a1)), (2, .ref (o1))]) G (r3) rfl (Nat.le_of_ble_eq_true rfl) rfl (z_dec T_X11_singleBack_ok 4 (8, .astore_n 3, 1) rfl) ?_
  refine zx_aload_n (pc := 9) G (r3) 0 rfl rfl (z_dec T_X11_singleBack_ok 5 (9, .aload_n 3, 1) rfl) ?_
  obtain ⟨h1, h2⟩ := h
  rcases r3 with _ | o4
  · replace h := h1 rfl
    refine zx_ifnonnullN (pc := 10) G  (z_dec T_X11_singleBack_ok 6 (10, .ifnonnull 5, 3) rfl) ?_
    refine zx_iconst (pc := 13) (v := 0) G (z_dec T_X11_singleBack_ok 7 (13, .iconst 0, 1) rfl) rfl ?_
    exact zx_iret (pc := 14) G hr hlk (Nat.le_refl _) (Nat.le_refl _) (z_dec T_X11_singleBack_ok 8 (14, .ireturn, 1) rfl) ⟨rfl, _, rfl, h⟩
  · replace h := h2 o4 rfl
    refine zx_ifnonnullS (pc := 10) (tgt := 15) G (hfr3 o4 rfl) rfl (z_dec T_X11_singleBack_ok 6 (10, .ifnonnull 5, 3) rfl) ?_
    refine zx_aload_n (pc := 15) G (some (0)) 1 rfl rfl (z_dec T_X11_singleBack_ok 9 (15, .aload_n 0, 1) rfl) ?_
    refine zx_iload_n (pc := 16) G 2 rfl rfl (z_dec T_X11_singleBack_ok 10 (16, .iload_n 1, 1) rfl) ?_
    refine zx_aload_n (pc := 17) G (some (o1)) 3 rfl rfl (z_dec T_X11_singleBack_ok 11 (17, .aload_n 2, 1) rfl) ?_
    refine zx_callV_iN (pc := 18) (rm := rm_X11_deductionFrom) G cw_RX11_271 ⟨Nat.le_of_ble_eq_true rfl, Nat.le_of_ble_eq_true rfl⟩ rfl rfl ⟨Nat.zero_le _, Nat.zero_le _⟩ h_o rfl (fun sz => (met_X11_deductionFrom l D ρ kd q μ2 sz a1 (some o1) _ hI h_o (fun a ha => by cases ha; exact (h_a2 o1 rfl)) h)) rfl rfl (Nat.le_of_ble_eq_true rfl) (z_dec T_X11_singleBack_ok 12 (18, .invokevirtual 271, 3) rfl) (fun r6 μ5 hn => ?_)
    clear h
    have h := hn
    clear hn
    refine zx_istore (pc := 21) (lv' := [(4, .int (r6)), (3, .ref (o4)), (0, .ref (0)), (1, .int (a1)), (2, .ref (o1))]) G (Nat.le_of_ble_eq_true rfl) rfl (z_dec T_X11_singleBack_ok 13 (21, .istore 4, 2) rfl) ?_
    refine zx_iconst (pc := 23) (v := 0) G (z_dec T_X11_singleBack_ok 14 (23, .iconst 0, 1) rfl) rfl ?_
    refine zx_istore (pc := 24) (lv' := [(5, .int ((0 : Int32))), (4, .int (r6)), (3, .ref (o4)), (0, .ref (0)), (1, .int (a1)), (2, .ref (o1))]) G (Nat.le_of_ble_eq_true rfl) rfl (z_dec T_X11_singleBack_ok 15 (24, .istore 5, 2) rfl) ?_
    refine zx_aload_n (pc := 26) G (some (o1)) 5 rfl rfl (z_dec T_X11_singleBack_ok 16 (26, .aload_n 2, 1) rfl) ?_
    refine zx_getI (pc := 27) G gf_RX11_268 rfl (h_a2 o1 rfl) (z_dec T_X11_singleBack_ok 17 (27, .getfield 268, 3) rfl) ?_
    refine zx_iconst (pc := 30) (v := 1) G (z_dec T_X11_singleBack_ok 18 (30, .iconst 1, 1) rfl) rfl ?_
    refine zx_icmp_eq (pc := 31) (tgt := 47) G rfl (z_dec T_X11_singleBack_ok 19 (31, .if_icmp .eq 16, 3) rfl) (fun hc => ?_) (fun hc => ?_)
    · replace h := z_pos hc h
      refine zx_sub (lv' := [(0, .ref (0)), (2, .ref (o1)), (3, .ref (o4)), (4, .int (r6)), (5, .int ((0 : Int32)))]) [3, 5, 2, 1, 0] rfl ?_
      exact L_X11_singleBack_47_ok G hr hlk hI h_o (h_a2 o1 rfl) (hfr3 o4 rfl) h
    · replace h := z_neg hc h
      refine zx_iload (pc := 34) G 0 rfl (z_dec T_X11_singleBack_ok 20 (34, .iload 5, 2) rfl) ?_
      refine zx_aload_n (pc := 36) G (some (0)) 3 rfl rfl (z_dec T_X11_singleBack_ok 21 (36, .aload_n 0, 1) rfl) ?_
      refine zx_aload_n (pc := 37) G (some (o1)) 5 rfl rfl (z_dec T_X11_singleBack_ok 22 (37, .aload_n 2, 1) rfl) ?_
      refine zx_aload_n (pc := 38) G (some (o4)) 2 rfl rfl (z_dec T_X11_singleBack_ok 23 (38, .aload_n 3, 1) rfl) ?_
      refine zx_iload (pc := 39) G 1 rfl (z_dec T_X11_singleBack_ok 24 (39, .iload 4, 2) rfl) ?_
      refine zx_callV_iN (pc := 41) (rm := rm_X11_winBack) G cw_RX11_442 ⟨Nat.le_of_ble_eq_true rfl, Nat.le_of_ble_eq_true rfl⟩ rfl rfl ⟨Nat.zero_le _, Nat.zero_le _⟩ h_o rfl (fun sz => (met_X11_winBack l D ρ kd q μ5 sz (some o1) (some o4) r6 _ hI h_o (fun a ha => by cases ha; exact (h_a2 o1 rfl)) (fun a ha => by cases ha; exact (hfr3 o4 rfl)) h)) rfl rfl (Nat.le_of_ble_eq_true rfl) (z_dec T_X11_singleBack_ok 25 (41, .invokevirtual 442, 3) rfl) (fun r8 μ7 hn => ?_)
      clear h
      have h := hn
      clear hn
      refine zx_iadd (pc := 44) G  (z_dec T_X11_singleBack_ok 26 (44, .iadd, 1) rfl) ?_
      refine zx_istore (pc := 45) (lv' := [(5, .int (((0 : Int32)) + r8)), (4, .int (r6)), (3, .ref (o4)), (0, .ref (0)), (1, .int (a1)), (2, .ref (o1))]) G (Nat.le_of_ble_eq_true rfl) rfl (z_dec T_X11_singleBack_ok 27 (45, .istore 5, 2) rfl) ?_
      refine zx_sub (lv' := [(0, .ref (0)), (2, .ref (o1)), (3, .ref (o4)), (4, .int (r6)), (5, .int (((0 : Int32)) + r8))]) [3, 5, 2, 1, 0] rfl ?_
      exact L_X11_singleBack_47_ok G hr hlk hI h_o (h_a2 o1 rfl) (hfr3 o4 rfl) h
abbrev rm_X11_decide : Room := { frames := 5, cells := 0, slots := 0, locals := 116 }
set_option maxRecDepth 100000 in
set_option maxHeartbeats 4000000 in
theorem L_X11_decide_28_ok {p : Program} {l : Launch} {e : Env} {s : State} {m : MethodId} {args : Array Value} {below : List Frame} {meth : Method} {c : Code} {D : va_G} {A : Nat → Prop} {ρ : z_A} {kd : z_K} {q : z_Q} {μ : z_M} {K : z_M → Prop} {v2 : Nat} {t0 : Int32} {t1 : Nat} (G : z_G p c cX11_decide s m args RX11 4 D) (hr : meth.sig.returnType = (Option.none : Option Jvm.ClassFile.FieldType)) (hlk : meth.locks = false) (hI : z_I kd q) (f_l0 : kd 0 = some (.inl 11)) (f_l2 : kd v2 = some (.inl 0)) (f_s1 : kd t1 = some (.inl 0)) (h : L_X11_decide_28 kd q K v2 t0 t1 μ) : z_X p l e rm_X11_decide s m args below meth c 4 D A (MQ below (z_Qn D A ρ kd (z_Kv q K)) args s 0 0 A) 0 0 ρ kd q μ 28 [(0, .ref (0)), (2, .ref (v2))] [.int (t0), .ref (t1)] := by
    unfold L_X11_decide_28 at h
    refine zx_putI (pc := 28) G gf_RX11_262 cf_0 rfl rfl f_s1 (z_dec T_X11_decide_ok 16 (28, .putfield 262, 3) rfl) ?_
    refine zx_aload_n (pc := 31) G (some (0)) 0 rfl rfl (z_dec T_X11_decide_ok 17 (31, .aload_n 0, 1) rfl) ?_
    refine zx_aload_n (pc := 32) G (some (v2)) 1 rfl rfl (z_dec T_X11_decide_ok 18 (32, .aload_n 2, 1) rfl) ?_
    refine zx_getI (pc := 33) G gf_RX11_395 rfl f_l2 (z_dec T_X11_decide_ok 19 (33, .getfield 395, 3) rfl) ?_
    refine zx_callV_rN (pc := 36) (rm := rm_X11_bookAt) G cw_RX11_141 ⟨Nat.le_of_ble_eq_true rfl, Nat.le_of_ble_eq_true rfl⟩ rfl rfl ⟨Nat.zero_le _, Nat.zero_le _⟩ f_l0 rfl (fun sz => (met_X11_bookAt l D ρ kd q (si μ t1 10 t0) sz ((si μ t1 10 t0).1 v2 1) _ hI f_l0 h)) rfl rfl (Nat.le_of_ble_eq_true rfl) (z_dec T_X11_decide_ok 20 (36, .invokevirtual 141, 3) rfl) (fun r2 μ1 hfr2 hn => ?_)
    clear h
    have h := hn
    clear hn
    refine zx_astore_n (pc := 39) (lv' := [(3, va_rf (r2)), (0, .ref (0)), (2, .ref (v2))]) G (r2) rfl (Nat.le_of_ble_eq_true rfl) rfl (z_dec T_X11_decide_ok 21 (39, .astore_n 3, 1) rfl) ?_
    refine zx_aload_n (pc := 40) G (r2) 0 rfl rfl (z_dec T_X11_decide_ok 22 (40, .aload_n 3, 1) rfl) ?_
    obtain ⟨h1, h2⟩ := h
    rcases r2 with _ | o3
    · replace h := h1 rfl
      refine zx_ifnullN (pc := 41) (tgt := 51) G rfl (z_dec T_X11_decide_ok 23 (41, .ifnull 10, 3) rfl) ?_
      exact zx_vret (pc := 51) G hr hlk (Nat.le_refl _) (Nat.le_refl _) (z_dec T_X11_decide_ok 27 (51, .return_, 1) rfl) ⟨rfl, rfl, h⟩
    · replace h := h2 o3 rfl
      refine zx_ifnullS (pc := 41) G (hfr2 o3 rfl) (z_dec T_X11_decide_ok 23 (41, .ifnull 10, 3) rfl) ?_
      refine zx_aload_n (pc := 44) G (some (o3)) 0 rfl rfl (z_dec T_X11_decide_ok 24 (44, .aload_n 3, 1) rfl) ?_
      refine zx_getZ (pc := 45) G gf_RX11_278 rfl (hfr2 o3 rfl) (z_dec T_X11_decide_ok 25 (45, .getfield 278, 3) rfl) ?_
      refine zx_if_eq (pc := 48) (tgt := 52) G rfl (z_dec T_X11_decide_ok 26 (48, .ifCond .eq 4, 3) rfl) (fun hc => ?_) (fun hc => ?_)
      · replace h := z_pos hc h
        refine zx_aload_n (pc := 52) G (some (o3)) 0 rfl rfl (z_dec T_X11_decide_ok 28 (52, .aload_n 3, 1) rfl) ?_
        refine zx_getI (pc := 53) G gf_RX11_275 rfl (hfr2 o3 rfl) (z_dec T_X11_decide_ok 29 (53, .getfield 275, 3) rfl) ?_
        refine zx_aload_n (pc := 56) G (some (v2)) 2 rfl rfl (z_dec T_X11_decide_ok 30 (56, .aload_n 2, 1) rfl) ?_
        refine zx_getI (pc := 57) G gf_RX11_262 rfl f_l2 (z_dec T_X11_decide_ok 31 (57, .getfield 262, 3) rfl) ?_
        refine zx_icmp_lt (pc := 60) (tgt := 84) G rfl (z_dec T_X11_decide_ok 32 (60, .if_icmp .lt 24, 3) rfl) (fun hc => ?_) (fun hc => ?_)
        · replace h := z_pos hc h
          refine zx_aload_n (pc := 84) G (some (o3)) 0 rfl rfl (z_dec T_X11_decide_ok 44 (84, .aload_n 3, 1) rfl) ?_
          refine zx_iconst (pc := 85) (v := 1) G (z_dec T_X11_decide_ok 45 (85, .iconst 1, 1) rfl) rfl ?_
          refine zx_putZ (pc := 86) G gf_RX11_278 cf_1 rfl rfl (Or.inr rfl) (hfr2 o3 rfl) (z_dec T_X11_decide_ok 46 (86, .putfield 278, 3) rfl) ?_
          exact zx_vret (pc := 89) G hr hlk (Nat.le_refl _) (Nat.le_refl _) (z_dec T_X11_decide_ok 47 (89, .return_, 1) rfl) ⟨rfl, rfl, h⟩
        · replace h := z_neg hc h
          refine zx_aload_n (pc := 63) G (some (o3)) 0 rfl rfl (z_dec T_X11_decide_ok 33 (63, .aload_n 3, 1) rfl) ?_
          refine zx_dup (pc := 64) G rfl (z_dec T_X11_decide_ok 34 (64, .dup, 1) rfl) ?_
          refine zx_getI (pc := 65) G gf_RX11_275 rfl (hfr2 o3 rfl) (z_dec T_X11_decide_ok 35 (65, .getfield 275, 3) rfl) ?_
          refine zx_aload_n (pc := 68) G (some (v2)) 2 rfl rfl (z_dec T_X11_decide_ok 36 (68, .aload_n 2, 1) rfl) ?_
          refine zx_getI (pc := 69) G gf_RX11_262 rfl f_l2 (z_dec T_X11_decide_ok 37 (69, .getfield 262, 3) rfl) ?_
          refine zx_isub (pc := 72) G  (z_dec T_X11_decide_ok 38 (72, .isub, 1) rfl) ?_
          refine zx_putI (pc := 73) G gf_RX11_275 cf_1 rfl rfl (hfr2 o3 rfl) (z_dec T_X11_decide_ok 39 (73, .putfield 275, 3) rfl) ?_
          refine zx_aload_n (pc := 76) G (some (v2)) 2 rfl rfl (z_dec T_X11_decide_ok 40 (76, .aload_n 2, 1) rfl) ?_
          refine zx_iconst (pc := 77) (v := 1) G (z_dec T_X11_decide_ok 41 (77, .iconst 1, 1) rfl) rfl ?_
          refine zx_putZ (pc := 78) G gf_RX11_265 cf_0 rfl rfl (Or.inr rfl) f_l2 (z_dec T_X11_decide_ok 42 (78, .putfield 265, 3) rfl) ?_
          refine zx_goto (pc := 81) (tgt := 89) G rfl (z_dec T_X11_decide_ok 43 (81, .goto 8, 3) rfl) ?_
          exact zx_vret (pc := 89) G hr hlk (Nat.le_refl _) (Nat.le_refl _) (z_dec T_X11_decide_ok 47 (89, .return_, 1) rfl) ⟨rfl, rfl, h⟩
      · replace h := z_neg hc h
        exact zx_vret (pc := 51) G hr hlk (Nat.le_refl _) (Nat.le_refl _) (z_dec T_X11_decide_ok 27 (51, .return_, 1) rfl) ⟨rfl, rfl, h⟩
set_option maxRecDepth 100000 in
set_option maxHeartbeats 4000000 in
theorem met_X11_decide (l : Launch) (D : va_G) (ρ : z_A) (kd : z_K) (q : z_Q) (μ : z_M) (sz : Nat) (a1 : Int32) (a2 : Option Nat) (K : z_M → Prop) (hI : z_I kd q) (h_o : kd 0 = some (.inl 11)) (h_a2 : ∀ a, a2 = some a → kd a = some (.inl 0)) (h : C_X11_decide kd q a1 a2 μ K) : Met l yX11_decide (z_ws yX11_decide cX11_decide 4 (Option.none : Option Jvm.ClassFile.FieldType)) rm_X11_decide (z_Pc D ρ kd q μ sz [.ref (0), .int (a1), va_rf (a2)]) (z_Qn D (z_Rg ρ sz) ρ kd (z_Kv q K)) 0 0 (z_Rg ρ sz) := by
  refine z_met (rm := rm_X11_decide) (by decide) (by cases a2 <;> exact Nat.le_of_ble_eq_true rfl) (fun p e s m args below meth c G hr hlk => ?_)
  unfold C_X11_decide at h
  rw [show lv_args 0 [.ref (0), .int (a1), va_rf (a2)] = [(0, .ref (0)), (1, .int (a1)), (2, va_rf (a2))] from by cases a2 <;> rfl]
  refine zx_aload_n (pc := 0) G (a2) 2 rfl rfl (z_dec T_X11_decide_ok 0 (0, .aload_n 2, 1) rfl) ?_
  refine zx_iconst (pc := 1) (v := 1) G (z_dec T_X11_decide_ok 1 (1, .iconst 1, 1) rfl) rfl ?_
  obtain ⟨o1, rfl, h⟩ := h
  refine zx_putZ (pc := 2) G gf_RX11_259 cf_0 rfl rfl (Or.inr rfl) (h_a2 o1 rfl) (z_dec T_X11_decide_ok 2 (2, .putfield 259, 3) rfl) ?_
  refine zx_aload_n (pc := 5) G (some (o1)) 2 rfl rfl (z_dec T_X11_decide_ok 3 (5, .aload_n 2, 1) rfl) ?_
  refine zx_aload_n (pc := 6) G (some (o1)) 2 rfl rfl (z_dec T_X11_decide_ok 4 (6, .aload_n 2, 1) rfl) ?_
  refine zx_getI (pc := 7) G gf_RX11_268 rfl (h_a2 o1 rfl) (z_dec T_X11_decide_ok 5 (7, .getfield 268, 3) rfl) ?_
  refine zx_iconst (pc := 10) (v := 3) G (z_dec T_X11_decide_ok 6 (10, .iconst 3, 1) rfl) rfl ?_
  refine zx_icmp_ne (pc := 11) (tgt := 22) G rfl (z_dec T_X11_decide_ok 7 (11, .if_icmp .ne 11, 3) rfl) (fun hc => ?_) (fun hc => ?_)
  · replace h := z_neg hc h
    refine zx_aload_n (pc := 22) G (some (0)) 0 rfl rfl (z_dec T_X11_decide_ok 12 (22, .aload_n 0, 1) rfl) ?_
    refine zx_iload_n (pc := 23) G 1 rfl rfl (z_dec T_X11_decide_ok 13 (23, .iload_n 1, 1) rfl) ?_
    refine zx_aload_n (pc := 24) G (some (o1)) 2 rfl rfl (z_dec T_X11_decide_ok 14 (24, .aload_n 2, 1) rfl) ?_
    refine zx_callV_iN (pc := 25) (rm := rm_X11_singleBack) G cw_RX11_436 ⟨Nat.le_of_ble_eq_true rfl, Nat.le_of_ble_eq_true rfl⟩ rfl rfl ⟨Nat.zero_le _, Nat.zero_le _⟩ h_o rfl (fun sz => (met_X11_singleBack l D ρ kd q (si μ o1 8 ((1 : Int32))) sz a1 (some o1) _ hI h_o (fun a ha => by cases ha; exact (h_a2 o1 rfl)) h)) rfl rfl (Nat.le_of_ble_eq_true rfl) (z_dec T_X11_decide_ok 15 (25, .invokevirtual 436, 3) rfl) (fun r3 μ2 hn => ?_)
    clear h
    have h := hn
    clear hn
    refine zx_sub (lv' := [(0, .ref (0)), (2, .ref (o1))]) [0, 2] rfl ?_
    exact L_X11_decide_28_ok G hr hlk hI h_o (h_a2 o1 rfl) (h_a2 o1 rfl) h
  · replace h := z_pos hc h
    refine zx_aload_n (pc := 14) G (some (0)) 0 rfl rfl (z_dec T_X11_decide_ok 8 (14, .aload_n 0, 1) rfl) ?_
    refine zx_aload_n (pc := 15) G (some (o1)) 2 rfl rfl (z_dec T_X11_decide_ok 9 (15, .aload_n 2, 1) rfl) ?_
    refine zx_callV_iN (pc := 16) (rm := rm_X11_joinedBack) G cw_RX11_432 ⟨Nat.le_of_ble_eq_true rfl, Nat.le_of_ble_eq_true rfl⟩ rfl rfl ⟨Nat.zero_le _, Nat.zero_le _⟩ h_o rfl (fun sz => (met_X11_joinedBack l D ρ kd q (si μ o1 8 ((1 : Int32))) sz (some o1) _ hI h_o (fun a ha => by cases ha; exact (h_a2 o1 rfl)) h)) rfl rfl (Nat.le_of_ble_eq_true rfl) (z_dec T_X11_decide_ok 10 (16, .invokevirtual 432, 3) rfl) (fun r5 μ4 hn => ?_)
    clear h
    have h := hn
    clear hn
    refine zx_goto (pc := 19) (tgt := 28) G rfl (z_dec T_X11_decide_ok 11 (19, .goto 9, 3) rfl) ?_
    refine zx_sub (lv' := [(0, .ref (0)), (2, .ref (o1))]) [0, 2] rfl ?_
    exact L_X11_decide_28_ok G hr hlk hI h_o (h_a2 o1 rfl) (h_a2 o1 rfl) h
abbrev rm_X11_run : Room := { frames := 6, cells := 0, slots := 0, locals := 139 }
set_option maxRecDepth 100000 in
set_option maxHeartbeats 4000000 in
theorem B_X11_run_73_ok {p : Program} {l : Launch} {e : Env} {s : State} {m : MethodId} {args : Array Value} {below : List Frame} {meth : Method} {c : Code} {D : va_G} {A : Nat → Prop} {ρ : z_A} {kd : z_K} {q : z_Q} {μ : z_M} {K : Int32 → z_M → Prop} {P73 : Int32 → Int32 → Int32 → z_M → Prop} {v1 : Int32} {v5 : Int32} {v6 : Int32} (G : z_G p c cX11_run s m args RX11 8 D) (hr : meth.sig.returnType = (Option.some Jvm.ClassFile.FieldType.int)) (hlk : meth.locks = false) (hP73 : ∀ (v1 : Int32) (v5 : Int32) (v6 : Int32) (μ : z_M), P73 v1 v5 v6 μ → (kd 0 = some (.inl 11)) → z_X p l e rm_X11_run s m args below meth c 8 D A (MQ below (z_Qn D A ρ kd (z_Ki q K)) args s 0 0 A) 0 0 ρ kd q μ 73 [(0, .ref (0)), (1, .int (v1)), (5, .int (v5)), (6, .int (v6))] []) (hI : z_I kd q) (f_l0 : kd 0 = some (.inl 11)) (h : B_X11_run_73 kd q K P73 v1 v5 v6 μ) : z_X p l e rm_X11_run s m args below meth c 8 D A (MQ below (z_Qn D A ρ kd (z_Ki q K)) args s 0 0 A) 0 0 ρ kd q μ 73 [(0, .ref (0)), (1, .int (v1)), (5, .int (v5)), (6, .int (v6))] [] := by
    unfold B_X11_run_73 at h
    refine zx_iload (pc := 73) G 3 rfl (z_dec T_X11_run_ok 43 (73, .iload 6, 2) rfl) ?_
    refine zx_aload_n (pc := 75) G (some (0)) 0 rfl rfl (z_dec T_X11_run_ok 44 (75, .aload_n 0, 1) rfl) ?_
    refine zx_getI (pc := 76) G gf_RX11_194 rfl f_l0 (z_dec T_X11_run_ok 45 (76, .getfield 194, 3) rfl) ?_
    refine zx_icmp_ge (pc := 79) (tgt := 131) G rfl (z_dec T_X11_run_ok 46 (79, .if_icmp .ge 52, 3) rfl) (fun hc => ?_) (fun hc => ?_)
    · replace h := z_pos hc h
      refine zx_iload (pc := 131) G 2 rfl (z_dec T_X11_run_ok 69 (131, .iload 5, 2) rfl) ?_
      exact zx_iret (pc := 133) G hr hlk (Nat.le_refl _) (Nat.le_refl _) (z_dec T_X11_run_ok 70 (133, .ireturn, 1) rfl) ⟨rfl, _, rfl, h⟩
    · replace h := z_neg hc h
      refine zx_aload_n (pc := 82) G (some (0)) 0 rfl rfl (z_dec T_X11_run_ok 47 (82, .aload_n 0, 1) rfl) ?_
      refine zx_iload (pc := 83) G 3 rfl (z_dec T_X11_run_ok 48 (83, .iload 6, 2) rfl) ?_
      refine zx_callV_rN (pc := 85) (rm := rm_X11_betAt) G cw_RX11_219 ⟨Nat.le_of_ble_eq_true rfl, Nat.le_of_ble_eq_true rfl⟩ rfl rfl ⟨Nat.zero_le _, Nat.zero_le _⟩ f_l0 rfl (fun sz => (met_X11_betAt l D ρ kd q μ sz v6 _ hI f_l0 h)) rfl rfl (Nat.le_of_ble_eq_true rfl) (z_dec T_X11_run_ok 49 (85, .invokevirtual 219, 3) rfl) (fun r2 μ1 hfr2 hn => ?_)
      clear h
      have h := hn
      clear hn
      refine zx_astore (pc := 88) (lv' := [(7, va_rf (r2)), (0, .ref (0)), (1, .int (v1)), (5, .int (v5)), (6, .int (v6))]) G (r2) (Nat.le_of_ble_eq_true rfl) rfl (z_dec T_X11_run_ok 50 (88, .astore 7, 2) rfl) ?_
      refine zx_aload (pc := 90) G (r2) 0 rfl (z_dec T_X11_run_ok 51 (90, .aload 7, 2) rfl) ?_
      obtain ⟨h1, h2⟩ := h
      rcases r2 with _ | o3
      · replace h := h1 rfl
        refine zx_ifnullN (pc := 92) (tgt := 125) G rfl (z_dec T_X11_run_ok 52 (92, .ifnull 33, 3) rfl) ?_
        refine zx_iinc (pc := 125) (v := v6 + 1) (lv' := [(6, .int (v6 + 1)), (7, va_rf (none)), (0, .ref (0)), (1, .int (v1)), (5, .int (v5))]) G 4 rfl (z_inc (by decide)) (Nat.le_of_ble_eq_true rfl) rfl (z_dec T_X11_run_ok 67 (125, .iinc 6 1, 3) rfl) ?_
        refine zx_goto (pc := 128) (tgt := 73) G rfl (z_dec T_X11_run_ok 68 (128, .goto (-55), 3) rfl) ?_
        refine zx_sub (lv' := [(0, .ref (0)), (1, .int (v1)), (5, .int (v5)), (6, .int (v6 + 1))]) [2, 3, 4, 0] rfl ?_
        exact hP73 _ _ _ _ h f_l0
      · replace h := h2 o3 rfl
        refine zx_ifnullS (pc := 92) G (hfr2 o3 rfl) (z_dec T_X11_run_ok 52 (92, .ifnull 33, 3) rfl) ?_
        refine zx_aload (pc := 95) G (some (o3)) 0 rfl (z_dec T_X11_run_ok 53 (95, .aload 7, 2) rfl) ?_
        refine zx_iload_n (pc := 97) G 2 rfl rfl (z_dec T_X11_run_ok 54 (97, .iload_n 1, 1) rfl) ?_
        refine zx_callV_iN (pc := 98) (rm := rm_X0_horseIn) G cw_RX11_223 ⟨Nat.le_of_ble_eq_true rfl, Nat.le_of_ble_eq_true rfl⟩ rfl rfl ⟨Nat.zero_le _, Nat.zero_le _⟩ (hfr2 o3 rfl) rfl (fun sz => (met_X0_horseIn l D ρ kd q μ1 sz o3 v1 _ hI (hfr2 o3 rfl) h)) rfl rfl (Nat.le_of_ble_eq_true rfl) (z_dec T_X11_run_ok 55 (98, .invokevirtual 223, 3) rfl) (fun r5 μ4 hn => ?_)
        clear h
        have h := hn
        clear hn
        refine zx_iconst (pc := 101) (v := -1) G (z_dec T_X11_run_ok 56 (101, .iconst (-1), 1) rfl) rfl ?_
        refine zx_icmp_eq (pc := 102) (tgt := 125) G rfl (z_dec T_X11_run_ok 57 (102, .if_icmp .eq 23, 3) rfl) (fun hc => ?_) (fun hc => ?_)
        · replace h := z_pos hc h
          refine zx_iinc (pc := 125) (v := v6 + 1) (lv' := [(6, .int (v6 + 1)), (7, .ref (o3)), (0, .ref (0)), (1, .int (v1)), (5, .int (v5))]) G 4 rfl (z_inc (by decide)) (Nat.le_of_ble_eq_true rfl) rfl (z_dec T_X11_run_ok 67 (125, .iinc 6 1, 3) rfl) ?_
          refine zx_goto (pc := 128) (tgt := 73) G rfl (z_dec T_X11_run_ok 68 (128, .goto (-55), 3) rfl) ?_
          refine zx_sub (lv' := [(0, .ref (0)), (1, .int (v1)), (5, .int (v5)), (6, .int (v6 + 1))]) [2, 3, 4, 0] rfl ?_
          exact hP73 _ _ _ _ h f_l0
        · replace h := z_neg hc h
          refine zx_aload_n (pc := 105) G (some (0)) 1 rfl rfl (z_dec T_X11_run_ok 58 (105, .aload_n 0, 1) rfl) ?_
          refine zx_aload (pc := 106) G (some (o3)) 0 rfl (z_dec T_X11_run_ok 59 (106, .aload 7, 2) rfl) ?_
          refine zx_callV_zN (pc := 108) (rm := rm_X11_allEnded) G cw_RX11_227 ⟨Nat.le_of_ble_eq_true rfl, Nat.le_of_ble_eq_true rfl⟩ rfl rfl ⟨Nat.zero_le _, Nat.zero_le _⟩ f_l0 rfl (fun sz => (met_X11_allEnded l D ρ kd q μ4 sz (some o3) _ hI f_l0 (fun a ha => by cases ha; exact (hfr2 o3 rfl)) h)) rfl rfl (Nat.le_of_ble_eq_true rfl) (z_dec T_X11_run_ok 60 (108, .invokevirtual 227, 3) rfl) (fun r7 μ6 hzr7 hn => ?_)
          clear h
          have h := hn
          clear hn
          refine zx_if_eq (pc := 111) (tgt := 125) G rfl (z_dec T_X11_run_ok 61 (111, .ifCond .eq 14, 3) rfl) (fun hc => ?_) (fun hc => ?_)
          · replace h := z_pos hc h
            refine zx_iinc (pc := 125) (v := v6 + 1) (lv' := [(6, .int (v6 + 1)), (7, .ref (o3)), (0, .ref (0)), (1, .int (v1)), (5, .int (v5))]) G 4 rfl (z_inc (by decide)) (Nat.le_of_ble_eq_true rfl) rfl (z_dec T_X11_run_ok 67 (125, .iinc 6 1, 3) rfl) ?_
            refine zx_goto (pc := 128) (tgt := 73) G rfl (z_dec T_X11_run_ok 68 (128, .goto (-55), 3) rfl) ?_
            refine zx_sub (lv' := [(0, .ref (0)), (1, .int (v1)), (5, .int (v5)), (6, .int (v6 + 1))]) [2, 3, 4, 0] rfl ?_
            exact hP73 _ _ _ _ h f_l0
          · replace h := z_neg hc h
            refine zx_aload_n (pc := 114) G (some (0)) 1 rfl rfl (z_dec T_X11_run_ok 62 (114, .aload_n 0, 1) rfl) ?_
            refine zx_iload (pc := 115) G 4 rfl (z_dec T_X11_run_ok 63 (115, .iload 6, 2) rfl) ?_
            refine zx_aload (pc := 117) G (some (o3)) 0 rfl (z_dec T_X11_run_ok 64 (117, .aload 7, 2) rfl) ?_
            refine zx_callV_vN (pc := 119) (rm := rm_X11_decide) G cw_RX11_231 ⟨Nat.le_of_ble_eq_true rfl, Nat.le_of_ble_eq_true rfl⟩ rfl rfl ⟨Nat.zero_le _, Nat.zero_le _⟩ f_l0 rfl (fun sz => (met_X11_decide l D ρ kd q μ6 sz v6 (some o3) _ hI f_l0 (fun a ha => by cases ha; exact (hfr2 o3 rfl)) h)) rfl rfl (Nat.le_of_ble_eq_true rfl) (z_dec T_X11_run_ok 65 (119, .invokevirtual 231, 3) rfl) (fun μ8 hn => ?_)
            clear h
            have h := hn
            clear hn
            refine zx_iinc (pc := 122) (v := v5 + 1) (lv' := [(5, .int (v5 + 1)), (7, .ref (o3)), (0, .ref (0)), (1, .int (v1)), (6, .int (v6))]) G 3 rfl (z_inc (by decide)) (Nat.le_of_ble_eq_true rfl) rfl (z_dec T_X11_run_ok 66 (122, .iinc 5 1, 3) rfl) ?_
            refine zx_iinc (pc := 125) (v := v6 + 1) (lv' := [(6, .int (v6 + 1)), (5, .int (v5 + 1)), (7, .ref (o3)), (0, .ref (0)), (1, .int (v1))]) G 4 rfl (z_inc (by decide)) (Nat.le_of_ble_eq_true rfl) rfl (z_dec T_X11_run_ok 67 (125, .iinc 6 1, 3) rfl) ?_
            refine zx_goto (pc := 128) (tgt := 73) G rfl (z_dec T_X11_run_ok 68 (128, .goto (-55), 3) rfl) ?_
            refine zx_sub (lv' := [(0, .ref (0)), (1, .int (v1)), (5, .int (v5 + 1)), (6, .int (v6 + 1))]) [3, 4, 1, 0] rfl ?_
            exact hP73 _ _ _ _ h f_l0
set_option maxRecDepth 100000 in
set_option maxHeartbeats 4000000 in
theorem L_X11_run_73_ok {p : Program} {l : Launch} {e : Env} {s : State} {m : MethodId} {args : Array Value} {below : List Frame} {meth : Method} {c : Code} {D : va_G} {A : Nat → Prop} {ρ : z_A} {kd : z_K} {q : z_Q} {μ : z_M} {K : Int32 → z_M → Prop} {v1 : Int32} {v5 : Int32} {v6 : Int32} (G : z_G p c cX11_run s m args RX11 8 D) (hr : meth.sig.returnType = (Option.some Jvm.ClassFile.FieldType.int)) (hlk : meth.locks = false) (hI : z_I kd q) (f_l0 : kd 0 = some (.inl 11)) (h : L_X11_run_73 kd q K v1 v5 v6 μ) : z_X p l e rm_X11_run s m args below meth c 8 D A (MQ below (z_Qn D A ρ kd (z_Ki q K)) args s 0 0 A) 0 0 ρ kd q μ 73 [(0, .ref (0)), (1, .int (v1)), (5, .int (v5)), (6, .int (v6))] [] :=
  h (fun (v1 : Int32) (v5 : Int32) (v6 : Int32) (μ : z_M) => (kd 0 = some (.inl 11)) → z_X p l e rm_X11_run s m args below meth c 8 D A (MQ below (z_Qn D A ρ kd (z_Ki q K)) args s 0 0 A) 0 0 ρ kd q μ 73 [(0, .ref (0)), (1, .int (v1)), (5, .int (v5)), (6, .int (v6))] []) (fun v1 v5 v6 μ h f_l0 => B_X11_run_73_ok G hr hlk (fun _ _ _ _ h => h) hI f_l0 h) f_l0
set_option maxRecDepth 100000 in
set_option maxHeartbeats 4000000 in
theorem met_X11_run (l : Launch) (D : va_G) (ρ : z_A) (kd : z_K) (q : z_Q) (μ : z_M) (sz : Nat) (a1 : Int32) (a2 : Int32) (a3 : Int32) (K : Int32 → z_M → Prop) (hI : z_I kd q) (h_o : kd 0 = some (.inl 11)) (h : C_X11_run kd q a1 a2 a3 μ K) : Met l yX11_run (z_ws yX11_run cX11_run 8 (Option.some Jvm.ClassFile.FieldType.int)) rm_X11_run (z_Pc D ρ kd q μ sz [.ref (0), .int (a1), .int (a2), .int (a3)]) (z_Qn D (z_Rg ρ sz) ρ kd (z_Ki q K)) 0 0 (z_Rg ρ sz) := by
  refine z_met (rm := rm_X11_run) (by decide) (Nat.le_of_ble_eq_true rfl) (fun p e s m args below meth c G hr hlk => ?_)
  unfold C_X11_run at h
  show z_X _ _ _ _ _ _ _ _ _ _ _ _ _ _ _ _ _ _ _ _ _ [(0, .ref (0)), (1, .int (a1)), (2, .int (a2)), (3, .int (a3))] _
  refine zx_aload_n (pc := 0) G (some (0)) 0 rfl rfl (z_dec T_X11_run_ok 0 (0, .aload_n 0, 1) rfl) ?_
  refine zx_iload_n (pc := 1) G 1 rfl rfl (z_dec T_X11_run_ok 1 (1, .iload_n 1, 1) rfl) ?_
  refine zx_callV_rN (pc := 2) (rm := rm_X11_raceAt) G cw_RX11_98 ⟨Nat.le_of_ble_eq_true rfl, Nat.le_of_ble_eq_true rfl⟩ rfl rfl ⟨Nat.zero_le _, Nat.zero_le _⟩ h_o rfl (fun sz => (met_X11_raceAt l D ρ kd q μ sz a1 _ hI h_o h)) rfl rfl (Nat.le_of_ble_eq_true rfl) (z_dec T_X11_run_ok 2 (2, .invokevirtual 98, 3) rfl) (fun r2 μ1 hfr2 hn => ?_)
  clear h
  have h := hn
  clear hn
  refine zx_astore (pc := 5) (lv' := [(4, va_rf (r2)), (0, .ref (0)), (1, .int (a1)), (2, .int (a2)), (3, .int (a3))]) G (r2) (Nat.le_of_ble_eq_true rfl) rfl (z_dec T_X11_run_ok 3 (5, .astore 4, 2) rfl) ?_
  refine zx_aload (pc := 7) G (r2) 0 rfl (z_dec T_X11_run_ok 4 (7, .aload 4, 2) rfl) ?_
  obtain ⟨h1, h2⟩ := h
  rcases r2 with _ | o3
  · replace h := h1 rfl
    refine zx_ifnullN (pc := 9) (tgt := 36) G rfl (z_dec T_X11_run_ok 5 (9, .ifnull 27, 3) rfl) ?_
    refine zx_iconst (pc := 36) (v := -1) G (z_dec T_X11_run_ok 18 (36, .iconst (-1), 1) rfl) rfl ?_
    exact zx_iret (pc := 37) G hr hlk (Nat.le_refl _) (Nat.le_refl _) (z_dec T_X11_run_ok 19 (37, .ireturn, 1) rfl) ⟨rfl, _, rfl, h⟩
  · replace h := h2 o3 rfl
    refine zx_ifnullS (pc := 9) G (hfr2 o3 rfl) (z_dec T_X11_run_ok 5 (9, .ifnull 27, 3) rfl) ?_
    refine zx_aload (pc := 12) G (some (o3)) 0 rfl (z_dec T_X11_run_ok 6 (12, .aload 4, 2) rfl) ?_
    refine zx_getZ (pc := 14) G gf_RX11_159 rfl (hfr2 o3 rfl) (z_dec T_X11_run_ok 7 (14, .getfield 159, 3) rfl) ?_
    refine zx_if_ne (pc := 17) (tgt := 36) G rfl (z_dec T_X11_run_ok 8 (17, .ifCond .ne 19, 3) rfl) (fun hc => ?_) (fun hc => ?_)
    · replace h := z_neg hc h
      refine zx_iconst (pc := 36) (v := -1) G (z_dec T_X11_run_ok 18 (36, .iconst (-1), 1) rfl) rfl ?_
      exact zx_iret (pc := 37) G hr hlk (Nat.le_refl _) (Nat.le_refl _) (z_dec T_X11_run_ok 19 (37, .ireturn, 1) rfl) ⟨rfl, _, rfl, h⟩
    · replace h := z_pos hc h
      refine zx_iload_n (pc := 20) G 3 rfl rfl (z_dec T_X11_run_ok 9 (20, .iload_n 2, 1) rfl) ?_
      refine zx_if_eq (pc := 21) (tgt := 36) G rfl (z_dec T_X11_run_ok 10 (21, .ifCond .eq 15, 3) rfl) (fun hc => ?_) (fun hc => ?_)
      · replace h := z_pos hc h
        refine zx_iconst (pc := 36) (v := -1) G (z_dec T_X11_run_ok 18 (36, .iconst (-1), 1) rfl) rfl ?_
        exact zx_iret (pc := 37) G hr hlk (Nat.le_refl _) (Nat.le_refl _) (z_dec T_X11_run_ok 19 (37, .ireturn, 1) rfl) ⟨rfl, _, rfl, h⟩
      · replace h := z_neg hc h
        refine zx_iload_n (pc := 24) G 3 rfl rfl (z_dec T_X11_run_ok 11 (24, .iload_n 2, 1) rfl) ?_
        refine zx_aload (pc := 25) G (some (o3)) 0 rfl (z_dec T_X11_run_ok 12 (25, .aload 4, 2) rfl) ?_
        refine zx_callV_iN (pc := 27) (rm := rm_X6_runners) G cw_RX11_213 ⟨Nat.le_of_ble_eq_true rfl, Nat.le_of_ble_eq_true rfl⟩ rfl rfl ⟨Nat.zero_le _, Nat.zero_le _⟩ (hfr2 o3 rfl) rfl (fun sz => (met_X6_runners l D ρ kd q μ1 sz o3 _ hI (hfr2 o3 rfl) h)) rfl rfl (Nat.le_of_ble_eq_true rfl) (z_dec T_X11_run_ok 13 (27, .invokevirtual 213, 3) rfl) (fun r5 μ4 hn => ?_)
        clear h
        have h := hn
        clear hn
        refine zx_iconst (pc := 30) (v := -1) G (z_dec T_X11_run_ok 14 (30, .iconst (-1), 1) rfl) rfl ?_
        refine zx_ixor (pc := 31) G  (z_dec T_X11_run_ok 15 (31, .ixor, 1) rfl) ?_
        refine zx_iand (pc := 32) G  (z_dec T_X11_run_ok 16 (32, .iand, 1) rfl) ?_
        refine zx_if_eq (pc := 33) (tgt := 38) G rfl (z_dec T_X11_run_ok 17 (33, .ifCond .eq 5, 3) rfl) (fun hc => ?_) (fun hc => ?_)
        · replace h := z_pos hc h
          refine zx_iload_n (pc := 38) G 4 rfl rfl (z_dec T_X11_run_ok 20 (38, .iload_n 3, 1) rfl) ?_
          refine zx_aload (pc := 39) G (some (o3)) 0 rfl (z_dec T_X11_run_ok 21 (39, .aload 4, 2) rfl) ?_
          refine zx_callV_iN (pc := 41) (rm := rm_X6_runners) G cw_RX11_213 ⟨Nat.le_of_ble_eq_true rfl, Nat.le_of_ble_eq_true rfl⟩ rfl rfl ⟨Nat.zero_le _, Nat.zero_le _⟩ (hfr2 o3 rfl) rfl (fun sz => (met_X6_runners l D ρ kd q μ4 sz o3 _ hI (hfr2 o3 rfl) h)) rfl rfl (Nat.le_of_ble_eq_true rfl) (z_dec T_X11_run_ok 22 (41, .invokevirtual 213, 3) rfl) (fun r7 μ6 hn => ?_)
          clear h
          have h := hn
          clear hn
          refine zx_iconst (pc := 44) (v := -1) G (z_dec T_X11_run_ok 23 (44, .iconst (-1), 1) rfl) rfl ?_
          refine zx_ixor (pc := 45) G  (z_dec T_X11_run_ok 24 (45, .ixor, 1) rfl) ?_
          refine zx_iand (pc := 46) G  (z_dec T_X11_run_ok 25 (46, .iand, 1) rfl) ?_
          refine zx_if_ne (pc := 47) (tgt := 58) G rfl (z_dec T_X11_run_ok 26 (47, .ifCond .ne 11, 3) rfl) (fun hc => ?_) (fun hc => ?_)
          · replace h := z_neg hc h
            refine zx_iconst (pc := 58) (v := -1) G (z_dec T_X11_run_ok 33 (58, .iconst (-1), 1) rfl) rfl ?_
            exact zx_iret (pc := 59) G hr hlk (Nat.le_refl _) (Nat.le_refl _) (z_dec T_X11_run_ok 34 (59, .ireturn, 1) rfl) ⟨rfl, _, rfl, h⟩
          · replace h := z_pos hc h
            refine zx_iload_n (pc := 50) G 3 rfl rfl (z_dec T_X11_run_ok 27 (50, .iload_n 2, 1) rfl) ?_
            refine zx_iload_n (pc := 51) G 4 rfl rfl (z_dec T_X11_run_ok 28 (51, .iload_n 3, 1) rfl) ?_
            refine zx_iconst (pc := 52) (v := -1) G (z_dec T_X11_run_ok 29 (52, .iconst (-1), 1) rfl) rfl ?_
            refine zx_ixor (pc := 53) G  (z_dec T_X11_run_ok 30 (53, .ixor, 1) rfl) ?_
            refine zx_iand (pc := 54) G  (z_dec T_X11_run_ok 31 (54, .iand, 1) rfl) ?_
            refine zx_if_eq (pc := 55) (tgt := 60) G rfl (z_dec T_X11_run_ok 32 (55, .ifCond .eq 5, 3) rfl) (fun hc => ?_) (fun hc => ?_)
            · replace h := z_pos hc h
              refine zx_aload (pc := 60) G (some (o3)) 0 rfl (z_dec T_X11_run_ok 35 (60, .aload 4, 2) rfl) ?_
              refine zx_iload_n (pc := 62) G 3 rfl rfl (z_dec T_X11_run_ok 36 (62, .iload_n 2, 1) rfl) ?_
              refine zx_iload_n (pc := 63) G 4 rfl rfl (z_dec T_X11_run_ok 37 (63, .iload_n 3, 1) rfl) ?_
              refine zx_callV_vN (pc := 64) (rm := rm_X6_end) G cw_RX11_216 ⟨Nat.le_of_ble_eq_true rfl, Nat.le_of_ble_eq_true rfl⟩ rfl rfl ⟨Nat.zero_le _, Nat.zero_le _⟩ (hfr2 o3 rfl) rfl (fun sz => (met_X6_end l D ρ kd q μ6 sz o3 a2 a3 _ hI (hfr2 o3 rfl) h)) rfl rfl (Nat.le_of_ble_eq_true rfl) (z_dec T_X11_run_ok 38 (64, .invokevirtual 216, 3) rfl) (fun μ8 hn => ?_)
              clear h
              have h := hn
              clear hn
              refine zx_iconst (pc := 67) (v := 0) G (z_dec T_X11_run_ok 39 (67, .iconst 0, 1) rfl) rfl ?_
              refine zx_istore (pc := 68) (lv' := [(5, .int ((0 : Int32))), (4, .ref (o3)), (0, .ref (0)), (1, .int (a1)), (2, .int (a2)), (3, .int (a3))]) G (Nat.le_of_ble_eq_true rfl) rfl (z_dec T_X11_run_ok 40 (68, .istore 5, 2) rfl) ?_
              refine zx_iconst (pc := 70) (v := 0) G (z_dec T_X11_run_ok 41 (70, .iconst 0, 1) rfl) rfl ?_
              refine zx_istore (pc := 71) (lv' := [(6, .int ((0 : Int32))), (5, .int ((0 : Int32))), (4, .ref (o3)), (0, .ref (0)), (1, .int (a1)), (2, .int (a2)), (3, .int (a3))]) G (Nat.le_of_ble_eq_true rfl) rfl (z_dec T_X11_run_ok 42 (71, .istore 6, 2) rfl) ?_
              refine zx_sub (lv' := [(0, .ref (0)), (1, .int (a1)), (5, .int ((0 : Int32))), (6, .int ((0 : Int32)))]) [3, 4, 1, 0] rfl ?_
              exact L_X11_run_73_ok G hr hlk hI h_o h
            · replace h := z_neg hc h
              refine zx_iconst (pc := 58) (v := -1) G (z_dec T_X11_run_ok 33 (58, .iconst (-1), 1) rfl) rfl ?_
              exact zx_iret (pc := 59) G hr hlk (Nat.le_refl _) (Nat.le_refl _) (z_dec T_X11_run_ok 34 (59, .ireturn, 1) rfl) ⟨rfl, _, rfl, h⟩
        · replace h := z_neg hc h
          refine zx_iconst (pc := 36) (v := -1) G (z_dec T_X11_run_ok 18 (36, .iconst (-1), 1) rfl) rfl ?_
          exact zx_iret (pc := 37) G hr hlk (Nat.le_refl _) (Nat.le_refl _) (z_dec T_X11_run_ok 19 (37, .ireturn, 1) rfl) ⟨rfl, _, rfl, h⟩
abbrev rm_X11_worst : Room := { frames := 3, cells := 0, slots := 0, locals := 63 }
set_option maxRecDepth 100000 in
set_option maxHeartbeats 4000000 in
theorem B_X11_worst_7_ok {p : Program} {l : Launch} {e : Env} {s : State} {m : MethodId} {args : Array Value} {below : List Frame} {meth : Method} {c : Code} {D : va_G} {A : Nat → Prop} {ρ : z_A} {kd : z_K} {q : z_Q} {μ : z_M} {K : Int32 → z_M → Prop} {P7 : Option Nat → Option Nat → Int32 → Int32 → Int32 → z_M → Prop} {v0 : Option Nat} {v1 : Option Nat} {v2 : Int32} {v3 : Int32} {v4 : Int32} (G : z_G p c cX11_worst s m args RX11 5 D) (hr : meth.sig.returnType = (Option.some Jvm.ClassFile.FieldType.int)) (hlk : meth.locks = false) (hP7 : ∀ (v0 : Option Nat) (v1 : Option Nat) (v2 : Int32) (v3 : Int32) (v4 : Int32) (μ : z_M), P7 v0 v1 v2 v3 v4 μ → (∀ a, v0 = some a → kd a = some (.inl 1)) → (∀ a, v1 = some a → kd a = some (.inl 6)) → z_X p l e rm_X11_worst s m args below meth c 5 D A (MQ below (z_Qn D A ρ kd (z_Ki q K)) args s 0 0 A) 0 0 ρ kd q μ 7 [(0, va_rf (v0)), (1, va_rf (v1)), (2, .int (v2)), (3, .int (v3)), (4, .int (v4))] []) (hI : z_I kd q) (f_l0 : ∀ a, v0 = some a → kd a = some (.inl 1)) (f_l1 : ∀ a, v1 = some a → kd a = some (.inl 6)) (h : B_X11_worst_7 kd q K P7 v0 v1 v2 v3 v4 μ) : z_X p l e rm_X11_worst s m args below meth c 5 D A (MQ below (z_Qn D A ρ kd (z_Ki q K)) args s 0 0 A) 0 0 ρ kd q μ 7 [(0, va_rf (v0)), (1, va_rf (v1)), (2, .int (v2)), (3, .int (v3)), (4, .int (v4))] [] := by
    unfold B_X11_worst_7 at h
    refine zx_iload (pc := 7) G 4 rfl (z_dec T_X11_worst_ok 4 (7, .iload 4, 2) rfl) ?_
    refine zx_aload_n (pc := 9) G (v1) 1 rfl rfl (z_dec T_X11_worst_ok 5 (9, .aload_n 1, 1) rfl) ?_
    obtain ⟨o1, rfl, h⟩ := h
    refine zx_getI (pc := 10) G gf_RX11_297 rfl (f_l1 o1 rfl) (z_dec T_X11_worst_ok 6 (10, .getfield 297, 3) rfl) ?_
    refine zx_icmp_ge (pc := 13) (tgt := 43) G rfl (z_dec T_X11_worst_ok 7 (13, .if_icmp .ge 30, 3) rfl) (fun hc => ?_) (fun hc => ?_)
    · replace h := z_pos hc h
      refine zx_iload_n (pc := 43) G 3 rfl rfl (z_dec T_X11_worst_ok 21 (43, .iload_n 3, 1) rfl) ?_
      exact zx_iret (pc := 44) G hr hlk (Nat.le_refl _) (Nat.le_refl _) (z_dec T_X11_worst_ok 22 (44, .ireturn, 1) rfl) ⟨rfl, _, rfl, h⟩
    · replace h := z_neg hc h
      refine zx_aload_n (pc := 16) G (some (o1)) 1 rfl rfl (z_dec T_X11_worst_ok 8 (16, .aload_n 1, 1) rfl) ?_
      refine zx_iload (pc := 17) G 4 rfl (z_dec T_X11_worst_ok 9 (17, .iload 4, 2) rfl) ?_
      refine zx_callV_zN (pc := 19) (rm := rm_X6_runs) G cw_RX11_156 ⟨Nat.le_of_ble_eq_true rfl, Nat.le_of_ble_eq_true rfl⟩ rfl rfl ⟨Nat.zero_le _, Nat.zero_le _⟩ (f_l1 o1 rfl) rfl (fun sz => (met_X6_runs l D ρ kd q μ sz o1 v4 _ hI (f_l1 o1 rfl) h)) rfl rfl (Nat.le_of_ble_eq_true rfl) (z_dec T_X11_worst_ok 10 (19, .invokevirtual 156, 3) rfl) (fun r3 μ2 hzr3 hn => ?_)
      clear h
      have h := hn
      clear hn
      refine zx_if_eq (pc := 22) (tgt := 37) G rfl (z_dec T_X11_worst_ok 11 (22, .ifCond .eq 15, 3) rfl) (fun hc => ?_) (fun hc => ?_)
      · replace h := z_pos hc h
        refine zx_iinc (pc := 37) (v := v4 + 1) (lv' := [(4, .int (v4 + 1)), (0, va_rf (v0)), (1, .ref (o1)), (2, .int (v2)), (3, .int (v3))]) G 4 rfl (z_inc (by decide)) (Nat.le_of_ble_eq_true rfl) rfl (z_dec T_X11_worst_ok 19 (37, .iinc 4 1, 3) rfl) ?_
        refine zx_goto (pc := 40) (tgt := 7) G rfl (z_dec T_X11_worst_ok 20 (40, .goto (-33), 3) rfl) ?_
        refine zx_sub (lv' := [(0, va_rf (v0)), (1, .ref (o1)), (2, .int (v2)), (3, .int (v3)), (4, .int (v4 + 1))]) [1, 2, 3, 4, 0] rfl ?_
        exact hP7 _ _ _ _ _ _ h f_l0 (fun a ha => by cases ha; exact (f_l1 o1 rfl))
      · replace h := z_neg hc h
        refine zx_iload_n (pc := 25) G 3 rfl rfl (z_dec T_X11_worst_ok 12 (25, .iload_n 3, 1) rfl) ?_
        refine zx_aload_n (pc := 26) G (v0) 0 rfl rfl (z_dec T_X11_worst_ok 13 (26, .aload_n 0, 1) rfl) ?_
        refine zx_iload_n (pc := 27) G 2 rfl rfl (z_dec T_X11_worst_ok 14 (27, .iload_n 2, 1) rfl) ?_
        refine zx_iload (pc := 28) G 4 rfl (z_dec T_X11_worst_ok 15 (28, .iload 4, 2) rfl) ?_
        obtain ⟨o4, rfl, h⟩ := h
        refine zx_callV_iN (pc := 30) (rm := rm_X1_balanceAt) G cw_RX11_240 ⟨Nat.le_of_ble_eq_true rfl, Nat.le_of_ble_eq_true rfl⟩ rfl rfl ⟨Nat.zero_le _, Nat.zero_le _⟩ (f_l0 o4 rfl) rfl (fun sz => (met_X1_balanceAt l D ρ kd q μ2 sz o4 v2 v4 _ hI (f_l0 o4 rfl) h)) rfl rfl (Nat.le_of_ble_eq_true rfl) (z_dec T_X11_worst_ok 16 (30, .invokevirtual 240, 3) rfl) (fun r6 μ5 hn => ?_)
        clear h
        have h := hn
        clear hn
        refine zx_mmin (pc := 33) G wm_RX11_484 ⟨Nat.le_of_ble_eq_true rfl, Nat.le_of_ble_eq_true rfl, Nat.zero_le _, Nat.zero_le _⟩ (z_dec T_X11_worst_ok 17 (33, .invokestatic 484, 3) rfl) ?_
        refine zx_istore_n (pc := 36) (lv' := [(3, .int (z_min v3 r6)), (0, .ref (o4)), (1, .ref (o1)), (2, .int (v2)), (4, .int (v4))]) G rfl (Nat.le_of_ble_eq_true rfl) rfl (z_dec T_X11_worst_ok 18 (36, .istore_n 3, 1) rfl) ?_
        refine zx_iinc (pc := 37) (v := v4 + 1) (lv' := [(4, .int (v4 + 1)), (3, .int (z_min v3 r6)), (0, .ref (o4)), (1, .ref (o1)), (2, .int (v2))]) G 4 rfl (z_inc (by decide)) (Nat.le_of_ble_eq_true rfl) rfl (z_dec T_X11_worst_ok 19 (37, .iinc 4 1, 3) rfl) ?_
        refine zx_goto (pc := 40) (tgt := 7) G rfl (z_dec T_X11_worst_ok 20 (40, .goto (-33), 3) rfl) ?_
        refine zx_sub (lv' := [(0, .ref (o4)), (1, .ref (o1)), (2, .int (v2)), (3, .int (z_min v3 r6)), (4, .int (v4 + 1))]) [2, 3, 4, 1, 0] rfl ?_
        exact hP7 _ _ _ _ _ _ h (fun a ha => by cases ha; exact (f_l0 o4 rfl)) (fun a ha => by cases ha; exact (f_l1 o1 rfl))
set_option maxRecDepth 100000 in
set_option maxHeartbeats 4000000 in
theorem L_X11_worst_7_ok {p : Program} {l : Launch} {e : Env} {s : State} {m : MethodId} {args : Array Value} {below : List Frame} {meth : Method} {c : Code} {D : va_G} {A : Nat → Prop} {ρ : z_A} {kd : z_K} {q : z_Q} {μ : z_M} {K : Int32 → z_M → Prop} {v0 : Option Nat} {v1 : Option Nat} {v2 : Int32} {v3 : Int32} {v4 : Int32} (G : z_G p c cX11_worst s m args RX11 5 D) (hr : meth.sig.returnType = (Option.some Jvm.ClassFile.FieldType.int)) (hlk : meth.locks = false) (hI : z_I kd q) (f_l0 : ∀ a, v0 = some a → kd a = some (.inl 1)) (f_l1 : ∀ a, v1 = some a → kd a = some (.inl 6)) (h : L_X11_worst_7 kd q K v0 v1 v2 v3 v4 μ) : z_X p l e rm_X11_worst s m args below meth c 5 D A (MQ below (z_Qn D A ρ kd (z_Ki q K)) args s 0 0 A) 0 0 ρ kd q μ 7 [(0, va_rf (v0)), (1, va_rf (v1)), (2, .int (v2)), (3, .int (v3)), (4, .int (v4))] [] :=
  h (fun (v0 : Option Nat) (v1 : Option Nat) (v2 : Int32) (v3 : Int32) (v4 : Int32) (μ : z_M) => (∀ a, v0 = some a → kd a = some (.inl 1)) → (∀ a, v1 = some a → kd a = some (.inl 6)) → z_X p l e rm_X11_worst s m args below meth c 5 D A (MQ below (z_Qn D A ρ kd (z_Ki q K)) args s 0 0 A) 0 0 ρ kd q μ 7 [(0, va_rf (v0)), (1, va_rf (v1)), (2, .int (v2)), (3, .int (v3)), (4, .int (v4))] []) (fun v0 v1 v2 v3 v4 μ h f_l0 f_l1 => B_X11_worst_7_ok G hr hlk (fun _ _ _ _ _ _ h => h) hI f_l0 f_l1 h) f_l0 f_l1
set_option maxRecDepth 100000 in
set_option maxHeartbeats 4000000 in
theorem met_X11_worst (l : Launch) (D : va_G) (ρ : z_A) (kd : z_K) (q : z_Q) (μ : z_M) (sz : Nat) (a1 : Option Nat) (a2 : Option Nat) (a3 : Int32) (K : Int32 → z_M → Prop) (hI : z_I kd q) (h_a1 : ∀ a, a1 = some a → kd a = some (.inl 1)) (h_a2 : ∀ a, a2 = some a → kd a = some (.inl 6)) (h : C_X11_worst kd q a1 a2 a3 μ K) : Met l yX11_worst (z_ws yX11_worst cX11_worst 5 (Option.some Jvm.ClassFile.FieldType.int)) rm_X11_worst (z_Pc D ρ kd q μ sz [va_rf (a1), va_rf (a2), .int (a3)]) (z_Qn D (z_Rg ρ sz) ρ kd (z_Ki q K)) 0 0 (z_Rg ρ sz) := by
  refine z_met (rm := rm_X11_worst) (by decide) (by cases a1 <;> cases a2 <;> exact Nat.le_of_ble_eq_true rfl) (fun p e s m args below meth c G hr hlk => ?_)
  unfold C_X11_worst at h
  rw [show lv_args 0 [va_rf (a1), va_rf (a2), .int (a3)] = [(0, va_rf (a1)), (1, va_rf (a2)), (2, .int (a3))] from by cases a1 <;> cases a2 <;> rfl]
  refine zx_ldcw (pc := 0) G wk_RX11_488 (z_dec T_X11_worst_ok 0 (0, .ldc_w 488, 3) rfl) ?_
  refine zx_istore_n (pc := 3) (lv' := [(3, .int ((2000000000 : Int32))), (0, va_rf (a1)), (1, va_rf (a2)), (2, .int (a3))]) G rfl (Nat.le_of_ble_eq_true rfl) rfl (z_dec T_X11_worst_ok 1 (3, .istore_n 3, 1) rfl) ?_
  refine zx_iconst (pc := 4) (v := 0) G (z_dec T_X11_worst_ok 2 (4, .iconst 0, 1) rfl) rfl ?_
  refine zx_istore (pc := 5) (lv' := [(4, .int ((0 : Int32))), (3, .int ((2000000000 : Int32))), (0, va_rf (a1)), (1, va_rf (a2)), (2, .int (a3))]) G (Nat.le_of_ble_eq_true rfl) rfl (z_dec T_X11_worst_ok 3 (5, .istore 4, 2) rfl) ?_
  refine zx_sub (lv' := [(0, va_rf (a1)), (1, va_rf (a2)), (2, .int (a3)), (3, .int ((2000000000 : Int32))), (4, .int ((0 : Int32)))]) [2, 3, 4, 1, 0] rfl ?_
  exact L_X11_worst_7_ok G hr hlk hI h_a1 h_a2 h
abbrev rm_X11_balance : Room := { frames := 4, cells := 0, slots := 0, locals := 87 }
set_option maxRecDepth 100000 in
set_option maxHeartbeats 4000000 in
theorem L_X11_balance_41_ok {p : Program} {l : Launch} {e : Env} {s : State} {m : MethodId} {args : Array Value} {below : List Frame} {meth : Method} {c : Code} {D : va_G} {A : Nat → Prop} {ρ : z_A} {kd : z_K} {q : z_Q} {μ : z_M} {K : Int32 → z_M → Prop} {v2 : Int32} {v3 : Int32} {v4 : Nat} {v5 : Nat} (G : z_G p c cX11_balance s m args RX11 6 D) (hr : meth.sig.returnType = (Option.some Jvm.ClassFile.FieldType.int)) (hlk : meth.locks = false) (hI : z_I kd q) (f_l4 : kd v4 = some (.inl 1)) (f_l5 : kd v5 = some (.inl 6)) (h : L_X11_balance_41 kd q K v2 v3 v4 v5 μ) : z_X p l e rm_X11_balance s m args below meth c 6 D A (MQ below (z_Qn D A ρ kd (z_Ki q K)) args s 0 0 A) 0 0 ρ kd q μ 41 [(2, .int (v2)), (3, .int (v3)), (4, .ref (v4)), (5, .ref (v5))] [] := by
    unfold L_X11_balance_41 at h
    refine zx_iload_n (pc := 41) G 1 rfl rfl (z_dec T_X11_balance_ok 21 (41, .iload_n 3, 1) rfl) ?_
    refine zx_iconst (pc := 42) (v := -1) G (z_dec T_X11_balance_ok 22 (42, .iconst (-1), 1) rfl) rfl ?_
    refine zx_icmp_ne (pc := 43) (tgt := 57) G rfl (z_dec T_X11_balance_ok 23 (43, .if_icmp .ne 14, 3) rfl) (fun hc => ?_) (fun hc => ?_)
    · replace h := z_neg hc h
      refine zx_aload (pc := 57) G (some (v4)) 2 rfl (z_dec T_X11_balance_ok 29 (57, .aload 4, 2) rfl) ?_
      refine zx_iload_n (pc := 59) G 0 rfl rfl (z_dec T_X11_balance_ok 30 (59, .iload_n 2, 1) rfl) ?_
      refine zx_iload_n (pc := 60) G 1 rfl rfl (z_dec T_X11_balance_ok 31 (60, .iload_n 3, 1) rfl) ?_
      refine zx_callV_iN (pc := 61) (rm := rm_X1_balanceAt) G cw_RX11_240 ⟨Nat.le_of_ble_eq_true rfl, Nat.le_of_ble_eq_true rfl⟩ rfl rfl ⟨Nat.zero_le _, Nat.zero_le _⟩ f_l4 rfl (fun sz => (met_X1_balanceAt l D ρ kd q μ sz v4 v2 v3 _ hI f_l4 h)) rfl rfl (Nat.le_of_ble_eq_true rfl) (z_dec T_X11_balance_ok 32 (61, .invokevirtual 240, 3) rfl) (fun r2 μ1 hn => ?_)
      clear h
      have h := hn
      clear hn
      exact zx_iret (pc := 64) G hr hlk (Nat.le_refl _) (Nat.le_refl _) (z_dec T_X11_balance_ok 33 (64, .ireturn, 1) rfl) ⟨rfl, _, rfl, h⟩
    · replace h := z_pos hc h
      refine zx_aload (pc := 46) G (some (v4)) 2 rfl (z_dec T_X11_balance_ok 24 (46, .aload 4, 2) rfl) ?_
      refine zx_aload (pc := 48) G (some (v5)) 3 rfl (z_dec T_X11_balance_ok 25 (48, .aload 5, 2) rfl) ?_
      refine zx_iload_n (pc := 50) G 0 rfl rfl (z_dec T_X11_balance_ok 26 (50, .iload_n 2, 1) rfl) ?_
      refine zx_callS_iN (pc := 51) (rm := rm_X11_worst) G cw_RX11_236 ⟨Nat.le_of_ble_eq_true rfl, Nat.le_of_ble_eq_true rfl⟩ rfl rfl ⟨Nat.zero_le _, Nat.zero_le _⟩ (fun sz => (met_X11_worst l D ρ kd q μ sz (some v4) (some v5) v2 _ hI (fun a ha => by cases ha; exact f_l4) (fun a ha => by cases ha; exact f_l5) h)) rfl rfl (Nat.le_of_ble_eq_true rfl) (z_dec T_X11_balance_ok 27 (51, .invokestatic 236, 3) rfl) (fun r4 μ3 hn => ?_)
      clear h
      have h := hn
      clear hn
      refine zx_goto (pc := 54) (tgt := 64) G rfl (z_dec T_X11_balance_ok 28 (54, .goto 10, 3) rfl) ?_
      exact zx_iret (pc := 64) G hr hlk (Nat.le_refl _) (Nat.le_refl _) (z_dec T_X11_balance_ok 33 (64, .ireturn, 1) rfl) ⟨rfl, _, rfl, h⟩
set_option maxRecDepth 100000 in
set_option maxHeartbeats 4000000 in
theorem met_X11_balance (l : Launch) (D : va_G) (ρ : z_A) (kd : z_K) (q : z_Q) (μ : z_M) (sz : Nat) (a1 : Int32) (a2 : Int32) (a3 : Int32) (K : Int32 → z_M → Prop) (hI : z_I kd q) (h_o : kd 0 = some (.inl 11)) (h : C_X11_balance kd q a1 a2 a3 μ K) : Met l yX11_balance (z_ws yX11_balance cX11_balance 6 (Option.some Jvm.ClassFile.FieldType.int)) rm_X11_balance (z_Pc D ρ kd q μ sz [.ref (0), .int (a1), .int (a2), .int (a3)]) (z_Qn D (z_Rg ρ sz) ρ kd (z_Ki q K)) 0 0 (z_Rg ρ sz) := by
  refine z_met (rm := rm_X11_balance) (by decide) (Nat.le_of_ble_eq_true rfl) (fun p e s m args below meth c G hr hlk => ?_)
  unfold C_X11_balance at h
  show z_X _ _ _ _ _ _ _ _ _ _ _ _ _ _ _ _ _ _ _ _ _ [(0, .ref (0)), (1, .int (a1)), (2, .int (a2)), (3, .int (a3))] _
  refine zx_aload_n (pc := 0) G (some (0)) 0 rfl rfl (z_dec T_X11_balance_ok 0 (0, .aload_n 0, 1) rfl) ?_
  refine zx_iload_n (pc := 1) G 1 rfl rfl (z_dec T_X11_balance_ok 1 (1, .iload_n 1, 1) rfl) ?_
  refine zx_callV_rN (pc := 2) (rm := rm_X11_bookAt) G cw_RX11_141 ⟨Nat.le_of_ble_eq_true rfl, Nat.le_of_ble_eq_true rfl⟩ rfl rfl ⟨Nat.zero_le _, Nat.zero_le _⟩ h_o rfl (fun sz => (met_X11_bookAt l D ρ kd q μ sz a1 _ hI h_o h)) rfl rfl (Nat.le_of_ble_eq_true rfl) (z_dec T_X11_balance_ok 2 (2, .invokevirtual 141, 3) rfl) (fun r2 μ1 hfr2 hn => ?_)
  clear h
  have h := hn
  clear hn
  refine zx_astore (pc := 5) (lv' := [(4, va_rf (r2)), (0, .ref (0)), (1, .int (a1)), (2, .int (a2)), (3, .int (a3))]) G (r2) (Nat.le_of_ble_eq_true rfl) rfl (z_dec T_X11_balance_ok 3 (5, .astore 4, 2) rfl) ?_
  refine zx_aload_n (pc := 7) G (some (0)) 1 rfl rfl (z_dec T_X11_balance_ok 4 (7, .aload_n 0, 1) rfl) ?_
  refine zx_iload_n (pc := 8) G 3 rfl rfl (z_dec T_X11_balance_ok 5 (8, .iload_n 2, 1) rfl) ?_
  refine zx_callV_rN (pc := 9) (rm := rm_X11_raceAt) G cw_RX11_98 ⟨Nat.le_of_ble_eq_true rfl, Nat.le_of_ble_eq_true rfl⟩ rfl rfl ⟨Nat.zero_le _, Nat.zero_le _⟩ h_o rfl (fun sz => (met_X11_raceAt l D ρ kd q μ1 sz a2 _ hI h_o h)) rfl rfl (Nat.le_of_ble_eq_true rfl) (z_dec T_X11_balance_ok 6 (9, .invokevirtual 98, 3) rfl) (fun r4 μ3 hfr4 hn => ?_)
  clear h
  have h := hn
  clear hn
  refine zx_astore (pc := 12) (lv' := [(5, va_rf (r4)), (4, va_rf (r2)), (0, .ref (0)), (1, .int (a1)), (2, .int (a2)), (3, .int (a3))]) G (r4) (Nat.le_of_ble_eq_true rfl) (by cases r2 <;> rfl) (z_dec T_X11_balance_ok 7 (12, .astore 5, 2) rfl) ?_
  refine zx_aload (pc := 14) G (r2) 1 rfl (z_dec T_X11_balance_ok 8 (14, .aload 4, 2) rfl) ?_
  obtain ⟨h1, h2⟩ := h
  rcases r2 with _ | o5
  · replace h := h1 rfl
    refine zx_ifnullN (pc := 16) (tgt := 38) G rfl (z_dec T_X11_balance_ok 9 (16, .ifnull 22, 3) rfl) ?_
    refine zx_ldc (pc := 38) G wk_RX11_235 (z_dec T_X11_balance_ok 19 (38, .ldc 235, 2) rfl) ?_
    exact zx_iret (pc := 40) G hr hlk (Nat.le_refl _) (Nat.le_refl _) (z_dec T_X11_balance_ok 20 (40, .ireturn, 1) rfl) ⟨rfl, _, rfl, h⟩
  · replace h := h2 o5 rfl
    refine zx_ifnullS (pc := 16) G (hfr2 o5 rfl) (z_dec T_X11_balance_ok 9 (16, .ifnull 22, 3) rfl) ?_
    refine zx_aload (pc := 19) G (r4) 0 rfl (z_dec T_X11_balance_ok 10 (19, .aload 5, 2) rfl) ?_
    obtain ⟨h1, h2⟩ := h
    rcases r4 with _ | o6
    · replace h := h1 rfl
      refine zx_ifnullN (pc := 21) (tgt := 38) G rfl (z_dec T_X11_balance_ok 11 (21, .ifnull 17, 3) rfl) ?_
      refine zx_ldc (pc := 38) G wk_RX11_235 (z_dec T_X11_balance_ok 19 (38, .ldc 235, 2) rfl) ?_
      exact zx_iret (pc := 40) G hr hlk (Nat.le_refl _) (Nat.le_refl _) (z_dec T_X11_balance_ok 20 (40, .ireturn, 1) rfl) ⟨rfl, _, rfl, h⟩
    · replace h := h2 o6 rfl
      refine zx_ifnullS (pc := 21) G (hfr4 o6 rfl) (z_dec T_X11_balance_ok 11 (21, .ifnull 17, 3) rfl) ?_
      refine zx_iload_n (pc := 24) G 5 rfl rfl (z_dec T_X11_balance_ok 12 (24, .iload_n 3, 1) rfl) ?_
      refine zx_iconst (pc := 25) (v := -1) G (z_dec T_X11_balance_ok 13 (25, .iconst (-1), 1) rfl) rfl ?_
      refine zx_icmp_eq (pc := 26) (tgt := 41) G rfl (z_dec T_X11_balance_ok 14 (26, .if_icmp .eq 15, 3) rfl) (fun hc => ?_) (fun hc => ?_)
      · replace h := z_pos hc h
        refine zx_sub (lv' := [(2, .int (a2)), (3, .int (a3)), (4, .ref (o5)), (5, .ref (o6))]) [4, 5, 1, 0] rfl ?_
        exact L_X11_balance_41_ok G hr hlk hI (hfr2 o5 rfl) (hfr4 o6 rfl) h
      · replace h := z_neg hc h
        refine zx_aload (pc := 29) G (some (o6)) 0 rfl (z_dec T_X11_balance_ok 15 (29, .aload 5, 2) rfl) ?_
        refine zx_iload_n (pc := 31) G 5 rfl rfl (z_dec T_X11_balance_ok 16 (31, .iload_n 3, 1) rfl) ?_
        refine zx_callV_zN (pc := 32) (rm := rm_X6_holds) G cw_RX11_172 ⟨Nat.le_of_ble_eq_true rfl, Nat.le_of_ble_eq_true rfl⟩ rfl rfl ⟨Nat.zero_le _, Nat.zero_le _⟩ (hfr4 o6 rfl) rfl (fun sz => (met_X6_holds l D ρ kd q μ3 sz o6 a3 _ hI (hfr4 o6 rfl) h)) rfl rfl (Nat.le_of_ble_eq_true rfl) (z_dec T_X11_balance_ok 17 (32, .invokevirtual 172, 3) rfl) (fun r8 μ7 hzr8 hn => ?_)
        clear h
        have h := hn
        clear hn
        refine zx_if_ne (pc := 35) (tgt := 41) G rfl (z_dec T_X11_balance_ok 18 (35, .ifCond .ne 6, 3) rfl) (fun hc => ?_) (fun hc => ?_)
        · replace h := z_neg hc h
          refine zx_sub (lv' := [(2, .int (a2)), (3, .int (a3)), (4, .ref (o5)), (5, .ref (o6))]) [4, 5, 1, 0] rfl ?_
          exact L_X11_balance_41_ok G hr hlk hI (hfr2 o5 rfl) (hfr4 o6 rfl) h
        · replace h := z_pos hc h
          refine zx_ldc (pc := 38) G wk_RX11_235 (z_dec T_X11_balance_ok 19 (38, .ldc 235, 2) rfl) ?_
          exact zx_iret (pc := 40) G hr hlk (Nat.le_refl _) (Nat.le_refl _) (z_dec T_X11_balance_ok 20 (40, .ireturn, 1) rfl) ⟨rfl, _, rfl, h⟩
abbrev rm_X11_sumSlate : Room := { frames := 3, cells := 0, slots := 0, locals := 63 }
set_option maxRecDepth 100000 in
set_option maxHeartbeats 4000000 in
theorem B_X11_sumSlate_9_ok {p : Program} {l : Launch} {e : Env} {s : State} {m : MethodId} {args : Array Value} {below : List Frame} {meth : Method} {c : Code} {D : va_G} {A : Nat → Prop} {ρ : z_A} {kd : z_K} {q : z_Q} {μ : z_M} {K : z_M → Prop} {P9 : Option Nat → Int32 → Int32 → z_M → Prop} {v1 : Option Nat} {v2 : Int32} {v3 : Int32} (G : z_G p c cX11_sumSlate s m args RX11 5 D) (hr : meth.sig.returnType = (Option.none : Option Jvm.ClassFile.FieldType)) (hlk : meth.locks = false) (hP9 : ∀ (v1 : Option Nat) (v2 : Int32) (v3 : Int32) (μ : z_M), P9 v1 v2 v3 μ → (kd 0 = some (.inl 11)) → (∀ a, v1 = some a → kd a = some (.inl 1)) → z_X p l e rm_X11_sumSlate s m args below meth c 5 D A (MQ below (z_Qn D A ρ kd (z_Kv q K)) args s 0 0 A) 0 0 ρ kd q μ 9 [(0, .ref (0)), (1, va_rf (v1)), (2, .int (v2)), (3, .int (v3))] []) (hI : z_I kd q) (f_l0 : kd 0 = some (.inl 11)) (f_l1 : ∀ a, v1 = some a → kd a = some (.inl 1)) (h : B_X11_sumSlate_9 kd q K P9 v1 v2 v3 μ) : z_X p l e rm_X11_sumSlate s m args below meth c 5 D A (MQ below (z_Qn D A ρ kd (z_Kv q K)) args s 0 0 A) 0 0 ρ kd q μ 9 [(0, .ref (0)), (1, va_rf (v1)), (2, .int (v2)), (3, .int (v3))] [] := by
    unfold B_X11_sumSlate_9 at h
    refine zx_iload_n (pc := 9) G 3 rfl rfl (z_dec T_X11_sumSlate_ok 5 (9, .iload_n 3, 1) rfl) ?_
    refine zx_bipush (pc := 10) (v := 8) G (z_dec T_X11_sumSlate_ok 6 (10, .bipush 8, 2) rfl) rfl ?_
    refine zx_icmp_ge (pc := 12) (tgt := 64) G rfl (z_dec T_X11_sumSlate_ok 7 (12, .if_icmp .ge 52, 3) rfl) (fun hc => ?_) (fun hc => ?_)
    · replace h := z_pos hc h
      exact zx_vret (pc := 64) G hr hlk (Nat.le_refl _) (Nat.le_refl _) (z_dec T_X11_sumSlate_ok 31 (64, .return_, 1) rfl) ⟨rfl, rfl, h⟩
    · replace h := z_neg hc h
      refine zx_aload_n (pc := 15) G (v1) 1 rfl rfl (z_dec T_X11_sumSlate_ok 8 (15, .aload_n 1, 1) rfl) ?_
      obtain ⟨o1, rfl, h⟩ := h
      refine zx_getF (pc := 16) (b := o1 + 1) G gf_RX11_166 rfl (f_l1 o1 rfl) (zq_1_3 hI (f_l1 o1 rfl)) (z_dec T_X11_sumSlate_ok 9 (16, .getfield 166, 3) rfl) ?_
      refine zx_iload_n (pc := 19) G 2 rfl rfl (z_dec T_X11_sumSlate_ok 10 (19, .iload_n 2, 1) rfl) ?_
      refine zx_iload_n (pc := 20) G 3 rfl rfl (z_dec T_X11_sumSlate_ok 11 (20, .iload_n 3, 1) rfl) ?_
      refine zx_callS_iN (pc := 21) (rm := rm_X11_spot) G cw_RX11_168 ⟨Nat.le_of_ble_eq_true rfl, Nat.le_of_ble_eq_true rfl⟩ rfl rfl ⟨Nat.zero_le _, Nat.zero_le _⟩ (fun sz => (met_X11_spot l D ρ kd q μ sz v2 v3 _ hI h)) rfl rfl (Nat.le_of_ble_eq_true rfl) (z_dec T_X11_sumSlate_ok 12 (21, .invokestatic 168, 3) rfl) (fun r3 μ2 hn => ?_)
      clear h
      have h := hn
      clear hn
      obtain ⟨c4, h⟩ := h
      refine zx_iald (pc := 24) G (zk_1_3 hI (f_l1 o1 rfl)) c4 (z_dec T_X11_sumSlate_ok 13 (24, .iaload, 1) rfl) ?_
      refine zx_istore (pc := 25) (lv' := [(4, .int (μ2.1 (o1 + 1) r3.toNatClampNeg)), (0, .ref (0)), (1, .ref (o1)), (2, .int (v2)), (3, .int (v3))]) G (Nat.le_of_ble_eq_true rfl) rfl (z_dec T_X11_sumSlate_ok 14 (25, .istore 4, 2) rfl) ?_
      refine zx_iload (pc := 27) G 0 rfl (z_dec T_X11_sumSlate_ok 15 (27, .iload 4, 2) rfl) ?_
      refine zx_iconst (pc := 29) (v := -1) G (z_dec T_X11_sumSlate_ok 16 (29, .iconst (-1), 1) rfl) rfl ?_
      refine zx_icmp_eq (pc := 30) (tgt := 58) G rfl (z_dec T_X11_sumSlate_ok 17 (30, .if_icmp .eq 28, 3) rfl) (fun hc => ?_) (fun hc => ?_)
      · replace h := z_pos hc h
        refine zx_iinc (pc := 58) (v := v3 + 1) (lv' := [(3, .int (v3 + 1)), (4, .int (μ2.1 (o1 + 1) r3.toNatClampNeg)), (0, .ref (0)), (1, .ref (o1)), (2, .int (v2))]) G 4 rfl (z_inc (by decide)) (Nat.le_of_ble_eq_true rfl) rfl (z_dec T_X11_sumSlate_ok 29 (58, .iinc 3 1, 3) rfl) ?_
        refine zx_goto (pc := 61) (tgt := 9) G rfl (z_dec T_X11_sumSlate_ok 30 (61, .goto (-52), 3) rfl) ?_
        refine zx_sub (lv' := [(0, .ref (0)), (1, .ref (o1)), (2, .int (v2)), (3, .int (v3 + 1))]) [2, 3, 4, 0] rfl ?_
        exact hP9 _ _ _ _ h f_l0 (fun a ha => by cases ha; exact (f_l1 o1 rfl))
      · replace h := z_neg hc h
        refine zx_aload_n (pc := 33) G (some (0)) 1 rfl rfl (z_dec T_X11_sumSlate_ok 18 (33, .aload_n 0, 1) rfl) ?_
        refine zx_getF (pc := 34) (b := 11) G gf_RX11_62 rfl f_l0 (zq_11_7 hI f_l0) (z_dec T_X11_sumSlate_ok 19 (34, .getfield 62, 3) rfl) ?_
        refine zx_aload_n (pc := 37) G (some (0)) 1 rfl rfl (z_dec T_X11_sumSlate_ok 20 (37, .aload_n 0, 1) rfl) ?_
        refine zx_getF (pc := 38) (b := 3) G gf_RX11_19 rfl f_l0 (zq_11_1 hI f_l0) (z_dec T_X11_sumSlate_ok 21 (38, .getfield 19, 3) rfl) ?_
        refine zx_iload (pc := 41) G 0 rfl (z_dec T_X11_sumSlate_ok 22 (41, .iload 4, 2) rfl) ?_
        refine zx_callV_iN (pc := 43) (rm := rm_X3_bOf) G cw_RX11_306 ⟨Nat.le_of_ble_eq_true rfl, Nat.le_of_ble_eq_true rfl⟩ rfl rfl ⟨Nat.zero_le _, Nat.zero_le _⟩ (zk_11_1 hI f_l0) rfl (fun sz => (met_X3_bOf l D ρ kd q μ2 sz 3 (μ2.1 (o1 + 1) r3.toNatClampNeg) _ hI (zk_11_1 hI f_l0) h)) rfl rfl (Nat.le_of_ble_eq_true rfl) (z_dec T_X11_sumSlate_ok 23 (43, .invokevirtual 306, 3) rfl) (fun r6 μ5 hn => ?_)
        clear h
        have h := hn
        clear hn
        refine zx_aload_n (pc := 46) G (some (0)) 1 rfl rfl (z_dec T_X11_sumSlate_ok 24 (46, .aload_n 0, 1) rfl) ?_
        refine zx_getF (pc := 47) (b := 3) G gf_RX11_19 rfl f_l0 (zq_11_1 hI f_l0) (z_dec T_X11_sumSlate_ok 25 (47, .getfield 19, 3) rfl) ?_
        refine zx_iload (pc := 50) G 0 rfl (z_dec T_X11_sumSlate_ok 26 (50, .iload 4, 2) rfl) ?_
        refine zx_callV_iN (pc := 52) (rm := rm_X3_wholeOf) G cw_RX11_481 ⟨Nat.le_of_ble_eq_true rfl, Nat.le_of_ble_eq_true rfl⟩ rfl rfl ⟨Nat.zero_le _, Nat.zero_le _⟩ (zk_11_1 hI f_l0) rfl (fun sz => (met_X3_wholeOf l D ρ kd q μ5 sz 3 (μ2.1 (o1 + 1) r3.toNatClampNeg) _ hI (zk_11_1 hI f_l0) h)) rfl rfl (Nat.le_of_ble_eq_true rfl) (z_dec T_X11_sumSlate_ok 27 (52, .invokevirtual 481, 3) rfl) (fun r8 μ7 hn => ?_)
        clear h
        have h := hn
        clear hn
        refine zx_callV_vN (pc := 55) (rm := rm_X9_add) G cw_RX11_487 ⟨Nat.le_of_ble_eq_true rfl, Nat.le_of_ble_eq_true rfl⟩ rfl rfl ⟨Nat.zero_le _, Nat.zero_le _⟩ (zk_11_7 hI f_l0) rfl (fun sz => (met_X9_add l D ρ kd q μ7 sz r6 r8 _ hI (zk_11_7 hI f_l0) h)) rfl rfl (Nat.le_of_ble_eq_true rfl) (z_dec T_X11_sumSlate_ok 28 (55, .invokevirtual 487, 3) rfl) (fun μ9 hn => ?_)
        clear h
        have h := hn
        clear hn
        refine zx_iinc (pc := 58) (v := v3 + 1) (lv' := [(3, .int (v3 + 1)), (4, .int (μ2.1 (o1 + 1) r3.toNatClampNeg)), (0, .ref (0)), (1, .ref (o1)), (2, .int (v2))]) G 4 rfl (z_inc (by decide)) (Nat.le_of_ble_eq_true rfl) rfl (z_dec T_X11_sumSlate_ok 29 (58, .iinc 3 1, 3) rfl) ?_
        refine zx_goto (pc := 61) (tgt := 9) G rfl (z_dec T_X11_sumSlate_ok 30 (61, .goto (-52), 3) rfl) ?_
        refine zx_sub (lv' := [(0, .ref (0)), (1, .ref (o1)), (2, .int (v2)), (3, .int (v3 + 1))]) [2, 3, 4, 0] rfl ?_
        exact hP9 _ _ _ _ h f_l0 (fun a ha => by cases ha; exact (f_l1 o1 rfl))
set_option maxRecDepth 100000 in
set_option maxHeartbeats 4000000 in
theorem L_X11_sumSlate_9_ok {p : Program} {l : Launch} {e : Env} {s : State} {m : MethodId} {args : Array Value} {below : List Frame} {meth : Method} {c : Code} {D : va_G} {A : Nat → Prop} {ρ : z_A} {kd : z_K} {q : z_Q} {μ : z_M} {K : z_M → Prop} {v1 : Option Nat} {v2 : Int32} {v3 : Int32} (G : z_G p c cX11_sumSlate s m args RX11 5 D) (hr : meth.sig.returnType = (Option.none : Option Jvm.ClassFile.FieldType)) (hlk : meth.locks = false) (hI : z_I kd q) (f_l0 : kd 0 = some (.inl 11)) (f_l1 : ∀ a, v1 = some a → kd a = some (.inl 1)) (h : L_X11_sumSlate_9 kd q K v1 v2 v3 μ) : z_X p l e rm_X11_sumSlate s m args below meth c 5 D A (MQ below (z_Qn D A ρ kd (z_Kv q K)) args s 0 0 A) 0 0 ρ kd q μ 9 [(0, .ref (0)), (1, va_rf (v1)), (2, .int (v2)), (3, .int (v3))] [] :=
  h (fun (v1 : Option Nat) (v2 : Int32) (v3 : Int32) (μ : z_M) => (kd 0 = some (.inl 11)) → (∀ a, v1 = some a → kd a = some (.inl 1)) → z_X p l e rm_X11_sumSlate s m args below meth c 5 D A (MQ below (z_Qn D A ρ kd (z_Kv q K)) args s 0 0 A) 0 0 ρ kd q μ 9 [(0, .ref (0)), (1, va_rf (v1)), (2, .int (v2)), (3, .int (v3))] []) (fun v1 v2 v3 μ h f_l0 f_l1 => B_X11_sumSlate_9_ok G hr hlk (fun _ _ _ _ h => h) hI f_l0 f_l1 h) f_l0 f_l1
set_option maxRecDepth 100000 in
set_option maxHeartbeats 4000000 in
theorem met_X11_sumSlate (l : Launch) (D : va_G) (ρ : z_A) (kd : z_K) (q : z_Q) (μ : z_M) (sz : Nat) (a1 : Option Nat) (a2 : Int32) (K : z_M → Prop) (hI : z_I kd q) (h_o : kd 0 = some (.inl 11)) (h_a1 : ∀ a, a1 = some a → kd a = some (.inl 1)) (h : C_X11_sumSlate kd q a1 a2 μ K) : Met l yX11_sumSlate (z_ws yX11_sumSlate cX11_sumSlate 5 (Option.none : Option Jvm.ClassFile.FieldType)) rm_X11_sumSlate (z_Pc D ρ kd q μ sz [.ref (0), va_rf (a1), .int (a2)]) (z_Qn D (z_Rg ρ sz) ρ kd (z_Kv q K)) 0 0 (z_Rg ρ sz) := by
  refine z_met (rm := rm_X11_sumSlate) (by decide) (by cases a1 <;> exact Nat.le_of_ble_eq_true rfl) (fun p e s m args below meth c G hr hlk => ?_)
  unfold C_X11_sumSlate at h
  rw [show lv_args 0 [.ref (0), va_rf (a1), .int (a2)] = [(0, .ref (0)), (1, va_rf (a1)), (2, .int (a2))] from by cases a1 <;> rfl]
  refine zx_aload_n (pc := 0) G (some (0)) 0 rfl rfl (z_dec T_X11_sumSlate_ok 0 (0, .aload_n 0, 1) rfl) ?_
  refine zx_getF (pc := 1) (b := 11) G gf_RX11_62 rfl h_o (zq_11_7 hI h_o) (z_dec T_X11_sumSlate_ok 1 (1, .getfield 62, 3) rfl) ?_
  refine zx_callV_vN (pc := 4) (rm := rm_X9_clear) G cw_RX11_486 ⟨Nat.le_of_ble_eq_true rfl, Nat.le_of_ble_eq_true rfl⟩ rfl rfl ⟨Nat.zero_le _, Nat.zero_le _⟩ (zk_11_7 hI h_o) rfl (fun sz => (met_X9_clear l D ρ kd q μ sz  _ hI (zk_11_7 hI h_o) h)) rfl rfl (Nat.le_of_ble_eq_true rfl) (z_dec T_X11_sumSlate_ok 2 (4, .invokevirtual 486, 3) rfl) (fun μ1 hn => ?_)
  clear h
  have h := hn
  clear hn
  refine zx_iconst (pc := 7) (v := 0) G (z_dec T_X11_sumSlate_ok 3 (7, .iconst 0, 1) rfl) rfl ?_
  refine zx_istore_n (pc := 8) (lv' := [(3, .int ((0 : Int32))), (0, .ref (0)), (1, va_rf (a1)), (2, .int (a2))]) G rfl (Nat.le_of_ble_eq_true rfl) rfl (z_dec T_X11_sumSlate_ok 4 (8, .istore_n 3, 1) rfl) ?_
  refine zx_sub (lv' := [(0, .ref (0)), (1, va_rf (a1)), (2, .int (a2)), (3, .int ((0 : Int32)))]) [1, 2, 3, 0] rfl ?_
  exact L_X11_sumSlate_9_ok G hr hlk hI h_o h_a1 h
abbrev rm_X11_round : Room := { frames := 4, cells := 0, slots := 0, locals := 87 }
set_option maxRecDepth 100000 in
set_option maxHeartbeats 4000000 in
theorem met_X11_round (l : Launch) (D : va_G) (ρ : z_A) (kd : z_K) (q : z_Q) (μ : z_M) (sz : Nat) (a1 : Int32) (a2 : Int32) (a3 : Int32) (K : Int64 → z_M → Prop) (hI : z_I kd q) (h_o : kd 0 = some (.inl 11)) (h : C_X11_round kd q a1 a2 a3 μ K) : Met l yX11_round (z_ws yX11_round cX11_round 5 (Option.some Jvm.ClassFile.FieldType.long)) rm_X11_round (z_Pc D ρ kd q μ sz [.ref (0), .int (a1), .int (a2), .int (a3)]) (z_Qn D (z_Rg ρ sz) ρ kd (z_Kl q K)) 0 0 (z_Rg ρ sz) := by
  refine z_met (rm := rm_X11_round) (by decide) (Nat.le_of_ble_eq_true rfl) (fun p e s m args below meth c G hr hlk => ?_)
  unfold C_X11_round at h
  show z_X _ _ _ _ _ _ _ _ _ _ _ _ _ _ _ _ _ _ _ _ _ [(0, .ref (0)), (1, .int (a1)), (2, .int (a2)), (3, .int (a3))] _
  refine zx_aload_n (pc := 0) G (some (0)) 0 rfl rfl (z_dec T_X11_round_ok 0 (0, .aload_n 0, 1) rfl) ?_
  refine zx_iload_n (pc := 1) G 1 rfl rfl (z_dec T_X11_round_ok 1 (1, .iload_n 1, 1) rfl) ?_
  refine zx_callV_rN (pc := 2) (rm := rm_X11_bookAt) G cw_RX11_141 ⟨Nat.le_of_ble_eq_true rfl, Nat.le_of_ble_eq_true rfl⟩ rfl rfl ⟨Nat.zero_le _, Nat.zero_le _⟩ h_o rfl (fun sz => (met_X11_bookAt l D ρ kd q μ sz a1 _ hI h_o h)) rfl rfl (Nat.le_of_ble_eq_true rfl) (z_dec T_X11_round_ok 2 (2, .invokevirtual 141, 3) rfl) (fun r2 μ1 hfr2 hn => ?_)
  clear h
  have h := hn
  clear hn
  refine zx_astore (pc := 5) (lv' := [(4, va_rf (r2)), (0, .ref (0)), (1, .int (a1)), (2, .int (a2)), (3, .int (a3))]) G (r2) (Nat.le_of_ble_eq_true rfl) rfl (z_dec T_X11_round_ok 3 (5, .astore 4, 2) rfl) ?_
  refine zx_aload (pc := 7) G (r2) 0 rfl (z_dec T_X11_round_ok 4 (7, .aload 4, 2) rfl) ?_
  obtain ⟨h1, h2⟩ := h
  rcases r2 with _ | o3
  · replace h := h1 rfl
    refine zx_ifnullN (pc := 9) (tgt := 29) G rfl (z_dec T_X11_round_ok 5 (9, .ifnull 20, 3) rfl) ?_
    refine zx_ldc2 (pc := 29) G wk_RX11_243 (z_dec T_X11_round_ok 15 (29, .ldc2_w 243, 3) rfl) ?_
    exact zx_lret (pc := 32) G hr hlk (Nat.le_refl _) (Nat.le_refl _) (z_dec T_X11_round_ok 16 (32, .lreturn, 1) rfl) ⟨rfl, _, rfl, h⟩
  · replace h := h2 o3 rfl
    refine zx_ifnullS (pc := 9) G (hfr2 o3 rfl) (z_dec T_X11_round_ok 5 (9, .ifnull 20, 3) rfl) ?_
    refine zx_aload_n (pc := 12) G (some (0)) 1 rfl rfl (z_dec T_X11_round_ok 6 (12, .aload_n 0, 1) rfl) ?_
    refine zx_iload_n (pc := 13) G 3 rfl rfl (z_dec T_X11_round_ok 7 (13, .iload_n 2, 1) rfl) ?_
    refine zx_callV_rN (pc := 14) (rm := rm_X11_raceAt) G cw_RX11_98 ⟨Nat.le_of_ble_eq_true rfl, Nat.le_of_ble_eq_true rfl⟩ rfl rfl ⟨Nat.zero_le _, Nat.zero_le _⟩ h_o rfl (fun sz => (met_X11_raceAt l D ρ kd q μ1 sz a2 _ hI h_o h)) rfl rfl (Nat.le_of_ble_eq_true rfl) (z_dec T_X11_round_ok 8 (14, .invokevirtual 98, 3) rfl) (fun r5 μ4 hfr5 hn => ?_)
    clear h
    have h := hn
    clear hn
    obtain ⟨h1, h2⟩ := h
    rcases r5 with _ | o6
    · replace h := h1 rfl
      refine zx_ifnullN (pc := 17) (tgt := 29) G rfl (z_dec T_X11_round_ok 9 (17, .ifnull 12, 3) rfl) ?_
      refine zx_ldc2 (pc := 29) G wk_RX11_243 (z_dec T_X11_round_ok 15 (29, .ldc2_w 243, 3) rfl) ?_
      exact zx_lret (pc := 32) G hr hlk (Nat.le_refl _) (Nat.le_refl _) (z_dec T_X11_round_ok 16 (32, .lreturn, 1) rfl) ⟨rfl, _, rfl, h⟩
    · replace h := h2 o6 rfl
      refine zx_ifnullS (pc := 17) G (hfr5 o6 rfl) (z_dec T_X11_round_ok 9 (17, .ifnull 12, 3) rfl) ?_
      refine zx_iload_n (pc := 20) G 4 rfl rfl (z_dec T_X11_round_ok 10 (20, .iload_n 3, 1) rfl) ?_
      refine zx_if_lt (pc := 21) (tgt := 29) G rfl (z_dec T_X11_round_ok 11 (21, .ifCond .lt 8, 3) rfl) (fun hc => ?_) (fun hc => ?_)
      · replace h := z_pos hc h
        refine zx_ldc2 (pc := 29) G wk_RX11_243 (z_dec T_X11_round_ok 15 (29, .ldc2_w 243, 3) rfl) ?_
        exact zx_lret (pc := 32) G hr hlk (Nat.le_refl _) (Nat.le_refl _) (z_dec T_X11_round_ok 16 (32, .lreturn, 1) rfl) ⟨rfl, _, rfl, h⟩
      · replace h := z_neg hc h
        refine zx_iload_n (pc := 24) G 4 rfl rfl (z_dec T_X11_round_ok 12 (24, .iload_n 3, 1) rfl) ?_
        refine zx_iconst (pc := 25) (v := 1) G (z_dec T_X11_round_ok 13 (25, .iconst 1, 1) rfl) rfl ?_
        refine zx_icmp_le (pc := 26) (tgt := 33) G rfl (z_dec T_X11_round_ok 14 (26, .if_icmp .le 7, 3) rfl) (fun hc => ?_) (fun hc => ?_)
        · replace h := z_pos hc h
          refine zx_aload_n (pc := 33) G (some (0)) 1 rfl rfl (z_dec T_X11_round_ok 17 (33, .aload_n 0, 1) rfl) ?_
          refine zx_aload (pc := 34) G (some (o3)) 0 rfl (z_dec T_X11_round_ok 18 (34, .aload 4, 2) rfl) ?_
          refine zx_iload_n (pc := 36) G 3 rfl rfl (z_dec T_X11_round_ok 19 (36, .iload_n 2, 1) rfl) ?_
          refine zx_callV_vN (pc := 37) (rm := rm_X11_sumSlate) G cw_RX11_245 ⟨Nat.le_of_ble_eq_true rfl, Nat.le_of_ble_eq_true rfl⟩ rfl rfl ⟨Nat.zero_le _, Nat.zero_le _⟩ h_o rfl (fun sz => (met_X11_sumSlate l D ρ kd q μ4 sz (some o3) a2 _ hI h_o (fun a ha => by cases ha; exact (hfr2 o3 rfl)) h)) rfl rfl (Nat.le_of_ble_eq_true rfl) (z_dec T_X11_round_ok 20 (37, .invokevirtual 245, 3) rfl) (fun μ7 hn => ?_)
          clear h
          have h := hn
          clear hn
          refine zx_aload_n (pc := 40) G (some (0)) 1 rfl rfl (z_dec T_X11_round_ok 21 (40, .aload_n 0, 1) rfl) ?_
          refine zx_getF (pc := 41) (b := 11) G gf_RX11_62 rfl h_o (zq_11_7 hI h_o) (z_dec T_X11_round_ok 22 (41, .getfield 62, 3) rfl) ?_
          refine zx_callV_vN (pc := 44) (rm := rm_X9_shorten) G cw_RX11_249 ⟨Nat.le_of_ble_eq_true rfl, Nat.le_of_ble_eq_true rfl⟩ rfl rfl ⟨Nat.zero_le _, Nat.zero_le _⟩ (zk_11_7 hI h_o) rfl (fun sz => (met_X9_shorten l D ρ kd q μ7 sz  _ hI (zk_11_7 hI h_o) h)) rfl rfl (Nat.le_of_ble_eq_true rfl) (z_dec T_X11_round_ok 23 (44, .invokevirtual 249, 3) rfl) (fun μ8 hn => ?_)
          clear h
          have h := hn
          clear hn
          refine zx_iload_n (pc := 47) G 4 rfl rfl (z_dec T_X11_round_ok 24 (47, .iload_n 3, 1) rfl) ?_
          refine zx_if_ne (pc := 48) (tgt := 61) G rfl (z_dec T_X11_round_ok 25 (48, .ifCond .ne 13, 3) rfl) (fun hc => ?_) (fun hc => ?_)
          · replace h := z_neg hc h
            refine zx_aload_n (pc := 61) G (some (0)) 1 rfl rfl (z_dec T_X11_round_ok 30 (61, .aload_n 0, 1) rfl) ?_
            refine zx_getF (pc := 62) (b := 11) G gf_RX11_62 rfl h_o (zq_11_7 hI h_o) (z_dec T_X11_round_ok 31 (62, .getfield 62, 3) rfl) ?_
            refine zx_getL (pc := 65) G gf_RX11_256 rfl (zk_11_7 hI h_o) (z_dec T_X11_round_ok 32 (65, .getfield 256, 3) rfl) ?_
            exact zx_lret (pc := 68) G hr hlk (Nat.le_refl _) (Nat.le_refl _) (z_dec T_X11_round_ok 33 (68, .lreturn, 1) rfl) ⟨rfl, _, rfl, h⟩
          · replace h := z_pos hc h
            refine zx_aload_n (pc := 51) G (some (0)) 1 rfl rfl (z_dec T_X11_round_ok 26 (51, .aload_n 0, 1) rfl) ?_
            refine zx_getF (pc := 52) (b := 11) G gf_RX11_62 rfl h_o (zq_11_7 hI h_o) (z_dec T_X11_round_ok 27 (52, .getfield 62, 3) rfl) ?_
            refine zx_getL (pc := 55) G gf_RX11_252 rfl (zk_11_7 hI h_o) (z_dec T_X11_round_ok 28 (55, .getfield 252, 3) rfl) ?_
            refine zx_goto (pc := 58) (tgt := 68) G rfl (z_dec T_X11_round_ok 29 (58, .goto 10, 3) rfl) ?_
            exact zx_lret (pc := 68) G hr hlk (Nat.le_refl _) (Nat.le_refl _) (z_dec T_X11_round_ok 33 (68, .lreturn, 1) rfl) ⟨rfl, _, rfl, h⟩
        · replace h := z_neg hc h
          refine zx_ldc2 (pc := 29) G wk_RX11_243 (z_dec T_X11_round_ok 15 (29, .ldc2_w 243, 3) rfl) ?_
          exact zx_lret (pc := 32) G hr hlk (Nat.le_refl _) (Nat.le_refl _) (z_dec T_X11_round_ok 16 (32, .lreturn, 1) rfl) ⟨rfl, _, rfl, h⟩
abbrev rm_X11_has : Room := { frames := 1, cells := 0, slots := 0, locals := 21 }
set_option maxRecDepth 100000 in
set_option maxHeartbeats 4000000 in
theorem met_X11_has (l : Launch) (D : va_G) (ρ : z_A) (kd : z_K) (q : z_Q) (μ : z_M) (sz : Nat) (a1 : Int32) (a2 : Int32) (K : Int32 → z_M → Prop) (hI : z_I kd q) (h_o : kd 0 = some (.inl 11)) (h : C_X11_has kd q a1 a2 μ K) : Met l yX11_has (z_ws yX11_has cX11_has 4 (Option.some Jvm.ClassFile.FieldType.int)) rm_X11_has (z_Pc D ρ kd q μ sz [.ref (0), .int (a1), .int (a2)]) (z_Qn D (z_Rg ρ sz) ρ kd (z_Ki q K)) 0 0 (z_Rg ρ sz) := by
  refine z_met (rm := rm_X11_has) (by decide) (Nat.le_of_ble_eq_true rfl) (fun p e s m args below meth c G hr hlk => ?_)
  unfold C_X11_has at h
  show z_X _ _ _ _ _ _ _ _ _ _ _ _ _ _ _ _ _ _ _ _ _ [(0, .ref (0)), (1, .int (a1)), (2, .int (a2))] _
  refine zx_aload_n (pc := 0) G (some (0)) 0 rfl rfl (z_dec T_X11_has_ok 0 (0, .aload_n 0, 1) rfl) ?_
  refine zx_iload_n (pc := 1) G 1 rfl rfl (z_dec T_X11_has_ok 1 (1, .iload_n 1, 1) rfl) ?_
  refine zx_callV_rN (pc := 2) (rm := rm_X11_betAt) G cw_RX11_219 ⟨Nat.le_of_ble_eq_true rfl, Nat.le_of_ble_eq_true rfl⟩ rfl rfl ⟨Nat.zero_le _, Nat.zero_le _⟩ h_o rfl (fun sz => (met_X11_betAt l D ρ kd q μ sz a1 _ hI h_o h)) rfl rfl (Nat.le_of_ble_eq_true rfl) (z_dec T_X11_has_ok 2 (2, .invokevirtual 219, 3) rfl) (fun r2 μ1 hfr2 hn => ?_)
  clear h
  have h := hn
  clear hn
  refine zx_astore_n (pc := 5) (lv' := [(3, va_rf (r2)), (0, .ref (0)), (1, .int (a1)), (2, .int (a2))]) G (r2) rfl (Nat.le_of_ble_eq_true rfl) rfl (z_dec T_X11_has_ok 3 (5, .astore_n 3, 1) rfl) ?_
  refine zx_aload_n (pc := 6) G (r2) 0 rfl rfl (z_dec T_X11_has_ok 4 (6, .aload_n 3, 1) rfl) ?_
  obtain ⟨h1, h2⟩ := h
  rcases r2 with _ | o3
  · replace h := h1 rfl
    refine zx_ifnullN (pc := 7) (tgt := 19) G rfl (z_dec T_X11_has_ok 5 (7, .ifnull 12, 3) rfl) ?_
    refine zx_iconst (pc := 19) (v := -1) G (z_dec T_X11_has_ok 11 (19, .iconst (-1), 1) rfl) rfl ?_
    exact zx_iret (pc := 20) G hr hlk (Nat.le_refl _) (Nat.le_refl _) (z_dec T_X11_has_ok 12 (20, .ireturn, 1) rfl) ⟨rfl, _, rfl, h⟩
  · replace h := h2 o3 rfl
    refine zx_ifnullS (pc := 7) G (hfr2 o3 rfl) (z_dec T_X11_has_ok 5 (7, .ifnull 12, 3) rfl) ?_
    refine zx_iload_n (pc := 10) G 3 rfl rfl (z_dec T_X11_has_ok 6 (10, .iload_n 2, 1) rfl) ?_
    refine zx_if_lt (pc := 11) (tgt := 19) G rfl (z_dec T_X11_has_ok 7 (11, .ifCond .lt 8, 3) rfl) (fun hc => ?_) (fun hc => ?_)
    · replace h := z_pos hc h
      refine zx_iconst (pc := 19) (v := -1) G (z_dec T_X11_has_ok 11 (19, .iconst (-1), 1) rfl) rfl ?_
      exact zx_iret (pc := 20) G hr hlk (Nat.le_refl _) (Nat.le_refl _) (z_dec T_X11_has_ok 12 (20, .ireturn, 1) rfl) ⟨rfl, _, rfl, h⟩
    · replace h := z_neg hc h
      refine zx_iload_n (pc := 14) G 3 rfl rfl (z_dec T_X11_has_ok 8 (14, .iload_n 2, 1) rfl) ?_
      refine zx_iconst (pc := 15) (v := 1) G (z_dec T_X11_has_ok 9 (15, .iconst 1, 1) rfl) rfl ?_
      refine zx_icmp_le (pc := 16) (tgt := 21) G rfl (z_dec T_X11_has_ok 10 (16, .if_icmp .le 5, 3) rfl) (fun hc => ?_) (fun hc => ?_)
      · replace h := z_pos hc h
        refine zx_aload_n (pc := 21) G (some (o3)) 0 rfl rfl (z_dec T_X11_has_ok 13 (21, .aload_n 3, 1) rfl) ?_
        refine zx_getZ (pc := 22) G gf_RX11_259 rfl (hfr2 o3 rfl) (z_dec T_X11_has_ok 14 (22, .getfield 259, 3) rfl) ?_
        refine zx_if_ne (pc := 25) (tgt := 31) G rfl (z_dec T_X11_has_ok 15 (25, .ifCond .ne 6, 3) rfl) (fun hc => ?_) (fun hc => ?_)
        · replace h := z_neg hc h
          refine zx_iload_n (pc := 31) G 3 rfl rfl (z_dec T_X11_has_ok 18 (31, .iload_n 2, 1) rfl) ?_
          refine zx_if_ne (pc := 32) (tgt := 40) G rfl (z_dec T_X11_has_ok 19 (32, .ifCond .ne 8, 3) rfl) (fun hc => ?_) (fun hc => ?_)
          · replace h := z_neg hc h
            refine zx_aload_n (pc := 40) G (some (o3)) 0 rfl rfl (z_dec T_X11_has_ok 23 (40, .aload_n 3, 1) rfl) ?_
            refine zx_getZ (pc := 41) G gf_RX11_265 rfl (hfr2 o3 rfl) (z_dec T_X11_has_ok 24 (41, .getfield 265, 3) rfl) ?_
            refine zx_if_eq (pc := 44) (tgt := 51) G rfl (z_dec T_X11_has_ok 25 (44, .ifCond .eq 7, 3) rfl) (fun hc => ?_) (fun hc => ?_)
            · replace h := z_pos hc h
              refine zx_iconst (pc := 51) (v := 0) G (z_dec T_X11_has_ok 28 (51, .iconst 0, 1) rfl) rfl ?_
              exact zx_iret (pc := 52) G hr hlk (Nat.le_refl _) (Nat.le_refl _) (z_dec T_X11_has_ok 29 (52, .ireturn, 1) rfl) ⟨rfl, _, rfl, h⟩
            · replace h := z_neg hc h
              refine zx_iconst (pc := 47) (v := 1) G (z_dec T_X11_has_ok 26 (47, .iconst 1, 1) rfl) rfl ?_
              refine zx_goto (pc := 48) (tgt := 52) G rfl (z_dec T_X11_has_ok 27 (48, .goto 4, 3) rfl) ?_
              exact zx_iret (pc := 52) G hr hlk (Nat.le_refl _) (Nat.le_refl _) (z_dec T_X11_has_ok 29 (52, .ireturn, 1) rfl) ⟨rfl, _, rfl, h⟩
          · replace h := z_pos hc h
            refine zx_aload_n (pc := 35) G (some (o3)) 0 rfl rfl (z_dec T_X11_has_ok 20 (35, .aload_n 3, 1) rfl) ?_
            refine zx_getI (pc := 36) G gf_RX11_262 rfl (hfr2 o3 rfl) (z_dec T_X11_has_ok 21 (36, .getfield 262, 3) rfl) ?_
            exact zx_iret (pc := 39) G hr hlk (Nat.le_refl _) (Nat.le_refl _) (z_dec T_X11_has_ok 22 (39, .ireturn, 1) rfl) ⟨rfl, _, rfl, h⟩
        · replace h := z_pos hc h
          refine zx_bipush (pc := 28) (v := -2) G (z_dec T_X11_has_ok 16 (28, .bipush (-2), 2) rfl) rfl ?_
          exact zx_iret (pc := 30) G hr hlk (Nat.le_refl _) (Nat.le_refl _) (z_dec T_X11_has_ok 17 (30, .ireturn, 1) rfl) ⟨rfl, _, rfl, h⟩
      · replace h := z_neg hc h
        refine zx_iconst (pc := 19) (v := -1) G (z_dec T_X11_has_ok 11 (19, .iconst (-1), 1) rfl) rfl ?_
        exact zx_iret (pc := 20) G hr hlk (Nat.le_refl _) (Nat.le_refl _) (z_dec T_X11_has_ok 12 (20, .ireturn, 1) rfl) ⟨rfl, _, rfl, h⟩
abbrev rm_X11_deduction : Room := { frames := 4, cells := 0, slots := 0, locals := 91 }
set_option maxRecDepth 100000 in
set_option maxHeartbeats 4000000 in
theorem met_X11_deduction (l : Launch) (D : va_G) (ρ : z_A) (kd : z_K) (q : z_Q) (μ : z_M) (sz : Nat) (a1 : Int32) (K : Int32 → z_M → Prop) (hI : z_I kd q) (h_o : kd 0 = some (.inl 11)) (h : C_X11_deduction kd q a1 μ K) : Met l yX11_deduction (z_ws yX11_deduction cX11_deduction 3 (Option.some Jvm.ClassFile.FieldType.int)) rm_X11_deduction (z_Pc D ρ kd q μ sz [.ref (0), .int (a1)]) (z_Qn D (z_Rg ρ sz) ρ kd (z_Ki q K)) 0 0 (z_Rg ρ sz) := by
  refine z_met (rm := rm_X11_deduction) (by decide) (Nat.le_of_ble_eq_true rfl) (fun p e s m args below meth c G hr hlk => ?_)
  unfold C_X11_deduction at h
  show z_X _ _ _ _ _ _ _ _ _ _ _ _ _ _ _ _ _ _ _ _ _ [(0, .ref (0)), (1, .int (a1))] _
  refine zx_aload_n (pc := 0) G (some (0)) 0 rfl rfl (z_dec T_X11_deduction_ok 0 (0, .aload_n 0, 1) rfl) ?_
  refine zx_iload_n (pc := 1) G 1 rfl rfl (z_dec T_X11_deduction_ok 1 (1, .iload_n 1, 1) rfl) ?_
  refine zx_callV_rN (pc := 2) (rm := rm_X11_betAt) G cw_RX11_219 ⟨Nat.le_of_ble_eq_true rfl, Nat.le_of_ble_eq_true rfl⟩ rfl rfl ⟨Nat.zero_le _, Nat.zero_le _⟩ h_o rfl (fun sz => (met_X11_betAt l D ρ kd q μ sz a1 _ hI h_o h)) rfl rfl (Nat.le_of_ble_eq_true rfl) (z_dec T_X11_deduction_ok 2 (2, .invokevirtual 219, 3) rfl) (fun r2 μ1 hfr2 hn => ?_)
  clear h
  have h := hn
  clear hn
  refine zx_astore_n (pc := 5) (lv' := [(2, va_rf (r2)), (0, .ref (0)), (1, .int (a1))]) G (r2) rfl (Nat.le_of_ble_eq_true rfl) rfl (z_dec T_X11_deduction_ok 3 (5, .astore_n 2, 1) rfl) ?_
  refine zx_aload_n (pc := 6) G (r2) 0 rfl rfl (z_dec T_X11_deduction_ok 4 (6, .aload_n 2, 1) rfl) ?_
  obtain ⟨h1, h2⟩ := h
  rcases r2 with _ | o3
  · replace h := h1 rfl
    refine zx_ifnullN (pc := 7) (tgt := 18) G rfl (z_dec T_X11_deduction_ok 5 (7, .ifnull 11, 3) rfl) ?_
    refine zx_iconst (pc := 18) (v := -1) G (z_dec T_X11_deduction_ok 10 (18, .iconst (-1), 1) rfl) rfl ?_
    exact zx_iret (pc := 19) G hr hlk (Nat.le_refl _) (Nat.le_refl _) (z_dec T_X11_deduction_ok 11 (19, .ireturn, 1) rfl) ⟨rfl, _, rfl, h⟩
  · replace h := h2 o3 rfl
    refine zx_ifnullS (pc := 7) G (hfr2 o3 rfl) (z_dec T_X11_deduction_ok 5 (7, .ifnull 11, 3) rfl) ?_
    refine zx_aload_n (pc := 10) G (some (o3)) 0 rfl rfl (z_dec T_X11_deduction_ok 6 (10, .aload_n 2, 1) rfl) ?_
    refine zx_getI (pc := 11) G gf_RX11_268 rfl (hfr2 o3 rfl) (z_dec T_X11_deduction_ok 7 (11, .getfield 268, 3) rfl) ?_
    refine zx_iconst (pc := 14) (v := 3) G (z_dec T_X11_deduction_ok 8 (14, .iconst 3, 1) rfl) rfl ?_
    refine zx_icmp_ne (pc := 15) (tgt := 20) G rfl (z_dec T_X11_deduction_ok 9 (15, .if_icmp .ne 5, 3) rfl) (fun hc => ?_) (fun hc => ?_)
    · replace h := z_neg hc h
      refine zx_aload_n (pc := 20) G (some (0)) 1 rfl rfl (z_dec T_X11_deduction_ok 12 (20, .aload_n 0, 1) rfl) ?_
      refine zx_iload_n (pc := 21) G 2 rfl rfl (z_dec T_X11_deduction_ok 13 (21, .iload_n 1, 1) rfl) ?_
      refine zx_aload_n (pc := 22) G (some (o3)) 0 rfl rfl (z_dec T_X11_deduction_ok 14 (22, .aload_n 2, 1) rfl) ?_
      refine zx_callV_iN (pc := 23) (rm := rm_X11_deductionFrom) G cw_RX11_271 ⟨Nat.le_of_ble_eq_true rfl, Nat.le_of_ble_eq_true rfl⟩ rfl rfl ⟨Nat.zero_le _, Nat.zero_le _⟩ h_o rfl (fun sz => (met_X11_deductionFrom l D ρ kd q μ1 sz a1 (some o3) _ hI h_o (fun a ha => by cases ha; exact (hfr2 o3 rfl)) h)) rfl rfl (Nat.le_of_ble_eq_true rfl) (z_dec T_X11_deduction_ok 15 (23, .invokevirtual 271, 3) rfl) (fun r5 μ4 hn => ?_)
      clear h
      have h := hn
      clear hn
      exact zx_iret (pc := 26) G hr hlk (Nat.le_refl _) (Nat.le_refl _) (z_dec T_X11_deduction_ok 16 (26, .ireturn, 1) rfl) ⟨rfl, _, rfl, h⟩
    · replace h := z_pos hc h
      refine zx_iconst (pc := 18) (v := -1) G (z_dec T_X11_deduction_ok 10 (18, .iconst (-1), 1) rfl) rfl ?_
      exact zx_iret (pc := 19) G hr hlk (Nat.le_refl _) (Nat.le_refl _) (z_dec T_X11_deduction_ok 11 (19, .ireturn, 1) rfl) ⟨rfl, _, rfl, h⟩
abbrev rm_X11_bookIs : Room := { frames := 1, cells := 0, slots := 0, locals := 21 }
set_option maxRecDepth 100000 in
set_option maxHeartbeats 4000000 in
theorem met_X11_bookIs (l : Launch) (D : va_G) (ρ : z_A) (kd : z_K) (q : z_Q) (μ : z_M) (sz : Nat) (a1 : Int32) (a2 : Int32) (K : Int32 → z_M → Prop) (hI : z_I kd q) (h_o : kd 0 = some (.inl 11)) (h : C_X11_bookIs kd q a1 a2 μ K) : Met l yX11_bookIs (z_ws yX11_bookIs cX11_bookIs 4 (Option.some Jvm.ClassFile.FieldType.int)) rm_X11_bookIs (z_Pc D ρ kd q μ sz [.ref (0), .int (a1), .int (a2)]) (z_Qn D (z_Rg ρ sz) ρ kd (z_Ki q K)) 0 0 (z_Rg ρ sz) := by
  refine z_met (rm := rm_X11_bookIs) (by decide) (Nat.le_of_ble_eq_true rfl) (fun p e s m args below meth c G hr hlk => ?_)
  unfold C_X11_bookIs at h
  show z_X _ _ _ _ _ _ _ _ _ _ _ _ _ _ _ _ _ _ _ _ _ [(0, .ref (0)), (1, .int (a1)), (2, .int (a2))] _
  refine zx_aload_n (pc := 0) G (some (0)) 0 rfl rfl (z_dec T_X11_bookIs_ok 0 (0, .aload_n 0, 1) rfl) ?_
  refine zx_iload_n (pc := 1) G 1 rfl rfl (z_dec T_X11_bookIs_ok 1 (1, .iload_n 1, 1) rfl) ?_
  refine zx_callV_rN (pc := 2) (rm := rm_X11_bookAt) G cw_RX11_141 ⟨Nat.le_of_ble_eq_true rfl, Nat.le_of_ble_eq_true rfl⟩ rfl rfl ⟨Nat.zero_le _, Nat.zero_le _⟩ h_o rfl (fun sz => (met_X11_bookAt l D ρ kd q μ sz a1 _ hI h_o h)) rfl rfl (Nat.le_of_ble_eq_true rfl) (z_dec T_X11_bookIs_ok 2 (2, .invokevirtual 141, 3) rfl) (fun r2 μ1 hfr2 hn => ?_)
  clear h
  have h := hn
  clear hn
  refine zx_astore_n (pc := 5) (lv' := [(3, va_rf (r2)), (0, .ref (0)), (1, .int (a1)), (2, .int (a2))]) G (r2) rfl (Nat.le_of_ble_eq_true rfl) rfl (z_dec T_X11_bookIs_ok 3 (5, .astore_n 3, 1) rfl) ?_
  refine zx_aload_n (pc := 6) G (r2) 0 rfl rfl (z_dec T_X11_bookIs_ok 4 (6, .aload_n 3, 1) rfl) ?_
  obtain ⟨h1, h2⟩ := h
  rcases r2 with _ | o3
  · replace h := h1 rfl
    refine zx_ifnonnullN (pc := 7) G  (z_dec T_X11_bookIs_ok 5 (7, .ifnonnull 5, 3) rfl) ?_
    refine zx_iconst (pc := 10) (v := -1) G (z_dec T_X11_bookIs_ok 6 (10, .iconst (-1), 1) rfl) rfl ?_
    exact zx_iret (pc := 11) G hr hlk (Nat.le_refl _) (Nat.le_refl _) (z_dec T_X11_bookIs_ok 7 (11, .ireturn, 1) rfl) ⟨rfl, _, rfl, h⟩
  · replace h := h2 o3 rfl
    refine zx_ifnonnullS (pc := 7) (tgt := 12) G (hfr2 o3 rfl) rfl (z_dec T_X11_bookIs_ok 5 (7, .ifnonnull 5, 3) rfl) ?_
    refine zx_iload_n (pc := 12) G 3 rfl rfl (z_dec T_X11_bookIs_ok 8 (12, .iload_n 2, 1) rfl) ?_
    by_cases n4 : a2 = 0
    · replace h := z_pos n4 h
      refine zx_tableIn (pc := 13) (tgt := 40) (off := 27) G (by rw [n4]; decide) (by rw [n4]; decide) (by rw [n4]; rfl) rfl (z_dec T_X11_bookIs_ok 9 (13, .tableswitch 50 0 2 #[27, 32, 45], 27) rfl) ?_
      refine zx_aload_n (pc := 40) G (some (o3)) 0 rfl rfl (z_dec T_X11_bookIs_ok 10 (40, .aload_n 3, 1) rfl) ?_
      refine zx_getI (pc := 41) G gf_RX11_275 rfl (hfr2 o3 rfl) (z_dec T_X11_bookIs_ok 11 (41, .getfield 275, 3) rfl) ?_
      exact zx_iret (pc := 44) G hr hlk (Nat.le_refl _) (Nat.le_refl _) (z_dec T_X11_bookIs_ok 12 (44, .ireturn, 1) rfl) ⟨rfl, _, rfl, h⟩
    replace h := z_neg n4 h
    by_cases n5 : a2 = 1
    · replace h := z_pos n5 h
      refine zx_tableIn (pc := 13) (tgt := 45) (off := 32) G (by rw [n5]; decide) (by rw [n5]; decide) (by rw [n5]; rfl) rfl (z_dec T_X11_bookIs_ok 9 (13, .tableswitch 50 0 2 #[27, 32, 45], 27) rfl) ?_
      refine zx_aload_n (pc := 45) G (some (o3)) 0 rfl rfl (z_dec T_X11_bookIs_ok 13 (45, .aload_n 3, 1) rfl) ?_
      refine zx_getZ (pc := 46) G gf_RX11_278 rfl (hfr2 o3 rfl) (z_dec T_X11_bookIs_ok 14 (46, .getfield 278, 3) rfl) ?_
      refine zx_if_eq (pc := 49) (tgt := 56) G rfl (z_dec T_X11_bookIs_ok 15 (49, .ifCond .eq 7, 3) rfl) (fun hc => ?_) (fun hc => ?_)
      · replace h := z_pos hc h
        refine zx_iconst (pc := 56) (v := 0) G (z_dec T_X11_bookIs_ok 18 (56, .iconst 0, 1) rfl) rfl ?_
        exact zx_iret (pc := 57) G hr hlk (Nat.le_refl _) (Nat.le_refl _) (z_dec T_X11_bookIs_ok 19 (57, .ireturn, 1) rfl) ⟨rfl, _, rfl, h⟩
      · replace h := z_neg hc h
        refine zx_iconst (pc := 52) (v := 1) G (z_dec T_X11_bookIs_ok 16 (52, .iconst 1, 1) rfl) rfl ?_
        refine zx_goto (pc := 53) (tgt := 57) G rfl (z_dec T_X11_bookIs_ok 17 (53, .goto 4, 3) rfl) ?_
        exact zx_iret (pc := 57) G hr hlk (Nat.le_refl _) (Nat.le_refl _) (z_dec T_X11_bookIs_ok 19 (57, .ireturn, 1) rfl) ⟨rfl, _, rfl, h⟩
    replace h := z_neg n5 h
    by_cases n6 : a2 = 2
    · replace h := z_pos n6 h
      refine zx_tableIn (pc := 13) (tgt := 58) (off := 45) G (by rw [n6]; decide) (by rw [n6]; decide) (by rw [n6]; rfl) rfl (z_dec T_X11_bookIs_ok 9 (13, .tableswitch 50 0 2 #[27, 32, 45], 27) rfl) ?_
      refine zx_aload_n (pc := 58) G (some (o3)) 0 rfl rfl (z_dec T_X11_bookIs_ok 20 (58, .aload_n 3, 1) rfl) ?_
      refine zx_getI (pc := 59) G gf_RX11_281 rfl (hfr2 o3 rfl) (z_dec T_X11_bookIs_ok 21 (59, .getfield 281, 3) rfl) ?_
      exact zx_iret (pc := 62) G hr hlk (Nat.le_refl _) (Nat.le_refl _) (z_dec T_X11_bookIs_ok 22 (62, .ireturn, 1) rfl) ⟨rfl, _, rfl, h⟩
    replace h := z_neg n6 h
    -- default
    by_cases hr1 : a2.toInt < 0 ∨ 2 < a2.toInt
    · refine zx_tableOut (pc := 13) (tgt := 63) G hr1 rfl (z_dec T_X11_bookIs_ok 9 (13, .tableswitch 50 0 2 #[27, 32, 45], 27) rfl) ?_
      refine zx_iconst (pc := 63) (v := -1) G (z_dec T_X11_bookIs_ok 23 (63, .iconst (-1), 1) rfl) rfl ?_
      exact zx_iret (pc := 64) G hr hlk (Nat.le_refl _) (Nat.le_refl _) (z_dec T_X11_bookIs_ok 24 (64, .ireturn, 1) rfl) ⟨rfl, _, rfl, h⟩
    · exfalso
      have t1 : ¬ a2.toInt < 0 := fun q => hr1 (Or.inl q)
      have t2 : ¬ 2 < a2.toInt := fun q => hr1 (Or.inr q)
      have u0 : ¬ a2.toInt = 0 := lv_neT n4 rfl
      have u1 : ¬ a2.toInt = 1 := lv_neT n5 rfl
      have u2 : ¬ a2.toInt = 2 := lv_neT n6 rfl
      omega
abbrev rm_X11_sure : Room := { frames := 4, cells := 0, slots := 0, locals := 87 }
set_option maxRecDepth 100000 in
set_option maxHeartbeats 4000000 in
theorem met_X11_sure (l : Launch) (D : va_G) (ρ : z_A) (kd : z_K) (q : z_Q) (μ : z_M) (sz : Nat) (a1 : Int32) (K : Int32 → z_M → Prop) (hI : z_I kd q) (h_o : kd 0 = some (.inl 11)) (h : C_X11_sure kd q a1 μ K) : Met l yX11_sure (z_ws yX11_sure cX11_sure 2 (Option.some Jvm.ClassFile.FieldType.int)) rm_X11_sure (z_Pc D ρ kd q μ sz [.ref (0), .int (a1)]) (z_Qn D (z_Rg ρ sz) ρ kd (z_Ki q K)) 0 0 (z_Rg ρ sz) := by
  refine z_met (rm := rm_X11_sure) (by decide) (Nat.le_of_ble_eq_true rfl) (fun p e s m args below meth c G hr hlk => ?_)
  unfold C_X11_sure at h
  show z_X _ _ _ _ _ _ _ _ _ _ _ _ _ _ _ _ _ _ _ _ _ [(0, .ref (0)), (1, .int (a1))] _
  refine zx_aload_n (pc := 0) G (some (0)) 0 rfl rfl (z_dec T_X11_sure_ok 0 (0, .aload_n 0, 1) rfl) ?_
  refine zx_iload_n (pc := 1) G 1 rfl rfl (z_dec T_X11_sure_ok 1 (1, .iload_n 1, 1) rfl) ?_
  refine zx_callV_rN (pc := 2) (rm := rm_X11_raceAt) G cw_RX11_98 ⟨Nat.le_of_ble_eq_true rfl, Nat.le_of_ble_eq_true rfl⟩ rfl rfl ⟨Nat.zero_le _, Nat.zero_le _⟩ h_o rfl (fun sz => (met_X11_raceAt l D ρ kd q μ sz a1 _ hI h_o h)) rfl rfl (Nat.le_of_ble_eq_true rfl) (z_dec T_X11_sure_ok 2 (2, .invokevirtual 98, 3) rfl) (fun r2 μ1 hfr2 hn => ?_)
  clear h
  have h := hn
  clear hn
  obtain ⟨h1, h2⟩ := h
  rcases r2 with _ | o3
  · replace h := h1 rfl
    refine zx_ifnonnullN (pc := 5) G  (z_dec T_X11_sure_ok 3 (5, .ifnonnull 5, 3) rfl) ?_
    refine zx_iconst (pc := 8) (v := -1) G (z_dec T_X11_sure_ok 4 (8, .iconst (-1), 1) rfl) rfl ?_
    exact zx_iret (pc := 9) G hr hlk (Nat.le_refl _) (Nat.le_refl _) (z_dec T_X11_sure_ok 5 (9, .ireturn, 1) rfl) ⟨rfl, _, rfl, h⟩
  · replace h := h2 o3 rfl
    refine zx_ifnonnullS (pc := 5) (tgt := 10) G (hfr2 o3 rfl) rfl (z_dec T_X11_sure_ok 3 (5, .ifnonnull 5, 3) rfl) ?_
    refine zx_aload_n (pc := 10) G (some (0)) 0 rfl rfl (z_dec T_X11_sure_ok 6 (10, .aload_n 0, 1) rfl) ?_
    refine zx_iload_n (pc := 11) G 1 rfl rfl (z_dec T_X11_sure_ok 7 (11, .iload_n 1, 1) rfl) ?_
    refine zx_callV_zN (pc := 12) (rm := rm_X11_isSureNow) G cw_RX11_102 ⟨Nat.le_of_ble_eq_true rfl, Nat.le_of_ble_eq_true rfl⟩ rfl rfl ⟨Nat.zero_le _, Nat.zero_le _⟩ h_o rfl (fun sz => (met_X11_isSureNow l D ρ kd q μ1 sz a1 _ hI h_o h)) rfl rfl (Nat.le_of_ble_eq_true rfl) (z_dec T_X11_sure_ok 8 (12, .invokevirtual 102, 3) rfl) (fun r5 μ4 hzr5 hn => ?_)
    clear h
    have h := hn
    clear hn
    refine zx_if_eq (pc := 15) (tgt := 22) G rfl (z_dec T_X11_sure_ok 9 (15, .ifCond .eq 7, 3) rfl) (fun hc => ?_) (fun hc => ?_)
    · replace h := z_pos hc h
      refine zx_iconst (pc := 22) (v := 0) G (z_dec T_X11_sure_ok 12 (22, .iconst 0, 1) rfl) rfl ?_
      exact zx_iret (pc := 23) G hr hlk (Nat.le_refl _) (Nat.le_refl _) (z_dec T_X11_sure_ok 13 (23, .ireturn, 1) rfl) ⟨rfl, _, rfl, h⟩
    · replace h := z_neg hc h
      refine zx_iconst (pc := 18) (v := 1) G (z_dec T_X11_sure_ok 10 (18, .iconst 1, 1) rfl) rfl ?_
      refine zx_goto (pc := 19) (tgt := 23) G rfl (z_dec T_X11_sure_ok 11 (19, .goto 4, 3) rfl) ?_
      exact zx_iret (pc := 23) G hr hlk (Nat.le_refl _) (Nat.le_refl _) (z_dec T_X11_sure_ok 13 (23, .ireturn, 1) rfl) ⟨rfl, _, rfl, h⟩
abbrev rm_X11_stood : Room := { frames := 1, cells := 0, slots := 0, locals := 21 }
set_option maxRecDepth 100000 in
set_option maxHeartbeats 4000000 in
theorem met_X11_stood (l : Launch) (D : va_G) (ρ : z_A) (kd : z_K) (q : z_Q) (μ : z_M) (sz : Nat) (a1 : Int32) (a2 : Int32) (K : Int32 → z_M → Prop) (hI : z_I kd q) (h_o : kd 0 = some (.inl 11)) (h : C_X11_stood kd q a1 a2 μ K) : Met l yX11_stood (z_ws yX11_stood cX11_stood 4 (Option.some Jvm.ClassFile.FieldType.int)) rm_X11_stood (z_Pc D ρ kd q μ sz [.ref (0), .int (a1), .int (a2)]) (z_Qn D (z_Rg ρ sz) ρ kd (z_Ki q K)) 0 0 (z_Rg ρ sz) := by
  refine z_met (rm := rm_X11_stood) (by decide) (Nat.le_of_ble_eq_true rfl) (fun p e s m args below meth c G hr hlk => ?_)
  unfold C_X11_stood at h
  show z_X _ _ _ _ _ _ _ _ _ _ _ _ _ _ _ _ _ _ _ _ _ [(0, .ref (0)), (1, .int (a1)), (2, .int (a2))] _
  refine zx_aload_n (pc := 0) G (some (0)) 0 rfl rfl (z_dec T_X11_stood_ok 0 (0, .aload_n 0, 1) rfl) ?_
  refine zx_iload_n (pc := 1) G 1 rfl rfl (z_dec T_X11_stood_ok 1 (1, .iload_n 1, 1) rfl) ?_
  refine zx_callV_rN (pc := 2) (rm := rm_X11_raceAt) G cw_RX11_98 ⟨Nat.le_of_ble_eq_true rfl, Nat.le_of_ble_eq_true rfl⟩ rfl rfl ⟨Nat.zero_le _, Nat.zero_le _⟩ h_o rfl (fun sz => (met_X11_raceAt l D ρ kd q μ sz a1 _ hI h_o h)) rfl rfl (Nat.le_of_ble_eq_true rfl) (z_dec T_X11_stood_ok 2 (2, .invokevirtual 98, 3) rfl) (fun r2 μ1 hfr2 hn => ?_)
  clear h
  have h := hn
  clear hn
  refine zx_astore_n (pc := 5) (lv' := [(3, va_rf (r2)), (0, .ref (0)), (1, .int (a1)), (2, .int (a2))]) G (r2) rfl (Nat.le_of_ble_eq_true rfl) rfl (z_dec T_X11_stood_ok 3 (5, .astore_n 3, 1) rfl) ?_
  refine zx_aload_n (pc := 6) G (r2) 0 rfl rfl (z_dec T_X11_stood_ok 4 (6, .aload_n 3, 1) rfl) ?_
  obtain ⟨h1, h2⟩ := h
  rcases r2 with _ | o3
  · replace h := h1 rfl
    refine zx_ifnonnullN (pc := 7) G  (z_dec T_X11_stood_ok 5 (7, .ifnonnull 5, 3) rfl) ?_
    refine zx_iconst (pc := 10) (v := -1) G (z_dec T_X11_stood_ok 6 (10, .iconst (-1), 1) rfl) rfl ?_
    exact zx_iret (pc := 11) G hr hlk (Nat.le_refl _) (Nat.le_refl _) (z_dec T_X11_stood_ok 7 (11, .ireturn, 1) rfl) ⟨rfl, _, rfl, h⟩
  · replace h := h2 o3 rfl
    refine zx_ifnonnullS (pc := 7) (tgt := 12) G (hfr2 o3 rfl) rfl (z_dec T_X11_stood_ok 5 (7, .ifnonnull 5, 3) rfl) ?_
    refine zx_iload_n (pc := 12) G 3 rfl rfl (z_dec T_X11_stood_ok 8 (12, .iload_n 2, 1) rfl) ?_
    by_cases n4 : a2 = 0
    · replace h := z_pos n4 h
      refine zx_tableIn (pc := 13) (tgt := 44) (off := 31) G (by rw [n4]; decide) (by rw [n4]; decide) (by rw [n4]; rfl) rfl (z_dec T_X11_stood_ok 9 (13, .tableswitch 51 0 3 #[31, 36, 41, 46], 31) rfl) ?_
      refine zx_aload_n (pc := 44) G (some (o3)) 0 rfl rfl (z_dec T_X11_stood_ok 10 (44, .aload_n 3, 1) rfl) ?_
      refine zx_getI (pc := 45) G gf_RX11_282 rfl (hfr2 o3 rfl) (z_dec T_X11_stood_ok 11 (45, .getfield 282, 3) rfl) ?_
      exact zx_iret (pc := 48) G hr hlk (Nat.le_refl _) (Nat.le_refl _) (z_dec T_X11_stood_ok 12 (48, .ireturn, 1) rfl) ⟨rfl, _, rfl, h⟩
    replace h := z_neg n4 h
    by_cases n5 : a2 = 1
    · replace h := z_pos n5 h
      refine zx_tableIn (pc := 13) (tgt := 49) (off := 36) G (by rw [n5]; decide) (by rw [n5]; decide) (by rw [n5]; rfl) rfl (z_dec T_X11_stood_ok 9 (13, .tableswitch 51 0 3 #[31, 36, 41, 46], 31) rfl) ?_
      refine zx_aload_n (pc := 49) G (some (o3)) 0 rfl rfl (z_dec T_X11_stood_ok 13 (49, .aload_n 3, 1) rfl) ?_
      refine zx_getI (pc := 50) G gf_RX11_285 rfl (hfr2 o3 rfl) (z_dec T_X11_stood_ok 14 (50, .getfield 285, 3) rfl) ?_
      exact zx_iret (pc := 53) G hr hlk (Nat.le_refl _) (Nat.le_refl _) (z_dec T_X11_stood_ok 15 (53, .ireturn, 1) rfl) ⟨rfl, _, rfl, h⟩
    replace h := z_neg n5 h
    by_cases n6 : a2 = 2
    · replace h := z_pos n6 h
      refine zx_tableIn (pc := 13) (tgt := 54) (off := 41) G (by rw [n6]; decide) (by rw [n6]; decide) (by rw [n6]; rfl) rfl (z_dec T_X11_stood_ok 9 (13, .tableswitch 51 0 3 #[31, 36, 41, 46], 31) rfl) ?_
      refine zx_aload_n (pc := 54) G (some (o3)) 0 rfl rfl (z_dec T_X11_stood_ok 16 (54, .aload_n 3, 1) rfl) ?_
      refine zx_getI (pc := 55) G gf_RX11_288 rfl (hfr2 o3 rfl) (z_dec T_X11_stood_ok 17 (55, .getfield 288, 3) rfl) ?_
      exact zx_iret (pc := 58) G hr hlk (Nat.le_refl _) (Nat.le_refl _) (z_dec T_X11_stood_ok 18 (58, .ireturn, 1) rfl) ⟨rfl, _, rfl, h⟩
    replace h := z_neg n6 h
    by_cases n7 : a2 = 3
    · replace h := z_pos n7 h
      refine zx_tableIn (pc := 13) (tgt := 59) (off := 46) G (by rw [n7]; decide) (by rw [n7]; decide) (by rw [n7]; rfl) rfl (z_dec T_X11_stood_ok 9 (13, .tableswitch 51 0 3 #[31, 36, 41, 46], 31) rfl) ?_
      refine zx_aload_n (pc := 59) G (some (o3)) 0 rfl rfl (z_dec T_X11_stood_ok 19 (59, .aload_n 3, 1) rfl) ?_
      refine zx_getI (pc := 60) G gf_RX11_291 rfl (hfr2 o3 rfl) (z_dec T_X11_stood_ok 20 (60, .getfield 291, 3) rfl) ?_
      exact zx_iret (pc := 63) G hr hlk (Nat.le_refl _) (Nat.le_refl _) (z_dec T_X11_stood_ok 21 (63, .ireturn, 1) rfl) ⟨rfl, _, rfl, h⟩
    replace h := z_neg n7 h
    -- default
    by_cases hr1 : a2.toInt < 0 ∨ 3 < a2.toInt
    · refine zx_tableOut (pc := 13) (tgt := 64) G hr1 rfl (z_dec T_X11_stood_ok 9 (13, .tableswitch 51 0 3 #[31, 36, 41, 46], 31) rfl) ?_
      refine zx_iconst (pc := 64) (v := -1) G (z_dec T_X11_stood_ok 22 (64, .iconst (-1), 1) rfl) rfl ?_
      exact zx_iret (pc := 65) G hr hlk (Nat.le_refl _) (Nat.le_refl _) (z_dec T_X11_stood_ok 23 (65, .ireturn, 1) rfl) ⟨rfl, _, rfl, h⟩
    · exfalso
      have t1 : ¬ a2.toInt < 0 := fun q => hr1 (Or.inl q)
      have t2 : ¬ 3 < a2.toInt := fun q => hr1 (Or.inr q)
      have u0 : ¬ a2.toInt = 0 := lv_neT n4 rfl
      have u1 : ¬ a2.toInt = 1 := lv_neT n5 rfl
      have u2 : ¬ a2.toInt = 2 := lv_neT n6 rfl
      have u3 : ¬ a2.toInt = 3 := lv_neT n7 rfl
      omega
abbrev rm_X11_most : Room := { frames := 4, cells := 0, slots := 0, locals := 87 }
set_option maxRecDepth 100000 in
set_option maxHeartbeats 4000000 in
theorem B_X11_most_70_ok {p : Program} {l : Launch} {e : Env} {s : State} {m : MethodId} {args : Array Value} {below : List Frame} {meth : Method} {c : Code} {D : va_G} {A : Nat → Prop} {ρ : z_A} {kd : z_K} {q : z_Q} {μ : z_M} {K : Int32 → z_M → Prop} {P70 : Int32 → Int32 → Int32 → Nat → Int32 → z_M → Prop} {v1 : Int32} {v2 : Int32} {v3 : Int32} {v4 : Nat} {v5 : Int32} (G : z_G p c cX11_most s m args RX11 7 D) (hr : meth.sig.returnType = (Option.some Jvm.ClassFile.FieldType.int)) (hlk : meth.locks = false) (hP70 : ∀ (v1 : Int32) (v2 : Int32) (v3 : Int32) (v4 : Nat) (v5 : Int32) (μ : z_M), P70 v1 v2 v3 v4 v5 μ → (kd 0 = some (.inl 11)) → (kd v4 = some (.inl 6)) → z_X p l e rm_X11_most s m args below meth c 7 D A (MQ below (z_Qn D A ρ kd (z_Ki q K)) args s 0 0 A) 0 0 ρ kd q μ 70 [(0, .ref (0)), (1, .int (v1)), (2, .int (v2)), (3, .int (v3)), (4, .ref (v4)), (5, .int (v5))] []) (hI : z_I kd q) (f_l0 : kd 0 = some (.inl 11)) (f_l4 : kd v4 = some (.inl 6)) (h : B_X11_most_70 kd q K P70 v1 v2 v3 v4 v5 μ) : z_X p l e rm_X11_most s m args below meth c 7 D A (MQ below (z_Qn D A ρ kd (z_Ki q K)) args s 0 0 A) 0 0 ρ kd q μ 70 [(0, .ref (0)), (1, .int (v1)), (2, .int (v2)), (3, .int (v3)), (4, .ref (v4)), (5, .int (v5))] [] := by
    unfold B_X11_most_70 at h
    refine zx_iload (pc := 70) G 5 rfl (z_dec T_X11_most_ok 37 (70, .iload 5, 2) rfl) ?_
    refine zx_aload (pc := 72) G (some (v4)) 4 rfl (z_dec T_X11_most_ok 38 (72, .aload 4, 2) rfl) ?_
    refine zx_getI (pc := 74) G gf_RX11_297 rfl f_l4 (z_dec T_X11_most_ok 39 (74, .getfield 297, 3) rfl) ?_
    refine zx_icmp_ge (pc := 77) (tgt := 130) G rfl (z_dec T_X11_most_ok 40 (77, .if_icmp .ge 53, 3) rfl) (fun hc => ?_) (fun hc => ?_)
    · replace h := z_pos hc h
      refine zx_aload_n (pc := 130) G (some (0)) 0 rfl rfl (z_dec T_X11_most_ok 63 (130, .aload_n 0, 1) rfl) ?_
      refine zx_getF (pc := 131) (b := 12) G gf_RX11_69 rfl f_l0 (zq_11_8 hI f_l0) (z_dec T_X11_most_ok 64 (131, .getfield 69, 3) rfl) ?_
      refine zx_iload_n (pc := 134) G 2 rfl rfl (z_dec T_X11_most_ok 65 (134, .iload_n 2, 1) rfl) ?_
      refine zx_callV_vN (pc := 135) (rm := rm_X2_seek) G cw_RX11_312 ⟨Nat.le_of_ble_eq_true rfl, Nat.le_of_ble_eq_true rfl⟩ rfl rfl ⟨Nat.zero_le _, Nat.zero_le _⟩ (zk_11_8 hI f_l0) rfl (fun sz => (met_X2_seek l D ρ kd q μ sz v2 _ hI (zk_11_8 hI f_l0) h)) rfl rfl (Nat.le_of_ble_eq_true rfl) (z_dec T_X11_most_ok 66 (135, .invokevirtual 312, 3) rfl) (fun μ1 hn => ?_)
      clear h
      have h := hn
      clear hn
      refine zx_iload_n (pc := 138) G 3 rfl rfl (z_dec T_X11_most_ok 67 (138, .iload_n 3, 1) rfl) ?_
      refine zx_iconst (pc := 139) (v := -1) G (z_dec T_X11_most_ok 68 (139, .iconst (-1), 1) rfl) rfl ?_
      refine zx_icmp_ne (pc := 140) (tgt := 151) G rfl (z_dec T_X11_most_ok 69 (140, .if_icmp .ne 11, 3) rfl) (fun hc => ?_) (fun hc => ?_)
      · replace h := z_neg hc h
        refine zx_aload_n (pc := 151) G (some (0)) 0 rfl rfl (z_dec T_X11_most_ok 74 (151, .aload_n 0, 1) rfl) ?_
        refine zx_getF (pc := 152) (b := 12) G gf_RX11_69 rfl f_l0 (zq_11_8 hI f_l0) (z_dec T_X11_most_ok 75 (152, .getfield 69, 3) rfl) ?_
        refine zx_getI (pc := 155) G gf_RX11_315 rfl (zk_11_8 hI f_l0) (z_dec T_X11_most_ok 76 (155, .getfield 315, 3) rfl) ?_
        refine zx_if_eq (pc := 158) (tgt := 170) G rfl (z_dec T_X11_most_ok 77 (158, .ifCond .eq 12, 3) rfl) (fun hc => ?_) (fun hc => ?_)
        · replace h := z_pos hc h
          refine zx_iconst (pc := 170) (v := 0) G (z_dec T_X11_most_ok 82 (170, .iconst 0, 1) rfl) rfl ?_
          exact zx_iret (pc := 171) G hr hlk (Nat.le_refl _) (Nat.le_refl _) (z_dec T_X11_most_ok 83 (171, .ireturn, 1) rfl) ⟨rfl, _, rfl, h⟩
        · replace h := z_neg hc h
          refine zx_aload (pc := 161) G (some (v4)) 4 rfl (z_dec T_X11_most_ok 78 (161, .aload 4, 2) rfl) ?_
          refine zx_iload_n (pc := 163) G 3 rfl rfl (z_dec T_X11_most_ok 79 (163, .iload_n 3, 1) rfl) ?_
          refine zx_callV_zN (pc := 164) (rm := rm_X6_runs) G cw_RX11_156 ⟨Nat.le_of_ble_eq_true rfl, Nat.le_of_ble_eq_true rfl⟩ rfl rfl ⟨Nat.zero_le _, Nat.zero_le _⟩ f_l4 rfl (fun sz => (met_X6_runs l D ρ kd q μ1 sz v4 v3 _ hI f_l4 h)) rfl rfl (Nat.le_of_ble_eq_true rfl) (z_dec T_X11_most_ok 80 (164, .invokevirtual 156, 3) rfl) (fun r3 μ2 hzr3 hn => ?_)
          clear h
          have h := hn
          clear hn
          refine zx_if_ne (pc := 167) (tgt := 172) G rfl (z_dec T_X11_most_ok 81 (167, .ifCond .ne 5, 3) rfl) (fun hc => ?_) (fun hc => ?_)
          · replace h := z_neg hc h
            refine zx_aload_n (pc := 172) G (some (0)) 0 rfl rfl (z_dec T_X11_most_ok 84 (172, .aload_n 0, 1) rfl) ?_
            refine zx_iload_n (pc := 173) G 1 rfl rfl (z_dec T_X11_most_ok 85 (173, .iload_n 1, 1) rfl) ?_
            refine zx_iload_n (pc := 174) G 3 rfl rfl (z_dec T_X11_most_ok 86 (174, .iload_n 3, 1) rfl) ?_
            refine zx_callV_iN (pc := 175) (rm := rm_X11_longest) G cw_RX11_300 ⟨Nat.le_of_ble_eq_true rfl, Nat.le_of_ble_eq_true rfl⟩ rfl rfl ⟨Nat.zero_le _, Nat.zero_le _⟩ f_l0 rfl (fun sz => (met_X11_longest l D ρ kd q μ2 sz v1 v3 _ hI f_l0 h)) rfl rfl (Nat.le_of_ble_eq_true rfl) (z_dec T_X11_most_ok 87 (175, .invokevirtual 300, 3) rfl) (fun r5 μ4 hn => ?_)
            clear h
            have h := hn
            clear hn
            refine zx_istore (pc := 178) (lv' := [(5, .int (r5)), (0, .ref (0)), (1, .int (v1)), (2, .int (v2)), (3, .int (v3)), (4, .ref (v4))]) G (Nat.le_of_ble_eq_true rfl) rfl (z_dec T_X11_most_ok 88 (178, .istore 5, 2) rfl) ?_
            refine zx_aload_n (pc := 180) G (some (0)) 1 rfl rfl (z_dec T_X11_most_ok 89 (180, .aload_n 0, 1) rfl) ?_
            refine zx_getF (pc := 181) (b := 12) G gf_RX11_69 rfl f_l0 (zq_11_8 hI f_l0) (z_dec T_X11_most_ok 90 (181, .getfield 69, 3) rfl) ?_
            refine zx_aload_n (pc := 184) G (some (0)) 1 rfl rfl (z_dec T_X11_most_ok 91 (184, .aload_n 0, 1) rfl) ?_
            refine zx_getF (pc := 185) (b := 3) G gf_RX11_19 rfl f_l0 (zq_11_1 hI f_l0) (z_dec T_X11_most_ok 92 (185, .getfield 19, 3) rfl) ?_
            refine zx_iload (pc := 188) G 0 rfl (z_dec T_X11_most_ok 93 (188, .iload 5, 2) rfl) ?_
            refine zx_callV_iN (pc := 190) (rm := rm_X3_aOf) G cw_RX11_303 ⟨Nat.le_of_ble_eq_true rfl, Nat.le_of_ble_eq_true rfl⟩ rfl rfl ⟨Nat.zero_le _, Nat.zero_le _⟩ (zk_11_1 hI f_l0) rfl (fun sz => (met_X3_aOf l D ρ kd q μ4 sz 3 r5 _ hI (zk_11_1 hI f_l0) h)) rfl rfl (Nat.le_of_ble_eq_true rfl) (z_dec T_X11_most_ok 94 (190, .invokevirtual 303, 3) rfl) (fun r7 μ6 hn => ?_)
            clear h
            have h := hn
            clear hn
            refine zx_aload_n (pc := 193) G (some (0)) 1 rfl rfl (z_dec T_X11_most_ok 95 (193, .aload_n 0, 1) rfl) ?_
            refine zx_getF (pc := 194) (b := 3) G gf_RX11_19 rfl f_l0 (zq_11_1 hI f_l0) (z_dec T_X11_most_ok 96 (194, .getfield 19, 3) rfl) ?_
            refine zx_iload (pc := 197) G 0 rfl (z_dec T_X11_most_ok 97 (197, .iload 5, 2) rfl) ?_
            refine zx_callV_iN (pc := 199) (rm := rm_X3_bOf) G cw_RX11_306 ⟨Nat.le_of_ble_eq_true rfl, Nat.le_of_ble_eq_true rfl⟩ rfl rfl ⟨Nat.zero_le _, Nat.zero_le _⟩ (zk_11_1 hI f_l0) rfl (fun sz => (met_X3_bOf l D ρ kd q μ6 sz 3 r5 _ hI (zk_11_1 hI f_l0) h)) rfl rfl (Nat.le_of_ble_eq_true rfl) (z_dec T_X11_most_ok 98 (199, .invokevirtual 306, 3) rfl) (fun r9 μ8 hn => ?_)
            clear h
            have h := hn
            clear hn
            refine zx_callV_iN (pc := 202) (rm := rm_X2_stakeAt) G cw_RX11_318 ⟨Nat.le_of_ble_eq_true rfl, Nat.le_of_ble_eq_true rfl⟩ rfl rfl ⟨Nat.zero_le _, Nat.zero_le _⟩ (zk_11_8 hI f_l0) rfl (fun sz => (met_X2_stakeAt l D ρ kd q μ8 sz r7 r9 _ hI (zk_11_8 hI f_l0) h)) rfl rfl (Nat.le_of_ble_eq_true rfl) (z_dec T_X11_most_ok 99 (202, .invokevirtual 318, 3) rfl) (fun r11 μ10 hn => ?_)
            clear h
            have h := hn
            clear hn
            exact zx_iret (pc := 205) G hr hlk (Nat.le_refl _) (Nat.le_refl _) (z_dec T_X11_most_ok 100 (205, .ireturn, 1) rfl) ⟨rfl, _, rfl, h⟩
          · replace h := z_pos hc h
            refine zx_iconst (pc := 170) (v := 0) G (z_dec T_X11_most_ok 82 (170, .iconst 0, 1) rfl) rfl ?_
            exact zx_iret (pc := 171) G hr hlk (Nat.le_refl _) (Nat.le_refl _) (z_dec T_X11_most_ok 83 (171, .ireturn, 1) rfl) ⟨rfl, _, rfl, h⟩
      · replace h := z_pos hc h
        refine zx_aload_n (pc := 143) G (some (0)) 0 rfl rfl (z_dec T_X11_most_ok 70 (143, .aload_n 0, 1) rfl) ?_
        refine zx_getF (pc := 144) (b := 12) G gf_RX11_69 rfl f_l0 (zq_11_8 hI f_l0) (z_dec T_X11_most_ok 71 (144, .getfield 69, 3) rfl) ?_
        refine zx_getI (pc := 147) G gf_RX11_315 rfl (zk_11_8 hI f_l0) (z_dec T_X11_most_ok 72 (147, .getfield 315, 3) rfl) ?_
        exact zx_iret (pc := 150) G hr hlk (Nat.le_refl _) (Nat.le_refl _) (z_dec T_X11_most_ok 73 (150, .ireturn, 1) rfl) ⟨rfl, _, rfl, h⟩
    · replace h := z_neg hc h
      refine zx_aload (pc := 80) G (some (v4)) 4 rfl (z_dec T_X11_most_ok 41 (80, .aload 4, 2) rfl) ?_
      refine zx_iload (pc := 82) G 5 rfl (z_dec T_X11_most_ok 42 (82, .iload 5, 2) rfl) ?_
      refine zx_callV_zN (pc := 84) (rm := rm_X6_runs) G cw_RX11_156 ⟨Nat.le_of_ble_eq_true rfl, Nat.le_of_ble_eq_true rfl⟩ rfl rfl ⟨Nat.zero_le _, Nat.zero_le _⟩ f_l4 rfl (fun sz => (met_X6_runs l D ρ kd q μ sz v4 v5 _ hI f_l4 h)) rfl rfl (Nat.le_of_ble_eq_true rfl) (z_dec T_X11_most_ok 43 (84, .invokevirtual 156, 3) rfl) (fun r13 μ12 hzr13 hn => ?_)
      clear h
      have h := hn
      clear hn
      refine zx_if_eq (pc := 87) (tgt := 124) G rfl (z_dec T_X11_most_ok 44 (87, .ifCond .eq 37, 3) rfl) (fun hc => ?_) (fun hc => ?_)
      · replace h := z_pos hc h
        refine zx_iinc (pc := 124) (v := v5 + 1) (lv' := [(5, .int (v5 + 1)), (0, .ref (0)), (1, .int (v1)), (2, .int (v2)), (3, .int (v3)), (4, .ref (v4))]) G 5 rfl (z_inc (by decide)) (Nat.le_of_ble_eq_true rfl) rfl (z_dec T_X11_most_ok 61 (124, .iinc 5 1, 3) rfl) ?_
        refine zx_goto (pc := 127) (tgt := 70) G rfl (z_dec T_X11_most_ok 62 (127, .goto (-57), 3) rfl) ?_
        refine zx_sub (lv' := [(0, .ref (0)), (1, .int (v1)), (2, .int (v2)), (3, .int (v3)), (4, .ref (v4)), (5, .int (v5 + 1))]) [1, 2, 3, 4, 5, 0] rfl ?_
        exact hP70 _ _ _ _ _ _ h f_l0 f_l4
      · replace h := z_neg hc h
        refine zx_aload_n (pc := 90) G (some (0)) 0 rfl rfl (z_dec T_X11_most_ok 45 (90, .aload_n 0, 1) rfl) ?_
        refine zx_iload_n (pc := 91) G 1 rfl rfl (z_dec T_X11_most_ok 46 (91, .iload_n 1, 1) rfl) ?_
        refine zx_iload (pc := 92) G 5 rfl (z_dec T_X11_most_ok 47 (92, .iload 5, 2) rfl) ?_
        refine zx_callV_iN (pc := 94) (rm := rm_X11_longest) G cw_RX11_300 ⟨Nat.le_of_ble_eq_true rfl, Nat.le_of_ble_eq_true rfl⟩ rfl rfl ⟨Nat.zero_le _, Nat.zero_le _⟩ f_l0 rfl (fun sz => (met_X11_longest l D ρ kd q μ12 sz v1 v5 _ hI f_l0 h)) rfl rfl (Nat.le_of_ble_eq_true rfl) (z_dec T_X11_most_ok 48 (94, .invokevirtual 300, 3) rfl) (fun r15 μ14 hn => ?_)
        clear h
        have h := hn
        clear hn
        refine zx_istore (pc := 97) (lv' := [(6, .int (r15)), (0, .ref (0)), (1, .int (v1)), (2, .int (v2)), (3, .int (v3)), (4, .ref (v4)), (5, .int (v5))]) G (Nat.le_of_ble_eq_true rfl) rfl (z_dec T_X11_most_ok 49 (97, .istore 6, 2) rfl) ?_
        refine zx_aload_n (pc := 99) G (some (0)) 1 rfl rfl (z_dec T_X11_most_ok 50 (99, .aload_n 0, 1) rfl) ?_
        refine zx_getF (pc := 100) (b := 12) G gf_RX11_69 rfl f_l0 (zq_11_8 hI f_l0) (z_dec T_X11_most_ok 51 (100, .getfield 69, 3) rfl) ?_
        refine zx_aload_n (pc := 103) G (some (0)) 1 rfl rfl (z_dec T_X11_most_ok 52 (103, .aload_n 0, 1) rfl) ?_
        refine zx_getF (pc := 104) (b := 3) G gf_RX11_19 rfl f_l0 (zq_11_1 hI f_l0) (z_dec T_X11_most_ok 53 (104, .getfield 19, 3) rfl) ?_
        refine zx_iload (pc := 107) G 0 rfl (z_dec T_X11_most_ok 54 (107, .iload 6, 2) rfl) ?_
        refine zx_callV_iN (pc := 109) (rm := rm_X3_aOf) G cw_RX11_303 ⟨Nat.le_of_ble_eq_true rfl, Nat.le_of_ble_eq_true rfl⟩ rfl rfl ⟨Nat.zero_le _, Nat.zero_le _⟩ (zk_11_1 hI f_l0) rfl (fun sz => (met_X3_aOf l D ρ kd q μ14 sz 3 r15 _ hI (zk_11_1 hI f_l0) h)) rfl rfl (Nat.le_of_ble_eq_true rfl) (z_dec T_X11_most_ok 55 (109, .invokevirtual 303, 3) rfl) (fun r17 μ16 hn => ?_)
        clear h
        have h := hn
        clear hn
        refine zx_aload_n (pc := 112) G (some (0)) 1 rfl rfl (z_dec T_X11_most_ok 56 (112, .aload_n 0, 1) rfl) ?_
        refine zx_getF (pc := 113) (b := 3) G gf_RX11_19 rfl f_l0 (zq_11_1 hI f_l0) (z_dec T_X11_most_ok 57 (113, .getfield 19, 3) rfl) ?_
        refine zx_iload (pc := 116) G 0 rfl (z_dec T_X11_most_ok 58 (116, .iload 6, 2) rfl) ?_
        refine zx_callV_iN (pc := 118) (rm := rm_X3_bOf) G cw_RX11_306 ⟨Nat.le_of_ble_eq_true rfl, Nat.le_of_ble_eq_true rfl⟩ rfl rfl ⟨Nat.zero_le _, Nat.zero_le _⟩ (zk_11_1 hI f_l0) rfl (fun sz => (met_X3_bOf l D ρ kd q μ16 sz 3 r15 _ hI (zk_11_1 hI f_l0) h)) rfl rfl (Nat.le_of_ble_eq_true rfl) (z_dec T_X11_most_ok 59 (118, .invokevirtual 306, 3) rfl) (fun r19 μ18 hn => ?_)
        clear h
        have h := hn
        clear hn
        refine zx_callV_vN (pc := 121) (rm := rm_X2_add) G cw_RX11_309 ⟨Nat.le_of_ble_eq_true rfl, Nat.le_of_ble_eq_true rfl⟩ rfl rfl ⟨Nat.zero_le _, Nat.zero_le _⟩ (zk_11_8 hI f_l0) rfl (fun sz => (met_X2_add l D ρ kd q μ18 sz r17 r19 _ hI (zk_11_8 hI f_l0) h)) rfl rfl (Nat.le_of_ble_eq_true rfl) (z_dec T_X11_most_ok 60 (121, .invokevirtual 309, 3) rfl) (fun μ20 hn => ?_)
        clear h
        have h := hn
        clear hn
        refine zx_iinc (pc := 124) (v := v5 + 1) (lv' := [(5, .int (v5 + 1)), (6, .int (r15)), (0, .ref (0)), (1, .int (v1)), (2, .int (v2)), (3, .int (v3)), (4, .ref (v4))]) G 6 rfl (z_inc (by decide)) (Nat.le_of_ble_eq_true rfl) rfl (z_dec T_X11_most_ok 61 (124, .iinc 5 1, 3) rfl) ?_
        refine zx_goto (pc := 127) (tgt := 70) G rfl (z_dec T_X11_most_ok 62 (127, .goto (-57), 3) rfl) ?_
        refine zx_sub (lv' := [(0, .ref (0)), (1, .int (v1)), (2, .int (v2)), (3, .int (v3)), (4, .ref (v4)), (5, .int (v5 + 1))]) [2, 3, 4, 5, 6, 0] rfl ?_
        exact hP70 _ _ _ _ _ _ h f_l0 f_l4
set_option maxRecDepth 100000 in
set_option maxHeartbeats 4000000 in
theorem L_X11_most_70_ok {p : Program} {l : Launch} {e : Env} {s : State} {m : MethodId} {args : Array Value} {below : List Frame} {meth : Method} {c : Code} {D : va_G} {A : Nat → Prop} {ρ : z_A} {kd : z_K} {q : z_Q} {μ : z_M} {K : Int32 → z_M → Prop} {v1 : Int32} {v2 : Int32} {v3 : Int32} {v4 : Nat} {v5 : Int32} (G : z_G p c cX11_most s m args RX11 7 D) (hr : meth.sig.returnType = (Option.some Jvm.ClassFile.FieldType.int)) (hlk : meth.locks = false) (hI : z_I kd q) (f_l0 : kd 0 = some (.inl 11)) (f_l4 : kd v4 = some (.inl 6)) (h : L_X11_most_70 kd q K v1 v2 v3 v4 v5 μ) : z_X p l e rm_X11_most s m args below meth c 7 D A (MQ below (z_Qn D A ρ kd (z_Ki q K)) args s 0 0 A) 0 0 ρ kd q μ 70 [(0, .ref (0)), (1, .int (v1)), (2, .int (v2)), (3, .int (v3)), (4, .ref (v4)), (5, .int (v5))] [] :=
  h (fun (v1 : Int32) (v2 : Int32) (v3 : Int32) (v4 : Nat) (v5 : Int32) (μ : z_M) => (kd 0 = some (.inl 11)) → (kd v4 = some (.inl 6)) → z_X p l e rm_X11_most s m args below meth c 7 D A (MQ below (z_Qn D A ρ kd (z_Ki q K)) args s 0 0 A) 0 0 ρ kd q μ 70 [(0, .ref (0)), (1, .int (v1)), (2, .int (v2)), (3, .int (v3)), (4, .ref (v4)), (5, .int (v5))] []) (fun v1 v2 v3 v4 v5 μ h f_l0 f_l4 => B_X11_most_70_ok G hr hlk (fun _ _ _ _ _ _ h => h) hI f_l0 f_l4 h) f_l0 f_l4
set_option maxRecDepth 100000 in
set_option maxHeartbeats 4000000 in
theorem L_X11_most_50_ok {p : Program} {l : Launch} {e : Env} {s : State} {m : MethodId} {args : Array Value} {below : List Frame} {meth : Method} {c : Code} {D : va_G} {A : Nat → Prop} {ρ : z_A} {kd : z_K} {q : z_Q} {μ : z_M} {K : Int32 → z_M → Prop} {v1 : Int32} {v2 : Int32} {v3 : Int32} {v4 : Nat} (G : z_G p c cX11_most s m args RX11 7 D) (hr : meth.sig.returnType = (Option.some Jvm.ClassFile.FieldType.int)) (hlk : meth.locks = false) (hI : z_I kd q) (f_l0 : kd 0 = some (.inl 11)) (f_l4 : kd v4 = some (.inl 6)) (h : L_X11_most_50 kd q K v1 v2 v3 v4 μ) : z_X p l e rm_X11_most s m args below meth c 7 D A (MQ below (z_Qn D A ρ kd (z_Ki q K)) args s 0 0 A) 0 0 ρ kd q μ 50 [(0, .ref (0)), (1, .int (v1)), (2, .int (v2)), (3, .int (v3)), (4, .ref (v4))] [] := by
    unfold L_X11_most_50 at h
    refine zx_aload_n (pc := 50) G (some (0)) 0 rfl rfl (z_dec T_X11_most_ok 26 (50, .aload_n 0, 1) rfl) ?_
    refine zx_iload_n (pc := 51) G 1 rfl rfl (z_dec T_X11_most_ok 27 (51, .iload_n 1, 1) rfl) ?_
    refine zx_callV_zN (pc := 52) (rm := rm_X11_isSureNow) G cw_RX11_102 ⟨Nat.le_of_ble_eq_true rfl, Nat.le_of_ble_eq_true rfl⟩ rfl rfl ⟨Nat.zero_le _, Nat.zero_le _⟩ f_l0 rfl (fun sz => (met_X11_isSureNow l D ρ kd q μ sz v1 _ hI f_l0 h)) rfl rfl (Nat.le_of_ble_eq_true rfl) (z_dec T_X11_most_ok 28 (52, .invokevirtual 102, 3) rfl) (fun r2 μ1 hzr2 hn => ?_)
    clear h
    have h := hn
    clear hn
    refine zx_if_ne (pc := 55) (tgt := 60) G rfl (z_dec T_X11_most_ok 29 (55, .ifCond .ne 5, 3) rfl) (fun hc => ?_) (fun hc => ?_)
    · replace h := z_neg hc h
      refine zx_aload_n (pc := 60) G (some (0)) 0 rfl rfl (z_dec T_X11_most_ok 32 (60, .aload_n 0, 1) rfl) ?_
      refine zx_getF (pc := 61) (b := 12) G gf_RX11_69 rfl f_l0 (zq_11_8 hI f_l0) (z_dec T_X11_most_ok 33 (61, .getfield 69, 3) rfl) ?_
      refine zx_callV_vN (pc := 64) (rm := rm_X2_clear) G cw_RX11_294 ⟨Nat.le_of_ble_eq_true rfl, Nat.le_of_ble_eq_true rfl⟩ rfl rfl ⟨Nat.zero_le _, Nat.zero_le _⟩ (zk_11_8 hI f_l0) rfl (fun sz => (met_X2_clear l D ρ kd q μ1 sz  _ hI (zk_11_8 hI f_l0) h)) rfl rfl (Nat.le_of_ble_eq_true rfl) (z_dec T_X11_most_ok 34 (64, .invokevirtual 294, 3) rfl) (fun μ3 hn => ?_)
      clear h
      have h := hn
      clear hn
      refine zx_iconst (pc := 67) (v := 0) G (z_dec T_X11_most_ok 35 (67, .iconst 0, 1) rfl) rfl ?_
      refine zx_istore (pc := 68) (lv' := [(5, .int ((0 : Int32))), (0, .ref (0)), (1, .int (v1)), (2, .int (v2)), (3, .int (v3)), (4, .ref (v4))]) G (Nat.le_of_ble_eq_true rfl) rfl (z_dec T_X11_most_ok 36 (68, .istore 5, 2) rfl) ?_
      refine zx_sub (lv' := [(0, .ref (0)), (1, .int (v1)), (2, .int (v2)), (3, .int (v3)), (4, .ref (v4)), (5, .int ((0 : Int32)))]) [1, 2, 3, 4, 5, 0] rfl ?_
      exact L_X11_most_70_ok G hr hlk hI f_l0 f_l4 h
    · replace h := z_pos hc h
      refine zx_iconst (pc := 58) (v := 0) G (z_dec T_X11_most_ok 30 (58, .iconst 0, 1) rfl) rfl ?_
      exact zx_iret (pc := 59) G hr hlk (Nat.le_refl _) (Nat.le_refl _) (z_dec T_X11_most_ok 31 (59, .ireturn, 1) rfl) ⟨rfl, _, rfl, h⟩
set_option maxRecDepth 100000 in
set_option maxHeartbeats 4000000 in
theorem met_X11_most (l : Launch) (D : va_G) (ρ : z_A) (kd : z_K) (q : z_Q) (μ : z_M) (sz : Nat) (a1 : Int32) (a2 : Int32) (a3 : Int32) (K : Int32 → z_M → Prop) (hI : z_I kd q) (h_o : kd 0 = some (.inl 11)) (h : C_X11_most kd q a1 a2 a3 μ K) : Met l yX11_most (z_ws yX11_most cX11_most 7 (Option.some Jvm.ClassFile.FieldType.int)) rm_X11_most (z_Pc D ρ kd q μ sz [.ref (0), .int (a1), .int (a2), .int (a3)]) (z_Qn D (z_Rg ρ sz) ρ kd (z_Ki q K)) 0 0 (z_Rg ρ sz) := by
  refine z_met (rm := rm_X11_most) (by decide) (Nat.le_of_ble_eq_true rfl) (fun p e s m args below meth c G hr hlk => ?_)
  unfold C_X11_most at h
  show z_X _ _ _ _ _ _ _ _ _ _ _ _ _ _ _ _ _ _ _ _ _ [(0, .ref (0)), (1, .int (a1)), (2, .int (a2)), (3, .int (a3))] _
  refine zx_aload_n (pc := 0) G (some (0)) 0 rfl rfl (z_dec T_X11_most_ok 0 (0, .aload_n 0, 1) rfl) ?_
  refine zx_iload_n (pc := 1) G 1 rfl rfl (z_dec T_X11_most_ok 1 (1, .iload_n 1, 1) rfl) ?_
  refine zx_callV_rN (pc := 2) (rm := rm_X11_raceAt) G cw_RX11_98 ⟨Nat.le_of_ble_eq_true rfl, Nat.le_of_ble_eq_true rfl⟩ rfl rfl ⟨Nat.zero_le _, Nat.zero_le _⟩ h_o rfl (fun sz => (met_X11_raceAt l D ρ kd q μ sz a1 _ hI h_o h)) rfl rfl (Nat.le_of_ble_eq_true rfl) (z_dec T_X11_most_ok 2 (2, .invokevirtual 98, 3) rfl) (fun r2 μ1 hfr2 hn => ?_)
  clear h
  have h := hn
  clear hn
  refine zx_astore (pc := 5) (lv' := [(4, va_rf (r2)), (0, .ref (0)), (1, .int (a1)), (2, .int (a2)), (3, .int (a3))]) G (r2) (Nat.le_of_ble_eq_true rfl) rfl (z_dec T_X11_most_ok 3 (5, .astore 4, 2) rfl) ?_
  refine zx_aload (pc := 7) G (r2) 0 rfl (z_dec T_X11_most_ok 4 (7, .aload 4, 2) rfl) ?_
  obtain ⟨h1, h2⟩ := h
  rcases r2 with _ | o3
  · replace h := h1 rfl
    refine zx_ifnullN (pc := 9) (tgt := 32) G rfl (z_dec T_X11_most_ok 5 (9, .ifnull 23, 3) rfl) ?_
    refine zx_iconst (pc := 32) (v := -1) G (z_dec T_X11_most_ok 15 (32, .iconst (-1), 1) rfl) rfl ?_
    exact zx_iret (pc := 33) G hr hlk (Nat.le_refl _) (Nat.le_refl _) (z_dec T_X11_most_ok 16 (33, .ireturn, 1) rfl) ⟨rfl, _, rfl, h⟩
  · replace h := h2 o3 rfl
    refine zx_ifnullS (pc := 9) G (hfr2 o3 rfl) (z_dec T_X11_most_ok 5 (9, .ifnull 23, 3) rfl) ?_
    refine zx_aload (pc := 12) G (some (o3)) 0 rfl (z_dec T_X11_most_ok 6 (12, .aload 4, 2) rfl) ?_
    refine zx_getZ (pc := 14) G gf_RX11_159 rfl (hfr2 o3 rfl) (z_dec T_X11_most_ok 7 (14, .getfield 159, 3) rfl) ?_
    refine zx_if_ne (pc := 17) (tgt := 32) G rfl (z_dec T_X11_most_ok 8 (17, .ifCond .ne 15, 3) rfl) (fun hc => ?_) (fun hc => ?_)
    · replace h := z_neg hc h
      refine zx_iconst (pc := 32) (v := -1) G (z_dec T_X11_most_ok 15 (32, .iconst (-1), 1) rfl) rfl ?_
      exact zx_iret (pc := 33) G hr hlk (Nat.le_refl _) (Nat.le_refl _) (z_dec T_X11_most_ok 16 (33, .ireturn, 1) rfl) ⟨rfl, _, rfl, h⟩
    · replace h := z_pos hc h
      refine zx_iload_n (pc := 20) G 3 rfl rfl (z_dec T_X11_most_ok 9 (20, .iload_n 2, 1) rfl) ?_
      refine zx_iconst (pc := 21) (v := 1) G (z_dec T_X11_most_ok 10 (21, .iconst 1, 1) rfl) rfl ?_
      refine zx_icmp_lt (pc := 22) (tgt := 32) G rfl (z_dec T_X11_most_ok 11 (22, .if_icmp .lt 10, 3) rfl) (fun hc => ?_) (fun hc => ?_)
      · replace h := z_pos hc h
        refine zx_iconst (pc := 32) (v := -1) G (z_dec T_X11_most_ok 15 (32, .iconst (-1), 1) rfl) rfl ?_
        exact zx_iret (pc := 33) G hr hlk (Nat.le_refl _) (Nat.le_refl _) (z_dec T_X11_most_ok 16 (33, .ireturn, 1) rfl) ⟨rfl, _, rfl, h⟩
      · replace h := z_neg hc h
        refine zx_iload_n (pc := 25) G 3 rfl rfl (z_dec T_X11_most_ok 12 (25, .iload_n 2, 1) rfl) ?_
        refine zx_sipush (pc := 26) (v := 3000) G (z_dec T_X11_most_ok 13 (26, .sipush 3000, 3) rfl) rfl ?_
        refine zx_icmp_le (pc := 29) (tgt := 34) G rfl (z_dec T_X11_most_ok 14 (29, .if_icmp .le 5, 3) rfl) (fun hc => ?_) (fun hc => ?_)
        · replace h := z_pos hc h
          refine zx_iload_n (pc := 34) G 4 rfl rfl (z_dec T_X11_most_ok 17 (34, .iload_n 3, 1) rfl) ?_
          refine zx_iconst (pc := 35) (v := -1) G (z_dec T_X11_most_ok 18 (35, .iconst (-1), 1) rfl) rfl ?_
          refine zx_icmp_eq (pc := 36) (tgt := 50) G rfl (z_dec T_X11_most_ok 19 (36, .if_icmp .eq 14, 3) rfl) (fun hc => ?_) (fun hc => ?_)
          · replace h := z_pos hc h
            refine zx_sub (lv' := [(0, .ref (0)), (1, .int (a1)), (2, .int (a2)), (3, .int (a3)), (4, .ref (o3))]) [1, 2, 3, 4, 0] rfl ?_
            exact L_X11_most_50_ok G hr hlk hI h_o (hfr2 o3 rfl) h
          · replace h := z_neg hc h
            refine zx_aload (pc := 39) G (some (o3)) 0 rfl (z_dec T_X11_most_ok 20 (39, .aload 4, 2) rfl) ?_
            refine zx_iload_n (pc := 41) G 4 rfl rfl (z_dec T_X11_most_ok 21 (41, .iload_n 3, 1) rfl) ?_
            refine zx_callV_zN (pc := 42) (rm := rm_X6_holds) G cw_RX11_172 ⟨Nat.le_of_ble_eq_true rfl, Nat.le_of_ble_eq_true rfl⟩ rfl rfl ⟨Nat.zero_le _, Nat.zero_le _⟩ (hfr2 o3 rfl) rfl (fun sz => (met_X6_holds l D ρ kd q μ1 sz o3 a3 _ hI (hfr2 o3 rfl) h)) rfl rfl (Nat.le_of_ble_eq_true rfl) (z_dec T_X11_most_ok 22 (42, .invokevirtual 172, 3) rfl) (fun r5 μ4 hzr5 hn => ?_)
            clear h
            have h := hn
            clear hn
            refine zx_if_ne (pc := 45) (tgt := 50) G rfl (z_dec T_X11_most_ok 23 (45, .ifCond .ne 5, 3) rfl) (fun hc => ?_) (fun hc => ?_)
            · replace h := z_neg hc h
              refine zx_sub (lv' := [(0, .ref (0)), (1, .int (a1)), (2, .int (a2)), (3, .int (a3)), (4, .ref (o3))]) [1, 2, 3, 4, 0] rfl ?_
              exact L_X11_most_50_ok G hr hlk hI h_o (hfr2 o3 rfl) h
            · replace h := z_pos hc h
              refine zx_iconst (pc := 48) (v := -1) G (z_dec T_X11_most_ok 24 (48, .iconst (-1), 1) rfl) rfl ?_
              exact zx_iret (pc := 49) G hr hlk (Nat.le_refl _) (Nat.le_refl _) (z_dec T_X11_most_ok 25 (49, .ireturn, 1) rfl) ⟨rfl, _, rfl, h⟩
        · replace h := z_neg hc h
          refine zx_iconst (pc := 32) (v := -1) G (z_dec T_X11_most_ok 15 (32, .iconst (-1), 1) rfl) rfl ?_
          exact zx_iret (pc := 33) G hr hlk (Nat.le_refl _) (Nat.le_refl _) (z_dec T_X11_most_ok 16 (33, .ireturn, 1) rfl) ⟨rfl, _, rfl, h⟩
abbrev rm_X11_layWith : Room := { frames := 3, cells := 0, slots := 0, locals := 64 }
set_option maxRecDepth 100000 in
set_option maxHeartbeats 4000000 in
theorem B_X11_layWith_3_ok {p : Program} {l : Launch} {e : Env} {s : State} {m : MethodId} {args : Array Value} {below : List Frame} {meth : Method} {c : Code} {D : va_G} {A : Nat → Prop} {ρ : z_A} {kd : z_K} {q : z_Q} {μ : z_M} {K : z_M → Prop} {P3 : Int32 → Option Nat → Int32 → Option Nat → Int32 → Int32 → z_M → Prop} {v1 : Int32} {v2 : Option Nat} {v3 : Int32} {v4 : Option Nat} {v5 : Int32} {v6 : Int32} (G : z_G p c cX11_layWith s m args RX11 8 D) (hr : meth.sig.returnType = (Option.none : Option Jvm.ClassFile.FieldType)) (hlk : meth.locks = false) (hP3 : ∀ (v1 : Int32) (v2 : Option Nat) (v3 : Int32) (v4 : Option Nat) (v5 : Int32) (v6 : Int32) (μ : z_M), P3 v1 v2 v3 v4 v5 v6 μ → (kd 0 = some (.inl 11)) → (∀ a, v2 = some a → kd a = some (.inl 1)) → (∀ a, v4 = some a → kd a = some (.inl 6)) → z_X p l e rm_X11_layWith s m args below meth c 8 D A (MQ below (z_Qn D A ρ kd (z_Kv q K)) args s 0 0 A) 0 0 ρ kd q μ 3 [(0, .ref (0)), (1, .int (v1)), (2, va_rf (v2)), (3, .int (v3)), (4, va_rf (v4)), (5, .int (v5)), (6, .int (v6))] []) (hI : z_I kd q) (f_l0 : kd 0 = some (.inl 11)) (f_l2 : ∀ a, v2 = some a → kd a = some (.inl 1)) (f_l4 : ∀ a, v4 = some a → kd a = some (.inl 6)) (h : B_X11_layWith_3 kd q K P3 v1 v2 v3 v4 v5 v6 μ) : z_X p l e rm_X11_layWith s m args below meth c 8 D A (MQ below (z_Qn D A ρ kd (z_Kv q K)) args s 0 0 A) 0 0 ρ kd q μ 3 [(0, .ref (0)), (1, .int (v1)), (2, va_rf (v2)), (3, .int (v3)), (4, va_rf (v4)), (5, .int (v5)), (6, .int (v6))] [] := by
    unfold B_X11_layWith_3 at h
    refine zx_iload (pc := 3) G 6 rfl (z_dec T_X11_layWith_ok 2 (3, .iload 6, 2) rfl) ?_
    refine zx_aload (pc := 5) G (v4) 4 rfl (z_dec T_X11_layWith_ok 3 (5, .aload 4, 2) rfl) ?_
    obtain ⟨o1, rfl, h⟩ := h
    refine zx_getI (pc := 7) G gf_RX11_297 rfl (f_l4 o1 rfl) (z_dec T_X11_layWith_ok 4 (7, .getfield 297, 3) rfl) ?_
    refine zx_icmp_ge (pc := 10) (tgt := 61) G rfl (z_dec T_X11_layWith_ok 5 (10, .if_icmp .ge 51, 3) rfl) (fun hc => ?_) (fun hc => ?_)
    · replace h := z_pos hc h
      exact zx_vret (pc := 61) G hr hlk (Nat.le_refl _) (Nat.le_refl _) (z_dec T_X11_layWith_ok 29 (61, .return_, 1) rfl) ⟨rfl, rfl, h⟩
    · replace h := z_neg hc h
      refine zx_aload_n (pc := 13) G (v2) 2 rfl rfl (z_dec T_X11_layWith_ok 6 (13, .aload_n 2, 1) rfl) ?_
      obtain ⟨o2, rfl, h⟩ := h
      refine zx_getF (pc := 14) (b := o2 + 1) G gf_RX11_166 rfl (f_l2 o2 rfl) (zq_1_3 hI (f_l2 o2 rfl)) (z_dec T_X11_layWith_ok 7 (14, .getfield 166, 3) rfl) ?_
      refine zx_iload_n (pc := 17) G 3 rfl rfl (z_dec T_X11_layWith_ok 8 (17, .iload_n 3, 1) rfl) ?_
      refine zx_iload (pc := 18) G 6 rfl (z_dec T_X11_layWith_ok 9 (18, .iload 6, 2) rfl) ?_
      refine zx_callS_iN (pc := 20) (rm := rm_X11_spot) G cw_RX11_168 ⟨Nat.le_of_ble_eq_true rfl, Nat.le_of_ble_eq_true rfl⟩ rfl rfl ⟨Nat.zero_le _, Nat.zero_le _⟩ (fun sz => (met_X11_spot l D ρ kd q μ sz v3 v6 _ hI h)) rfl rfl (Nat.le_of_ble_eq_true rfl) (z_dec T_X11_layWith_ok 10 (20, .invokestatic 168, 3) rfl) (fun r4 μ3 hn => ?_)
      clear h
      have h := hn
      clear hn
      obtain ⟨c5, h⟩ := h
      refine zx_iald (pc := 23) G (zk_1_3 hI (f_l2 o2 rfl)) c5 (z_dec T_X11_layWith_ok 11 (23, .iaload, 1) rfl) ?_
      refine zx_istore (pc := 24) (lv' := [(7, .int (μ3.1 (o2 + 1) r4.toNatClampNeg)), (0, .ref (0)), (1, .int (v1)), (2, .ref (o2)), (3, .int (v3)), (4, .ref (o1)), (5, .int (v5)), (6, .int (v6))]) G (Nat.le_of_ble_eq_true rfl) rfl (z_dec T_X11_layWith_ok 12 (24, .istore 7, 2) rfl) ?_
      refine zx_iload (pc := 26) G 0 rfl (z_dec T_X11_layWith_ok 13 (26, .iload 7, 2) rfl) ?_
      refine zx_iconst (pc := 28) (v := -1) G (z_dec T_X11_layWith_ok 14 (28, .iconst (-1), 1) rfl) rfl ?_
      refine zx_icmp_eq (pc := 29) (tgt := 55) G rfl (z_dec T_X11_layWith_ok 15 (29, .if_icmp .eq 26, 3) rfl) (fun hc => ?_) (fun hc => ?_)
      · replace h := z_pos hc h
        refine zx_iinc (pc := 55) (v := v6 + 1) (lv' := [(6, .int (v6 + 1)), (7, .int (μ3.1 (o2 + 1) r4.toNatClampNeg)), (0, .ref (0)), (1, .int (v1)), (2, .ref (o2)), (3, .int (v3)), (4, .ref (o1)), (5, .int (v5))]) G 7 rfl (z_inc (by decide)) (Nat.le_of_ble_eq_true rfl) rfl (z_dec T_X11_layWith_ok 27 (55, .iinc 6 1, 3) rfl) ?_
        refine zx_goto (pc := 58) (tgt := 3) G rfl (z_dec T_X11_layWith_ok 28 (58, .goto (-55), 3) rfl) ?_
        refine zx_sub (lv' := [(0, .ref (0)), (1, .int (v1)), (2, .ref (o2)), (3, .int (v3)), (4, .ref (o1)), (5, .int (v5)), (6, .int (v6 + 1))]) [2, 3, 4, 5, 6, 7, 0] rfl ?_
        exact hP3 _ _ _ _ _ _ _ h f_l0 (fun a ha => by cases ha; exact (f_l2 o2 rfl)) (fun a ha => by cases ha; exact (f_l4 o1 rfl))
      · replace h := z_neg hc h
        refine zx_aload_n (pc := 32) G (some (0)) 1 rfl rfl (z_dec T_X11_layWith_ok 16 (32, .aload_n 0, 1) rfl) ?_
        refine zx_getF (pc := 33) (b := 17) G gf_RX11_76 rfl f_l0 (zq_11_9 hI f_l0) (z_dec T_X11_layWith_ok 17 (33, .getfield 76, 3) rfl) ?_
        refine zx_iload_n (pc := 36) G 2 rfl rfl (z_dec T_X11_layWith_ok 18 (36, .iload_n 1, 1) rfl) ?_
        refine zx_iload (pc := 37) G 7 rfl (z_dec T_X11_layWith_ok 19 (37, .iload 6, 2) rfl) ?_
        refine zx_iload (pc := 39) G 6 rfl (z_dec T_X11_layWith_ok 20 (39, .iload 5, 2) rfl) ?_
        refine zx_aload_n (pc := 41) G (some (0)) 1 rfl rfl (z_dec T_X11_layWith_ok 21 (41, .aload_n 0, 1) rfl) ?_
        refine zx_getF (pc := 42) (b := 3) G gf_RX11_19 rfl f_l0 (zq_11_1 hI f_l0) (z_dec T_X11_layWith_ok 22 (42, .getfield 19, 3) rfl) ?_
        refine zx_iload (pc := 45) G 6 rfl (z_dec T_X11_layWith_ok 23 (45, .iload 5, 2) rfl) ?_
        refine zx_iload (pc := 47) G 0 rfl (z_dec T_X11_layWith_ok 24 (47, .iload 7, 2) rfl) ?_
        refine zx_callV_iN (pc := 49) (rm := rm_X3_won) G cw_RX11_415 ⟨Nat.le_of_ble_eq_true rfl, Nat.le_of_ble_eq_true rfl⟩ rfl rfl ⟨Nat.zero_le _, Nat.zero_le _⟩ (zk_11_1 hI f_l0) rfl (fun sz => (met_X3_won l D ρ kd q μ3 sz 3 v5 (μ3.1 (o2 + 1) r4.toNatClampNeg) _ hI (zk_11_1 hI f_l0) h)) rfl rfl (Nat.le_of_ble_eq_true rfl) (z_dec T_X11_layWith_ok 25 (49, .invokevirtual 415, 3) rfl) (fun r7 μ6 hn => ?_)
        clear h
        have h := hn
        clear hn
        refine zx_callV_vN (pc := 52) (rm := rm_X4_offer) G cw_RX11_496 ⟨Nat.le_of_ble_eq_true rfl, Nat.le_of_ble_eq_true rfl⟩ rfl rfl ⟨Nat.zero_le _, Nat.zero_le _⟩ (zk_11_9 hI f_l0) rfl (fun sz => (met_X4_offer l D ρ kd q μ6 sz v1 v6 v5 r7 _ hI (zk_11_9 hI f_l0) h)) rfl rfl (Nat.le_of_ble_eq_true rfl) (z_dec T_X11_layWith_ok 26 (52, .invokevirtual 496, 3) rfl) (fun μ8 hn => ?_)
        clear h
        have h := hn
        clear hn
        refine zx_iinc (pc := 55) (v := v6 + 1) (lv' := [(6, .int (v6 + 1)), (7, .int (μ3.1 (o2 + 1) r4.toNatClampNeg)), (0, .ref (0)), (1, .int (v1)), (2, .ref (o2)), (3, .int (v3)), (4, .ref (o1)), (5, .int (v5))]) G 7 rfl (z_inc (by decide)) (Nat.le_of_ble_eq_true rfl) rfl (z_dec T_X11_layWith_ok 27 (55, .iinc 6 1, 3) rfl) ?_
        refine zx_goto (pc := 58) (tgt := 3) G rfl (z_dec T_X11_layWith_ok 28 (58, .goto (-55), 3) rfl) ?_
        refine zx_sub (lv' := [(0, .ref (0)), (1, .int (v1)), (2, .ref (o2)), (3, .int (v3)), (4, .ref (o1)), (5, .int (v5)), (6, .int (v6 + 1))]) [2, 3, 4, 5, 6, 7, 0] rfl ?_
        exact hP3 _ _ _ _ _ _ _ h f_l0 (fun a ha => by cases ha; exact (f_l2 o2 rfl)) (fun a ha => by cases ha; exact (f_l4 o1 rfl))
set_option maxRecDepth 100000 in
set_option maxHeartbeats 4000000 in
theorem L_X11_layWith_3_ok {p : Program} {l : Launch} {e : Env} {s : State} {m : MethodId} {args : Array Value} {below : List Frame} {meth : Method} {c : Code} {D : va_G} {A : Nat → Prop} {ρ : z_A} {kd : z_K} {q : z_Q} {μ : z_M} {K : z_M → Prop} {v1 : Int32} {v2 : Option Nat} {v3 : Int32} {v4 : Option Nat} {v5 : Int32} {v6 : Int32} (G : z_G p c cX11_layWith s m args RX11 8 D) (hr : meth.sig.returnType = (Option.none : Option Jvm.ClassFile.FieldType)) (hlk : meth.locks = false) (hI : z_I kd q) (f_l0 : kd 0 = some (.inl 11)) (f_l2 : ∀ a, v2 = some a → kd a = some (.inl 1)) (f_l4 : ∀ a, v4 = some a → kd a = some (.inl 6)) (h : L_X11_layWith_3 kd q K v1 v2 v3 v4 v5 v6 μ) : z_X p l e rm_X11_layWith s m args below meth c 8 D A (MQ below (z_Qn D A ρ kd (z_Kv q K)) args s 0 0 A) 0 0 ρ kd q μ 3 [(0, .ref (0)), (1, .int (v1)), (2, va_rf (v2)), (3, .int (v3)), (4, va_rf (v4)), (5, .int (v5)), (6, .int (v6))] [] :=
  h (fun (v1 : Int32) (v2 : Option Nat) (v3 : Int32) (v4 : Option Nat) (v5 : Int32) (v6 : Int32) (μ : z_M) => (kd 0 = some (.inl 11)) → (∀ a, v2 = some a → kd a = some (.inl 1)) → (∀ a, v4 = some a → kd a = some (.inl 6)) → z_X p l e rm_X11_layWith s m args below meth c 8 D A (MQ below (z_Qn D A ρ kd (z_Kv q K)) args s 0 0 A) 0 0 ρ kd q μ 3 [(0, .ref (0)), (1, .int (v1)), (2, va_rf (v2)), (3, .int (v3)), (4, va_rf (v4)), (5, .int (v5)), (6, .int (v6))] []) (fun v1 v2 v3 v4 v5 v6 μ h f_l0 f_l2 f_l4 => B_X11_layWith_3_ok G hr hlk (fun _ _ _ _ _ _ _ h => h) hI f_l0 f_l2 f_l4 h) f_l0 f_l2 f_l4
set_option maxRecDepth 100000 in
set_option maxHeartbeats 4000000 in
theorem met_X11_layWith (l : Launch) (D : va_G) (ρ : z_A) (kd : z_K) (q : z_Q) (μ : z_M) (sz : Nat) (a1 : Int32) (a2 : Option Nat) (a3 : Int32) (a4 : Option Nat) (a5 : Int32) (K : z_M → Prop) (hI : z_I kd q) (h_o : kd 0 = some (.inl 11)) (h_a2 : ∀ a, a2 = some a → kd a = some (.inl 1)) (h_a4 : ∀ a, a4 = some a → kd a = some (.inl 6)) (h : C_X11_layWith kd q a1 a2 a3 a4 a5 μ K) : Met l yX11_layWith (z_ws yX11_layWith cX11_layWith 8 (Option.none : Option Jvm.ClassFile.FieldType)) rm_X11_layWith (z_Pc D ρ kd q μ sz [.ref (0), .int (a1), va_rf (a2), .int (a3), va_rf (a4), .int (a5)]) (z_Qn D (z_Rg ρ sz) ρ kd (z_Kv q K)) 0 0 (z_Rg ρ sz) := by
  refine z_met (rm := rm_X11_layWith) (by decide) (by cases a2 <;> cases a4 <;> exact Nat.le_of_ble_eq_true rfl) (fun p e s m args below meth c G hr hlk => ?_)
  unfold C_X11_layWith at h
  rw [show lv_args 0 [.ref (0), .int (a1), va_rf (a2), .int (a3), va_rf (a4), .int (a5)] = [(0, .ref (0)), (1, .int (a1)), (2, va_rf (a2)), (3, .int (a3)), (4, va_rf (a4)), (5, .int (a5))] from by cases a2 <;> cases a4 <;> rfl]
  refine zx_iconst (pc := 0) (v := 0) G (z_dec T_X11_layWith_ok 0 (0, .iconst 0, 1) rfl) rfl ?_
  refine zx_istore (pc := 1) (lv' := [(6, .int ((0 : Int32))), (0, .ref (0)), (1, .int (a1)), (2, va_rf (a2)), (3, .int (a3)), (4, va_rf (a4)), (5, .int (a5))]) G (Nat.le_of_ble_eq_true rfl) rfl (z_dec T_X11_layWith_ok 1 (1, .istore 6, 2) rfl) ?_
  refine zx_sub (lv' := [(0, .ref (0)), (1, .int (a1)), (2, va_rf (a2)), (3, .int (a3)), (4, va_rf (a4)), (5, .int (a5)), (6, .int ((0 : Int32)))]) [1, 2, 3, 4, 5, 6, 0] rfl ?_
  exact L_X11_layWith_3_ok G hr hlk hI h_o h_a2 h_a4 h
abbrev rm_X11_seekLayOff : Room := { frames := 4, cells := 0, slots := 0, locals := 91 }
set_option maxRecDepth 100000 in
set_option maxHeartbeats 4000000 in
theorem B_X11_seekLayOff_25_ok {p : Program} {l : Launch} {e : Env} {s : State} {m : MethodId} {args : Array Value} {below : List Frame} {meth : Method} {c : Code} {D : va_G} {A : Nat → Prop} {ρ : z_A} {kd : z_K} {q : z_Q} {μ : z_M} {K : z_M → Prop} {P15 : Int32 → Int32 → Option Nat → Int32 → Int32 → z_M → Prop} {P25 : Int32 → Int32 → Option Nat → Int32 → Int32 → Int32 → z_M → Prop} {v1 : Int32} {v3 : Int32} {v4 : Option Nat} {v5 : Int32} {v6 : Int32} {v7 : Int32} (G : z_G p c cX11_seekLayOff s m args RX11 9 D) (hr : meth.sig.returnType = (Option.none : Option Jvm.ClassFile.FieldType)) (hlk : meth.locks = false) (hP15 : ∀ (v1 : Int32) (v3 : Int32) (v4 : Option Nat) (v5 : Int32) (v6 : Int32) (μ : z_M), P15 v1 v3 v4 v5 v6 μ → (kd 0 = some (.inl 11)) → (∀ a, v4 = some a → kd a = some (.inl 6)) → z_X p l e rm_X11_seekLayOff s m args below meth c 9 D A (MQ below (z_Qn D A ρ kd (z_Kv q K)) args s 0 0 A) 0 0 ρ kd q μ 15 [(0, .ref (0)), (1, .int (v1)), (3, .int (v3)), (4, va_rf (v4)), (5, .int (v5)), (6, .int (v6))] []) (hP25 : ∀ (v1 : Int32) (v3 : Int32) (v4 : Option Nat) (v5 : Int32) (v6 : Int32) (v7 : Int32) (μ : z_M), P25 v1 v3 v4 v5 v6 v7 μ → (kd 0 = some (.inl 11)) → (∀ a, v4 = some a → kd a = some (.inl 6)) → z_X p l e rm_X11_seekLayOff s m args below meth c 9 D A (MQ below (z_Qn D A ρ kd (z_Kv q K)) args s 0 0 A) 0 0 ρ kd q μ 25 [(0, .ref (0)), (1, .int (v1)), (3, .int (v3)), (4, va_rf (v4)), (5, .int (v5)), (6, .int (v6)), (7, .int (v7))] []) (hI : z_I kd q) (f_l0 : kd 0 = some (.inl 11)) (f_l4 : ∀ a, v4 = some a → kd a = some (.inl 6)) (h : B_X11_seekLayOff_25 kd q K P15 P25 v1 v3 v4 v5 v6 v7 μ) : z_X p l e rm_X11_seekLayOff s m args below meth c 9 D A (MQ below (z_Qn D A ρ kd (z_Kv q K)) args s 0 0 A) 0 0 ρ kd q μ 25 [(0, .ref (0)), (1, .int (v1)), (3, .int (v3)), (4, va_rf (v4)), (5, .int (v5)), (6, .int (v6)), (7, .int (v7))] [] := by
    unfold B_X11_seekLayOff_25 at h
    refine zx_iload (pc := 25) G 6 rfl (z_dec T_X11_seekLayOff_ok 13 (25, .iload 7, 2) rfl) ?_
    refine zx_aload_n (pc := 27) G (some (0)) 0 rfl rfl (z_dec T_X11_seekLayOff_ok 14 (27, .aload_n 0, 1) rfl) ?_
    refine zx_getI (pc := 28) G gf_RX11_114 rfl f_l0 (z_dec T_X11_seekLayOff_ok 15 (28, .getfield 114, 3) rfl) ?_
    refine zx_icmp_ge (pc := 31) (tgt := 80) G rfl (z_dec T_X11_seekLayOff_ok 16 (31, .if_icmp .ge 49, 3) rfl) (fun hc => ?_) (fun hc => ?_)
    · replace h := z_pos hc h
      refine zx_iinc (pc := 80) (v := v6 + 100) (lv' := [(6, .int (v6 + 100)), (0, .ref (0)), (1, .int (v1)), (3, .int (v3)), (4, va_rf (v4)), (5, .int (v5)), (7, .int (v7))]) G 5 rfl (z_inc (by decide)) (Nat.le_of_ble_eq_true rfl) rfl (z_dec T_X11_seekLayOff_ok 38 (80, .iinc 6 100, 3) rfl) ?_
      refine zx_goto (pc := 83) (tgt := 15) G rfl (z_dec T_X11_seekLayOff_ok 39 (83, .goto (-68), 3) rfl) ?_
      refine zx_sub (lv' := [(0, .ref (0)), (1, .int (v1)), (3, .int (v3)), (4, va_rf (v4)), (5, .int (v5)), (6, .int (v6 + 100))]) [1, 2, 3, 4, 5, 0] rfl ?_
      exact hP15 _ _ _ _ _ _ h f_l0 f_l4
    · replace h := z_neg hc h
      refine zx_aload_n (pc := 34) G (some (0)) 0 rfl rfl (z_dec T_X11_seekLayOff_ok 17 (34, .aload_n 0, 1) rfl) ?_
      refine zx_iload (pc := 35) G 6 rfl (z_dec T_X11_seekLayOff_ok 18 (35, .iload 7, 2) rfl) ?_
      refine zx_callV_rN (pc := 37) (rm := rm_X11_bookAt) G cw_RX11_141 ⟨Nat.le_of_ble_eq_true rfl, Nat.le_of_ble_eq_true rfl⟩ rfl rfl ⟨Nat.zero_le _, Nat.zero_le _⟩ f_l0 rfl (fun sz => (met_X11_bookAt l D ρ kd q μ sz v7 _ hI f_l0 h)) rfl rfl (Nat.le_of_ble_eq_true rfl) (z_dec T_X11_seekLayOff_ok 19 (37, .invokevirtual 141, 3) rfl) (fun r2 μ1 hfr2 hn => ?_)
      clear h
      have h := hn
      clear hn
      refine zx_astore (pc := 40) (lv' := [(8, va_rf (r2)), (0, .ref (0)), (1, .int (v1)), (3, .int (v3)), (4, va_rf (v4)), (5, .int (v5)), (6, .int (v6)), (7, .int (v7))]) G (r2) (Nat.le_of_ble_eq_true rfl) rfl (z_dec T_X11_seekLayOff_ok 20 (40, .astore 8, 2) rfl) ?_
      refine zx_aload (pc := 42) G (r2) 0 rfl (z_dec T_X11_seekLayOff_ok 21 (42, .aload 8, 2) rfl) ?_
      obtain ⟨h1, h2⟩ := h
      rcases r2 with _ | o3
      · replace h := h1 rfl
        refine zx_ifnullN (pc := 44) (tgt := 74) G rfl (z_dec T_X11_seekLayOff_ok 22 (44, .ifnull 30, 3) rfl) ?_
        refine zx_iinc (pc := 74) (v := v7 + 1) (lv' := [(7, .int (v7 + 1)), (8, va_rf (none)), (0, .ref (0)), (1, .int (v1)), (3, .int (v3)), (4, va_rf (v4)), (5, .int (v5)), (6, .int (v6))]) G 7 rfl (z_inc (by decide)) (Nat.le_of_ble_eq_true rfl) rfl (z_dec T_X11_seekLayOff_ok 36 (74, .iinc 7 1, 3) rfl) ?_
        refine zx_goto (pc := 77) (tgt := 25) G rfl (z_dec T_X11_seekLayOff_ok 37 (77, .goto (-52), 3) rfl) ?_
        refine zx_sub (lv' := [(0, .ref (0)), (1, .int (v1)), (3, .int (v3)), (4, va_rf (v4)), (5, .int (v5)), (6, .int (v6)), (7, .int (v7 + 1))]) [2, 3, 4, 5, 6, 7, 0] rfl ?_
        exact hP25 _ _ _ _ _ _ _ h f_l0 f_l4
      · replace h := h2 o3 rfl
        refine zx_ifnullS (pc := 44) G (hfr2 o3 rfl) (z_dec T_X11_seekLayOff_ok 22 (44, .ifnull 30, 3) rfl) ?_
        refine zx_iload (pc := 47) G 7 rfl (z_dec T_X11_seekLayOff_ok 23 (47, .iload 7, 2) rfl) ?_
        refine zx_iload_n (pc := 49) G 2 rfl rfl (z_dec T_X11_seekLayOff_ok 24 (49, .iload_n 1, 1) rfl) ?_
        refine zx_icmp_eq (pc := 50) (tgt := 74) G rfl (z_dec T_X11_seekLayOff_ok 25 (50, .if_icmp .eq 24, 3) rfl) (fun hc => ?_) (fun hc => ?_)
        · replace h := z_pos hc h
          refine zx_iinc (pc := 74) (v := v7 + 1) (lv' := [(7, .int (v7 + 1)), (8, .ref (o3)), (0, .ref (0)), (1, .int (v1)), (3, .int (v3)), (4, va_rf (v4)), (5, .int (v5)), (6, .int (v6))]) G 7 rfl (z_inc (by decide)) (Nat.le_of_ble_eq_true rfl) rfl (z_dec T_X11_seekLayOff_ok 36 (74, .iinc 7 1, 3) rfl) ?_
          refine zx_goto (pc := 77) (tgt := 25) G rfl (z_dec T_X11_seekLayOff_ok 37 (77, .goto (-52), 3) rfl) ?_
          refine zx_sub (lv' := [(0, .ref (0)), (1, .int (v1)), (3, .int (v3)), (4, va_rf (v4)), (5, .int (v5)), (6, .int (v6)), (7, .int (v7 + 1))]) [2, 3, 4, 5, 6, 7, 0] rfl ?_
          exact hP25 _ _ _ _ _ _ _ h f_l0 f_l4
        · replace h := z_neg hc h
          refine zx_aload (pc := 53) G (some (o3)) 0 rfl (z_dec T_X11_seekLayOff_ok 26 (53, .aload 8, 2) rfl) ?_
          refine zx_getZ (pc := 55) G gf_RX11_278 rfl (hfr2 o3 rfl) (z_dec T_X11_seekLayOff_ok 27 (55, .getfield 278, 3) rfl) ?_
          refine zx_if_ne (pc := 58) (tgt := 74) G rfl (z_dec T_X11_seekLayOff_ok 28 (58, .ifCond .ne 16, 3) rfl) (fun hc => ?_) (fun hc => ?_)
          · replace h := z_neg hc h
            refine zx_iinc (pc := 74) (v := v7 + 1) (lv' := [(7, .int (v7 + 1)), (8, .ref (o3)), (0, .ref (0)), (1, .int (v1)), (3, .int (v3)), (4, va_rf (v4)), (5, .int (v5)), (6, .int (v6))]) G 7 rfl (z_inc (by decide)) (Nat.le_of_ble_eq_true rfl) rfl (z_dec T_X11_seekLayOff_ok 36 (74, .iinc 7 1, 3) rfl) ?_
            refine zx_goto (pc := 77) (tgt := 25) G rfl (z_dec T_X11_seekLayOff_ok 37 (77, .goto (-52), 3) rfl) ?_
            refine zx_sub (lv' := [(0, .ref (0)), (1, .int (v1)), (3, .int (v3)), (4, va_rf (v4)), (5, .int (v5)), (6, .int (v6)), (7, .int (v7 + 1))]) [2, 3, 4, 5, 6, 7, 0] rfl ?_
            exact hP25 _ _ _ _ _ _ _ h f_l0 f_l4
          · replace h := z_pos hc h
            refine zx_aload_n (pc := 61) G (some (0)) 1 rfl rfl (z_dec T_X11_seekLayOff_ok 29 (61, .aload_n 0, 1) rfl) ?_
            refine zx_iload (pc := 62) G 7 rfl (z_dec T_X11_seekLayOff_ok 30 (62, .iload 7, 2) rfl) ?_
            refine zx_aload (pc := 64) G (some (o3)) 0 rfl (z_dec T_X11_seekLayOff_ok 31 (64, .aload 8, 2) rfl) ?_
            refine zx_iload_n (pc := 66) G 3 rfl rfl (z_dec T_X11_seekLayOff_ok 32 (66, .iload_n 3, 1) rfl) ?_
            refine zx_aload (pc := 67) G (v4) 4 rfl (z_dec T_X11_seekLayOff_ok 33 (67, .aload 4, 2) rfl) ?_
            refine zx_iload (pc := 69) G 6 rfl (z_dec T_X11_seekLayOff_ok 34 (69, .iload 6, 2) rfl) ?_
            refine zx_callV_vN (pc := 71) (rm := rm_X11_layWith) G cw_RX11_493 ⟨Nat.le_of_ble_eq_true rfl, Nat.le_of_ble_eq_true rfl⟩ rfl rfl ⟨Nat.zero_le _, Nat.zero_le _⟩ f_l0 rfl (fun sz => (met_X11_layWith l D ρ kd q μ1 sz v7 (some o3) v3 v4 v6 _ hI f_l0 (fun a ha => by cases ha; exact (hfr2 o3 rfl)) f_l4 h)) rfl rfl (Nat.le_of_ble_eq_true rfl) (z_dec T_X11_seekLayOff_ok 35 (71, .invokevirtual 493, 3) rfl) (fun μ4 hn => ?_)
            clear h
            have h := hn
            clear hn
            refine zx_iinc (pc := 74) (v := v7 + 1) (lv' := [(7, .int (v7 + 1)), (8, .ref (o3)), (0, .ref (0)), (1, .int (v1)), (3, .int (v3)), (4, va_rf (v4)), (5, .int (v5)), (6, .int (v6))]) G 7 rfl (z_inc (by decide)) (Nat.le_of_ble_eq_true rfl) rfl (z_dec T_X11_seekLayOff_ok 36 (74, .iinc 7 1, 3) rfl) ?_
            refine zx_goto (pc := 77) (tgt := 25) G rfl (z_dec T_X11_seekLayOff_ok 37 (77, .goto (-52), 3) rfl) ?_
            refine zx_sub (lv' := [(0, .ref (0)), (1, .int (v1)), (3, .int (v3)), (4, va_rf (v4)), (5, .int (v5)), (6, .int (v6)), (7, .int (v7 + 1))]) [2, 3, 4, 5, 6, 7, 0] rfl ?_
            exact hP25 _ _ _ _ _ _ _ h f_l0 f_l4
set_option maxRecDepth 100000 in
set_option maxHeartbeats 4000000 in
theorem L_X11_seekLayOff_25_ok {p : Program} {l : Launch} {e : Env} {s : State} {m : MethodId} {args : Array Value} {below : List Frame} {meth : Method} {c : Code} {D : va_G} {A : Nat → Prop} {ρ : z_A} {kd : z_K} {q : z_Q} {μ : z_M} {K : z_M → Prop} {P15 : Int32 → Int32 → Option Nat → Int32 → Int32 → z_M → Prop} {v1 : Int32} {v3 : Int32} {v4 : Option Nat} {v5 : Int32} {v6 : Int32} {v7 : Int32} (G : z_G p c cX11_seekLayOff s m args RX11 9 D) (hr : meth.sig.returnType = (Option.none : Option Jvm.ClassFile.FieldType)) (hlk : meth.locks = false) (hP15 : ∀ (v1 : Int32) (v3 : Int32) (v4 : Option Nat) (v5 : Int32) (v6 : Int32) (μ : z_M), P15 v1 v3 v4 v5 v6 μ → (kd 0 = some (.inl 11)) → (∀ a, v4 = some a → kd a = some (.inl 6)) → z_X p l e rm_X11_seekLayOff s m args below meth c 9 D A (MQ below (z_Qn D A ρ kd (z_Kv q K)) args s 0 0 A) 0 0 ρ kd q μ 15 [(0, .ref (0)), (1, .int (v1)), (3, .int (v3)), (4, va_rf (v4)), (5, .int (v5)), (6, .int (v6))] []) (hI : z_I kd q) (f_l0 : kd 0 = some (.inl 11)) (f_l4 : ∀ a, v4 = some a → kd a = some (.inl 6)) (h : L_X11_seekLayOff_25 kd q K P15 v1 v3 v4 v5 v6 v7 μ) : z_X p l e rm_X11_seekLayOff s m args below meth c 9 D A (MQ below (z_Qn D A ρ kd (z_Kv q K)) args s 0 0 A) 0 0 ρ kd q μ 25 [(0, .ref (0)), (1, .int (v1)), (3, .int (v3)), (4, va_rf (v4)), (5, .int (v5)), (6, .int (v6)), (7, .int (v7))] [] :=
  h (fun (v1 : Int32) (v3 : Int32) (v4 : Option Nat) (v5 : Int32) (v6 : Int32) (v7 : Int32) (μ : z_M) => (kd 0 = some (.inl 11)) → (∀ a, v4 = some a → kd a = some (.inl 6)) → z_X p l e rm_X11_seekLayOff s m args below meth c 9 D A (MQ below (z_Qn D A ρ kd (z_Kv q K)) args s 0 0 A) 0 0 ρ kd q μ 25 [(0, .ref (0)), (1, .int (v1)), (3, .int (v3)), (4, va_rf (v4)), (5, .int (v5)), (6, .int (v6)), (7, .int (v7))] []) (fun v1 v3 v4 v5 v6 v7 μ h f_l0 f_l4 => B_X11_seekLayOff_25_ok G hr hlk hP15 (fun _ _ _ _ _ _ _ h => h) hI f_l0 f_l4 h) f_l0 f_l4
set_option maxRecDepth 100000 in
set_option maxHeartbeats 4000000 in
theorem B_X11_seekLayOff_15_ok {p : Program} {l : Launch} {e : Env} {s : State} {m : MethodId} {args : Array Value} {below : List Frame} {meth : Method} {c : Code} {D : va_G} {A : Nat → Prop} {ρ : z_A} {kd : z_K} {q : z_Q} {μ : z_M} {K : z_M → Prop} {P15 : Int32 → Int32 → Option Nat → Int32 → Int32 → z_M → Prop} {v1 : Int32} {v3 : Int32} {v4 : Option Nat} {v5 : Int32} {v6 : Int32} (G : z_G p c cX11_seekLayOff s m args RX11 9 D) (hr : meth.sig.returnType = (Option.none : Option Jvm.ClassFile.FieldType)) (hlk : meth.locks = false) (hP15 : ∀ (v1 : Int32) (v3 : Int32) (v4 : Option Nat) (v5 : Int32) (v6 : Int32) (μ : z_M), P15 v1 v3 v4 v5 v6 μ → (kd 0 = some (.inl 11)) → (∀ a, v4 = some a → kd a = some (.inl 6)) → z_X p l e rm_X11_seekLayOff s m args below meth c 9 D A (MQ below (z_Qn D A ρ kd (z_Kv q K)) args s 0 0 A) 0 0 ρ kd q μ 15 [(0, .ref (0)), (1, .int (v1)), (3, .int (v3)), (4, va_rf (v4)), (5, .int (v5)), (6, .int (v6))] []) (hI : z_I kd q) (f_l0 : kd 0 = some (.inl 11)) (f_l4 : ∀ a, v4 = some a → kd a = some (.inl 6)) (h : B_X11_seekLayOff_15 kd q K P15 v1 v3 v4 v5 v6 μ) : z_X p l e rm_X11_seekLayOff s m args below meth c 9 D A (MQ below (z_Qn D A ρ kd (z_Kv q K)) args s 0 0 A) 0 0 ρ kd q μ 15 [(0, .ref (0)), (1, .int (v1)), (3, .int (v3)), (4, va_rf (v4)), (5, .int (v5)), (6, .int (v6))] [] := by
    unfold B_X11_seekLayOff_15 at h
    refine zx_iload (pc := 15) G 5 rfl (z_dec T_X11_seekLayOff_ok 8 (15, .iload 6, 2) rfl) ?_
    refine zx_iload (pc := 17) G 4 rfl (z_dec T_X11_seekLayOff_ok 9 (17, .iload 5, 2) rfl) ?_
    refine zx_icmp_gt (pc := 19) (tgt := 86) G rfl (z_dec T_X11_seekLayOff_ok 10 (19, .if_icmp .gt 67, 3) rfl) (fun hc => ?_) (fun hc => ?_)
    · replace h := z_pos hc h
      exact zx_vret (pc := 86) G hr hlk (Nat.le_refl _) (Nat.le_refl _) (z_dec T_X11_seekLayOff_ok 40 (86, .return_, 1) rfl) ⟨rfl, rfl, h⟩
    · replace h := z_neg hc h
      refine zx_iconst (pc := 22) (v := 0) G (z_dec T_X11_seekLayOff_ok 11 (22, .iconst 0, 1) rfl) rfl ?_
      refine zx_istore (pc := 23) (lv' := [(7, .int ((0 : Int32))), (0, .ref (0)), (1, .int (v1)), (3, .int (v3)), (4, va_rf (v4)), (5, .int (v5)), (6, .int (v6))]) G (Nat.le_of_ble_eq_true rfl) rfl (z_dec T_X11_seekLayOff_ok 12 (23, .istore 7, 2) rfl) ?_
      refine zx_sub (lv' := [(0, .ref (0)), (1, .int (v1)), (3, .int (v3)), (4, va_rf (v4)), (5, .int (v5)), (6, .int (v6)), (7, .int ((0 : Int32)))]) [1, 2, 3, 4, 5, 6, 0] rfl ?_
      exact L_X11_seekLayOff_25_ok G hr hlk hP15 hI f_l0 f_l4 h
set_option maxRecDepth 100000 in
set_option maxHeartbeats 4000000 in
theorem L_X11_seekLayOff_15_ok {p : Program} {l : Launch} {e : Env} {s : State} {m : MethodId} {args : Array Value} {below : List Frame} {meth : Method} {c : Code} {D : va_G} {A : Nat → Prop} {ρ : z_A} {kd : z_K} {q : z_Q} {μ : z_M} {K : z_M → Prop} {v1 : Int32} {v3 : Int32} {v4 : Option Nat} {v5 : Int32} {v6 : Int32} (G : z_G p c cX11_seekLayOff s m args RX11 9 D) (hr : meth.sig.returnType = (Option.none : Option Jvm.ClassFile.FieldType)) (hlk : meth.locks = false) (hI : z_I kd q) (f_l0 : kd 0 = some (.inl 11)) (f_l4 : ∀ a, v4 = some a → kd a = some (.inl 6)) (h : L_X11_seekLayOff_15 kd q K v1 v3 v4 v5 v6 μ) : z_X p l e rm_X11_seekLayOff s m args below meth c 9 D A (MQ below (z_Qn D A ρ kd (z_Kv q K)) args s 0 0 A) 0 0 ρ kd q μ 15 [(0, .ref (0)), (1, .int (v1)), (3, .int (v3)), (4, va_rf (v4)), (5, .int (v5)), (6, .int (v6))] [] :=
  h (fun (v1 : Int32) (v3 : Int32) (v4 : Option Nat) (v5 : Int32) (v6 : Int32) (μ : z_M) => (kd 0 = some (.inl 11)) → (∀ a, v4 = some a → kd a = some (.inl 6)) → z_X p l e rm_X11_seekLayOff s m args below meth c 9 D A (MQ below (z_Qn D A ρ kd (z_Kv q K)) args s 0 0 A) 0 0 ρ kd q μ 15 [(0, .ref (0)), (1, .int (v1)), (3, .int (v3)), (4, va_rf (v4)), (5, .int (v5)), (6, .int (v6))] []) (fun v1 v3 v4 v5 v6 μ h f_l0 f_l4 => B_X11_seekLayOff_15_ok G hr hlk (fun _ _ _ _ _ _ h => h) hI f_l0 f_l4 h) f_l0 f_l4
set_option maxRecDepth 100000 in
set_option maxHeartbeats 4000000 in
theorem met_X11_seekLayOff (l : Launch) (D : va_G) (ρ : z_A) (kd : z_K) (q : z_Q) (μ : z_M) (sz : Nat) (a1 : Int32) (a2 : Option Nat) (a3 : Int32) (a4 : Option Nat) (a5 : Int32) (K : z_M → Prop) (hI : z_I kd q) (h_o : kd 0 = some (.inl 11)) (h_a2 : ∀ a, a2 = some a → kd a = some (.inl 1)) (h_a4 : ∀ a, a4 = some a → kd a = some (.inl 6)) (h : C_X11_seekLayOff kd q a1 a2 a3 a4 a5 μ K) : Met l yX11_seekLayOff (z_ws yX11_seekLayOff cX11_seekLayOff 9 (Option.none : Option Jvm.ClassFile.FieldType)) rm_X11_seekLayOff (z_Pc D ρ kd q μ sz [.ref (0), .int (a1), va_rf (a2), .int (a3), va_rf (a4), .int (a5)]) (z_Qn D (z_Rg ρ sz) ρ kd (z_Kv q K)) 0 0 (z_Rg ρ sz) := by
  refine z_met (rm := rm_X11_seekLayOff) (by decide) (by cases a2 <;> cases a4 <;> exact Nat.le_of_ble_eq_true rfl) (fun p e s m args below meth c G hr hlk => ?_)
  unfold C_X11_seekLayOff at h
  rw [show lv_args 0 [.ref (0), .int (a1), va_rf (a2), .int (a3), va_rf (a4), .int (a5)] = [(0, .ref (0)), (1, .int (a1)), (2, va_rf (a2)), (3, .int (a3)), (4, va_rf (a4)), (5, .int (a5))] from by cases a2 <;> cases a4 <;> rfl]
  refine zx_aload_n (pc := 0) G (some (0)) 0 rfl rfl (z_dec T_X11_seekLayOff_ok 0 (0, .aload_n 0, 1) rfl) ?_
  refine zx_getF (pc := 1) (b := 17) G gf_RX11_76 rfl h_o (zq_11_9 hI h_o) (z_dec T_X11_seekLayOff_ok 1 (1, .getfield 76, 3) rfl) ?_
  refine zx_aload_n (pc := 4) G (a2) 2 rfl rfl (z_dec T_X11_seekLayOff_ok 2 (4, .aload_n 2, 1) rfl) ?_
  refine zx_aload (pc := 5) G (a4) 4 rfl (z_dec T_X11_seekLayOff_ok 3 (5, .aload 4, 2) rfl) ?_
  refine zx_iload_n (pc := 7) G 3 rfl rfl (z_dec T_X11_seekLayOff_ok 4 (7, .iload_n 3, 1) rfl) ?_
  refine zx_callV_vN (pc := 8) (rm := rm_X4_start) G cw_RX11_489 ⟨Nat.le_of_ble_eq_true rfl, Nat.le_of_ble_eq_true rfl⟩ rfl rfl ⟨Nat.zero_le _, Nat.zero_le _⟩ (zk_11_9 hI h_o) rfl (fun sz => (met_X4_start l D ρ kd q μ sz a2 a4 a3 _ hI (zk_11_9 hI h_o) h_a2 h_a4 h)) rfl rfl (Nat.le_of_ble_eq_true rfl) (z_dec T_X11_seekLayOff_ok 5 (8, .invokevirtual 489, 3) rfl) (fun μ1 hn => ?_)
  clear h
  have h := hn
  clear hn
  refine zx_bipush (pc := 11) (v := 100) G (z_dec T_X11_seekLayOff_ok 6 (11, .bipush 100, 2) rfl) rfl ?_
  refine zx_istore (pc := 13) (lv' := [(6, .int ((100 : Int32))), (0, .ref (0)), (1, .int (a1)), (2, va_rf (a2)), (3, .int (a3)), (4, va_rf (a4)), (5, .int (a5))]) G (Nat.le_of_ble_eq_true rfl) rfl (z_dec T_X11_seekLayOff_ok 7 (13, .istore 6, 2) rfl) ?_
  refine zx_sub (lv' := [(0, .ref (0)), (1, .int (a1)), (3, .int (a3)), (4, va_rf (a4)), (5, .int (a5)), (6, .int ((100 : Int32)))]) [1, 2, 4, 5, 6, 0] rfl ?_
  exact L_X11_seekLayOff_15_ok G hr hlk hI h_o h_a4 h
abbrev rm_X11_layOff : Room := { frames := 5, cells := 0, slots := 0, locals := 119 }
set_option maxRecDepth 100000 in
set_option maxHeartbeats 4000000 in
theorem met_X11_layOff (l : Launch) (D : va_G) (ρ : z_A) (kd : z_K) (q : z_Q) (μ : z_M) (sz : Nat) (a1 : Int32) (a2 : Int32) (a3 : Int32) (a4 : Int32) (K : Int32 → z_M → Prop) (hI : z_I kd q) (h_o : kd 0 = some (.inl 11)) (h : C_X11_layOff kd q a1 a2 a3 a4 μ K) : Met l yX11_layOff (z_ws yX11_layOff cX11_layOff 7 (Option.some Jvm.ClassFile.FieldType.int)) rm_X11_layOff (z_Pc D ρ kd q μ sz [.ref (0), .int (a1), .int (a2), .int (a3), .int (a4)]) (z_Qn D (z_Rg ρ sz) ρ kd (z_Ki q K)) 0 0 (z_Rg ρ sz) := by
  refine z_met (rm := rm_X11_layOff) (by decide) (Nat.le_of_ble_eq_true rfl) (fun p e s m args below meth c G hr hlk => ?_)
  unfold C_X11_layOff at h
  show z_X _ _ _ _ _ _ _ _ _ _ _ _ _ _ _ _ _ _ _ _ _ [(0, .ref (0)), (1, .int (a1)), (2, .int (a2)), (3, .int (a3)), (4, .int (a4))] _
  refine zx_aload_n (pc := 0) G (some (0)) 0 rfl rfl (z_dec T_X11_layOff_ok 0 (0, .aload_n 0, 1) rfl) ?_
  refine zx_iload_n (pc := 1) G 1 rfl rfl (z_dec T_X11_layOff_ok 1 (1, .iload_n 1, 1) rfl) ?_
  refine zx_callV_rN (pc := 2) (rm := rm_X11_bookAt) G cw_RX11_141 ⟨Nat.le_of_ble_eq_true rfl, Nat.le_of_ble_eq_true rfl⟩ rfl rfl ⟨Nat.zero_le _, Nat.zero_le _⟩ h_o rfl (fun sz => (met_X11_bookAt l D ρ kd q μ sz a1 _ hI h_o h)) rfl rfl (Nat.le_of_ble_eq_true rfl) (z_dec T_X11_layOff_ok 2 (2, .invokevirtual 141, 3) rfl) (fun r2 μ1 hfr2 hn => ?_)
  clear h
  have h := hn
  clear hn
  refine zx_astore (pc := 5) (lv' := [(5, va_rf (r2)), (0, .ref (0)), (1, .int (a1)), (2, .int (a2)), (3, .int (a3)), (4, .int (a4))]) G (r2) (Nat.le_of_ble_eq_true rfl) rfl (z_dec T_X11_layOff_ok 3 (5, .astore 5, 2) rfl) ?_
  refine zx_aload_n (pc := 7) G (some (0)) 1 rfl rfl (z_dec T_X11_layOff_ok 4 (7, .aload_n 0, 1) rfl) ?_
  refine zx_iload_n (pc := 8) G 3 rfl rfl (z_dec T_X11_layOff_ok 5 (8, .iload_n 2, 1) rfl) ?_
  refine zx_callV_rN (pc := 9) (rm := rm_X11_raceAt) G cw_RX11_98 ⟨Nat.le_of_ble_eq_true rfl, Nat.le_of_ble_eq_true rfl⟩ rfl rfl ⟨Nat.zero_le _, Nat.zero_le _⟩ h_o rfl (fun sz => (met_X11_raceAt l D ρ kd q μ1 sz a2 _ hI h_o h)) rfl rfl (Nat.le_of_ble_eq_true rfl) (z_dec T_X11_layOff_ok 6 (9, .invokevirtual 98, 3) rfl) (fun r4 μ3 hfr4 hn => ?_)
  clear h
  have h := hn
  clear hn
  refine zx_astore (pc := 12) (lv' := [(6, va_rf (r4)), (5, va_rf (r2)), (0, .ref (0)), (1, .int (a1)), (2, .int (a2)), (3, .int (a3)), (4, .int (a4))]) G (r4) (Nat.le_of_ble_eq_true rfl) (by cases r2 <;> rfl) (z_dec T_X11_layOff_ok 7 (12, .astore 6, 2) rfl) ?_
  refine zx_aload (pc := 14) G (r2) 1 rfl (z_dec T_X11_layOff_ok 8 (14, .aload 5, 2) rfl) ?_
  obtain ⟨h1, h2⟩ := h
  rcases r2 with _ | o5
  · replace h := h1 rfl
    refine zx_ifnullN (pc := 16) (tgt := 43) G rfl (z_dec T_X11_layOff_ok 9 (16, .ifnull 27, 3) rfl) ?_
    refine zx_iconst (pc := 43) (v := -1) G (z_dec T_X11_layOff_ok 20 (43, .iconst (-1), 1) rfl) rfl ?_
    exact zx_iret (pc := 44) G hr hlk (Nat.le_refl _) (Nat.le_refl _) (z_dec T_X11_layOff_ok 21 (44, .ireturn, 1) rfl) ⟨rfl, _, rfl, h⟩
  · replace h := h2 o5 rfl
    refine zx_ifnullS (pc := 16) G (hfr2 o5 rfl) (z_dec T_X11_layOff_ok 9 (16, .ifnull 27, 3) rfl) ?_
    refine zx_aload (pc := 19) G (r4) 0 rfl (z_dec T_X11_layOff_ok 10 (19, .aload 6, 2) rfl) ?_
    obtain ⟨h1, h2⟩ := h
    rcases r4 with _ | o6
    · replace h := h1 rfl
      refine zx_ifnullN (pc := 21) (tgt := 43) G rfl (z_dec T_X11_layOff_ok 11 (21, .ifnull 22, 3) rfl) ?_
      refine zx_iconst (pc := 43) (v := -1) G (z_dec T_X11_layOff_ok 20 (43, .iconst (-1), 1) rfl) rfl ?_
      exact zx_iret (pc := 44) G hr hlk (Nat.le_refl _) (Nat.le_refl _) (z_dec T_X11_layOff_ok 21 (44, .ireturn, 1) rfl) ⟨rfl, _, rfl, h⟩
    · replace h := h2 o6 rfl
      refine zx_ifnullS (pc := 21) G (hfr4 o6 rfl) (z_dec T_X11_layOff_ok 11 (21, .ifnull 22, 3) rfl) ?_
      refine zx_aload (pc := 24) G (some (o6)) 0 rfl (z_dec T_X11_layOff_ok 12 (24, .aload 6, 2) rfl) ?_
      refine zx_getZ (pc := 26) G gf_RX11_159 rfl (hfr4 o6 rfl) (z_dec T_X11_layOff_ok 13 (26, .getfield 159, 3) rfl) ?_
      refine zx_if_ne (pc := 29) (tgt := 43) G rfl (z_dec T_X11_layOff_ok 14 (29, .ifCond .ne 14, 3) rfl) (fun hc => ?_) (fun hc => ?_)
      · replace h := z_neg hc h
        refine zx_iconst (pc := 43) (v := -1) G (z_dec T_X11_layOff_ok 20 (43, .iconst (-1), 1) rfl) rfl ?_
        exact zx_iret (pc := 44) G hr hlk (Nat.le_refl _) (Nat.le_refl _) (z_dec T_X11_layOff_ok 21 (44, .ireturn, 1) rfl) ⟨rfl, _, rfl, h⟩
      · replace h := z_pos hc h
        refine zx_iload (pc := 32) G 6 rfl (z_dec T_X11_layOff_ok 15 (32, .iload 4, 2) rfl) ?_
        refine zx_if_lt (pc := 34) (tgt := 43) G rfl (z_dec T_X11_layOff_ok 16 (34, .ifCond .lt 9, 3) rfl) (fun hc => ?_) (fun hc => ?_)
        · replace h := z_pos hc h
          refine zx_iconst (pc := 43) (v := -1) G (z_dec T_X11_layOff_ok 20 (43, .iconst (-1), 1) rfl) rfl ?_
          exact zx_iret (pc := 44) G hr hlk (Nat.le_refl _) (Nat.le_refl _) (z_dec T_X11_layOff_ok 21 (44, .ireturn, 1) rfl) ⟨rfl, _, rfl, h⟩
        · replace h := z_neg hc h
          refine zx_iload (pc := 37) G 6 rfl (z_dec T_X11_layOff_ok 17 (37, .iload 4, 2) rfl) ?_
          refine zx_iconst (pc := 39) (v := 3) G (z_dec T_X11_layOff_ok 18 (39, .iconst 3, 1) rfl) rfl ?_
          refine zx_icmp_le (pc := 40) (tgt := 45) G rfl (z_dec T_X11_layOff_ok 19 (40, .if_icmp .le 5, 3) rfl) (fun hc => ?_) (fun hc => ?_)
          · replace h := z_pos hc h
            refine zx_iload_n (pc := 45) G 5 rfl rfl (z_dec T_X11_layOff_ok 22 (45, .iload_n 3, 1) rfl) ?_
            refine zx_bipush (pc := 46) (v := 100) G (z_dec T_X11_layOff_ok 23 (46, .bipush 100, 2) rfl) rfl ?_
            refine zx_icmp_lt (pc := 48) (tgt := 58) G rfl (z_dec T_X11_layOff_ok 24 (48, .if_icmp .lt 10, 3) rfl) (fun hc => ?_) (fun hc => ?_)
            · replace h := z_pos hc h
              refine zx_iconst (pc := 58) (v := -1) G (z_dec T_X11_layOff_ok 28 (58, .iconst (-1), 1) rfl) rfl ?_
              exact zx_iret (pc := 59) G hr hlk (Nat.le_refl _) (Nat.le_refl _) (z_dec T_X11_layOff_ok 29 (59, .ireturn, 1) rfl) ⟨rfl, _, rfl, h⟩
            · replace h := z_neg hc h
              refine zx_iload_n (pc := 51) G 5 rfl rfl (z_dec T_X11_layOff_ok 25 (51, .iload_n 3, 1) rfl) ?_
              refine zx_sipush (pc := 52) (v := 5000) G (z_dec T_X11_layOff_ok 26 (52, .sipush 5000, 3) rfl) rfl ?_
              refine zx_icmp_le (pc := 55) (tgt := 60) G rfl (z_dec T_X11_layOff_ok 27 (55, .if_icmp .le 5, 3) rfl) (fun hc => ?_) (fun hc => ?_)
              · replace h := z_pos hc h
                refine zx_aload_n (pc := 60) G (some (0)) 2 rfl rfl (z_dec T_X11_layOff_ok 30 (60, .aload_n 0, 1) rfl) ?_
                refine zx_iload_n (pc := 61) G 3 rfl rfl (z_dec T_X11_layOff_ok 31 (61, .iload_n 1, 1) rfl) ?_
                refine zx_aload (pc := 62) G (some (o5)) 1 rfl (z_dec T_X11_layOff_ok 32 (62, .aload 5, 2) rfl) ?_
                refine zx_iload_n (pc := 64) G 4 rfl rfl (z_dec T_X11_layOff_ok 33 (64, .iload_n 2, 1) rfl) ?_
                refine zx_aload (pc := 65) G (some (o6)) 0 rfl (z_dec T_X11_layOff_ok 34 (65, .aload 6, 2) rfl) ?_
                refine zx_iload_n (pc := 67) G 5 rfl rfl (z_dec T_X11_layOff_ok 35 (67, .iload_n 3, 1) rfl) ?_
                refine zx_callV_vN (pc := 68) (rm := rm_X11_seekLayOff) G cw_RX11_321 ⟨Nat.le_of_ble_eq_true rfl, Nat.le_of_ble_eq_true rfl⟩ rfl rfl ⟨Nat.zero_le _, Nat.zero_le _⟩ h_o rfl (fun sz => (met_X11_seekLayOff l D ρ kd q μ3 sz a1 (some o5) a2 (some o6) a3 _ hI h_o (fun a ha => by cases ha; exact (hfr2 o5 rfl)) (fun a ha => by cases ha; exact (hfr4 o6 rfl)) h)) rfl rfl (Nat.le_of_ble_eq_true rfl) (z_dec T_X11_layOff_ok 36 (68, .invokevirtual 321, 3) rfl) (fun μ7 hn => ?_)
                clear h
                have h := hn
                clear hn
                refine zx_aload_n (pc := 71) G (some (0)) 2 rfl rfl (z_dec T_X11_layOff_ok 37 (71, .aload_n 0, 1) rfl) ?_
                refine zx_getF (pc := 72) (b := 17) G gf_RX11_76 rfl h_o (zq_11_9 hI h_o) (z_dec T_X11_layOff_ok 38 (72, .getfield 76, 3) rfl) ?_
                refine zx_getI (pc := 75) G gf_RX11_325 rfl (zk_11_9 hI h_o) (z_dec T_X11_layOff_ok 39 (75, .getfield 325, 3) rfl) ?_
                refine zx_iconst (pc := 78) (v := -1) G (z_dec T_X11_layOff_ok 40 (78, .iconst (-1), 1) rfl) rfl ?_
                refine zx_icmp_ne (pc := 79) (tgt := 85) G rfl (z_dec T_X11_layOff_ok 41 (79, .if_icmp .ne 6, 3) rfl) (fun hc => ?_) (fun hc => ?_)
                · replace h := z_neg hc h
                  refine zx_iload (pc := 85) G 6 rfl (z_dec T_X11_layOff_ok 44 (85, .iload 4, 2) rfl) ?_
                  by_cases n8 : a4 = 0
                  · replace h := z_pos n8 h
                    refine zx_tableIn (pc := 87) (tgt := 112) (off := 25) G (by rw [n8]; decide) (by rw [n8]; decide) (by rw [n8]; rfl) rfl (z_dec T_X11_layOff_ok 45 (87, .tableswitch 49 0 2 #[25, 33, 41], 25) rfl) ?_
                    refine zx_aload_n (pc := 112) G (some (0)) 2 rfl rfl (z_dec T_X11_layOff_ok 46 (112, .aload_n 0, 1) rfl) ?_
                    refine zx_getF (pc := 113) (b := 17) G gf_RX11_76 rfl h_o (zq_11_9 hI h_o) (z_dec T_X11_layOff_ok 47 (113, .getfield 76, 3) rfl) ?_
                    refine zx_getI (pc := 116) G gf_RX11_325 rfl (zk_11_9 hI h_o) (z_dec T_X11_layOff_ok 48 (116, .getfield 325, 3) rfl) ?_
                    exact zx_iret (pc := 119) G hr hlk (Nat.le_refl _) (Nat.le_refl _) (z_dec T_X11_layOff_ok 49 (119, .ireturn, 1) rfl) ⟨rfl, _, rfl, h⟩
                  replace h := z_neg n8 h
                  by_cases n9 : a4 = 1
                  · replace h := z_pos n9 h
                    refine zx_tableIn (pc := 87) (tgt := 120) (off := 33) G (by rw [n9]; decide) (by rw [n9]; decide) (by rw [n9]; rfl) rfl (z_dec T_X11_layOff_ok 45 (87, .tableswitch 49 0 2 #[25, 33, 41], 25) rfl) ?_
                    refine zx_aload_n (pc := 120) G (some (0)) 2 rfl rfl (z_dec T_X11_layOff_ok 50 (120, .aload_n 0, 1) rfl) ?_
                    refine zx_getF (pc := 121) (b := 17) G gf_RX11_76 rfl h_o (zq_11_9 hI h_o) (z_dec T_X11_layOff_ok 51 (121, .getfield 76, 3) rfl) ?_
                    refine zx_getI (pc := 124) G gf_RX11_328 rfl (zk_11_9 hI h_o) (z_dec T_X11_layOff_ok 52 (124, .getfield 328, 3) rfl) ?_
                    exact zx_iret (pc := 127) G hr hlk (Nat.le_refl _) (Nat.le_refl _) (z_dec T_X11_layOff_ok 53 (127, .ireturn, 1) rfl) ⟨rfl, _, rfl, h⟩
                  replace h := z_neg n9 h
                  by_cases n10 : a4 = 2
                  · replace h := z_pos n10 h
                    refine zx_tableIn (pc := 87) (tgt := 128) (off := 41) G (by rw [n10]; decide) (by rw [n10]; decide) (by rw [n10]; rfl) rfl (z_dec T_X11_layOff_ok 45 (87, .tableswitch 49 0 2 #[25, 33, 41], 25) rfl) ?_
                    refine zx_aload_n (pc := 128) G (some (0)) 2 rfl rfl (z_dec T_X11_layOff_ok 54 (128, .aload_n 0, 1) rfl) ?_
                    refine zx_getF (pc := 129) (b := 17) G gf_RX11_76 rfl h_o (zq_11_9 hI h_o) (z_dec T_X11_layOff_ok 55 (129, .getfield 76, 3) rfl) ?_
                    refine zx_getI (pc := 132) G gf_RX11_331 rfl (zk_11_9 hI h_o) (z_dec T_X11_layOff_ok 56 (132, .getfield 331, 3) rfl) ?_
                    exact zx_iret (pc := 135) G hr hlk (Nat.le_refl _) (Nat.le_refl _) (z_dec T_X11_layOff_ok 57 (135, .ireturn, 1) rfl) ⟨rfl, _, rfl, h⟩
                  replace h := z_neg n10 h
                  -- default
                  by_cases hr1 : a4.toInt < 0 ∨ 2 < a4.toInt
                  · refine zx_tableOut (pc := 87) (tgt := 136) G hr1 rfl (z_dec T_X11_layOff_ok 45 (87, .tableswitch 49 0 2 #[25, 33, 41], 25) rfl) ?_
                    refine zx_aload_n (pc := 136) G (some (0)) 2 rfl rfl (z_dec T_X11_layOff_ok 58 (136, .aload_n 0, 1) rfl) ?_
                    refine zx_getF (pc := 137) (b := 17) G gf_RX11_76 rfl h_o (zq_11_9 hI h_o) (z_dec T_X11_layOff_ok 59 (137, .getfield 76, 3) rfl) ?_
                    refine zx_getI (pc := 140) G gf_RX11_334 rfl (zk_11_9 hI h_o) (z_dec T_X11_layOff_ok 60 (140, .getfield 334, 3) rfl) ?_
                    exact zx_iret (pc := 143) G hr hlk (Nat.le_refl _) (Nat.le_refl _) (z_dec T_X11_layOff_ok 61 (143, .ireturn, 1) rfl) ⟨rfl, _, rfl, h⟩
                  · exfalso
                    have t1 : ¬ a4.toInt < 0 := fun q => hr1 (Or.inl q)
                    have t2 : ¬ 2 < a4.toInt := fun q => hr1 (Or.inr q)
                    have u0 : ¬ a4.toInt = 0 := lv_neT n8 rfl
                    have u1 : ¬ a4.toInt = 1 := lv_neT n9 rfl
                    have u2 : ¬ a4.toInt = 2 := lv_neT n10 rfl
                    omega
                · replace h := z_pos hc h
                  refine zx_bipush (pc := 82) (v := -2) G (z_dec T_X11_layOff_ok 42 (82, .bipush (-2), 2) rfl) rfl ?_
                  exact zx_iret (pc := 84) G hr hlk (Nat.le_refl _) (Nat.le_refl _) (z_dec T_X11_layOff_ok 43 (84, .ireturn, 1) rfl) ⟨rfl, _, rfl, h⟩
              · replace h := z_neg hc h
                refine zx_iconst (pc := 58) (v := -1) G (z_dec T_X11_layOff_ok 28 (58, .iconst (-1), 1) rfl) rfl ?_
                exact zx_iret (pc := 59) G hr hlk (Nat.le_refl _) (Nat.le_refl _) (z_dec T_X11_layOff_ok 29 (59, .ireturn, 1) rfl) ⟨rfl, _, rfl, h⟩
          · replace h := z_neg hc h
            refine zx_iconst (pc := 43) (v := -1) G (z_dec T_X11_layOff_ok 20 (43, .iconst (-1), 1) rfl) rfl ?_
            exact zx_iret (pc := 44) G hr hlk (Nat.le_refl _) (Nat.le_refl _) (z_dec T_X11_layOff_ok 21 (44, .ireturn, 1) rfl) ⟨rfl, _, rfl, h⟩
abbrev rm_X11_isBettor : Room := { frames := 0, cells := 0, slots := 0, locals := 0 }
set_option maxRecDepth 100000 in
set_option maxHeartbeats 4000000 in
theorem met_X11_isBettor (l : Launch) (D : va_G) (ρ : z_A) (kd : z_K) (q : z_Q) (μ : z_M) (sz : Nat) (a1 : Int32) (K : Int32 → z_M → Prop) (hI : z_I kd q) (h : C_X11_isBettor kd q a1 μ K) : Met l yX11_isBettor (z_ws yX11_isBettor cX11_isBettor 1 (Option.some Jvm.ClassFile.FieldType.boolean)) rm_X11_isBettor (z_Pc D ρ kd q μ sz [.int (a1)]) (z_Qn D (z_Rg ρ sz) ρ kd (z_Kz q K)) 0 0 (z_Rg ρ sz) := by
  refine z_met (rm := rm_X11_isBettor) (by decide) (Nat.le_of_ble_eq_true rfl) (fun p e s m args below meth c G hr hlk => ?_)
  unfold C_X11_isBettor at h
  show z_X _ _ _ _ _ _ _ _ _ _ _ _ _ _ _ _ _ _ _ _ _ [(0, .int (a1))] _
  refine zx_iload_n (pc := 0) G 0 rfl rfl (z_dec T_X11_isBettor_ok 0 (0, .iload_n 0, 1) rfl) ?_
  refine zx_if_lt (pc := 1) (tgt := 14) G rfl (z_dec T_X11_isBettor_ok 1 (1, .ifCond .lt 13, 3) rfl) (fun hc => ?_) (fun hc => ?_)
  · replace h := z_pos hc h
    refine zx_iconst (pc := 14) (v := 0) G (z_dec T_X11_isBettor_ok 7 (14, .iconst 0, 1) rfl) rfl ?_
    exact zx_zret (pc := 15) G hr hlk (Nat.le_refl _) (Nat.le_refl _) (Or.inl rfl) (z_dec T_X11_isBettor_ok 8 (15, .ireturn, 1) rfl) ⟨rfl, _, rfl, (Or.inl rfl), h⟩
  · replace h := z_neg hc h
    refine zx_iload_n (pc := 4) G 0 rfl rfl (z_dec T_X11_isBettor_ok 2 (4, .iload_n 0, 1) rfl) ?_
    refine zx_bipush (pc := 5) (v := 16) G (z_dec T_X11_isBettor_ok 3 (5, .bipush 16, 2) rfl) rfl ?_
    refine zx_icmp_ge (pc := 7) (tgt := 14) G rfl (z_dec T_X11_isBettor_ok 4 (7, .if_icmp .ge 7, 3) rfl) (fun hc => ?_) (fun hc => ?_)
    · replace h := z_pos hc h
      refine zx_iconst (pc := 14) (v := 0) G (z_dec T_X11_isBettor_ok 7 (14, .iconst 0, 1) rfl) rfl ?_
      exact zx_zret (pc := 15) G hr hlk (Nat.le_refl _) (Nat.le_refl _) (Or.inl rfl) (z_dec T_X11_isBettor_ok 8 (15, .ireturn, 1) rfl) ⟨rfl, _, rfl, (Or.inl rfl), h⟩
    · replace h := z_neg hc h
      refine zx_iconst (pc := 10) (v := 1) G (z_dec T_X11_isBettor_ok 5 (10, .iconst 1, 1) rfl) rfl ?_
      refine zx_goto (pc := 11) (tgt := 15) G rfl (z_dec T_X11_isBettor_ok 6 (11, .goto 4, 3) rfl) ?_
      exact zx_zret (pc := 15) G hr hlk (Nat.le_refl _) (Nat.le_refl _) (Or.inr rfl) (z_dec T_X11_isBettor_ok 8 (15, .ireturn, 1) rfl) ⟨rfl, _, rfl, (Or.inr rfl), h⟩
abbrev rm_X11_isStake : Room := { frames := 0, cells := 0, slots := 0, locals := 0 }
set_option maxRecDepth 100000 in
set_option maxHeartbeats 4000000 in
theorem met_X11_isStake (l : Launch) (D : va_G) (ρ : z_A) (kd : z_K) (q : z_Q) (μ : z_M) (sz : Nat) (a1 : Int32) (K : Int32 → z_M → Prop) (hI : z_I kd q) (h : C_X11_isStake kd q a1 μ K) : Met l yX11_isStake (z_ws yX11_isStake cX11_isStake 1 (Option.some Jvm.ClassFile.FieldType.boolean)) rm_X11_isStake (z_Pc D ρ kd q μ sz [.int (a1)]) (z_Qn D (z_Rg ρ sz) ρ kd (z_Kz q K)) 0 0 (z_Rg ρ sz) := by
  refine z_met (rm := rm_X11_isStake) (by decide) (Nat.le_of_ble_eq_true rfl) (fun p e s m args below meth c G hr hlk => ?_)
  unfold C_X11_isStake at h
  show z_X _ _ _ _ _ _ _ _ _ _ _ _ _ _ _ _ _ _ _ _ _ [(0, .int (a1))] _
  refine zx_iload_n (pc := 0) G 0 rfl rfl (z_dec T_X11_isStake_ok 0 (0, .iload_n 0, 1) rfl) ?_
  refine zx_iconst (pc := 1) (v := 1) G (z_dec T_X11_isStake_ok 1 (1, .iconst 1, 1) rfl) rfl ?_
  refine zx_icmp_lt (pc := 2) (tgt := 16) G rfl (z_dec T_X11_isStake_ok 2 (2, .if_icmp .lt 14, 3) rfl) (fun hc => ?_) (fun hc => ?_)
  · replace h := z_pos hc h
    refine zx_iconst (pc := 16) (v := 0) G (z_dec T_X11_isStake_ok 8 (16, .iconst 0, 1) rfl) rfl ?_
    exact zx_zret (pc := 17) G hr hlk (Nat.le_refl _) (Nat.le_refl _) (Or.inl rfl) (z_dec T_X11_isStake_ok 9 (17, .ireturn, 1) rfl) ⟨rfl, _, rfl, (Or.inl rfl), h⟩
  · replace h := z_neg hc h
    refine zx_iload_n (pc := 5) G 0 rfl rfl (z_dec T_X11_isStake_ok 3 (5, .iload_n 0, 1) rfl) ?_
    refine zx_sipush (pc := 6) (v := 20000) G (z_dec T_X11_isStake_ok 4 (6, .sipush 20000, 3) rfl) rfl ?_
    refine zx_icmp_gt (pc := 9) (tgt := 16) G rfl (z_dec T_X11_isStake_ok 5 (9, .if_icmp .gt 7, 3) rfl) (fun hc => ?_) (fun hc => ?_)
    · replace h := z_pos hc h
      refine zx_iconst (pc := 16) (v := 0) G (z_dec T_X11_isStake_ok 8 (16, .iconst 0, 1) rfl) rfl ?_
      exact zx_zret (pc := 17) G hr hlk (Nat.le_refl _) (Nat.le_refl _) (Or.inl rfl) (z_dec T_X11_isStake_ok 9 (17, .ireturn, 1) rfl) ⟨rfl, _, rfl, (Or.inl rfl), h⟩
    · replace h := z_neg hc h
      refine zx_iconst (pc := 12) (v := 1) G (z_dec T_X11_isStake_ok 6 (12, .iconst 1, 1) rfl) rfl ?_
      refine zx_goto (pc := 13) (tgt := 17) G rfl (z_dec T_X11_isStake_ok 7 (13, .goto 4, 3) rfl) ?_
      exact zx_zret (pc := 17) G hr hlk (Nat.le_refl _) (Nat.le_refl _) (Or.inr rfl) (z_dec T_X11_isStake_ok 9 (17, .ireturn, 1) rfl) ⟨rfl, _, rfl, (Or.inr rfl), h⟩
abbrev rm_X11_tryBook : Room := { frames := 339, cells := 0, slots := 0, locals := 17074 }
set_option maxRecDepth 100000 in
set_option maxHeartbeats 4000000 in
theorem L_X11_tryBook_164_ok {p : Program} {l : Launch} {e : Env} {s : State} {m : MethodId} {args : Array Value} {below : List Frame} {meth : Method} {c : Code} {D : va_G} {A : Nat → Prop} {ρ : z_A} {kd : z_K} {q : z_Q} {μ : z_M} {K : z_Q → z_M → Prop} {v2 : Int32} {v4 : Int32} {v6 : Nat} {v7 : Int32} {v8 : Int32} {v9 : Int32} (G : z_G p c cX11_tryBook s m args RX11 11 D) (hr : meth.sig.returnType = (Option.none : Option Jvm.ClassFile.FieldType)) (hlk : meth.locks = false) (hI : z_I kd q) (f_l0 : kd 0 = some (.inl 11)) (f_l6 : kd v6 = some (.inl 1)) (h : L_X11_tryBook_164 kd K v2 v4 v6 v7 v8 v9 q μ) : z_X p l e rm_X11_tryBook s m args below meth c 11 D A (MQ below (z_Qn D A ρ kd (z_KvQ kd K)) args s 0 0 A) 0 0 ρ kd q μ 164 [(0, .ref (0)), (2, .int (v2)), (4, .int (v4)), (6, .ref (v6)), (7, .int (v7)), (8, .int (v8)), (9, .int (v9))] [] := by
    unfold L_X11_tryBook_164 at h
    refine zx_aload (pc := 164) G (some (v6)) 3 rfl (z_dec T_X11_tryBook_ok 80 (164, .aload 6, 2) rfl) ?_
    refine zx_iload (pc := 166) G 4 rfl (z_dec T_X11_tryBook_ok 81 (166, .iload 7, 2) rfl) ?_
    refine zx_iload (pc := 168) G 6 rfl (z_dec T_X11_tryBook_ok 82 (168, .iload 9, 2) rfl) ?_
    refine zx_ineg (pc := 170) G  (z_dec T_X11_tryBook_ok 83 (170, .ineg, 1) rfl) ?_
    refine zx_callV_vN (pc := 171) (rm := rm_X1_rides) G cw_RX11_406 ⟨Nat.le_of_ble_eq_true rfl, Nat.le_of_ble_eq_true rfl⟩ rfl rfl ⟨Nat.zero_le _, Nat.zero_le _⟩ f_l6 rfl (fun sz => (met_X1_rides l D ρ kd q μ sz v6 v7 (0 - v9) _ hI f_l6 h)) rfl rfl (Nat.le_of_ble_eq_true rfl) (z_dec T_X11_tryBook_ok 84 (171, .invokevirtual 406, 3) rfl) (fun μ1 hn => ?_)
    clear h
    have h := hn
    clear hn
    refine zx_aload (pc := 174) G (some (v6)) 3 rfl (z_dec T_X11_tryBook_ok 85 (174, .aload 6, 2) rfl) ?_
    refine zx_iload (pc := 176) G 4 rfl (z_dec T_X11_tryBook_ok 86 (176, .iload 7, 2) rfl) ?_
    refine zx_iload (pc := 178) G 6 rfl (z_dec T_X11_tryBook_ok 87 (178, .iload 9, 2) rfl) ?_
    refine zx_ineg (pc := 180) G  (z_dec T_X11_tryBook_ok 88 (180, .ineg, 1) rfl) ?_
    refine zx_iload (pc := 181) G 2 rfl (z_dec T_X11_tryBook_ok 89 (181, .iload 4, 2) rfl) ?_
    refine zx_imul (pc := 183) G  (z_dec T_X11_tryBook_ok 90 (183, .imul, 1) rfl) ?_
    refine zx_iload (pc := 184) G 5 rfl (z_dec T_X11_tryBook_ok 91 (184, .iload 8, 2) rfl) ?_
    refine zx_ineg (pc := 186) G  (z_dec T_X11_tryBook_ok 92 (186, .ineg, 1) rfl) ?_
    refine zx_callV_vN (pc := 187) (rm := rm_X1_owes) G cw_RX11_418 ⟨Nat.le_of_ble_eq_true rfl, Nat.le_of_ble_eq_true rfl⟩ rfl rfl ⟨Nat.zero_le _, Nat.zero_le _⟩ f_l6 rfl (fun sz => (met_X1_owes l D ρ kd q μ1 sz v6 v7 ((0 - v9) * v4) (0 - v8) _ hI f_l6 h)) rfl rfl (Nat.le_of_ble_eq_true rfl) (z_dec T_X11_tryBook_ok 93 (187, .invokevirtual 418, 3) rfl) (fun μ2 hn => ?_)
    clear h
    have h := hn
    clear hn
    refine zx_aload_n (pc := 190) G (some (0)) 0 rfl rfl (z_dec T_X11_tryBook_ok 94 (190, .aload_n 0, 1) rfl) ?_
    refine zx_getF (pc := 191) (b := 19) G gf_RX11_83 rfl f_l0 (zq_11_10 hI f_l0) (z_dec T_X11_tryBook_ok 95 (191, .getfield 83, 3) rfl) ?_
    refine zx_aload (pc := 194) G (some (v6)) 3 rfl (z_dec T_X11_tryBook_ok 96 (194, .aload 6, 2) rfl) ?_
    refine zx_iload_n (pc := 196) G 1 rfl rfl (z_dec T_X11_tryBook_ok 97 (196, .iload_n 2, 1) rfl) ?_
    refine zx_callV_vN (pc := 197) (rm := rm_X5_giveBack) G cw_RX11_506 ⟨Nat.le_of_ble_eq_true rfl, Nat.le_of_ble_eq_true rfl⟩ rfl rfl ⟨Nat.zero_le _, Nat.zero_le _⟩ (zk_11_10 hI f_l0) rfl (fun sz => (met_X5_giveBack l D ρ kd q μ2 sz (some v6) v2 _ hI (zk_11_10 hI f_l0) (fun a ha => by cases ha; exact f_l6) h)) rfl rfl (Nat.le_of_ble_eq_true rfl) (z_dec T_X11_tryBook_ok 98 (197, .invokevirtual 506, 3) rfl) (fun μ3 hn => ?_)
    clear h
    have h := hn
    clear hn
    exact zx_vret (pc := 200) G hr hlk (Nat.le_refl _) (Nat.le_refl _) (z_dec T_X11_tryBook_ok 99 (200, .return_, 1) rfl) ⟨hI, rfl, h⟩
set_option maxRecDepth 100000 in
set_option maxHeartbeats 4000000 in
theorem B_X11_tryBook_55_ok {p : Program} {l : Launch} {e : Env} {s : State} {m : MethodId} {args : Array Value} {below : List Frame} {meth : Method} {c : Code} {D : va_G} {A : Nat → Prop} {ρ : z_A} {kd : z_K} {q : z_Q} {μ : z_M} {K : z_Q → z_M → Prop} {P55 : Int32 → Int32 → Int32 → Int32 → Nat → Int32 → Int32 → Int32 → z_Q → z_M → Prop} {v1 : Int32} {v2 : Int32} {v4 : Int32} {v5 : Int32} {v6 : Nat} {v7 : Int32} {v8 : Int32} {v9 : Int32} (G : z_G p c cX11_tryBook s m args RX11 11 D) (hr : meth.sig.returnType = (Option.none : Option Jvm.ClassFile.FieldType)) (hlk : meth.locks = false) (hP55 : ∀ (v1 : Int32) (v2 : Int32) (v4 : Int32) (v5 : Int32) (v6 : Nat) (v7 : Int32) (v8 : Int32) (v9 : Int32) (q : z_Q) (μ : z_M), P55 v1 v2 v4 v5 v6 v7 v8 v9 q μ → z_I kd q → (kd 0 = some (.inl 11)) → (kd v6 = some (.inl 1)) → z_X p l e rm_X11_tryBook s m args below meth c 11 D A (MQ below (z_Qn D A ρ kd (z_KvQ kd K)) args s 0 0 A) 0 0 ρ kd q μ 55 [(0, .ref (0)), (1, .int (v1)), (2, .int (v2)), (4, .int (v4)), (5, .int (v5)), (6, .ref (v6)), (7, .int (v7)), (8, .int (v8)), (9, .int (v9))] []) (hI : z_I kd q) (f_l0 : kd 0 = some (.inl 11)) (f_l6 : kd v6 = some (.inl 1)) (h : B_X11_tryBook_55 kd K P55 v1 v2 v4 v5 v6 v7 v8 v9 q μ) : z_X p l e rm_X11_tryBook s m args below meth c 11 D A (MQ below (z_Qn D A ρ kd (z_KvQ kd K)) args s 0 0 A) 0 0 ρ kd q μ 55 [(0, .ref (0)), (1, .int (v1)), (2, .int (v2)), (4, .int (v4)), (5, .int (v5)), (6, .ref (v6)), (7, .int (v7)), (8, .int (v8)), (9, .int (v9))] [] := by
    unfold B_X11_tryBook_55 at h
    refine zx_iload (pc := 55) G 8 rfl (z_dec T_X11_tryBook_ok 29 (55, .iload 9, 2) rfl) ?_
    refine zx_iload (pc := 57) G 4 rfl (z_dec T_X11_tryBook_ok 30 (57, .iload 5, 2) rfl) ?_
    refine zx_icmp_ge (pc := 59) (tgt := 164) G rfl (z_dec T_X11_tryBook_ok 31 (59, .if_icmp .ge 105, 3) rfl) (fun hc => ?_) (fun hc => ?_)
    · replace h := z_pos hc h
      refine zx_sub (lv' := [(0, .ref (0)), (2, .int (v2)), (4, .int (v4)), (6, .ref (v6)), (7, .int (v7)), (8, .int (v8)), (9, .int (v9))]) [0, 2, 3, 5, 6, 7, 8] rfl ?_
      exact L_X11_tryBook_164_ok G hr hlk hI f_l0 f_l6 h
    · replace h := z_neg hc h
      refine zx_aload (pc := 62) G (some (v6)) 5 rfl (z_dec T_X11_tryBook_ok 32 (62, .aload 6, 2) rfl) ?_
      refine zx_getF (pc := 64) (b := v6 + 1) G gf_RX11_166 rfl f_l6 (zq_1_3 hI f_l6) (z_dec T_X11_tryBook_ok 33 (64, .getfield 166, 3) rfl) ?_
      refine zx_iload (pc := 67) G 6 rfl (z_dec T_X11_tryBook_ok 34 (67, .iload 7, 2) rfl) ?_
      obtain ⟨c1, h⟩ := h
      refine zx_iald (pc := 69) G (zk_1_3 hI f_l6) c1 (z_dec T_X11_tryBook_ok 35 (69, .iaload, 1) rfl) ?_
      refine zx_iconst (pc := 70) (v := -1) G (z_dec T_X11_tryBook_ok 36 (70, .iconst (-1), 1) rfl) rfl ?_
      refine zx_icmp_eq (pc := 71) (tgt := 164) G rfl (z_dec T_X11_tryBook_ok 37 (71, .if_icmp .eq 93, 3) rfl) (fun hc => ?_) (fun hc => ?_)
      · replace h := z_pos hc h
        refine zx_sub (lv' := [(0, .ref (0)), (2, .int (v2)), (4, .int (v4)), (6, .ref (v6)), (7, .int (v7)), (8, .int (v8)), (9, .int (v9))]) [0, 2, 3, 5, 6, 7, 8] rfl ?_
        exact L_X11_tryBook_164_ok G hr hlk hI f_l0 f_l6 h
      · replace h := z_neg hc h
        refine zx_aload_n (pc := 74) G (some (0)) 0 rfl rfl (z_dec T_X11_tryBook_ok 38 (74, .aload_n 0, 1) rfl) ?_
        refine zx_getF (pc := 75) (b := 3) G gf_RX11_19 rfl f_l0 (zq_11_1 hI f_l0) (z_dec T_X11_tryBook_ok 39 (75, .getfield 19, 3) rfl) ?_
        refine zx_iload (pc := 78) G 3 rfl (z_dec T_X11_tryBook_ok 40 (78, .iload 4, 2) rfl) ?_
        refine zx_aload (pc := 80) G (some (v6)) 5 rfl (z_dec T_X11_tryBook_ok 41 (80, .aload 6, 2) rfl) ?_
        refine zx_getF (pc := 82) (b := v6 + 1) G gf_RX11_166 rfl f_l6 (zq_1_3 hI f_l6) (z_dec T_X11_tryBook_ok 42 (82, .getfield 166, 3) rfl) ?_
        refine zx_iload (pc := 85) G 6 rfl (z_dec T_X11_tryBook_ok 43 (85, .iload 7, 2) rfl) ?_
        refine zx_iald (pc := 87) G (zk_1_3 hI f_l6) c1 (z_dec T_X11_tryBook_ok 44 (87, .iaload, 1) rfl) ?_
        refine zx_callV_iN (pc := 88) (rm := rm_X3_won) G cw_RX11_415 ⟨Nat.le_of_ble_eq_true rfl, Nat.le_of_ble_eq_true rfl⟩ rfl rfl ⟨Nat.zero_le _, Nat.zero_le _⟩ (zk_11_1 hI f_l0) rfl (fun sz => (met_X3_won l D ρ kd q μ sz 3 v4 (μ.1 (v6 + 1) v7.toNatClampNeg) _ hI (zk_11_1 hI f_l0) h)) rfl rfl (Nat.le_of_ble_eq_true rfl) (z_dec T_X11_tryBook_ok 45 (88, .invokevirtual 415, 3) rfl) (fun r3 μ2 hn => ?_)
        clear h
        have h := hn
        clear hn
        refine zx_istore (pc := 91) (lv' := [(10, .int (r3)), (0, .ref (0)), (1, .int (v1)), (2, .int (v2)), (4, .int (v4)), (5, .int (v5)), (6, .ref (v6)), (7, .int (v7)), (8, .int (v8)), (9, .int (v9))]) G (Nat.le_of_ble_eq_true rfl) rfl (z_dec T_X11_tryBook_ok 46 (91, .istore 10, 2) rfl) ?_
        refine zx_iload (pc := 93) G 8 rfl (z_dec T_X11_tryBook_ok 47 (93, .iload 8, 2) rfl) ?_
        refine zx_iload (pc := 95) G 0 rfl (z_dec T_X11_tryBook_ok 48 (95, .iload 10, 2) rfl) ?_
        refine zx_iadd (pc := 97) G  (z_dec T_X11_tryBook_ok 49 (97, .iadd, 1) rfl) ?_
        refine zx_istore (pc := 98) (lv' := [(8, .int (v8 + r3)), (10, .int (r3)), (0, .ref (0)), (1, .int (v1)), (2, .int (v2)), (4, .int (v4)), (5, .int (v5)), (6, .ref (v6)), (7, .int (v7)), (9, .int (v9))]) G (Nat.le_of_ble_eq_true rfl) rfl (z_dec T_X11_tryBook_ok 50 (98, .istore 8, 2) rfl) ?_
        refine zx_iinc (pc := 100) (v := v9 + 1) (lv' := [(9, .int (v9 + 1)), (8, .int (v8 + r3)), (10, .int (r3)), (0, .ref (0)), (1, .int (v1)), (2, .int (v2)), (4, .int (v4)), (5, .int (v5)), (6, .ref (v6)), (7, .int (v7))]) G 9 rfl (z_inc (by decide)) (Nat.le_of_ble_eq_true rfl) rfl (z_dec T_X11_tryBook_ok 51 (100, .iinc 9 1, 3) rfl) ?_
        refine zx_aload_n (pc := 103) G (some (0)) 3 rfl rfl (z_dec T_X11_tryBook_ok 52 (103, .aload_n 0, 1) rfl) ?_
        refine zx_getF (pc := 104) (b := 19) G gf_RX11_83 rfl f_l0 (zq_11_10 hI f_l0) (z_dec T_X11_tryBook_ok 53 (104, .getfield 83, 3) rfl) ?_
        refine zx_iload_n (pc := 107) G 4 rfl rfl (z_dec T_X11_tryBook_ok 54 (107, .iload_n 1, 1) rfl) ?_
        refine zx_iload (pc := 108) G 0 rfl (z_dec T_X11_tryBook_ok 55 (108, .iload 9, 2) rfl) ?_
        refine zx_iload (pc := 110) G 1 rfl (z_dec T_X11_tryBook_ok 56 (110, .iload 8, 2) rfl) ?_
        refine zx_callV_vN (pc := 112) (rm := rm_X5_note) G cw_RX11_503 ⟨Nat.le_of_ble_eq_true rfl, Nat.le_of_ble_eq_true rfl⟩ rfl rfl ⟨Nat.zero_le _, Nat.zero_le _⟩ (zk_11_10 hI f_l0) rfl (fun sz => (met_X5_note l D ρ kd q μ2 sz v1 (v9 + 1) (v8 + r3) _ hI (zk_11_10 hI f_l0) h)) rfl rfl (Nat.le_of_ble_eq_true rfl) (z_dec T_X11_tryBook_ok 57 (112, .invokevirtual 503, 3) rfl) (fun μ4 hn => ?_)
        clear h
        have h := hn
        clear hn
        refine zx_aload (pc := 115) G (some (v6)) 8 rfl (z_dec T_X11_tryBook_ok 58 (115, .aload 6, 2) rfl) ?_
        refine zx_iload (pc := 117) G 9 rfl (z_dec T_X11_tryBook_ok 59 (117, .iload 7, 2) rfl) ?_
        refine zx_iconst (pc := 119) (v := 1) G (z_dec T_X11_tryBook_ok 60 (119, .iconst 1, 1) rfl) rfl ?_
        refine zx_callV_vN (pc := 120) (rm := rm_X1_rides) G cw_RX11_406 ⟨Nat.le_of_ble_eq_true rfl, Nat.le_of_ble_eq_true rfl⟩ rfl rfl ⟨Nat.zero_le _, Nat.zero_le _⟩ f_l6 rfl (fun sz => (met_X1_rides l D ρ kd q μ4 sz v6 v7 ((1 : Int32)) _ hI f_l6 h)) rfl rfl (Nat.le_of_ble_eq_true rfl) (z_dec T_X11_tryBook_ok 61 (120, .invokevirtual 406, 3) rfl) (fun μ5 hn => ?_)
        clear h
        have h := hn
        clear hn
        refine zx_aload (pc := 123) G (some (v6)) 8 rfl (z_dec T_X11_tryBook_ok 62 (123, .aload 6, 2) rfl) ?_
        refine zx_iload (pc := 125) G 9 rfl (z_dec T_X11_tryBook_ok 63 (125, .iload 7, 2) rfl) ?_
        refine zx_iload (pc := 127) G 6 rfl (z_dec T_X11_tryBook_ok 64 (127, .iload 4, 2) rfl) ?_
        refine zx_iload (pc := 129) G 2 rfl (z_dec T_X11_tryBook_ok 65 (129, .iload 10, 2) rfl) ?_
        refine zx_callV_vN (pc := 131) (rm := rm_X1_owes) G cw_RX11_418 ⟨Nat.le_of_ble_eq_true rfl, Nat.le_of_ble_eq_true rfl⟩ rfl rfl ⟨Nat.zero_le _, Nat.zero_le _⟩ f_l6 rfl (fun sz => (met_X1_owes l D ρ kd q μ5 sz v6 v7 v4 r3 _ hI f_l6 h)) rfl rfl (Nat.le_of_ble_eq_true rfl) (z_dec T_X11_tryBook_ok 66 (131, .invokevirtual 418, 3) rfl) (fun μ6 hn => ?_)
        clear h
        have h := hn
        clear hn
        refine zx_aload (pc := 134) G (some (v6)) 8 rfl (z_dec T_X11_tryBook_ok 67 (134, .aload 6, 2) rfl) ?_
        refine zx_getI (pc := 136) G gf_RX11_402 rfl f_l6 (z_dec T_X11_tryBook_ok 68 (136, .getfield 402, 3) rfl) ?_
        refine zx_if_le (pc := 139) (tgt := 161) G rfl (z_dec T_X11_tryBook_ok 69 (139, .ifCond .le 22, 3) rfl) (fun hc => ?_) (fun hc => ?_)
        · replace h := z_pos hc h
          refine zx_goto (pc := 161) (tgt := 55) G rfl (z_dec T_X11_tryBook_ok 79 (161, .goto (-106), 3) rfl) ?_
          refine zx_sub (lv' := [(0, .ref (0)), (1, .int (v1)), (2, .int (v2)), (4, .int (v4)), (5, .int (v5)), (6, .ref (v6)), (7, .int (v7)), (8, .int (v8 + r3)), (9, .int (v9 + 1))]) [3, 4, 5, 6, 7, 8, 9, 1, 0] rfl ?_
          exact hP55 _ _ _ _ _ _ _ _ _ _ h hI f_l0 f_l6
        · replace h := z_neg hc h
          refine zx_aload_n (pc := 142) G (some (0)) 3 rfl rfl (z_dec T_X11_tryBook_ok 70 (142, .aload_n 0, 1) rfl) ?_
          refine zx_getF (pc := 143) (b := 10) G gf_RX11_55 rfl f_l0 (zq_11_6 hI f_l0) (z_dec T_X11_tryBook_ok 71 (143, .getfield 55, 3) rfl) ?_
          refine zx_aload (pc := 146) G (some (v6)) 8 rfl (z_dec T_X11_tryBook_ok 72 (146, .aload 6, 2) rfl) ?_
          refine zx_getF (pc := 148) (b := v6 + 7) G gf_RX11_426 rfl f_l6 (zq_1_9 hI f_l6) (z_dec T_X11_tryBook_ok 73 (148, .getfield 426, 3) rfl) ?_
          refine zx_aload (pc := 151) G (some (v6)) 8 rfl (z_dec T_X11_tryBook_ok 74 (151, .aload 6, 2) rfl) ?_
          refine zx_getI (pc := 153) G gf_RX11_429 rfl f_l6 (z_dec T_X11_tryBook_ok 75 (153, .getfield 429, 3) rfl) ?_
          refine zx_iconst (pc := 156) (v := 1) G (z_dec T_X11_tryBook_ok 76 (156, .iconst 1, 1) rfl) rfl ?_
          refine zx_callV_iQ (pc := 157) (rm := rm_X7_read) G cw_RX11_148 ⟨Nat.le_of_ble_eq_true rfl, Nat.le_of_ble_eq_true rfl⟩ rfl rfl ⟨Nat.zero_le _, Nat.zero_le _⟩ (zk_11_6 hI f_l0) rfl (fun sz => (met_X7_read l D ρ kd q μ6 sz (some (v6 + 7)) (μ6.1 v6 10) ((1 : Int32)) _ hI (zk_11_6 hI f_l0) (fun a ha => by cases ha; exact (z_lenf (zk_1_9 hI f_l6))) (Or.inr rfl) h)) rfl rfl (Nat.le_of_ble_eq_true rfl) (z_dec T_X11_tryBook_ok 77 (157, .invokevirtual 148, 3) rfl) (fun r9 q8 hI10 μ7 hn => ?_)
          clear h
          have h := hn
          clear hn
          refine zx_pop (pc := 160) G rfl (z_dec T_X11_tryBook_ok 78 (160, .pop, 1) rfl) ?_
          refine zx_goto (pc := 161) (tgt := 55) G rfl (z_dec T_X11_tryBook_ok 79 (161, .goto (-106), 3) rfl) ?_
          refine zx_sub (lv' := [(0, .ref (0)), (1, .int (v1)), (2, .int (v2)), (4, .int (v4)), (5, .int (v5)), (6, .ref (v6)), (7, .int (v7)), (8, .int (v8 + r3)), (9, .int (v9 + 1))]) [3, 4, 5, 6, 7, 8, 9, 1, 0] rfl ?_
          exact hP55 _ _ _ _ _ _ _ _ _ _ h hI10 f_l0 f_l6
set_option maxRecDepth 100000 in
set_option maxHeartbeats 4000000 in
theorem L_X11_tryBook_55_ok {p : Program} {l : Launch} {e : Env} {s : State} {m : MethodId} {args : Array Value} {below : List Frame} {meth : Method} {c : Code} {D : va_G} {A : Nat → Prop} {ρ : z_A} {kd : z_K} {q : z_Q} {μ : z_M} {K : z_Q → z_M → Prop} {v1 : Int32} {v2 : Int32} {v4 : Int32} {v5 : Int32} {v6 : Nat} {v7 : Int32} {v8 : Int32} {v9 : Int32} (G : z_G p c cX11_tryBook s m args RX11 11 D) (hr : meth.sig.returnType = (Option.none : Option Jvm.ClassFile.FieldType)) (hlk : meth.locks = false) (hI : z_I kd q) (f_l0 : kd 0 = some (.inl 11)) (f_l6 : kd v6 = some (.inl 1)) (h : L_X11_tryBook_55 kd K v1 v2 v4 v5 v6 v7 v8 v9 q μ) : z_X p l e rm_X11_tryBook s m args below meth c 11 D A (MQ below (z_Qn D A ρ kd (z_KvQ kd K)) args s 0 0 A) 0 0 ρ kd q μ 55 [(0, .ref (0)), (1, .int (v1)), (2, .int (v2)), (4, .int (v4)), (5, .int (v5)), (6, .ref (v6)), (7, .int (v7)), (8, .int (v8)), (9, .int (v9))] [] :=
  h (fun (v1 : Int32) (v2 : Int32) (v4 : Int32) (v5 : Int32) (v6 : Nat) (v7 : Int32) (v8 : Int32) (v9 : Int32) (q : z_Q) (μ : z_M) => z_I kd q → (kd 0 = some (.inl 11)) → (kd v6 = some (.inl 1)) → z_X p l e rm_X11_tryBook s m args below meth c 11 D A (MQ below (z_Qn D A ρ kd (z_KvQ kd K)) args s 0 0 A) 0 0 ρ kd q μ 55 [(0, .ref (0)), (1, .int (v1)), (2, .int (v2)), (4, .int (v4)), (5, .int (v5)), (6, .ref (v6)), (7, .int (v7)), (8, .int (v8)), (9, .int (v9))] []) (fun v1 v2 v4 v5 v6 v7 v8 v9 q μ h hI f_l0 f_l6 => B_X11_tryBook_55_ok G hr hlk (fun _ _ _ _ _ _ _ _ _ _ h => h) hI f_l0 f_l6 h) hI f_l0 f_l6
set_option maxRecDepth 100000 in
set_option maxHeartbeats 4000000 in
theorem met_X11_tryBook (l : Launch) (D : va_G) (ρ : z_A) (kd : z_K) (q : z_Q) (μ : z_M) (sz : Nat) (a1 : Int32) (a2 : Int32) (a3 : Int32) (a4 : Int32) (a5 : Int32) (K : z_Q → z_M → Prop) (hI : z_I kd q) (h_o : kd 0 = some (.inl 11)) (h : C_X11_tryBook kd q a1 a2 a3 a4 a5 μ K) : Met l yX11_tryBook (z_ws yX11_tryBook cX11_tryBook 11 (Option.none : Option Jvm.ClassFile.FieldType)) rm_X11_tryBook (z_Pc D ρ kd q μ sz [.ref (0), .int (a1), .int (a2), .int (a3), .int (a4), .int (a5)]) (z_Qn D (z_Rg ρ sz) ρ kd (z_KvQ kd K)) 0 0 (z_Rg ρ sz) := by
  refine z_met (rm := rm_X11_tryBook) (by decide) (Nat.le_of_ble_eq_true rfl) (fun p e s m args below meth c G hr hlk => ?_)
  unfold C_X11_tryBook at h
  show z_X _ _ _ _ _ _ _ _ _ _ _ _ _ _ _ _ _ _ _ _ _ [(0, .ref (0)), (1, .int (a1)), (2, .int (a2)), (3, .int (a3)), (4, .int (a4)), (5, .int (a5))] _
  refine zx_aload_n (pc := 0) G (some (0)) 0 rfl rfl (z_dec T_X11_tryBook_ok 0 (0, .aload_n 0, 1) rfl) ?_
  refine zx_iload_n (pc := 1) G 1 rfl rfl (z_dec T_X11_tryBook_ok 1 (1, .iload_n 1, 1) rfl) ?_
  refine zx_callV_rN (pc := 2) (rm := rm_X11_bookAt) G cw_RX11_141 ⟨Nat.le_of_ble_eq_true rfl, Nat.le_of_ble_eq_true rfl⟩ rfl rfl ⟨Nat.zero_le _, Nat.zero_le _⟩ h_o rfl (fun sz => (met_X11_bookAt l D ρ kd q μ sz a1 _ hI h_o h)) rfl rfl (Nat.le_of_ble_eq_true rfl) (z_dec T_X11_tryBook_ok 2 (2, .invokevirtual 141, 3) rfl) (fun r2 μ1 hfr2 hn => ?_)
  clear h
  have h := hn
  clear hn
  refine zx_astore (pc := 5) (lv' := [(6, va_rf (r2)), (0, .ref (0)), (1, .int (a1)), (2, .int (a2)), (3, .int (a3)), (4, .int (a4)), (5, .int (a5))]) G (r2) (Nat.le_of_ble_eq_true rfl) rfl (z_dec T_X11_tryBook_ok 3 (5, .astore 6, 2) rfl) ?_
  refine zx_aload (pc := 7) G (r2) 0 rfl (z_dec T_X11_tryBook_ok 4 (7, .aload 6, 2) rfl) ?_
  obtain ⟨h1, h2⟩ := h
  rcases r2 with _ | o3
  · replace h := h1 rfl
    refine zx_ifnullN (pc := 9) (tgt := 20) G rfl (z_dec T_X11_tryBook_ok 5 (9, .ifnull 11, 3) rfl) ?_
    exact zx_vret (pc := 20) G hr hlk (Nat.le_refl _) (Nat.le_refl _) (z_dec T_X11_tryBook_ok 9 (20, .return_, 1) rfl) ⟨hI, rfl, h⟩
  · replace h := h2 o3 rfl
    refine zx_ifnullS (pc := 9) G (hfr2 o3 rfl) (z_dec T_X11_tryBook_ok 5 (9, .ifnull 11, 3) rfl) ?_
    refine zx_aload (pc := 12) G (some (o3)) 0 rfl (z_dec T_X11_tryBook_ok 6 (12, .aload 6, 2) rfl) ?_
    refine zx_getZ (pc := 14) G gf_RX11_278 rfl (hfr2 o3 rfl) (z_dec T_X11_tryBook_ok 7 (14, .getfield 278, 3) rfl) ?_
    refine zx_if_eq (pc := 17) (tgt := 21) G rfl (z_dec T_X11_tryBook_ok 8 (17, .ifCond .eq 4, 3) rfl) (fun hc => ?_) (fun hc => ?_)
    · replace h := z_pos hc h
      refine zx_iload_n (pc := 21) G 3 rfl rfl (z_dec T_X11_tryBook_ok 10 (21, .iload_n 2, 1) rfl) ?_
      refine zx_iload_n (pc := 22) G 4 rfl rfl (z_dec T_X11_tryBook_ok 11 (22, .iload_n 3, 1) rfl) ?_
      refine zx_callS_iN (pc := 23) (rm := rm_X11_spot) G cw_RX11_168 ⟨Nat.le_of_ble_eq_true rfl, Nat.le_of_ble_eq_true rfl⟩ rfl rfl ⟨Nat.zero_le _, Nat.zero_le _⟩ (fun sz => (met_X11_spot l D ρ kd q μ1 sz a2 a3 _ hI h)) rfl rfl (Nat.le_of_ble_eq_true rfl) (z_dec T_X11_tryBook_ok 12 (23, .invokestatic 168, 3) rfl) (fun r5 μ4 hn => ?_)
      clear h
      have h := hn
      clear hn
      refine zx_istore (pc := 26) (lv' := [(7, .int (r5)), (6, .ref (o3)), (0, .ref (0)), (1, .int (a1)), (2, .int (a2)), (3, .int (a3)), (4, .int (a4)), (5, .int (a5))]) G (Nat.le_of_ble_eq_true rfl) rfl (z_dec T_X11_tryBook_ok 13 (26, .istore 7, 2) rfl) ?_
      refine zx_iconst (pc := 28) (v := 0) G (z_dec T_X11_tryBook_ok 14 (28, .iconst 0, 1) rfl) rfl ?_
      refine zx_istore (pc := 29) (lv' := [(8, .int ((0 : Int32))), (7, .int (r5)), (6, .ref (o3)), (0, .ref (0)), (1, .int (a1)), (2, .int (a2)), (3, .int (a3)), (4, .int (a4)), (5, .int (a5))]) G (Nat.le_of_ble_eq_true rfl) rfl (z_dec T_X11_tryBook_ok 15 (29, .istore 8, 2) rfl) ?_
      refine zx_iconst (pc := 31) (v := 0) G (z_dec T_X11_tryBook_ok 16 (31, .iconst 0, 1) rfl) rfl ?_
      refine zx_istore (pc := 32) (lv' := [(9, .int ((0 : Int32))), (8, .int ((0 : Int32))), (7, .int (r5)), (6, .ref (o3)), (0, .ref (0)), (1, .int (a1)), (2, .int (a2)), (3, .int (a3)), (4, .int (a4)), (5, .int (a5))]) G (Nat.le_of_ble_eq_true rfl) rfl (z_dec T_X11_tryBook_ok 17 (32, .istore 9, 2) rfl) ?_
      refine zx_aload_n (pc := 34) G (some (0)) 4 rfl rfl (z_dec T_X11_tryBook_ok 18 (34, .aload_n 0, 1) rfl) ?_
      refine zx_getF (pc := 35) (b := 19) G gf_RX11_83 rfl h_o (zq_11_10 hI h_o) (z_dec T_X11_tryBook_ok 19 (35, .getfield 83, 3) rfl) ?_
      refine zx_aload (pc := 38) G (some (o3)) 3 rfl (z_dec T_X11_tryBook_ok 20 (38, .aload 6, 2) rfl) ?_
      refine zx_iload_n (pc := 40) G 6 rfl rfl (z_dec T_X11_tryBook_ok 21 (40, .iload_n 2, 1) rfl) ?_
      refine zx_callV_vN (pc := 41) (rm := rm_X5_keep) G cw_RX11_500 ⟨Nat.le_of_ble_eq_true rfl, Nat.le_of_ble_eq_true rfl⟩ rfl rfl ⟨Nat.zero_le _, Nat.zero_le _⟩ (zk_11_10 hI h_o) rfl (fun sz => (met_X5_keep l D ρ kd q μ4 sz (some o3) a2 _ hI (zk_11_10 hI h_o) (fun a ha => by cases ha; exact (hfr2 o3 rfl)) h)) rfl rfl (Nat.le_of_ble_eq_true rfl) (z_dec T_X11_tryBook_ok 22 (41, .invokevirtual 500, 3) rfl) (fun μ6 hn => ?_)
      clear h
      have h := hn
      clear hn
      refine zx_aload_n (pc := 44) G (some (0)) 4 rfl rfl (z_dec T_X11_tryBook_ok 23 (44, .aload_n 0, 1) rfl) ?_
      refine zx_getF (pc := 45) (b := 9) G gf_RX11_46 rfl h_o (zq_11_5 hI h_o) (z_dec T_X11_tryBook_ok 24 (45, .getfield 46, 3) rfl) ?_
      refine zx_aload (pc := 48) G (some (o3)) 3 rfl (z_dec T_X11_tryBook_ok 25 (48, .aload 6, 2) rfl) ?_
      refine zx_iload_n (pc := 50) G 6 rfl rfl (z_dec T_X11_tryBook_ok 26 (50, .iload_n 2, 1) rfl) ?_
      refine zx_iload_n (pc := 51) G 7 rfl rfl (z_dec T_X11_tryBook_ok 27 (51, .iload_n 3, 1) rfl) ?_
      refine zx_callV_vQ (pc := 52) (rm := rm_X8_setPlace) G cw_RX11_422 ⟨Nat.le_of_ble_eq_true rfl, Nat.le_of_ble_eq_true rfl⟩ rfl rfl ⟨Nat.zero_le _, Nat.zero_le _⟩ (zk_11_5 hI h_o) rfl (fun sz => (met_X8_setPlace l D ρ kd q μ6 sz (some o3) a2 a3 _ hI (zk_11_5 hI h_o) (fun a ha => by cases ha; exact (hfr2 o3 rfl)) h)) rfl rfl (Nat.le_of_ble_eq_true rfl) (z_dec T_X11_tryBook_ok 28 (52, .invokevirtual 422, 3) rfl) (fun q8 hI9 μ7 hn => ?_)
      clear h
      have h := hn
      clear hn
      refine zx_sub (lv' := [(0, .ref (0)), (1, .int (a1)), (2, .int (a2)), (4, .int (a4)), (5, .int (a5)), (6, .ref (o3)), (7, .int (r5)), (8, .int ((0 : Int32))), (9, .int ((0 : Int32)))]) [4, 5, 6, 8, 9, 3, 2, 1, 0] rfl ?_
      exact L_X11_tryBook_55_ok G hr hlk hI9 h_o (hfr2 o3 rfl) h
    · replace h := z_neg hc h
      exact zx_vret (pc := 20) G hr hlk (Nat.le_refl _) (Nat.le_refl _) (z_dec T_X11_tryBook_ok 9 (20, .return_, 1) rfl) ⟨hI, rfl, h⟩
abbrev rm_X11_plan : Room := { frames := 340, cells := 0, slots := 0, locals := 17104 }
set_option maxRecDepth 100000 in
set_option maxHeartbeats 4000000 in
theorem B_X11_plan_97_ok {p : Program} {l : Launch} {e : Env} {s : State} {m : MethodId} {args : Array Value} {below : List Frame} {meth : Method} {c : Code} {D : va_G} {A : Nat → Prop} {ρ : z_A} {kd : z_K} {q : z_Q} {μ : z_M} {K : Int32 → z_Q → z_M → Prop} {P97 : Int32 → Int32 → Int32 → Int32 → Int32 → Int32 → z_Q → z_M → Prop} {v2 : Int32} {v3 : Int32} {v4 : Int32} {v5 : Int32} {v6 : Int32} {v8 : Int32} (G : z_G p c cX11_plan s m args RX11 9 D) (hr : meth.sig.returnType = (Option.some Jvm.ClassFile.FieldType.int)) (hlk : meth.locks = false) (hP97 : ∀ (v2 : Int32) (v3 : Int32) (v4 : Int32) (v5 : Int32) (v6 : Int32) (v8 : Int32) (q : z_Q) (μ : z_M), P97 v2 v3 v4 v5 v6 v8 q μ → z_I kd q → (kd 0 = some (.inl 11)) → z_X p l e rm_X11_plan s m args below meth c 9 D A (MQ below (z_Qn D A ρ kd (z_KiQ kd K)) args s 0 0 A) 0 0 ρ kd q μ 97 [(0, .ref (0)), (2, .int (v2)), (3, .int (v3)), (4, .int (v4)), (5, .int (v5)), (6, .int (v6)), (8, .int (v8))] []) (hI : z_I kd q) (f_l0 : kd 0 = some (.inl 11)) (h : B_X11_plan_97 kd K P97 v2 v3 v4 v5 v6 v8 q μ) : z_X p l e rm_X11_plan s m args below meth c 9 D A (MQ below (z_Qn D A ρ kd (z_KiQ kd K)) args s 0 0 A) 0 0 ρ kd q μ 97 [(0, .ref (0)), (2, .int (v2)), (3, .int (v3)), (4, .int (v4)), (5, .int (v5)), (6, .int (v6)), (8, .int (v8))] [] := by
    unfold B_X11_plan_97 at h
    refine zx_iload (pc := 97) G 6 rfl (z_dec T_X11_plan_ok 47 (97, .iload 8, 2) rfl) ?_
    refine zx_aload_n (pc := 99) G (some (0)) 0 rfl rfl (z_dec T_X11_plan_ok 48 (99, .aload_n 0, 1) rfl) ?_
    refine zx_getI (pc := 100) G gf_RX11_114 rfl f_l0 (z_dec T_X11_plan_ok 49 (100, .getfield 114, 3) rfl) ?_
    refine zx_icmp_ge (pc := 103) (tgt := 124) G rfl (z_dec T_X11_plan_ok 50 (103, .if_icmp .ge 21, 3) rfl) (fun hc => ?_) (fun hc => ?_)
    · replace h := z_pos hc h
      refine zx_aload_n (pc := 124) G (some (0)) 0 rfl rfl (z_dec T_X11_plan_ok 60 (124, .aload_n 0, 1) rfl) ?_
      refine zx_getF (pc := 125) (b := 19) G gf_RX11_83 rfl f_l0 (zq_11_10 hI f_l0) (z_dec T_X11_plan_ok 61 (125, .getfield 83, 3) rfl) ?_
      refine zx_iload (pc := 128) G 4 rfl (z_dec T_X11_plan_ok 62 (128, .iload 5, 2) rfl) ?_
      refine zx_callV_vN (pc := 130) (rm := rm_X5_seek) G cw_RX11_349 ⟨Nat.le_of_ble_eq_true rfl, Nat.le_of_ble_eq_true rfl⟩ rfl rfl ⟨Nat.zero_le _, Nat.zero_le _⟩ (zk_11_10 hI f_l0) rfl (fun sz => (met_X5_seek l D ρ kd q μ sz v5 _ hI (zk_11_10 hI f_l0) h)) rfl rfl (Nat.le_of_ble_eq_true rfl) (z_dec T_X11_plan_ok 63 (130, .invokevirtual 349, 3) rfl) (fun μ1 hn => ?_)
      clear h
      have h := hn
      clear hn
      refine zx_aload_n (pc := 133) G (some (0)) 0 rfl rfl (z_dec T_X11_plan_ok 64 (133, .aload_n 0, 1) rfl) ?_
      refine zx_getF (pc := 134) (b := 19) G gf_RX11_83 rfl f_l0 (zq_11_10 hI f_l0) (z_dec T_X11_plan_ok 65 (134, .getfield 83, 3) rfl) ?_
      refine zx_getI (pc := 137) G gf_RX11_350 rfl (zk_11_10 hI f_l0) (z_dec T_X11_plan_ok 66 (137, .getfield 350, 3) rfl) ?_
      refine zx_iconst (pc := 140) (v := -1) G (z_dec T_X11_plan_ok 67 (140, .iconst (-1), 1) rfl) rfl ?_
      refine zx_icmp_ne (pc := 141) (tgt := 147) G rfl (z_dec T_X11_plan_ok 68 (141, .if_icmp .ne 6, 3) rfl) (fun hc => ?_) (fun hc => ?_)
      · replace h := z_neg hc h
        refine zx_iload (pc := 147) G 5 rfl (z_dec T_X11_plan_ok 71 (147, .iload 6, 2) rfl) ?_
        refine zx_iconst (pc := 149) (v := -1) G (z_dec T_X11_plan_ok 72 (149, .iconst (-1), 1) rfl) rfl ?_
        refine zx_icmp_ne (pc := 150) (tgt := 163) G rfl (z_dec T_X11_plan_ok 73 (150, .if_icmp .ne 13, 3) rfl) (fun hc => ?_) (fun hc => ?_)
        · replace h := z_neg hc h
          refine zx_aload_n (pc := 163) G (some (0)) 0 rfl rfl (z_dec T_X11_plan_ok 78 (163, .aload_n 0, 1) rfl) ?_
          refine zx_getF (pc := 164) (b := 19) G gf_RX11_83 rfl f_l0 (zq_11_10 hI f_l0) (z_dec T_X11_plan_ok 79 (164, .getfield 83, 3) rfl) ?_
          refine zx_iload (pc := 167) G 5 rfl (z_dec T_X11_plan_ok 80 (167, .iload 6, 2) rfl) ?_
          refine zx_iload (pc := 169) G 4 rfl (z_dec T_X11_plan_ok 81 (169, .iload 5, 2) rfl) ?_
          refine zx_callV_iN (pc := 171) (rm := rm_X5_bookOf) G cw_RX11_353 ⟨Nat.le_of_ble_eq_true rfl, Nat.le_of_ble_eq_true rfl⟩ rfl rfl ⟨Nat.zero_le _, Nat.zero_le _⟩ (zk_11_10 hI f_l0) rfl (fun sz => (met_X5_bookOf l D ρ kd q μ1 sz v6 v5 _ hI (zk_11_10 hI f_l0) h)) rfl rfl (Nat.le_of_ble_eq_true rfl) (z_dec T_X11_plan_ok 82 (171, .invokevirtual 353, 3) rfl) (fun r3 μ2 hn => ?_)
          clear h
          have h := hn
          clear hn
          exact zx_iret (pc := 174) G hr hlk (Nat.le_refl _) (Nat.le_refl _) (z_dec T_X11_plan_ok 83 (174, .ireturn, 1) rfl) ⟨hI, _, rfl, h⟩
        · replace h := z_pos hc h
          refine zx_aload_n (pc := 153) G (some (0)) 0 rfl rfl (z_dec T_X11_plan_ok 74 (153, .aload_n 0, 1) rfl) ?_
          refine zx_getF (pc := 154) (b := 19) G gf_RX11_83 rfl f_l0 (zq_11_10 hI f_l0) (z_dec T_X11_plan_ok 75 (154, .getfield 83, 3) rfl) ?_
          refine zx_getI (pc := 157) G gf_RX11_350 rfl (zk_11_10 hI f_l0) (z_dec T_X11_plan_ok 76 (157, .getfield 350, 3) rfl) ?_
          refine zx_goto (pc := 160) (tgt := 174) G rfl (z_dec T_X11_plan_ok 77 (160, .goto 14, 3) rfl) ?_
          exact zx_iret (pc := 174) G hr hlk (Nat.le_refl _) (Nat.le_refl _) (z_dec T_X11_plan_ok 83 (174, .ireturn, 1) rfl) ⟨hI, _, rfl, h⟩
      · replace h := z_pos hc h
        refine zx_bipush (pc := 144) (v := -2) G (z_dec T_X11_plan_ok 69 (144, .bipush (-2), 2) rfl) rfl ?_
        exact zx_iret (pc := 146) G hr hlk (Nat.le_refl _) (Nat.le_refl _) (z_dec T_X11_plan_ok 70 (146, .ireturn, 1) rfl) ⟨hI, _, rfl, h⟩
    · replace h := z_neg hc h
      refine zx_aload_n (pc := 106) G (some (0)) 0 rfl rfl (z_dec T_X11_plan_ok 51 (106, .aload_n 0, 1) rfl) ?_
      refine zx_iload (pc := 107) G 6 rfl (z_dec T_X11_plan_ok 52 (107, .iload 8, 2) rfl) ?_
      refine zx_iload_n (pc := 109) G 1 rfl rfl (z_dec T_X11_plan_ok 53 (109, .iload_n 2, 1) rfl) ?_
      refine zx_iload_n (pc := 110) G 2 rfl rfl (z_dec T_X11_plan_ok 54 (110, .iload_n 3, 1) rfl) ?_
      refine zx_iload (pc := 111) G 3 rfl (z_dec T_X11_plan_ok 55 (111, .iload 4, 2) rfl) ?_
      refine zx_iload (pc := 113) G 4 rfl (z_dec T_X11_plan_ok 56 (113, .iload 5, 2) rfl) ?_
      refine zx_callV_vQ (pc := 115) (rm := rm_X11_tryBook) G cw_RX11_346 ⟨Nat.le_of_ble_eq_true rfl, Nat.le_of_ble_eq_true rfl⟩ rfl rfl ⟨Nat.zero_le _, Nat.zero_le _⟩ f_l0 rfl (fun sz => (met_X11_tryBook l D ρ kd q μ sz v8 v2 v3 v4 v5 _ hI f_l0 h)) rfl rfl (Nat.le_of_ble_eq_true rfl) (z_dec T_X11_plan_ok 57 (115, .invokevirtual 346, 3) rfl) (fun q5 hI6 μ4 hn => ?_)
      clear h
      have h := hn
      clear hn
      refine zx_iinc (pc := 118) (v := v8 + 1) (lv' := [(8, .int (v8 + 1)), (0, .ref (0)), (2, .int (v2)), (3, .int (v3)), (4, .int (v4)), (5, .int (v5)), (6, .int (v6))]) G 6 rfl (z_inc (by decide)) (Nat.le_of_ble_eq_true rfl) rfl (z_dec T_X11_plan_ok 58 (118, .iinc 8 1, 3) rfl) ?_
      refine zx_goto (pc := 121) (tgt := 97) G rfl (z_dec T_X11_plan_ok 59 (121, .goto (-24), 3) rfl) ?_
      refine zx_sub (lv' := [(0, .ref (0)), (2, .int (v2)), (3, .int (v3)), (4, .int (v4)), (5, .int (v5)), (6, .int (v6)), (8, .int (v8 + 1))]) [1, 2, 3, 4, 5, 6, 0] rfl ?_
      exact hP97 _ _ _ _ _ _ _ _ h hI6 f_l0
set_option maxRecDepth 100000 in
set_option maxHeartbeats 4000000 in
theorem L_X11_plan_97_ok {p : Program} {l : Launch} {e : Env} {s : State} {m : MethodId} {args : Array Value} {below : List Frame} {meth : Method} {c : Code} {D : va_G} {A : Nat → Prop} {ρ : z_A} {kd : z_K} {q : z_Q} {μ : z_M} {K : Int32 → z_Q → z_M → Prop} {v2 : Int32} {v3 : Int32} {v4 : Int32} {v5 : Int32} {v6 : Int32} {v8 : Int32} (G : z_G p c cX11_plan s m args RX11 9 D) (hr : meth.sig.returnType = (Option.some Jvm.ClassFile.FieldType.int)) (hlk : meth.locks = false) (hI : z_I kd q) (f_l0 : kd 0 = some (.inl 11)) (h : L_X11_plan_97 kd K v2 v3 v4 v5 v6 v8 q μ) : z_X p l e rm_X11_plan s m args below meth c 9 D A (MQ below (z_Qn D A ρ kd (z_KiQ kd K)) args s 0 0 A) 0 0 ρ kd q μ 97 [(0, .ref (0)), (2, .int (v2)), (3, .int (v3)), (4, .int (v4)), (5, .int (v5)), (6, .int (v6)), (8, .int (v8))] [] :=
  h (fun (v2 : Int32) (v3 : Int32) (v4 : Int32) (v5 : Int32) (v6 : Int32) (v8 : Int32) (q : z_Q) (μ : z_M) => z_I kd q → (kd 0 = some (.inl 11)) → z_X p l e rm_X11_plan s m args below meth c 9 D A (MQ below (z_Qn D A ρ kd (z_KiQ kd K)) args s 0 0 A) 0 0 ρ kd q μ 97 [(0, .ref (0)), (2, .int (v2)), (3, .int (v3)), (4, .int (v4)), (5, .int (v5)), (6, .int (v6)), (8, .int (v8))] []) (fun v2 v3 v4 v5 v6 v8 q μ h hI f_l0 => B_X11_plan_97_ok G hr hlk (fun _ _ _ _ _ _ _ _ h => h) hI f_l0 h) hI f_l0
set_option maxRecDepth 100000 in
set_option maxHeartbeats 4000000 in
theorem met_X11_plan (l : Launch) (D : va_G) (ρ : z_A) (kd : z_K) (q : z_Q) (μ : z_M) (sz : Nat) (a1 : Int32) (a2 : Int32) (a3 : Int32) (a4 : Int32) (a5 : Int32) (a6 : Int32) (K : Int32 → z_Q → z_M → Prop) (hI : z_I kd q) (h_o : kd 0 = some (.inl 11)) (h : C_X11_plan kd q a1 a2 a3 a4 a5 a6 μ K) : Met l yX11_plan (z_ws yX11_plan cX11_plan 9 (Option.some Jvm.ClassFile.FieldType.int)) rm_X11_plan (z_Pc D ρ kd q μ sz [.ref (0), .int (a1), .int (a2), .int (a3), .int (a4), .int (a5), .int (a6)]) (z_Qn D (z_Rg ρ sz) ρ kd (z_KiQ kd K)) 0 0 (z_Rg ρ sz) := by
  refine z_met (rm := rm_X11_plan) (by decide) (Nat.le_of_ble_eq_true rfl) (fun p e s m args below meth c G hr hlk => ?_)
  unfold C_X11_plan at h
  show z_X _ _ _ _ _ _ _ _ _ _ _ _ _ _ _ _ _ _ _ _ _ [(0, .ref (0)), (1, .int (a1)), (2, .int (a2)), (3, .int (a3)), (4, .int (a4)), (5, .int (a5)), (6, .int (a6))] _
  refine zx_aload_n (pc := 0) G (some (0)) 0 rfl rfl (z_dec T_X11_plan_ok 0 (0, .aload_n 0, 1) rfl) ?_
  refine zx_iload_n (pc := 1) G 2 rfl rfl (z_dec T_X11_plan_ok 1 (1, .iload_n 2, 1) rfl) ?_
  refine zx_callV_rN (pc := 2) (rm := rm_X11_raceAt) G cw_RX11_98 ⟨Nat.le_of_ble_eq_true rfl, Nat.le_of_ble_eq_true rfl⟩ rfl rfl ⟨Nat.zero_le _, Nat.zero_le _⟩ h_o rfl (fun sz => (met_X11_raceAt l D ρ kd q μ sz a2 _ hI h_o h)) rfl rfl (Nat.le_of_ble_eq_true rfl) (z_dec T_X11_plan_ok 2 (2, .invokevirtual 98, 3) rfl) (fun r2 μ1 hfr2 hn => ?_)
  clear h
  have h := hn
  clear hn
  refine zx_astore (pc := 5) (lv' := [(7, va_rf (r2)), (0, .ref (0)), (1, .int (a1)), (2, .int (a2)), (3, .int (a3)), (4, .int (a4)), (5, .int (a5)), (6, .int (a6))]) G (r2) (Nat.le_of_ble_eq_true rfl) rfl (z_dec T_X11_plan_ok 3 (5, .astore 7, 2) rfl) ?_
  refine zx_aload (pc := 7) G (r2) 0 rfl (z_dec T_X11_plan_ok 4 (7, .aload 7, 2) rfl) ?_
  obtain ⟨h1, h2⟩ := h
  rcases r2 with _ | o3
  · replace h := h1 rfl
    refine zx_ifnullN (pc := 9) (tgt := 44) G rfl (z_dec T_X11_plan_ok 5 (9, .ifnull 35, 3) rfl) ?_
    refine zx_iconst (pc := 44) (v := -1) G (z_dec T_X11_plan_ok 19 (44, .iconst (-1), 1) rfl) rfl ?_
    exact zx_iret (pc := 45) G hr hlk (Nat.le_refl _) (Nat.le_refl _) (z_dec T_X11_plan_ok 20 (45, .ireturn, 1) rfl) ⟨hI, _, rfl, h⟩
  · replace h := h2 o3 rfl
    refine zx_ifnullS (pc := 9) G (hfr2 o3 rfl) (z_dec T_X11_plan_ok 5 (9, .ifnull 35, 3) rfl) ?_
    refine zx_aload (pc := 12) G (some (o3)) 0 rfl (z_dec T_X11_plan_ok 6 (12, .aload 7, 2) rfl) ?_
    refine zx_getZ (pc := 14) G gf_RX11_159 rfl (hfr2 o3 rfl) (z_dec T_X11_plan_ok 7 (14, .getfield 159, 3) rfl) ?_
    refine zx_if_ne (pc := 17) (tgt := 44) G rfl (z_dec T_X11_plan_ok 8 (17, .ifCond .ne 27, 3) rfl) (fun hc => ?_) (fun hc => ?_)
    · replace h := z_neg hc h
      refine zx_iconst (pc := 44) (v := -1) G (z_dec T_X11_plan_ok 19 (44, .iconst (-1), 1) rfl) rfl ?_
      exact zx_iret (pc := 45) G hr hlk (Nat.le_refl _) (Nat.le_refl _) (z_dec T_X11_plan_ok 20 (45, .ireturn, 1) rfl) ⟨hI, _, rfl, h⟩
    · replace h := z_pos hc h
      refine zx_aload (pc := 20) G (some (o3)) 0 rfl (z_dec T_X11_plan_ok 9 (20, .aload 7, 2) rfl) ?_
      refine zx_iload_n (pc := 22) G 4 rfl rfl (z_dec T_X11_plan_ok 10 (22, .iload_n 3, 1) rfl) ?_
      refine zx_callV_zN (pc := 23) (rm := rm_X6_runs) G cw_RX11_156 ⟨Nat.le_of_ble_eq_true rfl, Nat.le_of_ble_eq_true rfl⟩ rfl rfl ⟨Nat.zero_le _, Nat.zero_le _⟩ (hfr2 o3 rfl) rfl (fun sz => (met_X6_runs l D ρ kd q μ1 sz o3 a3 _ hI (hfr2 o3 rfl) h)) rfl rfl (Nat.le_of_ble_eq_true rfl) (z_dec T_X11_plan_ok 11 (23, .invokevirtual 156, 3) rfl) (fun r5 μ4 hzr5 hn => ?_)
      clear h
      have h := hn
      clear hn
      refine zx_if_eq (pc := 26) (tgt := 44) G rfl (z_dec T_X11_plan_ok 12 (26, .ifCond .eq 18, 3) rfl) (fun hc => ?_) (fun hc => ?_)
      · replace h := z_pos hc h
        refine zx_iconst (pc := 44) (v := -1) G (z_dec T_X11_plan_ok 19 (44, .iconst (-1), 1) rfl) rfl ?_
        exact zx_iret (pc := 45) G hr hlk (Nat.le_refl _) (Nat.le_refl _) (z_dec T_X11_plan_ok 20 (45, .ireturn, 1) rfl) ⟨hI, _, rfl, h⟩
      · replace h := z_neg hc h
        refine zx_iload_n (pc := 29) G 2 rfl rfl (z_dec T_X11_plan_ok 13 (29, .iload_n 1, 1) rfl) ?_
        refine zx_callS_zN (pc := 30) (rm := rm_X11_isBettor) G cw_RX11_336 ⟨Nat.le_of_ble_eq_true rfl, Nat.le_of_ble_eq_true rfl⟩ rfl rfl ⟨Nat.zero_le _, Nat.zero_le _⟩ (fun sz => (met_X11_isBettor l D ρ kd q μ4 sz a1 _ hI h)) rfl rfl (Nat.le_of_ble_eq_true rfl) (z_dec T_X11_plan_ok 14 (30, .invokestatic 336, 3) rfl) (fun r7 μ6 hzr7 hn => ?_)
        clear h
        have h := hn
        clear hn
        refine zx_if_eq (pc := 33) (tgt := 44) G rfl (z_dec T_X11_plan_ok 15 (33, .ifCond .eq 11, 3) rfl) (fun hc => ?_) (fun hc => ?_)
        · replace h := z_pos hc h
          refine zx_iconst (pc := 44) (v := -1) G (z_dec T_X11_plan_ok 19 (44, .iconst (-1), 1) rfl) rfl ?_
          exact zx_iret (pc := 45) G hr hlk (Nat.le_refl _) (Nat.le_refl _) (z_dec T_X11_plan_ok 20 (45, .ireturn, 1) rfl) ⟨hI, _, rfl, h⟩
        · replace h := z_neg hc h
          refine zx_iload (pc := 36) G 5 rfl (z_dec T_X11_plan_ok 16 (36, .iload 4, 2) rfl) ?_
          refine zx_callS_zN (pc := 38) (rm := rm_X11_isStake) G cw_RX11_339 ⟨Nat.le_of_ble_eq_true rfl, Nat.le_of_ble_eq_true rfl⟩ rfl rfl ⟨Nat.zero_le _, Nat.zero_le _⟩ (fun sz => (met_X11_isStake l D ρ kd q μ6 sz a4 _ hI h)) rfl rfl (Nat.le_of_ble_eq_true rfl) (z_dec T_X11_plan_ok 17 (38, .invokestatic 339, 3) rfl) (fun r9 μ8 hzr9 hn => ?_)
          clear h
          have h := hn
          clear hn
          refine zx_if_ne (pc := 41) (tgt := 46) G rfl (z_dec T_X11_plan_ok 18 (41, .ifCond .ne 5, 3) rfl) (fun hc => ?_) (fun hc => ?_)
          · replace h := z_neg hc h
            refine zx_iload (pc := 46) G 6 rfl (z_dec T_X11_plan_ok 21 (46, .iload 5, 2) rfl) ?_
            refine zx_iconst (pc := 48) (v := 1) G (z_dec T_X11_plan_ok 22 (48, .iconst 1, 1) rfl) rfl ?_
            refine zx_icmp_lt (pc := 49) (tgt := 71) G rfl (z_dec T_X11_plan_ok 23 (49, .if_icmp .lt 22, 3) rfl) (fun hc => ?_) (fun hc => ?_)
            · replace h := z_pos hc h
              refine zx_iconst (pc := 71) (v := -1) G (z_dec T_X11_plan_ok 33 (71, .iconst (-1), 1) rfl) rfl ?_
              exact zx_iret (pc := 72) G hr hlk (Nat.le_refl _) (Nat.le_refl _) (z_dec T_X11_plan_ok 34 (72, .ireturn, 1) rfl) ⟨hI, _, rfl, h⟩
            · replace h := z_neg hc h
              refine zx_iload (pc := 52) G 6 rfl (z_dec T_X11_plan_ok 24 (52, .iload 5, 2) rfl) ?_
              refine zx_iconst (pc := 54) (v := 4) G (z_dec T_X11_plan_ok 25 (54, .iconst 4, 1) rfl) rfl ?_
              refine zx_icmp_gt (pc := 55) (tgt := 71) G rfl (z_dec T_X11_plan_ok 26 (55, .if_icmp .gt 16, 3) rfl) (fun hc => ?_) (fun hc => ?_)
              · replace h := z_pos hc h
                refine zx_iconst (pc := 71) (v := -1) G (z_dec T_X11_plan_ok 33 (71, .iconst (-1), 1) rfl) rfl ?_
                exact zx_iret (pc := 72) G hr hlk (Nat.le_refl _) (Nat.le_refl _) (z_dec T_X11_plan_ok 34 (72, .ireturn, 1) rfl) ⟨hI, _, rfl, h⟩
              · replace h := z_neg hc h
                refine zx_iload (pc := 58) G 7 rfl (z_dec T_X11_plan_ok 27 (58, .iload 6, 2) rfl) ?_
                refine zx_iconst (pc := 60) (v := -1) G (z_dec T_X11_plan_ok 28 (60, .iconst (-1), 1) rfl) rfl ?_
                refine zx_icmp_lt (pc := 61) (tgt := 71) G rfl (z_dec T_X11_plan_ok 29 (61, .if_icmp .lt 10, 3) rfl) (fun hc => ?_) (fun hc => ?_)
                · replace h := z_pos hc h
                  refine zx_iconst (pc := 71) (v := -1) G (z_dec T_X11_plan_ok 33 (71, .iconst (-1), 1) rfl) rfl ?_
                  exact zx_iret (pc := 72) G hr hlk (Nat.le_refl _) (Nat.le_refl _) (z_dec T_X11_plan_ok 34 (72, .ireturn, 1) rfl) ⟨hI, _, rfl, h⟩
                · replace h := z_neg hc h
                  refine zx_iload (pc := 64) G 7 rfl (z_dec T_X11_plan_ok 30 (64, .iload 6, 2) rfl) ?_
                  refine zx_iload (pc := 66) G 6 rfl (z_dec T_X11_plan_ok 31 (66, .iload 5, 2) rfl) ?_
                  refine zx_icmp_lt (pc := 68) (tgt := 73) G rfl (z_dec T_X11_plan_ok 32 (68, .if_icmp .lt 5, 3) rfl) (fun hc => ?_) (fun hc => ?_)
                  · replace h := z_pos hc h
                    refine zx_aload_n (pc := 73) G (some (0)) 1 rfl rfl (z_dec T_X11_plan_ok 35 (73, .aload_n 0, 1) rfl) ?_
                    refine zx_getF (pc := 74) (b := 19) G gf_RX11_83 rfl h_o (zq_11_10 hI h_o) (z_dec T_X11_plan_ok 36 (74, .getfield 83, 3) rfl) ?_
                    refine zx_callV_vN (pc := 77) (rm := rm_X5_clear) G cw_RX11_342 ⟨Nat.le_of_ble_eq_true rfl, Nat.le_of_ble_eq_true rfl⟩ rfl rfl ⟨Nat.zero_le _, Nat.zero_le _⟩ (zk_11_10 hI h_o) rfl (fun sz => (met_X5_clear l D ρ kd q μ8 sz  _ hI (zk_11_10 hI h_o) h)) rfl rfl (Nat.le_of_ble_eq_true rfl) (z_dec T_X11_plan_ok 37 (77, .invokevirtual 342, 3) rfl) (fun μ10 hn => ?_)
                    clear h
                    have h := hn
                    clear hn
                    refine zx_aload_n (pc := 80) G (some (0)) 1 rfl rfl (z_dec T_X11_plan_ok 38 (80, .aload_n 0, 1) rfl) ?_
                    refine zx_getF (pc := 81) (b := 9) G gf_RX11_46 rfl h_o (zq_11_5 hI h_o) (z_dec T_X11_plan_ok 39 (81, .getfield 46, 3) rfl) ?_
                    refine zx_iload_n (pc := 84) G 2 rfl rfl (z_dec T_X11_plan_ok 40 (84, .iload_n 1, 1) rfl) ?_
                    refine zx_iload (pc := 85) G 5 rfl (z_dec T_X11_plan_ok 41 (85, .iload 4, 2) rfl) ?_
                    refine zx_aload_n (pc := 87) G (some (0)) 1 rfl rfl (z_dec T_X11_plan_ok 42 (87, .aload_n 0, 1) rfl) ?_
                    refine zx_getI (pc := 88) G gf_RX11_91 rfl h_o (z_dec T_X11_plan_ok 43 (88, .getfield 91, 3) rfl) ?_
                    refine zx_callV_vN (pc := 91) (rm := rm_X8_setBettor) G cw_RX11_343 ⟨Nat.le_of_ble_eq_true rfl, Nat.le_of_ble_eq_true rfl⟩ rfl rfl ⟨Nat.zero_le _, Nat.zero_le _⟩ (zk_11_5 hI h_o) rfl (fun sz => (met_X8_setBettor l D ρ kd q μ10 sz a1 a4 (μ10.1 0 12) _ hI (zk_11_5 hI h_o) h)) rfl rfl (Nat.le_of_ble_eq_true rfl) (z_dec T_X11_plan_ok 44 (91, .invokevirtual 343, 3) rfl) (fun μ11 hn => ?_)
                    clear h
                    have h := hn
                    clear hn
                    refine zx_iconst (pc := 94) (v := 0) G (z_dec T_X11_plan_ok 45 (94, .iconst 0, 1) rfl) rfl ?_
                    refine zx_istore (pc := 95) (lv' := [(8, .int ((0 : Int32))), (7, .ref (o3)), (0, .ref (0)), (1, .int (a1)), (2, .int (a2)), (3, .int (a3)), (4, .int (a4)), (5, .int (a5)), (6, .int (a6))]) G (Nat.le_of_ble_eq_true rfl) rfl (z_dec T_X11_plan_ok 46 (95, .istore 8, 2) rfl) ?_
                    refine zx_sub (lv' := [(0, .ref (0)), (2, .int (a2)), (3, .int (a3)), (4, .int (a4)), (5, .int (a5)), (6, .int (a6)), (8, .int ((0 : Int32)))]) [2, 4, 5, 6, 7, 8, 0] rfl ?_
                    exact L_X11_plan_97_ok G hr hlk hI h_o h
                  · replace h := z_neg hc h
                    refine zx_iconst (pc := 71) (v := -1) G (z_dec T_X11_plan_ok 33 (71, .iconst (-1), 1) rfl) rfl ?_
                    exact zx_iret (pc := 72) G hr hlk (Nat.le_refl _) (Nat.le_refl _) (z_dec T_X11_plan_ok 34 (72, .ireturn, 1) rfl) ⟨hI, _, rfl, h⟩
          · replace h := z_pos hc h
            refine zx_iconst (pc := 44) (v := -1) G (z_dec T_X11_plan_ok 19 (44, .iconst (-1), 1) rfl) rfl ?_
            exact zx_iret (pc := 45) G hr hlk (Nat.le_refl _) (Nat.le_refl _) (z_dec T_X11_plan_ok 20 (45, .ireturn, 1) rfl) ⟨hI, _, rfl, h⟩
abbrev rm_X11_areTogether : Room := { frames := 1, cells := 0, slots := 0, locals := 20 }
set_option maxRecDepth 100000 in
set_option maxHeartbeats 4000000 in
theorem met_X11_areTogether (l : Launch) (D : va_G) (ρ : z_A) (kd : z_K) (q : z_Q) (μ : z_M) (sz : Nat) (a1 : Int32) (a2 : Int32) (a3 : Int32) (K : Int32 → z_M → Prop) (hI : z_I kd q) (h_o : kd 0 = some (.inl 11)) (h : C_X11_areTogether kd q a1 a2 a3 μ K) : Met l yX11_areTogether (z_ws yX11_areTogether cX11_areTogether 4 (Option.some Jvm.ClassFile.FieldType.boolean)) rm_X11_areTogether (z_Pc D ρ kd q μ sz [.ref (0), .int (a1), .int (a2), .int (a3)]) (z_Qn D (z_Rg ρ sz) ρ kd (z_Kz q K)) 0 0 (z_Rg ρ sz) := by
  refine z_met (rm := rm_X11_areTogether) (by decide) (Nat.le_of_ble_eq_true rfl) (fun p e s m args below meth c G hr hlk => ?_)
  unfold C_X11_areTogether at h
  show z_X _ _ _ _ _ _ _ _ _ _ _ _ _ _ _ _ _ _ _ _ _ [(0, .ref (0)), (1, .int (a1)), (2, .int (a2)), (3, .int (a3))] _
  refine zx_iload_n (pc := 0) G 1 rfl rfl (z_dec T_X11_areTogether_ok 0 (0, .iload_n 1, 1) rfl) ?_
  refine zx_iload_n (pc := 1) G 2 rfl rfl (z_dec T_X11_areTogether_ok 1 (1, .iload_n 2, 1) rfl) ?_
  refine zx_icmp_eq (pc := 2) (tgt := 27) G rfl (z_dec T_X11_areTogether_ok 2 (2, .if_icmp .eq 25, 3) rfl) (fun hc => ?_) (fun hc => ?_)
  · replace h := z_pos hc h
    refine zx_iconst (pc := 27) (v := 0) G (z_dec T_X11_areTogether_ok 16 (27, .iconst 0, 1) rfl) rfl ?_
    exact zx_zret (pc := 28) G hr hlk (Nat.le_refl _) (Nat.le_refl _) (Or.inl rfl) (z_dec T_X11_areTogether_ok 17 (28, .ireturn, 1) rfl) ⟨rfl, _, rfl, (Or.inl rfl), h⟩
  · replace h := z_neg hc h
    refine zx_aload_n (pc := 5) G (some (0)) 0 rfl rfl (z_dec T_X11_areTogether_ok 3 (5, .aload_n 0, 1) rfl) ?_
    refine zx_getF (pc := 6) (b := 22) G gf_RX11_87 rfl h_o (zq_11_11 hI h_o) (z_dec T_X11_areTogether_ok 4 (6, .getfield 87, 3) rfl) ?_
    refine zx_iload_n (pc := 9) G 1 rfl rfl (z_dec T_X11_areTogether_ok 5 (9, .iload_n 1, 1) rfl) ?_
    refine zx_bipush (pc := 10) (v := 16) G (z_dec T_X11_areTogether_ok 6 (10, .bipush 16, 2) rfl) rfl ?_
    refine zx_imul (pc := 12) G  (z_dec T_X11_areTogether_ok 7 (12, .imul, 1) rfl) ?_
    refine zx_iload_n (pc := 13) G 2 rfl rfl (z_dec T_X11_areTogether_ok 8 (13, .iload_n 2, 1) rfl) ?_
    refine zx_iadd (pc := 14) G  (z_dec T_X11_areTogether_ok 9 (14, .iadd, 1) rfl) ?_
    obtain ⟨c1, h⟩ := h
    refine zx_iald (pc := 15) G (zk_11_11 hI h_o) c1 (z_dec T_X11_areTogether_ok 10 (15, .iaload, 1) rfl) ?_
    refine zx_callS_iN (pc := 16) (rm := rm_J6_bitCount_0f7a4) G cw_RX11_516 ⟨Nat.le_of_ble_eq_true rfl, Nat.le_of_ble_eq_true rfl⟩ rfl rfl ⟨Nat.zero_le _, Nat.zero_le _⟩ (fun sz => (met_J6_bitCount_0f7a4 l D ρ kd q μ sz (μ.1 22 ((a1 * ((16 : Int32))) + a2).toNatClampNeg) _  h)) rfl rfl (Nat.le_of_ble_eq_true rfl) (z_dec T_X11_areTogether_ok 11 (16, .invokestatic 516, 3) rfl) (fun r3 μ2 hn => ?_)
    clear h
    have h := hn
    clear hn
    refine zx_iload_n (pc := 19) G 3 rfl rfl (z_dec T_X11_areTogether_ok 12 (19, .iload_n 3, 1) rfl) ?_
    refine zx_icmp_lt (pc := 20) (tgt := 27) G rfl (z_dec T_X11_areTogether_ok 13 (20, .if_icmp .lt 7, 3) rfl) (fun hc => ?_) (fun hc => ?_)
    · replace h := z_pos hc h
      refine zx_iconst (pc := 27) (v := 0) G (z_dec T_X11_areTogether_ok 16 (27, .iconst 0, 1) rfl) rfl ?_
      exact zx_zret (pc := 28) G hr hlk (Nat.le_refl _) (Nat.le_refl _) (Or.inl rfl) (z_dec T_X11_areTogether_ok 17 (28, .ireturn, 1) rfl) ⟨rfl, _, rfl, (Or.inl rfl), h⟩
    · replace h := z_neg hc h
      refine zx_iconst (pc := 23) (v := 1) G (z_dec T_X11_areTogether_ok 14 (23, .iconst 1, 1) rfl) rfl ?_
      refine zx_goto (pc := 24) (tgt := 28) G rfl (z_dec T_X11_areTogether_ok 15 (24, .goto 4, 3) rfl) ?_
      exact zx_zret (pc := 28) G hr hlk (Nat.le_refl _) (Nat.le_refl _) (Or.inr rfl) (z_dec T_X11_areTogether_ok 17 (28, .ireturn, 1) rfl) ⟨rfl, _, rfl, (Or.inr rfl), h⟩
abbrev rm_X11_isCompany : Room := { frames := 0, cells := 0, slots := 0, locals := 0 }
set_option maxRecDepth 100000 in
set_option maxHeartbeats 4000000 in
theorem met_X11_isCompany (l : Launch) (D : va_G) (ρ : z_A) (kd : z_K) (q : z_Q) (μ : z_M) (sz : Nat) (a1 : Int32) (a2 : Int32) (K : Int32 → z_M → Prop) (hI : z_I kd q) (h : C_X11_isCompany kd q a1 a2 μ K) : Met l yX11_isCompany (z_ws yX11_isCompany cX11_isCompany 2 (Option.some Jvm.ClassFile.FieldType.boolean)) rm_X11_isCompany (z_Pc D ρ kd q μ sz [.int (a1), .int (a2)]) (z_Qn D (z_Rg ρ sz) ρ kd (z_Kz q K)) 0 0 (z_Rg ρ sz) := by
  refine z_met (rm := rm_X11_isCompany) (by decide) (Nat.le_of_ble_eq_true rfl) (fun p e s m args below meth c G hr hlk => ?_)
  unfold C_X11_isCompany at h
  show z_X _ _ _ _ _ _ _ _ _ _ _ _ _ _ _ _ _ _ _ _ _ [(0, .int (a1)), (1, .int (a2))] _
  refine zx_iload_n (pc := 0) G 0 rfl rfl (z_dec T_X11_isCompany_ok 0 (0, .iload_n 0, 1) rfl) ?_
  refine zx_iconst (pc := 1) (v := 1) G (z_dec T_X11_isCompany_ok 1 (1, .iconst 1, 1) rfl) rfl ?_
  refine zx_icmp_lt (pc := 2) (tgt := 26) G rfl (z_dec T_X11_isCompany_ok 2 (2, .if_icmp .lt 24, 3) rfl) (fun hc => ?_) (fun hc => ?_)
  · replace h := z_pos hc h
    refine zx_iconst (pc := 26) (v := 0) G (z_dec T_X11_isCompany_ok 13 (26, .iconst 0, 1) rfl) rfl ?_
    exact zx_zret (pc := 27) G hr hlk (Nat.le_refl _) (Nat.le_refl _) (Or.inl rfl) (z_dec T_X11_isCompany_ok 14 (27, .ireturn, 1) rfl) ⟨rfl, _, rfl, (Or.inl rfl), h⟩
  · replace h := z_neg hc h
    refine zx_iload_n (pc := 5) G 0 rfl rfl (z_dec T_X11_isCompany_ok 3 (5, .iload_n 0, 1) rfl) ?_
    refine zx_bipush (pc := 6) (v := 24) G (z_dec T_X11_isCompany_ok 4 (6, .bipush 24, 2) rfl) rfl ?_
    refine zx_icmp_gt (pc := 8) (tgt := 26) G rfl (z_dec T_X11_isCompany_ok 5 (8, .if_icmp .gt 18, 3) rfl) (fun hc => ?_) (fun hc => ?_)
    · replace h := z_pos hc h
      refine zx_iconst (pc := 26) (v := 0) G (z_dec T_X11_isCompany_ok 13 (26, .iconst 0, 1) rfl) rfl ?_
      exact zx_zret (pc := 27) G hr hlk (Nat.le_refl _) (Nat.le_refl _) (Or.inl rfl) (z_dec T_X11_isCompany_ok 14 (27, .ireturn, 1) rfl) ⟨rfl, _, rfl, (Or.inl rfl), h⟩
    · replace h := z_neg hc h
      refine zx_iload_n (pc := 11) G 1 rfl rfl (z_dec T_X11_isCompany_ok 6 (11, .iload_n 1, 1) rfl) ?_
      refine zx_if_lt (pc := 12) (tgt := 26) G rfl (z_dec T_X11_isCompany_ok 7 (12, .ifCond .lt 14, 3) rfl) (fun hc => ?_) (fun hc => ?_)
      · replace h := z_pos hc h
        refine zx_iconst (pc := 26) (v := 0) G (z_dec T_X11_isCompany_ok 13 (26, .iconst 0, 1) rfl) rfl ?_
        exact zx_zret (pc := 27) G hr hlk (Nat.le_refl _) (Nat.le_refl _) (Or.inl rfl) (z_dec T_X11_isCompany_ok 14 (27, .ireturn, 1) rfl) ⟨rfl, _, rfl, (Or.inl rfl), h⟩
      · replace h := z_neg hc h
        refine zx_iload_n (pc := 15) G 1 rfl rfl (z_dec T_X11_isCompany_ok 8 (15, .iload_n 1, 1) rfl) ?_
        refine zx_sipush (pc := 16) (v := 600) G (z_dec T_X11_isCompany_ok 9 (16, .sipush 600, 3) rfl) rfl ?_
        refine zx_icmp_ge (pc := 19) (tgt := 26) G rfl (z_dec T_X11_isCompany_ok 10 (19, .if_icmp .ge 7, 3) rfl) (fun hc => ?_) (fun hc => ?_)
        · replace h := z_pos hc h
          refine zx_iconst (pc := 26) (v := 0) G (z_dec T_X11_isCompany_ok 13 (26, .iconst 0, 1) rfl) rfl ?_
          exact zx_zret (pc := 27) G hr hlk (Nat.le_refl _) (Nat.le_refl _) (Or.inl rfl) (z_dec T_X11_isCompany_ok 14 (27, .ireturn, 1) rfl) ⟨rfl, _, rfl, (Or.inl rfl), h⟩
        · replace h := z_neg hc h
          refine zx_iconst (pc := 22) (v := 1) G (z_dec T_X11_isCompany_ok 11 (22, .iconst 1, 1) rfl) rfl ?_
          refine zx_goto (pc := 23) (tgt := 27) G rfl (z_dec T_X11_isCompany_ok 12 (23, .goto 4, 3) rfl) ?_
          exact zx_zret (pc := 27) G hr hlk (Nat.le_refl _) (Nat.le_refl _) (Or.inr rfl) (z_dec T_X11_isCompany_ok 14 (27, .ireturn, 1) rfl) ⟨rfl, _, rfl, (Or.inr rfl), h⟩
abbrev rm_X11_share : Room := { frames := 1, cells := 0, slots := 0, locals := 20 }
set_option maxRecDepth 100000 in
set_option maxHeartbeats 4000000 in
theorem met_X11_share (l : Launch) (D : va_G) (ρ : z_A) (kd : z_K) (q : z_Q) (μ : z_M) (sz : Nat) (a1 : Int32) (a2 : Int32) (a3 : Int32) (K : z_M → Prop) (hI : z_I kd q) (h_o : kd 0 = some (.inl 11)) (h : C_X11_share kd q a1 a2 a3 μ K) : Met l yX11_share (z_ws yX11_share cX11_share 4 (Option.none : Option Jvm.ClassFile.FieldType)) rm_X11_share (z_Pc D ρ kd q μ sz [.ref (0), .int (a1), .int (a2), .int (a3)]) (z_Qn D (z_Rg ρ sz) ρ kd (z_Kv q K)) 0 0 (z_Rg ρ sz) := by
  refine z_met (rm := rm_X11_share) (by decide) (Nat.le_of_ble_eq_true rfl) (fun p e s m args below meth c G hr hlk => ?_)
  unfold C_X11_share at h
  show z_X _ _ _ _ _ _ _ _ _ _ _ _ _ _ _ _ _ _ _ _ _ [(0, .ref (0)), (1, .int (a1)), (2, .int (a2)), (3, .int (a3))] _
  refine zx_iload_n (pc := 0) G 1 rfl rfl (z_dec T_X11_share_ok 0 (0, .iload_n 1, 1) rfl) ?_
  refine zx_callS_zN (pc := 1) (rm := rm_X11_isBettor) G cw_RX11_336 ⟨Nat.le_of_ble_eq_true rfl, Nat.le_of_ble_eq_true rfl⟩ rfl rfl ⟨Nat.zero_le _, Nat.zero_le _⟩ (fun sz => (met_X11_isBettor l D ρ kd q μ sz a1 _ hI h)) rfl rfl (Nat.le_of_ble_eq_true rfl) (z_dec T_X11_share_ok 1 (1, .invokestatic 336, 3) rfl) (fun r2 μ1 hzr2 hn => ?_)
  clear h
  have h := hn
  clear hn
  refine zx_if_eq (pc := 4) (tgt := 58) G rfl (z_dec T_X11_share_ok 2 (4, .ifCond .eq 54, 3) rfl) (fun hc => ?_) (fun hc => ?_)
  · replace h := z_pos hc h
    exact zx_vret (pc := 58) G hr hlk (Nat.le_refl _) (Nat.le_refl _) (z_dec T_X11_share_ok 39 (58, .return_, 1) rfl) ⟨rfl, rfl, h⟩
  · replace h := z_neg hc h
    refine zx_iload_n (pc := 7) G 2 rfl rfl (z_dec T_X11_share_ok 3 (7, .iload_n 2, 1) rfl) ?_
    refine zx_callS_zN (pc := 8) (rm := rm_X11_isBettor) G cw_RX11_336 ⟨Nat.le_of_ble_eq_true rfl, Nat.le_of_ble_eq_true rfl⟩ rfl rfl ⟨Nat.zero_le _, Nat.zero_le _⟩ (fun sz => (met_X11_isBettor l D ρ kd q μ1 sz a2 _ hI h)) rfl rfl (Nat.le_of_ble_eq_true rfl) (z_dec T_X11_share_ok 4 (8, .invokestatic 336, 3) rfl) (fun r4 μ3 hzr4 hn => ?_)
    clear h
    have h := hn
    clear hn
    refine zx_if_eq (pc := 11) (tgt := 58) G rfl (z_dec T_X11_share_ok 5 (11, .ifCond .eq 47, 3) rfl) (fun hc => ?_) (fun hc => ?_)
    · replace h := z_pos hc h
      exact zx_vret (pc := 58) G hr hlk (Nat.le_refl _) (Nat.le_refl _) (z_dec T_X11_share_ok 39 (58, .return_, 1) rfl) ⟨rfl, rfl, h⟩
    · replace h := z_neg hc h
      refine zx_iload_n (pc := 14) G 3 rfl rfl (z_dec T_X11_share_ok 6 (14, .iload_n 3, 1) rfl) ?_
      refine zx_if_lt (pc := 15) (tgt := 58) G rfl (z_dec T_X11_share_ok 7 (15, .ifCond .lt 43, 3) rfl) (fun hc => ?_) (fun hc => ?_)
      · replace h := z_pos hc h
        exact zx_vret (pc := 58) G hr hlk (Nat.le_refl _) (Nat.le_refl _) (z_dec T_X11_share_ok 39 (58, .return_, 1) rfl) ⟨rfl, rfl, h⟩
      · replace h := z_neg hc h
        refine zx_iload_n (pc := 18) G 3 rfl rfl (z_dec T_X11_share_ok 8 (18, .iload_n 3, 1) rfl) ?_
        refine zx_bipush (pc := 19) (v := 24) G (z_dec T_X11_share_ok 9 (19, .bipush 24, 2) rfl) rfl ?_
        refine zx_icmp_ge (pc := 21) (tgt := 58) G rfl (z_dec T_X11_share_ok 10 (21, .if_icmp .ge 37, 3) rfl) (fun hc => ?_) (fun hc => ?_)
        · replace h := z_pos hc h
          exact zx_vret (pc := 58) G hr hlk (Nat.le_refl _) (Nat.le_refl _) (z_dec T_X11_share_ok 39 (58, .return_, 1) rfl) ⟨rfl, rfl, h⟩
        · replace h := z_neg hc h
          refine zx_aload_n (pc := 24) G (some (0)) 0 rfl rfl (z_dec T_X11_share_ok 11 (24, .aload_n 0, 1) rfl) ?_
          refine zx_getF (pc := 25) (b := 22) G gf_RX11_87 rfl h_o (zq_11_11 hI h_o) (z_dec T_X11_share_ok 12 (25, .getfield 87, 3) rfl) ?_
          refine zx_iload_n (pc := 28) G 1 rfl rfl (z_dec T_X11_share_ok 13 (28, .iload_n 1, 1) rfl) ?_
          refine zx_bipush (pc := 29) (v := 16) G (z_dec T_X11_share_ok 14 (29, .bipush 16, 2) rfl) rfl ?_
          refine zx_imul (pc := 31) G  (z_dec T_X11_share_ok 15 (31, .imul, 1) rfl) ?_
          refine zx_iload_n (pc := 32) G 2 rfl rfl (z_dec T_X11_share_ok 16 (32, .iload_n 2, 1) rfl) ?_
          refine zx_iadd (pc := 33) G  (z_dec T_X11_share_ok 17 (33, .iadd, 1) rfl) ?_
          refine zx_dup2 (pc := 34) G rfl rfl (z_dec T_X11_share_ok 18 (34, .dup2, 1) rfl) ?_
          obtain ⟨c5, h⟩ := h
          refine zx_iald (pc := 35) G (zk_11_11 hI h_o) c5 (z_dec T_X11_share_ok 19 (35, .iaload, 1) rfl) ?_
          refine zx_iconst (pc := 36) (v := 1) G (z_dec T_X11_share_ok 20 (36, .iconst 1, 1) rfl) rfl ?_
          refine zx_iload_n (pc := 37) G 3 rfl rfl (z_dec T_X11_share_ok 21 (37, .iload_n 3, 1) rfl) ?_
          refine zx_ishl (pc := 38) G  (z_dec T_X11_share_ok 22 (38, .ishl, 1) rfl) ?_
          refine zx_ior (pc := 39) G  (z_dec T_X11_share_ok 23 (39, .ior, 1) rfl) ?_
          refine zx_iast (pc := 40) G (zk_11_11 hI h_o) c5 (z_dec T_X11_share_ok 24 (40, .iastore, 1) rfl) ?_
          refine zx_aload_n (pc := 41) G (some (0)) 0 rfl rfl (z_dec T_X11_share_ok 25 (41, .aload_n 0, 1) rfl) ?_
          refine zx_getF (pc := 42) (b := 22) G gf_RX11_87 rfl h_o (zq_11_11 hI h_o) (z_dec T_X11_share_ok 26 (42, .getfield 87, 3) rfl) ?_
          refine zx_iload_n (pc := 45) G 2 rfl rfl (z_dec T_X11_share_ok 27 (45, .iload_n 2, 1) rfl) ?_
          refine zx_bipush (pc := 46) (v := 16) G (z_dec T_X11_share_ok 28 (46, .bipush 16, 2) rfl) rfl ?_
          refine zx_imul (pc := 48) G  (z_dec T_X11_share_ok 29 (48, .imul, 1) rfl) ?_
          refine zx_iload_n (pc := 49) G 1 rfl rfl (z_dec T_X11_share_ok 30 (49, .iload_n 1, 1) rfl) ?_
          refine zx_iadd (pc := 50) G  (z_dec T_X11_share_ok 31 (50, .iadd, 1) rfl) ?_
          refine zx_dup2 (pc := 51) G rfl rfl (z_dec T_X11_share_ok 32 (51, .dup2, 1) rfl) ?_
          obtain ⟨c6, h⟩ := h
          refine zx_iald (pc := 52) G (zk_11_11 hI h_o) c6 (z_dec T_X11_share_ok 33 (52, .iaload, 1) rfl) ?_
          refine zx_iconst (pc := 53) (v := 1) G (z_dec T_X11_share_ok 34 (53, .iconst 1, 1) rfl) rfl ?_
          refine zx_iload_n (pc := 54) G 3 rfl rfl (z_dec T_X11_share_ok 35 (54, .iload_n 3, 1) rfl) ?_
          refine zx_ishl (pc := 55) G  (z_dec T_X11_share_ok 36 (55, .ishl, 1) rfl) ?_
          refine zx_ior (pc := 56) G  (z_dec T_X11_share_ok 37 (56, .ior, 1) rfl) ?_
          refine zx_iast (pc := 57) G (zk_11_11 hI h_o) c6 (z_dec T_X11_share_ok 38 (57, .iastore, 1) rfl) ?_
          exact zx_vret (pc := 58) G hr hlk (Nat.le_refl _) (Nat.le_refl _) (z_dec T_X11_share_ok 39 (58, .return_, 1) rfl) ⟨rfl, rfl, h⟩
abbrev rm_X11_meet : Room := { frames := 2, cells := 0, slots := 0, locals := 43 }
set_option maxRecDepth 100000 in
set_option maxHeartbeats 4000000 in
theorem B_X11_meet_36_ok {p : Program} {l : Launch} {e : Env} {s : State} {m : MethodId} {args : Array Value} {below : List Frame} {meth : Method} {c : Code} {D : va_G} {A : Nat → Prop} {ρ : z_A} {kd : z_K} {q : z_Q} {μ : z_M} {K : z_M → Prop} {P26 : Int32 → Int32 → z_M → Prop} {P36 : Int32 → Int32 → Int32 → z_M → Prop} {v1 : Int32} {v2 : Int32} {v3 : Int32} (G : z_G p c cX11_meet s m args RX11 6 D) (hr : meth.sig.returnType = (Option.none : Option Jvm.ClassFile.FieldType)) (hlk : meth.locks = false) (hP26 : ∀ (v1 : Int32) (v2 : Int32) (μ : z_M), P26 v1 v2 μ → (kd 0 = some (.inl 11)) → z_X p l e rm_X11_meet s m args below meth c 6 D A (MQ below (z_Qn D A ρ kd (z_Kv q K)) args s 0 0 A) 0 0 ρ kd q μ 26 [(0, .ref (0)), (1, .int (v1)), (2, .int (v2))] []) (hP36 : ∀ (v1 : Int32) (v2 : Int32) (v3 : Int32) (μ : z_M), P36 v1 v2 v3 μ → (kd 0 = some (.inl 11)) → z_X p l e rm_X11_meet s m args below meth c 6 D A (MQ below (z_Qn D A ρ kd (z_Kv q K)) args s 0 0 A) 0 0 ρ kd q μ 36 [(0, .ref (0)), (1, .int (v1)), (2, .int (v2)), (3, .int (v3))] []) (hI : z_I kd q) (f_l0 : kd 0 = some (.inl 11)) (h : B_X11_meet_36 kd q K P26 P36 v1 v2 v3 μ) : z_X p l e rm_X11_meet s m args below meth c 6 D A (MQ below (z_Qn D A ρ kd (z_Kv q K)) args s 0 0 A) 0 0 ρ kd q μ 36 [(0, .ref (0)), (1, .int (v1)), (2, .int (v2)), (3, .int (v3))] [] := by
    unfold B_X11_meet_36 at h
    refine zx_iload_n (pc := 36) G 3 rfl rfl (z_dec T_X11_meet_ok 22 (36, .iload_n 3, 1) rfl) ?_
    refine zx_iload_n (pc := 37) G 2 rfl rfl (z_dec T_X11_meet_ok 23 (37, .iload_n 2, 1) rfl) ?_
    refine zx_icmp_ge (pc := 38) (tgt := 114) G rfl (z_dec T_X11_meet_ok 24 (38, .if_icmp .ge 76, 3) rfl) (fun hc => ?_) (fun hc => ?_)
    · replace h := z_pos hc h
      refine zx_iinc (pc := 114) (v := v2 + 1) (lv' := [(2, .int (v2 + 1)), (0, .ref (0)), (1, .int (v1)), (3, .int (v3))]) G 2 rfl (z_inc (by decide)) (Nat.le_of_ble_eq_true rfl) rfl (z_dec T_X11_meet_ok 57 (114, .iinc 2 1, 3) rfl) ?_
      refine zx_goto (pc := 117) (tgt := 26) G rfl (z_dec T_X11_meet_ok 58 (117, .goto (-91), 3) rfl) ?_
      refine zx_sub (lv' := [(0, .ref (0)), (1, .int (v1)), (2, .int (v2 + 1))]) [1, 2, 0] rfl ?_
      exact hP26 _ _ _ h f_l0
    · replace h := z_neg hc h
      refine zx_aload_n (pc := 41) G (some (0)) 0 rfl rfl (z_dec T_X11_meet_ok 25 (41, .aload_n 0, 1) rfl) ?_
      refine zx_iload_n (pc := 42) G 2 rfl rfl (z_dec T_X11_meet_ok 26 (42, .iload_n 2, 1) rfl) ?_
      refine zx_callV_rN (pc := 43) (rm := rm_X11_betAt) G cw_RX11_219 ⟨Nat.le_of_ble_eq_true rfl, Nat.le_of_ble_eq_true rfl⟩ rfl rfl ⟨Nat.zero_le _, Nat.zero_le _⟩ f_l0 rfl (fun sz => (met_X11_betAt l D ρ kd q μ sz v2 _ hI f_l0 h)) rfl rfl (Nat.le_of_ble_eq_true rfl) (z_dec T_X11_meet_ok 27 (43, .invokevirtual 219, 3) rfl) (fun r2 μ1 hfr2 hn => ?_)
      clear h
      have h := hn
      clear hn
      refine zx_astore (pc := 46) (lv' := [(4, va_rf (r2)), (0, .ref (0)), (1, .int (v1)), (2, .int (v2)), (3, .int (v3))]) G (r2) (Nat.le_of_ble_eq_true rfl) rfl (z_dec T_X11_meet_ok 28 (46, .astore 4, 2) rfl) ?_
      refine zx_aload_n (pc := 48) G (some (0)) 1 rfl rfl (z_dec T_X11_meet_ok 29 (48, .aload_n 0, 1) rfl) ?_
      refine zx_iload_n (pc := 49) G 4 rfl rfl (z_dec T_X11_meet_ok 30 (49, .iload_n 3, 1) rfl) ?_
      refine zx_callV_rN (pc := 50) (rm := rm_X11_betAt) G cw_RX11_219 ⟨Nat.le_of_ble_eq_true rfl, Nat.le_of_ble_eq_true rfl⟩ rfl rfl ⟨Nat.zero_le _, Nat.zero_le _⟩ f_l0 rfl (fun sz => (met_X11_betAt l D ρ kd q μ1 sz v3 _ hI f_l0 h)) rfl rfl (Nat.le_of_ble_eq_true rfl) (z_dec T_X11_meet_ok 31 (50, .invokevirtual 219, 3) rfl) (fun r4 μ3 hfr4 hn => ?_)
      clear h
      have h := hn
      clear hn
      refine zx_astore (pc := 53) (lv' := [(5, va_rf (r4)), (4, va_rf (r2)), (0, .ref (0)), (1, .int (v1)), (2, .int (v2)), (3, .int (v3))]) G (r4) (Nat.le_of_ble_eq_true rfl) (by cases r2 <;> rfl) (z_dec T_X11_meet_ok 32 (53, .astore 5, 2) rfl) ?_
      refine zx_aload (pc := 55) G (r2) 1 rfl (z_dec T_X11_meet_ok 33 (55, .aload 4, 2) rfl) ?_
      obtain ⟨h1, h2⟩ := h
      rcases r2 with _ | o5
      · replace h := h1 rfl
        refine zx_ifnullN (pc := 57) (tgt := 108) G rfl (z_dec T_X11_meet_ok 34 (57, .ifnull 51, 3) rfl) ?_
        refine zx_iinc (pc := 108) (v := v3 + 1) (lv' := [(3, .int (v3 + 1)), (5, va_rf (r4)), (4, va_rf (none)), (0, .ref (0)), (1, .int (v1)), (2, .int (v2))]) G 5 rfl (z_inc (by decide)) (Nat.le_of_ble_eq_true rfl) rfl (z_dec T_X11_meet_ok 55 (108, .iinc 3 1, 3) rfl) ?_
        refine zx_goto (pc := 111) (tgt := 36) G rfl (z_dec T_X11_meet_ok 56 (111, .goto (-75), 3) rfl) ?_
        refine zx_sub (lv' := [(0, .ref (0)), (1, .int (v1)), (2, .int (v2)), (3, .int (v3 + 1))]) [3, 4, 5, 0] rfl ?_
        exact hP36 _ _ _ _ h f_l0
      · replace h := h2 o5 rfl
        refine zx_ifnullS (pc := 57) G (hfr2 o5 rfl) (z_dec T_X11_meet_ok 34 (57, .ifnull 51, 3) rfl) ?_
        refine zx_aload (pc := 60) G (r4) 0 rfl (z_dec T_X11_meet_ok 35 (60, .aload 5, 2) rfl) ?_
        obtain ⟨h1, h2⟩ := h
        rcases r4 with _ | o6
        · replace h := h1 rfl
          refine zx_ifnullN (pc := 62) (tgt := 108) G rfl (z_dec T_X11_meet_ok 36 (62, .ifnull 46, 3) rfl) ?_
          refine zx_iinc (pc := 108) (v := v3 + 1) (lv' := [(3, .int (v3 + 1)), (5, va_rf (none)), (4, .ref (o5)), (0, .ref (0)), (1, .int (v1)), (2, .int (v2))]) G 5 rfl (z_inc (by decide)) (Nat.le_of_ble_eq_true rfl) rfl (z_dec T_X11_meet_ok 55 (108, .iinc 3 1, 3) rfl) ?_
          refine zx_goto (pc := 111) (tgt := 36) G rfl (z_dec T_X11_meet_ok 56 (111, .goto (-75), 3) rfl) ?_
          refine zx_sub (lv' := [(0, .ref (0)), (1, .int (v1)), (2, .int (v2)), (3, .int (v3 + 1))]) [3, 4, 5, 0] rfl ?_
          exact hP36 _ _ _ _ h f_l0
        · replace h := h2 o6 rfl
          refine zx_ifnullS (pc := 62) G (hfr4 o6 rfl) (z_dec T_X11_meet_ok 36 (62, .ifnull 46, 3) rfl) ?_
          refine zx_aload (pc := 65) G (some (o5)) 1 rfl (z_dec T_X11_meet_ok 37 (65, .aload 4, 2) rfl) ?_
          refine zx_aload (pc := 67) G (some (o6)) 0 rfl (z_dec T_X11_meet_ok 38 (67, .aload 5, 2) rfl) ?_
          refine zx_iload_n (pc := 69) G 3 rfl rfl (z_dec T_X11_meet_ok 39 (69, .iload_n 1, 1) rfl) ?_
          refine zx_callV_zN (pc := 70) (rm := rm_X0_isNear) G cw_RX11_509 ⟨Nat.le_of_ble_eq_true rfl, Nat.le_of_ble_eq_true rfl⟩ rfl rfl ⟨Nat.zero_le _, Nat.zero_le _⟩ (hfr2 o5 rfl) rfl (fun sz => (met_X0_isNear l D ρ kd q μ3 sz o5 (some o6) v1 _ hI (hfr2 o5 rfl) (fun a ha => by cases ha; exact (hfr4 o6 rfl)) h)) rfl rfl (Nat.le_of_ble_eq_true rfl) (z_dec T_X11_meet_ok 40 (70, .invokevirtual 509, 3) rfl) (fun r8 μ7 hzr8 hn => ?_)
          clear h
          have h := hn
          clear hn
          refine zx_if_eq (pc := 73) (tgt := 108) G rfl (z_dec T_X11_meet_ok 41 (73, .ifCond .eq 35, 3) rfl) (fun hc => ?_) (fun hc => ?_)
          · replace h := z_pos hc h
            refine zx_iinc (pc := 108) (v := v3 + 1) (lv' := [(3, .int (v3 + 1)), (5, .ref (o6)), (4, .ref (o5)), (0, .ref (0)), (1, .int (v1)), (2, .int (v2))]) G 5 rfl (z_inc (by decide)) (Nat.le_of_ble_eq_true rfl) rfl (z_dec T_X11_meet_ok 55 (108, .iinc 3 1, 3) rfl) ?_
            refine zx_goto (pc := 111) (tgt := 36) G rfl (z_dec T_X11_meet_ok 56 (111, .goto (-75), 3) rfl) ?_
            refine zx_sub (lv' := [(0, .ref (0)), (1, .int (v1)), (2, .int (v2)), (3, .int (v3 + 1))]) [3, 4, 5, 0] rfl ?_
            exact hP36 _ _ _ _ h f_l0
          · replace h := z_neg hc h
            refine zx_aload_n (pc := 76) G (some (0)) 2 rfl rfl (z_dec T_X11_meet_ok 42 (76, .aload_n 0, 1) rfl) ?_
            refine zx_aload (pc := 77) G (some (o5)) 1 rfl (z_dec T_X11_meet_ok 43 (77, .aload 4, 2) rfl) ?_
            refine zx_getI (pc := 79) G gf_RX11_370 rfl (hfr2 o5 rfl) (z_dec T_X11_meet_ok 44 (79, .getfield 370, 3) rfl) ?_
            refine zx_aload (pc := 82) G (some (o6)) 0 rfl (z_dec T_X11_meet_ok 45 (82, .aload 5, 2) rfl) ?_
            refine zx_getI (pc := 84) G gf_RX11_370 rfl (hfr4 o6 rfl) (z_dec T_X11_meet_ok 46 (84, .getfield 370, 3) rfl) ?_
            refine zx_aload (pc := 87) G (some (o5)) 1 rfl (z_dec T_X11_meet_ok 47 (87, .aload 4, 2) rfl) ?_
            refine zx_getI (pc := 89) G gf_RX11_439 rfl (hfr2 o5 rfl) (z_dec T_X11_meet_ok 48 (89, .getfield 439, 3) rfl) ?_
            refine zx_aload (pc := 92) G (some (o5)) 1 rfl (z_dec T_X11_meet_ok 49 (92, .aload 4, 2) rfl) ?_
            refine zx_aload (pc := 94) G (some (o5)) 1 rfl (z_dec T_X11_meet_ok 50 (94, .aload 4, 2) rfl) ?_
            refine zx_getI (pc := 96) G gf_RX11_439 rfl (hfr2 o5 rfl) (z_dec T_X11_meet_ok 51 (96, .getfield 439, 3) rfl) ?_
            refine zx_callV_iN (pc := 99) (rm := rm_X0_horseIn) G cw_RX11_223 ⟨Nat.le_of_ble_eq_true rfl, Nat.le_of_ble_eq_true rfl⟩ rfl rfl ⟨Nat.zero_le _, Nat.zero_le _⟩ (hfr2 o5 rfl) rfl (fun sz => (met_X0_horseIn l D ρ kd q μ7 sz o5 (μ7.1 o5 7) _ hI (hfr2 o5 rfl) h)) rfl rfl (Nat.le_of_ble_eq_true rfl) (z_dec T_X11_meet_ok 52 (99, .invokevirtual 223, 3) rfl) (fun r10 μ9 hn => ?_)
            clear h
            have h := hn
            clear hn
            refine zx_callS_iN (pc := 102) (rm := rm_X11_spot) G cw_RX11_168 ⟨Nat.le_of_ble_eq_true rfl, Nat.le_of_ble_eq_true rfl⟩ rfl rfl ⟨Nat.zero_le _, Nat.zero_le _⟩ (fun sz => (met_X11_spot l D ρ kd q μ9 sz (μ7.1 o5 7) r10 _ hI h)) rfl rfl (Nat.le_of_ble_eq_true rfl) (z_dec T_X11_meet_ok 53 (102, .invokestatic 168, 3) rfl) (fun r12 μ11 hn => ?_)
            clear h
            have h := hn
            clear hn
            refine zx_callV_vN (pc := 105) (rm := rm_X11_share) G cw_RX11_513 ⟨Nat.le_of_ble_eq_true rfl, Nat.le_of_ble_eq_true rfl⟩ rfl rfl ⟨Nat.zero_le _, Nat.zero_le _⟩ f_l0 rfl (fun sz => (met_X11_share l D ρ kd q μ11 sz (μ7.1 o5 0) (μ7.1 o6 0) r12 _ hI f_l0 h)) rfl rfl (Nat.le_of_ble_eq_true rfl) (z_dec T_X11_meet_ok 54 (105, .invokevirtual 513, 3) rfl) (fun μ13 hn => ?_)
            clear h
            have h := hn
            clear hn
            refine zx_iinc (pc := 108) (v := v3 + 1) (lv' := [(3, .int (v3 + 1)), (5, .ref (o6)), (4, .ref (o5)), (0, .ref (0)), (1, .int (v1)), (2, .int (v2))]) G 5 rfl (z_inc (by decide)) (Nat.le_of_ble_eq_true rfl) rfl (z_dec T_X11_meet_ok 55 (108, .iinc 3 1, 3) rfl) ?_
            refine zx_goto (pc := 111) (tgt := 36) G rfl (z_dec T_X11_meet_ok 56 (111, .goto (-75), 3) rfl) ?_
            refine zx_sub (lv' := [(0, .ref (0)), (1, .int (v1)), (2, .int (v2)), (3, .int (v3 + 1))]) [3, 4, 5, 0] rfl ?_
            exact hP36 _ _ _ _ h f_l0
set_option maxRecDepth 100000 in
set_option maxHeartbeats 4000000 in
theorem L_X11_meet_36_ok {p : Program} {l : Launch} {e : Env} {s : State} {m : MethodId} {args : Array Value} {below : List Frame} {meth : Method} {c : Code} {D : va_G} {A : Nat → Prop} {ρ : z_A} {kd : z_K} {q : z_Q} {μ : z_M} {K : z_M → Prop} {P26 : Int32 → Int32 → z_M → Prop} {v1 : Int32} {v2 : Int32} {v3 : Int32} (G : z_G p c cX11_meet s m args RX11 6 D) (hr : meth.sig.returnType = (Option.none : Option Jvm.ClassFile.FieldType)) (hlk : meth.locks = false) (hP26 : ∀ (v1 : Int32) (v2 : Int32) (μ : z_M), P26 v1 v2 μ → (kd 0 = some (.inl 11)) → z_X p l e rm_X11_meet s m args below meth c 6 D A (MQ below (z_Qn D A ρ kd (z_Kv q K)) args s 0 0 A) 0 0 ρ kd q μ 26 [(0, .ref (0)), (1, .int (v1)), (2, .int (v2))] []) (hI : z_I kd q) (f_l0 : kd 0 = some (.inl 11)) (h : L_X11_meet_36 kd q K P26 v1 v2 v3 μ) : z_X p l e rm_X11_meet s m args below meth c 6 D A (MQ below (z_Qn D A ρ kd (z_Kv q K)) args s 0 0 A) 0 0 ρ kd q μ 36 [(0, .ref (0)), (1, .int (v1)), (2, .int (v2)), (3, .int (v3))] [] :=
  h (fun (v1 : Int32) (v2 : Int32) (v3 : Int32) (μ : z_M) => (kd 0 = some (.inl 11)) → z_X p l e rm_X11_meet s m args below meth c 6 D A (MQ below (z_Qn D A ρ kd (z_Kv q K)) args s 0 0 A) 0 0 ρ kd q μ 36 [(0, .ref (0)), (1, .int (v1)), (2, .int (v2)), (3, .int (v3))] []) (fun v1 v2 v3 μ h f_l0 => B_X11_meet_36_ok G hr hlk hP26 (fun _ _ _ _ h => h) hI f_l0 h) f_l0
set_option maxRecDepth 100000 in
set_option maxHeartbeats 4000000 in
theorem B_X11_meet_26_ok {p : Program} {l : Launch} {e : Env} {s : State} {m : MethodId} {args : Array Value} {below : List Frame} {meth : Method} {c : Code} {D : va_G} {A : Nat → Prop} {ρ : z_A} {kd : z_K} {q : z_Q} {μ : z_M} {K : z_M → Prop} {P26 : Int32 → Int32 → z_M → Prop} {v1 : Int32} {v2 : Int32} (G : z_G p c cX11_meet s m args RX11 6 D) (hr : meth.sig.returnType = (Option.none : Option Jvm.ClassFile.FieldType)) (hlk : meth.locks = false) (hP26 : ∀ (v1 : Int32) (v2 : Int32) (μ : z_M), P26 v1 v2 μ → (kd 0 = some (.inl 11)) → z_X p l e rm_X11_meet s m args below meth c 6 D A (MQ below (z_Qn D A ρ kd (z_Kv q K)) args s 0 0 A) 0 0 ρ kd q μ 26 [(0, .ref (0)), (1, .int (v1)), (2, .int (v2))] []) (hI : z_I kd q) (f_l0 : kd 0 = some (.inl 11)) (h : B_X11_meet_26 kd q K P26 v1 v2 μ) : z_X p l e rm_X11_meet s m args below meth c 6 D A (MQ below (z_Qn D A ρ kd (z_Kv q K)) args s 0 0 A) 0 0 ρ kd q μ 26 [(0, .ref (0)), (1, .int (v1)), (2, .int (v2))] [] := by
    unfold B_X11_meet_26 at h
    refine zx_iload_n (pc := 26) G 2 rfl rfl (z_dec T_X11_meet_ok 16 (26, .iload_n 2, 1) rfl) ?_
    refine zx_aload_n (pc := 27) G (some (0)) 0 rfl rfl (z_dec T_X11_meet_ok 17 (27, .aload_n 0, 1) rfl) ?_
    refine zx_getI (pc := 28) G gf_RX11_194 rfl f_l0 (z_dec T_X11_meet_ok 18 (28, .getfield 194, 3) rfl) ?_
    refine zx_icmp_ge (pc := 31) (tgt := 120) G rfl (z_dec T_X11_meet_ok 19 (31, .if_icmp .ge 89, 3) rfl) (fun hc => ?_) (fun hc => ?_)
    · replace h := z_pos hc h
      exact zx_vret (pc := 120) G hr hlk (Nat.le_refl _) (Nat.le_refl _) (z_dec T_X11_meet_ok 59 (120, .return_, 1) rfl) ⟨rfl, rfl, h⟩
    · replace h := z_neg hc h
      refine zx_iconst (pc := 34) (v := 0) G (z_dec T_X11_meet_ok 20 (34, .iconst 0, 1) rfl) rfl ?_
      refine zx_istore_n (pc := 35) (lv' := [(3, .int ((0 : Int32))), (0, .ref (0)), (1, .int (v1)), (2, .int (v2))]) G rfl (Nat.le_of_ble_eq_true rfl) rfl (z_dec T_X11_meet_ok 21 (35, .istore_n 3, 1) rfl) ?_
      refine zx_sub (lv' := [(0, .ref (0)), (1, .int (v1)), (2, .int (v2)), (3, .int ((0 : Int32)))]) [1, 2, 3, 0] rfl ?_
      exact L_X11_meet_36_ok G hr hlk hP26 hI f_l0 h
set_option maxRecDepth 100000 in
set_option maxHeartbeats 4000000 in
theorem L_X11_meet_26_ok {p : Program} {l : Launch} {e : Env} {s : State} {m : MethodId} {args : Array Value} {below : List Frame} {meth : Method} {c : Code} {D : va_G} {A : Nat → Prop} {ρ : z_A} {kd : z_K} {q : z_Q} {μ : z_M} {K : z_M → Prop} {v1 : Int32} {v2 : Int32} (G : z_G p c cX11_meet s m args RX11 6 D) (hr : meth.sig.returnType = (Option.none : Option Jvm.ClassFile.FieldType)) (hlk : meth.locks = false) (hI : z_I kd q) (f_l0 : kd 0 = some (.inl 11)) (h : L_X11_meet_26 kd q K v1 v2 μ) : z_X p l e rm_X11_meet s m args below meth c 6 D A (MQ below (z_Qn D A ρ kd (z_Kv q K)) args s 0 0 A) 0 0 ρ kd q μ 26 [(0, .ref (0)), (1, .int (v1)), (2, .int (v2))] [] :=
  h (fun (v1 : Int32) (v2 : Int32) (μ : z_M) => (kd 0 = some (.inl 11)) → z_X p l e rm_X11_meet s m args below meth c 6 D A (MQ below (z_Qn D A ρ kd (z_Kv q K)) args s 0 0 A) 0 0 ρ kd q μ 26 [(0, .ref (0)), (1, .int (v1)), (2, .int (v2))] []) (fun v1 v2 μ h f_l0 => B_X11_meet_26_ok G hr hlk (fun _ _ _ h => h) hI f_l0 h) f_l0
set_option maxRecDepth 100000 in
set_option maxHeartbeats 4000000 in
theorem B_X11_meet_2_ok {p : Program} {l : Launch} {e : Env} {s : State} {m : MethodId} {args : Array Value} {below : List Frame} {meth : Method} {c : Code} {D : va_G} {A : Nat → Prop} {ρ : z_A} {kd : z_K} {q : z_Q} {μ : z_M} {K : z_M → Prop} {P2 : Int32 → Int32 → z_M → Prop} {v1 : Int32} {v2 : Int32} (G : z_G p c cX11_meet s m args RX11 6 D) (hr : meth.sig.returnType = (Option.none : Option Jvm.ClassFile.FieldType)) (hlk : meth.locks = false) (hP2 : ∀ (v1 : Int32) (v2 : Int32) (μ : z_M), P2 v1 v2 μ → (kd 0 = some (.inl 11)) → z_X p l e rm_X11_meet s m args below meth c 6 D A (MQ below (z_Qn D A ρ kd (z_Kv q K)) args s 0 0 A) 0 0 ρ kd q μ 2 [(0, .ref (0)), (1, .int (v1)), (2, .int (v2))] []) (hI : z_I kd q) (f_l0 : kd 0 = some (.inl 11)) (h : B_X11_meet_2 kd q K P2 v1 v2 μ) : z_X p l e rm_X11_meet s m args below meth c 6 D A (MQ below (z_Qn D A ρ kd (z_Kv q K)) args s 0 0 A) 0 0 ρ kd q μ 2 [(0, .ref (0)), (1, .int (v1)), (2, .int (v2))] [] := by
    unfold B_X11_meet_2 at h
    refine zx_iload_n (pc := 2) G 2 rfl rfl (z_dec T_X11_meet_ok 2 (2, .iload_n 2, 1) rfl) ?_
    refine zx_aload_n (pc := 3) G (some (0)) 0 rfl rfl (z_dec T_X11_meet_ok 3 (3, .aload_n 0, 1) rfl) ?_
    refine zx_getF (pc := 4) (b := 22) G gf_RX11_87 rfl f_l0 (zq_11_11 hI f_l0) (z_dec T_X11_meet_ok 4 (4, .getfield 87, 3) rfl) ?_
    refine zx_alen (pc := 7) G (zk_11_11 hI f_l0) (z_dec T_X11_meet_ok 5 (7, .arraylength, 1) rfl) ?_
    refine zx_icmp_ge (pc := 8) (tgt := 24) G rfl (z_dec T_X11_meet_ok 6 (8, .if_icmp .ge 16, 3) rfl) (fun hc => ?_) (fun hc => ?_)
    · replace h := z_pos hc h
      refine zx_iconst (pc := 24) (v := 0) G (z_dec T_X11_meet_ok 14 (24, .iconst 0, 1) rfl) rfl ?_
      refine zx_istore_n (pc := 25) (lv' := [(2, .int ((0 : Int32))), (0, .ref (0)), (1, .int (v1))]) G rfl (Nat.le_of_ble_eq_true rfl) rfl (z_dec T_X11_meet_ok 15 (25, .istore_n 2, 1) rfl) ?_
      refine zx_sub (lv' := [(0, .ref (0)), (1, .int (v1)), (2, .int ((0 : Int32)))]) [1, 2, 0] rfl ?_
      exact L_X11_meet_26_ok G hr hlk hI f_l0 h
    · replace h := z_neg hc h
      refine zx_aload_n (pc := 11) G (some (0)) 0 rfl rfl (z_dec T_X11_meet_ok 7 (11, .aload_n 0, 1) rfl) ?_
      refine zx_getF (pc := 12) (b := 22) G gf_RX11_87 rfl f_l0 (zq_11_11 hI f_l0) (z_dec T_X11_meet_ok 8 (12, .getfield 87, 3) rfl) ?_
      refine zx_iload_n (pc := 15) G 2 rfl rfl (z_dec T_X11_meet_ok 9 (15, .iload_n 2, 1) rfl) ?_
      refine zx_iconst (pc := 16) (v := 0) G (z_dec T_X11_meet_ok 10 (16, .iconst 0, 1) rfl) rfl ?_
      obtain ⟨c1, h⟩ := h
      refine zx_iast (pc := 17) G (zk_11_11 hI f_l0) c1 (z_dec T_X11_meet_ok 11 (17, .iastore, 1) rfl) ?_
      refine zx_iinc (pc := 18) (v := v2 + 1) (lv' := [(2, .int (v2 + 1)), (0, .ref (0)), (1, .int (v1))]) G 2 rfl (z_inc (by decide)) (Nat.le_of_ble_eq_true rfl) rfl (z_dec T_X11_meet_ok 12 (18, .iinc 2 1, 3) rfl) ?_
      refine zx_goto (pc := 21) (tgt := 2) G rfl (z_dec T_X11_meet_ok 13 (21, .goto (-19), 3) rfl) ?_
      refine zx_sub (lv' := [(0, .ref (0)), (1, .int (v1)), (2, .int (v2 + 1))]) [1, 2, 0] rfl ?_
      exact hP2 _ _ _ h f_l0
set_option maxRecDepth 100000 in
set_option maxHeartbeats 4000000 in
theorem L_X11_meet_2_ok {p : Program} {l : Launch} {e : Env} {s : State} {m : MethodId} {args : Array Value} {below : List Frame} {meth : Method} {c : Code} {D : va_G} {A : Nat → Prop} {ρ : z_A} {kd : z_K} {q : z_Q} {μ : z_M} {K : z_M → Prop} {v1 : Int32} {v2 : Int32} (G : z_G p c cX11_meet s m args RX11 6 D) (hr : meth.sig.returnType = (Option.none : Option Jvm.ClassFile.FieldType)) (hlk : meth.locks = false) (hI : z_I kd q) (f_l0 : kd 0 = some (.inl 11)) (h : L_X11_meet_2 kd q K v1 v2 μ) : z_X p l e rm_X11_meet s m args below meth c 6 D A (MQ below (z_Qn D A ρ kd (z_Kv q K)) args s 0 0 A) 0 0 ρ kd q μ 2 [(0, .ref (0)), (1, .int (v1)), (2, .int (v2))] [] :=
  h (fun (v1 : Int32) (v2 : Int32) (μ : z_M) => (kd 0 = some (.inl 11)) → z_X p l e rm_X11_meet s m args below meth c 6 D A (MQ below (z_Qn D A ρ kd (z_Kv q K)) args s 0 0 A) 0 0 ρ kd q μ 2 [(0, .ref (0)), (1, .int (v1)), (2, .int (v2))] []) (fun v1 v2 μ h f_l0 => B_X11_meet_2_ok G hr hlk (fun _ _ _ h => h) hI f_l0 h) f_l0
set_option maxRecDepth 100000 in
set_option maxHeartbeats 4000000 in
theorem met_X11_meet (l : Launch) (D : va_G) (ρ : z_A) (kd : z_K) (q : z_Q) (μ : z_M) (sz : Nat) (a1 : Int32) (K : z_M → Prop) (hI : z_I kd q) (h_o : kd 0 = some (.inl 11)) (h : C_X11_meet kd q a1 μ K) : Met l yX11_meet (z_ws yX11_meet cX11_meet 6 (Option.none : Option Jvm.ClassFile.FieldType)) rm_X11_meet (z_Pc D ρ kd q μ sz [.ref (0), .int (a1)]) (z_Qn D (z_Rg ρ sz) ρ kd (z_Kv q K)) 0 0 (z_Rg ρ sz) := by
  refine z_met (rm := rm_X11_meet) (by decide) (Nat.le_of_ble_eq_true rfl) (fun p e s m args below meth c G hr hlk => ?_)
  unfold C_X11_meet at h
  show z_X _ _ _ _ _ _ _ _ _ _ _ _ _ _ _ _ _ _ _ _ _ [(0, .ref (0)), (1, .int (a1))] _
  refine zx_iconst (pc := 0) (v := 0) G (z_dec T_X11_meet_ok 0 (0, .iconst 0, 1) rfl) rfl ?_
  refine zx_istore_n (pc := 1) (lv' := [(2, .int ((0 : Int32))), (0, .ref (0)), (1, .int (a1))]) G rfl (Nat.le_of_ble_eq_true rfl) rfl (z_dec T_X11_meet_ok 1 (1, .istore_n 2, 1) rfl) ?_
  refine zx_sub (lv' := [(0, .ref (0)), (1, .int (a1)), (2, .int ((0 : Int32)))]) [1, 2, 0] rfl ?_
  exact L_X11_meet_2_ok G hr hlk hI h_o h
abbrev rm_X11_together : Room := { frames := 3, cells := 0, slots := 0, locals := 68 }
set_option maxRecDepth 100000 in
set_option maxHeartbeats 4000000 in
theorem met_X11_together (l : Launch) (D : va_G) (ρ : z_A) (kd : z_K) (q : z_Q) (μ : z_M) (sz : Nat) (a1 : Int32) (a2 : Int32) (a3 : Int32) (a4 : Int32) (K : Int32 → z_M → Prop) (hI : z_I kd q) (h_o : kd 0 = some (.inl 11)) (h : C_X11_together kd q a1 a2 a3 a4 μ K) : Met l yX11_together (z_ws yX11_together cX11_together 5 (Option.some Jvm.ClassFile.FieldType.int)) rm_X11_together (z_Pc D ρ kd q μ sz [.ref (0), .int (a1), .int (a2), .int (a3), .int (a4)]) (z_Qn D (z_Rg ρ sz) ρ kd (z_Ki q K)) 0 0 (z_Rg ρ sz) := by
  refine z_met (rm := rm_X11_together) (by decide) (Nat.le_of_ble_eq_true rfl) (fun p e s m args below meth c G hr hlk => ?_)
  unfold C_X11_together at h
  show z_X _ _ _ _ _ _ _ _ _ _ _ _ _ _ _ _ _ _ _ _ _ [(0, .ref (0)), (1, .int (a1)), (2, .int (a2)), (3, .int (a3)), (4, .int (a4))] _
  refine zx_iload_n (pc := 0) G 1 rfl rfl (z_dec T_X11_together_ok 0 (0, .iload_n 1, 1) rfl) ?_
  refine zx_callS_zN (pc := 1) (rm := rm_X11_isBettor) G cw_RX11_336 ⟨Nat.le_of_ble_eq_true rfl, Nat.le_of_ble_eq_true rfl⟩ rfl rfl ⟨Nat.zero_le _, Nat.zero_le _⟩ (fun sz => (met_X11_isBettor l D ρ kd q μ sz a1 _ hI h)) rfl rfl (Nat.le_of_ble_eq_true rfl) (z_dec T_X11_together_ok 1 (1, .invokestatic 336, 3) rfl) (fun r2 μ1 hzr2 hn => ?_)
  clear h
  have h := hn
  clear hn
  refine zx_if_eq (pc := 4) (tgt := 28) G rfl (z_dec T_X11_together_ok 2 (4, .ifCond .eq 24, 3) rfl) (fun hc => ?_) (fun hc => ?_)
  · replace h := z_pos hc h
    refine zx_iconst (pc := 28) (v := -1) G (z_dec T_X11_together_ok 13 (28, .iconst (-1), 1) rfl) rfl ?_
    exact zx_iret (pc := 29) G hr hlk (Nat.le_refl _) (Nat.le_refl _) (z_dec T_X11_together_ok 14 (29, .ireturn, 1) rfl) ⟨rfl, _, rfl, h⟩
  · replace h := z_neg hc h
    refine zx_iload_n (pc := 7) G 2 rfl rfl (z_dec T_X11_together_ok 3 (7, .iload_n 2, 1) rfl) ?_
    refine zx_callS_zN (pc := 8) (rm := rm_X11_isBettor) G cw_RX11_336 ⟨Nat.le_of_ble_eq_true rfl, Nat.le_of_ble_eq_true rfl⟩ rfl rfl ⟨Nat.zero_le _, Nat.zero_le _⟩ (fun sz => (met_X11_isBettor l D ρ kd q μ1 sz a2 _ hI h)) rfl rfl (Nat.le_of_ble_eq_true rfl) (z_dec T_X11_together_ok 4 (8, .invokestatic 336, 3) rfl) (fun r4 μ3 hzr4 hn => ?_)
    clear h
    have h := hn
    clear hn
    refine zx_if_eq (pc := 11) (tgt := 28) G rfl (z_dec T_X11_together_ok 5 (11, .ifCond .eq 17, 3) rfl) (fun hc => ?_) (fun hc => ?_)
    · replace h := z_pos hc h
      refine zx_iconst (pc := 28) (v := -1) G (z_dec T_X11_together_ok 13 (28, .iconst (-1), 1) rfl) rfl ?_
      exact zx_iret (pc := 29) G hr hlk (Nat.le_refl _) (Nat.le_refl _) (z_dec T_X11_together_ok 14 (29, .ireturn, 1) rfl) ⟨rfl, _, rfl, h⟩
    · replace h := z_neg hc h
      refine zx_iload_n (pc := 14) G 1 rfl rfl (z_dec T_X11_together_ok 6 (14, .iload_n 1, 1) rfl) ?_
      refine zx_iload_n (pc := 15) G 2 rfl rfl (z_dec T_X11_together_ok 7 (15, .iload_n 2, 1) rfl) ?_
      refine zx_icmp_eq (pc := 16) (tgt := 28) G rfl (z_dec T_X11_together_ok 8 (16, .if_icmp .eq 12, 3) rfl) (fun hc => ?_) (fun hc => ?_)
      · replace h := z_pos hc h
        refine zx_iconst (pc := 28) (v := -1) G (z_dec T_X11_together_ok 13 (28, .iconst (-1), 1) rfl) rfl ?_
        exact zx_iret (pc := 29) G hr hlk (Nat.le_refl _) (Nat.le_refl _) (z_dec T_X11_together_ok 14 (29, .ireturn, 1) rfl) ⟨rfl, _, rfl, h⟩
      · replace h := z_neg hc h
        refine zx_iload_n (pc := 19) G 3 rfl rfl (z_dec T_X11_together_ok 9 (19, .iload_n 3, 1) rfl) ?_
        refine zx_iload (pc := 20) G 4 rfl (z_dec T_X11_together_ok 10 (20, .iload 4, 2) rfl) ?_
        refine zx_callS_zN (pc := 22) (rm := rm_X11_isCompany) G cw_RX11_356 ⟨Nat.le_of_ble_eq_true rfl, Nat.le_of_ble_eq_true rfl⟩ rfl rfl ⟨Nat.zero_le _, Nat.zero_le _⟩ (fun sz => (met_X11_isCompany l D ρ kd q μ3 sz a3 a4 _ hI h)) rfl rfl (Nat.le_of_ble_eq_true rfl) (z_dec T_X11_together_ok 11 (22, .invokestatic 356, 3) rfl) (fun r6 μ5 hzr6 hn => ?_)
        clear h
        have h := hn
        clear hn
        refine zx_if_ne (pc := 25) (tgt := 30) G rfl (z_dec T_X11_together_ok 12 (25, .ifCond .ne 5, 3) rfl) (fun hc => ?_) (fun hc => ?_)
        · replace h := z_neg hc h
          refine zx_aload_n (pc := 30) G (some (0)) 0 rfl rfl (z_dec T_X11_together_ok 15 (30, .aload_n 0, 1) rfl) ?_
          refine zx_iload (pc := 31) G 4 rfl (z_dec T_X11_together_ok 16 (31, .iload 4, 2) rfl) ?_
          refine zx_callV_vN (pc := 33) (rm := rm_X11_meet) G cw_RX11_360 ⟨Nat.le_of_ble_eq_true rfl, Nat.le_of_ble_eq_true rfl⟩ rfl rfl ⟨Nat.zero_le _, Nat.zero_le _⟩ h_o rfl (fun sz => (met_X11_meet l D ρ kd q μ5 sz a4 _ hI h_o h)) rfl rfl (Nat.le_of_ble_eq_true rfl) (z_dec T_X11_together_ok 17 (33, .invokevirtual 360, 3) rfl) (fun μ7 hn => ?_)
          clear h
          have h := hn
          clear hn
          refine zx_aload_n (pc := 36) G (some (0)) 0 rfl rfl (z_dec T_X11_together_ok 18 (36, .aload_n 0, 1) rfl) ?_
          refine zx_iload_n (pc := 37) G 1 rfl rfl (z_dec T_X11_together_ok 19 (37, .iload_n 1, 1) rfl) ?_
          refine zx_iload_n (pc := 38) G 2 rfl rfl (z_dec T_X11_together_ok 20 (38, .iload_n 2, 1) rfl) ?_
          refine zx_iload_n (pc := 39) G 3 rfl rfl (z_dec T_X11_together_ok 21 (39, .iload_n 3, 1) rfl) ?_
          refine zx_callV_zN (pc := 40) (rm := rm_X11_areTogether) G cw_RX11_363 ⟨Nat.le_of_ble_eq_true rfl, Nat.le_of_ble_eq_true rfl⟩ rfl rfl ⟨Nat.zero_le _, Nat.zero_le _⟩ h_o rfl (fun sz => (met_X11_areTogether l D ρ kd q μ7 sz a1 a2 a3 _ hI h_o h)) rfl rfl (Nat.le_of_ble_eq_true rfl) (z_dec T_X11_together_ok 22 (40, .invokevirtual 363, 3) rfl) (fun r9 μ8 hzr9 hn => ?_)
          clear h
          have h := hn
          clear hn
          refine zx_if_eq (pc := 43) (tgt := 50) G rfl (z_dec T_X11_together_ok 23 (43, .ifCond .eq 7, 3) rfl) (fun hc => ?_) (fun hc => ?_)
          · replace h := z_pos hc h
            refine zx_iconst (pc := 50) (v := 0) G (z_dec T_X11_together_ok 26 (50, .iconst 0, 1) rfl) rfl ?_
            exact zx_iret (pc := 51) G hr hlk (Nat.le_refl _) (Nat.le_refl _) (z_dec T_X11_together_ok 27 (51, .ireturn, 1) rfl) ⟨rfl, _, rfl, h⟩
          · replace h := z_neg hc h
            refine zx_iconst (pc := 46) (v := 1) G (z_dec T_X11_together_ok 24 (46, .iconst 1, 1) rfl) rfl ?_
            refine zx_goto (pc := 47) (tgt := 51) G rfl (z_dec T_X11_together_ok 25 (47, .goto 4, 3) rfl) ?_
            exact zx_iret (pc := 51) G hr hlk (Nat.le_refl _) (Nat.le_refl _) (z_dec T_X11_together_ok 27 (51, .ireturn, 1) rfl) ⟨rfl, _, rfl, h⟩
        · replace h := z_pos hc h
          refine zx_iconst (pc := 28) (v := -1) G (z_dec T_X11_together_ok 13 (28, .iconst (-1), 1) rfl) rfl ?_
          exact zx_iret (pc := 29) G hr hlk (Nat.le_refl _) (Nat.le_refl _) (z_dec T_X11_together_ok 14 (29, .ireturn, 1) rfl) ⟨rfl, _, rfl, h⟩
abbrev rm_X11_nextTo : Room := { frames := 2, cells := 0, slots := 0, locals := 43 }
set_option maxRecDepth 100000 in
set_option maxHeartbeats 4000000 in
theorem B_X11_nextTo_5_ok {p : Program} {l : Launch} {e : Env} {s : State} {m : MethodId} {args : Array Value} {below : List Frame} {meth : Method} {c : Code} {D : va_G} {A : Nat → Prop} {ρ : z_A} {kd : z_K} {q : z_Q} {μ : z_M} {K : Int32 → z_M → Prop} {P5 : Int32 → Int32 → Int32 → Int32 → z_M → Prop} {v1 : Int32} {v2 : Int32} {v3 : Int32} {v4 : Int32} (G : z_G p c cX11_nextTo s m args RX11 5 D) (hr : meth.sig.returnType = (Option.some Jvm.ClassFile.FieldType.int)) (hlk : meth.locks = false) (hP5 : ∀ (v1 : Int32) (v2 : Int32) (v3 : Int32) (v4 : Int32) (μ : z_M), P5 v1 v2 v3 v4 μ → (kd 0 = some (.inl 11)) → z_X p l e rm_X11_nextTo s m args below meth c 5 D A (MQ below (z_Qn D A ρ kd (z_Ki q K)) args s 0 0 A) 0 0 ρ kd q μ 5 [(0, .ref (0)), (1, .int (v1)), (2, .int (v2)), (3, .int (v3)), (4, .int (v4))] []) (hI : z_I kd q) (f_l0 : kd 0 = some (.inl 11)) (h : B_X11_nextTo_5 kd q K P5 v1 v2 v3 v4 μ) : z_X p l e rm_X11_nextTo s m args below meth c 5 D A (MQ below (z_Qn D A ρ kd (z_Ki q K)) args s 0 0 A) 0 0 ρ kd q μ 5 [(0, .ref (0)), (1, .int (v1)), (2, .int (v2)), (3, .int (v3)), (4, .int (v4))] [] := by
    unfold B_X11_nextTo_5 at h
    refine zx_iload (pc := 5) G 4 rfl (z_dec T_X11_nextTo_ok 4 (5, .iload 4, 2) rfl) ?_
    refine zx_bipush (pc := 7) (v := 16) G (z_dec T_X11_nextTo_ok 5 (7, .bipush 16, 2) rfl) rfl ?_
    refine zx_icmp_ge (pc := 9) (tgt := 36) G rfl (z_dec T_X11_nextTo_ok 6 (9, .if_icmp .ge 27, 3) rfl) (fun hc => ?_) (fun hc => ?_)
    · replace h := z_pos hc h
      refine zx_iload_n (pc := 36) G 3 rfl rfl (z_dec T_X11_nextTo_ok 21 (36, .iload_n 3, 1) rfl) ?_
      exact zx_iret (pc := 37) G hr hlk (Nat.le_refl _) (Nat.le_refl _) (z_dec T_X11_nextTo_ok 22 (37, .ireturn, 1) rfl) ⟨rfl, _, rfl, h⟩
    · replace h := z_neg hc h
      refine zx_aload_n (pc := 12) G (some (0)) 0 rfl rfl (z_dec T_X11_nextTo_ok 7 (12, .aload_n 0, 1) rfl) ?_
      refine zx_iload_n (pc := 13) G 1 rfl rfl (z_dec T_X11_nextTo_ok 8 (13, .iload_n 1, 1) rfl) ?_
      refine zx_iload (pc := 14) G 4 rfl (z_dec T_X11_nextTo_ok 9 (14, .iload 4, 2) rfl) ?_
      refine zx_iload_n (pc := 16) G 2 rfl rfl (z_dec T_X11_nextTo_ok 10 (16, .iload_n 2, 1) rfl) ?_
      refine zx_callV_zN (pc := 17) (rm := rm_X11_areTogether) G cw_RX11_363 ⟨Nat.le_of_ble_eq_true rfl, Nat.le_of_ble_eq_true rfl⟩ rfl rfl ⟨Nat.zero_le _, Nat.zero_le _⟩ f_l0 rfl (fun sz => (met_X11_areTogether l D ρ kd q μ sz v1 v4 v2 _ hI f_l0 h)) rfl rfl (Nat.le_of_ble_eq_true rfl) (z_dec T_X11_nextTo_ok 11 (17, .invokevirtual 363, 3) rfl) (fun r2 μ1 hzr2 hn => ?_)
      clear h
      have h := hn
      clear hn
      refine zx_if_eq (pc := 20) (tgt := 30) G rfl (z_dec T_X11_nextTo_ok 12 (20, .ifCond .eq 10, 3) rfl) (fun hc => ?_) (fun hc => ?_)
      · replace h := z_pos hc h
        refine zx_iinc (pc := 30) (v := v4 + 1) (lv' := [(4, .int (v4 + 1)), (0, .ref (0)), (1, .int (v1)), (2, .int (v2)), (3, .int (v3))]) G 4 rfl (z_inc (by decide)) (Nat.le_of_ble_eq_true rfl) rfl (z_dec T_X11_nextTo_ok 19 (30, .iinc 4 1, 3) rfl) ?_
        refine zx_goto (pc := 33) (tgt := 5) G rfl (z_dec T_X11_nextTo_ok 20 (33, .goto (-28), 3) rfl) ?_
        refine zx_sub (lv' := [(0, .ref (0)), (1, .int (v1)), (2, .int (v2)), (3, .int (v3)), (4, .int (v4 + 1))]) [1, 2, 3, 4, 0] rfl ?_
        exact hP5 _ _ _ _ _ h f_l0
      · replace h := z_neg hc h
        refine zx_iload_n (pc := 23) G 3 rfl rfl (z_dec T_X11_nextTo_ok 13 (23, .iload_n 3, 1) rfl) ?_
        refine zx_iconst (pc := 24) (v := 1) G (z_dec T_X11_nextTo_ok 14 (24, .iconst 1, 1) rfl) rfl ?_
        refine zx_iload (pc := 25) G 4 rfl (z_dec T_X11_nextTo_ok 15 (25, .iload 4, 2) rfl) ?_
        refine zx_ishl (pc := 27) G  (z_dec T_X11_nextTo_ok 16 (27, .ishl, 1) rfl) ?_
        refine zx_ior (pc := 28) G  (z_dec T_X11_nextTo_ok 17 (28, .ior, 1) rfl) ?_
        refine zx_istore_n (pc := 29) (lv' := [(3, .int (v3 ||| (((1 : Int32)) <<< (v4 &&& 31)))), (0, .ref (0)), (1, .int (v1)), (2, .int (v2)), (4, .int (v4))]) G rfl (Nat.le_of_ble_eq_true rfl) rfl (z_dec T_X11_nextTo_ok 18 (29, .istore_n 3, 1) rfl) ?_
        refine zx_iinc (pc := 30) (v := v4 + 1) (lv' := [(4, .int (v4 + 1)), (3, .int (v3 ||| (((1 : Int32)) <<< (v4 &&& 31)))), (0, .ref (0)), (1, .int (v1)), (2, .int (v2))]) G 4 rfl (z_inc (by decide)) (Nat.le_of_ble_eq_true rfl) rfl (z_dec T_X11_nextTo_ok 19 (30, .iinc 4 1, 3) rfl) ?_
        refine zx_goto (pc := 33) (tgt := 5) G rfl (z_dec T_X11_nextTo_ok 20 (33, .goto (-28), 3) rfl) ?_
        refine zx_sub (lv' := [(0, .ref (0)), (1, .int (v1)), (2, .int (v2)), (3, .int (v3 ||| (((1 : Int32)) <<< (v4 &&& 31)))), (4, .int (v4 + 1))]) [2, 3, 4, 1, 0] rfl ?_
        exact hP5 _ _ _ _ _ h f_l0
set_option maxRecDepth 100000 in
set_option maxHeartbeats 4000000 in
theorem L_X11_nextTo_5_ok {p : Program} {l : Launch} {e : Env} {s : State} {m : MethodId} {args : Array Value} {below : List Frame} {meth : Method} {c : Code} {D : va_G} {A : Nat → Prop} {ρ : z_A} {kd : z_K} {q : z_Q} {μ : z_M} {K : Int32 → z_M → Prop} {v1 : Int32} {v2 : Int32} {v3 : Int32} {v4 : Int32} (G : z_G p c cX11_nextTo s m args RX11 5 D) (hr : meth.sig.returnType = (Option.some Jvm.ClassFile.FieldType.int)) (hlk : meth.locks = false) (hI : z_I kd q) (f_l0 : kd 0 = some (.inl 11)) (h : L_X11_nextTo_5 kd q K v1 v2 v3 v4 μ) : z_X p l e rm_X11_nextTo s m args below meth c 5 D A (MQ below (z_Qn D A ρ kd (z_Ki q K)) args s 0 0 A) 0 0 ρ kd q μ 5 [(0, .ref (0)), (1, .int (v1)), (2, .int (v2)), (3, .int (v3)), (4, .int (v4))] [] :=
  h (fun (v1 : Int32) (v2 : Int32) (v3 : Int32) (v4 : Int32) (μ : z_M) => (kd 0 = some (.inl 11)) → z_X p l e rm_X11_nextTo s m args below meth c 5 D A (MQ below (z_Qn D A ρ kd (z_Ki q K)) args s 0 0 A) 0 0 ρ kd q μ 5 [(0, .ref (0)), (1, .int (v1)), (2, .int (v2)), (3, .int (v3)), (4, .int (v4))] []) (fun v1 v2 v3 v4 μ h f_l0 => B_X11_nextTo_5_ok G hr hlk (fun _ _ _ _ _ h => h) hI f_l0 h) f_l0
set_option maxRecDepth 100000 in
set_option maxHeartbeats 4000000 in
theorem met_X11_nextTo (l : Launch) (D : va_G) (ρ : z_A) (kd : z_K) (q : z_Q) (μ : z_M) (sz : Nat) (a1 : Int32) (a2 : Int32) (K : Int32 → z_M → Prop) (hI : z_I kd q) (h_o : kd 0 = some (.inl 11)) (h : C_X11_nextTo kd q a1 a2 μ K) : Met l yX11_nextTo (z_ws yX11_nextTo cX11_nextTo 5 (Option.some Jvm.ClassFile.FieldType.int)) rm_X11_nextTo (z_Pc D ρ kd q μ sz [.ref (0), .int (a1), .int (a2)]) (z_Qn D (z_Rg ρ sz) ρ kd (z_Ki q K)) 0 0 (z_Rg ρ sz) := by
  refine z_met (rm := rm_X11_nextTo) (by decide) (Nat.le_of_ble_eq_true rfl) (fun p e s m args below meth c G hr hlk => ?_)
  unfold C_X11_nextTo at h
  show z_X _ _ _ _ _ _ _ _ _ _ _ _ _ _ _ _ _ _ _ _ _ [(0, .ref (0)), (1, .int (a1)), (2, .int (a2))] _
  refine zx_iconst (pc := 0) (v := 0) G (z_dec T_X11_nextTo_ok 0 (0, .iconst 0, 1) rfl) rfl ?_
  refine zx_istore_n (pc := 1) (lv' := [(3, .int ((0 : Int32))), (0, .ref (0)), (1, .int (a1)), (2, .int (a2))]) G rfl (Nat.le_of_ble_eq_true rfl) rfl (z_dec T_X11_nextTo_ok 1 (1, .istore_n 3, 1) rfl) ?_
  refine zx_iconst (pc := 2) (v := 0) G (z_dec T_X11_nextTo_ok 2 (2, .iconst 0, 1) rfl) rfl ?_
  refine zx_istore (pc := 3) (lv' := [(4, .int ((0 : Int32))), (3, .int ((0 : Int32))), (0, .ref (0)), (1, .int (a1)), (2, .int (a2))]) G (Nat.le_of_ble_eq_true rfl) rfl (z_dec T_X11_nextTo_ok 3 (3, .istore 4, 2) rfl) ?_
  refine zx_sub (lv' := [(0, .ref (0)), (1, .int (a1)), (2, .int (a2)), (3, .int ((0 : Int32))), (4, .int ((0 : Int32)))]) [2, 3, 4, 1, 0] rfl ?_
  exact L_X11_nextTo_5_ok G hr hlk hI h_o h
abbrev rm_X11_allWith : Room := { frames := 3, cells := 0, slots := 0, locals := 67 }
set_option maxRecDepth 100000 in
set_option maxHeartbeats 4000000 in
theorem B_X11_allWith_20_ok {p : Program} {l : Launch} {e : Env} {s : State} {m : MethodId} {args : Array Value} {below : List Frame} {meth : Method} {c : Code} {D : va_G} {A : Nat → Prop} {ρ : z_A} {kd : z_K} {q : z_Q} {μ : z_M} {K : Int32 → z_M → Prop} {P7 : Int32 → Int32 → Int32 → z_M → Prop} {P20 : Int32 → Int32 → Int32 → Int32 → Int32 → z_M → Prop} {v2 : Int32} {v3 : Int32} {v4 : Int32} {v5 : Int32} {v6 : Int32} (G : z_G p c cX11_allWith s m args RX11 7 D) (hr : meth.sig.returnType = (Option.some Jvm.ClassFile.FieldType.int)) (hlk : meth.locks = false) (hP7 : ∀ (v2 : Int32) (v3 : Int32) (v4 : Int32) (μ : z_M), P7 v2 v3 v4 μ → (kd 0 = some (.inl 11)) → z_X p l e rm_X11_allWith s m args below meth c 7 D A (MQ below (z_Qn D A ρ kd (z_Ki q K)) args s 0 0 A) 0 0 ρ kd q μ 7 [(0, .ref (0)), (2, .int (v2)), (3, .int (v3)), (4, .int (v4))] []) (hP20 : ∀ (v2 : Int32) (v3 : Int32) (v4 : Int32) (v5 : Int32) (v6 : Int32) (μ : z_M), P20 v2 v3 v4 v5 v6 μ → (kd 0 = some (.inl 11)) → z_X p l e rm_X11_allWith s m args below meth c 7 D A (MQ below (z_Qn D A ρ kd (z_Ki q K)) args s 0 0 A) 0 0 ρ kd q μ 20 [(0, .ref (0)), (2, .int (v2)), (3, .int (v3)), (4, .int (v4)), (5, .int (v5)), (6, .int (v6))] []) (hI : z_I kd q) (f_l0 : kd 0 = some (.inl 11)) (h : B_X11_allWith_20 kd q K P7 P20 v2 v3 v4 v5 v6 μ) : z_X p l e rm_X11_allWith s m args below meth c 7 D A (MQ below (z_Qn D A ρ kd (z_Ki q K)) args s 0 0 A) 0 0 ρ kd q μ 20 [(0, .ref (0)), (2, .int (v2)), (3, .int (v3)), (4, .int (v4)), (5, .int (v5)), (6, .int (v6))] [] := by
    unfold B_X11_allWith_20 at h
    refine zx_iload (pc := 20) G 5 rfl (z_dec T_X11_allWith_ok 13 (20, .iload 6, 2) rfl) ?_
    refine zx_bipush (pc := 22) (v := 16) G (z_dec T_X11_allWith_ok 14 (22, .bipush 16, 2) rfl) rfl ?_
    refine zx_icmp_ge (pc := 24) (tgt := 53) G rfl (z_dec T_X11_allWith_ok 15 (24, .if_icmp .ge 29, 3) rfl) (fun hc => ?_) (fun hc => ?_)
    · replace h := z_pos hc h
      refine zx_iinc (pc := 53) (v := v4 + 1) (lv' := [(4, .int (v4 + 1)), (0, .ref (0)), (2, .int (v2)), (3, .int (v3)), (5, .int (v5)), (6, .int (v6))]) G 3 rfl (z_inc (by decide)) (Nat.le_of_ble_eq_true rfl) rfl (z_dec T_X11_allWith_ok 31 (53, .iinc 4 1, 3) rfl) ?_
      refine zx_goto (pc := 56) (tgt := 7) G rfl (z_dec T_X11_allWith_ok 32 (56, .goto (-49), 3) rfl) ?_
      refine zx_sub (lv' := [(0, .ref (0)), (2, .int (v2)), (3, .int (v3)), (4, .int (v4 + 1))]) [1, 2, 3, 0] rfl ?_
      exact hP7 _ _ _ _ h f_l0
    · replace h := z_neg hc h
      refine zx_iload (pc := 27) G 4 rfl (z_dec T_X11_allWith_ok 16 (27, .iload 5, 2) rfl) ?_
      refine zx_iload (pc := 29) G 5 rfl (z_dec T_X11_allWith_ok 17 (29, .iload 6, 2) rfl) ?_
      refine zx_ishr (pc := 31) G  (z_dec T_X11_allWith_ok 18 (31, .ishr, 1) rfl) ?_
      refine zx_iconst (pc := 32) (v := 1) G (z_dec T_X11_allWith_ok 19 (32, .iconst 1, 1) rfl) rfl ?_
      refine zx_iand (pc := 33) G  (z_dec T_X11_allWith_ok 20 (33, .iand, 1) rfl) ?_
      refine zx_if_eq (pc := 34) (tgt := 47) G rfl (z_dec T_X11_allWith_ok 21 (34, .ifCond .eq 13, 3) rfl) (fun hc => ?_) (fun hc => ?_)
      · replace h := z_pos hc h
        refine zx_iinc (pc := 47) (v := v6 + 1) (lv' := [(6, .int (v6 + 1)), (0, .ref (0)), (2, .int (v2)), (3, .int (v3)), (4, .int (v4)), (5, .int (v5))]) G 5 rfl (z_inc (by decide)) (Nat.le_of_ble_eq_true rfl) rfl (z_dec T_X11_allWith_ok 29 (47, .iinc 6 1, 3) rfl) ?_
        refine zx_goto (pc := 50) (tgt := 20) G rfl (z_dec T_X11_allWith_ok 30 (50, .goto (-30), 3) rfl) ?_
        refine zx_sub (lv' := [(0, .ref (0)), (2, .int (v2)), (3, .int (v3)), (4, .int (v4)), (5, .int (v5)), (6, .int (v6 + 1))]) [1, 2, 3, 4, 5, 0] rfl ?_
        exact hP20 _ _ _ _ _ _ h f_l0
      · replace h := z_neg hc h
        refine zx_iload_n (pc := 37) G 2 rfl rfl (z_dec T_X11_allWith_ok 22 (37, .iload_n 3, 1) rfl) ?_
        refine zx_aload_n (pc := 38) G (some (0)) 0 rfl rfl (z_dec T_X11_allWith_ok 23 (38, .aload_n 0, 1) rfl) ?_
        refine zx_iload (pc := 39) G 5 rfl (z_dec T_X11_allWith_ok 24 (39, .iload 6, 2) rfl) ?_
        refine zx_iload_n (pc := 41) G 1 rfl rfl (z_dec T_X11_allWith_ok 25 (41, .iload_n 2, 1) rfl) ?_
        refine zx_callV_iN (pc := 42) (rm := rm_X11_nextTo) G cw_RX11_521 ⟨Nat.le_of_ble_eq_true rfl, Nat.le_of_ble_eq_true rfl⟩ rfl rfl ⟨Nat.zero_le _, Nat.zero_le _⟩ f_l0 rfl (fun sz => (met_X11_nextTo l D ρ kd q μ sz v6 v2 _ hI f_l0 h)) rfl rfl (Nat.le_of_ble_eq_true rfl) (z_dec T_X11_allWith_ok 26 (42, .invokevirtual 521, 3) rfl) (fun r2 μ1 hn => ?_)
        clear h
        have h := hn
        clear hn
        refine zx_ior (pc := 45) G  (z_dec T_X11_allWith_ok 27 (45, .ior, 1) rfl) ?_
        refine zx_istore_n (pc := 46) (lv' := [(3, .int (v3 ||| r2)), (0, .ref (0)), (2, .int (v2)), (4, .int (v4)), (5, .int (v5)), (6, .int (v6))]) G rfl (Nat.le_of_ble_eq_true rfl) rfl (z_dec T_X11_allWith_ok 28 (46, .istore_n 3, 1) rfl) ?_
        refine zx_iinc (pc := 47) (v := v6 + 1) (lv' := [(6, .int (v6 + 1)), (3, .int (v3 ||| r2)), (0, .ref (0)), (2, .int (v2)), (4, .int (v4)), (5, .int (v5))]) G 5 rfl (z_inc (by decide)) (Nat.le_of_ble_eq_true rfl) rfl (z_dec T_X11_allWith_ok 29 (47, .iinc 6 1, 3) rfl) ?_
        refine zx_goto (pc := 50) (tgt := 20) G rfl (z_dec T_X11_allWith_ok 30 (50, .goto (-30), 3) rfl) ?_
        refine zx_sub (lv' := [(0, .ref (0)), (2, .int (v2)), (3, .int (v3 ||| r2)), (4, .int (v4)), (5, .int (v5)), (6, .int (v6 + 1))]) [2, 3, 1, 4, 5, 0] rfl ?_
        exact hP20 _ _ _ _ _ _ h f_l0
set_option maxRecDepth 100000 in
set_option maxHeartbeats 4000000 in
theorem L_X11_allWith_20_ok {p : Program} {l : Launch} {e : Env} {s : State} {m : MethodId} {args : Array Value} {below : List Frame} {meth : Method} {c : Code} {D : va_G} {A : Nat → Prop} {ρ : z_A} {kd : z_K} {q : z_Q} {μ : z_M} {K : Int32 → z_M → Prop} {P7 : Int32 → Int32 → Int32 → z_M → Prop} {v2 : Int32} {v3 : Int32} {v4 : Int32} {v5 : Int32} {v6 : Int32} (G : z_G p c cX11_allWith s m args RX11 7 D) (hr : meth.sig.returnType = (Option.some Jvm.ClassFile.FieldType.int)) (hlk : meth.locks = false) (hP7 : ∀ (v2 : Int32) (v3 : Int32) (v4 : Int32) (μ : z_M), P7 v2 v3 v4 μ → (kd 0 = some (.inl 11)) → z_X p l e rm_X11_allWith s m args below meth c 7 D A (MQ below (z_Qn D A ρ kd (z_Ki q K)) args s 0 0 A) 0 0 ρ kd q μ 7 [(0, .ref (0)), (2, .int (v2)), (3, .int (v3)), (4, .int (v4))] []) (hI : z_I kd q) (f_l0 : kd 0 = some (.inl 11)) (h : L_X11_allWith_20 kd q K P7 v2 v3 v4 v5 v6 μ) : z_X p l e rm_X11_allWith s m args below meth c 7 D A (MQ below (z_Qn D A ρ kd (z_Ki q K)) args s 0 0 A) 0 0 ρ kd q μ 20 [(0, .ref (0)), (2, .int (v2)), (3, .int (v3)), (4, .int (v4)), (5, .int (v5)), (6, .int (v6))] [] :=
  h (fun (v2 : Int32) (v3 : Int32) (v4 : Int32) (v5 : Int32) (v6 : Int32) (μ : z_M) => (kd 0 = some (.inl 11)) → z_X p l e rm_X11_allWith s m args below meth c 7 D A (MQ below (z_Qn D A ρ kd (z_Ki q K)) args s 0 0 A) 0 0 ρ kd q μ 20 [(0, .ref (0)), (2, .int (v2)), (3, .int (v3)), (4, .int (v4)), (5, .int (v5)), (6, .int (v6))] []) (fun v2 v3 v4 v5 v6 μ h f_l0 => B_X11_allWith_20_ok G hr hlk hP7 (fun _ _ _ _ _ _ h => h) hI f_l0 h) f_l0
set_option maxRecDepth 100000 in
set_option maxHeartbeats 4000000 in
theorem B_X11_allWith_7_ok {p : Program} {l : Launch} {e : Env} {s : State} {m : MethodId} {args : Array Value} {below : List Frame} {meth : Method} {c : Code} {D : va_G} {A : Nat → Prop} {ρ : z_A} {kd : z_K} {q : z_Q} {μ : z_M} {K : Int32 → z_M → Prop} {P7 : Int32 → Int32 → Int32 → z_M → Prop} {v2 : Int32} {v3 : Int32} {v4 : Int32} (G : z_G p c cX11_allWith s m args RX11 7 D) (hr : meth.sig.returnType = (Option.some Jvm.ClassFile.FieldType.int)) (hlk : meth.locks = false) (hP7 : ∀ (v2 : Int32) (v3 : Int32) (v4 : Int32) (μ : z_M), P7 v2 v3 v4 μ → (kd 0 = some (.inl 11)) → z_X p l e rm_X11_allWith s m args below meth c 7 D A (MQ below (z_Qn D A ρ kd (z_Ki q K)) args s 0 0 A) 0 0 ρ kd q μ 7 [(0, .ref (0)), (2, .int (v2)), (3, .int (v3)), (4, .int (v4))] []) (hI : z_I kd q) (f_l0 : kd 0 = some (.inl 11)) (h : B_X11_allWith_7 kd q K P7 v2 v3 v4 μ) : z_X p l e rm_X11_allWith s m args below meth c 7 D A (MQ below (z_Qn D A ρ kd (z_Ki q K)) args s 0 0 A) 0 0 ρ kd q μ 7 [(0, .ref (0)), (2, .int (v2)), (3, .int (v3)), (4, .int (v4))] [] := by
    unfold B_X11_allWith_7 at h
    refine zx_iload (pc := 7) G 3 rfl (z_dec T_X11_allWith_ok 6 (7, .iload 4, 2) rfl) ?_
    refine zx_bipush (pc := 9) (v := 16) G (z_dec T_X11_allWith_ok 7 (9, .bipush 16, 2) rfl) rfl ?_
    refine zx_icmp_ge (pc := 11) (tgt := 59) G rfl (z_dec T_X11_allWith_ok 8 (11, .if_icmp .ge 48, 3) rfl) (fun hc => ?_) (fun hc => ?_)
    · replace h := z_pos hc h
      refine zx_iload_n (pc := 59) G 2 rfl rfl (z_dec T_X11_allWith_ok 33 (59, .iload_n 3, 1) rfl) ?_
      exact zx_iret (pc := 60) G hr hlk (Nat.le_refl _) (Nat.le_refl _) (z_dec T_X11_allWith_ok 34 (60, .ireturn, 1) rfl) ⟨rfl, _, rfl, h⟩
    · replace h := z_neg hc h
      refine zx_iload_n (pc := 14) G 2 rfl rfl (z_dec T_X11_allWith_ok 9 (14, .iload_n 3, 1) rfl) ?_
      refine zx_istore (pc := 15) (lv' := [(5, .int (v3)), (0, .ref (0)), (2, .int (v2)), (3, .int (v3)), (4, .int (v4))]) G (Nat.le_of_ble_eq_true rfl) rfl (z_dec T_X11_allWith_ok 10 (15, .istore 5, 2) rfl) ?_
      refine zx_iconst (pc := 17) (v := 0) G (z_dec T_X11_allWith_ok 11 (17, .iconst 0, 1) rfl) rfl ?_
      refine zx_istore (pc := 18) (lv' := [(6, .int ((0 : Int32))), (5, .int (v3)), (0, .ref (0)), (2, .int (v2)), (3, .int (v3)), (4, .int (v4))]) G (Nat.le_of_ble_eq_true rfl) rfl (z_dec T_X11_allWith_ok 12 (18, .istore 6, 2) rfl) ?_
      refine zx_sub (lv' := [(0, .ref (0)), (2, .int (v2)), (3, .int (v3)), (4, .int (v4)), (5, .int (v3)), (6, .int ((0 : Int32)))]) [2, 3, 4, 5, 1, 0] rfl ?_
      exact L_X11_allWith_20_ok G hr hlk hP7 hI f_l0 h
set_option maxRecDepth 100000 in
set_option maxHeartbeats 4000000 in
theorem L_X11_allWith_7_ok {p : Program} {l : Launch} {e : Env} {s : State} {m : MethodId} {args : Array Value} {below : List Frame} {meth : Method} {c : Code} {D : va_G} {A : Nat → Prop} {ρ : z_A} {kd : z_K} {q : z_Q} {μ : z_M} {K : Int32 → z_M → Prop} {v2 : Int32} {v3 : Int32} {v4 : Int32} (G : z_G p c cX11_allWith s m args RX11 7 D) (hr : meth.sig.returnType = (Option.some Jvm.ClassFile.FieldType.int)) (hlk : meth.locks = false) (hI : z_I kd q) (f_l0 : kd 0 = some (.inl 11)) (h : L_X11_allWith_7 kd q K v2 v3 v4 μ) : z_X p l e rm_X11_allWith s m args below meth c 7 D A (MQ below (z_Qn D A ρ kd (z_Ki q K)) args s 0 0 A) 0 0 ρ kd q μ 7 [(0, .ref (0)), (2, .int (v2)), (3, .int (v3)), (4, .int (v4))] [] :=
  h (fun (v2 : Int32) (v3 : Int32) (v4 : Int32) (μ : z_M) => (kd 0 = some (.inl 11)) → z_X p l e rm_X11_allWith s m args below meth c 7 D A (MQ below (z_Qn D A ρ kd (z_Ki q K)) args s 0 0 A) 0 0 ρ kd q μ 7 [(0, .ref (0)), (2, .int (v2)), (3, .int (v3)), (4, .int (v4))] []) (fun v2 v3 v4 μ h f_l0 => B_X11_allWith_7_ok G hr hlk (fun _ _ _ _ h => h) hI f_l0 h) f_l0
set_option maxRecDepth 100000 in
set_option maxHeartbeats 4000000 in
theorem met_X11_allWith (l : Launch) (D : va_G) (ρ : z_A) (kd : z_K) (q : z_Q) (μ : z_M) (sz : Nat) (a1 : Int32) (a2 : Int32) (K : Int32 → z_M → Prop) (hI : z_I kd q) (h_o : kd 0 = some (.inl 11)) (h : C_X11_allWith kd q a1 a2 μ K) : Met l yX11_allWith (z_ws yX11_allWith cX11_allWith 7 (Option.some Jvm.ClassFile.FieldType.int)) rm_X11_allWith (z_Pc D ρ kd q μ sz [.ref (0), .int (a1), .int (a2)]) (z_Qn D (z_Rg ρ sz) ρ kd (z_Ki q K)) 0 0 (z_Rg ρ sz) := by
  refine z_met (rm := rm_X11_allWith) (by decide) (Nat.le_of_ble_eq_true rfl) (fun p e s m args below meth c G hr hlk => ?_)
  unfold C_X11_allWith at h
  show z_X _ _ _ _ _ _ _ _ _ _ _ _ _ _ _ _ _ _ _ _ _ [(0, .ref (0)), (1, .int (a1)), (2, .int (a2))] _
  refine zx_iconst (pc := 0) (v := 1) G (z_dec T_X11_allWith_ok 0 (0, .iconst 1, 1) rfl) rfl ?_
  refine zx_iload_n (pc := 1) G 1 rfl rfl (z_dec T_X11_allWith_ok 1 (1, .iload_n 1, 1) rfl) ?_
  refine zx_ishl (pc := 2) G  (z_dec T_X11_allWith_ok 2 (2, .ishl, 1) rfl) ?_
  refine zx_istore_n (pc := 3) (lv' := [(3, .int (((1 : Int32)) <<< (a1 &&& 31))), (0, .ref (0)), (1, .int (a1)), (2, .int (a2))]) G rfl (Nat.le_of_ble_eq_true rfl) rfl (z_dec T_X11_allWith_ok 3 (3, .istore_n 3, 1) rfl) ?_
  refine zx_iconst (pc := 4) (v := 1) G (z_dec T_X11_allWith_ok 4 (4, .iconst 1, 1) rfl) rfl ?_
  refine zx_istore (pc := 5) (lv' := [(4, .int ((1 : Int32))), (3, .int (((1 : Int32)) <<< (a1 &&& 31))), (0, .ref (0)), (1, .int (a1)), (2, .int (a2))]) G (Nat.le_of_ble_eq_true rfl) rfl (z_dec T_X11_allWith_ok 5 (5, .istore 4, 2) rfl) ?_
  refine zx_sub (lv' := [(0, .ref (0)), (2, .int (a2)), (3, .int (((1 : Int32)) <<< (a1 &&& 31))), (4, .int ((1 : Int32)))]) [2, 4, 1, 0] rfl ?_
  exact L_X11_allWith_7_ok G hr hlk hI h_o h
