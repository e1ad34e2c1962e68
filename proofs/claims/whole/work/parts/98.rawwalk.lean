abbrev rm_X0_init : Room := { frames := 1, cells := 2, slots := 6, locals := 20 }
set_option maxRecDepth 100000 in
set_option maxHeartbeats 4000000 in
theorem met_X0_init (l : Launch) (D : va_G) (ρ : z_A) (kd : z_K) (q : z_Q) (μ : z_M) (sz : Nat) (o : Nat) (a1 : Int32) (a2 : Int32) (a3 : Int32) (a4 : Int32) (a5 : Int32) (K : z_K → z_Q → z_M → Prop) (h_o : kd o = some (.inl 0)) (h : C_X0_init kd q o a1 a2 a3 a4 a5 μ K) : Met l yX0_init (z_ws yX0_init cX0_init 6 (Option.none : Option Jvm.ClassFile.FieldType)) rm_X0_init (z_Pc D ρ kd q μ sz [.ref (o), .int (a1), .int (a2), .int (a3), .int (a4), .int (a5)]) (z_Qg D (z_Rg ρ sz) ρ (z_KvG kd K)) rm_X0_init.cells rm_X0_init.slots (z_Rg ρ sz) := by
  refine z_metG (rm := rm_X0_init) (by decide) (Nat.le_of_ble_eq_true rfl) (fun p e s m args below meth c G hr hlk hin => ?_)
  have hin : meth.name = "<init>" := hin
  have he : z_ext ρ ρ := fun _ _ h => h
  have hkx : z_kext kd kd := fun _ _ h => h
  unfold C_X0_init at h
  show z_X _ _ _ _ _ _ _ _ _ _ _ _ _ _ _ _ _ _ _ _ _ [(0, .ref (o)), (1, .int (a1)), (2, .int (a2)), (3, .int (a3)), (4, .int (a4)), (5, .int (a5))] _
  refine zx_aload_n (pc := 0) G (some (o)) 0 rfl rfl (z_dec T_X0_init_ok 0 (0, .aload_n 0, 1) rfl) ?_
  refine zx_objInit (pc := 1) G wo_RX0_3 h_o ⟨Nat.le_of_ble_eq_true rfl, Nat.le_of_ble_eq_true rfl⟩ (z_dec T_X0_init_ok 1 (1, .invokespecial 3, 3) rfl) ?_
  refine zx_aload_n (pc := 4) G (some (o)) 0 rfl rfl (z_dec T_X0_init_ok 2 (4, .aload_n 0, 1) rfl) ?_
  refine zx_iload_n (pc := 5) G 1 rfl rfl (z_dec T_X0_init_ok 3 (5, .iload_n 1, 1) rfl) ?_
  refine zx_putIF (pc := 6) G gf_RX0_9 cf_0 rfl hin rfl rfl h_o (z_dec T_X0_init_ok 4 (6, .putfield 9, 3) rfl) ?_
  refine zx_aload_n (pc := 9) G (some (o)) 0 rfl rfl (z_dec T_X0_init_ok 5 (9, .aload_n 0, 1) rfl) ?_
  refine zx_iload_n (pc := 10) G 2 rfl rfl (z_dec T_X0_init_ok 6 (10, .iload_n 2, 1) rfl) ?_
  refine zx_putIF (pc := 11) G gf_RX0_15 cf_0 rfl hin rfl rfl h_o (z_dec T_X0_init_ok 7 (11, .putfield 15, 3) rfl) ?_
  refine zx_aload_n (pc := 14) G (some (o)) 0 rfl rfl (z_dec T_X0_init_ok 8 (14, .aload_n 0, 1) rfl) ?_
  refine zx_iload_n (pc := 15) G 3 rfl rfl (z_dec T_X0_init_ok 9 (15, .iload_n 3, 1) rfl) ?_
  refine zx_putIF (pc := 16) G gf_RX0_18 cf_0 rfl hin rfl rfl h_o (z_dec T_X0_init_ok 10 (16, .putfield 18, 3) rfl) ?_
  refine zx_aload_n (pc := 19) G (some (o)) 0 rfl rfl (z_dec T_X0_init_ok 11 (19, .aload_n 0, 1) rfl) ?_
  refine zx_iload (pc := 20) G 4 rfl (z_dec T_X0_init_ok 12 (20, .iload 4, 2) rfl) ?_
  refine zx_putIF (pc := 22) G gf_RX0_21 cf_0 rfl hin rfl rfl h_o (z_dec T_X0_init_ok 13 (22, .putfield 21, 3) rfl) ?_
  refine zx_aload_n (pc := 25) G (some (o)) 0 rfl rfl (z_dec T_X0_init_ok 14 (25, .aload_n 0, 1) rfl) ?_
  refine zx_iload (pc := 26) G 5 rfl (z_dec T_X0_init_ok 15 (26, .iload 5, 2) rfl) ?_
  refine zx_putIF (pc := 28) G gf_RX0_24 cf_0 rfl hin rfl rfl h_o (z_dec T_X0_init_ok 16 (28, .putfield 24, 3) rfl) ?_
  refine zx_aload_n (pc := 31) G (some (o)) 0 rfl rfl (z_dec T_X0_init_ok 17 (31, .aload_n 0, 1) rfl) ?_
  refine zx_iconst (pc := 32) (v := 3) G (z_dec T_X0_init_ok 18 (32, .iconst 3, 1) rfl) rfl ?_
  obtain ⟨n1, hnn1, hqn1, h⟩ := h
  refine zx_newaE (pc := 33) (N := 3) G n1 0 rfl (by decide) wa_0 hnn1 hqn1 (by simp only [List.map_cons, List.map_nil, List.cons_append, List.nil_append, List.forall_mem_cons]; exact ⟨(z_nref h_o hnn1), (fun h => by cases h), (fun h => by cases h), (fun h => by cases h), (fun h => by cases h), (fun h => by cases h), (z_nref h_o hnn1), fun v hv => absurd hv List.not_mem_nil⟩) (by decide) (by decide) (by decide) (Nat.le_of_ble_eq_true rfl) (Nat.le_of_ble_eq_true rfl) (z_dec T_X0_init_ok 19 (33, .newarray .int, 2) rfl) (fun ρ5 kd2 q3 μ4 e9 e10 e11 hρ7 hx6 hk8 => ?_)
  replace h := h kd2 q3 μ4 e9 e10 e11
  have he12 := z_ext_tr he hρ7
  have hk13 := z_kext_tr hkx hx6
  refine zx_dup (pc := 35) G rfl (z_dec T_X0_init_ok 20 (35, .dup, 1) rfl) ?_
  refine zx_iconst (pc := 36) (v := 0) G (z_dec T_X0_init_ok 21 (36, .iconst 0, 1) rfl) rfl ?_
  refine zx_iconst (pc := 37) (v := -1) G (z_dec T_X0_init_ok 22 (37, .iconst (-1), 1) rfl) rfl ?_
  refine zx_iast (pc := 38) G hk8 (z_inlit (by decide) (by decide)) (z_dec T_X0_init_ok 23 (38, .iastore, 1) rfl) ?_
  refine zx_dup (pc := 39) G rfl (z_dec T_X0_init_ok 24 (39, .dup, 1) rfl) ?_
  refine zx_iconst (pc := 40) (v := 1) G (z_dec T_X0_init_ok 25 (40, .iconst 1, 1) rfl) rfl ?_
  refine zx_iconst (pc := 41) (v := -1) G (z_dec T_X0_init_ok 26 (41, .iconst (-1), 1) rfl) rfl ?_
  refine zx_iast (pc := 42) G hk8 (z_inlit (by decide) (by decide)) (z_dec T_X0_init_ok 27 (42, .iastore, 1) rfl) ?_
  refine zx_dup (pc := 43) G rfl (z_dec T_X0_init_ok 28 (43, .dup, 1) rfl) ?_
  refine zx_iconst (pc := 44) (v := 2) G (z_dec T_X0_init_ok 29 (44, .iconst 2, 1) rfl) rfl ?_
  refine zx_iconst (pc := 45) (v := -1) G (z_dec T_X0_init_ok 30 (45, .iconst (-1), 1) rfl) rfl ?_
  refine zx_iast (pc := 46) G hk8 (z_inlit (by decide) (by decide)) (z_dec T_X0_init_ok 31 (46, .iastore, 1) rfl) ?_
  refine zx_putRF (pc := 47) G (some (n1)) gf_RX0_27 cf_0 rfl hin rfl rfl (hx6 _ _ h_o) (z_dec T_X0_init_ok 32 (47, .putfield 27, 3) rfl) ?_
  refine zx_aload_n (pc := 50) G (some (o)) 0 rfl rfl (z_dec T_X0_init_ok 33 (50, .aload_n 0, 1) rfl) ?_
  refine zx_iconst (pc := 51) (v := 3) G (z_dec T_X0_init_ok 34 (51, .iconst 3, 1) rfl) rfl ?_
  obtain ⟨n14, hnn14, hqn14, h⟩ := h
  refine zx_newaE (pc := 52) (N := 3) G n14 0 rfl (by decide) wa_0 hnn14 hqn14 (by simp only [List.map_cons, List.map_nil, List.cons_append, List.nil_append, List.forall_mem_cons]; exact ⟨(z_nref (hx6 _ _ h_o) hnn14), (fun h => by cases h), (fun h => by cases h), (fun h => by cases h), (fun h => by cases h), (fun h => by cases h), (z_nref (hx6 _ _ h_o) hnn14), fun v hv => absurd hv List.not_mem_nil⟩) (by decide) (by decide) (by decide) (Nat.le_of_ble_eq_true rfl) (Nat.le_of_ble_eq_true rfl) (z_dec T_X0_init_ok 35 (52, .newarray .int, 2) rfl) (fun ρ18 kd15 q16 μ17 e22 e23 e24 hρ20 hx19 hk21 => ?_)
  replace h := h kd15 q16 μ17 e22 e23 e24
  have he25 := z_ext_tr he12 hρ20
  have hk26 := z_kext_tr hk13 hx19
  refine zx_dup (pc := 54) G rfl (z_dec T_X0_init_ok 36 (54, .dup, 1) rfl) ?_
  refine zx_iconst (pc := 55) (v := 0) G (z_dec T_X0_init_ok 37 (55, .iconst 0, 1) rfl) rfl ?_
  refine zx_iconst (pc := 56) (v := -1) G (z_dec T_X0_init_ok 38 (56, .iconst (-1), 1) rfl) rfl ?_
  refine zx_iast (pc := 57) G hk21 (z_inlit (by decide) (by decide)) (z_dec T_X0_init_ok 39 (57, .iastore, 1) rfl) ?_
  refine zx_dup (pc := 58) G rfl (z_dec T_X0_init_ok 40 (58, .dup, 1) rfl) ?_
  refine zx_iconst (pc := 59) (v := 1) G (z_dec T_X0_init_ok 41 (59, .iconst 1, 1) rfl) rfl ?_
  refine zx_iconst (pc := 60) (v := -1) G (z_dec T_X0_init_ok 42 (60, .iconst (-1), 1) rfl) rfl ?_
  refine zx_iast (pc := 61) G hk21 (z_inlit (by decide) (by decide)) (z_dec T_X0_init_ok 43 (61, .iastore, 1) rfl) ?_
  refine zx_dup (pc := 62) G rfl (z_dec T_X0_init_ok 44 (62, .dup, 1) rfl) ?_
  refine zx_iconst (pc := 63) (v := 2) G (z_dec T_X0_init_ok 45 (63, .iconst 2, 1) rfl) rfl ?_
  refine zx_iconst (pc := 64) (v := -1) G (z_dec T_X0_init_ok 46 (64, .iconst (-1), 1) rfl) rfl ?_
  refine zx_iast (pc := 65) G hk21 (z_inlit (by decide) (by decide)) (z_dec T_X0_init_ok 47 (65, .iastore, 1) rfl) ?_
  refine zx_putRF (pc := 66) G (some (n14)) gf_RX0_31 cf_0 rfl hin rfl rfl (hx19 _ _ (hx6 _ _ h_o)) (z_dec T_X0_init_ok 48 (66, .putfield 31, 3) rfl) ?_
  exact zx_vretG (pc := 69) G hr hlk (Nat.le_of_ble_eq_true rfl) (Nat.le_of_ble_eq_true rfl) he25 (z_dec T_X0_init_ok 49 (69, .return_, 1) rfl) ⟨rfl, hk26, h⟩
abbrev rm_X1_init : Room := { frames := 1, cells := 7, slots := 283, locals := 20 }
set_option maxRecDepth 100000 in
set_option maxHeartbeats 4000000 in
theorem B_X1_init_27_ok {p : Program} {l : Launch} {e : Env} {s : State} {m : MethodId} {args : Array Value} {below : List Frame} {meth : Method} {c : Code} {D : va_G} {A : Nat → Prop} {ρ0 ρ : z_A} {kd0 kd : z_K} {q : z_Q} {μ : z_M} {K : z_K → z_Q → z_M → Prop} {P27 : Nat → Int32 → z_K → z_Q → z_M → Prop} {v0 : Nat} {v2 : Int32} (G : z_G p c cX1_init s m args RX1 3 D) (hr : meth.sig.returnType = (Option.none : Option Jvm.ClassFile.FieldType)) (hlk : meth.locks = false) (hin : meth.name = "<init>") (hP27 : ∀ (ρ : z_A) (v0 : Nat) (v2 : Int32) (kd : z_K) (q : z_Q) (μ : z_M), z_ext ρ0 ρ → z_kext kd0 kd → P27 v0 v2 kd q μ → (kd v0 = some (.inl 1)) → z_X p l e rm_X1_init s m args below meth c 3 D A (MQ below (z_Qg D A ρ0 (z_KvG kd0 K)) args s 7 283 A) 2 48 ρ kd q μ 27 [(0, .ref (v0)), (2, .int (v2))] []) (he : z_ext ρ0 ρ) (hkx : z_kext kd0 kd) (f_l0 : kd v0 = some (.inl 1)) (h : B_X1_init_27 K P27 v0 v2 kd q μ) : z_X p l e rm_X1_init s m args below meth c 3 D A (MQ below (z_Qg D A ρ0 (z_KvG kd0 K)) args s 7 283 A) 2 48 ρ kd q μ 27 [(0, .ref (v0)), (2, .int (v2))] [] := by
    unfold B_X1_init_27 at h
    refine zx_iload_n (pc := 27) G 1 rfl rfl (z_dec T_X1_init_ok 15 (27, .iload_n 2, 1) rfl) ?_
    refine zx_bipush (pc := 28) (v := 24) G (z_dec T_X1_init_ok 16 (28, .bipush 24, 2) rfl) rfl ?_
    refine zx_icmp_ge (pc := 30) (tgt := 53) G rfl (z_dec T_X1_init_ok 17 (30, .if_icmp .ge 23, 3) rfl) (fun hc => ?_) (fun hc => ?_)
    · replace h := z_pos hc h
      refine zx_aload_n (pc := 53) G (some (v0)) 0 rfl rfl (z_dec T_X1_init_ok 30 (53, .aload_n 0, 1) rfl) ?_
      refine zx_bipush (pc := 54) (v := 24) G (z_dec T_X1_init_ok 31 (54, .bipush 24, 2) rfl) rfl ?_
      obtain ⟨n1, hnn1, hqn1, h⟩ := h
      refine zx_newaE (pc := 56) (N := 24) G n1 0 rfl (by decide) wa_0 hnn1 hqn1 (by simp only [List.map_cons, List.map_nil, List.cons_append, List.nil_append, List.forall_mem_cons]; exact ⟨(z_nref f_l0 hnn1), (fun h => by cases h), (z_nref f_l0 hnn1), fun v hv => absurd hv List.not_mem_nil⟩) (by decide) (by decide) (by decide) (Nat.le_of_ble_eq_true rfl) (Nat.le_of_ble_eq_true rfl) (z_dec T_X1_init_ok 32 (56, .newarray .int, 2) rfl) (fun ρ5 kd2 q3 μ4 e9 e10 e11 hρ7 hx6 hk8 => ?_)
      replace h := h kd2 q3 μ4 e9 e10 e11
      have he12 := z_ext_tr he hρ7
      have hk13 := z_kext_tr hkx hx6
      refine zx_putRF (pc := 58) G (some (n1)) gf_RX1_22 cf_1 rfl hin rfl rfl (hx6 _ _ f_l0) (z_dec T_X1_init_ok 33 (58, .putfield 22, 3) rfl) ?_
      refine zx_aload_n (pc := 61) G (some (v0)) 0 rfl rfl (z_dec T_X1_init_ok 34 (61, .aload_n 0, 1) rfl) ?_
      refine zx_iconst (pc := 62) (v := 3) G (z_dec T_X1_init_ok 35 (62, .iconst 3, 1) rfl) rfl ?_
      obtain ⟨n14, hnn14, hqn14, h⟩ := h
      refine zx_newaE (pc := 63) (N := 3) G n14 0 rfl (by decide) wa_0 hnn14 hqn14 (by simp only [List.map_cons, List.map_nil, List.cons_append, List.nil_append, List.forall_mem_cons]; exact ⟨(z_nref (hx6 _ _ f_l0) hnn14), (fun h => by cases h), (z_nref (hx6 _ _ f_l0) hnn14), fun v hv => absurd hv List.not_mem_nil⟩) (by decide) (by decide) (by decide) (Nat.le_of_ble_eq_true rfl) (Nat.le_of_ble_eq_true rfl) (z_dec T_X1_init_ok 36 (63, .newarray .int, 2) rfl) (fun ρ18 kd15 q16 μ17 e22 e23 e24 hρ20 hx19 hk21 => ?_)
      replace h := h kd15 q16 μ17 e22 e23 e24
      have he25 := z_ext_tr he12 hρ20
      have hk26 := z_kext_tr hk13 hx19
      refine zx_putRF (pc := 65) G (some (n14)) gf_RX1_25 cf_1 rfl hin rfl rfl (hx19 _ _ (hx6 _ _ f_l0)) (z_dec T_X1_init_ok 37 (65, .putfield 25, 3) rfl) ?_
      refine zx_aload_n (pc := 68) G (some (v0)) 0 rfl rfl (z_dec T_X1_init_ok 38 (68, .aload_n 0, 1) rfl) ?_
      refine zx_bipush (pc := 69) (v := 24) G (z_dec T_X1_init_ok 39 (69, .bipush 24, 2) rfl) rfl ?_
      obtain ⟨n27, hnn27, hqn27, h⟩ := h
      refine zx_newaE (pc := 71) (N := 24) G n27 0 rfl (by decide) wa_0 hnn27 hqn27 (by simp only [List.map_cons, List.map_nil, List.cons_append, List.nil_append, List.forall_mem_cons]; exact ⟨(z_nref (hx19 _ _ (hx6 _ _ f_l0)) hnn27), (fun h => by cases h), (z_nref (hx19 _ _ (hx6 _ _ f_l0)) hnn27), fun v hv => absurd hv List.not_mem_nil⟩) (by decide) (by decide) (by decide) (Nat.le_of_ble_eq_true rfl) (Nat.le_of_ble_eq_true rfl) (z_dec T_X1_init_ok 40 (71, .newarray .int, 2) rfl) (fun ρ31 kd28 q29 μ30 e35 e36 e37 hρ33 hx32 hk34 => ?_)
      replace h := h kd28 q29 μ30 e35 e36 e37
      have he38 := z_ext_tr he25 hρ33
      have hk39 := z_kext_tr hk26 hx32
      refine zx_putRF (pc := 73) G (some (n27)) gf_RX1_28 cf_1 rfl hin rfl rfl (hx32 _ _ (hx19 _ _ (hx6 _ _ f_l0))) (z_dec T_X1_init_ok 41 (73, .putfield 28, 3) rfl) ?_
      refine zx_aload_n (pc := 76) G (some (v0)) 0 rfl rfl (z_dec T_X1_init_ok 42 (76, .aload_n 0, 1) rfl) ?_
      refine zx_bipush (pc := 77) (v := 24) G (z_dec T_X1_init_ok 43 (77, .bipush 24, 2) rfl) rfl ?_
      obtain ⟨n40, hnn40, hqn40, h⟩ := h
      refine zx_newaE (pc := 79) (N := 24) G n40 0 rfl (by decide) wa_0 hnn40 hqn40 (by simp only [List.map_cons, List.map_nil, List.cons_append, List.nil_append, List.forall_mem_cons]; exact ⟨(z_nref (hx32 _ _ (hx19 _ _ (hx6 _ _ f_l0))) hnn40), (fun h => by cases h), (z_nref (hx32 _ _ (hx19 _ _ (hx6 _ _ f_l0))) hnn40), fun v hv => absurd hv List.not_mem_nil⟩) (by decide) (by decide) (by decide) (Nat.le_of_ble_eq_true rfl) (Nat.le_of_ble_eq_true rfl) (z_dec T_X1_init_ok 44 (79, .newarray .int, 2) rfl) (fun ρ44 kd41 q42 μ43 e48 e49 e50 hρ46 hx45 hk47 => ?_)
      replace h := h kd41 q42 μ43 e48 e49 e50
      have he51 := z_ext_tr he38 hρ46
      have hk52 := z_kext_tr hk39 hx45
      refine zx_putRF (pc := 81) G (some (n40)) gf_RX1_31 cf_1 rfl hin rfl rfl (hx45 _ _ (hx32 _ _ (hx19 _ _ (hx6 _ _ f_l0)))) (z_dec T_X1_init_ok 45 (81, .putfield 31, 3) rfl) ?_
      refine zx_aload_n (pc := 84) G (some (v0)) 0 rfl rfl (z_dec T_X1_init_ok 46 (84, .aload_n 0, 1) rfl) ?_
      refine zx_sipush (pc := 85) (v := 160) G (z_dec T_X1_init_ok 47 (85, .sipush 160, 3) rfl) rfl ?_
      obtain ⟨n53, hnn53, hqn53, h⟩ := h
      refine zx_newaE (pc := 88) (N := 160) G n53 0 rfl (by decide) wa_0 hnn53 hqn53 (by simp only [List.map_cons, List.map_nil, List.cons_append, List.nil_append, List.forall_mem_cons]; exact ⟨(z_nref (hx45 _ _ (hx32 _ _ (hx19 _ _ (hx6 _ _ f_l0)))) hnn53), (fun h => by cases h), (z_nref (hx45 _ _ (hx32 _ _ (hx19 _ _ (hx6 _ _ f_l0)))) hnn53), fun v hv => absurd hv List.not_mem_nil⟩) (by decide) (by decide) (by decide) (Nat.le_of_ble_eq_true rfl) (Nat.le_of_ble_eq_true rfl) (z_dec T_X1_init_ok 48 (88, .newarray .int, 2) rfl) (fun ρ57 kd54 q55 μ56 e61 e62 e63 hρ59 hx58 hk60 => ?_)
      replace h := h kd54 q55 μ56 e61 e62 e63
      have he64 := z_ext_tr he51 hρ59
      have hk65 := z_kext_tr hk52 hx58
      refine zx_putRF (pc := 90) G (some (n53)) gf_RX1_34 cf_1 rfl hin rfl rfl (hx58 _ _ (hx45 _ _ (hx32 _ _ (hx19 _ _ (hx6 _ _ f_l0))))) (z_dec T_X1_init_ok 49 (90, .putfield 34, 3) rfl) ?_
      exact zx_vretG (pc := 93) G hr hlk (Nat.le_of_ble_eq_true rfl) (Nat.le_of_ble_eq_true rfl) he64 (z_dec T_X1_init_ok 50 (93, .return_, 1) rfl) ⟨rfl, hk65, h⟩
    · replace h := z_neg hc h
      refine zx_aload_n (pc := 33) G (some (v0)) 0 rfl rfl (z_dec T_X1_init_ok 18 (33, .aload_n 0, 1) rfl) ?_
      obtain ⟨b66, k67, hqb66, hkb66, h⟩ := h
      refine zx_getF (pc := 34) (b := b66) G gf_RX1_15 rfl f_l0 hqb66 (z_dec T_X1_init_ok 19 (34, .getfield 15, 3) rfl) ?_
      refine zx_iload_n (pc := 37) G 1 rfl rfl (z_dec T_X1_init_ok 20 (37, .iload_n 2, 1) rfl) ?_
      refine zx_iconst (pc := 38) (v := -1) G (z_dec T_X1_init_ok 21 (38, .iconst (-1), 1) rfl) rfl ?_
      obtain ⟨c68, h⟩ := h
      refine zx_iast (pc := 39) G hkb66 c68 (z_dec T_X1_init_ok 22 (39, .iastore, 1) rfl) ?_
      refine zx_aload_n (pc := 40) G (some (v0)) 0 rfl rfl (z_dec T_X1_init_ok 23 (40, .aload_n 0, 1) rfl) ?_
      obtain ⟨b69, k70, hqb69, hkb69, h⟩ := h
      refine zx_getF (pc := 41) (b := b69) G gf_RX1_19 rfl f_l0 hqb69 (z_dec T_X1_init_ok 24 (41, .getfield 19, 3) rfl) ?_
      refine zx_iload_n (pc := 44) G 1 rfl rfl (z_dec T_X1_init_ok 25 (44, .iload_n 2, 1) rfl) ?_
      refine zx_iconst (pc := 45) (v := -1) G (z_dec T_X1_init_ok 26 (45, .iconst (-1), 1) rfl) rfl ?_
      obtain ⟨c71, h⟩ := h
      refine zx_iast (pc := 46) G hkb69 c71 (z_dec T_X1_init_ok 27 (46, .iastore, 1) rfl) ?_
      refine zx_iinc (pc := 47) (v := v2 + 1) (lv' := [(2, .int (v2 + 1)), (0, .ref (v0))]) G 1 rfl (z_inc (by decide)) (Nat.le_of_ble_eq_true rfl) rfl (z_dec T_X1_init_ok 28 (47, .iinc 2 1, 3) rfl) ?_
      refine zx_goto (pc := 50) (tgt := 27) G rfl (z_dec T_X1_init_ok 29 (50, .goto (-23), 3) rfl) ?_
      refine zx_sub (lv' := [(0, .ref (v0)), (2, .int (v2 + 1))]) [1, 0] rfl ?_
      exact hP27 _ _ _ _ _ _ he hkx h f_l0
set_option maxRecDepth 100000 in
set_option maxHeartbeats 4000000 in
theorem L_X1_init_27_ok {p : Program} {l : Launch} {e : Env} {s : State} {m : MethodId} {args : Array Value} {below : List Frame} {meth : Method} {c : Code} {D : va_G} {A : Nat → Prop} {ρ0 ρ : z_A} {kd0 kd : z_K} {q : z_Q} {μ : z_M} {K : z_K → z_Q → z_M → Prop} {v0 : Nat} {v2 : Int32} (G : z_G p c cX1_init s m args RX1 3 D) (hr : meth.sig.returnType = (Option.none : Option Jvm.ClassFile.FieldType)) (hlk : meth.locks = false) (hin : meth.name = "<init>") (he : z_ext ρ0 ρ) (hkx : z_kext kd0 kd) (f_l0 : kd v0 = some (.inl 1)) (h : L_X1_init_27 K v0 v2 kd q μ) : z_X p l e rm_X1_init s m args below meth c 3 D A (MQ below (z_Qg D A ρ0 (z_KvG kd0 K)) args s 7 283 A) 2 48 ρ kd q μ 27 [(0, .ref (v0)), (2, .int (v2))] [] :=
  h (fun (v0 : Nat) (v2 : Int32) (kd : z_K) (q : z_Q) (μ : z_M) => ∀ ρ : z_A, z_ext ρ0 ρ → z_kext kd0 kd → (kd v0 = some (.inl 1)) → z_X p l e rm_X1_init s m args below meth c 3 D A (MQ below (z_Qg D A ρ0 (z_KvG kd0 K)) args s 7 283 A) 2 48 ρ kd q μ 27 [(0, .ref (v0)), (2, .int (v2))] []) (fun v0 v2 kd q μ h ρ he hkx f_l0 => B_X1_init_27_ok G hr hlk hin (fun ρ _ _ _ _ _ he hkx h => h ρ he hkx) he hkx f_l0 h) ρ he hkx f_l0
set_option maxRecDepth 100000 in
set_option maxHeartbeats 4000000 in
theorem met_X1_init (l : Launch) (D : va_G) (ρ : z_A) (kd : z_K) (q : z_Q) (μ : z_M) (sz : Nat) (o : Nat) (a1 : Int32) (K : z_K → z_Q → z_M → Prop) (h_o : kd o = some (.inl 1)) (h : C_X1_init kd q o a1 μ K) : Met l yX1_init (z_ws yX1_init cX1_init 3 (Option.none : Option Jvm.ClassFile.FieldType)) rm_X1_init (z_Pc D ρ kd q μ sz [.ref (o), .int (a1)]) (z_Qg D (z_Rg ρ sz) ρ (z_KvG kd K)) rm_X1_init.cells rm_X1_init.slots (z_Rg ρ sz) := by
  refine z_metG (rm := rm_X1_init) (by decide) (Nat.le_of_ble_eq_true rfl) (fun p e s m args below meth c G hr hlk hin => ?_)
  have hin : meth.name = "<init>" := hin
  have he : z_ext ρ ρ := fun _ _ h => h
  have hkx : z_kext kd kd := fun _ _ h => h
  unfold C_X1_init at h
  show z_X _ _ _ _ _ _ _ _ _ _ _ _ _ _ _ _ _ _ _ _ _ [(0, .ref (o)), (1, .int (a1))] _
  refine zx_aload_n (pc := 0) G (some (o)) 0 rfl rfl (z_dec T_X1_init_ok 0 (0, .aload_n 0, 1) rfl) ?_
  refine zx_objInit (pc := 1) G wo_RX1_3 h_o ⟨Nat.le_of_ble_eq_true rfl, Nat.le_of_ble_eq_true rfl⟩ (z_dec T_X1_init_ok 1 (1, .invokespecial 3, 3) rfl) ?_
  refine zx_aload_n (pc := 4) G (some (o)) 0 rfl rfl (z_dec T_X1_init_ok 2 (4, .aload_n 0, 1) rfl) ?_
  refine zx_iload_n (pc := 5) G 1 rfl rfl (z_dec T_X1_init_ok 3 (5, .iload_n 1, 1) rfl) ?_
  refine zx_putI (pc := 6) G gf_RX1_9 cf_1 rfl rfl h_o (z_dec T_X1_init_ok 4 (6, .putfield 9, 3) rfl) ?_
  refine zx_aload_n (pc := 9) G (some (o)) 0 rfl rfl (z_dec T_X1_init_ok 5 (9, .aload_n 0, 1) rfl) ?_
  refine zx_bipush (pc := 10) (v := 24) G (z_dec T_X1_init_ok 6 (10, .bipush 24, 2) rfl) rfl ?_
  obtain ⟨n1, hnn1, hqn1, h⟩ := h
  refine zx_newaE (pc := 12) (N := 24) G n1 0 rfl (by decide) wa_0 hnn1 hqn1 (by simp only [List.map_cons, List.map_nil, List.cons_append, List.nil_append, List.forall_mem_cons]; exact ⟨(z_nref h_o hnn1), (fun h => by cases h), (z_nref h_o hnn1), fun v hv => absurd hv List.not_mem_nil⟩) (by decide) (by decide) (by decide) (Nat.le_of_ble_eq_true rfl) (Nat.le_of_ble_eq_true rfl) (z_dec T_X1_init_ok 7 (12, .newarray .int, 2) rfl) (fun ρ5 kd2 q3 μ4 e9 e10 e11 hρ7 hx6 hk8 => ?_)
  replace h := h kd2 q3 μ4 e9 e10 e11
  have he12 := z_ext_tr he hρ7
  have hk13 := z_kext_tr hkx hx6
  refine zx_putRF (pc := 14) G (some (n1)) gf_RX1_15 cf_1 rfl hin rfl rfl (hx6 _ _ h_o) (z_dec T_X1_init_ok 8 (14, .putfield 15, 3) rfl) ?_
  refine zx_aload_n (pc := 17) G (some (o)) 0 rfl rfl (z_dec T_X1_init_ok 9 (17, .aload_n 0, 1) rfl) ?_
  refine zx_bipush (pc := 18) (v := 24) G (z_dec T_X1_init_ok 10 (18, .bipush 24, 2) rfl) rfl ?_
  obtain ⟨n14, hnn14, hqn14, h⟩ := h
  refine zx_newaE (pc := 20) (N := 24) G n14 0 rfl (by decide) wa_0 hnn14 hqn14 (by simp only [List.map_cons, List.map_nil, List.cons_append, List.nil_append, List.forall_mem_cons]; exact ⟨(z_nref (hx6 _ _ h_o) hnn14), (fun h => by cases h), (z_nref (hx6 _ _ h_o) hnn14), fun v hv => absurd hv List.not_mem_nil⟩) (by decide) (by decide) (by decide) (Nat.le_of_ble_eq_true rfl) (Nat.le_of_ble_eq_true rfl) (z_dec T_X1_init_ok 11 (20, .newarray .int, 2) rfl) (fun ρ18 kd15 q16 μ17 e22 e23 e24 hρ20 hx19 hk21 => ?_)
  replace h := h kd15 q16 μ17 e22 e23 e24
  have he25 := z_ext_tr he12 hρ20
  have hk26 := z_kext_tr hk13 hx19
  refine zx_putRF (pc := 22) G (some (n14)) gf_RX1_19 cf_1 rfl hin rfl rfl (hx19 _ _ (hx6 _ _ h_o)) (z_dec T_X1_init_ok 12 (22, .putfield 19, 3) rfl) ?_
  refine zx_iconst (pc := 25) (v := 0) G (z_dec T_X1_init_ok 13 (25, .iconst 0, 1) rfl) rfl ?_
  refine zx_istore_n (pc := 26) (lv' := [(2, .int ((0 : Int32))), (0, .ref (o)), (1, .int (a1))]) G rfl (Nat.le_of_ble_eq_true rfl) rfl (z_dec T_X1_init_ok 14 (26, .istore_n 2, 1) rfl) ?_
  refine zx_sub (lv' := [(0, .ref (o)), (2, .int ((0 : Int32)))]) [1, 0] rfl ?_
  exact L_X1_init_27_ok G hr hlk hin he25 hk26 (hx19 _ _ (hx6 _ _ h_o)) h
abbrev rm_X2_init : Room := { frames := 1, cells := 4, slots := 32, locals := 20 }
set_option maxRecDepth 100000 in
set_option maxHeartbeats 4000000 in
theorem met_X2_init (l : Launch) (D : va_G) (ρ : z_A) (kd : z_K) (q : z_Q) (μ : z_M) (sz : Nat) (o : Nat) (K : z_K → z_Q → z_M → Prop) (h_o : kd o = some (.inl 2)) (h : C_X2_init kd q o μ K) : Met l yX2_init (z_ws yX2_init cX2_init 1 (Option.none : Option Jvm.ClassFile.FieldType)) rm_X2_init (z_Pc D ρ kd q μ sz [.ref (o)]) (z_Qg D (z_Rg ρ sz) ρ (z_KvG kd K)) rm_X2_init.cells rm_X2_init.slots (z_Rg ρ sz) := by
  refine z_metG (rm := rm_X2_init) (by decide) (Nat.le_of_ble_eq_true rfl) (fun p e s m args below meth c G hr hlk hin => ?_)
  have hin : meth.name = "<init>" := hin
  have he : z_ext ρ ρ := fun _ _ h => h
  have hkx : z_kext kd kd := fun _ _ h => h
  unfold C_X2_init at h
  show z_X _ _ _ _ _ _ _ _ _ _ _ _ _ _ _ _ _ _ _ _ _ [(0, .ref (o))] _
  refine zx_aload_n (pc := 0) G (some (o)) 0 rfl rfl (z_dec T_X2_init_ok 0 (0, .aload_n 0, 1) rfl) ?_
  refine zx_objInit (pc := 1) G wo_RX2_3 h_o ⟨Nat.le_of_ble_eq_true rfl, Nat.le_of_ble_eq_true rfl⟩ (z_dec T_X2_init_ok 1 (1, .invokespecial 3, 3) rfl) ?_
  refine zx_aload_n (pc := 4) G (some (o)) 0 rfl rfl (z_dec T_X2_init_ok 2 (4, .aload_n 0, 1) rfl) ?_
  refine zx_bipush (pc := 5) (v := 8) G (z_dec T_X2_init_ok 3 (5, .bipush 8, 2) rfl) rfl ?_
  obtain ⟨n1, hnn1, hqn1, h⟩ := h
  refine zx_newaE (pc := 7) (N := 8) G n1 0 rfl (by decide) wa_0 hnn1 hqn1 (by simp only [List.map_cons, List.map_nil, List.cons_append, List.nil_append, List.forall_mem_cons]; exact ⟨(z_nref h_o hnn1), (z_nref h_o hnn1), fun v hv => absurd hv List.not_mem_nil⟩) (by decide) (by decide) (by decide) (Nat.le_of_ble_eq_true rfl) (Nat.le_of_ble_eq_true rfl) (z_dec T_X2_init_ok 4 (7, .newarray .int, 2) rfl) (fun ρ5 kd2 q3 μ4 e9 e10 e11 hρ7 hx6 hk8 => ?_)
  replace h := h kd2 q3 μ4 e9 e10 e11
  have he12 := z_ext_tr he hρ7
  have hk13 := z_kext_tr hkx hx6
  refine zx_putRF (pc := 9) G (some (n1)) gf_RX2_9 cf_2 rfl hin rfl rfl (hx6 _ _ h_o) (z_dec T_X2_init_ok 5 (9, .putfield 9, 3) rfl) ?_
  refine zx_aload_n (pc := 12) G (some (o)) 0 rfl rfl (z_dec T_X2_init_ok 6 (12, .aload_n 0, 1) rfl) ?_
  refine zx_bipush (pc := 13) (v := 8) G (z_dec T_X2_init_ok 7 (13, .bipush 8, 2) rfl) rfl ?_
  obtain ⟨n14, hnn14, hqn14, h⟩ := h
  refine zx_newaE (pc := 15) (N := 8) G n14 0 rfl (by decide) wa_0 hnn14 hqn14 (by simp only [List.map_cons, List.map_nil, List.cons_append, List.nil_append, List.forall_mem_cons]; exact ⟨(z_nref (hx6 _ _ h_o) hnn14), (z_nref (hx6 _ _ h_o) hnn14), fun v hv => absurd hv List.not_mem_nil⟩) (by decide) (by decide) (by decide) (Nat.le_of_ble_eq_true rfl) (Nat.le_of_ble_eq_true rfl) (z_dec T_X2_init_ok 8 (15, .newarray .int, 2) rfl) (fun ρ18 kd15 q16 μ17 e22 e23 e24 hρ20 hx19 hk21 => ?_)
  replace h := h kd15 q16 μ17 e22 e23 e24
  have he25 := z_ext_tr he12 hρ20
  have hk26 := z_kext_tr hk13 hx19
  refine zx_putRF (pc := 17) G (some (n14)) gf_RX2_15 cf_2 rfl hin rfl rfl (hx19 _ _ (hx6 _ _ h_o)) (z_dec T_X2_init_ok 9 (17, .putfield 15, 3) rfl) ?_
  refine zx_aload_n (pc := 20) G (some (o)) 0 rfl rfl (z_dec T_X2_init_ok 10 (20, .aload_n 0, 1) rfl) ?_
  refine zx_bipush (pc := 21) (v := 8) G (z_dec T_X2_init_ok 11 (21, .bipush 8, 2) rfl) rfl ?_
  obtain ⟨n27, hnn27, hqn27, h⟩ := h
  refine zx_newaE (pc := 23) (N := 8) G n27 0 rfl (by decide) wa_0 hnn27 hqn27 (by simp only [List.map_cons, List.map_nil, List.cons_append, List.nil_append, List.forall_mem_cons]; exact ⟨(z_nref (hx19 _ _ (hx6 _ _ h_o)) hnn27), (z_nref (hx19 _ _ (hx6 _ _ h_o)) hnn27), fun v hv => absurd hv List.not_mem_nil⟩) (by decide) (by decide) (by decide) (Nat.le_of_ble_eq_true rfl) (Nat.le_of_ble_eq_true rfl) (z_dec T_X2_init_ok 12 (23, .newarray .int, 2) rfl) (fun ρ31 kd28 q29 μ30 e35 e36 e37 hρ33 hx32 hk34 => ?_)
  replace h := h kd28 q29 μ30 e35 e36 e37
  have he38 := z_ext_tr he25 hρ33
  have hk39 := z_kext_tr hk26 hx32
  refine zx_putRF (pc := 25) G (some (n27)) gf_RX2_18 cf_2 rfl hin rfl rfl (hx32 _ _ (hx19 _ _ (hx6 _ _ h_o))) (z_dec T_X2_init_ok 13 (25, .putfield 18, 3) rfl) ?_
  refine zx_aload_n (pc := 28) G (some (o)) 0 rfl rfl (z_dec T_X2_init_ok 14 (28, .aload_n 0, 1) rfl) ?_
  refine zx_bipush (pc := 29) (v := 8) G (z_dec T_X2_init_ok 15 (29, .bipush 8, 2) rfl) rfl ?_
  obtain ⟨n40, hnn40, hqn40, h⟩ := h
  refine zx_newaE (pc := 31) (N := 8) G n40 0 rfl (by decide) wa_0 hnn40 hqn40 (by simp only [List.map_cons, List.map_nil, List.cons_append, List.nil_append, List.forall_mem_cons]; exact ⟨(z_nref (hx32 _ _ (hx19 _ _ (hx6 _ _ h_o))) hnn40), (z_nref (hx32 _ _ (hx19 _ _ (hx6 _ _ h_o))) hnn40), fun v hv => absurd hv List.not_mem_nil⟩) (by decide) (by decide) (by decide) (Nat.le_of_ble_eq_true rfl) (Nat.le_of_ble_eq_true rfl) (z_dec T_X2_init_ok 16 (31, .newarray .int, 2) rfl) (fun ρ44 kd41 q42 μ43 e48 e49 e50 hρ46 hx45 hk47 => ?_)
  replace h := h kd41 q42 μ43 e48 e49 e50
  have he51 := z_ext_tr he38 hρ46
  have hk52 := z_kext_tr hk39 hx45
  refine zx_putRF (pc := 33) G (some (n40)) gf_RX2_21 cf_2 rfl hin rfl rfl (hx45 _ _ (hx32 _ _ (hx19 _ _ (hx6 _ _ h_o)))) (z_dec T_X2_init_ok 17 (33, .putfield 21, 3) rfl) ?_
  exact zx_vretG (pc := 36) G hr hlk (Nat.le_of_ble_eq_true rfl) (Nat.le_of_ble_eq_true rfl) he51 (z_dec T_X2_init_ok 18 (36, .return_, 1) rfl) ⟨rfl, hk52, h⟩
abbrev rm_X3_init : Room := { frames := 1, cells := 2, slots := 48, locals := 20 }
set_option maxRecDepth 100000 in
set_option maxHeartbeats 4000000 in
theorem met_X3_init (l : Launch) (D : va_G) (ρ : z_A) (kd : z_K) (q : z_Q) (μ : z_M) (sz : Nat) (o : Nat) (K : z_K → z_Q → z_M → Prop) (h_o : kd o = some (.inl 3)) (h : C_X3_init kd q o μ K) : Met l yX3_init (z_ws yX3_init cX3_init 1 (Option.none : Option Jvm.ClassFile.FieldType)) rm_X3_init (z_Pc D ρ kd q μ sz [.ref (o)]) (z_Qg D (z_Rg ρ sz) ρ (z_KvG kd K)) rm_X3_init.cells rm_X3_init.slots (z_Rg ρ sz) := by
  refine z_metG (rm := rm_X3_init) (by decide) (Nat.le_of_ble_eq_true rfl) (fun p e s m args below meth c G hr hlk hin => ?_)
  have hin : meth.name = "<init>" := hin
  have he : z_ext ρ ρ := fun _ _ h => h
  have hkx : z_kext kd kd := fun _ _ h => h
  unfold C_X3_init at h
  show z_X _ _ _ _ _ _ _ _ _ _ _ _ _ _ _ _ _ _ _ _ _ [(0, .ref (o))] _
  refine zx_aload_n (pc := 0) G (some (o)) 0 rfl rfl (z_dec T_X3_init_ok 0 (0, .aload_n 0, 1) rfl) ?_
  refine zx_objInit (pc := 1) G wo_RX3_3 h_o ⟨Nat.le_of_ble_eq_true rfl, Nat.le_of_ble_eq_true rfl⟩ (z_dec T_X3_init_ok 1 (1, .invokespecial 3, 3) rfl) ?_
  refine zx_aload_n (pc := 4) G (some (o)) 0 rfl rfl (z_dec T_X3_init_ok 2 (4, .aload_n 0, 1) rfl) ?_
  refine zx_bipush (pc := 5) (v := 24) G (z_dec T_X3_init_ok 3 (5, .bipush 24, 2) rfl) rfl ?_
  obtain ⟨n1, hnn1, hqn1, h⟩ := h
  refine zx_newaE (pc := 7) (N := 24) G n1 0 rfl (by decide) wa_0 hnn1 hqn1 (by simp only [List.map_cons, List.map_nil, List.cons_append, List.nil_append, List.forall_mem_cons]; exact ⟨(z_nref h_o hnn1), (z_nref h_o hnn1), fun v hv => absurd hv List.not_mem_nil⟩) (by decide) (by decide) (by decide) (Nat.le_of_ble_eq_true rfl) (Nat.le_of_ble_eq_true rfl) (z_dec T_X3_init_ok 4 (7, .newarray .int, 2) rfl) (fun ρ5 kd2 q3 μ4 e9 e10 e11 hρ7 hx6 hk8 => ?_)
  replace h := h kd2 q3 μ4 e9 e10 e11
  have he12 := z_ext_tr he hρ7
  have hk13 := z_kext_tr hkx hx6
  refine zx_putRF (pc := 9) G (some (n1)) gf_RX3_9 cf_3 rfl hin rfl rfl (hx6 _ _ h_o) (z_dec T_X3_init_ok 5 (9, .putfield 9, 3) rfl) ?_
  refine zx_aload_n (pc := 12) G (some (o)) 0 rfl rfl (z_dec T_X3_init_ok 6 (12, .aload_n 0, 1) rfl) ?_
  refine zx_bipush (pc := 13) (v := 24) G (z_dec T_X3_init_ok 7 (13, .bipush 24, 2) rfl) rfl ?_
  obtain ⟨n14, hnn14, hqn14, h⟩ := h
  refine zx_newaE (pc := 15) (N := 24) G n14 0 rfl (by decide) wa_0 hnn14 hqn14 (by simp only [List.map_cons, List.map_nil, List.cons_append, List.nil_append, List.forall_mem_cons]; exact ⟨(z_nref (hx6 _ _ h_o) hnn14), (z_nref (hx6 _ _ h_o) hnn14), fun v hv => absurd hv List.not_mem_nil⟩) (by decide) (by decide) (by decide) (Nat.le_of_ble_eq_true rfl) (Nat.le_of_ble_eq_true rfl) (z_dec T_X3_init_ok 8 (15, .newarray .int, 2) rfl) (fun ρ18 kd15 q16 μ17 e22 e23 e24 hρ20 hx19 hk21 => ?_)
  replace h := h kd15 q16 μ17 e22 e23 e24
  have he25 := z_ext_tr he12 hρ20
  have hk26 := z_kext_tr hk13 hx19
  refine zx_putRF (pc := 17) G (some (n14)) gf_RX3_15 cf_3 rfl hin rfl rfl (hx19 _ _ (hx6 _ _ h_o)) (z_dec T_X3_init_ok 9 (17, .putfield 15, 3) rfl) ?_
  exact zx_vretG (pc := 20) G hr hlk (Nat.le_of_ble_eq_true rfl) (Nat.le_of_ble_eq_true rfl) he25 (z_dec T_X3_init_ok 10 (20, .return_, 1) rfl) ⟨rfl, hk26, h⟩
abbrev rm_X4_init : Room := { frames := 1, cells := 1, slots := 8, locals := 20 }
set_option maxRecDepth 100000 in
set_option maxHeartbeats 4000000 in
theorem met_X4_init (l : Launch) (D : va_G) (ρ : z_A) (kd : z_K) (q : z_Q) (μ : z_M) (sz : Nat) (o : Nat) (K : z_K → z_Q → z_M → Prop) (h_o : kd o = some (.inl 4)) (h : C_X4_init kd q o μ K) : Met l yX4_init (z_ws yX4_init cX4_init 1 (Option.none : Option Jvm.ClassFile.FieldType)) rm_X4_init (z_Pc D ρ kd q μ sz [.ref (o)]) (z_Qg D (z_Rg ρ sz) ρ (z_KvG kd K)) rm_X4_init.cells rm_X4_init.slots (z_Rg ρ sz) := by
  refine z_metG (rm := rm_X4_init) (by decide) (Nat.le_of_ble_eq_true rfl) (fun p e s m args below meth c G hr hlk hin => ?_)
  have hin : meth.name = "<init>" := hin
  have he : z_ext ρ ρ := fun _ _ h => h
  have hkx : z_kext kd kd := fun _ _ h => h
  unfold C_X4_init at h
  show z_X _ _ _ _ _ _ _ _ _ _ _ _ _ _ _ _ _ _ _ _ _ [(0, .ref (o))] _
  refine zx_aload_n (pc := 0) G (some (o)) 0 rfl rfl (z_dec T_X4_init_ok 0 (0, .aload_n 0, 1) rfl) ?_
  refine zx_objInit (pc := 1) G wo_RX4_3 h_o ⟨Nat.le_of_ble_eq_true rfl, Nat.le_of_ble_eq_true rfl⟩ (z_dec T_X4_init_ok 1 (1, .invokespecial 3, 3) rfl) ?_
  refine zx_aload_n (pc := 4) G (some (o)) 0 rfl rfl (z_dec T_X4_init_ok 2 (4, .aload_n 0, 1) rfl) ?_
  refine zx_bipush (pc := 5) (v := 8) G (z_dec T_X4_init_ok 3 (5, .bipush 8, 2) rfl) rfl ?_
  obtain ⟨n1, hnn1, hqn1, h⟩ := h
  refine zx_newaE (pc := 7) (N := 8) G n1 0 rfl (by decide) wa_0 hnn1 hqn1 (by simp only [List.map_cons, List.map_nil, List.cons_append, List.nil_append, List.forall_mem_cons]; exact ⟨(z_nref h_o hnn1), (z_nref h_o hnn1), fun v hv => absurd hv List.not_mem_nil⟩) (by decide) (by decide) (by decide) (Nat.le_of_ble_eq_true rfl) (Nat.le_of_ble_eq_true rfl) (z_dec T_X4_init_ok 4 (7, .newarray .int, 2) rfl) (fun ρ5 kd2 q3 μ4 e9 e10 e11 hρ7 hx6 hk8 => ?_)
  replace h := h kd2 q3 μ4 e9 e10 e11
  have he12 := z_ext_tr he hρ7
  have hk13 := z_kext_tr hkx hx6
  refine zx_putRF (pc := 9) G (some (n1)) gf_RX4_9 cf_4 rfl hin rfl rfl (hx6 _ _ h_o) (z_dec T_X4_init_ok 5 (9, .putfield 9, 3) rfl) ?_
  exact zx_vretG (pc := 12) G hr hlk (Nat.le_of_ble_eq_true rfl) (Nat.le_of_ble_eq_true rfl) he12 (z_dec T_X4_init_ok 6 (12, .return_, 1) rfl) ⟨rfl, hk13, h⟩
abbrev rm_X5_init : Room := { frames := 1, cells := 2, slots := 28, locals := 20 }
set_option maxRecDepth 100000 in
set_option maxHeartbeats 4000000 in
theorem met_X5_init (l : Launch) (D : va_G) (ρ : z_A) (kd : z_K) (q : z_Q) (μ : z_M) (sz : Nat) (o : Nat) (K : z_K → z_Q → z_M → Prop) (h_o : kd o = some (.inl 5)) (h : C_X5_init kd q o μ K) : Met l yX5_init (z_ws yX5_init cX5_init 1 (Option.none : Option Jvm.ClassFile.FieldType)) rm_X5_init (z_Pc D ρ kd q μ sz [.ref (o)]) (z_Qg D (z_Rg ρ sz) ρ (z_KvG kd K)) rm_X5_init.cells rm_X5_init.slots (z_Rg ρ sz) := by
  refine z_metG (rm := rm_X5_init) (by decide) (Nat.le_of_ble_eq_true rfl) (fun p e s m args below meth c G hr hlk hin => ?_)
  have hin : meth.name = "<init>" := hin
  have he : z_ext ρ ρ := fun _ _ h => h
  have hkx : z_kext kd kd := fun _ _ h => h
  unfold C_X5_init at h
  show z_X _ _ _ _ _ _ _ _ _ _ _ _ _ _ _ _ _ _ _ _ _ [(0, .ref (o))] _
  refine zx_aload_n (pc := 0) G (some (o)) 0 rfl rfl (z_dec T_X5_init_ok 0 (0, .aload_n 0, 1) rfl) ?_
  refine zx_objInit (pc := 1) G wo_RX5_3 h_o ⟨Nat.le_of_ble_eq_true rfl, Nat.le_of_ble_eq_true rfl⟩ (z_dec T_X5_init_ok 1 (1, .invokespecial 3, 3) rfl) ?_
  refine zx_aload_n (pc := 4) G (some (o)) 0 rfl rfl (z_dec T_X5_init_ok 2 (4, .aload_n 0, 1) rfl) ?_
  refine zx_bipush (pc := 5) (v := 20) G (z_dec T_X5_init_ok 3 (5, .bipush 20, 2) rfl) rfl ?_
  obtain ⟨n1, hnn1, hqn1, h⟩ := h
  refine zx_newaE (pc := 7) (N := 20) G n1 0 rfl (by decide) wa_0 hnn1 hqn1 (by simp only [List.map_cons, List.map_nil, List.cons_append, List.nil_append, List.forall_mem_cons]; exact ⟨(z_nref h_o hnn1), (z_nref h_o hnn1), fun v hv => absurd hv List.not_mem_nil⟩) (by decide) (by decide) (by decide) (Nat.le_of_ble_eq_true rfl) (Nat.le_of_ble_eq_true rfl) (z_dec T_X5_init_ok 4 (7, .newarray .int, 2) rfl) (fun ρ5 kd2 q3 μ4 e9 e10 e11 hρ7 hx6 hk8 => ?_)
  replace h := h kd2 q3 μ4 e9 e10 e11
  have he12 := z_ext_tr he hρ7
  have hk13 := z_kext_tr hkx hx6
  refine zx_putRF (pc := 9) G (some (n1)) gf_RX5_9 cf_5 rfl hin rfl rfl (hx6 _ _ h_o) (z_dec T_X5_init_ok 5 (9, .putfield 9, 3) rfl) ?_
  refine zx_aload_n (pc := 12) G (some (o)) 0 rfl rfl (z_dec T_X5_init_ok 6 (12, .aload_n 0, 1) rfl) ?_
  refine zx_bipush (pc := 13) (v := 8) G (z_dec T_X5_init_ok 7 (13, .bipush 8, 2) rfl) rfl ?_
  obtain ⟨n14, hnn14, hqn14, h⟩ := h
  refine zx_newaE (pc := 15) (N := 8) G n14 0 rfl (by decide) wa_0 hnn14 hqn14 (by simp only [List.map_cons, List.map_nil, List.cons_append, List.nil_append, List.forall_mem_cons]; exact ⟨(z_nref (hx6 _ _ h_o) hnn14), (z_nref (hx6 _ _ h_o) hnn14), fun v hv => absurd hv List.not_mem_nil⟩) (by decide) (by decide) (by decide) (Nat.le_of_ble_eq_true rfl) (Nat.le_of_ble_eq_true rfl) (z_dec T_X5_init_ok 8 (15, .newarray .int, 2) rfl) (fun ρ18 kd15 q16 μ17 e22 e23 e24 hρ20 hx19 hk21 => ?_)
  replace h := h kd15 q16 μ17 e22 e23 e24
  have he25 := z_ext_tr he12 hρ20
  have hk26 := z_kext_tr hk13 hx19
  refine zx_putRF (pc := 17) G (some (n14)) gf_RX5_15 cf_5 rfl hin rfl rfl (hx19 _ _ (hx6 _ _ h_o)) (z_dec T_X5_init_ok 9 (17, .putfield 15, 3) rfl) ?_
  exact zx_vretG (pc := 20) G hr hlk (Nat.le_of_ble_eq_true rfl) (Nat.le_of_ble_eq_true rfl) he25 (z_dec T_X5_init_ok 10 (20, .return_, 1) rfl) ⟨rfl, hk26, h⟩
abbrev rm_X6_init : Room := { frames := 1, cells := 1, slots := 8, locals := 20 }
set_option maxRecDepth 100000 in
set_option maxHeartbeats 4000000 in
theorem met_X6_init (l : Launch) (D : va_G) (ρ : z_A) (kd : z_K) (q : z_Q) (μ : z_M) (sz : Nat) (o : Nat) (a1 : Int32) (K : z_K → z_Q → z_M → Prop) (h_o : kd o = some (.inl 6)) (h : C_X6_init kd q o a1 μ K) : Met l yX6_init (z_ws yX6_init cX6_init 2 (Option.none : Option Jvm.ClassFile.FieldType)) rm_X6_init (z_Pc D ρ kd q μ sz [.ref (o), .int (a1)]) (z_Qg D (z_Rg ρ sz) ρ (z_KvG kd K)) rm_X6_init.cells rm_X6_init.slots (z_Rg ρ sz) := by
  refine z_metG (rm := rm_X6_init) (by decide) (Nat.le_of_ble_eq_true rfl) (fun p e s m args below meth c G hr hlk hin => ?_)
  have hin : meth.name = "<init>" := hin
  have he : z_ext ρ ρ := fun _ _ h => h
  have hkx : z_kext kd kd := fun _ _ h => h
  unfold C_X6_init at h
  show z_X _ _ _ _ _ _ _ _ _ _ _ _ _ _ _ _ _ _ _ _ _ [(0, .ref (o)), (1, .int (a1))] _
  refine zx_aload_n (pc := 0) G (some (o)) 0 rfl rfl (z_dec T_X6_init_ok 0 (0, .aload_n 0, 1) rfl) ?_
  refine zx_objInit (pc := 1) G wo_RX6_3 h_o ⟨Nat.le_of_ble_eq_true rfl, Nat.le_of_ble_eq_true rfl⟩ (z_dec T_X6_init_ok 1 (1, .invokespecial 3, 3) rfl) ?_
  refine zx_aload_n (pc := 4) G (some (o)) 0 rfl rfl (z_dec T_X6_init_ok 2 (4, .aload_n 0, 1) rfl) ?_
  refine zx_iload_n (pc := 5) G 1 rfl rfl (z_dec T_X6_init_ok 3 (5, .iload_n 1, 1) rfl) ?_
  refine zx_putIF (pc := 6) G gf_RX6_9 cf_6 rfl hin rfl rfl h_o (z_dec T_X6_init_ok 4 (6, .putfield 9, 3) rfl) ?_
  refine zx_aload_n (pc := 9) G (some (o)) 0 rfl rfl (z_dec T_X6_init_ok 5 (9, .aload_n 0, 1) rfl) ?_
  refine zx_bipush (pc := 10) (v := 8) G (z_dec T_X6_init_ok 6 (10, .bipush 8, 2) rfl) rfl ?_
  obtain ⟨n1, hnn1, hqn1, h⟩ := h
  refine zx_newaE (pc := 12) (N := 8) G n1 0 rfl (by decide) wa_0 hnn1 hqn1 (by simp only [List.map_cons, List.map_nil, List.cons_append, List.nil_append, List.forall_mem_cons]; exact ⟨(z_nref h_o hnn1), (fun h => by cases h), (z_nref h_o hnn1), fun v hv => absurd hv List.not_mem_nil⟩) (by decide) (by decide) (by decide) (Nat.le_of_ble_eq_true rfl) (Nat.le_of_ble_eq_true rfl) (z_dec T_X6_init_ok 7 (12, .newarray .int, 2) rfl) (fun ρ5 kd2 q3 μ4 e9 e10 e11 hρ7 hx6 hk8 => ?_)
  replace h := h kd2 q3 μ4 e9 e10 e11
  have he12 := z_ext_tr he hρ7
  have hk13 := z_kext_tr hkx hx6
  refine zx_putRF (pc := 14) G (some (n1)) gf_RX6_15 cf_6 rfl hin rfl rfl (hx6 _ _ h_o) (z_dec T_X6_init_ok 8 (14, .putfield 15, 3) rfl) ?_
  refine zx_aload_n (pc := 17) G (some (o)) 0 rfl rfl (z_dec T_X6_init_ok 9 (17, .aload_n 0, 1) rfl) ?_
  refine zx_iconst (pc := 18) (v := -1) G (z_dec T_X6_init_ok 10 (18, .iconst (-1), 1) rfl) rfl ?_
  refine zx_putI (pc := 19) G gf_RX6_19 cf_6 rfl rfl (hx6 _ _ h_o) (z_dec T_X6_init_ok 11 (19, .putfield 19, 3) rfl) ?_
  refine zx_aload_n (pc := 22) G (some (o)) 0 rfl rfl (z_dec T_X6_init_ok 12 (22, .aload_n 0, 1) rfl) ?_
  refine zx_iconst (pc := 23) (v := -1) G (z_dec T_X6_init_ok 13 (23, .iconst (-1), 1) rfl) rfl ?_
  refine zx_putI (pc := 24) G gf_RX6_22 cf_6 rfl rfl (hx6 _ _ h_o) (z_dec T_X6_init_ok 14 (24, .putfield 22, 3) rfl) ?_
  exact zx_vretG (pc := 27) G hr hlk (Nat.le_of_ble_eq_true rfl) (Nat.le_of_ble_eq_true rfl) he12 (z_dec T_X6_init_ok 15 (27, .return_, 1) rfl) ⟨rfl, hk13, h⟩
abbrev rm_X7_init : Room := { frames := 1, cells := 0, slots := 0, locals := 20 }
set_option maxRecDepth 100000 in
set_option maxHeartbeats 4000000 in
theorem met_X7_init (l : Launch) (D : va_G) (ρ : z_A) (kd : z_K) (q : z_Q) (μ : z_M) (sz : Nat) (o : Nat) (a1 : Option Nat) (K : z_K → z_Q → z_M → Prop) (h_o : kd o = some (.inl 7)) (h_a1 : ∀ a, a1 = some a → kd a = some (.inl 8)) (h : C_X7_init kd q o a1 μ K) : Met l yX7_init (z_ws yX7_init cX7_init 2 (Option.none : Option Jvm.ClassFile.FieldType)) rm_X7_init (z_Pc D ρ kd q μ sz [.ref (o), va_rf (a1)]) (z_Qg D (z_Rg ρ sz) ρ (z_KvG kd K)) rm_X7_init.cells rm_X7_init.slots (z_Rg ρ sz) := by
  refine z_metG (rm := rm_X7_init) (by decide) (by cases a1 <;> exact Nat.le_of_ble_eq_true rfl) (fun p e s m args below meth c G hr hlk hin => ?_)
  have hin : meth.name = "<init>" := hin
  have he : z_ext ρ ρ := fun _ _ h => h
  have hkx : z_kext kd kd := fun _ _ h => h
  unfold C_X7_init at h
  rw [show lv_args 0 [.ref (o), va_rf (a1)] = [(0, .ref (o)), (1, va_rf (a1))] from by cases a1 <;> rfl]
  refine zx_aload_n (pc := 0) G (some (o)) 0 rfl rfl (z_dec T_X7_init_ok 0 (0, .aload_n 0, 1) rfl) ?_
  refine zx_objInit (pc := 1) G wo_RX7_3 h_o ⟨Nat.le_of_ble_eq_true rfl, Nat.le_of_ble_eq_true rfl⟩ (z_dec T_X7_init_ok 1 (1, .invokespecial 3, 3) rfl) ?_
  refine zx_aload_n (pc := 4) G (some (o)) 0 rfl rfl (z_dec T_X7_init_ok 2 (4, .aload_n 0, 1) rfl) ?_
  refine zx_aload_n (pc := 5) G (a1) 1 rfl rfl (z_dec T_X7_init_ok 3 (5, .aload_n 1, 1) rfl) ?_
  refine zx_putRF (pc := 6) G (a1) gf_RX7_9 cf_7 rfl hin rfl rfl h_o (z_dec T_X7_init_ok 4 (6, .putfield 9, 3) rfl) ?_
  exact zx_vretG (pc := 9) G hr hlk (Nat.le_of_ble_eq_true rfl) (Nat.le_of_ble_eq_true rfl) he (z_dec T_X7_init_ok 5 (9, .return_, 1) rfl) ⟨rfl, hkx, h⟩
abbrev rm_X8_init : Room := { frames := 1, cells := 0, slots := 0, locals := 20 }
set_option maxRecDepth 100000 in
set_option maxHeartbeats 4000000 in
theorem met_X8_init (l : Launch) (D : va_G) (ρ : z_A) (kd : z_K) (q : z_Q) (μ : z_M) (sz : Nat) (o : Nat) (a1 : Option Nat) (K : z_K → z_Q → z_M → Prop) (h_o : kd o = some (.inl 8)) (h_a1 : ∀ a, a1 = some a → kd a = some (.inl 3)) (h : C_X8_init kd q o a1 μ K) : Met l yX8_init (z_ws yX8_init cX8_init 2 (Option.none : Option Jvm.ClassFile.FieldType)) rm_X8_init (z_Pc D ρ kd q μ sz [.ref (o), va_rf (a1)]) (z_Qg D (z_Rg ρ sz) ρ (z_KvG kd K)) rm_X8_init.cells rm_X8_init.slots (z_Rg ρ sz) := by
  refine z_metG (rm := rm_X8_init) (by decide) (by cases a1 <;> exact Nat.le_of_ble_eq_true rfl) (fun p e s m args below meth c G hr hlk hin => ?_)
  have hin : meth.name = "<init>" := hin
  have he : z_ext ρ ρ := fun _ _ h => h
  have hkx : z_kext kd kd := fun _ _ h => h
  unfold C_X8_init at h
  rw [show lv_args 0 [.ref (o), va_rf (a1)] = [(0, .ref (o)), (1, va_rf (a1))] from by cases a1 <;> rfl]
  refine zx_aload_n (pc := 0) G (some (o)) 0 rfl rfl (z_dec T_X8_init_ok 0 (0, .aload_n 0, 1) rfl) ?_
  refine zx_objInit (pc := 1) G wo_RX8_3 h_o ⟨Nat.le_of_ble_eq_true rfl, Nat.le_of_ble_eq_true rfl⟩ (z_dec T_X8_init_ok 1 (1, .invokespecial 3, 3) rfl) ?_
  refine zx_aload_n (pc := 4) G (some (o)) 0 rfl rfl (z_dec T_X8_init_ok 2 (4, .aload_n 0, 1) rfl) ?_
  refine zx_aload_n (pc := 5) G (a1) 1 rfl rfl (z_dec T_X8_init_ok 3 (5, .aload_n 1, 1) rfl) ?_
  refine zx_putRF (pc := 6) G (a1) gf_RX8_9 cf_8 rfl hin rfl rfl h_o (z_dec T_X8_init_ok 4 (6, .putfield 9, 3) rfl) ?_
  exact zx_vretG (pc := 9) G hr hlk (Nat.le_of_ble_eq_true rfl) (Nat.le_of_ble_eq_true rfl) he (z_dec T_X8_init_ok 5 (9, .return_, 1) rfl) ⟨rfl, hkx, h⟩
abbrev rm_X9_init : Room := { frames := 1, cells := 0, slots := 0, locals := 20 }
set_option maxRecDepth 100000 in
set_option maxHeartbeats 4000000 in
theorem met_X9_init (l : Launch) (D : va_G) (ρ : z_A) (kd : z_K) (q : z_Q) (μ : z_M) (sz : Nat) (o : Nat) (K : z_K → z_Q → z_M → Prop) (h_o : kd o = some (.inl 9)) (h : C_X9_init kd q o μ K) : Met l yX9_init (z_ws yX9_init cX9_init 1 (Option.none : Option Jvm.ClassFile.FieldType)) rm_X9_init (z_Pc D ρ kd q μ sz [.ref (o)]) (z_Qg D (z_Rg ρ sz) ρ (z_KvG kd K)) rm_X9_init.cells rm_X9_init.slots (z_Rg ρ sz) := by
  refine z_metG (rm := rm_X9_init) (by decide) (Nat.le_of_ble_eq_true rfl) (fun p e s m args below meth c G hr hlk hin => ?_)
  have hin : meth.name = "<init>" := hin
  have he : z_ext ρ ρ := fun _ _ h => h
  have hkx : z_kext kd kd := fun _ _ h => h
  unfold C_X9_init at h
  show z_X _ _ _ _ _ _ _ _ _ _ _ _ _ _ _ _ _ _ _ _ _ [(0, .ref (o))] _
  refine zx_aload_n (pc := 0) G (some (o)) 0 rfl rfl (z_dec T_X9_init_ok 0 (0, .aload_n 0, 1) rfl) ?_
  refine zx_objInit (pc := 1) G wo_RX9_1 h_o ⟨Nat.le_of_ble_eq_true rfl, Nat.le_of_ble_eq_true rfl⟩ (z_dec T_X9_init_ok 1 (1, .invokespecial 1, 3) rfl) ?_
  exact zx_vretG (pc := 4) G hr hlk (Nat.le_of_ble_eq_true rfl) (Nat.le_of_ble_eq_true rfl) he (z_dec T_X9_init_ok 2 (4, .return_, 1) rfl) ⟨rfl, hkx, h⟩
abbrev rm_X10_init : Room := { frames := 1, cells := 1, slots := 200, locals := 20 }
set_option maxRecDepth 100000 in
set_option maxHeartbeats 4000000 in
theorem met_X10_init (l : Launch) (D : va_G) (ρ : z_A) (kd : z_K) (q : z_Q) (μ : z_M) (sz : Nat) (o : Nat) (K : z_K → z_Q → z_M → Prop) (h_o : kd o = some (.inl 10)) (h : C_X10_init kd q o μ K) : Met l yX10_init (z_ws yX10_init cX10_init 1 (Option.none : Option Jvm.ClassFile.FieldType)) rm_X10_init (z_Pc D ρ kd q μ sz [.ref (o)]) (z_Qg D (z_Rg ρ sz) ρ (z_KvG kd K)) rm_X10_init.cells rm_X10_init.slots (z_Rg ρ sz) := by
  refine z_metG (rm := rm_X10_init) (by decide) (Nat.le_of_ble_eq_true rfl) (fun p e s m args below meth c G hr hlk hin => ?_)
  have hin : meth.name = "<init>" := hin
  have he : z_ext ρ ρ := fun _ _ h => h
  have hkx : z_kext kd kd := fun _ _ h => h
  unfold C_X10_init at h
  show z_X _ _ _ _ _ _ _ _ _ _ _ _ _ _ _ _ _ _ _ _ _ [(0, .ref (o))] _
  refine zx_aload_n (pc := 0) G (some (o)) 0 rfl rfl (z_dec T_X10_init_ok 0 (0, .aload_n 0, 1) rfl) ?_
  refine zx_objInit (pc := 1) G wo_RX10_3 h_o ⟨Nat.le_of_ble_eq_true rfl, Nat.le_of_ble_eq_true rfl⟩ (z_dec T_X10_init_ok 1 (1, .invokespecial 3, 3) rfl) ?_
  refine zx_aload_n (pc := 4) G (some (o)) 0 rfl rfl (z_dec T_X10_init_ok 2 (4, .aload_n 0, 1) rfl) ?_
  refine zx_sipush (pc := 5) (v := 200) G (z_dec T_X10_init_ok 3 (5, .sipush 200, 3) rfl) rfl ?_
  obtain ⟨n1, hnn1, hqn1, h⟩ := h
  refine zx_newaE (pc := 8) (N := 200) G n1 0 rfl (by decide) wa_0 hnn1 hqn1 (by simp only [List.map_cons, List.map_nil, List.cons_append, List.nil_append, List.forall_mem_cons]; exact ⟨(z_nref h_o hnn1), (z_nref h_o hnn1), fun v hv => absurd hv List.not_mem_nil⟩) (by decide) (by decide) (by decide) (Nat.le_of_ble_eq_true rfl) (Nat.le_of_ble_eq_true rfl) (z_dec T_X10_init_ok 4 (8, .newarray .int, 2) rfl) (fun ρ5 kd2 q3 μ4 e9 e10 e11 hρ7 hx6 hk8 => ?_)
  replace h := h kd2 q3 μ4 e9 e10 e11
  have he12 := z_ext_tr he hρ7
  have hk13 := z_kext_tr hkx hx6
  refine zx_putRF (pc := 10) G (some (n1)) gf_RX10_9 cf_10 rfl hin rfl rfl (hx6 _ _ h_o) (z_dec T_X10_init_ok 5 (10, .putfield 9, 3) rfl) ?_
  exact zx_vretG (pc := 13) G hr hlk (Nat.le_of_ble_eq_true rfl) (Nat.le_of_ble_eq_true rfl) he12 (z_dec T_X10_init_ok 6 (13, .return_, 1) rfl) ⟨rfl, hk13, h⟩
abbrev rm_X11_init : Room := { frames := 2, cells := 22, slots := 701, locals := 41 }
set_option maxRecDepth 100000 in
set_option maxHeartbeats 4000000 in
theorem met_X11_init (l : Launch) (D : va_G) (ρ : z_A) (kd : z_K) (q : z_Q) (μ : z_M) (sz : Nat) (o : Nat) (K : z_K → z_Q → z_M → Prop) (h_o : kd o = some (.inl 11)) (h : C_X11_init kd q o μ K) : Met l yX11_init (z_ws yX11_init cX11_init 1 (Option.none : Option Jvm.ClassFile.FieldType)) rm_X11_init (z_PcA D ρ kd q μ sz [.ref (o)]) (z_Qg D (z_Rg ρ sz) ρ (z_KvG kd K)) rm_X11_init.cells rm_X11_init.slots (z_Rg ρ sz) := by
  refine z_metGA (rm := rm_X11_init) (by decide) (Nat.le_of_ble_eq_true rfl) (fun p e s m args below meth c G hr hlk hin hao => ?_)
  have hin : meth.name = "<init>" := hin
  have he : z_ext ρ ρ := fun _ _ h => h
  have hkx : z_kext kd kd := fun _ _ h => h
  unfold C_X11_init at h
  show z_X _ _ _ _ _ _ _ _ _ _ _ _ _ _ _ _ _ _ _ _ _ [(0, .ref (o))] _
  refine zx_aload_n (pc := 0) G (some (o)) 0 rfl rfl (z_dec T_X11_init_ok 0 (0, .aload_n 0, 1) rfl) ?_
  refine zx_objInit (pc := 1) G wo_RX11_3 h_o ⟨Nat.le_of_ble_eq_true rfl, Nat.le_of_ble_eq_true rfl⟩ (z_dec T_X11_init_ok 1 (1, .invokespecial 3, 3) rfl) ?_
  refine zx_aload_n (pc := 4) G (some (o)) 0 rfl rfl (z_dec T_X11_init_ok 2 (4, .aload_n 0, 1) rfl) ?_
  obtain ⟨n1, hnn1, hqn1, h⟩ := h
  refine zx_newE (pc := 5) G n1 wn_RX11_9 hnn1 hqn1 (by simp only [List.map_cons, List.map_nil, List.cons_append, List.nil_append, List.forall_mem_cons]; exact ⟨(z_nref h_o hnn1), (z_nref h_o hnn1), fun v hv => absurd hv List.not_mem_nil⟩) (Nat.le_of_ble_eq_true rfl) (Nat.le_of_ble_eq_true rfl) (z_dec T_X11_init_ok 3 (5, .new 9, 3) rfl) (fun ρ5 kd2 q3 μ4 e9 e10 e11 hρ7 hx6 hk8 => ?_)
  replace h := h kd2 q3 μ4 e9 e10 e11
  have he12 := z_ext_tr he hρ7
  have hk13 := z_kext_tr hkx hx6
  refine zx_dup (pc := 8) G rfl (z_dec T_X11_init_ok 4 (8, .dup, 1) rfl) ?_
  refine zx_callI_vG (pc := 9) (rm := rm_X10_init) G cw_RX11_11 ⟨Nat.le_of_ble_eq_true rfl, Nat.le_of_ble_eq_true rfl⟩ ⟨Nat.le_of_ble_eq_true rfl, Nat.le_of_ble_eq_true rfl⟩ hk8 (fun sz => (met_X10_init l D _ kd2 q3 μ4 sz n1 _ hk8 h)) rfl rfl (Nat.le_of_ble_eq_true rfl) (by simp only [List.map_cons, List.map_nil, List.cons_append, List.nil_append, List.forall_mem_cons]; exact ⟨(z_okr (hx6 _ _ h_o)), (z_okr hk8), (z_okr (hx6 _ _ h_o)), fun v hv => absurd hv List.not_mem_nil⟩) (z_dec T_X11_init_ok 5 (9, .invokespecial 11, 3) rfl) (fun ρ17 kd14 q15 μ16 hρ19 hx18 hn => ?_)
  clear h
  have h := hn
  clear hn
  have he20 := z_ext_tr he12 hρ19
  have hk21 := z_kext_tr hk13 hx18
  refine zx_putRF (pc := 12) G (some (n1)) gf_RX11_12 cf_11 rfl hin rfl rfl (hx18 _ _ (hx6 _ _ h_o)) (z_dec T_X11_init_ok 6 (12, .putfield 12, 3) rfl) ?_
  refine zx_aload_n (pc := 15) G (some (o)) 0 rfl rfl (z_dec T_X11_init_ok 7 (15, .aload_n 0, 1) rfl) ?_
  obtain ⟨n22, hnn22, hqn22, h⟩ := h
  refine zx_newE (pc := 16) G n22 wn_RX11_16 hnn22 hqn22 (by simp only [List.map_cons, List.map_nil, List.cons_append, List.nil_append, List.forall_mem_cons]; exact ⟨(z_nref (hx18 _ _ (hx6 _ _ h_o)) hnn22), (z_nref (hx18 _ _ (hx6 _ _ h_o)) hnn22), fun v hv => absurd hv List.not_mem_nil⟩) (Nat.le_of_ble_eq_true rfl) (Nat.le_of_ble_eq_true rfl) (z_dec T_X11_init_ok 8 (16, .new 16, 3) rfl) (fun ρ26 kd23 q24 μ25 e30 e31 e32 hρ28 hx27 hk29 => ?_)
  replace h := h kd23 q24 μ25 e30 e31 e32
  have he33 := z_ext_tr he20 hρ28
  have hk34 := z_kext_tr hk21 hx27
  refine zx_dup (pc := 19) G rfl (z_dec T_X11_init_ok 9 (19, .dup, 1) rfl) ?_
  refine zx_callI_vG (pc := 20) (rm := rm_X3_init) G cw_RX11_18 ⟨Nat.le_of_ble_eq_true rfl, Nat.le_of_ble_eq_true rfl⟩ ⟨Nat.le_of_ble_eq_true rfl, Nat.le_of_ble_eq_true rfl⟩ hk29 (fun sz => (met_X3_init l D _ kd23 q24 μ25 sz n22 _ hk29 h)) rfl rfl (Nat.le_of_ble_eq_true rfl) (by simp only [List.map_cons, List.map_nil, List.cons_append, List.nil_append, List.forall_mem_cons]; exact ⟨(z_okr (hx27 _ _ (hx18 _ _ (hx6 _ _ h_o)))), (z_okr hk29), (z_okr (hx27 _ _ (hx18 _ _ (hx6 _ _ h_o)))), fun v hv => absurd hv List.not_mem_nil⟩) (z_dec T_X11_init_ok 10 (20, .invokespecial 18, 3) rfl) (fun ρ38 kd35 q36 μ37 hρ40 hx39 hn => ?_)
  clear h
  have h := hn
  clear hn
  have he41 := z_ext_tr he33 hρ40
  have hk42 := z_kext_tr hk34 hx39
  refine zx_putRF (pc := 23) G (some (n22)) gf_RX11_19 cf_11 rfl hin rfl rfl (hx39 _ _ (hx27 _ _ (hx18 _ _ (hx6 _ _ h_o)))) (z_dec T_X11_init_ok 11 (23, .putfield 19, 3) rfl) ?_
  refine zx_aload_n (pc := 26) G (some (o)) 0 rfl rfl (z_dec T_X11_init_ok 12 (26, .aload_n 0, 1) rfl) ?_
  refine zx_iconst (pc := 27) (v := 3) G (z_dec T_X11_init_ok 13 (27, .iconst 3, 1) rfl) rfl ?_
  obtain ⟨n43, hnn43, hqn43, h⟩ := h
  refine zx_newqE (pc := 28) (N := 3) G n43 6 wq_RX11_23 (hao _ (by decide)) hnn43 hqn43 (by simp only [List.map_cons, List.map_nil, List.cons_append, List.nil_append, List.forall_mem_cons]; exact ⟨(z_nref (hx39 _ _ (hx27 _ _ (hx18 _ _ (hx6 _ _ h_o)))) hnn43), (z_nref (hx39 _ _ (hx27 _ _ (hx18 _ _ (hx6 _ _ h_o)))) hnn43), fun v hv => absurd hv List.not_mem_nil⟩) (by decide) (by decide) (by decide) (Nat.le_of_ble_eq_true rfl) (Nat.le_of_ble_eq_true rfl) (z_dec T_X11_init_ok 14 (28, .anewarray 23, 3) rfl) (fun ρ47 kd44 q45 μ46 e51 e52 e53 hρ49 hx48 hk50 => ?_)
  replace h := h kd44 q45 μ46 e51 e52 e53
  have he54 := z_ext_tr he41 hρ49
  have hk55 := z_kext_tr hk42 hx48
  refine zx_putRF (pc := 31) G (some (n43)) gf_RX11_25 cf_11 rfl hin rfl rfl (hx48 _ _ (hx39 _ _ (hx27 _ _ (hx18 _ _ (hx6 _ _ h_o))))) (z_dec T_X11_init_ok 15 (31, .putfield 25, 3) rfl) ?_
  refine zx_aload_n (pc := 34) G (some (o)) 0 rfl rfl (z_dec T_X11_init_ok 16 (34, .aload_n 0, 1) rfl) ?_
  refine zx_iconst (pc := 35) (v := 4) G (z_dec T_X11_init_ok 17 (35, .iconst 4, 1) rfl) rfl ?_
  obtain ⟨n56, hnn56, hqn56, h⟩ := h
  refine zx_newqE (pc := 36) (N := 4) G n56 1 wq_RX11_29 (hao _ (by decide)) hnn56 hqn56 (by simp only [List.map_cons, List.map_nil, List.cons_append, List.nil_append, List.forall_mem_cons]; exact ⟨(z_nref (hx48 _ _ (hx39 _ _ (hx27 _ _ (hx18 _ _ (hx6 _ _ h_o))))) hnn56), (z_nref (hx48 _ _ (hx39 _ _ (hx27 _ _ (hx18 _ _ (hx6 _ _ h_o))))) hnn56), fun v hv => absurd hv List.not_mem_nil⟩) (by decide) (by decide) (by decide) (Nat.le_of_ble_eq_true rfl) (Nat.le_of_ble_eq_true rfl) (z_dec T_X11_init_ok 18 (36, .anewarray 29, 3) rfl) (fun ρ60 kd57 q58 μ59 e64 e65 e66 hρ62 hx61 hk63 => ?_)
  replace h := h kd57 q58 μ59 e64 e65 e66
  have he67 := z_ext_tr he54 hρ62
  have hk68 := z_kext_tr hk55 hx61
  refine zx_putRF (pc := 39) G (some (n56)) gf_RX11_31 cf_11 rfl hin rfl rfl (hx61 _ _ (hx48 _ _ (hx39 _ _ (hx27 _ _ (hx18 _ _ (hx6 _ _ h_o)))))) (z_dec T_X11_init_ok 19 (39, .putfield 31, 3) rfl) ?_
  refine zx_aload_n (pc := 42) G (some (o)) 0 rfl rfl (z_dec T_X11_init_ok 20 (42, .aload_n 0, 1) rfl) ?_
  refine zx_bipush (pc := 43) (v := 80) G (z_dec T_X11_init_ok 21 (43, .bipush 80, 2) rfl) rfl ?_
  obtain ⟨n69, hnn69, hqn69, h⟩ := h
  refine zx_newqE (pc := 45) (N := 80) G n69 0 wq_RX11_35 (hao _ (by decide)) hnn69 hqn69 (by simp only [List.map_cons, List.map_nil, List.cons_append, List.nil_append, List.forall_mem_cons]; exact ⟨(z_nref (hx61 _ _ (hx48 _ _ (hx39 _ _ (hx27 _ _ (hx18 _ _ (hx6 _ _ h_o)))))) hnn69), (z_nref (hx61 _ _ (hx48 _ _ (hx39 _ _ (hx27 _ _ (hx18 _ _ (hx6 _ _ h_o)))))) hnn69), fun v hv => absurd hv List.not_mem_nil⟩) (by decide) (by decide) (by decide) (Nat.le_of_ble_eq_true rfl) (Nat.le_of_ble_eq_true rfl) (z_dec T_X11_init_ok 22 (45, .anewarray 35, 3) rfl) (fun ρ73 kd70 q71 μ72 e77 e78 e79 hρ75 hx74 hk76 => ?_)
  replace h := h kd70 q71 μ72 e77 e78 e79
  have he80 := z_ext_tr he67 hρ75
  have hk81 := z_kext_tr hk68 hx74
  refine zx_putRF (pc := 48) G (some (n69)) gf_RX11_37 cf_11 rfl hin rfl rfl (hx74 _ _ (hx61 _ _ (hx48 _ _ (hx39 _ _ (hx27 _ _ (hx18 _ _ (hx6 _ _ h_o))))))) (z_dec T_X11_init_ok 23 (48, .putfield 37, 3) rfl) ?_
  refine zx_aload_n (pc := 51) G (some (o)) 0 rfl rfl (z_dec T_X11_init_ok 24 (51, .aload_n 0, 1) rfl) ?_
  obtain ⟨n82, hnn82, hqn82, h⟩ := h
  refine zx_newE (pc := 52) G n82 wn_RX11_41 hnn82 hqn82 (by simp only [List.map_cons, List.map_nil, List.cons_append, List.nil_append, List.forall_mem_cons]; exact ⟨(z_nref (hx74 _ _ (hx61 _ _ (hx48 _ _ (hx39 _ _ (hx27 _ _ (hx18 _ _ (hx6 _ _ h_o))))))) hnn82), (z_nref (hx74 _ _ (hx61 _ _ (hx48 _ _ (hx39 _ _ (hx27 _ _ (hx18 _ _ (hx6 _ _ h_o))))))) hnn82), fun v hv => absurd hv List.not_mem_nil⟩) (Nat.le_of_ble_eq_true rfl) (Nat.le_of_ble_eq_true rfl) (z_dec T_X11_init_ok 25 (52, .new 41, 3) rfl) (fun ρ86 kd83 q84 μ85 e90 e91 e92 hρ88 hx87 hk89 => ?_)
  replace h := h kd83 q84 μ85 e90 e91 e92
  have he93 := z_ext_tr he80 hρ88
  have hk94 := z_kext_tr hk81 hx87
  refine zx_dup (pc := 55) G rfl (z_dec T_X11_init_ok 26 (55, .dup, 1) rfl) ?_
  refine zx_aload_n (pc := 56) G (some (o)) 0 rfl rfl (z_dec T_X11_init_ok 27 (56, .aload_n 0, 1) rfl) ?_
  obtain ⟨b95, hqb95, hkb95, h⟩ := h
  refine zx_getF (pc := 57) (b := b95) G gf_RX11_19 rfl (hx87 _ _ (hx74 _ _ (hx61 _ _ (hx48 _ _ (hx39 _ _ (hx27 _ _ (hx18 _ _ (hx6 _ _ h_o)))))))) hqb95 (z_dec T_X11_init_ok 28 (57, .getfield 19, 3) rfl) ?_
  refine zx_callI_vG (pc := 60) (rm := rm_X8_init) G cw_RX11_43 ⟨Nat.le_of_ble_eq_true rfl, Nat.le_of_ble_eq_true rfl⟩ ⟨Nat.le_of_ble_eq_true rfl, Nat.le_of_ble_eq_true rfl⟩ hk89 (fun sz => (met_X8_init l D _ kd83 q84 μ85 sz n82 (some b95) _ hk89 (fun a ha => by cases ha; exact hkb95) h)) rfl rfl (Nat.le_of_ble_eq_true rfl) (by simp only [List.map_cons, List.map_nil, List.cons_append, List.nil_append, List.forall_mem_cons]; exact ⟨(z_okr (hx87 _ _ (hx74 _ _ (hx61 _ _ (hx48 _ _ (hx39 _ _ (hx27 _ _ (hx18 _ _ (hx6 _ _ h_o))))))))), (z_okr hk89), (z_okr (hx87 _ _ (hx74 _ _ (hx61 _ _ (hx48 _ _ (hx39 _ _ (hx27 _ _ (hx18 _ _ (hx6 _ _ h_o))))))))), fun v hv => absurd hv List.not_mem_nil⟩) (z_dec T_X11_init_ok 29 (60, .invokespecial 43, 3) rfl) (fun ρ99 kd96 q97 μ98 hρ101 hx100 hn => ?_)
  clear h
  have h := hn
  clear hn
  have he102 := z_ext_tr he93 hρ101
  have hk103 := z_kext_tr hk94 hx100
  refine zx_putRF (pc := 63) G (some (n82)) gf_RX11_46 cf_11 rfl hin rfl rfl (hx100 _ _ (hx87 _ _ (hx74 _ _ (hx61 _ _ (hx48 _ _ (hx39 _ _ (hx27 _ _ (hx18 _ _ (hx6 _ _ h_o))))))))) (z_dec T_X11_init_ok 30 (63, .putfield 46, 3) rfl) ?_
  refine zx_aload_n (pc := 66) G (some (o)) 0 rfl rfl (z_dec T_X11_init_ok 31 (66, .aload_n 0, 1) rfl) ?_
  obtain ⟨n104, hnn104, hqn104, h⟩ := h
  refine zx_newE (pc := 67) G n104 wn_RX11_50 hnn104 hqn104 (by simp only [List.map_cons, List.map_nil, List.cons_append, List.nil_append, List.forall_mem_cons]; exact ⟨(z_nref (hx100 _ _ (hx87 _ _ (hx74 _ _ (hx61 _ _ (hx48 _ _ (hx39 _ _ (hx27 _ _ (hx18 _ _ (hx6 _ _ h_o))))))))) hnn104), (z_nref (hx100 _ _ (hx87 _ _ (hx74 _ _ (hx61 _ _ (hx48 _ _ (hx39 _ _ (hx27 _ _ (hx18 _ _ (hx6 _ _ h_o))))))))) hnn104), fun v hv => absurd hv List.not_mem_nil⟩) (Nat.le_of_ble_eq_true rfl) (Nat.le_of_ble_eq_true rfl) (z_dec T_X11_init_ok 32 (67, .new 50, 3) rfl) (fun ρ108 kd105 q106 μ107 e112 e113 e114 hρ110 hx109 hk111 => ?_)
  replace h := h kd105 q106 μ107 e112 e113 e114
  have he115 := z_ext_tr he102 hρ110
  have hk116 := z_kext_tr hk103 hx109
  refine zx_dup (pc := 70) G rfl (z_dec T_X11_init_ok 33 (70, .dup, 1) rfl) ?_
  refine zx_aload_n (pc := 71) G (some (o)) 0 rfl rfl (z_dec T_X11_init_ok 34 (71, .aload_n 0, 1) rfl) ?_
  obtain ⟨b117, hqb117, hkb117, h⟩ := h
  refine zx_getF (pc := 72) (b := b117) G gf_RX11_46 rfl (hx109 _ _ (hx100 _ _ (hx87 _ _ (hx74 _ _ (hx61 _ _ (hx48 _ _ (hx39 _ _ (hx27 _ _ (hx18 _ _ (hx6 _ _ h_o)))))))))) hqb117 (z_dec T_X11_init_ok 35 (72, .getfield 46, 3) rfl) ?_
  refine zx_callI_vG (pc := 75) (rm := rm_X7_init) G cw_RX11_52 ⟨Nat.le_of_ble_eq_true rfl, Nat.le_of_ble_eq_true rfl⟩ ⟨Nat.le_of_ble_eq_true rfl, Nat.le_of_ble_eq_true rfl⟩ hk111 (fun sz => (met_X7_init l D _ kd105 q106 μ107 sz n104 (some b117) _ hk111 (fun a ha => by cases ha; exact hkb117) h)) rfl rfl (Nat.le_of_ble_eq_true rfl) (by simp only [List.map_cons, List.map_nil, List.cons_append, List.nil_append, List.forall_mem_cons]; exact ⟨(z_okr (hx109 _ _ (hx100 _ _ (hx87 _ _ (hx74 _ _ (hx61 _ _ (hx48 _ _ (hx39 _ _ (hx27 _ _ (hx18 _ _ (hx6 _ _ h_o))))))))))), (z_okr hk111), (z_okr (hx109 _ _ (hx100 _ _ (hx87 _ _ (hx74 _ _ (hx61 _ _ (hx48 _ _ (hx39 _ _ (hx27 _ _ (hx18 _ _ (hx6 _ _ h_o))))))))))), fun v hv => absurd hv List.not_mem_nil⟩) (z_dec T_X11_init_ok 36 (75, .invokespecial 52, 3) rfl) (fun ρ121 kd118 q119 μ120 hρ123 hx122 hn => ?_)
  clear h
  have h := hn
  clear hn
  have he124 := z_ext_tr he115 hρ123
  have hk125 := z_kext_tr hk116 hx122
  refine zx_putRF (pc := 78) G (some (n104)) gf_RX11_55 cf_11 rfl hin rfl rfl (hx122 _ _ (hx109 _ _ (hx100 _ _ (hx87 _ _ (hx74 _ _ (hx61 _ _ (hx48 _ _ (hx39 _ _ (hx27 _ _ (hx18 _ _ (hx6 _ _ h_o))))))))))) (z_dec T_X11_init_ok 37 (78, .putfield 55, 3) rfl) ?_
  refine zx_aload_n (pc := 81) G (some (o)) 0 rfl rfl (z_dec T_X11_init_ok 38 (81, .aload_n 0, 1) rfl) ?_
  obtain ⟨n126, hnn126, hqn126, h⟩ := h
  refine zx_newE (pc := 82) G n126 wn_RX11_59 hnn126 hqn126 (by simp only [List.map_cons, List.map_nil, List.cons_append, List.nil_append, List.forall_mem_cons]; exact ⟨(z_nref (hx122 _ _ (hx109 _ _ (hx100 _ _ (hx87 _ _ (hx74 _ _ (hx61 _ _ (hx48 _ _ (hx39 _ _ (hx27 _ _ (hx18 _ _ (hx6 _ _ h_o))))))))))) hnn126), (z_nref (hx122 _ _ (hx109 _ _ (hx100 _ _ (hx87 _ _ (hx74 _ _ (hx61 _ _ (hx48 _ _ (hx39 _ _ (hx27 _ _ (hx18 _ _ (hx6 _ _ h_o))))))))))) hnn126), fun v hv => absurd hv List.not_mem_nil⟩) (Nat.le_of_ble_eq_true rfl) (Nat.le_of_ble_eq_true rfl) (z_dec T_X11_init_ok 39 (82, .new 59, 3) rfl) (fun ρ130 kd127 q128 μ129 e134 e135 e136 hρ132 hx131 hk133 => ?_)
  replace h := h kd127 q128 μ129 e134 e135 e136
  have he137 := z_ext_tr he124 hρ132
  have hk138 := z_kext_tr hk125 hx131
  refine zx_dup (pc := 85) G rfl (z_dec T_X11_init_ok 40 (85, .dup, 1) rfl) ?_
  refine zx_callI_vG (pc := 86) (rm := rm_X9_init) G cw_RX11_61 ⟨Nat.le_of_ble_eq_true rfl, Nat.le_of_ble_eq_true rfl⟩ ⟨Nat.le_of_ble_eq_true rfl, Nat.le_of_ble_eq_true rfl⟩ hk133 (fun sz => (met_X9_init l D _ kd127 q128 μ129 sz n126 _ hk133 h)) rfl rfl (Nat.le_of_ble_eq_true rfl) (by simp only [List.map_cons, List.map_nil, List.cons_append, List.nil_append, List.forall_mem_cons]; exact ⟨(z_okr (hx131 _ _ (hx122 _ _ (hx109 _ _ (hx100 _ _ (hx87 _ _ (hx74 _ _ (hx61 _ _ (hx48 _ _ (hx39 _ _ (hx27 _ _ (hx18 _ _ (hx6 _ _ h_o))))))))))))), (z_okr hk133), (z_okr (hx131 _ _ (hx122 _ _ (hx109 _ _ (hx100 _ _ (hx87 _ _ (hx74 _ _ (hx61 _ _ (hx48 _ _ (hx39 _ _ (hx27 _ _ (hx18 _ _ (hx6 _ _ h_o))))))))))))), fun v hv => absurd hv List.not_mem_nil⟩) (z_dec T_X11_init_ok 41 (86, .invokespecial 61, 3) rfl) (fun ρ142 kd139 q140 μ141 hρ144 hx143 hn => ?_)
  clear h
  have h := hn
  clear hn
  have he145 := z_ext_tr he137 hρ144
  have hk146 := z_kext_tr hk138 hx143
  refine zx_putRF (pc := 89) G (some (n126)) gf_RX11_62 cf_11 rfl hin rfl rfl (hx143 _ _ (hx131 _ _ (hx122 _ _ (hx109 _ _ (hx100 _ _ (hx87 _ _ (hx74 _ _ (hx61 _ _ (hx48 _ _ (hx39 _ _ (hx27 _ _ (hx18 _ _ (hx6 _ _ h_o))))))))))))) (z_dec T_X11_init_ok 42 (89, .putfield 62, 3) rfl) ?_
  refine zx_aload_n (pc := 92) G (some (o)) 0 rfl rfl (z_dec T_X11_init_ok 43 (92, .aload_n 0, 1) rfl) ?_
  obtain ⟨n147, hnn147, hqn147, h⟩ := h
  refine zx_newE (pc := 93) G n147 wn_RX11_66 hnn147 hqn147 (by simp only [List.map_cons, List.map_nil, List.cons_append, List.nil_append, List.forall_mem_cons]; exact ⟨(z_nref (hx143 _ _ (hx131 _ _ (hx122 _ _ (hx109 _ _ (hx100 _ _ (hx87 _ _ (hx74 _ _ (hx61 _ _ (hx48 _ _ (hx39 _ _ (hx27 _ _ (hx18 _ _ (hx6 _ _ h_o))))))))))))) hnn147), (z_nref (hx143 _ _ (hx131 _ _ (hx122 _ _ (hx109 _ _ (hx100 _ _ (hx87 _ _ (hx74 _ _ (hx61 _ _ (hx48 _ _ (hx39 _ _ (hx27 _ _ (hx18 _ _ (hx6 _ _ h_o))))))))))))) hnn147), fun v hv => absurd hv List.not_mem_nil⟩) (Nat.le_of_ble_eq_true rfl) (Nat.le_of_ble_eq_true rfl) (z_dec T_X11_init_ok 44 (93, .new 66, 3) rfl) (fun ρ151 kd148 q149 μ150 e155 e156 e157 hρ153 hx152 hk154 => ?_)
  replace h := h kd148 q149 μ150 e155 e156 e157
  have he158 := z_ext_tr he145 hρ153
  have hk159 := z_kext_tr hk146 hx152
  refine zx_dup (pc := 96) G rfl (z_dec T_X11_init_ok 45 (96, .dup, 1) rfl) ?_
  refine zx_callI_vG (pc := 97) (rm := rm_X2_init) G cw_RX11_68 ⟨Nat.le_of_ble_eq_true rfl, Nat.le_of_ble_eq_true rfl⟩ ⟨Nat.le_of_ble_eq_true rfl, Nat.le_of_ble_eq_true rfl⟩ hk154 (fun sz => (met_X2_init l D _ kd148 q149 μ150 sz n147 _ hk154 h)) rfl rfl (Nat.le_of_ble_eq_true rfl) (by simp only [List.map_cons, List.map_nil, List.cons_append, List.nil_append, List.forall_mem_cons]; exact ⟨(z_okr (hx152 _ _ (hx143 _ _ (hx131 _ _ (hx122 _ _ (hx109 _ _ (hx100 _ _ (hx87 _ _ (hx74 _ _ (hx61 _ _ (hx48 _ _ (hx39 _ _ (hx27 _ _ (hx18 _ _ (hx6 _ _ h_o))))))))))))))), (z_okr hk154), (z_okr (hx152 _ _ (hx143 _ _ (hx131 _ _ (hx122 _ _ (hx109 _ _ (hx100 _ _ (hx87 _ _ (hx74 _ _ (hx61 _ _ (hx48 _ _ (hx39 _ _ (hx27 _ _ (hx18 _ _ (hx6 _ _ h_o))))))))))))))), fun v hv => absurd hv List.not_mem_nil⟩) (z_dec T_X11_init_ok 46 (97, .invokespecial 68, 3) rfl) (fun ρ163 kd160 q161 μ162 hρ165 hx164 hn => ?_)
  clear h
  have h := hn
  clear hn
  have he166 := z_ext_tr he158 hρ165
  have hk167 := z_kext_tr hk159 hx164
  refine zx_putRF (pc := 100) G (some (n147)) gf_RX11_69 cf_11 rfl hin rfl rfl (hx164 _ _ (hx152 _ _ (hx143 _ _ (hx131 _ _ (hx122 _ _ (hx109 _ _ (hx100 _ _ (hx87 _ _ (hx74 _ _ (hx61 _ _ (hx48 _ _ (hx39 _ _ (hx27 _ _ (hx18 _ _ (hx6 _ _ h_o))))))))))))))) (z_dec T_X11_init_ok 47 (100, .putfield 69, 3) rfl) ?_
  refine zx_aload_n (pc := 103) G (some (o)) 0 rfl rfl (z_dec T_X11_init_ok 48 (103, .aload_n 0, 1) rfl) ?_
  obtain ⟨n168, hnn168, hqn168, h⟩ := h
  refine zx_newE (pc := 104) G n168 wn_RX11_73 hnn168 hqn168 (by simp only [List.map_cons, List.map_nil, List.cons_append, List.nil_append, List.forall_mem_cons]; exact ⟨(z_nref (hx164 _ _ (hx152 _ _ (hx143 _ _ (hx131 _ _ (hx122 _ _ (hx109 _ _ (hx100 _ _ (hx87 _ _ (hx74 _ _ (hx61 _ _ (hx48 _ _ (hx39 _ _ (hx27 _ _ (hx18 _ _ (hx6 _ _ h_o))))))))))))))) hnn168), (z_nref (hx164 _ _ (hx152 _ _ (hx143 _ _ (hx131 _ _ (hx122 _ _ (hx109 _ _ (hx100 _ _ (hx87 _ _ (hx74 _ _ (hx61 _ _ (hx48 _ _ (hx39 _ _ (hx27 _ _ (hx18 _ _ (hx6 _ _ h_o))))))))))))))) hnn168), fun v hv => absurd hv List.not_mem_nil⟩) (Nat.le_of_ble_eq_true rfl) (Nat.le_of_ble_eq_true rfl) (z_dec T_X11_init_ok 49 (104, .new 73, 3) rfl) (fun ρ172 kd169 q170 μ171 e176 e177 e178 hρ174 hx173 hk175 => ?_)
  replace h := h kd169 q170 μ171 e176 e177 e178
  have he179 := z_ext_tr he166 hρ174
  have hk180 := z_kext_tr hk167 hx173
  refine zx_dup (pc := 107) G rfl (z_dec T_X11_init_ok 50 (107, .dup, 1) rfl) ?_
  refine zx_callI_vG (pc := 108) (rm := rm_X4_init) G cw_RX11_75 ⟨Nat.le_of_ble_eq_true rfl, Nat.le_of_ble_eq_true rfl⟩ ⟨Nat.le_of_ble_eq_true rfl, Nat.le_of_ble_eq_true rfl⟩ hk175 (fun sz => (met_X4_init l D _ kd169 q170 μ171 sz n168 _ hk175 h)) rfl rfl (Nat.le_of_ble_eq_true rfl) (by simp only [List.map_cons, List.map_nil, List.cons_append, List.nil_append, List.forall_mem_cons]; exact ⟨(z_okr (hx173 _ _ (hx164 _ _ (hx152 _ _ (hx143 _ _ (hx131 _ _ (hx122 _ _ (hx109 _ _ (hx100 _ _ (hx87 _ _ (hx74 _ _ (hx61 _ _ (hx48 _ _ (hx39 _ _ (hx27 _ _ (hx18 _ _ (hx6 _ _ h_o))))))))))))))))), (z_okr hk175), (z_okr (hx173 _ _ (hx164 _ _ (hx152 _ _ (hx143 _ _ (hx131 _ _ (hx122 _ _ (hx109 _ _ (hx100 _ _ (hx87 _ _ (hx74 _ _ (hx61 _ _ (hx48 _ _ (hx39 _ _ (hx27 _ _ (hx18 _ _ (hx6 _ _ h_o))))))))))))))))), fun v hv => absurd hv List.not_mem_nil⟩) (z_dec T_X11_init_ok 51 (108, .invokespecial 75, 3) rfl) (fun ρ184 kd181 q182 μ183 hρ186 hx185 hn => ?_)
  clear h
  have h := hn
  clear hn
  have he187 := z_ext_tr he179 hρ186
  have hk188 := z_kext_tr hk180 hx185
  refine zx_putRF (pc := 111) G (some (n168)) gf_RX11_76 cf_11 rfl hin rfl rfl (hx185 _ _ (hx173 _ _ (hx164 _ _ (hx152 _ _ (hx143 _ _ (hx131 _ _ (hx122 _ _ (hx109 _ _ (hx100 _ _ (hx87 _ _ (hx74 _ _ (hx61 _ _ (hx48 _ _ (hx39 _ _ (hx27 _ _ (hx18 _ _ (hx6 _ _ h_o))))))))))))))))) (z_dec T_X11_init_ok 52 (111, .putfield 76, 3) rfl) ?_
  refine zx_aload_n (pc := 114) G (some (o)) 0 rfl rfl (z_dec T_X11_init_ok 53 (114, .aload_n 0, 1) rfl) ?_
  obtain ⟨n189, hnn189, hqn189, h⟩ := h
  refine zx_newE (pc := 115) G n189 wn_RX11_80 hnn189 hqn189 (by simp only [List.map_cons, List.map_nil, List.cons_append, List.nil_append, List.forall_mem_cons]; exact ⟨(z_nref (hx185 _ _ (hx173 _ _ (hx164 _ _ (hx152 _ _ (hx143 _ _ (hx131 _ _ (hx122 _ _ (hx109 _ _ (hx100 _ _ (hx87 _ _ (hx74 _ _ (hx61 _ _ (hx48 _ _ (hx39 _ _ (hx27 _ _ (hx18 _ _ (hx6 _ _ h_o))))))))))))))))) hnn189), (z_nref (hx185 _ _ (hx173 _ _ (hx164 _ _ (hx152 _ _ (hx143 _ _ (hx131 _ _ (hx122 _ _ (hx109 _ _ (hx100 _ _ (hx87 _ _ (hx74 _ _ (hx61 _ _ (hx48 _ _ (hx39 _ _ (hx27 _ _ (hx18 _ _ (hx6 _ _ h_o))))))))))))))))) hnn189), fun v hv => absurd hv List.not_mem_nil⟩) (Nat.le_of_ble_eq_true rfl) (Nat.le_of_ble_eq_true rfl) (z_dec T_X11_init_ok 54 (115, .new 80, 3) rfl) (fun ρ193 kd190 q191 μ192 e197 e198 e199 hρ195 hx194 hk196 => ?_)
  replace h := h kd190 q191 μ192 e197 e198 e199
  have he200 := z_ext_tr he187 hρ195
  have hk201 := z_kext_tr hk188 hx194
  refine zx_dup (pc := 118) G rfl (z_dec T_X11_init_ok 55 (118, .dup, 1) rfl) ?_
  refine zx_callI_vG (pc := 119) (rm := rm_X5_init) G cw_RX11_82 ⟨Nat.le_of_ble_eq_true rfl, Nat.le_of_ble_eq_true rfl⟩ ⟨Nat.le_of_ble_eq_true rfl, Nat.le_of_ble_eq_true rfl⟩ hk196 (fun sz => (met_X5_init l D _ kd190 q191 μ192 sz n189 _ hk196 h)) rfl rfl (Nat.le_of_ble_eq_true rfl) (by simp only [List.map_cons, List.map_nil, List.cons_append, List.nil_append, List.forall_mem_cons]; exact ⟨(z_okr (hx194 _ _ (hx185 _ _ (hx173 _ _ (hx164 _ _ (hx152 _ _ (hx143 _ _ (hx131 _ _ (hx122 _ _ (hx109 _ _ (hx100 _ _ (hx87 _ _ (hx74 _ _ (hx61 _ _ (hx48 _ _ (hx39 _ _ (hx27 _ _ (hx18 _ _ (hx6 _ _ h_o))))))))))))))))))), (z_okr hk196), (z_okr (hx194 _ _ (hx185 _ _ (hx173 _ _ (hx164 _ _ (hx152 _ _ (hx143 _ _ (hx131 _ _ (hx122 _ _ (hx109 _ _ (hx100 _ _ (hx87 _ _ (hx74 _ _ (hx61 _ _ (hx48 _ _ (hx39 _ _ (hx27 _ _ (hx18 _ _ (hx6 _ _ h_o))))))))))))))))))), fun v hv => absurd hv List.not_mem_nil⟩) (z_dec T_X11_init_ok 56 (119, .invokespecial 82, 3) rfl) (fun ρ205 kd202 q203 μ204 hρ207 hx206 hn => ?_)
  clear h
  have h := hn
  clear hn
  have he208 := z_ext_tr he200 hρ207
  have hk209 := z_kext_tr hk201 hx206
  refine zx_putRF (pc := 122) G (some (n189)) gf_RX11_83 cf_11 rfl hin rfl rfl (hx206 _ _ (hx194 _ _ (hx185 _ _ (hx173 _ _ (hx164 _ _ (hx152 _ _ (hx143 _ _ (hx131 _ _ (hx122 _ _ (hx109 _ _ (hx100 _ _ (hx87 _ _ (hx74 _ _ (hx61 _ _ (hx48 _ _ (hx39 _ _ (hx27 _ _ (hx18 _ _ (hx6 _ _ h_o))))))))))))))))))) (z_dec T_X11_init_ok 57 (122, .putfield 83, 3) rfl) ?_
  refine zx_aload_n (pc := 125) G (some (o)) 0 rfl rfl (z_dec T_X11_init_ok 58 (125, .aload_n 0, 1) rfl) ?_
  refine zx_sipush (pc := 126) (v := 256) G (z_dec T_X11_init_ok 59 (126, .sipush 256, 3) rfl) rfl ?_
  obtain ⟨n210, hnn210, hqn210, h⟩ := h
  refine zx_newaE (pc := 129) (N := 256) G n210 0 rfl (by decide) wa_0 hnn210 hqn210 (by simp only [List.map_cons, List.map_nil, List.cons_append, List.nil_append, List.forall_mem_cons]; exact ⟨(z_nref (hx206 _ _ (hx194 _ _ (hx185 _ _ (hx173 _ _ (hx164 _ _ (hx152 _ _ (hx143 _ _ (hx131 _ _ (hx122 _ _ (hx109 _ _ (hx100 _ _ (hx87 _ _ (hx74 _ _ (hx61 _ _ (hx48 _ _ (hx39 _ _ (hx27 _ _ (hx18 _ _ (hx6 _ _ h_o))))))))))))))))))) hnn210), (z_nref (hx206 _ _ (hx194 _ _ (hx185 _ _ (hx173 _ _ (hx164 _ _ (hx152 _ _ (hx143 _ _ (hx131 _ _ (hx122 _ _ (hx109 _ _ (hx100 _ _ (hx87 _ _ (hx74 _ _ (hx61 _ _ (hx48 _ _ (hx39 _ _ (hx27 _ _ (hx18 _ _ (hx6 _ _ h_o))))))))))))))))))) hnn210), fun v hv => absurd hv List.not_mem_nil⟩) (by decide) (by decide) (by decide) (Nat.le_of_ble_eq_true rfl) (Nat.le_of_ble_eq_true rfl) (z_dec T_X11_init_ok 60 (129, .newarray .int, 2) rfl) (fun ρ214 kd211 q212 μ213 e218 e219 e220 hρ216 hx215 hk217 => ?_)
  replace h := h kd211 q212 μ213 e218 e219 e220
  have he221 := z_ext_tr he208 hρ216
  have hk222 := z_kext_tr hk209 hx215
  refine zx_putRF (pc := 131) G (some (n210)) gf_RX11_87 cf_11 rfl hin rfl rfl (hx215 _ _ (hx206 _ _ (hx194 _ _ (hx185 _ _ (hx173 _ _ (hx164 _ _ (hx152 _ _ (hx143 _ _ (hx131 _ _ (hx122 _ _ (hx109 _ _ (hx100 _ _ (hx87 _ _ (hx74 _ _ (hx61 _ _ (hx48 _ _ (hx39 _ _ (hx27 _ _ (hx18 _ _ (hx6 _ _ h_o)))))))))))))))))))) (z_dec T_X11_init_ok 61 (131, .putfield 87, 3) rfl) ?_
  exact zx_vretG (pc := 134) G hr hlk (Nat.le_of_ble_eq_true rfl) (Nat.le_of_ble_eq_true rfl) he221 (z_dec T_X11_init_ok 62 (134, .return_, 1) rfl) ⟨rfl, hk222, h⟩
abbrev rm_X11_race : Room := { frames := 2, cells := 2, slots := 19, locals := 41 }
set_option maxRecDepth 100000 in
set_option maxHeartbeats 4000000 in
theorem met_X11_race (l : Launch) (D : va_G) (ρ : z_A) (kd : z_K) (q : z_Q) (μ : z_M) (sz : Nat) (a1 : Int32) (K : Int32 → z_K → z_Q → z_M → Prop) (hI : z_I kd q) (h_o : kd 0 = some (.inl 11)) (h : C_X11_race kd q a1 μ K) : Met l yX11_race (z_ws yX11_race cX11_race 2 (Option.some Jvm.ClassFile.FieldType.int)) rm_X11_race (z_Pc D ρ kd q μ sz [.ref (0), .int (a1)]) (z_Qg D (z_Rg ρ sz) ρ (z_KiG kd K)) rm_X11_race.cells rm_X11_race.slots (z_Rg ρ sz) := by
  refine z_metG (rm := rm_X11_race) (by decide) (Nat.le_of_ble_eq_true rfl) (fun p e s m args below meth c G hr hlk hin => ?_)
  clear hin
  have he : z_ext ρ ρ := fun _ _ h => h
  have hkx : z_kext kd kd := fun _ _ h => h
  unfold C_X11_race at h
  show z_X _ _ _ _ _ _ _ _ _ _ _ _ _ _ _ _ _ _ _ _ _ [(0, .ref (0)), (1, .int (a1))] _
  refine zx_iload_n (pc := 0) G 1 rfl rfl (z_dec T_X11_race_ok 0 (0, .iload_n 1, 1) rfl) ?_
  refine zx_iconst (pc := 1) (v := 2) G (z_dec T_X11_race_ok 1 (1, .iconst 2, 1) rfl) rfl ?_
  refine zx_icmp_lt (pc := 2) (tgt := 19) G rfl (z_dec T_X11_race_ok 2 (2, .if_icmp .lt 17, 3) rfl) (fun hc => ?_) (fun hc => ?_)
  · replace h := z_pos hc h
    refine zx_iconst (pc := 19) (v := -1) G (z_dec T_X11_race_ok 10 (19, .iconst (-1), 1) rfl) rfl ?_
    exact zx_iretG (pc := 20) G hr hlk (Nat.le_of_ble_eq_true rfl) (Nat.le_of_ble_eq_true rfl) he (z_dec T_X11_race_ok 11 (20, .ireturn, 1) rfl) ⟨_, rfl, hkx, h⟩
  · replace h := z_neg hc h
    refine zx_iload_n (pc := 5) G 1 rfl rfl (z_dec T_X11_race_ok 3 (5, .iload_n 1, 1) rfl) ?_
    refine zx_bipush (pc := 6) (v := 8) G (z_dec T_X11_race_ok 4 (6, .bipush 8, 2) rfl) rfl ?_
    refine zx_icmp_gt (pc := 8) (tgt := 19) G rfl (z_dec T_X11_race_ok 5 (8, .if_icmp .gt 11, 3) rfl) (fun hc => ?_) (fun hc => ?_)
    · replace h := z_pos hc h
      refine zx_iconst (pc := 19) (v := -1) G (z_dec T_X11_race_ok 10 (19, .iconst (-1), 1) rfl) rfl ?_
      exact zx_iretG (pc := 20) G hr hlk (Nat.le_of_ble_eq_true rfl) (Nat.le_of_ble_eq_true rfl) he (z_dec T_X11_race_ok 11 (20, .ireturn, 1) rfl) ⟨_, rfl, hkx, h⟩
    · replace h := z_neg hc h
      refine zx_aload_n (pc := 11) G (some (0)) 0 rfl rfl (z_dec T_X11_race_ok 6 (11, .aload_n 0, 1) rfl) ?_
      refine zx_getI (pc := 12) G gf_RX11_95 rfl h_o (z_dec T_X11_race_ok 7 (12, .getfield 95, 3) rfl) ?_
      refine zx_iconst (pc := 15) (v := 3) G (z_dec T_X11_race_ok 8 (15, .iconst 3, 1) rfl) rfl ?_
      refine zx_icmp_lt (pc := 16) (tgt := 21) G rfl (z_dec T_X11_race_ok 9 (16, .if_icmp .lt 5, 3) rfl) (fun hc => ?_) (fun hc => ?_)
      · replace h := z_pos hc h
        refine zx_aload_n (pc := 21) G (some (0)) 0 rfl rfl (z_dec T_X11_race_ok 12 (21, .aload_n 0, 1) rfl) ?_
        refine zx_getF (pc := 22) (b := 6) G gf_RX11_25 rfl h_o (zq_11_2 hI h_o) (z_dec T_X11_race_ok 13 (22, .getfield 25, 3) rfl) ?_
        refine zx_aload_n (pc := 25) G (some (0)) 0 rfl rfl (z_dec T_X11_race_ok 14 (25, .aload_n 0, 1) rfl) ?_
        refine zx_getI (pc := 26) G gf_RX11_95 rfl h_o (z_dec T_X11_race_ok 15 (26, .getfield 95, 3) rfl) ?_
        obtain ⟨n1, hnn1, hqn1, h⟩ := h
        refine zx_newE (pc := 29) G n1 wn_RX11_23 hnn1 hqn1 (by simp only [List.map_cons, List.map_nil, List.cons_append, List.nil_append, List.forall_mem_cons]; exact ⟨(z_nref h_o hnn1), (fun h => by cases h), (fun h => by cases h), (z_nref (zk_11_2 hI h_o) hnn1), fun v hv => absurd hv List.not_mem_nil⟩) (Nat.le_of_ble_eq_true rfl) (Nat.le_of_ble_eq_true rfl) (z_dec T_X11_race_ok 16 (29, .new 23, 3) rfl) (fun ρ5 kd2 q3 μ4 e9 e10 e11 hρ7 hx6 hk8 => ?_)
        replace h := h kd2 q3 μ4 e9 e10 e11
        have he12 := z_ext_tr he hρ7
        have hk13 := z_kext_tr hkx hx6
        refine zx_dup (pc := 32) G rfl (z_dec T_X11_race_ok 17 (32, .dup, 1) rfl) ?_
        refine zx_iload_n (pc := 33) G 1 rfl rfl (z_dec T_X11_race_ok 18 (33, .iload_n 1, 1) rfl) ?_
        refine zx_callI_vG (pc := 34) (rm := rm_X6_init) G cw_RX11_110 ⟨Nat.le_of_ble_eq_true rfl, Nat.le_of_ble_eq_true rfl⟩ ⟨Nat.le_of_ble_eq_true rfl, Nat.le_of_ble_eq_true rfl⟩ hk8 (fun sz => (met_X6_init l D _ kd2 q3 μ4 sz n1 a1 _ hk8 h)) rfl rfl (Nat.le_of_ble_eq_true rfl) (by simp only [List.map_cons, List.map_nil, List.cons_append, List.nil_append, List.forall_mem_cons]; exact ⟨(z_okr (hx6 _ _ h_o)), (fun a h => by cases h), (z_okr hk8), (fun a h => by cases h), (z_okr (hx6 _ _ (zk_11_2 hI h_o))), fun v hv => absurd hv List.not_mem_nil⟩) (z_dec T_X11_race_ok 19 (34, .invokespecial 110, 3) rfl) (fun ρ17 kd14 q15 μ16 hρ19 hx18 hn => ?_)
        clear h
        have h := hn
        clear hn
        have he20 := z_ext_tr he12 hρ19
        have hk21 := z_kext_tr hk13 hx18
        obtain ⟨c22, h⟩ := h
        refine zx_aast (pc := 37) (t := 6) G (hx18 _ _ (hx6 _ _ (zk_11_2 hI h_o))) (hx18 _ _ hk8) c22 (z_dec T_X11_race_ok 20 (37, .aastore, 1) rfl) ?_
        refine zx_aload_n (pc := 38) G (some (0)) 0 rfl rfl (z_dec T_X11_race_ok 21 (38, .aload_n 0, 1) rfl) ?_
        refine zx_dup (pc := 39) G rfl (z_dec T_X11_race_ok 22 (39, .dup, 1) rfl) ?_
        refine zx_getI (pc := 40) G gf_RX11_95 rfl (hx18 _ _ (hx6 _ _ h_o)) (z_dec T_X11_race_ok 23 (40, .getfield 95, 3) rfl) ?_
        refine zx_iconst (pc := 43) (v := 1) G (z_dec T_X11_race_ok 24 (43, .iconst 1, 1) rfl) rfl ?_
        refine zx_iadd (pc := 44) G  (z_dec T_X11_race_ok 25 (44, .iadd, 1) rfl) ?_
        refine zx_putI (pc := 45) G gf_RX11_95 cf_11 rfl rfl (hx18 _ _ (hx6 _ _ h_o)) (z_dec T_X11_race_ok 26 (45, .putfield 95, 3) rfl) ?_
        refine zx_aload_n (pc := 48) G (some (0)) 0 rfl rfl (z_dec T_X11_race_ok 27 (48, .aload_n 0, 1) rfl) ?_
        refine zx_getI (pc := 49) G gf_RX11_95 rfl (hx18 _ _ (hx6 _ _ h_o)) (z_dec T_X11_race_ok 28 (49, .getfield 95, 3) rfl) ?_
        refine zx_iconst (pc := 52) (v := 1) G (z_dec T_X11_race_ok 29 (52, .iconst 1, 1) rfl) rfl ?_
        refine zx_isub (pc := 53) G  (z_dec T_X11_race_ok 30 (53, .isub, 1) rfl) ?_
        exact zx_iretG (pc := 54) G hr hlk (Nat.le_of_ble_eq_true rfl) (Nat.le_of_ble_eq_true rfl) he20 (z_dec T_X11_race_ok 31 (54, .ireturn, 1) rfl) ⟨_, rfl, hk21, h⟩
      · replace h := z_neg hc h
        refine zx_iconst (pc := 19) (v := -1) G (z_dec T_X11_race_ok 10 (19, .iconst (-1), 1) rfl) rfl ?_
        exact zx_iretG (pc := 20) G hr hlk (Nat.le_of_ble_eq_true rfl) (Nat.le_of_ble_eq_true rfl) he (z_dec T_X11_race_ok 11 (20, .ireturn, 1) rfl) ⟨_, rfl, hkx, h⟩
abbrev rm_X11_book : Room := { frames := 2, cells := 8, slots := 295, locals := 42 }
set_option maxRecDepth 100000 in
set_option maxHeartbeats 4000000 in
theorem met_X11_book (l : Launch) (D : va_G) (ρ : z_A) (kd : z_K) (q : z_Q) (μ : z_M) (sz : Nat) (a1 : Int32) (K : Int32 → z_K → z_Q → z_M → Prop) (hI : z_I kd q) (h_o : kd 0 = some (.inl 11)) (h : C_X11_book kd q a1 μ K) : Met l yX11_book (z_ws yX11_book cX11_book 2 (Option.some Jvm.ClassFile.FieldType.int)) rm_X11_book (z_Pc D ρ kd q μ sz [.ref (0), .int (a1)]) (z_Qg D (z_Rg ρ sz) ρ (z_KiG kd K)) rm_X11_book.cells rm_X11_book.slots (z_Rg ρ sz) := by
  refine z_metG (rm := rm_X11_book) (by decide) (Nat.le_of_ble_eq_true rfl) (fun p e s m args below meth c G hr hlk hin => ?_)
  clear hin
  have he : z_ext ρ ρ := fun _ _ h => h
  have hkx : z_kext kd kd := fun _ _ h => h
  unfold C_X11_book at h
  show z_X _ _ _ _ _ _ _ _ _ _ _ _ _ _ _ _ _ _ _ _ _ [(0, .ref (0)), (1, .int (a1))] _
  refine zx_iload_n (pc := 0) G 1 rfl rfl (z_dec T_X11_book_ok 0 (0, .iload_n 1, 1) rfl) ?_
  refine zx_if_lt (pc := 1) (tgt := 18) G rfl (z_dec T_X11_book_ok 1 (1, .ifCond .lt 17, 3) rfl) (fun hc => ?_) (fun hc => ?_)
  · replace h := z_pos hc h
    refine zx_iconst (pc := 18) (v := -1) G (z_dec T_X11_book_ok 9 (18, .iconst (-1), 1) rfl) rfl ?_
    exact zx_iretG (pc := 19) G hr hlk (Nat.le_of_ble_eq_true rfl) (Nat.le_of_ble_eq_true rfl) he (z_dec T_X11_book_ok 10 (19, .ireturn, 1) rfl) ⟨_, rfl, hkx, h⟩
  · replace h := z_neg hc h
    refine zx_iload_n (pc := 4) G 1 rfl rfl (z_dec T_X11_book_ok 2 (4, .iload_n 1, 1) rfl) ?_
    refine zx_ldc (pc := 5) G wk_RX11_113 (z_dec T_X11_book_ok 3 (5, .ldc 113, 2) rfl) ?_
    refine zx_icmp_gt (pc := 7) (tgt := 18) G rfl (z_dec T_X11_book_ok 4 (7, .if_icmp .gt 11, 3) rfl) (fun hc => ?_) (fun hc => ?_)
    · replace h := z_pos hc h
      refine zx_iconst (pc := 18) (v := -1) G (z_dec T_X11_book_ok 9 (18, .iconst (-1), 1) rfl) rfl ?_
      exact zx_iretG (pc := 19) G hr hlk (Nat.le_of_ble_eq_true rfl) (Nat.le_of_ble_eq_true rfl) he (z_dec T_X11_book_ok 10 (19, .ireturn, 1) rfl) ⟨_, rfl, hkx, h⟩
    · replace h := z_neg hc h
      refine zx_aload_n (pc := 10) G (some (0)) 0 rfl rfl (z_dec T_X11_book_ok 5 (10, .aload_n 0, 1) rfl) ?_
      refine zx_getI (pc := 11) G gf_RX11_114 rfl h_o (z_dec T_X11_book_ok 6 (11, .getfield 114, 3) rfl) ?_
      refine zx_iconst (pc := 14) (v := 4) G (z_dec T_X11_book_ok 7 (14, .iconst 4, 1) rfl) rfl ?_
      refine zx_icmp_lt (pc := 15) (tgt := 20) G rfl (z_dec T_X11_book_ok 8 (15, .if_icmp .lt 5, 3) rfl) (fun hc => ?_) (fun hc => ?_)
      · replace h := z_pos hc h
        refine zx_aload_n (pc := 20) G (some (0)) 0 rfl rfl (z_dec T_X11_book_ok 11 (20, .aload_n 0, 1) rfl) ?_
        refine zx_getF (pc := 21) (b := 7) G gf_RX11_31 rfl h_o (zq_11_3 hI h_o) (z_dec T_X11_book_ok 12 (21, .getfield 31, 3) rfl) ?_
        refine zx_aload_n (pc := 24) G (some (0)) 0 rfl rfl (z_dec T_X11_book_ok 13 (24, .aload_n 0, 1) rfl) ?_
        refine zx_getI (pc := 25) G gf_RX11_114 rfl h_o (z_dec T_X11_book_ok 14 (25, .getfield 114, 3) rfl) ?_
        obtain ⟨n1, hnn1, hqn1, h⟩ := h
        refine zx_newE (pc := 28) G n1 wn_RX11_29 hnn1 hqn1 (by simp only [List.map_cons, List.map_nil, List.cons_append, List.nil_append, List.forall_mem_cons]; exact ⟨(z_nref h_o hnn1), (fun h => by cases h), (fun h => by cases h), (z_nref (zk_11_3 hI h_o) hnn1), fun v hv => absurd hv List.not_mem_nil⟩) (Nat.le_of_ble_eq_true rfl) (Nat.le_of_ble_eq_true rfl) (z_dec T_X11_book_ok 15 (28, .new 29, 3) rfl) (fun ρ5 kd2 q3 μ4 e9 e10 e11 hρ7 hx6 hk8 => ?_)
        replace h := h kd2 q3 μ4 e9 e10 e11
        have he12 := z_ext_tr he hρ7
        have hk13 := z_kext_tr hkx hx6
        refine zx_dup (pc := 31) G rfl (z_dec T_X11_book_ok 16 (31, .dup, 1) rfl) ?_
        refine zx_iload_n (pc := 32) G 1 rfl rfl (z_dec T_X11_book_ok 17 (32, .iload_n 1, 1) rfl) ?_
        refine zx_callI_vG (pc := 33) (rm := rm_X1_init) G cw_RX11_117 ⟨Nat.le_of_ble_eq_true rfl, Nat.le_of_ble_eq_true rfl⟩ ⟨Nat.le_of_ble_eq_true rfl, Nat.le_of_ble_eq_true rfl⟩ hk8 (fun sz => (met_X1_init l D _ kd2 q3 μ4 sz n1 a1 _ hk8 h)) rfl rfl (Nat.le_of_ble_eq_true rfl) (by simp only [List.map_cons, List.map_nil, List.cons_append, List.nil_append, List.forall_mem_cons]; exact ⟨(z_okr (hx6 _ _ h_o)), (fun a h => by cases h), (z_okr hk8), (fun a h => by cases h), (z_okr (hx6 _ _ (zk_11_3 hI h_o))), fun v hv => absurd hv List.not_mem_nil⟩) (z_dec T_X11_book_ok 18 (33, .invokespecial 117, 3) rfl) (fun ρ17 kd14 q15 μ16 hρ19 hx18 hn => ?_)
        clear h
        have h := hn
        clear hn
        have he20 := z_ext_tr he12 hρ19
        have hk21 := z_kext_tr hk13 hx18
        obtain ⟨c22, h⟩ := h
        refine zx_aast (pc := 36) (t := 1) G (hx18 _ _ (hx6 _ _ (zk_11_3 hI h_o))) (hx18 _ _ hk8) c22 (z_dec T_X11_book_ok 19 (36, .aastore, 1) rfl) ?_
        refine zx_aload_n (pc := 37) G (some (0)) 0 rfl rfl (z_dec T_X11_book_ok 20 (37, .aload_n 0, 1) rfl) ?_
        refine zx_dup (pc := 38) G rfl (z_dec T_X11_book_ok 21 (38, .dup, 1) rfl) ?_
        refine zx_getI (pc := 39) G gf_RX11_114 rfl (hx18 _ _ (hx6 _ _ h_o)) (z_dec T_X11_book_ok 22 (39, .getfield 114, 3) rfl) ?_
        refine zx_iconst (pc := 42) (v := 1) G (z_dec T_X11_book_ok 23 (42, .iconst 1, 1) rfl) rfl ?_
        refine zx_iadd (pc := 43) G  (z_dec T_X11_book_ok 24 (43, .iadd, 1) rfl) ?_
        refine zx_putI (pc := 44) G gf_RX11_114 cf_11 rfl rfl (hx18 _ _ (hx6 _ _ h_o)) (z_dec T_X11_book_ok 25 (44, .putfield 114, 3) rfl) ?_
        refine zx_aload_n (pc := 47) G (some (0)) 0 rfl rfl (z_dec T_X11_book_ok 26 (47, .aload_n 0, 1) rfl) ?_
        refine zx_getI (pc := 48) G gf_RX11_114 rfl (hx18 _ _ (hx6 _ _ h_o)) (z_dec T_X11_book_ok 27 (48, .getfield 114, 3) rfl) ?_
        refine zx_iconst (pc := 51) (v := 1) G (z_dec T_X11_book_ok 28 (51, .iconst 1, 1) rfl) rfl ?_
        refine zx_isub (pc := 52) G  (z_dec T_X11_book_ok 29 (52, .isub, 1) rfl) ?_
        exact zx_iretG (pc := 53) G hr hlk (Nat.le_of_ble_eq_true rfl) (Nat.le_of_ble_eq_true rfl) he20 (z_dec T_X11_book_ok 30 (53, .ireturn, 1) rfl) ⟨_, rfl, hk21, h⟩
      · replace h := z_neg hc h
        refine zx_iconst (pc := 18) (v := -1) G (z_dec T_X11_book_ok 9 (18, .iconst (-1), 1) rfl) rfl ?_
        exact zx_iretG (pc := 19) G hr hlk (Nat.le_of_ble_eq_true rfl) (Nat.le_of_ble_eq_true rfl) he (z_dec T_X11_book_ok 10 (19, .ireturn, 1) rfl) ⟨_, rfl, hkx, h⟩
abbrev rm_X11_bet : Room := { frames := 340, cells := 3, slots := 17, locals := 17098 }
set_option maxRecDepth 100000 in
set_option maxHeartbeats 4000000 in
theorem met_X11_bet (l : Launch) (D : va_G) (ρ : z_A) (kd : z_K) (q : z_Q) (μ : z_M) (sz : Nat) (a1 : Int32) (a2 : Int32) (a3 : Int32) (a4 : Int32) (a5 : Int32) (a6 : Int32) (K : Int32 → z_K → z_Q → z_M → Prop) (hI : z_I kd q) (h_o : kd 0 = some (.inl 11)) (h : C_X11_bet kd q a1 a2 a3 a4 a5 a6 μ K) : Met l yX11_bet (z_ws yX11_bet cX11_bet 9 (Option.some Jvm.ClassFile.FieldType.int)) rm_X11_bet (z_Pc D ρ kd q μ sz [.ref (0), .int (a1), .int (a2), .int (a3), .int (a4), .int (a5), .int (a6)]) (z_Qg D (z_Rg ρ sz) ρ (z_KiG kd K)) rm_X11_bet.cells rm_X11_bet.slots (z_Rg ρ sz) := by
  refine z_metG (rm := rm_X11_bet) (by decide) (Nat.le_of_ble_eq_true rfl) (fun p e s m args below meth c G hr hlk hin => ?_)
  clear hin
  have he : z_ext ρ ρ := fun _ _ h => h
  have hkx : z_kext kd kd := fun _ _ h => h
  unfold C_X11_bet at h
  show z_X _ _ _ _ _ _ _ _ _ _ _ _ _ _ _ _ _ _ _ _ _ [(0, .ref (0)), (1, .int (a1)), (2, .int (a2)), (3, .int (a3)), (4, .int (a4)), (5, .int (a5)), (6, .int (a6))] _
  refine zx_aload_n (pc := 0) G (some (0)) 0 rfl rfl (z_dec T_X11_bet_ok 0 (0, .aload_n 0, 1) rfl) ?_
  refine zx_iload_n (pc := 1) G 2 rfl rfl (z_dec T_X11_bet_ok 1 (1, .iload_n 2, 1) rfl) ?_
  refine zx_callV_rN (pc := 2) (rm := rm_X11_bookAt) G cw_RX11_141 ⟨Nat.le_of_ble_eq_true rfl, Nat.le_of_ble_eq_true rfl⟩ rfl rfl ⟨Nat.le_of_ble_eq_true rfl, Nat.le_of_ble_eq_true rfl⟩ h_o rfl (fun sz => (met_X11_bookAt l D _ kd q μ sz a2 _ hI h_o h)) rfl rfl (Nat.le_of_ble_eq_true rfl) (z_dec T_X11_bet_ok 2 (2, .invokevirtual 141, 3) rfl) (fun r2 μ1 hfr2 hn => ?_)
  clear h
  have h := hn
  clear hn
  refine zx_astore (pc := 5) (lv' := [(7, va_rf (r2)), (0, .ref (0)), (1, .int (a1)), (2, .int (a2)), (3, .int (a3)), (4, .int (a4)), (5, .int (a5)), (6, .int (a6))]) G (r2) (Nat.le_of_ble_eq_true rfl) rfl (z_dec T_X11_bet_ok 3 (5, .astore 7, 2) rfl) ?_
  refine zx_iload_n (pc := 7) G 4 rfl rfl (z_dec T_X11_bet_ok 4 (7, .iload_n 3, 1) rfl) ?_
  refine zx_if_lt (pc := 8) (tgt := 41) G rfl (z_dec T_X11_bet_ok 5 (8, .ifCond .lt 33, 3) rfl) (fun hc => ?_) (fun hc => ?_)
  · replace h := z_pos hc h
    refine zx_iconst (pc := 41) (v := -1) G (z_dec T_X11_bet_ok 21 (41, .iconst (-1), 1) rfl) rfl ?_
    exact zx_iretG (pc := 42) G hr hlk (Nat.le_of_ble_eq_true rfl) (Nat.le_of_ble_eq_true rfl) he (z_dec T_X11_bet_ok 22 (42, .ireturn, 1) rfl) ⟨_, rfl, hkx, h⟩
  · replace h := z_neg hc h
    refine zx_iload_n (pc := 11) G 4 rfl rfl (z_dec T_X11_bet_ok 6 (11, .iload_n 3, 1) rfl) ?_
    refine zx_iconst (pc := 12) (v := 2) G (z_dec T_X11_bet_ok 7 (12, .iconst 2, 1) rfl) rfl ?_
    refine zx_icmp_gt (pc := 13) (tgt := 41) G rfl (z_dec T_X11_bet_ok 8 (13, .if_icmp .gt 28, 3) rfl) (fun hc => ?_) (fun hc => ?_)
    · replace h := z_pos hc h
      refine zx_iconst (pc := 41) (v := -1) G (z_dec T_X11_bet_ok 21 (41, .iconst (-1), 1) rfl) rfl ?_
      exact zx_iretG (pc := 42) G hr hlk (Nat.le_of_ble_eq_true rfl) (Nat.le_of_ble_eq_true rfl) he (z_dec T_X11_bet_ok 22 (42, .ireturn, 1) rfl) ⟨_, rfl, hkx, h⟩
    · replace h := z_neg hc h
      refine zx_aload_n (pc := 16) G (some (0)) 1 rfl rfl (z_dec T_X11_bet_ok 9 (16, .aload_n 0, 1) rfl) ?_
      refine zx_iload_n (pc := 17) G 2 rfl rfl (z_dec T_X11_bet_ok 10 (17, .iload_n 1, 1) rfl) ?_
      refine zx_aload (pc := 18) G (r2) 0 rfl (z_dec T_X11_bet_ok 11 (18, .aload 7, 2) rfl) ?_
      refine zx_iload (pc := 20) G 7 rfl (z_dec T_X11_bet_ok 12 (20, .iload 6, 2) rfl) ?_
      refine zx_callV_zN (pc := 22) (rm := rm_X11_mayBet) G cw_RX11_173 ⟨Nat.le_of_ble_eq_true rfl, Nat.le_of_ble_eq_true rfl⟩ rfl rfl ⟨Nat.le_of_ble_eq_true rfl, Nat.le_of_ble_eq_true rfl⟩ h_o rfl (fun sz => (met_X11_mayBet l D _ kd q μ1 sz a1 r2 a6 _ hI h_o hfr2 h)) rfl rfl (Nat.le_of_ble_eq_true rfl) (z_dec T_X11_bet_ok 13 (22, .invokevirtual 173, 3) rfl) (fun r4 μ3 hzr4 hn => ?_)
      clear h
      have h := hn
      clear hn
      refine zx_if_eq (pc := 25) (tgt := 41) G rfl (z_dec T_X11_bet_ok 14 (25, .ifCond .eq 16, 3) rfl) (fun hc => ?_) (fun hc => ?_)
      · replace h := z_pos hc h
        refine zx_iconst (pc := 41) (v := -1) G (z_dec T_X11_bet_ok 21 (41, .iconst (-1), 1) rfl) rfl ?_
        exact zx_iretG (pc := 42) G hr hlk (Nat.le_of_ble_eq_true rfl) (Nat.le_of_ble_eq_true rfl) he (z_dec T_X11_bet_ok 22 (42, .ireturn, 1) rfl) ⟨_, rfl, hkx, h⟩
      · replace h := z_neg hc h
        refine zx_aload_n (pc := 28) G (some (0)) 1 rfl rfl (z_dec T_X11_bet_ok 15 (28, .aload_n 0, 1) rfl) ?_
        refine zx_aload (pc := 29) G (r2) 0 rfl (z_dec T_X11_bet_ok 16 (29, .aload 7, 2) rfl) ?_
        refine zx_iload (pc := 31) G 5 rfl (z_dec T_X11_bet_ok 17 (31, .iload 4, 2) rfl) ?_
        refine zx_iload (pc := 33) G 6 rfl (z_dec T_X11_bet_ok 18 (33, .iload 5, 2) rfl) ?_
        refine zx_callV_zN (pc := 35) (rm := rm_X11_standsOpen) G cw_RX11_177 ⟨Nat.le_of_ble_eq_true rfl, Nat.le_of_ble_eq_true rfl⟩ rfl rfl ⟨Nat.le_of_ble_eq_true rfl, Nat.le_of_ble_eq_true rfl⟩ h_o rfl (fun sz => (met_X11_standsOpen l D _ kd q μ3 sz r2 a4 a5 _ hI h_o hfr2 h)) rfl rfl (Nat.le_of_ble_eq_true rfl) (z_dec T_X11_bet_ok 19 (35, .invokevirtual 177, 3) rfl) (fun r6 μ5 hzr6 hn => ?_)
        clear h
        have h := hn
        clear hn
        refine zx_if_ne (pc := 38) (tgt := 43) G rfl (z_dec T_X11_bet_ok 20 (38, .ifCond .ne 5, 3) rfl) (fun hc => ?_) (fun hc => ?_)
        · replace h := z_neg hc h
          obtain ⟨n7, hnn7, hqn7, h⟩ := h
          refine zx_newE (pc := 43) G n7 wn_RX11_35 hnn7 hqn7 (by simp only [List.map_cons, List.map_nil, List.cons_append, List.nil_append, List.forall_mem_cons]; exact ⟨(z_nrf hfr2 hnn7), (z_nref h_o hnn7), (fun h => by cases h), (fun h => by cases h), (fun h => by cases h), (fun h => by cases h), (fun h => by cases h), (fun h => by cases h), fun v hv => absurd hv List.not_mem_nil⟩) (Nat.le_of_ble_eq_true rfl) (Nat.le_of_ble_eq_true rfl) (z_dec T_X11_bet_ok 23 (43, .new 35, 3) rfl) (fun ρ11 kd8 q9 μ10 e15 e16 e17 hρ13 hx12 hk14 => ?_)
          replace h := h kd8 q9 μ10 e15 e16 e17
          have he18 := z_ext_tr he hρ13
          have hk19 := z_kext_tr hkx hx12
          refine zx_dup (pc := 46) G rfl (z_dec T_X11_bet_ok 24 (46, .dup, 1) rfl) ?_
          refine zx_iload_n (pc := 47) G 2 rfl rfl (z_dec T_X11_bet_ok 25 (47, .iload_n 1, 1) rfl) ?_
          refine zx_iload_n (pc := 48) G 3 rfl rfl (z_dec T_X11_bet_ok 26 (48, .iload_n 2, 1) rfl) ?_
          refine zx_iload_n (pc := 49) G 4 rfl rfl (z_dec T_X11_bet_ok 27 (49, .iload_n 3, 1) rfl) ?_
          refine zx_iload (pc := 50) G 7 rfl (z_dec T_X11_bet_ok 28 (50, .iload 6, 2) rfl) ?_
          refine zx_aload_n (pc := 52) G (some (0)) 1 rfl rfl (z_dec T_X11_bet_ok 29 (52, .aload_n 0, 1) rfl) ?_
          refine zx_getI (pc := 53) G gf_RX11_91 rfl (hx12 _ _ h_o) (z_dec T_X11_bet_ok 30 (53, .getfield 91, 3) rfl) ?_
          refine zx_callI_vG (pc := 56) (rm := rm_X0_init) G cw_RX11_181 ⟨Nat.le_of_ble_eq_true rfl, Nat.le_of_ble_eq_true rfl⟩ ⟨Nat.le_of_ble_eq_true rfl, Nat.le_of_ble_eq_true rfl⟩ hk14 (fun sz => (met_X0_init l D _ kd8 q9 μ10 sz n7 a1 a2 a3 a6 (μ10.1 0 12) _ hk14 h)) rfl rfl (Nat.le_of_ble_eq_true rfl) (by simp only [List.map_cons, List.map_nil, List.cons_append, List.nil_append, List.forall_mem_cons]; exact ⟨(z_okf (fun a ha => hx12 _ _ (hfr2 a ha))), (z_okr (hx12 _ _ h_o)), (fun a h => by cases h), (fun a h => by cases h), (fun a h => by cases h), (fun a h => by cases h), (fun a h => by cases h), (fun a h => by cases h), (z_okr hk14), fun v hv => absurd hv List.not_mem_nil⟩) (z_dec T_X11_bet_ok 31 (56, .invokespecial 181, 3) rfl) (fun ρ23 kd20 q21 μ22 hρ25 hx24 hn => ?_)
          clear h
          have h := hn
          clear hn
          have he26 := z_ext_tr he18 hρ25
          have hk27 := z_kext_tr hk19 hx24
          refine zx_astore (pc := 59) (lv' := [(8, .ref (n7)), (7, va_rf (r2)), (0, .ref (0)), (1, .int (a1)), (2, .int (a2)), (3, .int (a3)), (4, .int (a4)), (5, .int (a5)), (6, .int (a6))]) G (some (n7)) (Nat.le_of_ble_eq_true rfl) (by cases r2 <;> rfl) (z_dec T_X11_bet_ok 32 (59, .astore 8, 2) rfl) ?_
          refine zx_aload (pc := 61) G (some (n7)) 0 rfl (z_dec T_X11_bet_ok 33 (61, .aload 8, 2) rfl) ?_
          refine zx_iload (pc := 63) G 6 rfl (z_dec T_X11_bet_ok 34 (63, .iload 4, 2) rfl) ?_
          refine zx_iload (pc := 65) G 7 rfl (z_dec T_X11_bet_ok 35 (65, .iload 5, 2) rfl) ?_
          refine zx_aload (pc := 67) G (r2) 1 rfl (z_dec T_X11_bet_ok 36 (67, .aload 7, 2) rfl) ?_
          obtain ⟨o28, rfl, h⟩ := h
          obtain ⟨b29, k30, hqb29, hkb29, h⟩ := h
          refine zx_getF (pc := 69) (b := b29) G gf_RX11_166 rfl ((fun a ha => hx24 _ _ ((fun a ha => hx12 _ _ (hfr2 a ha)) a ha)) o28 rfl) hqb29 (z_dec T_X11_bet_ok 37 (69, .getfield 166, 3) rfl) ?_
          refine zx_iload (pc := 72) G 6 rfl (z_dec T_X11_bet_ok 38 (72, .iload 4, 2) rfl) ?_
          refine zx_iload (pc := 74) G 7 rfl (z_dec T_X11_bet_ok 39 (74, .iload 5, 2) rfl) ?_
          obtain ⟨hI33, h⟩ := h
          refine zx_callS_iN (pc := 76) (rm := rm_X11_spot) G cw_RX11_168 ⟨Nat.le_of_ble_eq_true rfl, Nat.le_of_ble_eq_true rfl⟩ rfl rfl ⟨Nat.le_of_ble_eq_true rfl, Nat.le_of_ble_eq_true rfl⟩ (fun sz => (met_X11_spot l D _ kd20 q21 μ22 sz a4 a5 _ hI33 h)) rfl rfl (Nat.le_of_ble_eq_true rfl) (z_dec T_X11_bet_ok 40 (76, .invokestatic 168, 3) rfl) (fun r32 μ31 hn => ?_)
          clear h
          have h := hn
          clear hn
          obtain ⟨c34, h⟩ := h
          refine zx_iald (pc := 79) G hkb29 c34 (z_dec T_X11_bet_ok 41 (79, .iaload, 1) rfl) ?_
          refine zx_callV_vN (pc := 80) (rm := rm_X0_take) G cw_RX11_184 ⟨Nat.le_of_ble_eq_true rfl, Nat.le_of_ble_eq_true rfl⟩ rfl rfl ⟨Nat.le_of_ble_eq_true rfl, Nat.le_of_ble_eq_true rfl⟩ (hx24 _ _ hk14) rfl (fun sz => (met_X0_take l D _ kd20 q21 μ31 sz n7 a4 a5 (μ31.1 b29 r32.toNatClampNeg) _ hI33 (hx24 _ _ hk14) h)) rfl rfl (Nat.le_of_ble_eq_true rfl) (z_dec T_X11_bet_ok 42 (80, .invokevirtual 184, 3) rfl) (fun μ35 hn => ?_)
          clear h
          have h := hn
          clear hn
          refine zx_aload_n (pc := 83) G (some (0)) 2 rfl rfl (z_dec T_X11_bet_ok 43 (83, .aload_n 0, 1) rfl) ?_
          refine zx_aload (pc := 84) G (some (n7)) 0 rfl (z_dec T_X11_bet_ok 44 (84, .aload 8, 2) rfl) ?_
          refine zx_aload (pc := 86) G (some (o28)) 1 rfl (z_dec T_X11_bet_ok 45 (86, .aload 7, 2) rfl) ?_
          refine zx_callV_vQ (pc := 88) (rm := rm_X11_put) G cw_RX11_188 ⟨Nat.le_of_ble_eq_true rfl, Nat.le_of_ble_eq_true rfl⟩ rfl rfl ⟨Nat.le_of_ble_eq_true rfl, Nat.le_of_ble_eq_true rfl⟩ (hx24 _ _ (hx12 _ _ h_o)) rfl (fun sz => (met_X11_put l D _ kd20 q21 μ35 sz (some n7) (some o28) _ hI33 (hx24 _ _ (hx12 _ _ h_o)) (fun a ha => by cases ha; exact (hx24 _ _ hk14)) (fun a ha => by cases ha; exact ((fun a ha => hx24 _ _ ((fun a ha => hx12 _ _ (hfr2 a ha)) a ha)) o28 rfl)) h)) rfl rfl (Nat.le_of_ble_eq_true rfl) (z_dec T_X11_bet_ok 46 (88, .invokevirtual 188, 3) rfl) (fun q37 hI38 μ36 hn => ?_)
          clear h
          have h := hn
          clear hn
          refine zx_aload_n (pc := 91) G (some (0)) 2 rfl rfl (z_dec T_X11_bet_ok 47 (91, .aload_n 0, 1) rfl) ?_
          refine zx_aload (pc := 92) G (some (n7)) 0 rfl (z_dec T_X11_bet_ok 48 (92, .aload 8, 2) rfl) ?_
          refine zx_aload (pc := 94) G (some (o28)) 1 rfl (z_dec T_X11_bet_ok 49 (94, .aload 7, 2) rfl) ?_
          refine zx_callV_vQ (pc := 96) (rm := rm_X11_follow) G cw_RX11_191 ⟨Nat.le_of_ble_eq_true rfl, Nat.le_of_ble_eq_true rfl⟩ rfl rfl ⟨Nat.le_of_ble_eq_true rfl, Nat.le_of_ble_eq_true rfl⟩ (hx24 _ _ (hx12 _ _ h_o)) rfl (fun sz => (met_X11_follow l D _ kd20 q37 μ36 sz (some n7) (some o28) _ hI38 (hx24 _ _ (hx12 _ _ h_o)) (fun a ha => by cases ha; exact (hx24 _ _ hk14)) (fun a ha => by cases ha; exact ((fun a ha => hx24 _ _ ((fun a ha => hx12 _ _ (hfr2 a ha)) a ha)) o28 rfl)) h)) rfl rfl (Nat.le_of_ble_eq_true rfl) (z_dec T_X11_bet_ok 50 (96, .invokevirtual 191, 3) rfl) (fun q40 hI41 μ39 hn => ?_)
          clear h
          have h := hn
          clear hn
          refine zx_aload_n (pc := 99) G (some (0)) 2 rfl rfl (z_dec T_X11_bet_ok 51 (99, .aload_n 0, 1) rfl) ?_
          refine zx_getI (pc := 100) G gf_RX11_194 rfl (hx24 _ _ (hx12 _ _ h_o)) (z_dec T_X11_bet_ok 52 (100, .getfield 194, 3) rfl) ?_
          refine zx_iconst (pc := 103) (v := 1) G (z_dec T_X11_bet_ok 53 (103, .iconst 1, 1) rfl) rfl ?_
          refine zx_isub (pc := 104) G  (z_dec T_X11_bet_ok 54 (104, .isub, 1) rfl) ?_
          exact zx_iretG (pc := 105) G hr hlk (Nat.le_of_ble_eq_true rfl) (Nat.le_of_ble_eq_true rfl) he26 (z_dec T_X11_bet_ok 55 (105, .ireturn, 1) rfl) ⟨_, rfl, hk27, h⟩
        · replace h := z_pos hc h
          refine zx_iconst (pc := 41) (v := -1) G (z_dec T_X11_bet_ok 21 (41, .iconst (-1), 1) rfl) rfl ?_
          exact zx_iretG (pc := 42) G hr hlk (Nat.le_of_ble_eq_true rfl) (Nat.le_of_ble_eq_true rfl) he (z_dec T_X11_bet_ok 22 (42, .ireturn, 1) rfl) ⟨_, rfl, hkx, h⟩
abbrev rm_X11_joined : Room := { frames := 340, cells := 3, slots := 17, locals := 17098 }
set_option maxRecDepth 100000 in
set_option maxHeartbeats 4000000 in
theorem L_X11_joined_89_ok {p : Program} {l : Launch} {e : Env} {s : State} {m : MethodId} {args : Array Value} {below : List Frame} {meth : Method} {c : Code} {D : va_G} {A : Nat → Prop} {ρ0 ρ : z_A} {kd0 kd : z_K} {q : z_Q} {μ : z_M} {K : Int32 → z_K → z_Q → z_M → Prop} {v1 : Int32} {v2 : Int32} {v3 : Int32} {v4 : Int32} {v5 : Int32} {v6 : Int32} {v7 : Option Nat} {t0 : Int32} {t1 : Int32} (G : z_G p c cX11_joined s m args RX11 9 D) (hr : meth.sig.returnType = (Option.some Jvm.ClassFile.FieldType.int)) (hlk : meth.locks = false) (he : z_ext ρ0 ρ) (hkx : z_kext kd0 kd) (hI : z_I kd q) (f_l0 : kd 0 = some (.inl 11)) (f_l7 : ∀ a, v7 = some a → kd a = some (.inl 1)) (f_s0 : (t0 = 0 ∨ t0 = 1)) (h : L_X11_joined_89 K v1 v2 v3 v4 v5 v6 v7 t0 t1 kd q μ) : z_X p l e rm_X11_joined s m args below meth c 9 D A (MQ below (z_Qg D A ρ0 (z_KiG kd0 K)) args s 3 17 A) 0 0 ρ kd q μ 89 [(0, .ref (0)), (1, .int (v1)), (2, .int (v2)), (3, .int (v3)), (4, .int (v4)), (5, .int (v5)), (6, .int (v6)), (7, va_rf (v7))] [.int (t0), .int (t1)] := by
    unfold L_X11_joined_89 at h
    refine zx_iadd (pc := 89) G  (z_dec T_X11_joined_ok 49 (89, .iadd, 1) rfl) ?_
    refine zx_iconst (pc := 90) (v := 2) G (z_dec T_X11_joined_ok 50 (90, .iconst 2, 1) rfl) rfl ?_
    refine zx_icmp_ge (pc := 91) (tgt := 96) G rfl (z_dec T_X11_joined_ok 51 (91, .if_icmp .ge 5, 3) rfl) (fun hc => ?_) (fun hc => ?_)
    · replace h := z_pos hc h
      obtain ⟨n1, hnn1, hqn1, h⟩ := h
      refine zx_newE (pc := 96) G n1 wn_RX11_35 hnn1 hqn1 (by simp only [List.map_cons, List.map_nil, List.cons_append, List.nil_append, List.forall_mem_cons]; exact ⟨(z_nref f_l0 hnn1), (fun h => by cases h), (fun h => by cases h), (fun h => by cases h), (fun h => by cases h), (fun h => by cases h), (fun h => by cases h), (z_nrf f_l7 hnn1), fun v hv => absurd hv List.not_mem_nil⟩) (Nat.le_of_ble_eq_true rfl) (Nat.le_of_ble_eq_true rfl) (z_dec T_X11_joined_ok 54 (96, .new 35, 3) rfl) (fun ρ5 kd2 q3 μ4 e9 e10 e11 hρ7 hx6 hk8 => ?_)
      replace h := h kd2 q3 μ4 e9 e10 e11
      have he12 := z_ext_tr he hρ7
      have hk13 := z_kext_tr hkx hx6
      refine zx_dup (pc := 99) G rfl (z_dec T_X11_joined_ok 55 (99, .dup, 1) rfl) ?_
      refine zx_iload_n (pc := 100) G 1 rfl rfl (z_dec T_X11_joined_ok 56 (100, .iload_n 1, 1) rfl) ?_
      refine zx_iload_n (pc := 101) G 2 rfl rfl (z_dec T_X11_joined_ok 57 (101, .iload_n 2, 1) rfl) ?_
      refine zx_iconst (pc := 102) (v := 3) G (z_dec T_X11_joined_ok 58 (102, .iconst 3, 1) rfl) rfl ?_
      refine zx_iload (pc := 103) G 6 rfl (z_dec T_X11_joined_ok 59 (103, .iload 6, 2) rfl) ?_
      refine zx_aload_n (pc := 105) G (some (0)) 0 rfl rfl (z_dec T_X11_joined_ok 60 (105, .aload_n 0, 1) rfl) ?_
      refine zx_getI (pc := 106) G gf_RX11_91 rfl (hx6 _ _ f_l0) (z_dec T_X11_joined_ok 61 (106, .getfield 91, 3) rfl) ?_
      refine zx_callI_vG (pc := 109) (rm := rm_X0_init) G cw_RX11_181 ⟨Nat.le_of_ble_eq_true rfl, Nat.le_of_ble_eq_true rfl⟩ ⟨Nat.le_of_ble_eq_true rfl, Nat.le_of_ble_eq_true rfl⟩ hk8 (fun sz => (met_X0_init l D _ kd2 q3 μ4 sz n1 v1 v2 ((3 : Int32)) v6 (μ4.1 0 12) _ hk8 h)) rfl rfl (Nat.le_of_ble_eq_true rfl) (by simp only [List.map_cons, List.map_nil, List.cons_append, List.nil_append, List.forall_mem_cons]; exact ⟨(z_okr (hx6 _ _ f_l0)), (fun a h => by cases h), (fun a h => by cases h), (fun a h => by cases h), (fun a h => by cases h), (fun a h => by cases h), (fun a h => by cases h), (z_okf (fun a ha => hx6 _ _ (f_l7 a ha))), (z_okr hk8), fun v hv => absurd hv List.not_mem_nil⟩) (z_dec T_X11_joined_ok 62 (109, .invokespecial 181, 3) rfl) (fun ρ17 kd14 q15 μ16 hρ19 hx18 hn => ?_)
      clear h
      have h := hn
      clear hn
      have he20 := z_ext_tr he12 hρ19
      have hk21 := z_kext_tr hk13 hx18
      refine zx_astore (pc := 112) (lv' := [(8, .ref (n1)), (0, .ref (0)), (1, .int (v1)), (2, .int (v2)), (3, .int (v3)), (4, .int (v4)), (5, .int (v5)), (6, .int (v6)), (7, va_rf (v7))]) G (some (n1)) (Nat.le_of_ble_eq_true rfl) (by cases v7 <;> rfl) (z_dec T_X11_joined_ok 63 (112, .astore 8, 2) rfl) ?_
      refine zx_aload_n (pc := 114) G (some (0)) 1 rfl rfl (z_dec T_X11_joined_ok 64 (114, .aload_n 0, 1) rfl) ?_
      refine zx_aload (pc := 115) G (some (n1)) 0 rfl (z_dec T_X11_joined_ok 65 (115, .aload 8, 2) rfl) ?_
      refine zx_aload (pc := 117) G (v7) 8 rfl (z_dec T_X11_joined_ok 66 (117, .aload 7, 2) rfl) ?_
      refine zx_iconst (pc := 119) (v := 0) G (z_dec T_X11_joined_ok 67 (119, .iconst 0, 1) rfl) rfl ?_
      refine zx_iload_n (pc := 120) G 4 rfl rfl (z_dec T_X11_joined_ok 68 (120, .iload_n 3, 1) rfl) ?_
      obtain ⟨hI23, h⟩ := h
      refine zx_callV_vN (pc := 121) (rm := rm_X11_takeIfAny) G cw_RX11_200 ⟨Nat.le_of_ble_eq_true rfl, Nat.le_of_ble_eq_true rfl⟩ rfl rfl ⟨Nat.le_of_ble_eq_true rfl, Nat.le_of_ble_eq_true rfl⟩ (hx18 _ _ (hx6 _ _ f_l0)) rfl (fun sz => (met_X11_takeIfAny l D _ kd14 q15 μ16 sz (some n1) v7 ((0 : Int32)) v3 _ hI23 (hx18 _ _ (hx6 _ _ f_l0)) (fun a ha => by cases ha; exact (hx18 _ _ hk8)) (fun a ha => hx18 _ _ ((fun a ha => hx6 _ _ (f_l7 a ha)) a ha)) h)) rfl rfl (Nat.le_of_ble_eq_true rfl) (z_dec T_X11_joined_ok 69 (121, .invokevirtual 200, 3) rfl) (fun μ22 hn => ?_)
      clear h
      have h := hn
      clear hn
      refine zx_aload_n (pc := 124) G (some (0)) 1 rfl rfl (z_dec T_X11_joined_ok 70 (124, .aload_n 0, 1) rfl) ?_
      refine zx_aload (pc := 125) G (some (n1)) 0 rfl (z_dec T_X11_joined_ok 71 (125, .aload 8, 2) rfl) ?_
      refine zx_aload (pc := 127) G (v7) 8 rfl (z_dec T_X11_joined_ok 72 (127, .aload 7, 2) rfl) ?_
      refine zx_iconst (pc := 129) (v := 1) G (z_dec T_X11_joined_ok 73 (129, .iconst 1, 1) rfl) rfl ?_
      refine zx_iload (pc := 130) G 5 rfl (z_dec T_X11_joined_ok 74 (130, .iload 4, 2) rfl) ?_
      refine zx_callV_vN (pc := 132) (rm := rm_X11_takeIfAny) G cw_RX11_200 ⟨Nat.le_of_ble_eq_true rfl, Nat.le_of_ble_eq_true rfl⟩ rfl rfl ⟨Nat.le_of_ble_eq_true rfl, Nat.le_of_ble_eq_true rfl⟩ (hx18 _ _ (hx6 _ _ f_l0)) rfl (fun sz => (met_X11_takeIfAny l D _ kd14 q15 μ22 sz (some n1) v7 ((1 : Int32)) v4 _ hI23 (hx18 _ _ (hx6 _ _ f_l0)) (fun a ha => by cases ha; exact (hx18 _ _ hk8)) (fun a ha => hx18 _ _ ((fun a ha => hx6 _ _ (f_l7 a ha)) a ha)) h)) rfl rfl (Nat.le_of_ble_eq_true rfl) (z_dec T_X11_joined_ok 75 (132, .invokevirtual 200, 3) rfl) (fun μ24 hn => ?_)
      clear h
      have h := hn
      clear hn
      refine zx_aload_n (pc := 135) G (some (0)) 1 rfl rfl (z_dec T_X11_joined_ok 76 (135, .aload_n 0, 1) rfl) ?_
      refine zx_aload (pc := 136) G (some (n1)) 0 rfl (z_dec T_X11_joined_ok 77 (136, .aload 8, 2) rfl) ?_
      refine zx_aload (pc := 138) G (v7) 8 rfl (z_dec T_X11_joined_ok 78 (138, .aload 7, 2) rfl) ?_
      refine zx_iconst (pc := 140) (v := 2) G (z_dec T_X11_joined_ok 79 (140, .iconst 2, 1) rfl) rfl ?_
      refine zx_iload (pc := 141) G 6 rfl (z_dec T_X11_joined_ok 80 (141, .iload 5, 2) rfl) ?_
      refine zx_callV_vN (pc := 143) (rm := rm_X11_takeIfAny) G cw_RX11_200 ⟨Nat.le_of_ble_eq_true rfl, Nat.le_of_ble_eq_true rfl⟩ rfl rfl ⟨Nat.le_of_ble_eq_true rfl, Nat.le_of_ble_eq_true rfl⟩ (hx18 _ _ (hx6 _ _ f_l0)) rfl (fun sz => (met_X11_takeIfAny l D _ kd14 q15 μ24 sz (some n1) v7 ((2 : Int32)) v5 _ hI23 (hx18 _ _ (hx6 _ _ f_l0)) (fun a ha => by cases ha; exact (hx18 _ _ hk8)) (fun a ha => hx18 _ _ ((fun a ha => hx6 _ _ (f_l7 a ha)) a ha)) h)) rfl rfl (Nat.le_of_ble_eq_true rfl) (z_dec T_X11_joined_ok 81 (143, .invokevirtual 200, 3) rfl) (fun μ25 hn => ?_)
      clear h
      have h := hn
      clear hn
      refine zx_aload_n (pc := 146) G (some (0)) 1 rfl rfl (z_dec T_X11_joined_ok 82 (146, .aload_n 0, 1) rfl) ?_
      refine zx_aload (pc := 147) G (some (n1)) 0 rfl (z_dec T_X11_joined_ok 83 (147, .aload 8, 2) rfl) ?_
      refine zx_aload (pc := 149) G (v7) 8 rfl (z_dec T_X11_joined_ok 84 (149, .aload 7, 2) rfl) ?_
      refine zx_callV_vQ (pc := 151) (rm := rm_X11_put) G cw_RX11_188 ⟨Nat.le_of_ble_eq_true rfl, Nat.le_of_ble_eq_true rfl⟩ rfl rfl ⟨Nat.le_of_ble_eq_true rfl, Nat.le_of_ble_eq_true rfl⟩ (hx18 _ _ (hx6 _ _ f_l0)) rfl (fun sz => (met_X11_put l D _ kd14 q15 μ25 sz (some n1) v7 _ hI23 (hx18 _ _ (hx6 _ _ f_l0)) (fun a ha => by cases ha; exact (hx18 _ _ hk8)) (fun a ha => hx18 _ _ ((fun a ha => hx6 _ _ (f_l7 a ha)) a ha)) h)) rfl rfl (Nat.le_of_ble_eq_true rfl) (z_dec T_X11_joined_ok 85 (151, .invokevirtual 188, 3) rfl) (fun q27 hI28 μ26 hn => ?_)
      clear h
      have h := hn
      clear hn
      refine zx_aload_n (pc := 154) G (some (0)) 1 rfl rfl (z_dec T_X11_joined_ok 86 (154, .aload_n 0, 1) rfl) ?_
      refine zx_aload (pc := 155) G (some (n1)) 0 rfl (z_dec T_X11_joined_ok 87 (155, .aload 8, 2) rfl) ?_
      refine zx_aload (pc := 157) G (v7) 8 rfl (z_dec T_X11_joined_ok 88 (157, .aload 7, 2) rfl) ?_
      refine zx_callV_vQ (pc := 159) (rm := rm_X11_follow) G cw_RX11_191 ⟨Nat.le_of_ble_eq_true rfl, Nat.le_of_ble_eq_true rfl⟩ rfl rfl ⟨Nat.le_of_ble_eq_true rfl, Nat.le_of_ble_eq_true rfl⟩ (hx18 _ _ (hx6 _ _ f_l0)) rfl (fun sz => (met_X11_follow l D _ kd14 q27 μ26 sz (some n1) v7 _ hI28 (hx18 _ _ (hx6 _ _ f_l0)) (fun a ha => by cases ha; exact (hx18 _ _ hk8)) (fun a ha => hx18 _ _ ((fun a ha => hx6 _ _ (f_l7 a ha)) a ha)) h)) rfl rfl (Nat.le_of_ble_eq_true rfl) (z_dec T_X11_joined_ok 89 (159, .invokevirtual 191, 3) rfl) (fun q30 hI31 μ29 hn => ?_)
      clear h
      have h := hn
      clear hn
      refine zx_aload_n (pc := 162) G (some (0)) 1 rfl rfl (z_dec T_X11_joined_ok 90 (162, .aload_n 0, 1) rfl) ?_
      refine zx_getI (pc := 163) G gf_RX11_194 rfl (hx18 _ _ (hx6 _ _ f_l0)) (z_dec T_X11_joined_ok 91 (163, .getfield 194, 3) rfl) ?_
      refine zx_iconst (pc := 166) (v := 1) G (z_dec T_X11_joined_ok 92 (166, .iconst 1, 1) rfl) rfl ?_
      refine zx_isub (pc := 167) G  (z_dec T_X11_joined_ok 93 (167, .isub, 1) rfl) ?_
      exact zx_iretG (pc := 168) G hr hlk (Nat.le_of_ble_eq_true rfl) (Nat.le_of_ble_eq_true rfl) he20 (z_dec T_X11_joined_ok 94 (168, .ireturn, 1) rfl) ⟨_, rfl, hk21, h⟩
    · replace h := z_neg hc h
      refine zx_iconst (pc := 94) (v := -1) G (z_dec T_X11_joined_ok 52 (94, .iconst (-1), 1) rfl) rfl ?_
      exact zx_iretG (pc := 95) G hr hlk (Nat.le_of_ble_eq_true rfl) (Nat.le_of_ble_eq_true rfl) he (z_dec T_X11_joined_ok 53 (95, .ireturn, 1) rfl) ⟨_, rfl, hkx, h⟩
set_option maxRecDepth 100000 in
set_option maxHeartbeats 4000000 in
theorem L_X11_joined_77_ok {p : Program} {l : Launch} {e : Env} {s : State} {m : MethodId} {args : Array Value} {below : List Frame} {meth : Method} {c : Code} {D : va_G} {A : Nat → Prop} {ρ0 ρ : z_A} {kd0 kd : z_K} {q : z_Q} {μ : z_M} {K : Int32 → z_K → z_Q → z_M → Prop} {v1 : Int32} {v2 : Int32} {v3 : Int32} {v4 : Int32} {v5 : Int32} {v6 : Int32} {v7 : Option Nat} {t0 : Int32} {t1 : Int32} (G : z_G p c cX11_joined s m args RX11 9 D) (hr : meth.sig.returnType = (Option.some Jvm.ClassFile.FieldType.int)) (hlk : meth.locks = false) (he : z_ext ρ0 ρ) (hkx : z_kext kd0 kd) (hI : z_I kd q) (f_l0 : kd 0 = some (.inl 11)) (f_l7 : ∀ a, v7 = some a → kd a = some (.inl 1)) (f_s0 : (t0 = 0 ∨ t0 = 1)) (f_s1 : (t1 = 0 ∨ t1 = 1)) (h : L_X11_joined_77 K v1 v2 v3 v4 v5 v6 v7 t0 t1 kd q μ) : z_X p l e rm_X11_joined s m args below meth c 9 D A (MQ below (z_Qg D A ρ0 (z_KiG kd0 K)) args s 3 17 A) 0 0 ρ kd q μ 77 [(0, .ref (0)), (1, .int (v1)), (2, .int (v2)), (3, .int (v3)), (4, .int (v4)), (5, .int (v5)), (6, .int (v6)), (7, va_rf (v7))] [.int (t0), .int (t1)] := by
    unfold L_X11_joined_77 at h
    refine zx_iadd (pc := 77) G  (z_dec T_X11_joined_ok 42 (77, .iadd, 1) rfl) ?_
    refine zx_iload (pc := 78) G 5 rfl (z_dec T_X11_joined_ok 43 (78, .iload 5, 2) rfl) ?_
    refine zx_iconst (pc := 80) (v := -1) G (z_dec T_X11_joined_ok 44 (80, .iconst (-1), 1) rfl) rfl ?_
    refine zx_icmp_ne (pc := 81) (tgt := 88) G rfl (z_dec T_X11_joined_ok 45 (81, .if_icmp .ne 7, 3) rfl) (fun hc => ?_) (fun hc => ?_)
    · replace h := z_neg hc h
      refine zx_iconst (pc := 88) (v := 1) G (z_dec T_X11_joined_ok 48 (88, .iconst 1, 1) rfl) rfl ?_
      exact L_X11_joined_89_ok G hr hlk he hkx hI f_l0 f_l7 (Or.inr rfl) h
    · replace h := z_pos hc h
      refine zx_iconst (pc := 84) (v := 0) G (z_dec T_X11_joined_ok 46 (84, .iconst 0, 1) rfl) rfl ?_
      refine zx_goto (pc := 85) (tgt := 89) G rfl (z_dec T_X11_joined_ok 47 (85, .goto 4, 3) rfl) ?_
      exact L_X11_joined_89_ok G hr hlk he hkx hI f_l0 f_l7 (Or.inl rfl) h
set_option maxRecDepth 100000 in
set_option maxHeartbeats 4000000 in
theorem L_X11_joined_66_ok {p : Program} {l : Launch} {e : Env} {s : State} {m : MethodId} {args : Array Value} {below : List Frame} {meth : Method} {c : Code} {D : va_G} {A : Nat → Prop} {ρ0 ρ : z_A} {kd0 kd : z_K} {q : z_Q} {μ : z_M} {K : Int32 → z_K → z_Q → z_M → Prop} {v1 : Int32} {v2 : Int32} {v3 : Int32} {v4 : Int32} {v5 : Int32} {v6 : Int32} {v7 : Option Nat} {t0 : Int32} (G : z_G p c cX11_joined s m args RX11 9 D) (hr : meth.sig.returnType = (Option.some Jvm.ClassFile.FieldType.int)) (hlk : meth.locks = false) (he : z_ext ρ0 ρ) (hkx : z_kext kd0 kd) (hI : z_I kd q) (f_l0 : kd 0 = some (.inl 11)) (f_l7 : ∀ a, v7 = some a → kd a = some (.inl 1)) (f_s0 : (t0 = 0 ∨ t0 = 1)) (h : L_X11_joined_66 K v1 v2 v3 v4 v5 v6 v7 t0 kd q μ) : z_X p l e rm_X11_joined s m args below meth c 9 D A (MQ below (z_Qg D A ρ0 (z_KiG kd0 K)) args s 3 17 A) 0 0 ρ kd q μ 66 [(0, .ref (0)), (1, .int (v1)), (2, .int (v2)), (3, .int (v3)), (4, .int (v4)), (5, .int (v5)), (6, .int (v6)), (7, va_rf (v7))] [.int (t0)] := by
    unfold L_X11_joined_66 at h
    refine zx_iload (pc := 66) G 4 rfl (z_dec T_X11_joined_ok 36 (66, .iload 4, 2) rfl) ?_
    refine zx_iconst (pc := 68) (v := -1) G (z_dec T_X11_joined_ok 37 (68, .iconst (-1), 1) rfl) rfl ?_
    refine zx_icmp_ne (pc := 69) (tgt := 76) G rfl (z_dec T_X11_joined_ok 38 (69, .if_icmp .ne 7, 3) rfl) (fun hc => ?_) (fun hc => ?_)
    · replace h := z_neg hc h
      refine zx_iconst (pc := 76) (v := 1) G (z_dec T_X11_joined_ok 41 (76, .iconst 1, 1) rfl) rfl ?_
      exact L_X11_joined_77_ok G hr hlk he hkx hI f_l0 f_l7 (Or.inr rfl) f_s0 h
    · replace h := z_pos hc h
      refine zx_iconst (pc := 72) (v := 0) G (z_dec T_X11_joined_ok 39 (72, .iconst 0, 1) rfl) rfl ?_
      refine zx_goto (pc := 73) (tgt := 77) G rfl (z_dec T_X11_joined_ok 40 (73, .goto 4, 3) rfl) ?_
      exact L_X11_joined_77_ok G hr hlk he hkx hI f_l0 f_l7 (Or.inl rfl) f_s0 h
set_option maxRecDepth 100000 in
set_option maxHeartbeats 4000000 in
theorem met_X11_joined (l : Launch) (D : va_G) (ρ : z_A) (kd : z_K) (q : z_Q) (μ : z_M) (sz : Nat) (a1 : Int32) (a2 : Int32) (a3 : Int32) (a4 : Int32) (a5 : Int32) (a6 : Int32) (K : Int32 → z_K → z_Q → z_M → Prop) (hI : z_I kd q) (h_o : kd 0 = some (.inl 11)) (h : C_X11_joined kd q a1 a2 a3 a4 a5 a6 μ K) : Met l yX11_joined (z_ws yX11_joined cX11_joined 9 (Option.some Jvm.ClassFile.FieldType.int)) rm_X11_joined (z_Pc D ρ kd q μ sz [.ref (0), .int (a1), .int (a2), .int (a3), .int (a4), .int (a5), .int (a6)]) (z_Qg D (z_Rg ρ sz) ρ (z_KiG kd K)) rm_X11_joined.cells rm_X11_joined.slots (z_Rg ρ sz) := by
  refine z_metG (rm := rm_X11_joined) (by decide) (Nat.le_of_ble_eq_true rfl) (fun p e s m args below meth c G hr hlk hin => ?_)
  clear hin
  have he : z_ext ρ ρ := fun _ _ h => h
  have hkx : z_kext kd kd := fun _ _ h => h
  unfold C_X11_joined at h
  show z_X _ _ _ _ _ _ _ _ _ _ _ _ _ _ _ _ _ _ _ _ _ [(0, .ref (0)), (1, .int (a1)), (2, .int (a2)), (3, .int (a3)), (4, .int (a4)), (5, .int (a5)), (6, .int (a6))] _
  refine zx_aload_n (pc := 0) G (some (0)) 0 rfl rfl (z_dec T_X11_joined_ok 0 (0, .aload_n 0, 1) rfl) ?_
  refine zx_iload_n (pc := 1) G 2 rfl rfl (z_dec T_X11_joined_ok 1 (1, .iload_n 2, 1) rfl) ?_
  refine zx_callV_rN (pc := 2) (rm := rm_X11_bookAt) G cw_RX11_141 ⟨Nat.le_of_ble_eq_true rfl, Nat.le_of_ble_eq_true rfl⟩ rfl rfl ⟨Nat.le_of_ble_eq_true rfl, Nat.le_of_ble_eq_true rfl⟩ h_o rfl (fun sz => (met_X11_bookAt l D _ kd q μ sz a2 _ hI h_o h)) rfl rfl (Nat.le_of_ble_eq_true rfl) (z_dec T_X11_joined_ok 2 (2, .invokevirtual 141, 3) rfl) (fun r2 μ1 hfr2 hn => ?_)
  clear h
  have h := hn
  clear hn
  refine zx_astore (pc := 5) (lv' := [(7, va_rf (r2)), (0, .ref (0)), (1, .int (a1)), (2, .int (a2)), (3, .int (a3)), (4, .int (a4)), (5, .int (a5)), (6, .int (a6))]) G (r2) (Nat.le_of_ble_eq_true rfl) rfl (z_dec T_X11_joined_ok 3 (5, .astore 7, 2) rfl) ?_
  refine zx_aload_n (pc := 7) G (some (0)) 1 rfl rfl (z_dec T_X11_joined_ok 4 (7, .aload_n 0, 1) rfl) ?_
  refine zx_iload_n (pc := 8) G 2 rfl rfl (z_dec T_X11_joined_ok 5 (8, .iload_n 1, 1) rfl) ?_
  refine zx_aload (pc := 9) G (r2) 0 rfl (z_dec T_X11_joined_ok 6 (9, .aload 7, 2) rfl) ?_
  refine zx_iload (pc := 11) G 7 rfl (z_dec T_X11_joined_ok 7 (11, .iload 6, 2) rfl) ?_
  refine zx_callV_zN (pc := 13) (rm := rm_X11_mayBet) G cw_RX11_173 ⟨Nat.le_of_ble_eq_true rfl, Nat.le_of_ble_eq_true rfl⟩ rfl rfl ⟨Nat.le_of_ble_eq_true rfl, Nat.le_of_ble_eq_true rfl⟩ h_o rfl (fun sz => (met_X11_mayBet l D _ kd q μ1 sz a1 r2 a6 _ hI h_o hfr2 h)) rfl rfl (Nat.le_of_ble_eq_true rfl) (z_dec T_X11_joined_ok 8 (13, .invokevirtual 173, 3) rfl) (fun r4 μ3 hzr4 hn => ?_)
  clear h
  have h := hn
  clear hn
  refine zx_if_eq (pc := 16) (tgt := 54) G rfl (z_dec T_X11_joined_ok 9 (16, .ifCond .eq 38, 3) rfl) (fun hc => ?_) (fun hc => ?_)
  · replace h := z_pos hc h
    refine zx_iconst (pc := 54) (v := -1) G (z_dec T_X11_joined_ok 28 (54, .iconst (-1), 1) rfl) rfl ?_
    exact zx_iretG (pc := 55) G hr hlk (Nat.le_of_ble_eq_true rfl) (Nat.le_of_ble_eq_true rfl) he (z_dec T_X11_joined_ok 29 (55, .ireturn, 1) rfl) ⟨_, rfl, hkx, h⟩
  · replace h := z_neg hc h
    refine zx_aload_n (pc := 19) G (some (0)) 1 rfl rfl (z_dec T_X11_joined_ok 10 (19, .aload_n 0, 1) rfl) ?_
    refine zx_aload (pc := 20) G (r2) 0 rfl (z_dec T_X11_joined_ok 11 (20, .aload 7, 2) rfl) ?_
    refine zx_iconst (pc := 22) (v := 0) G (z_dec T_X11_joined_ok 12 (22, .iconst 0, 1) rfl) rfl ?_
    refine zx_iload_n (pc := 23) G 4 rfl rfl (z_dec T_X11_joined_ok 13 (23, .iload_n 3, 1) rfl) ?_
    refine zx_callV_zN (pc := 24) (rm := rm_X11_mayJoin) G cw_RX11_197 ⟨Nat.le_of_ble_eq_true rfl, Nat.le_of_ble_eq_true rfl⟩ rfl rfl ⟨Nat.le_of_ble_eq_true rfl, Nat.le_of_ble_eq_true rfl⟩ h_o rfl (fun sz => (met_X11_mayJoin l D _ kd q μ3 sz r2 ((0 : Int32)) a3 _ hI h_o hfr2 h)) rfl rfl (Nat.le_of_ble_eq_true rfl) (z_dec T_X11_joined_ok 14 (24, .invokevirtual 197, 3) rfl) (fun r6 μ5 hzr6 hn => ?_)
    clear h
    have h := hn
    clear hn
    refine zx_if_eq (pc := 27) (tgt := 54) G rfl (z_dec T_X11_joined_ok 15 (27, .ifCond .eq 27, 3) rfl) (fun hc => ?_) (fun hc => ?_)
    · replace h := z_pos hc h
      refine zx_iconst (pc := 54) (v := -1) G (z_dec T_X11_joined_ok 28 (54, .iconst (-1), 1) rfl) rfl ?_
      exact zx_iretG (pc := 55) G hr hlk (Nat.le_of_ble_eq_true rfl) (Nat.le_of_ble_eq_true rfl) he (z_dec T_X11_joined_ok 29 (55, .ireturn, 1) rfl) ⟨_, rfl, hkx, h⟩
    · replace h := z_neg hc h
      refine zx_aload_n (pc := 30) G (some (0)) 1 rfl rfl (z_dec T_X11_joined_ok 16 (30, .aload_n 0, 1) rfl) ?_
      refine zx_aload (pc := 31) G (r2) 0 rfl (z_dec T_X11_joined_ok 17 (31, .aload 7, 2) rfl) ?_
      refine zx_iconst (pc := 33) (v := 1) G (z_dec T_X11_joined_ok 18 (33, .iconst 1, 1) rfl) rfl ?_
      refine zx_iload (pc := 34) G 5 rfl (z_dec T_X11_joined_ok 19 (34, .iload 4, 2) rfl) ?_
      refine zx_callV_zN (pc := 36) (rm := rm_X11_mayJoin) G cw_RX11_197 ⟨Nat.le_of_ble_eq_true rfl, Nat.le_of_ble_eq_true rfl⟩ rfl rfl ⟨Nat.le_of_ble_eq_true rfl, Nat.le_of_ble_eq_true rfl⟩ h_o rfl (fun sz => (met_X11_mayJoin l D _ kd q μ5 sz r2 ((1 : Int32)) a4 _ hI h_o hfr2 h)) rfl rfl (Nat.le_of_ble_eq_true rfl) (z_dec T_X11_joined_ok 20 (36, .invokevirtual 197, 3) rfl) (fun r8 μ7 hzr8 hn => ?_)
      clear h
      have h := hn
      clear hn
      refine zx_if_eq (pc := 39) (tgt := 54) G rfl (z_dec T_X11_joined_ok 21 (39, .ifCond .eq 15, 3) rfl) (fun hc => ?_) (fun hc => ?_)
      · replace h := z_pos hc h
        refine zx_iconst (pc := 54) (v := -1) G (z_dec T_X11_joined_ok 28 (54, .iconst (-1), 1) rfl) rfl ?_
        exact zx_iretG (pc := 55) G hr hlk (Nat.le_of_ble_eq_true rfl) (Nat.le_of_ble_eq_true rfl) he (z_dec T_X11_joined_ok 29 (55, .ireturn, 1) rfl) ⟨_, rfl, hkx, h⟩
      · replace h := z_neg hc h
        refine zx_aload_n (pc := 42) G (some (0)) 1 rfl rfl (z_dec T_X11_joined_ok 22 (42, .aload_n 0, 1) rfl) ?_
        refine zx_aload (pc := 43) G (r2) 0 rfl (z_dec T_X11_joined_ok 23 (43, .aload 7, 2) rfl) ?_
        refine zx_iconst (pc := 45) (v := 2) G (z_dec T_X11_joined_ok 24 (45, .iconst 2, 1) rfl) rfl ?_
        refine zx_iload (pc := 46) G 6 rfl (z_dec T_X11_joined_ok 25 (46, .iload 5, 2) rfl) ?_
        refine zx_callV_zN (pc := 48) (rm := rm_X11_mayJoin) G cw_RX11_197 ⟨Nat.le_of_ble_eq_true rfl, Nat.le_of_ble_eq_true rfl⟩ rfl rfl ⟨Nat.le_of_ble_eq_true rfl, Nat.le_of_ble_eq_true rfl⟩ h_o rfl (fun sz => (met_X11_mayJoin l D _ kd q μ7 sz r2 ((2 : Int32)) a5 _ hI h_o hfr2 h)) rfl rfl (Nat.le_of_ble_eq_true rfl) (z_dec T_X11_joined_ok 26 (48, .invokevirtual 197, 3) rfl) (fun r10 μ9 hzr10 hn => ?_)
        clear h
        have h := hn
        clear hn
        refine zx_if_ne (pc := 51) (tgt := 56) G rfl (z_dec T_X11_joined_ok 27 (51, .ifCond .ne 5, 3) rfl) (fun hc => ?_) (fun hc => ?_)
        · replace h := z_neg hc h
          refine zx_iload_n (pc := 56) G 4 rfl rfl (z_dec T_X11_joined_ok 30 (56, .iload_n 3, 1) rfl) ?_
          refine zx_iconst (pc := 57) (v := -1) G (z_dec T_X11_joined_ok 31 (57, .iconst (-1), 1) rfl) rfl ?_
          refine zx_icmp_ne (pc := 58) (tgt := 65) G rfl (z_dec T_X11_joined_ok 32 (58, .if_icmp .ne 7, 3) rfl) (fun hc => ?_) (fun hc => ?_)
          · replace h := z_neg hc h
            refine zx_iconst (pc := 65) (v := 1) G (z_dec T_X11_joined_ok 35 (65, .iconst 1, 1) rfl) rfl ?_
            refine zx_sub (lv' := [(0, .ref (0)), (1, .int (a1)), (2, .int (a2)), (3, .int (a3)), (4, .int (a4)), (5, .int (a5)), (6, .int (a6)), (7, va_rf (r2))]) [1, 2, 3, 4, 5, 6, 7, 0] rfl ?_
            exact L_X11_joined_66_ok G hr hlk he hkx hI h_o hfr2 (Or.inr rfl) h
          · replace h := z_pos hc h
            refine zx_iconst (pc := 61) (v := 0) G (z_dec T_X11_joined_ok 33 (61, .iconst 0, 1) rfl) rfl ?_
            refine zx_goto (pc := 62) (tgt := 66) G rfl (z_dec T_X11_joined_ok 34 (62, .goto 4, 3) rfl) ?_
            refine zx_sub (lv' := [(0, .ref (0)), (1, .int (a1)), (2, .int (a2)), (3, .int (a3)), (4, .int (a4)), (5, .int (a5)), (6, .int (a6)), (7, va_rf (r2))]) [1, 2, 3, 4, 5, 6, 7, 0] rfl ?_
            exact L_X11_joined_66_ok G hr hlk he hkx hI h_o hfr2 (Or.inl rfl) h
        · replace h := z_pos hc h
          refine zx_iconst (pc := 54) (v := -1) G (z_dec T_X11_joined_ok 28 (54, .iconst (-1), 1) rfl) rfl ?_
          exact zx_iretG (pc := 55) G hr hlk (Nat.le_of_ble_eq_true rfl) (Nat.le_of_ble_eq_true rfl) he (z_dec T_X11_joined_ok 29 (55, .ireturn, 1) rfl) ⟨_, rfl, hkx, h⟩
abbrev rm_X12_init : Room := { frames := 1, cells := 41, slots := 5922, locals := 20 }
set_option maxRecDepth 100000 in
set_option maxHeartbeats 4000000 in
theorem B_X12_init_336_ok {p : Program} {l : Launch} {e : Env} {s : State} {m : MethodId} {args : Array Value} {below : List Frame} {meth : Method} {c : Code} {D : va_G} {A : Nat → Prop} {ρ0 ρ : z_A} {kd0 kd : z_K} {q : z_Q} {μ : z_M} {K : z_K → z_Q → z_M → Prop} {P336 : Nat → Int32 → z_K → z_Q → z_M → Prop} {v0 : Nat} {v1 : Int32} (G : z_G p c cX12_init s m args RX12 2 D) (hr : meth.sig.returnType = (Option.none : Option Jvm.ClassFile.FieldType)) (hlk : meth.locks = false) (hin : meth.name = "<init>") (hP336 : ∀ (ρ : z_A) (v0 : Nat) (v1 : Int32) (kd : z_K) (q : z_Q) (μ : z_M), z_ext ρ0 ρ → z_kext kd0 kd → P336 v0 v1 kd q μ → (kd v0 = some (.inl 12)) → z_X p l e rm_X12_init s m args below meth c 2 D A (MQ below (z_Qg D A ρ0 (z_KvG kd0 K)) args s 41 5922 A) 41 5922 ρ kd q μ 336 [(0, .ref (v0)), (1, .int (v1))] []) (he : z_ext ρ0 ρ) (hkx : z_kext kd0 kd) (f_l0 : kd v0 = some (.inl 12)) (h : B_X12_init_336 K P336 v0 v1 kd q μ) : z_X p l e rm_X12_init s m args below meth c 2 D A (MQ below (z_Qg D A ρ0 (z_KvG kd0 K)) args s 41 5922 A) 41 5922 ρ kd q μ 336 [(0, .ref (v0)), (1, .int (v1))] [] := by
    unfold B_X12_init_336 at h
    refine zx_iload_n (pc := 336) G 1 rfl rfl (z_dec T_X12_init_ok 168 (336, .iload_n 1, 1) rfl) ?_
    refine zx_bipush (pc := 337) (v := 96) G (z_dec T_X12_init_ok 169 (337, .bipush 96, 2) rfl) rfl ?_
    refine zx_icmp_ge (pc := 339) (tgt := 355) G rfl (z_dec T_X12_init_ok 170 (339, .if_icmp .ge 16, 3) rfl) (fun hc => ?_) (fun hc => ?_)
    · replace h := z_pos hc h
      exact zx_vretG (pc := 355) G hr hlk (Nat.le_of_ble_eq_true rfl) (Nat.le_of_ble_eq_true rfl) he (z_dec T_X12_init_ok 178 (355, .return_, 1) rfl) ⟨rfl, hkx, h⟩
    · replace h := z_neg hc h
      refine zx_aload_n (pc := 342) G (some (v0)) 0 rfl rfl (z_dec T_X12_init_ok 171 (342, .aload_n 0, 1) rfl) ?_
      obtain ⟨b1, k2, hqb1, hkb1, h⟩ := h
      refine zx_getF (pc := 343) (b := b1) G gf_RX12_42 rfl f_l0 hqb1 (z_dec T_X12_init_ok 172 (343, .getfield 42, 3) rfl) ?_
      refine zx_iload_n (pc := 346) G 1 rfl rfl (z_dec T_X12_init_ok 173 (346, .iload_n 1, 1) rfl) ?_
      refine zx_iconst (pc := 347) (v := -1) G (z_dec T_X12_init_ok 174 (347, .iconst (-1), 1) rfl) rfl ?_
      obtain ⟨c3, h⟩ := h
      refine zx_iast (pc := 348) G hkb1 c3 (z_dec T_X12_init_ok 175 (348, .iastore, 1) rfl) ?_
      refine zx_iinc (pc := 349) (v := v1 + 1) (lv' := [(1, .int (v1 + 1)), (0, .ref (v0))]) G 1 rfl (z_inc (by decide)) (Nat.le_of_ble_eq_true rfl) rfl (z_dec T_X12_init_ok 176 (349, .iinc 1 1, 3) rfl) ?_
      refine zx_goto (pc := 352) (tgt := 336) G rfl (z_dec T_X12_init_ok 177 (352, .goto (-16), 3) rfl) ?_
      refine zx_sub (lv' := [(0, .ref (v0)), (1, .int (v1 + 1))]) [1, 0] rfl ?_
      exact hP336 _ _ _ _ _ _ he hkx h f_l0
set_option maxRecDepth 100000 in
set_option maxHeartbeats 4000000 in
theorem L_X12_init_336_ok {p : Program} {l : Launch} {e : Env} {s : State} {m : MethodId} {args : Array Value} {below : List Frame} {meth : Method} {c : Code} {D : va_G} {A : Nat → Prop} {ρ0 ρ : z_A} {kd0 kd : z_K} {q : z_Q} {μ : z_M} {K : z_K → z_Q → z_M → Prop} {v0 : Nat} {v1 : Int32} (G : z_G p c cX12_init s m args RX12 2 D) (hr : meth.sig.returnType = (Option.none : Option Jvm.ClassFile.FieldType)) (hlk : meth.locks = false) (hin : meth.name = "<init>") (he : z_ext ρ0 ρ) (hkx : z_kext kd0 kd) (f_l0 : kd v0 = some (.inl 12)) (h : L_X12_init_336 K v0 v1 kd q μ) : z_X p l e rm_X12_init s m args below meth c 2 D A (MQ below (z_Qg D A ρ0 (z_KvG kd0 K)) args s 41 5922 A) 41 5922 ρ kd q μ 336 [(0, .ref (v0)), (1, .int (v1))] [] :=
  h (fun (v0 : Nat) (v1 : Int32) (kd : z_K) (q : z_Q) (μ : z_M) => ∀ ρ : z_A, z_ext ρ0 ρ → z_kext kd0 kd → (kd v0 = some (.inl 12)) → z_X p l e rm_X12_init s m args below meth c 2 D A (MQ below (z_Qg D A ρ0 (z_KvG kd0 K)) args s 41 5922 A) 41 5922 ρ kd q μ 336 [(0, .ref (v0)), (1, .int (v1))] []) (fun v0 v1 kd q μ h ρ he hkx f_l0 => B_X12_init_336_ok G hr hlk hin (fun ρ _ _ _ _ _ he hkx h => h ρ he hkx) he hkx f_l0 h) ρ he hkx f_l0
set_option maxRecDepth 100000 in
set_option maxHeartbeats 4000000 in
theorem met_X12_init (l : Launch) (D : va_G) (ρ : z_A) (kd : z_K) (q : z_Q) (μ : z_M) (sz : Nat) (o : Nat) (K : z_K → z_Q → z_M → Prop) (h_o : kd o = some (.inl 12)) (h : C_X12_init kd q o μ K) : Met l yX12_init (z_ws yX12_init cX12_init 2 (Option.none : Option Jvm.ClassFile.FieldType)) rm_X12_init (z_Pc D ρ kd q μ sz [.ref (o)]) (z_Qg D (z_Rg ρ sz) ρ (z_KvG kd K)) rm_X12_init.cells rm_X12_init.slots (z_Rg ρ sz) := by
  refine z_metG (rm := rm_X12_init) (by decide) (Nat.le_of_ble_eq_true rfl) (fun p e s m args below meth c G hr hlk hin => ?_)
  have hin : meth.name = "<init>" := hin
  have he : z_ext ρ ρ := fun _ _ h => h
  have hkx : z_kext kd kd := fun _ _ h => h
  unfold C_X12_init at h
  show z_X _ _ _ _ _ _ _ _ _ _ _ _ _ _ _ _ _ _ _ _ _ [(0, .ref (o))] _
  refine zx_aload_n (pc := 0) G (some (o)) 0 rfl rfl (z_dec T_X12_init_ok 0 (0, .aload_n 0, 1) rfl) ?_
  refine zx_objInit (pc := 1) G wo_RX12_1 h_o ⟨Nat.le_of_ble_eq_true rfl, Nat.le_of_ble_eq_true rfl⟩ (z_dec T_X12_init_ok 1 (1, .invokespecial 1, 3) rfl) ?_
  refine zx_aload_n (pc := 4) G (some (o)) 0 rfl rfl (z_dec T_X12_init_ok 2 (4, .aload_n 0, 1) rfl) ?_
  refine zx_sipush (pc := 5) (v := 200) G (z_dec T_X12_init_ok 3 (5, .sipush 200, 3) rfl) rfl ?_
  obtain ⟨n1, hnn1, hqn1, h⟩ := h
  refine zx_newaE (pc := 8) (N := 200) G n1 1 rfl (by decide) wa_1 hnn1 hqn1 (by simp only [List.map_cons, List.map_nil, List.cons_append, List.nil_append, List.forall_mem_cons]; exact ⟨(z_nref h_o hnn1), (z_nref h_o hnn1), fun v hv => absurd hv List.not_mem_nil⟩) (by decide) (by decide) (by decide) (Nat.le_of_ble_eq_true rfl) (Nat.le_of_ble_eq_true rfl) (z_dec T_X12_init_ok 4 (8, .newarray .byte, 2) rfl) (fun ρ5 kd2 q3 μ4 e9 e10 e11 hρ7 hx6 hk8 => ?_)
  replace h := h kd2 q3 μ4 e9 e10 e11
  have he12 := z_ext_tr he hρ7
  have hk13 := z_kext_tr hkx hx6
  refine zx_putRF (pc := 10) G (some (n1)) gf_RX12_7 cf_12 rfl hin rfl rfl (hx6 _ _ h_o) (z_dec T_X12_init_ok 5 (10, .putfield 7, 3) rfl) ?_
  refine zx_aload_n (pc := 13) G (some (o)) 0 rfl rfl (z_dec T_X12_init_ok 6 (13, .aload_n 0, 1) rfl) ?_
  refine zx_bipush (pc := 14) (v := 24) G (z_dec T_X12_init_ok 7 (14, .bipush 24, 2) rfl) rfl ?_
  obtain ⟨n14, hnn14, hqn14, h⟩ := h
  refine zx_newaE (pc := 16) (N := 24) G n14 0 rfl (by decide) wa_0 hnn14 hqn14 (by simp only [List.map_cons, List.map_nil, List.cons_append, List.nil_append, List.forall_mem_cons]; exact ⟨(z_nref (hx6 _ _ h_o) hnn14), (z_nref (hx6 _ _ h_o) hnn14), fun v hv => absurd hv List.not_mem_nil⟩) (by decide) (by decide) (by decide) (Nat.le_of_ble_eq_true rfl) (Nat.le_of_ble_eq_true rfl) (z_dec T_X12_init_ok 8 (16, .newarray .int, 2) rfl) (fun ρ18 kd15 q16 μ17 e22 e23 e24 hρ20 hx19 hk21 => ?_)
  replace h := h kd15 q16 μ17 e22 e23 e24
  have he25 := z_ext_tr he12 hρ20
  have hk26 := z_kext_tr hk13 hx19
  refine zx_putRF (pc := 18) G (some (n14)) gf_RX12_13 cf_12 rfl hin rfl rfl (hx19 _ _ (hx6 _ _ h_o)) (z_dec T_X12_init_ok 9 (18, .putfield 13, 3) rfl) ?_
  refine zx_aload_n (pc := 21) G (some (o)) 0 rfl rfl (z_dec T_X12_init_ok 10 (21, .aload_n 0, 1) rfl) ?_
  refine zx_bipush (pc := 22) (v := 24) G (z_dec T_X12_init_ok 11 (22, .bipush 24, 2) rfl) rfl ?_
  obtain ⟨n27, hnn27, hqn27, h⟩ := h
  refine zx_newaE (pc := 24) (N := 24) G n27 0 rfl (by decide) wa_0 hnn27 hqn27 (by simp only [List.map_cons, List.map_nil, List.cons_append, List.nil_append, List.forall_mem_cons]; exact ⟨(z_nref (hx19 _ _ (hx6 _ _ h_o)) hnn27), (z_nref (hx19 _ _ (hx6 _ _ h_o)) hnn27), fun v hv => absurd hv List.not_mem_nil⟩) (by decide) (by decide) (by decide) (Nat.le_of_ble_eq_true rfl) (Nat.le_of_ble_eq_true rfl) (z_dec T_X12_init_ok 12 (24, .newarray .int, 2) rfl) (fun ρ31 kd28 q29 μ30 e35 e36 e37 hρ33 hx32 hk34 => ?_)
  replace h := h kd28 q29 μ30 e35 e36 e37
  have he38 := z_ext_tr he25 hρ33
  have hk39 := z_kext_tr hk26 hx32
  refine zx_putRF (pc := 26) G (some (n27)) gf_RX12_17 cf_12 rfl hin rfl rfl (hx32 _ _ (hx19 _ _ (hx6 _ _ h_o))) (z_dec T_X12_init_ok 13 (26, .putfield 17, 3) rfl) ?_
  refine zx_aload_n (pc := 29) G (some (o)) 0 rfl rfl (z_dec T_X12_init_ok 14 (29, .aload_n 0, 1) rfl) ?_
  refine zx_iconst (pc := 30) (v := 3) G (z_dec T_X12_init_ok 15 (30, .iconst 3, 1) rfl) rfl ?_
  obtain ⟨n40, hnn40, hqn40, h⟩ := h
  refine zx_newaE (pc := 31) (N := 3) G n40 0 rfl (by decide) wa_0 hnn40 hqn40 (by simp only [List.map_cons, List.map_nil, List.cons_append, List.nil_append, List.forall_mem_cons]; exact ⟨(z_nref (hx32 _ _ (hx19 _ _ (hx6 _ _ h_o))) hnn40), (z_nref (hx32 _ _ (hx19 _ _ (hx6 _ _ h_o))) hnn40), fun v hv => absurd hv List.not_mem_nil⟩) (by decide) (by decide) (by decide) (Nat.le_of_ble_eq_true rfl) (Nat.le_of_ble_eq_true rfl) (z_dec T_X12_init_ok 16 (31, .newarray .int, 2) rfl) (fun ρ44 kd41 q42 μ43 e48 e49 e50 hρ46 hx45 hk47 => ?_)
  replace h := h kd41 q42 μ43 e48 e49 e50
  have he51 := z_ext_tr he38 hρ46
  have hk52 := z_kext_tr hk39 hx45
  refine zx_putRF (pc := 33) G (some (n40)) gf_RX12_20 cf_12 rfl hin rfl rfl (hx45 _ _ (hx32 _ _ (hx19 _ _ (hx6 _ _ h_o)))) (z_dec T_X12_init_ok 17 (33, .putfield 20, 3) rfl) ?_
  refine zx_aload_n (pc := 36) G (some (o)) 0 rfl rfl (z_dec T_X12_init_ok 18 (36, .aload_n 0, 1) rfl) ?_
  refine zx_iconst (pc := 37) (v := 3) G (z_dec T_X12_init_ok 19 (37, .iconst 3, 1) rfl) rfl ?_
  obtain ⟨n53, hnn53, hqn53, h⟩ := h
  refine zx_newaE (pc := 38) (N := 3) G n53 0 rfl (by decide) wa_0 hnn53 hqn53 (by simp only [List.map_cons, List.map_nil, List.cons_append, List.nil_append, List.forall_mem_cons]; exact ⟨(z_nref (hx45 _ _ (hx32 _ _ (hx19 _ _ (hx6 _ _ h_o)))) hnn53), (z_nref (hx45 _ _ (hx32 _ _ (hx19 _ _ (hx6 _ _ h_o)))) hnn53), fun v hv => absurd hv List.not_mem_nil⟩) (by decide) (by decide) (by decide) (Nat.le_of_ble_eq_true rfl) (Nat.le_of_ble_eq_true rfl) (z_dec T_X12_init_ok 20 (38, .newarray .int, 2) rfl) (fun ρ57 kd54 q55 μ56 e61 e62 e63 hρ59 hx58 hk60 => ?_)
  replace h := h kd54 q55 μ56 e61 e62 e63
  have he64 := z_ext_tr he51 hρ59
  have hk65 := z_kext_tr hk52 hx58
  refine zx_putRF (pc := 40) G (some (n53)) gf_RX12_23 cf_12 rfl hin rfl rfl (hx58 _ _ (hx45 _ _ (hx32 _ _ (hx19 _ _ (hx6 _ _ h_o))))) (z_dec T_X12_init_ok 21 (40, .putfield 23, 3) rfl) ?_
  refine zx_aload_n (pc := 43) G (some (o)) 0 rfl rfl (z_dec T_X12_init_ok 22 (43, .aload_n 0, 1) rfl) ?_
  refine zx_iconst (pc := 44) (v := 3) G (z_dec T_X12_init_ok 23 (44, .iconst 3, 1) rfl) rfl ?_
  obtain ⟨n66, hnn66, hqn66, h⟩ := h
  refine zx_newaE (pc := 45) (N := 3) G n66 2 rfl (by decide) wa_2 hnn66 hqn66 (by simp only [List.map_cons, List.map_nil, List.cons_append, List.nil_append, List.forall_mem_cons]; exact ⟨(z_nref (hx58 _ _ (hx45 _ _ (hx32 _ _ (hx19 _ _ (hx6 _ _ h_o))))) hnn66), (z_nref (hx58 _ _ (hx45 _ _ (hx32 _ _ (hx19 _ _ (hx6 _ _ h_o))))) hnn66), fun v hv => absurd hv List.not_mem_nil⟩) (by decide) (by decide) (by decide) (Nat.le_of_ble_eq_true rfl) (Nat.le_of_ble_eq_true rfl) (z_dec T_X12_init_ok 24 (45, .newarray .boolean, 2) rfl) (fun ρ70 kd67 q68 μ69 e74 e75 e76 hρ72 hx71 hk73 => ?_)
  replace h := h kd67 q68 μ69 e74 e75 e76
  have he77 := z_ext_tr he64 hρ72
  have hk78 := z_kext_tr hk65 hx71
  refine zx_putRF (pc := 47) G (some (n66)) gf_RX12_26 cf_12 rfl hin rfl rfl (hx71 _ _ (hx58 _ _ (hx45 _ _ (hx32 _ _ (hx19 _ _ (hx6 _ _ h_o)))))) (z_dec T_X12_init_ok 25 (47, .putfield 26, 3) rfl) ?_
  refine zx_aload_n (pc := 50) G (some (o)) 0 rfl rfl (z_dec T_X12_init_ok 26 (50, .aload_n 0, 1) rfl) ?_
  refine zx_iconst (pc := 51) (v := 3) G (z_dec T_X12_init_ok 27 (51, .iconst 3, 1) rfl) rfl ?_
  obtain ⟨n79, hnn79, hqn79, h⟩ := h
  refine zx_newaE (pc := 52) (N := 3) G n79 0 rfl (by decide) wa_0 hnn79 hqn79 (by simp only [List.map_cons, List.map_nil, List.cons_append, List.nil_append, List.forall_mem_cons]; exact ⟨(z_nref (hx71 _ _ (hx58 _ _ (hx45 _ _ (hx32 _ _ (hx19 _ _ (hx6 _ _ h_o)))))) hnn79), (z_nref (hx71 _ _ (hx58 _ _ (hx45 _ _ (hx32 _ _ (hx19 _ _ (hx6 _ _ h_o)))))) hnn79), fun v hv => absurd hv List.not_mem_nil⟩) (by decide) (by decide) (by decide) (Nat.le_of_ble_eq_true rfl) (Nat.le_of_ble_eq_true rfl) (z_dec T_X12_init_ok 28 (52, .newarray .int, 2) rfl) (fun ρ83 kd80 q81 μ82 e87 e88 e89 hρ85 hx84 hk86 => ?_)
  replace h := h kd80 q81 μ82 e87 e88 e89
  have he90 := z_ext_tr he77 hρ85
  have hk91 := z_kext_tr hk78 hx84
  refine zx_putRF (pc := 54) G (some (n79)) gf_RX12_30 cf_12 rfl hin rfl rfl (hx84 _ _ (hx71 _ _ (hx58 _ _ (hx45 _ _ (hx32 _ _ (hx19 _ _ (hx6 _ _ h_o))))))) (z_dec T_X12_init_ok 29 (54, .putfield 30, 3) rfl) ?_
  refine zx_aload_n (pc := 57) G (some (o)) 0 rfl rfl (z_dec T_X12_init_ok 30 (57, .aload_n 0, 1) rfl) ?_
  refine zx_iconst (pc := 58) (v := 3) G (z_dec T_X12_init_ok 31 (58, .iconst 3, 1) rfl) rfl ?_
  obtain ⟨n92, hnn92, hqn92, h⟩ := h
  refine zx_newaE (pc := 59) (N := 3) G n92 0 rfl (by decide) wa_0 hnn92 hqn92 (by simp only [List.map_cons, List.map_nil, List.cons_append, List.nil_append, List.forall_mem_cons]; exact ⟨(z_nref (hx84 _ _ (hx71 _ _ (hx58 _ _ (hx45 _ _ (hx32 _ _ (hx19 _ _ (hx6 _ _ h_o))))))) hnn92), (z_nref (hx84 _ _ (hx71 _ _ (hx58 _ _ (hx45 _ _ (hx32 _ _ (hx19 _ _ (hx6 _ _ h_o))))))) hnn92), fun v hv => absurd hv List.not_mem_nil⟩) (by decide) (by decide) (by decide) (Nat.le_of_ble_eq_true rfl) (Nat.le_of_ble_eq_true rfl) (z_dec T_X12_init_ok 32 (59, .newarray .int, 2) rfl) (fun ρ96 kd93 q94 μ95 e100 e101 e102 hρ98 hx97 hk99 => ?_)
  replace h := h kd93 q94 μ95 e100 e101 e102
  have he103 := z_ext_tr he90 hρ98
  have hk104 := z_kext_tr hk91 hx97
  refine zx_putRF (pc := 61) G (some (n92)) gf_RX12_33 cf_12 rfl hin rfl rfl (hx97 _ _ (hx84 _ _ (hx71 _ _ (hx58 _ _ (hx45 _ _ (hx32 _ _ (hx19 _ _ (hx6 _ _ h_o)))))))) (z_dec T_X12_init_ok 33 (61, .putfield 33, 3) rfl) ?_
  refine zx_aload_n (pc := 64) G (some (o)) 0 rfl rfl (z_dec T_X12_init_ok 34 (64, .aload_n 0, 1) rfl) ?_
  refine zx_iconst (pc := 65) (v := 4) G (z_dec T_X12_init_ok 35 (65, .iconst 4, 1) rfl) rfl ?_
  obtain ⟨n105, hnn105, hqn105, h⟩ := h
  refine zx_newaE (pc := 66) (N := 4) G n105 0 rfl (by decide) wa_0 hnn105 hqn105 (by simp only [List.map_cons, List.map_nil, List.cons_append, List.nil_append, List.forall_mem_cons]; exact ⟨(z_nref (hx97 _ _ (hx84 _ _ (hx71 _ _ (hx58 _ _ (hx45 _ _ (hx32 _ _ (hx19 _ _ (hx6 _ _ h_o)))))))) hnn105), (z_nref (hx97 _ _ (hx84 _ _ (hx71 _ _ (hx58 _ _ (hx45 _ _ (hx32 _ _ (hx19 _ _ (hx6 _ _ h_o)))))))) hnn105), fun v hv => absurd hv List.not_mem_nil⟩) (by decide) (by decide) (by decide) (Nat.le_of_ble_eq_true rfl) (Nat.le_of_ble_eq_true rfl) (z_dec T_X12_init_ok 36 (66, .newarray .int, 2) rfl) (fun ρ109 kd106 q107 μ108 e113 e114 e115 hρ111 hx110 hk112 => ?_)
  replace h := h kd106 q107 μ108 e113 e114 e115
  have he116 := z_ext_tr he103 hρ111
  have hk117 := z_kext_tr hk104 hx110
  refine zx_putRF (pc := 68) G (some (n105)) gf_RX12_36 cf_12 rfl hin rfl rfl (hx110 _ _ (hx97 _ _ (hx84 _ _ (hx71 _ _ (hx58 _ _ (hx45 _ _ (hx32 _ _ (hx19 _ _ (hx6 _ _ h_o))))))))) (z_dec T_X12_init_ok 37 (68, .putfield 36, 3) rfl) ?_
  refine zx_aload_n (pc := 71) G (some (o)) 0 rfl rfl (z_dec T_X12_init_ok 38 (71, .aload_n 0, 1) rfl) ?_
  refine zx_iconst (pc := 72) (v := 4) G (z_dec T_X12_init_ok 39 (72, .iconst 4, 1) rfl) rfl ?_
  obtain ⟨n118, hnn118, hqn118, h⟩ := h
  refine zx_newaE (pc := 73) (N := 4) G n118 2 rfl (by decide) wa_2 hnn118 hqn118 (by simp only [List.map_cons, List.map_nil, List.cons_append, List.nil_append, List.forall_mem_cons]; exact ⟨(z_nref (hx110 _ _ (hx97 _ _ (hx84 _ _ (hx71 _ _ (hx58 _ _ (hx45 _ _ (hx32 _ _ (hx19 _ _ (hx6 _ _ h_o))))))))) hnn118), (z_nref (hx110 _ _ (hx97 _ _ (hx84 _ _ (hx71 _ _ (hx58 _ _ (hx45 _ _ (hx32 _ _ (hx19 _ _ (hx6 _ _ h_o))))))))) hnn118), fun v hv => absurd hv List.not_mem_nil⟩) (by decide) (by decide) (by decide) (Nat.le_of_ble_eq_true rfl) (Nat.le_of_ble_eq_true rfl) (z_dec T_X12_init_ok 40 (73, .newarray .boolean, 2) rfl) (fun ρ122 kd119 q120 μ121 e126 e127 e128 hρ124 hx123 hk125 => ?_)
  replace h := h kd119 q120 μ121 e126 e127 e128
  have he129 := z_ext_tr he116 hρ124
  have hk130 := z_kext_tr hk117 hx123
  refine zx_putRF (pc := 75) G (some (n118)) gf_RX12_39 cf_12 rfl hin rfl rfl (hx123 _ _ (hx110 _ _ (hx97 _ _ (hx84 _ _ (hx71 _ _ (hx58 _ _ (hx45 _ _ (hx32 _ _ (hx19 _ _ (hx6 _ _ h_o)))))))))) (z_dec T_X12_init_ok 41 (75, .putfield 39, 3) rfl) ?_
  refine zx_aload_n (pc := 78) G (some (o)) 0 rfl rfl (z_dec T_X12_init_ok 42 (78, .aload_n 0, 1) rfl) ?_
  refine zx_bipush (pc := 79) (v := 96) G (z_dec T_X12_init_ok 43 (79, .bipush 96, 2) rfl) rfl ?_
  obtain ⟨n131, hnn131, hqn131, h⟩ := h
  refine zx_newaE (pc := 81) (N := 96) G n131 0 rfl (by decide) wa_0 hnn131 hqn131 (by simp only [List.map_cons, List.map_nil, List.cons_append, List.nil_append, List.forall_mem_cons]; exact ⟨(z_nref (hx123 _ _ (hx110 _ _ (hx97 _ _ (hx84 _ _ (hx71 _ _ (hx58 _ _ (hx45 _ _ (hx32 _ _ (hx19 _ _ (hx6 _ _ h_o)))))))))) hnn131), (z_nref (hx123 _ _ (hx110 _ _ (hx97 _ _ (hx84 _ _ (hx71 _ _ (hx58 _ _ (hx45 _ _ (hx32 _ _ (hx19 _ _ (hx6 _ _ h_o)))))))))) hnn131), fun v hv => absurd hv List.not_mem_nil⟩) (by decide) (by decide) (by decide) (Nat.le_of_ble_eq_true rfl) (Nat.le_of_ble_eq_true rfl) (z_dec T_X12_init_ok 44 (81, .newarray .int, 2) rfl) (fun ρ135 kd132 q133 μ134 e139 e140 e141 hρ137 hx136 hk138 => ?_)
  replace h := h kd132 q133 μ134 e139 e140 e141
  have he142 := z_ext_tr he129 hρ137
  have hk143 := z_kext_tr hk130 hx136
  refine zx_putRF (pc := 83) G (some (n131)) gf_RX12_42 cf_12 rfl hin rfl rfl (hx136 _ _ (hx123 _ _ (hx110 _ _ (hx97 _ _ (hx84 _ _ (hx71 _ _ (hx58 _ _ (hx45 _ _ (hx32 _ _ (hx19 _ _ (hx6 _ _ h_o))))))))))) (z_dec T_X12_init_ok 45 (83, .putfield 42, 3) rfl) ?_
  refine zx_aload_n (pc := 86) G (some (o)) 0 rfl rfl (z_dec T_X12_init_ok 46 (86, .aload_n 0, 1) rfl) ?_
  refine zx_bipush (pc := 87) (v := 24) G (z_dec T_X12_init_ok 47 (87, .bipush 24, 2) rfl) rfl ?_
  obtain ⟨n144, hnn144, hqn144, h⟩ := h
  refine zx_newaE (pc := 89) (N := 24) G n144 0 rfl (by decide) wa_0 hnn144 hqn144 (by simp only [List.map_cons, List.map_nil, List.cons_append, List.nil_append, List.forall_mem_cons]; exact ⟨(z_nref (hx136 _ _ (hx123 _ _ (hx110 _ _ (hx97 _ _ (hx84 _ _ (hx71 _ _ (hx58 _ _ (hx45 _ _ (hx32 _ _ (hx19 _ _ (hx6 _ _ h_o))))))))))) hnn144), (z_nref (hx136 _ _ (hx123 _ _ (hx110 _ _ (hx97 _ _ (hx84 _ _ (hx71 _ _ (hx58 _ _ (hx45 _ _ (hx32 _ _ (hx19 _ _ (hx6 _ _ h_o))))))))))) hnn144), fun v hv => absurd hv List.not_mem_nil⟩) (by decide) (by decide) (by decide) (Nat.le_of_ble_eq_true rfl) (Nat.le_of_ble_eq_true rfl) (z_dec T_X12_init_ok 48 (89, .newarray .int, 2) rfl) (fun ρ148 kd145 q146 μ147 e152 e153 e154 hρ150 hx149 hk151 => ?_)
  replace h := h kd145 q146 μ147 e152 e153 e154
  have he155 := z_ext_tr he142 hρ150
  have hk156 := z_kext_tr hk143 hx149
  refine zx_putRF (pc := 91) G (some (n144)) gf_RX12_45 cf_12 rfl hin rfl rfl (hx149 _ _ (hx136 _ _ (hx123 _ _ (hx110 _ _ (hx97 _ _ (hx84 _ _ (hx71 _ _ (hx58 _ _ (hx45 _ _ (hx32 _ _ (hx19 _ _ (hx6 _ _ h_o)))))))))))) (z_dec T_X12_init_ok 49 (91, .putfield 45, 3) rfl) ?_
  refine zx_aload_n (pc := 94) G (some (o)) 0 rfl rfl (z_dec T_X12_init_ok 50 (94, .aload_n 0, 1) rfl) ?_
  refine zx_bipush (pc := 95) (v := 96) G (z_dec T_X12_init_ok 51 (95, .bipush 96, 2) rfl) rfl ?_
  obtain ⟨n157, hnn157, hqn157, h⟩ := h
  refine zx_newaE (pc := 97) (N := 96) G n157 0 rfl (by decide) wa_0 hnn157 hqn157 (by simp only [List.map_cons, List.map_nil, List.cons_append, List.nil_append, List.forall_mem_cons]; exact ⟨(z_nref (hx149 _ _ (hx136 _ _ (hx123 _ _ (hx110 _ _ (hx97 _ _ (hx84 _ _ (hx71 _ _ (hx58 _ _ (hx45 _ _ (hx32 _ _ (hx19 _ _ (hx6 _ _ h_o)))))))))))) hnn157), (z_nref (hx149 _ _ (hx136 _ _ (hx123 _ _ (hx110 _ _ (hx97 _ _ (hx84 _ _ (hx71 _ _ (hx58 _ _ (hx45 _ _ (hx32 _ _ (hx19 _ _ (hx6 _ _ h_o)))))))))))) hnn157), fun v hv => absurd hv List.not_mem_nil⟩) (by decide) (by decide) (by decide) (Nat.le_of_ble_eq_true rfl) (Nat.le_of_ble_eq_true rfl) (z_dec T_X12_init_ok 52 (97, .newarray .int, 2) rfl) (fun ρ161 kd158 q159 μ160 e165 e166 e167 hρ163 hx162 hk164 => ?_)
  replace h := h kd158 q159 μ160 e165 e166 e167
  have he168 := z_ext_tr he155 hρ163
  have hk169 := z_kext_tr hk156 hx162
  refine zx_putRF (pc := 99) G (some (n157)) gf_RX12_48 cf_12 rfl hin rfl rfl (hx162 _ _ (hx149 _ _ (hx136 _ _ (hx123 _ _ (hx110 _ _ (hx97 _ _ (hx84 _ _ (hx71 _ _ (hx58 _ _ (hx45 _ _ (hx32 _ _ (hx19 _ _ (hx6 _ _ h_o))))))))))))) (z_dec T_X12_init_ok 53 (99, .putfield 48, 3) rfl) ?_
  refine zx_aload_n (pc := 102) G (some (o)) 0 rfl rfl (z_dec T_X12_init_ok 54 (102, .aload_n 0, 1) rfl) ?_
  refine zx_bipush (pc := 103) (v := 84) G (z_dec T_X12_init_ok 55 (103, .bipush 84, 2) rfl) rfl ?_
  obtain ⟨n170, hnn170, hqn170, h⟩ := h
  refine zx_newaE (pc := 105) (N := 84) G n170 0 rfl (by decide) wa_0 hnn170 hqn170 (by simp only [List.map_cons, List.map_nil, List.cons_append, List.nil_append, List.forall_mem_cons]; exact ⟨(z_nref (hx162 _ _ (hx149 _ _ (hx136 _ _ (hx123 _ _ (hx110 _ _ (hx97 _ _ (hx84 _ _ (hx71 _ _ (hx58 _ _ (hx45 _ _ (hx32 _ _ (hx19 _ _ (hx6 _ _ h_o))))))))))))) hnn170), (z_nref (hx162 _ _ (hx149 _ _ (hx136 _ _ (hx123 _ _ (hx110 _ _ (hx97 _ _ (hx84 _ _ (hx71 _ _ (hx58 _ _ (hx45 _ _ (hx32 _ _ (hx19 _ _ (hx6 _ _ h_o))))))))))))) hnn170), fun v hv => absurd hv List.not_mem_nil⟩) (by decide) (by decide) (by decide) (Nat.le_of_ble_eq_true rfl) (Nat.le_of_ble_eq_true rfl) (z_dec T_X12_init_ok 56 (105, .newarray .int, 2) rfl) (fun ρ174 kd171 q172 μ173 e178 e179 e180 hρ176 hx175 hk177 => ?_)
  replace h := h kd171 q172 μ173 e178 e179 e180
  have he181 := z_ext_tr he168 hρ176
  have hk182 := z_kext_tr hk169 hx175
  refine zx_putRF (pc := 107) G (some (n170)) gf_RX12_51 cf_12 rfl hin rfl rfl (hx175 _ _ (hx162 _ _ (hx149 _ _ (hx136 _ _ (hx123 _ _ (hx110 _ _ (hx97 _ _ (hx84 _ _ (hx71 _ _ (hx58 _ _ (hx45 _ _ (hx32 _ _ (hx19 _ _ (hx6 _ _ h_o)))))))))))))) (z_dec T_X12_init_ok 57 (107, .putfield 51, 3) rfl) ?_
  refine zx_aload_n (pc := 110) G (some (o)) 0 rfl rfl (z_dec T_X12_init_ok 58 (110, .aload_n 0, 1) rfl) ?_
  refine zx_bipush (pc := 111) (v := 84) G (z_dec T_X12_init_ok 59 (111, .bipush 84, 2) rfl) rfl ?_
  obtain ⟨n183, hnn183, hqn183, h⟩ := h
  refine zx_newaE (pc := 113) (N := 84) G n183 0 rfl (by decide) wa_0 hnn183 hqn183 (by simp only [List.map_cons, List.map_nil, List.cons_append, List.nil_append, List.forall_mem_cons]; exact ⟨(z_nref (hx175 _ _ (hx162 _ _ (hx149 _ _ (hx136 _ _ (hx123 _ _ (hx110 _ _ (hx97 _ _ (hx84 _ _ (hx71 _ _ (hx58 _ _ (hx45 _ _ (hx32 _ _ (hx19 _ _ (hx6 _ _ h_o)))))))))))))) hnn183), (z_nref (hx175 _ _ (hx162 _ _ (hx149 _ _ (hx136 _ _ (hx123 _ _ (hx110 _ _ (hx97 _ _ (hx84 _ _ (hx71 _ _ (hx58 _ _ (hx45 _ _ (hx32 _ _ (hx19 _ _ (hx6 _ _ h_o)))))))))))))) hnn183), fun v hv => absurd hv List.not_mem_nil⟩) (by decide) (by decide) (by decide) (Nat.le_of_ble_eq_true rfl) (Nat.le_of_ble_eq_true rfl) (z_dec T_X12_init_ok 60 (113, .newarray .int, 2) rfl) (fun ρ187 kd184 q185 μ186 e191 e192 e193 hρ189 hx188 hk190 => ?_)
  replace h := h kd184 q185 μ186 e191 e192 e193
  have he194 := z_ext_tr he181 hρ189
  have hk195 := z_kext_tr hk182 hx188
  refine zx_putRF (pc := 115) G (some (n183)) gf_RX12_54 cf_12 rfl hin rfl rfl (hx188 _ _ (hx175 _ _ (hx162 _ _ (hx149 _ _ (hx136 _ _ (hx123 _ _ (hx110 _ _ (hx97 _ _ (hx84 _ _ (hx71 _ _ (hx58 _ _ (hx45 _ _ (hx32 _ _ (hx19 _ _ (hx6 _ _ h_o))))))))))))))) (z_dec T_X12_init_ok 61 (115, .putfield 54, 3) rfl) ?_
  refine zx_aload_n (pc := 118) G (some (o)) 0 rfl rfl (z_dec T_X12_init_ok 62 (118, .aload_n 0, 1) rfl) ?_
  refine zx_bipush (pc := 119) (v := 84) G (z_dec T_X12_init_ok 63 (119, .bipush 84, 2) rfl) rfl ?_
  obtain ⟨n196, hnn196, hqn196, h⟩ := h
  refine zx_newaE (pc := 121) (N := 84) G n196 0 rfl (by decide) wa_0 hnn196 hqn196 (by simp only [List.map_cons, List.map_nil, List.cons_append, List.nil_append, List.forall_mem_cons]; exact ⟨(z_nref (hx188 _ _ (hx175 _ _ (hx162 _ _ (hx149 _ _ (hx136 _ _ (hx123 _ _ (hx110 _ _ (hx97 _ _ (hx84 _ _ (hx71 _ _ (hx58 _ _ (hx45 _ _ (hx32 _ _ (hx19 _ _ (hx6 _ _ h_o))))))))))))))) hnn196), (z_nref (hx188 _ _ (hx175 _ _ (hx162 _ _ (hx149 _ _ (hx136 _ _ (hx123 _ _ (hx110 _ _ (hx97 _ _ (hx84 _ _ (hx71 _ _ (hx58 _ _ (hx45 _ _ (hx32 _ _ (hx19 _ _ (hx6 _ _ h_o))))))))))))))) hnn196), fun v hv => absurd hv List.not_mem_nil⟩) (by decide) (by decide) (by decide) (Nat.le_of_ble_eq_true rfl) (Nat.le_of_ble_eq_true rfl) (z_dec T_X12_init_ok 64 (121, .newarray .int, 2) rfl) (fun ρ200 kd197 q198 μ199 e204 e205 e206 hρ202 hx201 hk203 => ?_)
  replace h := h kd197 q198 μ199 e204 e205 e206
  have he207 := z_ext_tr he194 hρ202
  have hk208 := z_kext_tr hk195 hx201
  refine zx_putRF (pc := 123) G (some (n196)) gf_RX12_57 cf_12 rfl hin rfl rfl (hx201 _ _ (hx188 _ _ (hx175 _ _ (hx162 _ _ (hx149 _ _ (hx136 _ _ (hx123 _ _ (hx110 _ _ (hx97 _ _ (hx84 _ _ (hx71 _ _ (hx58 _ _ (hx45 _ _ (hx32 _ _ (hx19 _ _ (hx6 _ _ h_o)))))))))))))))) (z_dec T_X12_init_ok 65 (123, .putfield 57, 3) rfl) ?_
  refine zx_aload_n (pc := 126) G (some (o)) 0 rfl rfl (z_dec T_X12_init_ok 66 (126, .aload_n 0, 1) rfl) ?_
  refine zx_bipush (pc := 127) (v := 84) G (z_dec T_X12_init_ok 67 (127, .bipush 84, 2) rfl) rfl ?_
  obtain ⟨n209, hnn209, hqn209, h⟩ := h
  refine zx_newaE (pc := 129) (N := 84) G n209 0 rfl (by decide) wa_0 hnn209 hqn209 (by simp only [List.map_cons, List.map_nil, List.cons_append, List.nil_append, List.forall_mem_cons]; exact ⟨(z_nref (hx201 _ _ (hx188 _ _ (hx175 _ _ (hx162 _ _ (hx149 _ _ (hx136 _ _ (hx123 _ _ (hx110 _ _ (hx97 _ _ (hx84 _ _ (hx71 _ _ (hx58 _ _ (hx45 _ _ (hx32 _ _ (hx19 _ _ (hx6 _ _ h_o)))))))))))))))) hnn209), (z_nref (hx201 _ _ (hx188 _ _ (hx175 _ _ (hx162 _ _ (hx149 _ _ (hx136 _ _ (hx123 _ _ (hx110 _ _ (hx97 _ _ (hx84 _ _ (hx71 _ _ (hx58 _ _ (hx45 _ _ (hx32 _ _ (hx19 _ _ (hx6 _ _ h_o)))))))))))))))) hnn209), fun v hv => absurd hv List.not_mem_nil⟩) (by decide) (by decide) (by decide) (Nat.le_of_ble_eq_true rfl) (Nat.le_of_ble_eq_true rfl) (z_dec T_X12_init_ok 68 (129, .newarray .int, 2) rfl) (fun ρ213 kd210 q211 μ212 e217 e218 e219 hρ215 hx214 hk216 => ?_)
  replace h := h kd210 q211 μ212 e217 e218 e219
  have he220 := z_ext_tr he207 hρ215
  have hk221 := z_kext_tr hk208 hx214
  refine zx_putRF (pc := 131) G (some (n209)) gf_RX12_60 cf_12 rfl hin rfl rfl (hx214 _ _ (hx201 _ _ (hx188 _ _ (hx175 _ _ (hx162 _ _ (hx149 _ _ (hx136 _ _ (hx123 _ _ (hx110 _ _ (hx97 _ _ (hx84 _ _ (hx71 _ _ (hx58 _ _ (hx45 _ _ (hx32 _ _ (hx19 _ _ (hx6 _ _ h_o))))))))))))))))) (z_dec T_X12_init_ok 69 (131, .putfield 60, 3) rfl) ?_
  refine zx_aload_n (pc := 134) G (some (o)) 0 rfl rfl (z_dec T_X12_init_ok 70 (134, .aload_n 0, 1) rfl) ?_
  refine zx_bipush (pc := 135) (v := 84) G (z_dec T_X12_init_ok 71 (135, .bipush 84, 2) rfl) rfl ?_
  obtain ⟨n222, hnn222, hqn222, h⟩ := h
  refine zx_newaE (pc := 137) (N := 84) G n222 0 rfl (by decide) wa_0 hnn222 hqn222 (by simp only [List.map_cons, List.map_nil, List.cons_append, List.nil_append, List.forall_mem_cons]; exact ⟨(z_nref (hx214 _ _ (hx201 _ _ (hx188 _ _ (hx175 _ _ (hx162 _ _ (hx149 _ _ (hx136 _ _ (hx123 _ _ (hx110 _ _ (hx97 _ _ (hx84 _ _ (hx71 _ _ (hx58 _ _ (hx45 _ _ (hx32 _ _ (hx19 _ _ (hx6 _ _ h_o))))))))))))))))) hnn222), (z_nref (hx214 _ _ (hx201 _ _ (hx188 _ _ (hx175 _ _ (hx162 _ _ (hx149 _ _ (hx136 _ _ (hx123 _ _ (hx110 _ _ (hx97 _ _ (hx84 _ _ (hx71 _ _ (hx58 _ _ (hx45 _ _ (hx32 _ _ (hx19 _ _ (hx6 _ _ h_o))))))))))))))))) hnn222), fun v hv => absurd hv List.not_mem_nil⟩) (by decide) (by decide) (by decide) (Nat.le_of_ble_eq_true rfl) (Nat.le_of_ble_eq_true rfl) (z_dec T_X12_init_ok 72 (137, .newarray .int, 2) rfl) (fun ρ226 kd223 q224 μ225 e230 e231 e232 hρ228 hx227 hk229 => ?_)
  replace h := h kd223 q224 μ225 e230 e231 e232
  have he233 := z_ext_tr he220 hρ228
  have hk234 := z_kext_tr hk221 hx227
  refine zx_putRF (pc := 139) G (some (n222)) gf_RX12_63 cf_12 rfl hin rfl rfl (hx227 _ _ (hx214 _ _ (hx201 _ _ (hx188 _ _ (hx175 _ _ (hx162 _ _ (hx149 _ _ (hx136 _ _ (hx123 _ _ (hx110 _ _ (hx97 _ _ (hx84 _ _ (hx71 _ _ (hx58 _ _ (hx45 _ _ (hx32 _ _ (hx19 _ _ (hx6 _ _ h_o)))))))))))))))))) (z_dec T_X12_init_ok 73 (139, .putfield 63, 3) rfl) ?_
  refine zx_aload_n (pc := 142) G (some (o)) 0 rfl rfl (z_dec T_X12_init_ok 74 (142, .aload_n 0, 1) rfl) ?_
  refine zx_sipush (pc := 143) (v := 252) G (z_dec T_X12_init_ok 75 (143, .sipush 252, 3) rfl) rfl ?_
  obtain ⟨n235, hnn235, hqn235, h⟩ := h
  refine zx_newaE (pc := 146) (N := 252) G n235 0 rfl (by decide) wa_0 hnn235 hqn235 (by simp only [List.map_cons, List.map_nil, List.cons_append, List.nil_append, List.forall_mem_cons]; exact ⟨(z_nref (hx227 _ _ (hx214 _ _ (hx201 _ _ (hx188 _ _ (hx175 _ _ (hx162 _ _ (hx149 _ _ (hx136 _ _ (hx123 _ _ (hx110 _ _ (hx97 _ _ (hx84 _ _ (hx71 _ _ (hx58 _ _ (hx45 _ _ (hx32 _ _ (hx19 _ _ (hx6 _ _ h_o)))))))))))))))))) hnn235), (z_nref (hx227 _ _ (hx214 _ _ (hx201 _ _ (hx188 _ _ (hx175 _ _ (hx162 _ _ (hx149 _ _ (hx136 _ _ (hx123 _ _ (hx110 _ _ (hx97 _ _ (hx84 _ _ (hx71 _ _ (hx58 _ _ (hx45 _ _ (hx32 _ _ (hx19 _ _ (hx6 _ _ h_o)))))))))))))))))) hnn235), fun v hv => absurd hv List.not_mem_nil⟩) (by decide) (by decide) (by decide) (Nat.le_of_ble_eq_true rfl) (Nat.le_of_ble_eq_true rfl) (z_dec T_X12_init_ok 76 (146, .newarray .int, 2) rfl) (fun ρ239 kd236 q237 μ238 e243 e244 e245 hρ241 hx240 hk242 => ?_)
  replace h := h kd236 q237 μ238 e243 e244 e245
  have he246 := z_ext_tr he233 hρ241
  have hk247 := z_kext_tr hk234 hx240
  refine zx_putRF (pc := 148) G (some (n235)) gf_RX12_66 cf_12 rfl hin rfl rfl (hx240 _ _ (hx227 _ _ (hx214 _ _ (hx201 _ _ (hx188 _ _ (hx175 _ _ (hx162 _ _ (hx149 _ _ (hx136 _ _ (hx123 _ _ (hx110 _ _ (hx97 _ _ (hx84 _ _ (hx71 _ _ (hx58 _ _ (hx45 _ _ (hx32 _ _ (hx19 _ _ (hx6 _ _ h_o))))))))))))))))))) (z_dec T_X12_init_ok 77 (148, .putfield 66, 3) rfl) ?_
  refine zx_aload_n (pc := 151) G (some (o)) 0 rfl rfl (z_dec T_X12_init_ok 78 (151, .aload_n 0, 1) rfl) ?_
  refine zx_sipush (pc := 152) (v := 252) G (z_dec T_X12_init_ok 79 (152, .sipush 252, 3) rfl) rfl ?_
  obtain ⟨n248, hnn248, hqn248, h⟩ := h
  refine zx_newaE (pc := 155) (N := 252) G n248 0 rfl (by decide) wa_0 hnn248 hqn248 (by simp only [List.map_cons, List.map_nil, List.cons_append, List.nil_append, List.forall_mem_cons]; exact ⟨(z_nref (hx240 _ _ (hx227 _ _ (hx214 _ _ (hx201 _ _ (hx188 _ _ (hx175 _ _ (hx162 _ _ (hx149 _ _ (hx136 _ _ (hx123 _ _ (hx110 _ _ (hx97 _ _ (hx84 _ _ (hx71 _ _ (hx58 _ _ (hx45 _ _ (hx32 _ _ (hx19 _ _ (hx6 _ _ h_o))))))))))))))))))) hnn248), (z_nref (hx240 _ _ (hx227 _ _ (hx214 _ _ (hx201 _ _ (hx188 _ _ (hx175 _ _ (hx162 _ _ (hx149 _ _ (hx136 _ _ (hx123 _ _ (hx110 _ _ (hx97 _ _ (hx84 _ _ (hx71 _ _ (hx58 _ _ (hx45 _ _ (hx32 _ _ (hx19 _ _ (hx6 _ _ h_o))))))))))))))))))) hnn248), fun v hv => absurd hv List.not_mem_nil⟩) (by decide) (by decide) (by decide) (Nat.le_of_ble_eq_true rfl) (Nat.le_of_ble_eq_true rfl) (z_dec T_X12_init_ok 80 (155, .newarray .int, 2) rfl) (fun ρ252 kd249 q250 μ251 e256 e257 e258 hρ254 hx253 hk255 => ?_)
  replace h := h kd249 q250 μ251 e256 e257 e258
  have he259 := z_ext_tr he246 hρ254
  have hk260 := z_kext_tr hk247 hx253
  refine zx_putRF (pc := 157) G (some (n248)) gf_RX12_69 cf_12 rfl hin rfl rfl (hx253 _ _ (hx240 _ _ (hx227 _ _ (hx214 _ _ (hx201 _ _ (hx188 _ _ (hx175 _ _ (hx162 _ _ (hx149 _ _ (hx136 _ _ (hx123 _ _ (hx110 _ _ (hx97 _ _ (hx84 _ _ (hx71 _ _ (hx58 _ _ (hx45 _ _ (hx32 _ _ (hx19 _ _ (hx6 _ _ h_o)))))))))))))))))))) (z_dec T_X12_init_ok 81 (157, .putfield 69, 3) rfl) ?_
  refine zx_aload_n (pc := 160) G (some (o)) 0 rfl rfl (z_dec T_X12_init_ok 82 (160, .aload_n 0, 1) rfl) ?_
  refine zx_bipush (pc := 161) (v := 84) G (z_dec T_X12_init_ok 83 (161, .bipush 84, 2) rfl) rfl ?_
  obtain ⟨n261, hnn261, hqn261, h⟩ := h
  refine zx_newaE (pc := 163) (N := 84) G n261 2 rfl (by decide) wa_2 hnn261 hqn261 (by simp only [List.map_cons, List.map_nil, List.cons_append, List.nil_append, List.forall_mem_cons]; exact ⟨(z_nref (hx253 _ _ (hx240 _ _ (hx227 _ _ (hx214 _ _ (hx201 _ _ (hx188 _ _ (hx175 _ _ (hx162 _ _ (hx149 _ _ (hx136 _ _ (hx123 _ _ (hx110 _ _ (hx97 _ _ (hx84 _ _ (hx71 _ _ (hx58 _ _ (hx45 _ _ (hx32 _ _ (hx19 _ _ (hx6 _ _ h_o)))))))))))))))))))) hnn261), (z_nref (hx253 _ _ (hx240 _ _ (hx227 _ _ (hx214 _ _ (hx201 _ _ (hx188 _ _ (hx175 _ _ (hx162 _ _ (hx149 _ _ (hx136 _ _ (hx123 _ _ (hx110 _ _ (hx97 _ _ (hx84 _ _ (hx71 _ _ (hx58 _ _ (hx45 _ _ (hx32 _ _ (hx19 _ _ (hx6 _ _ h_o)))))))))))))))))))) hnn261), fun v hv => absurd hv List.not_mem_nil⟩) (by decide) (by decide) (by decide) (Nat.le_of_ble_eq_true rfl) (Nat.le_of_ble_eq_true rfl) (z_dec T_X12_init_ok 84 (163, .newarray .boolean, 2) rfl) (fun ρ265 kd262 q263 μ264 e269 e270 e271 hρ267 hx266 hk268 => ?_)
  replace h := h kd262 q263 μ264 e269 e270 e271
  have he272 := z_ext_tr he259 hρ267
  have hk273 := z_kext_tr hk260 hx266
  refine zx_putRF (pc := 165) G (some (n261)) gf_RX12_72 cf_12 rfl hin rfl rfl (hx266 _ _ (hx253 _ _ (hx240 _ _ (hx227 _ _ (hx214 _ _ (hx201 _ _ (hx188 _ _ (hx175 _ _ (hx162 _ _ (hx149 _ _ (hx136 _ _ (hx123 _ _ (hx110 _ _ (hx97 _ _ (hx84 _ _ (hx71 _ _ (hx58 _ _ (hx45 _ _ (hx32 _ _ (hx19 _ _ (hx6 _ _ h_o))))))))))))))))))))) (z_dec T_X12_init_ok 85 (165, .putfield 72, 3) rfl) ?_
  refine zx_aload_n (pc := 168) G (some (o)) 0 rfl rfl (z_dec T_X12_init_ok 86 (168, .aload_n 0, 1) rfl) ?_
  refine zx_bipush (pc := 169) (v := 84) G (z_dec T_X12_init_ok 87 (169, .bipush 84, 2) rfl) rfl ?_
  obtain ⟨n274, hnn274, hqn274, h⟩ := h
  refine zx_newaE (pc := 171) (N := 84) G n274 2 rfl (by decide) wa_2 hnn274 hqn274 (by simp only [List.map_cons, List.map_nil, List.cons_append, List.nil_append, List.forall_mem_cons]; exact ⟨(z_nref (hx266 _ _ (hx253 _ _ (hx240 _ _ (hx227 _ _ (hx214 _ _ (hx201 _ _ (hx188 _ _ (hx175 _ _ (hx162 _ _ (hx149 _ _ (hx136 _ _ (hx123 _ _ (hx110 _ _ (hx97 _ _ (hx84 _ _ (hx71 _ _ (hx58 _ _ (hx45 _ _ (hx32 _ _ (hx19 _ _ (hx6 _ _ h_o))))))))))))))))))))) hnn274), (z_nref (hx266 _ _ (hx253 _ _ (hx240 _ _ (hx227 _ _ (hx214 _ _ (hx201 _ _ (hx188 _ _ (hx175 _ _ (hx162 _ _ (hx149 _ _ (hx136 _ _ (hx123 _ _ (hx110 _ _ (hx97 _ _ (hx84 _ _ (hx71 _ _ (hx58 _ _ (hx45 _ _ (hx32 _ _ (hx19 _ _ (hx6 _ _ h_o))))))))))))))))))))) hnn274), fun v hv => absurd hv List.not_mem_nil⟩) (by decide) (by decide) (by decide) (Nat.le_of_ble_eq_true rfl) (Nat.le_of_ble_eq_true rfl) (z_dec T_X12_init_ok 88 (171, .newarray .boolean, 2) rfl) (fun ρ278 kd275 q276 μ277 e282 e283 e284 hρ280 hx279 hk281 => ?_)
  replace h := h kd275 q276 μ277 e282 e283 e284
  have he285 := z_ext_tr he272 hρ280
  have hk286 := z_kext_tr hk273 hx279
  refine zx_putRF (pc := 173) G (some (n274)) gf_RX12_75 cf_12 rfl hin rfl rfl (hx279 _ _ (hx266 _ _ (hx253 _ _ (hx240 _ _ (hx227 _ _ (hx214 _ _ (hx201 _ _ (hx188 _ _ (hx175 _ _ (hx162 _ _ (hx149 _ _ (hx136 _ _ (hx123 _ _ (hx110 _ _ (hx97 _ _ (hx84 _ _ (hx71 _ _ (hx58 _ _ (hx45 _ _ (hx32 _ _ (hx19 _ _ (hx6 _ _ h_o)))))))))))))))))))))) (z_dec T_X12_init_ok 89 (173, .putfield 75, 3) rfl) ?_
  refine zx_aload_n (pc := 176) G (some (o)) 0 rfl rfl (z_dec T_X12_init_ok 90 (176, .aload_n 0, 1) rfl) ?_
  refine zx_iconst (pc := 177) (v := 3) G (z_dec T_X12_init_ok 91 (177, .iconst 3, 1) rfl) rfl ?_
  obtain ⟨n287, hnn287, hqn287, h⟩ := h
  refine zx_newaE (pc := 178) (N := 3) G n287 0 rfl (by decide) wa_0 hnn287 hqn287 (by simp only [List.map_cons, List.map_nil, List.cons_append, List.nil_append, List.forall_mem_cons]; exact ⟨(z_nref (hx279 _ _ (hx266 _ _ (hx253 _ _ (hx240 _ _ (hx227 _ _ (hx214 _ _ (hx201 _ _ (hx188 _ _ (hx175 _ _ (hx162 _ _ (hx149 _ _ (hx136 _ _ (hx123 _ _ (hx110 _ _ (hx97 _ _ (hx84 _ _ (hx71 _ _ (hx58 _ _ (hx45 _ _ (hx32 _ _ (hx19 _ _ (hx6 _ _ h_o)))))))))))))))))))))) hnn287), (z_nref (hx279 _ _ (hx266 _ _ (hx253 _ _ (hx240 _ _ (hx227 _ _ (hx214 _ _ (hx201 _ _ (hx188 _ _ (hx175 _ _ (hx162 _ _ (hx149 _ _ (hx136 _ _ (hx123 _ _ (hx110 _ _ (hx97 _ _ (hx84 _ _ (hx71 _ _ (hx58 _ _ (hx45 _ _ (hx32 _ _ (hx19 _ _ (hx6 _ _ h_o)))))))))))))))))))))) hnn287), fun v hv => absurd hv List.not_mem_nil⟩) (by decide) (by decide) (by decide) (Nat.le_of_ble_eq_true rfl) (Nat.le_of_ble_eq_true rfl) (z_dec T_X12_init_ok 92 (178, .newarray .int, 2) rfl) (fun ρ291 kd288 q289 μ290 e295 e296 e297 hρ293 hx292 hk294 => ?_)
  replace h := h kd288 q289 μ290 e295 e296 e297
  have he298 := z_ext_tr he285 hρ293
  have hk299 := z_kext_tr hk286 hx292
  refine zx_putRF (pc := 180) G (some (n287)) gf_RX12_78 cf_12 rfl hin rfl rfl (hx292 _ _ (hx279 _ _ (hx266 _ _ (hx253 _ _ (hx240 _ _ (hx227 _ _ (hx214 _ _ (hx201 _ _ (hx188 _ _ (hx175 _ _ (hx162 _ _ (hx149 _ _ (hx136 _ _ (hx123 _ _ (hx110 _ _ (hx97 _ _ (hx84 _ _ (hx71 _ _ (hx58 _ _ (hx45 _ _ (hx32 _ _ (hx19 _ _ (hx6 _ _ h_o))))))))))))))))))))))) (z_dec T_X12_init_ok 93 (180, .putfield 78, 3) rfl) ?_
  refine zx_aload_n (pc := 183) G (some (o)) 0 rfl rfl (z_dec T_X12_init_ok 94 (183, .aload_n 0, 1) rfl) ?_
  refine zx_iconst (pc := 184) (v := 4) G (z_dec T_X12_init_ok 95 (184, .iconst 4, 1) rfl) rfl ?_
  obtain ⟨n300, hnn300, hqn300, h⟩ := h
  refine zx_newaE (pc := 185) (N := 4) G n300 0 rfl (by decide) wa_0 hnn300 hqn300 (by simp only [List.map_cons, List.map_nil, List.cons_append, List.nil_append, List.forall_mem_cons]; exact ⟨(z_nref (hx292 _ _ (hx279 _ _ (hx266 _ _ (hx253 _ _ (hx240 _ _ (hx227 _ _ (hx214 _ _ (hx201 _ _ (hx188 _ _ (hx175 _ _ (hx162 _ _ (hx149 _ _ (hx136 _ _ (hx123 _ _ (hx110 _ _ (hx97 _ _ (hx84 _ _ (hx71 _ _ (hx58 _ _ (hx45 _ _ (hx32 _ _ (hx19 _ _ (hx6 _ _ h_o))))))))))))))))))))))) hnn300), (z_nref (hx292 _ _ (hx279 _ _ (hx266 _ _ (hx253 _ _ (hx240 _ _ (hx227 _ _ (hx214 _ _ (hx201 _ _ (hx188 _ _ (hx175 _ _ (hx162 _ _ (hx149 _ _ (hx136 _ _ (hx123 _ _ (hx110 _ _ (hx97 _ _ (hx84 _ _ (hx71 _ _ (hx58 _ _ (hx45 _ _ (hx32 _ _ (hx19 _ _ (hx6 _ _ h_o))))))))))))))))))))))) hnn300), fun v hv => absurd hv List.not_mem_nil⟩) (by decide) (by decide) (by decide) (Nat.le_of_ble_eq_true rfl) (Nat.le_of_ble_eq_true rfl) (z_dec T_X12_init_ok 96 (185, .newarray .int, 2) rfl) (fun ρ304 kd301 q302 μ303 e308 e309 e310 hρ306 hx305 hk307 => ?_)
  replace h := h kd301 q302 μ303 e308 e309 e310
  have he311 := z_ext_tr he298 hρ306
  have hk312 := z_kext_tr hk299 hx305
  refine zx_putRF (pc := 187) G (some (n300)) gf_RX12_81 cf_12 rfl hin rfl rfl (hx305 _ _ (hx292 _ _ (hx279 _ _ (hx266 _ _ (hx253 _ _ (hx240 _ _ (hx227 _ _ (hx214 _ _ (hx201 _ _ (hx188 _ _ (hx175 _ _ (hx162 _ _ (hx149 _ _ (hx136 _ _ (hx123 _ _ (hx110 _ _ (hx97 _ _ (hx84 _ _ (hx71 _ _ (hx58 _ _ (hx45 _ _ (hx32 _ _ (hx19 _ _ (hx6 _ _ h_o)))))))))))))))))))))))) (z_dec T_X12_init_ok 97 (187, .putfield 81, 3) rfl) ?_
  refine zx_aload_n (pc := 190) G (some (o)) 0 rfl rfl (z_dec T_X12_init_ok 98 (190, .aload_n 0, 1) rfl) ?_
  refine zx_bipush (pc := 191) (v := 48) G (z_dec T_X12_init_ok 99 (191, .bipush 48, 2) rfl) rfl ?_
  obtain ⟨n313, hnn313, hqn313, h⟩ := h
  refine zx_newaE (pc := 193) (N := 48) G n313 0 rfl (by decide) wa_0 hnn313 hqn313 (by simp only [List.map_cons, List.map_nil, List.cons_append, List.nil_append, List.forall_mem_cons]; exact ⟨(z_nref (hx305 _ _ (hx292 _ _ (hx279 _ _ (hx266 _ _ (hx253 _ _ (hx240 _ _ (hx227 _ _ (hx214 _ _ (hx201 _ _ (hx188 _ _ (hx175 _ _ (hx162 _ _ (hx149 _ _ (hx136 _ _ (hx123 _ _ (hx110 _ _ (hx97 _ _ (hx84 _ _ (hx71 _ _ (hx58 _ _ (hx45 _ _ (hx32 _ _ (hx19 _ _ (hx6 _ _ h_o)))))))))))))))))))))))) hnn313), (z_nref (hx305 _ _ (hx292 _ _ (hx279 _ _ (hx266 _ _ (hx253 _ _ (hx240 _ _ (hx227 _ _ (hx214 _ _ (hx201 _ _ (hx188 _ _ (hx175 _ _ (hx162 _ _ (hx149 _ _ (hx136 _ _ (hx123 _ _ (hx110 _ _ (hx97 _ _ (hx84 _ _ (hx71 _ _ (hx58 _ _ (hx45 _ _ (hx32 _ _ (hx19 _ _ (hx6 _ _ h_o)))))))))))))))))))))))) hnn313), fun v hv => absurd hv List.not_mem_nil⟩) (by decide) (by decide) (by decide) (Nat.le_of_ble_eq_true rfl) (Nat.le_of_ble_eq_true rfl) (z_dec T_X12_init_ok 100 (193, .newarray .int, 2) rfl) (fun ρ317 kd314 q315 μ316 e321 e322 e323 hρ319 hx318 hk320 => ?_)
  replace h := h kd314 q315 μ316 e321 e322 e323
  have he324 := z_ext_tr he311 hρ319
  have hk325 := z_kext_tr hk312 hx318
  refine zx_putRF (pc := 195) G (some (n313)) gf_RX12_84 cf_12 rfl hin rfl rfl (hx318 _ _ (hx305 _ _ (hx292 _ _ (hx279 _ _ (hx266 _ _ (hx253 _ _ (hx240 _ _ (hx227 _ _ (hx214 _ _ (hx201 _ _ (hx188 _ _ (hx175 _ _ (hx162 _ _ (hx149 _ _ (hx136 _ _ (hx123 _ _ (hx110 _ _ (hx97 _ _ (hx84 _ _ (hx71 _ _ (hx58 _ _ (hx45 _ _ (hx32 _ _ (hx19 _ _ (hx6 _ _ h_o))))))))))))))))))))))))) (z_dec T_X12_init_ok 101 (195, .putfield 84, 3) rfl) ?_
  refine zx_aload_n (pc := 198) G (some (o)) 0 rfl rfl (z_dec T_X12_init_ok 102 (198, .aload_n 0, 1) rfl) ?_
  refine zx_bipush (pc := 199) (v := 48) G (z_dec T_X12_init_ok 103 (199, .bipush 48, 2) rfl) rfl ?_
  obtain ⟨n326, hnn326, hqn326, h⟩ := h
  refine zx_newaE (pc := 201) (N := 48) G n326 0 rfl (by decide) wa_0 hnn326 hqn326 (by simp only [List.map_cons, List.map_nil, List.cons_append, List.nil_append, List.forall_mem_cons]; exact ⟨(z_nref (hx318 _ _ (hx305 _ _ (hx292 _ _ (hx279 _ _ (hx266 _ _ (hx253 _ _ (hx240 _ _ (hx227 _ _ (hx214 _ _ (hx201 _ _ (hx188 _ _ (hx175 _ _ (hx162 _ _ (hx149 _ _ (hx136 _ _ (hx123 _ _ (hx110 _ _ (hx97 _ _ (hx84 _ _ (hx71 _ _ (hx58 _ _ (hx45 _ _ (hx32 _ _ (hx19 _ _ (hx6 _ _ h_o))))))))))))))))))))))))) hnn326), (z_nref (hx318 _ _ (hx305 _ _ (hx292 _ _ (hx279 _ _ (hx266 _ _ (hx253 _ _ (hx240 _ _ (hx227 _ _ (hx214 _ _ (hx201 _ _ (hx188 _ _ (hx175 _ _ (hx162 _ _ (hx149 _ _ (hx136 _ _ (hx123 _ _ (hx110 _ _ (hx97 _ _ (hx84 _ _ (hx71 _ _ (hx58 _ _ (hx45 _ _ (hx32 _ _ (hx19 _ _ (hx6 _ _ h_o))))))))))))))))))))))))) hnn326), fun v hv => absurd hv List.not_mem_nil⟩) (by decide) (by decide) (by decide) (Nat.le_of_ble_eq_true rfl) (Nat.le_of_ble_eq_true rfl) (z_dec T_X12_init_ok 104 (201, .newarray .int, 2) rfl) (fun ρ330 kd327 q328 μ329 e334 e335 e336 hρ332 hx331 hk333 => ?_)
  replace h := h kd327 q328 μ329 e334 e335 e336
  have he337 := z_ext_tr he324 hρ332
  have hk338 := z_kext_tr hk325 hx331
  refine zx_putRF (pc := 203) G (some (n326)) gf_RX12_87 cf_12 rfl hin rfl rfl (hx331 _ _ (hx318 _ _ (hx305 _ _ (hx292 _ _ (hx279 _ _ (hx266 _ _ (hx253 _ _ (hx240 _ _ (hx227 _ _ (hx214 _ _ (hx201 _ _ (hx188 _ _ (hx175 _ _ (hx162 _ _ (hx149 _ _ (hx136 _ _ (hx123 _ _ (hx110 _ _ (hx97 _ _ (hx84 _ _ (hx71 _ _ (hx58 _ _ (hx45 _ _ (hx32 _ _ (hx19 _ _ (hx6 _ _ h_o)))))))))))))))))))))))))) (z_dec T_X12_init_ok 105 (203, .putfield 87, 3) rfl) ?_
  refine zx_aload_n (pc := 206) G (some (o)) 0 rfl rfl (z_dec T_X12_init_ok 106 (206, .aload_n 0, 1) rfl) ?_
  refine zx_bipush (pc := 207) (v := 48) G (z_dec T_X12_init_ok 107 (207, .bipush 48, 2) rfl) rfl ?_
  obtain ⟨n339, hnn339, hqn339, h⟩ := h
  refine zx_newaE (pc := 209) (N := 48) G n339 0 rfl (by decide) wa_0 hnn339 hqn339 (by simp only [List.map_cons, List.map_nil, List.cons_append, List.nil_append, List.forall_mem_cons]; exact ⟨(z_nref (hx331 _ _ (hx318 _ _ (hx305 _ _ (hx292 _ _ (hx279 _ _ (hx266 _ _ (hx253 _ _ (hx240 _ _ (hx227 _ _ (hx214 _ _ (hx201 _ _ (hx188 _ _ (hx175 _ _ (hx162 _ _ (hx149 _ _ (hx136 _ _ (hx123 _ _ (hx110 _ _ (hx97 _ _ (hx84 _ _ (hx71 _ _ (hx58 _ _ (hx45 _ _ (hx32 _ _ (hx19 _ _ (hx6 _ _ h_o)))))))))))))))))))))))))) hnn339), (z_nref (hx331 _ _ (hx318 _ _ (hx305 _ _ (hx292 _ _ (hx279 _ _ (hx266 _ _ (hx253 _ _ (hx240 _ _ (hx227 _ _ (hx214 _ _ (hx201 _ _ (hx188 _ _ (hx175 _ _ (hx162 _ _ (hx149 _ _ (hx136 _ _ (hx123 _ _ (hx110 _ _ (hx97 _ _ (hx84 _ _ (hx71 _ _ (hx58 _ _ (hx45 _ _ (hx32 _ _ (hx19 _ _ (hx6 _ _ h_o)))))))))))))))))))))))))) hnn339), fun v hv => absurd hv List.not_mem_nil⟩) (by decide) (by decide) (by decide) (Nat.le_of_ble_eq_true rfl) (Nat.le_of_ble_eq_true rfl) (z_dec T_X12_init_ok 108 (209, .newarray .int, 2) rfl) (fun ρ343 kd340 q341 μ342 e347 e348 e349 hρ345 hx344 hk346 => ?_)
  replace h := h kd340 q341 μ342 e347 e348 e349
  have he350 := z_ext_tr he337 hρ345
  have hk351 := z_kext_tr hk338 hx344
  refine zx_putRF (pc := 211) G (some (n339)) gf_RX12_90 cf_12 rfl hin rfl rfl (hx344 _ _ (hx331 _ _ (hx318 _ _ (hx305 _ _ (hx292 _ _ (hx279 _ _ (hx266 _ _ (hx253 _ _ (hx240 _ _ (hx227 _ _ (hx214 _ _ (hx201 _ _ (hx188 _ _ (hx175 _ _ (hx162 _ _ (hx149 _ _ (hx136 _ _ (hx123 _ _ (hx110 _ _ (hx97 _ _ (hx84 _ _ (hx71 _ _ (hx58 _ _ (hx45 _ _ (hx32 _ _ (hx19 _ _ (hx6 _ _ h_o))))))))))))))))))))))))))) (z_dec T_X12_init_ok 109 (211, .putfield 90, 3) rfl) ?_
  refine zx_aload_n (pc := 214) G (some (o)) 0 rfl rfl (z_dec T_X12_init_ok 110 (214, .aload_n 0, 1) rfl) ?_
  refine zx_bipush (pc := 215) (v := 48) G (z_dec T_X12_init_ok 111 (215, .bipush 48, 2) rfl) rfl ?_
  obtain ⟨n352, hnn352, hqn352, h⟩ := h
  refine zx_newaE (pc := 217) (N := 48) G n352 0 rfl (by decide) wa_0 hnn352 hqn352 (by simp only [List.map_cons, List.map_nil, List.cons_append, List.nil_append, List.forall_mem_cons]; exact ⟨(z_nref (hx344 _ _ (hx331 _ _ (hx318 _ _ (hx305 _ _ (hx292 _ _ (hx279 _ _ (hx266 _ _ (hx253 _ _ (hx240 _ _ (hx227 _ _ (hx214 _ _ (hx201 _ _ (hx188 _ _ (hx175 _ _ (hx162 _ _ (hx149 _ _ (hx136 _ _ (hx123 _ _ (hx110 _ _ (hx97 _ _ (hx84 _ _ (hx71 _ _ (hx58 _ _ (hx45 _ _ (hx32 _ _ (hx19 _ _ (hx6 _ _ h_o))))))))))))))))))))))))))) hnn352), (z_nref (hx344 _ _ (hx331 _ _ (hx318 _ _ (hx305 _ _ (hx292 _ _ (hx279 _ _ (hx266 _ _ (hx253 _ _ (hx240 _ _ (hx227 _ _ (hx214 _ _ (hx201 _ _ (hx188 _ _ (hx175 _ _ (hx162 _ _ (hx149 _ _ (hx136 _ _ (hx123 _ _ (hx110 _ _ (hx97 _ _ (hx84 _ _ (hx71 _ _ (hx58 _ _ (hx45 _ _ (hx32 _ _ (hx19 _ _ (hx6 _ _ h_o))))))))))))))))))))))))))) hnn352), fun v hv => absurd hv List.not_mem_nil⟩) (by decide) (by decide) (by decide) (Nat.le_of_ble_eq_true rfl) (Nat.le_of_ble_eq_true rfl) (z_dec T_X12_init_ok 112 (217, .newarray .int, 2) rfl) (fun ρ356 kd353 q354 μ355 e360 e361 e362 hρ358 hx357 hk359 => ?_)
  replace h := h kd353 q354 μ355 e360 e361 e362
  have he363 := z_ext_tr he350 hρ358
  have hk364 := z_kext_tr hk351 hx357
  refine zx_putRF (pc := 219) G (some (n352)) gf_RX12_93 cf_12 rfl hin rfl rfl (hx357 _ _ (hx344 _ _ (hx331 _ _ (hx318 _ _ (hx305 _ _ (hx292 _ _ (hx279 _ _ (hx266 _ _ (hx253 _ _ (hx240 _ _ (hx227 _ _ (hx214 _ _ (hx201 _ _ (hx188 _ _ (hx175 _ _ (hx162 _ _ (hx149 _ _ (hx136 _ _ (hx123 _ _ (hx110 _ _ (hx97 _ _ (hx84 _ _ (hx71 _ _ (hx58 _ _ (hx45 _ _ (hx32 _ _ (hx19 _ _ (hx6 _ _ h_o)))))))))))))))))))))))))))) (z_dec T_X12_init_ok 113 (219, .putfield 93, 3) rfl) ?_
  refine zx_aload_n (pc := 222) G (some (o)) 0 rfl rfl (z_dec T_X12_init_ok 114 (222, .aload_n 0, 1) rfl) ?_
  refine zx_sipush (pc := 223) (v := 640) G (z_dec T_X12_init_ok 115 (223, .sipush 640, 3) rfl) rfl ?_
  obtain ⟨n365, hnn365, hqn365, h⟩ := h
  refine zx_newaE (pc := 226) (N := 640) G n365 0 rfl (by decide) wa_0 hnn365 hqn365 (by simp only [List.map_cons, List.map_nil, List.cons_append, List.nil_append, List.forall_mem_cons]; exact ⟨(z_nref (hx357 _ _ (hx344 _ _ (hx331 _ _ (hx318 _ _ (hx305 _ _ (hx292 _ _ (hx279 _ _ (hx266 _ _ (hx253 _ _ (hx240 _ _ (hx227 _ _ (hx214 _ _ (hx201 _ _ (hx188 _ _ (hx175 _ _ (hx162 _ _ (hx149 _ _ (hx136 _ _ (hx123 _ _ (hx110 _ _ (hx97 _ _ (hx84 _ _ (hx71 _ _ (hx58 _ _ (hx45 _ _ (hx32 _ _ (hx19 _ _ (hx6 _ _ h_o)))))))))))))))))))))))))))) hnn365), (z_nref (hx357 _ _ (hx344 _ _ (hx331 _ _ (hx318 _ _ (hx305 _ _ (hx292 _ _ (hx279 _ _ (hx266 _ _ (hx253 _ _ (hx240 _ _ (hx227 _ _ (hx214 _ _ (hx201 _ _ (hx188 _ _ (hx175 _ _ (hx162 _ _ (hx149 _ _ (hx136 _ _ (hx123 _ _ (hx110 _ _ (hx97 _ _ (hx84 _ _ (hx71 _ _ (hx58 _ _ (hx45 _ _ (hx32 _ _ (hx19 _ _ (hx6 _ _ h_o)))))))))))))))))))))))))))) hnn365), fun v hv => absurd hv List.not_mem_nil⟩) (by decide) (by decide) (by decide) (Nat.le_of_ble_eq_true rfl) (Nat.le_of_ble_eq_true rfl) (z_dec T_X12_init_ok 116 (226, .newarray .int, 2) rfl) (fun ρ369 kd366 q367 μ368 e373 e374 e375 hρ371 hx370 hk372 => ?_)
  replace h := h kd366 q367 μ368 e373 e374 e375
  have he376 := z_ext_tr he363 hρ371
  have hk377 := z_kext_tr hk364 hx370
  refine zx_putRF (pc := 228) G (some (n365)) gf_RX12_96 cf_12 rfl hin rfl rfl (hx370 _ _ (hx357 _ _ (hx344 _ _ (hx331 _ _ (hx318 _ _ (hx305 _ _ (hx292 _ _ (hx279 _ _ (hx266 _ _ (hx253 _ _ (hx240 _ _ (hx227 _ _ (hx214 _ _ (hx201 _ _ (hx188 _ _ (hx175 _ _ (hx162 _ _ (hx149 _ _ (hx136 _ _ (hx123 _ _ (hx110 _ _ (hx97 _ _ (hx84 _ _ (hx71 _ _ (hx58 _ _ (hx45 _ _ (hx32 _ _ (hx19 _ _ (hx6 _ _ h_o))))))))))))))))))))))))))))) (z_dec T_X12_init_ok 117 (228, .putfield 96, 3) rfl) ?_
  refine zx_aload_n (pc := 231) G (some (o)) 0 rfl rfl (z_dec T_X12_init_ok 118 (231, .aload_n 0, 1) rfl) ?_
  refine zx_sipush (pc := 232) (v := 640) G (z_dec T_X12_init_ok 119 (232, .sipush 640, 3) rfl) rfl ?_
  obtain ⟨n378, hnn378, hqn378, h⟩ := h
  refine zx_newaE (pc := 235) (N := 640) G n378 0 rfl (by decide) wa_0 hnn378 hqn378 (by simp only [List.map_cons, List.map_nil, List.cons_append, List.nil_append, List.forall_mem_cons]; exact ⟨(z_nref (hx370 _ _ (hx357 _ _ (hx344 _ _ (hx331 _ _ (hx318 _ _ (hx305 _ _ (hx292 _ _ (hx279 _ _ (hx266 _ _ (hx253 _ _ (hx240 _ _ (hx227 _ _ (hx214 _ _ (hx201 _ _ (hx188 _ _ (hx175 _ _ (hx162 _ _ (hx149 _ _ (hx136 _ _ (hx123 _ _ (hx110 _ _ (hx97 _ _ (hx84 _ _ (hx71 _ _ (hx58 _ _ (hx45 _ _ (hx32 _ _ (hx19 _ _ (hx6 _ _ h_o))))))))))))))))))))))))))))) hnn378), (z_nref (hx370 _ _ (hx357 _ _ (hx344 _ _ (hx331 _ _ (hx318 _ _ (hx305 _ _ (hx292 _ _ (hx279 _ _ (hx266 _ _ (hx253 _ _ (hx240 _ _ (hx227 _ _ (hx214 _ _ (hx201 _ _ (hx188 _ _ (hx175 _ _ (hx162 _ _ (hx149 _ _ (hx136 _ _ (hx123 _ _ (hx110 _ _ (hx97 _ _ (hx84 _ _ (hx71 _ _ (hx58 _ _ (hx45 _ _ (hx32 _ _ (hx19 _ _ (hx6 _ _ h_o))))))))))))))))))))))))))))) hnn378), fun v hv => absurd hv List.not_mem_nil⟩) (by decide) (by decide) (by decide) (Nat.le_of_ble_eq_true rfl) (Nat.le_of_ble_eq_true rfl) (z_dec T_X12_init_ok 120 (235, .newarray .int, 2) rfl) (fun ρ382 kd379 q380 μ381 e386 e387 e388 hρ384 hx383 hk385 => ?_)
  replace h := h kd379 q380 μ381 e386 e387 e388
  have he389 := z_ext_tr he376 hρ384
  have hk390 := z_kext_tr hk377 hx383
  refine zx_putRF (pc := 237) G (some (n378)) gf_RX12_99 cf_12 rfl hin rfl rfl (hx383 _ _ (hx370 _ _ (hx357 _ _ (hx344 _ _ (hx331 _ _ (hx318 _ _ (hx305 _ _ (hx292 _ _ (hx279 _ _ (hx266 _ _ (hx253 _ _ (hx240 _ _ (hx227 _ _ (hx214 _ _ (hx201 _ _ (hx188 _ _ (hx175 _ _ (hx162 _ _ (hx149 _ _ (hx136 _ _ (hx123 _ _ (hx110 _ _ (hx97 _ _ (hx84 _ _ (hx71 _ _ (hx58 _ _ (hx45 _ _ (hx32 _ _ (hx19 _ _ (hx6 _ _ h_o)))))))))))))))))))))))))))))) (z_dec T_X12_init_ok 121 (237, .putfield 99, 3) rfl) ?_
  refine zx_aload_n (pc := 240) G (some (o)) 0 rfl rfl (z_dec T_X12_init_ok 122 (240, .aload_n 0, 1) rfl) ?_
  refine zx_bipush (pc := 241) (v := 12) G (z_dec T_X12_init_ok 123 (241, .bipush 12, 2) rfl) rfl ?_
  obtain ⟨n391, hnn391, hqn391, h⟩ := h
  refine zx_newaE (pc := 243) (N := 12) G n391 0 rfl (by decide) wa_0 hnn391 hqn391 (by simp only [List.map_cons, List.map_nil, List.cons_append, List.nil_append, List.forall_mem_cons]; exact ⟨(z_nref (hx383 _ _ (hx370 _ _ (hx357 _ _ (hx344 _ _ (hx331 _ _ (hx318 _ _ (hx305 _ _ (hx292 _ _ (hx279 _ _ (hx266 _ _ (hx253 _ _ (hx240 _ _ (hx227 _ _ (hx214 _ _ (hx201 _ _ (hx188 _ _ (hx175 _ _ (hx162 _ _ (hx149 _ _ (hx136 _ _ (hx123 _ _ (hx110 _ _ (hx97 _ _ (hx84 _ _ (hx71 _ _ (hx58 _ _ (hx45 _ _ (hx32 _ _ (hx19 _ _ (hx6 _ _ h_o)))))))))))))))))))))))))))))) hnn391), (z_nref (hx383 _ _ (hx370 _ _ (hx357 _ _ (hx344 _ _ (hx331 _ _ (hx318 _ _ (hx305 _ _ (hx292 _ _ (hx279 _ _ (hx266 _ _ (hx253 _ _ (hx240 _ _ (hx227 _ _ (hx214 _ _ (hx201 _ _ (hx188 _ _ (hx175 _ _ (hx162 _ _ (hx149 _ _ (hx136 _ _ (hx123 _ _ (hx110 _ _ (hx97 _ _ (hx84 _ _ (hx71 _ _ (hx58 _ _ (hx45 _ _ (hx32 _ _ (hx19 _ _ (hx6 _ _ h_o)))))))))))))))))))))))))))))) hnn391), fun v hv => absurd hv List.not_mem_nil⟩) (by decide) (by decide) (by decide) (Nat.le_of_ble_eq_true rfl) (Nat.le_of_ble_eq_true rfl) (z_dec T_X12_init_ok 124 (243, .newarray .int, 2) rfl) (fun ρ395 kd392 q393 μ394 e399 e400 e401 hρ397 hx396 hk398 => ?_)
  replace h := h kd392 q393 μ394 e399 e400 e401
  have he402 := z_ext_tr he389 hρ397
  have hk403 := z_kext_tr hk390 hx396
  refine zx_putRF (pc := 245) G (some (n391)) gf_RX12_102 cf_12 rfl hin rfl rfl (hx396 _ _ (hx383 _ _ (hx370 _ _ (hx357 _ _ (hx344 _ _ (hx331 _ _ (hx318 _ _ (hx305 _ _ (hx292 _ _ (hx279 _ _ (hx266 _ _ (hx253 _ _ (hx240 _ _ (hx227 _ _ (hx214 _ _ (hx201 _ _ (hx188 _ _ (hx175 _ _ (hx162 _ _ (hx149 _ _ (hx136 _ _ (hx123 _ _ (hx110 _ _ (hx97 _ _ (hx84 _ _ (hx71 _ _ (hx58 _ _ (hx45 _ _ (hx32 _ _ (hx19 _ _ (hx6 _ _ h_o))))))))))))))))))))))))))))))) (z_dec T_X12_init_ok 125 (245, .putfield 102, 3) rfl) ?_
  refine zx_aload_n (pc := 248) G (some (o)) 0 rfl rfl (z_dec T_X12_init_ok 126 (248, .aload_n 0, 1) rfl) ?_
  refine zx_bipush (pc := 249) (v := 12) G (z_dec T_X12_init_ok 127 (249, .bipush 12, 2) rfl) rfl ?_
  obtain ⟨n404, hnn404, hqn404, h⟩ := h
  refine zx_newaE (pc := 251) (N := 12) G n404 0 rfl (by decide) wa_0 hnn404 hqn404 (by simp only [List.map_cons, List.map_nil, List.cons_append, List.nil_append, List.forall_mem_cons]; exact ⟨(z_nref (hx396 _ _ (hx383 _ _ (hx370 _ _ (hx357 _ _ (hx344 _ _ (hx331 _ _ (hx318 _ _ (hx305 _ _ (hx292 _ _ (hx279 _ _ (hx266 _ _ (hx253 _ _ (hx240 _ _ (hx227 _ _ (hx214 _ _ (hx201 _ _ (hx188 _ _ (hx175 _ _ (hx162 _ _ (hx149 _ _ (hx136 _ _ (hx123 _ _ (hx110 _ _ (hx97 _ _ (hx84 _ _ (hx71 _ _ (hx58 _ _ (hx45 _ _ (hx32 _ _ (hx19 _ _ (hx6 _ _ h_o))))))))))))))))))))))))))))))) hnn404), (z_nref (hx396 _ _ (hx383 _ _ (hx370 _ _ (hx357 _ _ (hx344 _ _ (hx331 _ _ (hx318 _ _ (hx305 _ _ (hx292 _ _ (hx279 _ _ (hx266 _ _ (hx253 _ _ (hx240 _ _ (hx227 _ _ (hx214 _ _ (hx201 _ _ (hx188 _ _ (hx175 _ _ (hx162 _ _ (hx149 _ _ (hx136 _ _ (hx123 _ _ (hx110 _ _ (hx97 _ _ (hx84 _ _ (hx71 _ _ (hx58 _ _ (hx45 _ _ (hx32 _ _ (hx19 _ _ (hx6 _ _ h_o))))))))))))))))))))))))))))))) hnn404), fun v hv => absurd hv List.not_mem_nil⟩) (by decide) (by decide) (by decide) (Nat.le_of_ble_eq_true rfl) (Nat.le_of_ble_eq_true rfl) (z_dec T_X12_init_ok 128 (251, .newarray .int, 2) rfl) (fun ρ408 kd405 q406 μ407 e412 e413 e414 hρ410 hx409 hk411 => ?_)
  replace h := h kd405 q406 μ407 e412 e413 e414
  have he415 := z_ext_tr he402 hρ410
  have hk416 := z_kext_tr hk403 hx409
  refine zx_putRF (pc := 253) G (some (n404)) gf_RX12_105 cf_12 rfl hin rfl rfl (hx409 _ _ (hx396 _ _ (hx383 _ _ (hx370 _ _ (hx357 _ _ (hx344 _ _ (hx331 _ _ (hx318 _ _ (hx305 _ _ (hx292 _ _ (hx279 _ _ (hx266 _ _ (hx253 _ _ (hx240 _ _ (hx227 _ _ (hx214 _ _ (hx201 _ _ (hx188 _ _ (hx175 _ _ (hx162 _ _ (hx149 _ _ (hx136 _ _ (hx123 _ _ (hx110 _ _ (hx97 _ _ (hx84 _ _ (hx71 _ _ (hx58 _ _ (hx45 _ _ (hx32 _ _ (hx19 _ _ (hx6 _ _ h_o)))))))))))))))))))))))))))))))) (z_dec T_X12_init_ok 129 (253, .putfield 105, 3) rfl) ?_
  refine zx_aload_n (pc := 256) G (some (o)) 0 rfl rfl (z_dec T_X12_init_ok 130 (256, .aload_n 0, 1) rfl) ?_
  refine zx_bipush (pc := 257) (v := 12) G (z_dec T_X12_init_ok 131 (257, .bipush 12, 2) rfl) rfl ?_
  obtain ⟨n417, hnn417, hqn417, h⟩ := h
  refine zx_newaE (pc := 259) (N := 12) G n417 0 rfl (by decide) wa_0 hnn417 hqn417 (by simp only [List.map_cons, List.map_nil, List.cons_append, List.nil_append, List.forall_mem_cons]; exact ⟨(z_nref (hx409 _ _ (hx396 _ _ (hx383 _ _ (hx370 _ _ (hx357 _ _ (hx344 _ _ (hx331 _ _ (hx318 _ _ (hx305 _ _ (hx292 _ _ (hx279 _ _ (hx266 _ _ (hx253 _ _ (hx240 _ _ (hx227 _ _ (hx214 _ _ (hx201 _ _ (hx188 _ _ (hx175 _ _ (hx162 _ _ (hx149 _ _ (hx136 _ _ (hx123 _ _ (hx110 _ _ (hx97 _ _ (hx84 _ _ (hx71 _ _ (hx58 _ _ (hx45 _ _ (hx32 _ _ (hx19 _ _ (hx6 _ _ h_o)))))))))))))))))))))))))))))))) hnn417), (z_nref (hx409 _ _ (hx396 _ _ (hx383 _ _ (hx370 _ _ (hx357 _ _ (hx344 _ _ (hx331 _ _ (hx318 _ _ (hx305 _ _ (hx292 _ _ (hx279 _ _ (hx266 _ _ (hx253 _ _ (hx240 _ _ (hx227 _ _ (hx214 _ _ (hx201 _ _ (hx188 _ _ (hx175 _ _ (hx162 _ _ (hx149 _ _ (hx136 _ _ (hx123 _ _ (hx110 _ _ (hx97 _ _ (hx84 _ _ (hx71 _ _ (hx58 _ _ (hx45 _ _ (hx32 _ _ (hx19 _ _ (hx6 _ _ h_o)))))))))))))))))))))))))))))))) hnn417), fun v hv => absurd hv List.not_mem_nil⟩) (by decide) (by decide) (by decide) (Nat.le_of_ble_eq_true rfl) (Nat.le_of_ble_eq_true rfl) (z_dec T_X12_init_ok 132 (259, .newarray .int, 2) rfl) (fun ρ421 kd418 q419 μ420 e425 e426 e427 hρ423 hx422 hk424 => ?_)
  replace h := h kd418 q419 μ420 e425 e426 e427
  have he428 := z_ext_tr he415 hρ423
  have hk429 := z_kext_tr hk416 hx422
  refine zx_putRF (pc := 261) G (some (n417)) gf_RX12_108 cf_12 rfl hin rfl rfl (hx422 _ _ (hx409 _ _ (hx396 _ _ (hx383 _ _ (hx370 _ _ (hx357 _ _ (hx344 _ _ (hx331 _ _ (hx318 _ _ (hx305 _ _ (hx292 _ _ (hx279 _ _ (hx266 _ _ (hx253 _ _ (hx240 _ _ (hx227 _ _ (hx214 _ _ (hx201 _ _ (hx188 _ _ (hx175 _ _ (hx162 _ _ (hx149 _ _ (hx136 _ _ (hx123 _ _ (hx110 _ _ (hx97 _ _ (hx84 _ _ (hx71 _ _ (hx58 _ _ (hx45 _ _ (hx32 _ _ (hx19 _ _ (hx6 _ _ h_o))))))))))))))))))))))))))))))))) (z_dec T_X12_init_ok 133 (261, .putfield 108, 3) rfl) ?_
  refine zx_aload_n (pc := 264) G (some (o)) 0 rfl rfl (z_dec T_X12_init_ok 134 (264, .aload_n 0, 1) rfl) ?_
  refine zx_bipush (pc := 265) (v := 12) G (z_dec T_X12_init_ok 135 (265, .bipush 12, 2) rfl) rfl ?_
  obtain ⟨n430, hnn430, hqn430, h⟩ := h
  refine zx_newaE (pc := 267) (N := 12) G n430 0 rfl (by decide) wa_0 hnn430 hqn430 (by simp only [List.map_cons, List.map_nil, List.cons_append, List.nil_append, List.forall_mem_cons]; exact ⟨(z_nref (hx422 _ _ (hx409 _ _ (hx396 _ _ (hx383 _ _ (hx370 _ _ (hx357 _ _ (hx344 _ _ (hx331 _ _ (hx318 _ _ (hx305 _ _ (hx292 _ _ (hx279 _ _ (hx266 _ _ (hx253 _ _ (hx240 _ _ (hx227 _ _ (hx214 _ _ (hx201 _ _ (hx188 _ _ (hx175 _ _ (hx162 _ _ (hx149 _ _ (hx136 _ _ (hx123 _ _ (hx110 _ _ (hx97 _ _ (hx84 _ _ (hx71 _ _ (hx58 _ _ (hx45 _ _ (hx32 _ _ (hx19 _ _ (hx6 _ _ h_o))))))))))))))))))))))))))))))))) hnn430), (z_nref (hx422 _ _ (hx409 _ _ (hx396 _ _ (hx383 _ _ (hx370 _ _ (hx357 _ _ (hx344 _ _ (hx331 _ _ (hx318 _ _ (hx305 _ _ (hx292 _ _ (hx279 _ _ (hx266 _ _ (hx253 _ _ (hx240 _ _ (hx227 _ _ (hx214 _ _ (hx201 _ _ (hx188 _ _ (hx175 _ _ (hx162 _ _ (hx149 _ _ (hx136 _ _ (hx123 _ _ (hx110 _ _ (hx97 _ _ (hx84 _ _ (hx71 _ _ (hx58 _ _ (hx45 _ _ (hx32 _ _ (hx19 _ _ (hx6 _ _ h_o))))))))))))))))))))))))))))))))) hnn430), fun v hv => absurd hv List.not_mem_nil⟩) (by decide) (by decide) (by decide) (Nat.le_of_ble_eq_true rfl) (Nat.le_of_ble_eq_true rfl) (z_dec T_X12_init_ok 136 (267, .newarray .int, 2) rfl) (fun ρ434 kd431 q432 μ433 e438 e439 e440 hρ436 hx435 hk437 => ?_)
  replace h := h kd431 q432 μ433 e438 e439 e440
  have he441 := z_ext_tr he428 hρ436
  have hk442 := z_kext_tr hk429 hx435
  refine zx_putRF (pc := 269) G (some (n430)) gf_RX12_111 cf_12 rfl hin rfl rfl (hx435 _ _ (hx422 _ _ (hx409 _ _ (hx396 _ _ (hx383 _ _ (hx370 _ _ (hx357 _ _ (hx344 _ _ (hx331 _ _ (hx318 _ _ (hx305 _ _ (hx292 _ _ (hx279 _ _ (hx266 _ _ (hx253 _ _ (hx240 _ _ (hx227 _ _ (hx214 _ _ (hx201 _ _ (hx188 _ _ (hx175 _ _ (hx162 _ _ (hx149 _ _ (hx136 _ _ (hx123 _ _ (hx110 _ _ (hx97 _ _ (hx84 _ _ (hx71 _ _ (hx58 _ _ (hx45 _ _ (hx32 _ _ (hx19 _ _ (hx6 _ _ h_o)))))))))))))))))))))))))))))))))) (z_dec T_X12_init_ok 137 (269, .putfield 111, 3) rfl) ?_
  refine zx_aload_n (pc := 272) G (some (o)) 0 rfl rfl (z_dec T_X12_init_ok 138 (272, .aload_n 0, 1) rfl) ?_
  refine zx_sipush (pc := 273) (v := 160) G (z_dec T_X12_init_ok 139 (273, .sipush 160, 3) rfl) rfl ?_
  obtain ⟨n443, hnn443, hqn443, h⟩ := h
  refine zx_newaE (pc := 276) (N := 160) G n443 0 rfl (by decide) wa_0 hnn443 hqn443 (by simp only [List.map_cons, List.map_nil, List.cons_append, List.nil_append, List.forall_mem_cons]; exact ⟨(z_nref (hx435 _ _ (hx422 _ _ (hx409 _ _ (hx396 _ _ (hx383 _ _ (hx370 _ _ (hx357 _ _ (hx344 _ _ (hx331 _ _ (hx318 _ _ (hx305 _ _ (hx292 _ _ (hx279 _ _ (hx266 _ _ (hx253 _ _ (hx240 _ _ (hx227 _ _ (hx214 _ _ (hx201 _ _ (hx188 _ _ (hx175 _ _ (hx162 _ _ (hx149 _ _ (hx136 _ _ (hx123 _ _ (hx110 _ _ (hx97 _ _ (hx84 _ _ (hx71 _ _ (hx58 _ _ (hx45 _ _ (hx32 _ _ (hx19 _ _ (hx6 _ _ h_o)))))))))))))))))))))))))))))))))) hnn443), (z_nref (hx435 _ _ (hx422 _ _ (hx409 _ _ (hx396 _ _ (hx383 _ _ (hx370 _ _ (hx357 _ _ (hx344 _ _ (hx331 _ _ (hx318 _ _ (hx305 _ _ (hx292 _ _ (hx279 _ _ (hx266 _ _ (hx253 _ _ (hx240 _ _ (hx227 _ _ (hx214 _ _ (hx201 _ _ (hx188 _ _ (hx175 _ _ (hx162 _ _ (hx149 _ _ (hx136 _ _ (hx123 _ _ (hx110 _ _ (hx97 _ _ (hx84 _ _ (hx71 _ _ (hx58 _ _ (hx45 _ _ (hx32 _ _ (hx19 _ _ (hx6 _ _ h_o)))))))))))))))))))))))))))))))))) hnn443), fun v hv => absurd hv List.not_mem_nil⟩) (by decide) (by decide) (by decide) (Nat.le_of_ble_eq_true rfl) (Nat.le_of_ble_eq_true rfl) (z_dec T_X12_init_ok 140 (276, .newarray .int, 2) rfl) (fun ρ447 kd444 q445 μ446 e451 e452 e453 hρ449 hx448 hk450 => ?_)
  replace h := h kd444 q445 μ446 e451 e452 e453
  have he454 := z_ext_tr he441 hρ449
  have hk455 := z_kext_tr hk442 hx448
  refine zx_putRF (pc := 278) G (some (n443)) gf_RX12_114 cf_12 rfl hin rfl rfl (hx448 _ _ (hx435 _ _ (hx422 _ _ (hx409 _ _ (hx396 _ _ (hx383 _ _ (hx370 _ _ (hx357 _ _ (hx344 _ _ (hx331 _ _ (hx318 _ _ (hx305 _ _ (hx292 _ _ (hx279 _ _ (hx266 _ _ (hx253 _ _ (hx240 _ _ (hx227 _ _ (hx214 _ _ (hx201 _ _ (hx188 _ _ (hx175 _ _ (hx162 _ _ (hx149 _ _ (hx136 _ _ (hx123 _ _ (hx110 _ _ (hx97 _ _ (hx84 _ _ (hx71 _ _ (hx58 _ _ (hx45 _ _ (hx32 _ _ (hx19 _ _ (hx6 _ _ h_o))))))))))))))))))))))))))))))))))) (z_dec T_X12_init_ok 141 (278, .putfield 114, 3) rfl) ?_
  refine zx_aload_n (pc := 281) G (some (o)) 0 rfl rfl (z_dec T_X12_init_ok 142 (281, .aload_n 0, 1) rfl) ?_
  refine zx_sipush (pc := 282) (v := 160) G (z_dec T_X12_init_ok 143 (282, .sipush 160, 3) rfl) rfl ?_
  obtain ⟨n456, hnn456, hqn456, h⟩ := h
  refine zx_newaE (pc := 285) (N := 160) G n456 0 rfl (by decide) wa_0 hnn456 hqn456 (by simp only [List.map_cons, List.map_nil, List.cons_append, List.nil_append, List.forall_mem_cons]; exact ⟨(z_nref (hx448 _ _ (hx435 _ _ (hx422 _ _ (hx409 _ _ (hx396 _ _ (hx383 _ _ (hx370 _ _ (hx357 _ _ (hx344 _ _ (hx331 _ _ (hx318 _ _ (hx305 _ _ (hx292 _ _ (hx279 _ _ (hx266 _ _ (hx253 _ _ (hx240 _ _ (hx227 _ _ (hx214 _ _ (hx201 _ _ (hx188 _ _ (hx175 _ _ (hx162 _ _ (hx149 _ _ (hx136 _ _ (hx123 _ _ (hx110 _ _ (hx97 _ _ (hx84 _ _ (hx71 _ _ (hx58 _ _ (hx45 _ _ (hx32 _ _ (hx19 _ _ (hx6 _ _ h_o))))))))))))))))))))))))))))))))))) hnn456), (z_nref (hx448 _ _ (hx435 _ _ (hx422 _ _ (hx409 _ _ (hx396 _ _ (hx383 _ _ (hx370 _ _ (hx357 _ _ (hx344 _ _ (hx331 _ _ (hx318 _ _ (hx305 _ _ (hx292 _ _ (hx279 _ _ (hx266 _ _ (hx253 _ _ (hx240 _ _ (hx227 _ _ (hx214 _ _ (hx201 _ _ (hx188 _ _ (hx175 _ _ (hx162 _ _ (hx149 _ _ (hx136 _ _ (hx123 _ _ (hx110 _ _ (hx97 _ _ (hx84 _ _ (hx71 _ _ (hx58 _ _ (hx45 _ _ (hx32 _ _ (hx19 _ _ (hx6 _ _ h_o))))))))))))))))))))))))))))))))))) hnn456), fun v hv => absurd hv List.not_mem_nil⟩) (by decide) (by decide) (by decide) (Nat.le_of_ble_eq_true rfl) (Nat.le_of_ble_eq_true rfl) (z_dec T_X12_init_ok 144 (285, .newarray .int, 2) rfl) (fun ρ460 kd457 q458 μ459 e464 e465 e466 hρ462 hx461 hk463 => ?_)
  replace h := h kd457 q458 μ459 e464 e465 e466
  have he467 := z_ext_tr he454 hρ462
  have hk468 := z_kext_tr hk455 hx461
  refine zx_putRF (pc := 287) G (some (n456)) gf_RX12_117 cf_12 rfl hin rfl rfl (hx461 _ _ (hx448 _ _ (hx435 _ _ (hx422 _ _ (hx409 _ _ (hx396 _ _ (hx383 _ _ (hx370 _ _ (hx357 _ _ (hx344 _ _ (hx331 _ _ (hx318 _ _ (hx305 _ _ (hx292 _ _ (hx279 _ _ (hx266 _ _ (hx253 _ _ (hx240 _ _ (hx227 _ _ (hx214 _ _ (hx201 _ _ (hx188 _ _ (hx175 _ _ (hx162 _ _ (hx149 _ _ (hx136 _ _ (hx123 _ _ (hx110 _ _ (hx97 _ _ (hx84 _ _ (hx71 _ _ (hx58 _ _ (hx45 _ _ (hx32 _ _ (hx19 _ _ (hx6 _ _ h_o)))))))))))))))))))))))))))))))))))) (z_dec T_X12_init_ok 145 (287, .putfield 117, 3) rfl) ?_
  refine zx_aload_n (pc := 290) G (some (o)) 0 rfl rfl (z_dec T_X12_init_ok 146 (290, .aload_n 0, 1) rfl) ?_
  refine zx_sipush (pc := 291) (v := 200) G (z_dec T_X12_init_ok 147 (291, .sipush 200, 3) rfl) rfl ?_
  obtain ⟨n469, hnn469, hqn469, h⟩ := h
  refine zx_newaE (pc := 294) (N := 200) G n469 0 rfl (by decide) wa_0 hnn469 hqn469 (by simp only [List.map_cons, List.map_nil, List.cons_append, List.nil_append, List.forall_mem_cons]; exact ⟨(z_nref (hx461 _ _ (hx448 _ _ (hx435 _ _ (hx422 _ _ (hx409 _ _ (hx396 _ _ (hx383 _ _ (hx370 _ _ (hx357 _ _ (hx344 _ _ (hx331 _ _ (hx318 _ _ (hx305 _ _ (hx292 _ _ (hx279 _ _ (hx266 _ _ (hx253 _ _ (hx240 _ _ (hx227 _ _ (hx214 _ _ (hx201 _ _ (hx188 _ _ (hx175 _ _ (hx162 _ _ (hx149 _ _ (hx136 _ _ (hx123 _ _ (hx110 _ _ (hx97 _ _ (hx84 _ _ (hx71 _ _ (hx58 _ _ (hx45 _ _ (hx32 _ _ (hx19 _ _ (hx6 _ _ h_o)))))))))))))))))))))))))))))))))))) hnn469), (z_nref (hx461 _ _ (hx448 _ _ (hx435 _ _ (hx422 _ _ (hx409 _ _ (hx396 _ _ (hx383 _ _ (hx370 _ _ (hx357 _ _ (hx344 _ _ (hx331 _ _ (hx318 _ _ (hx305 _ _ (hx292 _ _ (hx279 _ _ (hx266 _ _ (hx253 _ _ (hx240 _ _ (hx227 _ _ (hx214 _ _ (hx201 _ _ (hx188 _ _ (hx175 _ _ (hx162 _ _ (hx149 _ _ (hx136 _ _ (hx123 _ _ (hx110 _ _ (hx97 _ _ (hx84 _ _ (hx71 _ _ (hx58 _ _ (hx45 _ _ (hx32 _ _ (hx19 _ _ (hx6 _ _ h_o)))))))))))))))))))))))))))))))))))) hnn469), fun v hv => absurd hv List.not_mem_nil⟩) (by decide) (by decide) (by decide) (Nat.le_of_ble_eq_true rfl) (Nat.le_of_ble_eq_true rfl) (z_dec T_X12_init_ok 148 (294, .newarray .int, 2) rfl) (fun ρ473 kd470 q471 μ472 e477 e478 e479 hρ475 hx474 hk476 => ?_)
  replace h := h kd470 q471 μ472 e477 e478 e479
  have he480 := z_ext_tr he467 hρ475
  have hk481 := z_kext_tr hk468 hx474
  refine zx_putRF (pc := 296) G (some (n469)) gf_RX12_120 cf_12 rfl hin rfl rfl (hx474 _ _ (hx461 _ _ (hx448 _ _ (hx435 _ _ (hx422 _ _ (hx409 _ _ (hx396 _ _ (hx383 _ _ (hx370 _ _ (hx357 _ _ (hx344 _ _ (hx331 _ _ (hx318 _ _ (hx305 _ _ (hx292 _ _ (hx279 _ _ (hx266 _ _ (hx253 _ _ (hx240 _ _ (hx227 _ _ (hx214 _ _ (hx201 _ _ (hx188 _ _ (hx175 _ _ (hx162 _ _ (hx149 _ _ (hx136 _ _ (hx123 _ _ (hx110 _ _ (hx97 _ _ (hx84 _ _ (hx71 _ _ (hx58 _ _ (hx45 _ _ (hx32 _ _ (hx19 _ _ (hx6 _ _ h_o))))))))))))))))))))))))))))))))))))) (z_dec T_X12_init_ok 149 (296, .putfield 120, 3) rfl) ?_
  refine zx_aload_n (pc := 299) G (some (o)) 0 rfl rfl (z_dec T_X12_init_ok 150 (299, .aload_n 0, 1) rfl) ?_
  refine zx_sipush (pc := 300) (v := 200) G (z_dec T_X12_init_ok 151 (300, .sipush 200, 3) rfl) rfl ?_
  obtain ⟨n482, hnn482, hqn482, h⟩ := h
  refine zx_newaE (pc := 303) (N := 200) G n482 3 rfl (by decide) wa_3 hnn482 hqn482 (by simp only [List.map_cons, List.map_nil, List.cons_append, List.nil_append, List.forall_mem_cons]; exact ⟨(z_nref (hx474 _ _ (hx461 _ _ (hx448 _ _ (hx435 _ _ (hx422 _ _ (hx409 _ _ (hx396 _ _ (hx383 _ _ (hx370 _ _ (hx357 _ _ (hx344 _ _ (hx331 _ _ (hx318 _ _ (hx305 _ _ (hx292 _ _ (hx279 _ _ (hx266 _ _ (hx253 _ _ (hx240 _ _ (hx227 _ _ (hx214 _ _ (hx201 _ _ (hx188 _ _ (hx175 _ _ (hx162 _ _ (hx149 _ _ (hx136 _ _ (hx123 _ _ (hx110 _ _ (hx97 _ _ (hx84 _ _ (hx71 _ _ (hx58 _ _ (hx45 _ _ (hx32 _ _ (hx19 _ _ (hx6 _ _ h_o))))))))))))))))))))))))))))))))))))) hnn482), (z_nref (hx474 _ _ (hx461 _ _ (hx448 _ _ (hx435 _ _ (hx422 _ _ (hx409 _ _ (hx396 _ _ (hx383 _ _ (hx370 _ _ (hx357 _ _ (hx344 _ _ (hx331 _ _ (hx318 _ _ (hx305 _ _ (hx292 _ _ (hx279 _ _ (hx266 _ _ (hx253 _ _ (hx240 _ _ (hx227 _ _ (hx214 _ _ (hx201 _ _ (hx188 _ _ (hx175 _ _ (hx162 _ _ (hx149 _ _ (hx136 _ _ (hx123 _ _ (hx110 _ _ (hx97 _ _ (hx84 _ _ (hx71 _ _ (hx58 _ _ (hx45 _ _ (hx32 _ _ (hx19 _ _ (hx6 _ _ h_o))))))))))))))))))))))))))))))))))))) hnn482), fun v hv => absurd hv List.not_mem_nil⟩) (by decide) (by decide) (by decide) (Nat.le_of_ble_eq_true rfl) (Nat.le_of_ble_eq_true rfl) (z_dec T_X12_init_ok 152 (303, .newarray .long, 2) rfl) (fun ρ486 kd483 q484 μ485 e490 e491 e492 hρ488 hx487 hk489 => ?_)
  replace h := h kd483 q484 μ485 e490 e491 e492
  have he493 := z_ext_tr he480 hρ488
  have hk494 := z_kext_tr hk481 hx487
  refine zx_putRF (pc := 305) G (some (n482)) gf_RX12_123 cf_12 rfl hin rfl rfl (hx487 _ _ (hx474 _ _ (hx461 _ _ (hx448 _ _ (hx435 _ _ (hx422 _ _ (hx409 _ _ (hx396 _ _ (hx383 _ _ (hx370 _ _ (hx357 _ _ (hx344 _ _ (hx331 _ _ (hx318 _ _ (hx305 _ _ (hx292 _ _ (hx279 _ _ (hx266 _ _ (hx253 _ _ (hx240 _ _ (hx227 _ _ (hx214 _ _ (hx201 _ _ (hx188 _ _ (hx175 _ _ (hx162 _ _ (hx149 _ _ (hx136 _ _ (hx123 _ _ (hx110 _ _ (hx97 _ _ (hx84 _ _ (hx71 _ _ (hx58 _ _ (hx45 _ _ (hx32 _ _ (hx19 _ _ (hx6 _ _ h_o)))))))))))))))))))))))))))))))))))))) (z_dec T_X12_init_ok 153 (305, .putfield 123, 3) rfl) ?_
  refine zx_aload_n (pc := 308) G (some (o)) 0 rfl rfl (z_dec T_X12_init_ok 154 (308, .aload_n 0, 1) rfl) ?_
  refine zx_sipush (pc := 309) (v := 200) G (z_dec T_X12_init_ok 155 (309, .sipush 200, 3) rfl) rfl ?_
  obtain ⟨n495, hnn495, hqn495, h⟩ := h
  refine zx_newaE (pc := 312) (N := 200) G n495 2 rfl (by decide) wa_2 hnn495 hqn495 (by simp only [List.map_cons, List.map_nil, List.cons_append, List.nil_append, List.forall_mem_cons]; exact ⟨(z_nref (hx487 _ _ (hx474 _ _ (hx461 _ _ (hx448 _ _ (hx435 _ _ (hx422 _ _ (hx409 _ _ (hx396 _ _ (hx383 _ _ (hx370 _ _ (hx357 _ _ (hx344 _ _ (hx331 _ _ (hx318 _ _ (hx305 _ _ (hx292 _ _ (hx279 _ _ (hx266 _ _ (hx253 _ _ (hx240 _ _ (hx227 _ _ (hx214 _ _ (hx201 _ _ (hx188 _ _ (hx175 _ _ (hx162 _ _ (hx149 _ _ (hx136 _ _ (hx123 _ _ (hx110 _ _ (hx97 _ _ (hx84 _ _ (hx71 _ _ (hx58 _ _ (hx45 _ _ (hx32 _ _ (hx19 _ _ (hx6 _ _ h_o)))))))))))))))))))))))))))))))))))))) hnn495), (z_nref (hx487 _ _ (hx474 _ _ (hx461 _ _ (hx448 _ _ (hx435 _ _ (hx422 _ _ (hx409 _ _ (hx396 _ _ (hx383 _ _ (hx370 _ _ (hx357 _ _ (hx344 _ _ (hx331 _ _ (hx318 _ _ (hx305 _ _ (hx292 _ _ (hx279 _ _ (hx266 _ _ (hx253 _ _ (hx240 _ _ (hx227 _ _ (hx214 _ _ (hx201 _ _ (hx188 _ _ (hx175 _ _ (hx162 _ _ (hx149 _ _ (hx136 _ _ (hx123 _ _ (hx110 _ _ (hx97 _ _ (hx84 _ _ (hx71 _ _ (hx58 _ _ (hx45 _ _ (hx32 _ _ (hx19 _ _ (hx6 _ _ h_o)))))))))))))))))))))))))))))))))))))) hnn495), fun v hv => absurd hv List.not_mem_nil⟩) (by decide) (by decide) (by decide) (Nat.le_of_ble_eq_true rfl) (Nat.le_of_ble_eq_true rfl) (z_dec T_X12_init_ok 156 (312, .newarray .boolean, 2) rfl) (fun ρ499 kd496 q497 μ498 e503 e504 e505 hρ501 hx500 hk502 => ?_)
  replace h := h kd496 q497 μ498 e503 e504 e505
  have he506 := z_ext_tr he493 hρ501
  have hk507 := z_kext_tr hk494 hx500
  refine zx_putRF (pc := 314) G (some (n495)) gf_RX12_127 cf_12 rfl hin rfl rfl (hx500 _ _ (hx487 _ _ (hx474 _ _ (hx461 _ _ (hx448 _ _ (hx435 _ _ (hx422 _ _ (hx409 _ _ (hx396 _ _ (hx383 _ _ (hx370 _ _ (hx357 _ _ (hx344 _ _ (hx331 _ _ (hx318 _ _ (hx305 _ _ (hx292 _ _ (hx279 _ _ (hx266 _ _ (hx253 _ _ (hx240 _ _ (hx227 _ _ (hx214 _ _ (hx201 _ _ (hx188 _ _ (hx175 _ _ (hx162 _ _ (hx149 _ _ (hx136 _ _ (hx123 _ _ (hx110 _ _ (hx97 _ _ (hx84 _ _ (hx71 _ _ (hx58 _ _ (hx45 _ _ (hx32 _ _ (hx19 _ _ (hx6 _ _ h_o))))))))))))))))))))))))))))))))))))))) (z_dec T_X12_init_ok 157 (314, .putfield 127, 3) rfl) ?_
  refine zx_aload_n (pc := 317) G (some (o)) 0 rfl rfl (z_dec T_X12_init_ok 158 (317, .aload_n 0, 1) rfl) ?_
  refine zx_sipush (pc := 318) (v := 1800) G (z_dec T_X12_init_ok 159 (318, .sipush 1800, 3) rfl) rfl ?_
  obtain ⟨n508, hnn508, hqn508, h⟩ := h
  refine zx_newaE (pc := 321) (N := 1800) G n508 2 rfl (by decide) wa_2 hnn508 hqn508 (by simp only [List.map_cons, List.map_nil, List.cons_append, List.nil_append, List.forall_mem_cons]; exact ⟨(z_nref (hx500 _ _ (hx487 _ _ (hx474 _ _ (hx461 _ _ (hx448 _ _ (hx435 _ _ (hx422 _ _ (hx409 _ _ (hx396 _ _ (hx383 _ _ (hx370 _ _ (hx357 _ _ (hx344 _ _ (hx331 _ _ (hx318 _ _ (hx305 _ _ (hx292 _ _ (hx279 _ _ (hx266 _ _ (hx253 _ _ (hx240 _ _ (hx227 _ _ (hx214 _ _ (hx201 _ _ (hx188 _ _ (hx175 _ _ (hx162 _ _ (hx149 _ _ (hx136 _ _ (hx123 _ _ (hx110 _ _ (hx97 _ _ (hx84 _ _ (hx71 _ _ (hx58 _ _ (hx45 _ _ (hx32 _ _ (hx19 _ _ (hx6 _ _ h_o))))))))))))))))))))))))))))))))))))))) hnn508), (z_nref (hx500 _ _ (hx487 _ _ (hx474 _ _ (hx461 _ _ (hx448 _ _ (hx435 _ _ (hx422 _ _ (hx409 _ _ (hx396 _ _ (hx383 _ _ (hx370 _ _ (hx357 _ _ (hx344 _ _ (hx331 _ _ (hx318 _ _ (hx305 _ _ (hx292 _ _ (hx279 _ _ (hx266 _ _ (hx253 _ _ (hx240 _ _ (hx227 _ _ (hx214 _ _ (hx201 _ _ (hx188 _ _ (hx175 _ _ (hx162 _ _ (hx149 _ _ (hx136 _ _ (hx123 _ _ (hx110 _ _ (hx97 _ _ (hx84 _ _ (hx71 _ _ (hx58 _ _ (hx45 _ _ (hx32 _ _ (hx19 _ _ (hx6 _ _ h_o))))))))))))))))))))))))))))))))))))))) hnn508), fun v hv => absurd hv List.not_mem_nil⟩) (by decide) (by decide) (by decide) (Nat.le_of_ble_eq_true rfl) (Nat.le_of_ble_eq_true rfl) (z_dec T_X12_init_ok 160 (321, .newarray .boolean, 2) rfl) (fun ρ512 kd509 q510 μ511 e516 e517 e518 hρ514 hx513 hk515 => ?_)
  replace h := h kd509 q510 μ511 e516 e517 e518
  have he519 := z_ext_tr he506 hρ514
  have hk520 := z_kext_tr hk507 hx513
  refine zx_putRF (pc := 323) G (some (n508)) gf_RX12_130 cf_12 rfl hin rfl rfl (hx513 _ _ (hx500 _ _ (hx487 _ _ (hx474 _ _ (hx461 _ _ (hx448 _ _ (hx435 _ _ (hx422 _ _ (hx409 _ _ (hx396 _ _ (hx383 _ _ (hx370 _ _ (hx357 _ _ (hx344 _ _ (hx331 _ _ (hx318 _ _ (hx305 _ _ (hx292 _ _ (hx279 _ _ (hx266 _ _ (hx253 _ _ (hx240 _ _ (hx227 _ _ (hx214 _ _ (hx201 _ _ (hx188 _ _ (hx175 _ _ (hx162 _ _ (hx149 _ _ (hx136 _ _ (hx123 _ _ (hx110 _ _ (hx97 _ _ (hx84 _ _ (hx71 _ _ (hx58 _ _ (hx45 _ _ (hx32 _ _ (hx19 _ _ (hx6 _ _ h_o)))))))))))))))))))))))))))))))))))))))) (z_dec T_X12_init_ok 161 (323, .putfield 130, 3) rfl) ?_
  refine zx_aload_n (pc := 326) G (some (o)) 0 rfl rfl (z_dec T_X12_init_ok 162 (326, .aload_n 0, 1) rfl) ?_
  refine zx_bipush (pc := 327) (v := 96) G (z_dec T_X12_init_ok 163 (327, .bipush 96, 2) rfl) rfl ?_
  obtain ⟨n521, hnn521, hqn521, h⟩ := h
  refine zx_newaE (pc := 329) (N := 96) G n521 0 rfl (by decide) wa_0 hnn521 hqn521 (by simp only [List.map_cons, List.map_nil, List.cons_append, List.nil_append, List.forall_mem_cons]; exact ⟨(z_nref (hx513 _ _ (hx500 _ _ (hx487 _ _ (hx474 _ _ (hx461 _ _ (hx448 _ _ (hx435 _ _ (hx422 _ _ (hx409 _ _ (hx396 _ _ (hx383 _ _ (hx370 _ _ (hx357 _ _ (hx344 _ _ (hx331 _ _ (hx318 _ _ (hx305 _ _ (hx292 _ _ (hx279 _ _ (hx266 _ _ (hx253 _ _ (hx240 _ _ (hx227 _ _ (hx214 _ _ (hx201 _ _ (hx188 _ _ (hx175 _ _ (hx162 _ _ (hx149 _ _ (hx136 _ _ (hx123 _ _ (hx110 _ _ (hx97 _ _ (hx84 _ _ (hx71 _ _ (hx58 _ _ (hx45 _ _ (hx32 _ _ (hx19 _ _ (hx6 _ _ h_o)))))))))))))))))))))))))))))))))))))))) hnn521), (z_nref (hx513 _ _ (hx500 _ _ (hx487 _ _ (hx474 _ _ (hx461 _ _ (hx448 _ _ (hx435 _ _ (hx422 _ _ (hx409 _ _ (hx396 _ _ (hx383 _ _ (hx370 _ _ (hx357 _ _ (hx344 _ _ (hx331 _ _ (hx318 _ _ (hx305 _ _ (hx292 _ _ (hx279 _ _ (hx266 _ _ (hx253 _ _ (hx240 _ _ (hx227 _ _ (hx214 _ _ (hx201 _ _ (hx188 _ _ (hx175 _ _ (hx162 _ _ (hx149 _ _ (hx136 _ _ (hx123 _ _ (hx110 _ _ (hx97 _ _ (hx84 _ _ (hx71 _ _ (hx58 _ _ (hx45 _ _ (hx32 _ _ (hx19 _ _ (hx6 _ _ h_o)))))))))))))))))))))))))))))))))))))))) hnn521), fun v hv => absurd hv List.not_mem_nil⟩) (by decide) (by decide) (by decide) (Nat.le_of_ble_eq_true rfl) (Nat.le_of_ble_eq_true rfl) (z_dec T_X12_init_ok 164 (329, .newarray .int, 2) rfl) (fun ρ525 kd522 q523 μ524 e529 e530 e531 hρ527 hx526 hk528 => ?_)
  replace h := h kd522 q523 μ524 e529 e530 e531
  have he532 := z_ext_tr he519 hρ527
  have hk533 := z_kext_tr hk520 hx526
  refine zx_putRF (pc := 331) G (some (n521)) gf_RX12_133 cf_12 rfl hin rfl rfl (hx526 _ _ (hx513 _ _ (hx500 _ _ (hx487 _ _ (hx474 _ _ (hx461 _ _ (hx448 _ _ (hx435 _ _ (hx422 _ _ (hx409 _ _ (hx396 _ _ (hx383 _ _ (hx370 _ _ (hx357 _ _ (hx344 _ _ (hx331 _ _ (hx318 _ _ (hx305 _ _ (hx292 _ _ (hx279 _ _ (hx266 _ _ (hx253 _ _ (hx240 _ _ (hx227 _ _ (hx214 _ _ (hx201 _ _ (hx188 _ _ (hx175 _ _ (hx162 _ _ (hx149 _ _ (hx136 _ _ (hx123 _ _ (hx110 _ _ (hx97 _ _ (hx84 _ _ (hx71 _ _ (hx58 _ _ (hx45 _ _ (hx32 _ _ (hx19 _ _ (hx6 _ _ h_o))))))))))))))))))))))))))))))))))))))))) (z_dec T_X12_init_ok 165 (331, .putfield 133, 3) rfl) ?_
  refine zx_iconst (pc := 334) (v := 0) G (z_dec T_X12_init_ok 166 (334, .iconst 0, 1) rfl) rfl ?_
  refine zx_istore_n (pc := 335) (lv' := [(1, .int ((0 : Int32))), (0, .ref (o))]) G rfl (Nat.le_of_ble_eq_true rfl) rfl (z_dec T_X12_init_ok 167 (335, .istore_n 1, 1) rfl) ?_
  refine zx_sub (lv' := [(0, .ref (o)), (1, .int ((0 : Int32)))]) [1, 0] rfl ?_
  exact L_X12_init_336_ok G hr hlk hin he532 hk533 (hx526 _ _ (hx513 _ _ (hx500 _ _ (hx487 _ _ (hx474 _ _ (hx461 _ _ (hx448 _ _ (hx435 _ _ (hx422 _ _ (hx409 _ _ (hx396 _ _ (hx383 _ _ (hx370 _ _ (hx357 _ _ (hx344 _ _ (hx331 _ _ (hx318 _ _ (hx305 _ _ (hx292 _ _ (hx279 _ _ (hx266 _ _ (hx253 _ _ (hx240 _ _ (hx227 _ _ (hx214 _ _ (hx201 _ _ (hx188 _ _ (hx175 _ _ (hx162 _ _ (hx149 _ _ (hx136 _ _ (hx123 _ _ (hx110 _ _ (hx97 _ _ (hx84 _ _ (hx71 _ _ (hx58 _ _ (hx45 _ _ (hx32 _ _ (hx19 _ _ (hx6 _ _ h_o))))))))))))))))))))))))))))))))))))))))) h
