abbrev rm_X12_layOff : Room := { frames := 7, cells := 0, slots := 0, locals := 168 }
set_option maxRecDepth 100000 in
set_option maxHeartbeats 4000000 in
theorem B_X12_layOff_96_ok {p : Program} {l : Launch} {e : Env} {s : State} {m : MethodId} {args : Array Value} {below : List Frame} {meth : Method} {c : Code} {D : va_G} {A : Nat → Prop} {ρ : z_A} {kd : z_K} {q : z_Q} {μ : z_M} {K : Int32 → z_M → Prop} {P75 : Int32 → Int32 → Int32 → Int32 → Int32 → Int32 → Int32 → Int32 → Int32 → z_M → Prop} {P84 : Int32 → Int32 → Int32 → Int32 → Int32 → Int32 → Int32 → Int32 → Int32 → Int32 → z_M → Prop} {P96 : Int32 → Int32 → Int32 → Int32 → Int32 → Int32 → Int32 → Int32 → Int32 → Int32 → Int32 → z_M → Prop} {v1 : Int32} {v2 : Int32} {v3 : Int32} {v4 : Int32} {v5 : Int32} {v6 : Int32} {v7 : Int32} {v8 : Int32} {v9 : Int32} {v10 : Int32} {v11 : Int32} (G : z_G p c cX12_layOff s m args RX12 14 D) (hr : meth.sig.returnType = (Option.some Jvm.ClassFile.FieldType.int)) (hlk : meth.locks = false) (hP75 : ∀ (v1 : Int32) (v2 : Int32) (v3 : Int32) (v4 : Int32) (v5 : Int32) (v6 : Int32) (v7 : Int32) (v8 : Int32) (v9 : Int32) (μ : z_M), P75 v1 v2 v3 v4 v5 v6 v7 v8 v9 μ → (kd 0 = some (.inl 12)) → z_X p l e rm_X12_layOff s m args below meth c 14 D A (MQ below (z_Qn D A ρ kd (z_Ki q K)) args s 0 0 A) 0 0 ρ kd q μ 75 [(0, .ref (0)), (1, .int (v1)), (2, .int (v2)), (3, .int (v3)), (4, .int (v4)), (5, .int (v5)), (6, .int (v6)), (7, .int (v7)), (8, .int (v8)), (9, .int (v9))] []) (hP84 : ∀ (v1 : Int32) (v2 : Int32) (v3 : Int32) (v4 : Int32) (v5 : Int32) (v6 : Int32) (v7 : Int32) (v8 : Int32) (v9 : Int32) (v10 : Int32) (μ : z_M), P84 v1 v2 v3 v4 v5 v6 v7 v8 v9 v10 μ → (kd 0 = some (.inl 12)) → z_X p l e rm_X12_layOff s m args below meth c 14 D A (MQ below (z_Qn D A ρ kd (z_Ki q K)) args s 0 0 A) 0 0 ρ kd q μ 84 [(0, .ref (0)), (1, .int (v1)), (2, .int (v2)), (3, .int (v3)), (4, .int (v4)), (5, .int (v5)), (6, .int (v6)), (7, .int (v7)), (8, .int (v8)), (9, .int (v9)), (10, .int (v10))] []) (hP96 : ∀ (v1 : Int32) (v2 : Int32) (v3 : Int32) (v4 : Int32) (v5 : Int32) (v6 : Int32) (v7 : Int32) (v8 : Int32) (v9 : Int32) (v10 : Int32) (v11 : Int32) (μ : z_M), P96 v1 v2 v3 v4 v5 v6 v7 v8 v9 v10 v11 μ → (kd 0 = some (.inl 12)) → z_X p l e rm_X12_layOff s m args below meth c 14 D A (MQ below (z_Qn D A ρ kd (z_Ki q K)) args s 0 0 A) 0 0 ρ kd q μ 96 [(0, .ref (0)), (1, .int (v1)), (2, .int (v2)), (3, .int (v3)), (4, .int (v4)), (5, .int (v5)), (6, .int (v6)), (7, .int (v7)), (8, .int (v8)), (9, .int (v9)), (10, .int (v10)), (11, .int (v11))] []) (hI : z_I kd q) (f_l0 : kd 0 = some (.inl 12)) (h : B_X12_layOff_96 K P75 P84 P96 v1 v2 v3 v4 v5 v6 v7 v8 v9 v10 v11 μ) : z_X p l e rm_X12_layOff s m args below meth c 14 D A (MQ below (z_Qn D A ρ kd (z_Ki q K)) args s 0 0 A) 0 0 ρ kd q μ 96 [(0, .ref (0)), (1, .int (v1)), (2, .int (v2)), (3, .int (v3)), (4, .int (v4)), (5, .int (v5)), (6, .int (v6)), (7, .int (v7)), (8, .int (v8)), (9, .int (v9)), (10, .int (v10)), (11, .int (v11))] [] := by
    unfold B_X12_layOff_96 at h
    refine zx_iload (pc := 96) G 11 rfl (z_dec T_X12_layOff_ok 51 (96, .iload 11, 2) rfl) ?_
    refine zx_aload_n (pc := 98) G (some (0)) 0 rfl rfl (z_dec T_X12_layOff_ok 52 (98, .aload_n 0, 1) rfl) ?_
    refine zx_getF (pc := 99) (b := 10) G gf_RX12_20 rfl f_l0 (zq_12_9 hI f_l0) (z_dec T_X12_layOff_ok 53 (99, .getfield 20, 3) rfl) ?_
    refine zx_iload_n (pc := 102) G 2 rfl rfl (z_dec T_X12_layOff_ok 54 (102, .iload_n 2, 1) rfl) ?_
    obtain ⟨c1, h⟩ := h
    refine zx_iald (pc := 103) G (zk_12_9 hI f_l0) c1 (z_dec T_X12_layOff_ok 55 (103, .iaload, 1) rfl) ?_
    refine zx_icmp_ge (pc := 104) (tgt := 193) G rfl (z_dec T_X12_layOff_ok 56 (104, .if_icmp .ge 89, 3) rfl) (fun hc => ?_) (fun hc => ?_)
    · replace h := z_pos hc h
      refine zx_iinc (pc := 193) (v := v10 + 1) (lv' := [(10, .int (v10 + 1)), (0, .ref (0)), (1, .int (v1)), (2, .int (v2)), (3, .int (v3)), (4, .int (v4)), (5, .int (v5)), (6, .int (v6)), (7, .int (v7)), (8, .int (v8)), (9, .int (v9)), (11, .int (v11))]) G 10 rfl (z_inc (by decide)) (Nat.le_of_ble_eq_true rfl) rfl (z_dec T_X12_layOff_ok 99 (193, .iinc 10 1, 3) rfl) ?_
      refine zx_goto (pc := 196) (tgt := 84) G rfl (z_dec T_X12_layOff_ok 100 (196, .goto (-112), 3) rfl) ?_
      refine zx_sub (lv' := [(0, .ref (0)), (1, .int (v1)), (2, .int (v2)), (3, .int (v3)), (4, .int (v4)), (5, .int (v5)), (6, .int (v6)), (7, .int (v7)), (8, .int (v8)), (9, .int (v9)), (10, .int (v10 + 1))]) [1, 2, 3, 4, 5, 6, 7, 8, 9, 10, 0] rfl ?_
      exact hP84 _ _ _ _ _ _ _ _ _ _ _ h f_l0
    · replace h := z_neg hc h
      refine zx_aload_n (pc := 107) G (some (0)) 0 rfl rfl (z_dec T_X12_layOff_ok 57 (107, .aload_n 0, 1) rfl) ?_
      refine zx_getF (pc := 108) (b := 17) G gf_RX12_42 rfl f_l0 (zq_12_16 hI f_l0) (z_dec T_X12_layOff_ok 58 (108, .getfield 42, 3) rfl) ?_
      refine zx_iload (pc := 111) G 10 rfl (z_dec T_X12_layOff_ok 59 (111, .iload 10, 2) rfl) ?_
      refine zx_iload_n (pc := 113) G 2 rfl rfl (z_dec T_X12_layOff_ok 60 (113, .iload_n 2, 1) rfl) ?_
      refine zx_iload (pc := 114) G 11 rfl (z_dec T_X12_layOff_ok 61 (114, .iload 11, 2) rfl) ?_
      refine zx_callS_iN (pc := 116) (rm := rm_X12_cellOf) G cw_RX12_188 ⟨Nat.le_of_ble_eq_true rfl, Nat.le_of_ble_eq_true rfl⟩ rfl rfl ⟨Nat.zero_le _, Nat.zero_le _⟩ (fun sz => (met_X12_cellOf l D ρ kd q μ sz v10 v2 v11 _ hI h)) rfl rfl (Nat.le_of_ble_eq_true rfl) (z_dec T_X12_layOff_ok 62 (116, .invokestatic 188, 3) rfl) (fun r3 μ2 hn => ?_)
      clear h
      have h := hn
      clear hn
      obtain ⟨c4, h⟩ := h
      refine zx_iald (pc := 119) G (zk_12_16 hI f_l0) c4 (z_dec T_X12_layOff_ok 63 (119, .iaload, 1) rfl) ?_
      refine zx_istore (pc := 120) (lv' := [(12, .int (μ2.1 17 r3.toNatClampNeg)), (0, .ref (0)), (1, .int (v1)), (2, .int (v2)), (3, .int (v3)), (4, .int (v4)), (5, .int (v5)), (6, .int (v6)), (7, .int (v7)), (8, .int (v8)), (9, .int (v9)), (10, .int (v10)), (11, .int (v11))]) G (Nat.le_of_ble_eq_true rfl) rfl (z_dec T_X12_layOff_ok 64 (120, .istore 12, 2) rfl) ?_
      refine zx_iload (pc := 122) G 11 rfl (z_dec T_X12_layOff_ok 65 (122, .iload 10, 2) rfl) ?_
      refine zx_iload_n (pc := 124) G 2 rfl rfl (z_dec T_X12_layOff_ok 66 (124, .iload_n 1, 1) rfl) ?_
      refine zx_icmp_eq (pc := 125) (tgt := 187) G rfl (z_dec T_X12_layOff_ok 67 (125, .if_icmp .eq 62, 3) rfl) (fun hc => ?_) (fun hc => ?_)
      · replace h := z_pos hc h
        refine zx_iinc (pc := 187) (v := v11 + 1) (lv' := [(11, .int (v11 + 1)), (12, .int (μ2.1 17 r3.toNatClampNeg)), (0, .ref (0)), (1, .int (v1)), (2, .int (v2)), (3, .int (v3)), (4, .int (v4)), (5, .int (v5)), (6, .int (v6)), (7, .int (v7)), (8, .int (v8)), (9, .int (v9)), (10, .int (v10))]) G 12 rfl (z_inc (by decide)) (Nat.le_of_ble_eq_true rfl) rfl (z_dec T_X12_layOff_ok 97 (187, .iinc 11 1, 3) rfl) ?_
        refine zx_goto (pc := 190) (tgt := 96) G rfl (z_dec T_X12_layOff_ok 98 (190, .goto (-94), 3) rfl) ?_
        refine zx_sub (lv' := [(0, .ref (0)), (1, .int (v1)), (2, .int (v2)), (3, .int (v3)), (4, .int (v4)), (5, .int (v5)), (6, .int (v6)), (7, .int (v7)), (8, .int (v8)), (9, .int (v9)), (10, .int (v10)), (11, .int (v11 + 1))]) [2, 3, 4, 5, 6, 7, 8, 9, 10, 11, 12, 0] rfl ?_
        exact hP96 _ _ _ _ _ _ _ _ _ _ _ _ h f_l0
      · replace h := z_neg hc h
        refine zx_aload_n (pc := 128) G (some (0)) 1 rfl rfl (z_dec T_X12_layOff_ok 68 (128, .aload_n 0, 1) rfl) ?_
        refine zx_getF (pc := 129) (b := 16) G gf_RX12_39 rfl f_l0 (zq_12_15 hI f_l0) (z_dec T_X12_layOff_ok 69 (129, .getfield 39, 3) rfl) ?_
        refine zx_iload (pc := 132) G 11 rfl (z_dec T_X12_layOff_ok 70 (132, .iload 10, 2) rfl) ?_
        obtain ⟨c5, h⟩ := h
        refine zx_zald (pc := 134) G (zk_12_15 hI f_l0) c5 (z_dec T_X12_layOff_ok 71 (134, .baload, 1) rfl) ?_
        refine zx_if_ne (pc := 135) (tgt := 187) G rfl (z_dec T_X12_layOff_ok 72 (135, .ifCond .ne 52, 3) rfl) (fun hc => ?_) (fun hc => ?_)
        · replace h := z_neg hc h
          refine zx_iinc (pc := 187) (v := v11 + 1) (lv' := [(11, .int (v11 + 1)), (12, .int (μ2.1 17 r3.toNatClampNeg)), (0, .ref (0)), (1, .int (v1)), (2, .int (v2)), (3, .int (v3)), (4, .int (v4)), (5, .int (v5)), (6, .int (v6)), (7, .int (v7)), (8, .int (v8)), (9, .int (v9)), (10, .int (v10))]) G 12 rfl (z_inc (by decide)) (Nat.le_of_ble_eq_true rfl) rfl (z_dec T_X12_layOff_ok 97 (187, .iinc 11 1, 3) rfl) ?_
          refine zx_goto (pc := 190) (tgt := 96) G rfl (z_dec T_X12_layOff_ok 98 (190, .goto (-94), 3) rfl) ?_
          refine zx_sub (lv' := [(0, .ref (0)), (1, .int (v1)), (2, .int (v2)), (3, .int (v3)), (4, .int (v4)), (5, .int (v5)), (6, .int (v6)), (7, .int (v7)), (8, .int (v8)), (9, .int (v9)), (10, .int (v10)), (11, .int (v11 + 1))]) [2, 3, 4, 5, 6, 7, 8, 9, 10, 11, 12, 0] rfl ?_
          exact hP96 _ _ _ _ _ _ _ _ _ _ _ _ h f_l0
        · replace h := z_pos hc h
          refine zx_iload (pc := 138) G 0 rfl (z_dec T_X12_layOff_ok 73 (138, .iload 12, 2) rfl) ?_
          refine zx_iconst (pc := 140) (v := -1) G (z_dec T_X12_layOff_ok 74 (140, .iconst (-1), 1) rfl) rfl ?_
          refine zx_icmp_ne (pc := 141) (tgt := 147) G rfl (z_dec T_X12_layOff_ok 75 (141, .if_icmp .ne 6, 3) rfl) (fun hc => ?_) (fun hc => ?_)
          · replace h := z_neg hc h
            refine zx_aload_n (pc := 147) G (some (0)) 1 rfl rfl (z_dec T_X12_layOff_ok 77 (147, .aload_n 0, 1) rfl) ?_
            refine zx_iload_n (pc := 148) G 2 rfl rfl (z_dec T_X12_layOff_ok 78 (148, .iload_n 1, 1) rfl) ?_
            refine zx_iload_n (pc := 149) G 3 rfl rfl (z_dec T_X12_layOff_ok 79 (149, .iload_n 2, 1) rfl) ?_
            refine zx_iload (pc := 150) G 12 rfl (z_dec T_X12_layOff_ok 80 (150, .iload 11, 2) rfl) ?_
            refine zx_iload (pc := 152) G 10 rfl (z_dec T_X12_layOff_ok 81 (152, .iload 9, 2) rfl) ?_
            refine zx_iload (pc := 154) G 0 rfl (z_dec T_X12_layOff_ok 82 (154, .iload 12, 2) rfl) ?_
            refine zx_callV_iN (pc := 156) (rm := rm_X12_worstWith) G cw_RX12_458 ⟨Nat.le_of_ble_eq_true rfl, Nat.le_of_ble_eq_true rfl⟩ rfl rfl ⟨Nat.zero_le _, Nat.zero_le _⟩ f_l0 rfl (fun sz => (met_X12_worstWith l D ρ kd q μ2 sz v1 v2 v11 v9 (μ2.1 17 r3.toNatClampNeg) _ hI f_l0 h)) rfl rfl (Nat.le_of_ble_eq_true rfl) (z_dec T_X12_layOff_ok 83 (156, .invokevirtual 458, 3) rfl) (fun r7 μ6 hn => ?_)
            clear h
            have h := hn
            clear hn
            refine zx_istore (pc := 159) (lv' := [(13, .int (r7)), (12, .int (μ2.1 17 r3.toNatClampNeg)), (0, .ref (0)), (1, .int (v1)), (2, .int (v2)), (3, .int (v3)), (4, .int (v4)), (5, .int (v5)), (6, .int (v6)), (7, .int (v7)), (8, .int (v8)), (9, .int (v9)), (10, .int (v10)), (11, .int (v11))]) G (Nat.le_of_ble_eq_true rfl) rfl (z_dec T_X12_layOff_ok 84 (159, .istore 13, 2) rfl) ?_
            refine zx_iload (pc := 161) G 0 rfl (z_dec T_X12_layOff_ok 85 (161, .iload 13, 2) rfl) ?_
            refine zx_iload (pc := 163) G 7 rfl (z_dec T_X12_layOff_ok 86 (163, .iload 5, 2) rfl) ?_
            refine zx_icmp_gt (pc := 165) (tgt := 171) G rfl (z_dec T_X12_layOff_ok 87 (165, .if_icmp .gt 6, 3) rfl) (fun hc => ?_) (fun hc => ?_)
            · replace h := z_pos hc h
              refine zx_iload (pc := 171) G 0 rfl (z_dec T_X12_layOff_ok 89 (171, .iload 13, 2) rfl) ?_
              refine zx_istore (pc := 173) (lv' := [(5, .int (r7)), (13, .int (r7)), (12, .int (μ2.1 17 r3.toNatClampNeg)), (0, .ref (0)), (1, .int (v1)), (2, .int (v2)), (3, .int (v3)), (4, .int (v4)), (6, .int (v6)), (7, .int (v7)), (8, .int (v8)), (9, .int (v9)), (10, .int (v10)), (11, .int (v11))]) G (Nat.le_of_ble_eq_true rfl) rfl (z_dec T_X12_layOff_ok 90 (173, .istore 5, 2) rfl) ?_
              refine zx_iload (pc := 175) G 12 rfl (z_dec T_X12_layOff_ok 91 (175, .iload 10, 2) rfl) ?_
              refine zx_istore (pc := 177) (lv' := [(6, .int (v10)), (5, .int (r7)), (13, .int (r7)), (12, .int (μ2.1 17 r3.toNatClampNeg)), (0, .ref (0)), (1, .int (v1)), (2, .int (v2)), (3, .int (v3)), (4, .int (v4)), (7, .int (v7)), (8, .int (v8)), (9, .int (v9)), (10, .int (v10)), (11, .int (v11))]) G (Nat.le_of_ble_eq_true rfl) rfl (z_dec T_X12_layOff_ok 92 (177, .istore 6, 2) rfl) ?_
              refine zx_iload (pc := 179) G 13 rfl (z_dec T_X12_layOff_ok 93 (179, .iload 11, 2) rfl) ?_
              refine zx_istore (pc := 181) (lv' := [(7, .int (v11)), (6, .int (v10)), (5, .int (r7)), (13, .int (r7)), (12, .int (μ2.1 17 r3.toNatClampNeg)), (0, .ref (0)), (1, .int (v1)), (2, .int (v2)), (3, .int (v3)), (4, .int (v4)), (8, .int (v8)), (9, .int (v9)), (10, .int (v10)), (11, .int (v11))]) G (Nat.le_of_ble_eq_true rfl) rfl (z_dec T_X12_layOff_ok 94 (181, .istore 7, 2) rfl) ?_
              refine zx_iload (pc := 183) G 11 rfl (z_dec T_X12_layOff_ok 95 (183, .iload 9, 2) rfl) ?_
              refine zx_istore (pc := 185) (lv' := [(8, .int (v9)), (7, .int (v11)), (6, .int (v10)), (5, .int (r7)), (13, .int (r7)), (12, .int (μ2.1 17 r3.toNatClampNeg)), (0, .ref (0)), (1, .int (v1)), (2, .int (v2)), (3, .int (v3)), (4, .int (v4)), (9, .int (v9)), (10, .int (v10)), (11, .int (v11))]) G (Nat.le_of_ble_eq_true rfl) rfl (z_dec T_X12_layOff_ok 96 (185, .istore 8, 2) rfl) ?_
              refine zx_iinc (pc := 187) (v := v11 + 1) (lv' := [(11, .int (v11 + 1)), (8, .int (v9)), (7, .int (v11)), (6, .int (v10)), (5, .int (r7)), (13, .int (r7)), (12, .int (μ2.1 17 r3.toNatClampNeg)), (0, .ref (0)), (1, .int (v1)), (2, .int (v2)), (3, .int (v3)), (4, .int (v4)), (9, .int (v9)), (10, .int (v10))]) G 13 rfl (z_inc (by decide)) (Nat.le_of_ble_eq_true rfl) rfl (z_dec T_X12_layOff_ok 97 (187, .iinc 11 1, 3) rfl) ?_
              refine zx_goto (pc := 190) (tgt := 96) G rfl (z_dec T_X12_layOff_ok 98 (190, .goto (-94), 3) rfl) ?_
              refine zx_sub (lv' := [(0, .ref (0)), (1, .int (v1)), (2, .int (v2)), (3, .int (v3)), (4, .int (v4)), (5, .int (r7)), (6, .int (v10)), (7, .int (v11)), (8, .int (v9)), (9, .int (v9)), (10, .int (v10)), (11, .int (v11 + 1))]) [7, 8, 9, 10, 11, 4, 3, 2, 1, 12, 13, 0] rfl ?_
              exact hP96 _ _ _ _ _ _ _ _ _ _ _ _ h f_l0
            · replace h := z_neg hc h
              refine zx_goto (pc := 168) (tgt := 187) G rfl (z_dec T_X12_layOff_ok 88 (168, .goto 19, 3) rfl) ?_
              refine zx_iinc (pc := 187) (v := v11 + 1) (lv' := [(11, .int (v11 + 1)), (13, .int (r7)), (12, .int (μ2.1 17 r3.toNatClampNeg)), (0, .ref (0)), (1, .int (v1)), (2, .int (v2)), (3, .int (v3)), (4, .int (v4)), (5, .int (v5)), (6, .int (v6)), (7, .int (v7)), (8, .int (v8)), (9, .int (v9)), (10, .int (v10))]) G 13 rfl (z_inc (by decide)) (Nat.le_of_ble_eq_true rfl) rfl (z_dec T_X12_layOff_ok 97 (187, .iinc 11 1, 3) rfl) ?_
              refine zx_goto (pc := 190) (tgt := 96) G rfl (z_dec T_X12_layOff_ok 98 (190, .goto (-94), 3) rfl) ?_
              refine zx_sub (lv' := [(0, .ref (0)), (1, .int (v1)), (2, .int (v2)), (3, .int (v3)), (4, .int (v4)), (5, .int (v5)), (6, .int (v6)), (7, .int (v7)), (8, .int (v8)), (9, .int (v9)), (10, .int (v10)), (11, .int (v11 + 1))]) [3, 4, 5, 6, 7, 8, 9, 10, 11, 12, 13, 0] rfl ?_
              exact hP96 _ _ _ _ _ _ _ _ _ _ _ _ h f_l0
          · replace h := z_pos hc h
            refine zx_goto (pc := 144) (tgt := 187) G rfl (z_dec T_X12_layOff_ok 76 (144, .goto 43, 3) rfl) ?_
            refine zx_iinc (pc := 187) (v := v11 + 1) (lv' := [(11, .int (v11 + 1)), (12, .int (μ2.1 17 r3.toNatClampNeg)), (0, .ref (0)), (1, .int (v1)), (2, .int (v2)), (3, .int (v3)), (4, .int (v4)), (5, .int (v5)), (6, .int (v6)), (7, .int (v7)), (8, .int (v8)), (9, .int (v9)), (10, .int (v10))]) G 12 rfl (z_inc (by decide)) (Nat.le_of_ble_eq_true rfl) rfl (z_dec T_X12_layOff_ok 97 (187, .iinc 11 1, 3) rfl) ?_
            refine zx_goto (pc := 190) (tgt := 96) G rfl (z_dec T_X12_layOff_ok 98 (190, .goto (-94), 3) rfl) ?_
            refine zx_sub (lv' := [(0, .ref (0)), (1, .int (v1)), (2, .int (v2)), (3, .int (v3)), (4, .int (v4)), (5, .int (v5)), (6, .int (v6)), (7, .int (v7)), (8, .int (v8)), (9, .int (v9)), (10, .int (v10)), (11, .int (v11 + 1))]) [2, 3, 4, 5, 6, 7, 8, 9, 10, 11, 12, 0] rfl ?_
            exact hP96 _ _ _ _ _ _ _ _ _ _ _ _ h f_l0
set_option maxRecDepth 100000 in
set_option maxHeartbeats 4000000 in
theorem L_X12_layOff_96_ok {p : Program} {l : Launch} {e : Env} {s : State} {m : MethodId} {args : Array Value} {below : List Frame} {meth : Method} {c : Code} {D : va_G} {A : Nat → Prop} {ρ : z_A} {kd : z_K} {q : z_Q} {μ : z_M} {K : Int32 → z_M → Prop} {P75 : Int32 → Int32 → Int32 → Int32 → Int32 → Int32 → Int32 → Int32 → Int32 → z_M → Prop} {P84 : Int32 → Int32 → Int32 → Int32 → Int32 → Int32 → Int32 → Int32 → Int32 → Int32 → z_M → Prop} {v1 : Int32} {v2 : Int32} {v3 : Int32} {v4 : Int32} {v5 : Int32} {v6 : Int32} {v7 : Int32} {v8 : Int32} {v9 : Int32} {v10 : Int32} {v11 : Int32} (G : z_G p c cX12_layOff s m args RX12 14 D) (hr : meth.sig.returnType = (Option.some Jvm.ClassFile.FieldType.int)) (hlk : meth.locks = false) (hP75 : ∀ (v1 : Int32) (v2 : Int32) (v3 : Int32) (v4 : Int32) (v5 : Int32) (v6 : Int32) (v7 : Int32) (v8 : Int32) (v9 : Int32) (μ : z_M), P75 v1 v2 v3 v4 v5 v6 v7 v8 v9 μ → (kd 0 = some (.inl 12)) → z_X p l e rm_X12_layOff s m args below meth c 14 D A (MQ below (z_Qn D A ρ kd (z_Ki q K)) args s 0 0 A) 0 0 ρ kd q μ 75 [(0, .ref (0)), (1, .int (v1)), (2, .int (v2)), (3, .int (v3)), (4, .int (v4)), (5, .int (v5)), (6, .int (v6)), (7, .int (v7)), (8, .int (v8)), (9, .int (v9))] []) (hP84 : ∀ (v1 : Int32) (v2 : Int32) (v3 : Int32) (v4 : Int32) (v5 : Int32) (v6 : Int32) (v7 : Int32) (v8 : Int32) (v9 : Int32) (v10 : Int32) (μ : z_M), P84 v1 v2 v3 v4 v5 v6 v7 v8 v9 v10 μ → (kd 0 = some (.inl 12)) → z_X p l e rm_X12_layOff s m args below meth c 14 D A (MQ below (z_Qn D A ρ kd (z_Ki q K)) args s 0 0 A) 0 0 ρ kd q μ 84 [(0, .ref (0)), (1, .int (v1)), (2, .int (v2)), (3, .int (v3)), (4, .int (v4)), (5, .int (v5)), (6, .int (v6)), (7, .int (v7)), (8, .int (v8)), (9, .int (v9)), (10, .int (v10))] []) (hI : z_I kd q) (f_l0 : kd 0 = some (.inl 12)) (h : L_X12_layOff_96 K P75 P84 v1 v2 v3 v4 v5 v6 v7 v8 v9 v10 v11 μ) : z_X p l e rm_X12_layOff s m args below meth c 14 D A (MQ below (z_Qn D A ρ kd (z_Ki q K)) args s 0 0 A) 0 0 ρ kd q μ 96 [(0, .ref (0)), (1, .int (v1)), (2, .int (v2)), (3, .int (v3)), (4, .int (v4)), (5, .int (v5)), (6, .int (v6)), (7, .int (v7)), (8, .int (v8)), (9, .int (v9)), (10, .int (v10)), (11, .int (v11))] [] :=
  h (fun (v1 : Int32) (v2 : Int32) (v3 : Int32) (v4 : Int32) (v5 : Int32) (v6 : Int32) (v7 : Int32) (v8 : Int32) (v9 : Int32) (v10 : Int32) (v11 : Int32) (μ : z_M) => (kd 0 = some (.inl 12)) → z_X p l e rm_X12_layOff s m args below meth c 14 D A (MQ below (z_Qn D A ρ kd (z_Ki q K)) args s 0 0 A) 0 0 ρ kd q μ 96 [(0, .ref (0)), (1, .int (v1)), (2, .int (v2)), (3, .int (v3)), (4, .int (v4)), (5, .int (v5)), (6, .int (v6)), (7, .int (v7)), (8, .int (v8)), (9, .int (v9)), (10, .int (v10)), (11, .int (v11))] []) (fun v1 v2 v3 v4 v5 v6 v7 v8 v9 v10 v11 μ h f_l0 => B_X12_layOff_96_ok G hr hlk hP75 hP84 (fun _ _ _ _ _ _ _ _ _ _ _ _ h => h) hI f_l0 h) f_l0
set_option maxRecDepth 100000 in
set_option maxHeartbeats 4000000 in
theorem B_X12_layOff_84_ok {p : Program} {l : Launch} {e : Env} {s : State} {m : MethodId} {args : Array Value} {below : List Frame} {meth : Method} {c : Code} {D : va_G} {A : Nat → Prop} {ρ : z_A} {kd : z_K} {q : z_Q} {μ : z_M} {K : Int32 → z_M → Prop} {P75 : Int32 → Int32 → Int32 → Int32 → Int32 → Int32 → Int32 → Int32 → Int32 → z_M → Prop} {P84 : Int32 → Int32 → Int32 → Int32 → Int32 → Int32 → Int32 → Int32 → Int32 → Int32 → z_M → Prop} {v1 : Int32} {v2 : Int32} {v3 : Int32} {v4 : Int32} {v5 : Int32} {v6 : Int32} {v7 : Int32} {v8 : Int32} {v9 : Int32} {v10 : Int32} (G : z_G p c cX12_layOff s m args RX12 14 D) (hr : meth.sig.returnType = (Option.some Jvm.ClassFile.FieldType.int)) (hlk : meth.locks = false) (hP75 : ∀ (v1 : Int32) (v2 : Int32) (v3 : Int32) (v4 : Int32) (v5 : Int32) (v6 : Int32) (v7 : Int32) (v8 : Int32) (v9 : Int32) (μ : z_M), P75 v1 v2 v3 v4 v5 v6 v7 v8 v9 μ → (kd 0 = some (.inl 12)) → z_X p l e rm_X12_layOff s m args below meth c 14 D A (MQ below (z_Qn D A ρ kd (z_Ki q K)) args s 0 0 A) 0 0 ρ kd q μ 75 [(0, .ref (0)), (1, .int (v1)), (2, .int (v2)), (3, .int (v3)), (4, .int (v4)), (5, .int (v5)), (6, .int (v6)), (7, .int (v7)), (8, .int (v8)), (9, .int (v9))] []) (hP84 : ∀ (v1 : Int32) (v2 : Int32) (v3 : Int32) (v4 : Int32) (v5 : Int32) (v6 : Int32) (v7 : Int32) (v8 : Int32) (v9 : Int32) (v10 : Int32) (μ : z_M), P84 v1 v2 v3 v4 v5 v6 v7 v8 v9 v10 μ → (kd 0 = some (.inl 12)) → z_X p l e rm_X12_layOff s m args below meth c 14 D A (MQ below (z_Qn D A ρ kd (z_Ki q K)) args s 0 0 A) 0 0 ρ kd q μ 84 [(0, .ref (0)), (1, .int (v1)), (2, .int (v2)), (3, .int (v3)), (4, .int (v4)), (5, .int (v5)), (6, .int (v6)), (7, .int (v7)), (8, .int (v8)), (9, .int (v9)), (10, .int (v10))] []) (hI : z_I kd q) (f_l0 : kd 0 = some (.inl 12)) (h : B_X12_layOff_84 K P75 P84 v1 v2 v3 v4 v5 v6 v7 v8 v9 v10 μ) : z_X p l e rm_X12_layOff s m args below meth c 14 D A (MQ below (z_Qn D A ρ kd (z_Ki q K)) args s 0 0 A) 0 0 ρ kd q μ 84 [(0, .ref (0)), (1, .int (v1)), (2, .int (v2)), (3, .int (v3)), (4, .int (v4)), (5, .int (v5)), (6, .int (v6)), (7, .int (v7)), (8, .int (v8)), (9, .int (v9)), (10, .int (v10))] [] := by
    unfold B_X12_layOff_84 at h
    refine zx_iload (pc := 84) G 10 rfl (z_dec T_X12_layOff_ok 45 (84, .iload 10, 2) rfl) ?_
    refine zx_aload_n (pc := 86) G (some (0)) 0 rfl rfl (z_dec T_X12_layOff_ok 46 (86, .aload_n 0, 1) rfl) ?_
    refine zx_getI (pc := 87) G gf_RX12_144 rfl f_l0 (z_dec T_X12_layOff_ok 47 (87, .getfield 144, 3) rfl) ?_
    refine zx_icmp_ge (pc := 90) (tgt := 199) G rfl (z_dec T_X12_layOff_ok 48 (90, .if_icmp .ge 109, 3) rfl) (fun hc => ?_) (fun hc => ?_)
    · replace h := z_pos hc h
      refine zx_iinc (pc := 199) (v := v9 + 100) (lv' := [(9, .int (v9 + 100)), (0, .ref (0)), (1, .int (v1)), (2, .int (v2)), (3, .int (v3)), (4, .int (v4)), (5, .int (v5)), (6, .int (v6)), (7, .int (v7)), (8, .int (v8)), (10, .int (v10))]) G 9 rfl (z_inc (by decide)) (Nat.le_of_ble_eq_true rfl) rfl (z_dec T_X12_layOff_ok 101 (199, .iinc 9 100, 3) rfl) ?_
      refine zx_goto (pc := 202) (tgt := 75) G rfl (z_dec T_X12_layOff_ok 102 (202, .goto (-127), 3) rfl) ?_
      refine zx_sub (lv' := [(0, .ref (0)), (1, .int (v1)), (2, .int (v2)), (3, .int (v3)), (4, .int (v4)), (5, .int (v5)), (6, .int (v6)), (7, .int (v7)), (8, .int (v8)), (9, .int (v9 + 100))]) [1, 2, 3, 4, 5, 6, 7, 8, 9, 0] rfl ?_
      exact hP75 _ _ _ _ _ _ _ _ _ _ h f_l0
    · replace h := z_neg hc h
      refine zx_iconst (pc := 93) (v := 0) G (z_dec T_X12_layOff_ok 49 (93, .iconst 0, 1) rfl) rfl ?_
      refine zx_istore (pc := 94) (lv' := [(11, .int ((0 : Int32))), (0, .ref (0)), (1, .int (v1)), (2, .int (v2)), (3, .int (v3)), (4, .int (v4)), (5, .int (v5)), (6, .int (v6)), (7, .int (v7)), (8, .int (v8)), (9, .int (v9)), (10, .int (v10))]) G (Nat.le_of_ble_eq_true rfl) rfl (z_dec T_X12_layOff_ok 50 (94, .istore 11, 2) rfl) ?_
      refine zx_sub (lv' := [(0, .ref (0)), (1, .int (v1)), (2, .int (v2)), (3, .int (v3)), (4, .int (v4)), (5, .int (v5)), (6, .int (v6)), (7, .int (v7)), (8, .int (v8)), (9, .int (v9)), (10, .int (v10)), (11, .int ((0 : Int32)))]) [1, 2, 3, 4, 5, 6, 7, 8, 9, 10, 11, 0] rfl ?_
      exact L_X12_layOff_96_ok G hr hlk hP75 hP84 hI f_l0 h
set_option maxRecDepth 100000 in
set_option maxHeartbeats 4000000 in
theorem L_X12_layOff_84_ok {p : Program} {l : Launch} {e : Env} {s : State} {m : MethodId} {args : Array Value} {below : List Frame} {meth : Method} {c : Code} {D : va_G} {A : Nat → Prop} {ρ : z_A} {kd : z_K} {q : z_Q} {μ : z_M} {K : Int32 → z_M → Prop} {P75 : Int32 → Int32 → Int32 → Int32 → Int32 → Int32 → Int32 → Int32 → Int32 → z_M → Prop} {v1 : Int32} {v2 : Int32} {v3 : Int32} {v4 : Int32} {v5 : Int32} {v6 : Int32} {v7 : Int32} {v8 : Int32} {v9 : Int32} {v10 : Int32} (G : z_G p c cX12_layOff s m args RX12 14 D) (hr : meth.sig.returnType = (Option.some Jvm.ClassFile.FieldType.int)) (hlk : meth.locks = false) (hP75 : ∀ (v1 : Int32) (v2 : Int32) (v3 : Int32) (v4 : Int32) (v5 : Int32) (v6 : Int32) (v7 : Int32) (v8 : Int32) (v9 : Int32) (μ : z_M), P75 v1 v2 v3 v4 v5 v6 v7 v8 v9 μ → (kd 0 = some (.inl 12)) → z_X p l e rm_X12_layOff s m args below meth c 14 D A (MQ below (z_Qn D A ρ kd (z_Ki q K)) args s 0 0 A) 0 0 ρ kd q μ 75 [(0, .ref (0)), (1, .int (v1)), (2, .int (v2)), (3, .int (v3)), (4, .int (v4)), (5, .int (v5)), (6, .int (v6)), (7, .int (v7)), (8, .int (v8)), (9, .int (v9))] []) (hI : z_I kd q) (f_l0 : kd 0 = some (.inl 12)) (h : L_X12_layOff_84 K P75 v1 v2 v3 v4 v5 v6 v7 v8 v9 v10 μ) : z_X p l e rm_X12_layOff s m args below meth c 14 D A (MQ below (z_Qn D A ρ kd (z_Ki q K)) args s 0 0 A) 0 0 ρ kd q μ 84 [(0, .ref (0)), (1, .int (v1)), (2, .int (v2)), (3, .int (v3)), (4, .int (v4)), (5, .int (v5)), (6, .int (v6)), (7, .int (v7)), (8, .int (v8)), (9, .int (v9)), (10, .int (v10))] [] :=
  h (fun (v1 : Int32) (v2 : Int32) (v3 : Int32) (v4 : Int32) (v5 : Int32) (v6 : Int32) (v7 : Int32) (v8 : Int32) (v9 : Int32) (v10 : Int32) (μ : z_M) => (kd 0 = some (.inl 12)) → z_X p l e rm_X12_layOff s m args below meth c 14 D A (MQ below (z_Qn D A ρ kd (z_Ki q K)) args s 0 0 A) 0 0 ρ kd q μ 84 [(0, .ref (0)), (1, .int (v1)), (2, .int (v2)), (3, .int (v3)), (4, .int (v4)), (5, .int (v5)), (6, .int (v6)), (7, .int (v7)), (8, .int (v8)), (9, .int (v9)), (10, .int (v10))] []) (fun v1 v2 v3 v4 v5 v6 v7 v8 v9 v10 μ h f_l0 => B_X12_layOff_84_ok G hr hlk hP75 (fun _ _ _ _ _ _ _ _ _ _ _ h => h) hI f_l0 h) f_l0
set_option maxRecDepth 100000 in
set_option maxHeartbeats 4000000 in
theorem B_X12_layOff_75_ok {p : Program} {l : Launch} {e : Env} {s : State} {m : MethodId} {args : Array Value} {below : List Frame} {meth : Method} {c : Code} {D : va_G} {A : Nat → Prop} {ρ : z_A} {kd : z_K} {q : z_Q} {μ : z_M} {K : Int32 → z_M → Prop} {P75 : Int32 → Int32 → Int32 → Int32 → Int32 → Int32 → Int32 → Int32 → Int32 → z_M → Prop} {v1 : Int32} {v2 : Int32} {v3 : Int32} {v4 : Int32} {v5 : Int32} {v6 : Int32} {v7 : Int32} {v8 : Int32} {v9 : Int32} (G : z_G p c cX12_layOff s m args RX12 14 D) (hr : meth.sig.returnType = (Option.some Jvm.ClassFile.FieldType.int)) (hlk : meth.locks = false) (hP75 : ∀ (v1 : Int32) (v2 : Int32) (v3 : Int32) (v4 : Int32) (v5 : Int32) (v6 : Int32) (v7 : Int32) (v8 : Int32) (v9 : Int32) (μ : z_M), P75 v1 v2 v3 v4 v5 v6 v7 v8 v9 μ → (kd 0 = some (.inl 12)) → z_X p l e rm_X12_layOff s m args below meth c 14 D A (MQ below (z_Qn D A ρ kd (z_Ki q K)) args s 0 0 A) 0 0 ρ kd q μ 75 [(0, .ref (0)), (1, .int (v1)), (2, .int (v2)), (3, .int (v3)), (4, .int (v4)), (5, .int (v5)), (6, .int (v6)), (7, .int (v7)), (8, .int (v8)), (9, .int (v9))] []) (hI : z_I kd q) (f_l0 : kd 0 = some (.inl 12)) (h : B_X12_layOff_75 K P75 v1 v2 v3 v4 v5 v6 v7 v8 v9 μ) : z_X p l e rm_X12_layOff s m args below meth c 14 D A (MQ below (z_Qn D A ρ kd (z_Ki q K)) args s 0 0 A) 0 0 ρ kd q μ 75 [(0, .ref (0)), (1, .int (v1)), (2, .int (v2)), (3, .int (v3)), (4, .int (v4)), (5, .int (v5)), (6, .int (v6)), (7, .int (v7)), (8, .int (v8)), (9, .int (v9))] [] := by
    unfold B_X12_layOff_75 at h
    refine zx_iload (pc := 75) G 9 rfl (z_dec T_X12_layOff_ok 40 (75, .iload 9, 2) rfl) ?_
    refine zx_iload_n (pc := 77) G 3 rfl rfl (z_dec T_X12_layOff_ok 41 (77, .iload_n 3, 1) rfl) ?_
    refine zx_icmp_gt (pc := 78) (tgt := 205) G rfl (z_dec T_X12_layOff_ok 42 (78, .if_icmp .gt 127, 3) rfl) (fun hc => ?_) (fun hc => ?_)
    · replace h := z_pos hc h
      refine zx_iload (pc := 205) G 6 rfl (z_dec T_X12_layOff_ok 103 (205, .iload 6, 2) rfl) ?_
      refine zx_iconst (pc := 207) (v := -1) G (z_dec T_X12_layOff_ok 104 (207, .iconst (-1), 1) rfl) rfl ?_
      refine zx_icmp_ne (pc := 208) (tgt := 216) G rfl (z_dec T_X12_layOff_ok 105 (208, .if_icmp .ne 8, 3) rfl) (fun hc => ?_) (fun hc => ?_)
      · replace h := z_neg hc h
        refine zx_iload (pc := 216) G 4 rfl (z_dec T_X12_layOff_ok 108 (216, .iload 4, 2) rfl) ?_
        refine zx_if_ne (pc := 218) (tgt := 226) G rfl (z_dec T_X12_layOff_ok 109 (218, .ifCond .ne 8, 3) rfl) (fun hc => ?_) (fun hc => ?_)
        · replace h := z_neg hc h
          refine zx_iload (pc := 226) G 4 rfl (z_dec T_X12_layOff_ok 112 (226, .iload 4, 2) rfl) ?_
          refine zx_iconst (pc := 228) (v := 1) G (z_dec T_X12_layOff_ok 113 (228, .iconst 1, 1) rfl) rfl ?_
          refine zx_icmp_ne (pc := 229) (tgt := 237) G rfl (z_dec T_X12_layOff_ok 114 (229, .if_icmp .ne 8, 3) rfl) (fun hc => ?_) (fun hc => ?_)
          · replace h := z_neg hc h
            refine zx_iload (pc := 237) G 4 rfl (z_dec T_X12_layOff_ok 117 (237, .iload 4, 2) rfl) ?_
            refine zx_iconst (pc := 239) (v := 2) G (z_dec T_X12_layOff_ok 118 (239, .iconst 2, 1) rfl) rfl ?_
            refine zx_icmp_ne (pc := 240) (tgt := 248) G rfl (z_dec T_X12_layOff_ok 119 (240, .if_icmp .ne 8, 3) rfl) (fun hc => ?_) (fun hc => ?_)
            · replace h := z_neg hc h
              refine zx_iload (pc := 248) G 5 rfl (z_dec T_X12_layOff_ok 122 (248, .iload 5, 2) rfl) ?_
              exact zx_iret (pc := 250) G hr hlk (Nat.le_refl _) (Nat.le_refl _) (z_dec T_X12_layOff_ok 123 (250, .ireturn, 1) rfl) ⟨rfl, _, rfl, h⟩
            · replace h := z_pos hc h
              refine zx_iload (pc := 243) G 8 rfl (z_dec T_X12_layOff_ok 120 (243, .iload 8, 2) rfl) ?_
              refine zx_goto (pc := 245) (tgt := 250) G rfl (z_dec T_X12_layOff_ok 121 (245, .goto 5, 3) rfl) ?_
              exact zx_iret (pc := 250) G hr hlk (Nat.le_refl _) (Nat.le_refl _) (z_dec T_X12_layOff_ok 123 (250, .ireturn, 1) rfl) ⟨rfl, _, rfl, h⟩
          · replace h := z_pos hc h
            refine zx_iload (pc := 232) G 7 rfl (z_dec T_X12_layOff_ok 115 (232, .iload 7, 2) rfl) ?_
            refine zx_goto (pc := 234) (tgt := 250) G rfl (z_dec T_X12_layOff_ok 116 (234, .goto 16, 3) rfl) ?_
            exact zx_iret (pc := 250) G hr hlk (Nat.le_refl _) (Nat.le_refl _) (z_dec T_X12_layOff_ok 123 (250, .ireturn, 1) rfl) ⟨rfl, _, rfl, h⟩
        · replace h := z_pos hc h
          refine zx_iload (pc := 221) G 6 rfl (z_dec T_X12_layOff_ok 110 (221, .iload 6, 2) rfl) ?_
          refine zx_goto (pc := 223) (tgt := 250) G rfl (z_dec T_X12_layOff_ok 111 (223, .goto 27, 3) rfl) ?_
          exact zx_iret (pc := 250) G hr hlk (Nat.le_refl _) (Nat.le_refl _) (z_dec T_X12_layOff_ok 123 (250, .ireturn, 1) rfl) ⟨rfl, _, rfl, h⟩
      · replace h := z_pos hc h
        refine zx_bipush (pc := 211) (v := -2) G (z_dec T_X12_layOff_ok 106 (211, .bipush (-2), 2) rfl) rfl ?_
        refine zx_goto (pc := 213) (tgt := 250) G rfl (z_dec T_X12_layOff_ok 107 (213, .goto 37, 3) rfl) ?_
        exact zx_iret (pc := 250) G hr hlk (Nat.le_refl _) (Nat.le_refl _) (z_dec T_X12_layOff_ok 123 (250, .ireturn, 1) rfl) ⟨rfl, _, rfl, h⟩
    · replace h := z_neg hc h
      refine zx_iconst (pc := 81) (v := 0) G (z_dec T_X12_layOff_ok 43 (81, .iconst 0, 1) rfl) rfl ?_
      refine zx_istore (pc := 82) (lv' := [(10, .int ((0 : Int32))), (0, .ref (0)), (1, .int (v1)), (2, .int (v2)), (3, .int (v3)), (4, .int (v4)), (5, .int (v5)), (6, .int (v6)), (7, .int (v7)), (8, .int (v8)), (9, .int (v9))]) G (Nat.le_of_ble_eq_true rfl) rfl (z_dec T_X12_layOff_ok 44 (82, .istore 10, 2) rfl) ?_
      refine zx_sub (lv' := [(0, .ref (0)), (1, .int (v1)), (2, .int (v2)), (3, .int (v3)), (4, .int (v4)), (5, .int (v5)), (6, .int (v6)), (7, .int (v7)), (8, .int (v8)), (9, .int (v9)), (10, .int ((0 : Int32)))]) [1, 2, 3, 4, 5, 6, 7, 8, 9, 10, 0] rfl ?_
      exact L_X12_layOff_84_ok G hr hlk hP75 hI f_l0 h
set_option maxRecDepth 100000 in
set_option maxHeartbeats 4000000 in
theorem L_X12_layOff_75_ok {p : Program} {l : Launch} {e : Env} {s : State} {m : MethodId} {args : Array Value} {below : List Frame} {meth : Method} {c : Code} {D : va_G} {A : Nat → Prop} {ρ : z_A} {kd : z_K} {q : z_Q} {μ : z_M} {K : Int32 → z_M → Prop} {v1 : Int32} {v2 : Int32} {v3 : Int32} {v4 : Int32} {v5 : Int32} {v6 : Int32} {v7 : Int32} {v8 : Int32} {v9 : Int32} (G : z_G p c cX12_layOff s m args RX12 14 D) (hr : meth.sig.returnType = (Option.some Jvm.ClassFile.FieldType.int)) (hlk : meth.locks = false) (hI : z_I kd q) (f_l0 : kd 0 = some (.inl 12)) (h : L_X12_layOff_75 K v1 v2 v3 v4 v5 v6 v7 v8 v9 μ) : z_X p l e rm_X12_layOff s m args below meth c 14 D A (MQ below (z_Qn D A ρ kd (z_Ki q K)) args s 0 0 A) 0 0 ρ kd q μ 75 [(0, .ref (0)), (1, .int (v1)), (2, .int (v2)), (3, .int (v3)), (4, .int (v4)), (5, .int (v5)), (6, .int (v6)), (7, .int (v7)), (8, .int (v8)), (9, .int (v9))] [] :=
  h (fun (v1 : Int32) (v2 : Int32) (v3 : Int32) (v4 : Int32) (v5 : Int32) (v6 : Int32) (v7 : Int32) (v8 : Int32) (v9 : Int32) (μ : z_M) => (kd 0 = some (.inl 12)) → z_X p l e rm_X12_layOff s m args below meth c 14 D A (MQ below (z_Qn D A ρ kd (z_Ki q K)) args s 0 0 A) 0 0 ρ kd q μ 75 [(0, .ref (0)), (1, .int (v1)), (2, .int (v2)), (3, .int (v3)), (4, .int (v4)), (5, .int (v5)), (6, .int (v6)), (7, .int (v7)), (8, .int (v8)), (9, .int (v9))] []) (fun v1 v2 v3 v4 v5 v6 v7 v8 v9 μ h f_l0 => B_X12_layOff_75_ok G hr hlk (fun _ _ _ _ _ _ _ _ _ _ h => h) hI f_l0 h) f_l0
set_option maxRecDepth 100000 in
set_option maxHeartbeats 4000000 in
theorem met_X12_layOff (l : Launch) (D : va_G) (ρ : z_A) (kd : z_K) (q : z_Q) (μ : z_M) (sz : Nat) (a1 : Int32) (a2 : Int32) (a3 : Int32) (a4 : Int32) (K : Int32 → z_M → Prop) (hI : z_I kd q) (h_o : kd 0 = some (.inl 12)) (h : C_X12_layOff a1 a2 a3 a4 μ K) : Met l yX12_layOff (z_ws yX12_layOff cX12_layOff 14 (Option.some Jvm.ClassFile.FieldType.int)) rm_X12_layOff (z_Pc D ρ kd q μ sz [.ref (0), .int (a1), .int (a2), .int (a3), .int (a4)]) (z_Qn D (z_Rg ρ sz) ρ kd (z_Ki q K)) 0 0 (z_Rg ρ sz) := by
  refine z_met (rm := rm_X12_layOff) (by decide) (Nat.le_of_ble_eq_true rfl) (fun p e s m args below meth c G hr hlk => ?_)
  unfold C_X12_layOff at h
  show z_X _ _ _ _ _ _ _ _ _ _ _ _ _ _ _ _ _ _ _ _ _ [(0, .ref (0)), (1, .int (a1)), (2, .int (a2)), (3, .int (a3)), (4, .int (a4))] _
  refine zx_aload_n (pc := 0) G (some (0)) 0 rfl rfl (z_dec T_X12_layOff_ok 0 (0, .aload_n 0, 1) rfl) ?_
  refine zx_iload_n (pc := 1) G 1 rfl rfl (z_dec T_X12_layOff_ok 1 (1, .iload_n 1, 1) rfl) ?_
  refine zx_callV_zN (pc := 2) (rm := rm_X12_isBook) G cw_RX12_180 ⟨Nat.le_of_ble_eq_true rfl, Nat.le_of_ble_eq_true rfl⟩ rfl rfl ⟨Nat.zero_le _, Nat.zero_le _⟩ h_o rfl (fun sz => (met_X12_isBook l D ρ kd q μ sz a1 _ hI h_o h)) rfl rfl (Nat.le_of_ble_eq_true rfl) (z_dec T_X12_layOff_ok 2 (2, .invokevirtual 180, 3) rfl) (fun r2 μ1 hzr2 hn => ?_)
  clear h
  have h := hn
  clear hn
  refine zx_if_eq (pc := 5) (tgt := 52) G rfl (z_dec T_X12_layOff_ok 3 (5, .ifCond .eq 47, 3) rfl) (fun hc => ?_) (fun hc => ?_)
  · replace h := z_pos hc h
    refine zx_iconst (pc := 52) (v := -1) G (z_dec T_X12_layOff_ok 25 (52, .iconst (-1), 1) rfl) rfl ?_
    exact zx_iret (pc := 53) G hr hlk (Nat.le_refl _) (Nat.le_refl _) (z_dec T_X12_layOff_ok 26 (53, .ireturn, 1) rfl) ⟨rfl, _, rfl, h⟩
  · replace h := z_neg hc h
    refine zx_aload_n (pc := 8) G (some (0)) 0 rfl rfl (z_dec T_X12_layOff_ok 4 (8, .aload_n 0, 1) rfl) ?_
    refine zx_iload_n (pc := 9) G 2 rfl rfl (z_dec T_X12_layOff_ok 5 (9, .iload_n 2, 1) rfl) ?_
    refine zx_callV_zN (pc := 10) (rm := rm_X12_isRace) G cw_RX12_147 ⟨Nat.le_of_ble_eq_true rfl, Nat.le_of_ble_eq_true rfl⟩ rfl rfl ⟨Nat.zero_le _, Nat.zero_le _⟩ h_o rfl (fun sz => (met_X12_isRace l D ρ kd q μ1 sz a2 _ hI h_o h)) rfl rfl (Nat.le_of_ble_eq_true rfl) (z_dec T_X12_layOff_ok 6 (10, .invokevirtual 147, 3) rfl) (fun r4 μ3 hzr4 hn => ?_)
    clear h
    have h := hn
    clear hn
    refine zx_if_eq (pc := 13) (tgt := 52) G rfl (z_dec T_X12_layOff_ok 7 (13, .ifCond .eq 39, 3) rfl) (fun hc => ?_) (fun hc => ?_)
    · replace h := z_pos hc h
      refine zx_iconst (pc := 52) (v := -1) G (z_dec T_X12_layOff_ok 25 (52, .iconst (-1), 1) rfl) rfl ?_
      exact zx_iret (pc := 53) G hr hlk (Nat.le_refl _) (Nat.le_refl _) (z_dec T_X12_layOff_ok 26 (53, .ireturn, 1) rfl) ⟨rfl, _, rfl, h⟩
    · replace h := z_neg hc h
      refine zx_aload_n (pc := 16) G (some (0)) 0 rfl rfl (z_dec T_X12_layOff_ok 8 (16, .aload_n 0, 1) rfl) ?_
      refine zx_getF (pc := 17) (b := 12) G gf_RX12_26 rfl h_o (zq_12_11 hI h_o) (z_dec T_X12_layOff_ok 9 (17, .getfield 26, 3) rfl) ?_
      refine zx_iload_n (pc := 20) G 2 rfl rfl (z_dec T_X12_layOff_ok 10 (20, .iload_n 2, 1) rfl) ?_
      obtain ⟨c5, h⟩ := h
      refine zx_zald (pc := 21) G (zk_12_11 hI h_o) c5 (z_dec T_X12_layOff_ok 11 (21, .baload, 1) rfl) ?_
      refine zx_if_ne (pc := 22) (tgt := 52) G rfl (z_dec T_X12_layOff_ok 12 (22, .ifCond .ne 30, 3) rfl) (fun hc => ?_) (fun hc => ?_)
      · replace h := z_neg hc h
        refine zx_iconst (pc := 52) (v := -1) G (z_dec T_X12_layOff_ok 25 (52, .iconst (-1), 1) rfl) rfl ?_
        exact zx_iret (pc := 53) G hr hlk (Nat.le_refl _) (Nat.le_refl _) (z_dec T_X12_layOff_ok 26 (53, .ireturn, 1) rfl) ⟨rfl, _, rfl, h⟩
      · replace h := z_pos hc h
        refine zx_iload_n (pc := 25) G 3 rfl rfl (z_dec T_X12_layOff_ok 13 (25, .iload_n 3, 1) rfl) ?_
        refine zx_i2l (pc := 26) G  (z_dec T_X12_layOff_ok 14 (26, .i2l, 1) rfl) ?_
        refine zx_ldc2 (pc := 27) G wk_RX12_402 (z_dec T_X12_layOff_ok 15 (27, .ldc2_w 402, 3) rfl) ?_
        refine zx_ldc2 (pc := 30) G wk_RX12_456 (z_dec T_X12_layOff_ok 16 (30, .ldc2_w 456, 3) rfl) ?_
        refine zx_callS_zN (pc := 33) (rm := rm_X12_lies) G cw_RX12_140 ⟨Nat.le_of_ble_eq_true rfl, Nat.le_of_ble_eq_true rfl⟩ rfl rfl ⟨Nat.zero_le _, Nat.zero_le _⟩ (fun sz => (met_X12_lies l D ρ kd q μ3 sz a3.toInt64 ((100 : Int64)) ((5000 : Int64)) _ hI h)) rfl rfl (Nat.le_of_ble_eq_true rfl) (z_dec T_X12_layOff_ok 17 (33, .invokestatic 140, 3) rfl) (fun r7 μ6 hzr7 hn => ?_)
        clear h
        have h := hn
        clear hn
        refine zx_if_eq (pc := 36) (tgt := 52) G rfl (z_dec T_X12_layOff_ok 18 (36, .ifCond .eq 16, 3) rfl) (fun hc => ?_) (fun hc => ?_)
        · replace h := z_pos hc h
          refine zx_iconst (pc := 52) (v := -1) G (z_dec T_X12_layOff_ok 25 (52, .iconst (-1), 1) rfl) rfl ?_
          exact zx_iret (pc := 53) G hr hlk (Nat.le_refl _) (Nat.le_refl _) (z_dec T_X12_layOff_ok 26 (53, .ireturn, 1) rfl) ⟨rfl, _, rfl, h⟩
        · replace h := z_neg hc h
          refine zx_iload (pc := 39) G 4 rfl (z_dec T_X12_layOff_ok 19 (39, .iload 4, 2) rfl) ?_
          refine zx_i2l (pc := 41) G  (z_dec T_X12_layOff_ok 20 (41, .i2l, 1) rfl) ?_
          refine zx_lconst (pc := 42) (v := 0) G (z_dec T_X12_layOff_ok 21 (42, .lconst 0, 1) rfl) rfl ?_
          refine zx_ldc2 (pc := 43) G wk_RX12_446 (z_dec T_X12_layOff_ok 22 (43, .ldc2_w 446, 3) rfl) ?_
          refine zx_callS_zN (pc := 46) (rm := rm_X12_lies) G cw_RX12_140 ⟨Nat.le_of_ble_eq_true rfl, Nat.le_of_ble_eq_true rfl⟩ rfl rfl ⟨Nat.zero_le _, Nat.zero_le _⟩ (fun sz => (met_X12_lies l D ρ kd q μ6 sz a4.toInt64 ((0 : Int64)) ((3 : Int64)) _ hI h)) rfl rfl (Nat.le_of_ble_eq_true rfl) (z_dec T_X12_layOff_ok 23 (46, .invokestatic 140, 3) rfl) (fun r9 μ8 hzr9 hn => ?_)
          clear h
          have h := hn
          clear hn
          refine zx_if_ne (pc := 49) (tgt := 54) G rfl (z_dec T_X12_layOff_ok 24 (49, .ifCond .ne 5, 3) rfl) (fun hc => ?_) (fun hc => ?_)
          · replace h := z_neg hc h
            refine zx_aload_n (pc := 54) G (some (0)) 0 rfl rfl (z_dec T_X12_layOff_ok 27 (54, .aload_n 0, 1) rfl) ?_
            refine zx_iload_n (pc := 55) G 1 rfl rfl (z_dec T_X12_layOff_ok 28 (55, .iload_n 1, 1) rfl) ?_
            refine zx_iload_n (pc := 56) G 2 rfl rfl (z_dec T_X12_layOff_ok 29 (56, .iload_n 2, 1) rfl) ?_
            refine zx_callV_iN (pc := 57) (rm := rm_X12_worstOf) G cw_RX12_237 ⟨Nat.le_of_ble_eq_true rfl, Nat.le_of_ble_eq_true rfl⟩ rfl rfl ⟨Nat.zero_le _, Nat.zero_le _⟩ h_o rfl (fun sz => (met_X12_worstOf l D ρ kd q μ8 sz a1 a2 _ hI h_o h)) rfl rfl (Nat.le_of_ble_eq_true rfl) (z_dec T_X12_layOff_ok 30 (57, .invokevirtual 237, 3) rfl) (fun r11 μ10 hn => ?_)
            clear h
            have h := hn
            clear hn
            refine zx_istore (pc := 60) (lv' := [(5, .int (r11)), (0, .ref (0)), (1, .int (a1)), (2, .int (a2)), (3, .int (a3)), (4, .int (a4))]) G (Nat.le_of_ble_eq_true rfl) rfl (z_dec T_X12_layOff_ok 31 (60, .istore 5, 2) rfl) ?_
            refine zx_iconst (pc := 62) (v := -1) G (z_dec T_X12_layOff_ok 32 (62, .iconst (-1), 1) rfl) rfl ?_
            refine zx_istore (pc := 63) (lv' := [(6, .int ((-1 : Int32))), (5, .int (r11)), (0, .ref (0)), (1, .int (a1)), (2, .int (a2)), (3, .int (a3)), (4, .int (a4))]) G (Nat.le_of_ble_eq_true rfl) rfl (z_dec T_X12_layOff_ok 33 (63, .istore 6, 2) rfl) ?_
            refine zx_iconst (pc := 65) (v := 0) G (z_dec T_X12_layOff_ok 34 (65, .iconst 0, 1) rfl) rfl ?_
            refine zx_istore (pc := 66) (lv' := [(7, .int ((0 : Int32))), (6, .int ((-1 : Int32))), (5, .int (r11)), (0, .ref (0)), (1, .int (a1)), (2, .int (a2)), (3, .int (a3)), (4, .int (a4))]) G (Nat.le_of_ble_eq_true rfl) rfl (z_dec T_X12_layOff_ok 35 (66, .istore 7, 2) rfl) ?_
            refine zx_iconst (pc := 68) (v := 0) G (z_dec T_X12_layOff_ok 36 (68, .iconst 0, 1) rfl) rfl ?_
            refine zx_istore (pc := 69) (lv' := [(8, .int ((0 : Int32))), (7, .int ((0 : Int32))), (6, .int ((-1 : Int32))), (5, .int (r11)), (0, .ref (0)), (1, .int (a1)), (2, .int (a2)), (3, .int (a3)), (4, .int (a4))]) G (Nat.le_of_ble_eq_true rfl) rfl (z_dec T_X12_layOff_ok 37 (69, .istore 8, 2) rfl) ?_
            refine zx_bipush (pc := 71) (v := 100) G (z_dec T_X12_layOff_ok 38 (71, .bipush 100, 2) rfl) rfl ?_
            refine zx_istore (pc := 73) (lv' := [(9, .int ((100 : Int32))), (8, .int ((0 : Int32))), (7, .int ((0 : Int32))), (6, .int ((-1 : Int32))), (5, .int (r11)), (0, .ref (0)), (1, .int (a1)), (2, .int (a2)), (3, .int (a3)), (4, .int (a4))]) G (Nat.le_of_ble_eq_true rfl) rfl (z_dec T_X12_layOff_ok 39 (73, .istore 9, 2) rfl) ?_
            refine zx_sub (lv' := [(0, .ref (0)), (1, .int (a1)), (2, .int (a2)), (3, .int (a3)), (4, .int (a4)), (5, .int (r11)), (6, .int ((-1 : Int32))), (7, .int ((0 : Int32))), (8, .int ((0 : Int32))), (9, .int ((100 : Int32)))]) [5, 6, 7, 8, 9, 4, 3, 2, 1, 0] rfl ?_
            exact L_X12_layOff_75_ok G hr hlk hI h_o h
          · replace h := z_pos hc h
            refine zx_iconst (pc := 52) (v := -1) G (z_dec T_X12_layOff_ok 25 (52, .iconst (-1), 1) rfl) rfl ?_
            exact zx_iret (pc := 53) G hr hlk (Nat.le_refl _) (Nat.le_refl _) (z_dec T_X12_layOff_ok 26 (53, .ireturn, 1) rfl) ⟨rfl, _, rfl, h⟩
abbrev rm_X12_wouldWin : Room := { frames := 9, cells := 0, slots := 0, locals := 211 }
set_option maxRecDepth 100000 in
set_option maxHeartbeats 4000000 in
theorem B_X12_wouldWin_179_ok {p : Program} {l : Launch} {e : Env} {s : State} {m : MethodId} {args : Array Value} {below : List Frame} {meth : Method} {c : Code} {D : va_G} {A : Nat → Prop} {ρ : z_A} {kd : z_K} {q : z_Q} {μ : z_M} {K : Int32 → z_M → Prop} {P179 : Int32 → Int32 → z_M → Prop} {v8 : Int32} {v9 : Int32} (G : z_G p c cX12_wouldWin s m args RX12 12 D) (hr : meth.sig.returnType = (Option.some Jvm.ClassFile.FieldType.int)) (hlk : meth.locks = false) (hP179 : ∀ (v8 : Int32) (v9 : Int32) (μ : z_M), P179 v8 v9 μ → (kd 0 = some (.inl 12)) → z_X p l e rm_X12_wouldWin s m args below meth c 12 D A (MQ below (z_Qn D A ρ kd (z_Ki q K)) args s 0 0 A) 0 0 ρ kd q μ 179 [(0, .ref (0)), (8, .int (v8)), (9, .int (v9))] []) (hI : z_I kd q) (f_l0 : kd 0 = some (.inl 12)) (h : B_X12_wouldWin_179 K P179 v8 v9 μ) : z_X p l e rm_X12_wouldWin s m args below meth c 12 D A (MQ below (z_Qn D A ρ kd (z_Ki q K)) args s 0 0 A) 0 0 ρ kd q μ 179 [(0, .ref (0)), (8, .int (v8)), (9, .int (v9))] [] := by
    unfold B_X12_wouldWin_179 at h
    refine zx_iload (pc := 179) G 2 rfl (z_dec T_X12_wouldWin_ok 97 (179, .iload 9, 2) rfl) ?_
    refine zx_bipush (pc := 181) (v := 96) G (z_dec T_X12_wouldWin_ok 98 (181, .bipush 96, 2) rfl) rfl ?_
    refine zx_icmp_ge (pc := 183) (tgt := 206) G rfl (z_dec T_X12_wouldWin_ok 99 (183, .if_icmp .ge 23, 3) rfl) (fun hc => ?_) (fun hc => ?_)
    · replace h := z_pos hc h
      refine zx_iload (pc := 206) G 1 rfl (z_dec T_X12_wouldWin_ok 110 (206, .iload 8, 2) rfl) ?_
      exact zx_iret (pc := 208) G hr hlk (Nat.le_refl _) (Nat.le_refl _) (z_dec T_X12_wouldWin_ok 111 (208, .ireturn, 1) rfl) ⟨rfl, _, rfl, h⟩
    · replace h := z_neg hc h
      refine zx_aload_n (pc := 186) G (some (0)) 0 rfl rfl (z_dec T_X12_wouldWin_ok 100 (186, .aload_n 0, 1) rfl) ?_
      refine zx_getF (pc := 187) (b := 17) G gf_RX12_42 rfl f_l0 (zq_12_16 hI f_l0) (z_dec T_X12_wouldWin_ok 101 (187, .getfield 42, 3) rfl) ?_
      refine zx_iload (pc := 190) G 2 rfl (z_dec T_X12_wouldWin_ok 102 (190, .iload 9, 2) rfl) ?_
      refine zx_aload_n (pc := 192) G (some (0)) 0 rfl rfl (z_dec T_X12_wouldWin_ok 103 (192, .aload_n 0, 1) rfl) ?_
      refine zx_getF (pc := 193) (b := 61) G gf_RX12_133 rfl f_l0 (zq_12_60 hI f_l0) (z_dec T_X12_wouldWin_ok 104 (193, .getfield 133, 3) rfl) ?_
      refine zx_iload (pc := 196) G 2 rfl (z_dec T_X12_wouldWin_ok 105 (196, .iload 9, 2) rfl) ?_
      obtain ⟨c1, h⟩ := h
      refine zx_iald (pc := 198) G (zk_12_60 hI f_l0) c1 (z_dec T_X12_wouldWin_ok 106 (198, .iaload, 1) rfl) ?_
      refine zx_iast (pc := 199) G (zk_12_16 hI f_l0) c1 (z_dec T_X12_wouldWin_ok 107 (199, .iastore, 1) rfl) ?_
      refine zx_iinc (pc := 200) (v := v9 + 1) (lv' := [(9, .int (v9 + 1)), (0, .ref (0)), (8, .int (v8))]) G 2 rfl (z_inc (by decide)) (Nat.le_of_ble_eq_true rfl) rfl (z_dec T_X12_wouldWin_ok 108 (200, .iinc 9 1, 3) rfl) ?_
      refine zx_goto (pc := 203) (tgt := 179) G rfl (z_dec T_X12_wouldWin_ok 109 (203, .goto (-24), 3) rfl) ?_
      refine zx_sub (lv' := [(0, .ref (0)), (8, .int (v8)), (9, .int (v9 + 1))]) [1, 2, 0] rfl ?_
      exact hP179 _ _ _ h f_l0
set_option maxRecDepth 100000 in
set_option maxHeartbeats 4000000 in
theorem L_X12_wouldWin_179_ok {p : Program} {l : Launch} {e : Env} {s : State} {m : MethodId} {args : Array Value} {below : List Frame} {meth : Method} {c : Code} {D : va_G} {A : Nat → Prop} {ρ : z_A} {kd : z_K} {q : z_Q} {μ : z_M} {K : Int32 → z_M → Prop} {v8 : Int32} {v9 : Int32} (G : z_G p c cX12_wouldWin s m args RX12 12 D) (hr : meth.sig.returnType = (Option.some Jvm.ClassFile.FieldType.int)) (hlk : meth.locks = false) (hI : z_I kd q) (f_l0 : kd 0 = some (.inl 12)) (h : L_X12_wouldWin_179 K v8 v9 μ) : z_X p l e rm_X12_wouldWin s m args below meth c 12 D A (MQ below (z_Qn D A ρ kd (z_Ki q K)) args s 0 0 A) 0 0 ρ kd q μ 179 [(0, .ref (0)), (8, .int (v8)), (9, .int (v9))] [] :=
  h (fun (v8 : Int32) (v9 : Int32) (μ : z_M) => (kd 0 = some (.inl 12)) → z_X p l e rm_X12_wouldWin s m args below meth c 12 D A (MQ below (z_Qn D A ρ kd (z_Ki q K)) args s 0 0 A) 0 0 ρ kd q μ 179 [(0, .ref (0)), (8, .int (v8)), (9, .int (v9))] []) (fun v8 v9 μ h f_l0 => B_X12_wouldWin_179_ok G hr hlk (fun _ _ _ h => h) hI f_l0 h) f_l0
set_option maxRecDepth 100000 in
set_option maxHeartbeats 4000000 in
theorem L_X12_wouldWin_170_ok {p : Program} {l : Launch} {e : Env} {s : State} {m : MethodId} {args : Array Value} {below : List Frame} {meth : Method} {c : Code} {D : va_G} {A : Nat → Prop} {ρ : z_A} {kd : z_K} {q : z_Q} {μ : z_M} {K : Int32 → z_M → Prop} {v7 : Int32} {v8 : Int32} (G : z_G p c cX12_wouldWin s m args RX12 12 D) (hr : meth.sig.returnType = (Option.some Jvm.ClassFile.FieldType.int)) (hlk : meth.locks = false) (hI : z_I kd q) (f_l0 : kd 0 = some (.inl 12)) (h : L_X12_wouldWin_170 K v7 v8 μ) : z_X p l e rm_X12_wouldWin s m args below meth c 12 D A (MQ below (z_Qn D A ρ kd (z_Ki q K)) args s 0 0 A) 0 0 ρ kd q μ 170 [(0, .ref (0)), (7, .int (v7)), (8, .int (v8))] [] := by
    unfold L_X12_wouldWin_170 at h
    refine zx_aload_n (pc := 170) G (some (0)) 0 rfl rfl (z_dec T_X12_wouldWin_ok 92 (170, .aload_n 0, 1) rfl) ?_
    refine zx_iload (pc := 171) G 1 rfl (z_dec T_X12_wouldWin_ok 93 (171, .iload 7, 2) rfl) ?_
    refine zx_putI (pc := 173) G gf_RX12_196 cf_12 rfl rfl f_l0 (z_dec T_X12_wouldWin_ok 94 (173, .putfield 196, 3) rfl) ?_
    refine zx_iconst (pc := 176) (v := 0) G (z_dec T_X12_wouldWin_ok 95 (176, .iconst 0, 1) rfl) rfl ?_
    refine zx_istore (pc := 177) (lv' := [(9, .int ((0 : Int32))), (0, .ref (0)), (7, .int (v7)), (8, .int (v8))]) G (Nat.le_of_ble_eq_true rfl) rfl (z_dec T_X12_wouldWin_ok 96 (177, .istore 9, 2) rfl) ?_
    refine zx_sub (lv' := [(0, .ref (0)), (8, .int (v8)), (9, .int ((0 : Int32)))]) [1, 3, 0] rfl ?_
    exact L_X12_wouldWin_179_ok G hr hlk hI f_l0 h
set_option maxRecDepth 100000 in
set_option maxHeartbeats 4000000 in
theorem L_X12_wouldWin_101_ok {p : Program} {l : Launch} {e : Env} {s : State} {m : MethodId} {args : Array Value} {below : List Frame} {meth : Method} {c : Code} {D : va_G} {A : Nat → Prop} {ρ : z_A} {kd : z_K} {q : z_Q} {μ : z_M} {K : Int32 → z_M → Prop} {P45 : Int32 → Int32 → Int32 → Int32 → Int32 → Int32 → Int32 → Int32 → z_M → Prop} {v1 : Int32} {v2 : Int32} {v3 : Int32} {v4 : Int32} {v6 : Int32} {v7 : Int32} {v8 : Int32} {v9 : Int32} {v10 : Int32} {t0 : Int32} (G : z_G p c cX12_wouldWin s m args RX12 12 D) (hr : meth.sig.returnType = (Option.some Jvm.ClassFile.FieldType.int)) (hlk : meth.locks = false) (hP45 : ∀ (v1 : Int32) (v2 : Int32) (v3 : Int32) (v4 : Int32) (v6 : Int32) (v7 : Int32) (v8 : Int32) (v9 : Int32) (μ : z_M), P45 v1 v2 v3 v4 v6 v7 v8 v9 μ → (kd 0 = some (.inl 12)) → z_X p l e rm_X12_wouldWin s m args below meth c 12 D A (MQ below (z_Qn D A ρ kd (z_Ki q K)) args s 0 0 A) 0 0 ρ kd q μ 45 [(0, .ref (0)), (1, .int (v1)), (2, .int (v2)), (3, .int (v3)), (4, .int (v4)), (6, .int (v6)), (7, .int (v7)), (8, .int (v8)), (9, .int (v9))] []) (hI : z_I kd q) (f_l0 : kd 0 = some (.inl 12)) (h : L_X12_wouldWin_101 K P45 v1 v2 v3 v4 v6 v7 v8 v9 v10 t0 μ) : z_X p l e rm_X12_wouldWin s m args below meth c 12 D A (MQ below (z_Qn D A ρ kd (z_Ki q K)) args s 0 0 A) 0 0 ρ kd q μ 101 [(0, .ref (0)), (1, .int (v1)), (2, .int (v2)), (3, .int (v3)), (4, .int (v4)), (6, .int (v6)), (7, .int (v7)), (8, .int (v8)), (9, .int (v9)), (10, .int (v10))] [.int (t0)] := by
    unfold L_X12_wouldWin_101 at h
    refine zx_istore (pc := 101) (lv' := [(11, .int (t0)), (0, .ref (0)), (1, .int (v1)), (2, .int (v2)), (3, .int (v3)), (4, .int (v4)), (6, .int (v6)), (7, .int (v7)), (8, .int (v8)), (9, .int (v9)), (10, .int (v10))]) G (Nat.le_of_ble_eq_true rfl) rfl (z_dec T_X12_wouldWin_ok 54 (101, .istore 11, 2) rfl) ?_
    refine zx_iload (pc := 103) G 0 rfl (z_dec T_X12_wouldWin_ok 55 (103, .iload 11, 2) rfl) ?_
    refine zx_iconst (pc := 105) (v := -1) G (z_dec T_X12_wouldWin_ok 56 (105, .iconst (-1), 1) rfl) rfl ?_
    refine zx_icmp_ne (pc := 106) (tgt := 115) G rfl (z_dec T_X12_wouldWin_ok 57 (106, .if_icmp .ne 9, 3) rfl) (fun hc => ?_) (fun hc => ?_)
    · replace h := z_neg hc h
      refine zx_iload (pc := 115) G 8 rfl (z_dec T_X12_wouldWin_ok 61 (115, .iload 8, 2) rfl) ?_
      refine zx_aload_n (pc := 117) G (some (0)) 1 rfl rfl (z_dec T_X12_wouldWin_ok 62 (117, .aload_n 0, 1) rfl) ?_
      refine zx_iload (pc := 118) G 5 rfl (z_dec T_X12_wouldWin_ok 63 (118, .iload 4, 2) rfl) ?_
      refine zx_iload (pc := 120) G 0 rfl (z_dec T_X12_wouldWin_ok 64 (120, .iload 11, 2) rfl) ?_
      refine zx_callV_iN (pc := 122) (rm := rm_X12_wonBy) G cw_RX12_230 ⟨Nat.le_of_ble_eq_true rfl, Nat.le_of_ble_eq_true rfl⟩ rfl rfl ⟨Nat.zero_le _, Nat.zero_le _⟩ f_l0 rfl (fun sz => (met_X12_wonBy l D ρ kd q μ sz v4 t0 _ hI f_l0 h)) rfl rfl (Nat.le_of_ble_eq_true rfl) (z_dec T_X12_wouldWin_ok 65 (122, .invokevirtual 230, 3) rfl) (fun r2 μ1 hn => ?_)
      clear h
      have h := hn
      clear hn
      refine zx_iadd (pc := 125) G  (z_dec T_X12_wouldWin_ok 66 (125, .iadd, 1) rfl) ?_
      refine zx_istore (pc := 126) (lv' := [(8, .int (v8 + r2)), (11, .int (t0)), (0, .ref (0)), (1, .int (v1)), (2, .int (v2)), (3, .int (v3)), (4, .int (v4)), (6, .int (v6)), (7, .int (v7)), (9, .int (v9)), (10, .int (v10))]) G (Nat.le_of_ble_eq_true rfl) rfl (z_dec T_X12_wouldWin_ok 67 (126, .istore 8, 2) rfl) ?_
      refine zx_aload_n (pc := 128) G (some (0)) 2 rfl rfl (z_dec T_X12_wouldWin_ok 68 (128, .aload_n 0, 1) rfl) ?_
      refine zx_iload_n (pc := 129) G 3 rfl rfl (z_dec T_X12_wouldWin_ok 69 (129, .iload_n 1, 1) rfl) ?_
      refine zx_iload (pc := 130) G 10 rfl (z_dec T_X12_wouldWin_ok 70 (130, .iload 10, 2) rfl) ?_
      refine zx_iconst (pc := 132) (v := 0) G (z_dec T_X12_wouldWin_ok 71 (132, .iconst 0, 1) rfl) rfl ?_
      refine zx_iload (pc := 133) G 6 rfl (z_dec T_X12_wouldWin_ok 72 (133, .iload 4, 2) rfl) ?_
      refine zx_callV_vN (pc := 135) (rm := rm_X12_writes) G cw_RX12_212 ⟨Nat.le_of_ble_eq_true rfl, Nat.le_of_ble_eq_true rfl⟩ rfl rfl ⟨Nat.zero_le _, Nat.zero_le _⟩ f_l0 rfl (fun sz => (met_X12_writes l D ρ kd q μ1 sz v1 v10 ((0 : Int32)) v4 _ hI f_l0 h)) rfl rfl (Nat.le_of_ble_eq_true rfl) (z_dec T_X12_wouldWin_ok 73 (135, .invokevirtual 212, 3) rfl) (fun μ3 hn => ?_)
      clear h
      have h := hn
      clear hn
      refine zx_aload_n (pc := 138) G (some (0)) 2 rfl rfl (z_dec T_X12_wouldWin_ok 74 (138, .aload_n 0, 1) rfl) ?_
      refine zx_iload (pc := 139) G 10 rfl (z_dec T_X12_wouldWin_ok 75 (139, .iload 10, 2) rfl) ?_
      refine zx_iload_n (pc := 141) G 4 rfl rfl (z_dec T_X12_wouldWin_ok 76 (141, .iload_n 2, 1) rfl) ?_
      refine zx_iload_n (pc := 142) G 5 rfl rfl (z_dec T_X12_wouldWin_ok 77 (142, .iload_n 3, 1) rfl) ?_
      refine zx_callV_vN (pc := 143) (rm := rm_X12_takes) G cw_RX12_216 ⟨Nat.le_of_ble_eq_true rfl, Nat.le_of_ble_eq_true rfl⟩ rfl rfl ⟨Nat.zero_le _, Nat.zero_le _⟩ f_l0 rfl (fun sz => (met_X12_takes l D ρ kd q μ3 sz v10 v2 v3 _ hI f_l0 h)) rfl rfl (Nat.le_of_ble_eq_true rfl) (z_dec T_X12_wouldWin_ok 78 (143, .invokevirtual 216, 3) rfl) (fun μ4 hn => ?_)
      clear h
      have h := hn
      clear hn
      refine zx_aload_n (pc := 146) G (some (0)) 2 rfl rfl (z_dec T_X12_wouldWin_ok 79 (146, .aload_n 0, 1) rfl) ?_
      refine zx_dup (pc := 147) G rfl (z_dec T_X12_wouldWin_ok 80 (147, .dup, 1) rfl) ?_
      refine zx_getI (pc := 148) G gf_RX12_196 rfl f_l0 (z_dec T_X12_wouldWin_ok 81 (148, .getfield 196, 3) rfl) ?_
      refine zx_iconst (pc := 151) (v := 1) G (z_dec T_X12_wouldWin_ok 82 (151, .iconst 1, 1) rfl) rfl ?_
      refine zx_iadd (pc := 152) G  (z_dec T_X12_wouldWin_ok 83 (152, .iadd, 1) rfl) ?_
      refine zx_putI (pc := 153) G gf_RX12_196 cf_12 rfl rfl f_l0 (z_dec T_X12_wouldWin_ok 84 (153, .putfield 196, 3) rfl) ?_
      refine zx_aload_n (pc := 156) G (some (0)) 2 rfl rfl (z_dec T_X12_wouldWin_ok 85 (156, .aload_n 0, 1) rfl) ?_
      refine zx_iload (pc := 157) G 10 rfl (z_dec T_X12_wouldWin_ok 86 (157, .iload 10, 2) rfl) ?_
      refine zx_iload_n (pc := 159) G 4 rfl rfl (z_dec T_X12_wouldWin_ok 87 (159, .iload_n 2, 1) rfl) ?_
      refine zx_iload_n (pc := 160) G 5 rfl rfl (z_dec T_X12_wouldWin_ok 88 (160, .iload_n 3, 1) rfl) ?_
      refine zx_callV_vN (pc := 161) (rm := rm_X12_moves) G cw_RX12_220 ⟨Nat.le_of_ble_eq_true rfl, Nat.le_of_ble_eq_true rfl⟩ rfl rfl ⟨Nat.zero_le _, Nat.zero_le _⟩ f_l0 rfl (fun sz => (met_X12_moves l D ρ kd q (si μ4 0 6 ((μ4.1 0 6) + ((1 : Int32)))) sz v10 v2 v3 _ hI f_l0 h)) rfl rfl (Nat.le_of_ble_eq_true rfl) (z_dec T_X12_wouldWin_ok 89 (161, .invokevirtual 220, 3) rfl) (fun μ5 hn => ?_)
      clear h
      have h := hn
      clear hn
      refine zx_iinc (pc := 164) (v := v9 + (-1)) (lv' := [(9, .int (v9 + (-1))), (8, .int (v8 + r2)), (11, .int (t0)), (0, .ref (0)), (1, .int (v1)), (2, .int (v2)), (3, .int (v3)), (4, .int (v4)), (6, .int (v6)), (7, .int (v7)), (10, .int (v10))]) G 9 rfl (z_inc (by decide)) (Nat.le_of_ble_eq_true rfl) rfl (z_dec T_X12_wouldWin_ok 90 (164, .iinc 9 (-1), 3) rfl) ?_
      refine zx_goto (pc := 167) (tgt := 45) G rfl (z_dec T_X12_wouldWin_ok 91 (167, .goto (-122), 3) rfl) ?_
      refine zx_sub (lv' := [(0, .ref (0)), (1, .int (v1)), (2, .int (v2)), (3, .int (v3)), (4, .int (v4)), (6, .int (v6)), (7, .int (v7)), (8, .int (v8 + r2)), (9, .int (v9 + (-1)))]) [3, 4, 5, 6, 7, 8, 9, 1, 0] rfl ?_
      exact hP45 _ _ _ _ _ _ _ _ _ h f_l0
    · replace h := z_pos hc h
      refine zx_iconst (pc := 109) (v := -1) G (z_dec T_X12_wouldWin_ok 58 (109, .iconst (-1), 1) rfl) rfl ?_
      refine zx_istore (pc := 110) (lv' := [(8, .int ((-1 : Int32))), (11, .int (t0)), (0, .ref (0)), (1, .int (v1)), (2, .int (v2)), (3, .int (v3)), (4, .int (v4)), (6, .int (v6)), (7, .int (v7)), (9, .int (v9)), (10, .int (v10))]) G (Nat.le_of_ble_eq_true rfl) rfl (z_dec T_X12_wouldWin_ok 59 (110, .istore 8, 2) rfl) ?_
      refine zx_goto (pc := 112) (tgt := 164) G rfl (z_dec T_X12_wouldWin_ok 60 (112, .goto 52, 3) rfl) ?_
      refine zx_iinc (pc := 164) (v := v9 + (-1)) (lv' := [(9, .int (v9 + (-1))), (8, .int ((-1 : Int32))), (11, .int (t0)), (0, .ref (0)), (1, .int (v1)), (2, .int (v2)), (3, .int (v3)), (4, .int (v4)), (6, .int (v6)), (7, .int (v7)), (10, .int (v10))]) G 9 rfl (z_inc (by decide)) (Nat.le_of_ble_eq_true rfl) rfl (z_dec T_X12_wouldWin_ok 90 (164, .iinc 9 (-1), 3) rfl) ?_
      refine zx_goto (pc := 167) (tgt := 45) G rfl (z_dec T_X12_wouldWin_ok 91 (167, .goto (-122), 3) rfl) ?_
      refine zx_sub (lv' := [(0, .ref (0)), (1, .int (v1)), (2, .int (v2)), (3, .int (v3)), (4, .int (v4)), (6, .int (v6)), (7, .int (v7)), (8, .int ((-1 : Int32))), (9, .int (v9 + (-1)))]) [3, 4, 5, 6, 7, 8, 9, 1, 0] rfl ?_
      exact hP45 _ _ _ _ _ _ _ _ _ h f_l0
set_option maxRecDepth 100000 in
set_option maxHeartbeats 4000000 in
theorem L_X12_wouldWin_100_ok {p : Program} {l : Launch} {e : Env} {s : State} {m : MethodId} {args : Array Value} {below : List Frame} {meth : Method} {c : Code} {D : va_G} {A : Nat → Prop} {ρ : z_A} {kd : z_K} {q : z_Q} {μ : z_M} {K : Int32 → z_M → Prop} {P45 : Int32 → Int32 → Int32 → Int32 → Int32 → Int32 → Int32 → Int32 → z_M → Prop} {v1 : Int32} {v2 : Int32} {v3 : Int32} {v4 : Int32} {v6 : Int32} {v7 : Int32} {v8 : Int32} {v9 : Int32} {v10 : Int32} (G : z_G p c cX12_wouldWin s m args RX12 12 D) (hr : meth.sig.returnType = (Option.some Jvm.ClassFile.FieldType.int)) (hlk : meth.locks = false) (hP45 : ∀ (v1 : Int32) (v2 : Int32) (v3 : Int32) (v4 : Int32) (v6 : Int32) (v7 : Int32) (v8 : Int32) (v9 : Int32) (μ : z_M), P45 v1 v2 v3 v4 v6 v7 v8 v9 μ → (kd 0 = some (.inl 12)) → z_X p l e rm_X12_wouldWin s m args below meth c 12 D A (MQ below (z_Qn D A ρ kd (z_Ki q K)) args s 0 0 A) 0 0 ρ kd q μ 45 [(0, .ref (0)), (1, .int (v1)), (2, .int (v2)), (3, .int (v3)), (4, .int (v4)), (6, .int (v6)), (7, .int (v7)), (8, .int (v8)), (9, .int (v9))] []) (hI : z_I kd q) (f_l0 : kd 0 = some (.inl 12)) (h : L_X12_wouldWin_100 K P45 v1 v2 v3 v4 v6 v7 v8 v9 v10 μ) : z_X p l e rm_X12_wouldWin s m args below meth c 12 D A (MQ below (z_Qn D A ρ kd (z_Ki q K)) args s 0 0 A) 0 0 ρ kd q μ 100 [(0, .ref (0)), (1, .int (v1)), (2, .int (v2)), (3, .int (v3)), (4, .int (v4)), (6, .int (v6)), (7, .int (v7)), (8, .int (v8)), (9, .int (v9)), (10, .int (v10))] [] := by
    unfold L_X12_wouldWin_100 at h
    refine zx_iconst (pc := 100) (v := -1) G (z_dec T_X12_wouldWin_ok 53 (100, .iconst (-1), 1) rfl) rfl ?_
    exact L_X12_wouldWin_101_ok G hr hlk hP45 hI f_l0 h
set_option maxRecDepth 100000 in
set_option maxHeartbeats 4000000 in
theorem B_X12_wouldWin_45_ok {p : Program} {l : Launch} {e : Env} {s : State} {m : MethodId} {args : Array Value} {below : List Frame} {meth : Method} {c : Code} {D : va_G} {A : Nat → Prop} {ρ : z_A} {kd : z_K} {q : z_Q} {μ : z_M} {K : Int32 → z_M → Prop} {P45 : Int32 → Int32 → Int32 → Int32 → Int32 → Int32 → Int32 → Int32 → z_M → Prop} {v1 : Int32} {v2 : Int32} {v3 : Int32} {v4 : Int32} {v6 : Int32} {v7 : Int32} {v8 : Int32} {v9 : Int32} (G : z_G p c cX12_wouldWin s m args RX12 12 D) (hr : meth.sig.returnType = (Option.some Jvm.ClassFile.FieldType.int)) (hlk : meth.locks = false) (hP45 : ∀ (v1 : Int32) (v2 : Int32) (v3 : Int32) (v4 : Int32) (v6 : Int32) (v7 : Int32) (v8 : Int32) (v9 : Int32) (μ : z_M), P45 v1 v2 v3 v4 v6 v7 v8 v9 μ → (kd 0 = some (.inl 12)) → z_X p l e rm_X12_wouldWin s m args below meth c 12 D A (MQ below (z_Qn D A ρ kd (z_Ki q K)) args s 0 0 A) 0 0 ρ kd q μ 45 [(0, .ref (0)), (1, .int (v1)), (2, .int (v2)), (3, .int (v3)), (4, .int (v4)), (6, .int (v6)), (7, .int (v7)), (8, .int (v8)), (9, .int (v9))] []) (hI : z_I kd q) (f_l0 : kd 0 = some (.inl 12)) (h : B_X12_wouldWin_45 K P45 v1 v2 v3 v4 v6 v7 v8 v9 μ) : z_X p l e rm_X12_wouldWin s m args below meth c 12 D A (MQ below (z_Qn D A ρ kd (z_Ki q K)) args s 0 0 A) 0 0 ρ kd q μ 45 [(0, .ref (0)), (1, .int (v1)), (2, .int (v2)), (3, .int (v3)), (4, .int (v4)), (6, .int (v6)), (7, .int (v7)), (8, .int (v8)), (9, .int (v9))] [] := by
    unfold B_X12_wouldWin_45 at h
    refine zx_iload (pc := 45) G 8 rfl (z_dec T_X12_wouldWin_ok 24 (45, .iload 9, 2) rfl) ?_
    refine zx_if_lt (pc := 47) (tgt := 170) G rfl (z_dec T_X12_wouldWin_ok 25 (47, .ifCond .lt 123, 3) rfl) (fun hc => ?_) (fun hc => ?_)
    · replace h := z_pos hc h
      refine zx_sub (lv' := [(0, .ref (0)), (7, .int (v7)), (8, .int (v8))]) [0, 6, 7] rfl ?_
      exact L_X12_wouldWin_170_ok G hr hlk hI f_l0 h
    · replace h := z_neg hc h
      refine zx_iload (pc := 50) G 7 rfl (z_dec T_X12_wouldWin_ok 26 (50, .iload 8, 2) rfl) ?_
      refine zx_if_lt (pc := 52) (tgt := 170) G rfl (z_dec T_X12_wouldWin_ok 27 (52, .ifCond .lt 118, 3) rfl) (fun hc => ?_) (fun hc => ?_)
      · replace h := z_pos hc h
        refine zx_sub (lv' := [(0, .ref (0)), (7, .int (v7)), (8, .int (v8))]) [0, 6, 7] rfl ?_
        exact L_X12_wouldWin_170_ok G hr hlk hI f_l0 h
      · replace h := z_neg hc h
        refine zx_iload (pc := 55) G 5 rfl (z_dec T_X12_wouldWin_ok 28 (55, .iload 6, 2) rfl) ?_
        refine zx_iconst (pc := 57) (v := 2) G (z_dec T_X12_wouldWin_ok 29 (57, .iconst 2, 1) rfl) rfl ?_
        refine zx_iload (pc := 58) G 8 rfl (z_dec T_X12_wouldWin_ok 30 (58, .iload 9, 2) rfl) ?_
        refine zx_imul (pc := 60) G  (z_dec T_X12_wouldWin_ok 31 (60, .imul, 1) rfl) ?_
        refine zx_ishr (pc := 61) G  (z_dec T_X12_wouldWin_ok 32 (61, .ishr, 1) rfl) ?_
        refine zx_iconst (pc := 62) (v := 3) G (z_dec T_X12_wouldWin_ok 33 (62, .iconst 3, 1) rfl) rfl ?_
        refine zx_iand (pc := 63) G  (z_dec T_X12_wouldWin_ok 34 (63, .iand, 1) rfl) ?_
        refine zx_istore (pc := 64) (lv' := [(10, .int ((v6 >>> ((((2 : Int32)) * v9) &&& 31)) &&& ((3 : Int32)))), (0, .ref (0)), (1, .int (v1)), (2, .int (v2)), (3, .int (v3)), (4, .int (v4)), (6, .int (v6)), (7, .int (v7)), (8, .int (v8)), (9, .int (v9))]) G (Nat.le_of_ble_eq_true rfl) rfl (z_dec T_X12_wouldWin_ok 35 (64, .istore 10, 2) rfl) ?_
        refine zx_aload_n (pc := 66) G (some (0)) 1 rfl rfl (z_dec T_X12_wouldWin_ok 36 (66, .aload_n 0, 1) rfl) ?_
        refine zx_iload (pc := 67) G 0 rfl (z_dec T_X12_wouldWin_ok 37 (67, .iload 10, 2) rfl) ?_
        refine zx_callV_zN (pc := 69) (rm := rm_X12_isBook) G cw_RX12_180 ⟨Nat.le_of_ble_eq_true rfl, Nat.le_of_ble_eq_true rfl⟩ rfl rfl ⟨Nat.zero_le _, Nat.zero_le _⟩ f_l0 rfl (fun sz => (met_X12_isBook l D ρ kd q μ sz ((v6 >>> ((((2 : Int32)) * v9) &&& 31)) &&& ((3 : Int32))) _ hI f_l0 h)) rfl rfl (Nat.le_of_ble_eq_true rfl) (z_dec T_X12_wouldWin_ok 38 (69, .invokevirtual 180, 3) rfl) (fun r2 μ1 hzr2 hn => ?_)
        clear h
        have h := hn
        clear hn
        refine zx_if_eq (pc := 72) (tgt := 100) G rfl (z_dec T_X12_wouldWin_ok 39 (72, .ifCond .eq 28, 3) rfl) (fun hc => ?_) (fun hc => ?_)
        · replace h := z_pos hc h
          refine zx_sub (lv' := [(0, .ref (0)), (1, .int (v1)), (2, .int (v2)), (3, .int (v3)), (4, .int (v4)), (6, .int (v6)), (7, .int (v7)), (8, .int (v8)), (9, .int (v9)), (10, .int ((v6 >>> ((((2 : Int32)) * v9) &&& 31)) &&& ((3 : Int32))))]) [1, 2, 3, 4, 5, 6, 7, 8, 9, 0] rfl ?_
          exact L_X12_wouldWin_100_ok G hr hlk hP45 hI f_l0 h
        · replace h := z_neg hc h
          refine zx_aload_n (pc := 75) G (some (0)) 1 rfl rfl (z_dec T_X12_wouldWin_ok 40 (75, .aload_n 0, 1) rfl) ?_
          refine zx_getF (pc := 76) (b := 16) G gf_RX12_39 rfl f_l0 (zq_12_15 hI f_l0) (z_dec T_X12_wouldWin_ok 41 (76, .getfield 39, 3) rfl) ?_
          refine zx_iload (pc := 79) G 0 rfl (z_dec T_X12_wouldWin_ok 42 (79, .iload 10, 2) rfl) ?_
          obtain ⟨c3, h⟩ := h
          refine zx_zald (pc := 81) G (zk_12_15 hI f_l0) c3 (z_dec T_X12_wouldWin_ok 43 (81, .baload, 1) rfl) ?_
          refine zx_if_ne (pc := 82) (tgt := 100) G rfl (z_dec T_X12_wouldWin_ok 44 (82, .ifCond .ne 18, 3) rfl) (fun hc => ?_) (fun hc => ?_)
          · replace h := z_neg hc h
            refine zx_sub (lv' := [(0, .ref (0)), (1, .int (v1)), (2, .int (v2)), (3, .int (v3)), (4, .int (v4)), (6, .int (v6)), (7, .int (v7)), (8, .int (v8)), (9, .int (v9)), (10, .int ((v6 >>> ((((2 : Int32)) * v9) &&& 31)) &&& ((3 : Int32))))]) [1, 2, 3, 4, 5, 6, 7, 8, 9, 0] rfl ?_
            exact L_X12_wouldWin_100_ok G hr hlk hP45 hI f_l0 h
          · replace h := z_pos hc h
            refine zx_aload_n (pc := 85) G (some (0)) 1 rfl rfl (z_dec T_X12_wouldWin_ok 45 (85, .aload_n 0, 1) rfl) ?_
            refine zx_getF (pc := 86) (b := 17) G gf_RX12_42 rfl f_l0 (zq_12_16 hI f_l0) (z_dec T_X12_wouldWin_ok 46 (86, .getfield 42, 3) rfl) ?_
            refine zx_iload (pc := 89) G 0 rfl (z_dec T_X12_wouldWin_ok 47 (89, .iload 10, 2) rfl) ?_
            refine zx_iload_n (pc := 91) G 3 rfl rfl (z_dec T_X12_wouldWin_ok 48 (91, .iload_n 2, 1) rfl) ?_
            refine zx_iload_n (pc := 92) G 4 rfl rfl (z_dec T_X12_wouldWin_ok 49 (92, .iload_n 3, 1) rfl) ?_
            refine zx_callS_iN (pc := 93) (rm := rm_X12_cellOf) G cw_RX12_188 ⟨Nat.le_of_ble_eq_true rfl, Nat.le_of_ble_eq_true rfl⟩ rfl rfl ⟨Nat.zero_le _, Nat.zero_le _⟩ (fun sz => (met_X12_cellOf l D ρ kd q μ1 sz ((v6 >>> ((((2 : Int32)) * v9) &&& 31)) &&& ((3 : Int32))) v2 v3 _ hI h)) rfl rfl (Nat.le_of_ble_eq_true rfl) (z_dec T_X12_wouldWin_ok 50 (93, .invokestatic 188, 3) rfl) (fun r5 μ4 hn => ?_)
            clear h
            have h := hn
            clear hn
            obtain ⟨c6, h⟩ := h
            refine zx_iald (pc := 96) G (zk_12_16 hI f_l0) c6 (z_dec T_X12_wouldWin_ok 51 (96, .iaload, 1) rfl) ?_
            refine zx_goto (pc := 97) (tgt := 101) G rfl (z_dec T_X12_wouldWin_ok 52 (97, .goto 4, 3) rfl) ?_
            refine zx_sub (lv' := [(0, .ref (0)), (1, .int (v1)), (2, .int (v2)), (3, .int (v3)), (4, .int (v4)), (6, .int (v6)), (7, .int (v7)), (8, .int (v8)), (9, .int (v9)), (10, .int ((v6 >>> ((((2 : Int32)) * v9) &&& 31)) &&& ((3 : Int32))))]) [1, 2, 3, 4, 5, 6, 7, 8, 9, 0] rfl ?_
            exact L_X12_wouldWin_101_ok G hr hlk hP45 hI f_l0 h
set_option maxRecDepth 100000 in
set_option maxHeartbeats 4000000 in
theorem L_X12_wouldWin_45_ok {p : Program} {l : Launch} {e : Env} {s : State} {m : MethodId} {args : Array Value} {below : List Frame} {meth : Method} {c : Code} {D : va_G} {A : Nat → Prop} {ρ : z_A} {kd : z_K} {q : z_Q} {μ : z_M} {K : Int32 → z_M → Prop} {v1 : Int32} {v2 : Int32} {v3 : Int32} {v4 : Int32} {v6 : Int32} {v7 : Int32} {v8 : Int32} {v9 : Int32} (G : z_G p c cX12_wouldWin s m args RX12 12 D) (hr : meth.sig.returnType = (Option.some Jvm.ClassFile.FieldType.int)) (hlk : meth.locks = false) (hI : z_I kd q) (f_l0 : kd 0 = some (.inl 12)) (h : L_X12_wouldWin_45 K v1 v2 v3 v4 v6 v7 v8 v9 μ) : z_X p l e rm_X12_wouldWin s m args below meth c 12 D A (MQ below (z_Qn D A ρ kd (z_Ki q K)) args s 0 0 A) 0 0 ρ kd q μ 45 [(0, .ref (0)), (1, .int (v1)), (2, .int (v2)), (3, .int (v3)), (4, .int (v4)), (6, .int (v6)), (7, .int (v7)), (8, .int (v8)), (9, .int (v9))] [] :=
  h (fun (v1 : Int32) (v2 : Int32) (v3 : Int32) (v4 : Int32) (v6 : Int32) (v7 : Int32) (v8 : Int32) (v9 : Int32) (μ : z_M) => (kd 0 = some (.inl 12)) → z_X p l e rm_X12_wouldWin s m args below meth c 12 D A (MQ below (z_Qn D A ρ kd (z_Ki q K)) args s 0 0 A) 0 0 ρ kd q μ 45 [(0, .ref (0)), (1, .int (v1)), (2, .int (v2)), (3, .int (v3)), (4, .int (v4)), (6, .int (v6)), (7, .int (v7)), (8, .int (v8)), (9, .int (v9))] []) (fun v1 v2 v3 v4 v6 v7 v8 v9 μ h f_l0 => B_X12_wouldWin_45_ok G hr hlk (fun _ _ _ _ _ _ _ _ _ h => h) hI f_l0 h) f_l0
set_option maxRecDepth 100000 in
set_option maxHeartbeats 4000000 in
theorem B_X12_wouldWin_12_ok {p : Program} {l : Launch} {e : Env} {s : State} {m : MethodId} {args : Array Value} {below : List Frame} {meth : Method} {c : Code} {D : va_G} {A : Nat → Prop} {ρ : z_A} {kd : z_K} {q : z_Q} {μ : z_M} {K : Int32 → z_M → Prop} {P12 : Int32 → Int32 → Int32 → Int32 → Int32 → Int32 → Int32 → Int32 → Int32 → z_M → Prop} {v1 : Int32} {v2 : Int32} {v3 : Int32} {v4 : Int32} {v5 : Int32} {v6 : Int32} {v7 : Int32} {v8 : Int32} {v9 : Int32} (G : z_G p c cX12_wouldWin s m args RX12 12 D) (hr : meth.sig.returnType = (Option.some Jvm.ClassFile.FieldType.int)) (hlk : meth.locks = false) (hP12 : ∀ (v1 : Int32) (v2 : Int32) (v3 : Int32) (v4 : Int32) (v5 : Int32) (v6 : Int32) (v7 : Int32) (v8 : Int32) (v9 : Int32) (μ : z_M), P12 v1 v2 v3 v4 v5 v6 v7 v8 v9 μ → (kd 0 = some (.inl 12)) → ((v8 = 0 ∨ v8 = 1)) → z_X p l e rm_X12_wouldWin s m args below meth c 12 D A (MQ below (z_Qn D A ρ kd (z_Ki q K)) args s 0 0 A) 0 0 ρ kd q μ 12 [(0, .ref (0)), (1, .int (v1)), (2, .int (v2)), (3, .int (v3)), (4, .int (v4)), (5, .int (v5)), (6, .int (v6)), (7, .int (v7)), (8, .int (v8)), (9, .int (v9))] []) (hI : z_I kd q) (f_l0 : kd 0 = some (.inl 12)) (f_l8 : (v8 = 0 ∨ v8 = 1)) (h : B_X12_wouldWin_12 K P12 v1 v2 v3 v4 v5 v6 v7 v8 v9 μ) : z_X p l e rm_X12_wouldWin s m args below meth c 12 D A (MQ below (z_Qn D A ρ kd (z_Ki q K)) args s 0 0 A) 0 0 ρ kd q μ 12 [(0, .ref (0)), (1, .int (v1)), (2, .int (v2)), (3, .int (v3)), (4, .int (v4)), (5, .int (v5)), (6, .int (v6)), (7, .int (v7)), (8, .int (v8)), (9, .int (v9))] [] := by
    unfold B_X12_wouldWin_12 at h
    refine zx_iload (pc := 12) G 9 rfl (z_dec T_X12_wouldWin_ok 7 (12, .iload 9, 2) rfl) ?_
    refine zx_bipush (pc := 14) (v := 96) G (z_dec T_X12_wouldWin_ok 8 (14, .bipush 96, 2) rfl) rfl ?_
    refine zx_icmp_ge (pc := 16) (tgt := 39) G rfl (z_dec T_X12_wouldWin_ok 9 (16, .if_icmp .ge 23, 3) rfl) (fun hc => ?_) (fun hc => ?_)
    · replace h := z_pos hc h
      refine zx_iload (pc := 39) G 5 rfl (z_dec T_X12_wouldWin_ok 20 (39, .iload 5, 2) rfl) ?_
      refine zx_iconst (pc := 41) (v := 1) G (z_dec T_X12_wouldWin_ok 21 (41, .iconst 1, 1) rfl) rfl ?_
      refine zx_isub (pc := 42) G  (z_dec T_X12_wouldWin_ok 22 (42, .isub, 1) rfl) ?_
      refine zx_istore (pc := 43) (lv' := [(9, .int (v5 - ((1 : Int32)))), (0, .ref (0)), (1, .int (v1)), (2, .int (v2)), (3, .int (v3)), (4, .int (v4)), (5, .int (v5)), (6, .int (v6)), (7, .int (v7)), (8, .int (v8))]) G (Nat.le_of_ble_eq_true rfl) rfl (z_dec T_X12_wouldWin_ok 23 (43, .istore 9, 2) rfl) ?_
      refine zx_sub (lv' := [(0, .ref (0)), (1, .int (v1)), (2, .int (v2)), (3, .int (v3)), (4, .int (v4)), (6, .int (v6)), (7, .int (v7)), (8, .int (v8)), (9, .int (v5 - ((1 : Int32))))]) [1, 2, 3, 4, 5, 7, 8, 9, 0] rfl ?_
      exact L_X12_wouldWin_45_ok G hr hlk hI f_l0 h
    · replace h := z_neg hc h
      refine zx_aload_n (pc := 19) G (some (0)) 0 rfl rfl (z_dec T_X12_wouldWin_ok 10 (19, .aload_n 0, 1) rfl) ?_
      refine zx_getF (pc := 20) (b := 61) G gf_RX12_133 rfl f_l0 (zq_12_60 hI f_l0) (z_dec T_X12_wouldWin_ok 11 (20, .getfield 133, 3) rfl) ?_
      refine zx_iload (pc := 23) G 9 rfl (z_dec T_X12_wouldWin_ok 12 (23, .iload 9, 2) rfl) ?_
      refine zx_aload_n (pc := 25) G (some (0)) 0 rfl rfl (z_dec T_X12_wouldWin_ok 13 (25, .aload_n 0, 1) rfl) ?_
      refine zx_getF (pc := 26) (b := 17) G gf_RX12_42 rfl f_l0 (zq_12_16 hI f_l0) (z_dec T_X12_wouldWin_ok 14 (26, .getfield 42, 3) rfl) ?_
      refine zx_iload (pc := 29) G 9 rfl (z_dec T_X12_wouldWin_ok 15 (29, .iload 9, 2) rfl) ?_
      obtain ⟨c1, h⟩ := h
      refine zx_iald (pc := 31) G (zk_12_16 hI f_l0) c1 (z_dec T_X12_wouldWin_ok 16 (31, .iaload, 1) rfl) ?_
      refine zx_iast (pc := 32) G (zk_12_60 hI f_l0) c1 (z_dec T_X12_wouldWin_ok 17 (32, .iastore, 1) rfl) ?_
      refine zx_iinc (pc := 33) (v := v9 + 1) (lv' := [(9, .int (v9 + 1)), (0, .ref (0)), (1, .int (v1)), (2, .int (v2)), (3, .int (v3)), (4, .int (v4)), (5, .int (v5)), (6, .int (v6)), (7, .int (v7)), (8, .int (v8))]) G 9 rfl (z_inc (by decide)) (Nat.le_of_ble_eq_true rfl) rfl (z_dec T_X12_wouldWin_ok 18 (33, .iinc 9 1, 3) rfl) ?_
      refine zx_goto (pc := 36) (tgt := 12) G rfl (z_dec T_X12_wouldWin_ok 19 (36, .goto (-24), 3) rfl) ?_
      refine zx_sub (lv' := [(0, .ref (0)), (1, .int (v1)), (2, .int (v2)), (3, .int (v3)), (4, .int (v4)), (5, .int (v5)), (6, .int (v6)), (7, .int (v7)), (8, .int (v8)), (9, .int (v9 + 1))]) [1, 2, 3, 4, 5, 6, 7, 8, 9, 0] rfl ?_
      exact hP12 _ _ _ _ _ _ _ _ _ _ h f_l0 f_l8
set_option maxRecDepth 100000 in
set_option maxHeartbeats 4000000 in
theorem L_X12_wouldWin_12_ok {p : Program} {l : Launch} {e : Env} {s : State} {m : MethodId} {args : Array Value} {below : List Frame} {meth : Method} {c : Code} {D : va_G} {A : Nat → Prop} {ρ : z_A} {kd : z_K} {q : z_Q} {μ : z_M} {K : Int32 → z_M → Prop} {v1 : Int32} {v2 : Int32} {v3 : Int32} {v4 : Int32} {v5 : Int32} {v6 : Int32} {v7 : Int32} {v8 : Int32} {v9 : Int32} (G : z_G p c cX12_wouldWin s m args RX12 12 D) (hr : meth.sig.returnType = (Option.some Jvm.ClassFile.FieldType.int)) (hlk : meth.locks = false) (hI : z_I kd q) (f_l0 : kd 0 = some (.inl 12)) (f_l8 : (v8 = 0 ∨ v8 = 1)) (h : L_X12_wouldWin_12 K v1 v2 v3 v4 v5 v6 v7 v8 v9 μ) : z_X p l e rm_X12_wouldWin s m args below meth c 12 D A (MQ below (z_Qn D A ρ kd (z_Ki q K)) args s 0 0 A) 0 0 ρ kd q μ 12 [(0, .ref (0)), (1, .int (v1)), (2, .int (v2)), (3, .int (v3)), (4, .int (v4)), (5, .int (v5)), (6, .int (v6)), (7, .int (v7)), (8, .int (v8)), (9, .int (v9))] [] :=
  h (fun (v1 : Int32) (v2 : Int32) (v3 : Int32) (v4 : Int32) (v5 : Int32) (v6 : Int32) (v7 : Int32) (v8 : Int32) (v9 : Int32) (μ : z_M) => (kd 0 = some (.inl 12)) → ((v8 = 0 ∨ v8 = 1)) → z_X p l e rm_X12_wouldWin s m args below meth c 12 D A (MQ below (z_Qn D A ρ kd (z_Ki q K)) args s 0 0 A) 0 0 ρ kd q μ 12 [(0, .ref (0)), (1, .int (v1)), (2, .int (v2)), (3, .int (v3)), (4, .int (v4)), (5, .int (v5)), (6, .int (v6)), (7, .int (v7)), (8, .int (v8)), (9, .int (v9))] []) (fun v1 v2 v3 v4 v5 v6 v7 v8 v9 μ h f_l0 f_l8 => B_X12_wouldWin_12_ok G hr hlk (fun _ _ _ _ _ _ _ _ _ _ h => h) hI f_l0 f_l8 h) f_l0 f_l8
set_option maxRecDepth 100000 in
set_option maxHeartbeats 4000000 in
theorem met_X12_wouldWin (l : Launch) (D : va_G) (ρ : z_A) (kd : z_K) (q : z_Q) (μ : z_M) (sz : Nat) (a1 : Int32) (a2 : Int32) (a3 : Int32) (a4 : Int32) (a5 : Int32) (a6 : Int32) (K : Int32 → z_M → Prop) (hI : z_I kd q) (h_o : kd 0 = some (.inl 12)) (h : C_X12_wouldWin a1 a2 a3 a4 a5 a6 μ K) : Met l yX12_wouldWin (z_ws yX12_wouldWin cX12_wouldWin 12 (Option.some Jvm.ClassFile.FieldType.int)) rm_X12_wouldWin (z_Pc D ρ kd q μ sz [.ref (0), .int (a1), .int (a2), .int (a3), .int (a4), .int (a5), .int (a6)]) (z_Qn D (z_Rg ρ sz) ρ kd (z_Ki q K)) 0 0 (z_Rg ρ sz) := by
  refine z_met (rm := rm_X12_wouldWin) (by decide) (Nat.le_of_ble_eq_true rfl) (fun p e s m args below meth c G hr hlk => ?_)
  unfold C_X12_wouldWin at h
  show z_X _ _ _ _ _ _ _ _ _ _ _ _ _ _ _ _ _ _ _ _ _ [(0, .ref (0)), (1, .int (a1)), (2, .int (a2)), (3, .int (a3)), (4, .int (a4)), (5, .int (a5)), (6, .int (a6))] _
  refine zx_aload_n (pc := 0) G (some (0)) 0 rfl rfl (z_dec T_X12_wouldWin_ok 0 (0, .aload_n 0, 1) rfl) ?_
  refine zx_getI (pc := 1) G gf_RX12_196 rfl h_o (z_dec T_X12_wouldWin_ok 1 (1, .getfield 196, 3) rfl) ?_
  refine zx_istore (pc := 4) (lv' := [(7, .int (μ.1 0 6)), (0, .ref (0)), (1, .int (a1)), (2, .int (a2)), (3, .int (a3)), (4, .int (a4)), (5, .int (a5)), (6, .int (a6))]) G (Nat.le_of_ble_eq_true rfl) rfl (z_dec T_X12_wouldWin_ok 2 (4, .istore 7, 2) rfl) ?_
  refine zx_iconst (pc := 6) (v := 0) G (z_dec T_X12_wouldWin_ok 3 (6, .iconst 0, 1) rfl) rfl ?_
  refine zx_istore (pc := 7) (lv' := [(8, .int ((0 : Int32))), (7, .int (μ.1 0 6)), (0, .ref (0)), (1, .int (a1)), (2, .int (a2)), (3, .int (a3)), (4, .int (a4)), (5, .int (a5)), (6, .int (a6))]) G (Nat.le_of_ble_eq_true rfl) rfl (z_dec T_X12_wouldWin_ok 4 (7, .istore 8, 2) rfl) ?_
  refine zx_iconst (pc := 9) (v := 0) G (z_dec T_X12_wouldWin_ok 5 (9, .iconst 0, 1) rfl) rfl ?_
  refine zx_istore (pc := 10) (lv' := [(9, .int ((0 : Int32))), (8, .int ((0 : Int32))), (7, .int (μ.1 0 6)), (0, .ref (0)), (1, .int (a1)), (2, .int (a2)), (3, .int (a3)), (4, .int (a4)), (5, .int (a5)), (6, .int (a6))]) G (Nat.le_of_ble_eq_true rfl) rfl (z_dec T_X12_wouldWin_ok 6 (10, .istore 9, 2) rfl) ?_
  refine zx_sub (lv' := [(0, .ref (0)), (1, .int (a1)), (2, .int (a2)), (3, .int (a3)), (4, .int (a4)), (5, .int (a5)), (6, .int (a6)), (7, .int (μ.1 0 6)), (8, .int ((0 : Int32))), (9, .int ((0 : Int32)))]) [3, 4, 5, 6, 7, 8, 9, 2, 1, 0] rfl ?_
  exact L_X12_wouldWin_12_ok G hr hlk hI h_o (Or.inl rfl) h
abbrev rm_X12_plan : Room := { frames := 10, cells := 0, slots := 0, locals := 242 }
set_option maxRecDepth 100000 in
set_option maxHeartbeats 4000000 in
theorem B_X12_plan_74_ok {p : Program} {l : Launch} {e : Env} {s : State} {m : MethodId} {args : Array Value} {below : List Frame} {meth : Method} {c : Code} {D : va_G} {A : Nat → Prop} {ρ : z_A} {kd : z_K} {q : z_Q} {μ : z_M} {K : Int32 → z_M → Prop} {P74 : Int32 → Int32 → Int32 → Int32 → Int32 → Int32 → Int32 → Int32 → Int32 → z_M → Prop} {v1 : Int32} {v2 : Int32} {v3 : Int32} {v4 : Int32} {v5 : Int32} {v6 : Int32} {v7 : Int32} {v8 : Int32} {v9 : Int32} (G : z_G p c cX12_plan s m args RX12 11 D) (hr : meth.sig.returnType = (Option.some Jvm.ClassFile.FieldType.int)) (hlk : meth.locks = false) (hP74 : ∀ (v1 : Int32) (v2 : Int32) (v3 : Int32) (v4 : Int32) (v5 : Int32) (v6 : Int32) (v7 : Int32) (v8 : Int32) (v9 : Int32) (μ : z_M), P74 v1 v2 v3 v4 v5 v6 v7 v8 v9 μ → (kd 0 = some (.inl 12)) → z_X p l e rm_X12_plan s m args below meth c 11 D A (MQ below (z_Qn D A ρ kd (z_Ki q K)) args s 0 0 A) 0 0 ρ kd q μ 74 [(0, .ref (0)), (1, .int (v1)), (2, .int (v2)), (3, .int (v3)), (4, .int (v4)), (5, .int (v5)), (6, .int (v6)), (7, .int (v7)), (8, .int (v8)), (9, .int (v9))] []) (hI : z_I kd q) (f_l0 : kd 0 = some (.inl 12)) (h : B_X12_plan_74 K P74 v1 v2 v3 v4 v5 v6 v7 v8 v9 μ) : z_X p l e rm_X12_plan s m args below meth c 11 D A (MQ below (z_Qn D A ρ kd (z_Ki q K)) args s 0 0 A) 0 0 ρ kd q μ 74 [(0, .ref (0)), (1, .int (v1)), (2, .int (v2)), (3, .int (v3)), (4, .int (v4)), (5, .int (v5)), (6, .int (v6)), (7, .int (v7)), (8, .int (v8)), (9, .int (v9))] [] := by
    unfold B_X12_plan_74 at h
    refine zx_iload (pc := 74) G 9 rfl (z_dec T_X12_plan_ok 39 (74, .iload 9, 2) rfl) ?_
    refine zx_iconst (pc := 76) (v := 1) G (z_dec T_X12_plan_ok 40 (76, .iconst 1, 1) rfl) rfl ?_
    refine zx_iconst (pc := 77) (v := 2) G (z_dec T_X12_plan_ok 41 (77, .iconst 2, 1) rfl) rfl ?_
    refine zx_iload (pc := 78) G 5 rfl (z_dec T_X12_plan_ok 42 (78, .iload 5, 2) rfl) ?_
    refine zx_imul (pc := 80) G  (z_dec T_X12_plan_ok 43 (80, .imul, 1) rfl) ?_
    refine zx_ishl (pc := 81) G  (z_dec T_X12_plan_ok 44 (81, .ishl, 1) rfl) ?_
    refine zx_icmp_ge (pc := 82) (tgt := 124) G rfl (z_dec T_X12_plan_ok 45 (82, .if_icmp .ge 42, 3) rfl) (fun hc => ?_) (fun hc => ?_)
    · replace h := z_pos hc h
      refine zx_iload (pc := 124) G 7 rfl (z_dec T_X12_plan_ok 65 (124, .iload 7, 2) rfl) ?_
      refine zx_iconst (pc := 126) (v := -1) G (z_dec T_X12_plan_ok 66 (126, .iconst (-1), 1) rfl) rfl ?_
      refine zx_icmp_ne (pc := 127) (tgt := 135) G rfl (z_dec T_X12_plan_ok 67 (127, .if_icmp .ne 8, 3) rfl) (fun hc => ?_) (fun hc => ?_)
      · replace h := z_neg hc h
        refine zx_iload (pc := 135) G 6 rfl (z_dec T_X12_plan_ok 70 (135, .iload 6, 2) rfl) ?_
        refine zx_iconst (pc := 137) (v := -1) G (z_dec T_X12_plan_ok 71 (137, .iconst (-1), 1) rfl) rfl ?_
        refine zx_icmp_ne (pc := 138) (tgt := 146) G rfl (z_dec T_X12_plan_ok 72 (138, .if_icmp .ne 8, 3) rfl) (fun hc => ?_) (fun hc => ?_)
        · replace h := z_neg hc h
          refine zx_iload (pc := 146) G 7 rfl (z_dec T_X12_plan_ok 75 (146, .iload 7, 2) rfl) ?_
          refine zx_iconst (pc := 148) (v := 2) G (z_dec T_X12_plan_ok 76 (148, .iconst 2, 1) rfl) rfl ?_
          refine zx_iload (pc := 149) G 5 rfl (z_dec T_X12_plan_ok 77 (149, .iload 5, 2) rfl) ?_
          refine zx_iconst (pc := 151) (v := 1) G (z_dec T_X12_plan_ok 78 (151, .iconst 1, 1) rfl) rfl ?_
          refine zx_isub (pc := 152) G  (z_dec T_X12_plan_ok 79 (152, .isub, 1) rfl) ?_
          refine zx_iload (pc := 153) G 6 rfl (z_dec T_X12_plan_ok 80 (153, .iload 6, 2) rfl) ?_
          refine zx_isub (pc := 155) G  (z_dec T_X12_plan_ok 81 (155, .isub, 1) rfl) ?_
          refine zx_imul (pc := 156) G  (z_dec T_X12_plan_ok 82 (156, .imul, 1) rfl) ?_
          refine zx_ishr (pc := 157) G  (z_dec T_X12_plan_ok 83 (157, .ishr, 1) rfl) ?_
          refine zx_iconst (pc := 158) (v := 3) G (z_dec T_X12_plan_ok 84 (158, .iconst 3, 1) rfl) rfl ?_
          refine zx_iand (pc := 159) G  (z_dec T_X12_plan_ok 85 (159, .iand, 1) rfl) ?_
          exact zx_iret (pc := 160) G hr hlk (Nat.le_refl _) (Nat.le_refl _) (z_dec T_X12_plan_ok 86 (160, .ireturn, 1) rfl) ⟨rfl, _, rfl, h⟩
        · replace h := z_pos hc h
          refine zx_iload (pc := 141) G 8 rfl (z_dec T_X12_plan_ok 73 (141, .iload 8, 2) rfl) ?_
          refine zx_goto (pc := 143) (tgt := 160) G rfl (z_dec T_X12_plan_ok 74 (143, .goto 17, 3) rfl) ?_
          exact zx_iret (pc := 160) G hr hlk (Nat.le_refl _) (Nat.le_refl _) (z_dec T_X12_plan_ok 86 (160, .ireturn, 1) rfl) ⟨rfl, _, rfl, h⟩
      · replace h := z_pos hc h
        refine zx_bipush (pc := 130) (v := -2) G (z_dec T_X12_plan_ok 68 (130, .bipush (-2), 2) rfl) rfl ?_
        refine zx_goto (pc := 132) (tgt := 160) G rfl (z_dec T_X12_plan_ok 69 (132, .goto 28, 3) rfl) ?_
        exact zx_iret (pc := 160) G hr hlk (Nat.le_refl _) (Nat.le_refl _) (z_dec T_X12_plan_ok 86 (160, .ireturn, 1) rfl) ⟨rfl, _, rfl, h⟩
    · replace h := z_neg hc h
      refine zx_aload_n (pc := 85) G (some (0)) 0 rfl rfl (z_dec T_X12_plan_ok 46 (85, .aload_n 0, 1) rfl) ?_
      refine zx_iload_n (pc := 86) G 1 rfl rfl (z_dec T_X12_plan_ok 47 (86, .iload_n 1, 1) rfl) ?_
      refine zx_iload_n (pc := 87) G 2 rfl rfl (z_dec T_X12_plan_ok 48 (87, .iload_n 2, 1) rfl) ?_
      refine zx_iload_n (pc := 88) G 3 rfl rfl (z_dec T_X12_plan_ok 49 (88, .iload_n 3, 1) rfl) ?_
      refine zx_iload (pc := 89) G 4 rfl (z_dec T_X12_plan_ok 50 (89, .iload 4, 2) rfl) ?_
      refine zx_iload (pc := 91) G 5 rfl (z_dec T_X12_plan_ok 51 (91, .iload 5, 2) rfl) ?_
      refine zx_iload (pc := 93) G 9 rfl (z_dec T_X12_plan_ok 52 (93, .iload 9, 2) rfl) ?_
      refine zx_callV_iN (pc := 95) (rm := rm_X12_wouldWin) G cw_RX12_464 ⟨Nat.le_of_ble_eq_true rfl, Nat.le_of_ble_eq_true rfl⟩ rfl rfl ⟨Nat.zero_le _, Nat.zero_le _⟩ f_l0 rfl (fun sz => (met_X12_wouldWin l D ρ kd q μ sz v1 v2 v3 v4 v5 v9 _ hI f_l0 h)) rfl rfl (Nat.le_of_ble_eq_true rfl) (z_dec T_X12_plan_ok 53 (95, .invokevirtual 464, 3) rfl) (fun r2 μ1 hn => ?_)
      clear h
      have h := hn
      clear hn
      refine zx_istore (pc := 98) (lv' := [(10, .int (r2)), (0, .ref (0)), (1, .int (v1)), (2, .int (v2)), (3, .int (v3)), (4, .int (v4)), (5, .int (v5)), (6, .int (v6)), (7, .int (v7)), (8, .int (v8)), (9, .int (v9))]) G (Nat.le_of_ble_eq_true rfl) rfl (z_dec T_X12_plan_ok 54 (98, .istore 10, 2) rfl) ?_
      refine zx_iload (pc := 100) G 0 rfl (z_dec T_X12_plan_ok 55 (100, .iload 10, 2) rfl) ?_
      refine zx_iload (pc := 102) G 9 rfl (z_dec T_X12_plan_ok 56 (102, .iload 8, 2) rfl) ?_
      refine zx_icmp_gt (pc := 104) (tgt := 110) G rfl (z_dec T_X12_plan_ok 57 (104, .if_icmp .gt 6, 3) rfl) (fun hc => ?_) (fun hc => ?_)
      · replace h := z_pos hc h
        refine zx_iload (pc := 110) G 0 rfl (z_dec T_X12_plan_ok 59 (110, .iload 10, 2) rfl) ?_
        refine zx_istore (pc := 112) (lv' := [(8, .int (r2)), (10, .int (r2)), (0, .ref (0)), (1, .int (v1)), (2, .int (v2)), (3, .int (v3)), (4, .int (v4)), (5, .int (v5)), (6, .int (v6)), (7, .int (v7)), (9, .int (v9))]) G (Nat.le_of_ble_eq_true rfl) rfl (z_dec T_X12_plan_ok 60 (112, .istore 8, 2) rfl) ?_
        refine zx_iload (pc := 114) G 10 rfl (z_dec T_X12_plan_ok 61 (114, .iload 9, 2) rfl) ?_
        refine zx_istore (pc := 116) (lv' := [(7, .int (v9)), (8, .int (r2)), (10, .int (r2)), (0, .ref (0)), (1, .int (v1)), (2, .int (v2)), (3, .int (v3)), (4, .int (v4)), (5, .int (v5)), (6, .int (v6)), (9, .int (v9))]) G (Nat.le_of_ble_eq_true rfl) rfl (z_dec T_X12_plan_ok 62 (116, .istore 7, 2) rfl) ?_
        refine zx_iinc (pc := 118) (v := v9 + 1) (lv' := [(9, .int (v9 + 1)), (7, .int (v9)), (8, .int (r2)), (10, .int (r2)), (0, .ref (0)), (1, .int (v1)), (2, .int (v2)), (3, .int (v3)), (4, .int (v4)), (5, .int (v5)), (6, .int (v6))]) G 10 rfl (z_inc (by decide)) (Nat.le_of_ble_eq_true rfl) rfl (z_dec T_X12_plan_ok 63 (118, .iinc 9 1, 3) rfl) ?_
        refine zx_goto (pc := 121) (tgt := 74) G rfl (z_dec T_X12_plan_ok 64 (121, .goto (-47), 3) rfl) ?_
        refine zx_sub (lv' := [(0, .ref (0)), (1, .int (v1)), (2, .int (v2)), (3, .int (v3)), (4, .int (v4)), (5, .int (v5)), (6, .int (v6)), (7, .int (v9)), (8, .int (r2)), (9, .int (v9 + 1))]) [4, 5, 6, 7, 8, 9, 10, 1, 2, 0] rfl ?_
        exact hP74 _ _ _ _ _ _ _ _ _ _ h f_l0
      · replace h := z_neg hc h
        refine zx_goto (pc := 107) (tgt := 118) G rfl (z_dec T_X12_plan_ok 58 (107, .goto 11, 3) rfl) ?_
        refine zx_iinc (pc := 118) (v := v9 + 1) (lv' := [(9, .int (v9 + 1)), (10, .int (r2)), (0, .ref (0)), (1, .int (v1)), (2, .int (v2)), (3, .int (v3)), (4, .int (v4)), (5, .int (v5)), (6, .int (v6)), (7, .int (v7)), (8, .int (v8))]) G 10 rfl (z_inc (by decide)) (Nat.le_of_ble_eq_true rfl) rfl (z_dec T_X12_plan_ok 63 (118, .iinc 9 1, 3) rfl) ?_
        refine zx_goto (pc := 121) (tgt := 74) G rfl (z_dec T_X12_plan_ok 64 (121, .goto (-47), 3) rfl) ?_
        refine zx_sub (lv' := [(0, .ref (0)), (1, .int (v1)), (2, .int (v2)), (3, .int (v3)), (4, .int (v4)), (5, .int (v5)), (6, .int (v6)), (7, .int (v7)), (8, .int (v8)), (9, .int (v9 + 1))]) [2, 3, 4, 5, 6, 7, 8, 9, 10, 0] rfl ?_
        exact hP74 _ _ _ _ _ _ _ _ _ _ h f_l0
set_option maxRecDepth 100000 in
set_option maxHeartbeats 4000000 in
theorem L_X12_plan_74_ok {p : Program} {l : Launch} {e : Env} {s : State} {m : MethodId} {args : Array Value} {below : List Frame} {meth : Method} {c : Code} {D : va_G} {A : Nat → Prop} {ρ : z_A} {kd : z_K} {q : z_Q} {μ : z_M} {K : Int32 → z_M → Prop} {v1 : Int32} {v2 : Int32} {v3 : Int32} {v4 : Int32} {v5 : Int32} {v6 : Int32} {v7 : Int32} {v8 : Int32} {v9 : Int32} (G : z_G p c cX12_plan s m args RX12 11 D) (hr : meth.sig.returnType = (Option.some Jvm.ClassFile.FieldType.int)) (hlk : meth.locks = false) (hI : z_I kd q) (f_l0 : kd 0 = some (.inl 12)) (h : L_X12_plan_74 K v1 v2 v3 v4 v5 v6 v7 v8 v9 μ) : z_X p l e rm_X12_plan s m args below meth c 11 D A (MQ below (z_Qn D A ρ kd (z_Ki q K)) args s 0 0 A) 0 0 ρ kd q μ 74 [(0, .ref (0)), (1, .int (v1)), (2, .int (v2)), (3, .int (v3)), (4, .int (v4)), (5, .int (v5)), (6, .int (v6)), (7, .int (v7)), (8, .int (v8)), (9, .int (v9))] [] :=
  h (fun (v1 : Int32) (v2 : Int32) (v3 : Int32) (v4 : Int32) (v5 : Int32) (v6 : Int32) (v7 : Int32) (v8 : Int32) (v9 : Int32) (μ : z_M) => (kd 0 = some (.inl 12)) → z_X p l e rm_X12_plan s m args below meth c 11 D A (MQ below (z_Qn D A ρ kd (z_Ki q K)) args s 0 0 A) 0 0 ρ kd q μ 74 [(0, .ref (0)), (1, .int (v1)), (2, .int (v2)), (3, .int (v3)), (4, .int (v4)), (5, .int (v5)), (6, .int (v6)), (7, .int (v7)), (8, .int (v8)), (9, .int (v9))] []) (fun v1 v2 v3 v4 v5 v6 v7 v8 v9 μ h f_l0 => B_X12_plan_74_ok G hr hlk (fun _ _ _ _ _ _ _ _ _ _ h => h) hI f_l0 h) f_l0
set_option maxRecDepth 100000 in
set_option maxHeartbeats 4000000 in
theorem met_X12_plan (l : Launch) (D : va_G) (ρ : z_A) (kd : z_K) (q : z_Q) (μ : z_M) (sz : Nat) (a1 : Int32) (a2 : Int32) (a3 : Int32) (a4 : Int32) (a5 : Int32) (a6 : Int32) (K : Int32 → z_M → Prop) (hI : z_I kd q) (h_o : kd 0 = some (.inl 12)) (h : C_X12_plan a1 a2 a3 a4 a5 a6 μ K) : Met l yX12_plan (z_ws yX12_plan cX12_plan 11 (Option.some Jvm.ClassFile.FieldType.int)) rm_X12_plan (z_Pc D ρ kd q μ sz [.ref (0), .int (a1), .int (a2), .int (a3), .int (a4), .int (a5), .int (a6)]) (z_Qn D (z_Rg ρ sz) ρ kd (z_Ki q K)) 0 0 (z_Rg ρ sz) := by
  refine z_met (rm := rm_X12_plan) (by decide) (Nat.le_of_ble_eq_true rfl) (fun p e s m args below meth c G hr hlk => ?_)
  unfold C_X12_plan at h
  show z_X _ _ _ _ _ _ _ _ _ _ _ _ _ _ _ _ _ _ _ _ _ [(0, .ref (0)), (1, .int (a1)), (2, .int (a2)), (3, .int (a3)), (4, .int (a4)), (5, .int (a5)), (6, .int (a6))] _
  refine zx_iload_n (pc := 0) G 1 rfl rfl (z_dec T_X12_plan_ok 0 (0, .iload_n 1, 1) rfl) ?_
  refine zx_callS_zN (pc := 1) (rm := rm_X12_isBettor) G cw_RX12_202 ⟨Nat.le_of_ble_eq_true rfl, Nat.le_of_ble_eq_true rfl⟩ rfl rfl ⟨Nat.zero_le _, Nat.zero_le _⟩ (fun sz => (met_X12_isBettor l D ρ kd q μ sz a1 _ hI h)) rfl rfl (Nat.le_of_ble_eq_true rfl) (z_dec T_X12_plan_ok 1 (1, .invokestatic 202, 3) rfl) (fun r2 μ1 hzr2 hn => ?_)
  clear h
  have h := hn
  clear hn
  refine zx_if_eq (pc := 4) (tgt := 63) G rfl (z_dec T_X12_plan_ok 2 (4, .ifCond .eq 59, 3) rfl) (fun hc => ?_) (fun hc => ?_)
  · replace h := z_pos hc h
    refine zx_iconst (pc := 63) (v := -1) G (z_dec T_X12_plan_ok 31 (63, .iconst (-1), 1) rfl) rfl ?_
    exact zx_iret (pc := 64) G hr hlk (Nat.le_refl _) (Nat.le_refl _) (z_dec T_X12_plan_ok 32 (64, .ireturn, 1) rfl) ⟨rfl, _, rfl, h⟩
  · replace h := z_neg hc h
    refine zx_aload_n (pc := 7) G (some (0)) 0 rfl rfl (z_dec T_X12_plan_ok 3 (7, .aload_n 0, 1) rfl) ?_
    refine zx_iload_n (pc := 8) G 2 rfl rfl (z_dec T_X12_plan_ok 4 (8, .iload_n 2, 1) rfl) ?_
    refine zx_iload_n (pc := 9) G 3 rfl rfl (z_dec T_X12_plan_ok 5 (9, .iload_n 3, 1) rfl) ?_
    refine zx_callV_zN (pc := 10) (rm := rm_X12_runs) G cw_RX12_183 ⟨Nat.le_of_ble_eq_true rfl, Nat.le_of_ble_eq_true rfl⟩ rfl rfl ⟨Nat.zero_le _, Nat.zero_le _⟩ h_o rfl (fun sz => (met_X12_runs l D ρ kd q μ1 sz a2 a3 _ hI h_o h)) rfl rfl (Nat.le_of_ble_eq_true rfl) (z_dec T_X12_plan_ok 6 (10, .invokevirtual 183, 3) rfl) (fun r4 μ3 hzr4 hn => ?_)
    clear h
    have h := hn
    clear hn
    refine zx_if_eq (pc := 13) (tgt := 63) G rfl (z_dec T_X12_plan_ok 7 (13, .ifCond .eq 50, 3) rfl) (fun hc => ?_) (fun hc => ?_)
    · replace h := z_pos hc h
      refine zx_iconst (pc := 63) (v := -1) G (z_dec T_X12_plan_ok 31 (63, .iconst (-1), 1) rfl) rfl ?_
      exact zx_iret (pc := 64) G hr hlk (Nat.le_refl _) (Nat.le_refl _) (z_dec T_X12_plan_ok 32 (64, .ireturn, 1) rfl) ⟨rfl, _, rfl, h⟩
    · replace h := z_neg hc h
      refine zx_aload_n (pc := 16) G (some (0)) 0 rfl rfl (z_dec T_X12_plan_ok 8 (16, .aload_n 0, 1) rfl) ?_
      refine zx_getF (pc := 17) (b := 12) G gf_RX12_26 rfl h_o (zq_12_11 hI h_o) (z_dec T_X12_plan_ok 9 (17, .getfield 26, 3) rfl) ?_
      refine zx_iload_n (pc := 20) G 2 rfl rfl (z_dec T_X12_plan_ok 10 (20, .iload_n 2, 1) rfl) ?_
      obtain ⟨c5, h⟩ := h
      refine zx_zald (pc := 21) G (zk_12_11 hI h_o) c5 (z_dec T_X12_plan_ok 11 (21, .baload, 1) rfl) ?_
      refine zx_if_ne (pc := 22) (tgt := 63) G rfl (z_dec T_X12_plan_ok 12 (22, .ifCond .ne 41, 3) rfl) (fun hc => ?_) (fun hc => ?_)
      · replace h := z_neg hc h
        refine zx_iconst (pc := 63) (v := -1) G (z_dec T_X12_plan_ok 31 (63, .iconst (-1), 1) rfl) rfl ?_
        exact zx_iret (pc := 64) G hr hlk (Nat.le_refl _) (Nat.le_refl _) (z_dec T_X12_plan_ok 32 (64, .ireturn, 1) rfl) ⟨rfl, _, rfl, h⟩
      · replace h := z_pos hc h
        refine zx_iload (pc := 25) G 4 rfl (z_dec T_X12_plan_ok 13 (25, .iload 4, 2) rfl) ?_
        refine zx_callS_zN (pc := 27) (rm := rm_X12_isStake) G cw_RX12_209 ⟨Nat.le_of_ble_eq_true rfl, Nat.le_of_ble_eq_true rfl⟩ rfl rfl ⟨Nat.zero_le _, Nat.zero_le _⟩ (fun sz => (met_X12_isStake l D ρ kd q μ3 sz a4 _ hI h)) rfl rfl (Nat.le_of_ble_eq_true rfl) (z_dec T_X12_plan_ok 14 (27, .invokestatic 209, 3) rfl) (fun r7 μ6 hzr7 hn => ?_)
        clear h
        have h := hn
        clear hn
        refine zx_if_eq (pc := 30) (tgt := 63) G rfl (z_dec T_X12_plan_ok 15 (30, .ifCond .eq 33, 3) rfl) (fun hc => ?_) (fun hc => ?_)
        · replace h := z_pos hc h
          refine zx_iconst (pc := 63) (v := -1) G (z_dec T_X12_plan_ok 31 (63, .iconst (-1), 1) rfl) rfl ?_
          exact zx_iret (pc := 64) G hr hlk (Nat.le_refl _) (Nat.le_refl _) (z_dec T_X12_plan_ok 32 (64, .ireturn, 1) rfl) ⟨rfl, _, rfl, h⟩
        · replace h := z_neg hc h
          refine zx_iload (pc := 33) G 5 rfl (z_dec T_X12_plan_ok 16 (33, .iload 5, 2) rfl) ?_
          refine zx_i2l (pc := 35) G  (z_dec T_X12_plan_ok 17 (35, .i2l, 1) rfl) ?_
          refine zx_lconst (pc := 36) (v := 1) G (z_dec T_X12_plan_ok 18 (36, .lconst 1, 1) rfl) rfl ?_
          refine zx_ldc2 (pc := 37) G wk_RX12_462 (z_dec T_X12_plan_ok 19 (37, .ldc2_w 462, 3) rfl) ?_
          refine zx_callS_zN (pc := 40) (rm := rm_X12_lies) G cw_RX12_140 ⟨Nat.le_of_ble_eq_true rfl, Nat.le_of_ble_eq_true rfl⟩ rfl rfl ⟨Nat.zero_le _, Nat.zero_le _⟩ (fun sz => (met_X12_lies l D ρ kd q μ6 sz a5.toInt64 ((1 : Int64)) ((4 : Int64)) _ hI h)) rfl rfl (Nat.le_of_ble_eq_true rfl) (z_dec T_X12_plan_ok 20 (40, .invokestatic 140, 3) rfl) (fun r9 μ8 hzr9 hn => ?_)
          clear h
          have h := hn
          clear hn
          refine zx_if_eq (pc := 43) (tgt := 63) G rfl (z_dec T_X12_plan_ok 21 (43, .ifCond .eq 20, 3) rfl) (fun hc => ?_) (fun hc => ?_)
          · replace h := z_pos hc h
            refine zx_iconst (pc := 63) (v := -1) G (z_dec T_X12_plan_ok 31 (63, .iconst (-1), 1) rfl) rfl ?_
            exact zx_iret (pc := 64) G hr hlk (Nat.le_refl _) (Nat.le_refl _) (z_dec T_X12_plan_ok 32 (64, .ireturn, 1) rfl) ⟨rfl, _, rfl, h⟩
          · replace h := z_neg hc h
            refine zx_iload (pc := 46) G 6 rfl (z_dec T_X12_plan_ok 22 (46, .iload 6, 2) rfl) ?_
            refine zx_i2l (pc := 48) G  (z_dec T_X12_plan_ok 23 (48, .i2l, 1) rfl) ?_
            refine zx_ldc2 (pc := 49) G wk_RX12_186 (z_dec T_X12_plan_ok 24 (49, .ldc2_w 186, 3) rfl) ?_
            refine zx_iload (pc := 52) G 5 rfl (z_dec T_X12_plan_ok 25 (52, .iload 5, 2) rfl) ?_
            refine zx_iconst (pc := 54) (v := 1) G (z_dec T_X12_plan_ok 26 (54, .iconst 1, 1) rfl) rfl ?_
            refine zx_isub (pc := 55) G  (z_dec T_X12_plan_ok 27 (55, .isub, 1) rfl) ?_
            refine zx_i2l (pc := 56) G  (z_dec T_X12_plan_ok 28 (56, .i2l, 1) rfl) ?_
            refine zx_callS_zN (pc := 57) (rm := rm_X12_lies) G cw_RX12_140 ⟨Nat.le_of_ble_eq_true rfl, Nat.le_of_ble_eq_true rfl⟩ rfl rfl ⟨Nat.zero_le _, Nat.zero_le _⟩ (fun sz => (met_X12_lies l D ρ kd q μ8 sz a6.toInt64 ((-1 : Int64)) ((a5 - ((1 : Int32))).toInt64) _ hI h)) rfl rfl (Nat.le_of_ble_eq_true rfl) (z_dec T_X12_plan_ok 29 (57, .invokestatic 140, 3) rfl) (fun r11 μ10 hzr11 hn => ?_)
            clear h
            have h := hn
            clear hn
            refine zx_if_ne (pc := 60) (tgt := 65) G rfl (z_dec T_X12_plan_ok 30 (60, .ifCond .ne 5, 3) rfl) (fun hc => ?_) (fun hc => ?_)
            · replace h := z_neg hc h
              refine zx_iconst (pc := 65) (v := -1) G (z_dec T_X12_plan_ok 33 (65, .iconst (-1), 1) rfl) rfl ?_
              refine zx_istore (pc := 66) (lv' := [(7, .int ((-1 : Int32))), (0, .ref (0)), (1, .int (a1)), (2, .int (a2)), (3, .int (a3)), (4, .int (a4)), (5, .int (a5)), (6, .int (a6))]) G (Nat.le_of_ble_eq_true rfl) rfl (z_dec T_X12_plan_ok 34 (66, .istore 7, 2) rfl) ?_
              refine zx_iconst (pc := 68) (v := -1) G (z_dec T_X12_plan_ok 35 (68, .iconst (-1), 1) rfl) rfl ?_
              refine zx_istore (pc := 69) (lv' := [(8, .int ((-1 : Int32))), (7, .int ((-1 : Int32))), (0, .ref (0)), (1, .int (a1)), (2, .int (a2)), (3, .int (a3)), (4, .int (a4)), (5, .int (a5)), (6, .int (a6))]) G (Nat.le_of_ble_eq_true rfl) rfl (z_dec T_X12_plan_ok 36 (69, .istore 8, 2) rfl) ?_
              refine zx_iconst (pc := 71) (v := 0) G (z_dec T_X12_plan_ok 37 (71, .iconst 0, 1) rfl) rfl ?_
              refine zx_istore (pc := 72) (lv' := [(9, .int ((0 : Int32))), (8, .int ((-1 : Int32))), (7, .int ((-1 : Int32))), (0, .ref (0)), (1, .int (a1)), (2, .int (a2)), (3, .int (a3)), (4, .int (a4)), (5, .int (a5)), (6, .int (a6))]) G (Nat.le_of_ble_eq_true rfl) rfl (z_dec T_X12_plan_ok 38 (72, .istore 9, 2) rfl) ?_
              refine zx_sub (lv' := [(0, .ref (0)), (1, .int (a1)), (2, .int (a2)), (3, .int (a3)), (4, .int (a4)), (5, .int (a5)), (6, .int (a6)), (7, .int ((-1 : Int32))), (8, .int ((-1 : Int32))), (9, .int ((0 : Int32)))]) [3, 4, 5, 6, 7, 8, 9, 2, 1, 0] rfl ?_
              exact L_X12_plan_74_ok G hr hlk hI h_o h
            · replace h := z_pos hc h
              refine zx_iconst (pc := 63) (v := -1) G (z_dec T_X12_plan_ok 31 (63, .iconst (-1), 1) rfl) rfl ?_
              exact zx_iret (pc := 64) G hr hlk (Nat.le_refl _) (Nat.le_refl _) (z_dec T_X12_plan_ok 32 (64, .ireturn, 1) rfl) ⟨rfl, _, rfl, h⟩
abbrev rm_X12_isNear : Room := { frames := 1, cells := 0, slots := 0, locals := 25 }
set_option maxRecDepth 100000 in
set_option maxHeartbeats 4000000 in
theorem B_X12_isNear_54_ok {p : Program} {l : Launch} {e : Env} {s : State} {m : MethodId} {args : Array Value} {below : List Frame} {meth : Method} {c : Code} {D : va_G} {A : Nat → Prop} {ρ : z_A} {kd : z_K} {q : z_Q} {μ : z_M} {K : Int32 → z_M → Prop} {P3 : Int32 → Int32 → Int32 → Int32 → Int32 → Int32 → z_M → Prop} {P54 : Int32 → Int32 → Int32 → Int32 → Int32 → Int32 → Int32 → z_M → Prop} {v1 : Int32} {v2 : Int32} {v3 : Int32} {v4 : Int32} {v5 : Int32} {v6 : Int32} {v7 : Int32} (G : z_G p c cX12_isNear s m args RX12 8 D) (hr : meth.sig.returnType = (Option.some Jvm.ClassFile.FieldType.boolean)) (hlk : meth.locks = false) (hP3 : ∀ (v1 : Int32) (v2 : Int32) (v3 : Int32) (v4 : Int32) (v5 : Int32) (v6 : Int32) (μ : z_M), P3 v1 v2 v3 v4 v5 v6 μ → (kd 0 = some (.inl 12)) → z_X p l e rm_X12_isNear s m args below meth c 8 D A (MQ below (z_Qn D A ρ kd (z_Kz q K)) args s 0 0 A) 0 0 ρ kd q μ 3 [(0, .ref (0)), (1, .int (v1)), (2, .int (v2)), (3, .int (v3)), (4, .int (v4)), (5, .int (v5)), (6, .int (v6))] []) (hP54 : ∀ (v1 : Int32) (v2 : Int32) (v3 : Int32) (v4 : Int32) (v5 : Int32) (v6 : Int32) (v7 : Int32) (μ : z_M), P54 v1 v2 v3 v4 v5 v6 v7 μ → (kd 0 = some (.inl 12)) → z_X p l e rm_X12_isNear s m args below meth c 8 D A (MQ below (z_Qn D A ρ kd (z_Kz q K)) args s 0 0 A) 0 0 ρ kd q μ 54 [(0, .ref (0)), (1, .int (v1)), (2, .int (v2)), (3, .int (v3)), (4, .int (v4)), (5, .int (v5)), (6, .int (v6)), (7, .int (v7))] []) (hI : z_I kd q) (f_l0 : kd 0 = some (.inl 12)) (h : B_X12_isNear_54 K P3 P54 v1 v2 v3 v4 v5 v6 v7 μ) : z_X p l e rm_X12_isNear s m args below meth c 8 D A (MQ below (z_Qn D A ρ kd (z_Kz q K)) args s 0 0 A) 0 0 ρ kd q μ 54 [(0, .ref (0)), (1, .int (v1)), (2, .int (v2)), (3, .int (v3)), (4, .int (v4)), (5, .int (v5)), (6, .int (v6)), (7, .int (v7))] [] := by
    unfold B_X12_isNear_54 at h
    refine zx_iload (pc := 54) G 7 rfl (z_dec T_X12_isNear_ok 29 (54, .iload 7, 2) rfl) ?_
    refine zx_aload_n (pc := 56) G (some (0)) 0 rfl rfl (z_dec T_X12_isNear_ok 30 (56, .aload_n 0, 1) rfl) ?_
    refine zx_getI (pc := 57) G gf_RX12_196 rfl f_l0 (z_dec T_X12_isNear_ok 31 (57, .getfield 196, 3) rfl) ?_
    refine zx_icmp_ge (pc := 60) (tgt := 136) G rfl (z_dec T_X12_isNear_ok 32 (60, .if_icmp .ge 76, 3) rfl) (fun hc => ?_) (fun hc => ?_)
    · replace h := z_pos hc h
      refine zx_iinc (pc := 136) (v := v6 + 1) (lv' := [(6, .int (v6 + 1)), (0, .ref (0)), (1, .int (v1)), (2, .int (v2)), (3, .int (v3)), (4, .int (v4)), (5, .int (v5)), (7, .int (v7))]) G 6 rfl (z_inc (by decide)) (Nat.le_of_ble_eq_true rfl) rfl (z_dec T_X12_isNear_ok 74 (136, .iinc 6 1, 3) rfl) ?_
      refine zx_goto (pc := 139) (tgt := 3) G rfl (z_dec T_X12_isNear_ok 75 (139, .goto (-136), 3) rfl) ?_
      refine zx_sub (lv' := [(0, .ref (0)), (1, .int (v1)), (2, .int (v2)), (3, .int (v3)), (4, .int (v4)), (5, .int (v5)), (6, .int (v6 + 1))]) [1, 2, 3, 4, 5, 6, 0] rfl ?_
      exact hP3 _ _ _ _ _ _ _ h f_l0
    · replace h := z_neg hc h
      refine zx_aload_n (pc := 63) G (some (0)) 0 rfl rfl (z_dec T_X12_isNear_ok 33 (63, .aload_n 0, 1) rfl) ?_
      refine zx_getF (pc := 64) (b := 20) G gf_RX12_51 rfl f_l0 (zq_12_19 hI f_l0) (z_dec T_X12_isNear_ok 34 (64, .getfield 51, 3) rfl) ?_
      refine zx_iload (pc := 67) G 7 rfl (z_dec T_X12_isNear_ok 35 (67, .iload 7, 2) rfl) ?_
      obtain ⟨c1, h⟩ := h
      refine zx_iald (pc := 69) G (zk_12_19 hI f_l0) c1 (z_dec T_X12_isNear_ok 36 (69, .iaload, 1) rfl) ?_
      refine zx_iload_n (pc := 70) G 2 rfl rfl (z_dec T_X12_isNear_ok 37 (70, .iload_n 2, 1) rfl) ?_
      refine zx_icmp_ne (pc := 71) (tgt := 130) G rfl (z_dec T_X12_isNear_ok 38 (71, .if_icmp .ne 59, 3) rfl) (fun hc => ?_) (fun hc => ?_)
      · replace h := z_neg hc h
        refine zx_iinc (pc := 130) (v := v7 + 1) (lv' := [(7, .int (v7 + 1)), (0, .ref (0)), (1, .int (v1)), (2, .int (v2)), (3, .int (v3)), (4, .int (v4)), (5, .int (v5)), (6, .int (v6))]) G 7 rfl (z_inc (by decide)) (Nat.le_of_ble_eq_true rfl) rfl (z_dec T_X12_isNear_ok 72 (130, .iinc 7 1, 3) rfl) ?_
        refine zx_goto (pc := 133) (tgt := 54) G rfl (z_dec T_X12_isNear_ok 73 (133, .goto (-79), 3) rfl) ?_
        refine zx_sub (lv' := [(0, .ref (0)), (1, .int (v1)), (2, .int (v2)), (3, .int (v3)), (4, .int (v4)), (5, .int (v5)), (6, .int (v6)), (7, .int (v7 + 1))]) [1, 2, 3, 4, 5, 6, 7, 0] rfl ?_
        exact hP54 _ _ _ _ _ _ _ _ h f_l0
      · replace h := z_pos hc h
        refine zx_aload_n (pc := 74) G (some (0)) 0 rfl rfl (z_dec T_X12_isNear_ok 39 (74, .aload_n 0, 1) rfl) ?_
        refine zx_iload (pc := 75) G 7 rfl (z_dec T_X12_isNear_ok 40 (75, .iload 7, 2) rfl) ?_
        refine zx_callV_zN (pc := 77) (rm := rm_X12_isToWin) G cw_RX12_223 ⟨Nat.le_of_ble_eq_true rfl, Nat.le_of_ble_eq_true rfl⟩ rfl rfl ⟨Nat.zero_le _, Nat.zero_le _⟩ f_l0 rfl (fun sz => (met_X12_isToWin l D ρ kd q μ sz v7 _ hI f_l0 h)) rfl rfl (Nat.le_of_ble_eq_true rfl) (z_dec T_X12_isNear_ok 41 (77, .invokevirtual 223, 3) rfl) (fun r3 μ2 hzr3 hn => ?_)
        clear h
        have h := hn
        clear hn
        refine zx_if_eq (pc := 80) (tgt := 130) G rfl (z_dec T_X12_isNear_ok 42 (80, .ifCond .eq 50, 3) rfl) (fun hc => ?_) (fun hc => ?_)
        · replace h := z_pos hc h
          refine zx_iinc (pc := 130) (v := v7 + 1) (lv' := [(7, .int (v7 + 1)), (0, .ref (0)), (1, .int (v1)), (2, .int (v2)), (3, .int (v3)), (4, .int (v4)), (5, .int (v5)), (6, .int (v6))]) G 7 rfl (z_inc (by decide)) (Nat.le_of_ble_eq_true rfl) rfl (z_dec T_X12_isNear_ok 72 (130, .iinc 7 1, 3) rfl) ?_
          refine zx_goto (pc := 133) (tgt := 54) G rfl (z_dec T_X12_isNear_ok 73 (133, .goto (-79), 3) rfl) ?_
          refine zx_sub (lv' := [(0, .ref (0)), (1, .int (v1)), (2, .int (v2)), (3, .int (v3)), (4, .int (v4)), (5, .int (v5)), (6, .int (v6)), (7, .int (v7 + 1))]) [1, 2, 3, 4, 5, 6, 7, 0] rfl ?_
          exact hP54 _ _ _ _ _ _ _ _ h f_l0
        · replace h := z_neg hc h
          refine zx_aload_n (pc := 83) G (some (0)) 0 rfl rfl (z_dec T_X12_isNear_ok 43 (83, .aload_n 0, 1) rfl) ?_
          refine zx_getF (pc := 84) (b := 25) G gf_RX12_66 rfl f_l0 (zq_12_24 hI f_l0) (z_dec T_X12_isNear_ok 44 (84, .getfield 66, 3) rfl) ?_
          refine zx_iconst (pc := 87) (v := 3) G (z_dec T_X12_isNear_ok 45 (87, .iconst 3, 1) rfl) rfl ?_
          refine zx_iload (pc := 88) G 7 rfl (z_dec T_X12_isNear_ok 46 (88, .iload 7, 2) rfl) ?_
          refine zx_imul (pc := 90) G  (z_dec T_X12_isNear_ok 47 (90, .imul, 1) rfl) ?_
          refine zx_iload_n (pc := 91) G 3 rfl rfl (z_dec T_X12_isNear_ok 48 (91, .iload_n 3, 1) rfl) ?_
          refine zx_iadd (pc := 92) G  (z_dec T_X12_isNear_ok 49 (92, .iadd, 1) rfl) ?_
          obtain ⟨c4, h⟩ := h
          refine zx_iald (pc := 93) G (zk_12_24 hI f_l0) c4 (z_dec T_X12_isNear_ok 50 (93, .iaload, 1) rfl) ?_
          refine zx_iload (pc := 94) G 4 rfl (z_dec T_X12_isNear_ok 51 (94, .iload 4, 2) rfl) ?_
          refine zx_icmp_ne (pc := 96) (tgt := 130) G rfl (z_dec T_X12_isNear_ok 52 (96, .if_icmp .ne 34, 3) rfl) (fun hc => ?_) (fun hc => ?_)
          · replace h := z_neg hc h
            refine zx_iinc (pc := 130) (v := v7 + 1) (lv' := [(7, .int (v7 + 1)), (0, .ref (0)), (1, .int (v1)), (2, .int (v2)), (3, .int (v3)), (4, .int (v4)), (5, .int (v5)), (6, .int (v6))]) G 7 rfl (z_inc (by decide)) (Nat.le_of_ble_eq_true rfl) rfl (z_dec T_X12_isNear_ok 72 (130, .iinc 7 1, 3) rfl) ?_
            refine zx_goto (pc := 133) (tgt := 54) G rfl (z_dec T_X12_isNear_ok 73 (133, .goto (-79), 3) rfl) ?_
            refine zx_sub (lv' := [(0, .ref (0)), (1, .int (v1)), (2, .int (v2)), (3, .int (v3)), (4, .int (v4)), (5, .int (v5)), (6, .int (v6)), (7, .int (v7 + 1))]) [1, 2, 3, 4, 5, 6, 7, 0] rfl ?_
            exact hP54 _ _ _ _ _ _ _ _ h f_l0
          · replace h := z_pos hc h
            refine zx_aload_n (pc := 99) G (some (0)) 0 rfl rfl (z_dec T_X12_isNear_ok 53 (99, .aload_n 0, 1) rfl) ?_
            refine zx_getF (pc := 100) (b := 24) G gf_RX12_63 rfl f_l0 (zq_12_23 hI f_l0) (z_dec T_X12_isNear_ok 54 (100, .getfield 63, 3) rfl) ?_
            refine zx_iload (pc := 103) G 6 rfl (z_dec T_X12_isNear_ok 55 (103, .iload 6, 2) rfl) ?_
            obtain ⟨c5, h⟩ := h
            refine zx_iald (pc := 105) G (zk_12_23 hI f_l0) c5 (z_dec T_X12_isNear_ok 56 (105, .iaload, 1) rfl) ?_
            refine zx_aload_n (pc := 106) G (some (0)) 0 rfl rfl (z_dec T_X12_isNear_ok 57 (106, .aload_n 0, 1) rfl) ?_
            refine zx_getF (pc := 107) (b := 24) G gf_RX12_63 rfl f_l0 (zq_12_23 hI f_l0) (z_dec T_X12_isNear_ok 58 (107, .getfield 63, 3) rfl) ?_
            refine zx_iload (pc := 110) G 7 rfl (z_dec T_X12_isNear_ok 59 (110, .iload 7, 2) rfl) ?_
            refine zx_iald (pc := 112) G (zk_12_23 hI f_l0) c1 (z_dec T_X12_isNear_ok 60 (112, .iaload, 1) rfl) ?_
            refine zx_isub (pc := 113) G  (z_dec T_X12_isNear_ok 61 (113, .isub, 1) rfl) ?_
            refine zx_i2l (pc := 114) G  (z_dec T_X12_isNear_ok 62 (114, .i2l, 1) rfl) ?_
            refine zx_iload (pc := 115) G 5 rfl (z_dec T_X12_isNear_ok 63 (115, .iload 5, 2) rfl) ?_
            refine zx_ineg (pc := 117) G  (z_dec T_X12_isNear_ok 64 (117, .ineg, 1) rfl) ?_
            refine zx_i2l (pc := 118) G  (z_dec T_X12_isNear_ok 65 (118, .i2l, 1) rfl) ?_
            refine zx_iload (pc := 119) G 5 rfl (z_dec T_X12_isNear_ok 66 (119, .iload 5, 2) rfl) ?_
            refine zx_i2l (pc := 121) G  (z_dec T_X12_isNear_ok 67 (121, .i2l, 1) rfl) ?_
            refine zx_callS_zN (pc := 122) (rm := rm_X12_lies) G cw_RX12_140 ⟨Nat.le_of_ble_eq_true rfl, Nat.le_of_ble_eq_true rfl⟩ rfl rfl ⟨Nat.zero_le _, Nat.zero_le _⟩ (fun sz => (met_X12_lies l D ρ kd q μ2 sz (((μ2.1 24 v6.toNatClampNeg) - (μ2.1 24 v7.toNatClampNeg)).toInt64) ((0 - v5).toInt64) v5.toInt64 _ hI h)) rfl rfl (Nat.le_of_ble_eq_true rfl) (z_dec T_X12_isNear_ok 68 (122, .invokestatic 140, 3) rfl) (fun r7 μ6 hzr7 hn => ?_)
            clear h
            have h := hn
            clear hn
            refine zx_if_eq (pc := 125) (tgt := 130) G rfl (z_dec T_X12_isNear_ok 69 (125, .ifCond .eq 5, 3) rfl) (fun hc => ?_) (fun hc => ?_)
            · replace h := z_pos hc h
              refine zx_iinc (pc := 130) (v := v7 + 1) (lv' := [(7, .int (v7 + 1)), (0, .ref (0)), (1, .int (v1)), (2, .int (v2)), (3, .int (v3)), (4, .int (v4)), (5, .int (v5)), (6, .int (v6))]) G 7 rfl (z_inc (by decide)) (Nat.le_of_ble_eq_true rfl) rfl (z_dec T_X12_isNear_ok 72 (130, .iinc 7 1, 3) rfl) ?_
              refine zx_goto (pc := 133) (tgt := 54) G rfl (z_dec T_X12_isNear_ok 73 (133, .goto (-79), 3) rfl) ?_
              refine zx_sub (lv' := [(0, .ref (0)), (1, .int (v1)), (2, .int (v2)), (3, .int (v3)), (4, .int (v4)), (5, .int (v5)), (6, .int (v6)), (7, .int (v7 + 1))]) [1, 2, 3, 4, 5, 6, 7, 0] rfl ?_
              exact hP54 _ _ _ _ _ _ _ _ h f_l0
            · replace h := z_neg hc h
              refine zx_iconst (pc := 128) (v := 1) G (z_dec T_X12_isNear_ok 70 (128, .iconst 1, 1) rfl) rfl ?_
              exact zx_zret (pc := 129) G hr hlk (Nat.le_refl _) (Nat.le_refl _) (Or.inr rfl) (z_dec T_X12_isNear_ok 71 (129, .ireturn, 1) rfl) ⟨rfl, _, rfl, (Or.inr rfl), h⟩
set_option maxRecDepth 100000 in
set_option maxHeartbeats 4000000 in
theorem L_X12_isNear_54_ok {p : Program} {l : Launch} {e : Env} {s : State} {m : MethodId} {args : Array Value} {below : List Frame} {meth : Method} {c : Code} {D : va_G} {A : Nat → Prop} {ρ : z_A} {kd : z_K} {q : z_Q} {μ : z_M} {K : Int32 → z_M → Prop} {P3 : Int32 → Int32 → Int32 → Int32 → Int32 → Int32 → z_M → Prop} {v1 : Int32} {v2 : Int32} {v3 : Int32} {v4 : Int32} {v5 : Int32} {v6 : Int32} {v7 : Int32} (G : z_G p c cX12_isNear s m args RX12 8 D) (hr : meth.sig.returnType = (Option.some Jvm.ClassFile.FieldType.boolean)) (hlk : meth.locks = false) (hP3 : ∀ (v1 : Int32) (v2 : Int32) (v3 : Int32) (v4 : Int32) (v5 : Int32) (v6 : Int32) (μ : z_M), P3 v1 v2 v3 v4 v5 v6 μ → (kd 0 = some (.inl 12)) → z_X p l e rm_X12_isNear s m args below meth c 8 D A (MQ below (z_Qn D A ρ kd (z_Kz q K)) args s 0 0 A) 0 0 ρ kd q μ 3 [(0, .ref (0)), (1, .int (v1)), (2, .int (v2)), (3, .int (v3)), (4, .int (v4)), (5, .int (v5)), (6, .int (v6))] []) (hI : z_I kd q) (f_l0 : kd 0 = some (.inl 12)) (h : L_X12_isNear_54 K P3 v1 v2 v3 v4 v5 v6 v7 μ) : z_X p l e rm_X12_isNear s m args below meth c 8 D A (MQ below (z_Qn D A ρ kd (z_Kz q K)) args s 0 0 A) 0 0 ρ kd q μ 54 [(0, .ref (0)), (1, .int (v1)), (2, .int (v2)), (3, .int (v3)), (4, .int (v4)), (5, .int (v5)), (6, .int (v6)), (7, .int (v7))] [] :=
  h (fun (v1 : Int32) (v2 : Int32) (v3 : Int32) (v4 : Int32) (v5 : Int32) (v6 : Int32) (v7 : Int32) (μ : z_M) => (kd 0 = some (.inl 12)) → z_X p l e rm_X12_isNear s m args below meth c 8 D A (MQ below (z_Qn D A ρ kd (z_Kz q K)) args s 0 0 A) 0 0 ρ kd q μ 54 [(0, .ref (0)), (1, .int (v1)), (2, .int (v2)), (3, .int (v3)), (4, .int (v4)), (5, .int (v5)), (6, .int (v6)), (7, .int (v7))] []) (fun v1 v2 v3 v4 v5 v6 v7 μ h f_l0 => B_X12_isNear_54_ok G hr hlk hP3 (fun _ _ _ _ _ _ _ _ h => h) hI f_l0 h) f_l0
set_option maxRecDepth 100000 in
set_option maxHeartbeats 4000000 in
theorem B_X12_isNear_3_ok {p : Program} {l : Launch} {e : Env} {s : State} {m : MethodId} {args : Array Value} {below : List Frame} {meth : Method} {c : Code} {D : va_G} {A : Nat → Prop} {ρ : z_A} {kd : z_K} {q : z_Q} {μ : z_M} {K : Int32 → z_M → Prop} {P3 : Int32 → Int32 → Int32 → Int32 → Int32 → Int32 → z_M → Prop} {v1 : Int32} {v2 : Int32} {v3 : Int32} {v4 : Int32} {v5 : Int32} {v6 : Int32} (G : z_G p c cX12_isNear s m args RX12 8 D) (hr : meth.sig.returnType = (Option.some Jvm.ClassFile.FieldType.boolean)) (hlk : meth.locks = false) (hP3 : ∀ (v1 : Int32) (v2 : Int32) (v3 : Int32) (v4 : Int32) (v5 : Int32) (v6 : Int32) (μ : z_M), P3 v1 v2 v3 v4 v5 v6 μ → (kd 0 = some (.inl 12)) → z_X p l e rm_X12_isNear s m args below meth c 8 D A (MQ below (z_Qn D A ρ kd (z_Kz q K)) args s 0 0 A) 0 0 ρ kd q μ 3 [(0, .ref (0)), (1, .int (v1)), (2, .int (v2)), (3, .int (v3)), (4, .int (v4)), (5, .int (v5)), (6, .int (v6))] []) (hI : z_I kd q) (f_l0 : kd 0 = some (.inl 12)) (h : B_X12_isNear_3 K P3 v1 v2 v3 v4 v5 v6 μ) : z_X p l e rm_X12_isNear s m args below meth c 8 D A (MQ below (z_Qn D A ρ kd (z_Kz q K)) args s 0 0 A) 0 0 ρ kd q μ 3 [(0, .ref (0)), (1, .int (v1)), (2, .int (v2)), (3, .int (v3)), (4, .int (v4)), (5, .int (v5)), (6, .int (v6))] [] := by
    unfold B_X12_isNear_3 at h
    refine zx_iload (pc := 3) G 6 rfl (z_dec T_X12_isNear_ok 2 (3, .iload 6, 2) rfl) ?_
    refine zx_aload_n (pc := 5) G (some (0)) 0 rfl rfl (z_dec T_X12_isNear_ok 3 (5, .aload_n 0, 1) rfl) ?_
    refine zx_getI (pc := 6) G gf_RX12_196 rfl f_l0 (z_dec T_X12_isNear_ok 4 (6, .getfield 196, 3) rfl) ?_
    refine zx_icmp_ge (pc := 9) (tgt := 142) G rfl (z_dec T_X12_isNear_ok 5 (9, .if_icmp .ge 133, 3) rfl) (fun hc => ?_) (fun hc => ?_)
    · replace h := z_pos hc h
      refine zx_iconst (pc := 142) (v := 0) G (z_dec T_X12_isNear_ok 76 (142, .iconst 0, 1) rfl) rfl ?_
      exact zx_zret (pc := 143) G hr hlk (Nat.le_refl _) (Nat.le_refl _) (Or.inl rfl) (z_dec T_X12_isNear_ok 77 (143, .ireturn, 1) rfl) ⟨rfl, _, rfl, (Or.inl rfl), h⟩
    · replace h := z_neg hc h
      refine zx_aload_n (pc := 12) G (some (0)) 0 rfl rfl (z_dec T_X12_isNear_ok 6 (12, .aload_n 0, 1) rfl) ?_
      refine zx_getF (pc := 13) (b := 20) G gf_RX12_51 rfl f_l0 (zq_12_19 hI f_l0) (z_dec T_X12_isNear_ok 7 (13, .getfield 51, 3) rfl) ?_
      refine zx_iload (pc := 16) G 6 rfl (z_dec T_X12_isNear_ok 8 (16, .iload 6, 2) rfl) ?_
      obtain ⟨c1, h⟩ := h
      refine zx_iald (pc := 18) G (zk_12_19 hI f_l0) c1 (z_dec T_X12_isNear_ok 9 (18, .iaload, 1) rfl) ?_
      refine zx_iload_n (pc := 19) G 1 rfl rfl (z_dec T_X12_isNear_ok 10 (19, .iload_n 1, 1) rfl) ?_
      refine zx_icmp_ne (pc := 20) (tgt := 136) G rfl (z_dec T_X12_isNear_ok 11 (20, .if_icmp .ne 116, 3) rfl) (fun hc => ?_) (fun hc => ?_)
      · replace h := z_neg hc h
        refine zx_iinc (pc := 136) (v := v6 + 1) (lv' := [(6, .int (v6 + 1)), (0, .ref (0)), (1, .int (v1)), (2, .int (v2)), (3, .int (v3)), (4, .int (v4)), (5, .int (v5))]) G 6 rfl (z_inc (by decide)) (Nat.le_of_ble_eq_true rfl) rfl (z_dec T_X12_isNear_ok 74 (136, .iinc 6 1, 3) rfl) ?_
        refine zx_goto (pc := 139) (tgt := 3) G rfl (z_dec T_X12_isNear_ok 75 (139, .goto (-136), 3) rfl) ?_
        refine zx_sub (lv' := [(0, .ref (0)), (1, .int (v1)), (2, .int (v2)), (3, .int (v3)), (4, .int (v4)), (5, .int (v5)), (6, .int (v6 + 1))]) [1, 2, 3, 4, 5, 6, 0] rfl ?_
        exact hP3 _ _ _ _ _ _ _ h f_l0
      · replace h := z_pos hc h
        refine zx_aload_n (pc := 23) G (some (0)) 0 rfl rfl (z_dec T_X12_isNear_ok 12 (23, .aload_n 0, 1) rfl) ?_
        refine zx_iload (pc := 24) G 6 rfl (z_dec T_X12_isNear_ok 13 (24, .iload 6, 2) rfl) ?_
        refine zx_callV_zN (pc := 26) (rm := rm_X12_isToWin) G cw_RX12_223 ⟨Nat.le_of_ble_eq_true rfl, Nat.le_of_ble_eq_true rfl⟩ rfl rfl ⟨Nat.zero_le _, Nat.zero_le _⟩ f_l0 rfl (fun sz => (met_X12_isToWin l D ρ kd q μ sz v6 _ hI f_l0 h)) rfl rfl (Nat.le_of_ble_eq_true rfl) (z_dec T_X12_isNear_ok 14 (26, .invokevirtual 223, 3) rfl) (fun r3 μ2 hzr3 hn => ?_)
        clear h
        have h := hn
        clear hn
        refine zx_if_eq (pc := 29) (tgt := 136) G rfl (z_dec T_X12_isNear_ok 15 (29, .ifCond .eq 107, 3) rfl) (fun hc => ?_) (fun hc => ?_)
        · replace h := z_pos hc h
          refine zx_iinc (pc := 136) (v := v6 + 1) (lv' := [(6, .int (v6 + 1)), (0, .ref (0)), (1, .int (v1)), (2, .int (v2)), (3, .int (v3)), (4, .int (v4)), (5, .int (v5))]) G 6 rfl (z_inc (by decide)) (Nat.le_of_ble_eq_true rfl) rfl (z_dec T_X12_isNear_ok 74 (136, .iinc 6 1, 3) rfl) ?_
          refine zx_goto (pc := 139) (tgt := 3) G rfl (z_dec T_X12_isNear_ok 75 (139, .goto (-136), 3) rfl) ?_
          refine zx_sub (lv' := [(0, .ref (0)), (1, .int (v1)), (2, .int (v2)), (3, .int (v3)), (4, .int (v4)), (5, .int (v5)), (6, .int (v6 + 1))]) [1, 2, 3, 4, 5, 6, 0] rfl ?_
          exact hP3 _ _ _ _ _ _ _ h f_l0
        · replace h := z_neg hc h
          refine zx_aload_n (pc := 32) G (some (0)) 0 rfl rfl (z_dec T_X12_isNear_ok 16 (32, .aload_n 0, 1) rfl) ?_
          refine zx_getF (pc := 33) (b := 25) G gf_RX12_66 rfl f_l0 (zq_12_24 hI f_l0) (z_dec T_X12_isNear_ok 17 (33, .getfield 66, 3) rfl) ?_
          refine zx_iconst (pc := 36) (v := 3) G (z_dec T_X12_isNear_ok 18 (36, .iconst 3, 1) rfl) rfl ?_
          refine zx_iload (pc := 37) G 6 rfl (z_dec T_X12_isNear_ok 19 (37, .iload 6, 2) rfl) ?_
          refine zx_imul (pc := 39) G  (z_dec T_X12_isNear_ok 20 (39, .imul, 1) rfl) ?_
          refine zx_iload_n (pc := 40) G 3 rfl rfl (z_dec T_X12_isNear_ok 21 (40, .iload_n 3, 1) rfl) ?_
          refine zx_iadd (pc := 41) G  (z_dec T_X12_isNear_ok 22 (41, .iadd, 1) rfl) ?_
          obtain ⟨c4, h⟩ := h
          refine zx_iald (pc := 42) G (zk_12_24 hI f_l0) c4 (z_dec T_X12_isNear_ok 23 (42, .iaload, 1) rfl) ?_
          refine zx_iload (pc := 43) G 4 rfl (z_dec T_X12_isNear_ok 24 (43, .iload 4, 2) rfl) ?_
          refine zx_icmp_eq (pc := 45) (tgt := 51) G rfl (z_dec T_X12_isNear_ok 25 (45, .if_icmp .eq 6, 3) rfl) (fun hc => ?_) (fun hc => ?_)
          · replace h := z_pos hc h
            refine zx_iconst (pc := 51) (v := 0) G (z_dec T_X12_isNear_ok 27 (51, .iconst 0, 1) rfl) rfl ?_
            refine zx_istore (pc := 52) (lv' := [(7, .int ((0 : Int32))), (0, .ref (0)), (1, .int (v1)), (2, .int (v2)), (3, .int (v3)), (4, .int (v4)), (5, .int (v5)), (6, .int (v6))]) G (Nat.le_of_ble_eq_true rfl) rfl (z_dec T_X12_isNear_ok 28 (52, .istore 7, 2) rfl) ?_
            refine zx_sub (lv' := [(0, .ref (0)), (1, .int (v1)), (2, .int (v2)), (3, .int (v3)), (4, .int (v4)), (5, .int (v5)), (6, .int (v6)), (7, .int ((0 : Int32)))]) [1, 2, 3, 4, 5, 6, 7, 0] rfl ?_
            exact L_X12_isNear_54_ok G hr hlk hP3 hI f_l0 h
          · replace h := z_neg hc h
            refine zx_goto (pc := 48) (tgt := 136) G rfl (z_dec T_X12_isNear_ok 26 (48, .goto 88, 3) rfl) ?_
            refine zx_iinc (pc := 136) (v := v6 + 1) (lv' := [(6, .int (v6 + 1)), (0, .ref (0)), (1, .int (v1)), (2, .int (v2)), (3, .int (v3)), (4, .int (v4)), (5, .int (v5))]) G 6 rfl (z_inc (by decide)) (Nat.le_of_ble_eq_true rfl) rfl (z_dec T_X12_isNear_ok 74 (136, .iinc 6 1, 3) rfl) ?_
            refine zx_goto (pc := 139) (tgt := 3) G rfl (z_dec T_X12_isNear_ok 75 (139, .goto (-136), 3) rfl) ?_
            refine zx_sub (lv' := [(0, .ref (0)), (1, .int (v1)), (2, .int (v2)), (3, .int (v3)), (4, .int (v4)), (5, .int (v5)), (6, .int (v6 + 1))]) [1, 2, 3, 4, 5, 6, 0] rfl ?_
            exact hP3 _ _ _ _ _ _ _ h f_l0
set_option maxRecDepth 100000 in
set_option maxHeartbeats 4000000 in
theorem L_X12_isNear_3_ok {p : Program} {l : Launch} {e : Env} {s : State} {m : MethodId} {args : Array Value} {below : List Frame} {meth : Method} {c : Code} {D : va_G} {A : Nat → Prop} {ρ : z_A} {kd : z_K} {q : z_Q} {μ : z_M} {K : Int32 → z_M → Prop} {v1 : Int32} {v2 : Int32} {v3 : Int32} {v4 : Int32} {v5 : Int32} {v6 : Int32} (G : z_G p c cX12_isNear s m args RX12 8 D) (hr : meth.sig.returnType = (Option.some Jvm.ClassFile.FieldType.boolean)) (hlk : meth.locks = false) (hI : z_I kd q) (f_l0 : kd 0 = some (.inl 12)) (h : L_X12_isNear_3 K v1 v2 v3 v4 v5 v6 μ) : z_X p l e rm_X12_isNear s m args below meth c 8 D A (MQ below (z_Qn D A ρ kd (z_Kz q K)) args s 0 0 A) 0 0 ρ kd q μ 3 [(0, .ref (0)), (1, .int (v1)), (2, .int (v2)), (3, .int (v3)), (4, .int (v4)), (5, .int (v5)), (6, .int (v6))] [] :=
  h (fun (v1 : Int32) (v2 : Int32) (v3 : Int32) (v4 : Int32) (v5 : Int32) (v6 : Int32) (μ : z_M) => (kd 0 = some (.inl 12)) → z_X p l e rm_X12_isNear s m args below meth c 8 D A (MQ below (z_Qn D A ρ kd (z_Kz q K)) args s 0 0 A) 0 0 ρ kd q μ 3 [(0, .ref (0)), (1, .int (v1)), (2, .int (v2)), (3, .int (v3)), (4, .int (v4)), (5, .int (v5)), (6, .int (v6))] []) (fun v1 v2 v3 v4 v5 v6 μ h f_l0 => B_X12_isNear_3_ok G hr hlk (fun _ _ _ _ _ _ _ h => h) hI f_l0 h) f_l0
set_option maxRecDepth 100000 in
set_option maxHeartbeats 4000000 in
theorem met_X12_isNear (l : Launch) (D : va_G) (ρ : z_A) (kd : z_K) (q : z_Q) (μ : z_M) (sz : Nat) (a1 : Int32) (a2 : Int32) (a3 : Int32) (a4 : Int32) (a5 : Int32) (K : Int32 → z_M → Prop) (hI : z_I kd q) (h_o : kd 0 = some (.inl 12)) (h : C_X12_isNear a1 a2 a3 a4 a5 μ K) : Met l yX12_isNear (z_ws yX12_isNear cX12_isNear 8 (Option.some Jvm.ClassFile.FieldType.boolean)) rm_X12_isNear (z_Pc D ρ kd q μ sz [.ref (0), .int (a1), .int (a2), .int (a3), .int (a4), .int (a5)]) (z_Qn D (z_Rg ρ sz) ρ kd (z_Kz q K)) 0 0 (z_Rg ρ sz) := by
  refine z_met (rm := rm_X12_isNear) (by decide) (Nat.le_of_ble_eq_true rfl) (fun p e s m args below meth c G hr hlk => ?_)
  unfold C_X12_isNear at h
  show z_X _ _ _ _ _ _ _ _ _ _ _ _ _ _ _ _ _ _ _ _ _ [(0, .ref (0)), (1, .int (a1)), (2, .int (a2)), (3, .int (a3)), (4, .int (a4)), (5, .int (a5))] _
  refine zx_iconst (pc := 0) (v := 0) G (z_dec T_X12_isNear_ok 0 (0, .iconst 0, 1) rfl) rfl ?_
  refine zx_istore (pc := 1) (lv' := [(6, .int ((0 : Int32))), (0, .ref (0)), (1, .int (a1)), (2, .int (a2)), (3, .int (a3)), (4, .int (a4)), (5, .int (a5))]) G (Nat.le_of_ble_eq_true rfl) rfl (z_dec T_X12_isNear_ok 1 (1, .istore 6, 2) rfl) ?_
  refine zx_sub (lv' := [(0, .ref (0)), (1, .int (a1)), (2, .int (a2)), (3, .int (a3)), (4, .int (a4)), (5, .int (a5)), (6, .int ((0 : Int32)))]) [1, 2, 3, 4, 5, 6, 0] rfl ?_
  exact L_X12_isNear_3_ok G hr hlk hI h_o h
abbrev rm_X12_areTogether : Room := { frames := 2, cells := 0, slots := 0, locals := 52 }
set_option maxRecDepth 100000 in
set_option maxHeartbeats 4000000 in
theorem B_X12_areTogether_18_ok {p : Program} {l : Launch} {e : Env} {s : State} {m : MethodId} {args : Array Value} {below : List Frame} {meth : Method} {c : Code} {D : va_G} {A : Nat → Prop} {ρ : z_A} {kd : z_K} {q : z_Q} {μ : z_M} {K : Int32 → z_M → Prop} {P6 : Int32 → Int32 → Int32 → Int32 → Int32 → Int32 → z_M → Prop} {P18 : Int32 → Int32 → Int32 → Int32 → Int32 → Int32 → Int32 → z_M → Prop} {v1 : Int32} {v2 : Int32} {v3 : Int32} {v4 : Int32} {v5 : Int32} {v6 : Int32} {v7 : Int32} (G : z_G p c cX12_areTogether s m args RX12 8 D) (hr : meth.sig.returnType = (Option.some Jvm.ClassFile.FieldType.boolean)) (hlk : meth.locks = false) (hP6 : ∀ (v1 : Int32) (v2 : Int32) (v3 : Int32) (v4 : Int32) (v5 : Int32) (v6 : Int32) (μ : z_M), P6 v1 v2 v3 v4 v5 v6 μ → (kd 0 = some (.inl 12)) → z_X p l e rm_X12_areTogether s m args below meth c 8 D A (MQ below (z_Qn D A ρ kd (z_Kz q K)) args s 0 0 A) 0 0 ρ kd q μ 6 [(0, .ref (0)), (1, .int (v1)), (2, .int (v2)), (3, .int (v3)), (4, .int (v4)), (5, .int (v5)), (6, .int (v6))] []) (hP18 : ∀ (v1 : Int32) (v2 : Int32) (v3 : Int32) (v4 : Int32) (v5 : Int32) (v6 : Int32) (v7 : Int32) (μ : z_M), P18 v1 v2 v3 v4 v5 v6 v7 μ → (kd 0 = some (.inl 12)) → z_X p l e rm_X12_areTogether s m args below meth c 8 D A (MQ below (z_Qn D A ρ kd (z_Kz q K)) args s 0 0 A) 0 0 ρ kd q μ 18 [(0, .ref (0)), (1, .int (v1)), (2, .int (v2)), (3, .int (v3)), (4, .int (v4)), (5, .int (v5)), (6, .int (v6)), (7, .int (v7))] []) (hI : z_I kd q) (f_l0 : kd 0 = some (.inl 12)) (h : B_X12_areTogether_18 K P6 P18 v1 v2 v3 v4 v5 v6 v7 μ) : z_X p l e rm_X12_areTogether s m args below meth c 8 D A (MQ below (z_Qn D A ρ kd (z_Kz q K)) args s 0 0 A) 0 0 ρ kd q μ 18 [(0, .ref (0)), (1, .int (v1)), (2, .int (v2)), (3, .int (v3)), (4, .int (v4)), (5, .int (v5)), (6, .int (v6)), (7, .int (v7))] [] := by
    unfold B_X12_areTogether_18 at h
    refine zx_iload (pc := 18) G 7 rfl (z_dec T_X12_areTogether_ok 10 (18, .iload 7, 2) rfl) ?_
    refine zx_aload_n (pc := 20) G (some (0)) 0 rfl rfl (z_dec T_X12_areTogether_ok 11 (20, .aload_n 0, 1) rfl) ?_
    refine zx_getF (pc := 21) (b := 10) G gf_RX12_20 rfl f_l0 (zq_12_9 hI f_l0) (z_dec T_X12_areTogether_ok 12 (21, .getfield 20, 3) rfl) ?_
    refine zx_iload (pc := 24) G 6 rfl (z_dec T_X12_areTogether_ok 13 (24, .iload 6, 2) rfl) ?_
    obtain ⟨c1, h⟩ := h
    refine zx_iald (pc := 26) G (zk_12_9 hI f_l0) c1 (z_dec T_X12_areTogether_ok 14 (26, .iaload, 1) rfl) ?_
    refine zx_icmp_ge (pc := 27) (tgt := 61) G rfl (z_dec T_X12_areTogether_ok 15 (27, .if_icmp .ge 34, 3) rfl) (fun hc => ?_) (fun hc => ?_)
    · replace h := z_pos hc h
      refine zx_iinc (pc := 61) (v := v6 + 1) (lv' := [(6, .int (v6 + 1)), (0, .ref (0)), (1, .int (v1)), (2, .int (v2)), (3, .int (v3)), (4, .int (v4)), (5, .int (v5)), (7, .int (v7))]) G 6 rfl (z_inc (by decide)) (Nat.le_of_ble_eq_true rfl) rfl (z_dec T_X12_areTogether_ok 32 (61, .iinc 6 1, 3) rfl) ?_
      refine zx_goto (pc := 64) (tgt := 6) G rfl (z_dec T_X12_areTogether_ok 33 (64, .goto (-58), 3) rfl) ?_
      refine zx_sub (lv' := [(0, .ref (0)), (1, .int (v1)), (2, .int (v2)), (3, .int (v3)), (4, .int (v4)), (5, .int (v5)), (6, .int (v6 + 1))]) [1, 2, 3, 4, 5, 6, 0] rfl ?_
      exact hP6 _ _ _ _ _ _ _ h f_l0
    · replace h := z_neg hc h
      refine zx_iload (pc := 30) G 5 rfl (z_dec T_X12_areTogether_ok 16 (30, .iload 5, 2) rfl) ?_
      refine zx_aload_n (pc := 32) G (some (0)) 0 rfl rfl (z_dec T_X12_areTogether_ok 17 (32, .aload_n 0, 1) rfl) ?_
      refine zx_iload_n (pc := 33) G 1 rfl rfl (z_dec T_X12_areTogether_ok 18 (33, .iload_n 1, 1) rfl) ?_
      refine zx_iload_n (pc := 34) G 2 rfl rfl (z_dec T_X12_areTogether_ok 19 (34, .iload_n 2, 1) rfl) ?_
      refine zx_iload (pc := 35) G 6 rfl (z_dec T_X12_areTogether_ok 20 (35, .iload 6, 2) rfl) ?_
      refine zx_iload (pc := 37) G 7 rfl (z_dec T_X12_areTogether_ok 21 (37, .iload 7, 2) rfl) ?_
      refine zx_iload (pc := 39) G 4 rfl (z_dec T_X12_areTogether_ok 22 (39, .iload 4, 2) rfl) ?_
      refine zx_callV_zN (pc := 41) (rm := rm_X12_isNear) G cw_RX12_468 ⟨Nat.le_of_ble_eq_true rfl, Nat.le_of_ble_eq_true rfl⟩ rfl rfl ⟨Nat.zero_le _, Nat.zero_le _⟩ f_l0 rfl (fun sz => (met_X12_isNear l D ρ kd q μ sz v1 v2 v6 v7 v4 _ hI f_l0 h)) rfl rfl (Nat.le_of_ble_eq_true rfl) (z_dec T_X12_areTogether_ok 23 (41, .invokevirtual 468, 3) rfl) (fun r3 μ2 hzr3 hn => ?_)
      clear h
      have h := hn
      clear hn
      refine zx_if_eq (pc := 44) (tgt := 51) G rfl (z_dec T_X12_areTogether_ok 24 (44, .ifCond .eq 7, 3) rfl) (fun hc => ?_) (fun hc => ?_)
      · replace h := z_pos hc h
        refine zx_iconst (pc := 51) (v := 0) G (z_dec T_X12_areTogether_ok 27 (51, .iconst 0, 1) rfl) rfl ?_
        refine zx_iadd (pc := 52) G  (z_dec T_X12_areTogether_ok 28 (52, .iadd, 1) rfl) ?_
        refine zx_istore (pc := 53) (lv' := [(5, .int (v5 + ((0 : Int32)))), (0, .ref (0)), (1, .int (v1)), (2, .int (v2)), (3, .int (v3)), (4, .int (v4)), (6, .int (v6)), (7, .int (v7))]) G (Nat.le_of_ble_eq_true rfl) rfl (z_dec T_X12_areTogether_ok 29 (53, .istore 5, 2) rfl) ?_
        refine zx_iinc (pc := 55) (v := v7 + 1) (lv' := [(7, .int (v7 + 1)), (5, .int (v5 + ((0 : Int32)))), (0, .ref (0)), (1, .int (v1)), (2, .int (v2)), (3, .int (v3)), (4, .int (v4)), (6, .int (v6))]) G 7 rfl (z_inc (by decide)) (Nat.le_of_ble_eq_true rfl) rfl (z_dec T_X12_areTogether_ok 30 (55, .iinc 7 1, 3) rfl) ?_
        refine zx_goto (pc := 58) (tgt := 18) G rfl (z_dec T_X12_areTogether_ok 31 (58, .goto (-40), 3) rfl) ?_
        refine zx_sub (lv' := [(0, .ref (0)), (1, .int (v1)), (2, .int (v2)), (3, .int (v3)), (4, .int (v4)), (5, .int (v5 + ((0 : Int32)))), (6, .int (v6)), (7, .int (v7 + 1))]) [2, 3, 4, 5, 6, 1, 7, 0] rfl ?_
        exact hP18 _ _ _ _ _ _ _ _ h f_l0
      · replace h := z_neg hc h
        refine zx_iconst (pc := 47) (v := 1) G (z_dec T_X12_areTogether_ok 25 (47, .iconst 1, 1) rfl) rfl ?_
        refine zx_goto (pc := 48) (tgt := 52) G rfl (z_dec T_X12_areTogether_ok 26 (48, .goto 4, 3) rfl) ?_
        refine zx_iadd (pc := 52) G  (z_dec T_X12_areTogether_ok 28 (52, .iadd, 1) rfl) ?_
        refine zx_istore (pc := 53) (lv' := [(5, .int (v5 + ((1 : Int32)))), (0, .ref (0)), (1, .int (v1)), (2, .int (v2)), (3, .int (v3)), (4, .int (v4)), (6, .int (v6)), (7, .int (v7))]) G (Nat.le_of_ble_eq_true rfl) rfl (z_dec T_X12_areTogether_ok 29 (53, .istore 5, 2) rfl) ?_
        refine zx_iinc (pc := 55) (v := v7 + 1) (lv' := [(7, .int (v7 + 1)), (5, .int (v5 + ((1 : Int32)))), (0, .ref (0)), (1, .int (v1)), (2, .int (v2)), (3, .int (v3)), (4, .int (v4)), (6, .int (v6))]) G 7 rfl (z_inc (by decide)) (Nat.le_of_ble_eq_true rfl) rfl (z_dec T_X12_areTogether_ok 30 (55, .iinc 7 1, 3) rfl) ?_
        refine zx_goto (pc := 58) (tgt := 18) G rfl (z_dec T_X12_areTogether_ok 31 (58, .goto (-40), 3) rfl) ?_
        refine zx_sub (lv' := [(0, .ref (0)), (1, .int (v1)), (2, .int (v2)), (3, .int (v3)), (4, .int (v4)), (5, .int (v5 + ((1 : Int32)))), (6, .int (v6)), (7, .int (v7 + 1))]) [2, 3, 4, 5, 6, 1, 7, 0] rfl ?_
        exact hP18 _ _ _ _ _ _ _ _ h f_l0
set_option maxRecDepth 100000 in
set_option maxHeartbeats 4000000 in
theorem L_X12_areTogether_18_ok {p : Program} {l : Launch} {e : Env} {s : State} {m : MethodId} {args : Array Value} {below : List Frame} {meth : Method} {c : Code} {D : va_G} {A : Nat → Prop} {ρ : z_A} {kd : z_K} {q : z_Q} {μ : z_M} {K : Int32 → z_M → Prop} {P6 : Int32 → Int32 → Int32 → Int32 → Int32 → Int32 → z_M → Prop} {v1 : Int32} {v2 : Int32} {v3 : Int32} {v4 : Int32} {v5 : Int32} {v6 : Int32} {v7 : Int32} (G : z_G p c cX12_areTogether s m args RX12 8 D) (hr : meth.sig.returnType = (Option.some Jvm.ClassFile.FieldType.boolean)) (hlk : meth.locks = false) (hP6 : ∀ (v1 : Int32) (v2 : Int32) (v3 : Int32) (v4 : Int32) (v5 : Int32) (v6 : Int32) (μ : z_M), P6 v1 v2 v3 v4 v5 v6 μ → (kd 0 = some (.inl 12)) → z_X p l e rm_X12_areTogether s m args below meth c 8 D A (MQ below (z_Qn D A ρ kd (z_Kz q K)) args s 0 0 A) 0 0 ρ kd q μ 6 [(0, .ref (0)), (1, .int (v1)), (2, .int (v2)), (3, .int (v3)), (4, .int (v4)), (5, .int (v5)), (6, .int (v6))] []) (hI : z_I kd q) (f_l0 : kd 0 = some (.inl 12)) (h : L_X12_areTogether_18 K P6 v1 v2 v3 v4 v5 v6 v7 μ) : z_X p l e rm_X12_areTogether s m args below meth c 8 D A (MQ below (z_Qn D A ρ kd (z_Kz q K)) args s 0 0 A) 0 0 ρ kd q μ 18 [(0, .ref (0)), (1, .int (v1)), (2, .int (v2)), (3, .int (v3)), (4, .int (v4)), (5, .int (v5)), (6, .int (v6)), (7, .int (v7))] [] :=
  h (fun (v1 : Int32) (v2 : Int32) (v3 : Int32) (v4 : Int32) (v5 : Int32) (v6 : Int32) (v7 : Int32) (μ : z_M) => (kd 0 = some (.inl 12)) → z_X p l e rm_X12_areTogether s m args below meth c 8 D A (MQ below (z_Qn D A ρ kd (z_Kz q K)) args s 0 0 A) 0 0 ρ kd q μ 18 [(0, .ref (0)), (1, .int (v1)), (2, .int (v2)), (3, .int (v3)), (4, .int (v4)), (5, .int (v5)), (6, .int (v6)), (7, .int (v7))] []) (fun v1 v2 v3 v4 v5 v6 v7 μ h f_l0 => B_X12_areTogether_18_ok G hr hlk hP6 (fun _ _ _ _ _ _ _ _ h => h) hI f_l0 h) f_l0
set_option maxRecDepth 100000 in
set_option maxHeartbeats 4000000 in
theorem B_X12_areTogether_6_ok {p : Program} {l : Launch} {e : Env} {s : State} {m : MethodId} {args : Array Value} {below : List Frame} {meth : Method} {c : Code} {D : va_G} {A : Nat → Prop} {ρ : z_A} {kd : z_K} {q : z_Q} {μ : z_M} {K : Int32 → z_M → Prop} {P6 : Int32 → Int32 → Int32 → Int32 → Int32 → Int32 → z_M → Prop} {v1 : Int32} {v2 : Int32} {v3 : Int32} {v4 : Int32} {v5 : Int32} {v6 : Int32} (G : z_G p c cX12_areTogether s m args RX12 8 D) (hr : meth.sig.returnType = (Option.some Jvm.ClassFile.FieldType.boolean)) (hlk : meth.locks = false) (hP6 : ∀ (v1 : Int32) (v2 : Int32) (v3 : Int32) (v4 : Int32) (v5 : Int32) (v6 : Int32) (μ : z_M), P6 v1 v2 v3 v4 v5 v6 μ → (kd 0 = some (.inl 12)) → z_X p l e rm_X12_areTogether s m args below meth c 8 D A (MQ below (z_Qn D A ρ kd (z_Kz q K)) args s 0 0 A) 0 0 ρ kd q μ 6 [(0, .ref (0)), (1, .int (v1)), (2, .int (v2)), (3, .int (v3)), (4, .int (v4)), (5, .int (v5)), (6, .int (v6))] []) (hI : z_I kd q) (f_l0 : kd 0 = some (.inl 12)) (h : B_X12_areTogether_6 K P6 v1 v2 v3 v4 v5 v6 μ) : z_X p l e rm_X12_areTogether s m args below meth c 8 D A (MQ below (z_Qn D A ρ kd (z_Kz q K)) args s 0 0 A) 0 0 ρ kd q μ 6 [(0, .ref (0)), (1, .int (v1)), (2, .int (v2)), (3, .int (v3)), (4, .int (v4)), (5, .int (v5)), (6, .int (v6))] [] := by
    unfold B_X12_areTogether_6 at h
    refine zx_iload (pc := 6) G 6 rfl (z_dec T_X12_areTogether_ok 4 (6, .iload 6, 2) rfl) ?_
    refine zx_aload_n (pc := 8) G (some (0)) 0 rfl rfl (z_dec T_X12_areTogether_ok 5 (8, .aload_n 0, 1) rfl) ?_
    refine zx_getI (pc := 9) G gf_RX12_136 rfl f_l0 (z_dec T_X12_areTogether_ok 6 (9, .getfield 136, 3) rfl) ?_
    refine zx_icmp_ge (pc := 12) (tgt := 67) G rfl (z_dec T_X12_areTogether_ok 7 (12, .if_icmp .ge 55, 3) rfl) (fun hc => ?_) (fun hc => ?_)
    · replace h := z_pos hc h
      refine zx_iload (pc := 67) G 5 rfl (z_dec T_X12_areTogether_ok 34 (67, .iload 5, 2) rfl) ?_
      refine zx_iload_n (pc := 69) G 3 rfl rfl (z_dec T_X12_areTogether_ok 35 (69, .iload_n 3, 1) rfl) ?_
      refine zx_icmp_lt (pc := 70) (tgt := 77) G rfl (z_dec T_X12_areTogether_ok 36 (70, .if_icmp .lt 7, 3) rfl) (fun hc => ?_) (fun hc => ?_)
      · replace h := z_pos hc h
        refine zx_iconst (pc := 77) (v := 0) G (z_dec T_X12_areTogether_ok 39 (77, .iconst 0, 1) rfl) rfl ?_
        exact zx_zret (pc := 78) G hr hlk (Nat.le_refl _) (Nat.le_refl _) (Or.inl rfl) (z_dec T_X12_areTogether_ok 40 (78, .ireturn, 1) rfl) ⟨rfl, _, rfl, (Or.inl rfl), h⟩
      · replace h := z_neg hc h
        refine zx_iconst (pc := 73) (v := 1) G (z_dec T_X12_areTogether_ok 37 (73, .iconst 1, 1) rfl) rfl ?_
        refine zx_goto (pc := 74) (tgt := 78) G rfl (z_dec T_X12_areTogether_ok 38 (74, .goto 4, 3) rfl) ?_
        exact zx_zret (pc := 78) G hr hlk (Nat.le_refl _) (Nat.le_refl _) (Or.inr rfl) (z_dec T_X12_areTogether_ok 40 (78, .ireturn, 1) rfl) ⟨rfl, _, rfl, (Or.inr rfl), h⟩
    · replace h := z_neg hc h
      refine zx_iconst (pc := 15) (v := 0) G (z_dec T_X12_areTogether_ok 8 (15, .iconst 0, 1) rfl) rfl ?_
      refine zx_istore (pc := 16) (lv' := [(7, .int ((0 : Int32))), (0, .ref (0)), (1, .int (v1)), (2, .int (v2)), (3, .int (v3)), (4, .int (v4)), (5, .int (v5)), (6, .int (v6))]) G (Nat.le_of_ble_eq_true rfl) rfl (z_dec T_X12_areTogether_ok 9 (16, .istore 7, 2) rfl) ?_
      refine zx_sub (lv' := [(0, .ref (0)), (1, .int (v1)), (2, .int (v2)), (3, .int (v3)), (4, .int (v4)), (5, .int (v5)), (6, .int (v6)), (7, .int ((0 : Int32)))]) [1, 2, 3, 4, 5, 6, 7, 0] rfl ?_
      exact L_X12_areTogether_18_ok G hr hlk hP6 hI f_l0 h
set_option maxRecDepth 100000 in
set_option maxHeartbeats 4000000 in
theorem L_X12_areTogether_6_ok {p : Program} {l : Launch} {e : Env} {s : State} {m : MethodId} {args : Array Value} {below : List Frame} {meth : Method} {c : Code} {D : va_G} {A : Nat → Prop} {ρ : z_A} {kd : z_K} {q : z_Q} {μ : z_M} {K : Int32 → z_M → Prop} {v1 : Int32} {v2 : Int32} {v3 : Int32} {v4 : Int32} {v5 : Int32} {v6 : Int32} (G : z_G p c cX12_areTogether s m args RX12 8 D) (hr : meth.sig.returnType = (Option.some Jvm.ClassFile.FieldType.boolean)) (hlk : meth.locks = false) (hI : z_I kd q) (f_l0 : kd 0 = some (.inl 12)) (h : L_X12_areTogether_6 K v1 v2 v3 v4 v5 v6 μ) : z_X p l e rm_X12_areTogether s m args below meth c 8 D A (MQ below (z_Qn D A ρ kd (z_Kz q K)) args s 0 0 A) 0 0 ρ kd q μ 6 [(0, .ref (0)), (1, .int (v1)), (2, .int (v2)), (3, .int (v3)), (4, .int (v4)), (5, .int (v5)), (6, .int (v6))] [] :=
  h (fun (v1 : Int32) (v2 : Int32) (v3 : Int32) (v4 : Int32) (v5 : Int32) (v6 : Int32) (μ : z_M) => (kd 0 = some (.inl 12)) → z_X p l e rm_X12_areTogether s m args below meth c 8 D A (MQ below (z_Qn D A ρ kd (z_Kz q K)) args s 0 0 A) 0 0 ρ kd q μ 6 [(0, .ref (0)), (1, .int (v1)), (2, .int (v2)), (3, .int (v3)), (4, .int (v4)), (5, .int (v5)), (6, .int (v6))] []) (fun v1 v2 v3 v4 v5 v6 μ h f_l0 => B_X12_areTogether_6_ok G hr hlk (fun _ _ _ _ _ _ _ h => h) hI f_l0 h) f_l0
set_option maxRecDepth 100000 in
set_option maxHeartbeats 4000000 in
theorem met_X12_areTogether (l : Launch) (D : va_G) (ρ : z_A) (kd : z_K) (q : z_Q) (μ : z_M) (sz : Nat) (a1 : Int32) (a2 : Int32) (a3 : Int32) (a4 : Int32) (K : Int32 → z_M → Prop) (hI : z_I kd q) (h_o : kd 0 = some (.inl 12)) (h : C_X12_areTogether a1 a2 a3 a4 μ K) : Met l yX12_areTogether (z_ws yX12_areTogether cX12_areTogether 8 (Option.some Jvm.ClassFile.FieldType.boolean)) rm_X12_areTogether (z_Pc D ρ kd q μ sz [.ref (0), .int (a1), .int (a2), .int (a3), .int (a4)]) (z_Qn D (z_Rg ρ sz) ρ kd (z_Kz q K)) 0 0 (z_Rg ρ sz) := by
  refine z_met (rm := rm_X12_areTogether) (by decide) (Nat.le_of_ble_eq_true rfl) (fun p e s m args below meth c G hr hlk => ?_)
  unfold C_X12_areTogether at h
  show z_X _ _ _ _ _ _ _ _ _ _ _ _ _ _ _ _ _ _ _ _ _ [(0, .ref (0)), (1, .int (a1)), (2, .int (a2)), (3, .int (a3)), (4, .int (a4))] _
  refine zx_iconst (pc := 0) (v := 0) G (z_dec T_X12_areTogether_ok 0 (0, .iconst 0, 1) rfl) rfl ?_
  refine zx_istore (pc := 1) (lv' := [(5, .int ((0 : Int32))), (0, .ref (0)), (1, .int (a1)), (2, .int (a2)), (3, .int (a3)), (4, .int (a4))]) G (Nat.le_of_ble_eq_true rfl) rfl (z_dec T_X12_areTogether_ok 1 (1, .istore 5, 2) rfl) ?_
  refine zx_iconst (pc := 3) (v := 0) G (z_dec T_X12_areTogether_ok 2 (3, .iconst 0, 1) rfl) rfl ?_
  refine zx_istore (pc := 4) (lv' := [(6, .int ((0 : Int32))), (5, .int ((0 : Int32))), (0, .ref (0)), (1, .int (a1)), (2, .int (a2)), (3, .int (a3)), (4, .int (a4))]) G (Nat.le_of_ble_eq_true rfl) rfl (z_dec T_X12_areTogether_ok 3 (4, .istore 6, 2) rfl) ?_
  refine zx_sub (lv' := [(0, .ref (0)), (1, .int (a1)), (2, .int (a2)), (3, .int (a3)), (4, .int (a4)), (5, .int ((0 : Int32))), (6, .int ((0 : Int32)))]) [2, 3, 4, 5, 6, 1, 0] rfl ?_
  exact L_X12_areTogether_6_ok G hr hlk hI h_o h
abbrev rm_X12_isSpan : Room := { frames := 1, cells := 0, slots := 0, locals := 25 }
set_option maxRecDepth 100000 in
set_option maxHeartbeats 4000000 in
theorem met_X12_isSpan (l : Launch) (D : va_G) (ρ : z_A) (kd : z_K) (q : z_Q) (μ : z_M) (sz : Nat) (a1 : Int32) (a2 : Int32) (K : Int32 → z_M → Prop) (hI : z_I kd q) (h : C_X12_isSpan a1 a2 μ K) : Met l yX12_isSpan (z_ws yX12_isSpan cX12_isSpan 2 (Option.some Jvm.ClassFile.FieldType.boolean)) rm_X12_isSpan (z_Pc D ρ kd q μ sz [.int (a1), .int (a2)]) (z_Qn D (z_Rg ρ sz) ρ kd (z_Kz q K)) 0 0 (z_Rg ρ sz) := by
  refine z_met (rm := rm_X12_isSpan) (by decide) (Nat.le_of_ble_eq_true rfl) (fun p e s m args below meth c G hr hlk => ?_)
  unfold C_X12_isSpan at h
  show z_X _ _ _ _ _ _ _ _ _ _ _ _ _ _ _ _ _ _ _ _ _ [(0, .int (a1)), (1, .int (a2))] _
  refine zx_iload_n (pc := 0) G 0 rfl rfl (z_dec T_X12_isSpan_ok 0 (0, .iload_n 0, 1) rfl) ?_
  refine zx_i2l (pc := 1) G  (z_dec T_X12_isSpan_ok 1 (1, .i2l, 1) rfl) ?_
  refine zx_lconst (pc := 2) (v := 1) G (z_dec T_X12_isSpan_ok 2 (2, .lconst 1, 1) rfl) rfl ?_
  refine zx_ldc2 (pc := 3) G wk_RX12_174 (z_dec T_X12_isSpan_ok 3 (3, .ldc2_w 174, 3) rfl) ?_
  refine zx_callS_zN (pc := 6) (rm := rm_X12_lies) G cw_RX12_140 ⟨Nat.le_of_ble_eq_true rfl, Nat.le_of_ble_eq_true rfl⟩ rfl rfl ⟨Nat.zero_le _, Nat.zero_le _⟩ (fun sz => (met_X12_lies l D ρ kd q μ sz a1.toInt64 ((1 : Int64)) ((24 : Int64)) _ hI h)) rfl rfl (Nat.le_of_ble_eq_true rfl) (z_dec T_X12_isSpan_ok 4 (6, .invokestatic 140, 3) rfl) (fun r2 μ1 hzr2 hn => ?_)
  clear h
  have h := hn
  clear hn
  refine zx_if_eq (pc := 9) (tgt := 28) G rfl (z_dec T_X12_isSpan_ok 5 (9, .ifCond .eq 19, 3) rfl) (fun hc => ?_) (fun hc => ?_)
  · replace h := z_pos hc h
    refine zx_iconst (pc := 28) (v := 0) G (z_dec T_X12_isSpan_ok 14 (28, .iconst 0, 1) rfl) rfl ?_
    exact zx_zret (pc := 29) G hr hlk (Nat.le_refl _) (Nat.le_refl _) (Or.inl rfl) (z_dec T_X12_isSpan_ok 15 (29, .ireturn, 1) rfl) ⟨rfl, _, rfl, (Or.inl rfl), h⟩
  · replace h := z_neg hc h
    refine zx_iload_n (pc := 12) G 1 rfl rfl (z_dec T_X12_isSpan_ok 6 (12, .iload_n 1, 1) rfl) ?_
    refine zx_i2l (pc := 13) G  (z_dec T_X12_isSpan_ok 7 (13, .i2l, 1) rfl) ?_
    refine zx_lconst (pc := 14) (v := 0) G (z_dec T_X12_isSpan_ok 8 (14, .lconst 0, 1) rfl) rfl ?_
    refine zx_ldc2 (pc := 15) G wk_RX12_441 (z_dec T_X12_isSpan_ok 9 (15, .ldc2_w 441, 3) rfl) ?_
    refine zx_callS_zN (pc := 18) (rm := rm_X12_lies) G cw_RX12_140 ⟨Nat.le_of_ble_eq_true rfl, Nat.le_of_ble_eq_true rfl⟩ rfl rfl ⟨Nat.zero_le _, Nat.zero_le _⟩ (fun sz => (met_X12_lies l D ρ kd q μ1 sz a2.toInt64 ((0 : Int64)) ((599 : Int64)) _ hI h)) rfl rfl (Nat.le_of_ble_eq_true rfl) (z_dec T_X12_isSpan_ok 10 (18, .invokestatic 140, 3) rfl) (fun r4 μ3 hzr4 hn => ?_)
    clear h
    have h := hn
    clear hn
    refine zx_if_eq (pc := 21) (tgt := 28) G rfl (z_dec T_X12_isSpan_ok 11 (21, .ifCond .eq 7, 3) rfl) (fun hc => ?_) (fun hc => ?_)
    · replace h := z_pos hc h
      refine zx_iconst (pc := 28) (v := 0) G (z_dec T_X12_isSpan_ok 14 (28, .iconst 0, 1) rfl) rfl ?_
      exact zx_zret (pc := 29) G hr hlk (Nat.le_refl _) (Nat.le_refl _) (Or.inl rfl) (z_dec T_X12_isSpan_ok 15 (29, .ireturn, 1) rfl) ⟨rfl, _, rfl, (Or.inl rfl), h⟩
    · replace h := z_neg hc h
      refine zx_iconst (pc := 24) (v := 1) G (z_dec T_X12_isSpan_ok 12 (24, .iconst 1, 1) rfl) rfl ?_
      refine zx_goto (pc := 25) (tgt := 29) G rfl (z_dec T_X12_isSpan_ok 13 (25, .goto 4, 3) rfl) ?_
      exact zx_zret (pc := 29) G hr hlk (Nat.le_refl _) (Nat.le_refl _) (Or.inr rfl) (z_dec T_X12_isSpan_ok 15 (29, .ireturn, 1) rfl) ⟨rfl, _, rfl, (Or.inr rfl), h⟩
abbrev rm_X12_together : Room := { frames := 3, cells := 0, slots := 0, locals := 79 }
set_option maxRecDepth 100000 in
set_option maxHeartbeats 4000000 in
theorem met_X12_together (l : Launch) (D : va_G) (ρ : z_A) (kd : z_K) (q : z_Q) (μ : z_M) (sz : Nat) (a1 : Int32) (a2 : Int32) (a3 : Int32) (a4 : Int32) (K : Int32 → z_M → Prop) (hI : z_I kd q) (h_o : kd 0 = some (.inl 12)) (h : C_X12_together a1 a2 a3 a4 μ K) : Met l yX12_together (z_ws yX12_together cX12_together 5 (Option.some Jvm.ClassFile.FieldType.int)) rm_X12_together (z_Pc D ρ kd q μ sz [.ref (0), .int (a1), .int (a2), .int (a3), .int (a4)]) (z_Qn D (z_Rg ρ sz) ρ kd (z_Ki q K)) 0 0 (z_Rg ρ sz) := by
  refine z_met (rm := rm_X12_together) (by decide) (Nat.le_of_ble_eq_true rfl) (fun p e s m args below meth c G hr hlk => ?_)
  unfold C_X12_together at h
  show z_X _ _ _ _ _ _ _ _ _ _ _ _ _ _ _ _ _ _ _ _ _ [(0, .ref (0)), (1, .int (a1)), (2, .int (a2)), (3, .int (a3)), (4, .int (a4))] _
  refine zx_iload_n (pc := 0) G 1 rfl rfl (z_dec T_X12_together_ok 0 (0, .iload_n 1, 1) rfl) ?_
  refine zx_callS_zN (pc := 1) (rm := rm_X12_isBettor) G cw_RX12_202 ⟨Nat.le_of_ble_eq_true rfl, Nat.le_of_ble_eq_true rfl⟩ rfl rfl ⟨Nat.zero_le _, Nat.zero_le _⟩ (fun sz => (met_X12_isBettor l D ρ kd q μ sz a1 _ hI h)) rfl rfl (Nat.le_of_ble_eq_true rfl) (z_dec T_X12_together_ok 1 (1, .invokestatic 202, 3) rfl) (fun r2 μ1 hzr2 hn => ?_)
  clear h
  have h := hn
  clear hn
  refine zx_if_eq (pc := 4) (tgt := 48) G rfl (z_dec T_X12_together_ok 2 (4, .ifCond .eq 44, 3) rfl) (fun hc => ?_) (fun hc => ?_)
  · replace h := z_pos hc h
    refine zx_iconst (pc := 48) (v := -1) G (z_dec T_X12_together_ok 24 (48, .iconst (-1), 1) rfl) rfl ?_
    exact zx_iret (pc := 49) G hr hlk (Nat.le_refl _) (Nat.le_refl _) (z_dec T_X12_together_ok 25 (49, .ireturn, 1) rfl) ⟨rfl, _, rfl, h⟩
  · replace h := z_neg hc h
    refine zx_iload_n (pc := 7) G 2 rfl rfl (z_dec T_X12_together_ok 3 (7, .iload_n 2, 1) rfl) ?_
    refine zx_callS_zN (pc := 8) (rm := rm_X12_isBettor) G cw_RX12_202 ⟨Nat.le_of_ble_eq_true rfl, Nat.le_of_ble_eq_true rfl⟩ rfl rfl ⟨Nat.zero_le _, Nat.zero_le _⟩ (fun sz => (met_X12_isBettor l D ρ kd q μ1 sz a2 _ hI h)) rfl rfl (Nat.le_of_ble_eq_true rfl) (z_dec T_X12_together_ok 4 (8, .invokestatic 202, 3) rfl) (fun r4 μ3 hzr4 hn => ?_)
    clear h
    have h := hn
    clear hn
    refine zx_if_eq (pc := 11) (tgt := 48) G rfl (z_dec T_X12_together_ok 5 (11, .ifCond .eq 37, 3) rfl) (fun hc => ?_) (fun hc => ?_)
    · replace h := z_pos hc h
      refine zx_iconst (pc := 48) (v := -1) G (z_dec T_X12_together_ok 24 (48, .iconst (-1), 1) rfl) rfl ?_
      exact zx_iret (pc := 49) G hr hlk (Nat.le_refl _) (Nat.le_refl _) (z_dec T_X12_together_ok 25 (49, .ireturn, 1) rfl) ⟨rfl, _, rfl, h⟩
    · replace h := z_neg hc h
      refine zx_iload_n (pc := 14) G 1 rfl rfl (z_dec T_X12_together_ok 6 (14, .iload_n 1, 1) rfl) ?_
      refine zx_iload_n (pc := 15) G 2 rfl rfl (z_dec T_X12_together_ok 7 (15, .iload_n 2, 1) rfl) ?_
      refine zx_icmp_eq (pc := 16) (tgt := 48) G rfl (z_dec T_X12_together_ok 8 (16, .if_icmp .eq 32, 3) rfl) (fun hc => ?_) (fun hc => ?_)
      · replace h := z_pos hc h
        refine zx_iconst (pc := 48) (v := -1) G (z_dec T_X12_together_ok 24 (48, .iconst (-1), 1) rfl) rfl ?_
        exact zx_iret (pc := 49) G hr hlk (Nat.le_refl _) (Nat.le_refl _) (z_dec T_X12_together_ok 25 (49, .ireturn, 1) rfl) ⟨rfl, _, rfl, h⟩
      · replace h := z_neg hc h
        refine zx_iload_n (pc := 19) G 3 rfl rfl (z_dec T_X12_together_ok 9 (19, .iload_n 3, 1) rfl) ?_
        refine zx_iload (pc := 20) G 4 rfl (z_dec T_X12_together_ok 10 (20, .iload 4, 2) rfl) ?_
        refine zx_callS_zN (pc := 22) (rm := rm_X12_isSpan) G cw_RX12_472 ⟨Nat.le_of_ble_eq_true rfl, Nat.le_of_ble_eq_true rfl⟩ rfl rfl ⟨Nat.zero_le _, Nat.zero_le _⟩ (fun sz => (met_X12_isSpan l D ρ kd q μ3 sz a3 a4 _ hI h)) rfl rfl (Nat.le_of_ble_eq_true rfl) (z_dec T_X12_together_ok 11 (22, .invokestatic 472, 3) rfl) (fun r6 μ5 hzr6 hn => ?_)
        clear h
        have h := hn
        clear hn
        refine zx_if_eq (pc := 25) (tgt := 48) G rfl (z_dec T_X12_together_ok 12 (25, .ifCond .eq 23, 3) rfl) (fun hc => ?_) (fun hc => ?_)
        · replace h := z_pos hc h
          refine zx_iconst (pc := 48) (v := -1) G (z_dec T_X12_together_ok 24 (48, .iconst (-1), 1) rfl) rfl ?_
          exact zx_iret (pc := 49) G hr hlk (Nat.le_refl _) (Nat.le_refl _) (z_dec T_X12_together_ok 25 (49, .ireturn, 1) rfl) ⟨rfl, _, rfl, h⟩
        · replace h := z_neg hc h
          refine zx_aload_n (pc := 28) G (some (0)) 0 rfl rfl (z_dec T_X12_together_ok 13 (28, .aload_n 0, 1) rfl) ?_
          refine zx_iload_n (pc := 29) G 1 rfl rfl (z_dec T_X12_together_ok 14 (29, .iload_n 1, 1) rfl) ?_
          refine zx_iload_n (pc := 30) G 2 rfl rfl (z_dec T_X12_together_ok 15 (30, .iload_n 2, 1) rfl) ?_
          refine zx_iload_n (pc := 31) G 3 rfl rfl (z_dec T_X12_together_ok 16 (31, .iload_n 3, 1) rfl) ?_
          refine zx_iload (pc := 32) G 4 rfl (z_dec T_X12_together_ok 17 (32, .iload 4, 2) rfl) ?_
          refine zx_callV_zN (pc := 34) (rm := rm_X12_areTogether) G cw_RX12_475 ⟨Nat.le_of_ble_eq_true rfl, Nat.le_of_ble_eq_true rfl⟩ rfl rfl ⟨Nat.zero_le _, Nat.zero_le _⟩ h_o rfl (fun sz => (met_X12_areTogether l D ρ kd q μ5 sz a1 a2 a3 a4 _ hI h_o h)) rfl rfl (Nat.le_of_ble_eq_true rfl) (z_dec T_X12_together_ok 18 (34, .invokevirtual 475, 3) rfl) (fun r8 μ7 hzr8 hn => ?_)
          clear h
          have h := hn
          clear hn
          refine zx_if_eq (pc := 37) (tgt := 44) G rfl (z_dec T_X12_together_ok 19 (37, .ifCond .eq 7, 3) rfl) (fun hc => ?_) (fun hc => ?_)
          · replace h := z_pos hc h
            refine zx_iconst (pc := 44) (v := 0) G (z_dec T_X12_together_ok 22 (44, .iconst 0, 1) rfl) rfl ?_
            refine zx_goto (pc := 45) (tgt := 49) G rfl (z_dec T_X12_together_ok 23 (45, .goto 4, 3) rfl) ?_
            exact zx_iret (pc := 49) G hr hlk (Nat.le_refl _) (Nat.le_refl _) (z_dec T_X12_together_ok 25 (49, .ireturn, 1) rfl) ⟨rfl, _, rfl, h⟩
          · replace h := z_neg hc h
            refine zx_iconst (pc := 40) (v := 1) G (z_dec T_X12_together_ok 20 (40, .iconst 1, 1) rfl) rfl ?_
            refine zx_goto (pc := 41) (tgt := 49) G rfl (z_dec T_X12_together_ok 21 (41, .goto 8, 3) rfl) ?_
            exact zx_iret (pc := 49) G hr hlk (Nat.le_refl _) (Nat.le_refl _) (z_dec T_X12_together_ok 25 (49, .ireturn, 1) rfl) ⟨rfl, _, rfl, h⟩
abbrev rm_X12_purse : Room := { frames := 3, cells := 0, slots := 0, locals := 79 }
set_option maxRecDepth 100000 in
set_option maxHeartbeats 4000000 in
theorem B_X12_purse_68_ok {p : Program} {l : Launch} {e : Env} {s : State} {m : MethodId} {args : Array Value} {below : List Frame} {meth : Method} {c : Code} {D : va_G} {A : Nat → Prop} {ρ : z_A} {kd : z_K} {q : z_Q} {μ : z_M} {K : Int32 → z_M → Prop} {P25 : Int32 → Int32 → Int32 → Int32 → z_M → Prop} {P68 : Int32 → Int32 → Int32 → Int32 → Int32 → Int32 → z_M → Prop} {v2 : Int32} {v3 : Int32} {v4 : Int32} {v5 : Int32} {v6 : Int32} {v7 : Int32} (G : z_G p c cX12_purse s m args RX12 8 D) (hr : meth.sig.returnType = (Option.some Jvm.ClassFile.FieldType.int)) (hlk : meth.locks = false) (hP25 : ∀ (v2 : Int32) (v3 : Int32) (v4 : Int32) (v5 : Int32) (μ : z_M), P25 v2 v3 v4 v5 μ → (kd 0 = some (.inl 12)) → z_X p l e rm_X12_purse s m args below meth c 8 D A (MQ below (z_Qn D A ρ kd (z_Ki q K)) args s 0 0 A) 0 0 ρ kd q μ 25 [(0, .ref (0)), (2, .int (v2)), (3, .int (v3)), (4, .int (v4)), (5, .int (v5))] []) (hP68 : ∀ (v2 : Int32) (v3 : Int32) (v4 : Int32) (v5 : Int32) (v6 : Int32) (v7 : Int32) (μ : z_M), P68 v2 v3 v4 v5 v6 v7 μ → (kd 0 = some (.inl 12)) → z_X p l e rm_X12_purse s m args below meth c 8 D A (MQ below (z_Qn D A ρ kd (z_Ki q K)) args s 0 0 A) 0 0 ρ kd q μ 68 [(0, .ref (0)), (2, .int (v2)), (3, .int (v3)), (4, .int (v4)), (5, .int (v5)), (6, .int (v6)), (7, .int (v7))] []) (hI : z_I kd q) (f_l0 : kd 0 = some (.inl 12)) (h : B_X12_purse_68 K P25 P68 v2 v3 v4 v5 v6 v7 μ) : z_X p l e rm_X12_purse s m args below meth c 8 D A (MQ below (z_Qn D A ρ kd (z_Ki q K)) args s 0 0 A) 0 0 ρ kd q μ 68 [(0, .ref (0)), (2, .int (v2)), (3, .int (v3)), (4, .int (v4)), (5, .int (v5)), (6, .int (v6)), (7, .int (v7))] [] := by
    unfold B_X12_purse_68 at h
    refine zx_iload (pc := 68) G 6 rfl (z_dec T_X12_purse_ok 38 (68, .iload 7, 2) rfl) ?_
    refine zx_bipush (pc := 70) (v := 16) G (z_dec T_X12_purse_ok 39 (70, .bipush 16, 2) rfl) rfl ?_
    refine zx_icmp_ge (pc := 72) (tgt := 113) G rfl (z_dec T_X12_purse_ok 40 (72, .if_icmp .ge 41, 3) rfl) (fun hc => ?_) (fun hc => ?_)
    · replace h := z_pos hc h
      refine zx_goto (pc := 113) (tgt := 25) G rfl (z_dec T_X12_purse_ok 60 (113, .goto (-88), 3) rfl) ?_
      refine zx_sub (lv' := [(0, .ref (0)), (2, .int (v2)), (3, .int (v3)), (4, .int (v4)), (5, .int (v5))]) [0, 1, 2, 3, 4] rfl ?_
      exact hP25 _ _ _ _ _ h f_l0
    · replace h := z_neg hc h
      refine zx_iload (pc := 75) G 3 rfl (z_dec T_X12_purse_ok 41 (75, .iload 4, 2) rfl) ?_
      refine zx_iload (pc := 77) G 6 rfl (z_dec T_X12_purse_ok 42 (77, .iload 7, 2) rfl) ?_
      refine zx_callS_zN (pc := 79) (rm := rm_X12_hasBit) G cw_RX12_155 ⟨Nat.le_of_ble_eq_true rfl, Nat.le_of_ble_eq_true rfl⟩ rfl rfl ⟨Nat.zero_le _, Nat.zero_le _⟩ (fun sz => (met_X12_hasBit l D ρ kd q μ sz v4 v7 _ hI h)) rfl rfl (Nat.le_of_ble_eq_true rfl) (z_dec T_X12_purse_ok 43 (79, .invokestatic 155, 3) rfl) (fun r2 μ1 hzr2 hn => ?_)
      clear h
      have h := hn
      clear hn
      refine zx_if_ne (pc := 82) (tgt := 107) G rfl (z_dec T_X12_purse_ok 44 (82, .ifCond .ne 25, 3) rfl) (fun hc => ?_) (fun hc => ?_)
      · replace h := z_neg hc h
        refine zx_iinc (pc := 107) (v := v7 + 1) (lv' := [(7, .int (v7 + 1)), (0, .ref (0)), (2, .int (v2)), (3, .int (v3)), (4, .int (v4)), (5, .int (v5)), (6, .int (v6))]) G 6 rfl (z_inc (by decide)) (Nat.le_of_ble_eq_true rfl) rfl (z_dec T_X12_purse_ok 58 (107, .iinc 7 1, 3) rfl) ?_
        refine zx_goto (pc := 110) (tgt := 68) G rfl (z_dec T_X12_purse_ok 59 (110, .goto (-42), 3) rfl) ?_
        refine zx_sub (lv' := [(0, .ref (0)), (2, .int (v2)), (3, .int (v3)), (4, .int (v4)), (5, .int (v5)), (6, .int (v6)), (7, .int (v7 + 1))]) [1, 2, 3, 4, 5, 6, 0] rfl ?_
        exact hP68 _ _ _ _ _ _ _ h f_l0
      · replace h := z_pos hc h
        refine zx_aload_n (pc := 85) G (some (0)) 0 rfl rfl (z_dec T_X12_purse_ok 45 (85, .aload_n 0, 1) rfl) ?_
        refine zx_iload (pc := 86) G 5 rfl (z_dec T_X12_purse_ok 46 (86, .iload 6, 2) rfl) ?_
        refine zx_iload (pc := 88) G 6 rfl (z_dec T_X12_purse_ok 47 (88, .iload 7, 2) rfl) ?_
        refine zx_iload_n (pc := 90) G 1 rfl rfl (z_dec T_X12_purse_ok 48 (90, .iload_n 2, 1) rfl) ?_
        refine zx_iload_n (pc := 91) G 2 rfl rfl (z_dec T_X12_purse_ok 49 (91, .iload_n 3, 1) rfl) ?_
        refine zx_callV_zN (pc := 92) (rm := rm_X12_areTogether) G cw_RX12_475 ⟨Nat.le_of_ble_eq_true rfl, Nat.le_of_ble_eq_true rfl⟩ rfl rfl ⟨Nat.zero_le _, Nat.zero_le _⟩ f_l0 rfl (fun sz => (met_X12_areTogether l D ρ kd q μ1 sz v6 v7 v2 v3 _ hI f_l0 h)) rfl rfl (Nat.le_of_ble_eq_true rfl) (z_dec T_X12_purse_ok 50 (92, .invokevirtual 475, 3) rfl) (fun r4 μ3 hzr4 hn => ?_)
        clear h
        have h := hn
        clear hn
        refine zx_if_eq (pc := 95) (tgt := 107) G rfl (z_dec T_X12_purse_ok 51 (95, .ifCond .eq 12, 3) rfl) (fun hc => ?_) (fun hc => ?_)
        · replace h := z_pos hc h
          refine zx_iinc (pc := 107) (v := v7 + 1) (lv' := [(7, .int (v7 + 1)), (0, .ref (0)), (2, .int (v2)), (3, .int (v3)), (4, .int (v4)), (5, .int (v5)), (6, .int (v6))]) G 6 rfl (z_inc (by decide)) (Nat.le_of_ble_eq_true rfl) rfl (z_dec T_X12_purse_ok 58 (107, .iinc 7 1, 3) rfl) ?_
          refine zx_goto (pc := 110) (tgt := 68) G rfl (z_dec T_X12_purse_ok 59 (110, .goto (-42), 3) rfl) ?_
          refine zx_sub (lv' := [(0, .ref (0)), (2, .int (v2)), (3, .int (v3)), (4, .int (v4)), (5, .int (v5)), (6, .int (v6)), (7, .int (v7 + 1))]) [1, 2, 3, 4, 5, 6, 0] rfl ?_
          exact hP68 _ _ _ _ _ _ _ h f_l0
        · replace h := z_neg hc h
          refine zx_iload (pc := 98) G 3 rfl (z_dec T_X12_purse_ok 52 (98, .iload 4, 2) rfl) ?_
          refine zx_iconst (pc := 100) (v := 1) G (z_dec T_X12_purse_ok 53 (100, .iconst 1, 1) rfl) rfl ?_
          refine zx_iload (pc := 101) G 6 rfl (z_dec T_X12_purse_ok 54 (101, .iload 7, 2) rfl) ?_
          refine zx_ishl (pc := 103) G  (z_dec T_X12_purse_ok 55 (103, .ishl, 1) rfl) ?_
          refine zx_ior (pc := 104) G  (z_dec T_X12_purse_ok 56 (104, .ior, 1) rfl) ?_
          refine zx_istore (pc := 105) (lv' := [(4, .int (v4 ||| (((1 : Int32)) <<< (v7 &&& 31)))), (0, .ref (0)), (2, .int (v2)), (3, .int (v3)), (5, .int (v5)), (6, .int (v6)), (7, .int (v7))]) G (Nat.le_of_ble_eq_true rfl) rfl (z_dec T_X12_purse_ok 57 (105, .istore 4, 2) rfl) ?_
          refine zx_iinc (pc := 107) (v := v7 + 1) (lv' := [(7, .int (v7 + 1)), (4, .int (v4 ||| (((1 : Int32)) <<< (v7 &&& 31)))), (0, .ref (0)), (2, .int (v2)), (3, .int (v3)), (5, .int (v5)), (6, .int (v6))]) G 6 rfl (z_inc (by decide)) (Nat.le_of_ble_eq_true rfl) rfl (z_dec T_X12_purse_ok 58 (107, .iinc 7 1, 3) rfl) ?_
          refine zx_goto (pc := 110) (tgt := 68) G rfl (z_dec T_X12_purse_ok 59 (110, .goto (-42), 3) rfl) ?_
          refine zx_sub (lv' := [(0, .ref (0)), (2, .int (v2)), (3, .int (v3)), (4, .int (v4 ||| (((1 : Int32)) <<< (v7 &&& 31)))), (5, .int (v5)), (6, .int (v6)), (7, .int (v7 + 1))]) [2, 3, 4, 1, 5, 6, 0] rfl ?_
          exact hP68 _ _ _ _ _ _ _ h f_l0
set_option maxRecDepth 100000 in
set_option maxHeartbeats 4000000 in
theorem L_X12_purse_68_ok {p : Program} {l : Launch} {e : Env} {s : State} {m : MethodId} {args : Array Value} {below : List Frame} {meth : Method} {c : Code} {D : va_G} {A : Nat → Prop} {ρ : z_A} {kd : z_K} {q : z_Q} {μ : z_M} {K : Int32 → z_M → Prop} {P25 : Int32 → Int32 → Int32 → Int32 → z_M → Prop} {v2 : Int32} {v3 : Int32} {v4 : Int32} {v5 : Int32} {v6 : Int32} {v7 : Int32} (G : z_G p c cX12_purse s m args RX12 8 D) (hr : meth.sig.returnType = (Option.some Jvm.ClassFile.FieldType.int)) (hlk : meth.locks = false) (hP25 : ∀ (v2 : Int32) (v3 : Int32) (v4 : Int32) (v5 : Int32) (μ : z_M), P25 v2 v3 v4 v5 μ → (kd 0 = some (.inl 12)) → z_X p l e rm_X12_purse s m args below meth c 8 D A (MQ below (z_Qn D A ρ kd (z_Ki q K)) args s 0 0 A) 0 0 ρ kd q μ 25 [(0, .ref (0)), (2, .int (v2)), (3, .int (v3)), (4, .int (v4)), (5, .int (v5))] []) (hI : z_I kd q) (f_l0 : kd 0 = some (.inl 12)) (h : L_X12_purse_68 K P25 v2 v3 v4 v5 v6 v7 μ) : z_X p l e rm_X12_purse s m args below meth c 8 D A (MQ below (z_Qn D A ρ kd (z_Ki q K)) args s 0 0 A) 0 0 ρ kd q μ 68 [(0, .ref (0)), (2, .int (v2)), (3, .int (v3)), (4, .int (v4)), (5, .int (v5)), (6, .int (v6)), (7, .int (v7))] [] :=
  h (fun (v2 : Int32) (v3 : Int32) (v4 : Int32) (v5 : Int32) (v6 : Int32) (v7 : Int32) (μ : z_M) => (kd 0 = some (.inl 12)) → z_X p l e rm_X12_purse s m args below meth c 8 D A (MQ below (z_Qn D A ρ kd (z_Ki q K)) args s 0 0 A) 0 0 ρ kd q μ 68 [(0, .ref (0)), (2, .int (v2)), (3, .int (v3)), (4, .int (v4)), (5, .int (v5)), (6, .int (v6)), (7, .int (v7))] []) (fun v2 v3 v4 v5 v6 v7 μ h f_l0 => B_X12_purse_68_ok G hr hlk hP25 (fun _ _ _ _ _ _ _ h => h) hI f_l0 h) f_l0
set_option maxRecDepth 100000 in
set_option maxHeartbeats 4000000 in
theorem B_X12_purse_35_ok {p : Program} {l : Launch} {e : Env} {s : State} {m : MethodId} {args : Array Value} {below : List Frame} {meth : Method} {c : Code} {D : va_G} {A : Nat → Prop} {ρ : z_A} {kd : z_K} {q : z_Q} {μ : z_M} {K : Int32 → z_M → Prop} {P25 : Int32 → Int32 → Int32 → Int32 → z_M → Prop} {P35 : Int32 → Int32 → Int32 → Int32 → Int32 → z_M → Prop} {v2 : Int32} {v3 : Int32} {v4 : Int32} {v5 : Int32} {v6 : Int32} (G : z_G p c cX12_purse s m args RX12 8 D) (hr : meth.sig.returnType = (Option.some Jvm.ClassFile.FieldType.int)) (hlk : meth.locks = false) (hP25 : ∀ (v2 : Int32) (v3 : Int32) (v4 : Int32) (v5 : Int32) (μ : z_M), P25 v2 v3 v4 v5 μ → (kd 0 = some (.inl 12)) → z_X p l e rm_X12_purse s m args below meth c 8 D A (MQ below (z_Qn D A ρ kd (z_Ki q K)) args s 0 0 A) 0 0 ρ kd q μ 25 [(0, .ref (0)), (2, .int (v2)), (3, .int (v3)), (4, .int (v4)), (5, .int (v5))] []) (hP35 : ∀ (v2 : Int32) (v3 : Int32) (v4 : Int32) (v5 : Int32) (v6 : Int32) (μ : z_M), P35 v2 v3 v4 v5 v6 μ → (kd 0 = some (.inl 12)) → z_X p l e rm_X12_purse s m args below meth c 8 D A (MQ below (z_Qn D A ρ kd (z_Ki q K)) args s 0 0 A) 0 0 ρ kd q μ 35 [(0, .ref (0)), (2, .int (v2)), (3, .int (v3)), (4, .int (v4)), (5, .int (v5)), (6, .int (v6))] []) (hI : z_I kd q) (f_l0 : kd 0 = some (.inl 12)) (h : B_X12_purse_35 K P25 P35 v2 v3 v4 v5 v6 μ) : z_X p l e rm_X12_purse s m args below meth c 8 D A (MQ below (z_Qn D A ρ kd (z_Ki q K)) args s 0 0 A) 0 0 ρ kd q μ 35 [(0, .ref (0)), (2, .int (v2)), (3, .int (v3)), (4, .int (v4)), (5, .int (v5)), (6, .int (v6))] [] := by
    unfold B_X12_purse_35 at h
    refine zx_iload (pc := 35) G 3 rfl (z_dec T_X12_purse_ok 20 (35, .iload 4, 2) rfl) ?_
    refine zx_iload (pc := 37) G 4 rfl (z_dec T_X12_purse_ok 21 (37, .iload 5, 2) rfl) ?_
    refine zx_iconst (pc := 39) (v := -1) G (z_dec T_X12_purse_ok 22 (39, .iconst (-1), 1) rfl) rfl ?_
    refine zx_ixor (pc := 40) G  (z_dec T_X12_purse_ok 23 (40, .ixor, 1) rfl) ?_
    refine zx_iand (pc := 41) G  (z_dec T_X12_purse_ok 24 (41, .iand, 1) rfl) ?_
    refine zx_iload (pc := 42) G 5 rfl (z_dec T_X12_purse_ok 25 (42, .iload 6, 2) rfl) ?_
    refine zx_callS_zN (pc := 44) (rm := rm_X12_hasBit) G cw_RX12_155 ⟨Nat.le_of_ble_eq_true rfl, Nat.le_of_ble_eq_true rfl⟩ rfl rfl ⟨Nat.zero_le _, Nat.zero_le _⟩ (fun sz => (met_X12_hasBit l D ρ kd q μ sz (v4 &&& (v5 ^^^ ((-1 : Int32)))) v6 _ hI h)) rfl rfl (Nat.le_of_ble_eq_true rfl) (z_dec T_X12_purse_ok 26 (44, .invokestatic 155, 3) rfl) (fun r2 μ1 hzr2 hn => ?_)
    clear h
    have h := hn
    clear hn
    refine zx_if_ne (pc := 47) (tgt := 56) G rfl (z_dec T_X12_purse_ok 27 (47, .ifCond .ne 9, 3) rfl) (fun hc => ?_) (fun hc => ?_)
    · replace h := z_neg hc h
      refine zx_iload (pc := 56) G 4 rfl (z_dec T_X12_purse_ok 30 (56, .iload 5, 2) rfl) ?_
      refine zx_iconst (pc := 58) (v := 1) G (z_dec T_X12_purse_ok 31 (58, .iconst 1, 1) rfl) rfl ?_
      refine zx_iload (pc := 59) G 5 rfl (z_dec T_X12_purse_ok 32 (59, .iload 6, 2) rfl) ?_
      refine zx_ishl (pc := 61) G  (z_dec T_X12_purse_ok 33 (61, .ishl, 1) rfl) ?_
      refine zx_ior (pc := 62) G  (z_dec T_X12_purse_ok 34 (62, .ior, 1) rfl) ?_
      refine zx_istore (pc := 63) (lv' := [(5, .int (v5 ||| (((1 : Int32)) <<< (v6 &&& 31)))), (0, .ref (0)), (2, .int (v2)), (3, .int (v3)), (4, .int (v4)), (6, .int (v6))]) G (Nat.le_of_ble_eq_true rfl) rfl (z_dec T_X12_purse_ok 35 (63, .istore 5, 2) rfl) ?_
      refine zx_iconst (pc := 65) (v := 0) G (z_dec T_X12_purse_ok 36 (65, .iconst 0, 1) rfl) rfl ?_
      refine zx_istore (pc := 66) (lv' := [(7, .int ((0 : Int32))), (5, .int (v5 ||| (((1 : Int32)) <<< (v6 &&& 31)))), (0, .ref (0)), (2, .int (v2)), (3, .int (v3)), (4, .int (v4)), (6, .int (v6))]) G (Nat.le_of_ble_eq_true rfl) rfl (z_dec T_X12_purse_ok 37 (66, .istore 7, 2) rfl) ?_
      refine zx_sub (lv' := [(0, .ref (0)), (2, .int (v2)), (3, .int (v3)), (4, .int (v4)), (5, .int (v5 ||| (((1 : Int32)) <<< (v6 &&& 31)))), (6, .int (v6)), (7, .int ((0 : Int32)))]) [2, 3, 4, 5, 1, 6, 0] rfl ?_
      exact L_X12_purse_68_ok G hr hlk hP25 hI f_l0 h
    · replace h := z_pos hc h
      refine zx_iinc (pc := 50) (v := v6 + 1) (lv' := [(6, .int (v6 + 1)), (0, .ref (0)), (2, .int (v2)), (3, .int (v3)), (4, .int (v4)), (5, .int (v5))]) G 5 rfl (z_inc (by decide)) (Nat.le_of_ble_eq_true rfl) rfl (z_dec T_X12_purse_ok 28 (50, .iinc 6 1, 3) rfl) ?_
      refine zx_goto (pc := 53) (tgt := 35) G rfl (z_dec T_X12_purse_ok 29 (53, .goto (-18), 3) rfl) ?_
      refine zx_sub (lv' := [(0, .ref (0)), (2, .int (v2)), (3, .int (v3)), (4, .int (v4)), (5, .int (v5)), (6, .int (v6 + 1))]) [1, 2, 3, 4, 5, 0] rfl ?_
      exact hP35 _ _ _ _ _ _ h f_l0
set_option maxRecDepth 100000 in
set_option maxHeartbeats 4000000 in
theorem L_X12_purse_35_ok {p : Program} {l : Launch} {e : Env} {s : State} {m : MethodId} {args : Array Value} {below : List Frame} {meth : Method} {c : Code} {D : va_G} {A : Nat → Prop} {ρ : z_A} {kd : z_K} {q : z_Q} {μ : z_M} {K : Int32 → z_M → Prop} {P25 : Int32 → Int32 → Int32 → Int32 → z_M → Prop} {v2 : Int32} {v3 : Int32} {v4 : Int32} {v5 : Int32} {v6 : Int32} (G : z_G p c cX12_purse s m args RX12 8 D) (hr : meth.sig.returnType = (Option.some Jvm.ClassFile.FieldType.int)) (hlk : meth.locks = false) (hP25 : ∀ (v2 : Int32) (v3 : Int32) (v4 : Int32) (v5 : Int32) (μ : z_M), P25 v2 v3 v4 v5 μ → (kd 0 = some (.inl 12)) → z_X p l e rm_X12_purse s m args below meth c 8 D A (MQ below (z_Qn D A ρ kd (z_Ki q K)) args s 0 0 A) 0 0 ρ kd q μ 25 [(0, .ref (0)), (2, .int (v2)), (3, .int (v3)), (4, .int (v4)), (5, .int (v5))] []) (hI : z_I kd q) (f_l0 : kd 0 = some (.inl 12)) (h : L_X12_purse_35 K P25 v2 v3 v4 v5 v6 μ) : z_X p l e rm_X12_purse s m args below meth c 8 D A (MQ below (z_Qn D A ρ kd (z_Ki q K)) args s 0 0 A) 0 0 ρ kd q μ 35 [(0, .ref (0)), (2, .int (v2)), (3, .int (v3)), (4, .int (v4)), (5, .int (v5)), (6, .int (v6))] [] :=
  h (fun (v2 : Int32) (v3 : Int32) (v4 : Int32) (v5 : Int32) (v6 : Int32) (μ : z_M) => (kd 0 = some (.inl 12)) → z_X p l e rm_X12_purse s m args below meth c 8 D A (MQ below (z_Qn D A ρ kd (z_Ki q K)) args s 0 0 A) 0 0 ρ kd q μ 35 [(0, .ref (0)), (2, .int (v2)), (3, .int (v3)), (4, .int (v4)), (5, .int (v5)), (6, .int (v6))] []) (fun v2 v3 v4 v5 v6 μ h f_l0 => B_X12_purse_35_ok G hr hlk hP25 (fun _ _ _ _ _ _ h => h) hI f_l0 h) f_l0
set_option maxRecDepth 100000 in
set_option maxHeartbeats 4000000 in
theorem B_X12_purse_25_ok {p : Program} {l : Launch} {e : Env} {s : State} {m : MethodId} {args : Array Value} {below : List Frame} {meth : Method} {c : Code} {D : va_G} {A : Nat → Prop} {ρ : z_A} {kd : z_K} {q : z_Q} {μ : z_M} {K : Int32 → z_M → Prop} {P25 : Int32 → Int32 → Int32 → Int32 → z_M → Prop} {v2 : Int32} {v3 : Int32} {v4 : Int32} {v5 : Int32} (G : z_G p c cX12_purse s m args RX12 8 D) (hr : meth.sig.returnType = (Option.some Jvm.ClassFile.FieldType.int)) (hlk : meth.locks = false) (hP25 : ∀ (v2 : Int32) (v3 : Int32) (v4 : Int32) (v5 : Int32) (μ : z_M), P25 v2 v3 v4 v5 μ → (kd 0 = some (.inl 12)) → z_X p l e rm_X12_purse s m args below meth c 8 D A (MQ below (z_Qn D A ρ kd (z_Ki q K)) args s 0 0 A) 0 0 ρ kd q μ 25 [(0, .ref (0)), (2, .int (v2)), (3, .int (v3)), (4, .int (v4)), (5, .int (v5))] []) (hI : z_I kd q) (f_l0 : kd 0 = some (.inl 12)) (h : B_X12_purse_25 K P25 v2 v3 v4 v5 μ) : z_X p l e rm_X12_purse s m args below meth c 8 D A (MQ below (z_Qn D A ρ kd (z_Ki q K)) args s 0 0 A) 0 0 ρ kd q μ 25 [(0, .ref (0)), (2, .int (v2)), (3, .int (v3)), (4, .int (v4)), (5, .int (v5))] [] := by
    unfold B_X12_purse_25 at h
    refine zx_iload (pc := 25) G 3 rfl (z_dec T_X12_purse_ok 15 (25, .iload 4, 2) rfl) ?_
    refine zx_iload (pc := 27) G 4 rfl (z_dec T_X12_purse_ok 16 (27, .iload 5, 2) rfl) ?_
    refine zx_icmp_eq (pc := 29) (tgt := 116) G rfl (z_dec T_X12_purse_ok 17 (29, .if_icmp .eq 87, 3) rfl) (fun hc => ?_) (fun hc => ?_)
    · replace h := z_pos hc h
      refine zx_iload (pc := 116) G 3 rfl (z_dec T_X12_purse_ok 61 (116, .iload 4, 2) rfl) ?_
      exact zx_iret (pc := 118) G hr hlk (Nat.le_refl _) (Nat.le_refl _) (z_dec T_X12_purse_ok 62 (118, .ireturn, 1) rfl) ⟨rfl, _, rfl, h⟩
    · replace h := z_neg hc h
      refine zx_iconst (pc := 32) (v := 0) G (z_dec T_X12_purse_ok 18 (32, .iconst 0, 1) rfl) rfl ?_
      refine zx_istore (pc := 33) (lv' := [(6, .int ((0 : Int32))), (0, .ref (0)), (2, .int (v2)), (3, .int (v3)), (4, .int (v4)), (5, .int (v5))]) G (Nat.le_of_ble_eq_true rfl) rfl (z_dec T_X12_purse_ok 19 (33, .istore 6, 2) rfl) ?_
      refine zx_sub (lv' := [(0, .ref (0)), (2, .int (v2)), (3, .int (v3)), (4, .int (v4)), (5, .int (v5)), (6, .int ((0 : Int32)))]) [1, 2, 3, 4, 5, 0] rfl ?_
      exact L_X12_purse_35_ok G hr hlk hP25 hI f_l0 h
set_option maxRecDepth 100000 in
set_option maxHeartbeats 4000000 in
theorem L_X12_purse_25_ok {p : Program} {l : Launch} {e : Env} {s : State} {m : MethodId} {args : Array Value} {below : List Frame} {meth : Method} {c : Code} {D : va_G} {A : Nat → Prop} {ρ : z_A} {kd : z_K} {q : z_Q} {μ : z_M} {K : Int32 → z_M → Prop} {v2 : Int32} {v3 : Int32} {v4 : Int32} {v5 : Int32} (G : z_G p c cX12_purse s m args RX12 8 D) (hr : meth.sig.returnType = (Option.some Jvm.ClassFile.FieldType.int)) (hlk : meth.locks = false) (hI : z_I kd q) (f_l0 : kd 0 = some (.inl 12)) (h : L_X12_purse_25 K v2 v3 v4 v5 μ) : z_X p l e rm_X12_purse s m args below meth c 8 D A (MQ below (z_Qn D A ρ kd (z_Ki q K)) args s 0 0 A) 0 0 ρ kd q μ 25 [(0, .ref (0)), (2, .int (v2)), (3, .int (v3)), (4, .int (v4)), (5, .int (v5))] [] :=
  h (fun (v2 : Int32) (v3 : Int32) (v4 : Int32) (v5 : Int32) (μ : z_M) => (kd 0 = some (.inl 12)) → z_X p l e rm_X12_purse s m args below meth c 8 D A (MQ below (z_Qn D A ρ kd (z_Ki q K)) args s 0 0 A) 0 0 ρ kd q μ 25 [(0, .ref (0)), (2, .int (v2)), (3, .int (v3)), (4, .int (v4)), (5, .int (v5))] []) (fun v2 v3 v4 v5 μ h f_l0 => B_X12_purse_25_ok G hr hlk (fun _ _ _ _ _ h => h) hI f_l0 h) f_l0
set_option maxRecDepth 100000 in
set_option maxHeartbeats 4000000 in
theorem met_X12_purse (l : Launch) (D : va_G) (ρ : z_A) (kd : z_K) (q : z_Q) (μ : z_M) (sz : Nat) (a1 : Int32) (a2 : Int32) (a3 : Int32) (K : Int32 → z_M → Prop) (hI : z_I kd q) (h_o : kd 0 = some (.inl 12)) (h : C_X12_purse a1 a2 a3 μ K) : Met l yX12_purse (z_ws yX12_purse cX12_purse 8 (Option.some Jvm.ClassFile.FieldType.int)) rm_X12_purse (z_Pc D ρ kd q μ sz [.ref (0), .int (a1), .int (a2), .int (a3)]) (z_Qn D (z_Rg ρ sz) ρ kd (z_Ki q K)) 0 0 (z_Rg ρ sz) := by
  refine z_met (rm := rm_X12_purse) (by decide) (Nat.le_of_ble_eq_true rfl) (fun p e s m args below meth c G hr hlk => ?_)
  unfold C_X12_purse at h
  show z_X _ _ _ _ _ _ _ _ _ _ _ _ _ _ _ _ _ _ _ _ _ [(0, .ref (0)), (1, .int (a1)), (2, .int (a2)), (3, .int (a3))] _
  refine zx_iload_n (pc := 0) G 1 rfl rfl (z_dec T_X12_purse_ok 0 (0, .iload_n 1, 1) rfl) ?_
  refine zx_callS_zN (pc := 1) (rm := rm_X12_isBettor) G cw_RX12_202 ⟨Nat.le_of_ble_eq_true rfl, Nat.le_of_ble_eq_true rfl⟩ rfl rfl ⟨Nat.zero_le _, Nat.zero_le _⟩ (fun sz => (met_X12_isBettor l D ρ kd q μ sz a1 _ hI h)) rfl rfl (Nat.le_of_ble_eq_true rfl) (z_dec T_X12_purse_ok 1 (1, .invokestatic 202, 3) rfl) (fun r2 μ1 hzr2 hn => ?_)
  clear h
  have h := hn
  clear hn
  refine zx_if_eq (pc := 4) (tgt := 15) G rfl (z_dec T_X12_purse_ok 2 (4, .ifCond .eq 11, 3) rfl) (fun hc => ?_) (fun hc => ?_)
  · replace h := z_pos hc h
    refine zx_iconst (pc := 15) (v := -1) G (z_dec T_X12_purse_ok 7 (15, .iconst (-1), 1) rfl) rfl ?_
    exact zx_iret (pc := 16) G hr hlk (Nat.le_refl _) (Nat.le_refl _) (z_dec T_X12_purse_ok 8 (16, .ireturn, 1) rfl) ⟨rfl, _, rfl, h⟩
  · replace h := z_neg hc h
    refine zx_iload_n (pc := 7) G 2 rfl rfl (z_dec T_X12_purse_ok 3 (7, .iload_n 2, 1) rfl) ?_
    refine zx_iload_n (pc := 8) G 3 rfl rfl (z_dec T_X12_purse_ok 4 (8, .iload_n 3, 1) rfl) ?_
    refine zx_callS_zN (pc := 9) (rm := rm_X12_isSpan) G cw_RX12_472 ⟨Nat.le_of_ble_eq_true rfl, Nat.le_of_ble_eq_true rfl⟩ rfl rfl ⟨Nat.zero_le _, Nat.zero_le _⟩ (fun sz => (met_X12_isSpan l D ρ kd q μ1 sz a2 a3 _ hI h)) rfl rfl (Nat.le_of_ble_eq_true rfl) (z_dec T_X12_purse_ok 5 (9, .invokestatic 472, 3) rfl) (fun r4 μ3 hzr4 hn => ?_)
    clear h
    have h := hn
    clear hn
    refine zx_if_ne (pc := 12) (tgt := 17) G rfl (z_dec T_X12_purse_ok 6 (12, .ifCond .ne 5, 3) rfl) (fun hc => ?_) (fun hc => ?_)
    · replace h := z_neg hc h
      refine zx_iconst (pc := 17) (v := 1) G (z_dec T_X12_purse_ok 9 (17, .iconst 1, 1) rfl) rfl ?_
      refine zx_iload_n (pc := 18) G 1 rfl rfl (z_dec T_X12_purse_ok 10 (18, .iload_n 1, 1) rfl) ?_
      refine zx_ishl (pc := 19) G  (z_dec T_X12_purse_ok 11 (19, .ishl, 1) rfl) ?_
      refine zx_istore (pc := 20) (lv' := [(4, .int (((1 : Int32)) <<< (a1 &&& 31))), (0, .ref (0)), (1, .int (a1)), (2, .int (a2)), (3, .int (a3))]) G (Nat.le_of_ble_eq_true rfl) rfl (z_dec T_X12_purse_ok 12 (20, .istore 4, 2) rfl) ?_
      refine zx_iconst (pc := 22) (v := 0) G (z_dec T_X12_purse_ok 13 (22, .iconst 0, 1) rfl) rfl ?_
      refine zx_istore (pc := 23) (lv' := [(5, .int ((0 : Int32))), (4, .int (((1 : Int32)) <<< (a1 &&& 31))), (0, .ref (0)), (1, .int (a1)), (2, .int (a2)), (3, .int (a3))]) G (Nat.le_of_ble_eq_true rfl) rfl (z_dec T_X12_purse_ok 14 (23, .istore 5, 2) rfl) ?_
      refine zx_sub (lv' := [(0, .ref (0)), (2, .int (a2)), (3, .int (a3)), (4, .int (((1 : Int32)) <<< (a1 &&& 31))), (5, .int ((0 : Int32)))]) [2, 4, 5, 1, 0] rfl ?_
      exact L_X12_purse_25_ok G hr hlk hI h_o h
    · replace h := z_pos hc h
      refine zx_iconst (pc := 15) (v := -1) G (z_dec T_X12_purse_ok 7 (15, .iconst (-1), 1) rfl) rfl ?_
      exact zx_iret (pc := 16) G hr hlk (Nat.le_refl _) (Nat.le_refl _) (z_dec T_X12_purse_ok 8 (16, .ireturn, 1) rfl) ⟨rfl, _, rfl, h⟩
abbrev rm_X12_knew : Room := { frames := 2, cells := 0, slots := 0, locals := 45 }
set_option maxRecDepth 100000 in
set_option maxHeartbeats 4000000 in
theorem L_X12_knew_162_ok {p : Program} {l : Launch} {e : Env} {s : State} {m : MethodId} {args : Array Value} {below : List Frame} {meth : Method} {c : Code} {D : va_G} {A : Nat → Prop} {ρ : z_A} {kd : z_K} {q : z_Q} {μ : z_M} {K : Int32 → z_M → Prop} {P27 : Int32 → Int32 → Int32 → Int32 → Int32 → z_M → Prop} {v1 : Int32} {v2 : Int32} {v3 : Int32} {v5 : Int32} {t0 : Int32} (G : z_G p c cX12_knew s m args RX12 9 D) (hr : meth.sig.returnType = (Option.some Jvm.ClassFile.FieldType.int)) (hlk : meth.locks = false) (hP27 : ∀ (v1 : Int32) (v2 : Int32) (v3 : Int32) (v4 : Int32) (v5 : Int32) (μ : z_M), P27 v1 v2 v3 v4 v5 μ → (kd 0 = some (.inl 12)) → z_X p l e rm_X12_knew s m args below meth c 9 D A (MQ below (z_Qn D A ρ kd (z_Ki q K)) args s 0 0 A) 0 0 ρ kd q μ 27 [(0, .ref (0)), (1, .int (v1)), (2, .int (v2)), (3, .int (v3)), (4, .int (v4)), (5, .int (v5))] []) (hI : z_I kd q) (f_l0 : kd 0 = some (.inl 12)) (h : L_X12_knew_162 K P27 v1 v2 v3 v5 t0 μ) : z_X p l e rm_X12_knew s m args below meth c 9 D A (MQ below (z_Qn D A ρ kd (z_Ki q K)) args s 0 0 A) 0 0 ρ kd q μ 162 [(0, .ref (0)), (1, .int (v1)), (2, .int (v2)), (3, .int (v3)), (5, .int (v5))] [.int (t0)] := by
    unfold L_X12_knew_162 at h
    refine zx_iconst (pc := 162) (v := 0) G (z_dec T_X12_knew_ok 86 (162, .iconst 0, 1) rfl) rfl ?_
    refine zx_iadd (pc := 163) G  (z_dec T_X12_knew_ok 87 (163, .iadd, 1) rfl) ?_
    refine zx_istore (pc := 164) (lv' := [(4, .int (t0 + ((0 : Int32)))), (0, .ref (0)), (1, .int (v1)), (2, .int (v2)), (3, .int (v3)), (5, .int (v5))]) G (Nat.le_of_ble_eq_true rfl) rfl (z_dec T_X12_knew_ok 88 (164, .istore 4, 2) rfl) ?_
    refine zx_iinc (pc := 166) (v := v5 + 1) (lv' := [(5, .int (v5 + 1)), (4, .int (t0 + ((0 : Int32)))), (0, .ref (0)), (1, .int (v1)), (2, .int (v2)), (3, .int (v3))]) G 5 rfl (z_inc (by decide)) (Nat.le_of_ble_eq_true rfl) rfl (z_dec T_X12_knew_ok 89 (166, .iinc 5 1, 3) rfl) ?_
    refine zx_goto (pc := 169) (tgt := 27) G rfl (z_dec T_X12_knew_ok 90 (169, .goto (-142), 3) rfl) ?_
    refine zx_sub (lv' := [(0, .ref (0)), (1, .int (v1)), (2, .int (v2)), (3, .int (v3)), (4, .int (t0 + ((0 : Int32)))), (5, .int (v5 + 1))]) [2, 3, 4, 5, 1, 0] rfl ?_
    exact hP27 _ _ _ _ _ _ h f_l0
set_option maxRecDepth 100000 in
set_option maxHeartbeats 4000000 in
theorem B_X12_knew_27_ok {p : Program} {l : Launch} {e : Env} {s : State} {m : MethodId} {args : Array Value} {below : List Frame} {meth : Method} {c : Code} {D : va_G} {A : Nat → Prop} {ρ : z_A} {kd : z_K} {q : z_Q} {μ : z_M} {K : Int32 → z_M → Prop} {P27 : Int32 → Int32 → Int32 → Int32 → Int32 → z_M → Prop} {v1 : Int32} {v2 : Int32} {v3 : Int32} {v4 : Int32} {v5 : Int32} (G : z_G p c cX12_knew s m args RX12 9 D) (hr : meth.sig.returnType = (Option.some Jvm.ClassFile.FieldType.int)) (hlk : meth.locks = false) (hP27 : ∀ (v1 : Int32) (v2 : Int32) (v3 : Int32) (v4 : Int32) (v5 : Int32) (μ : z_M), P27 v1 v2 v3 v4 v5 μ → (kd 0 = some (.inl 12)) → z_X p l e rm_X12_knew s m args below meth c 9 D A (MQ below (z_Qn D A ρ kd (z_Ki q K)) args s 0 0 A) 0 0 ρ kd q μ 27 [(0, .ref (0)), (1, .int (v1)), (2, .int (v2)), (3, .int (v3)), (4, .int (v4)), (5, .int (v5))] []) (hI : z_I kd q) (f_l0 : kd 0 = some (.inl 12)) (h : B_X12_knew_27 K P27 v1 v2 v3 v4 v5 μ) : z_X p l e rm_X12_knew s m args below meth c 9 D A (MQ below (z_Qn D A ρ kd (z_Ki q K)) args s 0 0 A) 0 0 ρ kd q μ 27 [(0, .ref (0)), (1, .int (v1)), (2, .int (v2)), (3, .int (v3)), (4, .int (v4)), (5, .int (v5))] [] := by
    unfold B_X12_knew_27 at h
    refine zx_iload (pc := 27) G 5 rfl (z_dec T_X12_knew_ok 17 (27, .iload 5, 2) rfl) ?_
    refine zx_aload_n (pc := 29) G (some (0)) 0 rfl rfl (z_dec T_X12_knew_ok 18 (29, .aload_n 0, 1) rfl) ?_
    refine zx_getI (pc := 30) G gf_RX12_196 rfl f_l0 (z_dec T_X12_knew_ok 19 (30, .getfield 196, 3) rfl) ?_
    refine zx_icmp_ge (pc := 33) (tgt := 172) G rfl (z_dec T_X12_knew_ok 20 (33, .if_icmp .ge 139, 3) rfl) (fun hc => ?_) (fun hc => ?_)
    · replace h := z_pos hc h
      refine zx_iload_n (pc := 172) G 2 rfl rfl (z_dec T_X12_knew_ok 91 (172, .iload_n 2, 1) rfl) ?_
      refine zx_if_ne (pc := 173) (tgt := 180) G rfl (z_dec T_X12_knew_ok 92 (173, .ifCond .ne 7, 3) rfl) (fun hc => ?_) (fun hc => ?_)
      · replace h := z_neg hc h
        refine zx_iload (pc := 180) G 4 rfl (z_dec T_X12_knew_ok 95 (180, .iload 4, 2) rfl) ?_
        exact zx_iret (pc := 182) G hr hlk (Nat.le_refl _) (Nat.le_refl _) (z_dec T_X12_knew_ok 96 (182, .ireturn, 1) rfl) ⟨rfl, _, rfl, h⟩
      · replace h := z_pos hc h
        refine zx_iload_n (pc := 176) G 3 rfl rfl (z_dec T_X12_knew_ok 93 (176, .iload_n 3, 1) rfl) ?_
        refine zx_goto (pc := 177) (tgt := 182) G rfl (z_dec T_X12_knew_ok 94 (177, .goto 5, 3) rfl) ?_
        exact zx_iret (pc := 182) G hr hlk (Nat.le_refl _) (Nat.le_refl _) (z_dec T_X12_knew_ok 96 (182, .ireturn, 1) rfl) ⟨rfl, _, rfl, h⟩
    · replace h := z_neg hc h
      refine zx_aload_n (pc := 36) G (some (0)) 0 rfl rfl (z_dec T_X12_knew_ok 21 (36, .aload_n 0, 1) rfl) ?_
      refine zx_getF (pc := 37) (b := 20) G gf_RX12_51 rfl f_l0 (zq_12_19 hI f_l0) (z_dec T_X12_knew_ok 22 (37, .getfield 51, 3) rfl) ?_
      refine zx_iload (pc := 40) G 5 rfl (z_dec T_X12_knew_ok 23 (40, .iload 5, 2) rfl) ?_
      obtain ⟨c1, h⟩ := h
      refine zx_iald (pc := 42) G (zk_12_19 hI f_l0) c1 (z_dec T_X12_knew_ok 24 (42, .iaload, 1) rfl) ?_
      refine zx_iload_n (pc := 43) G 1 rfl rfl (z_dec T_X12_knew_ok 25 (43, .iload_n 1, 1) rfl) ?_
      refine zx_icmp_ne (pc := 44) (tgt := 166) G rfl (z_dec T_X12_knew_ok 26 (44, .if_icmp .ne 122, 3) rfl) (fun hc => ?_) (fun hc => ?_)
      · replace h := z_neg hc h
        refine zx_iinc (pc := 166) (v := v5 + 1) (lv' := [(5, .int (v5 + 1)), (0, .ref (0)), (1, .int (v1)), (2, .int (v2)), (3, .int (v3)), (4, .int (v4))]) G 5 rfl (z_inc (by decide)) (Nat.le_of_ble_eq_true rfl) rfl (z_dec T_X12_knew_ok 89 (166, .iinc 5 1, 3) rfl) ?_
        refine zx_goto (pc := 169) (tgt := 27) G rfl (z_dec T_X12_knew_ok 90 (169, .goto (-142), 3) rfl) ?_
        refine zx_sub (lv' := [(0, .ref (0)), (1, .int (v1)), (2, .int (v2)), (3, .int (v3)), (4, .int (v4)), (5, .int (v5 + 1))]) [1, 2, 3, 4, 5, 0] rfl ?_
        exact hP27 _ _ _ _ _ _ h f_l0
      · replace h := z_pos hc h
        refine zx_aload_n (pc := 47) G (some (0)) 0 rfl rfl (z_dec T_X12_knew_ok 27 (47, .aload_n 0, 1) rfl) ?_
        refine zx_iload (pc := 48) G 5 rfl (z_dec T_X12_knew_ok 28 (48, .iload 5, 2) rfl) ?_
        refine zx_callV_zN (pc := 50) (rm := rm_X12_isToWin) G cw_RX12_223 ⟨Nat.le_of_ble_eq_true rfl, Nat.le_of_ble_eq_true rfl⟩ rfl rfl ⟨Nat.zero_le _, Nat.zero_le _⟩ f_l0 rfl (fun sz => (met_X12_isToWin l D ρ kd q μ sz v5 _ hI f_l0 h)) rfl rfl (Nat.le_of_ble_eq_true rfl) (z_dec T_X12_knew_ok 29 (50, .invokevirtual 223, 3) rfl) (fun r3 μ2 hzr3 hn => ?_)
        clear h
        have h := hn
        clear hn
        refine zx_if_ne (pc := 53) (tgt := 59) G rfl (z_dec T_X12_knew_ok 30 (53, .ifCond .ne 6, 3) rfl) (fun hc => ?_) (fun hc => ?_)
        · replace h := z_neg hc h
          refine zx_aload_n (pc := 59) G (some (0)) 0 rfl rfl (z_dec T_X12_knew_ok 32 (59, .aload_n 0, 1) rfl) ?_
          refine zx_iload (pc := 60) G 5 rfl (z_dec T_X12_knew_ok 33 (60, .iload 5, 2) rfl) ?_
          refine zx_callV_iN (pc := 62) (rm := rm_X12_raceOf) G cw_RX12_414 ⟨Nat.le_of_ble_eq_true rfl, Nat.le_of_ble_eq_true rfl⟩ rfl rfl ⟨Nat.zero_le _, Nat.zero_le _⟩ f_l0 rfl (fun sz => (met_X12_raceOf l D ρ kd q μ2 sz v5 _ hI f_l0 h)) rfl rfl (Nat.le_of_ble_eq_true rfl) (z_dec T_X12_knew_ok 34 (62, .invokevirtual 414, 3) rfl) (fun r5 μ4 hn => ?_)
          clear h
          have h := hn
          clear hn
          refine zx_istore (pc := 65) (lv' := [(6, .int (r5)), (0, .ref (0)), (1, .int (v1)), (2, .int (v2)), (3, .int (v3)), (4, .int (v4)), (5, .int (v5))]) G (Nat.le_of_ble_eq_true rfl) rfl (z_dec T_X12_knew_ok 35 (65, .istore 6, 2) rfl) ?_
          refine zx_aload_n (pc := 67) G (some (0)) 1 rfl rfl (z_dec T_X12_knew_ok 36 (67, .aload_n 0, 1) rfl) ?_
          refine zx_getF (pc := 68) (b := 25) G gf_RX12_66 rfl f_l0 (zq_12_24 hI f_l0) (z_dec T_X12_knew_ok 37 (68, .getfield 66, 3) rfl) ?_
          refine zx_iconst (pc := 71) (v := 3) G (z_dec T_X12_knew_ok 38 (71, .iconst 3, 1) rfl) rfl ?_
          refine zx_iload (pc := 72) G 6 rfl (z_dec T_X12_knew_ok 39 (72, .iload 5, 2) rfl) ?_
          refine zx_imul (pc := 74) G  (z_dec T_X12_knew_ok 40 (74, .imul, 1) rfl) ?_
          refine zx_iload (pc := 75) G 0 rfl (z_dec T_X12_knew_ok 41 (75, .iload 6, 2) rfl) ?_
          refine zx_iadd (pc := 77) G  (z_dec T_X12_knew_ok 42 (77, .iadd, 1) rfl) ?_
          obtain ⟨c6, h⟩ := h
          refine zx_iald (pc := 78) G (zk_12_24 hI f_l0) c6 (z_dec T_X12_knew_ok 43 (78, .iaload, 1) rfl) ?_
          refine zx_istore (pc := 79) (lv' := [(7, .int (μ4.1 25 ((((3 : Int32)) * v5) + r5).toNatClampNeg)), (6, .int (r5)), (0, .ref (0)), (1, .int (v1)), (2, .int (v2)), (3, .int (v3)), (4, .int (v4)), (5, .int (v5))]) G (Nat.le_of_ble_eq_true rfl) rfl (z_dec T_X12_knew_ok 44 (79, .istore 7, 2) rfl) ?_
          refine zx_aload_n (pc := 81) G (some (0)) 2 rfl rfl (z_dec T_X12_knew_ok 45 (81, .aload_n 0, 1) rfl) ?_
          refine zx_getF (pc := 82) (b := 12) G gf_RX12_26 rfl f_l0 (zq_12_11 hI f_l0) (z_dec T_X12_knew_ok 46 (82, .getfield 26, 3) rfl) ?_
          refine zx_iload (pc := 85) G 1 rfl (z_dec T_X12_knew_ok 47 (85, .iload 6, 2) rfl) ?_
          obtain ⟨c7, h⟩ := h
          refine zx_zald (pc := 87) G (zk_12_11 hI f_l0) c7 (z_dec T_X12_knew_ok 48 (87, .baload, 1) rfl) ?_
          refine zx_if_eq (pc := 88) (tgt := 166) G rfl (z_dec T_X12_knew_ok 49 (88, .ifCond .eq 78, 3) rfl) (fun hc => ?_) (fun hc => ?_)
          · replace h := z_pos hc h
            refine zx_iinc (pc := 166) (v := v5 + 1) (lv' := [(5, .int (v5 + 1)), (7, .int (μ4.1 25 ((((3 : Int32)) * v5) + r5).toNatClampNeg)), (6, .int (r5)), (0, .ref (0)), (1, .int (v1)), (2, .int (v2)), (3, .int (v3)), (4, .int (v4))]) G 7 rfl (z_inc (by decide)) (Nat.le_of_ble_eq_true rfl) rfl (z_dec T_X12_knew_ok 89 (166, .iinc 5 1, 3) rfl) ?_
            refine zx_goto (pc := 169) (tgt := 27) G rfl (z_dec T_X12_knew_ok 90 (169, .goto (-142), 3) rfl) ?_
            refine zx_sub (lv' := [(0, .ref (0)), (1, .int (v1)), (2, .int (v2)), (3, .int (v3)), (4, .int (v4)), (5, .int (v5 + 1))]) [3, 4, 5, 6, 7, 0] rfl ?_
            exact hP27 _ _ _ _ _ _ h f_l0
          · replace h := z_neg hc h
            refine zx_aload_n (pc := 91) G (some (0)) 2 rfl rfl (z_dec T_X12_knew_ok 50 (91, .aload_n 0, 1) rfl) ?_
            refine zx_getF (pc := 92) (b := 11) G gf_RX12_23 rfl f_l0 (zq_12_10 hI f_l0) (z_dec T_X12_knew_ok 51 (92, .getfield 23, 3) rfl) ?_
            refine zx_iload (pc := 95) G 1 rfl (z_dec T_X12_knew_ok 52 (95, .iload 6, 2) rfl) ?_
            refine zx_iald (pc := 97) G (zk_12_10 hI f_l0) c7 (z_dec T_X12_knew_ok 53 (97, .iaload, 1) rfl) ?_
            refine zx_iload (pc := 98) G 0 rfl (z_dec T_X12_knew_ok 54 (98, .iload 7, 2) rfl) ?_
            refine zx_callS_zN (pc := 100) (rm := rm_X12_hasBit) G cw_RX12_155 ⟨Nat.le_of_ble_eq_true rfl, Nat.le_of_ble_eq_true rfl⟩ rfl rfl ⟨Nat.zero_le _, Nat.zero_le _⟩ (fun sz => (met_X12_hasBit l D ρ kd q μ4 sz (μ4.1 11 r5.toNatClampNeg) (μ4.1 25 ((((3 : Int32)) * v5) + r5).toNatClampNeg) _ hI h)) rfl rfl (Nat.le_of_ble_eq_true rfl) (z_dec T_X12_knew_ok 55 (100, .invokestatic 155, 3) rfl) (fun r9 μ8 hzr9 hn => ?_)
            clear h
            have h := hn
            clear hn
            refine zx_if_eq (pc := 103) (tgt := 109) G rfl (z_dec T_X12_knew_ok 56 (103, .ifCond .eq 6, 3) rfl) (fun hc => ?_) (fun hc => ?_)
            · replace h := z_pos hc h
              refine zx_aload_n (pc := 109) G (some (0)) 2 rfl rfl (z_dec T_X12_knew_ok 58 (109, .aload_n 0, 1) rfl) ?_
              refine zx_getF (pc := 110) (b := 17) G gf_RX12_42 rfl f_l0 (zq_12_16 hI f_l0) (z_dec T_X12_knew_ok 59 (110, .getfield 42, 3) rfl) ?_
              refine zx_aload_n (pc := 113) G (some (0)) 2 rfl rfl (z_dec T_X12_knew_ok 60 (113, .aload_n 0, 1) rfl) ?_
              refine zx_getF (pc := 114) (b := 21) G gf_RX12_54 rfl f_l0 (zq_12_20 hI f_l0) (z_dec T_X12_knew_ok 61 (114, .getfield 54, 3) rfl) ?_
              refine zx_iload (pc := 117) G 7 rfl (z_dec T_X12_knew_ok 62 (117, .iload 5, 2) rfl) ?_
              refine zx_iald (pc := 119) G (zk_12_20 hI f_l0) c1 (z_dec T_X12_knew_ok 63 (119, .iaload, 1) rfl) ?_
              refine zx_iload (pc := 120) G 1 rfl (z_dec T_X12_knew_ok 64 (120, .iload 6, 2) rfl) ?_
              refine zx_iload (pc := 122) G 0 rfl (z_dec T_X12_knew_ok 65 (122, .iload 7, 2) rfl) ?_
              refine zx_callS_iN (pc := 124) (rm := rm_X12_cellOf) G cw_RX12_188 ⟨Nat.le_of_ble_eq_true rfl, Nat.le_of_ble_eq_true rfl⟩ rfl rfl ⟨Nat.zero_le _, Nat.zero_le _⟩ (fun sz => (met_X12_cellOf l D ρ kd q μ8 sz (μ8.1 21 v5.toNatClampNeg) r5 (μ4.1 25 ((((3 : Int32)) * v5) + r5).toNatClampNeg) _ hI h)) rfl rfl (Nat.le_of_ble_eq_true rfl) (z_dec T_X12_knew_ok 66 (124, .invokestatic 188, 3) rfl) (fun r11 μ10 hn => ?_)
              clear h
              have h := hn
              clear hn
              obtain ⟨c12, h⟩ := h
              refine zx_iald (pc := 127) G (zk_12_16 hI f_l0) c12 (z_dec T_X12_knew_ok 67 (127, .iaload, 1) rfl) ?_
              refine zx_istore (pc := 128) (lv' := [(8, .int (μ10.1 17 r11.toNatClampNeg)), (7, .int (μ4.1 25 ((((3 : Int32)) * v5) + r5).toNatClampNeg)), (6, .int (r5)), (0, .ref (0)), (1, .int (v1)), (2, .int (v2)), (3, .int (v3)), (4, .int (v4)), (5, .int (v5))]) G (Nat.le_of_ble_eq_true rfl) rfl (z_dec T_X12_knew_ok 68 (128, .istore 8, 2) rfl) ?_
              refine zx_iinc (pc := 130) (v := v3 + 1) (lv' := [(3, .int (v3 + 1)), (8, .int (μ10.1 17 r11.toNatClampNeg)), (7, .int (μ4.1 25 ((((3 : Int32)) * v5) + r5).toNatClampNeg)), (6, .int (r5)), (0, .ref (0)), (1, .int (v1)), (2, .int (v2)), (4, .int (v4)), (5, .int (v5))]) G 6 rfl (z_inc (by decide)) (Nat.le_of_ble_eq_true rfl) rfl (z_dec T_X12_knew_ok 69 (130, .iinc 3 1, 3) rfl) ?_
              refine zx_iload (pc := 133) G 7 rfl (z_dec T_X12_knew_ok 70 (133, .iload 4, 2) rfl) ?_
              refine zx_iload (pc := 135) G 1 rfl (z_dec T_X12_knew_ok 71 (135, .iload 8, 2) rfl) ?_
              refine zx_iconst (pc := 137) (v := -1) G (z_dec T_X12_knew_ok 72 (137, .iconst (-1), 1) rfl) rfl ?_
              refine zx_icmp_eq (pc := 138) (tgt := 162) G rfl (z_dec T_X12_knew_ok 73 (138, .if_icmp .eq 24, 3) rfl) (fun hc => ?_) (fun hc => ?_)
              · replace h := z_pos hc h
                refine zx_sub (lv' := [(0, .ref (0)), (1, .int (v1)), (2, .int (v2)), (3, .int (v3 + 1)), (5, .int (v5))]) [4, 5, 6, 0, 8] rfl ?_
                exact L_X12_knew_162_ok G hr hlk hP27 hI f_l0 h
              · replace h := z_neg hc h
                refine zx_aload_n (pc := 141) G (some (0)) 4 rfl rfl (z_dec T_X12_knew_ok 74 (141, .aload_n 0, 1) rfl) ?_
                refine zx_getF (pc := 142) (b := 26) G gf_RX12_69 rfl f_l0 (zq_12_25 hI f_l0) (z_dec T_X12_knew_ok 75 (142, .getfield 69, 3) rfl) ?_
                refine zx_iconst (pc := 145) (v := 3) G (z_dec T_X12_knew_ok 76 (145, .iconst 3, 1) rfl) rfl ?_
                refine zx_iload (pc := 146) G 8 rfl (z_dec T_X12_knew_ok 77 (146, .iload 5, 2) rfl) ?_
                refine zx_imul (pc := 148) G  (z_dec T_X12_knew_ok 78 (148, .imul, 1) rfl) ?_
                refine zx_iload (pc := 149) G 3 rfl (z_dec T_X12_knew_ok 79 (149, .iload 6, 2) rfl) ?_
                refine zx_iadd (pc := 151) G  (z_dec T_X12_knew_ok 80 (151, .iadd, 1) rfl) ?_
                refine zx_iald (pc := 152) G (zk_12_25 hI f_l0) c6 (z_dec T_X12_knew_ok 81 (152, .iaload, 1) rfl) ?_
                refine zx_iload (pc := 153) G 1 rfl (z_dec T_X12_knew_ok 82 (153, .iload 8, 2) rfl) ?_
                refine zx_icmp_le (pc := 155) (tgt := 162) G rfl (z_dec T_X12_knew_ok 83 (155, .if_icmp .le 7, 3) rfl) (fun hc => ?_) (fun hc => ?_)
                · replace h := z_pos hc h
                  refine zx_sub (lv' := [(0, .ref (0)), (1, .int (v1)), (2, .int (v2)), (3, .int (v3 + 1)), (5, .int (v5))]) [4, 5, 6, 0, 8] rfl ?_
                  exact L_X12_knew_162_ok G hr hlk hP27 hI f_l0 h
                · replace h := z_neg hc h
                  refine zx_iconst (pc := 158) (v := 1) G (z_dec T_X12_knew_ok 84 (158, .iconst 1, 1) rfl) rfl ?_
                  refine zx_goto (pc := 159) (tgt := 163) G rfl (z_dec T_X12_knew_ok 85 (159, .goto 4, 3) rfl) ?_
                  refine zx_iadd (pc := 163) G  (z_dec T_X12_knew_ok 87 (163, .iadd, 1) rfl) ?_
                  refine zx_istore (pc := 164) (lv' := [(4, .int (v4 + ((1 : Int32)))), (3, .int (v3 + 1)), (8, .int (μ10.1 17 r11.toNatClampNeg)), (7, .int (μ4.1 25 ((((3 : Int32)) * v5) + r5).toNatClampNeg)), (6, .int (r5)), (0, .ref (0)), (1, .int (v1)), (2, .int (v2)), (5, .int (v5))]) G (Nat.le_of_ble_eq_true rfl) rfl (z_dec T_X12_knew_ok 88 (164, .istore 4, 2) rfl) ?_
                  refine zx_iinc (pc := 166) (v := v5 + 1) (lv' := [(5, .int (v5 + 1)), (4, .int (v4 + ((1 : Int32)))), (3, .int (v3 + 1)), (8, .int (μ10.1 17 r11.toNatClampNeg)), (7, .int (μ4.1 25 ((((3 : Int32)) * v5) + r5).toNatClampNeg)), (6, .int (r5)), (0, .ref (0)), (1, .int (v1)), (2, .int (v2))]) G 8 rfl (z_inc (by decide)) (Nat.le_of_ble_eq_true rfl) rfl (z_dec T_X12_knew_ok 89 (166, .iinc 5 1, 3) rfl) ?_
                  refine zx_goto (pc := 169) (tgt := 27) G rfl (z_dec T_X12_knew_ok 90 (169, .goto (-142), 3) rfl) ?_
                  refine zx_sub (lv' := [(0, .ref (0)), (1, .int (v1)), (2, .int (v2)), (3, .int (v3 + 1)), (4, .int (v4 + ((1 : Int32)))), (5, .int (v5 + 1))]) [6, 7, 8, 2, 1, 0] rfl ?_
                  exact hP27 _ _ _ _ _ _ h f_l0
            · replace h := z_neg hc h
              refine zx_goto (pc := 106) (tgt := 166) G rfl (z_dec T_X12_knew_ok 57 (106, .goto 60, 3) rfl) ?_
              refine zx_iinc (pc := 166) (v := v5 + 1) (lv' := [(5, .int (v5 + 1)), (7, .int (μ4.1 25 ((((3 : Int32)) * v5) + r5).toNatClampNeg)), (6, .int (r5)), (0, .ref (0)), (1, .int (v1)), (2, .int (v2)), (3, .int (v3)), (4, .int (v4))]) G 7 rfl (z_inc (by decide)) (Nat.le_of_ble_eq_true rfl) rfl (z_dec T_X12_knew_ok 89 (166, .iinc 5 1, 3) rfl) ?_
              refine zx_goto (pc := 169) (tgt := 27) G rfl (z_dec T_X12_knew_ok 90 (169, .goto (-142), 3) rfl) ?_
              refine zx_sub (lv' := [(0, .ref (0)), (1, .int (v1)), (2, .int (v2)), (3, .int (v3)), (4, .int (v4)), (5, .int (v5 + 1))]) [3, 4, 5, 6, 7, 0] rfl ?_
              exact hP27 _ _ _ _ _ _ h f_l0
        · replace h := z_pos hc h
          refine zx_goto (pc := 56) (tgt := 166) G rfl (z_dec T_X12_knew_ok 31 (56, .goto 110, 3) rfl) ?_
          refine zx_iinc (pc := 166) (v := v5 + 1) (lv' := [(5, .int (v5 + 1)), (0, .ref (0)), (1, .int (v1)), (2, .int (v2)), (3, .int (v3)), (4, .int (v4))]) G 5 rfl (z_inc (by decide)) (Nat.le_of_ble_eq_true rfl) rfl (z_dec T_X12_knew_ok 89 (166, .iinc 5 1, 3) rfl) ?_
          refine zx_goto (pc := 169) (tgt := 27) G rfl (z_dec T_X12_knew_ok 90 (169, .goto (-142), 3) rfl) ?_
          refine zx_sub (lv' := [(0, .ref (0)), (1, .int (v1)), (2, .int (v2)), (3, .int (v3)), (4, .int (v4)), (5, .int (v5 + 1))]) [1, 2, 3, 4, 5, 0] rfl ?_
          exact hP27 _ _ _ _ _ _ h f_l0
set_option maxRecDepth 100000 in
set_option maxHeartbeats 4000000 in
theorem L_X12_knew_27_ok {p : Program} {l : Launch} {e : Env} {s : State} {m : MethodId} {args : Array Value} {below : List Frame} {meth : Method} {c : Code} {D : va_G} {A : Nat → Prop} {ρ : z_A} {kd : z_K} {q : z_Q} {μ : z_M} {K : Int32 → z_M → Prop} {v1 : Int32} {v2 : Int32} {v3 : Int32} {v4 : Int32} {v5 : Int32} (G : z_G p c cX12_knew s m args RX12 9 D) (hr : meth.sig.returnType = (Option.some Jvm.ClassFile.FieldType.int)) (hlk : meth.locks = false) (hI : z_I kd q) (f_l0 : kd 0 = some (.inl 12)) (h : L_X12_knew_27 K v1 v2 v3 v4 v5 μ) : z_X p l e rm_X12_knew s m args below meth c 9 D A (MQ below (z_Qn D A ρ kd (z_Ki q K)) args s 0 0 A) 0 0 ρ kd q μ 27 [(0, .ref (0)), (1, .int (v1)), (2, .int (v2)), (3, .int (v3)), (4, .int (v4)), (5, .int (v5))] [] :=
  h (fun (v1 : Int32) (v2 : Int32) (v3 : Int32) (v4 : Int32) (v5 : Int32) (μ : z_M) => (kd 0 = some (.inl 12)) → z_X p l e rm_X12_knew s m args below meth c 9 D A (MQ below (z_Qn D A ρ kd (z_Ki q K)) args s 0 0 A) 0 0 ρ kd q μ 27 [(0, .ref (0)), (1, .int (v1)), (2, .int (v2)), (3, .int (v3)), (4, .int (v4)), (5, .int (v5))] []) (fun v1 v2 v3 v4 v5 μ h f_l0 => B_X12_knew_27_ok G hr hlk (fun _ _ _ _ _ _ h => h) hI f_l0 h) f_l0
set_option maxRecDepth 100000 in
set_option maxHeartbeats 4000000 in
theorem met_X12_knew (l : Launch) (D : va_G) (ρ : z_A) (kd : z_K) (q : z_Q) (μ : z_M) (sz : Nat) (a1 : Int32) (a2 : Int32) (K : Int32 → z_M → Prop) (hI : z_I kd q) (h_o : kd 0 = some (.inl 12)) (h : C_X12_knew a1 a2 μ K) : Met l yX12_knew (z_ws yX12_knew cX12_knew 9 (Option.some Jvm.ClassFile.FieldType.int)) rm_X12_knew (z_Pc D ρ kd q μ sz [.ref (0), .int (a1), .int (a2)]) (z_Qn D (z_Rg ρ sz) ρ kd (z_Ki q K)) 0 0 (z_Rg ρ sz) := by
  refine z_met (rm := rm_X12_knew) (by decide) (Nat.le_of_ble_eq_true rfl) (fun p e s m args below meth c G hr hlk => ?_)
  unfold C_X12_knew at h
  show z_X _ _ _ _ _ _ _ _ _ _ _ _ _ _ _ _ _ _ _ _ _ [(0, .ref (0)), (1, .int (a1)), (2, .int (a2))] _
  refine zx_iload_n (pc := 0) G 1 rfl rfl (z_dec T_X12_knew_ok 0 (0, .iload_n 1, 1) rfl) ?_
  refine zx_callS_zN (pc := 1) (rm := rm_X12_isBettor) G cw_RX12_202 ⟨Nat.le_of_ble_eq_true rfl, Nat.le_of_ble_eq_true rfl⟩ rfl rfl ⟨Nat.zero_le _, Nat.zero_le _⟩ (fun sz => (met_X12_isBettor l D ρ kd q μ sz a1 _ hI h)) rfl rfl (Nat.le_of_ble_eq_true rfl) (z_dec T_X12_knew_ok 1 (1, .invokestatic 202, 3) rfl) (fun r2 μ1 hzr2 hn => ?_)
  clear h
  have h := hn
  clear hn
  refine zx_if_eq (pc := 4) (tgt := 17) G rfl (z_dec T_X12_knew_ok 2 (4, .ifCond .eq 13, 3) rfl) (fun hc => ?_) (fun hc => ?_)
  · replace h := z_pos hc h
    refine zx_iconst (pc := 17) (v := -1) G (z_dec T_X12_knew_ok 9 (17, .iconst (-1), 1) rfl) rfl ?_
    exact zx_iret (pc := 18) G hr hlk (Nat.le_refl _) (Nat.le_refl _) (z_dec T_X12_knew_ok 10 (18, .ireturn, 1) rfl) ⟨rfl, _, rfl, h⟩
  · replace h := z_neg hc h
    refine zx_iload_n (pc := 7) G 2 rfl rfl (z_dec T_X12_knew_ok 3 (7, .iload_n 2, 1) rfl) ?_
    refine zx_i2l (pc := 8) G  (z_dec T_X12_knew_ok 4 (8, .i2l, 1) rfl) ?_
    refine zx_lconst (pc := 9) (v := 0) G (z_dec T_X12_knew_ok 5 (9, .lconst 0, 1) rfl) rfl ?_
    refine zx_lconst (pc := 10) (v := 1) G (z_dec T_X12_knew_ok 6 (10, .lconst 1, 1) rfl) rfl ?_
    refine zx_callS_zN (pc := 11) (rm := rm_X12_lies) G cw_RX12_140 ⟨Nat.le_of_ble_eq_true rfl, Nat.le_of_ble_eq_true rfl⟩ rfl rfl ⟨Nat.zero_le _, Nat.zero_le _⟩ (fun sz => (met_X12_lies l D ρ kd q μ1 sz a2.toInt64 ((0 : Int64)) ((1 : Int64)) _ hI h)) rfl rfl (Nat.le_of_ble_eq_true rfl) (z_dec T_X12_knew_ok 7 (11, .invokestatic 140, 3) rfl) (fun r4 μ3 hzr4 hn => ?_)
    clear h
    have h := hn
    clear hn
    refine zx_if_ne (pc := 14) (tgt := 19) G rfl (z_dec T_X12_knew_ok 8 (14, .ifCond .ne 5, 3) rfl) (fun hc => ?_) (fun hc => ?_)
    · replace h := z_neg hc h
      refine zx_iconst (pc := 19) (v := 0) G (z_dec T_X12_knew_ok 11 (19, .iconst 0, 1) rfl) rfl ?_
      refine zx_istore_n (pc := 20) (lv' := [(3, .int ((0 : Int32))), (0, .ref (0)), (1, .int (a1)), (2, .int (a2))]) G rfl (Nat.le_of_ble_eq_true rfl) rfl (z_dec T_X12_knew_ok 12 (20, .istore_n 3, 1) rfl) ?_
      refine zx_iconst (pc := 21) (v := 0) G (z_dec T_X12_knew_ok 13 (21, .iconst 0, 1) rfl) rfl ?_
      refine zx_istore (pc := 22) (lv' := [(4, .int ((0 : Int32))), (3, .int ((0 : Int32))), (0, .ref (0)), (1, .int (a1)), (2, .int (a2))]) G (Nat.le_of_ble_eq_true rfl) rfl (z_dec T_X12_knew_ok 14 (22, .istore 4, 2) rfl) ?_
      refine zx_iconst (pc := 24) (v := 0) G (z_dec T_X12_knew_ok 15 (24, .iconst 0, 1) rfl) rfl ?_
      refine zx_istore (pc := 25) (lv' := [(5, .int ((0 : Int32))), (4, .int ((0 : Int32))), (3, .int ((0 : Int32))), (0, .ref (0)), (1, .int (a1)), (2, .int (a2))]) G (Nat.le_of_ble_eq_true rfl) rfl (z_dec T_X12_knew_ok 16 (25, .istore 5, 2) rfl) ?_
      refine zx_sub (lv' := [(0, .ref (0)), (1, .int (a1)), (2, .int (a2)), (3, .int ((0 : Int32))), (4, .int ((0 : Int32))), (5, .int ((0 : Int32)))]) [3, 4, 5, 2, 1, 0] rfl ?_
      exact L_X12_knew_27_ok G hr hlk hI h_o h
    · replace h := z_pos hc h
      refine zx_iconst (pc := 17) (v := -1) G (z_dec T_X12_knew_ok 9 (17, .iconst (-1), 1) rfl) rfl ?_
      exact zx_iret (pc := 18) G hr hlk (Nat.le_refl _) (Nat.le_refl _) (z_dec T_X12_knew_ok 10 (18, .ireturn, 1) rfl) ⟨rfl, _, rfl, h⟩
abbrev rm_X12_compared : Room := { frames := 0, cells := 0, slots := 0, locals := 0 }
set_option maxRecDepth 100000 in
set_option maxHeartbeats 4000000 in
theorem L_X12_compared_61_ok {p : Program} {l : Launch} {e : Env} {s : State} {m : MethodId} {args : Array Value} {below : List Frame} {meth : Method} {c : Code} {D : va_G} {A : Nat → Prop} {ρ : z_A} {kd : z_K} {q : z_Q} {μ : z_M} {K : Int32 → z_M → Prop} {P17 : Int64 → Int64 → Int64 → Int64 → Int32 → z_M → Prop} {v8 : Int64} {v10 : Int64} {v12 : Int64} {v14 : Int64} {v16 : Int32} (G : z_G p c cX12_compared s m args RX12 19 D) (hr : meth.sig.returnType = (Option.some Jvm.ClassFile.FieldType.int)) (hlk : meth.locks = false) (hP17 : ∀ (v8 : Int64) (v10 : Int64) (v12 : Int64) (v14 : Int64) (v16 : Int32) (μ : z_M), P17 v8 v10 v12 v14 v16 μ → z_X p l e rm_X12_compared s m args below meth c 19 D A (MQ below (z_Qn D A ρ kd (z_Ki q K)) args s 0 0 A) 0 0 ρ kd q μ 17 [(8, .long (v8)), (10, .long (v10)), (12, .long (v12)), (14, .long (v14)), (16, .int (v16))] []) (hI : z_I kd q) (h : L_X12_compared_61 K P17 v8 v10 v12 v14 v16 μ) : z_X p l e rm_X12_compared s m args below meth c 19 D A (MQ below (z_Qn D A ρ kd (z_Ki q K)) args s 0 0 A) 0 0 ρ kd q μ 61 [(8, .long (v8)), (10, .long (v10)), (12, .long (v12)), (14, .long (v14)), (16, .int (v16))] [] := by
    unfold L_X12_compared_61 at h
    refine zx_lload (pc := 61) G 0 rfl (z_dec T_X12_compared_ok 36 (61, .lload 8, 2) rfl) ?_
    refine zx_lconst (pc := 63) (v := 0) G (z_dec T_X12_compared_ok 37 (63, .lconst 0, 1) rfl) rfl ?_
    refine zx_lcmp_ne (pc := 64) (tgt := 72) G rfl (z_dec T_X12_compared_ok 38 (64, .lcmp, 1) rfl) (z_dec T_X12_compared_ok 39 (65, .ifCond .ne 7, 3) rfl) (fun hc => ?_) (fun hc => ?_)
    · replace h := z_neg hc h
      refine zx_lload (pc := 72) G 2 rfl (z_dec T_X12_compared_ok 43 (72, .lload 12, 2) rfl) ?_
      refine zx_lconst (pc := 74) (v := 0) G (z_dec T_X12_compared_ok 44 (74, .lconst 0, 1) rfl) rfl ?_
      refine zx_lcmp_ne (pc := 75) (tgt := 82) G rfl (z_dec T_X12_compared_ok 45 (75, .lcmp, 1) rfl) (z_dec T_X12_compared_ok 46 (76, .ifCond .ne 6, 3) rfl) (fun hc => ?_) (fun hc => ?_)
      · replace h := z_neg hc h
        refine zx_lload (pc := 82) G 0 rfl (z_dec T_X12_compared_ok 49 (82, .lload 8, 2) rfl) ?_
        refine zx_lstore (pc := 84) (lv' := [(17, .long (v8)), (8, .long (v8)), (10, .long (v10)), (12, .long (v12)), (14, .long (v14)), (16, .int (v16))]) G (Nat.le_of_ble_eq_true rfl) rfl (z_dec T_X12_compared_ok 50 (84, .lstore 17, 2) rfl) ?_
        refine zx_lload (pc := 86) G 2 rfl (z_dec T_X12_compared_ok 51 (86, .lload 10, 2) rfl) ?_
        refine zx_lstore (pc := 88) (lv' := [(8, .long (v10)), (17, .long (v8)), (10, .long (v10)), (12, .long (v12)), (14, .long (v14)), (16, .int (v16))]) G (Nat.le_of_ble_eq_true rfl) rfl (z_dec T_X12_compared_ok 52 (88, .lstore 8, 2) rfl) ?_
        refine zx_lload (pc := 90) G 1 rfl (z_dec T_X12_compared_ok 53 (90, .lload 17, 2) rfl) ?_
        refine zx_lstore (pc := 92) (lv' := [(10, .long (v8)), (8, .long (v10)), (17, .long (v8)), (12, .long (v12)), (14, .long (v14)), (16, .int (v16))]) G (Nat.le_of_ble_eq_true rfl) rfl (z_dec T_X12_compared_ok 54 (92, .lstore 10, 2) rfl) ?_
        refine zx_lload (pc := 94) G 3 rfl (z_dec T_X12_compared_ok 55 (94, .lload 12, 2) rfl) ?_
        refine zx_lstore (pc := 96) (lv' := [(17, .long (v12)), (10, .long (v8)), (8, .long (v10)), (12, .long (v12)), (14, .long (v14)), (16, .int (v16))]) G (Nat.le_of_ble_eq_true rfl) rfl (z_dec T_X12_compared_ok 56 (96, .lstore 17, 2) rfl) ?_
        refine zx_lload (pc := 98) G 4 rfl (z_dec T_X12_compared_ok 57 (98, .lload 14, 2) rfl) ?_
        refine zx_lstore (pc := 100) (lv' := [(12, .long (v14)), (17, .long (v12)), (10, .long (v8)), (8, .long (v10)), (14, .long (v14)), (16, .int (v16))]) G (Nat.le_of_ble_eq_true rfl) rfl (z_dec T_X12_compared_ok 58 (100, .lstore 12, 2) rfl) ?_
        refine zx_lload (pc := 102) G 1 rfl (z_dec T_X12_compared_ok 59 (102, .lload 17, 2) rfl) ?_
        refine zx_lstore (pc := 104) (lv' := [(14, .long (v12)), (12, .long (v14)), (17, .long (v12)), (10, .long (v8)), (8, .long (v10)), (16, .int (v16))]) G (Nat.le_of_ble_eq_true rfl) rfl (z_dec T_X12_compared_ok 60 (104, .lstore 14, 2) rfl) ?_
        refine zx_iload (pc := 106) G 5 rfl (z_dec T_X12_compared_ok 61 (106, .iload 16, 2) rfl) ?_
        refine zx_ineg (pc := 108) G  (z_dec T_X12_compared_ok 62 (108, .ineg, 1) rfl) ?_
        refine zx_istore (pc := 109) (lv' := [(16, .int (0 - v16)), (14, .long (v12)), (12, .long (v14)), (17, .long (v12)), (10, .long (v8)), (8, .long (v10))]) G (Nat.le_of_ble_eq_true rfl) rfl (z_dec T_X12_compared_ok 63 (109, .istore 16, 2) rfl) ?_
        refine zx_goto (pc := 111) (tgt := 17) G rfl (z_dec T_X12_compared_ok 64 (111, .goto (-94), 3) rfl) ?_
        refine zx_sub (lv' := [(8, .long (v10)), (10, .long (v8)), (12, .long (v14)), (14, .long (v12)), (16, .int (0 - v16))]) [5, 4, 2, 1, 0] rfl ?_
        exact hP17 _ _ _ _ _ _ h
      · replace h := z_pos hc h
        refine zx_iload (pc := 79) G 4 rfl (z_dec T_X12_compared_ok 47 (79, .iload 16, 2) rfl) ?_
        exact zx_iret (pc := 81) G hr hlk (Nat.le_refl _) (Nat.le_refl _) (z_dec T_X12_compared_ok 48 (81, .ireturn, 1) rfl) ⟨rfl, _, rfl, h⟩
    · replace h := z_pos hc h
      refine zx_iload (pc := 68) G 4 rfl (z_dec T_X12_compared_ok 40 (68, .iload 16, 2) rfl) ?_
      refine zx_ineg (pc := 70) G  (z_dec T_X12_compared_ok 41 (70, .ineg, 1) rfl) ?_
      exact zx_iret (pc := 71) G hr hlk (Nat.le_refl _) (Nat.le_refl _) (z_dec T_X12_compared_ok 42 (71, .ireturn, 1) rfl) ⟨rfl, _, rfl, h⟩
set_option maxRecDepth 100000 in
set_option maxHeartbeats 4000000 in
theorem B_X12_compared_17_ok {p : Program} {l : Launch} {e : Env} {s : State} {m : MethodId} {args : Array Value} {below : List Frame} {meth : Method} {c : Code} {D : va_G} {A : Nat → Prop} {ρ : z_A} {kd : z_K} {q : z_Q} {μ : z_M} {K : Int32 → z_M → Prop} {P17 : Int64 → Int64 → Int64 → Int64 → Int32 → z_M → Prop} {v8 : Int64} {v10 : Int64} {v12 : Int64} {v14 : Int64} {v16 : Int32} (G : z_G p c cX12_compared s m args RX12 19 D) (hr : meth.sig.returnType = (Option.some Jvm.ClassFile.FieldType.int)) (hlk : meth.locks = false) (hP17 : ∀ (v8 : Int64) (v10 : Int64) (v12 : Int64) (v14 : Int64) (v16 : Int32) (μ : z_M), P17 v8 v10 v12 v14 v16 μ → z_X p l e rm_X12_compared s m args below meth c 19 D A (MQ below (z_Qn D A ρ kd (z_Ki q K)) args s 0 0 A) 0 0 ρ kd q μ 17 [(8, .long (v8)), (10, .long (v10)), (12, .long (v12)), (14, .long (v14)), (16, .int (v16))] []) (hI : z_I kd q) (h : B_X12_compared_17 K P17 v8 v10 v12 v14 v16 μ) : z_X p l e rm_X12_compared s m args below meth c 19 D A (MQ below (z_Qn D A ρ kd (z_Ki q K)) args s 0 0 A) 0 0 ρ kd q μ 17 [(8, .long (v8)), (10, .long (v10)), (12, .long (v12)), (14, .long (v14)), (16, .int (v16))] [] := by
    unfold B_X12_compared_17 at h
    refine zx_lload (pc := 17) G 0 rfl (z_dec T_X12_compared_ok 10 (17, .lload 8, 2) rfl) ?_
    refine zx_lload (pc := 19) G 1 rfl (z_dec T_X12_compared_ok 11 (19, .lload 10, 2) rfl) ?_
    obtain ⟨c1, h⟩ := h
    refine zx_ldiv (pc := 21) G c1 (z_dec T_X12_compared_ok 12 (21, .ldiv, 1) rfl) ?_
    refine zx_lload (pc := 22) G 2 rfl (z_dec T_X12_compared_ok 13 (22, .lload 12, 2) rfl) ?_
    refine zx_lload (pc := 24) G 3 rfl (z_dec T_X12_compared_ok 14 (24, .lload 14, 2) rfl) ?_
    obtain ⟨c2, h⟩ := h
    refine zx_ldiv (pc := 26) G c2 (z_dec T_X12_compared_ok 15 (26, .ldiv, 1) rfl) ?_
    refine zx_lcmp_ne (pc := 27) (tgt := 114) G rfl (z_dec T_X12_compared_ok 16 (27, .lcmp, 1) rfl) (z_dec T_X12_compared_ok 17 (28, .ifCond .ne 86, 3) rfl) (fun hc => ?_) (fun hc => ?_)
    · replace h := z_neg hc h
      refine zx_lload (pc := 114) G 0 rfl (z_dec T_X12_compared_ok 65 (114, .lload 8, 2) rfl) ?_
      refine zx_lload (pc := 116) G 1 rfl (z_dec T_X12_compared_ok 66 (116, .lload 10, 2) rfl) ?_
      refine zx_ldiv (pc := 118) G c1 (z_dec T_X12_compared_ok 67 (118, .ldiv, 1) rfl) ?_
      refine zx_lload (pc := 119) G 2 rfl (z_dec T_X12_compared_ok 68 (119, .lload 12, 2) rfl) ?_
      refine zx_lload (pc := 121) G 3 rfl (z_dec T_X12_compared_ok 69 (121, .lload 14, 2) rfl) ?_
      refine zx_ldiv (pc := 123) G c2 (z_dec T_X12_compared_ok 70 (123, .ldiv, 1) rfl) ?_
      refine zx_lcmp_ge (pc := 124) (tgt := 134) G rfl (z_dec T_X12_compared_ok 71 (124, .lcmp, 1) rfl) (z_dec T_X12_compared_ok 72 (125, .ifCond .ge 9, 3) rfl) (fun hc => ?_) (fun hc => ?_)
      · replace h := z_pos hc h
        refine zx_iload (pc := 134) G 4 rfl (z_dec T_X12_compared_ok 76 (134, .iload 16, 2) rfl) ?_
        exact zx_iret (pc := 136) G hr hlk (Nat.le_refl _) (Nat.le_refl _) (z_dec T_X12_compared_ok 77 (136, .ireturn, 1) rfl) ⟨rfl, _, rfl, h⟩
      · replace h := z_neg hc h
        refine zx_iload (pc := 128) G 4 rfl (z_dec T_X12_compared_ok 73 (128, .iload 16, 2) rfl) ?_
        refine zx_ineg (pc := 130) G  (z_dec T_X12_compared_ok 74 (130, .ineg, 1) rfl) ?_
        refine zx_goto (pc := 131) (tgt := 136) G rfl (z_dec T_X12_compared_ok 75 (131, .goto 5, 3) rfl) ?_
        exact zx_iret (pc := 136) G hr hlk (Nat.le_refl _) (Nat.le_refl _) (z_dec T_X12_compared_ok 77 (136, .ireturn, 1) rfl) ⟨rfl, _, rfl, h⟩
    · replace h := z_pos hc h
      refine zx_lload (pc := 31) G 0 rfl (z_dec T_X12_compared_ok 18 (31, .lload 8, 2) rfl) ?_
      refine zx_lload (pc := 33) G 1 rfl (z_dec T_X12_compared_ok 19 (33, .lload 10, 2) rfl) ?_
      refine zx_lrem (pc := 35) G c1 (z_dec T_X12_compared_ok 20 (35, .lrem, 1) rfl) ?_
      refine zx_lstore (pc := 36) (lv' := [(8, .long (v8 - v8 / v10 * v10)), (10, .long (v10)), (12, .long (v12)), (14, .long (v14)), (16, .int (v16))]) G (Nat.le_of_ble_eq_true rfl) rfl (z_dec T_X12_compared_ok 21 (36, .lstore 8, 2) rfl) ?_
      refine zx_lload (pc := 38) G 2 rfl (z_dec T_X12_compared_ok 22 (38, .lload 12, 2) rfl) ?_
      refine zx_lload (pc := 40) G 3 rfl (z_dec T_X12_compared_ok 23 (40, .lload 14, 2) rfl) ?_
      refine zx_lrem (pc := 42) G c2 (z_dec T_X12_compared_ok 24 (42, .lrem, 1) rfl) ?_
      refine zx_lstore (pc := 43) (lv' := [(12, .long (v12 - v12 / v14 * v14)), (8, .long (v8 - v8 / v10 * v10)), (10, .long (v10)), (14, .long (v14)), (16, .int (v16))]) G (Nat.le_of_ble_eq_true rfl) rfl (z_dec T_X12_compared_ok 25 (43, .lstore 12, 2) rfl) ?_
      refine zx_lload (pc := 45) G 1 rfl (z_dec T_X12_compared_ok 26 (45, .lload 8, 2) rfl) ?_
      refine zx_lconst (pc := 47) (v := 0) G (z_dec T_X12_compared_ok 27 (47, .lconst 0, 1) rfl) rfl ?_
      refine zx_lcmp_ne (pc := 48) (tgt := 61) G rfl (z_dec T_X12_compared_ok 28 (48, .lcmp, 1) rfl) (z_dec T_X12_compared_ok 29 (49, .ifCond .ne 12, 3) rfl) (fun hc => ?_) (fun hc => ?_)
      · replace h := z_neg hc h
        refine zx_sub (lv' := [(8, .long (v8 - v8 / v10 * v10)), (10, .long (v10)), (12, .long (v12 - v12 / v14 * v14)), (14, .long (v14)), (16, .int (v16))]) [1, 2, 0, 3, 4] rfl ?_
        exact L_X12_compared_61_ok G hr hlk hP17 hI h
      · replace h := z_pos hc h
        refine zx_lload (pc := 52) G 0 rfl (z_dec T_X12_compared_ok 30 (52, .lload 12, 2) rfl) ?_
        refine zx_lconst (pc := 54) (v := 0) G (z_dec T_X12_compared_ok 31 (54, .lconst 0, 1) rfl) rfl ?_
        refine zx_lcmp_ne (pc := 55) (tgt := 61) G rfl (z_dec T_X12_compared_ok 32 (55, .lcmp, 1) rfl) (z_dec T_X12_compared_ok 33 (56, .ifCond .ne 5, 3) rfl) (fun hc => ?_) (fun hc => ?_)
        · replace h := z_neg hc h
          refine zx_sub (lv' := [(8, .long (v8 - v8 / v10 * v10)), (10, .long (v10)), (12, .long (v12 - v12 / v14 * v14)), (14, .long (v14)), (16, .int (v16))]) [1, 2, 0, 3, 4] rfl ?_
          exact L_X12_compared_61_ok G hr hlk hP17 hI h
        · replace h := z_pos hc h
          refine zx_iconst (pc := 59) (v := 0) G (z_dec T_X12_compared_ok 34 (59, .iconst 0, 1) rfl) rfl ?_
          exact zx_iret (pc := 60) G hr hlk (Nat.le_refl _) (Nat.le_refl _) (z_dec T_X12_compared_ok 35 (60, .ireturn, 1) rfl) ⟨rfl, _, rfl, h⟩
set_option maxRecDepth 100000 in
set_option maxHeartbeats 4000000 in
theorem L_X12_compared_17_ok {p : Program} {l : Launch} {e : Env} {s : State} {m : MethodId} {args : Array Value} {below : List Frame} {meth : Method} {c : Code} {D : va_G} {A : Nat → Prop} {ρ : z_A} {kd : z_K} {q : z_Q} {μ : z_M} {K : Int32 → z_M → Prop} {v8 : Int64} {v10 : Int64} {v12 : Int64} {v14 : Int64} {v16 : Int32} (G : z_G p c cX12_compared s m args RX12 19 D) (hr : meth.sig.returnType = (Option.some Jvm.ClassFile.FieldType.int)) (hlk : meth.locks = false) (hI : z_I kd q) (h : L_X12_compared_17 K v8 v10 v12 v14 v16 μ) : z_X p l e rm_X12_compared s m args below meth c 19 D A (MQ below (z_Qn D A ρ kd (z_Ki q K)) args s 0 0 A) 0 0 ρ kd q μ 17 [(8, .long (v8)), (10, .long (v10)), (12, .long (v12)), (14, .long (v14)), (16, .int (v16))] [] :=
  h (fun (v8 : Int64) (v10 : Int64) (v12 : Int64) (v14 : Int64) (v16 : Int32) (μ : z_M) => z_X p l e rm_X12_compared s m args below meth c 19 D A (MQ below (z_Qn D A ρ kd (z_Ki q K)) args s 0 0 A) 0 0 ρ kd q μ 17 [(8, .long (v8)), (10, .long (v10)), (12, .long (v12)), (14, .long (v14)), (16, .int (v16))] []) (fun v8 v10 v12 v14 v16 μ h  => B_X12_compared_17_ok G hr hlk (fun _ _ _ _ _ _ h => h) hI  h) 
set_option maxRecDepth 100000 in
set_option maxHeartbeats 4000000 in
theorem met_X12_compared (l : Launch) (D : va_G) (ρ : z_A) (kd : z_K) (q : z_Q) (μ : z_M) (sz : Nat) (a1 : Int64) (a2 : Int64) (a3 : Int64) (a4 : Int64) (K : Int32 → z_M → Prop) (hI : z_I kd q) (h : C_X12_compared a1 a2 a3 a4 μ K) : Met l yX12_compared (z_ws yX12_compared cX12_compared 19 (Option.some Jvm.ClassFile.FieldType.int)) rm_X12_compared (z_Pc D ρ kd q μ sz [.long (a1), .long (a2), .long (a3), .long (a4)]) (z_Qn D (z_Rg ρ sz) ρ kd (z_Ki q K)) 0 0 (z_Rg ρ sz) := by
  refine z_met (rm := rm_X12_compared) (by decide) (Nat.le_of_ble_eq_true rfl) (fun p e s m args below meth c G hr hlk => ?_)
  unfold C_X12_compared at h
  show z_X _ _ _ _ _ _ _ _ _ _ _ _ _ _ _ _ _ _ _ _ _ [(0, .long (a1)), (2, .long (a2)), (4, .long (a3)), (6, .long (a4))] _
  refine zx_lload_n (pc := 0) G 0 rfl rfl (z_dec T_X12_compared_ok 0 (0, .lload_n 0, 1) rfl) ?_
  refine zx_lstore (pc := 1) (lv' := [(8, .long (a1)), (0, .long (a1)), (2, .long (a2)), (4, .long (a3)), (6, .long (a4))]) G (Nat.le_of_ble_eq_true rfl) rfl (z_dec T_X12_compared_ok 1 (1, .lstore 8, 2) rfl) ?_
  refine zx_lload_n (pc := 3) G 2 rfl rfl (z_dec T_X12_compared_ok 2 (3, .lload_n 2, 1) rfl) ?_
  refine zx_lstore (pc := 4) (lv' := [(10, .long (a2)), (8, .long (a1)), (0, .long (a1)), (2, .long (a2)), (4, .long (a3)), (6, .long (a4))]) G (Nat.le_of_ble_eq_true rfl) rfl (z_dec T_X12_compared_ok 3 (4, .lstore 10, 2) rfl) ?_
  refine zx_lload (pc := 6) G 4 rfl (z_dec T_X12_compared_ok 4 (6, .lload 4, 2) rfl) ?_
  refine zx_lstore (pc := 8) (lv' := [(12, .long (a3)), (10, .long (a2)), (8, .long (a1)), (0, .long (a1)), (2, .long (a2)), (4, .long (a3)), (6, .long (a4))]) G (Nat.le_of_ble_eq_true rfl) rfl (z_dec T_X12_compared_ok 5 (8, .lstore 12, 2) rfl) ?_
  refine zx_lload (pc := 10) G 6 rfl (z_dec T_X12_compared_ok 6 (10, .lload 6, 2) rfl) ?_
  refine zx_lstore (pc := 12) (lv' := [(14, .long (a4)), (12, .long (a3)), (10, .long (a2)), (8, .long (a1)), (0, .long (a1)), (2, .long (a2)), (4, .long (a3)), (6, .long (a4))]) G (Nat.le_of_ble_eq_true rfl) rfl (z_dec T_X12_compared_ok 7 (12, .lstore 14, 2) rfl) ?_
  refine zx_iconst (pc := 14) (v := 1) G (z_dec T_X12_compared_ok 8 (14, .iconst 1, 1) rfl) rfl ?_
  refine zx_istore (pc := 15) (lv' := [(16, .int ((1 : Int32))), (14, .long (a4)), (12, .long (a3)), (10, .long (a2)), (8, .long (a1)), (0, .long (a1)), (2, .long (a2)), (4, .long (a3)), (6, .long (a4))]) G (Nat.le_of_ble_eq_true rfl) rfl (z_dec T_X12_compared_ok 9 (15, .istore 16, 2) rfl) ?_
  refine zx_sub (lv' := [(8, .long (a1)), (10, .long (a2)), (12, .long (a3)), (14, .long (a4)), (16, .int ((1 : Int32)))]) [4, 3, 2, 1, 0] rfl ?_
  exact L_X12_compared_17_ok G hr hlk hI h
abbrev rm_X12_hasAll : Room := { frames := 4, cells := 0, slots := 0, locals := 90 }
set_option maxRecDepth 100000 in
set_option maxHeartbeats 4000000 in
theorem B_X12_hasAll_2_ok {p : Program} {l : Launch} {e : Env} {s : State} {m : MethodId} {args : Array Value} {below : List Frame} {meth : Method} {c : Code} {D : va_G} {A : Nat → Prop} {ρ : z_A} {kd : z_K} {q : z_Q} {μ : z_M} {K : Int32 → z_M → Prop} {P2 : Int32 → Int32 → Int32 → z_M → Prop} {v1 : Int32} {v2 : Int32} {v3 : Int32} (G : z_G p c cX12_hasAll s m args RX12 4 D) (hr : meth.sig.returnType = (Option.some Jvm.ClassFile.FieldType.boolean)) (hlk : meth.locks = false) (hP2 : ∀ (v1 : Int32) (v2 : Int32) (v3 : Int32) (μ : z_M), P2 v1 v2 v3 μ → (kd 0 = some (.inl 12)) → z_X p l e rm_X12_hasAll s m args below meth c 4 D A (MQ below (z_Qn D A ρ kd (z_Kz q K)) args s 0 0 A) 0 0 ρ kd q μ 2 [(0, .ref (0)), (1, .int (v1)), (2, .int (v2)), (3, .int (v3))] []) (hI : z_I kd q) (f_l0 : kd 0 = some (.inl 12)) (h : B_X12_hasAll_2 K P2 v1 v2 v3 μ) : z_X p l e rm_X12_hasAll s m args below meth c 4 D A (MQ below (z_Qn D A ρ kd (z_Kz q K)) args s 0 0 A) 0 0 ρ kd q μ 2 [(0, .ref (0)), (1, .int (v1)), (2, .int (v2)), (3, .int (v3))] [] := by
    unfold B_X12_hasAll_2 at h
    refine zx_iload_n (pc := 2) G 3 rfl rfl (z_dec T_X12_hasAll_ok 2 (2, .iload_n 3, 1) rfl) ?_
    refine zx_aload_n (pc := 3) G (some (0)) 0 rfl rfl (z_dec T_X12_hasAll_ok 3 (3, .aload_n 0, 1) rfl) ?_
    refine zx_getF (pc := 4) (b := 10) G gf_RX12_20 rfl f_l0 (zq_12_9 hI f_l0) (z_dec T_X12_hasAll_ok 4 (4, .getfield 20, 3) rfl) ?_
    refine zx_iload_n (pc := 7) G 2 rfl rfl (z_dec T_X12_hasAll_ok 5 (7, .iload_n 2, 1) rfl) ?_
    obtain ⟨c1, h⟩ := h
    refine zx_iald (pc := 8) G (zk_12_9 hI f_l0) c1 (z_dec T_X12_hasAll_ok 6 (8, .iaload, 1) rfl) ?_
    refine zx_icmp_ge (pc := 9) (tgt := 44) G rfl (z_dec T_X12_hasAll_ok 7 (9, .if_icmp .ge 35, 3) rfl) (fun hc => ?_) (fun hc => ?_)
    · replace h := z_pos hc h
      refine zx_iconst (pc := 44) (v := 1) G (z_dec T_X12_hasAll_ok 26 (44, .iconst 1, 1) rfl) rfl ?_
      exact zx_zret (pc := 45) G hr hlk (Nat.le_refl _) (Nat.le_refl _) (Or.inr rfl) (z_dec T_X12_hasAll_ok 27 (45, .ireturn, 1) rfl) ⟨rfl, _, rfl, (Or.inr rfl), h⟩
    · replace h := z_neg hc h
      refine zx_aload_n (pc := 12) G (some (0)) 0 rfl rfl (z_dec T_X12_hasAll_ok 8 (12, .aload_n 0, 1) rfl) ?_
      refine zx_iload_n (pc := 13) G 2 rfl rfl (z_dec T_X12_hasAll_ok 9 (13, .iload_n 2, 1) rfl) ?_
      refine zx_iload_n (pc := 14) G 3 rfl rfl (z_dec T_X12_hasAll_ok 10 (14, .iload_n 3, 1) rfl) ?_
      refine zx_callV_zN (pc := 15) (rm := rm_X12_runs) G cw_RX12_183 ⟨Nat.le_of_ble_eq_true rfl, Nat.le_of_ble_eq_true rfl⟩ rfl rfl ⟨Nat.zero_le _, Nat.zero_le _⟩ f_l0 rfl (fun sz => (met_X12_runs l D ρ kd q μ sz v2 v3 _ hI f_l0 h)) rfl rfl (Nat.le_of_ble_eq_true rfl) (z_dec T_X12_hasAll_ok 11 (15, .invokevirtual 183, 3) rfl) (fun r3 μ2 hzr3 hn => ?_)
      clear h
      have h := hn
      clear hn
      refine zx_if_eq (pc := 18) (tgt := 38) G rfl (z_dec T_X12_hasAll_ok 12 (18, .ifCond .eq 20, 3) rfl) (fun hc => ?_) (fun hc => ?_)
      · replace h := z_pos hc h
        refine zx_iinc (pc := 38) (v := v3 + 1) (lv' := [(3, .int (v3 + 1)), (0, .ref (0)), (1, .int (v1)), (2, .int (v2))]) G 3 rfl (z_inc (by decide)) (Nat.le_of_ble_eq_true rfl) rfl (z_dec T_X12_hasAll_ok 24 (38, .iinc 3 1, 3) rfl) ?_
        refine zx_goto (pc := 41) (tgt := 2) G rfl (z_dec T_X12_hasAll_ok 25 (41, .goto (-39), 3) rfl) ?_
        refine zx_sub (lv' := [(0, .ref (0)), (1, .int (v1)), (2, .int (v2)), (3, .int (v3 + 1))]) [1, 2, 3, 0] rfl ?_
        exact hP2 _ _ _ _ h f_l0
      · replace h := z_neg hc h
        refine zx_aload_n (pc := 21) G (some (0)) 0 rfl rfl (z_dec T_X12_hasAll_ok 13 (21, .aload_n 0, 1) rfl) ?_
        refine zx_getF (pc := 22) (b := 17) G gf_RX12_42 rfl f_l0 (zq_12_16 hI f_l0) (z_dec T_X12_hasAll_ok 14 (22, .getfield 42, 3) rfl) ?_
        refine zx_iload_n (pc := 25) G 1 rfl rfl (z_dec T_X12_hasAll_ok 15 (25, .iload_n 1, 1) rfl) ?_
        refine zx_iload_n (pc := 26) G 2 rfl rfl (z_dec T_X12_hasAll_ok 16 (26, .iload_n 2, 1) rfl) ?_
        refine zx_iload_n (pc := 27) G 3 rfl rfl (z_dec T_X12_hasAll_ok 17 (27, .iload_n 3, 1) rfl) ?_
        refine zx_callS_iN (pc := 28) (rm := rm_X12_cellOf) G cw_RX12_188 ⟨Nat.le_of_ble_eq_true rfl, Nat.le_of_ble_eq_true rfl⟩ rfl rfl ⟨Nat.zero_le _, Nat.zero_le _⟩ (fun sz => (met_X12_cellOf l D ρ kd q μ2 sz v1 v2 v3 _ hI h)) rfl rfl (Nat.le_of_ble_eq_true rfl) (z_dec T_X12_hasAll_ok 18 (28, .invokestatic 188, 3) rfl) (fun r5 μ4 hn => ?_)
        clear h
        have h := hn
        clear hn
        obtain ⟨c6, h⟩ := h
        refine zx_iald (pc := 31) G (zk_12_16 hI f_l0) c6 (z_dec T_X12_hasAll_ok 19 (31, .iaload, 1) rfl) ?_
        refine zx_iconst (pc := 32) (v := -1) G (z_dec T_X12_hasAll_ok 20 (32, .iconst (-1), 1) rfl) rfl ?_
        refine zx_icmp_ne (pc := 33) (tgt := 38) G rfl (z_dec T_X12_hasAll_ok 21 (33, .if_icmp .ne 5, 3) rfl) (fun hc => ?_) (fun hc => ?_)
        · replace h := z_neg hc h
          refine zx_iinc (pc := 38) (v := v3 + 1) (lv' := [(3, .int (v3 + 1)), (0, .ref (0)), (1, .int (v1)), (2, .int (v2))]) G 3 rfl (z_inc (by decide)) (Nat.le_of_ble_eq_true rfl) rfl (z_dec T_X12_hasAll_ok 24 (38, .iinc 3 1, 3) rfl) ?_
          refine zx_goto (pc := 41) (tgt := 2) G rfl (z_dec T_X12_hasAll_ok 25 (41, .goto (-39), 3) rfl) ?_
          refine zx_sub (lv' := [(0, .ref (0)), (1, .int (v1)), (2, .int (v2)), (3, .int (v3 + 1))]) [1, 2, 3, 0] rfl ?_
          exact hP2 _ _ _ _ h f_l0
        · replace h := z_pos hc h
          refine zx_iconst (pc := 36) (v := 0) G (z_dec T_X12_hasAll_ok 22 (36, .iconst 0, 1) rfl) rfl ?_
          exact zx_zret (pc := 37) G hr hlk (Nat.le_refl _) (Nat.le_refl _) (Or.inl rfl) (z_dec T_X12_hasAll_ok 23 (37, .ireturn, 1) rfl) ⟨rfl, _, rfl, (Or.inl rfl), h⟩
set_option maxRecDepth 100000 in
set_option maxHeartbeats 4000000 in
theorem L_X12_hasAll_2_ok {p : Program} {l : Launch} {e : Env} {s : State} {m : MethodId} {args : Array Value} {below : List Frame} {meth : Method} {c : Code} {D : va_G} {A : Nat → Prop} {ρ : z_A} {kd : z_K} {q : z_Q} {μ : z_M} {K : Int32 → z_M → Prop} {v1 : Int32} {v2 : Int32} {v3 : Int32} (G : z_G p c cX12_hasAll s m args RX12 4 D) (hr : meth.sig.returnType = (Option.some Jvm.ClassFile.FieldType.boolean)) (hlk : meth.locks = false) (hI : z_I kd q) (f_l0 : kd 0 = some (.inl 12)) (h : L_X12_hasAll_2 K v1 v2 v3 μ) : z_X p l e rm_X12_hasAll s m args below meth c 4 D A (MQ below (z_Qn D A ρ kd (z_Kz q K)) args s 0 0 A) 0 0 ρ kd q μ 2 [(0, .ref (0)), (1, .int (v1)), (2, .int (v2)), (3, .int (v3))] [] :=
  h (fun (v1 : Int32) (v2 : Int32) (v3 : Int32) (μ : z_M) => (kd 0 = some (.inl 12)) → z_X p l e rm_X12_hasAll s m args below meth c 4 D A (MQ below (z_Qn D A ρ kd (z_Kz q K)) args s 0 0 A) 0 0 ρ kd q μ 2 [(0, .ref (0)), (1, .int (v1)), (2, .int (v2)), (3, .int (v3))] []) (fun v1 v2 v3 μ h f_l0 => B_X12_hasAll_2_ok G hr hlk (fun _ _ _ _ h => h) hI f_l0 h) f_l0
set_option maxRecDepth 100000 in
set_option maxHeartbeats 4000000 in
theorem met_X12_hasAll (l : Launch) (D : va_G) (ρ : z_A) (kd : z_K) (q : z_Q) (μ : z_M) (sz : Nat) (a1 : Int32) (a2 : Int32) (K : Int32 → z_M → Prop) (hI : z_I kd q) (h_o : kd 0 = some (.inl 12)) (h : C_X12_hasAll a1 a2 μ K) : Met l yX12_hasAll (z_ws yX12_hasAll cX12_hasAll 4 (Option.some Jvm.ClassFile.FieldType.boolean)) rm_X12_hasAll (z_Pc D ρ kd q μ sz [.ref (0), .int (a1), .int (a2)]) (z_Qn D (z_Rg ρ sz) ρ kd (z_Kz q K)) 0 0 (z_Rg ρ sz) := by
  refine z_met (rm := rm_X12_hasAll) (by decide) (Nat.le_of_ble_eq_true rfl) (fun p e s m args below meth c G hr hlk => ?_)
  unfold C_X12_hasAll at h
  show z_X _ _ _ _ _ _ _ _ _ _ _ _ _ _ _ _ _ _ _ _ _ [(0, .ref (0)), (1, .int (a1)), (2, .int (a2))] _
  refine zx_iconst (pc := 0) (v := 0) G (z_dec T_X12_hasAll_ok 0 (0, .iconst 0, 1) rfl) rfl ?_
  refine zx_istore_n (pc := 1) (lv' := [(3, .int ((0 : Int32))), (0, .ref (0)), (1, .int (a1)), (2, .int (a2))]) G rfl (Nat.le_of_ble_eq_true rfl) rfl (z_dec T_X12_hasAll_ok 1 (1, .istore_n 3, 1) rfl) ?_
  refine zx_sub (lv' := [(0, .ref (0)), (1, .int (a1)), (2, .int (a2)), (3, .int ((0 : Int32)))]) [1, 2, 3, 0] rfl ?_
  exact L_X12_hasAll_2_ok G hr hlk hI h_o h
abbrev rm_X12_chance : Room := { frames := 5, cells := 0, slots := 0, locals := 113 }
set_option maxRecDepth 100000 in
set_option maxHeartbeats 4000000 in
theorem L_X12_chance_181_ok {p : Program} {l : Launch} {e : Env} {s : State} {m : MethodId} {args : Array Value} {below : List Frame} {meth : Method} {c : Code} {D : va_G} {A : Nat → Prop} {ρ : z_A} {kd : z_K} {q : z_Q} {μ : z_M} {K : Int64 → z_M → Prop} {P37 : Int32 → Int32 → Int32 → Int32 → Int64 → Int64 → Int32 → z_M → Prop} {v1 : Int32} {v2 : Int32} {v3 : Int32} {v9 : Int32} {v11 : Int64} {v13 : Int64} {v15 : Int64} (G : z_G p c cX12_chance s m args RX12 18 D) (hr : meth.sig.returnType = (Option.some Jvm.ClassFile.FieldType.long)) (hlk : meth.locks = false) (hP37 : ∀ (v1 : Int32) (v2 : Int32) (v3 : Int32) (v4 : Int32) (v5 : Int64) (v7 : Int64) (v9 : Int32) (μ : z_M), P37 v1 v2 v3 v4 v5 v7 v9 μ → (kd 0 = some (.inl 12)) → ((v4 = 0 ∨ v4 = 1)) → z_X p l e rm_X12_chance s m args below meth c 18 D A (MQ below (z_Qn D A ρ kd (z_Kl q K)) args s 0 0 A) 0 0 ρ kd q μ 37 [(0, .ref (0)), (1, .int (v1)), (2, .int (v2)), (3, .int (v3)), (4, .int (v4)), (5, .long (v5)), (7, .long (v7)), (9, .int (v9))] []) (hI : z_I kd q) (f_l0 : kd 0 = some (.inl 12)) (h : L_X12_chance_181 K P37 v1 v2 v3 v9 v11 v13 v15 μ) : z_X p l e rm_X12_chance s m args below meth c 18 D A (MQ below (z_Qn D A ρ kd (z_Kl q K)) args s 0 0 A) 0 0 ρ kd q μ 181 [(0, .ref (0)), (1, .int (v1)), (2, .int (v2)), (3, .int (v3)), (9, .int (v9)), (11, .long (v11)), (13, .long (v13)), (15, .long (v15))] [] := by
    unfold L_X12_chance_181 at h
    refine zx_iconst (pc := 181) (v := 1) G (z_dec T_X12_chance_ok 95 (181, .iconst 1, 1) rfl) rfl ?_
    refine zx_istore (pc := 182) (lv' := [(4, .int ((1 : Int32))), (0, .ref (0)), (1, .int (v1)), (2, .int (v2)), (3, .int (v3)), (9, .int (v9)), (11, .long (v11)), (13, .long (v13)), (15, .long (v15))]) G (Nat.le_of_ble_eq_true rfl) rfl (z_dec T_X12_chance_ok 96 (182, .istore 4, 2) rfl) ?_
    refine zx_lload (pc := 184) G 6 rfl (z_dec T_X12_chance_ok 97 (184, .lload 11, 2) rfl) ?_
    refine zx_lload (pc := 186) G 8 rfl (z_dec T_X12_chance_ok 98 (186, .lload 15, 2) rfl) ?_
    obtain ⟨c1, h⟩ := h
    refine zx_ldiv (pc := 188) G c1 (z_dec T_X12_chance_ok 99 (188, .ldiv, 1) rfl) ?_
    refine zx_lstore (pc := 189) (lv' := [(5, .long (v11 / v15)), (4, .int ((1 : Int32))), (0, .ref (0)), (1, .int (v1)), (2, .int (v2)), (3, .int (v3)), (9, .int (v9)), (11, .long (v11)), (13, .long (v13)), (15, .long (v15))]) G (Nat.le_of_ble_eq_true rfl) rfl (z_dec T_X12_chance_ok 100 (189, .lstore 5, 2) rfl) ?_
    refine zx_lload (pc := 191) G 8 rfl (z_dec T_X12_chance_ok 101 (191, .lload 13, 2) rfl) ?_
    refine zx_lload (pc := 193) G 9 rfl (z_dec T_X12_chance_ok 102 (193, .lload 15, 2) rfl) ?_
    refine zx_ldiv (pc := 195) G c1 (z_dec T_X12_chance_ok 103 (195, .ldiv, 1) rfl) ?_
    refine zx_lstore (pc := 196) (lv' := [(7, .long (v13 / v15)), (5, .long (v11 / v15)), (4, .int ((1 : Int32))), (0, .ref (0)), (1, .int (v1)), (2, .int (v2)), (3, .int (v3)), (9, .int (v9)), (11, .long (v11)), (13, .long (v13)), (15, .long (v15))]) G (Nat.le_of_ble_eq_true rfl) rfl (z_dec T_X12_chance_ok 104 (196, .lstore 7, 2) rfl) ?_
    refine zx_iinc (pc := 198) (v := v9 + 1) (lv' := [(9, .int (v9 + 1)), (7, .long (v13 / v15)), (5, .long (v11 / v15)), (4, .int ((1 : Int32))), (0, .ref (0)), (1, .int (v1)), (2, .int (v2)), (3, .int (v3)), (11, .long (v11)), (13, .long (v13)), (15, .long (v15))]) G 7 rfl (z_inc (by decide)) (Nat.le_of_ble_eq_true rfl) rfl (z_dec T_X12_chance_ok 105 (198, .iinc 9 1, 3) rfl) ?_
    refine zx_goto (pc := 201) (tgt := 37) G rfl (z_dec T_X12_chance_ok 106 (201, .goto (-164), 3) rfl) ?_
    refine zx_sub (lv' := [(0, .ref (0)), (1, .int (v1)), (2, .int (v2)), (3, .int (v3)), (4, .int ((1 : Int32))), (5, .long (v11 / v15)), (7, .long (v13 / v15)), (9, .int (v9 + 1))]) [4, 5, 6, 7, 3, 2, 1, 0] rfl ?_
    exact hP37 _ _ _ _ _ _ _ _ h f_l0 (Or.inr rfl)
set_option maxRecDepth 100000 in
set_option maxHeartbeats 4000000 in
theorem L_X12_chance_153_ok {p : Program} {l : Launch} {e : Env} {s : State} {m : MethodId} {args : Array Value} {below : List Frame} {meth : Method} {c : Code} {D : va_G} {A : Nat → Prop} {ρ : z_A} {kd : z_K} {q : z_Q} {μ : z_M} {K : Int64 → z_M → Prop} {P37 : Int32 → Int32 → Int32 → Int32 → Int64 → Int64 → Int32 → z_M → Prop} {v1 : Int32} {v2 : Int32} {v3 : Int32} {v4 : Int32} {v5 : Int64} {v7 : Int64} {v9 : Int32} {v11 : Int64} {v13 : Int64} {v15 : Int64} {t0 : Int32} (G : z_G p c cX12_chance s m args RX12 18 D) (hr : meth.sig.returnType = (Option.some Jvm.ClassFile.FieldType.long)) (hlk : meth.locks = false) (hP37 : ∀ (v1 : Int32) (v2 : Int32) (v3 : Int32) (v4 : Int32) (v5 : Int64) (v7 : Int64) (v9 : Int32) (μ : z_M), P37 v1 v2 v3 v4 v5 v7 v9 μ → (kd 0 = some (.inl 12)) → ((v4 = 0 ∨ v4 = 1)) → z_X p l e rm_X12_chance s m args below meth c 18 D A (MQ below (z_Qn D A ρ kd (z_Kl q K)) args s 0 0 A) 0 0 ρ kd q μ 37 [(0, .ref (0)), (1, .int (v1)), (2, .int (v2)), (3, .int (v3)), (4, .int (v4)), (5, .long (v5)), (7, .long (v7)), (9, .int (v9))] []) (hI : z_I kd q) (f_l0 : kd 0 = some (.inl 12)) (f_l4 : (v4 = 0 ∨ v4 = 1)) (h : L_X12_chance_153 K P37 v1 v2 v3 v4 v5 v7 v9 v11 v13 v15 t0 μ) : z_X p l e rm_X12_chance s m args below meth c 18 D A (MQ below (z_Qn D A ρ kd (z_Kl q K)) args s 0 0 A) 0 0 ρ kd q μ 153 [(0, .ref (0)), (1, .int (v1)), (2, .int (v2)), (3, .int (v3)), (4, .int (v4)), (5, .long (v5)), (7, .long (v7)), (9, .int (v9)), (11, .long (v11)), (13, .long (v13)), (15, .long (v15))] [.int (t0)] := by
    unfold L_X12_chance_153 at h
    refine zx_istore (pc := 153) (lv' := [(17, .int (t0)), (0, .ref (0)), (1, .int (v1)), (2, .int (v2)), (3, .int (v3)), (4, .int (v4)), (5, .long (v5)), (7, .long (v7)), (9, .int (v9)), (11, .long (v11)), (13, .long (v13)), (15, .long (v15))]) G (Nat.le_of_ble_eq_true rfl) rfl (z_dec T_X12_chance_ok 83 (153, .istore 17, 2) rfl) ?_
    refine zx_iload (pc := 155) G 5 rfl (z_dec T_X12_chance_ok 84 (155, .iload 4, 2) rfl) ?_
    refine zx_if_eq (pc := 157) (tgt := 181) G rfl (z_dec T_X12_chance_ok 85 (157, .ifCond .eq 24, 3) rfl) (fun hc => ?_) (fun hc => ?_)
    · replace h := z_pos hc h
      refine zx_sub (lv' := [(0, .ref (0)), (1, .int (v1)), (2, .int (v2)), (3, .int (v3)), (9, .int (v9)), (11, .long (v11)), (13, .long (v13)), (15, .long (v15))]) [1, 2, 3, 4, 8, 9, 10, 11] rfl ?_
      exact L_X12_chance_181_ok G hr hlk hP37 hI f_l0 h
    · replace h := z_neg hc h
      refine zx_iload_n (pc := 160) G 4 rfl rfl (z_dec T_X12_chance_ok 86 (160, .iload_n 3, 1) rfl) ?_
      refine zx_iconst (pc := 161) (v := 2) G (z_dec T_X12_chance_ok 87 (161, .iconst 2, 1) rfl) rfl ?_
      refine zx_icmp_ge (pc := 162) (tgt := 173) G rfl (z_dec T_X12_chance_ok 88 (162, .if_icmp .ge 11, 3) rfl) (fun hc => ?_) (fun hc => ?_)
      · replace h := z_pos hc h
        refine zx_iload (pc := 173) G 0 rfl (z_dec T_X12_chance_ok 92 (173, .iload 17, 2) rfl) ?_
        refine zx_if_gt (pc := 175) (tgt := 181) G rfl (z_dec T_X12_chance_ok 93 (175, .ifCond .gt 6, 3) rfl) (fun hc => ?_) (fun hc => ?_)
        · replace h := z_pos hc h
          refine zx_sub (lv' := [(0, .ref (0)), (1, .int (v1)), (2, .int (v2)), (3, .int (v3)), (9, .int (v9)), (11, .long (v11)), (13, .long (v13)), (15, .long (v15))]) [1, 2, 3, 4, 8, 9, 10, 11] rfl ?_
          exact L_X12_chance_181_ok G hr hlk hP37 hI f_l0 h
        · replace h := z_neg hc h
          refine zx_goto (pc := 178) (tgt := 198) G rfl (z_dec T_X12_chance_ok 94 (178, .goto 20, 3) rfl) ?_
          refine zx_iinc (pc := 198) (v := v9 + 1) (lv' := [(9, .int (v9 + 1)), (17, .int (t0)), (0, .ref (0)), (1, .int (v1)), (2, .int (v2)), (3, .int (v3)), (4, .int (v4)), (5, .long (v5)), (7, .long (v7)), (11, .long (v11)), (13, .long (v13)), (15, .long (v15))]) G 8 rfl (z_inc (by decide)) (Nat.le_of_ble_eq_true rfl) rfl (z_dec T_X12_chance_ok 105 (198, .iinc 9 1, 3) rfl) ?_
          refine zx_goto (pc := 201) (tgt := 37) G rfl (z_dec T_X12_chance_ok 106 (201, .goto (-164), 3) rfl) ?_
          refine zx_sub (lv' := [(0, .ref (0)), (1, .int (v1)), (2, .int (v2)), (3, .int (v3)), (4, .int (v4)), (5, .long (v5)), (7, .long (v7)), (9, .int (v9 + 1))]) [2, 3, 4, 5, 6, 7, 8, 0] rfl ?_
          exact hP37 _ _ _ _ _ _ _ _ h f_l0 f_l4
      · replace h := z_neg hc h
        refine zx_iload (pc := 165) G 0 rfl (z_dec T_X12_chance_ok 89 (165, .iload 17, 2) rfl) ?_
        refine zx_if_lt (pc := 167) (tgt := 181) G rfl (z_dec T_X12_chance_ok 90 (167, .ifCond .lt 14, 3) rfl) (fun hc => ?_) (fun hc => ?_)
        · replace h := z_pos hc h
          refine zx_sub (lv' := [(0, .ref (0)), (1, .int (v1)), (2, .int (v2)), (3, .int (v3)), (9, .int (v9)), (11, .long (v11)), (13, .long (v13)), (15, .long (v15))]) [1, 2, 3, 4, 8, 9, 10, 11] rfl ?_
          exact L_X12_chance_181_ok G hr hlk hP37 hI f_l0 h
        · replace h := z_neg hc h
          refine zx_goto (pc := 170) (tgt := 198) G rfl (z_dec T_X12_chance_ok 91 (170, .goto 28, 3) rfl) ?_
          refine zx_iinc (pc := 198) (v := v9 + 1) (lv' := [(9, .int (v9 + 1)), (17, .int (t0)), (0, .ref (0)), (1, .int (v1)), (2, .int (v2)), (3, .int (v3)), (4, .int (v4)), (5, .long (v5)), (7, .long (v7)), (11, .long (v11)), (13, .long (v13)), (15, .long (v15))]) G 8 rfl (z_inc (by decide)) (Nat.le_of_ble_eq_true rfl) rfl (z_dec T_X12_chance_ok 105 (198, .iinc 9 1, 3) rfl) ?_
          refine zx_goto (pc := 201) (tgt := 37) G rfl (z_dec T_X12_chance_ok 106 (201, .goto (-164), 3) rfl) ?_
          refine zx_sub (lv' := [(0, .ref (0)), (1, .int (v1)), (2, .int (v2)), (3, .int (v3)), (4, .int (v4)), (5, .long (v5)), (7, .long (v7)), (9, .int (v9 + 1))]) [2, 3, 4, 5, 6, 7, 8, 0] rfl ?_
          exact hP37 _ _ _ _ _ _ _ _ h f_l0 f_l4
set_option maxRecDepth 100000 in
set_option maxHeartbeats 4000000 in
theorem B_X12_chance_37_ok {p : Program} {l : Launch} {e : Env} {s : State} {m : MethodId} {args : Array Value} {below : List Frame} {meth : Method} {c : Code} {D : va_G} {A : Nat → Prop} {ρ : z_A} {kd : z_K} {q : z_Q} {μ : z_M} {K : Int64 → z_M → Prop} {P37 : Int32 → Int32 → Int32 → Int32 → Int64 → Int64 → Int32 → z_M → Prop} {v1 : Int32} {v2 : Int32} {v3 : Int32} {v4 : Int32} {v5 : Int64} {v7 : Int64} {v9 : Int32} (G : z_G p c cX12_chance s m args RX12 18 D) (hr : meth.sig.returnType = (Option.some Jvm.ClassFile.FieldType.long)) (hlk : meth.locks = false) (hP37 : ∀ (v1 : Int32) (v2 : Int32) (v3 : Int32) (v4 : Int32) (v5 : Int64) (v7 : Int64) (v9 : Int32) (μ : z_M), P37 v1 v2 v3 v4 v5 v7 v9 μ → (kd 0 = some (.inl 12)) → ((v4 = 0 ∨ v4 = 1)) → z_X p l e rm_X12_chance s m args below meth c 18 D A (MQ below (z_Qn D A ρ kd (z_Kl q K)) args s 0 0 A) 0 0 ρ kd q μ 37 [(0, .ref (0)), (1, .int (v1)), (2, .int (v2)), (3, .int (v3)), (4, .int (v4)), (5, .long (v5)), (7, .long (v7)), (9, .int (v9))] []) (hI : z_I kd q) (f_l0 : kd 0 = some (.inl 12)) (f_l4 : (v4 = 0 ∨ v4 = 1)) (h : B_X12_chance_37 K P37 v1 v2 v3 v4 v5 v7 v9 μ) : z_X p l e rm_X12_chance s m args below meth c 18 D A (MQ below (z_Qn D A ρ kd (z_Kl q K)) args s 0 0 A) 0 0 ρ kd q μ 37 [(0, .ref (0)), (1, .int (v1)), (2, .int (v2)), (3, .int (v3)), (4, .int (v4)), (5, .long (v5)), (7, .long (v7)), (9, .int (v9))] [] := by
    unfold B_X12_chance_37 at h
    refine zx_iload (pc := 37) G 7 rfl (z_dec T_X12_chance_ok 21 (37, .iload 9, 2) rfl) ?_
    refine zx_aload_n (pc := 39) G (some (0)) 0 rfl rfl (z_dec T_X12_chance_ok 22 (39, .aload_n 0, 1) rfl) ?_
    refine zx_getI (pc := 40) G gf_RX12_144 rfl f_l0 (z_dec T_X12_chance_ok 23 (40, .getfield 144, 3) rfl) ?_
    refine zx_icmp_ge (pc := 43) (tgt := 204) G rfl (z_dec T_X12_chance_ok 24 (43, .if_icmp .ge 161, 3) rfl) (fun hc => ?_) (fun hc => ?_)
    · replace h := z_pos hc h
      refine zx_iload (pc := 204) G 4 rfl (z_dec T_X12_chance_ok 107 (204, .iload 4, 2) rfl) ?_
      refine zx_if_ne (pc := 206) (tgt := 215) G rfl (z_dec T_X12_chance_ok 108 (206, .ifCond .ne 9, 3) rfl) (fun hc => ?_) (fun hc => ?_)
      · replace h := z_neg hc h
        refine zx_iload_n (pc := 215) G 3 rfl rfl (z_dec T_X12_chance_ok 111 (215, .iload_n 3, 1) rfl) ?_
        refine zx_iconst (pc := 216) (v := 2) G (z_dec T_X12_chance_ok 112 (216, .iconst 2, 1) rfl) rfl ?_
        refine zx_irem (pc := 217) G (by decide) (z_dec T_X12_chance_ok 113 (217, .irem, 1) rfl) ?_
        refine zx_if_ne (pc := 218) (tgt := 226) G rfl (z_dec T_X12_chance_ok 114 (218, .ifCond .ne 8, 3) rfl) (fun hc => ?_) (fun hc => ?_)
        · replace h := z_neg hc h
          refine zx_lload (pc := 226) G 6 rfl (z_dec T_X12_chance_ok 117 (226, .lload 7, 2) rfl) ?_
          exact zx_lret (pc := 228) G hr hlk (Nat.le_refl _) (Nat.le_refl _) (z_dec T_X12_chance_ok 118 (228, .lreturn, 1) rfl) ⟨rfl, _, rfl, h⟩
        · replace h := z_pos hc h
          refine zx_lload (pc := 221) G 5 rfl (z_dec T_X12_chance_ok 115 (221, .lload 5, 2) rfl) ?_
          refine zx_goto (pc := 223) (tgt := 228) G rfl (z_dec T_X12_chance_ok 116 (223, .goto 5, 3) rfl) ?_
          exact zx_lret (pc := 228) G hr hlk (Nat.le_refl _) (Nat.le_refl _) (z_dec T_X12_chance_ok 118 (228, .lreturn, 1) rfl) ⟨rfl, _, rfl, h⟩
      · replace h := z_pos hc h
        refine zx_ldc2 (pc := 209) G wk_RX12_486 (z_dec T_X12_chance_ok 109 (209, .ldc2_w 486, 3) rfl) ?_
        refine zx_goto (pc := 212) (tgt := 228) G rfl (z_dec T_X12_chance_ok 110 (212, .goto 16, 3) rfl) ?_
        exact zx_lret (pc := 228) G hr hlk (Nat.le_refl _) (Nat.le_refl _) (z_dec T_X12_chance_ok 118 (228, .lreturn, 1) rfl) ⟨rfl, _, rfl, h⟩
    · replace h := z_neg hc h
      refine zx_aload_n (pc := 46) G (some (0)) 0 rfl rfl (z_dec T_X12_chance_ok 25 (46, .aload_n 0, 1) rfl) ?_
      refine zx_iload (pc := 47) G 7 rfl (z_dec T_X12_chance_ok 26 (47, .iload 9, 2) rfl) ?_
      refine zx_iload_n (pc := 49) G 1 rfl rfl (z_dec T_X12_chance_ok 27 (49, .iload_n 1, 1) rfl) ?_
      refine zx_callV_zN (pc := 50) (rm := rm_X12_hasAll) G cw_RX12_479 ⟨Nat.le_of_ble_eq_true rfl, Nat.le_of_ble_eq_true rfl⟩ rfl rfl ⟨Nat.zero_le _, Nat.zero_le _⟩ f_l0 rfl (fun sz => (met_X12_hasAll l D ρ kd q μ sz v9 v1 _ hI f_l0 h)) rfl rfl (Nat.le_of_ble_eq_true rfl) (z_dec T_X12_chance_ok 28 (50, .invokevirtual 479, 3) rfl) (fun r2 μ1 hzr2 hn => ?_)
      clear h
      have h := hn
      clear hn
      refine zx_if_ne (pc := 53) (tgt := 59) G rfl (z_dec T_X12_chance_ok 29 (53, .ifCond .ne 6, 3) rfl) (fun hc => ?_) (fun hc => ?_)
      · replace h := z_neg hc h
        refine zx_aload_n (pc := 59) G (some (0)) 0 rfl rfl (z_dec T_X12_chance_ok 31 (59, .aload_n 0, 1) rfl) ?_
        refine zx_iload (pc := 60) G 7 rfl (z_dec T_X12_chance_ok 32 (60, .iload 9, 2) rfl) ?_
        refine zx_iload_n (pc := 62) G 1 rfl rfl (z_dec T_X12_chance_ok 33 (62, .iload_n 1, 1) rfl) ?_
        refine zx_callV_vN (pc := 63) (rm := rm_X12_rounds) G cw_RX12_257 ⟨Nat.le_of_ble_eq_true rfl, Nat.le_of_ble_eq_true rfl⟩ rfl rfl ⟨Nat.zero_le _, Nat.zero_le _⟩ f_l0 rfl (fun sz => (met_X12_rounds l D ρ kd q μ1 sz v9 v1 _ hI f_l0 h)) rfl rfl (Nat.le_of_ble_eq_true rfl) (z_dec T_X12_chance_ok 34 (63, .invokevirtual 257, 3) rfl) (fun μ3 hn => ?_)
        clear h
        have h := hn
        clear hn
        refine zx_aload_n (pc := 66) G (some (0)) 0 rfl rfl (z_dec T_X12_chance_ok 35 (66, .aload_n 0, 1) rfl) ?_
        refine zx_getF (pc := 67) (b := 17) G gf_RX12_42 rfl f_l0 (zq_12_16 hI f_l0) (z_dec T_X12_chance_ok 36 (67, .getfield 42, 3) rfl) ?_
        refine zx_iload (pc := 70) G 7 rfl (z_dec T_X12_chance_ok 37 (70, .iload 9, 2) rfl) ?_
        refine zx_iload_n (pc := 72) G 1 rfl rfl (z_dec T_X12_chance_ok 38 (72, .iload_n 1, 1) rfl) ?_
        refine zx_iload_n (pc := 73) G 2 rfl rfl (z_dec T_X12_chance_ok 39 (73, .iload_n 2, 1) rfl) ?_
        refine zx_callS_iN (pc := 74) (rm := rm_X12_cellOf) G cw_RX12_188 ⟨Nat.le_of_ble_eq_true rfl, Nat.le_of_ble_eq_true rfl⟩ rfl rfl ⟨Nat.zero_le _, Nat.zero_le _⟩ (fun sz => (met_X12_cellOf l D ρ kd q μ3 sz v9 v1 v2 _ hI h)) rfl rfl (Nat.le_of_ble_eq_true rfl) (z_dec T_X12_chance_ok 40 (74, .invokestatic 188, 3) rfl) (fun r5 μ4 hn => ?_)
        clear h
        have h := hn
        clear hn
        obtain ⟨c6, h⟩ := h
        refine zx_iald (pc := 77) G (zk_12_16 hI f_l0) c6 (z_dec T_X12_chance_ok 41 (77, .iaload, 1) rfl) ?_
        refine zx_istore (pc := 78) (lv' := [(10, .int (μ4.1 17 r5.toNatClampNeg)), (0, .ref (0)), (1, .int (v1)), (2, .int (v2)), (3, .int (v3)), (4, .int (v4)), (5, .long (v5)), (7, .long (v7)), (9, .int (v9))]) G (Nat.le_of_ble_eq_true rfl) rfl (z_dec T_X12_chance_ok 42 (78, .istore 10, 2) rfl) ?_
        refine zx_aload_n (pc := 80) G (some (0)) 1 rfl rfl (z_dec T_X12_chance_ok 43 (80, .aload_n 0, 1) rfl) ?_
        refine zx_getF (pc := 81) (b := 9) G gf_RX12_17 rfl f_l0 (zq_12_8 hI f_l0) (z_dec T_X12_chance_ok 44 (81, .getfield 17, 3) rfl) ?_
        refine zx_iload (pc := 84) G 0 rfl (z_dec T_X12_chance_ok 45 (84, .iload 10, 2) rfl) ?_
        obtain ⟨c7, h⟩ := h
        refine zx_iald (pc := 86) G (zk_12_8 hI f_l0) c7 (z_dec T_X12_chance_ok 46 (86, .iaload, 1) rfl) ?_
        refine zx_i2l (pc := 87) G  (z_dec T_X12_chance_ok 47 (87, .i2l, 1) rfl) ?_
        refine zx_aload_n (pc := 88) G (some (0)) 1 rfl rfl (z_dec T_X12_chance_ok 48 (88, .aload_n 0, 1) rfl) ?_
        refine zx_getL (pc := 89) G gf_RX12_244 rfl f_l0 (z_dec T_X12_chance_ok 49 (89, .getfield 244, 3) rfl) ?_
        refine zx_lmul (pc := 92) G  (z_dec T_X12_chance_ok 50 (92, .lmul, 1) rfl) ?_
        refine zx_lstore (pc := 93) (lv' := [(11, .long (((μ4.1 9 (μ4.1 17 r5.toNatClampNeg).toNatClampNeg).toInt64) * (μ4.2 0 30))), (10, .int (μ4.1 17 r5.toNatClampNeg)), (0, .ref (0)), (1, .int (v1)), (2, .int (v2)), (3, .int (v3)), (4, .int (v4)), (5, .long (v5)), (7, .long (v7)), (9, .int (v9))]) G (Nat.le_of_ble_eq_true rfl) rfl (z_dec T_X12_chance_ok 51 (93, .lstore 11, 2) rfl) ?_
        refine zx_aload_n (pc := 95) G (some (0)) 2 rfl rfl (z_dec T_X12_chance_ok 52 (95, .aload_n 0, 1) rfl) ?_
        refine zx_getF (pc := 96) (b := 8) G gf_RX12_13 rfl f_l0 (zq_12_7 hI f_l0) (z_dec T_X12_chance_ok 53 (96, .getfield 13, 3) rfl) ?_
        refine zx_iload (pc := 99) G 1 rfl (z_dec T_X12_chance_ok 54 (99, .iload 10, 2) rfl) ?_
        refine zx_iald (pc := 101) G (zk_12_7 hI f_l0) c7 (z_dec T_X12_chance_ok 55 (101, .iaload, 1) rfl) ?_
        refine zx_aload_n (pc := 102) G (some (0)) 2 rfl rfl (z_dec T_X12_chance_ok 56 (102, .aload_n 0, 1) rfl) ?_
        refine zx_getF (pc := 103) (b := 9) G gf_RX12_17 rfl f_l0 (zq_12_8 hI f_l0) (z_dec T_X12_chance_ok 57 (103, .getfield 17, 3) rfl) ?_
        refine zx_iload (pc := 106) G 1 rfl (z_dec T_X12_chance_ok 58 (106, .iload 10, 2) rfl) ?_
        refine zx_iald (pc := 108) G (zk_12_8 hI f_l0) c7 (z_dec T_X12_chance_ok 59 (108, .iaload, 1) rfl) ?_
        refine zx_iadd (pc := 109) G  (z_dec T_X12_chance_ok 60 (109, .iadd, 1) rfl) ?_
        refine zx_i2l (pc := 110) G  (z_dec T_X12_chance_ok 61 (110, .i2l, 1) rfl) ?_
        refine zx_aload_n (pc := 111) G (some (0)) 2 rfl rfl (z_dec T_X12_chance_ok 62 (111, .aload_n 0, 1) rfl) ?_
        refine zx_getL (pc := 112) G gf_RX12_240 rfl f_l0 (z_dec T_X12_chance_ok 63 (112, .getfield 240, 3) rfl) ?_
        refine zx_lmul (pc := 115) G  (z_dec T_X12_chance_ok 64 (115, .lmul, 1) rfl) ?_
        refine zx_lstore (pc := 116) (lv' := [(13, .long ((((μ4.1 8 (μ4.1 17 r5.toNatClampNeg).toNatClampNeg) + (μ4.1 9 (μ4.1 17 r5.toNatClampNeg).toNatClampNeg)).toInt64) * (μ4.2 0 29))), (11, .long (((μ4.1 9 (μ4.1 17 r5.toNatClampNeg).toNatClampNeg).toInt64) * (μ4.2 0 30))), (10, .int (μ4.1 17 r5.toNatClampNeg)), (0, .ref (0)), (1, .int (v1)), (2, .int (v2)), (3, .int (v3)), (4, .int (v4)), (5, .long (v5)), (7, .long (v7)), (9, .int (v9))]) G (Nat.le_of_ble_eq_true rfl) rfl (z_dec T_X12_chance_ok 65 (116, .lstore 13, 2) rfl) ?_
        refine zx_lload (pc := 118) G 1 rfl (z_dec T_X12_chance_ok 66 (118, .lload 11, 2) rfl) ?_
        refine zx_lload (pc := 120) G 0 rfl (z_dec T_X12_chance_ok 67 (120, .lload 13, 2) rfl) ?_
        refine zx_callS_lN (pc := 122) (rm := rm_X12_divisor) G cw_RX12_247 ⟨Nat.le_of_ble_eq_true rfl, Nat.le_of_ble_eq_true rfl⟩ rfl rfl ⟨Nat.zero_le _, Nat.zero_le _⟩ (fun sz => (met_X12_divisor l D ρ kd q μ4 sz (((μ4.1 9 (μ4.1 17 r5.toNatClampNeg).toNatClampNeg).toInt64) * (μ4.2 0 30)) ((((μ4.1 8 (μ4.1 17 r5.toNatClampNeg).toNatClampNeg) + (μ4.1 9 (μ4.1 17 r5.toNatClampNeg).toNatClampNeg)).toInt64) * (μ4.2 0 29)) _ hI h)) rfl rfl (Nat.le_of_ble_eq_true rfl) (z_dec T_X12_chance_ok 68 (122, .invokestatic 247, 3) rfl) (fun r9 μ8 hn => ?_)
        clear h
        have h := hn
        clear hn
        refine zx_lstore (pc := 125) (lv' := [(15, .long (r9)), (13, .long ((((μ4.1 8 (μ4.1 17 r5.toNatClampNeg).toNatClampNeg) + (μ4.1 9 (μ4.1 17 r5.toNatClampNeg).toNatClampNeg)).toInt64) * (μ4.2 0 29))), (11, .long (((μ4.1 9 (μ4.1 17 r5.toNatClampNeg).toNatClampNeg).toInt64) * (μ4.2 0 30))), (10, .int (μ4.1 17 r5.toNatClampNeg)), (0, .ref (0)), (1, .int (v1)), (2, .int (v2)), (3, .int (v3)), (4, .int (v4)), (5, .long (v5)), (7, .long (v7)), (9, .int (v9))]) G (Nat.le_of_ble_eq_true rfl) rfl (z_dec T_X12_chance_ok 69 (125, .lstore 15, 2) rfl) ?_
        refine zx_iload (pc := 127) G 8 rfl (z_dec T_X12_chance_ok 70 (127, .iload 4, 2) rfl) ?_
        refine zx_if_eq (pc := 129) (tgt := 152) G rfl (z_dec T_X12_chance_ok 71 (129, .ifCond .eq 23, 3) rfl) (fun hc => ?_) (fun hc => ?_)
        · replace h := z_pos hc h
          refine zx_iconst (pc := 152) (v := 0) G (z_dec T_X12_chance_ok 82 (152, .iconst 0, 1) rfl) rfl ?_
          refine zx_sub (lv' := [(0, .ref (0)), (1, .int (v1)), (2, .int (v2)), (3, .int (v3)), (4, .int (v4)), (5, .long (v5)), (7, .long (v7)), (9, .int (v9)), (11, .long (((μ4.1 9 (μ4.1 17 r5.toNatClampNeg).toNatClampNeg).toInt64) * (μ4.2 0 30))), (13, .long ((((μ4.1 8 (μ4.1 17 r5.toNatClampNeg).toNatClampNeg) + (μ4.1 9 (μ4.1 17 r5.toNatClampNeg).toNatClampNeg)).toInt64) * (μ4.2 0 29))), (15, .long (r9))]) [4, 5, 6, 7, 8, 9, 10, 11, 2, 1, 0] rfl ?_
          exact L_X12_chance_153_ok G hr hlk hP37 hI f_l0 f_l4 h
        · replace h := z_neg hc h
          refine zx_lload (pc := 132) G 2 rfl (z_dec T_X12_chance_ok 72 (132, .lload 11, 2) rfl) ?_
          refine zx_lload (pc := 134) G 0 rfl (z_dec T_X12_chance_ok 73 (134, .lload 15, 2) rfl) ?_
          obtain ⟨c10, h⟩ := h
          refine zx_ldiv (pc := 136) G c10 (z_dec T_X12_chance_ok 74 (136, .ldiv, 1) rfl) ?_
          refine zx_lload (pc := 137) G 1 rfl (z_dec T_X12_chance_ok 75 (137, .lload 13, 2) rfl) ?_
          refine zx_lload (pc := 139) G 0 rfl (z_dec T_X12_chance_ok 76 (139, .lload 15, 2) rfl) ?_
          refine zx_ldiv (pc := 141) G c10 (z_dec T_X12_chance_ok 77 (141, .ldiv, 1) rfl) ?_
          refine zx_lload (pc := 142) G 9 rfl (z_dec T_X12_chance_ok 78 (142, .lload 5, 2) rfl) ?_
          refine zx_lload (pc := 144) G 10 rfl (z_dec T_X12_chance_ok 79 (144, .lload 7, 2) rfl) ?_
          refine zx_callS_iN (pc := 146) (rm := rm_X12_compared) G cw_RX12_482 ⟨Nat.le_of_ble_eq_true rfl, Nat.le_of_ble_eq_true rfl⟩ rfl rfl ⟨Nat.zero_le _, Nat.zero_le _⟩ (fun sz => (met_X12_compared l D ρ kd q μ8 sz ((((μ4.1 9 (μ4.1 17 r5.toNatClampNeg).toNatClampNeg).toInt64) * (μ4.2 0 30)) / r9) (((((μ4.1 8 (μ4.1 17 r5.toNatClampNeg).toNatClampNeg) + (μ4.1 9 (μ4.1 17 r5.toNatClampNeg).toNatClampNeg)).toInt64) * (μ4.2 0 29)) / r9) v5 v7 _ hI h)) rfl rfl (Nat.le_of_ble_eq_true rfl) (z_dec T_X12_chance_ok 80 (146, .invokestatic 482, 3) rfl) (fun r12 μ11 hn => ?_)
          clear h
          have h := hn
          clear hn
          refine zx_goto (pc := 149) (tgt := 153) G rfl (z_dec T_X12_chance_ok 81 (149, .goto 4, 3) rfl) ?_
          refine zx_sub (lv' := [(0, .ref (0)), (1, .int (v1)), (2, .int (v2)), (3, .int (v3)), (4, .int (v4)), (5, .long (v5)), (7, .long (v7)), (9, .int (v9)), (11, .long (((μ4.1 9 (μ4.1 17 r5.toNatClampNeg).toNatClampNeg).toInt64) * (μ4.2 0 30))), (13, .long ((((μ4.1 8 (μ4.1 17 r5.toNatClampNeg).toNatClampNeg) + (μ4.1 9 (μ4.1 17 r5.toNatClampNeg).toNatClampNeg)).toInt64) * (μ4.2 0 29))), (15, .long (r9))]) [4, 5, 6, 7, 8, 9, 10, 11, 2, 1, 0] rfl ?_
          exact L_X12_chance_153_ok G hr hlk hP37 hI f_l0 f_l4 h
      · replace h := z_pos hc h
        refine zx_goto (pc := 56) (tgt := 198) G rfl (z_dec T_X12_chance_ok 30 (56, .goto 142, 3) rfl) ?_
        refine zx_iinc (pc := 198) (v := v9 + 1) (lv' := [(9, .int (v9 + 1)), (0, .ref (0)), (1, .int (v1)), (2, .int (v2)), (3, .int (v3)), (4, .int (v4)), (5, .long (v5)), (7, .long (v7))]) G 7 rfl (z_inc (by decide)) (Nat.le_of_ble_eq_true rfl) rfl (z_dec T_X12_chance_ok 105 (198, .iinc 9 1, 3) rfl) ?_
        refine zx_goto (pc := 201) (tgt := 37) G rfl (z_dec T_X12_chance_ok 106 (201, .goto (-164), 3) rfl) ?_
        refine zx_sub (lv' := [(0, .ref (0)), (1, .int (v1)), (2, .int (v2)), (3, .int (v3)), (4, .int (v4)), (5, .long (v5)), (7, .long (v7)), (9, .int (v9 + 1))]) [1, 2, 3, 4, 5, 6, 7, 0] rfl ?_
        exact hP37 _ _ _ _ _ _ _ _ h f_l0 f_l4
set_option maxRecDepth 100000 in
set_option maxHeartbeats 4000000 in
theorem L_X12_chance_37_ok {p : Program} {l : Launch} {e : Env} {s : State} {m : MethodId} {args : Array Value} {below : List Frame} {meth : Method} {c : Code} {D : va_G} {A : Nat → Prop} {ρ : z_A} {kd : z_K} {q : z_Q} {μ : z_M} {K : Int64 → z_M → Prop} {v1 : Int32} {v2 : Int32} {v3 : Int32} {v4 : Int32} {v5 : Int64} {v7 : Int64} {v9 : Int32} (G : z_G p c cX12_chance s m args RX12 18 D) (hr : meth.sig.returnType = (Option.some Jvm.ClassFile.FieldType.long)) (hlk : meth.locks = false) (hI : z_I kd q) (f_l0 : kd 0 = some (.inl 12)) (f_l4 : (v4 = 0 ∨ v4 = 1)) (h : L_X12_chance_37 K v1 v2 v3 v4 v5 v7 v9 μ) : z_X p l e rm_X12_chance s m args below meth c 18 D A (MQ below (z_Qn D A ρ kd (z_Kl q K)) args s 0 0 A) 0 0 ρ kd q μ 37 [(0, .ref (0)), (1, .int (v1)), (2, .int (v2)), (3, .int (v3)), (4, .int (v4)), (5, .long (v5)), (7, .long (v7)), (9, .int (v9))] [] :=
  h (fun (v1 : Int32) (v2 : Int32) (v3 : Int32) (v4 : Int32) (v5 : Int64) (v7 : Int64) (v9 : Int32) (μ : z_M) => (kd 0 = some (.inl 12)) → ((v4 = 0 ∨ v4 = 1)) → z_X p l e rm_X12_chance s m args below meth c 18 D A (MQ below (z_Qn D A ρ kd (z_Kl q K)) args s 0 0 A) 0 0 ρ kd q μ 37 [(0, .ref (0)), (1, .int (v1)), (2, .int (v2)), (3, .int (v3)), (4, .int (v4)), (5, .long (v5)), (7, .long (v7)), (9, .int (v9))] []) (fun v1 v2 v3 v4 v5 v7 v9 μ h f_l0 f_l4 => B_X12_chance_37_ok G hr hlk (fun _ _ _ _ _ _ _ _ h => h) hI f_l0 f_l4 h) f_l0 f_l4
set_option maxRecDepth 100000 in
set_option maxHeartbeats 4000000 in
theorem met_X12_chance (l : Launch) (D : va_G) (ρ : z_A) (kd : z_K) (q : z_Q) (μ : z_M) (sz : Nat) (a1 : Int32) (a2 : Int32) (a3 : Int32) (K : Int64 → z_M → Prop) (hI : z_I kd q) (h_o : kd 0 = some (.inl 12)) (h : C_X12_chance a1 a2 a3 μ K) : Met l yX12_chance (z_ws yX12_chance cX12_chance 18 (Option.some Jvm.ClassFile.FieldType.long)) rm_X12_chance (z_Pc D ρ kd q μ sz [.ref (0), .int (a1), .int (a2), .int (a3)]) (z_Qn D (z_Rg ρ sz) ρ kd (z_Kl q K)) 0 0 (z_Rg ρ sz) := by
  refine z_met (rm := rm_X12_chance) (by decide) (Nat.le_of_ble_eq_true rfl) (fun p e s m args below meth c G hr hlk => ?_)
  unfold C_X12_chance at h
  show z_X _ _ _ _ _ _ _ _ _ _ _ _ _ _ _ _ _ _ _ _ _ [(0, .ref (0)), (1, .int (a1)), (2, .int (a2)), (3, .int (a3))] _
  refine zx_aload_n (pc := 0) G (some (0)) 0 rfl rfl (z_dec T_X12_chance_ok 0 (0, .aload_n 0, 1) rfl) ?_
  refine zx_iload_n (pc := 1) G 1 rfl rfl (z_dec T_X12_chance_ok 1 (1, .iload_n 1, 1) rfl) ?_
  refine zx_iload_n (pc := 2) G 2 rfl rfl (z_dec T_X12_chance_ok 2 (2, .iload_n 2, 1) rfl) ?_
  refine zx_callV_zN (pc := 3) (rm := rm_X12_runs) G cw_RX12_183 ⟨Nat.le_of_ble_eq_true rfl, Nat.le_of_ble_eq_true rfl⟩ rfl rfl ⟨Nat.zero_le _, Nat.zero_le _⟩ h_o rfl (fun sz => (met_X12_runs l D ρ kd q μ sz a1 a2 _ hI h_o h)) rfl rfl (Nat.le_of_ble_eq_true rfl) (z_dec T_X12_chance_ok 3 (3, .invokevirtual 183, 3) rfl) (fun r2 μ1 hzr2 hn => ?_)
  clear h
  have h := hn
  clear hn
  refine zx_if_eq (pc := 6) (tgt := 21) G rfl (z_dec T_X12_chance_ok 4 (6, .ifCond .eq 15, 3) rfl) (fun hc => ?_) (fun hc => ?_)
  · replace h := z_pos hc h
    refine zx_ldc2 (pc := 21) G wk_RX12_186 (z_dec T_X12_chance_ok 11 (21, .ldc2_w 186, 3) rfl) ?_
    exact zx_lret (pc := 24) G hr hlk (Nat.le_refl _) (Nat.le_refl _) (z_dec T_X12_chance_ok 12 (24, .lreturn, 1) rfl) ⟨rfl, _, rfl, h⟩
  · replace h := z_neg hc h
    refine zx_iload_n (pc := 9) G 3 rfl rfl (z_dec T_X12_chance_ok 5 (9, .iload_n 3, 1) rfl) ?_
    refine zx_i2l (pc := 10) G  (z_dec T_X12_chance_ok 6 (10, .i2l, 1) rfl) ?_
    refine zx_lconst (pc := 11) (v := 0) G (z_dec T_X12_chance_ok 7 (11, .lconst 0, 1) rfl) rfl ?_
    refine zx_ldc2 (pc := 12) G wk_RX12_446 (z_dec T_X12_chance_ok 8 (12, .ldc2_w 446, 3) rfl) ?_
    refine zx_callS_zN (pc := 15) (rm := rm_X12_lies) G cw_RX12_140 ⟨Nat.le_of_ble_eq_true rfl, Nat.le_of_ble_eq_true rfl⟩ rfl rfl ⟨Nat.zero_le _, Nat.zero_le _⟩ (fun sz => (met_X12_lies l D ρ kd q μ1 sz a3.toInt64 ((0 : Int64)) ((3 : Int64)) _ hI h)) rfl rfl (Nat.le_of_ble_eq_true rfl) (z_dec T_X12_chance_ok 9 (15, .invokestatic 140, 3) rfl) (fun r4 μ3 hzr4 hn => ?_)
    clear h
    have h := hn
    clear hn
    refine zx_if_ne (pc := 18) (tgt := 25) G rfl (z_dec T_X12_chance_ok 10 (18, .ifCond .ne 7, 3) rfl) (fun hc => ?_) (fun hc => ?_)
    · replace h := z_neg hc h
      refine zx_iconst (pc := 25) (v := 0) G (z_dec T_X12_chance_ok 13 (25, .iconst 0, 1) rfl) rfl ?_
      refine zx_istore (pc := 26) (lv' := [(4, .int ((0 : Int32))), (0, .ref (0)), (1, .int (a1)), (2, .int (a2)), (3, .int (a3))]) G (Nat.le_of_ble_eq_true rfl) rfl (z_dec T_X12_chance_ok 14 (26, .istore 4, 2) rfl) ?_
      refine zx_lconst (pc := 28) (v := 0) G (z_dec T_X12_chance_ok 15 (28, .lconst 0, 1) rfl) rfl ?_
      refine zx_lstore (pc := 29) (lv' := [(5, .long ((0 : Int64))), (4, .int ((0 : Int32))), (0, .ref (0)), (1, .int (a1)), (2, .int (a2)), (3, .int (a3))]) G (Nat.le_of_ble_eq_true rfl) rfl (z_dec T_X12_chance_ok 16 (29, .lstore 5, 2) rfl) ?_
      refine zx_lconst (pc := 31) (v := 1) G (z_dec T_X12_chance_ok 17 (31, .lconst 1, 1) rfl) rfl ?_
      refine zx_lstore (pc := 32) (lv' := [(7, .long ((1 : Int64))), (5, .long ((0 : Int64))), (4, .int ((0 : Int32))), (0, .ref (0)), (1, .int (a1)), (2, .int (a2)), (3, .int (a3))]) G (Nat.le_of_ble_eq_true rfl) rfl (z_dec T_X12_chance_ok 18 (32, .lstore 7, 2) rfl) ?_
      refine zx_iconst (pc := 34) (v := 0) G (z_dec T_X12_chance_ok 19 (34, .iconst 0, 1) rfl) rfl ?_
      refine zx_istore (pc := 35) (lv' := [(9, .int ((0 : Int32))), (7, .long ((1 : Int64))), (5, .long ((0 : Int64))), (4, .int ((0 : Int32))), (0, .ref (0)), (1, .int (a1)), (2, .int (a2)), (3, .int (a3))]) G (Nat.le_of_ble_eq_true rfl) rfl (z_dec T_X12_chance_ok 20 (35, .istore 9, 2) rfl) ?_
      refine zx_sub (lv' := [(0, .ref (0)), (1, .int (a1)), (2, .int (a2)), (3, .int (a3)), (4, .int ((0 : Int32))), (5, .long ((0 : Int64))), (7, .long ((1 : Int64))), (9, .int ((0 : Int32)))]) [4, 5, 6, 7, 3, 2, 1, 0] rfl ?_
      exact L_X12_chance_37_ok G hr hlk hI h_o (Or.inl rfl) h
    · replace h := z_pos hc h
      refine zx_ldc2 (pc := 21) G wk_RX12_186 (z_dec T_X12_chance_ok 11 (21, .ldc2_w 186, 3) rfl) ?_
      exact zx_lret (pc := 24) G hr hlk (Nat.le_refl _) (Nat.le_refl _) (z_dec T_X12_chance_ok 12 (24, .lreturn, 1) rfl) ⟨rfl, _, rfl, h⟩
abbrev rm_X12_numberAt : Room := { frames := 0, cells := 0, slots := 0, locals := 0 }
set_option maxRecDepth 100000 in
set_option maxHeartbeats 4000000 in
theorem B_X12_numberAt_4_ok {p : Program} {l : Launch} {e : Env} {s : State} {m : MethodId} {args : Array Value} {below : List Frame} {meth : Method} {c : Code} {D : va_G} {A : Nat → Prop} {ρ : z_A} {kd : z_K} {q : z_Q} {μ : z_M} {K : Int32 → z_M → Prop} {P4 : Int32 → Int32 → Int32 → z_M → Prop} {v1 : Int32} {v2 : Int32} {v3 : Int32} (G : z_G p c cX12_numberAt s m args RX12 4 D) (hr : meth.sig.returnType = (Option.some Jvm.ClassFile.FieldType.int)) (hlk : meth.locks = false) (hP4 : ∀ (v1 : Int32) (v2 : Int32) (v3 : Int32) (μ : z_M), P4 v1 v2 v3 μ → (kd 0 = some (.inl 12)) → z_X p l e rm_X12_numberAt s m args below meth c 4 D A (MQ below (z_Qn D A ρ kd (z_Ki q K)) args s 0 0 A) 0 0 ρ kd q μ 4 [(0, .ref (0)), (1, .int (v1)), (2, .int (v2)), (3, .int (v3))] []) (hI : z_I kd q) (f_l0 : kd 0 = some (.inl 12)) (h : B_X12_numberAt_4 K P4 v1 v2 v3 μ) : z_X p l e rm_X12_numberAt s m args below meth c 4 D A (MQ below (z_Qn D A ρ kd (z_Ki q K)) args s 0 0 A) 0 0 ρ kd q μ 4 [(0, .ref (0)), (1, .int (v1)), (2, .int (v2)), (3, .int (v3))] [] := by
    unfold B_X12_numberAt_4 at h
    refine zx_iload_n (pc := 4) G 3 rfl rfl (z_dec T_X12_numberAt_ok 4 (4, .iload_n 3, 1) rfl) ?_
    refine zx_iconst (pc := 5) (v := 4) G (z_dec T_X12_numberAt_ok 5 (5, .iconst 4, 1) rfl) rfl ?_
    refine zx_icmp_ge (pc := 6) (tgt := 35) G rfl (z_dec T_X12_numberAt_ok 6 (6, .if_icmp .ge 29, 3) rfl) (fun hc => ?_) (fun hc => ?_)
    · replace h := z_pos hc h
      refine zx_iload_n (pc := 35) G 2 rfl rfl (z_dec T_X12_numberAt_ok 24 (35, .iload_n 2, 1) rfl) ?_
      exact zx_iret (pc := 36) G hr hlk (Nat.le_refl _) (Nat.le_refl _) (z_dec T_X12_numberAt_ok 25 (36, .ireturn, 1) rfl) ⟨rfl, _, rfl, h⟩
    · replace h := z_neg hc h
      refine zx_iload_n (pc := 9) G 2 rfl rfl (z_dec T_X12_numberAt_ok 7 (9, .iload_n 2, 1) rfl) ?_
      refine zx_bipush (pc := 10) (v := 8) G (z_dec T_X12_numberAt_ok 8 (10, .bipush 8, 2) rfl) rfl ?_
      refine zx_ishl (pc := 12) G  (z_dec T_X12_numberAt_ok 9 (12, .ishl, 1) rfl) ?_
      refine zx_aload_n (pc := 13) G (some (0)) 0 rfl rfl (z_dec T_X12_numberAt_ok 10 (13, .aload_n 0, 1) rfl) ?_
      refine zx_getF (pc := 14) (b := 1) G gf_RX12_7 rfl f_l0 (zq_12_0 hI f_l0) (z_dec T_X12_numberAt_ok 11 (14, .getfield 7, 3) rfl) ?_
      refine zx_iconst (pc := 17) (v := 4) G (z_dec T_X12_numberAt_ok 12 (17, .iconst 4, 1) rfl) rfl ?_
      refine zx_iload_n (pc := 18) G 1 rfl rfl (z_dec T_X12_numberAt_ok 13 (18, .iload_n 1, 1) rfl) ?_
      refine zx_imul (pc := 19) G  (z_dec T_X12_numberAt_ok 14 (19, .imul, 1) rfl) ?_
      refine zx_iload_n (pc := 20) G 3 rfl rfl (z_dec T_X12_numberAt_ok 15 (20, .iload_n 3, 1) rfl) ?_
      refine zx_iadd (pc := 21) G  (z_dec T_X12_numberAt_ok 16 (21, .iadd, 1) rfl) ?_
      obtain ⟨c1, h⟩ := h
      refine zx_bald (pc := 22) G (zk_12_0 hI f_l0) c1 (z_dec T_X12_numberAt_ok 17 (22, .baload, 1) rfl) ?_
      refine zx_sipush (pc := 23) (v := 255) G (z_dec T_X12_numberAt_ok 18 (23, .sipush 255, 3) rfl) rfl ?_
      refine zx_iand (pc := 26) G  (z_dec T_X12_numberAt_ok 19 (26, .iand, 1) rfl) ?_
      refine zx_ior (pc := 27) G  (z_dec T_X12_numberAt_ok 20 (27, .ior, 1) rfl) ?_
      refine zx_istore_n (pc := 28) (lv' := [(2, .int ((v2 <<< (((8 : Int32)) &&& 31)) ||| ((μ.1 1 ((((4 : Int32)) * v1) + v3).toNatClampNeg) &&& ((255 : Int32))))), (0, .ref (0)), (1, .int (v1)), (3, .int (v3))]) G rfl (Nat.le_of_ble_eq_true rfl) rfl (z_dec T_X12_numberAt_ok 21 (28, .istore_n 2, 1) rfl) ?_
      refine zx_iinc (pc := 29) (v := v3 + 1) (lv' := [(3, .int (v3 + 1)), (2, .int ((v2 <<< (((8 : Int32)) &&& 31)) ||| ((μ.1 1 ((((4 : Int32)) * v1) + v3).toNatClampNeg) &&& ((255 : Int32))))), (0, .ref (0)), (1, .int (v1))]) G 3 rfl (z_inc (by decide)) (Nat.le_of_ble_eq_true rfl) rfl (z_dec T_X12_numberAt_ok 22 (29, .iinc 3 1, 3) rfl) ?_
      refine zx_goto (pc := 32) (tgt := 4) G rfl (z_dec T_X12_numberAt_ok 23 (32, .goto (-28), 3) rfl) ?_
      refine zx_sub (lv' := [(0, .ref (0)), (1, .int (v1)), (2, .int ((v2 <<< (((8 : Int32)) &&& 31)) ||| ((μ.1 1 ((((4 : Int32)) * v1) + v3).toNatClampNeg) &&& ((255 : Int32))))), (3, .int (v3 + 1))]) [2, 3, 1, 0] rfl ?_
      exact hP4 _ _ _ _ h f_l0
set_option maxRecDepth 100000 in
set_option maxHeartbeats 4000000 in
theorem L_X12_numberAt_4_ok {p : Program} {l : Launch} {e : Env} {s : State} {m : MethodId} {args : Array Value} {below : List Frame} {meth : Method} {c : Code} {D : va_G} {A : Nat → Prop} {ρ : z_A} {kd : z_K} {q : z_Q} {μ : z_M} {K : Int32 → z_M → Prop} {v1 : Int32} {v2 : Int32} {v3 : Int32} (G : z_G p c cX12_numberAt s m args RX12 4 D) (hr : meth.sig.returnType = (Option.some Jvm.ClassFile.FieldType.int)) (hlk : meth.locks = false) (hI : z_I kd q) (f_l0 : kd 0 = some (.inl 12)) (h : L_X12_numberAt_4 K v1 v2 v3 μ) : z_X p l e rm_X12_numberAt s m args below meth c 4 D A (MQ below (z_Qn D A ρ kd (z_Ki q K)) args s 0 0 A) 0 0 ρ kd q μ 4 [(0, .ref (0)), (1, .int (v1)), (2, .int (v2)), (3, .int (v3))] [] :=
  h (fun (v1 : Int32) (v2 : Int32) (v3 : Int32) (μ : z_M) => (kd 0 = some (.inl 12)) → z_X p l e rm_X12_numberAt s m args below meth c 4 D A (MQ below (z_Qn D A ρ kd (z_Ki q K)) args s 0 0 A) 0 0 ρ kd q μ 4 [(0, .ref (0)), (1, .int (v1)), (2, .int (v2)), (3, .int (v3))] []) (fun v1 v2 v3 μ h f_l0 => B_X12_numberAt_4_ok G hr hlk (fun _ _ _ _ h => h) hI f_l0 h) f_l0
set_option maxRecDepth 100000 in
set_option maxHeartbeats 4000000 in
theorem met_X12_numberAt (l : Launch) (D : va_G) (ρ : z_A) (kd : z_K) (q : z_Q) (μ : z_M) (sz : Nat) (a1 : Int32) (K : Int32 → z_M → Prop) (hI : z_I kd q) (h_o : kd 0 = some (.inl 12)) (h : C_X12_numberAt a1 μ K) : Met l yX12_numberAt (z_ws yX12_numberAt cX12_numberAt 4 (Option.some Jvm.ClassFile.FieldType.int)) rm_X12_numberAt (z_Pc D ρ kd q μ sz [.ref (0), .int (a1)]) (z_Qn D (z_Rg ρ sz) ρ kd (z_Ki q K)) 0 0 (z_Rg ρ sz) := by
  refine z_met (rm := rm_X12_numberAt) (by decide) (Nat.le_of_ble_eq_true rfl) (fun p e s m args below meth c G hr hlk => ?_)
  unfold C_X12_numberAt at h
  show z_X _ _ _ _ _ _ _ _ _ _ _ _ _ _ _ _ _ _ _ _ _ [(0, .ref (0)), (1, .int (a1))] _
  refine zx_iconst (pc := 0) (v := 0) G (z_dec T_X12_numberAt_ok 0 (0, .iconst 0, 1) rfl) rfl ?_
  refine zx_istore_n (pc := 1) (lv' := [(2, .int ((0 : Int32))), (0, .ref (0)), (1, .int (a1))]) G rfl (Nat.le_of_ble_eq_true rfl) rfl (z_dec T_X12_numberAt_ok 1 (1, .istore_n 2, 1) rfl) ?_
  refine zx_iconst (pc := 2) (v := 0) G (z_dec T_X12_numberAt_ok 2 (2, .iconst 0, 1) rfl) rfl ?_
  refine zx_istore_n (pc := 3) (lv' := [(3, .int ((0 : Int32))), (2, .int ((0 : Int32))), (0, .ref (0)), (1, .int (a1))]) G rfl (Nat.le_of_ble_eq_true rfl) rfl (z_dec T_X12_numberAt_ok 3 (3, .istore_n 3, 1) rfl) ?_
  refine zx_sub (lv' := [(0, .ref (0)), (1, .int (a1)), (2, .int ((0 : Int32))), (3, .int ((0 : Int32)))]) [2, 3, 1, 0] rfl ?_
  exact L_X12_numberAt_4_ok G hr hlk hI h_o h
abbrev rm_X12_check : Room := { frames := 5, cells := 0, slots := 0, locals := 118 }
set_option maxRecDepth 100000 in
set_option maxHeartbeats 4000000 in
theorem B_X12_check_36_ok {p : Program} {l : Launch} {e : Env} {s : State} {m : MethodId} {args : Array Value} {below : List Frame} {meth : Method} {c : Code} {D : va_G} {A : Nat → Prop} {ρ : z_A} {kd : z_K} {q : z_Q} {μ : z_M} {K : Int32 → z_M → Prop} {P36 : Int32 → Int32 → Int32 → Int32 → z_M → Prop} {v1 : Int32} {v2 : Int32} {v3 : Int32} {v4 : Int32} (G : z_G p c cX12_check s m args RX12 5 D) (hr : meth.sig.returnType = (Option.some Jvm.ClassFile.FieldType.int)) (hlk : meth.locks = false) (hP36 : ∀ (v1 : Int32) (v2 : Int32) (v3 : Int32) (v4 : Int32) (μ : z_M), P36 v1 v2 v3 v4 μ → (kd 0 = some (.inl 12)) → z_X p l e rm_X12_check s m args below meth c 5 D A (MQ below (z_Qn D A ρ kd (z_Ki q K)) args s 0 0 A) 0 0 ρ kd q μ 36 [(0, .ref (0)), (1, .int (v1)), (2, .int (v2)), (3, .int (v3)), (4, .int (v4))] []) (hI : z_I kd q) (f_l0 : kd 0 = some (.inl 12)) (h : B_X12_check_36 K P36 v1 v2 v3 v4 μ) : z_X p l e rm_X12_check s m args below meth c 5 D A (MQ below (z_Qn D A ρ kd (z_Ki q K)) args s 0 0 A) 0 0 ρ kd q μ 36 [(0, .ref (0)), (1, .int (v1)), (2, .int (v2)), (3, .int (v3)), (4, .int (v4))] [] := by
    unfold B_X12_check_36 at h
    refine zx_iload (pc := 36) G 4 rfl (z_dec T_X12_check_ok 21 (36, .iload 4, 2) rfl) ?_
    refine zx_aload_n (pc := 38) G (some (0)) 0 rfl rfl (z_dec T_X12_check_ok 22 (38, .aload_n 0, 1) rfl) ?_
    refine zx_getI (pc := 39) G gf_RX12_196 rfl f_l0 (z_dec T_X12_check_ok 23 (39, .getfield 196, 3) rfl) ?_
    refine zx_icmp_ge (pc := 42) (tgt := 127) G rfl (z_dec T_X12_check_ok 24 (42, .if_icmp .ge 85, 3) rfl) (fun hc => ?_) (fun hc => ?_)
    · replace h := z_pos hc h
      refine zx_iload_n (pc := 127) G 3 rfl rfl (z_dec T_X12_check_ok 75 (127, .iload_n 3, 1) rfl) ?_
      refine zx_iload_n (pc := 128) G 2 rfl rfl (z_dec T_X12_check_ok 76 (128, .iload_n 2, 1) rfl) ?_
      refine zx_icmp_ne (pc := 129) (tgt := 136) G rfl (z_dec T_X12_check_ok 77 (129, .if_icmp .ne 7, 3) rfl) (fun hc => ?_) (fun hc => ?_)
      · replace h := z_neg hc h
        refine zx_iconst (pc := 136) (v := 2) G (z_dec T_X12_check_ok 80 (136, .iconst 2, 1) rfl) rfl ?_
        refine zx_iload_n (pc := 137) G 3 rfl rfl (z_dec T_X12_check_ok 81 (137, .iload_n 3, 1) rfl) ?_
        refine zx_imul (pc := 138) G  (z_dec T_X12_check_ok 82 (138, .imul, 1) rfl) ?_
        exact zx_iret (pc := 139) G hr hlk (Nat.le_refl _) (Nat.le_refl _) (z_dec T_X12_check_ok 83 (139, .ireturn, 1) rfl) ⟨rfl, _, rfl, h⟩
      · replace h := z_pos hc h
        refine zx_iconst (pc := 132) (v := -1) G (z_dec T_X12_check_ok 78 (132, .iconst (-1), 1) rfl) rfl ?_
        refine zx_goto (pc := 133) (tgt := 139) G rfl (z_dec T_X12_check_ok 79 (133, .goto 6, 3) rfl) ?_
        exact zx_iret (pc := 139) G hr hlk (Nat.le_refl _) (Nat.le_refl _) (z_dec T_X12_check_ok 83 (139, .ireturn, 1) rfl) ⟨rfl, _, rfl, h⟩
    · replace h := z_neg hc h
      refine zx_aload_n (pc := 45) G (some (0)) 0 rfl rfl (z_dec T_X12_check_ok 25 (45, .aload_n 0, 1) rfl) ?_
      refine zx_getF (pc := 46) (b := 21) G gf_RX12_54 rfl f_l0 (zq_12_20 hI f_l0) (z_dec T_X12_check_ok 26 (46, .getfield 54, 3) rfl) ?_
      refine zx_iload (pc := 49) G 4 rfl (z_dec T_X12_check_ok 27 (49, .iload 4, 2) rfl) ?_
      obtain ⟨c1, h⟩ := h
      refine zx_iald (pc := 51) G (zk_12_20 hI f_l0) c1 (z_dec T_X12_check_ok 28 (51, .iaload, 1) rfl) ?_
      refine zx_iload_n (pc := 52) G 1 rfl rfl (z_dec T_X12_check_ok 29 (52, .iload_n 1, 1) rfl) ?_
      refine zx_icmp_ne (pc := 53) (tgt := 121) G rfl (z_dec T_X12_check_ok 30 (53, .if_icmp .ne 68, 3) rfl) (fun hc => ?_) (fun hc => ?_)
      · replace h := z_neg hc h
        refine zx_iinc (pc := 121) (v := v4 + 1) (lv' := [(4, .int (v4 + 1)), (0, .ref (0)), (1, .int (v1)), (2, .int (v2)), (3, .int (v3))]) G 4 rfl (z_inc (by decide)) (Nat.le_of_ble_eq_true rfl) rfl (z_dec T_X12_check_ok 73 (121, .iinc 4 1, 3) rfl) ?_
        refine zx_goto (pc := 124) (tgt := 36) G rfl (z_dec T_X12_check_ok 74 (124, .goto (-88), 3) rfl) ?_
        refine zx_sub (lv' := [(0, .ref (0)), (1, .int (v1)), (2, .int (v2)), (3, .int (v3)), (4, .int (v4 + 1))]) [1, 2, 3, 4, 0] rfl ?_
        exact hP36 _ _ _ _ _ h f_l0
      · replace h := z_pos hc h
        refine zx_aload_n (pc := 56) G (some (0)) 0 rfl rfl (z_dec T_X12_check_ok 31 (56, .aload_n 0, 1) rfl) ?_
        refine zx_getF (pc := 57) (b := 27) G gf_RX12_72 rfl f_l0 (zq_12_26 hI f_l0) (z_dec T_X12_check_ok 32 (57, .getfield 72, 3) rfl) ?_
        refine zx_iload (pc := 60) G 4 rfl (z_dec T_X12_check_ok 33 (60, .iload 4, 2) rfl) ?_
        refine zx_zald (pc := 62) G (zk_12_26 hI f_l0) c1 (z_dec T_X12_check_ok 34 (62, .baload, 1) rfl) ?_
        refine zx_if_ne (pc := 63) (tgt := 69) G rfl (z_dec T_X12_check_ok 35 (63, .ifCond .ne 6, 3) rfl) (fun hc => ?_) (fun hc => ?_)
        · replace h := z_neg hc h
          refine zx_iload_n (pc := 69) G 3 rfl rfl (z_dec T_X12_check_ok 37 (69, .iload_n 3, 1) rfl) ?_
          refine zx_iload_n (pc := 70) G 2 rfl rfl (z_dec T_X12_check_ok 38 (70, .iload_n 2, 1) rfl) ?_
          refine zx_icmp_ne (pc := 71) (tgt := 78) G rfl (z_dec T_X12_check_ok 39 (71, .if_icmp .ne 7, 3) rfl) (fun hc => ?_) (fun hc => ?_)
          · replace h := z_neg hc h
            refine zx_aload_n (pc := 78) G (some (0)) 0 rfl rfl (z_dec T_X12_check_ok 44 (78, .aload_n 0, 1) rfl) ?_
            refine zx_iconst (pc := 79) (v := 2) G (z_dec T_X12_check_ok 45 (79, .iconst 2, 1) rfl) rfl ?_
            refine zx_iload_n (pc := 80) G 3 rfl rfl (z_dec T_X12_check_ok 46 (80, .iload_n 3, 1) rfl) ?_
            refine zx_imul (pc := 81) G  (z_dec T_X12_check_ok 47 (81, .imul, 1) rfl) ?_
            refine zx_callV_iN (pc := 82) (rm := rm_X12_numberAt) G cw_RX12_488 ⟨Nat.le_of_ble_eq_true rfl, Nat.le_of_ble_eq_true rfl⟩ rfl rfl ⟨Nat.zero_le _, Nat.zero_le _⟩ f_l0 rfl (fun sz => (met_X12_numberAt l D ρ kd q μ sz (((2 : Int32)) * v3) _ hI f_l0 h)) rfl rfl (Nat.le_of_ble_eq_true rfl) (z_dec T_X12_check_ok 48 (82, .invokevirtual 488, 3) rfl) (fun r3 μ2 hn => ?_)
            clear h
            have h := hn
            clear hn
            refine zx_iload (pc := 85) G 4 rfl (z_dec T_X12_check_ok 49 (85, .iload 4, 2) rfl) ?_
            refine zx_icmp_eq (pc := 87) (tgt := 94) G rfl (z_dec T_X12_check_ok 50 (87, .if_icmp .eq 7, 3) rfl) (fun hc => ?_) (fun hc => ?_)
            · replace h := z_pos hc h
              refine zx_aload_n (pc := 94) G (some (0)) 0 rfl rfl (z_dec T_X12_check_ok 55 (94, .aload_n 0, 1) rfl) ?_
              refine zx_iconst (pc := 95) (v := 2) G (z_dec T_X12_check_ok 56 (95, .iconst 2, 1) rfl) rfl ?_
              refine zx_iload_n (pc := 96) G 3 rfl rfl (z_dec T_X12_check_ok 57 (96, .iload_n 3, 1) rfl) ?_
              refine zx_imul (pc := 97) G  (z_dec T_X12_check_ok 58 (97, .imul, 1) rfl) ?_
              refine zx_iconst (pc := 98) (v := 1) G (z_dec T_X12_check_ok 59 (98, .iconst 1, 1) rfl) rfl ?_
              refine zx_iadd (pc := 99) G  (z_dec T_X12_check_ok 60 (99, .iadd, 1) rfl) ?_
              refine zx_callV_iN (pc := 100) (rm := rm_X12_numberAt) G cw_RX12_488 ⟨Nat.le_of_ble_eq_true rfl, Nat.le_of_ble_eq_true rfl⟩ rfl rfl ⟨Nat.zero_le _, Nat.zero_le _⟩ f_l0 rfl (fun sz => (met_X12_numberAt l D ρ kd q μ2 sz ((((2 : Int32)) * v3) + ((1 : Int32))) _ hI f_l0 h)) rfl rfl (Nat.le_of_ble_eq_true rfl) (z_dec T_X12_check_ok 61 (100, .invokevirtual 488, 3) rfl) (fun r5 μ4 hn => ?_)
              clear h
              have h := hn
              clear hn
              refine zx_aload_n (pc := 103) G (some (0)) 0 rfl rfl (z_dec T_X12_check_ok 62 (103, .aload_n 0, 1) rfl) ?_
              refine zx_iload (pc := 104) G 4 rfl (z_dec T_X12_check_ok 63 (104, .iload 4, 2) rfl) ?_
              refine zx_callV_iN (pc := 106) (rm := rm_X12_backOf) G cw_RX12_423 ⟨Nat.le_of_ble_eq_true rfl, Nat.le_of_ble_eq_true rfl⟩ rfl rfl ⟨Nat.zero_le _, Nat.zero_le _⟩ f_l0 rfl (fun sz => (met_X12_backOf l D ρ kd q μ4 sz v4 _ hI f_l0 h)) rfl rfl (Nat.le_of_ble_eq_true rfl) (z_dec T_X12_check_ok 64 (106, .invokevirtual 423, 3) rfl) (fun r7 μ6 hn => ?_)
              clear h
              have h := hn
              clear hn
              refine zx_icmp_eq (pc := 109) (tgt := 118) G rfl (z_dec T_X12_check_ok 65 (109, .if_icmp .eq 9, 3) rfl) (fun hc => ?_) (fun hc => ?_)
              · replace h := z_pos hc h
                refine zx_iinc (pc := 118) (v := v3 + 1) (lv' := [(3, .int (v3 + 1)), (0, .ref (0)), (1, .int (v1)), (2, .int (v2)), (4, .int (v4))]) G 3 rfl (z_inc (by decide)) (Nat.le_of_ble_eq_true rfl) rfl (z_dec T_X12_check_ok 72 (118, .iinc 3 1, 3) rfl) ?_
                refine zx_iinc (pc := 121) (v := v4 + 1) (lv' := [(4, .int (v4 + 1)), (3, .int (v3 + 1)), (0, .ref (0)), (1, .int (v1)), (2, .int (v2))]) G 4 rfl (z_inc (by decide)) (Nat.le_of_ble_eq_true rfl) rfl (z_dec T_X12_check_ok 73 (121, .iinc 4 1, 3) rfl) ?_
                refine zx_goto (pc := 124) (tgt := 36) G rfl (z_dec T_X12_check_ok 74 (124, .goto (-88), 3) rfl) ?_
                refine zx_sub (lv' := [(0, .ref (0)), (1, .int (v1)), (2, .int (v2)), (3, .int (v3 + 1)), (4, .int (v4 + 1))]) [2, 3, 4, 1, 0] rfl ?_
                exact hP36 _ _ _ _ _ h f_l0
              · replace h := z_neg hc h
                refine zx_iconst (pc := 112) (v := 2) G (z_dec T_X12_check_ok 66 (112, .iconst 2, 1) rfl) rfl ?_
                refine zx_iload_n (pc := 113) G 3 rfl rfl (z_dec T_X12_check_ok 67 (113, .iload_n 3, 1) rfl) ?_
                refine zx_imul (pc := 114) G  (z_dec T_X12_check_ok 68 (114, .imul, 1) rfl) ?_
                refine zx_iconst (pc := 115) (v := 1) G (z_dec T_X12_check_ok 69 (115, .iconst 1, 1) rfl) rfl ?_
                refine zx_iadd (pc := 116) G  (z_dec T_X12_check_ok 70 (116, .iadd, 1) rfl) ?_
                exact zx_iret (pc := 117) G hr hlk (Nat.le_refl _) (Nat.le_refl _) (z_dec T_X12_check_ok 71 (117, .ireturn, 1) rfl) ⟨rfl, _, rfl, h⟩
            · replace h := z_neg hc h
              refine zx_iconst (pc := 90) (v := 2) G (z_dec T_X12_check_ok 51 (90, .iconst 2, 1) rfl) rfl ?_
              refine zx_iload_n (pc := 91) G 3 rfl rfl (z_dec T_X12_check_ok 52 (91, .iload_n 3, 1) rfl) ?_
              refine zx_imul (pc := 92) G  (z_dec T_X12_check_ok 53 (92, .imul, 1) rfl) ?_
              exact zx_iret (pc := 93) G hr hlk (Nat.le_refl _) (Nat.le_refl _) (z_dec T_X12_check_ok 54 (93, .ireturn, 1) rfl) ⟨rfl, _, rfl, h⟩
          · replace h := z_pos hc h
            refine zx_iconst (pc := 74) (v := 2) G (z_dec T_X12_check_ok 40 (74, .iconst 2, 1) rfl) rfl ?_
            refine zx_iload_n (pc := 75) G 2 rfl rfl (z_dec T_X12_check_ok 41 (75, .iload_n 2, 1) rfl) ?_
            refine zx_imul (pc := 76) G  (z_dec T_X12_check_ok 42 (76, .imul, 1) rfl) ?_
            exact zx_iret (pc := 77) G hr hlk (Nat.le_refl _) (Nat.le_refl _) (z_dec T_X12_check_ok 43 (77, .ireturn, 1) rfl) ⟨rfl, _, rfl, h⟩
        · replace h := z_pos hc h
          refine zx_goto (pc := 66) (tgt := 121) G rfl (z_dec T_X12_check_ok 36 (66, .goto 55, 3) rfl) ?_
          refine zx_iinc (pc := 121) (v := v4 + 1) (lv' := [(4, .int (v4 + 1)), (0, .ref (0)), (1, .int (v1)), (2, .int (v2)), (3, .int (v3))]) G 4 rfl (z_inc (by decide)) (Nat.le_of_ble_eq_true rfl) rfl (z_dec T_X12_check_ok 73 (121, .iinc 4 1, 3) rfl) ?_
          refine zx_goto (pc := 124) (tgt := 36) G rfl (z_dec T_X12_check_ok 74 (124, .goto (-88), 3) rfl) ?_
          refine zx_sub (lv' := [(0, .ref (0)), (1, .int (v1)), (2, .int (v2)), (3, .int (v3)), (4, .int (v4 + 1))]) [1, 2, 3, 4, 0] rfl ?_
          exact hP36 _ _ _ _ _ h f_l0
set_option maxRecDepth 100000 in
set_option maxHeartbeats 4000000 in
theorem L_X12_check_36_ok {p : Program} {l : Launch} {e : Env} {s : State} {m : MethodId} {args : Array Value} {below : List Frame} {meth : Method} {c : Code} {D : va_G} {A : Nat → Prop} {ρ : z_A} {kd : z_K} {q : z_Q} {μ : z_M} {K : Int32 → z_M → Prop} {v1 : Int32} {v2 : Int32} {v3 : Int32} {v4 : Int32} (G : z_G p c cX12_check s m args RX12 5 D) (hr : meth.sig.returnType = (Option.some Jvm.ClassFile.FieldType.int)) (hlk : meth.locks = false) (hI : z_I kd q) (f_l0 : kd 0 = some (.inl 12)) (h : L_X12_check_36 K v1 v2 v3 v4 μ) : z_X p l e rm_X12_check s m args below meth c 5 D A (MQ below (z_Qn D A ρ kd (z_Ki q K)) args s 0 0 A) 0 0 ρ kd q μ 36 [(0, .ref (0)), (1, .int (v1)), (2, .int (v2)), (3, .int (v3)), (4, .int (v4))] [] :=
  h (fun (v1 : Int32) (v2 : Int32) (v3 : Int32) (v4 : Int32) (μ : z_M) => (kd 0 = some (.inl 12)) → z_X p l e rm_X12_check s m args below meth c 5 D A (MQ below (z_Qn D A ρ kd (z_Ki q K)) args s 0 0 A) 0 0 ρ kd q μ 36 [(0, .ref (0)), (1, .int (v1)), (2, .int (v2)), (3, .int (v3)), (4, .int (v4))] []) (fun v1 v2 v3 v4 μ h f_l0 => B_X12_check_36_ok G hr hlk (fun _ _ _ _ _ h => h) hI f_l0 h) f_l0
set_option maxRecDepth 100000 in
set_option maxHeartbeats 4000000 in
theorem met_X12_check (l : Launch) (D : va_G) (ρ : z_A) (kd : z_K) (q : z_Q) (μ : z_M) (sz : Nat) (a1 : Int32) (a2 : Int32) (K : Int32 → z_M → Prop) (hI : z_I kd q) (h_o : kd 0 = some (.inl 12)) (h : C_X12_check a1 a2 μ K) : Met l yX12_check (z_ws yX12_check cX12_check 5 (Option.some Jvm.ClassFile.FieldType.int)) rm_X12_check (z_Pc D ρ kd q μ sz [.ref (0), .int (a1), .int (a2)]) (z_Qn D (z_Rg ρ sz) ρ kd (z_Ki q K)) 0 0 (z_Rg ρ sz) := by
  refine z_met (rm := rm_X12_check) (by decide) (Nat.le_of_ble_eq_true rfl) (fun p e s m args below meth c G hr hlk => ?_)
  unfold C_X12_check at h
  show z_X _ _ _ _ _ _ _ _ _ _ _ _ _ _ _ _ _ _ _ _ _ [(0, .ref (0)), (1, .int (a1)), (2, .int (a2))] _
  refine zx_aload_n (pc := 0) G (some (0)) 0 rfl rfl (z_dec T_X12_check_ok 0 (0, .aload_n 0, 1) rfl) ?_
  refine zx_iload_n (pc := 1) G 1 rfl rfl (z_dec T_X12_check_ok 1 (1, .iload_n 1, 1) rfl) ?_
  refine zx_callV_zN (pc := 2) (rm := rm_X12_isBook) G cw_RX12_180 ⟨Nat.le_of_ble_eq_true rfl, Nat.le_of_ble_eq_true rfl⟩ rfl rfl ⟨Nat.zero_le _, Nat.zero_le _⟩ h_o rfl (fun sz => (met_X12_isBook l D ρ kd q μ sz a1 _ hI h_o h)) rfl rfl (Nat.le_of_ble_eq_true rfl) (z_dec T_X12_check_ok 2 (2, .invokevirtual 180, 3) rfl) (fun r2 μ1 hzr2 hn => ?_)
  clear h
  have h := hn
  clear hn
  refine zx_if_eq (pc := 5) (tgt := 23) G rfl (z_dec T_X12_check_ok 3 (5, .ifCond .eq 18, 3) rfl) (fun hc => ?_) (fun hc => ?_)
  · replace h := z_pos hc h
    refine zx_bipush (pc := 23) (v := -2) G (z_dec T_X12_check_ok 12 (23, .bipush (-2), 2) rfl) rfl ?_
    exact zx_iret (pc := 25) G hr hlk (Nat.le_refl _) (Nat.le_refl _) (z_dec T_X12_check_ok 13 (25, .ireturn, 1) rfl) ⟨rfl, _, rfl, h⟩
  · replace h := z_neg hc h
    refine zx_iload_n (pc := 8) G 2 rfl rfl (z_dec T_X12_check_ok 4 (8, .iload_n 2, 1) rfl) ?_
    refine zx_if_lt (pc := 9) (tgt := 23) G rfl (z_dec T_X12_check_ok 5 (9, .ifCond .lt 14, 3) rfl) (fun hc => ?_) (fun hc => ?_)
    · replace h := z_pos hc h
      refine zx_bipush (pc := 23) (v := -2) G (z_dec T_X12_check_ok 12 (23, .bipush (-2), 2) rfl) rfl ?_
      exact zx_iret (pc := 25) G hr hlk (Nat.le_refl _) (Nat.le_refl _) (z_dec T_X12_check_ok 13 (25, .ireturn, 1) rfl) ⟨rfl, _, rfl, h⟩
    · replace h := z_neg hc h
      refine zx_iload_n (pc := 12) G 2 rfl rfl (z_dec T_X12_check_ok 6 (12, .iload_n 2, 1) rfl) ?_
      refine zx_aload_n (pc := 13) G (some (0)) 0 rfl rfl (z_dec T_X12_check_ok 7 (13, .aload_n 0, 1) rfl) ?_
      refine zx_getI (pc := 14) G gf_RX12_164 rfl h_o (z_dec T_X12_check_ok 8 (14, .getfield 164, 3) rfl) ?_
      refine zx_bipush (pc := 17) (v := 8) G (z_dec T_X12_check_ok 9 (17, .bipush 8, 2) rfl) rfl ?_
      refine zx_idiv (pc := 19) G (by decide) (z_dec T_X12_check_ok 10 (19, .idiv, 1) rfl) ?_
      refine zx_icmp_le (pc := 20) (tgt := 26) G rfl (z_dec T_X12_check_ok 11 (20, .if_icmp .le 6, 3) rfl) (fun hc => ?_) (fun hc => ?_)
      · replace h := z_pos hc h
        refine zx_aload_n (pc := 26) G (some (0)) 0 rfl rfl (z_dec T_X12_check_ok 14 (26, .aload_n 0, 1) rfl) ?_
        refine zx_iconst (pc := 27) (v := 0) G (z_dec T_X12_check_ok 15 (27, .iconst 0, 1) rfl) rfl ?_
        refine zx_putI (pc := 28) G gf_RX12_164 cf_12 rfl rfl h_o (z_dec T_X12_check_ok 16 (28, .putfield 164, 3) rfl) ?_
        refine zx_iconst (pc := 31) (v := 0) G (z_dec T_X12_check_ok 17 (31, .iconst 0, 1) rfl) rfl ?_
        refine zx_istore_n (pc := 32) (lv' := [(3, .int ((0 : Int32))), (0, .ref (0)), (1, .int (a1)), (2, .int (a2))]) G rfl (Nat.le_of_ble_eq_true rfl) rfl (z_dec T_X12_check_ok 18 (32, .istore_n 3, 1) rfl) ?_
        refine zx_iconst (pc := 33) (v := 0) G (z_dec T_X12_check_ok 19 (33, .iconst 0, 1) rfl) rfl ?_
        refine zx_istore (pc := 34) (lv' := [(4, .int ((0 : Int32))), (3, .int ((0 : Int32))), (0, .ref (0)), (1, .int (a1)), (2, .int (a2))]) G (Nat.le_of_ble_eq_true rfl) rfl (z_dec T_X12_check_ok 20 (34, .istore 4, 2) rfl) ?_
        refine zx_sub (lv' := [(0, .ref (0)), (1, .int (a1)), (2, .int (a2)), (3, .int ((0 : Int32))), (4, .int ((0 : Int32)))]) [2, 3, 4, 1, 0] rfl ?_
        exact L_X12_check_36_ok G hr hlk hI h_o h
      · replace h := z_neg hc h
        refine zx_bipush (pc := 23) (v := -2) G (z_dec T_X12_check_ok 12 (23, .bipush (-2), 2) rfl) rfl ?_
        exact zx_iret (pc := 25) G hr hlk (Nat.le_refl _) (Nat.le_refl _) (z_dec T_X12_check_ok 13 (25, .ireturn, 1) rfl) ⟨rfl, _, rfl, h⟩
abbrev rm_X12_count : Room := { frames := 2, cells := 0, slots := 0, locals := 46 }
set_option maxRecDepth 100000 in
set_option maxHeartbeats 4000000 in
theorem met_X12_count (l : Launch) (D : va_G) (ρ : z_A) (kd : z_K) (q : z_Q) (μ : z_M) (sz : Nat) (a1 : Int32) (K : Int32 → z_M → Prop) (hI : z_I kd q) (h_o : kd 0 = some (.inl 12)) (h : C_X12_count a1 μ K) : Met l yX12_count (z_ws yX12_count cX12_count 2 (Option.some Jvm.ClassFile.FieldType.int)) rm_X12_count (z_Pc D ρ kd q μ sz [.ref (0), .int (a1)]) (z_Qn D (z_Rg ρ sz) ρ kd (z_Ki q K)) 0 0 (z_Rg ρ sz) := by
  refine z_met (rm := rm_X12_count) (by decide) (Nat.le_of_ble_eq_true rfl) (fun p e s m args below meth c G hr hlk => ?_)
  unfold C_X12_count at h
  show z_X _ _ _ _ _ _ _ _ _ _ _ _ _ _ _ _ _ _ _ _ _ [(0, .ref (0)), (1, .int (a1))] _
  refine zx_aload_n (pc := 0) G (some (0)) 0 rfl rfl (z_dec T_X12_count_ok 0 (0, .aload_n 0, 1) rfl) ?_
  refine zx_iload_n (pc := 1) G 1 rfl rfl (z_dec T_X12_count_ok 1 (1, .iload_n 1, 1) rfl) ?_
  refine zx_bipush (pc := 2) (v := 10) G (z_dec T_X12_count_ok 2 (2, .bipush 10, 2) rfl) rfl ?_
  refine zx_isub (pc := 4) G  (z_dec T_X12_count_ok 3 (4, .isub, 1) rfl) ?_
  refine zx_callV_zN (pc := 5) (rm := rm_X12_isRace) G cw_RX12_147 ⟨Nat.le_of_ble_eq_true rfl, Nat.le_of_ble_eq_true rfl⟩ rfl rfl ⟨Nat.zero_le _, Nat.zero_le _⟩ h_o rfl (fun sz => (met_X12_isRace l D ρ kd q μ sz (a1 - ((10 : Int32))) _ hI h_o h)) rfl rfl (Nat.le_of_ble_eq_true rfl) (z_dec T_X12_count_ok 4 (5, .invokevirtual 147, 3) rfl) (fun r2 μ1 hzr2 hn => ?_)
  clear h
  have h := hn
  clear hn
  refine zx_if_eq (pc := 8) (tgt := 37) G rfl (z_dec T_X12_count_ok 5 (8, .ifCond .eq 29, 3) rfl) (fun hc => ?_) (fun hc => ?_)
  · replace h := z_pos hc h
    refine zx_aload_n (pc := 37) G (some (0)) 0 rfl rfl (z_dec T_X12_count_ok 26 (37, .aload_n 0, 1) rfl) ?_
    refine zx_iload_n (pc := 38) G 1 rfl rfl (z_dec T_X12_count_ok 27 (38, .iload_n 1, 1) rfl) ?_
    refine zx_bipush (pc := 39) (v := 20) G (z_dec T_X12_count_ok 28 (39, .bipush 20, 2) rfl) rfl ?_
    refine zx_isub (pc := 41) G  (z_dec T_X12_count_ok 29 (41, .isub, 1) rfl) ?_
    refine zx_callV_zN (pc := 42) (rm := rm_X12_isRace) G cw_RX12_147 ⟨Nat.le_of_ble_eq_true rfl, Nat.le_of_ble_eq_true rfl⟩ rfl rfl ⟨Nat.zero_le _, Nat.zero_le _⟩ h_o rfl (fun sz => (met_X12_isRace l D ρ kd q μ1 sz (a1 - ((20 : Int32))) _ hI h_o h)) rfl rfl (Nat.le_of_ble_eq_true rfl) (z_dec T_X12_count_ok 30 (42, .invokevirtual 147, 3) rfl) (fun r4 μ3 hzr4 hn => ?_)
    clear h
    have h := hn
    clear hn
    refine zx_if_eq (pc := 45) (tgt := 66) G rfl (z_dec T_X12_count_ok 31 (45, .ifCond .eq 21, 3) rfl) (fun hc => ?_) (fun hc => ?_)
    · replace h := z_pos hc h
      refine zx_aload_n (pc := 66) G (some (0)) 0 rfl rfl (z_dec T_X12_count_ok 43 (66, .aload_n 0, 1) rfl) ?_
      refine zx_iload_n (pc := 67) G 1 rfl rfl (z_dec T_X12_count_ok 44 (67, .iload_n 1, 1) rfl) ?_
      refine zx_bipush (pc := 68) (v := 30) G (z_dec T_X12_count_ok 45 (68, .bipush 30, 2) rfl) rfl ?_
      refine zx_isub (pc := 70) G  (z_dec T_X12_count_ok 46 (70, .isub, 1) rfl) ?_
      refine zx_callV_zN (pc := 71) (rm := rm_X12_isBook) G cw_RX12_180 ⟨Nat.le_of_ble_eq_true rfl, Nat.le_of_ble_eq_true rfl⟩ rfl rfl ⟨Nat.zero_le _, Nat.zero_le _⟩ h_o rfl (fun sz => (met_X12_isBook l D ρ kd q μ3 sz (a1 - ((30 : Int32))) _ hI h_o h)) rfl rfl (Nat.le_of_ble_eq_true rfl) (z_dec T_X12_count_ok 47 (71, .invokevirtual 180, 3) rfl) (fun r6 μ5 hzr6 hn => ?_)
      clear h
      have h := hn
      clear hn
      refine zx_if_eq (pc := 74) (tgt := 87) G rfl (z_dec T_X12_count_ok 48 (74, .ifCond .eq 13, 3) rfl) (fun hc => ?_) (fun hc => ?_)
      · replace h := z_pos hc h
        refine zx_iload_n (pc := 87) G 1 rfl rfl (z_dec T_X12_count_ok 56 (87, .iload_n 1, 1) rfl) ?_
        by_cases n7 : a1 = 0
        · replace h := z_pos n7 h
          refine zx_tableIn (pc := 88) (tgt := 128) (off := 40) G (by rw [n7]; decide) (by rw [n7]; decide) (by rw [n7]; rfl) rfl (z_dec T_X12_count_ok 57 (88, .tableswitch 70 0 5 #[40, 45, 50, 55, 60, 65], 40) rfl) ?_
          refine zx_aload_n (pc := 128) G (some (0)) 0 rfl rfl (z_dec T_X12_count_ok 58 (128, .aload_n 0, 1) rfl) ?_
          refine zx_getI (pc := 129) G gf_RX12_199 rfl h_o (z_dec T_X12_count_ok 59 (129, .getfield 199, 3) rfl) ?_
          exact zx_iret (pc := 132) G hr hlk (Nat.le_refl _) (Nat.le_refl _) (z_dec T_X12_count_ok 60 (132, .ireturn, 1) rfl) ⟨rfl, _, rfl, h⟩
        replace h := z_neg n7 h
        by_cases n8 : a1 = 1
        · replace h := z_pos n8 h
          refine zx_tableIn (pc := 88) (tgt := 133) (off := 45) G (by rw [n8]; decide) (by rw [n8]; decide) (by rw [n8]; rfl) rfl (z_dec T_X12_count_ok 57 (88, .tableswitch 70 0 5 #[40, 45, 50, 55, 60, 65], 40) rfl) ?_
          refine zx_aload_n (pc := 133) G (some (0)) 0 rfl rfl (z_dec T_X12_count_ok 61 (133, .aload_n 0, 1) rfl) ?_
          refine zx_getI (pc := 134) G gf_RX12_136 rfl h_o (z_dec T_X12_count_ok 62 (134, .getfield 136, 3) rfl) ?_
          exact zx_iret (pc := 137) G hr hlk (Nat.le_refl _) (Nat.le_refl _) (z_dec T_X12_count_ok 63 (137, .ireturn, 1) rfl) ⟨rfl, _, rfl, h⟩
        replace h := z_neg n8 h
        by_cases n9 : a1 = 2
        · replace h := z_pos n9 h
          refine zx_tableIn (pc := 88) (tgt := 138) (off := 50) G (by rw [n9]; decide) (by rw [n9]; decide) (by rw [n9]; rfl) rfl (z_dec T_X12_count_ok 57 (88, .tableswitch 70 0 5 #[40, 45, 50, 55, 60, 65], 40) rfl) ?_
          refine zx_aload_n (pc := 138) G (some (0)) 0 rfl rfl (z_dec T_X12_count_ok 64 (138, .aload_n 0, 1) rfl) ?_
          refine zx_getI (pc := 139) G gf_RX12_144 rfl h_o (z_dec T_X12_count_ok 65 (139, .getfield 144, 3) rfl) ?_
          exact zx_iret (pc := 142) G hr hlk (Nat.le_refl _) (Nat.le_refl _) (z_dec T_X12_count_ok 66 (142, .ireturn, 1) rfl) ⟨rfl, _, rfl, h⟩
        replace h := z_neg n9 h
        by_cases n10 : a1 = 3
        · replace h := z_pos n10 h
          refine zx_tableIn (pc := 88) (tgt := 143) (off := 55) G (by rw [n10]; decide) (by rw [n10]; decide) (by rw [n10]; rfl) rfl (z_dec T_X12_count_ok 57 (88, .tableswitch 70 0 5 #[40, 45, 50, 55, 60, 65], 40) rfl) ?_
          refine zx_aload_n (pc := 143) G (some (0)) 0 rfl rfl (z_dec T_X12_count_ok 67 (143, .aload_n 0, 1) rfl) ?_
          refine zx_getI (pc := 144) G gf_RX12_196 rfl h_o (z_dec T_X12_count_ok 68 (144, .getfield 196, 3) rfl) ?_
          exact zx_iret (pc := 147) G hr hlk (Nat.le_refl _) (Nat.le_refl _) (z_dec T_X12_count_ok 69 (147, .ireturn, 1) rfl) ⟨rfl, _, rfl, h⟩
        replace h := z_neg n10 h
        by_cases n11 : a1 = 4
        · replace h := z_pos n11 h
          refine zx_tableIn (pc := 88) (tgt := 148) (off := 60) G (by rw [n11]; decide) (by rw [n11]; decide) (by rw [n11]; rfl) rfl (z_dec T_X12_count_ok 57 (88, .tableswitch 70 0 5 #[40, 45, 50, 55, 60, 65], 40) rfl) ?_
          refine zx_aload_n (pc := 148) G (some (0)) 0 rfl rfl (z_dec T_X12_count_ok 70 (148, .aload_n 0, 1) rfl) ?_
          refine zx_getI (pc := 149) G gf_RX12_171 rfl h_o (z_dec T_X12_count_ok 71 (149, .getfield 171, 3) rfl) ?_
          exact zx_iret (pc := 152) G hr hlk (Nat.le_refl _) (Nat.le_refl _) (z_dec T_X12_count_ok 72 (152, .ireturn, 1) rfl) ⟨rfl, _, rfl, h⟩
        replace h := z_neg n11 h
        by_cases n12 : a1 = 5
        · replace h := z_pos n12 h
          refine zx_tableIn (pc := 88) (tgt := 153) (off := 65) G (by rw [n12]; decide) (by rw [n12]; decide) (by rw [n12]; rfl) rfl (z_dec T_X12_count_ok 57 (88, .tableswitch 70 0 5 #[40, 45, 50, 55, 60, 65], 40) rfl) ?_
          refine zx_aload_n (pc := 153) G (some (0)) 0 rfl rfl (z_dec T_X12_count_ok 73 (153, .aload_n 0, 1) rfl) ?_
          refine zx_getI (pc := 154) G gf_RX12_164 rfl h_o (z_dec T_X12_count_ok 74 (154, .getfield 164, 3) rfl) ?_
          exact zx_iret (pc := 157) G hr hlk (Nat.le_refl _) (Nat.le_refl _) (z_dec T_X12_count_ok 75 (157, .ireturn, 1) rfl) ⟨rfl, _, rfl, h⟩
        replace h := z_neg n12 h
        -- default
        by_cases hr1 : a1.toInt < 0 ∨ 5 < a1.toInt
        · refine zx_tableOut (pc := 88) (tgt := 158) G hr1 rfl (z_dec T_X12_count_ok 57 (88, .tableswitch 70 0 5 #[40, 45, 50, 55, 60, 65], 40) rfl) ?_
          refine zx_iconst (pc := 158) (v := -1) G (z_dec T_X12_count_ok 76 (158, .iconst (-1), 1) rfl) rfl ?_
          exact zx_iret (pc := 159) G hr hlk (Nat.le_refl _) (Nat.le_refl _) (z_dec T_X12_count_ok 77 (159, .ireturn, 1) rfl) ⟨rfl, _, rfl, h⟩
        · exfalso
          have t1 : ¬ a1.toInt < 0 := fun q => hr1 (Or.inl q)
          have t2 : ¬ 5 < a1.toInt := fun q => hr1 (Or.inr q)
          have u0 : ¬ a1.toInt = 0 := lv_neT n7 rfl
          have u1 : ¬ a1.toInt = 1 := lv_neT n8 rfl
          have u2 : ¬ a1.toInt = 2 := lv_neT n9 rfl
          have u3 : ¬ a1.toInt = 3 := lv_neT n10 rfl
          have u4 : ¬ a1.toInt = 4 := lv_neT n11 rfl
          have u5 : ¬ a1.toInt = 5 := lv_neT n12 rfl
          omega
      · replace h := z_neg hc h
        refine zx_aload_n (pc := 77) G (some (0)) 0 rfl rfl (z_dec T_X12_count_ok 49 (77, .aload_n 0, 1) rfl) ?_
        refine zx_getF (pc := 78) (b := 32) G gf_RX12_81 rfl h_o (zq_12_31 hI h_o) (z_dec T_X12_count_ok 50 (78, .getfield 81, 3) rfl) ?_
        refine zx_iload_n (pc := 81) G 1 rfl rfl (z_dec T_X12_count_ok 51 (81, .iload_n 1, 1) rfl) ?_
        refine zx_bipush (pc := 82) (v := 30) G (z_dec T_X12_count_ok 52 (82, .bipush 30, 2) rfl) rfl ?_
        refine zx_isub (pc := 84) G  (z_dec T_X12_count_ok 53 (84, .isub, 1) rfl) ?_
        obtain ⟨c13, h⟩ := h
        refine zx_iald (pc := 85) G (zk_12_31 hI h_o) c13 (z_dec T_X12_count_ok 54 (85, .iaload, 1) rfl) ?_
        exact zx_iret (pc := 86) G hr hlk (Nat.le_refl _) (Nat.le_refl _) (z_dec T_X12_count_ok 55 (86, .ireturn, 1) rfl) ⟨rfl, _, rfl, h⟩
    · replace h := z_neg hc h
      refine zx_aload_n (pc := 48) G (some (0)) 0 rfl rfl (z_dec T_X12_count_ok 32 (48, .aload_n 0, 1) rfl) ?_
      refine zx_getF (pc := 49) (b := 12) G gf_RX12_26 rfl h_o (zq_12_11 hI h_o) (z_dec T_X12_count_ok 33 (49, .getfield 26, 3) rfl) ?_
      refine zx_iload_n (pc := 52) G 1 rfl rfl (z_dec T_X12_count_ok 34 (52, .iload_n 1, 1) rfl) ?_
      refine zx_bipush (pc := 53) (v := 20) G (z_dec T_X12_count_ok 35 (53, .bipush 20, 2) rfl) rfl ?_
      refine zx_isub (pc := 55) G  (z_dec T_X12_count_ok 36 (55, .isub, 1) rfl) ?_
      obtain ⟨c14, h⟩ := h
      refine zx_zald (pc := 56) G (zk_12_11 hI h_o) c14 (z_dec T_X12_count_ok 37 (56, .baload, 1) rfl) ?_
      refine zx_if_eq (pc := 57) (tgt := 64) G rfl (z_dec T_X12_count_ok 38 (57, .ifCond .eq 7, 3) rfl) (fun hc => ?_) (fun hc => ?_)
      · replace h := z_pos hc h
        refine zx_iconst (pc := 64) (v := 0) G (z_dec T_X12_count_ok 41 (64, .iconst 0, 1) rfl) rfl ?_
        exact zx_iret (pc := 65) G hr hlk (Nat.le_refl _) (Nat.le_refl _) (z_dec T_X12_count_ok 42 (65, .ireturn, 1) rfl) ⟨rfl, _, rfl, h⟩
      · replace h := z_neg hc h
        refine zx_iconst (pc := 60) (v := 1) G (z_dec T_X12_count_ok 39 (60, .iconst 1, 1) rfl) rfl ?_
        refine zx_goto (pc := 61) (tgt := 65) G rfl (z_dec T_X12_count_ok 40 (61, .goto 4, 3) rfl) ?_
        exact zx_iret (pc := 65) G hr hlk (Nat.le_refl _) (Nat.le_refl _) (z_dec T_X12_count_ok 42 (65, .ireturn, 1) rfl) ⟨rfl, _, rfl, h⟩
  · replace h := z_neg hc h
    refine zx_iconst (pc := 11) (v := 1) G (z_dec T_X12_count_ok 6 (11, .iconst 1, 1) rfl) rfl ?_
    refine zx_aload_n (pc := 12) G (some (0)) 0 rfl rfl (z_dec T_X12_count_ok 7 (12, .aload_n 0, 1) rfl) ?_
    refine zx_getF (pc := 13) (b := 10) G gf_RX12_20 rfl h_o (zq_12_9 hI h_o) (z_dec T_X12_count_ok 8 (13, .getfield 20, 3) rfl) ?_
    refine zx_iload_n (pc := 16) G 1 rfl rfl (z_dec T_X12_count_ok 9 (16, .iload_n 1, 1) rfl) ?_
    refine zx_bipush (pc := 17) (v := 10) G (z_dec T_X12_count_ok 10 (17, .bipush 10, 2) rfl) rfl ?_
    refine zx_isub (pc := 19) G  (z_dec T_X12_count_ok 11 (19, .isub, 1) rfl) ?_
    obtain ⟨c15, h⟩ := h
    refine zx_iald (pc := 20) G (zk_12_9 hI h_o) c15 (z_dec T_X12_count_ok 12 (20, .iaload, 1) rfl) ?_
    refine zx_ishl (pc := 21) G  (z_dec T_X12_count_ok 13 (21, .ishl, 1) rfl) ?_
    refine zx_iconst (pc := 22) (v := 1) G (z_dec T_X12_count_ok 14 (22, .iconst 1, 1) rfl) rfl ?_
    refine zx_isub (pc := 23) G  (z_dec T_X12_count_ok 15 (23, .isub, 1) rfl) ?_
    refine zx_aload_n (pc := 24) G (some (0)) 0 rfl rfl (z_dec T_X12_count_ok 16 (24, .aload_n 0, 1) rfl) ?_
    refine zx_getF (pc := 25) (b := 11) G gf_RX12_23 rfl h_o (zq_12_10 hI h_o) (z_dec T_X12_count_ok 17 (25, .getfield 23, 3) rfl) ?_
    refine zx_iload_n (pc := 28) G 1 rfl rfl (z_dec T_X12_count_ok 18 (28, .iload_n 1, 1) rfl) ?_
    refine zx_bipush (pc := 29) (v := 10) G (z_dec T_X12_count_ok 19 (29, .bipush 10, 2) rfl) rfl ?_
    refine zx_isub (pc := 31) G  (z_dec T_X12_count_ok 20 (31, .isub, 1) rfl) ?_
    refine zx_iald (pc := 32) G (zk_12_10 hI h_o) c15 (z_dec T_X12_count_ok 21 (32, .iaload, 1) rfl) ?_
    refine zx_iconst (pc := 33) (v := -1) G (z_dec T_X12_count_ok 22 (33, .iconst (-1), 1) rfl) rfl ?_
    refine zx_ixor (pc := 34) G  (z_dec T_X12_count_ok 23 (34, .ixor, 1) rfl) ?_
    refine zx_iand (pc := 35) G  (z_dec T_X12_count_ok 24 (35, .iand, 1) rfl) ?_
    exact zx_iret (pc := 36) G hr hlk (Nat.le_refl _) (Nat.le_refl _) (z_dec T_X12_count_ok 25 (36, .ireturn, 1) rfl) ⟨rfl, _, rfl, h⟩
