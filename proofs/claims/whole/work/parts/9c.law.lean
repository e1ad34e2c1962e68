/-! The law: its loop, its start, the claim. -/
def TL_law : List (Nat × Instr × Nat) := [(0, .new 7, 3), (3, .dup, 1), (4, .invokespecial 9, 3), (7, .astore_n 1, 1), (8, .new 10, 3), (11, .dup, 1), (12, .invokespecial 12, 3), (15, .astore_n 2, 1), (16, .iconst 0, 1), (17, .istore_n 3, 1), (18, .iload_n 3, 1), (19, .aload_n 0, 1), (20, .arraylength, 1), (21, .bipush 7, 2), (23, .isub, 1), (24, .if_icmp .gt 1284, 3), (27, .aload_n 0, 1), (28, .iload_n 3, 1), (29, .iaload, 1), (30, .bipush 31, 2), (32, .iand, 1), (33, .tableswitch 1269 0 27 #[127, 150, 173, 196, 259, 282, 315, 368, 411, 486, 561, 594, 637, 680, 724, 757, 780, 813, 836, 869, 912, 965, 1040, 1093, 1136, 1169, 1213, 1246], 127), (1302, .iinc 3 7, 3), (1305, .goto (-1287), 3), (1308, .iconst 1, 1), (1309, .ireturn, 1)]
theorem TL_law_ok : (TL_law.all fun e => decide (decode code e.1 = .ok e.2)) = true := by decide +kernel
set_option maxHeartbeats 1000000 in
theorem law_loop {p : Program} {l : Launch} {e : Env} {s : State} {m : MethodId} {below : List Frame} {meth : Method} {c : Code} {D : va_G} {b L : Nat} {xs : Nat → Int32} (C0 : lw_At p s m meth c b L xs) (G : z_G p c code s m #[Value.ref b] R_law 4 D) (hL : L ≤ 3584) : ∀ (n k : Nat), k + n = 512 → ∀ (S : z_SS) (x1 x2 : Nat) (H : Heap) (locs : List Loc) (ls : Array Slot), Inv S → LwW s D S x1 x2 H locs → lv_has ls 4 [(0, .ref b), (1, .ref x1), (2, .ref x2), (3, .int (nI (7 * k)))] → W p l e room_1 s m #[Value.ref b] below meth c H locs (100 + 8 * k) (10000 + 295 * k) (lw_Z below #[Value.ref b] s) (F0 m 18 ls []) := by
  obtain ⟨hx, hb, hr, hml, hown, hts, hX, hbl, hlocks, hgv⟩ := id C0
  have hbA : ¬ (z_Af s) b := Nat.not_le.mpr hbl
  have head : ∀ (k : Nat), k ≤ 512 → ∀ (S : z_SS) (x1 x2 : Nat) (H : Heap) (locs : List Loc) (ls : Array Slot), LwW s D S x1 x2 H locs → lv_has ls 4 [(0, .ref b), (1, .ref x1), (2, .ref x2), (3, .int (nI (7 * k)))] → (7 * k + 7 ≤ L → W p l e room_1 s m #[Value.ref b] below meth c H locs (100 + 8 * k) (10000 + 295 * k) (lw_Z below #[Value.ref b] s) (F0 m 33 ls [.int (xs (7 * k) &&& nI 31)])) → W p l e room_1 s m #[Value.ref b] below meth c H locs (100 + 8 * k) (10000 + 295 * k) (lw_Z below #[Value.ref b] s) (F0 m 18 ls []) := by
    intro k hk S x1 x2 H locs ls hw hl go
    have hSv : va_S (z_Af s) s.heap H locs := by
      obtain ⟨ρ1, kd1, q1, μ1, ρ2, kd2, q2, μ2, _, _, _, _, _, hS, _⟩ := hw
      exact hS.1.2.2.2.1
    refine lv_iload_n hx hb (show decode code 18 = .ok (.iload_n 3, 1) from z_dec TL_law_ok 10 (18, .iload_n 3, 1) rfl) rfl (lv_at hl 3 rfl) (lv_aload_n hx hb (show decode code 19 = .ok (.aload_n 0, 1) from z_dec TL_law_ok 11 (19, .aload_n 0, 1) rfl) rfl (lv_at hl 0 rfl) (va_slen hx hb hX hbl hbA hSv (show decode code 20 = .ok (.arraylength, 1) from z_dec TL_law_ok 12 (20, .arraylength, 1) rfl) (lv_bipush (v := nI 7) hx hb (show decode code 21 = .ok (.bipush 7, 2) from z_dec TL_law_ok 13 (21, .bipush 7, 2) rfl) (by decide) (lv_isub hx hb (show decode code 23 = .ok (.isub, 1) from z_dec TL_law_ok 14 (23, .isub, 1) rfl) (lv_icmp_gt (tgt := 1308) hx hb (show decode code 24 = .ok (.if_icmp .gt 1284, 3) from z_dec TL_law_ok 15 (24, .if_icmp .gt 1284, 3) rfl) (by decide) (fun g => ?_) (fun g => ?_))))))
    · refine lv_iconst (v := 1) hx hb (show decode code 1308 = .ok (.iconst 1, 1) from z_dec TL_law_ok 24 (1308, .iconst 1, 1) rfl) (by decide) ?_
      refine va_forget (fun q hq => hSv.2.2 q hq) ?_
      refine W.widen (k := 600000) (n := 7302250) (by omega) (by omega) ?_
      exact lw_ret hx hb hr hlocks (show decode code 1309 = .ok (.ireturn, 1) from z_dec TL_law_ok 25 (1309, .ireturn, 1) rfl)
    · have hin : 7 * k + 7 ≤ L := by
        have e1 : Int32.ofNat L - nI 7 = iI ((L : Int) - 7) := by
          rw [show Int32.ofNat L = nI L from rfl, ← iI_nat, ← iI_nat, iI_sub]
          rfl
        rw [e1, ← iI_nat (7 * k), iI_lt (by omega) (by omega) (by omega) (by omega)] at g
        omega
      refine lv_aload_n hx hb (show decode code 27 = .ok (.aload_n 0, 1) from z_dec TL_law_ok 16 (27, .aload_n 0, 1) rfl) rfl (lv_at hl 0 rfl) (lv_iload_n hx hb (show decode code 28 = .ok (.iload_n 3, 1) from z_dec TL_law_ok 17 (28, .iload_n 3, 1) rfl) rfl (lv_at hl 3 rfl) (va_sld hx hb hX hbl hbA hSv (nI_vin (by omega) (by omega)) (show decode code 29 = .ok (.iaload, 1) from z_dec TL_law_ok 18 (29, .iaload, 1) rfl) ?_))
      rw [nI_clamp (by omega)]
      exact lv_bipush (v := nI 31) hx hb (show decode code 30 = .ok (.bipush 31, 2) from z_dec TL_law_ok 19 (30, .bipush 31, 2) rfl) (by decide) (lv_iand hx hb (show decode code 32 = .ok (.iand, 1) from z_dec TL_law_ok 20 (32, .iand, 1) rfl) (go hin))
  intro n
  induction n with
  | zero =>
    intro k hk S x1 x2 H locs ls hI hw hl
    exact head k (by omega) S x1 x2 H locs ls hw hl (fun g => absurd g (by omega))
  | succ n ih =>
    intro k hk S x1 x2 H locs ls hI hw hl
    refine head k (by omega) S x1 x2 H locs ls hw hl (fun g => ?_)
    have next : ∀ S' H' locs', Inv S' → LwW s D S' x1 x2 H' locs' → W p l e room_1 s m #[Value.ref b] below meth c H' locs' (100 + 8 * k + 8) (10000 + 295 * k + 295) (lw_Z below #[Value.ref b] s) (F0 m 1302 ls []) := by
      intro S' H' locs' hI' hw'
      refine lv_iinc (v := nI (7 * (k + 1))) (lv' := [(3, .int (nI (7 * (k + 1)))), (0, .ref b), (1, .ref x1), (2, .ref x2)]) hx hb (show decode code 1302 = .ok (.iinc 3 7, 3) from z_dec TL_law_ok 22 (1302, .iinc 3 7, 3) rfl) hl (k := 3) rfl ?_ (by decide) rfl (fun ls' hl' => lv_goto (tgt := 18) hx hb (show decode code 1305 = .ok (.goto (-1287), 3) from z_dec TL_law_ok 23 (1305, .goto (-1287), 3) rfl) (by decide) ?_)
      · rw [show Int32.ofInt 7 = nI 7 from rfl, nI_add]
        rfl
      · rw [show 100 + 8 * k + 8 = 100 + 8 * (k + 1) by omega, show 10000 + 295 * k + 295 = 10000 + 295 * (k + 1) by omega]
        exact ih (k + 1) (by omega) S' x1 x2 H' locs' ls' hI' hw' (lv_sub hl' [1, 2, 3, 0] rfl)
    generalize hv : xs (7 * k) &&& nI 31 = v
    by_cases hj : ∃ j, j < 28 ∧ v = nI j
    · obtain ⟨j, hj, ev⟩ := hj
      rcases (show j = 0 ∨ j = 1 ∨ j = 2 ∨ j = 3 ∨ j = 4 ∨ j = 5 ∨ j = 6 ∨ j = 7 ∨ j = 8 ∨ j = 9 ∨ j = 10 ∨ j = 11 ∨ j = 12 ∨ j = 13 ∨ j = 14 ∨ j = 15 ∨ j = 16 ∨ j = 17 ∨ j = 18 ∨ j = 19 ∨ j = 20 ∨ j = 21 ∨ j = 22 ∨ j = 23 ∨ j = 24 ∨ j = 25 ∨ j = 26 ∨ j = 27 by omega) with ej | ej | ej | ej | ej | ej | ej | ej | ej | ej | ej | ej | ej | ej | ej | ej | ej | ej | ej | ej | ej | ej | ej | ej | ej | ej | ej | ej <;> subst ej <;> subst ev
      · exact lv_tableIn (off := 127) (tgt := 160) hx hb (show decode code 33 = .ok (.tableswitch 1269 0 27 #[127, 150, 173, 196, 259, 282, 315, 368, 411, 486, 561, 594, 637, 680, 724, 757, 780, 813, 836, 869, 912, 965, 1040, 1093, 1136, 1169, 1213, 1246], 127) from z_dec TL_law_ok 21 (33, .tableswitch 1269 0 27 #[127, 150, 173, 196, 259, 282, 315, 368, 411, 486, 561, 594, 637, 680, 724, 757, 780, 813, 836, 869, 912, 965, 1040, 1093, 1136, 1169, 1213, 1246], 127) rfl) (by decide) (by decide) (by decide) (by decide) (lw_case_now C0 G hL g hl (by omega) (by omega) hI hw next)
      · exact lv_tableIn (off := 150) (tgt := 183) hx hb (show decode code 33 = .ok (.tableswitch 1269 0 27 #[127, 150, 173, 196, 259, 282, 315, 368, 411, 486, 561, 594, 637, 680, 724, 757, 780, 813, 836, 869, 912, 965, 1040, 1093, 1136, 1169, 1213, 1246], 127) from z_dec TL_law_ok 21 (33, .tableswitch 1269 0 27 #[127, 150, 173, 196, 259, 282, 315, 368, 411, 486, 561, 594, 637, 680, 724, 757, 780, 813, 836, 869, 912, 965, 1040, 1093, 1136, 1169, 1213, 1246], 127) rfl) (by decide) (by decide) (by decide) (by decide) (lw_case_race C0 G hL g hl (by omega) (by omega) hI hw next)
      · exact lv_tableIn (off := 173) (tgt := 206) hx hb (show decode code 33 = .ok (.tableswitch 1269 0 27 #[127, 150, 173, 196, 259, 282, 315, 368, 411, 486, 561, 594, 637, 680, 724, 757, 780, 813, 836, 869, 912, 965, 1040, 1093, 1136, 1169, 1213, 1246], 127) from z_dec TL_law_ok 21 (33, .tableswitch 1269 0 27 #[127, 150, 173, 196, 259, 282, 315, 368, 411, 486, 561, 594, 637, 680, 724, 757, 780, 813, 836, 869, 912, 965, 1040, 1093, 1136, 1169, 1213, 1246], 127) rfl) (by decide) (by decide) (by decide) (by decide) (lw_case_book C0 G hL g hl (by omega) (by omega) hI hw next)
      · exact lv_tableIn (off := 196) (tgt := 229) hx hb (show decode code 33 = .ok (.tableswitch 1269 0 27 #[127, 150, 173, 196, 259, 282, 315, 368, 411, 486, 561, 594, 637, 680, 724, 757, 780, 813, 836, 869, 912, 965, 1040, 1093, 1136, 1169, 1213, 1246], 127) from z_dec TL_law_ok 21 (33, .tableswitch 1269 0 27 #[127, 150, 173, 196, 259, 282, 315, 368, 411, 486, 561, 594, 637, 680, 724, 757, 780, 813, 836, 869, 912, 965, 1040, 1093, 1136, 1169, 1213, 1246], 127) rfl) (by decide) (by decide) (by decide) (by decide) (lw_case_feed C0 G hL g hl (by omega) (by omega) hI hw next)
      · exact lv_tableIn (off := 259) (tgt := 292) hx hb (show decode code 33 = .ok (.tableswitch 1269 0 27 #[127, 150, 173, 196, 259, 282, 315, 368, 411, 486, 561, 594, 637, 680, 724, 757, 780, 813, 836, 869, 912, 965, 1040, 1093, 1136, 1169, 1213, 1246], 127) from z_dec TL_law_ok 21 (33, .tableswitch 1269 0 27 #[127, 150, 173, 196, 259, 282, 315, 368, 411, 486, 561, 594, 637, 680, 724, 757, 780, 813, 836, 869, 912, 965, 1040, 1093, 1136, 1169, 1213, 1246], 127) rfl) (by decide) (by decide) (by decide) (by decide) (lw_case_ladder C0 G hL g hl (by omega) (by omega) hI hw next)
      · exact lv_tableIn (off := 282) (tgt := 315) hx hb (show decode code 33 = .ok (.tableswitch 1269 0 27 #[127, 150, 173, 196, 259, 282, 315, 368, 411, 486, 561, 594, 637, 680, 724, 757, 780, 813, 836, 869, 912, 965, 1040, 1093, 1136, 1169, 1213, 1246], 127) from z_dec TL_law_ok 21 (33, .tableswitch 1269 0 27 #[127, 150, 173, 196, 259, 282, 315, 368, 411, 486, 561, 594, 637, 680, 724, 757, 780, 813, 836, 869, 912, 965, 1040, 1093, 1136, 1169, 1213, 1246], 127) rfl) (by decide) (by decide) (by decide) (by decide) (lw_case_way C0 G hL g hl (by omega) (by omega) hI hw next)
      · exact lv_tableIn (off := 315) (tgt := 348) hx hb (show decode code 33 = .ok (.tableswitch 1269 0 27 #[127, 150, 173, 196, 259, 282, 315, 368, 411, 486, 561, 594, 637, 680, 724, 757, 780, 813, 836, 869, 912, 965, 1040, 1093, 1136, 1169, 1213, 1246], 127) from z_dec TL_law_ok 21 (33, .tableswitch 1269 0 27 #[127, 150, 173, 196, 259, 282, 315, 368, 411, 486, 561, 594, 637, 680, 724, 757, 780, 813, 836, 869, 912, 965, 1040, 1093, 1136, 1169, 1213, 1246], 127) rfl) (by decide) (by decide) (by decide) (by decide) (lw_case_slate C0 G hL g hl (by omega) (by omega) hI hw next)
      · exact lv_tableIn (off := 368) (tgt := 401) hx hb (show decode code 33 = .ok (.tableswitch 1269 0 27 #[127, 150, 173, 196, 259, 282, 315, 368, 411, 486, 561, 594, 637, 680, 724, 757, 780, 813, 836, 869, 912, 965, 1040, 1093, 1136, 1169, 1213, 1246], 127) from z_dec TL_law_ok 21 (33, .tableswitch 1269 0 27 #[127, 150, 173, 196, 259, 282, 315, 368, 411, 486, 561, 594, 637, 680, 724, 757, 780, 813, 836, 869, 912, 965, 1040, 1093, 1136, 1169, 1213, 1246], 127) rfl) (by decide) (by decide) (by decide) (by decide) (lw_case_step C0 G hL g hl (by omega) (by omega) hI hw next)
      · exact lv_tableIn (off := 411) (tgt := 444) hx hb (show decode code 33 = .ok (.tableswitch 1269 0 27 #[127, 150, 173, 196, 259, 282, 315, 368, 411, 486, 561, 594, 637, 680, 724, 757, 780, 813, 836, 869, 912, 965, 1040, 1093, 1136, 1169, 1213, 1246], 127) from z_dec TL_law_ok 21 (33, .tableswitch 1269 0 27 #[127, 150, 173, 196, 259, 282, 315, 368, 411, 486, 561, 594, 637, 680, 724, 757, 780, 813, 836, 869, 912, 965, 1040, 1093, 1136, 1169, 1213, 1246], 127) rfl) (by decide) (by decide) (by decide) (by decide) (lw_case_bet C0 G hL g hl (by omega) (by omega) hI hw next)
      · exact lv_tableIn (off := 486) (tgt := 519) hx hb (show decode code 33 = .ok (.tableswitch 1269 0 27 #[127, 150, 173, 196, 259, 282, 315, 368, 411, 486, 561, 594, 637, 680, 724, 757, 780, 813, 836, 869, 912, 965, 1040, 1093, 1136, 1169, 1213, 1246], 127) from z_dec TL_law_ok 21 (33, .tableswitch 1269 0 27 #[127, 150, 173, 196, 259, 282, 315, 368, 411, 486, 561, 594, 637, 680, 724, 757, 780, 813, 836, 869, 912, 965, 1040, 1093, 1136, 1169, 1213, 1246], 127) rfl) (by decide) (by decide) (by decide) (by decide) (lw_case_joined C0 G hL g hl (by omega) (by omega) hI hw next)
      · exact lv_tableIn (off := 561) (tgt := 594) hx hb (show decode code 33 = .ok (.tableswitch 1269 0 27 #[127, 150, 173, 196, 259, 282, 315, 368, 411, 486, 561, 594, 637, 680, 724, 757, 780, 813, 836, 869, 912, 965, 1040, 1093, 1136, 1169, 1213, 1246], 127) from z_dec TL_law_ok 21 (33, .tableswitch 1269 0 27 #[127, 150, 173, 196, 259, 282, 315, 368, 411, 486, 561, 594, 637, 680, 724, 757, 780, 813, 836, 869, 912, 965, 1040, 1093, 1136, 1169, 1213, 1246], 127) rfl) (by decide) (by decide) (by decide) (by decide) (lw_case_scratch C0 G hL g hl (by omega) (by omega) hI hw next)
      · exact lv_tableIn (off := 594) (tgt := 627) hx hb (show decode code 33 = .ok (.tableswitch 1269 0 27 #[127, 150, 173, 196, 259, 282, 315, 368, 411, 486, 561, 594, 637, 680, 724, 757, 780, 813, 836, 869, 912, 965, 1040, 1093, 1136, 1169, 1213, 1246], 127) from z_dec TL_law_ok 21 (33, .tableswitch 1269 0 27 #[127, 150, 173, 196, 259, 282, 315, 368, 411, 486, 561, 594, 637, 680, 724, 757, 780, 813, 836, 869, 912, 965, 1040, 1093, 1136, 1169, 1213, 1246], 127) rfl) (by decide) (by decide) (by decide) (by decide) (lw_case_run C0 G hL g hl (by omega) (by omega) hI hw next)
      · exact lv_tableIn (off := 637) (tgt := 670) hx hb (show decode code 33 = .ok (.tableswitch 1269 0 27 #[127, 150, 173, 196, 259, 282, 315, 368, 411, 486, 561, 594, 637, 680, 724, 757, 780, 813, 836, 869, 912, 965, 1040, 1093, 1136, 1169, 1213, 1246], 127) from z_dec TL_law_ok 21 (33, .tableswitch 1269 0 27 #[127, 150, 173, 196, 259, 282, 315, 368, 411, 486, 561, 594, 637, 680, 724, 757, 780, 813, 836, 869, 912, 965, 1040, 1093, 1136, 1169, 1213, 1246], 127) rfl) (by decide) (by decide) (by decide) (by decide) (lw_case_balance C0 G hL g hl (by omega) (by omega) hI hw next)
      · exact lv_tableIn (off := 680) (tgt := 713) hx hb (show decode code 33 = .ok (.tableswitch 1269 0 27 #[127, 150, 173, 196, 259, 282, 315, 368, 411, 486, 561, 594, 637, 680, 724, 757, 780, 813, 836, 869, 912, 965, 1040, 1093, 1136, 1169, 1213, 1246], 127) from z_dec TL_law_ok 21 (33, .tableswitch 1269 0 27 #[127, 150, 173, 196, 259, 282, 315, 368, 411, 486, 561, 594, 637, 680, 724, 757, 780, 813, 836, 869, 912, 965, 1040, 1093, 1136, 1169, 1213, 1246], 127) rfl) (by decide) (by decide) (by decide) (by decide) (lw_case_round C0 G hL g hl (by omega) (by omega) hI hw next)
      · exact lv_tableIn (off := 724) (tgt := 757) hx hb (show decode code 33 = .ok (.tableswitch 1269 0 27 #[127, 150, 173, 196, 259, 282, 315, 368, 411, 486, 561, 594, 637, 680, 724, 757, 780, 813, 836, 869, 912, 965, 1040, 1093, 1136, 1169, 1213, 1246], 127) from z_dec TL_law_ok 21 (33, .tableswitch 1269 0 27 #[127, 150, 173, 196, 259, 282, 315, 368, 411, 486, 561, 594, 637, 680, 724, 757, 780, 813, 836, 869, 912, 965, 1040, 1093, 1136, 1169, 1213, 1246], 127) rfl) (by decide) (by decide) (by decide) (by decide) (lw_case_has C0 G hL g hl (by omega) (by omega) hI hw next)
      · exact lv_tableIn (off := 757) (tgt := 790) hx hb (show decode code 33 = .ok (.tableswitch 1269 0 27 #[127, 150, 173, 196, 259, 282, 315, 368, 411, 486, 561, 594, 637, 680, 724, 757, 780, 813, 836, 869, 912, 965, 1040, 1093, 1136, 1169, 1213, 1246], 127) from z_dec TL_law_ok 21 (33, .tableswitch 1269 0 27 #[127, 150, 173, 196, 259, 282, 315, 368, 411, 486, 561, 594, 637, 680, 724, 757, 780, 813, 836, 869, 912, 965, 1040, 1093, 1136, 1169, 1213, 1246], 127) rfl) (by decide) (by decide) (by decide) (by decide) (lw_case_deduction C0 G hL g hl (by omega) (by omega) hI hw next)
      · exact lv_tableIn (off := 780) (tgt := 813) hx hb (show decode code 33 = .ok (.tableswitch 1269 0 27 #[127, 150, 173, 196, 259, 282, 315, 368, 411, 486, 561, 594, 637, 680, 724, 757, 780, 813, 836, 869, 912, 965, 1040, 1093, 1136, 1169, 1213, 1246], 127) from z_dec TL_law_ok 21 (33, .tableswitch 1269 0 27 #[127, 150, 173, 196, 259, 282, 315, 368, 411, 486, 561, 594, 637, 680, 724, 757, 780, 813, 836, 869, 912, 965, 1040, 1093, 1136, 1169, 1213, 1246], 127) rfl) (by decide) (by decide) (by decide) (by decide) (lw_case_bookIs C0 G hL g hl (by omega) (by omega) hI hw next)
      · exact lv_tableIn (off := 813) (tgt := 846) hx hb (show decode code 33 = .ok (.tableswitch 1269 0 27 #[127, 150, 173, 196, 259, 282, 315, 368, 411, 486, 561, 594, 637, 680, 724, 757, 780, 813, 836, 869, 912, 965, 1040, 1093, 1136, 1169, 1213, 1246], 127) from z_dec TL_law_ok 21 (33, .tableswitch 1269 0 27 #[127, 150, 173, 196, 259, 282, 315, 368, 411, 486, 561, 594, 637, 680, 724, 757, 780, 813, 836, 869, 912, 965, 1040, 1093, 1136, 1169, 1213, 1246], 127) rfl) (by decide) (by decide) (by decide) (by decide) (lw_case_sure C0 G hL g hl (by omega) (by omega) hI hw next)
      · exact lv_tableIn (off := 836) (tgt := 869) hx hb (show decode code 33 = .ok (.tableswitch 1269 0 27 #[127, 150, 173, 196, 259, 282, 315, 368, 411, 486, 561, 594, 637, 680, 724, 757, 780, 813, 836, 869, 912, 965, 1040, 1093, 1136, 1169, 1213, 1246], 127) from z_dec TL_law_ok 21 (33, .tableswitch 1269 0 27 #[127, 150, 173, 196, 259, 282, 315, 368, 411, 486, 561, 594, 637, 680, 724, 757, 780, 813, 836, 869, 912, 965, 1040, 1093, 1136, 1169, 1213, 1246], 127) rfl) (by decide) (by decide) (by decide) (by decide) (lw_case_stood C0 G hL g hl (by omega) (by omega) hI hw next)
      · exact lv_tableIn (off := 869) (tgt := 902) hx hb (show decode code 33 = .ok (.tableswitch 1269 0 27 #[127, 150, 173, 196, 259, 282, 315, 368, 411, 486, 561, 594, 637, 680, 724, 757, 780, 813, 836, 869, 912, 965, 1040, 1093, 1136, 1169, 1213, 1246], 127) from z_dec TL_law_ok 21 (33, .tableswitch 1269 0 27 #[127, 150, 173, 196, 259, 282, 315, 368, 411, 486, 561, 594, 637, 680, 724, 757, 780, 813, 836, 869, 912, 965, 1040, 1093, 1136, 1169, 1213, 1246], 127) rfl) (by decide) (by decide) (by decide) (by decide) (lw_case_most C0 G hL g hl (by omega) (by omega) hI hw next)
      · exact lv_tableIn (off := 912) (tgt := 945) hx hb (show decode code 33 = .ok (.tableswitch 1269 0 27 #[127, 150, 173, 196, 259, 282, 315, 368, 411, 486, 561, 594, 637, 680, 724, 757, 780, 813, 836, 869, 912, 965, 1040, 1093, 1136, 1169, 1213, 1246], 127) from z_dec TL_law_ok 21 (33, .tableswitch 1269 0 27 #[127, 150, 173, 196, 259, 282, 315, 368, 411, 486, 561, 594, 637, 680, 724, 757, 780, 813, 836, 869, 912, 965, 1040, 1093, 1136, 1169, 1213, 1246], 127) rfl) (by decide) (by decide) (by decide) (by decide) (lw_case_layOff C0 G hL g hl (by omega) (by omega) hI hw next)
      · exact lv_tableIn (off := 965) (tgt := 998) hx hb (show decode code 33 = .ok (.tableswitch 1269 0 27 #[127, 150, 173, 196, 259, 282, 315, 368, 411, 486, 561, 594, 637, 680, 724, 757, 780, 813, 836, 869, 912, 965, 1040, 1093, 1136, 1169, 1213, 1246], 127) from z_dec TL_law_ok 21 (33, .tableswitch 1269 0 27 #[127, 150, 173, 196, 259, 282, 315, 368, 411, 486, 561, 594, 637, 680, 724, 757, 780, 813, 836, 869, 912, 965, 1040, 1093, 1136, 1169, 1213, 1246], 127) rfl) (by decide) (by decide) (by decide) (by decide) (lw_case_plan C0 G hL g hl (by omega) (by omega) hI hw next)
      · exact lv_tableIn (off := 1040) (tgt := 1073) hx hb (show decode code 33 = .ok (.tableswitch 1269 0 27 #[127, 150, 173, 196, 259, 282, 315, 368, 411, 486, 561, 594, 637, 680, 724, 757, 780, 813, 836, 869, 912, 965, 1040, 1093, 1136, 1169, 1213, 1246], 127) from z_dec TL_law_ok 21 (33, .tableswitch 1269 0 27 #[127, 150, 173, 196, 259, 282, 315, 368, 411, 486, 561, 594, 637, 680, 724, 757, 780, 813, 836, 869, 912, 965, 1040, 1093, 1136, 1169, 1213, 1246], 127) rfl) (by decide) (by decide) (by decide) (by decide) (lw_case_together C0 G hL g hl (by omega) (by omega) hI hw next)
      · exact lv_tableIn (off := 1093) (tgt := 1126) hx hb (show decode code 33 = .ok (.tableswitch 1269 0 27 #[127, 150, 173, 196, 259, 282, 315, 368, 411, 486, 561, 594, 637, 680, 724, 757, 780, 813, 836, 869, 912, 965, 1040, 1093, 1136, 1169, 1213, 1246], 127) from z_dec TL_law_ok 21 (33, .tableswitch 1269 0 27 #[127, 150, 173, 196, 259, 282, 315, 368, 411, 486, 561, 594, 637, 680, 724, 757, 780, 813, 836, 869, 912, 965, 1040, 1093, 1136, 1169, 1213, 1246], 127) rfl) (by decide) (by decide) (by decide) (by decide) (lw_case_purse C0 G hL g hl (by omega) (by omega) hI hw next)
      · exact lv_tableIn (off := 1136) (tgt := 1169) hx hb (show decode code 33 = .ok (.tableswitch 1269 0 27 #[127, 150, 173, 196, 259, 282, 315, 368, 411, 486, 561, 594, 637, 680, 724, 757, 780, 813, 836, 869, 912, 965, 1040, 1093, 1136, 1169, 1213, 1246], 127) from z_dec TL_law_ok 21 (33, .tableswitch 1269 0 27 #[127, 150, 173, 196, 259, 282, 315, 368, 411, 486, 561, 594, 637, 680, 724, 757, 780, 813, 836, 869, 912, 965, 1040, 1093, 1136, 1169, 1213, 1246], 127) rfl) (by decide) (by decide) (by decide) (by decide) (lw_case_knew C0 G hL g hl (by omega) (by omega) hI hw next)
      · exact lv_tableIn (off := 1169) (tgt := 1202) hx hb (show decode code 33 = .ok (.tableswitch 1269 0 27 #[127, 150, 173, 196, 259, 282, 315, 368, 411, 486, 561, 594, 637, 680, 724, 757, 780, 813, 836, 869, 912, 965, 1040, 1093, 1136, 1169, 1213, 1246], 127) from z_dec TL_law_ok 21 (33, .tableswitch 1269 0 27 #[127, 150, 173, 196, 259, 282, 315, 368, 411, 486, 561, 594, 637, 680, 724, 757, 780, 813, 836, 869, 912, 965, 1040, 1093, 1136, 1169, 1213, 1246], 127) rfl) (by decide) (by decide) (by decide) (by decide) (lw_case_chance C0 G hL g hl (by omega) (by omega) hI hw next)
      · exact lv_tableIn (off := 1213) (tgt := 1246) hx hb (show decode code 33 = .ok (.tableswitch 1269 0 27 #[127, 150, 173, 196, 259, 282, 315, 368, 411, 486, 561, 594, 637, 680, 724, 757, 780, 813, 836, 869, 912, 965, 1040, 1093, 1136, 1169, 1213, 1246], 127) from z_dec TL_law_ok 21 (33, .tableswitch 1269 0 27 #[127, 150, 173, 196, 259, 282, 315, 368, 411, 486, 561, 594, 637, 680, 724, 757, 780, 813, 836, 869, 912, 965, 1040, 1093, 1136, 1169, 1213, 1246], 127) rfl) (by decide) (by decide) (by decide) (by decide) (lw_case_check C0 G hL g hl (by omega) (by omega) hI hw next)
      · exact lv_tableIn (off := 1246) (tgt := 1279) hx hb (show decode code 33 = .ok (.tableswitch 1269 0 27 #[127, 150, 173, 196, 259, 282, 315, 368, 411, 486, 561, 594, 637, 680, 724, 757, 780, 813, 836, 869, 912, 965, 1040, 1093, 1136, 1169, 1213, 1246], 127) from z_dec TL_law_ok 21 (33, .tableswitch 1269 0 27 #[127, 150, 173, 196, 259, 282, 315, 368, 411, 486, 561, 594, 637, 680, 724, 757, 780, 813, 836, 869, 912, 965, 1040, 1093, 1136, 1169, 1213, 1246], 127) rfl) (by decide) (by decide) (by decide) (by decide) (lw_case_count C0 G hL g hl (by omega) (by omega) hI hw next)
    · refine lv_tableOut (tgt := 1302) hx hb (show decode code 33 = .ok (.tableswitch 1269 0 27 #[127, 150, 173, 196, 259, 282, 315, 368, 411, 486, 561, 594, 637, 680, 724, 757, 780, 813, 836, 869, 912, 965, 1040, 1093, 1136, 1169, 1213, 1246], 127) from z_dec TL_law_ok 21 (33, .tableswitch 1269 0 27 #[127, 150, 173, 196, 259, 282, 315, 368, 411, 486, 561, 594, 637, 680, 724, 757, 780, 813, 836, 869, 912, 965, 1040, 1093, 1136, 1169, 1213, 1246], 127) rfl) ?_ (by decide) (W.widen (k := 100 + 8 * k + 8) (n := 10000 + 295 * k + 295) (by omega) (by omega) (next S H locs hI hw))
      by_cases h0 : v.toInt < 0
      · exact Or.inl h0
      · refine Or.inr (Classical.byContradiction fun h1 => hj ?_)
        have hn : ¬ v < 0 := by
          rw [Int32.lt_iff_toInt_lt]
          exact h0
        obtain ⟨n', hn', ev⟩ := nI_of hn
        refine ⟨n', ?_, ev⟩
        rw [ev, nI_toInt hn'] at h1
        omega
section LSTART
variable {p : Program} {l : Launch} {e : Env} {R : Room} {s : State} {m : MethodId} {args : Array Value} {below : List Frame} {meth : Method} {c : Code} {cc : ByteArray} {own : String} {nL : Nat} {D : va_G} {A : Nat → Prop} {Q : State → Prop} {mc ms : Nat} {ρ : z_A} {kd : z_K} {q : z_Q} {μ : z_M} {pc : Nat} {H : Heap} {locs : List Loc} {ls : Array Slot} {rest : List Value}
theorem z1_new (G : z_G p c cc s m args own nL D) (hS : z_S s D A ρ kd q μ H locs) (a : Nat) {index ci N : Nat} (hN : z_CN own index ci N) (ha : kd a = none) (hq : ∀ c j, kd c ≠ none → q c j ≠ some a) (hcells : mc + 1 ≤ R.cells) (hslots : ms + N ≤ R.slots) (hd : decode cc pc = .ok (.new index, 3)) (kk : ∀ H1, H1.size = H.size + 1 → (∀ y, y < H.size → H1[y]? = H[y]?) → z_S s D A (z_up ρ a (H.size, 0)) (z_up kd a (.inl ci)) (z_q0 q a) (z_m0 μ a) H1 locs → W p l e R s m args below meth c H1 locs (mc + 1) (ms + N) Q (F0 m (pc + 3) ls (.ref H.size :: rest))) : W p l e R s m args below meth c H locs mc ms Q (F0 m pc ls rest) := by
  obtain ⟨C, T, hc, hws, hty, hall, h1, h2, h3⟩ := hN
  obtain ⟨hx, hb, -, hown, hts, hnw, hK⟩ := G
  have hKn := hK.1 ci _ hc
  refine W.newcK hx hb hown (hts _ h1) (hts _ h2) (hts _ h3) rfl hd hcells hslots hKn.2.1 rfl fun H1 kC hkC e1 z1 o1 => ?_
  have hb := (u_born (z_ty ci) hts hws hKn hkC e1 hty)
  exact kk H1 z1 o1 (hS.push (x := (H.size, 0)) (k := .inl ci) ha hq rfl z1 o1 ⟨_, hc, hb.to fun j hj => z_dflt _ (hall j hj) _ _ _ _⟩ (fun t ht => by cases ht))
theorem z_S.grow {H1 : Heap} (h : z_S s D A ρ kd q μ H locs) (hz : H1.size = H.size + 1) (ho : ∀ y, y < H.size → H1[y]? = H[y]?) : z_S s D A ρ kd q μ H1 locs := by
  have lt := fun a x (hx : ρ a = some x) => h.lt hx
  obtain ⟨g1, g2, g3, g4, g5, g6⟩ := h
  refine ⟨fun c kc hc => ?_, g2, g3, ⟨Nat.le_trans g4.1 (by omega), fun y h1 h2 => (ho y (Nat.lt_of_lt_of_le h1 g4.1)).trans (g4.2.1 y h1 h2), g4.2.2⟩, g5, g6⟩
  obtain ⟨x, hx, hat⟩ := g1 c kc hc
  exact ⟨x, hx, z_at_kept hat (ho x.1 (lt c x hx)) (fun _ => rfl) (fun _ => rfl) (fun _ => rfl)⟩
theorem z_S.none (hv : va_S (z_Af s) s.heap H locs) : z_S s D (z_Af s) (fun _ => none) kd0 q0 μ0 H locs := ⟨fun c k h => by (cases h), ⟨fun c x h => by (cases h), fun a b x y h => by (cases h)⟩, fun c a x h => by (cases h), hv, fun c x h => by (cases h), fun x h => h⟩
end LSTART
theorem law_D {s : State} {b : Nat} (hts : ∀ w ∈ z_tb, w.before #[Value.ref b] s = true) : ∃ D : va_G, va_K D z_cl [] s := by
  obtain ⟨c0, i0, k0⟩ := u_known (C := RX0) (T := TX0) (N := 11) (n := 11) hts z_inX0 (hts _ ins_law_0)
  obtain ⟨c1, i1, k1⟩ := u_known (C := RX1) (T := TX1) (N := 12) (n := 12) hts z_inX1 (hts _ ins_law_1)
  obtain ⟨c2, i2, k2⟩ := u_known (C := RX2) (T := TX2) (N := 7) (n := 7) hts z_inX2 (hts _ ins_law_2)
  obtain ⟨c3, i3, k3⟩ := u_known (C := RX3) (T := TX3) (N := 3) (n := 3) hts z_inX3 (hts _ ins_law_3)
  obtain ⟨c4, i4, k4⟩ := u_known (C := RX4) (T := TX4) (N := 8) (n := 8) hts z_inX4 (hts _ ins_law_4)
  obtain ⟨c5, i5, k5⟩ := u_known (C := RX5) (T := TX5) (N := 4) (n := 4) hts z_inX5 (hts _ ins_law_5)
  obtain ⟨c6, i6, k6⟩ := u_known (C := RX6) (T := TX6) (N := 11) (n := 11) hts z_inX6 (hts _ ins_law_6)
  obtain ⟨c7, i7, k7⟩ := u_known (C := RX7) (T := TX7) (N := 9) (n := 9) hts z_inX7 (hts _ ins_law_7)
  obtain ⟨c8, i8, k8⟩ := u_known (C := RX8) (T := TX8) (N := 7) (n := 7) hts z_inX8 (hts _ ins_law_8)
  obtain ⟨c9, i9, k9⟩ := u_known (C := RX9) (T := TX9) (N := 2) (n := 2) hts z_inX9 (hts _ ins_law_9)
  obtain ⟨c10, i10, k10⟩ := u_known (C := RX10) (T := TX10) (N := 2) (n := 2) hts z_inX10 (hts _ ins_law_10)
  obtain ⟨c11, i11, k11⟩ := u_known (C := RX11) (T := TX11) (N := 16) (n := 16) hts z_inX11 (hts _ ins_law_11)
  obtain ⟨c12, i12, k12⟩ := u_known (C := RX12) (T := TX12) (N := 61) (n := 61) hts z_inX12 (hts _ ins_law_12)
  refine ⟨(fun k => if k = 0 then c0 else if k = 1 then c1 else if k = 2 then c2 else if k = 3 then c3 else if k = 4 then c4 else if k = 5 then c5 else if k = 6 then c6 else if k = 7 then c7 else if k = 8 then c8 else if k = 9 then c9 else if k = 10 then c10 else if k = 11 then c11 else c12, fun k => if k = 0 then i0 else if k = 1 then i1 else if k = 2 then i2 else if k = 3 then i3 else if k = 4 then i4 else if k = 5 then i5 else if k = 6 then i6 else if k = 7 then i7 else if k = 8 then i8 else if k = 9 then i9 else if k = 10 then i10 else if k = 11 then i11 else i12), fun k q hq => ?_, fun k q h => by simp at h⟩
  match k, hq with
  | 0, hq =>
    cases hq
    exact k0
  | 1, hq =>
    cases hq
    exact k1
  | 2, hq =>
    cases hq
    exact k2
  | 3, hq =>
    cases hq
    exact k3
  | 4, hq =>
    cases hq
    exact k4
  | 5, hq =>
    cases hq
    exact k5
  | 6, hq =>
    cases hq
    exact k6
  | 7, hq =>
    cases hq
    exact k7
  | 8, hq =>
    cases hq
    exact k8
  | 9, hq =>
    cases hq
    exact k9
  | 10, hq =>
    cases hq
    exact k10
  | 11, hq =>
    cases hq
    exact k11
  | 12, hq =>
    cases hq
    exact k12
  | k + 13, hq => simp [z_cl] at hq
set_option maxHeartbeats 1000000 in
set_option maxRecDepth 100000 in
theorem whole_start {p : Program} {e : Env} {s : State} {m : MethodId} {below : List Frame} {meth : Method} {c : Code} (l : Launch) (hflags : l.flags = flags0) {b L : Nat} {xs : Nat → Int32} (hL : L ≤ 3584) (C0 : lw_At p s m meth c b L xs) : W p l e room_1 s m #[Value.ref b] below meth c s.heap [] 0 0 (lw_Z below #[Value.ref b] s) (entryFrame m ([Value.ref b] : List Value).toArray 4) := by
  obtain ⟨hx, hb, hr, hml, hown, hts, hX, hbl, hlocks, hgv⟩ := id C0
  have htb : ∀ w ∈ z_tb, w.before #[Value.ref b] s = true := fun w hw => hts w (List.mem_filter.mp hw).1
  have hnw : ∀ w ∈ z_nw, va_Nw w s := fun w hw => va_Nw.of (z_nw_on w hw) (hts w (List.mem_filter.mp hw).1)
  obtain ⟨D, hK⟩ := law_D htb
  have G : z_G p c code s m #[Value.ref b] R_law 4 D := ⟨hx, hb, hml, hown, htb, hnw, hK⟩
  have hao : ∀ t ∈ [6, 1, 0], va_AO (z_name t) s := fun t ht => by
    rcases List.mem_cons.mp ht with g | ht
    · subst g
      exact va_AO.of (hts _ ao_law_6)
    · rcases List.mem_cons.mp ht with g | ht
      · subst g
        exact va_AO.of (hts _ ao_law_1)
      · rcases List.mem_cons.mp ht with g | ht
        · subst g
          exact va_AO.of (hts _ ao_law_0)
        · exact absurd ht List.not_mem_nil
  have hl := lv_entry ([.ref b]) (n := 4) (Nat.le_of_ble_eq_true rfl)
  rw [lg_entry_eq]
  generalize (lg_sl ([.ref b]) ++ List.replicate (4 - (lg_sl ([.ref b])).length) Slot.unset).toArray = ls at hl ⊢
  have hl : lv_has ls 4 [(0, .ref b)] := hl
  have hv0 : va_S (z_Af s) s.heap s.heap [] := va_S.rf
  refine z1_new G (z_S.none hv0) 0 wn_law_7 rfl (fun c j h => absurd rfl h) (Nat.le_of_ble_eq_true rfl) (Nat.le_of_ble_eq_true rfl) (show decode code 0 = .ok (.new 7, 3) from z_dec TL_law_ok 0 (0, .new 7, 3) rfl) fun H1 z1 o1 hS1 => ?_
  refine lv_dup hx hb (show decode code 3 = .ok (.dup, 1) from z_dec TL_law_ok 1 (3, .dup, 1) rfl) rfl ?_
  have h2 : z_2 s D (z_up (fun _ => none) 0 (s.heap.size, 0)) (z_up kd0 0 (.inl 11)) (z_q0 q0 0) (z_m0 μ0 0) (fun _ => none) kd0 q0 μ0 H1 [] := ⟨hS1, z_S.none hS1.2.2.2.1, fun a b x y h h3 => by cases h3⟩
  have r1 := z_run_I (p := p) (l := l) (R := room_1) (rm := rm_X11_init) (below := below) (meth := meth) (locs := []) (e := e) (mc := 0 + 1) (ms := 0 + 16) G cw_law_9 ⟨Nat.le_of_ble_eq_true rfl, Nat.le_of_ble_eq_true rfl⟩ ⟨Nat.le_of_ble_eq_true rfl, Nat.le_of_ble_eq_true rfl⟩ (met_X11_init l D (z_up (fun _ => none) 0 (s.heap.size, 0)) (z_up kd0 0 (.inl 11)) (z_q0 q0 0) (z_m0 μ0 0) H1.size 0 (fun kd' q' μ' => KQ S0 kd' q' ∧ RepV S0 μ') z_up_eq (c_init11 fun kd' q' μ' g1 g2 => ⟨g1, g2⟩)) (H := H1) (b := s.heap.size) (As := []) (rest := [.ref s.heap.size]) (ls := ls) (pc := 4) ⟨fun a U g mk h => ⟨z_blind a U g mk h.1, fun t ht => va_AO.moved (u := U) (U := U.calling g mk a) (Vm.Alike.refl U.vm) (h.2 t ht)⟩, fun U hU hW => ⟨⟨rfl, by rw [hU], by rw [hU]; exact hS1.1, hS1.2.1, hS1.2.2.1.moved hW.alike, va_K.moved hW.alike hK, z_nw_warm hW hnw⟩, fun t ht => va_AO.moved hW.alike (hao t ht)⟩⟩ rfl hl.1 (Nat.le_of_ble_eq_true rfl) (show decode code 4 = .ok (.invokespecial 9, 3) from z_dec TL_law_ok 2 (4, .invokespecial 9, 3) rfl)
  refine z2_afterG r1 h2 fun rv ρ1 kd1 q1 μ1 hr1 he1 H2 locs2 hS2 => ?_
  obtain ⟨rfl, hx1, hQ, hV⟩ := hr1
  refine lv_astore_n (lv' := [(1, .ref s.heap.size), (0, .ref b)]) hx hb (show decode code 7 = .ok (.astore_n 1, 1) from z_dec TL_law_ok 3 (7, .astore_n 1, 1) rfl) rfl hl (by decide) rfl (fun ls hl => ?_)
  refine z1_new G (z_S.none hS2.1.2.2.2.1) 0 wn_law_10 rfl (fun c j h => absurd rfl h) (Nat.le_of_ble_eq_true rfl) (Nat.le_of_ble_eq_true rfl) (show decode code 8 = .ok (.new 10, 3) from z_dec TL_law_ok 4 (8, .new 10, 3) rfl) fun H3 z3 o3 hS3 => ?_
  refine lv_dup hx hb (show decode code 11 = .ok (.dup, 1) from z_dec TL_law_ok 5 (11, .dup, 1) rfl) rfl ?_
  have h4 : z_2 s D (z_up (fun _ => none) 0 (H2.size, 0)) (z_up kd0 0 (.inl 12)) (z_q0 q0 0) (z_m0 μ0 0) ρ1 kd1 q1 μ1 H3 locs2 := ⟨hS3, hS2.1.grow z3 o3, fun a b x y h h3 => by
    have hlt := hS2.1.lt h3
    by_cases g : a = 0
    · subst g
      rw [z_up_eq] at h
      cases h
      show H2.size ≠ y.1
      omega
    · rw [z_up_ne g] at h
      cases h⟩
  have r2 := z_run_I (p := p) (l := l) (R := room_1) (rm := rm_X12_init) (below := below) (meth := meth) (locs := locs2) (e := e) (mc := 0 + 1 + rm_X11_init.cells + 1) (ms := 0 + 16 + rm_X11_init.slots + 61) G cw_law_12 ⟨Nat.le_of_ble_eq_true rfl, Nat.le_of_ble_eq_true rfl⟩ ⟨Nat.le_of_ble_eq_true rfl, Nat.le_of_ble_eq_true rfl⟩ (met_X12_init l D (z_up (fun _ => none) 0 (H2.size, 0)) (z_up kd0 0 (.inl 12)) (z_q0 q0 0) (z_m0 μ0 0) H3.size 0 (fun kd' q' μ' => z_I kd' q' ∧ kd' 0 = some (.inl 12) ∧ RepR S0 μ') z_up_eq (c_init12 fun kd' q' μ' g1 g2 g3 => ⟨g1, g2, g3⟩)) (H := H3) (b := H2.size) (As := []) (rest := [.ref H2.size]) (ls := ls) (pc := 12) ⟨z_blind, fun U hU hW => ⟨rfl, by rw [hU], by rw [hU]; exact hS3.1, hS3.2.1, hS3.2.2.1.moved hW.alike, va_K.moved hW.alike hK, z_nw_warm hW hnw⟩⟩ rfl hl.1 (Nat.le_of_ble_eq_true rfl) (show decode code 12 = .ok (.invokespecial 12, 3) from z_dec TL_law_ok 6 (12, .invokespecial 12, 3) rfl)
  refine z2_afterG r2 h4 fun rv ρ2 kd2 q2 μ2 hr2 he2 H4 locs4 hS4 => ?_
  obtain ⟨rfl, hx2, hI2, hk2, hR2⟩ := hr2
  refine lv_astore_n (lv' := [(2, .ref H2.size), (1, .ref s.heap.size), (0, .ref b)]) hx hb (show decode code 15 = .ok (.astore_n 2, 1) from z_dec TL_law_ok 7 (15, .astore_n 2, 1) rfl) rfl hl (by decide) rfl (fun ls hl => ?_)
  refine lv_iconst (v := 0) hx hb (show decode code 16 = .ok (.iconst 0, 1) from z_dec TL_law_ok 8 (16, .iconst 0, 1) rfl) (by decide) ?_
  refine lv_istore_n (lv' := [(3, .int 0), (2, .ref H2.size), (1, .ref s.heap.size), (0, .ref b)]) hx hb (show decode code 17 = .ok (.istore_n 3, 1) from z_dec TL_law_ok 9 (17, .istore_n 3, 1) rfl) rfl hl (by decide) rfl (fun ls hl => ?_)
  refine W.widen (k := 100 + 8 * 0) (n := 10000 + 295 * 0) (Nat.le_of_ble_eq_true rfl) (Nat.le_of_ble_eq_true rfl) ?_
  exact law_loop C0 G hL 512 0 rfl S0 s.heap.size H2.size H4 locs4 ls S0_Inv ⟨ρ1, kd1, q1, μ1, ρ2, kd2, q2, μ2, hQ, hV, hI2, hk2, hR2, hS4.swap, ⟨0, he1 0 _ z_up_eq⟩, 0, he2 0 _ z_up_eq⟩ (lv_sub hl [3, 2, 1, 0] rfl)
set_option maxHeartbeats 4000000 in
theorem lw_walk (l : Launch) (hflags : l.flags = flags0) (b : Addr) (xs : List Int32) : MetFree l x (headSpec (Jvm.Cond.code x code maxLocals ret :: tables_1) room_1) (lw_P b xs) (fun _ _ _ _ _ => True) lw_Q := by
  refine MetFree.of_bodyS (code := code) (maxLocals := maxLocals) (ret := ret) (by decide) ?_ ?_
  · intro args s m h hn
    obtain ⟨meth, c, h1, h2, h3, h4, h5, h6, -, -⟩ := Cond.code_spec hn (atoms_spec (ws := Jvm.Cond.code x code maxLocals ret :: tables_1) h _ List.mem_cons_self)
    exact ⟨meth, c, h1, h2, h3, h4, h5, h6⟩
  · intro p e s m args below meth c s₁ B hml0 hP _
    obtain ⟨rfl, hx, hbd, hgv⟩ := hP
    obtain ⟨scr, harrAt, hlist, hof, hsmall⟩ := hx
    obtain ⟨hcb, hkn, -, -⟩ := State.arrayAt?_spec harrAt
    have hown : s.vm.findClass R_law = some m.cls := findClass_of_methodNamed B.named
    have hts0 : ∀ c ∈ (Jvm.Cond.code x code maxLocals ret :: tables_1), c.before #[Value.ref b] s = true := atoms_spec (ws := Jvm.Cond.code x code maxLocals ret :: tables_1) B.pre
    have hts : ∀ w ∈ lw_tbl, w.before #[Value.ref b] s = true := k2_hts_sels lw_privs (fun w hw => hts0 w (List.mem_cons_of_mem _ hw)) lw_privs_ok
    have hml : c.maxLocals = 4 := B.maxLocals_eq (hts0 _ List.mem_cons_self)
    have X₀ : Stand p l e room_1 s m #[Value.ref b] below meth c s₁ [] 0 0 := Stand.of_body B
    have hh0 : s₁.heap = s.heap := by rw [B.state]; rfl
    have hsz : scr.slots.size = xs.length := by rw [← Array.length_toList, hlist, List.length_map]
    have hval : ∀ j : Nat, j < xs.length → scr.slots[j]? = some (.int (xs.getD j 0)) := fun j hj => by
      rw [← Array.getElem?_toList, hlist]
      simp [hj]
    have hbl : b < s.heap.size := (Array.getElem?_eq_some_iff.mp hcb).1
    have hX : va_X b xs.length (fun j => xs.getD j 0) s s.heap := ⟨scr, hcb, hof, hkn, hsz, hval⟩
    have K : W p l e room_1 s m #[Value.ref b] below meth c s₁.heap [] 0 0 (lw_Z below #[Value.ref b] s) (entryFrame m ([Value.ref b] : List Value).toArray 4) := by
      rw [hh0]
      exact whole_start l hflags hbd ⟨B.exec, B.bytes, B.returns, hml, hown, hts, hX, hbl, B.notSynchronized, hgv⟩
    obtain ⟨t, a1, o, b1, b2, b3⟩ := K s₁ rfl X₀
    exact ⟨t, o, a1, b1, b2, b3⟩
theorem lw_pre_spec {args : Array Value} {s : State} (h : (Jvm.Cond.and given_1 narrow_1).before args s = true) (hr : rest_1_c.before args s = true) : ∃ (b : Addr) (xs : List Int32), lw_P b xs args s := by
  have hs := flat_of_before _ h
  have hq := flat_of_before _ hr
  have hc : (Cond.count 1).before args s = true := hs _ (by decide +kernel)
  have harr : (Cond.arrayOf (.arg 0) .int).before args s = true := hs _ (by decide +kernel)
  have hle : (Cond.le (.length (.arg 0)) (.int 3584)).before args s = true := hs _ (by decide +kernel)
  have hlen : (Cond.isInt (.length (.arg 0))).before args s = true := hq _ (by decide +kernel)
  have hall : (Cond.all (.arg 0) (.isInt (.elem (.arg 0) (.index 0)))).before args s = true := hq _ (by decide +kernel)
  obtain ⟨b, xs, hb, hx⟩ := State.ints_of_pre rfl harr hlen hall
  have hsm : xs.length < 2 ^ 31 := hx.choose_spec.2.2.2
  have hev : (Term.length (.arg 0)).eval args s none [] s = some (.int xs.length.toInt32) := hx.length_eval hb
  have hv := Cond.le_ints hev (show (Term.int 3584).eval args s none [] s = some (.int 3584) from rfl)
  have hd : xs.length.toInt32 ≤ 3584 := by
    simpa [Cond.before, Cond.holds, hv] using hle
  have hN : xs.length ≤ 3584 := (Int32.ofNat_le_ofNat hsm (by decide)).mp (show Int32.ofNat xs.length ≤ Int32.ofNat 3584 from hd)
  exact ⟨b, xs, Cond.one_arg hc (show args[0]? = some (.ref b) from hb), hx, hN, h⟩
theorem lw_comes (l : Launch) (hflags : l.flags = flags0) : Comes l x (Jvm.Cond.code x code maxLocals ret :: tables_1) room_1 (fun tb e args s => Calls_1 tb e args s ∧ rest_1 tb e args s ∧ Pre_1 tb e args s)
    (fun _ _ args s o t => lw_Q args s o t) := by
  intro p e ha hc hk s m args below hf hfit hheap happ hpre
  obtain ⟨b, xs, hP⟩ := lw_pre_spec hpre.2.2 hpre.2.1
  obtain ⟨k, o, h1, h2, h3, hQ⟩ := lw_walk l hflags b xs p e ha hc hk s m args below hf ((Spec.applies_iff_loose hf).mp happ).1 hP trivial
  exact ⟨k, o, h1, h2, h3, hQ⟩
theorem lw_frame {s t : State} {o : Outcome} {args : Array Value} (h : Framed s o t [] 600000 7302250) :
    Framed s o t (fieldLocs frame_1_writes args s ++ arrayLocs frame_1_arrays args s ++ staticLocs frame_1_statics s) 600000 7302250 := h
theorem lw_limb (L : Cond) (hL : ∀ (args : Array Value) (s t : State), L.after args s (.returned (some (.int 1))) t = true) :
    ArmFor flags0 classFile x code maxLocals ret World_1 tables_1 room_1 Calls_1 rest_1 Pre_1
      (fun tb e a s o t => postC L tb e a s o t ∧ Framed s o t (fieldLocs frame_1_writes a s ++ arrayLocs frame_1_arrays a s ++ staticLocs frame_1_statics s) 600000 7302250) := by
  intro l hflags _ _ p e ha hc hk s m args below hf hfit hheap happ hpre
  obtain ⟨k, o, h1, h2, h3, rfl, hF⟩ := lw_comes l hflags p e ha hc hk s m args below hf hfit hheap happ hpre
  exact ⟨k, _, h1, h2, h3, hL args s _, lw_frame hF⟩
theorem i_vc : Claimed_1_1 ∧ Claimed_1_2 := ⟨lw_limb limb_1_1 (fun args s t => by simp [limb_1_1, Cond.after, Cond.holds, Cond.value]), lw_limb limb_1_2 (fun args s t => Cond.after_iff.mpr (by
  first | (rw [show limb_1_2 = Cond.eq .result (.int 1) from rfl, Cond.eq_ints (x := 1) (y := 1) rfl rfl]; simp; done) | (simp [limb_1_2, Cond.value, Term.eval]; done)))⟩
