/-! The class: feed, ladder, check. -/
theorem mod_toInt (y : Int32) : ((y.toBitVec.toNat : Nat) : Int) % 256 = y.toInt % 256 := by
  have h : y.toInt = y.toBitVec.toInt := rfl
  rw [h, BitVec.toInt_eq_toNat_cond]
  have := y.toBitVec.isLt
  split <;> omega
theorem ushr_byte (w : Int32) {s : Int32} {k : Nat} (hk : k = 0 ∨ k = 8 ∨ k = 16 ∨ k = 24) (h1 : ((s.toUInt32 &&& Int32.toUInt32 31).toBitVec % 32).toNat = k) (h2 : ((s &&& 31).toBitVec.smod 32).toNat = k) : (w.toUInt32 >>> (s.toUInt32 &&& Int32.toUInt32 31)).toInt32 &&& 255 = nI (byN w s) := by
  rw [← byN_eq, pk_and _ (m := 255) 8 rfl, pk_and _ (m := 255) 8 rfl, pk_ushr w s k h1]
  have e1 := pk_shr w (s &&& 31) k h2
  have e2 := mod_toInt (w >>> (s &&& 31))
  have e3 : w.toInt = w.toBitVec.toInt := rfl
  rw [e1, e3, BitVec.toInt_eq_toNat_cond, Int.shiftRight_eq_div_pow] at e2
  have := w.toBitVec.isLt
  congr 1
  generalize (w >>> (s &&& 31)).toBitVec.toNat = y at e2 ⊢
  generalize w.toBitVec.toNat = x at e2 this ⊢
  rcases hk with h | h | h | h <;> subst h
  · have p : ((2 : Nat) ^ 0 : Nat) = 1 := by decide
    have p8 : (2 : Nat) ^ 8 = 256 := by decide
    simp only [p, p8] at e2 ⊢
    split at e2 <;> omega
  · have p8 : (2 : Nat) ^ 8 = 256 := by decide
    simp only [p8] at e2 ⊢
    split at e2 <;> omega
  · have p : (2 : Nat) ^ 16 = 65536 := by decide
    have p8 : (2 : Nat) ^ 8 = 256 := by decide
    simp only [p, p8] at e2 ⊢
    split at e2 <;> omega
  · have p : (2 : Nat) ^ 24 = 16777216 := by decide
    have p8 : (2 : Nat) ^ 8 = 256 := by decide
    simp only [p, p8] at e2 ⊢
    split at e2 <;> omega
section CTAPE
variable {B : Nat} {S S' : z_SS} {μ μ' : z_M} {kd : z_K} {q : z_Q}
/-- only the tape changed -/
theorem RepV_tape (hW : WF B S) (hV : RepV S μ) (e1 : ∀ c k, 2 ≤ c → S'.1 c k = S.1 c k) (e0 : ∀ k, k ≠ 1 → S'.1 0 k = S.1 0 k) (e2 : S'.2 = S.2) (hm : ∀ c k, (c ≠ 1 ∨ k ≠ 1) → c ≠ 2 → μ'.1 c k = μ.1 c k) (h1 : μ'.1 1 1 = nI (S'.1 0 1)) (h2 : ∀ k, k < 200 → μ'.1 2 k = nI (S'.1 1 k)) : RepV S' μ' := by
  have bs : btSame S S' := ⟨e0 6 (by decide), fun i hi => ⟨fun c c1 _ => e1 c i (by omega), fun r _ => by rw [e2], fun r _ _ => e1 26 _ (by decide)⟩, fun s => ⟨e1 8 s (by decide), e1 9 s (by decide)⟩⟩
  refine ⟨?_, fun r hr => ?_, fun b hb => ?_, fun i hi => ?_⟩
  · obtain ⟨g1, g2, g3, g4, g5, g6, g7, g8⟩ := hV.1
    refine ⟨by rw [hm 0 12 (by omega) (by decide), e0 2 (by decide)]; exact g1, by rw [hm 0 13 (by omega) (by decide), e0 3 (by decide)]; exact g2, by rw [hm 0 14 (by omega) (by decide), e0 4 (by decide)]; exact g3, by rw [hm 0 15 (by omega) (by decide), e0 6 (by decide)]; exact g4, h1, h2, by rw [hm 3 2 (by omega) (by decide), e0 5 (by decide)]; exact g7, fun s hs => ?_⟩
    rw [e0 5 (by decide)] at hs
    rw [hm 4 s (by omega) (by decide), hm 5 s (by omega) (by decide), e1 8 s (by decide), e1 9 s (by decide)]
    exact g8 s hs
  · rw [e0 3 (by decide)] at hr
    exact RvR_keep (RvR_same (hV.2.1 r hr) fun c k c1 c2 => hm c k (by omega) (by omega)) (fun c c1 _ => e1 c r (by omega)) (fun x => e1 18 _ (by decide)) (e0 2 (by decide)) (fun s _ => e1 60 _ (by decide))
  · rw [e0 4 (by decide)] at hb
    obtain ⟨b0, b1, b2, b3, b4, b5, b6⟩ := RvB_same (hV.2.2.1 b hb) (μ' := μ') fun c k c1 c2 => hm c k (by omega) (by omega)
    refine ⟨by rw [e1 15 b (by decide)]; exact b0, by rw [e1 16 b (by decide)]; exact b1, by rw [betsOf_eq bs]; exact b2, fun k hk => by rw [e2]; exact b3 k hk, fun r x hr hx => ?_, RvO_keep b5 bs (e0 3 (by decide)) (fun r _ => e1 10 r (by decide)) (fun r _ => e1 11 r (by decide)), TxB_keep b6 (by rw [e2])⟩
    rw [e0 3 (by decide)] at hr
    rw [e1 11 r (by decide)] at hx
    rw [e2]
    exact b4 r x hr hx
  · rw [e0 6 (by decide)] at hi
    exact RvT_keep (RvT_same (hV.2.2.2 i hi) fun c k c1 c2 => hm c k (by omega) (by omega)) (fun c c1 _ => e1 c i (by omega)) (e1 27 i (by decide)) (e1 28 i (by decide)) (fun r _ => by rw [e2]) (fun r _ _ => e1 26 _ (by decide)) (fun _ => backS_eq hW hi (bk_of bs hi (fun r _ => ⟨e1 10 r (by decide), e1 11 r (by decide), e1 13 r (by decide), e1 14 r (by decide)⟩) (fun k => e1 18 k (by decide)) (fun k => by rw [e2])))
theorem putB_WF (hW : WF B S) {n : Nat} (hn : n < 256) (h1 : S.1 0 1 < 200) : WF B (putB S n) := by
  have e1 : ∀ c k, 2 ≤ c → (putB S n).1 c k = S.1 c k := fun c k hc => by rw [putB_1, if_neg (by omega), if_neg (by omega)]
  have e0 : ∀ k, k ≠ 1 → (putB S n).1 0 k = S.1 0 k := fun k hk => by rw [putB_1, if_neg (by omega), if_neg (by omega)]
  have h01 : (putB S n).1 0 1 = S.1 0 1 + 1 := putB_t S n
  have e2 : (putB S n).2 = S.2 := rfl
  have ht : ∀ k, (putB S n).1 1 k < 256 := fun k => by
    rw [putB_1, if_neg (by omega)]
    split
    · exact hn
    · exact hW.tp k
  unfold WF at hW ⊢
  unfold leftS at hW ⊢
  have f10 := fun r => e1 10 r (by decide)
  have f11 := fun r => e1 11 r (by decide)
  have f12 := fun r => e1 12 r (by decide)
  have f13 := fun r => e1 13 r (by decide)
  have f14 := fun r => e1 14 r (by decide)
  have f8 := fun r => e1 8 r (by decide)
  have f9 := fun r => e1 9 r (by decide)
  have f15 := fun r => e1 15 r (by decide)
  have f16 := fun r => e1 16 r (by decide)
  have f18 := fun r => e1 18 r (by decide)
  have f20 := fun r => e1 20 r (by decide)
  have f21 := fun r => e1 21 r (by decide)
  have f22 := fun r => e1 22 r (by decide)
  have f23 := fun r => e1 23 r (by decide)
  have f24 := fun r => e1 24 r (by decide)
  have f26 := fun r => e1 26 r (by decide)
  have f27 := fun r => e1 27 r (by decide)
  have f28 := fun r => e1 28 r (by decide)
  have f60 := fun r => e1 60 r (by decide)
  have z2 := e0 2 (by decide)
  have z3 := e0 3 (by decide)
  have z4 := e0 4 (by decide)
  have z5 := e0 5 (by decide)
  have z6 := e0 6 (by decide)
  simp only [runsS, f10, f11, f12, f13, f14, f8, f9, f15, f16, f18, f20, f21, f22, f23, f24, f26, f27, f28, f60, z2, z3, z4, z5, z6, e2, h01] at hW ⊢
  obtain ⟨a1, a2, a3, a4, a5, a6, a7, a8, a9, a10, a11⟩ := hW
  exact ⟨⟨by omega, a1.2⟩, a2, a3, a4, a5, a6, a7, a8, a9, ht, a11⟩
theorem c_put4 (hW : WF B S) (hV : RepV S μ) {w : Int32} (ht : S.1 0 1 + 4 ≤ 200) {K : z_M → Prop} (hK : ∀ μ', RepV (putW S w) μ' → WF B (putW S w) → K μ') : C_X10_put kd q 1 w μ K := by
  unfold C_X10_put L_X10_put_3
  intro P hP
  have step : ∀ (S1 : z_SS) (μ1 : z_M) (s : Int32) (k : Nat), (k = 0 ∨ k = 8 ∨ k = 16 ∨ k = 24) → ((s.toUInt32 &&& Int32.toUInt32 31).toBitVec % 32).toNat = k → ((s &&& 31).toBitVec.smod 32).toNat = k → ¬ s < 0 → WF B S1 → RepV S1 μ1 → S1.1 0 1 < 200 → (∀ μ2, RepV (putB S1 (byN w s)) μ2 → WF B (putB S1 (byN w s)) → P 1 w (s + (-8)) μ2) → P 1 w s μ1 := by
    intro S1 μ1 s k hk hs1 hs2 hneg hW1 hV1 ht1 hk2
    refine hP _ _ _ _ ?_
    unfold B_X10_put_3
    have g5 := hV1.1.2.2.2.2.1
    rw [if_neg hneg, g5, if_neg (fun z => by have := (nI_leI (a := 200) (by decide) (by omega)).mp z; omega), nI_clamp (by omega), ushr_byte w hk hs1 hs2]
    have e11 : (si μ1 (1 + 1) (S1.1 0 1) (nI (byN w s))).1 1 1 = nI (S1.1 0 1) := by
      rw [si1, if_neg (by omega)]
      exact g5
    rw [e11, nI_1]
    refine ⟨nI_vin (by omega) (by decide), hk2 _ (RepV_tape hW1 hV1 (fun c k hc => by rw [putB_1, if_neg (by omega), if_neg (by omega)]) (fun k hk => by rw [putB_1, if_neg (by omega), if_neg (by omega)]) rfl (fun c k h1 h2 => by rw [si1, if_neg (by omega), si1, if_neg (by omega)]) ?_ (fun j hj => ?_)) (putB_WF hW1 (byN_lt w s) ht1)⟩
    · rw [si1, if_pos ⟨rfl, rfl⟩, putB_t]
    · rw [si1, if_neg (by omega), si1]
      by_cases e : j = S1.1 0 1
      · rw [if_pos ⟨rfl, e⟩, putB_1, if_neg (by omega), if_pos ⟨rfl, e⟩]
      · rw [if_neg (fun z => e z.2), putB_1, if_neg (by omega), if_neg (fun z => e z.2)]
        exact hV1.1.2.2.2.2.2.1 j hj
  refine step S μ 24 24 (by decide) (by decide) (by decide) (by decide) hW hV (by omega) fun μ1 hV1 hW1 => ?_
  refine step _ μ1 16 16 (by decide) (by decide) (by decide) (by decide) hW1 hV1 (by rw [putB_t]; omega) fun μ2 hV2 hW2 => ?_
  refine step _ μ2 8 8 (by decide) (by decide) (by decide) (by decide) hW2 hV2 (by rw [putB_t, putB_t]; omega) fun μ3 hV3 hW3 => ?_
  refine step _ μ3 0 0 (by decide) (by decide) (by decide) (by decide) hW3 hV3 (by rw [putB_t, putB_t, putB_t]; omega) fun μ4 hV4 hW4 => ?_
  refine hP _ _ _ _ ?_
  unfold B_X10_put_3
  rw [if_pos (by decide)]
  exact hK μ4 hV4 hW4
theorem c_feed (hV : RepV S μ) (hW : WF B S) {a b c d e : Int32} {K : Int32 → z_M → Prop} (hK : ∀ μ', RepV (opFeed S a b c d e).2 μ' → WF B (opFeed S a b c d e).2 → K (opFeed S a b c d e).1 μ') : C_X11_feed kd q a b c d e μ K := by
  have h3 := hW.1
  unfold C_X11_feed C_X10_hasRoom
  unfold opFeed at hK
  rw [hV.1.2.2.2.2.1, show (20 : Int32) = nI 20 from rfl, nI_add]
  refine ifc (nI_ltI (a := 200) (by decide) (by omega)) (fun g => ?_) (fun g => ?_)
  · rw [if_neg (by omega)] at hK
    rw [if_pos rfl]
    exact hK μ hV hW
  · rw [if_pos (by omega)] at hK
    rw [if_neg i10]
    refine c_put4 hW hV (by omega) fun μ1 hV1 hW1 => c_put4 hW1 hV1 (by rw [putW_t]; omega) fun μ2 hV2 hW2 => c_put4 hW2 hV2 (by rw [putW_t, putW_t]; omega) fun μ3 hV3 hW3 => c_put4 hW3 hV3 (by rw [putW_t, putW_t, putW_t]; omega) fun μ4 hV4 hW4 => c_put4 hW4 hV4 (by rw [putW_t, putW_t, putW_t, putW_t]; omega) fun μ5 hV5 hW5 => ?_
    rw [hV5.1.2.2.2.2.1, putW_t, putW_t, putW_t, putW_t, putW_t, show S.1 0 1 + 4 + 4 + 4 + 4 + 4 = S.1 0 1 + 20 by omega]
    exact hK μ5 hV5 hW5
theorem RepV_t0 (hW : WF B S) (hV : RepV S μ) : RepV (setN S 0 1 0) (si μ 1 1 0) := RepV_tape hW hV (fun c k hc => by rw [setN_1, if_neg (by omega)]) (fun k hk => by rw [setN_1, if_neg (by omega)]) rfl (fun c k h1 h2 => by rw [si1, if_neg (by omega)]) (by rw [si1, if_pos ⟨rfl, rfl⟩, setN_1, if_pos ⟨rfl, rfl⟩]; rfl) (fun k hk => by
  rw [si1, if_neg (by omega), setN_1, if_neg (by omega)]
  exact hV.1.2.2.2.2.2.1 k hk)
theorem c_give (hV : RepV S μ) (hW : WF B S) {n : Nat} (hn : n < 2 ^ 60) {K : Int32 → z_M → Prop} (h1 : n ≤ S.1 0 1 → ∀ μ', RepV (setN S 0 1 0) μ' → K 1 μ') (h0 : ¬ n ≤ S.1 0 1 → K 0 μ) : C_X10_give kd q 1 (lN n) μ K := by
  have h3 := hW.1
  unfold C_X10_give
  rw [hV.1.2.2.2.2.1, nI_l (by omega)]
  exact ifc (pk_lLE (by omega) (by omega)) (fun g => h1 g _ (RepV_t0 hW hV)) h0
theorem c_byteAt (hV : RepV S μ) {k : Nat} (hk : k < 200) {K : Int32 → z_M → Prop} (hK : K (nI (S.1 1 k)) μ) : C_X10_byteAt kd q 1 (nI k) μ K := by
  unfold C_X10_byteAt
  refine at_dec (N := 200) (n := 200) (Nat.le_refl _) (by decide) rfl (fun j hj e => ?_) (fun g => absurd rfl (g k hk)) (fun g => absurd rfl (g k hk))
  rw [nI_clamp (by omega)]
  refine ⟨nI_vin hk (by decide), ?_⟩
  rw [show μ.1 (1 + 1) k = nI (S.1 1 k) from hV.1.2.2.2.2.2.1 k hk]
  exact hK
theorem c_wordAt (hV : RepV S μ) {k : Nat} (hk : k < 50) {K : Int32 → z_M → Prop} (hK : K (wordS S k) μ) : C_X10_wordAt kd q 1 (nI k) μ K := by
  unfold C_X10_wordAt L_X10_wordAt_4
  intro P hP
  have step : ∀ (j : Nat) (v : Int32), j < 4 → P 1 (nI k) (w8 v (S.1 1 (4 * k + j))) (nI (j + 1)) μ → P 1 (nI k) v (nI j) μ := fun j v hj h => by
    refine hP _ _ _ _ _ ?_
    unfold B_X10_wordAt_4
    rw [if_neg (fun z => by have := (nI_leI (a := 4) (by decide) (by omega)).mp z; omega), show ((4 : Int32) * nI k) + nI j = nI (4 * k + j) by rw [show (4 : Int32) = nI 4 from rfl, nI_mul, nI_add]]
    refine c_byteAt hV (by omega) ?_
    rw [nI_1]
    exact h
  refine step 0 0 (by decide) (step 1 _ (by decide) (step 2 _ (by decide) (step 3 _ (by decide) ?_)))
  refine hP _ _ _ _ _ ?_
  unfold B_X10_wordAt_4
  rw [if_pos (by decide)]
  exact hK
theorem c_check (hQ : KQ S kd q) (hV : RepV S μ) (hW : WF 80 S) {a b : Int32} {K : Int32 → z_M → Prop} (hK : ∀ μ', RepV (opCheck S a b).2 μ' → K (opCheck S a b).1 μ') : C_X11_check kd q a b μ K := by
  have h3 := hW.1
  unfold C_X11_check
  unfold opCheck at hK
  refine c_bookAt hQ hV.1 hW (fun bk hb e => opt_s ?_) (fun g => opt_n ?_)
  · subst e
    rw [ixO_some hb (by omega)] at hK
    dsimp only at hK
    by_cases hneg : b < 0
    · rw [if_pos hneg]
      rw [ixO_none fun j hj e => by
        rw [e] at hneg
        exact absurd (nI_pos' (by omega)) (Int32.not_le.mpr hneg)] at hK
      exact hK μ hV
    · rw [if_neg hneg]
      obtain ⟨n, hn, e⟩ := nI_of hneg
      subst e
      rw [nI_l hn, show (8 : Int64) = lN 8 from rfl, lN_mul]
      refine c_give hV hW (by omega) (fun g μ1 hV1 => ?_) (fun g => ?_)
      · rw [ixO_some (show n < S.1 0 1 / 8 + 1 by omega) (by omega)] at hK
        dsimp only at hK
        rw [if_neg i10]
        have hW1 := setF1_WF hW (n := 0) (by decide)
        have hQ1 : KQ (setN S 0 1 0) kd q := KQ_same hQ (by rw [setN_1, if_neg (by omega)]) (by rw [setN_1, if_neg (by omega)]) (by rw [setN_1, if_neg (by omega)])
        have e6 : (setN S 0 1 0).1 0 6 = S.1 0 6 := by rw [setN_1, if_neg (by omega)]
        unfold L_X11_check_36
        intro P hP
        have key : ∀ m k, m ≤ S.1 0 6 → k ≤ n → K (chkL (setN S 0 1 0) bk n m k) μ1 → P (nI bk) (nI n) (nI (2 * k)) (nI (S.1 0 6 - m)) μ1 := by
          intro m
          induction m with
          | zero =>
            intro k hm hk hk2
            refine hP _ _ _ _ _ ?_
            unfold B_X11_check_36
            rw [hV1.1.2.2.2.1, e6, Nat.sub_zero, if_pos (Int32.le_refl _), nI_two]
            unfold chkL at hk2
            refine ifc (nI_eq (by omega) (by omega)) (fun z => ?_) (fun z => ?_)
            · rw [if_pos (by omega)] at hk2
              exact hk2
            · rw [if_neg (by omega)] at hk2
              exact hk2
          | succ m ih =>
            intro k hm hk hk2
            unfold chkL at hk2
            rw [e6] at hk2
            have hi : S.1 0 6 - (m + 1) < S.1 0 6 := by omega
            have e1 : S.1 0 6 - (m + 1) + 1 = S.1 0 6 - m := by omega
            generalize S.1 0 6 - (m + 1) = i at hk2 hi e1 ⊢
            have hi1 : i < (setN S 0 1 0).1 0 6 := by rw [e6]; exact hi
            have h7 := hW1.2.2.2.2.2.2.1 i hi1
            have ht := hV1.2.2.2 i hi1
            refine hP _ _ _ _ _ ?_
            unfold B_X11_check_36
            rw [hV1.1.2.2.2.1, e6]
            refine ifc (nI_leI (by omega) (by omega)) (fun z => absurd z (by omega)) (fun _ => ?_)
            refine c_betN hQ1 hV1.1 hW1 hi1 (opt_s ?_)
            have e4 : (setN S 0 1 0).1 0 4 = S.1 0 4 := by rw [setN_1, if_neg (by omega)]
            have h21 := h7.2.1
            rw [ht.1.2.1, ht.2.2.2.2.1]
            rw [e4] at h21
            refine ifc (nI_eq (by omega) (by omega)) (fun z => ?_) (fun z => ?_)
            · refine ifc (nI_eq (b := 0) (by omega) (by decide)) (fun z2 => ?_) (fun z2 => ?_)
              · rw [if_neg (fun y => y.2 z2)] at hk2
                rw [nI_1, e1]
                exact ih k (by omega) hk hk2
              · rw [if_pos ⟨z, z2⟩] at hk2
                rw [nI_two]
                refine ifc (nI_leI (by omega) (by omega)) (fun z3 => ?_) (fun z3 => ?_)
                · have ek : k = n := by omega
                  rw [if_pos ek] at hk2
                  rw [ek]
                  exact hk2
                · rw [if_neg (by omega)] at hk2
                  refine c_wordAt hV1 (by omega) (ifd (fun z4 => ?_) (fun z4 => ?_))
                  · rw [if_pos z4] at hk2
                    rw [nI_1]
                    refine c_wordAt hV1 (by omega) ?_
                    rw [ht.2.2.2.2.2.2 (by omega)]
                    refine ifd (fun z5 => ?_) (fun z5 => ?_)
                    · rw [if_pos z5] at hk2
                      rw [nI_1, e1, show nI (2 * k) + 2 = nI (2 * (k + 1)) by rw [show (2 : Int32) = nI 2 from rfl, nI_add]; rfl]
                      exact ih (k + 1) (by omega) (by omega) hk2
                    · rw [if_neg z5] at hk2
                      exact hk2
                  · rw [if_neg z4] at hk2
                    exact hk2
            · rw [if_neg (fun y => z y.1)] at hk2
              rw [nI_1, e1]
              exact ih k (by omega) hk hk2
        have h0 := key (S.1 0 6) 0 (Nat.le_refl _) (Nat.zero_le _) (hK μ1 hV1)
        rw [Nat.sub_self] at h0
        exact h0
      · rw [if_pos rfl]
        rw [ixO_none fun j hj e => by
          have := (nI_eq hn (by omega)).mp e
          omega] at hK
        exact hK μ hV
  · rw [ixO_none g] at hK
    exact hK μ hV
/-- without bets the prices count for nothing -/
theorem RepV_lad (hV : RepV S μ) (h6 : S.1 0 6 = 0) (e1 : ∀ c k, 2 ≤ c → c ≠ 8 → c ≠ 9 → S'.1 c k = S.1 c k) (e0 : ∀ k, k ≠ 1 → k ≠ 5 → S'.1 0 k = S.1 0 k) (e11 : ∀ k, S'.1 1 k = S.1 1 k) (e2 : S'.2 = S.2) (hm : ∀ c k, c ≠ 4 → c ≠ 5 → (c ≠ 3 ∨ k ≠ 2) → μ'.1 c k = μ.1 c k) (h01 : S'.1 0 1 = S.1 0 1) (h5 : μ'.1 3 2 = nI (S'.1 0 5)) (hp : ∀ s, s < S'.1 0 5 → μ'.1 4 s = nI (S'.1 8 s) ∧ μ'.1 5 s = nI (S'.1 9 s)) : RepV S' μ' := by
  have h6' : S'.1 0 6 = 0 := (e0 6 (by decide) (by decide)).trans h6
  refine ⟨?_, fun r hr => ?_, fun b hb => ?_, fun i hi => by omega⟩
  · obtain ⟨g1, g2, g3, g4, g5, g6, g7, g8⟩ := hV.1
    exact ⟨by rw [hm 0 12 (by decide) (by decide) (by omega), e0 2 (by decide) (by decide)]; exact g1, by rw [hm 0 13 (by decide) (by decide) (by omega), e0 3 (by decide) (by decide)]; exact g2, by rw [hm 0 14 (by decide) (by decide) (by omega), e0 4 (by decide) (by decide)]; exact g3, by rw [hm 0 15 (by decide) (by decide) (by omega), e0 6 (by decide) (by decide)]; exact g4, by rw [hm 1 1 (by decide) (by decide) (by omega), h01]; exact g5, fun k hk => by rw [hm 2 k (by decide) (by decide) (by omega), e11]; exact g6 k hk, h5, hp⟩
  · rw [e0 3 (by decide) (by decide)] at hr
    exact RvR_keep (RvR_same (hV.2.1 r hr) fun c k c1 c2 => hm c k (by omega) (by omega) (by omega)) (fun c c1 _ => e1 c r (by omega) (by omega) (by omega)) (fun x => e1 18 _ (by decide) (by decide) (by decide)) (e0 2 (by decide) (by decide)) (fun s _ => e1 60 _ (by decide) (by decide) (by decide))
  · rw [e0 4 (by decide) (by decide)] at hb
    obtain ⟨b0, b1, b2, b3, b4, b5, b6⟩ := RvB_same (hV.2.2.1 b hb) (μ' := μ') fun c k c1 c2 => hm c k (by omega) (by omega) (by omega)
    have f11 := fun r => e1 11 r (by decide) (by decide) (by decide)
    have zz : ∀ f g : Nat → Nat, sumN (S'.1 0 6) f = sumN (S.1 0 6) g := fun f g => by rw [h6, h6']; rfl
    refine ⟨by rw [e1 15 b (by decide) (by decide) (by decide)]; exact b0, by rw [e1 16 b (by decide) (by decide) (by decide)]; exact b1, by rw [show betsOf S' b = betsOf S b from zz _ _]; exact b2, fun k hk => by rw [e2]; exact b3 k hk, fun r x hr hx => ?_, ⟨fun r x hr hx => ?_, fun r hr => ?_⟩, TxB_keep b6 (by rw [e2])⟩
    · rw [e0 3 (by decide) (by decide)] at hr
      rw [f11] at hx
      rw [e2]
      exact b4 r x hr hx
    · unfold stkA bckA
      rw [f11, show stkOn S' b r x = stkOn S b r x from zz _ _, show backsS S' b r x = backsS S b r x from zz _ _, show betsOn S' b r x = betsOn S b r x from zz _ _]
      exact b5.1 r x hr hx
    · rw [show stakesS S' b r = stakesS S b r from zz _ _]
      exact b5.2 r hr
theorem no_bets (hW : WF B S) (h5 : S.1 0 5 = 0) : S.1 0 6 = 0 := by
  rcases Nat.eq_zero_or_pos (S.1 0 6) with h | h
  · exact h
  · exfalso
    have h7 := hW.2.2.2.2.2.2.1 0 h
    obtain ⟨r, hr, hl⟩ := h7.2.2.2.2.2.2.2.2.1
    obtain ⟨x, hx⟩ := Option.ne_none_iff_exists'.mp hl
    have := h7.2.2.2.2.2.2.2.2.2.1 r x hr hx
    omega
theorem c_ladder (hV : RepV S μ) (hW : WF B S) {a : Int32} {K : Int32 → z_M → Prop} (hK : ∀ μ', RepV (opLadder S a).2 μ' → K (opLadder S a).1 μ') : C_X11_ladder kd q a μ K := by
  have h3 := hW.1
  unfold C_X11_ladder
  have none_ : (∀ n, 1 ≤ n → n ≤ 24 → a ≠ nI n) → K 0 μ := fun g => by
    have e : opLadder S a = (0, S) := by
      unfold opLadder
      split
      · rfl
      · cases e1 : ixO a 25 with
        | none => rfl
        | some n =>
          obtain ⟨g1, g2⟩ := ixO_inv e1
          dsimp only
          rw [if_pos (Nat.le_zero.mp (Nat.le_of_not_lt fun h => g n h (by omega) g2))]
    rw [e] at hK
    exact hK μ hV
  by_cases hlo : a < 1
  · rw [if_pos hlo]
    exact none_ fun n n1 n2 e => by
      rw [e] at hlo
      have := (nI_ltI (b := 1) (by omega) (by decide)).mp hlo
      omega
  · rw [if_neg hlo]
    by_cases hhi : 24 < a
    · rw [if_pos hhi]
      exact none_ fun n n1 n2 e => by
        rw [e] at hhi
        have := (nI_ltI (a := 24) (by decide) (by omega)).mp hhi
        omega
    · rw [if_neg hhi]
      have hneg : ¬ a < 0 := fun z => hlo (Int32.lt_trans z (by decide))
      obtain ⟨n, hn, e⟩ := nI_of hneg
      subst e
      have n1 : 1 ≤ n := Nat.le_of_not_lt fun z => hlo ((nI_ltI (b := 1) (by omega) (by decide)).mpr z)
      have n2 : n ≤ 24 := Nat.le_of_not_lt fun z => hhi ((nI_ltI (a := 24) (by decide) (by omega)).mpr z)
      unfold opLadder at hK
      rw [hV.1.2.2.2.2.2.2.1]
      refine ifc (nI_ltI (a := 0) (by decide) (by omega)) (fun g => ?_) (fun g => ?_)
      · rw [if_pos g] at hK
        exact hK μ hV
      · rw [if_neg g, ixO_some (show n < 25 by omega) (by decide)] at hK
        dsimp only at hK
        rw [if_neg (by omega)] at hK
        rw [nI_l (by omega), show (2 : Int64) = lN 2 from rfl, lN_mul]
        refine c_give hV hW (by omega) (fun g2 μ1 hV1 => ?_) (fun g2 => ?_)
        · rw [if_pos g2] at hK
          rw [if_neg i10]
          have h05 : S.1 0 5 = 0 := by omega
          have h06 := no_bets hW h05
          unfold C_X3_fill L_X3_fill_2
          intro P hP
          have key : ∀ m, m ≤ n → ∀ (S1 : z_SS) (μ2 : z_M), (∀ c k, 2 ≤ c → c ≠ 8 → c ≠ 9 → S1.1 c k = (setN S 0 1 0).1 c k) → (∀ k, S1.1 0 k = (setN S 0 1 0).1 0 k) → (∀ k, S1.1 1 k = (setN S 0 1 0).1 1 k) → S1.2 = (setN S 0 1 0).2 → (∀ c k, c ≠ 4 → c ≠ 5 → μ2.1 c k = μ1.1 c k) → (∀ s, s < n - m → μ2.1 4 s = nI (S1.1 8 s) ∧ μ2.1 5 s = nI (S1.1 9 s) ∧ S1.1 8 s ≤ 60 ∧ S1.1 9 s ≤ 12) → (∀ μ', RepV (ladL S1 n m).2 μ' → K (ladL S1 n m).1 μ') → P 3 (some 1) (nI n) (nI (n - m)) μ2 := by
            intro m
            induction m with
            | zero =>
              intro hm S1 μ2 q1 q2 q3 q4 q5 q6 hk
              refine hP _ _ _ _ _ ?_
              unfold B_X3_fill_2 L_X3_fill_130
              rw [Nat.sub_zero, if_pos (Int32.le_refl _)]
              refine hk _ (RepV_lad hV1 (S' := setN S1 0 5 n) (by rw [setN_1, if_neg (by omega)]; exact h06) (fun c k c1 c2 c3 => by rw [setN_1, if_neg (by omega)]; exact q1 c k c1 c2 c3) (fun k k1 k2 => by rw [setN_1, if_neg (by omega)]; exact q2 k) (fun k => by rw [setN_1, if_neg (by omega)]; exact q3 k) q4 (fun c k c1 c2 c3 => by rw [si1, if_neg (by omega)]; exact q5 c k c1 c2) (by rw [setN_1, if_neg (by omega)]; exact q2 1) (by rw [si1, if_pos ⟨rfl, rfl⟩, setN_1, if_pos ⟨rfl, rfl⟩]) (fun s hs => ?_))
              rw [setN_1, if_pos ⟨rfl, rfl⟩] at hs
              rw [si1, if_neg (by omega), si1, if_neg (by omega), setN_1, if_neg (by omega), setN_1, if_neg (by omega)]
              exact ⟨(q6 s (by omega)).1, (q6 s (by omega)).2.1⟩
            | succ m ih =>
              intro hm S1 μ2 q1 q2 q3 q4 q5 q6 hk
              have e1 : n - (m + 1) + 1 = n - m := by omega
              have hj : n - (m + 1) < n := by omega
              unfold ladL at hk
              generalize n - (m + 1) = j at hk e1 hj q6 ⊢
              have tb : ∀ k, k < 200 → μ2.1 2 k = nI (S1.1 1 k) := fun k hk => by
                rw [q5 2 k (by decide) (by decide), q3]
                exact hV1.1.2.2.2.2.2.1 k hk
              have hb : ∀ k, k < 200 → ∀ (m : z_M), (∀ k, m.1 2 k = μ2.1 2 k) → ∀ K2 : Int32 → z_M → Prop, K2 (nI (S1.1 1 k)) m → C_X10_byteAt kd q 1 (nI k) m K2 := fun k hk m hm K2 h => by
                unfold C_X10_byteAt
                refine at_dec (N := 200) (n := 200) (Nat.le_refl _) (by decide) rfl (fun j hj e => ?_) (fun g => absurd rfl (g k hk)) (fun g => absurd rfl (g k hk))
                rw [nI_clamp (by omega), show m.1 (1 + 1) k = nI (S1.1 1 k) from (hm k).trans (tb k hk)]
                exact ⟨nI_vin hk (by decide), h⟩
              refine hP _ _ _ _ _ ?_
              unfold B_X3_fill_2
              rw [if_neg (fun z => by have := (nI_leI (by omega) (by omega)).mp z; omega), if_neg (fun z => by have := (nI_leI (a := 24) (by decide) (by omega)).mp z; omega), nI_two, show nI (2 * j) + 1 = nI (2 * j + 1) from nI_1 _]
              refine ⟨1, rfl, hb (2 * j) (by omega) μ2 (fun _ => rfl) _ ⟨nI_vin (by omega) (by decide), ?_⟩⟩
              rw [nI_clamp (n := j) (by omega)]
              refine hb (2 * j + 1) (by omega) _ (fun k => by rw [si1, if_neg (by omega)]) _ ?_
              have ta : S1.1 1 (2 * j) < 256 := by rw [q3, setN_1, if_neg (by omega)]; exact hW.tp _
              have tb2 : S1.1 1 (2 * j + 1) < 256 := by rw [q3, setN_1, if_neg (by omega)]; exact hW.tp _
              generalize S1.1 1 (2 * j) = x at hk ta ⊢
              generalize S1.1 1 (2 * j + 1) = y at hk tb2 ⊢
              have r4 : (si (si μ2 (3 + 1) j (nI x)) (3 + 2) j (nI y)).1 (3 + 1) j = nI x := by simp [si1]
              have r5 : (si (si μ2 (3 + 1) j (nI x)) (3 + 2) j (nI y)).1 (3 + 2) j = nI y := by simp [si1]
              have fail : priceOk S1 j x y = false → K 0 (si (si μ2 (3 + 1) j (nI x)) (3 + 2) j (nI y)) := fun hp => by
                rw [if_neg (by rw [hp]; decide)] at hk
                have e5 : S1.1 0 5 = 0 := by rw [q2, setN_1, if_neg (by omega)]; exact h05
                refine hk _ (RepV_lad hV1 (S' := S1) (by rw [setN_1, if_neg (by omega)]; exact h06) q1 (fun k _ _ => q2 k) q3 q4 (fun c k c1 c2 c3 => by rw [si1, if_neg (by omega), si1, if_neg (by omega)]; exact q5 c k c1 c2) (q2 1) ?_ (fun s hs => by omega))
                rw [si1, if_neg (by omega), si1, if_neg (by omega), q5 3 2 (by decide) (by decide), e5]
                have := hV1.1.2.2.2.2.2.2.1
                rw [setN_1, if_neg (by omega), h05] at this
                exact this
              rw [r4, r5]
              refine ifc (nI_ltI (b := 1) (by omega) (by decide)) (fun z => fail (by unfold priceOk; rw [decide_eq_false (by omega)]; rfl)) (fun z1 => ?_)
              refine ifc (nI_ltI (a := 60) (by decide) (by omega)) (fun z => fail (by unfold priceOk; rw [decide_eq_false (by omega)]; rfl)) (fun z2 => ?_)
              refine ifc (nI_ltI (b := 1) (by omega) (by decide)) (fun z => fail (by unfold priceOk; rw [decide_eq_false (by omega)]; rfl)) (fun z3 => ?_)
              refine ifc (nI_leI (b := 12) (by omega) (by decide)) (fun z4 => ?_) (fun z => fail (by unfold priceOk; rw [decide_eq_false (by omega)]; rfl))
              have good : priceOk S1 j x y = true → P 3 (some 1) (nI n) (nI j + 1) (si (si μ2 (3 + 1) j (nI x)) (3 + 2) j (nI y)) := fun hp => by
                rw [if_pos hp] at hk
                rw [nI_1, e1]
                have s8 : ∀ k, (setN (setN S1 8 j x) 9 j y).1 8 k = if k = j then x else S1.1 8 k := fun k => by
                  rw [setN_1, if_neg (by omega), setN_1]
                  by_cases e : k = j
                  · rw [if_pos ⟨rfl, e⟩, if_pos e]
                  · rw [if_neg (fun z => e z.2), if_neg e]
                have s9 : ∀ k, (setN (setN S1 8 j x) 9 j y).1 9 k = if k = j then y else S1.1 9 k := fun k => by
                  rw [setN_1]
                  by_cases e : k = j
                  · rw [if_pos ⟨rfl, e⟩, if_pos e]
                  · rw [if_neg (fun z => e z.2), if_neg e, setN_1, if_neg (by omega)]
                refine ih (by omega) (setN (setN S1 8 j x) 9 j y) _ (fun c k c1 c2 c3 => by rw [setN_1, if_neg (by omega), setN_1, if_neg (by omega)]; exact q1 c k c1 c2 c3) (fun k => by rw [setN_1, if_neg (by omega), setN_1, if_neg (by omega)]; exact q2 k) (fun k => by rw [setN_1, if_neg (by omega), setN_1, if_neg (by omega)]; exact q3 k) q4 (fun c k c1 c2 => by rw [si1, if_neg (by omega), si1, if_neg (by omega)]; exact q5 c k c1 c2) (fun s hs => ?_) hk
                rw [s8, s9]
                by_cases e : s = j
                · subst e
                  rw [if_pos rfl, if_pos rfl]
                  exact ⟨r4, r5, by omega, z4⟩
                · rw [if_neg e, if_neg e, si1, if_neg (by omega), si1, if_neg (by omega), si1, if_neg (by omega), si1, if_neg (by omega)]
                  exact q6 s (by omega)
              have d1 : decide (1 ≤ x ∧ x ≤ 60 ∧ 1 ≤ y ∧ y ≤ 12) = true := decide_eq_true ⟨by omega, by omega, by omega, z4⟩
              refine ifc (nI_leI (b := 0) (by omega) (by decide)) (fun z5 => ?_) (fun z5 => ?_)
              · exact good (by unfold priceOk; rw [d1, decide_eq_true (show j = 0 by omega)]; rfl)
              · have ej : nI j - 1 = nI (j - 1) := pk_sub (b := 1) (by omega)
                obtain ⟨w1, w2, w3, w4⟩ := q6 (j - 1) (by omega)
                have p4 : (si (si μ2 (3 + 1) j (nI x)) (3 + 2) j (nI y)).1 (3 + 1) (j - 1) = nI (S1.1 8 (j - 1)) := by
                  rw [si1, if_neg (by omega), si1, if_neg (by omega)]
                  exact w1
                have p5 : (si (si μ2 (3 + 1) j (nI x)) (3 + 2) j (nI y)).1 (3 + 2) (j - 1) = nI (S1.1 9 (j - 1)) := by
                  rw [si1, if_neg (by omega), si1, if_neg (by omega)]
                  exact w2
                have m1 : S1.1 8 (j - 1) * y ≤ 60 * 12 := Nat.mul_le_mul w3 z4
                have m2 : x * S1.1 9 (j - 1) ≤ 60 * 12 := Nat.mul_le_mul (by omega) w4
                rw [ej, nI_clamp (n := j - 1) (by omega), p4, p5, nI_mul, nI_mul]
                refine ⟨nI_vin (by omega) (by decide), ifc (nI_ltI (by omega) (by omega)) (fun z6 => ?_) (fun z6 => ?_)⟩
                · exact good (by unfold priceOk; rw [d1, decide_eq_true z6]; simp)
                · exact fail (by unfold priceOk; rw [d1, decide_eq_false z6, decide_eq_false (by omega)]; rfl)
          have h0 := key n (Nat.le_refl _) (setN S 0 1 0) μ1 (fun _ _ _ _ _ => rfl) (fun _ => rfl) (fun _ => rfl) rfl (fun _ _ _ _ => rfl) (fun s hs => by omega) hK
          rw [Nat.sub_self] at h0
          exact h0
        · rw [if_neg g2] at hK
          rw [if_pos rfl]
          exact hK μ hV
end CTAPE
