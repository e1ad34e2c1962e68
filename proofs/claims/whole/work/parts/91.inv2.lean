/-! What every call keeps: all of it. -/
def Inv (S : z_SS) : Prop := WF 80 S ∧ WFc S ∧ WFd S ∧ WFe S
section INV2
variable {B : Nat} {S S' : z_SS}
theorem setF2_WF (hW : WF B S) {n : Nat} (h1 : S.1 0 2 ≤ n) (h2 : n < 600) : WF B (setN S 0 2 n) := by
  obtain ⟨a1, a2, a3, a4, a5, a6, a7, a8, a9, a10, a11, a12⟩ := hW
  refine ⟨⟨a1.1, h2, a1.2.2⟩, a2, a3, a4, a5, a6, fun i hi => ?_, a8, a9, a10, a11, a12⟩
  obtain ⟨b1, b2, b3, b4, b5, b6, b7⟩ := a7 i hi
  exact ⟨b1, b2, b3, b4, b5, Nat.le_trans b6 h1, b7⟩
theorem WFe_same (hE : WFe S) (e3 : S'.1 0 3 = S.1 0 3) (e4 : S'.1 0 4 = S.1 0 4) (e11 : ∀ r, S'.1 11 r = S.1 11 r) (e19 : ∀ k, S'.2.1 19 k = S.2.1 19 k) : WFe S' := by
  intro b r h h1 h2 h5 h6
  rw [e4] at h1
  rw [e3] at h5
  rw [e11] at h6
  rw [e19]
  exact hE b r h h1 h2 h5 h6
theorem opNow_I (hI : Inv S) {a : Int32} : Inv (opNow S a).2 := by
  obtain ⟨hW, hC, hD, hE⟩ := hI
  have d := opNow_D hD (a := a)
  unfold opNow at d ⊢
  cases e : ixO a 600 with
  | none => exact ⟨hW, hC, hD, hE⟩
  | some t =>
    rw [e] at d
    obtain ⟨ht, _⟩ := ixO_inv e
    dsimp only at d ⊢
    by_cases g : t < S.1 0 2
    · rw [if_pos g]
      exact ⟨hW, hC, hD, hE⟩
    · rw [if_neg g] at d ⊢
      have hm : WF 80 (markS S (S.1 0 3) (S.1 0 2) t) := markS_WF hW (Or.inr ⟨Nat.le_refl _, Nat.le_refl _⟩)
      refine ⟨setF2_WF hm (by rw [markS_1, if_neg (by omega)]; omega) ht, WFc_same hC rfl, d, WFe_same hE ?_ ?_ (fun r => ?_) (fun k => rfl)⟩
      · rw [setN_1, if_neg (by omega), markS_1, if_neg (by omega)]
      · rw [setN_1, if_neg (by omega), markS_1, if_neg (by omega)]
      · rw [setN_1, if_neg (by omega), markS_1, if_neg (by omega)]
theorem opRace_I (hI : Inv S) {a : Int32} : Inv (opRace S a).2 := by
  have hI0 := hI
  obtain ⟨hW, hC, hD, hE⟩ := hI
  have h3 := hW.1
  unfold opRace
  by_cases g : S.1 0 3 = 3
  · rw [if_pos g]
    exact hI0
  · rw [if_neg g]
    cases e : ixO a 9 with
    | none => exact hI0
    | some n =>
      obtain ⟨hn, _⟩ := ixO_inv e
      dsimp only
      by_cases g2 : n < 2
      · rw [if_pos g2]
        exact hI0
      · rw [if_neg g2]
        dsimp only
        generalize hN : setN (setN S 10 (S.1 0 3) n) 0 3 (S.1 0 3 + 1) = N
        have fN : ∀ x k, (x ≠ 0 ∨ k ≠ 3) → (x ≠ 10 ∨ k ≠ S.1 0 3) → N.1 x k = S.1 x k := fun x k h0 h1 => by rw [← hN, setN_1, if_neg (by omega), setN_1, if_neg (by omega)]
        have fN3 : N.1 0 3 = S.1 0 3 + 1 := by rw [← hN, setN_1, if_pos ⟨rfl, rfl⟩]
        have fN10 : N.1 10 (S.1 0 3) = n := by rw [← hN, setN_1, if_neg (by omega), setN_1, if_pos ⟨rfl, rfl⟩]
        have fN2 : N.2 = S.2 := by rw [← hN]; rfl
        have hf := hW.2.2.2.2.2.2.2.2.2.2.1 (S.1 0 3) (Nat.le_refl _) (by omega)
        have ru : ∀ r h, runsS S r h → runsS N r h := fun r h hr => by
          obtain ⟨r1, r2, r3⟩ := hr
          refine ⟨by rw [fN3]; omega, by rw [fN 10 r (by omega) (by omega)]; exact r2, by rw [fN 11 r (by omega) (by omega)]; exact r3⟩
        have z0 : ∀ h, (S.1 11 (S.1 0 3)).testBit h = true → False := fun h hh => by
          rw [hf.1, Nat.zero_testBit] at hh
          cases hh
        refine ⟨?_, WFc_same hC (by rw [fN2]), WFd_same hD (fN 0 6 (by omega) (by omega)) (fun i _ => fN 27 i (by omega) (by omega)) (fun r _ => fN 12 r (by omega) (by omega)) (fun i r _ _ => by rw [fN2]), ?_⟩
        · obtain ⟨a1, a2, a3, a4, a5, a6, a7, a8, a9, a10, a11, a12⟩ := hW
          refine ⟨⟨by rw [fN 0 1 (by omega) (by omega)]; exact a1.1, by rw [fN 0 2 (by omega) (by omega)]; exact a1.2.1, by rw [fN3]; omega, by rw [fN 0 4 (by omega) (by omega)]; exact a1.2.2.2.1, by rw [fN 0 5 (by omega) (by omega)]; exact a1.2.2.2.2.1, by rw [fN 0 6 (by omega) (by omega)]; exact a1.2.2.2.2.2⟩, fun s hs => ?_, fun r hr => ?_, fun b hb => ?_, fun b r h s hb hr hh es => ?_, fun b r h s hb hr hh es => ?_, fun i hi => ?_, fun r h hr hh => ?_, fun k => by rw [fN 60 k (by omega) (by omega)]; exact a9 k, fun k => by rw [fN 1 k (by omega) (by omega)]; exact a10 k, fun r h1 h2 => ?_, fun b h1 h2 => ?_⟩
          · rw [fN 0 5 (by omega) (by omega)] at hs
            rw [fN 8 s (by omega) (by omega), fN 9 s (by omega) (by omega)]
            exact a2 s hs
          · rw [fN3] at hr
            by_cases er : r = S.1 0 3
            · subst er
              rw [fN10, fN 11 _ (by omega) (by omega), fN 12 _ (by omega) (by omega), hf.1, hf.2.1]
              have el : leftS N (S.1 0 3) = n := by
                unfold leftS
                rw [fN10, fN 11 _ (by omega) (by omega), hf.1]
                have : ∀ m, sumN m (fun h => if (0 : Nat).testBit h = true then 0 else 1) = m := fun m => by
                  induction m with
                  | zero => rfl
                  | succ m ih =>
                    rw [sumN_s, ih, Nat.zero_testBit]
                    rfl
                exact this n
              rw [el]
              exact ⟨by omega, by omega, by decide, by decide, by omega, fun h hh => by (rw [Nat.zero_testBit] at hh; cases hh), fun z => by (cases z)⟩
            · obtain ⟨c1, c2, c3, c4, c5, c6, c7⟩ := a3 r (by omega)
              rw [fN 10 r (by omega) (by omega), fN 11 r (by omega) (by omega), fN 12 r (by omega) (by omega), fN 13 r (by omega) (by omega), fN 14 r (by omega) (by omega), leftS_eq (fN 10 r (by omega) (by omega)) (fN 11 r (by omega) (by omega))]
              refine ⟨c1, c2, c3, c4, c5, c6, fun e => ?_⟩
              obtain ⟨d1, d2, d3, d4, d5, d6⟩ := c7 e
              exact ⟨d1, d2, d3, fun h hh => ru r h (d4 h hh), fun h hh => ru r h (d5 h hh), d6⟩
          · rw [fN 0 4 (by omega) (by omega)] at hb
            rw [fN 15 b (by omega) (by omega), fN 16 b (by omega) (by omega), fN 0 6 (by omega) (by omega)]
            exact a4 b hb
          · rw [fN2] at es
            obtain ⟨s1, s2, s3⟩ := a5 b r h s hb hr hh es
            rw [fN 0 5 (by omega) (by omega), fN 0 4 (by omega) (by omega)]
            exact ⟨s1, s2, ru r h s3⟩
          · rw [fN3] at hr
            rw [fN 11 r (by omega) (by omega)] at hh
            rw [fN2] at es
            rw [fN 0 5 (by omega) (by omega)]
            by_cases er : r = S.1 0 3
            · rw [er] at hh
              exact absurd hh (fun z => z0 h z)
            · exact a6 b r h s hb (by omega) hh es
          · rw [fN 0 6 (by omega) (by omega)] at hi
            obtain ⟨b1, b2, b3, b4, b5, b6, b7, b8, b9, b10, b11⟩ := a7 i hi
            rw [fN 20 i (by omega) (by omega), fN 21 i (by omega) (by omega), fN 22 i (by omega) (by omega), fN 23 i (by omega) (by omega), fN 24 i (by omega) (by omega), fN 27 i (by omega) (by omega), fN 28 i (by omega) (by omega), fN 0 4 (by omega) (by omega), fN 0 2 (by omega) (by omega), fN2]
            refine ⟨b1, b2, b3, b4, b5, b6, b7, b8, b9, fun r h hr hh => ?_, b11⟩
            obtain ⟨l1, l2, l3⟩ := b10 r h hr hh
            rw [fN3, fN 10 r (by omega) (by omega), fN 26 _ (by omega) (by omega), fN 0 5 (by omega) (by omega)]
            exact ⟨by omega, l2, l3⟩
          · rw [fN3] at hr
            rw [fN 11 r (by omega) (by omega)] at hh
            rw [fN 18 _ (by omega) (by omega), fN 0 6 (by omega) (by omega)]
            by_cases er : r = S.1 0 3
            · rw [er] at hh
              exact absurd hh (fun z => z0 h z)
            · exact a8 r h (by omega) hh
          · rw [fN3] at h1
            obtain ⟨l1, l2, l3⟩ := a11 r (by omega) h2
            rw [fN 11 r (by omega) (by omega), fN 12 r (by omega) (by omega)]
            exact ⟨l1, l2, fun k hk => by rw [fN 60 _ (by omega) (by omega)]; exact l3 k hk⟩
          · rw [fN 0 4 (by omega) (by omega)] at h1
            rw [fN 16 b (by omega) (by omega), fN2]
            exact a12 b h1 h2
        · intro b r h h1 h2 h5 h6
          rw [fN 0 4 (by omega) (by omega)] at h1
          rw [fN3] at h5
          rw [fN 11 r (by omega) (by omega)] at h6
          rw [fN2]
          by_cases er : r = S.1 0 3
          · rw [er] at h6
            exact absurd h6 (fun z => z0 h z)
          · exact hE b r h h1 h2 (by omega) h6
theorem opBook_I (hI : Inv S) {a : Int32} : Inv (opBook S a).2 := by
  have hI0 := hI
  obtain ⟨hW, hC, hD, hE⟩ := hI
  have h3 := hW.1
  unfold opBook
  by_cases g : S.1 0 4 = 4
  · rw [if_pos g]
    exact hI0
  · rw [if_neg g]
    cases e : ixO a 1000001 with
    | none => exact hI0
    | some n =>
      obtain ⟨hn, _⟩ := ixO_inv e
      dsimp only
      have hf := hW.2.2.2.2.2.2.2.2.2.2.2 (S.1 0 4) (Nat.le_refl _) (by omega)
      generalize hN : setN (setN S 15 (S.1 0 4) n) 0 4 (S.1 0 4 + 1) = N
      have fN : ∀ x k, (x ≠ 0 ∨ k ≠ 4) → (x ≠ 15 ∨ k ≠ S.1 0 4) → N.1 x k = S.1 x k := fun x k h0 h1 => by rw [← hN, setN_1, if_neg (by omega), setN_1, if_neg (by omega)]
      have fN4 : N.1 0 4 = S.1 0 4 + 1 := by rw [← hN, setN_1, if_pos ⟨rfl, rfl⟩]
      have fN15 : N.1 15 (S.1 0 4) = n := by rw [← hN, setN_1, if_neg (by omega), setN_1, if_pos ⟨rfl, rfl⟩]
      have fN2 : N.2 = S.2 := by rw [← hN]; rfl
      have ru : ∀ r h, runsS S r h → runsS N r h := fun r h hr => by
        obtain ⟨r1, r2, r3⟩ := hr
        refine ⟨by rw [fN 0 3 (by omega) (by omega)]; exact r1, by rw [fN 10 r (by omega) (by omega)]; exact r2, by rw [fN 11 r (by omega) (by omega)]; exact r3⟩
      refine ⟨?_, WFc_same hC (by rw [fN2]), WFd_same hD (fN 0 6 (by omega) (by omega)) (fun i _ => fN 27 i (by omega) (by omega)) (fun r _ => fN 12 r (by omega) (by omega)) (fun i r _ _ => by rw [fN2]), ?_⟩
      · obtain ⟨a1, a2, a3, a4, a5, a6, a7, a8, a9, a10, a11, a12⟩ := hW
        refine ⟨⟨by rw [fN 0 1 (by omega) (by omega)]; exact a1.1, by rw [fN 0 2 (by omega) (by omega)]; exact a1.2.1, by rw [fN 0 3 (by omega) (by omega)]; exact a1.2.2.1, by rw [fN4]; omega, by rw [fN 0 5 (by omega) (by omega)]; exact a1.2.2.2.2.1, by rw [fN 0 6 (by omega) (by omega)]; exact a1.2.2.2.2.2⟩, fun s hs => ?_, fun r hr => ?_, fun b hb => ?_, fun b r h s hb hr hh es => ?_, fun b r h s hb hr hh es => ?_, fun i hi => ?_, fun r h hr hh => ?_, fun k => by rw [fN 60 k (by omega) (by omega)]; exact a9 k, fun k => by rw [fN 1 k (by omega) (by omega)]; exact a10 k, fun r h1 h2 => ?_, fun b h1 h2 => ?_⟩
        · rw [fN 0 5 (by omega) (by omega)] at hs
          rw [fN 8 s (by omega) (by omega), fN 9 s (by omega) (by omega)]
          exact a2 s hs
        · rw [fN 0 3 (by omega) (by omega)] at hr
          obtain ⟨c1, c2, c3, c4, c5, c6, c7⟩ := a3 r hr
          rw [fN 10 r (by omega) (by omega), fN 11 r (by omega) (by omega), fN 12 r (by omega) (by omega), fN 13 r (by omega) (by omega), fN 14 r (by omega) (by omega), leftS_eq (fN 10 r (by omega) (by omega)) (fN 11 r (by omega) (by omega))]
          refine ⟨c1, c2, c3, c4, c5, c6, fun e => ?_⟩
          obtain ⟨d1, d2, d3, d4, d5, d6⟩ := c7 e
          exact ⟨d1, d2, d3, fun h hh => ru r h (d4 h hh), fun h hh => ru r h (d5 h hh), d6⟩
        · rw [fN4] at hb
          rw [fN 16 b (by omega) (by omega), fN 0 6 (by omega) (by omega)]
          by_cases eb : b = S.1 0 4
          · subst eb
            rw [fN15, hf.1]
            omega
          · rw [fN 15 b (by omega) (by omega)]
            exact a4 b (by omega)
        · rw [fN2] at es
          obtain ⟨s1, s2, s3⟩ := a5 b r h s hb hr hh es
          rw [fN 0 5 (by omega) (by omega), fN4]
          exact ⟨s1, by omega, ru r h s3⟩
        · rw [fN 0 3 (by omega) (by omega)] at hr
          rw [fN 11 r (by omega) (by omega)] at hh
          rw [fN2] at es
          rw [fN 0 5 (by omega) (by omega)]
          exact a6 b r h s hb hr hh es
        · rw [fN 0 6 (by omega) (by omega)] at hi
          obtain ⟨b1, b2, b3, b4, b5, b6, b7, b8, b9, b10, b11⟩ := a7 i hi
          rw [fN 20 i (by omega) (by omega), fN 21 i (by omega) (by omega), fN 22 i (by omega) (by omega), fN 23 i (by omega) (by omega), fN 24 i (by omega) (by omega), fN 27 i (by omega) (by omega), fN 28 i (by omega) (by omega), fN4, fN 0 2 (by omega) (by omega), fN2]
          refine ⟨b1, by omega, b3, b4, b5, b6, b7, b8, b9, fun r h hr hh => ?_, b11⟩
          obtain ⟨l1, l2, l3⟩ := b10 r h hr hh
          rw [fN 0 3 (by omega) (by omega), fN 10 r (by omega) (by omega), fN 26 _ (by omega) (by omega), fN 0 5 (by omega) (by omega)]
          exact ⟨l1, l2, l3⟩
        · rw [fN 0 3 (by omega) (by omega)] at hr
          rw [fN 11 r (by omega) (by omega)] at hh
          rw [fN 18 _ (by omega) (by omega), fN 0 6 (by omega) (by omega)]
          exact a8 r h hr hh
        · rw [fN 0 3 (by omega) (by omega)] at h1
          obtain ⟨l1, l2, l3⟩ := a11 r h1 h2
          rw [fN 11 r (by omega) (by omega), fN 12 r (by omega) (by omega)]
          exact ⟨l1, l2, fun k hk => by rw [fN 60 _ (by omega) (by omega)]; exact l3 k hk⟩
        · rw [fN4] at h1
          rw [fN 16 b (by omega) (by omega), fN2]
          exact a12 b (by omega) h2
      · intro b r h h1 h2 h5 h6
        rw [fN4] at h1
        rw [fN 0 3 (by omega) (by omega)] at h5
        rw [fN 11 r (by omega) (by omega)] at h6
        rw [fN2]
        exact hE b r h (by omega) h2 h5 h6
theorem putB_I (hI : Inv S) {n : Nat} (hn : n < 256) (h1 : S.1 0 1 < 200) : Inv (putB S n) := by
  obtain ⟨hW, hC, hD, hE⟩ := hI
  have f : ∀ c k, (c ≠ 0 ∨ k ≠ 1) → c ≠ 1 → (putB S n).1 c k = S.1 c k := fun c k h1 h2 => by rw [putB_1, if_neg (by omega), if_neg (by omega)]
  exact ⟨putB_WF hW hn h1, WFc_same hC rfl, WFd_same hD (f 0 6 (by omega) (by omega)) (fun i _ => f 27 i (by omega) (by omega)) (fun r _ => f 12 r (by omega) (by omega)) (fun _ _ _ _ => rfl), WFe_same hE (f 0 3 (by omega) (by omega)) (f 0 4 (by omega) (by omega)) (fun r => f 11 r (by omega) (by omega)) (fun _ => rfl)⟩
theorem putW_I (hI : Inv S) {w : Int32} (h1 : S.1 0 1 + 4 ≤ 200) : Inv (putW S w) ∧ (putW S w).1 0 1 = S.1 0 1 + 4 := by
  unfold putW
  refine ⟨putB_I (putB_I (putB_I (putB_I hI (byN_lt _ _) (by omega)) (byN_lt _ _) ?_) (byN_lt _ _) ?_) (byN_lt _ _) ?_, ?_⟩
  · rw [putB_t]; omega
  · rw [putB_t, putB_t]; omega
  · rw [putB_t, putB_t, putB_t]; omega
  · rw [putB_t, putB_t, putB_t, putB_t]
theorem opFeed_I (hI : Inv S) {a b c d e : Int32} : Inv (opFeed S a b c d e).2 := by
  unfold opFeed
  by_cases g : S.1 0 1 + 20 ≤ 200
  · rw [if_pos g]
    dsimp only
    obtain ⟨i1, t1⟩ := putW_I hI (w := a) (by omega)
    obtain ⟨i2, t2⟩ := putW_I i1 (w := b) (by omega)
    obtain ⟨i3, t3⟩ := putW_I i2 (w := c) (by omega)
    obtain ⟨i4, t4⟩ := putW_I i3 (w := d) (by omega)
    exact (putW_I i4 (w := e) (by omega)).1
  · rw [if_neg g]
    exact hI
theorem setF1_I (hI : Inv S) : Inv (setN S 0 1 0) := by
  obtain ⟨hW, hC, hD, hE⟩ := hI
  have f : ∀ c k, (c ≠ 0 ∨ k ≠ 1) → (setN S 0 1 0).1 c k = S.1 c k := fun c k h1 => by rw [setN_1, if_neg (by omega)]
  exact ⟨setF1_WF hW (by decide), WFc_same hC rfl, WFd_same hD (f 0 6 (by omega)) (fun i _ => f 27 i (by omega)) (fun r _ => f 12 r (by omega)) (fun _ _ _ _ => rfl), WFe_same hE (f 0 3 (by omega)) (f 0 4 (by omega)) (fun r => f 11 r (by omega)) (fun _ => rfl)⟩
theorem opCheck_I (hI : Inv S) {a b : Int32} : Inv (opCheck S a b).2 := by
  unfold opCheck
  cases ixO a (S.1 0 4) with
  | none => exact hI
  | some bk =>
    dsimp only
    cases ixO b (S.1 0 1 / 8 + 1) with
    | none => exact hI
    | some n => exact setF1_I hI
theorem ladL_I {n : Nat} (hn : n ≤ 24) : ∀ m (S : z_SS), m ≤ n → Inv S → S.1 0 5 = 0 → (∀ j, j < n - m → 1 ≤ S.1 8 j ∧ S.1 8 j ≤ 60 ∧ 1 ≤ S.1 9 j ∧ S.1 9 j ≤ 12) → Inv (ladL S n m).2 := by
  intro m
  induction m with
  | zero =>
    intro S _ hI h5 hj
    obtain ⟨hW, hC, hD, hE⟩ := hI
    have f : ∀ c k, (c ≠ 0 ∨ k ≠ 5) → (setN S 0 5 n).1 c k = S.1 c k := fun c k h1 => by rw [setN_1, if_neg (by omega)]
    refine ⟨?_, WFc_same hC rfl, WFd_same hD (f 0 6 (by omega)) (fun i _ => f 27 i (by omega)) (fun r _ => f 12 r (by omega)) (fun _ _ _ _ => rfl), WFe_same hE (f 0 3 (by omega)) (f 0 4 (by omega)) (fun r => f 11 r (by omega)) (fun _ => rfl)⟩
    obtain ⟨a1, a2, a3, a4, a5, a6, a7, a8, a9, a10, a11, a12⟩ := hW
    refine ⟨⟨a1.1, a1.2.1, a1.2.2.1, a1.2.2.2.1, hn, a1.2.2.2.2.2⟩, fun s hs => hj s (show s < n from hs), a3, a4, fun b r h s hb hr hh es => ?_, fun b r h s hb hr hh es => ?_, fun i hi => ?_, a8, a9, a10, a11, a12⟩
    · have := (a5 b r h s hb hr hh es).1
      omega
    · have := a6 b r h s hb hr hh es
      omega
    · obtain ⟨b1, b2, b3, b4, b5, b6, b7, b8, b9, b10, b11⟩ := a7 i hi
      refine ⟨b1, b2, b3, b4, b5, b6, b7, b8, b9, fun r h hr hh => ?_, b11⟩
      have := (b10 r h hr hh).2.2
      omega
  | succ m ih =>
    intro S hm hI h5 hj
    have hI0 := hI
    obtain ⟨hW, hC, hD, hE⟩ := hI
    unfold ladL
    by_cases g : priceOk S (n - (m + 1)) (S.1 1 (2 * (n - (m + 1)))) (S.1 1 (2 * (n - (m + 1)) + 1)) = true
    · rw [if_pos g]
      unfold priceOk at g
      rw [Bool.and_eq_true, decide_eq_true_eq] at g
      obtain ⟨p1, _⟩ := g
      generalize hN : setN (setN S 8 (n - (m + 1)) (S.1 1 (2 * (n - (m + 1))))) 9 (n - (m + 1)) (S.1 1 (2 * (n - (m + 1)) + 1)) = N
      have f : ∀ c k, c ≠ 8 → c ≠ 9 → N.1 c k = S.1 c k := fun c k h1 h2 => by rw [← hN, setN_1, if_neg (by omega), setN_1, if_neg (by omega)]
      have f8 : ∀ j, N.1 8 j = if j = n - (m + 1) then S.1 1 (2 * (n - (m + 1))) else S.1 8 j := fun j => by
        rw [← hN, setN_1, if_neg (by omega), setN_1]
        by_cases e : j = n - (m + 1)
        · rw [if_pos ⟨rfl, e⟩, if_pos e]
        · rw [if_neg (fun z => e z.2), if_neg e]
      have f9 : ∀ j, N.1 9 j = if j = n - (m + 1) then S.1 1 (2 * (n - (m + 1)) + 1) else S.1 9 j := fun j => by
        rw [← hN, setN_1]
        by_cases e : j = n - (m + 1)
        · rw [if_pos ⟨rfl, e⟩, if_pos e]
        · rw [if_neg (fun z => e z.2), if_neg e, setN_1, if_neg (by omega)]
      have fN2 : N.2 = S.2 := by rw [← hN]; rfl
      refine ih N (by omega) ⟨?_, WFc_same hC (by rw [fN2]), WFd_same hD (f 0 6 (by omega) (by omega)) (fun i _ => f 27 i (by omega) (by omega)) (fun r _ => f 12 r (by omega) (by omega)) (fun _ _ _ _ => by rw [fN2]), WFe_same hE (f 0 3 (by omega) (by omega)) (f 0 4 (by omega) (by omega)) (fun r => f 11 r (by omega) (by omega)) (fun _ => by rw [fN2])⟩ (by rw [f 0 5 (by omega) (by omega)]; exact h5) (fun j hj2 => ?_)
      · have e10 := fun k => f 10 k (by omega) (by omega)
        have e11 := fun k => f 11 k (by omega) (by omega)
        have e12 := fun k => f 12 k (by omega) (by omega)
        have e13 := fun k => f 13 k (by omega) (by omega)
        have e14 := fun k => f 14 k (by omega) (by omega)
        have e15 := fun k => f 15 k (by omega) (by omega)
        have e16 := fun k => f 16 k (by omega) (by omega)
        have e18 := fun k => f 18 k (by omega) (by omega)
        have e20 := fun k => f 20 k (by omega) (by omega)
        have e21 := fun k => f 21 k (by omega) (by omega)
        have e22 := fun k => f 22 k (by omega) (by omega)
        have e23 := fun k => f 23 k (by omega) (by omega)
        have e24 := fun k => f 24 k (by omega) (by omega)
        have e26 := fun k => f 26 k (by omega) (by omega)
        have e27 := fun k => f 27 k (by omega) (by omega)
        have e28 := fun k => f 28 k (by omega) (by omega)
        have e60 := fun k => f 60 k (by omega) (by omega)
        have e0 := fun k => f 0 k (by omega) (by omega)
        have e1 := fun k => f 1 k (by omega) (by omega)
        unfold WF at hW ⊢
        unfold leftS at hW ⊢
        simp only [runsS, e0, e1, e10, e11, e12, e13, e14, e15, e16, e18, e20, e21, e22, e23, e24, e26, e27, e28, e60, fN2] at hW ⊢
        obtain ⟨a1, a2, a3⟩ := hW
        exact ⟨a1, fun s hs => absurd hs (by omega), a3⟩
      · rw [f8, f9]
        by_cases e : j = n - (m + 1)
        · rw [if_pos e, if_pos e]
          exact p1
        · rw [if_neg e, if_neg e]
          exact hj j (by omega)
    · rw [if_neg g]
      exact hI0
theorem opLadder_I (hI : Inv S) {a : Int32} : Inv (opLadder S a).2 := by
  unfold opLadder
  by_cases g : 0 < S.1 0 5
  · rw [if_pos g]
    exact hI
  · rw [if_neg g]
    cases e : ixO a 25 with
    | none => exact hI
    | some n =>
      obtain ⟨hn, _⟩ := ixO_inv e
      dsimp only
      by_cases g0 : n = 0
      · rw [if_pos g0]
        exact hI
      · rw [if_neg g0]
        by_cases g1 : 2 * n ≤ S.1 0 1
        · rw [if_pos g1]
          refine ladL_I (by omega) n _ (Nat.le_refl _) (setF1_I hI) (by rw [setN_1, if_neg (by omega)]; omega) (fun j hj => absurd hj (by omega))
        · rw [if_neg g1]
          exact hI
theorem opSlate_I (hI : Inv S) {a b c d : Int32} : Inv (opSlate S a b c d).2 := by
  have hI0 := hI
  obtain ⟨hW, hC, hD, hE⟩ := hI
  have h3 := hW.1
  unfold opSlate
  cases ea : ixO a (S.1 0 4) with
  | none => exact hI0
  | some bk =>
    have hb := (ixO_inv ea).1
    dsimp only
    cases eb : ixO b (S.1 0 3) with
    | none => exact hI0
    | some r =>
      have hr := (ixO_inv eb).1
      dsimp only
      cases ec : ixO c (S.1 10 r) with
      | none => exact hI0
      | some h =>
        have hh := (ixO_inv ec).1
        have h4 := hW.2.2.1 r hr
        dsimp only
        by_cases g : (S.1 11 r).testBit h = true
        · rw [if_pos g]
          exact hI0
        · rw [if_neg g]
          by_cases g2 : S.1 12 r = 0
          · rw [if_pos g2]
            cases ed : stO d (S.1 0 5) with
            | none => exact hI0
            | some o =>
              dsimp only
              have ho : ∀ s, o = some s → s < S.1 0 5 := fun s es => by
                unfold stO at ed
                split at ed
                · cases ed
                  cases es
                · cases e9 : ixO d (S.1 0 5) with
                  | none => rw [e9] at ed; cases ed
                  | some s' =>
                    rw [e9] at ed
                    cases ed
                    cases es
                    exact (ixO_inv e9).1
              have fo : ∀ c k, c ≠ 17 → (setO S 17 (24 * bk + 8 * r + h) o).2.1 c k = S.2.1 c k := fun c k hc => by rw [setO_2, if_neg (fun z => hc z.1)]
              refine ⟨?_, WFc_same hC rfl, WFd_same hD rfl (fun _ _ => rfl) (fun _ _ => rfl) (fun i r _ _ => fo 25 _ (by decide)), WFe_same hE rfl rfl (fun _ => rfl) (fun k => fo 19 k (by decide))⟩
              have e19 := fun k => fo 19 k (by decide)
              have e25 := fun k => fo 25 k (by decide)
              unfold WF at hW ⊢
              simp only [e19, e25]
              obtain ⟨a1, a2, a3, a4, a5, a6⟩ := hW
              refine ⟨a1, a2, a3, a4, fun b' r' h' s hb' hr' hh' es => ?_, a6⟩
              rw [setO_2] at es
              by_cases e : 17 = 17 ∧ 24 * b' + 8 * r' + h' = 24 * bk + 8 * r + h
              · rw [if_pos e] at es
                have e1 : b' = bk := by omega
                have e2 : r' = r := by omega
                have e3 : h' = h := by omega
                rw [e1, e2, e3]
                exact ⟨ho s es, hb, hr, hh, Bool.eq_false_iff.mpr g⟩
              · rw [if_neg e] at es
                exact a5 b' r' h' s hb' hr' hh' es
          · rw [if_neg g2]
            exact hI0
theorem mvO_I (hI : Inv S) {b r : Nat} {o : Option Nat} : Inv (mvO S b r o) := by
  obtain ⟨hW, hC, hD, hE⟩ := hI
  obtain ⟨m1, m2, m3⟩ := mvO_1 (S := S) (b := b) (r := r) (o := o)
  exact ⟨mvO_WF hW, WFc_same hC m2, WFd_same hD (by rw [m1]) (fun _ _ => by rw [m1]) (fun _ _ => by rw [m1]) (fun _ _ _ _ => by rw [m3 25 (by decide)]), WFe_same hE (by rw [m1]) (by rw [m1]) (fun _ => by rw [m1]) (fun _ => by rw [m3 19 (by decide)])⟩
theorem newBet_I (hI : Inv S) {z b kd st paid : Nat} {leg : Nat → Option Nat} (h6 : S.1 0 6 < 80) (hz : z < 16) (hb : b < S.1 0 4) (hkd : kd ≤ 3) (h1 : 1 ≤ st) (h2 : st ≤ 20000) (hp : paid ≤ 40000) (hl : ∀ r h, r < 3 → leg r = some h → runsS S r h ∧ S.1 12 r = 0 ∧ ∃ s, S.2.1 17 (24 * b + 8 * r + h) = some s) (he : ∃ r, r < 3 ∧ leg r ≠ none) (hu : kd ≠ 3 → ∀ r r', r < 3 → r' < 3 → leg r ≠ none → leg r' ≠ none → r = r') : Inv (newBet S z b kd st paid leg) := by
  obtain ⟨hW, hC, hD, hE⟩ := hI
  have f : ∀ c k, (c ≠ 0 ∨ k ≠ 6) → c < 15 → (newBet S z b kd st paid leg).1 c k = S.1 c k := fun c k h1 h2 => nbg h1 (Or.inl (by omega)) (by omega) (by omega)
  refine ⟨newBet_WF hW h6 hz hb hkd h1 h2 hp hl he hu, WFc_same hC nb_live, fun i hi => ?_, WFe_same hE (f 0 3 (by omega) (by omega)) (f 0 4 (by omega) (by omega)) (fun r => f 11 r (by omega) (by omega)) (fun k => by rw [nbo (by decide)])⟩
  rw [nb6] at hi
  by_cases e : i = S.1 0 6
  · subst e
    rw [nb27, if_pos rfl]
    refine ⟨fun z => by (cases z), fun ho => ?_⟩
    obtain ⟨r, hr, hn⟩ := he
    have := ho r hr (by rw [nb25n hr]; exact hn)
    rw [f 12 r (by omega) (by omega)] at this
    cases el : leg r with
    | none => exact absurd el hn
    | some h =>
      have := (hl r h hr el).2.1
      omega
  · have hi' : i < S.1 0 6 := by omega
    rw [nb27, if_neg e, hD i hi']
    constructor
    · intro ho r hr hn
      rw [f 12 r (by omega) (by omega)]
      exact ho r hr (by rw [nb25i hi' hr] at hn; exact hn)
    · intro ho r hr hn
      rw [← f 12 r (by omega) (by omega)]
      exact ho r hr (by rw [nb25i hi' hr]; exact hn)
theorem canB_inv {bk r h : Nat} {x y : Int32} (e : canB S bk x y = some (r, h)) : runsS S r h ∧ S.1 12 r = 0 ∧ ∃ s, S.2.1 17 (24 * bk + 8 * r + h) = some s := by
  unfold canB at e
  cases e1 : ixO x (S.1 0 3) with
  | none => rw [e1] at e; cases e
  | some r' =>
    rw [e1] at e
    dsimp only at e
    cases e2 : ixO y (S.1 10 r') with
    | none => rw [e2] at e; cases e
    | some h' =>
      rw [e2] at e
      dsimp only at e
      by_cases g : (S.1 11 r').testBit h' = false ∧ S.1 12 r' = 0 ∧ S.2.1 17 (24 * bk + 8 * r' + h') ≠ none
      · rw [if_pos g] at e
        cases e
        refine ⟨⟨(ixO_inv e1).1, (ixO_inv e2).1, g.1⟩, g.2.1, ?_⟩
        cases es : S.2.1 17 (24 * bk + 8 * r + h) with
        | none => exact absurd es g.2.2
        | some s => exact ⟨s, rfl⟩
      · rw [if_neg g] at e
        cases e
theorem opBet_I (hI : Inv S) {a b c d e f : Int32} : Inv (opBet S a b c d e f).2 := by
  have h3 := hI.1.1
  unfold opBet
  by_cases g6 : S.1 0 6 = 80
  · rw [if_pos g6]
    exact hI
  rw [if_neg g6]
  cases ea : ixO a 16 with
  | none => exact hI
  | some z =>
    have hz := (ixO_inv ea).1
    dsimp only
    cases eb : ixO b (S.1 0 4) with
    | none => exact hI
    | some bk =>
      have hb := (ixO_inv eb).1
      dsimp only
      by_cases g16 : S.1 16 bk = 0
      · rw [if_pos g16]
        cases ec : ixO c 3 with
        | none => exact hI
        | some kk =>
          have hk := (ixO_inv ec).1
          dsimp only
          cases ek : canB S bk d e with
          | none => exact hI
          | some p =>
            obtain ⟨r, h⟩ := p
            obtain ⟨c1, c2, c3⟩ := canB_inv ek
            dsimp only
            cases ef : ixO f 20001 with
            | none => exact hI
            | some st =>
              have hst := (ixO_inv ef).1
              dsimp only
              by_cases g0 : st = 0
              · rw [if_pos g0]
                exact hI
              · rw [if_neg g0]
                have hr := c1.1
                refine mvO_I (o := some h) (newBet_I hI (by omega) hz hb (by omega) (by omega) (by omega) (by split <;> omega) (fun r' h' hr' e' => ?_) ⟨r, by omega, by rw [if_pos rfl]; exact Option.some_ne_none h⟩ (fun _ r1 r2 _ _ g1 g2 => ?_))
                · by_cases g : r' = r
                  · rw [if_pos g] at e'
                    cases e'
                    rw [g]
                    exact ⟨c1, c2, c3⟩
                  · rw [if_neg g] at e'
                    cases e'
                · have k : ∀ r', (if r' = r then some h else none) ≠ none → r' = r := fun r' z => by
                    by_cases g : r' = r
                    · exact g
                    · rw [if_neg g] at z
                      exact absurd rfl z
                  rw [k r1 g1, k r2 g2]
      · rw [if_neg g16]
        exact hI
theorem legO_inv {bk r h : Nat} {x : Int32} (hr : r < 3) (h3 : S.1 0 3 ≤ 3) (e : legO S bk r x = some (some h)) : runsS S r h ∧ S.1 12 r = 0 ∧ ∃ s, S.2.1 17 (24 * bk + 8 * r + h) = some s := by
  unfold legO at e
  split at e
  · cases e
  · cases ec : canB S bk (nI r) x with
    | none => rw [ec] at e; cases e
    | some p =>
      obtain ⟨r', h'⟩ := p
      rw [ec] at e
      dsimp only at e
      cases e
      have hc := canB_inv ec
      have er : r' = r := by
        unfold canB at ec
        cases e1 : ixO (nI r) (S.1 0 3) with
        | none => rw [e1] at ec; cases ec
        | some r2 =>
          obtain ⟨j1, j2⟩ := ixO_inv e1
          have := (nI_eq (by omega) (by omega)).mp j2
          rw [e1] at ec
          dsimp only at ec
          split at ec
          · cases ec
          · split at ec
            · cases ec
              exact this.symm
            · cases ec
      rw [er] at hc
      exact hc
theorem opJoined_I (hI : Inv S) {a b c d e f : Int32} : Inv (opJoined S a b c d e f).2 := by
  have h3 := hI.1.1
  unfold opJoined
  by_cases g6 : S.1 0 6 = 80
  · rw [if_pos g6]
    exact hI
  rw [if_neg g6]
  cases ea : ixO a 16 with
  | none => exact hI
  | some z =>
    have hz := (ixO_inv ea).1
    dsimp only
    cases eb : ixO b (S.1 0 4) with
    | none => exact hI
    | some bk =>
      have hb := (ixO_inv eb).1
      dsimp only
      by_cases g16 : S.1 16 bk = 0
      · rw [if_pos g16]
        cases ef : ixO f 20001 with
        | none => exact hI
        | some st =>
          have hst := (ixO_inv ef).1
          dsimp only
          by_cases g0 : st = 0
          · rw [if_pos g0]
            exact hI
          · rw [if_neg g0]
            cases e0 : legO S bk 0 c with
            | none => exact hI
            | some l0 =>
              cases e1 : legO S bk 1 d with
              | none => exact hI
              | some l1 =>
                cases e2 : legO S bk 2 e with
                | none => exact hI
                | some l2 =>
                  dsimp only
                  by_cases g : 2 ≤ cnt3 l0 l1 l2
                  · rw [if_pos g]
                    refine mvO_I (mvO_I (mvO_I (newBet_I hI (by omega) hz hb (by decide) (by omega) (by omega) (by omega) (fun r h hr el => ?_) ?_ (fun z => absurd rfl z))))
                    · rcases (show r = 0 ∨ r = 1 ∨ r = 2 by omega) with q | q | q <;> subst q
                      · exact legO_inv (by decide) (by omega) (e0.trans (congrArg some el))
                      · exact legO_inv (by decide) (by omega) (e1.trans (congrArg some el))
                      · exact legO_inv (by decide) (by omega) (e2.trans (congrArg some el))
                    · cases l0 with
                      | some x => exact ⟨0, by decide, Option.some_ne_none x⟩
                      | none =>
                        cases l1 with
                        | some x => exact ⟨1, by decide, Option.some_ne_none x⟩
                        | none =>
                          exfalso
                          unfold cnt3 at g
                          rw [if_pos rfl] at g
                          split at g <;> omega
                  · rw [if_neg g]
                    exact hI
      · rw [if_neg g16]
        exact hI
end INV2
