/-! The reference: run, has, deduction, check. -/
section REF8
variable {B : Nat} {S : z_SS} {μ : z_M}
theorem winS_le (hW : WF B S) {i r h : Nat} (hi : i < S.1 0 6) (hs : S.1 26 (3 * i + r) < S.1 0 5) : winS S i r h ≤ 1220000 := by
  have h5 := hW.2.2.2.2.2.2.1 i hi
  have h7 := hW.2.1 _ hs
  unfold winS
  split
  · omega
  · split
    · have hq : S.1 23 i / popN (S.1 13 r) ≤ 20000 := Nat.le_trans (Nat.div_le_self _ _) (by omega)
      have hm := div_le60 (b := S.1 9 (S.1 26 (3 * i + r))) hq h7.2.1
      have hk := keptS_le (d := dedS S i r) (z := S.1 23 i / popN (S.1 13 r) * S.1 8 (S.1 26 (3 * i + r)) / S.1 9 (S.1 26 (3 * i + r)))
      omega
    · omega
theorem placeS_le (hW : WF B S) {i r h : Nat} (hi : i < S.1 0 6) (hs : S.1 26 (3 * i + r) < S.1 0 5) : placeS S i r h ≤ 1220000 := by
  have h5 := hW.2.2.2.2.2.2.1 i hi
  have h7 := hW.2.1 _ hs
  unfold placeS
  split
  · omega
  · split
    · omega
    · split
      · have hk := keptS_le (d := dedS S i r) (z := S.1 23 i * S.1 8 (S.1 26 (3 * i + r)) / (S.1 9 (S.1 26 (3 * i + r)) * (if 8 ≤ leftS S r then 5 else 4)))
        have hm := div_le60 (b := S.1 9 (S.1 26 (3 * i + r)) * (if 8 ≤ leftS S r then 5 else 4)) (show S.1 23 i ≤ 20000 by omega) h7.2.1
        omega
      · omega
theorem joinS_le (S : z_SS) (i : Nat) : ∀ m st nu de, joinS S i m st nu de ≤ 1000000000 := by
  intro m
  induction m with
  | zero =>
    intro st nu de
    unfold joinS
    split <;> omega
  | succ m ih =>
    intro st nu de
    unfold joinS
    split
    · exact ih _ _ _
    · split
      · exact ih _ _ _
      · split
        · exact ih _ _ _
        · omega
theorem backS_le (hW : WF B S) {i : Nat} (hi : i < S.1 0 6) : backS S i ≤ 1000000000 := by
  obtain ⟨hr, hl⟩ := raceOfS_ok hW hi
  have hs := ((hW.2.2.2.2.2.2.1 i hi).2.2.2.2.2.2.2.2.2.1 _ _ hr hl).2.2
  have h1 := winS_le hW (h := legH S i) hi hs
  have h2 := placeS_le hW (h := legH S i) hi hs
  unfold backS
  split
  · exact joinS_le S i _ _ _ _
  · split <;> split <;> omega
theorem r_isOut (hB : B ≤ 84) (hR : RepR S μ) (hW : WF B S) {i : Nat} (hi : i < S.1 0 6) {K : Int32 → z_M → Prop} (h1 : outP S i → K 1 μ) (h0 : ¬ outP S i → K 0 μ) : C_X12_isOut (nI i) μ K := by
  have h3 := hW.1
  unfold C_X12_isOut L_X12_isOut_2
  intro P hP
  have go : ∀ m, m ≤ 3 → (∀ r, r < 3 - m → S.2.1 25 (3 * i + r) ≠ none → S.1 12 r = 1) → P (nI i) (nI (3 - m)) μ := by
    intro m
    induction m with
    | zero =>
      intro _ hp
      refine hP _ _ _ ?_
      unfold B_X12_isOut_2
      rw [if_pos (by decide)]
      exact h1 hp
    | succ m ih =>
      intro hm hp
      refine hP _ _ _ ?_
      unfold B_X12_isOut_2
      refine ifc (nI_leI (a := 3) (by omega) (by omega)) (fun g => absurd g (by omega)) (fun _ => ?_)
      have er : 3 - (m + 1) + 1 = 3 - m := by omega
      rw [r_leg, nI_clamp (n := 3 * i + (3 - (m + 1))) (by omega), hR.o (c := 25) rfl, nI_1, er]
      refine ⟨nI_vin (by omega) (by omega), ifc (oI_eq_m1 (fun k hk => by have := wf_leg hW hi (by omega) k hk; omega)) (fun e => ?_) (fun e => ?_)⟩
      · refine ih (by omega) fun r hr hn => ?_
        by_cases g : r = 3 - (m + 1)
        · rw [g] at hn
          exact absurd e hn
        · exact hp r (by omega) hn
      · obtain ⟨h, hl⟩ := Option.ne_none_iff_exists'.mp e
        have g3 := wf_leg3 hB hW hi (by omega) hl
        have g4 := hW.2.2.1 _ g3.1
        rw [nI_clamp (by omega), hR.a (c := 12) rfl]
        refine ⟨nI_vin (by omega) (by omega), ifc (nI_eq (b := 0) (by omega) (by omega)) (fun g => ?_) (fun g => ?_)⟩
        · refine h0 fun ho => ?_
          have := ho _ (by omega) e
          omega
        · refine ih (by omega) fun r hr hn => ?_
          by_cases g : r = 3 - (m + 1)
          · rw [g]
            omega
          · exact hp r (by omega) hn
  exact go 3 (Nat.le_refl _) (fun r hr => absurd hr (by omega))
theorem r_pays (hB : B ≤ 84) (hR : RepR S μ) (hW : WF B S) {i : Nat} (hi : i < S.1 0 6) (ho : outP S i) {K : z_M → Prop} (hK : ∀ μ', RepR (paysS S i) μ' → K μ') : C_X12_pays (nI i) μ K := by
  have h5 := hW.2.2.2.2.2.2.1 i hi
  have h0 := hW.1
  have h4 := hW.2.2.2.1 _ h5.2.1
  have h6 := backS_le hW hi
  unfold C_X12_pays
  rw [nI_clamp (by omega), hR.a (c := 21) rfl, nI_clamp (by omega)]
  refine ⟨nI_vin (by omega) (by omega), r_backOf hB hR hW hi ho ⟨nI_vin (by omega) (by omega), ?_⟩⟩
  have e1 : (1 : Int32) &&& 1 = nI 1 := by decide
  rw [e1, show (si μ 27 i (nI 1)).1 16 (S.1 21 i) = nI (S.1 16 (S.1 21 i)) by rw [si1, if_neg (by omega)]; exact hR.a rfl, show (si μ 27 i (nI 1)).1 15 (S.1 21 i) = nI (S.1 15 (S.1 21 i)) by rw [si1, if_neg (by omega)]; exact hR.a rfl]
  unfold paysS at hK
  refine ifc (nI_eq (b := 0) (by omega) (by omega)) (fun e => ?_) (fun e => ?_)
  · rw [if_pos e] at hK
    refine ifc (nI_leI (by omega) (by omega)) (fun e2 => ?_) (fun e2 => ?_)
    · rw [if_pos e2] at hK
      exact hK _ (((hR.setA rfl rfl).setA rfl (pk_sub e2)).setA rfl rfl)
    · rw [if_neg e2] at hK
      exact hK _ ((hR.setA rfl rfl).setA rfl rfl)
  · rw [if_neg e] at hK
    exact hK _ (hR.setA rfl rfl)
/-- what pays leaves as it is -/
theorem paysS_k {i c k : Nat} (h15 : c ≠ 15) (h16 : c ≠ 16) (h27 : c ≠ 27) (h28 : c ≠ 28) : (paysS S i).1 c k = S.1 c k := by
  unfold paysS
  split
  · split
    · rw [setN_1, if_neg (by omega), setN_1, if_neg (by omega), setN_1, if_neg (by omega)]
    · rw [setN_1, if_neg (by omega), setN_1, if_neg (by omega)]
  · rw [setN_1, if_neg (by omega)]
theorem paysS_2 {i : Nat} : (paysS S i).2 = S.2 := by
  unfold paysS
  split
  · split <;> rfl
  · rfl
theorem paysS_WF (hW : WF B S) {i : Nat} (hi : i < S.1 0 6) : WF B (paysS S i) := by
  have e0 : ∀ k, (paysS S i).1 0 k = S.1 0 k := fun k => paysS_k (by decide) (by decide) (by decide) (by decide)
  have e1 : ∀ k, (paysS S i).1 1 k = S.1 1 k := fun k => paysS_k (by decide) (by decide) (by decide) (by decide)
  have e8 : ∀ k, (paysS S i).1 8 k = S.1 8 k := fun k => paysS_k (by decide) (by decide) (by decide) (by decide)
  have e9 : ∀ k, (paysS S i).1 9 k = S.1 9 k := fun k => paysS_k (by decide) (by decide) (by decide) (by decide)
  have e10 : ∀ k, (paysS S i).1 10 k = S.1 10 k := fun k => paysS_k (by decide) (by decide) (by decide) (by decide)
  have e11 : ∀ k, (paysS S i).1 11 k = S.1 11 k := fun k => paysS_k (by decide) (by decide) (by decide) (by decide)
  have e12 : ∀ k, (paysS S i).1 12 k = S.1 12 k := fun k => paysS_k (by decide) (by decide) (by decide) (by decide)
  have e13 : ∀ k, (paysS S i).1 13 k = S.1 13 k := fun k => paysS_k (by decide) (by decide) (by decide) (by decide)
  have e14 : ∀ k, (paysS S i).1 14 k = S.1 14 k := fun k => paysS_k (by decide) (by decide) (by decide) (by decide)
  have e18 : ∀ k, (paysS S i).1 18 k = S.1 18 k := fun k => paysS_k (by decide) (by decide) (by decide) (by decide)
  have e20 : ∀ k, (paysS S i).1 20 k = S.1 20 k := fun k => paysS_k (by decide) (by decide) (by decide) (by decide)
  have e21 : ∀ k, (paysS S i).1 21 k = S.1 21 k := fun k => paysS_k (by decide) (by decide) (by decide) (by decide)
  have e22 : ∀ k, (paysS S i).1 22 k = S.1 22 k := fun k => paysS_k (by decide) (by decide) (by decide) (by decide)
  have e23 : ∀ k, (paysS S i).1 23 k = S.1 23 k := fun k => paysS_k (by decide) (by decide) (by decide) (by decide)
  have e24 : ∀ k, (paysS S i).1 24 k = S.1 24 k := fun k => paysS_k (by decide) (by decide) (by decide) (by decide)
  have e26 : ∀ k, (paysS S i).1 26 k = S.1 26 k := fun k => paysS_k (by decide) (by decide) (by decide) (by decide)
  have e60 : ∀ k, (paysS S i).1 60 k = S.1 60 k := fun k => paysS_k (by decide) (by decide) (by decide) (by decide)
  have h15 : ∀ k, (paysS S i).1 15 k ≤ S.1 15 k := by
    intro k
    unfold paysS
    split
    · split
      · rw [setN_1, if_neg (by omega), setN_1, setN_1, if_neg (show ¬ (15 = 27 ∧ k = i) by omega)]
        split
        · rename_i h
          rw [h.2]
          omega
        · exact Nat.le_refl _
      · exact Nat.le_refl _
    · exact Nat.le_refl _
  have h16 : ∀ k, (paysS S i).1 16 k = S.1 16 k ∨ ((paysS S i).1 16 k = 1 ∧ k = S.1 21 i) := by
    intro k
    unfold paysS
    split
    · split
      · exact Or.inl rfl
      · rw [setN_1]
        split
        · rename_i h
          exact Or.inr ⟨rfl, h.2⟩
        · exact Or.inl rfl
    · exact Or.inl rfl
  have h27 : ∀ k, (paysS S i).1 27 k ≤ 1 ∨ (paysS S i).1 27 k = S.1 27 k := by
    intro k
    unfold paysS
    have : (setN S 27 i 1).1 27 k ≤ 1 ∨ (setN S 27 i 1).1 27 k = S.1 27 k := by
      rw [setN_1]
      split
      · exact Or.inl (Nat.le_refl _)
      · exact Or.inr rfl
    split
    · split
      · exact this
      · exact this
    · exact this
  have h28 : ∀ k, (paysS S i).1 28 k ≤ 1 ∨ (paysS S i).1 28 k = S.1 28 k := by
    intro k
    unfold paysS
    split
    · split
      · rw [setN_1]
        split
        · exact Or.inl (Nat.le_refl _)
        · exact Or.inr rfl
      · exact Or.inr rfl
    · exact Or.inr rfl
  have hb := (hW.2.2.2.2.2.2.1 i hi).2.1
  unfold WF at hW ⊢
  unfold leftS at hW ⊢
  simp only [runsS, e0, e1, e8, e9, e10, e11, e12, e13, e14, e18, e20, e21, e22, e23, e24, e26, e60, paysS_2] at hW ⊢
  obtain ⟨a1, a2, a3, a4, a5, a6, a7, a8, a9, a10, a11, a12⟩ := hW
  refine ⟨a1, a2, a3, fun b hb => ⟨Nat.le_trans (h15 b) (a4 b hb).1, ?_⟩, a5, a6, fun j hj => ?_, a8, a9, a10, a11, fun b h1 h2 => ⟨?_, (a12 b h1 h2).2⟩⟩
  · have := (a4 b hb).2
    have := h16 b
    omega
  · obtain ⟨b1, b2, b3, b4, b5, b6, b7, b8, b9⟩ := a7 j hj
    have := h27 j
    have := h28 j
    exact ⟨b1, b2, b3, b4, b5, b6, by omega, by omega, b9⟩
  · have := (a12 b h1 h2).1
    have := h16 b
    omega
/-- what the run over the bets leaves as it is -/
theorem runN_k {c k : Nat} (h15 : c ≠ 15) (h16 : c ≠ 16) (h27 : c ≠ 27) (h28 : c ≠ 28) : ∀ n, (runN S n).2.1 c k = S.1 c k := by
  intro n
  induction n with
  | zero => rfl
  | succ n ih =>
    unfold runN
    split
    · rw [paysS_k h15 h16 h27 h28, ih]
    · exact ih
theorem runN_2 : ∀ n, (runN S n).2.2 = S.2 := by
  intro n
  induction n with
  | zero => rfl
  | succ n ih =>
    unfold runN
    split
    · rw [paysS_2, ih]
    · exact ih
theorem runN_WF (hW : WF B S) : ∀ n, n ≤ S.1 0 6 → WF B (runN S n).2 := by
  intro n
  induction n with
  | zero => exact fun _ => hW
  | succ n ih =>
    intro hn
    unfold runN
    split
    · exact paysS_WF (ih (by omega)) (by rw [runN_k (by decide) (by decide) (by decide) (by decide)]; omega)
    · exact ih (by omega)
theorem runN_n : ∀ n, (runN S n).1 ≤ n := by
  intro n
  induction n with
  | zero => exact Nat.le_refl _
  | succ n ih =>
    unfold runN
    split
    · exact Nat.succ_le_succ ih
    · omega
/-- the masks of an ended race -/
theorem endS_bits (hW : WF B S) {r : Nat} (hr : r < S.1 0 3) {b : Int32} (h : b &&& (allI S r ^^^ -1) = 0) : b = nI b.toNatClampNeg ∧ b.toNatClampNeg < 256 ∧ ∀ j, b.toNatClampNeg.testBit j = true → runsS S r j := by
  have h4 := hW.2.2.1 r hr
  unfold allI at h
  rw [allI_eq ⟨S.1 10 r, by omega⟩ ⟨S.1 11 r, h4.2.2.1⟩] at h
  dsimp only at h
  generalize hm : (2 ^ S.1 10 r - 1) &&& (255 ^^^ S.1 11 r) = m at h
  have hm2 : m < 256 := by
    rw [← hm]
    refine Nat.lt_of_le_of_lt Nat.and_le_right ?_
    exact Nat.xor_lt_two_pow (n := 8) (by decide) h4.2.2.1
  obtain ⟨h1, h2, h3⟩ := subI (by omega) h
  have e : b.toNatClampNeg = b.toBitVec.toNat := by
    conv => lhs; rw [h1]
    exact nI_clamp h2
  rw [e]
  refine ⟨h1, ?_, fun j hj => ?_⟩
  · refine Nat.lt_pow_two_of_testBit (n := 8) _ fun j hj => ?_
    cases e1 : b.toBitVec.toNat.testBit j with
    | false => rfl
    | true =>
      have := h3 j e1
      rw [Nat.testBit_lt_two_pow (Nat.lt_of_lt_of_le hm2 (Nat.pow_le_pow_right (n := 2) (i := 8) (by decide) hj))] at this
      cases this
  · have g := h3 j hj
    rw [← hm, Nat.testBit_and, Bool.and_eq_true, Nat.testBit_two_pow_sub_one, Nat.testBit_xor] at g
    have g1 : j < S.1 10 r := by simpa using g.1
    refine ⟨hr, g1, ?_⟩
    have g2 := g.2
    have e5 : (255 : Nat).testBit j = true := by
      have : ∀ k : Fin 8, (255 : Nat).testBit k = true := by decide
      exact this ⟨j, by omega⟩
    rw [e5] at g2
    simpa using g2
theorem endS_sub {b c : Int32} (hb : b = nI b.toNatClampNeg) (hc : c = nI c.toNatClampNeg) (h1 : b.toNatClampNeg < 256) (h2 : c.toNatClampNeg < 256) (h : b &&& (c ^^^ -1) = 0) : ∀ j, b.toNatClampNeg.testBit j = true → c.toNatClampNeg.testBit j = true := by
  rw [hc] at h
  obtain ⟨g1, g2, g3⟩ := subI (by omega) h
  have e : b.toNatClampNeg = b.toBitVec.toNat := by
    conv => lhs; rw [g1]
    exact nI_clamp g2
  rw [e]
  exact g3
theorem endS_WF (hW : WF B S) {r : Nat} (hr : r < S.1 0 3) {b c : Int32} (h0 : b ≠ 0) (h1 : b &&& (allI S r ^^^ -1) = 0) (h2 : c &&& (allI S r ^^^ -1) = 0) (h3 : b &&& (c ^^^ -1) = 0) : WF B (endS S r b c) := by
  obtain ⟨b1, b2, b3⟩ := endS_bits hW hr h1
  obtain ⟨c1, c2, c3⟩ := endS_bits hW hr h2
  have b4 := endS_sub b1 c1 b2 c2 h3
  have b5 : b.toNatClampNeg ≠ 0 := fun e => h0 (by rw [b1, e]; rfl)
  have e12 : ∀ k, (endS S r b c).1 12 k = if k = r then 1 else S.1 12 k := fun k => by
    unfold endS
    rw [setN_1, if_neg (by omega), setN_1, if_neg (by omega), setN_1]
    simp
  have e13 : ∀ k, (endS S r b c).1 13 k = if k = r then b.toNatClampNeg else S.1 13 k := fun k => by
    unfold endS
    rw [setN_1, if_neg (by omega), setN_1]
    by_cases e : k = r
    · rw [if_pos ⟨rfl, e⟩, if_pos e]
    · rw [if_neg (fun q => e q.2), if_neg e, setN_1, if_neg (by omega)]
  have e14 : ∀ k, (endS S r b c).1 14 k = if k = r then c.toNatClampNeg else S.1 14 k := fun k => by
    unfold endS
    rw [setN_1]
    by_cases e : k = r
    · rw [if_pos ⟨rfl, e⟩, if_pos e]
    · rw [if_neg (fun q => e q.2), if_neg e, setN_1, if_neg (by omega), setN_1, if_neg (by omega)]
  unfold WF at hW ⊢
  obtain ⟨a1, a2, a3, a4, a5, a6, a7, a8, a9, a10, a11, a12⟩ := hW
  refine ⟨a1, a2, fun q hq => ?_, a4, a5, a6, a7, a8, a9, a10, fun q g1 g2 => ⟨(a11 q g1 g2).1, ?_, (a11 q g1 g2).2.2⟩, a12⟩
  · obtain ⟨d1, d2, d3, d4, d5, d6, d7⟩ := a3 q hq
    rw [e12, e13, e14]
    by_cases e : q = r
    · rw [if_pos e, if_pos e, if_pos e]
      subst e
      exact ⟨d1, d2, d3, Nat.le_refl _, d5, d6, fun _ => ⟨b5, b2, c2, b3, c3, b4⟩⟩
    · rw [if_neg e, if_neg e, if_neg e]
      exact ⟨d1, d2, d3, d4, d5, d6, d7⟩
  · rw [e12, if_neg (by
      have : (endS S r b c).1 0 3 = S.1 0 3 := rfl
      omega)]
    exact (a11 q g1 g2).2.1
theorem r_run (hB : B ≤ 84) (hR : RepR S μ) (hW : WF B S) {a b c : Int32} {K : Int32 → z_M → Prop} (hK : ∀ μ', RepR (opRun S a b c).2 μ' → K (opRun S a b c).1 μ') : C_X12_run a b c μ K := by
  have h3 := hW.1
  unfold C_X12_run
  unfold opRun at hK
  refine r_isRace hR hW (fun r hr e => ?_) (fun g => ?_)
  · subst e
    have h4 := hW.2.2.1 r hr
    rw [ixO_some hr (by omega)] at hK
    dsimp only at hK
    rw [if_neg i10, nI_clamp (by omega), hR.a (c := 12) rfl, hR.a (c := 10) rfl, hR.a (c := 11) rfl]
    have hz : ∀ (x : Prop) [Decidable x] (A : Int32 × z_SS), (¬ x) → (∀ μ', RepR (if x then A else (-1, S)).2 μ' → K (if x then A else (-1, S)).1 μ') → K (-1) μ := fun x _ A hx hk => by
      rw [if_neg hx] at hk
      exact hk μ hR
    refine ⟨nI_vin (by omega) (by omega), ifc (nI_eq (b := 0) (by omega) (by omega)) (fun e0 => ifd (fun g => hz _ _ (fun q => q.2.1 g) hK) (fun g1 => ifd (fun g2 => ifd (fun g3 => ifd (fun g4 => ?_) (fun g => hz _ _ (fun q => g q.2.2.2.2) hK)) (fun g => hz _ _ (fun q => g q.2.2.2.1) hK)) (fun g => hz _ _ (fun q => g q.2.2.1) hK))) (fun g => hz _ _ (fun q => g q.1) hK)⟩
    rw [if_pos ⟨e0, g1, g2, g3, g4⟩] at hK
    have hW1 := endS_WF hW hr g1 g2 g3 g4
    obtain ⟨b1, b2, b3⟩ := endS_bits hW hr g2
    obtain ⟨c1, c2, c3⟩ := endS_bits hW hr g3
    unfold L_X12_run_99
    intro P hP
    have key : ∀ n, n ≤ S.1 0 6 → ∀ μ', RepR (runN (endS S r b c) n).2 μ' → P (nI (runN (endS S r b c) n).1) (nI n) μ' := by
      refine downTo (S.1 0 6) ?_ (fun n hn ih => ?_)
      · intro μ' hR'
        refine hP _ _ _ ?_
        unfold B_X12_run_99
        rw [hR'.f (k := 6) (by decide) (by decide), runN_k (by decide) (by decide) (by decide) (by decide)]
        have e : (endS S r b c).1 0 6 = S.1 0 6 := rfl
        rw [e]
        refine ifc (nI_leI (by omega) (by omega)) (fun _ => ?_) (fun g => absurd (Nat.le_refl _) g)
        exact hK μ' hR'
      · intro μ' hR'
        refine hP _ _ _ ?_
        unfold B_X12_run_99
        have e6 : (runN (endS S r b c) n).2.1 0 6 = S.1 0 6 := runN_k (by decide) (by decide) (by decide) (by decide) n
        have hW2 := runN_WF hW1 n (Nat.le_of_lt hn)
        have h27 := hW2.2.2.2.2.2.2.1 n (by rw [e6]; exact hn)
        unfold runN at ih
        rw [hR'.f (k := 6) (by decide) (by decide), e6]
        refine ifc (nI_leI (by omega) (by omega)) (fun g => absurd g (by omega)) (fun _ => ?_)
        rw [nI_clamp (by omega), hR'.a (c := 27) rfl, nI_1, nI_1]
        refine ⟨nI_vin (by omega) (by omega), ifc (nI_eq (b := 0) (by omega) (by omega)) (fun e27 => ?_) (fun e27 => ?_)⟩
        · refine r_isOut hB hR' hW2 (by rw [e6]; exact hn) (fun ho => ?_) (fun ho => ?_)
          · rw [if_neg i10]
            rw [if_pos ⟨e27, ho⟩] at ih
            exact r_pays hB hR' hW2 (by rw [e6]; exact hn) ho ih
          · rw [if_pos rfl]
            rw [if_neg (fun q => ho q.2)] at ih
            exact ih μ' hR'
        · rw [if_neg (fun q => e27 q.1)] at ih
          exact ih μ' hR'
    refine key 0 (Nat.zero_le _) _ ?_
    exact ((hR.setA (n := 1) rfl (by decide)).setA rfl b1).setA rfl c1
  · rw [ixO_none g] at hK
    rw [if_pos rfl]
    exact hK μ hR
theorem r_has (hB : B ≤ 84) (hR : RepR S μ) (hW : WF B S) (hD : WFd S) {a b : Int32} {K : Int32 → z_M → Prop} (hK : K (opHas S a b) μ) : C_X12_has a b μ K := by
  have h3 := hW.1
  unfold C_X12_has
  unfold opHas at hK
  refine r_isBet hB hR hW (fun i hi e => ?_) (fun g => ?_)
  · subst e
    have h5 := hW.2.2.2.2.2.2.1 i hi
    rw [ixO_some hi (by omega)] at hK
    dsimp only at hK
    rw [if_neg i10]
    refine r_liesC (lo := 0) (hi := 1) (x := 0) (y := 1) rfl rfl (by decide) (by decide) (fun w w1 w2 ea => ?_) (fun g => ?_)
    · subst ea
      rw [ixO_some (show w < 2 by omega) (by decide)] at hK
      dsimp only at hK
      rw [if_neg i10, nI_clamp (by omega), hR.a (c := 27) rfl, hR.a (c := 28) rfl]
      refine ⟨nI_vin (by omega) (by omega), ifc (nI_eq (b := 0) (by omega) (by omega)) (fun e => ?_) (fun e => ?_)⟩
      · rw [if_pos e] at hK
        exact hK
      · rw [if_neg e] at hK
        refine ifc (nI_eq (b := 0) (by omega) (by omega)) (fun e1 => ?_) (fun e1 => ?_)
        · rw [if_pos e1] at hK
          exact r_backOf hB hR hW hi ((hD i hi).mp (by omega)) hK
        · rw [if_neg e1] at hK
          refine ifc (nI_eq (b := 0) (by omega) (by omega)) (fun e2 => ?_) (fun e2 => ?_)
          · rw [e2] at hK
            exact hK
          · rw [show S.1 28 i = 1 by omega] at hK
            exact hK
    · rw [if_pos rfl]
      rw [ixO_none fun j hj => g j (by omega) (by omega)] at hK
      exact hK
  · rw [ixO_none g] at hK
    rw [if_pos rfl]
    exact hK
theorem r_deduction (hB : B ≤ 84) (hR : RepR S μ) (hW : WF B S) {a : Int32} {K : Int32 → z_M → Prop} (hK : K (opDeduction S a) μ) : C_X12_deduction a μ K := by
  have h3 := hW.1
  unfold C_X12_deduction
  unfold opDeduction at hK
  refine r_isBet hB hR hW (fun i hi e => ?_) (fun g => ?_)
  · subst e
    have h5 := hW.2.2.2.2.2.2.1 i hi
    obtain ⟨hr, hl⟩ := raceOfS_ok hW hi
    rw [ixO_some hi (by omega)] at hK
    dsimp only at hK
    rw [if_neg i10, nI_clamp (by omega), hR.a (c := 22) rfl]
    refine ⟨nI_vin (by omega) (by omega), ifc (nI_eq (b := 3) (by omega) (by omega)) (fun e => ?_) (fun e => ?_)⟩
    · rw [if_pos e] at hK
      exact hK
    · rw [if_neg e] at hK
      exact r_raceOf hB hR hW hi (r_deductionOf hB hR hW hi (wf_leg3 hB hW hi hr hl).1 hK)
  · rw [ixO_none g] at hK
    rw [if_pos rfl]
    exact hK
theorem r_numberAt (hR : RepR S μ) {k : Nat} (hk : k < 50) {K : Int32 → z_M → Prop} (hK : K (wordS S k) μ) : C_X12_numberAt (nI k) μ K := by
  unfold C_X12_numberAt L_X12_numberAt_4
  intro P hP
  have step : ∀ (x : Int32) (j : Nat), j < 4 → P (nI k) (w8 x (S.1 1 (4 * k + j))) (nI (j + 1)) μ → P (nI k) x (nI j) μ := by
    intro x j hj h
    refine hP _ _ _ _ ?_
    unfold B_X12_numberAt_4
    rw [show (4 : Int32) * nI k + nI j = nI (4 * k + j) by rw [show (4 : Int32) = nI 4 from rfl, nI_mul, nI_add], nI_clamp (by omega), hR.2.2.2.1, nI_1]
    exact ifc (nI_leI (a := 4) (by omega) (by omega)) (fun g => absurd g (by omega)) (fun _ => ⟨nI_vin (by omega) (by omega), h⟩)
  refine step _ 0 (by decide) (step _ 1 (by decide) (step _ 2 (by decide) (step _ 3 (by decide) ?_)))
  refine hP _ _ _ _ ?_
  unfold B_X12_numberAt_4
  rw [if_pos (by decide)]
  exact hK
theorem setF1_backS {n i : Nat} : backS (setN S 0 1 n) i = backS S i := by
  have e1 : ∀ m st nu de, joinS (setN S 0 1 n) i m st nu de = joinS S i m st nu de := by
    intro m
    induction m with
    | zero => intro st nu de; rfl
    | succ m ih =>
      intro st nu de
      unfold joinS
      simp only [ih]
      rfl
  have e2 : ∀ r m, dedT (setN S 0 1 n) i r m = dedT S i r m := by
    intro r m
    induction m with
    | zero => rfl
    | succ m ih =>
      unfold dedT
      simp only [ih]
      rfl
  have e3 : ∀ r, dedS (setN S 0 1 n) i r = dedS S i r := by
    intro r
    unfold dedS
    rw [show (setN S 0 1 n).1 10 r = S.1 10 r from rfl, e2]
  unfold backS winS placeS
  simp only [e1, e3]
  rfl
theorem r_check (hB : B ≤ 84) (hR : RepR S μ) (hW : WF B S) (hD : WFd S) {a b : Int32} {K : Int32 → z_M → Prop} (hK : ∀ μ', RepR (opCheck S a b).2 μ' → K (opCheck S a b).1 μ') : C_X12_check a b μ K := by
  have h3 := hW.1
  unfold C_X12_check
  unfold opCheck at hK
  refine r_isBook hR hW (fun bk hb e => ?_) (fun g => ?_)
  · subst e
    rw [ixO_some hb (by omega)] at hK
    dsimp only at hK
    rw [if_neg i10, hR.f (k := 1) (by decide) (by decide), show (8 : Int32) = nI 8 from rfl, pk_div (by omega) (by decide) (by decide)]
    refine ifd (fun g => ?_) (fun g => ?_)
    · rw [ixO_none fun j hj e => by
        rw [e] at g
        exact nI_pos (by omega) g] at hK
      exact hK μ hR
    · obtain ⟨n, hn, e⟩ := nI_of g
      subst e
      refine ifc (nI_leI (by omega) (by omega)) (fun g2 => ?_) (fun g2 => ?_)
      · rw [ixO_some (show n < S.1 0 1 / 8 + 1 by omega) (by omega)] at hK
        dsimp only at hK
        have hR1 := hR.setF (k := 1) (n := 0) (v := 0) (by decide) rfl
        have hW1 := setF1_WF hW (n := 0) (by omega)
        have hk1 := hK _ hR1
        unfold L_X12_check_36
        intro P hP
        have go : ∀ m, m ≤ S.1 0 6 → ∀ k, k ≤ n → K (chkL (setN S 0 1 0) bk n m k) (si μ 0 1 0) → P (nI bk) (nI n) (nI k) (nI (S.1 0 6 - m)) (si μ 0 1 0) := by
          intro m
          induction m with
          | zero =>
            intro _ k hk hk2
            refine hP _ _ _ _ _ ?_
            unfold B_X12_check_36
            rw [hR1.f (k := 6) (by decide) (by decide), show (setN S 0 1 0).1 0 6 = S.1 0 6 from rfl]
            refine ifc (nI_leI (by omega) (by omega)) (fun _ => ?_) (fun g => absurd (Nat.le_refl _) g)
            unfold chkL at hk2
            refine ifc (nI_eq (by omega) (by omega)) (fun e => ?_) (fun e => ?_)
            · rw [if_pos e] at hk2
              exact hk2
            · rw [if_neg e] at hk2
              rw [nI_two]
              exact hk2
          | succ m ih =>
            intro hm k hk hk2
            refine hP _ _ _ _ _ ?_
            unfold B_X12_check_36
            unfold chkL at hk2
            have e6 : (setN S 0 1 0).1 0 6 = S.1 0 6 := rfl
            have ei : S.1 0 6 - (m + 1) + 1 = S.1 0 6 - m := by omega
            have h5 := hW1.2.2.2.2.2.2.1 (S.1 0 6 - (m + 1)) (by rw [e6]; omega)
            have h4 := hW1.1
            rw [e6] at hk2
            rw [hR1.f (k := 6) (by decide) (by decide), e6]
            refine ifc (nI_leI (by omega) (by omega)) (fun g => absurd g (by omega)) (fun _ => ?_)
            rw [nI_clamp (n := S.1 0 6 - (m + 1)) (by omega), hR1.a (c := 21) rfl, hR1.a (c := 27) rfl, nI_1, nI_1, ei]
            refine ⟨nI_vin (by omega) (by omega), ifc (nI_eq (by omega) (by omega)) (fun e1 => ifc (nI_eq (b := 0) (by omega) (by omega)) (fun e2 => ?_) (fun e2 => ?_)) (fun e1 => ?_)⟩
            · rw [if_neg (fun q => q.2 e2)] at hk2
              exact ih (by omega) k hk hk2
            · rw [if_pos ⟨e1, e2⟩] at hk2
              refine ifc (nI_eq (by omega) (by omega)) (fun e3 => ?_) (fun e3 => ?_)
              · rw [if_pos e3] at hk2
                rw [nI_two]
                exact hk2
              · rw [if_neg e3] at hk2
                rw [nI_two, nI_1]
                refine r_numberAt hR1 (by omega) (ifd (fun e4 => ?_) (fun e4 => ?_))
                · rw [if_pos e4] at hk2
                  refine r_numberAt hR1 (by omega) (r_backOf hB hR1 hW1 (by rw [e6]; omega) ((hD _ (by omega)).mp ?_) (ifd (fun e5 => ?_) (fun e5 => ?_)))
                  · have : S.1 27 (S.1 0 6 - (m + 1)) = (setN S 0 1 0).1 27 (S.1 0 6 - (m + 1)) := rfl
                    omega
                  · rw [if_pos e5] at hk2
                    exact ih (by omega) (k + 1) (by omega) hk2
                  · rw [if_neg e5] at hk2
                    exact hk2
                · rw [if_neg e4] at hk2
                  exact hk2
            · rw [if_neg (fun q => e1 q.1)] at hk2
              exact ih (by omega) k hk hk2
        have := go (S.1 0 6) (Nat.le_refl _) 0 (Nat.zero_le _) hk1
        rw [Nat.sub_self] at this
        exact this
      · rw [ixO_none fun j hj e => by
          have := (nI_eq (by omega) (by omega)).mp e
          omega] at hK
        exact hK μ hR
  · rw [ixO_none g] at hK
    rw [if_pos rfl]
    exact hK μ hR
end REF8
