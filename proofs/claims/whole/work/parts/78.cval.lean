/-! The class: what a letter stands for. -/
section CVAL
variable {B : Nat} {S : z_SS} {μ μ0 : z_M} {kd : z_K} {q : z_Q} {b r h : Nat}
/-- the scene's book, as far as letters and moves look at it -/
def ScR (S : z_SS) (q : z_Q) (b r h : Nat) (μ : z_M) : Prop := q 9 1 = some (40 + 8 * b) ∧ μ.1 9 2 = nI r ∧ μ.1 9 3 = nI h ∧ μ.1 9 4 = nI (S.1 20 (S.1 0 6 - 1)) ∧ μ.1 9 5 = nI (S.1 23 (S.1 0 6 - 1)) ∧ μ.1 9 6 = nI (S.1 0 2) ∧ (∀ k, k < 24 → μ.1 (40 + 8 * b + 1) k = oI (S.2.1 17 (24 * b + k))) ∧ RvO S μ b ∧ μ.1 3 2 = nI (S.1 0 5) ∧ ∀ s, s < S.1 0 5 → μ.1 4 s = nI (S.1 8 s) ∧ μ.1 5 s = nI (S.1 9 s)
theorem ScR.sr (hS : ScR S q b r h μ) {μ' : z_M} (hs : SR μ μ') : ScR S q b r h μ' := by
  have e := fun c k (hc : c ≠ 10) => hs.1 c k (Or.inl hc)
  obtain ⟨a1, a2, a3, a4, a5, a6, a7, a8, a9, a10⟩ := hS
  refine ⟨a1, by rw [e _ _ (by omega)]; exact a2, by rw [e _ _ (by omega)]; exact a3, by rw [e _ _ (by omega)]; exact a4, by rw [e _ _ (by omega)]; exact a5, by rw [e _ _ (by omega)]; exact a6, fun k hk => by rw [e _ _ (by omega)]; exact a7 k hk, ⟨fun r h hr hh => ?_, fun r hr => ?_⟩, by rw [e _ _ (by omega)]; exact a9, fun s hs => by rw [e _ _ (by omega), e _ _ (by omega)]; exact a10 s hs⟩
  · rw [e _ _ (by omega), e _ _ (by omega), e _ _ (by omega)]
    exact a8.1 r h hr hh
  · rw [e _ _ (by omega)]
    exact a8.2 r hr
theorem c_thou (hS : ScR S q b r h μ) (hW : WF B S) (hb : b < S.1 0 4) (hr : r < S.1 0 3) {K : Int64 → z_M → Prop} (hK : K (lN (1000 * (fracS S (fun h => S.2.1 17 (24 * b + 8 * r + h)) (S.1 10 r)).1 / (fracS S (fun h => S.2.1 17 (24 * b + 8 * r + h)) (S.1 10 r)).2)) μ) : C_X8_thousandths kd q μ K := by
  have h3 := hW.1
  have h4 := hW.2.2.1 r hr
  obtain ⟨a1, a2, a3, a4, a5, a6, a7, a8, a9, a10⟩ := hS
  have cap := fracSl_cap hW (b := b) (by omega) hr
  have ext := fracS_ext (S := S) (f := fun h => S.2.1 17 (24 * b + 8 * r + h)) (S.1 10 r) (8 - S.1 10 r) fun x x1 x2 => by
    cases e : S.2.1 17 (24 * b + 8 * r + x) with
    | none => rfl
    | some s =>
      have := (hW.2.2.2.2.1 b r x s (by omega) (by omega) (by omega) e).2.2.2.1
      omega
  rw [show S.1 10 r + (8 - S.1 10 r) = 8 by omega] at ext
  unfold C_X8_thousandths L_X8_thousandths_13
  intro P hP
  rw [a2, show (8 : Int32) = nI 8 from rfl, nI_mul]
  have key : ∀ k, k ≤ 8 → P (lN (fracS S (fun h => S.2.1 17 (24 * b + 8 * r + h)) k).1) (lN (fracS S (fun h => S.2.1 17 (24 * b + 8 * r + h)) k).2) (nI (r * 8 + k)) μ := by
    refine downTo 8 ?_ (fun k hk ih => ?_)
    · refine hP _ _ _ _ ?_
      have fin : L_X8_thousandths_124 kd q K (lN (fracS S (fun h => S.2.1 17 (24 * b + 8 * r + h)) 8).1) (lN (fracS S (fun h => S.2.1 17 (24 * b + 8 * r + h)) 8).2) μ := by
        unfold L_X8_thousandths_124
        rw [ext]
        refine ifc (pk_lLE (b := 0) (by omega) (by decide)) (fun g => absurd g (by omega)) (fun _ => ⟨fun z => ?_, ?_⟩)
        · have := (pk_lEQ (b := 0) (by omega) (by decide)).mp z
          omega
        · rw [show (1000 : Int64) = lN 1000 from rfl, lN_mul, pk_lDiv (by omega) (by omega) (by omega)]
          exact hK
      unfold B_X8_thousandths_13
      rw [a2, show (8 : Int32) = nI 8 from rfl, nI_mul, nI_add, if_neg (Int32.not_lt.mpr (nI_pos' (by omega)))]
      exact ifd (fun _ => fin) (fun _ => ifc (nI_leI (by omega) (by omega)) (fun _ => fin) (fun g => absurd (Nat.le_refl _) g))
    · refine hP _ _ _ _ ?_
      have hr2 : r < 3 := by omega
      unfold B_X8_thousandths_13
      rw [a2, show (8 : Int32) = nI 8 from rfl, nI_mul, nI_add, if_neg (Int32.not_lt.mpr (nI_pos' (by omega)))]
      refine ifc (nI_leI (a := 24) (by decide) (by omega)) (fun g => absurd g (by omega)) (fun _ => ?_)
      refine ifc (nI_leI (by omega) (by omega)) (fun g => absurd g (by omega)) (fun _ => ?_)
      intro w1 ew
      rw [a1] at ew
      subst ew
      refine ⟨_, rfl, ?_⟩
      have ef : fracS S (fun h => S.2.1 17 (24 * b + 8 * r + h)) (k + 1) = (match S.2.1 17 (24 * b + 8 * r + k) with
        | some s => addF (fracS S (fun h => S.2.1 17 (24 * b + 8 * r + h)) k) (S.1 8 s) (S.1 9 s)
        | none => fracS S (fun h => S.2.1 17 (24 * b + 8 * r + h)) k) := rfl
      rw [ef] at ih
      rw [nI_clamp (by omega), a7 _ (by omega), show 24 * b + (r * 8 + k) = 24 * b + 8 * r + k by omega, nI_1, Nat.add_assoc (r * 8) k 1]
      refine ⟨nI_vin (by omega) (by decide), ?_⟩
      cases es : S.2.1 17 (24 * b + 8 * r + k) with
      | none =>
        rw [es] at ih
        rw [if_pos (show oI none < 0 by decide)]
        exact ih
      | some s =>
        rw [es] at ih
        have s1 := (wf17 hW (by omega) es).1
        have h5 := hW.2.1 s s1
        rw [oI_some, if_neg (Int32.not_lt.mpr (nI_pos' (by omega))), a9, nI_clamp (by omega), (a10 s s1).1, (a10 s s1).2]
        refine ifc (nI_leI (by omega) (by omega)) (fun g => absurd g (by omega)) (fun _ => ⟨nI_vin (by omega) (by decide), ?_⟩)
        rw [nI_add, nI_l (by omega), nI_l (by omega), lN_mul, lN_mul, lN_mul, lN_add, Nat.mul_comm (fracS S (fun h => S.2.1 17 (24 * b + 8 * r + h)) k).2 (S.1 9 s)]
        exact ih
  exact key 0 (Nat.zero_le _)
theorem c_value (hS : ScR S q b r h μ0) (hB : B ≤ 84) (hW : WF B S) (h6 : 1 ≤ S.1 0 6) (hb : b < S.1 0 4) (hrun : runsS S r h) : HV S b r h kd q μ0 := by
  intro l hl μ hs K hK
  have h3 := hW.1
  have hr := hrun.1
  have hh := hrun.2.1
  have h4 := hW.2.2.1 r hr
  have hS' := hS.sr hs
  obtain ⟨a1, a2, a3, a4, a5, a6, a7, a8, a9, a10⟩ := hS'
  have h7 := hW.2.2.2.2.2.2.1 (S.1 0 6 - 1) (by omega)
  have hbo := betsOn_le hW b r h
  have hst := stakesS_le hB hW b r
  have hr2 : r < 3 := by omega
  have e8 : (nI r * 8) + nI h = nI (8 * r + h) := spot_eq
  unfold C_X8_valueOf
  intro w1 ew
  rw [a1] at ew
  subst ew
  refine opt_s ?_
  rw [a2, a3, e8, if_neg (Int32.not_lt.mpr (nI_pos' (by omega))), nI_clamp (by omega)]
  refine ifc (nI_ltI (b := 24) (by omega) (by decide)) (fun _ => ?_) (fun g => absurd (show 8 * r + h < 24 by omega) g)
  unfold letV at hK
  have ll : l < 256 := by
    unfold ltP at hl
    omega
  refine ifc (nI_eq (b := 104) (by omega) (by decide)) (fun g => ?_) (fun g1 => ?_)
  · rw [if_pos g] at hK
    rw [nI_l (by omega)]
    exact hK
  rw [if_neg g1] at hK
  refine ifc (nI_eq (b := 105) (by omega) (by decide)) (fun g => ?_) (fun g2 => ?_)
  · rw [if_pos g] at hK
    intro w4 ew
    rw [a1] at ew
    subst ew
    refine ⟨_, rfl, nI_vin (by omega) (by decide), ?_⟩
    rw [a7 _ (by omega), ← Nat.add_assoc]
    cases es : S.2.1 17 (24 * b + 8 * r + h) with
    | none =>
      rw [es] at hK
      rw [if_pos oI_none]
      exact hK
    | some s =>
      rw [es] at hK
      have s1 := (wf17 hW (by omega) es).1
      rw [oI_some, if_neg (nI_ne_m1 (by omega))]
      intro w7 ew
      rw [a1] at ew
      subst ew
      refine ⟨_, rfl, ?_⟩
      rw [a7 _ (by omega), ← Nat.add_assoc, es, oI_some, nI_l (by omega)]
      exact hK
  rw [if_neg g2] at hK
  refine ifc (nI_eq (b := 107) (by omega) (by decide)) (fun g => ?_) (fun g3 => ?_)
  · rw [if_pos g] at hK
    rw [a5, nI_l (by omega)]
    exact hK
  rw [if_neg g3] at hK
  refine ifc (nI_eq (b := 109) (by omega) (by decide)) (fun g => ?_) (fun g4 => ?_)
  · rw [if_pos g] at hK
    rw [a6, nI_l (by omega)]
    exact hK
  rw [if_neg g4] at hK
  refine ifc (nI_eq (b := 110) (by omega) (by decide)) (fun g => ?_) (fun g5 => ?_)
  · rw [if_pos g] at hK
    intro w12 ew
    rw [a1] at ew
    subst ew
    refine ⟨_, rfl, nI_vin (by omega) (by decide), ?_⟩
    rw [(a8.1 r h hr2 (by omega)).2.2, nI_l (by omega)]
    exact hK
  rw [if_neg g5] at hK
  refine ifc (nI_eq (b := 113) (by omega) (by decide)) (fun g => ?_) (fun g6 => ?_)
  · rw [if_pos g] at hK
    intro w16 ew
    rw [a1] at ew
    subst ew
    refine ⟨_, rfl, ?_⟩
    unfold C_X1_balanceAt
    rw [spot_eq, if_neg (Int32.not_lt.mpr (nI_pos' (by omega))), if_neg (fun z => by have := (nI_leI (a := 3) (by decide) (by omega)).mp z; omega), if_neg (Int32.not_lt.mpr (nI_pos' (by omega))), nI_clamp (by omega), nI_clamp (by omega), a8.2 r hr2, (a8.1 r h hr2 (by omega)).2.1]
    refine ifc (nI_ltI (b := 24) (by omega) (by decide)) (fun _ => ?_) (fun g => absurd (show 8 * r + h < 24 by omega) g)
    refine ⟨nI_vin (by omega) (by decide), nI_vin (by omega) (by decide), ?_⟩
    unfold bckA
    rw [if_neg (by rw [hrun.2.2]; decide), ← iI_nat, ← iI_nat, iI_sub]
    exact hK
  rw [if_neg g6] at hK
  refine ifc (nI_eq (b := 116) (by omega) (by decide)) (fun g => ?_) (fun g7 => ?_)
  · rw [if_pos g] at hK
    intro w21 ew
    rw [a1] at ew
    subst ew
    refine ⟨_, rfl, ?_⟩
    unfold C_X1_stakesOf
    rw [if_neg (Int32.not_lt.mpr (nI_pos' (by omega))), nI_clamp (by omega), a8.2 r hr2]
    refine ifc (nI_leI (a := 3) (by decide) (by omega)) (fun g => absurd g (by omega)) (fun _ => ⟨nI_vin (by omega) (by decide), ?_⟩)
    dsimp only
    rw [nI_l (by omega)]
    exact hK
  rw [if_neg g7] at hK
  refine ifc (nI_eq (b := 122) (by omega) (by decide)) (fun g => ?_) (fun g8 => ?_)
  · rw [if_pos g] at hK
    rw [a4, nI_l (by omega)]
    exact hK
  rw [if_neg g8] at hK
  exact c_thou ⟨a1, a2, a3, a4, a5, a6, a7, a8, a9, a10⟩ hW hb hr hK
end CVAL
