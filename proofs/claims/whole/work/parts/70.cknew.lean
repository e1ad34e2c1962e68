/-! The class: knew, together, purse. -/
section CKNEW
variable {B : Nat} {S : z_SS} {μ : z_M} {kd : z_K} {q : z_Q}
theorem c_isBettor {a : Int32} {K : Int32 → z_M → Prop} (h1 : ∀ x, x < 16 → a = nI x → K 1 μ) (h0 : (∀ x, x < 16 → a ≠ nI x) → K 0 μ) : C_X11_isBettor kd q a μ K := by
  unfold C_X11_isBettor
  exact at_dec (n := 16) (N := 16) (by decide) (by decide) rfl h1 h0 h0
theorem c_isToWin (hV : RepV0 S μ) (hW : WF B S) {i : Nat} (hi : i < S.1 0 6) {K : Int32 → z_M → Prop} (h1 : toWin S i → K 1 μ) (h0 : ¬ toWin S i → K 0 μ) : C_X0_isToWin kd q (100 + 3 * i) μ K := by
  have h7 := hW.2.2.2.2.2.2.1 i hi
  have ht := hV.2.2.2 i hi
  unfold C_X0_isToWin
  rw [ht.1.2.2.1]
  refine ifc (nI_eq (b := 0) (by omega) (by decide)) (fun e => h1 (Or.inl e)) (fun e => ?_)
  exact ifc (nI_eq (b := 2) (by omega) (by decide)) (fun e2 => h1 (Or.inr e2)) (fun e2 => h0 fun z => z.elim e e2)
theorem c_knew (hQ : KQ S kd q) (hV : RepV S μ) (hW : WF 80 S) {a b : Int32} {K : Int32 → z_M → Prop} (hK : K (opKnew S a b) μ) : C_X11_knew kd q a b μ K := by
  have h3 := hW.1
  unfold C_X11_knew
  unfold opKnew at hK
  refine c_isBettor (fun x hx e => ?_) (fun g => by rw [if_pos rfl]; rw [ixO_none g] at hK; exact hK)
  subst e
  rw [ixO_some hx (by decide)] at hK
  dsimp only at hK
  rw [if_neg i10]
  have bad : (∀ j, j < 2 → b ≠ nI j) → K (-1) μ := fun g => by
    rw [ixO_none g] at hK
    exact hK
  refine le_dec (m := 1) (by decide) rfl (fun w w2 eb => ?_) bad bad
  subst eb
  rw [ixO_some (show w < 2 by omega) (by decide)] at hK
  dsimp only at hK
  unfold L_X11_knew_26
  intro P hP
  have go := downTo (Q := fun i => P (nI x) (nI w) (nI (sumN i (fun i => b2n (knT S x i)))) (nI (sumN i (fun i => b2n (knT S x i && knM S i)))) (nI i) μ) (S.1 0 6) ?_ (fun i hi ih => ?_) 0 (Nat.zero_le _)
  · exact go
  · refine hP _ _ _ _ _ _ ?_
    unfold B_X11_knew_26
    rw [hV.1.2.2.2.1]
    refine ifc (nI_leI (by omega) (by omega)) (fun _ => ?_) (fun g => absurd (Nat.le_refl _) g)
    exact ifc (nI_eq (b := 0) (by omega) (by omega)) (fun e => by rw [if_pos e] at hK; exact hK) (fun e => by rw [if_neg e] at hK; exact hK)
  · have h7 := hW.2.2.2.2.2.2.1 i hi
    have hro := raceOfS_ok hW hi
    have hlg := wf_leg3 (by decide) hW hi hro.1 hro.2
    have h4 := hW.2.2.1 _ hlg.1
    have ht := hV.2.2.2 i hi
    have ih : P (nI x) (nI w) (nI (sumN i (fun i => b2n (knT S x i)) + b2n (knT S x i))) (nI (sumN i (fun i => b2n (knT S x i && knM S i)) + b2n (knT S x i && knM S i))) (nI i + 1) μ := by
      rw [nI_1]
      exact ih
    have no : knT S x i = false → P (nI x) (nI w) (nI (sumN i (fun i => b2n (knT S x i)))) (nI (sumN i (fun i => b2n (knT S x i && knM S i)))) (nI i + 1) μ := fun e => by
      rw [e] at ih
      exact ih
    refine hP _ _ _ _ _ _ ?_
    unfold B_X11_knew_26
    rw [hV.1.2.2.2.1]
    refine ifc (nI_leI (by omega) (by omega)) (fun g => absurd g (by omega)) (fun _ => ?_)
    refine c_betN hQ hV.1 hW hi (opt_s ?_)
    rw [ht.1.1]
    refine ifc (nI_eq (by omega) (by omega)) (fun e1 => ?_) (fun e1 => no (by unfold knT; rw [decide_eq_false (fun g => e1 g.1)]; rfl))
    unfold C_X11_isTold
    refine ⟨_, rfl, ?_⟩
    by_cases hk : S.1 22 i = 3
    · have e2 : ¬ toWin S i := fun z => by
        rcases z with z | z <;> omega
      have fin := no (by unfold knT; rw [decide_eq_false (fun g => e2 g.2)]; rfl)
      have sk : C_X0_isToWin kd q (100 + 3 * i) μ (fun r5 μ4 => r5 = 0 ∧ μ4 = μ) := c_isToWin hV.to0 hW hi (fun e => absurd e e2) (fun _ => ⟨rfl, rfl⟩)
      refine c_raceAt hQ hV.1 hW (fun r _ _ => ?_) (fun _ => ?_)
      · refine c_isToWin hV.to0 hW hi (fun e => absurd e e2) (fun _ => ?_)
        rw [if_pos rfl]
        dsimp only
        rw [if_pos rfl]
        exact fin
      · refine c_isToWin hV.to0 hW hi (fun e => absurd e e2) (fun _ => ?_)
        rw [if_pos rfl]
        dsimp only
        rw [if_pos rfl]
        exact fin
    · rw [ht.2.2.2.1.2 hk]
      refine c_raceN hQ hV.1 hW hlg.1 ?_
      refine c_isToWin hV.to0 hW hi (fun e2 => ?_) (fun e2 => by rw [if_pos rfl]; dsimp only; rw [if_pos rfl]; exact no (by unfold knT; rw [decide_eq_false (fun g => e2 g.2)]; rfl))
      rw [if_neg i10]
      refine opt_s ?_
      have hRr := hV.2.1 _ hlg.1
      rw [hRr.2.2.1]
      refine ifc (nI_eq (b := 0) (by omega) (by omega)) (fun e3 => by dsimp only; rw [if_pos rfl]; exact no (by unfold knT; rw [decide_eq_true (And.intro e1 e2), decide_eq_false (by omega)]; rfl)) (fun e3 => ?_)
      rw [ht.2.2.2.1.2 hk]
      refine c_horseIn hV.to0 hi hro.1 ?_
      rw [hro.2, oI_some]
      refine c_isGone hRr.to0 h4.2.1 h4.2.2.1 hlg.2.1 (fun e4 => by rw [if_neg i10]; dsimp only; rw [if_pos rfl]; exact no (by unfold knT; rw [e4]; simp)) (fun e4 => ?_)
      rw [if_pos rfl]
      dsimp only
      rw [if_neg i10]
      have yes : knT S x i = true := by
        unfold knT
        rw [decide_eq_true (And.intro e1 e2), decide_eq_true (show S.1 12 (raceOfS S i) = 1 by omega), e4]
        rfl
      rw [yes, Bool.true_and] at ih
      unfold C_X11_stoodShorterAtLast
      refine ⟨_, rfl, ?_⟩
      rw [ht.1.2.1]
      refine c_bookN hQ hV.1 hW h7.2.1 ?_
      rw [ht.2.2.2.1.2 hk]
      refine c_horseIn hV.to0 hi hro.1 (opt_s ?_)
      rw [hro.2, oI_some, if_neg (nI_ne_m1 (by omega)), ht.2.2.2.1.2 hk]
      refine c_spot ?_
      rw [nI_clamp (by omega), slate_at hV.to0 h7.2.1 hro.1 hlg.2.2.2.2.2.2]
      refine ⟨nI_vin (by omega) (by decide), ?_⟩
      have m0 : ∀ n, nI n + 1 = nI (n + b2n true) := fun n => nI_1 n
      unfold knM at ih
      cases es : S.2.1 17 (24 * S.1 21 i + 8 * raceOfS S i + legH S i) with
      | none =>
        rw [es] at ih
        rw [if_pos oI_none]
        dsimp only
        rw [if_pos rfl, m0]
        exact ih
      | some s =>
        rw [es] at ih
        dsimp only at ih
        have hs := (wf17 hW (by omega) es).1
        rw [oI_some, if_neg (nI_ne_m1 (by omega)), ht.2.2.2.1.2 hk]
        refine c_stepIn hV.to0 hi hro.1 (by rw [hro.2]; exact fun z => by cases z) ?_
        refine ifc (nI_leI (by omega) (by omega)) (fun g => ?_) (fun g => ?_)
        · rw [decide_eq_false (by omega)] at ih
          rw [if_pos rfl, m0]
          exact ih
        · rw [decide_eq_true (by omega)] at ih
          rw [if_neg i10, m0, m0]
          exact ih
end CKNEW
