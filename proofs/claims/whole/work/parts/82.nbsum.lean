/-! A new bet, in the sums of its book. -/
theorem sumN_s {n : Nat} {f : Nat → Nat} : sumN (n + 1) f = sumN n f + f n := rfl
/-- a bet of this kind is one to win -/
abbrev winK (kd : Nat) : Prop := kd = 0 ∨ kd = 2
section NBS
variable {S : z_SS} {z b kd st paid : Nat} {leg : Nat → Option Nat}
theorem nbg {c k : Nat} (hc : c ≠ 0 ∨ k ≠ 6) (h15 : c ≠ 15 ∨ k ≠ b) (hl : 20 ≤ c → c ≤ 28 → c ≠ 25 → c ≠ 26 → k < S.1 0 6) (h26 : c = 26 → k < 3 * S.1 0 6) : (newBet S z b kd st paid leg).1 c k = S.1 c k := by
  unfold newBet
  dsimp only
  rw [if_neg (by omega), if_neg (by omega), if_neg (by omega), if_neg (by omega), if_neg (by omega), if_neg (by omega), if_neg (by omega), if_neg (by omega), if_neg (by omega), if_neg (by omega)]
theorem nb25o {k : Nat} (h : k < 3 * S.1 0 6) : (newBet S z b kd st paid leg).2.1 25 k = S.2.1 25 k := by rw [nb25, if_neg (by omega)]
theorem nb25n {r : Nat} (hr : r < 3) : (newBet S z b kd st paid leg).2.1 25 (3 * S.1 0 6 + r) = leg r := by rw [nb25, if_pos ⟨by omega, by omega⟩, Nat.add_sub_cancel_left]
theorem nb26n {r h s : Nat} (hr : r < 3) (el : leg r = some h) (es : S.2.1 17 (24 * b + 8 * r + h) = some s) : (newBet S z b kd st paid leg).1 26 (3 * S.1 0 6 + r) = s := by
  rw [nb26, if_pos ⟨by omega, by omega⟩, Nat.add_sub_cancel_left, el]
  dsimp only
  rw [es]
  rfl
theorem nb21o {i : Nat} (hi : i < S.1 0 6) : (newBet S z b kd st paid leg).1 21 i = S.1 21 i := nbg (Or.inl (by decide)) (Or.inl (by decide)) (fun _ _ _ _ => hi) (fun e => absurd e (by decide))
theorem nb23o {i : Nat} (hi : i < S.1 0 6) : (newBet S z b kd st paid leg).1 23 i = S.1 23 i := nbg (Or.inl (by decide)) (Or.inl (by decide)) (fun _ _ _ _ => hi) (fun e => absurd e (by decide))
theorem nb25i {i r : Nat} (hi : i < S.1 0 6) (hr : r < 3) : (newBet S z b kd st paid leg).2.1 25 (3 * i + r) = S.2.1 25 (3 * i + r) := nb25o (by omega)
theorem nb26i {i r : Nat} (hi : i < S.1 0 6) (hr : r < 3) : (newBet S z b kd st paid leg).1 26 (3 * i + r) = S.1 26 (3 * i + r) := nbg (Or.inl (by decide)) (Or.inl (by decide)) (by omega) (by omega)
theorem nb21n : (newBet S z b kd st paid leg).1 21 (S.1 0 6) = b := by rw [nb21, if_pos rfl]
theorem nb22n : (newBet S z b kd st paid leg).1 22 (S.1 0 6) = kd := by rw [nb22, if_pos rfl]
theorem nb23n : (newBet S z b kd st paid leg).1 23 (S.1 0 6) = st := by rw [nb23, if_pos rfl]
theorem nb_won (n s : Nat) : wonBy (newBet S z b kd st paid leg) n s = wonBy S n s := wonBy_eq (fun s => ⟨nbg (Or.inl (by decide)) (Or.inl (by decide)) (by omega) (by omega), nbg (Or.inl (by decide)) (Or.inl (by decide)) (by omega) (by omega)⟩) n s
theorem nb_runs {r x : Nat} : runsS (newBet S z b kd st paid leg) r x ↔ runsS S r x := by
  unfold runsS
  rw [nbg (c := 0) (Or.inr (by decide)) (Or.inl (by decide)) (by omega) (by omega), nbg (c := 10) (Or.inl (by decide)) (Or.inl (by decide)) (by omega) (by omega), nbg (c := 11) (Or.inl (by decide)) (Or.inl (by decide)) (by omega) (by omega)]
theorem nb_win {i : Nat} (hi : i < S.1 0 6) : toWin (newBet S z b kd st paid leg) i ↔ toWin S i := toWin_eq (nbg (Or.inl (by decide)) (Or.inl (by decide)) (by omega) (by omega))
theorem nb_win_n : toWin (newBet S z b kd st paid leg) (S.1 0 6) ↔ winK kd := by
  unfold toWin
  rw [nb22, if_pos rfl]
theorem nb_11 (r : Nat) : (newBet S z b kd st paid leg).1 11 r = S.1 11 r := nbg (Or.inl (by decide)) (Or.inl (by decide)) (by omega) (by omega)
theorem betsOf_nb (b' : Nat) : betsOf (newBet S z b kd st paid leg) b' = betsOf S b' + if b' = b then 1 else 0 := by
  unfold betsOf
  rw [nb6, sumN_s, nb21n, sumN_congr (g := fun i => if S.1 21 i = b' then 1 else 0) (fun i hi => by rw [nb21o hi])]
  congr 1
  exact ite_iff ⟨fun e => e.symm, fun e => e.symm⟩ _ _
theorem betsOn_nb (b' : Nat) {r : Nat} (hr : r < 3) (x : Nat) : betsOn (newBet S z b kd st paid leg) b' r x = betsOn S b' r x + if b' = b ∧ leg r = some x then 1 else 0 := by
  unfold betsOn
  rw [nb6, sumN_s, nb21n, nb25n hr, sumN_congr (g := fun i => if S.1 21 i = b' ∧ S.2.1 25 (3 * i + r) = some x then 1 else 0) (fun i hi => by rw [nb21o hi, nb25i hi hr])]
  congr 1
  exact ite_iff ⟨fun e => ⟨e.1.symm, e.2⟩, fun e => ⟨e.1.symm, e.2⟩⟩ _ _
theorem stkOn_nb (b' : Nat) {r : Nat} (hr : r < 3) (x : Nat) : stkOn (newBet S z b kd st paid leg) b' r x = stkOn S b' r x + if b' = b ∧ winK kd ∧ leg r = some x then st else 0 := by
  unfold stkOn
  rw [nb6, sumN_s, nb21n, nb23n, nb25n hr, sumN_congr (g := fun i => if S.1 21 i = b' ∧ toWin S i ∧ S.2.1 25 (3 * i + r) = some x then S.1 23 i else 0) (fun i hi => by
    rw [nb21o hi, nb23o hi, nb25i hi hr]
    exact ite_iff ⟨fun e => ⟨e.1, (nb_win hi).mp e.2.1, e.2.2⟩, fun e => ⟨e.1, (nb_win hi).mpr e.2.1, e.2.2⟩⟩ _ _)]
  congr 1
  exact ite_iff ⟨fun e => ⟨e.1.symm, nb_win_n.mp e.2.1, e.2.2⟩, fun e => ⟨e.1.symm, nb_win_n.mpr e.2.1, e.2.2⟩⟩ _ _
theorem backsS_nb (b' : Nat) {r : Nat} (hr : r < 3) (x : Nat) : backsS (newBet S z b kd st paid leg) b' r x = backsS S b' r x + if b' = b ∧ winK kd ∧ leg r = some x then st + wonBy S st ((newBet S z b kd st paid leg).1 26 (3 * S.1 0 6 + r)) else 0 := by
  unfold backsS
  rw [nb6, sumN_s, nb21n, nb23n, nb25n hr, nb_won, sumN_congr (g := fun i => if S.1 21 i = b' ∧ toWin S i ∧ S.2.1 25 (3 * i + r) = some x then S.1 23 i + wonBy S (S.1 23 i) (S.1 26 (3 * i + r)) else 0) (fun i hi => by
    rw [nb21o hi, nb23o hi, nb25i hi hr, nb_won, nb26i hi hr]
    exact ite_iff ⟨fun e => ⟨e.1, (nb_win hi).mp e.2.1, e.2.2⟩, fun e => ⟨e.1, (nb_win hi).mpr e.2.1, e.2.2⟩⟩ _ _)]
  congr 1
  exact ite_iff ⟨fun e => ⟨e.1.symm, nb_win_n.mp e.2.1, e.2.2⟩, fun e => ⟨e.1.symm, nb_win_n.mpr e.2.1, e.2.2⟩⟩ _ _
theorem stakesS_nb (b' : Nat) {r : Nat} (hr : r < 3) (hl : ∀ x, leg r = some x → runsS S r x) : stakesS (newBet S z b kd st paid leg) b' r = stakesS S b' r + if b' = b ∧ winK kd ∧ leg r ≠ none then st else 0 := by
  unfold stakesS
  rw [nb6, sumN_s, nb21n, nb23n, sumN_congr (g := fun i => if S.1 21 i = b' ∧ toWin S i ∧ legRuns S i r = true then S.1 23 i else 0) (fun i hi => by
    have el : legRuns (newBet S z b kd st paid leg) i r = legRuns S i r := by
      unfold legRuns
      rw [nb25i hi hr]
      cases S.2.1 25 (3 * i + r) with
      | none => rfl
      | some x => exact decide_eq_decide.mpr nb_runs
    rw [nb21o hi, nb23o hi, el]
    exact ite_iff ⟨fun e => ⟨e.1, (nb_win hi).mp e.2.1, e.2.2⟩, fun e => ⟨e.1, (nb_win hi).mpr e.2.1, e.2.2⟩⟩ _ _)]
  congr 1
  have el : legRuns (newBet S z b kd st paid leg) (S.1 0 6) r = true ↔ leg r ≠ none := by
    unfold legRuns
    rw [nb25n hr]
    cases e : leg r with
    | none => exact ⟨fun q => by (cases q), fun q => absurd rfl q⟩
    | some x => exact ⟨fun _ => Option.some_ne_none x, fun _ => decide_eq_true (nb_runs.mpr (hl x e))⟩
  exact ite_iff ⟨fun e => ⟨e.1.symm, nb_win_n.mp e.2.1, el.mp e.2.2⟩, fun e => ⟨e.1.symm, nb_win_n.mpr e.2.1, el.mpr e.2.2⟩⟩ _ _
variable {μ μ' : z_M}
/-- no leg written yet, or another book -/
theorem RvO_nb0 {b' : Nat} (h : RvO S μ b') (hb : b' ≠ b ∨ ∀ r, r < 3 → leg r = none) (hl : ∀ r x, r < 3 → leg r = some x → runsS S r x) : RvO (newBet S z b kd st paid leg) μ b' := by
  refine ⟨fun r x hr hx => ?_, fun r hr => ?_⟩
  · have f1 : ¬ (b' = b ∧ leg r = some x) := fun e => hb.elim (fun g => g e.1) (fun g => by rw [g r hr] at e; cases e.2)
    have f2 : ¬ (b' = b ∧ winK kd ∧ leg r = some x) := fun e => f1 ⟨e.1, e.2.2⟩
    unfold stkA bckA
    rw [nb_11, stkOn_nb b' hr, backsS_nb b' hr, betsOn_nb b' hr, if_neg f1, if_neg f2, if_neg f2]
    exact h.1 r x hr hx
  · rw [stakesS_nb b' hr (fun x => hl r x hr), if_neg (fun e => hb.elim (fun g => g e.1) (fun g => e.2.2 (g r hr)))]
    exact h.2 r hr
/-- one leg more -/
theorem RvO_step {l l' : Nat → Option Nat} {r0 h0 s0 : Nat} (hr0 : r0 < 3) (hh0 : h0 < 8) (hrun : runsS S r0 h0) (es : S.2.1 17 (24 * b + 8 * r0 + h0) = some s0) (e1 : l r0 = none) (e2 : l' r0 = some h0) (e3 : ∀ r, r < 3 → r ≠ r0 → l' r = l r) (hlr : ∀ r x, r < 3 → l r = some x → runsS S r x ∧ ∃ s, S.2.1 17 (24 * b + 8 * r + x) = some s) (h : RvO (newBet S z b kd st paid l) μ b) (m6 : ∀ k, μ'.1 (40 + 8 * b + 6) k = if k = 8 * r0 + h0 then μ.1 (40 + 8 * b + 6) k + 1 else μ.1 (40 + 8 * b + 6) k) (m3 : ∀ k, μ'.1 (40 + 8 * b + 3) k = if winK kd ∧ k = 8 * r0 + h0 then μ.1 (40 + 8 * b + 3) k + nI st else μ.1 (40 + 8 * b + 3) k) (m4 : ∀ k, μ'.1 (40 + 8 * b + 4) k = if winK kd ∧ k = r0 then μ.1 (40 + 8 * b + 4) k + nI st else μ.1 (40 + 8 * b + 4) k) (m5 : ∀ k, μ'.1 (40 + 8 * b + 5) k = if winK kd ∧ k = 8 * r0 + h0 then μ.1 (40 + 8 * b + 5) k + nI (st + wonBy S st s0) else μ.1 (40 + 8 * b + 5) k) : RvO (newBet S z b kd st paid l') μ' b := by
  have hlr' : ∀ r x, r < 3 → l' r = some x → runsS S r x := fun r x hr e => by
    by_cases er : r = r0
    · rw [er, e2] at e
      cases e
      rw [er]
      exact hrun
    · rw [e3 r hr er] at e
      exact (hlr r x hr e).1
  refine ⟨fun r x hr hx => ?_, fun r hr => ?_⟩
  · obtain ⟨a3, a5, a6⟩ := h.1 r x hr hx
    unfold stkA at a3
    unfold bckA at a5
    unfold stkA bckA
    rw [nb_11, stkOn_nb b hr] at a3
    rw [nb_11, backsS_nb b hr] at a5
    rw [betsOn_nb b hr] at a6
    rw [nb_11, stkOn_nb b hr, backsS_nb b hr, betsOn_nb b hr]
    by_cases eq : r = r0 ∧ x = h0
    · obtain ⟨er, ex⟩ := eq
      subst er
      subst ex
      have ng : ¬ (S.1 11 r).testBit x = true := by
        rw [hrun.2.2]
        decide
      rw [if_neg ng, e1, if_neg (fun z => by cases z.2.2)] at a3 a5
      rw [e1, if_neg (fun z => by cases z.2)] at a6
      rw [if_neg ng, if_neg ng, e2, nb26n hr e2 es, m3, m5, m6, if_pos rfl, a3, a5, a6]
      refine ⟨?_, ?_, ?_⟩
      · by_cases hw : winK kd
        · rw [if_pos ⟨hw, rfl⟩, if_pos ⟨rfl, hw, rfl⟩, nI_add]
          rfl
        · rw [if_neg (fun z => hw z.1), if_neg (fun z => hw z.2.1)]
      · by_cases hw : winK kd
        · rw [if_pos ⟨hw, rfl⟩, if_pos ⟨rfl, hw, rfl⟩, nI_add]
          rfl
        · rw [if_neg (fun z => hw z.1), if_neg (fun z => hw z.2.1)]
      · rw [if_pos ⟨rfl, rfl⟩, nI_1]
    · have ne : ¬ 8 * r + x = 8 * r0 + h0 := fun z => eq (by omega)
      have el : l' r = some x ↔ l r = some x := by
        by_cases er : r = r0
        · rw [er, e1, e2]
          exact ⟨fun z => absurd ⟨er, (Option.some.inj z).symm⟩ eq, fun z => by cases z⟩
        · rw [e3 r hr er]
      rw [m3, m5, m6, if_neg (show ¬ (winK kd ∧ 8 * r + x = 8 * r0 + h0) from fun z => ne z.2), if_neg (show ¬ (winK kd ∧ 8 * r + x = 8 * r0 + h0) from fun z => ne z.2), if_neg ne]
      have c1 := ite_iff (α := Nat) (p := b = b ∧ winK kd ∧ l' r = some x) (q := b = b ∧ winK kd ∧ l r = some x) ⟨fun e => ⟨rfl, e.2.1, el.mp e.2.2⟩, fun e => ⟨rfl, e.2.1, el.mpr e.2.2⟩⟩
      have c2 := ite_iff (α := Nat) (p := b = b ∧ l' r = some x) (q := b = b ∧ l r = some x) ⟨fun e => ⟨rfl, el.mp e.2⟩, fun e => ⟨rfl, el.mpr e.2⟩⟩
      refine ⟨by rw [c1]; exact a3, ?_, by rw [c2]; exact a6⟩
      by_cases g : winK kd ∧ l r = some x
      · obtain ⟨s, e9⟩ := (hlr r x hr g.2).2
        rw [nb26n hr g.2 e9] at a5
        rw [nb26n hr (el.mpr g.2) e9, c1]
        exact a5
      · rw [if_neg (show ¬ (b = b ∧ winK kd ∧ l r = some x) from fun z => g z.2)] at a5
        rw [if_neg (show ¬ (b = b ∧ winK kd ∧ l' r = some x) from fun z => g ⟨z.2.1, el.mp z.2.2⟩)]
        exact a5
  · have a4 := h.2 r hr
    rw [stakesS_nb b hr (fun x e => (hlr r x hr e).1)] at a4
    rw [stakesS_nb b hr (fun x => hlr' r x hr), m4]
    by_cases er : r = r0
    · subst er
      rw [e1, if_neg (fun z => z.2.2 rfl)] at a4
      rw [e2, a4]
      by_cases hw : winK kd
      · rw [if_pos ⟨hw, rfl⟩, if_pos ⟨rfl, hw, Option.some_ne_none _⟩, nI_add]
        rfl
      · rw [if_neg (fun z => hw z.1), if_neg (fun z => hw z.2.1)]
    · rw [if_neg (fun z => er z.2), e3 r hr er]
      exact a4
end NBS
