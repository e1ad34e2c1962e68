/-! The reference's sums over bets. -/
theorem downTo {Q : Nat → Prop} (n : Nat) (h0 : Q n) (hs : ∀ i, i < n → Q (i + 1) → Q i) : ∀ i, i ≤ n → Q i := by
  have go : ∀ k i, i + k = n → Q i := by
    intro k
    induction k with
    | zero =>
      intro i hi
      have : i = n := by omega
      rw [this]
      exact h0
    | succ k ih =>
      intro i hi
      exact hs i (by omega) (ih (i + 1) (by omega))
  exact fun i hi => go (n - i) i (by omega)
/-- a leg's horse runs -/
def legRuns (S : z_SS) (i r : Nat) : Bool := match S.2.1 25 (3 * i + r) with
  | some h => decide (runsS S r h)
  | none => false
/-- the stakes of a race at a book -/
def stakesS (S : z_SS) (b r : Nat) : Nat := sumN (S.1 0 6) (fun i => if S.1 21 i = b ∧ toWin S i ∧ legRuns S i r = true then S.1 23 i else 0)
/-- what the bets on a horse would have back -/
def backsS (S : z_SS) (b r h : Nat) : Nat := sumN (S.1 0 6) (fun i => if S.1 21 i = b ∧ toWin S i ∧ S.2.1 25 (3 * i + r) = some h then S.1 23 i + wonBy S (S.1 23 i) (S.1 26 (3 * i + r)) else 0)
def balZ (S : z_SS) (b r h : Nat) : Int := (stakesS S b r : Int) - backsS S b r h
/-- how many bets of a book have a horse -/
def betsOn (S : z_SS) (b r h : Nat) : Nat := sumN (S.1 0 6) (fun i => if S.1 21 i = b ∧ S.2.1 25 (3 * i + r) = some h then 1 else 0)
def betsOf (S : z_SS) (b : Nat) : Nat := sumN (S.1 0 6) (fun i => if S.1 21 i = b then 1 else 0)
theorem nI_0a (n : Nat) : nI n + 0 = nI n := by
  rw [show (0 : Int32) = nI 0 from rfl, nI_add]
  rfl
section REF2
variable {B : Nat} {S : z_SS} {μ : z_M}
theorem wf_won (hW : WF B S) {n s : Nat} (hn : n ≤ 20000) (hs : s < S.1 0 5) : wonBy S n s ≤ 1200000 := by
  have h4 := hW.2.1 s hs
  unfold wonBy
  have h1 : n * S.1 8 s ≤ 20000 * 60 := Nat.mul_le_mul hn h4.2.1
  exact Nat.le_trans (Nat.div_le_self _ _) (by omega)
theorem wf_leg (hW : WF B S) {i r : Nat} (hi : i < S.1 0 6) (hr : r < 3) : ∀ h, S.2.1 25 (3 * i + r) = some h → h < 8 := by
  intro h e
  have h4 := (hW.2.2.2.2.2.2.1 i hi).2.2.2.2.2.2.2.2.2.1 r h hr e
  have := hW.2.2.1 r h4.1
  omega
theorem stakesS_le (hB : B ≤ 84) (hW : WF B S) (b r : Nat) : stakesS S b r ≤ 1680000 := by
  have h3 := hW.1
  refine Nat.le_trans (sumN_le (c := 20000) fun i hi => ?_) (by omega)
  have h4 := hW.2.2.2.2.2.2.1 i hi
  split <;> omega
theorem backsS_le (hB : B ≤ 84) (hW : WF B S) {b r h : Nat} (hr : r < 3) : backsS S b r h ≤ 102480000 := by
  have h3 := hW.1
  refine Nat.le_trans (sumN_le (c := 1220000) fun i hi => ?_) (by omega)
  have h4 := hW.2.2.2.2.2.2.1 i hi
  split
  · rename_i hc
    have h5 := h4.2.2.2.2.2.2.2.2.2.1 r h hr hc.2.2
    have := wf_won hW h4.2.2.2.2.1 h5.2.2
    omega
  · omega
theorem r_stakesOf (hB : B ≤ 84) (hR : RepR S μ) (hW : WF B S) {b r : Nat} (hb : b < 2 ^ 31) (hr : r < 3) {K : Int32 → z_M → Prop} (h : K (nI (stakesS S b r)) μ) : C_X12_stakesOf (nI b) (nI r) μ K := by
  have h3 := hW.1
  unfold C_X12_stakesOf L_X12_stakesOf_5
  intro P hP
  refine downTo (Q := fun i => P (nI b) (nI r) (nI (sumN i (fun i => if S.1 21 i = b ∧ toWin S i ∧ legRuns S i r = true then S.1 23 i else 0))) (nI i) μ) (S.1 0 6) ?_ (fun i hi ih => ?_) 0 (Nat.zero_le _)
  · refine hP _ _ _ _ _ ?_
    unfold B_X12_stakesOf_5
    rw [hR.f (k := 6) (by decide) (by decide)]
    exact ifc (nI_leI (by omega) (by omega)) (fun _ => h) (fun g => absurd (Nat.le_refl _) g)
  · have h4 := hW.2.2.2.2.2.2.1 i hi
    refine hP _ _ _ _ _ ?_
    unfold B_X12_stakesOf_5
    rw [hR.f (k := 6) (by decide) (by decide)]
    refine ifc (nI_leI (by omega) (by omega)) (fun g => absurd g (by omega)) (fun _ => ⟨nI_vin (by omega) (by omega), ?_⟩)
    rw [nI_clamp (by omega), hR.a (c := 21) rfl]
    try dsimp only at ih
    unfold sumN at ih
    rw [← nI_1] at ih
    refine ifc (nI_eq (by omega) hb) (fun e1 => ?_) (fun e1 => ?_)
    · refine r_isToWin hB hR hW hi (fun e2 => ?_) (fun e2 => ?_)
      · rw [if_neg i10, r_leg, nI_clamp (by omega), hR.o (c := 25) rfl]
        refine ⟨nI_vin (by omega) (by omega), ifc (oI_eq_m1 (fun n hn => by have := wf_leg hW hi hr n hn; omega)) (fun e3 => ?_) (fun e3 => ?_)⟩
        · rw [if_neg (by intro hc; have := hc.2.2; unfold legRuns at this; rw [e3] at this; cases this), Nat.add_zero] at ih
          exact ih
        · obtain ⟨hh, e4⟩ := Option.ne_none_iff_exists'.mp e3
          rw [e4, oI_some]
          have h8 := wf_leg hW hi hr hh e4
          refine r_runsN hR hW (by omega) (by omega) (fun e5 => ?_) (fun e5 => ?_)
          · rw [if_neg i10, hR.a (c := 23) rfl, nI_add]
            rw [if_pos ⟨e1, e2, by unfold legRuns; rw [e4]; exact decide_eq_true e5⟩] at ih
            exact ih
          · rw [if_pos rfl]
            rw [if_neg (by intro hc; have := hc.2.2; unfold legRuns at this; rw [e4] at this; exact e5 (of_decide_eq_true this)), Nat.add_zero] at ih
            exact ih
      · rw [if_pos rfl]
        rw [if_neg (fun hc => e2 hc.2.1), Nat.add_zero] at ih
        exact ih
    · rw [if_neg (fun hc => e1 hc.1), Nat.add_zero] at ih
      exact ih
theorem r_balanceAt (hB : B ≤ 84) (hR : RepR S μ) (hW : WF B S) {b r h : Nat} (hb : b < 2 ^ 31) (hr : r < 3) (hh : h < 2 ^ 31) {K : Int32 → z_M → Prop} (hK : K (iI (balZ S b r h)) μ) : C_X12_balanceAt (nI b) (nI r) (nI h) μ K := by
  have h3 := hW.1
  unfold C_X12_balanceAt L_X12_balanceAt_11
  refine r_stakesOf hB hR hW hb hr ?_
  intro P hP
  have start : ∀ i, i ≤ S.1 0 6 → P (nI b) (nI r) (nI h) (iI ((stakesS S b r : Int) - (sumN i (fun i => if S.1 21 i = b ∧ toWin S i ∧ S.2.1 25 (3 * i + r) = some h then S.1 23 i + wonBy S (S.1 23 i) (S.1 26 (3 * i + r)) else 0) : Nat))) (nI i) μ := by
    refine downTo (S.1 0 6) ?_ (fun i hi ih => ?_)
    · refine hP _ _ _ _ _ _ ?_
      unfold B_X12_balanceAt_11
      rw [hR.f (k := 6) (by decide) (by decide)]
      exact ifc (nI_leI (by omega) (by omega)) (fun _ => hK) (fun g => absurd (Nat.le_refl _) g)
    · have h4 := hW.2.2.2.2.2.2.1 i hi
      refine hP _ _ _ _ _ _ ?_
      unfold B_X12_balanceAt_11
      rw [hR.f (k := 6) (by decide) (by decide)]
      refine ifc (nI_leI (by omega) (by omega)) (fun g => absurd g (by omega)) (fun _ => ⟨nI_vin (by omega) (by omega), ?_⟩)
      rw [nI_clamp (by omega), hR.a (c := 21) rfl]
      unfold sumN at ih
      rw [← nI_1] at ih
      refine ifc (nI_eq (by omega) hb) (fun e1 => ?_) (fun e1 => ?_)
      · refine r_isToWin hB hR hW hi (fun e2 => ?_) (fun e2 => ?_)
        · rw [if_neg i10, r_leg, nI_clamp (by omega), hR.o (c := 25) rfl]
          refine ⟨nI_vin (by omega) (by omega), ifc (oI_inj (b := some h) (fun n hn => by have := wf_leg hW hi hr n hn; omega) (fun n hn => by cases hn; exact hh)) (fun e3 => ?_) (fun e3 => ?_)⟩
          · have h5 := h4.2.2.2.2.2.2.2.2.2.1 r h hr e3
            rw [hR.a (c := 23) rfl, hR.a (c := 26) rfl]
            refine r_wonBy hR hW (by omega) h5.2.2 ?_
            rw [if_pos ⟨e1, e2, e3⟩] at ih
            rw [nI_add, ← iI_nat (_ + _), iI_sub]
            have e : (stakesS S b r : Int) - (sumN i (fun i => if S.1 21 i = b ∧ toWin S i ∧ S.2.1 25 (3 * i + r) = some h then S.1 23 i + wonBy S (S.1 23 i) (S.1 26 (3 * i + r)) else 0) : Nat) - ((S.1 23 i + wonBy S (S.1 23 i) (S.1 26 (3 * i + r)) : Nat) : Int) = (stakesS S b r : Int) - ((sumN i (fun i => if S.1 21 i = b ∧ toWin S i ∧ S.2.1 25 (3 * i + r) = some h then S.1 23 i + wonBy S (S.1 23 i) (S.1 26 (3 * i + r)) else 0) + (S.1 23 i + wonBy S (S.1 23 i) (S.1 26 (3 * i + r))) : Nat) : Int) := by omega
            rw [e]
            exact ih
          · rw [if_neg (fun hc => e3 hc.2.2), Nat.add_zero] at ih
            exact ih
        · rw [if_pos rfl]
          rw [if_neg (fun hc => e2 hc.2.1), Nat.add_zero] at ih
          exact ih
      · rw [if_neg (fun hc => e1 hc.1), Nat.add_zero] at ih
        exact ih
  have h0 := start 0 (Nat.zero_le _)
  unfold sumN at h0
  rw [show ((stakesS S b r : Int) - ((0 : Nat) : Int)) = ((stakesS S b r : Nat) : Int) by omega, iI_nat] at h0
  exact h0
theorem r_betsAt (hB : B ≤ 84) (hR : RepR S μ) (hW : WF B S) {b r h : Nat} (hb : b < 2 ^ 31) (hr : r < 3) (hh : h < 2 ^ 31) {K : Int32 → z_M → Prop} (hK : K (nI (betsOn S b r h)) μ) : C_X12_betsAt (nI b) (nI r) (nI h) μ K := by
  have h3 := hW.1
  unfold C_X12_betsAt L_X12_betsAt_6
  intro P hP
  refine downTo (Q := fun i => P (nI b) (nI r) (nI h) (nI (sumN i (fun i => if S.1 21 i = b ∧ S.2.1 25 (3 * i + r) = some h then 1 else 0))) (nI i) μ) (S.1 0 6) ?_ (fun i hi ih => ?_) 0 (Nat.zero_le _)
  · refine hP _ _ _ _ _ _ ?_
    unfold B_X12_betsAt_6
    rw [hR.f (k := 6) (by decide) (by decide)]
    exact ifc (nI_leI (by omega) (by omega)) (fun _ => hK) (fun g => absurd (Nat.le_refl _) g)
  · have h4 := hW.2.2.2.2.2.2.1 i hi
    refine hP _ _ _ _ _ _ ?_
    unfold B_X12_betsAt_6 L_X12_betsAt_47
    rw [hR.f (k := 6) (by decide) (by decide)]
    refine ifc (nI_leI (by omega) (by omega)) (fun g => absurd g (by omega)) (fun _ => ⟨nI_vin (by omega) (by omega), ?_⟩)
    rw [nI_clamp (by omega), hR.a (c := 21) rfl]
    try dsimp only at ih
    unfold sumN at ih
    rw [← nI_1] at ih
    refine ifc (nI_eq (by omega) hb) (fun e1 => ?_) (fun e1 => ?_)
    · rw [r_leg, nI_clamp (by omega), hR.o (c := 25) rfl]
      refine ⟨nI_vin (by omega) (by omega), ifc (oI_inj (b := some h) (fun n hn => by have := wf_leg hW hi hr n hn; omega) (fun n hn => by cases hn; exact hh)) (fun e3 => ?_) (fun e3 => ?_)⟩
      · rw [if_pos ⟨e1, e3⟩, ← nI_1] at ih
        exact ih
      · rw [if_neg (fun hc => e3 hc.2), Nat.add_zero] at ih
        rw [nI_0a]
        exact ih
    · rw [if_neg (fun hc => e1 hc.1), Nat.add_zero] at ih
      rw [nI_0a]
      exact ih
end REF2
