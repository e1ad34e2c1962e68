/-! What the calls answer, and what they leave: the reference's plain ones. -/
def ixO (a : Int32) (n : Nat) : Option Nat := if a.toInt < 0 then none else if a.toInt.toNat < n then some a.toInt.toNat else none
theorem ixO_some {j n : Nat} (h : j < n) (hn : n < 2 ^ 31) : ixO (nI j) n = some j := by
  unfold ixO
  rw [nI_toInt (by omega), if_neg (by omega), Int.toNat_natCast, if_pos h]
theorem ixO_none {a : Int32} {n : Nat} (h : ∀ j, j < n → a ≠ nI j) : ixO a n = none := by
  unfold ixO
  split
  · rfl
  · split
    · rename_i h1 h2
      exfalso
      refine h _ h2 ?_
      rw [← iI_nat, Int.toNat_of_nonneg (by omega)]
      exact iI_of a
    · rfl
theorem ixO_inv {a : Int32} {n j : Nat} (h : ixO a n = some j) : j < n ∧ a = nI j := by
  unfold ixO at h
  split at h
  · cases h
  · split at h
    · rename_i h1 h2
      cases h
      refine ⟨h2, ?_⟩
      rw [← iI_nat, Int.toNat_of_nonneg (by omega)]
      exact iI_of a
    · cases h
theorem ixO_non {a : Int32} {n : Nat} (h : ixO a n = none) (hn : n < 2 ^ 31) : ∀ j, j < n → a ≠ nI j := by
  intro j hj e
  rw [e, ixO_some hj hn] at h
  cases h
def stO (d : Int32) (n : Nat) : Option (Option Nat) := if d = -1 then some none else match ixO d n with
  | some s => some (some s)
  | none => none
def opStep (S : z_SS) (a b c : Int32) : Int32 := match ixO a (S.1 0 4) with
  | none => -1
  | some bk => match ixO b (S.1 0 3) with
    | none => -1
    | some r => match ixO c (S.1 10 r) with
      | none => -1
      | some h => oI (S.2.1 17 (24 * bk + 8 * r + h))
def opSlate (S : z_SS) (a b c d : Int32) : Int32 × z_SS := match ixO a (S.1 0 4) with
  | none => (0, S)
  | some bk => match ixO b (S.1 0 3) with
    | none => (0, S)
    | some r => match ixO c (S.1 10 r) with
      | none => (0, S)
      | some h => if (S.1 11 r).testBit h = true then (0, S) else if S.1 12 r = 0 then (match stO d (S.1 0 5) with
        | none => (0, S)
        | some o => (1, setO S 17 (24 * bk + 8 * r + h) o)) else (0, S)
def opBalance (S : z_SS) (a b c : Int32) : Int32 := match ixO a (S.1 0 4) with
  | none => -1000000000
  | some bk => match ixO b (S.1 0 3) with
    | none => -1000000000
    | some r => if c = -1 then wI (worstS S bk r) else match ixO c (S.1 10 r) with
      | none => -1000000000
      | some h => if (S.1 11 r).testBit h = true then nI (stakesS S bk r) else iI (balZ S bk r h)
def opRound (S : z_SS) (a b c : Int32) : Int64 := match ixO a (S.1 0 4) with
  | none => -1
  | some bk => match ixO b (S.1 0 3) with
    | none => -1
    | some r => match ixO c 2 with
      | none => -1
      | some w => if w = 0 then lN (redF (fracS S (fun h => S.2.1 17 (24 * bk + 8 * r + h)) (S.1 10 r))).1 else lN (redF (fracS S (fun h => S.2.1 17 (24 * bk + 8 * r + h)) (S.1 10 r))).2
def opBookIs (S : z_SS) (a b : Int32) : Int32 := match ixO a (S.1 0 4) with
  | none => -1
  | some bk => if b = 0 then nI (S.1 15 bk) else if b = 1 then nI (S.1 16 bk) else if b = 2 then nI (betsOf S bk) else -1
def opSure (S : z_SS) (a : Int32) : Int32 := match ixO a (S.1 0 3) with
  | none => -1
  | some r => if sureS S r = true then 1 else 0
def allI (S : z_SS) (r : Nat) : Int32 := (((1 : Int32) <<< (nI (S.1 10 r) &&& 31)) - 1) &&& (nI (S.1 11 r) ^^^ -1)
def opCount (S : z_SS) (a : Int32) : Int32 := match ixO (a - 10) (S.1 0 3) with
  | some r => allI S r
  | none => match ixO (a - 20) (S.1 0 3) with
    | some r => nI (S.1 12 r)
    | none => match ixO (a - 30) (S.1 0 4) with
      | some b => nI (S.2.2 b).length
      | none => if a = 0 then nI (S.1 0 2) else if a = 1 then nI (S.1 0 3) else if a = 2 then nI (S.1 0 4) else if a = 3 then nI (S.1 0 6) else if a = 4 then nI (S.1 0 5) else if a = 5 then nI (S.1 0 1) else -1
def opRace (S : z_SS) (a : Int32) : Int32 × z_SS := if S.1 0 3 = 3 then (-1, S) else match ixO a 9 with
  | none => (-1, S)
  | some n => if n < 2 then (-1, S) else (nI (S.1 0 3), setN (setN S 10 (S.1 0 3) n) 0 3 (S.1 0 3 + 1))
def opBook (S : z_SS) (a : Int32) : Int32 × z_SS := if S.1 0 4 = 4 then (-1, S) else match ixO a 1000001 with
  | none => (-1, S)
  | some n => (nI (S.1 0 4), setN (setN S 15 (S.1 0 4) n) 0 4 (S.1 0 4 + 1))
/-- the byte of a word at a shift -/
def byN (w : Int32) (sh : Int32) : Nat := ((w >>> (sh &&& 31)) &&& 255).toNatClampNeg
def putB (S : z_SS) (n : Nat) : z_SS := setN (setN S 1 (S.1 0 1) n) 0 1 (S.1 0 1 + 1)
def putW (S : z_SS) (w : Int32) : z_SS := putB (putB (putB (putB S (byN w 24)) (byN w 16)) (byN w 8)) (byN w 0)
def opFeed (S : z_SS) (a b c d e : Int32) : Int32 × z_SS := if S.1 0 1 + 20 ≤ 200 then (nI (S.1 0 1 + 20), putW (putW (putW (putW (putW S a) b) c) d) e) else (-1, S)
def priceOk (S : z_SS) (k a b : Nat) : Bool := decide (1 ≤ a ∧ a ≤ 60 ∧ 1 ≤ b ∧ b ≤ 12) && (decide (k = 0) || decide (S.1 8 (k - 1) * b < a * S.1 9 (k - 1)))
/-- the prices from k on, m of them -/
def ladL (S : z_SS) (n : Nat) (m : Nat) : Int32 × z_SS := match m with
  | 0 => (1, setN S 0 5 n)
  | m + 1 => if priceOk S (n - (m + 1)) (S.1 1 (2 * (n - (m + 1)))) (S.1 1 (2 * (n - (m + 1)) + 1)) = true then ladL (setN (setN S 8 (n - (m + 1)) (S.1 1 (2 * (n - (m + 1))))) 9 (n - (m + 1)) (S.1 1 (2 * (n - (m + 1)) + 1))) n m else (0, S)
def opLadder (S : z_SS) (a : Int32) : Int32 × z_SS := if 0 < S.1 0 5 then (0, S) else match ixO a 25 with
  | none => (0, S)
  | some n => if n = 0 then (0, S) else if 2 * n ≤ S.1 0 1 then ladL (setN S 0 1 0) n n else (0, S)
section REF4
variable {B : Nat} {S : z_SS} {μ : z_M}
theorem r_step (hR : RepR S μ) (hW : WF B S) {a b c : Int32} {K : Int32 → z_M → Prop} (hK : K (opStep S a b c) μ) : C_X12_step a b c μ K := by
  have h3 := hW.1
  unfold C_X12_step
  unfold opStep at hK
  refine r_isBook hR hW (fun bk hb e => ?_) (fun g => ?_)
  · subst e
    rw [ixO_some hb (by omega)] at hK
    rw [if_neg i10]
    refine r_isHorse hR hW (fun r h hr hh e1 e2 => ?_) (fun g => ?_)
    · subst e1; subst e2
      have h4 := hW.2.2.1 r hr
      dsimp only at hK
      rw [ixO_some hr (by omega)] at hK
      dsimp only at hK
      rw [ixO_some hh (by omega)] at hK
      rw [if_neg i10]
      refine r_cellOf ⟨nI_vin (by omega) (by omega), ?_⟩
      rw [nI_clamp (by omega), hR.o (c := 17) rfl]
      exact hK
    · rw [if_pos rfl]
      dsimp only at hK
      cases e1 : ixO b (S.1 0 3) with
      | none => rw [e1] at hK; exact hK
      | some r =>
        obtain ⟨hr, er⟩ := ixO_inv e1
        rw [e1] at hK
        dsimp only at hK
        rw [ixO_none fun j hj => g r j hr hj er] at hK
        exact hK
  · rw [ixO_none g] at hK
    rw [if_pos rfl]
    exact hK
theorem r_stO {d : Int32} {n : Nat} (hn : n < 2 ^ 31) {K : Int32 → z_M → Prop} (h1 : ∀ o, stO d n = some o → d = oI o → (∀ s, o = some s → s < n) → K 1 μ) (h0 : stO d n = none → K 0 μ) : C_X12_lies d.toInt64 (-1) ((nI n - 1).toInt64) μ K := by
  refine r_liesO hn (fun o ho e => ?_) (fun g => h0 ?_)
  · refine h1 o ?_ e ho
    subst e
    cases o with
    | none => rfl
    | some s =>
      have := ho s rfl
      unfold stO
      rw [oI_some, if_neg (nI_ne_m1 (by omega)), ixO_some this hn]
  · unfold stO
    rw [if_neg (show ¬ d = -1 from g none (fun j h => by cases h)), ixO_none fun j hj => g (some j) (fun i h => by cases h; exact hj)]
theorem r_slate (hR : RepR S μ) (hW : WF B S) {a b c d : Int32} {K : Int32 → z_M → Prop} (hK : ∀ μ', RepR (opSlate S a b c d).2 μ' → K (opSlate S a b c d).1 μ') : C_X12_slate a b c d μ K := by
  have h3 := hW.1
  unfold C_X12_slate
  unfold opSlate at hK
  refine r_isBook hR hW (fun bk hb e => ?_) (fun g => ?_)
  · subst e
    rw [ixO_some hb (by omega)] at hK
    dsimp only at hK
    rw [if_neg i10]
    refine r_runs hR hW (fun r h hx e1 e2 => ?_) (fun g => ?_)
    · subst e1; subst e2
      have h4 := hW.2.2.1 r hx.1
      have hx1 := hx.1
      have hx2 := hx.2.1
      rw [ixO_some hx.1 (by omega)] at hK
      dsimp only at hK
      rw [ixO_some hx.2.1 (by omega)] at hK
      dsimp only at hK
      rw [if_neg (by rw [hx.2.2]; decide)] at hK
      rw [if_neg i10, nI_clamp (by omega), hR.a (c := 12) rfl]
      refine ⟨nI_vin (by omega) (by omega), ifc (nI_eq (b := 0) (by omega) (by decide)) (fun e0 => ?_) (fun e0 => ?_)⟩
      · rw [if_pos e0] at hK
        rw [hR.f (k := 5) (by decide) (by decide)]
        refine r_stO (by omega) (fun o eo ed ho => ?_) (fun eo => ?_)
        · rw [eo] at hK
          rw [if_neg i10]
          refine r_cellOf ⟨nI_vin (by omega) (by omega), ?_⟩
          rw [nI_clamp (by omega)]
          exact hK _ (hR.setO rfl ed)
        · rw [eo] at hK
          rw [if_pos rfl]
          exact hK μ hR
      · rw [if_neg e0] at hK
        exact hK μ hR
    · rw [if_pos rfl]
      have hz : ∀ (x : Int32 × z_SS), x = (0, S) → (∀ μ', RepR x.2 μ' → K x.1 μ') → K 0 μ := fun x e hk => by
        subst e
        exact hk μ hR
      refine hz _ ?_ hK
      cases e1 : ixO b (S.1 0 3) with
      | none => rfl
      | some r =>
        obtain ⟨hr, er⟩ := ixO_inv e1
        dsimp only
        cases e2 : ixO c (S.1 10 r) with
        | none => rfl
        | some h =>
          obtain ⟨hh, eh⟩ := ixO_inv e2
          dsimp only
          cases e3 : (S.1 11 r).testBit h with
          | true => rfl
          | false => exact absurd eh (g r h ⟨hr, hh, e3⟩ er)
  · rw [ixO_none g] at hK
    rw [if_pos rfl]
    exact hK μ hR
theorem r_balance (hB : B ≤ 84) (hR : RepR S μ) (hW : WF B S) {a b c : Int32} {K : Int32 → z_M → Prop} (hK : K (opBalance S a b c) μ) : C_X12_balance a b c μ K := by
  have h3 := hW.1
  unfold C_X12_balance
  unfold opBalance at hK
  refine r_isBook hR hW (fun bk hb e => ?_) (fun g => ?_)
  · subst e
    rw [ixO_some hb (by omega)] at hK
    dsimp only at hK
    rw [if_neg i10]
    refine r_isRace hR hW (fun r hr e => ?_) (fun g => ?_)
    · subst e
      have h4 := hW.2.2.1 r hr
      rw [ixO_some hr (by omega)] at hK
      dsimp only at hK
      rw [if_neg i10]
      refine ifd (fun e => ?_) (fun e => ?_)
      · rw [if_pos e] at hK
        unfold L_X12_balance_33
        rw [if_pos e]
        exact r_worstOf hB hR hW (by omega) hr hK
      · rw [if_neg e] at hK
        refine r_isHorse hR hW (fun r' h hr' hh e1 e2 => ?_) (fun g => ?_)
        · have := (nI_eq (by omega) (by omega)).mp e1
          subst this
          subst e2
          rw [ixO_some hh (by omega)] at hK
          dsimp only at hK
          rw [if_neg i10]
          unfold L_X12_balance_33
          rw [if_neg e]
          refine r_runsN hR hW (by omega) (by omega) (fun hx => ?_) (fun hx => ?_)
          · rw [if_neg (by rw [hx.2.2]; decide)] at hK
            rw [if_neg i10]
            exact r_balanceAt hB hR hW (by omega) (by omega) (by omega) hK
          · have : (S.1 11 r).testBit h = true := by
              cases e3 : (S.1 11 r).testBit h with
              | true => rfl
              | false => exact absurd ⟨hr, hh, e3⟩ hx
            rw [if_pos this] at hK
            rw [if_pos rfl]
            exact r_stakesOf hB hR hW (by omega) (by omega) hK
        · rw [ixO_none fun j hj => g r j hr hj rfl] at hK
          rw [if_pos rfl]
          exact hK
    · rw [ixO_none g] at hK
      rw [if_pos rfl]
      exact hK
  · rw [ixO_none g] at hK
    rw [if_pos rfl]
    exact hK
theorem r_round (hR : RepR S μ) (hW : WF B S) {a b c : Int32} {K : Int64 → z_M → Prop} (hK : ∀ μ', RepR S μ' → K (opRound S a b c) μ') : C_X12_round a b c μ K := by
  have h3 := hW.1
  unfold C_X12_round
  unfold opRound at hK
  refine r_isBook hR hW (fun bk hb e => ?_) (fun g => ?_)
  · subst e
    rw [ixO_some hb (by omega)] at hK
    dsimp only at hK
    rw [if_neg i10]
    refine r_isRace hR hW (fun r hr e => ?_) (fun g => ?_)
    · subst e
      have h4 := hW.2.2.1 r hr
      rw [ixO_some hr (by omega)] at hK
      dsimp only at hK
      rw [if_neg i10]
      refine r_liesC (lo := 0) (hi := 1) (x := 0) (y := 1) rfl rfl (by decide) (by decide) (fun w w1 w2 e => ?_) (fun g => ?_)
      · subst e
        rw [ixO_some (show w < 2 by omega) (by omega)] at hK
        dsimp only at hK
        rw [if_neg i10]
        refine r_rounds hR hW (by omega) hr fun μ' hR' _ hA' => ?_
        refine ifc (nI_eq (b := 0) (by omega) (by decide)) (fun e => ?_) (fun e => ?_)
        · rw [if_pos e] at hK
          rw [hA'.1]
          exact hK μ' hR'
        · rw [if_neg e] at hK
          rw [hA'.2]
          exact hK μ' hR'
      · rw [ixO_none fun j hj => g j (by omega) (by omega)] at hK
        rw [if_pos rfl]
        exact hK μ hR
    · rw [ixO_none g] at hK
      rw [if_pos rfl]
      exact hK μ hR
  · rw [ixO_none g] at hK
    rw [if_pos rfl]
    exact hK μ hR
theorem r_bookIs (hB : B ≤ 84) (hR : RepR S μ) (hW : WF B S) {a b : Int32} {K : Int32 → z_M → Prop} (hK : K (opBookIs S a b) μ) : C_X12_bookIs a b μ K := by
  have h3 := hW.1
  unfold C_X12_bookIs
  unfold opBookIs at hK
  refine r_isBook hR hW (fun bk hb e => ?_) (fun g => ?_)
  · subst e
    rw [ixO_some hb (by omega)] at hK
    dsimp only at hK
    rw [if_neg i10]
    unfold L_X12_bookIs_15
    intro P hP
    refine downTo (Q := fun i => P (nI bk) b (nI (sumN i (fun i => if S.1 21 i = bk then 1 else 0))) (nI i) μ) (S.1 0 6) ?_ (fun i hi ih => ?_) 0 (Nat.zero_le _)
    · refine hP _ _ _ _ _ ?_
      have h4 := hW.2.2.2.1 bk hb
      unfold B_X12_bookIs_15
      rw [hR.f (k := 6) (by decide) (by decide)]
      refine ifc (nI_leI (by omega) (by omega)) (fun _ => ?_) (fun g => absurd (Nat.le_refl _) g)
      rw [nI_clamp (by omega), hR.a (c := 15) rfl, hR.a (c := 16) rfl]
      refine ifd (fun e => ?_) (fun e => ifd (fun e1 => ?_) (fun e1 => ifd (fun e2 => ?_) (fun e2 => ?_)))
      · rw [if_pos e] at hK
        exact ⟨nI_vin (by omega) (by omega), hK⟩
      · rw [if_neg e, if_pos e1] at hK
        refine ⟨nI_vin (by omega) (by omega), ifc (nI_eq (b := 0) (by omega) (by decide)) (fun g => ?_) (fun g => ?_)⟩
        · rw [g] at hK
          exact hK
        · rw [show S.1 16 bk = 1 by omega] at hK
          exact hK
      · rw [if_neg e, if_neg e1, if_pos e2] at hK
        exact hK
      · rw [if_neg e, if_neg e1, if_neg e2] at hK
        exact hK
    · have h4 := hW.2.2.2.2.2.2.1 i hi
      refine hP _ _ _ _ _ ?_
      unfold B_X12_bookIs_15
      rw [hR.f (k := 6) (by decide) (by decide)]
      refine ifc (nI_leI (by omega) (by omega)) (fun g => absurd g (by omega)) (fun _ => ⟨nI_vin (by omega) (by omega), ?_⟩)
      rw [nI_clamp (n := i) (by omega), hR.a (c := 21) rfl]
      try dsimp only at ih
      unfold sumN at ih
      rw [← nI_1] at ih
      refine ifc (nI_eq (by omega) (by omega)) (fun e1 => ?_) (fun e1 => ?_)
      · rw [if_pos e1, ← nI_1] at ih
        exact ih
      · rw [if_neg e1, Nat.add_zero] at ih
        rw [nI_0a]
        exact ih
  · rw [ixO_none g] at hK
    rw [if_pos rfl]
    exact hK
theorem r_sure (hR : RepR S μ) (hW : WF B S) {a : Int32} {K : Int32 → z_M → Prop} (hK : ∀ μ', RepR S μ' → K (opSure S a) μ') : C_X12_sure a μ K := by
  have h3 := hW.1
  unfold C_X12_sure
  unfold opSure at hK
  refine r_isRace hR hW (fun r hr e => ?_) (fun g => ?_)
  · subst e
    rw [ixO_some hr (by omega)] at hK
    rw [if_neg i10]
    refine r_isSure hR hW hr (fun e μ' hR' _ => ?_) (fun e μ' hR' _ => ?_)
    · rw [if_neg i10]
      have := hK μ' hR'
      dsimp only at this
      rw [if_pos e] at this
      exact this
    · rw [if_pos rfl]
      have := hK μ' hR'
      dsimp only at this
      rw [if_neg (by rw [e]; decide)] at this
      exact this
  · rw [ixO_none g] at hK
    rw [if_pos rfl]
    exact hK μ hR
theorem r_count (hR : RepR S μ) (hW : WF B S) {a : Int32} {K : Int32 → z_M → Prop} (hK : K (opCount S a) μ) : C_X12_count a μ K := by
  have h3 := hW.1
  unfold C_X12_count
  unfold opCount at hK
  refine r_isRace hR hW (fun r hr e => ?_) (fun g => ?_)
  · rw [e, ixO_some hr (by omega)] at hK
    rw [if_neg i10, e, nI_clamp (by omega), hR.a (c := 10) rfl, hR.a (c := 11) rfl]
    exact ⟨nI_vin (by omega) (by omega), hK⟩
  · rw [ixO_none g] at hK
    rw [if_pos rfl]
    dsimp only at hK
    refine r_isRace hR hW (fun r hr e => ?_) (fun g => ?_)
    · have h4 := hW.2.2.1 r hr
      rw [e, ixO_some hr (by omega)] at hK
      rw [if_neg i10, e, nI_clamp (by omega), hR.a (c := 12) rfl]
      dsimp only at hK
      refine ⟨nI_vin (by omega) (by omega), ifc (nI_eq (b := 0) (by omega) (by decide)) (fun g => ?_) (fun g => ?_)⟩
      · rw [g] at hK
        exact hK
      · rw [show S.1 12 r = 1 by omega] at hK
        exact hK
    · rw [ixO_none g] at hK
      rw [if_pos rfl]
      dsimp only at hK
      refine r_isBook hR hW (fun b hb e => ?_) (fun g => ?_)
      · rw [e, ixO_some hb (by omega)] at hK
        rw [if_neg i10, e, nI_clamp (by omega), (hR.2.2.2.2 b (by omega)).1]
        exact ⟨nI_vin (by omega) (by omega), hK⟩
      · rw [ixO_none g] at hK
        rw [if_pos rfl, hR.f (k := 1) (by decide) (by decide), hR.f (k := 2) (by decide) (by decide), hR.f (k := 3) (by decide) (by decide), hR.f (k := 4) (by decide) (by decide), hR.f (k := 5) (by decide) (by decide), hR.f (k := 6) (by decide) (by decide)]
        dsimp only at hK
        exact ifd (fun e => by rw [if_pos e] at hK; exact hK) fun e0 => ifd (fun e => by rw [if_neg e0, if_pos e] at hK; exact hK) fun e1 => ifd (fun e => by rw [if_neg e0, if_neg e1, if_pos e] at hK; exact hK) fun e2 => ifd (fun e => by rw [if_neg e0, if_neg e1, if_neg e2, if_pos e] at hK; exact hK) fun e3 => ifd (fun e => by rw [if_neg e0, if_neg e1, if_neg e2, if_neg e3, if_pos e] at hK; exact hK) fun e4 => ifd (fun e => by rw [if_neg e0, if_neg e1, if_neg e2, if_neg e3, if_neg e4, if_pos e] at hK; exact hK) fun e5 => by
          rw [if_neg e0, if_neg e1, if_neg e2, if_neg e3, if_neg e4, if_neg e5] at hK
          exact hK
end REF4
