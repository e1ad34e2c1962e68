/-! The reference: bet, joined. -/
def canB (S : z_SS) (b : Nat) (x y : Int32) : Option (Nat × Nat) := match ixO x (S.1 0 3) with
  | none => none
  | some r => match ixO y (S.1 10 r) with
    | none => none
    | some h => if (S.1 11 r).testBit h = false ∧ S.1 12 r = 0 ∧ S.2.1 17 (24 * b + 8 * r + h) ≠ none then some (r, h) else none
def opBet (S : z_SS) (a b c d e f : Int32) : Int32 × z_SS := if S.1 0 6 = 80 then (-1, S) else match ixO a 16 with
  | none => (-1, S)
  | some z => match ixO b (S.1 0 4) with
    | none => (-1, S)
    | some bk => if S.1 16 bk = 0 then (match ixO c 3 with
      | none => (-1, S)
      | some kd => match canB S bk d e with
        | none => (-1, S)
        | some (r, h) => match ixO f 20001 with
          | none => (-1, S)
          | some st => if st = 0 then (-1, S) else (nI (S.1 0 6), mvS (newBet S z bk kd st (if kd = 2 then 2 * st else st) (fun q => if q = r then some h else none)) bk r h)) else (-1, S)
/-- a leg told: NONE, or a horse to bet on -/
def legO (S : z_SS) (b r : Nat) (x : Int32) : Option (Option Nat) := if x = -1 then some none else match canB S b (nI r) x with
  | some (_, h) => some (some h)
  | none => none
def leg3 (l0 l1 l2 : Option Nat) (q : Nat) : Option Nat := if q = 0 then l0 else if q = 1 then l1 else if q = 2 then l2 else none
def cnt3 (l0 l1 l2 : Option Nat) : Nat := (if l0 = none then 0 else 1) + (if l1 = none then 0 else 1) + (if l2 = none then 0 else 1)
def mvO (S : z_SS) (b r : Nat) (o : Option Nat) : z_SS := match o with
  | some h => mvS S b r h
  | none => S
def opJoined (S : z_SS) (a b c d e f : Int32) : Int32 × z_SS := if S.1 0 6 = 80 then (-1, S) else match ixO a 16 with
  | none => (-1, S)
  | some z => match ixO b (S.1 0 4) with
    | none => (-1, S)
    | some bk => if S.1 16 bk = 0 then (match ixO f 20001 with
      | none => (-1, S)
      | some st => if st = 0 then (-1, S) else match legO S bk 0 c, legO S bk 1 d, legO S bk 2 e with
        | some l0, some l1, some l2 => if 2 ≤ cnt3 l0 l1 l2 then (nI (S.1 0 6), mvO (mvO (mvO (newBet S z bk 3 st st (leg3 l0 l1 l2)) bk 0 l0) bk 1 l1) bk 2 l2) else (-1, S)
        | _, _, _ => (-1, S)) else (-1, S)
section REFC
variable {B : Nat} {S : z_SS} {μ : z_M}
theorem r_isBettor {a : Int32} {K : Int32 → z_M → Prop} (h1 : ∀ z, z < 16 → a = nI z → K 1 μ) (h0 : ixO a 16 = none → K 0 μ) : C_X12_isBettor a μ K := by
  unfold C_X12_isBettor
  exact r_liesC (lo := 0) (hi := 15) (x := 0) (y := 15) rfl rfl (by decide) (by decide) (fun z z1 z2 e => h1 z (by omega) e) (fun g => h0 (ixO_none fun j hj => g j (by omega) (by omega)))
theorem r_isStake {a : Int32} {K : Int32 → z_M → Prop} (h1 : ∀ z, 1 ≤ z → z ≤ 20000 → a = nI z → K 1 μ) (h0 : (∀ z, ixO a 20001 = some z → z = 0) → K 0 μ) : C_X12_isStake a μ K := by
  unfold C_X12_isStake
  refine r_liesC (lo := 1) (hi := 20000) (x := 1) (y := 20000) rfl rfl (by decide) (by decide) (fun z z1 z2 e => h1 z z1 z2 e) (fun g => h0 fun z hz => ?_)
  obtain ⟨q1, q2⟩ := ixO_inv hz
  exact Classical.byContradiction fun hne => g z (by omega) (by omega) q2
theorem r_canBet (hR : RepR S μ) (hW : WF B S) {bk : Nat} (hb : bk < 4) {x y : Int32} {K : Int32 → z_M → Prop} (h1 : ∀ r h s, runsS S r h → S.1 12 r = 0 → S.2.1 17 (24 * bk + 8 * r + h) = some s → x = nI r → y = nI h → canB S bk x y = some (r, h) → K 1 μ) (h0 : canB S bk x y = none → K 0 μ) : C_X12_canBet (nI bk) x y μ K := by
  have h3 := hW.1
  unfold C_X12_canBet
  refine r_runs hR hW (fun r h hx e1 e2 => ?_) (fun g => ?_)
  · subst e1; subst e2
    have h4 := hW.2.2.1 r hx.1
    have hx1 := hx.1
    have hx2 := hx.2.1
    have ec : canB S bk (nI r) (nI h) = if (S.1 11 r).testBit h = false ∧ S.1 12 r = 0 ∧ S.2.1 17 (24 * bk + 8 * r + h) ≠ none then some (r, h) else none := by
      unfold canB
      rw [ixO_some hx.1 (by omega)]
      dsimp only
      rw [ixO_some hx.2.1 (by omega)]
    rw [if_neg i10, nI_clamp (by omega), hR.a (c := 12) rfl]
    refine ⟨nI_vin (by omega) (by omega), ifc (nI_eq (b := 0) (by omega) (by omega)) (fun e0 => r_cellOf ⟨nI_vin (by omega) (by omega), ?_⟩) (fun e0 => h0 (by rw [ec, if_neg (fun q => e0 q.2.1)]))⟩
    rw [nI_clamp (by omega), hR.o (c := 17) rfl]
    cases es : S.2.1 17 (24 * bk + 8 * r + h) with
    | none =>
      rw [if_pos (show oI none = -1 from rfl)]
      exact h0 (by rw [ec, if_neg (fun q => q.2.2 es)])
    | some s =>
      have hs := (wf17 hW (by omega) es).1
      rw [if_neg (show ¬ oI (some s) = -1 from nI_ne_m1 (by omega))]
      exact h1 r h s hx e0 es rfl rfl (by rw [ec, if_pos ⟨hx.2.2, e0, by rw [es]; exact Option.some_ne_none s⟩])
  · rw [if_pos rfl]
    refine h0 ?_
    unfold canB
    cases e1 : ixO x (S.1 0 3) with
    | none => rfl
    | some r =>
      obtain ⟨hr, er⟩ := ixO_inv e1
      dsimp only
      cases e2 : ixO y (S.1 10 r) with
      | none => rfl
      | some h =>
        obtain ⟨hh, eh⟩ := ixO_inv e2
        dsimp only
        rw [if_neg]
        intro q
        exact g r h ⟨hr, hh, q.1⟩ er eh
theorem nb_live {z b kd st paid : Nat} {leg : Nat → Option Nat} : (newBet S z b kd st paid leg).2.2 = S.2.2 := rfl
theorem WFc_same {S' : z_SS} (hC : WFc S) (e : S'.2.2 = S.2.2) : WFc S' := by
  unfold WFc
  rw [e]
  exact hC
theorem mvS_1 {b r h : Nat} : (mvS S b r h).1 = S.1 ∧ (mvS S b r h).2.2 = S.2.2 ∧ ∀ c, c ≠ 17 → (mvS S b r h).2.1 c = S.2.1 c := mvL_1 _ S
theorem mvS_WF (hW : WF B S) {b r h : Nat} : WF B (mvS S b r h) := mvL_WF _ S hW
theorem r_bet (hR : RepR S μ) (hW : WF 80 S) (hC : WFc S) {a b c d e f : Int32} {K : Int32 → z_M → Prop} (hK : ∀ μ', RepR (opBet S a b c d e f).2 μ' → K (opBet S a b c d e f).1 μ') : C_X12_bet a b c d e f μ K := by
  have h3 := hW.1
  have hz : ∀ (x : Int32 × z_SS), x = (-1, S) → (∀ μ', RepR x.2 μ' → K x.1 μ') → K (-1) μ := fun x e hk => by
    subst e
    exact hk μ hR
  unfold C_X12_bet
  unfold opBet at hK
  rw [hR.f (k := 6) (by decide) (by decide)]
  refine ifc (nI_eq (b := 80) (by omega) (by decide)) (fun e => hz _ (if_pos e) hK) (fun e80 => ?_)
  rw [if_neg e80] at hK
  refine r_isBettor (fun z hz16 ea => ?_) (fun g => by rw [if_pos rfl]; rw [g] at hK; exact hK μ hR)
  subst ea
  rw [if_neg i10]
  rw [ixO_some hz16 (by decide)] at hK
  dsimp only at hK
  refine r_isBook hR hW (fun bk hb eb => ?_) (fun g => by rw [if_pos rfl]; rw [ixO_none g] at hK; exact hK μ hR)
  subst eb
  rw [if_neg i10]
  rw [ixO_some hb (by omega)] at hK
  dsimp only at hK
  have h4 := hW.2.2.2.1 bk hb
  rw [nI_clamp (by omega), hR.a (c := 16) rfl]
  refine ⟨nI_vin (by omega) (by omega), ifc (nI_eq (b := 0) (by omega) (by omega)) (fun e16 => ?_) (fun e16 => hz _ (if_neg e16) hK)⟩
  rw [if_pos e16] at hK
  refine r_liesC (lo := 0) (hi := 2) (x := 0) (y := 2) rfl rfl (by decide) (by decide) (fun kd k1 k2 ec => ?_) (fun g => by rw [if_pos rfl]; rw [ixO_none fun j hj => g j (by omega) (by omega)] at hK; exact hK μ hR)
  subst ec
  rw [if_neg i10]
  rw [ixO_some (show kd < 3 by omega) (by decide)] at hK
  dsimp only at hK
  refine r_canBet hR hW (by omega) (fun r h s hx e12 e17 ed ee ecan => ?_) (fun g => by rw [if_pos rfl]; rw [g] at hK; exact hK μ hR)
  rw [if_neg i10]
  rw [ecan] at hK
  dsimp only at hK
  have h5 := hW.2.2.1 r hx.1
  have hx1 := hx.1
  have hx2 := hx.2.1
  subst ed; subst ee
  refine r_isStake (fun st s1 s2 ef => ?_) (fun g => ?_)
  · subst ef
    rw [if_neg i10]
    rw [ixO_some (show st < 20001 by omega) (by decide)] at hK
    dsimp only at hK
    rw [if_neg (by omega)] at hK
    refine r_writes (B := 80) (by decide) hR hW (by omega) fun μ1 hN1 _ => ?_
    refine r_takes (B := 80) (by decide) hR hW (by omega) hN1 (by omega) (by omega) (by omega) fun μ2 hN2 => ?_
    have hR2 := NB_rep hN2 hR
    have hl : ∀ q x, q < 3 → (if q = r then some h else none) = some x → runsS S q x ∧ S.1 12 q = 0 ∧ ∃ s, S.2.1 17 (24 * bk + 8 * q + x) = some s := by
      intro q x hq e
      by_cases g : q = r
      · rw [if_pos g] at e
        cases e
        subst g
        exact ⟨hx, e12, s, e17⟩
      · rw [if_neg g] at e
        cases e
    have fin : ∀ paid, paid ≤ 40000 → (∀ μ', RepR (mvS (newBet S z bk kd st paid (fun q => if q = r then some h else none)) bk r h) μ' → K (nI (S.1 0 6)) μ') → L_X12_bet_106 K (nI bk) (nI r) (nI h) (nI paid) (μ2.1 15 bk) (nI bk) μ2 := by
      intro paid hp hk
      unfold L_X12_bet_106
      rw [nI_clamp (by omega), hR2.a (c := 15) rfl, nI_add, show (si μ2 15 bk (nI (S.1 15 bk + paid))).1 0 6 = nI (S.1 0 6) by
        rw [si1, if_neg (by omega)]
        exact hR2.f (by decide) (by decide)]
      have hR3 : RepR (newBet S z bk kd st paid (fun q => if q = r then some h else none)) (si (si μ2 15 bk (nI (S.1 15 bk + paid))) 0 6 (nI (S.1 0 6) + 1)) := by
        refine NB_new hN2 hR (fun q x hq e => (hl q x hq e).2.2) ?_ ?_ fun c k g1 g2 => ?_
        · rw [si1, if_pos ⟨rfl, rfl⟩, nI_1]
        · rw [si1, if_neg (by omega), si1, if_pos ⟨rfl, rfl⟩]
        · rw [si1, if_neg (by omega), si1, if_neg (by omega)]
      have hW3 := newBet_WF (z := z) (kd := kd) (st := st) (paid := paid) (leg := fun q => if q = r then some h else none) hW (by omega) hz16 hb (by omega) s1 s2 hp hl ⟨r, by omega, by rw [if_pos rfl]; exact Option.some_ne_none h⟩ (fun _ q q' hq hq' g g' => by
        by_cases c1 : q = r
        · by_cases c2 : q' = r
          · rw [c1, c2]
          · rw [if_neg c2] at g'
            exact absurd rfl g'
        · rw [if_neg c1] at g
          exact absurd rfl g)
      refine ⟨nI_vin (by omega) (by omega), r_moves (B := 80) (by decide) hR3 hW3 (WFc_same hC nb_live) (by rw [nb6]; omega) hb hx.1 hx.2.1 fun μ4 hR4 _ => ?_⟩
      rw [hR4.f (k := 6) (by decide) (by decide), mvS_1.1, nb6, nI_pred]
      exact hk μ4 hR4
    refine ifc (nI_eq (b := 2) (by omega) (by omega)) (fun e2 => ?_) (fun e2 => ?_)
    · rw [if_pos e2] at hK
      rw [nI_two]
      exact fin _ (by omega) hK
    · rw [if_neg e2] at hK
      exact fin _ (by omega) hK
  · rw [if_pos rfl]
    refine hz _ ?_ hK
    cases e1 : ixO f 20001 with
    | none => rfl
    | some st =>
      dsimp only
      rw [if_pos (g st e1)]
theorem r_legs (hR : RepR S μ) (hW : WF B S) {bk : Nat} (hb : bk < 4) {r : Nat} (hr : r < 3) {x : Int32} {A : Prop} {K : Int32 → z_M → Prop} (hn : legO S bk r x = some none → A) (h1 : ∀ h s, runsS S r h → S.1 12 r = 0 → S.2.1 17 (24 * bk + 8 * r + h) = some s → x = nI h → legO S bk r x = some (some h) → K 1 μ) (h0 : legO S bk r x = none → K 0 μ) : if x = -1 then A else C_X12_canBet (nI bk) (nI r) x μ K := by
  have h3 := hW.1
  refine ifd (fun e => hn (by unfold legO; rw [if_pos e])) (fun e => ?_)
  refine r_canBet hR hW hb (fun r' h s hx e12 e17 ed ee ecan => ?_) (fun g => h0 (by unfold legO; rw [if_neg e, g]))
  have := (nI_eq (by omega) (by have := hx.1; omega)).mp ed
  subst this
  exact h1 h s hx e12 e17 ee (by unfold legO; rw [if_neg e, ecan])
/-- what a leg that may be taken is -/
theorem legO_ok (hW : WF B S) {bk r : Nat} (hr : r < 3) {x : Int32} {o : Option Nat} (e : legO S bk r x = some o) : x = oI o ∧ ∀ h, o = some h → runsS S r h ∧ S.1 12 r = 0 ∧ (∃ s, S.2.1 17 (24 * bk + 8 * r + h) = some s) ∧ h < 8 := by
  have h3 := hW.1
  unfold legO at e
  split at e
  · rename_i g
    cases e
    exact ⟨g, fun h q => by cases q⟩
  · unfold canB at e
    cases e1 : ixO (nI r) (S.1 0 3) with
    | none => rw [e1] at e; cases e
    | some r' =>
      rw [e1] at e
      dsimp only at e
      obtain ⟨hr', er⟩ := ixO_inv e1
      have := (nI_eq (by omega) (by omega)).mp er
      subst this
      cases e2 : ixO x (S.1 10 r) with
      | none => rw [e2] at e; cases e
      | some h =>
        rw [e2] at e
        dsimp only at e
        obtain ⟨hh, eh⟩ := ixO_inv e2
        by_cases g : (S.1 11 r).testBit h = false ∧ S.1 12 r = 0 ∧ S.2.1 17 (24 * bk + 8 * r + h) ≠ none
        · rw [if_pos g] at e
          cases e
          refine ⟨eh, fun h' q => ?_⟩
          cases q
          have h5 := hW.2.2.1 r hr'
          exact ⟨⟨hr', hh, g.1⟩, g.2.1, Option.ne_none_iff_exists'.mp g.2.2, by omega⟩
        · rw [if_neg g] at e
          cases e
theorem NB_leg {μ μ' : z_M} {z b kd st : Nat} {leg leg' : Nat → Option Nat} (h : NB S μ μ' z b kd st leg) (e : ∀ r, r < 3 → leg' r = leg r) : NB S μ μ' z b kd st leg' :=
  ⟨h.1, fun r hr => by rw [e r hr]; exact h.2.1 r hr, fun r x hr q => h.2.2.1 r x hr (by rw [← e r hr]; exact q), h.2.2.2.1, h.2.2.2.2⟩
theorem mvO_1 {b r : Nat} {o : Option Nat} : (mvO S b r o).1 = S.1 ∧ (mvO S b r o).2.2 = S.2.2 ∧ ∀ c, c ≠ 17 → (mvO S b r o).2.1 c = S.2.1 c := by
  cases o with
  | none => exact ⟨rfl, rfl, fun _ _ => rfl⟩
  | some h => exact mvS_1
theorem mvO_WF (hW : WF B S) {b r : Nat} {o : Option Nat} : WF B (mvO S b r o) := by
  cases o with
  | none => exact hW
  | some h => exact mvS_WF hW
theorem r_joined (hR : RepR S μ) (hW : WF 80 S) (hC : WFc S) {a b c d e f : Int32} {K : Int32 → z_M → Prop} (hK : ∀ μ', RepR (opJoined S a b c d e f).2 μ' → K (opJoined S a b c d e f).1 μ') : C_X12_joined a b c d e f μ K := by
  have h3 := hW.1
  have hz : ∀ (x : Int32 × z_SS), x = (-1, S) → (∀ μ', RepR x.2 μ' → K x.1 μ') → ∀ μ', RepR S μ' → K (-1) μ' := fun x e hk μ' hR' => by
    subst e
    exact hk μ' hR'
  unfold C_X12_joined
  unfold opJoined at hK
  rw [hR.f (k := 6) (by decide) (by decide)]
  refine ifc (nI_eq (b := 80) (by omega) (by decide)) (fun e => hz _ (if_pos e) hK μ hR) (fun e80 => ?_)
  rw [if_neg e80] at hK
  refine r_isBettor (fun z hz16 ea => ?_) (fun g => by rw [if_pos rfl]; rw [g] at hK; exact hK μ hR)
  subst ea
  rw [if_neg i10]
  rw [ixO_some hz16 (by decide)] at hK
  dsimp only at hK
  refine r_isBook hR hW (fun bk hb eb => ?_) (fun g => by rw [if_pos rfl]; rw [ixO_none g] at hK; exact hK μ hR)
  subst eb
  rw [if_neg i10]
  rw [ixO_some hb (by omega)] at hK
  dsimp only at hK
  have h4 := hW.2.2.2.1 bk hb
  rw [nI_clamp (by omega), hR.a (c := 16) rfl]
  refine ⟨nI_vin (by omega) (by omega), ifc (nI_eq (b := 0) (by omega) (by omega)) (fun e16 => ?_) (fun e16 => hz _ (if_neg e16) hK μ hR)⟩
  rw [if_pos e16] at hK
  refine r_isStake (fun st s1 s2 ef => ?_) (fun g => ?_)
  · subst ef
    rw [if_neg i10]
    rw [ixO_some (show st < 20001 by omega) (by decide)] at hK
    dsimp only at hK
    rw [if_neg (by omega)] at hK
    generalize hμa : (si (si (si μ 29 ((0 : Int32).toNatClampNeg) c) 29 ((1 : Int32).toNatClampNeg) d) 29 ((2 : Int32).toNatClampNeg) e) = μa
    have hRa : RepR S μa := by
      rw [← hμa]
      exact ((hR.scr rfl).scr rfl).scr rfl
    have a0 : μa.1 29 0 = c := by rw [← hμa]; rfl
    have a1 : μa.1 29 1 = d := by rw [← hμa]; rfl
    have a2 : μa.1 29 2 = e := by rw [← hμa]; rfl
    clear hμa
    have hfail := fun q => hz _ q hK μa hRa
    unfold L_X12_joined_72
    intro P hP
    have step : ∀ (r : Nat) (x : Int32) (n : Nat), r < 3 → n < 4 → μa.1 29 r = x → (legO S bk r x = none → K (-1) μa) → (∀ o, legO S bk r x = some o → P (nI z) (nI bk) (nI st) (nI (n + if o = none then 0 else 1)) (nI (r + 1)) μa) → P (nI z) (nI bk) (nI st) (nI n) (nI r) μa := by
      intro r x n hr hn hx hno hyes
      refine hP _ _ _ _ _ _ ?_
      unfold B_X12_joined_72
      rw [nI_clamp (by omega), hx, nI_1, nI_1]
      refine ifc (nI_leI (a := 3) (by omega) (by omega)) (fun g => absurd g (by omega)) (fun _ => ⟨nI_vin (by omega) (by omega), r_legs hRa hW (by omega) hr (fun g => ?_) (fun h s hx e12 e17 ex el => ?_) (fun g => ?_)⟩)
      · have := hyes none g
        rw [if_pos rfl] at this
        exact this
      · rw [if_neg i10]
        have := hyes (some h) el
        rw [if_neg (Option.some_ne_none h)] at this
        exact this
      · rw [if_pos rfl]
        exact hno g
    refine step 0 c 0 (by decide) (by decide) a0 (fun g => hfail (by rw [g])) fun l0 g0 => ?_
    refine step 1 d _ (by decide) (by split <;> omega) a1 (fun g => hfail (by rw [g0, g])) fun l1 g1 => ?_
    refine step 2 e _ (by decide) (by split <;> split <;> omega) a2 (fun g => hfail (by rw [g0, g1, g])) fun l2 g2 => ?_
    rw [g0, g1, g2] at hK
    dsimp only at hK
    obtain ⟨c0, k0⟩ := legO_ok hW (by decide) g0
    obtain ⟨c1, k1⟩ := legO_ok hW (by decide) g1
    obtain ⟨c2, k2⟩ := legO_ok hW (by decide) g2
    refine hP _ _ _ _ _ _ ?_
    unfold B_X12_joined_72
    rw [if_pos (by decide)]
    have hcn : (0 + if l0 = none then 0 else 1) + (if l1 = none then 0 else 1) + (if l2 = none then 0 else 1) = cnt3 l0 l1 l2 := by
      unfold cnt3
      omega
    rw [hcn]
    have hc3 : cnt3 l0 l1 l2 ≤ 3 := by
      unfold cnt3
      split <;> split <;> split <;> omega
    refine ifc (nI_leI (a := 2) (by omega) (by omega)) (fun e2 => ?_) (fun e2 => hz _ (if_neg e2) hK μa hRa)
    rw [if_pos e2] at hK
    refine r_writes (B := 80) (kd := 3) (by decide) hRa hW (by omega) fun μ1 hN1 _ => ?_
    unfold L_X12_joined_140
    intro Q hQ
    have hlg : ∀ q x, q < 3 → leg3 l0 l1 l2 q = some x → runsS S q x ∧ S.1 12 q = 0 ∧ (∃ s, S.2.1 17 (24 * bk + 8 * q + x) = some s) ∧ x < 8 := by
      intro q x hq e
      unfold leg3 at e
      rcases (show q = 0 ∨ q = 1 ∨ q = 2 by omega) with g | g | g <;> subst g
      · exact k0 x e
      · exact k1 x e
      · exact k2 x e
    have hx29 : ∀ r, r < 3 → μa.1 29 r = oI (leg3 l0 l1 l2 r) := by
      intro r hr
      rcases (show r = 0 ∨ r = 1 ∨ r = 2 by omega) with g | g | g <;> subst g
      · exact a0.trans c0
      · exact a1.trans c1
      · exact a2.trans c2
    have step2 : ∀ (r : Nat) (μ2 : z_M), r < 3 → NB S μa μ2 z bk 3 st (fun q => if q < r then leg3 l0 l1 l2 q else none) → (∀ μ3, NB S μa μ3 z bk 3 st (fun q => if q < r + 1 then leg3 l0 l1 l2 q else none) → Q (nI bk) (nI st) (nI (r + 1)) μ3) → Q (nI bk) (nI st) (nI r) μ2 := by
      intro r μ2 hr hN2 hk
      refine hQ _ _ _ _ ?_
      unfold B_X12_joined_140
      rw [nI_clamp (n := r) (by omega), hN2.2.2.2.1 29 r (by omega), hx29 r hr, nI_1]
      refine ifc (nI_leI (a := 3) (by omega) (by omega)) (fun g => absurd g (by omega)) (fun _ => ⟨nI_vin (by omega) (by omega), ?_⟩)
      refine ifc (oI_eq_m1 (fun n hn => by have := (hlg r n hr hn).2.2.2; omega)) (fun g => ?_) (fun g => ?_)
      · refine hk μ2 (NB_leg hN2 fun q hq => ?_)
        by_cases q1 : q = r
        · rw [q1, if_pos (by omega), if_neg (by omega), g]
        · by_cases q2 : q < r
          · rw [if_pos (by omega), if_pos q2]
          · rw [if_neg (by omega), if_neg q2]
      · obtain ⟨h, eh⟩ := Option.ne_none_iff_exists'.mp g
        have := (hlg r h hr eh).2.2.2
        rw [eh, oI_some]
        refine r_takes (B := 80) (by decide) hRa hW (by omega) hN2 (by omega) hr (by omega) fun μ3 hN3 => hk μ3 (NB_leg hN3 fun q hq => ?_)
        by_cases q1 : q = r
        · rw [q1, if_pos (by omega), if_pos rfl, eh]
        · by_cases q2 : q < r
          · rw [if_pos (by omega), if_neg q1, if_pos q2]
          · rw [if_neg (by omega), if_neg q1, if_neg q2]
    refine step2 0 μ1 (by decide) (NB_leg hN1 fun q hq => if_neg (by omega)) fun μ2 hN2 => step2 1 μ2 (by decide) hN2 fun μ3 hN3 => step2 2 μ3 (by decide) hN3 fun μ4 hN4' => ?_
    have hN4 : NB S μa μ4 z bk 3 st (leg3 l0 l1 l2) := NB_leg hN4' fun q hq => by rw [if_pos (by omega)]
    have hR4 := NB_rep hN4 hRa
    refine hQ _ _ _ _ ?_
    unfold B_X12_joined_140
    rw [if_pos (by decide), nI_clamp (n := bk) (by omega), hR4.a (c := 15) rfl, nI_add, show (si μ4 15 bk (nI (S.1 15 bk + st))).1 0 6 = nI (S.1 0 6) by
        rw [si1, if_neg (by omega)]
        exact hR4.f (by decide) (by decide), nI_1, show (si (si μ4 15 bk (nI (S.1 15 bk + st))) 0 6 (nI (S.1 0 6 + 1))).1 0 6 = nI (S.1 0 6 + 1) by rw [si1, if_pos ⟨rfl, rfl⟩], nI_pred]
    have hR5 : RepR (newBet S z bk 3 st st (leg3 l0 l1 l2)) (si (si μ4 15 bk (nI (S.1 15 bk + st))) 0 6 (nI (S.1 0 6 + 1))) := by
      refine NB_new hN4 hRa (fun q x hq e => (hlg q x hq e).2.2.1) ?_ ?_ fun c k g1 g2 => ?_
      · rw [si1, if_pos ⟨rfl, rfl⟩]
      · rw [si1, if_neg (by omega), si1, if_pos ⟨rfl, rfl⟩]
      · rw [si1, if_neg (by omega), si1, if_neg (by omega)]
    have hex : ∃ r, r < 3 ∧ leg3 l0 l1 l2 r ≠ none := by
      unfold cnt3 at e2
      by_cases q0 : l0 = none
      · rw [if_pos q0] at e2
        by_cases q1 : l1 = none
        · rw [if_pos q1] at e2
          exfalso
          split at e2 <;> omega
        · exact ⟨1, by decide, q1⟩
      · exact ⟨0, by decide, q0⟩
    have hW5 := newBet_WF (z := z) (kd := 3) (st := st) (paid := st) (leg := leg3 l0 l1 l2) hW (by omega) hz16 hb (by omega) s1 s2 (by omega) (fun q x hq e => ⟨(hlg q x hq e).1, (hlg q x hq e).2.1, (hlg q x hq e).2.2.1⟩) hex (fun g => absurd rfl g)
    refine ⟨nI_vin (by omega) (by omega), ?_⟩
    have t25 : ∀ r, r < 3 → (newBet S z bk 3 st st (leg3 l0 l1 l2)).2.1 25 (3 * S.1 0 6 + r) = leg3 l0 l1 l2 r := fun r hr => by
      rw [nb25, if_pos (by omega), show 3 * S.1 0 6 + r - 3 * S.1 0 6 = r by omega]
    have t6 : (newBet S z bk 3 st st (leg3 l0 l1 l2)).1 0 6 = S.1 0 6 + 1 := nb6
    have t3 : (newBet S z bk 3 st st (leg3 l0 l1 l2)).1 0 3 = S.1 0 3 := rfl
    have t4 : (newBet S z bk 3 st st (leg3 l0 l1 l2)).1 0 4 = S.1 0 4 := rfl
    have t10 : ∀ r, (newBet S z bk 3 st st (leg3 l0 l1 l2)).1 10 r = S.1 10 r := fun r => rfl
    have tC : (newBet S z bk 3 st st (leg3 l0 l1 l2)).2.2 = S.2.2 := rfl
    generalize newBet S z bk 3 st st (leg3 l0 l1 l2) = T at hR5 hW5 hK t25 t6 t3 t4 t10 tC
    generalize si (si μ4 15 bk (nI (S.1 15 bk + st))) 0 6 (nI (S.1 0 6 + 1)) = M5 at hR5
    unfold L_X12_joined_209
    intro R hR9
    have step3 : ∀ (r : Nat) (U : z_SS) (M : z_M), r < 3 → U.1 = T.1 → U.2.2 = T.2.2 → U.2.1 25 = T.2.1 25 → WF 80 U → RepR U M → (∀ M', RepR (mvO U bk r (leg3 l0 l1 l2 r)) M' → R (nI bk) (nI (S.1 0 6)) (nI (r + 1)) M') → R (nI bk) (nI (S.1 0 6)) (nI r) M := by
      intro r U M hr u1 u2 u25 uW uR hk
      have u6 : U.1 0 6 = S.1 0 6 + 1 := by rw [u1, t6]
      refine hR9 _ _ _ _ ?_
      unfold B_X12_joined_209
      rw [r_leg, nI_clamp (by omega), uR.o (c := 25) rfl, u25, t25 r hr, nI_1]
      refine ifc (nI_leI (a := 3) (by omega) (by omega)) (fun g => absurd g (by omega)) (fun _ => ⟨nI_vin (by omega) (by omega), ?_⟩)
      refine ifc (oI_eq_m1 (fun n hn => by have := (hlg r n hr hn).2.2.2; omega)) (fun g => ?_) (fun g => ?_)
      · rw [g] at hk
        exact hk M uR
      · obtain ⟨h, eh⟩ := Option.ne_none_iff_exists'.mp g
        have hx := (hlg r h hr eh).1
        rw [eh] at hk
        rw [eh, oI_some]
        exact r_moves (B := 80) (by decide) uR uW (WFc_same hC (u2.trans tC)) (by omega) (by rw [u1, t4]; exact hb) (by rw [u1, t3]; exact hx.1) (by rw [u1, t10]; exact hx.2.1) fun M' hM' _ => hk M' hM'
    have m0 := mvO_1 (S := T) (b := bk) (r := 0) (o := l0)
    have m1 := mvO_1 (S := mvO T bk 0 l0) (b := bk) (r := 1) (o := l1)
    refine step3 0 T M5 (by decide) rfl rfl rfl hW5 hR5 fun M6 hM6 => ?_
    refine step3 1 (mvO T bk 0 l0) M6 (by decide) m0.1 m0.2.1 (m0.2.2 25 (by decide)) (mvO_WF hW5) hM6 fun M7 hM7 => ?_
    refine step3 2 (mvO (mvO T bk 0 l0) bk 1 l1) M7 (by decide) (m1.1.trans m0.1) (m1.2.1.trans m0.2.1) ((m1.2.2 25 (by decide)).trans (m0.2.2 25 (by decide))) (mvO_WF (mvO_WF hW5)) hM7 fun M8 hM8 => ?_
    refine hR9 _ _ _ _ ?_
    unfold B_X12_joined_209
    rw [if_pos (by decide)]
    exact hK M8 hM8
  · rw [if_pos rfl]
    refine hz _ ?_ hK μ hR
    cases e1 : ixO f 20001 with
    | none => rfl
    | some st =>
      dsimp only
      rw [if_pos (g st e1)]
end REFC
