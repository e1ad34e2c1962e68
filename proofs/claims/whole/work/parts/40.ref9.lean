/-! The reference: what a clause's condition is; how books move. -/
abbrev z_V : Type := Int64 × Bool
def workedV (o : Nat) (x y : Int64) : Int64 := if o = 37 then (if y = 0 then 0 else x - x / y * y) else if o = 42 then x * y else if o = 43 then x + y else if o = 45 then x - y else if o = 47 then (if y = 0 then 0 else x / y) else if o = 60 then (if y ≤ x then 0 else 1) else if o = 62 then (if x ≤ y then 0 else 1) else if x = y then 1 else 0
/-- x below, y on top -/
def evOp (o : Nat) (x y : z_V) : z_V := if o = 38 then (if x.2 = false ∧ x.1 = 1 then y else x) else if o = 124 then (if x.2 = false ∧ x.1 = 0 then y else x) else (workedV o x.1 y.1, x.2 || y.2 || decide ((o = 47 ∨ o = 37) ∧ y.1 = 0))
def letV (S : z_SS) (b r h : Nat) (l : Nat) : Int64 := if l = 104 then lN h else if l = 105 then (match S.2.1 17 (24 * b + 8 * r + h) with
    | none => 24
    | some s => lN s) else if l = 107 then lN (S.1 23 (S.1 0 6 - 1)) else if l = 109 then lN (S.1 0 2) else if l = 110 then lN (betsOn S b r h) else if l = 113 then (0 - iI (balZ S b r h)).toInt64 else if l = 116 then lN (stakesS S b r) else if l = 122 then lN (S.1 20 (S.1 0 6 - 1)) else lN (1000 * (fracS S (fun h => S.2.1 17 (24 * b + 8 * r + h)) (S.1 10 r)).1 / (fracS S (fun h => S.2.1 17 (24 * b + 8 * r + h)) (S.1 10 r)).2)
def ev1 (S : z_SS) (b r h : Nat) (c : Nat × Nat) (st : List z_V) : List z_V := if c.1 = 0 then (lN c.2, false) :: st else if c.1 = 1 then (letV S b r h c.2, false) :: st else if c.1 = 2 then (match st with
    | [] => []
    | x :: t => (1 - x.1, x.2) :: t) else (match st with
    | y :: x :: t => evOp c.1 x y :: t
    | s => s)
def evL (S : z_SS) (b r h : Nat) : List (Nat × Nat) → List z_V → List z_V
  | [], st => st
  | c :: cs, st => evL S b r h cs (ev1 S b r h c st)
def depC : List (Nat × Nat) → Nat → Option Nat
  | [], d => some d
  | c :: cs, d => if c.1 ≤ 1 then depC cs (d + 1) else if c.1 = 2 then (if 1 ≤ d then depC cs d else none) else if 2 ≤ d then depC cs (d - 1) else none
def holdsS (S : z_SS) (b r h : Nat) (cd : List (Nat × Nat)) : Bool := match evL S b r h cd [] with
  | v :: _ => !v.2 && decide (v.1 = 1)
  | [] => false
def StR (μ : z_M) : List z_V → Prop
  | [] => True
  | x :: t => μ.2 58 t.length = x.1 ∧ μ.1 59 t.length = nI (b2n x.2) ∧ StR μ t
theorem StR_same {μ μ' : z_M} : ∀ st : List z_V, (∀ j, j < st.length → μ'.2 58 j = μ.2 58 j ∧ μ'.1 59 j = μ.1 59 j) → StR μ st → StR μ' st
  | [], _, _ => True.intro
  | x :: t, hk, h => by
    have h1 := hk t.length (Nat.lt_succ_self _)
    exact ⟨h1.1.trans h.1, h1.2.trans h.2.1, StR_same t (fun j hj => hk j (Nat.lt_succ_of_lt hj)) h.2.2⟩
theorem lN_nI {n : Nat} (h : n < 2 ^ 31) : (nI n).toInt64 = lN n := nI_l h
/-- the horse asked for -/
def ctxR (b r h : Nat) (μ : z_M) : Prop := μ.1 0 54 = nI b ∧ μ.1 0 55 = nI r ∧ μ.1 0 56 = nI h
theorem redF_1000 {p : Nat × Nat} (h : 0 < p.2) : 1000 * (redF p).1 / (redF p).2 = 1000 * p.1 / p.2 := by
  obtain ⟨h1, h2, h3⟩ := redF_eq h
  have e : 1000 * p.1 / p.2 = 1000 * ((redF p).1 * Nat.gcd p.1 p.2) / ((redF p).2 * Nat.gcd p.1 p.2) := by rw [← h1, ← h2]
  rw [e, ← Nat.mul_assoc, Nat.mul_div_mul_right _ _ h3]
section REF9
variable {B : Nat} {S : z_SS} {μ : z_M}
theorem fracSl_cap (hW : WF B S) {b r : Nat} (hb : b < 4) (hr : r < S.1 0 3) : 0 < (fracS S (fun h => S.2.1 17 (24 * b + 8 * r + h)) (S.1 10 r)).2 ∧ (fracS S (fun h => S.2.1 17 (24 * b + 8 * r + h)) (S.1 10 r)).1 ≤ 5777633090469888 ∧ (fracS S (fun h => S.2.1 17 (24 * b + 8 * r + h)) (S.1 10 r)).2 ≤ 722204136308736 := by
  have h3 := hW.1
  have h4 := hW.2.2.1 r hr
  have hc := fracS_cap (S := S) (f := fun h => if h < 8 then S.2.1 17 (24 * b + 8 * r + h) else none) hW.2.1 (fun h s e => by
    split at e
    · exact (hW.2.2.2.2.1 b r h s hb (by omega) (by assumption) e).1
    · cases e) (n := S.1 10 r) (by omega)
  have ec : ∀ n, n ≤ 8 → fracS S (fun h => if h < 8 then S.2.1 17 (24 * b + 8 * r + h) else none) n = fracS S (fun h => S.2.1 17 (24 * b + 8 * r + h)) n := by
    intro n hn
    induction n with
    | zero => rfl
    | succ n ihn =>
      unfold fracS
      rw [ihn (by omega), if_pos (by omega)]
  rw [ec _ (by omega)] at hc
  exact hc
theorem betsOn_le (hW : WF B S) (b r h : Nat) : betsOn S b r h ≤ B := by
  have h3 := hW.1
  have : betsOn S b r h ≤ S.1 0 6 * 1 := sumN_le fun i _ => by
    split <;> omega
  omega
theorem r_valueOf (hB : B ≤ 84) (hR : RepR S μ) (hW : WF B S) (h6 : 1 ≤ S.1 0 6) {b r h l : Nat} (hb : b < S.1 0 4) (hr : r < S.1 0 3) (hh : h < S.1 10 r) (hc : ctxR b r h μ) (hl : l < 2 ^ 31) {K : Int64 → z_M → Prop} (hK : ∀ μ', RepR S μ' → kp μ μ' → K (letV S b r h l) μ') : C_X12_valueOf (nI l) μ K := by
  have h3 := hW.1
  have h4 := hW.2.2.1 r hr
  have h5 := hW.2.2.2.2.2.2.1 (S.1 0 6 - 1) (by omega)
  unfold C_X12_valueOf
  rw [hc.1, hc.2.1, hc.2.2]
  refine r_cellOf ⟨nI_vin (by omega) (by omega), ?_⟩
  have e6 : nI (S.1 0 6) - 1 = nI (S.1 0 6 - 1) := pk_sub (b := 1) h6
  rw [hc.1, hc.2.1, hc.2.2, hR.f (k := 6) (by decide) (by decide), e6, nI_clamp (by omega), nI_clamp (n := S.1 0 6 - 1) (by omega), hR.o (c := 17) rfl, hR.f (k := 2) (by decide) (by decide), hR.a (c := 23) rfl, hR.a (c := 20) rfl, nI_l (by omega), nI_l (by omega), nI_l (by omega), nI_l (by omega)]
  unfold letV at hK
  refine ifc (nI_eq (b := 104) hl (by decide)) (fun e => ?_) (fun n1 => ?_)
  · rw [if_pos e] at hK
    exact hK μ hR (kp_refl μ)
  rw [if_neg n1] at hK
  refine ifc (nI_eq (b := 105) hl (by decide)) (fun e => ?_) (fun n2 => ?_)
  · rw [if_pos e] at hK
    cases es : S.2.1 17 (24 * b + 8 * r + h) with
    | none =>
      rw [es] at hK
      rw [if_pos (show oI none = -1 from rfl)]
      exact hK μ hR (kp_refl μ)
    | some s =>
      have hs := (hW.2.2.2.2.1 b r h s (by omega) (by omega) (by omega) es).1
      rw [es] at hK
      rw [if_neg (show ¬ oI (some s) = -1 from nI_ne_m1 (by omega)), oI_some, nI_l (by omega)]
      exact hK μ hR (kp_refl μ)
  rw [if_neg n2] at hK
  refine ifc (nI_eq (b := 107) hl (by decide)) (fun e => ?_) (fun n3 => ?_)
  · rw [if_pos e] at hK
    exact ⟨nI_vin (by omega) (by omega), hK μ hR (kp_refl μ)⟩
  rw [if_neg n3] at hK
  refine ifc (nI_eq (b := 109) hl (by decide)) (fun e => ?_) (fun n4 => ?_)
  · rw [if_pos e] at hK
    exact hK μ hR (kp_refl μ)
  rw [if_neg n4] at hK
  refine ifc (nI_eq (b := 110) hl (by decide)) (fun e => ?_) (fun n5 => ?_)
  · rw [if_pos e] at hK
    refine r_betsAt hB hR hW (by omega) (by omega) (by omega) ?_
    have := betsOn_le hW b r h
    rw [nI_l (by omega)]
    exact hK μ hR (kp_refl μ)
  rw [if_neg n5] at hK
  refine ifc (nI_eq (b := 113) hl (by decide)) (fun e => ?_) (fun n6 => ?_)
  · rw [if_pos e] at hK
    exact r_balanceAt hB hR hW (by omega) (by omega) (by omega) (hK μ hR (kp_refl μ))
  rw [if_neg n6] at hK
  refine ifc (nI_eq (b := 116) hl (by decide)) (fun e => ?_) (fun n7 => ?_)
  · rw [if_pos e] at hK
    refine r_stakesOf hB hR hW (by omega) (by omega) ?_
    have := stakesS_le hB hW b r
    rw [nI_l (by omega)]
    exact hK μ hR (kp_refl μ)
  rw [if_neg n7] at hK
  refine ifc (nI_eq (b := 122) hl (by decide)) (fun e => ?_) (fun n8 => ?_)
  · rw [if_pos e] at hK
    exact ⟨nI_vin (by omega) (by omega), hK μ hR (kp_refl μ)⟩
  rw [if_neg n8] at hK
  refine r_rounds hR hW (by omega) hr fun μ' hR' hk' hA' => ?_
  have hcp := fracSl_cap hW (b := b) (by omega) hr
  have hl2 := redF_le (fracS S (fun h => S.2.1 17 (24 * b + 8 * r + h)) (S.1 10 r))
  have hp2 := redF_pos hcp.1
  have h1000 := redF_1000 hcp.1
  rw [hA'.1, hA'.2, show (1000 : Int64) = lN 1000 from rfl, lN_mul, pk_lDiv (by omega) hp2 (by omega), h1000]
  refine ⟨fun e => ?_, hK μ' hR' hk'⟩
  have := (pk_lEQ (b := 0) (by omega) (by omega)).mp e
  omega
theorem nI_b2n_0 {b : Bool} : nI (b2n b) = 0 ↔ b = false := by
  cases b
  · exact ⟨fun _ => rfl, fun _ => rfl⟩
  · exact ⟨fun h => absurd h (by decide), fun h => by cases h⟩
theorem nI_b2n_and {b : Bool} : nI (b2n b) &&& 1 = nI (b2n b) := by cases b <;> decide
theorem r_worked {o : Nat} (ho : o < 2 ^ 31) {x y : Int64} {K : Int64 → z_M → Prop} (hK : K (workedV o x y) μ) : C_X12_worked (nI o) x y μ K := by
  unfold C_X12_worked
  unfold workedV at hK
  refine ifc (nI_eq (b := 37) ho (by decide)) (fun e => ?_) (fun n1 => ?_)
  · rw [if_pos e] at hK
    refine ifd (fun e => ?_) (fun e => ?_)
    · rw [if_pos e] at hK
      exact hK
    · rw [if_neg e] at hK
      exact ⟨e, hK⟩
  rw [if_neg n1] at hK
  refine ifc (nI_eq (b := 42) ho (by decide)) (fun e => by rw [if_pos e] at hK; exact hK) (fun n2 => ?_)
  rw [if_neg n2] at hK
  refine ifc (nI_eq (b := 43) ho (by decide)) (fun e => by rw [if_pos e] at hK; exact hK) (fun n3 => ?_)
  rw [if_neg n3] at hK
  refine ifc (nI_eq (b := 45) ho (by decide)) (fun e => by rw [if_pos e] at hK; exact hK) (fun n4 => ?_)
  rw [if_neg n4] at hK
  refine ifc (nI_eq (b := 47) ho (by decide)) (fun e => ?_) (fun n5 => ?_)
  · rw [if_pos e] at hK
    refine ifd (fun e => ?_) (fun e => ?_)
    · rw [if_pos e] at hK
      exact hK
    · rw [if_neg e] at hK
      exact ⟨e, hK⟩
  rw [if_neg n5] at hK
  refine ifc (nI_eq (b := 60) ho (by decide)) (fun e => ?_) (fun n6 => ?_)
  · rw [if_pos e] at hK
    exact ifd (fun e => by rw [if_pos e] at hK; exact hK) (fun e => by rw [if_neg e] at hK; exact hK)
  rw [if_neg n6] at hK
  refine ifc (nI_eq (b := 62) ho (by decide)) (fun e => ?_) (fun n7 => ?_)
  · rw [if_pos e] at hK
    exact ifd (fun e => by rw [if_pos e] at hK; exact hK) (fun e => by rw [if_neg e] at hK; exact hK)
  rw [if_neg n7] at hK
  exact ifd (fun e => by rw [if_pos e] at hK; exact hK) (fun e => by rw [if_neg e] at hK; exact hK)
/-- what a step of a condition leaves -/
def kq (μ μ' : z_M) : Prop := ∀ c k, c = 0 ∨ c = 61 ∨ (32 ≤ c ∧ c ≤ 38) → μ'.1 c k = μ.1 c k
theorem r_does (hR : RepR S μ) {o : Nat} (ho : o < 2 ^ 31) {x y : z_V} {t : List z_V} (hS : StR μ (y :: x :: t)) (ht : t.length + 2 ≤ 200) {K : z_M → Prop} (hK : ∀ μ', RepR S μ' → kq μ μ' → StR μ' (evOp o x y :: t) → K μ') : C_X12_does (nI o) (nI t.length) μ K := by
  obtain ⟨y1, y2, x1, x2, hT⟩ := hS
  have ly : (x :: t).length = t.length + 1 := rfl
  rw [ly] at y1 y2
  have e1 : nI t.length + 1 = nI (t.length + 1) := nI_1 _
  unfold C_X12_does L_X12_does_16 L_X12_does_42 L_X12_does_107 L_X12_does_122 L_X12_does_123
  rw [e1, nI_clamp (n := t.length) (by omega), nI_clamp (n := t.length + 1) (by omega), x2, x1, y2, y1]
  have copyK : K (si (sl μ 58 t.length y.1) 59 t.length (nI (b2n y.2) &&& 1)) ∨ True := Or.inr trivial
  have hkeep : ∀ v w, kq μ (si (sl μ 58 t.length v) 59 t.length w) := fun v w c k hc => by rw [si1, if_neg (by omega)]; rfl
  have hrep : ∀ v w, RepR S (si (sl μ 58 t.length v) 59 t.length w) := fun v w => hR.lng.scr rfl
  have hst : ∀ (v : z_V), StR (si (sl μ 58 t.length v.1) 59 t.length (nI (b2n v.2))) (v :: t) := fun v => by
    refine ⟨by rw [si2, sl2, if_pos ⟨rfl, rfl⟩], by rw [si1, if_pos ⟨rfl, rfl⟩], StR_same t (fun j hj => ⟨?_, ?_⟩) hT⟩
    · rw [si2, sl2, if_neg (by omega)]
    · rw [si1, if_neg (by omega)]
      rfl
  have hst2 : StR μ (x :: t) := ⟨x1, x2, hT⟩
  have vin1 : vp_in (nI t.length) 200 := nI_vin (by omega) (by omega)
  have vin2 : vp_in (nI (t.length + 1)) 200 := nI_vin (by omega) (by omega)
  unfold evOp at hK
  refine ifc (nI_eq (b := 38) ho (by decide)) (fun e => ?_) (fun n1 => ?_)
  · rw [if_pos e] at hK
    refine ⟨vin1, ifc nI_b2n_0 (fun f => ?_) (fun f => ?_)⟩
    · rw [if_pos (by rw [e]; rfl)]
      refine ifd (fun g => ⟨vin2, vin1, ?_⟩) (fun g => ?_)
      · rw [if_pos ⟨f, g⟩] at hK
        rw [sl1, y2, nI_b2n_and]
        exact hK _ (hrep _ _) (hkeep _ _) (hst y)
      · rw [if_neg (fun q => g q.2)] at hK
        exact hK μ hR (fun _ _ _ => rfl) hst2
    · rw [if_neg (fun q => f q.1)] at hK
      exact hK μ hR (fun _ _ _ => rfl) hst2
  rw [if_neg n1] at hK
  refine ifc (nI_eq (b := 124) ho (by decide)) (fun e => ?_) (fun n2 => ?_)
  · rw [if_pos e] at hK
    refine ⟨vin1, ifc nI_b2n_0 (fun f => ?_) (fun f => ?_)⟩
    · rw [if_neg (by rw [e]; decide)]
      refine ifd (fun g => ⟨vin2, vin1, ?_⟩) (fun g => ?_)
      · rw [if_pos ⟨f, g⟩] at hK
        rw [sl1, y2, nI_b2n_and]
        exact hK _ (hrep _ _) (hkeep _ _) (hst y)
      · rw [if_neg (fun q => g q.2)] at hK
        exact hK μ hR (fun _ _ _ => rfl) hst2
    · rw [if_neg (fun q => f q.1)] at hK
      exact hK μ hR (fun _ _ _ => rfl) hst2
  rw [if_neg n2] at hK
  have fin : ∀ (i1 : Int32) (b1 : Bool), (i1 &&& 1 = nI (b2n b1)) → (x.2 || y.2 || decide ((o = 47 ∨ o = 37) ∧ y.1 = 0)) = b1 → vp_in (nI t.length) 200 ∧ vp_in (nI t.length) 200 ∧ vp_in (nI (t.length + 1)) 200 ∧ C_X12_worked (nI o) ((si μ 59 t.length (i1 &&& 1)).2 58 t.length) ((si μ 59 t.length (i1 &&& 1)).2 58 (t.length + 1)) (si μ 59 t.length (i1 &&& 1)) (fun r5 μ4 => K (sl μ4 58 t.length r5)) := by
    intro i1 b1 h1 h2
    rw [h2] at hK
    refine ⟨vin1, vin1, vin2, ?_⟩
    rw [si2, x1, y1, h1]
    refine r_worked ho ?_
    have e9 : sl (si μ 59 t.length (nI (b2n b1))) 58 t.length (workedV o x.1 y.1) = si (sl μ 58 t.length (workedV o x.1 y.1)) 59 t.length (nI (b2n b1)) := rfl
    rw [e9]
    exact hK _ (hrep _ _) (hkeep _ _) (hst (workedV o x.1 y.1, b1))
  refine ⟨vin1, ifc nI_b2n_0 (fun f => ⟨vin2, ifc nI_b2n_0 (fun g => ?_) (fun g => ?_)⟩) (fun f => ?_)⟩
  · have zero : o = 47 ∨ o = 37 → vp_in (nI (t.length + 1)) 200 ∧ (if y.1 = 0 then vp_in (nI t.length) 200 ∧ vp_in (nI t.length) 200 ∧ vp_in (nI (t.length + 1)) 200 ∧ C_X12_worked (nI o) ((si μ 59 t.length ((1 : Int32) &&& 1)).2 58 t.length) ((si μ 59 t.length ((1 : Int32) &&& 1)).2 58 (t.length + 1)) (si μ 59 t.length ((1 : Int32) &&& 1)) (fun r5 μ4 => K (sl μ4 58 t.length r5)) else vp_in (nI t.length) 200 ∧ vp_in (nI t.length) 200 ∧ vp_in (nI (t.length + 1)) 200 ∧ C_X12_worked (nI o) ((si μ 59 t.length ((0 : Int32) &&& 1)).2 58 t.length) ((si μ 59 t.length ((0 : Int32) &&& 1)).2 58 (t.length + 1)) (si μ 59 t.length ((0 : Int32) &&& 1)) (fun r5 μ4 => K (sl μ4 58 t.length r5))) := by
      intro ho2
      refine ⟨vin2, ifd (fun z => fin 1 true (by decide) ?_) (fun z => fin 0 false (by decide) ?_)⟩
      · rw [f, g]
        simp [ho2, z]
      · rw [f, g]
        simp [z]
    refine ifc (nI_eq (b := 47) ho (by decide)) (fun e => zero (Or.inl e)) (fun n3 => ifc (nI_eq (b := 37) ho (by decide)) (fun e => zero (Or.inr e)) (fun n4 => ?_))
    refine fin 0 false (by decide) ?_
    rw [f, g]
    simp [n3, n4]
  · refine fin 1 true (by decide) ?_
    have : y.2 = true := by simpa using g
    rw [this]
    simp
  · refine fin 1 true (by decide) ?_
    have : x.2 = true := by simpa using f
    rw [this]
    simp
end REF9
