/-! Fractions, the longest price, what is sure: the reference. -/
def addF (p : Nat × Nat) (a b : Nat) : Nat × Nat := (p.1 * (a + b) + b * p.2, p.2 * (a + b))
def redF (p : Nat × Nat) : Nat × Nat := (p.1 / Nat.gcd p.1 p.2, p.2 / Nat.gcd p.1 p.2)
/-- b through (a and b) of all steps together -/
def fracS (S : z_SS) (f : Nat → Option Nat) (n : Nat) : Nat × Nat := match n with
  | 0 => (0, 1)
  | n + 1 => match f n with
    | some s => addF (fracS S f n) (S.1 8 s) (S.1 9 s)
    | none => fracS S f n
theorem redF_eq {p : Nat × Nat} (h : 0 < p.2) : p.1 = (redF p).1 * Nat.gcd p.1 p.2 ∧ p.2 = (redF p).2 * Nat.gcd p.1 p.2 ∧ 0 < Nat.gcd p.1 p.2 :=
  ⟨(Nat.div_mul_cancel (Nat.gcd_dvd_left _ _)).symm, (Nat.div_mul_cancel (Nat.gcd_dvd_right _ _)).symm, Nat.gcd_pos_of_pos_right _ h⟩
theorem redF_mul {p : Nat × Nat} {g : Nat} (hg : 0 < g) (h : 0 < p.2) : redF (p.1 * g, p.2 * g) = redF p := by
  unfold redF
  simp only [Nat.gcd_mul_right, Nat.mul_div_mul_right _ _ hg]
theorem addF_red {p : Nat × Nat} (h : 0 < p.2) (a b : Nat) (hab : 0 < a + b) : redF (addF (redF p) a b) = redF (addF p a b) := by
  obtain ⟨h1, h2, h3⟩ := redF_eq h
  have hy : 0 < (redF p).2 := by
    rcases Nat.eq_zero_or_pos (redF p).2 with e | e
    · rw [e, Nat.zero_mul] at h2
      omega
    · exact e
  have e : addF p a b = ((addF (redF p) a b).1 * Nat.gcd p.1 p.2, (addF (redF p) a b).2 * Nat.gcd p.1 p.2) := by
    unfold addF
    dsimp only
    have e1 : p.1 * (a + b) + b * p.2 = ((redF p).1 * (a + b) + b * (redF p).2) * Nat.gcd p.1 p.2 := by
      rw [Nat.add_mul, Nat.mul_right_comm, ← h1, Nat.mul_assoc b, ← h2]
    have e2 : p.2 * (a + b) = (redF p).2 * (a + b) * Nat.gcd p.1 p.2 := by
      rw [Nat.mul_right_comm, ← h2]
    rw [e1, e2]
  rw [e, redF_mul h3 (Nat.mul_pos hy hab)]
theorem redF_le (p : Nat × Nat) : (redF p).1 ≤ p.1 ∧ (redF p).2 ≤ p.2 := ⟨Nat.div_le_self _ _, Nat.div_le_self _ _⟩
theorem redF_pos {p : Nat × Nat} (h : 0 < p.2) : 0 < (redF p).2 := by
  obtain ⟨h1, h2, h3⟩ := redF_eq h
  rcases Nat.eq_zero_or_pos (redF p).2 with e | e
  · rw [e, Nat.zero_mul] at h2
    omega
  · exact e
theorem redF_lt {p : Nat × Nat} (h : 0 < p.2) : (redF p).1 < (redF p).2 ↔ p.1 < p.2 := by
  obtain ⟨h1, h2, h3⟩ := redF_eq h
  constructor
  · intro g
    have g2 : (redF p).1 * Nat.gcd p.1 p.2 < (redF p).2 * Nat.gcd p.1 p.2 := Nat.mul_lt_mul_of_pos_right g h3
    rw [← h1, ← h2] at g2
    exact g2
  · intro g
    refine Nat.lt_of_not_le fun g2 => ?_
    have g3 : (redF p).2 * Nat.gcd p.1 p.2 ≤ (redF p).1 * Nat.gcd p.1 p.2 := Nat.mul_le_mul_right _ g2
    rw [← h1, ← h2] at g3
    omega
/-- the prices of a ladder: how large a fraction gets -/
theorem fracS_bd {S : z_SS} {f : Nat → Option Nat} (hs : ∀ s, s < S.1 0 5 → 1 ≤ S.1 8 s ∧ S.1 8 s ≤ 60 ∧ 1 ≤ S.1 9 s ∧ S.1 9 s ≤ 12) (hf : ∀ h s, f h = some s → s < S.1 0 5) : ∀ n, 0 < (fracS S f n).2 ∧ (fracS S f n).1 ≤ n * (fracS S f n).2 ∧ (fracS S f n).2 ≤ 72 ^ n := by
  intro n
  induction n with
  | zero => exact ⟨Nat.one_pos, Nat.le_refl _, Nat.le_refl _⟩
  | succ n ih =>
    obtain ⟨h1, h2, h3⟩ := ih
    unfold fracS
    cases e : f n with
    | none =>
      dsimp only
      refine ⟨h1, ?_, Nat.le_trans h3 (Nat.pow_le_pow_right (by decide) (Nat.le_succ n))⟩
      rw [Nat.succ_mul]
      omega
    | some s =>
      have g := hs s (hf n s e)
      dsimp only [addF]
      have hw : 0 < S.1 8 s + S.1 9 s := by omega
      refine ⟨Nat.mul_pos h1 hw, ?_, ?_⟩
      · have k1 : (fracS S f n).1 * (S.1 8 s + S.1 9 s) ≤ n * (fracS S f n).2 * (S.1 8 s + S.1 9 s) := Nat.mul_le_mul_right _ h2
        have k2 : S.1 9 s * (fracS S f n).2 ≤ (S.1 8 s + S.1 9 s) * (fracS S f n).2 := Nat.mul_le_mul_right _ (by omega)
        rw [Nat.succ_mul, ← Nat.mul_assoc]
        rw [Nat.mul_comm (S.1 8 s + S.1 9 s)] at k2
        omega
      · rw [Nat.pow_succ]
        exact Nat.mul_le_mul h3 (by omega)
theorem fracS_cap {S : z_SS} {f : Nat → Option Nat} (hs : ∀ s, s < S.1 0 5 → 1 ≤ S.1 8 s ∧ S.1 8 s ≤ 60 ∧ 1 ≤ S.1 9 s ∧ S.1 9 s ≤ 12) (hf : ∀ h s, f h = some s → s < S.1 0 5) {n : Nat} (hn : n ≤ 8) : 0 < (fracS S f n).2 ∧ (fracS S f n).1 ≤ 5777633090469888 ∧ (fracS S f n).2 ≤ 722204136308736 := by
  obtain ⟨h1, h2, h3⟩ := fracS_bd hs hf n
  have h4 : (72 : Nat) ^ n ≤ 72 ^ 8 := Nat.pow_le_pow_right (by decide) hn
  have h5 : (72 : Nat) ^ 8 = 722204136308736 := by decide
  have h6 : n * (fracS S f n).2 ≤ 8 * 722204136308736 := Nat.mul_le_mul hn (by omega)
  omega
/-- an empty place is below all -/
def optLt (p o : Option Nat) : Bool := match p, o with
  | _, none => false
  | none, some _ => true
  | some x, some y => decide (x < y)
theorem oI_le {o p : Option Nat} (ho : ∀ n, o = some n → n < 2 ^ 31) (hp : ∀ n, p = some n → n < 2 ^ 31) : oI o ≤ oI p ↔ optLt p o = false := by
  cases o with
  | none =>
    cases p with
    | none => exact ⟨fun _ => rfl, fun _ => Int32.le_refl _⟩
    | some y => exact ⟨fun _ => rfl, fun _ => Int32.le_of_lt (nI_m1_lt (hp y rfl))⟩
  | some x =>
    cases p with
    | none => exact ⟨fun h => absurd (nI_m1_lt (ho x rfl)) (Int32.not_lt.mpr h), fun h => by cases h⟩
    | some y =>
      rw [oI_some, oI_some, nI_leI (ho x rfl) (hp y rfl)]
      unfold optLt
      simp
/-- the longest price of a horse among n books -/
def longB (S : z_SS) (r h n : Nat) : Option Nat := match n with
  | 0 => none
  | n + 1 => if S.1 16 n = 0 ∧ optLt (longB S r h n) (S.2.1 17 (24 * n + 8 * r + h)) = true then S.2.1 17 (24 * n + 8 * r + h) else longB S r h n
def longS (S : z_SS) (r h : Nat) : Option Nat := longB S r h (S.1 0 4)
/-- what counts for a race's sureness: of each horse that runs the longest -/
def sureF (S : z_SS) (r h : Nat) : Option Nat := if runsS S r h then longS S r h else none
def pricedTo (S : z_SS) (r n : Nat) : Bool := match n with
  | 0 => true
  | n + 1 => pricedTo S r n && (if runsS S r n then (longS S r n).isSome else true)
def sureS (S : z_SS) (r : Nat) : Bool := decide (S.1 12 r = 0) && (pricedTo S r (S.1 10 r) && decide ((fracS S (sureF S r) (S.1 10 r)).1 < (fracS S (sureF S r) (S.1 10 r)).2))
/-- the least of what is there -/
def minO (n : Nat) (f : Nat → Option Int) : Option Int := match n with
  | 0 => none
  | n + 1 => match minO n f, f n with
    | none, x => x
    | some m, none => some m
    | some m, some v => if v < m then some v else some m
def wI (o : Option Int) : Int32 := match o with
  | some m => iI m
  | none => 0
def flO (o : Option Int) : Int32 := match o with
  | some _ => 1
  | none => 0
def worstS (S : z_SS) (b r : Nat) : Option Int := minO (S.1 10 r) (fun h => if runsS S r h then some (balZ S b r h) else none)
theorem r_cellOf {b r h : Nat} {μ : z_M} {K : Int32 → z_M → Prop} (hK : K (nI (24 * b + 8 * r + h)) μ) : C_X12_cellOf (nI b) (nI r) (nI h) μ K := by
  unfold C_X12_cellOf
  rw [r_cell]
  exact hK
section REF3
variable {B : Nat} {S : z_SS} {μ : z_M}
theorem r_divisor {a b : Nat} (ha : a < 2 ^ 63) (hb : b < 2 ^ 63) {K : Int64 → z_M → Prop} (h : K (lN (Nat.gcd a b)) μ) : C_X12_divisor (lN a) (lN b) μ K := by
  unfold C_X12_divisor L_X12_divisor_6
  intro P hP
  have go : ∀ n a b, b ≤ n → a < 2 ^ 63 → b < 2 ^ 63 → K (lN (Nat.gcd a b)) μ → P (lN a) (lN b) μ := by
    intro n
    induction n with
    | zero =>
      intro a b hn ha hb hk
      have e : b = 0 := Nat.le_zero.mp hn
      subst e
      refine hP _ _ _ ?_
      unfold B_X12_divisor_6
      rw [if_pos (show lN 0 = 0 from rfl)]
      rw [Nat.gcd_zero_right] at hk
      exact hk
    | succ n ih =>
      intro a b hn ha hb hk
      refine hP _ _ _ ?_
      unfold B_X12_divisor_6
      refine ifc (pk_lEQ (b := 0) hb (by decide)) (fun e => ?_) (fun e => ?_)
      · rw [e, Nat.gcd_zero_right] at hk
        exact hk
      · have e0 : 0 < b := by omega
        have hm := Nat.mod_lt a e0
        refine ⟨fun e1 => e ((pk_lEQ (b := 0) hb (by decide)).mp e1), ?_⟩
        rw [pk_lRem ha e0 hb]
        refine ih b (a % b) (by omega) hb (by omega) ?_
        rw [Nat.gcd_comm, ← Nat.gcd_rec, Nat.gcd_comm]
        exact hk
  exact go b a b (Nat.le_refl _) ha hb h
/-- above and below the line, as they stand -/
def atF (μ : z_M) (p : Nat × Nat) : Prop := μ.2 0 29 = lN p.1 ∧ μ.2 0 30 = lN p.2
/-- but for the two longs of the object as before -/
def kp (μ μ' : z_M) : Prop := μ'.1 = μ.1 ∧ ∀ c k, c ≠ 0 → μ'.2 c k = μ.2 c k
theorem kp_refl (μ : z_M) : kp μ μ := ⟨rfl, fun _ _ _ => rfl⟩
theorem kp_trans {a b c : z_M} (h : kp a b) (g : kp b c) : kp a c := ⟨g.1.trans h.1, fun x k hx => (g.2 x k hx).trans (h.2 x k hx)⟩
theorem kp_2 {μ : z_M} {u v : Int64} {i j : Nat} : kp μ (sl (sl μ 0 i u) 0 j v) := ⟨rfl, fun c k hc => by rw [sl2, if_neg (fun e => hc e.1), sl2, if_neg (fun e => hc e.1)]⟩
theorem r_begins (hR : RepR S μ) {K : z_M → Prop} (h : ∀ μ', RepR S μ' → kp μ μ' → atF μ' (redF (0, 1)) → K μ') : C_X12_begins μ K := h _ hR.lng.lng kp_2 ⟨rfl, rfl⟩
theorem r_adds (hR : RepR S μ) (hW : WF B S) {p : Nat × Nat} (hp : 0 < p.2) (h1 : p.1 ≤ 5777633090469888) (h2 : p.2 ≤ 722204136308736) (hA : atF μ (redF p)) {s : Nat} (hs : s < S.1 0 5) {K : z_M → Prop} (h : ∀ μ', RepR S μ' → kp μ μ' → atF μ' (redF (addF p (S.1 8 s) (S.1 9 s))) → K μ') : C_X12_adds (nI s) μ K := by
  have h3 := hW.1
  have h4 := hW.2.1 s hs
  have h5 := redF_le p
  have h6 := redF_pos hp
  unfold C_X12_adds
  rw [nI_clamp (by omega), hR.a (c := 8) rfl, hR.a (c := 9) rfl, hA.1, hA.2, nI_add, nI_l (by omega), nI_l (by omega), lN_mul, lN_mul, lN_mul, lN_add]
  refine ⟨nI_vin (by omega) (by omega), ?_⟩
  generalize hu : (redF p).1 * (S.1 8 s + S.1 9 s) + S.1 9 s * (redF p).2 = u
  generalize hv : (redF p).2 * (S.1 8 s + S.1 9 s) = v
  have ku : u < 2 ^ 63 := by
    have a1 : (redF p).1 * (S.1 8 s + S.1 9 s) ≤ 5777633090469888 * 72 := Nat.mul_le_mul (by omega) (by omega)
    have a2 : S.1 9 s * (redF p).2 ≤ 12 * 722204136308736 := Nat.mul_le_mul (by omega) (by omega)
    omega
  have kv : v < 2 ^ 63 := by
    have a1 : (redF p).2 * (S.1 8 s + S.1 9 s) ≤ 722204136308736 * 72 := Nat.mul_le_mul (by omega) (by omega)
    omega
  have kp : 0 < v := by
    rw [← hv]
    exact Nat.mul_pos h6 (by omega)
  refine r_divisor ku kv ⟨?_, ?_⟩
  · intro e
    have hg := Nat.gcd_pos_of_pos_right u kp
    have hl := Nat.gcd_le_right u kp
    have := (pk_lEQ (a := Nat.gcd u v) (b := 0) (by omega) (by decide)).mp e
    omega
  · have hg := Nat.gcd_pos_of_pos_right u kp
    have hl := Nat.gcd_le_right u kp
    refine h _ hR.lng.lng kp_2 ?_
    rw [← addF_red hp _ _ (by omega), pk_lDiv ku hg (by omega), pk_lDiv kv hg (by omega)]
    have e1 : (addF (redF p) (S.1 8 s) (S.1 9 s)) = (u, v) := by
      unfold addF
      rw [hu, hv]
    rw [e1]
    exact ⟨rfl, rfl⟩
theorem r_rounds (hR : RepR S μ) (hW : WF B S) {b r : Nat} (hb : b < 4) (hr : r < S.1 0 3) {K : z_M → Prop} (h : ∀ μ', RepR S μ' → kp μ μ' → atF μ' (redF (fracS S (fun h => S.2.1 17 (24 * b + 8 * r + h)) (S.1 10 r))) → K μ') : C_X12_rounds (nI b) (nI r) μ K := by
  have h3 := hW.1
  have h4 := hW.2.2.1 r hr
  unfold C_X12_rounds L_X12_rounds_6
  refine r_begins hR fun μ1 hR1 hk1 hA1 => ?_
  intro P hP
  have hf : ∀ h s, h < 8 → S.2.1 17 (24 * b + 8 * r + h) = some s → s < S.1 0 5 := fun h s hh e => (hW.2.2.2.2.1 b r h s hb (by omega) hh e).1
  have key : ∀ i, i ≤ S.1 10 r → ∀ μ', RepR S μ' → kp μ μ' → atF μ' (redF (fracS S (fun h => S.2.1 17 (24 * b + 8 * r + h)) i)) → P (nI b) (nI r) (nI i) μ' := by
    refine downTo (S.1 10 r) ?_ (fun i hi ih => ?_)
    · intro μ' hR' hk' hA'
      refine hP _ _ _ _ ?_
      unfold B_X12_rounds_6
      rw [nI_clamp (by omega), hR'.a (c := 10) rfl]
      exact ⟨nI_vin (by omega) (by omega), ifc (nI_leI (by omega) (by omega)) (fun _ => h _ hR' hk' hA') (fun g => absurd (Nat.le_refl _) g)⟩
    · intro μ' hR' hk' hA'
      refine hP _ _ _ _ ?_
      unfold B_X12_rounds_6
      rw [nI_clamp (n := r) (by omega), hR'.a (c := 10) rfl]
      refine ⟨nI_vin (by omega) (by omega), ifc (nI_leI (by omega) (by omega)) (fun g => absurd g (by omega)) (fun _ => ?_)⟩
      refine r_cellOf ?_
      rw [nI_clamp (by omega), hR'.o (c := 17) rfl]
      refine ⟨nI_vin (by omega) (by omega), ifc (oI_eq_m1 (fun n hn => by have := hf i n (by omega) hn; omega)) (fun e => ?_) (fun e => ?_)⟩
      · rw [nI_1]
        refine ih μ' hR' hk' ?_
        unfold fracS
        rw [e]
        exact hA'
      · refine r_cellOf ⟨nI_vin (by omega) (by omega), ?_⟩
        rw [nI_clamp (by omega), hR'.o (c := 17) rfl]
        obtain ⟨s, es⟩ := Option.ne_none_iff_exists'.mp e
        have hs := hf i s (by omega) es
        rw [es, oI_some]
        have hc := fracS_cap (S := S) (f := fun h => if h < 8 then S.2.1 17 (24 * b + 8 * r + h) else none) hW.2.1 (fun h s e => by
          split at e
          · exact hf h s (by assumption) e
          · cases e) (n := i) (by omega)
        have ec : ∀ n, n ≤ 8 → fracS S (fun h => if h < 8 then S.2.1 17 (24 * b + 8 * r + h) else none) n = fracS S (fun h => S.2.1 17 (24 * b + 8 * r + h)) n := by
          intro n hn
          induction n with
          | zero => rfl
          | succ n ihn =>
            unfold fracS
            rw [ihn (by omega), if_pos (by omega)]
        rw [ec i (by omega)] at hc
        refine r_adds hR' hW hc.1 hc.2.1 hc.2.2 hA' hs fun μ2 hR2 hk2 hA2 => ?_
        rw [nI_1]
        refine ih μ2 hR2 (kp_trans hk' hk2) ?_
        unfold fracS
        rw [es]
        exact hA2
  exact key 0 (Nat.zero_le _) μ1 hR1 hk1 hA1
theorem longB_lt (hW : WF B S) {r h : Nat} (hr : r < 3) (hh : h < 8) : ∀ n, n ≤ 4 → ∀ s, longB S r h n = some s → s < S.1 0 5 := by
  intro n
  induction n with
  | zero => intro _ s e; cases e
  | succ n ih =>
    intro hn s e
    unfold longB at e
    split at e
    · exact (hW.2.2.2.2.1 n r h s (by omega) hr hh e).1
    · exact ih (by omega) s e
theorem r_longest (hR : RepR S μ) (hW : WF B S) {r h : Nat} (hr : r < 3) (hh : h < 8) {K : Int32 → z_M → Prop} (hK : K (oI (longS S r h)) μ) : C_X12_longest (nI r) (nI h) μ K := by
  have h3 := hW.1
  unfold C_X12_longest L_X12_longest_5
  intro P hP
  refine downTo (Q := fun i => P (nI r) (nI h) (oI (longB S r h i)) (nI i) μ) (S.1 0 4) ?_ (fun i hi ih => ?_) 0 (Nat.zero_le _)
  · refine hP _ _ _ _ _ ?_
    unfold B_X12_longest_5
    rw [hR.f (k := 4) (by decide) (by decide)]
    exact ifc (nI_leI (by omega) (by omega)) (fun _ => hK) (fun g => absurd (Nat.le_refl _) g)
  · have h4 := hW.2.2.2.1 i hi
    refine hP _ _ _ _ _ ?_
    unfold B_X12_longest_5
    rw [hR.f (k := 4) (by decide) (by decide)]
    refine ifc (nI_leI (by omega) (by omega)) (fun g => absurd g (by omega)) (fun _ => ⟨nI_vin (by omega) (by omega), ?_⟩)
    rw [nI_clamp (by omega), hR.a (c := 16) rfl]
    try dsimp only at ih
    unfold longB at ih
    rw [← nI_1] at ih
    refine ifc (nI_eq (b := 0) (by omega) (by decide)) (fun e1 => ?_) (fun e1 => ?_)
    · refine r_cellOf ?_
      rw [nI_clamp (by omega), hR.o (c := 17) rfl]
      refine ⟨nI_vin (by omega) (by omega), ifc (oI_le (fun n hn => by have := (hW.2.2.2.2.1 i r h n (by omega) hr hh hn).1; omega) (fun n hn => by have := longB_lt hW hr hh i (by omega) n hn; omega)) (fun e2 => ?_) (fun e2 => ?_)⟩
      · rw [if_neg (fun hc => by rw [e2] at hc; cases hc.2)] at ih
        exact ih
      · refine r_cellOf ⟨nI_vin (by omega) (by omega), ?_⟩
        rw [nI_clamp (by omega), hR.o (c := 17) rfl]
        rw [if_pos ⟨e1, by simpa using e2⟩] at ih
        exact ih
    · rw [if_neg (fun hc => e1 hc.1)] at ih
      exact ih
theorem longS_lt (hW : WF B S) {r h : Nat} (hr : r < 3) (hh : h < 8) : ∀ s, longS S r h = some s → s < S.1 0 5 := longB_lt hW hr hh _ (by have := hW.1; omega)
theorem r_isPriced (hR : RepR S μ) (hW : WF B S) {r : Nat} (hr : r < S.1 0 3) {K : Int32 → z_M → Prop} (h1 : pricedTo S r (S.1 10 r) = true → K 1 μ) (h0 : pricedTo S r (S.1 10 r) = false → K 0 μ) : C_X12_isPriced (nI r) μ K := by
  have h3 := hW.1
  have h4 := hW.2.2.1 r hr
  unfold C_X12_isPriced L_X12_isPriced_2
  intro P hP
  have mono : ∀ n k, pricedTo S r n = false → pricedTo S r (n + k) = false := by
    intro n k hn
    induction k with
    | zero => exact hn
    | succ k ih =>
      show (pricedTo S r (n + k) && _) = false
      rw [ih]
      rfl
  refine downTo (Q := fun i => pricedTo S r i = true → P (nI r) (nI i) μ) (S.1 10 r) ?_ (fun i hi ih => ?_) 0 (Nat.zero_le _) rfl
  · intro hp
    refine hP _ _ _ ?_
    unfold B_X12_isPriced_2
    rw [nI_clamp (by omega), hR.a (c := 10) rfl]
    exact ⟨nI_vin (by omega) (by omega), ifc (nI_leI (by omega) (by omega)) (fun _ => h1 hp) (fun g => absurd (Nat.le_refl _) g)⟩
  · intro hp
    refine hP _ _ _ ?_
    unfold B_X12_isPriced_2
    rw [nI_clamp (by omega), hR.a (c := 10) rfl]
    refine ⟨nI_vin (by omega) (by omega), ifc (nI_leI (by omega) (by omega)) (fun g => absurd g (by omega)) (fun _ => ?_)⟩
    refine r_runsN hR hW (by omega) (by omega) (fun e1 => ?_) (fun e1 => ?_)
    · rw [if_neg i10]
      refine r_longest hR hW (by omega) (by omega) (ifc (oI_eq_m1 (fun n hn => by have := longS_lt hW (by omega) (by omega) n hn; omega)) (fun e2 => ?_) (fun e2 => ?_))
      · refine h0 ?_
        have e3 : pricedTo S r (i + 1) = false := by
          show (pricedTo S r i && _) = false
          rw [if_pos e1, e2]
          simp
        have := mono (i + 1) (S.1 10 r - (i + 1)) e3
        rw [show i + 1 + (S.1 10 r - (i + 1)) = S.1 10 r by omega] at this
        exact this
      · rw [nI_1]
        refine ih ?_
        show (pricedTo S r i && _) = true
        rw [if_pos e1, hp]
        simpa [Option.isSome_iff_ne_none] using e2
    · rw [if_pos rfl, nI_1]
      refine ih ?_
      show (pricedTo S r i && _) = true
      rw [if_neg e1, hp]
      rfl
theorem sureF_lt (hW : WF B S) (r : Nat) (hr : r < 3) : ∀ h s, sureF S r h = some s → s < S.1 0 5 := by
  intro h s e
  unfold sureF at e
  split at e
  · rename_i hx
    have := hW.2.2.1 r hx.1
    exact longS_lt hW hr (by have := hx.2.1; omega) s e
  · cases e
theorem pricedTo_at {r n i : Nat} (h : pricedTo S r n = true) (hi : i < n) (hx : runsS S r i) : longS S r i ≠ none := by
  induction n with
  | zero => omega
  | succ n ih =>
    have h' : (pricedTo S r n && (if runsS S r n then (longS S r n).isSome else true)) = true := h
    rw [Bool.and_eq_true] at h'
    by_cases e : i = n
    · subst e
      have h2 := h'.2
      rw [if_pos hx] at h2
      exact Option.isSome_iff_ne_none.mp h2
    · exact ih h'.1 (by omega)
/-- what is sure; above and below stand there afterwards as they may -/
theorem r_isSure (hR : RepR S μ) (hW : WF B S) {r : Nat} (hr : r < S.1 0 3) {K : Int32 → z_M → Prop} (h1 : sureS S r = true → ∀ μ', RepR S μ' → kp μ μ' → K 1 μ') (h0 : sureS S r = false → ∀ μ', RepR S μ' → kp μ μ' → K 0 μ') : C_X12_isSure (nI r) μ K := by
  have h3 := hW.1
  have h4 := hW.2.2.1 r hr
  unfold C_X12_isSure
  rw [nI_clamp (by omega), hR.a (c := 12) rfl]
  refine ⟨nI_vin (by omega) (by omega), ifc (nI_eq (b := 0) (by omega) (by decide)) (fun e0 => ?_) (fun e0 => h0 (by unfold sureS; simp [e0]) μ hR (kp_refl μ))⟩
  refine r_isPriced hR hW hr (fun e1 => ?_) (fun e1 => ?_)
  · rw [if_neg i10]
    refine r_begins hR fun μ1 hR1 hk1 hA1 => ?_
    unfold L_X12_isSure_25
    intro P hP
    have key : ∀ i, i ≤ S.1 10 r → ∀ μ', RepR S μ' → kp μ μ' → atF μ' (redF (fracS S (sureF S r) i)) → P (nI r) (nI i) μ' := by
      refine downTo (S.1 10 r) ?_ (fun i hi ih => ?_)
      · intro μ' hR' hk' hA'
        refine hP _ _ _ ?_
        unfold B_X12_isSure_25
        rw [nI_clamp (by omega), hR'.a (c := 10) rfl, hA'.1, hA'.2]
        have hc := fracS_cap (S := S) (f := sureF S r) hW.2.1 (sureF_lt hW r (by omega)) (n := S.1 10 r) (by omega)
        have hl := redF_le (fracS S (sureF S r) (S.1 10 r))
        have hlt := redF_lt hc.1
        refine ⟨nI_vin (by omega) (by omega), ifc (nI_leI (by omega) (by omega)) (fun _ => ?_) (fun g => absurd (Nat.le_refl _) g)⟩
        refine ifc (pk_lLE (by omega) (by omega)) (fun g => h0 ?_ _ hR' hk') (fun g => h1 ?_ _ hR' hk')
        · unfold sureS
          have : ¬ (fracS S (sureF S r) (S.1 10 r)).1 < (fracS S (sureF S r) (S.1 10 r)).2 := fun g2 => by
            have := hlt.mpr g2
            omega
          simp [this]
        · unfold sureS
          have : (fracS S (sureF S r) (S.1 10 r)).1 < (fracS S (sureF S r) (S.1 10 r)).2 := hlt.mp (by omega)
          simp [this, e0, e1]
      · intro μ' hR' hk' hA'
        refine hP _ _ _ ?_
        unfold B_X12_isSure_25
        rw [nI_clamp (by omega), hR'.a (c := 10) rfl]
        refine ⟨nI_vin (by omega) (by omega), ifc (nI_leI (by omega) (by omega)) (fun g => absurd g (by omega)) (fun _ => ?_)⟩
        refine r_runsN hR' hW (by omega) (by omega) (fun e2 => ?_) (fun e2 => ?_)
        · rw [if_neg i10]
          refine r_longest hR' hW (by omega) (by omega) ?_
          obtain ⟨s, es⟩ := Option.ne_none_iff_exists'.mp (pricedTo_at e1 hi e2)
          have hc := fracS_cap (S := S) (f := sureF S r) hW.2.1 (sureF_lt hW r (by omega)) (n := i) (by omega)
          rw [es, oI_some]
          refine r_adds hR' hW hc.1 hc.2.1 hc.2.2 hA' (longS_lt hW (by omega) (by omega) s es) fun μ2 hR2 hk2 hA2 => ?_
          rw [nI_1]
          refine ih μ2 hR2 (kp_trans hk' hk2) ?_
          unfold fracS sureF
          rw [if_pos e2, es]
          exact hA2
        · rw [if_pos rfl, nI_1]
          refine ih μ' hR' hk' ?_
          unfold fracS
          have : sureF S r i = none := if_neg e2
          rw [this]
          exact hA'
    exact key 0 (Nat.zero_le _) μ1 hR1 hk1 hA1
  · rw [if_pos rfl]
    exact h0 (by unfold sureS; simp [e1]) μ hR (kp_refl μ)
theorem r_worstOf (hB : B ≤ 84) (hR : RepR S μ) (hW : WF B S) {b r : Nat} (hb : b < 2 ^ 31) (hr : r < S.1 0 3) {K : Int32 → z_M → Prop} (hK : K (wI (worstS S b r)) μ) : C_X12_worstOf (nI b) (nI r) μ K := by
  have h3 := hW.1
  have h4 := hW.2.2.1 r hr
  unfold C_X12_worstOf L_X12_worstOf_8
  intro P hP
  have bd : ∀ h, -102480000 ≤ balZ S b r h ∧ balZ S b r h ≤ 1680000 := fun h => by
    have := stakesS_le hB hW b r
    have := backsS_le hB hW (b := b) (h := h) (r := r) (by omega)
    unfold balZ
    omega
  have bdm : ∀ n m, minO n (fun h => if runsS S r h then some (balZ S b r h) else none) = some m → -102480000 ≤ m ∧ m ≤ 1680000 := by
    intro n
    induction n with
    | zero => intro m e; cases e
    | succ n ih =>
      intro m e
      unfold minO at e
      have := bd n
      split at e
      · split at e
        · cases e; exact this
        · cases e
      · cases e
        exact ih _ (by assumption)
      · have h5 := ih _ (by assumption)
        rename_i x y ex ey
        split at ey
        · cases ey
          split at e <;> cases e
          · exact this
          · exact h5
        · cases ey
  refine downTo (Q := fun i => P (nI b) (nI r) (wI (minO i (fun h => if runsS S r h then some (balZ S b r h) else none))) (flO (minO i (fun h => if runsS S r h then some (balZ S b r h) else none))) (nI i) μ) (S.1 10 r) ?_ (fun i hi ih => ?_) 0 (Nat.zero_le _)
  · refine hP _ _ _ _ _ _ ?_
    unfold B_X12_worstOf_8
    rw [nI_clamp (by omega), hR.a (c := 10) rfl]
    exact ⟨nI_vin (by omega) (by omega), ifc (nI_leI (by omega) (by omega)) (fun _ => hK) (fun g => absurd (Nat.le_refl _) g)⟩
  · refine hP _ _ _ _ _ _ ?_
    unfold B_X12_worstOf_8 L_X12_worstOf_59
    rw [nI_clamp (by omega), hR.a (c := 10) rfl]
    refine ⟨nI_vin (by omega) (by omega), ifc (nI_leI (by omega) (by omega)) (fun g => absurd g (by omega)) (fun _ => ?_)⟩
    have em : minO (i + 1) (fun h => if runsS S r h then some (balZ S b r h) else none) = (match minO i (fun h => if runsS S r h then some (balZ S b r h) else none), (if runsS S r i then some (balZ S b r i) else none) with
      | none, x => x
      | some m, none => some m
      | some m, some v => if v < m then some v else some m) := rfl
    rw [em, ← nI_1] at ih
    refine r_runsN hR hW (by omega) (by omega) (fun e1 => ?_) (fun e1 => ?_)
    · rw [if_neg i10]
      refine r_balanceAt hB hR hW hb (by omega) (by omega) ?_
      rw [if_pos e1] at ih
      have hb1 := bd i
      cases e2 : minO i (fun h => if runsS S r h then some (balZ S b r h) else none) with
      | none =>
        rw [e2] at ih
        rw [if_pos (show flO none = 0 from rfl)]
        exact ih
      | some m =>
        have hb2 := bdm i m e2
        rw [e2] at ih
        rw [if_neg (show ¬ flO (some m) = 0 from i10)]
        dsimp only at ih
        show if iI m ≤ iI _ then _ else _
        refine ifc (iI_le (by omega) (by omega) (by omega) (by omega)) (fun g => ?_) (fun g => ?_)
        · rw [if_neg (by omega)] at ih
          exact ih
        · rw [if_pos (by omega)] at ih
          exact ih
    · rw [if_pos rfl]
      rw [if_neg e1] at ih
      cases e2 : minO i (fun h => if runsS S r h then some (balZ S b r h) else none) with
      | none => rw [e2] at ih; exact ih
      | some m => rw [e2] at ih; exact ih
end REF3
