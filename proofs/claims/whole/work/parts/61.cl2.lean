/-! The class: fractions, sure, balance, and the plain questions. -/
def atC (μ : z_M) (p : Nat × Nat) : Prop := μ.2 11 0 = lN p.1 ∧ μ.2 11 1 = lN p.2
theorem oI_lt {o p : Option Nat} (ho : ∀ n, o = some n → n < 2 ^ 31) (hp : ∀ n, p = some n → n < 2 ^ 31) : oI p < oI o ↔ optLt p o = true := by
  have h := oI_le (o := o) (p := p) ho hp
  rw [← Int32.not_le, h]
  cases optLt p o <;> simp
theorem fracS_ext {S : z_SS} {f : Nat → Option Nat} (n : Nat) : ∀ k, (∀ h, n ≤ h → h < n + k → f h = none) → fracS S f (n + k) = fracS S f n := by
  intro k
  induction k with
  | zero => intro _; rfl
  | succ k ih =>
    intro h
    show (match f (n + k) with
      | some s => addF (fracS S f (n + k)) (S.1 8 s) (S.1 9 s)
      | none => fracS S f (n + k)) = _
    rw [h (n + k) (by omega) (by omega)]
    exact ih fun x h1 h2 => h x h1 (by omega)
theorem fracS_cong {S : z_SS} {f g : Nat → Option Nat} (n : Nat) (h : ∀ i, i < n → f i = g i) : fracS S f n = fracS S g n := by
  induction n with
  | zero => rfl
  | succ n ih =>
    unfold fracS
    rw [ih (fun i hi => h i (by omega)), h n (by omega)]
section CL2
variable {B : Nat} {S : z_SS} {kd : z_K} {q : z_Q} {μ : z_M}
theorem c_gcd {a b : Nat} (ha : a < 2 ^ 63) (hb : b < 2 ^ 63) {K : Int64 → z_M → Prop} (h : K (lN (Nat.gcd a b)) μ) : C_X9_greatestDivisor kd q (lN a) (lN b) μ K := by
  unfold C_X9_greatestDivisor L_X9_greatestDivisor_9
  intro P hP
  have stop : ∀ a i, i < 2 ^ 31 → K (lN a) μ → P (lN a) (lN 0) (nI i) μ := fun a i hi hk => by
    refine hP _ _ _ _ ?_
    unfold B_X9_greatestDivisor_9
    exact ifd (fun _ => hk) (fun _ => by rw [if_pos (show lN 0 = 0 from rfl)]; exact hk)
  have step : ∀ a b i, a < 2 ^ 63 → b < 2 ^ 63 → 0 < b → i < 200 → P (lN b) (lN (a % b)) (nI (i + 1)) μ → P (lN a) (lN b) (nI i) μ := fun a b i ha hb h0 hi hk => by
    have zb : ¬ lN b = 0 := fun e => by
      have := (pk_lEQ (b := 0) hb (by decide)).mp e
      omega
    refine hP _ _ _ _ ?_
    unfold B_X9_greatestDivisor_9
    rw [if_neg (fun z => by have := (nI_leI (a := 200) (by decide) (by omega)).mp z; omega), if_neg (show ¬ lN b = 0 from zb), pk_lRem ha h0 hb, nI_1]
    exact ⟨zb, hk⟩
  have go : ∀ k a b i, b < 2 ^ k → a < 2 ^ 63 → b < 2 ^ 63 → i + 2 * k + 1 ≤ 200 → K (lN (Nat.gcd a b)) μ → P (lN a) (lN b) (nI i) μ := by
    intro k
    induction k with
    | zero =>
      intro a b i h1 h2 h3 h4 hk
      have e : b = 0 := by
        have : b < 1 := h1
        omega
      subst e
      rw [Nat.gcd_zero_right] at hk
      exact stop a i (by omega) hk
    | succ k ih =>
      intro a b i h1 h2 h3 h4 hk
      rcases Nat.eq_zero_or_pos b with e | e
      · subst e
        rw [Nat.gcd_zero_right] at hk
        exact stop a i (by omega) hk
      · have m1 := Nat.mod_lt a e
        refine step a b i h2 h3 e (by omega) ?_
        have g1 : Nat.gcd b (a % b) = Nat.gcd a b := by rw [Nat.gcd_comm, ← Nat.gcd_rec, Nat.gcd_comm]
        rcases Nat.eq_zero_or_pos (a % b) with e2 | e2
        · rw [e2] at g1 ⊢
          rw [Nat.gcd_zero_right] at g1
          refine stop b (i + 1) (by omega) ?_
          rw [g1]
          exact hk
        · have m2 := Nat.mod_lt b e2
          refine step b (a % b) (i + 1) h3 (by omega) e2 (by omega) ?_
          have hlt : b % (a % b) < 2 ^ k := by
            have hp : (2 : Nat) ^ (k + 1) = 2 ^ k * 2 := Nat.pow_succ 2 k
            have h5 : a % b * 1 ≤ a % b * (b / (a % b)) := Nat.mul_le_mul_left _ (Nat.div_pos (by omega) e2)
            have h6 := Nat.div_add_mod b (a % b)
            omega
          have g2 : Nat.gcd (a % b) (b % (a % b)) = Nat.gcd b (a % b) := by rw [Nat.gcd_comm, ← Nat.gcd_rec, Nat.gcd_comm]
          refine ih (a % b) (b % (a % b)) (i + 1 + 1) hlt (by omega) (by omega) (by omega) ?_
          rw [g2, g1]
          exact hk
  exact go 63 a b 0 hb ha hb (by decide) h
theorem c_shorten {p : Nat × Nat} (h0 : 0 < p.2) (h1 : p.1 < 2 ^ 63) (h2 : p.2 < 2 ^ 63) (hA : atC μ p) {K : z_M → Prop} (hK : ∀ μ', sameV μ μ' → atC μ' (redF p) → K μ') : C_X9_shorten kd q μ K := by
  have hg := Nat.gcd_pos_of_pos_right p.1 h0
  have hl := Nat.gcd_le_right p.1 h0
  unfold C_X9_shorten
  rw [hA.1, hA.2]
  refine c_gcd h1 h2 (ifc (pk_lLE (b := 1) (by omega) (by decide)) (fun g => ?_) (fun g => ⟨fun e => ?_, ?_⟩))
  · refine hK μ (sameV_refl μ) ?_
    have e : Nat.gcd p.1 p.2 = 1 := by omega
    unfold redF
    rw [e, Nat.div_one, Nat.div_one]
    exact hA
  · have := (pk_lEQ (b := 0) (by omega) (by decide)).mp e
    omega
  · rw [sl2, if_neg (by omega), hA.1, hA.2, pk_lDiv h1 hg (by omega), pk_lDiv h2 hg (by omega)]
    exact hK _ (sameV_tr sameV_sl sameV_sl) ⟨rfl, rfl⟩
theorem c_add {p : Nat × Nat} {a b : Nat} (hA : atC μ p) (hab : a + b < 2 ^ 31) {K : z_M → Prop} (hK : ∀ μ', sameV μ μ' → atC μ' (addF p a b) → K μ') : C_X9_add kd q (nI b) (nI (a + b)) μ K := by
  unfold C_X9_add
  rw [sl2, if_neg (by omega), hA.1, hA.2, nI_l hab, nI_l (by omega), lN_mul, lN_mul, lN_add, lN_mul, Nat.mul_comm p.2 b]
  exact hK _ (sameV_tr sameV_sl sameV_sl) ⟨rfl, rfl⟩
theorem slate_at (hV : RepV0 S μ) {b r h : Nat} (hb : b < S.1 0 4) (hr : r < 3) (hh : h < 8) : μ.1 (40 + 8 * b + 1) (8 * r + h) = oI (S.2.1 17 (24 * b + 8 * r + h)) := by
  rw [(hV.2.2.1 b hb).2.2.2.1 (8 * r + h) (by omega), Nat.add_assoc]
theorem c_sumSlate (hV : RepV0 S μ) (hW : WF B S) {b r : Nat} (hb : b < S.1 0 4) (hr : r < S.1 0 3) {K : z_M → Prop} (hK : ∀ μ', sameV μ μ' → atC μ' (roundF S b r) → K μ') : C_X11_sumSlate kd q (some (40 + 8 * b)) (nI r) μ K := by
  have h3 := hW.1
  have h4 := hW.2.2.1 r hr
  unfold C_X11_sumSlate C_X9_clear L_X11_sumSlate_9
  intro P hP
  have e8 : fracS S (fun h => S.2.1 17 (24 * b + 8 * r + h)) 8 = roundF S b r := by
    have := fracS_ext (S := S) (f := fun h => S.2.1 17 (24 * b + 8 * r + h)) (S.1 10 r) (8 - S.1 10 r) (fun h h1 h2 => by
      show S.2.1 17 (24 * b + 8 * r + h) = none
      cases es : S.2.1 17 (24 * b + 8 * r + h) with
      | none => rfl
      | some s =>
        have := (hW.2.2.2.2.1 b r h s (by omega) (by omega) (by omega) es).2.2.2.1
        omega)
    rw [show S.1 10 r + (8 - S.1 10 r) = 8 by omega] at this
    exact this
  have key : ∀ n, n ≤ 8 → ∀ μ', sameV μ μ' → atC μ' (fracS S (fun h => S.2.1 17 (24 * b + 8 * r + h)) n) → P (some (40 + 8 * b)) (nI r) (nI n) μ' := by
    refine downTo 8 ?_ (fun n hn ih => ?_)
    · intro μ' hs hA
      refine hP _ _ _ _ ?_
      unfold B_X11_sumSlate_9
      rw [e8] at hA
      exact ifc (nI_leI (a := 8) (by decide) (by decide)) (fun _ => hK μ' hs hA) (fun g => absurd (Nat.le_refl _) g)
    · intro μ' hs hA
      have hV' := hV.same hs
      refine hP _ _ _ _ ?_
      unfold B_X11_sumSlate_9
      refine ifc (nI_leI (a := 8) (by decide) (by omega)) (fun g => absurd g (by omega)) (fun _ => ⟨_, rfl, c_spot ?_⟩)
      rw [nI_clamp (by omega), slate_at hV' hb (by omega) hn]
      refine ⟨nI_vin (by omega) (by decide), ?_⟩
      have ef : fracS S (fun h => S.2.1 17 (24 * b + 8 * r + h)) (n + 1) = (match S.2.1 17 (24 * b + 8 * r + n) with
        | some s => addF (fracS S (fun h => S.2.1 17 (24 * b + 8 * r + h)) n) (S.1 8 s) (S.1 9 s)
        | none => fracS S (fun h => S.2.1 17 (24 * b + 8 * r + h)) n) := rfl
      rw [ef] at ih
      cases es : S.2.1 17 (24 * b + 8 * r + n) with
      | none =>
        rw [es] at ih
        rw [if_pos oI_none, nI_1]
        exact ih μ' hs hA
      | some s =>
        rw [es] at ih
        have hs5 := (wf17 hW (by omega) es).1
        have h5 := hW.2.1 s hs5
        rw [if_neg (show ¬ oI (some s) = -1 from nI_ne_m1 (by omega)), oI_some]
        refine c_bOf hV'.1 hW hs5 (c_wholeOf hV'.1 hW hs5 (c_add hA (by omega) fun μ2 hs2 hA2 => ?_))
        rw [nI_1]
        exact ih μ2 (sameV_tr hs hs2) hA2
  exact key 0 (Nat.zero_le _) _ (sameV_tr sameV_sl sameV_sl) ⟨rfl, rfl⟩
theorem c_longest (hQ : KQ S kd q) (hV : RepV0 S μ) (hW : WF B S) {r h : Nat} (hr : r < 3) (hh : h < 8) {K : Int32 → z_M → Prop} (hK : K (oI (longS S r h)) μ) : C_X11_longest kd q (nI r) (nI h) μ K := by
  have h3 := hW.1
  unfold C_X11_longest L_X11_longest_5
  intro P hP
  have go := downTo (Q := fun n => P (nI r) (nI h) (oI (longB S r h n)) (nI n) μ) (S.1 0 4) ?_ (fun n hn ih => ?_) 0 (Nat.zero_le _)
  · exact go
  · refine hP _ _ _ _ _ ?_
    unfold B_X11_longest_5
    rw [hV.1.2.2.1]
    exact ifc (nI_leI (by omega) (by omega)) (fun _ => hK) (fun g => absurd (Nat.le_refl _) g)
  · refine hP _ _ _ _ _ ?_
    unfold B_X11_longest_5
    rw [hV.1.2.2.1]
    refine ifc (nI_leI (by omega) (by omega)) (fun g => absurd g (by omega)) (fun _ => ?_)
    refine c_bookN hQ hV.1 hW hn (opt_s ?_)
    have hb := hV.2.2.1 n hn
    have h5 := hW.2.2.2.1 n hn
    have ih : P (nI r) (nI h) (oI (if S.1 16 n = 0 ∧ optLt (longB S r h n) (S.2.1 17 (24 * n + 8 * r + h)) = true then S.2.1 17 (24 * n + 8 * r + h) else longB S r h n)) (nI n + 1) μ := by
      rw [nI_1]
      exact ih
    rw [hb.2.1]
    refine ifc (nI_eq (b := 0) (by omega) (by decide)) (fun e0 => ?_) (fun e0 => ?_)
    · refine c_spot ?_
      rw [nI_clamp (by omega), slate_at hV hn hr hh]
      refine ⟨nI_vin (by omega) (by decide), ?_⟩
      have b1 : ∀ s, S.2.1 17 (24 * n + 8 * r + h) = some s → s < 2 ^ 31 := fun s e => by have := (wf17 hW (by omega) e).1; omega
      have b2 : ∀ s, longB S r h n = some s → s < 2 ^ 31 := fun s e => by have := longB_lt hW hr hh n (by omega) s e; omega
      have em : z_max (oI (longB S r h n)) (oI (S.2.1 17 (24 * n + 8 * r + h))) = oI (if S.1 16 n = 0 ∧ optLt (longB S r h n) (S.2.1 17 (24 * n + 8 * r + h)) = true then S.2.1 17 (24 * n + 8 * r + h) else longB S r h n) := by
        unfold z_max
        have h6 := oI_lt b1 b2
        by_cases g : optLt (longB S r h n) (S.2.1 17 (24 * n + 8 * r + h)) = true
        · rw [if_pos (h6.mpr g), if_pos ⟨e0, g⟩]
        · rw [if_neg (fun z => g (h6.mp z)), if_neg (fun z => g z.2)]
      rw [em]
      exact ih
    · rw [if_neg (fun z => e0 z.1)] at ih
      exact ih
theorem c_isSureNow (hQ : KQ S kd q) (hV : RepV0 S μ) (hW : WF B S) {r : Nat} (hr : r < S.1 0 3) {K : Int32 → z_M → Prop} (h1 : sureS S r = true → ∀ μ', sameV μ μ' → K 1 μ') (h0 : sureS S r = false → ∀ μ', sameV μ μ' → K 0 μ') : C_X11_isSureNow kd q (nI r) μ K := by
  have h3 := hW.1
  have h4 := hW.2.2.1 r hr
  have hRr := hV.2.1 r hr
  unfold C_X11_isSureNow
  refine c_raceN hQ hV.1 hW hr (opt_s ?_)
  rw [hRr.2.2.1]
  refine ifc (nI_eq (b := 0) (by omega) (by decide)) (fun e0 => ?_) (fun e0 => h0 (by unfold sureS; rw [decide_eq_false e0]; rfl) μ (sameV_refl μ))
  unfold C_X9_clear L_X11_isSureNow_28
  intro P hP
  have mono : ∀ n k, pricedTo S r n = false → pricedTo S r (n + k) = false := by
    intro n k hn
    induction k with
    | zero => exact hn
    | succ k ih =>
      show (pricedTo S r (n + k) && _) = false
      rw [ih]
      rfl
  have key : ∀ n, n ≤ S.1 10 r → ∀ μ', sameV μ μ' → pricedTo S r n = true → atC μ' (fracS S (sureF S r) n) → P (nI r) (30 + 2 * r) (nI n) μ' := by
    refine downTo (S.1 10 r) ?_ (fun n hn ih => ?_)
    · intro μ' hs hp hA
      have hV' := hV.same hs
      refine hP _ _ _ _ ?_
      unfold B_X11_isSureNow_28
      rw [(hV'.2.1 r hr).1, hA.1, hA.2]
      refine ifc (nI_leI (by omega) (by omega)) (fun _ => ?_) (fun g => absurd (Nat.le_refl _) g)
      have hc := fracS_cap (S := S) (f := sureF S r) hW.2.1 (sureF_lt hW r (by omega)) (n := S.1 10 r) (by omega)
      refine ifc (pk_lLE (by omega) (by omega)) (fun g => h0 ?_ μ' hs) (fun g => h1 ?_ μ' hs)
      · unfold sureS
        rw [decide_eq_true e0, hp, decide_eq_false (by omega)]
        rfl
      · unfold sureS
        rw [decide_eq_true e0, hp, decide_eq_true (by omega)]
        rfl
    · intro μ' hs hp hA
      have hV' := hV.same hs
      refine hP _ _ _ _ ?_
      unfold B_X11_isSureNow_28
      rw [(hV'.2.1 r hr).1]
      refine ifc (nI_leI (by omega) (by omega)) (fun g => absurd g (by omega)) (fun _ => ?_)
      have ef : fracS S (sureF S r) (n + 1) = (match sureF S r n with
        | some s => addF (fracS S (sureF S r) n) (S.1 8 s) (S.1 9 s)
        | none => fracS S (sureF S r) n) := rfl
      have ep : pricedTo S r (n + 1) = (pricedTo S r n && (if runsS S r n then (longS S r n).isSome else true)) := rfl
      refine c_runsN (hV'.2.1 r hr) hr h4.2.1 h4.2.2.1 (by omega) (fun e1 => ?_) (fun e1 => ?_)
      · rw [if_neg i10]
        have esf : sureF S r n = longS S r n := if_pos e1
        refine c_longest hQ hV' hW (by omega) (by omega) (ifc (oI_eq_m1 (fun s hs => by have := longS_lt hW (by omega) (by omega) s hs; omega)) (fun e2 => ?_) (fun e2 => ?_))
        · refine h0 ?_ μ' hs
          have e3 : pricedTo S r (n + 1) = false := by
            rw [ep, if_pos e1, e2]
            simp
          have h5 := mono (n + 1) (S.1 10 r - (n + 1)) e3
          rw [show n + 1 + (S.1 10 r - (n + 1)) = S.1 10 r by omega] at h5
          unfold sureS
          rw [h5]
          simp
        · obtain ⟨s, es⟩ := Option.ne_none_iff_exists'.mp e2
          have hs5 := longS_lt hW (by omega) (by omega) s es
          have h5 := hW.2.1 s hs5
          rw [es, oI_some]
          refine c_bOf hV'.1 hW hs5 (c_wholeOf hV'.1 hW hs5 (c_add hA (by omega) fun μ2 hs2 hA2 => ?_))
          rw [nI_1]
          refine ih μ2 (sameV_tr hs hs2) ?_ ?_
          · rw [ep, if_pos e1, hp, es]
            rfl
          · rw [ef, esf, es]
            exact hA2
      · rw [if_pos rfl, nI_1]
        refine ih μ' hs ?_ ?_
        · rw [ep, if_neg e1, hp]
          rfl
        · rw [ef, show sureF S r n = none from if_neg e1]
          exact hA
  exact key 0 (Nat.zero_le _) _ (sameV_tr sameV_sl sameV_sl) rfl ⟨rfl, rfl⟩
theorem c_balanceAt (hV : RepV0 S μ) (hB : B ≤ 84) (hW : WF B S) {b r h : Nat} (hb : b < S.1 0 4) (hr : r < 3) (hh : h < 8) {K : Int32 → z_M → Prop} (hK : K (if (S.1 11 r).testBit h = true then nI (stakesS S b r) else iI (balZ S b r h)) μ) : C_X1_balanceAt kd q (40 + 8 * b) (nI r) (nI h) μ K := by
  have ho := (hV.2.2.1 b hb).2.2.2.2.2.1
  unfold C_X1_balanceAt
  rw [spot_eq, if_neg (Int32.not_lt.mpr (nI_pos' (by omega))), if_neg (fun z => by have := (nI_leI (a := 3) (by decide) (by omega)).mp z; omega), if_neg (Int32.not_lt.mpr (nI_pos' (by omega))), nI_clamp (by omega), nI_clamp (by omega), ho.2 r hr, (ho.1 r h hr hh).2.1]
  refine ifc (nI_ltI (b := 24) (by omega) (by decide)) (fun _ => ?_) (fun g => absurd (show 8 * r + h < 24 by omega) g)
  refine ⟨nI_vin (by omega) (by decide), nI_vin (by omega) (by decide), ?_⟩
  unfold bckA
  by_cases e : (S.1 11 r).testBit h = true
  · rw [if_pos e] at hK ⊢
    rw [show nI (stakesS S b r) - nI 0 = nI (stakesS S b r) from pk_sub (Nat.zero_le _)]
    exact hK
  · rw [if_neg e] at hK ⊢
    rw [← iI_nat, ← iI_nat, iI_sub]
    exact hK
theorem c_worst (hV : RepV0 S μ) (hB : B ≤ 84) (hW : WF B S) {b r : Nat} (hb : b < S.1 0 4) (hr : r < S.1 0 3) {K : Int32 → z_M → Prop} (hK : K (wI (worstS S b r)) μ) : C_X11_worst kd q (some (40 + 8 * b)) (some (30 + 2 * r)) (nI r) μ K := by
  have h3 := hW.1
  have h4 := hW.2.2.1 r hr
  have hRr := hV.2.1 r hr
  have bd : ∀ x v, (if runsS S r x then some (balZ S b r x) else none) = some v → -102480000 ≤ v ∧ v ≤ 1680000 := fun x v e => by
    have := balZ_bd hB hW b (r := r) (by omega) x
    split at e
    · cases e
      exact this
    · cases e
  have bdm := minO_bd (f := fun h => if runsS S r h then some (balZ S b r h) else none) bd
  have wv : ∀ o : Option Int, (match o with
    | none => (2000000000 : Int32)
    | some m => iI m) = (match o with
    | none => iI 2000000000
    | some m => iI m) := fun o => by cases o <;> rfl
  unfold C_X11_worst L_X11_worst_7
  intro P hP
  have go := downTo (Q := fun n => P (some (40 + 8 * b)) (some (30 + 2 * r)) (nI r) (match minO n (fun h => if runsS S r h then some (balZ S b r h) else none) with
    | none => (2000000000 : Int32)
    | some m => iI m) (nI n) μ) (S.1 10 r) ?_ (fun n hn ih => ?_) 0 (Nat.zero_le _)
  · exact go
  · refine hP _ _ _ _ _ _ ?_
    unfold B_X11_worst_7
    refine ⟨_, rfl, ?_⟩
    rw [hRr.1]
    refine ifc (nI_leI (by omega) (by omega)) (fun _ => ?_) (fun g => absurd (Nat.le_refl _) g)
    obtain ⟨h, hx⟩ := some_runs hW hr
    unfold worstS at hK
    cases em : minO (S.1 10 r) (fun h => if runsS S r h then some (balZ S b r h) else none) with
    | none =>
      exfalso
      have none_of : ∀ n, minO n (fun h => if runsS S r h then some (balZ S b r h) else none) = none → ∀ i, i < n → ¬ runsS S r i := by
        intro n
        induction n with
        | zero => intro _ i hi; omega
        | succ n ihn =>
          intro e i hi hxi
          rw [minO_succ] at e
          cases e1 : minO n (fun h => if runsS S r h then some (balZ S b r h) else none) with
          | none =>
            rw [e1] at e
            by_cases q : i = n
            · subst q
              rw [if_pos hxi] at e
              cases e
            · exact ihn e1 i (by omega) hxi
          | some m =>
            rw [e1] at e
            cases e2 : (if runsS S r n then some (balZ S b r n) else none) with
            | none =>
              rw [e2] at e
              cases e
            | some v =>
              rw [e2] at e
              dsimp only at e
              split at e <;> cases e
      exact none_of _ em h hx.2.1 hx
    | some m =>
      rw [em] at hK
      exact hK
  · refine hP _ _ _ _ _ _ ?_
    unfold B_X11_worst_7
    refine ⟨_, rfl, ?_⟩
    rw [hRr.1]
    refine ifc (nI_leI (by omega) (by omega)) (fun g => absurd g (by omega)) (fun _ => ?_)
    have ih : P (some (40 + 8 * b)) (some (30 + 2 * r)) (nI r) (match (match minO n (fun h => if runsS S r h then some (balZ S b r h) else none), (if runsS S r n then some (balZ S b r n) else none) with
        | none, x => x
        | some m, none => some m
        | some m, some v => if v < m then some v else some m) with
      | none => (2000000000 : Int32)
      | some m => iI m) (nI n + 1) μ := by
      rw [nI_1]
      exact ih
    refine c_runsN hRr hr h4.2.1 h4.2.2.1 (by omega) (fun e1 => ?_) (fun e1 => ?_)
    · rw [if_neg i10]
      refine ⟨_, rfl, c_balanceAt hV hB hW hb (by omega) (by omega) ?_⟩
      rw [if_neg (by rw [e1.2.2]; decide)]
      rw [if_pos e1] at ih
      have hb1 := bd n (balZ S b r n) (if_pos e1)
      cases e2 : minO n (fun h => if runsS S r h then some (balZ S b r h) else none) with
      | none =>
        rw [e2] at ih
        have ez : z_min 2000000000 (iI (balZ S b r n)) = iI (balZ S b r n) := by
          unfold z_min
          rw [if_pos]
          exact (iI_lt (b := 2000000000) (by omega) (by omega) (by omega) (by omega)).mpr (by omega)
        rw [ez]
        exact ih
      | some m =>
        have hb2 := bdm n m e2
        rw [e2] at ih
        dsimp only at ih ⊢
        unfold z_min
        by_cases g : balZ S b r n < m
        · rw [if_pos g] at ih
          rw [if_pos ((iI_lt (by omega) (by omega) (by omega) (by omega)).mpr g)]
          exact ih
        · rw [if_neg g] at ih
          rw [if_neg (fun z => g ((iI_lt (by omega) (by omega) (by omega) (by omega)).mp z))]
          exact ih
    · rw [if_pos rfl]
      rw [if_neg e1] at ih
      cases e2 : minO n (fun h => if runsS S r h then some (balZ S b r h) else none) with
      | none => rw [e2] at ih; exact ih
      | some m => rw [e2] at ih; exact ih
end CL2
