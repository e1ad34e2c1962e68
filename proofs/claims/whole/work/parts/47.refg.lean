/-! The reference: chance. -/
theorem lt_cross {a b c d : Nat} (hb : 0 < b) (hd : 0 < d) (h : c / d < a / b) : c * b < a * d := by
  have h1 : c * b < d * (c / d + 1) * b := Nat.mul_lt_mul_of_pos_right (Nat.lt_mul_div_succ c hd) hb
  have h2 : d * (c / d + 1) * b ≤ d * (a / b) * b := Nat.mul_le_mul_right _ (Nat.mul_le_mul_left _ h)
  have h3 : d * (a / b) * b = b * (a / b) * d := by ac_rfl
  have h4 : b * (a / b) * d ≤ a * d := Nat.mul_le_mul_right _ (Nat.mul_div_le a b)
  omega
def fullS (S : z_SS) (b r n : Nat) : Bool := match n with
  | 0 => true
  | n + 1 => fullS S b r n && (if runsS S r n then (S.2.1 17 (24 * b + 8 * r + n)).isSome else true)
abbrev roundF (S : z_SS) (b r : Nat) : Nat × Nat := fracS S (fun h => S.2.1 17 (24 * b + 8 * r + h)) (S.1 10 r)
/-- a price's part of a round -/
def chF (S : z_SS) (b r s : Nat) : Nat × Nat := redF (S.1 9 s * (roundF S b r).2, (S.1 8 s + S.1 9 s) * (roundF S b r).1)
def betterF (gr : Bool) (c p : Nat × Nat) : Bool := if gr = true then decide (p.1 * c.2 < c.1 * p.2) else decide (c.1 * p.2 < p.1 * c.2)
theorem betterF_t {c p : Nat × Nat} : betterF true c p = decide (p.1 * c.2 < c.1 * p.2) := rfl
theorem betterF_f {c p : Nat × Nat} : betterF false c p = decide (c.1 * p.2 < p.1 * c.2) := rfl
def chL (S : z_SS) (r h : Nat) (gr : Bool) (n : Nat) : Option (Nat × Nat) := match n with
  | 0 => none
  | n + 1 => if fullS S n r (S.1 10 r) = true then (match S.2.1 17 (24 * n + 8 * r + h) with
    | none => chL S r h gr n
    | some s => (match chL S r h gr n with
      | none => some (chF S n r s)
      | some p => if betterF gr (chF S n r s) p = true then some (chF S n r s) else some p)) else chL S r h gr n
def opChance (S : z_SS) (a b c : Int32) : Int64 := match ixO a (S.1 0 3) with
  | none => -1
  | some r => match ixO b (S.1 10 r) with
    | none => -1
    | some h => if (S.1 11 r).testBit h = true then -1 else match ixO c 4 with
      | none => -1
      | some w => match chL S r h (decide (2 ≤ w)) (S.1 0 4) with
        | none => -2
        | some p => if w % 2 = 0 then lN p.1 else lN p.2
theorem fullS_at {S : z_SS} {b r n i : Nat} (h : fullS S b r n = true) (hi : i < n) (hx : runsS S r i) : S.2.1 17 (24 * b + 8 * r + i) ≠ none := by
  induction n with
  | zero => omega
  | succ n ih =>
    have h' : (fullS S b r n && (if runsS S r n then (S.2.1 17 (24 * b + 8 * r + n)).isSome else true)) = true := h
    rw [Bool.and_eq_true] at h'
    by_cases e : i = n
    · subst e
      have h2 := h'.2
      rw [if_pos hx] at h2
      exact Option.isSome_iff_ne_none.mp h2
    · exact ih h'.1 (by omega)
theorem fracS_pos {S : z_SS} {f : Nat → Option Nat} (hs : ∀ s, s < S.1 0 5 → 1 ≤ S.1 8 s ∧ S.1 8 s ≤ 60 ∧ 1 ≤ S.1 9 s ∧ S.1 9 s ≤ 12) (hf : ∀ h s, f h = some s → s < S.1 0 5) {i : Nat} : ∀ n, i < n → f i ≠ none → 0 < (fracS S f n).1 := by
  intro n
  induction n with
  | zero => intro h; omega
  | succ n ih =>
    intro hi hne
    have hb := fracS_bd hs hf n
    unfold fracS
    cases e : f n with
    | none =>
      dsimp only
      refine ih ?_ hne
      by_cases q : i = n
      · rw [q] at hne
        exact absurd e hne
      · omega
    | some s =>
      have g := hs s (hf n s e)
      dsimp only [addF]
      have : 0 < S.1 9 s * (fracS S f n).2 := Nat.mul_pos (by omega) hb.1
      omega
/-- a slate's round: what is known of it -/
theorem roundF_cap {B : Nat} {S : z_SS} (hW : WF B S) {b r : Nat} (hb : b < 4) (hr : r < S.1 0 3) : 0 < (roundF S b r).2 ∧ (roundF S b r).1 ≤ 5777633090469888 ∧ (roundF S b r).2 ≤ 722204136308736 ∧ ∀ h, h < S.1 10 r → S.2.1 17 (24 * b + 8 * r + h) ≠ none → 0 < (roundF S b r).1 := by
  have h3 := hW.1
  have h4 := hW.2.2.1 r hr
  have hf : ∀ h s, h < 8 → S.2.1 17 (24 * b + 8 * r + h) = some s → s < S.1 0 5 := fun h s hh e => (hW.2.2.2.2.1 b r h s hb (by omega) hh e).1
  have hf2 : ∀ h s, (if h < 8 then S.2.1 17 (24 * b + 8 * r + h) else none) = some s → s < S.1 0 5 := fun h s e => by
    split at e
    · exact hf h s (by assumption) e
    · cases e
  have ec : ∀ n, n ≤ 8 → fracS S (fun h => if h < 8 then S.2.1 17 (24 * b + 8 * r + h) else none) n = fracS S (fun h => S.2.1 17 (24 * b + 8 * r + h)) n := by
    intro n hn
    induction n with
    | zero => rfl
    | succ n ihn =>
      unfold fracS
      rw [ihn (by omega), if_pos (by omega)]
  have hc := fracS_cap (S := S) (f := fun h => if h < 8 then S.2.1 17 (24 * b + 8 * r + h) else none) hW.2.1 hf2 (n := S.1 10 r) h4.2.1
  rw [ec _ h4.2.1] at hc
  refine ⟨hc.1, hc.2.1, hc.2.2, fun h hh hne => ?_⟩
  have hp := fracS_pos (S := S) (f := fun h => if h < 8 then S.2.1 17 (24 * b + 8 * r + h) else none) hW.2.1 hf2 (i := h) (S.1 10 r) hh (by
    show (if h < 8 then S.2.1 17 (24 * b + 8 * r + h) else none) ≠ none
    rw [if_pos (by omega)]
    exact hne)
  rw [ec _ h4.2.1] at hp
  exact hp
theorem redF_pos1 {p : Nat × Nat} (h : 0 < p.2) (h1 : 0 < p.1) : 0 < (redF p).1 := by
  obtain ⟨e1, e2, e3⟩ := redF_eq h
  rcases Nat.eq_zero_or_pos (redF p).1 with e | e
  · rw [e, Nat.zero_mul] at e1
    omega
  · exact e
section REFG
variable {B : Nat} {S : z_SS} {μ : z_M}
theorem r_compared {a b c d : Nat} (ha : a < 2 ^ 63) (hb0 : 0 < b) (hb : b < 2 ^ 63) (hc : c < 2 ^ 63) (hd0 : 0 < d) (hd : d < 2 ^ 63) {K : Int32 → z_M → Prop} (h1 : a * d < c * b → K (-1) μ) (h2 : a * d = c * b → K 0 μ) (h3 : c * b < a * d → K 1 μ) : C_X12_compared (lN a) (lN b) (lN c) (lN d) μ K := by
  unfold C_X12_compared L_X12_compared_17
  intro P hP
  have go : ∀ n a b c d s, b ≤ n → a < 2 ^ 63 → 0 < b → b < 2 ^ 63 → c < 2 ^ 63 → 0 < d → d < 2 ^ 63 → (s = 1 ∨ s = -1) → (a * d < c * b → K (0 - s) μ) → (a * d = c * b → K 0 μ) → (c * b < a * d → K s μ) → P (lN a) (lN b) (lN c) (lN d) s μ := by
    intro n
    induction n with
    | zero => intro a b c d s hn ha hb0; omega
    | succ n ih =>
      intro a b c d s hn ha hb0 hb hc hd0 hd hs k1 k2 k3
      have m1 := Nat.mod_lt a hb0
      have m2 := Nat.mod_lt c hd0
      have d1 := Nat.div_le_self a b
      have d2 := Nat.div_le_self c d
      refine hP _ _ _ _ _ _ ?_
      unfold B_X12_compared_17 L_X12_compared_61
      have zb : ¬ lN b = 0 := fun e => by
        have := (pk_lEQ (b := 0) hb (by decide)).mp e
        omega
      have zd : ¬ lN d = 0 := fun e => by
        have := (pk_lEQ (b := 0) hd (by decide)).mp e
        omega
      rw [pk_lRem ha hb0 hb, pk_lRem hc hd0 hd, pk_lDiv ha hb0 hb, pk_lDiv hc hd0 hd]
      refine ⟨zb, zd, ifc (pk_lEQ (by omega) (by omega)) (fun e => ?_) (fun e => ?_)⟩
      · have e1 : a * d = b * (a / b) * d + a % b * d := by rw [← Nat.add_mul, Nat.div_add_mod]
        have e2 : c * b = b * (a / b) * d + c % d * b := by
          rw [show b * (a / b) * d = d * (a / b) * b by ac_rfl, e, ← Nat.add_mul, Nat.div_add_mod]
        refine ifc (pk_lEQ (b := 0) (by omega) (by decide)) (fun z1 => ifc (pk_lEQ (b := 0) (by omega) (by decide)) (fun z2 => ?_) (fun z2 => ?_)) (fun z1 => ?_)
        · rw [z1, Nat.zero_mul] at e1
          rw [z2, Nat.zero_mul] at e2
          exact k2 (by omega)
        · rw [if_pos (show lN (a % b) = 0 by rw [z1]; rfl)]
          rw [z1, Nat.zero_mul] at e1
          have : 0 < c % d * b := Nat.mul_pos (by omega) hb0
          exact k1 (by omega)
        · rw [if_neg (show ¬ lN (a % b) = 0 from fun q => z1 ((pk_lEQ (b := 0) (by omega) (by decide)).mp q))]
          have p1 : 0 < a % b * d := Nat.mul_pos (by omega) hd0
          refine ifc (pk_lEQ (b := 0) (by omega) (by decide)) (fun z2 => ?_) (fun z2 => ?_)
          · rw [z2, Nat.zero_mul] at e2
            exact k3 (by omega)
          · have q1 : b * (c % d) = c % d * b := Nat.mul_comm _ _
            have q2 : d * (a % b) = a % b * d := Nat.mul_comm _ _
            refine ih b (a % b) d (c % d) (0 - s) (by omega) hb (by omega) (by omega) hd (by omega) (by omega) (by rcases hs with rfl | rfl <;> decide) (fun q => ?_) (fun q => k2 (by omega)) (fun q => k1 (by omega))
            rw [show 0 - (0 - s) = s by rcases hs with rfl | rfl <;> decide]
            exact k3 (by omega)
      · refine ifc (pk_lLE (by omega) (by omega)) (fun g => k3 (lt_cross hb0 hd0 (by omega))) (fun g => k1 (lt_cross hd0 hb0 (by omega)))
  exact go b a b c d 1 (Nat.le_refl _) ha hb0 hb hc hd0 hd (Or.inl rfl) h1 h2 h3
theorem r_hasAll (hR : RepR S μ) (hW : WF B S) {b r : Nat} (hb : b < 4) (hr : r < S.1 0 3) {K : Int32 → z_M → Prop} (h1 : fullS S b r (S.1 10 r) = true → K 1 μ) (h0 : fullS S b r (S.1 10 r) = false → K 0 μ) : C_X12_hasAll (nI b) (nI r) μ K := by
  have h3 := hW.1
  have h4 := hW.2.2.1 r hr
  unfold C_X12_hasAll L_X12_hasAll_2
  intro P hP
  have mono : ∀ n k, fullS S b r n = false → fullS S b r (n + k) = false := by
    intro n k hn
    induction k with
    | zero => exact hn
    | succ k ih =>
      show (fullS S b r (n + k) && _) = false
      rw [ih]
      rfl
  refine downTo (Q := fun i => fullS S b r i = true → P (nI b) (nI r) (nI i) μ) (S.1 10 r) ?_ (fun i hi ih => ?_) 0 (Nat.zero_le _) rfl
  · intro hp
    refine hP _ _ _ _ ?_
    unfold B_X12_hasAll_2
    rw [nI_clamp (by omega), hR.a (c := 10) rfl]
    exact ⟨nI_vin (by omega) (by omega), ifc (nI_leI (by omega) (by omega)) (fun _ => h1 hp) (fun g => absurd (Nat.le_refl _) g)⟩
  · intro hp
    refine hP _ _ _ _ ?_
    unfold B_X12_hasAll_2
    rw [nI_clamp (by omega), hR.a (c := 10) rfl]
    refine ⟨nI_vin (by omega) (by omega), ifc (nI_leI (by omega) (by omega)) (fun g => absurd g (by omega)) (fun _ => ?_)⟩
    refine r_runsN hR hW (by omega) (by omega) (fun e1 => ?_) (fun e1 => ?_)
    · rw [if_neg i10]
      refine r_cellOf ?_
      rw [nI_clamp (n := 24 * b + 8 * r + i) (by omega), hR.o (c := 17) rfl]
      refine ⟨nI_vin (by omega) (by omega), ifc (oI_eq_m1 (fun n hn => by have := (wf17 hW (by omega) hn).1; omega)) (fun e2 => ?_) (fun e2 => ?_)⟩
      · refine h0 ?_
        have e3 : fullS S b r (i + 1) = false := by
          show (fullS S b r i && _) = false
          rw [if_pos e1, e2]
          simp
        have := mono (i + 1) (S.1 10 r - (i + 1)) e3
        rw [show i + 1 + (S.1 10 r - (i + 1)) = S.1 10 r by omega] at this
        exact this
      · rw [nI_1]
        refine ih ?_
        show (fullS S b r i && _) = true
        rw [if_pos e1, hp]
        simpa [Option.isSome_iff_ne_none] using e2
    · rw [if_pos rfl, nI_1]
      refine ih ?_
      show (fullS S b r i && _) = true
      rw [if_neg e1, hp]
      rfl
theorem chF_bd (hW : WF B S) {b r h s : Nat} (hb : b < 4) (hr : r < S.1 0 3) (hh : h < S.1 10 r) (es : S.2.1 17 (24 * b + 8 * r + h) = some s) : (chF S b r s).1 < 2 ^ 62 ∧ 0 < (chF S b r s).2 ∧ (chF S b r s).2 < 2 ^ 62 := by
  have h4 := hW.2.2.1 r hr
  have h3 := hW.1
  obtain ⟨c1, c2, c3, c4⟩ := roundF_cap hW hb hr
  have hs := hW.2.1 s (wf17 hW (by omega) es).1
  have c5 := c4 h hh (by rw [es]; exact fun q => by cases q)
  unfold chF
  have l := redF_le (S.1 9 s * (roundF S b r).2, (S.1 8 s + S.1 9 s) * (roundF S b r).1)
  have a1 : S.1 9 s * (roundF S b r).2 ≤ 12 * 722204136308736 := Nat.mul_le_mul (by omega) c3
  have a2 : (S.1 8 s + S.1 9 s) * (roundF S b r).1 ≤ 72 * 5777633090469888 := Nat.mul_le_mul (by omega) c2
  have a3 : 0 < (S.1 8 s + S.1 9 s) * (roundF S b r).1 := Nat.mul_pos (by omega) c5
  have p := redF_pos (p := (S.1 9 s * (roundF S b r).2, (S.1 8 s + S.1 9 s) * (roundF S b r).1)) a3
  dsimp only at l
  refine ⟨by omega, p, by omega⟩
theorem chL_bd (hW : WF B S) {r h : Nat} (gr : Bool) (hr : r < S.1 0 3) (hh : h < S.1 10 r) : ∀ n, n ≤ 4 → ∀ p, chL S r h gr n = some p → p.1 < 2 ^ 62 ∧ 0 < p.2 ∧ p.2 < 2 ^ 62 := by
  intro n
  induction n with
  | zero => intro _ p e; cases e
  | succ n ih =>
    intro hn p e
    unfold chL at e
    split at e
    · cases es : S.2.1 17 (24 * n + 8 * r + h) with
      | none =>
        rw [es] at e
        exact ih (by omega) p e
      | some s =>
        rw [es] at e
        have hb := chF_bd hW (by omega) hr hh es
        dsimp only at e
        cases e2 : chL S r h gr n with
        | none =>
          rw [e2] at e
          cases e
          exact hb
        | some p2 =>
          rw [e2] at e
          dsimp only at e
          split at e
          · cases e
            exact hb
          · cases e
            exact ih (by omega) _ e2
    · exact ih (by omega) p e
def isO (o : Option (Nat × Nat)) : Int32 := match o with
  | none => 0
  | some _ => 1
def upO (o : Option (Nat × Nat)) : Int64 := match o with
  | none => 0
  | some p => lN p.1
def dnO (o : Option (Nat × Nat)) : Int64 := match o with
  | none => 1
  | some p => lN p.2
theorem nI_even : ∀ w : Fin 4, nI w - nI w / 2 * 2 = nI (w.val % 2) := by decide +kernel
theorem r_chance (hR : RepR S μ) (hW : WF B S) {a b c : Int32} {K : Int64 → z_M → Prop} (hK : ∀ μ', RepR S μ' → K (opChance S a b c) μ') : C_X12_chance a b c μ K := by
  have h3 := hW.1
  unfold C_X12_chance
  unfold opChance at hK
  refine r_runs hR hW (fun r h hx e1 e2 => ?_) (fun g => ?_)
  · subst e1
    subst e2
    have hr := hx.1
    have hh := hx.2.1
    have h4 := hW.2.2.1 r hr
    rw [ixO_some hx.1 (by omega)] at hK
    dsimp only at hK
    rw [ixO_some hx.2.1 (by omega)] at hK
    dsimp only at hK
    rw [if_neg (by rw [hx.2.2]; decide)] at hK
    rw [if_neg i10]
    refine r_liesC (lo := 0) (hi := 3) (x := 0) (y := 3) rfl rfl (by decide) (by decide) (fun w _ w2 ed => ?_) (fun g => ?_)
    · subst ed
      rw [ixO_some (show w < 4 by omega) (by decide)] at hK
      dsimp only at hK
      rw [if_neg i10]
      unfold L_X12_chance_37
      intro P hP
      have key : ∀ n, n ≤ S.1 0 4 → ∀ μ', RepR S μ' → P (nI r) (nI h) (nI w) (isO (chL S r h (decide (2 ≤ w)) n)) (upO (chL S r h (decide (2 ≤ w)) n)) (dnO (chL S r h (decide (2 ≤ w)) n)) (nI n) μ' := by
        refine downTo (S.1 0 4) ?_ (fun n hn ih => ?_)
        · intro μ' hR'
          refine hP _ _ _ _ _ _ _ _ ?_
          unfold B_X12_chance_37
          rw [hR'.f (k := 4) (by decide) (by decide)]
          refine ifc (nI_leI (by omega) (by omega)) (fun _ => ?_) (fun g => absurd (Nat.le_refl _) g)
          have hk := hK μ' hR'
          cases e : chL S r h (decide (2 ≤ w)) (S.1 0 4) with
          | none =>
            rw [e] at hk
            rw [if_pos (show isO none = 0 from rfl)]
            exact hk
          | some p =>
            rw [e] at hk
            rw [if_neg (show ¬ isO (some p) = 0 from i10), show nI w - nI w / 2 * 2 = nI (w % 2) from nI_even ⟨w, by omega⟩]
            dsimp only at hk
            exact ifc (nI_eq (b := 0) (by omega) (by decide)) (fun q => by rw [if_pos q] at hk; exact hk) (fun q => by rw [if_neg q] at hk; exact hk)
        · intro μ' hR'
          refine hP _ _ _ _ _ _ _ _ ?_
          unfold B_X12_chance_37 L_X12_chance_153 L_X12_chance_181
          rw [hR'.f (k := 4) (by decide) (by decide)]
          refine ifc (nI_leI (by omega) (by omega)) (fun g => absurd g (by omega)) (fun _ => ?_)
          refine r_hasAll hR' hW (by omega) hr (fun hf => ?_) (fun hf => ?_)
          · rw [if_neg i10]
            refine r_rounds hR' hW (by omega) hr fun μ2 hR2 hk2 hA2 => r_cellOf ?_
            obtain ⟨s, es⟩ := Option.ne_none_iff_exists'.mp (fullS_at hf hh hx)
            have hs1 := (wf17 hW (by omega) es).1
            have hs := hW.2.1 s hs1
            have hch := chF_bd hW (by omega) hr hh es
            obtain ⟨c1, c2, c3, c4⟩ := roundF_cap hW (b := n) (by omega) hr
            have c5 := c4 h hh (by rw [es]; exact fun q => by cases q)
            have l1 := redF_le (roundF S n r)
            have l2 := redF_pos1 c1 c5
            have ih2 := fun μ' hR' => ih μ' hR'
            have en : chL S r h (decide (2 ≤ w)) (n + 1) = (match chL S r h (decide (2 ≤ w)) n with
              | none => some (chF S n r s)
              | some p => if betterF (decide (2 ≤ w)) (chF S n r s) p = true then some (chF S n r s) else some p) := by
              show (if fullS S n r (S.1 10 r) = true then _ else _) = _
              rw [if_pos hf, es]
            rw [en] at ih2
            rw [nI_clamp (n := 24 * n + 8 * r + h) (by omega), hR2.o (c := 17) rfl, es, oI_some, nI_clamp (n := s) (by omega), hR2.a (c := 8) rfl, hR2.a (c := 9) rfl, nI_add, nI_l (by omega), nI_l (by omega), hA2.1, hA2.2, lN_mul, lN_mul]
            refine ⟨nI_vin (by omega) (by omega), nI_vin (by omega) (by omega), ?_⟩
            have a1 : S.1 9 s * (redF (roundF S n r)).2 ≤ 12 * 722204136308736 := Nat.mul_le_mul (by omega) (by omega)
            have a2 : (S.1 8 s + S.1 9 s) * (redF (roundF S n r)).1 ≤ 72 * 5777633090469888 := Nat.mul_le_mul (by omega) (by omega)
            have a3 : 0 < (S.1 8 s + S.1 9 s) * (redF (roundF S n r)).1 := Nat.mul_pos (by omega) l2
            have ech : chF S n r s = redF (S.1 9 s * (redF (roundF S n r)).2, (S.1 8 s + S.1 9 s) * (redF (roundF S n r)).1) := by
              obtain ⟨q1, q2, q3⟩ := redF_eq c1
              unfold chF
              rw [← redF_mul (p := (S.1 9 s * (redF (roundF S n r)).2, (S.1 8 s + S.1 9 s) * (redF (roundF S n r)).1)) q3 a3]
              dsimp only
              rw [Nat.mul_assoc, ← q2, Nat.mul_assoc, ← q1]
            generalize hX : S.1 9 s * (redF (roundF S n r)).2 = X at a1 ech ⊢
            generalize hY : (S.1 8 s + S.1 9 s) * (redF (roundF S n r)).1 = Y at a2 a3 ech ⊢
            have hg := Nat.gcd_pos_of_pos_right X a3
            have hgl := Nat.gcd_le_right X a3
            have zg : ¬ lN (Nat.gcd X Y) = 0 := fun e => by
              have := (pk_lEQ (b := 0) (by omega) (by decide)).mp e
              omega
            refine r_divisor (by omega) (by omega) ?_
            rw [pk_lDiv (by omega) hg (by omega), pk_lDiv (by omega) hg (by omega)]
            have eX : X / Nat.gcd X Y = (chF S n r s).1 := by rw [ech]; rfl
            have eY : Y / Nat.gcd X Y = (chF S n r s).2 := by rw [ech]; rfl
            rw [eX, eY, nI_1]
            cases e : chL S r h (decide (2 ≤ w)) n with
            | none =>
              rw [e] at ih2
              rw [if_pos (show isO none = 0 from rfl), if_pos (show isO none = 0 from rfl)]
              exact ⟨zg, ih2 _ hR2⟩
            | some p =>
              have hp := chL_bd hW _ hr hh n (by omega) p e
              rw [e] at ih2
              dsimp only at ih2
              rw [if_neg (show ¬ isO (some p) = 0 from i10)]
              refine ⟨zg, ?_⟩
              show C_X12_compared (lN (chF S n r s).1) (lN (chF S n r s).2) (lN p.1) (lN p.2) _ _
              have fin : ∀ t : Int32, (0 < t ↔ p.1 * (chF S n r s).2 < (chF S n r s).1 * p.2) → (t < 0 ↔ (chF S n r s).1 * p.2 < p.1 * (chF S n r s).2) → (if isO (some p) = 0 then (¬ lN (Nat.gcd X Y) = 0) ∧ P (nI r) (nI h) (nI w) 1 (lN (chF S n r s).1) (lN (chF S n r s).2) (nI (n + 1)) μ2 else if 2 ≤ nI w then (if 0 < t then (¬ lN (Nat.gcd X Y) = 0) ∧ P (nI r) (nI h) (nI w) 1 (lN (chF S n r s).1) (lN (chF S n r s).2) (nI (n + 1)) μ2 else P (nI r) (nI h) (nI w) (isO (some p)) (upO (some p)) (dnO (some p)) (nI (n + 1)) μ2) else (if t < 0 then (¬ lN (Nat.gcd X Y) = 0) ∧ P (nI r) (nI h) (nI w) 1 (lN (chF S n r s).1) (lN (chF S n r s).2) (nI (n + 1)) μ2 else P (nI r) (nI h) (nI w) (isO (some p)) (upO (some p)) (dnO (some p)) (nI (n + 1)) μ2)) := by
                intro t t1 t2
                have i2 := ih2 μ2 hR2
                rw [if_neg (show ¬ isO (some p) = 0 from i10)]
                refine ifc (nI_leI (a := 2) (by decide) (by omega)) (fun g => ?_) (fun g => ?_)
                · rw [decide_eq_true g, betterF_t] at i2
                  refine ifc t1 (fun q => ⟨zg, ?_⟩) (fun q => ?_)
                  · rw [if_pos (decide_eq_true q)] at i2
                    exact i2
                  · rw [if_neg (fun z => q (of_decide_eq_true z))] at i2
                    exact i2
                · rw [decide_eq_false g, betterF_f] at i2
                  refine ifc t2 (fun q => ⟨zg, ?_⟩) (fun q => ?_)
                  · rw [if_pos (decide_eq_true q)] at i2
                    exact i2
                  · rw [if_neg (fun z => q (of_decide_eq_true z))] at i2
                    exact i2
              have y1 : (0 : Int32) < 1 := by decide
              have y2 : ¬ (1 : Int32) < 0 := by decide
              have y3 : ¬ (0 : Int32) < 0 := by decide
              have y4 : ¬ (0 : Int32) < -1 := by decide
              have y5 : (-1 : Int32) < 0 := by decide
              refine r_compared (by omega) hch.2.1 (by omega) (by omega) hp.2.1 (by omega) (fun q => ?_) (fun q => ?_) (fun q => ?_)
              · exact fin (-1) ⟨fun z => absurd z y4, fun z => by omega⟩ ⟨fun _ => q, fun _ => y5⟩
              · exact fin 0 ⟨fun z => absurd z y3, fun z => by omega⟩ ⟨fun z => absurd z y3, fun z => by omega⟩
              · exact fin 1 ⟨fun _ => q, fun _ => y1⟩ ⟨fun z => absurd z y2, fun z => by omega⟩
          · rw [if_pos rfl, nI_1]
            have en : chL S r h (decide (2 ≤ w)) (n + 1) = chL S r h (decide (2 ≤ w)) n := by
              show (if fullS S n r (S.1 10 r) = true then _ else _) = _
              rw [if_neg (by rw [hf]; decide)]
            have ih2 := ih μ' hR'
            rw [en] at ih2
            exact ih2
      exact key 0 (Nat.zero_le _) μ hR
    · rw [if_pos rfl]
      rw [ixO_none fun j hj => g j (Nat.zero_le _) (by omega)] at hK
      exact hK μ hR
  · rw [if_pos rfl]
    have hk := hK μ hR
    cases e1 : ixO a (S.1 0 3) with
    | none => rw [e1] at hk; exact hk
    | some r =>
      obtain ⟨g1, g2⟩ := ixO_inv e1
      rw [e1] at hk
      dsimp only at hk
      cases e2 : ixO b (S.1 10 r) with
      | none => rw [e2] at hk; exact hk
      | some h =>
        obtain ⟨g3, g4⟩ := ixO_inv e2
        rw [e2] at hk
        dsimp only at hk
        rw [if_pos] at hk
        · exact hk
        · cases e3 : (S.1 11 r).testBit h with
          | true => rfl
          | false => exact absurd g4 (g r h ⟨g1, g3, e3⟩ g2)
end REFG
