/-! The reference: most, layOff. -/
def leastS (S : z_SS) (s v : Nat) : Nat := (v * S.1 9 s + (S.1 8 s + S.1 9 s) - 1) / (S.1 8 s + S.1 9 s)
def stH (S : z_SS) (r v h : Nat) : Nat := if runsS S r h then (match longS S r h with
  | some s => leastS S s v
  | none => 0) else 0
def stF (S : z_SS) (r v : Nat) : Nat := sumN (S.1 10 r) (stH S r v)
/-- the most below the level e, and the least level of it -/
def mostTo (S : z_SS) (r e g l : Nat) : Prop := (g = 0 ∧ l = 0 ∧ ∀ v, 1 ≤ v → v < e → v ≤ stF S r v) ∨ (1 ≤ l ∧ l < e ∧ l = stF S r l + g ∧ 0 < g ∧ (∀ v, 1 ≤ v → v < e → v ≤ stF S r v + g) ∧ ∀ v, 1 ≤ v → v < l → v < stF S r v + g)
def isMost (S : z_SS) (r tot g l : Nat) : Prop := ∃ e, 1 ≤ e ∧ tot < stF S r e ∧ (∀ v, 1 ≤ v → v < e → stF S r v ≤ tot) ∧ mostTo S r e g l
theorem isMost_one {S : z_SS} {r tot g l g' l' : Nat} (h : isMost S r tot g l) (h' : isMost S r tot g' l') : g = g' ∧ l = l' := by
  obtain ⟨e, e1, e2, e3, e4⟩ := h
  obtain ⟨e', f1, f2, f3, f4⟩ := h'
  have ee : e = e' := by
    rcases Nat.lt_trichotomy e e' with q | q | q
    · have := f3 e e1 q
      omega
    · exact q
    · have := e3 e' f1 q
      omega
  subst ee
  rcases e4 with ⟨a1, a2, a3⟩ | ⟨a1, a2, a3, a4, a5, a6⟩ <;> rcases f4 with ⟨b1, b2, b3⟩ | ⟨b1, b2, b3, b4, b5, b6⟩
  · omega
  · have := a3 l' b1 b2
    omega
  · have := b3 l a1 a2
    omega
  · have c1 := a5 l' b1 b2
    have c2 := b5 l a1 a2
    have eg : g = g' := by omega
    subst eg
    refine ⟨rfl, ?_⟩
    rcases Nat.lt_trichotomy l l' with q | q | q
    · have := b6 l a1 q
      omega
    · exact q
    · have := a6 l' b1 q
      omega
noncomputable def mostP (S : z_SS) (r tot : Nat) : Nat × Nat := Classical.epsilon fun p => isMost S r tot p.1 p.2
theorem mostP_eq {S : z_SS} {r tot g l : Nat} (h : isMost S r tot g l) : mostP S r tot = (g, l) := by
  have h2 : isMost S r tot (mostP S r tot).1 (mostP S r tot).2 := Classical.epsilon_spec (p := fun p : Nat × Nat => isMost S r tot p.1 p.2) ⟨(g, l), h⟩
  obtain ⟨e1, e2⟩ := isMost_one h2 h
  exact Prod.ext e1 e2
noncomputable def mostR (S : z_SS) (r tot : Nat) (o : Option Nat) : Int32 := if pricedTo S r (S.1 10 r) = true then (match o with
  | none => nI (mostP S r tot).1
  | some h => if (mostP S r tot).1 = 0 then 0 else nI (stH S r (mostP S r tot).2 h)) else 0
noncomputable def opMost (S : z_SS) (a b c : Int32) : Int32 := match ixO a (S.1 0 3) with
  | none => -1
  | some r => if S.1 12 r = 0 then (match ixO b 3001 with
    | none => -1
    | some tot => if tot = 0 then -1 else if c = -1 then mostR S r tot none else match ixO c (S.1 10 r) with
      | none => -1
      | some h => mostR S r tot (some h)) else -1
def wwS (S : z_SS) (b r h st s : Nat) : Option Int := minO (S.1 10 r) (fun x => if runsS S r x then some (balZ S b r x + (if x = h then (wonBy S st s : Int) else -(st : Int))) else none)
abbrev z_R : Type := Int × Option (Nat × Nat × Nat)
def off1 (S : z_SS) (b r q k h : Nat) (p : z_R) : z_R := if q ≠ b ∧ S.1 16 q = 0 then (match S.2.1 17 (24 * q + 8 * r + h) with
  | none => p
  | some s => if p.1 < (wwS S b r h (100 * k) s).getD 0 then ((wwS S b r h (100 * k) s).getD 0, some (q, h, 100 * k)) else p) else p
def offH (S : z_SS) (b r q k : Nat) (p : z_R) (n : Nat) : z_R := match n with
  | 0 => p
  | n + 1 => off1 S b r q k n (offH S b r q k p n)
def offB (S : z_SS) (b r k : Nat) (p : z_R) (n : Nat) : z_R := match n with
  | 0 => p
  | n + 1 => offH S b r n k (offB S b r k p n) (S.1 10 r)
def offK (S : z_SS) (b r : Nat) (p : z_R) (n : Nat) : z_R := match n with
  | 0 => p
  | n + 1 => offB S b r (n + 1) (offK S b r p n) (S.1 0 4)
def offS (S : z_SS) (b r tot : Nat) : z_R := offK S b r ((worstS S b r).getD 0, none) (tot / 100)
def opLayOff (S : z_SS) (a b c d : Int32) : Int32 := match ixO a (S.1 0 4) with
  | none => -1
  | some bk => match ixO b (S.1 0 3) with
    | none => -1
    | some r => if S.1 12 r = 0 then (match ixO c 5001 with
      | none => -1
      | some tot => if tot < 100 then -1 else match ixO d 4 with
        | none => -1
        | some w => match (offS S bk r tot).2 with
          | none => -2
          | some (q, h, st) => if w = 0 then nI q else if w = 1 then nI h else if w = 2 then nI st else iI (offS S bk r tot).1) else -1
theorem minO_bd {lo hi : Int} {f : Nat → Option Int} (hf : ∀ x v, f x = some v → lo ≤ v ∧ v ≤ hi) : ∀ n m, minO n f = some m → lo ≤ m ∧ m ≤ hi := by
  intro n
  induction n with
  | zero => intro m e; cases e
  | succ n ih =>
    intro m e
    unfold minO at e
    cases e1 : minO n f with
    | none =>
      rw [e1] at e
      exact hf n m e
    | some x =>
      rw [e1] at e
      cases e2 : f n with
      | none =>
        rw [e2] at e
        cases e
        exact ih _ e1
      | some y =>
        rw [e2] at e
        dsimp only at e
        split at e
        · cases e
          exact hf n _ e2
        · cases e
          exact ih _ e1
section REFD
variable {B : Nat} {S : z_SS} {μ : z_M}
theorem leastS_le (hW : WF B S) {s v : Nat} (hs : s < S.1 0 5) : leastS S s v ≤ v := by
  have h4 := hW.2.1 s hs
  unfold leastS
  rw [Nat.div_le_iff_le_mul_add_pred (by omega)]
  have : v * S.1 9 s ≤ v * (S.1 8 s + S.1 9 s) := Nat.mul_le_mul_left _ (by omega)
  rw [Nat.mul_comm (S.1 8 s + S.1 9 s)]
  omega
theorem leastS_ge (hW : WF B S) {s v : Nat} (hs : s < S.1 0 5) : v ≤ 61 * leastS S s v := by
  have h4 := hW.2.1 s hs
  unfold leastS
  have h5 := Nat.div_add_mod (v * S.1 9 s + (S.1 8 s + S.1 9 s) - 1) (S.1 8 s + S.1 9 s)
  have h6 := Nat.mod_lt (v * S.1 9 s + (S.1 8 s + S.1 9 s) - 1) (show 0 < S.1 8 s + S.1 9 s by omega)
  generalize (v * S.1 9 s + (S.1 8 s + S.1 9 s) - 1) / (S.1 8 s + S.1 9 s) = q at h5 ⊢
  have h7 : v * S.1 9 s ≤ (S.1 8 s + S.1 9 s) * q := by omega
  have h8 : (S.1 8 s + S.1 9 s) * q ≤ (61 * S.1 9 s) * q := Nat.mul_le_mul_right _ (by omega)
  have h9 : S.1 9 s * v ≤ S.1 9 s * (61 * q) := by
    rw [Nat.mul_comm (S.1 9 s) v, Nat.mul_comm 61 q, ← Nat.mul_assoc, Nat.mul_comm (S.1 9 s) q, Nat.mul_assoc, Nat.mul_comm (S.1 9 s) 61, Nat.mul_comm q]
    omega
  exact Nat.le_of_mul_le_mul_left h9 (by omega)
theorem r_leastFor (hR : RepR S μ) (hW : WF B S) {s v : Nat} (hs : s < S.1 0 5) (hv : v < 2 ^ 30) {K : Int32 → z_M → Prop} (hK : K (nI (leastS S s v)) μ) : C_X12_leastFor (nI s) (nI v) μ K := by
  have h3 := hW.1
  have h4 := hW.2.1 s hs
  unfold C_X12_leastFor
  have hm : v * S.1 9 s ≤ 2 ^ 30 * 12 := Nat.mul_le_mul (by omega) (by omega)
  rw [nI_clamp (by omega), hR.a (c := 8) rfl, hR.a (c := 9) rfl, nI_add, nI_l (by omega), nI_l (by omega), nI_l (by omega), lN_mul, lN_add, show (1 : Int64) = lN 1 from rfl, lN_sub (by omega), pk_lDiv (by omega) (by omega) (by omega), lN_i]
  refine ⟨nI_vin (by omega) (by omega), fun e => ?_, hK⟩
  have := (lN_eq (b := 0) (by omega) (by omega)).mp e
  omega
theorem stH_le (hW : WF B S) {r v h : Nat} (hr : r < 3) (hh : h < 8) : stH S r v h ≤ v := by
  unfold stH
  split
  · split
    · rename_i s es
      exact leastS_le hW (longS_lt hW hr hh s es)
    · omega
  · omega
theorem r_stakesFor (hR : RepR S μ) (hW : WF B S) {r v : Nat} (hr : r < S.1 0 3) (hp : pricedTo S r (S.1 10 r) = true) (hv : v < 2 ^ 20) {K : Int32 → z_M → Prop} (hK : K (nI (stF S r v)) μ) : C_X12_stakesFor (nI r) (nI v) μ K := by
  have h3 := hW.1
  have h4 := hW.2.2.1 r hr
  unfold C_X12_stakesFor L_X12_stakesFor_5
  intro P hP
  refine downTo (Q := fun i => P (nI r) (nI v) (nI (sumN i (stH S r v))) (nI i) μ) (S.1 10 r) ?_ (fun i hi ih => ?_) 0 (Nat.zero_le _)
  · refine hP _ _ _ _ _ ?_
    unfold B_X12_stakesFor_5
    rw [nI_clamp (by omega), hR.a (c := 10) rfl]
    exact ⟨nI_vin (by omega) (by omega), ifc (nI_leI (by omega) (by omega)) (fun _ => hK) (fun g => absurd (Nat.le_refl _) g)⟩
  · refine hP _ _ _ _ _ ?_
    unfold B_X12_stakesFor_5
    rw [nI_clamp (by omega), hR.a (c := 10) rfl, nI_1]
    refine ⟨nI_vin (by omega) (by omega), ifc (nI_leI (by omega) (by omega)) (fun g => absurd g (by omega)) (fun _ => ?_)⟩
    try dsimp only at ih
    unfold sumN at ih
    refine r_runsN hR hW (by omega) (by omega) (fun e1 => ?_) (fun e1 => ?_)
    · rw [if_neg i10]
      obtain ⟨s, es⟩ := Option.ne_none_iff_exists'.mp (pricedTo_at hp hi e1)
      refine r_longest hR hW (by omega) (by omega) ?_
      rw [es, oI_some]
      refine r_leastFor hR hW (longS_lt hW (by omega) (by omega) s es) (by omega) ?_
      rw [nI_add]
      have : stH S r v i = leastS S s v := by
        unfold stH
        rw [if_pos e1, es]
      rw [this] at ih
      exact ih
    · have : stH S r v i = 0 := if_neg e1
      rw [this, Nat.add_zero] at ih
      rw [if_pos rfl, nI_0a]
      exact ih
theorem some_runs (hW : WF B S) {r : Nat} (hr : r < S.1 0 3) : ∃ h, runsS S r h := by
  have h4 := hW.2.2.1 r hr
  refine Classical.byContradiction fun g => ?_
  have : leftS S r = 0 := sumN_0 fun h hh => by
    split
    · rfl
    · rename_i hb
      exact absurd ⟨h, hr, hh, by simpa using hb⟩ g
  omega
theorem sumN_ge {n k : Nat} {f : Nat → Nat} (hk : k < n) : f k ≤ sumN n f := by
  induction n with
  | zero => omega
  | succ n ih =>
    unfold sumN
    by_cases e : k = n
    · rw [e]
      omega
    · have := ih (by omega)
      omega
theorem stF_ge (hW : WF B S) {r : Nat} (hr : r < S.1 0 3) (hp : pricedTo S r (S.1 10 r) = true) (v : Nat) : v ≤ 61 * stF S r v := by
  have h3 := hW.1
  have h4 := hW.2.2.1 r hr
  obtain ⟨h, hx⟩ := some_runs hW hr
  obtain ⟨s, es⟩ := Option.ne_none_iff_exists'.mp (pricedTo_at hp hx.2.1 hx)
  have hx2 := hx.2.1
  have h1 := leastS_ge hW (v := v) (longS_lt hW (by omega) (by omega) s es)
  have h2 : stH S r v h ≤ stF S r v := sumN_ge hx.2.1
  have h5 : stH S r v h = leastS S s v := by
    unfold stH
    rw [if_pos hx, es]
  omega
theorem r_most (hR : RepR S μ) (hW : WF B S) {a b c : Int32} {K : Int32 → z_M → Prop} (hK : K (opMost S a b c) μ) : C_X12_most a b c μ K := by
  have h3 := hW.1
  unfold C_X12_most
  unfold opMost at hK
  refine r_isRace hR hW (fun r hr e => ?_) (fun g => by rw [if_pos rfl]; rw [ixO_none g] at hK; exact hK)
  subst e
  have h4 := hW.2.2.1 r hr
  rw [ixO_some hr (by omega)] at hK
  dsimp only at hK
  rw [if_neg i10, nI_clamp (by omega), hR.a (c := 12) rfl]
  refine ⟨nI_vin (by omega) (by omega), ifc (nI_eq (b := 0) (by omega) (by omega)) (fun e0 => ?_) (fun e0 => by rw [if_neg e0] at hK; exact hK)⟩
  rw [if_pos e0] at hK
  refine r_liesC (lo := 1) (hi := 3000) (x := 1) (y := 3000) rfl rfl (by decide) (by decide) (fun tot t1 t2 ea => ?_) (fun g => ?_)
  · subst ea
    rw [ixO_some (show tot < 3001 by omega) (by decide)] at hK
    dsimp only at hK
    rw [if_neg (by omega)] at hK
    rw [if_neg i10]
    have core : ∀ (o : Option Nat), (∀ h, o = some h → h < S.1 10 r) → c = oI o → K (mostR S r tot o) μ → L_X12_most_45 K (nI r) (nI tot) c μ := by
      intro o ho ec hk
      unfold L_X12_most_45
      unfold mostR at hk
      refine r_isPriced hR hW hr (fun hp => ?_) (fun hp => ?_)
      · rw [if_neg i10]
        rw [if_pos hp] at hk
        unfold L_X12_most_64
        intro P hP
        have go : ∀ fuel v lvl g, 183002 ≤ fuel + v → v ≤ 183001 → 1 ≤ v → (∀ w, 1 ≤ w → w < v → stF S r w ≤ tot) → mostTo S r v g lvl → P (nI r) (nI tot) c (nI lvl) (nI g) (nI v) μ := by
          intro fuel
          induction fuel with
          | zero =>
            intro v lvl g f1 f2 f3 f4 _
            omega
          | succ fuel ih =>
            intro v lvl g f1 f2 f3 f4 f5
            have hgv : g ≤ v ∧ lvl ≤ v := by
              rcases f5 with ⟨q1, q2, _⟩ | ⟨q1, q2, q3, _⟩ <;> omega
            have hF : stF S r v ≤ 8 * v := by
              refine Nat.le_trans (sumN_le fun h hh => stH_le hW (by omega) (by omega)) (Nat.mul_le_mul_right _ h4.2.1)
            refine hP _ _ _ _ _ _ _ ?_
            unfold B_X12_most_64
            refine r_stakesFor hR hW hr hp (by omega) (ifc (nI_ltI (by omega) (by omega)) (fun e => ?_) (fun e => ?_))
            · have hM := mostP_eq ⟨v, f3, e, f4, f5⟩
              rw [hM] at hk
              cases o with
              | none =>
                rw [if_pos (show c = -1 from ec)]
                exact hk
              | some h =>
                have hh := ho h rfl
                rw [if_neg (by rw [ec]; exact nI_ne_m1 (by omega))]
                dsimp only at hk
                refine ifc (nI_eq (b := 0) (by omega) (by omega)) (fun q => ?_) (fun q => ?_)
                · rw [if_pos q] at hk
                  exact hk
                · rw [if_neg q] at hk
                  rw [ec, oI_some]
                  refine r_runsN hR hW (by omega) (by omega) (fun e1 => ?_) (fun e1 => ?_)
                  · rw [if_neg i10]
                    obtain ⟨s, es⟩ := Option.ne_none_iff_exists'.mp (pricedTo_at hp hh e1)
                    refine r_longest hR hW (by omega) (by omega) ?_
                    rw [es, oI_some]
                    refine r_leastFor hR hW (longS_lt hW (by omega) (by omega) s es) (by omega) ?_
                    have : stH S r lvl h = leastS S s lvl := by
                      unfold stH
                      rw [if_pos e1, es]
                    rw [this] at hk
                    exact hk
                  · have : stH S r lvl h = 0 := if_neg e1
                    rw [this] at hk
                    rw [if_pos rfl]
                    exact hk
            · refine r_stakesFor hR hW hr hp (by omega) ?_
              have eg : nI v - nI (stF S r v) = iI ((v : Int) - (stF S r v : Int)) := by rw [← iI_nat, ← iI_nat, iI_sub]
              have f4' : ∀ w, 1 ≤ w → w < v + 1 → stF S r w ≤ tot := fun w w1 w2 => by
                by_cases q : w = v
                · rw [q]
                  omega
                · exact f4 w w1 (by omega)
              have hvt : v ≤ 183000 := by
                have := stF_ge hW hr hp v
                omega
              rw [eg, ← iI_nat g, nI_1]
              refine ifc (iI_lt (by omega) (by omega) (by omega) (by omega)) (fun q => ?_) (fun q => ?_)
              · have eg2 : iI ((v : Int) - (stF S r v : Int)) = nI (v - stF S r v) := by
                  rw [← iI_nat, Int.ofNat_sub (by omega)]
                rw [eg2]
                refine ih (v + 1) v (v - stF S r v) (by omega) (by omega) (by omega) f4' (Or.inr ⟨f3, by omega, by omega, by omega, fun w w1 w2 => ?_, fun w w1 w2 => ?_⟩)
                · by_cases q2 : w = v
                  · rw [q2]
                    omega
                  · rcases f5 with ⟨q3, q4, q5⟩ | ⟨q3, q4, q5, q6, q7, q8⟩
                    · have := q5 w w1 (by omega)
                      omega
                    · have := q7 w w1 (by omega)
                      omega
                · rcases f5 with ⟨q3, q4, q5⟩ | ⟨q3, q4, q5, q6, q7, q8⟩
                  · have := q5 w w1 (by omega)
                    omega
                  · have := q7 w w1 (by omega)
                    omega
              · rw [iI_nat]
                refine ih (v + 1) lvl g (by omega) (by omega) (by omega) f4' ?_
                rcases f5 with ⟨q3, q4, q5⟩ | ⟨q3, q4, q5, q6, q7, q8⟩
                · refine Or.inl ⟨q3, q4, fun w w1 w2 => ?_⟩
                  by_cases q2 : w = v
                  · rw [q2]
                    omega
                  · exact q5 w w1 (by omega)
                · refine Or.inr ⟨q3, by omega, q5, q6, fun w w1 w2 => ?_, q8⟩
                  by_cases q2 : w = v
                  · rw [q2]
                    omega
                  · exact q7 w w1 (by omega)
        exact go 183002 1 0 0 (by omega) (by omega) (Nat.le_refl _) (fun w w1 w2 => by omega) (Or.inl ⟨rfl, rfl, fun w w1 w2 => by omega⟩)
      · rw [if_pos rfl]
        rw [if_neg (by rw [hp]; decide)] at hk
        exact hk
    refine ifd (fun e => ?_) (fun e => ?_)
    · rw [if_pos e] at hK
      exact core none (fun h q => by cases q) e hK
    · rw [if_neg e] at hK
      refine r_isHorse hR hW (fun r' h hr' hh e1 e2 => ?_) (fun g => ?_)
      · have := (nI_eq (by omega) (by omega)).mp e1
        subst this
        subst e2
        rw [ixO_some hh (by omega)] at hK
        rw [if_neg i10]
        exact core (some h) (fun h' q => by cases q; exact hh) rfl hK
      · rw [ixO_none fun j hj => g r j hr hj rfl] at hK
        rw [if_pos rfl]
        exact hK
  · rw [if_pos rfl]
    cases e1 : ixO b 3001 with
    | none => rw [e1] at hK; exact hK
    | some n =>
      obtain ⟨h1, h2⟩ := ixO_inv e1
      rw [e1] at hK
      dsimp only at hK
      rw [if_pos (Nat.le_zero.mp (Nat.le_of_not_lt fun h => g n h (by omega) h2))] at hK
      exact hK
end REFD
