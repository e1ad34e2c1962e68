/-! The reference: together, purse, knew. -/
noncomputable def pN (p : Prop) : Nat := @ite Nat p (Classical.propDecidable p) 1 0
theorem pN_1 {p : Prop} (h : p) : pN p = 1 := by
  unfold pN
  exact if_pos h
theorem pN_0 {p : Prop} (h : ¬ p) : pN p = 0 := by
  unfold pN
  exact if_neg h
theorem pN_le (p : Prop) : pN p ≤ 1 := by
  by_cases h : p
  · rw [pN_1 h]
    exact Nat.le_refl _
  · rw [pN_0 h]
    exact Nat.zero_le _
abbrev onP (S : z_SS) (x r h i : Nat) : Prop := S.1 20 i = x ∧ toWin S i ∧ S.2.1 25 (3 * i + r) = some h
abbrev closeP (S : z_SS) (d i j : Nat) : Prop := S.1 24 i ≤ S.1 24 j + d ∧ S.1 24 j ≤ S.1 24 i + d
/-- bettors x and y have bets on a horse, near one another -/
def nearP (S : z_SS) (x y r h d : Nat) : Prop := ∃ i, i < S.1 0 6 ∧ onP S x r h i ∧ ∃ j, j < S.1 0 6 ∧ onP S y r h j ∧ closeP S d i j
/-- of how many horses -/
noncomputable def togN (S : z_SS) (x y d : Nat) : Nat := sumN (S.1 0 3) (fun r => sumN (S.1 10 r) (fun h => pN (nearP S x y r h d)))
/-- who hangs together with x, and so on -/
def reachP (S : z_SS) (n d x y : Nat) : Prop := ∀ T : Nat → Prop, T x → (∀ a b, T a → a < 16 → b < 16 → a ≠ b → n ≤ togN S a b d → T b) → T y
def isPur (S : z_SS) (n d x m : Nat) : Prop := m < 65536 ∧ ∀ y, m.testBit y = true ↔ (y < 16 ∧ reachP S n d x y)
noncomputable def purS (S : z_SS) (n d x : Nat) : Nat := Classical.epsilon fun m => isPur S n d x m
theorem purS_eq {S : z_SS} {n d x m : Nat} (h : isPur S n d x m) : purS S n d x = m := by
  have h2 : isPur S n d x (purS S n d x) := Classical.epsilon_spec (p := fun m => isPur S n d x m) ⟨m, h⟩
  refine Nat.eq_of_testBit_eq fun y => ?_
  have e1 := h.2 y
  have e2 := h2.2 y
  rw [← e1] at e2
  exact Bool.eq_iff_iff.mpr e2
def spanO (a b : Int32) : Option (Nat × Nat) := match ixO a 25 with
  | none => none
  | some n => if n = 0 then none else match ixO b 600 with
    | none => none
    | some d => some (n, d)
noncomputable def opTogether (S : z_SS) (a b c d : Int32) : Int32 := match ixO a 16 with
  | none => -1
  | some x => match ixO b 16 with
    | none => -1
    | some y => if x = y then -1 else match spanO c d with
      | none => -1
      | some p => if p.1 ≤ togN S x y p.2 then 1 else 0
noncomputable def opPurse (S : z_SS) (a b c : Int32) : Int32 := match ixO a 16 with
  | none => -1
  | some x => match spanO b c with
    | none => -1
    | some p => nI (purS S p.1 p.2 x)
def knT (S : z_SS) (x i : Nat) : Bool := decide (S.1 20 i = x ∧ toWin S i) && (decide (S.1 12 (raceOfS S i) = 1) && !(S.1 11 (raceOfS S i)).testBit (legH S i))
def knM (S : z_SS) (i : Nat) : Bool := match S.2.1 17 (24 * S.1 21 i + 8 * raceOfS S i + legH S i) with
  | some l => decide (l < S.1 26 (3 * i + raceOfS S i))
  | none => false
def opKnew (S : z_SS) (a b : Int32) : Int32 := match ixO a 16 with
  | none => -1
  | some x => match ixO b 2 with
    | none => -1
    | some w => if w = 0 then nI (sumN (S.1 0 6) (fun i => b2n (knT S x i))) else nI (sumN (S.1 0 6) (fun i => b2n (knT S x i && knM S i)))
theorem nI_xorm {b : Nat} (hb : b < 2 ^ 32) : nI b ^^^ -1 = nI (b ^^^ 4294967295) := by
  apply Int32.toBitVec.inj
  apply BitVec.eq_of_toNat_eq
  rw [Int32.toBitVec_xor, BitVec.toNat_xor, pk_tn hb, pk_tn (Nat.xor_lt_two_pow (n := 32) hb (by decide))]
  rfl
theorem nI_andn {a b : Nat} (ha : a < 65536) (hb : b < 65536) : ∃ g, g < 65536 ∧ nI a &&& (nI b ^^^ -1) = nI g ∧ ∀ j, g.testBit j = (a.testBit j && !b.testBit j) := by
  refine ⟨a &&& (b ^^^ 4294967295), Nat.lt_of_le_of_lt Nat.and_le_left ha, ?_, fun j => ?_⟩
  · rw [nI_xorm (by omega), nI_and (by omega) (Nat.xor_lt_two_pow (n := 32) (by omega) (by decide))]
  · rw [Nat.testBit_and, Nat.testBit_xor, show (4294967295 : Nat) = 2 ^ 32 - 1 from rfl, Nat.testBit_two_pow_sub_one]
    by_cases h : j < 32
    · simp [h]
    · have : a.testBit j = false := Nat.testBit_lt_two_pow (Nat.lt_of_lt_of_le (show a < 2 ^ 32 by omega) (Nat.pow_le_pow_right (by decide) (Nat.le_of_not_lt h)))
      rw [this, Bool.false_and, Bool.false_and]
theorem bit_or2 {m y j : Nat} : (m ||| 2 ^ y).testBit j = (m.testBit j || decide (y = j)) := by
  rw [Nat.testBit_or, Nat.testBit_two_pow]
theorem bb1 {a b : Bool} (h : false = (a && !b)) (h2 : b = true → a = true) : a = b := by
  cases a <;> cases b
  · rfl
  · exact h2 rfl
  · cases h
  · rfl
theorem bb2 {a b : Bool} (h : true = (a && !b)) : a = true ∧ b = false := by
  cases a <;> cases b
  · cases h
  · cases h
  · exact ⟨rfl, rfl⟩
  · cases h
theorem or_t {a b : Bool} (h : (a || b) = true) : a = true ∨ b = true := by
  cases a
  · exact Or.inr h
  · exact Or.inl rfl
theorem bit_hi {m j : Nat} (hm : m < 65536) (h : m.testBit j = true) : j < 16 := by
  refine Nat.lt_of_not_le fun g => ?_
  rw [Nat.testBit_lt_two_pow (Nat.lt_of_lt_of_le (show m < 2 ^ 16 from hm) (Nat.pow_le_pow_right (by decide) g))] at h
  cases h
theorem or2_lt {m y : Nat} (hm : m < 65536) (hy : y < 16) : m ||| 2 ^ y < 65536 := Nat.or_lt_two_pow (n := 16) hm (Nat.pow_lt_pow_right (by decide) hy)
section REFF
variable {B : Nat} {S : z_SS} {μ : z_M}
theorem r_near54 (hB : B ≤ 84) (hR : RepR S μ) (hW : WF B S) {x y r h d i : Nat} (hy : y < 2 ^ 31) (hr : r < 3) (hh : h < 2 ^ 31) (hd : d < 600) (hi : i < S.1 0 6) {K : Int32 → z_M → Prop} {P3 : Int32 → Int32 → Int32 → Int32 → Int32 → Int32 → z_M → Prop} (h1 : (∃ j, j < S.1 0 6 ∧ onP S y r h j ∧ closeP S d i j) → K 1 μ) (h0 : (¬ ∃ j, j < S.1 0 6 ∧ onP S y r h j ∧ closeP S d i j) → P3 (nI x) (nI y) (nI r) (nI h) (nI d) (nI i + 1) μ) : L_X12_isNear_54 K P3 (nI x) (nI y) (nI r) (nI h) (nI d) (nI i) 0 μ := by
  have h3 := hW.1
  have hi4 := hW.2.2.2.2.2.2.1 i hi
  unfold L_X12_isNear_54
  intro P54 hP54
  refine downTo (Q := fun j => (∀ k, k < j → ¬ (onP S y r h k ∧ closeP S d i k)) → P54 (nI x) (nI y) (nI r) (nI h) (nI d) (nI i) (nI j) μ) (S.1 0 6) ?_ (fun j hj ih => ?_) 0 (Nat.zero_le _) (fun k hk => absurd hk (Nat.not_lt_zero k))
  · intro hn
    refine hP54 _ _ _ _ _ _ _ _ ?_
    unfold B_X12_isNear_54
    rw [hR.f (k := 6) (by decide) (by decide)]
    exact ifc (nI_leI (by omega) (by omega)) (fun _ => h0 fun ⟨j, hj, g⟩ => hn j hj g) (fun g => absurd (Nat.le_refl _) g)
  · intro hn
    have hj4 := hW.2.2.2.2.2.2.1 j hj
    have nxt : ¬ (onP S y r h j ∧ closeP S d i j) → P54 (nI x) (nI y) (nI r) (nI h) (nI d) (nI i) (nI j + 1) μ := fun g => by
      rw [nI_1]
      refine ih fun k hk => ?_
      rcases Nat.lt_succ_iff_lt_or_eq.mp hk with q | q
      · exact hn k q
      · rw [q]
        exact g
    refine hP54 _ _ _ _ _ _ _ _ ?_
    unfold B_X12_isNear_54
    rw [hR.f (k := 6) (by decide) (by decide)]
    refine ifc (nI_leI (by omega) (by omega)) (fun g => absurd g (by omega)) (fun _ => ?_)
    rw [nI_clamp (n := j) (by omega), hR.a (c := 20) (k := j) rfl]
    refine ⟨nI_vin (by omega) (by omega), ifc (nI_eq (by omega) (by omega)) (fun e1 => ?_) (fun e1 => nxt fun g => e1 g.1.1)⟩
    refine r_isToWin hB hR hW hj (fun e2 => ?_) (fun e2 => by rw [if_pos rfl]; exact nxt fun g => e2 g.1.2.1)
    rw [if_neg i10, r_leg, nI_clamp (n := 3 * j + r) (by omega), hR.o (c := 25) (k := 3 * j + r) rfl]
    refine ⟨nI_vin (by omega) (by omega), ifc (oI_inj (b := some h) (fun n e => by have := wf_leg hW hj hr n e; omega) (fun n e => by cases e; exact hh)) (fun e3 => ?_) (fun e3 => nxt fun g => e3 g.1.2.2)⟩
    rw [nI_clamp (n := i) (by omega), hR.a (c := 24) (k := i) rfl, hR.a (c := 24) (k := j) rfl]
    refine ⟨nI_vin (by omega) (by omega), ?_⟩
    rw [← iI_nat (S.1 24 i), ← iI_nat (S.1 24 j), iI_sub, iI_0sub, ← iI_nat d]
    refine r_lies (fun g1 g2 => ?_) (fun g => ?_)
    · rw [iI_toInt (by omega) (by omega), iI_toInt (by omega) (by omega)] at g1 g2
      rw [if_neg i10]
      exact h1 ⟨j, hj, ⟨e1, e2, e3⟩, by omega, by omega⟩
    · rw [iI_toInt (by omega) (by omega), iI_toInt (by omega) (by omega), iI_toInt (by omega) (by omega)] at g
      rw [if_pos rfl, iI_nat]
      exact nxt fun q => by have := q.2; omega
theorem r_isNear (hB : B ≤ 84) (hR : RepR S μ) (hW : WF B S) {x y r h d : Nat} (hx : x < 2 ^ 31) (hy : y < 2 ^ 31) (hr : r < 3) (hh : h < 2 ^ 31) (hd : d < 600) {K : Int32 → z_M → Prop} (h1 : nearP S x y r h d → K 1 μ) (h0 : ¬ nearP S x y r h d → K 0 μ) : C_X12_isNear (nI x) (nI y) (nI r) (nI h) (nI d) μ K := by
  have h3 := hW.1
  unfold C_X12_isNear L_X12_isNear_3
  intro P3 hP3
  refine downTo (Q := fun i => (∀ k, k < i → ¬ (onP S x r h k ∧ ∃ j, j < S.1 0 6 ∧ onP S y r h j ∧ closeP S d k j)) → P3 (nI x) (nI y) (nI r) (nI h) (nI d) (nI i) μ) (S.1 0 6) ?_ (fun i hi ih => ?_) 0 (Nat.zero_le _) (fun k hk => absurd hk (Nat.not_lt_zero k))
  · intro hn
    refine hP3 _ _ _ _ _ _ _ ?_
    unfold B_X12_isNear_3
    rw [hR.f (k := 6) (by decide) (by decide)]
    exact ifc (nI_leI (by omega) (by omega)) (fun _ => h0 fun ⟨i, hi, g⟩ => hn i hi g) (fun g => absurd (Nat.le_refl _) g)
  · intro hn
    have hi4 := hW.2.2.2.2.2.2.1 i hi
    have nxt : ¬ (onP S x r h i ∧ ∃ j, j < S.1 0 6 ∧ onP S y r h j ∧ closeP S d i j) → P3 (nI x) (nI y) (nI r) (nI h) (nI d) (nI i + 1) μ := fun g => by
      rw [nI_1]
      refine ih fun k hk => ?_
      rcases Nat.lt_succ_iff_lt_or_eq.mp hk with q | q
      · exact hn k q
      · rw [q]
        exact g
    refine hP3 _ _ _ _ _ _ _ ?_
    unfold B_X12_isNear_3
    rw [hR.f (k := 6) (by decide) (by decide)]
    refine ifc (nI_leI (by omega) (by omega)) (fun g => absurd g (by omega)) (fun _ => ?_)
    rw [nI_clamp (n := i) (by omega), hR.a (c := 20) (k := i) rfl]
    refine ⟨nI_vin (by omega) (by omega), ifc (nI_eq (by omega) (by omega)) (fun e1 => ?_) (fun e1 => nxt fun g => e1 g.1.1)⟩
    refine r_isToWin hB hR hW hi (fun e2 => ?_) (fun e2 => by rw [if_pos rfl]; exact nxt fun g => e2 g.1.2.1)
    rw [if_neg i10, r_leg, nI_clamp (n := 3 * i + r) (by omega), hR.o (c := 25) (k := 3 * i + r) rfl]
    refine ⟨nI_vin (by omega) (by omega), ifc (oI_inj (b := some h) (fun n e => by have := wf_leg hW hi hr n e; omega) (fun n e => by cases e; exact hh)) (fun e3 => ?_) (fun e3 => nxt fun g => e3 g.1.2.2)⟩
    exact r_near54 hB hR hW hy hr hh hd hi (fun g => h1 ⟨i, hi, ⟨e1, e2, e3⟩, g⟩) (fun g => nxt fun q => g q.2)
theorem r_tog18 (hB : B ≤ 84) (hR : RepR S μ) (hW : WF B S) {x y n d m r : Nat} (hx : x < 2 ^ 31) (hy : y < 2 ^ 31) (hr : r < S.1 0 3) (hd : d < 600) {K : Int32 → z_M → Prop} {P6 : Int32 → Int32 → Int32 → Int32 → Int32 → Int32 → z_M → Prop} (hc : P6 (nI x) (nI y) (nI n) (nI d) (nI (m + sumN (S.1 10 r) (fun h => pN (nearP S x y r h d)))) (nI r + 1) μ) : L_X12_areTogether_18 K P6 (nI x) (nI y) (nI n) (nI d) (nI m) (nI r) 0 μ := by
  have h3 := hW.1
  have h4 := hW.2.2.1 r hr
  unfold L_X12_areTogether_18
  intro P18 hP18
  have go := downTo (Q := fun h => P18 (nI x) (nI y) (nI n) (nI d) (nI (m + sumN h (fun h => pN (nearP S x y r h d)))) (nI r) (nI h) μ) (S.1 10 r) ?_ (fun h hh ih => ?_) 0 (Nat.zero_le _)
  · exact go
  · refine hP18 _ _ _ _ _ _ _ _ ?_
    unfold B_X12_areTogether_18
    rw [nI_clamp (n := r) (by omega), hR.a (c := 10) rfl]
    exact ⟨nI_vin (by omega) (by omega), ifc (nI_leI (by omega) (by omega)) (fun _ => hc) (fun g => absurd (Nat.le_refl _) g)⟩
  · refine hP18 _ _ _ _ _ _ _ _ ?_
    unfold B_X12_areTogether_18
    rw [nI_clamp (n := r) (by omega), hR.a (c := 10) rfl]
    refine ⟨nI_vin (by omega) (by omega), ifc (nI_leI (by omega) (by omega)) (fun g => absurd g (by omega)) (fun _ => ?_)⟩
    have ih : P18 (nI x) (nI y) (nI n) (nI d) (nI (m + (sumN h (fun h => pN (nearP S x y r h d)) + pN (nearP S x y r h d)))) (nI r) (nI h + 1) μ := by
      rw [nI_1]
      exact ih
    refine r_isNear hB hR hW hx hy (by omega) (by omega) hd (fun e => ?_) (fun e => ?_)
    · rw [if_neg i10, nI_1, Nat.add_assoc]
      rw [pN_1 e] at ih
      exact ih
    · rw [if_pos rfl, nI_0a]
      rw [pN_0 e, Nat.add_zero] at ih
      exact ih
theorem togN_le (hW : WF B S) {x y d : Nat} : togN S x y d ≤ 24 := by
  have h3 := hW.1
  refine Nat.le_trans (sumN_le (c := 8) fun r hr => ?_) (by omega)
  have h4 := hW.2.2.1 r hr
  refine Nat.le_trans (sumN_le (c := 1) fun h _ => pN_le _) (by omega)
theorem r_areTogether (hB : B ≤ 84) (hR : RepR S μ) (hW : WF B S) {x y n d : Nat} (hx : x < 2 ^ 31) (hy : y < 2 ^ 31) (hn : n < 2 ^ 31) (hd : d < 600) {K : Int32 → z_M → Prop} (h1 : n ≤ togN S x y d → K 1 μ) (h0 : ¬ n ≤ togN S x y d → K 0 μ) : C_X12_areTogether (nI x) (nI y) (nI n) (nI d) μ K := by
  have h3 := hW.1
  have h5 := togN_le hW (x := x) (y := y) (d := d)
  unfold C_X12_areTogether L_X12_areTogether_6
  intro P6 hP6
  have go := downTo (Q := fun r => P6 (nI x) (nI y) (nI n) (nI d) (nI (sumN r (fun r => sumN (S.1 10 r) (fun h => pN (nearP S x y r h d))))) (nI r) μ) (S.1 0 3) ?_ (fun r hr ih => ?_) 0 (Nat.zero_le _)
  · exact go
  · refine hP6 _ _ _ _ _ _ _ ?_
    unfold B_X12_areTogether_6
    rw [hR.f (k := 3) (by decide) (by decide)]
    refine ifc (nI_leI (by omega) (by omega)) (fun _ => ?_) (fun g => absurd (Nat.le_refl _) g)
    unfold togN at h1 h0 h5
    exact ifc (nI_ltI (by omega) hn) (fun g => h0 (by omega)) (fun g => h1 (by omega))
  · refine hP6 _ _ _ _ _ _ _ ?_
    unfold B_X12_areTogether_6
    rw [hR.f (k := 3) (by decide) (by decide)]
    refine ifc (nI_leI (by omega) (by omega)) (fun g => absurd g (by omega)) (fun _ => ?_)
    refine r_tog18 hB hR hW hx hy hr hd ?_
    rw [nI_1]
    exact ih
theorem r_isSpan {a b : Int32} {K : Int32 → z_M → Prop} (h1 : ∀ n d, 1 ≤ n → n ≤ 24 → d < 600 → a = nI n → b = nI d → spanO a b = some (n, d) → K 1 μ) (h0 : spanO a b = none → K 0 μ) : C_X12_isSpan a b μ K := by
  unfold C_X12_isSpan
  unfold spanO at h1 h0
  refine r_liesC (lo := 1) (hi := 24) (x := 1) (y := 24) rfl rfl (by decide) (by decide) (fun n n1 n2 ea => ?_) (fun g => ?_)
  · subst ea
    rw [ixO_some (show n < 25 by omega) (by decide)] at h1 h0
    dsimp only at h1 h0
    rw [if_neg (by omega)] at h1 h0
    rw [if_neg i10]
    refine r_liesC (lo := 0) (hi := 599) (x := 0) (y := 599) rfl rfl (by decide) (by decide) (fun d d1 d2 eb => ?_) (fun g => ?_)
    · subst eb
      rw [ixO_some (show d < 600 by omega) (by decide)] at h1
      rw [if_neg i10]
      exact h1 n d n1 n2 (by omega) rfl rfl rfl
    · rw [if_pos rfl]
      refine h0 ?_
      rw [ixO_none fun j hj => g j (Nat.zero_le _) (by omega)]
  · rw [if_pos rfl]
    refine h0 ?_
    cases e1 : ixO a 25 with
    | none => rfl
    | some n =>
      obtain ⟨g1, g2⟩ := ixO_inv e1
      dsimp only
      rw [if_pos (Nat.le_zero.mp (Nat.le_of_not_lt fun h => g n h (by omega) g2))]
theorem r_together (hB : B ≤ 84) (hR : RepR S μ) (hW : WF B S) {a b c d : Int32} {K : Int32 → z_M → Prop} (hK : K (opTogether S a b c d) μ) : C_X12_together a b c d μ K := by
  unfold C_X12_together
  unfold opTogether at hK
  refine r_isBettor (fun x hx e => ?_) (fun g => by rw [if_pos rfl]; rw [g] at hK; exact hK)
  subst e
  rw [ixO_some hx (by decide)] at hK
  dsimp only at hK
  rw [if_neg i10]
  refine r_isBettor (fun y hy e => ?_) (fun g => by rw [if_pos rfl]; rw [g] at hK; exact hK)
  subst e
  rw [ixO_some hy (by decide)] at hK
  dsimp only at hK
  rw [if_neg i10]
  refine ifc (nI_eq (by omega) (by omega)) (fun e => by rw [if_pos e] at hK; exact hK) (fun e => ?_)
  rw [if_neg e] at hK
  refine r_isSpan (fun n dd n1 n2 hd e1 e2 es => ?_) (fun g => by rw [if_pos rfl]; rw [g] at hK; exact hK)
  subst e1
  subst e2
  rw [es] at hK
  dsimp only at hK
  rw [if_neg i10]
  refine r_areTogether hB hR hW (by omega) (by omega) (by omega) hd (fun g => ?_) (fun g => ?_)
  · rw [if_neg i10]
    rw [if_pos g] at hK
    exact hK
  · rw [if_pos rfl]
    rw [if_neg g] at hK
    exact hK
theorem r_purse (hB : B ≤ 84) (hR : RepR S μ) (hW : WF B S) {a b c : Int32} {K : Int32 → z_M → Prop} (hK : K (opPurse S a b c) μ) : C_X12_purse a b c μ K := by
  unfold C_X12_purse
  unfold opPurse at hK
  refine r_isBettor (fun x hx e => ?_) (fun g => by rw [if_pos rfl]; rw [g] at hK; exact hK)
  subst e
  rw [ixO_some hx (by decide)] at hK
  dsimp only at hK
  rw [if_neg i10]
  refine r_isSpan (fun n d n1 n2 hd e1 e2 es => ?_) (fun g => by rw [if_pos rfl]; rw [g] at hK; exact hK)
  subst e1
  subst e2
  rw [es] at hK
  dsimp only at hK
  rw [if_neg i10, nI_1shl ⟨x, by omega⟩]
  unfold L_X12_purse_25
  intro P25 hP25
  have go : ∀ fuel set asked, 65536 ≤ fuel + asked → set < 65536 → asked < 65536 → (∀ j, asked.testBit j = true → set.testBit j = true) → set.testBit x = true → (∀ j, set.testBit j = true → reachP S n d x j) → (∀ p y, asked.testBit p = true → y < 16 → p ≠ y → n ≤ togN S p y d → set.testBit y = true) → P25 (nI n) (nI d) (nI set) (nI asked) μ := by
    intro fuel
    induction fuel with
    | zero => intro set asked f1 f2 f3; omega
    | succ fuel ih =>
      intro set asked f1 f2 f3 f4 f5 f6 f7
      refine hP25 _ _ _ _ _ ?_
      unfold B_X12_purse_25
      refine ifc (nI_eq (by omega) (by omega)) (fun e => ?_) (fun e => ?_)
      · subst e
        have hp : isPur S n d x set := ⟨f2, fun y => ⟨fun hy => ⟨bit_hi f2 hy, f6 y hy⟩, fun hy => hy.2 (fun j => set.testBit j = true) f5 (fun p q hp hp1 hq hpq ht => f7 p q hp hq hpq ht)⟩⟩
        rw [purS_eq hp] at hK
        exact hK
      · obtain ⟨g, g1, g2, g3⟩ := nI_andn f2 f3
        unfold L_X12_purse_35
        intro P35 hP35
        refine downTo (Q := fun p => (∀ j, j < p → g.testBit j = false) → P35 (nI n) (nI d) (nI set) (nI asked) (nI p) μ) 16 ?_ (fun p hp ihp => ?_) 0 (Nat.zero_le _) (fun k hk => absurd hk (Nat.not_lt_zero k))
        · intro hz
          refine absurd (Nat.eq_of_testBit_eq fun j => ?_) e
          have q1 := g3 j
          have q2 := f4 j
          by_cases hj : j < 16
          · rw [hz j hj] at q1
            exact bb1 q1 q2
          · cases e1 : set.testBit j with
            | true => exact absurd (bit_hi f2 e1) hj
            | false =>
              cases e2 : asked.testBit j with
              | true => exact absurd (bit_hi f3 e2) hj
              | false => rfl
        · intro hz
          refine hP35 _ _ _ _ _ _ ?_
          unfold B_X12_purse_35
          rw [g2]
          refine r_hasBit (by omega) (by omega) (fun eb => ?_) (fun eb => ?_)
          · rw [if_neg i10, nI_1shl ⟨p, by omega⟩, nI_or (by omega) (Nat.pow_lt_pow_right (by decide) (by show p < 32; omega))]
            have q1 := g3 p
            rw [eb] at q1
            have q2 := bb2 q1
            have hgt : asked < asked ||| 2 ^ p := by
              have h1 : asked ≤ asked ||| 2 ^ p := Nat.left_le_or
              have h2 : asked ≠ asked ||| 2 ^ p := fun e => by
                have := congrArg (fun m => m.testBit p) e
                rw [bit_or2, q2.2] at this
                simp at this
              omega
            unfold L_X12_purse_68
            intro P68 hP68
            have go2 : ∀ y, y ≤ 16 → ∀ s2, s2 < 65536 → (∀ j, set.testBit j = true → s2.testBit j = true) → (∀ j, s2.testBit j = true → reachP S n d x j) → (∀ z, z < y → p ≠ z → n ≤ togN S p z d → s2.testBit z = true) → P68 (nI n) (nI d) (nI s2) (nI (asked ||| 2 ^ p)) (nI p) (nI y) μ := by
              refine downTo 16 ?_ (fun y hy ihy => ?_)
              · intro s2 t1 t2 t3 t4
                refine hP68 _ _ _ _ _ _ _ ?_
                unfold B_X12_purse_68
                refine ifc (nI_leI (a := 16) (by decide) (by decide)) (fun _ => ?_) (fun g => absurd (Nat.le_refl _) g)
                refine ih s2 (asked ||| 2 ^ p) (by omega) t1 (or2_lt f3 hp) (fun j hj => ?_) (t2 x f5) t3 (fun p' y' hp' hy' hne ht => ?_)
                · rw [bit_or2] at hj
                  rcases or_t hj with q | q
                  · exact t2 j (f4 j q)
                  · have := of_decide_eq_true q
                    subst this
                    exact t2 p q2.1
                · rw [bit_or2] at hp'
                  rcases or_t hp' with q | q
                  · exact t2 y' (f7 p' y' q hy' hne ht)
                  · have := of_decide_eq_true q
                    subst this
                    exact t4 y' hy' hne ht
              · intro s2 t1 t2 t3 t4
                refine hP68 _ _ _ _ _ _ _ ?_
                unfold B_X12_purse_68
                refine ifc (nI_leI (a := 16) (by decide) (by omega)) (fun g => absurd g (by omega)) (fun _ => ?_)
                refine r_hasBit (by omega) (by omega) (fun eb2 => ?_) (fun eb2 => ?_)
                · rw [if_neg i10, nI_1]
                  refine ihy s2 t1 t2 t3 (fun z hz hne ht => ?_)
                  rcases Nat.lt_succ_iff_lt_or_eq.mp hz with q | q
                  · exact t4 z q hne ht
                  · rw [q]
                    exact eb2
                · rw [if_pos rfl]
                  refine r_areTogether hB hR hW (by omega) (by omega) (by omega) hd (fun ht => ?_) (fun ht => ?_)
                  · rw [if_neg i10, nI_1shl ⟨y, by omega⟩, nI_or (by omega) (Nat.pow_lt_pow_right (by decide) (by show y < 32; omega)), nI_1]
                    refine ihy (s2 ||| 2 ^ y) (or2_lt t1 hy) (fun j hj => by rw [bit_or2, t2 j hj]; rfl) (fun j hj => ?_) (fun z hz hne hz2 => ?_)
                    · rw [bit_or2] at hj
                      rcases or_t hj with q | q
                      · exact t3 j q
                      · have := of_decide_eq_true q
                        subst this
                        have hpr := t3 p (t2 p q2.1)
                        refine fun T hT hcl => hcl p y (hpr T hT hcl) hp hy (fun e => ?_) ht
                        subst e
                        rw [t2 p q2.1] at eb2
                        cases eb2
                    · rw [bit_or2]
                      rcases Nat.lt_succ_iff_lt_or_eq.mp hz with q | q
                      · rw [t4 z q hne hz2]
                        rfl
                      · rw [q]
                        simp
                  · rw [if_pos rfl, nI_1]
                    refine ihy s2 t1 t2 t3 (fun z hz hne hz2 => ?_)
                    rcases Nat.lt_succ_iff_lt_or_eq.mp hz with q | q
                    · exact t4 z q hne hz2
                    · rw [q] at hz2
                      exact absurd hz2 ht
            exact go2 0 (Nat.zero_le _) set f2 (fun j hj => hj) f6 (fun z hz => absurd hz (Nat.not_lt_zero z))
          · rw [if_pos rfl, nI_1]
            refine ihp fun j hj => ?_
            rcases Nat.lt_succ_iff_lt_or_eq.mp hj with q | q
            · exact hz j q
            · rw [q]
              exact eb
  refine go 65536 (2 ^ x) 0 (by omega) (Nat.pow_lt_pow_right (by decide) hx) (by decide) (fun j hj => by simp at hj) (by rw [Nat.testBit_two_pow]; simp) (fun j hj => ?_) (fun p y hp => by simp at hp)
  rw [Nat.testBit_two_pow] at hj
  have := of_decide_eq_true hj
  subst this
  exact fun T hT _ => hT
theorem r_knew (hB : B ≤ 84) (hR : RepR S μ) (hW : WF B S) {a b : Int32} {K : Int32 → z_M → Prop} (hK : K (opKnew S a b) μ) : C_X12_knew a b μ K := by
  have h3 := hW.1
  unfold C_X12_knew
  unfold opKnew at hK
  refine r_isBettor (fun x hx e => ?_) (fun g => by rw [if_pos rfl]; rw [g] at hK; exact hK)
  subst e
  rw [ixO_some hx (by decide)] at hK
  dsimp only at hK
  rw [if_neg i10]
  refine r_liesC (lo := 0) (hi := 1) (x := 0) (y := 1) rfl rfl (by decide) (by decide) (fun w _ w2 eb => ?_) (fun g => ?_)
  · subst eb
    rw [ixO_some (show w < 2 by omega) (by decide)] at hK
    dsimp only at hK
    rw [if_neg i10]
    unfold L_X12_knew_27
    intro P hP
    have go := downTo (Q := fun i => P (nI x) (nI w) (nI (sumN i (fun i => b2n (knT S x i)))) (nI (sumN i (fun i => b2n (knT S x i && knM S i)))) (nI i) μ) (S.1 0 6) ?_ (fun i hi ih => ?_) 0 (Nat.zero_le _)
    · exact go
    · refine hP _ _ _ _ _ _ ?_
      unfold B_X12_knew_27
      rw [hR.f (k := 6) (by decide) (by decide)]
      refine ifc (nI_leI (by omega) (by omega)) (fun _ => ?_) (fun g => absurd (Nat.le_refl _) g)
      exact ifc (nI_eq (b := 0) (by omega) (by omega)) (fun e => by rw [if_pos e] at hK; exact hK) (fun e => by rw [if_neg e] at hK; exact hK)
    · have hi4 := hW.2.2.2.2.2.2.1 i hi
      have hro := raceOfS_ok hW hi
      have hlg := wf_leg3 hB hW hi hro.1 hro.2
      have ih : P (nI x) (nI w) (nI (sumN i (fun i => b2n (knT S x i)) + b2n (knT S x i))) (nI (sumN i (fun i => b2n (knT S x i && knM S i)) + b2n (knT S x i && knM S i))) (nI i + 1) μ := by
        rw [nI_1]
        exact ih
      have no : knT S x i = false → P (nI x) (nI w) (nI (sumN i (fun i => b2n (knT S x i)))) (nI (sumN i (fun i => b2n (knT S x i && knM S i)))) (nI i + 1) μ := fun e => by
        rw [e] at ih
        exact ih
      refine hP _ _ _ _ _ _ ?_
      unfold B_X12_knew_27 L_X12_knew_162
      rw [hR.f (k := 6) (by decide) (by decide)]
      refine ifc (nI_leI (by omega) (by omega)) (fun g => absurd g (by omega)) (fun _ => ?_)
      rw [nI_clamp (n := i) (by omega), hR.a (c := 20) (k := i) rfl]
      refine ⟨nI_vin (by omega) (by omega), ifc (nI_eq (by omega) (by omega)) (fun e1 => ?_) (fun e1 => no (by unfold knT; rw [decide_eq_false (fun g => e1 g.1)]; rfl))⟩
      refine r_isToWin hB hR hW hi (fun e2 => ?_) (fun e2 => by rw [if_pos rfl]; exact no (by unfold knT; rw [decide_eq_false (fun g => e2 g.2)]; rfl))
      rw [if_neg i10]
      refine r_raceOf hB hR hW hi ?_
      have h4 := hW.2.2.1 _ hlg.1
      rw [r_leg, nI_clamp (n := raceOfS S i) (by omega), nI_clamp (n := 3 * i + raceOfS S i) (by omega), hR.a (c := 12) rfl]
      refine ⟨nI_vin (by omega) (by omega), nI_vin (by omega) (by omega), ifc (nI_eq (b := 0) (by omega) (by omega)) (fun e3 => no (by unfold knT; rw [decide_eq_true (And.intro e1 e2), decide_eq_false (by omega)]; rfl)) (fun e3 => ?_)⟩
      rw [hR.a (c := 11) rfl, hR.o (c := 25) (k := 3 * i + raceOfS S i) rfl, hro.2, oI_some]
      refine r_hasBit (by omega) (by omega) (fun e4 => by rw [if_neg i10]; exact no (by unfold knT; rw [e4]; simp)) (fun e4 => ?_)
      rw [if_pos rfl, hR.a (c := 21) (k := i) rfl]
      refine r_cellOf ?_
      have yes : knT S x i = true := by
        unfold knT
        rw [decide_eq_true (And.intro e1 e2), decide_eq_true (show S.1 12 (raceOfS S i) = 1 by omega), e4]
        rfl
      rw [yes, Bool.true_and] at ih
      rw [nI_clamp (n := 24 * S.1 21 i + 8 * raceOfS S i + legH S i) (by omega), hR.o (c := 17) rfl, nI_1, nI_0a]
      refine ⟨nI_vin (by omega) (by omega), ?_⟩
      unfold knM at ih
      cases es : S.2.1 17 (24 * S.1 21 i + 8 * raceOfS S i + legH S i) with
      | none =>
        rw [es] at ih
        rw [if_pos oI_none]
        exact ih
      | some s =>
        rw [es] at ih
        dsimp only at ih
        have hs := (wf17 hW (by omega) es).1
        rw [if_neg (show ¬ oI (some s) = -1 from nI_ne_m1 (by omega)), oI_some, hR.a (c := 26) (k := 3 * i + raceOfS S i) rfl (show _ < _ ∧ _ ≠ _ from ⟨by omega, by rw [hro.2]; exact fun q => by cases q⟩)]
        refine ifc (nI_leI (by omega) (by omega)) (fun g => ?_) (fun g => ?_)
        · rw [decide_eq_false (by omega)] at ih
          exact ih
        · rw [decide_eq_true (by omega)] at ih
          rw [nI_1]
          exact ih
  · rw [if_pos rfl]
    rw [ixO_none fun j hj => g j (Nat.zero_le _) (by omega)] at hK
    exact hK
end REFF
