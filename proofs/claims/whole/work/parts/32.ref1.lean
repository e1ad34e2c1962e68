/-! The reference's small questions. -/
theorem bit_shift : ∀ h : Fin 31, ((nI h &&& 31).toBitVec.smod 32).toNat = h := by decide +kernel
theorem nI_bit {g h : Nat} (hg : g < 2 ^ 31) (hh : h < 31) : ((nI g >>> (nI h &&& 31)) &&& 1 = 1) ↔ g.testBit h = true := by
  rw [pk_shrN hg _ h (bit_shift ⟨h, hh⟩), pk_andN (n := g / 2 ^ h) (by have := Nat.div_le_self g (2 ^ h); omega) 1 rfl]
  have h1 : (1 : Int32) = nI 1 := rfl
  rw [h1, nI_eq (by omega) (by omega), Nat.testBit_eq_decide_div_mod_eq]
  simp
theorem lies_lo {x : Int32} {n : Nat} (hn : n < 2 ^ 31) (h : (x.toInt64 < (0 : Int64))) : ∀ j, j < n → x ≠ nI j := by
  intro j hj e
  rw [e, nI_l (by omega)] at h
  have := (lN_lt (a := j) (b := 0) (by omega) (by omega)).mp h
  omega
theorem toI64_lt {x y : Int32} : x.toInt64 < y.toInt64 ↔ x.toInt < y.toInt := by
  rw [Int64.lt_iff_toInt_lt, Int32.toInt_toInt64, Int32.toInt_toInt64]
theorem r_lies {a lo hi : Int32} {μ : z_M} {K : Int32 → z_M → Prop} (h1 : lo.toInt ≤ a.toInt → a.toInt ≤ hi.toInt → K 1 μ) (h0 : (a.toInt < lo.toInt ∨ hi.toInt < a.toInt) → K 0 μ) : C_X12_lies a.toInt64 lo.toInt64 hi.toInt64 μ K := by
  unfold C_X12_lies
  exact ifc toI64_lt (fun h => h0 (Or.inl h)) fun h => ifc toI64_lt (fun h => h0 (Or.inr h)) fun h2 => h1 (by omega) (by omega)
/-- below a count -/
theorem r_liesN {a : Int32} {n : Nat} (hn : n < 2 ^ 31) {μ : z_M} {K : Int32 → z_M → Prop} (h1 : ∀ j, j < n → a = nI j → K 1 μ) (h0 : (∀ j, j < n → a ≠ nI j) → K 0 μ) : C_X12_lies a.toInt64 0 ((nI n - 1).toInt64) μ K := by
  have e : (nI n - 1).toInt = (n : Int) - 1 := by
    cases n with
    | zero => decide
    | succ n =>
      rw [nI_pred, nI_toInt (by omega)]
      omega
  refine r_lies (lo := 0) (fun g1 g2 => ?_) (fun g => h0 fun j hj ea => ?_)
  · have z : (0 : Int32).toInt = 0 := by decide
    rw [z] at g1
    rw [e] at g2
    refine h1 a.toInt.toNat (by omega) ?_
    rw [← iI_nat, Int.toNat_of_nonneg g1]
    exact iI_of a
  · have z : (0 : Int32).toInt = 0 := by decide
    rw [z, e, ea, nI_toInt (by omega)] at g
    omega
/-- between two written numbers -/
theorem r_liesC {a : Int32} {lo hi : Nat} {x y : Int32} (hx : x = nI lo) (hy : y = nI hi) (hl : lo < 2 ^ 31) (hh : hi < 2 ^ 31) {μ : z_M} {K : Int32 → z_M → Prop} (h1 : ∀ j, lo ≤ j → j ≤ hi → a = nI j → K 1 μ) (h0 : (∀ j, lo ≤ j → j ≤ hi → a ≠ nI j) → K 0 μ) : C_X12_lies a.toInt64 x.toInt64 y.toInt64 μ K := by
  subst hx; subst hy
  refine r_lies (fun g1 g2 => ?_) (fun g => h0 fun j h3 h4 ea => ?_)
  · rw [nI_toInt hl] at g1
    rw [nI_toInt hh] at g2
    refine h1 a.toInt.toNat (by omega) (by omega) ?_
    rw [← iI_nat, Int.toNat_of_nonneg (by omega)]
    exact iI_of a
  · rw [ea, nI_toInt (by omega), nI_toInt hl, nI_toInt hh] at g
    omega
/-- NONE, or below a count -/
theorem r_liesO {a : Int32} {n : Nat} (hn : n < 2 ^ 31) {μ : z_M} {K : Int32 → z_M → Prop} (h1 : ∀ o : Option Nat, (∀ j, o = some j → j < n) → a = oI o → K 1 μ) (h0 : (∀ o : Option Nat, (∀ j, o = some j → j < n) → a ≠ oI o) → K 0 μ) : C_X12_lies a.toInt64 (-1) ((nI n - 1).toInt64) μ K := by
  have e : (nI n - 1).toInt = (n : Int) - 1 := by
    cases n with
    | zero => decide
    | succ n =>
      rw [nI_pred, nI_toInt (by omega)]
      omega
  have z : (-1 : Int32).toInt = -1 := by decide
  refine r_lies (lo := -1) (fun g1 g2 => ?_) (fun g => h0 fun o ho ea => ?_)
  · rw [z] at g1
    rw [e] at g2
    by_cases h : a.toInt < 0
    · refine h1 none (fun j h => by cases h) ?_
      rw [iI_of a, show a.toInt = -1 by omega]
      rfl
    · refine h1 (some a.toInt.toNat) (fun j h => by cases h; omega) ?_
      rw [oI_some, ← iI_nat, Int.toNat_of_nonneg (by omega)]
      exact iI_of a
  · rw [z, e, ea] at g
    cases o with
    | none =>
      rw [oI_none, z] at g
      omega
    | some j =>
      rw [oI_some, nI_toInt (by have := ho j rfl; omega)] at g
      have := ho j rfl
      omega
section REF
variable {B : Nat} {S : z_SS} {μ : z_M}
theorem r_isRace (hR : RepR S μ) (hW : WF B S) {a : Int32} {K : Int32 → z_M → Prop} (h1 : ∀ r, r < S.1 0 3 → a = nI r → K 1 μ) (h0 : (∀ r, r < S.1 0 3 → a ≠ nI r) → K 0 μ) : C_X12_isRace a μ K := by
  unfold C_X12_isRace
  rw [hR.f (k := 3) (by decide) (by decide)]
  exact r_liesN (by have := hW.1; omega) h1 h0
theorem r_isBook (hR : RepR S μ) (hW : WF B S) {a : Int32} {K : Int32 → z_M → Prop} (h1 : ∀ b, b < S.1 0 4 → a = nI b → K 1 μ) (h0 : (∀ b, b < S.1 0 4 → a ≠ nI b) → K 0 μ) : C_X12_isBook a μ K := by
  unfold C_X12_isBook
  rw [hR.f (k := 4) (by decide) (by decide)]
  exact r_liesN (by have := hW.1; omega) h1 h0
theorem r_isBet (hB : B ≤ 84) (hR : RepR S μ) (hW : WF B S) {a : Int32} {K : Int32 → z_M → Prop} (h1 : ∀ i, i < S.1 0 6 → a = nI i → K 1 μ) (h0 : (∀ i, i < S.1 0 6 → a ≠ nI i) → K 0 μ) : C_X12_isBet a μ K := by
  unfold C_X12_isBet
  rw [hR.f (k := 6) (by decide) (by decide)]
  exact r_liesN (by have := hW.1; omega) h1 h0
theorem r_isHorse (hR : RepR S μ) (hW : WF B S) {a b : Int32} {K : Int32 → z_M → Prop} (h1 : ∀ r h, r < S.1 0 3 → h < S.1 10 r → a = nI r → b = nI h → K 1 μ) (h0 : (∀ r h, r < S.1 0 3 → h < S.1 10 r → a = nI r → b ≠ nI h) → K 0 μ) : C_X12_isHorse a b μ K := by
  unfold C_X12_isHorse
  refine r_isRace hR hW (fun r hr ea => ?_) (fun g => ?_)
  · have h3 := hW.1
    have h4 := hW.2.2.1 r hr
    subst ea
    rw [if_neg i10, nI_clamp (by omega), hR.a (c := 10) rfl]
    refine ⟨nI_vin (by omega) (by omega), r_liesN (by omega) (fun h hh eb => ?_) (fun g => ?_)⟩
    · rw [if_neg i10]
      exact h1 r h hr hh rfl eb
    · rw [if_pos rfl]
      refine h0 fun r' h' hr' hh' er => ?_
      have := (nI_eq (by omega) (by omega)).mp er
      subst this
      exact g h' hh'
  · rw [if_pos rfl]
    exact h0 fun r h hr hh ea => absurd ea (g r hr)
theorem r_hasBit {g h : Nat} (hg : g < 2 ^ 31) (hh : h < 31) {K : Int32 → z_M → Prop} (h1 : g.testBit h = true → K 1 μ) (h0 : g.testBit h = false → K 0 μ) : C_X12_hasBit (nI g) (nI h) μ K := by
  unfold C_X12_hasBit
  exact ifc (nI_bit hg hh) h1 fun hb => h0 (by simpa using hb)
theorem r_runs (hR : RepR S μ) (hW : WF B S) {a b : Int32} {K : Int32 → z_M → Prop} (h1 : ∀ r h, runsS S r h → a = nI r → b = nI h → K 1 μ) (h0 : (∀ r h, runsS S r h → a = nI r → b ≠ nI h) → K 0 μ) : C_X12_runs a b μ K := by
  unfold C_X12_runs
  refine r_isHorse hR hW (fun r h hr hh ea eb => ?_) (fun g => ?_)
  · have h3 := hW.1
    have h4 := hW.2.2.1 r hr
    subst ea
    subst eb
    rw [if_neg i10, nI_clamp (by omega), hR.a (c := 11) rfl]
    refine ⟨nI_vin (by omega) (by omega), r_hasBit (by omega) (by omega) (fun hb => ?_) (fun hb => ?_)⟩
    · rw [if_neg i10]
      refine h0 fun r' h' hx er eh => ?_
      have e1 := (nI_eq (by omega) (by have := hx.1; omega)).mp er
      subst e1
      have e2 := (nI_eq (by omega) (by have := hx.2.1; omega)).mp eh
      subst e2
      rw [hx.2.2] at hb
      cases hb
    · rw [if_pos rfl]
      exact h1 r h ⟨hr, hh, hb⟩ rfl rfl
  · rw [if_pos rfl]
    exact h0 fun r h hx ea => g r h hx.1 hx.2.1 ea
/-- of a horse that is known by its numbers -/
theorem r_runsN (hR : RepR S μ) (hW : WF B S) {r h : Nat} (hr : r < 2 ^ 31) (hh : h < 2 ^ 31) {K : Int32 → z_M → Prop} (h1 : runsS S r h → K 1 μ) (h0 : ¬ runsS S r h → K 0 μ) : C_X12_runs (nI r) (nI h) μ K := by
  have h3 := hW.1
  refine r_runs hR hW (fun r' h' hx e1 e2 => ?_) (fun g => h0 fun hx => g r h hx rfl rfl)
  have h4 := hW.2.2.1 r' hx.1
  have := (nI_eq hr (by have := hx.1; omega)).mp e1
  subst this
  have := (nI_eq hh (by have := hx.2.1; omega)).mp e2
  subst this
  exact h1 hx
theorem nI_mul (a b : Nat) : nI a * nI b = nI (a * b) := pk_mul a b
theorem r_cell {b r h : Nat} : ((24 : Int32) * nI b) + ((8 : Int32) * nI r) + nI h = nI (24 * b + 8 * r + h) := by
  rw [show (24 : Int32) = nI 24 from rfl, show (8 : Int32) = nI 8 from rfl, nI_mul, nI_mul, nI_add, nI_add]
theorem r_leg {i r : Nat} : ((3 : Int32) * nI i) + nI r = nI (3 * i + r) := by
  rw [show (3 : Int32) = nI 3 from rfl, nI_mul, nI_add]
theorem r_isToWin (hB : B ≤ 84) (hR : RepR S μ) (hW : WF B S) {i : Nat} (hi : i < S.1 0 6) {K : Int32 → z_M → Prop} (h1 : toWin S i → K 1 μ) (h0 : ¬ toWin S i → K 0 μ) : C_X12_isToWin (nI i) μ K := by
  have h3 := hW.1
  have h4 := hW.2.2.2.2.2.2.1 i hi
  unfold C_X12_isToWin
  rw [nI_clamp (by omega), hR.a (c := 22) rfl]
  refine ⟨nI_vin (by omega) (by omega), ?_⟩
  exact ifc (nI_eq (b := 0) (by omega) (by omega)) (fun e => h1 (Or.inl e)) fun e0 => ifc (nI_eq (b := 2) (by omega) (by omega)) (fun e => h1 (Or.inr e)) fun e2 => h0 fun h => h.elim e0 e2
theorem nI_i64_mul_div {n a b : Nat} (hn : n < 2 ^ 31) (ha : a < 2 ^ 31) (hb : b < 2 ^ 31) (h0 : 0 < b) : ((nI n).toInt64 * (nI a).toInt64 / (nI b).toInt64).toInt32 = nI (n * a / b) := by
  rw [nI_l hn, nI_l ha, nI_l hb, lN_mul, pk_lDiv (by
    have h := Nat.mul_lt_mul'' hn ha
    have e : (2 ^ 31 * 2 ^ 31 : Nat) < 2 ^ 63 := by decide
    omega) h0 (by omega), lN_i]
theorem r_wonBy (hR : RepR S μ) (hW : WF B S) {n s : Nat} (hn : n < 2 ^ 31) (hs : s < S.1 0 5) {K : Int32 → z_M → Prop} (h1 : K (nI (wonBy S n s)) μ) : C_X12_wonBy (nI n) (nI s) μ K := by
  have h3 := hW.1
  have h4 := hW.2.1 s hs
  unfold C_X12_wonBy
  rw [nI_clamp (by omega), hR.a (c := 8) rfl, hR.a (c := 9) rfl, nI_i64_mul_div hn (by omega) (by omega) (by omega)]
  refine ⟨nI_vin (by omega) (by omega), ?_, h1⟩
  rw [nI_l (by omega)]
  intro e
  have := (lN_eq (a := S.1 9 s) (b := 0) (by omega) (by omega)).mp e
  omega
end REF
