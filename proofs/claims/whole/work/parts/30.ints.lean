/-! Numbers: nI (the kit's) for naturals, oI for 'a natural or NONE', iI for whole numbers; lL for longs. -/
def oI (o : Option Nat) : Int32 := match o with
  | some n => nI n
  | none => -1
def iI (z : Int) : Int32 := Int32.ofInt z
def lL (z : Int) : Int64 := Int64.ofInt z
theorem oI_some (n : Nat) : oI (some n) = nI n := rfl
theorem oI_none : oI none = -1 := rfl
theorem nI_ne_m1 {n : Nat} (h : n < 2 ^ 31) : ¬ nI n = -1 := by
  intro e
  have h1 := nI_toInt h
  rw [e] at h1
  have h2 : (-1 : Int32).toInt = -1 := by decide
  omega
theorem m1_ne_nI {n : Nat} (h : n < 2 ^ 31) : ¬ (-1 : Int32) = nI n := fun e => nI_ne_m1 h e.symm
theorem oI_eq_m1 {o : Option Nat} (h : ∀ n, o = some n → n < 2 ^ 31) : oI o = -1 ↔ o = none := by
  cases o with
  | none => exact ⟨fun _ => rfl, fun _ => rfl⟩
  | some n => exact ⟨fun e => absurd e (nI_ne_m1 (h n rfl)), fun e => by cases e⟩
theorem oI_inj {a b : Option Nat} (ha : ∀ n, a = some n → n < 2 ^ 31) (hb : ∀ n, b = some n → n < 2 ^ 31) : oI a = oI b ↔ a = b := by
  cases a with
  | none => exact ⟨fun e => ((oI_eq_m1 hb).mp e.symm).symm, fun e => by rw [e]⟩
  | some m =>
    cases b with
    | none => exact ⟨fun e => absurd e (nI_ne_m1 (ha m rfl)), fun e => by cases e⟩
    | some n => exact ⟨fun e => by rw [(nI_eq (ha m rfl) (hb n rfl)).mp e], fun e => by rw [e]⟩
theorem nI_lit0 : (0 : Int32) = nI 0 := rfl
theorem nI_m1_lt {n : Nat} (h : n < 2 ^ 31) : (-1 : Int32) < nI n := by
  rw [Int32.lt_iff_toInt_lt, nI_toInt h]
  have : (-1 : Int32).toInt = -1 := by decide
  omega
theorem nI_nlt_m1 {n : Nat} (h : n < 2 ^ 31) : ¬ nI n < (-1 : Int32) := by
  rw [Int32.lt_iff_toInt_lt, nI_toInt h]
  have : (-1 : Int32).toInt = -1 := by decide
  omega
theorem nI_vin {n N : Nat} (h : n < N) (hN : N < 2 ^ 31) : vp_in (nI n) N := vp_in_nI h hN
theorem iI_nat (n : Nat) : iI (n : Int) = nI n := Int32.ofInt_eq_ofNat
theorem iI_add (a b : Int) : iI a + iI b = iI (a + b) := (Int32.ofInt_add a b).symm
theorem iI_sub (a b : Int) : iI a - iI b = iI (a - b) := (Int32.ofInt_sub a b).symm
theorem iI_mul (a b : Int) : iI a * iI b = iI (a * b) := (Int32.ofInt_mul a b).symm
theorem iI_neg (a : Int) : -iI a = iI (-a) := (Int32.ofInt_neg a).symm
theorem iI_toInt {z : Int} (h1 : -2147483648 ≤ z) (h2 : z < 2147483648) : (iI z).toInt = z := Int32.toInt_ofInt_of_le (by omega) (by omega)
theorem iI_of (x : Int32) : x = iI x.toInt := (Int32.ofInt_toInt x).symm
theorem iI_lo (x : Int32) : -2147483648 ≤ x.toInt := by have := x.le_toInt; omega
theorem iI_hi (x : Int32) : x.toInt < 2147483648 := by have := x.toInt_lt; omega
theorem iI_lt {a b : Int} (h1 : -2147483648 ≤ a) (h2 : a < 2147483648) (h3 : -2147483648 ≤ b) (h4 : b < 2147483648) : iI a < iI b ↔ a < b := by rw [Int32.lt_iff_toInt_lt, iI_toInt h1 h2, iI_toInt h3 h4]
theorem iI_le {a b : Int} (h1 : -2147483648 ≤ a) (h2 : a < 2147483648) (h3 : -2147483648 ≤ b) (h4 : b < 2147483648) : iI a ≤ iI b ↔ a ≤ b := by rw [Int32.le_iff_toInt_le, iI_toInt h1 h2, iI_toInt h3 h4]
theorem iI_eq {a b : Int} (h1 : -2147483648 ≤ a) (h2 : a < 2147483648) (h3 : -2147483648 ≤ b) (h4 : b < 2147483648) : iI a = iI b ↔ a = b := by rw [← Int32.toInt_inj, iI_toInt h1 h2, iI_toInt h3 h4]
theorem i10 : ¬ (1 : Int32) = 0 := by decide
theorem si1 {μ : z_M} {c k a b : Nat} {v : Int32} : (si μ c k v).1 a b = if a = c ∧ b = k then v else μ.1 a b := rfl
theorem si2 {μ : z_M} {c k : Nat} {v : Int32} : (si μ c k v).2 = μ.2 := rfl
theorem sl1 {μ : z_M} {c k : Nat} {v : Int64} : (sl μ c k v).1 = μ.1 := rfl
theorem sl2 {μ : z_M} {c k a b : Nat} {v : Int64} : (sl μ c k v).2 a b = if a = c ∧ b = k then v else μ.2 a b := rfl
/-- a branch, its condition said otherwise -/
theorem ifc {c d A B : Prop} [Decidable c] (e : c ↔ d) (h1 : d → A) (h0 : ¬ d → B) : if c then A else B := by
  by_cases h : c
  · rw [if_pos h]
    exact h1 (e.mp h)
  · rw [if_neg h]
    exact h0 fun g => h (e.mpr g)
theorem ifd {c A B : Prop} [Decidable c] (h1 : c → A) (h0 : ¬ c → B) : if c then A else B := ifc Iff.rfl h1 h0
