/-! The class's memory, held against the state. Race r lies at 30 + 2 r, book b at 40 + 8 b, bet i at 100 + 3 i. -/
def FrA (S : z_SS) (a : Nat) : Prop := (30 + 2 * S.1 0 3 ≤ a ∧ a < 36) ∨ (40 + 8 * S.1 0 4 ≤ a ∧ a < 72) ∨ (100 + 3 * S.1 0 6 ≤ a ∧ a < 340)
def KQ (S : z_SS) (kd : z_K) (q : z_Q) : Prop := z_I kd q ∧ kd 0 = some (.inl 11) ∧ (∀ r, r < S.1 0 3 → q 6 r = some (30 + 2 * r) ∧ kd (30 + 2 * r) = some (.inl 6)) ∧ (∀ b, b < S.1 0 4 → q 7 b = some (40 + 8 * b) ∧ kd (40 + 8 * b) = some (.inl 1)) ∧ (∀ i, i < S.1 0 6 → q 8 i = some (100 + 3 * i) ∧ kd (100 + 3 * i) = some (.inl 0)) ∧ (∀ a, FrA S a → kd a = none) ∧ ∀ c j a, kd c ≠ none → q c j = some a → kd a ≠ none
def RvG (S : z_SS) (μ : z_M) : Prop := μ.1 0 12 = nI (S.1 0 2) ∧ μ.1 0 13 = nI (S.1 0 3) ∧ μ.1 0 14 = nI (S.1 0 4) ∧ μ.1 0 15 = nI (S.1 0 6) ∧ μ.1 1 1 = nI (S.1 0 1) ∧ (∀ k, k < 200 → μ.1 2 k = nI (S.1 1 k)) ∧ μ.1 3 2 = nI (S.1 0 5) ∧ ∀ s, s < S.1 0 5 → μ.1 4 s = nI (S.1 8 s) ∧ μ.1 5 s = nI (S.1 9 s)
/-- the seconds in which a race was sure, as the class keeps them -/
def RvSt (S : z_SS) (μ : z_M) (r : Nat) : Prop := μ.1 (30 + 2 * r) 6 = nI (statB (wasB S r) (S.1 0 2)).1 ∧ μ.1 (30 + 2 * r) 7 = oI (statB (wasB S r) (S.1 0 2)).2.1 ∧ μ.1 (30 + 2 * r) 8 = oI (statB (wasB S r) (S.1 0 2)).2.2.1 ∧ μ.1 (30 + 2 * r) 10 = nI (statB (wasB S r) (S.1 0 2)).2.2.2.2 ∧ ∀ n, (statB (wasB S r) (S.1 0 2)).2.2.1 = some n → n + 1 = S.1 0 2 → μ.1 (30 + 2 * r) 9 = nI (statB (wasB S r) (S.1 0 2)).2.2.2.1
def RvR (S : z_SS) (μ : z_M) (r : Nat) : Prop := μ.1 (30 + 2 * r) 0 = nI (S.1 10 r) ∧ μ.1 (30 + 2 * r) 2 = nI (S.1 11 r) ∧ μ.1 (30 + 2 * r) 3 = nI (S.1 12 r) ∧ (S.1 12 r = 1 → μ.1 (30 + 2 * r) 4 = nI (S.1 13 r) ∧ μ.1 (30 + 2 * r) 5 = nI (S.1 14 r)) ∧ (∀ h, (S.1 11 r).testBit h = true → μ.1 (30 + 2 * r + 1) h = nI (S.1 18 (8 * r + h))) ∧ RvSt S μ r
/-- the stakes on a horse -/
def stkOn (S : z_SS) (b r h : Nat) : Nat := sumN (S.1 0 6) (fun i => if S.1 21 i = b ∧ toWin S i ∧ S.2.1 25 (3 * i + r) = some h then S.1 23 i else 0)
def stkA (S : z_SS) (b r h : Nat) : Nat := if (S.1 11 r).testBit h = true then 0 else stkOn S b r h
def bckA (S : z_SS) (b r h : Nat) : Nat := if (S.1 11 r).testBit h = true then 0 else backsS S b r h
def TxB (S : z_SS) (μ : z_M) (b : Nat) : Prop := μ.1 (40 + 8 * b) 11 = nI (S.2.2 b).length ∧ (S.2.2 b ≠ [] → ∃ (n : Nat) (t : Nat → Nat), μ.1 (40 + 8 * b) 10 = nI n ∧ 1 ≤ n ∧ n ≤ 160 ∧ (∀ k, k < n → μ.1 (40 + 8 * b + 7) k = nI (t k)) ∧ (∀ k, t k < 256) ∧ wayL (chS t n) n 13 0 [] = .ok (S.2.2 b))
def RvO (S : z_SS) (μ : z_M) (b : Nat) : Prop := (∀ r h, r < 3 → h < 8 → μ.1 (40 + 8 * b + 3) (8 * r + h) = nI (stkA S b r h) ∧ μ.1 (40 + 8 * b + 5) (8 * r + h) = nI (bckA S b r h) ∧ μ.1 (40 + 8 * b + 6) (8 * r + h) = nI (betsOn S b r h)) ∧ ∀ r, r < 3 → μ.1 (40 + 8 * b + 4) r = nI (stakesS S b r)
def RvB (S : z_SS) (μ : z_M) (b : Nat) : Prop := μ.1 (40 + 8 * b) 0 = nI (S.1 15 b) ∧ μ.1 (40 + 8 * b) 1 = nI (S.1 16 b) ∧ μ.1 (40 + 8 * b) 2 = nI (betsOf S b) ∧ (∀ k, k < 24 → μ.1 (40 + 8 * b + 1) k = oI (S.2.1 17 (24 * b + k))) ∧ (∀ r h, r < S.1 0 3 → (S.1 11 r).testBit h = true → μ.1 (40 + 8 * b + 2) (8 * r + h) = oI (S.2.1 19 (24 * b + 8 * r + h))) ∧ RvO S μ b ∧ TxB S μ b
def RvT (S : z_SS) (μ : z_M) (i : Nat) : Prop := (μ.1 (100 + 3 * i) 0 = nI (S.1 20 i) ∧ μ.1 (100 + 3 * i) 1 = nI (S.1 21 i) ∧ μ.1 (100 + 3 * i) 2 = nI (S.1 22 i) ∧ μ.1 (100 + 3 * i) 3 = nI (S.1 23 i) ∧ μ.1 (100 + 3 * i) 4 = nI (S.1 24 i)) ∧ (∀ r, r < 3 → μ.1 (100 + 3 * i + 1) r = oI (S.2.1 25 (3 * i + r))) ∧ (∀ r, r < 3 → S.2.1 25 (3 * i + r) ≠ none → μ.1 (100 + 3 * i + 2) r = nI (S.1 26 (3 * i + r))) ∧ ((∃ r, r < 3 ∧ μ.1 (100 + 3 * i) 7 = nI r) ∧ (S.1 22 i ≠ 3 → μ.1 (100 + 3 * i) 7 = nI (raceOfS S i))) ∧ μ.1 (100 + 3 * i) 8 = nI (S.1 27 i) ∧ μ.1 (100 + 3 * i) 9 = nI (S.1 28 i) ∧ (S.1 27 i = 1 → μ.1 (100 + 3 * i) 10 = nI (backS S i))
/-- the same, but for what changes in the midst of a call -/
def RvR0 (S : z_SS) (μ : z_M) (r : Nat) : Prop := μ.1 (30 + 2 * r) 0 = nI (S.1 10 r) ∧ μ.1 (30 + 2 * r) 2 = nI (S.1 11 r) ∧ μ.1 (30 + 2 * r) 3 = nI (S.1 12 r) ∧ (S.1 12 r = 1 → μ.1 (30 + 2 * r) 4 = nI (S.1 13 r) ∧ μ.1 (30 + 2 * r) 5 = nI (S.1 14 r)) ∧ ∀ h, (S.1 11 r).testBit h = true → μ.1 (30 + 2 * r + 1) h = nI (S.1 18 (8 * r + h))
def RvT0 (S : z_SS) (μ : z_M) (i : Nat) : Prop := (μ.1 (100 + 3 * i) 0 = nI (S.1 20 i) ∧ μ.1 (100 + 3 * i) 1 = nI (S.1 21 i) ∧ μ.1 (100 + 3 * i) 2 = nI (S.1 22 i) ∧ μ.1 (100 + 3 * i) 3 = nI (S.1 23 i) ∧ μ.1 (100 + 3 * i) 4 = nI (S.1 24 i)) ∧ (∀ r, r < 3 → μ.1 (100 + 3 * i + 1) r = oI (S.2.1 25 (3 * i + r))) ∧ (∀ r, r < 3 → S.2.1 25 (3 * i + r) ≠ none → μ.1 (100 + 3 * i + 2) r = nI (S.1 26 (3 * i + r))) ∧ ((∃ r, r < 3 ∧ μ.1 (100 + 3 * i) 7 = nI r) ∧ (S.1 22 i ≠ 3 → μ.1 (100 + 3 * i) 7 = nI (raceOfS S i)))
def RepV0 (S : z_SS) (μ : z_M) : Prop := RvG S μ ∧ (∀ r, r < S.1 0 3 → RvR0 S μ r) ∧ (∀ b, b < S.1 0 4 → RvB S μ b) ∧ ∀ i, i < S.1 0 6 → RvT0 S μ i
def RepV (S : z_SS) (μ : z_M) : Prop := RvG S μ ∧ (∀ r, r < S.1 0 3 → RvR S μ r) ∧ (∀ b, b < S.1 0 4 → RvB S μ b) ∧ ∀ i, i < S.1 0 6 → RvT S μ i
/-- cells 9 to 22 say nothing behind a call -/
def sameV (μ μ' : z_M) : Prop := ∀ c k, c < 9 ∨ 22 < c → μ'.1 c k = μ.1 c k
theorem sameV_refl (μ : z_M) : sameV μ μ := fun _ _ _ => rfl
theorem sameV_tr {a b c : z_M} (h : sameV a b) (g : sameV b c) : sameV a c := fun x k hx => (g x k hx).trans (h x k hx)
theorem sameV_si {μ : z_M} {c k : Nat} {v : Int32} (h1 : 9 ≤ c) (h2 : c ≤ 22) : sameV μ (si μ c k v) := fun a b hx => by rw [si1, if_neg (by omega)]
theorem sameV_sl {μ : z_M} {c k : Nat} {v : Int64} : sameV μ (sl μ c k v) := fun _ _ _ => rfl
theorem RvR_same {S : z_SS} {μ μ' : z_M} {r : Nat} (h : RvR S μ r) (hk : ∀ c k, 30 + 2 * r ≤ c → c ≤ 30 + 2 * r + 1 → μ'.1 c k = μ.1 c k) : RvR S μ' r := by
  have e := fun k => hk (30 + 2 * r) k (Nat.le_refl _) (Nat.le_succ _)
  have e1 := fun k => hk (30 + 2 * r + 1) k (Nat.le_succ _) (Nat.le_refl _)
  unfold RvR RvSt at h ⊢
  simp only [e, e1]
  exact h
theorem RvR.to0 {S : z_SS} {μ : z_M} {r : Nat} (h : RvR S μ r) : RvR0 S μ r := ⟨h.1, h.2.1, h.2.2.1, h.2.2.2.1, h.2.2.2.2.1⟩
theorem RvT.to0 {S : z_SS} {μ : z_M} {i : Nat} (h : RvT S μ i) : RvT0 S μ i := ⟨h.1, h.2.1, h.2.2.1, h.2.2.2.1⟩
theorem RepV.to0 {S : z_SS} {μ : z_M} (h : RepV S μ) : RepV0 S μ := ⟨h.1, fun r hr => (h.2.1 r hr).to0, h.2.2.1, fun i hi => (h.2.2.2 i hi).to0⟩
theorem RvR0_same {S : z_SS} {μ μ' : z_M} {r : Nat} (h : RvR0 S μ r) (hk : ∀ c k, 30 + 2 * r ≤ c → c ≤ 30 + 2 * r + 1 → (c ≠ 30 + 2 * r ∨ k < 6) → μ'.1 c k = μ.1 c k) : RvR0 S μ' r := by
  obtain ⟨a1, a2, a3, a4, a5⟩ := h
  refine ⟨by rw [hk _ 0 (by omega) (by omega) (by omega)]; exact a1, by rw [hk _ 2 (by omega) (by omega) (by omega)]; exact a2, by rw [hk _ 3 (by omega) (by omega) (by omega)]; exact a3, fun e => ?_, fun h hx => by rw [hk _ h (by omega) (by omega) (by omega)]; exact a5 h hx⟩
  rw [hk _ 4 (by omega) (by omega) (by omega), hk _ 5 (by omega) (by omega) (by omega)]
  exact a4 e
theorem RvT0_same {S : z_SS} {μ μ' : z_M} {i : Nat} (h : RvT0 S μ i) (hk : ∀ c k, 100 + 3 * i ≤ c → c ≤ 100 + 3 * i + 2 → (c ≠ 100 + 3 * i ∨ k < 8) → μ'.1 c k = μ.1 c k) : RvT0 S μ' i := by
  have e := fun k (hk8 : k < 8) => hk (100 + 3 * i) k (by omega) (by omega) (Or.inr hk8)
  have e1 := fun k => hk (100 + 3 * i + 1) k (by omega) (by omega) (by omega)
  have e2 := fun k => hk (100 + 3 * i + 2) k (by omega) (by omega) (by omega)
  unfold RvT0 at h ⊢
  rw [e 0 (by decide), e 1 (by decide), e 2 (by decide), e 3 (by decide), e 4 (by decide), e 7 (by decide)]
  simp only [e1, e2]
  exact h
theorem RvB_same {S : z_SS} {μ μ' : z_M} {b : Nat} (h : RvB S μ b) (hk : ∀ c k, 40 + 8 * b ≤ c → c ≤ 40 + 8 * b + 7 → μ'.1 c k = μ.1 c k) : RvB S μ' b := by
  have e := fun k => hk (40 + 8 * b) k (by omega) (by omega)
  have e1 := fun k => hk (40 + 8 * b + 1) k (by omega) (by omega)
  have e2 := fun k => hk (40 + 8 * b + 2) k (by omega) (by omega)
  have e3 := fun k => hk (40 + 8 * b + 3) k (by omega) (by omega)
  have e4 := fun k => hk (40 + 8 * b + 4) k (by omega) (by omega)
  have e5 := fun k => hk (40 + 8 * b + 5) k (by omega) (by omega)
  have e6 := fun k => hk (40 + 8 * b + 6) k (by omega) (by omega)
  have e7 := fun k => hk (40 + 8 * b + 7) k (by omega) (by omega)
  unfold RvB RvO TxB at h ⊢
  simp only [e, e1, e2, e3, e4, e5, e6, e7]
  exact h
theorem RvT_same {S : z_SS} {μ μ' : z_M} {i : Nat} (h : RvT S μ i) (hk : ∀ c k, 100 + 3 * i ≤ c → c ≤ 100 + 3 * i + 2 → μ'.1 c k = μ.1 c k) : RvT S μ' i := by
  have e := fun k => hk (100 + 3 * i) k (by omega) (by omega)
  have e1 := fun k => hk (100 + 3 * i + 1) k (by omega) (by omega)
  have e2 := fun k => hk (100 + 3 * i + 2) k (by omega) (by omega)
  unfold RvT at h ⊢
  simp only [e, e1, e2]
  exact h
theorem RvG_same {S : z_SS} {μ μ' : z_M} (h : RvG S μ) (hk : ∀ c k, c ≤ 5 → μ'.1 c k = μ.1 c k) : RvG S μ' := by
  have e := fun k => hk 0 k (by omega)
  have e1 := fun k => hk 1 k (by omega)
  have e2 := fun k => hk 2 k (by omega)
  have e3 := fun k => hk 3 k (by omega)
  have e4 := fun k => hk 4 k (by omega)
  have e5 := fun k => hk 5 k (by omega)
  unfold RvG at h ⊢
  simp only [e, e1, e2, e3, e4, e5]
  exact h
theorem RepV.same {S : z_SS} {μ μ' : z_M} (h : RepV S μ) (hk : sameV μ μ') : RepV S μ' :=
  ⟨RvG_same h.1 fun c k hc => hk c k (by omega), fun r hr => RvR_same (h.2.1 r hr) fun c k h1 h2 => hk c k (by omega), fun b hb => RvB_same (h.2.2.1 b hb) fun c k h1 h2 => hk c k (by omega), fun i hi => RvT_same (h.2.2.2 i hi) fun c k h1 h2 => hk c k (by omega)⟩
theorem RepV0.same {S : z_SS} {μ μ' : z_M} (h : RepV0 S μ) (hk : sameV μ μ') : RepV0 S μ' :=
  ⟨RvG_same h.1 fun c k hc => hk c k (by omega), fun r hr => RvR0_same (h.2.1 r hr) fun c k h1 h2 _ => hk c k (by omega), fun b hb => RvB_same (h.2.2.1 b hb) fun c k h1 h2 => hk c k (by omega), fun i hi => RvT0_same (h.2.2.2 i hi) fun c k h1 h2 _ => hk c k (by omega)⟩
section CLS
variable {B : Nat} {S : z_SS} {kd : z_K} {q : z_Q} {μ : z_M}
theorem KQ.r (h : KQ S kd q) {r : Nat} (hr : r < S.1 0 3) : q 6 r = some (30 + 2 * r) := (h.2.2.1 r hr).1
theorem KQ.b (h : KQ S kd q) {b : Nat} (hb : b < S.1 0 4) : q 7 b = some (40 + 8 * b) := (h.2.2.2.1 b hb).1
theorem KQ.i (h : KQ S kd q) {i : Nat} (hi : i < S.1 0 6) : q 8 i = some (100 + 3 * i) := (h.2.2.2.2.1 i hi).1
theorem at_dec {a : Int32} {n N : Nat} {c : Int32} (hn : n ≤ N) (hN : N < 2 ^ 31) (hc : c = nI n) {A B C : Prop} (h1 : ∀ j, j < n → a = nI j → C) (h0 : (∀ j, j < n → a ≠ nI j) → A) (h0' : (∀ j, j < n → a ≠ nI j) → B) : if a < 0 then A else if c ≤ a then B else C := by
  subst hc
  rcases pk_ix a (n := n) (by omega) with h | h | ⟨j, hj, e⟩
  · rw [if_pos h]
    exact h0 fun j hj e => by
      rw [e] at h
      exact absurd (nI_pos' (by omega)) (Int32.not_le.mpr h)
  · have h2 : ¬ a < 0 := fun g => by
      have h3 : nI n < 0 := Int32.lt_of_le_of_lt h g
      exact absurd (nI_pos' (by omega)) (Int32.not_le.mpr h3)
    rw [if_neg h2, if_pos h]
    exact h0' fun j hj e => by
      rw [e] at h
      have := (nI_leI (by omega) (by omega)).mp h
      omega
  · rw [if_neg (by rw [e]; exact Int32.not_lt.mpr (nI_pos' (by omega))), if_neg (by rw [e, nI_leI (by omega) (by omega)]; omega)]
    exact h1 j hj e
theorem c_bookAt (hQ : KQ S kd q) (hG : RvG S μ) (hW : WF B S) {a : Int32} {K : Option Nat → z_M → Prop} (h1 : ∀ b, b < S.1 0 4 → a = nI b → K (some (40 + 8 * b)) μ) (h0 : (∀ b, b < S.1 0 4 → a ≠ nI b) → K none μ) : C_X11_bookAt kd q a μ K := by
  have h3 := hW.1
  unfold C_X11_bookAt
  refine at_dec (N := 4) (n := S.1 0 4) (by omega) (by decide) hG.2.2.1 (fun j hj e => ?_) h0 h0
  subst e
  rw [nI_clamp (by omega), hQ.b hj]
  exact ⟨nI_vin (by omega) (by decide), fun w e => by rw [e]; exact h1 j hj rfl⟩
theorem c_raceAt (hQ : KQ S kd q) (hG : RvG S μ) (hW : WF B S) {a : Int32} {K : Option Nat → z_M → Prop} (h1 : ∀ r, r < S.1 0 3 → a = nI r → K (some (30 + 2 * r)) μ) (h0 : (∀ r, r < S.1 0 3 → a ≠ nI r) → K none μ) : C_X11_raceAt kd q a μ K := by
  have h3 := hW.1
  unfold C_X11_raceAt
  refine at_dec (N := 3) (n := S.1 0 3) (by omega) (by decide) hG.2.1 (fun j hj e => ?_) h0 h0
  subst e
  rw [nI_clamp (by omega), hQ.r hj]
  exact ⟨nI_vin (by omega) (by decide), fun w e => by rw [e]; exact h1 j hj rfl⟩
theorem c_betAt (hQ : KQ S kd q) (hG : RvG S μ) (hW : WF 80 S) {a : Int32} {K : Option Nat → z_M → Prop} (h1 : ∀ i, i < S.1 0 6 → a = nI i → K (some (100 + 3 * i)) μ) (h0 : (∀ i, i < S.1 0 6 → a ≠ nI i) → K none μ) : C_X11_betAt kd q a μ K := by
  have h3 := hW.1
  unfold C_X11_betAt
  refine at_dec (N := 80) (n := S.1 0 6) (by omega) (by decide) hG.2.2.2.1 (fun j hj e => ?_) h0 h0
  subst e
  rw [nI_clamp (by omega), hQ.i hj]
  exact ⟨nI_vin (by omega) (by decide), fun w e => by rw [e]; exact h1 j hj rfl⟩
theorem c_bookN (hQ : KQ S kd q) (hG : RvG S μ) (hW : WF B S) {b : Nat} (hb : b < S.1 0 4) {K : Option Nat → z_M → Prop} (h1 : K (some (40 + 8 * b)) μ) : C_X11_bookAt kd q (nI b) μ K := by
  have h3 := hW.1
  refine c_bookAt hQ hG hW (fun b' hb' e => ?_) (fun g => absurd rfl (g b hb))
  have := (nI_eq (by omega) (by omega)).mp e
  subst this
  exact h1
theorem c_raceN (hQ : KQ S kd q) (hG : RvG S μ) (hW : WF B S) {r : Nat} (hr : r < S.1 0 3) {K : Option Nat → z_M → Prop} (h1 : K (some (30 + 2 * r)) μ) : C_X11_raceAt kd q (nI r) μ K := by
  have h3 := hW.1
  refine c_raceAt hQ hG hW (fun r' hr' e => ?_) (fun g => absurd rfl (g r hr))
  have := (nI_eq (by omega) (by omega)).mp e
  subst this
  exact h1
theorem c_betN (hQ : KQ S kd q) (hG : RvG S μ) (hW : WF 80 S) {i : Nat} (hi : i < S.1 0 6) {K : Option Nat → z_M → Prop} (h1 : K (some (100 + 3 * i)) μ) : C_X11_betAt kd q (nI i) μ K := by
  have h3 := hW.1
  refine c_betAt hQ hG hW (fun i' hi' e => ?_) (fun g => absurd rfl (g i hi))
  have := (nI_eq (by omega) (by omega)).mp e
  subst this
  exact h1
theorem opt_n {A : Prop} {C : Nat → Prop} (h : A) : ((none : Option Nat) = none → A) ∧ ∀ o, none = some o → C o := ⟨fun _ => h, fun o e => by cases e⟩
theorem opt_s {a : Nat} {A : Prop} {C : Nat → Prop} (h : C a) : (some a = none → A) ∧ ∀ o, some a = some o → C o := ⟨fun e => by (cases e), fun o e => by cases e; exact h⟩
theorem c_holds {r : Nat} (hr : RvR0 S μ r) (hs : S.1 10 r ≤ 8) {a : Int32} {K : Int32 → z_M → Prop} (h1 : ∀ h, h < S.1 10 r → a = nI h → K 1 μ) (h0 : (∀ h, h < S.1 10 r → a ≠ nI h) → K 0 μ) : C_X6_holds kd q (30 + 2 * r) a μ K := by
  unfold C_X6_holds
  exact at_dec (N := 8) hs (by decide) hr.1 h1 h0 h0
theorem c_isGone {r : Nat} (hr : RvR0 S μ r) (hs : S.1 10 r ≤ 8) (hg : S.1 11 r < 256) {h : Nat} (hh : h < S.1 10 r) {K : Int32 → z_M → Prop} (h1 : (S.1 11 r).testBit h = true → K 1 μ) (h0 : (S.1 11 r).testBit h = false → K 0 μ) : C_X6_isGone kd q (30 + 2 * r) (nI h) μ K := by
  unfold C_X6_isGone
  refine c_holds hr hs (fun h' _ e => ?_) (fun g => absurd rfl (g h hh))
  rw [if_neg i10, hr.2.1]
  have hb := nI_bit (g := S.1 11 r) (h := h) (by omega) (by omega)
  by_cases e : (S.1 11 r).testBit h = true
  · rw [hb.mpr e, if_neg i10]
    exact h1 e
  · have e2 : (nI (S.1 11 r) >>> (nI h &&& 31)) &&& 1 = 0 := by
      rw [pk_shrN (by omega) _ h (bit_shift ⟨h, by omega⟩), pk_andN (n := S.1 11 r / 2 ^ h) (by have := Nat.div_le_self (S.1 11 r) (2 ^ h); omega) 1 rfl]
      rw [Nat.testBit_eq_decide_div_mod_eq] at e
      have : S.1 11 r / 2 ^ h % 2 = 0 := by
        have h5 : ¬ S.1 11 r / 2 ^ h % 2 = 1 := fun z => e (by rw [z]; rfl)
        omega
      rw [show (2 : Nat) ^ 1 = 2 from rfl, this]
      rfl
    rw [e2, if_pos rfl]
    exact h0 (by simpa using e)
theorem c_runs {r : Nat} (hr : RvR0 S μ r) (hr3 : r < S.1 0 3) (hs : S.1 10 r ≤ 8) (hg : S.1 11 r < 256) {a : Int32} {K : Int32 → z_M → Prop} (h1 : ∀ h, runsS S r h → a = nI h → K 1 μ) (h0 : (∀ h, runsS S r h → a ≠ nI h) → K 0 μ) : C_X6_runs kd q (30 + 2 * r) a μ K := by
  unfold C_X6_runs
  refine c_holds hr hs (fun h hh e => ?_) (fun g => by rw [if_pos rfl]; exact h0 fun h hx => g h hx.2.1)
  subst e
  rw [if_neg i10]
  refine c_isGone hr hs hg hh (fun e => ?_) (fun e => ?_)
  · rw [if_neg i10]
    refine h0 fun h' hx e2 => ?_
    have := (nI_eq (by omega) (by have := hx.2.1; omega)).mp e2
    subst this
    rw [hx.2.2] at e
    cases e
  · rw [if_pos rfl]
    exact h1 h ⟨hr3, hh, e⟩ rfl
theorem c_runsN {r : Nat} (hr : RvR0 S μ r) (hr3 : r < S.1 0 3) (hs : S.1 10 r ≤ 8) (hg : S.1 11 r < 256) {h : Nat} (hh : h < 2 ^ 31) {K : Int32 → z_M → Prop} (h1 : runsS S r h → K 1 μ) (h0 : ¬ runsS S r h → K 0 μ) : C_X6_runs kd q (30 + 2 * r) (nI h) μ K := by
  refine c_runs hr hr3 hs hg (fun h' hx e => ?_) (fun g => h0 fun hx => g h hx rfl)
  have := (nI_eq hh (by have := hx.2.1; omega)).mp e
  subst this
  exact h1 hx
theorem c_holdsP (hG : RvG S μ) (hW : WF B S) {a : Int32} {K : Int32 → z_M → Prop} (h1 : ∀ s, s < S.1 0 5 → a = nI s → K 1 μ) (h0 : (∀ s, s < S.1 0 5 → a ≠ nI s) → K 0 μ) : C_X3_holds kd q 3 a μ K := by
  have h3 := hW.1
  unfold C_X3_holds
  refine at_dec (N := 24) (n := S.1 0 5) (by omega) (by decide) hG.2.2.2.2.2.2.1 (fun s hs e => ?_) h0 h0
  rw [e, if_neg (fun z => by have := (nI_leI (a := 24) (by decide) (by omega)).mp z; omega)]
  exact h1 s hs e
theorem c_aOf (hG : RvG S μ) (hW : WF B S) {s : Nat} (hs : s < S.1 0 5) {K : Int32 → z_M → Prop} (hK : K (nI (S.1 8 s)) μ) : C_X3_aOf kd q 3 (nI s) μ K := by
  have h3 := hW.1
  unfold C_X3_aOf
  refine c_holdsP hG hW (fun s' _ _ => ?_) (fun g => absurd rfl (g s hs))
  rw [if_neg i10, nI_clamp (by omega), (hG.2.2.2.2.2.2.2 s hs).1]
  exact ⟨nI_vin (by omega) (by decide), hK⟩
theorem c_bOf (hG : RvG S μ) (hW : WF B S) {s : Nat} (hs : s < S.1 0 5) {K : Int32 → z_M → Prop} (hK : K (nI (S.1 9 s)) μ) : C_X3_bOf kd q 3 (nI s) μ K := by
  have h3 := hW.1
  unfold C_X3_bOf
  refine c_holdsP hG hW (fun s' _ _ => ?_) (fun g => absurd rfl (g s hs))
  rw [if_neg i10, nI_clamp (by omega), (hG.2.2.2.2.2.2.2 s hs).2]
  exact ⟨nI_vin (by omega) (by decide), hK⟩
theorem c_wholeOf (hG : RvG S μ) (hW : WF B S) {s : Nat} (hs : s < S.1 0 5) {K : Int32 → z_M → Prop} (hK : K (nI (S.1 8 s + S.1 9 s)) μ) : C_X3_wholeOf kd q 3 (nI s) μ K := by
  unfold C_X3_wholeOf
  refine c_aOf hG hW hs (c_bOf hG hW hs ?_)
  rw [nI_add]
  exact hK
theorem c_won (hG : RvG S μ) (hW : WF B S) {n s : Nat} (hn : n ≤ 1000000) (hs : s < S.1 0 5) {K : Int32 → z_M → Prop} (hK : K (nI (wonBy S n s)) μ) : C_X3_won kd q 3 (nI n) (nI s) μ K := by
  have h4 := hW.2.1 s hs
  unfold C_X3_won
  refine c_aOf hG hW hs (c_bOf hG hW hs ⟨fun e => ?_, ?_⟩)
  · have := (nI_eq (b := 0) (by omega) (by decide)).mp e
    omega
  · have hm : n * S.1 8 s ≤ 1000000 * 60 := Nat.mul_le_mul hn (by omega)
    rw [nI_mul, pk_div (by omega) (by omega) (by omega)]
    exact hK
theorem spot_eq {r h : Nat} : (nI r * 8) + nI h = nI (8 * r + h) := by
  rw [show (8 : Int32) = nI 8 from rfl, nI_mul, nI_add, Nat.mul_comm]
theorem c_spot {r h : Nat} {K : Int32 → z_M → Prop} (hK : K (nI (8 * r + h)) μ) : C_X11_spot kd q (nI r) (nI h) μ K := by
  unfold C_X11_spot
  rw [spot_eq]
  exact hK
end CLS
