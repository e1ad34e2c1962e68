/-! The state of a ring, read off the reference's memory: naturals (S.1 c k: the array c's cell k, or the object's field k at c = 0), places that may be empty (S.2.1: 17 slate, 19 stood, 25 horse), the clauses of each book (S.2.2: letter, steps, code). -/
abbrev z_CL : Type := Nat → List (Nat × Nat × List (Nat × Nat))
abbrev z_SS : Type := (Nat → Nat → Nat) × (Nat → Nat → Option Nat) × z_CL
def persA (c : Nat) : Bool := match c with
  | 8 => true
  | 9 => true
  | 10 => true
  | 11 => true
  | 12 => true
  | 13 => true
  | 14 => true
  | 15 => true
  | 16 => true
  | 18 => true
  | 20 => true
  | 21 => true
  | 22 => true
  | 23 => true
  | 24 => true
  | 26 => true
  | 27 => true
  | 28 => true
  | 60 => true
  | _ => false
def persO (c : Nat) : Bool := match c with
  | 17 => true
  | 19 => true
  | 25 => true
  | _ => false
/-- cells that say nothing behind a call -/
def scrR (c k : Nat) : Bool := match c with
  | 0 => decide (7 ≤ k)
  | 29 => true
  | 39 => true
  | 40 => true
  | 41 => true
  | 42 => true
  | 43 => true
  | 44 => true
  | 54 => true
  | 58 => true
  | 59 => true
  | 61 => true
  | _ => false
/-- how the reference holds the clauses of its books -/
def RepCl (CL : z_CL) (m : Nat → Nat → Int32) : Prop := ∀ b, b < 4 → m 32 b = nI (CL b).length ∧ (CL b).length ≤ 12 ∧ ∀ k l n cd, (CL b)[k]? = some (l, n, cd) → m 33 (12 * b + k) = nI l ∧ m 34 (12 * b + k) = nI n ∧ l < 256 ∧ n < 10 ∧
  ∃ f, 160 * b ≤ f ∧ f + cd.length ≤ 160 * b + 160 ∧ m 35 (12 * b + k) = nI f ∧ m 36 (12 * b + k) = nI (f + cd.length) ∧ ∀ j o a, cd[j]? = some (o, a) → m 37 (f + j) = nI o ∧ m 38 (f + j) = nI a ∧ o < 256 ∧ a < 1000000
/-- cells of bets that there are -/
def liveQ (n : Nat) (leg : Nat → Option Nat) (c k : Nat) : Prop := match c with
  | 20 => k < n
  | 21 => k < n
  | 22 => k < n
  | 23 => k < n
  | 24 => k < n
  | 25 => k < 3 * n
  | 26 => k < 3 * n ∧ leg k ≠ none
  | 27 => k < n
  | 28 => k < n
  | _ => True
abbrev live (S : z_SS) (c k : Nat) : Prop := liveQ (S.1 0 6) (S.2.1 25) c k
def RepR (S : z_SS) (μ : z_M) : Prop := (∀ k, 1 ≤ k → k ≤ 6 → μ.1 0 k = nI (S.1 0 k)) ∧ (∀ c k, persA c = true → live S c k → μ.1 c k = nI (S.1 c k)) ∧ (∀ c k, persO c = true → live S c k → μ.1 c k = oI (S.2.1 c k)) ∧ (∀ k, μ.1 1 k &&& 255 = nI (S.1 1 k)) ∧ RepCl S.2.2 μ.1
def setN (S : z_SS) (c k n : Nat) : z_SS := (fun a b => if a = c ∧ b = k then n else S.1 a b, S.2)
def setO (S : z_SS) (c k : Nat) (o : Option Nat) : z_SS := (S.1, fun a b => if a = c ∧ b = k then o else S.2.1 a b, S.2.2)
theorem setN_1 {S : z_SS} {c k n a b : Nat} : (setN S c k n).1 a b = if a = c ∧ b = k then n else S.1 a b := rfl
theorem setN_2 {S : z_SS} {c k n : Nat} : (setN S c k n).2 = S.2 := rfl
theorem setO_1 {S : z_SS} {c k : Nat} {o : Option Nat} : (setO S c k o).1 = S.1 := rfl
theorem setO_2 {S : z_SS} {c k a b : Nat} {o : Option Nat} : (setO S c k o).2.1 a b = if a = c ∧ b = k then o else S.2.1 a b := rfl
theorem setO_3 {S : z_SS} {c k : Nat} {o : Option Nat} : (setO S c k o).2.2 = S.2.2 := rfl
theorem RepR.f {S : z_SS} {μ : z_M} (h : RepR S μ) {k : Nat} (h1 : 1 ≤ k) (h2 : k ≤ 6) : μ.1 0 k = nI (S.1 0 k) := h.1 k h1 h2
theorem RepR.a {S : z_SS} {μ : z_M} (h : RepR S μ) {c k : Nat} (hc : persA c = true) (hl : live S c k := by first | exact True.intro | assumption | (show (_ : Nat) < _; omega) | (refine And.intro (show (_ : Nat) < _ by omega) ?_; first | assumption | simp_all)) : μ.1 c k = nI (S.1 c k) := h.2.1 c k hc hl
theorem RepR.o {S : z_SS} {μ : z_M} (h : RepR S μ) {c k : Nat} (hc : persO c = true) (hl : live S c k := by first | exact True.intro | assumption | (show (_ : Nat) < _; omega)) : μ.1 c k = oI (S.2.1 c k) := h.2.2.1 c k hc hl
theorem persA_ns {c k : Nat} (h : persA c = true) : scrR c k = false := by
  unfold persA at h
  split at h <;> first | rfl | cases h
theorem persO_ns {c k : Nat} (h : persO c = true) : scrR c k = false := by
  unfold persO at h
  split at h <;> first | rfl | cases h
theorem RepCl_kept {CL : z_CL} {m m' : Nat → Nat → Int32} (h : RepCl CL m) (hk : ∀ c k, 32 ≤ c → c ≤ 38 → m' c k = m c k) : RepCl CL m' := by
  intro b hb
  obtain ⟨h1, h2, h3⟩ := h b hb
  refine ⟨by rw [hk 32 b (by decide) (by decide)]; exact h1, h2, fun k l n cd hc => ?_⟩
  obtain ⟨g1, g2, g3, g4, f, g5, g6, g7, g8, g9⟩ := h3 k l n cd hc
  exact ⟨by rw [hk 33 _ (by decide) (by decide)]; exact g1, by rw [hk 34 _ (by decide) (by decide)]; exact g2, g3, g4, f, g5, g6, by rw [hk 35 _ (by decide) (by decide)]; exact g7, by rw [hk 36 _ (by decide) (by decide)]; exact g8, fun j o a hj => by
    rw [hk 37 _ (by decide) (by decide), hk 38 _ (by decide) (by decide)]
    exact g9 j o a hj⟩
/-- memories that differ in the cells alone that say nothing -/
theorem RepR.same {S : z_SS} {μ μ' : z_M} (h : RepR S μ) (hk : ∀ c k, scrR c k = false → live S c k → μ'.1 c k = μ.1 c k) : RepR S μ' := by
  refine ⟨fun k h1 h2 => ?_, fun c k hc hl => ?_, fun c k hc hl => ?_, fun k => ?_, RepCl_kept h.2.2.2.2 fun c k h1 h2 => ?_⟩
  · rw [hk 0 k (by unfold scrR; simp; omega) True.intro]
    exact h.1 k h1 h2
  · rw [hk c k (persA_ns hc) hl]
    exact h.2.1 c k hc hl
  · rw [hk c k (persO_ns hc) hl]
    exact h.2.2.1 c k hc hl
  · rw [hk 1 k rfl True.intro]
    exact h.2.2.2.1 k
  · rcases (show c = 32 ∨ c = 33 ∨ c = 34 ∨ c = 35 ∨ c = 36 ∨ c = 37 ∨ c = 38 by omega) with rfl | rfl | rfl | rfl | rfl | rfl | rfl <;> exact hk _ k rfl True.intro
theorem RepR.scr {S : z_SS} {μ : z_M} (h : RepR S μ) {c k : Nat} {v : Int32} (hs : scrR c k = true) : RepR S (si μ c k v) := h.same fun a b hab _ => by
  rw [si1, if_neg]
  rintro ⟨rfl, rfl⟩
  rw [hs] at hab
  cases hab
theorem RepR.lng {S : z_SS} {μ : z_M} (h : RepR S μ) {c k : Nat} {v : Int64} : RepR S (sl μ c k v) := h.same fun _ _ _ _ => rfl
theorem persA_32 {c : Nat} (h : persA c = true) : ¬ (32 ≤ c ∧ c ≤ 38) := by
  unfold persA at h
  split at h <;> first | omega | cases h
theorem persO_32 {c : Nat} (h : persO c = true) : ¬ (32 ≤ c ∧ c ≤ 38) := by
  unfold persO at h
  split at h <;> first | omega | cases h
theorem persAO {c : Nat} (h : persA c = true) (h2 : persO c = true) : False := by
  unfold persA at h
  split at h <;> first | cases h2 | cases h
theorem persA_01 {c : Nat} (h : persA c = true) : 2 ≤ c := by
  unfold persA at h
  split at h <;> first | omega | cases h
theorem persO_01 {c : Nat} (h : persO c = true) : 2 ≤ c := by
  unfold persO at h
  split at h <;> first | omega | cases h
theorem live_setN {S : z_SS} {c k n : Nat} (hc : c ≠ 0 ∨ k ≠ 6) : live (setN S c k n) = live S := by
  unfold live
  rw [setN_1, if_neg (by omega), setN_2]
theorem live_setO {S : z_SS} {c k : Nat} {o : Option Nat} (hc : c ≠ 25) : live (setO S c k o) = live S := by
  unfold live
  have : (setO S c k o).2.1 25 = S.2.1 25 := funext fun j => by rw [setO_2, if_neg (by omega)]
  rw [this, setO_1]
theorem RepR.setA {S : z_SS} {μ : z_M} (h : RepR S μ) {c k n : Nat} {v : Int32} (hc : persA c = true) (hv : v = nI n) : RepR (setN S c k n) (si μ c k v) := by
  have hc2 := persA_01 hc
  refine ⟨fun j h1 h2 => ?_, fun d j hd hl => ?_, fun d j hd hl => ?_, fun j => ?_, RepCl_kept h.2.2.2.2 fun d j h1 h2 => ?_⟩
  · rw [si1, if_neg (by omega), setN_1, if_neg (by omega)]
    exact h.1 j h1 h2
  · rw [live_setN (by omega)] at hl
    rw [si1, setN_1, hv]
    split
    · rfl
    · exact h.2.1 d j hd hl
  · rw [live_setN (by omega)] at hl
    rw [si1, if_neg (fun e => persAO hc (by rw [← e.1]; exact hd))]
    exact h.2.2.1 d j hd hl
  · rw [si1, if_neg (by omega), setN_1, if_neg (by omega)]
    exact h.2.2.2.1 j
  · rw [si1, if_neg (fun e => persA_32 hc (by omega))]
theorem RepR.setF {S : z_SS} {μ : z_M} (h : RepR S μ) {k n : Nat} {v : Int32} (hk : 1 ≤ k) (hv : v = nI n) (h6 : k ≠ 6 := by decide) : RepR (setN S 0 k n) (si μ 0 k v) := by
  refine ⟨fun j h1 h2 => ?_, fun d j hd hl => ?_, fun d j hd hl => ?_, fun j => ?_, RepCl_kept h.2.2.2.2 fun d j h1 h2 => ?_⟩
  · rw [si1, setN_1, hv]
    split
    · rfl
    · exact h.1 j h1 h2
  · have := persA_01 hd
    rw [live_setN (by omega)] at hl
    rw [si1, if_neg (by omega), setN_1, if_neg (by omega)]
    exact h.2.1 d j hd hl
  · have := persO_01 hd
    rw [live_setN (by omega)] at hl
    rw [si1, if_neg (by omega)]
    exact h.2.2.1 d j hd hl
  · rw [si1, if_neg (by omega), setN_1, if_neg (by omega)]
    exact h.2.2.2.1 j
  · rw [si1, if_neg (by omega)]
theorem RepR.setO {S : z_SS} {μ : z_M} (h : RepR S μ) {c k : Nat} {o : Option Nat} {v : Int32} (hc : persO c = true) (hv : v = oI o) (h25 : c ≠ 25 := by decide) : RepR (setO S c k o) (si μ c k v) := by
  have hc2 := persO_01 hc
  refine ⟨fun j h1 h2 => ?_, fun d j hd hl => ?_, fun d j hd hl => ?_, fun j => ?_, RepCl_kept h.2.2.2.2 fun d j h1 h2 => ?_⟩
  · rw [si1, if_neg (by omega)]
    exact h.1 j h1 h2
  · rw [live_setO h25] at hl
    rw [si1, if_neg (fun e => persAO (by rw [← e.1]; exact hd) hc)]
    exact h.2.1 d j hd hl
  · rw [live_setO h25] at hl
    rw [si1, setO_2, hv]
    split
    · rfl
    · exact h.2.2.1 d j hd hl
  · rw [si1, if_neg (by omega)]
    exact h.2.2.2.1 j
  · rw [si1, if_neg (fun e => persO_32 hc (by omega))]
/-- a horse runs -/
abbrev runsS (S : z_SS) (r h : Nat) : Prop := r < S.1 0 3 ∧ h < S.1 10 r ∧ (S.1 11 r).testBit h = false
def sumN (n : Nat) (f : Nat → Nat) : Nat := match n with
  | 0 => 0
  | n + 1 => sumN n f + f n
abbrev toWin (S : z_SS) (i : Nat) : Prop := S.1 22 i = 0 ∨ S.1 22 i = 2
/-- what a stake wins at a step -/
def wonBy (S : z_SS) (n s : Nat) : Nat := n * S.1 8 s / S.1 9 s
/-- how many horses of a race are left -/
def leftS (S : z_SS) (r : Nat) : Nat := sumN (S.1 10 r) (fun h => if (S.1 11 r).testBit h = true then 0 else 1)
/-- what holds of a state at all times (B: how many bets there can be) -/
def WF (B : Nat) (S : z_SS) : Prop :=
  (S.1 0 1 ≤ 200 ∧ S.1 0 2 < 600 ∧ S.1 0 3 ≤ 3 ∧ S.1 0 4 ≤ 4 ∧ S.1 0 5 ≤ 24 ∧ S.1 0 6 ≤ B) ∧
  (∀ s, s < S.1 0 5 → 1 ≤ S.1 8 s ∧ S.1 8 s ≤ 60 ∧ 1 ≤ S.1 9 s ∧ S.1 9 s ≤ 12) ∧
  (∀ r, r < S.1 0 3 → 2 ≤ S.1 10 r ∧ S.1 10 r ≤ 8 ∧ S.1 11 r < 256 ∧ S.1 12 r ≤ 1 ∧ 2 ≤ leftS S r ∧ (∀ h, (S.1 11 r).testBit h = true → h < S.1 10 r) ∧
    (S.1 12 r = 1 → S.1 13 r ≠ 0 ∧ S.1 13 r < 256 ∧ S.1 14 r < 256 ∧ (∀ h, (S.1 13 r).testBit h = true → runsS S r h) ∧ (∀ h, (S.1 14 r).testBit h = true → runsS S r h) ∧ ∀ h, (S.1 13 r).testBit h = true → (S.1 14 r).testBit h = true)) ∧
  (∀ b, b < S.1 0 4 → S.1 15 b ≤ 1000000 + 40000 * S.1 0 6 ∧ S.1 16 b ≤ 1) ∧
  (∀ b r h s, b < 4 → r < 3 → h < 8 → S.2.1 17 (24 * b + 8 * r + h) = some s → s < S.1 0 5 ∧ b < S.1 0 4 ∧ runsS S r h) ∧
  (∀ b r h s, b < 4 → r < S.1 0 3 → (S.1 11 r).testBit h = true → S.2.1 19 (24 * b + 8 * r + h) = some s → s < S.1 0 5) ∧
  (∀ i, i < S.1 0 6 → S.1 20 i < 16 ∧ S.1 21 i < S.1 0 4 ∧ S.1 22 i ≤ 3 ∧ 1 ≤ S.1 23 i ∧ S.1 23 i ≤ 20000 ∧ S.1 24 i ≤ S.1 0 2 ∧ S.1 27 i ≤ 1 ∧ S.1 28 i ≤ 1 ∧
    (∃ r, r < 3 ∧ S.2.1 25 (3 * i + r) ≠ none) ∧ (∀ r h, r < 3 → S.2.1 25 (3 * i + r) = some h → r < S.1 0 3 ∧ h < S.1 10 r ∧ S.1 26 (3 * i + r) < S.1 0 5) ∧
    (S.1 22 i ≠ 3 → ∀ r r', r < 3 → r' < 3 → S.2.1 25 (3 * i + r) ≠ none → S.2.1 25 (3 * i + r') ≠ none → r = r')) ∧
  (∀ r h, r < S.1 0 3 → (S.1 11 r).testBit h = true → S.1 18 (8 * r + h) ≤ S.1 0 6) ∧ (∀ k, S.1 60 k ≤ 1) ∧ (∀ k, S.1 1 k < 256) ∧
  (∀ r, S.1 0 3 ≤ r → r < 3 → S.1 11 r = 0 ∧ S.1 12 r = 0 ∧ ∀ k, k < 600 → S.1 60 (600 * r + k) = 0) ∧
  ∀ b, S.1 0 4 ≤ b → b < 4 → S.1 16 b = 0 ∧ S.2.2 b = []
theorem sumN_congr {n : Nat} {f g : Nat → Nat} (h : ∀ i, i < n → f i = g i) : sumN n f = sumN n g := by
  induction n with
  | zero => rfl
  | succ n ih =>
    unfold sumN
    rw [ih (fun i hi => h i (by omega)), h n (by omega)]
theorem sumN_le {n c : Nat} {f : Nat → Nat} (h : ∀ i, i < n → f i ≤ c) : sumN n f ≤ n * c := by
  induction n with
  | zero => exact Nat.zero_le _
  | succ n ih =>
    have h1 := ih (fun i hi => h i (by omega))
    have h2 := h n (by omega)
    unfold sumN
    rw [Nat.succ_mul]
    omega
theorem sumN_mono {n : Nat} {f g : Nat → Nat} (h : ∀ i, i < n → f i ≤ g i) : sumN n f ≤ sumN n g := by
  induction n with
  | zero => exact Nat.le_refl _
  | succ n ih =>
    have h1 := ih (fun i hi => h i (by omega))
    have h2 := h n (by omega)
    unfold sumN
    omega
theorem sumN_0 {n : Nat} {f : Nat → Nat} (h : ∀ i, i < n → f i = 0) : sumN n f = 0 := by
  induction n with
  | zero => rfl
  | succ n ih =>
    unfold sumN
    rw [ih (fun i hi => h i (by omega)), h n (by omega)]
theorem sumN_add {n : Nat} {f g : Nat → Nat} : sumN n (fun i => f i + g i) = sumN n f + sumN n g := by
  induction n with
  | zero => rfl
  | succ n ih =>
    unfold sumN
    rw [ih]
    omega
theorem sumN_one {n k : Nat} {f g : Nat → Nat} (hk : k < n) (h : ∀ i, i < n → i ≠ k → f i = g i) : sumN n f + g k = sumN n g + f k := by
  induction n with
  | zero => omega
  | succ n ih =>
    unfold sumN
    by_cases hn : k = n
    · subst hn
      rw [sumN_congr (g := g) (fun i hi => h i (by omega) (by omega))]
      omega
    · have h1 := ih (by omega) (fun i hi => h i (by omega))
      have h2 := h n (by omega) (fun e => hn e.symm)
      omega
