/-! What every call keeps. -/
section INV
variable {B : Nat} {S S' : z_SS}
theorem WFd_same (hD : WFd S) (e6 : S'.1 0 6 = S.1 0 6) (e27 : ∀ i, i < S.1 0 6 → S'.1 27 i = S.1 27 i) (e12 : ∀ r, r < 3 → S'.1 12 r = S.1 12 r) (e25 : ∀ i r, i < S.1 0 6 → r < 3 → S'.2.1 25 (3 * i + r) = S.2.1 25 (3 * i + r)) : WFd S' := by
  intro i hi
  rw [e6] at hi
  rw [e27 i hi, hD i hi]
  constructor
  · intro ho r hr hl
    rw [e12 r hr]
    exact ho r hr (by rw [← e25 i r hi hr]; exact hl)
  · intro ho r hr hl
    rw [← e12 r hr]
    exact ho r hr (by rw [e25 i r hi hr]; exact hl)
theorem pays_27 {i j : Nat} : (paysS S i).1 27 j = if j = i then 1 else S.1 27 j := by
  have one : (setN S 27 i 1).1 27 j = if j = i then 1 else S.1 27 j := by
    rw [setN_1]
    by_cases q : j = i
    · rw [if_pos ⟨rfl, q⟩, if_pos q]
    · rw [if_neg (fun z => q z.2), if_neg q]
  unfold paysS
  split
  · split
    · rw [setN_1, if_neg (by omega), setN_1, if_neg (by omega)]
      exact one
    · rw [setN_1, if_neg (by omega)]
      exact one
  · exact one
theorem runN_D (h1 : ∀ i, i < S.1 0 6 → S.1 27 i ≤ 1) (h2 : ∀ i, i < S.1 0 6 → S.1 27 i = 1 → outP S i) : ∀ n, n ≤ S.1 0 6 → ∀ i, i < n → ((runN S n).2.1 27 i = 1 ↔ outP S i) := by
  intro n
  induction n with
  | zero => intro _ i hi; omega
  | succ n ih =>
    intro hn i hi
    have k12 := fun r => runN_k (S := S) (c := 12) (k := r) (by decide) (by decide) (by decide) (by decide) n
    have k2 := runN_2 (S := S) n
    have k27 := runN_27 (S := S) n n (Nat.le_refl _)
    have eo : outP (runN S n).2 n ↔ outP S n := by
      unfold outP
      constructor
      · intro ho r hr hl
        rw [← k12 r]
        exact ho r hr (by rw [k2]; exact hl)
      · intro ho r hr hl
        rw [k12 r]
        exact ho r hr (by rw [k2] at hl; exact hl)
    have eN : runN S (n + 1) = if (runN S n).2.1 27 n = 0 ∧ outP (runN S n).2 n then ((runN S n).1 + 1, paysS (runN S n).2 n) else runN S n := rfl
    rw [eN]
    by_cases g : (runN S n).2.1 27 n = 0 ∧ outP (runN S n).2 n
    · rw [if_pos g]
      dsimp only
      rw [pays_27]
      by_cases ei : i = n
      · rw [if_pos ei, ei]
        exact ⟨fun _ => eo.mp g.2, fun _ => rfl⟩
      · rw [if_neg ei]
        exact ih (by omega) i (by omega)
    · rw [if_neg g]
      by_cases ei : i = n
      · subst ei
        rw [k27]
        constructor
        · exact h2 i (by omega)
        · intro ho
          have := h1 i (by omega)
          rcases Nat.eq_zero_or_pos (S.1 27 i) with z | z
          · exact absurd ⟨by rw [k27]; exact z, eo.mpr ho⟩ g
          · omega
      · exact ih (by omega) i (by omega)
theorem runN_WFd (h1 : ∀ i, i < S.1 0 6 → S.1 27 i ≤ 1) (h2 : ∀ i, i < S.1 0 6 → S.1 27 i = 1 → outP S i) : WFd (runN S (S.1 0 6)).2 := by
  intro i hi
  have k := fun c r h1 h2 h3 h4 => runN_k (S := S) (c := c) (k := r) h1 h2 h3 h4 (S.1 0 6)
  have k2 := runN_2 (S := S) (S.1 0 6)
  rw [k 0 6 (by decide) (by decide) (by decide) (by decide)] at hi
  rw [runN_D h1 h2 (S.1 0 6) (Nat.le_refl _) i hi]
  unfold outP
  constructor
  · intro ho r hr hl
    rw [k 12 r (by decide) (by decide) (by decide) (by decide)]
    exact ho r hr (by rw [k2] at hl; exact hl)
  · intro ho r hr hl
    rw [← k 12 r (by decide) (by decide) (by decide) (by decide)]
    exact ho r hr (by rw [k2]; exact hl)
theorem opRun_D (hW : WF 80 S) (hD : WFd S) {a b c : Int32} : WFd (opRun S a b c).2 := by
  unfold opRun
  cases ixO a (S.1 0 3) with
  | none => exact hD
  | some r =>
    dsimp only
    split
    · have f : ∀ c' k, c' ≠ 12 → c' ≠ 13 → c' ≠ 14 → (endS S r b c).1 c' k = S.1 c' k := fun c' k c1 c2 c3 => by
        unfold endS
        rw [setN_1, if_neg (by omega), setN_1, if_neg (by omega), setN_1, if_neg (by omega)]
      have f12 : ∀ k, (endS S r b c).1 12 k = if k = r then 1 else S.1 12 k := fun k => by
        unfold endS
        rw [setN_1, if_neg (by omega), setN_1, if_neg (by omega), setN_1]
        by_cases q : k = r
        · rw [if_pos ⟨rfl, q⟩, if_pos q]
        · rw [if_neg (fun z => q z.2), if_neg q]
      have e6 : (endS S r b c).1 0 6 = S.1 0 6 := f 0 6 (by decide) (by decide) (by decide)
      have h2 : (endS S r b c).2 = S.2 := rfl
      have hh := runN_WFd (S := endS S r b c) (fun i hi => by
        rw [e6] at hi
        rw [f 27 i (by decide) (by decide) (by decide)]
        exact (hW.2.2.2.2.2.2.1 i hi).2.2.2.2.2.2.1) (fun i hi hd => by
        rw [e6] at hi
        rw [f 27 i (by decide) (by decide) (by decide)] at hd
        have ho := (hD i hi).mp hd
        intro r' hr' hl'
        rw [f12]
        split
        · rfl
        · exact ho r' hr' (by rw [h2] at hl'; exact hl'))
      rw [e6] at hh
      exact hh
    · exact hD
theorem opRun_W (hW : WF 80 S) {a b c : Int32} : WF 80 (opRun S a b c).2 := by
  unfold opRun
  cases e : ixO a (S.1 0 3) with
  | none => exact hW
  | some r =>
    obtain ⟨hr, _⟩ := ixO_inv e
    dsimp only
    split
    · next g =>
      have e6 : (endS S r b c).1 0 6 = S.1 0 6 := by
        unfold endS
        rw [setN_1, if_neg (by omega), setN_1, if_neg (by omega), setN_1, if_neg (by omega)]
      exact runN_WF (endS_WF hW hr g.2.1 g.2.2.1 g.2.2.2.1 g.2.2.2.2) (S.1 0 6) (by rw [e6]; exact Nat.le_refl _)
    · exact hW
theorem opWay_W (hW : WF B S) {a b : Int32} : WF B (opWay S a b).2 := by
  have h1 : WF B (setN S 0 1 0) := setF1_WF hW (by decide)
  unfold opWay
  cases ea : ixO a (S.1 0 4) with
  | none => exact hW
  | some bk =>
    dsimp only
    have hb := (ixO_inv ea).1
    cases ixO b 161 with
    | none => exact hW
    | some n =>
      dsimp only
      split
      · exact hW
      · split
        · cases wayL (chS (S.1 1) n) n 13 0 [] with
          | error x => exact h1
          | ok cs =>
            obtain ⟨w1, w2, w3, w4, w5, w6, w7, w8, w9, w10, w11, w12⟩ := h1
            refine ⟨w1, w2, w3, w4, w5, w6, w7, w8, w9, w10, w11, fun b' g1 g2 => ⟨(w12 b' g1 g2).1, ?_⟩⟩
            have hne : b' ≠ bk := fun z => by
              have g1' : S.1 0 4 ≤ b' := g1
              omega
            have e : (setC (setN S 0 1 0) bk cs).2.2 b' = (setN S 0 1 0).2.2 b' := if_neg hne
            rw [e]
            exact (w12 b' g1 g2).2
        · exact hW
theorem opWay_D (hD : WFd S) {a b : Int32} : WFd (opWay S a b).2 := by
  have h1 : WFd (setN S 0 1 0) := WFd_same hD (by rw [setN_1, if_neg (by omega)]) (fun i _ => by rw [setN_1, if_neg (by omega)]) (fun r _ => by rw [setN_1, if_neg (by omega)]) (fun _ _ _ _ => rfl)
  unfold opWay
  cases ixO a (S.1 0 4) with
  | none => exact hD
  | some bk =>
    dsimp only
    cases ixO b 161 with
    | none => exact hD
    | some n =>
      dsimp only
      split
      · exact hD
      · split
        · cases wayL (chS (S.1 1) n) n 13 0 [] with
          | error x => exact h1
          | ok cs => exact WFd_same h1 rfl (fun _ _ => rfl) (fun _ _ => rfl) (fun _ _ _ _ => rfl)
        · exact hD
theorem opScratch_D (hD : WFd S) {a b : Int32} : WFd (opScratch S a b).2 := by
  unfold opScratch
  cases ixO a (S.1 0 3) with
  | none => exact hD
  | some r =>
    dsimp only
    cases ixO b (S.1 10 r) with
    | none => exact hD
    | some h =>
      dsimp only
      split
      · exact hD
      · split
        · split
          · have f : ∀ c k, c ≠ 11 → c ≠ 18 → (scrS S r h 4).1 c k = S.1 c k := fun c k c1 c2 => by
              show (setN (setN S 11 r (S.1 11 r ||| 2 ^ h)) 18 (8 * r + h) (S.1 0 6)).1 c k = S.1 c k
              rw [setN_1, if_neg (by omega), setN_1, if_neg (by omega)]
            refine WFd_same hD (f 0 6 (by decide) (by decide)) (fun i _ => f 27 i (by decide) (by decide)) (fun r _ => f 12 r (by decide) (by decide)) (fun i r' _ _ => ?_)
            unfold scrS
            dsimp only
            split
            · rw [if_neg (by decide), if_neg (by decide)]
            · rfl
          · exact hD
        · exact hD
theorem opNow_D (hD : WFd S) {a : Int32} : WFd (opNow S a).2 := by
  unfold opNow
  cases ixO a 600 with
  | none => exact hD
  | some t =>
    dsimp only
    split
    · exact hD
    · have f : ∀ c k, c ≠ 60 → (c ≠ 0 ∨ k ≠ 2) → (setN (markS S (S.1 0 3) (S.1 0 2) t) 0 2 t).1 c k = S.1 c k := fun c k c1 c2 => by
        rw [setN_1, if_neg (by omega)]
        exact if_neg (fun z => c1 z.1)
      exact WFd_same hD (f 0 6 (by decide) (by omega)) (fun i _ => f 27 i (by decide) (by omega)) (fun r _ => f 12 r (by decide) (by omega)) (fun _ _ _ _ => rfl)
end INV
