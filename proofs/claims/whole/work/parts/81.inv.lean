/-! What every call keeps. -/
section INV
variable {B : Nat} {S S' : z_SS}
theorem WFd_same (hD : WFd S) (e6 : S'.1 0 6 = S.1 0 6) (e27 : ∀ i, i < S.1 0 6 → S'.1 27 i = S.1 27 i) (e12 : ∀ r, r < 3 → S'.1 12 r = S.1 12 r) (e25 : ∀ i r, i < S.1 0 6 → r < 3 → S'.2.1 25 (3 * i + r) = S.2.1 25 (3 * i + r)) : WFd S' := by
  intro i hi
  rw [e6] at hi
  rw [e27 i hi, hD i hi]
  constructor
  · intro ho r hr hl
    rw [e12 r hr]
    exact ho r hr (by rw [← e25 i r hi hr]; exact hl)
  · intro ho r hr hl
    rw [← e12 r hr]
    exact ho r hr (by rw [e25 i r hi hr]; exact hl)
theorem pays_27 {i j : Nat} : (paysS S i).1 27 j = if j = i then 1 else S.1 27 j := by
  have one : (setN S 27 i 1).1 27 j = if j = i then 1 else S.1 27 j := by
    rw [setN_1]
    by_cases q : j = i
    · rw [if_pos ⟨rfl, q⟩, if_pos q]
    · rw [if_neg (fun z => q z.2), if_neg q]
  unfold paysS
  split
  · split
    · rw [setN_1, if_neg (by omega), setN_1, if_neg (by omega)]
      exact one
    · rw [setN_1, if_neg (by omega)]
      exact one
  · exact one
theorem runN_D (h1 : ∀ i, S.1 27 i ≤ 1) (h2 : ∀ i, i < S.1 0 6 → S.1 27 i = 1 → outP S i) : ∀ n, n ≤ S.1 0 6 → ∀ i, i < n → ((runN S n).2.1 27 i = 1 ↔ outP S i) := by
  intro n
  induction n with
  | zero => intro _ i hi; omega
  | succ n ih =>
    intro hn i hi
    have k12 := fun r => runN_k (S := S) (c := 12) (k := r) (by decide) (by decide) (by decide) (by decide) n
    have k2 := runN_2 (S := S) n
    have k27 := runN_27 (S := S) n n (Nat.le_refl _)
    have eo : outP (runN S n).2 n ↔ outP S n := by
      unfold outP
      constructor
      · intro ho r hr hl
        rw [← k12 r]
        exact ho r hr (by rw [k2]; exact hl)
      · intro ho r hr hl
        rw [k12 r]
        exact ho r hr (by rw [k2] at hl; exact hl)
    have eN : runN S (n + 1) = if (runN S n).2.1 27 n = 0 ∧ outP (runN S n).2 n then ((runN S n).1 + 1, paysS (runN S n).2 n) else runN S n := rfl
    rw [eN]
    by_cases g : (runN S n).2.1 27 n = 0 ∧ outP (runN S n).2 n
    · rw [if_pos g]
      dsimp only
      rw [pays_27]
      by_cases ei : i = n
      · rw [if_pos ei, ei]
        exact ⟨fun _ => eo.mp g.2, fun _ => rfl⟩
      · rw [if_neg ei]
        exact ih (by omega) i (by omega)
    · rw [if_neg g]
      by_cases ei : i = n
      · subst ei
        rw [k27]
        constructor
        · exact h2 i (by omega)
        · intro ho
          have := h1 i
          rcases Nat.eq_zero_or_pos (S.1 27 i) with z | z
          · exact absurd ⟨by rw [k27]; exact z, eo.mpr ho⟩ g
          · omega
      · exact ih (by omega) i (by omega)
end INV
