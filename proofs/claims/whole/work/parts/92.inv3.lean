/-! What every call keeps: scratch, run, way. -/
section INV3
variable {B : Nat} {S S' : z_SS}
theorem or_bit {g h j : Nat} : (g ||| 2 ^ h).testBit j = (g.testBit j || decide (h = j)) := by
  rw [Nat.testBit_or, Nat.testBit_two_pow]
theorem opScratch_I (hI : Inv S) {a b : Int32} : Inv (opScratch S a b).2 := by
  have hI0 := hI
  obtain ⟨hW, hC, hD, hE⟩ := hI
  have h3 := hW.1
  have d := opScratch_D hD (a := a) (b := b)
  unfold opScratch at d ⊢
  cases ea : ixO a (S.1 0 3) with
  | none => exact hI0
  | some r =>
    have hr := (ixO_inv ea).1
    have h4 := hW.2.2.1 r hr
    rw [ea] at d
    dsimp only at d ⊢
    cases eb : ixO b (S.1 10 r) with
    | none => exact hI0
    | some h =>
      have hh := (ixO_inv eb).1
      rw [eb] at d
      dsimp only at d ⊢
      by_cases g : (S.1 11 r).testBit h = true
      · rw [if_pos g]
        exact hI0
      · rw [if_neg g] at d ⊢
        by_cases g2 : S.1 12 r = 0
        · rw [if_pos g2] at d ⊢
          by_cases g5 : 3 ≤ leftS S r
          · rw [if_pos g5] at d ⊢
            dsimp only at d ⊢
            have gf : (S.1 11 r).testBit h = false := Bool.eq_false_iff.mpr g
            generalize hN : scrS S r h 4 = N at d ⊢
            have f1 : ∀ c k, N.1 c k = if c = 18 ∧ k = 8 * r + h then S.1 0 6 else if c = 11 ∧ k = r then S.1 11 r ||| 2 ^ h else S.1 c k := fun c k => by
              rw [← hN]
              show (setN (setN S 11 r (S.1 11 r ||| 2 ^ h)) 18 (8 * r + h) (S.1 0 6)).1 c k = _
              rw [setN_1, setN_1]
            have fN : ∀ c k, c ≠ 11 → c ≠ 18 → N.1 c k = S.1 c k := fun c k c1 c2 => by rw [f1, if_neg (fun z => c2 z.1), if_neg (fun z => c1 z.1)]
            have f11 : ∀ k, N.1 11 k = if k = r then S.1 11 r ||| 2 ^ h else S.1 11 k := fun k => by
              rw [f1, if_neg (by omega)]
              by_cases e : k = r
              · rw [if_pos ⟨rfl, e⟩, if_pos e]
              · rw [if_neg (fun z => e z.2), if_neg e]
            have f18 : ∀ k, N.1 18 k = if k = 8 * r + h then S.1 0 6 else S.1 18 k := fun k => by
              rw [f1]
              by_cases e : k = 8 * r + h
              · rw [if_pos ⟨rfl, e⟩, if_pos e]
              · rw [if_neg (fun z => e z.2), if_neg (by omega), if_neg e]
            have f22 : N.2.2 = S.2.2 := by rw [← hN]; rfl
            have f2 : ∀ c k, N.2.1 c k = if k / 24 < 4 ∧ k % 24 = 8 * r + h then (if c = 19 then S.2.1 17 k else if c = 17 then none else S.2.1 c k) else S.2.1 c k := fun c k => by rw [← hN]; rfl
            have f25 : ∀ k, N.2.1 25 k = S.2.1 25 k := fun k => by
              rw [f2, if_neg (show ¬ 25 = 19 by decide), if_neg (show ¬ 25 = 17 by decide)]
              split <;> rfl
            have bit : ∀ r' h', (N.1 11 r').testBit h' = true ↔ ((S.1 11 r').testBit h' = true ∨ (r' = r ∧ h' = h)) := fun r' h' => by
              rw [f11]
              by_cases e : r' = r
              · rw [if_pos e, or_bit, e, Bool.or_eq_true, decide_eq_true_eq]
                exact ⟨fun z => z.elim Or.inl (fun z => Or.inr ⟨rfl, z.symm⟩), fun z => z.elim Or.inl (fun z => Or.inr z.2.symm)⟩
              · rw [if_neg e]
                exact ⟨Or.inl, fun z => z.elim id (fun z => absurd z.1 e)⟩
            have ru : ∀ r' h', runsS S r' h' → ¬ (r' = r ∧ h' = h) → runsS N r' h' := fun r' h' hx hn => by
              obtain ⟨r1, r2, r3⟩ := hx
              refine ⟨by rw [fN 0 3 (by decide) (by decide)]; exact r1, by rw [fN 10 r' (by decide) (by decide)]; exact r2, ?_⟩
              rw [Bool.eq_false_iff]
              intro z
              rcases (bit r' h').mp z with z | z
              · rw [r3] at z
                cases z
              · exact hn z
            refine ⟨?_, WFc_same hC f22, d, ?_⟩
            · obtain ⟨a1, a2, a3, a4, a5, a6, a7, a8, a9, a10, a11, a12⟩ := hW
              refine ⟨⟨by rw [fN 0 1 (by decide) (by decide)]; exact a1.1, by rw [fN 0 2 (by decide) (by decide)]; exact a1.2.1, by rw [fN 0 3 (by decide) (by decide)]; exact a1.2.2.1, by rw [fN 0 4 (by decide) (by decide)]; exact a1.2.2.2.1, by rw [fN 0 5 (by decide) (by decide)]; exact a1.2.2.2.2.1, by rw [fN 0 6 (by decide) (by decide)]; exact a1.2.2.2.2.2⟩, fun s hs => ?_, fun r' hr' => ?_, fun b hb => ?_, fun b r' h' s hb hr' hh' es => ?_, fun b r' h' s hb hr' hh' es => ?_, fun i hi => ?_, fun r' h' hr' hh' => ?_, fun k => by rw [fN 60 k (by decide) (by decide)]; exact a9 k, fun k => by rw [fN 1 k (by decide) (by decide)]; exact a10 k, fun r' h1 h2 => ?_, fun b h1 h2 => ?_⟩
              · rw [fN 0 5 (by decide) (by decide)] at hs
                rw [fN 8 s (by decide) (by decide), fN 9 s (by decide) (by decide)]
                exact a2 s hs
              · rw [fN 0 3 (by decide) (by decide)] at hr'
                obtain ⟨c1, c2, c3, c4, c5, c6, c7⟩ := a3 r' hr'
                rw [fN 10 r' (by decide) (by decide), fN 12 r' (by decide) (by decide), fN 13 r' (by decide) (by decide), fN 14 r' (by decide) (by decide)]
                by_cases e : r' = r
                · subst e
                  refine ⟨c1, c2, ?_, c4, ?_, fun j hj => ?_, fun z => ?_⟩
                  · rw [f11, if_pos rfl]
                    exact Nat.or_lt_two_pow (n := 8) c3 (Nat.pow_lt_pow_right (by decide) (by omega))
                  · have el : leftS N r' + 1 = leftS S r' := by
                      unfold leftS
                      rw [fN 10 r' (by decide) (by decide)]
                      have := sumN_one (n := S.1 10 r') (k := h) (f := fun j => if (N.1 11 r').testBit j = true then 0 else 1) (g := fun j => if (S.1 11 r').testBit j = true then 0 else 1) hh (fun j _ hj => ite_iff ⟨fun z => ((bit r' j).mp z).elim id (fun z => absurd z.2 hj), fun z => (bit r' j).mpr (Or.inl z)⟩ _ _)
                      rw [if_neg g, if_pos ((bit r' h).mpr (Or.inr ⟨rfl, rfl⟩))] at this
                      omega
                    omega
                  · rcases (bit r' j).mp hj with z | z
                    · exact c6 j z
                    · rw [z.2]
                      exact hh
                  · rw [g2] at z
                    cases z
                · rw [f11, if_neg e, leftS_eq (fN 10 r' (by decide) (by decide)) (by rw [f11, if_neg e])]
                  refine ⟨c1, c2, c3, c4, c5, c6, fun z => ?_⟩
                  obtain ⟨d1, d2, d3, d4, d5, d6⟩ := c7 z
                  exact ⟨d1, d2, d3, fun j hj => ru r' j (d4 j hj) (fun q => e q.1), fun j hj => ru r' j (d5 j hj) (fun q => e q.1), d6⟩
              · rw [fN 0 4 (by decide) (by decide)] at hb
                rw [fN 15 b (by decide) (by decide), fN 16 b (by decide) (by decide), fN 0 6 (by decide) (by decide)]
                exact a4 b hb
              · rw [f2] at es
                by_cases e : (24 * b + 8 * r' + h') / 24 < 4 ∧ (24 * b + 8 * r' + h') % 24 = 8 * r + h
                · rw [if_pos e, if_neg (show ¬ 17 = 19 by decide), if_pos rfl] at es
                  cases es
                · rw [if_neg e] at es
                  obtain ⟨s1, s2, s3⟩ := a5 b r' h' s hb hr' hh' es
                  rw [fN 0 5 (by decide) (by decide), fN 0 4 (by decide) (by decide)]
                  exact ⟨s1, s2, ru r' h' s3 (fun q => e (by omega))⟩
              · rw [fN 0 3 (by decide) (by decide)] at hr'
                rw [fN 0 5 (by decide) (by decide)]
                rw [f2] at es
                have hx8 : h' < 8 := by
                  have c2 := (a3 r' hr').2.1
                  rcases (bit r' h').mp hh' with z | z
                  · have := (a3 r' hr').2.2.2.2.2.1 h' z
                    omega
                  · have := h4.2.1
                    omega
                by_cases e : (24 * b + 8 * r' + h') / 24 < 4 ∧ (24 * b + 8 * r' + h') % 24 = 8 * r + h
                · rw [if_pos e, if_pos rfl] at es
                  exact (a5 b r' h' s hb (by omega) hx8 es).1
                · rw [if_neg e] at es
                  rcases (bit r' h').mp hh' with z | z
                  · exact a6 b r' h' s hb hr' z es
                  · exact absurd (show _ ∧ _ by omega) e
              · rw [fN 0 6 (by decide) (by decide)] at hi
                obtain ⟨b1, b2, b3, b4, b5, b6, b7, b8, b9, b10, b11⟩ := a7 i hi
                rw [fN 20 i (by decide) (by decide), fN 21 i (by decide) (by decide), fN 22 i (by decide) (by decide), fN 23 i (by decide) (by decide), fN 24 i (by decide) (by decide), fN 27 i (by decide) (by decide), fN 28 i (by decide) (by decide), fN 0 4 (by decide) (by decide), fN 0 2 (by decide) (by decide)]
                obtain ⟨r9, hr9, hn9⟩ := b9
                refine ⟨b1, b2, b3, b4, b5, b6, b7, b8, ⟨r9, hr9, by rw [f25]; exact hn9⟩, fun r' h' hr' hh' => ?_, fun q r1 r2 hr1 hr2 n1 n2 => ?_⟩
                · rw [f25] at hh'
                  rw [fN 0 3 (by decide) (by decide), fN 10 r' (by decide) (by decide), fN 26 _ (by decide) (by decide), fN 0 5 (by decide) (by decide)]
                  exact b10 r' h' hr' hh'
                · rw [f25] at n1 n2
                  exact b11 q r1 r2 hr1 hr2 n1 n2
              · rw [fN 0 3 (by decide) (by decide)] at hr'
                rw [f18, fN 0 6 (by decide) (by decide)]
                by_cases e : 8 * r' + h' = 8 * r + h
                · rw [if_pos e]
                  exact Nat.le_refl _
                · rw [if_neg e]
                  rcases (bit r' h').mp hh' with z | z
                  · exact a8 r' h' hr' z
                  · exact absurd (by rw [z.1, z.2]) e
              · rw [fN 0 3 (by decide) (by decide)] at h1
                obtain ⟨l1, l2, l3⟩ := a11 r' h1 h2
                rw [f11, if_neg (by omega), fN 12 r' (by decide) (by decide)]
                exact ⟨l1, l2, fun k hk => by rw [fN 60 _ (by decide) (by decide)]; exact l3 k hk⟩
              · rw [fN 0 4 (by decide) (by decide)] at h1
                rw [fN 16 b (by decide) (by decide), f22]
                exact a12 b h1 h2
            · intro b r' h' h1 h2 h5 h6
              rw [fN 0 4 (by decide) (by decide)] at h1
              rw [fN 0 3 (by decide) (by decide)] at h5
              have hx8 : h' < 8 := by
                have c2 := (hW.2.2.1 r' h5).2.1
                rcases (bit r' h').mp h6 with z | z
                · have := (hW.2.2.1 r' h5).2.2.2.2.2.1 h' z
                  omega
                · have := h4.2.1
                  omega
              rw [f2]
              by_cases e : (24 * b + 8 * r' + h') / 24 < 4 ∧ (24 * b + 8 * r' + h') % 24 = 8 * r + h
              · rw [if_pos e, if_pos rfl]
                cases es : S.2.1 17 (24 * b + 8 * r' + h') with
                | none => rfl
                | some s =>
                  have := (hW.2.2.2.2.1 b r' h' s h2 (by omega) hx8 es).2.1
                  omega
              · rw [if_neg e]
                rcases (bit r' h').mp h6 with z | z
                · exact hE b r' h' h1 h2 h5 z
                · exact absurd (show _ ∧ _ by omega) e
          · rw [if_neg g5]
            exact hI0
        · rw [if_neg g2]
          exact hI0
theorem opRun_I (hI : Inv S) {a b c : Int32} : Inv (opRun S a b c).2 := by
  obtain ⟨hW, hC, hD, hE⟩ := hI
  have w := opRun_W hW (a := a) (b := b) (c := c)
  have d := opRun_D hW hD (a := a) (b := b) (c := c)
  unfold opRun at w d ⊢
  cases ea : ixO a (S.1 0 3) with
  | none => exact ⟨hW, hC, hD, hE⟩
  | some r =>
    rw [ea] at w d
    dsimp only at w d ⊢
    by_cases g : S.1 12 r = 0 ∧ b ≠ 0 ∧ b &&& (allI S r ^^^ -1) = 0 ∧ c &&& (allI S r ^^^ -1) = 0 ∧ b &&& (c ^^^ -1) = 0
    · rw [if_pos g] at w d ⊢
      have fe : ∀ c' k, c' ≠ 12 → c' ≠ 13 → c' ≠ 14 → (endS S r b c).1 c' k = S.1 c' k := fun c' k h1 h2 h3 => by
        unfold endS
        rw [setN_1, if_neg (by omega), setN_1, if_neg (by omega), setN_1, if_neg (by omega)]
      have fr : ∀ c' k, c' ≠ 12 → c' ≠ 13 → c' ≠ 14 → c' ≠ 15 → c' ≠ 16 → c' ≠ 27 → c' ≠ 28 → (runN (endS S r b c) (S.1 0 6)).2.1 c' k = S.1 c' k := fun c' k h1 h2 h3 h4 h5 h6 h7 => by rw [runN_k h4 h5 h6 h7, fe c' k h1 h2 h3]
      have f2 : (runN (endS S r b c) (S.1 0 6)).2.2 = S.2 := by rw [runN_2]; rfl
      exact ⟨w, WFc_same hC (by rw [f2]), d, WFe_same hE (fr 0 3 (by decide) (by decide) (by decide) (by decide) (by decide) (by decide) (by decide)) (fr 0 4 (by decide) (by decide) (by decide) (by decide) (by decide) (by decide) (by decide)) (fun r' => fr 11 r' (by decide) (by decide) (by decide) (by decide) (by decide) (by decide) (by decide)) (fun k => by rw [f2])⟩
    · rw [if_neg g]
      exact ⟨hW, hC, hD, hE⟩
theorem opWay_I (hI : Inv S) {a b : Int32} (hC : WFc (opWay S a b).2) : Inv (opWay S a b).2 := by
  obtain ⟨hW, _, hD, hE⟩ := hI
  refine ⟨opWay_W hW, hC, opWay_D hD, ?_⟩
  have h1 : WFe (setN S 0 1 0) := WFe_same hE (by rw [setN_1, if_neg (by omega)]) (by rw [setN_1, if_neg (by omega)]) (fun _ => by rw [setN_1, if_neg (by omega)]) (fun _ => rfl)
  unfold opWay
  cases ixO a (S.1 0 4) with
  | none => exact hE
  | some bk =>
    dsimp only
    cases ixO b 161 with
    | none => exact hE
    | some n =>
      dsimp only
      split
      · exact hE
      · split
        · cases wayL (chS (S.1 1) n) n 13 0 [] with
          | error x => exact h1
          | ok cs => exact WFe_same h1 rfl rfl (fun _ => rfl) (fun _ => rfl)
        · exact hE
end INV3
