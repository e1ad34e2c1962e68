/-! The class: race, book. -/
/-- of books that there aren't yet nothing is kept of scratched horses -/
def WFe (S : z_SS) : Prop := ∀ b r h, S.1 0 4 ≤ b → b < 4 → r < S.1 0 3 → (S.1 11 r).testBit h = true → S.2.1 19 (24 * b + 8 * r + h) = none
section CRACE
variable {B : Nat} {S : z_SS} {kd kd' : z_K} {q q' : z_Q} {μ μ' : z_M}
theorem statB_f {f : Nat → Bool} : ∀ t, (∀ s, s < t → f s = false) → statB f t = (0, none, none, 0, 0) := by
  intro t
  induction t with
  | zero => intro _; rfl
  | succ t ih =>
    intro h
    unfold statB
    rw [h t (Nat.lt_succ_self t), if_neg (by decide), ih (fun s hs => h s (by omega))]
theorem z_fin_6 {k : Nat} {f : Nat → Nat} {t : z_T} (h : z_fin 6 k = some (f, t)) : k = 1 := by
  by_cases h5 : k = 1
  · exact h5
  · exfalso
    unfold z_fin at h
    split at h <;> first | contradiction | (simp_all; done) | omega
theorem z_fin_1 {k : Nat} {f : Nat → Nat} {t : z_T} (h : z_fin 1 k = some (f, t)) : 3 ≤ k ∧ k ≤ 9 := by
  by_cases h5 : 3 ≤ k ∧ k ≤ 9
  · exact h5
  · exfalso
    unfold z_fin at h
    split at h <;> first | contradiction | (simp_all; done) | omega
theorem KQ_race (hQ : KQ S kd q) (hn : S.1 0 3 < 3) (h4 : S.1 0 4 ≤ 4) {c : Nat} (hc : 30 + 2 * S.1 0 3 = c) {N : z_SS} (e3 : N.1 0 3 = S.1 0 3 + 1) (e4 : N.1 0 4 = S.1 0 4) (e6 : N.1 0 6 = S.1 0 6) : KQ N (z_up (z_up kd c (.inl 6)) (c + 1) (.inr (0, 8))) (sr (sr (z_q0 (z_q0 q c) (c + 1)) c 1 (some (c + 1))) 6 (S.1 0 3) (some c)) := by
  have n0 : kd c = none := hQ.2.2.2.2.2.1 _ (Or.inl ⟨by omega, by omega⟩)
  have n1 : kd (c + 1) = none := hQ.2.2.2.2.2.1 _ (Or.inl ⟨by omega, by omega⟩)
  generalize hk : z_up (z_up kd c (.inl 6)) (c + 1) (.inr (0, 8)) = kd'
  have k0 : kd' c = some (.inl 6) := by rw [← hk, z_up_ne (by omega), z_up_eq]
  have k1 : kd' (c + 1) = some (.inr (0, 8)) := by rw [← hk, z_up_eq]
  have ko : ∀ x, x ≠ c → x ≠ c + 1 → kd' x = kd x := fun x h0 h1 => by rw [← hk, z_up_ne h1, z_up_ne h0]
  generalize hq2 : sr (z_q0 (z_q0 q c) (c + 1)) c 1 (some (c + 1)) = q2
  have o : ∀ x k, x ≠ c → x ≠ c + 1 → q2 x k = q x k := fun x k h0 h1 => by
    rw [← hq2]
    show (if x = c ∧ k = 1 then _ else if x = c + 1 then none else if x = c then none else q x k) = _
    rw [if_neg (fun z => h0 z.1), if_neg h1, if_neg h0]
  have oc : ∀ k, q2 c k = if k = 1 then some (c + 1) else none := fun k => by
    rw [← hq2]
    show (if c = c ∧ k = 1 then _ else if c = c + 1 then none else if c = c then none else q c k) = _
    by_cases e : k = 1
    · rw [if_pos ⟨rfl, e⟩, if_pos e]
    · rw [if_neg (fun z => e z.2), if_neg (by omega), if_pos rfl, if_neg e]
  have o1 : ∀ k, q2 (c + 1) k = none := fun k => by
    rw [← hq2]
    show (if c + 1 = c ∧ k = 1 then _ else if c + 1 = c + 1 then none else _) = _
    rw [if_neg (by omega), if_pos rfl]
  have nx : ∀ x, kd x ≠ none → x ≠ c ∧ x ≠ c + 1 := fun x hx => ⟨fun e => hx (by rw [e]; exact n0), fun e => hx (by rw [e]; exact n1)⟩
  have ho : ∀ x t, kd x = some t → kd' x = some t := fun x t hx => by
    obtain ⟨g0, g1⟩ := nx x (nn_s hx)
    rw [ko x g0 g1]
    exact hx
  have hq : ∀ x k, kd x ≠ none → q2 x k = q x k := fun x k hx => by
    obtain ⟨g0, g1⟩ := nx x hx
    exact o x k g0 g1
  have new : ∀ x t, kd x = none → kd' x = some t → (x = c ∧ t = .inl 6) ∨ (x = c + 1 ∧ t = .inr (0, 8)) := fun x t h1 h2 => by
    by_cases e0 : x = c
    · rw [e0, k0] at h2
      exact Or.inl ⟨e0, (Option.some.inj h2).symm⟩
    · by_cases e1 : x = c + 1
      · rw [e1, k1] at h2
        exact Or.inr ⟨e1, (Option.some.inj h2).symm⟩
      · rw [ko x e0 e1, h1] at h2
        cases h2
  have hI : z_I kd' q2 := by
    refine zI_ext hQ.1 ho hq fun x t h1 h2 => ?_
    rcases new x t h1 h2 with ⟨e, et⟩ | ⟨e, et⟩
    · refine Or.inr ⟨6, et, by decide, by decide, fun k f t' hf => ?_⟩
      rw [e]
      have e5 := z_fin_6 hf
      subst e5
      rw [zf_6_1] at hf
      cases hf
      exact ⟨by rw [oc, if_pos rfl], k1⟩
    · exact Or.inl ⟨8, et⟩
  have hk6 : kd 6 = some (.inr (10, 3)) := z_fk hQ.1 hQ.2.1 zf_11_2
  have c6 : c ≠ 6 ∧ c + 1 ≠ 6 := by omega
  refine KQ_ext (arr := 6) (idx := S.1 0 3) (c1 := c) hQ ho (z_I_el hI (t := 6) (ho _ _ hk6) k0) (fun x k hx hxk => ?_) (if_pos ⟨rfl, rfl⟩) (nn_s k0) (fun x j a h1 h2 ha => ?_) (fun a ha => ?_) (fun r hr => ?_) (fun b hb => Or.inl ⟨by omega, Or.inl (by decide)⟩) (fun i hi => Or.inl ⟨by omega, Or.inl (by decide)⟩)
  · rw [show sr q2 6 (S.1 0 3) (some c) x k = q2 x k from if_neg (by omega)]
    exact hq x k hx
  · cases et : kd' x with
    | none => exact absurd et h2
    | some t =>
      rcases new x t h1 et with ⟨e, _⟩ | ⟨e, _⟩
      · rw [show sr q2 6 (S.1 0 3) (some c) x j = q2 x j from if_neg (by omega), e, oc] at ha
        by_cases j5 : j = 1
        · rw [if_pos j5] at ha
          cases ha
          exact nn_s k1
        · rw [if_neg j5] at ha
          cases ha
      · rw [show sr q2 6 (S.1 0 3) (some c) x j = q2 x j from if_neg (by omega), e, o1 j] at ha
        cases ha
  · have ha' : FrA S a ∧ a ≠ c ∧ a ≠ c + 1 := by
      unfold FrA at ha ⊢
      rw [e3, e4, e6] at ha
      omega
    rw [ko a ha'.2.1 ha'.2.2]
    exact hQ.2.2.2.2.2.1 a ha'.1
  · by_cases e : r < S.1 0 3
    · exact Or.inl ⟨e, Or.inr (by omega)⟩
    · exact Or.inr ⟨rfl, by omega, by omega, k0⟩
theorem c_race (hQ : KQ S kd q) (hV : RepV S μ) (hW : WF 80 S) {a : Int32} {K : Int32 → z_K → z_Q → z_M → Prop} (hK : ∀ kd' q' μ', KQ (opRace S a).2 kd' q' → RepV (opRace S a).2 μ' → K (opRace S a).1 kd' q' μ') : C_X11_race kd q a μ K := by
  have h3 := hW.1
  have no : opRace S a = (-1, S) → K (-1) kd q μ := fun g => by
    rw [g] at hK
    exact hK kd q μ hQ hV
  have nog : (∀ n, 2 ≤ n → n ≤ 8 → a ≠ nI n) → K (-1) kd q μ := fun g => no (by
    unfold opRace
    split
    · rfl
    · cases e : ixO a 9 with
      | none => rfl
      | some n =>
        obtain ⟨j1, j2⟩ := ixO_inv e
        dsimp only
        rw [if_pos]
        exact Classical.byContradiction fun z => g n (by omega) (by omega) j2)
  unfold C_X11_race
  refine rg_dec (lo := 2) (hi := 8) rfl rfl (by decide) (by decide) (fun n n1 n2 ea => ?_) nog nog
  subst ea
  have e13 : μ.1 0 13 = nI (S.1 0 3) := hV.1.2.1
  rw [e13]
  refine ifc (nI_ltI (b := 3) (by omega) (by decide)) (fun g3 => ?_) (fun g3 => no (by unfold opRace; rw [if_pos (by omega)]))
  have eo : opRace S (nI n) = (nI (S.1 0 3), setN (setN S 10 (S.1 0 3) n) 0 3 (S.1 0 3 + 1)) := by
    unfold opRace
    rw [if_neg (by omega), ixO_some (show n < 9 by omega) (by decide)]
    dsimp only
    rw [if_neg (by omega)]
  rw [eo] at hK
  dsimp only at hK
  have fA : ∀ j, j < 2 → FrA S (30 + 2 * S.1 0 3 + j) := fun j hj => Or.inl ⟨by omega, by omega⟩
  generalize hc : 30 + 2 * S.1 0 3 = c at fA
  have fr0 : Fr kd q c := hQ.fr (fA 0 (by decide))
  refine ⟨c, fr0.1, fr0.2, fun kd2 q3 μ4 e2 e3 e4 => ?_⟩
  have f1 : Fr kd2 q3 (c + 1) := by
    rw [e2, e3]
    exact Fr_up (hQ.fr (fA 1 (by decide))) (by omega)
  unfold C_X6_init
  refine ⟨c + 1, f1.1, f1.2, fun kd5 q6 μ7 e5 e6 e7 => ⟨nI_vin (by omega) (by decide), ?_⟩⟩
  generalize hμ8 : si (si μ7 c 7 (-1)) c 8 (-1) = μ8
  have m8 : ∀ x k, x ≠ c → x ≠ c + 1 → μ8.1 x k = μ.1 x k := fun x k h0 h1 => by
    rw [← hμ8, si1, if_neg (fun z => h0 z.1), si1, if_neg (fun z => h0 z.1), e7, show (z_m0 (si μ4 c 0 (nI n)) (c + 1)).1 x k = (si μ4 c 0 (nI n)).1 x k from if_neg h1, si1, if_neg (fun z => h0 z.1), e4]
    exact if_neg h0
  have mc : ∀ k, μ8.1 c k = if k = 7 ∨ k = 8 then -1 else if k = 0 then nI n else 0 := fun k => by
    rw [← hμ8, si1, si1, e7, show (z_m0 (si μ4 c 0 (nI n)) (c + 1)).1 c k = (si μ4 c 0 (nI n)).1 c k from if_neg (by omega), si1, e4, show (z_m0 μ c).1 c k = 0 from if_pos rfl]
    by_cases g8 : k = 8
    · rw [if_pos ⟨rfl, g8⟩, if_pos (Or.inr g8)]
    · rw [if_neg (fun z => g8 z.2)]
      by_cases g7 : k = 7
      · rw [if_pos ⟨rfl, g7⟩, if_pos (Or.inl g7)]
      · rw [if_neg (fun z => g7 z.2), if_neg (show ¬ (k = 7 ∨ k = 8) by omega)]
        by_cases g0 : k = 0
        · rw [if_pos ⟨rfl, g0⟩, if_pos g0]
        · rw [if_neg (fun z => g0 z.2), if_neg g0]
  have e813 : μ8.1 0 13 = nI (S.1 0 3) := by rw [m8 _ _ (by omega) (by omega)]; exact e13
  rw [e813, nI_1, si1, if_pos ⟨rfl, rfl⟩, nI_clamp (by omega), show (1 : Int32) = nI 1 from rfl, pk_sub (by omega), Nat.add_sub_cancel, e6, e5, e2, e3]
  generalize hN : setN (setN S 10 (S.1 0 3) n) 0 3 (S.1 0 3 + 1) = N at hK
  have fN : ∀ x k, (x ≠ 0 ∨ k ≠ 3) → (x ≠ 10 ∨ k ≠ S.1 0 3) → N.1 x k = S.1 x k := fun x k h0 h1 => by rw [← hN, setN_1, if_neg (by omega), setN_1, if_neg (by omega)]
  have fN3 : N.1 0 3 = S.1 0 3 + 1 := by rw [← hN, setN_1, if_pos ⟨rfl, rfl⟩]
  have fN10 : N.1 10 (S.1 0 3) = n := by rw [← hN, setN_1, if_neg (by omega), setN_1, if_pos ⟨rfl, rfl⟩]
  have fN2 : N.2 = S.2 := by rw [← hN]; rfl
  have hf := hW.2.2.2.2.2.2.2.2.2.2.1 (S.1 0 3) (Nat.le_refl _) (by omega)
  refine hK _ _ _ (KQ_race hQ (by omega) (by omega) hc fN3 (fN 0 4 (by omega) (by omega)) (fN 0 6 (by omega) (by omega))) ?_
  have bs : btSame S N := ⟨fN 0 6 (by omega) (by omega), fun i hi => ⟨fun x h1 h2 => fN x i (by omega) (by omega), fun r hr => by rw [fN2], fun r hr _ => fN 26 _ (by omega) (by omega)⟩, fun s => ⟨fN 8 s (by omega) (by omega), fN 9 s (by omega) (by omega)⟩⟩
  have legr : ∀ i r x, i < S.1 0 6 → r < 3 → S.2.1 25 (3 * i + r) = some x → r < S.1 0 3 := fun i r x hi hr ex => ((hW.2.2.2.2.2.2.1 i hi).2.2.2.2.2.2.2.2.2.1 r x hr ex).1
  have mm : ∀ x k, x ≠ c → x ≠ c + 1 → (x ≠ 0 ∨ k ≠ 13) → (si μ8 0 13 (nI (S.1 0 3 + 1))).1 x k = μ.1 x k := fun x k h0 h1 h2 => by rw [si1, if_neg (by omega), m8 x k h0 h1]
  refine ⟨?_, fun r hr => ?_, fun b hb => ?_, fun i hi => ?_⟩
  · obtain ⟨a1, a2, a3, a4, a5, a6, a7, a8⟩ := hV.1
    refine ⟨?_, ?_, ?_, ?_, ?_, fun k hk => ?_, ?_, fun s hs => ?_⟩
    · rw [mm 0 12 (by omega) (by omega) (by omega), fN 0 2 (by omega) (by omega)]
      exact a1
    · rw [si1, if_pos ⟨rfl, rfl⟩, fN3]
    · rw [mm 0 14 (by omega) (by omega) (by omega), fN 0 4 (by omega) (by omega)]
      exact a3
    · rw [mm 0 15 (by omega) (by omega) (by omega), fN 0 6 (by omega) (by omega)]
      exact a4
    · rw [mm 1 1 (by omega) (by omega) (by omega), fN 0 1 (by omega) (by omega)]
      exact a5
    · rw [mm 2 k (by omega) (by omega) (by omega), fN 1 k (by omega) (by omega)]
      exact a6 k hk
    · rw [mm 3 2 (by omega) (by omega) (by omega), fN 0 5 (by omega) (by omega)]
      exact a7
    · rw [fN 0 5 (by omega) (by omega)] at hs
      rw [mm 4 s (by omega) (by omega) (by omega), mm 5 s (by omega) (by omega) (by omega), fN 8 s (by omega) (by omega), fN 9 s (by omega) (by omega)]
      exact a8 s hs
  · rw [fN3] at hr
    by_cases er : r = S.1 0 3
    · subst er
      have mc2 : ∀ k, (si μ8 0 13 (nI (S.1 0 3 + 1))).1 (30 + 2 * S.1 0 3) k = if k = 7 ∨ k = 8 then -1 else if k = 0 then nI n else 0 := fun k => by rw [si1, if_neg (by omega), hc, mc k]
      have est : statB (wasB N (S.1 0 3)) (S.1 0 2) = (0, none, none, 0, 0) := statB_f _ fun s hs => by
        unfold wasB
        rw [fN 60 _ (by omega) (by omega), hf.2.2 s (by omega)]
        rfl
      refine ⟨?_, ?_, ?_, fun e => ?_, fun x hx => ?_, ?_⟩
      · rw [mc2, fN10]
        rfl
      · rw [mc2, fN 11 _ (by omega) (by omega), hf.1]
        rfl
      · rw [mc2, fN 12 _ (by omega) (by omega), hf.2.1]
        rfl
      · rw [fN 12 _ (by omega) (by omega), hf.2.1] at e
        cases e
      · rw [fN 11 _ (by omega) (by omega), hf.1, Nat.zero_testBit] at hx
        cases hx
      · unfold RvSt
        rw [fN 0 2 (by omega) (by omega), est]
        refine ⟨by rw [mc2]; rfl, by rw [mc2]; rfl, by rw [mc2]; rfl, by rw [mc2]; rfl, fun n e => ?_⟩
        cases e
    · exact RvR_keep (RvR_same (hV.2.1 r (by omega)) fun x k c1 c2 => mm x k (by omega) (by omega) (by omega)) (fun x c1 c2 => fN x r (by omega) (by omega)) (fun x => fN 18 _ (by omega) (by omega)) (fN 0 2 (by omega) (by omega)) (fun s _ => fN 60 _ (by omega) (by omega))
  · rw [fN 0 4 (by omega) (by omega)] at hb
    obtain ⟨b0, b1, b2, b3, b4, b5, b6⟩ := RvB_same (hV.2.2.1 b hb) (μ' := si μ8 0 13 (nI (S.1 0 3 + 1))) fun x k c1 c2 => mm x k (by omega) (by omega) (by omega)
    refine ⟨by rw [fN 15 b (by omega) (by omega)]; exact b0, by rw [fN 16 b (by omega) (by omega)]; exact b1, by rw [betsOf_eq bs]; exact b2, fun k hk => by rw [fN2]; exact b3 k hk, fun r x hr hx => ?_, ⟨fun r x hr hx => ?_, fun r hr => ?_⟩, TxB_keep b6 (by rw [fN2])⟩
    · rw [fN3] at hr
      rw [fN 11 r (by omega) (by omega)] at hx
      by_cases er : r = S.1 0 3
      · rw [er, hf.1, Nat.zero_testBit] at hx
        cases hx
      · rw [fN2]
        exact b4 r x (by omega) hx
    · unfold stkA bckA
      rw [fN 11 r (by omega) (by omega), stkOn_eq bs hr, backsS_eq bs hr, betsOn_eq bs hr]
      exact b5.1 r x hr hx
    · have es : stakesS N b r = stakesS S b r := by
        unfold stakesS
        rw [fN 0 6 (by omega) (by omega)]
        refine sumN_congr fun i hi => ?_
        have hl : legRuns N i r = legRuns S i r := by
          unfold legRuns
          rw [fN2]
          cases ex : S.2.1 25 (3 * i + r) with
          | none => rfl
          | some x =>
            have hr2 := legr i r x hi hr ex
            refine decide_eq_decide.mpr ?_
            unfold runsS
            rw [fN3, fN 10 r (by omega) (by omega), fN 11 r (by omega) (by omega)]
            exact ⟨fun z => ⟨hr2, z.2⟩, fun z => ⟨by omega, z.2⟩⟩
        rw [fN 23 i (by omega) (by omega)]
        refine ite_iff ?_ _ _
        rw [fN 21 i (by omega) (by omega), hl, toWin_eq (fN 22 i (by omega) (by omega))]
      rw [es]
      exact b5.2 r hr
  · rw [fN 0 6 (by omega) (by omega)] at hi
    refine RvT_keep (RvT_same (hV.2.2.2 i hi) fun x k c1 c2 => mm x k (by omega) (by omega) (by omega)) (fun x c1 c2 => fN x i (by omega) (by omega)) (fN 27 i (by omega) (by omega)) (fN 28 i (by omega) (by omega)) (fun r hr => by rw [fN2]) (fun r hr _ => fN 26 _ (by omega) (by omega)) (fun _ => backS_eq hW hi ?_)
    refine ⟨fun x hx => fN x i (by omega) (by omega), fun r hr => by rw [fN2], fun r hr hl => ?_, fun s => ⟨fN 8 s (by omega) (by omega), fN 9 s (by omega) (by omega)⟩⟩
    cases ex : S.2.1 25 (3 * i + r) with
    | none => exact absurd ex hl
    | some x =>
      have hr2 := legr i r x hi hr ex
      exact ⟨fN 26 _ (by omega) (by omega), fN 10 r (by omega) (by omega), fN 11 r (by omega) (by omega), fN 13 r (by omega) (by omega), fN 14 r (by omega) (by omega), fun x _ => ⟨fN 18 _ (by omega) (by omega), by rw [fN2]⟩⟩
end CRACE
