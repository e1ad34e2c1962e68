/-! The class: scratch. -/
section CSCR
variable {B : Nat} {S S' : z_SS} {μ μ' : z_M} {kd : z_K} {q : z_Q}
theorem RvR_keep2 {r : Nat} (h : RvR S μ r) (h1 : ∀ c, 10 ≤ c → c ≤ 14 → S'.1 c r = S.1 c r) (h18 : ∀ x, (S.1 11 r).testBit x = true → S'.1 18 (8 * r + x) = S.1 18 (8 * r + x)) (h2 : S'.1 0 2 = S.1 0 2) (h60 : ∀ s, s < S.1 0 2 → S'.1 60 (600 * r + s) = S.1 60 (600 * r + s)) : RvR S' μ r := by
  have hst := RvSt_keep h.2.2.2.2.2 h2 h60
  unfold RvR at h ⊢
  rw [h1 10 (by decide) (by decide), h1 11 (by decide) (by decide), h1 12 (by decide) (by decide), h1 13 (by decide) (by decide), h1 14 (by decide) (by decide)]
  refine ⟨h.1, h.2.1, h.2.2.1, h.2.2.2.1, fun x hx => ?_, hst⟩
  rw [h18 x hx]
  exact h.2.2.2.2.1 x hx
/-- a horse less: its stakes go -/
theorem stakes_less (hW : WF B S) {b r h : Nat} (hx : runsS S r h) (bs : btSame S S') (h3 : S'.1 0 3 = S.1 0 3) (h10 : S'.1 10 r = S.1 10 r) (h11 : ∀ x, (S'.1 11 r).testBit x = ((S.1 11 r).testBit x || decide (h = x))) : stakesS S' b r + stkOn S b r h = stakesS S b r := by
  have hr3 := hW.1.2.2.1
  have hr := hx.1
  unfold stakesS stkOn
  rw [bs.1, ← sumN_add]
  refine sumN_congr fun i hi => ?_
  obtain ⟨h1, h2, _⟩ := bs.2.1 i hi
  have hw := toWin_eq (h1 22 (by decide) (by decide))
  rw [h1 23 (by decide) (by decide), h1 21 (by decide) (by decide)]
  by_cases g : S.1 21 i = b ∧ toWin S i
  · unfold legRuns
    rw [h2 r (by omega)]
    cases e : S.2.1 25 (3 * i + r) with
    | none =>
      rw [if_neg (fun z => by cases z.2.2), if_neg (fun z => by cases z.2.2), if_neg (fun z => by cases z.2.2)]
    | some x =>
      dsimp only
      by_cases ex : x = h
      · subst ex
        have n1 : ¬ runsS S' r x := fun z => by
          have := z.2.2
          rw [h11 x] at this
          simp at this
        rw [if_neg (fun z => n1 (of_decide_eq_true z.2.2)), if_pos ⟨g.1, g.2, rfl⟩, if_pos ⟨g.1, g.2, decide_eq_true hx⟩, Nat.zero_add]
      · have n1 : runsS S' r x ↔ runsS S r x := by
          unfold runsS
          rw [h3, h10, h11 x, decide_eq_false (fun z => ex z.symm), Bool.or_false]
        rw [if_neg (show ¬ (S.1 21 i = b ∧ toWin S i ∧ some x = some h) from fun z => ex (Option.some.inj z.2.2)), Nat.add_zero]
        refine ite_iff ?_ _ _
        rw [hw, decide_eq_true_eq, decide_eq_true_eq, n1]
  · rw [if_neg (fun z => g ⟨z.1, hw.mp z.2.1⟩), if_neg (fun z => g ⟨z.1, z.2.1⟩), if_neg (fun z => g ⟨z.1, z.2.1⟩)]
theorem c_scratch (hQ : KQ S kd q) (hV : RepV S μ) (hW : WF 80 S) (hD : WFd S) {a b : Int32} {K : Int32 → z_M → Prop} (hK : ∀ μ', RepV (opScratch S a b).2 μ' → K (opScratch S a b).1 μ') : C_X11_scratch kd q a b μ K := by
  have h3 := hW.1
  unfold C_X11_scratch
  unfold opScratch at hK
  refine c_raceAt hQ hV.1 hW (fun r hr e => opt_s ?_) (fun g => opt_n (by rw [ixO_none g] at hK; exact hK μ hV))
  subst e
  have h4 := hW.2.2.1 r hr
  have hRr := hV.2.1 r hr
  rw [ixO_some hr (by omega)] at hK
  dsimp only at hK
  refine c_runs hRr.to0 hr h4.2.1 h4.2.2.1 (fun h hx e => ?_) (fun g => ?_)
  · subst e
    have hh := hx.2.1
    rw [ixO_some hx.2.1 (by omega)] at hK
    dsimp only at hK
    rw [if_neg (by rw [hx.2.2]; decide)] at hK
    rw [if_neg i10, hRr.2.2.1]
    refine ifc (nI_eq (b := 0) (by omega) (by decide)) (fun e0 => ?_) (fun e0 => by rw [if_neg e0] at hK; exact hK μ hV)
    rw [if_pos e0] at hK
    have hls : leftS S r ≤ 8 := by
      have := leftS_pop hW hr
      omega
    refine c_left hW hr hRr.to0 (ifc (nI_ltI (a := 2) (by decide) (by omega)) (fun l3 => ?_) (fun l3 => by rw [if_neg (by omega)] at hK; exact hK μ hV))
    rw [if_pos (by omega)] at hK
    unfold C_X6_lose
    refine c_holds hRr.to0 h4.2.1 (fun h' hh' e => ?_) (fun g => absurd rfl (g h hh))
    have := (nI_eq (by omega) (by omega)).mp e
    subst this
    rw [if_neg i10, hRr.2.1, nI_1shl ⟨h, by omega⟩, nI_or (by omega) (Nat.pow_lt_pow_right (by decide) (by show h < 32; omega)), nI_clamp (by omega), hV.1.2.2.2.1]
    refine ⟨nI_vin (by omega) (by decide), ?_⟩
    -- the new state
    have m1 : ∀ c k, c ≠ 11 → c ≠ 18 → (scrS S r h 4).1 c k = S.1 c k := fun c k c1 c2 => by rw [scrS_1, setN_1, if_neg (by omega), setN_1, if_neg (by omega)]
    have m11 : ∀ k, (scrS S r h 4).1 11 k = if k = r then S.1 11 r ||| 2 ^ h else S.1 11 k := fun k => by
      rw [scrS_1, setN_1, if_neg (by omega), setN_1]
      by_cases e : k = r
      · rw [if_pos ⟨rfl, e⟩, if_pos e]
      · rw [if_neg (fun z => e z.2), if_neg e]
    have m18 : ∀ k, (scrS S r h 4).1 18 k = if k = 8 * r + h then S.1 0 6 else S.1 18 k := fun k => by
      rw [scrS_1, setN_1]
      by_cases e : k = 8 * r + h
      · rw [if_pos ⟨rfl, e⟩, if_pos e]
      · rw [if_neg (fun z => e z.2), if_neg e, setN_1, if_neg (by omega)]
    have m25 : ∀ k, (scrS S r h 4).2.1 25 k = S.2.1 25 k := fun k => by
      rw [scrS_2]
      split
      · rfl
      · rfl
    have m19 : ∀ k, (scrS S r h 4).2.1 19 k = if k / 24 < 4 ∧ k % 24 = 8 * r + h then S.2.1 17 k else S.2.1 19 k := fun k => by rw [scrS_2]; rfl
    have m17 : ∀ k, (scrS S r h 4).2.1 17 k = if k / 24 < 4 ∧ k % 24 = 8 * r + h then none else S.2.1 17 k := fun k => by rw [scrS_2]; rfl
    have mcl : (scrS S r h 4).2.2 = S.2.2 := rfl
    generalize scrS S r h 4 = S' at hK m1 m11 m18 m25 m19 m17 mcl
    have bs : btSame S S' := ⟨m1 0 6 (by decide) (by decide), fun i hi => ⟨fun c c1 c2 => m1 c i (by omega) (by omega), fun r _ => m25 _, fun r _ _ => m1 26 _ (by decide) (by decide)⟩, fun s => ⟨m1 8 s (by decide) (by decide), m1 9 s (by decide) (by decide)⟩⟩
    have bits : ∀ x, (S'.1 11 r).testBit x = ((S.1 11 r).testBit x || decide (h = x)) := fun x => by rw [m11, if_pos rfl, bit_or2]
    have goneB : ∀ r' x, r' < 3 → (S'.1 11 r').testBit x = true → ((r' = r ∧ x = h) ∨ ((S.1 11 r').testBit x = true ∧ (r' ≠ r ∨ x ≠ h))) ∧ x < 8 := fun r' x hr' hb => by
      by_cases er : r' = r
      · subst er
        rw [bits] at hb
        rcases or_t hb with z | z
        · have := h4.2.2.2.2.2.1 x z
          by_cases ex : x = h
          · exact ⟨Or.inl ⟨rfl, ex⟩, by omega⟩
          · exact ⟨Or.inr ⟨z, Or.inr ex⟩, by omega⟩
        · have := of_decide_eq_true z
          exact ⟨Or.inl ⟨rfl, this.symm⟩, by omega⟩
      · rw [m11, if_neg er] at hb
        refine ⟨Or.inr ⟨hb, Or.inl er⟩, ?_⟩
        by_cases hlt : r' < S.1 0 3
        · have h4' := hW.2.2.1 r' hlt
          have := h4'.2.2.2.2.2.1 x hb
          omega
        · rw [(hW.2.2.2.2.2.2.2.2.2.2.1 r' (by omega) hr').1] at hb
          simp at hb
    unfold L_X11_scratch_47
    intro P hP
    have key : ∀ n, n ≤ S.1 0 4 → ∀ m : z_M, (∀ c k, (∀ b, b < 4 → c < 40 + 8 * b ∨ 40 + 8 * b + 7 < c) → m.1 c k = (si (si μ (30 + 2 * r) 2 (nI (S.1 11 r ||| 2 ^ h))) (30 + 2 * r + 1) h (nI (S.1 0 6))).1 c k) → (∀ b, b < n → RvB S' m b) → (∀ b, n ≤ b → b < S.1 0 4 → RvB S m b) → P (nI r) (nI h) (nI n) m := by
      refine downTo (S.1 0 4) ?_ (fun n hn ih => ?_)
      · intro m q1 q2 q3
        have mo : ∀ c k, (∀ b, b < 4 → c < 40 + 8 * b ∨ 40 + 8 * b + 7 < c) → (c ≠ 30 + 2 * r ∨ k ≠ 2) → (c ≠ 30 + 2 * r + 1 ∨ k ≠ h) → m.1 c k = μ.1 c k := fun c k c1 c2 c3 => by
          rw [q1 c k c1, si1, if_neg (by omega), si1, if_neg (by omega)]
        refine hP _ _ _ _ ?_
        unfold B_X11_scratch_47
        have out : ∀ c, c < 40 ∨ 72 ≤ c → ∀ b, b < 4 → c < 40 + 8 * b ∨ 40 + 8 * b + 7 < c := fun c hc b hb => by omega
        rw [mo 0 14 (out 0 (by omega)) (by omega) (by omega), hV.1.2.2.1]
        refine ifc (nI_leI (by omega) (by omega)) (fun _ => hK m ?_) (fun g => absurd (Nat.le_refl _) g)
        refine ⟨?_, fun r' hr' => ?_, fun b hb => ?_, fun i hi => ?_⟩
        · have hG := RvG_same hV.1 (μ' := m) fun c k hc => mo c k (out c (by omega)) (by omega) (by omega)
          unfold RvG at hG ⊢
          rw [m1 0 1 (by decide) (by decide), m1 0 2 (by decide) (by decide), m1 0 3 (by decide) (by decide), m1 0 4 (by decide) (by decide), m1 0 5 (by decide) (by decide), m1 0 6 (by decide) (by decide)]
          obtain ⟨g1, g2, g3, g4, g5, g6, g7, g8⟩ := hG
          exact ⟨g1, g2, g3, g4, g5, fun k hk => by rw [m1 1 k (by decide) (by decide)]; exact g6 k hk, g7, fun s hs => by rw [m1 8 s (by decide) (by decide), m1 9 s (by decide) (by decide)]; exact g8 s hs⟩
        · rw [m1 0 3 (by decide) (by decide)] at hr'
          by_cases er : r' = r
          · subst er
            obtain ⟨a1, a2, a3, a4, a5, a6⟩ := hRr
            refine ⟨by rw [mo _ 0 (out _ (by omega)) (by omega) (by omega), m1 10 r' (by decide) (by decide)]; exact a1, ?_, by rw [mo _ 3 (out _ (by omega)) (by omega) (by omega), m1 12 r' (by decide) (by decide)]; exact a3, fun e => ?_, fun x hx2 => ?_, ?_⟩
            · rw [q1 _ 2 (out _ (by omega)), si1, if_neg (by omega), si1, if_pos ⟨rfl, rfl⟩, m11, if_pos rfl]
            · rw [m1 12 r' (by decide) (by decide)] at e
              omega
            · obtain ⟨z, hx8⟩ := goneB r' x (by omega) hx2
              rcases z with z | z
              · rw [z.2, q1 _ h (out _ (by omega)), si1, if_pos ⟨rfl, rfl⟩, m18, if_pos rfl]
              · have ne : x ≠ h := z.2.resolve_left fun y => y rfl
                rw [mo _ x (out _ (by omega)) (by omega) (by omega), m18, if_neg (by omega)]
                exact a5 x z.1
            · refine RvSt_keep ?_ (m1 0 2 (by decide) (by decide)) (fun s _ => m1 60 _ (by decide) (by decide))
              unfold RvSt at a6 ⊢
              rw [mo _ 6 (out _ (by omega)) (by omega) (by omega), mo _ 7 (out _ (by omega)) (by omega) (by omega), mo _ 8 (out _ (by omega)) (by omega) (by omega), mo _ 10 (out _ (by omega)) (by omega) (by omega), mo _ 9 (out _ (by omega)) (by omega) (by omega)]
              exact a6
          · have h4' := hW.2.2.1 r' hr'
            refine RvR_keep2 (RvR_same (hV.2.1 r' hr') fun c k c1 c2 => mo c k (out c (by omega)) (by omega) (by omega)) (fun c c1 c2 => ?_) (fun x hx2 => ?_) (m1 0 2 (by decide) (by decide)) (fun s _ => m1 60 _ (by decide) (by decide))
            · by_cases e : c = 11
              · subst e
                rw [m11, if_neg er]
              · exact m1 c r' e (by omega)
            · have := h4'.2.2.2.2.2.1 x hx2
              rw [m18, if_neg (by omega)]
        · rw [m1 0 4 (by decide) (by decide)] at hb
          exact q2 b hb
        · rw [m1 0 6 (by decide) (by decide)] at hi
          have h7 := hW.2.2.2.2.2.2.1 i hi
          refine RvT_keep (RvT_same (hV.2.2.2 i hi) fun c k c1 c2 => mo c k (out c (by omega)) (by omega) (by omega)) (fun c c1 c2 => m1 c i (by omega) (by omega)) (m1 27 i (by decide) (by decide)) (m1 28 i (by decide) (by decide)) (fun r _ => m25 _) (fun r _ _ => m1 26 _ (by decide) (by decide)) (fun hd => backS_eq hW hi ⟨fun c hc => m1 c i (by omega) (by omega), fun r _ => m25 _, fun r' hr' hl => ?_, fun s => ⟨m1 8 s (by decide) (by decide), m1 9 s (by decide) (by decide)⟩⟩)
          have ho := (hD i hi).mp hd r' hr' hl
          have er : r' ≠ r := fun z => by
            rw [z, e0] at ho
            omega
          obtain ⟨y, hy⟩ := Option.ne_none_iff_exists'.mp hl
          have hr3 := (h7.2.2.2.2.2.2.2.2.2.1 r' y hr' hy).1
          have h4' := hW.2.2.1 r' hr3
          refine ⟨m1 26 _ (by decide) (by decide), m1 10 r' (by decide) (by decide), by rw [m11, if_neg er], m1 13 r' (by decide) (by decide), m1 14 r' (by decide) (by decide), fun x hx2 => ?_⟩
          have := h4'.2.2.2.2.2.1 x hx2
          refine ⟨by rw [m18, if_neg (by omega)], ?_⟩
          rw [m19, if_neg (by omega)]
      · intro m q1 q2 q3
        have out : ∀ c, c < 40 ∨ 72 ≤ c → ∀ b, b < 4 → c < 40 + 8 * b ∨ 40 + 8 * b + 7 < c := fun c hc b hb => by omega
        have mo : ∀ c k, c < 30 ∨ 72 ≤ c → m.1 c k = μ.1 c k := fun c k hc => by
          rw [q1 c k (out c (by omega)), si1, if_neg (by omega), si1, if_neg (by omega)]
        have hG : RvG S m := RvG_same hV.1 fun c k hc => mo c k (by omega)
        refine hP _ _ _ _ ?_
        unfold B_X11_scratch_47
        rw [hG.2.2.1]
        refine ifc (nI_leI (by omega) (by omega)) (fun g => absurd g (by omega)) (fun _ => ?_)
        refine c_bookN hQ hG hW hn (opt_s (c_spot ?_))
        obtain ⟨b0, b1, b2, b3, b4, b5, b6⟩ := q3 n (Nat.le_refl _) hn
        have st := b3 (8 * r + h) (by omega)
        obtain ⟨o3, o5, o6⟩ := b5.1 r h (by omega) (by omega)
        have ea : stkA S n r h = stkOn S n r h := if_neg (by rw [hx.2.2]; decide)
        have less := stakes_less hW (b := n) hx bs (m1 0 3 (by decide) (by decide)) (m1 10 r (by decide) (by decide)) bits
        unfold C_X1_lose
        rw [if_neg (Int32.not_lt.mpr (nI_pos' (by omega))), if_neg (fun z => by have := (nI_leI (a := 24) (by decide) (by omega)).mp z; omega), show nI (8 * r + h) / 8 = nI r by
          rw [show (8 : Int32) = nI 8 from rfl, pk_div (by omega) (by decide) (by decide)]
          congr 1
          omega, nI_clamp (by omega), nI_clamp (by omega), nI_1]
        refine ⟨nI_vin (by omega) (by decide), nI_vin (by omega) (by decide), ?_⟩
        have v4 : (si (si m (40 + 8 * n + 2) (8 * r + h) (m.1 (40 + 8 * n + 1) (8 * r + h))) (40 + 8 * n + 1) (8 * r + h) (-1)).1 (40 + 8 * n + 4) r - (si (si m (40 + 8 * n + 2) (8 * r + h) (m.1 (40 + 8 * n + 1) (8 * r + h))) (40 + 8 * n + 1) (8 * r + h) (-1)).1 (40 + 8 * n + 3) (8 * r + h) = nI (stakesS S' n r) := by
          rw [si1, if_neg (by omega), si1, if_neg (by omega), si1, if_neg (by omega), si1, if_neg (by omega), b5.2 r (by omega), o3, ea, pk_sub (by omega)]
          congr 1
          omega
        rw [v4, st]
        generalize hm : si (si (si (si (si m (40 + 8 * n + 2) (8 * r + h) (oI (S.2.1 17 (24 * n + (8 * r + h))))) (40 + 8 * n + 1) (8 * r + h) (-1)) (40 + 8 * n + 4) r (nI (stakesS S' n r))) (40 + 8 * n + 3) (8 * r + h) 0) (40 + 8 * n + 5) (8 * r + h) 0 = m2
        have other : ∀ c k, (c < 40 + 8 * n + 1 ∨ 40 + 8 * n + 5 < c) → m2.1 c k = m.1 c k := fun c k hc => by
          rw [← hm, si1, if_neg (by omega), si1, if_neg (by omega), si1, if_neg (by omega), si1, if_neg (by omega), si1, if_neg (by omega)]
        refine ih m2 (fun c k hc => ?_) (fun b hb => ?_) (fun b hb1 hb2 => ?_)
        · have := hc n (by omega)
          rw [other c k (by omega)]
          exact q1 c k hc
        · by_cases eb : b = n
          · subst eb
            refine ⟨by rw [other _ 0 (by omega), m1 15 b (by decide) (by decide)]; exact b0, by rw [other _ 1 (by omega), m1 16 b (by decide) (by decide)]; exact b1, by rw [other _ 2 (by omega), betsOf_eq bs]; exact b2, fun k hk => ?_, fun r' x hr' hx2 => ?_, ⟨fun r' x hr' hx2 => ?_, fun r' hr' => ?_⟩, ?_⟩
            · rw [m17]
              by_cases ek : k = 8 * r + h
              · rw [if_pos ⟨by omega, by omega⟩, ek, ← hm, si1, if_neg (by omega), si1, if_neg (by omega), si1, if_neg (by omega), si1, if_pos ⟨rfl, rfl⟩]
                rfl
              · rw [if_neg (by omega), ← hm, si1, if_neg (by omega), si1, if_neg (by omega), si1, if_neg (by omega), si1, if_neg (by omega), si1, if_neg (by omega)]
                exact b3 k hk
            · rw [m1 0 3 (by decide) (by decide)] at hr'
              obtain ⟨z, hx8⟩ := goneB r' x (by omega) hx2
              rw [m19]
              rcases z with z | z
              · rw [z.1, z.2, if_pos ⟨by omega, by omega⟩, ← hm, si1, if_neg (by omega), si1, if_neg (by omega), si1, if_neg (by omega), si1, if_neg (by omega), si1, if_pos ⟨rfl, rfl⟩, Nat.add_assoc]
              · rw [if_neg (by omega), ← hm, si1, if_neg (by omega), si1, if_neg (by omega), si1, if_neg (by omega), si1, if_neg (by omega), si1, if_neg (by omega)]
                exact b4 r' x hr' z.1
            · obtain ⟨p3, p5, p6⟩ := b5.1 r' x hr' hx2
              unfold stkA at p3 ⊢
              unfold bckA at p5 ⊢
              rw [stkOn_eq bs hr', backsS_eq bs hr', betsOn_eq bs hr', other _ (8 * r' + x) (show 40 + 8 * b + 6 < 40 + 8 * b + 1 ∨ 40 + 8 * b + 5 < 40 + 8 * b + 6 by omega)]
              by_cases e : r' = r ∧ x = h
              · have eb2 : (S'.1 11 r').testBit x = true := by
                  rw [e.1, e.2, bits]
                  simp
                rw [if_pos eb2, if_pos eb2, ← hm, e.1, e.2]
                refine ⟨?_, ?_, by rw [← e.1, ← e.2]; exact p6⟩
                · rw [si1, if_neg (by omega), si1, if_pos ⟨rfl, rfl⟩]
                  rfl
                · rw [si1, if_pos ⟨rfl, rfl⟩]
                  rfl
              · have eb2 : (S'.1 11 r').testBit x = (S.1 11 r').testBit x := by
                  by_cases er : r' = r
                  · rw [er, bits, decide_eq_false (fun z => e ⟨er, z.symm⟩), Bool.or_false]
                  · rw [m11, if_neg er]
                rw [eb2]
                refine ⟨?_, ?_, p6⟩
                · rw [← hm, si1, if_neg (by omega), si1, if_neg (by omega), si1, if_neg (by omega), si1, if_neg (by omega), si1, if_neg (by omega)]
                  exact p3
                · rw [← hm, si1, if_neg (by omega), si1, if_neg (by omega), si1, if_neg (by omega), si1, if_neg (by omega), si1, if_neg (by omega)]
                  exact p5
            · by_cases er : r' = r
              · rw [er, ← hm, si1, if_neg (by omega), si1, if_neg (by omega), si1, if_pos ⟨rfl, rfl⟩]
              · rw [stakesS_eq bs hr' (m1 0 3 (by decide) (by decide)) (m1 10 r' (by decide) (by decide)) (by rw [m11, if_neg er]), ← hm, si1, if_neg (by omega), si1, if_neg (by omega), si1, if_neg (by omega), si1, if_neg (by omega), si1, if_neg (by omega)]
                exact b5.2 r' hr'
            · refine TxB_keep (S := S) ?_ (by rw [mcl])
              unfold TxB at b6 ⊢
              rw [other _ 10 (by omega), other _ 11 (by omega)]
              refine ⟨b6.1, fun hn => ?_⟩
              obtain ⟨n, t, g1, g2, g3, g4, g5, g6⟩ := b6.2 hn
              exact ⟨n, t, g1, g2, g3, fun k hk => by rw [other _ k (by omega)]; exact g4 k hk, g5, g6⟩
          · exact RvB_same (q2 b (by omega)) fun c k c1 c2 => other c k (by omega)
        · exact RvB_same (q3 b (by omega) hb2) fun c k c1 c2 => other c k (by omega)
    exact key 0 (Nat.zero_le _) _ (fun _ _ _ => rfl) (fun b hb => absurd hb (Nat.not_lt_zero b)) (fun b _ hb => RvB_same (hV.2.2.1 b hb) fun c k c1 c2 => by rw [si1, if_neg (by omega), si1, if_neg (by omega)])
  · rw [if_pos rfl]
    cases e2 : ixO b (S.1 10 r) with
    | none => rw [e2] at hK; exact hK μ hV
    | some h =>
      obtain ⟨g3, g4⟩ := ixO_inv e2
      rw [e2] at hK
      dsimp only at hK
      rw [if_pos] at hK
      · exact hK μ hV
      · cases e3 : (S.1 11 r).testBit h with
        | true => rfl
        | false => exact absurd g4 (g h ⟨hr, g3, e3⟩)
end CSCR
