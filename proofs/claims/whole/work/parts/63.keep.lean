/-! What a change of the state leaves as it was. -/
def bkSame (S S' : z_SS) (i : Nat) : Prop := (∀ c, c = 21 ∨ c = 22 ∨ c = 23 → S'.1 c i = S.1 c i) ∧ (∀ r, r < 3 → S'.2.1 25 (3 * i + r) = S.2.1 25 (3 * i + r)) ∧ (∀ r, r < 3 → S.2.1 25 (3 * i + r) ≠ none → S'.1 26 (3 * i + r) = S.1 26 (3 * i + r) ∧ S'.1 10 r = S.1 10 r ∧ S'.1 11 r = S.1 11 r ∧ S'.1 13 r = S.1 13 r ∧ S'.1 14 r = S.1 14 r ∧ ∀ h, (S.1 11 r).testBit h = true → S'.1 18 (8 * r + h) = S.1 18 (8 * r + h) ∧ S'.2.1 19 (24 * S.1 21 i + 8 * r + h) = S.2.1 19 (24 * S.1 21 i + 8 * r + h)) ∧ ∀ s, S'.1 8 s = S.1 8 s ∧ S'.1 9 s = S.1 9 s
section KEEP
variable {B : Nat} {S S' : z_SS} {μ μ' : z_M}
theorem raceOfS_eq {i : Nat} (h : ∀ r, r < 3 → S'.2.1 25 (3 * i + r) = S.2.1 25 (3 * i + r)) : raceOfS S' i = raceOfS S i := by
  unfold raceOfS
  rw [show S'.2.1 25 (3 * i) = S.2.1 25 (3 * i) from h 0 (by decide), h 1 (by decide)]
theorem dedT_eq {i r : Nat} (hb : bkSame S S' i) (hr : r < 3) (hl : S.2.1 25 (3 * i + r) ≠ none) : ∀ n, dedT S' i r n = dedT S i r n := by
  obtain ⟨k1, k2, k3, k4⟩ := hb
  obtain ⟨l26, l10, l11, l13, l14, l18⟩ := k3 r hr hl
  intro n
  induction n with
  | zero => rfl
  | succ n ih =>
    unfold dedT
    rw [ih, k2 r hr, l11, k1 21 (Or.inl rfl)]
    by_cases e : (S.1 11 r).testBit n = true
    · obtain ⟨a1, a2⟩ := l18 n e
      rw [a1, a2]
      cases S.2.1 19 (24 * S.1 21 i + 8 * r + n) with
      | none => rfl
      | some s =>
        obtain ⟨p1, p2⟩ := k4 s
        dsimp only
        rw [p1, p2]
    · rw [if_neg e, if_neg e]
theorem dedS_eq {i r : Nat} (hb : bkSame S S' i) (hr : r < 3) (hl : S.2.1 25 (3 * i + r) ≠ none) : dedS S' i r = dedS S i r := by
  unfold dedS
  rw [dedT_eq hb hr hl, (hb.2.2.1 r hr hl).2.1]
theorem joinS_eq {i : Nat} (hb : bkSame S S' i) : ∀ m, m ≤ 3 → ∀ st nu de, joinS S' i m st nu de = joinS S i m st nu de := by
  intro m
  induction m with
  | zero => intro _ st nu de; rfl
  | succ m ih =>
    intro hm st nu de
    unfold joinS
    have k2 := hb.2.1 (2 - m) (by omega)
    rw [k2]
    cases e : S.2.1 25 (3 * i + (2 - m)) with
    | none => exact ih (by omega) st nu de
    | some h =>
      obtain ⟨l26, l10, l11, l13, l14, l18⟩ := hb.2.2.1 (2 - m) (by omega) (by rw [e]; exact fun z => by cases z)
      obtain ⟨p1, p2⟩ := hb.2.2.2 (S.1 26 (3 * i + (2 - m)))
      dsimp only
      rw [l11, l13, l26, p1, p2, ih (by omega), ih (by omega)]
theorem leftS_eq {r : Nat} (h10 : S'.1 10 r = S.1 10 r) (h11 : S'.1 11 r = S.1 11 r) : leftS S' r = leftS S r := by
  unfold leftS
  rw [h10, h11]
theorem backS_eq (hW : WF B S) {i : Nat} (hi : i < S.1 0 6) (hb : bkSame S S' i) : backS S' i = backS S i := by
  have hro := raceOfS_ok hW hi
  have er := raceOfS_eq hb.2.1
  have hl : S.2.1 25 (3 * i + raceOfS S i) ≠ none := by
    rw [hro.2]
    exact fun z => by cases z
  obtain ⟨l26, l10, l11, l13, l14, l18⟩ := hb.2.2.1 _ hro.1 hl
  obtain ⟨p1, p2⟩ := hb.2.2.2 (S.1 26 (3 * i + raceOfS S i))
  unfold backS
  rw [hb.1 22 (Or.inr (Or.inl rfl)), hb.1 23 (Or.inr (Or.inr rfl)), joinS_eq hb 3 (Nat.le_refl _), er]
  have eh : legH S' i = legH S i := by
    unfold legH
    rw [er, hb.2.1 _ hro.1]
  unfold winS placeS
  rw [eh, l11, l13, l14, l26, p1, p2, hb.1 23 (Or.inr (Or.inr rfl)), dedS_eq hb hro.1 hl, leftS_eq l10 l11]
theorem RvT_keep {i : Nat} (h : RvT S μ i) (h1 : ∀ c, 20 ≤ c → c ≤ 24 → S'.1 c i = S.1 c i) (h27 : S'.1 27 i = S.1 27 i) (h28 : S'.1 28 i = S.1 28 i) (hl : ∀ r, r < 3 → S'.2.1 25 (3 * i + r) = S.2.1 25 (3 * i + r)) (h26 : ∀ r, r < 3 → S.2.1 25 (3 * i + r) ≠ none → S'.1 26 (3 * i + r) = S.1 26 (3 * i + r)) (hb : S.1 27 i = 1 → backS S' i = backS S i) : RvT S' μ i := by
  obtain ⟨⟨t0, t1, t2, t3, t4⟩, t5, t6, t7, t8, t9, t10⟩ := h
  refine ⟨⟨by rw [h1 20 (by decide) (by decide)]; exact t0, by rw [h1 21 (by decide) (by decide)]; exact t1, by rw [h1 22 (by decide) (by decide)]; exact t2, by rw [h1 23 (by decide) (by decide)]; exact t3, by rw [h1 24 (by decide) (by decide)]; exact t4⟩, fun r hr => by rw [hl r hr]; exact t5 r hr, fun r hr hn => ?_, ⟨t7.1, fun hk => ?_⟩, by rw [h27]; exact t8, by rw [h28]; exact t9, fun hd => ?_⟩
  · rw [hl r hr] at hn
    rw [h26 r hr hn]
    exact t6 r hr hn
  · rw [h1 22 (by decide) (by decide)] at hk
    rw [raceOfS_eq hl]
    exact t7.2 hk
  · rw [h27] at hd
    rw [hb hd]
    exact t10 hd
theorem statB_eq {f g : Nat → Bool} : ∀ t, (∀ s, s < t → f s = g s) → statB f t = statB g t := by
  intro t
  induction t with
  | zero => intro _; rfl
  | succ t ih =>
    intro h
    unfold statB
    rw [ih (fun s hs => h s (by omega)), h t (by omega)]
theorem RvSt_keep {r : Nat} (h : RvSt S μ r) (h2 : S'.1 0 2 = S.1 0 2) (h60 : ∀ s, s < S.1 0 2 → S'.1 60 (600 * r + s) = S.1 60 (600 * r + s)) : RvSt S' μ r := by
  have e : statB (wasB S' r) (S.1 0 2) = statB (wasB S r) (S.1 0 2) := statB_eq _ fun s hs => by
    unfold wasB
    rw [h60 s hs]
  unfold RvSt at h ⊢
  rw [h2, e]
  exact h
theorem RvR_keep {r : Nat} (h : RvR S μ r) (h1 : ∀ c, 10 ≤ c → c ≤ 14 → S'.1 c r = S.1 c r) (h18 : ∀ x, S'.1 18 (8 * r + x) = S.1 18 (8 * r + x)) (h2 : S'.1 0 2 = S.1 0 2) (h60 : ∀ s, s < S.1 0 2 → S'.1 60 (600 * r + s) = S.1 60 (600 * r + s)) : RvR S' μ r := by
  have hst := RvSt_keep h.2.2.2.2.2 h2 h60
  unfold RvR at h ⊢
  rw [h1 10 (by decide) (by decide), h1 11 (by decide) (by decide), h1 12 (by decide) (by decide), h1 13 (by decide) (by decide), h1 14 (by decide) (by decide)]
  refine ⟨h.1, h.2.1, h.2.2.1, h.2.2.2.1, fun x hx => ?_, hst⟩
  rw [h18 x]
  exact h.2.2.2.2.1 x hx
/-- the bets are as they were -/
def btSame (S S' : z_SS) : Prop := S'.1 0 6 = S.1 0 6 ∧ (∀ i, i < S.1 0 6 → (∀ c, 20 ≤ c → c ≤ 24 → S'.1 c i = S.1 c i) ∧ (∀ r, r < 3 → S'.2.1 25 (3 * i + r) = S.2.1 25 (3 * i + r)) ∧ ∀ r, r < 3 → S.2.1 25 (3 * i + r) ≠ none → S'.1 26 (3 * i + r) = S.1 26 (3 * i + r)) ∧ ∀ s, S'.1 8 s = S.1 8 s ∧ S'.1 9 s = S.1 9 s
theorem toWin_eq {i : Nat} (h : S'.1 22 i = S.1 22 i) : toWin S' i ↔ toWin S i := by
  unfold toWin
  rw [h]
theorem wonBy_eq (h : ∀ s, S'.1 8 s = S.1 8 s ∧ S'.1 9 s = S.1 9 s) (n s : Nat) : wonBy S' n s = wonBy S n s := by
  unfold wonBy
  rw [(h s).1, (h s).2]
theorem ite_iff {α : Type} {p q : Prop} [Decidable p] [Decidable q] (h : p ↔ q) (a b : α) : (if p then a else b) = if q then a else b := by
  by_cases g : q
  · rw [if_pos g, if_pos (h.mpr g)]
  · rw [if_neg g, if_neg (fun z => g (h.mp z))]
theorem betsOf_eq (h : btSame S S') (b : Nat) : betsOf S' b = betsOf S b := by
  unfold betsOf
  rw [h.1]
  exact sumN_congr fun i hi => by rw [(h.2.1 i hi).1 21 (by decide) (by decide)]
theorem betsOn_eq (h : btSame S S') {b r x : Nat} (hr : r < 3) : betsOn S' b r x = betsOn S b r x := by
  unfold betsOn
  rw [h.1]
  exact sumN_congr fun i hi => by rw [(h.2.1 i hi).1 21 (by decide) (by decide), (h.2.1 i hi).2.1 r hr]
theorem stkOn_eq (h : btSame S S') {b r x : Nat} (hr : r < 3) : stkOn S' b r x = stkOn S b r x := by
  unfold stkOn
  rw [h.1]
  refine sumN_congr fun i hi => ?_
  obtain ⟨h1, h2, h3⟩ := h.2.1 i hi
  have hw := toWin_eq (h1 22 (by decide) (by decide))
  rw [h1 23 (by decide) (by decide)]
  refine ite_iff ?_ _ _
  rw [h1 21 (by decide) (by decide), h2 r hr, hw]
theorem backsS_eq (h : btSame S S') {b r x : Nat} (hr : r < 3) : backsS S' b r x = backsS S b r x := by
  unfold backsS
  rw [h.1]
  refine sumN_congr fun i hi => ?_
  obtain ⟨h1, h2, h3⟩ := h.2.1 i hi
  have hw := toWin_eq (h1 22 (by decide) (by decide))
  rw [h1 23 (by decide) (by decide)]
  by_cases g : S.2.1 25 (3 * i + r) = some x
  · rw [wonBy_eq h.2.2, h3 r hr (by rw [g]; exact fun z => by cases z)]
    refine ite_iff ?_ _ _
    rw [h1 21 (by decide) (by decide), h2 r hr, hw]
  · rw [if_neg (fun z => g ((h2 r hr).symm.trans z.2.2)), if_neg (fun z => g z.2.2)]
theorem stakesS_eq (h : btSame S S') {b r : Nat} (hr : r < 3) (h3 : S'.1 0 3 = S.1 0 3) (h10 : S'.1 10 r = S.1 10 r) (h11 : S'.1 11 r = S.1 11 r) : stakesS S' b r = stakesS S b r := by
  unfold stakesS
  rw [h.1]
  refine sumN_congr fun i hi => ?_
  obtain ⟨h1, h2, _⟩ := h.2.1 i hi
  have hw := toWin_eq (h1 22 (by decide) (by decide))
  have hl : legRuns S' i r = legRuns S i r := by
    unfold legRuns runsS
    rw [h2 r hr, h3, h10, h11]
  rw [h1 23 (by decide) (by decide)]
  refine ite_iff ?_ _ _
  rw [h1 21 (by decide) (by decide), hl, hw]
theorem RvO_keep {b : Nat} (h : RvO S μ b) (hb : btSame S S') (h3 : S'.1 0 3 = S.1 0 3) (h10 : ∀ r, r < 3 → S'.1 10 r = S.1 10 r) (h11 : ∀ r, r < 3 → S'.1 11 r = S.1 11 r) : RvO S' μ b := by
  refine ⟨fun r x hr hx => ?_, fun r hr => ?_⟩
  · unfold stkA bckA
    rw [h11 r hr, stkOn_eq hb hr, backsS_eq hb hr, betsOn_eq hb hr]
    exact h.1 r x hr hx
  · rw [stakesS_eq hb hr h3 (h10 r hr) (h11 r hr)]
    exact h.2 r hr
theorem bk_of (hb : btSame S S') {i : Nat} (hi : i < S.1 0 6) (h : ∀ r, r < 3 → S'.1 10 r = S.1 10 r ∧ S'.1 11 r = S.1 11 r ∧ S'.1 13 r = S.1 13 r ∧ S'.1 14 r = S.1 14 r) (h18 : ∀ k, S'.1 18 k = S.1 18 k) (h19 : ∀ k, S'.2.1 19 k = S.2.1 19 k) : bkSame S S' i := by
  obtain ⟨h1, h2, h3⟩ := hb.2.1 i hi
  refine ⟨fun c hc => h1 c (by omega) (by omega), h2, fun r hr hl => ?_, hb.2.2⟩
  obtain ⟨a1, a2, a3, a4⟩ := h r hr
  exact ⟨h3 r hr hl, a1, a2, a3, a4, fun x _ => ⟨h18 _, h19 _⟩⟩
theorem TxB_keep {b : Nat} (h : TxB S μ b) (e : S'.2.2 b = S.2.2 b) : TxB S' μ b := by
  unfold TxB at h ⊢
  rw [e]
  exact h
/-- only slates changed -/
theorem RepV_slate (hW : WF B S) (hV : RepV S μ) (e1 : S'.1 = S.1) (e2 : S'.2.2 = S.2.2) (e3 : ∀ c, c ≠ 17 → S'.2.1 c = S.2.1 c) (hm : ∀ c k, (c < 9 ∨ 22 < c) → (∀ b, b < 4 → c ≠ 40 + 8 * b + 1) → μ'.1 c k = μ.1 c k) (hs : ∀ b k, b < S.1 0 4 → k < 24 → μ'.1 (40 + 8 * b + 1) k = oI (S'.2.1 17 (24 * b + k))) : RepV S' μ' := by
  have h3 := hW.1
  have bs : btSame S S' := ⟨by rw [e1], fun i hi => ⟨fun c _ _ => by rw [e1], fun r _ => by rw [e3 25 (by decide)], fun r _ _ => by rw [e1]⟩, fun s => by rw [e1]; exact ⟨rfl, rfl⟩⟩
  have e19 : ∀ k, S'.2.1 19 k = S.2.1 19 k := fun k => by rw [e3 19 (by decide)]
  refine ⟨?_, fun r hr => ?_, fun b hb => ?_, fun i hi => ?_⟩
  · have hG := RvG_same hV.1 (μ' := μ') fun c k hc => hm c k (by omega) (fun b _ => by omega)
    unfold RvG at hG ⊢
    rw [e1]
    exact hG
  · rw [e1] at hr
    exact RvR_keep (RvR_same (hV.2.1 r hr) fun c k c1 c2 => hm c k (by omega) (fun b _ => by omega)) (fun c _ _ => by rw [e1]) (fun x => by rw [e1]) (by rw [e1]) (fun s _ => by rw [e1])
  · rw [e1] at hb
    obtain ⟨b0, b1, b2, b3, b4, b5, b6⟩ := hV.2.2.1 b hb
    have mm : ∀ c k, 40 + 8 * b ≤ c → c ≤ 40 + 8 * b + 7 → c ≠ 40 + 8 * b + 1 → μ'.1 c k = μ.1 c k := fun c k c1 c2 c3 => hm c k (by omega) (fun b' _ => by omega)
    refine ⟨by rw [mm _ _ (by omega) (by omega) (by omega), e1]; exact b0, by rw [mm _ _ (by omega) (by omega) (by omega), e1]; exact b1, by rw [mm _ _ (by omega) (by omega) (by omega), betsOf_eq bs]; exact b2, fun k hk => hs b k hb hk, fun r x hr hx => ?_, ?_, ?_⟩
    · rw [e1] at hr hx
      rw [mm _ _ (by omega) (by omega) (by omega), e19]
      exact b4 r x hr hx
    · refine RvO_keep (S := S) ?_ bs (by rw [e1]) (fun r _ => by rw [e1]) (fun r _ => by rw [e1])
      refine ⟨fun r x hr hx => ?_, fun r hr => ?_⟩
      · rw [mm _ _ (by omega) (by omega) (by omega), mm _ _ (by omega) (by omega) (by omega), mm _ _ (by omega) (by omega) (by omega)]
        exact b5.1 r x hr hx
      · rw [mm _ _ (by omega) (by omega) (by omega)]
        exact b5.2 r hr
    · refine TxB_keep (S := S) ?_ (by rw [e2])
      unfold TxB at b6 ⊢
      rw [mm _ _ (by omega) (by omega) (by omega), mm _ _ (by omega) (by omega) (by omega)]
      refine ⟨b6.1, fun hn => ?_⟩
      obtain ⟨n, t, g1, g2, g3, g4, g5, g6⟩ := b6.2 hn
      exact ⟨n, t, g1, g2, g3, fun k hk => by rw [mm _ _ (by omega) (by omega) (by omega)]; exact g4 k hk, g5, g6⟩
  · rw [e1] at hi
    refine RvT_keep (RvT_same (hV.2.2.2 i hi) fun c k c1 c2 => hm c k (by omega) (fun b _ => by omega)) (fun c _ _ => by rw [e1]) (by rw [e1]) (by rw [e1]) (fun r _ => by rw [e3 25 (by decide)]) (fun r _ _ => by rw [e1]) (fun _ => backS_eq hW hi (bk_of bs hi (fun r _ => by rw [e1]; exact ⟨rfl, rfl, rfl, rfl⟩) (fun k => by rw [e1]) e19))
variable {kd : z_K} {q : z_Q}
theorem KQ_same (h : KQ S kd q) (h3 : S'.1 0 3 = S.1 0 3) (h4 : S'.1 0 4 = S.1 0 4) (h6 : S'.1 0 6 = S.1 0 6) : KQ S' kd q := by
  unfold KQ FrA at h ⊢
  rw [h3, h4, h6]
  exact h
theorem c_slate (hQ : KQ S kd q) (hV : RepV S μ) (hW : WF B S) {a b c d : Int32} {K : Int32 → z_M → Prop} (hK : ∀ μ', RepV (opSlate S a b c d).2 μ' → K (opSlate S a b c d).1 μ') : C_X11_slate kd q a b c d μ K := by
  have h3 := hW.1
  unfold C_X11_slate
  unfold opSlate at hK
  refine c_bookAt hQ hV.1 hW (fun bk hb e => ?_) (fun g => ?_)
  · subst e
    rw [ixO_some hb (by omega)] at hK
    dsimp only at hK
    refine c_raceAt hQ hV.1 hW (fun r hr e => opt_s (opt_s ?_)) (fun g => opt_s (opt_n ?_))
    · subst e
      have h4 := hW.2.2.1 r hr
      rw [ixO_some hr (by omega)] at hK
      dsimp only at hK
      refine c_runs (hV.to0.2.1 r hr) hr h4.2.1 h4.2.2.1 (fun h hx e => ?_) (fun g => ?_)
      · subst e
        have hh := hx.2.1
        rw [ixO_some hx.2.1 (by omega)] at hK
        dsimp only at hK
        rw [if_neg (by rw [hx.2.2]; decide)] at hK
        rw [if_neg i10, (hV.2.1 r hr).2.2.1]
        refine ifc (nI_eq (b := 0) (by omega) (by decide)) (fun e0 => ?_) (fun e0 => ?_)
        · rw [if_pos e0] at hK
          have fin : ∀ o, d = oI o → stO d (S.1 0 5) = some o → L_X11_slate_63 kd q K (nI r) (nI h) d (40 + 8 * bk) μ := fun o ed es => by
            rw [es] at hK
            dsimp only at hK
            unfold L_X11_slate_63
            refine c_spot ?_
            rw [nI_clamp (by omega)]
            refine ⟨nI_vin (by omega) (by decide), hK _ (RepV_slate hW hV rfl rfl (fun c hc => funext fun k => ?_) (fun c k _ hc => ?_) (fun b' k hb' hk => ?_))⟩
            · rw [setO_2, if_neg (fun z => hc z.1)]
            · rw [si1, if_neg (fun z => hc bk (by omega) z.1)]
            · rw [si1, setO_2]
              by_cases e9 : b' = bk ∧ k = 8 * r + h
              · rw [if_pos ⟨by omega, e9.2⟩, if_pos ⟨rfl, by omega⟩]
                exact ed
              · rw [if_neg (by omega), if_neg (by omega)]
                exact (hV.2.2.1 b' hb').2.2.2.1 k hk
          refine ifd (fun em => fin none em (by unfold stO; rw [if_pos em])) (fun em => ?_)
          refine c_holdsP hV.1 hW (fun s hs es => ?_) (fun g => ?_)
          · rw [if_neg i10]
            exact fin (some s) es (by unfold stO; rw [if_neg em, es, ixO_some hs (by omega)])
          · rw [if_pos rfl]
            rw [show stO d (S.1 0 5) = none by unfold stO; rw [if_neg em, ixO_none g]] at hK
            exact hK μ hV
        · rw [if_neg e0] at hK
          exact hK μ hV
      · rw [if_pos rfl]
        cases e2 : ixO c (S.1 10 r) with
        | none => rw [e2] at hK; exact hK μ hV
        | some h =>
          obtain ⟨g3, g4⟩ := ixO_inv e2
          rw [e2] at hK
          dsimp only at hK
          rw [if_pos] at hK
          · exact hK μ hV
          · cases e3 : (S.1 11 r).testBit h with
            | true => rfl
            | false => exact absurd g4 (g h ⟨hr, g3, e3⟩)
    · rw [ixO_none g] at hK
      exact hK μ hV
  · rw [ixO_none g] at hK
    exact c_raceAt hQ hV.1 hW (fun r hr e => opt_n (hK μ hV)) (fun g => opt_n (hK μ hV))
end KEEP
