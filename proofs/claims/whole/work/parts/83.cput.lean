/-! The class: a bet put into its book, and the book's way behind it. -/
theorem if10 {A B : Prop} (h : B) : if (1 : Int32) = 0 then A else B := by
  rw [if_neg i10]
  exact h
theorem if00 {A B : Prop} (h : A) : if (0 : Int32) = 0 then A else B := by
  rw [if_pos rfl]
  exact h
section CPUT
variable {B : Nat} {S : z_SS} {μ μ' : z_M} {kd : z_K} {q : z_Q} {z b kk st paid : Nat} {leg : Nat → Option Nat}
theorem newBet_congr {l l' : Nat → Option Nat} (h : ∀ r, r < 3 → l r = l' r) : newBet S z b kk st paid l = newBet S z b kk st paid l' := by
  have e : ∀ k, 3 * S.1 0 6 ≤ k → k < 3 * S.1 0 6 + 3 → l (k - 3 * S.1 0 6) = l' (k - 3 * S.1 0 6) := fun k h1 h2 => h _ (by omega)
  unfold newBet
  refine Prod.ext (funext fun c => funext fun k => ?_) (Prod.ext (funext fun c => funext fun k => ?_) rfl)
  · dsimp only
    by_cases g : c = 26 ∧ 3 * S.1 0 6 ≤ k ∧ k < 3 * S.1 0 6 + 3
    · rw [e k g.2.1 g.2.2]
    · rw [if_neg g, if_neg g]
  · dsimp only
    by_cases g : c = 25 ∧ 3 * S.1 0 6 ≤ k ∧ k < 3 * S.1 0 6 + 3
    · rw [e k g.2.1 g.2.2]
    · rw [if_neg g, if_neg g]
theorem c_rides {o r h : Nat} (hr : r < 3) (hh : h < 8) {v : Int32} {K : z_M → Prop} (hK : ∀ μ', (∀ k, μ'.1 (o + 6) k = if k = 8 * r + h then μ.1 (o + 6) k + v else μ.1 (o + 6) k) → (∀ c k, c ≠ o + 6 → μ'.1 c k = μ.1 c k) → K μ') : C_X1_rides kd q o (nI (8 * r + h)) v μ K := by
  unfold C_X1_rides
  rw [if_neg (Int32.not_lt.mpr (nI_pos' (by omega))), nI_clamp (by omega)]
  refine ifc (nI_leI (a := 24) (by decide) (by omega)) (fun g => absurd g (by omega)) (fun _ => ⟨nI_vin (by omega) (by decide), hK _ (fun k => ?_) (fun c k hc => by rw [si1, if_neg (fun z => hc z.1)])⟩)
  rw [si1]
  by_cases e : k = 8 * r + h
  · rw [if_pos ⟨rfl, e⟩, if_pos e, e]
  · rw [if_neg (fun z => e z.2), if_neg e]
theorem c_owes {o r h : Nat} (hr : r < 3) (hh : h < 8) {v w : Int32} {K : z_M → Prop} (hK : ∀ μ', (∀ k, μ'.1 (o + 3) k = if k = 8 * r + h then μ.1 (o + 3) k + v else μ.1 (o + 3) k) → (∀ k, μ'.1 (o + 4) k = if k = r then μ.1 (o + 4) k + v else μ.1 (o + 4) k) → (∀ k, μ'.1 (o + 5) k = if k = 8 * r + h then μ.1 (o + 5) k + (v + w) else μ.1 (o + 5) k) → (∀ c k, c ≠ o + 3 → c ≠ o + 4 → c ≠ o + 5 → μ'.1 c k = μ.1 c k) → K μ') : C_X1_owes kd q o (nI (8 * r + h)) v w μ K := by
  have e8 : nI (8 * r + h) / 8 = nI r := by
    rw [show (8 : Int32) = nI 8 from rfl, pk_div (by omega) (by decide) (by decide)]
    congr 1
    omega
  unfold C_X1_owes
  rw [if_neg (Int32.not_lt.mpr (nI_pos' (by omega))), e8, nI_clamp (n := 8 * r + h) (by omega), nI_clamp (n := r) (by omega)]
  refine ifc (nI_leI (a := 24) (by decide) (by omega)) (fun g => absurd g (by omega)) (fun _ => ⟨nI_vin (by omega) (by decide), nI_vin (by omega) (by decide), hK _ (fun k => ?_) (fun k => ?_) (fun k => ?_) (fun c k h1 h2 h3 => ?_)⟩)
  · rw [si1, if_neg (by omega), si1, if_neg (by omega), si1]
    by_cases e : k = 8 * r + h
    · rw [if_pos ⟨rfl, e⟩, if_pos e, e]
    · rw [if_neg (fun z => e z.2), if_neg e]
  · rw [si1, if_neg (by omega), si1]
    by_cases e : k = r
    · rw [if_pos ⟨rfl, e⟩, if_pos e, e, si1, if_neg (by omega)]
    · rw [if_neg (fun z => e z.2), if_neg e, si1, if_neg (by omega)]
  · rw [si1]
    by_cases e : k = 8 * r + h
    · rw [if_pos ⟨rfl, e⟩, if_pos e, e, si1, if_neg (by omega), si1, if_neg (by omega)]
    · rw [if_neg (fun z => e z.2), if_neg e, si1, if_neg (by omega), si1, if_neg (by omega)]
  · rw [si1, if_neg (fun z => h3 z.1), si1, if_neg (fun z => h2 z.1), si1, if_neg (fun z => h1 z.1)]
/-- the cell of a bet that isn't counted yet -/
def NBt (S : z_SS) (μ : z_M) (z b kk st : Nat) (leg : Nat → Option Nat) : Prop := (μ.1 (100 + 3 * S.1 0 6) 0 = nI z ∧ μ.1 (100 + 3 * S.1 0 6) 1 = nI b ∧ μ.1 (100 + 3 * S.1 0 6) 2 = nI kk ∧ μ.1 (100 + 3 * S.1 0 6) 3 = nI st ∧ μ.1 (100 + 3 * S.1 0 6) 4 = nI (S.1 0 2)) ∧ (∀ r, r < 3 → μ.1 (100 + 3 * S.1 0 6 + 1) r = oI (leg r)) ∧ (∀ r x s, r < 3 → leg r = some x → S.2.1 17 (24 * b + 8 * r + x) = some s → μ.1 (100 + 3 * S.1 0 6 + 2) r = nI s) ∧ ((∃ r, r < 3 ∧ μ.1 (100 + 3 * S.1 0 6) 7 = nI r) ∧ (kk ≠ 3 → μ.1 (100 + 3 * S.1 0 6) 7 = nI (raceOfS (newBet S z b kk st 0 leg) (S.1 0 6)))) ∧ μ.1 (100 + 3 * S.1 0 6) 8 = nI 0 ∧ μ.1 (100 + 3 * S.1 0 6) 9 = nI 0
theorem NBt_same (h : NBt S μ z b kk st leg) (hm : ∀ c k, 100 + 3 * S.1 0 6 ≤ c → μ'.1 c k = μ.1 c k) : NBt S μ' z b kk st leg := by
  unfold NBt at h ⊢
  simp only [hm (100 + 3 * S.1 0 6) _ (by omega), hm (100 + 3 * S.1 0 6 + 1) _ (by omega), hm (100 + 3 * S.1 0 6 + 2) _ (by omega)]
  exact h
theorem RvG_nb (h : RvG S μ) (h15 : μ'.1 0 15 = nI (S.1 0 6 + 1)) (hm : ∀ c k, c ≤ 5 → (c ≠ 0 ∨ k ≠ 15) → μ'.1 c k = μ.1 c k) : RvG (newBet S z b kk st paid leg) μ' := by
  have f : ∀ c k, (c ≠ 0 ∨ k ≠ 6) → c < 15 → (newBet S z b kk st paid leg).1 c k = S.1 c k := fun c k h1 h2 => nbg h1 (Or.inl (by omega)) (by omega) (by omega)
  obtain ⟨a1, a2, a3, a4, a5, a6, a7, a8⟩ := h
  refine ⟨?_, ?_, ?_, ?_, ?_, fun k hk => ?_, ?_, fun s hs => ?_⟩
  · rw [hm 0 12 (by omega) (by omega), f 0 2 (by omega) (by omega)]
    exact a1
  · rw [hm 0 13 (by omega) (by omega), f 0 3 (by omega) (by omega)]
    exact a2
  · rw [hm 0 14 (by omega) (by omega), f 0 4 (by omega) (by omega)]
    exact a3
  · rw [h15, nb6]
  · rw [hm 1 1 (by omega) (by omega), f 0 1 (by omega) (by omega)]
    exact a5
  · rw [hm 2 k (by omega) (by omega), f 1 k (by omega) (by omega)]
    exact a6 k hk
  · rw [hm 3 2 (by omega) (by omega), f 0 5 (by omega) (by omega)]
    exact a7
  · rw [f 0 5 (by omega) (by omega)] at hs
    rw [hm 4 s (by omega) (by omega), hm 5 s (by omega) (by omega), f 8 s (by omega) (by omega), f 9 s (by omega) (by omega)]
    exact a8 s hs
theorem RepV_nb (hW : WF 80 S) (hV : RepV S μ) (hn : S.1 0 6 < 80) (hb : b < S.1 0 4) (hl : ∀ r x, r < 3 → leg r = some x → runsS S r x ∧ ∃ s, S.2.1 17 (24 * b + 8 * r + x) = some s) (hN : NBt S μ z b kk st leg) (m15 : μ'.1 0 15 = nI (S.1 0 6 + 1)) (mp : μ'.1 (40 + 8 * b) 0 = nI (S.1 15 b + paid)) (mc : μ'.1 (40 + 8 * b) 2 = nI (betsOf S b + 1)) (hO : RvO (newBet S z b kk st paid leg) μ' b) (mk : ∀ c k, (c ≠ 0 ∨ k ≠ 15) → (c ≠ 40 + 8 * b ∨ (k ≠ 0 ∧ k ≠ 2)) → (c < 40 + 8 * b + 3 ∨ 40 + 8 * b + 6 < c) → μ'.1 c k = μ.1 c k) : RepV (newBet S z b kk st paid leg) μ' := by
  have h3 := hW.1
  have f : ∀ c k, (c ≠ 0 ∨ k ≠ 6) → (c ≠ 15 ∨ k ≠ b) → c < 20 → (newBet S z b kk st paid leg).1 c k = S.1 c k := fun c k h1 h15 h2 => nbg h1 h15 (by omega) (by omega)
  have bs : ∀ i, i < S.1 0 6 → bkSame S (newBet S z b kk st paid leg) i := fun i hi => by
    refine ⟨fun c hc => nbg (Or.inl (by omega)) (Or.inl (by omega)) (by omega) (by omega), fun r hr => nb25o (by omega), fun r hr hx => ⟨nbg (Or.inl (by decide)) (Or.inl (by decide)) (by omega) (by omega), f 10 r (by omega) (by omega) (by omega), f 11 r (by omega) (by omega) (by omega), f 13 r (by omega) (by omega) (by omega), f 14 r (by omega) (by omega) (by omega), fun x _ => ⟨f 18 _ (by omega) (by omega) (by omega), by rw [nbo (by decide)]⟩⟩, fun s => ⟨f 8 s (by omega) (by omega) (by omega), f 9 s (by omega) (by omega) (by omega)⟩⟩
  refine ⟨RvG_nb hV.1 m15 fun c k h1 h2 => mk c k h2 (by omega) (by omega), fun r hr => ?_, fun b' hb' => ?_, fun i hi => ?_⟩
  · rw [f 0 3 (by omega) (by omega) (by omega)] at hr
    exact RvR_keep (RvR_same (hV.2.1 r hr) fun c k c1 c2 => mk c k (by omega) (by omega) (by omega)) (fun c c1 c2 => f c r (by omega) (by omega) (by omega)) (fun x => f 18 _ (by omega) (by omega) (by omega)) (f 0 2 (by omega) (by omega) (by omega)) (fun s _ => nbg (Or.inl (by decide)) (Or.inl (by decide)) (by omega) (by omega))
  · rw [f 0 4 (by omega) (by omega) (by omega)] at hb'
    by_cases eb : b' = b
    · subst eb
      obtain ⟨b0, b1, b2, b3, b4, b5, b6⟩ := hV.2.2.1 b' hb'
      refine ⟨by rw [mp, nb15, if_pos rfl], by rw [mk _ 1 (by omega) (by omega) (by omega), f 16 b' (by omega) (by omega) (by omega)]; exact b1, by rw [mc, betsOf_nb, if_pos rfl], fun k hk => by rw [mk _ k (by omega) (by omega) (by omega), nbo (by decide)]; exact b3 k hk, fun r x hr hx => ?_, hO, ?_⟩
      · rw [f 0 3 (by omega) (by omega) (by omega)] at hr
        rw [f 11 r (by omega) (by omega) (by omega)] at hx
        rw [mk _ _ (by omega) (by omega) (by omega), nbo (by decide)]
        exact b4 r x hr hx
      · refine TxB_keep (S := S) ?_ (congrFun nb_live _)
        unfold TxB at b6 ⊢
        rw [mk _ 11 (by omega) (by omega) (by omega), mk _ 10 (by omega) (by omega) (by omega)]
        refine ⟨b6.1, fun hne => ?_⟩
        obtain ⟨n, t, g1, g2, g3, g4, g5, g6⟩ := b6.2 hne
        exact ⟨n, t, g1, g2, g3, fun k hk => by rw [mk _ k (by omega) (by omega) (by omega)]; exact g4 k hk, g5, g6⟩
    · obtain ⟨b0, b1, b2, b3, b4, b5, b6⟩ := RvB_same (hV.2.2.1 b' hb') (μ' := μ') fun c k c1 c2 => mk c k (by omega) (by omega) (by omega)
      refine ⟨by rw [nb15, if_neg eb]; exact b0, by rw [f 16 b' (by omega) (by omega) (by omega)]; exact b1, by rw [betsOf_nb, if_neg eb]; exact b2, fun k hk => by rw [nbo (by decide)]; exact b3 k hk, fun r x hr hx => ?_, RvO_nb0 b5 (Or.inl eb) (fun r x hr e => (hl r x hr e).1), TxB_keep b6 (congrFun nb_live _)⟩
      rw [f 0 3 (by omega) (by omega) (by omega)] at hr
      rw [f 11 r (by omega) (by omega) (by omega)] at hx
      rw [nbo (by decide)]
      exact b4 r x hr hx
  · rw [nb6] at hi
    by_cases ei : i = S.1 0 6
    · subst ei
      obtain ⟨⟨n0, n1, n2, n3, n4⟩, n5, n6, n7, n8, n9⟩ := NBt_same (μ' := μ') hN fun c k hc => mk c k (by omega) (by omega) (by omega)
      refine ⟨⟨by rw [nb20, if_pos rfl]; exact n0, by rw [nb21, if_pos rfl]; exact n1, by rw [nb22, if_pos rfl]; exact n2, by rw [nb23, if_pos rfl]; exact n3, by rw [nb24, if_pos rfl]; exact n4⟩, fun r hr => by rw [nb25n hr]; exact n5 r hr, fun r hr hx => ?_, ⟨n7.1, fun e => ?_⟩, by rw [nb27, if_pos rfl]; exact n8, by rw [nb28, if_pos rfl]; exact n9, fun e => ?_⟩
      · rw [nb25n hr] at hx
        cases el : leg r with
        | none => exact absurd el hx
        | some x =>
          obtain ⟨s, es⟩ := (hl r x hr el).2
          rw [nb26n hr el es]
          exact n6 r x s hr el es
      · rw [nb22, if_pos rfl] at e
        exact n7.2 e
      · rw [nb27, if_pos rfl] at e
        cases e
    · have hi' : i < S.1 0 6 := by omega
      exact RvT_keep (RvT_same (hV.2.2.2 i hi') fun c k c1 c2 => mk c k (by omega) (by omega) (by omega)) (fun c c1 c2 => nbg (Or.inl (by omega)) (Or.inl (by omega)) (by omega) (by omega)) (nbg (Or.inl (by decide)) (Or.inl (by decide)) (by omega) (by omega)) (nbg (Or.inl (by decide)) (Or.inl (by decide)) (by omega) (by omega)) (fun r hr => nb25o (by omega)) (fun r hr _ => nbg (Or.inl (by decide)) (Or.inl (by decide)) (by omega) (by omega)) (fun _ => backS_eq hW hi' (bs i hi'))
def legM (leg : Nat → Option Nat) (m : Nat) : Nat → Option Nat := fun q => if q < m then leg q else none
theorem c_horseN {c m : Nat} (hm : m < 3) {K : Int32 → z_M → Prop} (hK : K (μ.1 (c + 1) m) μ) : C_X0_horseIn kd q c (nI m) μ K := by
  unfold C_X0_horseIn
  rw [if_neg (Int32.not_lt.mpr (nI_pos' (by omega))), nI_clamp (by omega)]
  exact ifc (nI_leI (a := 3) (by decide) (by omega)) (fun g => absurd g (by omega)) (fun _ => ⟨nI_vin hm (by decide), hK⟩)
theorem c_stepN {c m : Nat} (hm : m < 3) {K : Int32 → z_M → Prop} (hK : K (μ.1 (c + 2) m) μ) : C_X0_stepIn kd q c (nI m) μ K := by
  unfold C_X0_stepIn
  rw [if_neg (Int32.not_lt.mpr (nI_pos' (by omega))), nI_clamp (by omega)]
  exact ifc (nI_leI (a := 3) (by decide) (by omega)) (fun g => absurd g (by omega)) (fun _ => ⟨nI_vin hm (by decide), hK⟩)
theorem c_put (hW : WF 80 S) (hV : RepV S μ) (hn : S.1 0 6 < 80) (hz : z < 16) (hb : b < S.1 0 4) (hkk : kk ≤ 3) (s1 : 1 ≤ st) (s2 : st ≤ 20000) (hl : ∀ r x, r < 3 → leg r = some x → runsS S r x ∧ S.1 12 r = 0 ∧ ∃ s, S.2.1 17 (24 * b + 8 * r + x) = some s) (he : ∃ r, r < 3 ∧ leg r ≠ none) (hu : kk ≠ 3 → ∀ r r', r < 3 → r' < 3 → leg r ≠ none → leg r' ≠ none → r = r') (hN : NBt S μ z b kk st leg) {K : z_Q → z_M → Prop} (hK : ∀ μ', WF 80 (newBet S z b kk st (if kk = 2 then 2 * st else st) leg) → RepV (newBet S z b kk st (if kk = 2 then 2 * st else st) leg) μ' → K (sr q 8 (S.1 0 6) (some (100 + 3 * S.1 0 6))) μ') : C_X11_put kd q (some (100 + 3 * S.1 0 6)) (some (40 + 8 * b)) μ K := by
  have h3 := hW.1
  have hl' : ∀ r x, r < 3 → leg r = some x → runsS S r x ∧ ∃ s, S.2.1 17 (24 * b + 8 * r + x) = some s := fun r x hr e => ⟨(hl r x hr e).1, (hl r x hr e).2.2⟩
  generalize hpd : (if kk = 2 then 2 * st else st) = paid at hK
  have hp : paid ≤ 40000 := by
    rw [← hpd]
    split <;> omega
  have hWN : WF 80 (newBet S z b kk st paid leg) := newBet_WF hW hn hz hb hkk s1 s2 hp hl he hu
  have e15 : μ.1 0 15 = nI (S.1 0 6) := hV.1.2.2.2.1
  obtain ⟨b0, b1, b2, b3, b4, b5, b6⟩ := hV.2.2.1 b hb
  have hN0 := hN
  obtain ⟨⟨n0, n1, n2, n3, n4⟩, n5, n6, n7, n8, n9⟩ := hN
  have x1 : ∀ v, (si μ 0 15 v).1 (40 + 8 * b) 2 = nI (betsOf S b) := fun v => by
    rw [si1, if_neg (by omega)]
    exact b2
  have x2 : ∀ v w k, (si (si μ 0 15 v) (40 + 8 * b) 2 w).1 (100 + 3 * S.1 0 6) k = μ.1 (100 + 3 * S.1 0 6) k := fun v w k => by rw [si1, if_neg (by omega), si1, if_neg (by omega)]
  have x3 : ∀ v w, (si (si μ 0 15 v) (40 + 8 * b) 2 w).1 (40 + 8 * b) 0 = nI (S.1 15 b) := fun v w => by
    rw [si1, if_neg (by omega), si1, if_neg (by omega)]
    exact b0
  have loop : ∀ m2 : z_M, m2.1 0 15 = nI (S.1 0 6 + 1) → m2.1 (40 + 8 * b) 0 = nI (S.1 15 b + paid) → m2.1 (40 + 8 * b) 2 = nI (betsOf S b + 1) → (∀ c k, (c ≠ 0 ∨ k ≠ 15) → (c ≠ 40 + 8 * b ∨ (k ≠ 0 ∧ k ≠ 2)) → m2.1 c k = μ.1 c k) → L_X11_put_62 kd K (100 + 3 * S.1 0 6) (40 + 8 * b) 0 (sr q 8 (S.1 0 6) (some (100 + 3 * S.1 0 6))) m2 := by
    intro m2 g15 gp gc gk
    unfold L_X11_put_62
    intro P hP
    have key : ∀ m, m ≤ 3 → ∀ μm : z_M, RvO (newBet S z b kk st paid (legM leg m)) μm b → (∀ c k, (c < 40 + 8 * b + 3 ∨ 40 + 8 * b + 6 < c) → μm.1 c k = m2.1 c k) → P (100 + 3 * S.1 0 6) (40 + 8 * b) (nI m) (sr q 8 (S.1 0 6) (some (100 + 3 * S.1 0 6))) μm := by
      refine downTo 3 ?_ (fun m hm ih => ?_)
      · intro μm hO hk
        refine hP _ _ _ _ _ ?_
        unfold B_X11_put_62
        rw [if_pos (show (3 : Int32) ≤ nI 3 by decide)]
        rw [newBet_congr (l := legM leg 3) (l' := leg) (fun r hr => if_pos hr)] at hO
        exact hK μm hWN (RepV_nb hW hV hn hb hl' hN0 (by rw [hk _ _ (by omega)]; exact g15) (by rw [hk _ _ (by omega)]; exact gp) (by rw [hk _ _ (by omega)]; exact gc) hO fun c k h1 h2 h4 => by rw [hk c k h4, gk c k h1 h2])
      · intro μm hO hk
        have hG : RvG (newBet S z b kk st paid leg) μm := RvG_nb hV.1 (by rw [hk _ _ (by omega)]; exact g15) fun c k h1 h2 => by rw [hk c k (by omega), gk c k h2 (by omega)]
        have old : ∀ c k, 100 + 3 * S.1 0 6 ≤ c → μm.1 c k = μ.1 c k := fun c k hc => by rw [hk c k (by omega), gk c k (by omega) (by omega)]
        refine hP _ _ _ _ _ ?_
        unfold B_X11_put_62
        refine ifc (nI_leI (a := 3) (by decide) (by omega)) (fun g => absurd g (by omega)) (fun _ => c_horseN hm ?_)
        rw [old _ _ (by omega), n5 m hm, nI_1]
        cases el : leg m with
        | none =>
          rw [if_pos oI_none]
          refine ih μm ?_ hk
          rw [newBet_congr (l := legM leg (m + 1)) (l' := legM leg m) (fun r hr => ?_)]
          · exact hO
          · unfold legM
            by_cases e : r < m
            · rw [if_pos e, if_pos (by omega)]
            · rw [if_neg e]
              by_cases e2 : r = m
              · rw [e2, el, if_pos (Nat.lt_succ_self m)]
              · rw [if_neg (by omega)]
        | some x =>
          obtain ⟨hrun, h12, s, es⟩ := hl m x hm el
          have h4 := hW.2.2.1 m hrun.1
          have hx8 := hrun.2.1
          have hs := (wf17 hW (by omega) es).1
          rw [oI_some, if_neg (nI_ne_m1 (by omega))]
          have step : ∀ μ' : z_M, (∀ k, μ'.1 (40 + 8 * b + 6) k = if k = 8 * m + x then μm.1 (40 + 8 * b + 6) k + 1 else μm.1 (40 + 8 * b + 6) k) → (∀ k, μ'.1 (40 + 8 * b + 3) k = if winK kk ∧ k = 8 * m + x then μm.1 (40 + 8 * b + 3) k + nI st else μm.1 (40 + 8 * b + 3) k) → (∀ k, μ'.1 (40 + 8 * b + 4) k = if winK kk ∧ k = m then μm.1 (40 + 8 * b + 4) k + nI st else μm.1 (40 + 8 * b + 4) k) → (∀ k, μ'.1 (40 + 8 * b + 5) k = if winK kk ∧ k = 8 * m + x then μm.1 (40 + 8 * b + 5) k + nI (st + wonBy S st s) else μm.1 (40 + 8 * b + 5) k) → (∀ c k, (c < 40 + 8 * b + 3 ∨ 40 + 8 * b + 6 < c) → μ'.1 c k = μm.1 c k) → P (100 + 3 * S.1 0 6) (40 + 8 * b) (nI (m + 1)) (sr q 8 (S.1 0 6) (some (100 + 3 * S.1 0 6))) μ' := fun μ' m6 m3 m4 m5 mo => by
            refine ih μ' (RvO_step (l := legM leg m) hm (by omega) hrun es (if_neg (Nat.lt_irrefl m)) (by unfold legM; rw [if_pos (Nat.lt_succ_self m)]; exact el) (fun r hr e => ?_) (fun r y hr e => ?_) hO m6 m3 m4 m5) fun c k hc => by rw [mo c k hc, hk c k hc]
            · unfold legM
              by_cases e1 : r < m
              · rw [if_pos e1, if_pos (by omega)]
              · rw [if_neg e1, if_neg (by omega)]
            · unfold legM at e
              by_cases e1 : r < m
              · rw [if_pos e1] at e
                exact hl' r y hr e
              · rw [if_neg e1] at e
                cases e
          refine c_spot (c_rides hm (by omega) fun μ1 r6 ro => ?_)
          have old1 : ∀ c k, 100 + 3 * S.1 0 6 ≤ c → μ1.1 c k = μ.1 c k := fun c k hc => by rw [ro c k (by omega), old c k hc]
          unfold C_X0_isToWin
          rw [old1 _ _ (Nat.le_refl _), n2]
          have win : winK kk → C_X11_spot kd (sr q 8 (S.1 0 6) (some (100 + 3 * S.1 0 6))) (nI m) (nI x) μ1 (fun r9 μ8 => C_X0_stepIn kd (sr q 8 (S.1 0 6) (some (100 + 3 * S.1 0 6))) (100 + 3 * S.1 0 6) (nI m) μ8 (fun r11 μ10 => C_X3_won kd (sr q 8 (S.1 0 6) (some (100 + 3 * S.1 0 6))) 3 (μ8.1 (100 + 3 * S.1 0 6) 3) r11 μ10 (fun r13 μ12 => C_X1_owes kd (sr q 8 (S.1 0 6) (some (100 + 3 * S.1 0 6))) (40 + 8 * b) r9 (μ8.1 (100 + 3 * S.1 0 6) 3) r13 μ12 (fun μ14 => P (100 + 3 * S.1 0 6) (40 + 8 * b) (nI (m + 1)) (sr q 8 (S.1 0 6) (some (100 + 3 * S.1 0 6))) μ14)))) := fun hw => by
            refine c_spot (c_stepN hm ?_)
            rw [old1 (100 + 3 * S.1 0 6 + 2) m (by omega), old1 (100 + 3 * S.1 0 6) 3 (Nat.le_refl _), n3, n6 m x s hm el es]
            have hG1 : RvG (newBet S z b kk st paid leg) μ1 := RvG_same hG fun c k hc => ro c k (by omega)
            refine c_won hG1 hWN (by omega) (by rw [nbg (c := 0) (Or.inr (by decide)) (Or.inl (by decide)) (by omega) (by omega)]; exact hs) ?_
            rw [nb_won]
            refine c_owes hm (by omega) fun μ2 o3 o4 o5 oo => step μ2 (fun k => ?_) (fun k => ?_) (fun k => ?_) (fun k => ?_) (fun c k hc => ?_)
            · rw [oo _ _ (by omega) (by omega) (by omega)]
              exact r6 k
            · rw [o3 k, ro _ _ (by omega)]
              exact ite_iff ⟨fun e => ⟨hw, e⟩, fun e => e.2⟩ _ _
            · rw [o4 k, ro _ _ (by omega)]
              exact ite_iff ⟨fun e => ⟨hw, e⟩, fun e => e.2⟩ _ _
            · rw [o5 k, ro _ _ (by omega), nI_add]
              exact ite_iff ⟨fun e => ⟨hw, e⟩, fun e => e.2⟩ _ _
            · rw [oo c k (by omega) (by omega) (by omega), ro c k (by omega)]
          refine ifc (nI_eq (b := 0) (by omega) (by decide)) (fun e => ?_) (fun e => ?_)
          · exact if10 (win (Or.inl e))
          · refine ifc (nI_eq (b := 2) (by omega) (by decide)) (fun e2 => ?_) (fun e2 => ?_)
            · exact if10 (win (Or.inr e2))
            · have nw : ¬ winK kk := fun z => z.elim e e2
              refine if00 ?_
              exact step μ1 r6 (fun k => by rw [if_neg (fun z => nw z.1)]; exact ro _ _ (by omega)) (fun k => by rw [if_neg (fun z => nw z.1)]; exact ro _ _ (by omega)) (fun k => by rw [if_neg (fun z => nw z.1)]; exact ro _ _ (by omega)) (fun c k hc => ro c k (by omega))
    refine key 0 (by decide) m2 (RvO_nb0 ⟨fun r x hr hx => ?_, fun r hr => ?_⟩ (Or.inr fun r _ => if_neg (Nat.not_lt_zero r)) (fun r x _ e => by unfold legM at e; rw [if_neg (Nat.not_lt_zero r)] at e; cases e)) (fun c k _ => rfl)
    · rw [gk _ _ (by omega) (by omega), gk _ _ (by omega) (by omega), gk _ _ (by omega) (by omega)]
      exact b5.1 r x hr hx
    · rw [gk _ _ (by omega) (by omega)]
      exact b5.2 r hr
  unfold C_X11_put
  refine ⟨_, rfl, by rw [e15]; exact nI_vin hn (by decide), _, rfl, ?_⟩
  simp only [e15, x1, x2, x3, n2, n3, nI_1]
  rw [nI_clamp (by omega), show (2 : Int32) = nI 2 from rfl, nI_mul]
  have fin : ∀ t : Nat, t = paid → L_X11_put_56 kd K (100 + 3 * S.1 0 6) (40 + 8 * b) (nI t) (nI (S.1 15 b)) (40 + 8 * b) (sr q 8 (S.1 0 6) (some (100 + 3 * S.1 0 6))) (si (si μ 0 15 (nI (S.1 0 6 + 1))) (40 + 8 * b) 2 (nI (betsOf S b + 1))) := fun t et => by
    subst et
    unfold L_X11_put_56
    rw [nI_add]
    refine loop _ ?_ ?_ ?_ (fun c k h1 h2 => ?_)
    · rw [si1, if_neg (by omega), si1, if_neg (by omega), si1, if_pos ⟨rfl, rfl⟩]
    · rw [si1, if_pos ⟨rfl, rfl⟩]
    · rw [si1, if_neg (by omega), si1, if_pos ⟨rfl, rfl⟩]
    · rw [si1, if_neg (by omega), si1, if_neg (by omega), si1, if_neg (by omega)]
  refine ifc (nI_eq (by omega) (by decide)) (fun e => fin _ ?_) (fun e => fin _ ?_)
  · rw [← hpd, if_pos e]
  · rw [← hpd, if_neg e]
theorem KQ_book (hQ : KQ S kd q) {b : Nat} (hb : b < S.1 0 4) : KQ S kd (sr q 9 1 (some (40 + 8 * b))) := by
  have k9 := hQ.k9
  have kb := (hQ.2.2.2.1 b hb).2
  obtain ⟨hI, h5, h6, h7, h8, h9, h10⟩ := hQ
  have o : ∀ c k, (c ≠ 9 ∨ k ≠ 1) → sr q 9 1 (some (40 + 8 * b)) c k = q c k := fun c k hc => by
    unfold sr
    rw [if_neg (by omega)]
  refine ⟨z_I_sb hI k9 (fun a e => by cases e; exact kb), h5, fun r hr => ⟨by rw [o _ _ (by omega)]; exact (h6 r hr).1, (h6 r hr).2⟩, fun b hb => ⟨by rw [o _ _ (by omega)]; exact (h7 b hb).1, (h7 b hb).2⟩, fun i hi => ⟨by rw [o _ _ (by omega)]; exact (h8 i hi).1, (h8 i hi).2⟩, h9, fun c j a' hc ha' => ?_⟩
  by_cases e : c = 9 ∧ j = 1
  · unfold sr at ha'
    rw [if_pos e] at ha'
    cases ha'
    rw [kb]
    exact fun z => by cases z
  · rw [o c j (by omega)] at ha'
    exact h10 c j a' hc ha'
/-- the moves behind a bet of these legs -/
def fS (S : z_SS) (b : Nat) (leg : Nat → Option Nat) : Nat → z_SS
  | 0 => S
  | m + 1 => mvO (fS S b leg m) b m (leg m)
theorem fS_1 : ∀ m, (fS S b leg m).1 = S.1 ∧ (fS S b leg m).2.2 = S.2.2 ∧ ∀ c, c ≠ 17 → (fS S b leg m).2.1 c = S.2.1 c
  | 0 => ⟨rfl, rfl, fun _ _ => rfl⟩
  | m + 1 => by
    obtain ⟨a1, a2, a3⟩ := fS_1 m
    obtain ⟨c1, c2, c3⟩ := mvO_1 (S := fS S b leg m) (b := b) (r := m) (o := leg m)
    exact ⟨c1.trans a1, c2.trans a2, fun c hc => (c3 c hc).trans (a3 c hc)⟩
theorem fS_WF (hW : WF B S) : ∀ m, WF B (fS S b leg m)
  | 0 => hW
  | m + 1 => mvO_WF (fS_WF hW m)
theorem c_follow (hQ : KQ S kd q) (hW : WF 80 S) (hV : RepV S μ) {i : Nat} (hi : i + 1 = S.1 0 6) (hb : b < S.1 0 4) (hbk : S.1 21 i = b) (hl : ∀ r x, r < 3 → leg r = some x → runsS S r x) (h25 : ∀ r, r < 3 → S.2.1 25 (3 * i + r) = leg r) (h24 : S.1 24 i = S.1 0 2) {K : z_Q → z_M → Prop} (hK : ∀ q' μ', KQ (fS S b leg 3) kd q' → RepV (fS S b leg 3) μ' → K q' μ') : C_X11_follow kd q (some (100 + 3 * i)) (some (40 + 8 * b)) μ K := by
  have h3 := hW.1
  obtain ⟨⟨t0, t1, t2, t3, t4⟩, t5, _⟩ := hV.2.2.2 i (by omega)
  have ei : S.1 0 6 - 1 = i := by omega
  unfold C_X11_follow
  refine ⟨_, rfl, ?_⟩
  unfold C_X8_setBettor L_X11_follow_21
  rw [t0, t3, t4]
  intro P hP
  have key : ∀ m, m ≤ 3 → ∀ (q1 : z_Q) (μ1 : z_M), KQ (fS S b leg m) kd q1 → RepV (fS S b leg m) μ1 → μ1.1 9 4 = nI (S.1 20 i) → μ1.1 9 5 = nI (S.1 23 i) → μ1.1 9 6 = nI (S.1 24 i) → P (100 + 3 * i) (some (40 + 8 * b)) (nI m) q1 μ1 := by
    refine downTo 3 ?_ (fun m hm ih => ?_)
    · intro q1 μ1 hQ1 hV1 _ _ _
      refine hP _ _ _ _ _ ?_
      unfold B_X11_follow_21
      rw [if_pos (show (3 : Int32) ≤ nI 3 by decide)]
      exact hK q1 μ1 hQ1 hV1
    · intro q1 μ1 hQ1 hV1 g4 g5 g6
      obtain ⟨f1, f2, f3⟩ := fS_1 (S := S) (b := b) (leg := leg) m
      have hW1 : WF 80 (fS S b leg m) := fS_WF hW m
      refine hP _ _ _ _ _ ?_
      unfold B_X11_follow_21
      refine ifc (nI_leI (a := 3) (by decide) (by omega)) (fun g => absurd g (by omega)) (fun _ => c_horseN hm ?_)
      rw [(hV1.2.2.2 i (by rw [f1]; omega)).2.1 m hm, f3 25 (by decide), h25 m hm, nI_1]
      have ef : fS S b leg (m + 1) = mvO (fS S b leg m) b m (leg m) := rfl
      rw [ef] at ih
      cases el : leg m with
      | none =>
        rw [el] at ih
        rw [if_pos oI_none]
        exact ih q1 μ1 hQ1 hV1 g4 g5 g6
      | some x =>
        rw [el] at ih
        have hrun := hl m x hm el
        have h4 := hW.2.2.1 m hrun.1
        have hx8 := hrun.2.1
        rw [oI_some, if_neg (nI_ne_m1 (by omega))]
        refine ⟨_, rfl, ?_⟩
        have hb1 : b < (fS S b leg m).1 0 4 := by rw [f1]; exact hb
        obtain ⟨b0, b1, b2, b3, b4, b5, b6⟩ := hV1.2.2.1 b hb1
        have hlen : ((fS S b leg m).2.2 b).length ≤ 12 ∨ True := Or.inr True.intro
        rw [b6.1]
        by_cases hne : (fS S b leg m).2.2 b = []
        · rw [hne, if_pos (show nI ([] : List z_C1).length ≤ 0 by decide)]
          have em : mvO (fS S b leg m) b m (some x) = fS S b leg m := by
            show mvL (fS S b leg m) b m x ((fS S b leg m).2.2 b) = _
            rw [hne]
            rfl
          rw [em] at ih
          exact ih q1 μ1 hQ1 hV1 g4 g5 g6
        · have hlen : 1 ≤ ((fS S b leg m).2.2 b).length ∧ ((fS S b leg m).2.2 b).length ≤ 13 := by
            obtain ⟨n, t, _, _, _, _, _, hw⟩ := b6.2 hne
            have := wayL_len 13 0 [] _ hw
            have z0 : ([] : List z_C1).length = 0 := rfl
            omega
          refine ifc (nI_leI (b := 0) (by omega) (by decide)) (fun g => absurd g (by omega)) (fun _ => ?_)
          unfold C_X8_setPlace
          have hQ2 := KQ_book hQ1 hb1
          have so : ∀ c k, c ≠ 9 → (si (si μ1 9 2 (nI m)) 9 3 (nI x)).1 c k = μ1.1 c k := fun c k hc => by rw [si1, if_neg (fun z => hc z.1), si1, if_neg (fun z => hc z.1)]
          have hk : kd (40 + 8 * b + 7) = some (.inr (0, 160)) := z_fk (c := 40 + 8 * b) hQ1.1 (hQ1.2.2.2.1 b hb1).2 zf_1_9
          have hS : ScR (fS S b leg m) (sr q1 9 1 (some (40 + 8 * b))) b m x (si (si μ1 9 2 (nI m)) 9 3 (nI x)) := by
            refine ⟨by unfold sr; rw [if_pos ⟨rfl, rfl⟩], by rw [si1, if_neg (by omega), si1, if_pos ⟨rfl, rfl⟩], by rw [si1, if_pos ⟨rfl, rfl⟩], ?_, ?_, ?_, fun k hk => by rw [so _ _ (by omega)]; exact b3 k hk, ⟨fun r y hr hy => ?_, fun r hr => ?_⟩, by rw [so _ _ (by omega)]; exact hV1.1.2.2.2.2.2.2.1, fun s hs => by rw [so _ _ (by omega), so _ _ (by omega)]; exact hV1.1.2.2.2.2.2.2.2 s hs⟩
            · rw [si1, if_neg (by omega), si1, if_neg (by omega), f1, ei]
              exact g4
            · rw [si1, if_neg (by omega), si1, if_neg (by omega), f1, ei]
              exact g5
            · rw [si1, if_neg (by omega), si1, if_neg (by omega), f1, ← h24]
              exact g6
            · rw [so _ _ (by omega), so _ _ (by omega), so _ _ (by omega)]
              exact b5.1 r y hr hy
            · rw [so _ _ (by omega)]
              exact b5.2 r hr
          refine c_readBook hk hS (by decide) hW1 (by rw [f1]; omega) hb1 (by unfold runsS; rw [f1]; exact hrun) ?_ hne fun v μ2 hS2 hk2 => ?_
          · unfold TxB at b6 ⊢
            simp only [so (40 + 8 * b) _ (by omega), so (40 + 8 * b + 7) _ (by omega)]
            exact b6
          · obtain ⟨m1, m2, m3⟩ := mvS_1 (S := fS S b leg m) (b := b) (r := m) (h := x)
            refine ih _ μ2 (KQ_same (KQ_text hQ2 hk) (by rw [show (mvO (fS S b leg m) b m (some x)).1 = (fS S b leg m).1 from m1]) (by rw [show (mvO (fS S b leg m) b m (some x)).1 = (fS S b leg m).1 from m1]) (by rw [show (mvO (fS S b leg m) b m (some x)).1 = (fS S b leg m).1 from m1])) (RepV_slate hW1 hV1 m1 m2 m3 (fun c k h1 h2 => ?_) (fun b' k hb' hk' => ?_)) ?_ ?_ ?_
            · rw [hk2 c k (h2 b (by omega)) (by omega), so c k (by omega)]
            · by_cases eb : b' = b
              · rw [eb]
                exact hS2.2.2.2.2.2.2.1 k hk'
              · have em := mvS_out (S := fS S b leg m) (b := b) (r := m) (h := x) (k := 24 * b' + k) (by rw [f1]; exact h4.2.1) (by omega) (by omega)
                rw [hk2 (40 + 8 * b' + 1) k (by omega) (by omega), so (40 + 8 * b' + 1) k (by omega)]
                exact ((hV1.2.2.1 b' hb').2.2.2.1 k hk').trans (congrArg oI em.symm)
            · rw [hk2 _ _ (by omega) (by omega), si1, if_neg (by omega), si1, if_neg (by omega)]
              exact g4
            · rw [hk2 _ _ (by omega) (by omega), si1, if_neg (by omega), si1, if_neg (by omega)]
              exact g5
            · rw [hk2 _ _ (by omega) (by omega), si1, if_neg (by omega), si1, if_neg (by omega)]
              exact g6
  refine key 0 (by decide) q _ hQ (hV.same (sameV_tr (sameV_tr (sameV_si (by decide) (by decide)) (sameV_si (by decide) (by decide))) (sameV_si (by decide) (by decide)))) ?_ ?_ ?_
  · rw [si1, if_neg (by omega), si1, if_neg (by omega), si1, if_pos ⟨rfl, rfl⟩]
  · rw [si1, if_neg (by omega), si1, if_pos ⟨rfl, rfl⟩]
  · rw [si1, if_pos ⟨rfl, rfl⟩]
end CPUT
