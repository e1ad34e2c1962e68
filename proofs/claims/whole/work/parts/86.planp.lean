/-! Plan: a book's bets seen in a row of books, and alone. -/
section PLANP
variable {S Z T : z_SS} {x b r h n : Nat}
/-- alike as a book's way looks at them -/
def EqB (Z T : z_SS) (b r h : Nat) : Prop := (∀ k, k < 24 → Z.2.1 17 (24 * b + k) = T.2.1 17 (24 * b + k)) ∧ betsOn Z b r h = betsOn T b r h ∧ stakesS Z b r = stakesS T b r ∧ backsS Z b r h = backsS T b r h
/-- alike in what stands fixed in a plan -/
def EqG (Z T : z_SS) (r : Nat) : Prop := (∀ s, Z.1 8 s = T.1 8 s ∧ Z.1 9 s = T.1 9 s) ∧ Z.1 0 2 = T.1 0 2 ∧ Z.1 0 5 = T.1 0 5 ∧ Z.1 10 r = T.1 10 r
/-- alike in the last bet -/
def EqN (Z T : z_SS) : Prop := Z.1 20 (Z.1 0 6 - 1) = T.1 20 (T.1 0 6 - 1) ∧ Z.1 23 (Z.1 0 6 - 1) = T.1 23 (T.1 0 6 - 1)
theorem EqB_refl (Z : z_SS) : EqB Z Z b r h := ⟨fun _ _ => rfl, rfl, rfl, rfl⟩
theorem AG_EqG {S0 : z_SS} (h1 : AG S0 Z) (h2 : AG S0 T) : EqG Z T r := by
  have e : ∀ c k, persA c = true → (∀ d j, d = c → live S0 d j) → Z.1 c k = T.1 c k := fun c k hc hl => (h1.2.1 c k hc (hl c k rfl)).trans (h2.2.1 c k hc (hl c k rfl)).symm
  exact ⟨fun s => ⟨e 8 s rfl (fun d j hd => by subst hd; exact True.intro), e 9 s rfl (fun d j hd => by subst hd; exact True.intro)⟩, (h1.1 2 (by decide) (by decide)).trans (h2.1 2 (by decide) (by decide)).symm, (h1.1 5 (by decide) (by decide)).trans (h2.1 5 (by decide) (by decide)).symm, e 10 r rfl (fun d j hd => by subst hd; exact True.intro)⟩
theorem fracS_eq2 (hg : ∀ s, Z.1 8 s = T.1 8 s ∧ Z.1 9 s = T.1 9 s) {f g : Nat → Option Nat} : ∀ m, (∀ i, i < m → f i = g i) → fracS Z f m = fracS T g m := by
  intro m
  induction m with
  | zero => intro _; rfl
  | succ m ih =>
    intro hf
    unfold fracS
    rw [ih (fun i hi => hf i (by omega)), hf m (Nat.lt_succ_self m)]
    cases g m with
    | none => rfl
    | some s =>
      dsimp only
      rw [(hg s).1, (hg s).2]
theorem letV_eq (hB : EqB Z T b r h) (hG : EqG Z T r) (hN : EqN Z T) (hr : r < 3) (hh : h < 8) (h8 : T.1 10 r ≤ 8) (l : Nat) : letV Z b r h l = letV T b r h l := by
  obtain ⟨b1, b2, b3, b4⟩ := hB
  obtain ⟨g1, g2, g3, g4⟩ := hG
  unfold letV balZ
  have es : Z.2.1 17 (24 * b + 8 * r + h) = T.2.1 17 (24 * b + 8 * r + h) := by
    rw [Nat.add_assoc]
    exact b1 _ (by omega)
  have ef : fracS Z (fun h => Z.2.1 17 (24 * b + 8 * r + h)) (T.1 10 r) = fracS T (fun h => T.2.1 17 (24 * b + 8 * r + h)) (T.1 10 r) := fracS_eq2 g1 _ fun i hi => by
    rw [Nat.add_assoc]
    exact b1 _ (by omega)
  rw [es, hN.1, hN.2, g2, g4, b2, b3, b4, ef]
theorem evL_eq (he : ∀ l, letV Z b r h l = letV T b r h l) : ∀ (cd : List (Nat × Nat)) (st : List z_V), evL Z b r h cd st = evL T b r h cd st
  | [], _ => rfl
  | c :: cd, st => by
    have e1 : ev1 Z b r h c st = ev1 T b r h c st := by
      unfold ev1
      rw [he]
    show evL Z b r h cd (ev1 Z b r h c st) = evL T b r h cd (ev1 T b r h c st)
    rw [e1]
    exact evL_eq he cd _
theorem bs_of (e1 : T.1 = S.1) (e2 : ∀ c, c ≠ 17 → T.2.1 c = S.2.1 c) : btSame S T := ⟨by rw [e1], fun i _ => ⟨fun c _ _ => by rw [e1], fun r _ => by rw [e2 25 (by decide)], fun r _ _ => by rw [e1]⟩, fun s => ⟨by rw [e1], by rw [e1]⟩⟩
theorem sums_of (e1 : T.1 = S.1) (e2 : ∀ c, c ≠ 17 → T.2.1 c = S.2.1 c) (hr : r < 3) : betsOn T b r h = betsOn S b r h ∧ stakesS T b r = stakesS S b r ∧ backsS T b r h = backsS S b r h := ⟨betsOn_eq (bs_of e1 e2) hr, stakesS_eq (bs_of e1 e2) hr (by rw [e1]) (by rw [e1]) (by rw [e1]), backsS_eq (bs_of e1 e2) hr⟩
theorem mv1_eq (hB : EqB Z T b r h) (hG : EqG Z T r) (hN : EqN Z T) (hr : r < 3) (hh : h < 8) (h8 : T.1 10 r ≤ 8) (c : Nat × Nat × List (Nat × Nat)) : EqB (mv1 Z b r h c) (mv1 T b r h c) b r h := by
  obtain ⟨z1, z2, z3⟩ := mv1_1 (S := Z) (b := b) (r := r) (h := h) (cl := c)
  obtain ⟨t1, t2, t3⟩ := mv1_1 (S := T) (b := b) (r := r) (h := h) (cl := c)
  obtain ⟨za, zb, zc⟩ := sums_of (b := b) (r := r) (h := h) z1 z3 hr
  obtain ⟨ta, tb, tc⟩ := sums_of (b := b) (r := r) (h := h) t1 t3 hr
  refine ⟨fun k hk => ?_, by rw [za, ta]; exact hB.2.1, by rw [zb, tb]; exact hB.2.2.1, by rw [zc, tc]; exact hB.2.2.2⟩
  have eh : holdsS Z b r h c.2.2 = holdsS T b r h c.2.2 := by
    unfold holdsS
    rw [evL_eq (letV_eq hB hG hN hr hh h8)]
  have es : Z.2.1 17 (24 * b + 8 * r + h) = T.2.1 17 (24 * b + 8 * r + h) := by
    rw [Nat.add_assoc]
    exact hB.1 _ (by omega)
  have ek := hB.1 k hk
  have so : ∀ o, (setO Z 17 (24 * b + 8 * r + h) o).2.1 17 (24 * b + k) = (setO T 17 (24 * b + 8 * r + h) o).2.1 17 (24 * b + k) := fun o => by
    rw [setO_2, setO_2, ek]
  unfold mv1
  rw [eh, es]
  split
  · split
    · exact so _
    · split
      · cases T.2.1 17 (24 * b + 8 * r + h) with
        | none => exact ek
        | some s => exact so _
      · rw [lenS_at, lenS_at, ek, hG.2.2.1, hG.2.2.2]
  · exact ek
theorem mvL_eq (hr : r < 3) (hh : h < 8) : ∀ (cs : List (Nat × Nat × List (Nat × Nat))) (Z T : z_SS), EqB Z T b r h → EqG Z T r → EqN Z T → T.1 10 r ≤ 8 → EqB (mvL Z b r h cs) (mvL T b r h cs) b r h
  | [], _, _, hB, _, _, _ => hB
  | c :: cs, Z, T, hB, hG, hN, h8 => by
    have z1 := (mv1_1 (S := Z) (b := b) (r := r) (h := h) (cl := c)).1
    have t1 := (mv1_1 (S := T) (b := b) (r := r) (h := h) (cl := c)).1
    refine mvL_eq hr hh cs (mv1 Z b r h c) (mv1 T b r h c) (mv1_eq hB hG hN hr hh h8 c) ?_ ?_ (by rw [t1]; exact h8)
    · unfold EqG
      rw [z1, t1]
      exact hG
    · unfold EqN
      rw [z1, t1]
      exact hN
theorem legR_eq (q : Nat) : legR r h q = if q = r then some h else none := rfl
/-- a bet more at the book itself -/
theorem pS_eq (hB : EqB Z T b r h) (hG : EqG Z T r) (hr : r < 3) (hh : h < 8) (h8 : T.1 10 r ≤ 8) (hZ : runsS Z r h) (hT : runsS T r h) (hc : Z.2.2 b = T.2.2 b) {s : Nat} (es : T.2.1 17 (24 * b + 8 * r + h) = some s) : EqB (pS Z x b r h n) (pS T x b r h n) b r h := by
  have es2 : Z.2.1 17 (24 * b + 8 * r + h) = some s := by
    rw [Nat.add_assoc, hB.1 _ (by omega), ← Nat.add_assoc]
    exact es
  have lr : ∀ U : z_SS, runsS U r h → ∀ y, legR r h r = some y → runsS U r y := fun U hU y e => by
    rw [legR_eq, if_pos rfl] at e
    cases e
    exact hU
  have ll : legR r h r = some h := by rw [legR_eq, if_pos rfl]
  unfold pS mvS
  rw [nb_live, nb_live, hc]
  refine mvL_eq hr hh _ _ _ ⟨fun k hk => ?_, ?_, ?_, ?_⟩ ?_ ?_ ?_
  · rw [nbo (by decide), nbo (by decide)]
    exact hB.1 k hk
  · rw [betsOn_nb b hr, betsOn_nb b hr, hB.2.1]
  · rw [stakesS_nb b hr (lr Z hZ), stakesS_nb b hr (lr T hT), hB.2.2.1]
  · rw [backsS_nb b hr, backsS_nb b hr, nb26n hr ll es2, nb26n hr ll es, hB.2.2.2, wonBy_eq hG.1]
  · refine ⟨fun s => ?_, ?_, ?_, ?_⟩
    · rw [nb_old (Or.inl (by decide)) (by omega) (by omega), nb_old (Or.inl (by decide)) (by omega) (by omega), nb_old (c := 9) (Or.inl (by decide)) (by omega) (by omega), nb_old (c := 9) (Or.inl (by decide)) (by omega) (by omega)]
      exact hG.1 s
    · rw [nb_old (Or.inr (by decide)) (by omega) (by omega), nb_old (Or.inr (by decide)) (by omega) (by omega)]
      exact hG.2.1
    · rw [nb_old (Or.inr (by decide)) (by omega) (by omega), nb_old (Or.inr (by decide)) (by omega) (by omega)]
      exact hG.2.2.1
    · rw [nb_old (Or.inl (by decide)) (by omega) (by omega), nb_old (Or.inl (by decide)) (by omega) (by omega)]
      exact hG.2.2.2
  · unfold EqN
    rw [nb6, nb6, Nat.add_sub_cancel, Nat.add_sub_cancel, nb20, if_pos rfl, nb20, if_pos rfl, nb23n, nb23n]
    exact ⟨rfl, rfl⟩
  · rw [nb_old (Or.inl (by decide)) (by omega) (by omega)]
    exact h8
/-- a bet more at another book -/
theorem pS_ne {b' : Nat} (hB : EqB Z T b r h) (hb : b' ≠ b) (hr : r < 3) (hh : h < 8) (h8 : Z.1 10 r ≤ 8) (hZ : runsS Z r h) : EqB (pS Z x b' r h n) T b r h := by
  obtain ⟨m1, m2, m3⟩ := mvS_1 (S := newBet Z x b' 0 n 0 (legR r h)) (b := b') (r := r) (h := h)
  obtain ⟨sa, sb, sc⟩ := sums_of (b := b) (r := r) (h := h) m1 m3 hr
  have lr : ∀ y, legR r h r = some y → runsS Z r y := fun y e => by
    rw [legR_eq, if_pos rfl] at e
    cases e
    exact hZ
  have hb' : ¬ b = b' := fun e => hb e.symm
  unfold pS
  refine ⟨fun k hk => ?_, ?_, ?_, ?_⟩
  · rw [mvS_out (by rw [nb_old (Or.inl (by decide)) (by omega) (by omega)]; exact h8) hh (by omega), nbo (by decide)]
    exact hB.1 k hk
  · rw [sa, betsOn_nb b hr, if_neg (fun z => hb' z.1)]
    exact hB.2.1
  · rw [sb, stakesS_nb b hr lr, if_neg (fun z => hb' z.1)]
    exact hB.2.2.1
  · rw [sc, backsS_nb b hr, if_neg (fun z => hb' z.1)]
    exact hB.2.2.2
/-- a book alone, k bets on trial behind -/
def tB (S : z_SS) (x b r h n : Nat) : Nat → z_SS
  | 0 => S
  | k + 1 => pS (tB S x b r h n k) x b r h n
/-- what k bets at one book would win -/
def wB (S : z_SS) (x b r h n : Nat) : Nat → Option Nat
  | 0 => some 0
  | k + 1 => if b < S.1 0 4 ∧ S.1 16 b = 0 then (match wB S x b r h n k with
    | none => none
    | some v => match (tB S x b r h n k).2.1 17 (24 * b + 8 * r + h) with
      | none => none
      | some s => some (v + wonBy S n s)) else none
theorem wB_more {k j : Nat} (e : wB S x b r h n k = none) (hk : k ≤ j) : wB S x b r h n j = none := by
  induction j with
  | zero =>
    have : k = 0 := by omega
    rw [this] at e
    exact e
  | succ j ih =>
    by_cases g : k = j + 1
    · rw [← g]
      exact e
    · unfold wB
      rw [ih (by omega)]
      split <;> rfl
/-- the sum over the first books -/
def sumB (W : Nat → Option Nat) : Nat → Option Nat
  | 0 => some 0
  | m + 1 => match sumB W m with
    | none => none
    | some v => match W m with
      | none => none
      | some w => some (v + w)
theorem sumB_none {W : Nat → Option Nat} {m c : Nat} (hc : c < m) (e : W c = none) : sumB W m = none := by
  induction m with
  | zero => omega
  | succ m ih =>
    unfold sumB
    by_cases g : c = m
    · subst g
      rw [e]
      cases sumB W c <;> rfl
    · rw [ih (by omega)]
theorem sumB_congr {W V : Nat → Option Nat} {m : Nat} (h : ∀ c, c < m → W c = V c) : sumB W m = sumB V m := by
  induction m with
  | zero => rfl
  | succ m ih =>
    unfold sumB
    rw [ih (fun c hc => h c (by omega)), h m (Nat.lt_succ_self m)]
theorem sumB_add {W V : Nat → Option Nat} {m c v d a : Nat} (hc : c < m) (h : ∀ i, i < m → i ≠ c → V i = W i) (e1 : W c = some v) (e2 : V c = some (v + d)) (ea : sumB W m = some a) : sumB V m = some (a + d) := by
  induction m generalizing a with
  | zero => omega
  | succ m ih =>
    unfold sumB at ea ⊢
    cases es : sumB W m with
    | none => rw [es] at ea; cases ea
    | some u =>
      rw [es] at ea
      dsimp only at ea
      by_cases g : c = m
      · subst g
        rw [e1] at ea
        cases ea
        rw [sumB_congr (V := W) (fun i hi => h i (by omega) (by omega)), es, e2]
        dsimp only
        congr 1
        omega
      · cases ew : W m with
        | none => rw [ew] at ea; cases ea
        | some w =>
          rw [ew] at ea
          cases ea
          rw [ih (by omega) (fun i hi hn => h i (by omega) hn) es, h m (Nat.lt_succ_self m) (fun z => g z.symm), ew]
          dsimp only
          congr 1
          omega
/-- how many of the row's last m bets are at a book -/
def cntR (row : Nat) : Nat → Nat → Nat
  | 0, _ => 0
  | m + 1, b => cntR row m b + if row / 2 ^ (2 * m) % 4 = b then 1 else 0
theorem tB_AG (hr : r < 3) (hh : h < 8) (hb : b < 4) (h8 : S.1 10 r ≤ 8) : ∀ k, AG S (tB S x b r h n k)
  | 0 => AG_refl S
  | k + 1 => by
    have ih := tB_AG hr hh hb h8 k
    refine pS_AG ih hb hr hh ?_
    rw [ih.2.1 10 r rfl True.intro]
    exact h8
theorem AG_runs {S0 : z_SS} (hA : AG S0 Z) (hrun : runsS S0 r h) : runsS Z r h := by
  unfold runsS
  rw [hA.1 3 (by decide) (by decide), hA.2.1 10 r rfl True.intro, hA.2.1 11 r rfl True.intro]
  exact hrun
theorem wwL_sum (hW : WF 80 S) (hrun : runsS S r h) {row : Nat} : ∀ m Z (c : Nat → Nat) acc, AG S Z → (∀ b, b < S.1 0 4 → EqB Z (tB S x b r h n (c b)) b r h) → sumB (fun b => wB S x b r h n (c b)) 4 = some acc → wwL Z x r h n row m acc = sumB (fun b => wB S x b r h n (c b + cntR row m b)) 4 := by
  have h3 := hW.1
  have hr := hrun.1
  have hh := hrun.2.1
  have h4 := hW.2.2.1 r hr
  intro m
  induction m with
  | zero =>
    intro Z c acc hA hE hs
    exact hs.symm
  | succ m ih =>
    intro Z c acc hA hE hs
    have hd4 : row / 2 ^ (2 * m) % 4 < 4 := Nat.mod_lt _ (by decide)
    unfold wwL
    have ec : ∀ b, cntR row (m + 1) b = cntR row m b + if row / 2 ^ (2 * m) % 4 = b then 1 else 0 := fun _ => rfl
    generalize row / 2 ^ (2 * m) % 4 = d at hd4 ec ⊢
    have ed : cntR row (m + 1) d = cntR row m d + 1 := by rw [ec, if_pos rfl]
    rw [hA.1 4 (by decide) (by decide), hA.2.1 16 d rfl True.intro]
    by_cases g : d < S.1 0 4 ∧ S.1 16 d = 0
    · rw [if_pos g]
      have hEd := hE d g.1
      have es0 : Z.2.1 17 (24 * d + 8 * r + h) = (tB S x d r h n (c d)).2.1 17 (24 * d + 8 * r + h) := by
        rw [Nat.add_assoc]
        exact hEd.1 _ (by omega)
      rw [es0]
      have ew : wB S x d r h n (c d + 1) = (match wB S x d r h n (c d) with
        | none => none
        | some v => match (tB S x d r h n (c d)).2.1 17 (24 * d + 8 * r + h) with
          | none => none
          | some s => some (v + wonBy S n s)) := by
        show (if d < S.1 0 4 ∧ S.1 16 d = 0 then _ else none) = _
        rw [if_pos g]
      have hv : ∃ v, wB S x d r h n (c d) = some v := by
        cases e : wB S x d r h n (c d) with
        | none =>
          rw [sumB_none (c := d) hd4 e] at hs
          cases hs
        | some v => exact ⟨v, rfl⟩
      obtain ⟨v, ev⟩ := hv
      rw [ev] at ew
      dsimp only at ew
      have hAT : ∀ k, AG S (tB S x d r h n k) := tB_AG (by omega) (by omega) (by omega) h4.2.1
      have ez : ∀ (U : z_SS), AG S U → U.1 10 r ≤ 8 := fun U hU => by
        rw [hU.2.1 10 r rfl True.intro]
        exact h4.2.1
      cases es : (tB S x d r h n (c d)).2.1 17 (24 * d + 8 * r + h) with
      | none =>
        rw [es] at ew
        dsimp only at ew ⊢
        refine (sumB_none (W := fun b => wB S x b r h n (c b + cntR row (m + 1) b)) (c := d) hd4 (wB_more ew ?_)).symm
        rw [ed]
        omega
      | some s =>
        rw [es] at ew
        dsimp only at ew ⊢
        have ewo : wonBy Z n s = wonBy S n s := wonBy_eq (fun s => ⟨hA.2.1 8 s rfl True.intro, hA.2.1 9 s rfl True.intro⟩) n s
        have hE2 : ∀ b, b < S.1 0 4 → EqB (pS Z x d r h n) (tB S x b r h n (if b = d then c b + 1 else c b)) b r h := fun b hb => by
          by_cases e : b = d
          · subst e
            rw [if_pos rfl]
            exact pS_eq hEd (AG_EqG hA (hAT _)) (by omega) (by omega) (ez _ (hAT _)) (AG_runs hA hrun) (AG_runs (hAT _) hrun) (by rw [hA.2.2.2.2.1, (hAT _).2.2.2.2.1]) es
          · rw [if_neg e]
            exact pS_ne (hE b hb) (fun z => e z.symm) (by omega) (by omega) (ez _ hA) (AG_runs hA hrun)
        have hs2 : sumB (fun b => wB S x b r h n (if b = d then c b + 1 else c b)) 4 = some (acc + wonBy Z n s) := by
          rw [ewo]
          refine sumB_add (c := d) (v := v) hd4 (fun i hi hn => ?_) ev ?_ hs
          · rw [if_neg hn]
          · rw [if_pos rfl]
            exact ew
        rw [ih (pS Z x d r h n) (fun b => if b = d then c b + 1 else c b) (acc + wonBy Z n s) (pS_AG hA (by omega) (by omega) (by omega) (ez _ hA)) hE2 hs2]
        refine sumB_congr fun b hb => ?_
        rw [ec]
        by_cases e : b = d
        · subst e
          rw [if_pos rfl, if_pos rfl]
          congr 1
          omega
        · rw [if_neg e, if_neg (fun z => e z.symm), Nat.add_zero]
    · rw [if_neg g]
      have ew : wB S x d r h n (c d + 1) = none := by
        show (if d < S.1 0 4 ∧ S.1 16 d = 0 then _ else none) = _
        rw [if_neg g]
      refine (sumB_none (W := fun b => wB S x b r h n (c b + cntR row (m + 1) b)) (c := d) hd4 (wB_more ew ?_)).symm
      rw [ed]
      omega
/-- what holds of a book alone -/
theorem tB_ok (hW : WF 80 S) (hrun : runsS S r h) (h12 : S.1 12 r = 0) (hx : x < 16) (n1 : 1 ≤ n) (n2 : n ≤ 20000) (hb : b < S.1 0 4) : ∀ k v, k ≤ 4 → wB S x b r h n k = some v → WF 84 (tB S x b r h n k) ∧ v ≤ k * 1200000 ∧ (tB S x b r h n k).1 0 6 = S.1 0 6 + k := by
  have h3 := hW.1
  have hr := hrun.1
  have hh := hrun.2.1
  have h4 := hW.2.2.1 r hr
  intro k
  induction k with
  | zero =>
    intro v _ e
    cases e
    exact ⟨WF_more hW (by decide), Nat.zero_le _, rfl⟩
  | succ k ih =>
    intro v hk e
    unfold wB at e
    split at e
    · cases ev : wB S x b r h n k with
      | none => rw [ev] at e; cases e
      | some u =>
        rw [ev] at e
        dsimp only at e
        obtain ⟨i1, i2, i3⟩ := ih u (by omega) ev
        have hA := tB_AG (S := S) (x := x) (b := b) (r := r) (h := h) (n := n) (by omega) (by omega) (by omega) h4.2.1 k
        cases es : (tB S x b r h n k).2.1 17 (24 * b + 8 * r + h) with
        | none => rw [es] at e; cases e
        | some s =>
          rw [es] at e
          cases e
          have hrT := AG_runs hA hrun
          have h12T : (tB S x b r h n k).1 12 r = 0 := by
            rw [hA.2.1 12 r rfl True.intro]
            exact h12
          have hs := (wf17 i1 (by omega) es).1
          rw [hA.1 5 (by decide) (by decide)] at hs
          have hw := wf_won hW n2 hs
          refine ⟨mvS_WF (pS_WF i1 (by omega) hx (by rw [hA.1 4 (by decide) (by decide)]; exact hb) hrT h12T n1 n2 es), by rw [Nat.succ_mul]; omega, ?_⟩
          show (pS (tB S x b r h n k) x b r h n).1 0 6 = _
          rw [pS_1, nb6, i3]
          omega
    · cases e
theorem sumB_le {W : Nat → Option Nat} {c : Nat} : ∀ m v, (∀ i w, i < m → W i = some w → w ≤ c) → sumB W m = some v → v ≤ m * c := by
  intro m
  induction m with
  | zero =>
    intro v _ e
    cases e
    omega
  | succ m ih =>
    intro v hw e
    unfold sumB at e
    cases es : sumB W m with
    | none => rw [es] at e; cases e
    | some u =>
      rw [es] at e
      dsimp only at e
      cases ew : W m with
      | none => rw [ew] at e; cases e
      | some w =>
        rw [ew] at e
        cases e
        have := ih u (fun i w hi => hw i w (by omega)) es
        have := hw m w (Nat.lt_succ_self m) ew
        rw [Nat.succ_mul]
        omega
/-- the sums of a book alone -/
theorem tB_sums (hW : WF 80 S) (hrun : runsS S r h) (hb : b < S.1 0 4) : ∀ k v, wB S x b r h n k = some v → ∀ r' x', r' < 3 → x' < 8 → stkA (tB S x b r h n k) b r' x' = stkA S b r' x' + (if r' = r ∧ x' = h then k * n else 0) ∧ bckA (tB S x b r h n k) b r' x' = bckA S b r' x' + (if r' = r ∧ x' = h then k * n + v else 0) ∧ betsOn (tB S x b r h n k) b r' x' = betsOn S b r' x' + (if r' = r ∧ x' = h then k else 0) ∧ stakesS (tB S x b r h n k) b r' = stakesS S b r' + if r' = r then k * n else 0 := by
  have h3 := hW.1
  have hr := hrun.1
  have hh := hrun.2.1
  have h4 := hW.2.2.1 r hr
  intro k
  induction k with
  | zero =>
    intro v e r' x' hr' hx'
    cases e
    have z : ∀ c : Prop, ∀ _ : Decidable c, (if c then 0 * n else 0) = 0 := fun c _ => by split <;> omega
    have z2 : ∀ c : Prop, ∀ _ : Decidable c, (if c then 0 * n + 0 else 0) = 0 := fun c _ => by split <;> omega
    have z3 : ∀ c : Prop, ∀ _ : Decidable c, (if c then 0 else 0) = 0 := fun c _ => by split <;> rfl
    rw [z, z2, z3, z]
    exact ⟨rfl, rfl, rfl, rfl⟩
  | succ k ih =>
    intro v e r' x' hr' hx'
    unfold wB at e
    split at e
    · cases ev : wB S x b r h n k with
      | none => rw [ev] at e; cases e
      | some u =>
        rw [ev] at e
        dsimp only at e
        have hA := tB_AG (S := S) (x := x) (b := b) (r := r) (h := h) (n := n) (by omega) (by omega) (by omega) h4.2.1 k
        cases es : (tB S x b r h n k).2.1 17 (24 * b + 8 * r + h) with
        | none => rw [es] at e; cases e
        | some s =>
          rw [es] at e
          cases e
          obtain ⟨i1, i2, i3, i4⟩ := ih u ev r' x' hr' hx'
          have hrT := AG_runs hA hrun
          have et : tB S x b r h n (k + 1) = pS (tB S x b r h n k) x b r h n := rfl
          rw [et]
          have ewo : wonBy (tB S x b r h n k) n s = wonBy S n s := wonBy_eq (fun s => ⟨hA.2.1 8 s rfl True.intro, hA.2.1 9 s rfl True.intro⟩) n s
          generalize tB S x b r h n k = T at *
          obtain ⟨m1, m2, m3⟩ := mvS_1 (S := newBet T x b 0 n 0 (legR r h)) (b := b) (r := r) (h := h)
          have bs := bs_of m1 m3
          obtain ⟨sa, sb, sc⟩ := sums_of (b := b) (r := r') (h := x') m1 m3 hr'
          have lr : ∀ y, legR r h r' = some y → runsS T r' y := fun y e => by
            rw [legR_eq] at e
            by_cases g : r' = r
            · rw [if_pos g] at e
              cases e
              rw [g]
              exact hrT
            · rw [if_neg g] at e
              cases e
          have el : legR r h r' = some x' ↔ (r' = r ∧ x' = h) := by
            rw [legR_eq]
            constructor
            · intro e
              by_cases g : r' = r
              · rw [if_pos g] at e
                cases e
                exact ⟨g, rfl⟩
              · rw [if_neg g] at e
                cases e
            · intro e
              rw [if_pos e.1, e.2]
          have el2 : legR r h r' ≠ none ↔ r' = r := by
            rw [legR_eq]
            constructor
            · intro e
              by_cases g : r' = r
              · exact g
              · rw [if_neg g] at e
                exact absurd rfl e
            · intro e
              rw [if_pos e]
              exact Option.some_ne_none h
          have ek : (pS T x b r h n).1 11 r' = T.1 11 r' := by
            rw [pS_1]
            exact nb_11 r'
          have c1 := ite_iff (α := Nat) (p := b = b ∧ winK 0 ∧ legR r h r' = some x') (q := r' = r ∧ x' = h) ⟨fun e => el.mp e.2.2, fun e => ⟨rfl, Or.inl rfl, el.mpr e⟩⟩
          have c2 := ite_iff (α := Nat) (p := b = b ∧ legR r h r' = some x') (q := r' = r ∧ x' = h) ⟨fun e => el.mp e.2, fun e => ⟨rfl, el.mpr e⟩⟩
          have c3 := ite_iff (α := Nat) (p := b = b ∧ winK 0 ∧ legR r h r' ≠ none) (q := r' = r) ⟨fun e => el2.mp e.2.2, fun e => ⟨rfl, Or.inl rfl, el2.mpr e⟩⟩
          have s1 : stkOn (pS T x b r h n) b r' x' = stkOn T b r' x' + if r' = r ∧ x' = h then n else 0 := by
            unfold pS
            rw [stkOn_eq bs hr', stkOn_nb b hr', c1]
          have s2 : backsS (pS T x b r h n) b r' x' = backsS T b r' x' + if r' = r ∧ x' = h then n + wonBy S n s else 0 := by
            unfold pS
            rw [sc, backsS_nb b hr', c1]
            by_cases g : r' = r ∧ x' = h
            · rw [if_pos g, if_pos g, nb26n hr' (el.mpr g) (by rw [g.1, g.2]; exact es), ewo]
            · rw [if_neg g, if_neg g]
          have s3 : betsOn (pS T x b r h n) b r' x' = betsOn T b r' x' + if r' = r ∧ x' = h then 1 else 0 := by
            unfold pS
            rw [sa, betsOn_nb b hr', c2]
          have s4 : stakesS (pS T x b r h n) b r' = stakesS T b r' + if r' = r then n else 0 := by
            unfold pS
            rw [sb, stakesS_nb b hr' lr, c3]
          have ng : r' = r ∧ x' = h → ¬ (T.1 11 r').testBit x' = true := fun g => by
            rw [g.1, g.2, hrT.2.2]
            decide
          refine ⟨?_, ?_, ?_, ?_⟩
          · unfold stkA at i1 ⊢
            rw [ek, s1]
            by_cases g : r' = r ∧ x' = h
            · rw [if_pos g] at i1
              rw [if_neg (ng g)] at i1 ⊢
              rw [if_pos g, if_pos g, i1, Nat.succ_mul]
              omega
            · rw [if_neg g] at i1
              rw [if_neg g, if_neg g, Nat.add_zero]
              exact i1
          · unfold bckA at i2 ⊢
            rw [ek, s2]
            by_cases g : r' = r ∧ x' = h
            · rw [if_pos g] at i2
              rw [if_neg (ng g)] at i2 ⊢
              rw [if_pos g, if_pos g, i2, Nat.succ_mul]
              omega
            · rw [if_neg g] at i2
              rw [if_neg g, if_neg g, Nat.add_zero]
              exact i2
          · rw [s3, i3]
            by_cases g : r' = r ∧ x' = h
            · rw [if_pos g, if_pos g, if_pos g]
              omega
            · rw [if_neg g, if_neg g, if_neg g]
          · rw [s4, i4]
            by_cases g : r' = r
            · rw [if_pos g, if_pos g, if_pos g, Nat.succ_mul]
              omega
            · rw [if_neg g, if_neg g, if_neg g]
    · cases e
end PLANP
