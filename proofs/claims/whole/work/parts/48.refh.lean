/-! The reference: plan. -/
def legR (r h : Nat) : Nat → Option Nat := fun q => if q = r then some h else none
/-- a bet on trial: the state behind it -/
def pS (S : z_SS) (x b r h n : Nat) : z_SS := mvS (newBet S x b 0 n 0 (legR r h)) b r h
/-- what a row of books would have won; m bets are left -/
def wwL (S : z_SS) (x r h n row m acc : Nat) : Option Nat := match m with
  | 0 => some acc
  | m + 1 => if row / 2 ^ (2 * m) % 4 < S.1 0 4 ∧ S.1 16 (row / 2 ^ (2 * m) % 4) = 0 then (match S.2.1 17 (24 * (row / 2 ^ (2 * m) % 4) + 8 * r + h) with
    | none => none
    | some s => wwL (pS S x (row / 2 ^ (2 * m) % 4) r h n) x r h n row m (acc + wonBy S n s)) else none
def planL (S : z_SS) (x r h n cnt R : Nat) : Option (Nat × Nat) := match R with
  | 0 => none
  | R + 1 => match wwL S x r h n R cnt 0 with
    | none => planL S x r h n cnt R
    | some v => match planL S x r h n cnt R with
      | none => some (v, R)
      | some p => if p.1 < v then some (v, R) else some p
def opPlan (S : z_SS) (a b c d e f : Int32) : Int32 := match ixO a 16 with
  | none => -1
  | some x => match ixO b (S.1 0 3) with
    | none => -1
    | some r => match ixO c (S.1 10 r) with
      | none => -1
      | some h => if (S.1 11 r).testBit h = true then -1 else if S.1 12 r = 0 then (match ixO d 20001 with
        | none => -1
        | some n => if n = 0 then -1 else match ixO e 5 with
          | none => -1
          | some cnt => if cnt = 0 then -1 else match stO f cnt with
            | none => -1
            | some o => match planL S x r h n cnt (2 ^ (2 * cnt)) with
              | none => -2
              | some p => match o with
                | none => nI p.1
                | some w => nI (p.2 / 2 ^ (2 * (cnt - 1 - w)) % 4)) else -1
theorem mv1_out {S : z_SS} {b r h k : Nat} {cl : Nat × Nat × List (Nat × Nat)} (hr8 : S.1 10 r ≤ 8) (hh : h < 8) (hk : k < 24 * b + 8 * r ∨ 24 * b + 8 * r + 8 ≤ k) : (mv1 S b r h cl).2.1 17 k = S.2.1 17 k := by
  unfold mv1
  split
  · split
    · rw [setO_2, if_neg (by omega)]
    · split
      · split
        · rfl
        · rw [setO_2, if_neg (by omega)]
      · unfold lenS
        dsimp only
        rw [if_neg (by omega)]
  · rfl
theorem mvL_out {b r h k : Nat} (hh : h < 8) (hk : k < 24 * b + 8 * r ∨ 24 * b + 8 * r + 8 ≤ k) : ∀ (cs : List (Nat × Nat × List (Nat × Nat))) (S : z_SS), S.1 10 r ≤ 8 → (mvL S b r h cs).2.1 17 k = S.2.1 17 k
  | [], _, _ => rfl
  | c :: cs, S, h8 => by
    have e1 := (mv1_1 (S := S) (b := b) (r := r) (h := h) (cl := c)).1
    exact (mvL_out hh hk cs (mv1 S b r h c) (by rw [e1]; exact h8)).trans (mv1_out h8 hh hk)
theorem mvS_out {S : z_SS} {b r h k : Nat} (h8 : S.1 10 r ≤ 8) (hh : h < 8) (hk : k < 24 * b + 8 * r ∨ 24 * b + 8 * r + 8 ≤ k) : (mvS S b r h).2.1 17 k = S.2.1 17 k := mvL_out hh hk _ S h8
theorem live_lt {S : z_SS} {c k : Nat} (hl : live S c k) : (20 ≤ c → c ≤ 28 → c ≠ 25 → c ≠ 26 → k < S.1 0 6) ∧ (c = 25 ∨ c = 26 → k < 3 * S.1 0 6) := by
  refine ⟨fun a b e f => ?_, fun e => ?_⟩
  · rcases (show c = 20 ∨ c = 21 ∨ c = 22 ∨ c = 23 ∨ c = 24 ∨ c = 27 ∨ c = 28 by omega) with q | q | q | q | q | q | q <;> subst q <;> exact hl
  · rcases e with q | q
    · subst q
      exact hl
    · subst q
      exact hl.1
/-- states alike but for slates and what is dead -/
def AG (S0 S : z_SS) : Prop := (∀ k, 1 ≤ k → k ≤ 5 → S.1 0 k = S0.1 0 k) ∧ (∀ c k, persA c = true → live S0 c k → S.1 c k = S0.1 c k) ∧ (∀ c k, persO c = true → (c ≠ 17 ∨ 96 ≤ k) → live S0 c k → S.2.1 c k = S0.2.1 c k) ∧ (∀ k, S.1 1 k = S0.1 1 k) ∧ S.2.2 = S0.2.2 ∧ S0.1 0 6 ≤ S.1 0 6
theorem AG_refl (S : z_SS) : AG S S := ⟨fun _ _ _ => rfl, fun _ _ _ _ => rfl, fun _ _ _ _ _ => rfl, fun _ => rfl, rfl, Nat.le_refl _⟩
theorem AG_live {S0 S : z_SS} (h : AG S0 S) {c k : Nat} (hl : live S0 c k) : live S c k := by
  have h6 := h.2.2.2.2.2
  obtain ⟨l1, l2⟩ := live_lt hl
  unfold live liveQ
  split
  · exact Nat.lt_of_lt_of_le (l1 (by decide) (by decide) (by decide) (by decide)) h6
  · exact Nat.lt_of_lt_of_le (l1 (by decide) (by decide) (by decide) (by decide)) h6
  · exact Nat.lt_of_lt_of_le (l1 (by decide) (by decide) (by decide) (by decide)) h6
  · exact Nat.lt_of_lt_of_le (l1 (by decide) (by decide) (by decide) (by decide)) h6
  · exact Nat.lt_of_lt_of_le (l1 (by decide) (by decide) (by decide) (by decide)) h6
  · have := l2 (Or.inl rfl)
    omega
  · have h1 := l2 (Or.inr rfl)
    refine ⟨by omega, ?_⟩
    have hl2 : k < 3 * S0.1 0 6 ∧ S0.2.1 25 k ≠ none := hl
    rw [h.2.2.1 25 k rfl (Or.inl (by decide)) h1]
    exact hl2.2
  · exact Nat.lt_of_lt_of_le (l1 (by decide) (by decide) (by decide) (by decide)) h6
  · exact Nat.lt_of_lt_of_le (l1 (by decide) (by decide) (by decide) (by decide)) h6
  · exact True.intro
theorem AG_rest {S0 S : z_SS} (h : AG S0 S) {μ μ' : z_M} (hR : RepR S μ) (h6 : μ'.1 0 6 = nI (S0.1 0 6)) (h17 : ∀ k, k < 96 → μ'.1 17 k = oI (S0.2.1 17 k)) (hk : ∀ c k, (c ≠ 0 ∨ k ≠ 6) → (c ≠ 17 ∨ 96 ≤ k) → μ'.1 c k = μ.1 c k) : RepR S0 μ' := by
  refine ⟨fun k k1 k2 => ?_, fun c k hc hl => ?_, fun c k hc hl => ?_, fun k => ?_, ?_⟩
  · by_cases e : k = 6
    · subst e
      exact h6
    · rw [hk 0 k (Or.inr e) (Or.inl (by decide)), hR.1 k k1 k2, h.1 k k1 (by omega)]
  · have h2 := persA_01 hc
    rw [hk c k (Or.inl (by omega)) (Or.inl fun e => by subst e; cases hc), hR.2.1 c k hc (AG_live h hl), h.2.1 c k hc hl]
  · have h2 := persO_01 hc
    by_cases e : c = 17 ∧ k < 96
    · obtain ⟨e1, e2⟩ := e
      subst e1
      exact h17 k e2
    · rw [hk c k (Or.inl (by omega)) (by omega), hR.2.2.1 c k hc (AG_live h hl), h.2.2.1 c k hc (by omega) hl]
  · rw [hk 1 k (Or.inl (by decide)) (Or.inl (by decide)), hR.2.2.2.1 k, h.2.2.2.1 k]
  · have := RepCl_kept hR.2.2.2.2 (m' := μ'.1) (fun c k c1 c2 => hk c k (Or.inl (by omega)) (Or.inl (by omega)))
    rw [h.2.2.2.2.1] at this
    exact this
theorem nb_old {S : z_SS} {z b kd st : Nat} {leg : Nat → Option Nat} {c k : Nat} (hc : c ≠ 0 ∨ k ≠ 6) (hl : 20 ≤ c → c ≤ 28 → c ≠ 25 → c ≠ 26 → k < S.1 0 6) (h26 : c = 26 → k < 3 * S.1 0 6) : (newBet S z b kd st 0 leg).1 c k = S.1 c k := by
  unfold newBet
  dsimp only
  rw [if_neg (by omega)]
  by_cases q : c = 15 ∧ k = b
  · rw [if_pos q, q.1, q.2]
    rfl
  · rw [if_neg q, if_neg (by omega), if_neg (by omega), if_neg (by omega), if_neg (by omega), if_neg (by omega), if_neg (by omega), if_neg (by omega), if_neg (by omega)]
theorem pS_1 {S : z_SS} {x b r h n : Nat} : (pS S x b r h n).1 = (newBet S x b 0 n 0 (legR r h)).1 := mvS_1.1
theorem pS_AG {S0 S : z_SS} (hA : AG S0 S) {x b r h n : Nat} (hb : b < 4) (hr : r < 3) (hh : h < 8) (h8 : S.1 10 r ≤ 8) : AG S0 (pS S x b r h n) := by
  have h6 := hA.2.2.2.2.2
  refine ⟨fun k k1 k2 => ?_, fun c k hc hl => ?_, fun c k hc he hl => ?_, fun k => ?_, ?_, ?_⟩
  · rw [pS_1, nb_old (Or.inr (by omega)) (by omega) (by omega)]
    exact hA.1 k k1 k2
  · have h2 := persA_01 hc
    obtain ⟨l1, l2⟩ := live_lt hl
    rw [pS_1, nb_old (Or.inl (by omega)) (by omega) (by omega)]
    exact hA.2.1 c k hc hl
  · obtain ⟨l1, l2⟩ := live_lt hl
    have e1 : (pS S x b r h n).2.1 c k = (newBet S x b 0 n 0 (legR r h)).2.1 c k := by
      by_cases e : c = 17
      · subst e
        exact mvS_out (by rw [nb_old (Or.inl (by decide)) (by omega) (by omega)]; exact h8) hh (by omega)
      · exact congrFun (mvS_1.2.2 c e) k
    rw [e1]
    by_cases e : c = 25
    · subst e
      rw [nb25, if_neg (by omega)]
      exact hA.2.2.1 25 k hc he hl
    · rw [nbo e]
      exact hA.2.2.1 c k hc he hl
  · rw [pS_1, nb_old (Or.inl (by decide)) (by omega) (by omega)]
    exact hA.2.2.2.1 k
  · rw [show (pS S x b r h n).2.2 = S.2.2 from mvS_1.2.1]
    exact hA.2.2.2.2.1
  · rw [pS_1, nb6]
    omega
section REFH
variable {S0 S : z_SS} {μ : z_M}
theorem WF_more {B C : Nat} (hW : WF B S) (h : B ≤ C) : WF C S := by
  have h3 := hW.1
  exact ⟨⟨h3.1, h3.2.1, h3.2.2.1, h3.2.2.2.1, h3.2.2.2.2.1, by omega⟩, hW.2⟩
theorem pS_WF (hW : WF 84 S) (h6 : S.1 0 6 < 84) {x b r h n s : Nat} (hx : x < 16) (hb : b < S.1 0 4) (hrun : runsS S r h) (h12 : S.1 12 r = 0) (n1 : 1 ≤ n) (n2 : n ≤ 20000) (es : S.2.1 17 (24 * b + 8 * r + h) = some s) : WF 84 (newBet S x b 0 n 0 (legR r h)) := by
  have h3 := hW.1
  have hr := hrun.1
  refine newBet_WF hW h6 hx hb (by omega) n1 n2 (by omega) (fun q y hq e => ?_) ⟨r, by omega, by unfold legR; rw [if_pos rfl]; exact Option.some_ne_none h⟩ (fun _ q q' hq hq' g g' => ?_)
  · unfold legR at e
    by_cases g : q = r
    · rw [if_pos g] at e
      cases e
      subst g
      exact ⟨hrun, h12, s, es⟩
    · rw [if_neg g] at e
      cases e
  · unfold legR at g g'
    by_cases c1 : q = r
    · by_cases c2 : q' = r
      · rw [c1, c2]
      · rw [if_neg c2] at g'
        exact absurd rfl g'
    · rw [if_neg c1] at g
      exact absurd rfl g
theorem r_back (hA : AG S0 S) (hR : RepR S μ) (hs : ∀ k, k < 96 → μ.1 61 k = oI (S0.2.1 17 k)) {v : Int32} {K : Int32 → z_M → Prop} (hK : ∀ μ', RepR S0 μ' → K v μ') : L_X12_wouldWin_170 K (nI (S0.1 0 6)) v μ := by
  unfold L_X12_wouldWin_170 L_X12_wouldWin_179
  intro P hP
  have key : ∀ i, i ≤ 96 → ∀ μi : z_M, μi.1 0 6 = nI (S0.1 0 6) → (∀ k, k < i → μi.1 17 k = oI (S0.2.1 17 k)) → (∀ c k, (c ≠ 0 ∨ k ≠ 6) → (c ≠ 17 ∨ 96 ≤ k) → μi.1 c k = μ.1 c k) → P v (nI i) μi := by
    refine downTo 96 ?_ (fun i hi ih => ?_)
    · intro μi g1 g2 g3
      refine hP _ _ _ ?_
      unfold B_X12_wouldWin_179
      exact ifc (nI_leI (a := 96) (by decide) (by decide)) (fun _ => hK _ (AG_rest hA hR g1 g2 g3)) (fun g => absurd (Nat.le_refl _) g)
    · intro μi g1 g2 g3
      refine hP _ _ _ ?_
      unfold B_X12_wouldWin_179
      refine ifc (nI_leI (a := 96) (by decide) (by omega)) (fun g => absurd g (by omega)) (fun _ => ?_)
      rw [nI_clamp (by omega), nI_1]
      refine ⟨nI_vin (by omega) (by omega), ih _ ?_ (fun k hk => ?_) (fun c k c1 c2 => ?_)⟩
      · rw [si1, if_neg (by omega)]
        exact g1
      · rw [si1]
        by_cases e : k = i
        · subst e
          rw [if_pos ⟨rfl, rfl⟩, g3 61 k (Or.inl (by decide)) (Or.inl (by decide))]
          exact hs k hi
        · rw [if_neg (by omega)]
          exact g2 k (by omega)
      · rw [si1, if_neg (by omega)]
        exact g3 c k c1 c2
  exact key 0 (Nat.zero_le _) _ (by rw [si1, if_pos ⟨rfl, rfl⟩]) (fun k hk => absurd hk (Nat.not_lt_zero k)) (fun c k c1 c2 => by rw [si1, if_neg (by omega)])
theorem two_shift : ∀ m : Fin 15, ((2 : Int32) * nI m) &&& 31 = nI (2 * m.val) &&& 31 := by decide +kernel
theorem row_bits {row m : Nat} (hrow : row < 2 ^ 31) (hm : m < 15) : (nI row >>> (((2 : Int32) * nI m) &&& 31)) &&& 3 = nI (row / 2 ^ (2 * m) % 4) := by
  rw [nI_two, pk_shrN hrow _ (2 * m) (bit_shift ⟨2 * m, by omega⟩), pk_andN (n := row / 2 ^ (2 * m)) (by have := Nat.div_le_self row (2 ^ (2 * m)); omega) 2 rfl]
theorem wwL_le {x r h n row : Nat} (hn : n ≤ 20000) : ∀ m (S : z_SS) acc v, WF 84 S → S.1 0 6 + m ≤ 84 → x < 16 → runsS S r h → S.1 12 r = 0 → 1 ≤ n → wwL S x r h n row m acc = some v → v ≤ acc + m * 1200000 := by
  intro m
  induction m with
  | zero =>
    intro S acc v hW h6 hx hrun h12 n1 e
    cases e
    omega
  | succ m ih =>
    intro S acc v hW h6 hx hrun h12 n1 e
    have h3 := hW.1
    have hr := hrun.1
    have hh := hrun.2.1
    have h4 := hW.2.2.1 r hr
    unfold wwL at e
    split at e
    · rename_i hb
      split at e
      · cases e
      · rename_i s es
        have hw := wf_won hW hn (wf17 hW (by omega) es).1
        have hW2 : WF 84 (pS S x (row / 2 ^ (2 * m) % 4) r h n) := mvS_WF (pS_WF hW (by omega) hx hb.1 hrun h12 n1 hn es)
        have e6 : (pS S x (row / 2 ^ (2 * m) % 4) r h n).1 0 6 = S.1 0 6 + 1 := by rw [pS_1, nb6]
        have hrun2 : runsS (pS S x (row / 2 ^ (2 * m) % 4) r h n) r h := by
          unfold runsS
          rw [pS_1, nb_old (Or.inr (by decide)) (by omega) (by omega), nb_old (Or.inl (by decide)) (by omega) (by omega), nb_old (Or.inl (by decide)) (by omega) (by omega)]
          exact hrun
        have := ih _ _ v hW2 (by omega) hx hrun2 (by rw [pS_1, nb_old (Or.inl (by decide)) (by omega) (by omega)]; exact h12) n1 e
        rw [Nat.succ_mul]
        omega
    · cases e
theorem r_wouldWin (hR : RepR S0 μ) (hW0 : WF 80 S0) (hC : WFc S0) {x r h n cnt row : Nat} (hx : x < 16) (hrun : runsS S0 r h) (h12 : S0.1 12 r = 0) (n1 : 1 ≤ n) (n2 : n ≤ 20000) (hcnt : cnt ≤ 4) (hrow : row < 256) {K : Int32 → z_M → Prop} (hK : ∀ μ', RepR S0 μ' → K (oI (wwL S0 x r h n row cnt 0)) μ') : C_X12_wouldWin (nI x) (nI r) (nI h) (nI n) (nI cnt) (nI row) μ K := by
  have hW := WF_more hW0 (C := 84) (by decide)
  have h3 := hW0.1
  have hr0 := hrun.1
  have hh0 := hrun.2.1
  have h4 := hW.2.2.1 r hr0
  unfold C_X12_wouldWin L_X12_wouldWin_12
  rw [hR.f (k := 6) (by decide) (by decide)]
  intro P12 hP12
  have copy : ∀ i, i ≤ 96 → ∀ μi : z_M, RepR S0 μi → (∀ k, k < i → μi.1 61 k = oI (S0.2.1 17 k)) → P12 (nI x) (nI r) (nI h) (nI n) (nI cnt) (nI row) (nI (S0.1 0 6)) 0 (nI i) μi := by
    refine downTo 96 ?_ (fun i hi ih => ?_)
    · intro μ1 hR1 hs1
      refine hP12 _ _ _ _ _ _ _ _ _ _ ?_
      unfold B_X12_wouldWin_12
      refine ifc (nI_leI (a := 96) (by decide) (by decide)) (fun _ => ?_) (fun g => absurd (Nat.le_refl _) g)
      unfold L_X12_wouldWin_45
      intro P hP
      have fail : ∀ (S : z_SS) (μ' : z_M) (w : Int32), AG S0 S → RepR S μ' → (∀ k, k < 96 → μ'.1 61 k = oI (S0.2.1 17 k)) → (∀ μ'', RepR S0 μ'' → K (-1) μ'') → P (nI x) (nI r) (nI h) (nI n) (nI row) (nI (S0.1 0 6)) (-1) w μ' := by
        intro S μ' w hA hR' hs' hk
        refine hP _ _ _ _ _ _ _ _ _ ?_
        unfold B_X12_wouldWin_45
        refine ifd (fun _ => r_back hA hR' hs' hk) (fun _ => ?_)
        rw [if_pos (show (-1 : Int32) < 0 by decide)]
        exact r_back hA hR' hs' hk
      have go : ∀ m, m ≤ 4 → ∀ (S : z_SS) (μ' : z_M) (acc : Nat), AG S0 S → RepR S μ' → WF 84 S → WFc S → S.1 0 6 + m ≤ 84 → runsS S r h → S.1 12 r = 0 → (∀ k, k < 96 → μ'.1 61 k = oI (S0.2.1 17 k)) → acc + m * 1200000 ≤ 4800000 → (∀ μ'', RepR S0 μ'' → K (oI (wwL S x r h n row m acc)) μ'') → P (nI x) (nI r) (nI h) (nI n) (nI row) (nI (S0.1 0 6)) (nI acc) (iI ((m : Int) - 1)) μ' := by
        intro m
        induction m with
        | zero =>
          intro _ S μ' acc hA hR' hW' hC' h6 hrun' h12' hs' hacc hk
          refine hP _ _ _ _ _ _ _ _ _ ?_
          unfold B_X12_wouldWin_45
          rw [if_pos (show iI (((0 : Nat) : Int) - 1) < 0 by decide)]
          exact r_back hA hR' hs' hk
        | succ m ih =>
          intro hm S μ' acc hA hR' hW' hC' h6 hrun' h12' hs' hacc hk
          have h3' := hW'.1
          have hr := hrun'.1
          have hh := hrun'.2.1
          have h4' := hW'.2.2.1 r hr
          have em : iI (((m + 1 : Nat) : Int) - 1) = nI m := by
            rw [← iI_nat]
            congr 1
            omega
          have em2 : nI m + (-1) = iI ((m : Int) - 1) := by
            rw [← iI_nat, show (-1 : Int32) = iI (-1) by decide, iI_add]
            rfl
          rw [em]
          refine hP _ _ _ _ _ _ _ _ _ ?_
          unfold B_X12_wouldWin_45 L_X12_wouldWin_100 L_X12_wouldWin_101
          rw [if_neg (nI_pos' (n := m) (by omega) |> fun q => Int32.not_lt.mpr q), if_neg (nI_pos' (n := acc) (by omega) |> fun q => Int32.not_lt.mpr q), row_bits (by omega) (by omega), em2]
          unfold wwL at hk
          have hbk : row / 2 ^ (2 * m) % 4 < 4 := Nat.mod_lt _ (by decide)
          generalize row / 2 ^ (2 * m) % 4 = b at hk hbk ⊢
          refine r_isBook hR' hW' (fun bk hb e => ?_) (fun g => ?_)
          · have := (nI_eq (by omega) (by omega)).mp e
            subst this
            rw [if_neg i10, nI_clamp (n := b) (by omega), hR'.a (c := 16) rfl]
            have h5 := hW'.2.2.2.1 b hb
            refine ⟨nI_vin (by omega) (by omega), ifc (nI_eq (b := 0) (by omega) (by omega)) (fun e0 => ?_) (fun e0 => ?_)⟩
            · rw [if_pos ⟨hb, e0⟩] at hk
              refine r_cellOf ?_
              rw [nI_clamp (n := 24 * b + 8 * r + h) (by omega), hR'.o (c := 17) rfl]
              refine ⟨nI_vin (by omega) (by omega), ?_⟩
              cases es : S.2.1 17 (24 * b + 8 * r + h) with
              | none =>
                rw [es] at hk
                rw [if_pos oI_none]
                exact fail S μ' _ hA hR' hs' hk
              | some s =>
                rw [es] at hk
                dsimp only at hk
                have hs := (wf17 hW' (by omega) es).1
                have hwon := wf_won hW' n2 hs
                rw [if_neg (show ¬ oI (some s) = -1 from nI_ne_m1 (by omega)), oI_some]
                refine r_wonBy hR' hW' (by omega) hs ?_
                refine r_writes (B := 84) (by decide) hR' hW' (by omega) (kd := 0) fun μ1 hN1 _ => ?_
                refine r_takes (B := 84) (by decide) hR' hW' (by omega) hN1 (by omega) (by omega) (by omega) fun μ2 hN2 => ?_
                have hR2 := NB_rep hN2 hR'
                have hN3 : NB S μ' μ2 x b 0 n (legR r h) := hN2
                have hR3 : RepR (newBet S x b 0 n 0 (legR r h)) (si μ2 0 6 (μ2.1 0 6 + 1)) := by
                  refine NB_new hN3 hR' (fun q y hq e => ?_) ?_ ?_ fun c k g1 g2 => ?_
                  · unfold legR at e
                    by_cases g : q = r
                    · rw [if_pos g] at e
                      cases e
                      subst g
                      exact ⟨s, es⟩
                    · rw [if_neg g] at e
                      cases e
                  · rw [si1, if_pos ⟨rfl, rfl⟩, hR2.f (k := 6) (by decide) (by decide), nI_1]
                  · rw [si1, if_neg (by omega), hR2.a (c := 15) rfl]
                    rfl
                  · rw [si1, if_neg (by omega)]
                have hW3 := pS_WF hW' (by omega) hx hb hrun' h12' n1 n2 es
                refine r_moves (B := 84) (by decide) hR3 hW3 (WFc_same hC' nb_live) (by rw [nb6]; omega) (by rw [nb_old (Or.inr (by decide)) (by omega) (by omega)]; exact hb) (by rw [nb_old (Or.inr (by decide)) (by omega) (by omega)]; exact hr) (by rw [nb_old (Or.inl (by decide)) (by omega) (by omega)]; exact hh) fun μ4 hR4 hk4 => ?_
                rw [nI_add]
                have hrun2 : runsS (pS S x b r h n) r h := by
                  unfold runsS
                  rw [pS_1, nb_old (Or.inr (by decide)) (by omega) (by omega), nb_old (Or.inl (by decide)) (by omega) (by omega), nb_old (Or.inl (by decide)) (by omega) (by omega)]
                  exact hrun'
                refine ih (by omega) (pS S x b r h n) μ4 (acc + wonBy S n s) (pS_AG hA (by omega) (by omega) (by omega) h4'.2.1) hR4 (mvS_WF hW3) (WFc_same hC' mvS_1.2.1) (by rw [pS_1, nb6]; omega) hrun2 (by rw [pS_1, nb_old (Or.inl (by decide)) (by omega) (by omega)]; exact h12') (fun k hk2 => ?_) (by rw [Nat.succ_mul] at hacc; omega) hk
                rw [hk4 k, si1, if_neg (by omega), hN2.2.2.2.1 61 k (Or.inr (by decide))]
                exact hs' k hk2
            · rw [if_neg (fun q => e0 q.2)] at hk
              rw [if_pos rfl]
              exact fail S μ' _ hA hR' hs' hk
          · rw [if_neg (fun q => g b q.1 rfl)] at hk
            rw [if_pos rfl, if_pos rfl]
            exact fail S μ' _ hA hR' hs' hk
      have e5 : nI cnt - 1 = iI ((cnt : Int) - 1) := by
        rw [← iI_nat, show (1 : Int32) = iI 1 by decide, iI_sub]
      rw [e5]
      exact go cnt hcnt S0 μ1 0 (AG_refl S0) hR1 hW hC (by omega) hrun h12 hs1 (by omega) hK
    · intro μ1 hR1 hs1
      refine hP12 _ _ _ _ _ _ _ _ _ _ ?_
      unfold B_X12_wouldWin_12
      refine ifc (nI_leI (a := 96) (by decide) (by omega)) (fun g => absurd g (by omega)) (fun _ => ?_)
      rw [nI_clamp (by omega), nI_1, hR1.o (c := 17) rfl]
      refine ⟨nI_vin (by omega) (by omega), ih _ (hR1.scr rfl) fun k hk => ?_⟩
      rw [si1]
      by_cases e : k = i
      · subst e
        rw [if_pos ⟨rfl, rfl⟩]
      · rw [if_neg (by omega)]
        exact hs1 k (by omega)
  exact copy 0 (Nat.zero_le _) μ hR (fun k hk => absurd hk (Nat.not_lt_zero k))
theorem planL_bd {x r h n cnt : Nat} (hW : WF 80 S) (hx : x < 16) (hrun : runsS S r h) (h12 : S.1 12 r = 0) (n1 : 1 ≤ n) (n2 : n ≤ 20000) (hcnt : cnt ≤ 4) : ∀ R p, planL S x r h n cnt R = some p → p.1 ≤ 4800000 ∧ p.2 < R := by
  have h3 := hW.1
  intro R
  induction R with
  | zero => intro p e; cases e
  | succ R ih =>
    intro p e
    have low : planL S x r h n cnt R = some p → p.1 ≤ 4800000 ∧ p.2 < R + 1 := fun q => by
      have := ih p q
      omega
    unfold planL at e
    cases e1 : wwL S x r h n R cnt 0 with
    | none =>
      rw [e1] at e
      exact low e
    | some v =>
      have hv := wwL_le n2 cnt S 0 v (WF_more hW (by decide)) (by omega) hx hrun h12 n1 e1
      have hv2 : cnt * 1200000 ≤ 4 * 1200000 := Nat.mul_le_mul_right _ hcnt
      rw [e1] at e
      dsimp only at e
      cases e2 : planL S x r h n cnt R with
      | none =>
        rw [e2] at e
        cases e
        exact ⟨by show v ≤ 4800000; omega, Nat.lt_succ_self R⟩
      | some p2 =>
        rw [e2] at e
        dsimp only at e
        split at e
        · cases e
          exact ⟨by show v ≤ 4800000; omega, Nat.lt_succ_self R⟩
        · cases e
          exact low e2
theorem four_pow : ∀ c : Fin 5, (1 : Int32) <<< (((2 : Int32) * nI c) &&& 31) = nI (2 ^ (2 * c.val)) ∧ 2 ^ (2 * c.val) ≤ 256 := by decide +kernel
theorem r_plan (hR : RepR S μ) (hW : WF 80 S) (hC : WFc S) {a b c d e f : Int32} {K : Int32 → z_M → Prop} (hK : ∀ μ', RepR S μ' → K (opPlan S a b c d e f) μ') : C_X12_plan a b c d e f μ K := by
  have h3 := hW.1
  unfold C_X12_plan
  unfold opPlan at hK
  refine r_isBettor (fun x hx ea => ?_) (fun g => by rw [if_pos rfl]; rw [g] at hK; exact hK μ hR)
  subst ea
  rw [ixO_some hx (by decide)] at hK
  dsimp only at hK
  rw [if_neg i10]
  refine r_runs hR hW (fun r h hrun e1 e2 => ?_) (fun g => ?_)
  · subst e1
    subst e2
    have hr := hrun.1
    have h4 := hW.2.2.1 r hr
    rw [ixO_some hrun.1 (by omega)] at hK
    dsimp only at hK
    rw [ixO_some hrun.2.1 (by have := hrun.2.1; omega)] at hK
    dsimp only at hK
    rw [if_neg (by rw [hrun.2.2]; decide)] at hK
    rw [if_neg i10, nI_clamp (n := r) (by omega), hR.a (c := 12) rfl]
    refine ⟨nI_vin (by omega) (by omega), ifc (nI_eq (b := 0) (by omega) (by omega)) (fun e0 => ?_) (fun e0 => by rw [if_neg e0] at hK; exact hK μ hR)⟩
    rw [if_pos e0] at hK
    refine r_isStake (fun n n1 n2 ed => ?_) (fun g => ?_)
    · subst ed
      rw [ixO_some (show n < 20001 by omega) (by decide)] at hK
      dsimp only at hK
      rw [if_neg (by omega)] at hK
      rw [if_neg i10]
      refine r_liesC (lo := 1) (hi := 4) (x := 1) (y := 4) rfl rfl (by decide) (by decide) (fun cnt c1 c2 ee => ?_) (fun g => ?_)
      · subst ee
        rw [ixO_some (show cnt < 5 by omega) (by decide)] at hK
        dsimp only at hK
        rw [if_neg (by omega)] at hK
        rw [if_neg i10]
        refine r_stO (by omega) (fun o es ef ho => ?_) (fun g => by rw [if_pos rfl]; rw [g] at hK; exact hK μ hR)
        rw [es] at hK
        dsimp only at hK
        rw [if_neg i10]
        unfold L_X12_plan_74
        intro P hP
        obtain ⟨fp1, fp2⟩ := four_pow ⟨cnt, by omega⟩
        dsimp only at fp1 fp2
        have bd := planL_bd (x := x) hW hx hrun e0 n1 n2 c2
        have key : ∀ R, R ≤ 2 ^ (2 * cnt) → ∀ μ', RepR S μ' → P (nI x) (nI r) (nI h) (nI n) (nI cnt) f (oI ((planL S x r h n cnt R).map (fun p => p.2))) (oI ((planL S x r h n cnt R).map (fun p => p.1))) (nI R) μ' := by
          refine downTo (2 ^ (2 * cnt)) ?_ (fun R hRl ih => ?_)
          · intro μ' hR'
            refine hP _ _ _ _ _ _ _ _ _ _ ?_
            unfold B_X12_plan_74
            rw [fp1]
            refine ifc (nI_leI (by omega) (by omega)) (fun _ => ?_) (fun g => absurd (Nat.le_refl _) g)
            have hk := hK μ' hR'
            cases ep : planL S x r h n cnt (2 ^ (2 * cnt)) with
            | none =>
              rw [ep] at hk
              rw [if_pos (show oI (Option.map (fun p : Nat × Nat => p.2) none) = -1 from rfl)]
              exact hk
            | some p =>
              have hp := bd _ p ep
              rw [ep] at hk
              rw [if_neg (show ¬ oI (Option.map (fun p : Nat × Nat => p.2) (some p)) = -1 from nI_ne_m1 (by show p.2 < 2 ^ 31; omega))]
              cases o with
              | none =>
                rw [if_pos (show f = -1 from ef)]
                exact hk
              | some w =>
                have hw := ho w rfl
                rw [if_neg (by rw [ef]; exact nI_ne_m1 (by omega))]
                have e9 : (nI cnt - 1) - f = nI (cnt - 1 - w) := by
                  rw [ef, oI_some, show (1 : Int32) = nI 1 from rfl, pk_sub (by omega), pk_sub (by omega)]
                rw [e9]
                show K ((nI p.2 >>> (((2 : Int32) * nI (cnt - 1 - w)) &&& 31)) &&& 3) μ'
                rw [row_bits (by omega) (by omega)]
                exact hk
          · intro μ' hR'
            refine hP _ _ _ _ _ _ _ _ _ _ ?_
            unfold B_X12_plan_74
            rw [fp1]
            refine ifc (nI_leI (by omega) (by omega)) (fun g => absurd g (by omega)) (fun _ => ?_)
            refine r_wouldWin hR' hW hC hx hrun e0 n1 n2 c2 (by omega) fun μ2 hR2 => ?_
            have ih2 := ih μ2 hR2
            rw [nI_1]
            have ep1 : planL S x r h n cnt (R + 1) = (match wwL S x r h n R cnt 0 with
              | none => planL S x r h n cnt R
              | some v => match planL S x r h n cnt R with
                | none => some (v, R)
                | some p => if p.1 < v then some (v, R) else some p) := rfl
            rw [ep1] at ih2
            cases ew : wwL S x r h n R cnt 0 with
            | none =>
              rw [ew] at ih2
              rw [if_neg]
              · exact ih2
              · cases ep : planL S x r h n cnt R with
                | none => exact show ¬ (-1 : Int32) < -1 by decide
                | some p => exact nI_nlt_m1 (by have := bd _ p ep; show p.1 < 2 ^ 31; omega)
            | some v =>
              have hv := wwL_le n2 cnt S 0 v (WF_more hW (by decide)) (by omega) hx hrun e0 n1 ew
              have hv2 : cnt * 1200000 ≤ 4 * 1200000 := Nat.mul_le_mul_right _ c2
              rw [ew] at ih2
              dsimp only at ih2
              cases ep : planL S x r h n cnt R with
              | none =>
                rw [ep] at ih2
                rw [if_pos (show oI (Option.map (fun p : Nat × Nat => p.1) none) < oI (some v) from nI_m1_lt (by omega))]
                exact ih2
              | some p =>
                have hp := bd _ p ep
                rw [ep] at ih2
                dsimp only at ih2
                show if nI p.1 < nI v then _ else _
                refine ifc (nI_ltI (by omega) (by omega)) (fun q => ?_) (fun q => ?_)
                · rw [if_pos q] at ih2
                  exact ih2
                · rw [if_neg q] at ih2
                  exact ih2
        exact key 0 (Nat.zero_le _) μ hR
      · rw [if_pos rfl]
        have hk := hK μ hR
        cases e1 : ixO e 5 with
        | none => rw [e1] at hk; exact hk
        | some m =>
          obtain ⟨q1, q2⟩ := ixO_inv e1
          rw [e1] at hk
          dsimp only at hk
          rw [if_pos (Nat.le_zero.mp (Nat.le_of_not_lt fun h => g m h (by omega) q2))] at hk
          exact hk
    · rw [if_pos rfl]
      have hk := hK μ hR
      cases e1 : ixO d 20001 with
      | none => rw [e1] at hk; exact hk
      | some m =>
        rw [e1] at hk
        dsimp only at hk
        rw [if_pos (g m e1)] at hk
        exact hk
  · rw [if_pos rfl]
    have hk := hK μ hR
    cases e1 : ixO b (S.1 0 3) with
    | none => rw [e1] at hk; exact hk
    | some r =>
      obtain ⟨g1, g2⟩ := ixO_inv e1
      rw [e1] at hk
      dsimp only at hk
      cases e2 : ixO c (S.1 10 r) with
      | none => rw [e2] at hk; exact hk
      | some h =>
        obtain ⟨g3, g4⟩ := ixO_inv e2
        rw [e2] at hk
        dsimp only at hk
        rw [if_pos] at hk
        · exact hk
        · cases e3 : (S.1 11 r).testBit h with
          | true => rfl
          | false => exact absurd g4 (g r h ⟨g1, g3, e3⟩ g2)
end REFH
