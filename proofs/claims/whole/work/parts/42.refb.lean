/-! The reference: bets written. -/
def newBet (S : z_SS) (z b kd st paid : Nat) (leg : Nat → Option Nat) : z_SS := (fun c k => if c = 0 ∧ k = 6 then S.1 0 6 + 1 else if c = 15 ∧ k = b then S.1 15 b + paid else if c = 20 ∧ k = S.1 0 6 then z else if c = 21 ∧ k = S.1 0 6 then b else if c = 22 ∧ k = S.1 0 6 then kd else if c = 23 ∧ k = S.1 0 6 then st else if c = 24 ∧ k = S.1 0 6 then S.1 0 2 else if c = 27 ∧ k = S.1 0 6 then 0 else if c = 28 ∧ k = S.1 0 6 then 0 else if c = 26 ∧ 3 * S.1 0 6 ≤ k ∧ k < 3 * S.1 0 6 + 3 then (match leg (k - 3 * S.1 0 6) with
    | some h => (S.2.1 17 (24 * b + 8 * (k - 3 * S.1 0 6) + h)).getD 0
    | none => 0) else S.1 c k, fun c k => if c = 25 ∧ 3 * S.1 0 6 ≤ k ∧ k < 3 * S.1 0 6 + 3 then leg (k - 3 * S.1 0 6) else S.2.1 c k, S.2.2)
section NEWB
variable {S : z_SS} {z b kd st paid : Nat} {leg : Nat → Option Nat}
theorem nb6 : (newBet S z b kd st paid leg).1 0 6 = S.1 0 6 + 1 := rfl
theorem nb15 {k : Nat} : (newBet S z b kd st paid leg).1 15 k = if k = b then S.1 15 b + paid else S.1 15 k := by unfold newBet; simp
theorem nb20 {k : Nat} : (newBet S z b kd st paid leg).1 20 k = if k = S.1 0 6 then z else S.1 20 k := by unfold newBet; simp
theorem nb21 {k : Nat} : (newBet S z b kd st paid leg).1 21 k = if k = S.1 0 6 then b else S.1 21 k := by unfold newBet; simp
theorem nb22 {k : Nat} : (newBet S z b kd st paid leg).1 22 k = if k = S.1 0 6 then kd else S.1 22 k := by unfold newBet; simp
theorem nb23 {k : Nat} : (newBet S z b kd st paid leg).1 23 k = if k = S.1 0 6 then st else S.1 23 k := by unfold newBet; simp
theorem nb24 {k : Nat} : (newBet S z b kd st paid leg).1 24 k = if k = S.1 0 6 then S.1 0 2 else S.1 24 k := by unfold newBet; simp
theorem nb27 {k : Nat} : (newBet S z b kd st paid leg).1 27 k = if k = S.1 0 6 then 0 else S.1 27 k := by unfold newBet; simp
theorem nb28 {k : Nat} : (newBet S z b kd st paid leg).1 28 k = if k = S.1 0 6 then 0 else S.1 28 k := by unfold newBet; simp
theorem nb26 {k : Nat} : (newBet S z b kd st paid leg).1 26 k = if 3 * S.1 0 6 ≤ k ∧ k < 3 * S.1 0 6 + 3 then (match leg (k - 3 * S.1 0 6) with
    | some h => (S.2.1 17 (24 * b + 8 * (k - 3 * S.1 0 6) + h)).getD 0
    | none => 0) else S.1 26 k := by unfold newBet; simp
theorem nb25 {k : Nat} : (newBet S z b kd st paid leg).2.1 25 k = if 3 * S.1 0 6 ≤ k ∧ k < 3 * S.1 0 6 + 3 then leg (k - 3 * S.1 0 6) else S.2.1 25 k := by unfold newBet; simp
theorem nbk {c k : Nat} (h0 : c ≠ 0 ∨ k ≠ 6) (h15 : c ≠ 15 ∨ k ≠ b) (h : c < 20 ∨ 28 < c) : (newBet S z b kd st paid leg).1 c k = S.1 c k := by
  unfold newBet
  dsimp only
  rw [if_neg (by omega), if_neg (by omega), if_neg (by omega), if_neg (by omega), if_neg (by omega), if_neg (by omega), if_neg (by omega), if_neg (by omega), if_neg (by omega), if_neg (by omega)]
theorem nbo {c : Nat} (h : c ≠ 25) : (newBet S z b kd st paid leg).2.1 c = S.2.1 c := by
  unfold newBet
  funext k
  dsimp only
  rw [if_neg (fun q => h q.1)]
/-- what stands behind the writing of a bet -/
def NB (S : z_SS) (μ μ' : z_M) (z b kd st : Nat) (leg : Nat → Option Nat) : Prop := (μ'.1 20 (S.1 0 6) = nI z ∧ μ'.1 21 (S.1 0 6) = nI b ∧ μ'.1 22 (S.1 0 6) = nI kd ∧ μ'.1 23 (S.1 0 6) = nI st ∧ μ'.1 24 (S.1 0 6) = nI (S.1 0 2) ∧ μ'.1 27 (S.1 0 6) = nI 0 ∧ μ'.1 28 (S.1 0 6) = nI 0) ∧ (∀ r, r < 3 → μ'.1 25 (3 * S.1 0 6 + r) = oI (leg r)) ∧ (∀ r h, r < 3 → leg r = some h → μ'.1 26 (3 * S.1 0 6 + r) = oI (S.2.1 17 (24 * b + 8 * r + h))) ∧ (∀ c k, c < 20 ∨ 28 < c → μ'.1 c k = μ.1 c k) ∧ ∀ c k, 20 ≤ c → c ≤ 28 → live S c k → μ'.1 c k = μ.1 c k
theorem NB_rep {μ μ' : z_M} (hN : NB S μ μ' z b kd st leg) (hR : RepR S μ) : RepR S μ' := hR.same fun c k _ hl => by
  by_cases h : c < 20 ∨ 28 < c
  · exact hN.2.2.2.1 c k h
  · exact hN.2.2.2.2 c k (by omega) (by omega) hl
theorem NB_new {μ μ' μf : z_M} (hN : NB S μ μ' z b kd st leg) (hR : RepR S μ) (hsl : ∀ r h, r < 3 → leg r = some h → ∃ s, S.2.1 17 (24 * b + 8 * r + h) = some s) (h6 : μf.1 0 6 = nI (S.1 0 6 + 1)) (h15 : μf.1 15 b = nI (S.1 15 b + paid)) (hk : ∀ c k, (c ≠ 0 ∨ k ≠ 6) → (c ≠ 15 ∨ k ≠ b) → μf.1 c k = μ'.1 c k) : RepR (newBet S z b kd st paid leg) μf := by
  have hR' := NB_rep hN hR
  obtain ⟨⟨n20, n21, n22, n23, n24, n27, n28⟩, n25, n26, _, _⟩ := hN
  have kk : ∀ c k, 20 ≤ c → μf.1 c k = μ'.1 c k := fun c k hc => hk c k (by omega) (by omega)
  refine ⟨fun k h1 h2 => ?_, fun c k hc hl => ?_, fun c k hc hl => ?_, fun k => ?_, RepCl_kept hR'.2.2.2.2 fun c k h1 h2 => kk c k (by omega)⟩
  · by_cases e : k = 6
    · rw [e, h6]
      rfl
    · rw [hk 0 k (by omega) (by omega), nbk (by omega) (by omega) (by omega)]
      exact hR'.1 k h1 h2
  · by_cases hc2 : c < 20 ∨ 28 < c
    · have hc0 := persA_01 hc
      by_cases e : c = 15 ∧ k = b
      · obtain ⟨e1, e2⟩ := e
        subst e1; subst e2
        rw [h15, nb15, if_pos rfl]
      · rw [hk c k (by omega) (by omega), nbk (by omega) (by omega) hc2]
        refine hR'.2.1 c k hc ?_
        have : ∀ d, d < 20 ∨ 28 < d → live S d k := fun d hd => by
          unfold live liveQ
          split <;> first | trivial | omega
        exact this c hc2
    · rw [kk c k (by omega)]
      have old : ∀ d, d = c → live S d k → μ'.1 c k = nI (S.1 c k) := fun d hd hq => hR'.2.1 c k hc (hd ▸ hq)
      rcases (show c = 20 ∨ c = 21 ∨ c = 22 ∨ c = 23 ∨ c = 24 ∨ c = 25 ∨ c = 26 ∨ c = 27 ∨ c = 28 by omega) with e | e | e | e | e | e | e | e | e <;> subst e
      · have hl2 : k < S.1 0 6 + 1 := hl
        rw [nb20]
        by_cases g : k = S.1 0 6
        · rw [if_pos g, g, n20]
        · rw [if_neg g]
          exact old 20 rfl (show k < S.1 0 6 by omega)
      · have hl2 : k < S.1 0 6 + 1 := hl
        rw [nb21]
        by_cases g : k = S.1 0 6
        · rw [if_pos g, g, n21]
        · rw [if_neg g]
          exact old 21 rfl (show k < S.1 0 6 by omega)
      · have hl2 : k < S.1 0 6 + 1 := hl
        rw [nb22]
        by_cases g : k = S.1 0 6
        · rw [if_pos g, g, n22]
        · rw [if_neg g]
          exact old 22 rfl (show k < S.1 0 6 by omega)
      · have hl2 : k < S.1 0 6 + 1 := hl
        rw [nb23]
        by_cases g : k = S.1 0 6
        · rw [if_pos g, g, n23]
        · rw [if_neg g]
          exact old 23 rfl (show k < S.1 0 6 by omega)
      · have hl2 : k < S.1 0 6 + 1 := hl
        rw [nb24]
        by_cases g : k = S.1 0 6
        · rw [if_pos g, g, n24]
        · rw [if_neg g]
          exact old 24 rfl (show k < S.1 0 6 by omega)
      · cases hc
      · have hl2 : k < 3 * (S.1 0 6 + 1) ∧ (newBet S z b kd st paid leg).2.1 25 k ≠ none := hl
        rw [nb25] at hl2
        rw [nb26]
        by_cases g : 3 * S.1 0 6 ≤ k ∧ k < 3 * S.1 0 6 + 3
        · rw [if_pos g] at hl2 ⊢
          obtain ⟨h, eh⟩ := Option.ne_none_iff_exists'.mp hl2.2
          have q := n26 (k - 3 * S.1 0 6) h (by omega) eh
          obtain ⟨s, es⟩ := hsl (k - 3 * S.1 0 6) h (by omega) eh
          rw [show 3 * S.1 0 6 + (k - 3 * S.1 0 6) = k by omega] at q
          rw [q, eh]
          dsimp only
          rw [es]
          rfl
        · rw [if_neg g] at hl2 ⊢
          exact old 26 rfl (show k < 3 * S.1 0 6 ∧ S.2.1 25 k ≠ none from ⟨by omega, hl2.2⟩)
      · have hl2 : k < S.1 0 6 + 1 := hl
        rw [nb27]
        by_cases g : k = S.1 0 6
        · rw [if_pos g, g, n27]
        · rw [if_neg g]
          exact old 27 rfl (show k < S.1 0 6 by omega)
      · have hl2 : k < S.1 0 6 + 1 := hl
        rw [nb28]
        by_cases g : k = S.1 0 6
        · rw [if_pos g, g, n28]
        · rw [if_neg g]
          exact old 28 rfl (show k < S.1 0 6 by omega)
  · have hc0 := persO_01 hc
    have hc15 : c ≠ 15 := fun e => by subst e; cases hc
    rw [hk c k (by omega) (by omega)]
    by_cases e : c = 25
    · subst e
      have hl2 : k < 3 * (S.1 0 6 + 1) := hl
      rw [nb25]
      by_cases g : 3 * S.1 0 6 ≤ k ∧ k < 3 * S.1 0 6 + 3
      · rw [if_pos g]
        have q := n25 (k - 3 * S.1 0 6) (by omega)
        rw [show 3 * S.1 0 6 + (k - 3 * S.1 0 6) = k by omega] at q
        exact q
      · rw [if_neg g]
        exact hR'.2.2.1 25 k hc (show k < 3 * S.1 0 6 by omega)
    · rw [nbo e]
      refine hR'.2.2.1 c k hc ?_
      unfold persO at hc
      split at hc <;> first | exact True.intro | exact absurd rfl e | cases hc
  · rw [hk 1 k (by omega) (by omega), nbk (by omega) (by omega) (by omega)]
    exact hR'.2.2.2.1 k
theorem newBet_WF {B : Nat} (hW : WF B S) (h6 : S.1 0 6 < B) (hz : z < 16) (hb : b < S.1 0 4) (hkd : kd ≤ 3) (h1 : 1 ≤ st) (h2 : st ≤ 20000) (hp : paid ≤ 40000) (hl : ∀ r h, r < 3 → leg r = some h → runsS S r h ∧ S.1 12 r = 0 ∧ ∃ s, S.2.1 17 (24 * b + 8 * r + h) = some s) (he : ∃ r, r < 3 ∧ leg r ≠ none) (hu : kd ≠ 3 → ∀ r r', r < 3 → r' < 3 → leg r ≠ none → leg r' ≠ none → r = r') : WF B (newBet S z b kd st paid leg) := by
  have w17 := fun k s hk e => wf17 (k := k) (s := s) hW hk e
  unfold WF at hW ⊢
  obtain ⟨a1, a2, a3, a4, a5, a6, a7, a8, a9, a10, a11, a12⟩ := hW
  refine ⟨⟨a1.1, a1.2.1, a1.2.2.1, a1.2.2.2.1, a1.2.2.2.2.1, ?_⟩, a2, a3, fun q hq => ?_, a5, a6, fun j hj => ?_, fun r h g1 g2 => ?_, a9, a10, a11, a12⟩
  · rw [nb6]
    exact h6
  · have := a4 q hq
    rw [nb15, nb6]
    refine ⟨?_, this.2⟩
    split
    · rename_i e
      subst e
      omega
    · omega
  · rw [nb20, nb21, nb22, nb23, nb24, nb27, nb28]
    have e5 : ∀ k, (newBet S z b kd st paid leg).2.1 25 (3 * j + k) = if 3 * S.1 0 6 ≤ 3 * j + k ∧ 3 * j + k < 3 * S.1 0 6 + 3 then leg (3 * j + k - 3 * S.1 0 6) else S.2.1 25 (3 * j + k) := fun k => nb25
    have e6 : ∀ k, (newBet S z b kd st paid leg).1 26 (3 * j + k) = if 3 * S.1 0 6 ≤ 3 * j + k ∧ 3 * j + k < 3 * S.1 0 6 + 3 then (match leg (3 * j + k - 3 * S.1 0 6) with
      | some h => (S.2.1 17 (24 * b + 8 * (3 * j + k - 3 * S.1 0 6) + h)).getD 0
      | none => 0) else S.1 26 (3 * j + k) := fun k => nb26
    have hj2 : j < S.1 0 6 + 1 := hj
    by_cases g : j = S.1 0 6
    · rw [if_pos g, if_pos g, if_pos g, if_pos g, if_pos g, if_pos g, if_pos g]
      have e5' : ∀ k, k < 3 → (newBet S z b kd st paid leg).2.1 25 (3 * j + k) = leg k := fun k hk => by
        rw [e5, if_pos (by omega), show 3 * j + k - 3 * S.1 0 6 = k by omega]
      have e6' : ∀ k, k < 3 → (newBet S z b kd st paid leg).1 26 (3 * j + k) = (match leg k with
        | some h => (S.2.1 17 (24 * b + 8 * k + h)).getD 0
        | none => 0) := fun k hk => by
        rw [e6, if_pos (by omega), show 3 * j + k - 3 * S.1 0 6 = k by omega]
      obtain ⟨r, hr, her⟩ := he
      refine ⟨hz, hb, hkd, h1, h2, Nat.le_refl _, by omega, by omega, ⟨r, hr, by rw [e5' r hr]; exact her⟩, fun r h hr hh => ?_, fun hn r r' hr hr' q q' => ?_⟩
      · rw [e5' r hr] at hh
        obtain ⟨⟨k1, k2, k3⟩, _, s, hs⟩ := hl r h hr hh
        refine ⟨k1, k2, ?_⟩
        rw [e6' r hr, hh]
        dsimp only
        rw [hs]
        have := a3 r k1
        exact (w17 _ s (by omega) hs).1
      · rw [e5' r hr] at q
        rw [e5' r' hr'] at q'
        exact hu hn r r' hr hr' q q'
    · rw [if_neg g, if_neg g, if_neg g, if_neg g, if_neg g, if_neg g, if_neg g]
      have e5' : ∀ k, k < 3 → (newBet S z b kd st paid leg).2.1 25 (3 * j + k) = S.2.1 25 (3 * j + k) := fun k hk => by
        rw [e5, if_neg (by omega)]
      have e6' : ∀ k, k < 3 → (newBet S z b kd st paid leg).1 26 (3 * j + k) = S.1 26 (3 * j + k) := fun k hk => by
        rw [e6, if_neg (by omega)]
      obtain ⟨b1, b2, b3, b4, b5, b6, b7, b8, ⟨r, hr, b9⟩, b10, b11⟩ := a7 j (by omega)
      refine ⟨b1, b2, b3, b4, b5, b6, b7, b8, ⟨r, hr, by rw [e5' r hr]; exact b9⟩, fun r h hr hh => ?_, fun hn r r' hr hr' q q' => ?_⟩
      · rw [e5' r hr] at hh
        rw [e6' r hr]
        exact b10 r h hr hh
      · rw [e5' r hr] at q
        rw [e5' r' hr'] at q'
        exact b11 hn r r' hr hr' q q'
  · have := a8 r h g1 g2
    rw [nb6]
    exact Nat.le_succ_of_le this
end NEWB
section REFB
variable {B : Nat} {S : z_SS} {μ : z_M}
theorem r_writes (hB : B ≤ 84) (hR : RepR S μ) (hW : WF B S) (h6 : S.1 0 6 < B) {z b kd st : Nat} {K : z_M → Prop} (hK : ∀ μ', NB S μ μ' z b kd st (fun _ => none) → μ'.2 = μ.2 → K μ') : C_X12_writes (nI z) (nI b) (nI kd) (nI st) μ K := by
  have h3 := hW.1
  have e6 : μ.1 0 6 = nI (S.1 0 6) := hR.f (by decide) (by decide)
  have e2 : μ.1 0 2 = nI (S.1 0 2) := hR.f (by decide) (by decide)
  have s6 : ∀ (m : z_M) (c k : Nat) (v : Int32) (j : Nat), c ≠ 0 → (si m c k v).1 0 j = m.1 0 j := fun m c k v j hc => by rw [si1, if_neg (fun q => hc q.1.symm)]
  have s20 := fun m k v j => s6 m 20 k v j (by decide)
  have s21 := fun m k v j => s6 m 21 k v j (by decide)
  have s22 := fun m k v j => s6 m 22 k v j (by decide)
  have s23 := fun m k v j => s6 m 23 k v j (by decide)
  have s24 := fun m k v j => s6 m 24 k v j (by decide)
  have s27 := fun m k v j => s6 m 27 k v j (by decide)
  have s28 := fun m k v j => s6 m 28 k v j (by decide)
  have z0 : (0 : Int32) &&& 1 = nI 0 := by decide
  have ci : (nI (S.1 0 6)).toNatClampNeg = S.1 0 6 := nI_clamp (by omega)
  have vi : vp_in (nI (S.1 0 6)) 84 := nI_vin (by omega) (by omega)
  unfold C_X12_writes
  simp only [s20, s21, s22, s23, s24, s27, s28, e6, e2, ci, z0]
  refine ⟨vi, vi, vi, vi, vi, vi, vi, ?_⟩
  unfold L_X12_writes_77
  intro P hP
  generalize hm : (si (si (si (si (si (si (si μ 20 (S.1 0 6) (nI z)) 21 (S.1 0 6) (nI b)) 22 (S.1 0 6) (nI kd)) 23 (S.1 0 6) (nI st)) 24 (S.1 0 6) (nI (S.1 0 2))) 27 (S.1 0 6) (nI 0)) 28 (S.1 0 6) (nI 0)) = m0
  have m6 : m0.1 0 6 = nI (S.1 0 6) := by
    rw [← hm]
    simp only [s20, s21, s22, s23, s24, s27, s28, e6]
  have step : ∀ (m : z_M) (r : Nat), r < 3 → m.1 0 6 = nI (S.1 0 6) → P (nI (r + 1)) (si m 25 (3 * S.1 0 6 + r) (oI none)) → P (nI r) m := by
    intro m r hr hm6 h
    refine hP _ _ ?_
    unfold B_X12_writes_77
    rw [hm6, r_leg, nI_clamp (by omega), nI_1]
    exact ifc (nI_leI (a := 3) (by omega) (by omega)) (fun g => absurd g (by omega)) (fun _ => ⟨nI_vin (by omega) (by omega), h⟩)
  refine step m0 0 (by decide) m6 (step _ 1 (by decide) (by rw [s6 _ _ _ _ _ (by decide)]; exact m6) (step _ 2 (by decide) (by rw [s6 _ _ _ _ _ (by decide), s6 _ _ _ _ _ (by decide)]; exact m6) ?_))
  refine hP _ _ ?_
  unfold B_X12_writes_77
  rw [if_pos (by decide)]
  subst hm
  refine hK _ ⟨⟨?_, ?_, ?_, ?_, ?_, ?_, ?_⟩, fun r hr => ?_, (fun r h hr e => by cases e), fun c k hc => ?_, fun c k h20 h28 hl => ?_⟩ rfl
  · simp [si1]
  · simp [si1]
  · simp [si1]
  · simp [si1]
  · simp [si1]
  · simp [si1]
  · simp [si1]
  · rcases (show r = 0 ∨ r = 1 ∨ r = 2 by omega) with e | e | e <;> subst e <;> simp [si1]
  · rw [si1, if_neg (by omega), si1, if_neg (by omega), si1, if_neg (by omega), si1, if_neg (by omega), si1, if_neg (by omega), si1, if_neg (by omega), si1, if_neg (by omega), si1, if_neg (by omega), si1, if_neg (by omega), si1, if_neg (by omega)]
  · have dead : ∀ (d j : Nat), (d = 20 ∨ d = 21 ∨ d = 22 ∨ d = 23 ∨ d = 24 ∨ d = 27 ∨ d = 28) → ¬ (c = d ∧ k = S.1 0 6) := by
      intro d j hd q
      rw [q.1, q.2] at hl
      rcases hd with e | e | e | e | e | e | e <;> subst e <;> exact absurd (show S.1 0 6 < S.1 0 6 from hl) (Nat.lt_irrefl _)
    have dead2 : ∀ r, r < 3 → ¬ (c = 25 ∧ k = 3 * S.1 0 6 + r) := by
      intro r hr q
      rw [q.1, q.2] at hl
      have : 3 * S.1 0 6 + r < 3 * S.1 0 6 := hl
      omega
    rw [si1, if_neg (dead2 2 (by decide)), si1, if_neg (dead2 1 (by decide)), si1, if_neg (dead2 0 (by decide)), si1, if_neg (dead 28 0 (by simp)), si1, if_neg (dead 27 0 (by simp)), si1, if_neg (dead 24 0 (by simp)), si1, if_neg (dead 23 0 (by simp)), si1, if_neg (dead 22 0 (by simp)), si1, if_neg (dead 21 0 (by simp)), si1, if_neg (dead 20 0 (by simp))]
theorem r_takes (hB : B ≤ 84) (hR : RepR S μ) (hW : WF B S) (h6 : S.1 0 6 < B) {μ1 : z_M} {z b kd st : Nat} {leg : Nat → Option Nat} {r h : Nat} (hN : NB S μ μ1 z b kd st leg) (hb : b < 4) (hr : r < 3) (hh : h < 8) {K : z_M → Prop} (hK : ∀ μ', NB S μ μ' z b kd st (fun q => if q = r then some h else leg q) → K μ') : C_X12_takes (nI b) (nI r) (nI h) μ1 K := by
  have h3 := hW.1
  have hR1 := NB_rep hN hR
  have e6 : μ1.1 0 6 = nI (S.1 0 6) := hR1.f (by decide) (by decide)
  obtain ⟨⟨n20, n21, n22, n23, n24, n27, n28⟩, n25, n26, nk1, nk2⟩ := hN
  unfold C_X12_takes
  rw [e6, r_leg, nI_clamp (by omega), show (si μ1 25 (3 * S.1 0 6 + r) (nI h)).1 0 6 = nI (S.1 0 6) by rw [si1, if_neg (by omega)]; exact e6, r_leg]
  refine ⟨nI_vin (by omega) (by omega), r_cellOf ⟨nI_vin (by omega) (by omega), nI_vin (by omega) (by omega), ?_⟩⟩
  rw [nI_clamp (by omega), nI_clamp (n := 24 * b + 8 * r + h) (by omega), show (si μ1 25 (3 * S.1 0 6 + r) (nI h)).1 17 (24 * b + 8 * r + h) = oI (S.2.1 17 (24 * b + 8 * r + h)) by rw [si1, if_neg (by omega)]; exact hR1.o rfl]
  refine hK _ ⟨⟨?_, ?_, ?_, ?_, ?_, ?_, ?_⟩, fun q hq => ?_, fun q h' hq e => ?_, fun c k hc => ?_, fun c k h20 h28 hl => ?_⟩
  · rw [si1, if_neg (by omega), si1, if_neg (by omega)]; exact n20
  · rw [si1, if_neg (by omega), si1, if_neg (by omega)]; exact n21
  · rw [si1, if_neg (by omega), si1, if_neg (by omega)]; exact n22
  · rw [si1, if_neg (by omega), si1, if_neg (by omega)]; exact n23
  · rw [si1, if_neg (by omega), si1, if_neg (by omega)]; exact n24
  · rw [si1, if_neg (by omega), si1, if_neg (by omega)]; exact n27
  · rw [si1, if_neg (by omega), si1, if_neg (by omega)]; exact n28
  · rw [si1, if_neg (by omega), si1]
    dsimp only
    by_cases e : q = r
    · rw [if_pos ⟨rfl, by omega⟩, if_pos e]
      rfl
    · rw [if_neg (by omega), if_neg e]
      exact n25 q hq
  · rw [si1]
    dsimp only at e
    by_cases g : q = r
    · rw [if_pos g] at e
      cases e
      rw [if_pos ⟨rfl, by omega⟩, g]
    · rw [if_neg g] at e
      rw [if_neg (by omega), si1, if_neg (by omega)]
      exact n26 q h' hq e
  · rw [si1, if_neg (by omega), si1, if_neg (by omega)]
    exact nk1 c k hc
  · rw [si1, if_neg, si1, if_neg]
    · exact nk2 c k h20 h28 hl
    · intro q
      rw [q.1, q.2] at hl
      have : 3 * S.1 0 6 + r < 3 * S.1 0 6 := hl
      omega
    · intro q
      rw [q.1, q.2] at hl
      have : 3 * S.1 0 6 + r < 3 * S.1 0 6 ∧ _ := hl
      omega
end REFB
