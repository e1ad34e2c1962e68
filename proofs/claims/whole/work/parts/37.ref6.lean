/-! The reference: how many bits, now, scratch. -/
theorem nI_or {a b : Nat} (ha : a < 2 ^ 32) (hb : b < 2 ^ 32) : nI a ||| nI b = nI (a ||| b) := by
  apply Int32.toBitVec.inj
  apply BitVec.eq_of_toNat_eq
  rw [Int32.toBitVec_or, BitVec.toNat_or, pk_tn ha, pk_tn hb, pk_tn (Nat.or_lt_two_pow ha hb)]
theorem nI_and {a b : Nat} (ha : a < 2 ^ 32) (hb : b < 2 ^ 32) : nI a &&& nI b = nI (a &&& b) := by
  apply Int32.toBitVec.inj
  apply BitVec.eq_of_toNat_eq
  rw [Int32.toBitVec_and, BitVec.toNat_and, pk_tn ha, pk_tn hb, pk_tn (Nat.lt_of_le_of_lt Nat.and_le_left ha)]
def popN (g : Nat) : Nat := sumN 8 (fun h => if g.testBit h = true then 1 else 0)
theorem popN_step : ∀ g : Fin 256, 0 < g.val → popN (g.val &&& (g.val - 1)) + 1 = popN g.val ∧ g.val &&& (g.val - 1) < g.val := by decide +kernel
theorem nI_1shl : ∀ h : Fin 31, (1 : Int32) <<< (nI h &&& 31) = nI (2 ^ h.val) := by decide +kernel
theorem r_sizeOf {g : Nat} (hg : g < 256) {μ : z_M} {K : Int32 → z_M → Prop} (hK : K (nI (popN g)) μ) : C_X12_sizeOf (nI g) μ K := by
  unfold C_X12_sizeOf L_X12_sizeOf_4
  intro P hP
  have go : ∀ n g a, g ≤ n → g < 256 → K (nI (a + popN g)) μ → P (nI a) (nI g) μ := by
    intro n
    induction n with
    | zero =>
      intro g a hn hg hk
      have e : g = 0 := Nat.le_zero.mp hn
      subst e
      refine hP _ _ _ ?_
      unfold B_X12_sizeOf_4
      rw [if_pos (show nI 0 = 0 from rfl)]
      exact hk
    | succ n ih =>
      intro g a hn hg hk
      refine hP _ _ _ ?_
      unfold B_X12_sizeOf_4
      refine ifc (nI_eq (b := 0) (by omega) (by decide)) (fun e => ?_) (fun e => ?_)
      · subst e
        exact hk
      · obtain ⟨h1, h2⟩ := popN_step ⟨g, hg⟩ (Nat.pos_of_ne_zero e)
        dsimp only at h1 h2
        have e1 : nI g - 1 = nI (g - 1) := by
          rw [show g = (g - 1) + 1 by omega, nI_pred]
          rfl
        rw [e1, nI_and (by omega) (by omega), nI_1]
        refine ih _ _ (by omega) (by omega) ?_
        rw [show a + 1 + popN (g &&& (g - 1)) = a + popN g by omega]
        exact hk
  have h0 := go g g 0 (Nat.le_refl _) hg (by rw [Nat.zero_add]; exact hK)
  exact h0
/-- memories of races that differ in the seconds marked alone -/
def same60 (S S' : z_SS) : Prop := (∀ c k, c ≠ 60 → S'.1 c k = S.1 c k) ∧ S'.2 = S.2
theorem longB_60 {S S' : z_SS} (h : same60 S S') (r x : Nat) : ∀ n, longB S' r x n = longB S r x n := by
  intro n
  induction n with
  | zero => rfl
  | succ n ih =>
    unfold longB
    rw [ih, h.1 16 n (by decide), h.2]
theorem longS_60 {S S' : z_SS} (h : same60 S S') (r x : Nat) : longS S' r x = longS S r x := by
  unfold longS
  rw [h.1 0 4 (by decide), longB_60 h]
theorem runsS_60 {S S' : z_SS} (h : same60 S S') (r x : Nat) : runsS S' r x ↔ runsS S r x := by
  unfold runsS
  rw [h.1 0 3 (by decide), h.1 10 r (by decide), h.1 11 r (by decide)]
theorem pricedTo_60 {S S' : z_SS} (h : same60 S S') (r : Nat) : ∀ n, pricedTo S' r n = pricedTo S r n := by
  intro n
  induction n with
  | zero => rfl
  | succ n ih =>
    unfold pricedTo
    rw [ih, longS_60 h]
    simp only [runsS_60 h]
theorem fracS_60 {S S' : z_SS} (h : same60 S S') (r : Nat) : ∀ n, fracS S' (sureF S' r) n = fracS S (sureF S r) n := by
  intro n
  induction n with
  | zero => rfl
  | succ n ih =>
    unfold fracS
    rw [ih]
    have e : sureF S' r n = sureF S r n := by
      unfold sureF
      rw [longS_60 h]
      simp only [runsS_60 h]
    rw [e]
    cases sureF S r n with
    | none => rfl
    | some s =>
      dsimp only
      rw [h.1 8 s (by decide), h.1 9 s (by decide)]
theorem sureS_60 {S S' : z_SS} (h : same60 S S') (r : Nat) : sureS S' r = sureS S r := by
  unfold sureS
  rw [h.1 12 r (by decide), h.1 10 r (by decide), pricedTo_60 h, fracS_60 h]
theorem leftS_60 {S S' : z_SS} (h : same60 S S') (r : Nat) : leftS S' r = leftS S r := by
  unfold leftS
  rw [h.1 10 r (by decide), h.1 11 r (by decide)]
theorem WF_60 {B : Nat} {S S' : z_SS} (h : same60 S S') (hW : WF B S) (h1 : ∀ k, S'.1 60 k ≤ 1) (h2 : ∀ r, S.1 0 3 ≤ r → r < 3 → ∀ k, k < 600 → S'.1 60 (600 * r + k) = 0) : WF B S' := by
  have e0 : ∀ k, S'.1 0 k = S.1 0 k := fun k => h.1 0 k (by decide)
  have e1 : ∀ k, S'.1 1 k = S.1 1 k := fun k => h.1 1 k (by decide)
  have e8 : ∀ k, S'.1 8 k = S.1 8 k := fun k => h.1 8 k (by decide)
  have e9 : ∀ k, S'.1 9 k = S.1 9 k := fun k => h.1 9 k (by decide)
  have e10 : ∀ k, S'.1 10 k = S.1 10 k := fun k => h.1 10 k (by decide)
  have e11 : ∀ k, S'.1 11 k = S.1 11 k := fun k => h.1 11 k (by decide)
  have e12 : ∀ k, S'.1 12 k = S.1 12 k := fun k => h.1 12 k (by decide)
  have e13 : ∀ k, S'.1 13 k = S.1 13 k := fun k => h.1 13 k (by decide)
  have e14 : ∀ k, S'.1 14 k = S.1 14 k := fun k => h.1 14 k (by decide)
  have e15 : ∀ k, S'.1 15 k = S.1 15 k := fun k => h.1 15 k (by decide)
  have e16 : ∀ k, S'.1 16 k = S.1 16 k := fun k => h.1 16 k (by decide)
  have e18 : ∀ k, S'.1 18 k = S.1 18 k := fun k => h.1 18 k (by decide)
  have e20 : ∀ k, S'.1 20 k = S.1 20 k := fun k => h.1 20 k (by decide)
  have e21 : ∀ k, S'.1 21 k = S.1 21 k := fun k => h.1 21 k (by decide)
  have e22 : ∀ k, S'.1 22 k = S.1 22 k := fun k => h.1 22 k (by decide)
  have e23 : ∀ k, S'.1 23 k = S.1 23 k := fun k => h.1 23 k (by decide)
  have e24 : ∀ k, S'.1 24 k = S.1 24 k := fun k => h.1 24 k (by decide)
  have e26 : ∀ k, S'.1 26 k = S.1 26 k := fun k => h.1 26 k (by decide)
  have e27 : ∀ k, S'.1 27 k = S.1 27 k := fun k => h.1 27 k (by decide)
  have e28 : ∀ k, S'.1 28 k = S.1 28 k := fun k => h.1 28 k (by decide)
  unfold WF at hW ⊢
  simp only [runsS_60 h, leftS_60 h, e0, e1, e8, e9, e10, e11, e12, e13, e14, e15, e16, e18, e20, e21, e22, e23, e24, e26, e27, e28, h.2]
  obtain ⟨a1, a2, a3, a4, a5, a6, a7, a8, a9, a10, a11, a12⟩ := hW
  exact ⟨a1, a2, a3, a4, a5, a6, a7, a8, h1, a10, fun r g1 g2 => ⟨(a11 r g1 g2).1, (a11 r g1 g2).2.1, h2 r g1 g2⟩, a12⟩
theorem b2n_le (b : Bool) : b2n b ≤ 1 := by cases b <;> decide
theorem markS_1 {S : z_SS} {R u t c k : Nat} : (markS S R u t).1 c k = if c = 60 ∧ ((k / 600 < R ∧ S.1 0 2 ≤ k % 600 ∧ k % 600 < t) ∨ (k / 600 = R ∧ S.1 0 2 ≤ k % 600 ∧ k % 600 < u)) then b2n (sureS S (k / 600)) else S.1 c k := rfl
theorem markS_same {S : z_SS} {R u t : Nat} : same60 S (markS S R u t) := ⟨fun c k hc => by rw [markS_1, if_neg (fun e => hc e.1)], rfl⟩
theorem markS_WF {B : Nat} {S : z_SS} (hW : WF B S) {R u t : Nat} (hR : R < S.1 0 3 ∨ (R ≤ S.1 0 3 ∧ u ≤ S.1 0 2)) : WF B (markS S R u t) := by
  refine WF_60 markS_same hW (fun k => ?_) (fun r h1 h2 k hk => ?_)
  · rw [markS_1]
    split
    · exact b2n_le _
    · exact hW.su k
  · rw [markS_1, if_neg]
    · exact (hW.2.2.2.2.2.2.2.2.2.2.1 r h1 h2).2.2 k hk
    · have e1 : (600 * r + k) / 600 = r := by omega
      have e2 : (600 * r + k) % 600 = k := by omega
      rw [e1, e2]
      omega
theorem markS_0 {S : z_SS} {t : Nat} : markS S 0 (S.1 0 2) t = S := by
  refine Prod.ext (funext fun c => funext fun k => ?_) rfl
  rw [markS_1, if_neg (by omega)]
theorem markS_next {S : z_SS} {R t : Nat} : markS S R t t = markS S (R + 1) (S.1 0 2) t := by
  refine Prod.ext (funext fun c => funext fun k => ?_) rfl
  rw [markS_1, markS_1]
  by_cases e : c = 60 ∧ (k / 600 < R ∧ S.1 0 2 ≤ k % 600 ∧ k % 600 < t ∨ k / 600 = R ∧ S.1 0 2 ≤ k % 600 ∧ k % 600 < t)
  · rw [if_pos e, if_pos ⟨e.1, by omega⟩]
  · rw [if_neg e, if_neg (by omega)]
theorem markS_step {S : z_SS} {R u t : Nat} (h1 : S.1 0 2 ≤ u) (h2 : u < 600) : setN (markS S R u t) 60 (600 * R + u) (b2n (sureS S R)) = markS S R (u + 1) t := by
  refine Prod.ext (funext fun c => funext fun k => ?_) rfl
  rw [setN_1, markS_1, markS_1]
  by_cases e : c = 60 ∧ k = 600 * R + u
  · have e1 : k / 600 = R := by omega
    rw [if_pos e, if_pos ⟨e.1, by omega⟩, e1]
  · rw [if_neg e]
    by_cases e2 : c = 60 ∧ (k / 600 < R ∧ S.1 0 2 ≤ k % 600 ∧ k % 600 < t ∨ k / 600 = R ∧ S.1 0 2 ≤ k % 600 ∧ k % 600 < u)
    · rw [if_pos e2, if_pos ⟨e2.1, by omega⟩]
    · rw [if_neg e2, if_neg (by omega)]
section REF6
variable {B : Nat} {S : z_SS} {μ : z_M}
theorem r_now (hR : RepR S μ) (hW : WF B S) {a : Int32} {K : Int32 → z_M → Prop} (hK : ∀ μ', RepR (opNow S a).2 μ' → K (opNow S a).1 μ') : C_X12_now a μ K := by
  have h3 := hW.1
  unfold C_X12_now
  unfold opNow at hK
  rw [hR.f (k := 2) (by decide) (by decide)]
  refine r_liesC (lo := S.1 0 2) (hi := 599) rfl rfl (by omega) (by decide) (fun t t1 t2 ea => ?_) (fun g => ?_)
  · subst ea
    rw [ixO_some (show t < 600 by omega) (by decide)] at hK
    dsimp only at hK
    rw [if_neg (by omega)] at hK
    rw [if_neg i10]
    unfold L_X12_now_20
    intro P hP
    have key : ∀ r, r ≤ S.1 0 3 → ∀ μ', RepR (markS S r (S.1 0 2) t) μ' → P (nI t) (nI r) μ' := by
      refine downTo (S.1 0 3) ?_ (fun r hr ih => ?_)
      · intro μ' hR'
        refine hP _ _ _ ?_
        unfold B_X12_now_20
        rw [hR'.f (k := 3) (by decide) (by decide), markS_same.1 0 3 (by decide)]
        refine ifc (nI_leI (by omega) (by omega)) (fun _ => ?_) (fun g => absurd (Nat.le_refl _) g)
        exact hK _ (hR'.setF (by decide) rfl)
      · intro μ' hR'
        refine hP _ _ _ ?_
        unfold B_X12_now_20
        rw [hR'.f (k := 3) (by decide) (by decide), markS_same.1 0 3 (by decide)]
        refine ifc (nI_leI (by omega) (by omega)) (fun g => absurd g (by omega)) (fun _ => ?_)
        have hW' := markS_WF hW (R := r) (u := S.1 0 2) (t := t) (Or.inl hr)
        have inner : ∀ (v3 : Int32) (b : Bool), sureS S r = b → (v3 &&& 1) = nI (b2n b) → ∀ μ1, RepR (markS S r (S.1 0 2) t) μ1 → L_X12_now_40 K P (nI t) (nI r) v3 (μ1.1 0 2) μ1 := by
          intro v3 b hb hv μ1 hR1
          unfold L_X12_now_40
          intro Q hQ
          rw [hR1.f (k := 2) (by decide) (by decide), markS_same.1 0 2 (by decide)]
          have key2 : ∀ j, j ≤ t → S.1 0 2 ≤ j → ∀ μ2, RepR (markS S r j t) μ2 → Q (nI t) (nI r) v3 (nI j) μ2 := by
            refine downTo t ?_ (fun j hj ihj => ?_)
            · intro hh μ2 hR2
              refine hQ _ _ _ _ _ ?_
              unfold B_X12_now_40
              refine ifc (nI_leI (by omega) (by omega)) (fun _ => ?_) (fun g => absurd (Nat.le_refl _) g)
              rw [nI_1]
              rw [markS_next] at hR2
              exact ih μ2 hR2
            · intro hh μ2 hR2
              refine hQ _ _ _ _ _ ?_
              unfold B_X12_now_40
              refine ifc (nI_leI (by omega) (by omega)) (fun g => absurd g (by omega)) (fun _ => ?_)
              rw [show (600 : Int32) * nI r + nI j = nI (600 * r + j) by rw [show (600 : Int32) = nI 600 from rfl, nI_mul, nI_add], nI_clamp (by omega), nI_1, hv]
              refine ⟨nI_vin (by omega) (by omega), ihj (by omega) _ ?_⟩
              rw [← markS_step hh (by omega), hb]
              exact hR2.setA rfl rfl
          exact key2 _ t1 (Nat.le_refl _) μ1 hR1
        refine r_isSure hR' hW' (by rw [markS_same.1 0 3 (by decide)]; exact hr) (fun e μ1 hR1 _ => ?_) (fun e μ1 hR1 _ => ?_)
        · rw [sureS_60 markS_same] at e
          exact inner 1 true e (by decide) μ1 hR1
        · rw [sureS_60 markS_same] at e
          exact inner 0 false e (by decide) μ1 hR1
    exact key 0 (Nat.zero_le _) μ (by rw [markS_0]; exact hR)
  · rw [if_pos rfl]
    cases e1 : ixO a 600 with
    | none => rw [e1] at hK; exact hK μ hR
    | some t =>
      obtain ⟨h1, h2⟩ := ixO_inv e1
      rw [e1] at hK
      dsimp only at hK
      rw [if_pos (Nat.lt_of_not_le fun h => g t h (by omega) h2)] at hK
      exact hK μ hR
theorem leftS_pop (hW : WF B S) {r : Nat} (hr : r < S.1 0 3) : leftS S r = S.1 10 r - popN (S.1 11 r) ∧ popN (S.1 11 r) ≤ S.1 10 r := by
  have h4 := hW.2.2.1 r hr
  have e : ∀ n, S.1 10 r ≤ n → sumN n (fun h => if (S.1 11 r).testBit h = true then 1 else 0) = sumN (S.1 10 r) (fun h => if (S.1 11 r).testBit h = true then 1 else 0) := by
    intro n
    induction n with
    | zero => intro h; rw [Nat.le_zero.mp h]
    | succ n ih =>
      intro h
      by_cases g : S.1 10 r = n + 1
      · rw [g]
      · have := ih (by omega)
        conv => lhs; unfold sumN
        rw [this, if_neg, Nat.add_zero]
        intro q
        have := h4.2.2.2.2.2.1 n q
        omega
  have e1 : popN (S.1 11 r) = sumN (S.1 10 r) (fun h => if (S.1 11 r).testBit h = true then 1 else 0) := by
    unfold popN
    rw [e 8 h4.2.1]
  have e2 : leftS S r + popN (S.1 11 r) = S.1 10 r := by
    unfold leftS
    rw [e1, ← sumN_add]
    have : ∀ n, sumN n (fun _ => 1) = n := by
      intro n
      induction n with
      | zero => rfl
      | succ n ih =>
        unfold sumN
        rw [ih]
    rw [← this (S.1 10 r)]
    rw [sumN_congr (g := fun _ => 1) fun i hi => by split <;> rfl]
    rw [this, this]
  omega
theorem scrS_0 {r h : Nat} : scrS S r h 0 = setN (setN S 11 r (S.1 11 r ||| 2 ^ h)) 18 (8 * r + h) (S.1 0 6) := by
  refine Prod.ext rfl (Prod.ext (funext fun c => funext fun k => ?_) rfl)
  unfold scrS
  dsimp only
  rw [if_neg (by omega)]
  rfl
theorem scrS_1 {r h n : Nat} : (scrS S r h n).1 = (setN (setN S 11 r (S.1 11 r ||| 2 ^ h)) 18 (8 * r + h) (S.1 0 6)).1 := rfl
theorem scrS_2 {r h n c k : Nat} : (scrS S r h n).2.1 c k = if k / 24 < n ∧ k % 24 = 8 * r + h then (if c = 19 then S.2.1 17 k else if c = 17 then none else S.2.1 c k) else S.2.1 c k := rfl
theorem scrS_step {r h n : Nat} (hr : r < 3) (hh : h < 8) : setO (setO (scrS S r h n) 19 (24 * n + 8 * r + h) (S.2.1 17 (24 * n + 8 * r + h))) 17 (24 * n + 8 * r + h) none = scrS S r h (n + 1) := by
  refine Prod.ext rfl (Prod.ext (funext fun c => funext fun k => ?_) rfl)
  rw [setO_2, setO_2, scrS_2, scrS_2]
  by_cases e : k = 24 * n + 8 * r + h
  · rw [if_neg (by omega : ¬ (k / 24 < n ∧ k % 24 = 8 * r + h)), if_pos (by omega : k / 24 < n + 1 ∧ k % 24 = 8 * r + h)]
    by_cases e1 : c = 17
    · rw [if_pos ⟨e1, e⟩, if_neg (by omega), if_pos e1]
    · rw [if_neg (fun q => e1 q.1)]
      by_cases e2 : c = 19
      · rw [if_pos ⟨e2, e⟩, if_pos e2, e]
      · rw [if_neg (fun q => e2 q.1), if_neg e2, if_neg e1]
  · rw [if_neg (fun q => e q.2), if_neg (fun q => e q.2)]
    by_cases e2 : k / 24 < n ∧ k % 24 = 8 * r + h
    · rw [if_pos e2, if_pos (show k / 24 < n + 1 ∧ k % 24 = 8 * r + h from ⟨by omega, e2.2⟩)]
    · rw [if_neg e2, if_neg (by omega)]
theorem r_scratch (hB : B ≤ 84) (hR : RepR S μ) (hW : WF B S) {a b : Int32} {K : Int32 → z_M → Prop} (hK : ∀ μ', RepR (opScratch S a b).2 μ' → K (opScratch S a b).1 μ') : C_X12_scratch a b μ K := by
  have h3 := hW.1
  unfold C_X12_scratch
  unfold opScratch at hK
  refine r_runs hR hW (fun r h hx e1 e2 => ?_) (fun g => ?_)
  · subst e1; subst e2
    have h4 := hW.2.2.1 r hx.1
    have hx1 := hx.1
    have hx2 := hx.2.1
    have hL := leftS_pop hW hx.1
    rw [ixO_some hx.1 (by omega)] at hK
    dsimp only at hK
    rw [ixO_some hx.2.1 (by omega)] at hK
    dsimp only at hK
    rw [if_neg (by rw [hx.2.2]; decide)] at hK
    rw [if_neg i10, nI_clamp (by omega), hR.a (c := 12) rfl]
    refine ⟨nI_vin (by omega) (by omega), ifc (nI_eq (b := 0) (by omega) (by decide)) (fun e0 => ?_) (fun e0 => ?_)⟩
    · rw [if_pos e0] at hK
      rw [hR.a (c := 11) rfl]
      refine r_sizeOf (by omega) ?_
      rw [hR.a (c := 10) rfl, pk_sub hL.2, ← hL.1]
      refine ifc (nI_leI (a := 3) (by omega) (by omega)) (fun e3 => ?_) (fun e3 => ?_)
      · rw [if_pos e3] at hK
        rw [show (8 : Int32) * nI r + nI h = nI (8 * r + h) by rw [show (8 : Int32) = nI 8 from rfl, nI_mul, nI_add], nI_clamp (by omega), hR.a (c := 11) rfl, nI_1shl ⟨h, by omega⟩, nI_or (by omega) (show 2 ^ h < 2 ^ 32 from Nat.pow_lt_pow_right (by decide) (by omega)), show (si μ 11 r (nI (S.1 11 r ||| 2 ^ h))).1 0 6 = nI (S.1 0 6) by
            rw [si1, if_neg (by omega)]
            exact hR.f (by decide) (by decide)]
        refine ⟨nI_vin (by omega) (by omega), ?_⟩
        unfold L_X12_scratch_69
        intro P hP
        have key : ∀ n, n ≤ 4 → ∀ μ', RepR (scrS S r h n) μ' → P (nI r) (nI h) (nI n) μ' := by
          refine downTo 4 ?_ (fun n hn ih => ?_)
          · intro μ' hR'
            refine hP _ _ _ _ ?_
            unfold B_X12_scratch_69
            refine ifc (nI_leI (a := 4) (by omega) (by omega)) (fun _ => ?_) (fun g => absurd (Nat.le_refl _) g)
            exact hK μ' hR'
          · intro μ' hR'
            refine hP _ _ _ _ ?_
            unfold B_X12_scratch_69
            refine ifc (nI_leI (a := 4) (by omega) (by omega)) (fun g => absurd g (by omega)) (fun _ => ?_)
            refine r_cellOf (r_cellOf ⟨nI_vin (by omega) (by omega), nI_vin (by omega) (by omega), r_cellOf ⟨nI_vin (by omega) (by omega), ?_⟩⟩)
            rw [nI_clamp (by omega), nI_1]
            refine ih _ ?_
            rw [← scrS_step (by omega) (by omega)]
            refine (hR'.setO rfl ?_).setO rfl rfl
            rw [hR'.o (c := 17) rfl, scrS_2, if_neg (by omega)]
        refine key 0 (by omega) _ ?_
        rw [scrS_0]
        exact (hR.setA rfl rfl).setA rfl rfl
      · rw [if_neg e3] at hK
        exact hK μ hR
    · rw [if_neg e0] at hK
      exact hK μ hR
  · rw [if_pos rfl]
    have hz : ∀ (x : Int32 × z_SS), x = (0, S) → (∀ μ', RepR x.2 μ' → K x.1 μ') → K 0 μ := fun x e hk => by
      subst e
      exact hk μ hR
    refine hz _ ?_ hK
    cases e1 : ixO a (S.1 0 3) with
    | none => rfl
    | some r =>
      obtain ⟨hr, er⟩ := ixO_inv e1
      dsimp only
      cases e2 : ixO b (S.1 10 r) with
      | none => rfl
      | some h =>
        obtain ⟨hh, eh⟩ := ixO_inv e2
        dsimp only
        cases e3 : (S.1 11 r).testBit h with
        | true => rfl
        | false => exact absurd eh (g r h ⟨hr, hh, e3⟩ er)
end REF6
