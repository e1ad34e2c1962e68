/-! The class: plan. -/
section CPLAN
variable {B : Nat} {S : z_SS} {kd : z_K} {q : z_Q} {μ μ' : z_M} {x b r h n cnt : Nat}
theorem nI_back {a k n : Nat} : nI (a + k * n) + (0 - nI k) * nI n = nI a := by
  rw [iI_0sub, ← iI_nat (a + k * n), ← iI_nat n, ← iI_nat a, iI_mul, iI_add]
  congr 1
  rw [Int.natCast_add, Int.natCast_mul, Int.neg_mul]
  omega
theorem nI_back1 {a k : Nat} : nI (a + k) + (0 - nI k) = nI a := by
  rw [iI_0sub, ← iI_nat (a + k), ← iI_nat a, iI_add]
  congr 1
  omega
theorem nI_back2 {a k n v : Nat} : nI (a + (k * n + v)) + ((0 - nI k) * nI n + (0 - nI v)) = nI a := by
  rw [iI_0sub, iI_0sub, ← iI_nat (a + (k * n + v)), ← iI_nat n, ← iI_nat a, iI_mul, iI_add, iI_add]
  congr 1
  rw [Int.natCast_add, Int.natCast_add, Int.natCast_mul, Int.neg_mul]
  omega
theorem RepV_bk (hW : WF 80 S) (hV : RepV S μ) (hb : b < S.1 0 4) (hm : ∀ c k, (c < 9 ∨ 22 < c) → (c < 40 + 8 * b + 1 ∨ 40 + 8 * b + 6 < c ∨ c = 40 + 8 * b + 2) → μ'.1 c k = μ.1 c k) (hs : ∀ k, k < 24 → μ'.1 (40 + 8 * b + 1) k = oI (S.2.1 17 (24 * b + k))) (hO : RvO S μ' b) : RepV S μ' := by
  have h3 := hW.1
  refine ⟨RvG_same hV.1 fun c k hc => hm c k (by omega) (by omega), fun r hr => RvR_same (hV.2.1 r hr) fun c k c1 c2 => hm c k (by omega) (by omega), fun b' hb' => ?_, fun i hi => RvT_same (hV.2.2.2 i hi) fun c k c1 c2 => hm c k (by omega) (by omega)⟩
  by_cases e : b' = b
  · subst e
    obtain ⟨b0, b1, b2, b3, b4, b5, b6⟩ := hV.2.2.1 b' hb'
    refine ⟨by rw [hm _ _ (by omega) (by omega)]; exact b0, by rw [hm _ _ (by omega) (by omega)]; exact b1, by rw [hm _ _ (by omega) (by omega)]; exact b2, hs, fun r y hr hy => by rw [hm _ _ (by omega) (by omega)]; exact b4 r y hr hy, hO, ?_⟩
    unfold TxB at b6 ⊢
    simp only [hm (40 + 8 * b') _ (by omega) (by omega), hm (40 + 8 * b' + 7) _ (by omega) (by omega)]
    exact b6
  · exact RvB_same (hV.2.2.1 b' hb') fun c k c1 c2 => hm c k (by omega) (by omega)
theorem tB_out (hr : r < 3) (hh : h < 8) (hb : b < 4) (h8 : S.1 10 r ≤ 8) {j : Nat} (hj : j < 24 * b + 8 * r ∨ 24 * b + 8 * r + 8 ≤ j) : ∀ k, (tB S x b r h n k).2.1 17 j = S.2.1 17 j
  | 0 => rfl
  | k + 1 => by
    have hA := tB_AG (S := S) (x := x) (n := n) hr hh hb h8 k
    show (pS (tB S x b r h n k) x b r h n).2.1 17 j = _
    unfold pS
    rw [mvS_out (by rw [nb_old (Or.inl (by decide)) (by omega) (by omega), hA.2.1 10 r rfl True.intro]; exact h8) hh hj, nbo (by decide)]
    exact tB_out hr hh hb h8 hj k
/-- in the midst of a book's trial -/
def TryI (S : z_SS) (μ1 μ2 : z_M) (x b r h n k : Nat) : Prop := (∀ c j, c ≠ 10 → c ≠ 20 → (c < 40 + 8 * b + 1 ∨ 40 + 8 * b + 6 < c ∨ c = 40 + 8 * b + 2) → μ2.1 c j = μ1.1 c j) ∧ (∀ j, j < 24 → μ2.1 (40 + 8 * b + 1) j = oI ((tB S x b r h n k).2.1 17 (24 * b + j))) ∧ RvO (tB S x b r h n k) μ2 b ∧ (∀ j, 1 ≤ j → j ≤ k → μ2.1 20 (5 * b + j) = oI (wB S x b r h n j)) ∧ ∀ j, (j ≤ 5 * b ∨ 5 * b + k < j) → μ2.1 20 j = μ1.1 20 j
theorem zc1 {a b sp dp n c k : Nat} : (z_cpy μ a b sp dp n).1 c k = if c = b then (if dp ≤ k ∧ k < dp + n then μ.1 a (sp + (k - dp)) else μ.1 b k) else μ.1 c k := by
  show (if c = b then va_cpy (μ.1 a) (μ.1 b) sp dp n k else μ.1 c k) = _
  unfold va_cpy
  rfl
theorem c_tryBook (hQ : KQ S kd q) (hV : RepV S μ) (hW : WF 80 S) (hrun : runsS S r h) (h12 : S.1 12 r = 0) (hx : x < 16) (n1 : 1 ≤ n) (n2 : n ≤ 20000) (hb : b < S.1 0 4) (hcnt : cnt ≤ 4) (g4 : μ.1 9 4 = nI x) (g5 : μ.1 9 5 = nI n) (g6 : μ.1 9 6 = nI (S.1 0 2)) (ht : ∀ k, 1 ≤ k → k ≤ cnt → μ.1 20 (5 * b + k) = -1) {K : z_Q → z_M → Prop} (hK : ∀ q' μ', KQ S kd q' → RepV S μ' → μ'.1 9 4 = nI x → μ'.1 9 5 = nI n → μ'.1 9 6 = nI (S.1 0 2) → (∀ k, 1 ≤ k → k ≤ cnt → μ'.1 20 (5 * b + k) = oI (wB S x b r h n k)) → (∀ j, (j ≤ 5 * b ∨ 5 * b + cnt < j) → μ'.1 20 j = μ.1 20 j) → K q' μ') : C_X11_tryBook kd q (nI b) (nI r) (nI h) (nI n) (nI cnt) μ K := by
  have h3 := hW.1
  have hr := hrun.1
  have hh := hrun.2.1
  have h4 := hW.2.2.1 r hr
  have h5 := hW.2.2.2.1 b hb
  unfold C_X11_tryBook
  refine c_bookN hQ hV.1 hW hb (opt_s ?_)
  rw [(hV.2.2.1 b hb).2.1]
  refine ifc (nI_eq (b := 0) (by omega) (by decide)) (fun e0 => ?_) (fun e0 => hK q μ hQ hV g4 g5 g6 (fun k k1 k2 => ?_) (fun _ _ => rfl))
  rotate_left
  · rw [ht k k1 k2]
    obtain ⟨k', ek⟩ : ∃ k', k = k' + 1 := ⟨k - 1, by omega⟩
    subst ek
    unfold wB
    rw [if_neg (fun z => e0 z.2)]
    rfl
  have e8 : nI r * 8 = nI (8 * r) := by rw [show (8 : Int32) = nI 8 from rfl, nI_mul, Nat.mul_comm]
  have z8 : (8 : Int32).toNatClampNeg = 8 := rfl
  have z0 : (0 : Int32).toNatClampNeg = 0 := rfl
  have hr3 : r < 3 := by omega
  have hh8 : h < 8 := by omega
  have hb4 : b < 4 := by omega
  refine c_spot ?_
  unfold C_X5_keep
  rw [if_neg (Int32.not_lt.mpr (nI_pos' (by omega))), e8, nI_clamp (n := 8 * r) (by omega), z8, z0]
  refine ifc (nI_leI (a := 3) (by decide) (by omega)) (fun g => absurd g (by omega)) (fun _ => ?_)
  refine ⟨_, rfl, Int32.not_lt.mpr (nI_pos' (by omega)), by decide, by decide, by omega, by omega, ?_⟩
  unfold C_X8_setPlace
  generalize hμ1 : si (si (z_cpy μ (40 + 8 * b + 1) 21 (8 * r) 0 8) 9 2 (nI r)) 9 3 (nI h) = μ1
  have o1 : ∀ c k, c ≠ 21 → (c ≠ 9 ∨ (k ≠ 2 ∧ k ≠ 3)) → μ1.1 c k = μ.1 c k := fun c k h1 h2 => by rw [← hμ1, si1, if_neg (by omega), si1, if_neg (by omega), zc1, if_neg h1]
  have hV1 : RepV S μ1 := hV.same fun c k hc => o1 c k (by omega) (by omega)
  have e92 : μ1.1 9 2 = nI r := by rw [← hμ1, si1, if_neg (by omega), si1, if_pos ⟨rfl, rfl⟩]
  have e93 : μ1.1 9 3 = nI h := by rw [← hμ1, si1, if_pos ⟨rfl, rfl⟩]
  have kept : ∀ j, j < 8 → μ1.1 21 j = oI (S.2.1 17 (24 * b + 8 * r + j)) := fun j hj => by
    rw [← hμ1, si1, if_neg (by omega), si1, if_neg (by omega), zc1, if_pos rfl, if_pos ⟨Nat.zero_le _, by omega⟩, (hV.2.2.1 b hb).2.2.2.1 _ (by omega)]
    exact congrArg (fun i => oI (S.2.1 17 i)) (by omega)
  have hQ1 : KQ S kd (sr q 9 1 (some (40 + 8 * b))) := KQ_book hQ hb
  have hq1 : sr q 9 1 (some (40 + 8 * b)) 9 1 = some (40 + 8 * b) := if_pos ⟨rfl, rfl⟩
  generalize sr q 9 1 (some (40 + 8 * b)) = q1 at hQ1 hq1 ⊢
  have hk7 : kd (40 + 8 * b + 7) = some (.inr (0, 160)) := z_fk (c := 40 + 8 * b) hQ.1 (hQ.2.2.2.1 b hb).2 zf_1_9
  obtain ⟨v0, v1, v2, v3, v4, v5, v6⟩ := hV1.2.2.1 b hb
  have hAT : ∀ k, AG S (tB S x b r h n k) := tB_AG hr3 hh8 hb4 h4.2.1
  have exit : ∀ k v q2 μ2, k ≤ cnt → wB S x b r h n k = some v → KQ S kd q2 → TryI S μ1 μ2 x b r h n k → (∀ j, k < j → j ≤ cnt → wB S x b r h n j = none) → L_X11_tryBook_164 kd K (nI r) (nI n) (40 + 8 * b) (nI (8 * r + h)) (nI v) (nI k) q2 μ2 := by
    intro k v q2 μ2 hk ev hQ2 hI hno
    obtain ⟨i1, i2, i3, i4, i5⟩ := hI
    unfold L_X11_tryBook_164
    refine c_rides hr3 hh8 fun μ3 r6 ro => c_owes hr3 hh8 fun μ4 o3 o4 o5 oo => ?_
    unfold C_X5_giveBack
    rw [if_neg (Int32.not_lt.mpr (nI_pos' (by omega))), e8, nI_clamp (n := 8 * r) (by omega), z8, z0]
    refine ifc (nI_leI (a := 3) (by decide) (by omega)) (fun g => absurd g (by omega)) (fun _ => ?_)
    refine ⟨_, rfl, by decide, Int32.not_lt.mpr (nI_pos' (by omega)), by decide, by omega, by omega, ?_⟩
    have m4 : ∀ c j, (c < 40 + 8 * b + 3 ∨ 40 + 8 * b + 6 < c) → μ4.1 c j = μ2.1 c j := fun c j hc => by rw [oo c j (by omega) (by omega) (by omega), ro c j (by omega)]
    have m5 : ∀ c j, (c < 40 + 8 * b + 3 ∨ 40 + 8 * b + 6 < c) → c ≠ 40 + 8 * b + 1 → (z_cpy μ4 21 (40 + 8 * b + 1) 0 (8 * r) 8).1 c j = μ2.1 c j := fun c j hc hn => by rw [zc1, if_neg hn, m4 c j hc]
    have m6 : ∀ c j, c ≠ 40 + 8 * b + 1 → (z_cpy μ4 21 (40 + 8 * b + 1) 0 (8 * r) 8).1 c j = μ4.1 c j := fun c j hn => by rw [zc1, if_neg hn]
    refine hK q2 _ hQ2 (RepV_bk hW hV1 hb (fun c j h1 h2 => ?_) (fun j hj => ?_) ⟨fun r' x' hr' hx' => ?_, fun r' hr' => ?_⟩) ?_ ?_ ?_ (fun j j1 j2 => ?_) (fun j hj => ?_)
    · rw [m5 c j (by omega) (by omega)]
      exact i1 c j (by omega) (by omega) h2
    · rw [zc1, if_pos rfl]
      by_cases g : 8 * r ≤ j ∧ j < 8 * r + 8
      · rw [if_pos g, m4 _ _ (by omega), i1 _ _ (by omega) (by omega) (by omega), kept _ (by omega)]
        exact congrArg (fun i => oI (S.2.1 17 i)) (by omega)
      · rw [if_neg g, m4 _ _ (by omega), i2 j hj, tB_out hr3 hh8 hb4 h4.2.1 (by omega)]
    · obtain ⟨s1, s2, s3, s4⟩ := tB_sums hW hrun hb k v ev r' x' hr' hx'
      obtain ⟨w1, w2, w3⟩ := i3.1 r' x' hr' hx'
      rw [m6 _ _ (by omega), m6 _ _ (by omega), m6 _ _ (by omega), o3, o5, oo _ _ (by omega) (by omega) (by omega), r6, ro _ _ (by omega), ro _ _ (by omega), w1, w2, w3, s1, s2, s3]
      by_cases g : r' = r ∧ x' = h
      · have e : 8 * r' + x' = 8 * r + h := by omega
        rw [if_pos g, if_pos g, if_pos g, if_pos e, if_pos e, if_pos e]
        exact ⟨nI_back, nI_back2, nI_back1⟩
      · have e : ¬ 8 * r' + x' = 8 * r + h := by omega
        rw [if_neg g, if_neg g, if_neg g, if_neg e, if_neg e, if_neg e]
        exact ⟨rfl, rfl, rfl⟩
    · obtain ⟨s1, s2, s3, s4⟩ := tB_sums hW hrun hb k v ev r' 0 hr' (by decide)
      rw [m6 _ _ (by omega), o4, ro _ _ (by omega), i3.2 r' hr', s4]
      by_cases g : r' = r
      · rw [if_pos g, if_pos g]
        exact nI_back
      · rw [if_neg g, if_neg g]
        rfl
    · rw [m5 _ _ (by omega) (by omega), i1 _ _ (by omega) (by omega) (by omega), o1 _ _ (by omega) (by omega)]
      exact g4
    · rw [m5 _ _ (by omega) (by omega), i1 _ _ (by omega) (by omega) (by omega), o1 _ _ (by omega) (by omega)]
      exact g5
    · rw [m5 _ _ (by omega) (by omega), i1 _ _ (by omega) (by omega) (by omega), o1 _ _ (by omega) (by omega)]
      exact g6
    · rw [m5 _ _ (by omega) (by omega)]
      by_cases g : j ≤ k
      · exact i4 j j1 g
      · rw [i5 _ (by omega), o1 _ _ (by omega) (by omega), ht j j1 j2, hno j (by omega) j2]
        rfl
    · rw [m5 _ _ (by omega) (by omega), i5 _ (by omega), o1 _ _ (by omega) (by omega)]
  unfold L_X11_tryBook_55
  intro P hP
  have key : ∀ k, k ≤ cnt → ∀ v q2 μ2, wB S x b r h n k = some v → KQ S kd q2 → q2 9 1 = some (40 + 8 * b) → TryI S μ1 μ2 x b r h n k → P (nI b) (nI r) (nI n) (nI cnt) (40 + 8 * b) (nI (8 * r + h)) (nI v) (nI k) q2 μ2 := by
    refine downTo cnt ?_ (fun k hk ih => ?_)
    · intro v q2 μ2 ev hQ2 hq2 hI
      refine hP _ _ _ _ _ _ _ _ _ _ ?_
      unfold B_X11_tryBook_55
      rw [if_pos ((nI_leI (by omega) (by omega)).mpr (Nat.le_refl _))]
      exact exit cnt v q2 μ2 (Nat.le_refl _) ev hQ2 hI (fun j j1 j2 => absurd j2 (by omega))
    · intro v q2 μ2 ev hQ2 hq2 hI
      have hI0 := hI
      obtain ⟨i1, i2, i3, i4, i5⟩ := hI
      refine hP _ _ _ _ _ _ _ _ _ _ ?_
      unfold B_X11_tryBook_55
      refine ifc (nI_leI (by omega) (by omega)) (fun g => absurd g (by omega)) (fun _ => ⟨nI_vin (by omega) (by decide), ?_⟩)
      rw [nI_clamp (n := 8 * r + h) (by omega), i2 _ (by omega), ← Nat.add_assoc]
      obtain ⟨hWT, hvle, h06⟩ := tB_ok hW hrun h12 hx n1 n2 hb k v (by omega) ev
      have hA := hAT k
      have ewk : wB S x b r h n (k + 1) = (match (tB S x b r h n k).2.1 17 (24 * b + 8 * r + h) with
        | none => none
        | some s => some (v + wonBy S n s)) := by
        show (if b < S.1 0 4 ∧ S.1 16 b = 0 then _ else none) = _
        rw [if_pos ⟨hb, e0⟩, ev]
        rfl
      cases es : (tB S x b r h n k).2.1 17 (24 * b + 8 * r + h) with
      | none =>
        rw [es] at ewk
        rw [if_pos oI_none]
        exact exit k v q2 μ2 (by omega) ev hQ2 hI0 (fun j j1 j2 => wB_more ewk (by omega))
      | some s =>
        rw [es] at ewk
        dsimp only at ewk
        have hs := (wf17 hWT (by omega) es).1
        rw [hA.1 5 (by decide) (by decide)] at hs
        rw [oI_some, if_neg (nI_ne_m1 (by omega))]
        have hrT := AG_runs hA hrun
        have h12T : (tB S x b r h n k).1 12 r = 0 := by
          rw [hA.2.1 12 r rfl True.intro]
          exact h12
        have ewo : wonBy (tB S x b r h n k) n s = wonBy S n s := wonBy_eq (fun s => ⟨hA.2.1 8 s rfl True.intro, hA.2.1 9 s rfl True.intro⟩) n s
        have hG2 : RvG S μ2 := RvG_same hV1.1 fun c j hc => i1 c j (by omega) (by omega) (by omega)
        refine c_won hG2 hW (by omega) hs ?_
        unfold C_X5_note
        have ei : nI b * 5 + (nI k + 1) = nI (5 * b + (k + 1)) := by rw [show (5 : Int32) = nI 5 from rfl, nI_mul, nI_1, nI_add, Nat.mul_comm]
        rw [ei, if_neg (Int32.not_lt.mpr (nI_pos' (by omega))), nI_clamp (by omega), nI_add]
        refine ifc (nI_leI (by decide) (by omega)) (fun g => absurd g (by omega)) (fun _ => ⟨nI_vin (by omega) (by decide), ?_⟩)
        have s20 : ∀ c j, c ≠ 20 → (si μ2 20 (5 * b + (k + 1)) (nI (v + wonBy S n s))).1 c j = μ2.1 c j := fun c j hc => by rw [si1, if_neg (fun z => hc z.1)]
        have s21 : ∀ j, (si μ2 20 (5 * b + (k + 1)) (nI (v + wonBy S n s))).1 20 j = if j = 5 * b + (k + 1) then nI (v + wonBy S n s) else μ2.1 20 j := fun j => by
          rw [si1]
          by_cases g : j = 5 * b + (k + 1)
          · rw [if_pos ⟨rfl, g⟩, if_pos g]
          · rw [if_neg (fun z => g z.2), if_neg g]
        generalize si μ2 20 (5 * b + (k + 1)) (nI (v + wonBy S n s)) = μ4 at s20 s21 ⊢
        refine c_rides hr3 hh8 fun μ5 r6 ro => c_owes hr3 hh8 fun μ6 o3 o4 o5 oo => ?_
        have m6 : ∀ c j, c ≠ 20 → (c < 40 + 8 * b + 3 ∨ 40 + 8 * b + 6 < c) → μ6.1 c j = μ2.1 c j := fun c j hc h1 => by rw [oo c j (by omega) (by omega) (by omega), ro c j (by omega), s20 c j hc]
        have m20 : ∀ j, μ6.1 20 j = if j = 5 * b + (k + 1) then nI (v + wonBy S n s) else μ2.1 20 j := fun j => by
          rw [oo _ _ (by omega) (by omega) (by omega), ro _ _ (by omega), s21]
        have hON : RvO (newBet (tB S x b r h n k) x b 0 n 0 (legR r h)) μ6 b := by
          refine RvO_step (l := fun _ => none) hr3 hh8 hrT es rfl (if_pos rfl) (fun r' hr' hn => if_neg hn) (fun _ _ _ e => by cases e) (RvO_nb0 i3 (Or.inr fun _ _ => rfl) (fun _ _ _ e => by cases e)) (fun j => ?_) (fun j => ?_) (fun j => ?_) (fun j => ?_)
          · rw [oo _ _ (by omega) (by omega) (by omega), r6, s20 _ _ (by omega)]
          · rw [o3, ro _ _ (by omega), s20 _ _ (by omega)]
            exact ite_iff ⟨fun e => ⟨Or.inl rfl, e⟩, fun e => e.2⟩ _ _
          · rw [o4, ro _ _ (by omega), s20 _ _ (by omega)]
            exact ite_iff ⟨fun e => ⟨Or.inl rfl, e⟩, fun e => e.2⟩ _ _
          · rw [o5, ro _ _ (by omega), s20 _ _ (by omega), nI_add, ewo]
            exact ite_iff ⟨fun e => ⟨Or.inl rfl, e⟩, fun e => e.2⟩ _ _
        have hWN : WF 84 (newBet (tB S x b r h n k) x b 0 n 0 (legR r h)) := pS_WF hWT (by omega) hx (by rw [hA.1 4 (by decide) (by decide)]; exact hb) hrT h12T n1 n2 es
        have et : tB S x b r h n (k + 1) = mvS (newBet (tB S x b r h n k) x b 0 n 0 (legR r h)) b r h := rfl
        have eN2 : (newBet (tB S x b r h n k) x b 0 n 0 (legR r h)).2.2 b = S.2.2 b := by rw [nb_live, hA.2.2.2.2.1]
        have tab : ∀ μ7 : z_M, (∀ j, μ7.1 20 j = μ6.1 20 j) → (∀ j, 1 ≤ j → j ≤ k + 1 → μ7.1 20 (5 * b + j) = oI (wB S x b r h n j)) ∧ ∀ j, (j ≤ 5 * b ∨ 5 * b + (k + 1) < j) → μ7.1 20 j = μ1.1 20 j := fun μ7 e7 => by
          refine ⟨fun j j1 j2 => ?_, fun j hj => ?_⟩
          · rw [e7, m20]
            by_cases g : j = k + 1
            · rw [if_pos (by omega), g, ewk]
              rfl
            · rw [if_neg (by omega)]
              exact i4 j j1 (by omega)
          · rw [e7, m20, if_neg (by omega)]
            exact i5 j (by omega)
        rw [m6 _ 11 (by omega) (by omega), i1 _ 11 (by omega) (by omega) (by omega), v6.1, nI_1]
        by_cases hne : S.2.2 b = []
        · rw [hne, if_pos (show nI ([] : List z_C1).length ≤ 0 by decide)]
          have em : tB S x b r h n (k + 1) = newBet (tB S x b r h n k) x b 0 n 0 (legR r h) := by
            rw [et]
            unfold mvS
            rw [eN2, hne]
            rfl
          obtain ⟨t1, t2⟩ := tab μ6 (fun _ => rfl)
          refine ih (v + wonBy S n s) q2 μ6 ewk hQ2 hq2 ⟨fun c j h1 h2 h3 => ?_, fun j hj => ?_, by rw [em]; exact hON, t1, t2⟩
          · rw [m6 c j h2 (by omega)]
            exact i1 c j h1 h2 h3
          · rw [m6 _ _ (by omega) (by omega), em, nbo (by decide)]
            exact i2 j hj
        · have hlen : 1 ≤ (S.2.2 b).length ∧ (S.2.2 b).length ≤ 13 := by
            obtain ⟨n', t, _, _, _, _, _, hw⟩ := v6.2 hne
            have := wayL_len 13 0 [] _ hw
            have z0 : ([] : List z_C1).length = 0 := rfl
            omega
          refine ifc (nI_leI (b := 0) (by omega) (by decide)) (fun g => absurd g (by omega)) (fun _ => ?_)
          have fN : ∀ c j, (c ≠ 0 ∨ j ≠ 6) → c < 15 → (newBet (tB S x b r h n k) x b 0 n 0 (legR r h)).1 c j = (tB S x b r h n k).1 c j := fun c j h1 h2 => nb_old h1 (by omega) (by omega)
          have o9 : ∀ j, μ6.1 9 j = μ1.1 9 j := fun j => by rw [m6 _ _ (by omega) (by omega), i1 _ _ (by omega) (by omega) (by omega)]
          have hS : ScR (newBet (tB S x b r h n k) x b 0 n 0 (legR r h)) q2 b r h μ6 := by
            refine ⟨hq2, by rw [o9]; exact e92, by rw [o9]; exact e93, ?_, ?_, ?_, fun j hj => ?_, hON, ?_, fun s' hs' => ?_⟩
            · rw [o9, o1 _ _ (by omega) (by omega), nb6, Nat.add_sub_cancel, nb20, if_pos rfl]
              exact g4
            · rw [o9, o1 _ _ (by omega) (by omega), nb6, Nat.add_sub_cancel, nb23n]
              exact g5
            · rw [o9, o1 _ _ (by omega) (by omega), fN 0 2 (by omega) (by omega), hA.1 2 (by decide) (by decide)]
              exact g6
            · rw [m6 _ _ (by omega) (by omega), nbo (by decide)]
              exact i2 j hj
            · rw [m6 _ _ (by omega) (by omega), fN 0 5 (by omega) (by omega), hA.1 5 (by decide) (by decide)]
              exact hG2.2.2.2.2.2.2.1
            · rw [fN 0 5 (by omega) (by omega), hA.1 5 (by decide) (by decide)] at hs'
              rw [m6 _ _ (by omega) (by omega), m6 _ _ (by omega) (by omega), fN 8 s' (by omega) (by omega), fN 9 s' (by omega) (by omega), hA.2.1 8 s' rfl True.intro, hA.2.1 9 s' rfl True.intro]
              exact hG2.2.2.2.2.2.2.2 s' hs'
          have o7 : ∀ c j, c = 40 + 8 * b ∨ c = 40 + 8 * b + 7 → μ6.1 c j = μ1.1 c j := fun c j hc => by rw [m6 c j (by omega) (by omega), i1 c j (by omega) (by omega) (by omega)]
          refine (show C_X7_read kd q2 (some (40 + 8 * b + 7)) (μ6.1 (40 + 8 * b) 10) 1 μ6 _ from c_readBook hk7 hS (by decide) hWN (by rw [nb6]; omega) (by rw [fN 0 4 (by omega) (by omega), hA.1 4 (by decide) (by decide)]; exact hb) (nb_runs.mpr hrT) ?_ (by rw [eN2]; exact hne) fun w μ7 hS7 hk7' => ?_)
          · refine TxB_keep (S := S) ?_ eN2
            unfold TxB at v6 ⊢
            simp only [o7 (40 + 8 * b) _ (Or.inl rfl), o7 (40 + 8 * b + 7) _ (Or.inr rfl)]
            exact v6
          · obtain ⟨t1, t2⟩ := tab μ7 (fun j => hk7' _ _ (by omega) (by omega))
            refine ih (v + wonBy S n s) _ μ7 ewk (KQ_text hQ2 hk7) ?_ ⟨fun c j h1 h2 h3 => ?_, fun j hj => ?_, ?_, t1, t2⟩
            · rw [show sr q2 10 1 (some (40 + 8 * b + 7)) 9 1 = q2 9 1 from if_neg (by decide)]
              exact hq2
            · rw [hk7' c j (by omega) h1, m6 c j h2 (by omega)]
              exact i1 c j h1 h2 h3
            · rw [et]
              exact hS7.2.2.2.2.2.2.1 j hj
            · rw [et]
              exact hS7.2.2.2.2.2.2.2.1
  rw [hμ1]
  exact key 0 (Nat.zero_le _) 0 q1 μ1 rfl hQ1 hq1 ⟨fun _ _ _ _ _ => rfl, fun j hj => v3 j hj, v5, fun j j1 j2 => absurd j1 (by omega), fun _ _ => rfl⟩
end CPLAN
