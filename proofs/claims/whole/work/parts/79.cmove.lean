/-! The class: a clause's move. -/
section CMOVE
variable {B : Nat} {S S' : z_SS} {μ μ' : z_M} {kd : z_K} {q : z_Q} {b r h : Nat}
theorem ScR_mv (hS : ScR S q b r h μ) (hr3 : r < 3) (h1 : S'.1 = S.1) (h2 : ∀ c, c ≠ 17 → S'.2.1 c = S.2.1 c) (hm : ∀ c k, c ≠ 40 + 8 * b + 1 → μ'.1 c k = μ.1 c k) (hs : ∀ k, k < 24 → μ'.1 (40 + 8 * b + 1) k = oI (S'.2.1 17 (24 * b + k))) : ScR S' q b r h μ' := by
  obtain ⟨a1, a2, a3, a4, a5, a6, a7, a8, a9, a10⟩ := hS
  have bs : btSame S S' := ⟨by rw [h1], fun i hi => ⟨fun c _ _ => by rw [h1], fun r _ => by rw [h2 25 (by decide)], fun r _ _ => by rw [h1]⟩, fun s => ⟨by rw [h1], by rw [h1]⟩⟩
  refine ⟨a1, by rw [hm _ _ (by omega)]; exact a2, by rw [hm _ _ (by omega)]; exact a3, by rw [hm _ _ (by omega), h1]; exact a4, by rw [hm _ _ (by omega), h1]; exact a5, by rw [hm _ _ (by omega), h1]; exact a6, hs, RvO_keep (S := S) ⟨fun r x hr hx => ?_, fun r hr => ?_⟩ bs (by rw [h1]) (fun r _ => by rw [h1]) (fun r _ => by rw [h1]), by rw [hm _ _ (by omega), h1]; exact a9, fun s hs2 => by rw [h1] at hs2; rw [hm _ _ (by omega), hm _ _ (by omega), h1]; exact a10 s hs2⟩
  · rw [hm _ _ (by omega), hm _ _ (by omega), hm _ _ (by omega)]
    exact a8.1 r x hr hx
  · rw [hm _ _ (by omega)]
    exact a8.2 r hr
theorem lenS_at {n m k : Nat} : (lenS S b r h n m).2.1 17 k = if 24 * b + 8 * r ≤ k ∧ k < 24 * b + 8 * r + m ∧ k ≠ 24 * b + 8 * r + h then (match S.2.1 17 k with
    | none => none
    | some s => some (if s + n ≤ S.1 0 5 - 1 then s + n else S.1 0 5 - 1)) else S.2.1 17 k := by
  show (if 17 = 17 ∧ 24 * b + 8 * r ≤ k ∧ k < 24 * b + 8 * r + m ∧ k ≠ 24 * b + 8 * r + h then _ else _) = _
  by_cases g : 24 * b + 8 * r ≤ k ∧ k < 24 * b + 8 * r + m ∧ k ≠ 24 * b + 8 * r + h
  · rw [if_pos ⟨rfl, g⟩, if_pos g]
    cases S.2.1 17 k <;> rfl
  · rw [if_neg (fun z => g z.2), if_neg g]
theorem c_lengthen (hS : ScR S q b r h μ) (hW : WF B S) (hb : b < S.1 0 4) (hrun : runsS S r h) {n : Nat} (hn : n ≤ 9) {K : z_M → Prop} (hK : ∀ μ', (∀ c k, c ≠ 40 + 8 * b + 1 → μ'.1 c k = μ.1 c k) → (∀ j, j < 24 → μ'.1 (40 + 8 * b + 1) j = oI ((lenS S b r h n (S.1 10 r)).2.1 17 (24 * b + j))) → K μ') : C_X8_lengthenOthers kd q (nI n) μ K := by
  have h3 := hW.1
  have hr := hrun.1
  have hh := hrun.2.1
  have h4 := hW.2.2.1 r hr
  obtain ⟨a1, a2, a3, a4, a5, a6, a7, a8, a9, a10⟩ := hS
  have s24 : ∀ k s, k < 96 → S.2.1 17 k = some s → s < S.1 0 5 := fun k s hk e => (wf17 hW hk e).1
  unfold C_X8_lengthenOthers L_X8_lengthenOthers_8
  intro P hP
  rw [a2, show (8 : Int32) = nI 8 from rfl, nI_mul]
  have key : ∀ m, m ≤ 8 → ∀ μ', (∀ c k, c ≠ 40 + 8 * b + 1 → μ'.1 c k = μ.1 c k) → (∀ j, j < 24 → μ'.1 (40 + 8 * b + 1) j = oI ((lenS S b r h n m).2.1 17 (24 * b + j))) → P (nI n) (nI (r * 8 + m)) μ' := by
    refine downTo 8 ?_ (fun m hm ih => ?_)
    · intro μ' g1 g2
      have fin : K μ' := hK μ' g1 fun j hj => by
        rw [g2 j hj, lenS_at, lenS_at]
        by_cases g : 24 * b + 8 * r ≤ 24 * b + j ∧ 24 * b + j < 24 * b + 8 * r + 8 ∧ 24 * b + j ≠ 24 * b + 8 * r + h
        · rw [if_pos g]
          by_cases g3 : 24 * b + j < 24 * b + 8 * r + S.1 10 r
          · rw [if_pos ⟨g.1, g3, g.2.2⟩]
          · rw [if_neg (fun z => g3 z.2.1)]
            cases e : S.2.1 17 (24 * b + j) with
            | none => rfl
            | some s =>
              have hx := (wf17 hW (k := 24 * b + j) (by omega) e).2.2
              rw [show (24 * b + j) % 24 / 8 = r by omega, show (24 * b + j) % 8 = j - 8 * r by omega] at hx
              have := hx.2.1
              omega
        · rw [if_neg g, if_neg (fun z => g ⟨z.1, by omega, z.2.2⟩)]
      refine hP _ _ _ ?_
      unfold B_X8_lengthenOthers_8
      rw [g1 9 2 (by omega), a2, show (8 : Int32) = nI 8 from rfl, nI_mul, nI_add, if_neg (Int32.not_lt.mpr (nI_pos' (by omega)))]
      exact ifd (fun _ => fin) (fun _ => ifc (nI_leI (by omega) (by omega)) (fun _ => fin) (fun g => absurd (Nat.le_refl _) g))
    · intro μ' g1 g2
      refine hP _ _ _ ?_
      unfold B_X8_lengthenOthers_8
      rw [g1 9 2 (by omega), g1 9 3 (by omega), a2, a3, show (8 : Int32) = nI 8 from rfl, nI_mul, nI_add, nI_add, if_neg (Int32.not_lt.mpr (nI_pos' (by omega)))]
      refine ifc (nI_leI (a := 24) (by decide) (by omega)) (fun g => absurd g (by omega)) (fun _ => ?_)
      refine ifc (nI_leI (by omega) (by omega)) (fun g => absurd g (by omega)) (fun _ => ?_)
      rw [nI_1, Nat.add_assoc (r * 8) m 1]
      refine ifc (nI_eq (by omega) (by omega)) (fun g => ?_) (fun g => ?_)
      · refine ih μ' g1 fun j hj => ?_
        rw [g2 j hj, lenS_at, lenS_at]
        by_cases g3 : 24 * b + 8 * r ≤ 24 * b + j ∧ 24 * b + j < 24 * b + 8 * r + m ∧ 24 * b + j ≠ 24 * b + 8 * r + h
        · rw [if_pos g3, if_pos ⟨g3.1, by omega, g3.2.2⟩]
        · rw [if_neg g3, if_neg (fun z => g3 ⟨z.1, by omega, z.2.2⟩)]
      · intro w1 ew
        rw [a1] at ew
        subst ew
        refine ⟨_, rfl, nI_vin (by omega) (by decide), ?_⟩
        have now : (lenS S b r h n m).2.1 17 (24 * b + (r * 8 + m)) = S.2.1 17 (24 * b + (r * 8 + m)) := by rw [lenS_at, if_neg (by omega)]
        rw [nI_clamp (by omega), g2 _ (by omega), now]
        have other : ∀ j, j ≠ r * 8 + m → (lenS S b r h n (m + 1)).2.1 17 (24 * b + j) = (lenS S b r h n m).2.1 17 (24 * b + j) := fun j hj => by
          rw [lenS_at, lenS_at]
          by_cases g3 : 24 * b + 8 * r ≤ 24 * b + j ∧ 24 * b + j < 24 * b + 8 * r + m ∧ 24 * b + j ≠ 24 * b + 8 * r + h
          · rw [if_pos g3, if_pos ⟨g3.1, by omega, g3.2.2⟩]
          · rw [if_neg g3, if_neg (fun z => g3 ⟨z.1, by omega, z.2.2⟩)]
        have this1 : (lenS S b r h n (m + 1)).2.1 17 (24 * b + (r * 8 + m)) = (match S.2.1 17 (24 * b + (r * 8 + m)) with
          | none => none
          | some s => some (if s + n ≤ S.1 0 5 - 1 then s + n else S.1 0 5 - 1)) := by
          rw [lenS_at, if_pos ⟨by omega, by omega, by omega⟩]
        cases es : S.2.1 17 (24 * b + (r * 8 + m)) with
        | none =>
          rw [if_pos oI_none]
          refine ih μ' g1 fun j hj => ?_
          by_cases ej : j = r * 8 + m
          · rw [ej, this1, es, g2 _ (by omega), now, es]
          · rw [other j ej]
            exact g2 j hj
        | some s =>
          have hs := s24 _ s (by omega) es
          rw [oI_some, if_neg (nI_ne_m1 (by omega))]
          intro w4 ew
          rw [a1] at ew
          subst ew
          refine ⟨_, rfl, ?_⟩
          intro w6 ew
          rw [a1] at ew
          subst ew
          refine ⟨_, rfl, ?_⟩
          rw [g2 _ (by omega), now, es, oI_some, nI_add, g1 3 2 (by omega), a9, show (1 : Int32) = nI 1 from rfl, pk_sub (by omega), zmin_n (by omega) (by omega)]
          refine ih _ (fun c k hc => by rw [si1, if_neg (fun z => hc z.1)]; exact g1 c k hc) fun j hj => ?_
          rw [si1]
          by_cases ej : j = r * 8 + m
          · rw [if_pos ⟨rfl, ej⟩, ej, this1, es, oI_some]
            congr 1
          · rw [if_neg (fun z => ej z.2), other j ej]
            exact g2 j hj
  refine key 0 (Nat.zero_le _) μ (fun _ _ _ => rfl) fun j hj => ?_
  rw [lenS_at, if_neg (by omega)]
  exact a7 j hj
theorem c_move (hS : ScR S q b r h μ) (hW : WF B S) (hb : b < S.1 0 4) (hrun : runsS S r h) {c : z_C1} (hh : holdsS S b r h c.2.2 = true) (hl : c.1 = 115 ∨ c.1 = 108 ∨ c.1 = 99) (hn : c.2.1 ≤ 9) {K : z_M → Prop} (hK : ∀ μ', ScR (mv1 S b r h c) q b r h μ' → (∀ c k, c ≠ 40 + 8 * b + 1 → μ'.1 c k = μ.1 c k) → K μ') : C_X8_move kd q (nI c.1) (nI c.2.1) μ K := by
  have h3 := hW.1
  have hr := hrun.1
  have hx := hrun.2.1
  have h4 := hW.2.2.1 r hr
  have hS0 := hS
  obtain ⟨a1, a2, a3, a4, a5, a6, a7, a8, a9, a10⟩ := hS0
  have e8 : (nI r * 8) + nI h = nI (8 * r + h) := spot_eq
  have mv := mv1_1 (S := S) (b := b) (r := r) (h := h) (cl := c)
  have em : mv1 S b r h c = (if c.1 = 99 then setO S 17 (24 * b + 8 * r + h) none else if c.1 = 115 then (match S.2.1 17 (24 * b + 8 * r + h) with
    | none => S
    | some s => setO S 17 (24 * b + 8 * r + h) (some (if c.2.1 ≤ s then s - c.2.1 else 0))) else lenS S b r h c.2.1 (S.1 10 r)) := if_pos hh
  have fin : ∀ μ', (∀ c k, c ≠ 40 + 8 * b + 1 → μ'.1 c k = μ.1 c k) → (∀ k, k < 24 → μ'.1 (40 + 8 * b + 1) k = oI ((mv1 S b r h c).2.1 17 (24 * b + k))) → K μ' := fun μ' g1 g2 => hK μ' (ScR_mv hS (by omega) mv.1 mv.2.2 g1 g2) g1
  unfold C_X8_move
  intro w1 ew
  rw [a1] at ew
  subst ew
  refine opt_s ?_
  rw [a2, a3, e8, if_neg (Int32.not_lt.mpr (nI_pos' (by omega))), nI_clamp (by omega)]
  refine ifc (nI_ltI (b := 24) (by omega) (by decide)) (fun _ => ?_) (fun g => absurd (show 8 * r + h < 24 by omega) g)
  refine ifc (nI_eq (b := 108) (by omega) (by decide)) (fun g => ?_) (fun g1 => ?_)
  · rw [if_neg (by omega), if_neg (by omega)] at em
    refine c_lengthen hS hW hb hrun hn fun μ' k1 k2 => fin μ' k1 fun k hk => ?_
    rw [em]
    exact k2 k hk
  refine ifc (nI_eq (b := 99) (by omega) (by decide)) (fun g => ?_) (fun g2 => ?_)
  · rw [if_pos g] at em
    intro w10 ew
    rw [a1] at ew
    subst ew
    refine ⟨_, rfl, nI_vin (by omega) (by decide), fin _ (fun c k hc => by rw [si1, if_neg (fun z => hc z.1)]) fun k hk => ?_⟩
    rw [em, si1]
    show _ = oI (if 17 = 17 ∧ 24 * b + k = 24 * b + 8 * r + h then none else S.2.1 17 (24 * b + k))
    by_cases ek : k = 8 * r + h
    · rw [if_pos ⟨rfl, ek⟩, if_pos ⟨rfl, by omega⟩]
      rfl
    · rw [if_neg (fun z => ek z.2), if_neg (fun z => ek (by omega))]
      exact a7 k hk
  · rw [if_neg g2, if_pos (by omega)] at em
    intro w3 ew
    rw [a1] at ew
    subst ew
    refine ⟨_, rfl, nI_vin (by omega) (by decide), ?_⟩
    rw [a7 _ (by omega), ← Nat.add_assoc]
    cases es : S.2.1 17 (24 * b + 8 * r + h) with
    | none =>
      rw [es] at em
      rw [if_pos oI_none]
      exact fin μ (fun _ _ _ => rfl) fun k hk => by rw [em]; exact a7 k hk
    | some s =>
      rw [es] at em
      have hs := (wf17 hW (by omega) es).1
      rw [oI_some, if_neg (nI_ne_m1 (by omega))]
      intro w6 ew
      rw [a1] at ew
      subst ew
      refine ⟨_, rfl, ?_⟩
      intro w8 ew
      rw [a1] at ew
      subst ew
      refine ⟨_, rfl, ?_⟩
      rw [a7 _ (by omega), ← Nat.add_assoc, es, oI_some]
      have ez : z_max (nI s - nI c.2.1) 0 = nI (if c.2.1 ≤ s then s - c.2.1 else 0) := by
        unfold z_max
        by_cases g : c.2.1 ≤ s
        · rw [if_pos g, pk_sub g, if_neg (Int32.not_lt.mpr (nI_pos' (by omega)))]
        · rw [if_neg g, ← iI_nat, ← iI_nat, iI_sub]
          exact if_pos (show iI ((s : Int) - (c.2.1 : Int)) < (0 : Int32) from (iI_lt (b := 0) (by omega) (by omega) (by decide) (by decide)).mpr (by omega))
      rw [ez]
      refine fin _ (fun c k hc => by rw [si1, if_neg (fun z => hc z.1)]) fun k hk => ?_
      rw [em, si1]
      show _ = oI (if 17 = 17 ∧ 24 * b + k = 24 * b + 8 * r + h then _ else S.2.1 17 (24 * b + k))
      by_cases ek : k = 8 * r + h
      · rw [if_pos ⟨rfl, ek⟩, if_pos (show 17 = 17 ∧ 24 * b + k = 24 * b + 8 * r + h from ⟨rfl, by omega⟩)]
        rfl
      · rw [if_neg (fun z => ek z.2), if_neg (fun z => ek (by omega))]
        exact a7 k hk
end CMOVE
