/-! The reference reads expressions. -/
theorem Nat_succ_le_of_ne {a b : Nat} (h : a ≤ b) (g : a ≠ b) : a + 1 ≤ b := by omega
section YEXP
variable {ch : Nat → Nat} {e : Nat} {μ0 : z_M}
theorem y_reads (hT : Txt ch e μ0) {p0 o : Nat} {st : List Nat} {cd : List (Nat × Nat)} {μ : z_M} (h : PM e μ0 p0 o st cd μ) (hd : dgP (ch p0)) {K : Int32 → z_M → Prop} (hk : Cnt (numR ch 6 p0 0) (fun f a => ∀ w μ', BM μ0 f a μ' → K w μ') (fun p1 c1 => ∀ v μ', c1 = [(0, v)] → p0 < p1 → p1 ≤ e → PM e μ0 p1 o st cd μ' → μ'.1 0 52 = μ.1 0 52 → v < 1000000 → K (nI v) μ')) : C_X12_reads μ K := by
  have he := hT.1
  have hp0 := h.2.2.2.2.2.2.2.2.2.2.1
  unfold C_X12_reads L_X12_reads_7
  intro P hP
  rw [h.2.1]
  have go : ∀ k p v (μ1 : z_M), k + p = p0 + 6 → p0 ≤ p → (p = p0 → dgP (ch p)) → p ≤ e → v + 1 ≤ 10 ^ (6 - k) → PM e μ0 p o st cd μ1 → μ1.1 0 52 = μ.1 0 52 → Cnt (numR ch k p v) (fun f a => ∀ w μ', BM μ0 f a μ' → K w μ') (fun p1 c1 => ∀ v μ', c1 = [(0, v)] → p0 < p1 → p1 ≤ e → PM e μ0 p1 o st cd μ' → μ'.1 0 52 = μ.1 0 52 → v < 1000000 → K (nI v) μ') → P (nI p0) (nI v) μ1 := by
    intro k
    induction k with
    | zero =>
      intro p v μ1 hkp h1 h2 h3 hv hM hb hk
      have e6 : (10 : Nat) ^ (6 - 0) = 1000000 := by decide
      unfold numR at hk
      refine hP _ _ _ ?_
      unfold B_X12_reads_7 L_X12_reads_41
      refine y_good hM ?_
      rw [if_neg i10]
      refine y_seesDigit hT hM (fun q => ?_) (fun q => ?_)
      · rw [if_pos q] at hk
        have hpe : p < e := Nat.lt_of_not_le fun z => by
          rw [hT.2.2.2.2 p z] at q
          omega
        have hd := hT.2.2.2.1 p
        have hl := hM.2.2.2.2.2.2.2.2.2.1
        rw [if_neg i10, hM.2.1, if_pos (by rw [show (6 : Int32) = nI 6 from rfl, nI_add, show p = p0 + 6 by omega])]
        refine y_wrongs (f := 2) hM.2.2.1 ?_
        have hB := BM_of (f := 2) (a := p) hM.1
        generalize hm : si μ1 0 46 (iI (-(1000 * ((2 : Nat) : Int) + p))) = m at hB ⊢
        have m44 : m.1 0 44 = nI p := by rw [← hm, si1, if_neg (by omega)]; exact hM.2.1
        unfold C_X12_here
        rw [hB.1.1 0 45 (by omega) (by omega) (by omega) (by omega), hT.2.1, m44]
        refine ifc (nI_leI (by omega) (by omega)) (fun g => absurd g (by omega)) (fun _ => ?_)
        refine ⟨nI_vin (by omega) (by omega), ?_⟩
        refine hP _ _ _ ?_
        unfold B_X12_reads_7
        refine y_bad (by decide) (by decide) (by omega) (BM_si hB (by omega)) ?_
        rw [if_pos rfl]
        exact hk _ _ (BM_si hB (by omega))
      · rw [if_neg q] at hk
        rw [if_pos rfl]
        exact hk v μ1 rfl (by omega) h3 hM hb (by omega)
    | succ k ih =>
      intro p v μ1 hkp h1 h2 h3 hv hM hb hk
      have le6 : (10 : Nat) ^ (6 - (k + 1)) ≤ 10 ^ 6 := Nat.pow_le_pow_right (by decide) (by omega)
      have e6 : (10 : Nat) ^ 6 = 1000000 := by decide
      unfold numR at hk
      refine hP _ _ _ ?_
      unfold B_X12_reads_7 L_X12_reads_41
      refine y_good hM ?_
      rw [if_neg i10]
      refine y_seesDigit hT hM (fun q => ?_) (fun q => ?_)
      · rw [if_pos q] at hk
        have hpe : p < e := Nat.lt_of_not_le fun z => by
          rw [hT.2.2.2.2 p z] at q
          omega
        have e10 : (10 : Nat) ^ (6 - k) = 10 ^ (6 - (k + 1)) * 10 := by
          rw [← Nat.pow_succ]
          congr 1
          omega
        rw [if_neg i10, hM.2.1, if_neg (by rw [show (6 : Int32) = nI 6 from rfl, nI_add, nI_eq (by omega) (by omega)]; omega)]
        refine y_here hT hM ?_
        rw [show (10 : Int32) = nI 10 from rfl, nI_mul, nI_add, show (48 : Int32) = nI 48 from rfl, pk_sub (by omega), show 10 * v + ch p - 48 = 10 * v + (ch p - 48) by omega, hM.2.1, nI_1]
        refine ih (p + 1) _ _ (by omega) (by omega) (fun z => by omega) hpe (by rw [e10]; omega) (PM_place hM (by omega) hpe) (by rw [si1, if_neg (by omega)]; exact hb) hk
      · rw [if_neg q] at hk
        rw [if_pos rfl]
        have hne : p ≠ p0 := fun z => q (h2 z)
        exact hk v μ1 rfl (by omega) h3 hM hb (by omega)
  exact go 6 p0 0 μ (by omega) (Nat.le_refl _) (fun _ => hd) hp0 (by decide) h rfl hk
variable {Kb : z_M → Prop} {P39 : Int32 → z_M → Prop} {E : Nat → Nat → Prop}
def WfacP (e : Nat) (μ0 : z_M) (Kb : z_M → Prop) (P39 : Int32 → z_M → Prop) (p o : Nat) (st : List Nat) (cd : List (Nat × Nat)) : Prop := ∀ μ, PM e μ0 p o st cd μ → C_X12_factor μ (fun μ3 => L_X12_pieceOfC_61 Kb P39 μ3)
def WgoP (e : Nat) (μ0 : z_M) (P39 : Int32 → z_M → Prop) (p o : Nat) (st : List Nat) (cd : List (Nat × Nat)) : Prop := ∀ μ, PM e μ0 p o st cd μ → μ.1 0 52 = 0 → C_X12_goesOn μ (fun r4 μ3 => if r4 = 0 then P39 0 μ3 else P39 1 μ3)
def WoutP (e : Nat) (μ0 : z_M) (P39 : Int32 → z_M → Prop) (p o : Nat) (st : List Nat) (cd : List (Nat × Nat)) : Prop := ∀ μ, PM e μ0 p o st cd μ → P39 0 μ
/-- what is due behind an expression -/
def WxP (ch : Nat → Nat) (e : Nat) (μ0 : z_M) (Kb : z_M → Prop) (P39 : Int32 → z_M → Prop) (E : Nat → Nat → Prop) (p o : Nat) (st : List Nat) (cd : List (Nat × Nat)) : Prop := if ch p = 93 then (if topN st = 91 then 1 ≤ o ∧ WgoP e μ0 P39 (p + 1) (o - 1) st.tail cd else E 1 p) else if sgP (ch p) then (if topN st = 91 ∨ sgP (topN st) then E 1 p else WfacP e μ0 Kb P39 (p + 1) o (ch p :: st) cd) else if sgP (topN st) then WoutP e μ0 P39 p o st.tail (cd ++ [(topN st, 0)]) else E 1 p
def faultOk (E : Nat → Nat → Prop) (μ0 : z_M) (Kb : z_M → Prop) : Prop := ∀ f a μ, E f a → BM μ0 f a μ → 1 ≤ f → f ≤ 9 → a ≤ 1000 → Kb μ
theorem p39_bad (hP39 : ∀ v1 μ, B_X12_pieceOfC_39 Kb P39 v1 μ → P39 v1 μ) (hE : faultOk E μ0 Kb) {f a : Nat} {μ : z_M} (h : BM μ0 f a μ) (hx : E f a) (h1 : 1 ≤ f) (h2 : f ≤ 9) (h3 : a ≤ 1000) (v : Int32) : P39 v μ := by
  have k : L_X12_pieceOfC_89 Kb μ := by
    unfold L_X12_pieceOfC_89
    refine y_bad h1 h2 h3 h ?_
    rw [if_pos rfl]
    exact hE f a μ hx h h1 h2 h3
  refine hP39 _ _ ?_
  unfold B_X12_pieceOfC_39
  refine ifd (fun _ => k) (fun _ => y_bad h1 h2 h3 h ?_)
  rw [if_pos rfl]
  exact k
theorem l61_bad (hP39 : ∀ v1 μ, B_X12_pieceOfC_39 Kb P39 v1 μ → P39 v1 μ) (hE : faultOk E μ0 Kb) {f a : Nat} {μ : z_M} (h : BM μ0 f a μ) (hx : E f a) (h1 : 1 ≤ f) (h2 : f ≤ 9) (h3 : a ≤ 1000) : L_X12_pieceOfC_61 Kb P39 μ := by
  unfold L_X12_pieceOfC_61
  refine y_bad h1 h2 h3 (BM_si h (by omega)) ?_
  rw [if_pos rfl]
  exact p39_bad hP39 hE (BM_si h (by omega)) hx h1 h2 h3 0
theorem l61_go {p o : Nat} {st : List Nat} {cd : List (Nat × Nat)} (hg : WgoP e μ0 P39 p o st cd) {μ : z_M} (h : PM e μ0 p o st cd μ) : L_X12_pieceOfC_61 Kb P39 μ := by
  unfold L_X12_pieceOfC_61
  refine y_good (PM_52 h) ?_
  rw [if_neg i10]
  exact hg _ (PM_52 h) (by rw [si1, if_pos ⟨rfl, rfl⟩])
/-- behind an operator: the next factor -/
theorem p39_fac (hP39 : ∀ v1 μ, B_X12_pieceOfC_39 Kb P39 v1 μ → P39 v1 μ) {p o : Nat} {st : List Nat} {cd : List (Nat × Nat)} (hf : WfacP e μ0 Kb P39 p o st cd) {μ : z_M} (h : PM e μ0 p o st cd μ) (hb : μ.1 0 52 = 0) : P39 1 μ := by
  refine hP39 _ _ ?_
  unfold B_X12_pieceOfC_39
  rw [if_neg i10]
  refine y_good h ?_
  rw [if_neg i10, hb, if_pos rfl]
  exact hf μ h
theorem y_goOp (hT : Txt ch e μ0) (hP39 : ∀ v1 μ, B_X12_pieceOfC_39 Kb P39 v1 μ → P39 v1 μ) {p o : Nat} {st : List Nat} {cd : List (Nat × Nat)} (hc : tmP (ch p) ∨ plP (ch p)) (hf : WfacP e μ0 Kb P39 (p + 1) o (ch p :: (flS (decide (plP (ch p))) st).1) (cd ++ (flS (decide (plP (ch p))) st).2)) : WgoP e μ0 P39 p o st cd := by
  intro μ h hb
  have he := hT.1
  have h256 := hT.2.2.2.1 p
  have hpe : p < e := Nat.lt_of_not_le fun z => by
    rw [hT.2.2.2.2 p z] at hc
    omega
  have fin : L_X12_goesOn_19 (fun r4 μ3 => if r4 = 0 then P39 0 μ3 else P39 1 μ3) (nI (ch p)) μ := by
    unfold L_X12_goesOn_19
    have k : ∀ v, v = nI (b2n (decide (plP (ch p)))) → C_X12_sums v μ (fun μ3 => C_X12_puts (nI (ch p)) μ3 (fun μ4 => if (1 : Int32) = 0 then P39 0 μ4 else P39 1 μ4)) := fun v hv => by
      refine y_sums he hv h fun μ' h' hb' => y_puts h' he ?_
      rw [if_neg i10]
      refine p39_fac hP39 hf (PM_push h' h256 hpe) ?_
      rw [si1, if_neg (by omega), si1, if_neg (by omega), si1, if_neg (by omega), hb', hb]
    refine y_isPlus (by omega) (fun q => k 1 ?_) (fun q => k 0 ?_)
    · rw [decide_eq_true q]
      rfl
    · rw [decide_eq_false q]
      rfl
  unfold C_X12_goesOn
  refine y_here hT h (y_isTimes (by omega) (fun q => ?_) (fun q => ?_))
  · rw [if_neg i10]
    exact fin
  · rw [if_pos rfl]
    refine y_isPlus (by omega) (fun q2 => ?_) (fun q2 => absurd hc (by omega))
    rw [if_neg i10]
    exact fin
theorem tail_top {st : List Nat} {c : Nat} (h : topN st = c) (hc : c ≠ 0) : st = c :: st.tail := by
  cases st with
  | nil => exact absurd h.symm hc
  | cons a t =>
    rw [show a = c from h]
    rfl
theorem y_goX (hT : Txt ch e μ0) (hP39 : ∀ v1 μ, B_X12_pieceOfC_39 Kb P39 v1 μ → P39 v1 μ) (hE : faultOk E μ0 Kb) {p o : Nat} {st : List Nat} {cd : List (Nat × Nat)} (h1 : ¬ tmP (ch p)) (h2 : ¬ plP (ch p)) (hx : WxP ch e μ0 Kb P39 E p o (flS true st).1 (cd ++ (flS true st).2)) : WgoP e μ0 P39 p o st cd := by
  intro μ h hb
  have he := hT.1
  have h256 := hT.2.2.2.1 p
  unfold C_X12_goesOn
  refine y_here hT h (y_isTimes (by omega) (fun q => absurd q h1) (fun _ => ?_))
  rw [if_pos rfl]
  refine y_isPlus (by omega) (fun q => absurd q h2) (fun _ => ?_)
  rw [if_pos rfl]
  refine y_sums he (pl := true) rfl h fun μ' h' hb' => ?_
  rw [hb] at hb'
  generalize (flS true st).1 = s1 at hx h' ⊢
  generalize cd ++ (flS true st).2 = d1 at hx h' ⊢
  have hpe := h'.2.2.2.2.2.2.2.2.2.2.1
  unfold WxP at hx
  have bad : E 1 p → C_X12_wrongs 1 (μ'.1 0 44) μ' (fun μ26 => if (0 : Int32) = 0 then P39 0 μ26 else P39 1 μ26) := fun q => by
    rw [h'.2.1]
    refine y_wrongs (f := 1) h'.2.2.1 ?_
    rw [if_pos rfl]
    exact p39_bad hP39 hE (BM_of h'.1) q (by decide) (by decide) (by omega) 0
  refine ifc (nI_eq (b := 93) (by omega) (by decide)) (fun q => ?_) (fun q => ?_)
  · rw [if_pos q] at hx
    refine y_top h' he (ifc (nI_eq (b := 91) (topN_lt h') (by decide)) (fun q2 => ?_) (fun q2 => ?_))
    · rw [if_pos q2] at hx
      have es := tail_top q2 (by decide)
      rw [es] at h'
      have hlt : p < e := Nat.lt_of_not_le fun z => by
        rw [hT.2.2.2.2 p z] at q
        omega
      have a6 : (91 :: s1.tail).length = s1.tail.length + 1 := rfl
      have m1 := PM_pop h'
      have m2 := PM_open m1 (q := o - 1) (by have := h'.2.2.2.2.2.2.2.2.2.2.2; omega)
      have m3 := PM_place m2 (q := p + 1) (by omega) hlt
      have m4 := PM_52 m3 (v := 1)
      rw [h'.2.2.2.2.2.1, a6, nI_pred, show (si μ' 0 50 (nI s1.tail.length)).1 0 49 - 1 = nI (o - 1) by
        rw [m1.2.2.2.2.1, show o = (o - 1) + 1 by omega, nI_pred]
        rfl, m2.2.1, nI_1, if_neg i10]
      refine hP39 _ _ ?_
      unfold B_X12_pieceOfC_39
      rw [if_neg i10]
      refine y_good m4 ?_
      rw [if_neg i10, if_neg (show ¬ (si _ 0 52 1 : z_M).1 0 52 = 0 by rw [si1, if_pos ⟨rfl, rfl⟩]; exact i10)]
      exact l61_go hx.2 m4
    · rw [if_neg q2] at hx
      exact bad hx
  · rw [if_neg q] at hx
    refine y_isSign (by omega) (fun q2 => ?_) (fun q2 => ?_)
    · rw [if_pos q2] at hx
      rw [if_neg i10]
      have hlt : p < e := Nat.lt_of_not_le fun z => by
        rw [hT.2.2.2.2 p z] at q2
        omega
      have b128 : E 1 p → L_X12_goesOn_128 (fun r4 μ3 => if r4 = 0 then P39 0 μ3 else P39 1 μ3) (nI (ch p)) μ' := fun z => by
        unfold L_X12_goesOn_128 L_X12_goesOn_137
        rw [h'.2.1]
        refine y_wrongs (f := 1) h'.2.2.1 ?_
        have hB := BM_of (f := 1) (a := p) h'.1
        have hl := h'.2.2.2.2.2.2.2.2.2.1
        unfold C_X12_puts
        rw [show (si μ' 0 46 (iI (-(1000 * ((1 : Nat) : Int) + p)))).1 0 50 = nI s1.length by rw [si1, if_neg (by omega)]; exact h'.2.2.2.2.2.1, nI_clamp (n := s1.length) (by omega)]
        refine ⟨nI_vin (by omega) (by omega), ?_⟩
        show if (1 : Int32) = 0 then P39 0 _ else P39 1 _
        rw [if_neg i10]
        exact p39_bad hP39 hE (BM_si (BM_si (BM_si hB (by omega)) (by omega)) (by omega)) z (by decide) (by decide) (by omega) 1
      refine y_top h' he (ifc (nI_eq (b := 91) (topN_lt h') (by decide)) (fun q3 => ?_) (fun q3 => ?_))
      · rw [if_pos (Or.inl q3)] at hx
        exact b128 hx
      · refine y_top h' he (y_isSign (topN_lt h') (fun q4 => ?_) (fun q4 => ?_))
        · rw [if_neg i10]
          rw [if_pos (Or.inr q4)] at hx
          exact b128 hx
        · rw [if_neg (fun z => z.elim q3 q4)] at hx
          rw [if_pos rfl]
          unfold L_X12_goesOn_137
          refine y_puts h' he ?_
          show if (1 : Int32) = 0 then P39 0 _ else P39 1 _
          rw [if_neg i10]
          refine p39_fac hP39 hx (PM_push h' h256 hlt) ?_
          rw [si1, if_neg (by omega), si1, if_neg (by omega), si1, if_neg (by omega), hb']
    · rw [if_neg q2] at hx
      rw [if_pos rfl]
      refine y_top h' he (y_isSign (topN_lt h') (fun q4 => ?_) (fun q4 => ?_))
      · rw [if_pos q4] at hx
        rw [if_neg i10]
        have es := tail_top (rfl : topN s1 = topN s1) (by omega)
        rw [es] at h'
        refine y_top h' he ?_
        refine y_emp h' he (K := fun m => if (0 : Int32) = 0 then P39 0 m else P39 1 m) fun μ2 h2 _ => ?_
        rw [if_pos rfl]
        exact hx μ2 h2
      · rw [if_neg q4] at hx
        rw [if_pos rfl]
        exact bad hx
def okT (l : List Nat) : Prop := l = [] ∨ ∃ t, l = [t] ∧ tmP t
def okP (l : List Nat) : Prop := l = [] ∨ ∃ t, l = [t] ∧ plP t
theorem fl_free {st : List Nat} (h1 : ¬ tmP (topN st)) (h2 : ¬ plP (topN st)) (pl : Bool) : flS pl st = (st, []) := by
  cases st with
  | nil => rfl
  | cons c t =>
    unfold flS
    rw [if_neg (fun q => q.elim h1 fun z => h2 z.2)]
theorem fl_f {st : List Nat} (h1 : ¬ tmP (topN st)) : flS false st = (st, []) := by
  cases st with
  | nil => rfl
  | cons c t =>
    unfold flS
    rw [if_neg (fun q => q.elim h1 fun z => by cases z.1)]
theorem fl_t {st τ : List Nat} (h1 : ¬ tmP (topN st)) (ht : okT τ) : flS false (τ ++ st) = (st, em τ) := by
  rcases ht with e1 | ⟨t, e1, e2⟩ <;> subst e1
  · exact fl_f h1
  · show flS false (t :: st) = _
    unfold flS
    rw [if_pos (Or.inl e2), fl_f h1]
    rfl
theorem fl_tp {st τ π : List Nat} (h1 : ¬ tmP (topN st)) (h2 : ¬ plP (topN st)) (ht : okT τ) (hp : okP π) : flS true (τ ++ (π ++ st)) = (st, em τ ++ em π) := by
  have hπ : flS true (π ++ st) = (st, em π) := by
    rcases hp with e1 | ⟨t, e1, e2⟩ <;> subst e1
    · exact fl_free h1 h2 true
    · show flS true (t :: st) = _
      unfold flS
      rw [if_pos (Or.inr ⟨rfl, e2⟩), fl_free h1 h2]
      rfl
  rcases ht with e1 | ⟨t, e1, e2⟩ <;> subst e1
  · exact hπ
  · show flS true (t :: (π ++ st)) = _
    unfold flS
    rw [if_pos (Or.inl e2), hπ]
    rfl
theorem top_pi {st π : List Nat} (h1 : ¬ tmP (topN st)) (hp : okP π) : ¬ tmP (topN (π ++ st)) := by
  rcases hp with e1 | ⟨t, e1, e2⟩ <;> subst e1
  · exact h1
  · show ¬ tmP t
    omega
theorem numR_cnt {E E' : Nat → Nat → Prop} {K : Nat → List (Nat × Nat) → Prop} : ∀ k p v, Cnt (numR ch k p v) E K → (∀ a, E 2 a → E' 2 a) → Cnt (numR ch k p v) E' K := by
  intro k
  induction k with
  | zero =>
    intro p v h he
    unfold numR at h ⊢
    split
    · rename_i q
      rw [if_pos q] at h
      exact he _ h
    · rename_i q
      rw [if_neg q] at h
      exact h
  | succ k ih =>
    intro p v h he
    unfold numR at h ⊢
    split
    · rename_i q
      rw [if_pos q] at h
      exact ih _ _ h he
    · rename_i q
      rw [if_neg q] at h
      exact h
theorem numR_one {E : Nat → Nat → Prop} {K : Nat → List (Nat × Nat) → Prop} : ∀ k p v, Cnt (numR ch k p v) E K → p + k ≤ 999 → Cnt (numR ch k p v) (fun f a => E f a ∧ f = 2 ∧ a ≤ 1000) K := by
  intro k
  induction k with
  | zero =>
    intro p v h he
    unfold numR at h ⊢
    split
    · rename_i q
      rw [if_pos q] at h
      exact ⟨h, rfl, by show p ≤ 1000; omega⟩
    · rename_i q
      rw [if_neg q] at h
      exact h
  | succ k ih =>
    intro p v h he
    unfold numR at h ⊢
    split
    · rename_i q
      rw [if_pos q] at h
      exact ih _ _ h (by omega)
    · rename_i q
      rw [if_neg q] at h
      exact h
/-- all modes of expressions -/
theorem y_exp (hT : Txt ch e μ0) (hP39 : ∀ v1 μ, B_X12_pieceOfC_39 Kb P39 v1 μ → P39 v1 μ) (hE : faultOk E μ0 Kb) : ∀ f,
    (∀ p o st cd, p ≤ e → 8 * (e + 1 - p) + 1 ≤ f → o ≤ 6 → Cnt (pars ch f 0 p o []) E (fun p1 c1 => WgoP e μ0 P39 p1 o st (cd ++ c1)) → WfacP e μ0 Kb P39 p o st cd) ∧
    (∀ p o st cd, p ≤ e → 8 * (e + 1 - p) + 2 ≤ f → o ≤ 6 → ¬ tmP (topN st) → Cnt (pars ch f 1 p o []) E (fun p1 c1 => ¬ tmP (ch p1) → ∀ τ cd', okT τ → cd' ++ em τ = cd ++ c1 → WgoP e μ0 P39 p1 o (τ ++ st) cd') → WfacP e μ0 Kb P39 p o st cd) ∧
    (∀ p o st cd0 acc τ cd, p ≤ e → 8 * (e + 1 - p) + 1 ≤ f → o ≤ 6 → ¬ tmP (topN st) → okT τ → cd ++ em τ = cd0 ++ acc → Cnt (pars ch f 2 p o acc) E (fun p1 c1 => ¬ tmP (ch p1) → ∀ τ' cd', okT τ' → cd' ++ em τ' = cd0 ++ c1 → WgoP e μ0 P39 p1 o (τ' ++ st) cd') → WgoP e μ0 P39 p o (τ ++ st) cd) ∧
    (∀ p o st cd, p ≤ e → 8 * (e + 1 - p) + 3 ≤ f → o ≤ 6 → ¬ tmP (topN st) → ¬ plP (topN st) → Cnt (pars ch f 3 p o []) E (fun p1 c1 => ¬ tmP (ch p1) → ¬ plP (ch p1) → WxP ch e μ0 Kb P39 E p1 o st (cd ++ c1)) → WfacP e μ0 Kb P39 p o st cd) ∧
    (∀ p o st cd0 acc τ π cd, p ≤ e → 8 * (e + 1 - p) + 1 ≤ f → o ≤ 6 → ¬ tmP (topN st) → ¬ plP (topN st) → okT τ → okP π → ¬ tmP (ch p) → cd ++ em τ ++ em π = cd0 ++ acc → Cnt (pars ch f 4 p o acc) E (fun p1 c1 => ¬ tmP (ch p1) → ¬ plP (ch p1) → WxP ch e μ0 Kb P39 E p1 o st (cd0 ++ c1)) → WgoP e μ0 P39 p o (τ ++ (π ++ st)) cd) := by
  have he := hT.1
  have h256 := hT.2.2.2.1
  have hz := hT.2.2.2.2
  have lt : ∀ {p}, ch p ≠ 0 → p < e := fun {p} h => Nat.lt_of_not_le fun q => h (hz p q)
  have adv := fun f m p o acc hp hm hacc => pars_adv (ch := ch) (e := e) hz h256 f m p o acc hp hm hacc
  intro f
  induction f with
  | zero => exact ⟨fun p o st cd h1 h2 => by omega, fun p o st cd h1 h2 => by omega, fun p o st cd0 acc τ cd h1 h2 => by omega, fun p o st cd h1 h2 => by omega, fun p o st cd0 acc τ π cd h1 h2 => by omega⟩
  | succ f ih =>
    obtain ⟨i0, i1, i2, i3, i4⟩ := ih
    refine ⟨fun p o st cd h1 h2 h3 hc => ?_, fun p o st cd h1 h2 h3 t1 hc => ?_, fun p o st cd0 acc τ cd h1 h2 h3 t1 ht ha hc => ?_, fun p o st cd h1 h2 h3 t1 t2 hc => ?_, fun p o st cd0 acc τ π cd h1 h2 h3 t1 t2 ht hp n1 ha hc => ?_⟩
    · rw [ps0] at hc
      intro μ hM
      unfold C_X12_factor L_X12_factor_0
      intro P0 hP0
      have bad : ∀ {fa a : Nat} {m : z_M}, BM μ0 fa a m → E fa a → 1 ≤ fa → fa ≤ 9 → a ≤ 1000 → L_X12_factor_23 (fun μ3 => L_X12_pieceOfC_61 Kb P39 μ3) m := fun hB hx b1 b2 b3 => by
        unfold L_X12_factor_23
        refine y_bad b1 b2 b3 hB ?_
        rw [if_pos rfl]
        exact l61_bad hP39 hE hB hx b1 b2 b3
      refine hP0 _ ?_
      unfold B_X12_factor_0
      refine y_good hM ?_
      rw [if_neg i10]
      have h256p := h256 p
      refine y_here hT hM (ifc (nI_eq (b := 91) (by omega) (by decide)) (fun q => ?_) (fun q => ?_))
      · rw [if_pos q] at hc
        have hpe := lt (p := p) (by omega)
        refine y_opens hT hM hpe (fun h6 μ' hM' => ?_) (fun h6 μ' hB => ?_)
        · rw [if_neg (by omega), Cnt_bnd] at hc
          have w : WfacP e μ0 Kb P39 (p + 1) (o + 1) (ch p :: st) cd := by
            refine i3 (p + 1) (o + 1) (ch p :: st) cd hpe (by omega) (by omega) (by show ¬ tmP (ch p); omega) (by show ¬ plP (ch p); omega) (Cnt_mono (Cnt_use hc (adv f 3 (p + 1) (o + 1) [] hpe (by decide) (fun z => absurd z (by decide)))) (fun _ _ z => z) fun p1 c1 hh n1 n2 => ?_)
            obtain ⟨⟨a1, a2, a3, a4⟩, hk⟩ := hh
            have hte : topN (ch p :: st) = 91 := q
            unfold WxP
            by_cases q1 : ch p1 = 93
            · rw [if_pos q1] at hk
              rw [if_pos q1, if_pos hte]
              exact ⟨by omega, hk⟩
            · rw [if_neg q1] at hk
              rw [if_neg q1]
              by_cases q2 : sgP (ch p1)
              · rw [if_pos q2, if_pos (Or.inl hte)]
                exact hk
              · rw [if_neg q2, if_neg (by omega)]
                exact hk
          exact w μ' hM' P0 hP0
        · rw [if_pos h6] at hc
          refine hP0 _ ?_
          unfold B_X12_factor_0
          refine y_bad (by decide) (by decide) (by omega) hB ?_
          rw [if_pos rfl]
          exact bad hB hc (by decide) (by decide) (by omega)
      · rw [if_neg q] at hc
        unfold L_X12_factor_23
        refine y_good hM ?_
        rw [if_neg i10]
        refine y_seesDigit hT hM (fun q2 => ?_) (fun q2 => ?_)
        · rw [if_pos q2] at hc
          rw [if_neg i10]
          refine y_reads hT hM q2 (Cnt_mono (numR_one 6 p 0 hc (by omega)) (fun fa a z w m hB => ?_) (fun p1 c1 z v m ec hlt hle hM1 hb1 hv => ?_))
          · obtain ⟨z1, z2, z3⟩ := z
            subst z2
            unfold C_X12_emit
            refine y_bad (by decide) (by decide) z3 hB ?_
            rw [if_pos rfl]
            exact l61_bad hP39 hE hB z1 (by decide) (by decide) z3
          · subst ec
            have hl := hM.2.2.2.2.2.2.2.2.2.1
            refine y_emit (a := 0) hM1 (by omega) (l61_go z (PM_code hM1 (x := (0, v)) rfl (by omega)))
        · rw [if_neg q2] at hc
          rw [if_pos rfl]
          refine y_here hT hM (y_isValue (by omega) (fun q3 => ?_) (fun q3 => ?_))
          · rw [if_pos q3] at hc
            rw [if_neg i10]
            have hpe := lt (p := p) (by omega)
            have hl := hM.2.2.2.2.2.2.2.2.2.1
            refine y_here hT hM (y_emit (a := 1) hM (by omega) ?_)
            have e44 : (si (si (si μ 43 cd.length (nI 1)) 44 cd.length (nI (ch p))) 0 48 (nI (cd.length + 1))).1 0 44 = nI p := by
              rw [si1, if_neg (by omega), si1, if_neg (by omega), si1, if_neg (by omega)]
              exact hM.2.1
            rw [e44, nI_1]
            refine l61_go hc ?_
            obtain ⟨a1, a2, a3, a4, a5, a6, a7, a8, a9, a10, a11, a12⟩ := hM
            refine ⟨FrP_si (FrP_si (FrP_si (FrP_si a1 (by omega)) (by omega)) (by omega)) (by omega), by simp [si1], by simp [si1, a3], by simp [si1], by simp [si1, a5], by simp [si1, a6], by simp [si1, a7], StK_same _ (fun j _ => by simp [si1]) a8, CdK_app a9 (fun j hj => ⟨?_, ?_⟩) (by simp [si1]) (by simp [si1]), by rw [len_app1]; omega, hpe, a12⟩
            · rw [si1, if_neg (by omega), si1, if_neg (by omega), si1, if_neg (by omega), si1, if_neg (by omega)]
            · rw [si1, if_neg (by omega), si1, if_neg (by omega), si1, if_neg (by omega), si1, if_neg (by omega)]
          · rw [if_neg q3] at hc
            rw [if_pos rfl, hM.2.1]
            refine y_wrongs (f := 1) hM.2.2.1 ?_
            exact l61_bad hP39 hE (BM_of hM.1) hc (by decide) (by decide) (by omega)
    · rw [ps1, Cnt_bnd] at hc
      refine i0 p o st cd h1 (by omega) h3 (Cnt_mono (Cnt_use hc (adv f 0 p o [] h1 (by decide) (fun z => absurd z (by decide)))) (fun _ _ z => z) fun p1 c1 hh => ?_)
      obtain ⟨⟨a1, a2, a3, a4⟩, hk⟩ := hh
      have a5 := a3 (by decide)
      exact i2 p1 o st cd c1 [] (cd ++ c1) a2 (by omega) h3 t1 (Or.inl rfl) (List.append_nil _) hk
    · rw [ps2] at hc
      by_cases q : tmP (ch p)
      · rw [if_pos q, Cnt_bnd] at hc
        have hpe := lt (p := p) (by omega)
        refine y_goOp hT hP39 (Or.inl q) ?_
        rw [decide_eq_false (show ¬ plP (ch p) by omega), fl_t t1 ht]
        refine i0 (p + 1) o (ch p :: st) (cd ++ em τ) hpe (by omega) h3 (Cnt_mono (Cnt_use hc (adv f 0 (p + 1) o [] hpe (by decide) (fun z => absurd z (by decide)))) (fun _ _ z => z) fun p1 c1 hh => ?_)
        obtain ⟨⟨a1, a2, a3, a4⟩, hk⟩ := hh
        refine i2 p1 o st cd0 _ [ch p] (cd ++ em τ ++ c1) a2 (by omega) h3 t1 (Or.inr ⟨_, rfl, q⟩) ?_ hk
        rw [ha]
        show cd0 ++ acc ++ c1 ++ [(ch p, 0)] = _
        simp only [List.append_assoc]
      · rw [if_neg q] at hc
        exact hc q τ cd ht ha
    · rw [ps3, Cnt_bnd] at hc
      refine i1 p o st cd h1 (by omega) h3 t1 (Cnt_mono (Cnt_use hc (adv f 1 p o [] h1 (by decide) (fun z => absurd z (by decide)))) (fun _ _ z => z) fun p1 c1 hh n1 τ cd' ht ha => ?_)
      obtain ⟨⟨a1, a2, a3, a4⟩, hk⟩ := hh
      have a5 := a3 (by decide)
      exact i4 p1 o st cd c1 τ [] cd' a2 (by omega) h3 t1 t2 ht (Or.inl rfl) n1 (by rw [show em [] = [] from rfl, List.append_nil]; exact ha) hk
    · rw [ps4] at hc
      by_cases q : plP (ch p)
      · rw [if_pos q, Cnt_bnd] at hc
        have hpe := lt (p := p) (by omega)
        refine y_goOp hT hP39 (Or.inr q) ?_
        rw [decide_eq_true q, fl_tp t1 t2 ht hp, ← List.append_assoc, ha]
        refine i1 (p + 1) o (ch p :: st) (cd0 ++ acc) hpe (by omega) h3 (by show ¬ tmP (ch p); omega) (Cnt_mono (Cnt_use hc (adv f 1 (p + 1) o [] hpe (by decide) (fun z => absurd z (by decide)))) (fun _ _ z => z) fun p1 c1 hh n2 τ' cd' ht' ha' => ?_)
        obtain ⟨⟨a1, a2, a3, a4⟩, hk⟩ := hh
        refine i4 p1 o st cd0 _ τ' [ch p] cd' a2 (by omega) h3 t1 t2 ht' (Or.inr ⟨_, rfl, q⟩) n2 ?_ hk
        rw [ha']
        show cd0 ++ acc ++ c1 ++ [(ch p, 0)] = _
        simp only [List.append_assoc]
      · rw [if_neg q] at hc
        refine y_goX hT hP39 hE n1 q ?_
        rw [fl_tp t1 t2 ht hp, ← List.append_assoc, ha]
        exact hc n1 q
end YEXP
