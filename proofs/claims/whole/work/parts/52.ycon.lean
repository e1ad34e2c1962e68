/-! The reference reads conditions. -/
def c34 : List Nat → Nat
  | [] => 0
  | c :: t => (if c = 33 ∨ c = 40 then 1 else 0) + c34 t
theorem c33_le : ∀ st : List Nat, (st.filter fun c => c = 33).length ≤ c34 st
  | [] => Nat.le_refl _
  | c :: t => by
    have := c33_le t
    unfold c34
    by_cases h : c = 33
    · rw [List.filter_cons_of_pos (by simpa using h), if_pos (Or.inl h)]
      show (List.filter _ t).length + 1 ≤ _
      omega
    · rw [List.filter_cons_of_neg (by simpa using h)]
      omega
def PF (e : Nat) (μ0 : z_M) (p : Nat) (cd : List (Nat × Nat)) (μ : z_M) : Prop := FrP μ0 μ ∧ μ.1 0 44 = nI p ∧ μ.1 0 46 = 0 ∧ μ.1 0 48 = nI cd.length ∧ CdK μ cd ∧ cd.length ≤ p ∧ p ≤ e
section YCON
variable {ch : Nat → Nat} {e : Nat} {μ0 : z_M} {Kc : z_M → Prop} {P47 : Int32 → z_M → Prop} {E : Nat → Nat → Prop}
def Wpc (e : Nat) (μ0 : z_M) (Kc : z_M → Prop) (P47 : Int32 → z_M → Prop) (p o : Nat) (st : List Nat) (cd : List (Nat × Nat)) : Prop := ∀ μ, PM e μ0 p o st cd μ → C_X12_pieceOfC μ (fun μ3 => L_X12_condition_69 Kc P47 1 μ3)
def Wbh (e : Nat) (μ0 : z_M) (Kc : z_M → Prop) (P47 : Int32 → z_M → Prop) (p o : Nat) (st : List Nat) (cd : List (Nat × Nat)) : Prop := ∀ v μ, PM e μ0 p o st cd μ → L_X12_condition_69 Kc P47 v μ
def WE (ch : Nat → Nat) (e : Nat) (μ0 : z_M) (Kc : z_M → Prop) (P47 : Int32 → z_M → Prop) (E : Nat → Nat → Prop) (p o : Nat) (st : List Nat) (cd : List (Nat × Nat)) : Prop := endP (fun o st cd => Wbh e μ0 Kc P47 p o st cd) o st cd ∧ (ch p ≠ 38 → ch p ≠ 124 → ch p ≠ 41 → E 1 p)
def Wcl (ch : Nat → Nat) (e : Nat) (μ0 : z_M) (Kc : z_M → Prop) (P47 : Int32 → z_M → Prop) (E : Nat → Nat → Prop) (p o : Nat) (st : List Nat) (cd : List (Nat × Nat)) : Prop := if ch p = 41 then (st.tail = [] → ∀ μ, PF e μ0 (p + 1) cd μ → Kc μ) ∧ (st.tail ≠ [] → WE ch e μ0 Kc P47 E (p + 1) (o - 1) st.tail cd) else E 1 p
theorem endP_no {Q : Nat → List Nat → List (Nat × Nat) → Prop} {o : Nat} {st : List Nat} {cd : List (Nat × Nat)} (h : topN st ≠ 33) : endP Q o st cd = Q o st cd := by
  cases st with
  | nil => rfl
  | cons c t =>
    unfold endP
    rw [if_neg (show ¬ c = 33 from h)]
theorem p47_bad (hP : ∀ v μ, B_X12_condition_47 Kc P47 v μ → P47 v μ) (hE : faultOk E μ0 Kc) {f a : Nat} {μ : z_M} (h : BM μ0 f a μ) (hx : E f a) (h1 : 1 ≤ f) (h2 : f ≤ 9) (h3 : a ≤ 1000) (v : Int32) : P47 v μ := by
  refine hP _ _ ?_
  unfold B_X12_condition_47
  refine y_bad h1 h2 h3 h ?_
  rw [if_pos rfl]
  exact hE f a μ hx h h1 h2 h3
theorem p69_fault (hP : ∀ v μ, B_X12_condition_47 Kc P47 v μ → P47 v μ) (hE : faultOk E μ0 Kc) : faultOk E μ0 (fun μ3 => L_X12_condition_69 Kc P47 1 μ3) := by
  intro f a μ hx h h1 h2 h3
  show L_X12_condition_69 Kc P47 1 μ
  unfold L_X12_condition_69
  refine y_bad h1 h2 h3 h ?_
  rw [if_pos rfl]
  exact p47_bad hP hE h hx h1 h2 h3 1
theorem p47_pc (hP : ∀ v μ, B_X12_condition_47 Kc P47 v μ → P47 v μ) {p o : Nat} {st : List Nat} {cd : List (Nat × Nat)} (hw : Wpc e μ0 Kc P47 p o st cd) {μ : z_M} (h : PM e μ0 p o st cd μ) : P47 1 μ := by
  refine hP _ _ ?_
  unfold B_X12_condition_47
  refine y_good h ?_
  rw [if_neg i10, h.2.2.2.2.2.2.1, if_pos rfl, if_neg i10]
  exact hw μ h
theorem p47_bh (hP : ∀ v μ, B_X12_condition_47 Kc P47 v μ → P47 v μ) {p o : Nat} {st : List Nat} {cd : List (Nat × Nat)} (hw : Wbh e μ0 Kc P47 p o st cd) {μ : z_M} (h : PM e μ0 p o st cd μ) : P47 0 μ := by
  refine hP _ _ ?_
  unfold B_X12_condition_47
  refine y_good h ?_
  rw [if_neg i10, h.2.2.2.2.2.2.1, if_pos rfl, if_pos rfl]
  exact hw 0 μ h
def okA (l : List Nat) : Prop := l = [] ∨ l = [38]
def okB (l : List Nat) : Prop := l = [] ∨ l = [124]
theorem fj_free {st : List Nat} (h1 : topN st ≠ 38) (h2 : topN st ≠ 124) (b : Bool) : flJ b st = (st, []) := by
  cases st with
  | nil => rfl
  | cons c t =>
    unfold flJ
    rw [if_neg (fun q => q.elim h1 fun z => h2 z.2)]
theorem fj_f {st : List Nat} (h1 : topN st ≠ 38) : flJ false st = (st, []) := by
  cases st with
  | nil => rfl
  | cons c t =>
    unfold flJ
    rw [if_neg (fun q => q.elim h1 fun z => by cases z.1)]
theorem fj_a {st α : List Nat} (h1 : topN st ≠ 38) (ha : okA α) : flJ false (α ++ st) = (st, em α) := by
  rcases ha with e1 | e1 <;> subst e1
  · exact fj_f h1
  · show flJ false (38 :: st) = _
    unfold flJ
    rw [if_pos (Or.inl rfl), fj_f h1]
    rfl
theorem fj_ab {st α β : List Nat} (h1 : topN st ≠ 38) (h2 : topN st ≠ 124) (ha : okA α) (hb : okB β) : flJ true (α ++ (β ++ st)) = (st, em α ++ em β) := by
  have hβ : flJ true (β ++ st) = (st, em β) := by
    rcases hb with e1 | e1 <;> subst e1
    · exact fj_free h1 h2 true
    · show flJ true (124 :: st) = _
      unfold flJ
      rw [if_pos (Or.inr ⟨rfl, rfl⟩), fj_free h1 h2]
      rfl
  rcases ha with e1 | e1 <;> subst e1
  · exact hβ
  · show flJ true (38 :: (β ++ st)) = _
    unfold flJ
    rw [if_pos (Or.inl rfl), hβ]
    rfl
abbrev opnP (c : Nat) : Prop := c = 33 ∨ c = 40 ∨ c = 38 ∨ c = 124
theorem y_con (hT : Txt ch e μ0) (hP : ∀ v μ, B_X12_condition_47 Kc P47 v μ → P47 v μ) (hE : faultOk E μ0 Kc) : ∀ f,
    (∀ p o st cd, p ≤ e → 8 * (e + 1 - p) + 4 ≤ f → o ≤ 6 → c34 st ≤ o → opnP (topN st) → Cnt (pars ch f 5 p o []) E (fun p1 c1 => WE ch e μ0 Kc P47 E p1 o st (cd ++ c1)) → Wpc e μ0 Kc P47 p o st cd) ∧
    (∀ p o st cd, p ≤ e → 8 * (e + 1 - p) + 5 ≤ f → o ≤ 6 → c34 st ≤ o → (topN st = 40 ∨ topN st = 124) → Cnt (pars ch f 6 p o []) E (fun p1 c1 => ch p1 ≠ 38 → ∀ α cd', okA α → cd' ++ em α = cd ++ c1 → WE ch e μ0 Kc P47 E p1 o (α ++ st) cd') → Wpc e μ0 Kc P47 p o st cd) ∧
    (∀ p o st cd0 acc α cd, p ≤ e → 8 * (e + 1 - p) + 1 ≤ f → o ≤ 6 → c34 st ≤ o → (topN st = 40 ∨ topN st = 124) → okA α → cd ++ em α = cd0 ++ acc → Cnt (pars ch f 7 p o acc) E (fun p1 c1 => ch p1 ≠ 38 → ∀ α' cd', okA α' → cd' ++ em α' = cd0 ++ c1 → WE ch e μ0 Kc P47 E p1 o (α' ++ st) cd') → WE ch e μ0 Kc P47 E p o (α ++ st) cd) ∧
    (∀ p o st cd, p ≤ e → 8 * (e + 1 - p) + 6 ≤ f → o ≤ 6 → c34 st ≤ o → topN st = 40 → Cnt (pars ch f 8 p o []) E (fun p1 c1 => ch p1 ≠ 38 → ch p1 ≠ 124 → Wcl ch e μ0 Kc P47 E p1 o st (cd ++ c1)) → Wpc e μ0 Kc P47 p o st cd) ∧
    (∀ p o st cd0 acc α β cd, p ≤ e → 8 * (e + 1 - p) + 1 ≤ f → o ≤ 6 → c34 st ≤ o → topN st = 40 → okA α → okB β → ch p ≠ 38 → cd ++ em α ++ em β = cd0 ++ acc → Cnt (pars ch f 9 p o acc) E (fun p1 c1 => ch p1 ≠ 38 → ch p1 ≠ 124 → Wcl ch e μ0 Kc P47 E p1 o st (cd0 ++ c1)) → WE ch e μ0 Kc P47 E p o (α ++ (β ++ st)) cd) := by
  have he := hT.1
  have h256 := hT.2.2.2.1
  have hz := hT.2.2.2.2
  have lt : ∀ {p}, ch p ≠ 0 → p < e := fun {p} h => Nat.lt_of_not_le fun q => h (hz p q)
  have adv := fun f m p o acc hp hm hacc => pars_adv (ch := ch) (e := e) hz h256 f m p o acc hp hm hacc
  have hEb := p69_fault hP hE
  intro f
  induction f with
  | zero => exact ⟨fun p o st cd h1 h2 => by omega, fun p o st cd h1 h2 => by omega, fun p o st cd0 acc α cd h1 h2 => by omega, fun p o st cd h1 h2 => by omega, fun p o st cd0 acc α β cd h1 h2 => by omega⟩
  | succ f ih =>
    obtain ⟨i5, i6, i7, i8, i9⟩ := ih
    refine ⟨fun p o st cd h1 h2 h3 h4 t1 hc => ?_, fun p o st cd h1 h2 h3 h4 t1 hc => ?_, fun p o st cd0 acc α cd h1 h2 h3 h4 t1 ha hcd hc => ?_, fun p o st cd h1 h2 h3 h4 t1 hc => ?_, fun p o st cd0 acc α β cd h1 h2 h3 h4 t1 ha hb n1 hcd hc => ?_⟩
    · rw [ps5] at hc
      intro μ hM
      unfold C_X12_pieceOfC L_X12_pieceOfC_0
      intro P0 hP0
      refine hP0 _ ?_
      unfold B_X12_pieceOfC_0
      refine y_good hM ?_
      rw [if_neg i10]
      have h256p := h256 p
      have bad : ∀ {m : z_M}, BM μ0 5 p m → E 5 p → P0 m := fun hB hx => by
        refine hP0 _ ?_
        unfold B_X12_pieceOfC_0
        refine y_bad (by decide) (by decide) (by omega) hB ?_
        rw [if_pos rfl]
        unfold L_X12_pieceOfC_32
        intro P39 hP39
        exact p39_bad hP39 hEb (BM_si hB (by omega)) hx (by decide) (by decide) (by omega) 1
      refine y_here hT hM (ifc (nI_eq (b := 33) (by omega) (by decide)) (fun q => ?_) (fun q => ?_))
      · rw [if_pos q] at hc
        have hpe := lt (p := p) (by omega)
        unfold L_X12_pieceOfC_25
        refine y_opens hT hM hpe (fun h6 μ' hM' => ?_) (fun h6 μ' hB => ?_)
        · rw [if_neg (by omega), Cnt_bnd] at hc
          rw [q] at hM'
          have w : Wpc e μ0 Kc P47 (p + 1) (o + 1) (33 :: st) cd := by
            refine i5 (p + 1) (o + 1) (33 :: st) cd hpe (by omega) (by omega) (by show 1 + c34 st ≤ o + 1; omega) (Or.inl rfl) (Cnt_mono hc (fun _ _ z => z) fun p1 c1 hk => ?_)
            refine ⟨?_, hk.2⟩
            have k1 := hk.1
            rw [← List.append_assoc] at k1
            exact k1
          exact w μ' hM' P0 hP0
        · rw [if_pos h6] at hc
          exact bad hB hc
      · rw [if_neg q] at hc
        refine y_here hT hM (ifc (nI_eq (b := 40) (by omega) (by decide)) (fun q2 => ?_) (fun q2 => ?_))
        · rw [if_pos q2] at hc
          have hpe := lt (p := p) (by omega)
          unfold L_X12_pieceOfC_25
          refine y_opens hT hM hpe (fun h6 μ' hM' => ?_) (fun h6 μ' hB => ?_)
          · rw [if_neg (by omega), Cnt_bnd] at hc
            rw [q2] at hM'
            have w : Wpc e μ0 Kc P47 (p + 1) (o + 1) (40 :: st) cd := by
              refine i8 (p + 1) (o + 1) (40 :: st) cd hpe (by omega) (by omega) (by show 1 + c34 st ≤ o + 1; omega) rfl (Cnt_mono hc (fun _ _ z => z) fun p1 c1 hk n1 n2 => ?_)
              unfold Wcl
              by_cases q3 : ch p1 = 41
              · rw [if_pos q3] at hk
                rw [if_pos q3]
                refine ⟨fun z => ?_, fun _ => hk⟩
                have z2 : st = [] := z
                rw [z2] at t1
                exact absurd t1 (by decide)
              · rw [if_neg q3] at hk
                rw [if_neg q3]
                exact hk
            exact w μ' hM' P0 hP0
          · rw [if_pos h6] at hc
            exact bad hB hc
        · rw [if_neg q2, Cnt_bnd] at hc
          unfold L_X12_pieceOfC_32
          intro P39 hP39
          have yx := fun g => y_exp (f := g) hT hP39 hEb
          refine p39_fac hP39 ?_ (PM_52 hM) (by rw [si1, if_pos ⟨rfl, rfl⟩])
          refine (yx f).2.2.2.1 p o st cd h1 (by omega) h3 (by omega) (by omega) (Cnt_mono (Cnt_use hc (adv f 3 p o [] h1 (by decide) (fun z => absurd z (by decide)))) (fun _ _ z => z) fun p1 c1 hh n1 n2 => ?_)
          obtain ⟨⟨a1, a2, a3, a4⟩, hk⟩ := hh
          have a5 := a3 (by decide)
          unfold WxP
          by_cases q3 : sgP (ch p1)
          · rw [if_pos q3, Cnt_bnd] at hk
            rw [if_neg (by omega), if_pos q3, if_neg (by omega)]
            have hpe := lt (p := p1) (by omega)
            refine (yx f).2.2.2.1 (p1 + 1) o (ch p1 :: st) (cd ++ c1) hpe (by omega) h3 (by show ¬ tmP (ch p1); omega) (by show ¬ plP (ch p1); omega) (Cnt_mono hk (fun _ _ z => z) fun p2 c2 (hw : WE ch e μ0 Kc P47 E p2 o st (cd ++ (c1 ++ c2 ++ [(ch p1, 0)]))) m1 m2 => ?_)
            have ht : topN (ch p1 :: st) = ch p1 := rfl
            unfold WxP
            rw [ht]
            by_cases q4 : ch p2 = 93
            · rw [if_pos q4, if_neg (by omega)]
              exact hw.2 (by omega) (by omega) (by omega)
            · rw [if_neg q4]
              by_cases q5 : sgP (ch p2)
              · rw [if_pos q5, if_pos (Or.inr q3)]
                exact hw.2 (by omega) (by omega) (by omega)
              · rw [if_neg q5, if_pos q3]
                intro μ2 hM2
                refine hP39 _ _ ?_
                unfold B_X12_pieceOfC_39
                rw [if_pos rfl]
                unfold L_X12_pieceOfC_89
                refine y_good hM2 ?_
                rw [if_neg i10]
                have hw1 := hw.1
                rw [← List.append_assoc, ← List.append_assoc] at hw1
                refine y_ends he (Q := fun o st cd => Wbh e μ0 Kc P47 p2 o st cd) (fun o' st' cd' μ' hq hM' => hq 1 μ' hM') hM2 (Nat.le_trans (c33_le _) h4) hw1
          · rw [if_neg q3] at hk
            by_cases q4 : ch p1 = 93
            · rw [if_pos q4, if_neg (by omega)]
              exact hk
            · rw [if_neg q4, if_neg q3, if_neg (by omega)]
              exact hk
    · rw [ps6, Cnt_bnd] at hc
      refine i5 p o st cd h1 (by omega) h3 h4 (by omega) (Cnt_mono (Cnt_use hc (adv f 5 p o [] h1 (by decide) (fun z => absurd z (by decide)))) (fun _ _ z => z) fun p1 c1 hh => ?_)
      obtain ⟨⟨a1, a2, a3, a4⟩, hk⟩ := hh
      have a5 := a3 (by decide)
      exact i7 p1 o st cd c1 [] (cd ++ c1) a2 (by omega) h3 h4 t1 (Or.inl rfl) (List.append_nil _) hk
    · rw [ps7] at hc
      by_cases q : ch p = 38
      · rw [if_pos q, Cnt_bnd] at hc
        have hpe := lt (p := p) (by omega)
        refine ⟨?_, fun z => absurd q z⟩
        have tn : topN (α ++ st) ≠ 33 := by
          rcases ha with e1 | e1 <;> subst e1
          · show topN st ≠ 33
            omega
          · exact (by decide : (38 : Nat) ≠ 33)
        rw [endP_no tn]
        intro v μ hM
        unfold L_X12_condition_69
        refine y_good hM ?_
        rw [if_neg i10]
        unfold C_X12_goesBehind
        refine y_here hT hM ?_
        rw [q, if_pos (show nI 38 = 38 from rfl)]
        unfold L_X12_goesBehind_17 L_X12_goesBehind_29
        rw [if_neg (by decide)]
        refine y_joins he (pl := false) rfl hM fun μ' hM' => ?_
        rw [fj_a (by omega) ha] at hM'
        refine y_puts hM' he (p47_pc hP ?_ (PM_push hM' (by decide) hpe))
        refine i5 (p + 1) o (38 :: st) (cd ++ em α) hpe (by omega) h3 (by show 0 + c34 st ≤ o; omega) (by show opnP 38; decide) (Cnt_mono (Cnt_use hc (adv f 5 (p + 1) o [] hpe (by decide) (fun z => absurd z (by decide)))) (fun _ _ z => z) fun p1 c1 hh => ?_)
        obtain ⟨⟨a1, a2, a3, a4⟩, hk⟩ := hh
        refine i7 p1 o st cd0 _ [38] (cd ++ em α ++ c1) a2 (by omega) h3 h4 t1 (Or.inr rfl) ?_ hk
        rw [hcd]
        show cd0 ++ acc ++ c1 ++ [(38, 0)] = _
        simp only [List.append_assoc]
      · rw [if_neg q] at hc
        exact hc q α cd ha hcd
    · rw [ps8, Cnt_bnd] at hc
      refine i6 p o st cd h1 (by omega) h3 h4 (Or.inl t1) (Cnt_mono (Cnt_use hc (adv f 6 p o [] h1 (by decide) (fun z => absurd z (by decide)))) (fun _ _ z => z) fun p1 c1 hh n1 α cd' ha hcd => ?_)
      obtain ⟨⟨a1, a2, a3, a4⟩, hk⟩ := hh
      have a5 := a3 (by decide)
      exact i9 p1 o st cd c1 α [] cd' a2 (by omega) h3 h4 t1 ha (Or.inl rfl) n1 (by rw [show em [] = [] from rfl, List.append_nil]; exact hcd) hk
    · rw [ps9] at hc
      have tn : topN (α ++ (β ++ st)) ≠ 33 := by
        rcases ha with e1 | e1 <;> rcases hb with e2 | e2 <;> subst e1 <;> subst e2
        · show topN st ≠ 33
          omega
        · exact (by decide : (124 : Nat) ≠ 33)
        · exact (by decide : (38 : Nat) ≠ 33)
        · exact (by decide : (38 : Nat) ≠ 33)
      by_cases q : ch p = 124
      · rw [if_pos q, Cnt_bnd] at hc
        have hpe := lt (p := p) (by omega)
        refine ⟨?_, fun _ z => absurd q z⟩
        rw [endP_no tn]
        intro v μ hM
        unfold L_X12_condition_69
        refine y_good hM ?_
        rw [if_neg i10]
        unfold C_X12_goesBehind
        refine y_here hT hM ?_
        rw [q, if_neg (show ¬ nI 124 = 38 by decide), if_pos (show nI 124 = 124 from rfl)]
        unfold L_X12_goesBehind_17 L_X12_goesBehind_29
        rw [if_pos (show nI 124 = 124 from rfl)]
        refine y_joins he (pl := true) rfl hM fun μ' hM' => ?_
        rw [fj_ab (by omega) (by omega) ha hb, ← List.append_assoc, hcd] at hM'
        refine y_puts hM' he (p47_pc hP ?_ (PM_push hM' (by decide) hpe))
        refine i6 (p + 1) o (124 :: st) (cd0 ++ acc) hpe (by omega) h3 (by show 0 + c34 st ≤ o; omega) (Or.inr rfl) (Cnt_mono (Cnt_use hc (adv f 6 (p + 1) o [] hpe (by decide) (fun z => absurd z (by decide)))) (fun _ _ z => z) fun p1 c1 hh m1 α' cd' ha' hcd' => ?_)
        obtain ⟨⟨a1, a2, a3, a4⟩, hk⟩ := hh
        refine i9 p1 o st cd0 _ α' [124] cd' a2 (by omega) h3 h4 t1 ha' (Or.inr rfl) m1 ?_ hk
        rw [hcd']
        show cd0 ++ acc ++ c1 ++ [(124, 0)] = _
        simp only [List.append_assoc]
      · rw [if_neg q] at hc
        have hk := hc n1 q
        unfold Wcl at hk
        dsimp only at hk
        refine ⟨?_, fun _ _ z => ?_⟩
        · rw [endP_no tn]
          intro v μ hM
          have h256p := h256 p
          unfold L_X12_condition_69
          refine y_good hM ?_
          rw [if_neg i10]
          unfold C_X12_goesBehind
          refine y_here hT hM ?_
          refine ifc (nI_eq (b := 38) (by omega) (by decide)) (fun z => absurd z n1) (fun _ => ifc (nI_eq (b := 124) (by omega) (by decide)) (fun z => absurd z q) (fun _ => ?_))
          refine ifc (nI_eq (b := 41) (by omega) (by decide)) (fun q2 => ?_) (fun q2 => ?_)
          · rw [if_pos q2] at hk
            have hpe := lt (p := p) (by omega)
            refine y_joins he (pl := true) rfl hM fun μ' hM' => ?_
            rw [fj_ab (by omega) (by omega) ha hb, ← List.append_assoc, hcd] at hM'
            have es := tail_top t1 (by decide)
            generalize st.tail = t at hk es
            subst es
            have h4' : 1 + c34 t ≤ o := h4
            have a6 : (40 :: t).length = t.length + 1 := rfl
            have m1 := PM_pop hM'
            have m2 := PM_open m1 (q := o - 1) (by omega)
            have m3 := PM_place m2 (q := p + 1) (by omega) hpe
            rw [hM'.2.2.2.2.2.1, a6, nI_pred, show (si μ' 0 50 (nI t.length)).1 0 49 - 1 = nI (o - 1) by
              rw [m1.2.2.2.2.1, show o = (o - 1) + 1 by omega, nI_pred]
              rfl, m2.2.1, nI_1, m3.2.2.2.2.2.1]
            unfold L_X12_goesBehind_104
            by_cases et : t = []
            · subst et
              rw [if_pos (show nI ([] : List Nat).length = 0 from rfl), if_neg (show ¬ (si _ 0 51 1 : z_M).1 0 51 = 0 by rw [si1, if_pos ⟨rfl, rfl⟩]; exact i10)]
              refine hP _ _ ?_
              unfold B_X12_condition_47 C_X12_isGood
              obtain ⟨a1, a2, a3, a4, a5, a6', a7, a8, a9, a10, a11, a12⟩ := m3
              rw [if_pos (show (si _ 0 51 1 : z_M).1 0 46 = 0 by rw [si1, if_neg (by omega)]; exact a3)]
              dsimp only
              rw [if_neg i10, if_neg (show ¬ (si _ 0 51 1 : z_M).1 0 51 = 0 by rw [si1, if_pos ⟨rfl, rfl⟩]; exact i10)]
              refine hk.1 rfl _ ⟨FrP_si a1 (by omega), by rw [si1, if_neg (by omega)]; exact a2, by rw [si1, if_neg (by omega)]; exact a3, by rw [si1, if_neg (by omega)]; exact a4, CdK_same a9 (fun j _ => by simp [si1]), by omega, a11⟩
            · have htl : 0 < t.length := List.length_pos_iff.mpr et
              have h10 := m3.2.2.2.2.2.2.2.2.2.1
              rw [if_neg (fun z => by have := (nI_eq (b := 0) (by omega) (by decide)).mp z; omega), if_pos (show (si _ 0 51 0 : z_M).1 0 51 = 0 by rw [si1, if_pos ⟨rfl, rfl⟩])]
              have m4 : PM e μ0 (p + 1) (o - 1) t (cd0 ++ acc) (si (si (si (si μ' 0 50 (nI t.length)) 0 49 (nI (o - 1))) 0 44 (nI (p + 1))) 0 51 0) := by
                obtain ⟨a1, a2, a3, a4, a5, a6', a7, a8, a9, a10, a11, a12⟩ := m3
                exact ⟨FrP_si a1 (by omega), by rw [si1, if_neg (by omega)]; exact a2, by rw [si1, if_neg (by omega)]; exact a3, by rw [si1, if_neg (by omega)]; exact a4, by rw [si1, if_neg (by omega)]; exact a5, by rw [si1, if_neg (by omega)]; exact a6', by rw [si1, if_pos ⟨rfl, rfl⟩], StK_same _ (fun j _ => by simp [si1]) a8, CdK_same a9 (fun j _ => by simp [si1]), a10, a11, a12⟩
              refine y_ends he (Q := fun o st cd => Wbh e μ0 Kc P47 (p + 1) o st cd) (fun o' st' cd' μ2 hq hM2 => p47_bh hP hq hM2) m4 (Nat.le_trans (c33_le _) (by omega)) (hk.2 et).1
          · rw [if_neg q2] at hk
            rw [hM.2.1]
            refine y_wrongs (f := 1) hM.2.2.1 ?_
            exact p47_bad hP hE (BM_of hM.1) hk (by decide) (by decide) (by omega) 0
        · rw [if_neg z] at hk
          exact hk
/-- a clause's condition -/
def condS (ch : Nat → Nat) (p : Nat) : z_RP := if ch p = 40 then bnd (pars ch 2000 8 (p + 1) 1 []) fun p1 c1 => if ch p1 = 41 then .ok (p1 + 1, c1) else .error (1, p1) else .error (1, p)
theorem y_cond (hT : Txt ch e μ0) {K : z_M → Prop} (hE : faultOk E μ0 K) {p : Nat} {cd : List (Nat × Nat)} {μ : z_M} (h : PF e μ0 p cd μ) (hc : Cnt (condS ch p) E (fun p1 c1 => ∀ μ', PF e μ0 p1 (cd ++ c1) μ' → K μ')) : C_X12_condition μ K := by
  obtain ⟨b1, b2, b3, b4, b5, b6, b7⟩ := h
  have he := hT.1
  have h256 := hT.2.2.2.1 p
  have hM : PM e μ0 p 0 [] cd (si (si (si μ 0 50 0) 0 49 0) 0 51 0) := ⟨FrP_si (FrP_si (FrP_si b1 (by omega)) (by omega)) (by omega), by simp [si1, b2], by simp [si1, b3], by simp [si1, b4], by simp [si1]; rfl, by simp [si1]; rfl, by simp [si1], True.intro, CdK_same b5 (fun j _ => by simp [si1]), by show cd.length + 0 ≤ p; omega, b7, by decide⟩
  unfold condS at hc
  unfold C_X12_condition
  refine y_here hT hM (ifc (nI_eq (b := 40) (by omega) (by decide)) (fun q => ?_) (fun q => ?_))
  · rw [if_pos q, Cnt_bnd] at hc
    have hpe : p < e := Nat.lt_of_not_le fun z => by
      rw [hT.2.2.2.2 p z] at q
      omega
    unfold L_X12_condition_33
    refine y_good hM ?_
    rw [if_neg i10]
    refine y_opens hT hM hpe (fun _ μ' hM' => ?_) (fun z => absurd z (by decide))
    rw [q] at hM'
    intro P47 hP
    refine p47_pc hP ?_ hM'
    refine (y_con hT hP hE 2000).2.2.2.1 (p + 1) 1 [40] cd hpe (by omega) (by decide) (by decide) rfl (Cnt_mono hc (fun _ _ z => z) fun p1 c1 hk n1 n2 => ?_)
    unfold Wcl
    by_cases q2 : ch p1 = 41
    · rw [if_pos q2] at hk
      rw [if_pos q2]
      exact ⟨fun _ μ2 h2 => hk μ2 h2, fun z => absurd rfl z⟩
    · rw [if_neg q2] at hk
      rw [if_neg q2]
      exact hk
  · rw [if_neg q] at hc
    rw [hM.2.1]
    refine y_wrongs (f := 1) hM.2.2.1 ?_
    have hB := BM_of (f := 1) (a := p) hM.1
    unfold L_X12_condition_33
    refine y_bad (by decide) (by decide) (by omega) hB ?_
    rw [if_pos rfl]
    exact hE 1 p _ hc hB (by decide) (by decide) (by omega)
end YCON
