/-! The class: the reader, of expressions (2). -/
section CRDX
variable {ch : Nat → Nat} {e tx : Nat} {μ0 : z_M} {kd : z_K} {q : z_Q} {S : z_SS} {b r h : Nat}
def EV (S : z_SS) (b r h : Nat) (c : List (Nat × Nat)) (v : z_V) : Prop := ∀ st, evL S b r h c st = v :: st
def VX (a rf : Bool) (v : z_V) (cv : Int64) (rf' : Bool) : Prop := (a = false → rf' = rf) ∧ (a = true → rf = true → rf' = true) ∧ (a = true → rf = false → rf' = v.2 ∧ (v.2 = false → cv = v.1))
def HV (S : z_SS) (b r h : Nat) (kd : z_K) (q : z_Q) (μ0 : z_M) : Prop := ∀ l, ltP l → ∀ μ, SR μ0 μ → ∀ K : Int64 → z_M → Prop, K (letV S b r h l) μ → C_X8_valueOf kd q (nI l) μ K
theorem ev_one0 {n : Nat} : EV S b r h [(0, n)] (lN n, false) := fun _ => rfl
theorem ev_one1 {n : Nat} : EV S b r h [(1, n)] (letV S b r h n, false) := fun _ => rfl
theorem ev_bin {c d : List (Nat × Nat)} {x y : z_V} {op : Nat} (hc : EV S b r h c x) (hd : EV S b r h d y) (h3 : 3 ≤ op) : EV S b r h (c ++ d ++ [(op, 0)]) (evOp op x y) := fun st => by
  rw [evL_app, evL_app, hc, hd]
  show ev1 S b r h (op, 0) (y :: x :: st) = _
  unfold ev1
  rw [if_neg (by show ¬ op = 0; omega), if_neg (by show ¬ op = 1; omega), if_neg (by show ¬ op = 2; omega)]
theorem ev_not {c : List (Nat × Nat)} {x : z_V} (hc : EV S b r h c x) : EV S b r h (c ++ [(2, 0)]) (1 - x.1, x.2) := fun st => by
  rw [evL_app, hc]
  rfl
theorem c_isLetter (hT : TxC ch e tx kd q μ0) {p : Nat} {μ : z_M} {K : Int32 → z_M → Prop} (h1 : ltP (ch p) → K 1 μ) (h0 : ¬ ltP (ch p) → K 0 μ) : C_X8_isLetter kd q (sgn ch e p) μ K := by
  have s := fun n (h1 : 0 < n) (h2 : n < 256) => sgn_eq hT (p := p) h1 h2
  unfold C_X8_isLetter
  refine ifc (s 104 (by decide) (by decide)) (fun g => h1 (by unfold ltP; omega)) (fun g1 => ?_)
  refine ifc (s 105 (by decide) (by decide)) (fun g => h1 (by unfold ltP; omega)) (fun g2 => ?_)
  refine ifc (s 107 (by decide) (by decide)) (fun g => h1 (by unfold ltP; omega)) (fun g3 => ?_)
  refine ifc (s 109 (by decide) (by decide)) (fun g => h1 (by unfold ltP; omega)) (fun g4 => ?_)
  refine ifc (s 110 (by decide) (by decide)) (fun g => h1 (by unfold ltP; omega)) (fun g5 => ?_)
  refine ifc (s 111 (by decide) (by decide)) (fun g => h1 (by unfold ltP; omega)) (fun g6 => ?_)
  refine ifc (s 113 (by decide) (by decide)) (fun g => h1 (by unfold ltP; omega)) (fun g7 => ?_)
  refine ifc (s 116 (by decide) (by decide)) (fun g => h1 (by unfold ltP; omega)) (fun g8 => ?_)
  exact ifc (s 122 (by decide) (by decide)) (fun g => h1 (by unfold ltP; omega)) (fun g9 => h0 (by unfold ltP; omega))
theorem fx_factor {d p fl : Nat} {μ : z_M} (hB : BadS e μ0 fl p μ) (hd : 1 ≤ d) {K : Int64 → z_M → Prop} (hK : ∀ v, K v μ) : C_X7_factor (z_En d) kd q μ K := by
  obtain ⟨n, rfl⟩ : ∃ n, d = n + 1 := ⟨d - 1, by omega⟩
  show BC_X7_factor (z_En n) kd q μ K
  unfold BC_X7_factor
  rw [if_neg (bad_nz hB)]
  exact hK 0
theorem fx_term {d p fl : Nat} {μ : z_M} (hB : BadS e μ0 fl p μ) (hd : 2 ≤ d) {K : Int64 → z_M → Prop} (hK : ∀ v, K v μ) : C_X7_term (z_En d) kd q μ K := by
  obtain ⟨n, rfl⟩ : ∃ n, d = n + 1 := ⟨d - 1, by omega⟩
  show BC_X7_term (z_En n) kd q μ K
  unfold BC_X7_term
  refine fx_factor hB (by omega) fun v => ?_
  unfold L_X7_term_7
  intro P hP
  refine hP _ _ _ ?_
  unfold B_X7_term_7
  rw [if_neg (bad_nz hB)]
  exact ifd (fun _ => hK _) (fun _ => hK _)
theorem fx_expr {d p fl : Nat} {μ : z_M} (hB : BadS e μ0 fl p μ) (hd : 3 ≤ d) {K : Int64 → z_M → Prop} (hK : ∀ v, K v μ) : C_X7_expression (z_En d) kd q μ K := by
  obtain ⟨n, rfl⟩ : ∃ n, d = n + 1 := ⟨d - 1, by omega⟩
  show BC_X7_expression (z_En n) kd q μ K
  unfold BC_X7_expression
  refine fx_term hB (by omega) fun v => ?_
  unfold L_X7_expression_7
  intro P hP
  refine hP _ _ _ ?_
  unfold B_X7_expression_7
  rw [if_neg (bad_nz hB)]
  exact ifd (fun _ => hK _) (fun _ => hK _)
/-- what follows a good end, a fault -/
abbrev OX (ch : Nat → Nat) (e : Nat) (μ0 : z_M) (S : z_SS) (b r h o : Nat) (a rf : Bool) (K : Int64 → z_M → Prop) : Nat → List (Nat × Nat) → Prop := fun p1 c1 => ∀ v cv rf' μ', EV S b r h c1 v → VX a rf v cv rf' → GoodS ch e μ0 p1 o a rf' μ' → K cv μ'
abbrev EX (e : Nat) (μ0 : z_M) (K : Int64 → z_M → Prop) : Nat → Nat → Prop := fun fl at' => ∀ cv μ', BadS e μ0 fl at' μ' → K cv μ'
theorem vx_bin {a rf rf1 rf2 rf3 : Bool} {x y : z_V} {cv cn cw : Int64} {op : Nat} (h38 : op ≠ 38) (h124 : op ≠ 124) (hx : VX a rf x cv rf1) (hy : VX a rf1 y cn rf2) (h3 : rf3 = (rf2 || (a && decide ((op = 47 ∨ op = 37) ∧ cn = 0)))) (hw : ¬ ((op = 47 ∨ op = 37) ∧ cn = 0) → cw = workedV op cv cn) : VX a rf (evOp op x y) cw rf3 := by
  have ee : evOp op x y = (workedV op x.1 y.1, x.2 || y.2 || decide ((op = 47 ∨ op = 37) ∧ y.1 = 0)) := by
    unfold evOp
    rw [if_neg h38, if_neg h124]
  rw [ee]
  refine ⟨fun ha => ?_, fun ha hr => ?_, fun ha hr => ?_⟩
  · rw [h3, ha, Bool.false_and, Bool.or_false, hy.1 ha, hx.1 ha]
  · rw [h3, hy.2.1 ha (hx.2.1 ha hr)]
    rfl
  · obtain ⟨x1, x2⟩ := hx.2.2 ha hr
    dsimp only
    cases ex : x.2 with
    | true =>
      rw [ex] at x1
      rw [h3, hy.2.1 ha x1]
      exact ⟨rfl, fun z => Bool.noConfusion z⟩
    | false =>
      rw [ex] at x1 x2
      obtain ⟨y1, y2⟩ := hy.2.2 ha x1
      cases ey : y.2 with
      | true =>
        rw [ey] at y1
        rw [h3, y1]
        exact ⟨rfl, fun z => Bool.noConfusion z⟩
      | false =>
        rw [ey] at y1 y2
        have ecn := y2 rfl
        have ecv := x2 rfl
        rw [h3, y1, ha, ← ecn, ← ecv]
        refine ⟨by simp, fun z => hw fun w => ?_⟩
        rw [decide_eq_true w] at z
        exact Bool.noConfusion z
theorem c_rdx (hT : TxC ch e tx kd q μ0) : ∀ f,
    (∀ d p o a rf K, (a = true → HV S b r h kd q μ0) → 8 * (e + 1 - p) + 1 ≤ f → 3 * (6 - o) + 4 ≤ d → Cnt (pars ch f 0 p o []) (EX e μ0 K) (OX ch e μ0 S b r h o a rf K) → ∀ μ, GoodS ch e μ0 p o a rf μ → C_X7_factor (z_En d) kd q μ K) ∧
    (∀ d p o a rf K, (a = true → HV S b r h kd q μ0) → 8 * (e + 1 - p) + 2 ≤ f → 3 * (6 - o) + 5 ≤ d → Cnt (pars ch f 1 p o []) (EX e μ0 K) (OX ch e μ0 S b r h o a rf K) → ∀ μ, GoodS ch e μ0 p o a rf μ → C_X7_term (z_En d) kd q μ K) ∧
    (∀ d p o a rf rf1 K (P : Int64 → Int32 → z_M → Prop) acc x cv i, (∀ v1 v3 μ, B_X7_term_7 (z_En d) kd q K P v1 v3 μ → P v1 v3 μ) → (a = true → HV S b r h kd q μ0) → 8 * (e + 1 - p) + 1 ≤ f → 3 * (6 - o) + 4 ≤ d → i ≤ p → EV S b r h acc x → depOk acc → VX a rf x cv rf1 → Cnt (pars ch f 2 p o acc) (EX e μ0 K) (OX ch e μ0 S b r h o a rf K) → ∀ μ, GoodS ch e μ0 p o a rf1 μ → P cv (nI i) μ) ∧
    (∀ d p o a rf K, (a = true → HV S b r h kd q μ0) → 8 * (e + 1 - p) + 3 ≤ f → 3 * (6 - o) + 6 ≤ d → Cnt (pars ch f 3 p o []) (EX e μ0 K) (OX ch e μ0 S b r h o a rf K) → ∀ μ, GoodS ch e μ0 p o a rf μ → C_X7_expression (z_En d) kd q μ K) ∧
    (∀ d p o a rf rf1 K (P : Int64 → Int32 → z_M → Prop) acc x cv i, (∀ v1 v3 μ, B_X7_expression_7 (z_En d) kd q K P v1 v3 μ → P v1 v3 μ) → (a = true → HV S b r h kd q μ0) → 8 * (e + 1 - p) + 1 ≤ f → 3 * (6 - o) + 5 ≤ d → i ≤ p → EV S b r h acc x → depOk acc → VX a rf x cv rf1 → Cnt (pars ch f 4 p o acc) (EX e μ0 K) (OX ch e μ0 S b r h o a rf K) → ∀ μ, GoodS ch e μ0 p o a rf1 μ → P cv (nI i) μ) := by
  have he := hT.2.2.2.1
  have h256 := hT.2.2.2.2.2.2.1
  have hz := hT.2.2.2.2.2.2.2.1
  have adv := fun f m p o acc hp hm hacc => pars_adv (ch := ch) (e := e) hz h256 f m p o acc hp hm hacc
  intro f
  induction f with
  | zero => exact ⟨fun d p o a rf K _ h => by omega, fun d p o a rf K _ h => by omega, fun d p o a rf rf1 K P acc x cv i _ _ h => by omega, fun d p o a rf K _ h => by omega, fun d p o a rf rf1 K P acc x cv i _ _ h => by omega⟩
  | succ f ih =>
    obtain ⟨i0, i1, i2, i3, i4⟩ := ih
    refine ⟨fun d p o a rf K hv hf hd hc μ hG => ?_, fun d p o a rf K hv hf hd hc μ hG => ?_, fun d p o a rf rf1 K P acc x cv i hP hv hf hd hi hx hdp hvx hc μ hG => ?_, fun d p o a rf K hv hf hd hc μ hG => ?_, fun d p o a rf rf1 K P acc x cv i hP hv hf hd hi hx hdp hvx hc μ hG => ?_⟩
    · obtain ⟨n, rfl⟩ : ∃ n, d = n + 1 := ⟨d - 1, by omega⟩
      show BC_X7_factor (z_En n) kd q μ K
      have hpe := hG.2.2.2.2.2.2.2.1
      have ho := hG.2.2.2.2.2.2.2.2
      rw [ps0] at hc
      unfold BC_X7_factor
      rw [hG.2.2.2.2.1, if_pos rfl, hG.2.2.1]
      refine ifc (sgn_eq hT (n := 91) (by decide) (by decide)) (fun g => ?_) (fun g => ?_)
      · rw [if_pos g] at hc
        have hp := ch_lt hT (p := p) (by omega)
        refine c_openOne hT hG hp (fun g6 μ1 h1 => ?_) (fun g6 μ1 h1 => ?_)
        · rw [if_neg (by omega), Cnt_bnd] at hc
          refine i3 n (p + 1) (o + 1) a rf _ hv (by omega) (by omega) (Cnt_mono hc (fun fl at' hE cv μ' hB => ?_) (fun p1 c1 hk v cv rf' μ' ev vx hG' => ?_)) μ1 h1
          · refine c_passB hB (hE cv _ (bad_si hB (Or.inl rfl)))
          · refine c_pass hT hG' (n := 93) (by decide) (by decide) (fun gc μ2 h2 => ?_) (fun gc μ2 h2 => ?_)
            · rw [if_pos gc] at hk
              rw [h2.2.2.2.1, show (1 : Int32) = nI 1 from rfl, pk_sub (by omega), Nat.add_sub_cancel]
              exact hk v cv rf' _ ev vx (good_open h2 ho)
            · rw [if_neg gc] at hk
              exact hk cv _ (bad_si h2 (Or.inl rfl))
        · rw [if_pos g6] at hc
          exact fx_expr h1 (by omega) fun v => c_passB h1 (hc v _ (bad_si h1 (Or.inl rfl)))
      · rw [if_neg g] at hc
        have letter : ¬ dgP (ch p) → L_X7_factor_74 (z_En n) kd q K 0 μ := fun gd => by
          rw [if_neg gd] at hc
          unfold L_X7_factor_74
          rw [hG.2.2.1]
          refine c_isLetter hT (fun gl => ?_) (fun gl => ?_)
          · rw [if_pos gl] at hc
            have hp := ch_lt hT (p := p) (by omega)
            rw [if_neg i10, hG.2.2.2.2.2.1, hG.2.2.2.2.2.2.1]
            unfold L_X7_factor_112 L_X7_factor_113
            have skip : (a = true → rf = true) → C_X7_advance kd q μ (fun μ1 => K 0 μ1) := fun ha => c_adv hT hG hp fun μ1 h1 => hc _ 0 rf μ1 ev_one1 ⟨fun _ => rfl, fun _ z => z, fun z w => by
              rw [ha z] at w
              exact Bool.noConfusion w⟩ h1
            cases ea : a with
            | false =>
              subst ea
              rw [if_pos (show nI (b2n false) = 0 from rfl)]
              exact skip fun z => Bool.noConfusion z
            | true =>
              subst ea
              rw [if_neg (show ¬ nI (b2n true) = 0 by decide)]
              cases er : rf with
              | true =>
                subst er
                rw [if_neg (show ¬ nI (b2n true) = 0 by decide)]
                exact skip fun _ => rfl
              | false =>
                subst er
                rw [if_pos (show nI (b2n false) = 0 from rfl)]
                have es : sgn ch e p = nI (ch p) := by
                  unfold sgn
                  rw [if_pos hp]
                rw [hG.2.2.1, es]
                refine hv rfl (ch p) gl μ hG.1 _ ?_
                exact c_adv hT hG hp fun μ1 h1 => hc _ _ false μ1 ev_one1 ⟨fun z => Bool.noConfusion z, fun _ z => z, fun _ _ => ⟨rfl, fun _ => rfl⟩⟩ h1
          · rw [if_neg gl] at hc
            rw [if_pos rfl]
            exact c_fail (fl := 1) hG (by decide) (by decide) fun μ1 h1 => hc 0 μ1 h1
        refine ifc (sgn_lt hT (n := 48) (by decide) (by decide)) (fun g1 => letter (by omega)) (fun g1 => ?_)
        refine ifc (sgn_gt hT (n := 57) (by decide)) (fun g2 => letter (by omega)) (fun g2 => ?_)
        rw [if_pos (show dgP (ch p) from ⟨by omega, by omega⟩)] at hc
        refine c_number hT hG (Cnt_mono hc (fun _ _ z => z) fun p1 c1 hk v μ' ec h1 => ?_)
        subst ec
        exact hk _ _ rf μ' ev_one0 ⟨fun _ => rfl, fun _ z => z, fun _ z => ⟨z, fun _ => rfl⟩⟩ h1
    · obtain ⟨n, rfl⟩ : ∃ n, d = n + 1 := ⟨d - 1, by omega⟩
      show BC_X7_term (z_En n) kd q μ K
      have hpe := hG.2.2.2.2.2.2.2.1
      rw [ps1, Cnt_bnd] at hc
      unfold BC_X7_term
      refine i0 n p o a rf _ hv (by omega) (by omega) (Cnt_mono (Cnt_use hc (adv f 0 p o [] hpe (by decide) (fun z => absurd z (by decide)))) (fun fl at' hE cv μ' hB => ?_) (fun p1 c1 hk v cv rf' μ' ev vx hG' => ?_)) μ hG
      · unfold L_X7_term_7
        intro P hP
        refine hP _ _ _ ?_
        unfold B_X7_term_7
        rw [if_neg (bad_nz hB)]
        exact ifd (fun _ => hE cv μ' hB) (fun _ => hE cv μ' hB)
      · obtain ⟨ha, hk⟩ := hk
        have hp1 := ha.2.2.1 (by decide)
        unfold L_X7_term_7
        intro P hP
        exact i2 n p1 o a rf rf' K P c1 v cv 0 hP hv (by omega) (by omega) (Nat.zero_le _) ev ha.2.2.2 vx hk μ' hG'
    · have hpe := hG.2.2.2.2.2.2.2.1
      rw [ps2] at hc
      refine hP _ _ _ ?_
      unfold B_X7_term_7
      have out : ¬ tmP (ch p) → K cv μ := fun g => by
        rw [if_neg g] at hc
        exact hc x cv rf1 μ hx hvx hG
      refine ifc (nI_leI (a := 160) (by decide) (by omega)) (fun g => out (by rw [hz p (by omega)]; decide)) (fun g => ?_)
      rw [hG.2.2.2.2.1, if_pos rfl, hG.2.2.1]
      have op : tmP (ch p) → L_X7_term_48 (z_En d) kd q K P cv (nI i) μ := fun gt => by
        rw [if_pos gt, Cnt_bnd] at hc
        have hp := ch_lt hT (p := p) (by rcases gt with z | z | z <;> omega)
        unfold L_X7_term_48
        rw [hG.2.2.1]
        refine c_adv hT hG hp fun μ1 h1 => ?_
        refine i0 d (p + 1) o a rf1 _ hv (by omega) (by omega) (Cnt_mono (Cnt_use hc (adv f 0 (p + 1) o [] hp (by decide) (fun z => absurd z (by decide)))) (fun fl at' hE cn μ' hB => ?_) (fun p1 c1 hk y cn rf2 μ2 ev vx hG2 => ?_)) μ1 h1
        · have bad : ∀ w μ'', BadS e μ0 fl at' μ'' → P w (nI i + 1) μ'' := fun w μ'' hB' => by
            refine hP _ _ _ ?_
            unfold B_X7_term_7
            rw [if_neg (bad_nz hB')]
            exact ifd (fun _ => hE w _ hB') (fun _ => hE w _ hB')
          refine ifd (fun _ => bad _ _ hB) (fun _ => ifd (fun _ => ?_) (fun gz => ?_))
          · refine ifd (fun _ => ifd (fun _ => bad _ _ (bad_si hB (Or.inr (Or.inr rfl)))) (fun _ => bad _ _ (bad_si hB (Or.inr (Or.inr rfl))))) (fun _ => bad _ _ (bad_si hB (Or.inr (Or.inr rfl))))
          · exact ifd (fun _ => ⟨gz, bad _ _ hB⟩) (fun _ => ⟨gz, bad _ _ hB⟩)
        · obtain ⟨ha, hk⟩ := hk
          have hp1 := ha.2.2.1 (by decide)
          have hp1e := ha.2.1
          have go : ∀ cw rf3 μ3, rf3 = (rf2 || (a && decide ((ch p = 47 ∨ ch p = 37) ∧ cn = 0))) → (¬ ((ch p = 47 ∨ ch p = 37) ∧ cn = 0) → cw = workedV (ch p) cv cn) → GoodS ch e μ0 p1 o a rf3 μ3 → P cw (nI i + 1) μ3 := fun cw rf3 μ3 e1 e2 hG3 => by
            rw [nI_1]
            exact i2 d p1 o a rf rf3 K P (acc ++ c1 ++ [(ch p, 0)]) (evOp (ch p) x y) cw (i + 1) hP hv (by omega) (by omega) (by omega) (ev_bin hx ev (by omega)) (dep_bin hdp ha.2.2.2 (by omega) (h256 p)) (vx_bin (by omega) (by omega) hvx vx e1 e2) hk μ3 hG3
          refine ifc (sgn_eq hT (n := 42) (by decide) (by decide)) (fun g42 => ?_) (fun g42 => ?_)
          · refine go _ rf2 μ2 ?_ (fun _ => ?_) hG2
            · rw [decide_eq_false (fun z => by omega), Bool.and_false, Bool.or_false]
            · unfold workedV
              rw [if_neg (by omega), if_pos g42]
          · refine ifd (fun gz => ?_) (fun gz => ?_)
            · have hop : (ch p = 47 ∨ ch p = 37) ∧ cn = 0 := ⟨by rcases gt with z | z | z <;> omega, gz⟩
              rw [hG2.2.2.2.2.2.2.1, hG2.2.2.2.2.2.1]
              cases er : rf2 with
              | true =>
                rw [if_neg (show ¬ nI (b2n true) = 0 by decide)]
                exact go _ true _ (by rw [er]; rfl) (fun z => absurd hop z) (good_ref hG2)
              | false =>
                rw [if_pos (show nI (b2n false) = 0 from rfl)]
                cases ea : a with
                | true =>
                  rw [if_neg (show ¬ nI (b2n true) = 0 by decide)]
                  exact go _ true _ (by rw [er, ea, decide_eq_true hop]; rfl) (fun z => absurd hop z) (good_ref hG2)
                | false =>
                  rw [if_pos (show nI (b2n false) = 0 from rfl)]
                  exact go _ false _ (by rw [er, ea]; rfl) (fun z => absurd hop z) (good_ref hG2)
            · have nop : ¬ ((ch p = 47 ∨ ch p = 37) ∧ cn = 0) := fun z => gz z.2
              refine ifc (sgn_eq hT (n := 47) (by decide) (by decide)) (fun g47 => ⟨gz, go _ rf2 μ2 ?_ (fun _ => ?_) hG2⟩) (fun g47 => ⟨gz, go _ rf2 μ2 ?_ (fun _ => ?_) hG2⟩)
              · rw [decide_eq_false nop, Bool.and_false, Bool.or_false]
              · unfold workedV
                rw [if_neg (by omega), if_neg (by omega), if_neg (by omega), if_neg (by omega), if_pos g47, if_neg gz]
              · rw [decide_eq_false nop, Bool.and_false, Bool.or_false]
              · unfold workedV
                rw [if_pos (by rcases gt with z | z | z <;> omega), if_neg gz]
      refine ifc (sgn_eq hT (n := 42) (by decide) (by decide)) (fun g1 => op (Or.inl g1)) (fun g1 => ?_)
      refine ifc (sgn_eq hT (n := 47) (by decide) (by decide)) (fun g2 => op (Or.inr (Or.inl g2))) (fun g2 => ?_)
      exact ifc (sgn_eq hT (n := 37) (by decide) (by decide)) (fun g3 => op (Or.inr (Or.inr g3))) (fun g3 => out (fun z => z.elim g1 fun z => z.elim g2 g3))
    · obtain ⟨n, rfl⟩ : ∃ n, d = n + 1 := ⟨d - 1, by omega⟩
      show BC_X7_expression (z_En n) kd q μ K
      have hpe := hG.2.2.2.2.2.2.2.1
      rw [ps3, Cnt_bnd] at hc
      unfold BC_X7_expression
      refine i1 n p o a rf _ hv (by omega) (by omega) (Cnt_mono (Cnt_use hc (adv f 1 p o [] hpe (by decide) (fun z => absurd z (by decide)))) (fun fl at' hE cv μ' hB => ?_) (fun p1 c1 hk v cv rf' μ' ev vx hG' => ?_)) μ hG
      · unfold L_X7_expression_7
        intro P hP
        refine hP _ _ _ ?_
        unfold B_X7_expression_7
        rw [if_neg (bad_nz hB)]
        exact ifd (fun _ => hE cv μ' hB) (fun _ => hE cv μ' hB)
      · obtain ⟨ha, hk⟩ := hk
        have hp1 := ha.2.2.1 (by decide)
        unfold L_X7_expression_7
        intro P hP
        exact i4 n p1 o a rf rf' K P c1 v cv 0 hP hv (by omega) (by omega) (Nat.zero_le _) ev ha.2.2.2 vx hk μ' hG'
    · have hpe := hG.2.2.2.2.2.2.2.1
      rw [ps4] at hc
      refine hP _ _ _ ?_
      unfold B_X7_expression_7
      have out : ¬ plP (ch p) → K cv μ := fun g => by
        rw [if_neg g] at hc
        exact hc x cv rf1 μ hx hvx hG
      refine ifc (nI_leI (a := 160) (by decide) (by omega)) (fun g => out (by rw [hz p (by omega)]; decide)) (fun g => ?_)
      rw [hG.2.2.2.2.1, if_pos rfl, hG.2.2.1]
      have op : plP (ch p) → L_X7_expression_39 (z_En d) kd q K P cv (nI i) μ := fun gt => by
        rw [if_pos gt, Cnt_bnd] at hc
        have hp := ch_lt hT (p := p) (by rcases gt with z | z <;> omega)
        unfold L_X7_expression_39
        rw [hG.2.2.1]
        refine c_adv hT hG hp fun μ1 h1 => ?_
        refine i1 d (p + 1) o a rf1 _ hv (by omega) (by omega) (Cnt_mono (Cnt_use hc (adv f 1 (p + 1) o [] hp (by decide) (fun z => absurd z (by decide)))) (fun fl at' hE cn μ' hB => ?_) (fun p1 c1 hk y cn rf2 μ2 ev vx hG2 => ?_)) μ1 h1
        · have bad : ∀ w, P w (nI i + 1) μ' := fun w => by
            refine hP _ _ _ ?_
            unfold B_X7_expression_7
            rw [if_neg (bad_nz hB)]
            exact ifd (fun _ => hE w _ hB) (fun _ => hE w _ hB)
          exact ifd (fun _ => bad _) (fun _ => bad _)
        · obtain ⟨ha, hk⟩ := hk
          have hp1 := ha.2.2.1 (by decide)
          have hp1e := ha.2.1
          have go : ∀ cw, cw = workedV (ch p) cv cn → P cw (nI i + 1) μ2 := fun cw e2 => by
            rw [nI_1]
            refine i4 d p1 o a rf rf2 K P (acc ++ c1 ++ [(ch p, 0)]) (evOp (ch p) x y) cw (i + 1) hP hv (by omega) (by omega) (by omega) (ev_bin hx ev (by omega)) (dep_bin hdp ha.2.2.2 (by omega) (h256 p)) (vx_bin (by omega) (by omega) hvx vx ?_ (fun _ => e2)) hk μ2 hG2
            rw [decide_eq_false (fun z => by omega), Bool.and_false, Bool.or_false]
          refine ifc (sgn_eq hT (n := 43) (by decide) (by decide)) (fun g43 => go _ ?_) (fun g43 => go _ ?_)
          · unfold workedV
            rw [if_neg (by omega), if_neg (by omega), if_pos g43]
          · have g45 : ch p = 45 := by omega
            unfold workedV
            rw [if_neg (by omega), if_neg (by omega), if_neg (by omega), if_pos g45]
      refine ifc (sgn_eq hT (n := 43) (by decide) (by decide)) (fun g1 => op (Or.inl g1)) (fun g1 => ?_)
      exact ifc (sgn_eq hT (n := 45) (by decide) (by decide)) (fun g2 => op (Or.inr g2)) (fun g2 => out (fun z => z.elim g1 g2))
end CRDX
