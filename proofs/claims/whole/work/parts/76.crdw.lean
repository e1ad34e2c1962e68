/-! The class: the reader, of clauses. -/
section CRDW
variable {ch : Nat → Nat} {e tx : Nat} {μ0 : z_M} {kd : z_K} {q : z_Q} {S : z_SS} {b r h : Nat}
def ClSt (ch : Nat → Nat) (e : Nat) (μ0 : z_M) (p : Nat) (μ : z_M) : Prop := SR μ0 μ ∧ μ.1 10 3 = nI p ∧ μ.1 10 4 = sgn ch e p ∧ μ.1 10 6 = 0 ∧ p ≤ e
theorem GoodS.cl {p o : Nat} {a rf : Bool} {μ : z_M} (h : GoodS ch e μ0 p o a rf μ) : ClSt ch e μ0 p μ := ⟨h.1, h.2.1, h.2.2.1, h.2.2.2.2.1, h.2.2.2.2.2.2.2.1⟩
theorem cl_si {p k : Nat} {v : Int32} {μ : z_M} (h : ClSt ch e μ0 p μ) (hk : k = 5 ∨ k = 7 ∨ k = 8) : ClSt ch e μ0 p (si μ 10 k v) := ⟨SR_si h.1 (by omega) (by omega), by rw [si1, if_neg (by omega)]; exact h.2.1, by rw [si1, if_neg (by omega)]; exact h.2.2.1, by rw [si1, if_neg (by omega)]; exact h.2.2.2.1, h.2.2.2.2⟩
theorem cl_adv (hT : TxC ch e tx kd q μ0) {p : Nat} {μ : z_M} (h : ClSt ch e μ0 p μ) (hp : p < e) {K : z_M → Prop} (hK : ∀ μ', ClSt ch e μ0 (p + 1) μ' → K μ') : C_X7_advance kd q μ K := by
  obtain ⟨g1, g2, g3, g4, g5⟩ := h
  refine c_advTo hT (p' := p + 1) g1 (by rw [g2]; exact nI_1 p) hp (hK _ ⟨SR_si (SR_si g1 (by decide) (by decide)) (by decide) (by decide), ?_, ?_, ?_, hp⟩)
  · rw [si1, if_neg (by omega), si1, if_pos ⟨rfl, rfl⟩]
  · rw [si1, if_pos ⟨rfl, rfl⟩]
  · rw [si1, if_neg (by omega), si1, if_neg (by omega)]; exact g4
theorem cl_fail {p fl : Nat} {μ : z_M} (h : ClSt ch e μ0 p μ) (h1 : 1 ≤ fl) (h2 : fl ≤ 9) {K : z_M → Prop} (hK : ∀ μ', BadS e μ0 fl p μ' → K μ') : C_X7_fail kd q (nI fl) μ K := by
  obtain ⟨g1, g2, g3, g4, g5⟩ := h
  unfold C_X7_fail
  rw [g4, if_pos rfl]
  exact hK _ ⟨SR_si g1 (by decide) (by decide), by rw [si1, if_neg (by omega)]; exact g2, by rw [si1, if_pos ⟨rfl, rfl⟩], h1, h2, g5⟩
theorem cl_pass (hT : TxC ch e tx kd q μ0) {p n : Nat} {μ : z_M} (hG : ClSt ch e μ0 p μ) (h0 : 0 < n) (h1 : n < 256) {K : z_M → Prop} (hy : ch p = n → ∀ μ', ClSt ch e μ0 (p + 1) μ' → K μ') (hn : ch p ≠ n → ∀ μ', BadS e μ0 1 p μ' → K μ') : C_X7_pass kd q (nI n) μ K := by
  unfold C_X7_pass
  rw [hG.2.2.2.1, if_pos rfl, hG.2.2.1]
  refine ifc (sgn_eq hT h0 h1) (fun g => ?_) (fun g => ?_)
  · exact cl_adv hT hG (ch_lt hT (by omega)) (hy g)
  · exact cl_fail (fl := 1) hG (by decide) (by decide) (hn g)
theorem fx_102 {p fl : Nat} {v2 v3 v4 : Int32} {μ : z_M} (hB : BadS e μ0 fl p μ) {K : z_M → Prop} (hK : ∀ μ', BadS e μ0 fl p μ' → K μ') : L_X7_clause_102 kd q K v2 v3 v4 μ := by
  have hB1 := bad_si (v := 0) (bad_si (v := v2) (bad_si (v := 0) hB (Or.inl rfl)) (Or.inr (Or.inl rfl))) (Or.inr (Or.inr rfl))
  unfold L_X7_clause_102 C_X7_openOne
  rw [if_neg (bad_nz hB1)]
  refine fx_cond (d := 40) hB1 (by decide) fun v => c_passB hB1 ?_
  have hB2 := bad_si (v := ((si (si (si μ 10 5 0) 10 7 v2) 10 8 0).1 10 5) - 1) hB1 (Or.inl rfl)
  refine ifd (fun _ => hK _ hB2) (fun _ => ?_)
  rw [if_neg (bad_nz hB2)]
  exact hK _ hB2
theorem fx_clause {p fl : Nat} {v1 v2 : Int32} {μ : z_M} (hB : BadS e μ0 fl p μ) {K : z_M → Prop} (hK : K μ) : C_X7_clause kd q v1 v2 μ K := by
  unfold C_X7_clause L_X7_clause_35 L_X7_clause_53
  rw [if_neg (bad_nz hB), if_neg (bad_nz hB), if_neg (bad_nz hB)]
  exact hK
theorem holds_is {cd : List (Nat × Nat)} {v : z_V} (hev : EV S b r h cd v) : holdsS S b r h cd = (!v.2 && decide (v.1 = 1)) := by
  unfold holdsS
  rw [hev []]
theorem c_102 (hT : TxC ch e tx kd q μ0) {p : Nat} {a : Bool} {l n : Nat} {μ : z_M} (hC : ClSt ch e μ0 p μ) (hv : a = true → HV S b r h kd q μ0) (g40 : ch p = 40) {K : z_M → Prop} (hc : Cnt (condS ch p) (fun fl at' => ∀ μ', BadS e μ0 fl at' μ' → K μ') (fun p1 cd => ∀ μ', ClSt ch e μ0 p1 μ' → (a = false → K μ') ∧ (a = true → if holdsS S b r h cd = true then C_X8_move kd q (nI l) (nI n) μ' K else K μ'))) : L_X7_clause_102 kd q K (nI (b2n a)) (nI l) (nI n) μ := by
  have he := hT.2.2.2.1
  have hp := ch_lt hT (p := p) (by omega)
  have hG : GoodS ch e μ0 p 0 a false (si (si (si μ 10 5 0) 10 7 (nI (b2n a))) 10 8 0) := by
    obtain ⟨g1, g2, g3, g4, g5⟩ := hC
    refine ⟨SR_si (SR_si (SR_si g1 (by decide) (by decide)) (by decide) (by decide)) (by decide) (by decide), ?_, ?_, ?_, ?_, ?_, ?_, g5, by decide⟩
    · rw [si1, if_neg (by omega), si1, if_neg (by omega), si1, if_neg (by omega)]; exact g2
    · rw [si1, if_neg (by omega), si1, if_neg (by omega), si1, if_neg (by omega)]; exact g3
    · rw [si1, if_neg (by omega), si1, if_neg (by omega), si1, if_pos ⟨rfl, rfl⟩]; rfl
    · rw [si1, if_neg (by omega), si1, if_neg (by omega), si1, if_neg (by omega)]; exact g4
    · rw [si1, if_neg (by omega), si1, if_pos ⟨rfl, rfl⟩]
    · rw [si1, if_pos ⟨rfl, rfl⟩]; rfl
  have z0 : nI (b2n false) = 0 := rfl
  have z1 : ¬ nI (b2n true) = 0 := by decide
  have bad : ∀ {fl at' : Nat} {μ4 : z_M} {r3 : Int32}, BadS e μ0 fl at' μ4 → (∀ μ', BadS e μ0 fl at' μ' → K μ') → (if nI (b2n a) = 0 then K (si μ4 10 5 ((μ4.1 10 5) - 1)) else (if (si μ4 10 5 ((μ4.1 10 5) - 1)).1 10 6 = 0 then (if r3 = 0 then K (si μ4 10 5 ((μ4.1 10 5) - 1)) else (if (si μ4 10 5 ((μ4.1 10 5) - 1)).1 10 8 = 0 then C_X8_move kd q (nI l) (nI n) (si μ4 10 5 ((μ4.1 10 5) - 1)) (fun μ5 => K μ5) else K (si μ4 10 5 ((μ4.1 10 5) - 1)))) else K (si μ4 10 5 ((μ4.1 10 5) - 1)))) := fun {fl at' μ4 r3} hB hE => by
    have hB2 := bad_si (v := (μ4.1 10 5) - 1) hB (Or.inl rfl)
    refine ifd (fun _ => hE _ hB2) (fun _ => ?_)
    rw [if_neg (bad_nz hB2)]
    exact hE _ hB2
  unfold condS at hc
  rw [if_pos g40, Cnt_bnd] at hc
  unfold L_X7_clause_102
  refine c_openOne hT hG hp (fun _ μ1 h1 => ?_) (fun g => absurd g (by decide))
  refine (c_rdc (S := S) (b := b) (r := r) (h := h) hT 2000).2.2.2.1 40 (p + 1) 1 a false _ hv (by omega) (by decide) (Cnt_mono hc (fun fl at' hE cv μ' hB => c_passB hB (bad hB hE)) (fun p1 c1 hk v cb rf' μ' ev vx hG' => ?_)) μ1 h1
  refine c_pass hT hG' (n := 41) (by decide) (by decide) (fun gc μ2 h2 => ?_) (fun gc μ2 h2 => ?_)
  · rw [if_pos gc] at hk
    have h3 := good_open (o' := 0) h2 (by decide)
    rw [h2.2.2.2.1, show nI 1 - 1 = nI 0 from rfl]
    obtain ⟨k1, k2⟩ := hk _ h3.cl
    cases a with
    | false =>
      rw [if_pos z0]
      exact k1 rfl
    | true =>
      have k3 := k2 rfl
      rw [holds_is ev] at k3
      obtain ⟨w1, w2⟩ := vx.2.2 rfl rfl
      rw [if_neg z1, h3.2.2.2.2.1, if_pos rfl, h3.2.2.2.2.2.2.1]
      cases ev2 : v.2 with
      | true =>
        rw [ev2] at k3 w1
        rw [Bool.not_true, Bool.false_and, if_neg (by decide)] at k3
        rw [w1, if_neg z1]
        exact ifd (fun _ => k3) (fun _ => k3)
      | false =>
        have w3 := w2 ev2
        rw [ev2] at k3 w1
        rw [Bool.not_false, Bool.true_and, w3] at k3
        rw [w1, if_pos z0]
        cases cb with
        | false =>
          rw [if_pos z0]
          rw [if_neg (by decide)] at k3
          exact k3
        | true =>
          rw [if_neg z1]
          rw [if_pos (by decide)] at k3
          exact k3
  · rw [if_neg gc] at hk
    exact bad h2 hk
def CntC (x : Except (Nat × Nat) (Nat × z_C1)) (E : Nat → Nat → Prop) (K : Nat → z_C1 → Prop) : Prop := match x with
  | .error y => E y.1 y.2
  | .ok y => K y.1 y.2
theorem c_79 (hT : TxC ch e tx kd q μ0) {p : Nat} {a : Bool} {l n : Nat} {μ : z_M} (hC : ClSt ch e μ0 p μ) (hv : a = true → HV S b r h kd q μ0) {K : z_M → Prop} (hc : CntC (clC ch l n p) (fun fl at' => ∀ μ', BadS e μ0 fl at' μ' → K μ') (fun p1 c => ∀ μ', ClSt ch e μ0 p1 μ' → (a = false → K μ') ∧ (a = true → if holdsS S b r h c.2.2 = true then C_X8_move kd q (nI c.1) (nI c.2.1) μ' K else K μ'))) : L_X7_clause_79 kd q K (nI (b2n a)) (nI l) (nI n) μ := by
  have hc2 : Cnt (condS ch p) (fun fl at' => ∀ μ', BadS e μ0 fl at' μ' → K μ') (fun p1 cd => ∀ μ', ClSt ch e μ0 p1 μ' → (a = false → K μ') ∧ (a = true → if holdsS S b r h cd = true then C_X8_move kd q (nI l) (nI n) μ' K else K μ')) := by
    unfold clC at hc
    cases ec : condS ch p with
    | error y => rw [ec] at hc; exact hc
    | ok y => rw [ec] at hc; exact hc
  unfold L_X7_clause_79
  rw [hC.2.2.2.1, if_pos rfl, hC.2.2.1]
  refine ifc (sgn_eq hT (n := 40) (by decide) (by decide)) (fun g => ?_) (fun g => ?_)
  · exact c_102 hT hC hv g hc2
  · unfold condS at hc2
    rw [if_neg g] at hc2
    exact cl_fail (fl := 1) hC (by decide) (by decide) fun μ1 h1 => fx_102 h1 fun μ2 h2 => hc2 μ2 h2
theorem c_clause (hT : TxC ch e tx kd q μ0) {p k : Nat} {a : Bool} {μ : z_M} (hk : k ≤ 12) (hC : ClSt ch e μ0 p μ) (hv : a = true → HV S b r h kd q μ0) {K : z_M → Prop} (hc : CntC (clS ch k p) (fun fl at' => ∀ μ', BadS e μ0 fl at' μ' → K μ') (fun p1 c => ∀ μ', ClSt ch e μ0 p1 μ' → (a = false → K μ') ∧ (a = true → if holdsS S b r h c.2.2 = true then C_X8_move kd q (nI c.1) (nI c.2.1) μ' K else K μ'))) : C_X7_clause kd q (nI k) (nI (b2n a)) μ K := by
  have t6 := hT.2.2.2.2.2.2.1
  have fx79 : ∀ {v3 t0 : Int32} {fl p' : Nat} {μ' : z_M}, BadS e μ0 fl p' μ' → (∀ μ'', BadS e μ0 fl p' μ'' → K μ'') → L_X7_clause_79 kd q K (nI (b2n a)) v3 t0 μ' := fun hB hE => by
    unfold L_X7_clause_79
    rw [if_neg (bad_nz hB)]
    exact fx_102 hB hE
  unfold clS at hc
  unfold C_X7_clause
  rw [hC.2.2.2.1, if_pos rfl, hC.2.2.1]
  have go : (ch p = 115 ∨ ch p = 108 ∨ ch p = 99) → L_X7_clause_35 kd q K (nI k) (nI (b2n a)) (sgn ch e p) μ := fun gl => by
    rw [if_pos gl] at hc
    have hp := ch_lt hT (p := p) (by omega)
    have es : sgn ch e p = nI (ch p) := by
      unfold sgn
      rw [if_pos hp]
    have hb := t6 p
    rw [es]
    unfold L_X7_clause_35 L_X7_clause_53
    rw [hC.2.2.2.1, if_pos rfl, if_pos rfl]
    refine ifc (nI_ltI (b := 12) (by omega) (by decide)) (fun g12 => ?_) (fun g12 => ?_)
    · rw [if_neg (show ¬ k = 12 by omega)] at hc
      refine cl_adv hT hC hp fun μ1 h1 => ?_
      refine ifc (nI_eq (b := 99) (by omega) (by decide)) (fun g99 => ?_) (fun g99 => ?_)
      · rw [if_pos g99] at hc
        rw [g99]
        exact c_79 (n := 0) hT h1 hv hc
      · rw [if_neg g99] at hc
        unfold C_X7_stepsToMove L_X7_stepsToMove_18
        have hb1 := t6 (p + 1)
        rw [h1.2.2.1]
        by_cases gd : dgP (ch (p + 1))
        · rw [if_pos gd] at hc
          have hp1 := ch_lt hT (p := p + 1) (by omega)
          have es1 : sgn ch e (p + 1) - 48 = nI (ch (p + 1) - 48) := by
            unfold sgn
            rw [if_pos hp1, show (48 : Int32) = nI 48 from rfl, pk_sub gd.1]
          rw [es1, if_neg (Int32.not_lt.mpr (nI_pos' (by omega)))]
          refine ifc (nI_leI (b := 9) (by omega) (by decide)) (fun _ => ?_) (fun z => absurd (show ch (p + 1) - 48 ≤ 9 by omega) z)
          refine ifc (nI_eq (b := 0) (by omega) (by decide)) (fun g0 => ?_) (fun g0 => ?_)
          · rw [if_pos (show ch (p + 1) = 48 by omega)] at hc
            exact cl_fail (fl := 3) h1 (by decide) (by decide) fun μ2 h2 => fx79 h2 fun μ3 h3 => hc μ3 h3
          · rw [if_neg (show ¬ ch (p + 1) = 48 by omega)] at hc
            exact cl_adv hT h1 hp1 fun μ2 h2 => c_79 hT h2 hv hc
        · rw [if_neg gd] at hc
          have f1 : ∀ w, C_X7_fail kd q 1 μ1 (fun μ2 => L_X7_clause_79 kd q K (nI (b2n a)) (nI (ch p)) w μ2) := fun w => cl_fail (fl := 1) h1 (by decide) (by decide) fun μ2 h2 => fx79 h2 fun μ3 h3 => hc μ3 h3
          by_cases hp1 : p + 1 < e
          · have es1 : sgn ch e (p + 1) - 48 = iI ((ch (p + 1) : Int) - 48) := by
              unfold sgn
              rw [if_pos hp1, ← iI_nat, show (48 : Int32) = iI 48 from rfl, iI_sub]
            rw [es1]
            refine ifc (iI_lt (b := 0) (by omega) (by omega) (by decide) (by decide)) (fun _ => f1 _) (fun g1 => ?_)
            exact ifc (iI_le (b := 9) (by omega) (by omega) (by decide) (by decide)) (fun g2 => absurd (show dgP (ch (p + 1)) from ⟨by omega, by omega⟩) gd) (fun _ => f1 _)
          · have es1 : sgn ch e (p + 1) = -1 := by
              unfold sgn
              rw [if_neg hp1]
            rw [es1, if_pos (by decide)]
            exact f1 _
    · rw [if_pos (show k = 12 by omega)] at hc
      refine cl_fail (fl := 4) hC (by decide) (by decide) fun μ1 h1 => ?_
      rw [if_neg (bad_nz h1)]
      exact hc μ1 h1
  refine ifc (sgn_eq hT (n := 115) (by decide) (by decide)) (fun g => go (Or.inl g)) (fun g1 => ?_)
  refine ifc (sgn_eq hT (n := 108) (by decide) (by decide)) (fun g => go (Or.inr (Or.inl g))) (fun g2 => ?_)
  refine ifc (sgn_eq hT (n := 99) (by decide) (by decide)) (fun g => go (Or.inr (Or.inr g))) (fun g3 => ?_)
  rw [if_neg (fun z => z.elim g1 fun z => z.elim g2 g3)] at hc
  refine cl_fail (fl := 1) hC (by decide) (by decide) fun μ1 h1 => ?_
  unfold L_X7_clause_35 L_X7_clause_53
  rw [if_neg (bad_nz h1), if_neg (bad_nz h1)]
  exact hc μ1 h1
theorem clS_12 {p : Nat} : ∃ x, clS ch 12 p = .error x := by
  unfold clS
  split
  · exact ⟨_, if_pos rfl⟩
  · exact ⟨_, rfl⟩
theorem wayL_s {f p : Nat} {acc : List z_C1} : wayL ch e (f + 1) p acc = (match clS ch acc.length p with
    | .error x => .error x
    | .ok x => if x.1 < e then (if ch x.1 = 59 then wayL ch e f (x.1 + 1) (acc ++ [x.2]) else .error (1, x.1)) else .ok (acc ++ [x.2])) := rfl
/-- what is left to read, behind i clauses -/
def wayR (ch : Nat → Nat) (e i p : Nat) (acc : List z_C1) : Except (Nat × Nat) (List z_C1) := if i = 0 then wayL ch e 13 p acc else if p < e then (if ch p = 59 then wayL ch e (13 - i) (p + 1) acc else .error (1, p)) else .ok acc
theorem sgn_end (hT : TxC ch e tx kd q μ0) {p : Nat} : sgn ch e p = -1 ↔ ¬ p < e := by
  have := hT.2.2.2.2.2.2.1 p
  unfold sgn
  by_cases g : p < e
  · rw [if_pos g]
    exact ⟨fun z => absurd z (nI_ne_m1 (by omega)), fun z => absurd g z⟩
  · rw [if_neg g]
    exact ⟨fun _ => g, fun _ => rfl⟩
theorem read_bad {fl at' : Nat} {v3 v4 v5 : Int32} {P : Int32 → Int32 → Int32 → z_Q → z_M → Prop} {K : Int32 → z_Q → z_M → Prop} (hP : ∀ v3 v4 v5 q μ, B_X7_read_30 kd K P v3 v4 v5 q μ → P v3 v4 v5 q μ) {μ : z_M} (hB : BadS e μ0 fl at' μ) (hE : K (iI (-(1000 * (fl : Int) + at'))) q μ) : P v3 v4 v5 q μ := by
  have l84 : L_X7_read_84 kd K v4 q μ := by
    unfold L_X7_read_84
    rw [if_neg (bad_nz hB), hB.2.2.1, hB.2.1, ← iI_nat, ← iI_nat, show (-1000 : Int32) = iI (-1000) from rfl, iI_mul, iI_sub, show -1000 * (fl : Int) - (at' : Int) = -(1000 * (fl : Int) + at') by omega]
    exact hE
  refine hP _ _ _ _ _ ?_
  unfold B_X7_read_30
  rw [if_neg (bad_nz hB)]
  exact ifd (fun _ => l84) (fun _ => l84)
theorem c_readAsk (hT : TxC ch e tx kd q μ0) {μ : z_M} (hC : ClSt ch e μ0 0 μ) {K : Int32 → z_Q → z_M → Prop} (hE : ∀ fl at', wayL ch e 13 0 [] = .error (fl, at') → fl ≤ 9 → at' ≤ e → ∀ μ', SR μ0 μ' → K (iI (-(1000 * (fl : Int) + at'))) q μ') (hO : ∀ cs, wayL ch e 13 0 [] = .ok cs → ∀ μ', SR μ0 μ' → K (nI cs.length) q μ') : L_X7_read_30 kd K 0 0 0 q μ := by
  unfold L_X7_read_30
  intro P hP
  have step : ∀ i p acc μ, i ≤ 12 → acc.length = i → wayL ch e 13 0 [] = wayR ch e i p acc → ClSt ch e μ0 p μ → (i < 12 → ∀ p1 acc1 μ1, acc1.length = i + 1 → wayL ch e 13 0 [] = wayR ch e (i + 1) p1 acc1 → ClSt ch e μ0 p1 μ1 → P 0 (nI (i + 1)) (nI (i + 1)) q μ1) → P 0 (nI i) (nI i) q μ := by
    intro i p acc μ hi hl hR hC nx
    have badP : ∀ {fl at' μ1} v4 v5, BadS e μ0 fl at' μ1 → wayL ch e 13 0 [] = .error (fl, at') → P 0 v4 v5 q μ1 := fun {fl at' μ1} v4 v5 hB hw => read_bad hP hB (hE fl at' hw hB.2.2.2.2.1 hB.2.2.2.2.2 μ1 hB.1)
    have cls : ∀ p' μ1, wayL ch e 13 0 [] = wayL ch e (13 - i) p' acc → ClSt ch e μ0 p' μ1 → L_X7_read_68 kd K P 0 (nI i) (nI i) q μ1 := fun p' μ1 hw hC1 => by
      rw [show 13 - i = (12 - i) + 1 by omega, wayL_s (f := 12 - i) (p := p') (acc := acc), hl] at hw
      unfold L_X7_read_68
      refine c_clause (a := false) (S := (fun _ _ => 0, fun _ _ => none, fun _ => [])) (b := 0) (r := 0) (h := 0) hT hi hC1 (fun z => Bool.noConfusion z) ?_
      cases ec : clS ch i p' with
      | error x =>
        rw [ec] at hw
        exact fun μ2 hB => badP _ _ hB hw
      | ok x =>
        rw [ec] at hw
        have i12 : i < 12 := by
          rcases Nat.lt_or_ge i 12 with z | z
          · exact z
          · have e12 : i = 12 := by omega
            subst e12
            obtain ⟨y, hy⟩ := clS_12 (ch := ch) (p := p')
            rw [hy] at ec
            cases ec
        intro μ2 hC2
        refine ⟨fun _ => ?_, fun z => Bool.noConfusion z⟩
        rw [nI_1]
        refine nx i12 x.1 (acc ++ [x.2]) μ2 (by rw [len_app1, hl]) ?_ hC2
        rw [hw]
        unfold wayR
        rw [if_neg (by omega), show 13 - (i + 1) = 12 - i by omega]
    refine hP _ _ _ _ _ ?_
    unfold B_X7_read_30
    refine ifc (nI_ltI (a := 12) (by decide) (by omega)) (fun g => absurd g (by omega)) (fun _ => ?_)
    rw [hC.2.2.2.1, if_pos rfl]
    unfold wayR at hR
    refine ifc (nI_eq (b := 0) (by omega) (by decide)) (fun g0 => ?_) (fun g0 => ?_)
    · rw [if_pos g0] at hR
      unfold L_X7_read_57
      rw [if_pos (show nI i ≤ 0 by rw [g0]; decide)]
      exact cls p μ (by rw [hR, g0]) hC
    · rw [if_neg g0] at hR
      rw [hC.2.2.1]
      refine ifc (sgn_end hT) (fun ge => ?_) (fun ge => ?_)
      · rw [if_neg ge] at hR
        unfold L_X7_read_84
        rw [hC.2.2.2.1, if_pos rfl, ← hl]
        exact hO acc hR μ hC.1
      · rw [if_pos (Classical.not_not.mp ge)] at hR
        unfold L_X7_read_57
        refine ifc (nI_leI (b := 0) (by omega) (by decide)) (fun g => absurd g (by omega)) (fun _ => ?_)
        refine cl_pass hT hC (n := 59) (by decide) (by decide) (fun gc μ1 h1 => ?_) (fun gc μ1 h1 => ?_)
        · rw [if_pos gc] at hR
          exact cls (p + 1) μ1 hR h1
        · rw [if_neg gc] at hR
          unfold L_X7_read_68
          exact fx_clause h1 (badP _ _ h1 hR)
  have key : ∀ j i p acc μ, i + j = 12 → acc.length = i → wayL ch e 13 0 [] = wayR ch e i p acc → ClSt ch e μ0 p μ → P 0 (nI i) (nI i) q μ := by
    intro j
    induction j with
    | zero =>
      intro i p acc μ hi hl hR hC
      exact step i p acc μ (by omega) hl hR hC fun z => by omega
    | succ j ih =>
      intro i p acc μ hi hl hR hC
      exact step i p acc μ (by omega) hl hR hC fun _ p1 acc1 μ1 h1 h2 h3 => ih (i + 1) p1 acc1 μ1 (by omega) h1 h2 h3
  exact key 12 0 0 [] μ (by decide) rfl rfl hC
theorem SR_refl (μ : z_M) : SR μ μ := ⟨fun _ _ _ => rfl, rfl⟩
theorem ClSt.self {p : Nat} {μ : z_M} (hc : ClSt ch e μ0 p μ) : ClSt ch e μ p μ := ⟨SR_refl μ, hc.2⟩
theorem clS_ok {k p : Nat} {x : Nat × z_C1} (hx : clS ch k p = .ok x) : (x.2.1 = 115 ∨ x.2.1 = 108 ∨ x.2.1 = 99) ∧ x.2.2.1 ≤ 9 := by
  have cl : ∀ l n p, clC ch l n p = .ok x → x.2.1 = l ∧ x.2.2.1 = n := fun l n p hq => by
    unfold clC at hq
    split at hq
    · cases hq
    · cases hq
      exact ⟨rfl, rfl⟩
  unfold clS at hx
  split at hx
  · rename_i g
    split at hx
    · cases hx
    · split at hx
      · obtain ⟨a1, a2⟩ := cl _ _ _ hx
        rw [a1, a2]
        exact ⟨Or.inr (Or.inr rfl), by decide⟩
      · split at hx
        · rename_i gd
          split at hx
          · cases hx
          · obtain ⟨a1, a2⟩ := cl _ _ _ hx
            rw [a1, a2]
            exact ⟨g, by omega⟩
        · cases hx
  · cases hx
theorem c_readDo {Inv : List z_C1 → z_M → Prop} {T : List z_C1 → z_SS} (hI : ∀ acc μ μ', Inv acc μ → SR μ μ' → Inv acc μ') (hHV : ∀ acc μ, Inv acc μ → HV (T acc) b r h kd q μ) (hTx : ∀ acc μ, Inv acc μ → TxC ch e tx kd q μ) (hstay : ∀ acc c μ, Inv acc μ → holdsS (T acc) b r h c.2.2 = false → Inv (acc ++ [c]) μ)
    (hmove : ∀ acc (c : z_C1) μ, Inv acc μ → holdsS (T acc) b r h c.2.2 = true → (c.1 = 115 ∨ c.1 = 108 ∨ c.1 = 99) → c.2.1 ≤ 9 → ∀ K : z_M → Prop, (∀ μ', Inv (acc ++ [c]) μ' → (∀ k, μ'.1 10 k = μ.1 10 k) → K μ') → C_X8_move kd q (nI c.1) (nI c.2.1) μ K)
    {cs : List z_C1} (hw : wayL ch e 13 0 [] = .ok cs) {μ : z_M} (h0 : Inv [] μ) (hC : ClSt ch e μ 0 μ) {K : Int32 → z_Q → z_M → Prop} (hK : ∀ v μ', Inv cs μ' → K v q μ') : L_X7_read_30 kd K 1 0 0 q μ := by
  unfold L_X7_read_30
  intro P hP
  have step : ∀ i p acc μ, i ≤ 12 → acc.length = i → .ok cs = wayR ch e i p acc → Inv acc μ → ClSt ch e μ p μ → (i < 12 → ∀ p1 acc1 μ1, acc1.length = i + 1 → .ok cs = wayR ch e (i + 1) p1 acc1 → Inv acc1 μ1 → ClSt ch e μ1 p1 μ1 → P 1 (nI (i + 1)) (nI (i + 1)) q μ1) → P 1 (nI i) (nI i) q μ := by
    intro i p acc μ hi hl hR hIn hC nx
    have cls : ∀ p' μ1, .ok cs = wayL ch e (13 - i) p' acc → Inv acc μ1 → ClSt ch e μ1 p' μ1 → L_X7_read_68 kd K P 1 (nI i) (nI i) q μ1 := fun p' μ1 hw hI1 hC1 => by
      rw [show 13 - i = (12 - i) + 1 by omega, wayL_s (f := 12 - i) (p := p') (acc := acc), hl] at hw
      unfold L_X7_read_68
      refine c_clause (a := true) (S := T acc) (b := b) (r := r) (h := h) (hTx acc μ1 hI1) hi hC1 (fun _ => hHV acc μ1 hI1) ?_
      cases ec : clS ch i p' with
      | error x =>
        rw [ec] at hw
        cases hw
      | ok x =>
        rw [ec] at hw
        have i12 : i < 12 := by
          rcases Nat.lt_or_ge i 12 with z | z
          · exact z
          · have e12 : i = 12 := by omega
            subst e12
            obtain ⟨y, hy⟩ := clS_12 (ch := ch) (p := p')
            rw [hy] at ec
            cases ec
        have hx := clS_ok ec
        have go : ∀ μ3, Inv (acc ++ [x.2]) μ3 → ClSt ch e μ3 x.1 μ3 → P 1 (nI i + 1) (nI i + 1) q μ3 := fun μ3 hI3 hC3 => by
          rw [nI_1]
          refine nx i12 x.1 (acc ++ [x.2]) μ3 (by rw [len_app1, hl]) ?_ hI3 hC3
          rw [hw]
          unfold wayR
          rw [if_neg (by omega), show 13 - (i + 1) = 12 - i by omega]
        intro μ2 hC2
        have hI2 := hI acc μ1 μ2 hI1 hC2.1
        refine ⟨fun z => Bool.noConfusion z, fun _ => ifd (fun hh => ?_) (fun hh => ?_)⟩
        · refine hmove acc x.2 μ2 hI2 hh hx.1 hx.2 _ fun μ3 hI3 h10 => go μ3 hI3 ⟨SR_refl μ3, ?_, ?_, ?_, hC2.2.2.2.2⟩
          · rw [h10]; exact hC2.2.1
          · rw [h10]; exact hC2.2.2.1
          · rw [h10]; exact hC2.2.2.2.1
        · exact go μ2 (hstay acc x.2 μ2 hI2 (by simpa using hh)) hC2.self
    have hTm := hTx acc μ hIn
    refine hP _ _ _ _ _ ?_
    unfold B_X7_read_30
    refine ifc (nI_ltI (a := 12) (by decide) (by omega)) (fun g => absurd g (by omega)) (fun _ => ?_)
    rw [hC.2.2.2.1, if_pos rfl]
    unfold wayR at hR
    refine ifc (nI_eq (b := 0) (by omega) (by decide)) (fun g0 => ?_) (fun g0 => ?_)
    · rw [if_pos g0] at hR
      unfold L_X7_read_57
      rw [if_pos (show nI i ≤ 0 by rw [g0]; decide)]
      exact cls p μ (by rw [hR, g0]) hIn hC
    · rw [if_neg g0] at hR
      rw [hC.2.2.1]
      refine ifc (sgn_end hTm) (fun ge => ?_) (fun ge => ?_)
      · rw [if_neg ge] at hR
        cases hR
        unfold L_X7_read_84
        rw [hC.2.2.2.1, if_pos rfl]
        exact hK _ μ hIn
      · rw [if_pos (Classical.not_not.mp ge)] at hR
        unfold L_X7_read_57
        refine ifc (nI_leI (b := 0) (by omega) (by decide)) (fun g => absurd g (by omega)) (fun _ => ?_)
        refine cl_pass hTm hC (n := 59) (by decide) (by decide) (fun gc μ1 h1 => ?_) (fun gc μ1 h1 => ?_)
        · rw [if_pos gc] at hR
          exact cls (p + 1) μ1 hR (hI acc μ μ1 hIn h1.1) h1.self
        · rw [if_neg gc] at hR
          cases hR
  have key : ∀ j i p acc μ, i + j = 12 → acc.length = i → .ok cs = wayR ch e i p acc → Inv acc μ → ClSt ch e μ p μ → P 1 (nI i) (nI i) q μ := by
    intro j
    induction j with
    | zero =>
      intro i p acc μ hi hl hR hIn hC
      exact step i p acc μ (by omega) hl hR hIn hC fun z => by omega
    | succ j ih =>
      intro i p acc μ hi hl hR hIn hC
      exact step i p acc μ (by omega) hl hR hIn hC fun _ p1 acc1 μ1 h1 h2 h3 h4 => ih (i + 1) p1 acc1 μ1 (by omega) h1 h2 h3 h4
  exact key 12 0 0 [] μ (by decide) rfl hw.symm h0 hC
end CRDW
