/-! The class: the reader, of expressions. -/
section CRD
variable {ch : Nat → Nat} {e tx : Nat} {μ0 : z_M} {kd : z_K} {q : z_Q} {S : z_SS} {b r h : Nat}
/-- a text to read -/
def TxC (ch : Nat → Nat) (e tx : Nat) (kd : z_K) (q : z_Q) (μ0 : z_M) : Prop := q 10 1 = some tx ∧ e ≤ z_len kd tx ∧ z_len kd tx < 2 ^ 31 ∧ e ≤ 160 ∧ μ0.1 10 2 = nI e ∧ (∀ k, k < e → μ0.1 tx k = nI (ch k)) ∧ (∀ k, ch k < 256) ∧ (∀ k, e ≤ k → ch k = 0) ∧ tx ≠ 10
def sgn (ch : Nat → Nat) (e p : Nat) : Int32 := if p < e then nI (ch p) else -1
def SR (μ0 μ : z_M) : Prop := (∀ c k, (c ≠ 10 ∨ k < 3 ∨ 8 < k) → μ.1 c k = μ0.1 c k) ∧ μ.2 = μ0.2
def GoodS (ch : Nat → Nat) (e : Nat) (μ0 : z_M) (p o : Nat) (a rf : Bool) (μ : z_M) : Prop := SR μ0 μ ∧ μ.1 10 3 = nI p ∧ μ.1 10 4 = sgn ch e p ∧ μ.1 10 5 = nI o ∧ μ.1 10 6 = 0 ∧ μ.1 10 7 = nI (b2n a) ∧ μ.1 10 8 = nI (b2n rf) ∧ p ≤ e ∧ o ≤ 6
def BadS (e : Nat) (μ0 : z_M) (fl p : Nat) (μ : z_M) : Prop := SR μ0 μ ∧ μ.1 10 3 = nI p ∧ μ.1 10 6 = nI fl ∧ 1 ≤ fl ∧ fl ≤ 9 ∧ p ≤ e
theorem SR_si {μ : z_M} (h : SR μ0 μ) {k : Nat} {v : Int32} (h1 : 3 ≤ k) (h2 : k ≤ 8) : SR μ0 (si μ 10 k v) := ⟨fun c j hc => by rw [si1, if_neg (by omega)]; exact h.1 c j hc, h.2⟩
theorem sgn_eq (hT : TxC ch e tx kd q μ0) {p n : Nat} (hn : 0 < n) (h2 : n < 256) : sgn ch e p = nI n ↔ ch p = n := by
  obtain ⟨_, _, _, _, _, _, t1, t2, _⟩ := hT
  have := t1 p
  unfold sgn
  by_cases g : p < e
  · rw [if_pos g]
    exact nI_eq (by omega) (by omega)
  · rw [if_neg g]
    refine ⟨fun z => absurd z.symm (nI_ne_m1 (by omega)), fun z => ?_⟩
    rw [t2 p (by omega)] at z
    omega
theorem sgn_lt (hT : TxC ch e tx kd q μ0) {p n : Nat} (hn : 0 < n) (h2 : n < 256) : sgn ch e p < nI n ↔ ch p < n := by
  obtain ⟨_, _, _, _, _, _, t1, t2, _⟩ := hT
  have := t1 p
  unfold sgn
  by_cases g : p < e
  · rw [if_pos g]
    exact nI_ltI (by omega) (by omega)
  · rw [if_neg g]
    exact ⟨fun _ => by rw [t2 p (by omega)]; exact hn, fun _ => nI_m1_lt (by omega)⟩
theorem sgn_gt (hT : TxC ch e tx kd q μ0) {p n : Nat} (h2 : n < 256) : nI n < sgn ch e p ↔ n < ch p := by
  obtain ⟨_, _, _, _, _, _, t1, t2, _⟩ := hT
  have := t1 p
  unfold sgn
  by_cases g : p < e
  · rw [if_pos g]
    exact nI_ltI (by omega) (by omega)
  · rw [if_neg g]
    refine ⟨fun z => absurd z (nI_nlt_m1 (by omega)), fun z => ?_⟩
    rw [t2 p (by omega)] at z
    omega
theorem ch_lt (hT : TxC ch e tx kd q μ0) {p : Nat} (h : ch p ≠ 0) : p < e := Nat.lt_of_not_le fun z => h (hT.2.2.2.2.2.2.2.1 p z)
theorem c_advTo (hT : TxC ch e tx kd q μ0) {p' : Nat} {μ : z_M} (hS : SR μ0 μ) (h3 : μ.1 10 3 + 1 = nI p') (hp : p' ≤ e) {K : z_M → Prop} (hK : K (si (si μ 10 3 (nI p')) 10 4 (sgn ch e p'))) : C_X7_advance kd q μ K := by
  obtain ⟨t1, t2, t2b, t3, t4, t5, t6, t7, t8⟩ := hT
  have e3 : (si μ 10 3 (nI p')).1 10 3 = nI p' := by rw [si1, if_pos ⟨rfl, rfl⟩]
  have e2 : (si μ 10 3 (nI p')).1 10 2 = nI e := by rw [si1, if_neg (by omega), hS.1 10 2 (by omega)]; exact t4
  unfold C_X7_advance
  intro w1 ew
  rw [t1] at ew
  subst ew
  refine opt_s ?_
  rw [h3, e3, e2, if_neg (Int32.not_lt.mpr (nI_pos' (by omega)))]
  have out : ¬ p' < e → K (si (si μ 10 3 (nI p')) 10 4 (-1)) := fun g => by
    unfold sgn at hK
    rw [if_neg g] at hK
    exact hK
  refine ifc (nI_leI (by omega) (by omega)) (fun g => out (by omega)) (fun g => ?_)
  intro w3 ew
  rw [t1] at ew
  subst ew
  refine ⟨_, rfl, ?_⟩
  refine ifc (nI_leI (by omega) (by omega)) (fun g => absurd g (by omega)) (fun g2 => ?_)
  intro w5 ew
  rw [t1] at ew
  subst ew
  refine ⟨_, rfl, nI_vin (by omega) (by omega), ?_⟩
  rw [nI_clamp (by omega), show (si μ 10 3 (nI p')).1 tx p' = nI (ch p') by rw [si1, if_neg (fun z => t8 z.1), hS.1 tx p' (Or.inl t8)]; exact t5 p' (by omega)]
  unfold sgn at hK
  rw [if_pos (by omega)] at hK
  exact hK
theorem c_adv (hT : TxC ch e tx kd q μ0) {p o : Nat} {a rf : Bool} {μ : z_M} (hG : GoodS ch e μ0 p o a rf μ) (hp : p < e) {K : z_M → Prop} (hK : ∀ μ', GoodS ch e μ0 (p + 1) o a rf μ' → K μ') : C_X7_advance kd q μ K := by
  obtain ⟨g1, g2, g3, g4, g5, g6, g7, g8, g9⟩ := hG
  refine c_advTo hT g1 (by rw [g2]; exact nI_1 p) hp (hK _ ⟨SR_si (SR_si g1 (by decide) (by decide)) (by decide) (by decide), ?_, ?_, ?_, ?_, ?_, ?_, hp, g9⟩)
  · rw [si1, if_neg (by omega), si1, if_pos ⟨rfl, rfl⟩]
  · rw [si1, if_pos ⟨rfl, rfl⟩]
  · rw [si1, if_neg (by omega), si1, if_neg (by omega)]; exact g4
  · rw [si1, if_neg (by omega), si1, if_neg (by omega)]; exact g5
  · rw [si1, if_neg (by omega), si1, if_neg (by omega)]; exact g6
  · rw [si1, if_neg (by omega), si1, if_neg (by omega)]; exact g7
theorem c_fail {p o fl : Nat} {a rf : Bool} {μ : z_M} (hG : GoodS ch e μ0 p o a rf μ) (h1 : 1 ≤ fl) (h2 : fl ≤ 9) {K : z_M → Prop} (hK : ∀ μ', BadS e μ0 fl p μ' → K μ') : C_X7_fail kd q (nI fl) μ K := by
  obtain ⟨g1, g2, g3, g4, g5, g6, g7, g8, g9⟩ := hG
  unfold C_X7_fail
  rw [g5, if_pos rfl]
  exact hK _ ⟨SR_si g1 (by decide) (by decide), by rw [si1, if_neg (by omega)]; exact g2, by rw [si1, if_pos ⟨rfl, rfl⟩], h1, h2, g8⟩
theorem bad_nz {p fl : Nat} {μ : z_M} (hB : BadS e μ0 fl p μ) : ¬ μ.1 10 6 = 0 := fun z => by
  obtain ⟨g1, g2, g3, g4, g5⟩ := hB
  rw [g3] at z
  have := (nI_eq (b := 0) (by omega) (by decide)).mp z
  omega
theorem bad_si {p fl k : Nat} {v : Int32} {μ : z_M} (hB : BadS e μ0 fl p μ) (hk : k = 5 ∨ k = 7 ∨ k = 8) : BadS e μ0 fl p (si μ 10 k v) := ⟨SR_si hB.1 (by omega) (by omega), by rw [si1, if_neg (by omega)]; exact hB.2.1, by rw [si1, if_neg (by omega)]; exact hB.2.2.1, hB.2.2.2⟩
theorem c_failB {p fl : Nat} {n : Int32} {μ : z_M} (hB : BadS e μ0 fl p μ) {K : z_M → Prop} (hK : K μ) : C_X7_fail kd q n μ K := by
  unfold C_X7_fail
  rw [if_neg (bad_nz hB)]
  exact hK
theorem c_passB {p fl : Nat} {n : Int32} {μ : z_M} (hB : BadS e μ0 fl p μ) {K : z_M → Prop} (hK : K μ) : C_X7_pass kd q n μ K := by
  unfold C_X7_pass
  rw [if_neg (bad_nz hB)]
  exact hK
theorem c_pass (hT : TxC ch e tx kd q μ0) {p o n : Nat} {a rf : Bool} {μ : z_M} (hG : GoodS ch e μ0 p o a rf μ) (h0 : 0 < n) (h1 : n < 256) {K : z_M → Prop} (hy : ch p = n → ∀ μ', GoodS ch e μ0 (p + 1) o a rf μ' → K μ') (hn : ch p ≠ n → ∀ μ', BadS e μ0 1 p μ' → K μ') : C_X7_pass kd q (nI n) μ K := by
  unfold C_X7_pass
  rw [hG.2.2.2.2.1, if_pos rfl, hG.2.2.1]
  refine ifc (sgn_eq hT h0 h1) (fun g => ?_) (fun g => ?_)
  · exact c_adv hT hG (ch_lt hT (by omega)) (hy g)
  · exact c_fail (fl := 1) hG (by decide) (by decide) (hn g)
theorem good_open {p o o' : Nat} {a rf : Bool} {μ : z_M} (hG : GoodS ch e μ0 p o a rf μ) (ho : o' ≤ 6) : GoodS ch e μ0 p o' a rf (si μ 10 5 (nI o')) := by
  obtain ⟨g1, g2, g3, g4, g5, g6, g7, g8, g9⟩ := hG
  exact ⟨SR_si g1 (by decide) (by decide), by rw [si1, if_neg (by omega)]; exact g2, by rw [si1, if_neg (by omega)]; exact g3, by rw [si1, if_pos ⟨rfl, rfl⟩], by rw [si1, if_neg (by omega)]; exact g5, by rw [si1, if_neg (by omega)]; exact g6, by rw [si1, if_neg (by omega)]; exact g7, g8, ho⟩
theorem good_ask {p o : Nat} {a a' rf : Bool} {μ : z_M} (hG : GoodS ch e μ0 p o a rf μ) : GoodS ch e μ0 p o a' rf (si μ 10 7 (nI (b2n a'))) := by
  obtain ⟨g1, g2, g3, g4, g5, g6, g7, g8, g9⟩ := hG
  exact ⟨SR_si g1 (by decide) (by decide), by rw [si1, if_neg (by omega)]; exact g2, by rw [si1, if_neg (by omega)]; exact g3, by rw [si1, if_neg (by omega)]; exact g4, by rw [si1, if_neg (by omega)]; exact g5, by rw [si1, if_pos ⟨rfl, rfl⟩], by rw [si1, if_neg (by omega)]; exact g7, g8, g9⟩
theorem good_ref {p o : Nat} {a rf rf' : Bool} {μ : z_M} (hG : GoodS ch e μ0 p o a rf μ) : GoodS ch e μ0 p o a rf' (si μ 10 8 (nI (b2n rf'))) := by
  obtain ⟨g1, g2, g3, g4, g5, g6, g7, g8, g9⟩ := hG
  exact ⟨SR_si g1 (by decide) (by decide), by rw [si1, if_neg (by omega)]; exact g2, by rw [si1, if_neg (by omega)]; exact g3, by rw [si1, if_neg (by omega)]; exact g4, by rw [si1, if_neg (by omega)]; exact g5, by rw [si1, if_neg (by omega)]; exact g6, by rw [si1, if_pos ⟨rfl, rfl⟩], g8, g9⟩
theorem c_openOne (hT : TxC ch e tx kd q μ0) {p o : Nat} {a rf : Bool} {μ : z_M} (hG : GoodS ch e μ0 p o a rf μ) (hp : p < e) {K : z_M → Prop} (hy : o < 6 → ∀ μ', GoodS ch e μ0 (p + 1) (o + 1) a rf μ' → K μ') (hn : 6 ≤ o → ∀ μ', BadS e μ0 5 p μ' → K μ') : C_X7_openOne kd q μ K := by
  have ho := hG.2.2.2.2.2.2.2.2
  unfold C_X7_openOne
  rw [hG.2.2.2.2.1, if_pos rfl, hG.2.2.2.1, nI_1]
  refine ifc (nI_ltI (b := 6) (by omega) (by decide)) (fun g => ?_) (fun g => ?_)
  · exact c_adv hT (good_open hG (by omega)) hp (hy g)
  · exact c_fail (fl := 5) hG (by decide) (by decide) (hn (by omega))
theorem c_number (hT : TxC ch e tx kd q μ0) {p o : Nat} {a rf : Bool} {μ : z_M} (hG : GoodS ch e μ0 p o a rf μ) {K : Int64 → z_M → Prop} (hc : Cnt (numR ch 6 p 0) (fun fl at' => ∀ cv μ', BadS e μ0 fl at' μ' → K cv μ') (fun p1 c1 => ∀ v μ', c1 = [(0, v)] → GoodS ch e μ0 p1 o a rf μ' → K (lN v) μ')) : C_X7_number kd q μ K := by
  unfold C_X7_number L_X7_number_4
  intro P hP
  have t6 := hT.2.2.2.2.2.2.1
  have key : ∀ k p v μ, k ≤ 6 → v + 1 ≤ 10 ^ (6 - k) → GoodS ch e μ0 p o a rf μ → Cnt (numR ch k p v) (fun fl at' => ∀ cv μ', BadS e μ0 fl at' μ' → K cv μ') (fun p1 c1 => ∀ v μ', c1 = [(0, v)] → GoodS ch e μ0 p1 o a rf μ' → K (lN v) μ') → P (lN v) (nI (6 - k)) μ := by
    intro k
    induction k with
    | zero =>
      intro p v μ _ hv hG hc
      refine hP _ _ _ ?_
      unfold B_X7_number_4 L_X7_number_54
      unfold numR at hc
      rw [if_pos (show (6 : Int32) ≤ nI (6 - 0) by decide), hG.2.2.1]
      refine ifc (sgn_lt hT (n := 48) (by decide) (by decide)) (fun g => ?_) (fun g => ?_)
      · rw [if_neg (by omega)] at hc
        exact hc v μ rfl hG
      · refine ifc (sgn_gt hT (n := 57) (by decide)) (fun g2 => ?_) (fun g2 => ?_)
        · rw [if_neg (by omega)] at hc
          exact hc v μ rfl hG
        · rw [if_pos (show dgP (ch p) from ⟨by omega, by omega⟩)] at hc
          exact c_fail (fl := 2) hG (by decide) (by decide) fun μ' hB => hc _ μ' hB
    | succ k ih =>
      intro p v μ h6 hv hG hc
      refine hP _ _ _ ?_
      unfold B_X7_number_4 L_X7_number_54
      unfold numR at hc
      refine ifc (nI_leI (a := 6) (by decide) (by omega)) (fun g => absurd g (by omega)) (fun _ => ?_)
      rw [hG.2.2.1]
      have hp10 : 10 ^ (6 - (k + 1)) * 10 = 10 ^ (6 - k) := by
        rw [← Nat.pow_succ]
        congr 1
        omega
      have hp6 : 10 ^ (6 - k) ≤ 10 ^ 6 := Nat.pow_le_pow_right (by decide) (by omega)
      refine ifc (sgn_lt hT (n := 48) (by decide) (by decide)) (fun g => ?_) (fun g => ?_)
      · rw [if_neg (by omega)] at hc
        exact ifc (sgn_lt hT (n := 48) (by decide) (by decide)) (fun _ => hc v μ rfl hG) (fun z => absurd g z)
      · refine ifc (sgn_gt hT (n := 57) (by decide)) (fun g2 => ?_) (fun g2 => ?_)
        · rw [if_neg (by omega)] at hc
          exact ifc (sgn_lt hT (n := 48) (by decide) (by decide)) (fun z => absurd z g) (fun _ => ifc (sgn_gt hT (n := 57) (by decide)) (fun _ => hc v μ rfl hG) (fun z => absurd g2 z))
        · rw [if_pos (show dgP (ch p) from ⟨by omega, by omega⟩)] at hc
          have hpe := ch_lt hT (p := p) (by omega)
          refine c_adv hT hG hpe fun μ' hG' => ?_
          have es : sgn ch e p = nI (ch p) := by
            unfold sgn
            rw [if_pos hpe]
          have hb := t6 p
          have ev : ((10 : Int64) * lN v) + (sgn ch e p).toInt64 - (48 : Int64) = lN (10 * v + (ch p - 48)) := by
            rw [es, nI_l (by omega), show (10 : Int64) = lN 10 from rfl, lN_mul, lN_add, show (48 : Int64) = lN 48 from rfl, lN_sub (by omega)]
            congr 1
            omega
          rw [ev, nI_1, show 6 - (k + 1) + 1 = 6 - k by omega]
          exact ih (p + 1) _ μ' (by omega) (by omega) hG' hc
  exact key 6 p 0 μ (Nat.le_refl _) (by decide) hG hc
end CRD
