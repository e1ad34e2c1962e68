/-! The class: the reader, of conditions. -/
section CRDC
variable {ch : Nat → Nat} {e tx : Nat} {μ0 : z_M} {kd : z_K} {q : z_Q} {S : z_SS} {b r h : Nat}
def VB (a rf : Bool) (v : z_V) (cb : Bool) (rf' : Bool) : Prop := (a = false → rf' = rf) ∧ (a = true → rf = true → rf' = true) ∧ (a = true → rf = false → rf' = v.2 ∧ (v.2 = false → v.1 = lN (b2n cb)))
abbrev OY (ch : Nat → Nat) (e : Nat) (μ0 : z_M) (S : z_SS) (b r h o : Nat) (a rf : Bool) (K : Int32 → z_M → Prop) : Nat → List (Nat × Nat) → Prop := fun p1 c1 => ∀ v cb rf' μ', EV S b r h c1 v → VB a rf v cb rf' → GoodS ch e μ0 p1 o a rf' μ' → K (nI (b2n cb)) μ'
abbrev EY (e : Nat) (μ0 : z_M) (K : Int32 → z_M → Prop) : Nat → Nat → Prop := fun fl at' => ∀ cv μ', BadS e μ0 fl at' μ' → K cv μ'
theorem vb_and {a rf rf1 rf2 cb cy : Bool} {x y : z_V} (hx : VB a rf x cb rf1) (hy : VB (a && cb) rf1 y cy rf2) : VB a rf (evOp 38 x y) (cb && cy) rf2 := by
  have keep : rf1 = true → rf2 = true := fun z => by
    cases ha : (a && cb) with
    | false => rw [hy.1 ha]; exact z
    | true => exact hy.2.1 ha z
  refine ⟨fun ha => ?_, fun ha hr => keep (hx.2.1 ha hr), fun ha hr => ?_⟩
  · rw [hy.1 (by rw [ha]; rfl), hx.1 ha]
  · obtain ⟨x1, x2⟩ := hx.2.2 ha hr
    unfold evOp
    rw [if_pos rfl]
    cases ex : x.2 with
    | true =>
      rw [if_neg (fun z => Bool.noConfusion z.1), ex]
      rw [ex] at x1
      exact ⟨keep x1, fun z => Bool.noConfusion z⟩
    | false =>
      rw [ex] at x1
      have x3 := x2 ex
      cases cb with
      | true =>
        rw [if_pos ⟨rfl, x3⟩, Bool.true_and]
        exact hy.2.2 (by rw [ha]; rfl) x1
      | false =>
        rw [if_neg (fun z => by rw [x3] at z; exact absurd z.2 (by decide)), ex, Bool.false_and, hy.1 (by rw [ha]; rfl)]
        exact ⟨x1, fun _ => x3⟩
theorem vb_or {a rf rf1 rf2 cb cy : Bool} {x y : z_V} (hx : VB a rf x cb rf1) (hy : VB (a && !cb) rf1 y cy rf2) : VB a rf (evOp 124 x y) (cb || cy) rf2 := by
  have keep : rf1 = true → rf2 = true := fun z => by
    cases ha : (a && !cb) with
    | false => rw [hy.1 ha]; exact z
    | true => exact hy.2.1 ha z
  refine ⟨fun ha => ?_, fun ha hr => keep (hx.2.1 ha hr), fun ha hr => ?_⟩
  · rw [hy.1 (by rw [ha]; rfl), hx.1 ha]
  · obtain ⟨x1, x2⟩ := hx.2.2 ha hr
    unfold evOp
    rw [if_neg (by decide), if_pos rfl]
    cases ex : x.2 with
    | true =>
      rw [if_neg (fun z => Bool.noConfusion z.1), ex]
      rw [ex] at x1
      exact ⟨keep x1, fun z => Bool.noConfusion z⟩
    | false =>
      rw [ex] at x1
      have x3 := x2 ex
      cases cb with
      | false =>
        rw [if_pos ⟨rfl, x3⟩, Bool.false_or]
        exact hy.2.2 (by rw [ha]; rfl) x1
      | true =>
        rw [if_neg (fun z => by rw [x3] at z; exact absurd z.2 (by decide)), ex, Bool.true_or, hy.1 (by rw [ha]; rfl)]
        exact ⟨x1, fun _ => x3⟩
theorem fx_piece {d p fl : Nat} {μ : z_M} (hB : BadS e μ0 fl p μ) (hd : 1 ≤ d) {K : Int32 → z_M → Prop} (hK : ∀ v, K v μ) : C_X7_piece (z_En d) kd q μ K := by
  obtain ⟨n, rfl⟩ : ∃ n, d = n + 1 := ⟨d - 1, by omega⟩
  show BC_X7_piece (z_En n) kd q μ K
  unfold BC_X7_piece
  rw [if_neg (bad_nz hB)]
  exact hK 0
theorem fx_part {d p fl : Nat} {μ : z_M} (hB : BadS e μ0 fl p μ) (hd : 2 ≤ d) {K : Int32 → z_M → Prop} (hK : ∀ v, K v μ) : C_X7_part (z_En d) kd q μ K := by
  obtain ⟨n, rfl⟩ : ∃ n, d = n + 1 := ⟨d - 1, by omega⟩
  show BC_X7_part (z_En n) kd q μ K
  unfold BC_X7_part
  refine fx_piece hB (by omega) fun v => ?_
  unfold L_X7_part_7
  intro P hP
  refine hP _ _ _ ?_
  unfold B_X7_part_7
  rw [if_neg (bad_nz hB)]
  exact ifd (fun _ => hK _) (fun _ => hK _)
theorem fx_cond {d p fl : Nat} {μ : z_M} (hB : BadS e μ0 fl p μ) (hd : 3 ≤ d) {K : Int32 → z_M → Prop} (hK : ∀ v, K v μ) : C_X7_condition (z_En d) kd q μ K := by
  obtain ⟨n, rfl⟩ : ∃ n, d = n + 1 := ⟨d - 1, by omega⟩
  show BC_X7_condition (z_En n) kd q μ K
  unfold BC_X7_condition
  refine fx_part hB (by omega) fun v => ?_
  unfold L_X7_condition_7
  intro P hP
  refine hP _ _ _ ?_
  unfold B_X7_condition_7
  rw [if_neg (bad_nz hB)]
  exact ifd (fun _ => hK _) (fun _ => hK _)
theorem c_rdc (hT : TxC ch e tx kd q μ0) : ∀ f,
    (∀ d p o a rf K, (a = true → HV S b r h kd q μ0) → 8 * (e + 1 - p) + 4 ≤ f → 3 * (6 - o) + 7 ≤ d → Cnt (pars ch f 5 p o []) (EY e μ0 K) (OY ch e μ0 S b r h o a rf K) → ∀ μ, GoodS ch e μ0 p o a rf μ → C_X7_piece (z_En d) kd q μ K) ∧
    (∀ d p o a rf K, (a = true → HV S b r h kd q μ0) → 8 * (e + 1 - p) + 5 ≤ f → 3 * (6 - o) + 8 ≤ d → Cnt (pars ch f 6 p o []) (EY e μ0 K) (OY ch e μ0 S b r h o a rf K) → ∀ μ, GoodS ch e μ0 p o a rf μ → C_X7_part (z_En d) kd q μ K) ∧
    (∀ d p o a rf rf1 K (P : Int32 → Int32 → z_M → Prop) acc x cb i, (∀ v1 v2 μ, B_X7_part_7 (z_En d) kd q K P v1 v2 μ → P v1 v2 μ) → (a = true → HV S b r h kd q μ0) → 8 * (e + 1 - p) + 1 ≤ f → 3 * (6 - o) + 7 ≤ d → i ≤ p → EV S b r h acc x → depOk acc → VB a rf x cb rf1 → Cnt (pars ch f 7 p o acc) (EY e μ0 K) (OY ch e μ0 S b r h o a rf K) → ∀ μ, GoodS ch e μ0 p o a rf1 μ → P (nI (b2n cb)) (nI i) μ) ∧
    (∀ d p o a rf K, (a = true → HV S b r h kd q μ0) → 8 * (e + 1 - p) + 6 ≤ f → 3 * (6 - o) + 9 ≤ d → Cnt (pars ch f 8 p o []) (EY e μ0 K) (OY ch e μ0 S b r h o a rf K) → ∀ μ, GoodS ch e μ0 p o a rf μ → C_X7_condition (z_En d) kd q μ K) ∧
    (∀ d p o a rf rf1 K (P : Int32 → Int32 → z_M → Prop) acc x cb i, (∀ v1 v2 μ, B_X7_condition_7 (z_En d) kd q K P v1 v2 μ → P v1 v2 μ) → (a = true → HV S b r h kd q μ0) → 8 * (e + 1 - p) + 1 ≤ f → 3 * (6 - o) + 8 ≤ d → i ≤ p → EV S b r h acc x → depOk acc → VB a rf x cb rf1 → Cnt (pars ch f 9 p o acc) (EY e μ0 K) (OY ch e μ0 S b r h o a rf K) → ∀ μ, GoodS ch e μ0 p o a rf1 μ → P (nI (b2n cb)) (nI i) μ) := by
  have he := hT.2.2.2.1
  have h256 := hT.2.2.2.2.2.2.1
  have hz := hT.2.2.2.2.2.2.2.1
  have adv := fun f m p o acc hp hm hacc => pars_adv (ch := ch) (e := e) hz h256 f m p o acc hp hm hacc
  have b01 : ∀ a : Bool, nI (b2n a) = 0 ∨ nI (b2n a) = 1 := fun a => by
    cases a
    · exact Or.inl rfl
    · exact Or.inr rfl
  have z0 : nI (b2n false) = 0 := rfl
  have z1 : ¬ nI (b2n true) = 0 := by decide
  intro f
  induction f with
  | zero => exact ⟨fun d p o a rf K _ h => by omega, fun d p o a rf K _ h => by omega, fun d p o a rf rf1 K P acc x cb i _ _ h => by omega, fun d p o a rf K _ h => by omega, fun d p o a rf rf1 K P acc x cb i _ _ h => by omega⟩
  | succ f ih =>
    obtain ⟨i5, i6, i7, i8, i9⟩ := ih
    have x3 := (c_rdx (S := S) (b := b) (r := r) (h := h) hT f).2.2.2.1
    refine ⟨fun d p o a rf K hv hf hd hc μ hG => ?_, fun d p o a rf K hv hf hd hc μ hG => ?_, fun d p o a rf rf1 K P acc x cb i hP hv hf hd hi hx hdp hvx hc μ hG => ?_, fun d p o a rf K hv hf hd hc μ hG => ?_, fun d p o a rf rf1 K P acc x cb i hP hv hf hd hi hx hdp hvx hc μ hG => ?_⟩
    · obtain ⟨n, rfl⟩ : ∃ n, d = n + 1 := ⟨d - 1, by omega⟩
      show BC_X7_piece (z_En n) kd q μ K
      have hpe := hG.2.2.2.2.2.2.2.1
      have ho := hG.2.2.2.2.2.2.2.2
      rw [ps5] at hc
      unfold BC_X7_piece
      rw [hG.2.2.2.2.1, if_pos rfl, hG.2.2.1]
      refine ifc (sgn_eq hT (n := 33) (by decide) (by decide)) (fun g => ?_) (fun g33 => ?_)
      · rw [if_pos g] at hc
        have hp := ch_lt hT (p := p) (by omega)
        unfold L_X7_piece_34
        refine c_openOne hT hG hp (fun g6 μ1 h1 => ?_) (fun g6 μ1 h1 => ?_)
        · rw [if_neg (by omega), Cnt_bnd] at hc
          refine i5 n (p + 1) (o + 1) a rf _ hv (by omega) (by omega) (Cnt_mono hc (fun fl at' hE cv μ' hB => ?_) (fun p1 c1 hk v cb rf' μ' ev vx hG' => ?_)) μ1 h1
          · exact ifd (fun _ => hE 1 _ (bad_si hB (Or.inl rfl))) (fun _ => hE 0 _ (bad_si hB (Or.inl rfl)))
          · rw [hG'.2.2.2.1, show (1 : Int32) = nI 1 from rfl, pk_sub (by omega), Nat.add_sub_cancel]
            have hk2 := hk (1 - v.1, v.2) (!cb) rf' _ (ev_not ev) ⟨vx.1, vx.2.1, fun ha hr => ⟨(vx.2.2 ha hr).1, fun z => by
              have := (vx.2.2 ha hr).2 z
              show 1 - v.1 = _
              rw [this]
              cases cb <;> decide⟩⟩ (good_open hG' ho)
            cases cb with
            | false =>
              rw [if_pos z0]
              exact hk2
            | true =>
              rw [if_neg z1]
              exact hk2
        · rw [if_pos g6] at hc
          exact fx_piece h1 (by omega) fun v => ifd (fun _ => hc 1 _ (bad_si h1 (Or.inl rfl))) (fun _ => hc 0 _ (bad_si h1 (Or.inl rfl)))
      · rw [if_neg g33] at hc
        refine ifc (sgn_eq hT (n := 40) (by decide) (by decide)) (fun g => ?_) (fun g40 => ?_)
        · rw [if_pos g] at hc
          have hp := ch_lt hT (p := p) (by omega)
          refine c_openOne hT hG hp (fun g6 μ1 h1 => ?_) (fun g6 μ1 h1 => ?_)
          · rw [if_neg (by omega), Cnt_bnd] at hc
            refine i8 n (p + 1) (o + 1) a rf _ hv (by omega) (by omega) (Cnt_mono hc (fun fl at' hE cv μ' hB => ?_) (fun p1 c1 hk v cb rf' μ' ev vx hG' => ?_)) μ1 h1
            · exact c_passB hB (hE cv _ (bad_si hB (Or.inl rfl)))
            · refine c_pass hT hG' (n := 41) (by decide) (by decide) (fun gc μ2 h2 => ?_) (fun gc μ2 h2 => ?_)
              · rw [if_pos gc] at hk
                rw [h2.2.2.2.1, show (1 : Int32) = nI 1 from rfl, pk_sub (by omega), Nat.add_sub_cancel]
                exact hk v cb rf' _ ev vx (good_open h2 ho)
              · rw [if_neg gc] at hk
                exact hk _ _ (bad_si h2 (Or.inl rfl))
          · rw [if_pos g6] at hc
            exact fx_cond h1 (by omega) fun v => c_passB h1 (hc v _ (bad_si h1 (Or.inl rfl)))
        · rw [if_neg g40, Cnt_bnd] at hc
          refine x3 n p o a rf _ hv (by omega) (by omega) (Cnt_mono (Cnt_use hc (adv f 3 p o [] hpe (by decide) (fun z => absurd z (by decide)))) (fun fl at' hE cv μ' hB => ?_) (fun p1 c1 hk x cv rf1 μ1 ev vx hG1 => ?_)) μ hG
          · have bad : ∀ w, L_X7_piece_120 (z_En n) kd q K cv w μ' := fun w => by
              unfold L_X7_piece_120
              rw [if_neg (bad_nz hB)]
              exact hE 0 μ' hB
            exact ifd (fun _ => bad _) (fun _ => ifd (fun _ => bad _) (fun _ => ifd (fun _ => bad _) (fun _ => c_failB hB (bad _))))
          · obtain ⟨ha, hk⟩ := hk
            have hp1 := ha.2.2.1 (by decide)
            have hp1e := ha.2.1
            rw [hG1.2.2.1]
            have sg : sgP (ch p1) → L_X7_piece_120 (z_En n) kd q K cv (sgn ch e p1) μ1 := fun gs => by
              rw [if_pos gs, Cnt_bnd] at hk
              have hp := ch_lt hT (p := p1) (by rcases gs with z | z | z <;> omega)
              unfold L_X7_piece_120
              rw [hG1.2.2.2.2.1, if_pos rfl]
              refine c_adv hT hG1 hp fun μ2 h2 => ?_
              refine x3 n (p1 + 1) o a rf1 _ hv (by omega) (by omega) (Cnt_mono hk (fun fl at' hE cn μ' hB => ?_) (fun p2 c2 hk2 y cn rf2 μ3 ev2 vx2 hG3 => ?_)) μ2 h2
              · have all : ∀ w, K w μ' := fun w => hE w μ' hB
                exact ifd (fun _ => ifd (fun _ => all _) (fun _ => all _)) (fun _ => ifd (fun _ => ifd (fun _ => all _) (fun _ => all _)) (fun _ => ifd (fun _ => all _) (fun _ => all _)))
              · have vb := vx_bin (op := ch p1) (cw := workedV (ch p1) cv cn) (by omega) (by omega) vx vx2 (rf3 := rf2) (by rw [decide_eq_false (fun z => by omega), Bool.and_false, Bool.or_false]) (fun _ => rfl)
                have fin : ∀ cb, workedV (ch p1) cv cn = lN (b2n cb) → K (nI (b2n cb)) μ3 := fun cb ew => hk2 (evOp (ch p1) x y) cb rf2 μ3 (ev_bin ev ev2 (by omega)) ⟨vb.1, vb.2.1, fun ha hr => ⟨(vb.2.2 ha hr).1, fun z => by rw [← (vb.2.2 ha hr).2 z]; exact ew⟩⟩ hG3
                have wv : workedV (ch p1) cv cn = if ch p1 = 60 then (if cn ≤ cv then 0 else 1) else if ch p1 = 62 then (if cv ≤ cn then 0 else 1) else if cv = cn then 1 else 0 := by
                  unfold workedV
                  rw [if_neg (by omega), if_neg (by omega), if_neg (by omega), if_neg (by omega), if_neg (by omega)]
                refine ifc (sgn_eq hT (n := 60) (by decide) (by decide)) (fun g60 => ?_) (fun g60 => ?_)
                · rw [if_pos g60] at wv
                  refine ifd (fun w => fin false ?_) (fun w => fin true ?_)
                  · rw [wv, if_pos w]
                    rfl
                  · rw [wv, if_neg w]
                    rfl
                · rw [if_neg g60] at wv
                  refine ifc (sgn_eq hT (n := 62) (by decide) (by decide)) (fun g62 => ?_) (fun g62 => ?_)
                  · rw [if_pos g62] at wv
                    refine ifd (fun w => fin false ?_) (fun w => fin true ?_)
                    · rw [wv, if_pos w]
                      rfl
                    · rw [wv, if_neg w]
                      rfl
                  · rw [if_neg g62] at wv
                    refine ifd (fun w => fin true ?_) (fun w => fin false ?_)
                    · rw [wv, if_pos w]
                      rfl
                    · rw [wv, if_neg w]
                      rfl
            refine ifc (sgn_eq hT (n := 60) (by decide) (by decide)) (fun g => sg (Or.inl g)) (fun g1 => ?_)
            refine ifc (sgn_eq hT (n := 62) (by decide) (by decide)) (fun g => sg (Or.inr (Or.inl g))) (fun g2 => ?_)
            refine ifc (sgn_eq hT (n := 61) (by decide) (by decide)) (fun g => sg (Or.inr (Or.inr g))) (fun g3 => ?_)
            rw [if_neg (fun z => z.elim g1 fun z => z.elim g2 g3)] at hk
            refine c_fail (fl := 1) hG1 (by decide) (by decide) fun μ2 h2 => ?_
            unfold L_X7_piece_120
            rw [if_neg (bad_nz h2)]
            exact hk 0 μ2 h2
    · obtain ⟨n, rfl⟩ : ∃ n, d = n + 1 := ⟨d - 1, by omega⟩
      show BC_X7_part (z_En n) kd q μ K
      have hpe := hG.2.2.2.2.2.2.2.1
      rw [ps6, Cnt_bnd] at hc
      unfold BC_X7_part
      refine i5 n p o a rf _ hv (by omega) (by omega) (Cnt_mono (Cnt_use hc (adv f 5 p o [] hpe (by decide) (fun z => absurd z (by decide)))) (fun fl at' hE cv μ' hB => ?_) (fun p1 c1 hk v cb rf' μ' ev vx hG' => ?_)) μ hG
      · unfold L_X7_part_7
        intro P hP
        refine hP _ _ _ ?_
        unfold B_X7_part_7
        rw [if_neg (bad_nz hB)]
        exact ifd (fun _ => hE cv μ' hB) (fun _ => hE cv μ' hB)
      · obtain ⟨ha, hk⟩ := hk
        have hp1 := ha.2.2.1 (by decide)
        unfold L_X7_part_7
        intro P hP
        exact i7 n p1 o a rf rf' K P c1 v cb 0 hP hv (by omega) (by omega) (Nat.zero_le _) ev ha.2.2.2 vx hk μ' hG'
    · have hpe := hG.2.2.2.2.2.2.2.1
      rw [ps7] at hc
      refine hP _ _ _ ?_
      unfold B_X7_part_7
      have out : ¬ ch p = 38 → K (nI (b2n cb)) μ := fun g => by
        rw [if_neg g] at hc
        exact hc x cb rf1 μ hx hvx hG
      refine ifc (nI_leI (a := 160) (by decide) (by omega)) (fun g => out (by rw [hz p (by omega)]; decide)) (fun g => ?_)
      rw [hG.2.2.2.2.1, if_pos rfl, hG.2.2.1]
      refine ifc (sgn_eq hT (n := 38) (by decide) (by decide)) (fun gt => ?_) out
      rw [if_pos gt, Cnt_bnd] at hc
      have hp := ch_lt hT (p := p) (by omega)
      rw [hG.2.2.2.2.2.1]
      refine c_adv hT hG hp fun μ1 h1 => ?_
      have core : ∀ t, t = nI (b2n (a && cb)) → L_X7_part_53 (z_En d) kd q K P (nI (b2n cb)) (nI i) (nI (b2n a)) t μ1 := fun t et => by
        subst et
        unfold L_X7_part_53
        refine i5 d (p + 1) o (a && cb) rf1 _ (fun z => hv (by rw [Bool.and_eq_true] at z; exact z.1)) (by omega) (by omega) (Cnt_mono (Cnt_use hc (adv f 5 (p + 1) o [] hp (by decide) (fun z => absurd z (by decide)))) (fun fl at' hE cv μ' hB => ?_) (fun p1 c1 hk y cy rf2 μ2 ev vx hG2 => ?_)) _ (good_ask h1)
        · have bad : ∀ w, P w (nI i + 1) (si μ' 10 7 (nI (b2n a))) := fun w => by
            have hB' := bad_si (v := nI (b2n a)) hB (Or.inr (Or.inl rfl))
            refine hP _ _ _ ?_
            unfold B_X7_part_7
            rw [if_neg (bad_nz hB')]
            exact ifd (fun _ => hE w _ hB') (fun _ => hE w _ hB')
          exact ⟨b01 a, ifd (fun _ => bad _) (fun _ => ifd (fun _ => bad _) (fun _ => bad _))⟩
        · obtain ⟨ha, hk⟩ := hk
          have hp1 := ha.2.2.1 (by decide)
          have hp1e := ha.2.1
          have go := i7 d p1 o a rf rf2 K P (acc ++ c1 ++ [(38, 0)]) (evOp 38 x y) (cb && cy) (i + 1) hP hv (by omega) (by omega) (by omega) (ev_bin hx ev (by decide)) (dep_bin hdp ha.2.2.2 (by decide) (by decide)) (vb_and hvx vx) hk _ (good_ask (a' := a) hG2)
          rw [nI_1]
          refine ⟨b01 a, ?_⟩
          cases cb with
          | false =>
            rw [if_pos z0]
            exact go
          | true =>
            rw [if_neg z1]
            cases cy with
            | false =>
              rw [if_pos z0]
              exact go
            | true =>
              rw [if_neg z1]
              exact go
      unfold L_X7_part_52
      cases a with
      | false =>
        rw [if_pos z0]
        exact core 0 (by rw [Bool.false_and]; rfl)
      | true =>
        rw [if_neg z1]
        cases cb with
        | false =>
          rw [if_pos z0]
          exact core 0 (by rw [Bool.and_false]; rfl)
        | true =>
          rw [if_neg z1]
          exact core 1 (by rw [Bool.and_true]; rfl)
    · obtain ⟨n, rfl⟩ : ∃ n, d = n + 1 := ⟨d - 1, by omega⟩
      show BC_X7_condition (z_En n) kd q μ K
      have hpe := hG.2.2.2.2.2.2.2.1
      rw [ps8, Cnt_bnd] at hc
      unfold BC_X7_condition
      refine i6 n p o a rf _ hv (by omega) (by omega) (Cnt_mono (Cnt_use hc (adv f 6 p o [] hpe (by decide) (fun z => absurd z (by decide)))) (fun fl at' hE cv μ' hB => ?_) (fun p1 c1 hk v cb rf' μ' ev vx hG' => ?_)) μ hG
      · unfold L_X7_condition_7
        intro P hP
        refine hP _ _ _ ?_
        unfold B_X7_condition_7
        rw [if_neg (bad_nz hB)]
        exact ifd (fun _ => hE cv μ' hB) (fun _ => hE cv μ' hB)
      · obtain ⟨ha, hk⟩ := hk
        have hp1 := ha.2.2.1 (by decide)
        unfold L_X7_condition_7
        intro P hP
        exact i9 n p1 o a rf rf' K P c1 v cb 0 hP hv (by omega) (by omega) (Nat.zero_le _) ev ha.2.2.2 vx hk μ' hG'
    · have hpe := hG.2.2.2.2.2.2.2.1
      rw [ps9] at hc
      refine hP _ _ _ ?_
      unfold B_X7_condition_7
      have out : ¬ ch p = 124 → K (nI (b2n cb)) μ := fun g => by
        rw [if_neg g] at hc
        exact hc x cb rf1 μ hx hvx hG
      refine ifc (nI_leI (a := 160) (by decide) (by omega)) (fun g => out (by rw [hz p (by omega)]; decide)) (fun g => ?_)
      rw [hG.2.2.2.2.1, if_pos rfl, hG.2.2.1]
      refine ifc (sgn_eq hT (n := 124) (by decide) (by decide)) (fun gt => ?_) out
      rw [if_pos gt, Cnt_bnd] at hc
      have hp := ch_lt hT (p := p) (by omega)
      rw [hG.2.2.2.2.2.1]
      refine c_adv hT hG hp fun μ1 h1 => ?_
      have core : ∀ t, t = nI (b2n (a && !cb)) → L_X7_condition_53 (z_En d) kd q K P (nI (b2n cb)) (nI i) (nI (b2n a)) t μ1 := fun t et => by
        subst et
        unfold L_X7_condition_53
        refine i6 d (p + 1) o (a && !cb) rf1 _ (fun z => hv (by rw [Bool.and_eq_true] at z; exact z.1)) (by omega) (by omega) (Cnt_mono (Cnt_use hc (adv f 6 (p + 1) o [] hp (by decide) (fun z => absurd z (by decide)))) (fun fl at' hE cv μ' hB => ?_) (fun p1 c1 hk y cy rf2 μ2 ev vx hG2 => ?_)) _ (good_ask h1)
        · have bad : ∀ w, P w (nI i + 1) (si μ' 10 7 (nI (b2n a))) := fun w => by
            have hB' := bad_si (v := nI (b2n a)) hB (Or.inr (Or.inl rfl))
            refine hP _ _ _ ?_
            unfold B_X7_condition_7
            rw [if_neg (bad_nz hB')]
            exact ifd (fun _ => hE w _ hB') (fun _ => hE w _ hB')
          exact ⟨b01 a, ifd (fun _ => ifd (fun _ => bad _) (fun _ => bad _)) (fun _ => bad _)⟩
        · obtain ⟨ha, hk⟩ := hk
          have hp1 := ha.2.2.1 (by decide)
          have hp1e := ha.2.1
          have go := i9 d p1 o a rf rf2 K P (acc ++ c1 ++ [(124, 0)]) (evOp 124 x y) (cb || cy) (i + 1) hP hv (by omega) (by omega) (by omega) (ev_bin hx ev (by decide)) (dep_bin hdp ha.2.2.2 (by decide) (by decide)) (vb_or hvx vx) hk _ (good_ask (a' := a) hG2)
          rw [nI_1]
          refine ⟨b01 a, ?_⟩
          cases cb with
          | true =>
            rw [if_neg z1]
            exact go
          | false =>
            rw [if_pos z0]
            cases cy with
            | false =>
              rw [if_pos z0]
              exact go
            | true =>
              rw [if_neg z1]
              exact go
      unfold L_X7_condition_52
      cases a with
      | false =>
        rw [if_pos z0]
        exact core 0 (by rw [Bool.false_and]; rfl)
      | true =>
        rw [if_neg z1]
        cases cb with
        | true =>
          rw [if_neg z1]
          exact core 0 rfl
        | false =>
          rw [if_pos z0]
          exact core 1 rfl
end CRDC
