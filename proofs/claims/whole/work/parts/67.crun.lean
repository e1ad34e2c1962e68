/-! The class: run. -/
theorem bit0 {g h : Nat} (hg : g < 2 ^ 31) (hh : h < 31) : ((nI g >>> (nI h &&& 31)) &&& 1 = 0) ↔ g.testBit h = false := by
  have hb := nI_bit hg hh
  by_cases e : g.testBit h = true
  · rw [hb.mpr e, e]
    exact ⟨fun z => absurd z i10, fun z => Bool.noConfusion z⟩
  · have e2 : (nI g >>> (nI h &&& 31)) &&& 1 = 0 := by
      rw [pk_shrN (by omega) _ h (bit_shift ⟨h, by omega⟩), pk_andN (n := g / 2 ^ h) (by have := Nat.div_le_self g (2 ^ h); omega) 1 rfl]
      rw [Nat.testBit_eq_decide_div_mod_eq] at e
      have : g / 2 ^ h % 2 = 0 := by
        have h5 : ¬ g / 2 ^ h % 2 = 1 := fun z => e (by rw [z]; rfl)
        omega
      rw [show (2 : Nat) ^ 1 = 2 from rfl, this]
      rfl
    rw [e2]
    exact ⟨fun _ => by simpa using e, fun _ => rfl⟩
section CRUN
variable {B : Nat} {S S' : z_SS} {μ μ' : z_M} {kd : z_K} {q : z_Q}
theorem c_winners (hW : WF B S) {r : Nat} (hr3 : r < S.1 0 3) (hr : RvR0 S μ r) (he : S.1 12 r = 1) {K : Int32 → z_M → Prop} (hK : K (nI (popN (S.1 13 r))) μ) : C_X6_winners kd q (30 + 2 * r) μ K := by
  have h4 := (hW.2.2.1 r hr3).2.2.2.2.2.2 he
  unfold C_X6_winners
  rw [(hr.2.2.2.1 he).1]
  exact bc_use (bc256 ⟨S.1 13 r, h4.2.1⟩) hK
theorem c_hasWon (hW : WF B S) {r h : Nat} (hr3 : r < S.1 0 3) (hr : RvR0 S μ r) (he : S.1 12 r = 1) (hh : h < S.1 10 r) {K : Int32 → z_M → Prop} (h1 : (S.1 13 r).testBit h = true → K 1 μ) (h0 : (S.1 13 r).testBit h = false → K 0 μ) : C_X6_hasWon kd q (30 + 2 * r) (nI h) μ K := by
  have h4 := hW.2.2.1 r hr3
  have h5 := h4.2.2.2.2.2.2 he
  unfold C_X6_hasWon
  refine c_holds hr h4.2.1 (fun h' _ _ => ?_) (fun g => absurd rfl (g h hh))
  rw [if_neg i10, (hr.2.2.2.1 he).1]
  exact ifc (bit0 (by omega) (by omega)) h0 (fun z => h1 (by simpa using z))
theorem c_isPlaced (hW : WF B S) {r h : Nat} (hr3 : r < S.1 0 3) (hr : RvR0 S μ r) (he : S.1 12 r = 1) (hh : h < S.1 10 r) {K : Int32 → z_M → Prop} (h1 : (S.1 14 r).testBit h = true → K 1 μ) (h0 : (S.1 14 r).testBit h = false → K 0 μ) : C_X6_isPlaced kd q (30 + 2 * r) (nI h) μ K := by
  have h4 := hW.2.2.1 r hr3
  have h5 := h4.2.2.2.2.2.2 he
  unfold C_X6_isPlaced
  refine c_holds hr h4.2.1 (fun h' _ _ => ?_) (fun g => absurd rfl (g h hh))
  rw [if_neg i10, (hr.2.2.2.1 he).2]
  exact ifc (bit0 (by omega) (by omega)) h0 (fun z => h1 (by simpa using z))
theorem c_rest {z d : Nat} (hz : z ≤ 2000000) (hd : d ≤ 100) {K : Int32 → z_M → Prop} (hK : K (nI (keptS d z)) μ) : C_X11_rest kd q (nI z) (nI d) μ K := by
  have hm : z * (100 - d) ≤ 2000000 * 100 := Nat.mul_le_mul hz (by omega)
  unfold C_X11_rest
  rw [show (100 : Int32) = nI 100 from rfl, pk_sub hd, nI_mul, pk_div (by omega) (by decide) (by decide)]
  exact hK
theorem c_winBack (hV : RepV0 S μ) (hW : WF 80 S) {i r h : Nat} (hi : i < S.1 0 6) (hk : S.1 22 i ≠ 3) (er : r = raceOfS S i) (hl : S.2.1 25 (3 * i + r) = some h) (he : S.1 12 r = 1) {K : Int32 → z_M → Prop} (hK : K (nI (winS S i r h)) μ) : C_X11_winBack kd q (some (100 + 3 * i)) (some (30 + 2 * r)) (nI (dedS S i r)) μ K := by
  have h3 := hW.1
  have h7 := hW.2.2.2.2.2.2.1 i hi
  have hro := raceOfS_ok hW hi
  have hr : r < 3 := by rw [er]; exact hro.1
  have hlg := wf_leg3 (by decide) hW hi hr hl
  have ht := hV.2.2.2 i hi
  have h4 := hW.2.2.1 _ hlg.1
  have hRr := hV.2.1 _ hlg.1
  have hwn := wf_won2 hW hlg.1 he
  have hd := dedS_le S i r
  unfold C_X11_winBack
  refine ⟨_, rfl, ?_⟩
  rw [ht.2.2.2.2 hk, ← er]
  refine c_horseIn hV hi hr ⟨_, rfl, ?_⟩
  rw [hl, oI_some]
  unfold winS at hK
  refine c_isGone hRr h4.2.1 h4.2.2.1 hlg.2.1 (fun e => ?_) (fun e => ?_)
  · rw [if_pos e] at hK
    rw [if_neg i10, ht.1.2.2.2.1]
    exact hK
  · rw [if_neg (by rw [e]; decide)] at hK
    rw [if_pos rfl]
    refine c_winners hW hlg.1 hRr he (c_hasWon hW hlg.1 hRr he hlg.2.1 (fun e2 => ?_) (fun e2 => ?_))
    · rw [if_pos e2] at hK
      rw [if_neg i10]
      refine ifc (nI_leI (a := 1) (by decide) (by omega)) (fun _ => ⟨fun z => ?_, ?_⟩) (fun z => absurd (show 1 ≤ popN (S.1 13 r) by omega) z)
      · have := (nI_eq (b := 0) (by omega) (by decide)).mp z
        omega
      · have hs1 : S.1 23 i / popN (S.1 13 r) ≤ 20000 := Nat.le_trans (Nat.div_le_self _ _) (by omega)
        have hw := wf_won hW hs1 hlg.2.2.1
        rw [ht.2.2.2.2 hk, ← er]
        refine c_stepIn hV hi hr (by rw [hl]; exact fun z => by cases z) ?_
        rw [ht.1.2.2.2.1, pk_div (by omega) (by omega) (by omega)]
        refine c_won hV.1 hW (by omega) hlg.2.2.1 (c_rest (by omega) (by omega) ?_)
        rw [nI_add]
        exact hK
    · rw [if_neg (by rw [e2]; decide)] at hK
      rw [if_pos rfl]
      exact hK
theorem c_placeBack (hV : RepV0 S μ) (hW : WF 80 S) {i r h : Nat} (hi : i < S.1 0 6) (hk : S.1 22 i ≠ 3) (er : r = raceOfS S i) (hl : S.2.1 25 (3 * i + r) = some h) (he : S.1 12 r = 1) {K : Int32 → z_M → Prop} (hK : K (nI (placeS S i r h)) μ) : C_X11_placeBack kd q (some (100 + 3 * i)) (some (30 + 2 * r)) (nI (dedS S i r)) μ K := by
  have h3 := hW.1
  have h7 := hW.2.2.2.2.2.2.1 i hi
  have hro := raceOfS_ok hW hi
  have hr : r < 3 := by rw [er]; exact hro.1
  have hlg := wf_leg3 (by decide) hW hi hr hl
  have ht := hV.2.2.2 i hi
  have h4 := hW.2.2.1 _ hlg.1
  have hRr := hV.2.1 _ hlg.1
  have h5 := hW.2.1 _ hlg.2.2.1
  have hd := dedS_le S i r
  have hls : leftS S r ≤ 8 := by
    have := leftS_pop hW hlg.1
    omega
  unfold C_X11_placeBack
  refine ⟨_, rfl, ?_⟩
  rw [ht.2.2.2.2 hk, ← er]
  refine c_horseIn hV hi hr ⟨_, rfl, c_left hW hlg.1 hRr ?_⟩
  rw [hl, oI_some]
  unfold placeS at hK
  refine ifc (nI_ltI (b := 5) (by omega) (by decide)) (fun e => ?_) (fun e => ?_)
  · rw [if_pos e] at hK
    rw [ht.1.2.2.2.1]
    exact hK
  · rw [if_neg e] at hK
    refine c_isGone hRr h4.2.1 h4.2.2.1 hlg.2.1 (fun e => ?_) (fun e => ?_)
    · rw [if_pos e] at hK
      rw [if_neg i10, ht.1.2.2.2.1]
      exact hK
    · rw [if_neg (by rw [e]; decide)] at hK
      rw [if_pos rfl]
      refine c_isPlaced hW hlg.1 hRr he hlg.2.1 (fun e2 => ?_) (fun e2 => ?_)
      · rw [if_pos e2] at hK
        rw [if_neg i10, ht.2.2.2.2 hk, ← er]
        refine c_stepIn hV hi hr (by rw [hl]; exact fun z => by cases z) (c_aOf hV.1 hW hlg.2.2.1 (c_bOf hV.1 hW hlg.2.2.1 ?_))
        have hm : S.1 23 i * S.1 8 (S.1 26 (3 * i + r)) ≤ 20000 * 60 := Nat.mul_le_mul (by omega) (by omega)
        rw [ht.1.2.2.2.1, nI_mul]
        have fin : ∀ k, 1 ≤ k → k ≤ 5 → K (nI (S.1 23 i + keptS (dedS S i r) (S.1 23 i * S.1 8 (S.1 26 (3 * i + r)) / (S.1 9 (S.1 26 (3 * i + r)) * k)))) μ → L_X11_placeBack_92 kd q K (100 + 3 * i) (nI (dedS S i r)) (nI k) (nI (S.1 9 (S.1 26 (3 * i + r)))) (nI (S.1 23 i * S.1 8 (S.1 26 (3 * i + r)))) μ := fun k k1 k2 hk2 => by
          have hm2 : S.1 9 (S.1 26 (3 * i + r)) * k ≤ 12 * 5 := Nat.mul_le_mul (by omega) k2
          have hp : 0 < S.1 9 (S.1 26 (3 * i + r)) * k := Nat.mul_pos (by omega) k1
          have hdv := Nat.div_le_self (S.1 23 i * S.1 8 (S.1 26 (3 * i + r))) (S.1 9 (S.1 26 (3 * i + r)) * k)
          unfold L_X11_placeBack_92
          rw [nI_mul, pk_div (by omega) hp (by omega)]
          refine ⟨fun z => ?_, c_rest (by omega) (by omega) ?_⟩
          · have := (nI_eq (b := 0) (by omega) (by decide)).mp z
            omega
          · rw [ht.1.2.2.2.1, nI_add]
            exact hk2
        refine ifc (nI_ltI (b := 8) (by omega) (by decide)) (fun e3 => ?_) (fun e3 => ?_)
        · rw [if_neg (show ¬ 8 ≤ leftS S r by omega)] at hK
          exact fin 4 (by decide) (by decide) hK
        · rw [if_pos (show 8 ≤ leftS S r by omega)] at hK
          exact fin 5 (by decide) (by decide) hK
      · rw [if_neg (by rw [e2]; decide)] at hK
        rw [if_pos rfl]
        exact hK
theorem c_singleBack (hQ : KQ S kd q) (hV : RepV0 S μ) (hW : WF 80 S) {i : Nat} (hi : i < S.1 0 6) (hk : S.1 22 i ≠ 3) (ho : outP S i) {K : Int32 → z_M → Prop} (hK : K (nI (backS S i)) μ) : C_X11_singleBack kd q (nI i) (some (100 + 3 * i)) μ K := by
  have h3 := hW.1
  have h7 := hW.2.2.2.2.2.2.1 i hi
  have hro := raceOfS_ok hW hi
  have hlg := wf_leg3 (by decide) hW hi hro.1 hro.2
  have ht := hV.2.2.2 i hi
  have he : S.1 12 (raceOfS S i) = 1 := ho _ hro.1 (by rw [hro.2]; exact fun z => by cases z)
  unfold C_X11_singleBack
  refine ⟨_, rfl, ?_⟩
  rw [ht.2.2.2.2 hk]
  refine c_raceN hQ hV.1 hW hlg.1 (opt_s (c_dedFrom hQ hV hW hi hk ?_))
  unfold backS at hK
  rw [if_neg hk] at hK
  rw [ht.1.2.2.1]
  have second : ∀ w, w = (if S.1 22 i = 1 then 0 else winS S i (raceOfS S i) (legH S i)) → L_X11_singleBack_47 kd q K (100 + 3 * i) (30 + 2 * raceOfS S i) (nI (dedS S i (raceOfS S i))) (nI w) μ := fun w ew => by
    unfold L_X11_singleBack_47
    rw [ht.1.2.2.1]
    rw [← ew] at hK
    refine ifc (nI_eq (b := 0) (by omega) (by decide)) (fun z => ?_) (fun z => ?_)
    · rw [if_pos z, Nat.add_zero] at hK
      exact hK
    · rw [if_neg z] at hK
      refine c_placeBack hV hW hi hk rfl hro.2 he ?_
      rw [nI_add]
      exact hK
  refine ifc (nI_eq (b := 1) (by omega) (by decide)) (fun z => second 0 (by rw [if_pos z])) (fun z => ?_)
  refine c_winBack hV hW hi hk rfl hro.2 he ?_
  rw [show (0 : Int32) + nI (winS S i (raceOfS S i) (legH S i)) = nI (winS S i (raceOfS S i) (legH S i)) by rw [show (0 : Int32) = nI 0 from rfl, nI_add, Nat.zero_add]]
  exact second _ (by rw [if_neg z])
theorem c_joinedBack (hQ : KQ S kd q) (hV : RepV0 S μ) (hW : WF 80 S) {i : Nat} (hi : i < S.1 0 6) (ho : outP S i) {K : Int32 → z_M → Prop} (hK : K (nI (joinS S i 3 (S.1 23 i) 1 1)) μ) : C_X11_joinedBack kd q (some (100 + 3 * i)) μ K := by
  have h3 := hW.1
  have h7 := hW.2.2.2.2.2.2.1 i hi
  have ht := hV.2.2.2 i hi
  unfold C_X11_joinedBack
  refine ⟨_, rfl, ?_⟩
  rw [ht.1.2.2.2.1]
  unfold L_X11_joinedBack_13
  intro P hP
  have p72 : ∀ m, m ≤ 3 → 72 ^ (3 - m) ≤ 373248 := fun m hm => by
    have : (72 : Nat) ^ (3 - m) ≤ 72 ^ 3 := Nat.pow_le_pow_right (by decide) (by omega)
    have e : (72 : Nat) ^ 3 = 373248 := by decide
    omega
  have p12 : ∀ m, m ≤ 3 → 12 ^ (3 - m) ≤ 1728 := fun m hm => by
    have : (12 : Nat) ^ (3 - m) ≤ 12 ^ 3 := Nat.pow_le_pow_right (by decide) (by omega)
    have e : (12 : Nat) ^ 3 = 1728 := by decide
    omega
  have key : ∀ m, m ≤ 3 → ∀ st nu de, st ≤ 20000 → nu ≤ 72 ^ (3 - m) → 1 ≤ de → de ≤ 12 ^ (3 - m) → K (nI (joinS S i m st nu de)) μ → P (100 + 3 * i) (nI st) (lN nu) (nI de) (nI (3 - m)) μ := by
    intro m
    induction m with
    | zero =>
      intro _ st nu de h1 h2 h4 h5 hk
      have q1 := p72 0 (by decide)
      have q2 := p12 0 (by decide)
      have hm : st * nu ≤ 20000 * 373248 := Nat.mul_le_mul h1 (by omega)
      have hdv := Nat.div_le_self (st * nu) de
      refine hP _ _ _ _ _ _ ?_
      unfold B_X11_joinedBack_13
      have ez : z_max (nI de) 1 = nI de := by
        rw [show (1 : Int32) = nI 1 from rfl, zmax_n (by omega) (by decide)]
        congr 1
        exact Nat.max_eq_left h4
      rw [Nat.sub_zero, if_pos (show (3 : Int32) ≤ nI 3 by decide), ez, nI_l (by omega), nI_l (by omega), lN_mul, pk_lDiv (by omega) (by omega) (by omega)]
      refine ⟨fun z => ?_, ?_⟩
      · have := (pk_lEQ (b := 0) (by omega) (by decide)).mp z
        omega
      · unfold z_minL
        unfold joinS at hk
        by_cases g : st * nu / de ≤ 1000000000
        · rw [if_pos g] at hk
          rw [if_neg (fun z => by have := (pk_lLT (a := 1000000000) (by decide) (by omega)).mp z; omega), lN_i]
          exact hk
        · rw [if_neg g] at hk
          rw [if_pos (show (1000000000 : Int64) < lN (st * nu / de) from (pk_lLT (a := 1000000000) (by decide) (by omega)).mpr (by omega))]
          exact hk
    | succ m ih =>
      intro hm st nu de h1 h2 h4 h5 hk
      have q1 := p72 (m + 1) hm
      have q2 := p12 (m + 1) hm
      have e1 : 3 - (m + 1) = 2 - m := by omega
      have e2 : 2 - m + 1 = 3 - m := by omega
      rw [e1] at h2 h5 q1 q2
      have r72 : (72 : Nat) ^ (3 - m) = 72 ^ (2 - m) * 72 := by rw [← e2, Nat.pow_succ]
      have r12 : (12 : Nat) ^ (3 - m) = 12 ^ (2 - m) * 12 := by rw [← e2, Nat.pow_succ]
      rw [e1]
      have hr : 2 - m < 3 := by omega
      unfold joinS at hk
      refine hP _ _ _ _ _ _ ?_
      unfold B_X11_joinedBack_13
      rw [if_neg (fun z => by have := (nI_leI (a := 3) (by decide) (by omega)).mp z; omega)]
      refine c_horseIn hV hi hr ?_
      cases hl : S.2.1 25 (3 * i + (2 - m)) with
      | none =>
        rw [hl] at hk
        have nxt : P (100 + 3 * i) (nI st) (lN nu) (nI de) (nI (2 - m) + 1) μ := by
          rw [nI_1, e2]
          exact ih (by omega) st nu de h1 (by rw [r72]; omega) h4 (by rw [r12]; omega) hk
        refine c_raceAt hQ hV.1 hW (fun r _ _ => ?_) (fun _ => ?_)
        · rw [if_pos oI_none]
          exact nxt
        · rw [if_pos oI_none]
          exact nxt
      | some h =>
        rw [hl] at hk
        dsimp only at hk
        have hlg := wf_leg3 (by decide) hW hi hr hl
        have h4' := hW.2.2.1 _ hlg.1
        have hRr := hV.2.1 _ hlg.1
        have he : S.1 12 (2 - m) = 1 := ho _ hr (by rw [hl]; exact fun z => by cases z)
        have hwn := wf_won2 hW hlg.1 he
        have h5' := hW.2.1 _ hlg.2.2.1
        refine c_raceN hQ hV.1 hW hlg.1 ?_
        rw [oI_some, if_neg (nI_ne_m1 (by omega))]
        refine opt_s (c_isGone hRr h4'.2.1 h4'.2.2.1 hlg.2.1 (fun e => ?_) (fun e => ?_))
        · rw [if_pos e] at hk
          rw [if_neg i10, nI_1, e2]
          exact ih (by omega) st nu de h1 (by rw [r72]; omega) h4 (by rw [r12]; omega) hk
        · rw [if_neg (by rw [e]; decide)] at hk
          rw [if_pos rfl]
          refine c_winners hW hlg.1 hRr he (c_hasWon hW hlg.1 hRr he hlg.2.1 (fun e3 => ?_) (fun e3 => ?_))
          · rw [if_pos e3] at hk
            rw [if_neg i10]
            refine ifc (nI_leI (a := 1) (by decide) (by omega)) (fun _ => ?_) (fun z => absurd (show 1 ≤ popN (S.1 13 (2 - m)) by omega) z)
            refine c_stepIn hV hi hr (by rw [hl]; exact fun z => by cases z) ⟨fun z => ?_, c_aOf hV.1 hW hlg.2.2.1 (c_bOf hV.1 hW hlg.2.2.1 (c_bOf hV.1 hW hlg.2.2.1 ?_))⟩
            · have := (nI_eq (b := 0) (by omega) (by decide)).mp z
              omega
            · have hdv := Nat.div_le_self st (popN (S.1 13 (2 - m)))
              have m1 : nu * (S.1 8 (S.1 26 (3 * i + (2 - m))) + S.1 9 (S.1 26 (3 * i + (2 - m)))) ≤ 72 ^ (2 - m) * 72 := Nat.mul_le_mul h2 (by omega)
              have m2 : de * S.1 9 (S.1 26 (3 * i + (2 - m))) ≤ 12 ^ (2 - m) * 12 := Nat.mul_le_mul h5 (by omega)
              have m3 : 0 < de * S.1 9 (S.1 26 (3 * i + (2 - m))) := Nat.mul_pos h4 (by omega)
              rw [pk_div (by omega) (by omega) (by omega), nI_add, nI_l (by omega), lN_mul, nI_mul, nI_1, e2]
              exact ih (by omega) _ _ _ (by omega) (by rw [r72]; exact m1) m3 (by rw [r12]; exact m2) hk
          · rw [if_neg (by rw [e3]; decide)] at hk
            rw [if_pos rfl]
            exact hk
  exact key 3 (Nat.le_refl _) (S.1 23 i) 1 1 (by omega) (by decide) (by decide) (by decide) hK
theorem c_allEnded (hQ : KQ S kd q) (hV : RepV0 S μ) (hW : WF 80 S) {i : Nat} (hi : i < S.1 0 6) {K : Int32 → z_M → Prop} (h1 : outP S i → K 1 μ) (h0 : ¬ outP S i → K 0 μ) : C_X11_allEnded kd q (some (100 + 3 * i)) μ K := by
  have h3 := hW.1
  unfold C_X11_allEnded L_X11_allEnded_2
  intro P hP
  refine downTo (Q := fun r => (∀ r', r' < r → r' < 3 → S.2.1 25 (3 * i + r') ≠ none → S.1 12 r' = 1) → P (some (100 + 3 * i)) (nI r) μ) 3 ?_ (fun r hr ih => ?_) 0 (Nat.zero_le _) (fun r' h => absurd h (Nat.not_lt_zero r'))
  · intro hn
    refine hP _ _ _ ?_
    unfold B_X11_allEnded_2
    rw [if_pos (show (3 : Int32) ≤ nI 3 by decide)]
    exact h1 fun r hr hl => hn r hr hr hl
  · intro hn
    refine hP _ _ _ ?_
    unfold B_X11_allEnded_2
    rw [if_neg (fun z => by have := (nI_leI (a := 3) (by decide) (by omega)).mp z; omega)]
    refine ⟨_, rfl, c_horseIn hV hi hr ?_⟩
    cases hl : S.2.1 25 (3 * i + r) with
    | none =>
      rw [if_pos oI_none, nI_1]
      refine ih fun r' hr' hr3 hl' => ?_
      by_cases e : r' = r
      · rw [e] at hl'
        exact absurd hl hl'
      · exact hn r' (by omega) hr3 hl'
    | some h =>
      have hlg := wf_leg3 (by decide) hW hi hr hl
      have h4 := hW.2.2.1 _ hlg.1
      rw [oI_some, if_neg (nI_ne_m1 (by omega))]
      refine c_raceN hQ hV.1 hW hlg.1 (opt_s ?_)
      rw [(hV.2.1 _ hlg.1).2.2.1]
      refine ifc (nI_eq (b := 0) (by omega) (by decide)) (fun z => h0 fun ho => ?_) (fun z => ?_)
      · have := ho r hr (by rw [hl]; exact fun y => by cases y)
        omega
      · rw [nI_1]
        refine ih fun r' hr' hr3 hl' => ?_
        by_cases e : r' = r
        · rw [e]
          omega
        · exact hn r' (by omega) hr3 hl'
/-- a bet paid -/
theorem RepV_pays (hW : WF B S) (hV : RepV S μ) {i : Nat} (hi : i < S.1 0 6) (e1 : ∀ c k, c ≠ 15 → c ≠ 16 → c ≠ 27 → c ≠ 28 → S'.1 c k = S.1 c k) (e2 : S'.2 = S.2) (e27 : ∀ j, S'.1 27 j = if j = i then 1 else S.1 27 j) (e28 : ∀ j, j ≠ i → S'.1 28 j = S.1 28 j) (hm : ∀ c k, (c ≠ 100 + 3 * i ∨ k < 8) → (∀ b, b < 4 → c ≠ 40 + 8 * b ∨ 2 ≤ k) → μ'.1 c k = μ.1 c k) (h8 : μ'.1 (100 + 3 * i) 8 = 1) (h9 : μ'.1 (100 + 3 * i) 9 = nI (S'.1 28 i)) (h10 : μ'.1 (100 + 3 * i) 10 = nI (backS S i)) (hb : ∀ b, b < S.1 0 4 → μ'.1 (40 + 8 * b) 0 = nI (S'.1 15 b) ∧ μ'.1 (40 + 8 * b) 1 = nI (S'.1 16 b)) : RepV S' μ' := by
  have h3 := hW.1
  have f0 := fun k => e1 0 k (by decide) (by decide) (by decide) (by decide)
  have bs : btSame S S' := ⟨f0 6, fun i hi => ⟨fun c c1 c2 => e1 c i (by omega) (by omega) (by omega) (by omega), fun r _ => by rw [e2], fun r _ _ => e1 26 _ (by decide) (by decide) (by decide) (by decide)⟩, fun s => ⟨e1 8 s (by decide) (by decide) (by decide) (by decide), e1 9 s (by decide) (by decide) (by decide) (by decide)⟩⟩
  have bk := fun j (hj : j < S.1 0 6) => backS_eq hW hj (bk_of bs hj (fun r _ => ⟨e1 10 r (by decide) (by decide) (by decide) (by decide), e1 11 r (by decide) (by decide) (by decide) (by decide), e1 13 r (by decide) (by decide) (by decide) (by decide), e1 14 r (by decide) (by decide) (by decide) (by decide)⟩) (fun k => e1 18 k (by decide) (by decide) (by decide) (by decide)) (fun k => by rw [e2]))
  refine ⟨?_, fun r hr => ?_, fun b hb2 => ?_, fun j hj => ?_⟩
  · obtain ⟨g1, g2, g3, g4, g5, g6, g7, g8⟩ := RvG_same hV.1 (μ' := μ') fun c k hc => hm c k (by omega) (fun b _ => by omega)
    exact ⟨by rw [f0]; exact g1, by rw [f0]; exact g2, by rw [f0]; exact g3, by rw [f0]; exact g4, by rw [f0]; exact g5, fun k hk => by rw [e1 1 k (by decide) (by decide) (by decide) (by decide)]; exact g6 k hk, by rw [f0]; exact g7, fun s hs => by rw [f0] at hs; rw [e1 8 s (by decide) (by decide) (by decide) (by decide), e1 9 s (by decide) (by decide) (by decide) (by decide)]; exact g8 s hs⟩
  · rw [f0] at hr
    exact RvR_keep (RvR_same (hV.2.1 r hr) fun c k c1 c2 => hm c k (by omega) (fun b _ => by omega)) (fun c c1 c2 => e1 c r (by omega) (by omega) (by omega) (by omega)) (fun x => e1 18 _ (by decide) (by decide) (by decide) (by decide)) (f0 2) (fun s _ => e1 60 _ (by decide) (by decide) (by decide) (by decide))
  · rw [f0] at hb2
    obtain ⟨b0, b1, b2, b3, b4, b5, b6⟩ := hV.2.2.1 b hb2
    have mm : ∀ c k, 40 + 8 * b ≤ c → c ≤ 40 + 8 * b + 7 → (c ≠ 40 + 8 * b ∨ 2 ≤ k) → μ'.1 c k = μ.1 c k := fun c k c1 c2 c3 => hm c k (by omega) (fun b' _ => by omega)
    refine ⟨(hb b hb2).1, (hb b hb2).2, by rw [mm _ 2 (by omega) (by omega) (by omega), betsOf_eq bs]; exact b2, fun k hk => by rw [mm _ k (by omega) (by omega) (by omega), e2]; exact b3 k hk, fun r x hr hx => ?_, RvO_keep (S := S) ⟨fun r x hr hx => ?_, fun r hr => ?_⟩ bs (f0 3) (fun r _ => e1 10 r (by decide) (by decide) (by decide) (by decide)) (fun r _ => e1 11 r (by decide) (by decide) (by decide) (by decide)), TxB_keep (S := S) ?_ (by rw [e2])⟩
    · rw [f0] at hr
      rw [e1 11 r (by decide) (by decide) (by decide) (by decide)] at hx
      rw [mm _ _ (by omega) (by omega) (by omega), e2]
      exact b4 r x hr hx
    · rw [mm _ _ (by omega) (by omega) (by omega), mm _ _ (by omega) (by omega) (by omega), mm _ _ (by omega) (by omega) (by omega)]
      exact b5.1 r x hr hx
    · rw [mm _ _ (by omega) (by omega) (by omega)]
      exact b5.2 r hr
    · unfold TxB at b6 ⊢
      rw [mm _ 10 (by omega) (by omega) (by omega), mm _ 11 (by omega) (by omega) (by omega)]
      refine ⟨b6.1, fun hn => ?_⟩
      obtain ⟨n, t, g1, g2, g3, g4, g5, g6⟩ := b6.2 hn
      exact ⟨n, t, g1, g2, g3, fun k hk => by rw [mm _ k (by omega) (by omega) (by omega)]; exact g4 k hk, g5, g6⟩
  · rw [f0] at hj
    by_cases ej : j = i
    · subst ej
      have t0 := RvT0_same (hV.2.2.2 j hj).to0 (μ' := μ') fun c k c1 c2 c3 => hm c k (by omega) (fun b _ => by omega)
      obtain ⟨⟨t0, t1, t2, t3, t4⟩, t5, t6, t7⟩ := t0
      have c20 := fun c (c1 : 20 ≤ c) (c2 : c ≤ 24) => e1 c j (by omega) (by omega) (by omega) (by omega)
      refine ⟨⟨by rw [c20 20 (by decide) (by decide)]; exact t0, by rw [c20 21 (by decide) (by decide)]; exact t1, by rw [c20 22 (by decide) (by decide)]; exact t2, by rw [c20 23 (by decide) (by decide)]; exact t3, by rw [c20 24 (by decide) (by decide)]; exact t4⟩, fun r hr => by rw [e2]; exact t5 r hr, fun r hr hn => ?_, ⟨t7.1, fun hk => ?_⟩, by rw [e27, if_pos rfl]; exact h8, h9, fun _ => by rw [bk j hj]; exact h10⟩
      · rw [e2] at hn
        rw [e1 26 _ (by decide) (by decide) (by decide) (by decide)]
        exact t6 r hr hn
      · rw [c20 22 (by decide) (by decide)] at hk
        rw [raceOfS_eq (S := S) (fun r _ => by rw [e2])]
        exact t7.2 hk
    · exact RvT_keep (RvT_same (hV.2.2.2 j hj) fun c k c1 c2 => hm c k (by omega) (fun b _ => by omega)) (fun c c1 c2 => e1 c j (by omega) (by omega) (by omega) (by omega)) (by rw [e27, if_neg ej]) (e28 j ej) (fun r _ => by rw [e2]) (fun r _ _ => e1 26 _ (by decide) (by decide) (by decide) (by decide)) (fun _ => bk j hj)
theorem c_decide (hQ : KQ S kd q) (hV : RepV S μ) (hW : WF 80 S) {i : Nat} (hi : i < S.1 0 6) (ho : outP S i) {K : z_M → Prop} (hK : ∀ μ', RepV (paysS S i) μ' → K μ') : C_X11_decide kd q (nI i) (some (100 + 3 * i)) μ K := by
  have h3 := hW.1
  have h7 := hW.2.2.2.2.2.2.1 i hi
  have ht := hV.2.2.2 i hi
  have hbk := hW.2.2.2.1 _ h7.2.1
  have hB := hV.2.2.1 _ h7.2.1
  have hle := backS_le hW hi
  have hV0 : RepV0 S (si μ (100 + 3 * i) 8 1) := ⟨RvG_same hV.1 fun c k hc => by rw [si1, if_neg (by omega)], fun r hr => RvR0_same (hV.2.1 r hr).to0 fun c k c1 c2 _ => by rw [si1, if_neg (by omega)], fun b hb => RvB_same (hV.2.2.1 b hb) fun c k c1 c2 => by rw [si1, if_neg (by omega)], fun j hj => RvT0_same (hV.2.2.2 j hj).to0 fun c k c1 c2 c3 => by rw [si1, if_neg (by omega)]⟩
  have fin : L_X11_decide_28 kd q K (100 + 3 * i) (nI (backS S i)) (100 + 3 * i) (si μ (100 + 3 * i) 8 1) := by
    unfold L_X11_decide_28
    generalize hm : si (si μ (100 + 3 * i) 8 1) (100 + 3 * i) 10 (nI (backS S i)) = m
    have mo : ∀ c k, (c ≠ 100 + 3 * i ∨ k < 8 ∨ k = 9) → m.1 c k = μ.1 c k := fun c k hc => by rw [← hm, si1, if_neg (by omega), si1, if_neg (by omega)]
    have m8 : m.1 (100 + 3 * i) 8 = 1 := by rw [← hm, si1, if_neg (by omega), si1, if_pos ⟨rfl, rfl⟩]
    have m10 : m.1 (100 + 3 * i) 10 = nI (backS S i) := by rw [← hm, si1, if_pos ⟨rfl, rfl⟩]
    have hG := RvG_same hV.1 (μ' := m) fun c k hc => mo c k (by omega)
    rw [mo _ 1 (by omega), ht.1.2.1]
    refine c_bookN hQ hG hW h7.2.1 (opt_s ?_)
    rw [mo _ 1 (by omega), mo _ 0 (by omega), m10, hB.1, hB.2.1]
    refine ifc (nI_eq (b := 0) (by omega) (by decide)) (fun e16 => ?_) (fun e16 => ?_)
    · refine ifc (nI_ltI (by omega) (by omega)) (fun e => ?_) (fun e => ?_)
      · have ep : paysS S i = setN (setN S 27 i 1) 16 (S.1 21 i) 1 := by
          unfold paysS
          rw [if_pos e16, if_neg (by omega)]
        rw [ep] at hK
        refine hK _ (RepV_pays hW hV hi (fun c k c1 c2 c3 c4 => by rw [setN_1, if_neg (by omega), setN_1, if_neg (by omega)]) rfl (fun j => ?_) (fun j _ => by rw [setN_1, if_neg (by omega), setN_1, if_neg (by omega)]) (fun c k c1 c2 => ?_) ?_ ?_ ?_ (fun b hb => ?_))
        · rw [setN_1, if_neg (by omega), setN_1]
          by_cases q : j = i
          · rw [if_pos ⟨rfl, q⟩, if_pos q]
          · rw [if_neg (fun z => q z.2), if_neg q]
        · have := c2 (S.1 21 i) (by omega)
          rw [si1, if_neg (by omega)]
          exact mo c k (by omega)
        · rw [si1, if_neg (by omega)]
          exact m8
        · rw [si1, if_neg (by omega), mo _ 9 (by omega), setN_1, if_neg (by omega), setN_1, if_neg (by omega)]
          exact ht.2.2.2.2.2.1
        · rw [si1, if_neg (by omega)]
          exact m10
        · have hb5 := hV.2.2.1 b hb
          refine ⟨by rw [si1, if_neg (by omega), mo _ 0 (by omega), setN_1, if_neg (by omega), setN_1, if_neg (by omega)]; exact hb5.1, ?_⟩
          rw [si1, setN_1]
          by_cases q : b = S.1 21 i
          · rw [if_pos ⟨by omega, rfl⟩, if_pos ⟨rfl, q⟩]
            rfl
          · rw [if_neg (by omega), if_neg (fun z => q z.2), mo _ 1 (by omega), setN_1, if_neg (by omega)]
            exact hb5.2.1
      · have ep : paysS S i = setN (setN (setN S 27 i 1) 15 (S.1 21 i) (S.1 15 (S.1 21 i) - backS S i)) 28 i 1 := by
          unfold paysS
          rw [if_pos e16, if_pos (by omega)]
        rw [ep] at hK
        rw [pk_sub (by omega)]
        refine hK _ (RepV_pays hW hV hi (fun c k c1 c2 c3 c4 => by rw [setN_1, if_neg (by omega), setN_1, if_neg (by omega), setN_1, if_neg (by omega)]) rfl (fun j => ?_) (fun j hj => by rw [setN_1, if_neg (by omega), setN_1, if_neg (by omega), setN_1, if_neg (by omega)]) (fun c k c1 c2 => ?_) ?_ ?_ ?_ (fun b hb => ?_))
        · rw [setN_1, if_neg (by omega), setN_1, if_neg (by omega), setN_1]
          by_cases q : j = i
          · rw [if_pos ⟨rfl, q⟩, if_pos q]
          · rw [if_neg (fun z => q z.2), if_neg q]
        · have := c2 (S.1 21 i) (by omega)
          rw [si1, if_neg (by omega), si1, if_neg (by omega)]
          exact mo c k (by omega)
        · rw [si1, if_neg (by omega), si1, if_neg (by omega)]
          exact m8
        · rw [si1, if_pos ⟨rfl, rfl⟩, setN_1, if_pos ⟨rfl, rfl⟩]
          rfl
        · rw [si1, if_neg (by omega), si1, if_neg (by omega)]
          exact m10
        · have hb5 := hV.2.2.1 b hb
          refine ⟨?_, by rw [si1, if_neg (by omega), si1, if_neg (by omega), mo _ 1 (by omega), setN_1, if_neg (by omega), setN_1, if_neg (by omega), setN_1, if_neg (by omega)]; exact hb5.2.1⟩
          rw [si1, if_neg (by omega), si1]
          by_cases q : b = S.1 21 i
          · rw [if_pos ⟨by omega, rfl⟩, setN_1, if_neg (by omega), setN_1, if_pos ⟨rfl, q⟩]
          · rw [if_neg (by omega), mo _ 0 (by omega), setN_1, if_neg (by omega), setN_1, if_neg (fun z => q z.2), setN_1, if_neg (by omega)]
            exact hb5.1
    · have ep : paysS S i = setN S 27 i 1 := by
        unfold paysS
        rw [if_neg e16]
      rw [ep] at hK
      refine hK _ (RepV_pays hW hV hi (fun c k c1 c2 c3 c4 => by rw [setN_1, if_neg (by omega)]) rfl (fun j => ?_) (fun j _ => by rw [setN_1, if_neg (by omega)]) (fun c k c1 c2 => mo c k (by omega)) m8 ?_ m10 (fun b hb => ?_))
      · rw [setN_1]
        by_cases q : j = i
        · rw [if_pos ⟨rfl, q⟩, if_pos q]
        · rw [if_neg (fun z => q z.2), if_neg q]
      · rw [mo _ 9 (by omega), setN_1, if_neg (by omega)]
        exact ht.2.2.2.2.2.1
      · have hb5 := hV.2.2.1 b hb
        refine ⟨by rw [mo _ 0 (by omega), setN_1, if_neg (by omega)]; exact hb5.1, by rw [mo _ 1 (by omega), setN_1, if_neg (by omega)]; exact hb5.2.1⟩
  unfold C_X11_decide
  refine ⟨_, rfl, ?_⟩
  rw [show (si μ (100 + 3 * i) 8 1).1 (100 + 3 * i) 2 = nI (S.1 22 i) by rw [si1, if_neg (by omega)]; exact ht.1.2.2.1]
  refine ifc (nI_eq (b := 3) (by omega) (by decide)) (fun e => ?_) (fun e => ?_)
  · refine c_joinedBack hQ hV0 hW hi ho ?_
    have eb : backS S i = joinS S i 3 (S.1 23 i) 1 1 := if_pos e
    rw [← eb]
    exact fin
  · exact c_singleBack hQ hV0 hW hi e ho fin
theorem runN_27 : ∀ n j, n ≤ j → (runN S n).2.1 27 j = S.1 27 j := by
  intro n
  induction n with
  | zero => intro j _; rfl
  | succ n ih =>
    intro j hj
    unfold runN
    split
    · have e : (paysS (runN S n).2 n).1 27 j = (runN S n).2.1 27 j := by
        unfold paysS
        split
        · split
          · rw [setN_1, if_neg (by omega), setN_1, if_neg (by omega), setN_1, if_neg (by omega)]
          · rw [setN_1, if_neg (by omega), setN_1, if_neg (by omega)]
        · rw [setN_1, if_neg (by omega)]
      exact e.trans (ih j (by omega))
    · exact ih j (by omega)
theorem c_run (hQ : KQ S kd q) (hV : RepV S μ) (hW : WF 80 S) (hD : WFd S) {a b c : Int32} {K : Int32 → z_M → Prop} (hK : ∀ μ', RepV (opRun S a b c).2 μ' → K (opRun S a b c).1 μ') : C_X11_run kd q a b c μ K := by
  have h3 := hW.1
  unfold C_X11_run
  unfold opRun at hK
  refine c_raceAt hQ hV.1 hW (fun r hr e => opt_s ?_) (fun g => opt_n (by rw [ixO_none g] at hK; exact hK μ hV))
  subst e
  have h4 := hW.2.2.1 r hr
  have hRr := hV.2.1 r hr
  rw [ixO_some hr (by omega)] at hK
  dsimp only at hK
  rw [hRr.2.2.1]
  have no : ¬ (S.1 12 r = 0 ∧ b ≠ 0 ∧ b &&& (allI S r ^^^ -1) = 0 ∧ c &&& (allI S r ^^^ -1) = 0 ∧ b &&& (c ^^^ -1) = 0) → K (-1) μ := fun g => by
    rw [if_neg g] at hK
    exact hK μ hV
  refine ifc (nI_eq (b := 0) (by omega) (by decide)) (fun e0 => ?_) (fun e0 => no fun z => e0 z.1)
  refine ifd (fun eb => no fun z => z.2.1 eb) (fun eb => ?_)
  refine c_runners hRr.to0 (ifd (fun g1 => ?_) (fun g1 => no fun z => g1 z.2.2.1))
  refine c_runners hRr.to0 (ifd (fun g2 => ?_) (fun g2 => no fun z => g2 z.2.2.2.1))
  refine ifd (fun g3 => ?_) (fun g3 => no fun z => g3 z.2.2.2.2)
  rw [if_pos ⟨e0, eb, g1, g2, g3⟩] at hK
  have hW1 := endS_WF hW hr eb g1 g2 g3
  obtain ⟨bb1, bb2, _⟩ := endS_bits hW hr g1
  obtain ⟨bc1, bc2, _⟩ := endS_bits hW hr g2
  have m1 : ∀ c' k, c' ≠ 12 → c' ≠ 13 → c' ≠ 14 → (endS S r b c).1 c' k = S.1 c' k := fun c' k c1 c2 c3 => by
    unfold endS
    rw [setN_1, if_neg (by omega), setN_1, if_neg (by omega), setN_1, if_neg (by omega)]
  have mr : ∀ c' k, k ≠ r → (endS S r b c).1 c' k = S.1 c' k := fun c' k c1 => by
    unfold endS
    rw [setN_1, if_neg (by omega), setN_1, if_neg (by omega), setN_1, if_neg (by omega)]
  have m12 : (endS S r b c).1 12 r = 1 := by
    unfold endS
    rw [setN_1, if_neg (by omega), setN_1, if_neg (by omega), setN_1, if_pos ⟨rfl, rfl⟩]
  have m13 : nI ((endS S r b c).1 13 r) = b := by
    unfold endS
    rw [setN_1, if_neg (by omega), setN_1, if_pos ⟨rfl, rfl⟩]
    exact bb1.symm
  have m14 : nI ((endS S r b c).1 14 r) = c := by
    unfold endS
    rw [setN_1, if_pos ⟨rfl, rfl⟩]
    exact bc1.symm
  have m2 : (endS S r b c).2 = S.2 := rfl
  generalize endS S r b c = S1 at hK hW1 m1 mr m12 m13 m14 m2
  have f0 := fun k => m1 0 k (by decide) (by decide) (by decide)
  have bs : btSame S S1 := ⟨f0 6, fun i hi => ⟨fun c c1 c2 => m1 c i (by omega) (by omega) (by omega), fun r _ => by rw [m2], fun r _ _ => m1 26 _ (by decide) (by decide) (by decide)⟩, fun s => ⟨m1 8 s (by decide) (by decide) (by decide), m1 9 s (by decide) (by decide) (by decide)⟩⟩
  unfold C_X6_end
  generalize hm : si (si (si μ (30 + 2 * r) 4 b) (30 + 2 * r) 5 c) (30 + 2 * r) 3 1 = m
  have mo : ∀ c k, (c ≠ 30 + 2 * r ∨ k < 3 ∨ 5 < k) → m.1 c k = μ.1 c k := fun c k hc => by rw [← hm, si1, if_neg (by omega), si1, if_neg (by omega), si1, if_neg (by omega)]
  have hV1 : RepV S1 m := by
    refine ⟨?_, fun r' hr' => ?_, fun b' hb' => ?_, fun i hi => ?_⟩
    · obtain ⟨g1, g2, g3, g4, g5, g6, g7, g8⟩ := RvG_same hV.1 (μ' := m) fun c k hc => mo c k (by omega)
      exact ⟨by rw [f0]; exact g1, by rw [f0]; exact g2, by rw [f0]; exact g3, by rw [f0]; exact g4, by rw [f0]; exact g5, fun k hk => by rw [m1 1 k (by decide) (by decide) (by decide)]; exact g6 k hk, by rw [f0]; exact g7, fun s hs => by rw [f0] at hs; rw [m1 8 s (by decide) (by decide) (by decide), m1 9 s (by decide) (by decide) (by decide)]; exact g8 s hs⟩
    · rw [f0] at hr'
      by_cases er : r' = r
      · subst er
        obtain ⟨a1, a2, a3, a4, a5, a6⟩ := hRr
        refine ⟨by rw [mo _ 0 (by omega), m1 10 r' (by decide) (by decide) (by decide)]; exact a1, by rw [mo _ 2 (by omega), m1 11 r' (by decide) (by decide) (by decide)]; exact a2, by rw [← hm, si1, if_pos ⟨rfl, rfl⟩, m12]; rfl, fun _ => ⟨by rw [m13, ← hm, si1, if_neg (by omega), si1, if_neg (by omega), si1, if_pos ⟨rfl, rfl⟩], by rw [m14, ← hm, si1, if_neg (by omega), si1, if_pos ⟨rfl, rfl⟩]⟩, fun x hx => ?_, ?_⟩
        · rw [m1 11 r' (by decide) (by decide) (by decide)] at hx
          rw [mo _ x (by omega), m1 18 _ (by decide) (by decide) (by decide)]
          exact a5 x hx
        · refine RvSt_keep (S := S) ?_ (f0 2) (fun s _ => m1 60 _ (by decide) (by decide) (by decide))
          unfold RvSt at a6 ⊢
          rw [mo _ 6 (by omega), mo _ 7 (by omega), mo _ 8 (by omega), mo _ 10 (by omega), mo _ 9 (by omega)]
          exact a6
      · exact RvR_keep (RvR_same (hV.2.1 r' hr') fun c k c1 c2 => mo c k (by omega)) (fun c c1 c2 => mr c r' er) (fun x => m1 18 _ (by decide) (by decide) (by decide)) (f0 2) (fun s _ => m1 60 _ (by decide) (by decide) (by decide))
    · rw [f0] at hb'
      obtain ⟨b0, b1, b2, b3, b4, b5, b6⟩ := RvB_same (hV.2.2.1 b' hb') (μ' := m) fun c k c1 c2 => mo c k (by omega)
      refine ⟨by rw [m1 15 b' (by decide) (by decide) (by decide)]; exact b0, by rw [m1 16 b' (by decide) (by decide) (by decide)]; exact b1, by rw [betsOf_eq bs]; exact b2, fun k hk => by rw [m2]; exact b3 k hk, fun r' x hr' hx => ?_, RvO_keep b5 bs (f0 3) (fun r _ => m1 10 r (by decide) (by decide) (by decide)) (fun r _ => m1 11 r (by decide) (by decide) (by decide)), TxB_keep b6 (by rw [m2])⟩
      rw [f0] at hr'
      rw [m1 11 r' (by decide) (by decide) (by decide)] at hx
      rw [m2]
      exact b4 r' x hr' hx
    · rw [f0] at hi
      refine RvT_keep (RvT_same (hV.2.2.2 i hi) fun c k c1 c2 => mo c k (by omega)) (fun c c1 c2 => m1 c i (by omega) (by omega) (by omega)) (m1 27 i (by decide) (by decide) (by decide)) (m1 28 i (by decide) (by decide) (by decide)) (fun r _ => by rw [m2]) (fun r _ _ => m1 26 _ (by decide) (by decide) (by decide)) (fun hd => backS_eq hW hi ⟨fun c hc => m1 c i (by omega) (by omega) (by omega), fun r _ => by rw [m2], fun r' hr' hl => ?_, fun s => ⟨m1 8 s (by decide) (by decide) (by decide), m1 9 s (by decide) (by decide) (by decide)⟩⟩)
      have ho := (hD i hi).mp hd r' hr' hl
      have er : r' ≠ r := fun z => by
        rw [z, e0] at ho
        omega
      exact ⟨m1 26 _ (by decide) (by decide) (by decide), mr 10 r' er, mr 11 r' er, mr 13 r' er, mr 14 r' er, fun x _ => ⟨m1 18 _ (by decide) (by decide) (by decide), by rw [m2]⟩⟩
  have e6 := f0 6
  unfold L_X11_run_73
  intro P hP
  have key : ∀ n, n ≤ S.1 0 6 → ∀ m' : z_M, RepV (runN S1 n).2 m' → P (nI r) (nI (runN S1 n).1) (nI n) m' := by
    refine downTo (S.1 0 6) ?_ (fun n hn ih => ?_)
    · intro m' hV'
      have k0 := fun k => runN_k (S := S1) (c := 0) (k := k) (by decide) (by decide) (by decide) (by decide) (S.1 0 6)
      refine hP _ _ _ _ ?_
      unfold B_X11_run_73
      rw [hV'.1.2.2.2.1, k0, e6]
      refine ifc (nI_leI (by omega) (by omega)) (fun _ => hK m' hV') (fun g => absurd (Nat.le_refl _) g)
    · intro m' hV'
      have kk := fun c k h15 h16 h27 h28 => runN_k (S := S1) (c := c) (k := k) h15 h16 h27 h28 n
      have k0 := fun k => kk 0 k (by decide) (by decide) (by decide) (by decide)
      have k2 := runN_2 (S := S1) n
      have kW := runN_WF hW1 n (by omega)
      have k27 := runN_27 (S := S1) n n (Nat.le_refl _)
      have kn := runN_n (S := S1) n
      have eN : runN S1 (n + 1) = if (runN S1 n).2.1 27 n = 0 ∧ outP (runN S1 n).2 n then ((runN S1 n).1 + 1, paysS (runN S1 n).2 n) else runN S1 n := rfl
      have ho : ∀ r', r' ≠ r → (runN S1 n).2.1 12 r' = S.1 12 r' := fun r' hr' => (kk 12 r' (by decide) (by decide) (by decide) (by decide)).trans (mr 12 r' hr')
      have hl : ∀ r', (runN S1 n).2.2.1 25 (3 * n + r') = S.2.1 25 (3 * n + r') := fun r' => by rw [k2, m2]
      have s27 : (runN S1 n).2.1 27 n = S.1 27 n := k27.trans (m1 27 n (by decide) (by decide) (by decide))
      have hn6 : n < (runN S1 n).2.1 0 6 := by rw [k0, e6]; exact hn
      have hQ' : KQ (runN S1 n).2 kd q := KQ_same hQ ((k0 3).trans (f0 3)) ((k0 4).trans (f0 4)) ((k0 6).trans (f0 6))
      have e6' : (runN S1 n).2.1 0 6 = S.1 0 6 := (k0 6).trans e6
      generalize hRn : runN S1 n = R at hV' eN ho hl s27 hn6 hQ' kW kn e6' ⊢
      obtain ⟨cnt, Sn⟩ := R
      dsimp only at hV' eN ho hl s27 hn6 hQ' kW kn e6' ⊢
      have nxt : ¬ (Sn.1 27 n = 0 ∧ outP Sn n) → P (nI r) (nI cnt) (nI n + 1) m' := fun g => by
        rw [if_neg g] at eN
        have := ih m' (by rw [eN]; exact hV')
        rw [eN] at this
        rw [nI_1]
        exact this
      refine hP _ _ _ _ ?_
      unfold B_X11_run_73
      rw [hV'.1.2.2.2.1, e6']
      refine ifc (nI_leI (by omega) (by omega)) (fun g => absurd g (by omega)) (fun _ => ?_)
      refine c_betN hQ' hV'.1 kW hn6 (opt_s (c_horseIn hV'.to0 hn6 (by omega) ?_))
      refine ifc (oI_eq_m1 (fun x hx => by have := wf_leg kW hn6 (by omega) x hx; omega)) (fun el => ?_) (fun el => ?_)
      · refine nxt fun z => ?_
        have hnd : ¬ outP S n := fun y => by
          have := (hD n hn).mpr y
          omega
        refine hnd fun r' hr' hl' => ?_
        have hne : r' ≠ r := fun y => by
          rw [y, ← hl r, el] at hl'
          exact hl' rfl
        rw [← ho r' hne]
        exact z.2 r' hr' (by rw [hl r']; exact hl')
      · have h27 : Sn.1 27 n = 0 := by
          have h7 := hW.2.2.2.2.2.2.1 n hn
          rcases Nat.eq_zero_or_pos (S.1 27 n) with z | z
          · omega
          · have := (hD n hn).mp (by omega) r (by omega) (by rw [← hl r]; exact el)
            omega
        refine c_allEnded hQ' hV'.to0 kW hn6 (fun hout => ?_) (fun hout => by rw [if_pos rfl]; exact nxt fun z => hout z.2)
        rw [if_neg i10]
        refine c_decide hQ' hV' kW hn6 hout fun m3 hV3 => ?_
        rw [if_pos ⟨h27, hout⟩] at eN
        have := ih m3 (by rw [eN]; exact hV3)
        rw [eN] at this
        rw [nI_1, nI_1]
        exact this
  exact key 0 (Nat.zero_le _) m hV1
end CRUN
