/-! The class: chance. -/
def dnC (o : Option (Nat × Nat)) : Int64 := match o with
  | none => 0
  | some p => lN p.2
section CCH
variable {B : Nat} {S : z_SS} {μ : z_M} {kd : z_K} {q : z_Q}
theorem mod_half {p x : Nat} (hx : 0 < x) (h : x < p) : 2 * (p % x) < p := by
  have h1 := Nat.mod_lt p hx
  have h2 : 0 < p / x := Nat.div_pos (by omega) hx
  have h3 : x ≤ x * (p / x) := Nat.le_mul_of_pos_right x h2
  have h4 := Nat.div_add_mod p x
  omega
theorem c_cmpEnd {p u r s : Nat} (hp : u = 0 → 0 < p) (hr : s = 0 → 0 < r) (he : u = 0 ∨ s = 0) (hu : u < 2 ^ 63) (hs : s < 2 ^ 63) {K : Int32 → z_M → Prop} (h1 : p * s < r * u → K (-1) μ) (h2 : p * s = r * u → K 0 μ) (h3 : r * u < p * s → K 1 μ) : L_X9_compare_117 kd q K (lN u) (lN s) μ := by
  unfold L_X9_compare_117 L_X9_compare_129 L_X9_compare_141 C_J13_compare_74951
  refine ifc (pk_lEQ (b := 0) hu (by decide)) (fun e1 => ?_) (fun e1 => ?_)
  · subst e1
    refine ifc (pk_lEQ (b := 0) hs (by decide)) (fun e2 => ?_) (fun e2 => ?_)
    · rw [if_pos (by decide), if_pos rfl]
      exact h2 (by rw [e2, Nat.mul_zero, Nat.mul_zero])
    · rw [if_pos (by decide), if_neg (by decide)]
      exact h3 (by rw [Nat.mul_zero]; exact Nat.mul_pos (hp rfl) (by omega))
  · have e2 : s = 0 := by omega
    subst e2
    rw [if_pos (show lN 0 = 0 from rfl), if_neg (by decide)]
    exact h1 (by rw [Nat.mul_zero]; exact Nat.mul_pos (hr rfl) (by omega))
theorem c_compare {a b c d : Nat} (ha : a < 2 ^ 62) (hb0 : 0 < b) (hb : b < 2 ^ 62) (hc : c < 2 ^ 62) (hd0 : 0 < d) (hd : d < 2 ^ 62) {K : Int32 → z_M → Prop} (h1 : a * d < c * b → K (-1) μ) (h2 : a * d = c * b → K 0 μ) (h3 : c * b < a * d → K 1 μ) : C_X9_compare kd q (lN a) (lN b) (lN c) (lN d) μ K := by
  unfold C_X9_compare L_X9_compare_17
  intro P hP
  have one : ∀ i p u r s, i < 200 → p < 2 ^ 62 → u < 2 ^ 62 → r < 2 ^ 62 → s < 2 ^ 62 → (u = 0 → 0 < p) → (s = 0 → 0 < r) → (p * s < r * u → K (-1) μ) → (p * s = r * u → K 0 μ) → (r * u < p * s → K 1 μ) →
      (0 < u → 0 < s → (s * (p % u) < u * (r % s) → K (-1) μ) → (s * (p % u) = u * (r % s) → K 0 μ) → (u * (r % s) < s * (p % u) → K 1 μ) → P (lN s) (lN (r % s)) (lN u) (lN (p % u)) (nI (i + 1)) μ) → P (lN p) (lN u) (lN r) (lN s) (nI i) μ := by
    intro i p u r s hi hp hu hr hs hpu hrs k1 k2 k3 nx
    refine hP _ _ _ _ _ _ ?_
    unfold B_X9_compare_17
    refine ifc (nI_leI (a := 200) (by decide) (by omega)) (fun g => absurd g (by omega)) (fun _ => ?_)
    refine ifc (pk_lLE (b := 0) (by omega) (by decide)) (fun g => c_cmpEnd hpu hrs (by omega) (by omega) (by omega) k1 k2 k3) (fun g1 => ?_)
    refine ifc (pk_lLE (b := 0) (by omega) (by decide)) (fun g => c_cmpEnd hpu hrs (by omega) (by omega) (by omega) k1 k2 k3) (fun g2 => ?_)
    have hu0 : 0 < u := by omega
    have hs0 : 0 < s := by omega
    have zb : ¬ lN u = 0 := fun e => by
      have := (pk_lEQ (b := 0) (by omega) (by decide)).mp e
      omega
    have zd : ¬ lN s = 0 := fun e => by
      have := (pk_lEQ (b := 0) (by omega) (by decide)).mp e
      omega
    have d1 := Nat.div_le_self p u
    have d2 := Nat.div_le_self r s
    rw [pk_lRem (by omega) hu0 (by omega), pk_lRem (by omega) hs0 (by omega), pk_lDiv (by omega) hu0 (by omega), pk_lDiv (by omega) hs0 (by omega)]
    refine ⟨zb, zd, ifc (pk_lEQ (by omega) (by omega)) (fun e => ?_) (fun e => ?_)⟩
    · have e1 : p * s = u * (p / u) * s + p % u * s := by rw [← Nat.add_mul, Nat.div_add_mod]
      have e2 : r * u = u * (p / u) * s + r % s * u := by
        rw [show u * (p / u) * s = s * (p / u) * u by ac_rfl, e, ← Nat.add_mul, Nat.div_add_mod]
      have q1 : u * (r % s) = r % s * u := Nat.mul_comm _ _
      have q2 : s * (p % u) = p % u * s := Nat.mul_comm _ _
      rw [nI_1]
      exact nx hu0 hs0 (fun z => k1 (by omega)) (fun z => k2 (by omega)) (fun z => k3 (by omega))
    · exact ifc (pk_lLE (by omega) (by omega)) (fun g => k3 (lt_cross hu0 hs0 (by omega))) (fun g => k1 (lt_cross hs0 hu0 (by omega)))
  have go : ∀ k, ∀ i p u r s, i + 2 * k ≤ 198 → p < 2 ^ k → r < 2 ^ k → k ≤ 62 → u < p → s < r → (p * s < r * u → K (-1) μ) → (p * s = r * u → K 0 μ) → (r * u < p * s → K 1 μ) → P (lN p) (lN u) (lN r) (lN s) (nI i) μ := by
    intro k
    induction k with
    | zero =>
      intro i p u r s _ hp _ _ hu
      have : (2 : Nat) ^ 0 = 1 := rfl
      omega
    | succ k ih =>
      intro i p u r s hi hp hr hk hu hs k1 k2 k3
      have e2 : (2 : Nat) ^ (k + 1) = 2 ^ k * 2 := Nat.pow_succ 2 k
      have e62 : (2 : Nat) ^ (k + 1) ≤ 2 ^ 62 := Nat.pow_le_pow_right (by decide) hk
      refine one i p u r s (by omega) (by omega) (by omega) (by omega) (by omega) (fun _ => by omega) (fun _ => by omega) k1 k2 k3 fun u0 s0 j1 j2 j3 => ?_
      have m1 := Nat.mod_lt r s0
      have m2 := Nat.mod_lt p u0
      refine one (i + 1) s (r % s) u (p % u) (by omega) (by omega) (by omega) (by omega) (by omega) (fun _ => s0) (fun _ => u0) j1 j2 j3 fun v0 w0 l1 l2 l3 => ?_
      have n1 := Nat.mod_lt u w0
      have n2 := Nat.mod_lt s v0
      have t1 := mod_half u0 hu
      have t2 := mod_half s0 hs
      exact ih (i + 1 + 1) (p % u) (u % (p % u)) (r % s) (s % (r % s)) (by omega) (by omega) (by omega) (by omega) n1 n2 l1 l2 l3
  refine one 0 a b c d (by decide) ha hb hc hd (fun _ => by omega) (fun _ => by omega) h1 h2 h3 fun _ _ l1 l2 l3 => ?_
  exact go 62 1 d (c % d) b (a % b) (by decide) hd hb (Nat.le_refl _) (Nat.mod_lt c hd0) (Nat.mod_lt a hb0) l1 l2 l3
theorem fracS_dvd {f : Nat → Option Nat} {i s : Nat} (hf : f i = some s) : ∀ n, i < n → (S.1 8 s + S.1 9 s) ∣ (fracS S f n).2 := by
  intro n
  induction n with
  | zero => intro h; omega
  | succ n ih =>
    intro h
    unfold fracS
    by_cases e : i = n
    · subst e
      rw [hf]
      exact Nat.dvd_mul_left _ _
    · have h1 := ih (by omega)
      cases f n with
      | none => exact h1
      | some t => exact Nat.dvd_trans h1 (Nat.dvd_mul_right _ _)
theorem c_isFull (hV : RepV0 S μ) (hW : WF B S) {b r : Nat} (hb : b < S.1 0 4) (hr : r < S.1 0 3) {K : Int32 → z_M → Prop} (h1 : fullS S b r (S.1 10 r) = true → K 1 μ) (h0 : fullS S b r (S.1 10 r) = false → K 0 μ) : C_X11_isFull kd q (some (40 + 8 * b)) (some (30 + 2 * r)) (nI r) μ K := by
  have h3 := hW.1
  have h4 := hW.2.2.1 r hr
  unfold C_X11_isFull L_X11_isFull_2
  intro P hP
  have mono : ∀ n k, fullS S b r n = false → fullS S b r (n + k) = false := by
    intro n k hn
    induction k with
    | zero => exact hn
    | succ k ih =>
      show (fullS S b r (n + k) && _) = false
      rw [ih]
      rfl
  refine downTo (Q := fun i => fullS S b r i = true → P (some (40 + 8 * b)) (some (30 + 2 * r)) (nI r) (nI i) μ) (S.1 10 r) ?_ (fun i hi ih => ?_) 0 (Nat.zero_le _) rfl
  · intro hf
    refine hP _ _ _ _ _ ?_
    unfold B_X11_isFull_2
    refine ⟨_, rfl, ?_⟩
    rw [(hV.2.1 r hr).1]
    exact ifc (nI_leI (by omega) (by omega)) (fun _ => h1 hf) (fun g => absurd (Nat.le_refl _) g)
  · intro hf
    have es : fullS S b r (i + 1) = (fullS S b r i && (if runsS S r i then (S.2.1 17 (24 * b + 8 * r + i)).isSome else true)) := rfl
    rw [hf, Bool.true_and] at es
    refine hP _ _ _ _ _ ?_
    unfold B_X11_isFull_2
    refine ⟨_, rfl, ?_⟩
    rw [(hV.2.1 r hr).1]
    refine ifc (nI_leI (by omega) (by omega)) (fun g => absurd g (by omega)) (fun _ => ?_)
    refine c_runsN (hV.2.1 r hr) hr h4.2.1 h4.2.2.1 (by omega) (fun e1 => ?_) (fun e1 => ?_)
    · rw [if_neg i10]
      rw [if_pos e1] at es
      refine ⟨_, rfl, c_spot ?_⟩
      rw [nI_clamp (by omega), slate_at hV hb (by omega) (by omega)]
      refine ⟨nI_vin (by omega) (by decide), ?_⟩
      cases e2 : S.2.1 17 (24 * b + 8 * r + i) with
      | none =>
        rw [e2] at es
        rw [if_pos oI_none]
        refine h0 ?_
        have h5 := mono (i + 1) (S.1 10 r - (i + 1)) es
        rw [show i + 1 + (S.1 10 r - (i + 1)) = S.1 10 r by omega] at h5
        exact h5
      | some s =>
        rw [e2] at es
        have s1 := (wf17 hW (by omega) e2).1
        rw [oI_some, if_neg (nI_ne_m1 (by omega)), nI_1]
        exact ih es
    · rw [if_neg e1] at es
      rw [if_pos rfl, nI_1]
      exact ih es
theorem c_divide (hV : RepV S μ) (hW : WF B S) {b r h s : Nat} (hb : b < S.1 0 4) (hr : r < S.1 0 3) (hh : h < S.1 10 r) (es : S.2.1 17 (24 * b + 8 * r + h) = some s) (hA : atC μ (roundF S b r)) {K : z_M → Prop} (hK : ∀ μ', sameV μ μ' → atC μ' (chF S b r s) → K μ') : C_X9_divideInto kd q (some 3) (nI s) μ K := by
  have h3 := hW.1
  have h4 := hW.2.2.1 r hr
  have hs1 := (wf17 hW (by omega) es).1
  have hs := hW.2.1 s hs1
  obtain ⟨c1, c2, c3, c4⟩ := roundF_cap hW (b := b) (by omega) hr
  have c5 := c4 h hh (by rw [es]; exact fun q => by cases q)
  obtain ⟨k, hk⟩ := fracS_dvd (S := S) (f := fun h => S.2.1 17 (24 * b + 8 * r + h)) es (S.1 10 r) hh
  have hw : 0 < S.1 8 s + S.1 9 s := by omega
  have em : z_max (nI (S.1 8 s + S.1 9 s)) 1 = nI (S.1 8 s + S.1 9 s) := by
    rw [show (1 : Int32) = nI 1 from rfl, zmax_n (by omega) (by decide)]
    congr 1
    exact Nat.max_eq_left (by omega)
  have hkle : k ≤ 722204136308736 := by
    have : k ≤ (S.1 8 s + S.1 9 s) * k := Nat.le_mul_of_pos_left k hw
    have hk' : (roundF S b r).2 = (S.1 8 s + S.1 9 s) * k := hk
    omega
  have hm : k * S.1 9 s ≤ 722204136308736 * 12 := Nat.mul_le_mul hkle hs.2.2.2
  have ech : redF (k * S.1 9 s, (roundF S b r).1) = chF S b r s := by
    unfold chF
    rw [← redF_mul (p := (k * S.1 9 s, (roundF S b r).1)) hw c5]
    dsimp only
    have hk' : (roundF S b r).2 = (S.1 8 s + S.1 9 s) * k := hk
    rw [hk']
    congr 1
    congr 1
    · ac_rfl
    · ac_rfl
  unfold C_X9_divideInto
  refine ⟨_, rfl, c_wholeOf hV.1 hW hs1 ?_⟩
  rw [em, nI_l (by omega)]
  refine ⟨fun z => ?_, c_bOf hV.1 hW hs1 ?_⟩
  · have := (pk_lEQ (b := 0) (by omega) (by decide)).mp z
    omega
  · rw [hA.1, hA.2, nI_l (by omega), pk_lDiv (by omega) hw (by omega)]
    have ed : (roundF S b r).2 / (S.1 8 s + S.1 9 s) = k := by
      have hk' : (roundF S b r).2 = (S.1 8 s + S.1 9 s) * k := hk
      rw [hk', Nat.mul_div_cancel_left _ hw]
    rw [ed, lN_mul]
    refine c_shorten (p := (k * S.1 9 s, (roundF S b r).1)) c5 (by dsimp only; omega) (by dsimp only; omega) ⟨?_, ?_⟩ fun μ' g1 g2 => hK μ' (sameV_tr (sameV_tr sameV_sl sameV_sl) g1) (by rw [← ech]; exact g2)
    · rw [sl2, if_pos ⟨rfl, rfl⟩]
    · rw [sl2, if_neg (by omega), sl2, if_pos ⟨rfl, rfl⟩]
theorem c_chance (hQ : KQ S kd q) (hV : RepV S μ) (hW : WF B S) {a b c : Int32} {K : Int64 → z_M → Prop} (hK : ∀ μ', sameV μ μ' → K (opChance S a b c) μ') : C_X11_chance kd q a b c μ K := by
  have h3 := hW.1
  have rf := sameV_refl μ
  unfold C_X11_chance
  unfold opChance at hK
  refine c_raceAt hQ hV.1 hW (fun r hr e => opt_s ?_) (fun g => opt_n (by rw [ixO_none g] at hK; exact hK μ rf))
  subst e
  have h4 := hW.2.2.1 r hr
  have hRr := hV.2.1 r hr
  rw [ixO_some hr (by omega)] at hK
  dsimp only at hK
  refine c_runs hRr.to0 hr h4.2.1 h4.2.2.1 (fun h hx eb => ?_) (fun g => ?_)
  · subst eb
    have hh := hx.2.1
    rw [ixO_some hh (by omega)] at hK
    dsimp only at hK
    rw [if_neg (by rw [hx.2.2]; decide)] at hK
    rw [if_neg i10]
    have bad : (∀ j, j < 4 → c ≠ nI j) → K (-1) μ := fun g => by
      rw [ixO_none g] at hK
      exact hK μ rf
    refine le_dec (m := 3) (by decide) rfl (fun w hw ec => ?_) bad bad
    subst ec
    rw [ixO_some (show w < 4 by omega) (by decide)] at hK
    dsimp only at hK
    have main : ∀ t : Nat, t = (if 2 ≤ w then 1 else 0) → L_X11_chance_44 kd q K (nI r) (nI h) (nI w) (30 + 2 * r) (nI t) μ := by
      intro t et
      have ht : t ≤ 1 := by
        rw [et]
        split <;> decide
      unfold L_X11_chance_44 L_X11_chance_55
      intro P hP
      have key : ∀ n, n ≤ S.1 0 4 → ∀ μ', sameV μ μ' → P (nI r) (nI h) (nI w) (30 + 2 * r) (nI t) (upO (chL S r h (decide (2 ≤ w)) n)) (dnC (chL S r h (decide (2 ≤ w)) n)) (nI n) μ' := by
        refine downTo (S.1 0 4) ?_ (fun n hn ih => ?_)
        · intro μ' g1
          refine hP _ _ _ _ _ _ _ _ _ ?_
          unfold B_X11_chance_55
          rw [(hV.same g1).1.2.2.1]
          refine ifc (nI_leI (by omega) (by omega)) (fun _ => ?_) (fun g => absurd (Nat.le_refl _) g)
          have hk := hK μ' g1
          cases e : chL S r h (decide (2 ≤ w)) (S.1 0 4) with
          | none =>
            rw [e] at hk
            rw [if_pos (show dnC none = 0 from rfl)]
            exact hk
          | some p =>
            have hp := chL_bd hW _ hr hh (S.1 0 4) (by omega) p e
            rw [e] at hk
            rw [if_neg (show ¬ dnC (some p) = 0 from fun z => by
              have := (pk_lEQ (b := 0) (by omega) (by decide)).mp z
              omega), pk_andN (by omega) 1 rfl, show (2 : Nat) ^ 1 = 2 from rfl]
            dsimp only at hk
            exact ifc (nI_eq (b := 0) (by omega) (by decide)) (fun q => by rw [if_pos q] at hk; exact hk) (fun q => by rw [if_neg q] at hk; exact hk)
        · intro μ' g1
          have hV' := hV.same g1
          refine hP _ _ _ _ _ _ _ _ _ ?_
          unfold B_X11_chance_55
          rw [hV'.1.2.2.1]
          refine ifc (nI_leI (by omega) (by omega)) (fun g => absurd g (by omega)) (fun _ => ?_)
          refine c_bookN hQ hV'.1 hW hn (opt_s (c_isFull hV'.to0 hW hn hr (fun hf => ?_) (fun hf => ?_)))
          · rw [if_neg i10]
            obtain ⟨s, es⟩ := Option.ne_none_iff_exists'.mp (fullS_at hf hh hx)
            have hs1 := (wf17 hW (by omega) es).1
            have hch := chF_bd hW (by omega) hr hh es
            have en : chL S r h (decide (2 ≤ w)) (n + 1) = (match chL S r h (decide (2 ≤ w)) n with
              | none => some (chF S n r s)
              | some p => if betterF (decide (2 ≤ w)) (chF S n r s) p = true then some (chF S n r s) else some p) := by
              show (if fullS S n r (S.1 10 r) = true then _ else _) = _
              rw [if_pos hf, es]
              rfl
            refine c_sumSlate hV'.to0 hW hn hr fun μ2 g2 hA => c_spot ?_
            have hV2 := hV'.same g2
            rw [nI_clamp (by omega), slate_at hV2.to0 hn (by omega) (by omega), es, oI_some]
            refine ⟨nI_vin (by omega) (by decide), c_divide hV2 hW hn hr hh es hA fun μ3 g3 hA3 => ?_⟩
            have g4 := sameV_tr g1 (sameV_tr g2 g3)
            have ih2 := ih μ3 g4
            rw [en] at ih2
            cases e : chL S r h (decide (2 ≤ w)) n with
            | none =>
              rw [e] at ih2
              rw [if_pos (show dnC none = 0 from rfl)]
              unfold L_X11_chance_149 L_X11_chance_176
              rw [if_pos (show dnC none = 0 from rfl), hA3.1, hA3.2, nI_1]
              exact ih2
            | some p =>
              have hp := chL_bd hW _ hr hh n (by omega) p e
              have nz : ¬ dnC (some p) = 0 := fun z => by
                have := (pk_lEQ (b := 0) (by omega) (by decide)).mp z
                omega
              rw [e] at ih2
              dsimp only at ih2
              rw [if_neg nz, hA3.1, hA3.2]
              show C_X9_compare kd q (lN (chF S n r s).1) (lN (chF S n r s).2) (lN p.1) (lN p.2) _ _
              have fin : ∀ v : Int32, (v ≤ 0 ↔ ¬ p.1 * (chF S n r s).2 < (chF S n r s).1 * p.2) → (0 ≤ v ↔ ¬ (chF S n r s).1 * p.2 < p.1 * (chF S n r s).2) → L_X11_chance_149 kd q K P (nI r) (nI h) (nI w) (30 + 2 * r) (nI t) (upO (some p)) (dnC (some p)) (nI n) v μ3 := by
                intro v t1 t2
                unfold L_X11_chance_149 L_X11_chance_176
                rw [if_neg nz, hA3.1, hA3.2, nI_1]
                refine ifc (nI_eq (b := 0) (by omega) (by decide)) (fun g => ?_) (fun g => ?_)
                · have g2w : ¬ 2 ≤ w := fun z => by
                    rw [if_pos z] at et
                    omega
                  rw [decide_eq_false g2w, betterF_f] at ih2
                  refine ifc t2 (fun q => ?_) (fun q => ?_)
                  · rw [if_neg (fun z => q (of_decide_eq_true z))] at ih2
                    exact ih2
                  · rw [if_pos (decide_eq_true (Classical.not_not.mp q))] at ih2
                    exact ih2
                · have g2w : 2 ≤ w := Classical.byContradiction fun z => by
                    rw [if_neg z] at et
                    omega
                  rw [decide_eq_true g2w, betterF_t] at ih2
                  refine ifc t1 (fun q => ?_) (fun q => ?_)
                  · rw [if_neg (fun z => q (of_decide_eq_true z))] at ih2
                    exact ih2
                  · rw [if_pos (decide_eq_true (Classical.not_not.mp q))] at ih2
                    exact ih2
              have y1 : ¬ (1 : Int32) ≤ 0 := by decide
              have y2 : (0 : Int32) ≤ 1 := by decide
              have y3 : (0 : Int32) ≤ 0 := by decide
              have y4 : ¬ (0 : Int32) ≤ -1 := by decide
              have y5 : (-1 : Int32) ≤ 0 := by decide
              refine c_compare (by omega) hch.2.1 (by omega) (by omega) hp.2.1 (by omega) (fun q => ?_) (fun q => ?_) (fun q => ?_)
              · exact fin (-1) ⟨fun _ => by omega, fun _ => y5⟩ ⟨fun z => absurd z y4, fun z => absurd q z⟩
              · exact fin 0 ⟨fun _ => by omega, fun _ => y3⟩ ⟨fun _ => by omega, fun _ => y3⟩
              · exact fin 1 ⟨fun z => absurd z y1, fun z => absurd q z⟩ ⟨fun _ => by omega, fun _ => y2⟩
          · rw [if_pos rfl, nI_1]
            have en : chL S r h (decide (2 ≤ w)) (n + 1) = chL S r h (decide (2 ≤ w)) n := by
              show (if fullS S n r (S.1 10 r) = true then _ else _) = _
              rw [if_neg (by rw [hf]; decide)]
            have ih2 := ih μ' g1
            rw [en] at ih2
            exact ih2
      exact key 0 (Nat.zero_le _) μ rf
    refine ifc (nI_ltI (b := 2) (by omega) (by decide)) (fun g => ?_) (fun g => ?_)
    · exact main 0 (by rw [if_neg (by omega)])
    · exact main 1 (by rw [if_pos (by omega)])
  · rw [if_pos rfl]
    have hk := hK μ rf
    cases e2 : ixO b (S.1 10 r) with
    | none => rw [e2] at hk; exact hk
    | some h =>
      obtain ⟨g3, g4⟩ := ixO_inv e2
      rw [e2] at hk
      dsimp only at hk
      rw [if_pos] at hk
      · exact hk
      · cases e3 : (S.1 11 r).testBit h with
        | true => rfl
        | false => exact absurd g4 (g h ⟨hr, g3, e3⟩)
end CCH
