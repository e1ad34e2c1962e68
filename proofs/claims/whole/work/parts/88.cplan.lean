/-! The class: plan's hunt. -/
section CSEEK
variable {B : Nat} {S : z_SS} {kd : z_K} {q : z_Q} {μ μ' : z_M} {x r h n cnt row : Nat}
theorem four_sh : ∀ d : Fin 4, (1 : Int32) <<< (((4 : Int32) * nI d) &&& 31) = nI (16 ^ d.val) := by decide +kernel
def pk4 (c : Nat → Nat) : Nat := c 0 + 16 * c 1 + 256 * c 2 + 4096 * c 3
theorem pk4_s (row m : Nat) : pk4 (cntR row (m + 1)) = pk4 (cntR row m) + 16 ^ (row / 2 ^ (2 * m) % 4) := by
  have hd : row / 2 ^ (2 * m) % 4 < 4 := Nat.mod_lt _ (by decide)
  have e : ∀ b, cntR row (m + 1) b = cntR row m b + if row / 2 ^ (2 * m) % 4 = b then 1 else 0 := fun _ => rfl
  unfold pk4
  rw [e, e, e, e]
  generalize row / 2 ^ (2 * m) % 4 = d at hd ⊢
  rcases (show d = 0 ∨ d = 1 ∨ d = 2 ∨ d = 3 by omega) with g | g | g | g <;> subst g <;> simp <;> omega
theorem cntR_le (row : Nat) : ∀ m b, cntR row m b ≤ m
  | 0, _ => Nat.le_refl _
  | m + 1, b => by
    have := cntR_le row m b
    show cntR row m b + (if row / 2 ^ (2 * m) % 4 = b then 1 else 0) ≤ m + 1
    split <;> omega
theorem pk4_nib {c : Nat → Nat} {b : Nat} (hc : ∀ i, c i < 16) (hb : b < 4) : (nI (pk4 c) >>> (((4 : Int32) * nI b) &&& 31)) &&& 15 = nI (c b) := by
  have h0 := hc 0
  have h1 := hc 1
  have h2 := hc 2
  have h3 := hc 3
  have hp : pk4 c < 65536 := by
    unfold pk4
    omega
  rw [show (4 : Int32) = nI 4 from rfl, nI_mul, pk_shrN (by omega) _ (4 * b) (bit_shift ⟨4 * b, by omega⟩), pk_andN (n := pk4 c / 2 ^ (4 * b)) (by have := Nat.div_le_self (pk4 c) (2 ^ (4 * b)); omega) 4 rfl]
  congr 1
  unfold pk4
  rcases (show b = 0 ∨ b = 1 ∨ b = 2 ∨ b = 3 by omega) with g | g | g | g <;> subst g
  · rw [show 2 ^ (4 * 0) = 1 from rfl, show 2 ^ 4 = 16 from rfl]
    omega
  · rw [show 2 ^ (4 * 1) = 16 from rfl]
    omega
  · rw [show 2 ^ (4 * 2) = 256 from rfl, show 2 ^ 4 = 16 from rfl]
    omega
  · rw [show 2 ^ (4 * 3) = 4096 from rfl, show 2 ^ 4 = 16 from rfl]
    omega
theorem c_wonByRow {W : Nat → Nat → Option Nat} (hrow : row < 2 ^ 31) (hcnt : cnt ≤ 4) (hT : ∀ c k, c < 4 → k ≤ cnt → μ.1 20 (5 * c + k) = oI (W c k)) (hle : ∀ c k v, c < 4 → k ≤ cnt → W c k = some v → v ≤ 4800000) {K : Int32 → z_M → Prop} (hK : K (oI (sumB (fun b => W b (cntR row cnt b)) 4)) μ) : C_X5_wonByRow kd q (nI row) (nI cnt) μ K := by
  unfold C_X5_wonByRow L_X5_wonByRow_5
  intro P5 hP5
  have key : ∀ i, i ≤ cnt → P5 (nI row) (nI cnt) (nI (pk4 (cntR row i))) (nI i) μ := by
    refine downTo cnt ?_ (fun i hi ih => ?_)
    · refine hP5 _ _ _ _ _ ?_
      unfold B_X5_wonByRow_5
      rw [if_pos ((nI_leI (by omega) (by omega)).mpr (Nat.le_refl _))]
      unfold L_X5_wonByRow_38
      intro P hP
      have h16 : ∀ b, cntR row cnt b < 16 := fun b => by
        have := cntR_le row cnt b
        omega
      have key2 : ∀ b, b ≤ 4 → ∀ a, sumB (fun b => W b (cntR row cnt b)) b = some a → P (nI (pk4 (cntR row cnt))) (nI a) (nI b) μ := by
        refine downTo 4 ?_ (fun b hb ih2 => ?_)
        · intro a ea
          refine hP _ _ _ _ ?_
          unfold B_X5_wonByRow_38
          rw [if_pos (show (4 : Int32) ≤ nI 4 by decide)]
          rw [ea] at hK
          exact hK
        · intro a ea
          have hk := cntR_le row cnt b
          refine hP _ _ _ _ ?_
          unfold B_X5_wonByRow_38
          refine ifc (nI_leI (a := 4) (by decide) (by omega)) (fun g => absurd g (by omega)) (fun _ => ?_)
          have ei : nI b * 5 + nI (cntR row cnt b) = nI (5 * b + cntR row cnt b) := by rw [show (5 : Int32) = nI 5 from rfl, nI_mul, nI_add, Nat.mul_comm]
          rw [pk4_nib h16 hb, ei, if_neg (Int32.not_lt.mpr (nI_pos' (by omega))), nI_clamp (by omega), hT b _ hb hk]
          refine ifc (nI_leI (by decide) (by omega)) (fun g => absurd g (by omega)) (fun _ => ⟨nI_vin (by omega) (by decide), ?_⟩)
          unfold L_X5_wonByRow_86
          cases ew : W b (cntR row cnt b) with
          | none =>
            rw [if_pos oI_none]
            rw [sumB_none (W := fun b => W b (cntR row cnt b)) (c := b) hb ew] at hK
            exact hK
          | some w =>
            have hw := hle b _ w hb hk ew
            rw [oI_some, if_neg (nI_ne_m1 (by omega)), nI_add, nI_1]
            refine ih2 (a + w) ?_
            unfold sumB
            rw [ea]
            dsimp only
            rw [ew]
      exact key2 0 (by decide) 0 rfl
    · refine hP5 _ _ _ _ _ ?_
      unfold B_X5_wonByRow_5
      refine ifc (nI_leI (by omega) (by omega)) (fun g => absurd g (by omega)) (fun _ => ?_)
      have hd : row / 2 ^ (2 * i) % 4 < 4 := Nat.mod_lt _ (by decide)
      rw [row_bits hrow (by omega), four_sh ⟨row / 2 ^ (2 * i) % 4, hd⟩, nI_add, nI_1, ← pk4_s]
      exact ih
  exact key 0 (Nat.zero_le _)
theorem c_seekP (hW : WF 80 S) (hrun : runsS S r h) (h12 : S.1 12 r = 0) (hx : x < 16) (n1 : 1 ≤ n) (n2 : n ≤ 20000) (c1 : 1 ≤ cnt) (hcnt : cnt ≤ 4) (hT : ∀ c k, c < 4 → k ≤ cnt → μ.1 20 (5 * c + k) = oI (wB S x c r h n k)) {K : z_M → Prop} (hK : ∀ μ', (∀ c k, c ≠ 19 → μ'.1 c k = μ.1 c k) → μ'.1 19 2 = oI ((planL S x r h n cnt (2 ^ (2 * cnt))).map (fun p => p.1)) → (∀ p, planL S x r h n cnt (2 ^ (2 * cnt)) = some p → μ'.1 19 3 = nI p.2) → K μ') : C_X5_seek kd q (nI cnt) μ K := by
  have h3 := hW.1
  have hr := hrun.1
  have hle : ∀ c k v, c < 4 → k ≤ cnt → wB S x c r h n k = some v → v ≤ 4800000 := fun c k v hc hk e => by
    by_cases g : c < S.1 0 4
    · have := (tB_ok hW hrun h12 hx n1 n2 g k v (by omega) e).2.1
      omega
    · cases k with
      | zero =>
        cases e
        omega
      | succ k =>
        unfold wB at e
        rw [if_neg (fun z => g z.1)] at e
        cases e
  have bd := planL_bd (cnt := cnt) hW hx hrun h12 n1 n2 hcnt
  obtain ⟨fp1, fp2⟩ := four_pow ⟨cnt, by omega⟩
  dsimp only at fp1 fp2
  unfold C_X5_seek L_X5_seek_7
  intro P hP
  have key : ∀ R, R ≤ 2 ^ (2 * cnt) → ∀ μR : z_M, (∀ c k, c ≠ 19 → μR.1 c k = μ.1 c k) → μR.1 19 2 = oI ((planL S x r h n cnt R).map (fun p => p.1)) → (∀ p, planL S x r h n cnt R = some p → μR.1 19 3 = nI p.2) → P (nI cnt) (nI R) μR := by
    refine downTo (2 ^ (2 * cnt)) ?_ (fun R hR ih => ?_)
    · intro μR k1 k2 k3
      refine hP _ _ _ ?_
      unfold B_X5_seek_7
      refine ifc (nI_ltI (a := 4) (by decide) (by omega)) (fun g => absurd g (by omega)) (fun _ => ?_)
      rw [fp1, if_pos ((nI_leI (by omega) (by omega)).mpr (Nat.le_refl _))]
      exact hK μR k1 k2 k3
    · intro μR k1 k2 k3
      refine hP _ _ _ ?_
      unfold B_X5_seek_7
      refine ifc (nI_ltI (a := 4) (by decide) (by omega)) (fun g => absurd g (by omega)) (fun _ => ?_)
      rw [fp1]
      refine ifc (nI_leI (by omega) (by omega)) (fun g => absurd g (by omega)) (fun _ => ?_)
      refine c_wonByRow (W := fun c k => wB S x c r h n k) (by omega) hcnt (fun c k hc hk => by rw [k1 _ _ (by decide)]; exact hT c k hc hk) hle ?_
      have ew : wwL S x r h n R cnt 0 = sumB (fun b => wB S x b r h n (cntR R cnt b)) 4 := by
        rw [wwL_sum hW hrun cnt S (fun _ => 0) 0 (AG_refl S) (fun b _ => EqB_refl S) rfl]
        refine sumB_congr fun c _ => ?_
        rw [Nat.zero_add]
      rw [← ew, nI_1, k2]
      have ep1 : planL S x r h n cnt (R + 1) = (match wwL S x r h n R cnt 0 with
        | none => planL S x r h n cnt R
        | some v => match planL S x r h n cnt R with
          | none => some (v, R)
          | some p => if p.1 < v then some (v, R) else some p) := rfl
      have set : ∀ v, planL S x r h n cnt (R + 1) = some (v, R) → P (nI cnt) (nI (R + 1)) (si (si μR 19 2 (nI v)) 19 3 (nI R)) := fun v e => by
        refine ih _ (fun c k hc => ?_) ?_ (fun p ep => ?_)
        · rw [si1, if_neg (fun z => hc z.1), si1, if_neg (fun z => hc z.1)]
          exact k1 c k hc
        · rw [e, si1, if_neg (by decide), si1, if_pos ⟨rfl, rfl⟩]
          rfl
        · rw [e] at ep
          cases ep
          rw [si1, if_pos ⟨rfl, rfl⟩]
      have keep : planL S x r h n cnt (R + 1) = planL S x r h n cnt R → P (nI cnt) (nI (R + 1)) μR := fun e => ih μR k1 (by rw [e]; exact k2) (fun p ep => k3 p (by rw [← e]; exact ep))
      cases e1 : wwL S x r h n R cnt 0 with
      | none =>
        rw [e1] at ep1
        rw [if_pos]
        · exact keep ep1
        · cases ep : planL S x r h n cnt R with
          | none => exact show (-1 : Int32) ≤ -1 by decide
          | some p =>
            have := bd _ p ep
            exact Int32.le_of_lt (nI_m1_lt (by show p.1 < 2 ^ 31; omega))
      | some v =>
        have hv := wwL_le n2 cnt S 0 v (WF_more hW (by decide)) (by omega) hx hrun h12 n1 e1
        have hv2 : cnt * 1200000 ≤ 4 * 1200000 := Nat.mul_le_mul_right _ hcnt
        rw [e1] at ep1
        dsimp only at ep1
        cases ep : planL S x r h n cnt R with
        | none =>
          rw [ep] at ep1
          rw [if_neg (show ¬ oI (some v) ≤ oI (Option.map (fun p : Nat × Nat => p.1) none) from fun z => absurd (Int32.lt_of_lt_of_le (nI_m1_lt (n := v) (by omega)) z) (by decide))]
          exact set v ep1
        | some p =>
          have hp := bd _ p ep
          rw [ep] at ep1
          dsimp only at ep1
          refine ifc (show oI (some v) ≤ oI (Option.map (fun p : Nat × Nat => p.1) (some p)) ↔ v ≤ p.1 from nI_leI (a := v) (b := p.1) (by omega) (by omega)) (fun g => ?_) (fun g => ?_)
          · rw [if_neg (by omega)] at ep1
            exact keep (by rw [ep1, ep])
          · rw [if_pos (by omega)] at ep1
            exact set v ep1
  refine key 0 (Nat.zero_le _) _ (fun c k hc => by rw [si1, if_neg (fun z => hc z.1)]) (by rw [si1, if_pos ⟨rfl, rfl⟩]; rfl) (fun p ep => by cases ep)
theorem opPlan_no {a b c d e f : Int32} (H : ixO a 16 = none ∨ ixO b (S.1 0 3) = none ∨ (∀ r, ixO b (S.1 0 3) = some r → S.1 12 r ≠ 0 ∨ ∀ h, ixO c (S.1 10 r) = some h → (S.1 11 r).testBit h = true) ∨ (∀ n, ixO d 20001 = some n → n = 0) ∨ (∀ k, ixO e 5 = some k → k = 0 ∨ stO f k = none)) : opPlan S a b c d e f = -1 := by
  unfold opPlan
  cases ea : ixO a 16 with
  | none => rfl
  | some x =>
    dsimp only
    cases eb : ixO b (S.1 0 3) with
    | none => rfl
    | some r =>
      dsimp only
      cases ec : ixO c (S.1 10 r) with
      | none => rfl
      | some h =>
        dsimp only
        by_cases g1 : (S.1 11 r).testBit h = true
        · rw [if_pos g1]
        rw [if_neg g1]
        by_cases g2 : S.1 12 r = 0
        · rw [if_pos g2]
          cases ed : ixO d 20001 with
          | none => rfl
          | some n =>
            dsimp only
            by_cases g3 : n = 0
            · rw [if_pos g3]
            rw [if_neg g3]
            cases ee : ixO e 5 with
            | none => rfl
            | some k =>
              dsimp only
              by_cases g4 : k = 0
              · rw [if_pos g4]
              rw [if_neg g4]
              cases ef : stO f k with
              | none => rfl
              | some o =>
                exfalso
                rcases H with H | H | H | H | H
                · rw [ea] at H; cases H
                · rw [eb] at H; cases H
                · rcases H r eb with H | H
                  · exact H g2
                  · exact g1 (H h ec)
                · exact g3 (H n ed)
                · rcases H k ee with H | H
                  · exact g4 H
                  · rw [ef] at H; cases H
        · rw [if_neg g2]
theorem st_dec {f : Int32} {k : Nat} (hk : k < 2 ^ 31) {A B C : Prop} (h1 : ∀ o, stO f k = some o → f = oI o → (∀ w, o = some w → w < k) → B) (h0 : stO f k = none → A) (h0' : stO f k = none → C) : if f < -1 then A else if f < nI k then B else C := by
  have t1 : (-1 : Int32).toInt = -1 := by decide
  by_cases e : f = -1
  · subst e
    rw [if_neg (by decide), if_pos (nI_m1_lt hk)]
    exact h1 none (by unfold stO; rw [if_pos rfl]) rfl (fun w z => by cases z)
  · refine ifd (fun g => h0 ?_) (fun g => ?_)
    · unfold stO
      rw [if_neg e, ixO_none]
      intro j hj ej
      rw [ej] at g
      exact nI_nlt_m1 (by omega) g
    · have g0 : ¬ f < 0 := fun z => by
        rw [Int32.lt_iff_toInt_lt] at g z
        have t0 : (0 : Int32).toInt = 0 := by decide
        refine e (Int32.toInt_inj.mp ?_)
        omega
      obtain ⟨w, hw, ew⟩ := nI_of g0
      subst ew
      refine ifc (nI_ltI hw hk) (fun g2 => h1 (some w) ?_ rfl (fun w' z => by cases z; exact g2)) (fun g2 => h0' ?_)
      · unfold stO
        rw [if_neg e, ixO_some g2 hk]
      · unfold stO
        rw [if_neg e, ixO_none]
        intro j hj ej
        have := (nI_eq hw (by omega)).mp ej
        omega
theorem c_clear {K : z_M → Prop} (hK : ∀ μ', (∀ c k, c ≠ 20 → μ'.1 c k = μ.1 c k) → (∀ c k, c < 4 → 1 ≤ k → k ≤ 4 → μ'.1 20 (5 * c + k) = -1) → (∀ c, c < 4 → μ'.1 20 (5 * c) = 0) → K μ') : C_X5_clear kd q μ K := by
  unfold C_X5_clear L_X5_clear_2
  intro P hP
  have key : ∀ i, i ≤ 20 → ∀ μi : z_M, (∀ c k, c ≠ 20 → μi.1 c k = μ.1 c k) → (∀ k, k < i → μi.1 20 k = if k % 5 = 0 then 0 else -1) → P (nI i) μi := by
    refine downTo 20 ?_ (fun i hi ih => ?_)
    · intro μi k1 k2
      refine hP _ _ ?_
      unfold B_X5_clear_2
      rw [if_pos (show nI 20 ≤ nI 20 by decide)]
      refine hK μi k1 (fun c k hc h1 h2 => ?_) (fun c hc => ?_)
      · rw [k2 _ (by omega), if_neg (by omega)]
      · rw [k2 _ (by omega), if_pos (by omega)]
    · intro μi k1 k2
      refine hP _ _ ?_
      unfold B_X5_clear_2
      refine ifc (nI_leI (by decide) (by omega)) (fun g => absurd g (by omega)) (fun _ => ?_)
      have e5 : nI i - nI i / 5 * 5 = nI (i % 5) := by
        rw [show (5 : Int32) = nI 5 from rfl, pk_div (by omega) (by decide) (by decide), nI_mul, pk_sub (by omega)]
        congr 1
        omega
      rw [e5, nI_clamp (by omega), nI_1]
      have fin : ∀ v : Int32, v = (if i % 5 = 0 then 0 else -1) → P (nI (i + 1)) (si μi 20 i v) := fun v ev => by
        refine ih _ (fun c k hc => by rw [si1, if_neg (fun z => hc z.1)]; exact k1 c k hc) (fun k hk => ?_)
        rw [si1]
        by_cases g : k = i
        · rw [if_pos ⟨rfl, g⟩, ev, g]
        · rw [if_neg (fun z => g z.2)]
          exact k2 k (by omega)
      refine ifc (nI_eq (b := 0) (by omega) (by decide)) (fun g => ⟨nI_vin (by omega) (by decide), fin _ (by rw [if_pos g])⟩) (fun g => ⟨nI_vin (by omega) (by decide), fin _ (by rw [if_neg g])⟩)
  exact key 0 (Nat.zero_le _) μ (fun _ _ _ => rfl) (fun k hk => absurd hk (Nat.not_lt_zero k))
/-- what a plan answers -/
def plOut (cnt : Nat) (o : Option Nat) (p : Nat × Nat) : Int32 := match o with
  | none => nI p.1
  | some w => nI (p.2 / 2 ^ (2 * (cnt - 1 - w)) % 4)
theorem c_plan (hQ : KQ S kd q) (hV : RepV S μ) (hW : WF 80 S) {a b c d e f : Int32} {K : Int32 → z_Q → z_M → Prop} (hK : ∀ q' μ', KQ S kd q' → RepV S μ' → K (opPlan S a b c d e f) q' μ') : C_X11_plan kd q a b c d e f μ K := by
  have h3 := hW.1
  have no : opPlan S a b c d e f = -1 → K (-1) q μ := fun g => by
    have := hK q μ hQ hV
    rw [g] at this
    exact this
  unfold C_X11_plan
  refine c_raceAt hQ hV.1 hW (fun r hr eb => opt_s ?_) (fun g => opt_n (no (opPlan_no (Or.inr (Or.inl (ixO_none g))))))
  subst eb
  have ib : ixO (nI r) (S.1 0 3) = some r := ixO_some hr (by omega)
  have h4 := hW.2.2.1 r hr
  have nor : (S.1 12 r ≠ 0 ∨ ∀ h, ixO c (S.1 10 r) = some h → (S.1 11 r).testBit h = true) → K (-1) q μ := fun g => no (opPlan_no (Or.inr (Or.inr (Or.inl fun r' er => by
    rw [ib] at er
    cases er
    exact g))))
  rw [(hV.2.1 r hr).2.2.1]
  refine ifc (nI_eq (b := 0) (by omega) (by decide)) (fun h12 => ?_) (fun e0 => nor (Or.inl e0))
  refine c_runs (hV.to0.2.1 r hr) hr h4.2.1 h4.2.2.1 (fun h hrun ec => if10 ?_) (fun g => if00 (nor (Or.inr fun h eh => ?_)))
  rotate_left
  · obtain ⟨g3, g4⟩ := ixO_inv eh
    cases e3 : (S.1 11 r).testBit h with
    | true => rfl
    | false => exact absurd g4 (g h ⟨hr, g3, e3⟩)
  subst ec
  unfold C_X11_isBettor
  refine at_dec (n := 16) (N := 16) (by decide) (by decide) rfl (fun x hx ea => if10 ?_) (fun g => if00 (no (opPlan_no (Or.inl (ixO_none g))))) (fun g => if00 (no (opPlan_no (Or.inl (ixO_none g)))))
  subst ea
  unfold C_X11_isStake
  refine rg_dec (lo := 1) (hi := 20000) rfl rfl (by decide) (by decide) (fun n n1 n2 ed => if10 ?_) (fun g => if00 (no (opPlan_no (Or.inr (Or.inr (Or.inr (Or.inl (no_ixO g)))))))) (fun g => if00 (no (opPlan_no (Or.inr (Or.inr (Or.inr (Or.inl (no_ixO g))))))))
  subst ed
  refine rg_dec (lo := 1) (hi := 4) rfl rfl (by decide) (by decide) (fun cnt c1 c2 ee => ?_) (fun g => no (opPlan_no (Or.inr (Or.inr (Or.inr (Or.inr fun k ek => Or.inl (no_ixO g k ek))))))) (fun g => no (opPlan_no (Or.inr (Or.inr (Or.inr (Or.inr fun k ek => Or.inl (no_ixO g k ek)))))))
  subst ee
  have ie : ixO (nI cnt) 5 = some cnt := ixO_some (by omega) (by decide)
  have nof : stO f cnt = none → K (-1) q μ := fun g => no (opPlan_no (Or.inr (Or.inr (Or.inr (Or.inr fun k ek => Or.inr (by
    rw [ie] at ek
    cases ek
    exact g))))))
  refine st_dec (by omega) (fun o eo ef ho => ?_) nof nof
  have hh := hrun.2.1
  have e1 : opPlan S (nI x) (nI r) (nI h) (nI n) (nI cnt) f = (match planL S x r h n cnt (2 ^ (2 * cnt)) with
    | none => -2
    | some p => plOut cnt o p) := by
    unfold opPlan
    rw [ixO_some hx (by decide)]
    dsimp only
    rw [ib]
    dsimp only
    rw [ixO_some hrun.2.1 (by omega)]
    dsimp only
    rw [if_neg (by rw [hrun.2.2]; decide), if_pos h12, ixO_some (show n < 20001 by omega) (by decide)]
    dsimp only
    rw [if_neg (by omega), ie]
    dsimp only
    rw [if_neg (by omega), eo]
    rfl
  rw [e1] at hK
  refine c_clear fun μ1 k1 k2 k3 => ?_
  have hV1 : RepV S μ1 := hV.same fun c k hc => k1 c k (by omega)
  unfold C_X8_setBettor
  generalize hμ2 : si (si (si μ1 9 4 (nI x)) 9 5 (nI n)) 9 6 (μ1.1 0 12) = μ2
  have m2 : ∀ c k, c ≠ 9 → μ2.1 c k = μ1.1 c k := fun c k hc => by rw [← hμ2, si1, if_neg (fun z => hc z.1), si1, if_neg (fun z => hc z.1), si1, if_neg (fun z => hc z.1)]
  have hV2 : RepV S μ2 := hV1.same fun c k hc => m2 c k (by omega)
  have g4 : μ2.1 9 4 = nI x := by rw [← hμ2, si1, if_neg (by omega), si1, if_neg (by omega), si1, if_pos ⟨rfl, rfl⟩]
  have g5 : μ2.1 9 5 = nI n := by rw [← hμ2, si1, if_neg (by omega), si1, if_pos ⟨rfl, rfl⟩]
  have g6 : μ2.1 9 6 = nI (S.1 0 2) := by
    rw [← hμ2, si1, if_pos ⟨rfl, rfl⟩]
    exact hV1.1.1
  unfold L_X11_plan_97
  intro P hP
  have key : ∀ m, m ≤ S.1 0 4 → ∀ (q3 : z_Q) (μ3 : z_M), KQ S kd q3 → RepV S μ3 → μ3.1 9 4 = nI x → μ3.1 9 5 = nI n → μ3.1 9 6 = nI (S.1 0 2) → (∀ c k, c < m → 1 ≤ k → k ≤ cnt → μ3.1 20 (5 * c + k) = oI (wB S x c r h n k)) → (∀ c k, m ≤ c → c < 4 → 1 ≤ k → k ≤ cnt → μ3.1 20 (5 * c + k) = -1) → (∀ c, c < 4 → μ3.1 20 (5 * c) = 0) → P (nI r) (nI h) (nI n) (nI cnt) f (nI m) q3 μ3 := by
    refine downTo (S.1 0 4) ?_ (fun m hm ih => ?_)
    · intro q3 μ3 hQ3 hV3 f4 f5 f6 t1 t2 t3
      refine hP _ _ _ _ _ _ _ _ ?_
      unfold B_X11_plan_97
      rw [hV3.1.2.2.1, if_pos ((nI_leI (by omega) (by omega)).mpr (Nat.le_refl _))]
      refine c_seekP hW hrun h12 hx n1 n2 c1 c2 (fun c k hc hk => ?_) fun μ4 s1 s2 s3 => ?_
      · cases k with
        | zero => exact t3 c hc
        | succ k =>
          by_cases g : c < S.1 0 4
          · exact t1 c (k + 1) g (by omega) hk
          · rw [t2 c (k + 1) (by omega) hc (by omega) hk]
            unfold wB
            rw [if_neg (fun z => g z.1)]
            rfl
      · have hV4 : RepV S μ4 := hV3.same fun c k hc => s1 c k (by omega)
        have hk := hK q3 μ4 hQ3 hV4
        rw [s2]
        cases ep : planL S x r h n cnt (2 ^ (2 * cnt)) with
        | none =>
          rw [ep] at hk
          rw [if_pos (show oI (Option.map (fun p : Nat × Nat => p.1) none) = -1 from rfl)]
          exact hk
        | some p =>
          have hp := planL_bd (cnt := cnt) hW hx hrun h12 n1 n2 c2 _ p ep
          obtain ⟨_, fp2⟩ := four_pow ⟨cnt, by omega⟩
          dsimp only at fp2
          rw [ep] at hk
          rw [if_neg (show ¬ oI (Option.map (fun p : Nat × Nat => p.1) (some p)) = -1 from nI_ne_m1 (by show p.1 < 2 ^ 31; omega))]
          cases o with
          | none =>
            rw [if_pos (show f = -1 from ef)]
            exact hk
          | some w =>
            have hw := ho w rfl
            rw [if_neg (by rw [ef]; exact nI_ne_m1 (by omega))]
            unfold C_X5_bookOf
            have e9 : (nI cnt - 1) - f = nI (cnt - 1 - w) := by rw [ef, oI_some, show (1 : Int32) = nI 1 from rfl, pk_sub (by omega), pk_sub (by omega)]
            rw [e9, s3 p ep, row_bits (by omega) (by omega)]
            exact hk
    · intro q3 μ3 hQ3 hV3 f4 f5 f6 t1 t2 t3
      refine hP _ _ _ _ _ _ _ _ ?_
      unfold B_X11_plan_97
      rw [hV3.1.2.2.1]
      refine ifc (nI_leI (by omega) (by omega)) (fun g => absurd g (by omega)) (fun _ => ?_)
      refine c_tryBook hQ3 hV3 hW hrun h12 hx n1 n2 hm c2 f4 f5 f6 (fun k j1 j2 => t2 m k (Nat.le_refl _) (by omega) j1 j2) fun q4 μ4 hQ4 hV4 y4 y5 y6 w1 w2 => ?_
      rw [nI_1]
      refine ih q4 μ4 hQ4 hV4 y4 y5 y6 (fun c k hc j1 j2 => ?_) (fun c k hc hc4 j1 j2 => ?_) (fun c hc => ?_)
      · by_cases g : c = m
        · rw [g]
          exact w1 k j1 j2
        · rw [w2 _ (by omega)]
          exact t1 c k (by omega) j1 j2
      · rw [w2 _ (by omega)]
        exact t2 c k (by omega) hc4 j1 j2
      · rw [w2 _ (by omega)]
        exact t3 c hc
  exact key 0 (Nat.zero_le _) q μ2 hQ hV2 g4 g5 g6 (fun c k hc => absurd hc (Nat.not_lt_zero c)) (fun c k _ hc j1 j2 => by rw [m2 _ _ (by decide)]; exact k2 c k hc j1 (by omega)) (fun c hc => by rw [m2 _ _ (by decide)]; exact k3 c hc)
end CSEEK
