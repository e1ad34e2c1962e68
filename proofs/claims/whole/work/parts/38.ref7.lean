/-! The reference: what a bet has back; run, has, deduction, check. -/
def dedT (S : z_SS) (i r : Nat) (n : Nat) : Nat := match n with
  | 0 => 0
  | n + 1 => dedT S i r n + (if S.2.1 25 (3 * i + r) = some n then 0 else if (S.1 11 r).testBit n = true then (if i < S.1 18 (8 * r + n) then (match S.2.1 19 (24 * S.1 21 i + 8 * r + n) with
      | none => 0
      | some s => 5 * (20 * S.1 9 s / (S.1 8 s + S.1 9 s))) else 0) else 0)
def dedS (S : z_SS) (i r : Nat) : Nat := if dedT S i r (S.1 10 r) ≤ 75 then dedT S i r (S.1 10 r) else 75
def raceOfS (S : z_SS) (i : Nat) : Nat := if S.2.1 25 (3 * i) = none then (if S.2.1 25 (3 * i + 1) = none then 2 else 1) else 0
def keptS (d z : Nat) : Nat := z * (100 - d) / 100
def winS (S : z_SS) (i r h : Nat) : Nat := if (S.1 11 r).testBit h = true then S.1 23 i else if (S.1 13 r).testBit h = true then S.1 23 i / popN (S.1 13 r) + keptS (dedS S i r) (S.1 23 i / popN (S.1 13 r) * S.1 8 (S.1 26 (3 * i + r)) / S.1 9 (S.1 26 (3 * i + r))) else 0
def placeS (S : z_SS) (i r h : Nat) : Nat := if leftS S r < 5 then S.1 23 i else if (S.1 11 r).testBit h = true then S.1 23 i else if (S.1 14 r).testBit h = true then S.1 23 i + keptS (dedS S i r) (S.1 23 i * S.1 8 (S.1 26 (3 * i + r)) / (S.1 9 (S.1 26 (3 * i + r)) * (if 8 ≤ leftS S r then 5 else 4))) else 0
/-- joined: m races are left to ask -/
def joinS (S : z_SS) (i : Nat) (m : Nat) (st nu de : Nat) : Nat := match m with
  | 0 => if st * nu / de ≤ 1000000000 then st * nu / de else 1000000000
  | m + 1 => match S.2.1 25 (3 * i + (2 - m)) with
    | none => joinS S i m st nu de
    | some h => if (S.1 11 (2 - m)).testBit h = true then joinS S i m st nu de else if (S.1 13 (2 - m)).testBit h = true then joinS S i m (st / popN (S.1 13 (2 - m))) (nu * (S.1 8 (S.1 26 (3 * i + (2 - m))) + S.1 9 (S.1 26 (3 * i + (2 - m))))) (de * S.1 9 (S.1 26 (3 * i + (2 - m)))) else 0
def legH (S : z_SS) (i : Nat) : Nat := (S.2.1 25 (3 * i + raceOfS S i)).getD 0
def backS (S : z_SS) (i : Nat) : Nat := if S.1 22 i = 3 then joinS S i 3 (S.1 23 i) 1 1 else (if S.1 22 i = 1 then 0 else winS S i (raceOfS S i) (legH S i)) + (if S.1 22 i = 0 then 0 else placeS S i (raceOfS S i) (legH S i))
abbrev outP (S : z_SS) (i : Nat) : Prop := ∀ r, r < 3 → S.2.1 25 (3 * i + r) ≠ none → S.1 12 r = 1
/-- decided is what is out -/
def WFd (S : z_SS) : Prop := ∀ i, i < S.1 0 6 → (S.1 27 i = 1 ↔ outP S i)
def paysS (S : z_SS) (i : Nat) : z_SS := if S.1 16 (S.1 21 i) = 0 then (if backS S i ≤ S.1 15 (S.1 21 i) then setN (setN (setN S 27 i 1) 15 (S.1 21 i) (S.1 15 (S.1 21 i) - backS S i)) 28 i 1 else setN (setN S 27 i 1) 16 (S.1 21 i) 1) else setN S 27 i 1
def runN (S : z_SS) (n : Nat) : Nat × z_SS := match n with
  | 0 => (0, S)
  | n + 1 => if (runN S n).2.1 27 n = 0 ∧ outP (runN S n).2 n then ((runN S n).1 + 1, paysS (runN S n).2 n) else runN S n
def endS (S : z_SS) (r : Nat) (b c : Int32) : z_SS := setN (setN (setN S 12 r 1) 13 r b.toNatClampNeg) 14 r c.toNatClampNeg
def opRun (S : z_SS) (a b c : Int32) : Int32 × z_SS := match ixO a (S.1 0 3) with
  | none => (-1, S)
  | some r => if S.1 12 r = 0 ∧ b ≠ 0 ∧ b &&& (allI S r ^^^ -1) = 0 ∧ c &&& (allI S r ^^^ -1) = 0 ∧ b &&& (c ^^^ -1) = 0 then (nI (runN (endS S r b c) (S.1 0 6)).1, (runN (endS S r b c) (S.1 0 6)).2) else (-1, S)
def opHas (S : z_SS) (a b : Int32) : Int32 := match ixO a (S.1 0 6) with
  | none => -1
  | some i => match ixO b 2 with
    | none => -1
    | some w => if S.1 27 i = 0 then -2 else if w = 0 then nI (backS S i) else nI (S.1 28 i)
def opDeduction (S : z_SS) (a : Int32) : Int32 := match ixO a (S.1 0 6) with
  | none => -1
  | some i => if S.1 22 i = 3 then -1 else nI (dedS S i (raceOfS S i))
def w8 (x : Int32) (b : Nat) : Int32 := (x <<< ((8 : Int32) &&& 31)) ||| nI b
def wordS (S : z_SS) (k : Nat) : Int32 := w8 (w8 (w8 (w8 0 (S.1 1 (4 * k))) (S.1 1 (4 * k + 1))) (S.1 1 (4 * k + 2))) (S.1 1 (4 * k + 3))
def chkL (S : z_SS) (b n : Nat) (m k : Nat) : Int32 := match m with
  | 0 => if k = n then -1 else nI (2 * k)
  | m + 1 => if S.1 21 (S.1 0 6 - (m + 1)) = b ∧ S.1 27 (S.1 0 6 - (m + 1)) ≠ 0 then (if k = n then nI (2 * n) else if wordS S (2 * k) = nI (S.1 0 6 - (m + 1)) then (if wordS S (2 * k + 1) = nI (backS S (S.1 0 6 - (m + 1))) then chkL S b n m (k + 1) else nI (2 * k + 1)) else nI (2 * k)) else chkL S b n m k
def opCheck (S : z_SS) (a b : Int32) : Int32 × z_SS := match ixO a (S.1 0 4) with
  | none => (-2, S)
  | some bk => match ixO b (S.1 0 1 / 8 + 1) with
    | none => (-2, S)
    | some n => (chkL (setN S 0 1 0) bk n (S.1 0 6) 0, setN S 0 1 0)
theorem popN_pos : ∀ g : Fin 256, 0 < g.val → 0 < popN g.val ∧ popN g.val ≤ 8 := by decide +kernel
theorem allI_eq : ∀ n : Fin 9, ∀ g : Fin 256, (((1 : Int32) <<< (nI n &&& 31)) - 1) &&& (nI g ^^^ -1) = nI ((2 ^ n.val - 1) &&& (255 ^^^ g.val)) := by decide +kernel
/-- bits within others -/
theorem subI {b : Int32} {m : Nat} (hm : m < 2 ^ 31) (h : b &&& (nI m ^^^ -1) = 0) : b = nI b.toBitVec.toNat ∧ b.toBitVec.toNat < 2 ^ 31 ∧ ∀ j, b.toBitVec.toNat.testBit j = true → m.testBit j = true := by
  have hb : ∀ j, b.toBitVec.toNat.testBit j = true → m.testBit j = true := by
    intro j hj
    have hj2 : j < 32 := by
      refine Nat.lt_of_not_le fun g => ?_
      rw [Nat.testBit_lt_two_pow (Nat.lt_of_lt_of_le b.toBitVec.isLt (Nat.pow_le_pow_right (by decide) g))] at hj
      cases hj
    have e := congrArg (fun x => x.toBitVec.getLsbD j) h
    simp only [Int32.toBitVec_and, Int32.toBitVec_xor, BitVec.getLsbD_and, BitVec.getLsbD_xor] at e
    have e1 : b.toBitVec.getLsbD j = true := hj
    have e2 : (-1 : Int32).toBitVec.getLsbD j = true := by
      have : ∀ k : Fin 32, (-1 : Int32).toBitVec.getLsbD k = true := by decide
      exact this ⟨j, hj2⟩
    have e3 : (0 : Int32).toBitVec.getLsbD j = false := by
      have : ∀ k : Fin 32, (0 : Int32).toBitVec.getLsbD k = false := by decide
      exact this ⟨j, hj2⟩
    rw [e1, e2, e3, Bool.true_and, Bool.xor_true] at e
    have e4 : (nI m).toBitVec.getLsbD j = true := by simpa using e
    have e5 : (nI m).toBitVec.getLsbD j = (nI m).toBitVec.toNat.testBit j := rfl
    rw [e5, pk_tn (by omega)] at e4
    exact e4
  refine ⟨(Int32.toBitVec.inj (BitVec.eq_of_toNat_eq (pk_tn b.toBitVec.isLt))).symm, ?_, hb⟩
  refine Nat.lt_pow_two_of_testBit _ fun j hj => ?_
  cases e : b.toBitVec.toNat.testBit j with
  | false => rfl
  | true =>
    have := hb j e
    rw [Nat.testBit_lt_two_pow (Nat.lt_of_lt_of_le hm (Nat.pow_le_pow_right (by decide) hj))] at this
    cases this
theorem setF1_WF {B : Nat} {S : z_SS} (hW : WF B S) {n : Nat} (hn : n ≤ 200) : WF B (setN S 0 1 n) := by
  unfold WF at hW ⊢
  obtain ⟨a1, a2, a3, a4, a5, a6, a7, a8, a9, a10, a11, a12⟩ := hW
  exact ⟨⟨hn, a1.2⟩, a2, a3, a4, a5, a6, a7, a8, a9, a10, a11, a12⟩
theorem dedT_le {B : Nat} {S : z_SS} (hW : WF B S) (i r : Nat) : ∀ n, dedT S i r n ≤ 100 * n := by
  intro n
  induction n with
  | zero => exact Nat.le_refl _
  | succ n ih =>
    unfold dedT
    have : (if S.2.1 25 (3 * i + r) = some n then 0 else if (S.1 11 r).testBit n = true then (if i < S.1 18 (8 * r + n) then (match S.2.1 19 (24 * S.1 21 i + 8 * r + n) with
      | none => 0
      | some s => 5 * (20 * S.1 9 s / (S.1 8 s + S.1 9 s))) else 0) else 0) ≤ 100 := by
      split
      · omega
      · split
        · split
          · split
            · omega
            · rename_i s _
              have : 20 * S.1 9 s / (S.1 8 s + S.1 9 s) ≤ 20 := by
                refine Nat.le_trans (Nat.div_le_div_right (c := S.1 8 s + S.1 9 s) (show 20 * S.1 9 s ≤ 20 * (S.1 8 s + S.1 9 s) by omega)) ?_
                rcases Nat.eq_zero_or_pos (S.1 8 s + S.1 9 s) with e | e
                · rw [e, Nat.div_zero]
                  omega
                · rw [Nat.mul_div_cancel _ e]
                  exact Nat.le_refl _
              exact Nat.mul_le_mul_left 5 this
          · omega
        · omega
    omega
theorem dedS_le (S : z_SS) (i r : Nat) : dedS S i r ≤ 75 := by
  unfold dedS
  split <;> omega
section REF7
variable {B : Nat} {S : z_SS} {μ : z_M}
theorem wf_leg3 (hB : B ≤ 84) (hW : WF B S) {i r h : Nat} (hi : i < S.1 0 6) (hr : r < 3) (hl : S.2.1 25 (3 * i + r) = some h) : r < S.1 0 3 ∧ h < S.1 10 r ∧ S.1 26 (3 * i + r) < S.1 0 5 ∧ S.1 10 r ≤ 8 ∧ S.1 0 3 ≤ 3 ∧ i < 84 ∧ h < 8 := by
  have h3 := hW.1
  have h4 := (hW.2.2.2.2.2.2.1 i hi).2.2.2.2.2.2.2.2.2.1 r h hr hl
  have h5 := hW.2.2.1 r h4.1
  exact ⟨h4.1, h4.2.1, h4.2.2, h5.2.1, h3.2.2.1, by omega, by omega⟩
theorem r_deductionOf (hB : B ≤ 84) (hR : RepR S μ) (hW : WF B S) {i r : Nat} (hi : i < S.1 0 6) (hr : r < S.1 0 3) {K : Int32 → z_M → Prop} (hK : K (nI (dedS S i r)) μ) : C_X12_deductionOf (nI i) (nI r) μ K := by
  have h3 := hW.1
  have h4 := hW.2.2.1 r hr
  have h5 := hW.2.2.2.2.2.2.1 i hi
  have hd := dedT_le hW i r
  unfold C_X12_deductionOf L_X12_deductionOf_5
  intro P hP
  refine downTo (Q := fun n => P (nI i) (nI r) (nI (dedT S i r n)) (nI n) μ) (S.1 10 r) ?_ (fun n hn ih => ?_) 0 (Nat.zero_le _)
  · refine hP _ _ _ _ _ ?_
    unfold B_X12_deductionOf_5
    have := hd (S.1 10 r)
    rw [nI_clamp (n := r) (by omega), hR.a (c := 10) rfl]
    refine ⟨nI_vin (by omega) (by omega), ifc (nI_leI (by omega) (by omega)) (fun _ => ?_) (fun g => absurd (Nat.le_refl _) g)⟩
    unfold dedS at hK
    refine ifc (nI_leI (b := 75) (by omega) (by omega)) (fun e => ?_) (fun e => ?_)
    · rw [if_pos e] at hK
      exact hK
    · rw [if_neg e] at hK
      exact hK
  · refine hP _ _ _ _ _ ?_
    unfold B_X12_deductionOf_5
    have hdn := hd n
    rw [nI_clamp (n := r) (by omega), hR.a (c := 10) rfl, r_leg, nI_clamp (n := 3 * i + r) (by omega), hR.o (c := 25) rfl, hR.a (c := 11) rfl]
    try dsimp only at ih
    unfold dedT at ih
    refine ⟨nI_vin (by omega) (by omega), ifc (nI_leI (by omega) (by omega)) (fun g => absurd g (by omega)) (fun _ => ⟨nI_vin (by omega) (by omega), ?_⟩)⟩
    rw [nI_1]
    refine ifc (oI_inj (a := some n) (fun k hk => by cases hk; omega) (fun k hk => by have := wf_leg hW hi (by omega) k hk; omega)) (fun e => ?_) (fun e => ?_)
    · rw [if_pos e.symm, Nat.add_zero] at ih
      exact ih
    · rw [if_neg (fun q => e q.symm)] at ih
      refine r_hasBit (by omega) (by omega) (fun hb => ?_) (fun hb => ?_)
      · rw [if_pos hb] at ih
        rw [if_neg i10, show (8 : Int32) * nI r + nI n = nI (8 * r + n) by rw [show (8 : Int32) = nI 8 from rfl, nI_mul, nI_add], nI_clamp (by omega), hR.a (c := 18) rfl]
        have h18 := hW.2.2.2.2.2.2.2.1 r n hr hb
        refine ⟨nI_vin (by omega) (by omega), ifc (nI_ltI (by omega) (by omega)) (fun e1 => ?_) (fun e1 => ?_)⟩
        · rw [if_pos e1] at ih
          rw [nI_clamp (by omega), hR.a (c := 21) rfl]
          refine ⟨nI_vin (by omega) (by omega), r_cellOf ⟨nI_vin (by omega) (by omega), ?_⟩⟩
          rw [nI_clamp (by omega), hR.o (c := 19) rfl]
          have hs := fun s e => hW.2.2.2.2.2.1 (S.1 21 i) r n s (by omega) hr hb e
          refine ifc (oI_eq_m1 (fun k hk => by have := hs k hk; omega)) (fun e2 => ?_) (fun e2 => ?_)
          · rw [e2, Nat.add_zero] at ih
            exact ih
          · obtain ⟨s, es⟩ := Option.ne_none_iff_exists'.mp e2
            have hs1 := hs s es
            have hp := hW.2.1 s hs1
            rw [es] at ih
            rw [es, oI_some, nI_clamp (by omega), hR.a (c := 8) rfl, hR.a (c := 9) rfl, nI_add, show (20 : Int32) = nI 20 from rfl, nI_mul, pk_div (by omega) (by omega) (by omega), show (5 : Int32) = nI 5 from rfl, nI_mul, nI_add]
            exact ⟨nI_vin (by omega) (by omega), nI_ne0 (by omega) (by omega), ih⟩
        · rw [if_neg e1, Nat.add_zero] at ih
          exact ih
      · rw [if_neg (by rw [hb]; decide), Nat.add_zero] at ih
        rw [if_pos rfl]
        exact ih
theorem raceOfS_ok (hW : WF B S) {i : Nat} (hi : i < S.1 0 6) : raceOfS S i < 3 ∧ S.2.1 25 (3 * i + raceOfS S i) = some (legH S i) := by
  obtain ⟨r, hr, hl⟩ := (hW.2.2.2.2.2.2.1 i hi).2.2.2.2.2.2.2.2.1
  have : raceOfS S i < 3 ∧ S.2.1 25 (3 * i + raceOfS S i) ≠ none := by
    unfold raceOfS
    split
    · rename_i e0
      split
      · rename_i e1
        refine ⟨by decide, ?_⟩
        rcases (show r = 0 ∨ r = 1 ∨ r = 2 by omega) with e | e | e
        · rw [e] at hl
          exact absurd e0 hl
        · rw [e] at hl
          exact absurd e1 hl
        · rw [e] at hl
          exact hl
      · rename_i e1
        exact ⟨by decide, e1⟩
    · rename_i e0
      exact ⟨by decide, e0⟩
  refine ⟨this.1, ?_⟩
  obtain ⟨h, hh⟩ := Option.ne_none_iff_exists'.mp this.2
  unfold legH
  rw [hh]
  rfl
theorem r_raceOf (hB : B ≤ 84) (hR : RepR S μ) (hW : WF B S) {i : Nat} (hi : i < S.1 0 6) {K : Int32 → z_M → Prop} (hK : K (nI (raceOfS S i)) μ) : C_X12_raceOf (nI i) μ K := by
  have h3 := hW.1
  have hr := raceOfS_ok hW hi
  unfold C_X12_raceOf L_X12_raceOf_2
  intro P hP
  have ask : ∀ r, r < 3 → (S.2.1 25 (3 * i + r) = none → P (nI i) (nI (r + 1)) μ) → (S.2.1 25 (3 * i + r) ≠ none → K (nI r) μ) → P (nI i) (nI r) μ := by
    intro r hr h0 h1
    refine hP _ _ _ ?_
    unfold B_X12_raceOf_2
    rw [r_leg, nI_clamp (by omega), hR.o (c := 25) rfl, nI_1]
    exact ⟨nI_vin (by omega) (by omega), ifc (oI_eq_m1 (fun k hk => by have := wf_leg hW hi hr k hk; omega)) h0 h1⟩
  unfold raceOfS at hK
  refine ask 0 (by decide) (fun e => ?_) (fun e => ?_)
  · rw [Nat.add_zero] at e
    rw [if_pos e] at hK
    refine ask 1 (by decide) (fun e => ?_) (fun e => ?_)
    · rw [if_pos e] at hK
      refine ask 2 (by decide) (fun e2 => ?_) (fun e => ?_)
      · exfalso
        obtain ⟨r, hr, hl⟩ := (hW.2.2.2.2.2.2.1 i hi).2.2.2.2.2.2.2.2.1
        rcases (show r = 0 ∨ r = 1 ∨ r = 2 by omega) with g | g | g
        · rw [g] at hl
          exact hl (by assumption)
        · rw [g] at hl
          exact hl (by assumption)
        · rw [g] at hl
          exact hl e2
      · exact hK
    · rw [if_neg e] at hK
      exact hK
  · rw [Nat.add_zero] at e
    rw [if_neg e] at hK
    exact hK
theorem r_kept (hB : B ≤ 84) (hR : RepR S μ) (hW : WF B S) {i r z : Nat} (hi : i < S.1 0 6) (hr : r < S.1 0 3) (hz : z < 2 ^ 50) {K : Int32 → z_M → Prop} (hK : K (nI (keptS (dedS S i r) z)) μ) : C_X12_kept (nI i) (nI r) (lN z) μ K := by
  have h1 := dedS_le S i r
  unfold C_X12_kept
  refine r_deductionOf hB hR hW hi hr ?_
  have h2 : z * (100 - dedS S i r) ≤ 2 ^ 50 * 100 := Nat.mul_le_mul (by omega) (by omega)
  rw [show (100 : Int32) = nI 100 from rfl, pk_sub (by omega), nI_l (by omega), lN_mul, show (100 : Int64) = lN 100 from rfl, pk_lDiv (by omega) (by decide) (by decide), lN_i]
  exact hK
theorem wf_won2 (hW : WF B S) {r : Nat} (hr : r < S.1 0 3) (he : S.1 12 r = 1) : S.1 13 r < 256 ∧ S.1 14 r < 256 ∧ 0 < popN (S.1 13 r) ∧ popN (S.1 13 r) ≤ 8 := by
  have h4 := (hW.2.2.1 r hr).2.2.2.2.2.2 he
  have h5 := popN_pos ⟨S.1 13 r, h4.2.1⟩ (Nat.pos_of_ne_zero h4.1)
  exact ⟨h4.2.1, h4.2.2.1, h5⟩
theorem div_le60 {n a b : Nat} (hn : n ≤ 20000) (ha : a ≤ 60) : n * a / b ≤ 1200000 := by
  have : n * a ≤ 20000 * 60 := Nat.mul_le_mul hn ha
  exact Nat.le_trans (Nat.div_le_self _ _) (by omega)
theorem keptS_le {d z : Nat} : keptS d z ≤ z := by
  unfold keptS
  refine Nat.le_trans (Nat.div_le_div_right (c := 100) (Nat.mul_le_mul_left z (Nat.sub_le 100 d))) ?_
  rw [Nat.mul_div_cancel _ (by decide)]
  exact Nat.le_refl _
theorem r_backToWin (hB : B ≤ 84) (hR : RepR S μ) (hW : WF B S) {i r h : Nat} (hi : i < S.1 0 6) (hr : r < 3) (hl : S.2.1 25 (3 * i + r) = some h) (he : S.1 12 r = 1) {K : Int32 → z_M → Prop} (hK : K (nI (winS S i r h)) μ) : C_X12_backToWin (nI i) (nI r) μ K := by
  have h3 := wf_leg3 hB hW hi hr hl
  have h4 := hW.2.2.1 r h3.1
  have h5 := hW.2.2.2.2.2.2.1 i hi
  have h6 := wf_won2 hW h3.1 he
  have h7 := hW.2.1 _ h3.2.2.1
  have h0 := hW.1
  unfold C_X12_backToWin
  unfold winS at hK
  rw [r_leg, nI_clamp (n := 3 * i + r) (by omega), nI_clamp (n := r) (by omega), hR.o (c := 25) rfl, hl, oI_some, hR.a (c := 11) rfl, hR.a (c := 26) rfl, nI_clamp (n := S.1 26 (3 * i + r)) (by omega), nI_clamp (n := i) (by omega)]
  refine ⟨nI_vin (by omega) (by omega), nI_vin (by omega) (by omega), r_hasBit (by omega) (by omega) (fun hb => ?_) (fun hb => ?_)⟩
  · rw [if_pos hb] at hK
    rw [if_neg i10, hR.a (c := 23) rfl]
    exact ⟨nI_vin (by omega) (by omega), hK⟩
  · rw [if_neg (by rw [hb]; decide)] at hK
    rw [if_pos rfl, hR.a (c := 13) rfl]
    refine r_hasBit (by omega) (by omega) (fun hb2 => ?_) (fun hb2 => ?_)
    · rw [if_pos hb2] at hK
      rw [if_neg i10, hR.a (c := 13) rfl]
      refine ⟨nI_vin (by omega) (by omega), r_sizeOf h6.1 ?_⟩
      rw [hR.a (c := 23) rfl, hR.a (c := 8) rfl, hR.a (c := 9) rfl]
      have hq : S.1 23 i / popN (S.1 13 r) ≤ 20000 := Nat.le_trans (Nat.div_le_self _ _) (by omega)
      have hm := div_le60 (b := S.1 9 (S.1 26 (3 * i + r))) hq h7.2.1
      have hm2 : S.1 23 i / popN (S.1 13 r) * S.1 8 (S.1 26 (3 * i + r)) ≤ 20000 * 60 := Nat.mul_le_mul hq h7.2.1
      rw [pk_div (by omega) (by omega) (by omega), nI_l (by omega), nI_l (by omega), nI_l (by omega), lN_mul, pk_lDiv (by omega) (by omega) (by omega)]
      refine ⟨nI_ne0 (by omega) (by omega), nI_vin (by omega) (by omega), fun e => ?_, r_kept hB hR hW hi h3.1 (by omega) ?_⟩
      · have := (lN_eq (b := 0) (by omega) (by omega)).mp e
        omega
      · rw [nI_add]
        exact hK
    · rw [if_neg (by rw [hb2]; decide)] at hK
      rw [if_pos rfl]
      exact hK
theorem r_backForPlace (hB : B ≤ 84) (hR : RepR S μ) (hW : WF B S) {i r h : Nat} (hi : i < S.1 0 6) (hr : r < 3) (hl : S.2.1 25 (3 * i + r) = some h) (he : S.1 12 r = 1) {K : Int32 → z_M → Prop} (hK : K (nI (placeS S i r h)) μ) : C_X12_backForPlace (nI i) (nI r) μ K := by
  have h3 := wf_leg3 hB hW hi hr hl
  have h4 := hW.2.2.1 r h3.1
  have h5 := hW.2.2.2.2.2.2.1 i hi
  have h6 := wf_won2 hW h3.1 he
  have h7 := hW.2.1 _ h3.2.2.1
  have h0 := hW.1
  have hL := leftS_pop hW h3.1
  unfold C_X12_backForPlace L_X12_backForPlace_60 L_X12_backForPlace_126
  unfold placeS at hK
  rw [r_leg, nI_clamp (n := 3 * i + r) (by omega), nI_clamp (n := r) (by omega), hR.o (c := 25) rfl, hl, oI_some, hR.a (c := 11) rfl, hR.a (c := 26) rfl, nI_clamp (n := S.1 26 (3 * i + r)) (by omega), nI_clamp (n := i) (by omega), hR.a (c := 10) rfl]
  refine ⟨nI_vin (by omega) (by omega), nI_vin (by omega) (by omega), r_sizeOf (by omega) ?_⟩
  rw [pk_sub hL.2, ← hL.1, hR.a (c := 23) rfl, hR.a (c := 11) rfl]
  refine ifc (nI_ltI (b := 5) (by omega) (by omega)) (fun e5 => ?_) (fun e5 => ?_)
  · rw [if_pos e5] at hK
    exact ⟨nI_vin (by omega) (by omega), hK⟩
  · rw [if_neg e5] at hK
    refine r_hasBit (by omega) (by omega) (fun hb => ?_) (fun hb => ?_)
    · rw [if_pos hb] at hK
      rw [if_neg i10, hR.a (c := 23) rfl]
      exact ⟨nI_vin (by omega) (by omega), hK⟩
    · rw [if_neg (by rw [hb]; decide)] at hK
      rw [if_pos rfl, hR.a (c := 14) rfl]
      refine r_hasBit (by omega) (by omega) (fun hb2 => ?_) (fun hb2 => ?_)
      · rw [if_pos hb2] at hK
        rw [if_neg i10, hR.a (c := 23) rfl, hR.a (c := 8) rfl, hR.a (c := 9) rfl]
        refine ⟨nI_vin (by omega) (by omega), nI_vin (by omega) (by omega), ?_⟩
        have fin : ∀ d : Nat, 1 ≤ d → d ≤ 5 → K (nI (S.1 23 i + keptS (dedS S i r) (S.1 23 i * S.1 8 (S.1 26 (3 * i + r)) / (S.1 9 (S.1 26 (3 * i + r)) * d)))) μ → (¬ ((nI (S.1 9 (S.1 26 (3 * i + r))) * nI d).toInt64) = 0) ∧ C_X12_kept (nI i) (nI r) ((nI (S.1 23 i)).toInt64 * (nI (S.1 8 (S.1 26 (3 * i + r)))).toInt64 / ((nI (S.1 9 (S.1 26 (3 * i + r))) * nI d).toInt64)) μ (fun r3 μ2 => K (nI (S.1 23 i) + r3) μ2) := by
          intro d d1 d2 hk
          have b1 : S.1 9 (S.1 26 (3 * i + r)) * d ≤ 12 * 5 := Nat.mul_le_mul (by omega) d2
          have b2 : 1 * 1 ≤ S.1 9 (S.1 26 (3 * i + r)) * d := Nat.mul_le_mul (by omega) d1
          have hm2 : S.1 23 i * S.1 8 (S.1 26 (3 * i + r)) ≤ 20000 * 60 := Nat.mul_le_mul (by omega) h7.2.1
          have hm3 : S.1 23 i * S.1 8 (S.1 26 (3 * i + r)) / (S.1 9 (S.1 26 (3 * i + r)) * d) ≤ 20000 * 60 := Nat.le_trans (Nat.div_le_self _ _) hm2
          rw [nI_mul, nI_l (by omega), nI_l (by omega), nI_l (by omega), lN_mul, pk_lDiv (by omega) (by omega) (by omega)]
          refine ⟨fun e => ?_, r_kept hB hR hW hi h3.1 (by omega) ?_⟩
          · have := (lN_eq (b := 0) (by omega) (by omega)).mp e
            omega
          · rw [nI_add]
            exact hk
        refine ifc (nI_leI (a := 8) (by omega) (by omega)) (fun e8 => ?_) (fun e8 => ?_)
        · rw [if_pos e8] at hK
          exact fin 5 (by decide) (by decide) hK
        · rw [if_neg e8] at hK
          exact fin 4 (by decide) (by decide) hK
      · rw [if_neg (by rw [hb2]; decide)] at hK
        rw [if_pos rfl]
        exact hK
theorem r_backJoined (hB : B ≤ 84) (hR : RepR S μ) (hW : WF B S) {i : Nat} (hi : i < S.1 0 6) (ho : outP S i) {K : Int32 → z_M → Prop} (hK : K (nI (joinS S i 3 (S.1 23 i) 1 1)) μ) : C_X12_backJoined (nI i) μ K := by
  have h5 := hW.2.2.2.2.2.2.1 i hi
  have h0 := hW.1
  unfold C_X12_backJoined L_X12_backJoined_17
  rw [nI_clamp (by omega), hR.a (c := 23) rfl, nI_l (by omega)]
  refine ⟨nI_vin (by omega) (by omega), fun P hP => ?_⟩
  have go : ∀ m, m ≤ 3 → ∀ st nu de, st ≤ 20000 → nu * 72 ^ m ≤ 373248 → 1 ≤ de → de * 12 ^ m ≤ 1728 → K (nI (joinS S i m st nu de)) μ → P (nI i) (lN st) (lN nu) (lN de) (nI (3 - m)) μ := by
    intro m
    induction m with
    | zero =>
      intro _ st nu de h1 h2 h3 h4 hk
      rw [Nat.pow_zero, Nat.mul_one] at h2 h4
      have hm : st * nu ≤ 20000 * 373248 := Nat.mul_le_mul h1 h2
      have hd : st * nu / de ≤ 20000 * 373248 := Nat.le_trans (Nat.div_le_self _ _) hm
      refine hP _ _ _ _ _ _ ?_
      unfold B_X12_backJoined_17
      rw [if_pos (by decide), lN_mul, pk_lDiv (by omega) (by omega) (by omega), lN_i]
      refine ⟨fun e => ?_, ?_⟩
      · have := (lN_eq (b := 0) (by omega) (by omega)).mp e
        omega
      · unfold joinS at hk
        refine ifc (pk_lLE (b := 1000000000) (by omega) (by omega)) (fun e => ?_) (fun e => ?_)
        · rw [if_pos e] at hk
          exact hk
        · rw [if_neg e] at hk
          exact hk
    | succ m ih =>
      intro hm st nu de h1 h2 h3 h4 hk
      have er : 3 - (m + 1) = 2 - m := by omega
      have er2 : 2 - m + 1 = 3 - m := by omega
      rw [er]
      refine hP _ _ _ _ _ _ ?_
      unfold B_X12_backJoined_17
      unfold joinS at hk
      rw [r_leg, nI_clamp (n := 3 * i + (2 - m)) (by omega), hR.o (c := 25) rfl, nI_1, er2]
      refine ifc (nI_leI (a := 3) (by omega) (by omega)) (fun g => absurd g (by omega)) (fun _ => ⟨nI_vin (by omega) (by omega), ?_⟩)
      have hp1 : (72 : Nat) ^ m * 72 = 72 ^ (m + 1) := (Nat.pow_succ 72 m).symm
      have hp2 : (12 : Nat) ^ m * 12 = 12 ^ (m + 1) := (Nat.pow_succ 12 m).symm
      have hq1 : nu * 72 ^ m ≤ nu * 72 ^ (m + 1) := Nat.mul_le_mul_left _ (Nat.pow_le_pow_right (by decide) (by omega))
      have hq2 : de * 12 ^ m ≤ de * 12 ^ (m + 1) := Nat.mul_le_mul_left _ (Nat.pow_le_pow_right (by decide) (by omega))
      refine ifc (oI_eq_m1 (fun k hk => by have := wf_leg hW hi (by omega) k hk; omega)) (fun e => ?_) (fun e => ?_)
      · rw [e] at hk
        exact ih (by omega) _ _ _ h1 (by omega) h3 (by omega) hk
      · obtain ⟨h, hl⟩ := Option.ne_none_iff_exists'.mp e
        have g3 := wf_leg3 hB hW hi (by omega) hl
        have he := ho (2 - m) (by omega) (by rw [hl]; exact Option.some_ne_none h)
        have g4 := hW.2.2.1 (2 - m) g3.1
        have g6 := wf_won2 hW g3.1 he
        have g7 := hW.2.1 _ g3.2.2.1
        rw [hl] at hk
        dsimp only at hk
        rw [hl, oI_some, nI_clamp (by omega), hR.a (c := 11) rfl]
        refine ⟨nI_vin (by omega) (by omega), r_hasBit (by omega) (by omega) (fun hb => ?_) (fun hb => ?_)⟩
        · rw [if_pos hb] at hk
          rw [if_neg i10]
          exact ih (by omega) _ _ _ h1 (by omega) h3 (by omega) hk
        · rw [if_neg (by rw [hb]; decide)] at hk
          rw [if_pos rfl, hR.a (c := 13) rfl]
          refine r_hasBit (by omega) (by omega) (fun hb2 => ?_) (fun hb2 => ?_)
          · rw [if_pos hb2] at hk
            rw [if_neg i10, hR.a (c := 13) rfl]
            refine r_sizeOf g6.1 ?_
            rw [hR.a (c := 26) rfl, nI_clamp (by omega), hR.a (c := 8) rfl, hR.a (c := 9) rfl, nI_add, nI_l (by omega), nI_l (by omega), nI_l (by omega), lN_mul, lN_mul, pk_lDiv (by omega) (by omega) (by omega)]
            refine ⟨fun e => ?_, nI_vin (by omega) (by omega), ih (by omega) _ _ _ ?_ ?_ ?_ ?_ hk⟩
            · have := (lN_eq (b := 0) (by omega) (by omega)).mp e
              omega
            · exact Nat.le_trans (Nat.div_le_self _ _) h1
            · refine Nat.le_trans ?_ h2
              rw [Nat.mul_assoc, ← hp1, Nat.mul_comm (72 ^ m) 72]
              exact Nat.mul_le_mul_left _ (Nat.mul_le_mul_right _ (by omega))
            · exact Nat.le_trans (show 1 ≤ 1 * 1 by decide) (Nat.mul_le_mul h3 g7.2.2.1)
            · refine Nat.le_trans ?_ h4
              rw [Nat.mul_assoc, ← hp2, Nat.mul_comm (12 ^ m) 12]
              exact Nat.mul_le_mul_left _ (Nat.mul_le_mul_right _ (by omega))
          · rw [if_neg (by rw [hb2]; decide)] at hk
            rw [if_pos rfl]
            exact hk
  exact go 3 (by decide) _ 1 1 (by omega) (by decide) (by decide) (by decide) hK
theorem r_backOf (hB : B ≤ 84) (hR : RepR S μ) (hW : WF B S) {i : Nat} (hi : i < S.1 0 6) (ho : outP S i) {K : Int32 → z_M → Prop} (hK : K (nI (backS S i)) μ) : C_X12_backOf (nI i) μ K := by
  have h5 := hW.2.2.2.2.2.2.1 i hi
  have h0 := hW.1
  unfold C_X12_backOf L_X12_backOf_42
  unfold backS at hK
  rw [nI_clamp (by omega), hR.a (c := 22) rfl]
  refine ⟨nI_vin (by omega) (by omega), ifc (nI_eq (b := 3) (by omega) (by omega)) (fun e => ?_) (fun e => ?_)⟩
  · rw [if_pos e] at hK
    exact r_backJoined hB hR hW hi ho hK
  · rw [if_neg e] at hK
    obtain ⟨hr, hl⟩ := raceOfS_ok hW hi
    have he := ho _ hr (by rw [hl]; exact Option.some_ne_none _)
    refine r_raceOf hB hR hW hi ?_
    rw [hR.a (c := 22) rfl]
    refine ifc (nI_eq (b := 1) (by omega) (by omega)) (fun e1 => ?_) (fun e1 => ?_)
    · rw [if_pos e1, if_neg (by omega)] at hK
      refine ⟨nI_vin (by omega) (by omega), ifc (nI_eq (b := 0) (by omega) (by omega)) (fun g => absurd g (by omega)) (fun _ => ?_)⟩
      refine r_backForPlace hB hR hW hi hr hl he ?_
      rw [show (0 : Int32) = nI 0 from rfl, nI_add]
      exact hK
    · rw [if_neg e1] at hK
      refine r_backToWin hB hR hW hi hr hl he ?_
      rw [hR.a (c := 22) rfl]
      refine ⟨nI_vin (by omega) (by omega), ifc (nI_eq (b := 0) (by omega) (by omega)) (fun g => ?_) (fun g => ?_)⟩
      · rw [if_pos g] at hK
        rw [nI_0a]
        exact hK
      · rw [if_neg g] at hK
        refine r_backForPlace hB hR hW hi hr hl he ?_
        rw [nI_add]
        exact hK
end REF7
