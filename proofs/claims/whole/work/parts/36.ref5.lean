/-! The reference: races, books, the tape, the ladder, seconds, scratched horses. -/
theorem WF.su {B : Nat} {S : z_SS} (hW : WF B S) : ∀ k, S.1 60 k ≤ 1 := hW.2.2.2.2.2.2.2.2.1
theorem WF.tp {B : Nat} {S : z_SS} (hW : WF B S) : ∀ k, S.1 1 k < 256 := hW.2.2.2.2.2.2.2.2.2.1
theorem sizes_m1 {n : Nat} : nI (n + 1) - 1 = nI n := nI_pred n
def statB (f : Nat → Bool) (t : Nat) : Nat × Option Nat × Option Nat × Nat × Nat := match t with
  | 0 => (0, none, none, 0, 0)
  | t + 1 => if f t = true then ((statB f t).1 + 1, (match (statB f t).2.1 with
      | none => some t
      | some x => some x), some t, (statB f t).2.2.2.1 + 1, Nat.max (statB f t).2.2.2.2 ((statB f t).2.2.2.1 + 1)) else ((statB f t).1, (statB f t).2.1, (statB f t).2.2.1, 0, (statB f t).2.2.2.2)
def wasB (S : z_SS) (r s : Nat) : Bool := decide (S.1 60 (600 * r + s) ≠ 0)
def opStood (S : z_SS) (a b : Int32) : Int32 := match ixO a (S.1 0 3) with
  | none => -1
  | some r => match ixO b 4 with
    | none => -1
    | some w => if w = 0 then nI (statB (wasB S r) (S.1 0 2)).1 else if w = 1 then oI (statB (wasB S r) (S.1 0 2)).2.1 else if w = 2 then oI (statB (wasB S r) (S.1 0 2)).2.2.1 else nI (statB (wasB S r) (S.1 0 2)).2.2.2.2
def b2n (b : Bool) : Nat := if b = true then 1 else 0
/-- the seconds from now to t marked: of all races below R, of race R till u -/
def markS (S : z_SS) (R u t : Nat) : z_SS := (fun c k => if c = 60 ∧ ((k / 600 < R ∧ S.1 0 2 ≤ k % 600 ∧ k % 600 < t) ∨ (k / 600 = R ∧ S.1 0 2 ≤ k % 600 ∧ k % 600 < u)) then b2n (sureS S (k / 600)) else S.1 c k, S.2)
def opNow (S : z_SS) (a : Int32) : Int32 × z_SS := match ixO a 600 with
  | none => (0, S)
  | some t => if t < S.1 0 2 then (0, S) else (1, setN (markS S (S.1 0 3) (S.1 0 2) t) 0 2 t)
/-- a horse scratched, told to the books below n -/
def scrS (S : z_SS) (r h n : Nat) : z_SS := ((setN (setN S 11 r (S.1 11 r ||| 2 ^ h)) 18 (8 * r + h) (S.1 0 6)).1, fun c k => if k / 24 < n ∧ k % 24 = 8 * r + h then (if c = 19 then S.2.1 17 k else if c = 17 then none else S.2.1 c k) else S.2.1 c k, S.2.2)
def opScratch (S : z_SS) (a b : Int32) : Int32 × z_SS := match ixO a (S.1 0 3) with
  | none => (0, S)
  | some r => match ixO b (S.1 10 r) with
    | none => (0, S)
    | some h => if (S.1 11 r).testBit h = true then (0, S) else if S.1 12 r = 0 then (if 3 ≤ leftS S r then (1, scrS S r h 4) else (0, S)) else (0, S)
section REF5
variable {B : Nat} {S : z_SS} {μ : z_M}
theorem r_race (hR : RepR S μ) (hW : WF B S) {a : Int32} {K : Int32 → z_M → Prop} (hK : ∀ μ', RepR (opRace S a).2 μ' → K (opRace S a).1 μ') : C_X12_race a μ K := by
  have h3 := hW.1
  unfold C_X12_race
  unfold opRace at hK
  rw [hR.f (k := 3) (by decide) (by decide)]
  refine ifc (nI_eq (b := 3) (by omega) (by decide)) (fun e => ?_) (fun e => ?_)
  · rw [if_pos e] at hK
    exact hK μ hR
  · rw [if_neg e] at hK
    refine r_liesC (lo := 2) (hi := 8) (x := 2) (y := 8) rfl rfl (by decide) (by decide) (fun n n1 n2 ea => ?_) (fun g => ?_)
    · subst ea
      rw [ixO_some (show n < 9 by omega) (by decide)] at hK
      dsimp only at hK
      rw [if_neg (by omega)] at hK
      rw [if_neg i10, hR.f (k := 3) (by decide) (by decide), nI_clamp (by omega)]
      have hR1 := (hR.setA (c := 10) (k := S.1 0 3) (n := n) rfl rfl).setF (k := 3) (n := S.1 0 3 + 1) (v := nI (S.1 0 3) + 1) (by decide) (nI_1 _)
      have e3 : (si μ 10 (S.1 0 3) (nI n)).1 0 3 = nI (S.1 0 3) := by
        rw [si1, if_neg (by omega)]
        exact hR.f (by decide) (by decide)
      refine ⟨nI_vin (by omega) (by omega), ?_⟩
      rw [e3, show (si (si μ 10 (S.1 0 3) (nI n)) 0 3 (nI (S.1 0 3) + 1)).1 0 3 = nI (S.1 0 3) + 1 by rw [si1, if_pos ⟨rfl, rfl⟩], nI_1, sizes_m1]
      rw [nI_1] at hR1
      exact hK _ hR1
    · rw [if_pos rfl]
      cases e1 : ixO a 9 with
      | none => rw [e1] at hK; exact hK μ hR
      | some n =>
        obtain ⟨h1, h2⟩ := ixO_inv e1
        rw [e1] at hK
        dsimp only at hK
        rw [if_pos (Nat.lt_of_not_le fun h => g n h (by omega) h2)] at hK
        exact hK μ hR
theorem r_book (hR : RepR S μ) (hW : WF B S) {a : Int32} {K : Int32 → z_M → Prop} (hK : ∀ μ', RepR (opBook S a).2 μ' → K (opBook S a).1 μ') : C_X12_book a μ K := by
  have h3 := hW.1
  unfold C_X12_book
  unfold opBook at hK
  rw [hR.f (k := 4) (by decide) (by decide)]
  refine ifc (nI_eq (b := 4) (by omega) (by decide)) (fun e => ?_) (fun e => ?_)
  · rw [if_pos e] at hK
    exact hK μ hR
  · rw [if_neg e] at hK
    refine r_liesC (lo := 0) (hi := 1000000) (x := 0) (y := 1000000) rfl rfl (by decide) (by decide) (fun n n1 n2 ea => ?_) (fun g => ?_)
    · subst ea
      rw [ixO_some (show n < 1000001 by omega) (by decide)] at hK
      rw [if_neg i10, hR.f (k := 4) (by decide) (by decide), nI_clamp (by omega)]
      have hR1 := (hR.setA (c := 15) (k := S.1 0 4) (n := n) rfl rfl).setF (k := 4) (n := S.1 0 4 + 1) (v := nI (S.1 0 4) + 1) (by decide) (nI_1 _)
      have e3 : (si μ 15 (S.1 0 4) (nI n)).1 0 4 = nI (S.1 0 4) := by
        rw [si1, if_neg (by omega)]
        exact hR.f (by decide) (by decide)
      refine ⟨nI_vin (by omega) (by omega), ?_⟩
      rw [e3, show (si (si μ 15 (S.1 0 4) (nI n)) 0 4 (nI (S.1 0 4) + 1)).1 0 4 = nI (S.1 0 4) + 1 by rw [si1, if_pos ⟨rfl, rfl⟩], nI_1, sizes_m1]
      rw [nI_1] at hR1
      exact hK _ hR1
    · rw [if_pos rfl]
      rw [ixO_none fun j hj => g j (by omega) (by omega)] at hK
      exact hK μ hR
theorem b8_and (x : Int32) : x.toInt8.toInt32 &&& 255 = x &&& 255 := by
  apply Int32.toBitVec.inj
  apply BitVec.eq_of_getLsbD_eq
  intro i hi
  simp only [Int32.toBitVec_and, BitVec.getLsbD_and]
  have h1 : (255 : Int32).toBitVec = 255#32 := rfl
  rw [h1]
  by_cases h : i < 8
  · have e : (x.toInt8.toInt32).toBitVec = (x.toBitVec.signExtend 8).signExtend 32 := rfl
    rw [e, BitVec.getLsbD_signExtend, BitVec.getLsbD_signExtend]
    simp [h, hi]
  · have e : (255#32).getLsbD i = false := by
      have : ∀ j : Fin 32, 8 ≤ j.val → (255#32).getLsbD j = false := by decide
      exact this ⟨i, hi⟩ (Nat.le_of_not_lt h)
    rw [e, Bool.and_false, Bool.and_false]
theorem b8_idem (x : Int32) : x.toInt8.toInt32.toInt8.toInt32 = x.toInt8.toInt32 := by simp
theorem byN_lt (w sh : Int32) : byN w sh < 256 := by
  unfold byN
  obtain ⟨j, h1, h2⟩ := pk_andE (w >>> (sh &&& 31)) (m := 255) 8 rfl
  rw [h2, nI_clamp (by omega)]
  exact h1
theorem byN_eq (w sh : Int32) : (w >>> (sh &&& 31)) &&& 255 = nI (byN w sh) := by
  unfold byN
  obtain ⟨j, h1, h2⟩ := pk_andE (w >>> (sh &&& 31)) (m := 255) 8 rfl
  rw [h2, nI_clamp (by omega)]
theorem putB_1 {S : z_SS} {n a b : Nat} : (putB S n).1 a b = if a = 0 ∧ b = 1 then S.1 0 1 + 1 else if a = 1 ∧ b = S.1 0 1 then n else S.1 a b := by
  unfold putB
  rw [setN_1, setN_1]
/-- a byte comes behind the tape -/
theorem RepR_putB {S : z_SS} {μ : z_M} (h : RepR S μ) {w sh : Int32} : RepR (putB S (byN w sh)) (si (si μ 1 (S.1 0 1) (((w >>> (sh &&& 31)).toInt8.toInt32).toInt8.toInt32)) 0 1 (nI (S.1 0 1 + 1))) := by
  have hlv : live (putB S (byN w sh)) = live S := by
    unfold putB
    rw [live_setN (by omega), live_setN (by omega)]
  refine ⟨fun k h1 h2 => ?_, fun c k hc hl => ?_, fun c k hc hl => ?_, fun k => ?_, RepCl_kept h.2.2.2.2 fun c k h1 h2 => ?_⟩
  · rw [si1, putB_1]
    by_cases e : k = 1
    · rw [if_pos ⟨rfl, e⟩, if_pos ⟨rfl, e⟩]
    · rw [if_neg (fun q => e q.2), si1, if_neg (by omega), if_neg (fun q => e q.2), if_neg (by omega)]
      exact h.1 k h1 h2
  · have := persA_01 hc
    rw [hlv] at hl
    rw [si1, if_neg (by omega), si1, if_neg (by omega), putB_1, if_neg (by omega), if_neg (by omega)]
    exact h.2.1 c k hc hl
  · have := persO_01 hc
    rw [hlv] at hl
    rw [si1, if_neg (by omega), si1, if_neg (by omega)]
    exact h.2.2.1 c k hc hl
  · rw [si1, if_neg (by omega), si1, putB_1, if_neg (show ¬ (1 = 0 ∧ k = 1) by omega)]
    by_cases e : k = S.1 0 1
    · rw [if_pos ⟨rfl, e⟩, if_pos ⟨rfl, e⟩, b8_and, b8_and]
      exact byN_eq w sh
    · rw [if_neg (fun q => e q.2), if_neg (fun q => e q.2)]
      exact h.2.2.2.1 k
  · rw [si1, if_neg (by omega), si1, if_neg (by omega)]
theorem putB_t (S : z_SS) (n : Nat) : (putB S n).1 0 1 = S.1 0 1 + 1 := by
  unfold putB
  rw [setN_1, if_pos ⟨rfl, rfl⟩]
theorem r_push (hR : RepR S μ) {w : Int32} (ht : S.1 0 1 + 4 ≤ 200) {K : z_M → Prop} (hK : ∀ μ', RepR (putW S w) μ' → K μ') : C_X12_push w μ K := by
  unfold C_X12_push L_X12_push_3
  intro P hP
  have step : ∀ (S1 : z_SS) (μ1 : z_M) (sh sh' : Int32), RepR S1 μ1 → S1.1 0 1 < 200 → ¬ sh < 0 → sh + (-8) = sh' → (∀ μ2, RepR (putB S1 (byN w sh)) μ2 → P w sh' μ2) → P w sh μ1 := by
    intro S1 μ1 sh sh' hR1 h1 h2 h3 h4
    refine hP _ _ _ ?_
    unfold B_X12_push_3
    rw [if_neg h2, hR1.f (k := 1) (by decide) (by decide), nI_clamp (by omega), h3]
    refine ⟨nI_vin (by omega) (by omega), ?_⟩
    rw [show (si μ1 1 (S1.1 0 1) (((w >>> (sh &&& 31)).toInt8.toInt32).toInt8.toInt32)).1 0 1 = nI (S1.1 0 1) by
      rw [si1, if_neg (by omega)]
      exact hR1.f (by decide) (by decide), nI_1]
    exact h4 _ (RepR_putB hR1)
  refine step S μ 24 16 hR (by omega) (by decide) (by decide) fun μ1 hR1 => ?_
  refine step _ μ1 16 8 hR1 (by rw [putB_t]; omega) (by decide) (by decide) fun μ2 hR2 => ?_
  refine step _ μ2 8 0 hR2 (by rw [putB_t, putB_t]; omega) (by decide) (by decide) fun μ3 hR3 => ?_
  refine step _ μ3 0 (-8) hR3 (by rw [putB_t, putB_t, putB_t]; omega) (by decide) (by decide) fun μ4 hR4 => ?_
  refine hP _ _ _ ?_
  unfold B_X12_push_3
  rw [if_pos (by decide)]
  exact hK _ hR4
theorem putW_t (S : z_SS) (w : Int32) : (putW S w).1 0 1 = S.1 0 1 + 4 := by
  unfold putW
  rw [putB_t, putB_t, putB_t, putB_t]
theorem r_feed (hR : RepR S μ) (hW : WF B S) {a b c d e : Int32} {K : Int32 → z_M → Prop} (hK : ∀ μ', RepR (opFeed S a b c d e).2 μ' → K (opFeed S a b c d e).1 μ') : C_X12_feed a b c d e μ K := by
  have h3 := hW.1
  unfold C_X12_feed
  unfold opFeed at hK
  rw [hR.f (k := 1) (by decide) (by decide), show (20 : Int32) = nI 20 from rfl, nI_add]
  refine ifc (nI_leI (b := 200) (by omega) (by decide)) (fun g => ?_) (fun g => ?_)
  · rw [if_pos g] at hK
    refine r_push hR (by omega) fun μ1 hR1 => ?_
    refine r_push hR1 (by rw [putW_t]; omega) fun μ2 hR2 => ?_
    refine r_push hR2 (by rw [putW_t, putW_t]; omega) fun μ3 hR3 => ?_
    refine r_push hR3 (by rw [putW_t, putW_t, putW_t]; omega) fun μ4 hR4 => ?_
    refine r_push hR4 (by rw [putW_t, putW_t, putW_t, putW_t]; omega) fun μ5 hR5 => ?_
    rw [hR5.f (k := 1) (by decide) (by decide), putW_t, putW_t, putW_t, putW_t, putW_t]
    exact hK _ hR5
  · rw [if_neg g] at hK
    exact hK μ hR
theorem nI_two (k : Nat) : (2 : Int32) * nI k = nI (2 * k) := nI_mul 2 k
theorem r_ladder (hR : RepR S μ) (hW : WF B S) {a : Int32} {K : Int32 → z_M → Prop} (hK : ∀ μ', RepR (opLadder S a).2 μ' → K (opLadder S a).1 μ') : C_X12_ladder a μ K := by
  have h3 := hW.1
  unfold C_X12_ladder
  unfold opLadder at hK
  rw [hR.f (k := 5) (by decide) (by decide)]
  refine ifc (nI_ltI (a := 0) (by decide) (by omega)) (fun g => ?_) (fun g => ?_)
  · rw [if_pos g] at hK
    exact hK μ hR
  · rw [if_neg g] at hK
    refine r_liesC (lo := 1) (hi := 24) (x := 1) (y := 24) rfl rfl (by decide) (by decide) (fun n n1 n2 ea => ?_) (fun g => ?_)
    · subst ea
      rw [ixO_some (show n < 25 by omega) (by decide)] at hK
      dsimp only at hK
      rw [if_neg (by omega)] at hK
      rw [if_neg i10, hR.f (k := 1) (by decide) (by decide), nI_two]
      refine ifc (nI_leI (by omega) (by omega)) (fun g2 => ?_) (fun g2 => ?_)
      · rw [if_pos g2] at hK
        have hR0 := hR.setF (k := 1) (n := 0) (v := 0) (by decide) rfl
        unfold L_X12_ladder_38
        intro P hP
        have hp : ∀ k, k < 200 → S.1 1 k < 256 := fun k _ => hW.tp k
        have key : ∀ m k, k + m = n → ∀ (S1 : z_SS) (μ1 : z_M), RepR S1 μ1 → (∀ j, S1.1 1 j = S.1 1 j) → (∀ j, j < k → 1 ≤ S1.1 8 j ∧ S1.1 8 j ≤ 60 ∧ 1 ≤ S1.1 9 j ∧ S1.1 9 j ≤ 12) → (∀ μ', RepR (ladL S1 n m).2 μ' → K (ladL S1 n m).1 μ') → P (nI n) (nI k) μ1 := by
          intro m
          induction m with
          | zero =>
            intro k hk S1 μ1 hR1 _ _ hK1
            refine hP _ _ _ ?_
            unfold B_X12_ladder_38
            refine ifc (nI_leI (by omega) (by omega)) (fun _ => ?_) (fun g => absurd (show n ≤ k from hk ▸ Nat.le_refl _) g)
            exact hK1 _ (hR1.setF (by decide) rfl)
          | succ m ih =>
            intro k hk S1 μ1 hR1 hb1 hpr hK1
            have ek : n - (m + 1) = k := by omega
            unfold ladL at hK1
            rw [ek] at hK1
            refine hP _ _ _ ?_
            unfold B_X12_ladder_38
            refine ifc (nI_leI (by omega) (by omega)) (fun g => absurd g (by omega)) (fun _ => ?_)
            rw [nI_two, nI_1, nI_clamp (by omega), nI_clamp (by omega), hR1.2.2.2.1, hR1.2.2.2.1]
            refine ⟨nI_vin (by omega) (by omega), nI_vin (by omega) (by omega), ?_⟩
            have q1 : S1.1 1 (2 * k) < 256 := by rw [hb1]; exact hp _ (by omega)
            have q2 : S1.1 1 (2 * k + 1) < 256 := by rw [hb1]; exact hp _ (by omega)
            generalize hx : S1.1 1 (2 * k) = x at q1 hK1 ⊢
            generalize hy : S1.1 1 (2 * k + 1) = y at q2 hK1 ⊢
            have fin : priceOk S1 k x y = true → L_X12_ladder_127 K P (nI n) (nI k) (nI x) (nI y) μ1 := by
              intro hp1
              rw [if_pos hp1] at hK1
              have hp2 : (1 ≤ x ∧ x ≤ 60 ∧ 1 ≤ y ∧ y ≤ 12) := by
                unfold priceOk at hp1
                rw [Bool.and_eq_true] at hp1
                exact of_decide_eq_true hp1.1
              unfold L_X12_ladder_127
              rw [nI_clamp (by omega), nI_1]
              refine ⟨nI_vin (by omega) (by omega), ih (k + 1) (by omega) _ _ ((hR1.setA (c := 8) (k := k) (n := x) rfl rfl).setA (c := 9) (k := k) (n := y) rfl rfl) (fun j => ?_) (fun j hj => ?_) hK1⟩
              · rw [setN_1, if_neg (by omega), setN_1, if_neg (by omega)]
                exact hb1 j
              · rw [setN_1, if_neg (by omega), setN_1, setN_1, setN_1]
                by_cases e : j = k
                · rw [if_pos ⟨rfl, e⟩, if_pos ⟨rfl, e⟩]
                  exact hp2
                · rw [if_neg (fun q => e q.2), if_neg (fun q => e q.2), if_neg (fun q => e q.2)]
                  exact hpr j (by omega)
            have bad : priceOk S1 k x y = false → K 0 μ1 := by
              intro hp1
              rw [if_neg (by rw [hp1]; decide)] at hK1
              exact hK1 μ1 hR1
            refine r_liesC (lo := 1) (hi := 60) (x := 1) (y := 60) rfl rfl (by decide) (by decide) (fun x' x1 x2 ea => ?_) (fun g => ?_)
            · have := (nI_eq (by omega) (by omega)).mp ea
              subst this
              rw [if_neg i10]
              refine r_liesC (lo := 1) (hi := 12) (x := 1) (y := 12) rfl rfl (by decide) (by decide) (fun y' y1 y2 ea => ?_) (fun g => ?_)
              · have := (nI_eq (by omega) (by omega)).mp ea
                subst this
                rw [if_neg i10]
                refine ifc (nI_leI (b := 0) (by omega) (by decide)) (fun e => ?_) (fun e => ?_)
                · refine fin ?_
                  unfold priceOk
                  rw [Bool.and_eq_true]
                  exact ⟨decide_eq_true ⟨x1, x2, y1, y2⟩, by simp [show k = 0 by omega]⟩
                · have ep : nI k - 1 = nI (k - 1) := by
                    rw [show k = (k - 1) + 1 by omega, nI_pred]
                    rfl
                  have hq := hpr (k - 1) (by omega)
                  rw [ep, nI_clamp (by omega), hR1.a (c := 8) rfl, hR1.a (c := 9) rfl, nI_mul, nI_mul]
                  have b1 : S1.1 8 (k - 1) * y ≤ 60 * 12 := Nat.mul_le_mul hq.2.1 y2
                  have b2 : x * S1.1 9 (k - 1) ≤ 60 * 12 := Nat.mul_le_mul x2 hq.2.2.2
                  refine ⟨nI_vin (by omega) (by omega), ifc (nI_ltI (by omega) (by omega)) (fun g => fin ?_) (fun g => bad ?_)⟩
                  · unfold priceOk
                    rw [Bool.and_eq_true]
                    exact ⟨decide_eq_true ⟨x1, x2, y1, y2⟩, by simp [g]⟩
                  · unfold priceOk
                    have : ¬ k = 0 := by omega
                    simp [g, this]
              · rw [if_pos rfl]
                refine bad ?_
                unfold priceOk
                have : ¬ (1 ≤ x ∧ x ≤ 60 ∧ 1 ≤ y ∧ y ≤ 12) := fun q => g y q.2.2.1 q.2.2.2 rfl
                simp [this]
            · rw [if_pos rfl]
              refine bad ?_
              unfold priceOk
              have : ¬ (1 ≤ x ∧ x ≤ 60 ∧ 1 ≤ y ∧ y ≤ 12) := fun q => g x q.1 q.2.1 rfl
              simp [this]
        exact key n 0 (by omega) _ _ hR0 (fun j => by rw [setN_1, if_neg (by omega)]) (fun j hj => by omega) hK
      · rw [if_neg g2] at hK
        exact hK μ hR
    · rw [if_pos rfl]
      cases e1 : ixO a 25 with
      | none => rw [e1] at hK; exact hK μ hR
      | some n =>
        obtain ⟨h1, h2⟩ := ixO_inv e1
        rw [e1] at hK
        dsimp only at hK
        rw [if_pos (Nat.le_zero.mp (Nat.le_of_not_lt fun h => g n h (by omega) h2))] at hK
        exact hK μ hR
theorem statB_bd (f : Nat → Bool) : ∀ t, (statB f t).1 ≤ t ∧ (∀ x, (statB f t).2.1 = some x → x < t) ∧ (∀ x, (statB f t).2.2.1 = some x → x < t) ∧ (statB f t).2.2.2.1 ≤ t ∧ (statB f t).2.2.2.2 ≤ t := by
  intro t
  induction t with
  | zero => exact ⟨Nat.le_refl _, (fun x h => by cases h), (fun x h => by cases h), Nat.le_refl _, Nat.le_refl _⟩
  | succ t ih =>
    obtain ⟨h1, h2, h3, h4, h5⟩ := ih
    unfold statB
    split
    · refine ⟨by dsimp only; omega, fun x h => ?_, fun x h => ?_, by dsimp only; omega, Nat.max_le.mpr ⟨by omega, by omega⟩⟩
      · dsimp only at h
        split at h
        · cases h; omega
        · rename_i y ey
          cases h
          have := h2 x ey
          omega
      · cases h; omega
    · exact ⟨by dsimp only; omega, fun x h => by have := h2 x h; omega, fun x h => by have := h3 x h; omega, Nat.zero_le _, by dsimp only; omega⟩
theorem r_stood (hR : RepR S μ) (hW : WF B S) {a b : Int32} {K : Int32 → z_M → Prop} (hK : K (opStood S a b) μ) : C_X12_stood a b μ K := by
  have h3 := hW.1
  unfold C_X12_stood
  unfold opStood at hK
  refine r_isRace hR hW (fun r hr e => ?_) (fun g => ?_)
  · subst e
    rw [ixO_some hr (by omega)] at hK
    dsimp only at hK
    rw [if_neg i10]
    refine r_liesC (lo := 0) (hi := 3) (x := 0) (y := 3) rfl rfl (by decide) (by decide) (fun w w1 w2 ea => ?_) (fun g => ?_)
    · subst ea
      rw [ixO_some (show w < 4 by omega) (by decide)] at hK
      dsimp only at hK
      rw [if_neg i10]
      unfold L_X12_stood_39
      intro P hP
      refine downTo (Q := fun t => P (nI r) (nI w) (nI (statB (wasB S r) t).1) (oI (statB (wasB S r) t).2.1) (oI (statB (wasB S r) t).2.2.1) (nI (statB (wasB S r) t).2.2.2.1) (nI (statB (wasB S r) t).2.2.2.2) (nI t) μ) (S.1 0 2) ?_ (fun t ht ih => ?_) 0 (Nat.zero_le _)
      · refine hP _ _ _ _ _ _ _ _ _ ?_
        unfold B_X12_stood_39
        rw [hR.f (k := 2) (by decide) (by decide)]
        refine ifc (nI_leI (by omega) (by omega)) (fun _ => ?_) (fun g => absurd (Nat.le_refl _) g)
        refine ifc (nI_eq (b := 0) (by omega) (by decide)) (fun e => ?_) (fun e => ifc (nI_eq (b := 1) (by omega) (by decide)) (fun e1 => ?_) (fun e1 => ifc (nI_eq (b := 2) (by omega) (by decide)) (fun e2 => ?_) (fun e2 => ?_)))
        · rw [if_pos e] at hK
          exact hK
        · rw [if_neg e, if_pos e1] at hK
          exact hK
        · rw [if_neg e, if_neg e1, if_pos e2] at hK
          exact hK
        · rw [if_neg e, if_neg e1, if_neg e2] at hK
          exact hK
      · obtain ⟨b1, b2, b3, b4, b5⟩ := statB_bd (wasB S r) t
        refine hP _ _ _ _ _ _ _ _ _ ?_
        unfold B_X12_stood_39 L_X12_stood_76 L_X12_stood_92 L_X12_stood_118
        rw [hR.f (k := 2) (by decide) (by decide)]
        refine ifc (nI_leI (by omega) (by omega)) (fun g => absurd g (by omega)) (fun _ => ?_)
        rw [show (600 : Int32) * nI r + nI t = nI (600 * r + t) by rw [show (600 : Int32) = nI 600 from rfl, nI_mul, nI_add], nI_clamp (by omega), hR.a (c := 60) rfl]
        have hw := hW.su (600 * r + t)
        try dsimp only at ih
        unfold statB at ih
        rw [← nI_1 t] at ih
        refine ⟨nI_vin (by omega) (by omega), ifc (nI_eq (b := 0) (by omega) (by decide)) (fun e => ?_) (fun e => ?_)⟩
        · have hf : wasB S r t = false := by
            unfold wasB
            simp [e]
          rw [if_neg (by rw [hf]; decide)] at ih
          rw [e]
          have e0 : nI 0 = 0 := rfl
          refine ifc (nI_leI (a := 0) (by decide) (by omega)) (fun _ => ?_) (fun g => absurd (Nat.zero_le _) g)
          rw [if_pos e0]
          exact ih
        · have hf : wasB S r t = true := by
            unfold wasB
            simp [e]
          have e1 : S.1 60 (600 * r + t) = 1 := by omega
          rw [if_pos hf, ← nI_1, ← nI_1] at ih
          rw [e1]
          have e0 : ¬ nI 1 = 0 := i10
          have hmx : ∀ (m : Nat), (m = (statB (wasB S r) t).2.2.2.2 ∨ m = (statB (wasB S r) t).2.2.2.1 + 1) → Nat.max (statB (wasB S r) t).2.2.2.2 ((statB (wasB S r) t).2.2.2.1 + 1) = m →
              (if nI 1 = 0 then P (nI r) (nI w) (nI (statB (wasB S r) t).1) (oI (statB (wasB S r) t).2.1) (oI (statB (wasB S r) t).2.2.1) (nI (statB (wasB S r) t).2.2.2.1 + 1) (nI m) (nI t + 1) μ else if oI (statB (wasB S r) t).2.1 = -1 then P (nI r) (nI w) (nI (statB (wasB S r) t).1 + 1) (nI t) (nI t) (nI (statB (wasB S r) t).2.2.2.1 + 1) (nI m) (nI t + 1) μ else P (nI r) (nI w) (nI (statB (wasB S r) t).1 + 1) (oI (statB (wasB S r) t).2.1) (nI t) (nI (statB (wasB S r) t).2.2.2.1 + 1) (nI m) (nI t + 1) μ) := by
            intro m _ hm
            rw [if_neg e0]
            dsimp only at ih
            rw [hm] at ih
            refine ifc (oI_eq_m1 (fun n hn => by have := b2 n hn; omega)) (fun e2 => ?_) (fun e2 => ?_)
            · rw [e2] at ih
              exact ih
            · obtain ⟨x, ex⟩ := Option.ne_none_iff_exists'.mp e2
              rw [ex] at ih ⊢
              exact ih
          have hc : nI (statB (wasB S r) t).2.2.2.1 + 1 ≤ nI (statB (wasB S r) t).2.2.2.2 ↔ (statB (wasB S r) t).2.2.2.1 + 1 ≤ (statB (wasB S r) t).2.2.2.2 := by
            rw [nI_1]
            exact nI_leI (by omega) (by omega)
          refine ifc hc (fun g => ?_) (fun g => ?_)
          · exact hmx _ (Or.inl rfl) (Nat.max_eq_left g)
          · have := hmx _ (Or.inr rfl) (Nat.max_eq_right (by omega))
            rw [← nI_1 (statB (wasB S r) t).2.2.2.1] at this
            exact this
    · rw [if_pos rfl]
      rw [ixO_none fun j hj => g j (by omega) (by omega)] at hK
      exact hK
  · rw [ixO_none g] at hK
    rw [if_pos rfl]
    exact hK
end REF5
