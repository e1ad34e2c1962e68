/-! The class: most. -/
section CMOST
variable {B : Nat} {S : z_SS} {μ : z_M} {kd : z_K} {q : z_Q}
def bkS (S : z_SS) (s x : Nat) : Nat := x + wonBy S x s
theorem ls_le (hW : WF B S) {s v x : Nat} (hs : s < S.1 0 5) : leastS S s v ≤ x ↔ v ≤ bkS S s x := by
  have h5 := hW.2.1 s hs
  have hw : 0 < S.1 8 s + S.1 9 s := by omega
  have e1 : leastS S s v ≤ x ↔ v * S.1 9 s ≤ x * (S.1 8 s + S.1 9 s) := by
    unfold leastS
    rw [← Nat.lt_succ_iff, Nat.div_lt_iff_lt_mul hw, Nat.succ_mul]
    omega
  have e2 : v ≤ bkS S s x ↔ v * S.1 9 s ≤ x * (S.1 8 s + S.1 9 s) := by
    unfold bkS wonBy
    rw [show x + x * S.1 8 s / S.1 9 s = (x * S.1 8 s + x * S.1 9 s) / S.1 9 s by rw [Nat.add_mul_div_right _ _ (by omega)]; omega, Nat.le_div_iff_mul_le (by omega), Nat.mul_add]
  rw [e1, e2]
theorem bkS_succ {S : z_SS} {s x : Nat} : bkS S s x + 1 ≤ bkS S s (x + 1) := by
  unfold bkS wonBy
  have h : x * S.1 8 s / S.1 9 s ≤ (x + 1) * S.1 8 s / S.1 9 s := Nat.div_le_div_right (Nat.mul_le_mul_right _ (Nat.le_succ x))
  omega
theorem ls_same (hW : WF B S) {s m v : Nat} (hs : s < S.1 0 5) (h1 : m ≤ v) (h2 : v ≤ bkS S s (leastS S s m)) : leastS S s v = leastS S s m := by
  have e1 := (ls_le hW hs).mpr h2
  have e2 : leastS S s m ≤ leastS S s v := (ls_le hW hs).mpr (Nat.le_trans h1 ((ls_le hW hs).mp (Nat.le_refl _)))
  omega
theorem ls_next (hW : WF B S) {s m L : Nat} (hs : s < S.1 0 5) (h1 : m ≤ L) (h2 : L ≤ bkS S s (leastS S s m)) : leastS S s (L + 1) = if bkS S s (leastS S s m) = L then leastS S s m + 1 else leastS S s m := by
  split
  · next e =>
    have hb := bkS_succ (S := S) (s := s) (x := leastS S s m)
    have e1 : leastS S s (L + 1) ≤ leastS S s m + 1 := (ls_le hW hs).mpr (by omega)
    have e2 : ¬ leastS S s (L + 1) ≤ leastS S s m := fun z => by
      have := (ls_le hW hs).mp z
      omega
    omega
  · next e => exact ls_same hW hs (by omega) (by omega)
theorem ls_one (hW : WF B S) {s : Nat} (hs : s < S.1 0 5) : leastS S s 1 = 1 := by
  have e1 : leastS S s 1 ≤ 1 := leastS_le hW hs
  have e2 := leastS_ge hW (v := 1) hs
  omega
theorem least_ex {p : Nat → Prop} : ∀ n, p n → ∃ m, p m ∧ ∀ k, k < m → ¬ p k := by
  intro n
  induction n using Nat.strongRecOn with
  | _ n ih =>
    intro hp
    by_cases q : ∃ k, k < n ∧ p k
    · obtain ⟨k, k1, k2⟩ := q
      exact ih k k1 k2
    · exact ⟨n, hp, fun k hk z => q ⟨k, hk, z⟩⟩
theorem stF_frac (hW : WF B S) {r : Nat} (hr : r < S.1 0 3) (v : Nat) : ∀ n, n ≤ S.1 10 r → v * (fracS S (sureF S r) n).1 ≤ sumN n (stH S r v) * (fracS S (sureF S r) n).2 := by
  have h3 := hW.1
  have h4 := hW.2.2.1 r hr
  intro n
  induction n with
  | zero => intro _; exact Nat.zero_le _
  | succ n ih =>
    intro hn
    have h1 := ih (by omega)
    have eS : sumN (n + 1) (stH S r v) = sumN n (stH S r v) + stH S r v n := rfl
    have ef : fracS S (sureF S r) (n + 1) = (match sureF S r n with
      | some s => addF (fracS S (sureF S r) n) (S.1 8 s) (S.1 9 s)
      | none => fracS S (sureF S r) n) := rfl
    rw [eS, ef]
    generalize fracS S (sureF S r) n = p at h1 ⊢
    generalize sumN n (stH S r v) = T at h1 ⊢
    unfold sureF stH
    by_cases e : runsS S r n
    · rw [if_pos e, if_pos e]
      cases es : longS S r n with
      | none =>
        dsimp only
        rw [Nat.add_zero]
        exact h1
      | some s =>
        dsimp only
        unfold addF
        dsimp only
        have h5 := hW.2.1 s (longS_lt hW (by omega) (by omega) s es)
        have h6 : v * S.1 9 s ≤ leastS S s v * (S.1 8 s + S.1 9 s) := by
          have h := (ls_le hW (longS_lt hW (by omega) (by omega) s es) (v := v) (x := leastS S s v)).mp (Nat.le_refl _)
          unfold bkS wonBy at h
          rw [show leastS S s v + leastS S s v * S.1 8 s / S.1 9 s = (leastS S s v * S.1 8 s + leastS S s v * S.1 9 s) / S.1 9 s by rw [Nat.add_mul_div_right _ _ (by omega)]; omega, Nat.le_div_iff_mul_le (by omega)] at h
          rw [Nat.mul_add]
          exact h
        generalize S.1 8 s + S.1 9 s = w at h6 ⊢
        generalize S.1 9 s = b at h6 ⊢
        generalize leastS S s v = l at h6 ⊢
        calc v * (p.1 * w + b * p.2) = (v * p.1) * w + (v * b) * p.2 := by rw [Nat.mul_add, Nat.mul_assoc, Nat.mul_assoc]
          _ ≤ (T * p.2) * w + (l * w) * p.2 := Nat.add_le_add (Nat.mul_le_mul_right _ h1) (Nat.mul_le_mul_right _ h6)
          _ = (T + l) * (p.2 * w) := by rw [Nat.add_mul, Nat.mul_assoc, Nat.mul_assoc, Nat.mul_comm w p.2]
    · rw [if_neg e, if_neg e, Nat.add_zero]
      exact h1
theorem mostP_not (hW : WF B S) {r tot : Nat} (hr : r < S.1 0 3) (h0 : S.1 12 r = 0) (hp : pricedTo S r (S.1 10 r) = true) (hs : sureS S r = false) : mostP S r tot = (0, 0) := by
  have h3 := hW.1
  have h4 := hW.2.2.1 r hr
  have hc := fracS_cap (S := S) (f := sureF S r) hW.2.1 (sureF_lt hW r (by omega)) (n := S.1 10 r) (by omega)
  have hle : (fracS S (sureF S r) (S.1 10 r)).2 ≤ (fracS S (sureF S r) (S.1 10 r)).1 := by
    unfold sureS at hs
    rw [decide_eq_true h0, hp] at hs
    have := of_decide_eq_false (by simpa using hs : decide ((fracS S (sureF S r) (S.1 10 r)).1 < (fracS S (sureF S r) (S.1 10 r)).2) = false)
    omega
  have all : ∀ v, v ≤ stF S r v := fun v => by
    have h := stF_frac hW hr v (S.1 10 r) (Nat.le_refl _)
    exact Nat.le_of_mul_le_mul_right (Nat.le_trans (Nat.mul_le_mul_left v hle) h) hc.1
  obtain ⟨e, e1, e2⟩ := least_ex (p := fun v => 1 ≤ v ∧ tot < stF S r v) (tot + 1) ⟨by omega, by have := all (tot + 1); omega⟩
  refine mostP_eq ⟨e, e1.1, e1.2, fun v v1 v2 => ?_, Or.inl ⟨rfl, rfl, fun v _ _ => all v⟩⟩
  have := e2 v v2
  omega
theorem zmin_n {a b : Nat} (ha : a < 2 ^ 31) (hb : b < 2 ^ 31) : z_min (nI a) (nI b) = nI (min a b) := by
  unfold z_min
  by_cases g : b < a
  · first
    | rw [if_pos ((nI_ltI hb ha).mpr g), Nat.min_eq_right (by omega)]
    | rw [if_neg (fun z => by have := (nI_ltI ha hb).mp z; omega), Nat.min_eq_right (by omega)]
  · first
    | rw [if_neg (fun z => g ((nI_ltI hb ha).mp z)), Nat.min_eq_left (by omega)]
    | (by_cases g2 : a < b
       · rw [if_pos ((nI_ltI ha hb).mpr g2), Nat.min_eq_left (by omega)]
       · have : a = b := by omega
         rw [if_neg (fun z => g2 ((nI_ltI ha hb).mp z)), this, Nat.min_self])
variable {n : Nat} {f : Nat → Nat}
def MC (S : z_SS) (μ : z_M) (n : Nat) (f : Nat → Nat) : Prop := μ.1 12 4 = nI n ∧ ∀ j, j < n → μ.1 13 j = nI (S.1 8 (f j)) ∧ μ.1 14 j = nI (S.1 9 (f j))
def MX (S : z_SS) (μ : z_M) (n : Nat) (f x : Nat → Nat) : Prop := ∀ j, j < n → μ.1 15 j = nI (x j) ∧ μ.1 16 j = nI (bkS S (f j) (x j))
theorem bkS_cap (hW : WF B S) {s x : Nat} (hs : s < S.1 0 5) : bkS S s x ≤ 61 * x := by
  have h5 := hW.2.1 s hs
  unfold bkS wonBy
  have h1 : x * S.1 8 s / S.1 9 s ≤ x * S.1 8 s := Nat.div_le_self _ _
  have h2 : x * S.1 8 s ≤ x * 60 := Nat.mul_le_mul_left _ h5.2.1
  omega
theorem c_lift (hW : WF B S) (hC : MC S μ n f) {j y : Nat} (hj : j < n) (hn : n ≤ 8) (hf : f j < S.1 0 5) (hy : y ≤ 1000000) {K : z_M → Prop} (hK : K (si (si μ 15 j (nI y)) 16 j (nI (bkS S (f j) y)))) : C_X2_lift kd q (nI j) (nI y) μ K := by
  have h5 := hW.2.1 _ hf
  have hm : y * S.1 8 (f j) ≤ 1000000 * 60 := Nat.mul_le_mul hy h5.2.1
  unfold C_X2_lift
  rw [nI_clamp (by omega)]
  have e14 : z_max ((si μ 15 j (nI y)).1 14 j) 1 = nI (S.1 9 (f j)) := by
    rw [si1, if_neg (by omega), (hC.2 j hj).2, show (1 : Int32) = nI 1 from rfl, zmax_n (by omega) (by decide)]
    congr 1
    exact Nat.max_eq_left h5.2.2.1
  have e13 : (si μ 15 j (nI y)).1 13 j = nI (S.1 8 (f j)) := by rw [si1, if_neg (by omega)]; exact (hC.2 j hj).1
  rw [e14, e13, nI_mul, pk_div (by omega) (by omega) (by omega), nI_add]
  refine ⟨nI_vin (by omega) (by decide), fun z => ?_, hK⟩
  have := (nI_eq (b := 0) (by omega) (by decide)).mp z
  omega
theorem MC_si {c k : Nat} {v : Int32} (h : MC S μ n f) (hc : 15 ≤ c ∨ (c = 12 ∧ 5 ≤ k)) : MC S (si μ c k v) n f := ⟨by rw [si1, if_neg (by omega)]; exact h.1, fun j hj => ⟨by rw [si1, if_neg (by omega)]; exact (h.2 j hj).1, by rw [si1, if_neg (by omega)]; exact (h.2 j hj).2⟩⟩
theorem c_least (hW : WF B S) (hC : MC S μ n f) {x : Nat → Nat} (hX : MX S μ n f x) (hn : n ≤ 8) (h1 : 1 ≤ n) (hf : ∀ j, j < n → f j < S.1 0 5) (hx : ∀ j, j < n → x j ≤ 3001) {K : Int32 → z_M → Prop} (hK : ∀ L, (∀ j, j < n → L ≤ bkS S (f j) (x j)) → (∃ j, j < n ∧ bkS S (f j) (x j) = L) → K (nI L) μ) : C_X2_least kd q μ K := by
  unfold C_X2_least L_X2_least_5
  intro P hP
  have key : ∀ k, k ≤ n → ∀ L, L ≤ 2000000000 → (∀ j, j < k → L ≤ bkS S (f j) (x j)) → (∃ j, j < k ∧ bkS S (f j) (x j) = L) ∨ (k = 0 ∧ L = 2000000000) → P (nI L) (nI k) μ := by
    refine downTo n ?_ (fun k hk ih => ?_)
    · intro L hL g1 g2
      refine hP _ _ _ ?_
      unfold B_X2_least_5
      rw [hC.1]
      refine ifc (nI_leI (by omega) (by omega)) (fun _ => ?_) (fun z => absurd (Nat.le_refl _) z)
      rcases g2 with g2 | g2
      · exact hK L g1 g2
      · omega
    · intro L hL g1 g2
      have hcap := bkS_cap hW (x := x k) (hf k hk)
      have hxk := hx k hk
      refine hP _ _ _ ?_
      unfold B_X2_least_5
      rw [hC.1, nI_clamp (by omega), (hX k hk).2, zmin_n (by omega) (by omega), nI_1]
      refine ifc (nI_leI (by omega) (by omega)) (fun g => absurd g (by omega)) (fun _ => ?_)
      refine ifc (nI_leI (a := 8) (by decide) (by omega)) (fun g => absurd g (by omega)) (fun _ => ⟨nI_vin (by omega) (by decide), ?_⟩)
      refine ih _ (by omega) (fun j hj => ?_) ?_
      · by_cases e : j = k
        · rw [e]
          exact Nat.min_le_right _ _
        · exact Nat.le_trans (Nat.min_le_left _ _) (g1 j (by omega))
      · refine Or.inl ?_
        rcases g2 with ⟨j, j1, j2⟩ | ⟨g2, g3⟩
        · by_cases e : L ≤ bkS S (f k) (x k)
          · rw [Nat.min_eq_left e]
            exact ⟨j, by omega, j2⟩
          · rw [Nat.min_eq_right (by omega)]
            exact ⟨k, by omega, rfl⟩
        · rw [Nat.min_eq_right (by omega)]
          exact ⟨k, by omega, rfl⟩
  exact key 0 (Nat.zero_le _) 2000000000 (by decide) (fun j hj => absurd hj (Nat.not_lt_zero _)) (Or.inr ⟨rfl, rfl⟩)
def upS (S : z_SS) (f x : Nat → Nat) (L j : Nat) : Nat := if bkS S (f j) (x j) = L then x j + 1 else x j
theorem c_up (hW : WF B S) (hC : MC S μ n f) {x : Nat → Nat} (hX : MX S μ n f x) (hn : n ≤ 8) (hf : ∀ j, j < n → f j < S.1 0 5) (hx : ∀ j, j < n → x j ≤ 3001) {L : Nat} (hL : L < 2 ^ 31) {v1 v3 : Int32} {K : z_M → Prop} {P35 : Int32 → Int32 → Int32 → z_M → Prop} (hP35 : ∀ μ', sameV μ μ' → MC S μ' n f → MX S μ' n f (upS S f x L) → μ'.1 12 5 = μ.1 12 5 → μ'.1 12 6 = μ.1 12 6 → P35 v1 (nI (sumN n (upS S f x L))) (v3 + 1) μ') : L_X2_seek_81 kd q K P35 v1 (nI (sumN n x)) v3 (nI L) 0 μ := by
  unfold L_X2_seek_81
  intro P hP
  have key : ∀ k, k ≤ n → ∀ μ', sameV μ μ' → MC S μ' n f → MX S μ' n f (fun j => if j < k then upS S f x L j else x j) → μ'.1 12 5 = μ.1 12 5 → μ'.1 12 6 = μ.1 12 6 → P v1 (nI (sumN n (fun j => if j < k then upS S f x L j else x j))) v3 (nI L) (nI k) μ' := by
    refine downTo n ?_ (fun k hk ih => ?_)
    · intro μ' g1 g2 g3 g4 g5
      refine hP _ _ _ _ _ _ ?_
      unfold B_X2_seek_81
      rw [g2.1]
      refine ifc (nI_leI (by omega) (by omega)) (fun _ => ?_) (fun z => absurd (Nat.le_refl _) z)
      rw [sumN_congr (g := upS S f x L) fun i hi => if_pos hi]
      refine hP35 μ' g1 g2 (fun j hj => ?_) g4 g5
      have := g3 j hj
      dsimp only at this
      rw [if_pos hj] at this
      exact this
    · intro μ' g1 g2 g3 g4 g5
      have hcap := bkS_cap hW (x := x k) (hf k hk)
      have hxk := hx k hk
      have gk := g3 k hk
      dsimp only at gk
      rw [if_neg (Nat.lt_irrefl k)] at gk
      refine hP _ _ _ _ _ _ ?_
      unfold B_X2_seek_81
      rw [g2.1, nI_clamp (by omega), gk.2, gk.1]
      refine ifc (nI_leI (by omega) (by omega)) (fun g => absurd g (by omega)) (fun _ => ?_)
      refine ifc (nI_leI (a := 8) (by decide) (by omega)) (fun g => absurd g (by omega)) (fun _ => ⟨nI_vin (by omega) (by decide), ?_⟩)
      have one := sumN_one (n := n) (k := k) (f := fun j => if j < k then upS S f x L j else x j) (g := fun j => if j < k + 1 then upS S f x L j else x j) hk fun i hi hik => by
        by_cases e : i < k
        · rw [if_pos e, if_pos (by omega)]
        · rw [if_neg e, if_neg (by omega)]
      rw [if_neg (Nat.lt_irrefl k), if_pos (Nat.lt_succ_self k)] at one
      refine ifc (nI_eq (by omega) (by omega)) (fun e => ?_) (fun e => ?_)
      · have eu : upS S f x L k = x k + 1 := if_pos e
        rw [nI_1]
        refine c_lift hW g2 hk hn (hf k hk) (by omega) ?_
        rw [nI_1, nI_1]
        rw [show sumN n (fun j => if j < k then upS S f x L j else x j) + 1 = sumN n (fun j => if j < k + 1 then upS S f x L j else x j) by omega]
        refine ih _ (sameV_tr g1 (sameV_tr (sameV_si (by decide) (by decide)) (sameV_si (by decide) (by decide)))) (MC_si (MC_si g2 (Or.inl (by decide))) (Or.inl (by decide))) (fun j hj => ?_) (by rw [si1, if_neg (by omega), si1, if_neg (by omega)]; exact g4) (by rw [si1, if_neg (by omega), si1, if_neg (by omega)]; exact g5)
        dsimp only
        rw [si1, if_neg (by omega), si1, si1]
        by_cases ej : j = k
        · subst ej
          rw [if_pos ⟨rfl, rfl⟩, if_pos (show j < j + 1 by omega), if_pos ⟨rfl, rfl⟩, eu]
          exact ⟨rfl, rfl⟩
        · have gj := g3 j hj
          dsimp only at gj
          rw [if_neg (fun z => ej z.2)]
          by_cases e2 : j < k
          · rw [if_pos e2] at gj
            rw [if_pos (show j < k + 1 by omega), if_neg (fun z => ej z.2), si1, if_neg (by omega)]
            exact gj
          · rw [if_neg e2] at gj
            rw [if_neg (show ¬ j < k + 1 by omega), if_neg (fun z => ej z.2), si1, if_neg (by omega)]
            exact gj
      · have eu : upS S f x L k = x k := if_neg e
        rw [nI_1]
        rw [show sumN n (fun j => if j < k then upS S f x L j else x j) = sumN n (fun j => if j < k + 1 then upS S f x L j else x j) by omega]
        refine ih μ' g1 g2 (fun j hj => ?_) g4 g5
        have gj := g3 j hj
        dsimp only at gj ⊢
        by_cases e2 : j < k
        · rw [if_pos e2] at gj
          rw [if_pos (by omega)]
          exact gj
        · rw [if_neg e2] at gj
          by_cases ej : j = k
          · subst ej
            rw [if_pos (Nat.lt_succ_self _), eu]
            exact gj
          · rw [if_neg (by omega)]
            exact gj
  have h0 := key 0 (Nat.zero_le _) μ (sameV_refl μ) hC (fun j hj => by dsimp only; rw [if_neg (Nat.not_lt_zero _)]; exact hX j hj) rfl rfl
  rw [sumN_congr (g := x) fun i _ => if_neg (Nat.not_lt_zero _)] at h0
  exact h0
theorem c_seek (hW : WF B S) {r tot : Nat} (ht : tot ≤ 3000) (hC : MC S μ n f) (h5 : μ.1 12 5 = 0) (h6 : μ.1 12 6 = 0) (hn : n ≤ 8) (h1 : 1 ≤ n) (hf : ∀ j, j < n → f j < S.1 0 5) (hs : ∀ v, stF S r v = sumN n (fun j => leastS S (f j) v)) {K : z_M → Prop} (hK : ∀ μ' g l, sameV μ μ' → μ'.1 12 5 = nI g → μ'.1 12 6 = nI l → isMost S r tot g l → l ≤ 183001 → K μ') : C_X2_seek kd q (nI tot) μ K := by
  unfold C_X2_seek L_X2_seek_4
  intro P hP
  have seek : ∀ μ1, sameV μ μ1 → MC S μ1 n f → MX S μ1 n f (fun j => leastS S (f j) 1) → μ1.1 12 5 = 0 → μ1.1 12 6 = 0 → L_X2_seek_35 kd q K (nI tot) (nI (sumN n (fun j => leastS S (f j) 1))) 0 μ1 := by
    intro μ1 g1 g2 g3 g4 g5
    unfold L_X2_seek_35
    intro P35 hP35
    have key : ∀ fuel i m μ' g l, 3001 ≤ fuel + i → i ≤ 3001 → 1 ≤ m → m ≤ 183001 → i < stF S r m → (∀ w, 1 ≤ w → w < m → stF S r w ≤ tot) → mostTo S r m g l → sameV μ μ' → MC S μ' n f → MX S μ' n f (fun j => leastS S (f j) m) → μ'.1 12 5 = nI g → μ'.1 12 6 = nI l → P35 (nI tot) (nI (stF S r m)) (nI i) μ' := by
      intro fuel
      induction fuel with
      | zero =>
        intro i m μ' g l f1 f2 f3 f3b f4 f5 f6 f7 f8 f9 fa fb
        have e : i = 3001 := by omega
        subst e
        have hl : l ≤ m := by
          rcases f6 with ⟨_, q2, _⟩ | ⟨_, q2, _⟩ <;> omega
        refine hP35 _ _ _ _ ?_
        unfold B_X2_seek_35
        refine ifc (nI_leI (a := 3000) (by decide) (by decide)) (fun _ => ?_) (fun z => absurd (by decide) z)
        exact hK μ' g l f7 fa fb ⟨m, f3, by omega, f5, f6⟩ (by omega)
      | succ fuel ih =>
        intro i m μ' g l f1 f2 f3 f3b f4 f5 f6 f7 f8 f9 fa fb
        have hgl : g ≤ m ∧ l ≤ m := by
          rcases f6 with ⟨_, q2, _⟩ | ⟨_, q2, q3, _⟩ <;> omega
        have hF : stF S r m ≤ 8 * 183001 := by
          rw [hs]
          exact Nat.le_trans (sumN_le (c := 183001) fun j hj => Nat.le_trans (leastS_le hW (hf j hj)) f3b) (Nat.mul_le_mul_right _ hn)
        refine hP35 _ _ _ _ ?_
        unfold B_X2_seek_35
        have out : tot < stF S r m → K μ' := fun e => hK μ' g l f7 fa fb ⟨m, f3, e, f5, f6⟩ (by omega)
        refine ifc (nI_leI (a := 3000) (by decide) (by omega)) (fun e => out (by omega)) (fun e0 => ?_)
        refine ifc (nI_ltI (by omega) (by omega)) out (fun e => ?_)
        have hx : ∀ j, j < n → leastS S (f j) m ≤ 3001 := fun j hj => by
          have := sumN_ge (f := fun j => leastS S (f j) m) hj
          rw [← hs] at this
          omega
        refine c_least hW f8 f9 hn h1 hf hx fun L L1 L2 => ?_
        obtain ⟨j0, j1, j2⟩ := L2
        have hLm : m ≤ L := by
          rw [← j2]
          exact (ls_le hW (hf j0 j1)).mp (Nat.le_refl _)
        have hLc : L ≤ 61 * 3000 := by
          have h := bkS_cap hW (x := leastS S (f j0) m) (hf j0 j1)
          have h' := sumN_ge (f := fun j => leastS S (f j) m) j1
          rw [← hs] at h'
          omega
        have flat : ∀ v, m ≤ v → v ≤ L → stF S r v = stF S r m := fun v v1 v2 => by
          rw [hs, hs]
          exact sumN_congr fun j hj => ls_same hW (hf j hj) v1 (Nat.le_trans v2 (L1 j hj))
        have eup : ∀ j, j < n → upS S f (fun j => leastS S (f j) m) L j = leastS S (f j) (L + 1) := fun j hj => (ls_next hW (hf j hj) hLm (L1 j hj)).symm
        have esum : sumN n (upS S f (fun j => leastS S (f j) m) L) = stF S r (L + 1) := by
          rw [hs]
          exact sumN_congr eup
        have grow : stF S r m + 1 ≤ stF S r (L + 1) := by
          have hone := sumN_one (n := n) (k := j0) (f := fun j => if j = j0 then leastS S (f j) m else leastS S (f j) (L + 1)) (g := fun j => leastS S (f j) (L + 1)) j1 fun i hi hik => if_neg hik
          rw [if_pos rfl, ← hs] at hone
          have hmono : sumN n (fun j => leastS S (f j) m) ≤ sumN n (fun j => if j = j0 then leastS S (f j) m else leastS S (f j) (L + 1)) := sumN_mono fun j hj => by
            split
            · exact Nat.le_refl _
            · have := ls_next hW (hf j hj) hLm (L1 j hj)
              rw [this]
              split <;> omega
          rw [← hs] at hmono
          have := ls_next hW (hf j0 j1) hLm (L1 j0 j1)
          rw [if_pos j2] at this
          omega
        have f5' : ∀ w, 1 ≤ w → w < L + 1 → stF S r w ≤ tot := fun w w1 w2 => by
          by_cases e2 : w < m
          · exact f5 w w1 e2
          · rw [flat w (by omega) (by omega)]
            omega
        have eg : nI L - nI (stF S r m) = iI ((L : Int) - (stF S r m : Int)) := by rw [← iI_nat, ← iI_nat, iI_sub]
        rw [eg, fa, ← iI_nat g]
        refine ifc (iI_le (by omega) (by omega) (by omega) (by omega)) (fun e2 => ?_) (fun e2 => ?_)
        · rw [hs]
          refine c_up hW f8 f9 hn hf hx (by omega) fun μ2 k1 k2 k3 k4 k5 => ?_
          rw [esum, nI_1]
          refine ih (i + 1) (L + 1) μ2 g l (by omega) (by omega) (by omega) (by omega) (by omega) f5' ?_ (sameV_tr f7 k1) k2 (fun j hj => ?_) (by rw [k4]; exact fa) (by rw [k5]; exact fb)
          · rcases f6 with ⟨q1, q2, q3⟩ | ⟨q1, q2, q3, q4, q5, q6⟩
            · refine Or.inl ⟨q1, q2, fun v v1 v2 => ?_⟩
              by_cases e3 : v < m
              · exact q3 v v1 e3
              · rw [flat v (by omega) (by omega)]
                omega
            · refine Or.inr ⟨q1, by omega, q3, q4, fun v v1 v2 => ?_, q6⟩
              by_cases e3 : v < m
              · exact q5 v v1 e3
              · rw [flat v (by omega) (by omega)]
                omega
          · have := k3 j hj
            rw [eup j hj] at this
            exact this
        · have eg2 : iI ((L : Int) - (stF S r m : Int)) = nI (L - stF S r m) := by
            rw [← iI_nat, Int.ofNat_sub (by omega)]
          rw [eg2, hs]
          rw [← hs]
          generalize hm2 : si (si μ' 12 5 (nI (L - stF S r m))) 12 6 (nI L) = m2
          have a1 : m2.1 12 5 = nI (L - stF S r m) := by rw [← hm2, si1, if_neg (by omega), si1, if_pos ⟨rfl, rfl⟩]
          have a2 : m2.1 12 6 = nI L := by rw [← hm2, si1, if_pos ⟨rfl, rfl⟩]
          have a3 : sameV μ m2 := by rw [← hm2]; exact sameV_tr f7 (sameV_tr (sameV_si (by decide) (by decide)) (sameV_si (by decide) (by decide)))
          have a4 : MC S m2 n f := by rw [← hm2]; exact MC_si (MC_si f8 (Or.inr ⟨rfl, by decide⟩)) (Or.inr ⟨rfl, by decide⟩)
          have a5 : MX S m2 n f (fun j => leastS S (f j) m) := fun j hj => by
            rw [← hm2, si1, if_neg (by omega), si1, if_neg (by omega), si1, if_neg (by omega), si1, if_neg (by omega)]
            exact f9 j hj
          have up := c_up (kd := kd) (q := q) (K := K) (v1 := nI tot) (v3 := nI i) (P35 := P35) (L := L) hW a4 a5 hn hf hx (by omega) fun μ2 k1 k2 k3 k4 k5 => by
            rw [esum, nI_1]
            refine ih (i + 1) (L + 1) μ2 (L - stF S r m) L (by omega) (by omega) (by omega) (by omega) (by omega) f5' ?_ (sameV_tr a3 k1) k2 (fun j hj => ?_) (by rw [k4]; exact a1) (by rw [k5]; exact a2)
            · refine Or.inr ⟨by omega, by omega, ?_, by omega, fun v v1 v2 => ?_, fun v v1 v2 => ?_⟩
              · rw [flat L hLm (Nat.le_refl _)]
                omega
              · by_cases e3 : v < m
                · rcases f6 with ⟨q1, q2, q3⟩ | ⟨q1, q2, q3, q4, q5, q6⟩
                  · have := q3 v v1 e3
                    omega
                  · have := q5 v v1 e3
                    omega
                · rw [flat v (by omega) (by omega)]
                  omega
              · by_cases e3 : v < m
                · rcases f6 with ⟨q1, q2, q3⟩ | ⟨q1, q2, q3, q4, q5, q6⟩
                  · have := q3 v v1 e3
                    omega
                  · have := q5 v v1 e3
                    omega
                · rw [flat v (by omega) (by omega)]
                  omega
            · have := k3 j hj
              rw [eup j hj] at this
              exact this
          rw [← hs] at up
          exact up
    have h0 := key 3001 0 1 μ1 0 0 (by omega) (by omega) (by omega) (by omega) (by
      rw [hs]
      have := sumN_ge (f := fun j => leastS S (f j) 1) (show 0 < n by omega)
      rw [ls_one hW (hf 0 (by omega))] at this
      omega) (fun w w1 w2 => by omega) (Or.inl ⟨rfl, rfl, fun v v1 v2 => by omega⟩) g1 g2 g3 g4 g5
    rw [hs] at h0
    exact h0
  have key : ∀ k, k ≤ n → ∀ μ', sameV μ μ' → MC S μ' n f → (∀ j, j < k → μ'.1 15 j = nI 1 ∧ μ'.1 16 j = nI (bkS S (f j) 1)) → μ'.1 12 5 = 0 → μ'.1 12 6 = 0 → P (nI tot) (nI k) (nI k) μ' := by
    refine downTo n ?_ (fun k hk ih => ?_)
    · intro μ' g1 g2 g3 g4 g5
      refine hP _ _ _ _ ?_
      unfold B_X2_seek_4
      rw [g2.1]
      refine ifc (nI_leI (by omega) (by omega)) (fun _ => ?_) (fun z => absurd (Nat.le_refl _) z)
      have h := seek μ' g1 g2 (fun j hj => by dsimp only; rw [ls_one hW (hf j hj)]; exact g3 j hj) g4 g5
      have e1 : ∀ m, m ≤ n → sumN m (fun j => leastS S (f j) 1) = m := by
        intro m
        induction m with
        | zero => intro _; rfl
        | succ m ih =>
          intro hm
          show sumN m (fun j => leastS S (f j) 1) + leastS S (f m) 1 = m + 1
          rw [ih (by omega), ls_one hW (hf m (by omega))]
      rw [e1 n (Nat.le_refl _)] at h
      exact h
    · intro μ' g1 g2 g3 g4 g5
      refine hP _ _ _ _ ?_
      unfold B_X2_seek_4
      rw [g2.1]
      refine ifc (nI_leI (by omega) (by omega)) (fun g => absurd g (by omega)) (fun _ => ?_)
      refine ifc (nI_leI (a := 8) (by decide) (by omega)) (fun g => absurd g (by omega)) (fun _ => ?_)
      refine c_lift (y := 1) hW g2 hk hn (hf k hk) (by decide) ?_
      rw [nI_1]
      refine ih _ (sameV_tr g1 (sameV_tr (sameV_si (by decide) (by decide)) (sameV_si (by decide) (by decide)))) (MC_si (MC_si g2 (Or.inl (by decide))) (Or.inl (by decide))) (fun j hj => ?_) (by rw [si1, if_neg (by omega), si1, if_neg (by omega)]; exact g4) (by rw [si1, if_neg (by omega), si1, if_neg (by omega)]; exact g5)
      rw [si1, if_neg (by omega), si1, si1]
      by_cases ej : j = k
      · subst ej
        rw [if_pos ⟨rfl, rfl⟩, if_pos ⟨rfl, rfl⟩]
        exact ⟨rfl, rfl⟩
      · rw [if_neg (fun z => ej z.2), if_neg (fun z => ej z.2), si1, if_neg (by omega)]
        exact g3 j (by omega)
  exact key 0 (Nat.zero_le _) μ (sameV_refl μ) hC (fun j hj => absurd hj (Nat.not_lt_zero _)) h5 h6
theorem c_mostAdd (hW : WF B S) (hC : MC S μ n f) (hn : n < 8) {s : Nat} (hs : s < S.1 0 5) {K : z_M → Prop} (hK : ∀ μ', sameV μ μ' → MC S μ' (n + 1) (fun j => if j = n then s else f j) → μ'.1 12 5 = μ.1 12 5 → μ'.1 12 6 = μ.1 12 6 → K μ') : C_X2_add kd q (nI (S.1 8 s)) (nI (S.1 9 s)) μ K := by
  have h5 := hW.2.1 s hs
  unfold C_X2_add
  rw [hC.1, nI_clamp (by omega)]
  have e1 : (si μ 13 n (nI (S.1 8 s))).1 12 4 = nI n := by rw [si1, if_neg (by omega)]; exact hC.1
  have e2 : z_max (nI (S.1 9 s)) 1 = nI (S.1 9 s) := by
    rw [show (1 : Int32) = nI 1 from rfl, zmax_n (by omega) (by decide)]
    congr 1
    exact Nat.max_eq_left h5.2.2.1
  rw [e1, nI_clamp (by omega), e2]
  have e3 : (si (si μ 13 n (nI (S.1 8 s))) 14 n (nI (S.1 9 s))).1 12 4 = nI n := by rw [si1, if_neg (by omega)]; exact e1
  rw [e3, nI_1]
  refine ifc (nI_leI (a := 8) (by decide) (by omega)) (fun g => absurd g (by omega)) (fun _ => ⟨nI_vin (by omega) (by decide), nI_vin (by omega) (by decide), ?_⟩)
  refine hK _ (sameV_tr (sameV_si (by decide) (by decide)) (sameV_tr (sameV_si (by decide) (by decide)) (sameV_si (by decide) (by decide)))) ⟨by rw [si1, if_pos ⟨rfl, rfl⟩], fun j hj => ?_⟩ (by rw [si1, if_neg (by omega), si1, if_neg (by omega), si1, if_neg (by omega)]) (by rw [si1, if_neg (by omega), si1, if_neg (by omega), si1, if_neg (by omega)])
  dsimp only
  by_cases ej : j = n
  · subst ej
    rw [if_pos rfl, si1, if_neg (by omega), si1, if_neg (by omega), si1, if_pos ⟨rfl, rfl⟩, si1, if_neg (by omega), si1, if_pos ⟨rfl, rfl⟩]
    exact ⟨rfl, rfl⟩
  · rw [if_neg ej, si1, if_neg (by omega), si1, if_neg (by omega), si1, if_neg (fun z => ej z.2), si1, if_neg (by omega), si1, if_neg (fun z => ej z.2), si1, if_neg (by omega)]
    exact hC.2 j (by omega)
theorem lo_dec {a : Int32} {lo m : Nat} (hl : lo < 2 ^ 30) (hm : m < 2 ^ 30) {A B C : Prop} (h1 : ∀ j, lo ≤ j → j ≤ m → a = nI j → C) (h0 : (∀ j, lo ≤ j → j ≤ m → a ≠ nI j) → A) (h0' : (∀ j, lo ≤ j → j ≤ m → a ≠ nI j) → B) : if a < nI lo then A else if a ≤ nI m then C else B := by
  by_cases h : a < nI lo
  · rw [if_pos h]
    exact h0 fun j j1 j2 e => by
      rw [e] at h
      have := (nI_ltI (by omega) (by omega)).mp h
      omega
  · rw [if_neg h]
    have h2 : ¬ a < 0 := fun z => h (Int32.lt_of_lt_of_le z (nI_pos' (by omega)))
    obtain ⟨j, hj, e⟩ := nI_of h2
    subst e
    have hlo : ¬ j < lo := fun z => h ((nI_ltI hj (by omega)).mpr z)
    refine ifc (nI_leI hj (by omega)) (fun g => h1 j (by omega) (by omega) rfl) (fun g => h0' fun k k1 k2 e => ?_)
    have := (nI_eq hj (by omega)).mp e
    omega
theorem c_most (hQ : KQ S kd q) (hV : RepV S μ) (hW : WF B S) {a b c : Int32} {K : Int32 → z_M → Prop} (hK : ∀ μ', sameV μ μ' → K (opMost S a b c) μ') : C_X11_most kd q a b c μ K := by
  have h3 := hW.1
  unfold C_X11_most
  unfold opMost at hK
  refine c_raceAt hQ hV.1 hW (fun r hr e => opt_s ?_) (fun g => opt_n (by rw [ixO_none g] at hK; exact hK μ (sameV_refl μ)))
  subst e
  have h4 := hW.2.2.1 r hr
  have hRr := hV.2.1 r hr
  rw [ixO_some hr (by omega)] at hK
  dsimp only at hK
  rw [hRr.2.2.1]
  refine ifc (nI_eq (b := 0) (by omega) (by decide)) (fun e0 => ?_) (fun e0 => by rw [if_neg e0] at hK; exact hK μ (sameV_refl μ))
  rw [if_pos e0] at hK
  have core : ∀ tot, 1 ≤ tot → tot ≤ 3000 → ∀ (o : Option Nat), (∀ h, o = some h → h < S.1 10 r) → c = oI o → (∀ μ', sameV μ μ' → K (mostR S r tot o) μ') → L_X11_most_50 kd q K (nI r) (nI tot) c (30 + 2 * r) μ := by
    intro tot t1 t2 o ho ec hk
    unfold L_X11_most_50
    refine c_isSureNow hQ hV.to0 hW hr (fun hsu μ1 k1 => ?_) (fun hsu μ1 k1 => ?_)
    · have hp : pricedTo S r (S.1 10 r) = true := by
        unfold sureS at hsu
        rw [Bool.and_eq_true, Bool.and_eq_true] at hsu
        exact hsu.2.1
      rw [if_neg i10]
      unfold mostR at hk
      rw [if_pos hp] at hk
      unfold C_X2_clear L_X11_most_70
      intro P hP
      have key : ∀ k, k ≤ S.1 10 r → ∀ n f μ', n ≤ k → MC S μ' n f → (∀ j, j < n → f j < S.1 0 5) → (∀ v, sumN k (stH S r v) = sumN n (fun j => leastS S (f j) v)) → μ'.1 12 5 = 0 → μ'.1 12 6 = 0 → sameV μ μ' → P (nI r) (nI tot) c (30 + 2 * r) (nI k) μ' := by
        refine downTo (S.1 10 r) ?_ (fun k hk2 ih => ?_)
        · intro n f μ' g1 g2 g3 g4 g5 g6 g7
          have hV' := hV.same g7
          refine hP _ _ _ _ _ _ ?_
          unfold B_X11_most_70
          rw [(hV'.2.1 r hr).1]
          refine ifc (nI_leI (by omega) (by omega)) (fun _ => ?_) (fun z => absurd (Nat.le_refl _) z)
          have hn1 : 1 ≤ n := by
            rcases Nat.eq_zero_or_pos n with z | z
            · have h1 := stF_ge hW hr hp 1
              unfold stF at h1
              rw [g4, z] at h1
              have e5 : sumN 0 (fun j => leastS S (f j) 1) = 0 := rfl
              omega
            · exact z
          refine c_seek hW t2 g2 g5 g6 (by omega) hn1 g3 (r := r) g4 fun μ2 g l s1 s2 s3 s4 s5 => ?_
          have hV2 := hV'.same s1
          rw [mostP_eq s4] at hk
          cases o with
          | none =>
            rw [if_pos (show c = -1 from ec), s2]
            exact hk μ2 (sameV_tr g7 s1)
          | some h =>
            have hh := ho h rfl
            rw [if_neg (by rw [ec]; exact nI_ne_m1 (by omega))]
            dsimp only at hk
            have hg : g < 2 ^ 31 := by
              obtain ⟨e, q1, q2, q3, q4⟩ := s4
              rcases q4 with ⟨p1, p2, _⟩ | ⟨p1, p2, p3, _⟩ <;> omega
            rw [s2]
            refine ifc (nI_eq (b := 0) hg (by omega)) (fun z => ?_) (fun z => ?_)
            · rw [if_pos z] at hk
              exact hk μ2 (sameV_tr g7 s1)
            · rw [if_neg z] at hk
              rw [ec, oI_some]
              refine c_runsN (hV2.2.1 r hr).to0 hr h4.2.1 h4.2.2.1 (by omega) (fun e1 => ?_) (fun e1 => ?_)
              · rw [if_neg i10]
                obtain ⟨s, es⟩ := Option.ne_none_iff_exists'.mp (pricedTo_at hp hh e1)
                have hs5 := longS_lt hW (by omega) (by omega) s es
                have h5 := hW.2.1 s hs5
                refine c_longest hQ hV2.to0 hW (by omega) (by omega) ?_
                rw [es, oI_some]
                refine c_aOf hV2.1 hW hs5 (c_bOf hV2.1 hW hs5 ?_)
                have : stH S r l h = leastS S s l := by
                  unfold stH
                  rw [if_pos e1, es]
                rw [this] at hk
                unfold C_X2_stakeAt
                have em : z_max (nI (S.1 8 s + S.1 9 s)) 1 = nI (S.1 8 s + S.1 9 s) := by
                  rw [show (1 : Int32) = nI 1 from rfl, zmax_n (by omega) (by decide)]
                  congr 1
                  exact Nat.max_eq_left (by omega)
                have hm : l * S.1 9 s ≤ 183001 * 12 := Nat.mul_le_mul s5 h5.2.2.2
                rw [nI_add, em, s3, nI_mul, nI_add, show (1 : Int32) = nI 1 from rfl, pk_sub (by omega), pk_div (by omega) (by omega) (by omega)]
                refine ⟨fun z2 => ?_, hk μ2 (sameV_tr g7 s1)⟩
                have := (nI_eq (b := 0) (by omega) (by decide)).mp z2
                omega
              · have : stH S r l h = 0 := if_neg e1
                rw [this] at hk
                rw [if_pos rfl]
                exact hk μ2 (sameV_tr g7 s1)
        · intro n f μ' g1 g2 g3 g4 g5 g6 g7
          have hV' := hV.same g7
          have eS : ∀ v, sumN (k + 1) (stH S r v) = sumN k (stH S r v) + stH S r v k := fun v => rfl
          refine hP _ _ _ _ _ _ ?_
          unfold B_X11_most_70
          rw [(hV'.2.1 r hr).1]
          refine ifc (nI_leI (by omega) (by omega)) (fun g => absurd g (by omega)) (fun _ => ?_)
          refine c_runsN (hV'.2.1 r hr).to0 hr h4.2.1 h4.2.2.1 (by omega) (fun e1 => ?_) (fun e1 => ?_)
          · rw [if_neg i10]
            obtain ⟨s, es⟩ := Option.ne_none_iff_exists'.mp (pricedTo_at hp hk2 e1)
            have hs5 := longS_lt hW (by omega) (by omega) s es
            refine c_longest hQ hV'.to0 hW (by omega) (by omega) ?_
            rw [es, oI_some]
            refine c_aOf hV'.1 hW hs5 (c_bOf hV'.1 hW hs5 (c_mostAdd hW g2 (by omega) hs5 fun μ2 s1 s2 s3 s4 => ?_))
            rw [nI_1]
            refine ih (n + 1) _ μ2 (by omega) s2 (fun j hj => ?_) (fun v => ?_) (s3.trans g5) (s4.trans g6) (sameV_tr g7 s1)
            · by_cases ej : j = n
              · rw [if_pos ej]
                exact hs5
              · rw [if_neg ej]
                exact g3 j (by omega)
            · have e2 : stH S r v k = leastS S s v := by
                unfold stH
                rw [if_pos e1, es]
              have e3 : sumN (n + 1) (fun j => leastS S (if j = n then s else f j) v) = sumN n (fun j => leastS S (if j = n then s else f j) v) + leastS S (if n = n then s else f n) v := rfl
              rw [eS, e2, e3, if_pos rfl, g4 v]
              congr 1
              exact sumN_congr fun i hi => by rw [if_neg (by omega)]
          · rw [if_pos rfl, nI_1]
            refine ih n f μ' (by omega) g2 g3 (fun v => ?_) g5 g6 g7
            rw [eS, show stH S r v k = 0 from if_neg e1, Nat.add_zero]
            exact g4 v
      refine key 0 (Nat.zero_le _) 0 (fun _ => 0) _ (Nat.le_refl _) ⟨by rw [si1, if_neg (by omega), si1, if_neg (by omega), si1, if_pos ⟨rfl, rfl⟩]; rfl, fun j hj => absurd hj (Nat.not_lt_zero _)⟩ (fun j hj => absurd hj (Nat.not_lt_zero _)) (fun v => rfl) (by rw [si1, if_neg (by omega), si1, if_pos ⟨rfl, rfl⟩]) (by rw [si1, if_pos ⟨rfl, rfl⟩]) (sameV_tr k1 (sameV_tr (sameV_si (by decide) (by decide)) (sameV_tr (sameV_si (by decide) (by decide)) (sameV_si (by decide) (by decide)))))
    · rw [if_pos rfl]
      have e : mostR S r tot o = 0 := by
        unfold mostR
        by_cases hp : pricedTo S r (S.1 10 r) = true
        · rw [if_pos hp, mostP_not hW hr e0 hp hsu]
          cases o with
          | none => rfl
          | some h => rfl
        · exact if_neg hp
      rw [e] at hk
      exact hk μ1 k1
  have bad : (∀ j, 1 ≤ j → j ≤ 3000 → b ≠ nI j) → K (-1) μ := fun g => by
    cases e : ixO b 3001 with
    | none =>
      rw [e] at hK
      exact hK μ (sameV_refl μ)
    | some j =>
      rw [e] at hK
      obtain ⟨j1, j2⟩ := ixO_inv e
      dsimp only at hK
      have j0 : j = 0 := by
        rcases Nat.eq_zero_or_pos j with z | z
        · exact z
        · exact absurd j2 (g j z (by omega))
      rw [if_pos j0] at hK
      exact hK μ (sameV_refl μ)
  refine lo_dec (lo := 1) (m := 3000) (by decide) (by decide) (fun tot t1 t2 eb => ?_) bad bad
  subst eb
  rw [ixO_some (show tot < 3001 by omega) (by decide)] at hK
  dsimp only at hK
  rw [if_neg (by omega)] at hK
  refine ifd (fun ec => ?_) (fun ec => ?_)
  · rw [if_pos ec] at hK
    exact core tot t1 t2 none (fun h e => by cases e) ec hK
  · rw [if_neg ec] at hK
    refine c_holds hRr.to0 h4.2.1 (fun h hh e => ?_) (fun g => ?_)
    · subst e
      rw [ixO_some hh (by omega)] at hK
      rw [if_neg i10]
      exact core tot t1 t2 (some h) (fun h' e => by cases e; exact hh) rfl hK
    · rw [ixO_none g] at hK
      rw [if_pos rfl]
      exact hK μ (sameV_refl μ)
end CMOST
