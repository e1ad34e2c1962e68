/-! The class: layOff. -/
section CLAY
variable {B : Nat} {S : z_SS} {μ : z_M} {kd : z_K} {q : z_Q}
theorem minO_none {f : Nat → Option Int} : ∀ n, (∀ x, x < n → f x = none) → minO n f = none := by
  intro n
  induction n with
  | zero => intro _; rfl
  | succ n ih =>
    intro h
    rw [minO_succ, ih fun x hx => h x (by omega), h n (by omega)]
theorem minO_is {f : Nat → Option Int} {m : Int} : ∀ n, (∀ x v, x < n → f x = some v → m ≤ v) → (∃ x, x < n ∧ f x = some m) → minO n f = some m := by
  intro n
  induction n with
  | zero => intro _ h; obtain ⟨x, hx, _⟩ := h; exact absurd hx (Nat.not_lt_zero _)
  | succ n ih =>
    intro h1 h2
    rw [minO_succ]
    by_cases e : ∃ x, x < n ∧ f x = some m
    · rw [ih (fun x v hx => h1 x v (by omega)) e]
      cases e2 : f n with
      | none => rfl
      | some v =>
        have := h1 n v (by omega) e2
        dsimp only
        rw [if_neg (by omega)]
    · obtain ⟨x, x1, x2⟩ := h2
      have ex : x = n := by
        rcases Nat.lt_or_ge x n with z | z
        · exact absurd ⟨x, z, x2⟩ e
        · omega
      subst ex
      rw [x2]
      cases e2 : minO x f with
      | none => rfl
      | some v =>
        have hv : m < v := by
          have hm : ∀ n v, n ≤ x → minO n f = some v → ∃ y, y < n ∧ f y = some v := by
            intro n
            induction n with
            | zero => intro v _ z; cases z
            | succ n ih2 =>
              intro v hn z
              rw [minO_succ] at z
              cases e3 : minO n f with
              | none =>
                rw [e3] at z
                exact ⟨n, by omega, z⟩
              | some u =>
                rw [e3] at z
                obtain ⟨y, y1, y2⟩ := ih2 u (by omega) e3
                cases e4 : f n with
                | none =>
                  rw [e4] at z
                  cases z
                  exact ⟨y, by omega, y2⟩
                | some w =>
                  rw [e4] at z
                  dsimp only at z
                  split at z
                  · cases z
                    exact ⟨n, by omega, e4⟩
                  · cases z
                    exact ⟨y, by omega, y2⟩
          obtain ⟨y, y1, y2⟩ := hm x v (Nat.le_refl _) e2
          have h3 := h1 y v (by omega) y2
          rcases Int.lt_or_eq_of_le h3 with z | z
          · exact z
          · exact absurd ⟨y, y1, by rw [y2, z]⟩ e
        dsimp only
        rw [if_pos hv]
theorem zmin_i {a b : Int} (h1 : -2147483648 ≤ a) (h2 : a < 2147483648) (h3 : -2147483648 ≤ b) (h4 : b < 2147483648) : z_min (iI a) (iI b) = iI (min a b) := by
  unfold z_min
  first
  | (by_cases g : b < a
     · rw [if_pos ((iI_lt h3 h4 h1 h2).mpr g), Int.min_eq_right (by omega)]
     · rw [if_neg (fun z => g ((iI_lt h3 h4 h1 h2).mp z)), Int.min_eq_left (by omega)])
  | (by_cases g : a < b
     · rw [if_pos ((iI_lt h1 h2 h3 h4).mpr g), Int.min_eq_left (by omega)]
     · rw [if_neg (fun z => g ((iI_lt h1 h2 h3 h4).mp z)), Int.min_eq_right (by omega)])
/-- what start leaves -/
def LSt (S : z_SS) (μ : z_M) (b r k : Nat) : Prop := (∀ x, x < k → runsS S r x → μ.1 18 x = iI (balZ S b r x)) ∧
  (((∀ x, x < k → ¬ runsS S r x) ∧ μ.1 17 7 = iI 2000000000 ∧ μ.1 17 3 = iI 2000000000 ∧ μ.1 17 2 = -1) ∨
    ∃ la, la < k ∧ runsS S r la ∧ μ.1 17 2 = nI la ∧ μ.1 17 7 = iI (balZ S b r la) ∧ (∀ x, x < k → runsS S r x → balZ S b r la ≤ balZ S b r x) ∧
      (((∀ x, x < k → runsS S r x → x = la) ∧ μ.1 17 3 = iI 2000000000) ∨ ∃ x1, x1 < k ∧ runsS S r x1 ∧ x1 ≠ la ∧ μ.1 17 3 = iI (balZ S b r x1) ∧ ∀ x, x < k → runsS S r x → x ≠ la → balZ S b r x1 ≤ balZ S b r x))
theorem c_start (hV : RepV S μ) (hB : B ≤ 84) (hW : WF B S) {b r : Nat} (hb : b < S.1 0 4) (hr : r < S.1 0 3) {K : z_M → Prop} (hK : ∀ μ', sameV μ μ' → LSt S μ' b r (S.1 10 r) → μ'.1 17 1 = μ'.1 17 7 → μ'.1 17 4 = -1 → K μ') : C_X4_start kd q (some (40 + 8 * b)) (some (30 + 2 * r)) (nI r) μ K := by
  have h3 := hW.1
  have h4 := hW.2.2.1 r hr
  unfold C_X4_start L_X4_start_25
  intro P hP
  have key : ∀ k, k ≤ S.1 10 r → ∀ μ', sameV μ μ' → LSt S μ' b r k → μ'.1 17 4 = -1 → P (some (40 + 8 * b)) (some (30 + 2 * r)) (nI r) (nI k) μ' := by
    refine downTo (S.1 10 r) ?_ (fun k hk ih => ?_)
    · intro μ' g1 g2 g3
      have hV' := hV.same g1
      refine hP _ _ _ _ _ ?_
      unfold B_X4_start_25
      refine ⟨_, rfl, ?_⟩
      rw [(hV'.2.1 r hr).1]
      refine ifc (nI_leI (by omega) (by omega)) (fun _ => ?_) (fun z => absurd (Nat.le_refl _) z)
      unfold L_X4_start_130
      generalize hm : si μ' 17 1 (μ'.1 17 7) = m
      have mo : ∀ c k, (c ≠ 17 ∨ k ≠ 1) → m.1 c k = μ'.1 c k := fun c k hc => by rw [← hm, si1, if_neg (by omega)]
      have m1 : m.1 17 1 = m.1 17 7 := by rw [mo 17 7 (by omega), ← hm, si1, if_pos ⟨rfl, rfl⟩]
      refine hK m (by rw [← hm]; exact sameV_tr g1 (sameV_si (by decide) (by decide))) ?_ m1 (by rw [mo 17 4 (by omega)]; exact g3)
      unfold LSt at g2 ⊢
      rw [mo 17 7 (by omega), mo 17 3 (by omega), mo 17 2 (by omega)]
      exact ⟨fun x hx hx2 => by rw [mo 18 x (by omega)]; exact g2.1 x hx hx2, g2.2⟩
    · intro μ' g1 g2 g3
      have hV' := hV.same g1
      refine hP _ _ _ _ _ ?_
      unfold B_X4_start_25
      refine ⟨_, rfl, ?_⟩
      rw [(hV'.2.1 r hr).1]
      refine ifc (nI_leI (by omega) (by omega)) (fun g => absurd g (by omega)) (fun _ => ?_)
      refine ifc (nI_leI (a := 8) (by decide) (by omega)) (fun g => absurd g (by omega)) (fun _ => ?_)
      refine c_runsN (hV'.2.1 r hr).to0 hr h4.2.1 h4.2.2.1 (by omega) (fun e1 => ?_) (fun e1 => ?_)
      · rw [if_neg i10]
        refine ⟨_, rfl, c_balanceAt hV'.to0 hB hW hb (by omega) (by omega) ?_⟩
        rw [show (if (S.1 11 r).testBit k = true then nI (stakesS S b r) else iI (balZ S b r k)) = iI (balZ S b r k) from if_neg (by rw [e1.2.2]; decide), nI_clamp (by omega)]
        refine ⟨nI_vin (by omega) (by decide), ?_⟩
        have bd := fun x => balZ_bd hB hW b (r := r) (by omega) x
        have bk := bd k
        rw [show (si μ' 18 k (iI (balZ S b r k))).1 17 7 = μ'.1 17 7 by rw [si1, if_neg (by omega)], show (si μ' 18 k (iI (balZ S b r k))).1 18 k = iI (balZ S b r k) by rw [si1, if_pos ⟨rfl, rfl⟩], show (si μ' 18 k (iI (balZ S b r k))).1 17 3 = μ'.1 17 3 by rw [si1, if_neg (by omega)]]
        generalize hm : si μ' 18 k (iI (balZ S b r k)) = m
        have mo : ∀ c j, (c ≠ 18 ∨ j ≠ k) → m.1 c j = μ'.1 c j := fun c j hc => by rw [← hm, si1, if_neg (by omega)]
        have mk : m.1 18 k = iI (balZ S b r k) := by rw [← hm, si1, if_pos ⟨rfl, rfl⟩]
        have ms : sameV μ m := by rw [← hm]; exact sameV_tr g1 (sameV_si (by decide) (by decide))
        have arr : ∀ m' : z_M, (∀ j, m'.1 18 j = m.1 18 j) → ∀ x, x < k + 1 → runsS S r x → m'.1 18 x = iI (balZ S b r x) := fun m' hm' x hx hx2 => by
          rw [hm']
          by_cases ex : x = k
          · rw [ex]
            exact mk
          · rw [mo 18 x (by omega)]
            exact g2.1 x (by omega) hx2
        have le1 : μ'.1 17 7 ≤ iI (balZ S b r k) → ∃ la, la < k ∧ runsS S r la ∧ μ'.1 17 2 = nI la ∧ μ'.1 17 7 = iI (balZ S b r la) ∧ (∀ x, x < k → runsS S r x → balZ S b r la ≤ balZ S b r x) ∧ balZ S b r la ≤ balZ S b r k ∧
      (((∀ x, x < k → runsS S r x → x = la) ∧ μ'.1 17 3 = iI 2000000000) ∨ ∃ x1, x1 < k ∧ runsS S r x1 ∧ x1 ≠ la ∧ μ'.1 17 3 = iI (balZ S b r x1) ∧ ∀ x, x < k → runsS S r x → x ≠ la → balZ S b r x1 ≤ balZ S b r x) := fun hle => by
          rcases g2.2 with ⟨q1, q2, q3, q4⟩ | ⟨la, q1, q2, q3, q4, q5, q6⟩
          · rw [q2] at hle
            have := (iI_le (by decide) (by decide) (by omega) (by omega)).mp hle
            omega
          · have bl := bd la
            rw [q4] at hle
            have := (iI_le (by omega) (by omega) (by omega) (by omega)).mp hle
            exact ⟨la, q1, q2, q3, q4, q5, this, q6⟩
        refine ifd (fun hle => ?_) (fun hlt => ?_)
        · obtain ⟨la, q1, q2, q3, q4, q5, q5b, q6⟩ := le1 hle
          rw [nI_1]
          have bl := bd la
          refine ih _ (sameV_tr ms (sameV_si (by decide) (by decide))) ⟨arr _ fun j => by rw [si1, if_neg (by omega)], Or.inr ⟨la, by omega, q2, by rw [si1, if_neg (by omega), mo 17 2 (by omega)]; exact q3, by rw [si1, if_neg (by omega), mo 17 7 (by omega)]; exact q4, fun x hx hx2 => ?_, Or.inr ?_⟩⟩ (by rw [si1, if_neg (by omega), mo 17 4 (by omega)]; exact g3)
          · by_cases ex : x = k
            · rw [ex]
              exact q5b
            · exact q5 x (by omega) hx2
          · rw [si1, if_pos ⟨rfl, rfl⟩]
            rcases q6 with ⟨p1, p2⟩ | ⟨x1, p1, p2, p3, p4, p5⟩
            · refine ⟨k, by omega, e1, by omega, ?_, fun x hx hx2 hx3 => ?_⟩
              · rw [p2, zmin_i (by decide) (by decide) (by omega) (by omega), Int.min_eq_right (by omega)]
              · by_cases ex : x = k
                · rw [ex]
                  exact Int.le_refl _
                · exact absurd (p1 x (by omega) hx2) hx3
            · have b1 := bd x1
              rw [p4, zmin_i (by omega) (by omega) (by omega) (by omega)]
              by_cases g : balZ S b r x1 ≤ balZ S b r k
              · refine ⟨x1, by omega, p2, p3, by rw [Int.min_eq_left g], fun x hx hx2 hx3 => ?_⟩
                by_cases ex : x = k
                · rw [ex]
                  exact g
                · exact p5 x (by omega) hx2 hx3
              · refine ⟨k, by omega, e1, by omega, by rw [Int.min_eq_right (by omega)], fun x hx hx2 hx3 => ?_⟩
                by_cases ex : x = k
                · rw [ex]
                  exact Int.le_refl _
                · have := p5 x (by omega) hx2 hx3
                  omega
        · skip
          rw [show (si m 17 3 (μ'.1 17 7)).1 18 k = iI (balZ S b r k) by rw [si1, if_neg (by omega)]; exact mk, nI_1]
          generalize hm2 : si (si (si m 17 3 (μ'.1 17 7)) 17 7 (iI (balZ S b r k))) 17 2 (nI k) = m2
          have o : ∀ c j, (c ≠ 17 ∨ (j ≠ 3 ∧ j ≠ 7 ∧ j ≠ 2)) → m2.1 c j = m.1 c j := fun c j hc => by rw [← hm2, si1, if_neg (by omega), si1, if_neg (by omega), si1, if_neg (by omega)]
          refine ih m2 (by rw [← hm2]; exact sameV_tr ms (sameV_tr (sameV_si (by decide) (by decide)) (sameV_tr (sameV_si (by decide) (by decide)) (sameV_si (by decide) (by decide))))) ⟨arr _ fun j => o 18 j (by omega), Or.inr ⟨k, by omega, e1, by rw [← hm2, si1, if_pos ⟨rfl, rfl⟩], by rw [← hm2, si1, if_neg (by omega), si1, if_pos ⟨rfl, rfl⟩], ?_, ?_⟩⟩ (by rw [o 17 4 (by omega), mo 17 4 (by omega)]; exact g3)
          · intro x hx hx2
            by_cases ex : x = k
            · rw [ex]
              exact Int.le_refl _
            · rcases g2.2 with ⟨q1, _⟩ | ⟨la, q1, q2, q3, q4, q5, q6⟩
              · exact absurd hx2 (q1 x (by omega))
              · have bl := bd la
                have h5 := q5 x (by omega) hx2
                have h6 : ¬ balZ S b r la ≤ balZ S b r k := fun z => hlt (by rw [q4]; exact (iI_le (by omega) (by omega) (by omega) (by omega)).mpr z)
                omega
          · have e3 : m2.1 17 3 = μ'.1 17 7 := by rw [← hm2, si1, if_neg (by omega), si1, if_neg (by omega), si1, if_pos ⟨rfl, rfl⟩]
            rcases g2.2 with ⟨q1, q2, _⟩ | ⟨la, q1, q2, q3, q4, q5, q6⟩
            · refine Or.inl ⟨fun x hx hx2 => ?_, by rw [e3]; exact q2⟩
              rcases Nat.lt_or_ge x k with z | z
              · exact absurd hx2 (q1 x z)
              · omega
            · refine Or.inr ⟨la, by omega, q2, by omega, by rw [e3]; exact q4, fun x hx hx2 hx3 => q5 x (by omega) hx2⟩
      · rw [if_pos rfl, nI_1]
        refine ih μ' g1 ⟨fun x hx hx2 => ?_, ?_⟩ g3
        · rcases Nat.lt_or_ge x k with z | z
          · exact g2.1 x z hx2
          · have : x = k := by omega
            rw [this] at hx2
            exact absurd hx2 e1
        · have ne : ∀ x, x < k + 1 → runsS S r x → x < k := fun x hx hx2 => by
            rcases Nat.lt_or_ge x k with z | z
            · exact z
            · have : x = k := by omega
              rw [this] at hx2
              exact absurd hx2 e1
          rcases g2.2 with ⟨q1, q2, q3, q4⟩ | ⟨la, q1, q2, q3, q4, q5, q6⟩
          · exact Or.inl ⟨fun x hx hx2 => q1 x (ne x hx hx2) hx2, q2, q3, q4⟩
          · refine Or.inr ⟨la, by omega, q2, q3, q4, fun x hx hx2 => q5 x (ne x hx hx2) hx2, ?_⟩
            rcases q6 with ⟨p1, p2⟩ | ⟨x1, p1, p2, p3, p4, p5⟩
            · exact Or.inl ⟨fun x hx hx2 => p1 x (ne x hx hx2) hx2, p2⟩
            · exact Or.inr ⟨x1, by omega, p2, p3, p4, fun x hx hx2 => p5 x (ne x hx hx2) hx2⟩
  have o : ∀ v1 v2 v3 v4 j, (si (si (si (si μ 17 4 v1) 17 2 v2) 17 3 v3) 17 7 v4).1 17 j = if j = 7 then v4 else if j = 3 then v3 else if j = 2 then v2 else if j = 4 then v1 else μ.1 17 j := fun v1 v2 v3 v4 j => by
    rw [si1, si1, si1, si1]
    by_cases e7 : j = 7
    · rw [if_pos ⟨rfl, e7⟩, if_pos e7]
    · rw [if_neg (fun z => e7 z.2), if_neg e7]
      by_cases e3 : j = 3
      · rw [if_pos ⟨rfl, e3⟩, if_pos e3]
      · rw [if_neg (fun z => e3 z.2), if_neg e3]
        by_cases e2 : j = 2
        · rw [if_pos ⟨rfl, e2⟩, if_pos e2]
        · rw [if_neg (fun z => e2 z.2), if_neg e2]
          by_cases e4 : j = 4
          · rw [if_pos ⟨rfl, e4⟩, if_pos e4]
          · rw [if_neg (fun z => e4 z.2), if_neg e4]
  refine key 0 (Nat.zero_le _) _ (sameV_tr (sameV_si (by decide) (by decide)) (sameV_tr (sameV_si (by decide) (by decide)) (sameV_tr (sameV_si (by decide) (by decide)) (sameV_si (by decide) (by decide))))) ⟨fun x hx => absurd hx (Nat.not_lt_zero _), Or.inl ⟨fun x hx => absurd hx (Nat.not_lt_zero _), by rw [o]; rfl, by rw [o]; rfl, by rw [o]; rfl⟩⟩ (by rw [o]; rfl)
theorem ww_eq (hW : WF B S) {b r h st s la x1 : Nat} (hh : runsS S r h) (hl : runsS S r la) (h1 : ∀ x, x < S.1 10 r → runsS S r x → balZ S b r la ≤ balZ S b r x) (hx : runsS S r x1) (hne : x1 ≠ la) (h2 : ∀ x, x < S.1 10 r → runsS S r x → x ≠ la → balZ S b r x1 ≤ balZ S b r x) : (wwS S b r h st s).getD 0 = min (balZ S b r h + (wonBy S st s : Int)) ((if h = la then balZ S b r x1 else balZ S b r la) - (st : Int)) := by
  have e : wwS S b r h st s = some (min (balZ S b r h + (wonBy S st s : Int)) ((if h = la then balZ S b r x1 else balZ S b r la) - (st : Int))) := by
    refine minO_is (S.1 10 r) (fun x v hx2 ev => ?_) ?_
    · split at ev
      · next rx =>
        cases ev
        by_cases e1 : x = h
        · rw [if_pos e1, e1]
          exact Int.min_le_left _ _
        · rw [if_neg e1]
          refine Int.le_trans (Int.min_le_right _ _) ?_
          by_cases e2 : h = la
          · rw [if_pos e2]
            have := h2 x hx2 rx (by omega)
            omega
          · rw [if_neg e2]
            have := h1 x hx2 rx
            omega
      · cases ev
    · by_cases g : balZ S b r h + (wonBy S st s : Int) ≤ (if h = la then balZ S b r x1 else balZ S b r la) - (st : Int)
      · rw [Int.min_eq_left g]
        exact ⟨h, hh.2.1, by rw [if_pos hh, if_pos rfl]⟩
      · rw [Int.min_eq_right (by omega)]
        by_cases e2 : h = la
        · rw [if_pos e2]
          exact ⟨x1, hx.2.1, by rw [if_pos hx, if_neg (by omega), Int.sub_eq_add_neg]⟩
        · rw [if_neg e2]
          exact ⟨la, hl.2.1, by rw [if_pos hl, if_neg (by omega), Int.sub_eq_add_neg]⟩
  rw [e]
  rfl
theorem two_runs (hW : WF B S) {r : Nat} (hr : r < S.1 0 3) {la : Nat} : ∃ h, runsS S r h ∧ h ≠ la := by
  have h4 := hW.2.2.1 r hr
  refine Classical.byContradiction fun g => ?_
  have all : ∀ h, h < S.1 10 r → h ≠ la → (S.1 11 r).testBit h = true := fun h hh hne => by
    cases e : (S.1 11 r).testBit h with
    | true => rfl
    | false => exact absurd ⟨h, ⟨hr, hh, e⟩, hne⟩ g
  have hle : ∀ n, n ≤ S.1 10 r → sumN n (fun h => if (S.1 11 r).testBit h = true then 0 else 1) ≤ if la < n then 1 else 0 := by
    intro n
    induction n with
    | zero => intro _; exact Nat.zero_le _
    | succ n ih =>
      intro hn
      have h1 := ih (by omega)
      have e : sumN (n + 1) (fun h => if (S.1 11 r).testBit h = true then 0 else 1) = sumN n (fun h => if (S.1 11 r).testBit h = true then 0 else 1) + (if (S.1 11 r).testBit n = true then 0 else 1) := rfl
      rw [e]
      by_cases e2 : n = la
      · rw [if_neg (by omega)] at h1
        rw [if_pos (show la < n + 1 by omega)]
        split <;> omega
      · rw [if_pos (all n (by omega) e2)]
        split at h1
        · rw [if_pos (by omega)]
          exact h1
        · exact Nat.le_trans h1 (Nat.zero_le _)
  have h5 := hle (S.1 10 r) (Nat.le_refl _)
  have h6 : leftS S r ≤ 1 := by
    refine Nat.le_trans h5 ?_
    split <;> omega
  omega
/-- what the offers hold -/
def LOf (S : z_SS) (μ : z_M) (b r : Nat) (p : z_R) : Prop := (∀ x, runsS S r x → μ.1 18 x = iI (balZ S b r x)) ∧ (∃ la x1, runsS S r la ∧ runsS S r x1 ∧ x1 ≠ la ∧ μ.1 17 2 = nI la ∧ μ.1 17 1 = iI (balZ S b r la) ∧ μ.1 17 3 = iI (balZ S b r x1) ∧ (∀ x, x < S.1 10 r → runsS S r x → balZ S b r la ≤ balZ S b r x) ∧ ∀ x, x < S.1 10 r → runsS S r x → x ≠ la → balZ S b r x1 ≤ balZ S b r x) ∧ μ.1 17 7 = iI p.1 ∧ μ.1 17 4 = rbk p ∧ ∀ x, p.2 = some x → μ.1 17 5 = nI x.2.1 ∧ μ.1 17 6 = nI x.2.2
theorem c_offer (hB : B ≤ 84) (hW : WF B S) {b r o k h s : Nat} (hr : r < S.1 0 3) (hk : 100 * k ≤ 5000) (ho : o < S.1 0 4) (hc : o ≠ b ∧ S.1 16 o = 0) (hs : S.2.1 17 (24 * o + 8 * r + h) = some s) (hh : h < 8) {p : z_R} (hp : PBd p) (hL : LOf S μ b r p) {K : z_M → Prop} (hK : ∀ μ', sameV μ μ' → LOf S μ' b r (off1 S b r o k h p) → K μ') : C_X4_offer kd q (nI o) (nI h) (nI (100 * k)) (nI (wonBy S (100 * k) s)) μ K := by
  have h3 := hW.1
  have h4 := hW.2.2.1 r hr
  obtain ⟨s1, _, s2⟩ := wf17 hW (k := 24 * o + 8 * r + h) (by omega) hs
  rw [show (24 * o + 8 * r + h) % 24 / 8 = r by omega, show (24 * o + 8 * r + h) % 8 = h by omega] at s2
  obtain ⟨l1, ⟨la, x1, a1, a2, a3, a4, a5, a6, a7, a8⟩, l2, l3, l4⟩ := hL
  have bd := fun x => balZ_bd hB hW b (r := r) (by omega) x
  have bl := bd la
  have bx := bd x1
  have bh := bd h
  have wb := wf_won hW (n := 100 * k) (by omega) s1
  have ww := wwS_bd hB hW (b := b) (r := r) (h := h) (st := 100 * k) (by omega) s1 (by omega)
  have wwe := ww_eq (st := 100 * k) (s := s) hW s2 a1 a7 a2 a3 a8
  have hl8 := a1.2.1
  have eo : off1 S b r o k h p = if p.1 < (wwS S b r h (100 * k) s).getD 0 then ((wwS S b r h (100 * k) s).getD 0, some (o, h, 100 * k)) else p := by
    unfold off1
    rw [if_pos hc, hs]
  rw [eo] at hK
  have core : ∀ t : Int, t = (if h = la then balZ S b r x1 else balZ S b r la) → L_X4_offer_30 kd q K (nI o) (nI h) (nI (100 * k)) (nI (wonBy S (100 * k) s)) (iI t) μ := fun t et => by
    have bt : -102480000 ≤ t ∧ t ≤ 1680000 := by
      rw [et]
      split
      · exact bx
      · exact bl
    unfold L_X4_offer_30
    rw [nI_clamp (by omega), l1 h s2, ← iI_nat (wonBy S (100 * k) s), iI_add, ← iI_nat (100 * k), iI_sub, zmin_i (by omega) (by omega) (by omega) (by omega), et, ← wwe, l2]
    have hp1 := hp.1
    refine ⟨nI_vin (by omega) (by decide), ifc (iI_le (by omega) (by omega) (by omega) (by omega)) (fun g => ?_) (fun g => ?_)⟩
    · rw [if_neg (by omega)] at hK
      exact hK μ (sameV_refl μ) ⟨l1, ⟨la, x1, a1, a2, a3, a4, a5, a6, a7, a8⟩, l2, l3, l4⟩
    · rw [if_pos (by omega)] at hK
      rw [iI_nat]
      generalize (wwS S b r h (100 * k) s).getD 0 = w at hK
      generalize hm : si (si (si (si μ 17 7 (iI w)) 17 4 (nI o)) 17 5 (nI h)) 17 6 (nI (100 * k)) = m
      have mo : ∀ c j, (c ≠ 17 ∨ (j < 4)) → m.1 c j = μ.1 c j := fun c j hc => by rw [← hm, si1, if_neg (by omega), si1, if_neg (by omega), si1, if_neg (by omega), si1, if_neg (by omega)]
      refine hK m (by rw [← hm]; exact sameV_tr (sameV_si (by decide) (by decide)) (sameV_tr (sameV_si (by decide) (by decide)) (sameV_tr (sameV_si (by decide) (by decide)) (sameV_si (by decide) (by decide))))) ⟨fun x hx => by rw [mo 18 x (by omega)]; exact l1 x hx, ⟨la, x1, a1, a2, a3, by rw [mo 17 2 (by omega)]; exact a4, by rw [mo 17 1 (by omega)]; exact a5, by rw [mo 17 3 (by omega)]; exact a6, a7, a8⟩, ?_, ?_, fun x ex => ?_⟩
      · rw [← hm, si1, if_neg (by omega), si1, if_neg (by omega), si1, if_neg (by omega), si1, if_pos ⟨rfl, rfl⟩]
      · rw [← hm, si1, if_neg (by omega), si1, if_neg (by omega), si1, if_pos ⟨rfl, rfl⟩]
        rfl
      · cases ex
        exact ⟨by rw [← hm, si1, if_neg (by omega), si1, if_pos ⟨rfl, rfl⟩], by rw [← hm, si1, if_pos ⟨rfl, rfl⟩]⟩
  unfold C_X4_offer
  rw [if_neg (Int32.not_lt.mpr (nI_pos' (by omega)))]
  refine ifc (nI_ltI (b := 8) (by omega) (by decide)) (fun _ => ?_) (fun g => absurd hh g)
  rw [a4]
  refine ifc (nI_eq (by omega) (by omega)) (fun e => ?_) (fun e => ?_)
  · rw [a6]
    exact core _ (by rw [if_pos e])
  · rw [a5]
    exact core _ (by rw [if_neg e])
theorem c_layWith (hV : RepV S μ) (hB : B ≤ 84) (hW : WF B S) {b r o k : Nat} (hr : r < S.1 0 3) (hk : 100 * k ≤ 5000) (ho : o < S.1 0 4) (hc : o ≠ b ∧ S.1 16 o = 0) {p : z_R} (hp : PBd p) (hL : LOf S μ b r p) {K : z_M → Prop} (hK : ∀ μ', sameV μ μ' → LOf S μ' b r (offH S b r o k p (S.1 10 r)) → K μ') : C_X11_layWith kd q (nI o) (some (40 + 8 * o)) (nI r) (some (30 + 2 * r)) (nI (100 * k)) μ K := by
  have h3 := hW.1
  have h4 := hW.2.2.1 r hr
  have hbd := offH_bd hB hW (b := b) hr ho hk hp
  unfold C_X11_layWith L_X11_layWith_3
  intro P hP
  have key : ∀ n, n ≤ S.1 10 r → ∀ μ', sameV μ μ' → LOf S μ' b r (offH S b r o k p n) → P (nI o) (some (40 + 8 * o)) (nI r) (some (30 + 2 * r)) (nI (100 * k)) (nI n) μ' := by
    refine downTo (S.1 10 r) ?_ (fun n hn ih => ?_)
    · intro μ' g1 g2
      refine hP _ _ _ _ _ _ _ ?_
      unfold B_X11_layWith_3
      refine ⟨_, rfl, ?_⟩
      rw [((hV.same g1).2.1 r hr).1]
      exact ifc (nI_leI (by omega) (by omega)) (fun _ => hK μ' g1 g2) (fun z => absurd (Nat.le_refl _) z)
    · intro μ' g1 g2
      have hV' := hV.same g1
      have hb2 := hbd n (by omega)
      have e1 : offH S b r o k p (n + 1) = off1 S b r o k n (offH S b r o k p n) := rfl
      refine hP _ _ _ _ _ _ _ ?_
      unfold B_X11_layWith_3
      refine ⟨_, rfl, ?_⟩
      rw [(hV'.2.1 r hr).1]
      refine ifc (nI_leI (by omega) (by omega)) (fun g => absurd g (by omega)) (fun _ => ⟨_, rfl, c_spot ?_⟩)
      rw [nI_clamp (by omega), slate_at hV'.to0 ho (by omega) (by omega)]
      refine ⟨nI_vin (by omega) (by decide), ?_⟩
      cases es : S.2.1 17 (24 * o + 8 * r + n) with
      | none =>
        rw [if_pos oI_none, nI_1]
        refine ih μ' g1 ?_
        rw [e1]
        have : off1 S b r o k n (offH S b r o k p n) = offH S b r o k p n := by
          unfold off1
          rw [if_pos hc, es]
        rw [this]
        exact g2
      | some s =>
        have s1 := (wf17 hW (k := 24 * o + 8 * r + n) (by omega) es).1
        rw [oI_some, if_neg (nI_ne_m1 (by omega))]
        refine c_won hV'.1 hW (by omega) s1 (c_offer hB hW hr hk ho hc es (by omega) hb2 g2 fun μ2 k1 k2 => ?_)
        rw [nI_1]
        exact ih μ2 (sameV_tr g1 k1) (by rw [e1]; exact k2)
  exact key 0 (Nat.zero_le _) μ (sameV_refl μ) hL
theorem c_seekLay (hQ : KQ S kd q) (hV : RepV S μ) (hB : B ≤ 84) (hW : WF B S) {b r tot : Nat} (hb : b < S.1 0 4) (hr : r < S.1 0 3) (ht : 100 ≤ tot) (ht2 : tot ≤ 5000) {K : z_M → Prop} (hK : ∀ μ', sameV μ μ' → PBd (offS S b r tot) → LOf S μ' b r (offS S b r tot) → K μ') : C_X11_seekLayOff kd q (nI b) (some (40 + 8 * b)) (nI r) (some (30 + 2 * r)) (nI tot) μ K := by
  have h3 := hW.1
  have h4 := hW.2.2.1 r hr
  unfold C_X11_seekLayOff
  refine c_start hV hB hW hb hr fun μ1 g1 g2 g3 g4 => ?_
  obtain ⟨y, hy⟩ := some_runs hW hr
  have hy2 := hy.2.1
  rcases g2.2 with ⟨q1, _⟩ | ⟨la, q1, q2, q3, q4, q5, q6⟩
  · exact absurd hy (q1 y hy2)
  obtain ⟨y2, hy3, hy4⟩ := two_runs hW hr (la := la)
  have hy5 := hy3.2.1
  rcases q6 with ⟨p1, _⟩ | ⟨x1, p1, p2, p3, p4, p5⟩
  · exact absurd (p1 y2 hy5 hy3) hy4
  have ew : worstS S b r = some (balZ S b r la) := minO_is (S.1 10 r) (fun x v hx ev => by
    split at ev
    · next rx => cases ev; exact q5 x hx rx
    · cases ev) ⟨la, q1, if_pos q2⟩
  have hL0 : LOf S μ1 b r ((worstS S b r).getD 0, none) := ⟨fun x hx => g2.1 x hx.2.1 hx, ⟨la, x1, q2, p2, p3, q3, by rw [g3]; exact q4, p4, q5, p5⟩, by rw [ew]; exact q4, g4, fun x e => by cases e⟩
  have bla := balZ_bd hB hW b (r := r) (by omega) la
  have hp0 : PBd ((worstS S b r).getD 0, none) := ⟨by rw [ew]; show -102500000 ≤ balZ S b r la ∧ balZ S b r la ≤ 2880000; omega, fun x e => by cases e⟩
  unfold offS at hK
  generalize ((worstS S b r).getD 0, (none : Option (Nat × Nat × Nat))) = p0 at hL0 hp0 hK
  have hbd := offK_bd hB hW (b := b) hr hp0
  unfold L_X11_seekLayOff_15
  intro P hP
  have key : ∀ k, k ≤ tot / 100 → ∀ μ', sameV μ μ' → LOf S μ' b r (offK S b r p0 k) → P (nI b) (nI r) (some (30 + 2 * r)) (nI tot) (nI (100 * (k + 1))) μ' := by
    refine downTo (tot / 100) ?_ (fun k hk ih => ?_)
    · intro μ' f1 f2
      refine hP _ _ _ _ _ _ ?_
      unfold B_X11_seekLayOff_15
      exact ifc (nI_ltI (by omega) (by omega)) (fun _ => hK μ' f1 (hbd _ (by omega)) f2) (fun z => absurd (show tot < 100 * (tot / 100 + 1) by omega) z)
    · intro μ' f1 f2
      have hb2 := hbd k (by omega)
      refine hP _ _ _ _ _ _ ?_
      unfold B_X11_seekLayOff_15
      refine ifc (nI_ltI (by omega) (by omega)) (fun g => absurd g (by omega)) (fun _ => ?_)
      unfold L_X11_seekLayOff_25
      intro P2 hP2
      have hb3 := offB_bd hB hW (b := b) hr (k := k + 1) (by omega) hb2
      have key2 : ∀ n, n ≤ S.1 0 4 → ∀ μ', sameV μ μ' → LOf S μ' b r (offB S b r (k + 1) (offK S b r p0 k) n) → P2 (nI b) (nI r) (some (30 + 2 * r)) (nI tot) (nI (100 * (k + 1))) (nI n) μ' := by
        refine downTo (S.1 0 4) ?_ (fun n hn ihn => ?_)
        · intro μ' e1 e2
          refine hP2 _ _ _ _ _ _ _ ?_
          unfold B_X11_seekLayOff_25
          rw [(hV.same e1).1.2.2.1]
          refine ifc (nI_leI (by omega) (by omega)) (fun _ => ?_) (fun z => absurd (Nat.le_refl _) z)
          rw [show (100 : Int32) = nI 100 from rfl, nI_add, show 100 * (k + 1) + 100 = 100 * (k + 1 + 1) by omega]
          exact ih μ' e1 e2
        · intro μ' e1 e2
          have hV' := hV.same e1
          have e3 : offB S b r (k + 1) (offK S b r p0 k) (n + 1) = offH S b r n (k + 1) (offB S b r (k + 1) (offK S b r p0 k) n) (S.1 10 r) := rfl
          refine hP2 _ _ _ _ _ _ _ ?_
          unfold B_X11_seekLayOff_25
          rw [hV'.1.2.2.1]
          refine ifc (nI_leI (by omega) (by omega)) (fun g => absurd g (by omega)) (fun _ => ?_)
          refine c_bookN hQ hV'.1 hW hn (opt_s ?_)
          rw [(hV'.2.2.1 n hn).2.1]
          have skip : ¬ (n ≠ b ∧ S.1 16 n = 0) → P2 (nI b) (nI r) (some (30 + 2 * r)) (nI tot) (nI (100 * (k + 1))) (nI n + 1) μ' := fun g => by
            rw [nI_1]
            refine ihn μ' e1 ?_
            rw [e3]
            have : ∀ m p, offH S b r n (k + 1) p m = p := by
              intro m p
              induction m with
              | zero => rfl
              | succ m ihm =>
                show off1 S b r n (k + 1) m (offH S b r n (k + 1) p m) = p
                rw [ihm]
                exact if_neg g
            rw [this]
            exact e2
          have hbk := hW.2.2.2.1 n hn
          refine ifc (nI_eq (by omega) (by omega)) (fun e => skip fun z => z.1 e) (fun e => ?_)
          refine ifc (nI_eq (b := 0) (by omega) (by decide)) (fun e4 => ?_) (fun e4 => skip fun z => e4 z.2)
          refine c_layWith hV' hB hW hr (by omega) hn ⟨e, e4⟩ (hb3 n (by omega)) e2 fun μ2 k1 k2 => ?_
          rw [nI_1]
          exact ihn μ2 (sameV_tr e1 k1) (by rw [e3]; exact k2)
      exact key2 0 (Nat.zero_le _) μ' f1 f2
  exact key 0 (Nat.zero_le _) μ1 g1 hL0
theorem c_layOff (hB : B ≤ 84) (hQ : KQ S kd q) (hV : RepV S μ) (hW : WF B S) {a b c d : Int32} {K : Int32 → z_M → Prop} (hK : ∀ μ', sameV μ μ' → K (opLayOff S a b c d) μ') : C_X11_layOff kd q a b c d μ K := by
  have h3 := hW.1
  have rf := sameV_refl μ
  unfold C_X11_layOff
  unfold opLayOff at hK
  refine c_bookAt hQ hV.1 hW (fun bk hb e => ?_) (fun g => ?_)
  · subst e
    rw [ixO_some hb (by omega)] at hK
    dsimp only at hK
    refine c_raceAt hQ hV.1 hW (fun r hr e => opt_s (opt_s ?_)) (fun g => opt_s (opt_n (by rw [ixO_none g] at hK; exact hK μ rf)))
    subst e
    have h4 := hW.2.2.1 r hr
    rw [ixO_some hr (by omega)] at hK
    dsimp only at hK
    rw [(hV.2.1 r hr).2.2.1]
    refine ifc (nI_eq (b := 0) (by omega) (by decide)) (fun e0 => ?_) (fun e0 => by rw [if_neg e0] at hK; exact hK μ rf)
    rw [if_pos e0] at hK
    have badc : (∀ j, 100 ≤ j → j ≤ 5000 → c ≠ nI j) → K (-1) μ := fun g => by
      cases e1 : ixO c 5001 with
      | none => rw [e1] at hK; exact hK μ rf
      | some n =>
        obtain ⟨h1, h2⟩ := ixO_inv e1
        rw [e1] at hK
        dsimp only at hK
        rw [if_pos (Nat.lt_of_not_le fun h => g n h (by omega) h2)] at hK
        exact hK μ rf
    have badd : (∀ j, j < 4 → d ≠ nI j) → K (-1) μ := fun g => by
      rw [ixO_none g] at hK
      cases e1 : ixO c 5001 with
      | none => rw [e1] at hK; exact hK μ rf
      | some n =>
        rw [e1] at hK
        dsimp only at hK
        split at hK
        · exact hK μ rf
        · exact hK μ rf
    refine le_dec (m := 3) (by decide) rfl (fun w hw ed => ?_) badd badd
    subst ed
    refine lo_dec (lo := 100) (m := 5000) (by decide) (by decide) (fun tot t1 t2 ec => ?_) badc badc
    subst ec
    rw [ixO_some (show tot < 5001 by omega) (by decide), ixO_some (show w < 4 by omega) (by decide)] at hK
    dsimp only at hK
    rw [if_neg (by omega)] at hK
    refine c_seekLay hQ hV hB hW hb hr t1 t2 fun μ2 s1 hb2 s2 => ?_
    have hk := hK μ2 s1
    obtain ⟨_, _, l2, l3, l4⟩ := s2
    rw [l3, l2]
    generalize offS S bk r tot = p at hk hb2 l4 ⊢
    obtain ⟨v, o⟩ := p
    cases o with
    | none =>
      rw [if_pos (show rbk (v, none) = -1 from rfl)]
      exact hk
    | some x =>
      obtain ⟨q2, h, st⟩ := x
      have hx : q2 < 4 ∧ h < 8 ∧ st ≤ 5000 := hb2.2 (q2, h, st) rfl
      obtain ⟨l5, l6⟩ := l4 (q2, h, st) rfl
      rw [if_neg (show ¬ rbk (v, some (q2, h, st)) = -1 from nI_ne_m1 (by omega)), l5, l6]
      dsimp only at hk
      refine ifc (nI_eq (b := 0) (by omega) (by omega)) (fun e => by rw [if_pos e] at hk; exact hk) (fun e => ?_)
      rw [if_neg e] at hk
      refine ifc (nI_eq (b := 1) (by omega) (by omega)) (fun e => by rw [if_pos e] at hk; exact hk) (fun e => ?_)
      rw [if_neg e] at hk
      exact ifc (nI_eq (b := 2) (by omega) (by omega)) (fun e => by rw [if_pos e] at hk; exact hk) (fun e => by rw [if_neg e] at hk; exact hk)
  · rw [ixO_none g] at hK
    exact c_raceAt hQ hV.1 hW (fun r hr e => opt_n (hK μ rf)) (fun g => opt_n (hK μ rf))
end CLAY
