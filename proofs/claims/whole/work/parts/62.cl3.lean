/-! The class: the plain questions' answers. -/
theorem ix_sub {a : Int32} {d n j : Nat} (h : ixO (a - nI d) n = some j) : j < n ∧ a = nI (j + d) := by
  obtain ⟨h1, h2⟩ := ixO_inv h
  refine ⟨h1, ?_⟩
  rw [← nI_add, ← h2, Int32.sub_add_cancel]
theorem ix_sub_none {k d n : Nat} (hk : k < 2 ^ 31) (hd : d + n < 2 ^ 31) (h : k < d ∨ d + n ≤ k) : ixO (nI k - nI d) n = none := by
  cases e : ixO (nI k - nI d) n with
  | none => rfl
  | some j =>
    obtain ⟨h1, h2⟩ := ix_sub e
    have := (nI_eq hk (by omega)).mp h2
    omega
theorem le_dec {a c : Int32} {m : Nat} (hm : m < 2 ^ 30) (hc : c = nI m) {A B C : Prop} (h1 : ∀ j, j < m + 1 → a = nI j → C) (h0 : (∀ j, j < m + 1 → a ≠ nI j) → A) (h0' : (∀ j, j < m + 1 → a ≠ nI j) → B) : if a < 0 then A else if a ≤ c then C else B := by
  subst hc
  by_cases h : a < 0
  · rw [if_pos h]
    exact h0 fun j hj e => by
      rw [e] at h
      exact absurd (nI_pos' (by omega)) (Int32.not_le.mpr h)
  · rw [if_neg h]
    obtain ⟨j, hj, e⟩ := nI_of h
    subst e
    refine ifc (nI_leI hj (by omega)) (fun g => h1 j (by omega) rfl) (fun g => h0' fun k hk e => ?_)
    have := (nI_eq hj (by omega)).mp e
    omega
theorem ded5 {b w : Nat} (hw : 0 < w) : 100 * b / w / 5 * 5 = 5 * (20 * b / w) := by
  rw [Nat.div_div_eq_div_mul, show 100 * b = 20 * b * 5 by omega, Nat.mul_div_mul_right _ _ (by decide), Nat.mul_comm]
section CL3
variable {B : Nat} {S : z_SS} {kd : z_K} {q : z_Q} {μ : z_M}
theorem c_step (hQ : KQ S kd q) (hV : RepV S μ) (hW : WF B S) {a b c : Int32} {K : Int32 → z_M → Prop} (hK : K (opStep S a b c) μ) : C_X11_step kd q a b c μ K := by
  have h3 := hW.1
  unfold C_X11_step
  unfold opStep at hK
  refine c_bookAt hQ hV.1 hW (fun bk hb e => ?_) (fun g => ?_)
  · subst e
    rw [ixO_some hb (by omega)] at hK
    dsimp only at hK
    refine c_raceAt hQ hV.1 hW (fun r hr e => opt_s (opt_s ?_)) (fun g => opt_s (opt_n ?_))
    · subst e
      have h4 := hW.2.2.1 r hr
      rw [ixO_some hr (by omega)] at hK
      dsimp only at hK
      refine c_holds (hV.to0.2.1 r hr) h4.2.1 (fun h hh e => ?_) (fun g => ?_)
      · subst e
        rw [ixO_some hh (by omega)] at hK
        rw [if_neg i10]
        refine c_spot ?_
        rw [nI_clamp (by omega), slate_at hV.to0 hb (by omega) (by omega)]
        exact ⟨nI_vin (by omega) (by decide), hK⟩
      · rw [ixO_none g] at hK
        rw [if_pos rfl]
        exact hK
    · rw [ixO_none g] at hK
      exact hK
  · rw [ixO_none g] at hK
    exact c_raceAt hQ hV.1 hW (fun r hr e => opt_n hK) (fun g => opt_n hK)
theorem c_balance (hB : B ≤ 84) (hQ : KQ S kd q) (hV : RepV S μ) (hW : WF B S) {a b c : Int32} {K : Int32 → z_M → Prop} (hK : K (opBalance S a b c) μ) : C_X11_balance kd q a b c μ K := by
  have h3 := hW.1
  unfold C_X11_balance L_X11_balance_41
  unfold opBalance at hK
  refine c_bookAt hQ hV.1 hW (fun bk hb e => ?_) (fun g => ?_)
  · subst e
    rw [ixO_some hb (by omega)] at hK
    dsimp only at hK
    refine c_raceAt hQ hV.1 hW (fun r hr e => opt_s (opt_s ?_)) (fun g => opt_s (opt_n ?_))
    · subst e
      have h4 := hW.2.2.1 r hr
      rw [ixO_some hr (by omega)] at hK
      dsimp only at hK
      refine ifd (fun e => ?_) (fun e => ?_)
      · rw [if_pos e] at hK
        rw [if_pos e]
        exact c_worst hV.to0 hB hW hb hr hK
      · rw [if_neg e] at hK
        refine c_holds (hV.to0.2.1 r hr) h4.2.1 (fun h hh e2 => ?_) (fun g => ?_)
        · subst e2
          rw [ixO_some hh (by omega)] at hK
          rw [if_neg i10, if_neg e]
          exact c_balanceAt hV.to0 hB hW hb (by omega) (by omega) hK
        · rw [ixO_none g] at hK
          rw [if_pos rfl]
          exact hK
    · rw [ixO_none g] at hK
      exact hK
  · rw [ixO_none g] at hK
    exact c_raceAt hQ hV.1 hW (fun r hr e => opt_n hK) (fun g => opt_n hK)
theorem c_round (hQ : KQ S kd q) (hV : RepV S μ) (hW : WF B S) {a b c : Int32} {K : Int64 → z_M → Prop} (hK : ∀ μ', sameV μ μ' → K (opRound S a b c) μ') : C_X11_round kd q a b c μ K := by
  have h3 := hW.1
  unfold C_X11_round
  unfold opRound at hK
  refine c_bookAt hQ hV.1 hW (fun bk hb e => opt_s ?_) (fun g => opt_n ?_)
  · subst e
    rw [ixO_some hb (by omega)] at hK
    dsimp only at hK
    refine c_raceAt hQ hV.1 hW (fun r hr e => opt_s ?_) (fun g => opt_n ?_)
    · subst e
      rw [ixO_some hr (by omega)] at hK
      dsimp only at hK
      refine le_dec (m := 1) (c := 1) (by decide) rfl (fun w hw e => ?_) (fun g => ?_) (fun g => ?_)
      · subst e
        rw [ixO_some (show w < 2 by omega) (by decide)] at hK
        dsimp only at hK
        obtain ⟨c1, c2, c3, _⟩ := roundF_cap hW (b := bk) (by omega) hr
        refine c_sumSlate hV.to0 hW hb hr fun μ2 hs2 hA2 => c_shorten c1 (by omega) (by omega) hA2 fun μ3 hs3 hA3 => ?_
        have hk := hK μ3 (sameV_tr hs2 hs3)
        rw [hA3.1, hA3.2]
        exact ifc (nI_eq (b := 0) (by omega) (by decide)) (fun e => by rw [if_pos e] at hk; exact hk) (fun e => by rw [if_neg e] at hk; exact hk)
      · rw [ixO_none g] at hK
        exact hK μ (sameV_refl μ)
      · rw [ixO_none g] at hK
        exact hK μ (sameV_refl μ)
    · rw [ixO_none g] at hK
      exact hK μ (sameV_refl μ)
  · rw [ixO_none g] at hK
    exact hK μ (sameV_refl μ)
theorem c_bookIs (hQ : KQ S kd q) (hV : RepV S μ) (hW : WF B S) {a b : Int32} {K : Int32 → z_M → Prop} (hK : K (opBookIs S a b) μ) : C_X11_bookIs kd q a b μ K := by
  have h3 := hW.1
  unfold C_X11_bookIs
  unfold opBookIs at hK
  refine c_bookAt hQ hV.1 hW (fun bk hb e => opt_s ?_) (fun g => opt_n ?_)
  · subst e
    have h5 := hW.2.2.2.1 bk hb
    have hb5 := hV.2.2.1 bk hb
    rw [ixO_some hb (by omega)] at hK
    dsimp only at hK
    refine ifd (fun e => ?_) (fun e => ?_)
    · rw [if_pos e] at hK
      rw [hb5.1]
      exact hK
    · rw [if_neg e] at hK
      refine ifd (fun e2 => ?_) (fun e2 => ?_)
      · rw [if_pos e2] at hK
        rw [hb5.2.1]
        refine ifc (nI_eq (b := 0) (by omega) (by decide)) (fun z => ?_) (fun z => ?_)
        · rw [z] at hK
          exact hK
        · rw [show S.1 16 bk = 1 by omega] at hK
          exact hK
      · rw [if_neg e2] at hK
        refine ifd (fun e3 => ?_) (fun e3 => ?_)
        · rw [if_pos e3] at hK
          rw [hb5.2.2.1]
          exact hK
        · rw [if_neg e3] at hK
          exact hK
  · rw [ixO_none g] at hK
    exact hK
theorem c_sure (hQ : KQ S kd q) (hV : RepV S μ) (hW : WF B S) {a : Int32} {K : Int32 → z_M → Prop} (hK : ∀ μ', sameV μ μ' → K (opSure S a) μ') : C_X11_sure kd q a μ K := by
  have h3 := hW.1
  unfold C_X11_sure
  unfold opSure at hK
  refine c_raceAt hQ hV.1 hW (fun r hr e => opt_s ?_) (fun g => opt_n ?_)
  · subst e
    rw [ixO_some hr (by omega)] at hK
    dsimp only at hK
    refine c_isSureNow hQ hV.to0 hW hr (fun e μ' hs => ?_) (fun e μ' hs => ?_)
    · rw [if_neg i10]
      rw [if_pos e] at hK
      exact hK μ' hs
    · rw [if_pos rfl]
      rw [if_neg (by rw [e]; decide)] at hK
      exact hK μ' hs
  · rw [ixO_none g] at hK
    exact hK μ (sameV_refl μ)
theorem c_stood (hQ : KQ S kd q) (hV : RepV S μ) (hW : WF B S) {a b : Int32} {K : Int32 → z_M → Prop} (hK : K (opStood S a b) μ) : C_X11_stood kd q a b μ K := by
  have h3 := hW.1
  unfold C_X11_stood
  unfold opStood at hK
  refine c_raceAt hQ hV.1 hW (fun r hr e => opt_s ?_) (fun g => opt_n ?_)
  · subst e
    rw [ixO_some hr (by omega)] at hK
    dsimp only at hK
    obtain ⟨s1, s2, s3, s4, _⟩ := (hV.2.1 r hr).2.2.2.2.2
    rw [s1, s2, s3, s4]
    cases e1 : ixO b 4 with
    | none =>
      rw [e1] at hK
      have hn := ixO_non e1 (by decide)
      rw [if_neg (show ¬ b = 0 from hn 0 (by decide)), if_neg (show ¬ b = 1 from hn 1 (by decide)), if_neg (show ¬ b = 2 from hn 2 (by decide)), if_neg (show ¬ b = 3 from hn 3 (by decide))]
      exact hK
    | some w =>
      obtain ⟨g1, g2⟩ := ixO_inv e1
      subst g2
      rw [e1] at hK
      dsimp only at hK
      refine ifc (nI_eq (b := 0) (by omega) (by decide)) (fun e => by rw [if_pos e] at hK; exact hK) (fun e => ?_)
      rw [if_neg e] at hK
      refine ifc (nI_eq (b := 1) (by omega) (by decide)) (fun e => by rw [if_pos e] at hK; exact hK) (fun e => ?_)
      rw [if_neg e] at hK
      refine ifc (nI_eq (b := 2) (by omega) (by decide)) (fun e => by rw [if_pos e] at hK; exact hK) (fun e => ?_)
      rw [if_neg e] at hK
      refine ifc (nI_eq (b := 3) (by omega) (by decide)) (fun e => hK) (fun e => by omega)
  · rw [ixO_none g] at hK
    exact hK
theorem c_runners {r : Nat} (hr : RvR0 S μ r) {K : Int32 → z_M → Prop} (hK : K (allI S r) μ) : C_X6_runners kd q (30 + 2 * r) μ K := by
  unfold C_X6_runners C_X6_all
  dsimp only
  rw [hr.1, hr.2.1]
  exact hK
theorem c_count (hQ : KQ S kd q) (hV : RepV S μ) (hW : WF B S) {a : Int32} {K : Int32 → z_M → Prop} (hK : K (opCount S a) μ) : C_X11_count kd q a μ K := by
  have h3 := hW.1
  obtain ⟨g1, g2, g3, g4, g5, _, g7, _⟩ := hV.1
  unfold C_X11_count
  rw [g1, g2, g3, g4, g5, g7]
  by_cases hneg : a < 0
  · have ne : ∀ j, j < 2 ^ 31 → a ≠ nI j := fun j hj e => by
      rw [e] at hneg
      exact absurd (nI_pos' hj) (Int32.not_le.mpr hneg)
    have non : ∀ d n, d + n < 2 ^ 31 → ixO (a - nI d) n = none := fun d n hd => by
      cases e : ixO (a - nI d) n with
      | none => rfl
      | some j =>
        obtain ⟨z1, z2⟩ := ix_sub e
        exact absurd z2 (ne _ (by omega))
    unfold opCount at hK
    rw [show a - 10 = a - nI 10 from rfl, non 10 _ (by omega), show a - 20 = a - nI 20 from rfl, non 20 _ (by omega), show a - 30 = a - nI 30 from rfl, non 30 _ (by omega)] at hK
    dsimp only at hK
    have n0 : ¬ a = 0 := ne 0 (by decide)
    have n1 : ¬ a = 1 := ne 1 (by decide)
    have n2 : ¬ a = 2 := ne 2 (by decide)
    have n3 : ¬ a = 3 := ne 3 (by decide)
    have n4 : ¬ a = 4 := ne 4 (by decide)
    have n5 : ¬ a = 5 := ne 5 (by decide)
    rw [if_neg n0, if_neg n1, if_neg n2, if_neg n3, if_neg n4, if_neg n5] at hK ⊢
    unfold C_X11_countOfOne L_X11_countOfOne_46
    rw [if_pos (Int32.lt_trans hneg (by decide)), if_pos (Int32.lt_trans hneg (by decide))]
    refine c_raceAt hQ hV.1 hW (fun r hr e => ?_) (fun _ => opt_n hK)
    have := (ix_sub (a := a) (d := 10) (n := S.1 0 3) (j := r) (by rw [show a - nI 10 = nI r from e]; exact ixO_some hr (by omega))).2
    exact absurd this (ne _ (by omega))
  · obtain ⟨k, hk, e⟩ := nI_of hneg
    subst e
    have small : k < 10 → opCount S (nI k) = if nI k = 0 then nI (S.1 0 2) else if nI k = 1 then nI (S.1 0 3) else if nI k = 2 then nI (S.1 0 4) else if nI k = 3 then nI (S.1 0 6) else if nI k = 4 then nI (S.1 0 5) else if nI k = 5 then nI (S.1 0 1) else -1 := fun h => by
      unfold opCount
      rw [show nI k - 10 = nI k - nI 10 from rfl, ix_sub_none hk (by omega) (Or.inl (by omega)), show nI k - 20 = nI k - nI 20 from rfl, ix_sub_none hk (by omega) (Or.inl (by omega)), show nI k - 30 = nI k - nI 30 from rfl, ix_sub_none hk (by omega) (Or.inl (by omega))]
    by_cases h6 : k < 6
    · rw [small (by omega)] at hK
      refine ifd (fun e => by rw [if_pos e] at hK; exact hK) (fun e => ?_)
      rw [if_neg e] at hK
      refine ifd (fun e => by rw [if_pos e] at hK; exact hK) (fun e => ?_)
      rw [if_neg e] at hK
      refine ifd (fun e => by rw [if_pos e] at hK; exact hK) (fun e => ?_)
      rw [if_neg e] at hK
      refine ifd (fun e => by rw [if_pos e] at hK; exact hK) (fun e => ?_)
      rw [if_neg e] at hK
      refine ifd (fun e => by rw [if_pos e] at hK; exact hK) (fun e => ?_)
      rw [if_neg e] at hK
      refine ifd (fun e => by rw [if_pos e] at hK; exact hK) (fun e => ?_)
      exfalso
      rcases (show k = 0 ∨ k = 1 ∨ k = 2 ∨ k = 3 ∨ k = 4 ∨ k = 5 by omega) with z | z | z | z | z | z <;> subst z <;> contradiction
    · have n0 : ¬ nI k = 0 := fun z => by have := (nI_eq (b := 0) hk (by decide)).mp z; omega
      have n1 : ¬ nI k = 1 := fun z => by have := (nI_eq (b := 1) hk (by decide)).mp z; omega
      have n2 : ¬ nI k = 2 := fun z => by have := (nI_eq (b := 2) hk (by decide)).mp z; omega
      have n3 : ¬ nI k = 3 := fun z => by have := (nI_eq (b := 3) hk (by decide)).mp z; omega
      have n4 : ¬ nI k = 4 := fun z => by have := (nI_eq (b := 4) hk (by decide)).mp z; omega
      have n5 : ¬ nI k = 5 := fun z => by have := (nI_eq (b := 5) hk (by decide)).mp z; omega
      unfold opCount at hK
      rw [if_neg n0, if_neg n1, if_neg n2, if_neg n3, if_neg n4, if_neg n5] at hK ⊢
      unfold C_X11_countOfOne L_X11_countOfOne_46
      refine ifc (nI_ltI (b := 30) hk (by decide)) (fun l30 => ifc (nI_ltI (b := 20) hk (by decide)) (fun l20 => ?_) (fun l20 => ?_)) (fun l30 => ?_)
      · rw [show nI k - 20 = nI k - nI 20 from rfl, ix_sub_none hk (by omega) (Or.inl (by omega)), show nI k - 30 = nI k - nI 30 from rfl, ix_sub_none hk (by omega) (Or.inl (by omega))] at hK
        refine c_raceAt hQ hV.1 hW (fun r hr e => opt_s ?_) (fun g => opt_n ?_)
        · rw [show nI k - 10 = nI r from e, ixO_some hr (by omega)] at hK
          refine ifc (nI_ltI (b := 20) hk (by decide)) (fun _ => c_runners (hV.to0.2.1 r hr) hK) (fun z => absurd l20 z)
        · rw [ixO_none g] at hK
          exact hK
      · rw [show nI k - 10 = nI k - nI 10 from rfl, ix_sub_none hk (by omega) (Or.inr (by omega)), show nI k - 30 = nI k - nI 30 from rfl, ix_sub_none hk (by omega) (Or.inl (by omega))] at hK
        refine c_raceAt hQ hV.1 hW (fun r hr e => opt_s ?_) (fun g => opt_n ?_)
        · have h4 := hW.2.2.1 r hr
          rw [show nI k - 20 = nI r from e, ixO_some hr (by omega)] at hK
          dsimp only at hK
          refine ifc (nI_ltI (b := 20) hk (by decide)) (fun z => absurd z l20) (fun _ => ?_)
          rw [(hV.2.1 r hr).2.2.1]
          refine ifc (nI_eq (b := 0) (by omega) (by decide)) (fun z => ?_) (fun z => ?_)
          · rw [z] at hK
            exact hK
          · rw [show S.1 12 r = 1 by omega] at hK
            exact hK
        · rw [ixO_none g] at hK
          exact hK
      · rw [show nI k - 10 = nI k - nI 10 from rfl, ix_sub_none hk (by omega) (Or.inr (by omega)), show nI k - 20 = nI k - nI 20 from rfl, ix_sub_none hk (by omega) (Or.inr (by omega))] at hK
        refine c_bookAt hQ hV.1 hW (fun b hb e => opt_s ?_) (fun g => opt_n ?_)
        · rw [show nI k - 30 = nI b from e, ixO_some hb (by omega)] at hK
          rw [((hV.2.2.1 b hb).2.2.2.2.2.2).1]
          exact hK
        · rw [ixO_none g] at hK
          exact hK
theorem c_has (hQ : KQ S kd q) (hV : RepV S μ) (hW : WF 80 S) {a b : Int32} {K : Int32 → z_M → Prop} (hK : K (opHas S a b) μ) : C_X11_has kd q a b μ K := by
  have h3 := hW.1
  unfold C_X11_has
  unfold opHas at hK
  refine c_betAt hQ hV.1 hW (fun i hi e => opt_s ?_) (fun g => opt_n ?_)
  · subst e
    have h7 := hW.2.2.2.2.2.2.1 i hi
    obtain ⟨_, _, _, _, t8, t9, t10⟩ := hV.2.2.2 i hi
    rw [ixO_some hi (by omega)] at hK
    dsimp only at hK
    refine le_dec (m := 1) (c := 1) (by decide) rfl (fun w hw e => ?_) (fun g => ?_) (fun g => ?_)
    · subst e
      rw [ixO_some (show w < 2 by omega) (by decide)] at hK
      dsimp only at hK
      rw [t8]
      refine ifc (nI_eq (b := 0) (by omega) (by decide)) (fun z => by rw [if_pos z] at hK; exact hK) (fun z => ?_)
      rw [if_neg z] at hK
      refine ifc (nI_eq (b := 0) (by omega) (by decide)) (fun z2 => ?_) (fun z2 => ?_)
      · rw [if_pos z2] at hK
        rw [t10 (by omega)]
        exact hK
      · rw [if_neg z2] at hK
        rw [t9]
        refine ifc (nI_eq (b := 0) (by omega) (by decide)) (fun z => ?_) (fun z => ?_)
        · rw [z] at hK
          exact hK
        · rw [show S.1 28 i = 1 by omega] at hK
          exact hK
    · rw [ixO_none g] at hK
      exact hK
    · rw [ixO_none g] at hK
      exact hK
  · rw [ixO_none g] at hK
    exact hK
theorem c_horseIn (hV : RepV0 S μ) {i r : Nat} (hi : i < S.1 0 6) (hr : r < 3) {K : Int32 → z_M → Prop} (hK : K (oI (S.2.1 25 (3 * i + r))) μ) : C_X0_horseIn kd q (100 + 3 * i) (nI r) μ K := by
  unfold C_X0_horseIn
  refine at_dec (N := 3) (n := 3) (Nat.le_refl _) (by decide) rfl (fun j hj e => ?_) (fun g => absurd rfl (g r hr)) (fun g => absurd rfl (g r hr))
  rw [nI_clamp (by omega), (hV.2.2.2 i hi).2.1 r hr]
  exact ⟨nI_vin hr (by decide), hK⟩
theorem c_stepIn (hV : RepV0 S μ) {i r : Nat} (hi : i < S.1 0 6) (hr : r < 3) (hl : S.2.1 25 (3 * i + r) ≠ none) {K : Int32 → z_M → Prop} (hK : K (nI (S.1 26 (3 * i + r))) μ) : C_X0_stepIn kd q (100 + 3 * i) (nI r) μ K := by
  unfold C_X0_stepIn
  refine at_dec (N := 3) (n := 3) (Nat.le_refl _) (by decide) rfl (fun j hj e => ?_) (fun g => absurd rfl (g r hr)) (fun g => absurd rfl (g r hr))
  rw [nI_clamp (by omega), (hV.2.2.2 i hi).2.2.1 r hr hl]
  exact ⟨nI_vin hr (by decide), hK⟩
theorem c_dedFrom (hQ : KQ S kd q) (hV : RepV0 S μ) (hW : WF 80 S) {i : Nat} (hi : i < S.1 0 6) (hk : S.1 22 i ≠ 3) {K : Int32 → z_M → Prop} (hK : K (nI (dedS S i (raceOfS S i))) μ) : C_X11_deductionFrom kd q (nI i) (some (100 + 3 * i)) μ K := by
  have h3 := hW.1
  have h7 := hW.2.2.2.2.2.2.1 i hi
  have hro := raceOfS_ok hW hi
  have hlg := wf_leg3 (by decide) hW hi hro.1 hro.2
  have ht := hV.2.2.2 i hi
  have h4 := hW.2.2.1 _ hlg.1
  have hRr := hV.2.1 _ hlg.1
  have hBb := hV.2.2.1 _ h7.2.1
  unfold C_X11_deductionFrom
  refine ⟨_, rfl, ?_⟩
  rw [ht.2.2.2.2 hk]
  refine c_raceN hQ hV.1 hW hlg.1 ?_
  rw [ht.1.2.1]
  refine c_bookN hQ hV.1 hW h7.2.1 (opt_s (opt_s ?_))
  have bd := dedT_le hW i (raceOfS S i)
  unfold L_X11_deductionFrom_36
  intro P hP
  have go := downTo (Q := fun n => P (nI i) (100 + 3 * i) (30 + 2 * raceOfS S i) (40 + 8 * S.1 21 i) (nI (dedT S i (raceOfS S i) n)) (nI n) μ) (S.1 10 (raceOfS S i)) ?_ (fun n hn ih => ?_) 0 (Nat.zero_le _)
  · exact go
  · refine hP _ _ _ _ _ _ _ ?_
    unfold B_X11_deductionFrom_36
    rw [hRr.1]
    refine ifc (nI_leI (by omega) (by omega)) (fun _ => ?_) (fun g => absurd (Nat.le_refl _) g)
    have b9 := bd (S.1 10 (raceOfS S i))
    unfold dedS at hK
    unfold z_min
    by_cases g : dedT S i (raceOfS S i) (S.1 10 (raceOfS S i)) ≤ 75
    · rw [if_pos g] at hK
      rw [if_neg (fun z => by have := (nI_ltI (a := 75) (by decide) (by omega)).mp z; omega)]
      exact hK
    · rw [if_neg g] at hK
      rw [if_pos (show (75 : Int32) < nI (dedT S i (raceOfS S i) (S.1 10 (raceOfS S i))) from (nI_ltI (a := 75) (by decide) (by omega)).mpr (by omega))]
      exact hK
  · refine hP _ _ _ _ _ _ _ ?_
    unfold B_X11_deductionFrom_36
    rw [hRr.1]
    refine ifc (nI_leI (by omega) (by omega)) (fun g => absurd g (by omega)) (fun _ => ?_)
    have b9 := bd n
    have ed : dedT S i (raceOfS S i) (n + 1) = dedT S i (raceOfS S i) n + (if S.2.1 25 (3 * i + raceOfS S i) = some n then 0 else if (S.1 11 (raceOfS S i)).testBit n = true then (if i < S.1 18 (8 * raceOfS S i + n) then (match S.2.1 19 (24 * S.1 21 i + 8 * raceOfS S i + n) with
      | none => 0
      | some s => 5 * (20 * S.1 9 s / (S.1 8 s + S.1 9 s))) else 0) else 0) := rfl
    rw [ed, ← nI_1] at ih
    rw [ht.2.2.2.2 hk]
    refine c_horseIn hV hi hro.1 ?_
    refine ifc ((eq_comm).trans (oI_inj (b := some n) (fun m e => by rw [hro.2] at e; cases e; omega) (fun m e => by cases e; omega))) (fun e1 => ?_) (fun e1 => ?_)
    · rw [if_pos e1, Nat.add_zero] at ih
      exact ih
    · rw [if_neg e1] at ih
      unfold C_X6_wentBehind
      refine c_isGone hRr h4.2.1 h4.2.2.1 hn (fun e2 => ?_) (fun e2 => ?_)
      · rw [if_pos e2] at ih
        have h18 := hW.2.2.2.2.2.2.2.1 (raceOfS S i) n hlg.1 e2
        rw [if_neg i10, nI_clamp (by omega), hRr.2.2.2.2 n e2]
        refine ⟨nI_vin (by omega) (by decide), ifc (nI_leI (by omega) (by omega)) (fun e3 => ?_) (fun e3 => ?_)⟩
        · rw [if_neg (by omega), Nat.add_zero] at ih
          rw [if_pos rfl]
          exact ih
        · rw [if_pos (by omega)] at ih
          rw [if_neg i10, ht.2.2.2.2 hk]
          refine c_spot ?_
          rw [nI_clamp (by omega), hBb.2.2.2.2.1 _ n hlg.1 e2]
          refine ⟨nI_vin (by omega) (by decide), ?_⟩
          cases es : S.2.1 19 (24 * S.1 21 i + 8 * raceOfS S i + n) with
          | none =>
            rw [es] at ih
            dsimp only at ih
            rw [Nat.add_zero] at ih
            rw [if_pos oI_none]
            exact ih
          | some s =>
            rw [es] at ih
            dsimp only at ih
            have hs5 := hW.2.2.2.2.2.1 (S.1 21 i) (raceOfS S i) n s (by omega) hlg.1 e2 es
            have h5 := hW.2.1 s hs5
            rw [if_neg (show ¬ oI (some s) = -1 from nI_ne_m1 (by omega)), oI_some]
            refine c_bOf hV.1 hW hs5 (c_wholeOf hV.1 hW hs5 ⟨fun z => ?_, ?_⟩)
            · have := (nI_eq (b := 0) (by omega) (by decide)).mp z
              omega
            · have d1 := Nat.div_le_self (100 * S.1 9 s) (S.1 8 s + S.1 9 s)
              have d2 := Nat.div_le_self (100 * S.1 9 s / (S.1 8 s + S.1 9 s)) 5
              rw [show (100 : Int32) = nI 100 from rfl, nI_mul, pk_div (by omega) (by omega) (by omega), show (5 : Int32) = nI 5 from rfl, pk_div (by omega) (by decide) (by decide), nI_mul, ded5 (by omega), nI_add]
              exact ih
      · rw [if_neg (by rw [e2]; decide), Nat.add_zero] at ih
        rw [if_pos rfl]
        dsimp only
        rw [if_pos rfl]
        exact ih
theorem c_deduction (hQ : KQ S kd q) (hV : RepV S μ) (hW : WF 80 S) {a : Int32} {K : Int32 → z_M → Prop} (hK : K (opDeduction S a) μ) : C_X11_deduction kd q a μ K := by
  have h3 := hW.1
  unfold C_X11_deduction
  unfold opDeduction at hK
  refine c_betAt hQ hV.1 hW (fun i hi e => opt_s ?_) (fun g => opt_n ?_)
  · subst e
    have h7 := hW.2.2.2.2.2.2.1 i hi
    rw [ixO_some hi (by omega)] at hK
    dsimp only at hK
    rw [(hV.2.2.2 i hi).1.2.2.1]
    refine ifc (nI_eq (b := 3) (by omega) (by decide)) (fun z => by rw [if_pos z] at hK; exact hK) (fun z => ?_)
    rw [if_neg z] at hK
    exact c_dedFrom hQ hV.to0 hW hi z hK
  · rw [ixO_none g] at hK
    exact hK
end CL3
