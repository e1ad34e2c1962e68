/-! The class: bits counted, now, scratch. -/
theorem bc_use {x v : Int32} {μ m0 : z_M} (h : C_J6_bitCount_0f7a4 x m0 (fun r _ => r = v)) {K : Int32 → z_M → Prop} (hk : K v μ) : C_J6_bitCount_0f7a4 x μ K := by
  unfold C_J6_bitCount_0f7a4 at h ⊢
  rw [h]
  exact hk
def z_m00 : z_M := (fun _ _ => 0, fun _ _ => 0)
theorem bc256 : ∀ m : Fin 256, C_J6_bitCount_0f7a4 (nI m) z_m00 (fun r _ => r = nI (popN m)) := by
  unfold C_J6_bitCount_0f7a4
  decide +kernel
theorem pop_left : ∀ n : Fin 9, ∀ g : Fin 256, popN ((2 ^ n.val - 1) &&& (255 ^^^ g.val)) = sumN n.val (fun h => if g.val.testBit h = true then 0 else 1) := by decide +kernel
theorem and_lt256 : ∀ n : Fin 9, ∀ g : Fin 256, (2 ^ n.val - 1) &&& (255 ^^^ g.val) < 256 := by decide +kernel
theorem statB_row (f : Nat → Bool) : ∀ t, (statB f t).2.2.2.1 = 0 ∨ ∃ n, (statB f t).2.2.1 = some n ∧ n + 1 = t := by
  intro t
  induction t with
  | zero => exact Or.inl rfl
  | succ t ih =>
    unfold statB
    split
    · exact Or.inr ⟨t, rfl, rfl⟩
    · exact Or.inl rfl
theorem statB_no {f : Nat → Bool} {t : Nat} : ∀ d, (∀ s, t ≤ s → s < t + d → f s = false) → statB f (t + d) = ((statB f t).1, (statB f t).2.1, (statB f t).2.2.1, if d = 0 then (statB f t).2.2.2.1 else 0, (statB f t).2.2.2.2) := by
  intro d
  induction d with
  | zero => intro _; rfl
  | succ d ih =>
    intro h
    have e : statB f (t + (d + 1)) = (if f (t + d) = true then ((statB f (t + d)).1 + 1, (match (statB f (t + d)).2.1 with
      | none => some (t + d)
      | some x => some x), some (t + d), (statB f (t + d)).2.2.2.1 + 1, Nat.max (statB f (t + d)).2.2.2.2 ((statB f (t + d)).2.2.2.1 + 1)) else ((statB f (t + d)).1, (statB f (t + d)).2.1, (statB f (t + d)).2.2.1, 0, (statB f (t + d)).2.2.2.2)) := rfl
    rw [e, if_neg (by rw [h (t + d) (by omega) (by omega)]; decide), ih fun s h1 h2 => h s h1 (by omega), if_neg (Nat.succ_ne_zero d)]
theorem statB_yes {f : Nat → Bool} {t : Nat} : ∀ d, (∀ s, t ≤ s → s < t + d + 1 → f s = true) → statB f (t + d + 1) = ((statB f t).1 + (d + 1), some ((statB f t).2.1.getD t), some (t + d), (statB f t).2.2.2.1 + (d + 1), Nat.max (statB f t).2.2.2.2 ((statB f t).2.2.2.1 + (d + 1))) := by
  intro d
  have e : ∀ x, statB f (x + 1) = (if f x = true then ((statB f x).1 + 1, (match (statB f x).2.1 with
      | none => some x
      | some x => some x), some x, (statB f x).2.2.2.1 + 1, Nat.max (statB f x).2.2.2.2 ((statB f x).2.2.2.1 + 1)) else ((statB f x).1, (statB f x).2.1, (statB f x).2.2.1, 0, (statB f x).2.2.2.2)) := fun _ => rfl
  induction d with
  | zero =>
    intro h
    rw [Nat.add_zero, e, if_pos (h t (Nat.le_refl _) (by omega))]
    cases (statB f t).2.1 <;> rfl
  | succ d ih =>
    intro h
    rw [show t + (d + 1) + 1 = (t + d + 1) + 1 by omega, e, if_pos (h (t + d + 1) (by omega) (by omega)), ih fun s h1 h2 => h s h1 (by omega)]
    dsimp only
    refine Prod.ext (by show _ + 1 = _; omega) (Prod.ext rfl (Prod.ext rfl (Prod.ext (by show _ + (d + 1) + 1 = _ + (d + 1 + 1); omega) ?_)))
    show Nat.max (Nat.max _ _) _ = Nat.max _ _
    generalize (statB f t).2.2.2.2 = a
    generalize (statB f t).2.2.2.1 = b
    show max (max a (b + (d + 1))) (b + (d + 1) + 1) = max a (b + (d + 1 + 1))
    omega
section CNOW
variable {B : Nat} {S S' : z_SS} {μ μ' : z_M} {kd : z_K} {q : z_Q}
theorem c_left (hW : WF B S) {r : Nat} (hr3 : r < S.1 0 3) (hr : RvR0 S μ r) {K : Int32 → z_M → Prop} (hK : K (nI (leftS S r)) μ) : C_X6_left kd q (30 + 2 * r) μ K := by
  have h4 := hW.2.2.1 r hr3
  have p := pop_left ⟨S.1 10 r, by omega⟩ ⟨S.1 11 r, h4.2.2.1⟩
  have l := and_lt256 ⟨S.1 10 r, by omega⟩ ⟨S.1 11 r, h4.2.2.1⟩
  dsimp only at p l
  unfold C_X6_left
  refine c_runners hr ?_
  unfold allI
  rw [show (((1 : Int32) <<< (nI (S.1 10 r) &&& 31)) - 1) &&& (nI (S.1 11 r) ^^^ -1) = nI ((2 ^ S.1 10 r - 1) &&& (255 ^^^ S.1 11 r)) from allI_eq ⟨S.1 10 r, by omega⟩ ⟨S.1 11 r, h4.2.2.1⟩]
  refine bc_use (bc256 ⟨_, l⟩) ?_
  show K (nI (popN ((2 ^ S.1 10 r - 1) &&& (255 ^^^ S.1 11 r)))) μ
  rw [p]
  exact hK
theorem zmax_n {a b : Nat} (ha : a < 2 ^ 31) (hb : b < 2 ^ 31) : z_max (nI a) (nI b) = nI (Nat.max a b) := by
  unfold z_max
  show _ = nI (max a b)
  by_cases g : a < b
  · rw [if_pos ((nI_ltI ha hb).mpr g), Nat.max_eq_right (by omega)]
  · rw [if_neg (fun z => g ((nI_ltI ha hb).mp z)), Nat.max_eq_left (by omega)]
theorem c_endSure {r t : Nat} (h : RvSt S μ r) (h1 : S.1 0 2 < t) (h2 : t < 600) {K : z_M → Prop} (hK : ∀ μ', (∀ c k, (c ≠ 30 + 2 * r ∨ k < 6) → μ'.1 c k = μ.1 c k) → μ'.1 (30 + 2 * r) 6 = nI ((statB (wasB S r) (S.1 0 2)).1 + (t - S.1 0 2)) → μ'.1 (30 + 2 * r) 7 = oI (some ((statB (wasB S r) (S.1 0 2)).2.1.getD (S.1 0 2))) → μ'.1 (30 + 2 * r) 8 = oI (some (t - 1)) → μ'.1 (30 + 2 * r) 9 = nI ((statB (wasB S r) (S.1 0 2)).2.2.2.1 + (t - S.1 0 2)) → μ'.1 (30 + 2 * r) 10 = nI (Nat.max (statB (wasB S r) (S.1 0 2)).2.2.2.2 ((statB (wasB S r) (S.1 0 2)).2.2.2.1 + (t - S.1 0 2))) → K μ') : C_X6_endSure kd q (30 + 2 * r) (nI (S.1 0 2)) (nI t - 1) μ K := by
  have hbd := statB_bd (wasB S r) (S.1 0 2)
  have hrow := statB_row (wasB S r) (S.1 0 2)
  obtain ⟨s6, s7, s8, s10, s9⟩ := h
  generalize (statB (wasB S r) (S.1 0 2)) = st at s6 s7 s8 s10 s9 hbd hrow hK
  obtain ⟨n, fi, la, row, mo⟩ := st
  dsimp only at s6 s7 s8 s10 s9 hbd hrow hK
  obtain ⟨b1, b2, b3, b4, b5⟩ := hbd
  have e1 : nI t - 1 = nI (t - 1) := pk_sub (b := 1) (by omega)
  have e2 : (nI (t - 1) - nI (S.1 0 2)) + 1 = nI (t - S.1 0 2) := by
    rw [pk_sub (by omega), nI_1]
    congr 1
    omega
  have core : ∀ rw0 : Nat, rw0 = row + (t - S.1 0 2) → L_X6_endSure_35 kd q K (30 + 2 * r) (nI (S.1 0 2)) (nI (t - 1)) (nI (t - S.1 0 2)) (nI rw0) (30 + 2 * r) μ := fun rw0 er => by
    subst er
    unfold L_X6_endSure_35
    generalize hm : si (si (si μ (30 + 2 * r) 9 (nI (row + (t - S.1 0 2)))) (30 + 2 * r) 10 (z_max ((si μ (30 + 2 * r) 9 (nI (row + (t - S.1 0 2)))).1 (30 + 2 * r) 10) ((si μ (30 + 2 * r) 9 (nI (row + (t - S.1 0 2)))).1 (30 + 2 * r) 9))) (30 + 2 * r) 6 (((si (si μ (30 + 2 * r) 9 (nI (row + (t - S.1 0 2)))) (30 + 2 * r) 10 (z_max ((si μ (30 + 2 * r) 9 (nI (row + (t - S.1 0 2)))).1 (30 + 2 * r) 10) ((si μ (30 + 2 * r) 9 (nI (row + (t - S.1 0 2)))).1 (30 + 2 * r) 9))).1 (30 + 2 * r) 6) + nI (t - S.1 0 2)) = m
    have m10 : m.1 (30 + 2 * r) 10 = nI (Nat.max mo (row + (t - S.1 0 2))) := by
      rw [← hm, si1, if_neg (by omega), si1, if_pos ⟨rfl, rfl⟩, si1, if_neg (by omega), si1, if_pos ⟨rfl, rfl⟩, s10, zmax_n (by omega) (by omega)]
    have m9 : m.1 (30 + 2 * r) 9 = nI (row + (t - S.1 0 2)) := by
      rw [← hm, si1, if_neg (by omega), si1, if_neg (by omega), si1, if_pos ⟨rfl, rfl⟩]
    have m6 : m.1 (30 + 2 * r) 6 = nI (n + (t - S.1 0 2)) := by
      rw [← hm, si1, if_pos ⟨rfl, rfl⟩, si1, if_neg (by omega), si1, if_neg (by omega), s6, nI_add]
    have m7 : m.1 (30 + 2 * r) 7 = oI fi := by
      rw [← hm, si1, if_neg (by omega), si1, if_neg (by omega), si1, if_neg (by omega), s7]
    have mo : ∀ c k, (c ≠ 30 + 2 * r ∨ k < 6) → m.1 c k = μ.1 c k := fun c k hc => by
      rw [← hm, si1, if_neg (by omega), si1, if_neg (by omega), si1, if_neg (by omega)]
    rw [m7]
    refine ifc (oI_eq_m1 (fun x hx => by have := b2 x hx; omega)) (fun ef => ?_) (fun ef => ?_)
    · rw [ef] at hK
      refine hK _ (fun c k hc => by rw [si1, if_neg (by omega), si1, if_neg (by omega)]; exact mo c k hc) ?_ ?_ ?_ ?_ ?_
      · rw [si1, if_neg (by omega), si1, if_neg (by omega)]; exact m6
      · rw [si1, if_neg (by omega), si1, if_pos ⟨rfl, rfl⟩]; rfl
      · rw [si1, if_pos ⟨rfl, rfl⟩]; rfl
      · rw [si1, if_neg (by omega), si1, if_neg (by omega)]; exact m9
      · rw [si1, if_neg (by omega), si1, if_neg (by omega)]; exact m10
    · obtain ⟨x, hx⟩ := Option.ne_none_iff_exists'.mp ef
      rw [hx] at hK m7
      refine hK _ (fun c k hc => by rw [si1, if_neg (by omega)]; exact mo c k hc) ?_ ?_ ?_ ?_ ?_
      · rw [si1, if_neg (by omega)]; exact m6
      · rw [si1, if_neg (by omega)]; exact m7
      · rw [si1, if_pos ⟨rfl, rfl⟩]; rfl
      · rw [si1, if_neg (by omega)]; exact m9
      · rw [si1, if_neg (by omega)]; exact m10
  unfold C_X6_endSure L_X6_endSure_34
  rw [s8, e1, e2]
  refine ifc (oI_eq_m1 (fun x hx => by have := b3 x hx; omega)) (fun el => ?_) (fun el => ?_)
  · refine core _ ?_
    rcases hrow with z | ⟨x, z, _⟩
    · omega
    · rw [el] at z
      cases z
  · obtain ⟨x, hx⟩ := Option.ne_none_iff_exists'.mp el
    have hxb := b3 x hx
    have e3 : nI (S.1 0 2) - 1 = nI (S.1 0 2 - 1) := pk_sub (b := 1) (by omega)
    rw [hx, oI_some, e3]
    refine ifc (nI_eq (by omega) (by omega)) (fun g => ?_) (fun g => ?_)
    · rw [s9 x hx (by omega), nI_add]
      exact core _ rfl
    · refine core _ ?_
      rcases hrow with z | ⟨y, z, z2⟩
      · omega
      · rw [hx] at z
        cases z
        omega
/-- the seconds of a race marked: all other parts as before -/
theorem c_now (hQ : KQ S kd q) (hV : RepV S μ) (hW : WF B S) {a : Int32} {K : Int32 → z_M → Prop} (hK : ∀ μ', RepV (opNow S a).2 μ' → K (opNow S a).1 μ') : C_X11_now kd q a μ K := by
  have h3 := hW.1
  unfold C_X11_now
  unfold opNow at hK
  have g1 := hV.1.1
  by_cases hlo : a < nI (S.1 0 2)
  · rw [g1, if_pos hlo]
    cases e1 : ixO a 600 with
    | none => rw [e1] at hK; exact hK μ hV
    | some t =>
      obtain ⟨z1, z2⟩ := ixO_inv e1
      rw [e1] at hK
      dsimp only at hK
      rw [z2] at hlo
      rw [if_pos ((nI_ltI (by omega) (by omega)).mp hlo)] at hK
      exact hK μ hV
  · rw [g1, if_neg hlo]
    have hneg : ¬ a < 0 := fun z => hlo (Int32.lt_of_lt_of_le z (nI_pos' (by omega)))
    obtain ⟨t, ht, e⟩ := nI_of hneg
    subst e
    have hge : S.1 0 2 ≤ t := Nat.le_of_not_lt fun z => hlo ((nI_ltI ht (by omega)).mpr z)
    refine ifc (nI_ltI (b := 600) ht (by decide)) (fun h6 => ?_) (fun h6 => ?_)
    · rw [ixO_some h6 (by decide)] at hK
      dsimp only at hK
      rw [if_neg (by omega)] at hK
      have m1 : ∀ c k, c ≠ 60 → (c ≠ 0 ∨ k ≠ 2) → (setN (markS S (S.1 0 3) (S.1 0 2) t) 0 2 t).1 c k = S.1 c k := fun c k h1 h2 => by
        rw [setN_1, if_neg (by omega), markS_1, if_neg (fun z => h1 z.1)]
      have m02 : (setN (markS S (S.1 0 3) (S.1 0 2) t) 0 2 t).1 0 2 = t := by rw [setN_1, if_pos ⟨rfl, rfl⟩]
      have m60 : ∀ r s, r < S.1 0 3 → s < 600 → (setN (markS S (S.1 0 3) (S.1 0 2) t) 0 2 t).1 60 (600 * r + s) = if S.1 0 2 ≤ s ∧ s < t then b2n (sureS S r) else S.1 60 (600 * r + s) := fun r s hr hs => by
        have d1 : (600 * r + s) / 600 = r := by omega
        have d2 : (600 * r + s) % 600 = s := by omega
        rw [setN_1, if_neg (by omega), markS_1, d1, d2]
        by_cases g : S.1 0 2 ≤ s ∧ s < t
        · rw [if_pos ⟨rfl, Or.inl ⟨hr, g⟩⟩, if_pos g]
        · rw [if_neg (by omega), if_neg g]
      have mw : (setN (markS S (S.1 0 3) (S.1 0 2) t) 0 2 t).2 = S.2 := rfl
      generalize hS' : setN (markS S (S.1 0 3) (S.1 0 2) t) 0 2 t = S' at hK m1 m02 m60 mw
      have was : ∀ r s, r < S.1 0 3 → s < t → wasB S' r s = if S.1 0 2 ≤ s then sureS S r else wasB S r s := fun r s hr hs => by
        unfold wasB
        rw [m60 r s hr (by omega)]
        by_cases g : S.1 0 2 ≤ s
        · rw [if_pos ⟨g, hs⟩, if_pos g]
          cases sureS S r <;> rfl
        · rw [if_neg (fun z => g z.1), if_neg g]
      have same0 : ∀ r, r < S.1 0 3 → statB (wasB S' r) (S.1 0 2) = statB (wasB S r) (S.1 0 2) := fun r hr => statB_eq _ fun s hs => by
        rw [was r s hr (by omega), if_neg (by omega)]
      -- what is due of a race
      have stNo : ∀ r (m : z_M), r < S.1 0 3 → (S.1 0 2 = t ∨ sureS S r = false) → RvSt S m r → RvSt S' m r := fun r m hr hs h => by
        have hbd := statB_bd (wasB S r) (S.1 0 2)
        have e := statB_no (f := wasB S' r) (t := S.1 0 2) (t - S.1 0 2) (fun s h1 h2 => by
          rcases hs with z | z
          · omega
          · rw [was r s hr (by omega), if_pos h1]
            exact z)
        rw [show S.1 0 2 + (t - S.1 0 2) = t by omega, same0 r hr] at e
        unfold RvSt at h ⊢
        rw [m02, e]
        obtain ⟨s6, s7, s8, s10, s9⟩ := h
        refine ⟨s6, s7, s8, s10, fun x hx hx2 => ?_⟩
        have hx1 : (statB (wasB S r) (S.1 0 2)).2.2.1 = some x := hx
        have := hbd.2.2.1 x hx1
        show m.1 (30 + 2 * r) 9 = nI (if t - S.1 0 2 = 0 then (statB (wasB S r) (S.1 0 2)).2.2.2.1 else 0)
        rw [if_pos (by omega)]
        exact s9 x hx1 (by omega)
      have stYes : ∀ r (m : z_M), r < S.1 0 3 → S.1 0 2 < t → sureS S r = true → m.1 (30 + 2 * r) 6 = nI ((statB (wasB S r) (S.1 0 2)).1 + (t - S.1 0 2)) → m.1 (30 + 2 * r) 7 = oI (some ((statB (wasB S r) (S.1 0 2)).2.1.getD (S.1 0 2))) → m.1 (30 + 2 * r) 8 = oI (some (t - 1)) → m.1 (30 + 2 * r) 9 = nI ((statB (wasB S r) (S.1 0 2)).2.2.2.1 + (t - S.1 0 2)) → m.1 (30 + 2 * r) 10 = nI (Nat.max (statB (wasB S r) (S.1 0 2)).2.2.2.2 ((statB (wasB S r) (S.1 0 2)).2.2.2.1 + (t - S.1 0 2))) → RvSt S' m r := fun r m hr hlt hs s6 s7 s8 s9 s10 => by
        have e := statB_yes (f := wasB S' r) (t := S.1 0 2) (t - S.1 0 2 - 1) (fun s h1 h2 => by
          rw [was r s hr (by omega), if_pos h1]
          exact hs)
        rw [show S.1 0 2 + (t - S.1 0 2 - 1) + 1 = t by omega, same0 r hr, show t - S.1 0 2 - 1 + 1 = t - S.1 0 2 by omega, show S.1 0 2 + (t - S.1 0 2 - 1) = t - 1 by omega] at e
        unfold RvSt
        rw [m02, e]
        exact ⟨s6, s7, s8, s10, fun _ _ _ => s9⟩
      unfold L_X11_now_19
      intro P hP
      have key : ∀ n, n ≤ S.1 0 3 → ∀ m : z_M, (∀ c k, (c < 9 ∨ 22 < c) → (∀ r, r < 3 → c ≠ 30 + 2 * r ∨ k < 6) → m.1 c k = μ.1 c k) → (∀ r, r < n → RvSt S' m r) → (∀ r, n ≤ r → r < S.1 0 3 → RvSt S m r) → P (nI t) (nI n) m := by
        refine downTo (S.1 0 3) ?_ (fun n hn ih => ?_)
        · intro m q1 q2 q3
          refine hP _ _ _ ?_
          unfold B_X11_now_19
          rw [q1 0 13 (by omega) (fun r _ => by omega), hV.1.2.1]
          refine ifc (nI_leI (by omega) (by omega)) (fun _ => hK _ ?_) (fun g => absurd (Nat.le_refl _) g)
          have bs : btSame S S' := ⟨m1 0 6 (by decide) (by omega), fun i hi => ⟨fun c c1 c2 => m1 c i (by omega) (by omega), fun r _ => by rw [mw], fun r _ _ => m1 26 _ (by decide) (by omega)⟩, fun s => ⟨m1 8 s (by decide) (by omega), m1 9 s (by decide) (by omega)⟩⟩
          have mm : ∀ c k, (c < 9 ∨ 22 < c) → (∀ r, r < 3 → c ≠ 30 + 2 * r ∨ k < 6) → (c ≠ 0 ∨ k ≠ 12) → (si m 0 12 (nI t)).1 c k = μ.1 c k := fun c k c1 c2 c3 => by
            rw [si1, if_neg (by omega)]
            exact q1 c k c1 c2
          have g0 := fun k (hk : k ≠ 12) => mm 0 k (by omega) (fun r _ => by omega) (by omega)
          obtain ⟨v1, v2, v3, v4, v5, v6, v7, v8⟩ := hV.1
          refine ⟨⟨by rw [si1, if_pos ⟨rfl, rfl⟩, m02], by rw [g0 13 (by decide), m1 0 3 (by decide) (by omega)]; exact v2, by rw [g0 14 (by decide), m1 0 4 (by decide) (by omega)]; exact v3, by rw [g0 15 (by decide), m1 0 6 (by decide) (by omega)]; exact v4, by rw [mm 1 1 (by omega) (fun r _ => by omega) (by omega), m1 0 1 (by decide) (by omega)]; exact v5, fun k hk => by rw [mm 2 k (by omega) (fun r _ => by omega) (by omega), m1 1 k (by decide) (by omega)]; exact v6 k hk, by rw [mm 3 2 (by omega) (fun r _ => by omega) (by omega), m1 0 5 (by decide) (by omega)]; exact v7, fun s hs => ?_⟩, fun r hr => ?_, fun b hb => ?_, fun i hi => ?_⟩
          · rw [m1 0 5 (by decide) (by omega)] at hs
            rw [mm 4 s (by omega) (fun r _ => by omega) (by omega), mm 5 s (by omega) (fun r _ => by omega) (by omega), m1 8 s (by decide) (by omega), m1 9 s (by decide) (by omega)]
            exact v8 s hs
          · rw [m1 0 3 (by decide) (by omega)] at hr
            have hr0 := RvR0_same (hV.2.1 r hr).to0 (μ' := si m 0 12 (nI t)) fun c k c1 c2 c3 => mm c k (by omega) (fun r' hr' => by omega) (by omega)
            obtain ⟨a1, a2, a3, a4, a5⟩ := hr0
            have hst : RvSt S' (si m 0 12 (nI t)) r := by
              have := q2 r hr
              unfold RvSt at this ⊢
              rw [si1, if_neg (by omega), si1, if_neg (by omega), si1, if_neg (by omega), si1, if_neg (by omega), si1, if_neg (by omega)]
              exact this
            refine ⟨by rw [m1 10 r (by decide) (by omega)]; exact a1, by rw [m1 11 r (by decide) (by omega)]; exact a2, by rw [m1 12 r (by decide) (by omega)]; exact a3, fun e => ?_, fun x hx => ?_, hst⟩
            · rw [m1 12 r (by decide) (by omega)] at e
              rw [m1 13 r (by decide) (by omega), m1 14 r (by decide) (by omega)]
              exact a4 e
            · rw [m1 11 r (by decide) (by omega)] at hx
              rw [m1 18 _ (by decide) (by omega)]
              exact a5 x hx
          · rw [m1 0 4 (by decide) (by omega)] at hb
            obtain ⟨b0, b1, b2, b3, b4, b5, b6⟩ := RvB_same (hV.2.2.1 b hb) (μ' := si m 0 12 (nI t)) fun c k c1 c2 => mm c k (by omega) (fun r _ => by omega) (by omega)
            refine ⟨by rw [m1 15 b (by decide) (by omega)]; exact b0, by rw [m1 16 b (by decide) (by omega)]; exact b1, by rw [betsOf_eq bs]; exact b2, fun k hk => by rw [mw]; exact b3 k hk, fun r x hr hx => ?_, RvO_keep b5 bs (m1 0 3 (by decide) (by omega)) (fun r _ => m1 10 r (by decide) (by omega)) (fun r _ => m1 11 r (by decide) (by omega)), TxB_keep b6 (by rw [mw])⟩
            rw [m1 0 3 (by decide) (by omega)] at hr
            rw [m1 11 r (by decide) (by omega)] at hx
            rw [mw]
            exact b4 r x hr hx
          · rw [m1 0 6 (by decide) (by omega)] at hi
            exact RvT_keep (RvT_same (hV.2.2.2 i hi) fun c k c1 c2 => mm c k (by omega) (fun r _ => by omega) (by omega)) (fun c c1 c2 => m1 c i (by omega) (by omega)) (m1 27 i (by decide) (by omega)) (m1 28 i (by decide) (by omega)) (fun r _ => by rw [mw]) (fun r _ _ => m1 26 _ (by decide) (by omega)) (fun _ => backS_eq hW hi (bk_of bs hi (fun r _ => ⟨m1 10 r (by decide) (by omega), m1 11 r (by decide) (by omega), m1 13 r (by decide) (by omega), m1 14 r (by decide) (by omega)⟩) (fun k => m1 18 k (by decide) (by omega)) (fun k => by rw [mw])))
        · intro m q1 q2 q3
          have hV0 : RepV0 S m := by
            refine ⟨RvG_same hV.1 fun c k hc => q1 c k (by omega) (fun r _ => by omega), fun r hr => RvR0_same (hV.2.1 r hr).to0 fun c k c1 c2 c3 => q1 c k (by omega) (fun r' hr' => by omega), fun b hb => RvB_same (hV.2.2.1 b hb) fun c k c1 c2 => q1 c k (by omega) (fun r _ => by omega), fun i hi => RvT0_same (hV.2.2.2 i hi).to0 fun c k c1 c2 _ => q1 c k (by omega) (fun r _ => by omega)⟩
          have g1' := hV0.1.1
          refine hP _ _ _ ?_
          unfold B_X11_now_19
          rw [hV0.1.2.1]
          refine ifc (nI_leI (by omega) (by omega)) (fun g => absurd g (by omega)) (fun _ => ?_)
          refine c_raceN hQ hV0.1 hW hn (opt_s ?_)
          have nxt : ∀ m' : z_M, (∀ c k, (c < 9 ∨ 22 < c) → (c ≠ 30 + 2 * n ∨ k < 6) → m'.1 c k = m.1 c k) → RvSt S' m' n → P (nI t) (nI n + 1) m' := fun m' h1 h2 => by
            rw [nI_1]
            refine ih m' (fun c k c1 c2 => (h1 c k c1 (c2 n (by omega))).trans (q1 c k c1 c2)) (fun r hr => ?_) (fun r hr1 hr2 => ?_)
            · by_cases e : r = n
              · rw [e]
                exact h2
              · have := q2 r (by omega)
                unfold RvSt at this ⊢
                rw [h1 _ 6 (by omega) (by omega), h1 _ 7 (by omega) (by omega), h1 _ 8 (by omega) (by omega), h1 _ 10 (by omega) (by omega), h1 _ 9 (by omega) (by omega)]
                exact this
            · have := q3 r (by omega) hr2
              unfold RvSt at this ⊢
              rw [h1 _ 6 (by omega) (by omega), h1 _ 7 (by omega) (by omega), h1 _ 8 (by omega) (by omega), h1 _ 10 (by omega) (by omega), h1 _ 9 (by omega) (by omega)]
              exact this
          rw [g1']
          refine ifc (nI_leI (by omega) (by omega)) (fun z => nxt m (fun _ _ _ _ => rfl) (stNo n m hn (Or.inl (by omega)) (q3 n (Nat.le_refl _) hn))) (fun z => ?_)
          have stm : ∀ m' : z_M, sameV m m' → RvSt S m' n := fun m' hs => by
            have := q3 n (Nat.le_refl _) hn
            unfold RvSt at this ⊢
            rw [hs _ 6 (by omega), hs _ 7 (by omega), hs _ 8 (by omega), hs _ 10 (by omega), hs _ 9 (by omega)]
            exact this
          refine c_isSureNow hQ hV0 hW hn (fun es m2 hs2 => ?_) (fun es m2 hs2 => ?_)
          · rw [if_neg i10, (hV0.same hs2).1.1]
            refine c_endSure (stm m2 hs2) (by omega) h6 fun m3 f1 f6 f7 f8 f9 f10 => ?_
            exact nxt m3 (fun c k c1 c2 => (f1 c k c2).trans (hs2 c k c1)) (stYes n m3 hn (by omega) es f6 f7 f8 f9 f10)
          · rw [if_pos rfl]
            exact nxt m2 (fun c k c1 _ => hs2 c k c1) (stNo n m2 hn (Or.inr es) (stm m2 hs2))
      exact key 0 (Nat.zero_le _) μ (fun _ _ _ _ => rfl) (fun r hr => absurd hr (Nat.not_lt_zero r)) (fun r _ hr => (hV.2.1 r hr).2.2.2.2.2)
    · rw [ixO_none fun j hj e => by
        have := (nI_eq ht (by omega)).mp e
        omega] at hK
      exact hK μ hV
end CNOW
