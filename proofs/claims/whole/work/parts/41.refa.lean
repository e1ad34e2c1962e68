/-! The reference: a clause asked, the books moved. -/
theorem kq_refl (μ : z_M) : kq μ μ := fun _ _ _ => rfl
theorem kq_trans {a b c : z_M} (h : kq a b) (g : kq b c) : kq a c := fun x k hx => (g x k hx).trans (h x k hx)
theorem kq_kp {a b : z_M} (h : kp a b) : kq a b := fun x k _ => by rw [h.1]
def k61 (μ μ' : z_M) : Prop := ∀ k, μ'.1 61 k = μ.1 61 k
theorem ctx_kq {b r h : Nat} {μ μ' : z_M} (hc : ctxR b r h μ) (hk : kq μ μ') : ctxR b r h μ' := ⟨(hk 0 54 (Or.inl rfl)).trans hc.1, (hk 0 55 (Or.inl rfl)).trans hc.2.1, (hk 0 56 (Or.inl rfl)).trans hc.2.2⟩
def lenS (S : z_SS) (b r h n m : Nat) : z_SS := (S.1, fun c k => if c = 17 ∧ 24 * b + 8 * r ≤ k ∧ k < 24 * b + 8 * r + m ∧ k ≠ 24 * b + 8 * r + h then (match S.2.1 17 k with
    | none => none
    | some s => some (if s + n ≤ S.1 0 5 - 1 then s + n else S.1 0 5 - 1)) else S.2.1 c k, S.2.2)
def mv1 (S : z_SS) (b r h : Nat) (cl : Nat × Nat × List (Nat × Nat)) : z_SS := if holdsS S b r h cl.2.2 = true then (if cl.1 = 99 then setO S 17 (24 * b + 8 * r + h) none else if cl.1 = 115 then (match S.2.1 17 (24 * b + 8 * r + h) with
    | none => S
    | some s => setO S 17 (24 * b + 8 * r + h) (some (if cl.2.1 ≤ s then s - cl.2.1 else 0))) else lenS S b r h cl.2.1 (S.1 10 r)) else S
def mvL (S : z_SS) (b r h : Nat) : List (Nat × Nat × List (Nat × Nat)) → z_SS
  | [] => S
  | c :: cs => mvL (mv1 S b r h c) b r h cs
def mvS (S : z_SS) (b r h : Nat) : z_SS := mvL S b r h (S.2.2 b)
def WFc (S : z_SS) : Prop := ∀ b, b < 4 → ∀ cl, cl ∈ S.2.2 b → depC cl.2.2 0 = some 1 ∧ cl.2.2.length ≤ 160
theorem evL_app (S : z_SS) (b r h : Nat) : ∀ (c1 c2 : List (Nat × Nat)) (st : List z_V), evL S b r h (c1 ++ c2) st = evL S b r h c2 (evL S b r h c1 st)
  | [], _, _ => rfl
  | c :: cs, c2, st => evL_app S b r h cs c2 (ev1 S b r h c st)
theorem len_app1 {α : Type} (l : List α) (x : α) : (l ++ [x]).length = l.length + 1 := by simp
section REFA
variable {B : Nat} {S : z_SS} {μ : z_M}
theorem r_holds (hB : B ≤ 84) (hR : RepR S μ) (hW : WF B S) (h6 : 1 ≤ S.1 0 6) {b r h k l n : Nat} {cd : List (Nat × Nat)} (hb : b < S.1 0 4) (hr : r < S.1 0 3) (hh : h < S.1 10 r) (hc : ctxR b r h μ) (hk12 : k < 12) (hcl : (S.2.2 b)[k]? = some (l, n, cd)) (hd : depC cd 0 = some 1) (hlen : cd.length ≤ 160) {K : Int32 → z_M → Prop} (hK : ∀ μ', RepR S μ' → kq μ μ' → K (if holdsS S b r h cd = true then 1 else 0) μ') : C_X12_holds (nI (12 * b + k)) μ K := by
  have h3 := hW.1
  obtain ⟨_, _, hcc⟩ := hR.2.2.2.2 b (by omega)
  obtain ⟨_, _, _, _, f, f1, f2, f3, f4, f5⟩ := hcc k l n cd hcl
  unfold C_X12_holds L_X12_holds_9
  rw [nI_clamp (by omega), f3]
  refine ⟨nI_vin (by omega) (by omega), fun P hP => ?_⟩
  have go : ∀ (rest pre : List (Nat × Nat)) (st : List z_V) (μ1 : z_M), cd = pre ++ rest → RepR S μ1 → kq μ μ1 → StR μ1 st → depC rest st.length = some 1 → st.length ≤ pre.length → evL S b r h cd [] = evL S b r h rest st → P (nI (12 * b + k)) (nI st.length) (nI (f + pre.length)) μ1 := by
    intro rest
    induction rest with
    | nil =>
      intro pre st μ1 e1 hR1 hk1 hS1 hd1 hl1 hv1
      refine hP _ _ _ _ ?_
      unfold B_X12_holds_9
      have epre : pre = cd := by rw [e1, List.append_nil]
      rw [nI_clamp (n := 12 * b + k) (by omega), hk1 36 _ (by omega), f4, epre]
      refine ⟨nI_vin (by omega) (by omega), ifc (nI_leI (by omega) (by omega)) (fun _ => ?_) (fun g => absurd (Nat.le_refl _) g)⟩
      have hk2 := hK μ1 hR1 hk1
      unfold holdsS at hk2
      rw [hv1] at hk2
      have hl : st.length = 1 := by
        have : some st.length = some 1 := hd1
        exact Option.some.inj this
      obtain ⟨v, ev⟩ : ∃ v, st = [v] := by
        match st, hl with
        | [v], _ => exact ⟨v, rfl⟩
      subst ev
      have hS2 : μ1.2 58 0 = v.1 ∧ μ1.1 59 0 = nI (b2n v.2) := ⟨hS1.1, hS1.2.1⟩
      have z0 : (0 : Int32).toNatClampNeg = 0 := rfl
      rw [z0, hS2.1, hS2.2]
      have hk3 : K (if (!v.2 && decide (v.1 = 1)) = true then 1 else 0) μ1 := hk2
      refine ifc nI_b2n_0 (fun g => ifd (fun e => ?_) (fun e => ?_)) (fun g => ?_)
      · rw [if_pos (by rw [g, e]; rfl)] at hk3
        exact hk3
      · rw [if_neg (by rw [g]; simp [e])] at hk3
        exact hk3
      · rw [if_neg (by
          have : v.2 = true := by simpa using g
          rw [this]
          simp)] at hk3
        exact hk3
    | cons c rest ih =>
      intro pre st μ1 e1 hR1 hk1 hS1 hd1 hl1 hv1
      have hj : cd[pre.length]? = some (c.1, c.2) := by
        rw [e1, List.getElem?_append_right (Nat.le_refl _), Nat.sub_self]
        rfl
      obtain ⟨g37, g38, g3, g4⟩ := f5 pre.length c.1 c.2 hj
      have hlc : pre.length < cd.length := by rw [e1, List.length_append]; exact Nat.lt_add_of_pos_right (Nat.succ_pos _)
      have e2 : cd = (pre ++ [c]) ++ rest := by rw [e1, List.append_assoc]; rfl
      refine hP _ _ _ _ ?_
      unfold B_X12_holds_9
      rw [nI_clamp (n := 12 * b + k) (by omega), hk1 36 _ (by omega), f4, nI_clamp (n := f + pre.length) (by omega), hk1 37 _ (by omega), g37, nI_1]
      refine ⟨nI_vin (by omega) (by omega), ifc (nI_leI (by omega) (by omega)) (fun g => absurd g (by omega)) (fun _ => ⟨nI_vin (by omega) (by omega), ?_⟩)⟩
      have enext : f + pre.length + 1 = f + (pre ++ [c]).length := by rw [len_app1]; omega
      have pushes : ∀ (v : z_V) (μ3 : z_M), ev1 S b r h c st = v :: st → (c.1 ≤ 1) → RepR S μ3 → kq μ μ3 → StR μ3 (v :: st) → P (nI (12 * b + k)) (nI (st.length + 1)) (nI (f + (pre ++ [c]).length)) μ3 := by
        intro v μ3 q1 q2 q3 q4 q5
        refine ih (pre ++ [c]) (v :: st) μ3 e2 q3 q4 q5 ?_ (by rw [len_app1]; exact Nat.succ_le_succ hl1) ?_
        · unfold depC at hd1
          rw [if_pos q2] at hd1
          exact hd1
        · rw [hv1]
          conv => lhs; unfold evL
          rw [q1]
      have st59 : ∀ (v : z_V) (μ3 : z_M), μ3.2 58 st.length = v.1 → μ3.1 59 st.length = nI (b2n v.2) → (∀ j, j < st.length → μ3.2 58 j = μ1.2 58 j ∧ μ3.1 59 j = μ1.1 59 j) → StR μ3 (v :: st) := fun v μ3 q1 q2 q3 => ⟨q1, q2, StR_same st q3 hS1⟩
      have z0 : (0 : Int32) &&& 1 = nI (b2n false) := by decide
      refine ifc (nI_leI (b := 2) (by omega) (by omega)) (fun g2 => ifc (nI_eq (b := 2) (by omega) (by omega)) (fun g5 => ?_) (fun g5 => ?_)) (fun g2 => ?_)
      · unfold depC at hd1
        rw [if_neg (by omega), if_pos g5] at hd1
        match st, hS1, hd1, hl1, hv1 with
        | [], hS1, hd1, hl1, hv1 => rw [if_neg (by simp)] at hd1; cases hd1
        | x :: t, hS1, hd1, hl1, hv1 =>
          rw [if_pos (by simp)] at hd1
          have el : (x :: t).length = t.length + 1 := rfl
          rw [el] at hl1
          rw [el, nI_pred, nI_clamp (by omega), hS1.1, enext]
          refine ⟨nI_vin (by omega) (by omega), ih (pre ++ [c]) ((1 - x.1, x.2) :: t) _ e2 hR1.lng (fun c k hc => hk1 c k hc) ?_ hd1 (by rw [len_app1, List.length_cons]; omega) ?_⟩
          · refine ⟨by rw [sl2, if_pos ⟨rfl, rfl⟩], hS1.2.1, StR_same (μ := μ1) t (fun j hj => ⟨?_, rfl⟩) hS1.2.2⟩
            rw [sl2, if_neg (by omega)]
          · rw [hv1]
            conv => lhs; unfold evL
            unfold ev1
            rw [if_neg (by omega), if_neg (by omega), if_pos g5]
      · rw [nI_1, nI_clamp (n := st.length) (by omega), show (si μ1 59 st.length ((0 : Int32) &&& 1)).1 37 (f + pre.length) = nI c.1 by
            rw [si1, if_neg (by omega), hk1 37 _ (by omega), g37], show (si μ1 59 st.length ((0 : Int32) &&& 1)).1 38 (f + pre.length) = nI c.2 by
            rw [si1, if_neg (by omega), hk1 38 _ (by omega), g38], enext, z0]
        have hR2 : RepR S (si μ1 59 st.length (nI (b2n false))) := hR1.scr rfl
        have hk2 : kq μ (si μ1 59 st.length (nI (b2n false))) := fun c k hc => by
          rw [si1, if_neg (by omega)]
          exact hk1 c k hc
        refine ⟨nI_vin (by omega) (by omega), ifc (nI_eq (b := 0) (by omega) (by omega)) (fun g0 => ?_) (fun g0 => ?_)⟩
        · rw [nI_l (by omega)]
          refine pushes (lN c.2, false) _ ?_ (by omega) hR2.lng (fun c k hc => hk2 c k hc) (st59 _ _ ?_ ?_ fun j hj => ⟨?_, ?_⟩)
          · unfold ev1
            rw [if_pos g0]
          · rw [sl2, if_pos ⟨rfl, rfl⟩]
          · rw [sl1, si1, if_pos ⟨rfl, rfl⟩]
          · rw [sl2, if_neg (by omega), si2]
          · rw [sl1, si1, if_neg (by omega)]
        · refine r_valueOf hB hR2 hW h6 hb hr hh (ctx_kq hc hk2) (by omega) fun μ3 hR3 hk3 => ?_
          refine pushes (letV S b r h c.2, false) _ ?_ (by omega) hR3.lng (fun c k hc => (kq_trans hk2 (kq_kp hk3)) c k hc) (st59 _ _ ?_ ?_ fun j hj => ⟨?_, ?_⟩)
          · unfold ev1
            rw [if_neg g0, if_pos (by omega)]
          · rw [sl2, if_pos ⟨rfl, rfl⟩]
          · rw [sl1, hk3.1, si1, if_pos ⟨rfl, rfl⟩]
          · rw [sl2, if_neg (by omega), hk3.2 _ _ (by decide), si2]
          · rw [sl1, hk3.1, si1, if_neg (by omega)]
      · unfold depC at hd1
        rw [if_neg (by omega), if_neg (by omega)] at hd1
        match st, hS1, hd1, hl1, hv1 with
        | [], hS1, hd1, hl1, hv1 => rw [if_neg (by simp)] at hd1; cases hd1
        | [x], hS1, hd1, hl1, hv1 => rw [if_neg (by simp)] at hd1; cases hd1
        | y :: x :: t, hS1, hd1, hl1, hv1 =>
          rw [if_pos (by simp)] at hd1
          have el : (y :: x :: t).length = t.length + 1 + 1 := rfl
          rw [el] at hl1 hd1
          rw [el, pk_m1, nI_pred, enext]
          refine r_does hR1 (by omega) hS1 (by omega) fun μ3 hR3 hk3 hS3 => ?_
          refine ih (pre ++ [c]) (evOp c.1 x y :: t) μ3 e2 hR3 (kq_trans hk1 hk3) hS3 hd1 (by rw [len_app1, List.length_cons]; omega) ?_
          rw [hv1]
          conv => lhs; unfold evL
          unfold ev1
          rw [if_neg (by omega), if_neg (by omega), if_neg (by omega)]
  have h0 := go cd [] [] μ rfl hR (kq_refl μ) True.intro hd (Nat.le_refl _) rfl
  exact h0
/-- only what stands on slates changed -/
theorem slate_WF {S' : z_SS} (hW : WF B S) (e1 : S'.1 = S.1) (e3 : S'.2.2 = S.2.2) (e2 : ∀ c, c ≠ 17 → S'.2.1 c = S.2.1 c) (h : ∀ k s, k < 96 → S'.2.1 17 k = some s → ∃ s0, S.2.1 17 k = some s0 ∧ s < S.1 0 5) : WF B S' := by
  have e19 := e2 19 (by decide)
  have e25 := e2 25 (by decide)
  unfold WF at hW ⊢
  unfold leftS at hW ⊢
  simp only [runsS, e1, e3, e19, e25] at hW ⊢
  obtain ⟨a1, a2, a3, a4, a5, a6⟩ := hW
  refine ⟨a1, a2, a3, a4, fun b r h' s hb hr hh e => ?_, a6⟩
  obtain ⟨s0, q1, q2⟩ := h _ s (by omega) e
  exact ⟨q2, (a5 b r h' s0 hb hr hh q1).2⟩
theorem wf17 (hW : WF B S) {k s : Nat} (hk : k < 96) (e : S.2.1 17 k = some s) : s < S.1 0 5 ∧ k / 24 < S.1 0 4 ∧ runsS S (k % 24 / 8) (k % 8) := by
  have ek : k = 24 * (k / 24) + 8 * (k % 24 / 8) + k % 8 := by omega
  rw [ek] at e
  exact hW.2.2.2.2.1 _ _ _ s (by omega) (by omega) (by omega) e
theorem mv1_1 {b r h : Nat} {cl : Nat × Nat × List (Nat × Nat)} : (mv1 S b r h cl).1 = S.1 ∧ (mv1 S b r h cl).2.2 = S.2.2 ∧ ∀ c, c ≠ 17 → (mv1 S b r h cl).2.1 c = S.2.1 c := by
  have ho : ∀ o, (setO S 17 (24 * b + 8 * r + h) o).1 = S.1 ∧ (setO S 17 (24 * b + 8 * r + h) o).2.2 = S.2.2 ∧ ∀ c, c ≠ 17 → (setO S 17 (24 * b + 8 * r + h) o).2.1 c = S.2.1 c := fun o => ⟨rfl, rfl, fun c hc => funext fun k => by rw [setO_2, if_neg (fun q => hc q.1)]⟩
  unfold mv1
  split
  · split
    · exact ho _
    · split
      · split
        · exact ⟨rfl, rfl, fun _ _ => rfl⟩
        · exact ho _
      · refine ⟨rfl, rfl, fun c hc => funext fun k => ?_⟩
        unfold lenS
        dsimp only
        rw [if_neg (fun q => hc q.1)]
  · exact ⟨rfl, rfl, fun _ _ => rfl⟩
theorem mv1_17 (hW : WF B S) {b r h : Nat} {cl : Nat × Nat × List (Nat × Nat)} {k s : Nat} (hk : k < 96) (e : (mv1 S b r h cl).2.1 17 k = some s) : ∃ s0, S.2.1 17 k = some s0 ∧ s < S.1 0 5 := by
  have same : S.2.1 17 k = some s → ∃ s0, S.2.1 17 k = some s0 ∧ s < S.1 0 5 := fun q => ⟨s, q, (wf17 hW hk q).1⟩
  unfold mv1 at e
  split at e
  · split at e
    · rw [setO_2] at e
      split at e
      · cases e
      · exact same e
    · split at e
      · split at e
        · exact same e
        · rename_i s0 es0
          rw [setO_2] at e
          split at e
          · rename_i hk2
            have := (wf17 hW hk (hk2.2 ▸ es0)).1
            refine ⟨s0, hk2.2 ▸ es0, ?_⟩
            have e9 := Option.some.inj e
            split at e9 <;> omega
          · exact same e
      · unfold lenS at e
        dsimp only at e
        split at e
        · split at e
          · cases e
          · rename_i s0 es0
            have := (wf17 hW hk es0).1
            refine ⟨s0, es0, ?_⟩
            have e9 := Option.some.inj e
            split at e9 <;> omega
        · exact same e
  · exact same e
theorem mv1_WF (hW : WF B S) {b r h : Nat} {cl : Nat × Nat × List (Nat × Nat)} : WF B (mv1 S b r h cl) := by
  obtain ⟨e1, e2, e3⟩ := mv1_1 (S := S) (b := b) (r := r) (h := h) (cl := cl)
  exact slate_WF hW e1 e2 e3 fun k s hk e => mv1_17 hW hk e
theorem mvL_1 {b r h : Nat} : ∀ (cs : List (Nat × Nat × List (Nat × Nat))) (S : z_SS), (mvL S b r h cs).1 = S.1 ∧ (mvL S b r h cs).2.2 = S.2.2 ∧ ∀ c, c ≠ 17 → (mvL S b r h cs).2.1 c = S.2.1 c
  | [], S => ⟨rfl, rfl, fun _ _ => rfl⟩
  | c :: cs, S => by
    obtain ⟨e1, e2, e3⟩ := mv1_1 (S := S) (b := b) (r := r) (h := h) (cl := c)
    obtain ⟨f1, f2, f3⟩ := mvL_1 cs (mv1 S b r h c)
    exact ⟨f1.trans e1, f2.trans e2, fun c' hc => (f3 c' hc).trans (e3 c' hc)⟩
theorem mvL_WF {b r h : Nat} : ∀ (cs : List (Nat × Nat × List (Nat × Nat))) (S : z_SS), WF B S → WF B (mvL S b r h cs)
  | [], _, hW => hW
  | _ :: cs, _, hW => mvL_WF cs _ (mv1_WF hW)
theorem r_moves (hB : B ≤ 84) (hR : RepR S μ) (hW : WF B S) (hC : WFc S) (h6 : 1 ≤ S.1 0 6) {b r h : Nat} (hb : b < S.1 0 4) (hr : r < S.1 0 3) (hh : h < S.1 10 r) {K : z_M → Prop} (hK : ∀ μ', RepR (mvS S b r h) μ' → k61 μ μ' → K μ') : C_X12_moves (nI b) (nI r) (nI h) μ K := by
  have h3 := hW.1
  have h4 := hW.2.2.1 r hr
  unfold C_X12_moves L_X12_moves_21
  intro P hP
  have go : ∀ (rest pre : List (Nat × Nat × List (Nat × Nat))) (S1 : z_SS) (μ1 : z_M), S.2.2 b = pre ++ rest → S1.2.2 = S.2.2 → S1.1 = S.1 → WF B S1 → RepR S1 μ1 → ctxR b r h μ1 → k61 μ μ1 → mvS S b r h = mvL S1 b r h rest → P (nI b) (nI r) (nI h) (nI (12 * b + pre.length)) μ1 := by
    intro rest
    induction rest with
    | nil =>
      intro pre S1 μ1 e1 e2 e3 hW1 hR1 hc1 hk1 hv1
      refine hP _ _ _ _ _ ?_
      unfold B_X12_moves_21
      have epre : pre = S.2.2 b := by rw [e1, List.append_nil]
      have hcl := hR1.2.2.2.2 b (by omega)
      rw [e2] at hcl
      rw [nI_clamp (n := b) (by omega), hcl.1, show (12 : Int32) * nI b = nI (12 * b) from nI_mul 12 b, nI_add, epre]
      refine ⟨nI_vin (by omega) (by omega), ifc (nI_leI (by omega) (by omega)) (fun _ => hK μ1 ?_ hk1) (fun g => absurd (Nat.le_refl _) g)⟩
      rw [hv1]
      exact hR1
    | cons c rest ih =>
      intro pre S1 μ1 e1 e2 e3 hW1 hR1 hc1 hk1 hv1
      refine hP _ _ _ _ _ ?_
      unfold B_X12_moves_21
      have hcl := hR1.2.2.2.2 b (by omega)
      have hlen : (S.2.2 b).length = pre.length + (rest.length + 1) := by rw [e1, List.length_append]; rfl
      rw [e2] at hcl
      have hj : (S.2.2 b)[pre.length]? = some (c.1, c.2.1, c.2.2) := by
        rw [e1, List.getElem?_append_right (Nat.le_refl _), Nat.sub_self]
        rfl
      have hin : c ∈ S.2.2 b := by
        rw [e1]
        exact List.mem_append_right _ List.mem_cons_self
      obtain ⟨d1, d2⟩ := hC b (by omega) c hin
      have e2' : S.2.2 b = (pre ++ [c]) ++ rest := by rw [e1, List.append_assoc]; rfl
      have hv2 : mvS S b r h = mvL (mv1 S1 b r h c) b r h rest := hv1
      rw [nI_clamp (n := b) (by omega), hcl.1, show (12 : Int32) * nI b = nI (12 * b) from nI_mul 12 b, nI_add, nI_1]
      refine ⟨nI_vin (by omega) (by omega), ifc (nI_leI (by omega) (by omega)) (fun g => absurd g (by omega)) (fun _ => ?_)⟩
      have f0 : ∀ k, S1.1 0 k = S.1 0 k := fun k => by rw [e3]
      have f10 : ∀ k, S1.1 10 k = S.1 10 k := fun k => by rw [e3]
      refine r_holds hB hR1 hW1 (by rw [f0]; exact h6) (by rw [f0]; exact hb) (by rw [f0]; exact hr) (by rw [f10]; exact hh) hc1 (by omega) (by rw [e2]; exact hj) d1 d2 fun μ2 hR2 hk2 => ?_
      have enext : 12 * b + pre.length + 1 = 12 * b + (pre ++ [c]).length := by rw [len_app1]; omega
      obtain ⟨m1, m2, m3⟩ := mv1_1 (S := S1) (b := b) (r := r) (h := h) (cl := c)
      have next : ∀ μ3, RepR (mv1 S1 b r h c) μ3 → kq μ2 μ3 → P (nI b) (nI r) (nI h) (nI (12 * b + pre.length + 1)) μ3 := fun μ3 q1 q2 => by
        rw [enext]
        exact ih (pre ++ [c]) _ μ3 e2' (m2.trans e2) (m1.trans e3) (mv1_WF hW1) q1 (ctx_kq hc1 (kq_trans hk2 q2)) (fun k => ((kq_trans hk2 q2) 61 k (by omega)).trans (hk1 k)) hv2
      obtain ⟨_, _, hcc⟩ := hR2.2.2.2.2 b (by omega)
      rw [e2] at hcc
      obtain ⟨g33, g34, g5, g6, _⟩ := hcc _ _ _ _ hj
      have ksi : ∀ k v, kq μ2 (si μ2 17 k v) := fun k v c' k' hc' => by rw [si1, if_neg (by omega)]
      unfold mv1 at next
      cases hho : holdsS S1 b r h c.2.2 with
      | false =>
        rw [hho] at next
        rw [if_neg (by decide)] at next
        rw [if_pos (show (if false = true then (1 : Int32) else 0) = 0 from rfl)]
        exact next μ2 hR2 (kq_refl μ2)
      | true =>
        rw [hho] at next
        rw [if_pos rfl] at next
        rw [if_pos rfl, if_neg i10]
        refine r_cellOf ?_
        rw [nI_clamp (n := 12 * b + pre.length) (by omega), g33, g34, nI_clamp (by omega), hR2.o (c := 17) rfl]
        refine ⟨nI_vin (by omega) (by omega), ifc (nI_eq (b := 99) (by omega) (by omega)) (fun q => ?_) (fun q => ?_)⟩
        · rw [if_pos q] at next
          exact ⟨nI_vin (by omega) (by omega), next _ (hR2.setO rfl rfl) (ksi _ _)⟩
        · rw [if_neg q] at next
          refine ifc (nI_eq (b := 115) (by omega) (by omega)) (fun q => ⟨nI_vin (by omega) (by omega), ?_⟩) (fun q => ?_)
          · rw [if_pos q] at next
            cases es : S1.2.1 17 (24 * b + 8 * r + h) with
            | none =>
              rw [es] at next
              rw [if_pos (show oI none = -1 from rfl)]
              exact next μ2 hR2 (kq_refl μ2)
            | some s =>
              rw [es] at next
              dsimp only at next
              have hs := (wf17 hW1 (by omega) es).1
              rw [f0] at hs
              rw [if_neg (show ¬ oI (some s) = -1 from nI_ne_m1 (by omega)), oI_some]
              refine ifc (nI_leI (by omega) (by omega)) (fun g => ?_) (fun g => ?_)
              · rw [if_pos g] at next
                rw [pk_sub g]
                exact next _ (hR2.setO rfl rfl) (ksi _ _)
              · rw [if_neg g] at next
                exact next _ (hR2.setO rfl rfl) (ksi _ _)
          · rw [if_neg q] at next
            unfold L_X12_moves_152
            intro Q hQ
            have hl0 : lenS S1 b r h c.2.1 0 = S1 := by
              refine Prod.ext rfl (Prod.ext (funext fun c' => funext fun k => ?_) rfl)
              unfold lenS
              dsimp only
              rw [if_neg (by omega)]
            have key : ∀ m, m ≤ S.1 10 r → ∀ μ3, RepR (lenS S1 b r h c.2.1 m) μ3 → kq μ2 μ3 → Q (nI b) (nI r) (nI h) (nI (12 * b + pre.length)) (nI m) μ3 := by
              refine downTo (S.1 10 r) ?_ (fun m hm ihm => ?_)
              · intro μ3 hR3 hk3
                refine hQ _ _ _ _ _ _ ?_
                unfold B_X12_moves_152
                rw [nI_clamp (n := r) (by omega), hR3.a (c := 10) rfl, show (lenS S1 b r h c.2.1 (S.1 10 r)).1 10 r = S.1 10 r from f10 r, nI_1]
                refine ⟨nI_vin (by omega) (by omega), ifc (nI_leI (by omega) (by omega)) (fun _ => next μ3 ?_ hk3) (fun g => absurd (Nat.le_refl _) g)⟩
                rw [f10]
                exact hR3
              · intro μ3 hR3 hk3
                refine hQ _ _ _ _ _ _ ?_
                unfold B_X12_moves_152
                have hm1 : ∀ k, (lenS S1 b r h c.2.1 m).2.1 17 k = if 24 * b + 8 * r ≤ k ∧ k < 24 * b + 8 * r + m ∧ k ≠ 24 * b + 8 * r + h then (match S1.2.1 17 k with
                  | none => none
                  | some s => some (if s + c.2.1 ≤ S1.1 0 5 - 1 then s + c.2.1 else S1.1 0 5 - 1)) else S1.2.1 17 k := fun k => by
                  unfold lenS
                  dsimp only
                  by_cases g : 24 * b + 8 * r ≤ k ∧ k < 24 * b + 8 * r + m ∧ k ≠ 24 * b + 8 * r + h
                  · rw [if_pos ⟨rfl, g⟩, if_pos g]
                  · rw [if_neg (fun q => g q.2), if_neg g]
                have same : (m = h ∨ S1.2.1 17 (24 * b + 8 * r + m) = none) → lenS S1 b r h c.2.1 (m + 1) = lenS S1 b r h c.2.1 m := by
                  intro hmm
                  refine Prod.ext rfl (Prod.ext (funext fun c' => funext fun k => ?_) rfl)
                  unfold lenS
                  dsimp only
                  by_cases g : c' = 17 ∧ 24 * b + 8 * r ≤ k ∧ k < 24 * b + 8 * r + m ∧ k ≠ 24 * b + 8 * r + h
                  · rw [if_pos g, if_pos ⟨g.1, g.2.1, by omega, g.2.2.2⟩]
                  · rw [if_neg g]
                    by_cases g2 : c' = 17 ∧ 24 * b + 8 * r ≤ k ∧ k < 24 * b + 8 * r + (m + 1) ∧ k ≠ 24 * b + 8 * r + h
                    · rw [if_pos g2]
                      have ek : k = 24 * b + 8 * r + m := by omega
                      rcases hmm with g3 | g3
                      · omega
                      · rw [g2.1, ek, g3]
                    · rw [if_neg g2]
                rw [nI_clamp (n := r) (by omega), hR3.a (c := 10) rfl, show (lenS S1 b r h c.2.1 m).1 10 r = S.1 10 r from f10 r]
                refine ⟨nI_vin (by omega) (by omega), ifc (nI_leI (by omega) (by omega)) (fun g => absurd g (by omega)) (fun _ => r_cellOf ?_)⟩
                rw [nI_1, nI_clamp (by omega), hR3.o (c := 17) rfl, hm1, if_neg (show ¬ (24 * b + 8 * r ≤ 24 * b + 8 * r + m ∧ 24 * b + 8 * r + m < 24 * b + 8 * r + m ∧ 24 * b + 8 * r + m ≠ 24 * b + 8 * r + h) by omega)]
                refine ifc (nI_eq (by omega) (by omega)) (fun q => ?_) (fun q => ⟨nI_vin (by omega) (by omega), ?_⟩)
                · refine ihm μ3 ?_ hk3
                  rw [same (Or.inl q)]
                  exact hR3
                · cases es : S1.2.1 17 (24 * b + 8 * r + m) with
                  | none =>
                    rw [if_pos (show oI none = -1 from rfl)]
                    refine ihm μ3 ?_ hk3
                    rw [same (Or.inr es)]
                    exact hR3
                  | some s =>
                    have hs := (wf17 hW1 (by omega) es).1
                    rw [f0] at hs
                    obtain ⟨_, _, hcc3⟩ := hR3.2.2.2.2 b (by omega)
                    have e22 : (lenS S1 b r h c.2.1 m).2.2 = S.2.2 := e2
                    rw [e22] at hcc3
                    obtain ⟨_, g34', _⟩ := hcc3 _ _ _ _ hj
                    have f5 : (lenS S1 b r h c.2.1 m).1 0 5 = S.1 0 5 := f0 5
                    rw [if_neg (show ¬ oI (some s) = -1 from nI_ne_m1 (by omega)), oI_some, nI_clamp (n := 12 * b + pre.length) (by omega), g34', nI_add, hR3.f (k := 5) (by decide) (by decide), f5, show nI (S.1 0 5) - 1 = nI (S.1 0 5 - 1) from pk_sub (b := 1) (by omega)]
                    have step : ∀ v, (v = if s + c.2.1 ≤ S.1 0 5 - 1 then s + c.2.1 else S.1 0 5 - 1) → Q (nI b) (nI r) (nI h) (nI (12 * b + pre.length)) (nI (m + 1)) (si μ3 17 (24 * b + 8 * r + m) (nI v)) := by
                      intro v hv
                      refine ihm _ ?_ (fun c' k' hc' => by rw [si1, if_neg (by omega)]; exact hk3 c' k' hc')
                      have : lenS S1 b r h c.2.1 (m + 1) = setO (lenS S1 b r h c.2.1 m) 17 (24 * b + 8 * r + m) (some v) := by
                        refine Prod.ext rfl (Prod.ext (funext fun c' => funext fun k => ?_) rfl)
                        rw [setO_2]
                        unfold lenS
                        dsimp only
                        by_cases g : c' = 17 ∧ k = 24 * b + 8 * r + m
                        · rw [if_pos g, if_pos ⟨g.1, by omega, by omega, by omega⟩, g.2, es, hv, f0]
                        · rw [if_neg g]
                          by_cases g2 : c' = 17 ∧ 24 * b + 8 * r ≤ k ∧ k < 24 * b + 8 * r + m ∧ k ≠ 24 * b + 8 * r + h
                          · rw [if_pos g2, if_pos ⟨g2.1, g2.2.1, by omega, g2.2.2.2⟩]
                          · rw [if_neg g2, if_neg (by omega)]
                      rw [this]
                      exact hR3.setO rfl rfl
                    refine ⟨nI_vin (by omega) (by omega), ifc (nI_leI (by omega) (by omega)) (fun g => step _ (by rw [if_pos g])) (fun g => step _ (by rw [if_neg g]))⟩
            refine key 0 (Nat.zero_le _) μ2 ?_ (kq_refl μ2)
            rw [hl0]
            exact hR2
  have h0 := go (S.2.2 b) [] S (si (si (si μ 0 54 (nI b)) 0 55 (nI r)) 0 56 (nI h)) rfl rfl rfl hW (((hR.scr rfl).scr rfl).scr rfl) ⟨rfl, rfl, rfl⟩ (fun k => by
    rw [si1, if_neg (by omega), si1, if_neg (by omega), si1, if_neg (by omega)]) rfl
  rw [show (12 : Int32) * nI b = nI (12 * b) from nI_mul 12 b]
  exact h0
end REFA
