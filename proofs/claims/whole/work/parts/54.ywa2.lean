/-! The reference: way, put together. -/
theorem sne {m : z_M} {c k d j : Nat} {v : Int32} (h : d ≠ c) : (si m c k v).1 d j = m.1 d j := by rw [si1, if_neg (fun q => h q.1)]
section YWA2
variable {S : z_SS} {ch : Nat → Nat} {e : Nat} {μ : z_M}
theorem y_copy {p bk : Nat} {acc : List z_C1} {cd : List (Nat × Nat)} (hM : WM S ch e p acc cd μ) (h12 : acc.length ≤ 12) (hb : bk < 4) {K : Int32 → z_M → Prop} (hK : ∀ μ', RepR (setC S bk acc) μ' → K (nI acc.length) μ') : L_X12_way_136 K (nI bk) μ := by
  obtain ⟨hR, hT, h44, h46, h47, h48, hcd, hl, hp, hcl, hg⟩ := hM
  have he := hT.1
  have s1 : ∀ m k v j, (si m 33 k v).1 40 j = m.1 40 j := fun m k v j => sne (by decide)
  have s2 : ∀ m k v j, (si m 33 k v).1 41 j = m.1 41 j := fun m k v j => sne (by decide)
  have s3 : ∀ m k v j, (si m 34 k v).1 41 j = m.1 41 j := fun m k v j => sne (by decide)
  have s4 : ∀ m k v j, (si m 33 k v).1 42 j = m.1 42 j := fun m k v j => sne (by decide)
  have s5 : ∀ m k v j, (si m 34 k v).1 42 j = m.1 42 j := fun m k v j => sne (by decide)
  have s6 : ∀ m k v j, (si m 35 k v).1 42 j = m.1 42 j := fun m k v j => sne (by decide)
  have s7 : ∀ m k v j, (si m 37 k v).1 44 j = m.1 44 j := fun m k v j => sne (by decide)
  have s8 : ∀ m k v j, (si m 32 k v).1 0 j = m.1 0 j := fun m k v j => sne (by decide)
  unfold L_X12_way_136
  rw [h46, if_pos (by decide)]
  unfold L_X12_way_151
  intro P1 hP1
  have one : ∀ k, k ≤ acc.length → ∀ μ1 : z_M, (∀ c j, (c < 33 ∨ 36 < c ∨ j < 12 * bk ∨ 12 * bk + 12 ≤ j) → μ1.1 c j = μ.1 c j) → (∀ j, j < k → μ1.1 33 (12 * bk + j) = μ.1 39 j ∧ μ1.1 34 (12 * bk + j) = μ.1 40 j ∧ μ1.1 35 (12 * bk + j) = nI (160 * bk) + μ.1 41 j ∧ μ1.1 36 (12 * bk + j) = nI (160 * bk) + μ.1 42 j) → P1 (nI bk) (nI k) μ1 := by
    refine downTo acc.length ?_ (fun k hk ih => ?_)
    · intro μ1 g1 g2
      refine hP1 _ _ _ ?_
      unfold B_X12_way_151
      rw [g1 0 47 (by omega), h47]
      refine ifc (nI_leI (by omega) (by omega)) (fun _ => ?_) (fun g => absurd (Nat.le_refl _) g)
      unfold L_X12_way_257
      intro P2 hP2
      have two : ∀ k, k ≤ cd.length → ∀ μ2 : z_M, (∀ c j, (c ≠ 37 ∧ c ≠ 38) ∨ j < 160 * bk ∨ 160 * bk + 160 ≤ j → μ2.1 c j = μ1.1 c j) → (∀ j, j < k → μ2.1 37 (160 * bk + j) = μ.1 43 j ∧ μ2.1 38 (160 * bk + j) = μ.1 44 j) → P2 (nI bk) (nI k) μ2 := by
        refine downTo cd.length ?_ (fun k hk ih => ?_)
        · intro μ2 q1 q2
          refine hP2 _ _ _ ?_
          unfold B_X12_way_257
          rw [q1 0 48 (by omega), g1 0 48 (by omega), h48]
          refine ifc (nI_leI (by omega) (by omega)) (fun _ => ?_) (fun g => absurd (Nat.le_refl _) g)
          rw [nI_clamp (by omega), s8, q1 0 47 (by omega), g1 0 47 (by omega), h47]
          refine ⟨nI_vin (by omega) (by omega), hK _ ?_⟩
          have all : ∀ c k, c < 32 ∨ 38 < c → (si μ2 32 bk (nI acc.length)).1 c k = μ.1 c k := fun c k hc => by
            rw [sne (by omega), q1 c k (by omega), g1 c k (by omega)]
          refine ⟨fun k k1 k2 => by rw [all 0 k (by omega)]; exact hR.1 k k1 k2, fun c k hc hl => ?_, fun c k hc hl => ?_, fun k => by rw [all 1 k (by omega)]; exact hR.2.2.2.1 k, fun b hb2 => ?_⟩
          · have := persA_32 hc
            rw [all c k (by omega)]
            exact hR.2.1 c k hc hl
          · have := persO_32 hc
            rw [all c k (by omega)]
            exact hR.2.2.1 c k hc hl
          · by_cases eb : b = bk
            · subst eb
              have ec : (setC S b acc).2.2 b = acc := if_pos rfl
              rw [ec]
              refine ⟨by rw [si1, if_pos ⟨rfl, rfl⟩], h12, fun k l n c hk => ?_⟩
              have hlt := (List.getElem?_eq_some_iff.mp hk).1
              obtain ⟨w1, w2, f, w3, w4, w5, w6⟩ := hcl k (l, n, c) hk
              have hin : (l, n, c) ∈ acc := List.mem_of_getElem? hk
              obtain ⟨v1, v2, v3, v4⟩ := hg _ hin
              obtain ⟨z1, z2, z3, z4⟩ := g2 k hlt
              have up : ∀ c, 33 ≤ c → c ≤ 36 → (si μ2 32 b (nI acc.length)).1 c (12 * b + k) = μ1.1 c (12 * b + k) := fun c c1 c2 => by rw [sne (by omega), q1 c _ (by omega)]
              rw [up 33 (by decide) (by decide), up 34 (by decide) (by decide), up 35 (by decide) (by decide), up 36 (by decide) (by decide), z1, z2, z3, z4]
              dsimp only at w1 w2 w3 w4 w5 w6 v1 v2
              refine ⟨w1, w2, v1, v2, 160 * b + f, by omega, by omega, by rw [w3, nI_add], by rw [w4, nI_add, Nat.add_assoc], fun j o a hj => ?_⟩
              have hj2 := w6 j (o, a) hj
              have hjl := (List.getElem?_eq_some_iff.mp hj2).1
              obtain ⟨y1, y2⟩ := q2 (f + j) hjl
              obtain ⟨x1, x2⟩ := hcd (f + j) (o, a) hj2
              obtain ⟨u1, u2⟩ := v4 (o, a) (List.mem_of_getElem? hj)
              rw [sne (by decide), sne (by decide), show 160 * b + f + j = 160 * b + (f + j) by omega, y1, y2]
              exact ⟨x1, x2, u1, u2⟩
            · have ec : (setC S bk acc).2.2 b = S.2.2 b := if_neg eb
              rw [ec]
              obtain ⟨r1, r2, r3⟩ := hR.2.2.2.2 b hb2
              refine ⟨by rw [si1, if_neg (by omega), q1 32 b (by omega), g1 32 b (by omega)]; exact r1, r2, fun k l n c hk => ?_⟩
              have hlt := (List.getElem?_eq_some_iff.mp hk).1
              obtain ⟨w1, w2, w3, w4, f, w5, w6, w7, w8, w9⟩ := r3 k l n c hk
              have up : ∀ c, 33 ≤ c → c ≤ 36 → (si μ2 32 bk (nI acc.length)).1 c (12 * b + k) = μ.1 c (12 * b + k) := fun c c1 c2 => by rw [sne (by omega), q1 c _ (by omega), g1 c _ (by omega)]
              rw [up 33 (by decide) (by decide), up 34 (by decide) (by decide), up 35 (by decide) (by decide), up 36 (by decide) (by decide)]
              refine ⟨w1, w2, w3, w4, f, w5, w6, w7, w8, fun j o a hj => ?_⟩
              have hjl := (List.getElem?_eq_some_iff.mp hj).1
              rw [sne (by decide), sne (by decide), q1 37 _ (by omega), q1 38 _ (by omega), g1 37 _ (by omega), g1 38 _ (by omega)]
              exact w9 j o a hj
        · intro μ2 q1 q2
          refine hP2 _ _ _ ?_
          unfold B_X12_way_257
          rw [q1 0 48 (by omega), g1 0 48 (by omega), h48]
          refine ifc (nI_leI (by omega) (by omega)) (fun g => absurd g (by omega)) (fun _ => ?_)
          rw [show ((160 : Int32) * nI bk) + nI k = nI (160 * bk + k) by rw [show (160 : Int32) = nI 160 from rfl, nI_mul, nI_add], nI_clamp (n := k) (by omega), nI_clamp (n := 160 * bk + k) (by omega), s7, q1 43 k (by omega), q1 44 k (by omega), g1 43 k (by omega), g1 44 k (by omega), nI_1]
          refine ⟨nI_vin (by omega) (by omega), nI_vin (by omega) (by omega), ih _ (fun c j hc => ?_) (fun j hj => ?_)⟩
          · rw [si1, if_neg (by omega), si1, if_neg (by omega)]
            exact q1 c j hc
          · by_cases q : j = k
            · subst q
              exact ⟨by rw [sne (by decide), si1, if_pos ⟨rfl, rfl⟩], by rw [si1, if_pos ⟨rfl, rfl⟩]⟩
            · rw [si1, if_neg (by omega), si1, if_neg (by omega), si1, if_neg (by omega), si1, if_neg (by omega)]
              exact q2 j (by omega)
      exact two 0 (Nat.zero_le _) μ1 (fun _ _ _ => rfl) (fun j hj => absurd hj (Nat.not_lt_zero j))
    · intro μ1 g1 g2
      refine hP1 _ _ _ ?_
      unfold B_X12_way_151
      rw [g1 0 47 (by omega), h47]
      refine ifc (nI_leI (by omega) (by omega)) (fun g => absurd g (by omega)) (fun _ => ?_)
      have e12 : ((12 : Int32) * nI bk) + nI k = nI (12 * bk + k) := by rw [show (12 : Int32) = nI 12 from rfl, nI_mul, nI_add]
      have e160 : (160 : Int32) * nI bk = nI (160 * bk) := nI_mul 160 bk
      have c1 : (nI k).toNatClampNeg = k := nI_clamp (by omega)
      have c2 : (nI (12 * bk + k)).toNatClampNeg = 12 * bk + k := nI_clamp (by omega)
      simp only [e12, e160, c1, c2, s1, s2, s3, s4, s5, s6, nI_1, g1 39 k (by omega), g1 40 k (by omega), g1 41 k (by omega), g1 42 k (by omega)]
      refine ⟨nI_vin (by omega) (by omega), nI_vin (by omega) (by omega), ih _ (fun c j hc => ?_) (fun j hj => ?_)⟩
      · rw [si1, if_neg (by omega), si1, if_neg (by omega), si1, if_neg (by omega), si1, if_neg (by omega)]
        exact g1 c j hc
      · by_cases q : j = k
        · subst q
          exact ⟨by simp [si1], by simp [si1], by simp [si1], by simp [si1]⟩
        · have old : ∀ c, (si (si (si (si μ1 33 (12 * bk + k) (μ.1 39 k)) 34 (12 * bk + k) (μ.1 40 k)) 35 (12 * bk + k) (nI (160 * bk) + μ.1 41 k)) 36 (12 * bk + k) (nI (160 * bk) + μ.1 42 k)).1 c (12 * bk + j) = μ1.1 c (12 * bk + j) := fun c => by rw [si1, if_neg (by omega), si1, if_neg (by omega), si1, if_neg (by omega), si1, if_neg (by omega)]
          rw [old 33, old 34, old 35, old 36]
          exact g2 j (by omega)
  exact one 0 (Nat.zero_le _) μ (fun _ _ _ => rfl) (fun j hj => absurd hj (Nat.not_lt_zero j))
theorem y_clauses {bk : Nat} {K : Int32 → z_M → Prop} {P : Int32 → Int32 → z_M → Prop} (hP : ∀ v1 v3 μ, B_X12_way_62 K P v1 v3 μ → P v1 v3 μ) : ∀ f p acc cd (μ : z_M), WM S ch e p acc cd μ → acc.length ≤ 12 → acc.length + f = 13 → (∀ f' a μ', 1 ≤ f' → f' ≤ 9 → a ≤ 1000 → wayL ch e f p acc = .error (f', a) → RepR S μ' → K (iI (-(1000 * (f' : Int) + a))) μ') → (∀ cs p' cd' μ', wayL ch e f p acc = .ok cs → cs.length ≤ 12 → WM S ch e p' cs cd' μ' → L_X12_way_136 K (nI bk) μ') → P (nI bk) 1 μ := by
  intro f
  induction f with
  | zero => intro p acc cd μ hM h12 h13; omega
  | succ f ih =>
    intro p acc cd μ hM h12 h13 hE hK
    have h46 := hM.2.2.2.1
    have hpe := hM.2.2.2.2.2.2.2.2.1
    have hT := hM.2.1
    unfold wayL at hE hK
    have bad : ∀ f' a μ', 1 ≤ f' → f' ≤ 9 → a ≤ 1000 → Bd S f' a μ' → (∀ μ', RepR S μ' → K (iI (-(1000 * (f' : Int) + a))) μ') → ∀ v, P (nI bk) v μ' := by
      intro f' a μ' b1 b2 b3 hB hk v
      have k : L_X12_way_136 K (nI bk) μ' := by
        unfold L_X12_way_136
        rw [hB.2, if_neg (bm_0 b1 b2 b3).2]
        exact hk μ' hB.1
      refine hP _ _ _ ?_
      unfold B_X12_way_62
      refine ifd (fun _ => k) (fun _ => z_bad b1 b2 b3 hB.2 ?_)
      rw [if_pos rfl]
      exact k
    refine hP _ _ _ ?_
    unfold B_X12_way_62 L_X12_way_99 L_X12_way_100 L_X12_way_123
    rw [if_neg i10]
    refine z_good h46 ?_
    rw [if_neg i10]
    refine y_clause hM h12 (fun f' a μ' b1 b2 b3 he hB => ?_) (fun p1 c cd' μ' he hlt hpp hM' => ?_)
    · rw [he] at hE
      refine z_bad b1 b2 b3 hB.2 ?_
      rw [if_pos rfl, if_pos rfl]
      exact bad f' a μ' b1 b2 b3 hB (fun μ2 h2 => hE f' a μ2 b1 b2 b3 rfl h2) 0
    · rw [he] at hE hK
      dsimp only at hE hK
      have hp1 := hM'.2.2.2.2.2.2.2.2.1
      have hT' := hM'.2.1
      have h256 := hT'.2.2.2.1 p1
      refine z_good hM'.2.2.2.1 ?_
      rw [if_neg i10, hT'.2.1, hM'.2.2.1]
      have he160 := hT'.1
      refine ifc (nI_leI (by omega) (by omega)) (fun g => ?_) (fun g => ?_)
      · rw [if_neg (by omega)] at hK
        rw [if_pos rfl]
        refine hP _ _ _ ?_
        unfold B_X12_way_62
        rw [if_pos rfl]
        exact hK _ p1 cd' μ' rfl (by rw [len_app1]; omega) hM'
      · rw [if_pos (by omega)] at hE hK
        rw [if_neg i10]
        refine z_here hT' hM'.2.2.1 hp1 (ifc (nI_eq (b := 59) (by omega) (by decide)) (fun q => ?_) (fun q => ?_))
        · rw [if_pos q] at hE hK
          rw [hM'.2.2.1, nI_1]
          refine ih (p1 + 1) (acc ++ [c]) cd' _ ?_ (by rw [len_app1]; omega) (by rw [len_app1]; omega) hE hK
          obtain ⟨m1, m2, m3, m4, m5, m6, m7, m8, m9, m10, m11⟩ := hM'
          refine ⟨m1.scr rfl, Txt_of m2 (by rw [si1, if_neg (by omega)]) (fun k => by rw [si1, if_neg (by omega)]), by rw [si1, if_pos ⟨rfl, rfl⟩], by rw [si1, if_neg (by omega)]; exact m4, by rw [si1, if_neg (by omega)]; exact m5, by rw [si1, if_neg (by omega)]; exact m6, CdK_same m7 (fun j _ => ⟨by rw [si1, if_neg (by omega)], by rw [si1, if_neg (by omega)]⟩), by omega, by omega, fun j c' hj => ?_, m11⟩
          rw [si1, if_neg (by omega), si1, if_neg (by omega), si1, if_neg (by omega), si1, if_neg (by omega)]
          exact m10 j c' hj
        · rw [if_neg q] at hE
          rw [hM'.2.2.1]
          refine y_wrongs (f := 1) hM'.2.2.2.1 ?_
          have hB : Bd S 1 p1 (si μ' 0 46 (iI (-(1000 * ((1 : Nat) : Int) + p1)))) := ⟨hM'.1.scr rfl, by rw [si1, if_pos ⟨rfl, rfl⟩]⟩
          refine bad 1 p1 _ (by decide) (by decide) (by omega) ⟨hB.1.scr rfl, by rw [si1, if_neg (by omega)]; exact hB.2⟩ (fun μ2 h2 => hE 1 p1 μ2 (by decide) (by decide) (by omega) rfl h2) 1
theorem r_way {B : Nat} (hR : RepR S μ) (hW : WF B S) (hC : WFc S) {a b : Int32} {K : Int32 → z_M → Prop} (hK : ∀ μ', RepR (opWay S a b).2 μ' → WFc (opWay S a b).2 → K (opWay S a b).1 μ') : C_X12_way a b μ K := by
  have h3 := hW.1
  have hz : opWay S a b = (-1, S) → K (-1) μ := fun e => by
    rw [e] at hK
    exact hK μ hR hC
  unfold C_X12_way
  refine r_isBook hR hW (fun bk hb e => ?_) (fun g => by rw [if_pos rfl]; exact hz (by unfold opWay; rw [ixO_none g]))
  subst e
  rw [if_neg i10]
  refine r_liesC (lo := 1) (hi := 160) (x := 1) (y := 160) rfl rfl (by decide) (by decide) (fun n n1 n2 eb => ?_) (fun g => ?_)
  · subst eb
    rw [if_neg i10, hR.f (k := 1) (by decide) (by decide)]
    have eo : opWay S (nI bk) (nI n) = if n ≤ S.1 0 1 then (match wayL (chS (S.1 1) n) n 13 0 [] with
      | .error x => (iI (-(1000 * (x.1 : Int) + x.2)), setN S 0 1 0)
      | .ok cs => (nI cs.length, setC (setN S 0 1 0) bk cs)) else (-1, S) := by
      unfold opWay
      rw [ixO_some hb (by omega)]
      dsimp only
      rw [ixO_some (show n < 161 by omega) (by decide)]
      dsimp only
      rw [if_neg (by omega)]
      rfl
    refine ifc (nI_leI (by omega) (by omega)) (fun q => ?_) (fun q => ?_)
    · rw [eo, if_pos q] at hK
      have r1 : RepR (setN S 0 1 0) (si (si (si (si (si (si μ 0 1 0) 0 44 0) 0 45 (nI n)) 0 46 0) 0 47 0) 0 48 0) := (hR.setF (k := 1) (n := 0) (by decide) rfl).scr rfl |>.scr rfl |>.scr rfl |>.scr rfl |>.scr rfl
      have f1 : ∀ c k, c ≠ 0 → (si (si (si (si (si (si μ 0 1 0) 0 44 0) 0 45 (nI n)) 0 46 0) 0 47 0) 0 48 0).1 c k = μ.1 c k := fun c k hc => by rw [sne hc, sne hc, sne hc, sne hc, sne hc, sne hc]
      have hM : WM (setN S 0 1 0) (chS (S.1 1) n) n 0 [] [] (si (si (si (si (si (si μ 0 1 0) 0 44 0) 0 45 (nI n)) 0 46 0) 0 47 0) 0 48 0) := by
        refine ⟨r1, ⟨n2, by simp [si1], fun k hk => ?_, fun q => ?_, fun q hq => if_neg (by omega)⟩, by simp [si1]; rfl, by simp [si1], by simp [si1]; rfl, by simp [si1]; rfl, fun j x hj => by simp at hj, Nat.le_refl _, Nat.zero_le _, fun j c hj => by simp at hj, fun c hc => by simp at hc⟩
        · rw [f1 1 k (by decide)]
          unfold chS
          rw [if_pos hk]
          exact hR.2.2.2.1 k
        · unfold chS
          split
          · exact hW.tp q
          · decide
      unfold L_X12_way_62
      intro P hP
      refine y_clauses hP 13 0 [] [] _ hM (by decide) rfl (fun f' a' μ' b1 b2 b3 he h' => ?_) (fun cs p' cd' μ' he hl hM' => ?_)
      · rw [he] at hK
        exact hK μ' h' (WFc_same hC rfl)
      · rw [he] at hK
        refine y_copy hM' hl (by omega) fun μ2 h2 => hK μ2 h2 ?_
        intro b hb2 c hc
        by_cases eb : b = bk
        · have ec : (setC (setN S 0 1 0) bk cs).2.2 b = cs := if_pos eb
          rw [show ((setC (setN S 0 1 0) bk cs).2.2 b) = cs from ec] at hc
          obtain ⟨g1, g2, g3⟩ := hM'.2.2.2.2.2.2.2.2.2.2 c hc
          obtain ⟨j, hj⟩ := List.mem_iff_getElem?.mp hc
          obtain ⟨_, _, f, _, _, w5, _⟩ := hM'.2.2.2.2.2.2.2.2.2.1 j c hj
          have w8 := hM'.2.2.2.2.2.2.2.1
          have w9 := hM'.2.2.2.2.2.2.2.2.1
          exact ⟨g3.1 0, by omega⟩
        · have ec : (setC (setN S 0 1 0) bk cs).2.2 b = S.2.2 b := if_neg eb
          rw [show ((setC (setN S 0 1 0) bk cs).2.2 b) = S.2.2 b from ec] at hc
          exact hC b hb2 c hc
    · exact hz (by rw [eo, if_neg q])
  · rw [if_pos rfl]
    refine hz ?_
    unfold opWay
    rw [ixO_some hb (by omega)]
    dsimp only
    cases e1 : ixO b 161 with
    | none => rfl
    | some n =>
      obtain ⟨g1, g2⟩ := ixO_inv e1
      dsimp only
      rw [if_pos (Nat.le_zero.mp (Nat.le_of_not_lt fun h => g n h (by omega) g2))]
end YWA2
