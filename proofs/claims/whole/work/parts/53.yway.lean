/-! The reference: way. -/
abbrev z_C1 : Type := Nat × Nat × List (Nat × Nat)
def clC (ch : Nat → Nat) (l n p : Nat) : Except (Nat × Nat) (Nat × z_C1) := match condS ch p with
  | .error e => .error e
  | .ok x => .ok (x.1, l, n, x.2)
/-- one clause; k stand before it -/
def clS (ch : Nat → Nat) (k p : Nat) : Except (Nat × Nat) (Nat × z_C1) := if ch p = 115 ∨ ch p = 108 ∨ ch p = 99 then (if k = 12 then .error (4, p) else if ch p = 99 then clC ch 99 0 (p + 1) else if dgP (ch (p + 1)) then (if ch (p + 1) = 48 then .error (3, p + 1) else clC ch (ch p) (ch (p + 1) - 48) (p + 2)) else .error (1, p + 1)) else .error (1, p)
def wayL (ch : Nat → Nat) (e : Nat) : Nat → Nat → List z_C1 → Except (Nat × Nat) (List z_C1)
  | 0, p, _ => .error (9, p)
  | f + 1, p, acc => match clS ch acc.length p with
    | .error x => .error x
    | .ok x => if x.1 < e then (if ch x.1 = 59 then wayL ch e f (x.1 + 1) (acc ++ [x.2]) else .error (1, x.1)) else .ok (acc ++ [x.2])
def chS (t : Nat → Nat) (e : Nat) : Nat → Nat := fun q => if q < e then t q else 0
def setC (S : z_SS) (b : Nat) (cl : List z_C1) : z_SS := (S.1, S.2.1, fun q => if q = b then cl else S.2.2 q)
def opWay (S : z_SS) (a b : Int32) : Int32 × z_SS := match ixO a (S.1 0 4) with
  | none => (-1, S)
  | some bk => match ixO b 161 with
    | none => (-1, S)
    | some n => if n = 0 then (-1, S) else if n ≤ S.1 0 1 then (match wayL (chS (S.1 1) n) n 13 0 [] with
      | .error x => (iI (-(1000 * (x.1 : Int) + x.2)), setN S 0 1 0)
      | .ok cs => (nI cs.length, setC (setN S 0 1 0) bk cs)) else (-1, S)
def ClG (c : z_C1) : Prop := c.1 < 256 ∧ c.2.1 < 10 ∧ depOk c.2.2
def ClK (μ : z_M) (acc : List z_C1) (cd : List (Nat × Nat)) : Prop := ∀ (j : Nat) (c : z_C1), acc[j]? = some c → μ.1 39 j = nI c.1 ∧ μ.1 40 j = nI c.2.1 ∧ ∃ f, μ.1 41 j = nI f ∧ μ.1 42 j = nI (f + c.2.2.length) ∧ f + c.2.2.length ≤ cd.length ∧ ∀ (i : Nat) (x : Nat × Nat), c.2.2[i]? = some x → cd[f + i]? = some x
def WM (S : z_SS) (ch : Nat → Nat) (e p : Nat) (acc : List z_C1) (cd : List (Nat × Nat)) (μ : z_M) : Prop := RepR S μ ∧ Txt ch e μ ∧ μ.1 0 44 = nI p ∧ μ.1 0 46 = 0 ∧ μ.1 0 47 = nI acc.length ∧ μ.1 0 48 = nI cd.length ∧ CdK μ cd ∧ cd.length ≤ p ∧ p ≤ e ∧ ClK μ acc cd ∧ ∀ c, c ∈ acc → ClG c
def Bd (S : z_SS) (f a : Nat) (μ : z_M) : Prop := RepR S μ ∧ μ.1 0 46 = iI (-(1000 * (f : Int) + a))
theorem RepR_Fr {S : z_SS} {μ μ' : z_M} (h : FrP μ μ') (hR : RepR S μ) : RepR S μ' := hR.same fun c k hs _ => by
  refine h.1 c k ?_ (fun e => ?_) (fun e => ?_) (fun e => ?_)
  · by_cases e : c = 0
    · subst e
      have : ¬ 7 ≤ k := of_decide_eq_false hs
      omega
    · exact Or.inl e
  · subst e
    cases hs
  · subst e
    cases hs
  · subst e
    cases hs
theorem Txt_of {ch : Nat → Nat} {e : Nat} {μ μ' : z_M} (h : Txt ch e μ) (h45 : μ'.1 0 45 = μ.1 0 45) (h1 : ∀ k, μ'.1 1 k = μ.1 1 k) : Txt ch e μ' := ⟨h.1, h45.trans h.2.1, fun k hk => by rw [h1 k]; exact h.2.2.1 k hk, h.2.2.2⟩
theorem condS_adv {ch : Nat → Nat} {e : Nat} {μ : z_M} (hT : Txt ch e μ) {p : Nat} (hp : p ≤ e) : Cnt (condS ch p) noE (fun p1 c1 => p < p1 ∧ p1 ≤ e ∧ depOk c1) := by
  have hz := hT.2.2.2.2
  unfold condS
  split
  · rename_i q
    rw [Cnt_bnd]
    have hpe : p < e := Nat.lt_of_not_le fun z => by
      rw [hz p z] at q
      omega
    refine Cnt_mono (pars_adv hz hT.2.2.2.1 2000 8 (p + 1) 1 [] hpe (by decide) (fun z => absurd z (by decide))) (fun _ _ z => z) fun p1 c1 h => ?_
    split
    · rename_i q2
      have hpe2 : p1 < e := Nat.lt_of_not_le fun z => by
        rw [hz p1 z] at q2
        omega
      exact ⟨by show p < p1 + 1; omega, hpe2, h.2.2.2⟩
    · exact True.intro
  · exact True.intro
section YWAY
variable {S : z_SS} {ch : Nat → Nat} {e : Nat} {μ : z_M}
theorem z_here (hT : Txt ch e μ) {p : Nat} (h44 : μ.1 0 44 = nI p) (hp : p ≤ e) {K : Int32 → z_M → Prop} (hK : K (nI (ch p)) μ) : C_X12_here μ K := by
  obtain ⟨t1, t2, t3, t4, t5⟩ := hT
  unfold C_X12_here
  rw [t2, h44]
  refine ifc (nI_leI (by omega) (by omega)) (fun g => ?_) (fun g => ?_)
  · rw [t5 p g] at hK
    exact hK
  · rw [nI_clamp (by omega), t3 p (by omega)]
    exact ⟨nI_vin (by omega) (by omega), hK⟩
theorem z_seesDigit (hT : Txt ch e μ) {p : Nat} (h44 : μ.1 0 44 = nI p) (hp : p ≤ e) {K : Int32 → z_M → Prop} (h1 : dgP (ch p) → K 1 μ) (h0 : ¬ dgP (ch p) → K 0 μ) : C_X12_seesDigit μ K := by
  have hc := hT.2.2.2.1 p
  unfold C_X12_seesDigit
  refine z_here hT h44 hp (r_liesC (lo := 48) (hi := 57) (x := 48) (y := 57) rfl rfl (by decide) (by decide) (fun j j1 j2 ej => ?_) (fun g => h0 fun q => g (ch p) q.1 q.2 rfl))
  have := (nI_eq (by omega) (by omega)).mp ej
  exact h1 (by omega)
theorem z_good (h46 : μ.1 0 46 = 0) {K : Int32 → z_M → Prop} (hK : K 1 μ) : C_X12_isGood μ K := by
  unfold C_X12_isGood
  rw [if_pos h46]
  exact hK
theorem z_bad {f a : Nat} (h1 : 1 ≤ f) (h2 : f ≤ 9) (h3 : a ≤ 1000) (h : μ.1 0 46 = iI (-(1000 * (f : Int) + a))) {K : Int32 → z_M → Prop} (hK : K 0 μ) : C_X12_isGood μ K := by
  unfold C_X12_isGood
  rw [h, if_neg (bm_0 h1 h2 h3).1]
  exact hK
/-- from the condition on -/
theorem y_c114 {p l n : Nat} {acc : List z_C1} {cd : List (Nat × Nat)} (hR : RepR S μ) (hT : Txt ch e μ) (h44 : μ.1 0 44 = nI p) (h46 : μ.1 0 46 = 0) (h47 : μ.1 0 47 = nI acc.length) (h48 : μ.1 0 48 = nI cd.length) (hcd : CdK μ cd) (hl : cd.length ≤ p) (hp : p ≤ e) (h12 : acc.length < 12) (hcl : ClK μ acc cd) (hg : ∀ c, c ∈ acc → ClG c) (l1 : l < 256) (n1 : n < 10) (k39 : μ.1 39 acc.length = nI l) (k40 : μ.1 40 acc.length = nI n) (k41 : μ.1 41 acc.length = nI cd.length) {K : z_M → Prop} (hE : ∀ f a μ', 1 ≤ f → f ≤ 9 → a ≤ 1000 → clC ch l n p = .error (f, a) → Bd S f a μ' → K μ') (hK : ∀ p1 c μ', clC ch l n p = .ok (p1, c) → p < p1 → WM S ch e p1 (acc ++ [c]) (cd ++ c.2.2) μ' → K μ') : L_X12_clause_114 K μ := by
  have he := hT.1
  unfold L_X12_clause_114
  refine z_good h46 ?_
  rw [if_neg i10]
  refine y_cond hT (E := fun f a => 1 ≤ f → f ≤ 9 → a ≤ 1000 → clC ch l n p = .error (f, a)) (fun f a μ' hx hB b1 b2 b3 => ?_) (p := p) (cd := cd) ⟨FrP_refl μ, h44, h46, h48, hcd, hl, hp⟩ ?_
  · unfold L_X12_clause_125
    rw [hB.1.1 0 47 (by omega) (by omega) (by omega) (by omega), h47, nI_clamp (by omega)]
    refine ⟨nI_vin (by omega) (by omega), hE f a _ b1 b2 b3 (hx b1 b2 b3) ⟨(RepR_Fr hB.1 hR).scr rfl |>.scr rfl, ?_⟩⟩
    rw [si1, if_neg (by omega), si1, if_neg (by omega)]
    exact hB.2
  · have ha := condS_adv hT hp
    unfold clC at hE hK ⊢
    cases hc : condS ch p with
    | error x =>
      intro _ _ _
      rfl
    | ok x =>
      rw [hc] at ha hK
      obtain ⟨a1, a2, a3⟩ := (show p < x.1 ∧ x.1 ≤ e ∧ depOk x.2 from ha)
      intro μ' hF
      obtain ⟨f1, f2, f3, f4, f5, f6, f7⟩ := hF
      have fr : ∀ c k, 39 ≤ c → c ≤ 42 → μ'.1 c k = μ.1 c k := fun c k c1 c2 => f1.1 c k (by omega) (by omega) (by omega) (by omega)
      have g47 : μ'.1 0 47 = nI acc.length := (f1.1 0 47 (by omega) (by omega) (by omega) (by omega)).trans h47
      unfold L_X12_clause_125
      rw [g47, nI_clamp (by omega), f4, show (si μ' 42 acc.length (nI (cd ++ x.2).length)).1 0 47 = nI acc.length by rw [si1, if_neg (by omega)]; exact g47, nI_1]
      have el : (cd ++ x.2).length = cd.length + x.2.length := List.length_append
      refine ⟨nI_vin (by omega) (by omega), hK x.1 (l, n, x.2) _ rfl a1 ⟨(RepR_Fr f1 hR).scr rfl |>.scr rfl, Txt_of hT ?_ (fun k => ?_), ?_, ?_, ?_, ?_, ?_, f6, f7, ?_, fun c hc2 => ?_⟩⟩
      · rw [si1, if_neg (by omega), si1, if_neg (by omega)]
        exact f1.1 0 45 (by omega) (by omega) (by omega) (by omega)
      · rw [si1, if_neg (by omega), si1, if_neg (by omega)]
        exact f1.1 1 k (by omega) (by omega) (by omega) (by omega)
      · rw [si1, if_neg (by omega), si1, if_neg (by omega)]
        exact f2
      · rw [si1, if_neg (by omega), si1, if_neg (by omega)]
        exact f3
      · rw [si1, if_pos ⟨rfl, rfl⟩, len_app1]
      · rw [si1, if_neg (by omega), si1, if_neg (by omega)]
        exact f4
      · refine CdK_same f5 fun j _ => ⟨?_, ?_⟩
        · rw [si1, if_neg (by omega), si1, if_neg (by omega)]
        · rw [si1, if_neg (by omega), si1, if_neg (by omega)]
      · intro j c hj
        have s1 : ∀ c, 39 ≤ c → c ≤ 41 → (si (si μ' 42 acc.length (nI (cd ++ x.2).length)) 0 47 (nI (acc.length + 1))).1 c j = μ.1 c j := fun c c1 c2 => by
          rw [si1, if_neg (by omega), si1, if_neg (by omega)]
          exact fr c j c1 (by omega)
        have s2 : (si (si μ' 42 acc.length (nI (cd ++ x.2).length)) 0 47 (nI (acc.length + 1))).1 42 j = if j = acc.length then nI (cd ++ x.2).length else μ.1 42 j := by
          rw [si1, if_neg (by omega), si1]
          by_cases q : j = acc.length
          · rw [if_pos ⟨rfl, q⟩, if_pos q]
          · rw [if_neg (fun z => q z.2), if_neg q]
            exact fr 42 j (by decide) (by decide)
        rw [s1 39 (by decide) (by decide), s1 40 (by decide) (by decide), s1 41 (by decide) (by decide), s2]
        rcases Nat.lt_trichotomy j acc.length with q | q | q
        · rw [List.getElem?_append_left q] at hj
          obtain ⟨w1, w2, f, w3, w4, w5, w6⟩ := hcl j c hj
          rw [if_neg (by omega)]
          refine ⟨w1, w2, f, w3, w4, by show _ ≤ (cd ++ x.2).length; omega, fun i y hy => ?_⟩
          have hi := (List.getElem?_eq_some_iff.mp hy).1
          rw [List.getElem?_append_left (by omega)]
          exact w6 i y hy
        · subst q
          rw [List.getElem?_append_right (Nat.le_refl _), Nat.sub_self] at hj
          cases hj
          rw [if_pos rfl]
          refine ⟨k39, k40, cd.length, k41, by rw [el], by rw [el]; exact Nat.le_refl _, fun i y hy => ?_⟩
          rw [List.getElem?_append_right (by omega), Nat.add_sub_cancel_left]
          exact hy
        · rw [List.getElem?_eq_none (by rw [len_app1]; omega)] at hj
          cases hj
      · rcases List.mem_append.mp hc2 with q | q
        · exact hg c q
        · rw [List.mem_singleton.mp q]
          exact ⟨l1, n1, a3⟩
theorem s0n {m : z_M} {c k : Nat} {v : Int32} {j : Nat} (hc : c ≠ 0) : (si m c k v).1 0 j = m.1 0 j := by rw [si1, if_neg (fun q => hc q.1.symm)]
theorem y_clause {p : Nat} {acc : List z_C1} {cd : List (Nat × Nat)} (hM : WM S ch e p acc cd μ) (h12 : acc.length ≤ 12) {K : z_M → Prop} (hE : ∀ f a μ', 1 ≤ f → f ≤ 9 → a ≤ 1000 → clS ch acc.length p = .error (f, a) → Bd S f a μ' → K μ') (hK : ∀ p1 c cd' μ', clS ch acc.length p = .ok (p1, c) → acc.length < 12 → p < p1 → WM S ch e p1 (acc ++ [c]) cd' μ' → K μ') : C_X12_clause μ K := by
  obtain ⟨hR, hT, h44, h46, h47, h48, hcd, hl, hp, hcl, hg⟩ := hM
  have he := hT.1
  have h256 := hT.2.2.2.1
  have hz := hT.2.2.2.2
  unfold clS at hE hK
  have bad53 : ∀ f v, 1 ≤ f → f ≤ 9 → (∀ μ', Bd S f p μ' → K μ') → L_X12_clause_53 K v (si μ 0 46 (iI (-(1000 * (f : Int) + p)))) := fun f v b1 b2 hk => by
    have e46 : (si μ 0 46 (iI (-(1000 * (f : Int) + p)))).1 0 46 = iI (-(1000 * (f : Int) + p)) := by rw [si1, if_pos ⟨rfl, rfl⟩]
    unfold L_X12_clause_53
    refine z_bad b1 b2 (by omega) e46 ?_
    rw [if_pos rfl]
    exact hk _ ⟨hR.scr rfl, e46⟩
  have main : (ch p = 115 ∨ ch p = 108 ∨ ch p = 99) → L_X12_clause_35 K (nI (ch p)) μ := fun q => by
    rw [if_pos q] at hE hK
    have hpe : p < e := Nat.lt_of_not_le fun z => by
      rw [hz p z] at q
      omega
    unfold L_X12_clause_35
    rw [h47]
    refine ifc (nI_eq (b := 12) (by omega) (by decide)) (fun q2 => ?_) (fun q2 => ?_)
    · rw [if_pos q2] at hE
      rw [h44]
      refine y_wrongs (f := 4) h46 ?_
      exact bad53 4 _ (by decide) (by decide) fun μ' hB => hE 4 p μ' (by decide) (by decide) (by omega) rfl hB
    · rw [if_neg q2] at hE hK
      unfold L_X12_clause_53
      refine z_good h46 ?_
      have ci : (nI acc.length).toNatClampNeg = acc.length := nI_clamp (by omega)
      have vi : vp_in (nI acc.length) 12 := nI_vin (by omega) (by omega)
      have s39 := fun m k v j => @s0n m 39 k v j (by decide)
      have s40 := fun m k v j => @s0n m 40 k v j (by decide)
      have s41 := fun m k v j => @s0n m 41 k v j (by decide)
      rw [if_neg i10]
      simp only [s39, s40, s41, h47, ci, h48, h44, nI_1]
      refine ⟨vi, vi, vi, ?_⟩
      generalize hm : si (si (si (si μ 39 acc.length (nI (ch p))) 40 acc.length 0) 41 acc.length (nI cd.length)) 0 44 (nI (p + 1)) = m
      have r0 : RepR S m := by
        rw [← hm]
        exact hR.scr rfl |>.scr rfl |>.scr rfl |>.scr rfl
      have f0 : ∀ k, k ≠ 44 → m.1 0 k = μ.1 0 k := fun k hk => by rw [← hm, si1, if_neg (by omega), s41, s40, s39]
      have m44 : m.1 0 44 = nI (p + 1) := by rw [← hm, si1, if_pos ⟨rfl, rfl⟩]
      have oth : ∀ c k, c ≠ 0 → c ≠ 39 → c ≠ 40 → c ≠ 41 → m.1 c k = μ.1 c k := fun c k a1 a2 a3 a4 => by rw [← hm, si1, if_neg (by omega), si1, if_neg (by omega), si1, if_neg (by omega), si1, if_neg (by omega)]
      have old : ∀ c k, k ≠ acc.length → c ≠ 0 → m.1 c k = μ.1 c k := fun c k a1 a2 => by rw [← hm, si1, if_neg (by omega), si1, if_neg (by omega), si1, if_neg (by omega), si1, if_neg (by omega)]
      have t0 : Txt ch e m := Txt_of hT (f0 45 (by decide)) (fun k => oth 1 k (by decide) (by decide) (by decide) (by decide))
      have cd0 : CdK m cd := CdK_same hcd fun j _ => ⟨oth 43 j (by decide) (by decide) (by decide) (by decide), oth 44 j (by decide) (by decide) (by decide) (by decide)⟩
      have m39 : m.1 39 acc.length = nI (ch p) := by rw [← hm]; simp [si1]
      have m40 : m.1 40 acc.length = nI 0 := by rw [← hm]; simp [si1]; rfl
      have m41 : m.1 41 acc.length = nI cd.length := by rw [← hm]; simp [si1]
      have ck : ∀ m' : z_M, (∀ c k, k ≠ acc.length → 39 ≤ c → c ≤ 42 → m'.1 c k = μ.1 c k) → ClK m' acc cd := fun m' hm' j c hj => by
        have hlt := (List.getElem?_eq_some_iff.mp hj).1
        rw [hm' 39 j (by omega) (by decide) (by decide), hm' 40 j (by omega) (by decide) (by decide), hm' 41 j (by omega) (by decide) (by decide), hm' 42 j (by omega) (by decide) (by decide)]
        exact hcl j c hj
      refine ifc (nI_eq (b := 99) (by have := h256 p; omega) (by decide)) (fun q3 => ?_) (fun q3 => ?_)
      · rw [if_pos q3] at hE hK
        exact y_c114 r0 t0 m44 ((f0 46 (by decide)).trans h46) ((f0 47 (by decide)).trans h47) ((f0 48 (by decide)).trans h48) cd0 (by omega) hpe (by omega) (ck m fun c k a1 a2 a3 => old c k a1 (by omega)) hg (l := 99) (n := 0) (by decide) (by decide) (by rw [m39, q3]) m40 m41 hE (fun p1 c μ' e1 hlt hW => hK p1 c _ μ' e1 (by omega) (by omega) hW)
      · rw [if_neg q3] at hE hK
        have h256' := h256 (p + 1)
        have g37 : ∀ (m1 : z_M), (∀ c k, (c ≠ 0 ∨ k ≠ 46) → m1.1 c k = m.1 c k) → RepR S m1 → ∀ K2 : z_M → Prop, K2 (si (si m1 40 acc.length (nI (ch (p + 1)) - 48)) 0 44 (nI (p + 2))) → L_X12_digit_37 K2 m1 := fun m1 hs _ K2 hk => by
          unfold L_X12_digit_37
          have e47 : m1.1 0 47 = nI acc.length := (hs 0 47 (by omega)).trans ((f0 47 (by decide)).trans h47)
          have e44 : m1.1 0 44 = nI (p + 1) := (hs 0 44 (by omega)).trans m44
          refine z_here (Txt_of t0 (hs 0 45 (by omega)) (fun k => hs 1 k (by omega))) e44 hpe ?_
          rw [e47, ci, s40, e44, nI_1]
          exact ⟨vi, hk⟩
        have badd : ∀ f, 1 ≤ f → f ≤ 9 → (∀ μ', Bd S f (p + 1) μ' → K μ') → L_X12_digit_37 (fun μ6 => L_X12_clause_114 K μ6) (si m 0 46 (iI (-(1000 * (f : Int) + (p + 1 : Nat))))) := fun f b1 b2 hk => by
          refine g37 _ (fun c k a1 => by rw [si1, if_neg (by omega)]) (r0.scr rfl) _ ?_
          unfold L_X12_clause_114
          have e46 : (si (si (si m 0 46 (iI (-(1000 * (f : Int) + (p + 1 : Nat))))) 40 acc.length (nI (ch (p + 1)) - 48)) 0 44 (nI (p + 2))).1 0 46 = iI (-(1000 * (f : Int) + (p + 1 : Nat))) := by rw [si1, if_neg (by omega), s40, si1, if_pos ⟨rfl, rfl⟩]
          have e47 : (si (si (si m 0 46 (iI (-(1000 * (f : Int) + (p + 1 : Nat))))) 40 acc.length (nI (ch (p + 1)) - 48)) 0 44 (nI (p + 2))).1 0 47 = nI acc.length := by
            rw [si1, if_neg (by omega), s40, si1, if_neg (by omega)]
            exact (f0 47 (by decide)).trans h47
          have h1000 : p + 1 ≤ 1000 := by omega
          have r2 : RepR S (si (si (si m 0 46 (iI (-(1000 * (f : Int) + (p + 1 : Nat))))) 40 acc.length (nI (ch (p + 1)) - 48)) 0 44 (nI (p + 2))) := r0.scr rfl |>.scr rfl |>.scr rfl
          generalize (si (si (si m 0 46 (iI (-(1000 * (f : Int) + (p + 1 : Nat))))) 40 acc.length (nI (ch (p + 1)) - 48)) 0 44 (nI (p + 2))) = m2 at e46 e47 r2 ⊢
          refine z_bad (f := f) (a := p + 1) b1 b2 h1000 e46 ?_
          rw [if_pos rfl]
          unfold L_X12_clause_125
          rw [e47, ci]
          refine ⟨vi, hk _ ⟨r2.scr rfl |>.scr rfl, ?_⟩⟩
          rw [si1, if_neg (by omega), s0n (by decide)]
          exact e46
        unfold C_X12_digit
        refine z_seesDigit t0 m44 hpe (fun q4 => ?_) (fun q4 => ?_)
        · rw [if_pos q4] at hE hK
          have hpe2 : p + 1 < e := Nat.lt_of_not_le fun z => by
            rw [hz (p + 1) z] at q4
            omega
          rw [if_neg i10]
          refine z_here t0 m44 hpe (ifc (nI_eq (b := 48) (by omega) (by decide)) (fun q5 => ?_) (fun q5 => ?_))
          · rw [if_pos q5] at hE
            rw [m44]
            refine y_wrongs (f := 3) ((f0 46 (by decide)).trans h46) ?_
            exact badd 3 (by decide) (by decide) fun μ' hB => hE 3 (p + 1) μ' (by decide) (by decide) (by omega) rfl hB
          · rw [if_neg q5] at hE hK
            refine g37 m (fun _ _ _ => rfl) r0 _ ?_
            have e9 : nI (ch (p + 1)) - 48 = nI (ch (p + 1) - 48) := pk_sub (b := 48) (by omega)
            rw [e9]
            refine y_c114 (acc := acc) (cd := cd) (p := p + 2) (r0.scr rfl |>.scr rfl) (Txt_of t0 ?_ (fun k => ?_)) (by rw [si1, if_pos ⟨rfl, rfl⟩]) ?_ ?_ ?_ (CdK_same cd0 fun j _ => ⟨?_, ?_⟩) (by omega) hpe2 (by omega) (ck _ fun c k a1 a2 a3 => ?_) hg (l := ch p) (n := ch (p + 1) - 48) (h256 p) (by omega) ?_ ?_ ?_ hE (fun p1 c μ' e1 hlt hW => hK p1 c _ μ' e1 (by omega) (by omega) hW)
            · rw [si1, if_neg (by omega), s40]
            · rw [si1, if_neg (by omega), si1, if_neg (by omega)]
            · rw [si1, if_neg (by omega), s40]
              exact (f0 46 (by decide)).trans h46
            · rw [si1, if_neg (by omega), s40]
              exact (f0 47 (by decide)).trans h47
            · rw [si1, if_neg (by omega), s40]
              exact (f0 48 (by decide)).trans h48
            · rw [si1, if_neg (by omega), si1, if_neg (by omega)]
            · rw [si1, if_neg (by omega), si1, if_neg (by omega)]
            · rw [si1, if_neg (by omega), si1, if_neg (by omega)]
              exact old c k a1 (by omega)
            · rw [si1, if_neg (by omega), si1, if_neg (by omega)]
              exact m39
            · rw [si1, if_neg (by omega), si1, if_pos ⟨rfl, rfl⟩]
            · rw [si1, if_neg (by omega), si1, if_neg (by omega)]
              exact m41
        · rw [if_neg q4] at hE
          rw [if_pos rfl, m44]
          refine y_wrongs (f := 1) ((f0 46 (by decide)).trans h46) ?_
          exact badd 1 (by decide) (by decide) fun μ' hB => hE 1 (p + 1) μ' (by decide) (by decide) (by omega) rfl hB
  have h256p := h256 p
  unfold C_X12_clause
  refine z_here hT h44 hp (ifc (nI_eq (b := 115) (by omega) (by decide)) (fun q => main (Or.inl q)) (fun q1 => ifc (nI_eq (b := 108) (by omega) (by decide)) (fun q => main (Or.inr (Or.inl q))) (fun q2 => ifc (nI_eq (b := 99) (by omega) (by decide)) (fun q => main (Or.inr (Or.inr q))) (fun q3 => ?_))))
  rw [if_neg (by omega)] at hE
  rw [h44]
  refine y_wrongs (f := 1) h46 ?_
  exact bad53 1 _ (by decide) (by decide) fun μ' hB => hE 1 p μ' (by decide) (by decide) (by omega) rfl hB
end YWAY
