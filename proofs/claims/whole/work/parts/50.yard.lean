/-! The reference reads a way's text: its small steps (st: the stack, its top first; cd: the code so far). -/
def StK (μ : z_M) : List Nat → Prop
  | [] => True
  | c :: t => μ.1 54 t.length = nI c ∧ c < 256 ∧ StK μ t
def CdK (μ : z_M) (cd : List (Nat × Nat)) : Prop := ∀ (j : Nat) (x : Nat × Nat), cd[j]? = some x → μ.1 43 j = nI x.1 ∧ μ.1 44 j = nI x.2
/-- nothing but the reading's own cells changed -/
def FrP (μ0 μ : z_M) : Prop := (∀ c k, (c ≠ 0 ∨ k < 44 ∨ k = 45 ∨ k = 47 ∨ 52 < k) → c ≠ 43 → c ≠ 44 → c ≠ 54 → μ.1 c k = μ0.1 c k) ∧ μ.2 = μ0.2
def Txt (ch : Nat → Nat) (e : Nat) (μ0 : z_M) : Prop := e ≤ 160 ∧ μ0.1 0 45 = nI e ∧ (∀ k, k < e → μ0.1 1 k &&& 255 = nI (ch k)) ∧ (∀ q, ch q < 256) ∧ ∀ q, e ≤ q → ch q = 0
def PM (e : Nat) (μ0 : z_M) (p o : Nat) (st : List Nat) (cd : List (Nat × Nat)) (μ : z_M) : Prop := FrP μ0 μ ∧ μ.1 0 44 = nI p ∧ μ.1 0 46 = 0 ∧ μ.1 0 48 = nI cd.length ∧ μ.1 0 49 = nI o ∧ μ.1 0 50 = nI st.length ∧ μ.1 0 51 = 0 ∧ StK μ st ∧ CdK μ cd ∧ cd.length + st.length ≤ p ∧ p ≤ e ∧ o ≤ 6
def BM (μ0 : z_M) (f a : Nat) (μ : z_M) : Prop := FrP μ0 μ ∧ μ.1 0 46 = iI (-(1000 * (f : Int) + a))
def topN : List Nat → Nat
  | [] => 0
  | c :: _ => c
def em (l : List Nat) : List (Nat × Nat) := l.map fun c => (c, 0)
def flS (pl : Bool) : List Nat → List Nat × List (Nat × Nat)
  | [] => ([], [])
  | c :: t => if tmP c ∨ (pl = true ∧ plP c) then ((flS pl t).1, (c, 0) :: (flS pl t).2) else (c :: t, [])
def flJ (or : Bool) : List Nat → List Nat × List (Nat × Nat)
  | [] => ([], [])
  | c :: t => if c = 38 ∨ (or = true ∧ c = 124) then ((flJ or t).1, (c, 0) :: (flJ or t).2) else (c :: t, [])
theorem FrP_refl (μ : z_M) : FrP μ μ := ⟨fun _ _ _ _ _ _ => rfl, rfl⟩
theorem FrP_si {μ0 μ : z_M} (h : FrP μ0 μ) {c k : Nat} {v : Int32} (hc : c = 0 ∧ (k = 44 ∨ k = 46 ∨ (48 ≤ k ∧ k ≤ 52)) ∨ c = 43 ∨ c = 44 ∨ c = 54) : FrP μ0 (si μ c k v) := by
  refine ⟨fun a b h1 h2 h3 h4 => ?_, h.2⟩
  rw [si1, if_neg (by omega)]
  exact h.1 a b h1 h2 h3 h4
theorem StK_same {μ μ' : z_M} : ∀ st : List Nat, (∀ j, j < st.length → μ'.1 54 j = μ.1 54 j) → StK μ st → StK μ' st
  | [], _, _ => True.intro
  | c :: t, hk, h => ⟨(hk t.length (Nat.lt_succ_self _)).trans h.1, h.2.1, StK_same t (fun j hj => hk j (Nat.lt_succ_of_lt hj)) h.2.2⟩
theorem CdK_app {μ μ' : z_M} {cd : List (Nat × Nat)} {x : Nat × Nat} (h : CdK μ cd) (hk : ∀ j, j < cd.length → μ'.1 43 j = μ.1 43 j ∧ μ'.1 44 j = μ.1 44 j) (h1 : μ'.1 43 cd.length = nI x.1) (h2 : μ'.1 44 cd.length = nI x.2) : CdK μ' (cd ++ [x]) := by
  intro j y hj
  rcases Nat.lt_trichotomy j cd.length with q | q | q
  · rw [List.getElem?_append_left q] at hj
    obtain ⟨a, b⟩ := hk j q
    rw [a, b]
    exact h j y hj
  · subst q
    rw [List.getElem?_append_right (Nat.le_refl _), Nat.sub_self] at hj
    cases hj
    exact ⟨h1, h2⟩
  · rw [List.getElem?_eq_none (by rw [len_app1]; omega)] at hj
    cases hj
theorem CdK_same {μ μ' : z_M} {cd : List (Nat × Nat)} (h : CdK μ cd) (hk : ∀ j, j < cd.length → μ'.1 43 j = μ.1 43 j ∧ μ'.1 44 j = μ.1 44 j) : CdK μ' cd := by
  intro j y hj
  have hl : j < cd.length := (List.getElem?_eq_some_iff.mp hj).1
  obtain ⟨a, b⟩ := hk j hl
  rw [a, b]
  exact h j y hj
section YARD
variable {ch : Nat → Nat} {e : Nat} {μ0 : z_M} {p o : Nat} {st : List Nat} {cd : List (Nat × Nat)} {μ : z_M}
theorem PM_place (h : PM e μ0 p o st cd μ) {q : Nat} (h1 : p ≤ q) (h2 : q ≤ e) : PM e μ0 q o st cd (si μ 0 44 (nI q)) := by
  obtain ⟨a1, a2, a3, a4, a5, a6, a7, a8, a9, a10, a11, a12⟩ := h
  exact ⟨FrP_si a1 (by omega), by simp [si1], by simp [si1, a3], by simp [si1, a4], by simp [si1, a5], by simp [si1, a6], by simp [si1, a7], StK_same st (fun j _ => by simp [si1]) a8, CdK_same a9 (fun j _ => by simp [si1]), by omega, h2, a12⟩
theorem PM_52 (h : PM e μ0 p o st cd μ) {v : Int32} : PM e μ0 p o st cd (si μ 0 52 v) := by
  obtain ⟨a1, a2, a3, a4, a5, a6, a7, a8, a9, a10, a11, a12⟩ := h
  exact ⟨FrP_si a1 (by omega), by simp [si1, a2], by simp [si1, a3], by simp [si1, a4], by simp [si1, a5], by simp [si1, a6], by simp [si1, a7], StK_same st (fun j _ => by simp [si1]) a8, CdK_same a9 (fun j _ => by simp [si1]), a10, a11, a12⟩
theorem PM_open (h : PM e μ0 p o st cd μ) {q : Nat} (hq : q ≤ 6) : PM e μ0 p q st cd (si μ 0 49 (nI q)) := by
  obtain ⟨a1, a2, a3, a4, a5, a6, a7, a8, a9, a10, a11, a12⟩ := h
  exact ⟨FrP_si a1 (by omega), by simp [si1, a2], by simp [si1, a3], by simp [si1, a4], by simp [si1], by simp [si1, a6], by simp [si1, a7], StK_same st (fun j _ => by simp [si1]) a8, CdK_same a9 (fun j _ => by simp [si1]), a10, a11, hq⟩
theorem PM_pop {c : Nat} (h : PM e μ0 p o (c :: st) cd μ) : PM e μ0 p o st cd (si μ 0 50 (nI st.length)) := by
  obtain ⟨a1, a2, a3, a4, a5, a6, a7, a8, a9, a10, a11, a12⟩ := h
  have : (c :: st).length = st.length + 1 := rfl
  exact ⟨FrP_si a1 (by omega), by simp [si1, a2], by simp [si1, a3], by simp [si1, a4], by simp [si1, a5], by simp [si1], by simp [si1, a7], StK_same st (fun j _ => by simp [si1]) a8.2.2, CdK_same a9 (fun j _ => by simp [si1]), by omega, a11, a12⟩
theorem PM_push (h : PM e μ0 p o st cd μ) {c : Nat} (hc : c < 256) (hp : p < e) : PM e μ0 (p + 1) o (c :: st) cd (si (si (si μ 54 st.length (nI c)) 0 50 (nI (st.length + 1))) 0 44 (nI (p + 1))) := by
  obtain ⟨a1, a2, a3, a4, a5, a6, a7, a8, a9, a10, a11, a12⟩ := h
  have : (c :: st).length = st.length + 1 := rfl
  refine ⟨FrP_si (FrP_si (FrP_si a1 (by omega)) (by omega)) (by omega), by simp [si1], by simp [si1, a3], by simp [si1, a4], by simp [si1, a5], by simp [si1], by simp [si1, a7], ⟨by simp [si1], hc, StK_same st (fun j hj => ?_) a8⟩, CdK_same a9 (fun j _ => by simp [si1]), by omega, hp, a12⟩
  rw [si1, if_neg (by omega), si1, if_neg (by omega), si1, if_neg (by omega)]
/-- code comes behind; a place more is due -/
theorem PM_code (h : PM e μ0 p o st cd μ) {x : Nat × Nat} {st' : List Nat} (hl : st' = st) (hs : cd.length + 1 + st.length ≤ p) : PM e μ0 p o st' (cd ++ [x]) (si (si (si μ 43 cd.length (nI x.1)) 44 cd.length (nI x.2)) 0 48 (nI (cd.length + 1))) := by
  subst hl
  obtain ⟨a1, a2, a3, a4, a5, a6, a7, a8, a9, a10, a11, a12⟩ := h
  refine ⟨FrP_si (FrP_si (FrP_si a1 (by omega)) (by omega)) (by omega), by simp [si1, a2], by simp [si1, a3], by simp [si1], by simp [si1, a5], by simp [si1, a6], by simp [si1, a7], StK_same _ (fun j _ => by simp [si1]) a8, CdK_app a9 (fun j hj => ⟨?_, ?_⟩) (by simp [si1]) (by simp [si1]), by rw [len_app1]; omega, a11, a12⟩
  · rw [si1, if_neg (by omega), si1, if_neg (by omega), si1, if_neg (by omega)]
  · rw [si1, if_neg (by omega), si1, if_neg (by omega), si1, if_neg (by omega)]
theorem PM_emp {c : Nat} (h : PM e μ0 p o (c :: st) cd μ) : PM e μ0 p o st (cd ++ [(c, 0)]) (si (si (si (si μ 43 cd.length (nI c)) 44 cd.length (nI 0)) 0 48 (nI (cd.length + 1))) 0 50 (nI st.length)) := by
  obtain ⟨a1, a2, a3, a4, a5, a6, a7, a8, a9, a10, a11, a12⟩ := h
  have : (c :: st).length = st.length + 1 := rfl
  refine ⟨FrP_si (FrP_si (FrP_si (FrP_si a1 (by omega)) (by omega)) (by omega)) (by omega), by simp [si1, a2], by simp [si1, a3], by simp [si1], by simp [si1, a5], by simp [si1], by simp [si1, a7], StK_same _ (fun j _ => by simp [si1]) a8.2.2, CdK_app a9 (fun j hj => ⟨?_, ?_⟩) (by simp [si1]) (by simp [si1]), by rw [len_app1]; omega, a11, a12⟩
  · rw [si1, if_neg (by omega), si1, if_neg (by omega), si1, if_neg (by omega), si1, if_neg (by omega)]
  · rw [si1, if_neg (by omega), si1, if_neg (by omega), si1, if_neg (by omega), si1, if_neg (by omega)]
theorem y_here (hT : Txt ch e μ0) (h : PM e μ0 p o st cd μ) {K : Int32 → z_M → Prop} (hK : K (nI (ch p)) μ) : C_X12_here μ K := by
  obtain ⟨t1, t2, t3, t4, t5⟩ := hT
  have h1 := h.1.1 0 45 (by omega) (by omega) (by omega) (by omega)
  have h2 := h.2.2.2.2.2.2.2.2.2.2.1
  unfold C_X12_here
  rw [h1, t2, h.2.1]
  refine ifc (nI_leI (by omega) (by omega)) (fun g => ?_) (fun g => ?_)
  · rw [t5 p g] at hK
    exact hK
  · rw [nI_clamp (by omega), h.1.1 1 p (by omega) (by omega) (by omega) (by omega), t3 p (by omega)]
    exact ⟨nI_vin (by omega) (by omega), hK⟩
theorem y_good (h : PM e μ0 p o st cd μ) {K : Int32 → z_M → Prop} (hK : K 1 μ) : C_X12_isGood μ K := by
  unfold C_X12_isGood
  rw [if_pos h.2.2.1]
  exact hK
theorem bm_0 {f a : Nat} (ha : 1 ≤ f) (hf : f ≤ 9) (hb : a ≤ 1000) : ¬ iI (-(1000 * (f : Int) + a)) = 0 ∧ ¬ (0 : Int32) ≤ iI (-(1000 * (f : Int) + a)) := by
  have e0 : (0 : Int32) = iI 0 := rfl
  refine ⟨fun q => ?_, fun q => ?_⟩
  · rw [e0, iI_eq (by omega) (by omega) (by omega) (by omega)] at q
    omega
  · rw [e0, iI_le (by omega) (by omega) (by omega) (by omega)] at q
    omega
theorem y_bad {f a : Nat} (h1 : 1 ≤ f) (h2 : f ≤ 9) (h3 : a ≤ 1000) (h : BM μ0 f a μ) {K : Int32 → z_M → Prop} (hK : K 0 μ) : C_X12_isGood μ K := by
  unfold C_X12_isGood
  rw [h.2, if_neg (bm_0 h1 h2 h3).1]
  exact hK
theorem y_wrongs (h0 : μ.1 0 46 = 0) {f a : Nat} {K : z_M → Prop} (hK : K (si μ 0 46 (iI (-(1000 * (f : Int) + a))))) : C_X12_wrongs (nI f) (nI a) μ K := by
  unfold C_X12_wrongs
  rw [h0, if_pos (by decide), show ((-1000 : Int32) * nI f) - nI a = iI (-(1000 * (f : Int) + a)) by
    rw [show (-1000 : Int32) = iI (-1000) by decide, ← iI_nat, ← iI_nat, iI_mul, iI_sub]
    congr 1
    omega]
  exact hK
theorem BM_of (h : FrP μ0 μ) {f a : Nat} : BM μ0 f a (si μ 0 46 (iI (-(1000 * (f : Int) + a)))) := ⟨FrP_si h (by omega), by rw [si1, if_pos ⟨rfl, rfl⟩]⟩
theorem BM_si {f a : Nat} (h : BM μ0 f a μ) {c k : Nat} {v : Int32} (hc : c = 0 ∧ (k = 44 ∨ (48 ≤ k ∧ k ≤ 52)) ∨ c = 43 ∨ c = 44 ∨ c = 54) : BM μ0 f a (si μ c k v) := ⟨FrP_si h.1 (by omega), by rw [si1, if_neg (by omega)]; exact h.2⟩
theorem y_top (h : PM e μ0 p o st cd μ) (he : e ≤ 160) {K : Int32 → z_M → Prop} (hK : K (nI (topN st)) μ) : C_X12_top μ K := by
  obtain ⟨a1, a2, a3, a4, a5, a6, a7, a8, a9, a10, a11, a12⟩ := h
  unfold C_X12_top
  rw [a6]
  cases st with
  | nil =>
    rw [if_pos (show nI ([] : List Nat).length ≤ 0 by decide)]
    exact hK
  | cons c t =>
    have hl : (c :: t).length = t.length + 1 := rfl
    rw [hl, if_neg (nI_nle (by omega) (by omega)), nI_pred, nI_clamp (by omega), a8.1]
    exact ⟨nI_vin (by omega) (by omega), hK⟩
theorem y_puts (h : PM e μ0 p o st cd μ) (he : e ≤ 160) {c : Nat} {K : z_M → Prop} (hK : K (si (si (si μ 54 st.length (nI c)) 0 50 (nI (st.length + 1))) 0 44 (nI (p + 1)))) : C_X12_puts (nI c) μ K := by
  obtain ⟨a1, a2, a3, a4, a5, a6, a7, a8, a9, a10, a11, a12⟩ := h
  unfold C_X12_puts
  rw [a6, nI_clamp (by omega), show (si μ 54 st.length (nI c)).1 0 50 = nI st.length by rw [si1, if_neg (by omega)]; exact a6, nI_1, show (si (si μ 54 st.length (nI c)) 0 50 (nI (st.length + 1))).1 0 44 = nI p by rw [si1, if_neg (by omega), si1, if_neg (by omega)]; exact a2, nI_1]
  exact ⟨nI_vin (by omega) (by omega), hK⟩
theorem y_emit (h : PM e μ0 p o st cd μ) (hl : cd.length < 160) {a b : Nat} {K : z_M → Prop} (hK : K (si (si (si μ 43 cd.length (nI a)) 44 cd.length (nI b)) 0 48 (nI (cd.length + 1)))) : C_X12_emit (nI a) (nI b) μ K := by
  unfold C_X12_emit
  refine y_good h ?_
  obtain ⟨a1, a2, a3, a4, a5, a6, a7, a8, a9, a10, a11, a12⟩ := h
  rw [if_neg i10, a4, nI_clamp (by omega), show (si μ 43 cd.length (nI a)).1 0 48 = nI cd.length by rw [si1, if_neg (by omega)]; exact a4, nI_clamp (by omega), show (si (si μ 43 cd.length (nI a)) 44 cd.length (nI b)).1 0 48 = nI cd.length by rw [si1, if_neg (by omega), si1, if_neg (by omega)]; exact a4, nI_1]
  exact ⟨nI_vin (by omega) (by omega), nI_vin (by omega) (by omega), hK⟩
/-- the top is sent to the code -/
theorem y_emp {c : Nat} (h : PM e μ0 p o (c :: st) cd μ) (he : e ≤ 160) {K : z_M → Prop} (hK : ∀ μ', PM e μ0 p o st (cd ++ [(c, 0)]) μ' → μ'.1 0 52 = μ.1 0 52 → K μ') : C_X12_emit (nI c) 0 μ (fun μ3 => K (si μ3 0 50 ((μ3.1 0 50) - 1))) := by
  have hl : (c :: st).length = st.length + 1 := rfl
  have h2 := PM_emp h
  have a6 := h.2.2.2.2.2.1
  have a10 := h.2.2.2.2.2.2.2.2.2.1
  have a11 := h.2.2.2.2.2.2.2.2.2.2.1
  refine y_emit (b := 0) h (by omega) ?_
  have e5 : (si (si (si μ 43 cd.length (nI c)) 44 cd.length (nI 0)) 0 48 (nI (cd.length + 1))).1 0 50 - 1 = nI st.length := by
    rw [si1, if_neg (by omega), si1, if_neg (by omega), si1, if_neg (by omega), a6, hl, nI_pred]
  rw [e5]
  exact hK _ h2 (by simp [si1])
theorem y_isTimes {c : Nat} (hc : c < 2 ^ 31) {K : Int32 → z_M → Prop} (h1 : tmP c → K 1 μ) (h0 : ¬ tmP c → K 0 μ) : C_X12_isTimes (nI c) μ K := by
  unfold C_X12_isTimes
  exact ifc (nI_eq (b := 42) hc (by decide)) (fun q => h1 (by omega)) fun q => ifc (nI_eq (b := 47) hc (by decide)) (fun q2 => h1 (by omega)) fun q2 => ifc (nI_eq (b := 37) hc (by decide)) (fun q3 => h1 (by omega)) fun q3 => h0 (by omega)
theorem y_isPlus {c : Nat} (hc : c < 2 ^ 31) {K : Int32 → z_M → Prop} (h1 : plP c → K 1 μ) (h0 : ¬ plP c → K 0 μ) : C_X12_isPlus (nI c) μ K := by
  unfold C_X12_isPlus
  exact ifc (nI_eq (b := 43) hc (by decide)) (fun q => h1 (by omega)) fun q => ifc (nI_eq (b := 45) hc (by decide)) (fun q2 => h1 (by omega)) fun q2 => h0 (by omega)
theorem y_isSign {c : Nat} (hc : c < 2 ^ 31) {K : Int32 → z_M → Prop} (h1 : sgP c → K 1 μ) (h0 : ¬ sgP c → K 0 μ) : C_X12_isSign (nI c) μ K := by
  unfold C_X12_isSign
  exact ifc (nI_eq (b := 60) hc (by decide)) (fun q => h1 (by omega)) fun q => ifc (nI_eq (b := 62) hc (by decide)) (fun q2 => h1 (by omega)) fun q2 => ifc (nI_eq (b := 61) hc (by decide)) (fun q3 => h1 (by omega)) fun q3 => h0 (by omega)
theorem y_isValue {c : Nat} (hc : c < 2 ^ 31) {K : Int32 → z_M → Prop} (h1 : ltP c → K 1 μ) (h0 : ¬ ltP c → K 0 μ) : C_X12_isValue (nI c) μ K := by
  unfold C_X12_isValue
  exact ifc (nI_eq (b := 104) hc (by decide)) (fun q => h1 (by omega)) fun q => ifc (nI_eq (b := 105) hc (by decide)) (fun q2 => h1 (by omega)) fun q2 => ifc (nI_eq (b := 107) hc (by decide)) (fun q3 => h1 (by omega)) fun q3 => ifc (nI_eq (b := 122) hc (by decide)) (fun q4 => h1 (by omega)) fun q4 => ifc (nI_eq (b := 109) hc (by decide)) (fun q5 => h1 (by omega)) fun q5 => ifc (nI_eq (b := 113) hc (by decide)) (fun q6 => h1 (by omega)) fun q6 => ifc (nI_eq (b := 116) hc (by decide)) (fun q7 => h1 (by omega)) fun q7 => ifc (nI_eq (b := 110) hc (by decide)) (fun q8 => h1 (by omega)) fun q8 => ifc (nI_eq (b := 111) hc (by decide)) (fun q9 => h1 (by omega)) fun q9 => h0 (by omega)
theorem y_seesDigit (hT : Txt ch e μ0) (h : PM e μ0 p o st cd μ) {K : Int32 → z_M → Prop} (h1 : dgP (ch p) → K 1 μ) (h0 : ¬ dgP (ch p) → K 0 μ) : C_X12_seesDigit μ K := by
  have hc := hT.2.2.2.1 p
  unfold C_X12_seesDigit
  refine y_here hT h (r_liesC (lo := 48) (hi := 57) (x := 48) (y := 57) rfl rfl (by decide) (by decide) (fun j j1 j2 ej => ?_) (fun g => h0 fun q => g (ch p) q.1 q.2 rfl))
  have := (nI_eq (by omega) (by omega)).mp ej
  exact h1 (by omega)
theorem PM_top {c : Nat} (h : PM e μ0 p o (c :: st) cd μ) : c < 256 := h.2.2.2.2.2.2.2.1.2.1
theorem topN_lt (h : PM e μ0 p o st cd μ) : topN st < 2 ^ 31 := by
  cases st with
  | nil => decide
  | cons c t =>
    have := PM_top h
    show c < 2 ^ 31
    omega
theorem y_sums (he : e ≤ 160) {pl : Bool} {v : Int32} (hv : v = nI (b2n pl)) {K : z_M → Prop} (h : PM e μ0 p o st cd μ) (hK : ∀ μ', PM e μ0 p o (flS pl st).1 (cd ++ (flS pl st).2) μ' → μ'.1 0 52 = μ.1 0 52 → K μ') : C_X12_sums v μ K := by
  unfold C_X12_sums L_X12_sums_0
  intro P hP
  have go : ∀ (st : List Nat) (cd : List (Nat × Nat)) (μ1 : z_M), PM e μ0 p o st cd μ1 → μ1.1 0 52 = μ.1 0 52 → (∀ μ', PM e μ0 p o (flS pl st).1 (cd ++ (flS pl st).2) μ' → μ'.1 0 52 = μ.1 0 52 → K μ') → P v μ1 := by
    intro st
    induction st with
    | nil =>
      intro cd μ1 h hb hK
      refine hP _ _ ?_
      unfold B_X12_sums_0
      have k := hK μ1 (by rw [show cd ++ (flS pl []).2 = cd from List.append_nil cd]; exact h) hb
      refine y_top h he (y_isTimes (by decide) (fun q => absurd (show tmP 0 from q) (by decide)) (fun _ => ?_))
      rw [if_pos rfl]
      refine ifd (fun _ => k) (fun _ => y_top h he (y_isPlus (by decide) (fun q => absurd (show plP 0 from q) (by decide)) (fun _ => ?_)))
      rw [if_pos rfl]
      exact k
    | cons c t ih =>
      intro cd μ1 h hb hK
      have hc := PM_top h
      refine hP _ _ ?_
      unfold B_X12_sums_0 L_X12_sums_24
      have yes : (tmP c ∨ (pl = true ∧ plP c)) → C_X12_top μ1 (fun r2 μ1 => C_X12_emit r2 ((0 : Int32)) μ1 (fun μ3 => P v (si μ3 0 50 ((μ3.1 0 50) - ((1 : Int32)))))) := fun q => by
        refine y_top h he (y_emp h he (K := fun m => P v m) fun μ' h' hb' => ih (cd ++ [(c, 0)]) μ' h' (hb'.trans hb) fun μ2 h2 hb2 => hK μ2 ?_ hb2)
        unfold flS
        rw [if_pos q]
        rw [List.append_assoc] at h2
        exact h2
      have no : ¬ (tmP c ∨ (pl = true ∧ plP c)) → K μ1 := fun q => by
        refine hK μ1 ?_ hb
        unfold flS
        rw [if_neg q, List.append_nil]
        exact h
      refine y_top h he (y_isTimes (by show c < _; omega) (fun q => ?_) (fun q => ?_))
      · rw [if_neg i10]
        exact yes (Or.inl q)
      · rw [if_pos rfl]
        cases pl with
        | false =>
          rw [if_pos (show v = 0 from hv)]
          exact no fun z => z.elim q fun z => by cases z.1
        | true =>
          rw [if_neg (show ¬ v = 0 by rw [hv]; exact i10)]
          refine y_top h he (y_isPlus (by show c < _; omega) (fun q2 => ?_) (fun q2 => ?_))
          · rw [if_neg i10]
            exact yes (Or.inr ⟨rfl, q2⟩)
          · rw [if_pos rfl]
            exact no fun z => z.elim q fun z => q2 z.2
  exact go st cd μ h rfl hK
theorem y_joins (he : e ≤ 160) {pl : Bool} {v : Int32} (hv : v = nI (b2n pl)) {K : z_M → Prop} (h : PM e μ0 p o st cd μ) (hK : ∀ μ', PM e μ0 p o (flJ pl st).1 (cd ++ (flJ pl st).2) μ' → K μ') : C_X12_joins v μ K := by
  unfold C_X12_joins L_X12_joins_0
  intro P hP
  have go : ∀ (st : List Nat) (cd : List (Nat × Nat)) (μ1 : z_M), PM e μ0 p o st cd μ1 → (∀ μ', PM e μ0 p o (flJ pl st).1 (cd ++ (flJ pl st).2) μ' → K μ') → P v μ1 := by
    intro st
    induction st with
    | nil =>
      intro cd μ1 h hK
      refine hP _ _ ?_
      unfold B_X12_joins_0
      have k := hK μ1 (by rw [show cd ++ (flJ pl []).2 = cd from List.append_nil cd]; exact h)
      refine y_top h he ?_
      rw [if_neg (by decide)]
      refine ifd (fun _ => k) (fun _ => y_top h he ?_)
      rw [if_neg (by decide)]
      exact k
    | cons c t ih =>
      intro cd μ1 h hK
      have hc := PM_top h
      refine hP _ _ ?_
      unfold B_X12_joins_0 L_X12_joins_22
      have yes : (c = 38 ∨ (pl = true ∧ c = 124)) → C_X12_top μ1 (fun r2 μ1 => C_X12_emit r2 ((0 : Int32)) μ1 (fun μ3 => P v (si μ3 0 50 ((μ3.1 0 50) - ((1 : Int32)))))) := fun q => by
        refine y_top h he (y_emp h he (K := fun m => P v m) fun μ' h' hb' => ih (cd ++ [(c, 0)]) μ' h' fun μ2 h2 => hK μ2 ?_)
        unfold flJ
        rw [if_pos q]
        rw [List.append_assoc] at h2
        exact h2
      have no : ¬ (c = 38 ∨ (pl = true ∧ c = 124)) → K μ1 := fun q => by
        refine hK μ1 ?_
        unfold flJ
        rw [if_neg q, List.append_nil]
        exact h
      refine y_top h he (ifc (nI_eq (a := c) (b := 38) (by omega) (by decide)) (fun q => yes (Or.inl q)) (fun q => ?_))
      cases pl with
      | false =>
        rw [if_pos (show v = 0 from hv)]
        exact no fun z => z.elim q fun z => by cases z.1
      | true =>
        rw [if_neg (show ¬ v = 0 by rw [hv]; exact i10)]
        exact y_top h he (ifc (nI_eq (a := c) (b := 124) (by omega) (by decide)) (fun q2 => yes (Or.inr ⟨rfl, q2⟩)) (fun q2 => no fun z => z.elim q fun z => q2 z.2))
  exact go st cd μ h hK
/-- the marks of ! that stand on top are done with -/
def endP (Q : Nat → List Nat → List (Nat × Nat) → Prop) : Nat → List Nat → List (Nat × Nat) → Prop
  | o, [], cd => Q o [] cd
  | o, c :: t, cd => if c = 33 then endP Q (o - 1) t (cd ++ [(2, 0)]) else Q o (c :: t) cd
theorem y_ends (he : e ≤ 160) {K : z_M → Prop} {Q : Nat → List Nat → List (Nat × Nat) → Prop} (hQ : ∀ o st cd μ', Q o st cd → PM e μ0 p o st cd μ' → K μ') (h : PM e μ0 p o st cd μ) (ho : (st.filter fun c => c = 33).length ≤ o) (hE : endP Q o st cd) : C_X12_ends μ K := by
  unfold C_X12_ends L_X12_ends_0
  intro P hP
  have go : ∀ (st : List Nat) (o : Nat) (cd : List (Nat × Nat)) (μ1 : z_M), PM e μ0 p o st cd μ1 → (st.filter fun c => c = 33).length ≤ o → endP Q o st cd → P μ1 := by
    intro st
    induction st with
    | nil =>
      intro o cd μ1 h ho hE
      refine hP _ ?_
      unfold B_X12_ends_0
      refine y_top h he ?_
      rw [if_neg (by decide)]
      exact hQ o [] cd μ1 hE h
    | cons c t ih =>
      intro o cd μ1 h ho hE
      have hc := PM_top h
      refine hP _ ?_
      unfold B_X12_ends_0
      refine y_top h he (ifc (nI_eq (a := c) (b := 33) (by omega) (by decide)) (fun q => ?_) (fun q => ?_))
      · unfold endP at hE
        rw [if_pos q] at hE
        subst q
        have hl : (33 :: t).length = t.length + 1 := rfl
        have ho1 : (List.filter (fun c => decide (c = 33)) t).length + 1 ≤ o := ho
        have a5 := h.2.2.2.2.1
        have a6 := h.2.2.2.2.2.1
        have a10 := h.2.2.2.2.2.2.2.2.2.1
        have a11 := h.2.2.2.2.2.2.2.2.2.2.1
        have a12 := h.2.2.2.2.2.2.2.2.2.2.2
        refine y_emit (a := 2) (b := 0) h (by omega) ?_
        have e5 : (si (si (si μ1 43 cd.length (nI 2)) 44 cd.length (nI 0)) 0 48 (nI (cd.length + 1))).1 0 50 - 1 = nI t.length := by
          rw [si1, if_neg (by omega), si1, if_neg (by omega), si1, if_neg (by omega), a6, hl, nI_pred]
        have e6 : (si (si (si (si μ1 43 cd.length (nI 2)) 44 cd.length (nI 0)) 0 48 (nI (cd.length + 1))) 0 50 (nI t.length)).1 0 49 - 1 = nI (o - 1) := by
          rw [si1, if_neg (by omega), si1, if_neg (by omega), si1, if_neg (by omega), si1, if_neg (by omega), a5, show o = (o - 1) + 1 by omega, nI_pred]
          rfl
        rw [e5, e6]
        refine ih (o - 1) (cd ++ [(2, 0)]) _ (PM_open (o := o) ?_ (by omega)) (by omega) hE
        obtain ⟨a1, a2, a3, a4, a5, a6, a7, a8, a9, a10, a11, a12⟩ := h
        refine ⟨FrP_si (FrP_si (FrP_si (FrP_si a1 (by omega)) (by omega)) (by omega)) (by omega), by simp [si1, a2], by simp [si1, a3], by simp [si1], by simp [si1, a5], by simp [si1], by simp [si1, a7], StK_same _ (fun j _ => by simp [si1]) a8.2.2, CdK_app a9 (fun j hj => ⟨?_, ?_⟩) (by simp [si1]) (by simp [si1]), by rw [len_app1]; omega, a11, a12⟩
        · rw [si1, if_neg (by omega), si1, if_neg (by omega), si1, if_neg (by omega), si1, if_neg (by omega)]
        · rw [si1, if_neg (by omega), si1, if_neg (by omega), si1, if_neg (by omega), si1, if_neg (by omega)]
      · unfold endP at hE
        rw [if_neg q] at hE
        exact hQ o (c :: t) cd μ1 hE h
  exact go st o cd μ h ho hE
theorem y_opens (hT : Txt ch e μ0) (h : PM e μ0 p o st cd μ) (hp : p < e) {K : z_M → Prop} (h1 : o < 6 → ∀ μ', PM e μ0 (p + 1) (o + 1) (ch p :: st) cd μ' → K μ') (h0 : 6 ≤ o → ∀ μ', BM μ0 5 p μ' → K μ') : C_X12_opens μ K := by
  have he := hT.1
  have hc := hT.2.2.2.1 p
  have ao := h.2.2.2.2.2.2.2.2.2.2.2
  have a5 := h.2.2.2.2.1
  unfold C_X12_opens L_X12_opens_18
  rw [a5]
  refine ifc (nI_eq (b := 6) (by omega) (by decide)) (fun q => ?_) (fun q => ?_)
  · rw [h.2.1]
    refine y_wrongs (f := 5) h.2.2.1 ?_
    have e9 : (si μ 0 46 (iI (-(1000 * ((5 : Nat) : Int) + p)))).1 0 49 + 1 = nI 7 := by
      rw [si1, if_neg (by omega), a5, q]
      rfl
    have hb := BM_si (BM_of (f := 5) (a := p) h.1) (c := 0) (k := 49) (v := nI 7) (by omega)
    rw [e9]
    generalize hm : si (si μ 0 46 (iI (-(1000 * ((5 : Nat) : Int) + p)))) 0 49 (nI 7) = m at hb ⊢
    have m44 : m.1 0 44 = nI p := by rw [← hm, si1, if_neg (by omega), si1, if_neg (by omega)]; exact h.2.1
    have m50 : m.1 0 50 = nI st.length := by rw [← hm, si1, if_neg (by omega), si1, if_neg (by omega)]; exact h.2.2.2.2.2.1
    have hl := h.2.2.2.2.2.2.2.2.2.1
    obtain ⟨t1, t2, t3, t4, t5⟩ := hT
    unfold C_X12_here
    rw [hb.1.1 0 45 (by omega) (by omega) (by omega) (by omega), t2, m44]
    refine ifc (nI_leI (by omega) (by omega)) (fun g => absurd g (by omega)) (fun _ => ?_)
    refine ⟨nI_vin (by omega) (by omega), ?_⟩
    unfold C_X12_puts
    dsimp only
    rw [m50, nI_clamp (n := st.length) (by omega)]
    exact ⟨nI_vin (by omega) (by omega), h0 (by omega) _ (BM_si (BM_si (BM_si hb (by omega)) (by omega)) (by omega))⟩
  · rw [nI_1]
    have h2 := PM_open h (q := o + 1) (by omega)
    exact y_here hT h2 (y_puts h2 he (h1 (by omega) _ (PM_push h2 hc hp)))
end YARD
