/-! The first state: both objects made. -/
section FIRST
variable {kd kd' : z_K} {q q' : z_Q} {μ μ' : z_M}
/-- the first state -/
def S0 : z_SS := (fun _ _ => 0, fun c k => if c = 17 ∧ k < 96 then none else some 0, fun _ => [])
def kd0 : z_K := fun _ => none
def q0 : z_Q := fun _ _ => none
def μ0 : z_M := (fun _ _ => 0, fun _ _ => 0)
theorem S0_Inv : Inv S0 := by
  refine ⟨⟨⟨by decide, by decide, by decide, by decide, by decide, by decide⟩, fun s hs => absurd hs (Nat.not_lt_zero s), fun r hr => absurd hr (Nat.not_lt_zero r), fun b hb => absurd hb (Nat.not_lt_zero b), fun b r h s hb hr hh e => ?_, fun b r h s hb hr => absurd hr (Nat.not_lt_zero r), fun i hi => absurd hi (Nat.not_lt_zero i), fun r h hr => absurd hr (Nat.not_lt_zero r), fun _ => Nat.zero_le _, fun _ => (show 0 < 256 by decide), fun r _ _ => ⟨rfl, rfl, fun _ _ => rfl⟩, fun b _ _ => ⟨rfl, rfl⟩⟩, fun b hb cl hcl => absurd hcl (List.not_mem_nil), fun i hi => absurd hi (Nat.not_lt_zero i), fun b r h _ _ hr => absurd hr (Nat.not_lt_zero r)⟩
  have e2 : S0.2.1 17 (24 * b + 8 * r + h) = none := if_pos ⟨rfl, by omega⟩
  rw [e2] at e
  cases e
theorem upF {i : Nat} (h : ∀ a, i ≤ a → Fr kd q a) {n : Nat} (hn : i ≤ n) {t : z_T} : ∀ a, n + 1 ≤ a → Fr (z_up kd n t) (z_q0 q n) a := fun a ha => Fr_up (h a (by omega)) (by omega)
theorem srF {i : Nat} (h : ∀ a, i ≤ a → Fr kd q a) {c k y : Nat} (hy : y < i) : ∀ a, i ≤ a → Fr kd (sr q c k (some y)) a := fun a ha => Fr_sr (h a ha) (by omega)
theorem Fq0 : ∀ a, 0 ≤ a → Fr kd0 q0 a := fun a _ => ⟨rfl, fun c j _ h => by cases h⟩
/-- the cells below i are there, and no others; nothing points elsewhere -/
def StN (i : Nat) (kd : z_K) (q : z_Q) : Prop := (∀ a, i ≤ a → kd a = none) ∧ (∀ a, a < i → kd a ≠ none) ∧ ∀ c j a, c < i → q c j = some a → a < i
theorem StN_up {i : Nat} {t : z_T} (h : StN i kd q) : StN (i + 1) (z_up kd i t) (z_q0 q i) := by
  refine ⟨fun a ha => by rw [z_up_ne (by omega)]; exact h.1 a (by omega), fun a ha => ?_, fun c j a hc e => ?_⟩
  · by_cases g : a = i
    · rw [g, z_up_eq]
      exact fun z => by cases z
    · rw [z_up_ne g]
      exact h.2.1 a (by omega)
  · rw [zq0] at e
    by_cases g : c = i
    · rw [if_pos g] at e
      cases e
    · rw [if_neg g] at e
      have := h.2.2 c j a (by omega) e
      omega
theorem StN_sr {i c k y : Nat} (h : StN i kd q) (hy : y < i) : StN i kd (sr q c k (some y)) := by
  refine ⟨h.1, h.2.1, fun c' j a hc e => ?_⟩
  rw [zsr] at e
  split at e
  · cases e
    exact hy
  · exact h.2.2 c' j a hc e
theorem StN.fr {i : Nat} (h : StN i kd q) : Fr kd q i := ⟨h.1 i (Nat.le_refl _), fun c j hc e => by
  have hci : c < i := Nat.lt_of_not_le fun g => hc (h.1 c g)
  have := h.2.2 c j i hci e
  omega⟩
theorem z_fin_11i {k : Nat} {f : Nat → Nat} {t : z_T} (h : z_fin 11 k = some (f, t)) : k = 0 ∨ k = 1 ∨ k = 2 ∨ k = 3 ∨ k = 4 ∨ k = 5 ∨ k = 6 ∨ k = 7 ∨ k = 8 ∨ k = 9 ∨ k = 10 ∨ k = 11 := by
  by_cases hh : k = 0 ∨ k = 1 ∨ k = 2 ∨ k = 3 ∨ k = 4 ∨ k = 5 ∨ k = 6 ∨ k = 7 ∨ k = 8 ∨ k = 9 ∨ k = 10 ∨ k = 11
  · exact hh
  · exfalso
    unfold z_fin at h
    split at h <;> first | contradiction | (simp_all; done) | omega
theorem z_fin_10i {k : Nat} {f : Nat → Nat} {t : z_T} (h : z_fin 10 k = some (f, t)) : k = 0 := by
  by_cases hh : k = 0
  · exact hh
  · exfalso
    unfold z_fin at h
    split at h <;> first | contradiction | (simp_all; done) | omega
theorem z_fin_3i {k : Nat} {f : Nat → Nat} {t : z_T} (h : z_fin 3 k = some (f, t)) : k = 0 ∨ k = 1 := by
  by_cases hh : k = 0 ∨ k = 1
  · exact hh
  · exfalso
    unfold z_fin at h
    split at h <;> first | contradiction | (simp_all; done) | omega
theorem z_fin_8i {k : Nat} {f : Nat → Nat} {t : z_T} (h : z_fin 8 k = some (f, t)) : k = 0 := by
  by_cases hh : k = 0
  · exact hh
  · exfalso
    unfold z_fin at h
    split at h <;> first | contradiction | (simp_all; done) | omega
theorem z_fin_7i {k : Nat} {f : Nat → Nat} {t : z_T} (h : z_fin 7 k = some (f, t)) : k = 0 := by
  by_cases hh : k = 0
  · exact hh
  · exfalso
    unfold z_fin at h
    split at h <;> first | contradiction | (simp_all; done) | omega
theorem z_fin_2i {k : Nat} {f : Nat → Nat} {t : z_T} (h : z_fin 2 k = some (f, t)) : k = 0 ∨ k = 1 ∨ k = 2 ∨ k = 3 := by
  by_cases hh : k = 0 ∨ k = 1 ∨ k = 2 ∨ k = 3
  · exact hh
  · exfalso
    unfold z_fin at h
    split at h <;> first | contradiction | (simp_all; done) | omega
theorem z_fin_4i {k : Nat} {f : Nat → Nat} {t : z_T} (h : z_fin 4 k = some (f, t)) : k = 0 := by
  by_cases hh : k = 0
  · exact hh
  · exfalso
    unfold z_fin at h
    split at h <;> first | contradiction | (simp_all; done) | omega
theorem z_fin_5i {k : Nat} {f : Nat → Nat} {t : z_T} (h : z_fin 5 k = some (f, t)) : k = 0 ∨ k = 1 := by
  by_cases hh : k = 0 ∨ k = 1
  · exact hh
  · exfalso
    unfold z_fin at h
    split at h <;> first | contradiction | (simp_all; done) | omega
theorem z_fin_9i {k : Nat} {f : Nat → Nat} {t : z_T} (h : z_fin 9 k = some (f, t)) : False := by
  unfold z_fin at h
  split at h <;> first | contradiction | (simp_all; done) | omega
theorem z_fin_12i {k : Nat} {f : Nat → Nat} {t : z_T} (h : z_fin 12 k = some (f, t)) : k = 0 ∨ k = 7 ∨ k = 8 ∨ k = 9 ∨ k = 10 ∨ k = 11 ∨ k = 12 ∨ k = 13 ∨ k = 14 ∨ k = 15 ∨ k = 16 ∨ k = 17 ∨ k = 18 ∨ k = 19 ∨ k = 20 ∨ k = 21 ∨ k = 22 ∨ k = 23 ∨ k = 24 ∨ k = 25 ∨ k = 26 ∨ k = 27 ∨ k = 28 ∨ k = 31 ∨ k = 32 ∨ k = 33 ∨ k = 34 ∨ k = 35 ∨ k = 36 ∨ k = 37 ∨ k = 38 ∨ k = 39 ∨ k = 40 ∨ k = 41 ∨ k = 42 ∨ k = 43 ∨ k = 53 ∨ k = 57 ∨ k = 58 ∨ k = 59 ∨ k = 60 := by
  by_cases hh : k = 0 ∨ k = 7 ∨ k = 8 ∨ k = 9 ∨ k = 10 ∨ k = 11 ∨ k = 12 ∨ k = 13 ∨ k = 14 ∨ k = 15 ∨ k = 16 ∨ k = 17 ∨ k = 18 ∨ k = 19 ∨ k = 20 ∨ k = 21 ∨ k = 22 ∨ k = 23 ∨ k = 24 ∨ k = 25 ∨ k = 26 ∨ k = 27 ∨ k = 28 ∨ k = 31 ∨ k = 32 ∨ k = 33 ∨ k = 34 ∨ k = 35 ∨ k = 36 ∨ k = 37 ∨ k = 38 ∨ k = 39 ∨ k = 40 ∨ k = 41 ∨ k = 42 ∨ k = 43 ∨ k = 53 ∨ k = 57 ∨ k = 58 ∨ k = 59 ∨ k = 60
  · exact hh
  · exfalso
    unfold z_fin at h
    split at h <;> first | contradiction | (simp_all; done) | omega
/-- the class's cells behind its making -/
def kF : z_K := fun c => match c with
  | 0 => some (.inl 11)
  | 1 => some (.inl 10)
  | 2 => some (.inr (0, 200))
  | 3 => some (.inl 3)
  | 4 => some (.inr (0, 24))
  | 5 => some (.inr (0, 24))
  | 6 => some (.inr (10, 3))
  | 7 => some (.inr (5, 4))
  | 8 => some (.inr (4, 80))
  | 9 => some (.inl 8)
  | 10 => some (.inl 7)
  | 11 => some (.inl 9)
  | 12 => some (.inl 2)
  | 13 => some (.inr (0, 8))
  | 14 => some (.inr (0, 8))
  | 15 => some (.inr (0, 8))
  | 16 => some (.inr (0, 8))
  | 17 => some (.inl 4)
  | 18 => some (.inr (0, 8))
  | 19 => some (.inl 5)
  | 20 => some (.inr (0, 20))
  | 21 => some (.inr (0, 8))
  | 22 => some (.inr (0, 256))
  | _ => none
theorem c_init11 {K : z_K → z_Q → z_M → Prop} (hK : ∀ kd' q' μ', KQ S0 kd' q' → RepV S0 μ' → K kd' q' μ') : C_X11_init (z_up kd0 0 (.inl 11)) (z_q0 q0 0) 0 (z_m0 μ0 0) K := by
  have s0 : StN 1 (z_up kd0 0 (.inl 11)) (z_q0 q0 0) := StN_up (i := 0) ⟨fun _ _ => rfl, fun a ha => absurd ha (Nat.not_lt_zero a), fun c j a _ e => by cases e⟩
  unfold C_X11_init C_X10_init C_X3_init C_X8_init C_X7_init C_X9_init C_X2_init C_X4_init C_X5_init
  refine ⟨1, s0.fr.1, s0.fr.2, fun kd1 q1 μ1 e1 e2 e3 => ?_⟩
  have s1 : StN 2 kd1 q1 := by
    rw [e1, e2]
    exact StN_up s0
  subst e1
  subst e2
  subst e3
  refine ⟨2, s1.fr.1, s1.fr.2, fun kd2 q2 μ2 e1 e2 e3 => ?_⟩
  have s2 : StN 3 kd2 q2 := by
    rw [e1, e2]
    exact StN_up s1
  subst e1
  subst e2
  subst e3
  have s2' := StN_sr (c := 1) (k := 0) (y := 2) s2 (by decide)
  have s2'' := StN_sr (c := 0) (k := 0) (y := 1) s2' (by decide)
  refine ⟨3, s2''.fr.1, s2''.fr.2, fun kd3 q3 μ3 e1 e2 e3 => ?_⟩
  have s3 : StN 4 kd3 q3 := by
    rw [e1, e2]
    exact StN_up s2''
  subst e1
  subst e2
  subst e3
  refine ⟨4, s3.fr.1, s3.fr.2, fun kd4 q4 μ4 e1 e2 e3 => ?_⟩
  have s4 : StN 5 kd4 q4 := by
    rw [e1, e2]
    exact StN_up s3
  subst e1
  subst e2
  subst e3
  have s4' := StN_sr (c := 3) (k := 0) (y := 4) s4 (by decide)
  refine ⟨5, s4'.fr.1, s4'.fr.2, fun kd5 q5 μ5 e1 e2 e3 => ?_⟩
  have s5 : StN 6 kd5 q5 := by
    rw [e1, e2]
    exact StN_up s4'
  subst e1
  subst e2
  subst e3
  have s5' := StN_sr (c := 3) (k := 1) (y := 5) s5 (by decide)
  have s5'' := StN_sr (c := 0) (k := 1) (y := 3) s5' (by decide)
  refine ⟨6, s5''.fr.1, s5''.fr.2, fun kd6 q6 μ6 e1 e2 e3 => ?_⟩
  have s6 : StN 7 kd6 q6 := by
    rw [e1, e2]
    exact StN_up s5''
  subst e1
  subst e2
  subst e3
  have s6' := StN_sr (c := 0) (k := 2) (y := 6) s6 (by decide)
  refine ⟨7, s6'.fr.1, s6'.fr.2, fun kd7 q7 μ7 e1 e2 e3 => ?_⟩
  have s7 : StN 8 kd7 q7 := by
    rw [e1, e2]
    exact StN_up s6'
  subst e1
  subst e2
  subst e3
  have s7' := StN_sr (c := 0) (k := 3) (y := 7) s7 (by decide)
  refine ⟨8, s7'.fr.1, s7'.fr.2, fun kd8 q8 μ8 e1 e2 e3 => ?_⟩
  have s8 : StN 9 kd8 q8 := by
    rw [e1, e2]
    exact StN_up s7'
  subst e1
  subst e2
  subst e3
  have s8' := StN_sr (c := 0) (k := 4) (y := 8) s8 (by decide)
  refine ⟨9, s8'.fr.1, s8'.fr.2, fun kd9 q9 μ9 e1 e2 e3 => ?_⟩
  have s9 : StN 10 kd9 q9 := by
    rw [e1, e2]
    exact StN_up s8'
  subst e1
  subst e2
  subst e3
  refine ⟨3, rfl, rfl, ?_⟩
  have s9' := StN_sr (c := 9) (k := 0) (y := 3) s9 (by decide)
  have s9'' := StN_sr (c := 0) (k := 5) (y := 9) s9' (by decide)
  refine ⟨10, s9''.fr.1, s9''.fr.2, fun kd10 q10 μ10 e1 e2 e3 => ?_⟩
  have s10 : StN 11 kd10 q10 := by
    rw [e1, e2]
    exact StN_up s9''
  subst e1
  subst e2
  subst e3
  refine ⟨9, rfl, rfl, ?_⟩
  have s10' := StN_sr (c := 10) (k := 0) (y := 9) s10 (by decide)
  have s10'' := StN_sr (c := 0) (k := 6) (y := 10) s10' (by decide)
  refine ⟨11, s10''.fr.1, s10''.fr.2, fun kd11 q11 μ11 e1 e2 e3 => ?_⟩
  have s11 : StN 12 kd11 q11 := by
    rw [e1, e2]
    exact StN_up s10''
  subst e1
  subst e2
  subst e3
  have s11' := StN_sr (c := 0) (k := 7) (y := 11) s11 (by decide)
  refine ⟨12, s11'.fr.1, s11'.fr.2, fun kd12 q12 μ12 e1 e2 e3 => ?_⟩
  have s12 : StN 13 kd12 q12 := by
    rw [e1, e2]
    exact StN_up s11'
  subst e1
  subst e2
  subst e3
  refine ⟨13, s12.fr.1, s12.fr.2, fun kd13 q13 μ13 e1 e2 e3 => ?_⟩
  have s13 : StN 14 kd13 q13 := by
    rw [e1, e2]
    exact StN_up s12
  subst e1
  subst e2
  subst e3
  have s13' := StN_sr (c := 12) (k := 0) (y := 13) s13 (by decide)
  refine ⟨14, s13'.fr.1, s13'.fr.2, fun kd14 q14 μ14 e1 e2 e3 => ?_⟩
  have s14 : StN 15 kd14 q14 := by
    rw [e1, e2]
    exact StN_up s13'
  subst e1
  subst e2
  subst e3
  have s14' := StN_sr (c := 12) (k := 1) (y := 14) s14 (by decide)
  refine ⟨15, s14'.fr.1, s14'.fr.2, fun kd15 q15 μ15 e1 e2 e3 => ?_⟩
  have s15 : StN 16 kd15 q15 := by
    rw [e1, e2]
    exact StN_up s14'
  subst e1
  subst e2
  subst e3
  have s15' := StN_sr (c := 12) (k := 2) (y := 15) s15 (by decide)
  refine ⟨16, s15'.fr.1, s15'.fr.2, fun kd16 q16 μ16 e1 e2 e3 => ?_⟩
  have s16 : StN 17 kd16 q16 := by
    rw [e1, e2]
    exact StN_up s15'
  subst e1
  subst e2
  subst e3
  have s16' := StN_sr (c := 12) (k := 3) (y := 16) s16 (by decide)
  have s16'' := StN_sr (c := 0) (k := 8) (y := 12) s16' (by decide)
  refine ⟨17, s16''.fr.1, s16''.fr.2, fun kd17 q17 μ17 e1 e2 e3 => ?_⟩
  have s17 : StN 18 kd17 q17 := by
    rw [e1, e2]
    exact StN_up s16''
  subst e1
  subst e2
  subst e3
  refine ⟨18, s17.fr.1, s17.fr.2, fun kd18 q18 μ18 e1 e2 e3 => ?_⟩
  have s18 : StN 19 kd18 q18 := by
    rw [e1, e2]
    exact StN_up s17
  subst e1
  subst e2
  subst e3
  have s18' := StN_sr (c := 17) (k := 0) (y := 18) s18 (by decide)
  have s18'' := StN_sr (c := 0) (k := 9) (y := 17) s18' (by decide)
  refine ⟨19, s18''.fr.1, s18''.fr.2, fun kd19 q19 μ19 e1 e2 e3 => ?_⟩
  have s19 : StN 20 kd19 q19 := by
    rw [e1, e2]
    exact StN_up s18''
  subst e1
  subst e2
  subst e3
  refine ⟨20, s19.fr.1, s19.fr.2, fun kd20 q20 μ20 e1 e2 e3 => ?_⟩
  have s20 : StN 21 kd20 q20 := by
    rw [e1, e2]
    exact StN_up s19
  subst e1
  subst e2
  subst e3
  have s20' := StN_sr (c := 19) (k := 0) (y := 20) s20 (by decide)
  refine ⟨21, s20'.fr.1, s20'.fr.2, fun kd21 q21 μ21 e1 e2 e3 => ?_⟩
  have s21 : StN 22 kd21 q21 := by
    rw [e1, e2]
    exact StN_up s20'
  subst e1
  subst e2
  subst e3
  have s21' := StN_sr (c := 19) (k := 1) (y := 21) s21 (by decide)
  have s21'' := StN_sr (c := 0) (k := 10) (y := 19) s21' (by decide)
  refine ⟨22, s21''.fr.1, s21''.fr.2, fun kd22 q22 μ22 e1 e2 e3 => ?_⟩
  have s22 : StN 23 kd22 q22 := by
    rw [e1, e2]
    exact StN_up s21''
  subst e1
  subst e2
  subst e3
  have s22' := StN_sr (c := 0) (k := 11) (y := 22) s22 (by decide)
  revert s22'
  generalize hkd : z_up _ 22 _ = kd
  generalize hq : sr _ 0 11 (some 22) = q
  generalize hm : z_m0 _ 22 = μ
  intro st
  have hz : ∀ c k, (c < 3 ∨ c = 3) → μ.1 c k = 0 := fun c k hc => by
    rw [← hm]
    rcases (show c = 0 ∨ c = 1 ∨ c = 2 ∨ c = 3 by omega) with g | g | g | g <;> subst g <;> rfl
  have ge : ∀ c, c < 23 → kd c = kF c := fun c hc => by
    rw [← hkd]
    rcases (show c = 0 ∨ c = 1 ∨ c = 2 ∨ c = 3 ∨ c = 4 ∨ c = 5 ∨ c = 6 ∨ c = 7 ∨ c = 8 ∨ c = 9 ∨ c = 10 ∨ c = 11 ∨ c = 12 ∨ c = 13 ∨ c = 14 ∨ c = 15 ∨ c = 16 ∨ c = 17 ∨ c = 18 ∨ c = 19 ∨ c = 20 ∨ c = 21 ∨ c = 22 by omega) with g | g | g | g | g | g | g | g | g | g | g | g | g | g | g | g | g | g | g | g | g | g | g <;> subst g <;> rfl
  have lt : ∀ c t, kd c = some t → c < 23 := fun c t h => Nat.lt_of_not_le fun g => by
    rw [st.1 c g] at h
    cases h
  refine hK kd q μ ⟨⟨fun c ci hc k f t hf => ?_, fun c t n hc j a hj ha => ?_, fun c hc a ha => ?_, fun c hc a ha => ?_⟩, ge 0 (by decide), fun r hr => absurd hr (Nat.not_lt_zero r), fun b hb => absurd hb (Nat.not_lt_zero b), fun i hi => absurd hi (Nat.not_lt_zero i), fun a ha => st.1 a ?_, fun c j a hc ha => ?_⟩ ⟨⟨?_, ?_, ?_, ?_, ?_, fun k hk => ?_, ?_, fun s hs => absurd hs (Nat.not_lt_zero s)⟩, fun r hr => absurd hr (Nat.not_lt_zero r), fun b hb => absurd hb (Nat.not_lt_zero b), fun i hi => absurd hi (Nat.not_lt_zero i)⟩
  · have hl := lt c _ hc
    rw [ge c hl] at hc
    rcases (show c = 0 ∨ c = 1 ∨ c = 2 ∨ c = 3 ∨ c = 4 ∨ c = 5 ∨ c = 6 ∨ c = 7 ∨ c = 8 ∨ c = 9 ∨ c = 10 ∨ c = 11 ∨ c = 12 ∨ c = 13 ∨ c = 14 ∨ c = 15 ∨ c = 16 ∨ c = 17 ∨ c = 18 ∨ c = 19 ∨ c = 20 ∨ c = 21 ∨ c = 22 by omega) with g | g | g | g | g | g | g | g | g | g | g | g | g | g | g | g | g | g | g | g | g | g | g <;> subst g
    · have hc2 : (some (.inl 11) : Option z_T) = some (.inl ci) := hc
      cases hc2
      rcases z_fin_11i hf with e | e | e | e | e | e | e | e | e | e | e | e <;> subst e
      · rw [zf_11_0] at hf
        cases hf
        refine ⟨?_, ge _ (by decide)⟩
        rw [← hq]
        rfl
      · rw [zf_11_1] at hf
        cases hf
        refine ⟨?_, ge _ (by decide)⟩
        rw [← hq]
        rfl
      · rw [zf_11_2] at hf
        cases hf
        refine ⟨?_, ge _ (by decide)⟩
        rw [← hq]
        rfl
      · rw [zf_11_3] at hf
        cases hf
        refine ⟨?_, ge _ (by decide)⟩
        rw [← hq]
        rfl
      · rw [zf_11_4] at hf
        cases hf
        refine ⟨?_, ge _ (by decide)⟩
        rw [← hq]
        rfl
      · rw [zf_11_5] at hf
        cases hf
        refine ⟨?_, ge _ (by decide)⟩
        rw [← hq]
        rfl
      · rw [zf_11_6] at hf
        cases hf
        refine ⟨?_, ge _ (by decide)⟩
        rw [← hq]
        rfl
      · rw [zf_11_7] at hf
        cases hf
        refine ⟨?_, ge _ (by decide)⟩
        rw [← hq]
        rfl
      · rw [zf_11_8] at hf
        cases hf
        refine ⟨?_, ge _ (by decide)⟩
        rw [← hq]
        rfl
      · rw [zf_11_9] at hf
        cases hf
        refine ⟨?_, ge _ (by decide)⟩
        rw [← hq]
        rfl
      · rw [zf_11_10] at hf
        cases hf
        refine ⟨?_, ge _ (by decide)⟩
        rw [← hq]
        rfl
      · rw [zf_11_11] at hf
        cases hf
        refine ⟨?_, ge _ (by decide)⟩
        rw [← hq]
        rfl
    · have hc2 : (some (.inl 10) : Option z_T) = some (.inl ci) := hc
      cases hc2
      rcases z_fin_10i hf with e <;> subst e
      · rw [zf_10_0] at hf
        cases hf
        refine ⟨?_, ge _ (by decide)⟩
        rw [← hq]
        rfl
    · have hc2 : (some (.inr (0, 200)) : Option z_T) = some (.inl ci) := hc
      cases hc2
    · have hc2 : (some (.inl 3) : Option z_T) = some (.inl ci) := hc
      cases hc2
      rcases z_fin_3i hf with e | e <;> subst e
      · rw [zf_3_0] at hf
        cases hf
        refine ⟨?_, ge _ (by decide)⟩
        rw [← hq]
        rfl
      · rw [zf_3_1] at hf
        cases hf
        refine ⟨?_, ge _ (by decide)⟩
        rw [← hq]
        rfl
    · have hc2 : (some (.inr (0, 24)) : Option z_T) = some (.inl ci) := hc
      cases hc2
    · have hc2 : (some (.inr (0, 24)) : Option z_T) = some (.inl ci) := hc
      cases hc2
    · have hc2 : (some (.inr (10, 3)) : Option z_T) = some (.inl ci) := hc
      cases hc2
    · have hc2 : (some (.inr (5, 4)) : Option z_T) = some (.inl ci) := hc
      cases hc2
    · have hc2 : (some (.inr (4, 80)) : Option z_T) = some (.inl ci) := hc
      cases hc2
    · have hc2 : (some (.inl 8) : Option z_T) = some (.inl ci) := hc
      cases hc2
      rcases z_fin_8i hf with e <;> subst e
      · rw [zf_8_0] at hf
        cases hf
        refine ⟨?_, ge _ (by decide)⟩
        rw [← hq]
        rfl
    · have hc2 : (some (.inl 7) : Option z_T) = some (.inl ci) := hc
      cases hc2
      rcases z_fin_7i hf with e <;> subst e
      · rw [zf_7_0] at hf
        cases hf
        refine ⟨?_, ge _ (by decide)⟩
        rw [← hq]
        rfl
    · have hc2 : (some (.inl 9) : Option z_T) = some (.inl ci) := hc
      cases hc2
      exact absurd hf (fun z => z_fin_9i z)
    · have hc2 : (some (.inl 2) : Option z_T) = some (.inl ci) := hc
      cases hc2
      rcases z_fin_2i hf with e | e | e | e <;> subst e
      · rw [zf_2_0] at hf
        cases hf
        refine ⟨?_, ge _ (by decide)⟩
        rw [← hq]
        rfl
      · rw [zf_2_1] at hf
        cases hf
        refine ⟨?_, ge _ (by decide)⟩
        rw [← hq]
        rfl
      · rw [zf_2_2] at hf
        cases hf
        refine ⟨?_, ge _ (by decide)⟩
        rw [← hq]
        rfl
      · rw [zf_2_3] at hf
        cases hf
        refine ⟨?_, ge _ (by decide)⟩
        rw [← hq]
        rfl
    · have hc2 : (some (.inr (0, 8)) : Option z_T) = some (.inl ci) := hc
      cases hc2
    · have hc2 : (some (.inr (0, 8)) : Option z_T) = some (.inl ci) := hc
      cases hc2
    · have hc2 : (some (.inr (0, 8)) : Option z_T) = some (.inl ci) := hc
      cases hc2
    · have hc2 : (some (.inr (0, 8)) : Option z_T) = some (.inl ci) := hc
      cases hc2
    · have hc2 : (some (.inl 4) : Option z_T) = some (.inl ci) := hc
      cases hc2
      rcases z_fin_4i hf with e <;> subst e
      · rw [zf_4_0] at hf
        cases hf
        refine ⟨?_, ge _ (by decide)⟩
        rw [← hq]
        rfl
    · have hc2 : (some (.inr (0, 8)) : Option z_T) = some (.inl ci) := hc
      cases hc2
    · have hc2 : (some (.inl 5) : Option z_T) = some (.inl ci) := hc
      cases hc2
      rcases z_fin_5i hf with e | e <;> subst e
      · rw [zf_5_0] at hf
        cases hf
        refine ⟨?_, ge _ (by decide)⟩
        rw [← hq]
        rfl
      · rw [zf_5_1] at hf
        cases hf
        refine ⟨?_, ge _ (by decide)⟩
        rw [← hq]
        rfl
    · have hc2 : (some (.inr (0, 20)) : Option z_T) = some (.inl ci) := hc
      cases hc2
    · have hc2 : (some (.inr (0, 8)) : Option z_T) = some (.inl ci) := hc
      cases hc2
    · have hc2 : (some (.inr (0, 256)) : Option z_T) = some (.inl ci) := hc
      cases hc2
  · have hl := lt c _ hc
    rw [ge c hl] at hc
    rcases (show c = 0 ∨ c = 1 ∨ c = 2 ∨ c = 3 ∨ c = 4 ∨ c = 5 ∨ c = 6 ∨ c = 7 ∨ c = 8 ∨ c = 9 ∨ c = 10 ∨ c = 11 ∨ c = 12 ∨ c = 13 ∨ c = 14 ∨ c = 15 ∨ c = 16 ∨ c = 17 ∨ c = 18 ∨ c = 19 ∨ c = 20 ∨ c = 21 ∨ c = 22 by omega) with g | g | g | g | g | g | g | g | g | g | g | g | g | g | g | g | g | g | g | g | g | g | g <;> subst g
    · have hc2 : (some (.inl 11) : Option z_T) = some (.inr (t + 4, n)) := hc
      cases hc2
    · have hc2 : (some (.inl 10) : Option z_T) = some (.inr (t + 4, n)) := hc
      cases hc2
    · have hc2 : (some (.inr (0, 200)) : Option z_T) = some (.inr (t + 4, n)) := hc
      injection hc2 with hc2
      injection hc2 with hc2
      have : 0 = t + 4 := congrArg Prod.fst hc2
      omega
    · have hc2 : (some (.inl 3) : Option z_T) = some (.inr (t + 4, n)) := hc
      cases hc2
    · have hc2 : (some (.inr (0, 24)) : Option z_T) = some (.inr (t + 4, n)) := hc
      injection hc2 with hc2
      injection hc2 with hc2
      have : 0 = t + 4 := congrArg Prod.fst hc2
      omega
    · have hc2 : (some (.inr (0, 24)) : Option z_T) = some (.inr (t + 4, n)) := hc
      injection hc2 with hc2
      injection hc2 with hc2
      have : 0 = t + 4 := congrArg Prod.fst hc2
      omega
    · have hc2 : (some (.inr (10, 3)) : Option z_T) = some (.inr (t + 4, n)) := hc
      have hq6 : q 6 j = none := by
        rw [← hq]
        rfl
      rw [hq6] at ha
      cases ha
    · have hc2 : (some (.inr (5, 4)) : Option z_T) = some (.inr (t + 4, n)) := hc
      have hq6 : q 7 j = none := by
        rw [← hq]
        rfl
      rw [hq6] at ha
      cases ha
    · have hc2 : (some (.inr (4, 80)) : Option z_T) = some (.inr (t + 4, n)) := hc
      have hq6 : q 8 j = none := by
        rw [← hq]
        rfl
      rw [hq6] at ha
      cases ha
    · have hc2 : (some (.inl 8) : Option z_T) = some (.inr (t + 4, n)) := hc
      cases hc2
    · have hc2 : (some (.inl 7) : Option z_T) = some (.inr (t + 4, n)) := hc
      cases hc2
    · have hc2 : (some (.inl 9) : Option z_T) = some (.inr (t + 4, n)) := hc
      cases hc2
    · have hc2 : (some (.inl 2) : Option z_T) = some (.inr (t + 4, n)) := hc
      cases hc2
    · have hc2 : (some (.inr (0, 8)) : Option z_T) = some (.inr (t + 4, n)) := hc
      injection hc2 with hc2
      injection hc2 with hc2
      have : 0 = t + 4 := congrArg Prod.fst hc2
      omega
    · have hc2 : (some (.inr (0, 8)) : Option z_T) = some (.inr (t + 4, n)) := hc
      injection hc2 with hc2
      injection hc2 with hc2
      have : 0 = t + 4 := congrArg Prod.fst hc2
      omega
    · have hc2 : (some (.inr (0, 8)) : Option z_T) = some (.inr (t + 4, n)) := hc
      injection hc2 with hc2
      injection hc2 with hc2
      have : 0 = t + 4 := congrArg Prod.fst hc2
      omega
    · have hc2 : (some (.inr (0, 8)) : Option z_T) = some (.inr (t + 4, n)) := hc
      injection hc2 with hc2
      injection hc2 with hc2
      have : 0 = t + 4 := congrArg Prod.fst hc2
      omega
    · have hc2 : (some (.inl 4) : Option z_T) = some (.inr (t + 4, n)) := hc
      cases hc2
    · have hc2 : (some (.inr (0, 8)) : Option z_T) = some (.inr (t + 4, n)) := hc
      injection hc2 with hc2
      injection hc2 with hc2
      have : 0 = t + 4 := congrArg Prod.fst hc2
      omega
    · have hc2 : (some (.inl 5) : Option z_T) = some (.inr (t + 4, n)) := hc
      cases hc2
    · have hc2 : (some (.inr (0, 20)) : Option z_T) = some (.inr (t + 4, n)) := hc
      injection hc2 with hc2
      injection hc2 with hc2
      have : 0 = t + 4 := congrArg Prod.fst hc2
      omega
    · have hc2 : (some (.inr (0, 8)) : Option z_T) = some (.inr (t + 4, n)) := hc
      injection hc2 with hc2
      injection hc2 with hc2
      have : 0 = t + 4 := congrArg Prod.fst hc2
      omega
    · have hc2 : (some (.inr (0, 256)) : Option z_T) = some (.inr (t + 4, n)) := hc
      injection hc2 with hc2
      injection hc2 with hc2
      have : 0 = t + 4 := congrArg Prod.fst hc2
      omega
  · have hl := lt c _ hc
    rw [ge c hl] at hc
    rcases (show c = 0 ∨ c = 1 ∨ c = 2 ∨ c = 3 ∨ c = 4 ∨ c = 5 ∨ c = 6 ∨ c = 7 ∨ c = 8 ∨ c = 9 ∨ c = 10 ∨ c = 11 ∨ c = 12 ∨ c = 13 ∨ c = 14 ∨ c = 15 ∨ c = 16 ∨ c = 17 ∨ c = 18 ∨ c = 19 ∨ c = 20 ∨ c = 21 ∨ c = 22 by omega) with g | g | g | g | g | g | g | g | g | g | g | g | g | g | g | g | g | g | g | g | g | g | g <;> subst g
    · have hc2 : (some (.inl 11) : Option z_T) = some (.inl 8) := hc
      cases hc2
    · have hc2 : (some (.inl 10) : Option z_T) = some (.inl 8) := hc
      cases hc2
    · have hc2 : (some (.inr (0, 200)) : Option z_T) = some (.inl 8) := hc
      cases hc2
    · have hc2 : (some (.inl 3) : Option z_T) = some (.inl 8) := hc
      cases hc2
    · have hc2 : (some (.inr (0, 24)) : Option z_T) = some (.inl 8) := hc
      cases hc2
    · have hc2 : (some (.inr (0, 24)) : Option z_T) = some (.inl 8) := hc
      cases hc2
    · have hc2 : (some (.inr (10, 3)) : Option z_T) = some (.inl 8) := hc
      cases hc2
    · have hc2 : (some (.inr (5, 4)) : Option z_T) = some (.inl 8) := hc
      cases hc2
    · have hc2 : (some (.inr (4, 80)) : Option z_T) = some (.inl 8) := hc
      cases hc2
    · have hc2 : (some (.inl 8) : Option z_T) = some (.inl 8) := hc
      have hq6 : q 9 1 = none := by
        rw [← hq]
        rfl
      rw [hq6] at ha
      cases ha
    · have hc2 : (some (.inl 7) : Option z_T) = some (.inl 8) := hc
      cases hc2
    · have hc2 : (some (.inl 9) : Option z_T) = some (.inl 8) := hc
      cases hc2
    · have hc2 : (some (.inl 2) : Option z_T) = some (.inl 8) := hc
      cases hc2
    · have hc2 : (some (.inr (0, 8)) : Option z_T) = some (.inl 8) := hc
      cases hc2
    · have hc2 : (some (.inr (0, 8)) : Option z_T) = some (.inl 8) := hc
      cases hc2
    · have hc2 : (some (.inr (0, 8)) : Option z_T) = some (.inl 8) := hc
      cases hc2
    · have hc2 : (some (.inr (0, 8)) : Option z_T) = some (.inl 8) := hc
      cases hc2
    · have hc2 : (some (.inl 4) : Option z_T) = some (.inl 8) := hc
      cases hc2
    · have hc2 : (some (.inr (0, 8)) : Option z_T) = some (.inl 8) := hc
      cases hc2
    · have hc2 : (some (.inl 5) : Option z_T) = some (.inl 8) := hc
      cases hc2
    · have hc2 : (some (.inr (0, 20)) : Option z_T) = some (.inl 8) := hc
      cases hc2
    · have hc2 : (some (.inr (0, 8)) : Option z_T) = some (.inl 8) := hc
      cases hc2
    · have hc2 : (some (.inr (0, 256)) : Option z_T) = some (.inl 8) := hc
      cases hc2
  · have hl := lt c _ hc
    rw [ge c hl] at hc
    rcases (show c = 0 ∨ c = 1 ∨ c = 2 ∨ c = 3 ∨ c = 4 ∨ c = 5 ∨ c = 6 ∨ c = 7 ∨ c = 8 ∨ c = 9 ∨ c = 10 ∨ c = 11 ∨ c = 12 ∨ c = 13 ∨ c = 14 ∨ c = 15 ∨ c = 16 ∨ c = 17 ∨ c = 18 ∨ c = 19 ∨ c = 20 ∨ c = 21 ∨ c = 22 by omega) with g | g | g | g | g | g | g | g | g | g | g | g | g | g | g | g | g | g | g | g | g | g | g <;> subst g
    · have hc2 : (some (.inl 11) : Option z_T) = some (.inl 7) := hc
      cases hc2
    · have hc2 : (some (.inl 10) : Option z_T) = some (.inl 7) := hc
      cases hc2
    · have hc2 : (some (.inr (0, 200)) : Option z_T) = some (.inl 7) := hc
      cases hc2
    · have hc2 : (some (.inl 3) : Option z_T) = some (.inl 7) := hc
      cases hc2
    · have hc2 : (some (.inr (0, 24)) : Option z_T) = some (.inl 7) := hc
      cases hc2
    · have hc2 : (some (.inr (0, 24)) : Option z_T) = some (.inl 7) := hc
      cases hc2
    · have hc2 : (some (.inr (10, 3)) : Option z_T) = some (.inl 7) := hc
      cases hc2
    · have hc2 : (some (.inr (5, 4)) : Option z_T) = some (.inl 7) := hc
      cases hc2
    · have hc2 : (some (.inr (4, 80)) : Option z_T) = some (.inl 7) := hc
      cases hc2
    · have hc2 : (some (.inl 8) : Option z_T) = some (.inl 7) := hc
      cases hc2
    · have hc2 : (some (.inl 7) : Option z_T) = some (.inl 7) := hc
      have hq6 : q 10 1 = none := by
        rw [← hq]
        rfl
      rw [hq6] at ha
      cases ha
    · have hc2 : (some (.inl 9) : Option z_T) = some (.inl 7) := hc
      cases hc2
    · have hc2 : (some (.inl 2) : Option z_T) = some (.inl 7) := hc
      cases hc2
    · have hc2 : (some (.inr (0, 8)) : Option z_T) = some (.inl 7) := hc
      cases hc2
    · have hc2 : (some (.inr (0, 8)) : Option z_T) = some (.inl 7) := hc
      cases hc2
    · have hc2 : (some (.inr (0, 8)) : Option z_T) = some (.inl 7) := hc
      cases hc2
    · have hc2 : (some (.inr (0, 8)) : Option z_T) = some (.inl 7) := hc
      cases hc2
    · have hc2 : (some (.inl 4) : Option z_T) = some (.inl 7) := hc
      cases hc2
    · have hc2 : (some (.inr (0, 8)) : Option z_T) = some (.inl 7) := hc
      cases hc2
    · have hc2 : (some (.inl 5) : Option z_T) = some (.inl 7) := hc
      cases hc2
    · have hc2 : (some (.inr (0, 20)) : Option z_T) = some (.inl 7) := hc
      cases hc2
    · have hc2 : (some (.inr (0, 8)) : Option z_T) = some (.inl 7) := hc
      cases hc2
    · have hc2 : (some (.inr (0, 256)) : Option z_T) = some (.inl 7) := hc
      cases hc2
  · have z3 : S0.1 0 3 = 0 := rfl
    have z4 : S0.1 0 4 = 0 := rfl
    have z6 : S0.1 0 6 = 0 := rfl
    unfold FrA at ha
    rw [z3, z4, z6] at ha
    omega
  · have hc' : c < 23 := Nat.lt_of_not_le fun g => hc (st.1 c g)
    exact st.2.1 a (st.2.2 c j a hc' ha)
  · exact hz 0 12 (by decide)
  · exact hz 0 13 (by decide)
  · exact hz 0 14 (by decide)
  · exact hz 0 15 (by decide)
  · exact hz 1 1 (by decide)
  · exact hz 2 k (by decide)
  · exact hz 3 2 (by decide)
/-- the reference's cells behind its making -/
def kM : z_K := fun c => match c with
  | 0 => some (.inl 12)
  | 1 => some (.inr (1, 200))
  | 8 => some (.inr (0, 24))
  | 9 => some (.inr (0, 24))
  | 10 => some (.inr (0, 3))
  | 11 => some (.inr (0, 3))
  | 12 => some (.inr (2, 3))
  | 13 => some (.inr (0, 3))
  | 14 => some (.inr (0, 3))
  | 15 => some (.inr (0, 4))
  | 16 => some (.inr (2, 4))
  | 17 => some (.inr (0, 96))
  | 18 => some (.inr (0, 24))
  | 19 => some (.inr (0, 96))
  | 20 => some (.inr (0, 84))
  | 21 => some (.inr (0, 84))
  | 22 => some (.inr (0, 84))
  | 23 => some (.inr (0, 84))
  | 24 => some (.inr (0, 84))
  | 25 => some (.inr (0, 252))
  | 26 => some (.inr (0, 252))
  | 27 => some (.inr (2, 84))
  | 28 => some (.inr (2, 84))
  | 29 => some (.inr (0, 3))
  | 32 => some (.inr (0, 4))
  | 33 => some (.inr (0, 48))
  | 34 => some (.inr (0, 48))
  | 35 => some (.inr (0, 48))
  | 36 => some (.inr (0, 48))
  | 37 => some (.inr (0, 640))
  | 38 => some (.inr (0, 640))
  | 39 => some (.inr (0, 12))
  | 40 => some (.inr (0, 12))
  | 41 => some (.inr (0, 12))
  | 42 => some (.inr (0, 12))
  | 43 => some (.inr (0, 160))
  | 44 => some (.inr (0, 160))
  | 54 => some (.inr (0, 200))
  | 58 => some (.inr (3, 200))
  | 59 => some (.inr (2, 200))
  | 60 => some (.inr (2, 1800))
  | 61 => some (.inr (0, 96))
  | _ => none
theorem c_init12 {K : z_K → z_Q → z_M → Prop} (hK : ∀ kd' q' μ', z_I kd' q' → kd' 0 = some (.inl 12) → RepR S0 μ' → K kd' q' μ') : C_X12_init (z_up kd0 0 (.inl 12)) (z_q0 q0 0) 0 (z_m0 μ0 0) K := by
  have s0 : ∀ a, 1 ≤ a → Fr (z_up kd0 0 (.inl 12)) (z_q0 q0 0) a := upF Fq0 (Nat.le_refl 0)
  unfold C_X12_init
  refine ⟨1, (s0 1 (by decide)).1, (s0 1 (by decide)).2, fun kd1 q1 μ1 e1 e2 e3 => ?_⟩
  have s1 : ∀ a, 2 ≤ a → Fr kd1 q1 a := by
    rw [e1, e2]
    exact upF s0 (by decide)
  subst e1
  subst e2
  subst e3
  have s1' := srF (c := 0) (k := 0) (y := 1) s1 (by decide)
  refine ⟨8, (s1' 8 (by decide)).1, (s1' 8 (by decide)).2, fun kd8 q8 μ8 e1 e2 e3 => ?_⟩
  have s8 : ∀ a, 9 ≤ a → Fr kd8 q8 a := by
    rw [e1, e2]
    exact upF s1' (by decide)
  subst e1
  subst e2
  subst e3
  have s8' := srF (c := 0) (k := 7) (y := 8) s8 (by decide)
  refine ⟨9, (s8' 9 (by decide)).1, (s8' 9 (by decide)).2, fun kd9 q9 μ9 e1 e2 e3 => ?_⟩
  have s9 : ∀ a, 10 ≤ a → Fr kd9 q9 a := by
    rw [e1, e2]
    exact upF s8' (by decide)
  subst e1
  subst e2
  subst e3
  have s9' := srF (c := 0) (k := 8) (y := 9) s9 (by decide)
  refine ⟨10, (s9' 10 (by decide)).1, (s9' 10 (by decide)).2, fun kd10 q10 μ10 e1 e2 e3 => ?_⟩
  have s10 : ∀ a, 11 ≤ a → Fr kd10 q10 a := by
    rw [e1, e2]
    exact upF s9' (by decide)
  subst e1
  subst e2
  subst e3
  have s10' := srF (c := 0) (k := 9) (y := 10) s10 (by decide)
  refine ⟨11, (s10' 11 (by decide)).1, (s10' 11 (by decide)).2, fun kd11 q11 μ11 e1 e2 e3 => ?_⟩
  have s11 : ∀ a, 12 ≤ a → Fr kd11 q11 a := by
    rw [e1, e2]
    exact upF s10' (by decide)
  subst e1
  subst e2
  subst e3
  have s11' := srF (c := 0) (k := 10) (y := 11) s11 (by decide)
  refine ⟨12, (s11' 12 (by decide)).1, (s11' 12 (by decide)).2, fun kd12 q12 μ12 e1 e2 e3 => ?_⟩
  have s12 : ∀ a, 13 ≤ a → Fr kd12 q12 a := by
    rw [e1, e2]
    exact upF s11' (by decide)
  subst e1
  subst e2
  subst e3
  have s12' := srF (c := 0) (k := 11) (y := 12) s12 (by decide)
  refine ⟨13, (s12' 13 (by decide)).1, (s12' 13 (by decide)).2, fun kd13 q13 μ13 e1 e2 e3 => ?_⟩
  have s13 : ∀ a, 14 ≤ a → Fr kd13 q13 a := by
    rw [e1, e2]
    exact upF s12' (by decide)
  subst e1
  subst e2
  subst e3
  have s13' := srF (c := 0) (k := 12) (y := 13) s13 (by decide)
  refine ⟨14, (s13' 14 (by decide)).1, (s13' 14 (by decide)).2, fun kd14 q14 μ14 e1 e2 e3 => ?_⟩
  have s14 : ∀ a, 15 ≤ a → Fr kd14 q14 a := by
    rw [e1, e2]
    exact upF s13' (by decide)
  subst e1
  subst e2
  subst e3
  have s14' := srF (c := 0) (k := 13) (y := 14) s14 (by decide)
  refine ⟨15, (s14' 15 (by decide)).1, (s14' 15 (by decide)).2, fun kd15 q15 μ15 e1 e2 e3 => ?_⟩
  have s15 : ∀ a, 16 ≤ a → Fr kd15 q15 a := by
    rw [e1, e2]
    exact upF s14' (by decide)
  subst e1
  subst e2
  subst e3
  have s15' := srF (c := 0) (k := 14) (y := 15) s15 (by decide)
  refine ⟨16, (s15' 16 (by decide)).1, (s15' 16 (by decide)).2, fun kd16 q16 μ16 e1 e2 e3 => ?_⟩
  have s16 : ∀ a, 17 ≤ a → Fr kd16 q16 a := by
    rw [e1, e2]
    exact upF s15' (by decide)
  subst e1
  subst e2
  subst e3
  have s16' := srF (c := 0) (k := 15) (y := 16) s16 (by decide)
  refine ⟨17, (s16' 17 (by decide)).1, (s16' 17 (by decide)).2, fun kd17 q17 μ17 e1 e2 e3 => ?_⟩
  have s17 : ∀ a, 18 ≤ a → Fr kd17 q17 a := by
    rw [e1, e2]
    exact upF s16' (by decide)
  subst e1
  subst e2
  subst e3
  have s17' := srF (c := 0) (k := 16) (y := 17) s17 (by decide)
  refine ⟨18, (s17' 18 (by decide)).1, (s17' 18 (by decide)).2, fun kd18 q18 μ18 e1 e2 e3 => ?_⟩
  have s18 : ∀ a, 19 ≤ a → Fr kd18 q18 a := by
    rw [e1, e2]
    exact upF s17' (by decide)
  subst e1
  subst e2
  subst e3
  have s18' := srF (c := 0) (k := 17) (y := 18) s18 (by decide)
  refine ⟨19, (s18' 19 (by decide)).1, (s18' 19 (by decide)).2, fun kd19 q19 μ19 e1 e2 e3 => ?_⟩
  have s19 : ∀ a, 20 ≤ a → Fr kd19 q19 a := by
    rw [e1, e2]
    exact upF s18' (by decide)
  subst e1
  subst e2
  subst e3
  have s19' := srF (c := 0) (k := 18) (y := 19) s19 (by decide)
  refine ⟨20, (s19' 20 (by decide)).1, (s19' 20 (by decide)).2, fun kd20 q20 μ20 e1 e2 e3 => ?_⟩
  have s20 : ∀ a, 21 ≤ a → Fr kd20 q20 a := by
    rw [e1, e2]
    exact upF s19' (by decide)
  subst e1
  subst e2
  subst e3
  have s20' := srF (c := 0) (k := 19) (y := 20) s20 (by decide)
  refine ⟨21, (s20' 21 (by decide)).1, (s20' 21 (by decide)).2, fun kd21 q21 μ21 e1 e2 e3 => ?_⟩
  have s21 : ∀ a, 22 ≤ a → Fr kd21 q21 a := by
    rw [e1, e2]
    exact upF s20' (by decide)
  subst e1
  subst e2
  subst e3
  have s21' := srF (c := 0) (k := 20) (y := 21) s21 (by decide)
  refine ⟨22, (s21' 22 (by decide)).1, (s21' 22 (by decide)).2, fun kd22 q22 μ22 e1 e2 e3 => ?_⟩
  have s22 : ∀ a, 23 ≤ a → Fr kd22 q22 a := by
    rw [e1, e2]
    exact upF s21' (by decide)
  subst e1
  subst e2
  subst e3
  have s22' := srF (c := 0) (k := 21) (y := 22) s22 (by decide)
  refine ⟨23, (s22' 23 (by decide)).1, (s22' 23 (by decide)).2, fun kd23 q23 μ23 e1 e2 e3 => ?_⟩
  have s23 : ∀ a, 24 ≤ a → Fr kd23 q23 a := by
    rw [e1, e2]
    exact upF s22' (by decide)
  subst e1
  subst e2
  subst e3
  have s23' := srF (c := 0) (k := 22) (y := 23) s23 (by decide)
  refine ⟨24, (s23' 24 (by decide)).1, (s23' 24 (by decide)).2, fun kd24 q24 μ24 e1 e2 e3 => ?_⟩
  have s24 : ∀ a, 25 ≤ a → Fr kd24 q24 a := by
    rw [e1, e2]
    exact upF s23' (by decide)
  subst e1
  subst e2
  subst e3
  have s24' := srF (c := 0) (k := 23) (y := 24) s24 (by decide)
  refine ⟨25, (s24' 25 (by decide)).1, (s24' 25 (by decide)).2, fun kd25 q25 μ25 e1 e2 e3 => ?_⟩
  have s25 : ∀ a, 26 ≤ a → Fr kd25 q25 a := by
    rw [e1, e2]
    exact upF s24' (by decide)
  subst e1
  subst e2
  subst e3
  have s25' := srF (c := 0) (k := 24) (y := 25) s25 (by decide)
  refine ⟨26, (s25' 26 (by decide)).1, (s25' 26 (by decide)).2, fun kd26 q26 μ26 e1 e2 e3 => ?_⟩
  have s26 : ∀ a, 27 ≤ a → Fr kd26 q26 a := by
    rw [e1, e2]
    exact upF s25' (by decide)
  subst e1
  subst e2
  subst e3
  have s26' := srF (c := 0) (k := 25) (y := 26) s26 (by decide)
  refine ⟨27, (s26' 27 (by decide)).1, (s26' 27 (by decide)).2, fun kd27 q27 μ27 e1 e2 e3 => ?_⟩
  have s27 : ∀ a, 28 ≤ a → Fr kd27 q27 a := by
    rw [e1, e2]
    exact upF s26' (by decide)
  subst e1
  subst e2
  subst e3
  have s27' := srF (c := 0) (k := 26) (y := 27) s27 (by decide)
  refine ⟨28, (s27' 28 (by decide)).1, (s27' 28 (by decide)).2, fun kd28 q28 μ28 e1 e2 e3 => ?_⟩
  have s28 : ∀ a, 29 ≤ a → Fr kd28 q28 a := by
    rw [e1, e2]
    exact upF s27' (by decide)
  subst e1
  subst e2
  subst e3
  have s28' := srF (c := 0) (k := 27) (y := 28) s28 (by decide)
  refine ⟨29, (s28' 29 (by decide)).1, (s28' 29 (by decide)).2, fun kd29 q29 μ29 e1 e2 e3 => ?_⟩
  have s29 : ∀ a, 30 ≤ a → Fr kd29 q29 a := by
    rw [e1, e2]
    exact upF s28' (by decide)
  subst e1
  subst e2
  subst e3
  have s29' := srF (c := 0) (k := 28) (y := 29) s29 (by decide)
  refine ⟨32, (s29' 32 (by decide)).1, (s29' 32 (by decide)).2, fun kd32 q32 μ32 e1 e2 e3 => ?_⟩
  have s32 : ∀ a, 33 ≤ a → Fr kd32 q32 a := by
    rw [e1, e2]
    exact upF s29' (by decide)
  subst e1
  subst e2
  subst e3
  have s32' := srF (c := 0) (k := 31) (y := 32) s32 (by decide)
  refine ⟨33, (s32' 33 (by decide)).1, (s32' 33 (by decide)).2, fun kd33 q33 μ33 e1 e2 e3 => ?_⟩
  have s33 : ∀ a, 34 ≤ a → Fr kd33 q33 a := by
    rw [e1, e2]
    exact upF s32' (by decide)
  subst e1
  subst e2
  subst e3
  have s33' := srF (c := 0) (k := 32) (y := 33) s33 (by decide)
  refine ⟨34, (s33' 34 (by decide)).1, (s33' 34 (by decide)).2, fun kd34 q34 μ34 e1 e2 e3 => ?_⟩
  have s34 : ∀ a, 35 ≤ a → Fr kd34 q34 a := by
    rw [e1, e2]
    exact upF s33' (by decide)
  subst e1
  subst e2
  subst e3
  have s34' := srF (c := 0) (k := 33) (y := 34) s34 (by decide)
  refine ⟨35, (s34' 35 (by decide)).1, (s34' 35 (by decide)).2, fun kd35 q35 μ35 e1 e2 e3 => ?_⟩
  have s35 : ∀ a, 36 ≤ a → Fr kd35 q35 a := by
    rw [e1, e2]
    exact upF s34' (by decide)
  subst e1
  subst e2
  subst e3
  have s35' := srF (c := 0) (k := 34) (y := 35) s35 (by decide)
  refine ⟨36, (s35' 36 (by decide)).1, (s35' 36 (by decide)).2, fun kd36 q36 μ36 e1 e2 e3 => ?_⟩
  have s36 : ∀ a, 37 ≤ a → Fr kd36 q36 a := by
    rw [e1, e2]
    exact upF s35' (by decide)
  subst e1
  subst e2
  subst e3
  have s36' := srF (c := 0) (k := 35) (y := 36) s36 (by decide)
  refine ⟨37, (s36' 37 (by decide)).1, (s36' 37 (by decide)).2, fun kd37 q37 μ37 e1 e2 e3 => ?_⟩
  have s37 : ∀ a, 38 ≤ a → Fr kd37 q37 a := by
    rw [e1, e2]
    exact upF s36' (by decide)
  subst e1
  subst e2
  subst e3
  have s37' := srF (c := 0) (k := 36) (y := 37) s37 (by decide)
  refine ⟨38, (s37' 38 (by decide)).1, (s37' 38 (by decide)).2, fun kd38 q38 μ38 e1 e2 e3 => ?_⟩
  have s38 : ∀ a, 39 ≤ a → Fr kd38 q38 a := by
    rw [e1, e2]
    exact upF s37' (by decide)
  subst e1
  subst e2
  subst e3
  have s38' := srF (c := 0) (k := 37) (y := 38) s38 (by decide)
  refine ⟨39, (s38' 39 (by decide)).1, (s38' 39 (by decide)).2, fun kd39 q39 μ39 e1 e2 e3 => ?_⟩
  have s39 : ∀ a, 40 ≤ a → Fr kd39 q39 a := by
    rw [e1, e2]
    exact upF s38' (by decide)
  subst e1
  subst e2
  subst e3
  have s39' := srF (c := 0) (k := 38) (y := 39) s39 (by decide)
  refine ⟨40, (s39' 40 (by decide)).1, (s39' 40 (by decide)).2, fun kd40 q40 μ40 e1 e2 e3 => ?_⟩
  have s40 : ∀ a, 41 ≤ a → Fr kd40 q40 a := by
    rw [e1, e2]
    exact upF s39' (by decide)
  subst e1
  subst e2
  subst e3
  have s40' := srF (c := 0) (k := 39) (y := 40) s40 (by decide)
  refine ⟨41, (s40' 41 (by decide)).1, (s40' 41 (by decide)).2, fun kd41 q41 μ41 e1 e2 e3 => ?_⟩
  have s41 : ∀ a, 42 ≤ a → Fr kd41 q41 a := by
    rw [e1, e2]
    exact upF s40' (by decide)
  subst e1
  subst e2
  subst e3
  have s41' := srF (c := 0) (k := 40) (y := 41) s41 (by decide)
  refine ⟨42, (s41' 42 (by decide)).1, (s41' 42 (by decide)).2, fun kd42 q42 μ42 e1 e2 e3 => ?_⟩
  have s42 : ∀ a, 43 ≤ a → Fr kd42 q42 a := by
    rw [e1, e2]
    exact upF s41' (by decide)
  subst e1
  subst e2
  subst e3
  have s42' := srF (c := 0) (k := 41) (y := 42) s42 (by decide)
  refine ⟨43, (s42' 43 (by decide)).1, (s42' 43 (by decide)).2, fun kd43 q43 μ43 e1 e2 e3 => ?_⟩
  have s43 : ∀ a, 44 ≤ a → Fr kd43 q43 a := by
    rw [e1, e2]
    exact upF s42' (by decide)
  subst e1
  subst e2
  subst e3
  have s43' := srF (c := 0) (k := 42) (y := 43) s43 (by decide)
  refine ⟨44, (s43' 44 (by decide)).1, (s43' 44 (by decide)).2, fun kd44 q44 μ44 e1 e2 e3 => ?_⟩
  have s44 : ∀ a, 45 ≤ a → Fr kd44 q44 a := by
    rw [e1, e2]
    exact upF s43' (by decide)
  subst e1
  subst e2
  subst e3
  have s44' := srF (c := 0) (k := 43) (y := 44) s44 (by decide)
  refine ⟨54, (s44' 54 (by decide)).1, (s44' 54 (by decide)).2, fun kd54 q54 μ54 e1 e2 e3 => ?_⟩
  have s54 : ∀ a, 55 ≤ a → Fr kd54 q54 a := by
    rw [e1, e2]
    exact upF s44' (by decide)
  subst e1
  subst e2
  subst e3
  have s54' := srF (c := 0) (k := 53) (y := 54) s54 (by decide)
  refine ⟨58, (s54' 58 (by decide)).1, (s54' 58 (by decide)).2, fun kd58 q58 μ58 e1 e2 e3 => ?_⟩
  have s58 : ∀ a, 59 ≤ a → Fr kd58 q58 a := by
    rw [e1, e2]
    exact upF s54' (by decide)
  subst e1
  subst e2
  subst e3
  have s58' := srF (c := 0) (k := 57) (y := 58) s58 (by decide)
  refine ⟨59, (s58' 59 (by decide)).1, (s58' 59 (by decide)).2, fun kd59 q59 μ59 e1 e2 e3 => ?_⟩
  have s59 : ∀ a, 60 ≤ a → Fr kd59 q59 a := by
    rw [e1, e2]
    exact upF s58' (by decide)
  subst e1
  subst e2
  subst e3
  have s59' := srF (c := 0) (k := 58) (y := 59) s59 (by decide)
  refine ⟨60, (s59' 60 (by decide)).1, (s59' 60 (by decide)).2, fun kd60 q60 μ60 e1 e2 e3 => ?_⟩
  have s60 : ∀ a, 61 ≤ a → Fr kd60 q60 a := by
    rw [e1, e2]
    exact upF s59' (by decide)
  subst e1
  subst e2
  subst e3
  have s60' := srF (c := 0) (k := 59) (y := 60) s60 (by decide)
  refine ⟨61, (s60' 61 (by decide)).1, (s60' 61 (by decide)).2, fun kd61 q61 μ61 e1 e2 e3 => ?_⟩
  have s61 : ∀ a, 62 ≤ a → Fr kd61 q61 a := by
    rw [e1, e2]
    exact upF s60' (by decide)
  subst e1
  subst e2
  subst e3
  have s61' := srF (c := 0) (k := 60) (y := 61) s61 (by decide)
  revert s61'
  generalize hkd : z_up _ 61 _ = kd
  generalize hq : sr _ 0 60 (some 61) = q
  generalize hm : z_m0 _ 61 = μ
  intro st
  have ge : ∀ c, (c = 0 ∨ c = 1 ∨ c = 8 ∨ c = 9 ∨ c = 10 ∨ c = 11 ∨ c = 12 ∨ c = 13 ∨ c = 14 ∨ c = 15 ∨ c = 16 ∨ c = 17 ∨ c = 18 ∨ c = 19 ∨ c = 20 ∨ c = 21 ∨ c = 22 ∨ c = 23 ∨ c = 24 ∨ c = 25 ∨ c = 26 ∨ c = 27 ∨ c = 28 ∨ c = 29 ∨ c = 32 ∨ c = 33 ∨ c = 34 ∨ c = 35 ∨ c = 36 ∨ c = 37 ∨ c = 38 ∨ c = 39 ∨ c = 40 ∨ c = 41 ∨ c = 42 ∨ c = 43 ∨ c = 44 ∨ c = 54 ∨ c = 58 ∨ c = 59 ∨ c = 60 ∨ c = 61) → kd c = kM c := fun c hc => by
    rw [← hkd]
    rcases hc with g | g | g | g | g | g | g | g | g | g | g | g | g | g | g | g | g | g | g | g | g | g | g | g | g | g | g | g | g | g | g | g | g | g | g | g | g | g | g | g | g | g <;> subst g <;> rfl
  have lt : ∀ c t, kd c = some t → (c = 0 ∨ c = 1 ∨ c = 8 ∨ c = 9 ∨ c = 10 ∨ c = 11 ∨ c = 12 ∨ c = 13 ∨ c = 14 ∨ c = 15 ∨ c = 16 ∨ c = 17 ∨ c = 18 ∨ c = 19 ∨ c = 20 ∨ c = 21 ∨ c = 22 ∨ c = 23 ∨ c = 24 ∨ c = 25 ∨ c = 26 ∨ c = 27 ∨ c = 28 ∨ c = 29 ∨ c = 32 ∨ c = 33 ∨ c = 34 ∨ c = 35 ∨ c = 36 ∨ c = 37 ∨ c = 38 ∨ c = 39 ∨ c = 40 ∨ c = 41 ∨ c = 42 ∨ c = 43 ∨ c = 44 ∨ c = 54 ∨ c = 58 ∨ c = 59 ∨ c = 60 ∨ c = 61) := fun c t h => by
    refine Classical.byContradiction fun g => ?_
    rw [← hkd] at h
    rw [z_up_ne (by omega), z_up_ne (by omega), z_up_ne (by omega), z_up_ne (by omega), z_up_ne (by omega), z_up_ne (by omega), z_up_ne (by omega), z_up_ne (by omega), z_up_ne (by omega), z_up_ne (by omega), z_up_ne (by omega), z_up_ne (by omega), z_up_ne (by omega), z_up_ne (by omega), z_up_ne (by omega), z_up_ne (by omega), z_up_ne (by omega), z_up_ne (by omega), z_up_ne (by omega), z_up_ne (by omega), z_up_ne (by omega), z_up_ne (by omega), z_up_ne (by omega), z_up_ne (by omega), z_up_ne (by omega), z_up_ne (by omega), z_up_ne (by omega), z_up_ne (by omega), z_up_ne (by omega), z_up_ne (by omega), z_up_ne (by omega), z_up_ne (by omega), z_up_ne (by omega), z_up_ne (by omega), z_up_ne (by omega), z_up_ne (by omega), z_up_ne (by omega), z_up_ne (by omega), z_up_ne (by omega), z_up_ne (by omega), z_up_ne (by omega), z_up_ne (by omega)] at h
    cases h
  have hz : ∀ c k, μ.1 c k = 0 := fun c k => by
    rw [← hm]
    unfold z_m0 μ0
    simp
  have hI : z_I kd q := by
    refine ⟨fun c ci hc k f t hf => ?_, fun c t n hc j a hj ha => ?_, fun c hc a ha => ?_, fun c hc a ha => ?_⟩
    · have hl := lt c _ hc
      rw [ge c hl] at hc
      rcases hl with g | g | g | g | g | g | g | g | g | g | g | g | g | g | g | g | g | g | g | g | g | g | g | g | g | g | g | g | g | g | g | g | g | g | g | g | g | g | g | g | g | g <;> subst g
      · have hc2 : (some (.inl 12) : Option z_T) = some (.inl ci) := hc
        cases hc2
        rcases z_fin_12i hf with e | e | e | e | e | e | e | e | e | e | e | e | e | e | e | e | e | e | e | e | e | e | e | e | e | e | e | e | e | e | e | e | e | e | e | e | e | e | e | e | e <;> subst e
        · rw [zf_12_0] at hf
          cases hf
          refine ⟨?_, ge _ (by decide)⟩
          rw [← hq]
          rfl
        · rw [zf_12_7] at hf
          cases hf
          refine ⟨?_, ge _ (by decide)⟩
          rw [← hq]
          rfl
        · rw [zf_12_8] at hf
          cases hf
          refine ⟨?_, ge _ (by decide)⟩
          rw [← hq]
          rfl
        · rw [zf_12_9] at hf
          cases hf
          refine ⟨?_, ge _ (by decide)⟩
          rw [← hq]
          rfl
        · rw [zf_12_10] at hf
          cases hf
          refine ⟨?_, ge _ (by decide)⟩
          rw [← hq]
          rfl
        · rw [zf_12_11] at hf
          cases hf
          refine ⟨?_, ge _ (by decide)⟩
          rw [← hq]
          rfl
        · rw [zf_12_12] at hf
          cases hf
          refine ⟨?_, ge _ (by decide)⟩
          rw [← hq]
          rfl
        · rw [zf_12_13] at hf
          cases hf
          refine ⟨?_, ge _ (by decide)⟩
          rw [← hq]
          rfl
        · rw [zf_12_14] at hf
          cases hf
          refine ⟨?_, ge _ (by decide)⟩
          rw [← hq]
          rfl
        · rw [zf_12_15] at hf
          cases hf
          refine ⟨?_, ge _ (by decide)⟩
          rw [← hq]
          rfl
        · rw [zf_12_16] at hf
          cases hf
          refine ⟨?_, ge _ (by decide)⟩
          rw [← hq]
          rfl
        · rw [zf_12_17] at hf
          cases hf
          refine ⟨?_, ge _ (by decide)⟩
          rw [← hq]
          rfl
        · rw [zf_12_18] at hf
          cases hf
          refine ⟨?_, ge _ (by decide)⟩
          rw [← hq]
          rfl
        · rw [zf_12_19] at hf
          cases hf
          refine ⟨?_, ge _ (by decide)⟩
          rw [← hq]
          rfl
        · rw [zf_12_20] at hf
          cases hf
          refine ⟨?_, ge _ (by decide)⟩
          rw [← hq]
          rfl
        · rw [zf_12_21] at hf
          cases hf
          refine ⟨?_, ge _ (by decide)⟩
          rw [← hq]
          rfl
        · rw [zf_12_22] at hf
          cases hf
          refine ⟨?_, ge _ (by decide)⟩
          rw [← hq]
          rfl
        · rw [zf_12_23] at hf
          cases hf
          refine ⟨?_, ge _ (by decide)⟩
          rw [← hq]
          rfl
        · rw [zf_12_24] at hf
          cases hf
          refine ⟨?_, ge _ (by decide)⟩
          rw [← hq]
          rfl
        · rw [zf_12_25] at hf
          cases hf
          refine ⟨?_, ge _ (by decide)⟩
          rw [← hq]
          rfl
        · rw [zf_12_26] at hf
          cases hf
          refine ⟨?_, ge _ (by decide)⟩
          rw [← hq]
          rfl
        · rw [zf_12_27] at hf
          cases hf
          refine ⟨?_, ge _ (by decide)⟩
          rw [← hq]
          rfl
        · rw [zf_12_28] at hf
          cases hf
          refine ⟨?_, ge _ (by decide)⟩
          rw [← hq]
          rfl
        · rw [zf_12_31] at hf
          cases hf
          refine ⟨?_, ge _ (by decide)⟩
          rw [← hq]
          rfl
        · rw [zf_12_32] at hf
          cases hf
          refine ⟨?_, ge _ (by decide)⟩
          rw [← hq]
          rfl
        · rw [zf_12_33] at hf
          cases hf
          refine ⟨?_, ge _ (by decide)⟩
          rw [← hq]
          rfl
        · rw [zf_12_34] at hf
          cases hf
          refine ⟨?_, ge _ (by decide)⟩
          rw [← hq]
          rfl
        · rw [zf_12_35] at hf
          cases hf
          refine ⟨?_, ge _ (by decide)⟩
          rw [← hq]
          rfl
        · rw [zf_12_36] at hf
          cases hf
          refine ⟨?_, ge _ (by decide)⟩
          rw [← hq]
          rfl
        · rw [zf_12_37] at hf
          cases hf
          refine ⟨?_, ge _ (by decide)⟩
          rw [← hq]
          rfl
        · rw [zf_12_38] at hf
          cases hf
          refine ⟨?_, ge _ (by decide)⟩
          rw [← hq]
          rfl
        · rw [zf_12_39] at hf
          cases hf
          refine ⟨?_, ge _ (by decide)⟩
          rw [← hq]
          rfl
        · rw [zf_12_40] at hf
          cases hf
          refine ⟨?_, ge _ (by decide)⟩
          rw [← hq]
          rfl
        · rw [zf_12_41] at hf
          cases hf
          refine ⟨?_, ge _ (by decide)⟩
          rw [← hq]
          rfl
        · rw [zf_12_42] at hf
          cases hf
          refine ⟨?_, ge _ (by decide)⟩
          rw [← hq]
          rfl
        · rw [zf_12_43] at hf
          cases hf
          refine ⟨?_, ge _ (by decide)⟩
          rw [← hq]
          rfl
        · rw [zf_12_53] at hf
          cases hf
          refine ⟨?_, ge _ (by decide)⟩
          rw [← hq]
          rfl
        · rw [zf_12_57] at hf
          cases hf
          refine ⟨?_, ge _ (by decide)⟩
          rw [← hq]
          rfl
        · rw [zf_12_58] at hf
          cases hf
          refine ⟨?_, ge _ (by decide)⟩
          rw [← hq]
          rfl
        · rw [zf_12_59] at hf
          cases hf
          refine ⟨?_, ge _ (by decide)⟩
          rw [← hq]
          rfl
        · rw [zf_12_60] at hf
          cases hf
          refine ⟨?_, ge _ (by decide)⟩
          rw [← hq]
          rfl
      · have hc2 : (some (.inr (1, 200)) : Option z_T) = some (.inl ci) := hc
        cases hc2
      · have hc2 : (some (.inr (0, 24)) : Option z_T) = some (.inl ci) := hc
        cases hc2
      · have hc2 : (some (.inr (0, 24)) : Option z_T) = some (.inl ci) := hc
        cases hc2
      · have hc2 : (some (.inr (0, 3)) : Option z_T) = some (.inl ci) := hc
        cases hc2
      · have hc2 : (some (.inr (0, 3)) : Option z_T) = some (.inl ci) := hc
        cases hc2
      · have hc2 : (some (.inr (2, 3)) : Option z_T) = some (.inl ci) := hc
        cases hc2
      · have hc2 : (some (.inr (0, 3)) : Option z_T) = some (.inl ci) := hc
        cases hc2
      · have hc2 : (some (.inr (0, 3)) : Option z_T) = some (.inl ci) := hc
        cases hc2
      · have hc2 : (some (.inr (0, 4)) : Option z_T) = some (.inl ci) := hc
        cases hc2
      · have hc2 : (some (.inr (2, 4)) : Option z_T) = some (.inl ci) := hc
        cases hc2
      · have hc2 : (some (.inr (0, 96)) : Option z_T) = some (.inl ci) := hc
        cases hc2
      · have hc2 : (some (.inr (0, 24)) : Option z_T) = some (.inl ci) := hc
        cases hc2
      · have hc2 : (some (.inr (0, 96)) : Option z_T) = some (.inl ci) := hc
        cases hc2
      · have hc2 : (some (.inr (0, 84)) : Option z_T) = some (.inl ci) := hc
        cases hc2
      · have hc2 : (some (.inr (0, 84)) : Option z_T) = some (.inl ci) := hc
        cases hc2
      · have hc2 : (some (.inr (0, 84)) : Option z_T) = some (.inl ci) := hc
        cases hc2
      · have hc2 : (some (.inr (0, 84)) : Option z_T) = some (.inl ci) := hc
        cases hc2
      · have hc2 : (some (.inr (0, 84)) : Option z_T) = some (.inl ci) := hc
        cases hc2
      · have hc2 : (some (.inr (0, 252)) : Option z_T) = some (.inl ci) := hc
        cases hc2
      · have hc2 : (some (.inr (0, 252)) : Option z_T) = some (.inl ci) := hc
        cases hc2
      · have hc2 : (some (.inr (2, 84)) : Option z_T) = some (.inl ci) := hc
        cases hc2
      · have hc2 : (some (.inr (2, 84)) : Option z_T) = some (.inl ci) := hc
        cases hc2
      · have hc2 : (some (.inr (0, 3)) : Option z_T) = some (.inl ci) := hc
        cases hc2
      · have hc2 : (some (.inr (0, 4)) : Option z_T) = some (.inl ci) := hc
        cases hc2
      · have hc2 : (some (.inr (0, 48)) : Option z_T) = some (.inl ci) := hc
        cases hc2
      · have hc2 : (some (.inr (0, 48)) : Option z_T) = some (.inl ci) := hc
        cases hc2
      · have hc2 : (some (.inr (0, 48)) : Option z_T) = some (.inl ci) := hc
        cases hc2
      · have hc2 : (some (.inr (0, 48)) : Option z_T) = some (.inl ci) := hc
        cases hc2
      · have hc2 : (some (.inr (0, 640)) : Option z_T) = some (.inl ci) := hc
        cases hc2
      · have hc2 : (some (.inr (0, 640)) : Option z_T) = some (.inl ci) := hc
        cases hc2
      · have hc2 : (some (.inr (0, 12)) : Option z_T) = some (.inl ci) := hc
        cases hc2
      · have hc2 : (some (.inr (0, 12)) : Option z_T) = some (.inl ci) := hc
        cases hc2
      · have hc2 : (some (.inr (0, 12)) : Option z_T) = some (.inl ci) := hc
        cases hc2
      · have hc2 : (some (.inr (0, 12)) : Option z_T) = some (.inl ci) := hc
        cases hc2
      · have hc2 : (some (.inr (0, 160)) : Option z_T) = some (.inl ci) := hc
        cases hc2
      · have hc2 : (some (.inr (0, 160)) : Option z_T) = some (.inl ci) := hc
        cases hc2
      · have hc2 : (some (.inr (0, 200)) : Option z_T) = some (.inl ci) := hc
        cases hc2
      · have hc2 : (some (.inr (3, 200)) : Option z_T) = some (.inl ci) := hc
        cases hc2
      · have hc2 : (some (.inr (2, 200)) : Option z_T) = some (.inl ci) := hc
        cases hc2
      · have hc2 : (some (.inr (2, 1800)) : Option z_T) = some (.inl ci) := hc
        cases hc2
      · have hc2 : (some (.inr (0, 96)) : Option z_T) = some (.inl ci) := hc
        cases hc2
    · have hl := lt c _ hc
      rw [ge c hl] at hc
      rcases hl with g | g | g | g | g | g | g | g | g | g | g | g | g | g | g | g | g | g | g | g | g | g | g | g | g | g | g | g | g | g | g | g | g | g | g | g | g | g | g | g | g | g <;> subst g
      · have hc2 : (some (.inl 12) : Option z_T) = some (.inr (t + 4, n)) := hc
        cases hc2
      · have hc2 : (some (.inr (1, 200)) : Option z_T) = some (.inr (t + 4, n)) := hc
        injection hc2 with hc2
        injection hc2 with hc2
        have : 1 = t + 4 := congrArg Prod.fst hc2
        omega
      · have hc2 : (some (.inr (0, 24)) : Option z_T) = some (.inr (t + 4, n)) := hc
        injection hc2 with hc2
        injection hc2 with hc2
        have : 0 = t + 4 := congrArg Prod.fst hc2
        omega
      · have hc2 : (some (.inr (0, 24)) : Option z_T) = some (.inr (t + 4, n)) := hc
        injection hc2 with hc2
        injection hc2 with hc2
        have : 0 = t + 4 := congrArg Prod.fst hc2
        omega
      · have hc2 : (some (.inr (0, 3)) : Option z_T) = some (.inr (t + 4, n)) := hc
        injection hc2 with hc2
        injection hc2 with hc2
        have : 0 = t + 4 := congrArg Prod.fst hc2
        omega
      · have hc2 : (some (.inr (0, 3)) : Option z_T) = some (.inr (t + 4, n)) := hc
        injection hc2 with hc2
        injection hc2 with hc2
        have : 0 = t + 4 := congrArg Prod.fst hc2
        omega
      · have hc2 : (some (.inr (2, 3)) : Option z_T) = some (.inr (t + 4, n)) := hc
        injection hc2 with hc2
        injection hc2 with hc2
        have : 2 = t + 4 := congrArg Prod.fst hc2
        omega
      · have hc2 : (some (.inr (0, 3)) : Option z_T) = some (.inr (t + 4, n)) := hc
        injection hc2 with hc2
        injection hc2 with hc2
        have : 0 = t + 4 := congrArg Prod.fst hc2
        omega
      · have hc2 : (some (.inr (0, 3)) : Option z_T) = some (.inr (t + 4, n)) := hc
        injection hc2 with hc2
        injection hc2 with hc2
        have : 0 = t + 4 := congrArg Prod.fst hc2
        omega
      · have hc2 : (some (.inr (0, 4)) : Option z_T) = some (.inr (t + 4, n)) := hc
        injection hc2 with hc2
        injection hc2 with hc2
        have : 0 = t + 4 := congrArg Prod.fst hc2
        omega
      · have hc2 : (some (.inr (2, 4)) : Option z_T) = some (.inr (t + 4, n)) := hc
        injection hc2 with hc2
        injection hc2 with hc2
        have : 2 = t + 4 := congrArg Prod.fst hc2
        omega
      · have hc2 : (some (.inr (0, 96)) : Option z_T) = some (.inr (t + 4, n)) := hc
        injection hc2 with hc2
        injection hc2 with hc2
        have : 0 = t + 4 := congrArg Prod.fst hc2
        omega
      · have hc2 : (some (.inr (0, 24)) : Option z_T) = some (.inr (t + 4, n)) := hc
        injection hc2 with hc2
        injection hc2 with hc2
        have : 0 = t + 4 := congrArg Prod.fst hc2
        omega
      · have hc2 : (some (.inr (0, 96)) : Option z_T) = some (.inr (t + 4, n)) := hc
        injection hc2 with hc2
        injection hc2 with hc2
        have : 0 = t + 4 := congrArg Prod.fst hc2
        omega
      · have hc2 : (some (.inr (0, 84)) : Option z_T) = some (.inr (t + 4, n)) := hc
        injection hc2 with hc2
        injection hc2 with hc2
        have : 0 = t + 4 := congrArg Prod.fst hc2
        omega
      · have hc2 : (some (.inr (0, 84)) : Option z_T) = some (.inr (t + 4, n)) := hc
        injection hc2 with hc2
        injection hc2 with hc2
        have : 0 = t + 4 := congrArg Prod.fst hc2
        omega
      · have hc2 : (some (.inr (0, 84)) : Option z_T) = some (.inr (t + 4, n)) := hc
        injection hc2 with hc2
        injection hc2 with hc2
        have : 0 = t + 4 := congrArg Prod.fst hc2
        omega
      · have hc2 : (some (.inr (0, 84)) : Option z_T) = some (.inr (t + 4, n)) := hc
        injection hc2 with hc2
        injection hc2 with hc2
        have : 0 = t + 4 := congrArg Prod.fst hc2
        omega
      · have hc2 : (some (.inr (0, 84)) : Option z_T) = some (.inr (t + 4, n)) := hc
        injection hc2 with hc2
        injection hc2 with hc2
        have : 0 = t + 4 := congrArg Prod.fst hc2
        omega
      · have hc2 : (some (.inr (0, 252)) : Option z_T) = some (.inr (t + 4, n)) := hc
        injection hc2 with hc2
        injection hc2 with hc2
        have : 0 = t + 4 := congrArg Prod.fst hc2
        omega
      · have hc2 : (some (.inr (0, 252)) : Option z_T) = some (.inr (t + 4, n)) := hc
        injection hc2 with hc2
        injection hc2 with hc2
        have : 0 = t + 4 := congrArg Prod.fst hc2
        omega
      · have hc2 : (some (.inr (2, 84)) : Option z_T) = some (.inr (t + 4, n)) := hc
        injection hc2 with hc2
        injection hc2 with hc2
        have : 2 = t + 4 := congrArg Prod.fst hc2
        omega
      · have hc2 : (some (.inr (2, 84)) : Option z_T) = some (.inr (t + 4, n)) := hc
        injection hc2 with hc2
        injection hc2 with hc2
        have : 2 = t + 4 := congrArg Prod.fst hc2
        omega
      · have hc2 : (some (.inr (0, 3)) : Option z_T) = some (.inr (t + 4, n)) := hc
        injection hc2 with hc2
        injection hc2 with hc2
        have : 0 = t + 4 := congrArg Prod.fst hc2
        omega
      · have hc2 : (some (.inr (0, 4)) : Option z_T) = some (.inr (t + 4, n)) := hc
        injection hc2 with hc2
        injection hc2 with hc2
        have : 0 = t + 4 := congrArg Prod.fst hc2
        omega
      · have hc2 : (some (.inr (0, 48)) : Option z_T) = some (.inr (t + 4, n)) := hc
        injection hc2 with hc2
        injection hc2 with hc2
        have : 0 = t + 4 := congrArg Prod.fst hc2
        omega
      · have hc2 : (some (.inr (0, 48)) : Option z_T) = some (.inr (t + 4, n)) := hc
        injection hc2 with hc2
        injection hc2 with hc2
        have : 0 = t + 4 := congrArg Prod.fst hc2
        omega
      · have hc2 : (some (.inr (0, 48)) : Option z_T) = some (.inr (t + 4, n)) := hc
        injection hc2 with hc2
        injection hc2 with hc2
        have : 0 = t + 4 := congrArg Prod.fst hc2
        omega
      · have hc2 : (some (.inr (0, 48)) : Option z_T) = some (.inr (t + 4, n)) := hc
        injection hc2 with hc2
        injection hc2 with hc2
        have : 0 = t + 4 := congrArg Prod.fst hc2
        omega
      · have hc2 : (some (.inr (0, 640)) : Option z_T) = some (.inr (t + 4, n)) := hc
        injection hc2 with hc2
        injection hc2 with hc2
        have : 0 = t + 4 := congrArg Prod.fst hc2
        omega
      · have hc2 : (some (.inr (0, 640)) : Option z_T) = some (.inr (t + 4, n)) := hc
        injection hc2 with hc2
        injection hc2 with hc2
        have : 0 = t + 4 := congrArg Prod.fst hc2
        omega
      · have hc2 : (some (.inr (0, 12)) : Option z_T) = some (.inr (t + 4, n)) := hc
        injection hc2 with hc2
        injection hc2 with hc2
        have : 0 = t + 4 := congrArg Prod.fst hc2
        omega
      · have hc2 : (some (.inr (0, 12)) : Option z_T) = some (.inr (t + 4, n)) := hc
        injection hc2 with hc2
        injection hc2 with hc2
        have : 0 = t + 4 := congrArg Prod.fst hc2
        omega
      · have hc2 : (some (.inr (0, 12)) : Option z_T) = some (.inr (t + 4, n)) := hc
        injection hc2 with hc2
        injection hc2 with hc2
        have : 0 = t + 4 := congrArg Prod.fst hc2
        omega
      · have hc2 : (some (.inr (0, 12)) : Option z_T) = some (.inr (t + 4, n)) := hc
        injection hc2 with hc2
        injection hc2 with hc2
        have : 0 = t + 4 := congrArg Prod.fst hc2
        omega
      · have hc2 : (some (.inr (0, 160)) : Option z_T) = some (.inr (t + 4, n)) := hc
        injection hc2 with hc2
        injection hc2 with hc2
        have : 0 = t + 4 := congrArg Prod.fst hc2
        omega
      · have hc2 : (some (.inr (0, 160)) : Option z_T) = some (.inr (t + 4, n)) := hc
        injection hc2 with hc2
        injection hc2 with hc2
        have : 0 = t + 4 := congrArg Prod.fst hc2
        omega
      · have hc2 : (some (.inr (0, 200)) : Option z_T) = some (.inr (t + 4, n)) := hc
        injection hc2 with hc2
        injection hc2 with hc2
        have : 0 = t + 4 := congrArg Prod.fst hc2
        omega
      · have hc2 : (some (.inr (3, 200)) : Option z_T) = some (.inr (t + 4, n)) := hc
        injection hc2 with hc2
        injection hc2 with hc2
        have : 3 = t + 4 := congrArg Prod.fst hc2
        omega
      · have hc2 : (some (.inr (2, 200)) : Option z_T) = some (.inr (t + 4, n)) := hc
        injection hc2 with hc2
        injection hc2 with hc2
        have : 2 = t + 4 := congrArg Prod.fst hc2
        omega
      · have hc2 : (some (.inr (2, 1800)) : Option z_T) = some (.inr (t + 4, n)) := hc
        injection hc2 with hc2
        injection hc2 with hc2
        have : 2 = t + 4 := congrArg Prod.fst hc2
        omega
      · have hc2 : (some (.inr (0, 96)) : Option z_T) = some (.inr (t + 4, n)) := hc
        injection hc2 with hc2
        injection hc2 with hc2
        have : 0 = t + 4 := congrArg Prod.fst hc2
        omega
    · have hl := lt c _ hc
      rw [ge c hl] at hc
      rcases hl with g | g | g | g | g | g | g | g | g | g | g | g | g | g | g | g | g | g | g | g | g | g | g | g | g | g | g | g | g | g | g | g | g | g | g | g | g | g | g | g | g | g <;> subst g
      · have hc2 : (some (.inl 12) : Option z_T) = some (.inl 8) := hc
        cases hc2
      · have hc2 : (some (.inr (1, 200)) : Option z_T) = some (.inl 8) := hc
        cases hc2
      · have hc2 : (some (.inr (0, 24)) : Option z_T) = some (.inl 8) := hc
        cases hc2
      · have hc2 : (some (.inr (0, 24)) : Option z_T) = some (.inl 8) := hc
        cases hc2
      · have hc2 : (some (.inr (0, 3)) : Option z_T) = some (.inl 8) := hc
        cases hc2
      · have hc2 : (some (.inr (0, 3)) : Option z_T) = some (.inl 8) := hc
        cases hc2
      · have hc2 : (some (.inr (2, 3)) : Option z_T) = some (.inl 8) := hc
        cases hc2
      · have hc2 : (some (.inr (0, 3)) : Option z_T) = some (.inl 8) := hc
        cases hc2
      · have hc2 : (some (.inr (0, 3)) : Option z_T) = some (.inl 8) := hc
        cases hc2
      · have hc2 : (some (.inr (0, 4)) : Option z_T) = some (.inl 8) := hc
        cases hc2
      · have hc2 : (some (.inr (2, 4)) : Option z_T) = some (.inl 8) := hc
        cases hc2
      · have hc2 : (some (.inr (0, 96)) : Option z_T) = some (.inl 8) := hc
        cases hc2
      · have hc2 : (some (.inr (0, 24)) : Option z_T) = some (.inl 8) := hc
        cases hc2
      · have hc2 : (some (.inr (0, 96)) : Option z_T) = some (.inl 8) := hc
        cases hc2
      · have hc2 : (some (.inr (0, 84)) : Option z_T) = some (.inl 8) := hc
        cases hc2
      · have hc2 : (some (.inr (0, 84)) : Option z_T) = some (.inl 8) := hc
        cases hc2
      · have hc2 : (some (.inr (0, 84)) : Option z_T) = some (.inl 8) := hc
        cases hc2
      · have hc2 : (some (.inr (0, 84)) : Option z_T) = some (.inl 8) := hc
        cases hc2
      · have hc2 : (some (.inr (0, 84)) : Option z_T) = some (.inl 8) := hc
        cases hc2
      · have hc2 : (some (.inr (0, 252)) : Option z_T) = some (.inl 8) := hc
        cases hc2
      · have hc2 : (some (.inr (0, 252)) : Option z_T) = some (.inl 8) := hc
        cases hc2
      · have hc2 : (some (.inr (2, 84)) : Option z_T) = some (.inl 8) := hc
        cases hc2
      · have hc2 : (some (.inr (2, 84)) : Option z_T) = some (.inl 8) := hc
        cases hc2
      · have hc2 : (some (.inr (0, 3)) : Option z_T) = some (.inl 8) := hc
        cases hc2
      · have hc2 : (some (.inr (0, 4)) : Option z_T) = some (.inl 8) := hc
        cases hc2
      · have hc2 : (some (.inr (0, 48)) : Option z_T) = some (.inl 8) := hc
        cases hc2
      · have hc2 : (some (.inr (0, 48)) : Option z_T) = some (.inl 8) := hc
        cases hc2
      · have hc2 : (some (.inr (0, 48)) : Option z_T) = some (.inl 8) := hc
        cases hc2
      · have hc2 : (some (.inr (0, 48)) : Option z_T) = some (.inl 8) := hc
        cases hc2
      · have hc2 : (some (.inr (0, 640)) : Option z_T) = some (.inl 8) := hc
        cases hc2
      · have hc2 : (some (.inr (0, 640)) : Option z_T) = some (.inl 8) := hc
        cases hc2
      · have hc2 : (some (.inr (0, 12)) : Option z_T) = some (.inl 8) := hc
        cases hc2
      · have hc2 : (some (.inr (0, 12)) : Option z_T) = some (.inl 8) := hc
        cases hc2
      · have hc2 : (some (.inr (0, 12)) : Option z_T) = some (.inl 8) := hc
        cases hc2
      · have hc2 : (some (.inr (0, 12)) : Option z_T) = some (.inl 8) := hc
        cases hc2
      · have hc2 : (some (.inr (0, 160)) : Option z_T) = some (.inl 8) := hc
        cases hc2
      · have hc2 : (some (.inr (0, 160)) : Option z_T) = some (.inl 8) := hc
        cases hc2
      · have hc2 : (some (.inr (0, 200)) : Option z_T) = some (.inl 8) := hc
        cases hc2
      · have hc2 : (some (.inr (3, 200)) : Option z_T) = some (.inl 8) := hc
        cases hc2
      · have hc2 : (some (.inr (2, 200)) : Option z_T) = some (.inl 8) := hc
        cases hc2
      · have hc2 : (some (.inr (2, 1800)) : Option z_T) = some (.inl 8) := hc
        cases hc2
      · have hc2 : (some (.inr (0, 96)) : Option z_T) = some (.inl 8) := hc
        cases hc2
    · have hl := lt c _ hc
      rw [ge c hl] at hc
      rcases hl with g | g | g | g | g | g | g | g | g | g | g | g | g | g | g | g | g | g | g | g | g | g | g | g | g | g | g | g | g | g | g | g | g | g | g | g | g | g | g | g | g | g <;> subst g
      · have hc2 : (some (.inl 12) : Option z_T) = some (.inl 7) := hc
        cases hc2
      · have hc2 : (some (.inr (1, 200)) : Option z_T) = some (.inl 7) := hc
        cases hc2
      · have hc2 : (some (.inr (0, 24)) : Option z_T) = some (.inl 7) := hc
        cases hc2
      · have hc2 : (some (.inr (0, 24)) : Option z_T) = some (.inl 7) := hc
        cases hc2
      · have hc2 : (some (.inr (0, 3)) : Option z_T) = some (.inl 7) := hc
        cases hc2
      · have hc2 : (some (.inr (0, 3)) : Option z_T) = some (.inl 7) := hc
        cases hc2
      · have hc2 : (some (.inr (2, 3)) : Option z_T) = some (.inl 7) := hc
        cases hc2
      · have hc2 : (some (.inr (0, 3)) : Option z_T) = some (.inl 7) := hc
        cases hc2
      · have hc2 : (some (.inr (0, 3)) : Option z_T) = some (.inl 7) := hc
        cases hc2
      · have hc2 : (some (.inr (0, 4)) : Option z_T) = some (.inl 7) := hc
        cases hc2
      · have hc2 : (some (.inr (2, 4)) : Option z_T) = some (.inl 7) := hc
        cases hc2
      · have hc2 : (some (.inr (0, 96)) : Option z_T) = some (.inl 7) := hc
        cases hc2
      · have hc2 : (some (.inr (0, 24)) : Option z_T) = some (.inl 7) := hc
        cases hc2
      · have hc2 : (some (.inr (0, 96)) : Option z_T) = some (.inl 7) := hc
        cases hc2
      · have hc2 : (some (.inr (0, 84)) : Option z_T) = some (.inl 7) := hc
        cases hc2
      · have hc2 : (some (.inr (0, 84)) : Option z_T) = some (.inl 7) := hc
        cases hc2
      · have hc2 : (some (.inr (0, 84)) : Option z_T) = some (.inl 7) := hc
        cases hc2
      · have hc2 : (some (.inr (0, 84)) : Option z_T) = some (.inl 7) := hc
        cases hc2
      · have hc2 : (some (.inr (0, 84)) : Option z_T) = some (.inl 7) := hc
        cases hc2
      · have hc2 : (some (.inr (0, 252)) : Option z_T) = some (.inl 7) := hc
        cases hc2
      · have hc2 : (some (.inr (0, 252)) : Option z_T) = some (.inl 7) := hc
        cases hc2
      · have hc2 : (some (.inr (2, 84)) : Option z_T) = some (.inl 7) := hc
        cases hc2
      · have hc2 : (some (.inr (2, 84)) : Option z_T) = some (.inl 7) := hc
        cases hc2
      · have hc2 : (some (.inr (0, 3)) : Option z_T) = some (.inl 7) := hc
        cases hc2
      · have hc2 : (some (.inr (0, 4)) : Option z_T) = some (.inl 7) := hc
        cases hc2
      · have hc2 : (some (.inr (0, 48)) : Option z_T) = some (.inl 7) := hc
        cases hc2
      · have hc2 : (some (.inr (0, 48)) : Option z_T) = some (.inl 7) := hc
        cases hc2
      · have hc2 : (some (.inr (0, 48)) : Option z_T) = some (.inl 7) := hc
        cases hc2
      · have hc2 : (some (.inr (0, 48)) : Option z_T) = some (.inl 7) := hc
        cases hc2
      · have hc2 : (some (.inr (0, 640)) : Option z_T) = some (.inl 7) := hc
        cases hc2
      · have hc2 : (some (.inr (0, 640)) : Option z_T) = some (.inl 7) := hc
        cases hc2
      · have hc2 : (some (.inr (0, 12)) : Option z_T) = some (.inl 7) := hc
        cases hc2
      · have hc2 : (some (.inr (0, 12)) : Option z_T) = some (.inl 7) := hc
        cases hc2
      · have hc2 : (some (.inr (0, 12)) : Option z_T) = some (.inl 7) := hc
        cases hc2
      · have hc2 : (some (.inr (0, 12)) : Option z_T) = some (.inl 7) := hc
        cases hc2
      · have hc2 : (some (.inr (0, 160)) : Option z_T) = some (.inl 7) := hc
        cases hc2
      · have hc2 : (some (.inr (0, 160)) : Option z_T) = some (.inl 7) := hc
        cases hc2
      · have hc2 : (some (.inr (0, 200)) : Option z_T) = some (.inl 7) := hc
        cases hc2
      · have hc2 : (some (.inr (3, 200)) : Option z_T) = some (.inl 7) := hc
        cases hc2
      · have hc2 : (some (.inr (2, 200)) : Option z_T) = some (.inl 7) := hc
        cases hc2
      · have hc2 : (some (.inr (2, 1800)) : Option z_T) = some (.inl 7) := hc
        cases hc2
      · have hc2 : (some (.inr (0, 96)) : Option z_T) = some (.inl 7) := hc
        cases hc2
  have k0 : kd 0 = some (.inl 12) := ge 0 (by decide)
  have k17 : kd 17 = some (.inr (0, 96)) := ge 17 (by decide)
  have q17 : q 0 16 = some 17 := by
    rw [← hq]
    rfl
  unfold L_X12_init_336
  intro P hP
  have key : ∀ i, i ≤ 96 → ∀ μi : z_M, (∀ c k, c ≠ 17 → μi.1 c k = 0) → (∀ k, μi.1 17 k = if k < i then -1 else 0) → P 0 (nI i) kd q μi := by
    refine downTo 96 ?_ (fun i hi ih => ?_)
    · intro μi k1 k2
      refine hP _ _ _ _ _ ?_
      unfold B_X12_init_336
      rw [if_pos (show (96 : Int32) ≤ nI 96 by decide)]
      refine hK kd q μi hI k0 ⟨fun k h1 h2 => by rw [k1 0 k (by decide)]; rfl, fun c k hc _ => ?_, fun c k hc _ => ?_, fun k => by rw [k1 1 k (by decide)]; exact (show (0 : Int32) &&& 255 = nI 0 by decide), fun b hb => ⟨by rw [k1 32 b (by decide)]; rfl, Nat.zero_le _, fun k l n cd e => by cases e⟩⟩
      · rw [k1 c k (fun e => by rw [e] at hc; cases hc)]
        rfl
      · by_cases e : c = 17
        · subst e
          rw [k2]
          by_cases g : k < 96
          · rw [if_pos g, show S0.2.1 17 k = none from if_pos ⟨rfl, g⟩]
            rfl
          · rw [if_neg g, show S0.2.1 17 k = some 0 from if_neg (fun z => g z.2)]
            rfl
        · rw [k1 c k e, show S0.2.1 c k = some 0 from if_neg (fun z => e z.1)]
          rfl
    · intro μi k1 k2
      refine hP _ _ _ _ _ ?_
      unfold B_X12_init_336
      refine ifc (nI_leI (a := 96) (by decide) (by omega)) (fun g => absurd g (by omega)) (fun _ => ⟨17, 96, q17, k17, nI_vin hi (by decide), ?_⟩)
      rw [nI_clamp (by omega), nI_1]
      refine ih _ (fun c k hc => by rw [si1, if_neg (fun z => hc z.1)]; exact k1 c k hc) (fun k => ?_)
      rw [si1]
      by_cases g : k = i
      · rw [if_pos ⟨rfl, g⟩, if_pos (by omega)]
      · rw [if_neg (fun z => g z.2), k2]
        by_cases g2 : k < i
        · rw [if_pos g2, if_pos (by omega)]
        · rw [if_neg g2, if_neg (by omega)]
  exact key 0 (by decide) μ (fun c k _ => hz c k) (fun k => by rw [hz, if_neg (Nat.not_lt_zero k)])
end FIRST
