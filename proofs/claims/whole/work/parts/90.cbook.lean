/-! The class: book. -/
section CBOOK
variable {B : Nat} {S : z_SS} {kd kd' : z_K} {q q' : z_Q} {μ μ' : z_M}
/-- the kinds of a new book's cells -/
def kB (kd : z_K) (c : Nat) : z_K := fun x => if x = c + 7 then some (.inr (0, 160)) else if x = c + 6 then some (.inr (0, 24)) else if x = c + 5 then some (.inr (0, 24)) else if x = c + 4 then some (.inr (0, 3)) else if x = c + 3 then some (.inr (0, 24)) else if x = c + 2 then some (.inr (0, 24)) else if x = c + 1 then some (.inr (0, 24)) else kd x
theorem zq0 {x y k : Nat} : z_q0 q y x k = if x = y then none else q x k := rfl
theorem zsr {x k c j : Nat} {w : Option Nat} : sr q c j w x k = if x = c ∧ k = j then w else q x k := rfl
theorem zm0 {x y k : Nat} : (z_m0 μ y).1 x k = if x = y then 0 else μ.1 x k := rfl
theorem c_bookInit {c : Nat} (f : ∀ j, 1 ≤ j → j ≤ 7 → Fr kd q (c + j)) {a1 : Int32} {K : z_K → z_Q → z_M → Prop} (hK : ∀ q' μ', (∀ x k, (x < c ∨ c + 7 < x) → q' x k = q x k) → (∀ j, j < 7 → q' c (3 + j) = some (c + 1 + j)) → (∀ k, (k < 3 ∨ 9 < k) → q' c k = q c k) → (∀ x k, c + 1 ≤ x → x ≤ c + 7 → q' x k = none) → μ'.1 c 0 = a1 → (∀ k, 1 ≤ k → μ'.1 c k = μ.1 c k) → (∀ k, k < 24 → μ'.1 (c + 1) k = -1 ∧ μ'.1 (c + 2) k = -1) → (∀ x k, c + 3 ≤ x → x ≤ c + 7 → μ'.1 x k = 0) → (∀ x k, (x < c ∨ c + 7 < x) → μ'.1 x k = μ.1 x k) → K (kB kd c) q' μ') : C_X1_init kd q c a1 μ K := by
  unfold C_X1_init
  have fr := f 1 (by decide) (by decide)
  refine ⟨c + 1, fr.1, fr.2, fun kd1 q1 μ1 e1 e2 e3 => ?_⟩
  have g1 : ∀ j, 2 ≤ j → j ≤ 7 → Fr kd1 (sr q1 c 3 (some (c + 1))) (c + j) := fun j j1 j2 => by
    rw [e1, e2]
    exact Fr_sr (Fr_up (f j (by omega) j2) (by omega)) (by omega)
  have fr := g1 2 (by decide) (by decide)
  refine ⟨c + 2, fr.1, fr.2, fun kd2 q2 μ2 e4 e5 e6 => ?_⟩
  have g2 : ∀ j, 3 ≤ j → j ≤ 7 → Fr kd2 (sr q2 c 4 (some (c + 2))) (c + j) := fun j j1 j2 => by
    rw [e4, e5]
    exact Fr_sr (Fr_up (g1 j (by omega) j2) (by omega)) (by omega)
  have qc3 : sr q2 c 4 (some (c + 2)) c 3 = some (c + 1) := by rw [zsr, if_neg (by omega), e5, zq0, if_neg (by omega), zsr, if_pos ⟨rfl, rfl⟩]
  have qc4 : sr q2 c 4 (some (c + 2)) c 4 = some (c + 2) := by rw [zsr, if_pos ⟨rfl, rfl⟩]
  have kc1 : kd2 (c + 1) = some (.inr (0, 24)) := by rw [e4, z_up_ne (by omega), e1, z_up_eq]
  have kc2 : kd2 (c + 2) = some (.inr (0, 24)) := by rw [e4, z_up_eq]
  unfold L_X1_init_27
  intro P hP
  have key : ∀ i, i ≤ 24 → ∀ μi : z_M, (∀ x k, x ≠ c + 1 → x ≠ c + 2 → μi.1 x k = μ2.1 x k) → (∀ k, k < i → μi.1 (c + 1) k = -1 ∧ μi.1 (c + 2) k = -1) → P c (nI i) kd2 (sr q2 c 4 (some (c + 2))) μi := by
    refine downTo 24 ?_ (fun i hi ih => ?_)
    · intro μi k1 k2
      refine hP _ _ _ _ _ ?_
      unfold B_X1_init_27
      rw [if_pos (show (24 : Int32) ≤ nI 24 by decide)]
      have fr := g2 3 (by decide) (by decide)
      refine ⟨c + 3, fr.1, fr.2, fun kd3 q3 μ3 e7 e8 e9 => ?_⟩
      have g3 : ∀ j, 4 ≤ j → j ≤ 7 → Fr kd3 (sr q3 c 5 (some (c + 3))) (c + j) := fun j j1 j2 => by
        rw [e7, e8]
        exact Fr_sr (Fr_up (g2 j (by omega) j2) (by omega)) (by omega)
      have fr := g3 4 (by decide) (by decide)
      refine ⟨c + 4, fr.1, fr.2, fun kd4 q4 μ4 e10 e11 e12 => ?_⟩
      have g4 : ∀ j, 5 ≤ j → j ≤ 7 → Fr kd4 (sr q4 c 6 (some (c + 4))) (c + j) := fun j j1 j2 => by
        rw [e10, e11]
        exact Fr_sr (Fr_up (g3 j (by omega) j2) (by omega)) (by omega)
      have fr := g4 5 (by decide) (by decide)
      refine ⟨c + 5, fr.1, fr.2, fun kd5 q5 μ5 e13 e14 e15 => ?_⟩
      have g5 : ∀ j, 6 ≤ j → j ≤ 7 → Fr kd5 (sr q5 c 7 (some (c + 5))) (c + j) := fun j j1 j2 => by
        rw [e13, e14]
        exact Fr_sr (Fr_up (g4 j (by omega) j2) (by omega)) (by omega)
      have fr := g5 6 (by decide) (by decide)
      refine ⟨c + 6, fr.1, fr.2, fun kd6 q6 μ6 e16 e17 e18 => ?_⟩
      have g6 : ∀ j, 7 ≤ j → j ≤ 7 → Fr kd6 (sr q6 c 8 (some (c + 6))) (c + j) := fun j j1 j2 => by
        rw [e16, e17]
        exact Fr_sr (Fr_up (g5 j (by omega) j2) (by omega)) (by omega)
      have fr := g6 7 (by decide) (by decide)
      refine ⟨c + 7, fr.1, fr.2, fun kd7 q7 μ7 e19 e20 e21 => ?_⟩
      have ek : kd7 = kB kd c := by
        rw [e19, e16, e13, e10, e7, e4, e1]
        rfl
      rw [ek]
      have qq : ∀ x k, sr q7 c 9 (some (c + 7)) x k = if x = c ∧ k = 9 then some (c + 7) else if x = c + 7 then none else if x = c ∧ k = 8 then some (c + 6) else if x = c + 6 then none else if x = c ∧ k = 7 then some (c + 5) else if x = c + 5 then none else if x = c ∧ k = 6 then some (c + 4) else if x = c + 4 then none else if x = c ∧ k = 5 then some (c + 3) else if x = c + 3 then none else if x = c ∧ k = 4 then some (c + 2) else if x = c + 2 then none else if x = c ∧ k = 3 then some (c + 1) else if x = c + 1 then none else q x k := fun x k => by rw [zsr, e20, zq0, zsr, e17, zq0, zsr, e14, zq0, zsr, e11, zq0, zsr, e8, zq0, zsr, e5, zq0, zsr, e2, zq0]
      have mq : ∀ x k, μ7.1 x k = if c + 3 ≤ x ∧ x ≤ c + 7 then 0 else μi.1 x k := fun x k => by
        rw [e21, zm0, e18, zm0, e15, zm0, e12, zm0, e9, zm0]
        by_cases g : c + 3 ≤ x ∧ x ≤ c + 7
        · rw [if_pos g]
          rcases (show x = c + 3 ∨ x = c + 4 ∨ x = c + 5 ∨ x = c + 6 ∨ x = c + 7 by omega) with e | e | e | e | e
          · rw [if_neg (by omega), if_neg (by omega), if_neg (by omega), if_neg (by omega), if_pos e]
          · rw [if_neg (by omega), if_neg (by omega), if_neg (by omega), if_pos e]
          · rw [if_neg (by omega), if_neg (by omega), if_pos e]
          · rw [if_neg (by omega), if_pos e]
          · rw [if_pos e]
        · rw [if_neg g, if_neg (show ¬ x = c + 7 by omega), if_neg (show ¬ x = c + 6 by omega), if_neg (show ¬ x = c + 5 by omega), if_neg (show ¬ x = c + 4 by omega), if_neg (show ¬ x = c + 3 by omega)]
      have m2 : ∀ x k, μ2.1 x k = if x = c + 2 then 0 else if x = c + 1 then 0 else if x = c ∧ k = 0 then a1 else μ.1 x k := fun x k => by rw [e6, zm0, e3, zm0, si1]
      refine hK _ _ (fun x k hx => ?_) (fun j hj => ?_) (fun k hk => ?_) (fun x k h1 h2 => ?_) ?_ (fun k hk => ?_) (fun k hk => ?_) (fun x k h1 h2 => ?_) (fun x k hx => ?_)
      · rw [qq, if_neg (by omega), if_neg (by omega), if_neg (by omega), if_neg (by omega), if_neg (by omega), if_neg (by omega), if_neg (by omega), if_neg (by omega), if_neg (by omega), if_neg (by omega), if_neg (by omega), if_neg (by omega), if_neg (by omega), if_neg (by omega)]
      · rw [qq]
        rcases (show j = 0 ∨ j = 1 ∨ j = 2 ∨ j = 3 ∨ j = 4 ∨ j = 5 ∨ j = 6 by omega) with e | e | e | e | e | e | e <;> subst e <;> simp
      · rw [qq, if_neg (by omega), if_neg (by omega), if_neg (by omega), if_neg (by omega), if_neg (by omega), if_neg (by omega), if_neg (by omega), if_neg (by omega), if_neg (by omega), if_neg (by omega), if_neg (by omega), if_neg (by omega), if_neg (by omega), if_neg (by omega)]
      · rw [qq, if_neg (by omega)]
        rcases (show x = c + 1 ∨ x = c + 2 ∨ x = c + 3 ∨ x = c + 4 ∨ x = c + 5 ∨ x = c + 6 ∨ x = c + 7 by omega) with e | e | e | e | e | e | e <;> subst e <;> simp
      · rw [mq, if_neg (by omega), k1 _ _ (by omega) (by omega), m2, if_neg (by omega), if_neg (by omega), if_pos ⟨rfl, rfl⟩]
      · rw [mq, if_neg (by omega), k1 _ _ (by omega) (by omega), m2, if_neg (by omega), if_neg (by omega), if_neg (by omega)]
      · rw [mq, if_neg (by omega), mq, if_neg (by omega)]
        exact k2 k hk
      · rw [mq, if_pos ⟨h1, h2⟩]
      · rw [mq, if_neg (by omega), k1 _ _ (by omega) (by omega), m2, if_neg (by omega), if_neg (by omega), if_neg (by omega)]
    · intro μi k1 k2
      refine hP _ _ _ _ _ ?_
      unfold B_X1_init_27
      refine ifc (nI_leI (a := 24) (by decide) (by omega)) (fun g => absurd g (by omega)) (fun _ => ⟨_, 24, qc3, kc1, nI_vin hi (by decide), _, 24, qc4, kc2, nI_vin hi (by decide), ?_⟩)
      rw [nI_clamp (by omega), nI_1]
      refine ih _ (fun x k h1 h2 => ?_) (fun k hk => ⟨?_, ?_⟩)
      · rw [si1, if_neg (fun z => h2 z.1), si1, if_neg (fun z => h1 z.1)]
        exact k1 x k h1 h2
      · rw [si1, if_neg (by omega), si1]
        by_cases e : k = i
        · rw [if_pos ⟨rfl, e⟩]
        · rw [if_neg (fun z => e z.2)]
          exact (k2 k (by omega)).1
      · rw [si1]
        by_cases e : k = i
        · rw [if_pos ⟨rfl, e⟩]
        · rw [if_neg (fun z => e z.2), si1, if_neg (by omega)]
          exact (k2 k (by omega)).2
  exact key 0 (by decide) μ2 (fun _ _ _ _ => rfl) (fun k hk => absurd hk (Nat.not_lt_zero k))
theorem KQ_newb (hQ : KQ S kd q) (hn : S.1 0 4 < 4) (h3 : S.1 0 3 ≤ 3) {c : Nat} (hc : 40 + 8 * S.1 0 4 = c) {q2 : z_Q} (o : ∀ x k, (x < c ∨ c + 7 < x) → q2 x k = q x k) (oj : ∀ j, j < 7 → q2 c (3 + j) = some (c + 1 + j)) (oo : ∀ k, (k < 3 ∨ 9 < k) → q2 c k = none) (o1 : ∀ x k, c + 1 ≤ x → x ≤ c + 7 → q2 x k = none) {N : z_SS} (e3 : N.1 0 3 = S.1 0 3) (e4 : N.1 0 4 = S.1 0 4 + 1) (e6 : N.1 0 6 = S.1 0 6) : KQ N (kB (z_up kd c (.inl 1)) c) (sr q2 7 (S.1 0 4) (some c)) := by
  have n0 : ∀ x, c ≤ x → x ≤ c + 7 → kd x = none := fun x h1 h2 => hQ.2.2.2.2.2.1 _ (Or.inr (Or.inl ⟨by omega, by omega⟩))
  generalize hk : kB (z_up kd c (.inl 1)) c = kd'
  have k0 : kd' c = some (.inl 1) := by
    rw [← hk]
    unfold kB
    rw [if_neg (by omega), if_neg (by omega), if_neg (by omega), if_neg (by omega), if_neg (by omega), if_neg (by omega), if_neg (by omega), z_up_eq]
  have ko : ∀ x, (x < c ∨ c + 7 < x) → kd' x = kd x := fun x hx => by
    rw [← hk]
    unfold kB
    rw [if_neg (by omega), if_neg (by omega), if_neg (by omega), if_neg (by omega), if_neg (by omega), if_neg (by omega), if_neg (by omega), z_up_ne (by omega)]
  have kj : ∀ j, 1 ≤ j → j ≤ 7 → kd' (c + j) = some (.inr (0, if j = 7 then 160 else if j = 4 then 3 else 24)) := fun j j1 j2 => by
    rw [← hk]
    unfold kB
    rcases (show j = 1 ∨ j = 2 ∨ j = 3 ∨ j = 4 ∨ j = 5 ∨ j = 6 ∨ j = 7 by omega) with e | e | e | e | e | e | e <;> subst e <;> simp
  have nx : ∀ x, kd x ≠ none → x < c ∨ c + 7 < x := fun x hx => by
    by_cases g : c ≤ x ∧ x ≤ c + 7
    · exact absurd (n0 x g.1 g.2) hx
    · omega
  have ho : ∀ x t, kd x = some t → kd' x = some t := fun x t hx => by
    rw [ko x (nx x (nn_s hx))]
    exact hx
  have hq : ∀ x k, kd x ≠ none → q2 x k = q x k := fun x k hx => o x k (nx x hx)
  have new : ∀ x t, kd x = none → kd' x = some t → (x = c ∧ t = .inl 1) ∨ ((c + 1 ≤ x ∧ x ≤ c + 7) ∧ ∃ n, t = .inr (0, n)) := fun x t h1 h2 => by
    by_cases e0 : x = c
    · rw [e0, k0] at h2
      exact Or.inl ⟨e0, (Option.some.inj h2).symm⟩
    · by_cases e1 : x < c ∨ c + 7 < x
      · rw [ko x e1, h1] at h2
        cases h2
      · have := kj (x - c) (by omega) (by omega)
        rw [show c + (x - c) = x by omega, h2] at this
        exact Or.inr ⟨by omega, _, Option.some.inj this⟩
  have hI : z_I kd' q2 := by
    refine zI_ext hQ.1 ho hq fun x t h1 h2 => ?_
    rcases new x t h1 h2 with ⟨e, et⟩ | ⟨e, et⟩
    · refine Or.inr ⟨1, et, by decide, by decide, fun k f t' hf => ?_⟩
      rw [e]
      have e5 := z_fin_1 hf
      have oq := oj (k - 3) (by omega)
      have kq := kj (k - 2) (by omega) (by omega)
      rcases (show k = 3 ∨ k = 4 ∨ k = 5 ∨ k = 6 ∨ k = 7 ∨ k = 8 ∨ k = 9 by omega) with g | g | g | g | g | g | g <;> subst g
      · rw [zf_1_3] at hf
        cases hf
        exact ⟨oq, kq⟩
      · rw [zf_1_4] at hf
        cases hf
        exact ⟨oq, kq⟩
      · rw [zf_1_5] at hf
        cases hf
        exact ⟨oq, kq⟩
      · rw [zf_1_6] at hf
        cases hf
        exact ⟨oq, kq⟩
      · rw [zf_1_7] at hf
        cases hf
        exact ⟨oq, kq⟩
      · rw [zf_1_8] at hf
        cases hf
        exact ⟨oq, kq⟩
      · rw [zf_1_9] at hf
        cases hf
        exact ⟨oq, kq⟩
    · exact Or.inl et
  have hk7 : kd 7 = some (.inr (5, 4)) := z_fk hQ.1 hQ.2.1 zf_11_3
  refine KQ_ext (arr := 7) (idx := S.1 0 4) (c1 := c) hQ ho (z_I_el hI (t := 1) (ho _ _ hk7) k0) (fun x k hx hxk => ?_) (if_pos ⟨rfl, rfl⟩) (nn_s k0) (fun x j a h1 h2 ha => ?_) (fun a ha => ?_) (fun r hr => Or.inl ⟨by omega, Or.inl (by decide)⟩) (fun b hb => ?_) (fun i hi => Or.inl ⟨by omega, Or.inl (by decide)⟩)
  · rw [zsr, if_neg (by omega)]
    exact hq x k hx
  · cases et : kd' x with
    | none => exact absurd et h2
    | some t =>
      rcases new x t h1 et with ⟨e, _⟩ | ⟨e, _⟩
      · rw [zsr, if_neg (by omega), e] at ha
        by_cases j5 : 3 ≤ j ∧ j ≤ 9
        · have := oj (j - 3) (by omega)
          rw [show 3 + (j - 3) = j by omega, ha] at this
          have ea : a = c + (j - 2) := by
            have := Option.some.inj this
            omega
          rw [ea]
          exact nn_s (kj (j - 2) (by omega) (by omega))
        · rw [oo j (by omega)] at ha
          cases ha
      · rw [zsr, if_neg (by omega), o1 x j e.1 e.2] at ha
        cases ha
  · have ha' : FrA S a ∧ (a < c ∨ c + 7 < a) := by
      unfold FrA at ha ⊢
      rw [e3, e4, e6] at ha
      omega
    rw [ko a ha'.2]
    exact hQ.2.2.2.2.2.1 a ha'.1
  · by_cases e : b < S.1 0 4
    · exact Or.inl ⟨e, Or.inr (by omega)⟩
    · exact Or.inr ⟨rfl, by omega, by omega, k0⟩
theorem c_book (hQ : KQ S kd q) (hV : RepV S μ) (hW : WF 80 S) (hE : WFe S) {a : Int32} {K : Int32 → z_K → z_Q → z_M → Prop} (hK : ∀ kd' q' μ', KQ (opBook S a).2 kd' q' → RepV (opBook S a).2 μ' → K (opBook S a).1 kd' q' μ') : C_X11_book kd q a μ K := by
  have h3 := hW.1
  have no : opBook S a = (-1, S) → K (-1) kd q μ := fun g => by
    rw [g] at hK
    exact hK kd q μ hQ hV
  have nog : (∀ n, 0 ≤ n → n ≤ 1000000 → a ≠ nI n) → K (-1) kd q μ := fun g => no (by
    unfold opBook
    split
    · rfl
    · rw [ixO_none fun j hj => g j (Nat.zero_le _) (by omega)])
  unfold C_X11_book
  refine rg_dec (lo := 0) (hi := 1000000) rfl rfl (by decide) (by decide) (fun n n1 n2 ea => ?_) nog nog
  subst ea
  have e14 : μ.1 0 14 = nI (S.1 0 4) := hV.1.2.2.1
  rw [e14]
  refine ifc (nI_ltI (b := 4) (by omega) (by decide)) (fun g3 => ?_) (fun g3 => no (by unfold opBook; rw [if_pos (by omega)]))
  have eo : opBook S (nI n) = (nI (S.1 0 4), setN (setN S 15 (S.1 0 4) n) 0 4 (S.1 0 4 + 1)) := by
    unfold opBook
    rw [if_neg (by omega), ixO_some (show n < 1000001 by omega) (by decide)]
  rw [eo] at hK
  dsimp only at hK
  have fA : ∀ j, j < 8 → FrA S (40 + 8 * S.1 0 4 + j) := fun j hj => Or.inr (Or.inl ⟨by omega, by omega⟩)
  generalize hc : 40 + 8 * S.1 0 4 = c at fA
  have fr0 : Fr kd q c := hQ.fr (fA 0 (by decide))
  refine ⟨c, fr0.1, fr0.2, fun kd2 q3 μ4 e2 e3 e4 => ?_⟩
  refine c_bookInit (fun j j1 j2 => by rw [e2, e3]; exact Fr_up (hQ.fr (fA j (by omega))) (by omega)) fun q1 μ8 p1 p2 p3 p4 w1 w2 w3 w4 w5 => ⟨nI_vin (by omega) (by decide), ?_⟩
  have m8 : ∀ x k, (x < c ∨ c + 7 < x) → μ8.1 x k = μ.1 x k := fun x k hx => by
    rw [w5 x k hx, e4, zm0, if_neg (by omega)]
  have mc : ∀ k, 1 ≤ k → μ8.1 c k = 0 := fun k hk => by rw [w2 k hk, e4, zm0, if_pos rfl]
  have e814 : μ8.1 0 14 = nI (S.1 0 4) := by rw [m8 _ _ (by omega)]; exact e14
  rw [e814, nI_1, si1, if_pos ⟨rfl, rfl⟩, nI_clamp (by omega), show (1 : Int32) = nI 1 from rfl, pk_sub (by omega), Nat.add_sub_cancel, e2]
  generalize hN : setN (setN S 15 (S.1 0 4) n) 0 4 (S.1 0 4 + 1) = N at hK
  have fN : ∀ x k, (x ≠ 0 ∨ k ≠ 4) → (x ≠ 15 ∨ k ≠ S.1 0 4) → N.1 x k = S.1 x k := fun x k h0 h1 => by rw [← hN, setN_1, if_neg (by omega), setN_1, if_neg (by omega)]
  have fN4 : N.1 0 4 = S.1 0 4 + 1 := by rw [← hN, setN_1, if_pos ⟨rfl, rfl⟩]
  have fN15 : N.1 15 (S.1 0 4) = n := by rw [← hN, setN_1, if_neg (by omega), setN_1, if_pos ⟨rfl, rfl⟩]
  have fN2 : N.2 = S.2 := by rw [← hN]; rfl
  have hf := hW.2.2.2.2.2.2.2.2.2.2.2 (S.1 0 4) (Nat.le_refl _) (by omega)
  refine hK _ _ _ (KQ_newb hQ (by omega) (by omega) hc (fun x k hx => by rw [p1 x k hx, e3, zq0, if_neg (by omega)]) p2 (fun k hk => by rw [p3 k hk, e3, zq0, if_pos rfl]) p4 (fN 0 3 (by omega) (by omega)) fN4 (fN 0 6 (by omega) (by omega))) ?_
  have bs : btSame S N := ⟨fN 0 6 (by omega) (by omega), fun i hi => ⟨fun x h1 h2 => fN x i (by omega) (by omega), fun r hr => by rw [fN2], fun r hr _ => fN 26 _ (by omega) (by omega)⟩, fun s => ⟨fN 8 s (by omega) (by omega), fN 9 s (by omega) (by omega)⟩⟩
  have mm : ∀ x k, (x < c ∨ c + 7 < x) → (x ≠ 0 ∨ k ≠ 14) → (si μ8 0 14 (nI (S.1 0 4 + 1))).1 x k = μ.1 x k := fun x k h0 h2 => by rw [si1, if_neg (by omega), m8 x k h0]
  refine ⟨?_, fun r hr => ?_, fun b hb => ?_, fun i hi => ?_⟩
  · obtain ⟨a1, a2, a3, a4, a5, a6, a7, a8⟩ := hV.1
    refine ⟨?_, ?_, ?_, ?_, ?_, fun k hk => ?_, ?_, fun s hs => ?_⟩
    · rw [mm 0 12 (by omega) (by omega), fN 0 2 (by omega) (by omega)]
      exact a1
    · rw [mm 0 13 (by omega) (by omega), fN 0 3 (by omega) (by omega)]
      exact a2
    · rw [si1, if_pos ⟨rfl, rfl⟩, fN4]
    · rw [mm 0 15 (by omega) (by omega), fN 0 6 (by omega) (by omega)]
      exact a4
    · rw [mm 1 1 (by omega) (by omega), fN 0 1 (by omega) (by omega)]
      exact a5
    · rw [mm 2 k (by omega) (by omega), fN 1 k (by omega) (by omega)]
      exact a6 k hk
    · rw [mm 3 2 (by omega) (by omega), fN 0 5 (by omega) (by omega)]
      exact a7
    · rw [fN 0 5 (by omega) (by omega)] at hs
      rw [mm 4 s (by omega) (by omega), mm 5 s (by omega) (by omega), fN 8 s (by omega) (by omega), fN 9 s (by omega) (by omega)]
      exact a8 s hs
  · rw [fN 0 3 (by omega) (by omega)] at hr
    exact RvR_keep (RvR_same (hV.2.1 r hr) fun x k c1 c2 => mm x k (by omega) (by omega)) (fun x c1 c2 => fN x r (by omega) (by omega)) (fun x => fN 18 _ (by omega) (by omega)) (fN 0 2 (by omega) (by omega)) (fun s _ => fN 60 _ (by omega) (by omega))
  · rw [fN4] at hb
    by_cases eb : b = S.1 0 4
    · subst eb
      have mb : ∀ x k, c ≤ x → (si μ8 0 14 (nI (S.1 0 4 + 1))).1 x k = μ8.1 x k := fun x k hx => by rw [si1, if_neg (by omega)]
      have nob : ∀ i, i < S.1 0 6 → S.1 21 i ≠ S.1 0 4 := fun i hi e => by
        have := (hW.2.2.2.2.2.2.1 i hi).2.1
        omega
      have slN : ∀ k, k < 24 → S.2.1 17 (24 * S.1 0 4 + k) = none := fun k hk => by
        cases e : S.2.1 17 (24 * S.1 0 4 + k) with
        | none => rfl
        | some s =>
          have := (wf17 hW (k := 24 * S.1 0 4 + k) (by omega) e).2.1
          omega
      refine ⟨?_, ?_, ?_, fun k hk => ?_, fun r x hr hx => ?_, ⟨fun r x hr hx => ⟨?_, ?_, ?_⟩, fun r hr => ?_⟩, ?_, fun hne => ?_⟩
      · rw [hc, mb _ _ (Nat.le_refl _), w1, fN15]
      · rw [hc, mb _ _ (Nat.le_refl _), mc 1 (by decide), fN 16 _ (by omega) (by omega), hf.1]
        rfl
      · rw [hc, mb _ _ (Nat.le_refl _), mc 2 (by decide), betsOf_eq bs]
        unfold betsOf
        rw [sumN_0 fun i hi => if_neg (nob i hi)]
        rfl
      · rw [hc, mb _ _ (by omega), (w3 k hk).1, fN2, slN k hk]
        rfl
      · rw [fN 0 3 (by omega) (by omega)] at hr
        rw [fN 11 r (by omega) (by omega)] at hx
        have h4 := hW.2.2.1 r hr
        have hx8 := h4.2.2.2.2.2.1 x hx
        rw [hc, mb _ _ (by omega), (w3 _ (by omega)).2, fN2, hE _ r x (Nat.le_refl _) (by omega) hr hx]
        rfl
      · rw [hc, mb _ _ (by omega), w4 _ _ (by omega) (by omega)]
        unfold stkA
        rw [stkOn_eq bs hr]
        unfold stkOn
        rw [sumN_0 fun i hi => if_neg (fun z => nob i hi z.1)]
        split <;> rfl
      · rw [hc, mb _ _ (by omega), w4 _ _ (by omega) (by omega)]
        unfold bckA
        rw [backsS_eq bs hr]
        unfold backsS
        rw [sumN_0 fun i hi => if_neg (fun z => nob i hi z.1)]
        split <;> rfl
      · rw [hc, mb _ _ (by omega), w4 _ _ (by omega) (by omega), betsOn_eq bs hr]
        unfold betsOn
        rw [sumN_0 fun i hi => if_neg (fun z => nob i hi z.1)]
        rfl
      · rw [hc, mb _ _ (by omega), w4 _ _ (by omega) (by omega), stakesS_eq bs hr (fN 0 3 (by omega) (by omega)) (fN 10 r (by omega) (by omega)) (fN 11 r (by omega) (by omega))]
        unfold stakesS
        rw [sumN_0 fun i hi => if_neg (fun z => nob i hi z.1)]
        rfl
      · rw [hc, mb _ _ (Nat.le_refl _), mc 11 (by decide), fN2, hf.2]
        rfl
      · rw [fN2, hf.2] at hne
        exact absurd rfl hne
    · obtain ⟨b0, b1, b2, b3, b4, b5, b6⟩ := RvB_same (hV.2.2.1 b (by omega)) (μ' := si μ8 0 14 (nI (S.1 0 4 + 1))) fun x k c1 c2 => mm x k (by omega) (by omega)
      refine ⟨by rw [fN 15 b (by omega) (by omega)]; exact b0, by rw [fN 16 b (by omega) (by omega)]; exact b1, by rw [betsOf_eq bs]; exact b2, fun k hk => by rw [fN2]; exact b3 k hk, fun r x hr hx => ?_, RvO_keep b5 bs (fN 0 3 (by omega) (by omega)) (fun r _ => fN 10 r (by omega) (by omega)) (fun r _ => fN 11 r (by omega) (by omega)), TxB_keep b6 (by rw [fN2])⟩
      rw [fN 0 3 (by omega) (by omega)] at hr
      rw [fN 11 r (by omega) (by omega)] at hx
      rw [fN2]
      exact b4 r x hr hx
  · rw [fN 0 6 (by omega) (by omega)] at hi
    refine RvT_keep (RvT_same (hV.2.2.2 i hi) fun x k c1 c2 => mm x k (by omega) (by omega)) (fun x c1 c2 => fN x i (by omega) (by omega)) (fN 27 i (by omega) (by omega)) (fN 28 i (by omega) (by omega)) (fun r hr => by rw [fN2]) (fun r hr _ => fN 26 _ (by omega) (by omega)) (fun _ => backS_eq hW hi (bk_of bs hi (fun r _ => ⟨fN 10 r (by omega) (by omega), fN 11 r (by omega) (by omega), fN 13 r (by omega) (by omega), fN 14 r (by omega) (by omega)⟩) (fun k => fN 18 k (by omega) (by omega)) (fun k => by rw [fN2])))
end CBOOK
