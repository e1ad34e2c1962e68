/-! The class: new cells; bet, joined. -/
section CNEW
variable {S N : z_SS} {kd kd' : z_K} {q q' : z_Q} {μ : z_M}
theorem nn_s {α : Type} {o : Option α} {a : α} (h : o = some a) : o ≠ none := by
  rw [h]
  exact fun z => by cases z
theorem zI_ext (hI : z_I kd q) (ho : ∀ c t, kd c = some t → kd' c = some t) (hq : ∀ c k, kd c ≠ none → q' c k = q c k) (hn : ∀ c t, kd c = none → kd' c = some t → (∃ n, t = .inr (0, n)) ∨ ∃ ci, t = .inl ci ∧ ci ≠ 7 ∧ ci ≠ 8 ∧ ∀ k f t', z_fin ci k = some (f, t') → q' c k = some (f c) ∧ kd' (f c) = some t') : z_I kd' q' := by
  have old : ∀ c t, kd' c = some t → (kd c = some t ∨ kd c = none) := fun c t h => by
    cases e : kd c with
    | none => exact Or.inr rfl
    | some t2 =>
      rw [ho c t2 e] at h
      exact Or.inl h
  refine ⟨fun c ci hc k f t hf => ?_, fun c t n hc j a hj ha => ?_, fun c hc a ha => ?_, fun c hc a ha => ?_⟩
  · rcases old c _ hc with h | h
    · obtain ⟨g1, g2⟩ := hI.1 c ci h k f t hf
      exact ⟨by rw [hq c k (nn_s h)]; exact g1, ho _ _ g2⟩
    · rcases hn c _ h hc with ⟨n, e⟩ | ⟨ci', e, _, _, g⟩
      · cases e
      · cases e
        exact g k f t hf
  · rcases old c _ hc with h | h
    · rw [hq c j (nn_s h)] at ha
      exact ho _ _ (hI.2.1 c t n h j a hj ha)
    · rcases hn c _ h hc with ⟨n', e⟩ | ⟨ci', e, _⟩
      · injection e with e
        have : t + 4 = 0 := congrArg Prod.fst e
        omega
      · cases e
  · rcases old c _ hc with h | h
    · rw [hq c 1 (nn_s h)] at ha
      exact ho _ _ (hI.2.2.1 c h a ha)
    · rcases hn c _ h hc with ⟨n', e⟩ | ⟨ci', e, e7, e8, _⟩
      · cases e
      · cases e
        exact absurd rfl e8
  · rcases old c _ hc with h | h
    · rw [hq c 1 (nn_s h)] at ha
      exact z_lenf (ho _ _ (hI.2.2.2 c h a ha))
    · rcases hn c _ h hc with ⟨n', e⟩ | ⟨ci', e, e7, e8, _⟩
      · cases e
      · cases e
        exact absurd rfl e7
theorem KQ_ext {arr idx c1 : Nat} (hQ : KQ S kd q) (ho : ∀ c t, kd c = some t → kd' c = some t) (hI : z_I kd' q') (hq : ∀ c k, kd c ≠ none → (c ≠ arr ∨ k ≠ idx) → q' c k = q c k) (hx : q' arr idx = some c1) (hc1 : kd' c1 ≠ none) (hcl : ∀ c j a, kd c = none → kd' c ≠ none → q' c j = some a → kd' a ≠ none) (hfr : ∀ a, FrA N a → kd' a = none) (h6 : ∀ r, r < N.1 0 3 → (r < S.1 0 3 ∧ (arr ≠ 6 ∨ idx ≠ r)) ∨ (arr = 6 ∧ idx = r ∧ c1 = 30 + 2 * r ∧ kd' c1 = some (.inl 6))) (h7 : ∀ b, b < N.1 0 4 → (b < S.1 0 4 ∧ (arr ≠ 7 ∨ idx ≠ b)) ∨ (arr = 7 ∧ idx = b ∧ c1 = 40 + 8 * b ∧ kd' c1 = some (.inl 1))) (h8 : ∀ i, i < N.1 0 6 → (i < S.1 0 6 ∧ (arr ≠ 8 ∨ idx ≠ i)) ∨ (arr = 8 ∧ idx = i ∧ c1 = 100 + 3 * i ∧ kd' c1 = some (.inl 0))) : KQ N kd' q' := by
  have k6 : kd 6 ≠ none := nn_s (z_fk hQ.1 hQ.2.1 zf_11_2)
  have k7 : kd 7 ≠ none := nn_s (z_fk hQ.1 hQ.2.1 zf_11_3)
  have k8 : kd 8 ≠ none := nn_s (z_fk hQ.1 hQ.2.1 zf_11_4)
  refine ⟨hI, ho _ _ hQ.2.1, fun r hr => ?_, fun b hb => ?_, fun i hi => ?_, hfr, fun c j a hc ha => ?_⟩
  · rcases h6 r hr with ⟨g1, g2⟩ | ⟨g1, g2, g3, g4⟩
    · exact ⟨by rw [hq 6 r k6 (by omega)]; exact (hQ.2.2.1 r g1).1, ho _ _ (hQ.2.2.1 r g1).2⟩
    · subst g1
      subst g2
      subst g3
      exact ⟨hx, g4⟩
  · rcases h7 b hb with ⟨g1, g2⟩ | ⟨g1, g2, g3, g4⟩
    · exact ⟨by rw [hq 7 b k7 (by omega)]; exact (hQ.2.2.2.1 b g1).1, ho _ _ (hQ.2.2.2.1 b g1).2⟩
    · subst g1
      subst g2
      subst g3
      exact ⟨hx, g4⟩
  · rcases h8 i hi with ⟨g1, g2⟩ | ⟨g1, g2, g3, g4⟩
    · exact ⟨by rw [hq 8 i k8 (by omega)]; exact (hQ.2.2.2.2.1 i g1).1, ho _ _ (hQ.2.2.2.2.1 i g1).2⟩
    · subst g1
      subst g2
      subst g3
      exact ⟨hx, g4⟩
  · by_cases e : kd c = none
    · exact hcl c j a e hc ha
    · by_cases e2 : c = arr ∧ j = idx
      · obtain ⟨x1, x2⟩ := e2
        subst x1
        subst x2
        rw [hx] at ha
        cases ha
        exact hc1
      · rw [hq c j e (by omega)] at ha
        have := hQ.2.2.2.2.2.2 c j a e ha
        cases ek : kd a with
        | none => exact absurd ek this
        | some t => exact nn_s (ho a t ek)
/-- a cell that there isn't, and at which nothing points -/
def Fr (kd : z_K) (q : z_Q) (a : Nat) : Prop := kd a = none ∧ ∀ c j, kd c ≠ none → q c j ≠ some a
theorem Fr_up {a x : Nat} {t : z_T} (h : Fr kd q a) (hx : a ≠ x) : Fr (z_up kd x t) (z_q0 q x) a := by
  refine ⟨by rw [z_up_ne hx]; exact h.1, fun c j hc => ?_⟩
  by_cases e : c = x
  · rw [show z_q0 q x c j = none from if_pos e]
    exact fun z => by cases z
  · rw [show z_q0 q x c j = q c j from if_neg e]
    rw [z_up_ne e] at hc
    exact h.2 c j hc
theorem Fr_sr {a c k y : Nat} (h : Fr kd q a) (hy : y ≠ a) : Fr kd (sr q c k (some y)) a := by
  refine ⟨h.1, fun c' j hc => ?_⟩
  unfold sr
  split
  · exact fun z => hy (Option.some.inj z)
  · exact h.2 c' j hc
theorem KQ.fr (hQ : KQ S kd q) {a : Nat} (ha : FrA S a) : Fr kd q a := ⟨hQ.2.2.2.2.2.1 a ha, fun c j hc e => hQ.2.2.2.2.2.2 c j a hc e (hQ.2.2.2.2.2.1 a ha)⟩
theorem c_betInit {c : Nat} (f1 : Fr kd q (c + 1)) (f2 : Fr kd q (c + 2)) {a1 a2 a3 a4 a5 : Int32} {K : z_K → z_Q → z_M → Prop} (hK : ∀ q' μ', (∀ x k, x ≠ c → x ≠ c + 1 → x ≠ c + 2 → q' x k = q x k) → q' c 5 = some (c + 1) → q' c 6 = some (c + 2) → (∀ k, k ≠ 5 → k ≠ 6 → q' c k = q c k) → (∀ x k, x = c + 1 ∨ x = c + 2 → q' x k = none) → (μ'.1 c 0 = a1 ∧ μ'.1 c 1 = a2 ∧ μ'.1 c 2 = a3 ∧ μ'.1 c 3 = a4 ∧ μ'.1 c 4 = a5) → (∀ k, 5 ≤ k → μ'.1 c k = μ.1 c k) → (∀ r, r < 3 → μ'.1 (c + 1) r = -1 ∧ μ'.1 (c + 2) r = -1) → (∀ x k, x ≠ c → x ≠ c + 1 → x ≠ c + 2 → μ'.1 x k = μ.1 x k) → K (z_up (z_up kd (c + 1) (.inr (0, 3))) (c + 2) (.inr (0, 3))) q' μ') : C_X0_init kd q c a1 a2 a3 a4 a5 μ K := by
  unfold C_X0_init
  refine ⟨c + 1, f1.1, f1.2, fun kd2 q3 μ4 e1 e2 e3 => ?_⟩
  have g2 : Fr kd2 (sr q3 c 5 (some (c + 1))) (c + 2) := by
    rw [e1, e2]
    exact Fr_sr (Fr_up f2 (by omega)) (by omega)
  refine ⟨c + 2, g2.1, g2.2, fun kd15 q16 μ17 e4 e5 e6 => ?_⟩
  rw [e4, e1]
  have q0 : ∀ x k y : Nat, ∀ p : z_Q, z_q0 p y x k = if x = y then none else p x k := fun _ _ _ _ => rfl
  have s0 : ∀ x k y j : Nat, ∀ w, ∀ p : z_Q, sr p y j w x k = if x = y ∧ k = j then w else p x k := fun _ _ _ _ _ _ => rfl
  have m0 : ∀ x k y : Nat, ∀ p : z_M, (z_m0 p y).1 x k = if x = y then 0 else p.1 x k := fun _ _ _ _ => rfl
  refine hK _ _ (fun x k h1 h2 h3 => ?_) ?_ ?_ (fun k h1 h2 => ?_) (fun x k hx => ?_) ⟨?_, ?_, ?_, ?_, ?_⟩ (fun k hk => ?_) (fun r hr => ⟨?_, ?_⟩) (fun x k h1 h2 h3 => ?_)
  · rw [s0, if_neg (by omega), e5, q0, if_neg h3, s0, if_neg (by omega), e2, q0, if_neg h2]
  · rw [s0, if_neg (by omega), e5, q0, if_neg (by omega), s0, if_pos ⟨rfl, rfl⟩]
  · rw [s0, if_pos ⟨rfl, rfl⟩]
  · rw [s0, if_neg (by omega), e5, q0, if_neg (by omega), s0, if_neg (by omega), e2, q0, if_neg (by omega)]
  · rw [s0, if_neg (by omega), e5, q0]
    by_cases e : x = c + 2
    · rw [if_pos e]
    · rw [if_neg e, s0, if_neg (by omega), e2, q0, if_pos (by omega)]
  · rw [si1, if_neg (by omega), si1, if_neg (by omega), si1, if_neg (by omega), e6, m0, if_neg (by omega), si1, if_neg (by omega), si1, if_neg (by omega), si1, if_neg (by omega), e3, m0, if_neg (by omega), si1, if_neg (by omega), si1, if_neg (by omega), si1, if_neg (by omega), si1, if_neg (by omega), si1, if_pos ⟨rfl, rfl⟩]
  · rw [si1, if_neg (by omega), si1, if_neg (by omega), si1, if_neg (by omega), e6, m0, if_neg (by omega), si1, if_neg (by omega), si1, if_neg (by omega), si1, if_neg (by omega), e3, m0, if_neg (by omega), si1, if_neg (by omega), si1, if_neg (by omega), si1, if_neg (by omega), si1, if_pos ⟨rfl, rfl⟩]
  · rw [si1, if_neg (by omega), si1, if_neg (by omega), si1, if_neg (by omega), e6, m0, if_neg (by omega), si1, if_neg (by omega), si1, if_neg (by omega), si1, if_neg (by omega), e3, m0, if_neg (by omega), si1, if_neg (by omega), si1, if_neg (by omega), si1, if_pos ⟨rfl, rfl⟩]
  · rw [si1, if_neg (by omega), si1, if_neg (by omega), si1, if_neg (by omega), e6, m0, if_neg (by omega), si1, if_neg (by omega), si1, if_neg (by omega), si1, if_neg (by omega), e3, m0, if_neg (by omega), si1, if_neg (by omega), si1, if_pos ⟨rfl, rfl⟩]
  · rw [si1, if_neg (by omega), si1, if_neg (by omega), si1, if_neg (by omega), e6, m0, if_neg (by omega), si1, if_neg (by omega), si1, if_neg (by omega), si1, if_neg (by omega), e3, m0, if_neg (by omega), si1, if_pos ⟨rfl, rfl⟩]
  · rw [si1, if_neg (by omega), si1, if_neg (by omega), si1, if_neg (by omega), e6, m0, if_neg (by omega), si1, if_neg (by omega), si1, if_neg (by omega), si1, if_neg (by omega), e3, m0, if_neg (by omega), si1, if_neg (by omega), si1, if_neg (by omega), si1, if_neg (by omega), si1, if_neg (by omega), si1, if_neg (by omega)]
  · rw [si1, if_neg (by omega), si1, if_neg (by omega), si1, if_neg (by omega), e6, m0, if_neg (by omega), si1, si1, si1, show (0 : Int32).toNatClampNeg = 0 from rfl, show (1 : Int32).toNatClampNeg = 1 from rfl, show (2 : Int32).toNatClampNeg = 2 from rfl]
    rcases (show r = 0 ∨ r = 1 ∨ r = 2 by omega) with e | e | e
    · rw [if_neg (by omega), if_neg (by omega), if_pos ⟨rfl, e⟩]
    · rw [if_neg (by omega), if_pos ⟨rfl, e⟩]
    · rw [if_pos ⟨rfl, e⟩]
  · rw [si1, si1, si1, show (0 : Int32).toNatClampNeg = 0 from rfl, show (1 : Int32).toNatClampNeg = 1 from rfl, show (2 : Int32).toNatClampNeg = 2 from rfl]
    rcases (show r = 0 ∨ r = 1 ∨ r = 2 by omega) with e | e | e
    · rw [if_neg (by omega), if_neg (by omega), if_pos ⟨rfl, e⟩]
    · rw [if_neg (by omega), if_pos ⟨rfl, e⟩]
    · rw [if_pos ⟨rfl, e⟩]
  · rw [si1, if_neg (by omega), si1, if_neg (by omega), si1, if_neg (by omega), e6, m0, if_neg (by omega), si1, if_neg (by omega), si1, if_neg (by omega), si1, if_neg (by omega), e3, m0, if_neg (by omega), si1, if_neg (by omega), si1, if_neg (by omega), si1, if_neg (by omega), si1, if_neg (by omega), si1, if_neg (by omega)]
theorem z_fin_0 {k : Nat} {f : Nat → Nat} {t : z_T} (h : z_fin 0 k = some (f, t)) : (k = 5 ∨ k = 6) := by
  by_cases h5 : k = 5
  · exact Or.inl h5
  · by_cases h6 : k = 6
    · exact Or.inr h6
    · exfalso
      unfold z_fin at h
      split at h <;> first | contradiction | (simp_all; done) | omega
/-- cells and references behind the making of a bet -/
theorem KQ_bet (hQ : KQ S kd q) (hn : S.1 0 6 < 80) {q2 : z_Q} (o : ∀ x k, x ≠ 100 + 3 * S.1 0 6 → x ≠ 100 + 3 * S.1 0 6 + 1 → x ≠ 100 + 3 * S.1 0 6 + 2 → q2 x k = q x k) (o5 : q2 (100 + 3 * S.1 0 6) 5 = some (100 + 3 * S.1 0 6 + 1)) (o6 : q2 (100 + 3 * S.1 0 6) 6 = some (100 + 3 * S.1 0 6 + 2)) (oo : ∀ k, k ≠ 5 → k ≠ 6 → q2 (100 + 3 * S.1 0 6) k = none) (o1 : ∀ x k, x = 100 + 3 * S.1 0 6 + 1 ∨ x = 100 + 3 * S.1 0 6 + 2 → q2 x k = none) : z_I (z_up (z_up (z_up kd (100 + 3 * S.1 0 6) (.inl 0)) (100 + 3 * S.1 0 6 + 1) (.inr (0, 3))) (100 + 3 * S.1 0 6 + 2) (.inr (0, 3))) q2 ∧ ∀ N : z_SS, N.1 0 3 = S.1 0 3 → N.1 0 4 = S.1 0 4 → N.1 0 6 = S.1 0 6 + 1 → KQ N (z_up (z_up (z_up kd (100 + 3 * S.1 0 6) (.inl 0)) (100 + 3 * S.1 0 6 + 1) (.inr (0, 3))) (100 + 3 * S.1 0 6 + 2) (.inr (0, 3))) (sr q2 8 (S.1 0 6) (some (100 + 3 * S.1 0 6))) := by
  generalize hc : 100 + 3 * S.1 0 6 = c at *
  have n0 : kd c = none := hQ.2.2.2.2.2.1 _ (Or.inr (Or.inr ⟨by omega, by omega⟩))
  have n1 : kd (c + 1) = none := hQ.2.2.2.2.2.1 _ (Or.inr (Or.inr ⟨by omega, by omega⟩))
  have n2 : kd (c + 2) = none := hQ.2.2.2.2.2.1 _ (Or.inr (Or.inr ⟨by omega, by omega⟩))
  generalize hk : z_up (z_up (z_up kd c (.inl 0)) (c + 1) (.inr (0, 3))) (c + 2) (.inr (0, 3)) = kd'
  have k0 : kd' c = some (.inl 0) := by rw [← hk, z_up_ne (by omega), z_up_ne (by omega), z_up_eq]
  have k1 : kd' (c + 1) = some (.inr (0, 3)) := by rw [← hk, z_up_ne (by omega), z_up_eq]
  have k2 : kd' (c + 2) = some (.inr (0, 3)) := by rw [← hk, z_up_eq]
  have ko : ∀ x, x ≠ c → x ≠ c + 1 → x ≠ c + 2 → kd' x = kd x := fun x h0 h1 h2 => by rw [← hk, z_up_ne h2, z_up_ne h1, z_up_ne h0]
  have nx : ∀ x, kd x ≠ none → x ≠ c ∧ x ≠ c + 1 ∧ x ≠ c + 2 := fun x hx => ⟨fun e => hx (by rw [e]; exact n0), fun e => hx (by rw [e]; exact n1), fun e => hx (by rw [e]; exact n2)⟩
  have ho : ∀ x t, kd x = some t → kd' x = some t := fun x t hx => by
    obtain ⟨g0, g1, g2⟩ := nx x (nn_s hx)
    rw [ko x g0 g1 g2]
    exact hx
  have hq : ∀ x k, kd x ≠ none → q2 x k = q x k := fun x k hx => by
    obtain ⟨g0, g1, g2⟩ := nx x hx
    exact o x k g0 g1 g2
  have new : ∀ x t, kd x = none → kd' x = some t → (x = c ∧ t = .inl 0) ∨ ((x = c + 1 ∨ x = c + 2) ∧ t = .inr (0, 3)) := fun x t h1 h2 => by
    by_cases e0 : x = c
    · rw [e0, k0] at h2
      exact Or.inl ⟨e0, (Option.some.inj h2).symm⟩
    · by_cases e1 : x = c + 1
      · rw [e1, k1] at h2
        exact Or.inr ⟨Or.inl e1, (Option.some.inj h2).symm⟩
      · by_cases e2 : x = c + 2
        · rw [e2, k2] at h2
          exact Or.inr ⟨Or.inr e2, (Option.some.inj h2).symm⟩
        · rw [ko x e0 e1 e2, h1] at h2
          cases h2
  have hI : z_I kd' q2 := by
    refine zI_ext hQ.1 ho hq fun x t h1 h2 => ?_
    rcases new x t h1 h2 with ⟨e, et⟩ | ⟨e, et⟩
    · refine Or.inr ⟨0, et, by decide, by decide, fun k f t' hf => ?_⟩
      rw [e]
      rcases z_fin_0 hf with e5 | e5
      · subst e5
        rw [zf_0_5] at hf
        cases hf
        exact ⟨o5, k1⟩
      · subst e5
        rw [zf_0_6] at hf
        cases hf
        exact ⟨o6, k2⟩
    · exact Or.inl ⟨3, et⟩
  refine ⟨hI, fun N e3 e4 e6 => ?_⟩
  have hk8 : kd 8 = some (.inr (4, 80)) := z_fk hQ.1 hQ.2.1 zf_11_4
  have c8 : c ≠ 8 ∧ c + 1 ≠ 8 ∧ c + 2 ≠ 8 := by omega
  refine KQ_ext (arr := 8) (idx := S.1 0 6) (c1 := c) hQ ho (z_I_el hI (t := 0) (ho _ _ hk8) k0) (fun x k hx hxk => ?_) (if_pos ⟨rfl, rfl⟩) (nn_s k0) (fun x j a h1 h2 ha => ?_) (fun a ha => ?_) (fun r hr => Or.inl ⟨by omega, Or.inl (by decide)⟩) (fun b hb => Or.inl ⟨by omega, Or.inl (by decide)⟩) (fun i hi => ?_)
  · rw [show sr q2 8 (S.1 0 6) (some c) x k = q2 x k from if_neg (by omega)]
    exact hq x k hx
  · cases et : kd' x with
    | none => exact absurd et h2
    | some t =>
      rcases new x t h1 et with ⟨e, _⟩ | ⟨e, _⟩
      · rw [show sr q2 8 (S.1 0 6) (some c) x j = q2 x j from if_neg (by omega), e] at ha
        by_cases j5 : j = 5
        · rw [j5, o5] at ha
          cases ha
          exact nn_s k1
        · by_cases j6 : j = 6
          · rw [j6, o6] at ha
            cases ha
            exact nn_s k2
          · rw [oo j j5 j6] at ha
            cases ha
      · rw [show sr q2 8 (S.1 0 6) (some c) x j = q2 x j from if_neg (by omega), o1 x j e] at ha
        cases ha
  · have ha' : FrA S a ∧ a ≠ c ∧ a ≠ c + 1 ∧ a ≠ c + 2 := by
      unfold FrA at ha ⊢
      rw [e3, e4, e6] at ha
      omega
    rw [ko a ha'.2.1 ha'.2.2.1 ha'.2.2.2]
    exact hQ.2.2.2.2.2.1 a ha'.1
  · by_cases e : i < S.1 0 6
    · exact Or.inl ⟨e, Or.inr (by omega)⟩
    · exact Or.inr ⟨rfl, by omega, by omega, k0⟩
end CNEW
