/-! What a way's text says: a parser of conditions, plainly written (f: fuel; modes: 0 factor, 1 term, 2 its loop, 3 expression, 4 its loop, 5 piece, 6 part, 7 its loop, 8 condition, 9 its loop). -/
abbrev z_RP : Type := Except (Nat × Nat) (Nat × List (Nat × Nat))
abbrev tmP (c : Nat) : Prop := c = 42 ∨ c = 47 ∨ c = 37
abbrev plP (c : Nat) : Prop := c = 43 ∨ c = 45
abbrev sgP (c : Nat) : Prop := c = 60 ∨ c = 62 ∨ c = 61
abbrev dgP (c : Nat) : Prop := 48 ≤ c ∧ c ≤ 57
abbrev ltP (c : Nat) : Prop := c = 104 ∨ c = 105 ∨ c = 107 ∨ c = 122 ∨ c = 109 ∨ c = 113 ∨ c = 116 ∨ c = 110 ∨ c = 111
def numR (ch : Nat → Nat) : Nat → Nat → Nat → z_RP
  | 0, p, v => if dgP (ch p) then .error (2, p) else .ok (p, [(0, v)])
  | k + 1, p, v => if dgP (ch p) then numR ch k (p + 1) (10 * v + (ch p - 48)) else .ok (p, [(0, v)])
def bnd (r : z_RP) (f : Nat → List (Nat × Nat) → z_RP) : z_RP := match r with
  | .error e => .error e
  | .ok x => f x.1 x.2
def pars (ch : Nat → Nat) : Nat → Nat → Nat → Nat → List (Nat × Nat) → z_RP
  | 0, _, p, _, _ => .error (9, p)
  | f + 1, m, p, o, acc => match m with
    | 0 => if ch p = 91 then (if 6 ≤ o then .error (5, p) else bnd (pars ch f 3 (p + 1) (o + 1) []) fun p1 c1 => if ch p1 = 93 then .ok (p1 + 1, c1) else .error (1, p1)) else if dgP (ch p) then numR ch 6 p 0 else if ltP (ch p) then .ok (p + 1, [(1, ch p)]) else .error (1, p)
    | 1 => bnd (pars ch f 0 p o []) fun p1 c1 => pars ch f 2 p1 o c1
    | 2 => if tmP (ch p) then bnd (pars ch f 0 (p + 1) o []) fun p1 c1 => pars ch f 2 p1 o (acc ++ c1 ++ [(ch p, 0)]) else .ok (p, acc)
    | 3 => bnd (pars ch f 1 p o []) fun p1 c1 => pars ch f 4 p1 o c1
    | 4 => if plP (ch p) then bnd (pars ch f 1 (p + 1) o []) fun p1 c1 => pars ch f 4 p1 o (acc ++ c1 ++ [(ch p, 0)]) else .ok (p, acc)
    | 5 => if ch p = 33 then (if 6 ≤ o then .error (5, p) else bnd (pars ch f 5 (p + 1) (o + 1) []) fun p1 c1 => .ok (p1, c1 ++ [(2, 0)])) else if ch p = 40 then (if 6 ≤ o then .error (5, p) else bnd (pars ch f 8 (p + 1) (o + 1) []) fun p1 c1 => if ch p1 = 41 then .ok (p1 + 1, c1) else .error (1, p1)) else bnd (pars ch f 3 p o []) fun p1 c1 => if sgP (ch p1) then bnd (pars ch f 3 (p1 + 1) o []) fun p2 c2 => .ok (p2, c1 ++ c2 ++ [(ch p1, 0)]) else .error (1, p1)
    | 6 => bnd (pars ch f 5 p o []) fun p1 c1 => pars ch f 7 p1 o c1
    | 7 => if ch p = 38 then bnd (pars ch f 5 (p + 1) o []) fun p1 c1 => pars ch f 7 p1 o (acc ++ c1 ++ [(38, 0)]) else .ok (p, acc)
    | 8 => bnd (pars ch f 6 p o []) fun p1 c1 => pars ch f 9 p1 o c1
    | _ => if ch p = 124 then bnd (pars ch f 6 (p + 1) o []) fun p1 c1 => pars ch f 9 p1 o (acc ++ c1 ++ [(124, 0)]) else .ok (p, acc)
section PARS
variable {ch : Nat → Nat} {f p o : Nat} {acc : List (Nat × Nat)}
theorem ps0 : pars ch (f + 1) 0 p o acc = if ch p = 91 then (if 6 ≤ o then .error (5, p) else bnd (pars ch f 3 (p + 1) (o + 1) []) fun p1 c1 => if ch p1 = 93 then .ok (p1 + 1, c1) else .error (1, p1)) else if dgP (ch p) then numR ch 6 p 0 else if ltP (ch p) then .ok (p + 1, [(1, ch p)]) else .error (1, p) := rfl
theorem ps1 : pars ch (f + 1) 1 p o acc = bnd (pars ch f 0 p o []) fun p1 c1 => pars ch f 2 p1 o c1 := rfl
theorem ps2 : pars ch (f + 1) 2 p o acc = if tmP (ch p) then bnd (pars ch f 0 (p + 1) o []) fun p1 c1 => pars ch f 2 p1 o (acc ++ c1 ++ [(ch p, 0)]) else .ok (p, acc) := rfl
theorem ps3 : pars ch (f + 1) 3 p o acc = bnd (pars ch f 1 p o []) fun p1 c1 => pars ch f 4 p1 o c1 := rfl
theorem ps4 : pars ch (f + 1) 4 p o acc = if plP (ch p) then bnd (pars ch f 1 (p + 1) o []) fun p1 c1 => pars ch f 4 p1 o (acc ++ c1 ++ [(ch p, 0)]) else .ok (p, acc) := rfl
theorem ps5 : pars ch (f + 1) 5 p o acc = if ch p = 33 then (if 6 ≤ o then .error (5, p) else bnd (pars ch f 5 (p + 1) (o + 1) []) fun p1 c1 => .ok (p1, c1 ++ [(2, 0)])) else if ch p = 40 then (if 6 ≤ o then .error (5, p) else bnd (pars ch f 8 (p + 1) (o + 1) []) fun p1 c1 => if ch p1 = 41 then .ok (p1 + 1, c1) else .error (1, p1)) else bnd (pars ch f 3 p o []) fun p1 c1 => if sgP (ch p1) then bnd (pars ch f 3 (p1 + 1) o []) fun p2 c2 => .ok (p2, c1 ++ c2 ++ [(ch p1, 0)]) else .error (1, p1) := rfl
theorem ps6 : pars ch (f + 1) 6 p o acc = bnd (pars ch f 5 p o []) fun p1 c1 => pars ch f 7 p1 o c1 := rfl
theorem ps7 : pars ch (f + 1) 7 p o acc = if ch p = 38 then bnd (pars ch f 5 (p + 1) o []) fun p1 c1 => pars ch f 7 p1 o (acc ++ c1 ++ [(38, 0)]) else .ok (p, acc) := rfl
theorem ps8 : pars ch (f + 1) 8 p o acc = bnd (pars ch f 6 p o []) fun p1 c1 => pars ch f 9 p1 o c1 := rfl
theorem ps9 : pars ch (f + 1) 9 p o acc = if ch p = 124 then bnd (pars ch f 6 (p + 1) o []) fun p1 c1 => pars ch f 9 p1 o (acc ++ c1 ++ [(124, 0)]) else .ok (p, acc) := rfl
end PARS
/-- of a fault E, else K -/
def Cnt (r : z_RP) (E : Nat → Nat → Prop) (K : Nat → List (Nat × Nat) → Prop) : Prop := match r with
  | .error e => E e.1 e.2
  | .ok x => K x.1 x.2
theorem Cnt_bnd {r : z_RP} {g : Nat → List (Nat × Nat) → z_RP} {E : Nat → Nat → Prop} {K : Nat → List (Nat × Nat) → Prop} : Cnt (bnd r g) E K = Cnt r E (fun p c => Cnt (g p c) E K) := by cases r <;> rfl
theorem Cnt_mono {r : z_RP} {E E' : Nat → Nat → Prop} {K K' : Nat → List (Nat × Nat) → Prop} (h : Cnt r E K) (he : ∀ a b, E a b → E' a b) (hk : ∀ p c, K p c → K' p c) : Cnt r E' K' := by
  cases r with
  | error e => exact he _ _ h
  | ok x => exact hk _ _ h
theorem Cnt_use {r : z_RP} {E E' : Nat → Nat → Prop} {K A : Nat → List (Nat × Nat) → Prop} (h : Cnt r E K) (ha : Cnt r E' A) : Cnt r E (fun p c => A p c ∧ K p c) := by
  cases r with
  | error e => exact h
  | ok x => exact ⟨ha, h⟩
abbrev noE : Nat → Nat → Prop := fun _ _ => True
def depOk (c : List (Nat × Nat)) : Prop := (∀ d, depC c d = some (d + 1)) ∧ ∀ x, x ∈ c → x.1 < 256 ∧ x.2 < 1000000
theorem depC_cons (c : Nat × Nat) (cs : List (Nat × Nat)) (d : Nat) : depC (c :: cs) d = if c.1 ≤ 1 then depC cs (d + 1) else if c.1 = 2 then (if 1 ≤ d then depC cs d else none) else if 2 ≤ d then depC cs (d - 1) else none := rfl
theorem depC_app : ∀ (a b : List (Nat × Nat)) (d d' : Nat), depC a d = some d' → depC (a ++ b) d = depC b d'
  | [], b, d, d', h => by
    cases h
    rfl
  | c :: a, b, d, d', h => by
    show depC (c :: (a ++ b)) d = _
    rw [depC_cons] at h ⊢
    split
    · rename_i q
      rw [if_pos q] at h
      exact depC_app a b _ _ h
    · rename_i q
      rw [if_neg q] at h
      split
      · rename_i q2
        rw [if_pos q2] at h
        split
        · rename_i q3
          rw [if_pos q3] at h
          exact depC_app a b _ _ h
        · rename_i q3
          rw [if_neg q3] at h
          cases h
      · rename_i q2
        rw [if_neg q2] at h
        split
        · rename_i q3
          rw [if_pos q3] at h
          exact depC_app a b _ _ h
        · rename_i q3
          rw [if_neg q3] at h
          cases h
theorem dep_bin {a b : List (Nat × Nat)} {c : Nat} (ha : depOk a) (hb : depOk b) (h1 : 3 ≤ c) (h2 : c < 256) : depOk (a ++ b ++ [(c, 0)]) := by
  refine ⟨fun d => ?_, fun x hx => ?_⟩
  · rw [List.append_assoc, depC_app a _ d (d + 1) (ha.1 d), depC_app b _ (d + 1) (d + 2) (hb.1 (d + 1))]
    rw [depC_cons]
    rw [if_neg (by show ¬ c ≤ 1; omega), if_neg (by show ¬ c = 2; omega), if_pos (by omega)]
    rfl
  · rcases List.mem_append.mp hx with q | q
    · rcases List.mem_append.mp q with q | q
      · exact ha.2 x q
      · exact hb.2 x q
    · rw [List.mem_singleton.mp q]
      exact ⟨h2, by show 0 < 1000000; decide⟩
theorem dep_not {a : List (Nat × Nat)} (ha : depOk a) : depOk (a ++ [(2, 0)]) := by
  refine ⟨fun d => ?_, fun x hx => ?_⟩
  · rw [depC_app a _ d (d + 1) (ha.1 d)]
    rw [depC_cons]
    rw [if_neg (by decide), if_pos rfl, if_pos (by omega)]
    rfl
  · rcases List.mem_append.mp hx with q | q
    · exact ha.2 x q
    · rw [List.mem_singleton.mp q]
      exact ⟨by decide, by decide⟩
theorem dep_one {k a : Nat} (hk : k ≤ 1) (ha : a < 1000000) : depOk [(k, a)] := by
  refine ⟨fun d => ?_, fun x hx => ?_⟩
  · rw [depC_cons, if_pos hk]
    rfl
  · rw [List.mem_singleton.mp hx]
    exact ⟨by show k < 256; omega, ha⟩
theorem numR_adv {ch : Nat → Nat} {e : Nat} (hz : ∀ q, e ≤ q → ch q = 0) : ∀ k p v, p ≤ e → v * 10 ^ k < 1000000 → (∀ j, 10 ^ j = 10 ^ j) → v + 1 ≤ 10 ^ (6 - k) → k ≤ 6 → Cnt (numR ch k p v) noE (fun p1 c1 => p ≤ p1 ∧ p1 ≤ e ∧ (0 < k → dgP (ch p) → p < p1) ∧ depOk c1) := by
  intro k
  induction k with
  | zero =>
    intro p v hp _ _ h2 _
    unfold numR
    split
    · exact True.intro
    · exact ⟨Nat.le_refl _, hp, fun q => absurd q (Nat.lt_irrefl 0), dep_one (by decide) (by have : (10 : Nat) ^ (6 - 0) = 1000000 := by decide
                                                                                             omega)⟩
  | succ k ih =>
    intro p v hp _ _ h2 h6
    have le6 : (10 : Nat) ^ (6 - (k + 1)) ≤ 10 ^ 6 := Nat.pow_le_pow_right (by decide) (by omega)
    have e6 : (10 : Nat) ^ 6 = 1000000 := by decide
    unfold numR
    split
    · rename_i hd
      have hpe : p < e := Nat.lt_of_not_le fun q => by
        rw [hz p q] at hd
        omega
      have e10 : (10 : Nat) ^ (6 - k) = 10 ^ (6 - (k + 1)) * 10 := by
        rw [← Nat.pow_succ]
        congr 1
        omega
      have hv : 10 * v + (ch p - 48) + 1 ≤ 10 ^ (6 - k) := by
        rw [e10]
        omega
      have hb : (10 * v + (ch p - 48)) * 10 ^ k < 1000000 := by
        have h3 : (10 * v + (ch p - 48)) * 10 ^ k < 10 ^ (6 - k) * 10 ^ k := Nat.mul_lt_mul_of_pos_right (by omega) (Nat.pow_pos (by decide))
        rw [← Nat.pow_add, show 6 - k + k = 6 by omega] at h3
        omega
      refine Cnt_mono (ih (p + 1) _ hpe hb (fun _ => rfl) hv (by omega)) (fun _ _ h => h) fun p1 c1 h => ⟨by omega, h.2.1, fun _ _ => by omega, h.2.2.2⟩
    · rename_i hd
      exact ⟨Nat.le_refl _, hp, fun _ q => absurd q hd, dep_one (by decide) (by omega)⟩
abbrev loopM (m : Nat) : Prop := m = 2 ∨ m = 4 ∨ m = 7 ∨ m = 9
theorem pars_adv {ch : Nat → Nat} {e : Nat} (hz : ∀ q, e ≤ q → ch q = 0) (h256 : ∀ q, ch q < 256) : ∀ f m p o acc, p ≤ e → m ≤ 9 → (loopM m → depOk acc) → Cnt (pars ch f m p o acc) noE (fun p1 c1 => p ≤ p1 ∧ p1 ≤ e ∧ (¬ loopM m → p < p1) ∧ depOk c1) := by
  have lt : ∀ {p}, p ≤ e → ch p ≠ 0 → p < e := fun {p} _ h => Nat.lt_of_not_le fun q => h (hz p q)
  intro f
  induction f with
  | zero => intros; exact True.intro
  | succ f ih =>
    intro m p o acc hp hm hacc
    rcases (show m = 0 ∨ m = 1 ∨ m = 2 ∨ m = 3 ∨ m = 4 ∨ m = 5 ∨ m = 6 ∨ m = 7 ∨ m = 8 ∨ m = 9 by omega) with q | q | q | q | q | q | q | q | q | q <;> subst q
    · rw [ps0]
      split
      · rename_i hc
        split
        · exact True.intro
        · rw [Cnt_bnd]
          refine Cnt_mono (ih 3 (p + 1) (o + 1) [] (lt hp (by omega)) (by decide) (fun q => absurd q (by decide))) (fun _ _ h => h) fun p1 c1 h => ?_
          split
          · rename_i hc1
            have := lt h.2.1 (by omega)
            exact ⟨by omega, by omega, fun _ => by omega, h.2.2.2⟩
          · exact True.intro
      · split
        · rename_i hd
          refine Cnt_mono (numR_adv hz 6 p 0 hp (by decide) (fun _ => rfl) (by decide) (by decide)) (fun _ _ h => h) fun p1 c1 h => ⟨h.1, h.2.1, fun _ => h.2.2.1 (by decide) hd, h.2.2.2⟩
        · split
          · rename_i hl
            have := lt hp (by omega)
            exact ⟨by show p ≤ p + 1; omega, this, fun _ => Nat.lt_succ_self p, dep_one (by decide) (by have := h256 p; omega)⟩
          · exact True.intro
    · rw [ps1, Cnt_bnd]
      refine Cnt_mono (ih 0 p o [] hp (by decide) (fun q => absurd q (by decide))) (fun _ _ h => h) fun p1 c1 h => ?_
      have := h.2.2.1 (by decide)
      exact Cnt_mono (ih 2 p1 o c1 h.2.1 (by decide) (fun _ => h.2.2.2)) (fun _ _ h => h) fun p2 c2 h2 => ⟨by omega, h2.2.1, fun _ => by omega, h2.2.2.2⟩
    · rw [ps2]
      split
      · rename_i hc
        rw [Cnt_bnd]
        refine Cnt_mono (ih 0 (p + 1) o [] (lt hp (by omega)) (by decide) (fun q => absurd q (by decide))) (fun _ _ h => h) fun p1 c1 h => ?_
        exact Cnt_mono (ih 2 p1 o _ h.2.1 (by decide) (fun _ => dep_bin (hacc (by decide)) h.2.2.2 (by omega) (by omega))) (fun _ _ h => h) fun p2 c2 h2 => ⟨by omega, h2.2.1, fun q => absurd (Or.inl rfl) q, h2.2.2.2⟩
      · exact ⟨Nat.le_refl _, hp, fun q => absurd (Or.inl rfl) q, hacc (by decide)⟩
    · rw [ps3, Cnt_bnd]
      refine Cnt_mono (ih 1 p o [] hp (by decide) (fun q => absurd q (by decide))) (fun _ _ h => h) fun p1 c1 h => ?_
      have := h.2.2.1 (by decide)
      exact Cnt_mono (ih 4 p1 o c1 h.2.1 (by decide) (fun _ => h.2.2.2)) (fun _ _ h => h) fun p2 c2 h2 => ⟨by omega, h2.2.1, fun _ => by omega, h2.2.2.2⟩
    · rw [ps4]
      split
      · rename_i hc
        rw [Cnt_bnd]
        refine Cnt_mono (ih 1 (p + 1) o [] (lt hp (by omega)) (by decide) (fun q => absurd q (by decide))) (fun _ _ h => h) fun p1 c1 h => ?_
        exact Cnt_mono (ih 4 p1 o _ h.2.1 (by decide) (fun _ => dep_bin (hacc (by decide)) h.2.2.2 (by omega) (by omega))) (fun _ _ h => h) fun p2 c2 h2 => ⟨by omega, h2.2.1, fun q => absurd (Or.inr (Or.inl rfl)) q, h2.2.2.2⟩
      · exact ⟨Nat.le_refl _, hp, fun q => absurd (Or.inr (Or.inl rfl)) q, hacc (by decide)⟩
    · rw [ps5]
      split
      · rename_i hc
        split
        · exact True.intro
        · rw [Cnt_bnd]
          refine Cnt_mono (ih 5 (p + 1) (o + 1) [] (lt hp (by omega)) (by decide) (fun q => absurd q (by decide))) (fun _ _ h => h) fun p1 c1 h => ⟨by show p ≤ p1; omega, h.2.1, fun _ => by show p < p1; omega, dep_not h.2.2.2⟩
      · split
        · rename_i hc
          split
          · exact True.intro
          · rw [Cnt_bnd]
            refine Cnt_mono (ih 8 (p + 1) (o + 1) [] (lt hp (by omega)) (by decide) (fun q => absurd q (by decide))) (fun _ _ h => h) fun p1 c1 h => ?_
            split
            · rename_i hc1
              have := lt h.2.1 (by omega)
              exact ⟨by show p ≤ p1 + 1; omega, this, fun _ => by show p < p1 + 1; omega, h.2.2.2⟩
            · exact True.intro
        · rw [Cnt_bnd]
          refine Cnt_mono (ih 3 p o [] hp (by decide) (fun q => absurd q (by decide))) (fun _ _ h => h) fun p1 c1 h => ?_
          split
          · rename_i hc1
            rw [Cnt_bnd]
            refine Cnt_mono (ih 3 (p1 + 1) o [] (lt h.2.1 (by omega)) (by decide) (fun q => absurd q (by decide))) (fun _ _ h => h) fun p2 c2 h2 => ⟨by show p ≤ p2; omega, h2.2.1, fun _ => by show p < p2; omega, dep_bin h.2.2.2 h2.2.2.2 (by omega) (by omega)⟩
          · exact True.intro
    · rw [ps6, Cnt_bnd]
      refine Cnt_mono (ih 5 p o [] hp (by decide) (fun q => absurd q (by decide))) (fun _ _ h => h) fun p1 c1 h => ?_
      have := h.2.2.1 (by decide)
      exact Cnt_mono (ih 7 p1 o c1 h.2.1 (by decide) (fun _ => h.2.2.2)) (fun _ _ h => h) fun p2 c2 h2 => ⟨by omega, h2.2.1, fun _ => by omega, h2.2.2.2⟩
    · rw [ps7]
      split
      · rename_i hc
        rw [Cnt_bnd]
        refine Cnt_mono (ih 5 (p + 1) o [] (lt hp (by omega)) (by decide) (fun q => absurd q (by decide))) (fun _ _ h => h) fun p1 c1 h => ?_
        exact Cnt_mono (ih 7 p1 o _ h.2.1 (by decide) (fun _ => dep_bin (hacc (by decide)) h.2.2.2 (by omega) (by omega))) (fun _ _ h => h) fun p2 c2 h2 => ⟨by omega, h2.2.1, fun q => absurd (Or.inr (Or.inr (Or.inl rfl))) q, h2.2.2.2⟩
      · exact ⟨Nat.le_refl _, hp, fun q => absurd (Or.inr (Or.inr (Or.inl rfl))) q, hacc (by decide)⟩
    · rw [ps8, Cnt_bnd]
      refine Cnt_mono (ih 6 p o [] hp (by decide) (fun q => absurd q (by decide))) (fun _ _ h => h) fun p1 c1 h => ?_
      have := h.2.2.1 (by decide)
      exact Cnt_mono (ih 9 p1 o c1 h.2.1 (by decide) (fun _ => h.2.2.2)) (fun _ _ h => h) fun p2 c2 h2 => ⟨by omega, h2.2.1, fun _ => by omega, h2.2.2.2⟩
    · rw [ps9]
      split
      · rename_i hc
        rw [Cnt_bnd]
        refine Cnt_mono (ih 6 (p + 1) o [] (lt hp (by omega)) (by decide) (fun q => absurd q (by decide))) (fun _ _ h => h) fun p1 c1 h => ?_
        exact Cnt_mono (ih 9 p1 o _ h.2.1 (by decide) (fun _ => dep_bin (hacc (by decide)) h.2.2.2 (by omega) (by omega))) (fun _ _ h => h) fun p2 c2 h2 => ⟨by omega, h2.2.1, fun q => absurd (Or.inr (Or.inr (Or.inr rfl))) q, h2.2.2.2⟩
      · exact ⟨Nat.le_refl _, hp, fun q => absurd (Or.inr (Or.inr (Or.inr rfl))) q, hacc (by decide)⟩
