/-! What stands fixed in a world: where a final reference field of a class's objects points (a function of the object's own number), and what lies there. -/
def z_fin (ci k : Nat) : Option ((Nat → Nat) × z_T) := match ci, k with
  | 0, 5 => some (fun c => c + 1, .inr (0, 3))
  | 0, 6 => some (fun c => c + 2, .inr (0, 3))
  | 1, 3 => some (fun c => c + 1, .inr (0, 24))
  | 1, 4 => some (fun c => c + 2, .inr (0, 24))
  | 1, 5 => some (fun c => c + 3, .inr (0, 24))
  | 1, 6 => some (fun c => c + 4, .inr (0, 3))
  | 1, 7 => some (fun c => c + 5, .inr (0, 24))
  | 1, 8 => some (fun c => c + 6, .inr (0, 24))
  | 1, 9 => some (fun c => c + 7, .inr (0, 160))
  | 2, 0 => some (fun _ => 13, .inr (0, 8))
  | 2, 1 => some (fun _ => 14, .inr (0, 8))
  | 2, 2 => some (fun _ => 15, .inr (0, 8))
  | 2, 3 => some (fun _ => 16, .inr (0, 8))
  | 3, 0 => some (fun c => c + 1, .inr (0, 24))
  | 3, 1 => some (fun c => c + 2, .inr (0, 24))
  | 4, 0 => some (fun _ => 18, .inr (0, 8))
  | 5, 0 => some (fun _ => 20, .inr (0, 20))
  | 5, 1 => some (fun _ => 21, .inr (0, 8))
  | 6, 1 => some (fun c => c + 1, .inr (0, 8))
  | 7, 0 => some (fun _ => 9, .inl 8)
  | 8, 0 => some (fun _ => 3, .inl 3)
  | 10, 0 => some (fun c => c + 1, .inr (0, 200))
  | 11, 0 => some (fun _ => 1, .inl 10)
  | 11, 1 => some (fun _ => 3, .inl 3)
  | 11, 2 => some (fun _ => 6, .inr (10, 3))
  | 11, 3 => some (fun _ => 7, .inr (5, 4))
  | 11, 4 => some (fun _ => 8, .inr (4, 80))
  | 11, 5 => some (fun _ => 9, .inl 8)
  | 11, 6 => some (fun _ => 10, .inl 7)
  | 11, 7 => some (fun _ => 11, .inl 9)
  | 11, 8 => some (fun _ => 12, .inl 2)
  | 11, 9 => some (fun _ => 17, .inl 4)
  | 11, 10 => some (fun _ => 19, .inl 5)
  | 11, 11 => some (fun _ => 22, .inr (0, 256))
  | 12, 0 => some (fun _ => 1, .inr (1, 200))
  | 12, 7 => some (fun _ => 8, .inr (0, 24))
  | 12, 8 => some (fun _ => 9, .inr (0, 24))
  | 12, 9 => some (fun _ => 10, .inr (0, 3))
  | 12, 10 => some (fun _ => 11, .inr (0, 3))
  | 12, 11 => some (fun _ => 12, .inr (2, 3))
  | 12, 12 => some (fun _ => 13, .inr (0, 3))
  | 12, 13 => some (fun _ => 14, .inr (0, 3))
  | 12, 14 => some (fun _ => 15, .inr (0, 4))
  | 12, 15 => some (fun _ => 16, .inr (2, 4))
  | 12, 16 => some (fun _ => 17, .inr (0, 96))
  | 12, 17 => some (fun _ => 18, .inr (0, 24))
  | 12, 18 => some (fun _ => 19, .inr (0, 96))
  | 12, 19 => some (fun _ => 20, .inr (0, 84))
  | 12, 20 => some (fun _ => 21, .inr (0, 84))
  | 12, 21 => some (fun _ => 22, .inr (0, 84))
  | 12, 22 => some (fun _ => 23, .inr (0, 84))
  | 12, 23 => some (fun _ => 24, .inr (0, 84))
  | 12, 24 => some (fun _ => 25, .inr (0, 252))
  | 12, 25 => some (fun _ => 26, .inr (0, 252))
  | 12, 26 => some (fun _ => 27, .inr (2, 84))
  | 12, 27 => some (fun _ => 28, .inr (2, 84))
  | 12, 28 => some (fun _ => 29, .inr (0, 3))
  | 12, 31 => some (fun _ => 32, .inr (0, 4))
  | 12, 32 => some (fun _ => 33, .inr (0, 48))
  | 12, 33 => some (fun _ => 34, .inr (0, 48))
  | 12, 34 => some (fun _ => 35, .inr (0, 48))
  | 12, 35 => some (fun _ => 36, .inr (0, 48))
  | 12, 36 => some (fun _ => 37, .inr (0, 640))
  | 12, 37 => some (fun _ => 38, .inr (0, 640))
  | 12, 38 => some (fun _ => 39, .inr (0, 12))
  | 12, 39 => some (fun _ => 40, .inr (0, 12))
  | 12, 40 => some (fun _ => 41, .inr (0, 12))
  | 12, 41 => some (fun _ => 42, .inr (0, 12))
  | 12, 42 => some (fun _ => 43, .inr (0, 160))
  | 12, 43 => some (fun _ => 44, .inr (0, 160))
  | 12, 53 => some (fun _ => 54, .inr (0, 200))
  | 12, 57 => some (fun _ => 58, .inr (3, 200))
  | 12, 58 => some (fun _ => 59, .inr (2, 200))
  | 12, 59 => some (fun _ => 60, .inr (2, 1800))
  | 12, 60 => some (fun _ => 61, .inr (0, 96))
  | _, _ => none
theorem zf_0_5 : z_fin 0 5 = some (fun c => c + 1, .inr (0, 3)) := rfl
theorem zf_0_6 : z_fin 0 6 = some (fun c => c + 2, .inr (0, 3)) := rfl
theorem zf_1_3 : z_fin 1 3 = some (fun c => c + 1, .inr (0, 24)) := rfl
theorem zf_1_4 : z_fin 1 4 = some (fun c => c + 2, .inr (0, 24)) := rfl
theorem zf_1_5 : z_fin 1 5 = some (fun c => c + 3, .inr (0, 24)) := rfl
theorem zf_1_6 : z_fin 1 6 = some (fun c => c + 4, .inr (0, 3)) := rfl
theorem zf_1_7 : z_fin 1 7 = some (fun c => c + 5, .inr (0, 24)) := rfl
theorem zf_1_8 : z_fin 1 8 = some (fun c => c + 6, .inr (0, 24)) := rfl
theorem zf_1_9 : z_fin 1 9 = some (fun c => c + 7, .inr (0, 160)) := rfl
theorem zf_2_0 : z_fin 2 0 = some (fun _ => 13, .inr (0, 8)) := rfl
theorem zf_2_1 : z_fin 2 1 = some (fun _ => 14, .inr (0, 8)) := rfl
theorem zf_2_2 : z_fin 2 2 = some (fun _ => 15, .inr (0, 8)) := rfl
theorem zf_2_3 : z_fin 2 3 = some (fun _ => 16, .inr (0, 8)) := rfl
theorem zf_3_0 : z_fin 3 0 = some (fun c => c + 1, .inr (0, 24)) := rfl
theorem zf_3_1 : z_fin 3 1 = some (fun c => c + 2, .inr (0, 24)) := rfl
theorem zf_4_0 : z_fin 4 0 = some (fun _ => 18, .inr (0, 8)) := rfl
theorem zf_5_0 : z_fin 5 0 = some (fun _ => 20, .inr (0, 20)) := rfl
theorem zf_5_1 : z_fin 5 1 = some (fun _ => 21, .inr (0, 8)) := rfl
theorem zf_6_1 : z_fin 6 1 = some (fun c => c + 1, .inr (0, 8)) := rfl
theorem zf_7_0 : z_fin 7 0 = some (fun _ => 9, .inl 8) := rfl
theorem zf_8_0 : z_fin 8 0 = some (fun _ => 3, .inl 3) := rfl
theorem zf_10_0 : z_fin 10 0 = some (fun c => c + 1, .inr (0, 200)) := rfl
theorem zf_11_0 : z_fin 11 0 = some (fun _ => 1, .inl 10) := rfl
theorem zf_11_1 : z_fin 11 1 = some (fun _ => 3, .inl 3) := rfl
theorem zf_11_2 : z_fin 11 2 = some (fun _ => 6, .inr (10, 3)) := rfl
theorem zf_11_3 : z_fin 11 3 = some (fun _ => 7, .inr (5, 4)) := rfl
theorem zf_11_4 : z_fin 11 4 = some (fun _ => 8, .inr (4, 80)) := rfl
theorem zf_11_5 : z_fin 11 5 = some (fun _ => 9, .inl 8) := rfl
theorem zf_11_6 : z_fin 11 6 = some (fun _ => 10, .inl 7) := rfl
theorem zf_11_7 : z_fin 11 7 = some (fun _ => 11, .inl 9) := rfl
theorem zf_11_8 : z_fin 11 8 = some (fun _ => 12, .inl 2) := rfl
theorem zf_11_9 : z_fin 11 9 = some (fun _ => 17, .inl 4) := rfl
theorem zf_11_10 : z_fin 11 10 = some (fun _ => 19, .inl 5) := rfl
theorem zf_11_11 : z_fin 11 11 = some (fun _ => 22, .inr (0, 256)) := rfl
theorem zf_12_0 : z_fin 12 0 = some (fun _ => 1, .inr (1, 200)) := rfl
theorem zf_12_7 : z_fin 12 7 = some (fun _ => 8, .inr (0, 24)) := rfl
theorem zf_12_8 : z_fin 12 8 = some (fun _ => 9, .inr (0, 24)) := rfl
theorem zf_12_9 : z_fin 12 9 = some (fun _ => 10, .inr (0, 3)) := rfl
theorem zf_12_10 : z_fin 12 10 = some (fun _ => 11, .inr (0, 3)) := rfl
theorem zf_12_11 : z_fin 12 11 = some (fun _ => 12, .inr (2, 3)) := rfl
theorem zf_12_12 : z_fin 12 12 = some (fun _ => 13, .inr (0, 3)) := rfl
theorem zf_12_13 : z_fin 12 13 = some (fun _ => 14, .inr (0, 3)) := rfl
theorem zf_12_14 : z_fin 12 14 = some (fun _ => 15, .inr (0, 4)) := rfl
theorem zf_12_15 : z_fin 12 15 = some (fun _ => 16, .inr (2, 4)) := rfl
theorem zf_12_16 : z_fin 12 16 = some (fun _ => 17, .inr (0, 96)) := rfl
theorem zf_12_17 : z_fin 12 17 = some (fun _ => 18, .inr (0, 24)) := rfl
theorem zf_12_18 : z_fin 12 18 = some (fun _ => 19, .inr (0, 96)) := rfl
theorem zf_12_19 : z_fin 12 19 = some (fun _ => 20, .inr (0, 84)) := rfl
theorem zf_12_20 : z_fin 12 20 = some (fun _ => 21, .inr (0, 84)) := rfl
theorem zf_12_21 : z_fin 12 21 = some (fun _ => 22, .inr (0, 84)) := rfl
theorem zf_12_22 : z_fin 12 22 = some (fun _ => 23, .inr (0, 84)) := rfl
theorem zf_12_23 : z_fin 12 23 = some (fun _ => 24, .inr (0, 84)) := rfl
theorem zf_12_24 : z_fin 12 24 = some (fun _ => 25, .inr (0, 252)) := rfl
theorem zf_12_25 : z_fin 12 25 = some (fun _ => 26, .inr (0, 252)) := rfl
theorem zf_12_26 : z_fin 12 26 = some (fun _ => 27, .inr (2, 84)) := rfl
theorem zf_12_27 : z_fin 12 27 = some (fun _ => 28, .inr (2, 84)) := rfl
theorem zf_12_28 : z_fin 12 28 = some (fun _ => 29, .inr (0, 3)) := rfl
theorem zf_12_31 : z_fin 12 31 = some (fun _ => 32, .inr (0, 4)) := rfl
theorem zf_12_32 : z_fin 12 32 = some (fun _ => 33, .inr (0, 48)) := rfl
theorem zf_12_33 : z_fin 12 33 = some (fun _ => 34, .inr (0, 48)) := rfl
theorem zf_12_34 : z_fin 12 34 = some (fun _ => 35, .inr (0, 48)) := rfl
theorem zf_12_35 : z_fin 12 35 = some (fun _ => 36, .inr (0, 48)) := rfl
theorem zf_12_36 : z_fin 12 36 = some (fun _ => 37, .inr (0, 640)) := rfl
theorem zf_12_37 : z_fin 12 37 = some (fun _ => 38, .inr (0, 640)) := rfl
theorem zf_12_38 : z_fin 12 38 = some (fun _ => 39, .inr (0, 12)) := rfl
theorem zf_12_39 : z_fin 12 39 = some (fun _ => 40, .inr (0, 12)) := rfl
theorem zf_12_40 : z_fin 12 40 = some (fun _ => 41, .inr (0, 12)) := rfl
theorem zf_12_41 : z_fin 12 41 = some (fun _ => 42, .inr (0, 12)) := rfl
theorem zf_12_42 : z_fin 12 42 = some (fun _ => 43, .inr (0, 160)) := rfl
theorem zf_12_43 : z_fin 12 43 = some (fun _ => 44, .inr (0, 160)) := rfl
theorem zf_12_53 : z_fin 12 53 = some (fun _ => 54, .inr (0, 200)) := rfl
theorem zf_12_57 : z_fin 12 57 = some (fun _ => 58, .inr (3, 200)) := rfl
theorem zf_12_58 : z_fin 12 58 = some (fun _ => 59, .inr (2, 200)) := rfl
theorem zf_12_59 : z_fin 12 59 = some (fun _ => 60, .inr (2, 1800)) := rfl
theorem zf_12_60 : z_fin 12 60 = some (fun _ => 61, .inr (0, 96)) := rfl
def z_len (kd : z_K) (a : Nat) : Nat := match kd a with
  | some (.inr (_, n)) => n
  | _ => 0
def z_Lay (kd : z_K) (q : z_Q) : Prop := ∀ c ci, kd c = some (.inl ci) → ∀ k f t, z_fin ci k = some (f, t) → q c k = some (f c) ∧ kd (f c) = some t
def z_WT (kd : z_K) (q : z_Q) : Prop := (∀ c t n, kd c = some (.inr (t + 4, n)) → ∀ j a, j < n → q c j = some a → kd a = some (.inl t)) ∧ (∀ c, kd c = some (.inl 8) → ∀ a, q c 1 = some a → kd a = some (.inl 1)) ∧ ∀ c, kd c = some (.inl 7) → ∀ a, q c 1 = some a → kd a = some (.inr (0, z_len kd a))
/-- what holds of the references of a whole world -/
def z_I (kd : z_K) (q : z_Q) : Prop := z_Lay kd q ∧ z_WT kd q
theorem z_fk {kd : z_K} {q : z_Q} (hI : z_I kd q) {c ci k : Nat} {f : Nat → Nat} {t : z_T} (hk : kd c = some (.inl ci)) (hf : z_fin ci k = some (f, t)) : kd (f c) = some t := (hI.1 c ci hk k f t hf).2
theorem z_fq {kd : z_K} {q : z_Q} (hI : z_I kd q) {c ci k : Nat} {f : Nat → Nat} {t : z_T} (hk : kd c = some (.inl ci)) (hf : z_fin ci k = some (f, t)) : q c k = some (f c) := (hI.1 c ci hk k f t hf).1
theorem z_el {kd : z_K} {q : z_Q} (hI : z_I kd q) {c t n j : Nat} (hk : kd c = some (.inr (t + 4, n))) (hj : j < n) : ∀ a, q c j = some a → kd a = some (.inl t) := fun a h => hI.2.1 c t n hk j a hj h
theorem z_sb {kd : z_K} {q : z_Q} (hI : z_I kd q) {c : Nat} (hk : kd c = some (.inl 8)) : ∀ a, q c 1 = some a → kd a = some (.inl 1) := hI.2.2.1 c hk
theorem z_rt {kd : z_K} {q : z_Q} (hI : z_I kd q) {c : Nat} (hk : kd c = some (.inl 7)) : ∀ a, q c 1 = some a → kd a = some (.inr (0, z_len kd a)) := hI.2.2.2 c hk
theorem z_inlt {i : Int32} {n : Nat} (h : vp_in i n) : i.toNatClampNeg < n := Nat.not_le.mp fun q => h (Or.inr q)
theorem z_lenf {kd : z_K} {a t n : Nat} (h : kd a = some (.inr (t, n))) : kd a = some (.inr (t, z_len kd a)) := by
  unfold z_len
  rw [h]
theorem z_inlit {k : Int32} {n : Nat} (h : ¬ k < 0) (h2 : k.toNatClampNeg < n) : vp_in k n := fun q => q.elim h (Nat.not_le.mpr h2)
theorem z_inc {x a b : Int32} (h : a = b) : x + a = x + b := by rw [h]
theorem z_rfcat (w : Option Nat) : (va_rf w).category = 1 := by cases w <;> rfl
theorem z_pos {c : Prop} [Decidable c] {A B : Prop} (hc : c) (h : if c then A else B) : A := by rwa [if_pos hc] at h
theorem z_neg {c : Prop} [Decidable c] {A B : Prop} (hc : ¬ c) (h : if c then A else B) : B := by rwa [if_neg hc] at h
theorem z_I_sr {kd : z_K} {q : z_Q} (hI : z_I kd q) {c j : Nat} {w : Option Nat} (hn : ∀ ci f t, kd c = some (.inl ci) → z_fin ci j ≠ some (f, t)) (h1 : ∀ t n, kd c = some (.inr (t + 4, n)) → ∀ a, w = some a → kd a = some (.inl t)) (h2 : kd c = some (.inl 8) → j = 1 → ∀ a, w = some a → kd a = some (.inl 1)) (h3 : kd c = some (.inl 7) → j = 1 → ∀ a, w = some a → kd a = some (.inr (0, z_len kd a))) : z_I kd (sr q c j w) := by
  refine ⟨fun b ci hb k f t hf => ⟨?_, (hI.1 b ci hb k f t hf).2⟩, fun b t n hb i a hi h => ?_, fun b hb a h => ?_, fun b hb a h => ?_⟩
  · unfold sr
    rw [if_neg]
    · exact (hI.1 b ci hb k f t hf).1
    · rintro ⟨rfl, rfl⟩
      exact hn ci f t hb hf
  all_goals unfold sr at h
  all_goals split at h
  · rename_i hc
    obtain ⟨rfl, rfl⟩ := hc
    exact h1 t n hb a h
  · exact hI.2.1 b t n hb i a hi h
  · rename_i hc
    obtain ⟨rfl, hj⟩ := hc
    exact h2 hb hj.symm a h
  · exact hI.2.2.1 b hb a h
  · rename_i hc
    obtain ⟨rfl, hj⟩ := hc
    exact h3 hb hj.symm a h
  · exact hI.2.2.2 b hb a h
theorem z_I_sb {kd : z_K} {q : z_Q} (hI : z_I kd q) {c : Nat} (hk : kd c = some (.inl 8)) {w : Option Nat} (hw : ∀ a, w = some a → kd a = some (.inl 1)) : z_I kd (sr q c 1 w) :=
  z_I_sr hI (fun ci f t h1 h2 => by rw [hk] at h1; cases h1; cases h2) (fun t n h => by rw [hk] at h; cases h) (fun _ _ => hw) (fun h => by rw [hk] at h; cases h)
theorem z_I_rt {kd : z_K} {q : z_Q} (hI : z_I kd q) {c : Nat} (hk : kd c = some (.inl 7)) {w : Option Nat} (hw : ∀ a, w = some a → kd a = some (.inr (0, z_len kd a))) : z_I kd (sr q c 1 w) :=
  z_I_sr hI (fun ci f t h1 h2 => by rw [hk] at h1; cases h1; cases h2) (fun t n h => by rw [hk] at h; cases h) (fun h => by rw [hk] at h; cases h) (fun _ _ => hw)
theorem z_I_el {kd : z_K} {q : z_Q} (hI : z_I kd q) {c t n b : Nat} (hk : kd c = some (.inr (t + 4, n))) (hb : kd b = some (.inl t)) {j : Nat} : z_I kd (sr q c j (some b)) :=
  z_I_sr hI (fun ci f t h1 h2 => by rw [hk] at h1; cases h1) (fun t' n' h a ha => by rw [hk] at h; cases h; cases ha; exact hb) (fun h => by rw [hk] at h; cases h) (fun h => by rw [hk] at h; cases h)
theorem z_ne {x : Int32} {k : Int32} {a : Int} (h : ¬ x = k) (hk : k.toInt = a) : ¬ x.toInt = a := lv_neT h hk
theorem zk_0_5 {kd : z_K} {q : z_Q} (hI : z_I kd q) {c : Nat} (hk : kd c = some (.inl 0)) : kd (c + 1) = some (.inr (0, 3)) := (hI.1 c 0 hk 5 _ _ zf_0_5).2
theorem zq_0_5 {kd : z_K} {q : z_Q} (hI : z_I kd q) {c : Nat} (hk : kd c = some (.inl 0)) : q c 5 = some (c + 1) := (hI.1 c 0 hk 5 _ _ zf_0_5).1
theorem zk_0_6 {kd : z_K} {q : z_Q} (hI : z_I kd q) {c : Nat} (hk : kd c = some (.inl 0)) : kd (c + 2) = some (.inr (0, 3)) := (hI.1 c 0 hk 6 _ _ zf_0_6).2
theorem zq_0_6 {kd : z_K} {q : z_Q} (hI : z_I kd q) {c : Nat} (hk : kd c = some (.inl 0)) : q c 6 = some (c + 2) := (hI.1 c 0 hk 6 _ _ zf_0_6).1
theorem zk_1_3 {kd : z_K} {q : z_Q} (hI : z_I kd q) {c : Nat} (hk : kd c = some (.inl 1)) : kd (c + 1) = some (.inr (0, 24)) := (hI.1 c 1 hk 3 _ _ zf_1_3).2
theorem zq_1_3 {kd : z_K} {q : z_Q} (hI : z_I kd q) {c : Nat} (hk : kd c = some (.inl 1)) : q c 3 = some (c + 1) := (hI.1 c 1 hk 3 _ _ zf_1_3).1
theorem zk_1_4 {kd : z_K} {q : z_Q} (hI : z_I kd q) {c : Nat} (hk : kd c = some (.inl 1)) : kd (c + 2) = some (.inr (0, 24)) := (hI.1 c 1 hk 4 _ _ zf_1_4).2
theorem zq_1_4 {kd : z_K} {q : z_Q} (hI : z_I kd q) {c : Nat} (hk : kd c = some (.inl 1)) : q c 4 = some (c + 2) := (hI.1 c 1 hk 4 _ _ zf_1_4).1
theorem zk_1_5 {kd : z_K} {q : z_Q} (hI : z_I kd q) {c : Nat} (hk : kd c = some (.inl 1)) : kd (c + 3) = some (.inr (0, 24)) := (hI.1 c 1 hk 5 _ _ zf_1_5).2
theorem zq_1_5 {kd : z_K} {q : z_Q} (hI : z_I kd q) {c : Nat} (hk : kd c = some (.inl 1)) : q c 5 = some (c + 3) := (hI.1 c 1 hk 5 _ _ zf_1_5).1
theorem zk_1_6 {kd : z_K} {q : z_Q} (hI : z_I kd q) {c : Nat} (hk : kd c = some (.inl 1)) : kd (c + 4) = some (.inr (0, 3)) := (hI.1 c 1 hk 6 _ _ zf_1_6).2
theorem zq_1_6 {kd : z_K} {q : z_Q} (hI : z_I kd q) {c : Nat} (hk : kd c = some (.inl 1)) : q c 6 = some (c + 4) := (hI.1 c 1 hk 6 _ _ zf_1_6).1
theorem zk_1_7 {kd : z_K} {q : z_Q} (hI : z_I kd q) {c : Nat} (hk : kd c = some (.inl 1)) : kd (c + 5) = some (.inr (0, 24)) := (hI.1 c 1 hk 7 _ _ zf_1_7).2
theorem zq_1_7 {kd : z_K} {q : z_Q} (hI : z_I kd q) {c : Nat} (hk : kd c = some (.inl 1)) : q c 7 = some (c + 5) := (hI.1 c 1 hk 7 _ _ zf_1_7).1
theorem zk_1_8 {kd : z_K} {q : z_Q} (hI : z_I kd q) {c : Nat} (hk : kd c = some (.inl 1)) : kd (c + 6) = some (.inr (0, 24)) := (hI.1 c 1 hk 8 _ _ zf_1_8).2
theorem zq_1_8 {kd : z_K} {q : z_Q} (hI : z_I kd q) {c : Nat} (hk : kd c = some (.inl 1)) : q c 8 = some (c + 6) := (hI.1 c 1 hk 8 _ _ zf_1_8).1
theorem zk_1_9 {kd : z_K} {q : z_Q} (hI : z_I kd q) {c : Nat} (hk : kd c = some (.inl 1)) : kd (c + 7) = some (.inr (0, 160)) := (hI.1 c 1 hk 9 _ _ zf_1_9).2
theorem zq_1_9 {kd : z_K} {q : z_Q} (hI : z_I kd q) {c : Nat} (hk : kd c = some (.inl 1)) : q c 9 = some (c + 7) := (hI.1 c 1 hk 9 _ _ zf_1_9).1
theorem zk_2_0 {kd : z_K} {q : z_Q} (hI : z_I kd q) {c : Nat} (hk : kd c = some (.inl 2)) : kd (13) = some (.inr (0, 8)) := (hI.1 c 2 hk 0 _ _ zf_2_0).2
theorem zq_2_0 {kd : z_K} {q : z_Q} (hI : z_I kd q) {c : Nat} (hk : kd c = some (.inl 2)) : q c 0 = some (13) := (hI.1 c 2 hk 0 _ _ zf_2_0).1
theorem zk_2_1 {kd : z_K} {q : z_Q} (hI : z_I kd q) {c : Nat} (hk : kd c = some (.inl 2)) : kd (14) = some (.inr (0, 8)) := (hI.1 c 2 hk 1 _ _ zf_2_1).2
theorem zq_2_1 {kd : z_K} {q : z_Q} (hI : z_I kd q) {c : Nat} (hk : kd c = some (.inl 2)) : q c 1 = some (14) := (hI.1 c 2 hk 1 _ _ zf_2_1).1
theorem zk_2_2 {kd : z_K} {q : z_Q} (hI : z_I kd q) {c : Nat} (hk : kd c = some (.inl 2)) : kd (15) = some (.inr (0, 8)) := (hI.1 c 2 hk 2 _ _ zf_2_2).2
theorem zq_2_2 {kd : z_K} {q : z_Q} (hI : z_I kd q) {c : Nat} (hk : kd c = some (.inl 2)) : q c 2 = some (15) := (hI.1 c 2 hk 2 _ _ zf_2_2).1
theorem zk_2_3 {kd : z_K} {q : z_Q} (hI : z_I kd q) {c : Nat} (hk : kd c = some (.inl 2)) : kd (16) = some (.inr (0, 8)) := (hI.1 c 2 hk 3 _ _ zf_2_3).2
theorem zq_2_3 {kd : z_K} {q : z_Q} (hI : z_I kd q) {c : Nat} (hk : kd c = some (.inl 2)) : q c 3 = some (16) := (hI.1 c 2 hk 3 _ _ zf_2_3).1
theorem zk_3_0 {kd : z_K} {q : z_Q} (hI : z_I kd q) {c : Nat} (hk : kd c = some (.inl 3)) : kd (c + 1) = some (.inr (0, 24)) := (hI.1 c 3 hk 0 _ _ zf_3_0).2
theorem zq_3_0 {kd : z_K} {q : z_Q} (hI : z_I kd q) {c : Nat} (hk : kd c = some (.inl 3)) : q c 0 = some (c + 1) := (hI.1 c 3 hk 0 _ _ zf_3_0).1
theorem zk_3_1 {kd : z_K} {q : z_Q} (hI : z_I kd q) {c : Nat} (hk : kd c = some (.inl 3)) : kd (c + 2) = some (.inr (0, 24)) := (hI.1 c 3 hk 1 _ _ zf_3_1).2
theorem zq_3_1 {kd : z_K} {q : z_Q} (hI : z_I kd q) {c : Nat} (hk : kd c = some (.inl 3)) : q c 1 = some (c + 2) := (hI.1 c 3 hk 1 _ _ zf_3_1).1
theorem zk_4_0 {kd : z_K} {q : z_Q} (hI : z_I kd q) {c : Nat} (hk : kd c = some (.inl 4)) : kd (18) = some (.inr (0, 8)) := (hI.1 c 4 hk 0 _ _ zf_4_0).2
theorem zq_4_0 {kd : z_K} {q : z_Q} (hI : z_I kd q) {c : Nat} (hk : kd c = some (.inl 4)) : q c 0 = some (18) := (hI.1 c 4 hk 0 _ _ zf_4_0).1
theorem zk_5_0 {kd : z_K} {q : z_Q} (hI : z_I kd q) {c : Nat} (hk : kd c = some (.inl 5)) : kd (20) = some (.inr (0, 20)) := (hI.1 c 5 hk 0 _ _ zf_5_0).2
theorem zq_5_0 {kd : z_K} {q : z_Q} (hI : z_I kd q) {c : Nat} (hk : kd c = some (.inl 5)) : q c 0 = some (20) := (hI.1 c 5 hk 0 _ _ zf_5_0).1
theorem zk_5_1 {kd : z_K} {q : z_Q} (hI : z_I kd q) {c : Nat} (hk : kd c = some (.inl 5)) : kd (21) = some (.inr (0, 8)) := (hI.1 c 5 hk 1 _ _ zf_5_1).2
theorem zq_5_1 {kd : z_K} {q : z_Q} (hI : z_I kd q) {c : Nat} (hk : kd c = some (.inl 5)) : q c 1 = some (21) := (hI.1 c 5 hk 1 _ _ zf_5_1).1
theorem zk_6_1 {kd : z_K} {q : z_Q} (hI : z_I kd q) {c : Nat} (hk : kd c = some (.inl 6)) : kd (c + 1) = some (.inr (0, 8)) := (hI.1 c 6 hk 1 _ _ zf_6_1).2
theorem zq_6_1 {kd : z_K} {q : z_Q} (hI : z_I kd q) {c : Nat} (hk : kd c = some (.inl 6)) : q c 1 = some (c + 1) := (hI.1 c 6 hk 1 _ _ zf_6_1).1
theorem zk_7_0 {kd : z_K} {q : z_Q} (hI : z_I kd q) {c : Nat} (hk : kd c = some (.inl 7)) : kd (9) = some (.inl 8) := (hI.1 c 7 hk 0 _ _ zf_7_0).2
theorem zq_7_0 {kd : z_K} {q : z_Q} (hI : z_I kd q) {c : Nat} (hk : kd c = some (.inl 7)) : q c 0 = some (9) := (hI.1 c 7 hk 0 _ _ zf_7_0).1
theorem zk_8_0 {kd : z_K} {q : z_Q} (hI : z_I kd q) {c : Nat} (hk : kd c = some (.inl 8)) : kd (3) = some (.inl 3) := (hI.1 c 8 hk 0 _ _ zf_8_0).2
theorem zq_8_0 {kd : z_K} {q : z_Q} (hI : z_I kd q) {c : Nat} (hk : kd c = some (.inl 8)) : q c 0 = some (3) := (hI.1 c 8 hk 0 _ _ zf_8_0).1
theorem zk_10_0 {kd : z_K} {q : z_Q} (hI : z_I kd q) {c : Nat} (hk : kd c = some (.inl 10)) : kd (c + 1) = some (.inr (0, 200)) := (hI.1 c 10 hk 0 _ _ zf_10_0).2
theorem zq_10_0 {kd : z_K} {q : z_Q} (hI : z_I kd q) {c : Nat} (hk : kd c = some (.inl 10)) : q c 0 = some (c + 1) := (hI.1 c 10 hk 0 _ _ zf_10_0).1
theorem zk_11_0 {kd : z_K} {q : z_Q} (hI : z_I kd q) {c : Nat} (hk : kd c = some (.inl 11)) : kd (1) = some (.inl 10) := (hI.1 c 11 hk 0 _ _ zf_11_0).2
theorem zq_11_0 {kd : z_K} {q : z_Q} (hI : z_I kd q) {c : Nat} (hk : kd c = some (.inl 11)) : q c 0 = some (1) := (hI.1 c 11 hk 0 _ _ zf_11_0).1
theorem zk_11_1 {kd : z_K} {q : z_Q} (hI : z_I kd q) {c : Nat} (hk : kd c = some (.inl 11)) : kd (3) = some (.inl 3) := (hI.1 c 11 hk 1 _ _ zf_11_1).2
theorem zq_11_1 {kd : z_K} {q : z_Q} (hI : z_I kd q) {c : Nat} (hk : kd c = some (.inl 11)) : q c 1 = some (3) := (hI.1 c 11 hk 1 _ _ zf_11_1).1
theorem zk_11_2 {kd : z_K} {q : z_Q} (hI : z_I kd q) {c : Nat} (hk : kd c = some (.inl 11)) : kd (6) = some (.inr (10, 3)) := (hI.1 c 11 hk 2 _ _ zf_11_2).2
theorem zq_11_2 {kd : z_K} {q : z_Q} (hI : z_I kd q) {c : Nat} (hk : kd c = some (.inl 11)) : q c 2 = some (6) := (hI.1 c 11 hk 2 _ _ zf_11_2).1
theorem zk_11_3 {kd : z_K} {q : z_Q} (hI : z_I kd q) {c : Nat} (hk : kd c = some (.inl 11)) : kd (7) = some (.inr (5, 4)) := (hI.1 c 11 hk 3 _ _ zf_11_3).2
theorem zq_11_3 {kd : z_K} {q : z_Q} (hI : z_I kd q) {c : Nat} (hk : kd c = some (.inl 11)) : q c 3 = some (7) := (hI.1 c 11 hk 3 _ _ zf_11_3).1
theorem zk_11_4 {kd : z_K} {q : z_Q} (hI : z_I kd q) {c : Nat} (hk : kd c = some (.inl 11)) : kd (8) = some (.inr (4, 80)) := (hI.1 c 11 hk 4 _ _ zf_11_4).2
theorem zq_11_4 {kd : z_K} {q : z_Q} (hI : z_I kd q) {c : Nat} (hk : kd c = some (.inl 11)) : q c 4 = some (8) := (hI.1 c 11 hk 4 _ _ zf_11_4).1
theorem zk_11_5 {kd : z_K} {q : z_Q} (hI : z_I kd q) {c : Nat} (hk : kd c = some (.inl 11)) : kd (9) = some (.inl 8) := (hI.1 c 11 hk 5 _ _ zf_11_5).2
theorem zq_11_5 {kd : z_K} {q : z_Q} (hI : z_I kd q) {c : Nat} (hk : kd c = some (.inl 11)) : q c 5 = some (9) := (hI.1 c 11 hk 5 _ _ zf_11_5).1
theorem zk_11_6 {kd : z_K} {q : z_Q} (hI : z_I kd q) {c : Nat} (hk : kd c = some (.inl 11)) : kd (10) = some (.inl 7) := (hI.1 c 11 hk 6 _ _ zf_11_6).2
theorem zq_11_6 {kd : z_K} {q : z_Q} (hI : z_I kd q) {c : Nat} (hk : kd c = some (.inl 11)) : q c 6 = some (10) := (hI.1 c 11 hk 6 _ _ zf_11_6).1
theorem zk_11_7 {kd : z_K} {q : z_Q} (hI : z_I kd q) {c : Nat} (hk : kd c = some (.inl 11)) : kd (11) = some (.inl 9) := (hI.1 c 11 hk 7 _ _ zf_11_7).2
theorem zq_11_7 {kd : z_K} {q : z_Q} (hI : z_I kd q) {c : Nat} (hk : kd c = some (.inl 11)) : q c 7 = some (11) := (hI.1 c 11 hk 7 _ _ zf_11_7).1
theorem zk_11_8 {kd : z_K} {q : z_Q} (hI : z_I kd q) {c : Nat} (hk : kd c = some (.inl 11)) : kd (12) = some (.inl 2) := (hI.1 c 11 hk 8 _ _ zf_11_8).2
theorem zq_11_8 {kd : z_K} {q : z_Q} (hI : z_I kd q) {c : Nat} (hk : kd c = some (.inl 11)) : q c 8 = some (12) := (hI.1 c 11 hk 8 _ _ zf_11_8).1
theorem zk_11_9 {kd : z_K} {q : z_Q} (hI : z_I kd q) {c : Nat} (hk : kd c = some (.inl 11)) : kd (17) = some (.inl 4) := (hI.1 c 11 hk 9 _ _ zf_11_9).2
theorem zq_11_9 {kd : z_K} {q : z_Q} (hI : z_I kd q) {c : Nat} (hk : kd c = some (.inl 11)) : q c 9 = some (17) := (hI.1 c 11 hk 9 _ _ zf_11_9).1
theorem zk_11_10 {kd : z_K} {q : z_Q} (hI : z_I kd q) {c : Nat} (hk : kd c = some (.inl 11)) : kd (19) = some (.inl 5) := (hI.1 c 11 hk 10 _ _ zf_11_10).2
theorem zq_11_10 {kd : z_K} {q : z_Q} (hI : z_I kd q) {c : Nat} (hk : kd c = some (.inl 11)) : q c 10 = some (19) := (hI.1 c 11 hk 10 _ _ zf_11_10).1
theorem zk_11_11 {kd : z_K} {q : z_Q} (hI : z_I kd q) {c : Nat} (hk : kd c = some (.inl 11)) : kd (22) = some (.inr (0, 256)) := (hI.1 c 11 hk 11 _ _ zf_11_11).2
theorem zq_11_11 {kd : z_K} {q : z_Q} (hI : z_I kd q) {c : Nat} (hk : kd c = some (.inl 11)) : q c 11 = some (22) := (hI.1 c 11 hk 11 _ _ zf_11_11).1
theorem zk_12_0 {kd : z_K} {q : z_Q} (hI : z_I kd q) {c : Nat} (hk : kd c = some (.inl 12)) : kd (1) = some (.inr (1, 200)) := (hI.1 c 12 hk 0 _ _ zf_12_0).2
theorem zq_12_0 {kd : z_K} {q : z_Q} (hI : z_I kd q) {c : Nat} (hk : kd c = some (.inl 12)) : q c 0 = some (1) := (hI.1 c 12 hk 0 _ _ zf_12_0).1
theorem zk_12_7 {kd : z_K} {q : z_Q} (hI : z_I kd q) {c : Nat} (hk : kd c = some (.inl 12)) : kd (8) = some (.inr (0, 24)) := (hI.1 c 12 hk 7 _ _ zf_12_7).2
theorem zq_12_7 {kd : z_K} {q : z_Q} (hI : z_I kd q) {c : Nat} (hk : kd c = some (.inl 12)) : q c 7 = some (8) := (hI.1 c 12 hk 7 _ _ zf_12_7).1
theorem zk_12_8 {kd : z_K} {q : z_Q} (hI : z_I kd q) {c : Nat} (hk : kd c = some (.inl 12)) : kd (9) = some (.inr (0, 24)) := (hI.1 c 12 hk 8 _ _ zf_12_8).2
theorem zq_12_8 {kd : z_K} {q : z_Q} (hI : z_I kd q) {c : Nat} (hk : kd c = some (.inl 12)) : q c 8 = some (9) := (hI.1 c 12 hk 8 _ _ zf_12_8).1
theorem zk_12_9 {kd : z_K} {q : z_Q} (hI : z_I kd q) {c : Nat} (hk : kd c = some (.inl 12)) : kd (10) = some (.inr (0, 3)) := (hI.1 c 12 hk 9 _ _ zf_12_9).2
theorem zq_12_9 {kd : z_K} {q : z_Q} (hI : z_I kd q) {c : Nat} (hk : kd c = some (.inl 12)) : q c 9 = some (10) := (hI.1 c 12 hk 9 _ _ zf_12_9).1
theorem zk_12_10 {kd : z_K} {q : z_Q} (hI : z_I kd q) {c : Nat} (hk : kd c = some (.inl 12)) : kd (11) = some (.inr (0, 3)) := (hI.1 c 12 hk 10 _ _ zf_12_10).2
theorem zq_12_10 {kd : z_K} {q : z_Q} (hI : z_I kd q) {c : Nat} (hk : kd c = some (.inl 12)) : q c 10 = some (11) := (hI.1 c 12 hk 10 _ _ zf_12_10).1
theorem zk_12_11 {kd : z_K} {q : z_Q} (hI : z_I kd q) {c : Nat} (hk : kd c = some (.inl 12)) : kd (12) = some (.inr (2, 3)) := (hI.1 c 12 hk 11 _ _ zf_12_11).2
theorem zq_12_11 {kd : z_K} {q : z_Q} (hI : z_I kd q) {c : Nat} (hk : kd c = some (.inl 12)) : q c 11 = some (12) := (hI.1 c 12 hk 11 _ _ zf_12_11).1
theorem zk_12_12 {kd : z_K} {q : z_Q} (hI : z_I kd q) {c : Nat} (hk : kd c = some (.inl 12)) : kd (13) = some (.inr (0, 3)) := (hI.1 c 12 hk 12 _ _ zf_12_12).2
theorem zq_12_12 {kd : z_K} {q : z_Q} (hI : z_I kd q) {c : Nat} (hk : kd c = some (.inl 12)) : q c 12 = some (13) := (hI.1 c 12 hk 12 _ _ zf_12_12).1
theorem zk_12_13 {kd : z_K} {q : z_Q} (hI : z_I kd q) {c : Nat} (hk : kd c = some (.inl 12)) : kd (14) = some (.inr (0, 3)) := (hI.1 c 12 hk 13 _ _ zf_12_13).2
theorem zq_12_13 {kd : z_K} {q : z_Q} (hI : z_I kd q) {c : Nat} (hk : kd c = some (.inl 12)) : q c 13 = some (14) := (hI.1 c 12 hk 13 _ _ zf_12_13).1
theorem zk_12_14 {kd : z_K} {q : z_Q} (hI : z_I kd q) {c : Nat} (hk : kd c = some (.inl 12)) : kd (15) = some (.inr (0, 4)) := (hI.1 c 12 hk 14 _ _ zf_12_14).2
theorem zq_12_14 {kd : z_K} {q : z_Q} (hI : z_I kd q) {c : Nat} (hk : kd c = some (.inl 12)) : q c 14 = some (15) := (hI.1 c 12 hk 14 _ _ zf_12_14).1
theorem zk_12_15 {kd : z_K} {q : z_Q} (hI : z_I kd q) {c : Nat} (hk : kd c = some (.inl 12)) : kd (16) = some (.inr (2, 4)) := (hI.1 c 12 hk 15 _ _ zf_12_15).2
theorem zq_12_15 {kd : z_K} {q : z_Q} (hI : z_I kd q) {c : Nat} (hk : kd c = some (.inl 12)) : q c 15 = some (16) := (hI.1 c 12 hk 15 _ _ zf_12_15).1
theorem zk_12_16 {kd : z_K} {q : z_Q} (hI : z_I kd q) {c : Nat} (hk : kd c = some (.inl 12)) : kd (17) = some (.inr (0, 96)) := (hI.1 c 12 hk 16 _ _ zf_12_16).2
theorem zq_12_16 {kd : z_K} {q : z_Q} (hI : z_I kd q) {c : Nat} (hk : kd c = some (.inl 12)) : q c 16 = some (17) := (hI.1 c 12 hk 16 _ _ zf_12_16).1
theorem zk_12_17 {kd : z_K} {q : z_Q} (hI : z_I kd q) {c : Nat} (hk : kd c = some (.inl 12)) : kd (18) = some (.inr (0, 24)) := (hI.1 c 12 hk 17 _ _ zf_12_17).2
theorem zq_12_17 {kd : z_K} {q : z_Q} (hI : z_I kd q) {c : Nat} (hk : kd c = some (.inl 12)) : q c 17 = some (18) := (hI.1 c 12 hk 17 _ _ zf_12_17).1
theorem zk_12_18 {kd : z_K} {q : z_Q} (hI : z_I kd q) {c : Nat} (hk : kd c = some (.inl 12)) : kd (19) = some (.inr (0, 96)) := (hI.1 c 12 hk 18 _ _ zf_12_18).2
theorem zq_12_18 {kd : z_K} {q : z_Q} (hI : z_I kd q) {c : Nat} (hk : kd c = some (.inl 12)) : q c 18 = some (19) := (hI.1 c 12 hk 18 _ _ zf_12_18).1
theorem zk_12_19 {kd : z_K} {q : z_Q} (hI : z_I kd q) {c : Nat} (hk : kd c = some (.inl 12)) : kd (20) = some (.inr (0, 84)) := (hI.1 c 12 hk 19 _ _ zf_12_19).2
theorem zq_12_19 {kd : z_K} {q : z_Q} (hI : z_I kd q) {c : Nat} (hk : kd c = some (.inl 12)) : q c 19 = some (20) := (hI.1 c 12 hk 19 _ _ zf_12_19).1
theorem zk_12_20 {kd : z_K} {q : z_Q} (hI : z_I kd q) {c : Nat} (hk : kd c = some (.inl 12)) : kd (21) = some (.inr (0, 84)) := (hI.1 c 12 hk 20 _ _ zf_12_20).2
theorem zq_12_20 {kd : z_K} {q : z_Q} (hI : z_I kd q) {c : Nat} (hk : kd c = some (.inl 12)) : q c 20 = some (21) := (hI.1 c 12 hk 20 _ _ zf_12_20).1
theorem zk_12_21 {kd : z_K} {q : z_Q} (hI : z_I kd q) {c : Nat} (hk : kd c = some (.inl 12)) : kd (22) = some (.inr (0, 84)) := (hI.1 c 12 hk 21 _ _ zf_12_21).2
theorem zq_12_21 {kd : z_K} {q : z_Q} (hI : z_I kd q) {c : Nat} (hk : kd c = some (.inl 12)) : q c 21 = some (22) := (hI.1 c 12 hk 21 _ _ zf_12_21).1
theorem zk_12_22 {kd : z_K} {q : z_Q} (hI : z_I kd q) {c : Nat} (hk : kd c = some (.inl 12)) : kd (23) = some (.inr (0, 84)) := (hI.1 c 12 hk 22 _ _ zf_12_22).2
theorem zq_12_22 {kd : z_K} {q : z_Q} (hI : z_I kd q) {c : Nat} (hk : kd c = some (.inl 12)) : q c 22 = some (23) := (hI.1 c 12 hk 22 _ _ zf_12_22).1
theorem zk_12_23 {kd : z_K} {q : z_Q} (hI : z_I kd q) {c : Nat} (hk : kd c = some (.inl 12)) : kd (24) = some (.inr (0, 84)) := (hI.1 c 12 hk 23 _ _ zf_12_23).2
theorem zq_12_23 {kd : z_K} {q : z_Q} (hI : z_I kd q) {c : Nat} (hk : kd c = some (.inl 12)) : q c 23 = some (24) := (hI.1 c 12 hk 23 _ _ zf_12_23).1
theorem zk_12_24 {kd : z_K} {q : z_Q} (hI : z_I kd q) {c : Nat} (hk : kd c = some (.inl 12)) : kd (25) = some (.inr (0, 252)) := (hI.1 c 12 hk 24 _ _ zf_12_24).2
theorem zq_12_24 {kd : z_K} {q : z_Q} (hI : z_I kd q) {c : Nat} (hk : kd c = some (.inl 12)) : q c 24 = some (25) := (hI.1 c 12 hk 24 _ _ zf_12_24).1
theorem zk_12_25 {kd : z_K} {q : z_Q} (hI : z_I kd q) {c : Nat} (hk : kd c = some (.inl 12)) : kd (26) = some (.inr (0, 252)) := (hI.1 c 12 hk 25 _ _ zf_12_25).2
theorem zq_12_25 {kd : z_K} {q : z_Q} (hI : z_I kd q) {c : Nat} (hk : kd c = some (.inl 12)) : q c 25 = some (26) := (hI.1 c 12 hk 25 _ _ zf_12_25).1
theorem zk_12_26 {kd : z_K} {q : z_Q} (hI : z_I kd q) {c : Nat} (hk : kd c = some (.inl 12)) : kd (27) = some (.inr (2, 84)) := (hI.1 c 12 hk 26 _ _ zf_12_26).2
theorem zq_12_26 {kd : z_K} {q : z_Q} (hI : z_I kd q) {c : Nat} (hk : kd c = some (.inl 12)) : q c 26 = some (27) := (hI.1 c 12 hk 26 _ _ zf_12_26).1
theorem zk_12_27 {kd : z_K} {q : z_Q} (hI : z_I kd q) {c : Nat} (hk : kd c = some (.inl 12)) : kd (28) = some (.inr (2, 84)) := (hI.1 c 12 hk 27 _ _ zf_12_27).2
theorem zq_12_27 {kd : z_K} {q : z_Q} (hI : z_I kd q) {c : Nat} (hk : kd c = some (.inl 12)) : q c 27 = some (28) := (hI.1 c 12 hk 27 _ _ zf_12_27).1
theorem zk_12_28 {kd : z_K} {q : z_Q} (hI : z_I kd q) {c : Nat} (hk : kd c = some (.inl 12)) : kd (29) = some (.inr (0, 3)) := (hI.1 c 12 hk 28 _ _ zf_12_28).2
theorem zq_12_28 {kd : z_K} {q : z_Q} (hI : z_I kd q) {c : Nat} (hk : kd c = some (.inl 12)) : q c 28 = some (29) := (hI.1 c 12 hk 28 _ _ zf_12_28).1
theorem zk_12_31 {kd : z_K} {q : z_Q} (hI : z_I kd q) {c : Nat} (hk : kd c = some (.inl 12)) : kd (32) = some (.inr (0, 4)) := (hI.1 c 12 hk 31 _ _ zf_12_31).2
theorem zq_12_31 {kd : z_K} {q : z_Q} (hI : z_I kd q) {c : Nat} (hk : kd c = some (.inl 12)) : q c 31 = some (32) := (hI.1 c 12 hk 31 _ _ zf_12_31).1
theorem zk_12_32 {kd : z_K} {q : z_Q} (hI : z_I kd q) {c : Nat} (hk : kd c = some (.inl 12)) : kd (33) = some (.inr (0, 48)) := (hI.1 c 12 hk 32 _ _ zf_12_32).2
theorem zq_12_32 {kd : z_K} {q : z_Q} (hI : z_I kd q) {c : Nat} (hk : kd c = some (.inl 12)) : q c 32 = some (33) := (hI.1 c 12 hk 32 _ _ zf_12_32).1
theorem zk_12_33 {kd : z_K} {q : z_Q} (hI : z_I kd q) {c : Nat} (hk : kd c = some (.inl 12)) : kd (34) = some (.inr (0, 48)) := (hI.1 c 12 hk 33 _ _ zf_12_33).2
theorem zq_12_33 {kd : z_K} {q : z_Q} (hI : z_I kd q) {c : Nat} (hk : kd c = some (.inl 12)) : q c 33 = some (34) := (hI.1 c 12 hk 33 _ _ zf_12_33).1
theorem zk_12_34 {kd : z_K} {q : z_Q} (hI : z_I kd q) {c : Nat} (hk : kd c = some (.inl 12)) : kd (35) = some (.inr (0, 48)) := (hI.1 c 12 hk 34 _ _ zf_12_34).2
theorem zq_12_34 {kd : z_K} {q : z_Q} (hI : z_I kd q) {c : Nat} (hk : kd c = some (.inl 12)) : q c 34 = some (35) := (hI.1 c 12 hk 34 _ _ zf_12_34).1
theorem zk_12_35 {kd : z_K} {q : z_Q} (hI : z_I kd q) {c : Nat} (hk : kd c = some (.inl 12)) : kd (36) = some (.inr (0, 48)) := (hI.1 c 12 hk 35 _ _ zf_12_35).2
theorem zq_12_35 {kd : z_K} {q : z_Q} (hI : z_I kd q) {c : Nat} (hk : kd c = some (.inl 12)) : q c 35 = some (36) := (hI.1 c 12 hk 35 _ _ zf_12_35).1
theorem zk_12_36 {kd : z_K} {q : z_Q} (hI : z_I kd q) {c : Nat} (hk : kd c = some (.inl 12)) : kd (37) = some (.inr (0, 640)) := (hI.1 c 12 hk 36 _ _ zf_12_36).2
theorem zq_12_36 {kd : z_K} {q : z_Q} (hI : z_I kd q) {c : Nat} (hk : kd c = some (.inl 12)) : q c 36 = some (37) := (hI.1 c 12 hk 36 _ _ zf_12_36).1
theorem zk_12_37 {kd : z_K} {q : z_Q} (hI : z_I kd q) {c : Nat} (hk : kd c = some (.inl 12)) : kd (38) = some (.inr (0, 640)) := (hI.1 c 12 hk 37 _ _ zf_12_37).2
theorem zq_12_37 {kd : z_K} {q : z_Q} (hI : z_I kd q) {c : Nat} (hk : kd c = some (.inl 12)) : q c 37 = some (38) := (hI.1 c 12 hk 37 _ _ zf_12_37).1
theorem zk_12_38 {kd : z_K} {q : z_Q} (hI : z_I kd q) {c : Nat} (hk : kd c = some (.inl 12)) : kd (39) = some (.inr (0, 12)) := (hI.1 c 12 hk 38 _ _ zf_12_38).2
theorem zq_12_38 {kd : z_K} {q : z_Q} (hI : z_I kd q) {c : Nat} (hk : kd c = some (.inl 12)) : q c 38 = some (39) := (hI.1 c 12 hk 38 _ _ zf_12_38).1
theorem zk_12_39 {kd : z_K} {q : z_Q} (hI : z_I kd q) {c : Nat} (hk : kd c = some (.inl 12)) : kd (40) = some (.inr (0, 12)) := (hI.1 c 12 hk 39 _ _ zf_12_39).2
theorem zq_12_39 {kd : z_K} {q : z_Q} (hI : z_I kd q) {c : Nat} (hk : kd c = some (.inl 12)) : q c 39 = some (40) := (hI.1 c 12 hk 39 _ _ zf_12_39).1
theorem zk_12_40 {kd : z_K} {q : z_Q} (hI : z_I kd q) {c : Nat} (hk : kd c = some (.inl 12)) : kd (41) = some (.inr (0, 12)) := (hI.1 c 12 hk 40 _ _ zf_12_40).2
theorem zq_12_40 {kd : z_K} {q : z_Q} (hI : z_I kd q) {c : Nat} (hk : kd c = some (.inl 12)) : q c 40 = some (41) := (hI.1 c 12 hk 40 _ _ zf_12_40).1
theorem zk_12_41 {kd : z_K} {q : z_Q} (hI : z_I kd q) {c : Nat} (hk : kd c = some (.inl 12)) : kd (42) = some (.inr (0, 12)) := (hI.1 c 12 hk 41 _ _ zf_12_41).2
theorem zq_12_41 {kd : z_K} {q : z_Q} (hI : z_I kd q) {c : Nat} (hk : kd c = some (.inl 12)) : q c 41 = some (42) := (hI.1 c 12 hk 41 _ _ zf_12_41).1
theorem zk_12_42 {kd : z_K} {q : z_Q} (hI : z_I kd q) {c : Nat} (hk : kd c = some (.inl 12)) : kd (43) = some (.inr (0, 160)) := (hI.1 c 12 hk 42 _ _ zf_12_42).2
theorem zq_12_42 {kd : z_K} {q : z_Q} (hI : z_I kd q) {c : Nat} (hk : kd c = some (.inl 12)) : q c 42 = some (43) := (hI.1 c 12 hk 42 _ _ zf_12_42).1
theorem zk_12_43 {kd : z_K} {q : z_Q} (hI : z_I kd q) {c : Nat} (hk : kd c = some (.inl 12)) : kd (44) = some (.inr (0, 160)) := (hI.1 c 12 hk 43 _ _ zf_12_43).2
theorem zq_12_43 {kd : z_K} {q : z_Q} (hI : z_I kd q) {c : Nat} (hk : kd c = some (.inl 12)) : q c 43 = some (44) := (hI.1 c 12 hk 43 _ _ zf_12_43).1
theorem zk_12_53 {kd : z_K} {q : z_Q} (hI : z_I kd q) {c : Nat} (hk : kd c = some (.inl 12)) : kd (54) = some (.inr (0, 200)) := (hI.1 c 12 hk 53 _ _ zf_12_53).2
theorem zq_12_53 {kd : z_K} {q : z_Q} (hI : z_I kd q) {c : Nat} (hk : kd c = some (.inl 12)) : q c 53 = some (54) := (hI.1 c 12 hk 53 _ _ zf_12_53).1
theorem zk_12_57 {kd : z_K} {q : z_Q} (hI : z_I kd q) {c : Nat} (hk : kd c = some (.inl 12)) : kd (58) = some (.inr (3, 200)) := (hI.1 c 12 hk 57 _ _ zf_12_57).2
theorem zq_12_57 {kd : z_K} {q : z_Q} (hI : z_I kd q) {c : Nat} (hk : kd c = some (.inl 12)) : q c 57 = some (58) := (hI.1 c 12 hk 57 _ _ zf_12_57).1
theorem zk_12_58 {kd : z_K} {q : z_Q} (hI : z_I kd q) {c : Nat} (hk : kd c = some (.inl 12)) : kd (59) = some (.inr (2, 200)) := (hI.1 c 12 hk 58 _ _ zf_12_58).2
theorem zq_12_58 {kd : z_K} {q : z_Q} (hI : z_I kd q) {c : Nat} (hk : kd c = some (.inl 12)) : q c 58 = some (59) := (hI.1 c 12 hk 58 _ _ zf_12_58).1
theorem zk_12_59 {kd : z_K} {q : z_Q} (hI : z_I kd q) {c : Nat} (hk : kd c = some (.inl 12)) : kd (60) = some (.inr (2, 1800)) := (hI.1 c 12 hk 59 _ _ zf_12_59).2
theorem zq_12_59 {kd : z_K} {q : z_Q} (hI : z_I kd q) {c : Nat} (hk : kd c = some (.inl 12)) : q c 59 = some (60) := (hI.1 c 12 hk 59 _ _ zf_12_59).1
theorem zk_12_60 {kd : z_K} {q : z_Q} (hI : z_I kd q) {c : Nat} (hk : kd c = some (.inl 12)) : kd (61) = some (.inr (0, 96)) := (hI.1 c 12 hk 60 _ _ zf_12_60).2
theorem zq_12_60 {kd : z_K} {q : z_Q} (hI : z_I kd q) {c : Nat} (hk : kd c = some (.inl 12)) : q c 60 = some (61) := (hI.1 c 12 hk 60 _ _ zf_12_60).1
def z_Ki (q : z_Q) (K : Int32 → z_M → Prop) : Option Value → z_Q → z_M → Prop := fun rv q' μ' => q' = q ∧ ∃ r : Int32, rv = some (.int r) ∧ K r μ'
def z_Kz (q : z_Q) (K : Int32 → z_M → Prop) : Option Value → z_Q → z_M → Prop := fun rv q' μ' => q' = q ∧ ∃ r : Int32, rv = some (.int r) ∧ (r = 0 ∨ r = 1) ∧ K r μ'
def z_Kl (q : z_Q) (K : Int64 → z_M → Prop) : Option Value → z_Q → z_M → Prop := fun rv q' μ' => q' = q ∧ ∃ r : Int64, rv = some (.long r) ∧ K r μ'
def z_Kv (q : z_Q) (K : z_M → Prop) : Option Value → z_Q → z_M → Prop := fun rv q' μ' => q' = q ∧ rv = none ∧ K μ'
def z_KiQ (kd : z_K) (K : Int32 → z_Q → z_M → Prop) : Option Value → z_Q → z_M → Prop := fun rv q' μ' => z_I kd q' ∧ ∃ r : Int32, rv = some (.int r) ∧ K r q' μ'
def z_KzQ (kd : z_K) (K : Int32 → z_Q → z_M → Prop) : Option Value → z_Q → z_M → Prop := fun rv q' μ' => z_I kd q' ∧ ∃ r : Int32, rv = some (.int r) ∧ (r = 0 ∨ r = 1) ∧ K r q' μ'
def z_KlQ (kd : z_K) (K : Int64 → z_Q → z_M → Prop) : Option Value → z_Q → z_M → Prop := fun rv q' μ' => z_I kd q' ∧ ∃ r : Int64, rv = some (.long r) ∧ K r q' μ'
def z_KvQ (kd : z_K) (K : z_Q → z_M → Prop) : Option Value → z_Q → z_M → Prop := fun rv q' μ' => z_I kd q' ∧ rv = none ∧ K q' μ'
def z_Kr (kd : z_K) (t : Nat) (q : z_Q) (K : Option Nat → z_M → Prop) : Option Value → z_Q → z_M → Prop := fun rv q' μ' => q' = q ∧ ∃ w : Option Nat, rv = some (va_rf w) ∧ (∀ a, w = some a → kd a = some (.inl t)) ∧ K w μ'
section ZK
variable {p : Program} {l : Launch} {e : Env} {R : Room} {s : State} {m : MethodId} {args : Array Value} {below : List Frame} {meth : Method} {c : Code} {cc : ByteArray} {own : String} {nL : Nat} {D : va_G} {A : Nat → Prop} {Q : State → Prop} {mc ms : Nat} {ρ : z_A} {kd : z_K} {q : z_Q} {μ : z_M} {pc : Nat} {lv : List (Nat × Value)} {st : List Value} {index maxL n : Nat} {y : MethodName} {bytes : ByteArray} {ret : Option FieldType} {rm : Room} {As rest : List Value} {b ci : Nat}
theorem zx_callV_iN (G : z_G p c cc s m args own nL D) {K : Int32 → z_M → Prop} (hC : z_CV own index y bytes maxL ret n) (hR : rm.frames + 1 ≤ R.frames ∧ 8 + (maxL + 11) + rm.locals ≤ R.locals) (hc : rm.cells = 0) (hs : rm.slots = 0) (hmc : mc ≤ R.cells ∧ ms ≤ R.slots) (hb : kd b = some (.inl ci)) (hci : z_name ci = y.cls) (hM : ∀ sz, Met l y (z_ws y bytes maxL ret) rm (z_Pc D ρ kd q μ sz (.ref b :: As)) (z_Qn D (z_Rg ρ sz) ρ kd (z_Ki q K)) 0 0 (z_Rg ρ sz)) (hn : As.length = n) (hst : st = As.reverse ++ .ref b :: rest) (hcat : (rest.map fun v => v.category).sum ≤ 8) (hd : decode cc pc = .ok (.invokevirtual index, 3)) (kk : ∀ (r : Int32) (μ' : z_M), K r μ' → z_X p l e R s m args below meth c nL D A Q mc ms ρ kd q μ' (pc + 3) lv (.int r :: rest)) : z_X p l e R s m args below meth c nL D A Q mc ms ρ kd q μ pc lv st := by
  refine zx_callVn G hC hR (by rw [hc, hs]; exact hmc) hb hci (fun sz => by rw [hc, hs]; exact hM sz) hn hst hcat hd ?_
  rintro _ q' μ' ⟨rfl, r, rfl, h⟩
  rw [hc, hs]
  exact kk r μ' h
theorem zx_callV_zN (G : z_G p c cc s m args own nL D) {K : Int32 → z_M → Prop} (hC : z_CV own index y bytes maxL ret n) (hR : rm.frames + 1 ≤ R.frames ∧ 8 + (maxL + 11) + rm.locals ≤ R.locals) (hc : rm.cells = 0) (hs : rm.slots = 0) (hmc : mc ≤ R.cells ∧ ms ≤ R.slots) (hb : kd b = some (.inl ci)) (hci : z_name ci = y.cls) (hM : ∀ sz, Met l y (z_ws y bytes maxL ret) rm (z_Pc D ρ kd q μ sz (.ref b :: As)) (z_Qn D (z_Rg ρ sz) ρ kd (z_Kz q K)) 0 0 (z_Rg ρ sz)) (hn : As.length = n) (hst : st = As.reverse ++ .ref b :: rest) (hcat : (rest.map fun v => v.category).sum ≤ 8) (hd : decode cc pc = .ok (.invokevirtual index, 3)) (kk : ∀ (r : Int32) (μ' : z_M), (r = 0 ∨ r = 1) → K r μ' → z_X p l e R s m args below meth c nL D A Q mc ms ρ kd q μ' (pc + 3) lv (.int r :: rest)) : z_X p l e R s m args below meth c nL D A Q mc ms ρ kd q μ pc lv st := by
  refine zx_callVn G hC hR (by rw [hc, hs]; exact hmc) hb hci (fun sz => by rw [hc, hs]; exact hM sz) hn hst hcat hd ?_
  rintro _ q' μ' ⟨rfl, r, rfl, hz, h⟩
  rw [hc, hs]
  exact kk r μ' hz h
theorem zx_callV_lN (G : z_G p c cc s m args own nL D) {K : Int64 → z_M → Prop} (hC : z_CV own index y bytes maxL ret n) (hR : rm.frames + 1 ≤ R.frames ∧ 8 + (maxL + 11) + rm.locals ≤ R.locals) (hc : rm.cells = 0) (hs : rm.slots = 0) (hmc : mc ≤ R.cells ∧ ms ≤ R.slots) (hb : kd b = some (.inl ci)) (hci : z_name ci = y.cls) (hM : ∀ sz, Met l y (z_ws y bytes maxL ret) rm (z_Pc D ρ kd q μ sz (.ref b :: As)) (z_Qn D (z_Rg ρ sz) ρ kd (z_Kl q K)) 0 0 (z_Rg ρ sz)) (hn : As.length = n) (hst : st = As.reverse ++ .ref b :: rest) (hcat : (rest.map fun v => v.category).sum ≤ 8) (hd : decode cc pc = .ok (.invokevirtual index, 3)) (kk : ∀ (r : Int64) (μ' : z_M), K r μ' → z_X p l e R s m args below meth c nL D A Q mc ms ρ kd q μ' (pc + 3) lv (.long r :: rest)) : z_X p l e R s m args below meth c nL D A Q mc ms ρ kd q μ pc lv st := by
  refine zx_callVn G hC hR (by rw [hc, hs]; exact hmc) hb hci (fun sz => by rw [hc, hs]; exact hM sz) hn hst hcat hd ?_
  rintro _ q' μ' ⟨rfl, r, rfl, h⟩
  rw [hc, hs]
  exact kk r μ' h
theorem zx_callV_vN (G : z_G p c cc s m args own nL D) {K : z_M → Prop} (hC : z_CV own index y bytes maxL ret n) (hR : rm.frames + 1 ≤ R.frames ∧ 8 + (maxL + 11) + rm.locals ≤ R.locals) (hc : rm.cells = 0) (hs : rm.slots = 0) (hmc : mc ≤ R.cells ∧ ms ≤ R.slots) (hb : kd b = some (.inl ci)) (hci : z_name ci = y.cls) (hM : ∀ sz, Met l y (z_ws y bytes maxL ret) rm (z_Pc D ρ kd q μ sz (.ref b :: As)) (z_Qn D (z_Rg ρ sz) ρ kd (z_Kv q K)) 0 0 (z_Rg ρ sz)) (hn : As.length = n) (hst : st = As.reverse ++ .ref b :: rest) (hcat : (rest.map fun v => v.category).sum ≤ 8) (hd : decode cc pc = .ok (.invokevirtual index, 3)) (kk : ∀ (μ' : z_M), K μ' → z_X p l e R s m args below meth c nL D A Q mc ms ρ kd q μ' (pc + 3) lv (rest)) : z_X p l e R s m args below meth c nL D A Q mc ms ρ kd q μ pc lv st := by
  refine zx_callVn G hC hR (by rw [hc, hs]; exact hmc) hb hci (fun sz => by rw [hc, hs]; exact hM sz) hn hst hcat hd ?_
  rintro _ q' μ' ⟨rfl, rfl, h⟩
  rw [hc, hs]
  exact kk μ' h
theorem zx_callV_rN {t : Nat} (G : z_G p c cc s m args own nL D) {K : Option Nat → z_M → Prop} (hC : z_CV own index y bytes maxL ret n) (hR : rm.frames + 1 ≤ R.frames ∧ 8 + (maxL + 11) + rm.locals ≤ R.locals) (hc : rm.cells = 0) (hs : rm.slots = 0) (hmc : mc ≤ R.cells ∧ ms ≤ R.slots) (hb : kd b = some (.inl ci)) (hci : z_name ci = y.cls) (hM : ∀ sz, Met l y (z_ws y bytes maxL ret) rm (z_Pc D ρ kd q μ sz (.ref b :: As)) (z_Qn D (z_Rg ρ sz) ρ kd (z_Kr kd t q K)) 0 0 (z_Rg ρ sz)) (hn : As.length = n) (hst : st = As.reverse ++ .ref b :: rest) (hcat : (rest.map fun v => v.category).sum ≤ 8) (hd : decode cc pc = .ok (.invokevirtual index, 3)) (kk : ∀ (r : Option Nat) (μ' : z_M), (∀ a, r = some a → kd a = some (.inl t)) → K r μ' → z_X p l e R s m args below meth c nL D A Q mc ms ρ kd q μ' (pc + 3) lv (va_rf r :: rest)) : z_X p l e R s m args below meth c nL D A Q mc ms ρ kd q μ pc lv st := by
  refine zx_callVn G hC hR (by rw [hc, hs]; exact hmc) hb hci (fun sz => by rw [hc, hs]; exact hM sz) hn hst hcat hd ?_
  rintro _ q' μ' ⟨rfl, r, rfl, hf, h⟩
  rw [hc, hs]
  exact kk r μ' hf h
theorem zx_callV_iQ (G : z_G p c cc s m args own nL D) {K : Int32 → z_Q → z_M → Prop} (hC : z_CV own index y bytes maxL ret n) (hR : rm.frames + 1 ≤ R.frames ∧ 8 + (maxL + 11) + rm.locals ≤ R.locals) (hc : rm.cells = 0) (hs : rm.slots = 0) (hmc : mc ≤ R.cells ∧ ms ≤ R.slots) (hb : kd b = some (.inl ci)) (hci : z_name ci = y.cls) (hM : ∀ sz, Met l y (z_ws y bytes maxL ret) rm (z_Pc D ρ kd q μ sz (.ref b :: As)) (z_Qn D (z_Rg ρ sz) ρ kd (z_KiQ kd K)) 0 0 (z_Rg ρ sz)) (hn : As.length = n) (hst : st = As.reverse ++ .ref b :: rest) (hcat : (rest.map fun v => v.category).sum ≤ 8) (hd : decode cc pc = .ok (.invokevirtual index, 3)) (kk : ∀ (r : Int32) (q' : z_Q) (_ : z_I kd q') (μ' : z_M), K r q' μ' → z_X p l e R s m args below meth c nL D A Q mc ms ρ kd q' μ' (pc + 3) lv (.int r :: rest)) : z_X p l e R s m args below meth c nL D A Q mc ms ρ kd q μ pc lv st := by
  refine zx_callVn G hC hR (by rw [hc, hs]; exact hmc) hb hci (fun sz => by rw [hc, hs]; exact hM sz) hn hst hcat hd ?_
  rintro _ q' μ' ⟨hI, r, rfl, h⟩
  rw [hc, hs]
  exact kk r q' hI μ' h
theorem zx_callV_zQ (G : z_G p c cc s m args own nL D) {K : Int32 → z_Q → z_M → Prop} (hC : z_CV own index y bytes maxL ret n) (hR : rm.frames + 1 ≤ R.frames ∧ 8 + (maxL + 11) + rm.locals ≤ R.locals) (hc : rm.cells = 0) (hs : rm.slots = 0) (hmc : mc ≤ R.cells ∧ ms ≤ R.slots) (hb : kd b = some (.inl ci)) (hci : z_name ci = y.cls) (hM : ∀ sz, Met l y (z_ws y bytes maxL ret) rm (z_Pc D ρ kd q μ sz (.ref b :: As)) (z_Qn D (z_Rg ρ sz) ρ kd (z_KzQ kd K)) 0 0 (z_Rg ρ sz)) (hn : As.length = n) (hst : st = As.reverse ++ .ref b :: rest) (hcat : (rest.map fun v => v.category).sum ≤ 8) (hd : decode cc pc = .ok (.invokevirtual index, 3)) (kk : ∀ (r : Int32) (q' : z_Q) (_ : z_I kd q') (μ' : z_M), (r = 0 ∨ r = 1) → K r q' μ' → z_X p l e R s m args below meth c nL D A Q mc ms ρ kd q' μ' (pc + 3) lv (.int r :: rest)) : z_X p l e R s m args below meth c nL D A Q mc ms ρ kd q μ pc lv st := by
  refine zx_callVn G hC hR (by rw [hc, hs]; exact hmc) hb hci (fun sz => by rw [hc, hs]; exact hM sz) hn hst hcat hd ?_
  rintro _ q' μ' ⟨hI, r, rfl, hz, h⟩
  rw [hc, hs]
  exact kk r q' hI μ' hz h
theorem zx_callV_lQ (G : z_G p c cc s m args own nL D) {K : Int64 → z_Q → z_M → Prop} (hC : z_CV own index y bytes maxL ret n) (hR : rm.frames + 1 ≤ R.frames ∧ 8 + (maxL + 11) + rm.locals ≤ R.locals) (hc : rm.cells = 0) (hs : rm.slots = 0) (hmc : mc ≤ R.cells ∧ ms ≤ R.slots) (hb : kd b = some (.inl ci)) (hci : z_name ci = y.cls) (hM : ∀ sz, Met l y (z_ws y bytes maxL ret) rm (z_Pc D ρ kd q μ sz (.ref b :: As)) (z_Qn D (z_Rg ρ sz) ρ kd (z_KlQ kd K)) 0 0 (z_Rg ρ sz)) (hn : As.length = n) (hst : st = As.reverse ++ .ref b :: rest) (hcat : (rest.map fun v => v.category).sum ≤ 8) (hd : decode cc pc = .ok (.invokevirtual index, 3)) (kk : ∀ (r : Int64) (q' : z_Q) (_ : z_I kd q') (μ' : z_M), K r q' μ' → z_X p l e R s m args below meth c nL D A Q mc ms ρ kd q' μ' (pc + 3) lv (.long r :: rest)) : z_X p l e R s m args below meth c nL D A Q mc ms ρ kd q μ pc lv st := by
  refine zx_callVn G hC hR (by rw [hc, hs]; exact hmc) hb hci (fun sz => by rw [hc, hs]; exact hM sz) hn hst hcat hd ?_
  rintro _ q' μ' ⟨hI, r, rfl, h⟩
  rw [hc, hs]
  exact kk r q' hI μ' h
theorem zx_callV_vQ (G : z_G p c cc s m args own nL D) {K : z_Q → z_M → Prop} (hC : z_CV own index y bytes maxL ret n) (hR : rm.frames + 1 ≤ R.frames ∧ 8 + (maxL + 11) + rm.locals ≤ R.locals) (hc : rm.cells = 0) (hs : rm.slots = 0) (hmc : mc ≤ R.cells ∧ ms ≤ R.slots) (hb : kd b = some (.inl ci)) (hci : z_name ci = y.cls) (hM : ∀ sz, Met l y (z_ws y bytes maxL ret) rm (z_Pc D ρ kd q μ sz (.ref b :: As)) (z_Qn D (z_Rg ρ sz) ρ kd (z_KvQ kd K)) 0 0 (z_Rg ρ sz)) (hn : As.length = n) (hst : st = As.reverse ++ .ref b :: rest) (hcat : (rest.map fun v => v.category).sum ≤ 8) (hd : decode cc pc = .ok (.invokevirtual index, 3)) (kk : ∀ (q' : z_Q) (_ : z_I kd q') (μ' : z_M), K q' μ' → z_X p l e R s m args below meth c nL D A Q mc ms ρ kd q' μ' (pc + 3) lv (rest)) : z_X p l e R s m args below meth c nL D A Q mc ms ρ kd q μ pc lv st := by
  refine zx_callVn G hC hR (by rw [hc, hs]; exact hmc) hb hci (fun sz => by rw [hc, hs]; exact hM sz) hn hst hcat hd ?_
  rintro _ q' μ' ⟨hI, rfl, h⟩
  rw [hc, hs]
  exact kk q' hI μ' h
theorem zx_callS_iN (G : z_G p c cc s m args own nL D) {K : Int32 → z_M → Prop} (hC : z_CS own index y bytes maxL ret n) (hR : rm.frames + 1 ≤ R.frames ∧ 8 + (maxL + 11) + rm.locals ≤ R.locals) (hc : rm.cells = 0) (hs : rm.slots = 0) (hmc : mc ≤ R.cells ∧ ms ≤ R.slots) (hM : ∀ sz, Met l y (z_ws y bytes maxL ret) rm (z_Pc D ρ kd q μ sz As) (z_Qn D (z_Rg ρ sz) ρ kd (z_Ki q K)) 0 0 (z_Rg ρ sz)) (hn : As.length = n) (hst : st = As.reverse ++ rest) (hcat : (rest.map fun v => v.category).sum ≤ 8) (hd : decode cc pc = .ok (.invokestatic index, 3)) (kk : ∀ (r : Int32) (μ' : z_M), K r μ' → z_X p l e R s m args below meth c nL D A Q mc ms ρ kd q μ' (pc + 3) lv (.int r :: rest)) : z_X p l e R s m args below meth c nL D A Q mc ms ρ kd q μ pc lv st := by
  refine zx_callSn G hC hR (by rw [hc, hs]; exact hmc) (fun sz => by rw [hc, hs]; exact hM sz) hn hst hcat hd ?_
  rintro _ q' μ' ⟨rfl, r, rfl, h⟩
  rw [hc, hs]
  exact kk r μ' h
theorem zx_callS_zN (G : z_G p c cc s m args own nL D) {K : Int32 → z_M → Prop} (hC : z_CS own index y bytes maxL ret n) (hR : rm.frames + 1 ≤ R.frames ∧ 8 + (maxL + 11) + rm.locals ≤ R.locals) (hc : rm.cells = 0) (hs : rm.slots = 0) (hmc : mc ≤ R.cells ∧ ms ≤ R.slots) (hM : ∀ sz, Met l y (z_ws y bytes maxL ret) rm (z_Pc D ρ kd q μ sz As) (z_Qn D (z_Rg ρ sz) ρ kd (z_Kz q K)) 0 0 (z_Rg ρ sz)) (hn : As.length = n) (hst : st = As.reverse ++ rest) (hcat : (rest.map fun v => v.category).sum ≤ 8) (hd : decode cc pc = .ok (.invokestatic index, 3)) (kk : ∀ (r : Int32) (μ' : z_M), (r = 0 ∨ r = 1) → K r μ' → z_X p l e R s m args below meth c nL D A Q mc ms ρ kd q μ' (pc + 3) lv (.int r :: rest)) : z_X p l e R s m args below meth c nL D A Q mc ms ρ kd q μ pc lv st := by
  refine zx_callSn G hC hR (by rw [hc, hs]; exact hmc) (fun sz => by rw [hc, hs]; exact hM sz) hn hst hcat hd ?_
  rintro _ q' μ' ⟨rfl, r, rfl, hz, h⟩
  rw [hc, hs]
  exact kk r μ' hz h
theorem zx_callS_lN (G : z_G p c cc s m args own nL D) {K : Int64 → z_M → Prop} (hC : z_CS own index y bytes maxL ret n) (hR : rm.frames + 1 ≤ R.frames ∧ 8 + (maxL + 11) + rm.locals ≤ R.locals) (hc : rm.cells = 0) (hs : rm.slots = 0) (hmc : mc ≤ R.cells ∧ ms ≤ R.slots) (hM : ∀ sz, Met l y (z_ws y bytes maxL ret) rm (z_Pc D ρ kd q μ sz As) (z_Qn D (z_Rg ρ sz) ρ kd (z_Kl q K)) 0 0 (z_Rg ρ sz)) (hn : As.length = n) (hst : st = As.reverse ++ rest) (hcat : (rest.map fun v => v.category).sum ≤ 8) (hd : decode cc pc = .ok (.invokestatic index, 3)) (kk : ∀ (r : Int64) (μ' : z_M), K r μ' → z_X p l e R s m args below meth c nL D A Q mc ms ρ kd q μ' (pc + 3) lv (.long r :: rest)) : z_X p l e R s m args below meth c nL D A Q mc ms ρ kd q μ pc lv st := by
  refine zx_callSn G hC hR (by rw [hc, hs]; exact hmc) (fun sz => by rw [hc, hs]; exact hM sz) hn hst hcat hd ?_
  rintro _ q' μ' ⟨rfl, r, rfl, h⟩
  rw [hc, hs]
  exact kk r μ' h
theorem zx_callS_vN (G : z_G p c cc s m args own nL D) {K : z_M → Prop} (hC : z_CS own index y bytes maxL ret n) (hR : rm.frames + 1 ≤ R.frames ∧ 8 + (maxL + 11) + rm.locals ≤ R.locals) (hc : rm.cells = 0) (hs : rm.slots = 0) (hmc : mc ≤ R.cells ∧ ms ≤ R.slots) (hM : ∀ sz, Met l y (z_ws y bytes maxL ret) rm (z_Pc D ρ kd q μ sz As) (z_Qn D (z_Rg ρ sz) ρ kd (z_Kv q K)) 0 0 (z_Rg ρ sz)) (hn : As.length = n) (hst : st = As.reverse ++ rest) (hcat : (rest.map fun v => v.category).sum ≤ 8) (hd : decode cc pc = .ok (.invokestatic index, 3)) (kk : ∀ (μ' : z_M), K μ' → z_X p l e R s m args below meth c nL D A Q mc ms ρ kd q μ' (pc + 3) lv (rest)) : z_X p l e R s m args below meth c nL D A Q mc ms ρ kd q μ pc lv st := by
  refine zx_callSn G hC hR (by rw [hc, hs]; exact hmc) (fun sz => by rw [hc, hs]; exact hM sz) hn hst hcat hd ?_
  rintro _ q' μ' ⟨rfl, rfl, h⟩
  rw [hc, hs]
  exact kk μ' h
theorem zx_callS_rN {t : Nat} (G : z_G p c cc s m args own nL D) {K : Option Nat → z_M → Prop} (hC : z_CS own index y bytes maxL ret n) (hR : rm.frames + 1 ≤ R.frames ∧ 8 + (maxL + 11) + rm.locals ≤ R.locals) (hc : rm.cells = 0) (hs : rm.slots = 0) (hmc : mc ≤ R.cells ∧ ms ≤ R.slots) (hM : ∀ sz, Met l y (z_ws y bytes maxL ret) rm (z_Pc D ρ kd q μ sz As) (z_Qn D (z_Rg ρ sz) ρ kd (z_Kr kd t q K)) 0 0 (z_Rg ρ sz)) (hn : As.length = n) (hst : st = As.reverse ++ rest) (hcat : (rest.map fun v => v.category).sum ≤ 8) (hd : decode cc pc = .ok (.invokestatic index, 3)) (kk : ∀ (r : Option Nat) (μ' : z_M), (∀ a, r = some a → kd a = some (.inl t)) → K r μ' → z_X p l e R s m args below meth c nL D A Q mc ms ρ kd q μ' (pc + 3) lv (va_rf r :: rest)) : z_X p l e R s m args below meth c nL D A Q mc ms ρ kd q μ pc lv st := by
  refine zx_callSn G hC hR (by rw [hc, hs]; exact hmc) (fun sz => by rw [hc, hs]; exact hM sz) hn hst hcat hd ?_
  rintro _ q' μ' ⟨rfl, r, rfl, hf, h⟩
  rw [hc, hs]
  exact kk r μ' hf h
theorem zx_callS_iQ (G : z_G p c cc s m args own nL D) {K : Int32 → z_Q → z_M → Prop} (hC : z_CS own index y bytes maxL ret n) (hR : rm.frames + 1 ≤ R.frames ∧ 8 + (maxL + 11) + rm.locals ≤ R.locals) (hc : rm.cells = 0) (hs : rm.slots = 0) (hmc : mc ≤ R.cells ∧ ms ≤ R.slots) (hM : ∀ sz, Met l y (z_ws y bytes maxL ret) rm (z_Pc D ρ kd q μ sz As) (z_Qn D (z_Rg ρ sz) ρ kd (z_KiQ kd K)) 0 0 (z_Rg ρ sz)) (hn : As.length = n) (hst : st = As.reverse ++ rest) (hcat : (rest.map fun v => v.category).sum ≤ 8) (hd : decode cc pc = .ok (.invokestatic index, 3)) (kk : ∀ (r : Int32) (q' : z_Q) (_ : z_I kd q') (μ' : z_M), K r q' μ' → z_X p l e R s m args below meth c nL D A Q mc ms ρ kd q' μ' (pc + 3) lv (.int r :: rest)) : z_X p l e R s m args below meth c nL D A Q mc ms ρ kd q μ pc lv st := by
  refine zx_callSn G hC hR (by rw [hc, hs]; exact hmc) (fun sz => by rw [hc, hs]; exact hM sz) hn hst hcat hd ?_
  rintro _ q' μ' ⟨hI, r, rfl, h⟩
  rw [hc, hs]
  exact kk r q' hI μ' h
theorem zx_callS_zQ (G : z_G p c cc s m args own nL D) {K : Int32 → z_Q → z_M → Prop} (hC : z_CS own index y bytes maxL ret n) (hR : rm.frames + 1 ≤ R.frames ∧ 8 + (maxL + 11) + rm.locals ≤ R.locals) (hc : rm.cells = 0) (hs : rm.slots = 0) (hmc : mc ≤ R.cells ∧ ms ≤ R.slots) (hM : ∀ sz, Met l y (z_ws y bytes maxL ret) rm (z_Pc D ρ kd q μ sz As) (z_Qn D (z_Rg ρ sz) ρ kd (z_KzQ kd K)) 0 0 (z_Rg ρ sz)) (hn : As.length = n) (hst : st = As.reverse ++ rest) (hcat : (rest.map fun v => v.category).sum ≤ 8) (hd : decode cc pc = .ok (.invokestatic index, 3)) (kk : ∀ (r : Int32) (q' : z_Q) (_ : z_I kd q') (μ' : z_M), (r = 0 ∨ r = 1) → K r q' μ' → z_X p l e R s m args below meth c nL D A Q mc ms ρ kd q' μ' (pc + 3) lv (.int r :: rest)) : z_X p l e R s m args below meth c nL D A Q mc ms ρ kd q μ pc lv st := by
  refine zx_callSn G hC hR (by rw [hc, hs]; exact hmc) (fun sz => by rw [hc, hs]; exact hM sz) hn hst hcat hd ?_
  rintro _ q' μ' ⟨hI, r, rfl, hz, h⟩
  rw [hc, hs]
  exact kk r q' hI μ' hz h
theorem zx_callS_lQ (G : z_G p c cc s m args own nL D) {K : Int64 → z_Q → z_M → Prop} (hC : z_CS own index y bytes maxL ret n) (hR : rm.frames + 1 ≤ R.frames ∧ 8 + (maxL + 11) + rm.locals ≤ R.locals) (hc : rm.cells = 0) (hs : rm.slots = 0) (hmc : mc ≤ R.cells ∧ ms ≤ R.slots) (hM : ∀ sz, Met l y (z_ws y bytes maxL ret) rm (z_Pc D ρ kd q μ sz As) (z_Qn D (z_Rg ρ sz) ρ kd (z_KlQ kd K)) 0 0 (z_Rg ρ sz)) (hn : As.length = n) (hst : st = As.reverse ++ rest) (hcat : (rest.map fun v => v.category).sum ≤ 8) (hd : decode cc pc = .ok (.invokestatic index, 3)) (kk : ∀ (r : Int64) (q' : z_Q) (_ : z_I kd q') (μ' : z_M), K r q' μ' → z_X p l e R s m args below meth c nL D A Q mc ms ρ kd q' μ' (pc + 3) lv (.long r :: rest)) : z_X p l e R s m args below meth c nL D A Q mc ms ρ kd q μ pc lv st := by
  refine zx_callSn G hC hR (by rw [hc, hs]; exact hmc) (fun sz => by rw [hc, hs]; exact hM sz) hn hst hcat hd ?_
  rintro _ q' μ' ⟨hI, r, rfl, h⟩
  rw [hc, hs]
  exact kk r q' hI μ' h
theorem zx_callS_vQ (G : z_G p c cc s m args own nL D) {K : z_Q → z_M → Prop} (hC : z_CS own index y bytes maxL ret n) (hR : rm.frames + 1 ≤ R.frames ∧ 8 + (maxL + 11) + rm.locals ≤ R.locals) (hc : rm.cells = 0) (hs : rm.slots = 0) (hmc : mc ≤ R.cells ∧ ms ≤ R.slots) (hM : ∀ sz, Met l y (z_ws y bytes maxL ret) rm (z_Pc D ρ kd q μ sz As) (z_Qn D (z_Rg ρ sz) ρ kd (z_KvQ kd K)) 0 0 (z_Rg ρ sz)) (hn : As.length = n) (hst : st = As.reverse ++ rest) (hcat : (rest.map fun v => v.category).sum ≤ 8) (hd : decode cc pc = .ok (.invokestatic index, 3)) (kk : ∀ (q' : z_Q) (_ : z_I kd q') (μ' : z_M), K q' μ' → z_X p l e R s m args below meth c nL D A Q mc ms ρ kd q' μ' (pc + 3) lv (rest)) : z_X p l e R s m args below meth c nL D A Q mc ms ρ kd q μ pc lv st := by
  refine zx_callSn G hC hR (by rw [hc, hs]; exact hmc) (fun sz => by rw [hc, hs]; exact hM sz) hn hst hcat hd ?_
  rintro _ q' μ' ⟨hI, rfl, h⟩
  rw [hc, hs]
  exact kk q' hI μ' h
end ZK
