/-! The class: together, purse. -/
theorem and_b {l k l' k' : Nat} (h1 : l < 256) (h2 : l' < 256) : (l + 256 * k) &&& (l' + 256 * k') = (l &&& l') + 256 * (k &&& k') := by
  have hl : (l &&& l') < 2 ^ 8 := Nat.lt_of_le_of_lt Nat.and_le_left (by simpa using h1)
  apply Nat.eq_of_testBit_eq
  intro j
  rw [Nat.testBit_and, Nat.add_comm l, Nat.add_comm l', Nat.add_comm (l &&& l'), show 256 = 2 ^ 8 from rfl, Nat.testBit_two_pow_mul_add _ (by simpa using h1), Nat.testBit_two_pow_mul_add _ (by simpa using h2), Nat.testBit_two_pow_mul_add _ hl]
  by_cases hj : j < 8
  · rw [if_pos hj, if_pos hj, if_pos hj, Nat.testBit_and]
  · rw [if_neg hj, if_neg hj, if_neg hj, Nat.testBit_and]
theorem and_b3 {x0 x1 x2 m0 m1 m2 : Nat} (h0 : x0 < 256) (h1 : x1 < 256) (g0 : m0 < 256) (g1 : m1 < 256) : (x0 + 256 * (x1 + 256 * x2)) &&& (m0 + 256 * (m1 + 256 * m2)) = (x0 &&& m0) + 256 * ((x1 &&& m1) + 256 * (x2 &&& m2)) := by
  rw [and_b h0 g0, and_b h1 g1]
def pA (x : Nat) : Nat := x - (x / 2 &&& 1431655765)
def pB (x : Nat) : Nat := (x &&& 858993459) + (x / 4 &&& 858993459)
def pC (x : Nat) : Nat := (x + x / 16) &&& 252645135
def pa8 (l : Nat) : Nat := l - (l / 2 &&& 85)
def pb8 (l : Nat) : Nat := (l &&& 51) + (l / 4 &&& 51)
theorem pd1 : ∀ l : Fin 256, ∀ e : Fin 2, (l.val / 2 + 128 * e.val) &&& 85 = l.val / 2 &&& 85 := by decide +kernel
theorem pd2 : ∀ l : Fin 256, (l.val / 2 &&& 21845) = (l.val / 2 &&& 85) ∧ (l.val / 2 &&& 85) ≤ l.val ∧ pa8 l.val < 256 := by decide +kernel
theorem pd3 : ∀ l : Fin 256, ∀ e : Fin 4, (l.val / 4 + 64 * e.val) &&& 51 = l.val / 4 &&& 51 := by decide +kernel
theorem pd4 : ∀ l : Fin 256, (l.val / 4 &&& 13107) = (l.val / 4 &&& 51) ∧ (l.val &&& 13107) = (l.val &&& 51) ∧ pb8 l.val < 256 := by decide +kernel
theorem pd5 : ∀ l : Fin 256, pb8 (pa8 l.val) ≤ 68 ∧ pb8 (pa8 l.val) % 16 ≤ 4 ∧ (pb8 (pa8 l.val) + pb8 (pa8 l.val) / 16) % 16 = popN l.val ∧ popN l.val ≤ 8 := by decide +kernel
theorem pd6 : ∀ l : Fin 256, l.val &&& 15 = l.val % 16 ∧ l.val &&& 3855 = l.val % 16 + 256 * 0 := by decide +kernel
theorem pA_3 {x0 x1 x2 : Nat} (h0 : x0 < 256) (h1 : x1 < 256) (h2 : x2 < 256) : pA (x0 + 256 * (x1 + 256 * x2)) = pa8 x0 + 256 * (pa8 x1 + 256 * pa8 x2) := by
  have e : (x0 + 256 * (x1 + 256 * x2)) / 2 = (x0 / 2 + 128 * (x1 % 2)) + 256 * ((x1 / 2 + 128 * (x2 % 2)) + 256 * (x2 / 2)) := by omega
  have d0 := (pd2 ⟨x0, h0⟩).2.1
  have d1 := (pd2 ⟨x1, h1⟩).2.1
  have d2 := (pd2 ⟨x2, h2⟩)
  have q1 := pd1 ⟨x0, h0⟩ ⟨x1 % 2, Nat.mod_lt _ (by decide)⟩
  have q2 := pd1 ⟨x1, h1⟩ ⟨x2 % 2, Nat.mod_lt _ (by decide)⟩
  dsimp only at d0 d1 d2 q1 q2
  unfold pA pa8
  rw [e, show 1431655765 = 85 + 256 * (85 + 256 * 21845) from rfl, and_b3 (by omega) (by omega) (by decide) (by decide), q1, q2, d2.1]
  have d3 := d2.2.1
  omega
theorem pB_3 {x0 x1 x2 : Nat} (h0 : x0 < 256) (h1 : x1 < 256) (h2 : x2 < 256) : pB (x0 + 256 * (x1 + 256 * x2)) = pb8 x0 + 256 * (pb8 x1 + 256 * pb8 x2) := by
  have e : (x0 + 256 * (x1 + 256 * x2)) / 4 = (x0 / 4 + 64 * (x1 % 4)) + 256 * ((x1 / 4 + 64 * (x2 % 4)) + 256 * (x2 / 4)) := by omega
  have d2 := (pd4 ⟨x2, h2⟩)
  have q1 := pd3 ⟨x0, h0⟩ ⟨x1 % 4, Nat.mod_lt _ (by decide)⟩
  have q2 := pd3 ⟨x1, h1⟩ ⟨x2 % 4, Nat.mod_lt _ (by decide)⟩
  dsimp only at d2 q1 q2
  unfold pB pb8
  rw [e, show 858993459 = 51 + 256 * (51 + 256 * 13107) from rfl, and_b3 h0 h1 (by decide) (by decide), and_b3 (by omega) (by omega) (by decide) (by decide), q1, q2, d2.1, d2.2.1]
  omega
theorem pC_3 {x0 x1 x2 : Nat} (h0 : x0 < 256) (h1 : x1 < 256) (h2 : x2 < 256) : pC (pB (pA (x0 + 256 * (x1 + 256 * x2)))) = popN x0 + 256 * (popN x1 + 256 * popN x2) := by
  obtain ⟨a1, a2, a3, _⟩ := pd5 ⟨x0, h0⟩
  obtain ⟨b1, b2, b3, _⟩ := pd5 ⟨x1, h1⟩
  obtain ⟨c1, c2, c3, _⟩ := pd5 ⟨x2, h2⟩
  have k0 := (pd2 ⟨x0, h0⟩).2.2
  have k1 := (pd2 ⟨x1, h1⟩).2.2
  have k2 := (pd2 ⟨x2, h2⟩).2.2
  dsimp only at a1 a2 a3 b1 b2 b3 c1 c2 c3 k0 k1 k2
  rw [pA_3 h0 h1 h2, pB_3 k0 k1 k2, ← a3, ← b3, ← c3]
  generalize pb8 (pa8 x0) = y0 at a1 a2 ⊢
  generalize pb8 (pa8 x1) = y1 at b1 b2 ⊢
  generalize pb8 (pa8 x2) = y2 at c1 c2 ⊢
  unfold pC
  have e : (y0 + 256 * (y1 + 256 * y2)) + (y0 + 256 * (y1 + 256 * y2)) / 16 = (y0 + y0 / 16 + 16 * (y1 % 16)) + 256 * ((y1 + y1 / 16 + 16 * (y2 % 16)) + 256 * (y2 + y2 / 16)) := by omega
  have l0 : y0 + y0 / 16 + 16 * (y1 % 16) < 256 := by omega
  have l1 : y1 + y1 / 16 + 16 * (y2 % 16) < 256 := by omega
  have l2 : y2 + y2 / 16 < 256 := by omega
  have t0 := (pd6 ⟨_, l0⟩).1
  have t1 := (pd6 ⟨_, l1⟩).1
  have t2 := (pd6 ⟨_, l2⟩).2
  dsimp only at t0 t1 t2
  rw [e, show 252645135 = 15 + 256 * (15 + 256 * 3855) from rfl, and_b3 l0 l1 (by decide) (by decide), t0, t1, t2]
  omega
theorem c_bits {x0 x1 x2 : Nat} (h0 : x0 < 256) (h1 : x1 < 256) (h2 : x2 < 256) {μ : z_M} {K : Int32 → z_M → Prop} (hK : K (nI (popN x0 + popN x1 + popN x2)) μ) : C_J6_bitCount_0f7a4 (nI (x0 + 256 * (x1 + 256 * x2))) μ K := by
  obtain ⟨g, hg⟩ : ∃ g, g = x0 + 256 * (x1 + 256 * x2) := ⟨_, rfl⟩
  have hC := pC_3 h0 h1 h2
  have p0 := (pd5 ⟨x0, h0⟩).2.2.2
  have p1 := (pd5 ⟨x1, h1⟩).2.2.2
  have p2 := (pd5 ⟨x2, h2⟩).2.2.2
  dsimp only at p0 p1 p2
  rw [← hg] at hC ⊢
  have hg2 : g < 2 ^ 24 := by omega
  have e1 : nI g - (((nI g).toUInt32 >>> ((1 : Int32).toUInt32 &&& Int32.toUInt32 31)).toInt32 &&& (1431655765 : Int32)) = nI (pA g) := by
    have hl : (g / 2 &&& 1431655765) ≤ g := Nat.le_trans Nat.and_le_left (Nat.div_le_self _ _)
    rw [pk_ushrN (by omega) 1 1 rfl, show (1431655765 : Int32) = nI 1431655765 from rfl, show (2 : Nat) ^ 1 = 2 from rfl, nI_and (by omega) (by decide), pk_sub hl]
    rfl
  have hA : pA g < 2 ^ 24 := Nat.lt_of_le_of_lt (Nat.sub_le _ _) hg2
  have e2 : ∀ a, a < 2 ^ 24 → (nI a &&& (858993459 : Int32)) + (((nI a).toUInt32 >>> ((2 : Int32).toUInt32 &&& Int32.toUInt32 31)).toInt32 &&& (858993459 : Int32)) = nI (pB a) := fun a ha => by
    rw [pk_ushrN (by omega) 2 2 rfl, show (858993459 : Int32) = nI 858993459 from rfl, show (2 : Nat) ^ 2 = 4 from rfl, nI_and (by omega) (by decide), nI_and (by omega) (by decide), nI_add]
    rfl
  have hB : pB (pA g) < 2 ^ 25 := by
    have l1 : (pA g &&& 858993459) ≤ pA g := Nat.and_le_left
    have l2 : (pA g / 4 &&& 858993459) ≤ pA g / 4 := Nat.and_le_left
    unfold pB
    omega
  have e3 : ∀ a, a < 2 ^ 25 → (nI a + ((nI a).toUInt32 >>> ((4 : Int32).toUInt32 &&& Int32.toUInt32 31)).toInt32) &&& (252645135 : Int32) = nI (pC a) := fun a ha => by
    rw [pk_ushrN (by omega) 4 4 rfl, show (252645135 : Int32) = nI 252645135 from rfl, show (2 : Nat) ^ 4 = 16 from rfl, nI_add, nI_and (by omega) (by decide)]
    rfl
  unfold C_J6_bitCount_0f7a4
  rw [e1, e2 _ hA, e3 _ hB, hC]
  generalize popN x0 = a at p0 hK ⊢
  generalize popN x1 = b at p1 hK ⊢
  generalize popN x2 = c at p2 hK ⊢
  rw [pk_ushrN (by omega) 8 8 rfl, nI_add, pk_ushrN (by omega) 16 16 rfl, nI_add, pk_andN (by omega) 6 rfl]
  have p8 : (2 : Nat) ^ 8 = 256 := by decide
  have p16 : (2 : Nat) ^ 16 = 65536 := by decide
  have p6 : (2 : Nat) ^ 6 = 64 := by decide
  rw [p8, p16, p6]
  have s1 : (a + 256 * (b + 256 * c)) / 256 = b + 256 * c := by omega
  have s2 : (a + 256 * (b + 256 * c) + (b + 256 * c)) / 65536 = c := by omega
  rw [s1, s2, show (a + 256 * (b + 256 * c) + (b + 256 * c) + c) % 64 = a + b + c by omega]
  exact hK
section CTOG
variable {B : Nat} {S : z_SS} {μ : z_M} {kd : z_K} {q : z_Q}
def nearI (S : z_SS) (d i j : Nat) : Prop := toWin S i ∧ toWin S j ∧ raceOfS S i = raceOfS S j ∧ legH S i = legH S j ∧ closeP S d i j
def spI (S : z_SS) (i : Nat) : Nat := 8 * raceOfS S i + legH S i
def Mp (S : z_SS) (d I J x y s : Nat) : Prop := ∃ i j, j < i ∧ i < S.1 0 6 ∧ (i < I ∨ (i = I ∧ j < J)) ∧ nearI S d i j ∧ s = spI S i ∧ ((S.1 20 i = x ∧ S.1 20 j = y) ∨ (S.1 20 i = y ∧ S.1 20 j = x))
theorem toWin3 {i : Nat} (h : toWin S i) : S.1 22 i ≠ 3 := by
  rcases h with h | h <;> omega
theorem onP_iff (hW : WF B S) {i x r h : Nat} (hi : i < S.1 0 6) (hr : r < 3) : onP S x r h i ↔ S.1 20 i = x ∧ toWin S i ∧ r = raceOfS S i ∧ h = legH S i := by
  have h7 := hW.2.2.2.2.2.2.1 i hi
  have hro := raceOfS_ok hW hi
  constructor
  · rintro ⟨a, b, c⟩
    have er := h7.2.2.2.2.2.2.2.2.2.2 (toWin3 b) r (raceOfS S i) hr hro.1 (by rw [c]; exact fun z => by cases z) (by rw [hro.2]; exact fun z => by cases z)
    subst er
    rw [hro.2] at c
    cases c
    exact ⟨a, b, rfl, rfl⟩
  · rintro ⟨a, b, c, e⟩
    subst c
    subst e
    exact ⟨a, b, hro.2⟩
theorem Mp_near (hW : WF B S) {d x y r h : Nat} (hr : r < 3) (hh : h < 8) (hxy : x ≠ y) : Mp S d (S.1 0 6) 0 x y (8 * r + h) ↔ nearP S x y r h d := by
  constructor
  · rintro ⟨i, j, h1, h2, h3, h4, h5, h6⟩
    obtain ⟨t1, t2, t3, t4, t5⟩ := h4
    have hi := raceOfS_ok hW h2
    have hlg := wf_leg hW h2 hi.1 _ hi.2
    unfold spI at h5
    have e1 : r = raceOfS S i := by omega
    have e2 : h = legH S i := by omega
    have hj : j < S.1 0 6 := by omega
    rcases h6 with ⟨g1, g2⟩ | ⟨g1, g2⟩
    · exact ⟨i, h2, (onP_iff hW h2 hr).mpr ⟨g1, t1, e1, e2⟩, j, hj, (onP_iff hW hj hr).mpr ⟨g2, t2, e1.trans t3, e2.trans t4⟩, t5⟩
    · exact ⟨j, hj, (onP_iff hW hj hr).mpr ⟨g2, t2, e1.trans t3, e2.trans t4⟩, i, h2, (onP_iff hW h2 hr).mpr ⟨g1, t1, e1, e2⟩, t5.2, t5.1⟩
  · rintro ⟨i, h1, h2, j, h3, h4, h5⟩
    obtain ⟨a1, a2, a3, a4⟩ := (onP_iff hW h1 hr).mp h2
    obtain ⟨b1, b2, b3, b4⟩ := (onP_iff hW h3 hr).mp h4
    have hne : i ≠ j := fun z => hxy (by rw [← a1, ← b1, z])
    rcases Nat.lt_or_gt_of_ne hne with g | g
    · exact ⟨j, i, g, h3, Or.inl h3, ⟨b2, a2, by rw [← a3, ← b3], by rw [← a4, ← b4], h5.2, h5.1⟩, by unfold spI; rw [← b3, ← b4], Or.inr ⟨b1, a1⟩⟩
    · exact ⟨i, j, g, h1, Or.inl h1, ⟨a2, b2, by rw [← a3, ← b3], by rw [← a4, ← b4], h5⟩, by unfold spI; rw [← a3, ← a4], Or.inl ⟨a1, b1⟩⟩
def Sh (S : z_SS) (μ : z_M) (d I J : Nat) : Prop := ∀ c, c < 256 → ∃ g, g < 2 ^ 24 ∧ μ.1 22 c = nI g ∧ ∀ s, g.testBit s = true ↔ Mp S d I J (c / 16) (c % 16) s
theorem c_isNear (hV : RepV S μ) (hW : WF 80 S) {d i j : Nat} (hi : i < S.1 0 6) (hj : j < S.1 0 6) (hd : d < 600) {K : Int32 → z_M → Prop} (h1 : nearI S d i j → K 1 μ) (h0 : ¬ nearI S d i j → K 0 μ) : C_X0_isNear kd q (100 + 3 * i) (some (100 + 3 * j)) (nI d) μ K := by
  have h3 := hW.1
  have h7 := hW.2.2.2.2.2.2.1 i hi
  have h8 := hW.2.2.2.2.2.2.1 j hj
  have ri := raceOfS_ok hW hi
  have rj := raceOfS_ok hW hj
  have li := wf_leg hW hi ri.1 _ ri.2
  have lj := wf_leg hW hj rj.1 _ rj.2
  have ti := hV.2.2.2 i hi
  have tj := hV.2.2.2 j hj
  unfold C_X0_isNear
  refine c_isToWin hV.to0 hW hi (fun e1 => ?_) (fun e1 => by rw [if_pos rfl]; exact h0 fun z => e1 z.1)
  rw [if_neg i10]
  refine ⟨_, rfl, c_isToWin hV.to0 hW hj (fun e2 => ?_) (fun e2 => by rw [if_pos rfl]; exact h0 fun z => e2 z.2.1)⟩
  rw [if_neg i10, ti.2.2.2.1.2 (toWin3 e1), tj.2.2.2.1.2 (toWin3 e2)]
  refine ifc (nI_eq (by omega) (by omega)) (fun e3 => ?_) (fun e3 => h0 fun z => e3 z.2.2.1)
  refine c_horseIn hV.to0 hi ri.1 ?_
  rw [ti.2.2.2.1.2 (toWin3 e1)]
  refine c_horseIn hV.to0 hj (by omega) ?_
  have rj2 : S.2.1 25 (3 * j + raceOfS S i) = some (legH S j) := by rw [e3]; exact rj.2
  rw [ri.2, rj2, oI_some, oI_some]
  refine ifc (nI_eq (by omega) (by omega)) (fun e4 => ?_) (fun e4 => h0 fun z => e4 z.2.2.2.1)
  rw [ti.1.2.2.2.2, tj.1.2.2.2.2, ← iI_nat (S.1 24 i), ← iI_nat (S.1 24 j), iI_sub]
  have ez : z_abs (iI ((S.1 24 i : Int) - (S.1 24 j : Int))) = iI (if S.1 24 j ≤ S.1 24 i then (S.1 24 i : Int) - (S.1 24 j : Int) else (S.1 24 j : Int) - (S.1 24 i : Int)) := by
    unfold z_abs
    rw [show (0 : Int32) = iI 0 from rfl]
    by_cases g : S.1 24 j ≤ S.1 24 i
    · rw [if_pos g, if_pos ((iI_le (by decide) (by decide) (by omega) (by omega)).mpr (by omega))]
    · rw [if_neg g, if_neg (fun z => by have := (iI_le (by decide) (by decide) (by omega) (by omega)).mp z; omega), iI_sub]
      congr 1
      omega
  rw [ez, ← iI_nat d]
  have bd : (if S.1 24 j ≤ S.1 24 i then (S.1 24 i : Int) - (S.1 24 j : Int) else (S.1 24 j : Int) - (S.1 24 i : Int)) < 600 ∧ 0 ≤ (if S.1 24 j ≤ S.1 24 i then (S.1 24 i : Int) - (S.1 24 j : Int) else (S.1 24 j : Int) - (S.1 24 i : Int)) := by
    split <;> omega
  refine ifc (iI_lt (by omega) (by omega) (by omega) (by omega)) (fun e5 => h0 fun z => ?_) (fun e5 => h1 ⟨e1, e2, e3, e4, ?_, ?_⟩)
  · have z1 := z.2.2.2.2.1
    have z2 := z.2.2.2.2.2
    split at e5 <;> omega
  · split at e5 <;> omega
  · split at e5 <;> omega
theorem c_share {d i j : Nat} (hW : WF 80 S) (hi : i < S.1 0 6) (hji : j < i) (hn : nearI S d i j) (hS : Sh S μ d i j) {K : z_M → Prop} (hK : ∀ μ', sameV μ μ' → Sh S μ' d i (j + 1) → K μ') : C_X11_share kd q (nI (S.1 20 i)) (nI (S.1 20 j)) (nI (spI S i)) μ K := by
  have h3 := hW.1
  have h7 := hW.2.2.2.2.2.2.1 i hi
  have h8 := hW.2.2.2.2.2.2.1 j (by omega)
  have ri := raceOfS_ok hW hi
  have li := wf_leg hW hi ri.1 _ ri.2
  have hs : spI S i < 24 := by
    unfold spI
    omega
  unfold C_X11_share
  refine c_isBettor (fun x hx ex => ?_) (fun g => absurd rfl (g _ h7.1))
  rw [if_neg i10]
  refine c_isBettor (fun y hy ey => ?_) (fun g => absurd rfl (g _ h8.1))
  rw [if_neg i10]
  have ex2 := (nI_eq (by omega) (by omega)).mp ex
  have ey2 := (nI_eq (by omega) (by omega)).mp ey
  rw [ex2, ey2, if_neg (Int32.not_lt.mpr (nI_pos' (by omega)))]
  refine ifc (nI_leI (a := 24) (by decide) (by omega)) (fun g => absurd g (by omega)) (fun _ => ?_)
  have e1s : (1 : Int32) <<< (nI (spI S i) &&& 31) = nI (2 ^ spI S i) := nI_1shl ⟨spI S i, by omega⟩
  rw [show (16 : Int32) = nI 16 from rfl, nI_mul, nI_mul, nI_add, nI_add, nI_clamp (by omega), nI_clamp (by omega), e1s]
  refine ⟨nI_vin (by omega) (by decide), nI_vin (by omega) (by decide), ?_⟩
  have hp : 2 ^ spI S i < 2 ^ 24 := Nat.pow_lt_pow_right (by decide) hs
  obtain ⟨g1, a1, a2, a3⟩ := hS (x * 16 + y) (by omega)
  obtain ⟨g2, b1, b2, b3⟩ := hS (y * 16 + x) (by omega)
  rw [show (x * 16 + y) / 16 = x by omega, show (x * 16 + y) % 16 = y by omega] at a3
  rw [show (y * 16 + x) / 16 = y by omega, show (y * 16 + x) % 16 = x by omega] at b3
  have new : ∀ u v s, Mp S d i (j + 1) u v s ↔ Mp S d i j u v s ∨ (s = spI S i ∧ ((x = u ∧ y = v) ∨ (x = v ∧ y = u))) := fun u v s => by
    constructor
    · rintro ⟨i', j', k1, k2, k3, k4, k5, k6⟩
      by_cases e : i' = i ∧ j' = j
      · obtain ⟨e1, e2⟩ := e
        subst e1
        subst e2
        rw [ex2, ey2] at k6
        exact Or.inr ⟨k5, k6⟩
      · exact Or.inl ⟨i', j', k1, k2, by omega, k4, k5, k6⟩
    · rintro (⟨i', j', k1, k2, k3, k4, k5, k6⟩ | ⟨k1, k2⟩)
      · exact ⟨i', j', k1, k2, by omega, k4, k5, k6⟩
      · exact ⟨i, j, hji, hi, by omega, hn, k1, by rw [ex2, ey2]; exact k2⟩
  rw [a2, nI_or (by omega) (by omega)]
  have e2 : (si μ 22 (x * 16 + y) (nI (g1 ||| 2 ^ spI S i))).1 22 (y * 16 + x) = nI (if x = y then g1 ||| 2 ^ spI S i else g2) := by
    rw [si1]
    by_cases e : x = y
    · rw [if_pos ⟨rfl, by omega⟩, if_pos e]
    · rw [if_neg (by omega), if_neg e]
      exact b2
  have hor : ∀ g, g < 2 ^ 24 → g ||| 2 ^ spI S i < 2 ^ 24 := fun g hg => Nat.or_lt_two_pow hg hp
  have ho1 := hor g1 a1
  have hl : (if x = y then g1 ||| 2 ^ spI S i else g2) < 2 ^ 24 := by
    split
    · exact ho1
    · exact b1
  rw [e2, nI_or (by omega) (by omega)]
  refine hK _ (sameV_tr (sameV_si (by decide) (by decide)) (sameV_si (by decide) (by decide))) fun c hc => ?_
  by_cases ec2 : c = y * 16 + x
  · refine ⟨_, hor _ hl, by rw [si1, if_pos ⟨rfl, ec2⟩], fun s => ?_⟩
    rw [bit_or2, ec2, show (y * 16 + x) / 16 = y by omega, show (y * 16 + x) % 16 = x by omega, new]
    by_cases e : x = y
    · rw [if_pos e, bit_or2, Bool.or_eq_true, Bool.or_eq_true, a3 s, decide_eq_true_eq]
      subst e
      constructor
      · rintro ((h | h) | h)
        · exact Or.inl h
        · exact Or.inr ⟨h.symm, Or.inl ⟨rfl, rfl⟩⟩
        · exact Or.inr ⟨h.symm, Or.inl ⟨rfl, rfl⟩⟩
      · rintro (h | h)
        · exact Or.inl (Or.inl h)
        · exact Or.inr h.1.symm
    · rw [if_neg e, Bool.or_eq_true, b3 s, decide_eq_true_eq]
      constructor
      · rintro (h | h)
        · exact Or.inl h
        · exact Or.inr ⟨h.symm, Or.inr ⟨rfl, rfl⟩⟩
      · rintro (h | h)
        · exact Or.inl h
        · exact Or.inr h.1.symm
  · by_cases ec1 : c = x * 16 + y
    · refine ⟨_, ho1, by rw [si1, if_neg (fun z => ec2 z.2), si1, if_pos ⟨rfl, ec1⟩], fun s => ?_⟩
      rw [bit_or2, ec1, show (x * 16 + y) / 16 = x by omega, show (x * 16 + y) % 16 = y by omega, new, Bool.or_eq_true, a3 s, decide_eq_true_eq]
      constructor
      · rintro (h | h)
        · exact Or.inl h
        · exact Or.inr ⟨h.symm, Or.inl ⟨rfl, rfl⟩⟩
      · rintro (h | h)
        · exact Or.inl h
        · exact Or.inr h.1.symm
    · obtain ⟨g, c1, c2, c3⟩ := hS c hc
      refine ⟨g, c1, by rw [si1, if_neg (fun z => ec2 z.2), si1, if_neg (fun z => ec1 z.2)]; exact c2, fun s => ?_⟩
      rw [c3 s, new]
      constructor
      · exact fun h => Or.inl h
      · rintro (h | ⟨_, h | h⟩)
        · exact h
        · omega
        · omega
theorem c_meet (hQ : KQ S kd q) (hV : RepV S μ) (hW : WF 80 S) {d : Nat} (hd : d < 600) {K : z_M → Prop} (hK : ∀ μ', sameV μ μ' → Sh S μ' d (S.1 0 6) 0 → K μ') : C_X11_meet kd q (nI d) μ K := by
  have h3 := hW.1
  unfold C_X11_meet L_X11_meet_2
  intro P hP
  have main : ∀ μ1, sameV μ μ1 → Sh S μ1 d 0 0 → L_X11_meet_26 kd q K (nI d) 0 μ1 := by
    intro μ1 g1 g2
    unfold L_X11_meet_26
    intro P2 hP2
    have key : ∀ i, i ≤ S.1 0 6 → ∀ μ', sameV μ μ' → Sh S μ' d i 0 → P2 (nI d) (nI i) μ' := by
      refine downTo (S.1 0 6) ?_ (fun i hi ih => ?_)
      · intro μ' k1 k2
        refine hP2 _ _ _ ?_
        unfold B_X11_meet_26
        rw [(hV.same k1).1.2.2.2.1]
        exact ifc (nI_leI (by omega) (by omega)) (fun _ => hK μ' k1 k2) (fun z => absurd (Nat.le_refl _) z)
      · intro μ' k1 k2
        refine hP2 _ _ _ ?_
        unfold B_X11_meet_26
        rw [(hV.same k1).1.2.2.2.1]
        refine ifc (nI_leI (by omega) (by omega)) (fun g => absurd g (by omega)) (fun _ => ?_)
        unfold L_X11_meet_36
        intro P3 hP3
        have key2 : ∀ j, j ≤ i → ∀ μ', sameV μ μ' → Sh S μ' d i j → P3 (nI d) (nI i) (nI j) μ' := by
          refine downTo i ?_ (fun j hj ihj => ?_)
          · intro μ' l1 l2
            refine hP3 _ _ _ _ ?_
            unfold B_X11_meet_36
            refine ifc (nI_leI (by omega) (by omega)) (fun _ => ?_) (fun z => absurd (Nat.le_refl _) z)
            rw [nI_1]
            refine ih μ' l1 fun c hc => ?_
            obtain ⟨g, a1, a2, a3⟩ := l2 c hc
            refine ⟨g, a1, a2, fun s => (a3 s).trans ⟨?_, ?_⟩⟩
            · rintro ⟨i', j', m1, m2, m3, m4⟩
              exact ⟨i', j', m1, m2, by omega, m4⟩
            · rintro ⟨i', j', m1, m2, m3, m4⟩
              exact ⟨i', j', m1, m2, by omega, m4⟩
          · intro μ' l1 l2
            have hV' := hV.same l1
            have ti := hV'.2.2.2 i hi
            have tj := hV'.2.2.2 j (by omega)
            refine hP3 _ _ _ _ ?_
            unfold B_X11_meet_36
            refine ifc (nI_leI (by omega) (by omega)) (fun g => absurd g (by omega)) (fun _ => ?_)
            refine c_betN hQ hV'.1 hW hi (c_betN hQ hV'.1 hW (by omega) (opt_s (opt_s ?_)))
            rw [nI_1]
            refine c_isNear hV' hW hi (by omega) hd (fun hn => ?_) (fun hn => ?_)
            · rw [if_neg i10, ti.2.2.2.1.2 (toWin3 hn.1)]
              have ri := raceOfS_ok hW hi
              refine c_horseIn hV'.to0 hi ri.1 ?_
              rw [ri.2, oI_some]
              refine c_spot ?_
              rw [ti.1.1, tj.1.1]
              exact c_share hW hi hj hn l2 fun μ2 m1 m2 => ihj μ2 (sameV_tr l1 m1) m2
            · rw [if_pos rfl]
              refine ihj μ' l1 fun c hc => ?_
              obtain ⟨g, a1, a2, a3⟩ := l2 c hc
              refine ⟨g, a1, a2, fun s => (a3 s).trans ⟨?_, ?_⟩⟩
              · rintro ⟨i', j', m1, m2, m3, m4⟩
                exact ⟨i', j', m1, m2, by omega, m4⟩
              · rintro ⟨i', j', m1, m2, m3, m4⟩
                by_cases e : i' = i ∧ j' = j
                · obtain ⟨e1, e2⟩ := e
                  subst e1
                  subst e2
                  exact absurd m4.1 hn
                · exact ⟨i', j', m1, m2, by omega, m4⟩
        exact key2 0 (Nat.zero_le _) μ' k1 k2
    exact key 0 (Nat.zero_le _) μ1 g1 g2
  have key : ∀ k, k ≤ 256 → ∀ μ', sameV μ μ' → (∀ c, c < k → μ'.1 22 c = 0) → P (nI d) (nI k) μ' := by
    refine downTo 256 ?_ (fun k hk ih => ?_)
    · intro μ' g1 g2
      refine hP _ _ _ ?_
      unfold B_X11_meet_2
      rw [if_pos (Int32.le_refl _)]
      refine main μ' g1 fun c hc => ⟨0, by decide, g2 c hc, fun s => ?_⟩
      rw [Nat.zero_testBit]
      refine ⟨fun z => Bool.noConfusion z, fun z => ?_⟩
      obtain ⟨i, j, m1, m2, m3, _⟩ := z
      omega
    · intro μ' g1 g2
      refine hP _ _ _ ?_
      unfold B_X11_meet_2
      rw [nI_clamp (by omega), nI_1]
      refine ifc (nI_leI (by omega) (by omega)) (fun g => absurd g (by omega)) (fun _ => ⟨nI_vin (by omega) (by decide), ?_⟩)
      refine ih _ (sameV_tr g1 (sameV_si (by decide) (by decide))) fun c hc => ?_
      rw [si1]
      by_cases e : c = k
      · rw [if_pos ⟨rfl, e⟩]
      · rw [if_neg (fun z => e z.2)]
        exact g2 c (by omega)
  exact key 0 (Nat.zero_le _) μ (sameV_refl μ) fun c hc => absurd hc (Nat.not_lt_zero _)
theorem sumN_ext {f : Nat → Nat} {n : Nat} : ∀ k, (∀ i, n ≤ i → f i = 0) → sumN (n + k) f = sumN n f := by
  intro k
  induction k with
  | zero => intro _; rfl
  | succ k ih =>
    intro h
    show sumN (n + k) f + f (n + k) = sumN n f
    rw [ih h, h (n + k) (by omega), Nat.add_zero]
theorem near_lt (hW : WF 80 S) {x y r h d : Nat} (hr : r < 3) (hn : nearP S x y r h d) : r < S.1 0 3 ∧ h < S.1 10 r := by
  obtain ⟨i, hi, h1, _⟩ := hn
  have := wf_leg3 (by decide) hW hi hr h1.2.2
  exact ⟨this.1, this.2.1⟩
theorem tog_eq (hW : WF 80 S) {x y d : Nat} : togN S x y d = sumN 8 (fun h => pN (nearP S x y 0 h d)) + sumN 8 (fun h => pN (nearP S x y 1 h d)) + sumN 8 (fun h => pN (nearP S x y 2 h d)) := by
  have h3 := hW.1
  have e : togN S x y d = sumN (S.1 0 3) (fun r => if r < 3 then sumN 8 (fun h => pN (nearP S x y r h d)) else 0) := by
    refine sumN_congr fun r hr => ?_
    have h4 := hW.2.2.1 r hr
    rw [if_pos (by omega)]
    have := sumN_ext (f := fun h => pN (nearP S x y r h d)) (n := S.1 10 r) (8 - S.1 10 r) fun h hh => pN_0 fun z => by
      have := (near_lt hW (by omega) z).2
      omega
    rw [show S.1 10 r + (8 - S.1 10 r) = 8 by omega] at this
    exact this.symm
  have e2 := sumN_ext (f := fun r => if r < 3 then sumN 8 (fun h => pN (nearP S x y r h d)) else 0) (n := S.1 0 3) (3 - S.1 0 3) fun r hr => by
    by_cases g : r < 3
    · rw [if_pos g]
      refine sumN_0 fun h _ => pN_0 fun z => ?_
      have := (near_lt hW g z).1
      omega
    · exact if_neg g
  rw [show S.1 0 3 + (3 - S.1 0 3) = 3 by omega] at e2
  rw [e, ← e2]
  show 0 + (if 0 < 3 then _ else 0) + (if 1 < 3 then _ else 0) + (if 2 < 3 then _ else 0) = _
  rw [if_pos (by decide), if_pos (by decide), if_pos (by decide), Nat.zero_add]
theorem popN_near (hW : WF 80 S) {x y d g r m : Nat} (hr : r < 3) (hxy : x ≠ y) (hg : ∀ s, g.testBit s = true ↔ Mp S d (S.1 0 6) 0 x y s) (hm : ∀ h, h < 8 → m.testBit h = g.testBit (8 * r + h)) : popN m = sumN 8 (fun h => pN (nearP S x y r h d)) := by
  unfold popN
  refine sumN_congr fun h hh => ?_
  have e := (hg (8 * r + h)).trans (Mp_near hW hr hh hxy)
  rw [hm h hh]
  by_cases z : nearP S x y r h d
  · rw [if_pos (e.mpr z), pN_1 z]
  · rw [if_neg (fun w => z (e.mp w)), pN_0 z]
theorem c_areTog (hW : WF 80 S) {x y n d : Nat} (hx : x < 16) (hy : y < 16) (hn : n < 2 ^ 31) (hS : Sh S μ d (S.1 0 6) 0) {K : Int32 → z_M → Prop} (h1 : x ≠ y → n ≤ togN S x y d → K 1 μ) (h0 : ¬ (x ≠ y ∧ n ≤ togN S x y d) → K 0 μ) : C_X11_areTogether kd q (nI x) (nI y) (nI n) μ K := by
  unfold C_X11_areTogether
  refine ifc (nI_eq (by omega) (by omega)) (fun e => h0 fun z => z.1 e) (fun e => ?_)
  obtain ⟨g, a1, a2, a3⟩ := hS (x * 16 + y) (by omega)
  rw [show (x * 16 + y) / 16 = x by omega, show (x * 16 + y) % 16 = y by omega] at a3
  rw [show (16 : Int32) = nI 16 from rfl, nI_mul, nI_add, nI_clamp (by omega), a2]
  refine ⟨nI_vin (by omega) (by decide), ?_⟩
  have eg : g = g % 256 + 256 * (g / 256 % 256 + 256 * (g / 65536)) := by omega
  have p0 := popN_near hW (r := 0) (m := g % 256) (by decide) e a3 fun h hh => by
    rw [show 256 = 2 ^ 8 from rfl, Nat.testBit_mod_two_pow, decide_eq_true hh, Bool.true_and, Nat.mul_zero, Nat.zero_add]
  have p1 := popN_near hW (r := 1) (m := g / 256 % 256) (by decide) e a3 fun h hh => by
    rw [show 256 = 2 ^ 8 from rfl, Nat.testBit_mod_two_pow, decide_eq_true hh, Bool.true_and, Nat.testBit_div_two_pow]
    congr 1
    omega
  have p2 := popN_near hW (r := 2) (m := g / 65536) (by decide) e a3 fun h hh => by
    rw [show 65536 = 2 ^ 16 from rfl, Nat.testBit_div_two_pow]
    congr 1
    omega
  have et := tog_eq hW (x := x) (y := y) (d := d)
  have ht := togN_le hW (x := x) (y := y) (d := d)
  rw [eg]
  refine c_bits (by omega) (by omega) (by omega) ?_
  rw [p0, p1, p2, ← et]
  exact ifc (nI_ltI (by omega) hn) (fun z => h0 fun w => by omega) (fun z => h1 e (by omega))
theorem c_isCompany {a b : Int32} {K : Int32 → z_M → Prop} (h1 : ∀ n d, 1 ≤ n → n ≤ 24 → d < 600 → a = nI n → b = nI d → spanO a b = some (n, d) → K 1 μ) (h0 : spanO a b = none → K 0 μ) : C_X11_isCompany kd q a b μ K := by
  unfold C_X11_isCompany
  have na : (∀ j, 1 ≤ j → j ≤ 24 → a ≠ nI j) → K 0 μ := fun g => h0 (by
    unfold spanO
    cases e1 : ixO a 25 with
    | none => rfl
    | some n =>
      obtain ⟨g1, g2⟩ := ixO_inv e1
      dsimp only
      rw [if_pos (Nat.le_zero.mp (Nat.le_of_not_lt fun h => g n h (by omega) g2))])
  have sw : ∀ {p r : Prop} {A B C : Prop} [Decidable p] [Decidable r], (p ↔ ¬ r) → ((if r then C else A) → (if p then A else C)) := fun hpr h => by
    rename_i p r A B C _ _
    by_cases g : p
    · rw [if_pos g]
      rw [if_neg (hpr.mp g)] at h
      exact h
    · rw [if_neg g]
      rw [if_pos (Classical.not_not.mp fun z => g (hpr.mpr z))] at h
      exact h
  have lo := lo_dec (a := a) (lo := 1) (m := 24) (by decide) (by decide) (A := K 0 μ) (B := K 0 μ) (C := if b < 0 then K 0 μ else if (600 : Int32) ≤ b then K 0 μ else K 1 μ) (fun n n1 n2 ea => at_dec (n := 600) (N := 600) (by decide) (by decide) rfl (fun d hd eb => h1 n d n1 n2 hd ea eb (by
    unfold spanO
    rw [ea, ixO_some (show n < 25 by omega) (by decide)]
    dsimp only
    rw [if_neg (by omega), eb, ixO_some hd (by decide)])) (fun g => h0 (by
      unfold spanO
      rw [ea, ixO_some (show n < 25 by omega) (by decide)]
      dsimp only
      rw [if_neg (by omega), ixO_none g])) (fun g => h0 (by
      unfold spanO
      rw [ea, ixO_some (show n < 25 by omega) (by decide)]
      dsimp only
      rw [if_neg (by omega), ixO_none g]))) na na
  by_cases g1 : a < 1
  · rw [if_pos g1]
    rw [if_pos (show a < nI 1 from g1)] at lo
    exact lo
  · rw [if_neg g1]
    rw [if_neg (show ¬ a < nI 1 from g1)] at lo
    by_cases g2 : a ≤ nI 24
    · rw [if_pos g2] at lo
      rw [if_neg (show ¬ (24 : Int32) < a from Int32.not_lt.mpr g2)]
      exact lo
    · rw [if_neg g2] at lo
      rw [if_pos (show (24 : Int32) < a from Int32.not_le.mp g2)]
      exact lo
theorem c_together (hQ : KQ S kd q) (hV : RepV S μ) (hW : WF 80 S) {a b c d : Int32} {K : Int32 → z_M → Prop} (hK : ∀ μ', sameV μ μ' → K (opTogether S a b c d) μ') : C_X11_together kd q a b c d μ K := by
  have rf := sameV_refl μ
  unfold C_X11_together
  unfold opTogether at hK
  refine c_isBettor (fun x hx e => ?_) (fun g => by rw [if_pos rfl]; rw [ixO_none g] at hK; exact hK μ rf)
  subst e
  rw [ixO_some hx (by decide)] at hK
  dsimp only at hK
  rw [if_neg i10]
  refine c_isBettor (fun y hy e => ?_) (fun g => by rw [if_pos rfl]; rw [ixO_none g] at hK; exact hK μ rf)
  subst e
  rw [ixO_some hy (by decide)] at hK
  dsimp only at hK
  rw [if_neg i10]
  refine ifc (nI_eq (by omega) (by omega)) (fun e => by rw [if_pos e] at hK; exact hK μ rf) (fun e => ?_)
  rw [if_neg e] at hK
  refine c_isCompany (fun n dd n1 n2 hd e1 e2 es => ?_) (fun g => by rw [if_pos rfl]; rw [g] at hK; exact hK μ rf)
  subst e1
  subst e2
  rw [es] at hK
  dsimp only at hK
  rw [if_neg i10]
  refine c_meet hQ hV hW hd fun μ2 g1 g2 => c_areTog hW hx hy (by omega) g2 (fun _ g => ?_) (fun g => ?_)
  · rw [if_neg i10]
    rw [if_pos g] at hK
    exact hK μ2 g1
  · rw [if_pos rfl]
    rw [if_neg fun z => g ⟨e, z⟩] at hK
    exact hK μ2 g1
/-- next to y -/
def adjS (S : z_SS) (n d y z : Nat) : Prop := y ≠ z ∧ n ≤ togN S y z d
theorem c_nextTo (hW : WF 80 S) {y n d : Nat} (hy : y < 16) (hn : n < 2 ^ 31) (hS : Sh S μ d (S.1 0 6) 0) {K : Int32 → z_M → Prop} (hK : ∀ g, g < 65536 → (∀ z, g.testBit z = true ↔ z < 16 ∧ adjS S n d y z) → K (nI g) μ) : C_X11_nextTo kd q (nI y) (nI n) μ K := by
  unfold C_X11_nextTo L_X11_nextTo_5
  intro P hP
  have key : ∀ k, k ≤ 16 → ∀ g, g < 65536 → (∀ z, g.testBit z = true ↔ z < k ∧ adjS S n d y z) → P (nI y) (nI n) (nI g) (nI k) μ := by
    refine downTo 16 ?_ (fun k hk ih => ?_)
    · intro g g1 g2
      refine hP _ _ _ _ _ ?_
      unfold B_X11_nextTo_5
      rw [if_pos (show (16 : Int32) ≤ nI 16 by decide)]
      exact hK g g1 g2
    · intro g g1 g2
      refine hP _ _ _ _ _ ?_
      unfold B_X11_nextTo_5
      refine ifc (nI_leI (a := 16) (by decide) (by omega)) (fun g => absurd g (by omega)) (fun _ => ?_)
      refine c_areTog hW hy hk hn hS (fun e1 e2 => ?_) (fun e1 => ?_)
      · have es : (1 : Int32) <<< (nI k &&& 31) = nI (2 ^ k) := nI_1shl ⟨k, by omega⟩
        rw [if_neg i10, es, nI_or (by omega) (Nat.pow_lt_pow_right (by decide) (by omega)), nI_1]
        refine ih _ (or2_lt g1 hk) fun z => ?_
        rw [bit_or2, Bool.or_eq_true, g2 z, decide_eq_true_eq]
        constructor
        · rintro (h | h)
          · exact ⟨by omega, h.2⟩
          · subst h
            exact ⟨by omega, e1, e2⟩
        · rintro ⟨h1, h2⟩
          by_cases ez : k = z
          · exact Or.inr ez
          · exact Or.inl ⟨by omega, h2⟩
      · rw [if_pos rfl, nI_1]
        refine ih g g1 fun z => (g2 z).trans ⟨fun h => ⟨by omega, h.2⟩, fun h => ⟨?_, h.2⟩⟩
        by_cases ez : z = k
        · rw [ez] at h
          exact absurd h.2 e1
        · omega
  exact key 0 (Nat.zero_le _) 0 (by decide) fun z => ⟨fun h => by rw [Nat.zero_testBit] at h; exact Bool.noConfusion h, fun h => absurd h.1 (Nat.not_lt_zero _)⟩
def cntB (m : Nat) : Nat := sumN 16 (fun j => b2n (m.testBit j))
theorem cnt_up {m m' z : Nat} (h : ∀ j, m.testBit j = true → m'.testBit j = true) (hz : z < 16) (h0 : m.testBit z = false) (h1 : m'.testBit z = true) : cntB m + 1 ≤ cntB m' := by
  have one := sumN_one (n := 16) (k := z) (f := fun j => if j = z then b2n (m.testBit j) else b2n (m'.testBit j)) (g := fun j => b2n (m'.testBit j)) hz fun i _ hi => if_neg hi
  rw [if_pos rfl, h0, h1] at one
  have mono : cntB m ≤ sumN 16 (fun j => if j = z then b2n (m.testBit j) else b2n (m'.testBit j)) := sumN_mono fun j _ => by
    split
    · exact Nat.le_refl _
    · cases e : m.testBit j with
      | false => exact Nat.zero_le _
      | true =>
        rw [h j e]
        exact Nat.le_refl _
  have b1 : b2n true = 1 := rfl
  have b0 : b2n false = 0 := rfl
  have e : cntB m' = sumN 16 (fun j => b2n (m'.testBit j)) := rfl
  omega
theorem cnt_full {m : Nat} (h : 16 ≤ cntB m) {z : Nat} (hz : z < 16) : m.testBit z = true := by
  cases e : m.testBit z with
  | true => rfl
  | false =>
    have one := sumN_one (n := 16) (k := z) (f := fun j => b2n (m.testBit j)) (g := fun _ => 1) hz
    have mono : cntB m ≤ sumN 16 (fun j => if j = z then 0 else 1) := sumN_mono fun j _ => by
      by_cases ej : j = z
      · rw [if_pos ej, ej, e]
        exact Nat.le_refl _
      · rw [if_neg ej]
        unfold b2n
        split <;> omega
    have one := sumN_one (n := 16) (k := z) (f := fun j => if j = z then 0 else 1) (g := fun _ => 1) hz fun i _ hi => if_neg hi
    rw [if_pos rfl] at one
    have e16 : sumN 16 (fun _ => 1) = 16 := rfl
    omega
theorem c_allWith (hW : WF 80 S) {x n d : Nat} (hx : x < 16) (hn : n < 2 ^ 31) (hS : Sh S μ d (S.1 0 6) 0) {K : Int32 → z_M → Prop} (hK : K (nI (purS S n d x)) μ) : C_X11_allWith kd q (nI x) (nI n) μ K := by
  have ex : (1 : Int32) <<< (nI x &&& 31) = nI (2 ^ x) := nI_1shl ⟨x, by omega⟩
  unfold C_X11_allWith L_X11_allWith_7
  rw [ex]
  intro P hP
  have key : ∀ t, t ≤ 16 → 1 ≤ t → ∀ m, m < 65536 → m.testBit x = true → (∀ j, m.testBit j = true → reachP S n d x j) → ((∀ p z, m.testBit p = true → z < 16 → adjS S n d p z → m.testBit z = true) ∨ t ≤ cntB m) → P (nI n) (nI m) (nI t) μ := by
    refine downTo 16 ?_ (fun t ht ih => ?_)
    · intro _ m m1 m2 m3 m4
      refine hP _ _ _ _ ?_
      unfold B_X11_allWith_7
      rw [if_pos (show (16 : Int32) ≤ nI 16 by decide)]
      have cl : ∀ p z, m.testBit p = true → z < 16 → adjS S n d p z → m.testBit z = true := by
        rcases m4 with h | h
        · exact h
        · exact fun p z _ hz _ => cnt_full h hz
      have hp : isPur S n d x m := ⟨m1, fun y => ⟨fun hy => ⟨bit_hi m1 hy, m3 y hy⟩, fun hy => hy.2 (fun j => m.testBit j = true) m2 (fun p z hp _ hz hne ht => cl p z hp hz ⟨hne, ht⟩)⟩⟩
      rw [purS_eq hp] at hK
      exact hK
    · intro t1 m m1 m2 m3 m4
      refine hP _ _ _ _ ?_
      unfold B_X11_allWith_7
      refine ifc (nI_leI (a := 16) (by decide) (by omega)) (fun g => absurd g (by omega)) (fun _ => ?_)
      unfold L_X11_allWith_20
      intro P2 hP2
      have key2 : ∀ y, y ≤ 16 → ∀ m', m' < 65536 → (∀ j, m.testBit j = true → m'.testBit j = true) → (∀ j, m'.testBit j = true → reachP S n d x j) → (∀ p z, p < y → m.testBit p = true → z < 16 → adjS S n d p z → m'.testBit z = true) → ((∀ p z, m.testBit p = true → z < 16 → adjS S n d p z → m.testBit z = true) → ∀ j, m'.testBit j = true → m.testBit j = true) → P2 (nI n) (nI m') (nI t) (nI m) (nI y) μ := by
        refine downTo 16 ?_ (fun y hy ihy => ?_)
        · intro m' k1 k2 k3 k4 k5
          refine hP2 _ _ _ _ _ _ ?_
          unfold B_X11_allWith_20
          rw [if_pos (show (16 : Int32) ≤ nI 16 by decide), nI_1]
          refine ih (by omega) m' k1 (k2 x m2) k3 ?_
          have k4' : ∀ p z, m.testBit p = true → z < 16 → adjS S n d p z → m'.testBit z = true := fun p z hp => k4 p z (bit_hi m1 hp) hp
          by_cases same : ∀ j, m'.testBit j = true → m.testBit j = true
          · refine Or.inl fun p z hp hz ha => k4' p z (same p hp) hz ha
          · refine Or.inr ?_
            obtain ⟨z, hz⟩ := Classical.not_forall.mp same
            have hz2 := Classical.not_imp.mp hz
            have hzf : m.testBit z = false := by simpa using hz2.2
            have up := cnt_up k2 (bit_hi k1 hz2.1) hzf hz2.1
            rcases m4 with h | h
            · exact absurd (k5 h z hz2.1) hz2.2
            · omega
        · intro m' k1 k2 k3 k4 k5
          refine hP2 _ _ _ _ _ _ ?_
          unfold B_X11_allWith_20
          refine ifc (nI_leI (a := 16) (by decide) (by omega)) (fun g => absurd g (by omega)) (fun _ => ?_)
          refine ifc (bit0 (by omega) (by omega)) (fun e => ?_) (fun e => ?_)
          · rw [nI_1]
            refine ihy m' k1 k2 k3 (fun p z hp hpm hz ha => ?_) k5
            by_cases ep : p = y
            · rw [ep, e] at hpm
              exact Bool.noConfusion hpm
            · exact k4 p z (by omega) hpm hz ha
          · have e' : m.testBit y = true := by simpa using e
            refine c_nextTo hW hy hn hS fun g g1 g2 => ?_
            rw [nI_or (by omega) (by omega), nI_1]
            refine ihy (m' ||| g) (Nat.or_lt_two_pow (n := 16) k1 g1) (fun j hj => by rw [Nat.testBit_or, k2 j hj]; rfl) (fun j hj => ?_) (fun p z hp hpm hz ha => ?_) (fun hcl j hj => ?_)
            · rw [Nat.testBit_or] at hj
              rcases or_t hj with h | h
              · exact k3 j h
              · have ha := (g2 j).mp h
                exact fun T hT hcl => hcl y j (m3 y e' T hT hcl) hy ha.1 ha.2.1 ha.2.2
            · rw [Nat.testBit_or]
              by_cases ep : p = y
              · subst ep
                rw [(g2 z).mpr ⟨hz, ha⟩, Bool.or_true]
              · rw [k4 p z (by omega) hpm hz ha]
                rfl
            · rw [Nat.testBit_or] at hj
              rcases or_t hj with h | h
              · exact k5 hcl j h
              · have ha := (g2 j).mp h
                exact hcl y j e' ha.1 ha.2
      exact key2 0 (Nat.zero_le _) m m1 (fun j hj => hj) m3 (fun p z hp => absurd hp (Nat.not_lt_zero _)) (fun _ j hj => hj)
  refine key 1 (by decide) (Nat.le_refl _) (2 ^ x) (Nat.pow_lt_pow_right (by decide) hx) (by rw [Nat.testBit_two_pow]; simp) (fun j hj => ?_) (Or.inr ?_)
  · rw [Nat.testBit_two_pow] at hj
    have := of_decide_eq_true hj
    subst this
    exact fun T hT _ => hT
  · have := cnt_up (m := 0) (m' := 2 ^ x) (z := x) (fun j hj => by rw [Nat.zero_testBit] at hj; exact Bool.noConfusion hj) hx (Nat.zero_testBit _) (by rw [Nat.testBit_two_pow]; simp)
    omega
theorem c_purse (hQ : KQ S kd q) (hV : RepV S μ) (hW : WF 80 S) {a b c : Int32} {K : Int32 → z_M → Prop} (hK : ∀ μ', sameV μ μ' → K (opPurse S a b c) μ') : C_X11_purse kd q a b c μ K := by
  have rf := sameV_refl μ
  unfold C_X11_purse
  unfold opPurse at hK
  refine c_isBettor (fun x hx e => ?_) (fun g => by rw [if_pos rfl]; rw [ixO_none g] at hK; exact hK μ rf)
  subst e
  rw [ixO_some hx (by decide)] at hK
  dsimp only at hK
  rw [if_neg i10]
  refine c_isCompany (fun n dd n1 n2 hd e1 e2 es => ?_) (fun g => by rw [if_pos rfl]; rw [g] at hK; exact hK μ rf)
  subst e1
  subst e2
  rw [es] at hK
  dsimp only at hK
  rw [if_neg i10]
  exact c_meet hQ hV hW hd fun μ2 g1 g2 => c_allWith hW hx (by omega) g2 (hK μ2 g1)
end CTOG
