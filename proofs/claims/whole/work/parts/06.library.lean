def z_max (x y : Int32) : Int32 := if x < y then y else x
def z_min (x y : Int32) : Int32 := if y < x then y else x
def z_abs (x : Int32) : Int32 := if 0 ≤ x then x else 0 - x
def z_minL (x y : Int64) : Int64 := if y < x then y else x
def z_cpy (μ : z_M) (a b sp dp n : Nat) : z_M := (fun c k => if c = b then va_cpy (μ.1 a) (μ.1 b) sp dp n k else μ.1 c k, μ.2)
def z_up {α : Type} (f : Nat → Option α) (a : Nat) (v : α) : Nat → Option α := fun b => if b = a then some v else f b
def z_q0 (q : z_Q) (a : Nat) : z_Q := fun b k => if b = a then none else q b k
def z_m0 (μ : z_M) (a : Nat) : z_M := (fun b k => if b = a then 0 else μ.1 b k, fun b k => if b = a then 0 else μ.2 b k)
section ZL
variable {p : Program} {l : Launch} {e : Env} {R : Room} {s : State} {m : MethodId} {args : Array Value} {below : List Frame} {meth : Method} {c : Code} {cc : ByteArray} {own : String} {nL : Nat} {D : va_G} {A : Nat → Prop} {Q : State → Prop} {mc ms : Nat} {ρ : z_A} {kd : z_K} {q : z_Q} {μ : z_M} {pc : Nat} {lv lv' : List (Nat × Value)} {st : List Value}

theorem zx_mmax (G : z_G p c cc s m args own nL D) {index : Nat} {x y : Int32} (hw : (Cond.methodLink own index Lib.Math.max.name ∈ z_tb ∧ Cond.static Lib.Math.max.name ∈ z_tb) ∧ Cond.initialized "java/lang/Math" ∈ z_tb ∧ Cond.code Lib.Math.max.name Lib.Math.max.code 2 (some .int) ∈ z_tb) (hR : 1 ≤ R.frames ∧ (st.map fun v => v.category).sum + 13 ≤ R.locals ∧ mc ≤ R.cells ∧ ms ≤ R.slots) (hd : decode cc pc = .ok (.invokestatic index, 3)) (kk : z_X p l e R s m args below meth c nL D A Q mc ms ρ kd q μ (pc + 3) lv (.int (z_max x y) :: st)) : z_X p l e R s m args below meth c nL D A Q mc ms ρ kd q μ pc lv (.int y :: .int x :: st) := fun H locs ls hS hl => by
  have h := kk H locs ls hS hl
  exact va_mmax G.1 G.2.1 (by rw [G.2.2.1]; exact hl.1.symm) G.2.2.2.1 (G.2.2.2.2.1 _ hw.1.1) (G.2.2.2.2.1 _ hw.1.2) (G.2.2.2.2.1 _ hw.2.1) (G.2.2.2.2.1 _ hw.2.2) hR.1 (by rw [z_cats]; exact hR.2.1) hR.2.2.1 hR.2.2.2 hd h
theorem zx_mmin (G : z_G p c cc s m args own nL D) {index : Nat} {x y : Int32} (hw : (Cond.methodLink own index Lib.Math.min.name ∈ z_tb ∧ Cond.static Lib.Math.min.name ∈ z_tb) ∧ Cond.initialized "java/lang/Math" ∈ z_tb ∧ Cond.code Lib.Math.min.name Lib.Math.min.code 2 (some .int) ∈ z_tb) (hR : 1 ≤ R.frames ∧ (st.map fun v => v.category).sum + 13 ≤ R.locals ∧ mc ≤ R.cells ∧ ms ≤ R.slots) (hd : decode cc pc = .ok (.invokestatic index, 3)) (kk : z_X p l e R s m args below meth c nL D A Q mc ms ρ kd q μ (pc + 3) lv (.int (z_min x y) :: st)) : z_X p l e R s m args below meth c nL D A Q mc ms ρ kd q μ pc lv (.int y :: .int x :: st) := fun H locs ls hS hl => by
  have h := kk H locs ls hS hl
  exact va_mmin G.1 G.2.1 (by rw [G.2.2.1]; exact hl.1.symm) G.2.2.2.1 (G.2.2.2.2.1 _ hw.1.1) (G.2.2.2.2.1 _ hw.1.2) (G.2.2.2.2.1 _ hw.2.1) (G.2.2.2.2.1 _ hw.2.2) hR.1 (by rw [z_cats]; exact hR.2.1) hR.2.2.1 hR.2.2.2 hd h
theorem zx_mabs (G : z_G p c cc s m args own nL D) {index : Nat} {x : Int32} (hw : (Cond.methodLink own index Lib.Math.abs.name ∈ z_tb ∧ Cond.static Lib.Math.abs.name ∈ z_tb) ∧ Cond.initialized "java/lang/Math" ∈ z_tb ∧ Cond.code Lib.Math.abs.name Lib.Math.abs.code 1 (some .int) ∈ z_tb) (hR : 1 ≤ R.frames ∧ (st.map fun v => v.category).sum + 13 ≤ R.locals ∧ mc ≤ R.cells ∧ ms ≤ R.slots) (hd : decode cc pc = .ok (.invokestatic index, 3)) (kk : z_X p l e R s m args below meth c nL D A Q mc ms ρ kd q μ (pc + 3) lv (.int (z_abs x) :: st)) : z_X p l e R s m args below meth c nL D A Q mc ms ρ kd q μ pc lv (.int x :: st) := fun H locs ls hS hl => by
  have h := kk H locs ls hS hl
  exact va_mabs G.1 G.2.1 (by rw [G.2.2.1]; exact hl.1.symm) G.2.2.2.1 (G.2.2.2.2.1 _ hw.1.1) (G.2.2.2.2.1 _ hw.1.2) (G.2.2.2.2.1 _ hw.2.1) (G.2.2.2.2.1 _ hw.2.2) hR.1 (by rw [z_cats]; exact hR.2.1) hR.2.2.1 hR.2.2.2 hd h
theorem zx_mminL (G : z_G p c cc s m args own nL D) {index : Nat} {x y : Int64} (hw : (Cond.methodLink own index Lib.MathLoose.min_long.x ∈ z_tb ∧ Cond.static Lib.MathLoose.min_long.x ∈ z_tb) ∧ Cond.initialized "java/lang/Math" ∈ z_tb ∧ Cond.code Lib.MathLoose.min_long.x Lib.MathLoose.min_long.code 4 (some .long) ∈ z_tb) (hR : 1 ≤ R.frames ∧ (st.map fun v => v.category).sum + 15 ≤ R.locals ∧ mc ≤ R.cells ∧ ms ≤ R.slots) (hd : decode cc pc = .ok (.invokestatic index, 3)) (kk : z_X p l e R s m args below meth c nL D A Q mc ms ρ kd q μ (pc + 3) lv (.long (z_minL x y) :: st)) : z_X p l e R s m args below meth c nL D A Q mc ms ρ kd q μ pc lv (.long y :: .long x :: st) := fun H locs ls hS hl => by
  have h := kk H locs ls hS hl
  exact va_mmin_long G.1 G.2.1 (by rw [G.2.2.1]; exact hl.1.symm) G.2.2.2.1 (G.2.2.2.2.1 _ hw.1.1) (G.2.2.2.2.1 _ hw.1.2) (G.2.2.2.2.1 _ hw.2.1) (G.2.2.2.2.1 _ hw.2.2) hR.1 (by rw [z_cats]; exact hR.2.1) hR.2.2.1 hR.2.2.2 hd h
theorem z_S.setL {H H' : Heap} {locs locs2 : List Loc} (h : z_S s D A ρ kd q μ H locs) {a : Nat} {k : z_T} {x : Nat × Nat} {q' : z_Q} {μ' : z_M} (hk : kd a = some k) (hx : ρ a = some x) (hz : H'.size = H.size) (ho : ∀ y, y ≠ x.1 → H'[y]? = H[y]?) (hn : z_at D ρ q' μ' H' a k x)
    (h1 : ∀ b j, b ≠ a → μ'.1 b j = μ.1 b j) (h2 : ∀ b j, b ≠ a → μ'.2 b j = μ.2 b j) (h3 : ∀ b j, b ≠ a → q' b j = q b j) (hl : ∀ l ∈ locs2, l ∈ locs ∨ l.base = x.1) : z_S s D A ρ kd q' μ' H' locs2 := by
  have h0 := h.set (i := 0) hk hx hz ho hn h1 h2 h3
  refine ⟨h0.1, h0.2.1, h0.2.2.1, ⟨h0.2.2.2.1.1, h0.2.2.2.1.2.1, fun l0 hl0 => ?_⟩, h0.2.2.2.2⟩
  rcases hl l0 hl0 with g | g
  · exact h0.2.2.2.1.2.2 l0 (List.mem_append_left _ g)
  · rw [g]; exact h.2.2.2.2.1 a x hx
theorem zx_copy (G : z_G p c cc s m args own nL D) {index a b na nb : Nat} {sp dp n : Int32} (hw : (Cond.methodLink own index arraycopyName ∈ z_tb ∧ Cond.native arraycopyName ∈ z_tb) ∧ Cond.static arraycopyName ∈ z_tb ∧ Cond.initialized "java/lang/System" ∈ z_tb) (hR : 1 ≤ R.frames ∧ (st.map fun v => v.category).sum + 18 ≤ R.locals) (ha : kd a = some (.inr (0, na))) (hb : kd b = some (.inr (0, nb))) (h1 : ¬ sp < 0) (h2 : ¬ dp < 0) (h3 : ¬ n < 0) (h4 : sp.toNatClampNeg + n.toNatClampNeg ≤ na) (h5 : dp.toNatClampNeg + n.toNatClampNeg ≤ nb) (hd : decode cc pc = .ok (.invokestatic index, 3)) (kk : z_X p l e R s m args below meth c nL D A Q mc ms ρ kd q (z_cpy μ a b sp.toNatClampNeg dp.toNatClampNeg n.toNatClampNeg) (pc + 3) lv (st)) : z_X p l e R s m args below meth c nL D A Q mc ms ρ kd q μ pc lv (.int n :: .int dp :: .ref b :: .int sp :: .ref a :: st) := fun H locs ls hS hl => by
  have nn : ∀ z : Int32, ¬ z < 0 → z.toInt = (z.toNatClampNeg : Int) := by
    intro z hz
    have hz0 : (0 : Int) ≤ z.toInt := by
      have := Int32.not_lt.mp hz
      simpa using Int32.le_iff_toInt_le.mp this
    show z.toInt = ((z.toInt.toNat : Nat) : Int)
    omega
  obtain ⟨x, hx, hax, hAx, hcx, f1, f2⟩ := z_arr hS ha
  obtain ⟨y, hy, hby, hAy, hcy, g1, g2⟩ := z_arr hS hb
  rw [List.map_cons, List.map_cons, List.map_cons, List.map_cons, List.map_cons, hax, hby]
  intro T hT X
  have hc0 : H[x.1]? = some (arrV x.2 na (fun j => .int (μ.1 a j))) := hcx
  have hc1 : H[y.1]? = some (arrV y.2 nb (fun j => .int (μ.1 b j))) := hcy
  obtain ⟨-, k0, hk0, cm0, hkk0⟩ := f1 na (fun j => .int (μ.1 a j))
  obtain ⟨-, k1, hk1, cm1, hkk1⟩ := g1 nb (fun j => .int (μ.1 b j))
  obtain ⟨vm', X', step⟩ := X.arraycopy G.1 G.2.2.2.1 (G.2.2.2.2.1 _ hw.1.1) (G.2.2.2.2.1 _ hw.1.2) (G.2.2.2.2.1 _ hw.2.1) (G.2.2.2.2.1 _ hw.2.2) (src := x.1) (dst := y.1) (srcPos := sp) (destPos := dp) (n := n) (by rw [hT]; exact hc0) (by rw [hT]; exact hc1)
    (fun _ h => by cases h) (fun _ h => by cases h) (fun h => by cases h) (fun h => by cases h) hk0 hk1 hkk0 hkk1 (by simp [z_aty, refKind]) h1 h2 h3
    (by rw [nn sp h1, nn n h3, arrV_size]; omega)
    (by rw [nn dp h2, nn n h3, arrV_size]; omega)
    (fun vm₁ _ i hi => by
      have e : (arrV x.2 na (fun j => .int (μ.1 a j))).slots.getD (sp.toNatClampNeg + i) .null = .int (μ.1 a (sp.toNatClampNeg + i)) := by
        rw [Array.getD_eq_getD_getElem?, arrV_read _ _ (by omega)]
        rfl
      refine ⟨?_, ?_⟩
      · rw [e]
        rfl
      · rw [e]
        exact trivial)
    (g := F0 m pc ls (.int n :: .int dp :: .ref y.1 :: .int sp :: .ref x.1 :: st.map (z_c ρ))) rfl (by rw [G.2.2.1]; exact hl.1) (rest := st.map (z_c ρ)) rfl (by rw [G.2.1]; exact hd) hR.1 (by
      show 2 * 0 + ((st.map (z_c ρ)).map fun v => v.category).sum + (nativeFrameWords "java/lang/System" "arraycopy" 5 + 11) ≤ _
      rw [z_cats]
      have e : nativeFrameWords "java/lang/System" "arraycopy" 5 = 7 := by decide +kernel
      rw [e]
      omega)
  have e1 : copied (arrV x.2 na (fun j => .int (μ.1 a j))) (arrV y.2 nb (fun j => .int (μ.1 b j))) sp dp n = arrV y.2 nb (fun j => .int (va_cpy (μ.1 a) (μ.1 b) sp.toNatClampNeg dp.toNatClampNeg n.toNatClampNeg j)) := va_copied (fun z => .int z) x.2 y.2 (μ.1 a) (μ.1 b) h4
  rw [e1] at X' step
  have hlt : y.1 < H.size := (Array.getElem?_eq_some_iff.mp hc1).1
  have hheap : ((T.setVm vm').setCell y.1 (arrV y.2 nb (fun j => .int (va_cpy (μ.1 a) (μ.1 b) sp.toNatClampNeg dp.toNatClampNeg n.toNatClampNeg j)))).heap = H.setIfInBounds y.1 (arrV y.2 nb (fun j => .int (va_cpy (μ.1 a) (μ.1 b) sp.toNatClampNeg dp.toNatClampNeg n.toNatClampNeg j))) := by rw [← hT]; rfl
  have hS' := hS.setL (H' := H.setIfInBounds y.1 (arrV y.2 nb (fun j => .int (va_cpy (μ.1 a) (μ.1 b) sp.toNatClampNeg dp.toNatClampNeg n.toNatClampNeg j)))) (q' := q) (μ' := z_cpy μ a b sp.toNatClampNeg dp.toNatClampNeg n.toNatClampNeg) (locs2 := locs ++ List.map (fun (z : Value × Nat) => ({ base := y.1, slot := dp.toNatClampNeg + z.2 } : Loc)) (((arrV x.2 na (fun j => .int (μ.1 a j))).stretch sp.toNatClampNeg n.toNatClampNeg).zipIdx)) hb hy (by simp) (fun z hz => by simp [Array.getElem?_setIfInBounds, Ne.symm hz]) (by
      show (H.setIfInBounds y.1 _)[y.1]? = some (arrV y.2 nb (fun j => .int ((z_cpy μ a b sp.toNatClampNeg dp.toNatClampNeg n.toNatClampNeg).1 b j)))
      simp [Array.getElem?_setIfInBounds, hlt, z_cpy]) (fun d j hd => by simp [z_cpy, hd]) (fun _ _ _ => rfl) (fun _ _ _ => rfl) (fun l0 hl0 => by
      rcases List.mem_append.mp hl0 with h | h
      · exact Or.inl h
      · obtain ⟨z, -, hz⟩ := List.mem_map.mp h
        exact Or.inr (by rw [← hz]))
  obtain ⟨t, a1, b1⟩ := kk _ _ ls hS' hl _ hheap X'
  exact ⟨t, step t a1, b1⟩
theorem z_up_ne {α : Type} {f : Nat → Option α} {a b : Nat} {v : α} (h : b ≠ a) : z_up f a v b = f b := if_neg h
theorem z_up_eq {α : Type} {f : Nat → Option α} {a : Nat} {v : α} : z_up f a v a = some v := if_pos rfl
theorem z_c_up {v : Value} {a : Nat} {x : Nat × Nat} (h : v ≠ .ref a) : z_c (z_up ρ a x) v = z_c ρ v := by
  cases v with
  | ref b =>
    have hb : b ≠ a := fun e => h (by rw [e])
    simp [z_c, z_rc, z_up_ne hb]
  | _ => rfl
theorem z_rc_up {w : Option Nat} {a : Nat} {x : Nat × Nat} (h : w ≠ some a) : z_rc (z_up ρ a x) w = z_rc ρ w := by
  cases w with
  | none => rfl
  | some b =>
    have hb : b ≠ a := fun e => h (by rw [e])
    simp [z_rc, z_up_ne hb]
/-- a new cell -/
theorem z_S.push {H H' : Heap} {locs : List Loc} (h : z_S s D A ρ kd q μ H locs) {a : Nat} {k : z_T} {x : Nat × Nat} (ha : kd a = none) (hq : ∀ c j, kd c ≠ none → q c j ≠ some a) (hx : x.1 = H.size) (hz : H'.size = H.size + 1) (ho : ∀ y, y < H.size → H'[y]? = H[y]?) (hn : z_at D (z_up ρ a x) (z_q0 q a) (z_m0 μ a) H' a k x)
    (har : ∀ t, k = .inr t → ArrOfT s x.2 (z_aty t.1) ∧ va_RA s x.2 (z_aty t.1)) : z_S s D A (z_up ρ a x) (z_up kd a k) (z_q0 q a) (z_m0 μ a) H' locs := by
  obtain ⟨g1, g2, g3, g4, g5, g6⟩ := h
  have hlt : ∀ c y, ρ c = some y → y.1 < H.size := fun c y hy => by
    obtain ⟨kc, hkc⟩ := Option.ne_none_iff_exists'.mp (g2.1 c y hy)
    obtain ⟨y2, h1, h2⟩ := g1 c kc hkc
    rw [hy] at h1
    cases h1
    exact z_at_lt h2
  refine ⟨fun c kc hc => ?_, ⟨fun c y hc => ?_, fun c d y z hc hd hyz => ?_⟩, fun c t y hc hy => ?_, ⟨Nat.le_trans g4.1 (by omega), fun y h1 h2 => (ho y (Nat.lt_of_lt_of_le h1 g4.1)).trans (g4.2.1 y h1 h2), g4.2.2⟩, fun c y hc => ?_, g6⟩
  · by_cases hca : c = a
    · subst hca
      rw [z_up_eq] at hc
      cases hc
      exact ⟨x, z_up_eq, hn⟩
    · rw [z_up_ne hca] at hc
      obtain ⟨y, hy, hat⟩ := g1 c kc hc
      refine ⟨y, by rw [z_up_ne hca]; exact hy, z_at_kept hat (ho _ (hlt c y hy)) (fun j => by simp [z_m0, hca]) (fun j => by simp [z_m0, hca]) (fun j => ?_)⟩
      have e : z_q0 q a c j = q c j := by simp [z_q0, hca]
      rw [e]
      exact z_rc_up (hq c j (by rw [hc]; exact fun h => by cases h))
  · by_cases hca : c = a
    · subst hca
      rw [z_up_eq]
      exact fun h => by cases h
    · rw [z_up_ne hca] at hc ⊢
      exact g2.1 c y hc
  · by_cases hca : c = a
    · by_cases hda : d = a
      · rw [hca, hda]
      · subst hca
        rw [z_up_eq] at hc
        cases hc
        rw [z_up_ne hda] at hd
        have := hlt d z hd
        omega
    · by_cases hda : d = a
      · subst hda
        rw [z_up_eq] at hd
        cases hd
        rw [z_up_ne hca] at hc
        have := hlt c y hc
        omega
      · rw [z_up_ne hca] at hc
        rw [z_up_ne hda] at hd
        exact g2.2 c d y z hc hd hyz
  · by_cases hca : c = a
    · subst hca
      rw [z_up_eq] at hc hy
      cases hy
      exact har t (Option.some.inj hc)
    · rw [z_up_ne hca] at hc hy
      exact g3 c t y hc hy
  · by_cases hca : c = a
    · subst hca
      rw [z_up_eq] at hc
      cases hc
      exact g6 _ (Nat.le_trans g4.1 (by omega))
    · rw [z_up_ne hca] at hc
      exact g5 c y hc
theorem z_map_up {a : Nat} {x : Nat × Nat} (hv : ∀ v ∈ lv.map Prod.snd ++ st, v ≠ .ref a) : lv.map (z_p (z_up ρ a x)) = lv.map (z_p ρ) ∧ st.map (z_c (z_up ρ a x)) = st.map (z_c ρ) :=
  ⟨List.map_congr_left fun w hw => by
    unfold z_p
    rw [z_c_up (hv w.2 (List.mem_append_left _ (List.mem_map_of_mem hw)))], List.map_congr_left fun w hw => z_c_up (hv w (List.mem_append_right _ hw))⟩
theorem z_dflt (ty : FieldType) (h : ty = .int ∨ ty = .boolean ∨ ty = .long ∨ ty.isReference = true) (ρ : z_A) (a j : Nat) (μ : z_M) : defaultValue ty = z_fv ρ (z_q0 q a) (z_m0 μ a) ty a j := by
  rcases h with rfl | rfl | rfl | h
  · simp [z_fv, z_m0, defaultValue]
  · simp [z_fv, z_m0, defaultValue]
  · simp [z_fv, z_m0, defaultValue]
  · cases ty <;> first | (cases h; done) | simp [z_fv, z_q0, z_rc, va_rf, defaultValue]
/-- what 'new' needs of the tables -/
def z_CN (own : String) (index ci N : Nat) : Prop := ∃ (C : String) (T : u_T), z_cl[ci]? = some (C, T, N) ∧ (∀ w ∈ u_ws C T N, w ∈ z_tb) ∧ (∀ k, k < N → parseFieldDescriptor (T k).2.2.1 = some (z_ty ci k)) ∧ (∀ k, k < N → z_ty ci k = .int ∨ z_ty ci k = .boolean ∨ z_ty ci k = .long ∨ (z_ty ci k).isReference = true) ∧ Cond.classLink own index C ∈ z_tb ∧ Cond.instantiable C N ∈ z_tb ∧ Cond.initialized C ∈ z_tb
theorem zx_new (G : z_G p c cc s m args own nL D) (a : Nat) {index ci N : Nat} (hN : z_CN own index ci N) (ha : kd a = none) (hq : ∀ c j, kd c ≠ none → q c j ≠ some a) (hv : ∀ v ∈ lv.map Prod.snd ++ st, v ≠ .ref a) (hcells : mc + 1 ≤ R.cells) (hslots : ms + N ≤ R.slots) (hd : decode cc pc = .ok (.new index, 3)) (kk : ∀ x, z_X p l e R s m args below meth c nL D A Q (mc + 1) (ms + N) (z_up ρ a x) (z_up kd a (.inl ci)) (z_q0 q a) (z_m0 μ a) (pc + 3) lv (.ref a :: st)) : z_X p l e R s m args below meth c nL D A Q mc ms ρ kd q μ pc lv (st) := fun H locs ls hS hl => by
  obtain ⟨C, T, hc, hws, hty, hall, h1, h2, h3⟩ := hN
  obtain ⟨hx, hb, -, hown, hts, hnw, hK⟩ := G
  have hKn := hK.1 ci _ hc
  refine W.newcK hx hb hown (hts _ h1) (hts _ h2) (hts _ h3) rfl hd hcells hslots hKn.2.1 rfl fun H1 kC hkC e1 z1 o1 => ?_
  have hb := (u_born (z_ty ci) hts hws hKn hkC e1 hty)
  have h := kk (H.size, 0) H1 locs ls (hS.push (x := (H.size, 0)) (k := .inl ci) ha hq rfl z1 o1 ⟨_, hc, hb.to fun j hj => z_dflt _ (hall j hj) _ _ _ _⟩ (fun t ht => by cases ht))
  obtain ⟨m1, m2⟩ := z_map_up (ρ := ρ) (x := (H.size, 0)) hv
  rw [m1] at h
  have h9 := h hl
  rw [List.map_cons, m2] at h9
  have e9 : z_c (z_up ρ a (H.size, 0)) (.ref a) = .ref H.size := by simp [z_c, z_rc, z_up_eq, va_rf]
  rw [e9] at h9
  exact h9
theorem zx_newa (G : z_G p c cc s m args own nL D) (a : Nat) {at0 : ArrayType} (t : Nat) {n : Int32} (ht : newarray.typeOf at0 = z_aty t) (ht4 : t < 4) (hw : Cond.arrayClass (newarray.typeOf at0) ∈ z_tb) (ha : kd a = none) (hq : ∀ c j, kd c ≠ none → q c j ≠ some a) (hv : ∀ v ∈ lv.map Prod.snd ++ st, v ≠ .ref a) (hn : ¬ n < 0) {N : Nat} (hN : n.toNatClampNeg = N) (hbytes : N * componentBytes (newarray.typeOf at0) ≤ 536870912) (hcells : mc + 1 ≤ R.cells) (hslots : ms + N ≤ R.slots) (hd : decode cc pc = .ok (.newarray at0, 2)) (kk : ∀ x, z_X p l e R s m args below meth c nL D A Q (mc + 1) (ms + N) (z_up ρ a x) (z_up kd a (.inr (t, N))) (z_q0 q a) (z_m0 μ a) (pc + 2) lv (.ref a :: st)) : z_X p l e R s m args below meth c nL D A Q mc ms ρ kd q μ pc lv (.int n :: st) := fun H locs ls hS hl => by
  refine va_newaK G.1 G.2.1 (G.2.2.2.2.1 _ hw) rfl hd rfl hn hN hbytes hcells hslots rfl fun H1 cA e1 z1 o1 hAr hNm => ?_
  rw [ht] at hAr hNm e1
  have h := kk (H.size, cA) H1 locs ls (hS.push (x := (H.size, cA)) (k := .inr (t, N)) ha hq rfl z1 o1 (by
    refine e1.trans ?_
    match t, ht4 with
    | 0, _ => simp [z_ac, vp_cell, z_aty, defaultValue, z_m0]
    | 1, _ => simp [z_ac, vp_cell, z_aty, defaultValue, z_m0]
    | 2, _ => simp [z_ac, vp_cell, z_aty, defaultValue, z_m0]
    | 3, _ => simp [z_ac, vp_cell, z_aty, defaultValue, z_m0]) (fun t0 h0 => by
    cases h0
    refine ⟨hAr, ?_⟩
    match t, ht4 with
    | 0, _ => exact hNm
    | 1, _ => exact hNm
    | 2, _ => exact hNm
    | 3, _ => exact hNm))
  obtain ⟨m1, m2⟩ := z_map_up (ρ := ρ) (x := (H.size, cA)) hv
  rw [m1] at h
  have h9 := h hl
  rw [List.map_cons, m2] at h9
  have e9 : z_c (z_up ρ a (H.size, cA)) (.ref a) = .ref H.size := by simp [z_c, z_rc, z_up_eq, va_rf]
  rw [e9] at h9
  exact h9
theorem zx_newq (G : z_G p c cc s m args own nL D) (a : Nat) {index : Nat} (t : Nat) {n : Int32} (hcl : Cond.classLink own index (z_name t) ∈ z_tb) (hao : va_AO (z_name t) s) (ha : kd a = none) (hq : ∀ c j, kd c ≠ none → q c j ≠ some a) (hv : ∀ v ∈ lv.map Prod.snd ++ st, v ≠ .ref a) (hn : ¬ n < 0) {N : Nat} (hN : n.toNatClampNeg = N) (hbytes : N * 4 ≤ 536870912) (hcells : mc + 1 ≤ R.cells) (hslots : ms + N ≤ R.slots) (hd : decode cc pc = .ok (.anewarray index, 3)) (kk : ∀ x, z_X p l e R s m args below meth c nL D A Q (mc + 1) (ms + N) (z_up ρ a x) (z_up kd a (.inr (t + 4, N))) (z_q0 q a) (z_m0 μ a) (pc + 3) lv (.ref a :: st)) : z_X p l e R s m args below meth c nL D A Q mc ms ρ kd q μ pc lv (.int n :: st) := fun H locs ls hS hl => by
  subst hN
  refine W.anew G.1 G.2.1 G.2.2.2.1 (G.2.2.2.2.1 _ hcl) (va_AO.use hao) rfl hd rfl hn hbytes hcells hslots fun cA kA comp f1 f2 f3 f4 => ?_
  have h := kk (H.size, cA) (H.push ({ cls := cA, slots := Array.replicate n.toNatClampNeg .null, vm := .none } : Cell)) locs ls (hS.push (x := (H.size, cA)) (k := .inr (t + 4, n.toNatClampNeg)) ha hq rfl (by simp) (fun y hy => by rw [Array.getElem?_push, if_neg (Nat.ne_of_lt hy)]) (by
    show (H.push _)[H.size]? = some (arrV cA n.toNatClampNeg (fun j => va_rf (z_rc _ (z_q0 q a a j))))
    rw [Array.getElem?_push_size, arrV_new]
    simp [z_q0, z_rc, va_rf]) (fun t0 h0 => by
    cases h0
    exact ⟨fun N z => ⟨(fun k h => by cases h), kA, f2, comp, f3⟩, kA, comp, f2, f3, f4, f1⟩))
  obtain ⟨m1, m2⟩ := z_map_up (ρ := ρ) (x := (H.size, cA)) hv
  rw [m1] at h
  have h9 := h hl
  rw [List.map_cons, m2] at h9
  have e9 : z_c (z_up ρ a (H.size, cA)) (.ref a) = .ref H.size := by simp [z_c, z_rc, z_up_eq, va_rf]
  rw [e9] at h9
  exact h9
theorem zx_objInit (G : z_G p c cc s m args own nL D) {a : Nat} {index : Nat} (hw : (Cond.methodLink own index objectInit ∈ z_tb ∧ Cond.instanceMethod objectInit ∈ z_tb) ∧ Cond.code objectInit ⟨#[0xb1]⟩ 1 none ∈ z_tb) {k0 : z_T} (ha : kd a = some k0) (hR : 1 ≤ R.frames ∧ (st.map fun v => v.category).sum + 12 ≤ R.locals) (hd : decode cc pc = .ok (.invokespecial index, 3)) (kk : z_X p l e R s m args below meth c nL D A Q mc ms ρ kd q μ (pc + 3) lv (st)) : z_X p l e R s m args below meth c nL D A Q mc ms ρ kd q μ pc lv (.ref a :: st) := fun H locs ls hS hl => by
  obtain ⟨x, hx, -, hax, -⟩ := hS.obj ha
  rw [List.map_cons, hax]
  refine W.objInit G.1 G.2.1 G.2.2.2.1 (G.2.2.2.2.1 _ hw.1.1) (G.2.2.2.2.1 _ hw.1.2) (G.2.2.2.2.1 _ hw.2) rfl (by rw [G.2.2.1]; exact hl.1) rfl hd hR.1 (by
    show 2 * 0 + ((st.map (z_c ρ)).map fun v => v.category).sum + 12 ≤ _
    rw [z_cats]
    omega) (kk H locs ls hS hl)
end ZL
