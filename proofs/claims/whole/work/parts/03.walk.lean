/-! A state is: which cells there are (kd: a class's number, or an array's kind and length), what references stand in them (q),
what numbers (μ: ints, longs), all by a cell's own number; ρ says at which address a cell lies. Kinds of arrays: 0 int, 1 byte, 2 boolean, 3 long, t + 4 of class t. -/
abbrev z_T : Type := Nat ⊕ (Nat × Nat)
abbrev z_K : Type := Nat → Option z_T
abbrev z_Q : Type := Nat → Nat → Option Nat
abbrev z_M : Type := (Nat → Nat → Int32) × (Nat → Nat → Int64)
abbrev z_A : Type := Nat → Option (Nat × Nat)
def si (μ : z_M) (c k : Nat) (v : Int32) : z_M := (fun a b => if a = c ∧ b = k then v else μ.1 a b, μ.2)
def sl (μ : z_M) (c k : Nat) (v : Int64) : z_M := (μ.1, fun a b => if a = c ∧ b = k then v else μ.2 a b)
def sr (q : z_Q) (c k : Nat) (v : Option Nat) : z_Q := fun a b => if a = c ∧ b = k then v else q a b
def z_rc (ρ : z_A) (r : Option Nat) : Option Nat := r.bind fun a => (ρ a).map Prod.fst
def z_c (ρ : z_A) (v : Value) : Value := match v with
  | .ref a => va_rf (z_rc ρ (some a))
  | v => v
def z_p (ρ : z_A) (q : Nat × Value) : Nat × Value := (q.1, z_c ρ q.2)
theorem z_c_rf (ρ : z_A) (w : Option Nat) : z_c ρ (va_rf w) = va_rf (z_rc ρ w) := by cases w <;> rfl
theorem z_cat (ρ : z_A) (v : Value) : (z_c ρ v).category = v.category := by
  cases v with
  | ref a =>
    show (va_rf (z_rc ρ (some a))).category = _
    cases z_rc ρ (some a) <;> rfl
  | _ => rfl
theorem z_cats (ρ : z_A) (st : List Value) : ((st.map (z_c ρ)).map fun v => v.category).sum = (st.map fun v => v.category).sum := by
  induction st with
  | nil => rfl
  | cons v st ih => simp only [List.map_cons, List.sum_cons, z_cat]; rw [ih]
def z_name (ci : Nat) : String := match z_cl[ci]? with
  | some r => r.1
  | none => ""
def z_aty (t : Nat) : FieldType := match t with
  | 0 => .int
  | 1 => .byte
  | 2 => .boolean
  | 3 => .long
  | t + 4 => .object (z_name t)
def z_fv (ρ : z_A) (q : z_Q) (μ : z_M) (ty : FieldType) (c k : Nat) : Value := match ty with
  | .int => .int (μ.1 c k)
  | .boolean => .int (μ.1 c k)
  | .long => .long (μ.2 c k)
  | _ => va_rf (z_rc ρ (q c k))
def z_ac (ρ : z_A) (q : z_Q) (μ : z_M) (t c n : Nat) : vp_A := match t with
  | 0 => (n, .inl (μ.1 c))
  | 1 => (n, .inl (μ.1 c))
  | 2 => (n, .inl (μ.1 c))
  | 3 => (n, .inr (.inl (μ.2 c)))
  | _ + 4 => (n, .inr (.inr (.inr (.inr (fun j => z_rc ρ (q c j))))))
def z_at (D : va_G) (ρ : z_A) (q : z_Q) (μ : z_M) (H : Heap) (c : Nat) (k : z_T) (x : Nat × Nat) : Prop := match k with
  | .inl ci => ∃ r : vw_C, z_cl[ci]? = some r ∧ t_OB x.1 (D.1 ci) r.2.2 (D.2 ci) H (fun k => z_fv ρ q μ (z_ty ci k) c k)
  | .inr a => H[x.1]? = some (vp_cell x.2 (z_ac ρ q μ a.1 c a.2))
def z_H (D : va_G) (ρ : z_A) (kd : z_K) (q : z_Q) (μ : z_M) (H : Heap) : Prop := ∀ (c : Nat) (k : z_T), kd c = some k → ∃ x, ρ c = some x ∧ z_at D ρ q μ H c k x
def z_W (ρ : z_A) (kd : z_K) : Prop := (∀ c x, ρ c = some x → kd c ≠ none) ∧ ∀ a b x y, ρ a = some x → ρ b = some y → x.1 = y.1 → a = b
def z_AF (U : State) (ρ : z_A) (kd : z_K) : Prop := ∀ (c : Nat) (a : Nat × Nat) (x : Nat × Nat), kd c = some (.inr a) → ρ c = some x → ArrOfT U x.2 (z_aty a.1) ∧ va_RA U x.2 (z_aty a.1)
def z_S (s : State) (D : va_G) (A : Nat → Prop) (ρ : z_A) (kd : z_K) (q : z_Q) (μ : z_M) (H : Heap) (locs : List Loc) : Prop :=
  z_H D ρ kd q μ H ∧ z_W ρ kd ∧ z_AF s ρ kd ∧ va_S A s.heap H locs ∧ (∀ c x, ρ c = some x → A x.1) ∧ ∀ x, s.heap.size ≤ x → A x
theorem z_AF.moved {u U : State} (hvm : u.vm.Alike U.vm) {ρ : z_A} {kd : z_K} (h : z_AF u ρ kd) : z_AF U ρ kd := fun c a x h1 h2 => ⟨arrOfT_moved hvm (h c a x h1 h2).1, (h c a x h1 h2).2.moved hvm⟩
theorem z_at_lt {D : va_G} {ρ : z_A} {q : z_Q} {μ : z_M} {H : Heap} {c : Nat} {k : z_T} {x : Nat × Nat} (h : z_at D ρ q μ H c k x) : x.1 < H.size := by
  cases k with
  | inl ci =>
    obtain ⟨r, -, cell, h1, -⟩ := h
    exact (Array.getElem?_eq_some_iff.mp h1).1
  | inr a => exact (Array.getElem?_eq_some_iff.mp h).1
/-- a cell that nothing has written, of which the state says the same -/
theorem z_at_kept {D : va_G} {ρ ρ' : z_A} {q q' : z_Q} {μ μ' : z_M} {H H' : Heap} {c : Nat} {k : z_T} {x : Nat × Nat} (h : z_at D ρ q μ H c k x) (hH : H'[x.1]? = H[x.1]?) (h1 : ∀ j, μ'.1 c j = μ.1 c j) (h2 : ∀ j, μ'.2 c j = μ.2 c j) (h3 : ∀ j, z_rc ρ' (q' c j) = z_rc ρ (q c j)) : z_at D ρ' q' μ' H' c k x := by
  cases k with
  | inl ci =>
    obtain ⟨r, hr, ho⟩ := h
    refine ⟨r, hr, (ho.kept hH).to fun j _ => ?_⟩
    unfold z_fv
    rw [h1, h2, h3]
  | inr a =>
    obtain ⟨t, n⟩ := a
    refine hH.trans (Eq.trans h ?_)
    have e1 : μ'.1 c = μ.1 c := funext h1
    have e2 : μ'.2 c = μ.2 c := funext h2
    have e3 : (fun j => z_rc ρ' (q' c j)) = fun j => z_rc ρ (q c j) := funext h3
    match t with
    | 0 => simp only [z_ac, e1]
    | 1 => simp only [z_ac, e1]
    | 2 => simp only [z_ac, e1]
    | 3 => simp only [z_ac, e2]
    | t + 4 => simp only [z_ac, e3]
/-- where a cell lies, and what lies there -/
theorem z_S.obj {s : State} {D : va_G} {A : Nat → Prop} {ρ : z_A} {kd : z_K} {q : z_Q} {μ : z_M} {H : Heap} {locs : List Loc} (h : z_S s D A ρ kd q μ H locs) {a : Nat} {k : z_T} (hk : kd a = some k) : ∃ x, ρ a = some x ∧ z_at D ρ q μ H a k x ∧ z_c ρ (.ref a) = .ref x.1 ∧ A x.1 := by
  obtain ⟨x, h1, h2⟩ := h.1 a k hk
  exact ⟨x, h1, h2, by show va_rf (z_rc ρ (some a)) = _; simp [z_rc, h1, va_rf], h.2.2.2.2.1 a x h1⟩
/-- one cell is written -/
theorem z_S.set {s : State} {D : va_G} {A : Nat → Prop} {ρ : z_A} {kd : z_K} {q q' : z_Q} {μ μ' : z_M} {H H' : Heap} {locs : List Loc} (h : z_S s D A ρ kd q μ H locs) {a i : Nat} {k : z_T} {x : Nat × Nat} (hk : kd a = some k) (hx : ρ a = some x) (hz : H'.size = H.size) (ho : ∀ y, y ≠ x.1 → H'[y]? = H[y]?) (hn : z_at D ρ q' μ' H' a k x)
    (h1 : ∀ b j, b ≠ a → μ'.1 b j = μ.1 b j) (h2 : ∀ b j, b ≠ a → μ'.2 b j = μ.2 b j) (h3 : ∀ b j, b ≠ a → q' b j = q b j) : z_S s D A ρ kd q' μ' H' (locs ++ [⟨x.1, i⟩]) := by
  obtain ⟨g1, g2, g3, g4, g5, g6⟩ := h
  refine ⟨fun c kc hc => ?_, g2, g3, g4.put hz ho (g5 a x hx), g5, g6⟩
  obtain ⟨y, hy, hat⟩ := g1 c kc hc
  refine ⟨y, hy, ?_⟩
  by_cases hca : c = a
  · subst hca
    rw [hk] at hc
    cases hc
    rw [hx] at hy
    cases hy
    exact hn
  · exact z_at_kept hat (ho y.1 fun e => hca (g2.2 c a y x hy hx e)) (fun j => h1 c j hca) (fun j => h2 c j hca) (fun j => by rw [h3 c j hca])
/-- the machine at a place of a method: what it asks to come to its end with Q -/
def z_X (p : Program) (l : Launch) (e : Env) (R : Room) (s : State) (m : MethodId) (args : Array Value) (below : List Frame) (meth : Method) (c : Code) (nL : Nat) (D : va_G) (A : Nat → Prop) (Q : State → Prop) (mc ms : Nat) (ρ : z_A) (kd : z_K) (q : z_Q) (μ : z_M) (pc : Nat) (lv : List (Nat × Value)) (st : List Value) : Prop :=
  ∀ (H : Heap) (locs : List Loc) (ls : Array Slot), z_S s D A ρ kd q μ H locs → lv_has ls nL (lv.map (z_p ρ)) → W p l e R s m args below meth c H locs mc ms Q (F0 m pc ls (st.map (z_c ρ)))
/-- what holds all over a method -/
def z_G (p : Program) (c : Code) (cc : ByteArray) (s : State) (m : MethodId) (args : Array Value) (own : String) (nL : Nat) (D : va_G) : Prop :=
  p.tables.exec = Jvm.exec ∧ c.code = cc ∧ c.maxLocals = nL ∧ s.vm.findClass own = some m.cls ∧ (∀ w ∈ z_tb, w.before args s = true) ∧ (∀ w ∈ z_nw, va_Nw w s) ∧ va_K D z_cl [] s
/-- a table of a method's instructions, all decoded -/
theorem z_dec {cc : ByteArray} {T : List (Nat × Instr × Nat)} (h : (T.all fun e => decide (decode cc e.1 = .ok e.2)) = true) (k : Nat) (e : Nat × Instr × Nat) (hk : T[k]? = some e) : decode cc e.1 = .ok e.2 := of_decide_eq_true (List.all_eq_true.mp h e (List.mem_of_getElem? hk))
def z_F1 (i : Nat) (q : Nat × Value) : Bool := !(q.1 == i) && !(q.1 + 1 == i && q.2.category == 2)
def z_F2 (i : Nat) (q : Nat × Value) : Bool := !(q.1 == i) && (!(q.1 == i + 1) && !(q.1 + 1 == i && q.2.category == 2))
theorem z_fil1 (ρ : z_A) (i : Nat) (lv : List (Nat × Value)) : (lv.map (z_p ρ)).filter (fun q => !(q.1 == i) && !(q.1 + 1 == i && q.2.category == 2)) = (lv.filter (z_F1 i)).map (z_p ρ) := by
  rw [List.filter_map]
  congr 2
  funext q
  simp [z_F1, z_p, z_cat]
theorem z_fil2 (ρ : z_A) (i : Nat) (lv : List (Nat × Value)) : (lv.map (z_p ρ)).filter (fun q => !(q.1 == i) && (!(q.1 == i + 1) && !(q.1 + 1 == i && q.2.category == 2))) = (lv.filter (z_F2 i)).map (z_p ρ) := by
  rw [List.filter_map]
  congr 2
  funext q
  simp [z_F2, z_p, z_cat]
theorem z_at1 {ρ : z_A} {ls : Array Slot} {nL : Nat} {lv : List (Nat × Value)} (h : lv_has ls nL (lv.map (z_p ρ))) (j : Nat) {i : Nat} {v : Value} (hj : lv[j]? = some (i, v)) : ls[i]? = some (.val (z_c ρ v)) := h.2.2 (i, z_c ρ v) (List.mem_map.mpr ⟨(i, v), List.mem_of_getElem? hj, rfl⟩)
section ZX
variable {p : Program} {l : Launch} {e : Env} {R : Room} {s : State} {m : MethodId} {args : Array Value} {below : List Frame} {meth : Method} {c : Code} {cc : ByteArray} {own : String} {nL : Nat} {D : va_G} {A : Nat → Prop} {Q : State → Prop} {mc ms : Nat} {ρ : z_A} {kd : z_K} {q : z_Q} {μ : z_M} {pc : Nat} {lv lv' : List (Nat × Value)} {st : List Value}

theorem zx_iconst (G : z_G p c cc s m args own nL D) {n : Int} {v : Int32} (hd : decode cc pc = .ok (.iconst n, 1)) (hv : Int32.ofInt n = v) (k : z_X p l e R s m args below meth c nL D A Q mc ms ρ kd q μ (pc + 1) lv (.int v :: st)) : z_X p l e R s m args below meth c nL D A Q mc ms ρ kd q μ pc lv (st) := fun H locs ls hS hl => lv_iconst G.1 G.2.1 hd hv (k H locs ls hS hl)
theorem zx_bipush (G : z_G p c cc s m args own nL D) {n : Int} {v : Int32} (hd : decode cc pc = .ok (.bipush n, 2)) (hv : (Int8.ofInt n).toInt32 = v) (k : z_X p l e R s m args below meth c nL D A Q mc ms ρ kd q μ (pc + 2) lv (.int v :: st)) : z_X p l e R s m args below meth c nL D A Q mc ms ρ kd q μ pc lv (st) := fun H locs ls hS hl => lv_bipush G.1 G.2.1 hd hv (k H locs ls hS hl)
theorem zx_sipush (G : z_G p c cc s m args own nL D) {n : Int} {v : Int32} (hd : decode cc pc = .ok (.sipush n, 3)) (hv : (Int16.ofInt n).toInt32 = v) (k : z_X p l e R s m args below meth c nL D A Q mc ms ρ kd q μ (pc + 3) lv (.int v :: st)) : z_X p l e R s m args below meth c nL D A Q mc ms ρ kd q μ pc lv (st) := fun H locs ls hS hl => lv_sipush G.1 G.2.1 hd hv (k H locs ls hS hl)
theorem zx_lconst (G : z_G p c cc s m args own nL D) {n : Fin 2} {v : Int64} (hd : decode cc pc = .ok (.lconst n, 1)) (hv : Int64.ofNat (n : Nat) = v) (k : z_X p l e R s m args below meth c nL D A Q mc ms ρ kd q μ (pc + 1) lv (.long v :: st)) : z_X p l e R s m args below meth c nL D A Q mc ms ρ kd q μ pc lv (st) := fun H locs ls hS hl => lv_lconst G.1 G.2.1 hd hv (k H locs ls hS hl)
theorem zx_null (G : z_G p c cc s m args own nL D) (hd : decode cc pc = .ok (.aconst_null, 1)) (k : z_X p l e R s m args below meth c nL D A Q mc ms ρ kd q μ (pc + 1) lv (va_rf none :: st)) : z_X p l e R s m args below meth c nL D A Q mc ms ρ kd q μ pc lv (st) := fun H locs ls hS hl => lv_null G.1 G.2.1 hd (k H locs ls hS hl)
theorem zx_ldc (G : z_G p c cc s m args own nL D) {index : Nat} {v : Int32} (hw : Cond.constant own index v ∈ z_tb) (hd : decode cc pc = .ok (.ldc index, 2)) (k : z_X p l e R s m args below meth c nL D A Q mc ms ρ kd q μ (pc + 2) lv (.int v :: st)) : z_X p l e R s m args below meth c nL D A Q mc ms ρ kd q μ pc lv (st) := fun H locs ls hS hl => lv_ldc G.1 G.2.1 G.2.2.2.1 (G.2.2.2.2.1 _ hw) hd (k H locs ls hS hl)
theorem zx_ldcw (G : z_G p c cc s m args own nL D) {index : Nat} {v : Int32} (hw : Cond.constant own index v ∈ z_tb) (hd : decode cc pc = .ok (.ldc_w index, 3)) (k : z_X p l e R s m args below meth c nL D A Q mc ms ρ kd q μ (pc + 3) lv (.int v :: st)) : z_X p l e R s m args below meth c nL D A Q mc ms ρ kd q μ pc lv (st) := fun H locs ls hS hl => lv_ldcw G.1 G.2.1 G.2.2.2.1 (G.2.2.2.2.1 _ hw) hd (k H locs ls hS hl)
theorem zx_ldc2 (G : z_G p c cc s m args own nL D) {index : Nat} {v : Int64} (hw : Cond.constantLong own index v ∈ z_tb) (hd : decode cc pc = .ok (.ldc2_w index, 3)) (k : z_X p l e R s m args below meth c nL D A Q mc ms ρ kd q μ (pc + 3) lv (.long v :: st)) : z_X p l e R s m args below meth c nL D A Q mc ms ρ kd q μ pc lv (st) := fun H locs ls hS hl => lv_ldc2 G.1 G.2.1 G.2.2.2.1 (G.2.2.2.2.1 _ hw) hd (k H locs ls hS hl)
theorem zx_iload_n (G : z_G p c cc s m args own nL D) {k : Fin 4} {i : Nat} {x : Int32} (j : Nat) (hi : (k : Nat) = i) (hj : lv[j]? = some (i, .int x)) (hd : decode cc pc = .ok (.iload_n k, 1)) (kk : z_X p l e R s m args below meth c nL D A Q mc ms ρ kd q μ (pc + 1) lv (.int x :: st)) : z_X p l e R s m args below meth c nL D A Q mc ms ρ kd q μ pc lv (st) := fun H locs ls hS hl => lv_iload_n G.1 G.2.1 hd hi (z_at1 hl j hj) (kk H locs ls hS hl)
theorem zx_iload (G : z_G p c cc s m args own nL D) {i : Nat} {x : Int32} (j : Nat) (hj : lv[j]? = some (i, .int x)) (hd : decode cc pc = .ok (.iload i, 2)) (kk : z_X p l e R s m args below meth c nL D A Q mc ms ρ kd q μ (pc + 2) lv (.int x :: st)) : z_X p l e R s m args below meth c nL D A Q mc ms ρ kd q μ pc lv (st) := fun H locs ls hS hl => lv_iload G.1 G.2.1 hd (z_at1 hl j hj) (kk H locs ls hS hl)
theorem zx_lload_n (G : z_G p c cc s m args own nL D) {k : Fin 4} {i : Nat} {x : Int64} (j : Nat) (hi : (k : Nat) = i) (hj : lv[j]? = some (i, .long x)) (hd : decode cc pc = .ok (.lload_n k, 1)) (kk : z_X p l e R s m args below meth c nL D A Q mc ms ρ kd q μ (pc + 1) lv (.long x :: st)) : z_X p l e R s m args below meth c nL D A Q mc ms ρ kd q μ pc lv (st) := fun H locs ls hS hl => lv_lload_n G.1 G.2.1 hd hi (z_at1 hl j hj) (kk H locs ls hS hl)
theorem zx_lload (G : z_G p c cc s m args own nL D) {i : Nat} {x : Int64} (j : Nat) (hj : lv[j]? = some (i, .long x)) (hd : decode cc pc = .ok (.lload i, 2)) (kk : z_X p l e R s m args below meth c nL D A Q mc ms ρ kd q μ (pc + 2) lv (.long x :: st)) : z_X p l e R s m args below meth c nL D A Q mc ms ρ kd q μ pc lv (st) := fun H locs ls hS hl => lv_lload G.1 G.2.1 hd (z_at1 hl j hj) (kk H locs ls hS hl)
theorem zx_aload_n (G : z_G p c cc s m args own nL D) {k : Fin 4} {i : Nat} (w : Option Nat) (j : Nat) (hi : (k : Nat) = i) (hj : lv[j]? = some (i, va_rf w)) (hd : decode cc pc = .ok (.aload_n k, 1)) (kk : z_X p l e R s m args below meth c nL D A Q mc ms ρ kd q μ (pc + 1) lv (va_rf w :: st)) : z_X p l e R s m args below meth c nL D A Q mc ms ρ kd q μ pc lv (st) := fun H locs ls hS hl => by
  have h1 := z_at1 hl j hj
  have h2 := kk H locs ls hS hl
  rw [List.map_cons, z_c_rf] at h2
  rw [z_c_rf] at h1
  generalize z_rc ρ w = r at h1 h2
  cases r with
  | none => exact lv_aload_nN G.1 G.2.1 hd hi h1 h2
  | some a => exact lv_aload_n G.1 G.2.1 hd hi h1 h2
theorem zx_aload (G : z_G p c cc s m args own nL D) {i : Nat} (w : Option Nat) (j : Nat) (hj : lv[j]? = some (i, va_rf w)) (hd : decode cc pc = .ok (.aload i, 2)) (kk : z_X p l e R s m args below meth c nL D A Q mc ms ρ kd q μ (pc + 2) lv (va_rf w :: st)) : z_X p l e R s m args below meth c nL D A Q mc ms ρ kd q μ pc lv (st) := fun H locs ls hS hl => by
  have h1 := z_at1 hl j hj
  have h2 := kk H locs ls hS hl
  rw [List.map_cons, z_c_rf] at h2
  rw [z_c_rf] at h1
  generalize z_rc ρ w = r at h1 h2
  cases r with
  | none => exact lv_aloadN G.1 G.2.1 hd h1 h2
  | some a => exact lv_aload G.1 G.2.1 hd h1 h2
theorem zx_istore_n (G : z_G p c cc s m args own nL D) {k : Fin 4} {i : Nat} {x : Int32} (hi : (k : Nat) = i) (hn : i < nL) (hl : (i, Value.int x) :: lv.filter (z_F1 i) = lv') (hd : decode cc pc = .ok (.istore_n k, 1)) (kk : z_X p l e R s m args below meth c nL D A Q mc ms ρ kd q μ (pc + 1) lv' (st)) : z_X p l e R s m args below meth c nL D A Q mc ms ρ kd q μ pc lv (.int x :: st) := fun H locs ls hS hv => lv_istore_n (lv' := lv'.map (z_p ρ)) G.1 G.2.1 hd hi hv hn (by rw [z_fil1, ← hl]; rfl) (fun ls2 hl2 => kk H locs ls2 hS hl2)
theorem zx_istore (G : z_G p c cc s m args own nL D) {i : Nat} {x : Int32} (hn : i < nL) (hl : (i, Value.int x) :: lv.filter (z_F1 i) = lv') (hd : decode cc pc = .ok (.istore i, 2)) (kk : z_X p l e R s m args below meth c nL D A Q mc ms ρ kd q μ (pc + 2) lv' (st)) : z_X p l e R s m args below meth c nL D A Q mc ms ρ kd q μ pc lv (.int x :: st) := fun H locs ls hS hv => lv_istore (lv' := lv'.map (z_p ρ)) G.1 G.2.1 hd hv hn (by rw [z_fil1, ← hl]; rfl) (fun ls2 hl2 => kk H locs ls2 hS hl2)
theorem zx_lstore_n (G : z_G p c cc s m args own nL D) {k : Fin 4} {i : Nat} {x : Int64} (hi : (k : Nat) = i) (hn : i + 1 < nL) (hl : (i, Value.long x) :: lv.filter (z_F2 i) = lv') (hd : decode cc pc = .ok (.lstore_n k, 1)) (kk : z_X p l e R s m args below meth c nL D A Q mc ms ρ kd q μ (pc + 1) lv' (st)) : z_X p l e R s m args below meth c nL D A Q mc ms ρ kd q μ pc lv (.long x :: st) := fun H locs ls hS hv => lv_lstore_n (lv' := lv'.map (z_p ρ)) G.1 G.2.1 hd hi hv hn (by rw [z_fil2, ← hl]; rfl) (fun ls2 hl2 => kk H locs ls2 hS hl2)
theorem zx_lstore (G : z_G p c cc s m args own nL D) {i : Nat} {x : Int64} (hn : i + 1 < nL) (hl : (i, Value.long x) :: lv.filter (z_F2 i) = lv') (hd : decode cc pc = .ok (.lstore i, 2)) (kk : z_X p l e R s m args below meth c nL D A Q mc ms ρ kd q μ (pc + 2) lv' (st)) : z_X p l e R s m args below meth c nL D A Q mc ms ρ kd q μ pc lv (.long x :: st) := fun H locs ls hS hv => lv_lstore (lv' := lv'.map (z_p ρ)) G.1 G.2.1 hd hv hn (by rw [z_fil2, ← hl]; rfl) (fun ls2 hl2 => kk H locs ls2 hS hl2)
theorem zx_astore_n (G : z_G p c cc s m args own nL D) {k : Fin 4} {i : Nat} (w : Option Nat) (hi : (k : Nat) = i) (hn : i < nL) (hl : (i, va_rf w) :: lv.filter (z_F1 i) = lv') (hd : decode cc pc = .ok (.astore_n k, 1)) (kk : z_X p l e R s m args below meth c nL D A Q mc ms ρ kd q μ (pc + 1) lv' (st)) : z_X p l e R s m args below meth c nL D A Q mc ms ρ kd q μ pc lv (va_rf w :: st) := fun H locs ls hS hv => by
  have h1 : lv'.map (z_p ρ) = (i, va_rf (z_rc ρ w)) :: (lv.map (z_p ρ)).filter (fun q => !(q.1 == i) && !(q.1 + 1 == i && q.2.category == 2)) := by
    rw [z_fil1, ← hl, List.map_cons, z_p, z_c_rf]
  have h2 : ∀ ls2, lv_has ls2 nL (lv'.map (z_p ρ)) → _ := fun ls2 hl2 => kk H locs ls2 hS hl2
  rw [List.map_cons, z_c_rf]
  rw [h1] at h2
  generalize z_rc ρ w = r at h2
  cases r with
  | none => exact lv_astore_nN G.1 G.2.1 hd hi hv hn rfl h2
  | some a => exact lv_astore_n G.1 G.2.1 hd hi hv hn rfl h2
theorem zx_astore (G : z_G p c cc s m args own nL D) {i : Nat} (w : Option Nat) (hn : i < nL) (hl : (i, va_rf w) :: lv.filter (z_F1 i) = lv') (hd : decode cc pc = .ok (.astore i, 2)) (kk : z_X p l e R s m args below meth c nL D A Q mc ms ρ kd q μ (pc + 2) lv' (st)) : z_X p l e R s m args below meth c nL D A Q mc ms ρ kd q μ pc lv (va_rf w :: st) := fun H locs ls hS hv => by
  have h1 : lv'.map (z_p ρ) = (i, va_rf (z_rc ρ w)) :: (lv.map (z_p ρ)).filter (fun q => !(q.1 == i) && !(q.1 + 1 == i && q.2.category == 2)) := by
    rw [z_fil1, ← hl, List.map_cons, z_p, z_c_rf]
  have h2 : ∀ ls2, lv_has ls2 nL (lv'.map (z_p ρ)) → _ := fun ls2 hl2 => kk H locs ls2 hS hl2
  rw [List.map_cons, z_c_rf]
  rw [h1] at h2
  generalize z_rc ρ w = r at h2
  cases r with
  | none => exact lv_astoreN G.1 G.2.1 hd hv hn rfl h2
  | some a => exact lv_astore G.1 G.2.1 hd hv hn rfl h2
theorem zx_iinc (G : z_G p c cc s m args own nL D) {i : Nat} {n : Int} {x v : Int32} (j : Nat) (hj : lv[j]? = some (i, .int x)) (hv : x + Int32.ofInt n = v) (hn : i < nL) (hl : (i, Value.int v) :: lv.filter (z_F1 i) = lv') (hd : decode cc pc = .ok (.iinc i n, 3)) (kk : z_X p l e R s m args below meth c nL D A Q mc ms ρ kd q μ (pc + 3) lv' (st)) : z_X p l e R s m args below meth c nL D A Q mc ms ρ kd q μ pc lv (st) := fun H locs ls hS hlv => lv_iinc (k := j) (lv' := lv'.map (z_p ρ)) G.1 G.2.1 hd hlv (by rw [List.getElem?_map, hj]; rfl) hv hn (by rw [z_fil1, ← hl]; rfl) (fun ls2 hl2 => kk H locs ls2 hS hl2)
theorem zx_sub (js : List Nat) (h : lv_pick lv js = lv') (k : z_X p l e R s m args below meth c nL D A Q mc ms ρ kd q μ pc lv' (st)) : z_X p l e R s m args below meth c nL D A Q mc ms ρ kd q μ pc lv (st) := fun H locs ls hS hl => k H locs ls hS (lv_sub hl js (by rw [← h]; unfold lv_pick; rw [List.map_filterMap]; congr 1; funext j; rw [List.getElem?_map]))
theorem zx_iadd (G : z_G p c cc s m args own nL D) {x y : Int32} (hd : decode cc pc = .ok (.iadd, 1)) (k : z_X p l e R s m args below meth c nL D A Q mc ms ρ kd q μ (pc + 1) lv (.int (x + y) :: st)) : z_X p l e R s m args below meth c nL D A Q mc ms ρ kd q μ pc lv (.int y :: .int x :: st) := fun H locs ls hS hl => lv_iadd G.1 G.2.1 hd (k H locs ls hS hl)
theorem zx_isub (G : z_G p c cc s m args own nL D) {x y : Int32} (hd : decode cc pc = .ok (.isub, 1)) (k : z_X p l e R s m args below meth c nL D A Q mc ms ρ kd q μ (pc + 1) lv (.int (x - y) :: st)) : z_X p l e R s m args below meth c nL D A Q mc ms ρ kd q μ pc lv (.int y :: .int x :: st) := fun H locs ls hS hl => lv_isub G.1 G.2.1 hd (k H locs ls hS hl)
theorem zx_imul (G : z_G p c cc s m args own nL D) {x y : Int32} (hd : decode cc pc = .ok (.imul, 1)) (k : z_X p l e R s m args below meth c nL D A Q mc ms ρ kd q μ (pc + 1) lv (.int (x * y) :: st)) : z_X p l e R s m args below meth c nL D A Q mc ms ρ kd q μ pc lv (.int y :: .int x :: st) := fun H locs ls hS hl => lv_imul G.1 G.2.1 hd (k H locs ls hS hl)
theorem zx_iand (G : z_G p c cc s m args own nL D) {x y : Int32} (hd : decode cc pc = .ok (.iand, 1)) (k : z_X p l e R s m args below meth c nL D A Q mc ms ρ kd q μ (pc + 1) lv (.int (x &&& y) :: st)) : z_X p l e R s m args below meth c nL D A Q mc ms ρ kd q μ pc lv (.int y :: .int x :: st) := fun H locs ls hS hl => lv_iand G.1 G.2.1 hd (k H locs ls hS hl)
theorem zx_ior (G : z_G p c cc s m args own nL D) {x y : Int32} (hd : decode cc pc = .ok (.ior, 1)) (k : z_X p l e R s m args below meth c nL D A Q mc ms ρ kd q μ (pc + 1) lv (.int (x ||| y) :: st)) : z_X p l e R s m args below meth c nL D A Q mc ms ρ kd q μ pc lv (.int y :: .int x :: st) := fun H locs ls hS hl => lv_ior G.1 G.2.1 hd (k H locs ls hS hl)
theorem zx_ixor (G : z_G p c cc s m args own nL D) {x y : Int32} (hd : decode cc pc = .ok (.ixor, 1)) (k : z_X p l e R s m args below meth c nL D A Q mc ms ρ kd q μ (pc + 1) lv (.int (x ^^^ y) :: st)) : z_X p l e R s m args below meth c nL D A Q mc ms ρ kd q μ pc lv (.int y :: .int x :: st) := fun H locs ls hS hl => lv_ixor G.1 G.2.1 hd (k H locs ls hS hl)
theorem zx_ishl (G : z_G p c cc s m args own nL D) {x y : Int32} (hd : decode cc pc = .ok (.ishl, 1)) (k : z_X p l e R s m args below meth c nL D A Q mc ms ρ kd q μ (pc + 1) lv (.int (x <<< (y &&& 31)) :: st)) : z_X p l e R s m args below meth c nL D A Q mc ms ρ kd q μ pc lv (.int y :: .int x :: st) := fun H locs ls hS hl => lv_ishl G.1 G.2.1 hd (k H locs ls hS hl)
theorem zx_ishr (G : z_G p c cc s m args own nL D) {x y : Int32} (hd : decode cc pc = .ok (.ishr, 1)) (k : z_X p l e R s m args below meth c nL D A Q mc ms ρ kd q μ (pc + 1) lv (.int (x >>> (y &&& 31)) :: st)) : z_X p l e R s m args below meth c nL D A Q mc ms ρ kd q μ pc lv (.int y :: .int x :: st) := fun H locs ls hS hl => lv_ishr G.1 G.2.1 hd (k H locs ls hS hl)
theorem zx_ladd (G : z_G p c cc s m args own nL D) {x y : Int64} (hd : decode cc pc = .ok (.ladd, 1)) (k : z_X p l e R s m args below meth c nL D A Q mc ms ρ kd q μ (pc + 1) lv (.long (x + y) :: st)) : z_X p l e R s m args below meth c nL D A Q mc ms ρ kd q μ pc lv (.long y :: .long x :: st) := fun H locs ls hS hl => lv_ladd G.1 G.2.1 hd (k H locs ls hS hl)
theorem zx_lsub (G : z_G p c cc s m args own nL D) {x y : Int64} (hd : decode cc pc = .ok (.lsub, 1)) (k : z_X p l e R s m args below meth c nL D A Q mc ms ρ kd q μ (pc + 1) lv (.long (x - y) :: st)) : z_X p l e R s m args below meth c nL D A Q mc ms ρ kd q μ pc lv (.long y :: .long x :: st) := fun H locs ls hS hl => lv_lsub G.1 G.2.1 hd (k H locs ls hS hl)
theorem zx_lmul (G : z_G p c cc s m args own nL D) {x y : Int64} (hd : decode cc pc = .ok (.lmul, 1)) (k : z_X p l e R s m args below meth c nL D A Q mc ms ρ kd q μ (pc + 1) lv (.long (x * y) :: st)) : z_X p l e R s m args below meth c nL D A Q mc ms ρ kd q μ pc lv (.long y :: .long x :: st) := fun H locs ls hS hl => lv_lmul G.1 G.2.1 hd (k H locs ls hS hl)
theorem zx_idiv (G : z_G p c cc s m args own nL D) {x y : Int32} (hne : ¬ y = 0) (hd : decode cc pc = .ok (.idiv, 1)) (k : z_X p l e R s m args below meth c nL D A Q mc ms ρ kd q μ (pc + 1) lv (.int (x / y) :: st)) : z_X p l e R s m args below meth c nL D A Q mc ms ρ kd q μ pc lv (.int y :: .int x :: st) := fun H locs ls hS hl => lv_idiv G.1 G.2.1 hd hne (k H locs ls hS hl)
theorem zx_irem (G : z_G p c cc s m args own nL D) {x y : Int32} (hne : ¬ y = 0) (hd : decode cc pc = .ok (.irem, 1)) (k : z_X p l e R s m args below meth c nL D A Q mc ms ρ kd q μ (pc + 1) lv (.int (x - x / y * y) :: st)) : z_X p l e R s m args below meth c nL D A Q mc ms ρ kd q μ pc lv (.int y :: .int x :: st) := fun H locs ls hS hl => lv_irem G.1 G.2.1 hd hne (k H locs ls hS hl)
theorem zx_ldiv (G : z_G p c cc s m args own nL D) {x y : Int64} (hne : ¬ y = 0) (hd : decode cc pc = .ok (.ldiv, 1)) (k : z_X p l e R s m args below meth c nL D A Q mc ms ρ kd q μ (pc + 1) lv (.long (x / y) :: st)) : z_X p l e R s m args below meth c nL D A Q mc ms ρ kd q μ pc lv (.long y :: .long x :: st) := fun H locs ls hS hl => lv_ldiv G.1 G.2.1 hd hne (k H locs ls hS hl)
theorem zx_lrem (G : z_G p c cc s m args own nL D) {x y : Int64} (hne : ¬ y = 0) (hd : decode cc pc = .ok (.lrem, 1)) (k : z_X p l e R s m args below meth c nL D A Q mc ms ρ kd q μ (pc + 1) lv (.long (x - x / y * y) :: st)) : z_X p l e R s m args below meth c nL D A Q mc ms ρ kd q μ pc lv (.long y :: .long x :: st) := fun H locs ls hS hl => lv_lrem G.1 G.2.1 hd hne (k H locs ls hS hl)
theorem zx_ineg (G : z_G p c cc s m args own nL D) {x : Int32} (hd : decode cc pc = .ok (.ineg, 1)) (k : z_X p l e R s m args below meth c nL D A Q mc ms ρ kd q μ (pc + 1) lv (.int (0 - x) :: st)) : z_X p l e R s m args below meth c nL D A Q mc ms ρ kd q μ pc lv (.int x :: st) := fun H locs ls hS hl => lv_ineg G.1 G.2.1 hd (k H locs ls hS hl)
theorem zx_iushr (G : z_G p c cc s m args own nL D) {x y : Int32} (hd : decode cc pc = .ok (.iushr, 1)) (k : z_X p l e R s m args below meth c nL D A Q mc ms ρ kd q μ (pc + 1) lv (.int ((x.toUInt32 >>> (y.toUInt32 &&& Int32.toUInt32 31)).toInt32) :: st)) : z_X p l e R s m args below meth c nL D A Q mc ms ρ kd q μ pc lv (.int y :: .int x :: st) := fun H locs ls hS hl => lv_iushr G.1 G.2.1 hd rfl (k H locs ls hS hl)
theorem zx_i2l (G : z_G p c cc s m args own nL D) {x : Int32} (hd : decode cc pc = .ok (.i2l, 1)) (k : z_X p l e R s m args below meth c nL D A Q mc ms ρ kd q μ (pc + 1) lv (.long (x.toInt64) :: st)) : z_X p l e R s m args below meth c nL D A Q mc ms ρ kd q μ pc lv (.int x :: st) := fun H locs ls hS hl => lv_i2l G.1 G.2.1 hd rfl (k H locs ls hS hl)
theorem zx_l2i (G : z_G p c cc s m args own nL D) {x : Int64} (hd : decode cc pc = .ok (.l2i, 1)) (k : z_X p l e R s m args below meth c nL D A Q mc ms ρ kd q μ (pc + 1) lv (.int (x.toInt32) :: st)) : z_X p l e R s m args below meth c nL D A Q mc ms ρ kd q μ pc lv (.long x :: st) := fun H locs ls hS hl => lv_l2i G.1 G.2.1 hd rfl (k H locs ls hS hl)
theorem zx_i2b (G : z_G p c cc s m args own nL D) {x : Int32} (hd : decode cc pc = .ok (.i2b, 1)) (k : z_X p l e R s m args below meth c nL D A Q mc ms ρ kd q μ (pc + 1) lv (.int (x.toInt8.toInt32) :: st)) : z_X p l e R s m args below meth c nL D A Q mc ms ρ kd q μ pc lv (.int x :: st) := fun H locs ls hS hl => lv_i2b G.1 G.2.1 hd rfl (k H locs ls hS hl)
theorem zx_dup (G : z_G p c cc s m args own nL D) {v : Value} (hv : v.category = 1) (hd : decode cc pc = .ok (.dup, 1)) (k : z_X p l e R s m args below meth c nL D A Q mc ms ρ kd q μ (pc + 1) lv (v :: v :: st)) : z_X p l e R s m args below meth c nL D A Q mc ms ρ kd q μ pc lv (v :: st) := fun H locs ls hS hl => lv_dup G.1 G.2.1 hd (by rw [z_cat]; exact hv) (k H locs ls hS hl)
theorem zx_pop (G : z_G p c cc s m args own nL D) {v : Value} (hv : v.category = 1) (hd : decode cc pc = .ok (.pop, 1)) (k : z_X p l e R s m args below meth c nL D A Q mc ms ρ kd q μ (pc + 1) lv (st)) : z_X p l e R s m args below meth c nL D A Q mc ms ρ kd q μ pc lv (v :: st) := fun H locs ls hS hl => lv_pop G.1 G.2.1 hd (by rw [z_cat]; exact hv) (k H locs ls hS hl)
theorem zx_dup2 (G : z_G p c cc s m args own nL D) {v w : Value} (hv : v.category = 1) (hw : w.category = 1) (hd : decode cc pc = .ok (.dup2, 1)) (k : z_X p l e R s m args below meth c nL D A Q mc ms ρ kd q μ (pc + 1) lv (v :: w :: v :: w :: st)) : z_X p l e R s m args below meth c nL D A Q mc ms ρ kd q μ pc lv (v :: w :: st) := fun H locs ls hS hl => lv_dup2_11 G.1 G.2.1 hd (by rw [z_cat]; exact hv) (by rw [z_cat]; exact hw) (k H locs ls hS hl)
theorem zx_dup2_2 (G : z_G p c cc s m args own nL D) {v : Value} (hv : v.category = 2) (hd : decode cc pc = .ok (.dup2, 1)) (k : z_X p l e R s m args below meth c nL D A Q mc ms ρ kd q μ (pc + 1) lv (v :: v :: st)) : z_X p l e R s m args below meth c nL D A Q mc ms ρ kd q μ pc lv (v :: st) := fun H locs ls hS hl => lv_dup2_2 G.1 G.2.1 hd (by rw [z_cat]; exact hv) (k H locs ls hS hl)
theorem zx_pop2_2 (G : z_G p c cc s m args own nL D) {v : Value} (hv : v.category = 2) (hd : decode cc pc = .ok (.pop2, 1)) (k : z_X p l e R s m args below meth c nL D A Q mc ms ρ kd q μ (pc + 1) lv (st)) : z_X p l e R s m args below meth c nL D A Q mc ms ρ kd q μ pc lv (v :: st) := fun H locs ls hS hl => lv_pop2_2 G.1 G.2.1 hd (by rw [z_cat]; exact hv) (k H locs ls hS hl)
theorem zx_if_eq (G : z_G p c cc s m args own nL D) {x : Int32} {off : Int} {tgt : Nat} (ht : (pc : Int) + off = (tgt : Int)) (hd : decode cc pc = .ok (.ifCond .eq off, 3)) (kt : x = 0 → z_X p l e R s m args below meth c nL D A Q mc ms ρ kd q μ tgt lv (st)) (kf : ¬ x = 0 → z_X p l e R s m args below meth c nL D A Q mc ms ρ kd q μ (pc + 3) lv (st)) : z_X p l e R s m args below meth c nL D A Q mc ms ρ kd q μ pc lv (.int x :: st) := fun H locs ls hS hl => lv_if_eq G.1 G.2.1 hd ht (fun h => kt h H locs ls hS hl) (fun h => kf h H locs ls hS hl)
theorem zx_if_ne (G : z_G p c cc s m args own nL D) {x : Int32} {off : Int} {tgt : Nat} (ht : (pc : Int) + off = (tgt : Int)) (hd : decode cc pc = .ok (.ifCond .ne off, 3)) (kt : ¬ x = 0 → z_X p l e R s m args below meth c nL D A Q mc ms ρ kd q μ tgt lv (st)) (kf : x = 0 → z_X p l e R s m args below meth c nL D A Q mc ms ρ kd q μ (pc + 3) lv (st)) : z_X p l e R s m args below meth c nL D A Q mc ms ρ kd q μ pc lv (.int x :: st) := fun H locs ls hS hl => lv_if_ne G.1 G.2.1 hd ht (fun h => kt h H locs ls hS hl) (fun h => kf h H locs ls hS hl)
theorem zx_if_lt (G : z_G p c cc s m args own nL D) {x : Int32} {off : Int} {tgt : Nat} (ht : (pc : Int) + off = (tgt : Int)) (hd : decode cc pc = .ok (.ifCond .lt off, 3)) (kt : x < 0 → z_X p l e R s m args below meth c nL D A Q mc ms ρ kd q μ tgt lv (st)) (kf : ¬ x < 0 → z_X p l e R s m args below meth c nL D A Q mc ms ρ kd q μ (pc + 3) lv (st)) : z_X p l e R s m args below meth c nL D A Q mc ms ρ kd q μ pc lv (.int x :: st) := fun H locs ls hS hl => lv_if_lt G.1 G.2.1 hd ht (fun h => kt h H locs ls hS hl) (fun h => kf h H locs ls hS hl)
theorem zx_if_ge (G : z_G p c cc s m args own nL D) {x : Int32} {off : Int} {tgt : Nat} (ht : (pc : Int) + off = (tgt : Int)) (hd : decode cc pc = .ok (.ifCond .ge off, 3)) (kt : 0 ≤ x → z_X p l e R s m args below meth c nL D A Q mc ms ρ kd q μ tgt lv (st)) (kf : ¬ 0 ≤ x → z_X p l e R s m args below meth c nL D A Q mc ms ρ kd q μ (pc + 3) lv (st)) : z_X p l e R s m args below meth c nL D A Q mc ms ρ kd q μ pc lv (.int x :: st) := fun H locs ls hS hl => lv_if_ge G.1 G.2.1 hd ht (fun h => kt h H locs ls hS hl) (fun h => kf h H locs ls hS hl)
theorem zx_if_gt (G : z_G p c cc s m args own nL D) {x : Int32} {off : Int} {tgt : Nat} (ht : (pc : Int) + off = (tgt : Int)) (hd : decode cc pc = .ok (.ifCond .gt off, 3)) (kt : 0 < x → z_X p l e R s m args below meth c nL D A Q mc ms ρ kd q μ tgt lv (st)) (kf : ¬ 0 < x → z_X p l e R s m args below meth c nL D A Q mc ms ρ kd q μ (pc + 3) lv (st)) : z_X p l e R s m args below meth c nL D A Q mc ms ρ kd q μ pc lv (.int x :: st) := fun H locs ls hS hl => lv_if_gt G.1 G.2.1 hd ht (fun h => kt h H locs ls hS hl) (fun h => kf h H locs ls hS hl)
theorem zx_if_le (G : z_G p c cc s m args own nL D) {x : Int32} {off : Int} {tgt : Nat} (ht : (pc : Int) + off = (tgt : Int)) (hd : decode cc pc = .ok (.ifCond .le off, 3)) (kt : x ≤ 0 → z_X p l e R s m args below meth c nL D A Q mc ms ρ kd q μ tgt lv (st)) (kf : ¬ x ≤ 0 → z_X p l e R s m args below meth c nL D A Q mc ms ρ kd q μ (pc + 3) lv (st)) : z_X p l e R s m args below meth c nL D A Q mc ms ρ kd q μ pc lv (.int x :: st) := fun H locs ls hS hl => lv_if_le G.1 G.2.1 hd ht (fun h => kt h H locs ls hS hl) (fun h => kf h H locs ls hS hl)
theorem zx_icmp_eq (G : z_G p c cc s m args own nL D) {x y : Int32} {off : Int} {tgt : Nat} (ht : (pc : Int) + off = (tgt : Int)) (hd : decode cc pc = .ok (.if_icmp .eq off, 3)) (kt : x = y → z_X p l e R s m args below meth c nL D A Q mc ms ρ kd q μ tgt lv (st)) (kf : ¬ x = y → z_X p l e R s m args below meth c nL D A Q mc ms ρ kd q μ (pc + 3) lv (st)) : z_X p l e R s m args below meth c nL D A Q mc ms ρ kd q μ pc lv (.int y :: .int x :: st) := fun H locs ls hS hl => lv_icmp_eq G.1 G.2.1 hd ht (fun h => kt h H locs ls hS hl) (fun h => kf h H locs ls hS hl)
theorem zx_icmp_ne (G : z_G p c cc s m args own nL D) {x y : Int32} {off : Int} {tgt : Nat} (ht : (pc : Int) + off = (tgt : Int)) (hd : decode cc pc = .ok (.if_icmp .ne off, 3)) (kt : ¬ x = y → z_X p l e R s m args below meth c nL D A Q mc ms ρ kd q μ tgt lv (st)) (kf : x = y → z_X p l e R s m args below meth c nL D A Q mc ms ρ kd q μ (pc + 3) lv (st)) : z_X p l e R s m args below meth c nL D A Q mc ms ρ kd q μ pc lv (.int y :: .int x :: st) := fun H locs ls hS hl => lv_icmp_ne G.1 G.2.1 hd ht (fun h => kt h H locs ls hS hl) (fun h => kf h H locs ls hS hl)
theorem zx_icmp_lt (G : z_G p c cc s m args own nL D) {x y : Int32} {off : Int} {tgt : Nat} (ht : (pc : Int) + off = (tgt : Int)) (hd : decode cc pc = .ok (.if_icmp .lt off, 3)) (kt : x < y → z_X p l e R s m args below meth c nL D A Q mc ms ρ kd q μ tgt lv (st)) (kf : ¬ x < y → z_X p l e R s m args below meth c nL D A Q mc ms ρ kd q μ (pc + 3) lv (st)) : z_X p l e R s m args below meth c nL D A Q mc ms ρ kd q μ pc lv (.int y :: .int x :: st) := fun H locs ls hS hl => lv_icmp_lt G.1 G.2.1 hd ht (fun h => kt h H locs ls hS hl) (fun h => kf h H locs ls hS hl)
theorem zx_icmp_ge (G : z_G p c cc s m args own nL D) {x y : Int32} {off : Int} {tgt : Nat} (ht : (pc : Int) + off = (tgt : Int)) (hd : decode cc pc = .ok (.if_icmp .ge off, 3)) (kt : y ≤ x → z_X p l e R s m args below meth c nL D A Q mc ms ρ kd q μ tgt lv (st)) (kf : ¬ y ≤ x → z_X p l e R s m args below meth c nL D A Q mc ms ρ kd q μ (pc + 3) lv (st)) : z_X p l e R s m args below meth c nL D A Q mc ms ρ kd q μ pc lv (.int y :: .int x :: st) := fun H locs ls hS hl => lv_icmp_ge G.1 G.2.1 hd ht (fun h => kt h H locs ls hS hl) (fun h => kf h H locs ls hS hl)
theorem zx_icmp_gt (G : z_G p c cc s m args own nL D) {x y : Int32} {off : Int} {tgt : Nat} (ht : (pc : Int) + off = (tgt : Int)) (hd : decode cc pc = .ok (.if_icmp .gt off, 3)) (kt : y < x → z_X p l e R s m args below meth c nL D A Q mc ms ρ kd q μ tgt lv (st)) (kf : ¬ y < x → z_X p l e R s m args below meth c nL D A Q mc ms ρ kd q μ (pc + 3) lv (st)) : z_X p l e R s m args below meth c nL D A Q mc ms ρ kd q μ pc lv (.int y :: .int x :: st) := fun H locs ls hS hl => lv_icmp_gt G.1 G.2.1 hd ht (fun h => kt h H locs ls hS hl) (fun h => kf h H locs ls hS hl)
theorem zx_icmp_le (G : z_G p c cc s m args own nL D) {x y : Int32} {off : Int} {tgt : Nat} (ht : (pc : Int) + off = (tgt : Int)) (hd : decode cc pc = .ok (.if_icmp .le off, 3)) (kt : x ≤ y → z_X p l e R s m args below meth c nL D A Q mc ms ρ kd q μ tgt lv (st)) (kf : ¬ x ≤ y → z_X p l e R s m args below meth c nL D A Q mc ms ρ kd q μ (pc + 3) lv (st)) : z_X p l e R s m args below meth c nL D A Q mc ms ρ kd q μ pc lv (.int y :: .int x :: st) := fun H locs ls hS hl => lv_icmp_le G.1 G.2.1 hd ht (fun h => kt h H locs ls hS hl) (fun h => kf h H locs ls hS hl)
theorem zx_lcmp_eq (G : z_G p c cc s m args own nL D) {x y : Int64} {off : Int} {tgt : Nat} (ht : ((pc + 1 : Nat) : Int) + off = (tgt : Int)) (hd0 : decode cc pc = .ok (.lcmp, 1)) (hd : decode cc (pc + 1) = .ok (.ifCond .eq off, 3)) (kt : x = y → z_X p l e R s m args below meth c nL D A Q mc ms ρ kd q μ tgt lv (st)) (kf : ¬ x = y → z_X p l e R s m args below meth c nL D A Q mc ms ρ kd q μ (pc + 1 + 3) lv (st)) : z_X p l e R s m args below meth c nL D A Q mc ms ρ kd q μ pc lv (.long y :: .long x :: st) := fun H locs ls hS hl => W.lcmp G.1 G.2.1 hd0 (lv_if_eq G.1 G.2.1 hd ht (fun h => kt ((lg_cmp_eq x y).mp h) H locs ls hS hl) (fun h => kf (fun h2 => h ((lg_cmp_eq x y).mpr h2)) H locs ls hS hl))
theorem zx_lcmp_ne (G : z_G p c cc s m args own nL D) {x y : Int64} {off : Int} {tgt : Nat} (ht : ((pc + 1 : Nat) : Int) + off = (tgt : Int)) (hd0 : decode cc pc = .ok (.lcmp, 1)) (hd : decode cc (pc + 1) = .ok (.ifCond .ne off, 3)) (kt : ¬ x = y → z_X p l e R s m args below meth c nL D A Q mc ms ρ kd q μ tgt lv (st)) (kf : x = y → z_X p l e R s m args below meth c nL D A Q mc ms ρ kd q μ (pc + 1 + 3) lv (st)) : z_X p l e R s m args below meth c nL D A Q mc ms ρ kd q μ pc lv (.long y :: .long x :: st) := fun H locs ls hS hl => W.lcmp G.1 G.2.1 hd0 (lv_if_ne G.1 G.2.1 hd ht (fun h => kt (fun h2 => h ((lg_cmp_eq x y).mpr h2)) H locs ls hS hl) (fun h => kf ((lg_cmp_eq x y).mp h) H locs ls hS hl))
theorem zx_lcmp_lt (G : z_G p c cc s m args own nL D) {x y : Int64} {off : Int} {tgt : Nat} (ht : ((pc + 1 : Nat) : Int) + off = (tgt : Int)) (hd0 : decode cc pc = .ok (.lcmp, 1)) (hd : decode cc (pc + 1) = .ok (.ifCond .lt off, 3)) (kt : x < y → z_X p l e R s m args below meth c nL D A Q mc ms ρ kd q μ tgt lv (st)) (kf : ¬ x < y → z_X p l e R s m args below meth c nL D A Q mc ms ρ kd q μ (pc + 1 + 3) lv (st)) : z_X p l e R s m args below meth c nL D A Q mc ms ρ kd q μ pc lv (.long y :: .long x :: st) := fun H locs ls hS hl => W.lcmp G.1 G.2.1 hd0 (lv_if_lt G.1 G.2.1 hd ht (fun h => kt ((lg_cmp_lt x y).mp h) H locs ls hS hl) (fun h => kf (fun h2 => h ((lg_cmp_lt x y).mpr h2)) H locs ls hS hl))
theorem zx_lcmp_ge (G : z_G p c cc s m args own nL D) {x y : Int64} {off : Int} {tgt : Nat} (ht : ((pc + 1 : Nat) : Int) + off = (tgt : Int)) (hd0 : decode cc pc = .ok (.lcmp, 1)) (hd : decode cc (pc + 1) = .ok (.ifCond .ge off, 3)) (kt : y ≤ x → z_X p l e R s m args below meth c nL D A Q mc ms ρ kd q μ tgt lv (st)) (kf : ¬ y ≤ x → z_X p l e R s m args below meth c nL D A Q mc ms ρ kd q μ (pc + 1 + 3) lv (st)) : z_X p l e R s m args below meth c nL D A Q mc ms ρ kd q μ pc lv (.long y :: .long x :: st) := fun H locs ls hS hl => W.lcmp G.1 G.2.1 hd0 (lv_if_ge G.1 G.2.1 hd ht (fun h => kt ((lg_cmp_ge x y).mp h) H locs ls hS hl) (fun h => kf (fun h2 => h ((lg_cmp_ge x y).mpr h2)) H locs ls hS hl))
theorem zx_lcmp_gt (G : z_G p c cc s m args own nL D) {x y : Int64} {off : Int} {tgt : Nat} (ht : ((pc + 1 : Nat) : Int) + off = (tgt : Int)) (hd0 : decode cc pc = .ok (.lcmp, 1)) (hd : decode cc (pc + 1) = .ok (.ifCond .gt off, 3)) (kt : y < x → z_X p l e R s m args below meth c nL D A Q mc ms ρ kd q μ tgt lv (st)) (kf : ¬ y < x → z_X p l e R s m args below meth c nL D A Q mc ms ρ kd q μ (pc + 1 + 3) lv (st)) : z_X p l e R s m args below meth c nL D A Q mc ms ρ kd q μ pc lv (.long y :: .long x :: st) := fun H locs ls hS hl => W.lcmp G.1 G.2.1 hd0 (lv_if_gt G.1 G.2.1 hd ht (fun h => kt ((lg_cmp_gt x y).mp h) H locs ls hS hl) (fun h => kf (fun h2 => h ((lg_cmp_gt x y).mpr h2)) H locs ls hS hl))
theorem zx_lcmp_le (G : z_G p c cc s m args own nL D) {x y : Int64} {off : Int} {tgt : Nat} (ht : ((pc + 1 : Nat) : Int) + off = (tgt : Int)) (hd0 : decode cc pc = .ok (.lcmp, 1)) (hd : decode cc (pc + 1) = .ok (.ifCond .le off, 3)) (kt : x ≤ y → z_X p l e R s m args below meth c nL D A Q mc ms ρ kd q μ tgt lv (st)) (kf : ¬ x ≤ y → z_X p l e R s m args below meth c nL D A Q mc ms ρ kd q μ (pc + 1 + 3) lv (st)) : z_X p l e R s m args below meth c nL D A Q mc ms ρ kd q μ pc lv (.long y :: .long x :: st) := fun H locs ls hS hl => W.lcmp G.1 G.2.1 hd0 (lv_if_le G.1 G.2.1 hd ht (fun h => kt ((lg_cmp_le x y).mp h) H locs ls hS hl) (fun h => kf (fun h2 => h ((lg_cmp_le x y).mpr h2)) H locs ls hS hl))
theorem zx_goto (G : z_G p c cc s m args own nL D) {off : Int} {tgt : Nat} (ht : (pc : Int) + off = (tgt : Int)) (hd : decode cc pc = .ok (.goto off, 3)) (k : z_X p l e R s m args below meth c nL D A Q mc ms ρ kd q μ tgt lv (st)) : z_X p l e R s m args below meth c nL D A Q mc ms ρ kd q μ pc lv (st) := fun H locs ls hS hl => lv_goto G.1 G.2.1 hd ht (k H locs ls hS hl)
theorem zx_ifnullN (G : z_G p c cc s m args own nL D) {off : Int} {tgt : Nat} (ht : (pc : Int) + off = (tgt : Int)) (hd : decode cc pc = .ok (.ifnull off, 3)) (k : z_X p l e R s m args below meth c nL D A Q mc ms ρ kd q μ tgt lv (st)) : z_X p l e R s m args below meth c nL D A Q mc ms ρ kd q μ pc lv (va_rf none :: st) := fun H locs ls hS hl => lv_ifnullN G.1 G.2.1 hd ht (k H locs ls hS hl)
theorem zx_ifnonnullN (G : z_G p c cc s m args own nL D) {off : Int} (hd : decode cc pc = .ok (.ifnonnull off, 3)) (k : z_X p l e R s m args below meth c nL D A Q mc ms ρ kd q μ (pc + 3) lv (st)) : z_X p l e R s m args below meth c nL D A Q mc ms ρ kd q μ pc lv (va_rf none :: st) := fun H locs ls hS hl => lv_ifnonnullN G.1 G.2.1 hd (k H locs ls hS hl)
theorem zx_ifnullS (G : z_G p c cc s m args own nL D) {off : Int} {a : Nat} {k0 : z_T} (hk : kd a = some k0) (hd : decode cc pc = .ok (.ifnull off, 3)) (k : z_X p l e R s m args below meth c nL D A Q mc ms ρ kd q μ (pc + 3) lv (st)) : z_X p l e R s m args below meth c nL D A Q mc ms ρ kd q μ pc lv (.ref a :: st) := fun H locs ls hS hl => by
  obtain ⟨x, -, -, hx, -⟩ := hS.obj hk
  rw [List.map_cons, hx]
  exact lv_ifnull G.1 G.2.1 hd (k H locs ls hS hl)
theorem zx_ifnonnullS (G : z_G p c cc s m args own nL D) {off : Int} {a tgt : Nat} {k0 : z_T} (hk : kd a = some k0) (ht : (pc : Int) + off = (tgt : Int)) (hd : decode cc pc = .ok (.ifnonnull off, 3)) (k : z_X p l e R s m args below meth c nL D A Q mc ms ρ kd q μ tgt lv (st)) : z_X p l e R s m args below meth c nL D A Q mc ms ρ kd q μ pc lv (.ref a :: st) := fun H locs ls hS hl => by
  obtain ⟨x, -, -, hx, -⟩ := hS.obj hk
  rw [List.map_cons, hx]
  exact lv_ifnonnull G.1 G.2.1 hd ht (k H locs ls hS hl)
theorem zx_tableOut (G : z_G p c cc s m args own nL D) {dflt lo hi : Int} {offs : Array Int} {len : Nat} {x : Int32} {tgt : Nat} (h : x.toInt < lo ∨ hi < x.toInt) (ht : (pc : Int) + dflt = (tgt : Int)) (hd : decode cc pc = .ok (.tableswitch dflt lo hi offs, len)) (k : z_X p l e R s m args below meth c nL D A Q mc ms ρ kd q μ tgt lv (st)) : z_X p l e R s m args below meth c nL D A Q mc ms ρ kd q μ pc lv (.int x :: st) := fun H locs ls hS hl => lv_tableOut G.1 G.2.1 hd h ht (k H locs ls hS hl)
theorem zx_tableIn (G : z_G p c cc s m args own nL D) {dflt lo hi : Int} {offs : Array Int} {len : Nat} {x : Int32} {off : Int} {tgt : Nat} (h1 : ¬ x.toInt < lo) (h2 : ¬ hi < x.toInt) (ho : offs[(x.toInt - lo).toNat]? = some off) (ht : (pc : Int) + off = (tgt : Int)) (hd : decode cc pc = .ok (.tableswitch dflt lo hi offs, len)) (k : z_X p l e R s m args below meth c nL D A Q mc ms ρ kd q μ tgt lv (st)) : z_X p l e R s m args below meth c nL D A Q mc ms ρ kd q μ pc lv (.int x :: st) := fun H locs ls hS hl => lv_tableIn G.1 G.2.1 hd h1 h2 ho ht (k H locs ls hS hl)
theorem zx_lookup (G : z_G p c cc s m args own nL D) {dflt : Int} {ps : Array (Int × Int)} {len : Nat} {x : Int32} {off : Int} {tgt : Nat} (hp : (ps.toList.zip (ps.toList.drop 1)).all (fun (a, next) => a.1 < next.1) = true) (ho : Op.lookupswitch.offset ps.toList dflt x.toInt = off) (ht : (pc : Int) + off = (tgt : Int)) (hd : decode cc pc = .ok (.lookupswitch dflt ps, len)) (k : z_X p l e R s m args below meth c nL D A Q mc ms ρ kd q μ tgt lv (st)) : z_X p l e R s m args below meth c nL D A Q mc ms ρ kd q μ pc lv (.int x :: st) := fun H locs ls hS hl => lv_lookup G.1 G.2.1 hd hp ho ht (k H locs ls hS hl)
end ZX
