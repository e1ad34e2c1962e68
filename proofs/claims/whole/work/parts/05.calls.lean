theorem z_nw_on : ∀ w ∈ z_nw, w.onTables = true := by
  intro w hw
  have h := (List.mem_filter.mp hw).2
  cases w <;> first | rfl | (simp [z_isNest] at h)
theorem z_nw_same {u U : State} (h : u.vm = U.vm) (hz : ∀ w ∈ z_nw, va_Nw w u) : ∀ w ∈ z_nw, va_Nw w U := fun w hw => va_Nw.same (z_nw_on w hw) h (hz w hw)
theorem z_nw_warm {s U : State} (hW : s.WarmedH U.vm) (hz : ∀ w ∈ z_nw, va_Nw w s) : ∀ w ∈ z_nw, va_Nw w U := by
  intro w hw
  have h := (List.mem_filter.mp hw).2
  have h2 := hz w hw
  cases w <;> first | exact va_Nw.warmF hW h2 | exact va_Nw.warmM hW h2 | (simp [z_isNest] at h)
/-- the cells that a method may write: its world's, and those that it makes -/
def z_Rg (ρ : z_A) (sz : Nat) : Nat → Prop := fun x => (∃ c y, ρ c = some y ∧ y.1 = x) ∨ sz ≤ x
def z_Pc (D : va_G) (ρ : z_A) (kd : z_K) (q : z_Q) (μ : z_M) (sz : Nat) (av : List Value) : Array Value → State → Prop := fun v U => v = (av.map (z_c ρ)).toArray ∧ U.heap.size = sz ∧ z_H D ρ kd q μ U.heap ∧ z_W ρ kd ∧ z_AF U ρ kd ∧ va_K D z_cl [] U ∧ ∀ w ∈ z_nw, va_Nw w U
/-- a method's end, no cell made -/
def z_Qn (D : va_G) (A : Nat → Prop) (ρ : z_A) (kd : z_K) (K : Option Value → z_Q → z_M → Prop) : Array Value → State → Outcome → State → Prop := fun _ st o t => (∃ rv q' μ', o = .returned (rv.map (z_c ρ)) ∧ K rv q' μ' ∧ z_H D ρ kd q' μ' t.heap) ∧ va_F A st t
def z_ext (ρ ρ' : z_A) : Prop := ∀ c x, ρ c = some x → ρ' c = some x
/-- a method's end, cells made -/
def z_Qg (D : va_G) (A : Nat → Prop) (ρ : z_A) (K : Option Value → z_K → z_Q → z_M → Prop) : Array Value → State → Outcome → State → Prop := fun _ st o t => (∃ rv ρ' kd' q' μ', o = .returned (rv.map (z_c ρ')) ∧ K rv kd' q' μ' ∧ z_ext ρ ρ' ∧ z_H D ρ' kd' q' μ' t.heap ∧ z_W ρ' kd' ∧ z_AF t ρ' kd' ∧ ∀ c x, ρ' c = some x → A x.1) ∧ va_F A st t
theorem z_blind {D : va_G} {ρ : z_A} {kd : z_K} {q : z_Q} {μ : z_M} {sz : Nat} {av : List Value} : FrameBlind (z_Pc D ρ kd q μ sz av) := fun a U g mk h => by
  obtain ⟨h1, h2, h3, h4, h5, h6, h7⟩ := h
  exact ⟨h1, h2, h3, h4, h5.moved (U := U.calling g mk a) (Vm.Alike.refl U.vm), va_K.moved (u := U) (U := U.calling g mk a) (Vm.Alike.refl U.vm) h6, z_nw_same (u := U) (U := U.calling g mk a) rfl h7⟩
theorem z_lvargs (ρ : z_A) : ∀ (av : List Value) (i : Nat), lv_args i (av.map (z_c ρ)) = (lv_args i av).map (z_p ρ)
  | [], _ => rfl
  | v :: av, i => by
    show (i, z_c ρ v) :: lv_args (if (z_c ρ v).category = 2 then i + 2 else i + 1) (av.map (z_c ρ)) = _
    rw [z_cat, z_lvargs ρ av]
    rfl
theorem z_sllen (ρ : z_A) (av : List Value) : (lg_sl (av.map (z_c ρ))).length = (lg_sl av).length := by
  induction av with
  | nil => rfl
  | cons v av ih =>
    unfold lg_sl at ih ⊢
    simp only [List.map_cons, List.flatMap_cons, List.length_append, ih, z_cat]
    split <;> rfl
/-- what a call of own's pool number index needs of the tables -/
def z_CV (own : String) (index : Nat) (y : MethodName) (bytes : ByteArray) (maxL : Nat) (ret : Option FieldType) (n : Nat) : Prop :=
  (Cond.methodLink own index y ∈ z_tb ∨ ∃ host, Cond.methodLinkNest own index y host ∈ z_nw) ∧ Cond.instanceMethod y ∈ z_tb ∧ Cond.selects y.cls y y ∈ z_tb ∧ Cond.initialized y.cls ∈ z_tb ∧ Cond.code y bytes maxL ret ∈ z_tb ∧ y.cls ≠ "java/lang/invoke/MethodHandle" ∧ y.cls ≠ "java/lang/invoke/VarHandle" ∧ (parseMethodDescriptor y.desc).map (fun d => d.parameters.length) = some n
def z_CS (own : String) (index : Nat) (y : MethodName) (bytes : ByteArray) (maxL : Nat) (ret : Option FieldType) (n : Nat) : Prop :=
  (Cond.methodLink own index y ∈ z_tb ∨ ∃ host, Cond.methodLinkNest own index y host ∈ z_nw) ∧ Cond.static y ∈ z_tb ∧ Cond.initialized y.cls ∈ z_tb ∧ Cond.code y bytes maxL ret ∈ z_tb ∧ y.cls ≠ "java/lang/invoke/MethodHandle" ∧ y.cls ≠ "java/lang/invoke/VarHandle" ∧ (parseMethodDescriptor y.desc).map (fun d => d.parameters.length) = some n
def z_CI (own : String) (index : Nat) (y : MethodName) (bytes : ByteArray) (maxL : Nat) (n : Nat) : Prop :=
  (Cond.methodLink own index y ∈ z_tb ∨ ∃ host, Cond.methodLinkNest own index y host ∈ z_nw) ∧ Cond.instanceMethod y ∈ z_tb ∧ Cond.initialized y.cls ∈ z_tb ∧ Cond.code y bytes maxL none ∈ z_tb ∧ y.cls ≠ "java/lang/invoke/MethodHandle" ∧ y.cls ≠ "java/lang/invoke/VarHandle" ∧ (parseMethodDescriptor y.desc).map (fun d => d.parameters.length) = some n ∧ y.name = "<init>"
abbrev z_ws (y : MethodName) (bytes : ByteArray) (maxL : Nat) (ret : Option FieldType) : List Cond := Cond.code y bytes maxL ret :: z_tb
theorem z_goodc {y : MethodName} {bytes : ByteArray} {maxL : Nat} {ret : Option FieldType} (h : Cond.code y bytes maxL ret ∈ z_tb) : GoodIn z_tb (z_ws y bytes maxL ret) := fun w hw => (List.mem_cons.mp hw).elim (fun e => e ▸ z_tb_good _ h) (z_tb_good w)
section ZC
variable {p : Program} {l : Launch} {e : Env} {R : Room} {s : State} {m : MethodId} {args : Array Value} {below : List Frame} {meth : Method} {c : Code} {cc : ByteArray} {own : String} {nL : Nat} {D : va_G} {A : Nat → Prop} {Q : State → Prop} {mc ms : Nat} {ρ : z_A} {kd : z_K} {q : z_Q} {μ : z_M} {pc : Nat} {lv lv' : List (Nat × Value)} {st : List Value}

variable {index maxL n : Nat} {y : MethodName} {bytes : ByteArray} {ret : Option FieldType} {rm : Room} {H : Heap} {locs : List Loc} {ls : Array Slot} {As rest : List Value} {Pc : Array Value → State → Prop} {Qc : Array Value → State → Outcome → State → Prop} {free : Addr → Prop} {b : Nat}
theorem z_run_V (G : z_G p c cc s m args own nL D) (hC : z_CV own index y bytes maxL ret n) (hR : rm.frames + 1 ≤ R.frames ∧ 8 + (maxL + 11) + rm.locals ≤ R.locals) (hf : mc + rm.cells ≤ R.cells ∧ ms + rm.slots ≤ R.slots) (hM : Met l y (z_ws y bytes maxL ret) rm Pc Qc rm.cells rm.slots free) (hp : PreV s H y.cls b Pc As) (hn : As.length = n) (hz : ls.size = nL) (hcat : (rest.map fun v => v.category).sum ≤ 8) (hd : decode cc pc = .ok (.invokevirtual index, 3)) :
    va_Run p l e R s m args below meth c H locs mc ms rm.cells rm.slots (F0 m pc ls (As.reverse ++ .ref b :: rest)) rest (Qc (Value.ref b :: As).toArray) free := by
  obtain ⟨hx, hb, hml, hown, hts, hnw, hK⟩ := G
  obtain ⟨hl, hi, hs, hini, hco, hy1, hy2, hpar⟩ := hC
  rcases hl with hl | ⟨host, hl⟩
  · have hg : GoodIn z_tb (wsV own index y.cls y (z_ws y bytes maxL ret)) := by
      intro w hw
      unfold wsV at hw
      rcases List.mem_append.mp hw with h | h
      · simp only [List.mem_cons, List.not_mem_nil, or_false] at h
        rcases h with rfl | rfl | rfl | rfl
        · exact z_tb_good _ hl
        · exact z_tb_good _ hi
        · exact z_tb_good _ hs
        · exact z_tb_good _ hini
      · exact z_goodc hco w h
    exact va_runV (S := ⟨hx, hb, hml, hown, hts⟩) hM (cwV n hts hg rfl rfl rfl ⟨rfl, hy1, hy2, hpar⟩ hR) hp rfl hn hz rfl (lv_room (rest := (As.reverse ++ .ref b :: rest)) hcat) hd hf
  · exact va_runVN (S := ⟨hx, hb, hml, hown, hts⟩) hM ⟨va_cnB n hts (z_goodc hco) rfl rfl rfl (hnw _ hl) (hts _ hini) ⟨hy1, hy2, hpar⟩ hR, hts _ hi, hts _ hs⟩ hp rfl hn hz rfl (lv_room (rest := (As.reverse ++ .ref b :: rest)) hcat) hd hf
theorem z_run_S (G : z_G p c cc s m args own nL D) (hC : z_CS own index y bytes maxL ret n) (hR : rm.frames + 1 ≤ R.frames ∧ 8 + (maxL + 11) + rm.locals ≤ R.locals) (hf : mc + rm.cells ≤ R.cells ∧ ms + rm.slots ≤ R.slots) (hM : Met l y (z_ws y bytes maxL ret) rm Pc Qc rm.cells rm.slots free) (hp : PreS s H Pc As) (hn : As.length = n) (hz : ls.size = nL) (hcat : (rest.map fun v => v.category).sum ≤ 8) (hd : decode cc pc = .ok (.invokestatic index, 3)) :
    va_Run p l e R s m args below meth c H locs mc ms rm.cells rm.slots (F0 m pc ls (As.reverse ++ rest)) rest (Qc As.toArray) free := by
  obtain ⟨hx, hb, hml, hown, hts, hnw, hK⟩ := G
  obtain ⟨hl, hs, hini, hco, hy1, hy2, hpar⟩ := hC
  rcases hl with hl | ⟨host, hl⟩
  · exact va_runS (S := ⟨hx, hb, hml, hown, hts⟩) hM ⟨callB_of n hts (z_goodc hco) rfl rfl rfl (hts _ hini) (hts _ hl) ⟨hy1, hy2, hpar⟩ hR, hts _ hs⟩ hp rfl hn hz rfl (lv_room (rest := (As.reverse ++ rest)) hcat) hd hf
  · exact va_runSN (S := ⟨hx, hb, hml, hown, hts⟩) hM ⟨va_cnB n hts (z_goodc hco) rfl rfl rfl (hnw _ hl) (hts _ hini) ⟨hy1, hy2, hpar⟩ hR, hts _ hs, trivial⟩ hp rfl hn hz rfl (lv_room (rest := (As.reverse ++ rest)) hcat) hd hf
theorem z_run_I (G : z_G p c cc s m args own nL D) (hC : z_CI own index y bytes maxL n) (hR : rm.frames + 1 ≤ R.frames ∧ 8 + (maxL + 11) + rm.locals ≤ R.locals) (hf : mc + rm.cells ≤ R.cells ∧ ms + rm.slots ≤ R.slots) (hM : Met l y (z_ws y bytes maxL none) rm Pc Qc rm.cells rm.slots free) (hp : PreS s H Pc (.ref b :: As)) (hn : As.length = n) (hz : ls.size = nL) (hcat : (rest.map fun v => v.category).sum ≤ 8) (hd : decode cc pc = .ok (.invokespecial index, 3)) :
    va_Run p l e R s m args below meth c H locs mc ms rm.cells rm.slots (F0 m pc ls (As.reverse ++ .ref b :: rest)) rest (Qc (Value.ref b :: As).toArray) free := by
  obtain ⟨hx, hb, hml, hown, hts, hnw, hK⟩ := G
  obtain ⟨hl, hi, hini, hco, hy1, hy2, hpar, hnm⟩ := hC
  rcases hl with hl | ⟨host, hl⟩
  · exact va_runI (S := ⟨hx, hb, hml, hown, hts⟩) hM (cwI n hts (z_goodc hco) rfl rfl rfl (hts _ hini) (hts _ hl) (hts _ hi) hnm ⟨hy1, hy2, hpar⟩ hR) hp rfl hn hz rfl (lv_room (rest := (As.reverse ++ .ref b :: rest)) hcat) hd hf
  · exact va_runIN (S := ⟨hx, hb, hml, hown, hts⟩) hM ⟨va_cnB n hts (z_goodc hco) rfl rfl rfl (hnw _ hl) (hts _ hini) ⟨hy1, hy2, hpar⟩ hR, hnm, hts _ hi⟩ hp rfl hn hz rfl (lv_room (rest := (As.reverse ++ .ref b :: rest)) hcat) hd hf
theorem z_Rg_A (hS : z_S s D A ρ kd q μ H locs) : ∀ x, z_Rg ρ H.size x → A x := by
  intro x h
  rcases h with ⟨a, y, h1, rfl⟩ | h
  · exact hS.2.2.2.2.1 a y h1
  · exact hS.2.2.2.2.2 x (Nat.le_trans hS.2.2.2.1.1 h)
/-- behind a call that made no cell -/
theorem z_after {mcy msy : Nat} {st0 rest : List Value} {K : Option Value → z_Q → z_M → Prop} {a : Array Value} (hr : va_Run p l e R s m args below meth c H locs mc ms mcy msy (F0 m pc ls st0) rest (z_Qn D (z_Rg ρ H.size) ρ kd K a) (z_Rg ρ H.size)) (hS : z_S s D A ρ kd q μ H locs)
    (kk : ∀ rv q' μ', K rv q' μ' → ∀ H1 locs1, z_S s D A ρ kd q' μ' H1 locs1 → W p l e R s m args below meth c H1 locs1 (mc + mcy) (ms + msy) Q (F0 m (pc + 3) ls ((rv.map (z_c ρ)).toList ++ rest))) : W p l e R s m args below meth c H locs mc ms Q (F0 m pc ls st0) := by
  intro T hT X
  obtain ⟨v, st₀, t, T', L, h0, X', hL, e1, e2, ⟨⟨rv, q', μ', hv, hK, hH⟩, hz, hk⟩, st⟩ := hr T hT X
  cases hv
  rw [h0] at hz hk
  have hA := z_Rg_A hS
  obtain ⟨g1, g2, g3, g4, g5, g6⟩ := hS
  obtain ⟨t2, a1, b1⟩ := kk rv q' μ' hK T'.heap (locs ++ L) ⟨by rw [e1]; exact hH, g2, g3, ⟨Nat.le_trans g4.1 (by rw [e1]; exact hz), fun x h1 h2 => by rw [e1, hk x (Nat.lt_of_lt_of_le h1 g4.1) (fun z => h2 (hA x z))]; exact g4.2.1 x h1 h2, fun x hx => by
      rcases List.mem_append.mp hx with h | h
      · exact g4.2.2 x h
      · exact hA _ (hL x h)⟩, g5, g6⟩ T' rfl X'
  exact ⟨t2, st t2 a1, b1⟩
theorem z_ext_c {ρ' : z_A} (he : z_ext ρ ρ') (hS : z_S s D A ρ kd q μ H locs) {v : Value} (hv : ∀ a, v = .ref a → kd a ≠ none) : z_c ρ' v = z_c ρ v := by
  cases v with
  | ref a =>
    obtain ⟨k, hk⟩ := Option.ne_none_iff_exists'.mp (hv a rfl)
    obtain ⟨x, hx, -⟩ := hS.obj hk
    simp [z_c, z_rc, hx, he a x hx]
  | _ => rfl

/-- behind a call that made cells -/
theorem z_afterG {mcy msy : Nat} {st0 rest : List Value} {K : Option Value → z_K → z_Q → z_M → Prop} {a : Array Value} (hr : va_Run p l e R s m args below meth c H locs mc ms mcy msy (F0 m pc ls st0) (rest.map (z_c ρ)) (z_Qg D (z_Rg ρ H.size) ρ K a) (z_Rg ρ H.size)) (hS : z_S s D A ρ kd q μ H locs) (hl : lv_has ls nL (lv.map (z_p ρ)))
    (hok : ∀ v ∈ lv.map Prod.snd ++ rest, ∀ a, v = .ref a → kd a ≠ none)
    (kk : ∀ rv ρ' kd' q' μ', K rv kd' q' μ' → z_ext ρ ρ' → z_X p l e R s m args below meth c nL D A Q (mc + mcy) (ms + msy) ρ' kd' q' μ' (pc + 3) lv (rv.toList ++ rest)) : W p l e R s m args below meth c H locs mc ms Q (F0 m pc ls st0) := by
  intro T hT X
  obtain ⟨v, st₀, t, T', L, h0, X', hL, e1, e2, ⟨⟨rv, ρ', kd', q', μ', hv, hK, hE, hH, hW, hAF, hRg⟩, hz, hk⟩, st⟩ := hr T hT X
  cases hv
  rw [h0] at hz hk
  have hA := z_Rg_A hS
  have e3 : lv.map (z_p ρ') = lv.map (z_p ρ) := List.map_congr_left fun w hw => by
    unfold z_p
    rw [z_ext_c hE hS (hok w.2 (List.mem_append_left _ (List.mem_map_of_mem hw)))]
  have e4 : rest.map (z_c ρ') = rest.map (z_c ρ) := List.map_congr_left fun w hw => z_ext_c hE hS (hok w (List.mem_append_right _ hw))
  obtain ⟨g1, g2, g3, g4, g5, g6⟩ := hS
  have hx := kk rv ρ' kd' q' μ' hK hE T'.heap (locs ++ L) ls ⟨by rw [e1]; exact hH, hW, hAF.moved (by rw [← e2]; exact X'.warmed.alike.symm), ⟨Nat.le_trans g4.1 (by rw [e1]; exact hz), fun x h1 h2 => by rw [e1, hk x (Nat.lt_of_lt_of_le h1 g4.1) (fun z => h2 (hA x z))]; exact g4.2.1 x h1 h2, fun x hx => by
      rcases List.mem_append.mp hx with h | h
      · exact g4.2.2 x h
      · exact hA _ (hL x h)⟩, fun c x h => hA _ (hRg c x h), g6⟩ (by rw [e3]; exact hl)
  rw [List.map_append, e4] at hx
  have e5 : (rv.toList).map (z_c ρ') = (rv.map (z_c ρ')).toList := by cases rv <;> rfl
  rw [e5] at hx
  obtain ⟨t2, a1, b1⟩ := hx T' rfl X'
  exact ⟨t2, st t2 a1, b1⟩
theorem zx_callVn (G : z_G p c cc s m args own nL D) {K : Option Value → z_Q → z_M → Prop} (hC : z_CV own index y bytes maxL ret n) (hR : rm.frames + 1 ≤ R.frames ∧ 8 + (maxL + 11) + rm.locals ≤ R.locals) (hf : mc + rm.cells ≤ R.cells ∧ ms + rm.slots ≤ R.slots) {ci : Nat} (hb : kd b = some (.inl ci)) (hci : z_name ci = y.cls) (hM : ∀ sz, Met l y (z_ws y bytes maxL ret) rm (z_Pc D ρ kd q μ sz (Value.ref b :: As)) (z_Qn D (z_Rg ρ sz) ρ kd K) rm.cells rm.slots (z_Rg ρ sz)) (hn : As.length = n) (hst : st = As.reverse ++ Value.ref b :: rest) (hcat : (rest.map fun v => v.category).sum ≤ 8) (hd : decode cc pc = .ok (.invokevirtual index, 3)) (kk : ∀ rv q' μ', K rv q' μ' → z_X p l e R s m args below meth c nL D A Q (mc + rm.cells) (ms + rm.slots) ρ kd q' μ' (pc + 3) lv (rv.toList ++ rest)) : z_X p l e R s m args below meth c nL D A Q mc ms ρ kd q μ pc lv (st) := fun H locs ls hS hl => by
  subst hst
  obtain ⟨x, hx, hat, hbx, hAx⟩ := hS.obj hb
  have hrecv : ∃ cellB : Cell, H[x.1]? = some cellB ∧ cellB.vm.isStatics = false ∧ s.vm.findClass y.cls = some cellB.cls := by
    obtain ⟨r, hr, cell, q1, q2, q3, -⟩ := hat
    refine ⟨cell, q1, by rw [q3]; rfl, ?_⟩
    rw [q2, ← hci]
    unfold z_name
    rw [hr]
    exact (G.2.2.2.2.2.2.1 ci r hr).2.1
  have est : (As.reverse ++ Value.ref b :: rest).map (z_c ρ) = (As.map (z_c ρ)).reverse ++ .ref x.1 :: rest.map (z_c ρ) := by
    rw [List.map_append, List.map_reverse, List.map_cons, hbx]
  have eav : ((Value.ref b :: As).map (z_c ρ)).toArray = (.ref x.1 :: As.map (z_c ρ)).toArray := by
    rw [List.map_cons, hbx]
  rw [est]
  have hr := z_run_V (below := below) (meth := meth) (locs := locs) (e := e) G hC hR hf (hM H.size) (H := H) (b := x.1) (As := As.map (z_c ρ)) (rest := rest.map (z_c ρ)) (ls := ls) (pc := pc) ⟨z_blind, hrecv, fun U hU hW => ⟨by rw [eav], by rw [hU], by rw [hU]; exact hS.1, hS.2.1, hS.2.2.1.moved hW.alike, va_K.moved hW.alike G.2.2.2.2.2.2, z_nw_warm hW G.2.2.2.2.2.1⟩⟩ (by rw [List.length_map]; exact hn) hl.1 (by rw [z_cats]; exact hcat) hd
  refine z_after hr hS fun rv q' μ' hK H1 locs1 hS1 => ?_
  have h := kk rv q' μ' hK H1 locs1 ls hS1 hl
  rw [List.map_append] at h
  have e5 : (rv.toList).map (z_c ρ) = (rv.map (z_c ρ)).toList := by cases rv <;> rfl
  rw [e5] at h
  exact h
theorem zx_callVg (G : z_G p c cc s m args own nL D) {K : Option Value → z_K → z_Q → z_M → Prop} (hC : z_CV own index y bytes maxL ret n) (hR : rm.frames + 1 ≤ R.frames ∧ 8 + (maxL + 11) + rm.locals ≤ R.locals) (hf : mc + rm.cells ≤ R.cells ∧ ms + rm.slots ≤ R.slots) {ci : Nat} (hb : kd b = some (.inl ci)) (hci : z_name ci = y.cls) (hM : ∀ sz, Met l y (z_ws y bytes maxL ret) rm (z_Pc D ρ kd q μ sz (Value.ref b :: As)) (z_Qg D (z_Rg ρ sz) ρ K) rm.cells rm.slots (z_Rg ρ sz)) (hn : As.length = n) (hst : st = As.reverse ++ Value.ref b :: rest) (hcat : (rest.map fun v => v.category).sum ≤ 8) (hok : ∀ v ∈ lv.map Prod.snd ++ rest, ∀ a, v = .ref a → kd a ≠ none) (hd : decode cc pc = .ok (.invokevirtual index, 3)) (kk : ∀ rv ρ' kd' q' μ', K rv kd' q' μ' → z_ext ρ ρ' → z_X p l e R s m args below meth c nL D A Q (mc + rm.cells) (ms + rm.slots) ρ' kd' q' μ' (pc + 3) lv (rv.toList ++ rest)) : z_X p l e R s m args below meth c nL D A Q mc ms ρ kd q μ pc lv (st) := fun H locs ls hS hl => by
  subst hst
  obtain ⟨x, hx, hat, hbx, hAx⟩ := hS.obj hb
  have hrecv : ∃ cellB : Cell, H[x.1]? = some cellB ∧ cellB.vm.isStatics = false ∧ s.vm.findClass y.cls = some cellB.cls := by
    obtain ⟨r, hr, cell, q1, q2, q3, -⟩ := hat
    refine ⟨cell, q1, by rw [q3]; rfl, ?_⟩
    rw [q2, ← hci]
    unfold z_name
    rw [hr]
    exact (G.2.2.2.2.2.2.1 ci r hr).2.1
  have est : (As.reverse ++ Value.ref b :: rest).map (z_c ρ) = (As.map (z_c ρ)).reverse ++ .ref x.1 :: rest.map (z_c ρ) := by
    rw [List.map_append, List.map_reverse, List.map_cons, hbx]
  have eav : ((Value.ref b :: As).map (z_c ρ)).toArray = (.ref x.1 :: As.map (z_c ρ)).toArray := by
    rw [List.map_cons, hbx]
  rw [est]
  have hr := z_run_V (below := below) (meth := meth) (locs := locs) (e := e) G hC hR hf (hM H.size) (H := H) (b := x.1) (As := As.map (z_c ρ)) (rest := rest.map (z_c ρ)) (ls := ls) (pc := pc) ⟨z_blind, hrecv, fun U hU hW => ⟨by rw [eav], by rw [hU], by rw [hU]; exact hS.1, hS.2.1, hS.2.2.1.moved hW.alike, va_K.moved hW.alike G.2.2.2.2.2.2, z_nw_warm hW G.2.2.2.2.2.1⟩⟩ (by rw [List.length_map]; exact hn) hl.1 (by rw [z_cats]; exact hcat) hd
  exact z_afterG hr hS hl hok kk
theorem zx_callSn (G : z_G p c cc s m args own nL D) {K : Option Value → z_Q → z_M → Prop} (hC : z_CS own index y bytes maxL ret n) (hR : rm.frames + 1 ≤ R.frames ∧ 8 + (maxL + 11) + rm.locals ≤ R.locals) (hf : mc + rm.cells ≤ R.cells ∧ ms + rm.slots ≤ R.slots) (hM : ∀ sz, Met l y (z_ws y bytes maxL ret) rm (z_Pc D ρ kd q μ sz As) (z_Qn D (z_Rg ρ sz) ρ kd K) rm.cells rm.slots (z_Rg ρ sz)) (hn : As.length = n) (hst : st = As.reverse ++ rest) (hcat : (rest.map fun v => v.category).sum ≤ 8) (hd : decode cc pc = .ok (.invokestatic index, 3)) (kk : ∀ rv q' μ', K rv q' μ' → z_X p l e R s m args below meth c nL D A Q (mc + rm.cells) (ms + rm.slots) ρ kd q' μ' (pc + 3) lv (rv.toList ++ rest)) : z_X p l e R s m args below meth c nL D A Q mc ms ρ kd q μ pc lv (st) := fun H locs ls hS hl => by
  subst hst
  have est : (As.reverse ++ rest).map (z_c ρ) = (As.map (z_c ρ)).reverse ++ rest.map (z_c ρ) := by
    rw [List.map_append, List.map_reverse]
  rw [est]
  have hr := z_run_S (below := below) (meth := meth) (locs := locs) (e := e) G hC hR hf (hM H.size) (H := H) (As := As.map (z_c ρ)) (rest := rest.map (z_c ρ)) (ls := ls) (pc := pc) ⟨z_blind, fun U hU hW => ⟨rfl, by rw [hU], by rw [hU]; exact hS.1, hS.2.1, hS.2.2.1.moved hW.alike, va_K.moved hW.alike G.2.2.2.2.2.2, z_nw_warm hW G.2.2.2.2.2.1⟩⟩ (by rw [List.length_map]; exact hn) hl.1 (by rw [z_cats]; exact hcat) hd
  refine z_after hr hS fun rv q' μ' hK H1 locs1 hS1 => ?_
  have h := kk rv q' μ' hK H1 locs1 ls hS1 hl
  rw [List.map_append] at h
  have e5 : (rv.toList).map (z_c ρ) = (rv.map (z_c ρ)).toList := by cases rv <;> rfl
  rw [e5] at h
  exact h
theorem zx_callSg (G : z_G p c cc s m args own nL D) {K : Option Value → z_K → z_Q → z_M → Prop} (hC : z_CS own index y bytes maxL ret n) (hR : rm.frames + 1 ≤ R.frames ∧ 8 + (maxL + 11) + rm.locals ≤ R.locals) (hf : mc + rm.cells ≤ R.cells ∧ ms + rm.slots ≤ R.slots) (hM : ∀ sz, Met l y (z_ws y bytes maxL ret) rm (z_Pc D ρ kd q μ sz As) (z_Qg D (z_Rg ρ sz) ρ K) rm.cells rm.slots (z_Rg ρ sz)) (hn : As.length = n) (hst : st = As.reverse ++ rest) (hcat : (rest.map fun v => v.category).sum ≤ 8) (hok : ∀ v ∈ lv.map Prod.snd ++ rest, ∀ a, v = .ref a → kd a ≠ none) (hd : decode cc pc = .ok (.invokestatic index, 3)) (kk : ∀ rv ρ' kd' q' μ', K rv kd' q' μ' → z_ext ρ ρ' → z_X p l e R s m args below meth c nL D A Q (mc + rm.cells) (ms + rm.slots) ρ' kd' q' μ' (pc + 3) lv (rv.toList ++ rest)) : z_X p l e R s m args below meth c nL D A Q mc ms ρ kd q μ pc lv (st) := fun H locs ls hS hl => by
  subst hst
  have est : (As.reverse ++ rest).map (z_c ρ) = (As.map (z_c ρ)).reverse ++ rest.map (z_c ρ) := by
    rw [List.map_append, List.map_reverse]
  rw [est]
  have hr := z_run_S (below := below) (meth := meth) (locs := locs) (e := e) G hC hR hf (hM H.size) (H := H) (As := As.map (z_c ρ)) (rest := rest.map (z_c ρ)) (ls := ls) (pc := pc) ⟨z_blind, fun U hU hW => ⟨rfl, by rw [hU], by rw [hU]; exact hS.1, hS.2.1, hS.2.2.1.moved hW.alike, va_K.moved hW.alike G.2.2.2.2.2.2, z_nw_warm hW G.2.2.2.2.2.1⟩⟩ (by rw [List.length_map]; exact hn) hl.1 (by rw [z_cats]; exact hcat) hd
  exact z_afterG hr hS hl hok kk
theorem zx_callIn (G : z_G p c cc s m args own nL D) {K : Option Value → z_Q → z_M → Prop} (hC : z_CI own index y bytes maxL n) (hR : rm.frames + 1 ≤ R.frames ∧ 8 + (maxL + 11) + rm.locals ≤ R.locals) (hf : mc + rm.cells ≤ R.cells ∧ ms + rm.slots ≤ R.slots) {ci : Nat} (hb : kd b = some (.inl ci)) (hM : ∀ sz, Met l y (z_ws y bytes maxL none) rm (z_Pc D ρ kd q μ sz (Value.ref b :: As)) (z_Qn D (z_Rg ρ sz) ρ kd K) rm.cells rm.slots (z_Rg ρ sz)) (hn : As.length = n) (hst : st = As.reverse ++ Value.ref b :: rest) (hcat : (rest.map fun v => v.category).sum ≤ 8) (hd : decode cc pc = .ok (.invokespecial index, 3)) (kk : ∀ rv q' μ', K rv q' μ' → z_X p l e R s m args below meth c nL D A Q (mc + rm.cells) (ms + rm.slots) ρ kd q' μ' (pc + 3) lv (rv.toList ++ rest)) : z_X p l e R s m args below meth c nL D A Q mc ms ρ kd q μ pc lv (st) := fun H locs ls hS hl => by
  subst hst
  obtain ⟨x, hx, hat, hbx, hAx⟩ := hS.obj hb
  have est : (As.reverse ++ Value.ref b :: rest).map (z_c ρ) = (As.map (z_c ρ)).reverse ++ .ref x.1 :: rest.map (z_c ρ) := by
    rw [List.map_append, List.map_reverse, List.map_cons, hbx]
  have eav : ((Value.ref b :: As).map (z_c ρ)).toArray = (.ref x.1 :: As.map (z_c ρ)).toArray := by
    rw [List.map_cons, hbx]
  rw [est]
  have hr := z_run_I (below := below) (meth := meth) (locs := locs) (e := e) G hC hR hf (hM H.size) (H := H) (b := x.1) (As := As.map (z_c ρ)) (rest := rest.map (z_c ρ)) (ls := ls) (pc := pc) ⟨z_blind, fun U hU hW => ⟨by rw [eav], by rw [hU], by rw [hU]; exact hS.1, hS.2.1, hS.2.2.1.moved hW.alike, va_K.moved hW.alike G.2.2.2.2.2.2, z_nw_warm hW G.2.2.2.2.2.1⟩⟩ (by rw [List.length_map]; exact hn) hl.1 (by rw [z_cats]; exact hcat) hd
  refine z_after hr hS fun rv q' μ' hK H1 locs1 hS1 => ?_
  have h := kk rv q' μ' hK H1 locs1 ls hS1 hl
  rw [List.map_append] at h
  have e5 : (rv.toList).map (z_c ρ) = (rv.map (z_c ρ)).toList := by cases rv <;> rfl
  rw [e5] at h
  exact h
theorem zx_callIg (G : z_G p c cc s m args own nL D) {K : Option Value → z_K → z_Q → z_M → Prop} (hC : z_CI own index y bytes maxL n) (hR : rm.frames + 1 ≤ R.frames ∧ 8 + (maxL + 11) + rm.locals ≤ R.locals) (hf : mc + rm.cells ≤ R.cells ∧ ms + rm.slots ≤ R.slots) {ci : Nat} (hb : kd b = some (.inl ci)) (hM : ∀ sz, Met l y (z_ws y bytes maxL none) rm (z_Pc D ρ kd q μ sz (Value.ref b :: As)) (z_Qg D (z_Rg ρ sz) ρ K) rm.cells rm.slots (z_Rg ρ sz)) (hn : As.length = n) (hst : st = As.reverse ++ Value.ref b :: rest) (hcat : (rest.map fun v => v.category).sum ≤ 8) (hok : ∀ v ∈ lv.map Prod.snd ++ rest, ∀ a, v = .ref a → kd a ≠ none) (hd : decode cc pc = .ok (.invokespecial index, 3)) (kk : ∀ rv ρ' kd' q' μ', K rv kd' q' μ' → z_ext ρ ρ' → z_X p l e R s m args below meth c nL D A Q (mc + rm.cells) (ms + rm.slots) ρ' kd' q' μ' (pc + 3) lv (rv.toList ++ rest)) : z_X p l e R s m args below meth c nL D A Q mc ms ρ kd q μ pc lv (st) := fun H locs ls hS hl => by
  subst hst
  obtain ⟨x, hx, hat, hbx, hAx⟩ := hS.obj hb
  have est : (As.reverse ++ Value.ref b :: rest).map (z_c ρ) = (As.map (z_c ρ)).reverse ++ .ref x.1 :: rest.map (z_c ρ) := by
    rw [List.map_append, List.map_reverse, List.map_cons, hbx]
  have eav : ((Value.ref b :: As).map (z_c ρ)).toArray = (.ref x.1 :: As.map (z_c ρ)).toArray := by
    rw [List.map_cons, hbx]
  rw [est]
  have hr := z_run_I (below := below) (meth := meth) (locs := locs) (e := e) G hC hR hf (hM H.size) (H := H) (b := x.1) (As := As.map (z_c ρ)) (rest := rest.map (z_c ρ)) (ls := ls) (pc := pc) ⟨z_blind, fun U hU hW => ⟨by rw [eav], by rw [hU], by rw [hU]; exact hS.1, hS.2.1, hS.2.2.1.moved hW.alike, va_K.moved hW.alike G.2.2.2.2.2.2, z_nw_warm hW G.2.2.2.2.2.1⟩⟩ (by rw [List.length_map]; exact hn) hl.1 (by rw [z_cats]; exact hcat) hd
  exact z_afterG hr hS hl hok kk
theorem zx_iret (G : z_G p c cc s m args own nL D) {MC MS : Nat} {r : Int32} {K : Option Value → z_Q → z_M → Prop} (hr : meth.sig.returnType = some .int) (hlk : meth.locks = false) (hmc : mc ≤ MC) (hms : ms ≤ MS) (hd : decode cc pc = .ok (.ireturn, 1)) (hk : K (some (.int r)) q μ) : z_X p l e R s m args below meth c nL D A (MQ below (z_Qn D A ρ kd K) args s MC MS A) mc ms ρ kd q μ pc lv [.int r] := fun H locs ls hS hl =>
  W.widen (k := MC) (n := MS) hmc hms (W.iret G.1 G.2.1 hr (fun t ht hW => ⟨⟨some (.int r), q, μ, rfl, hk, by rw [ht]; exact hS.1⟩, hS.2.2.2.1.F ht⟩) hS.2.2.2.1.2.2 hd hlk)
theorem zx_lret (G : z_G p c cc s m args own nL D) {MC MS : Nat} {r : Int64} {K : Option Value → z_Q → z_M → Prop} (hr : meth.sig.returnType = some .long) (hlk : meth.locks = false) (hmc : mc ≤ MC) (hms : ms ≤ MS) (hd : decode cc pc = .ok (.lreturn, 1)) (hk : K (some (.long r)) q μ) : z_X p l e R s m args below meth c nL D A (MQ below (z_Qn D A ρ kd K) args s MC MS A) mc ms ρ kd q μ pc lv [.long r] := fun H locs ls hS hl =>
  W.widen (k := MC) (n := MS) hmc hms (W.lret G.1 G.2.1 hr (fun t ht hW => ⟨⟨some (.long r), q, μ, rfl, hk, by rw [ht]; exact hS.1⟩, hS.2.2.2.1.F ht⟩) hS.2.2.2.1.2.2 hd hlk)
theorem zx_zret (G : z_G p c cc s m args own nL D) {MC MS : Nat} {r : Int32} {K : Option Value → z_Q → z_M → Prop} (hr : meth.sig.returnType = some .boolean) (hlk : meth.locks = false) (hmc : mc ≤ MC) (hms : ms ≤ MS) (hz : r = 0 ∨ r = 1) (hd : decode cc pc = .ok (.ireturn, 1)) (hk : K (some (.int r)) q μ) : z_X p l e R s m args below meth c nL D A (MQ below (z_Qn D A ρ kd K) args s MC MS A) mc ms ρ kd q μ pc lv [.int r] := fun H locs ls hS hl =>
  W.widen (k := MC) (n := MS) hmc hms (W.zret G.1 G.2.1 hr (z_b_nar hz).1 (fun t ht hW => ⟨⟨some (.int r), q, μ, rfl, hk, by rw [ht]; exact hS.1⟩, hS.2.2.2.1.F ht⟩) hS.2.2.2.1.2.2 hd hlk)
theorem zx_vret (G : z_G p c cc s m args own nL D) {MC MS : Nat} {K : Option Value → z_Q → z_M → Prop} (hr : meth.sig.returnType = none) (hlk : meth.locks = false) (hmc : mc ≤ MC) (hms : ms ≤ MS) (hd : decode cc pc = .ok (.return_, 1)) (hk : K none q μ) : z_X p l e R s m args below meth c nL D A (MQ below (z_Qn D A ρ kd K) args s MC MS A) mc ms ρ kd q μ pc lv [] := fun H locs ls hS hl =>
  W.widen (k := MC) (n := MS) hmc hms (W.vret G.1 G.2.1 hr (fun t ht hW => ⟨⟨none, q, μ, rfl, hk, by rw [ht]; exact hS.1⟩, hS.2.2.2.1.F ht⟩) hS.2.2.2.1.2.2 hd hlk)
theorem zx_aret (G : z_G p c cc s m args own nL D) {MC MS : Nat} {rt : FieldType} (w : Option Nat) {K : Option Value → z_Q → z_M → Prop} (hr : meth.sig.returnType = some rt) (hrt : (∃ n, rt = .object n) ∨ ∃ t, rt = .array t) (hlk : meth.locks = false) (hmc : mc ≤ MC) (hms : ms ≤ MS) (hd : decode cc pc = .ok (.areturn, 1)) (hk : K (some (va_rf w)) q μ) : z_X p l e R s m args below meth c nL D A (MQ below (z_Qn D A ρ kd K) args s MC MS A) mc ms ρ kd q μ pc lv [va_rf w] := fun H locs ls hS hl => by
  have e : ([va_rf w]).map (z_c ρ) = [va_rf (z_rc ρ w)] := by rw [List.map_cons, z_c_rf]; rfl
  rw [e]
  refine W.widen (k := MC) (n := MS) hmc hms (W.aret G.1 G.2.1 hr hrt (by cases z_rc ρ w; exact Or.inl rfl; exact Or.inr ⟨_, rfl⟩) (fun t ht hW => ⟨⟨some (va_rf w), q, μ, by rw [Option.map_some, z_c_rf], hk, by rw [ht]; exact hS.1⟩, hS.2.2.2.1.F ht⟩) hS.2.2.2.1.2.2 hd hlk)
theorem zx_iretG (G : z_G p c cc s m args own nL D) {MC MS : Nat} {r : Int32} {ρ0 : z_A} {K : Option Value → z_K → z_Q → z_M → Prop} (hr : meth.sig.returnType = some .int) (hlk : meth.locks = false) (hmc : mc ≤ MC) (hms : ms ≤ MS) (he : z_ext ρ0 ρ) (hd : decode cc pc = .ok (.ireturn, 1)) (hk : K (some (.int r)) kd q μ) : z_X p l e R s m args below meth c nL D A (MQ below (z_Qg D A ρ0 K) args s MC MS A) mc ms ρ kd q μ pc lv [.int r] := fun H locs ls hS hl =>
  W.widen (k := MC) (n := MS) hmc hms (W.iret G.1 G.2.1 hr (fun t ht hW => ⟨⟨some (.int r), ρ, kd, q, μ, rfl, hk, he, by rw [ht]; exact hS.1, hS.2.1, hS.2.2.1.moved hW.alike, hS.2.2.2.2.1⟩, hS.2.2.2.1.F ht⟩) hS.2.2.2.1.2.2 hd hlk)
theorem zx_vretG (G : z_G p c cc s m args own nL D) {MC MS : Nat}  {ρ0 : z_A} {K : Option Value → z_K → z_Q → z_M → Prop} (hr : meth.sig.returnType = none) (hlk : meth.locks = false) (hmc : mc ≤ MC) (hms : ms ≤ MS) (he : z_ext ρ0 ρ) (hd : decode cc pc = .ok (.return_, 1)) (hk : K (none) kd q μ) : z_X p l e R s m args below meth c nL D A (MQ below (z_Qg D A ρ0 K) args s MC MS A) mc ms ρ kd q μ pc lv [] := fun H locs ls hS hl =>
  W.widen (k := MC) (n := MS) hmc hms (W.vret G.1 G.2.1 hr (fun t ht hW => ⟨⟨none, ρ, kd, q, μ, rfl, hk, he, by rw [ht]; exact hS.1, hS.2.1, hS.2.2.1.moved hW.alike, hS.2.2.2.2.1⟩, hS.2.2.2.1.F ht⟩) hS.2.2.2.1.2.2 hd hlk)
end ZC
/-- a method's contract out of the walk from its entry -/
theorem z_met {l : Launch} {y : MethodName} {bytes : ByteArray} {maxL : Nat} {ret : Option FieldType} {rm : Room} (hy : plainName y.cls = true) {D : va_G} {ρ : z_A} {kd : z_K} {q : z_Q} {μ : z_M} {sz : Nat} {av : List Value} {K : Option Value → z_Q → z_M → Prop} (hlen : (lg_sl av).length ≤ maxL)
    (body : ∀ (p : Program) (e : Env) (s : State) (m : MethodId) (args : Array Value) (below : List Frame) (meth : Method) (c : Code), z_G p c bytes s m args y.cls maxL D → meth.sig.returnType = ret → meth.locks = false →
      z_X p l e rm s m args below meth c maxL D (z_Rg ρ s.heap.size) (MQ below (z_Qn D (z_Rg ρ s.heap.size) ρ kd K) args s rm.cells rm.slots (z_Rg ρ s.heap.size)) 0 0 ρ kd q μ 0 (lv_args 0 av) []) :
    Met l y (z_ws y bytes maxL ret) rm (z_Pc D ρ kd q μ sz av) (z_Qn D (z_Rg ρ sz) ρ kd K) rm.cells rm.slots (z_Rg ρ sz) := by
  refine Met.ofW (cc := bytes) (maxL := maxL) (ret := ret) hy rfl ?_
  intro p e s m args below meth c s₁ B hml hv
  obtain ⟨rfl, rfl, h3, h4, h5, h6, h7⟩ := hv
  have hts : ∀ w ∈ z_tb, w.before (av.map (z_c ρ)).toArray s = true := fun w hw => atoms_spec (ws := z_ws y bytes maxL ret) B.pre w (List.mem_cons_of_mem _ hw)
  have hb := body p e s m (av.map (z_c ρ)).toArray below meth c ⟨B.exec, B.bytes, hml, findClass_of_methodNamed B.named, hts, h7, h6⟩ B.returns B.notSynchronized
  have hl := lv_entry (av.map (z_c ρ)) (n := maxL) (by rw [z_sllen]; exact hlen)
  rw [z_lvargs] at hl
  have h := hb s.heap [] _ ⟨h3, h4, h5, va_S.rf, fun c x h => Or.inl ⟨c, x, h, rfl⟩, fun x h => Or.inr h⟩ hl
  rw [lg_entry_eq]
  exact h
theorem z_metG {l : Launch} {y : MethodName} {bytes : ByteArray} {maxL : Nat} {ret : Option FieldType} {rm : Room} (hy : plainName y.cls = true) {D : va_G} {ρ : z_A} {kd : z_K} {q : z_Q} {μ : z_M} {sz : Nat} {av : List Value} {K : Option Value → z_K → z_Q → z_M → Prop} (hlen : (lg_sl av).length ≤ maxL)
    (body : ∀ (p : Program) (e : Env) (s : State) (m : MethodId) (args : Array Value) (below : List Frame) (meth : Method) (c : Code), z_G p c bytes s m args y.cls maxL D → meth.sig.returnType = ret → meth.locks = false → meth.name = y.name →
      z_X p l e rm s m args below meth c maxL D (z_Rg ρ s.heap.size) (MQ below (z_Qg D (z_Rg ρ s.heap.size) ρ K) args s rm.cells rm.slots (z_Rg ρ s.heap.size)) 0 0 ρ kd q μ 0 (lv_args 0 av) []) :
    Met l y (z_ws y bytes maxL ret) rm (z_Pc D ρ kd q μ sz av) (z_Qg D (z_Rg ρ sz) ρ K) rm.cells rm.slots (z_Rg ρ sz) := by
  refine Met.ofW (cc := bytes) (maxL := maxL) (ret := ret) hy rfl ?_
  intro p e s m args below meth c s₁ B hml hv
  obtain ⟨rfl, rfl, h3, h4, h5, h6, h7⟩ := hv
  have hts : ∀ w ∈ z_tb, w.before (av.map (z_c ρ)).toArray s = true := fun w hw => atoms_spec (ws := z_ws y bytes maxL ret) B.pre w (List.mem_cons_of_mem _ hw)
  have hb := body p e s m (av.map (z_c ρ)).toArray below meth c ⟨B.exec, B.bytes, hml, findClass_of_methodNamed B.named, hts, h7, h6⟩ B.returns B.notSynchronized (name_of_methodNamed B.named B.method).1
  have hl := lv_entry (av.map (z_c ρ)) (n := maxL) (by rw [z_sllen]; exact hlen)
  rw [z_lvargs] at hl
  have h := hb s.heap [] _ ⟨h3, h4, h5, va_S.rf, fun c x h => Or.inl ⟨c, x, h, rfl⟩, fun x h => Or.inr h⟩ hl
  rw [lg_entry_eq]
  exact h
