/-! THE CLAIM OUT OF ONE WALK OF THE LAW'S BODY. Your part is whole_start (and what it stands on); all else here is the same for every law, but numbers. -/
def R_law : String := "SlateRingLaw"
def lw_P (b : Addr) (xs : List Int32) (args : Array Value) (s : State) : Prop := args = #[.ref b] ∧ s.IntsAt b xs ∧ xs.length ≤ 3584 ∧ (Jvm.Cond.and given_1 narrow_1).before args s = true
def lw_Q (_ : Array Value) (s : State) (o : Outcome) (t : State) : Prop := o = .returned (some (.int 1)) ∧ Framed s o t [] 600000 7302250
def lw_Z (below : List Frame) (a : Array Value) (s : State) : State → Prop := fun t => ∃ o, t.status = .running ∧ Ended t below o ∧ lw_Q a s o t
/-- the law's own end, with 1 on the stack, nothing written that was there before, its room as the claim has it -/
theorem lw_ret {p : Program} {l : Launch} {e : Env} {s : State} {m : MethodId} {below : List Frame} {meth : Method} {c : Code} {b : Nat} (hx : p.tables.exec = Jvm.exec) (hb : c.code = code) (hr : meth.sig.returnType = ret) (hlocks : meth.locks = false) {pc : Nat} {H : Heap} {ls : Array Slot} (hdg : decode code pc = .ok (.ireturn, 1)) : W p l e room_1 s m #[Value.ref b] below meth c H [] 600000 7302250 (lw_Z below #[Value.ref b] s) (F0 m pc ls [.int 1]) := by
  intro T hT X
  obtain ⟨fs, hret, hrun, hended, hW, hframe⟩ := X.leave (v := some (.int 1)) (hlocks := hlocks) (fun h => by rw [hr] at h; cases h)
  have hmeth' : T.vm.method? m = some meth := X.method'
  refine ⟨T.setFrames fs, ?_, .returned (some (.int 1)), hrun, hended, rfl, ⟨_, rfl⟩, hW, hframe⟩
  jvm_step X.here [X.here.top, hx, hb, hdg, hmeth', hr, ret, narrow_b1]
  (try refine ⟨rfl, ?_⟩); (try refine ⟨rfl, ?_⟩)
  first | (intro acts; rw [hret _ acts rfl rfl rfl]) | rw [hret _ _ rfl rfl rfl]
  exact Steps.refl _
/-- what holds at the law's entry: the machine, the code, the tables' words (any of lw_tbl by 'hts w (by decide +kernel)'), the script of L ints xs at the cell b, what the Statement gives of the start (any of its parts by flat_of_before) -/
def lw_At (p : Program) (s : State) (m : MethodId) (meth : Method) (c : Code) (b L : Nat) (xs : Nat → Int32) : Prop :=
  p.tables.exec = Jvm.exec ∧ c.code = code ∧ meth.sig.returnType = ret ∧ c.maxLocals = 4 ∧ s.vm.findClass R_law = some m.cls ∧ (∀ w ∈ lw_tbl, w.before #[Value.ref b] s = true) ∧ va_X b L xs s s.heap ∧ b < s.heap.size ∧ meth.locks = false ∧ (Jvm.Cond.and given_1 narrow_1).before #[Value.ref b] s = true
/-! Two worlds in one heap: the class's and the reference's. -/
abbrev z_Af (s : State) : Nat → Prop := fun q => s.heap.size ≤ q
def z_2 (s : State) (D : va_G) (ρ1 : z_A) (kd1 : z_K) (q1 : z_Q) (μ1 : z_M) (ρ2 : z_A) (kd2 : z_K) (q2 : z_Q) (μ2 : z_M) (H : Heap) (locs : List Loc) : Prop := z_S s D (z_Af s) ρ1 kd1 q1 μ1 H locs ∧ z_S s D (z_Af s) ρ2 kd2 q2 μ2 H locs ∧ ∀ a b x y, ρ1 a = some x → ρ2 b = some y → x.1 ≠ y.1
section Z2
variable {p : Program} {l : Launch} {e : Env} {R : Room} {s : State} {m : MethodId} {args : Array Value} {below : List Frame} {meth : Method} {c : Code} {cc : ByteArray} {own : String} {nL : Nat} {D : va_G} {A : Nat → Prop} {Q : State → Prop} {mc ms mcy msy : Nat} {ρ1 ρ2 : z_A} {kd1 kd2 : z_K} {q1 q2 : z_Q} {μ1 μ2 : z_M} {pc index maxL n ci : Nat} {y : MethodName} {bytes : ByteArray} {ret : Option FieldType} {rm : Room} {H : Heap} {locs : List Loc} {ls : Array Slot} {As rest : List Value} {x0 : Nat × Nat}
theorem z_2.swap (h : z_2 s D ρ1 kd1 q1 μ1 ρ2 kd2 q2 μ2 H locs) : z_2 s D ρ2 kd2 q2 μ2 ρ1 kd1 q1 μ1 H locs := ⟨h.2.1, h.1, fun a b x y h1 h2 e => h.2.2 b a y x h2 h1 e.symm⟩
theorem z_S.lt (h : z_S s D A ρ1 kd1 q1 μ1 H locs) {a : Nat} {x : Nat × Nat} (hx : ρ1 a = some x) : x.1 < H.size := by
  obtain ⟨k, hk⟩ := Option.ne_none_iff_exists'.mp (h.2.1.1 a x hx)
  obtain ⟨x2, h1, h2⟩ := h.1 a k hk
  rw [hx] at h1
  cases h1
  exact z_at_lt h2
/-- the other world behind a call -/
theorem z2_other {H' : Heap} {L : List Loc} (hS : z_2 s D ρ1 kd1 q1 μ1 ρ2 kd2 q2 μ2 H locs) (hz : H.size ≤ H'.size) (hk : ∀ x, x < H.size → ¬ z_Rg ρ1 H.size x → H'[x]? = H[x]?) (hL : ∀ x ∈ L, z_Rg ρ1 H.size x.base) : z_S s D (z_Af s) ρ2 kd2 q2 μ2 H' (locs ++ L) ∧ va_S (z_Af s) s.heap H' (locs ++ L) := by
  have hA := z_Rg_A hS.1
  have lt2 : ∀ b y, ρ2 b = some y → y.1 < H.size := fun b y h => hS.2.1.lt h
  obtain ⟨⟨g1, g2, g3, g4, g5, g6⟩, ⟨f1, f2, f3, f4, f5, f6⟩, dj⟩ := hS
  have v4 : va_S (z_Af s) s.heap H' (locs ++ L) := ⟨Nat.le_trans g4.1 hz, fun x h1 h2 => by rw [hk x (Nat.lt_of_lt_of_le h1 g4.1) (fun z => h2 (hA x z))]; exact g4.2.1 x h1 h2, fun x hx => by
    rcases List.mem_append.mp hx with h | h
    · exact g4.2.2 x h
    · exact hA _ (hL x h)⟩
  refine ⟨⟨fun c kc hc => ?_, f2, f3, v4, f5, f6⟩, v4⟩
  obtain ⟨x, hx, hat⟩ := f1 c kc hc
  refine ⟨x, hx, z_at_kept hat (hk x.1 (lt2 c x hx) fun z => ?_) (fun _ => rfl) (fun _ => rfl) (fun _ => rfl)⟩
  rcases z with ⟨a, y, h1, h2⟩ | h
  · exact dj a c y x h1 hx h2
  · have := lt2 c x hx
    omega
/-- behind a call on the first world that made no cell -/
theorem z2_after {st0 rest : List Value} {K : Option Value → z_Q → z_M → Prop} {a : Array Value} (hr : va_Run p l e R s m args below meth c H locs mc ms mcy msy (F0 m pc ls st0) rest (z_Qn D (z_Rg ρ1 H.size) ρ1 kd1 K a) (z_Rg ρ1 H.size)) (hS : z_2 s D ρ1 kd1 q1 μ1 ρ2 kd2 q2 μ2 H locs)
    (kk : ∀ rv q' μ', K rv q' μ' → ∀ H1 locs1, z_2 s D ρ1 kd1 q' μ' ρ2 kd2 q2 μ2 H1 locs1 → W p l e R s m args below meth c H1 locs1 (mc + mcy) (ms + msy) Q (F0 m (pc + 3) ls ((rv.map (z_c ρ1)).toList ++ rest))) : W p l e R s m args below meth c H locs mc ms Q (F0 m pc ls st0) := by
  intro T hT X
  obtain ⟨v, st₀, t, T', L, h0, X', hL, e1, e2, ⟨⟨rv, q', μ', hv, hK, hH⟩, hz, hk⟩, st⟩ := hr T hT X
  cases hv
  rw [h0] at hz hk
  obtain ⟨o2, v4⟩ := z2_other (H' := T'.heap) (L := L) hS (by rw [e1]; exact hz) (fun x h1 h2 => by rw [e1]; exact hk x h1 h2) hL
  obtain ⟨⟨g1, g2, g3, g4, g5, g6⟩, -, dj⟩ := hS
  obtain ⟨t2, a1, b1⟩ := kk rv q' μ' hK T'.heap (locs ++ L) ⟨⟨by rw [e1]; exact hH, g2, g3, v4, g5, g6⟩, o2, dj⟩ T' rfl X'
  exact ⟨t2, st t2 a1, b1⟩
/-- behind a call on the first world that made cells -/
theorem z2_afterG {st0 rest : List Value} {K : Option Value → z_K → z_Q → z_M → Prop} {a : Array Value} (hr : va_Run p l e R s m args below meth c H locs mc ms mcy msy (F0 m pc ls st0) rest (z_Qg D (z_Rg ρ1 H.size) ρ1 K a) (z_Rg ρ1 H.size)) (hS : z_2 s D ρ1 kd1 q1 μ1 ρ2 kd2 q2 μ2 H locs)
    (kk : ∀ rv ρ' kd' q' μ', K rv kd' q' μ' → z_ext ρ1 ρ' → ∀ H1 locs1, z_2 s D ρ' kd' q' μ' ρ2 kd2 q2 μ2 H1 locs1 → W p l e R s m args below meth c H1 locs1 (mc + mcy) (ms + msy) Q (F0 m (pc + 3) ls ((rv.map (z_c ρ')).toList ++ rest))) : W p l e R s m args below meth c H locs mc ms Q (F0 m pc ls st0) := by
  intro T hT X
  obtain ⟨v, st₀, t, T', L, h0, X', hL, e1, e2, ⟨⟨rv, ρ', kd', q', μ', hv, hK, hE, hH, hW, hAF, hRg⟩, hz, hk⟩, st⟩ := hr T hT X
  cases hv
  rw [h0] at hz hk
  have hA := z_Rg_A hS.1
  have lt2 : ∀ b y, ρ2 b = some y → y.1 < H.size := fun b y h => hS.2.1.lt h
  obtain ⟨o2, v4⟩ := z2_other (H' := T'.heap) (L := L) hS (by rw [e1]; exact hz) (fun x h1 h2 => by rw [e1]; exact hk x h1 h2) hL
  obtain ⟨⟨g1, g2, g3, g4, g5, g6⟩, -, dj⟩ := hS
  obtain ⟨t2, a1, b1⟩ := kk rv ρ' kd' q' μ' hK hE T'.heap (locs ++ L) ⟨⟨by rw [e1]; exact hH, hW, hAF.moved (by rw [← e2]; exact X'.warmed.alike.symm), v4, fun c x h => hA _ (hRg c x h), g6⟩, o2, fun a b x y h1 h2 exy => by
    rcases hRg a x h1 with ⟨a', x', h3, h4⟩ | h3
    · exact dj a' b x' y h3 h2 (by rw [h4]; exact exy)
    · have := lt2 b y h2
      omega⟩ T' rfl X'
  exact ⟨t2, st t2 a1, b1⟩
theorem z2_run (G : z_G p c cc s m args own nL D) {Pq : Array Value → State → Outcome → State → Prop} (hC : z_CV own index y bytes maxL ret n) (hR : rm.frames + 1 ≤ R.frames ∧ 8 + (maxL + 11) + rm.locals ≤ R.locals) (hf : mc + rm.cells ≤ R.cells ∧ ms + rm.slots ≤ R.slots) (hb : kd1 0 = some (.inl ci)) (hci : z_name ci = y.cls) (hM : Met l y (z_ws y bytes maxL ret) rm (z_Pc D ρ1 kd1 q1 μ1 H.size (.ref 0 :: As)) Pq rm.cells rm.slots (z_Rg ρ1 H.size)) (hAs : As.map (z_c ρ1) = As) (hn : As.length = n) (hS : z_2 s D ρ1 kd1 q1 μ1 ρ2 kd2 q2 μ2 H locs) (hx : ρ1 0 = some x0) (hz : ls.size = nL) (hcat : (rest.map fun v => v.category).sum ≤ 8) (hd : decode cc pc = .ok (.invokevirtual index, 3)) :
    va_Run p l e R s m args below meth c H locs mc ms rm.cells rm.slots (F0 m pc ls (As.reverse ++ .ref x0.1 :: rest)) rest (Pq (Value.ref x0.1 :: As).toArray) (z_Rg ρ1 H.size) := by
  obtain ⟨x, hx2, hat, hbx, hAx⟩ := hS.1.obj hb
  rw [hx] at hx2
  cases hx2
  have hrecv : ∃ cellB : Cell, H[x0.1]? = some cellB ∧ cellB.vm.isStatics = false ∧ s.vm.findClass y.cls = some cellB.cls := by
    obtain ⟨r, hr, cell, q1, q2, q3, -⟩ := hat
    refine ⟨cell, q1, by rw [q3]; rfl, ?_⟩
    rw [q2, ← hci]
    unfold z_name
    rw [hr]
    exact (G.2.2.2.2.2.2.1 ci r hr).2.1
  have eav : ((Value.ref 0 :: As).map (z_c ρ1)).toArray = (.ref x0.1 :: As).toArray := by
    rw [List.map_cons, hbx, hAs]
  exact z_run_V (below := below) (meth := meth) (locs := locs) (e := e) G hC hR hf hM (H := H) (b := x0.1) (As := As) (rest := rest) (ls := ls) (pc := pc) ⟨z_blind, hrecv, fun U hU hW => ⟨eav.symm, by rw [hU], by rw [hU]; exact hS.1.1, hS.1.2.1, hS.1.2.2.1.moved hW.alike, va_K.moved hW.alike G.2.2.2.2.2.2, z_nw_warm hW G.2.2.2.2.2.1⟩⟩ hn hz hcat hd
theorem z2_callI (G : z_G p c cc s m args own nL D) {K : Int32 → z_M → Prop} {V : Option Value → z_Q → z_M → Prop} (hV : ∀ rv q' μ', V rv q' μ' → q' = q1 ∧ ∃ r : Int32, rv = some (.int r) ∧ K r μ') (hC : z_CV own index y bytes maxL ret n) (hR : rm.frames + 1 ≤ R.frames ∧ 8 + (maxL + 11) + rm.locals ≤ R.locals) (hc : rm.cells = 0 ∧ rm.slots = 0) (hf : mc ≤ R.cells ∧ ms ≤ R.slots) (hb : kd1 0 = some (.inl ci)) (hci : z_name ci = y.cls) (hM : Met l y (z_ws y bytes maxL ret) rm (z_Pc D ρ1 kd1 q1 μ1 H.size (.ref 0 :: As)) (z_Qn D (z_Rg ρ1 H.size) ρ1 kd1 V) 0 0 (z_Rg ρ1 H.size)) (hAs : As.map (z_c ρ1) = As) (hn : As.length = n) (hS : z_2 s D ρ1 kd1 q1 μ1 ρ2 kd2 q2 μ2 H locs) (hx : ρ1 0 = some x0) (hz : ls.size = nL) (hcat : (rest.map fun v => v.category).sum ≤ 8) (hd : decode cc pc = .ok (.invokevirtual index, 3)) {st0 : List Value} (hst : st0 = As.reverse ++ .ref x0.1 :: rest)
    (kk : ∀ r μ', K r μ' → ∀ H1 locs1, z_2 s D ρ1 kd1 q1 μ' ρ2 kd2 q2 μ2 H1 locs1 → W p l e R s m args below meth c H1 locs1 mc ms Q (F0 m (pc + 3) ls (.int r :: rest))) : W p l e R s m args below meth c H locs mc ms Q (F0 m pc ls st0) := by
  subst hst
  obtain ⟨c1, c2⟩ := hc
  have hr := z2_run (e := e) (below := below) (meth := meth) (ls := ls) (pc := pc) (rest := rest) (locs := locs) (mc := mc) (ms := ms) G hC hR (by rw [c1, c2]; exact hf) hb hci (by rw [c1, c2]; exact hM) hAs hn hS hx hz hcat hd
  rw [c1, c2] at hr
  refine z2_after hr hS fun rv q' μ' hK H1 locs1 h2 => ?_
  obtain ⟨rfl, r, rfl, hK2⟩ := hV rv q' μ' hK
  exact kk r μ' hK2 H1 locs1 h2
theorem z2_callL (G : z_G p c cc s m args own nL D) {K : Int64 → z_M → Prop} {V : Option Value → z_Q → z_M → Prop} (hV : ∀ rv q' μ', V rv q' μ' → q' = q1 ∧ ∃ r : Int64, rv = some (.long r) ∧ K r μ') (hC : z_CV own index y bytes maxL ret n) (hR : rm.frames + 1 ≤ R.frames ∧ 8 + (maxL + 11) + rm.locals ≤ R.locals) (hc : rm.cells = 0 ∧ rm.slots = 0) (hf : mc ≤ R.cells ∧ ms ≤ R.slots) (hb : kd1 0 = some (.inl ci)) (hci : z_name ci = y.cls) (hM : Met l y (z_ws y bytes maxL ret) rm (z_Pc D ρ1 kd1 q1 μ1 H.size (.ref 0 :: As)) (z_Qn D (z_Rg ρ1 H.size) ρ1 kd1 V) 0 0 (z_Rg ρ1 H.size)) (hAs : As.map (z_c ρ1) = As) (hn : As.length = n) (hS : z_2 s D ρ1 kd1 q1 μ1 ρ2 kd2 q2 μ2 H locs) (hx : ρ1 0 = some x0) (hz : ls.size = nL) (hcat : (rest.map fun v => v.category).sum ≤ 8) (hd : decode cc pc = .ok (.invokevirtual index, 3)) {st0 : List Value} (hst : st0 = As.reverse ++ .ref x0.1 :: rest)
    (kk : ∀ r μ', K r μ' → ∀ H1 locs1, z_2 s D ρ1 kd1 q1 μ' ρ2 kd2 q2 μ2 H1 locs1 → W p l e R s m args below meth c H1 locs1 mc ms Q (F0 m (pc + 3) ls (.long r :: rest))) : W p l e R s m args below meth c H locs mc ms Q (F0 m pc ls st0) := by
  subst hst
  obtain ⟨c1, c2⟩ := hc
  have hr := z2_run (e := e) (below := below) (meth := meth) (ls := ls) (pc := pc) (rest := rest) (locs := locs) (mc := mc) (ms := ms) G hC hR (by rw [c1, c2]; exact hf) hb hci (by rw [c1, c2]; exact hM) hAs hn hS hx hz hcat hd
  rw [c1, c2] at hr
  refine z2_after hr hS fun rv q' μ' hK H1 locs1 h2 => ?_
  obtain ⟨rfl, r, rfl, hK2⟩ := hV rv q' μ' hK
  exact kk r μ' hK2 H1 locs1 h2
theorem z2_callQ (G : z_G p c cc s m args own nL D) {K : Int32 → z_Q → z_M → Prop} (hC : z_CV own index y bytes maxL ret n) (hR : rm.frames + 1 ≤ R.frames ∧ 8 + (maxL + 11) + rm.locals ≤ R.locals) (hc : rm.cells = 0 ∧ rm.slots = 0) (hf : mc ≤ R.cells ∧ ms ≤ R.slots) (hb : kd1 0 = some (.inl ci)) (hci : z_name ci = y.cls) (hM : Met l y (z_ws y bytes maxL ret) rm (z_Pc D ρ1 kd1 q1 μ1 H.size (.ref 0 :: As)) (z_Qn D (z_Rg ρ1 H.size) ρ1 kd1 (z_KiQ kd1 K)) 0 0 (z_Rg ρ1 H.size)) (hAs : As.map (z_c ρ1) = As) (hn : As.length = n) (hS : z_2 s D ρ1 kd1 q1 μ1 ρ2 kd2 q2 μ2 H locs) (hx : ρ1 0 = some x0) (hz : ls.size = nL) (hcat : (rest.map fun v => v.category).sum ≤ 8) (hd : decode cc pc = .ok (.invokevirtual index, 3)) {st0 : List Value} (hst : st0 = As.reverse ++ .ref x0.1 :: rest)
    (kk : ∀ r q' μ', K r q' μ' → ∀ H1 locs1, z_2 s D ρ1 kd1 q' μ' ρ2 kd2 q2 μ2 H1 locs1 → W p l e R s m args below meth c H1 locs1 mc ms Q (F0 m (pc + 3) ls (.int r :: rest))) : W p l e R s m args below meth c H locs mc ms Q (F0 m pc ls st0) := by
  subst hst
  obtain ⟨c1, c2⟩ := hc
  have hr := z2_run (e := e) (below := below) (meth := meth) (ls := ls) (pc := pc) (rest := rest) (locs := locs) (mc := mc) (ms := ms) G hC hR (by rw [c1, c2]; exact hf) hb hci (by rw [c1, c2]; exact hM) hAs hn hS hx hz hcat hd
  rw [c1, c2] at hr
  refine z2_after hr hS fun rv q' μ' hK H1 locs1 h2 => ?_
  obtain ⟨hI, r, rfl, hK⟩ := hK
  exact kk r q' μ' hK H1 locs1 h2
theorem z2_callG (G : z_G p c cc s m args own nL D) {K : Int32 → z_K → z_Q → z_M → Prop} (hC : z_CV own index y bytes maxL ret n) (hR : rm.frames + 1 ≤ R.frames ∧ 8 + (maxL + 11) + rm.locals ≤ R.locals) (hf : mc + rm.cells ≤ R.cells ∧ ms + rm.slots ≤ R.slots) (hb : kd1 0 = some (.inl ci)) (hci : z_name ci = y.cls) (hM : Met l y (z_ws y bytes maxL ret) rm (z_Pc D ρ1 kd1 q1 μ1 H.size (.ref 0 :: As)) (z_Qg D (z_Rg ρ1 H.size) ρ1 (z_KiG kd1 K)) rm.cells rm.slots (z_Rg ρ1 H.size)) (hAs : As.map (z_c ρ1) = As) (hn : As.length = n) (hS : z_2 s D ρ1 kd1 q1 μ1 ρ2 kd2 q2 μ2 H locs) (hx : ρ1 0 = some x0) (hz : ls.size = nL) (hcat : (rest.map fun v => v.category).sum ≤ 8) (hd : decode cc pc = .ok (.invokevirtual index, 3)) {st0 : List Value} (hst : st0 = As.reverse ++ .ref x0.1 :: rest)
    (kk : ∀ r ρ' kd' q' μ', K r kd' q' μ' → z_ext ρ1 ρ' → ∀ H1 locs1, z_2 s D ρ' kd' q' μ' ρ2 kd2 q2 μ2 H1 locs1 → W p l e R s m args below meth c H1 locs1 (mc + rm.cells) (ms + rm.slots) Q (F0 m (pc + 3) ls (.int r :: rest))) : W p l e R s m args below meth c H locs mc ms Q (F0 m pc ls st0) := by
  subst hst
  have hr := z2_run (e := e) (below := below) (meth := meth) (ls := ls) (pc := pc) (rest := rest) (locs := locs) (mc := mc) (ms := ms) G hC hR hf hb hci hM hAs hn hS hx hz hcat hd
  refine z2_afterG hr hS fun rv ρ' kd' q' μ' hK hE H1 locs1 h2 => ?_
  obtain ⟨r, rfl, hx, hK⟩ := hK
  exact kk r ρ' kd' q' μ' hK hE H1 locs1 h2
/-- the law's worlds between two calls -/
def LwW (s : State) (D : va_G) (S : z_SS) (x1 x2 : Nat) (H : Heap) (locs : List Loc) : Prop := ∃ ρ1 kd1 q1 μ1 ρ2 kd2 q2 μ2, KQ S kd1 q1 ∧ RepV S μ1 ∧ z_I kd2 q2 ∧ kd2 0 = some (.inl 12) ∧ RepR S μ2 ∧ z_2 s D ρ1 kd1 q1 μ1 ρ2 kd2 q2 μ2 H locs ∧ (∃ y, ρ1 0 = some (x1, y)) ∧ ∃ y, ρ2 0 = some (x2, y)
/-- an int of the script laid on the stack -/
theorem lw_arg {b L k t : Nat} {xs : Nat → Int32} {st : List Value} (hexec : p.tables.exec = Jvm.exec) (hb : c.code = cc) (hX : va_X b L xs s s.heap) (hbl : b < s.heap.size) (hL : L ≤ 3584) (hS : va_S (z_Af s) s.heap H locs) (ht : 7 * k + t < L) (h0 : ls[0]? = some (.val (.ref b))) (h3 : ls[3]? = some (.val (.int (nI (7 * k))))) {tn : Int} (htn : Int32.ofInt tn = nI t) (d0 : decode cc pc = .ok (.aload_n 0, 1)) (d1 : decode cc (pc + 1) = .ok (.iload_n 3, 1)) (d2 : decode cc (pc + 2) = .ok (.iconst tn, 1)) (d3 : decode cc (pc + 3) = .ok (.iadd, 1)) (d4 : decode cc (pc + 4) = .ok (.iaload, 1)) (kk : W p l e R s m args below meth c H locs mc ms Q (F0 m (pc + 5) ls (.int (xs (7 * k + t)) :: st))) : W p l e R s m args below meth c H locs mc ms Q (F0 m pc ls st) := by
  refine lv_aload_n hexec hb d0 rfl h0 (lv_iload_n hexec hb d1 rfl h3 (lv_iconst hexec hb d2 htn (lv_iadd hexec hb d3 ?_)))
  rw [nI_add]
  refine va_sld hexec hb hX hbl (Nat.not_le.mpr hbl) hS (nI_vin ht (by omega)) d4 ?_
  rw [nI_clamp (by omega)]
  exact kk
theorem lw_arg6 {b L k t : Nat} {xs : Nat → Int32} {st : List Value} (hexec : p.tables.exec = Jvm.exec) (hb : c.code = cc) (hX : va_X b L xs s s.heap) (hbl : b < s.heap.size) (hL : L ≤ 3584) (hS : va_S (z_Af s) s.heap H locs) (ht : 7 * k + t < L) (h0 : ls[0]? = some (.val (.ref b))) (h3 : ls[3]? = some (.val (.int (nI (7 * k))))) {tn : Int} (htn : (Int8.ofInt tn).toInt32 = nI t) (d0 : decode cc pc = .ok (.aload_n 0, 1)) (d1 : decode cc (pc + 1) = .ok (.iload_n 3, 1)) (d2 : decode cc (pc + 2) = .ok (.bipush tn, 2)) (d3 : decode cc (pc + 4) = .ok (.iadd, 1)) (d4 : decode cc (pc + 5) = .ok (.iaload, 1)) (kk : W p l e R s m args below meth c H locs mc ms Q (F0 m (pc + 6) ls (.int (xs (7 * k + t)) :: st))) : W p l e R s m args below meth c H locs mc ms Q (F0 m pc ls st) := by
  refine lv_aload_n hexec hb d0 rfl h0 (lv_iload_n hexec hb d1 rfl h3 (lv_bipush hexec hb d2 htn (lv_iadd hexec hb d3 ?_)))
  rw [nI_add]
  refine va_sld hexec hb hX hbl (Nat.not_le.mpr hbl) hS (nI_vin ht (by omega)) d4 ?_
  rw [nI_clamp (by omega)]
  exact kk
end Z2
theorem cw_law_9 : z_CI R_law 9 yX11_init cX11_init 1 0 := ⟨Or.inl (z_in 185 (by decide +kernel) rfl), z_in 186 (by decide +kernel) rfl, z_in 166 (by decide +kernel) rfl, z_in 187 (by decide +kernel) rfl, by decide, by decide, by decide +kernel, rfl⟩
theorem cw_law_12 : z_CI R_law 12 yX12_init cX12_init 2 0 := ⟨Or.inl (z_in 1207 (by decide +kernel) rfl), z_in 1208 (by decide +kernel) rfl, z_in 175 (by decide +kernel) rfl, z_in 1209 (by decide +kernel) rfl, by decide, by decide, by decide +kernel, rfl⟩
theorem cw_law_13 : z_CV R_law 13 yX11_now cX11_now 4 (Option.some Jvm.ClassFile.FieldType.boolean) 1 := ⟨Or.inl (z_in 443 (by decide +kernel) rfl), z_in 444 (by decide +kernel) rfl, z_in 445 (by decide +kernel) rfl, z_in 166 (by decide +kernel) rfl, z_in 446 (by decide +kernel) rfl, by decide, by decide, by decide +kernel⟩
theorem cw_law_17 : z_CV R_law 17 yX12_now cX12_now 5 (Option.some Jvm.ClassFile.FieldType.boolean) 1 := ⟨Or.inl (z_in 1715 (by decide +kernel) rfl), z_in 1716 (by decide +kernel) rfl, z_in 1717 (by decide +kernel) rfl, z_in 175 (by decide +kernel) rfl, z_in 1718 (by decide +kernel) rfl, by decide, by decide, by decide +kernel⟩
theorem cw_law_18 : z_CV R_law 18 yX11_race cX11_race 2 (Option.some Jvm.ClassFile.FieldType.int) 1 := ⟨Or.inl (z_in 512 (by decide +kernel) rfl), z_in 513 (by decide +kernel) rfl, z_in 514 (by decide +kernel) rfl, z_in 166 (by decide +kernel) rfl, z_in 515 (by decide +kernel) rfl, by decide, by decide, by decide +kernel⟩
theorem cw_law_22 : z_CV R_law 22 yX12_race cX12_race 2 (Option.some Jvm.ClassFile.FieldType.int) 1 := ⟨Or.inl (z_in 1398 (by decide +kernel) rfl), z_in 1399 (by decide +kernel) rfl, z_in 1400 (by decide +kernel) rfl, z_in 175 (by decide +kernel) rfl, z_in 1401 (by decide +kernel) rfl, by decide, by decide, by decide +kernel⟩
theorem cw_law_23 : z_CV R_law 23 yX11_book cX11_book 2 (Option.some Jvm.ClassFile.FieldType.int) 1 := ⟨Or.inl (z_in 561 (by decide +kernel) rfl), z_in 562 (by decide +kernel) rfl, z_in 563 (by decide +kernel) rfl, z_in 166 (by decide +kernel) rfl, z_in 564 (by decide +kernel) rfl, by decide, by decide, by decide +kernel⟩
theorem cw_law_26 : z_CV R_law 26 yX12_book cX12_book 2 (Option.some Jvm.ClassFile.FieldType.int) 1 := ⟨Or.inl (z_in 1407 (by decide +kernel) rfl), z_in 1408 (by decide +kernel) rfl, z_in 1409 (by decide +kernel) rfl, z_in 175 (by decide +kernel) rfl, z_in 1410 (by decide +kernel) rfl, by decide, by decide, by decide +kernel⟩
theorem cw_law_27 : z_CV R_law 27 yX11_feed cX11_feed 6 (Option.some Jvm.ClassFile.FieldType.int) 5 := ⟨Or.inl (z_in 617 (by decide +kernel) rfl), z_in 618 (by decide +kernel) rfl, z_in 619 (by decide +kernel) rfl, z_in 166 (by decide +kernel) rfl, z_in 620 (by decide +kernel) rfl, by decide, by decide, by decide +kernel⟩
theorem cw_law_31 : z_CV R_law 31 yX12_feed cX12_feed 6 (Option.some Jvm.ClassFile.FieldType.int) 5 := ⟨Or.inl (z_in 1412 (by decide +kernel) rfl), z_in 1413 (by decide +kernel) rfl, z_in 1414 (by decide +kernel) rfl, z_in 175 (by decide +kernel) rfl, z_in 1415 (by decide +kernel) rfl, by decide, by decide, by decide +kernel⟩
theorem cw_law_32 : z_CV R_law 32 yX11_ladder cX11_ladder 2 (Option.some Jvm.ClassFile.FieldType.boolean) 1 := ⟨Or.inl (z_in 629 (by decide +kernel) rfl), z_in 630 (by decide +kernel) rfl, z_in 631 (by decide +kernel) rfl, z_in 166 (by decide +kernel) rfl, z_in 632 (by decide +kernel) rfl, by decide, by decide, by decide +kernel⟩
theorem cw_law_35 : z_CV R_law 35 yX12_ladder cX12_ladder 5 (Option.some Jvm.ClassFile.FieldType.boolean) 1 := ⟨Or.inl (z_in 1420 (by decide +kernel) rfl), z_in 1421 (by decide +kernel) rfl, z_in 1422 (by decide +kernel) rfl, z_in 175 (by decide +kernel) rfl, z_in 1423 (by decide +kernel) rfl, by decide, by decide, by decide +kernel⟩
theorem cw_law_36 : z_CV R_law 36 yX11_way cX11_way 5 (Option.some Jvm.ClassFile.FieldType.int) 2 := ⟨Or.inl (z_in 646 (by decide +kernel) rfl), z_in 647 (by decide +kernel) rfl, z_in 648 (by decide +kernel) rfl, z_in 166 (by decide +kernel) rfl, z_in 649 (by decide +kernel) rfl, by decide, by decide, by decide +kernel⟩
theorem cw_law_40 : z_CV R_law 40 yX12_way cX12_way 5 (Option.some Jvm.ClassFile.FieldType.int) 2 := ⟨Or.inl (z_in 1554 (by decide +kernel) rfl), z_in 1555 (by decide +kernel) rfl, z_in 1556 (by decide +kernel) rfl, z_in 175 (by decide +kernel) rfl, z_in 1557 (by decide +kernel) rfl, by decide, by decide, by decide +kernel⟩
theorem cw_law_41 : z_CV R_law 41 yX11_slate cX11_slate 7 (Option.some Jvm.ClassFile.FieldType.boolean) 4 := ⟨Or.inl (z_in 748 (by decide +kernel) rfl), z_in 749 (by decide +kernel) rfl, z_in 750 (by decide +kernel) rfl, z_in 166 (by decide +kernel) rfl, z_in 751 (by decide +kernel) rfl, by decide, by decide, by decide +kernel⟩
theorem cw_law_45 : z_CV R_law 45 yX12_slate cX12_slate 5 (Option.some Jvm.ClassFile.FieldType.boolean) 4 := ⟨Or.inl (z_in 1427 (by decide +kernel) rfl), z_in 1428 (by decide +kernel) rfl, z_in 1429 (by decide +kernel) rfl, z_in 175 (by decide +kernel) rfl, z_in 1430 (by decide +kernel) rfl, by decide, by decide, by decide +kernel⟩
theorem cw_law_46 : z_CV R_law 46 yX11_step cX11_step 6 (Option.some Jvm.ClassFile.FieldType.int) 3 := ⟨Or.inl (z_in 753 (by decide +kernel) rfl), z_in 754 (by decide +kernel) rfl, z_in 755 (by decide +kernel) rfl, z_in 166 (by decide +kernel) rfl, z_in 756 (by decide +kernel) rfl, by decide, by decide, by decide +kernel⟩
theorem cw_law_50 : z_CV R_law 50 yX12_step cX12_step 4 (Option.some Jvm.ClassFile.FieldType.int) 3 := ⟨Or.inl (z_in 1454 (by decide +kernel) rfl), z_in 1455 (by decide +kernel) rfl, z_in 1456 (by decide +kernel) rfl, z_in 175 (by decide +kernel) rfl, z_in 1457 (by decide +kernel) rfl, by decide, by decide, by decide +kernel⟩
theorem cw_law_51 : z_CV R_law 51 yX11_bet cX11_bet 9 (Option.some Jvm.ClassFile.FieldType.int) 6 := ⟨Or.inl (z_in 758 (by decide +kernel) rfl), z_in 759 (by decide +kernel) rfl, z_in 760 (by decide +kernel) rfl, z_in 166 (by decide +kernel) rfl, z_in 761 (by decide +kernel) rfl, by decide, by decide, by decide +kernel⟩
theorem cw_law_55 : z_CV R_law 55 yX12_bet cX12_bet 7 (Option.some Jvm.ClassFile.FieldType.int) 6 := ⟨Or.inl (z_in 1458 (by decide +kernel) rfl), z_in 1459 (by decide +kernel) rfl, z_in 1460 (by decide +kernel) rfl, z_in 175 (by decide +kernel) rfl, z_in 1461 (by decide +kernel) rfl, by decide, by decide, by decide +kernel⟩
theorem cw_law_56 : z_CV R_law 56 yX11_joined cX11_joined 9 (Option.some Jvm.ClassFile.FieldType.int) 6 := ⟨Or.inl (z_in 865 (by decide +kernel) rfl), z_in 866 (by decide +kernel) rfl, z_in 867 (by decide +kernel) rfl, z_in 166 (by decide +kernel) rfl, z_in 868 (by decide +kernel) rfl, by decide, by decide, by decide +kernel⟩
theorem cw_law_59 : z_CV R_law 59 yX12_joined cX12_joined 10 (Option.some Jvm.ClassFile.FieldType.int) 6 := ⟨Or.inl (z_in 1537 (by decide +kernel) rfl), z_in 1538 (by decide +kernel) rfl, z_in 1539 (by decide +kernel) rfl, z_in 175 (by decide +kernel) rfl, z_in 1540 (by decide +kernel) rfl, by decide, by decide, by decide +kernel⟩
theorem cw_law_60 : z_CV R_law 60 yX11_scratch cX11_scratch 6 (Option.some Jvm.ClassFile.FieldType.boolean) 2 := ⟨Or.inl (z_in 877 (by decide +kernel) rfl), z_in 878 (by decide +kernel) rfl, z_in 879 (by decide +kernel) rfl, z_in 166 (by decide +kernel) rfl, z_in 880 (by decide +kernel) rfl, by decide, by decide, by decide +kernel⟩
theorem cw_law_64 : z_CV R_law 64 yX12_scratch cX12_scratch 4 (Option.some Jvm.ClassFile.FieldType.boolean) 2 := ⟨Or.inl (z_in 1649 (by decide +kernel) rfl), z_in 1650 (by decide +kernel) rfl, z_in 1651 (by decide +kernel) rfl, z_in 175 (by decide +kernel) rfl, z_in 1652 (by decide +kernel) rfl, by decide, by decide, by decide +kernel⟩
theorem cw_law_65 : z_CV R_law 65 yX11_run cX11_run 8 (Option.some Jvm.ClassFile.FieldType.int) 3 := ⟨Or.inl (z_in 907 (by decide +kernel) rfl), z_in 908 (by decide +kernel) rfl, z_in 909 (by decide +kernel) rfl, z_in 166 (by decide +kernel) rfl, z_in 910 (by decide +kernel) rfl, by decide, by decide, by decide +kernel⟩
theorem cw_law_68 : z_CV R_law 68 yX12_run cX12_run 7 (Option.some Jvm.ClassFile.FieldType.int) 3 := ⟨Or.inl (z_in 1656 (by decide +kernel) rfl), z_in 1657 (by decide +kernel) rfl, z_in 1658 (by decide +kernel) rfl, z_in 175 (by decide +kernel) rfl, z_in 1659 (by decide +kernel) rfl, by decide, by decide, by decide +kernel⟩
theorem cw_law_69 : z_CV R_law 69 yX11_balance cX11_balance 6 (Option.some Jvm.ClassFile.FieldType.int) 3 := ⟨Or.inl (z_in 974 (by decide +kernel) rfl), z_in 975 (by decide +kernel) rfl, z_in 976 (by decide +kernel) rfl, z_in 166 (by decide +kernel) rfl, z_in 977 (by decide +kernel) rfl, by decide, by decide, by decide +kernel⟩
theorem cw_law_72 : z_CV R_law 72 yX12_balance cX12_balance 4 (Option.some Jvm.ClassFile.FieldType.int) 3 := ⟨Or.inl (z_in 1541 (by decide +kernel) rfl), z_in 1542 (by decide +kernel) rfl, z_in 1543 (by decide +kernel) rfl, z_in 175 (by decide +kernel) rfl, z_in 1544 (by decide +kernel) rfl, by decide, by decide, by decide +kernel⟩
theorem cw_law_73 : z_CV R_law 73 yX11_round cX11_round 5 (Option.some Jvm.ClassFile.FieldType.long) 3 := ⟨Or.inl (z_in 984 (by decide +kernel) rfl), z_in 985 (by decide +kernel) rfl, z_in 986 (by decide +kernel) rfl, z_in 166 (by decide +kernel) rfl, z_in 987 (by decide +kernel) rfl, by decide, by decide, by decide +kernel⟩
theorem cw_law_77 : z_CV R_law 77 yX12_round cX12_round 4 (Option.some Jvm.ClassFile.FieldType.long) 3 := ⟨Or.inl (z_in 1550 (by decide +kernel) rfl), z_in 1551 (by decide +kernel) rfl, z_in 1552 (by decide +kernel) rfl, z_in 175 (by decide +kernel) rfl, z_in 1553 (by decide +kernel) rfl, by decide, by decide, by decide +kernel⟩
theorem cw_law_78 : z_CV R_law 78 yX11_has cX11_has 4 (Option.some Jvm.ClassFile.FieldType.int) 2 := ⟨Or.inl (z_in 1000 (by decide +kernel) rfl), z_in 1001 (by decide +kernel) rfl, z_in 1002 (by decide +kernel) rfl, z_in 166 (by decide +kernel) rfl, z_in 1003 (by decide +kernel) rfl, by decide, by decide, by decide +kernel⟩
theorem cw_law_81 : z_CV R_law 81 yX12_has cX12_has 3 (Option.some Jvm.ClassFile.FieldType.int) 2 := ⟨Or.inl (z_in 1699 (by decide +kernel) rfl), z_in 1700 (by decide +kernel) rfl, z_in 1701 (by decide +kernel) rfl, z_in 175 (by decide +kernel) rfl, z_in 1702 (by decide +kernel) rfl, by decide, by decide, by decide +kernel⟩
theorem cw_law_82 : z_CV R_law 82 yX11_deduction cX11_deduction 3 (Option.some Jvm.ClassFile.FieldType.int) 1 := ⟨Or.inl (z_in 1004 (by decide +kernel) rfl), z_in 1005 (by decide +kernel) rfl, z_in 1006 (by decide +kernel) rfl, z_in 166 (by decide +kernel) rfl, z_in 1007 (by decide +kernel) rfl, by decide, by decide, by decide +kernel⟩
theorem cw_law_85 : z_CV R_law 85 yX12_deduction cX12_deduction 2 (Option.some Jvm.ClassFile.FieldType.int) 1 := ⟨Or.inl (z_in 1707 (by decide +kernel) rfl), z_in 1708 (by decide +kernel) rfl, z_in 1709 (by decide +kernel) rfl, z_in 175 (by decide +kernel) rfl, z_in 1710 (by decide +kernel) rfl, by decide, by decide, by decide +kernel⟩
theorem cw_law_86 : z_CV R_law 86 yX11_bookIs cX11_bookIs 4 (Option.some Jvm.ClassFile.FieldType.int) 2 := ⟨Or.inl (z_in 1008 (by decide +kernel) rfl), z_in 1009 (by decide +kernel) rfl, z_in 1010 (by decide +kernel) rfl, z_in 166 (by decide +kernel) rfl, z_in 1011 (by decide +kernel) rfl, by decide, by decide, by decide +kernel⟩
theorem cw_law_89 : z_CV R_law 89 yX12_bookIs cX12_bookIs 5 (Option.some Jvm.ClassFile.FieldType.int) 2 := ⟨Or.inl (z_in 1711 (by decide +kernel) rfl), z_in 1712 (by decide +kernel) rfl, z_in 1713 (by decide +kernel) rfl, z_in 175 (by decide +kernel) rfl, z_in 1714 (by decide +kernel) rfl, by decide, by decide, by decide +kernel⟩
theorem cw_law_90 : z_CV R_law 90 yX11_sure cX11_sure 2 (Option.some Jvm.ClassFile.FieldType.int) 1 := ⟨Or.inl (z_in 1012 (by decide +kernel) rfl), z_in 1013 (by decide +kernel) rfl, z_in 1014 (by decide +kernel) rfl, z_in 166 (by decide +kernel) rfl, z_in 1015 (by decide +kernel) rfl, by decide, by decide, by decide +kernel⟩
theorem cw_law_93 : z_CV R_law 93 yX12_sure cX12_sure 2 (Option.some Jvm.ClassFile.FieldType.int) 1 := ⟨Or.inl (z_in 1732 (by decide +kernel) rfl), z_in 1733 (by decide +kernel) rfl, z_in 1734 (by decide +kernel) rfl, z_in 175 (by decide +kernel) rfl, z_in 1735 (by decide +kernel) rfl, by decide, by decide, by decide +kernel⟩
theorem cw_law_94 : z_CV R_law 94 yX11_stood cX11_stood 4 (Option.some Jvm.ClassFile.FieldType.int) 2 := ⟨Or.inl (z_in 1016 (by decide +kernel) rfl), z_in 1017 (by decide +kernel) rfl, z_in 1018 (by decide +kernel) rfl, z_in 166 (by decide +kernel) rfl, z_in 1019 (by decide +kernel) rfl, by decide, by decide, by decide +kernel⟩
theorem cw_law_97 : z_CV R_law 97 yX12_stood cX12_stood 10 (Option.some Jvm.ClassFile.FieldType.int) 2 := ⟨Or.inl (z_in 1736 (by decide +kernel) rfl), z_in 1737 (by decide +kernel) rfl, z_in 1738 (by decide +kernel) rfl, z_in 175 (by decide +kernel) rfl, z_in 1739 (by decide +kernel) rfl, by decide, by decide, by decide +kernel⟩
theorem cw_law_98 : z_CV R_law 98 yX11_most cX11_most 7 (Option.some Jvm.ClassFile.FieldType.int) 3 := ⟨Or.inl (z_in 1020 (by decide +kernel) rfl), z_in 1021 (by decide +kernel) rfl, z_in 1022 (by decide +kernel) rfl, z_in 166 (by decide +kernel) rfl, z_in 1023 (by decide +kernel) rfl, by decide, by decide, by decide +kernel⟩
theorem cw_law_101 : z_CV R_law 101 yX12_most cX12_most 8 (Option.some Jvm.ClassFile.FieldType.int) 3 := ⟨Or.inl (z_in 1741 (by decide +kernel) rfl), z_in 1742 (by decide +kernel) rfl, z_in 1743 (by decide +kernel) rfl, z_in 175 (by decide +kernel) rfl, z_in 1744 (by decide +kernel) rfl, by decide, by decide, by decide +kernel⟩
theorem cw_law_102 : z_CV R_law 102 yX11_layOff cX11_layOff 7 (Option.some Jvm.ClassFile.FieldType.int) 4 := ⟨Or.inl (z_in 1051 (by decide +kernel) rfl), z_in 1052 (by decide +kernel) rfl, z_in 1053 (by decide +kernel) rfl, z_in 166 (by decide +kernel) rfl, z_in 1054 (by decide +kernel) rfl, by decide, by decide, by decide +kernel⟩
theorem cw_law_106 : z_CV R_law 106 yX12_layOff cX12_layOff 14 (Option.some Jvm.ClassFile.FieldType.int) 4 := ⟨Or.inl (z_in 1754 (by decide +kernel) rfl), z_in 1755 (by decide +kernel) rfl, z_in 1756 (by decide +kernel) rfl, z_in 175 (by decide +kernel) rfl, z_in 1757 (by decide +kernel) rfl, by decide, by decide, by decide +kernel⟩
theorem cw_law_107 : z_CV R_law 107 yX11_plan cX11_plan 9 (Option.some Jvm.ClassFile.FieldType.int) 6 := ⟨Or.inl (z_in 1075 (by decide +kernel) rfl), z_in 1076 (by decide +kernel) rfl, z_in 1077 (by decide +kernel) rfl, z_in 166 (by decide +kernel) rfl, z_in 1078 (by decide +kernel) rfl, by decide, by decide, by decide +kernel⟩
theorem cw_law_110 : z_CV R_law 110 yX12_plan cX12_plan 11 (Option.some Jvm.ClassFile.FieldType.int) 6 := ⟨Or.inl (z_in 1763 (by decide +kernel) rfl), z_in 1764 (by decide +kernel) rfl, z_in 1765 (by decide +kernel) rfl, z_in 175 (by decide +kernel) rfl, z_in 1766 (by decide +kernel) rfl, by decide, by decide, by decide +kernel⟩
theorem cw_law_111 : z_CV R_law 111 yX11_together cX11_together 5 (Option.some Jvm.ClassFile.FieldType.int) 4 := ⟨Or.inl (z_in 1112 (by decide +kernel) rfl), z_in 1113 (by decide +kernel) rfl, z_in 1114 (by decide +kernel) rfl, z_in 166 (by decide +kernel) rfl, z_in 1115 (by decide +kernel) rfl, by decide, by decide, by decide +kernel⟩
theorem cw_law_114 : z_CV R_law 114 yX12_together cX12_together 5 (Option.some Jvm.ClassFile.FieldType.int) 4 := ⟨Or.inl (z_in 1772 (by decide +kernel) rfl), z_in 1773 (by decide +kernel) rfl, z_in 1774 (by decide +kernel) rfl, z_in 175 (by decide +kernel) rfl, z_in 1775 (by decide +kernel) rfl, by decide, by decide, by decide +kernel⟩
theorem cw_law_115 : z_CV R_law 115 yX11_purse cX11_purse 4 (Option.some Jvm.ClassFile.FieldType.int) 3 := ⟨Or.inl (z_in 1141 (by decide +kernel) rfl), z_in 1142 (by decide +kernel) rfl, z_in 1143 (by decide +kernel) rfl, z_in 166 (by decide +kernel) rfl, z_in 1144 (by decide +kernel) rfl, by decide, by decide, by decide +kernel⟩
theorem cw_law_118 : z_CV R_law 118 yX12_purse cX12_purse 8 (Option.some Jvm.ClassFile.FieldType.int) 3 := ⟨Or.inl (z_in 1787 (by decide +kernel) rfl), z_in 1788 (by decide +kernel) rfl, z_in 1789 (by decide +kernel) rfl, z_in 175 (by decide +kernel) rfl, z_in 1790 (by decide +kernel) rfl, by decide, by decide, by decide +kernel⟩
theorem cw_law_119 : z_CV R_law 119 yX11_knew cX11_knew 7 (Option.some Jvm.ClassFile.FieldType.int) 2 := ⟨Or.inl (z_in 1153 (by decide +kernel) rfl), z_in 1154 (by decide +kernel) rfl, z_in 1155 (by decide +kernel) rfl, z_in 166 (by decide +kernel) rfl, z_in 1156 (by decide +kernel) rfl, by decide, by decide, by decide +kernel⟩
theorem cw_law_122 : z_CV R_law 122 yX12_knew cX12_knew 9 (Option.some Jvm.ClassFile.FieldType.int) 2 := ⟨Or.inl (z_in 1791 (by decide +kernel) rfl), z_in 1792 (by decide +kernel) rfl, z_in 1793 (by decide +kernel) rfl, z_in 175 (by decide +kernel) rfl, z_in 1794 (by decide +kernel) rfl, by decide, by decide, by decide +kernel⟩
theorem cw_law_123 : z_CV R_law 123 yX11_chance cX11_chance 13 (Option.some Jvm.ClassFile.FieldType.long) 3 := ⟨Or.inl (z_in 1165 (by decide +kernel) rfl), z_in 1166 (by decide +kernel) rfl, z_in 1167 (by decide +kernel) rfl, z_in 166 (by decide +kernel) rfl, z_in 1168 (by decide +kernel) rfl, by decide, by decide, by decide +kernel⟩
theorem cw_law_126 : z_CV R_law 126 yX12_chance cX12_chance 18 (Option.some Jvm.ClassFile.FieldType.long) 3 := ⟨Or.inl (z_in 1795 (by decide +kernel) rfl), z_in 1796 (by decide +kernel) rfl, z_in 1797 (by decide +kernel) rfl, z_in 175 (by decide +kernel) rfl, z_in 1798 (by decide +kernel) rfl, by decide, by decide, by decide +kernel⟩
theorem cw_law_127 : z_CV R_law 127 yX11_check cX11_check 6 (Option.some Jvm.ClassFile.FieldType.int) 2 := ⟨Or.inl (z_in 1187 (by decide +kernel) rfl), z_in 1188 (by decide +kernel) rfl, z_in 1189 (by decide +kernel) rfl, z_in 166 (by decide +kernel) rfl, z_in 1190 (by decide +kernel) rfl, by decide, by decide, by decide +kernel⟩
theorem cw_law_130 : z_CV R_law 130 yX12_check cX12_check 5 (Option.some Jvm.ClassFile.FieldType.int) 2 := ⟨Or.inl (z_in 1807 (by decide +kernel) rfl), z_in 1808 (by decide +kernel) rfl, z_in 1809 (by decide +kernel) rfl, z_in 175 (by decide +kernel) rfl, z_in 1810 (by decide +kernel) rfl, by decide, by decide, by decide +kernel⟩
theorem cw_law_131 : z_CV R_law 131 yX11_count cX11_count 2 (Option.some Jvm.ClassFile.FieldType.int) 1 := ⟨Or.inl (z_in 1197 (by decide +kernel) rfl), z_in 1198 (by decide +kernel) rfl, z_in 1199 (by decide +kernel) rfl, z_in 166 (by decide +kernel) rfl, z_in 1200 (by decide +kernel) rfl, by decide, by decide, by decide +kernel⟩
theorem cw_law_134 : z_CV R_law 134 yX12_count cX12_count 2 (Option.some Jvm.ClassFile.FieldType.int) 1 := ⟨Or.inl (z_in 1815 (by decide +kernel) rfl), z_in 1816 (by decide +kernel) rfl, z_in 1817 (by decide +kernel) rfl, z_in 175 (by decide +kernel) rfl, z_in 1818 (by decide +kernel) rfl, by decide, by decide, by decide +kernel⟩
theorem wn_law_7 : z_CN R_law 7 11 16 := ⟨_, _, rfl, z_inX11, tyX11_ok, by decide, z_in 183 (by decide +kernel) rfl, z_in 184 (by decide +kernel) rfl, z_in 166 (by decide +kernel) rfl⟩
theorem wn_law_10 : z_CN R_law 10 12 61 := ⟨_, _, rfl, z_inX12, tyX12_ok, by decide, z_in 1205 (by decide +kernel) rfl, z_in 1206 (by decide +kernel) rfl, z_in 175 (by decide +kernel) rfl⟩
theorem ao_law_6 : Cond.arrayOver (.object (z_name 6)) ∈ lw_tbl := List.mem_of_getElem? (i := 228) (by decide +kernel)
theorem ao_law_1 : Cond.arrayOver (.object (z_name 1)) ∈ lw_tbl := List.mem_of_getElem? (i := 230) (by decide +kernel)
theorem ao_law_0 : Cond.arrayOver (.object (z_name 0)) ∈ lw_tbl := List.mem_of_getElem? (i := 232) (by decide +kernel)
theorem ins_law_0 : Cond.instantiable RX0 11 ∈ z_tb := z_in 776 (by decide +kernel) rfl
theorem ins_law_1 : Cond.instantiable RX1 12 ∈ z_tb := z_in 566 (by decide +kernel) rfl
theorem ins_law_2 : Cond.instantiable RX2 7 ∈ z_tb := z_in 311 (by decide +kernel) rfl
theorem ins_law_3 : Cond.instantiable RX3 3 ∈ z_tb := z_in 208 (by decide +kernel) rfl
theorem ins_law_4 : Cond.instantiable RX4 8 ∈ z_tb := z_in 340 (by decide +kernel) rfl
theorem ins_law_5 : Cond.instantiable RX5 4 ∈ z_tb := z_in 375 (by decide +kernel) rfl
theorem ins_law_6 : Cond.instantiable RX6 11 ∈ z_tb := z_in 462 (by decide +kernel) rfl
theorem ins_law_7 : Cond.instantiable RX7 9 ∈ z_tb := z_in 262 (by decide +kernel) rfl
theorem ins_law_8 : Cond.instantiable RX8 7 ∈ z_tb := z_in 234 (by decide +kernel) rfl
theorem ins_law_9 : Cond.instantiable RX9 2 ∈ z_tb := z_in 296 (by decide +kernel) rfl
theorem ins_law_10 : Cond.instantiable RX10 2 ∈ z_tb := z_in 192 (by decide +kernel) rfl
theorem ins_law_11 : Cond.instantiable RX11 16 ∈ z_tb := z_in 184 (by decide +kernel) rfl
theorem ins_law_12 : Cond.instantiable RX12 61 ∈ z_tb := z_in 1206 (by decide +kernel) rfl
