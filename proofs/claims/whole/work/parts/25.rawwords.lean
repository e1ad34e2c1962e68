theorem z_ext_tr {a b c : z_A} (h1 : z_ext a b) (h2 : z_ext b c) : z_ext a c := fun x y h => h2 x y (h1 x y h)
/-- a kind once given stays -/
def z_kext (kd kd' : z_K) : Prop := ∀ a t, kd a = some t → kd' a = some t
theorem z_kext_tr {a b c : z_K} (h1 : z_kext a b) (h2 : z_kext b c) : z_kext a c := fun x t h => h2 x t (h1 x t h)
theorem z_kext_up {kd : z_K} {a : Nat} {k : z_T} (h : kd a = none) : z_kext kd (z_up kd a k) := fun b t hb => by
  rw [z_up_ne (fun e => by rw [e, h] at hb; cases hb)]
  exact hb
theorem z_nref {kd : z_K} {a b : Nat} {t : z_T} (h : kd a = some t) (h2 : kd b = none) : Value.ref a ≠ .ref b := fun e => by
  cases e
  rw [h] at h2
  cases h2
theorem z_nrf {kd : z_K} {w : Option Nat} {b : Nat} {t : Nat → z_T} (h : ∀ a, w = some a → kd a = some (t a)) (h2 : kd b = none) : va_rf w ≠ .ref b := fun e => by
  cases w with
  | none => cases e
  | some a => exact z_nref (h a rfl) h2 e
theorem z_okr {kd : z_K} {a : Nat} {t : z_T} (h : kd a = some t) : ∀ b, Value.ref a = .ref b → kd b ≠ none := fun b e => by
  cases e
  rw [h]
  exact fun h => by cases h
theorem z_okf {kd : z_K} {w : Option Nat} {t : Nat → z_T} (h : ∀ a, w = some a → kd a = some (t a)) : ∀ b, va_rf w = .ref b → kd b ≠ none := fun b e => by
  cases w with
  | none => cases e
  | some a => exact z_okr (h a rfl) b e
def z_KiG (kd : z_K) (K : Int32 → z_K → z_Q → z_M → Prop) : Option Value → z_K → z_Q → z_M → Prop := fun rv kd' q' μ' => ∃ r : Int32, rv = some (.int r) ∧ z_kext kd kd' ∧ K r kd' q' μ'
def z_KvG (kd : z_K) (K : z_K → z_Q → z_M → Prop) : Option Value → z_K → z_Q → z_M → Prop := fun rv kd' q' μ' => rv = none ∧ z_kext kd kd' ∧ K kd' q' μ'
section ZN
variable {p : Program} {l : Launch} {e : Env} {R : Room} {s : State} {m : MethodId} {args : Array Value} {below : List Frame} {meth : Method} {c : Code} {cc : ByteArray} {own : String} {nL : Nat} {D : va_G} {A : Nat → Prop} {Q : State → Prop} {mc ms : Nat} {ρ : z_A} {kd : z_K} {q : z_Q} {μ : z_M} {pc : Nat} {lv : List (Nat × Value)} {st : List Value} {index maxL n : Nat} {y : MethodName} {bytes : ByteArray} {rm : Room} {As rest : List Value} {b ci : Nat}
theorem zx_widen {mc2 ms2 : Nat} (h1 : mc ≤ mc2) (h2 : ms ≤ ms2) (k : z_X p l e R s m args below meth c nL D A Q mc2 ms2 ρ kd q μ pc lv st) : z_X p l e R s m args below meth c nL D A Q mc ms ρ kd q μ pc lv st := fun H locs ls hS hl => W.widen (k := mc2) (n := ms2) h1 h2 (k H locs ls hS hl)
theorem z_ext_up {H : Heap} {locs : List Loc} (hS : z_S s D A ρ kd q μ H locs) {a : Nat} {x : Nat × Nat} (ha : kd a = none) : z_ext ρ (z_up ρ a x) := fun c y hc => by
  rw [z_up_ne (fun e => hS.2.1.1 c y hc (by rw [e]; exact ha))]
  exact hc
theorem zx_newE (G : z_G p c cc s m args own nL D) (a : Nat) {N : Nat} (hN : z_CN own index ci N) (ha : kd a = none) (hq : ∀ c j, kd c ≠ none → q c j ≠ some a) (hv : ∀ v ∈ lv.map Prod.snd ++ st, v ≠ .ref a) (hcells : mc + 1 ≤ R.cells) (hslots : ms + N ≤ R.slots) (hd : decode cc pc = .ok (.new index, 3)) (kk : ∀ ρ1 kd1 q1 μ1, kd1 = z_up kd a (.inl ci) → q1 = z_q0 q a → μ1 = z_m0 μ a → z_ext ρ ρ1 → z_kext kd kd1 → kd1 a = some (.inl ci) → z_X p l e R s m args below meth c nL D A Q (mc + 1) (ms + N) ρ1 kd1 q1 μ1 (pc + 3) lv (.ref a :: st)) : z_X p l e R s m args below meth c nL D A Q mc ms ρ kd q μ pc lv st :=
  fun H locs ls hS hl => zx_new G a hN ha hq hv hcells hslots hd (fun x => kk _ _ _ _ rfl rfl rfl (z_ext_up hS ha) (z_kext_up ha) z_up_eq) H locs ls hS hl
theorem zx_newaE (G : z_G p c cc s m args own nL D) (a : Nat) {at0 : ArrayType} (t : Nat) {n : Int32} (ht : newarray.typeOf at0 = z_aty t) (ht4 : t < 4) (hw : Cond.arrayClass (z_aty t) ∈ z_tb) (ha : kd a = none) (hq : ∀ c j, kd c ≠ none → q c j ≠ some a) (hv : ∀ v ∈ lv.map Prod.snd ++ st, v ≠ .ref a) (hn : ¬ n < 0) {N : Nat} (hN : n.toNatClampNeg = N) (hbytes : N * componentBytes (newarray.typeOf at0) ≤ 536870912) (hcells : mc + 1 ≤ R.cells) (hslots : ms + N ≤ R.slots) (hd : decode cc pc = .ok (.newarray at0, 2)) (kk : ∀ ρ1 kd1 q1 μ1, kd1 = z_up kd a (.inr (t, N)) → q1 = z_q0 q a → μ1 = z_m0 μ a → z_ext ρ ρ1 → z_kext kd kd1 → kd1 a = some (.inr (t, N)) → z_X p l e R s m args below meth c nL D A Q (mc + 1) (ms + N) ρ1 kd1 q1 μ1 (pc + 2) lv (.ref a :: st)) : z_X p l e R s m args below meth c nL D A Q mc ms ρ kd q μ pc lv (.int n :: st) :=
  fun H locs ls hS hl => zx_newa G a t ht ht4 (by rw [ht]; exact hw) ha hq hv hn hN hbytes hcells hslots hd (fun x => kk _ _ _ _ rfl rfl rfl (z_ext_up hS ha) (z_kext_up ha) z_up_eq) H locs ls hS hl
theorem zx_newqE (G : z_G p c cc s m args own nL D) (a : Nat) (t : Nat) {n : Int32} (hcl : Cond.classLink own index (z_name t) ∈ z_tb) (hao : va_AO (z_name t) s) (ha : kd a = none) (hq : ∀ c j, kd c ≠ none → q c j ≠ some a) (hv : ∀ v ∈ lv.map Prod.snd ++ st, v ≠ .ref a) (hn : ¬ n < 0) {N : Nat} (hN : n.toNatClampNeg = N) (hbytes : N * 4 ≤ 536870912) (hcells : mc + 1 ≤ R.cells) (hslots : ms + N ≤ R.slots) (hd : decode cc pc = .ok (.anewarray index, 3)) (kk : ∀ ρ1 kd1 q1 μ1, kd1 = z_up kd a (.inr (t + 4, N)) → q1 = z_q0 q a → μ1 = z_m0 μ a → z_ext ρ ρ1 → z_kext kd kd1 → kd1 a = some (.inr (t + 4, N)) → z_X p l e R s m args below meth c nL D A Q (mc + 1) (ms + N) ρ1 kd1 q1 μ1 (pc + 3) lv (.ref a :: st)) : z_X p l e R s m args below meth c nL D A Q mc ms ρ kd q μ pc lv (.int n :: st) :=
  fun H locs ls hS hl => zx_newq G a t hcl hao ha hq hv hn hN hbytes hcells hslots hd (fun x => kk _ _ _ _ rfl rfl rfl (z_ext_up hS ha) (z_kext_up ha) z_up_eq) H locs ls hS hl
theorem zx_callI_vG (G : z_G p c cc s m args own nL D) {K : z_K → z_Q → z_M → Prop} (hC : z_CI own index y bytes maxL n) (hR : rm.frames + 1 ≤ R.frames ∧ 8 + (maxL + 11) + rm.locals ≤ R.locals) (hf : mc + rm.cells ≤ R.cells ∧ ms + rm.slots ≤ R.slots) (hb : kd b = some (.inl ci)) (hM : ∀ sz, Met l y (z_ws y bytes maxL none) rm (z_Pc D ρ kd q μ sz (.ref b :: As)) (z_Qg D (z_Rg ρ sz) ρ (z_KvG kd K)) rm.cells rm.slots (z_Rg ρ sz)) (hn : As.length = n) (hst : st = As.reverse ++ .ref b :: rest) (hcat : (rest.map fun v => v.category).sum ≤ 8) (hok : ∀ v ∈ lv.map Prod.snd ++ rest, ∀ a, v = .ref a → kd a ≠ none) (hd : decode cc pc = .ok (.invokespecial index, 3)) (kk : ∀ ρ' kd' q' μ', z_ext ρ ρ' → z_kext kd kd' → K kd' q' μ' → z_X p l e R s m args below meth c nL D A Q (mc + rm.cells) (ms + rm.slots) ρ' kd' q' μ' (pc + 3) lv rest) : z_X p l e R s m args below meth c nL D A Q mc ms ρ kd q μ pc lv st := by
  refine zx_callIg G hC hR hf hb hM hn hst hcat hok hd ?_
  rintro _ ρ' kd' q' μ' ⟨rfl, hx, h⟩ he
  exact kk ρ' kd' q' μ' he hx h
end ZN
def z_PcA (D : va_G) (ρ : z_A) (kd : z_K) (q : z_Q) (μ : z_M) (sz : Nat) (av : List Value) : Array Value → State → Prop := fun v U => z_Pc D ρ kd q μ sz av v U ∧ ∀ t ∈ [6, 1, 0], va_AO (z_name t) U
theorem z_metGA {l : Launch} {y : MethodName} {bytes : ByteArray} {maxL : Nat} {ret : Option FieldType} {rm : Room} (hy : plainName y.cls = true) {D : va_G} {ρ : z_A} {kd : z_K} {q : z_Q} {μ : z_M} {sz : Nat} {av : List Value} {K : Option Value → z_K → z_Q → z_M → Prop} (hlen : (lg_sl av).length ≤ maxL)
    (body : ∀ (p : Program) (e : Env) (s : State) (m : MethodId) (args : Array Value) (below : List Frame) (meth : Method) (c : Code), z_G p c bytes s m args y.cls maxL D → meth.sig.returnType = ret → meth.locks = false → meth.name = y.name → (∀ t ∈ [6, 1, 0], va_AO (z_name t) s) →
      z_X p l e rm s m args below meth c maxL D (z_Rg ρ s.heap.size) (MQ below (z_Qg D (z_Rg ρ s.heap.size) ρ K) args s rm.cells rm.slots (z_Rg ρ s.heap.size)) 0 0 ρ kd q μ 0 (lv_args 0 av) []) :
    Met l y (z_ws y bytes maxL ret) rm (z_PcA D ρ kd q μ sz av) (z_Qg D (z_Rg ρ sz) ρ K) rm.cells rm.slots (z_Rg ρ sz) := by
  refine Met.ofW (cc := bytes) (maxL := maxL) (ret := ret) hy rfl ?_
  intro p e s m args below meth c s₁ B hml hv
  obtain ⟨⟨rfl, rfl, h3, h4, h5, h6, h7⟩, hao⟩ := hv
  have hts : ∀ w ∈ z_tb, w.before (av.map (z_c ρ)).toArray s = true := fun w hw => atoms_spec (ws := z_ws y bytes maxL ret) B.pre w (List.mem_cons_of_mem _ hw)
  have hb := body p e s m (av.map (z_c ρ)).toArray below meth c ⟨B.exec, B.bytes, hml, findClass_of_methodNamed B.named, hts, h7, h6⟩ B.returns B.notSynchronized (name_of_methodNamed B.named B.method).1 hao
  have hl := lv_entry (av.map (z_c ρ)) (n := maxL) (by rw [z_sllen]; exact hlen)
  rw [z_lvargs] at hl
  have h := hb s.heap [] _ ⟨h3, h4, h5, va_S.rf, fun c x h => Or.inl ⟨c, x, h, rfl⟩, fun x h => Or.inr h⟩ hl
  rw [lg_entry_eq]
  exact h
theorem yw_X11_mayBet : Cond.instanceMethod yX11_mayBet ∈ z_tb ∧ Cond.selects yX11_mayBet.cls yX11_mayBet yX11_mayBet ∈ z_tb ∧ Cond.initialized yX11_mayBet.cls ∈ z_tb ∧ Cond.code yX11_mayBet cX11_mayBet 4 (Option.some Jvm.ClassFile.FieldType.boolean) ∈ z_tb ∧ yX11_mayBet.cls ≠ "java/lang/invoke/MethodHandle" ∧ yX11_mayBet.cls ≠ "java/lang/invoke/VarHandle" ∧ (parseMethodDescriptor yX11_mayBet.desc).map (fun d => d.parameters.length) = some 3 := ⟨z_in 764 (by decide +kernel) rfl, z_in 40 (by decide +kernel) rfl, z_in 166 (by decide +kernel) rfl, z_in 765 (by decide +kernel) rfl, by decide, by decide, by decide +kernel⟩
theorem cw_RX11_173 : z_CV RX11 173 yX11_mayBet cX11_mayBet 4 (Option.some Jvm.ClassFile.FieldType.boolean) 3 := ⟨Or.inl (z_in 762 (by decide +kernel) rfl), yw_X11_mayBet⟩
theorem yw_X11_put : Cond.instanceMethod yX11_put ∈ z_tb ∧ Cond.selects yX11_put.cls yX11_put yX11_put ∈ z_tb ∧ Cond.initialized yX11_put.cls ∈ z_tb ∧ Cond.code yX11_put cX11_put 5 (Option.none : Option Jvm.ClassFile.FieldType) ∈ z_tb ∧ yX11_put.cls ≠ "java/lang/invoke/MethodHandle" ∧ yX11_put.cls ≠ "java/lang/invoke/VarHandle" ∧ (parseMethodDescriptor yX11_put.desc).map (fun d => d.parameters.length) = some 2 := ⟨z_in 827 (by decide +kernel) rfl, z_in 43 (by decide +kernel) rfl, z_in 166 (by decide +kernel) rfl, z_in 828 (by decide +kernel) rfl, by decide, by decide, by decide +kernel⟩
theorem cw_RX11_188 : z_CV RX11 188 yX11_put cX11_put 5 (Option.none : Option Jvm.ClassFile.FieldType) 2 := ⟨Or.inl (z_in 825 (by decide +kernel) rfl), yw_X11_put⟩
theorem yw_X11_follow : Cond.instanceMethod yX11_follow ∈ z_tb ∧ Cond.selects yX11_follow.cls yX11_follow yX11_follow ∈ z_tb ∧ Cond.initialized yX11_follow.cls ∈ z_tb ∧ Cond.code yX11_follow cX11_follow 5 (Option.none : Option Jvm.ClassFile.FieldType) ∈ z_tb ∧ yX11_follow.cls ≠ "java/lang/invoke/MethodHandle" ∧ yX11_follow.cls ≠ "java/lang/invoke/VarHandle" ∧ (parseMethodDescriptor yX11_follow.desc).map (fun d => d.parameters.length) = some 2 := ⟨z_in 855 (by decide +kernel) rfl, z_in 50 (by decide +kernel) rfl, z_in 166 (by decide +kernel) rfl, z_in 856 (by decide +kernel) rfl, by decide, by decide, by decide +kernel⟩
theorem cw_RX11_191 : z_CV RX11 191 yX11_follow cX11_follow 5 (Option.none : Option Jvm.ClassFile.FieldType) 2 := ⟨Or.inl (z_in 853 (by decide +kernel) rfl), yw_X11_follow⟩
theorem yw_X11_mayJoin : Cond.instanceMethod yX11_mayJoin ∈ z_tb ∧ Cond.selects yX11_mayJoin.cls yX11_mayJoin yX11_mayJoin ∈ z_tb ∧ Cond.initialized yX11_mayJoin.cls ∈ z_tb ∧ Cond.code yX11_mayJoin cX11_mayJoin 4 (Option.some Jvm.ClassFile.FieldType.boolean) ∈ z_tb ∧ yX11_mayJoin.cls ≠ "java/lang/invoke/MethodHandle" ∧ yX11_mayJoin.cls ≠ "java/lang/invoke/VarHandle" ∧ (parseMethodDescriptor yX11_mayJoin.desc).map (fun d => d.parameters.length) = some 3 := ⟨z_in 871 (by decide +kernel) rfl, z_in 53 (by decide +kernel) rfl, z_in 166 (by decide +kernel) rfl, z_in 872 (by decide +kernel) rfl, by decide, by decide, by decide +kernel⟩
theorem cw_RX11_197 : z_CV RX11 197 yX11_mayJoin cX11_mayJoin 4 (Option.some Jvm.ClassFile.FieldType.boolean) 3 := ⟨Or.inl (z_in 869 (by decide +kernel) rfl), yw_X11_mayJoin⟩
theorem yw_X11_takeIfAny : Cond.instanceMethod yX11_takeIfAny ∈ z_tb ∧ Cond.selects yX11_takeIfAny.cls yX11_takeIfAny yX11_takeIfAny ∈ z_tb ∧ Cond.initialized yX11_takeIfAny.cls ∈ z_tb ∧ Cond.code yX11_takeIfAny cX11_takeIfAny 5 (Option.none : Option Jvm.ClassFile.FieldType) ∈ z_tb ∧ yX11_takeIfAny.cls ≠ "java/lang/invoke/MethodHandle" ∧ yX11_takeIfAny.cls ≠ "java/lang/invoke/VarHandle" ∧ (parseMethodDescriptor yX11_takeIfAny.desc).map (fun d => d.parameters.length) = some 4 := ⟨z_in 875 (by decide +kernel) rfl, z_in 54 (by decide +kernel) rfl, z_in 166 (by decide +kernel) rfl, z_in 876 (by decide +kernel) rfl, by decide, by decide, by decide +kernel⟩
theorem cw_RX11_200 : z_CV RX11 200 yX11_takeIfAny cX11_takeIfAny 5 (Option.none : Option Jvm.ClassFile.FieldType) 4 := ⟨Or.inl (z_in 873 (by decide +kernel) rfl), yw_X11_takeIfAny⟩
theorem wk_RX11_113 : Cond.constant RX11 113 (1000000) ∈ z_tb := z_in 565 (by decide +kernel) rfl
theorem gf_RX0_15 : z_GF RX0 15 0 1 := ⟨_, _, _, rfl, z_inX0, by decide, Or.inl (z_in 783 (by decide +kernel) rfl)⟩
theorem gf_RX0_21 : z_GF RX0 21 0 3 := ⟨_, _, _, rfl, z_inX0, by decide, Or.inl (z_in 787 (by decide +kernel) rfl)⟩
theorem gf_RX0_9 : z_GF RX0 9 0 0 := ⟨_, _, _, rfl, z_inX0, by decide, Or.inl (z_in 781 (by decide +kernel) rfl)⟩
theorem gf_RX1_9 : z_GF RX1 9 1 0 := ⟨_, _, _, rfl, z_inX1, by decide, Or.inl (z_in 571 (by decide +kernel) rfl)⟩
theorem cw_RX11_11 : z_CI RX11 11 yX10_init cX10_init 1 0 := ⟨Or.inr ⟨"SlateRing", z_inN 193 (by decide +kernel) rfl⟩, z_in 194 (by decide +kernel) rfl, z_in 167 (by decide +kernel) rfl, z_in 195 (by decide +kernel) rfl, by decide, by decide, by decide +kernel, rfl⟩
theorem cw_RX11_110 : z_CI RX11 110 yX6_init cX6_init 2 1 := ⟨Or.inr ⟨"SlateRing", z_inN 516 (by decide +kernel) rfl⟩, z_in 517 (by decide +kernel) rfl, z_in 177 (by decide +kernel) rfl, z_in 518 (by decide +kernel) rfl, by decide, by decide, by decide +kernel, rfl⟩
theorem cw_RX11_117 : z_CI RX11 117 yX1_init cX1_init 3 1 := ⟨Or.inr ⟨"SlateRing", z_inN 567 (by decide +kernel) rfl⟩, z_in 568 (by decide +kernel) rfl, z_in 178 (by decide +kernel) rfl, z_in 569 (by decide +kernel) rfl, by decide, by decide, by decide +kernel, rfl⟩
theorem cw_RX11_18 : z_CI RX11 18 yX3_init cX3_init 1 0 := ⟨Or.inr ⟨"SlateRing", z_inN 209 (by decide +kernel) rfl⟩, z_in 210 (by decide +kernel) rfl, z_in 168 (by decide +kernel) rfl, z_in 211 (by decide +kernel) rfl, by decide, by decide, by decide +kernel, rfl⟩
theorem cw_RX11_181 : z_CI RX11 181 yX0_init cX0_init 6 5 := ⟨Or.inr ⟨"SlateRing", z_inN 777 (by decide +kernel) rfl⟩, z_in 778 (by decide +kernel) rfl, z_in 180 (by decide +kernel) rfl, z_in 779 (by decide +kernel) rfl, by decide, by decide, by decide +kernel, rfl⟩
theorem cw_RX11_43 : z_CI RX11 43 yX8_init cX8_init 2 1 := ⟨Or.inr ⟨"SlateRing", z_inN 235 (by decide +kernel) rfl⟩, z_in 236 (by decide +kernel) rfl, z_in 169 (by decide +kernel) rfl, z_in 237 (by decide +kernel) rfl, by decide, by decide, by decide +kernel, rfl⟩
theorem cw_RX11_52 : z_CI RX11 52 yX7_init cX7_init 2 1 := ⟨Or.inr ⟨"SlateRing", z_inN 263 (by decide +kernel) rfl⟩, z_in 264 (by decide +kernel) rfl, z_in 170 (by decide +kernel) rfl, z_in 265 (by decide +kernel) rfl, by decide, by decide, by decide +kernel, rfl⟩
theorem cw_RX11_61 : z_CI RX11 61 yX9_init cX9_init 1 0 := ⟨Or.inr ⟨"SlateRing", z_inN 297 (by decide +kernel) rfl⟩, z_in 298 (by decide +kernel) rfl, z_in 171 (by decide +kernel) rfl, z_in 299 (by decide +kernel) rfl, by decide, by decide, by decide +kernel, rfl⟩
theorem cw_RX11_68 : z_CI RX11 68 yX2_init cX2_init 1 0 := ⟨Or.inr ⟨"SlateRing", z_inN 312 (by decide +kernel) rfl⟩, z_in 313 (by decide +kernel) rfl, z_in 172 (by decide +kernel) rfl, z_in 314 (by decide +kernel) rfl, by decide, by decide, by decide +kernel, rfl⟩
theorem cw_RX11_75 : z_CI RX11 75 yX4_init cX4_init 1 0 := ⟨Or.inr ⟨"SlateRing", z_inN 341 (by decide +kernel) rfl⟩, z_in 342 (by decide +kernel) rfl, z_in 173 (by decide +kernel) rfl, z_in 343 (by decide +kernel) rfl, by decide, by decide, by decide +kernel, rfl⟩
theorem cw_RX11_82 : z_CI RX11 82 yX5_init cX5_init 1 0 := ⟨Or.inr ⟨"SlateRing", z_inN 376 (by decide +kernel) rfl⟩, z_in 377 (by decide +kernel) rfl, z_in 174 (by decide +kernel) rfl, z_in 378 (by decide +kernel) rfl, by decide, by decide, by decide +kernel, rfl⟩
theorem wn_RX11_16 : z_CN RX11 16 3 3 := ⟨_, _, rfl, z_inX3, tyX3_ok, by decide, z_in 207 (by decide +kernel) rfl, z_in 208 (by decide +kernel) rfl, z_in 168 (by decide +kernel) rfl⟩
theorem wn_RX11_23 : z_CN RX11 23 6 11 := ⟨_, _, rfl, z_inX6, tyX6_ok, by decide, z_in 227 (by decide +kernel) rfl, z_in 462 (by decide +kernel) rfl, z_in 177 (by decide +kernel) rfl⟩
theorem wn_RX11_29 : z_CN RX11 29 1 12 := ⟨_, _, rfl, z_inX1, tyX1_ok, by decide, z_in 229 (by decide +kernel) rfl, z_in 566 (by decide +kernel) rfl, z_in 178 (by decide +kernel) rfl⟩
theorem wn_RX11_35 : z_CN RX11 35 0 11 := ⟨_, _, rfl, z_inX0, tyX0_ok, by decide, z_in 231 (by decide +kernel) rfl, z_in 776 (by decide +kernel) rfl, z_in 180 (by decide +kernel) rfl⟩
theorem wn_RX11_41 : z_CN RX11 41 8 7 := ⟨_, _, rfl, z_inX8, tyX8_ok, by decide, z_in 233 (by decide +kernel) rfl, z_in 234 (by decide +kernel) rfl, z_in 169 (by decide +kernel) rfl⟩
theorem wn_RX11_50 : z_CN RX11 50 7 9 := ⟨_, _, rfl, z_inX7, tyX7_ok, by decide, z_in 261 (by decide +kernel) rfl, z_in 262 (by decide +kernel) rfl, z_in 170 (by decide +kernel) rfl⟩
theorem wn_RX11_59 : z_CN RX11 59 9 2 := ⟨_, _, rfl, z_inX9, tyX9_ok, by decide, z_in 295 (by decide +kernel) rfl, z_in 296 (by decide +kernel) rfl, z_in 171 (by decide +kernel) rfl⟩
theorem wn_RX11_66 : z_CN RX11 66 2 7 := ⟨_, _, rfl, z_inX2, tyX2_ok, by decide, z_in 310 (by decide +kernel) rfl, z_in 311 (by decide +kernel) rfl, z_in 172 (by decide +kernel) rfl⟩
theorem wn_RX11_73 : z_CN RX11 73 4 8 := ⟨_, _, rfl, z_inX4, tyX4_ok, by decide, z_in 339 (by decide +kernel) rfl, z_in 340 (by decide +kernel) rfl, z_in 173 (by decide +kernel) rfl⟩
theorem wn_RX11_80 : z_CN RX11 80 5 4 := ⟨_, _, rfl, z_inX5, tyX5_ok, by decide, z_in 374 (by decide +kernel) rfl, z_in 375 (by decide +kernel) rfl, z_in 174 (by decide +kernel) rfl⟩
theorem wn_RX11_9 : z_CN RX11 9 10 2 := ⟨_, _, rfl, z_inX10, tyX10_ok, by decide, z_in 191 (by decide +kernel) rfl, z_in 192 (by decide +kernel) rfl, z_in 167 (by decide +kernel) rfl⟩
theorem wa_0 : Cond.arrayClass (z_aty 0) ∈ z_tb := z_in 206 (by decide +kernel) rfl
theorem wa_1 : Cond.arrayClass (z_aty 1) ∈ z_tb := z_in 1395 (by decide +kernel) rfl
theorem wa_2 : Cond.arrayClass (z_aty 2) ∈ z_tb := z_in 1396 (by decide +kernel) rfl
theorem wa_3 : Cond.arrayClass (z_aty 3) ∈ z_tb := z_in 1397 (by decide +kernel) rfl
theorem wq_RX11_23 : Cond.classLink RX11 23 (z_name 6) ∈ z_tb := z_in 227 (by decide +kernel) rfl
theorem wq_RX11_29 : Cond.classLink RX11 29 (z_name 1) ∈ z_tb := z_in 229 (by decide +kernel) rfl
theorem wq_RX11_35 : Cond.classLink RX11 35 (z_name 0) ∈ z_tb := z_in 231 (by decide +kernel) rfl
theorem wo_RX0_3 : (Cond.methodLink RX0 3 objectInit ∈ z_tb ∧ Cond.instanceMethod objectInit ∈ z_tb) ∧ Cond.code objectInit ⟨#[0xb1]⟩ 1 none ∈ z_tb := ⟨⟨z_in 780 (by decide +kernel) rfl, z_in 189 (by decide +kernel) rfl⟩, z_in 190 (by decide +kernel) rfl⟩
theorem wo_RX1_3 : (Cond.methodLink RX1 3 objectInit ∈ z_tb ∧ Cond.instanceMethod objectInit ∈ z_tb) ∧ Cond.code objectInit ⟨#[0xb1]⟩ 1 none ∈ z_tb := ⟨⟨z_in 570 (by decide +kernel) rfl, z_in 189 (by decide +kernel) rfl⟩, z_in 190 (by decide +kernel) rfl⟩
theorem wo_RX10_3 : (Cond.methodLink RX10 3 objectInit ∈ z_tb ∧ Cond.instanceMethod objectInit ∈ z_tb) ∧ Cond.code objectInit ⟨#[0xb1]⟩ 1 none ∈ z_tb := ⟨⟨z_in 196 (by decide +kernel) rfl, z_in 189 (by decide +kernel) rfl⟩, z_in 190 (by decide +kernel) rfl⟩
theorem wo_RX11_3 : (Cond.methodLink RX11 3 objectInit ∈ z_tb ∧ Cond.instanceMethod objectInit ∈ z_tb) ∧ Cond.code objectInit ⟨#[0xb1]⟩ 1 none ∈ z_tb := ⟨⟨z_in 188 (by decide +kernel) rfl, z_in 189 (by decide +kernel) rfl⟩, z_in 190 (by decide +kernel) rfl⟩
theorem wo_RX12_1 : (Cond.methodLink RX12 1 objectInit ∈ z_tb ∧ Cond.instanceMethod objectInit ∈ z_tb) ∧ Cond.code objectInit ⟨#[0xb1]⟩ 1 none ∈ z_tb := ⟨⟨z_in 1210 (by decide +kernel) rfl, z_in 189 (by decide +kernel) rfl⟩, z_in 190 (by decide +kernel) rfl⟩
theorem wo_RX2_3 : (Cond.methodLink RX2 3 objectInit ∈ z_tb ∧ Cond.instanceMethod objectInit ∈ z_tb) ∧ Cond.code objectInit ⟨#[0xb1]⟩ 1 none ∈ z_tb := ⟨⟨z_in 315 (by decide +kernel) rfl, z_in 189 (by decide +kernel) rfl⟩, z_in 190 (by decide +kernel) rfl⟩
theorem wo_RX3_3 : (Cond.methodLink RX3 3 objectInit ∈ z_tb ∧ Cond.instanceMethod objectInit ∈ z_tb) ∧ Cond.code objectInit ⟨#[0xb1]⟩ 1 none ∈ z_tb := ⟨⟨z_in 212 (by decide +kernel) rfl, z_in 189 (by decide +kernel) rfl⟩, z_in 190 (by decide +kernel) rfl⟩
theorem wo_RX4_3 : (Cond.methodLink RX4 3 objectInit ∈ z_tb ∧ Cond.instanceMethod objectInit ∈ z_tb) ∧ Cond.code objectInit ⟨#[0xb1]⟩ 1 none ∈ z_tb := ⟨⟨z_in 344 (by decide +kernel) rfl, z_in 189 (by decide +kernel) rfl⟩, z_in 190 (by decide +kernel) rfl⟩
theorem wo_RX5_3 : (Cond.methodLink RX5 3 objectInit ∈ z_tb ∧ Cond.instanceMethod objectInit ∈ z_tb) ∧ Cond.code objectInit ⟨#[0xb1]⟩ 1 none ∈ z_tb := ⟨⟨z_in 379 (by decide +kernel) rfl, z_in 189 (by decide +kernel) rfl⟩, z_in 190 (by decide +kernel) rfl⟩
theorem wo_RX6_3 : (Cond.methodLink RX6 3 objectInit ∈ z_tb ∧ Cond.instanceMethod objectInit ∈ z_tb) ∧ Cond.code objectInit ⟨#[0xb1]⟩ 1 none ∈ z_tb := ⟨⟨z_in 519 (by decide +kernel) rfl, z_in 189 (by decide +kernel) rfl⟩, z_in 190 (by decide +kernel) rfl⟩
theorem wo_RX7_3 : (Cond.methodLink RX7 3 objectInit ∈ z_tb ∧ Cond.instanceMethod objectInit ∈ z_tb) ∧ Cond.code objectInit ⟨#[0xb1]⟩ 1 none ∈ z_tb := ⟨⟨z_in 266 (by decide +kernel) rfl, z_in 189 (by decide +kernel) rfl⟩, z_in 190 (by decide +kernel) rfl⟩
theorem wo_RX8_3 : (Cond.methodLink RX8 3 objectInit ∈ z_tb ∧ Cond.instanceMethod objectInit ∈ z_tb) ∧ Cond.code objectInit ⟨#[0xb1]⟩ 1 none ∈ z_tb := ⟨⟨z_in 238 (by decide +kernel) rfl, z_in 189 (by decide +kernel) rfl⟩, z_in 190 (by decide +kernel) rfl⟩
theorem wo_RX9_1 : (Cond.methodLink RX9 1 objectInit ∈ z_tb ∧ Cond.instanceMethod objectInit ∈ z_tb) ∧ Cond.code objectInit ⟨#[0xb1]⟩ 1 none ∈ z_tb := ⟨⟨z_in 300 (by decide +kernel) rfl, z_in 189 (by decide +kernel) rfl⟩, z_in 190 (by decide +kernel) rfl⟩
