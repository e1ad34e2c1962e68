/-- what the tables say of a class's field number k, as an instruction of own's pool names it -/
def z_GF (own : String) (index ci k : Nat) : Prop := ∃ (C : String) (T : u_T) (N : Nat), z_cl[ci]? = some (C, T, N) ∧ (∀ w ∈ u_ws C T N, w ∈ z_tb) ∧ k < N ∧
  (Cond.fieldLink own index (T k).1 (T k).2.1 (T k).2.2.1 ∈ z_tb ∨ ∃ host, Cond.fieldLinkNest own index (T k).1 (T k).2.1 (T k).2.2.1 host ∈ z_nw)
/-- what a class's table says of all its fields -/
def z_CF (ci : Nat) : Prop := ∃ (C : String) (T : u_T) (N : Nat), z_cl[ci]? = some (C, T, N) ∧ (∀ k, k < N → parseFieldDescriptor (T k).2.2.1 = some (z_ty ci k)) ∧ ∀ a, a < N → ∀ b, b < N → a ≠ b → (T a).2.1 ≠ (T b).2.1
def z_fin? (ci k : Nat) : Bool := match z_cl[ci]? with
  | some r => (r.2.1 k).2.2.2
  | none => true
def z_own (ci k : Nat) : String := match z_cl[ci]? with
  | some r => (r.2.1 k).1
  | none => ""
section ZH
variable {p : Program} {l : Launch} {e : Env} {R : Room} {s : State} {m : MethodId} {args : Array Value} {below : List Frame} {meth : Method} {c : Code} {cc : ByteArray} {own : String} {nL : Nat} {D : va_G} {A : Nat → Prop} {Q : State → Prop} {mc ms : Nat} {ρ : z_A} {kd : z_K} {q : z_Q} {μ : z_M} {pc : Nat} {lv lv' : List (Nat × Value)} {st : List Value}

theorem zx_get0 (G : z_G p c cc s m args own nL D) {index ci k a : Nat} (hF : z_GF own index ci k) (hk : kd a = some (.inl ci)) (hd : decode cc pc = .ok (.getfield index, 3)) {v : Value} (hv : ∀ ρ, z_fv ρ q μ (z_ty ci k) a k = z_c ρ v) (kk : z_X p l e R s m args below meth c nL D A Q mc ms ρ kd q μ (pc + 3) lv (v :: st)) : z_X p l e R s m args below meth c nL D A Q mc ms ρ kd q μ pc lv (.ref a :: st) := fun H locs ls hS hl => by
  obtain ⟨C, T, N, hc, hws, hkN, hlk⟩ := hF
  obtain ⟨x, hx, ⟨r, hr, cell, q1, q2, q3, q4⟩, ha, -⟩ := hS.obj hk
  rw [hc] at hr
  cases hr
  obtain ⟨hx1, hb, -, hown, hts, hnw, hK⟩ := G
  obtain ⟨hSl, hfc, kC, hkC, hkind⟩ := hK.1 ci _ hc
  obtain ⟨cf, kf, fi, f, hi, hsl⟩ := hSl k hkN
  have hst := (u_facts hfc hkC (u_lays hts hws hkN) hi).1
  have hslot : cell.slots[f.slot]? = some (z_c ρ v) := by rw [hsl, q4 k hkN]; exact congrArg some (hv ρ)
  rw [List.map_cons, ha]
  rcases hlk with h | ⟨host, h⟩
  · exact W.getf hx1 hb hown (hts _ h) hi hst q1 (by rw [q3]; exact fun h => by cases h) (v := z_c ρ v) hslot rfl rfl hd (kk H locs ls hS hl)
  · exact va_Wgetf hx1 hb hown (va_Nw.use rfl (hnw _ h)) hi hst q1 (by rw [q3]; exact fun h => by cases h) (v := z_c ρ v) hslot rfl rfl hd (kk H locs ls hS hl)
theorem zx_getI (G : z_G p c cc s m args own nL D) {index ci k a : Nat} (hF : z_GF own index ci k) (ht : z_ty ci k = .int) (hk : kd a = some (.inl ci)) (hd : decode cc pc = .ok (.getfield index, 3)) (kk : z_X p l e R s m args below meth c nL D A Q mc ms ρ kd q μ (pc + 3) lv (.int (μ.1 a k) :: st)) : z_X p l e R s m args below meth c nL D A Q mc ms ρ kd q μ pc lv (.ref a :: st) := zx_get0 G hF hk hd (fun ρ => by rw [ht]; rfl) kk
theorem zx_getZ (G : z_G p c cc s m args own nL D) {index ci k a : Nat} (hF : z_GF own index ci k) (ht : z_ty ci k = .boolean) (hk : kd a = some (.inl ci)) (hd : decode cc pc = .ok (.getfield index, 3)) (kk : z_X p l e R s m args below meth c nL D A Q mc ms ρ kd q μ (pc + 3) lv (.int (μ.1 a k) :: st)) : z_X p l e R s m args below meth c nL D A Q mc ms ρ kd q μ pc lv (.ref a :: st) := zx_get0 G hF hk hd (fun ρ => by rw [ht]; rfl) kk
theorem zx_getL (G : z_G p c cc s m args own nL D) {index ci k a : Nat} (hF : z_GF own index ci k) (ht : z_ty ci k = .long) (hk : kd a = some (.inl ci)) (hd : decode cc pc = .ok (.getfield index, 3)) (kk : z_X p l e R s m args below meth c nL D A Q mc ms ρ kd q μ (pc + 3) lv (.long (μ.2 a k) :: st)) : z_X p l e R s m args below meth c nL D A Q mc ms ρ kd q μ pc lv (.ref a :: st) := zx_get0 G hF hk hd (fun ρ => by rw [ht]; rfl) kk
theorem zx_getR (G : z_G p c cc s m args own nL D) {index ci k a : Nat} (hF : z_GF own index ci k) (ht : (z_ty ci k).isReference = true) (hk : kd a = some (.inl ci)) (hd : decode cc pc = .ok (.getfield index, 3)) (kk : z_X p l e R s m args below meth c nL D A Q mc ms ρ kd q μ (pc + 3) lv (va_rf (q a k) :: st)) : z_X p l e R s m args below meth c nL D A Q mc ms ρ kd q μ pc lv (.ref a :: st) := zx_get0 G hF hk hd (fun ρ => by
  rw [z_c_rf]
  cases hty : z_ty ci k <;> first | rfl | (rw [hty] at ht; cases ht)) kk
/-- a reference field of which it is known where it points -/
theorem zx_getF (G : z_G p c cc s m args own nL D) {index ci k a b : Nat} (hF : z_GF own index ci k) (ht : (z_ty ci k).isReference = true) (hk : kd a = some (.inl ci)) (hb : q a k = some b) (hd : decode cc pc = .ok (.getfield index, 3)) (kk : z_X p l e R s m args below meth c nL D A Q mc ms ρ kd q μ (pc + 3) lv (.ref b :: st)) : z_X p l e R s m args below meth c nL D A Q mc ms ρ kd q μ pc lv (.ref a :: st) := zx_getR G hF ht hk hd (by rw [hb]; exact kk)
theorem zx_put0 (G : z_G p c cc s m args own nL D) {index ci k a : Nat} (hF : z_GF own index ci k) (hC : z_CF ci) (hk : kd a = some (.inl ci)) (hd : decode cc pc = .ok (.putfield index, 3)) {v : Value} {q' : z_Q} {μ' : z_M} (hfin : z_fin? ci k = false ∨ (meth.name = "<init>" ∧ z_own ci k = own ∧ z_fin? ci k = true))
    (hn : ∀ ρ, narrow (z_ty ci k) (z_c ρ v) = z_c ρ v) (hf : ∀ ρ, fits (z_ty ci k) (z_c ρ v) = true) (hv : ∀ ρ, z_fv ρ q' μ' (z_ty ci k) a k = z_c ρ v) (hv2 : ∀ ρ j, j ≠ k → z_fv ρ q' μ' (z_ty ci j) a j = z_fv ρ q μ (z_ty ci j) a j)
    (h1 : ∀ b j, b ≠ a → μ'.1 b j = μ.1 b j) (h2 : ∀ b j, b ≠ a → μ'.2 b j = μ.2 b j) (h3 : ∀ b j, b ≠ a → q' b j = q b j)
    (kk : z_X p l e R s m args below meth c nL D A Q mc ms ρ kd q' μ' (pc + 3) lv (st)) : z_X p l e R s m args below meth c nL D A Q mc ms ρ kd q μ pc lv (v :: .ref a :: st) := fun H locs ls hS hl => by
  obtain ⟨C, T, N, hc, hws, hkN, hlk⟩ := hF
  obtain ⟨C2, T2, N2, hc2, hty, hnm⟩ := hC
  rw [hc] at hc2
  cases hc2
  obtain ⟨x, hx, ⟨r, hr, cell, q1, q2, q3, q4⟩, ha, hA⟩ := hS.obj hk
  rw [hc] at hr
  cases hr
  obtain ⟨hx1, hb, -, hown, hts, hnw, hK⟩ := G
  obtain ⟨hSl, hfc, kC, hkC, hkind⟩ := hK.1 ci _ hc
  have hap := va_apart (own := own) hts hws (z_ty ci) hty hnm hK hc
  obtain ⟨cf, kf, fi, f, hi, hsl⟩ := hSl k hkN
  have hlay := hts _ (hws _ (u_in_lay hkN))
  have hst := (u_facts hfc hkC (u_lays hts hws hkN) hi).1
  have hlt : f.slot < cell.slots.size := by rw [hsl]; exact k2_hasslot (q4 k hkN)
  have go : ∀ H' : Heap, H'[x.1]? = some (cell.setSlot f.slot (z_c ρ v)) → H'.size = H.size → (∀ y, y ≠ x.1 → H'[y]? = H[y]?) → W p l e R s m args below meth c H' (locs ++ [⟨x.1, f.slot⟩]) mc ms Q (F0 m (pc + 3) ls (st.map (z_c ρ))) := by
    intro H' e1 e2 e3
    refine kk H' _ ls (hS.set hk hx e2 e3 ⟨_, hc, ?_⟩ h1 h2 h3) hl
    rw [hsl] at e1
    exact t_OB.to (V := updV (fun j => z_fv ρ q μ (z_ty ci j) a j) k (z_c ρ v)) ⟨_, e1, q2, q3, t_set q4 hap hkN _⟩ (fun j _ => by
      unfold updV
      by_cases hj : j = k
      · subst hj
        rw [if_pos rfl, hv]
      · rw [if_neg hj, hv2 ρ j hj])
  rw [List.map_cons, List.map_cons, ha]
  rcases hfin with hfin | ⟨hin, hdecl, hfin⟩
  · have hT : (T k).2.2.2 = false := by
      have h := hfin
      unfold z_fin? at h
      rw [hc] at h
      exact h
    unfold u_lay at hlay
    rw [if_neg (by rw [hT]; decide)] at hlay
    have h6 := u_store hfc hkC hkind hlay hi (hty k hkN) (hn ρ) (hf ρ)
    rcases hlk with h | ⟨host, h⟩
    · exact W.putK hx1 hb (f := f) ⟨hown, hts _ h, ⟨_, _, _, hi⟩, hst⟩ (by rw [q2]; exact h6) q1 q3 hlt rfl rfl hd go
    · exact va_WputK hx1 hb (f := f) hown (va_Nw.use rfl (hnw _ h)) hi hst (by rw [q2]; exact h6) q1 q3 hlt rfl rfl hd go
  · have hT : (T k).2.2.2 = true := by
      have h := hfin
      unfold z_fin? at h
      rw [hc] at h
      exact h
    have hO : (T k).1 = own := by
      have h := hdecl
      unfold z_own at h
      rw [hc] at h
      exact h
    unfold u_lay at hlay
    rw [if_pos hT] at hlay
    have hcf : m.cls = cf := by
      obtain ⟨_, _, c', _, _, _, -, -, hf', -, -, -, hown2, -⟩ := Cond.laysFinal_spec hlay
      have e1 : c' = cf := by have := hi.symm.trans hf'; simp at this; exact this.1.symm
      rw [hO] at hown2
      rw [← e1]; exact Option.some.inj (hown.symm.trans hown2)
    have h6 := u_fits hfc hkC hkind (Or.inr hlay) hi (hty k hkN) (hn ρ) (hf ρ)
    rcases hlk with h | ⟨host, h⟩
    · exact W.putFinK hx1 hb hown (hts _ h) hi hst hcf hin (by rw [q2]; exact h6) q1 q3 hlt rfl rfl hd go
    · have hlt2 := (Array.getElem?_eq_some_iff.mp q1).1
      exact va_Wputf hx1 hb hown (va_Nw.use rfl (hnw _ h)) hi hst (Or.inr ⟨hcf, hin⟩) q1 (by rw [q3]; exact fun h => by cases h) hlt h6.1 (by rw [q2, q3]; exact h6.2) rfl rfl hd (go _ (by rw [Array.getElem?_setIfInBounds]; simp [hlt2]) (by simp) (fun y hy => by rw [Array.getElem?_setIfInBounds]; simp [Ne.symm hy]))
theorem z_fv_si {ρ : z_A} {ty : FieldType} {a k j : Nat} {v : Int32} (h : j ≠ k) : z_fv ρ q (si μ a k v) ty a j = z_fv ρ q μ ty a j := by
  unfold z_fv si
  simp [h]
theorem z_fv_sl {ρ : z_A} {ty : FieldType} {a k j : Nat} {v : Int64} (h : j ≠ k) : z_fv ρ q (sl μ a k v) ty a j = z_fv ρ q μ ty a j := by
  unfold z_fv sl
  simp [h]
theorem z_fv_sr {ρ : z_A} {ty : FieldType} {a k j : Nat} {v : Option Nat} (h : j ≠ k) : z_fv ρ (sr q a k v) μ ty a j = z_fv ρ q μ ty a j := by
  unfold z_fv sr
  simp [h]
theorem z_b_nar {v : Int32} (h : v = 0 ∨ v = 1) : narrow .boolean (.int v) = .int v ∧ fits .boolean (.int v) = true := by
  rcases h with rfl | rfl <;> exact ⟨rfl, rfl⟩
theorem zx_putI (G : z_G p c cc s m args own nL D) {index ci k a : Nat} {v : Int32} (hF : z_GF own index ci k) (hC : z_CF ci) (ht : z_ty ci k = .int) (hfin : z_fin? ci k = false) (hk : kd a = some (.inl ci)) (hd : decode cc pc = .ok (.putfield index, 3)) (kk : z_X p l e R s m args below meth c nL D A Q mc ms ρ kd q (si μ a k v) (pc + 3) lv (st)) : z_X p l e R s m args below meth c nL D A Q mc ms ρ kd q μ pc lv (.int v :: .ref a :: st) := zx_put0 G hF hC hk hd (Or.inl hfin) (fun ρ => by rw [ht]; rfl) (fun ρ => by rw [ht]; rfl) (fun ρ => by rw [ht]; simp [z_fv, si, z_c]) (fun ρ j hj => z_fv_si hj) (fun b j hb => by simp [si, hb]) (fun _ _ _ => rfl) (fun _ _ _ => rfl) kk
theorem zx_putZ (G : z_G p c cc s m args own nL D) {index ci k a : Nat} {v : Int32} (hF : z_GF own index ci k) (hC : z_CF ci) (ht : z_ty ci k = .boolean) (hfin : z_fin? ci k = false) (hz : v = 0 ∨ v = 1) (hk : kd a = some (.inl ci)) (hd : decode cc pc = .ok (.putfield index, 3)) (kk : z_X p l e R s m args below meth c nL D A Q mc ms ρ kd q (si μ a k v) (pc + 3) lv (st)) : z_X p l e R s m args below meth c nL D A Q mc ms ρ kd q μ pc lv (.int v :: .ref a :: st) := zx_put0 G hF hC hk hd (Or.inl hfin) (fun ρ => by rw [ht]; exact (z_b_nar hz).1) (fun ρ => by rw [ht]; exact (z_b_nar hz).2) (fun ρ => by rw [ht]; simp [z_fv, si, z_c]) (fun ρ j hj => z_fv_si hj) (fun b j hb => by simp [si, hb]) (fun _ _ _ => rfl) (fun _ _ _ => rfl) kk
theorem zx_putL (G : z_G p c cc s m args own nL D) {index ci k a : Nat} {v : Int64} (hF : z_GF own index ci k) (hC : z_CF ci) (ht : z_ty ci k = .long) (hfin : z_fin? ci k = false) (hk : kd a = some (.inl ci)) (hd : decode cc pc = .ok (.putfield index, 3)) (kk : z_X p l e R s m args below meth c nL D A Q mc ms ρ kd q (sl μ a k v) (pc + 3) lv (st)) : z_X p l e R s m args below meth c nL D A Q mc ms ρ kd q μ pc lv (.long v :: .ref a :: st) := zx_put0 G hF hC hk hd (Or.inl hfin) (fun ρ => by rw [ht]; rfl) (fun ρ => by rw [ht]; rfl) (fun ρ => by rw [ht]; simp [z_fv, sl, z_c]) (fun ρ j hj => z_fv_sl hj) (fun _ _ _ => rfl) (fun b j hb => by simp [sl, hb]) (fun _ _ _ => rfl) kk
theorem zx_putR (G : z_G p c cc s m args own nL D) {index ci k a : Nat} (w : Option Nat) (hF : z_GF own index ci k) (hC : z_CF ci) (ht : (z_ty ci k).isReference = true) (hfin : z_fin? ci k = false) (hk : kd a = some (.inl ci)) (hd : decode cc pc = .ok (.putfield index, 3)) (kk : z_X p l e R s m args below meth c nL D A Q mc ms ρ kd (sr q a k w) μ (pc + 3) lv (st)) : z_X p l e R s m args below meth c nL D A Q mc ms ρ kd q μ pc lv (va_rf w :: .ref a :: st) := zx_put0 G hF hC hk hd (Or.inl hfin) (fun ρ => by rw [z_c_rf]; cases hty : z_ty ci k <;> first | (rw [hty] at ht; cases ht; done) | (cases z_rc ρ w <;> rfl)) (fun ρ => by rw [z_c_rf]; cases hty : z_ty ci k <;> first | (rw [hty] at ht; cases ht; done) | (cases z_rc ρ w <;> rfl)) (fun ρ => by rw [z_c_rf]; cases hty : z_ty ci k <;> first | (rw [hty] at ht; cases ht; done) | simp [z_fv, sr]) (fun ρ j hj => z_fv_sr hj) (fun _ _ _ => rfl) (fun _ _ _ => rfl) (fun b j hb => by simp [sr, hb]) kk
theorem zx_putIF (G : z_G p c cc s m args own nL D) {index ci k a : Nat} {v : Int32} (hF : z_GF own index ci k) (hC : z_CF ci) (ht : z_ty ci k = .int) (hin : meth.name = "<init>") (ho : z_own ci k = own) (hfin : z_fin? ci k = true) (hk : kd a = some (.inl ci)) (hd : decode cc pc = .ok (.putfield index, 3)) (kk : z_X p l e R s m args below meth c nL D A Q mc ms ρ kd q (si μ a k v) (pc + 3) lv (st)) : z_X p l e R s m args below meth c nL D A Q mc ms ρ kd q μ pc lv (.int v :: .ref a :: st) := zx_put0 G hF hC hk hd (Or.inr ⟨hin, ho, hfin⟩) (fun ρ => by rw [ht]; rfl) (fun ρ => by rw [ht]; rfl) (fun ρ => by rw [ht]; simp [z_fv, si, z_c]) (fun ρ j hj => z_fv_si hj) (fun b j hb => by simp [si, hb]) (fun _ _ _ => rfl) (fun _ _ _ => rfl) kk
theorem zx_putZF (G : z_G p c cc s m args own nL D) {index ci k a : Nat} {v : Int32} (hF : z_GF own index ci k) (hC : z_CF ci) (ht : z_ty ci k = .boolean) (hin : meth.name = "<init>") (ho : z_own ci k = own) (hfin : z_fin? ci k = true) (hz : v = 0 ∨ v = 1) (hk : kd a = some (.inl ci)) (hd : decode cc pc = .ok (.putfield index, 3)) (kk : z_X p l e R s m args below meth c nL D A Q mc ms ρ kd q (si μ a k v) (pc + 3) lv (st)) : z_X p l e R s m args below meth c nL D A Q mc ms ρ kd q μ pc lv (.int v :: .ref a :: st) := zx_put0 G hF hC hk hd (Or.inr ⟨hin, ho, hfin⟩) (fun ρ => by rw [ht]; exact (z_b_nar hz).1) (fun ρ => by rw [ht]; exact (z_b_nar hz).2) (fun ρ => by rw [ht]; simp [z_fv, si, z_c]) (fun ρ j hj => z_fv_si hj) (fun b j hb => by simp [si, hb]) (fun _ _ _ => rfl) (fun _ _ _ => rfl) kk
theorem zx_putLF (G : z_G p c cc s m args own nL D) {index ci k a : Nat} {v : Int64} (hF : z_GF own index ci k) (hC : z_CF ci) (ht : z_ty ci k = .long) (hin : meth.name = "<init>") (ho : z_own ci k = own) (hfin : z_fin? ci k = true) (hk : kd a = some (.inl ci)) (hd : decode cc pc = .ok (.putfield index, 3)) (kk : z_X p l e R s m args below meth c nL D A Q mc ms ρ kd q (sl μ a k v) (pc + 3) lv (st)) : z_X p l e R s m args below meth c nL D A Q mc ms ρ kd q μ pc lv (.long v :: .ref a :: st) := zx_put0 G hF hC hk hd (Or.inr ⟨hin, ho, hfin⟩) (fun ρ => by rw [ht]; rfl) (fun ρ => by rw [ht]; rfl) (fun ρ => by rw [ht]; simp [z_fv, sl, z_c]) (fun ρ j hj => z_fv_sl hj) (fun _ _ _ => rfl) (fun b j hb => by simp [sl, hb]) (fun _ _ _ => rfl) kk
theorem zx_putRF (G : z_G p c cc s m args own nL D) {index ci k a : Nat} (w : Option Nat) (hF : z_GF own index ci k) (hC : z_CF ci) (ht : (z_ty ci k).isReference = true) (hin : meth.name = "<init>") (ho : z_own ci k = own) (hfin : z_fin? ci k = true) (hk : kd a = some (.inl ci)) (hd : decode cc pc = .ok (.putfield index, 3)) (kk : z_X p l e R s m args below meth c nL D A Q mc ms ρ kd (sr q a k w) μ (pc + 3) lv (st)) : z_X p l e R s m args below meth c nL D A Q mc ms ρ kd q μ pc lv (va_rf w :: .ref a :: st) := zx_put0 G hF hC hk hd (Or.inr ⟨hin, ho, hfin⟩) (fun ρ => by rw [z_c_rf]; cases hty : z_ty ci k <;> first | (rw [hty] at ht; cases ht; done) | (cases z_rc ρ w <;> rfl)) (fun ρ => by rw [z_c_rf]; cases hty : z_ty ci k <;> first | (rw [hty] at ht; cases ht; done) | (cases z_rc ρ w <;> rfl)) (fun ρ => by rw [z_c_rf]; cases hty : z_ty ci k <;> first | (rw [hty] at ht; cases ht; done) | simp [z_fv, sr]) (fun ρ j hj => z_fv_sr hj) (fun _ _ _ => rfl) (fun _ _ _ => rfl) (fun b j hb => by simp [sr, hb]) kk
theorem z_ac_n (ρ : z_A) (q : z_Q) (μ : z_M) (t a n : Nat) : (z_ac ρ q μ t a n).1 = n := by
  match t with
  | 0 => rfl
  | 1 => rfl
  | 2 => rfl
  | 3 => rfl
  | t + 4 => rfl
theorem z_arr {s : State} {locs : List Loc} {H : Heap} {a t n : Nat} (hS : z_S s D A ρ kd q μ H locs) (hk : kd a = some (.inr (t, n))) : ∃ x, ρ a = some x ∧ z_c ρ (.ref a) = .ref x.1 ∧ A x.1 ∧ H[x.1]? = some (vp_cell x.2 (z_ac ρ q μ t a n)) ∧ ArrOfT s x.2 (z_aty t) ∧ va_RA s x.2 (z_aty t) := by
  obtain ⟨x, hx, hat, ha, hA⟩ := hS.obj hk
  obtain ⟨h1, h2⟩ := hS.2.2.1 a (t, n) x hk hx
  exact ⟨x, hx, ha, hA, hat, h1, h2⟩
theorem zx_iald (G : z_G p c cc s m args own nL D) {a n : Nat} {i : Int32} (hk : kd a = some (.inr (0, n))) (hin : vp_in i n) (hd : decode cc pc = .ok (.iaload, 1)) (kk : z_X p l e R s m args below meth c nL D A Q mc ms ρ kd q μ (pc + 1) lv (.int (μ.1 a i.toNatClampNeg) :: st)) : z_X p l e R s m args below meth c nL D A Q mc ms ρ kd q μ pc lv (.int i :: .ref a :: st) := fun H locs ls hS hl => by
  obtain ⟨x, hx, ha, hA, hc, h1, h2⟩ := z_arr hS hk
  have hlt : i.toNatClampNeg < n := Nat.not_le.mp fun q => hin (Or.inr q)
  have hc : H[x.1]? = some (arrV x.2 n (fun j => .int (μ.1 a j))) := hc
  rw [List.map_cons, List.map_cons, ha]
  exact W.iald (v := .int (μ.1 a i.toNatClampNeg)) G.1 G.2.1 hc (h1 n _) (fun q => by cases q) (by rw [arrV_size]; exact hin) (arrV_read _ _ hlt) rfl rfl hd (kk H locs ls hS hl)
theorem zx_bald (G : z_G p c cc s m args own nL D) {a n : Nat} {i : Int32} (hk : kd a = some (.inr (1, n))) (hin : vp_in i n) (hd : decode cc pc = .ok (.baload, 1)) (kk : z_X p l e R s m args below meth c nL D A Q mc ms ρ kd q μ (pc + 1) lv (.int (μ.1 a i.toNatClampNeg) :: st)) : z_X p l e R s m args below meth c nL D A Q mc ms ρ kd q μ pc lv (.int i :: .ref a :: st) := fun H locs ls hS hl => by
  obtain ⟨x, hx, ha, hA, hc, h1, h2⟩ := z_arr hS hk
  have hlt : i.toNatClampNeg < n := Nat.not_le.mp fun q => hin (Or.inr q)
  have hc : H[x.1]? = some (arrV x.2 n (fun j => .int (μ.1 a j))) := hc
  rw [List.map_cons, List.map_cons, ha]
  exact W.bald (v := .int (μ.1 a i.toNatClampNeg)) G.1 G.2.1 hc (h1 n _) (fun q => by cases q) (by rw [arrV_size]; exact hin) (arrV_read _ _ hlt) rfl rfl hd (kk H locs ls hS hl)
theorem zx_zald (G : z_G p c cc s m args own nL D) {a n : Nat} {i : Int32} (hk : kd a = some (.inr (2, n))) (hin : vp_in i n) (hd : decode cc pc = .ok (.baload, 1)) (kk : z_X p l e R s m args below meth c nL D A Q mc ms ρ kd q μ (pc + 1) lv (.int (μ.1 a i.toNatClampNeg) :: st)) : z_X p l e R s m args below meth c nL D A Q mc ms ρ kd q μ pc lv (.int i :: .ref a :: st) := fun H locs ls hS hl => by
  obtain ⟨x, hx, ha, hA, hc, h1, h2⟩ := z_arr hS hk
  have hlt : i.toNatClampNeg < n := Nat.not_le.mp fun q => hin (Or.inr q)
  have hc : H[x.1]? = some (arrV x.2 n (fun j => .int (μ.1 a j))) := hc
  rw [List.map_cons, List.map_cons, ha]
  exact W.zald (v := .int (μ.1 a i.toNatClampNeg)) G.1 G.2.1 hc (h1 n _) (fun q => by cases q) (by rw [arrV_size]; exact hin) (arrV_read _ _ hlt) rfl rfl hd (kk H locs ls hS hl)
theorem zx_lald (G : z_G p c cc s m args own nL D) {a n : Nat} {i : Int32} (hk : kd a = some (.inr (3, n))) (hin : vp_in i n) (hd : decode cc pc = .ok (.laload, 1)) (kk : z_X p l e R s m args below meth c nL D A Q mc ms ρ kd q μ (pc + 1) lv (.long (μ.2 a i.toNatClampNeg) :: st)) : z_X p l e R s m args below meth c nL D A Q mc ms ρ kd q μ pc lv (.int i :: .ref a :: st) := fun H locs ls hS hl => by
  obtain ⟨x, hx, ha, hA, hc, h1, h2⟩ := z_arr hS hk
  have hlt : i.toNatClampNeg < n := Nat.not_le.mp fun q => hin (Or.inr q)
  have hc : H[x.1]? = some (arrV x.2 n (fun j => .long (μ.2 a j))) := hc
  rw [List.map_cons, List.map_cons, ha]
  exact W.lald (v := .long (μ.2 a i.toNatClampNeg)) G.1 G.2.1 hc (h1 n _) (fun q => by cases q) (by rw [arrV_size]; exact hin) (arrV_read _ _ hlt) rfl rfl hd (kk H locs ls hS hl)
theorem zx_aald (G : z_G p c cc s m args own nL D) {a n t : Nat} {i : Int32} (hk : kd a = some (.inr (t + 4, n))) (hin : vp_in i n) (hd : decode cc pc = .ok (.aaload, 1)) (kk : z_X p l e R s m args below meth c nL D A Q mc ms ρ kd q μ (pc + 1) lv (va_rf (q a i.toNatClampNeg) :: st)) : z_X p l e R s m args below meth c nL D A Q mc ms ρ kd q μ pc lv (.int i :: .ref a :: st) := fun H locs ls hS hl => by
  obtain ⟨x, hx, ha, hA, hc, h1, h2⟩ := z_arr hS hk
  have hlt : i.toNatClampNeg < n := Nat.not_le.mp fun q => hin (Or.inr q)
  have h3 := kk H locs ls hS hl
  rw [List.map_cons, z_c_rf] at h3
  have hc : H[x.1]? = some (arrV x.2 n (fun j => va_rf (z_rc ρ (q a j)))) := hc
  rw [List.map_cons, List.map_cons, ha]
  exact W.aald (v := va_rf (z_rc ρ (q a i.toNatClampNeg))) (ty := .object (z_name t)) G.1 G.2.1 hc (h1 n _) rfl (fun q => by cases q) (by rw [arrV_size]; exact hin) (arrV_read _ _ hlt) rfl rfl hd h3
theorem zx_iast (G : z_G p c cc s m args own nL D) {a n : Nat} {i : Int32} {v : Int32} (hk : kd a = some (.inr (0, n))) (hin : vp_in i n) (hd : decode cc pc = .ok (.iastore, 1)) (kk : z_X p l e R s m args below meth c nL D A Q mc ms ρ kd q (si μ a i.toNatClampNeg (v)) (pc + 1) lv (st)) : z_X p l e R s m args below meth c nL D A Q mc ms ρ kd q μ pc lv (.int v :: .int i :: .ref a :: st) := fun H locs ls hS hl => by
  obtain ⟨x, hx, ha, hA, hc, h1, h2⟩ := z_arr hS hk
  have hlt : i.toNatClampNeg < n := Nat.not_le.mp fun q => hin (Or.inr q)
  have hc : H[x.1]? = some (arrV x.2 n (fun j => .int (μ.1 a j))) := hc
  rw [List.map_cons, List.map_cons, List.map_cons, ha]
  refine W.iast G.1 G.2.1 hc (h1 n _) (fun q => by cases q) (by rw [arrV_size]; exact hin) rfl rfl hd fun H1 e z oq => ?_
  refine kk H1 _ ls (hS.set hk hx z oq ?_ (fun b j hb => by simp [si, hb]) (fun b j hb => by simp [si, hb]) (fun _ _ _ => rfl)) hl
  show H1[x.1]? = some (arrV x.2 n (fun j => .int ((si μ a i.toNatClampNeg (v)).1 a j)))
  rw [e, arrV_store]
  congr 2
  funext j
  by_cases hq : j = i.toNatClampNeg
  · subst hq
    simp [updV, si, narrow]
  · simp [updV, si, hq]
theorem zx_bast (G : z_G p c cc s m args own nL D) {a n : Nat} {i : Int32} {v : Int32} (hk : kd a = some (.inr (1, n))) (hin : vp_in i n) (hd : decode cc pc = .ok (.bastore, 1)) (kk : z_X p l e R s m args below meth c nL D A Q mc ms ρ kd q (si μ a i.toNatClampNeg (v.toInt8.toInt32)) (pc + 1) lv (st)) : z_X p l e R s m args below meth c nL D A Q mc ms ρ kd q μ pc lv (.int v :: .int i :: .ref a :: st) := fun H locs ls hS hl => by
  obtain ⟨x, hx, ha, hA, hc, h1, h2⟩ := z_arr hS hk
  have hlt : i.toNatClampNeg < n := Nat.not_le.mp fun q => hin (Or.inr q)
  have hc : H[x.1]? = some (arrV x.2 n (fun j => .int (μ.1 a j))) := hc
  rw [List.map_cons, List.map_cons, List.map_cons, ha]
  refine W.bast G.1 G.2.1 hc (h1 n _) (fun q => by cases q) (by rw [arrV_size]; exact hin) rfl rfl hd fun H1 e z oq => ?_
  refine kk H1 _ ls (hS.set hk hx z oq ?_ (fun b j hb => by simp [si, hb]) (fun b j hb => by simp [si, hb]) (fun _ _ _ => rfl)) hl
  show H1[x.1]? = some (arrV x.2 n (fun j => .int ((si μ a i.toNatClampNeg (v.toInt8.toInt32)).1 a j)))
  rw [e, arrV_store]
  congr 2
  funext j
  by_cases hq : j = i.toNatClampNeg
  · subst hq
    simp [updV, si, narrow]
  · simp [updV, si, hq]
theorem zx_zast (G : z_G p c cc s m args own nL D) {a n : Nat} {i : Int32} {v : Int32} (hk : kd a = some (.inr (2, n))) (hin : vp_in i n) (hd : decode cc pc = .ok (.bastore, 1)) (kk : z_X p l e R s m args below meth c nL D A Q mc ms ρ kd q (si μ a i.toNatClampNeg (v &&& 1)) (pc + 1) lv (st)) : z_X p l e R s m args below meth c nL D A Q mc ms ρ kd q μ pc lv (.int v :: .int i :: .ref a :: st) := fun H locs ls hS hl => by
  obtain ⟨x, hx, ha, hA, hc, h1, h2⟩ := z_arr hS hk
  have hlt : i.toNatClampNeg < n := Nat.not_le.mp fun q => hin (Or.inr q)
  have hc : H[x.1]? = some (arrV x.2 n (fun j => .int (μ.1 a j))) := hc
  rw [List.map_cons, List.map_cons, List.map_cons, ha]
  refine W.zast G.1 G.2.1 hc (h1 n _) (fun q => by cases q) (by rw [arrV_size]; exact hin) rfl rfl hd fun H1 e z oq => ?_
  refine kk H1 _ ls (hS.set hk hx z oq ?_ (fun b j hb => by simp [si, hb]) (fun b j hb => by simp [si, hb]) (fun _ _ _ => rfl)) hl
  show H1[x.1]? = some (arrV x.2 n (fun j => .int ((si μ a i.toNatClampNeg (v &&& 1)).1 a j)))
  rw [e, arrV_store]
  congr 2
  funext j
  by_cases hq : j = i.toNatClampNeg
  · subst hq
    simp [updV, si, narrow]
  · simp [updV, si, hq]
theorem zx_last (G : z_G p c cc s m args own nL D) {a n : Nat} {i : Int32} {v : Int64} (hk : kd a = some (.inr (3, n))) (hin : vp_in i n) (hd : decode cc pc = .ok (.lastore, 1)) (kk : z_X p l e R s m args below meth c nL D A Q mc ms ρ kd q (sl μ a i.toNatClampNeg (v)) (pc + 1) lv (st)) : z_X p l e R s m args below meth c nL D A Q mc ms ρ kd q μ pc lv (.long v :: .int i :: .ref a :: st) := fun H locs ls hS hl => by
  obtain ⟨x, hx, ha, hA, hc, h1, h2⟩ := z_arr hS hk
  have hlt : i.toNatClampNeg < n := Nat.not_le.mp fun q => hin (Or.inr q)
  have hc : H[x.1]? = some (arrV x.2 n (fun j => .long (μ.2 a j))) := hc
  rw [List.map_cons, List.map_cons, List.map_cons, ha]
  refine W.last G.1 G.2.1 hc (h1 n _) (fun q => by cases q) (by rw [arrV_size]; exact hin) rfl rfl hd fun H1 e z oq => ?_
  refine kk H1 _ ls (hS.set hk hx z oq ?_ (fun b j hb => by simp [sl, hb]) (fun b j hb => by simp [sl, hb]) (fun _ _ _ => rfl)) hl
  show H1[x.1]? = some (arrV x.2 n (fun j => .long ((sl μ a i.toNatClampNeg v).2 a j)))
  rw [e, arrV_store]
  congr 2
  funext j
  by_cases hq : j = i.toNatClampNeg
  · subst hq
    simp [updV, sl, narrow]
  · simp [updV, sl, hq]
theorem zx_aast (G : z_G p c cc s m args own nL D) {a n t b : Nat} {i : Int32} (hk : kd a = some (.inr (t + 4, n))) (hb : kd b = some (.inl t)) (hin : vp_in i n) (hd : decode cc pc = .ok (.aastore, 1)) (kk : z_X p l e R s m args below meth c nL D A Q mc ms ρ kd (sr q a i.toNatClampNeg (some b)) μ (pc + 1) lv (st)) : z_X p l e R s m args below meth c nL D A Q mc ms ρ kd q μ pc lv (.ref b :: .int i :: .ref a :: st) := fun H locs ls hS hl => by
  obtain ⟨x, hx, ha, hA, hc, h1, h2⟩ := z_arr hS hk
  obtain ⟨y, hy, ⟨r, hr, cellV, g1, g2, g3, -⟩, hbb, -⟩ := hS.obj hb
  have hlt : i.toNatClampNeg < n := Nat.not_le.mp fun q => hin (Or.inr q)
  have h0 : ¬ i < 0 := fun q => hin (Or.inl q)
  rw [List.map_cons, List.map_cons, List.map_cons, ha, hbb]
  have hc : H[x.1]? = some (arrV x.2 n (fun j => va_rf (z_rc ρ (q a j)))) := hc
  have hcls := (G.2.2.2.2.2.2.1 t r hr).2
  obtain ⟨kA, comp, k1, k2, k3, -⟩ := h2
  have hcomp : comp = D.1 t := by
    have hn : z_name t = r.1 := by unfold z_name; rw [hr]
    rw [hn] at k3
    exact Option.some.inj (k3.symm.trans hcls.1)
  subst hcomp
  obtain ⟨kC, hkC, hkind⟩ := hcls.2
  have has : s.vm.assignable (D.1 t) (D.1 t) = true := by simp [Vm.assignable, Vm.assignableAux, hkC, hkind, Vm.isSubclass, Vm.isSubclassAux]
  refine W.aast G.1 G.2.1 hc (fun q h => by cases h) (fun h => by cases h) k1 k2 rfl hkC ⟨h0, by rw [arrV_size]; exact hlt⟩ g1 (fun q h => by rw [g3] at h; cases h) (by rw [g2]; exact hkC) (by rw [g2]; exact has) rfl rfl hd fun H1 e z oq => ?_
  refine kk H1 _ ls (hS.set hk hx z oq ?_ (fun _ _ _ => rfl) (fun _ _ _ => rfl) (fun b j hb => by simp [sr, hb])) hl
  show H1[x.1]? = some (arrV x.2 n (fun j => va_rf (z_rc ρ (sr q a i.toNatClampNeg (some b) a j))))
  rw [e, arrV_store]
  congr 2
  funext j
  by_cases hq : j = i.toNatClampNeg
  · subst hq
    simp [updV, sr, z_rc, hy, va_rf]
  · simp [updV, sr, hq]
theorem zx_alen (G : z_G p c cc s m args own nL D) {a n t : Nat} (hk : kd a = some (.inr (t, n))) (hd : decode cc pc = .ok (.arraylength, 1)) (kk : z_X p l e R s m args below meth c nL D A Q mc ms ρ kd q μ (pc + 1) lv (.int (nI n) :: st)) : z_X p l e R s m args below meth c nL D A Q mc ms ρ kd q μ pc lv (.ref a :: st) := fun H locs ls hS hl => by
  obtain ⟨x, hx, ha, hA, hc, h1, h2⟩ := z_arr hS hk
  rw [List.map_cons, ha]
  have hz : (vp_cell x.2 (z_ac ρ q μ t a n)).slots.size = n := by
    match t with
    | 0 => exact arrV_size _ _ _
    | 1 => exact arrV_size _ _ _
    | 2 => exact arrV_size _ _ _
    | 3 => exact arrV_size _ _ _
    | t + 4 => exact arrV_size _ _ _
  have harr : s.isArrayOf (vp_cell x.2 (z_ac ρ q μ t a n)) (z_aty t) := by
    match t with
    | 0 => exact h1 n _
    | 1 => exact h1 n _
    | 2 => exact h1 n _
    | 3 => exact h1 n _
    | t + 4 => exact h1 n _
  exact W.alen G.1 G.2.1 hc harr (by rw [hz]; rfl) rfl rfl hd (kk H locs ls hS hl)
end ZH
