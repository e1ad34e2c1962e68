/-! The reference: layOff. -/
def wwF (S : z_SS) (b r h st s : Nat) (x : Nat) : Option Int := if runsS S r x then some (balZ S b r x + (if x = h then (wonBy S st s : Int) else -(st : Int))) else none
theorem minO_succ (n : Nat) (f : Nat → Option Int) : minO (n + 1) f = (match minO n f, f n with
  | none, x => x
  | some m, none => some m
  | some m, some v => if v < m then some v else some m) := rfl
theorem iI_0sub (n : Nat) : (0 : Int32) - nI n = iI (-(n : Int)) := by
  rw [← iI_nat, show (0 : Int32) = iI 0 from rfl, iI_sub, Int.zero_sub]
theorem wI_getD (o : Option Int) : wI o = iI (o.getD 0) := by cases o <;> rfl
def rbk (p : z_R) : Int32 := match p.2 with
  | none => -1
  | some x => nI x.1
def ron (p : z_R) : Int32 := match p.2 with
  | none => 0
  | some x => nI x.2.1
def rst (p : z_R) : Int32 := match p.2 with
  | none => 0
  | some x => nI x.2.2
def PBd (p : z_R) : Prop := (-102500000 ≤ p.1 ∧ p.1 ≤ 2880000) ∧ ∀ x, p.2 = some x → x.1 < 4 ∧ x.2.1 < 8 ∧ x.2.2 ≤ 5000
section REFE
variable {B : Nat} {S : z_SS} {μ : z_M}
theorem balZ_bd (hB : B ≤ 84) (hW : WF B S) (b : Nat) {r : Nat} (hr : r < 3) (h : Nat) : -102480000 ≤ balZ S b r h ∧ balZ S b r h ≤ 1680000 := by
  have := stakesS_le hB hW b r
  have := backsS_le hB hW (b := b) (h := h) (r := r) hr
  unfold balZ
  omega
theorem wwF_bd (hB : B ≤ 84) (hW : WF B S) {b r h st s : Nat} (hr : r < 3) (hs : s < S.1 0 5) (hst : st ≤ 20000) : ∀ x v, wwF S b r h st s x = some v → -102500000 ≤ v ∧ v ≤ 2880000 := by
  intro x v e
  unfold wwF at e
  have h1 := balZ_bd hB hW b hr x
  have h2 := wf_won hW hst hs
  split at e
  · cases e
    split <;> omega
  · cases e
theorem wwS_bd (hB : B ≤ 84) (hW : WF B S) {b r h st s : Nat} (hr : r < 3) (hs : s < S.1 0 5) (hst : st ≤ 20000) : -102500000 ≤ (wwS S b r h st s).getD 0 ∧ (wwS S b r h st s).getD 0 ≤ 2880000 := by
  have bdm := minO_bd (wwF_bd hB hW (b := b) (r := r) (h := h) hr hs hst) (S.1 10 r)
  cases e : wwS S b r h st s with
  | none => exact ⟨by decide, by decide⟩
  | some m => exact bdm m e
theorem r_worstWith (hB : B ≤ 84) (hR : RepR S μ) (hW : WF B S) {b r h st s : Nat} (hb : b < 2 ^ 31) (hr : r < S.1 0 3) (hh : h < 8) (hst : st ≤ 20000) (hs : s < S.1 0 5) {K : Int32 → z_M → Prop} (hK : K (wI (wwS S b r h st s)) μ) : C_X12_worstWith (nI b) (nI r) (nI h) (nI st) (nI s) μ K := by
  have h3 := hW.1
  have h4 := hW.2.2.1 r hr
  have bd := wwF_bd hB hW (b := b) (r := r) (h := h) (by omega) hs hst
  have bdm := minO_bd (f := wwF S b r h st s) bd
  unfold C_X12_worstWith L_X12_worstWith_9
  intro P hP
  refine downTo (Q := fun i => P (nI b) (nI r) (nI h) (nI st) (nI s) (wI (minO i (wwF S b r h st s))) (flO (minO i (wwF S b r h st s))) (nI i) μ) (S.1 10 r) ?_ (fun i hi ih => ?_) 0 (Nat.zero_le _)
  · refine hP _ _ _ _ _ _ _ _ _ ?_
    unfold B_X12_worstWith_9
    rw [nI_clamp (by omega), hR.a (c := 10) rfl]
    exact ⟨nI_vin (by omega) (by omega), ifc (nI_leI (by omega) (by omega)) (fun _ => hK) (fun g => absurd (Nat.le_refl _) g)⟩
  · refine hP _ _ _ _ _ _ _ _ _ ?_
    unfold B_X12_worstWith_9 L_X12_worstWith_61 L_X12_worstWith_83
    rw [nI_clamp (by omega), hR.a (c := 10) rfl]
    refine ⟨nI_vin (by omega) (by omega), ifc (nI_leI (by omega) (by omega)) (fun g => absurd g (by omega)) (fun _ => ?_)⟩
    rw [minO_succ, ← nI_1] at ih
    refine r_runsN hR hW (by omega) (by omega) (fun e1 => ?_) (fun e1 => ?_)
    · rw [if_neg i10]
      refine r_balanceAt hB hR hW hb (by omega) (by omega) ?_
      have fin : ∀ v : Int, wwF S b r h st s i = some v → (if flO (minO i (wwF S b r h st s)) = 0 then P (nI b) (nI r) (nI h) (nI st) (nI s) (iI v) 1 (nI i + 1) μ else if wI (minO i (wwF S b r h st s)) ≤ iI v then P (nI b) (nI r) (nI h) (nI st) (nI s) (wI (minO i (wwF S b r h st s))) 1 (nI i + 1) μ else P (nI b) (nI r) (nI h) (nI st) (nI s) (iI v) 1 (nI i + 1) μ) := by
        intro v ev
        rw [ev] at ih
        have hb1 := bd i v ev
        cases e2 : minO i (wwF S b r h st s) with
        | none =>
          rw [e2] at ih
          rw [if_pos (show flO none = 0 from rfl)]
          exact ih
        | some m =>
          have hb2 := bdm i m e2
          rw [e2] at ih
          rw [if_neg (show ¬ flO (some m) = 0 from i10)]
          dsimp only at ih
          show if iI m ≤ iI _ then _ else _
          refine ifc (iI_le (by omega) (by omega) (by omega) (by omega)) (fun g => ?_) (fun g => ?_)
          · rw [if_neg (by omega)] at ih
            exact ih
          · rw [if_pos (by omega)] at ih
            exact ih
      refine ifc (nI_eq (by omega) (by omega)) (fun e => ?_) (fun e => ?_)
      · refine r_wonBy hR hW (by omega) hs ?_
        rw [← iI_nat (wonBy S st s), iI_add]
        exact fin _ (by unfold wwF; rw [if_pos e1, if_pos e])
      · rw [iI_0sub, iI_add]
        exact fin _ (by unfold wwF; rw [if_pos e1, if_neg e])
    · rw [if_pos rfl]
      have ev : wwF S b r h st s i = none := if_neg e1
      rw [ev] at ih
      cases e2 : minO i (wwF S b r h st s) with
      | none => rw [e2] at ih; exact ih
      | some m => rw [e2] at ih; exact ih
theorem off1_bd (hB : B ≤ 84) (hW : WF B S) {b r q k h : Nat} (hr : r < S.1 0 3) (hq : q < S.1 0 4) (hh : h < S.1 10 r) (hk : 100 * k ≤ 5000) {p : z_R} (hp : PBd p) : PBd (off1 S b r q k h p) := by
  have h3 := hW.1
  have h4 := hW.2.2.1 r hr
  unfold off1
  split
  · split
    · exact hp
    · rename_i s es
      split
      · exact ⟨wwS_bd hB hW (by omega) (wf17 hW (by omega) es).1 (by omega), fun x e => by
          cases e
          exact ⟨by show q < 4; omega, by show h < 8; omega, hk⟩⟩
      · exact hp
  · exact hp
theorem offH_bd (hB : B ≤ 84) (hW : WF B S) {b r q k : Nat} (hr : r < S.1 0 3) (hq : q < S.1 0 4) (hk : 100 * k ≤ 5000) {p : z_R} (hp : PBd p) : ∀ n, n ≤ S.1 10 r → PBd (offH S b r q k p n) := by
  intro n
  induction n with
  | zero => intro _; exact hp
  | succ n ih => intro hn; exact off1_bd hB hW hr hq (by omega) hk (ih (by omega))
theorem offB_bd (hB : B ≤ 84) (hW : WF B S) {b r k : Nat} (hr : r < S.1 0 3) (hk : 100 * k ≤ 5000) {p : z_R} (hp : PBd p) : ∀ n, n ≤ S.1 0 4 → PBd (offB S b r k p n) := by
  intro n
  induction n with
  | zero => intro _; exact hp
  | succ n ih => intro hn; exact offH_bd hB hW hr (by omega) hk (ih (by omega)) _ (Nat.le_refl _)
theorem offK_bd (hB : B ≤ 84) (hW : WF B S) {b r : Nat} (hr : r < S.1 0 3) {p : z_R} (hp : PBd p) : ∀ n, 100 * n ≤ 5000 → PBd (offK S b r p n) := by
  intro n
  induction n with
  | zero => intro _; exact hp
  | succ n ih => intro hn; exact offB_bd hB hW hr hn (ih (by omega)) _ (Nat.le_refl _)
theorem r_off96 (hB : B ≤ 84) (hR : RepR S μ) (hW : WF B S) {bk r tot w k o : Nat} (hb : bk < 4) (hr : r < S.1 0 3) (ho : o < S.1 0 4) (hk : 100 * k ≤ 5000) {p : z_R} (hp : PBd p) {K : Int32 → z_M → Prop} {P75 : Int32 → Int32 → Int32 → Int32 → Int32 → Int32 → Int32 → Int32 → Int32 → z_M → Prop} {P84 : Int32 → Int32 → Int32 → Int32 → Int32 → Int32 → Int32 → Int32 → Int32 → Int32 → z_M → Prop}
    (hc : P84 (nI bk) (nI r) (nI tot) (nI w) (iI (offH S bk r o k p (S.1 10 r)).1) (rbk (offH S bk r o k p (S.1 10 r))) (ron (offH S bk r o k p (S.1 10 r))) (rst (offH S bk r o k p (S.1 10 r))) (nI (100 * k)) (nI o + 1) μ) :
    L_X12_layOff_96 K P75 P84 (nI bk) (nI r) (nI tot) (nI w) (iI p.1) (rbk p) (ron p) (rst p) (nI (100 * k)) (nI o) 0 μ := by
  have h3 := hW.1
  have h4 := hW.2.2.1 r hr
  have h5 := hW.2.2.2.1 o ho
  have hbd := offH_bd hB hW (b := bk) hr ho hk hp
  unfold L_X12_layOff_96
  intro P96 hP96
  refine downTo (Q := fun h => P96 (nI bk) (nI r) (nI tot) (nI w) (iI (offH S bk r o k p h).1) (rbk (offH S bk r o k p h)) (ron (offH S bk r o k p h)) (rst (offH S bk r o k p h)) (nI (100 * k)) (nI o) (nI h) μ) (S.1 10 r) ?_ (fun h hh ih => ?_) 0 (Nat.zero_le _)
  · refine hP96 _ _ _ _ _ _ _ _ _ _ _ _ ?_
    unfold B_X12_layOff_96
    rw [nI_clamp (n := r) (by omega), hR.a (c := 10) rfl]
    exact ⟨nI_vin (by omega) (by omega), ifc (nI_leI (by omega) (by omega)) (fun _ => hc) (fun g => absurd (Nat.le_refl _) g)⟩
  · refine hP96 _ _ _ _ _ _ _ _ _ _ _ _ ?_
    unfold B_X12_layOff_96
    have ih : P96 (nI bk) (nI r) (nI tot) (nI w) (iI (off1 S bk r o k h (offH S bk r o k p h)).1) (rbk (off1 S bk r o k h (offH S bk r o k p h))) (ron (off1 S bk r o k h (offH S bk r o k p h))) (rst (off1 S bk r o k h (offH S bk r o k p h))) (nI (100 * k)) (nI o) (nI h + 1) μ := by
      rw [nI_1]
      exact ih
    have hp1 := hbd h (by omega)
    generalize offH S bk r o k p h = p1 at ih hp1 ⊢
    unfold off1 at ih
    rw [nI_clamp (n := r) (by omega), hR.a (c := 10) rfl]
    refine ⟨nI_vin (by omega) (by omega), ifc (nI_leI (by omega) (by omega)) (fun g => absurd g (by omega)) (fun _ => ?_)⟩
    refine r_cellOf ⟨nI_vin (by omega) (by omega), ifc (nI_eq (by omega) (by omega)) (fun e => ?_) (fun e => ?_)⟩
    · rw [if_neg (fun g => g.1 e)] at ih
      exact ih
    · rw [nI_clamp (n := o) (by omega), hR.a (c := 16) rfl]
      refine ⟨nI_vin (by omega) (by omega), ifc (nI_eq (b := 0) (by omega) (by omega)) (fun e0 => ?_) (fun e0 => ?_)⟩
      · rw [if_pos ⟨e, e0⟩] at ih
        rw [nI_clamp (n := 24 * o + 8 * r + h) (by omega), hR.o (c := 17) rfl]
        cases es : S.2.1 17 (24 * o + 8 * r + h) with
        | none =>
          rw [es] at ih
          rw [if_pos oI_none]
          exact ih
        | some s =>
          rw [es] at ih
          dsimp only at ih
          have hs := (wf17 hW (by omega) es).1
          rw [if_neg (show ¬ oI (some s) = -1 from nI_ne_m1 (by omega)), oI_some]
          refine r_worstWith hB hR hW (by omega) hr (by omega) (by omega) hs ?_
          have hwb := wwS_bd hB hW (b := bk) (r := r) (h := h) (st := 100 * k) (s := s) (by omega) hs (by omega)
          have hp2 := hp1.1
          rw [wI_getD]
          refine ifc (iI_lt (by omega) (by omega) (by omega) (by omega)) (fun g => ?_) (fun g => ?_)
          · rw [if_pos g] at ih
            exact ih
          · rw [if_neg g] at ih
            exact ih
      · rw [if_neg (fun g => e0 g.2)] at ih
        exact ih
theorem r_off84 (hB : B ≤ 84) (hR : RepR S μ) (hW : WF B S) {bk r tot w k : Nat} (hb : bk < 4) (hr : r < S.1 0 3) (hk : 100 * k ≤ 5000) {p : z_R} (hp : PBd p) {K : Int32 → z_M → Prop} {P75 : Int32 → Int32 → Int32 → Int32 → Int32 → Int32 → Int32 → Int32 → Int32 → z_M → Prop}
    (hc : P75 (nI bk) (nI r) (nI tot) (nI w) (iI (offB S bk r k p (S.1 0 4)).1) (rbk (offB S bk r k p (S.1 0 4))) (ron (offB S bk r k p (S.1 0 4))) (rst (offB S bk r k p (S.1 0 4))) (nI (100 * k) + 100) μ) :
    L_X12_layOff_84 K P75 (nI bk) (nI r) (nI tot) (nI w) (iI p.1) (rbk p) (ron p) (rst p) (nI (100 * k)) 0 μ := by
  have h3 := hW.1
  have hbd := offB_bd hB hW (b := bk) hr hk hp
  unfold L_X12_layOff_84
  intro P84 hP84
  refine downTo (Q := fun o => P84 (nI bk) (nI r) (nI tot) (nI w) (iI (offB S bk r k p o).1) (rbk (offB S bk r k p o)) (ron (offB S bk r k p o)) (rst (offB S bk r k p o)) (nI (100 * k)) (nI o) μ) (S.1 0 4) ?_ (fun o ho ih => ?_) 0 (Nat.zero_le _)
  · refine hP84 _ _ _ _ _ _ _ _ _ _ _ ?_
    unfold B_X12_layOff_84
    rw [hR.f (k := 4) (by decide) (by decide)]
    exact ifc (nI_leI (by omega) (by omega)) (fun _ => hc) (fun g => absurd (Nat.le_refl _) g)
  · refine hP84 _ _ _ _ _ _ _ _ _ _ _ ?_
    unfold B_X12_layOff_84
    rw [hR.f (k := 4) (by decide) (by decide)]
    refine ifc (nI_leI (by omega) (by omega)) (fun g => absurd g (by omega)) (fun _ => ?_)
    refine r_off96 hB hR hW hb hr ho hk (hbd o (by omega)) ?_
    rw [nI_1]
    exact ih
theorem r_layOff (hB : B ≤ 84) (hR : RepR S μ) (hW : WF B S) {a b c d : Int32} {K : Int32 → z_M → Prop} (hK : K (opLayOff S a b c d) μ) : C_X12_layOff a b c d μ K := by
  have h3 := hW.1
  unfold C_X12_layOff
  unfold opLayOff at hK
  refine r_isBook hR hW (fun bk hb e => ?_) (fun g => by rw [if_pos rfl]; rw [ixO_none g] at hK; exact hK)
  subst e
  rw [ixO_some hb (by omega)] at hK
  dsimp only at hK
  rw [if_neg i10]
  refine r_isRace hR hW (fun r hr e => ?_) (fun g => by rw [if_pos rfl]; rw [ixO_none g] at hK; exact hK)
  subst e
  have h4 := hW.2.2.1 r hr
  rw [ixO_some hr (by omega)] at hK
  dsimp only at hK
  rw [if_neg i10, nI_clamp (by omega), hR.a (c := 12) rfl]
  refine ⟨nI_vin (by omega) (by omega), ifc (nI_eq (b := 0) (by omega) (by omega)) (fun e0 => ?_) (fun e0 => by rw [if_neg e0] at hK; exact hK)⟩
  rw [if_pos e0] at hK
  refine r_liesC (lo := 100) (hi := 5000) (x := 100) (y := 5000) rfl rfl (by decide) (by decide) (fun tot t1 t2 ea => ?_) (fun g => ?_)
  · subst ea
    rw [ixO_some (show tot < 5001 by omega) (by decide)] at hK
    dsimp only at hK
    rw [if_neg (by omega)] at hK
    rw [if_neg i10]
    refine r_liesC (lo := 0) (hi := 3) (x := 0) (y := 3) rfl rfl (by decide) (by decide) (fun w _ w2 ed => ?_) (fun g => ?_)
    · subst ed
      rw [ixO_some (show w < 4 by omega) (by decide)] at hK
      dsimp only at hK
      rw [if_neg i10]
      refine r_worstOf hB hR hW (by omega) hr ?_
      have hp0 : PBd ((worstS S bk r).getD 0, none) := ⟨by
        cases e : worstS S bk r with
        | none => exact ⟨by decide, by decide⟩
        | some m =>
          have := minO_bd (lo := -102480000) (hi := 1680000) (f := fun h => if runsS S r h then some (balZ S bk r h) else none) (fun x v ev => by
            have hb2 := balZ_bd hB hW bk (r := r) (by omega) x
            split at ev
            · cases ev
              exact hb2
            · cases ev) (S.1 10 r) m e
          show -102500000 ≤ m ∧ m ≤ 2880000
          omega, fun x e => by cases e⟩
      have hbd := offK_bd hB hW (b := bk) hr hp0
      unfold offS at hK
      rw [wI_getD]
      unfold L_X12_layOff_75
      intro P75 hP75
      refine downTo (Q := fun k => P75 (nI bk) (nI r) (nI tot) (nI w) (iI (offK S bk r ((worstS S bk r).getD 0, none) k).1) (rbk (offK S bk r ((worstS S bk r).getD 0, none) k)) (ron (offK S bk r ((worstS S bk r).getD 0, none) k)) (rst (offK S bk r ((worstS S bk r).getD 0, none) k)) (nI (100 * (k + 1))) μ) (tot / 100) ?_ (fun k hk ih => ?_) 0 (Nat.zero_le _)
      · refine hP75 _ _ _ _ _ _ _ _ _ _ ?_
        unfold B_X12_layOff_75
        refine ifc (nI_ltI (by omega) (by omega)) (fun _ => ?_) (fun g => absurd (show tot < 100 * (tot / 100 + 1) by omega) g)
        have hb2 := hbd (tot / 100) (by omega)
        generalize offK S bk r ((worstS S bk r).getD 0, none) (tot / 100) = p at hK hb2 ⊢
        obtain ⟨v, o⟩ := p
        cases o with
        | none =>
          rw [if_pos (show rbk (v, none) = -1 from rfl)]
          exact hK
        | some x =>
          obtain ⟨q, h, st⟩ := x
          have hx : q < 4 ∧ h < 8 ∧ st ≤ 5000 := hb2.2 (q, h, st) rfl
          rw [if_neg (show ¬ rbk (v, some (q, h, st)) = -1 from nI_ne_m1 (by omega))]
          dsimp only at hK
          refine ifc (nI_eq (b := 0) (by omega) (by omega)) (fun e => by rw [if_pos e] at hK; exact hK) (fun e => ?_)
          rw [if_neg e] at hK
          refine ifc (nI_eq (b := 1) (by omega) (by omega)) (fun e => by rw [if_pos e] at hK; exact hK) (fun e => ?_)
          rw [if_neg e] at hK
          exact ifc (nI_eq (b := 2) (by omega) (by omega)) (fun e => by rw [if_pos e] at hK; exact hK) (fun e => by rw [if_neg e] at hK; exact hK)
      · refine hP75 _ _ _ _ _ _ _ _ _ _ ?_
        unfold B_X12_layOff_75
        refine ifc (nI_ltI (by omega) (by omega)) (fun g => absurd g (by omega)) (fun _ => ?_)
        refine r_off84 hB hR hW (by omega) hr (by omega) (hbd k (by omega)) ?_
        rw [show (100 : Int32) = nI 100 from rfl, nI_add, show 100 * (k + 1) + 100 = 100 * (k + 1 + 1) by omega]
        exact ih
    · rw [if_pos rfl]
      rw [ixO_none fun j hj => g j (Nat.zero_le _) (by omega)] at hK
      exact hK
  · rw [if_pos rfl]
    cases e1 : ixO c 5001 with
    | none => rw [e1] at hK; exact hK
    | some n =>
      obtain ⟨h1, h2⟩ := ixO_inv e1
      rw [e1] at hK
      dsimp only at hK
      rw [if_pos (Nat.lt_of_not_le fun h => g n h (by omega) h2)] at hK
      exact hK
end REFE
