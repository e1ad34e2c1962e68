/-! The class: bet, joined. -/
theorem rg_dec {a x y : Int32} {lo hi : Nat} (ex : x = nI lo) (ey : y = nI hi) (h31 : hi < 2 ^ 31) (hlo : lo < 2 ^ 31) {A B C : Prop} (h1 : ∀ n, lo ≤ n → n ≤ hi → a = nI n → C) (h0 : (∀ n, lo ≤ n → n ≤ hi → a ≠ nI n) → A) (h0' : (∀ n, lo ≤ n → n ≤ hi → a ≠ nI n) → B) : if a < x then A else if y < a then B else C := by
  subst ex
  subst ey
  by_cases g : ∃ n, lo ≤ n ∧ n ≤ hi ∧ a = nI n
  · obtain ⟨n, n1, n2, e⟩ := g
    subst e
    refine ifc (nI_ltI (by omega) hlo) (fun g => absurd g (by omega)) (fun _ => ?_)
    exact ifc (nI_ltI h31 (by omega)) (fun g => absurd g (by omega)) (fun _ => h1 n n1 n2 rfl)
  · have no : ∀ n, lo ≤ n → n ≤ hi → a ≠ nI n := fun n n1 n2 e => g ⟨n, n1, n2, e⟩
    refine ifd (fun _ => h0 no) (fun g1 => ifd (fun _ => h0' no) (fun g2 => ?_))
    exfalso
    have hb0 : ¬ a < 0 := fun z => g1 (Int32.lt_of_lt_of_le z (nI_pos' hlo))
    obtain ⟨n, hn, e⟩ := nI_of hb0
    subst e
    refine g ⟨n, ?_, ?_, rfl⟩
    · rcases Nat.lt_or_ge n lo with z | z
      · exact absurd ((nI_ltI hn hlo).mpr z) g1
      · exact z
    · rcases Nat.lt_or_ge hi n with z | z
      · exact absurd ((nI_ltI h31 hn).mpr z) g2
      · exact z
section CBET
variable {B : Nat} {S : z_SS} {kd : z_K} {q : z_Q} {μ μ' : z_M}
theorem RepV_free (hW : WF 80 S) (hV : RepV S μ) (hm : ∀ c k, ¬ FrA S c → μ'.1 c k = μ.1 c k) : RepV S μ' := by
  have h3 := hW.1
  refine ⟨RvG_same hV.1 fun c k hc => hm c k ?_, fun r hr => RvR_same (hV.2.1 r hr) fun c k c1 c2 => hm c k ?_, fun b hb => RvB_same (hV.2.2.1 b hb) fun c k c1 c2 => hm c k ?_, fun i hi => RvT_same (hV.2.2.2 i hi) fun c k c1 c2 => hm c k ?_⟩ <;> (unfold FrA; omega)
theorem no_ixO {a : Int32} {n : Nat} (h : ∀ z, 1 ≤ z → z ≤ n → a ≠ nI z) : ∀ z, ixO a (n + 1) = some z → z = 0 := fun z e => by
  obtain ⟨j1, j2⟩ := ixO_inv e
  exact Classical.byContradiction fun hne => h z (by omega) (by omega) j2
theorem c_mayBet (hV : RepV S μ) (hW : WF 80 S) {bk : Nat} (hb : bk < S.1 0 4) {a f : Int32} {K : Int32 → z_M → Prop} (h1 : ∀ z st, z < 16 → a = nI z → S.1 16 bk = 0 → 1 ≤ st → st ≤ 20000 → f = nI st → S.1 0 6 < 80 → K 1 μ) (h0 : ixO a 16 = none ∨ S.1 16 bk ≠ 0 ∨ (∀ st, ixO f 20001 = some st → st = 0) ∨ S.1 0 6 = 80 → K 0 μ) : C_X11_mayBet kd q a (some (40 + 8 * bk)) f μ K := by
  have h3 := hW.1
  unfold C_X11_mayBet C_X11_isBettor
  refine at_dec (n := 16) (N := 16) (by decide) (by decide) rfl (fun z hz ez => ?_) (fun g => ?_) (fun g => ?_)
  · refine if10 ?_
    refine opt_s ?_
    have h4 := hW.2.2.2.1 bk hb
    rw [(hV.2.2.1 bk hb).2.1]
    refine ifc (nI_eq (b := 0) (by omega) (by decide)) (fun e0 => ?_) (fun e0 => h0 (Or.inr (Or.inl e0)))
    unfold C_X11_isStake
    refine rg_dec (lo := 1) (hi := 20000) rfl rfl (by decide) (by decide) (fun st s1 s2 ef => ?_) (fun g => ?_) (fun g => ?_)
    · refine if10 ?_
      rw [hV.1.2.2.2.1]
      refine ifc (nI_leI (a := 80) (by decide) (by omega)) (fun g => h0 (Or.inr (Or.inr (Or.inr (by omega))))) (fun g => h1 z st hz ez e0 s1 s2 ef (by omega))
    · refine if00 ?_
      exact h0 (Or.inr (Or.inr (Or.inl (no_ixO g))))
    · refine if00 ?_
      exact h0 (Or.inr (Or.inr (Or.inl (no_ixO g))))
  · refine if00 ?_
    exact h0 (Or.inl (ixO_none g))
  · refine if00 ?_
    exact h0 (Or.inl (ixO_none g))
theorem c_mayBet0 {a f : Int32} {K : Int32 → z_M → Prop} (h0 : K 0 μ) : C_X11_mayBet kd q a none f μ K := by
  unfold C_X11_mayBet C_X11_isBettor
  refine at_dec (n := 16) (N := 16) (by decide) (by decide) rfl (fun z hz ez => ?_) (fun g => ?_) (fun g => ?_)
  · refine if10 ?_
    exact opt_n h0
  · refine if00 ?_
    exact h0
  · refine if00 ?_
    exact h0
theorem c_standsOpen (hQ : KQ S kd q) (hV : RepV S μ) (hW : WF 80 S) {bk : Nat} (hb : bk < S.1 0 4) {x y : Int32} {K : Int32 → z_M → Prop} (h1 : ∀ r h s, runsS S r h → S.1 12 r = 0 → S.2.1 17 (24 * bk + 8 * r + h) = some s → x = nI r → y = nI h → canB S bk x y = some (r, h) → K 1 μ) (h0 : canB S bk x y = none → K 0 μ) : C_X11_standsOpen kd q (some (40 + 8 * bk)) x y μ K := by
  have h3 := hW.1
  unfold C_X11_standsOpen
  refine c_raceAt hQ hV.1 hW (fun r hr e => opt_s (opt_s ?_)) (fun g => opt_s (opt_n (h0 (by unfold canB; rw [ixO_none g]))))
  subst e
  have h4 := hW.2.2.1 r hr
  have ec : canB S bk (nI r) y = (match ixO y (S.1 10 r) with
    | none => none
    | some h => if (S.1 11 r).testBit h = false ∧ S.1 12 r = 0 ∧ S.2.1 17 (24 * bk + 8 * r + h) ≠ none then some (r, h) else none) := by
    unfold canB
    rw [ixO_some hr (by omega)]
    rfl
  rw [(hV.2.1 r hr).2.2.1]
  refine ifc (nI_eq (b := 0) (by omega) (by decide)) (fun e0 => c_holds (hV.2.1 r hr).to0 h4.2.1 (fun h hh e => ?_) (fun g => ?_)) (fun e0 => h0 ?_)
  · subst e
    rw [ixO_some hh (by omega)] at ec
    dsimp only at ec
    refine if10 ?_
    refine c_spot ?_
    rw [nI_clamp (by omega), (hV.2.2.1 bk hb).2.2.2.1 _ (by omega), ← Nat.add_assoc]
    refine ⟨nI_vin (by omega) (by decide), ?_⟩
    cases es : S.2.1 17 (24 * bk + 8 * r + h) with
    | none =>
      rw [if_pos oI_none]
      exact h0 (by rw [ec, if_neg (fun z => z.2.2 es)])
    | some s =>
      have hx := hW.2.2.2.2.1 bk r h s (by omega) (by omega) (by omega) es
      rw [oI_some, if_neg (nI_ne_m1 (by omega))]
      exact h1 r h s hx.2.2 e0 es rfl rfl (by rw [ec, if_pos ⟨hx.2.2.2.2, e0, by rw [es]; exact Option.some_ne_none s⟩])
  · refine if00 ?_
    exact h0 (by rw [ec, ixO_none g])
  · rw [ec]
    cases ixO y (S.1 10 r) with
    | none => rfl
    | some h => exact if_neg (fun z => e0 z.2.1)
theorem c_standsOpen0 (hQ : KQ S kd q) (hV : RepV S μ) (hW : WF 80 S) {x y : Int32} {K : Int32 → z_M → Prop} (h0 : K 0 μ) : C_X11_standsOpen kd q none x y μ K := by
  unfold C_X11_standsOpen
  exact c_raceAt hQ hV.1 hW (fun r hr e => opt_n h0) (fun g => opt_n h0)
theorem c_take {c r : Nat} (hr : r < 3) {a2 v : Int32} {K : z_M → Prop} (hK : K (si (si (si μ c 7 (nI r)) (c + 1) r a2) (c + 2) r v)) : C_X0_take kd q c (nI r) a2 v μ K := by
  unfold C_X0_take
  rw [if_neg (Int32.not_lt.mpr (nI_pos' (by omega))), nI_clamp (by omega)]
  exact ifc (nI_leI (a := 3) (by decide) (by omega)) (fun g => absurd g (by omega)) (fun _ => ⟨nI_vin hr (by decide), hK⟩)
theorem fS_one {b r h : Nat} (hr : r < 3) : fS S b (fun q => if q = r then some h else none) 3 = mvS S b r h := by
  rcases (show r = 0 ∨ r = 1 ∨ r = 2 by omega) with e | e | e <;> subst e <;> rfl
/-- the first part of a bet's making: refused, or with all that is wanted -/
theorem opBet_no {a b c d e f : Int32} (h : S.1 0 6 = 80 ∨ ixO a 16 = none ∨ ixO b (S.1 0 4) = none ∨ (∀ bk, ixO b (S.1 0 4) = some bk → S.1 16 bk ≠ 0) ∨ ixO c 3 = none ∨ (∀ bk, ixO b (S.1 0 4) = some bk → canB S bk d e = none) ∨ (∀ st, ixO f 20001 = some st → st = 0)) : opBet S a b c d e f = (-1, S) := by
  unfold opBet
  by_cases g6 : S.1 0 6 = 80
  · rw [if_pos g6]
  rw [if_neg g6]
  cases ea : ixO a 16 with
  | none => rfl
  | some z =>
    dsimp only
    cases eb : ixO b (S.1 0 4) with
    | none => rfl
    | some bk =>
      dsimp only
      by_cases g16 : S.1 16 bk = 0
      · rw [if_pos g16]
        cases ec : ixO c 3 with
        | none => rfl
        | some kk =>
          dsimp only
          cases ek : canB S bk d e with
          | none => rfl
          | some p =>
            obtain ⟨r, h'⟩ := p
            dsimp only
            cases ef : ixO f 20001 with
            | none => rfl
            | some st =>
              dsimp only
              by_cases g0 : st = 0
              · rw [if_pos g0]
              · exfalso
                rcases h with h | h | h | h | h | h | h
                · exact g6 h
                · rw [ea] at h; cases h
                · rw [eb] at h; cases h
                · exact h bk eb g16
                · rw [ec] at h; cases h
                · have := h bk eb
                  rw [ek] at this
                  cases this
                · exact g0 (h st ef)
      · rw [if_neg g16]
theorem c_bet (hQ : KQ S kd q) (hV : RepV S μ) (hW : WF 80 S) {a b c d e f : Int32} {K : Int32 → z_K → z_Q → z_M → Prop} (hK : ∀ kd' q' μ', KQ (opBet S a b c d e f).2 kd' q' → RepV (opBet S a b c d e f).2 μ' → K (opBet S a b c d e f).1 kd' q' μ') : C_X11_bet kd q a b c d e f μ K := by
  have h3 := hW.1
  have no : opBet S a b c d e f = (-1, S) → K (-1) kd q μ := fun g => by
    rw [g] at hK
    exact hK kd q μ hQ hV
  unfold C_X11_bet
  refine c_bookAt hQ hV.1 hW (fun bk hb eb => ?_) (fun g => ?_)
  rotate_left
  · have n1 := no (opBet_no (Or.inr (Or.inr (Or.inl (ixO_none g)))))
    refine ifd (fun _ => n1) (fun _ => ifd (fun _ => n1) (fun _ => c_mayBet0 ?_))
    refine if00 ?_
    exact n1
  subst eb
  have ib : ixO (nI bk) (S.1 0 4) = some bk := ixO_some hb (by omega)
  refine rg_dec (lo := 0) (hi := 2) rfl rfl (by decide) (by decide) (fun kk _ k2 ec => ?_) (fun g => ?_) (fun g => ?_)
  rotate_left
  · exact no (opBet_no (Or.inr (Or.inr (Or.inr (Or.inr (Or.inl (ixO_none fun j hj => g j (Nat.zero_le _) (by omega))))))))
  · exact no (opBet_no (Or.inr (Or.inr (Or.inr (Or.inr (Or.inl (ixO_none fun j hj => g j (Nat.zero_le _) (by omega))))))))
  subst ec
  refine c_mayBet hV hW hb (fun z st hz ea g16 s1 s2 ef hn => ?_) (fun g => ?_)
  rotate_left
  · refine if00 ?_
    refine no (opBet_no ?_)
    rcases g with g | g | g | g
    · exact Or.inr (Or.inl g)
    · refine Or.inr (Or.inr (Or.inr (Or.inl fun bk' eb => ?_)))
      rw [ib] at eb
      cases eb
      exact g
    · exact Or.inr (Or.inr (Or.inr (Or.inr (Or.inr (Or.inr g)))))
    · exact Or.inl g
  subst ea
  subst ef
  refine if10 ?_
  refine c_standsOpen hQ hV hW hb (fun r h s hrun h12 es ed ee ec => ?_) (fun g => ?_)
  rotate_left
  · refine if00 ?_
    refine no (opBet_no (Or.inr (Or.inr (Or.inr (Or.inr (Or.inr (Or.inl fun bk' eb => ?_)))))))
    rw [ib] at eb
    cases eb
    exact g
  subst ed
  subst ee
  have h4 := hW.2.2.1 r hrun.1
  have hh8 := hrun.2.1
  have hr3 := hrun.1
  have hs := (wf17 hW (by omega) es).1
  have eo : opBet S (nI z) (nI bk) (nI kk) (nI r) (nI h) (nI st) = (nI (S.1 0 6), mvS (newBet S z bk kk st (if kk = 2 then 2 * st else st) (fun q => if q = r then some h else none)) bk r h) := by
    unfold opBet
    rw [if_neg (by omega), ixO_some hz (by decide)]
    dsimp only
    rw [ib]
    dsimp only
    rw [if_pos g16, ixO_some (show kk < 3 by omega) (by decide)]
    dsimp only
    rw [ec]
    dsimp only
    rw [ixO_some (show st < 20001 by omega) (by decide)]
    dsimp only
    rw [if_neg (by omega)]
  rw [eo] at hK
  dsimp only at hK
  refine if10 ?_
  have fA : ∀ j, j < 3 → FrA S (100 + 3 * S.1 0 6 + j) := fun j hj => Or.inr (Or.inr ⟨by omega, by omega⟩)
  have fr0 : Fr kd q (100 + 3 * S.1 0 6) := hQ.fr (fA 0 (by decide))
  refine ⟨100 + 3 * S.1 0 6, fr0.1, fr0.2, fun kd8 q9 μ10 e8 e9 e10 => ?_⟩
  have f1 : Fr kd8 q9 (100 + 3 * S.1 0 6 + 1) := by
    rw [e8, e9]
    exact Fr_up (hQ.fr (fA 1 (by decide))) (by omega)
  have f2 : Fr kd8 q9 (100 + 3 * S.1 0 6 + 2) := by
    rw [e8, e9]
    exact Fr_up (hQ.fr (fA 2 (by decide))) (by omega)
  have m10 : ∀ x k, x ≠ 100 + 3 * S.1 0 6 → μ10.1 x k = μ.1 x k := fun x k hx => by
    rw [e10]
    exact if_neg hx
  have m10c : ∀ k, μ10.1 (100 + 3 * S.1 0 6) k = 0 := fun k => by
    rw [e10]
    exact if_pos rfl
  refine c_betInit f1 f2 fun q1 μ1 p1 p2 p3 p4 p5 w1 w2 w3 w4 => ?_
  rw [e8]
  obtain ⟨hI, hKN⟩ := KQ_bet hQ (by omega) (q2 := q1) (fun x k x0 x1 x2 => by rw [p1 x k x0 x1 x2, e9]; exact if_neg x0) p2 p3 (fun k k5 k6 => by rw [p4 k k5 k6, e9]; exact if_pos rfl) p5
  generalize hkd : z_up (z_up (z_up kd (100 + 3 * S.1 0 6) (.inl 0)) (100 + 3 * S.1 0 6 + 1) (.inr (0, 3))) (100 + 3 * S.1 0 6 + 2) (.inr (0, 3)) = kd1 at hI hKN ⊢
  have kb : kd1 (40 + 8 * bk) = some (.inl 1) := by
    rw [← hkd, z_up_ne (by omega), z_up_ne (by omega), z_up_ne (by omega)]
    exact (hQ.2.2.2.1 bk hb).2
  refine ⟨_, rfl, 40 + 8 * bk + 1, 24, z_fq (c := 40 + 8 * bk) hI kb zf_1_3, z_fk (c := 40 + 8 * bk) hI kb zf_1_3, hI, c_spot ⟨?_, ?_⟩⟩
  · exact nI_vin (by omega) (by decide)
  have hm : ∀ c k, ¬ FrA S c → μ1.1 c k = μ.1 c k := fun x k hx => by
    have g0 : x ≠ 100 + 3 * S.1 0 6 := fun z => hx (by rw [z]; exact fA 0 (by decide))
    have g1 : x ≠ 100 + 3 * S.1 0 6 + 1 := fun z => hx (by rw [z]; exact fA 1 (by decide))
    have g2 : x ≠ 100 + 3 * S.1 0 6 + 2 := fun z => hx (by rw [z]; exact fA 2 (by decide))
    rw [w4 x k g0 g1 g2, m10 x k g0]
  have hV1 : RepV S μ1 := RepV_free hW hV hm
  rw [nI_clamp (by omega), (hV1.2.2.1 bk hb).2.2.2.1 _ (by omega), ← Nat.add_assoc, es, oI_some]
  refine c_take (by omega) ?_
  generalize hμ2 : si (si (si μ1 (100 + 3 * S.1 0 6) 7 (nI r)) (100 + 3 * S.1 0 6 + 1) r (nI h)) (100 + 3 * S.1 0 6 + 2) r (nI s) = μ2
  have m2 : ∀ x k, (x ≠ 100 + 3 * S.1 0 6 ∨ k ≠ 7) → x ≠ 100 + 3 * S.1 0 6 + 1 → x ≠ 100 + 3 * S.1 0 6 + 2 → μ2.1 x k = μ1.1 x k := fun x k g0 g1 g2 => by rw [← hμ2, si1, if_neg (by omega), si1, if_neg (by omega), si1, if_neg (by omega)]
  have hV2 : RepV S μ2 := RepV_free hW hV1 fun x k hx => by
    have g0 : x ≠ 100 + 3 * S.1 0 6 := fun z => hx (by rw [z]; exact fA 0 (by decide))
    have g1 : x ≠ 100 + 3 * S.1 0 6 + 1 := fun z => hx (by rw [z]; exact fA 1 (by decide))
    have g2 : x ≠ 100 + 3 * S.1 0 6 + 2 := fun z => hx (by rw [z]; exact fA 2 (by decide))
    exact m2 x k (Or.inl g0) g1 g2
  have hN : NBt S μ2 z bk kk st (fun q => if q = r then some h else none) := by
    obtain ⟨v0, v1, v2, v3, v4⟩ := w1
    refine ⟨⟨by rw [m2 _ _ (by omega) (by omega) (by omega)]; exact v0, by rw [m2 _ _ (by omega) (by omega) (by omega)]; exact v1, by rw [m2 _ _ (by omega) (by omega) (by omega)]; exact v2, by rw [m2 _ _ (by omega) (by omega) (by omega)]; exact v3, ?_⟩, fun j hj => ?_, fun j x s' hj ej es' => ?_, ⟨⟨r, by omega, ?_⟩, fun _ => ?_⟩, ?_, ?_⟩
    · rw [m2 _ _ (by omega) (by omega) (by omega), v4, m10 _ _ (by omega)]
      exact hV.1.1
    · show μ2.1 (100 + 3 * S.1 0 6 + 1) j = oI (if j = r then some h else none)
      rw [← hμ2, si1, if_neg (by omega), si1]
      by_cases ej : j = r
      · rw [if_pos ⟨rfl, ej⟩, if_pos ej, oI_some]
      · rw [if_neg (fun z => ej z.2), if_neg ej, si1, if_neg (by omega), (w3 j hj).1]
        rfl
    · dsimp only at ej
      by_cases e9 : j = r
      · rw [if_pos e9] at ej
        cases ej
        rw [e9] at es'
        rw [es] at es'
        cases es'
        rw [← hμ2, si1, if_pos ⟨rfl, e9⟩]
      · rw [if_neg e9] at ej
        cases ej
    · rw [← hμ2, si1, if_neg (by omega), si1, if_neg (by omega), si1, if_pos ⟨rfl, rfl⟩]
    · have er : raceOfS (newBet S z bk kk st 0 (fun q => if q = r then some h else none)) (S.1 0 6) = r := by
        have e0 : (newBet S z bk kk st 0 (fun q => if q = r then some h else none)).2.1 25 (3 * S.1 0 6) = if 0 = r then some h else none := nb25n (r := 0) (by decide)
        have e1 : (newBet S z bk kk st 0 (fun q => if q = r then some h else none)).2.1 25 (3 * S.1 0 6 + 1) = if 1 = r then some h else none := nb25n (r := 1) (by decide)
        unfold raceOfS
        rw [e0, e1]
        rcases (show r = 0 ∨ r = 1 ∨ r = 2 by omega) with e | e | e <;> subst e <;> rfl
      rw [er, ← hμ2, si1, if_neg (by omega), si1, if_neg (by omega), si1, if_pos ⟨rfl, rfl⟩]
    · rw [m2 _ _ (by omega) (by omega) (by omega), w2 8 (by decide), m10c]
      rfl
    · rw [m2 _ _ (by omega) (by omega) (by omega), w2 9 (by decide), m10c]
      rfl
  have hlg : ∀ j x, j < 3 → (fun q => if q = r then some h else none) j = some x → j = r ∧ x = h := fun j x hj ej => by
    by_cases e9 : j = r
    · rw [e9] at ej
      dsimp only at ej
      rw [if_pos rfl] at ej
      cases ej
      exact ⟨e9, rfl⟩
    · dsimp only at ej
      rw [if_neg e9] at ej
      cases ej
  have hle : ∀ j, j < 3 → (fun q => if q = r then some h else none) j ≠ none → j = r := fun j hj ej => by
    by_cases e9 : j = r
    · exact e9
    · exact absurd (if_neg e9) ej
  refine c_put hW hV2 hn hz hb (by omega) s1 s2 (fun j x hj ej => ?_) ⟨r, by omega, by rw [if_pos rfl]; exact Option.some_ne_none h⟩ (fun _ j j' hj hj' g g' => (hle j hj g).trans (hle j' hj' g').symm) hN fun μ3 hW3 hV3 => ?_
  · obtain ⟨x1, x2⟩ := hlg j x hj ej
    subst x1
    subst x2
    exact ⟨hrun, h12, s, es⟩
  have hQ3 := hKN (newBet S z bk kk st (if kk = 2 then 2 * st else st) (fun q => if q = r then some h else none)) (nbg (Or.inr (by decide)) (Or.inl (by decide)) (by omega) (by omega)) (nbg (Or.inr (by decide)) (Or.inl (by decide)) (by omega) (by omega)) nb6
  refine c_follow (leg := fun q => if q = r then some h else none) hQ3 hW3 hV3 nb6.symm (by rw [nbg (c := 0) (Or.inr (by decide)) (Or.inl (by decide)) (by omega) (by omega)]; exact hb) (by rw [nb21, if_pos rfl]) (fun j x hj ej => nb_runs.mpr ?_) (fun j hj => nb25n hj) (by rw [nb24, if_pos rfl, nbg (c := 0) (Or.inr (by decide)) (Or.inl (by decide)) (by omega) (by omega)]) fun q4 μ4 hQ4 hV4 => ?_
  · obtain ⟨x1, x2⟩ := hlg j x hj ej
    subst x1
    subst x2
    exact hrun
  · have e15 := hV4.1.2.2.2.1
    rw [(fS_1 3).1, nb6] at e15
    rw [fS_one (by omega)] at hQ4 hV4
    have := hK kd1 q4 μ4 hQ4 hV4
    rw [e15, show (1 : Int32) = nI 1 from rfl, pk_sub (by omega), Nat.add_sub_cancel]
    exact this
/-- a leg of a joined bet -/
theorem c_mayJoin (hQ : KQ S kd q) (hV : RepV S μ) (hW : WF 80 S) {bk r : Nat} (hb : bk < S.1 0 4) (hr : r < 3) {x : Int32} {K : Int32 → z_M → Prop} (h1 : ∀ l, legO S bk r x = some l → x = oI l → (∀ h, l = some h → runsS S r h ∧ S.1 12 r = 0 ∧ ∃ s, S.2.1 17 (24 * bk + 8 * r + h) = some s) → K 1 μ) (h0 : legO S bk r x = none → K 0 μ) : C_X11_mayJoin kd q (some (40 + 8 * bk)) (nI r) x μ K := by
  have h3 := hW.1
  unfold C_X11_mayJoin
  refine ifd (fun e => h1 none (by unfold legO; rw [if_pos e]) e (fun h z => by cases z)) (fun e => ?_)
  refine c_standsOpen hQ hV hW hb (fun r' h s hrun h12 es ed ee ec => ?_) (fun g => ?_)
  · have hr' := hrun.1
    have := (nI_eq (by omega) (by omega)).mp ed
    subst this
    refine if10 ?_
    exact h1 (some h) (by unfold legO; rw [if_neg e, ec]) ee (fun h' z => by cases z; exact ⟨hrun, h12, s, es⟩)
  · refine if00 ?_
    exact h0 (by unfold legO; rw [if_neg e, g])
theorem c_mayJoin0 (hQ : KQ S kd q) (hV : RepV S μ) (hW : WF 80 S) {r : Nat} {x : Int32} {K : Int32 → z_M → Prop} (h1 : K 1 μ) (h0 : K 0 μ) : C_X11_mayJoin kd q none (nI r) x μ K := by
  unfold C_X11_mayJoin
  refine ifd (fun e => h1) (fun e => c_standsOpen0 hQ hV hW ?_)
  refine if00 ?_
  exact h0
theorem opJoined_no {a b c d e f : Int32} (h : S.1 0 6 = 80 ∨ ixO a 16 = none ∨ ixO b (S.1 0 4) = none ∨ (∀ bk, ixO b (S.1 0 4) = some bk → S.1 16 bk ≠ 0 ∨ legO S bk 0 c = none ∨ legO S bk 1 d = none ∨ legO S bk 2 e = none ∨ ∃ l0 l1 l2, legO S bk 0 c = some l0 ∧ legO S bk 1 d = some l1 ∧ legO S bk 2 e = some l2 ∧ ¬ 2 ≤ cnt3 l0 l1 l2) ∨ (∀ st, ixO f 20001 = some st → st = 0)) : opJoined S a b c d e f = (-1, S) := by
  unfold opJoined
  by_cases g6 : S.1 0 6 = 80
  · rw [if_pos g6]
  rw [if_neg g6]
  cases ea : ixO a 16 with
  | none => rfl
  | some z =>
    dsimp only
    cases eb : ixO b (S.1 0 4) with
    | none => rfl
    | some bk =>
      dsimp only
      by_cases g16 : S.1 16 bk = 0
      · rw [if_pos g16]
        cases ef : ixO f 20001 with
        | none => rfl
        | some st =>
          dsimp only
          by_cases g0 : st = 0
          · rw [if_pos g0]
          · rw [if_neg g0]
            cases e0 : legO S bk 0 c with
            | none => rfl
            | some l0 =>
              cases e1 : legO S bk 1 d with
              | none => rfl
              | some l1 =>
                cases e2 : legO S bk 2 e with
                | none => rfl
                | some l2 =>
                  dsimp only
                  by_cases g : 2 ≤ cnt3 l0 l1 l2
                  · exfalso
                    rcases h with h | h | h | h | h
                    · exact g6 h
                    · rw [ea] at h; cases h
                    · rw [eb] at h; cases h
                    · rcases h bk eb with h | h | h | h | ⟨m0, m1, m2, h0, h1, h2, h⟩
                      · exact h g16
                      · rw [e0] at h; cases h
                      · rw [e1] at h; cases h
                      · rw [e2] at h; cases h
                      · rw [e0] at h0
                        rw [e1] at h1
                        rw [e2] at h2
                        cases h0
                        cases h1
                        cases h2
                        exact h g
                    · exact g0 (h st ef)
                  · rw [if_neg g]
      · rw [if_neg g16]
/-- the legs of a bet that is made, m of them taken -/
def TK (S : z_SS) (μ0 μ : z_M) (b c : Nat) (leg : Nat → Option Nat) (m : Nat) : Prop := (∀ r, r < 3 → μ.1 (c + 1) r = if r < m then oI (leg r) else -1) ∧ (∀ r x s, r < m → leg r = some x → S.2.1 17 (24 * b + 8 * r + x) = some s → μ.1 (c + 2) r = nI s) ∧ (∃ r, r < 3 ∧ μ.1 c 7 = nI r) ∧ (∀ k, k ≠ 7 → μ.1 c k = μ0.1 c k) ∧ ∀ x k, x ≠ c → x ≠ c + 1 → x ≠ c + 2 → μ.1 x k = μ0.1 x k
theorem c_takeIf {μ0 : z_M} {b c m : Nat} {leg : Nat → Option Nat} (hT : TK S μ0 μ b c leg m) (hm : m < 3) (hc : 100 ≤ c) (hb : b < 4) (hl : ∀ x, leg m = some x → x < 8 ∧ ∃ s, S.2.1 17 (24 * b + 8 * m + x) = some s) (hsl : ∀ k, k < 24 → μ0.1 (40 + 8 * b + 1) k = oI (S.2.1 17 (24 * b + k))) {K : z_M → Prop} (hK : ∀ μ', TK S μ0 μ' b c leg (m + 1) → K μ') : C_X11_takeIfAny kd q (some c) (some (40 + 8 * b)) (nI m) (oI (leg m)) μ K := by
  obtain ⟨t1, t2, t3, t4, t5⟩ := hT
  unfold C_X11_takeIfAny
  cases el : leg m with
  | none =>
    rw [if_pos oI_none]
    refine hK μ ⟨fun r hr => ?_, fun r x s hr ex es => ?_, t3, t4, t5⟩
    · rw [t1 r hr]
      by_cases e : r < m
      · rw [if_pos e, if_pos (by omega)]
      · rw [if_neg e]
        by_cases e2 : r = m
        · rw [e2, if_pos (Nat.lt_succ_self m), el]
          rfl
        · rw [if_neg (by omega)]
    · refine t2 r x s ?_ ex es
      rcases Nat.lt_or_ge r m with g | g
      · exact g
      · have : r = m := by omega
        rw [this, el] at ex
        cases ex
  | some x =>
    obtain ⟨hx, s, es⟩ := hl x el
    rw [oI_some, if_neg (nI_ne_m1 (by omega))]
    refine ⟨_, rfl, c_spot ⟨nI_vin (by omega) (by decide), _, rfl, ?_⟩⟩
    rw [nI_clamp (by omega), t5 _ _ (by omega) (by omega) (by omega), hsl _ (by omega), ← Nat.add_assoc, es, oI_some]
    refine c_take hm (hK _ ⟨fun r hr => ?_, fun r y s' hr ey es' => ?_, ⟨m, hm, ?_⟩, fun k hk => ?_, fun y k y0 y1 y2 => ?_⟩)
    · rw [si1, if_neg (by omega), si1]
      by_cases e : r = m
      · rw [if_pos ⟨rfl, e⟩, e, if_pos (Nat.lt_succ_self m), el]
        rfl
      · rw [if_neg (fun z => e z.2), si1, if_neg (by omega), t1 r hr]
        by_cases e2 : r < m
        · rw [if_pos e2, if_pos (by omega)]
        · rw [if_neg e2, if_neg (by omega)]
    · rw [si1]
      by_cases e : r = m
      · rw [if_pos ⟨rfl, e⟩]
        rw [e, el] at ey
        cases ey
        rw [e, es] at es'
        cases es'
        rfl
      · rw [if_neg (fun z => e z.2), si1, if_neg (by omega), si1, if_neg (by omega)]
        exact t2 r y s' (by omega) ey es'
    · rw [si1, if_neg (by omega), si1, if_neg (by omega), si1, if_pos ⟨rfl, rfl⟩]
    · rw [si1, if_neg (by omega), si1, if_neg (by omega), si1, if_neg (fun z => hk z.2)]
      exact t4 k hk
    · rw [si1, if_neg (fun z => y2 z.1), si1, if_neg (fun z => y1 z.1), si1, if_neg (fun z => y0 z.1)]
      exact t5 y k y0 y1 y2
theorem c_joined (hQ : KQ S kd q) (hV : RepV S μ) (hW : WF 80 S) {a b c d e f : Int32} {K : Int32 → z_K → z_Q → z_M → Prop} (hK : ∀ kd' q' μ', KQ (opJoined S a b c d e f).2 kd' q' → RepV (opJoined S a b c d e f).2 μ' → K (opJoined S a b c d e f).1 kd' q' μ') : C_X11_joined kd q a b c d e f μ K := by
  have h3 := hW.1
  have no : opJoined S a b c d e f = (-1, S) → K (-1) kd q μ := fun g => by
    rw [g] at hK
    exact hK kd q μ hQ hV
  unfold C_X11_joined
  refine c_bookAt hQ hV.1 hW (fun bk hb eb => ?_) (fun g => c_mayBet0 (by refine if00 ?_; exact no (opJoined_no (Or.inr (Or.inr (Or.inl (ixO_none g)))))))
  subst eb
  have ib : ixO (nI bk) (S.1 0 4) = some bk := ixO_some hb (by omega)
  have nob : (S.1 16 bk ≠ 0 ∨ legO S bk 0 c = none ∨ legO S bk 1 d = none ∨ legO S bk 2 e = none ∨ ∃ l0 l1 l2, legO S bk 0 c = some l0 ∧ legO S bk 1 d = some l1 ∧ legO S bk 2 e = some l2 ∧ ¬ 2 ≤ cnt3 l0 l1 l2) → K (-1) kd q μ := fun g => no (opJoined_no (Or.inr (Or.inr (Or.inr (Or.inl fun bk' eb => by
    rw [ib] at eb
    cases eb
    exact g)))))
  refine c_mayBet hV hW hb (fun z st hz ea g16 s1 s2 ef hn => ?_) (fun g => ?_)
  rotate_left
  · refine if00 ?_
    rcases g with g | g | g | g
    · exact no (opJoined_no (Or.inr (Or.inl g)))
    · exact nob (Or.inl g)
    · exact no (opJoined_no (Or.inr (Or.inr (Or.inr (Or.inr g)))))
    · exact no (opJoined_no (Or.inl g))
  subst ea
  subst ef
  refine if10 ?_
  refine c_mayJoin (r := 0) hQ hV hW hb (by decide) (fun l0 q0 ec hl0 => ?_) (fun g => by refine if00 ?_; exact nob (Or.inr (Or.inl g)))
  refine if10 ?_
  refine c_mayJoin (r := 1) hQ hV hW hb (by decide) (fun l1 q1 ed hl1 => ?_) (fun g => by refine if00 ?_; exact nob (Or.inr (Or.inr (Or.inl g))))
  refine if10 ?_
  refine c_mayJoin (r := 2) hQ hV hW hb (by decide) (fun l2 q2 ee hl2 => ?_) (fun g => by refine if00 ?_; exact nob (Or.inr (Or.inr (Or.inr (Or.inl g)))))
  refine if10 ?_
  have hl : ∀ r x, r < 3 → leg3 l0 l1 l2 r = some x → runsS S r x ∧ S.1 12 r = 0 ∧ ∃ s, S.2.1 17 (24 * bk + 8 * r + x) = some s := fun r x hr ex => by
    rcases (show r = 0 ∨ r = 1 ∨ r = 2 by omega) with g | g | g <;> subst g
    · exact hl0 x ex
    · exact hl1 x ex
    · exact hl2 x ex
  have go : ∀ t0 t1 : Int32, t1 + t0 = nI (cnt3 l0 l1 l2) → L_X11_joined_89 K (nI z) (nI bk) c d e (nI st) (some (40 + 8 * bk)) t0 t1 kd q μ := fun t0 t1 et => by
    have c3 : cnt3 l0 l1 l2 ≤ 3 := by
      unfold cnt3
      split <;> split <;> split <;> omega
    unfold L_X11_joined_89
    rw [et]
    refine ifc (nI_leI (a := 2) (by decide) (by omega)) (fun g2 => ?_) (fun g2 => nob (Or.inr (Or.inr (Or.inr (Or.inr ⟨l0, l1, l2, q0, q1, q2, g2⟩)))))
    have eo : opJoined S (nI z) (nI bk) c d e (nI st) = (nI (S.1 0 6), mvO (mvO (mvO (newBet S z bk 3 st st (leg3 l0 l1 l2)) bk 0 l0) bk 1 l1) bk 2 l2) := by
      unfold opJoined
      rw [if_neg (by omega), ixO_some hz (by decide)]
      dsimp only
      rw [ib]
      dsimp only
      rw [if_pos g16, ixO_some (show st < 20001 by omega) (by decide)]
      dsimp only
      rw [if_neg (by omega), q0, q1, q2]
      dsimp only
      rw [if_pos g2]
    rw [eo] at hK
    dsimp only at hK
    have fA : ∀ j, j < 3 → FrA S (100 + 3 * S.1 0 6 + j) := fun j hj => Or.inr (Or.inr ⟨by omega, by omega⟩)
    have fr0 : Fr kd q (100 + 3 * S.1 0 6) := hQ.fr (fA 0 (by decide))
    refine ⟨100 + 3 * S.1 0 6, fr0.1, fr0.2, fun kd8 q9 μ10 e8 e9 e10 => ?_⟩
    have f1 : Fr kd8 q9 (100 + 3 * S.1 0 6 + 1) := by
      rw [e8, e9]
      exact Fr_up (hQ.fr (fA 1 (by decide))) (by omega)
    have f2 : Fr kd8 q9 (100 + 3 * S.1 0 6 + 2) := by
      rw [e8, e9]
      exact Fr_up (hQ.fr (fA 2 (by decide))) (by omega)
    have m10 : ∀ x k, x ≠ 100 + 3 * S.1 0 6 → μ10.1 x k = μ.1 x k := fun x k hx => by
      rw [e10]
      exact if_neg hx
    have m10c : ∀ k, μ10.1 (100 + 3 * S.1 0 6) k = 0 := fun k => by
      rw [e10]
      exact if_pos rfl
    refine c_betInit f1 f2 fun q1 μ1 p1 p2 p3 p4 p5 w1 w2 w3 w4 => ?_
    rw [e8]
    obtain ⟨hI, hKN⟩ := KQ_bet hQ (by omega) (q2 := q1) (fun x k x0 x1 x2 => by rw [p1 x k x0 x1 x2, e9]; exact if_neg x0) p2 p3 (fun k k5 k6 => by rw [p4 k k5 k6, e9]; exact if_pos rfl) p5
    generalize z_up (z_up (z_up kd (100 + 3 * S.1 0 6) (.inl 0)) (100 + 3 * S.1 0 6 + 1) (.inr (0, 3))) (100 + 3 * S.1 0 6 + 2) (.inr (0, 3)) = kd1 at hI hKN ⊢
    refine ⟨hI, ?_⟩
    have hm : ∀ c k, ¬ FrA S c → μ1.1 c k = μ.1 c k := fun x k hx => by
      have g0 : x ≠ 100 + 3 * S.1 0 6 := fun z => hx (by rw [z]; exact fA 0 (by decide))
      have g1 : x ≠ 100 + 3 * S.1 0 6 + 1 := fun z => hx (by rw [z]; exact fA 1 (by decide))
      have g2 : x ≠ 100 + 3 * S.1 0 6 + 2 := fun z => hx (by rw [z]; exact fA 2 (by decide))
      rw [w4 x k g0 g1 g2, m10 x k g0]
    have hV1 : RepV S μ1 := RepV_free hW hV hm
    have hsl := (hV1.2.2.1 bk hb).2.2.2.1
    have hl8 : ∀ m, m < 3 → ∀ x, leg3 l0 l1 l2 m = some x → x < 8 ∧ ∃ s, S.2.1 17 (24 * bk + 8 * m + x) = some s := fun m hm3 x ex => by
      obtain ⟨h1, _, h2⟩ := hl m x hm3 ex
      have h4 := hW.2.2.1 m h1.1
      have h5 := h1.2.1
      exact ⟨by omega, h2⟩
    have T0 : TK S μ1 μ1 bk (100 + 3 * S.1 0 6) (leg3 l0 l1 l2) 0 := ⟨fun r hr => by rw [if_neg (Nat.not_lt_zero r)]; exact (w3 r hr).1, fun r x s hr => absurd hr (Nat.not_lt_zero r), ⟨0, by decide, by rw [w2 7 (by decide), m10c]; rfl⟩, fun k _ => rfl, fun x k _ _ _ => rfl⟩
    subst ec
    subst ed
    subst ee
    refine c_takeIf (m := 0) T0 (by decide) (by omega) (by omega) (hl8 0 (by decide)) hsl fun μ2 T1 => ?_
    refine c_takeIf (m := 1) T1 (by decide) (by omega) (by omega) (hl8 1 (by decide)) hsl fun μ3 T2 => ?_
    refine c_takeIf (m := 2) T2 (by decide) (by omega) (by omega) (hl8 2 (by decide)) hsl fun μ4 T3 => ?_
    obtain ⟨t1, t2, t3, t4, t5⟩ := T3
    have hV4 : RepV S μ4 := RepV_free hW hV1 fun x k hx => by
      have g0 : x ≠ 100 + 3 * S.1 0 6 := fun z => hx (by rw [z]; exact fA 0 (by decide))
      have g1 : x ≠ 100 + 3 * S.1 0 6 + 1 := fun z => hx (by rw [z]; exact fA 1 (by decide))
      have g2 : x ≠ 100 + 3 * S.1 0 6 + 2 := fun z => hx (by rw [z]; exact fA 2 (by decide))
      exact t5 x k g0 g1 g2
    have hN : NBt S μ4 z bk 3 st (leg3 l0 l1 l2) := by
      obtain ⟨v0, v1, v2, v3, v4⟩ := w1
      refine ⟨⟨by rw [t4 _ (by decide)]; exact v0, by rw [t4 _ (by decide)]; exact v1, by rw [t4 _ (by decide)]; exact v2, by rw [t4 _ (by decide)]; exact v3, ?_⟩, fun j hj => by rw [t1 j hj, if_pos hj], t2, ⟨t3, fun g => absurd rfl g⟩, ?_, ?_⟩
      · rw [t4 _ (by decide), v4, m10 _ _ (by omega)]
        exact hV.1.1
      · rw [t4 _ (by decide), w2 8 (by decide), m10c]
        rfl
      · rw [t4 _ (by decide), w2 9 (by decide), m10c]
        rfl
    have he : ∃ r, r < 3 ∧ leg3 l0 l1 l2 r ≠ none := by
      cases l0 with
      | some x => exact ⟨0, by decide, Option.some_ne_none x⟩
      | none =>
        cases l1 with
        | some x => exact ⟨1, by decide, Option.some_ne_none x⟩
        | none =>
          exfalso
          unfold cnt3 at g2
          rw [if_pos rfl] at g2
          split at g2 <;> omega
    refine c_put hW hV4 hn hz hb (by decide) s1 s2 hl he (fun g => absurd rfl g) hN fun μ5 hW5 hV5 => ?_
    rw [if_neg (by decide)] at hW5 hV5
    have hQ5 := hKN (newBet S z bk 3 st st (leg3 l0 l1 l2)) (nbg (Or.inr (by decide)) (Or.inl (by decide)) (by omega) (by omega)) (nbg (Or.inr (by decide)) (Or.inl (by decide)) (by omega) (by omega)) nb6
    refine c_follow (leg := leg3 l0 l1 l2) hQ5 hW5 hV5 nb6.symm (by rw [nbg (c := 0) (Or.inr (by decide)) (Or.inl (by decide)) (by omega) (by omega)]; exact hb) (by rw [nb21, if_pos rfl]) (fun j x hj ej => nb_runs.mpr (hl j x hj ej).1) (fun j hj => nb25n hj) (by rw [nb24, if_pos rfl, nbg (c := 0) (Or.inr (by decide)) (Or.inl (by decide)) (by omega) (by omega)]) fun q6 μ6 hQ6 hV6 => ?_
    have e15 := hV6.1.2.2.2.1
    rw [(fS_1 3).1, nb6] at e15
    have := hK kd1 q6 μ6 hQ6 hV6
    rw [e15, show (1 : Int32) = nI 1 from rfl, pk_sub (by omega), Nat.add_sub_cancel]
    exact this
  have at2 : ∀ t0 t1 : Int32, ∀ x : Nat, (t1 + t0) = nI x → x + (if l2 = none then 0 else 1) = cnt3 l0 l1 l2 → L_X11_joined_77 K (nI z) (nI bk) c d e (nI st) (some (40 + 8 * bk)) t0 t1 kd q μ := fun t0 t1 x et ex => by
    unfold L_X11_joined_77
    rw [et]
    cases l2 with
    | none =>
      rw [if_pos (show e = -1 from ee)]
      refine go _ _ ?_
      rw [← ex, if_pos rfl]
      exact nI_0a x
    | some y =>
      obtain ⟨hy, _, _⟩ := hl2 y rfl
      have h4 := hW.2.2.1 2 hy.1
      have h5 := hy.2.1
      rw [if_neg (show ¬ e = -1 by rw [ee]; exact nI_ne_m1 (by omega))]
      refine go _ _ ?_
      rw [← ex, if_neg (Option.some_ne_none y), nI_1]
  have at1 : ∀ t0 : Int32, ∀ x : Nat, t0 = nI x → x + (if l1 = none then 0 else 1) + (if l2 = none then 0 else 1) = cnt3 l0 l1 l2 → L_X11_joined_66 K (nI z) (nI bk) c d e (nI st) (some (40 + 8 * bk)) t0 kd q μ := fun t0 x et ex => by
    unfold L_X11_joined_66
    rw [et]
    cases l1 with
    | none =>
      rw [if_pos (show d = -1 from ed)]
      exact at2 _ _ x (nI_0a x) (by rw [if_pos rfl] at ex; exact ex)
    | some y =>
      obtain ⟨hy, _, _⟩ := hl1 y rfl
      have h4 := hW.2.2.1 1 hy.1
      have h5 := hy.2.1
      rw [if_neg (show ¬ d = -1 by rw [ed]; exact nI_ne_m1 (by omega))]
      exact at2 _ _ (x + 1) (nI_1 x) (by rw [if_neg (Option.some_ne_none y)] at ex; exact ex)
  cases l0 with
  | none =>
    rw [if_pos (show c = -1 from ec)]
    exact at1 _ 0 rfl (by unfold cnt3; rw [if_pos rfl])
  | some y =>
    obtain ⟨hy, _, _⟩ := hl0 y rfl
    have h4 := hW.2.2.1 0 hy.1
    have h5 := hy.2.1
    rw [if_neg (show ¬ c = -1 by rw [ec]; exact nI_ne_m1 (by omega))]
    exact at1 _ 1 rfl (by unfold cnt3; rw [if_neg (Option.some_ne_none y)])
end CBET
