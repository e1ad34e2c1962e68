/-! The class: way. -/
section CWAY
variable {B : Nat} {S S' : z_SS} {μ : z_M} {kd : z_K} {q : z_Q}
theorem KQ.k10 (hQ : KQ S kd q) : kd 10 = some (.inl 7) := z_fk hQ.1 hQ.2.1 zf_11_6
theorem KQ.k2 (hQ : KQ S kd q) : kd 2 = some (.inr (0, 200)) := z_fk hQ.1 (z_fk hQ.1 hQ.2.1 zf_11_0) zf_10_0
theorem KQ.k9 (hQ : KQ S kd q) : kd 9 = some (.inl 8) := z_fk hQ.1 hQ.2.1 zf_11_5
theorem KQ_text (hQ : KQ S kd q) {a n : Nat} (ha : kd a = some (.inr (0, n))) : KQ S kd (sr q 10 1 (some a)) := by
  have k10 := hQ.k10
  obtain ⟨⟨h1, h2, h3, h4⟩, h5, h6, h7, h8, h9, h10⟩ := hQ
  have o : ∀ c k, (c ≠ 10 ∨ k ≠ 1) → sr q 10 1 (some a) c k = q c k := fun c k hc => by
    unfold sr
    rw [if_neg (by omega)]
  have y : sr q 10 1 (some a) 10 1 = some a := by
    unfold sr
    rw [if_pos ⟨rfl, rfl⟩]
  refine ⟨⟨fun c ci hc k f t hf => ?_, fun c t n' hc j a' hj ha' => ?_, fun c hc a' ha' => ?_, fun c hc a' ha' => ?_⟩, h5, fun r hr => ⟨by rw [o _ _ (by omega)]; exact (h6 r hr).1, (h6 r hr).2⟩, fun b hb => ⟨by rw [o _ _ (by omega)]; exact (h7 b hb).1, (h7 b hb).2⟩, fun i hi => ⟨by rw [o _ _ (by omega)]; exact (h8 i hi).1, (h8 i hi).2⟩, h9, fun c j a' hc ha' => ?_⟩
  · by_cases e : c = 10 ∧ k = 1
    · obtain ⟨e1, e2⟩ := e
      subst e1
      subst e2
      rw [k10] at hc
      cases hc
      have hn : z_fin 7 1 = none := rfl
      rw [hn] at hf
      cases hf
    · rw [o c k (by omega)]
      exact h1 c ci hc k f t hf
  · by_cases e : c = 10 ∧ j = 1
    · rw [e.1, k10] at hc
      cases hc
    · rw [o c j (by omega)] at ha'
      exact h2 c t n' hc j a' hj ha'
  · by_cases e : c = 10
    · rw [e, k10] at hc
      cases hc
    · rw [o c 1 (by omega)] at ha'
      exact h3 c hc a' ha'
  · by_cases e : c = 10
    · rw [e, y] at ha'
      cases ha'
      unfold z_len
      rw [ha]
    · rw [o c 1 (by omega)] at ha'
      exact h4 c hc a' ha'
  · by_cases e : c = 10 ∧ j = 1
    · rw [e.1, e.2, y] at ha'
      cases ha'
      rw [ha]
      exact fun z => by cases z
    · rw [o c j (by omega)] at ha'
      exact h10 c j a' hc ha'
theorem wayL_len {ch : Nat → Nat} {e : Nat} : ∀ f p acc cs, wayL ch e f p acc = .ok cs → acc.length < cs.length ∧ cs.length ≤ acc.length + f := by
  intro f
  induction f with
  | zero => intro p acc cs hw; cases hw
  | succ f ih =>
    intro p acc cs hw
    rw [wayL_s] at hw
    cases ec : clS ch acc.length p with
    | error x => rw [ec] at hw; cases hw
    | ok x =>
      rw [ec] at hw
      dsimp only at hw
      split at hw
      · split at hw
        · have := ih _ _ _ hw
          rw [len_app1] at this
          omega
        · cases hw
      · cases hw
        rw [len_app1]
        omega
theorem chS_lt {t : Nat → Nat} {n k : Nat} (ht : ∀ k, t k < 256) : chS t n k < 256 := by
  unfold chS
  split
  · exact ht k
  · decide
theorem RepV.sr (hV : RepV S μ) {μ' : z_M} (h : SR μ μ') : RepV S μ' := hV.same fun c k hc => h.1 c k (by omega)
/-- a text begins to be read -/
theorem c_read {ch : Nat → Nat} {n tx len : Nat} {a : Bool} (hk : kd tx = some (.inr (0, len))) (hn : n ≤ len) (hlen : len < 2 ^ 31) (h160 : n ≤ 160) (ht : ∀ k, k < n → μ.1 tx k = nI (ch k)) (h256 : ∀ k, ch k < 256) (hz : ∀ k, n ≤ k → ch k = 0) (h10 : tx ≠ 10) {K : Int32 → z_Q → z_M → Prop} (hK : TxC ch n tx kd (sr q 10 1 (some tx)) (si μ 10 2 (nI n)) → ∀ μ', ClSt ch n (si μ 10 2 (nI n)) 0 μ' → L_X7_read_30 kd K (nI (b2n a)) 0 0 (sr q 10 1 (some tx)) μ') : C_X7_read kd q (some tx) (nI n) (nI (b2n a)) μ K := by
  have hlen' : z_len kd tx = len := by
    unfold z_len
    rw [hk]
  have hT : TxC ch n tx kd (sr q 10 1 (some tx)) (si μ 10 2 (nI n)) := ⟨by unfold sr; rw [if_pos ⟨rfl, rfl⟩], by rw [hlen']; exact hn, by rw [hlen']; exact hlen, h160, by rw [si1, if_pos ⟨rfl, rfl⟩], fun k hk => by rw [si1, if_neg (by omega)]; exact ht k hk, h256, hz, h10⟩
  have hS : SR (si μ 10 2 (nI n)) (si (si (si μ 10 2 (nI n)) 10 6 0) 10 3 (-1)) := SR_si (SR_si (SR_refl _) (by decide) (by decide)) (by decide) (by decide)
  unfold C_X7_read
  refine c_advTo hT (p' := 0) hS (by rw [si1, if_pos ⟨rfl, rfl⟩]; rfl) (Nat.zero_le _) (hK hT _ ⟨SR_si (SR_si hS (by decide) (by decide)) (by decide) (by decide), ?_, ?_, ?_, Nat.zero_le _⟩)
  · rw [si1, if_neg (by omega), si1, if_pos ⟨rfl, rfl⟩]
  · rw [si1, if_pos ⟨rfl, rfl⟩]
  · rw [si1, if_neg (by omega), si1, if_neg (by omega), si1, if_neg (by omega), si1, if_pos ⟨rfl, rfl⟩]
theorem RepV_tell (hW : WF B S) (hV : RepV S μ) {bk n : Nat} (hb : bk < S.1 0 4) (n1 : 1 ≤ n) (n2 : n ≤ 160) {cs : List z_C1} (hw : wayL (chS (S.1 1) n) n 13 0 [] = .ok cs) (h256 : ∀ k, S.1 1 k < 256) (hl : cs.length < 100) : RepV (setC S bk cs) (si (si (z_cpy μ 2 (40 + 8 * bk + 7) 0 0 n) (40 + 8 * bk) 10 (nI n)) (40 + 8 * bk) 11 (nI cs.length)) := by
  have h3 := hW.1
  generalize hm : si (si (z_cpy μ 2 (40 + 8 * bk + 7) 0 0 n) (40 + 8 * bk) 10 (nI n)) (40 + 8 * bk) 11 (nI cs.length) = m
  have mo : ∀ c k, c ≠ 40 + 8 * bk + 7 → (c ≠ 40 + 8 * bk ∨ k < 10) → m.1 c k = μ.1 c k := fun c k h1 h2 => by
    rw [← hm, si1, if_neg (by omega), si1, if_neg (by omega)]
    exact if_neg h1
  have m10 : m.1 (40 + 8 * bk) 10 = nI n := by rw [← hm, si1, if_neg (by omega), si1, if_pos ⟨rfl, rfl⟩]
  have m11 : m.1 (40 + 8 * bk) 11 = nI cs.length := by rw [← hm, si1, if_pos ⟨rfl, rfl⟩]
  have mt : ∀ k, k < n → m.1 (40 + 8 * bk + 7) k = nI (S.1 1 k) := fun k hk => by
    rw [← hm, si1, if_neg (by omega), si1, if_neg (by omega)]
    have e : (z_cpy μ 2 (40 + 8 * bk + 7) 0 0 n).1 (40 + 8 * bk + 7) k = va_cpy (μ.1 2) (μ.1 (40 + 8 * bk + 7)) 0 0 n k := if_pos rfl
    rw [e]
    unfold va_cpy
    rw [if_pos ⟨Nat.zero_le _, by omega⟩, Nat.zero_add, Nat.sub_zero]
    exact hV.1.2.2.2.2.2.1 k (by omega)
  have bs : btSame S (setC S bk cs) := ⟨rfl, fun i hi => ⟨fun c _ _ => rfl, fun r _ => rfl, fun r _ _ => rfl⟩, fun s => ⟨rfl, rfl⟩⟩
  refine ⟨?_, fun r hr => ?_, fun b hb2 => ?_, fun i hi => ?_⟩
  · have hg := RvG_same hV.1 (μ' := m) fun c k hc => mo c k (by omega) (by omega)
    exact hg
  · exact RvR_keep (RvR_same (hV.2.1 r hr) fun c k c1 c2 => by
      have hr' : r < S.1 0 3 := hr
      exact mo c k (by omega) (by omega)) (fun c c1 c2 => rfl) (fun x => rfl) rfl (fun s _ => rfl)
  · have hb3 : b < S.1 0 4 := hb2
    by_cases eb : b = bk
    · subst eb
      obtain ⟨b0, b1, b2, b3, b4, b5, b6⟩ := hV.2.2.1 b hb3
      refine ⟨by rw [mo _ 0 (by omega) (by omega)]; exact b0, by rw [mo _ 1 (by omega) (by omega)]; exact b1, by rw [mo _ 2 (by omega) (by omega), betsOf_eq bs]; exact b2, fun k hk => by rw [mo _ k (by omega) (by omega)]; exact b3 k hk, fun r x hr hx => by rw [mo _ _ (by omega) (by omega)]; exact b4 r x hr hx, RvO_keep (S := S) ⟨fun r x hr hx => ?_, fun r hr => ?_⟩ bs rfl (fun r _ => rfl) (fun r _ => rfl), ?_⟩
      · rw [mo _ _ (by omega) (by omega), mo _ _ (by omega) (by omega), mo _ _ (by omega) (by omega)]
        exact b5.1 r x hr hx
      · rw [mo _ _ (by omega) (by omega)]
        exact b5.2 r hr
      · have ec : (setC S b cs).2.2 b = cs := if_pos rfl
        unfold TxB
        rw [ec]
        exact ⟨m11, fun _ => ⟨n, S.1 1, m10, n1, n2, mt, h256, hw⟩⟩
    · obtain ⟨b0, b1, b2, b3, b4, b5, b6⟩ := RvB_same (hV.2.2.1 b hb3) (μ' := m) fun c k c1 c2 => mo c k (by omega) (by omega)
      exact ⟨b0, b1, by rw [betsOf_eq bs]; exact b2, b3, b4, RvO_keep b5 bs rfl (fun r _ => rfl) (fun r _ => rfl), TxB_keep b6 (if_neg eb)⟩
  · have hi' : i < S.1 0 6 := hi
    exact RvT_keep (RvT_same (hV.2.2.2 i hi') fun c k c1 c2 => mo c k (by omega) (by omega)) (fun c c1 c2 => rfl) rfl rfl (fun r _ => rfl) (fun r _ _ => rfl) (fun _ => backS_eq hW hi' (bk_of bs hi' (fun r _ => ⟨rfl, rfl, rfl, rfl⟩) (fun k => rfl) (fun k => rfl)))
theorem c_way (hQ : KQ S kd q) (hV : RepV S μ) (hW : WF 80 S) {a b : Int32} {K : Int32 → z_Q → z_M → Prop} (hK : ∀ q' μ', KQ (opWay S a b).2 kd q' → RepV (opWay S a b).2 μ' → K (opWay S a b).1 q' μ') : C_X11_way kd q a b μ K := by
  have h3 := hW.1
  have hby := hW.2.2.2.2.2.2.2.2.2.1
  unfold C_X11_way
  unfold opWay at hK
  refine c_bookAt hQ hV.1 hW (fun bk hb e => opt_s ?_) (fun g => opt_n (by rw [ixO_none g] at hK; exact hK q μ hQ hV))
  subst e
  rw [ixO_some hb (by omega)] at hK
  dsimp only at hK
  have bad : (∀ j, 1 ≤ j → j ≤ 160 → b ≠ nI j) → K (-1) q μ := fun g => by
    cases e : ixO b 161 with
    | none =>
      rw [e] at hK
      exact hK q μ hQ hV
    | some j =>
      rw [e] at hK
      obtain ⟨j1, j2⟩ := ixO_inv e
      dsimp only at hK
      have j0 : j = 0 := by
        rcases Nat.eq_zero_or_pos j with z | z
        · exact z
        · exact absurd j2 (g j z (by omega))
      rw [if_pos j0] at hK
      exact hK q μ hQ hV
  by_cases gb : ∃ n, 1 ≤ n ∧ n ≤ 160 ∧ b = nI n
  · obtain ⟨n, n1, n2, eb⟩ := gb
    subst eb
    rw [ixO_some (show n < 161 by omega) (by decide)] at hK
    dsimp only at hK
    rw [if_neg (by omega)] at hK
    refine ifc (nI_ltI (b := 1) (by omega) (by decide)) (fun g => absurd g (by omega)) (fun _ => ?_)
    refine ifc (nI_ltI (a := 160) (by decide) (by omega)) (fun g => absurd g (by omega)) (fun _ => ?_)
    rw [nI_l (by omega)]
    refine c_give hV hW (by omega) (fun gn μ1 hV1 => ?_) (fun gn => ?_)
    · rw [if_pos gn] at hK
      have hW1 : WF 80 (setN S 0 1 0) := setF1_WF hW (by decide)
      rw [if_neg i10]
      have hQ2 : KQ (setN S 0 1 0) kd (sr q 10 1 (some 2)) := KQ_text (KQ_same hQ rfl rfl rfl) hQ.k2
      refine c_read (a := false) (ch := chS (S.1 1) n) (len := 200) hQ.k2 (by omega) (by decide) n2 (fun k hk => ?_) (fun k => chS_lt hby) (fun k hk => if_neg (by omega)) (by decide) fun hT μ2 hC => ?_
      · rw [hV1.1.2.2.2.2.2.1 k (by omega)]
        unfold chS
        rw [if_pos hk]
        rfl
      have hV2 : ∀ μ', SR (si μ1 10 2 (nI n)) μ' → RepV (setN S 0 1 0) μ' := fun μ' hs => hV1.same fun c k hc => by rw [hs.1 c k (by omega), si1, if_neg (by omega)]
      refine c_readAsk hT hC (fun fl at' ew f9 ae μ' hs => ?_) (fun cs ew μ' hs => ?_)
      · rw [ew] at hK
        refine ifc (iI_le (b := 0) (by omega) (by omega) (by decide) (by decide)) (fun _ => hK _ _ hQ2 (hV2 μ' hs)) (fun z => absurd (by omega) z)
      · rw [ew] at hK
        have hl := wayL_len 13 0 [] cs ew
        have hl0 : ([] : List z_C1).length = 0 := rfl
        dsimp only at hK
        refine ifc (nI_leI (b := 0) (by omega) (by decide)) (fun z => by omega) (fun _ => ?_)
        have hQ3 : KQ (setC (setN S 0 1 0) bk cs) kd (sr q 10 1 (some 2)) := KQ_same hQ2 rfl rfl rfl
        have hVm := hV2 μ' hs
        have l2 : z_len kd 2 = 200 := by
          unfold z_len
          rw [hQ.k2]
        unfold C_X1_tell
        refine opt_s ?_
        rw [if_neg (Int32.not_lt.mpr (nI_pos' (by omega)))]
        refine ifc (nI_ltI (a := 160) (by decide) (by omega)) (fun g => absurd g (by omega)) (fun _ => ?_)
        rw [l2]
        refine ifc (nI_leI (by omega) (by decide)) (fun _ => ?_) (fun g => absurd (show n ≤ 200 by omega) g)
        rw [nI_clamp (by omega), show (0 : Int32).toNatClampNeg = 0 from rfl]
        refine ⟨by decide, Int32.not_lt.mpr (nI_pos' (by omega)), by omega, by omega, hK _ _ hQ3 (RepV_tell hW1 hVm hb n1 n2 ew hby (by omega))⟩
    · rw [if_neg gn] at hK
      rw [if_pos rfl]
      exact hK q μ hQ hV
  · refine ifd (fun _ => bad fun j j1 j2 e => gb ⟨j, j1, j2, e⟩) (fun g1 => ifd (fun _ => bad fun j j1 j2 e => gb ⟨j, j1, j2, e⟩) (fun g2 => ?_))
    exfalso
    have hb0 : ¬ b < 0 := fun z => g1 (Int32.lt_trans z (by decide))
    obtain ⟨n, hn, e⟩ := nI_of hb0
    subst e
    refine gb ⟨n, ?_, ?_, rfl⟩
    · rcases Nat.lt_or_ge n 1 with z | z
      · exact absurd ((nI_ltI (b := 1) hn (by decide)).mpr z) g1
      · exact z
    · rcases Nat.lt_or_ge 160 n with z | z
      · exact absurd ((nI_ltI (a := 160) (by decide) hn).mpr z) g2
      · exact z
end CWAY
