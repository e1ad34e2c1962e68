/-! The class: a book's way carried out. -/
section CFOLL
variable {B : Nat} {S : z_SS} {μ : z_M} {kd : z_K} {q : z_Q} {b r h : Nat}
theorem mvL_app : ∀ (acc : List z_C1) (c : z_C1) (S : z_SS), mvL S b r h (acc ++ [c]) = mv1 (mvL S b r h acc) b r h c
  | [], _, _ => rfl
  | a :: acc, c, S => mvL_app acc c (mv1 S b r h a)
theorem TxC_same {ch : Nat → Nat} {n tx : Nat} {μ' : z_M} (hT : TxC ch n tx kd q μ) (h1 : μ'.1 10 2 = μ.1 10 2) (h2 : ∀ k, μ'.1 tx k = μ.1 tx k) : TxC ch n tx kd q μ' := by
  obtain ⟨t1, t2, t2b, t3, t4, t5, t6, t7, t8⟩ := hT
  exact ⟨t1, t2, t2b, t3, by rw [h1]; exact t4, fun k hk => by rw [h2]; exact t5 k hk, t6, t7, t8⟩
theorem ScR_q {q' : z_Q} (hS : ScR S q b r h μ) (h1 : q' 9 1 = q 9 1) : ScR S q' b r h μ := ⟨by rw [h1]; exact hS.1, hS.2⟩
theorem c_readBook (hk : kd (40 + 8 * b + 7) = some (.inr (0, 160))) (hS : ScR S q b r h μ) (hB : B ≤ 84) (hW : WF B S) (h6 : 1 ≤ S.1 0 6) (hb : b < S.1 0 4) (hrun : runsS S r h) (hTx : TxB S μ b) (hne : S.2.2 b ≠ []) {K : Int32 → z_Q → z_M → Prop} (hK : ∀ v μ', ScR (mvS S b r h) (sr q 10 1 (some (40 + 8 * b + 7))) b r h μ' → (∀ c k, c ≠ 40 + 8 * b + 1 → c ≠ 10 → μ'.1 c k = μ.1 c k) → K v (sr q 10 1 (some (40 + 8 * b + 7))) μ') : C_X7_read kd q (some (40 + 8 * b + 7)) (μ.1 (40 + 8 * b) 10) 1 μ K := by
  have h3 := hW.1
  obtain ⟨_, ht⟩ := hTx
  obtain ⟨n, t, e10, n1, n2, htx, h256, hw⟩ := ht hne
  have hq9 : sr q 10 1 (some (40 + 8 * b + 7)) 9 1 = q 9 1 := by
    unfold sr
    rw [if_neg (by omega)]
  rw [e10, show (1 : Int32) = nI (b2n true) from rfl]
  refine c_read (ch := chS t n) (len := 160) hk n2 (by decide) n2 (fun k hk => ?_) (fun k => chS_lt h256) (fun k hk => if_neg (by omega)) (by omega) fun hT μ1 hC => ?_
  · rw [htx k hk]
    unfold chS
    rw [if_pos hk]
  have start : ∀ c k, c ≠ 10 → μ1.1 c k = μ.1 c k := fun c k hc => by rw [hC.1.1 c k (Or.inl hc), si1, if_neg (by omega)]
  have hS1 : ScR S (sr q 10 1 (some (40 + 8 * b + 7))) b r h μ1 := by
    refine ScR_q ?_ hq9
    obtain ⟨a1, a2, a3, a4, a5, a6, a7, a8, a9, a10⟩ := hS
    exact ⟨a1, by rw [start _ _ (by omega)]; exact a2, by rw [start _ _ (by omega)]; exact a3, by rw [start _ _ (by omega)]; exact a4, by rw [start _ _ (by omega)]; exact a5, by rw [start _ _ (by omega)]; exact a6, fun k hk => by rw [start _ _ (by omega)]; exact a7 k hk, ⟨fun r x hr hx => by rw [start _ _ (by omega), start _ _ (by omega), start _ _ (by omega)]; exact a8.1 r x hr hx, fun r hr => by rw [start _ _ (by omega)]; exact a8.2 r hr⟩, by rw [start _ _ (by omega)]; exact a9, fun s hs => by rw [start _ _ (by omega), start _ _ (by omega)]; exact a10 s hs⟩
  have hT1 : TxC (chS t n) n (40 + 8 * b + 7) kd (sr q 10 1 (some (40 + 8 * b + 7))) μ1 := TxC_same hT (hC.1.1 10 2 (by omega)) (fun k => hC.1.1 _ k (by omega))
  have f1 := fun acc => mvL_1 (b := b) (r := r) (h := h) acc S
  refine c_readDo (b := b) (r := r) (h := h) (Inv := fun acc μ' => ScR (mvL S b r h acc) (sr q 10 1 (some (40 + 8 * b + 7))) b r h μ' ∧ TxC (chS t n) n (40 + 8 * b + 7) kd (sr q 10 1 (some (40 + 8 * b + 7))) μ' ∧ ∀ c k, c ≠ 40 + 8 * b + 1 → c ≠ 10 → μ'.1 c k = μ.1 c k) (T := fun acc => mvL S b r h acc) (fun acc m m' hI hs => ⟨hI.1.sr hs, TxC_same hI.2.1 (hs.1 10 2 (by omega)) (fun k => hs.1 _ k (by omega)), fun c k h1 h2 => by rw [hs.1 c k (Or.inl h2)]; exact hI.2.2 c k h1 h2⟩) (fun acc m hI => ?_) (fun acc m hI => hI.2.1) (fun acc c m hI hh => ⟨?_, hI.2⟩) (fun acc c m hI hh hl hn K' hK' => ?_) hw ⟨hS1, hT1, fun c k _ h2 => start c k h2⟩ hC.self fun v μ' hI => hK v μ' hI.1 hI.2.2
  · refine c_value hI.1 hB (mvL_WF acc S hW) (by rw [(f1 acc).1]; exact h6) (by rw [(f1 acc).1]; exact hb) ?_
    unfold runsS
    rw [(f1 acc).1]
    exact hrun
  · have e : mvL S b r h (acc ++ [c]) = mvL S b r h acc := by
      rw [mvL_app]
      unfold mv1
      rw [if_neg (by rw [hh]; decide)]
    show ScR (mvL S b r h (acc ++ [c])) _ b r h m
    rw [e]
    exact hI.1
  · refine c_move hI.1 (mvL_WF acc S hW) (by rw [(f1 acc).1]; exact hb) (by unfold runsS; rw [(f1 acc).1]; exact hrun) hh hl hn fun μ2 g1 g2 => hK' μ2 ⟨?_, TxC_same hI.2.1 (g2 10 2 (by omega)) (fun k => g2 _ k (by omega)), fun c' k h1 h2 => by rw [g2 c' k h1]; exact hI.2.2 c' k h1 h2⟩ fun k => g2 10 k (by omega)
    show ScR (mvL S b r h (acc ++ [c])) _ b r h μ2
    rw [mvL_app]
    exact g1
end CFOLL
