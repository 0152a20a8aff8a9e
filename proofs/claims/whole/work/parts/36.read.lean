def addQ (Q : KT) (j f nt v : Nat) : KT := fun a b => if a = 0 then (if b = 0 then Q 0 0 + 1 else Q 0 b) else if b = Q 0 0 then (if a = 1 then j else if a = 2 then f else if a = 3 then nt else v) else Q a b
theorem addQ_0 {Q : KT} {j f nt v : Nat} : addQ Q j f nt v 0 0 = Q 0 0 + 1 := rfl
theorem addQ_n {Q : KT} {j f nt v : Nat} : addQ Q j f nt v 1 (Q 0 0) = j ∧ addQ Q j f nt v 2 (Q 0 0) = f ∧ addQ Q j f nt v 3 (Q 0 0) = nt ∧ addQ Q j f nt v 4 (Q 0 0) = v := by
  refine ⟨?_, ?_, ?_, ?_⟩
  all_goals
    unfold addQ
    rw [if_neg (by decide), if_pos rfl]
    rfl
theorem addQ_o {Q : KT} {j f nt v a b : Nat} (ha : ¬ a = 0) (hb : ¬ b = Q 0 0) : addQ Q j f nt v a b = Q a b := by
  unfold addQ
  rw [if_neg ha, if_neg hb]
theorem WfQ.add {K Q : KT} {j f nt v : Nat} (h : WfQ K Q) (h0 : Q 0 0 < 10) (hj : j < K 0 1) (hf : f ≤ 9999) (ht : nt ≤ 1) (hv : v ≤ 9999) : WfQ K (addQ Q j f nt v) := by
  refine ⟨by rw [addQ_0]; omega, fun k hk => ?_⟩
  rw [addQ_0] at hk
  by_cases e : k = Q 0 0
  · subst e
    obtain ⟨a1, a2, a3, a4⟩ := addQ_n (Q := Q) (j := j) (f := f) (nt := nt) (v := v)
    rw [a1, a2, a3, a4]
    exact ⟨hj, hf, ht, hv⟩
  · rw [addQ_o (by omega) e, addQ_o (by omega) e, addQ_o (by omega) e, addQ_o (by omega) e]
    exact h.2 k (by omega)
def f_reading (j f : Int32) (nt : Nat) (v : Int32) (s : ST) : Value × ST := if inN j (s.1 0 1) then (if inN f 10000 ∧ inN v 10000 then (if s.2.1 0 0 = 10 then (.int (-4), s) else (.int (nI (s.2.1 0 0)), (s.1, addQ s.2.1 j.toNatClampNeg f.toNatClampNeg nt v.toNatClampNeg, s.2.2))) else (.int (-2), s)) else (.int (-1), s)
def f_back (k : Int32) (s : ST) : Value × ST := if inN k (s.2.1 0 0 + 1) then (.int (nI (s.2.1 0 0 - k.toNatClampNeg)), (s.1, setK s.2.1 0 0 (s.2.1 0 0 - k.toNatClampNeg), s.2.2)) else (.int (-2), s)
def C_addReading : am_C := fun av n σ τ nf P => nf = n ∧ 155 ≤ n ∧ ∃ (rw lf c nt : Nat) (j f v : Int32), τ = tauY rw lf ∧ av = [.ref 43, .int j, .int f, .int (nI nt), .int v] ∧ nt ≤ 1 ∧ σ 43 0 = nI c ∧ c < 10 ∧ ∀ σ', (∀ z, ¬ z = c → σ' 54 z = σ 54 z ∧ σ' 55 z = σ 55 z ∧ σ' 56 z = σ 56 z ∧ σ' 57 z = σ 57 z) → σ' 54 c = f → σ' 55 c = nI nt → σ' 56 c = j → σ' 57 c = v → σ' 43 0 = nI (c + 1) → σ' 43 2 = 0 → (∀ q, ¬ q = 43 → ¬ (54 ≤ q ∧ q ≤ 57) → σ' q = σ q) → P (some (.int (nI c))) σ' τ
set_option maxRecDepth 100000 in
theorem M_addReading (d : Nat) : am_Met (d + 1) 602 C_addReading := am_meth (own0 := "CanalEnd$Worlds") 602 (d + 0) 155 T_X6_addReading (fun y => am_no) C_addReading rfl F_X6_addReading rfl (by decide +kernel) Tc_X6_addReading (fun y => am_no_met) (by
  intro av n σ τ nf P hnf hC
  obtain ⟨rfl, hn, rw, lf, c, nt, j, f, v, rfl, rfl, ht, h0, hc, hP⟩ := hC
  refine ⟨hn, rfl, Nat.le_of_ble_eq_true rfl, fun Wb hs => ?_⟩
  have h01 : nI nt = 0 ∨ nI nt = 1 := by
    rcases (show nt = 0 ∨ nt = 1 by omega) with e | e <;> rw [e]
    · exact Or.inl rfl
    · exact Or.inr rfl
  have hcc : (nI c).toNatClampNeg = c := nI_clamp (by omega)
  refine hs (fun _ => false) 60 0 _ _ _ _ _ (vc_t (by rw [h0]; exact nI_lt (b := 10) hc (by omega)) (And.intro (by rw [h0]; exact vin (show c < 11 by omega)) (fun σ1 e1 => ?_)))
  rw [h0, hcc] at e1
  have e1 : σ1 = am_up σ 54 c f := e1
  have h1 : σ1 43 0 = nI c := by rw [e1, up_rn (by omega)]; exact h0
  refine And.intro (by rw [h1]; exact vin (show c < 11 by omega)) (And.intro h01 (fun σ2 e2 => ?_))
  rw [h1, hcc] at e2
  have e2 : σ2 = am_up σ1 55 c (nI nt) := e2
  have h2 : σ2 43 0 = nI c := by rw [e2, up_rn (by omega)]; exact h1
  refine And.intro (by rw [h2]; exact vin (show c < 11 by omega)) (fun σ3 e3 => ?_)
  rw [h2, hcc] at e3
  have e3 : σ3 = am_up σ2 56 c j := e3
  have h3 : σ3 43 0 = nI c := by rw [e3, up_rn (by omega)]; exact h2
  refine And.intro (by rw [h3]; exact vin (show c < 11 by omega)) (fun σ4 e4 => ?_)
  rw [h3, hcc] at e4
  have e4 : σ4 = am_up σ3 57 c v := e4
  have h4 : σ4 43 0 = nI c := by rw [e4, up_rn (by omega)]; exact h3
  refine And.intro (Or.inl rfl) (fun σ5 e5 => fun σ6 e6 => And.intro rfl ?_)
  have e5 : σ5 = am_up σ4 43 2 0 := e5
  have h5 : σ5 43 0 = nI c := by rw [e5, up_ne (by omega)]; exact h4
  rw [h5, ← nI_succ] at e6
  have e6 : σ6 = am_up σ5 43 0 (nI (c + 1)) := e6
  have h6 : σ6 43 0 = nI (c + 1) := by rw [e6]; exact up_at
  rw [h6, nI_pred]
  refine hP σ6 (fun z hz => ⟨?_, ?_, ?_, ?_⟩) ?_ ?_ ?_ ?_ h6 ?_ (fun q g1 g2 => ?_)
  · rw [e6, up_rn (by omega), e5, up_rn (by omega), e4, up_rn (by omega), e3, up_rn (by omega), e2, up_rn (by omega), e1, up_ne hz]
  · rw [e6, up_rn (by omega), e5, up_rn (by omega), e4, up_rn (by omega), e3, up_rn (by omega), e2, up_ne hz, e1, up_rn (by omega)]
  · rw [e6, up_rn (by omega), e5, up_rn (by omega), e4, up_rn (by omega), e3, up_ne hz, e2, up_rn (by omega), e1, up_rn (by omega)]
  · rw [e6, up_rn (by omega), e5, up_rn (by omega), e4, up_ne hz, e3, up_rn (by omega), e2, up_rn (by omega), e1, up_rn (by omega)]
  · rw [e6, up_rn (by omega), e5, up_rn (by omega), e4, up_rn (by omega), e3, up_rn (by omega), e2, up_rn (by omega), e1, up_at]
  · rw [e6, up_rn (by omega), e5, up_rn (by omega), e4, up_rn (by omega), e3, up_rn (by omega), e2, up_at]
  · rw [e6, up_rn (by omega), e5, up_rn (by omega), e4, up_rn (by omega), e3, up_at]
  · rw [e6, up_rn (by omega), e5, up_rn (by omega), e4, up_at]
  · rw [e6, up_ne (by omega), e5, up_at]
  · rw [e6, am_up_ne g1, e5, am_up_ne g1, e4, am_up_ne (by omega), e3, am_up_ne (by omega), e2, am_up_ne (by omega), e1, am_up_ne (by omega)])
def C_takeBack : am_C := fun av n σ τ nf P => nf = n ∧ 155 ≤ n ∧ ∃ (rw lf c k : Nat), τ = tauY rw lf ∧ av = [.ref 43, .int (nI k)] ∧ σ 43 0 = nI c ∧ k ≤ c ∧ c ≤ 10 ∧ (k = 0 → P none σ τ) ∧ (¬ k = 0 → P none (am_up (am_up σ 43 0 (nI (c - k))) 43 2 0) τ)
set_option maxRecDepth 100000 in
theorem M_takeBack (d : Nat) : am_Met (d + 1) 603 C_takeBack := am_meth (own0 := "CanalEnd$Worlds") 603 (d + 0) 155 T_X6_takeBack (fun y => am_no) C_takeBack rfl F_X6_takeBack rfl (by decide +kernel) Tc_X6_takeBack (fun y => am_no_met) (by
  intro av n σ τ nf P hnf hC
  obtain ⟨rfl, hn, rw, lf, c, k, rfl, rfl, h0, hk, hc, h1, h2⟩ := hC
  refine ⟨hn, rfl, Nat.le_of_ble_eq_true rfl, fun Wb hs => ?_⟩
  refine hs (fun _ => false) 60 0 _ _ _ _ _ (vc_if (fun g => And.intro rfl (h1 ?_)) (fun g => vc_f (by rw [h0]; exact nI_nlt hk (by omega)) (fun σ1 e1 => And.intro (Or.inl rfl) (fun σ2 e2 => And.intro rfl ?_))))
  · have := (nI_leI (b := 0) (by omega) (by omega)).mp g
    omega
  · have g : ¬ k = 0 := fun q => g (by rw [q]; decide)
    rw [h0, nI_subN hk] at e1
    rw [e2, e1]
    exact h2 g)
def C_xreading : am_C := fun av n σ τ nf P => ∃ (j : Int32) (f : Int32) (nt : Nat) (v : Int32), pubX [.int j, .int f, .int (nI nt), .int v] (f_reading j f nt v) av n σ τ nf P ∧ nt ≤ 1
set_option maxRecDepth 100000 in
theorem M_xreading (d : Nat) : am_Met (d + 3) 714 C_xreading := am_meth (own0 := "CanalEnd") 714 (d + 2) 155 T_X7_reading (fun y => bif Nat.beq y 746 then C_isMile else (bif Nat.beq y 741 then C_isWater else (bif Nat.beq y 602 then C_addReading else (am_no)))) C_xreading rfl F_X7_reading rfl (by decide +kernel) Tc_X7_reading (fun y => am_g (M_isMile (d + 0)) (am_g (M_isWater (d + 0)) (am_g (M_addReading (d + 1)) (am_no_met)))) (by
  intro av n σ τ nf P hnf hC
  obtain ⟨j, f, nt, v, ⟨rfl, lf, ⟨K, Q, S, Ce, fl, tr⟩, rfl, hI, rfl, hP⟩, hb⟩ := hC
  have hn := Nlf_le hI.2.2.2.2.2.2.2.2.2
  refine ⟨hn, rfl, Nat.le_of_ble_eq_true rfl, fun Wb hs => ?_⟩
  have hI : InvX σ nf lf K Q S Ce fl tr := hI
  have hK := hI.1
  have hR := hI.2.1
  have hM10 := hK.2.1
  have hO8 := hK.2.2.1
  have eM : σ 1 1 = nI (K 0 1) := hR.1 1 (by omega)
  have eO : σ 1 2 = nI (K 0 2) := hR.1 2 (by omega)
  have fin : ∀ r9 : Int32, (f_reading j f nt v (K, Q, S, Ce, fl, tr)).2 = (K, Q, S, Ce, fl, tr) → (f_reading j f nt v (K, Q, S, Ce, fl, tr)).1 = .int r9 → P (some (.int r9)) σ (tauY 0 lf) := fun r9 e1 e2 => p_eqv e2 (hP σ (by rw [e1]; exact hI) (fun _ _ => fun _ => rfl))
  have fin2 : ∀ (v9 : Value) (K9 Q9 S9 : KT) (Ce9 : Nat → Nat → Int32) (fl9 : Nat) (tr9 : Int32) (σ9 : am_Sg), f_reading j f nt v (K, Q, S, Ce, fl, tr) = (v9, (K9, Q9, S9, Ce9, fl9, tr9)) → InvX σ9 nf lf K9 Q9 S9 Ce9 fl9 tr9 → FrX σ σ9 → P (some v9) σ9 (tauY 0 lf) := fun v9 K9 Q9 S9 Ce9 fl9 tr9 σ9 e h1 h2 => by have := hP σ9 (by rw [e]; exact h1) h2; rw [e] at this; exact this
  have hQ := hI.2.2.1
  have hQ0 := hQ.1
  refine hs (fun _ => false) 60 0 _ _ _ _ _ ⟨rfl, hn, 0, lf, K 0 1, j, rfl, rfl, eM, by omega, fun g => ?_, fun g => vc_t rfl (And.intro rfl (fin _ (by unfold f_reading; rw [if_neg g]) (by unfold f_reading; rw [if_neg g])))⟩
  refine vc_f (by decide) ⟨rfl, f, rfl, fun g2 => ?_, fun g2 => vc_t rfl (And.intro rfl (fin _ (by unfold f_reading; rw [if_pos g, if_neg (fun q => g2 q.1)]) (by unfold f_reading; rw [if_pos g, if_neg (fun q => g2 q.1)])))⟩
  refine vc_f (by decide) ⟨rfl, v, rfl, fun g3 => ?_, fun g3 => vc_t rfl (And.intro rfl (fin _ (by unfold f_reading; rw [if_pos g, if_neg (fun q => g3 q.2)]) (by unfold f_reading; rw [if_pos g, if_neg (fun q => g3 q.2)])))⟩
  have hj := inN_c g
  have hf := inN_c g2
  have hv := inN_c g3
  have hRQ := hI.2.2.2.1
  refine vc_f (by decide) (vc_if (fun c => ?_) (fun c => ?_))
  · rw [hRQ.1] at c
    have c := (nI_ltI (b := 10) (by omega) (by omega)).mp c
    refine ⟨rfl, hn, 0, lf, Q 0 0, nt, j, f, v, rfl, rfl, hb, hRQ.1, c, fun σ2 b0 b1 b2 b3 b4 b5 b6 b7 => And.intro rfl ?_⟩
    refine fin2 _ _ _ _ _ _ _ σ2 (by unfold f_reading; rw [if_pos g, if_pos ⟨g2, g3⟩, if_neg (show ¬ Q 0 0 = 10 by omega)]) ?_ (fun q g1 g2 => b7 q (by omega) (by omega))
    refine hI.anew hK (hR.frame (fun q g1 g2 => b7 q (by omega) (by omega))) (hQ.add c hj.1 (by omega) hb (by omega)) ?_ b6 (fun q hq => b7 q (by omega) (by omega)) (fun z hz => by rw [b7 11 (by omega) (by omega)]; exact (hI.2.2.2.2.2.2.2.2.1 z hz).1)
    refine ⟨b5, fun k hk => ?_⟩
    have hk : k < Q 0 0 + 1 := hk
    by_cases e : k = Q 0 0
    · rw [e]
      obtain ⟨a1, a2, a3, a4⟩ := addQ_n (Q := Q) (j := j.toNatClampNeg) (f := f.toNatClampNeg) (nt := nt) (v := v.toNatClampNeg)
      rw [a1, a2, a3, a4]
      exact ⟨b1.trans hf.2, b2, b3.trans hj.2, b4.trans hv.2⟩
    · rw [addQ_o (by omega) e, addQ_o (by omega) e, addQ_o (by omega) e, addQ_o (by omega) e, (b0 k e).1, (b0 k e).2.1, (b0 k e).2.2.1, (b0 k e).2.2.2]
      exact hRQ.2 k (by omega)
  · rw [hRQ.1] at c
    have c : ¬ Q 0 0 < 10 := fun q => c (nI_lt (b := 10) q (by omega))
    exact And.intro rfl (fin _ (by unfold f_reading; rw [if_pos g, if_pos ⟨g2, g3⟩, if_pos (show Q 0 0 = 10 by omega)]) (by unfold f_reading; rw [if_pos g, if_pos ⟨g2, g3⟩, if_pos (show Q 0 0 = 10 by omega)])))
theorem InvM.rd {σ σ' : am_Sg} {K Q Q' S : KT} {Ce : Nat → Nat → Int32} {fl : Nat} {tr : Int32} (h : InvM σ K Q S Ce fl tr) (hQ : WfQ K Q') (hRQ : σ' 116 33 = nI (Q' 0 0) ∧ ∀ k, k < Q' 0 0 → σ' 140 k = nI (Q' 1 k) ∧ σ' 141 k = nI (Q' 2 k) ∧ σ' 142 k = nI (Q' 3 k) ∧ σ' 143 k = nI (Q' 4 k)) (hf : ∀ q, ¬ q = 116 → ¬ (140 ≤ q ∧ q ≤ 143) → σ' q = σ q) (h6 : ∀ i, ¬ i = 33 → σ' 116 i = σ 116 i) : InvM σ' K Q' S Ce fl tr := by
  obtain ⟨g1, ⟨r1, r2, r3, r4, r5, r6, r7⟩, g3, g4, g5, g6, g7, g8⟩ := h
  refine ⟨g1, ⟨?_, ?_, ?_, ?_, ?_, ?_, ?_⟩, hQ, hRQ, g5, ?_, ?_, ?_⟩
  · rw [h6 5 (by omega)]; exact r1
  · rw [h6 6 (by omega)]; exact r2
  · rw [h6 7 (by omega)]; exact r3
  · rw [h6 17 (by omega)]; exact r4
  · rw [hf 120 (by omega) (by omega), hf 121 (by omega) (by omega)]; exact r5
  · rw [hf 122 (by omega) (by omega)]; exact r6
  · intro f hf9 o ho
    rw [hf (123 + f) (by omega) (by omega)]; exact r7 f hf9 o ho
  · rw [hf 117 (by omega) (by omega), hf 118 (by omega) (by omega), hf 119 (by omega) (by omega)]; exact g6
  · rw [h6 0 (by omega)]; exact g7
  · rw [h6 1 (by omega)]; exact g8
def C_mreading : am_C := fun av n σ τ nf P => ∃ (j : Int32) (f : Int32) (nt : Nat) (v : Int32), pubM [.int j, .int f, .int (nI nt), .int v] (f_reading j f nt v) av n σ τ nf P ∧ nt ≤ 1
set_option maxRecDepth 100000 in
theorem M_mreading (d : Nat) : am_Met (d + 3) 832 C_mreading := am_meth (own0 := "CanalEndModel") 832 (d + 2) 155 T_X8_reading (fun y => bif Nat.beq y 809 then C_mMile else (bif Nat.beq y 823 then C_mWater else (am_no))) C_mreading rfl F_X8_reading rfl (by decide +kernel) Tc_X8_reading (fun y => am_g (M_mMile (d + 1)) (am_g (M_mWater (d + 0)) (am_no_met))) (by
  intro av n σ τ nf P hnf hC
  obtain ⟨j, f, nt, v, ⟨rfl, hn, lf, ⟨K, Q, S, Ce, fl, tr⟩, rfl, hI, rfl, hP⟩, hb⟩ := hC
  refine ⟨hn, rfl, Nat.le_of_ble_eq_true rfl, fun Wb hs => ?_⟩
  have hI : InvM σ K Q S Ce fl tr := hI
  have hK := hI.1
  have hR := hI.2.1
  have hM10 := hK.2.1
  have hO8 := hK.2.2.1
  have eM := hR.2.1
  have eO := hR.2.2.1
  have fin : ∀ r9 : Int32, (f_reading j f nt v (K, Q, S, Ce, fl, tr)).2 = (K, Q, S, Ce, fl, tr) → (f_reading j f nt v (K, Q, S, Ce, fl, tr)).1 = .int r9 → P (some (.int r9)) σ (tauY 0 lf) := fun r9 e1 e2 => p_eqv e2 (hP σ (by rw [e1]; exact hI) (fun _ _ => rfl))
  have fin2 : ∀ (v9 : Value) (K9 Q9 S9 : KT) (Ce9 : Nat → Nat → Int32) (fl9 : Nat) (tr9 : Int32) (σ9 : am_Sg), f_reading j f nt v (K, Q, S, Ce, fl, tr) = (v9, (K9, Q9, S9, Ce9, fl9, tr9)) → InvM σ9 K9 Q9 S9 Ce9 fl9 tr9 → FrM σ σ9 → P (some v9) σ9 (tauY 0 lf) := fun v9 K9 Q9 S9 Ce9 fl9 tr9 σ9 e h1 h2 => by have := hP σ9 (by rw [e]; exact h1) h2; rw [e] at this; exact this
  have hQ := hI.2.2.1
  have hQ0 := hQ.1
  refine hs (fun _ => false) 60 0 _ _ _ _ _ ⟨rfl, hn, 0, lf, K 0 1, j, rfl, rfl, eM, by omega, fun g => ?_, fun g => vc_t rfl (And.intro rfl (fin _ (by unfold f_reading; rw [if_neg g]) (by unfold f_reading; rw [if_neg g])))⟩
  refine vc_f (by decide) ⟨rfl, f, rfl, fun g2 => ?_, fun g2 => vc_t rfl (And.intro rfl (fin _ (by unfold f_reading; rw [if_pos g, if_neg (fun q => g2 q.1)]) (by unfold f_reading; rw [if_pos g, if_neg (fun q => g2 q.1)])))⟩
  refine vc_f (by decide) ⟨rfl, v, rfl, fun g3 => ?_, fun g3 => vc_t rfl (And.intro rfl (fin _ (by unfold f_reading; rw [if_pos g, if_neg (fun q => g3 q.2)]) (by unfold f_reading; rw [if_pos g, if_neg (fun q => g3 q.2)])))⟩
  have hj := inN_c g
  have hf := inN_c g2
  have hv := inN_c g3
  have hRQ := hI.2.2.2.1
  have h01 : nI nt = 0 ∨ nI nt = 1 := by
    rcases (show nt = 0 ∨ nt = 1 by omega) with e | e <;> rw [e]
    · exact Or.inl rfl
    · exact Or.inr rfl
  have h0 := hRQ.1
  refine vc_f (by decide) (vc_if (fun c => ?_) (fun c => ?_))
  · rw [h0] at c
    have c := nI_inj (b := 10) (by omega) (by omega) c
    exact And.intro rfl (fin _ (by unfold f_reading; rw [if_pos g, if_pos ⟨g2, g3⟩, if_pos c]) (by unfold f_reading; rw [if_pos g, if_pos ⟨g2, g3⟩, if_pos c]))
  · rw [h0] at c
    have c : ¬ Q 0 0 = 10 := fun q => c (by rw [q]; rfl)
    have hcc : (nI (Q 0 0)).toNatClampNeg = Q 0 0 := nI_clamp (by omega)
    refine And.intro (by rw [h0]; exact vin (show Q 0 0 < 10 by omega)) (fun σ1 e1 => ?_)
    rw [h0, hcc] at e1
    have e1 : σ1 = am_up σ 140 (Q 0 0) j := e1
    have h1 : σ1 116 33 = nI (Q 0 0) := by rw [e1, up_rn (by omega)]; exact h0
    refine And.intro (by rw [h1]; exact vin (show Q 0 0 < 10 by omega)) (fun σ2 e2 => ?_)
    rw [h1, hcc] at e2
    have e2 : σ2 = am_up σ1 141 (Q 0 0) f := e2
    have h2 : σ2 116 33 = nI (Q 0 0) := by rw [e2, up_rn (by omega)]; exact h1
    refine And.intro (by rw [h2]; exact vin (show Q 0 0 < 10 by omega)) (And.intro h01 (fun σ3 e3 => ?_))
    rw [h2, hcc] at e3
    have e3 : σ3 = am_up σ2 142 (Q 0 0) (nI nt) := e3
    have h3 : σ3 116 33 = nI (Q 0 0) := by rw [e3, up_rn (by omega)]; exact h2
    refine And.intro (by rw [h3]; exact vin (show Q 0 0 < 10 by omega)) (fun σ4 e4 => fun σ5 e5 => And.intro rfl ?_)
    rw [h3, hcc] at e4
    have e4 : σ4 = am_up σ3 143 (Q 0 0) v := e4
    have h4 : σ4 116 33 = nI (Q 0 0) := by rw [e4, up_rn (by omega)]; exact h3
    rw [h4, ← nI_succ] at e5
    have e5 : σ5 = am_up σ4 116 33 (nI (Q 0 0 + 1)) := e5
    have h5 : σ5 116 33 = nI (Q 0 0 + 1) := by rw [e5]; exact up_at
    rw [h5, nI_pred]
    have fr : ∀ q, ¬ q = 116 → ¬ (140 ≤ q ∧ q ≤ 143) → σ5 q = σ q := fun q g1 g2 => by
      rw [e5, am_up_ne g1, e4, am_up_ne (by omega), e3, am_up_ne (by omega), e2, am_up_ne (by omega), e1, am_up_ne (by omega)]
    have f6 : ∀ i, ¬ i = 33 → σ5 116 i = σ 116 i := fun i g => by
      rw [e5, up_ne g, e4, up_rn (by omega), e3, up_rn (by omega), e2, up_rn (by omega), e1, up_rn (by omega)]
    have r0 : σ5 140 = am_up σ 140 (Q 0 0) j 140 := by rw [e5, am_up_ne (by omega), e4, am_up_ne (by omega), e3, am_up_ne (by omega), e2, am_up_ne (by omega), e1]
    have r1 : σ5 141 = am_up σ 141 (Q 0 0) f 141 := by
      rw [e5, am_up_ne (by omega), e4, am_up_ne (by omega), e3, am_up_ne (by omega), e2]
      funext z
      by_cases q : z = Q 0 0
      · rw [q, up_at, up_at]
      · rw [up_ne q, up_ne q, e1, up_rn (by omega)]
    have r2 : σ5 142 = am_up σ 142 (Q 0 0) (nI nt) 142 := by
      rw [e5, am_up_ne (by omega), e4, am_up_ne (by omega), e3]
      funext z
      by_cases q : z = Q 0 0
      · rw [q, up_at, up_at]
      · rw [up_ne q, up_ne q, e2, up_rn (by omega), e1, up_rn (by omega)]
    have r3 : σ5 143 = am_up σ 143 (Q 0 0) v 143 := by
      rw [e5, am_up_ne (by omega), e4]
      funext z
      by_cases q : z = Q 0 0
      · rw [q, up_at, up_at]
      · rw [up_ne q, up_ne q, e3, up_rn (by omega), e2, up_rn (by omega), e1, up_rn (by omega)]
    refine fin2 _ _ _ _ _ _ _ σ5 (by unfold f_reading; rw [if_pos g, if_pos ⟨g2, g3⟩, if_neg c]) ?_ (fun q g1 => fr q (by omega) (by omega))
    refine hI.rd (hQ.add (by omega) hj.1 (by omega) hb (by omega)) ⟨h5, fun k hk => ?_⟩ fr f6
    have hk : k < Q 0 0 + 1 := hk
    rw [r0, r1, r2, r3]
    by_cases e : k = Q 0 0
    · rw [e, up_at, up_at, up_at, up_at]
      obtain ⟨a1, a2, a3, a4⟩ := addQ_n (Q := Q) (j := j.toNatClampNeg) (f := f.toNatClampNeg) (nt := nt) (v := v.toNatClampNeg)
      rw [a1, a2, a3, a4]
      exact ⟨hj.2, hf.2, rfl, hv.2⟩
    · rw [addQ_o (by omega) e, addQ_o (by omega) e, addQ_o (by omega) e, addQ_o (by omega) e, up_ne e, up_ne e, up_ne e, up_ne e]
      exact hRQ.2 k (by omega))
