def C_runDays : am_C := fun av n σ τ nf P => nf = n ∧ 155 ≤ n ∧ ∃ (lf j f : Nat) (K : KT), τ = tauY 0 lf ∧ av = [.ref 0, .int (nI j), .int (nI f)] ∧ RepX σ 1 K ∧ WfK K ∧ RepG σ ∧ j < K 0 1 ∧ f ≤ 9999 ∧ ∀ σ', (∀ o, o < K 0 2 → σ' 30 o = nI (s_dy K f o)) → (∀ o, o < K 0 2 → σ' 37 o = nI (s_dy (setK K 2 j 0) f o)) → RepG σ' → (∀ q, ¬ (12 ≤ q ∧ q ≤ 22) → ¬ (29 ≤ q ∧ q ≤ 42) → σ' q = σ q) → P none σ' τ
theorem RepG.fr {σ σ' : am_Sg} (h : RepG σ) (h1 : σ' 11 = σ 11) (h2 : σ' 22 = σ 22) : RepG σ' := fun i hi => by
  rw [h1, h2]
  exact h i hi
set_option maxRecDepth 100000 in
theorem M_runDays (d : Nat) : am_Met (d + 4) 754 C_runDays := am_meth (own0 := "CanalEnd") 754 (d + 3) 155 T_X7_runDays (fun y => bif Nat.beq y 101 then C_drun else (bif Nat.beq y 4 then C_become else (am_no))) C_runDays rfl F_X7_runDays rfl (by decide +kernel) Tc_X7_runDays (fun y => am_g (M_drun (d + 0)) (am_g (M_become (d + 2)) (am_no_met))) (by
  intro av n σ τ nf P hnf hC
  obtain ⟨rfl, hn, lf, j, f, K, rfl, rfl, hR, hK, hG, hj, hf, hP⟩ := hC
  refine ⟨hn, rfl, Nat.le_of_ble_eq_true rfl, fun Wb hs => ?_⟩
  have hM10 := hK.2.1
  have h0 : setK K 2 j 0 0 = K 0 := setK_ne (by omega)
  refine hs (fun _ => false) 60 0 _ _ _ _ _ ⟨rfl, hn, 0, lf, 29, 1, f, K, rfl, rfl, by decide, by decide, hR, hK, hf, fun σ1 a1 a2 a3 => ?_⟩
  refine ⟨rfl, hn, 0, lf, 12, 1, K, rfl, rfl, Or.inl ⟨rfl, rfl⟩, hR.frame (fun q g1 g2 => a3 q (by omega)), hK, hG.fr (a3 11 (by omega)) (a3 22 (by omega)), fun σ2 b1 b2 b3 => ?_⟩
  refine And.intro (vin (show j < 10 by omega)) (fun σ3 e3 => ?_)
  rw [nI_clamp (by omega)] at e3
  have e3 : σ3 = am_up σ2 14 j (nI 0) := e3
  have hR3 : RepX σ3 12 (setK K 2 j 0) := by rw [e3]; exact b1.set (f := 2) (by omega)
  refine ⟨rfl, hn, 0, lf, 36, 12, f, setK K 2 j 0, rfl, rfl, by decide, by decide, hR3, hK.set (by omega) (Nat.zero_le _), hf, fun σ4 c1 c2 c3 => And.intro rfl ?_⟩
  rw [h0] at c1
  refine hP σ4 (fun o ho => ?_) c1 ?_ (fun q g1 g2 => ?_)
  · rw [c3 30 (by omega), e3, up_rn (by omega), b3 30 (by omega)]
    exact a1 o ho
  · exact b2.fr (by rw [c3 11 (by omega), e3, am_up_ne (by omega)]) (by rw [c3 22 (by omega), e3, am_up_ne (by omega)])
  · rw [c3 q (by omega), e3, am_up_ne (by omega), b3 q (by omega), a3 q (by omega)])
def f_gains (j o f : Int32) (s : ST) : Value × ST := (if inN j (s.1 0 1) ∧ inN o (s.1 0 2) ∧ inN f 10000 then .long (nI (s_dy (setK s.1 2 j.toNatClampNeg 0) f.toNatClampNeg o.toNatClampNeg) - nI (s_dy s.1 f.toNatClampNeg o.toNatClampNeg)).toInt64 else (.long (-9223372036854775808)), s)
def C_xgains : am_C := fun av n σ τ nf P => ∃ (j : Int32) (o : Int32) (f : Int32), pubX [.int j, .int o, .int f] (f_gains j o f) av n σ τ nf P
set_option maxRecDepth 100000 in
theorem M_xgains (d : Nat) : am_Met (d + 5) 723 C_xgains := am_meth (own0 := "CanalEnd") 723 (d + 4) 155 T_X7_gains (fun y => bif Nat.beq y 746 then C_isMile else (bif Nat.beq y 747 then C_isOutlet else (bif Nat.beq y 741 then C_isWater else (bif Nat.beq y 754 then C_runDays else (am_no))))) C_xgains rfl F_X7_gains rfl (by decide +kernel) Tc_X7_gains (fun y => am_g (M_isMile (d + 2)) (am_g (M_isOutlet (d + 2)) (am_g (M_isWater (d + 2)) (am_g (M_runDays (d + 0)) (am_no_met))))) (by
  intro av n σ τ nf P hnf hC
  obtain ⟨j, o, f, rfl, lf, ⟨K, Q, S, Ce, fl, tr⟩, rfl, hI, rfl, hP⟩ := hC
  have hn := Nlf_le hI.2.2.2.2.2.2.2.2.2
  refine ⟨hn, rfl, Nat.le_of_ble_eq_true rfl, fun Wb hs => ?_⟩
  have hI : InvX σ nf lf K Q S Ce fl tr := hI
  have hK := hI.1
  have hR := hI.2.1
  have hM10 := hK.2.1
  have hO8 := hK.2.2.1
  have eM : σ 1 1 = nI (K 0 1) := hR.1 1 (by omega)
  have eO : σ 1 2 = nI (K 0 2) := hR.1 2 (by omega)
  have fin : ∀ r9 : Int32, (f_gains j o f (K, Q, S, Ce, fl, tr)).2 = (K, Q, S, Ce, fl, tr) → (f_gains j o f (K, Q, S, Ce, fl, tr)).1 = .int r9 → P (some (.int r9)) σ (tauY 0 lf) := fun r9 e1 e2 => p_eqv e2 (hP σ (by rw [e1]; exact hI) (fun _ _ => fun _ => rfl))
  have fin2 : ∀ (v9 : Value) (K9 Q9 S9 : KT) (Ce9 : Nat → Nat → Int32) (fl9 : Nat) (tr9 : Int32) (σ9 : am_Sg), f_gains j o f (K, Q, S, Ce, fl, tr) = (v9, (K9, Q9, S9, Ce9, fl9, tr9)) → InvX σ9 nf lf K9 Q9 S9 Ce9 fl9 tr9 → FrX σ σ9 → P (some v9) σ9 (tauY 0 lf) := fun v9 K9 Q9 S9 Ce9 fl9 tr9 σ9 e h1 h2 => by have := hP σ9 (by rw [e]; exact h1) h2; rw [e] at this; exact this
  refine hs (fun _ => false) 60 0 _ _ _ _ _ ⟨rfl, hn, 0, lf, K 0 1, j, rfl, rfl, eM, by omega, fun g => ?_, fun g => vc_t rfl (And.intro rfl (fin2 _ K Q S Ce fl tr σ (by unfold f_gains; rw [if_neg (fun q => g q.1)]) hI (fun _ _ _ => rfl)))⟩
  refine vc_f (by decide) ⟨rfl, hn, 0, lf, K 0 2, o, rfl, rfl, eO, by omega, fun g2 => ?_, fun g2 => vc_t rfl (And.intro rfl (fin2 _ K Q S Ce fl tr σ (by unfold f_gains; rw [if_neg (fun q => g2 q.2.1)]) hI (fun _ _ _ => rfl)))⟩
  refine vc_f (by decide) ⟨rfl, f, rfl, fun g3 => ?_, fun g3 => vc_t rfl (And.intro rfl (fin2 _ K Q S Ce fl tr σ (by unfold f_gains; rw [if_neg (fun q => g3 q.2.2)]) hI (fun _ _ _ => rfl)))⟩
  obtain ⟨a, ha, rfl⟩ := inN_ex g
  have hca : (nI a).toNatClampNeg = a := nI_clamp (by omega)
  obtain ⟨b, hb, rfl⟩ := inN_ex g2
  have hcb : (nI b).toNatClampNeg = b := nI_clamp (by omega)
  obtain ⟨u, hu, rfl⟩ := inN_ex g3
  have hcu : (nI u).toNatClampNeg = u := nI_clamp (by omega)
  refine vc_f (by decide) ⟨rfl, hn, lf, a, u, K, rfl, rfl, hR, hK, hI.2.2.2.2.2.2.2.2.1, ha, by omega, fun σ2 h1 h2 h3 h4 => And.intro (vin (show b < 8 by omega)) (And.intro (vin (show b < 8 by omega)) (And.intro rfl ?_))⟩
  rw [hcb, h1 b hb, h2 b hb]
  exact fin2 _ K Q S Ce fl tr σ2 (by unfold f_gains; rw [if_pos ⟨g, g2, g3⟩, hca, hcb, hcu]) (hI.keep (fun q hq => h4 q (by unfold Pq at hq; omega) (by unfold Pq at hq; omega)) h3) (fun q g1 g2 => h4 q (by omega) (by omega)))
def C_layDug : am_C := fun av n σ τ nf P => nf = n ∧ 155 ≤ n ∧ ∃ (lf j f : Nat) (K : KT), τ = tauY 0 lf ∧ av = [.ref 116, .int (nI j), .int (nI f)] ∧ RepM σ K ∧ WfK K ∧ j < K 0 1 ∧ f ≤ 9999 ∧ ∀ σ', (∀ o, o < K 0 2 → σ' 150 o = nI (s_dy K f o)) → (∀ o, o < K 0 2 → σ' 151 o = nI (s_dy (setK K 2 j 0) f o)) → (∀ q, ¬ q = 116 → ¬ (135 ≤ q ∧ q ≤ 139) → ¬ q = 147 → ¬ q = 150 → ¬ q = 151 → σ' q = σ q) → (∀ i, ¬ i = 43 → σ' 116 i = σ 116 i) → P none σ' τ
set_option maxRecDepth 100000 in
theorem M_layDug (d : Nat) : am_Met (d + 4) 850 C_layDug := am_meth (own0 := "CanalEndModel") 850 (d + 3) 155 T_X8_layDug (fun y => bif Nat.beq y 844 then C_layDay else (am_no)) C_layDug rfl F_X8_layDug rfl (by decide +kernel) Tc_X8_layDug (fun y => am_g (M_layDay (d + 0)) (am_no_met)) (by
  intro av n σ τ nf P hnf hC
  obtain ⟨rfl, hn, lf, j, f, K, rfl, rfl, hR, hK, hj, hf, hP⟩ := hC
  refine ⟨hn, rfl, Nat.le_of_ble_eq_true rfl, fun Wb hs => ?_⟩
  have hM10 := hK.2.1
  have hO8 := hK.2.2.1
  have hcj : (nI j).toNatClampNeg = j := nI_clamp (by omega)
  have h0 : setK K 2 j 0 0 = K 0 := setK_ne (by omega)
  have k62 : ∀ (x3 : Int32) r o (σ6 : am_Sg), o + r = K 0 2 → (∀ z, z < K 0 2 → σ6 150 z = nI (s_dy K f z)) → (∀ z, z < K 0 2 → σ6 147 z = nI (s_dy (setK K 2 j 0) f z)) → (∀ z, z < o → σ6 151 z = nI (s_dy (setK K 2 j 0) f z)) → (∀ q, ¬ q = 116 → ¬ (135 ≤ q ∧ q ≤ 139) → ¬ q = 147 → ¬ q = 150 → ¬ q = 151 → σ6 q = σ q) → (∀ i, ¬ i = 43 → σ6 116 i = σ 116 i) → Wb 62 [some (.ref 116), some (.int (nI j)), some (.int (nI f)), some (.int x3), some (.int (nI o))] [] nf σ6 (tauY 0 lf) := by
    intro x3 r
    induction r with
    | zero =>
      intro o σ6 ho h1 h2 h3 h4 h5
      have ho : o = K 0 2 := by omega
      subst ho
      have eO : σ6 116 7 = nI (K 0 2) := by rw [h5 7 (by omega)]; exact hR.2.2.1
      exact hs (fun p => Nat.beq p 62) 60 62 _ _ _ _ _ (vc_t (by rw [eO]; exact nI_le (Nat.le_refl _) (by omega)) (And.intro rfl (hP σ6 h1 h3 h4 h5)))
    | succ r ih =>
      intro o σ6 ho h1 h2 h3 h4 h5
      have eO : σ6 116 7 = nI (K 0 2) := by rw [h5 7 (by omega)]; exact hR.2.2.1
      have hcl : (nI o).toNatClampNeg = o := nI_clamp (by omega)
      refine hs (fun p => Nat.beq p 62) 60 62 _ _ _ _ _ (vc_f (by rw [eO]; exact nI_ge (by omega) (by omega)) (And.intro (vin (show o < 8 by omega)) (And.intro (vin (show o < 8 by omega)) (fun σ7 e7 => ?_))))
      rw [hcl] at e7
      have e7 : σ7 = am_up σ6 151 o (σ6 147 o) := e7
      show Wb 62 [some (.ref 116), some (.int (nI j)), some (.int (nI f)), some (.int x3), some (.int (nI o + 1))] [] nf σ7 (tauY 0 lf)
      rw [← nI_succ]
      refine ih (o + 1) σ7 (by omega) (fun z hz => by rw [e7, up_rn (by omega)]; exact h1 z hz) (fun z hz => by rw [e7, up_rn (by omega)]; exact h2 z hz) (fun z hz => ?_) (fun q g1 g2 g3 g4 g5 => by rw [e7, am_up_ne g5]; exact h4 q g1 g2 g3 g4 g5) (fun i hi => by rw [e7, up_rn (by omega)]; exact h5 i hi)
      by_cases e : z = o
      · rw [e, e7, up_at]; exact h2 o (by omega)
      · rw [e7, up_ne e]; exact h3 z (by omega)
  have k7 : ∀ r o (σ6 : am_Sg), o + r = K 0 2 → (∀ z, z < o → σ6 150 z = nI (s_dy K f z)) → (∀ z, z < K 0 2 → σ6 147 z = nI (s_dy K f z)) → (∀ q, ¬ q = 116 → ¬ (135 ≤ q ∧ q ≤ 139) → ¬ q = 147 → ¬ q = 150 → ¬ q = 151 → σ6 q = σ q) → (∀ i, ¬ i = 43 → σ6 116 i = σ 116 i) → Wb 7 [some (.ref 116), some (.int (nI j)), some (.int (nI f)), some (.int (nI o)), none] [] nf σ6 (tauY 0 lf) := by
    intro r
    induction r with
    | zero =>
      intro o σ6 ho h1 h2 h3 h5
      have ho : o = K 0 2 := by omega
      subst ho
      have eO : σ6 116 7 = nI (K 0 2) := by rw [h5 7 (by omega)]; exact hR.2.2.1
      have vj := vin (q := 121) (show j < 10 by omega)
      have hR6 : RepM σ6 K := hR.fr6 (fun q g1 g2 => h3 q (by omega) (by omega) (by omega) (by omega) (by omega)) (fun i hi => h5 i (by omega))
      refine hs (fun p => Nat.beq p 62) 60 7 _ _ _ _ _ (vc_t (by rw [eO]; exact nI_le (Nat.le_refl _) (by omega)) (And.intro vj (And.intro vj (fun σ7 e7 => ?_))))
      rw [hcj] at e7
      have e7 : σ7 = am_up σ6 121 j (nI 0) := e7
      have hR7 : RepM σ7 (setK K 2 j 0) := by rw [e7]; exact hR6.set (f := 2) (by omega)
      refine ⟨rfl, hn, lf, f, setK K 2 j 0, rfl, rfl, hR7, hK.set (by omega) (Nat.zero_le _), by rw [h0]; omega, hf, fun σ8 a1 a2 a3 a4 => And.intro vj (fun σ9 e9 => ?_)⟩
      rw [hcj] at e9
      have e9 : σ9 = am_up σ8 121 j (σ6 121 j) := e9
      rw [h0] at a1
      refine k62 _ (K 0 2) 0 σ9 (by omega) (fun z hz => ?_) (fun z hz => ?_) (fun z hz => absurd hz (by omega)) (fun q g1 g2 g3 g4 g5 => ?_) (fun i hi => ?_)
      · rw [e9, up_rn (by omega), a3 150 (by omega) (by omega) (by omega), e7, up_rn (by omega)]; exact h1 z hz
      · rw [e9, up_rn (by omega)]; exact a1 z hz
      · by_cases q1 : q = 121
        · subst q1
          rw [← h3 121 (by omega) (by omega) (by omega) (by omega) (by omega)]
          funext z
          by_cases q2 : z = j
          · rw [q2, e9, up_at]
          · rw [e9, up_ne q2, a3 121 (by omega) (by omega) (by omega), e7, up_ne q2]
        · rw [e9, am_up_ne q1, a3 q g1 g2 g3, e7, am_up_ne q1]; exact h3 q g1 g2 g3 g4 g5
      · rw [e9, up_rn (by omega), a4 i hi, e7, up_rn (by omega)]; exact h5 i hi
    | succ r ih =>
      intro o σ6 ho h1 h2 h3 h5
      have eO : σ6 116 7 = nI (K 0 2) := by rw [h5 7 (by omega)]; exact hR.2.2.1
      have hcl : (nI o).toNatClampNeg = o := nI_clamp (by omega)
      refine hs (fun p => Nat.beq p 7) 60 7 _ _ _ _ _ (vc_f (by rw [eO]; exact nI_ge (by omega) (by omega)) (And.intro (vin (show o < 8 by omega)) (And.intro (vin (show o < 8 by omega)) (fun σ7 e7 => ?_))))
      rw [hcl] at e7
      have e7 : σ7 = am_up σ6 150 o (σ6 147 o) := e7
      show Wb 7 [some (.ref 116), some (.int (nI j)), some (.int (nI f)), some (.int (nI o + 1)), none] [] nf σ7 (tauY 0 lf)
      rw [← nI_succ]
      refine ih (o + 1) σ7 (by omega) (fun z hz => ?_) (fun z hz => by rw [e7, up_rn (by omega)]; exact h2 z hz) (fun q g1 g2 g3 g4 g5 => by rw [e7, am_up_ne g4]; exact h3 q g1 g2 g3 g4 g5) (fun i hi => by rw [e7, up_rn (by omega)]; exact h5 i hi)
      by_cases e : z = o
      · rw [e, e7, up_at]; exact h2 o (by omega)
      · rw [e7, up_ne e]; exact h1 z (by omega)
  refine hs (fun p => Nat.beq p 7) 60 0 _ _ _ _ _ ⟨rfl, hn, lf, f, K, rfl, rfl, hR, hK, by omega, hf, fun σ1 a1 a2 a3 a4 => ?_⟩
  exact k7 (K 0 2) 0 σ1 (by omega) (fun z hz => absurd hz (by omega)) a1 (fun q g1 g2 g3 _ _ => a3 q g1 g2 g3) a4)
def C_mgains : am_C := fun av n σ τ nf P => ∃ (j : Int32) (o : Int32) (f : Int32), pubM [.int j, .int o, .int f] (f_gains j o f) av n σ τ nf P
set_option maxRecDepth 100000 in
theorem M_mgains (d : Nat) : am_Met (d + 5) 851 C_mgains := am_meth (own0 := "CanalEndModel") 851 (d + 4) 155 T_X8_gains (fun y => bif Nat.beq y 809 then C_mMile else (bif Nat.beq y 810 then C_mOutlet else (bif Nat.beq y 823 then C_mWater else (bif Nat.beq y 850 then C_layDug else (am_no))))) C_mgains rfl F_X8_gains rfl (by decide +kernel) Tc_X8_gains (fun y => am_g (M_mMile (d + 3)) (am_g (M_mOutlet (d + 3)) (am_g (M_mWater (d + 2)) (am_g (M_layDug (d + 0)) (am_no_met))))) (by
  intro av n σ τ nf P hnf hC
  obtain ⟨j, o, f, rfl, hn, lf, ⟨K, Q, S, Ce, fl, tr⟩, rfl, hI, rfl, hP⟩ := hC
  refine ⟨hn, rfl, Nat.le_of_ble_eq_true rfl, fun Wb hs => ?_⟩
  have hI : InvM σ K Q S Ce fl tr := hI
  have hK := hI.1
  have hR := hI.2.1
  have hM10 := hK.2.1
  have hO8 := hK.2.2.1
  have eM := hR.2.1
  have eO := hR.2.2.1
  have fin : ∀ r9 : Int32, (f_gains j o f (K, Q, S, Ce, fl, tr)).2 = (K, Q, S, Ce, fl, tr) → (f_gains j o f (K, Q, S, Ce, fl, tr)).1 = .int r9 → P (some (.int r9)) σ (tauY 0 lf) := fun r9 e1 e2 => p_eqv e2 (hP σ (by rw [e1]; exact hI) (fun _ _ => rfl))
  have fin2 : ∀ (v9 : Value) (K9 Q9 S9 : KT) (Ce9 : Nat → Nat → Int32) (fl9 : Nat) (tr9 : Int32) (σ9 : am_Sg), f_gains j o f (K, Q, S, Ce, fl, tr) = (v9, (K9, Q9, S9, Ce9, fl9, tr9)) → InvM σ9 K9 Q9 S9 Ce9 fl9 tr9 → FrM σ σ9 → P (some v9) σ9 (tauY 0 lf) := fun v9 K9 Q9 S9 Ce9 fl9 tr9 σ9 e h1 h2 => by have := hP σ9 (by rw [e]; exact h1) h2; rw [e] at this; exact this
  refine hs (fun _ => false) 60 0 _ _ _ _ _ ⟨rfl, hn, 0, lf, K 0 1, j, rfl, rfl, eM, by omega, fun g => ?_, fun g => vc_t rfl (And.intro rfl (fin2 _ K Q S Ce fl tr σ (by unfold f_gains; rw [if_neg (fun q => g q.1)]) hI (fun _ _ => rfl)))⟩
  refine vc_f (by decide) ⟨rfl, hn, 0, lf, K 0 2, o, rfl, rfl, eO, by omega, fun g2 => ?_, fun g2 => vc_t rfl (And.intro rfl (fin2 _ K Q S Ce fl tr σ (by unfold f_gains; rw [if_neg (fun q => g2 q.2.1)]) hI (fun _ _ => rfl)))⟩
  refine vc_f (by decide) ⟨rfl, f, rfl, fun g3 => ?_, fun g3 => vc_t rfl (And.intro rfl (fin2 _ K Q S Ce fl tr σ (by unfold f_gains; rw [if_neg (fun q => g3 q.2.2)]) hI (fun _ _ => rfl)))⟩
  obtain ⟨a, ha, rfl⟩ := inN_ex g
  have hca : (nI a).toNatClampNeg = a := nI_clamp (by omega)
  obtain ⟨b, hb, rfl⟩ := inN_ex g2
  have hcb : (nI b).toNatClampNeg = b := nI_clamp (by omega)
  obtain ⟨u, hu, rfl⟩ := inN_ex g3
  have hcu : (nI u).toNatClampNeg = u := nI_clamp (by omega)
  refine vc_f (by decide) ⟨rfl, hn, lf, a, u, K, rfl, rfl, hR, hK, ha, by omega, fun σ2 h1 h2 h4 h5 => And.intro (vin (show b < 8 by omega)) (And.intro (vin (show b < 8 by omega)) (And.intro rfl ?_))⟩
  rw [hcb, h1 b hb, h2 b hb]
  exact fin2 _ K Q S Ce fl tr σ2 (by unfold f_gains; rw [if_pos ⟨g, g2, g3⟩, hca, hcb, hcu]) (hI.keep (fun q hq => h4 q (by omega) (by omega) (by omega) (by omega) (by omega)) (fun i hi => h5 i (by omega))) (fun q g1 => h4 q (by omega) (by omega) (by omega) (by omega) (by omega)))
