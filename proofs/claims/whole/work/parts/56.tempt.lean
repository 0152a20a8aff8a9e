theorem s_ta_le (K : KT) (kd : Nat → Nat) (nt f o : Nat) : s_ta K kd nt f o ≤ f := Nat.le_trans (s_tk_le _ _ _ _ _ _) (Nat.le_trans (s_ou_le _ _ _ _ _ _ _) (s_af_le _ _ _ _ _))
theorem s_ta_K {K K' : KT} (h : ∀ f, f ≤ 7 → K' f = K f) (kd : Nat → Nat) (nt f o : Nat) : s_ta K' kd nt f o = s_ta K kd nt f o := by
  have ea : ∀ j, s_af K' kd nt f j = s_af K kd nt f j := fun j => by unfold s_af s_sp; rw [s_in_K h, h 1 (by omega)]
  have el : ∀ j, s_le K' kd nt f j = s_le K kd nt f j := fun j => by unfold s_le s_lv; rw [ea, h 0 (by omega), h 2 (by omega)]
  unfold s_ta
  rw [h 5 (by omega), h 3 (by omega), el, ea, s_ou_K (h 0 (by omega)) (h 6 (by omega)) (h 7 (by omega))]
  unfold s_tk s_wt s_ht
  rw [h 0 (by omega), h 6 (by omega), h 7 (by omega)]
def tmp (K : KT) (o f : Nat) : Nat := if K 8 o = 0 then s_ta K (setK K 8 o 2 8) 1 f o - s_ta K (K 8) 1 f o else 0
theorem tmp_le (K : KT) (o f : Nat) : tmp K o f ≤ f := by
  have := s_ta_le K (setK K 8 o 2 8) 1 f o
  unfold tmp
  split <;> omega
theorem tm_ok {a b : Nat} (ha : a < 2 ^ 30) (hb : b < 2 ^ 30) : (if (0 : Int32) < nI a - nI b then nI a - nI b else 0) = nI (a - b) := by
  by_cases h : b < a
  · have e := pk_sub (show b ≤ a by omega)
    rw [e, if_pos (by rw [i_lt, Int32.toInt_zero, nI_toInt (by omega)]; omega)]
  · rw [if_neg (by rw [i_lt, pk_sub_toInt ha hb, Int32.toInt_zero]; omega), show a - b = 0 by omega]
    rfl
def C_tempt : am_C := fun av n σ τ nf P => nf = n ∧ 155 ≤ n ∧ ∃ (lf o f : Nat) (K : KT), τ = tauY 0 lf ∧ av = [.ref 0, .int (nI o), .int (nI f)] ∧ RepX σ 1 K ∧ WfK K ∧ RepG σ ∧ o < K 0 2 ∧ f ≤ 9999 ∧ ∀ σ', RepG σ' → (∀ q, ¬ (12 ≤ q ∧ q ≤ 22) → ¬ (24 ≤ q ∧ q ≤ 28) → σ' q = σ q) → P (some (.int (nI (tmp K o f)))) σ' τ
set_option maxRecDepth 100000 in
theorem M_tempt (d : Nat) : am_Met (d + 4) 757 C_tempt := am_meth (own0 := "CanalEnd") 757 (d + 3) 155 T_X7_temptation (fun y => bif Nat.beq y 301 then C_hrun else (bif Nat.beq y 4 then C_become else (am_no))) C_tempt rfl F_X7_temptation rfl (by decide +kernel) Tc_X7_temptation (fun y => am_g (M_hrun (d + 1)) (am_g (M_become (d + 2)) (am_no_met))) (by
  intro av n σ τ nf P hnf hC
  obtain ⟨rfl, hn, lf, o, f, K, rfl, rfl, hR, hK, hG, ho, hf, hP⟩ := hC
  refine ⟨hn, rfl, Nat.le_of_ble_eq_true rfl, fun Wb hs => ?_⟩
  have hO8 := hK.2.2.1
  have hcl : (nI o).toNatClampNeg = o := nI_clamp (by omega)
  have eK : σ 9 o = nI (K 8 o) := hR.2.2 3 (by omega) o ho
  have k8 := (hK.2.2.2.2.2.2.2.2.2 o ho).2.2.2.2.1
  refine hs (fun _ => false) 80 0 _ _ _ _ _ (And.intro (vin (show o < 8 by omega)) (vc_if (fun c0 => ?_) (fun c0 => And.intro rfl ?_)))
  · rw [hcl, eK] at c0
    have c0 := nI_inj (b := 0) (by omega) (by omega) c0
    refine ⟨rfl, hn, 0, lf, 24, 1, f, 1, K, rfl, rfl, by decide, by decide, hR, hK, hf, by omega, fun σ1 h1 _ => And.intro (vin (show o < 8 by omega)) ?_⟩
    have fr1 := h1.2.2.2.2.2
    have v1 : σ1 28 o = nI (s_ta K (K 8) 1 f o) := h1.2.2.1 o (by rw [fo_end]; exact ho)
    refine ⟨rfl, hn, 0, lf, 12, 1, K, rfl, rfl, Or.inl ⟨rfl, rfl⟩, h1.1, hK, hG.fr (fr1 11 (by omega)) (fr1 22 (by omega)), fun σ2 b1 b2 b3 => And.intro (vin (show o < 8 by omega)) (fun σ3 e3 => ?_)⟩
    rw [hcl] at e3
    have e3 : σ3 = am_up σ2 20 o (nI 2) := e3
    have hR3 : RepX σ3 12 (setK K 8 o 2) := by rw [e3]; exact b1.set (f := 8) (by omega)
    have h0 : setK K 8 o 2 0 = K 0 := setK_ne (by omega)
    refine ⟨rfl, hn, 0, lf, 24, 12, f, 1, setK K 8 o 2, rfl, rfl, by decide, by decide, hR3, hK.set (by omega) (by decide), hf, by omega, fun σ4 d1 _ => And.intro (vin (show o < 8 by omega)) (And.intro rfl ?_)⟩
    have fr4 := d1.2.2.2.2.2
    have v4 : σ4 28 o = nI (s_ta K (setK K 8 o 2 8) 1 f o) := by
      rw [← s_ta_K (K := K) (K' := setK K 8 o 2) (fun a ha => setK_ne (by omega))]
      exact d1.2.2.1 o (by rw [fo_end, h0]; exact ho)
    have l1 := s_ta_le K (K 8) 1 f o
    have l2 := s_ta_le K (setK K 8 o 2 8) 1 f o
    rw [hcl, v1, v4]
    refine p_eq (tm_ok (by omega) (by omega)) ?_
    have et : tmp K o f = s_ta K (setK K 8 o 2 8) 1 f o - s_ta K (K 8) 1 f o := if_pos c0
    rw [← et]
    refine hP σ4 (b2.fr (by rw [fr4 11 (by omega), e3, am_up_ne (by omega)]) (by rw [fr4 22 (by omega), e3, am_up_ne (by omega)])) (fun q g1 g2 => ?_)
    rw [fr4 q (by omega), e3, am_up_ne (by omega), b3 q (by omega), fr1 q (by omega)]
  · rw [hcl, eK] at c0
    have c0 : ¬ K 8 o = 0 := fun q => c0 (by rw [q]; rfl)
    have et : tmp K o f = 0 := if_neg c0
    rw [et] at hP
    exact hP σ hG (fun _ _ _ => rfl))
def C_mtempt : am_C := fun av n σ τ nf P => nf = n ∧ 155 ≤ n ∧ ∃ (lf o f : Nat) (K : KT), τ = tauY 0 lf ∧ av = [.ref 116, .int (nI o), .int (nI f)] ∧ RepM σ K ∧ WfK K ∧ o < K 0 2 ∧ f ≤ 9999 ∧ ∀ σ', (∀ q, ¬ (135 ≤ q ∧ q ≤ 139) → σ' q = σ q) → P (some (.int (nI (tmp K o f)))) σ' τ
set_option maxRecDepth 100000 in
theorem M_mtempt (d : Nat) : am_Met (d + 4) 859 C_mtempt := am_meth (own0 := "CanalEndModel") 859 (d + 3) 155 T_X8_tempted (fun y => bif Nat.beq y 824 then C_layKinds else (bif Nat.beq y 825 then C_mhour else (am_no))) C_mtempt rfl F_X8_tempted rfl (by decide +kernel) Tc_X8_tempted (fun y => am_g (M_layKinds (d + 2)) (am_g (M_mhour (d + 2)) (am_no_met))) (by
  intro av n σ τ nf P hnf hC
  obtain ⟨rfl, hn, lf, o, f, K, rfl, rfl, hR, hK, ho, hf, hP⟩ := hC
  refine ⟨hn, rfl, Nat.le_of_ble_eq_true rfl, fun Wb hs => ?_⟩
  have hO8 := hK.2.2.1
  have hcl : (nI o).toNatClampNeg = o := nI_clamp (by omega)
  have eK : σ 126 o = nI (K 8 o) := hR.2.2.2.2.2.2 3 (by omega) o ho
  have k8 := (hK.2.2.2.2.2.2.2.2.2 o ho).2.2.2.2.1
  refine hs (fun _ => false) 80 0 _ _ _ _ _ (And.intro (vin (show o < 8 by omega)) (vc_if (fun c0 => ?_) (fun c0 => And.intro rfl ?_)))
  · rw [hcl, eK] at c0
    have c0 := nI_inj (b := 0) (by omega) (by omega) c0
    refine ⟨rfl, hn, lf, K, rfl, rfl, hR, hK, fun σ1 k1 fr1 => ?_⟩
    have hR1 : RepM σ1 K := hR.frame (fun q g1 g2 => fr1 q (by omega))
    refine ⟨rfl, hn, 0, lf, f, 1, K 8, K, rfl, rfl, hR1, hK, k1, hf, by omega, fun σ2 h2 => And.intro (vin (show o < 8 by omega)) (And.intro (vin (show o < 8 by omega)) (fun σ3 e3 => ?_))⟩
    rw [hcl] at e3
    have e3 : σ3 = am_up σ2 135 o (nI 2) := e3
    have fr2 := h2.2.2
    have v2 : σ2 139 o = nI (s_ta K (K 8) 1 f o) := h2.2.1 o (by rw [fo_end]; exact ho)
    have k3 : Knd σ3 K (setK K 8 o 2 8) := by
      intro z hz
      by_cases e : z = o
      · rw [e, e3, up_at, setK_at]
        exact ⟨rfl, Nat.le_refl 2⟩
      · rw [e3, up_ne e, setK_o e, fr2 135 (by omega)]
        exact k1 z hz
    refine ⟨rfl, hn, 0, lf, f, 1, setK K 8 o 2 8, K, rfl, rfl, hR1.frame (fun q g1 g2 => by rw [e3, am_up_ne (by omega), fr2 q (by omega)]), hK, k3, hf, by omega, fun σ4 h4 => And.intro (vin (show o < 8 by omega)) ?_⟩
    have fr4 := h4.2.2
    have v4 : σ4 139 o = nI (s_ta K (setK K 8 o 2 8) 1 f o) := h4.2.1 o (by rw [fo_end]; exact ho)
    have l1 := s_ta_le K (K 8) 1 f o
    have l2 := s_ta_le K (setK K 8 o 2 8) 1 f o
    have et : tmp K o f = s_ta K (setK K 8 o 2 8) 1 f o - s_ta K (K 8) 1 f o := if_pos c0
    have frr : ∀ q, ¬ (135 ≤ q ∧ q ≤ 139) → σ4 q = σ q := fun q g => by rw [fr4 q (by omega), e3, am_up_ne (by omega), fr2 q (by omega), fr1 q (by omega)]
    rw [hcl, v2, v4]
    refine vc_if (fun c => And.intro rfl ?_) (fun c => And.intro (vin (show o < 8 by omega)) (And.intro rfl ?_))
    · have c := (nI_leI (by omega) (by omega)).mp c
      have h := hP σ4 frr
      rw [et, Nat.sub_eq_zero_of_le c] at h
      exact h
    · have c : ¬ s_ta K (setK K 8 o 2 8) 1 f o ≤ s_ta K (K 8) 1 f o := fun q => c (nI_le q (by omega))
      have h := hP σ4 frr
      rw [et, ← pk_sub (by omega)] at h
      rw [hcl, v4]
      exact h
  · rw [hcl, eK] at c0
    have c0 : ¬ K 8 o = 0 := fun q => c0 (by rw [q]; rfl)
    have et : tmp K o f = 0 := if_neg c0
    rw [et] at hP
    exact hP σ (fun _ _ => rfl))
def f_tempts (o f : Int32) (s : ST) : Value × ST := (.int (if inN o (s.1 0 2) then (if inN f 10000 then nI (tmp s.1 o.toNatClampNeg f.toNatClampNeg) else -2) else -1), s)
def C_xtempts : am_C := fun av n σ τ nf P => ∃ (o : Int32) (f : Int32), pubX [.int o, .int f] (f_tempts o f) av n σ τ nf P
set_option maxRecDepth 100000 in
theorem M_xtempts (d : Nat) : am_Met (d + 5) 727 C_xtempts := am_meth (own0 := "CanalEnd") 727 (d + 4) 155 T_X7_tempts (fun y => bif Nat.beq y 747 then C_isOutlet else (bif Nat.beq y 741 then C_isWater else (bif Nat.beq y 757 then C_tempt else (am_no)))) C_xtempts rfl F_X7_tempts rfl (by decide +kernel) Tc_X7_tempts (fun y => am_g (M_isOutlet (d + 2)) (am_g (M_isWater (d + 2)) (am_g (M_tempt (d + 0)) (am_no_met)))) (by
  intro av n σ τ nf P hnf hC
  obtain ⟨o, f, rfl, lf, ⟨K, Q, S, Ce, fl, tr⟩, rfl, hI, rfl, hP⟩ := hC
  have hn := Nlf_le hI.2.2.2.2.2.2.2.2.2
  refine ⟨hn, rfl, Nat.le_of_ble_eq_true rfl, fun Wb hs => ?_⟩
  have hI : InvX σ nf lf K Q S Ce fl tr := hI
  have hK := hI.1
  have hR := hI.2.1
  have hM10 := hK.2.1
  have hO8 := hK.2.2.1
  have eM : σ 1 1 = nI (K 0 1) := hR.1 1 (by omega)
  have eO : σ 1 2 = nI (K 0 2) := hR.1 2 (by omega)
  have fin : ∀ r9 : Int32, (f_tempts o f (K, Q, S, Ce, fl, tr)).2 = (K, Q, S, Ce, fl, tr) → (f_tempts o f (K, Q, S, Ce, fl, tr)).1 = .int r9 → P (some (.int r9)) σ (tauY 0 lf) := fun r9 e1 e2 => p_eqv e2 (hP σ (by rw [e1]; exact hI) (fun _ _ => fun _ => rfl))
  have fin2 : ∀ (v9 : Value) (K9 Q9 S9 : KT) (Ce9 : Nat → Nat → Int32) (fl9 : Nat) (tr9 : Int32) (σ9 : am_Sg), f_tempts o f (K, Q, S, Ce, fl, tr) = (v9, (K9, Q9, S9, Ce9, fl9, tr9)) → InvX σ9 nf lf K9 Q9 S9 Ce9 fl9 tr9 → FrX σ σ9 → P (some v9) σ9 (tauY 0 lf) := fun v9 K9 Q9 S9 Ce9 fl9 tr9 σ9 e h1 h2 => by have := hP σ9 (by rw [e]; exact h1) h2; rw [e] at this; exact this
  refine hs (fun _ => false) 60 0 _ _ _ _ _ ⟨rfl, hn, 0, lf, K 0 2, o, rfl, rfl, eO, by omega, fun g => ?_, fun g => vc_t rfl (And.intro rfl (fin _ rfl (congrArg Value.int (by rw [if_neg g]))))⟩
  refine vc_f (by decide) ⟨rfl, f, rfl, fun g2 => vc_f (by decide) ?_, fun g2 => vc_t rfl (And.intro rfl (fin _ rfl (congrArg Value.int (by rw [if_pos g, if_neg g2]))))⟩
  obtain ⟨a, ha, rfl⟩ := inN_ex g
  have hca : (nI a).toNatClampNeg = a := nI_clamp (by omega)
  obtain ⟨u, hu, rfl⟩ := inN_ex g2
  have hcu : (nI u).toNatClampNeg = u := nI_clamp (by omega)
  refine ⟨rfl, hn, lf, a, u, K, rfl, rfl, hR, hK, hI.2.2.2.2.2.2.2.2.1, ha, by omega, fun σ2 h3 h4 => And.intro rfl ?_⟩
  exact fin2 _ K Q S Ce fl tr σ2 (by unfold f_tempts; rw [if_pos g, if_pos g2, hca, hcu]) (hI.keep (fun q hq => h4 q (by unfold Pq at hq; omega) (by unfold Pq at hq; omega)) h3) (fun q g1 g2 => h4 q (by omega) (by omega)))
def C_mtempts : am_C := fun av n σ τ nf P => ∃ (o : Int32) (f : Int32), pubM [.int o, .int f] (f_tempts o f) av n σ τ nf P
set_option maxRecDepth 100000 in
theorem M_mtempts (d : Nat) : am_Met (d + 5) 860 C_mtempts := am_meth (own0 := "CanalEndModel") 860 (d + 4) 155 T_X8_tempts (fun y => bif Nat.beq y 810 then C_mOutlet else (bif Nat.beq y 823 then C_mWater else (bif Nat.beq y 859 then C_mtempt else (am_no)))) C_mtempts rfl F_X8_tempts rfl (by decide +kernel) Tc_X8_tempts (fun y => am_g (M_mOutlet (d + 3)) (am_g (M_mWater (d + 2)) (am_g (M_mtempt (d + 0)) (am_no_met)))) (by
  intro av n σ τ nf P hnf hC
  obtain ⟨o, f, rfl, hn, lf, ⟨K, Q, S, Ce, fl, tr⟩, rfl, hI, rfl, hP⟩ := hC
  refine ⟨hn, rfl, Nat.le_of_ble_eq_true rfl, fun Wb hs => ?_⟩
  have hI : InvM σ K Q S Ce fl tr := hI
  have hK := hI.1
  have hR := hI.2.1
  have hM10 := hK.2.1
  have hO8 := hK.2.2.1
  have eM := hR.2.1
  have eO := hR.2.2.1
  have fin : ∀ r9 : Int32, (f_tempts o f (K, Q, S, Ce, fl, tr)).2 = (K, Q, S, Ce, fl, tr) → (f_tempts o f (K, Q, S, Ce, fl, tr)).1 = .int r9 → P (some (.int r9)) σ (tauY 0 lf) := fun r9 e1 e2 => p_eqv e2 (hP σ (by rw [e1]; exact hI) (fun _ _ => rfl))
  have fin2 : ∀ (v9 : Value) (K9 Q9 S9 : KT) (Ce9 : Nat → Nat → Int32) (fl9 : Nat) (tr9 : Int32) (σ9 : am_Sg), f_tempts o f (K, Q, S, Ce, fl, tr) = (v9, (K9, Q9, S9, Ce9, fl9, tr9)) → InvM σ9 K9 Q9 S9 Ce9 fl9 tr9 → FrM σ σ9 → P (some v9) σ9 (tauY 0 lf) := fun v9 K9 Q9 S9 Ce9 fl9 tr9 σ9 e h1 h2 => by have := hP σ9 (by rw [e]; exact h1) h2; rw [e] at this; exact this
  refine hs (fun _ => false) 60 0 _ _ _ _ _ ⟨rfl, hn, 0, lf, K 0 2, o, rfl, rfl, eO, by omega, fun g => ?_, fun g => vc_t rfl (And.intro rfl (fin _ rfl (congrArg Value.int (by rw [if_neg g]))))⟩
  refine vc_f (by decide) ⟨rfl, f, rfl, fun g2 => vc_f (by decide) ?_, fun g2 => vc_t rfl (And.intro rfl (fin _ rfl (congrArg Value.int (by rw [if_pos g, if_neg g2]))))⟩
  obtain ⟨a, ha, rfl⟩ := inN_ex g
  have hca : (nI a).toNatClampNeg = a := nI_clamp (by omega)
  obtain ⟨u, hu, rfl⟩ := inN_ex g2
  have hcu : (nI u).toNatClampNeg = u := nI_clamp (by omega)
  refine ⟨rfl, hn, lf, a, u, K, rfl, rfl, hR, hK, ha, by omega, fun σ2 h4 => And.intro rfl ?_⟩
  exact fin2 _ K Q S Ce fl tr σ2 (by unfold f_tempts; rw [if_pos g, if_pos g2, hca, hcu]) (hI.keep (fun q hq => h4 q (by omega)) (fun i hi => by rw [h4 116 (by omega)])) (fun q g1 => h4 q (by omega)))
def od (t w : Nat) : Nat := (1000000 * t + (t + w) - 1) / (t + w)
theorem od_le {t w : Nat} (hw : 1 ≤ w) : od t w ≤ 1000000 := by
  unfold od
  refine Nat.le_of_lt_succ ((Nat.div_lt_iff_lt_mul (by omega)).mpr ?_)
  show _ < 1000001 * (t + w)
  omega
theorem od_num {t w : Nat} (ht : t ≤ 9999) (hw : 1 ≤ w) (hw9 : w ≤ 99) : (lN (1000000 * t) + lN (t + w) - lN 1) / lN (t + w) = lN (od t w) := by
  rw [lN_add, lN_sub (by omega), pk_lDiv (by omega) (by omega) (by omega)]
  rfl
theorem od_x {t w : Nat} (ht : t ≤ 9999) (hw : 1 ≤ w) (hw9 : w ≤ 99) : (((nI t).toInt64 * 1000000 + ((nI t).toInt64 + (nI w).toInt64) - 1) / ((nI t).toInt64 + (nI w).toInt64)).toInt32 = nI (od t w) := by
  rw [nI_l (by omega), nI_l (by omega), show (1000000 : Int64) = lN 1000000 from rfl, lN_mul, lN_add, Nat.mul_comm t, show (1 : Int64) = lN 1 from rfl, od_num ht hw hw9, lN_i]
theorem od_m {t w : Nat} (ht : t ≤ 9999) (hw : 1 ≤ w) (hw9 : w ≤ 99) : ((1000000 * (nI t).toInt64 + ((nI t).toInt64 + (nI w).toInt64) - 1) / ((nI t).toInt64 + (nI w).toInt64)).toInt32 = nI (od t w) := by
  rw [nI_l (by omega), nI_l (by omega), show (1000000 : Int64) = lN 1000000 from rfl, lN_mul, lN_add, show (1 : Int64) = lN 1 from rfl, od_num ht hw hw9, lN_i]
theorem od_nz {t w : Nat} (ht : t ≤ 9999) (hw : 1 ≤ w) (hw9 : w ≤ 99) : ¬ (nI t).toInt64 + (nI w).toInt64 = 0 := by
  rw [nI_l (by omega), nI_l (by omega), lN_add, show (0 : Int64) = lN 0 from rfl, lN_eq (by omega) (by omega)]
  omega
def C_oddsOf : am_C := fun av n σ τ nf P => nf = n ∧ ∃ t w : Nat, av = [.int (nI t), .int (nI w)] ∧ t ≤ 9999 ∧ 1 ≤ w ∧ w ≤ 99 ∧ P (some (.int (nI (od t w)))) σ τ
set_option maxRecDepth 100000 in
theorem M_oddsOf (d : Nat) : am_Met (d + 1) 758 C_oddsOf := am_meth (own0 := "CanalEnd") 758 (d + 0) 0 T_X7_oddsOf (fun y => am_no) C_oddsOf rfl F_X7_oddsOf rfl (by decide +kernel) Tc_X7_oddsOf (fun y => am_no_met) (by
  intro av n σ τ nf P hnf hC
  obtain ⟨rfl, t, w, rfl, ht, hw, hw9, hP⟩ := hC
  refine ⟨Nat.zero_le _, rfl, Nat.le_of_ble_eq_true rfl, fun Wb hs => ?_⟩
  refine hs (fun _ => false) 60 0 _ _ _ _ _ (vc_t ?_ (And.intro (od_nz ht hw hw9) (And.intro rfl (p_eq (od_x ht hw hw9) hP))))
  rw [lg_cmp_ge, nI_l (by omega), nI_l (by omega), lN_add, show (1 : Int64) = lN 1 from rfl, lN_le (by omega) (by omega)]
  omega)
def lso (W : Nat → Nat) (s : Nat) : Nat → Option Nat
  | 0 => none
  | o + 1 => if hb s o = 0 then (match lso W s o with
    | none => some o
    | some t => if W t ≤ W o then some t else some o) else lso W s o
theorem lso_n {W : Nat → Nat} {s o : Nat} (h : ¬ hb s o = 0) : lso W s (o + 1) = lso W s o := if_neg h
theorem lso_0 {W : Nat → Nat} {s o : Nat} (h : hb s o = 0) (e : lso W s o = none) : lso W s (o + 1) = some o := by
  show (if hb s o = 0 then _ else _) = _
  rw [if_pos h, e]
theorem lso_1 {W : Nat → Nat} {s o t : Nat} (h : hb s o = 0) (e : lso W s o = some t) (g : W t ≤ W o) : lso W s (o + 1) = some t := by
  show (if hb s o = 0 then _ else _) = _
  rw [if_pos h, e]
  exact if_pos g
theorem lso_2 {W : Nat → Nat} {s o t : Nat} (h : hb s o = 0) (e : lso W s o = some t) (g : ¬ W t ≤ W o) : lso W s (o + 1) = some o := by
  show (if hb s o = 0 then _ else _) = _
  rw [if_pos h, e]
  exact if_neg g
theorem lso_lt {W : Nat → Nat} {s : Nat} : ∀ o t, lso W s o = some t → t < o ∧ hb s t = 0
  | 0, t, h => by cases h
  | o + 1, t, h => by
    by_cases g : hb s o = 0
    · cases e : lso W s o with
      | none =>
        rw [lso_0 g e] at h
        have h := Option.some.inj h
        subst h
        exact ⟨by omega, g⟩
      | some z =>
        have i := lso_lt o z e
        by_cases q : W z ≤ W o
        · rw [lso_1 g e q] at h
          have h := Option.some.inj h
          subst h
          exact ⟨by omega, i.2⟩
        · rw [lso_2 g e q] at h
          have h := Option.some.inj h
          subst h
          exact ⟨by omega, g⟩
    · rw [lso_n g] at h
      have := lso_lt o t h
      exact ⟨by omega, this.2⟩
theorem lso_some {W : Nat → Nat} {s : Nat} : ∀ o, lso W s o = none → ∀ k, k < o → ¬ hb s k = 0
  | 0, _, k, hk => by omega
  | o + 1, h, k, hk => by
    by_cases g : hb s o = 0
    · exfalso
      cases e : lso W s o with
      | none => rw [lso_0 g e] at h; cases h
      | some z =>
        by_cases q : W z ≤ W o
        · rw [lso_1 g e q] at h; cases h
        · rw [lso_2 g e q] at h; cases h
    · rw [lso_n g] at h
      by_cases e : k = o
      · rw [e]; exact g
      · exact lso_some o h k (by omega)
theorem hb_free : ∀ s, s < 256 → ∀ O, O < 9 → bcn s < O → ∃ k, k < O ∧ hb s k = 0 := by
  intro s hs O hO h
  have key : ∀ s, s < 256 → ∀ O, O < 9 → bcn s < O → ((List.range O).any fun k => hb s k == 0) = true := by decide +kernel
  have := key s hs O hO h
  rw [List.any_eq_true] at this
  obtain ⟨k, hk, e⟩ := this
  exact ⟨k, List.mem_range.mp hk, eq_of_beq e⟩
theorem hb_add : ∀ s, s < 256 → ∀ k, k < 8 → hb s k = 0 → bcn (s + 2 ^ k) = bcn s + 1 ∧ s + 2 ^ k < 256 ∧ (nI s ||| ((1 : Int32) <<< (nI k &&& 31))) = nI (s + 2 ^ k) := by decide +kernel
theorem hb_iff0 {s k : Nat} (h1 : s < 256) (h2 : k < 8) : ((nI s >>> (nI k &&& 31)) &&& 1) = 0 ↔ hb s k = 0 := by
  rw [hb_ok s h1 k h2]
  exact nI_eq (b := 0) (by unfold hb; omega) (by omega)
theorem lso_ok {W : Nat → Nat} {s O : Nat} (hs : s < 256) (hO : O < 9) (h : bcn s < O) : ∃ t, lso W s O = some t ∧ t < O ∧ hb s t = 0 := by
  cases e : lso W s O with
  | none =>
    exfalso
    obtain ⟨k, hk, g⟩ := hb_free s hs O hO h
    exact lso_some O e k hk g
  | some t => exact ⟨t, rfl, lso_lt O t e⟩
def kpt (W : Nat → Nat) (G O : Nat) : Nat → Nat → Nat → Nat
  | 0, s, _ => s
  | r + 1, s, a => match lso W s O with
    | none => s
    | some t => if a + W t ≤ G then kpt W G O r (s + 2 ^ t) (a + W t) else s
theorem kpt_y {W : Nat → Nat} {G O r s a t : Nat} (e : lso W s O = some t) (h : a + W t ≤ G) : kpt W G O (r + 1) s a = kpt W G O r (s + 2 ^ t) (a + W t) := by
  show (match lso W s O with
    | none => s
    | some t => if a + W t ≤ G then kpt W G O r (s + 2 ^ t) (a + W t) else s) = _
  rw [e]
  exact if_pos h
theorem kpt_n {W : Nat → Nat} {G O r s a t : Nat} (e : lso W s O = some t) (h : ¬ a + W t ≤ G) : kpt W G O (r + 1) s a = s := by
  show (match lso W s O with
    | none => s
    | some t => if a + W t ≤ G then kpt W G O r (s + 2 ^ t) (a + W t) else s) = _
  rw [e]
  exact if_neg h
def C_leastO : am_C := fun av n σ τ nf P => nf = n ∧ 155 ≤ n ∧ ∃ (lf s O : Nat) (W : Nat → Nat), τ = tauY 0 lf ∧ av = [.ref 0, .int (nI s)] ∧ s < 256 ∧ O ≤ 8 ∧ σ 1 2 = nI O ∧ (∀ o, o < O → σ 107 o = nI (W o) ∧ W o ≤ 1000000) ∧ P (some (.int (opv (lso W s O)))) σ τ
set_option maxRecDepth 100000 in
theorem M_leastO (d : Nat) : am_Met (d + 1) 759 C_leastO := am_meth (own0 := "CanalEnd") 759 (d + 0) 155 T_X7_leastOdds (fun y => am_no) C_leastO rfl F_X7_leastOdds rfl (by decide +kernel) Tc_X7_leastOdds (fun y => am_no_met) (by
  intro av n σ τ nf P hnf hC
  obtain ⟨rfl, hn, lf, s, O, W, rfl, rfl, hs8, hO8, eO, hW, hP⟩ := hC
  refine ⟨hn, rfl, Nat.le_of_ble_eq_true rfl, fun Wb hs => ?_⟩
  have k5 : ∀ r o (x4 : Option Value), o + r = O → Wb 5 [some (.ref 0), some (.int (nI s)), some (.int (opv (lso W s o))), some (.int (nI o)), x4] [] nf σ (tauY 0 lf) := by
    intro r
    induction r with
    | zero =>
      intro o x4 ho
      have ho : o = O := by omega
      subst ho
      exact hs (fun p => Nat.beq p 5) 60 5 _ _ _ _ _ (vc_t (by rw [eO]; exact nI_le (Nat.le_refl _) (by omega)) (And.intro rfl hP))
    | succ r ih =>
      intro o x4 ho
      have h9 := fun x => ih (o + 1) x (by omega)
      rw [nI_succ] at h9
      have hco : (nI o).toNatClampNeg = o := nI_clamp (by omega)
      refine hs (fun p => Nat.beq p 5) 60 5 _ _ _ _ _ (vc_f (by rw [eO]; exact nI_ge (by omega) (by omega)) (vc_if (fun g => vc_f (by decide) ?_) (fun g => vc_t rfl ?_)))
      · have g := (hb_iff0 hs8 (by omega)).mp g
        cases e : lso W s o with
        | none =>
          rw [lso_0 g e] at h9
          exact vc_t rfl (h9 _)
        | some t =>
          have ht := lso_lt o t e
          have hct : (nI t).toNatClampNeg = t := nI_clamp (by omega)
          refine vc_f (nI_n9 t (by omega)) (And.intro (vin (show o < 8 by omega)) (And.intro (vin (show t < 8 by omega)) (vc_if (fun q => ?_) (fun q => ?_))))
          · have q : σ 107 (nI t).toNatClampNeg ≤ σ 107 (nI o).toNatClampNeg := q
            rw [hco, hct, (hW o (by omega)).1, (hW t (by omega)).1] at q
            have q := (nI_leI (by have := (hW t (by omega)).2; omega) (by have := (hW o (by omega)).2; omega)).mp q
            rw [lso_1 g e q] at h9
            exact h9 _
          · have q : ¬ σ 107 (nI t).toNatClampNeg ≤ σ 107 (nI o).toNatClampNeg := q
            rw [hco, hct, (hW o (by omega)).1, (hW t (by omega)).1] at q
            rw [lso_2 g e (fun w => q (nI_le w (by have := (hW o (by omega)).2; omega)))] at h9
            exact h9 _
      · have g : ¬ hb s o = 0 := fun q => g ((hb_iff0 hs8 (by omega)).mpr q)
        rw [lso_n g] at h9
        exact h9 _
  exact hs (fun p => Nat.beq p 5) 60 0 _ _ _ _ _ (k5 O 0 none (by omega)))
