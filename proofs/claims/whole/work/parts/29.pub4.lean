def C_xturn : am_C := fun av n σ τ nf P => ∃ (j : Int32) (what : Int32) (v : Int32), pubX [.int j, .int what, .int v] (f_turn j what v) av n σ τ nf P
set_option maxRecDepth 100000 in
theorem M_xturn (d : Nat) : am_Met (d + 3) 703 C_xturn := am_meth (own0 := "CanalEnd") 703 (d + 2) 155 T_X7_turn (fun y => bif Nat.beq y 746 then C_isMile else (bif Nat.beq y 740 then C_isIn else (am_no))) C_xturn rfl F_X7_turn rfl (by decide +kernel) Tc_X7_turn (fun y => am_g (M_isMile (d + 0)) (am_g (M_isIn (d + 1)) (am_no_met))) (by
  intro av n σ τ nf P hnf hC
  obtain ⟨j, what, v, rfl, lf, ⟨K, Q, S, Ce, fl, tr⟩, rfl, hI, rfl, hP⟩ := hC
  have hn := Nlf_le hI.2.2.2.2.2.2.2.2.2
  refine ⟨hn, rfl, Nat.le_of_ble_eq_true rfl, fun Wb hs => ?_⟩
  have hI : InvX σ nf lf K Q S Ce fl tr := hI
  have hK := hI.1
  have hR := hI.2.1
  have hM10 := hK.2.1
  have hO8 := hK.2.2.1
  have eM : σ 1 1 = nI (K 0 1) := hR.1 1 (by omega)
  have eO : σ 1 2 = nI (K 0 2) := hR.1 2 (by omega)
  have fin : ∀ r9 : Int32, (f_turn j what v (K, Q, S, Ce, fl, tr)).2 = (K, Q, S, Ce, fl, tr) → (f_turn j what v (K, Q, S, Ce, fl, tr)).1 = .int r9 → P (some (.int r9)) σ (tauY 0 lf) := fun r9 e1 e2 => p_eqv e2 (hP σ (by rw [e1]; exact hI) (fun _ _ => fun _ => rfl))
  have fin2 : ∀ (v9 : Value) (K9 Q9 S9 : KT) (Ce9 : Nat → Nat → Int32) (fl9 : Nat) (tr9 : Int32) (σ9 : am_Sg), f_turn j what v (K, Q, S, Ce, fl, tr) = (v9, (K9, Q9, S9, Ce9, fl9, tr9)) → InvX σ9 nf lf K9 Q9 S9 Ce9 fl9 tr9 → FrX σ σ9 → P (some v9) σ9 (tauY 0 lf) := fun v9 K9 Q9 S9 Ce9 fl9 tr9 σ9 e h1 h2 => by have := hP σ9 (by rw [e]; exact h1) h2; rw [e] at this; exact this
  have t55 : ∀ (q w i : Nat) (x5 : Option Value), (q = 0 ∨ q = 1) → w ≤ 9 → i < K 0 1 → (f_turn (nI i) (nI q) (nI w) (K, Q, S, Ce, fl, tr) = (.int (nI (K (1 + q) i)), (setK K (1 + q) i w, Q, S, Ce, fl, tr)) → ∀ σ3, InvX σ3 nf lf (setK K (1 + q) i w) Q S Ce fl tr → FrX σ σ3 → P (some (.int (nI (K (1 + q) i)))) σ3 (tauY 0 lf)) → inN (nI i) (K 0 1) → Wb 55 [some (.ref 0), some (.int (nI i)), some (.int (nI q)), some (.int (nI w)), some (.ref (2 + q)), x5] [] nf σ (tauY 0 lf) := by
    intro q w i x5 hq hw hi hPf g
    have hc : (nI i).toNatClampNeg = i := nI_clamp (by omega)
    have e1 : σ (2 + q) i = nI (K (1 + q) i) := by
      rcases hq with rfl | rfl
      · exact hR.2.1 0 (by omega) i hi
      · exact hR.2.1 1 (by omega) i hi
    have ef : f_turn (nI i) (nI q) (nI w) (K, Q, S, Ce, fl, tr) = (.int (nI (K (1 + q) i)), (setK K (1 + q) i w, Q, S, Ce, fl, tr)) := by
      unfold f_turn
      rw [if_pos g, if_pos ⟨inN_nI (by omega) (by omega), inN_nI (by omega) (by omega)⟩, hc, nI_clamp (n := q) (by omega), nI_clamp (n := w) (by omega)]
    have done : ∀ σ2 σ3 : am_Sg, σ2 = am_up σ (2 + q) i (nI w) → σ3 = am_up σ2 43 2 0 → P (some (.int (nI (K (1 + q) i)))) σ3 (tauY 0 lf) := by
      intro σ2 σ3 e2 e3
      have fr : ∀ z, ¬ z = 2 + q → ¬ z = 43 → σ3 z = σ z := fun z g1 g2 => by rw [e3, am_up_ne g2, e2, am_up_ne g1]
      have f43 : ∀ z, ¬ z = 2 → σ3 43 z = σ 43 z := fun z g => by rw [e3, up_ne g, e2, up_rn (by omega)]
      refine hPf ef σ3 ?_ (fun z g1 g2 => fr z (by omega) (by omega))
      refine hI.anew (hK.set (by omega) (by unfold bdK; rw [if_neg (by omega), if_neg (by omega), if_neg (by omega)]; exact hw)) ?_ ?_ ?_ (by rw [e3]; exact up_at) (fun z hz => fr z (by omega) (by omega)) (fun z hz => by rw [fr 11 (by omega) (by omega)]; exact (hI.2.2.2.2.2.2.2.2.1 z hz).1)
      · have h9 := RepX.set (f := 1 + q) (i := i) (v := w) hR (by omega)
        rw [show 1 + (1 + q) = 2 + q by omega, ← e2] at h9
        exact h9.frame (fun z g1 g2 => by rw [e3]; exact am_up_ne (by omega))
      · have h9 := hI.2.2.1
        unfold WfQ at h9 ⊢
        rw [show setK K (1 + q) i w 0 = K 0 from setK_ne (by omega)]
        exact h9
      · have h9 := hI.2.2.2.1
        unfold RepQ at h9 ⊢
        rw [f43 0 (by omega), fr 54 (by omega) (by omega), fr 55 (by omega) (by omega), fr 56 (by omega) (by omega), fr 57 (by omega) (by omega)]
        exact h9
    rcases hq with rfl | rfl
    all_goals
      refine hs (fun _ => false) 30 55 _ _ _ _ _ (And.intro (vin (show i < 10 by omega)) (And.intro (vin (show i < 10 by omega)) (fun σ2 e2 => And.intro (Or.inl rfl) (fun σ3 e3 => And.intro rfl ?_))))
      rw [hc] at e2
      rw [hc, e1]
      exact done σ2 σ3 e2 e3
  refine hs (fun p => Nat.beq p 55) 60 0 _ _ _ _ _ ?_
  refine ⟨rfl, hn, 0, lf, K 0 1, j, rfl, rfl, eM, by omega, fun g => ?_, fun g => vc_t rfl (And.intro rfl (fin _ (by unfold f_turn; rw [if_neg g]) (by unfold f_turn; rw [if_neg g])))⟩
  refine vc_f (by decide) ⟨rfl, what, 0, 1, rfl, fun g2 => ?_, fun g2 => ?_⟩
  · have g2 := (in_iff (N := 2) rfl).mp g2
    refine vc_f (by decide) ⟨rfl, v, 0, 9, rfl, fun g3 => ?_, fun g3 => ?_⟩
    · have g3 := (in_iff (N := 10) rfl).mp g3
      obtain ⟨i, hi, rfl⟩ := inN_ex g
      obtain ⟨q, hq, rfl⟩ := inN_ex g2
      obtain ⟨w, hw, rfl⟩ := inN_ex g3
      refine vc_f (by decide) (vc_if (fun c => ?_) (fun c => ?_))
      · have c := nI_inj (b := 0) (by omega) (by omega) c
        subst c
        exact t55 0 w i none (Or.inl rfl) (by omega) hi (fun ef σ3 h1 h2 => fin2 _ _ _ _ _ _ _ σ3 ef h1 h2) g
      · have c : q = 1 := by
          have : ¬ q = 0 := fun z => c (by rw [z]; rfl)
          omega
        subst c
        exact t55 1 w i none (Or.inr rfl) (by omega) hi (fun ef σ3 h1 h2 => fin2 _ _ _ _ _ _ _ σ3 ef h1 h2) g
    · have g3 : ¬ inN v 10 := fun q => g3 ((in_iff rfl).mpr q)
      exact vc_t rfl (And.intro rfl (fin _ (by unfold f_turn; rw [if_pos g, if_neg (fun q => g3 q.2)]) (by unfold f_turn; rw [if_pos g, if_neg (fun q => g3 q.2)])))
  · have g2 : ¬ inN what 2 := fun q => g2 ((in_iff rfl).mpr q)
    exact vc_t rfl (And.intro rfl (fin _ (by unfold f_turn; rw [if_pos g, if_neg (fun q => g2 q.1)]) (by unfold f_turn; rw [if_pos g, if_neg (fun q => g2 q.1)]))))
def C_mturn : am_C := fun av n σ τ nf P => ∃ (j : Int32) (what : Int32) (v : Int32), pubM [.int j, .int what, .int v] (f_turn j what v) av n σ τ nf P
set_option maxRecDepth 100000 in
theorem M_mturn (d : Nat) : am_Met (d + 3) 817 C_mturn := am_meth (own0 := "CanalEndModel") 817 (d + 2) 155 T_X8_turn (fun y => bif Nat.beq y 809 then C_mMile else (bif Nat.beq y 803 then C_within else (am_no))) C_mturn rfl F_X8_turn rfl (by decide +kernel) Tc_X8_turn (fun y => am_g (M_mMile (d + 1)) (am_g (M_within (d + 1)) (am_no_met))) (by
  intro av n σ τ nf P hnf hC
  obtain ⟨j, what, v, rfl, hn, lf, ⟨K, Q, S, Ce, fl, tr⟩, rfl, hI, rfl, hP⟩ := hC
  refine ⟨hn, rfl, Nat.le_of_ble_eq_true rfl, fun Wb hs => ?_⟩
  have hI : InvM σ K Q S Ce fl tr := hI
  have hK := hI.1
  have hR := hI.2.1
  have hM10 := hK.2.1
  have hO8 := hK.2.2.1
  have eM := hR.2.1
  have eO := hR.2.2.1
  have fin : ∀ r9 : Int32, (f_turn j what v (K, Q, S, Ce, fl, tr)).2 = (K, Q, S, Ce, fl, tr) → (f_turn j what v (K, Q, S, Ce, fl, tr)).1 = .int r9 → P (some (.int r9)) σ (tauY 0 lf) := fun r9 e1 e2 => p_eqv e2 (hP σ (by rw [e1]; exact hI) (fun _ _ => rfl))
  have fin2 : ∀ (v9 : Value) (K9 Q9 S9 : KT) (Ce9 : Nat → Nat → Int32) (fl9 : Nat) (tr9 : Int32) (σ9 : am_Sg), f_turn j what v (K, Q, S, Ce, fl, tr) = (v9, (K9, Q9, S9, Ce9, fl9, tr9)) → InvM σ9 K9 Q9 S9 Ce9 fl9 tr9 → FrM σ σ9 → P (some v9) σ9 (tauY 0 lf) := fun v9 K9 Q9 S9 Ce9 fl9 tr9 σ9 e h1 h2 => by have := hP σ9 (by rw [e]; exact h1) h2; rw [e] at this; exact this
  refine hs (fun _ => false) 60 0 _ _ _ _ _ ?_
  refine ⟨rfl, hn, 0, lf, K 0 1, j, rfl, rfl, eM, by omega, fun g => ?_, fun g => vc_t rfl (And.intro rfl (fin _ (by unfold f_turn; rw [if_neg g]) (by unfold f_turn; rw [if_neg g])))⟩
  refine vc_f (by decide) ⟨rfl, what, 0, 1, rfl, fun g2 => ?_, fun g2 => ?_⟩
  · have g2 := (in_iff (N := 2) rfl).mp g2
    refine vc_f (by decide) ⟨rfl, v, 0, 9, rfl, fun g3 => ?_, fun g3 => ?_⟩
    · have g3 := (in_iff (N := 10) rfl).mp g3
      have a1 := g2
      have a2 := g3
      obtain ⟨i, hi, rfl⟩ := inN_ex g
      obtain ⟨q, hq, rfl⟩ := inN_ex g2
      obtain ⟨w, hw, rfl⟩ := inN_ex g3
      have hc : (nI i).toNatClampNeg = i := nI_clamp (by omega)
      have ef : f_turn (nI i) (nI q) (nI w) (K, Q, S, Ce, fl, tr) = (.int (nI (K (1 + q) i)), (setK K (1 + q) i w, Q, S, Ce, fl, tr)) := by
        unfold f_turn
        rw [if_pos g, if_pos ⟨a1, a2⟩, hc, nI_clamp (n := q) (by omega), nI_clamp (n := w) (by omega)]
      refine vc_f (by decide) (vc_if (fun c => ?_) (fun c => ?_))
      · have c9 := nI_inj (b := 0) (by omega) (by omega) c
        subst c9
        refine And.intro (vin (show i < 10 by omega)) (vc_t c (And.intro (vin (show i < 10 by omega)) (fun σ2 e2 => And.intro rfl ?_)))
        rw [hc] at e2
        have e2 : σ2 = am_up σ 120 i (nI w) := e2
        rw [hc, (hR.2.2.2.2.1 i hi).1]
        exact fin2 _ _ _ _ _ _ _ σ2 ef (by rw [e2]; exact hI.setO (f := 1) (by omega) (show w ≤ 9 by omega)) (fun z g1 => by rw [e2]; exact am_up_ne (by omega))
      · have c9 : q = 1 := by
          have : ¬ q = 0 := fun z => c (by rw [z]; rfl)
          omega
        subst c9
        refine And.intro (vin (show i < 10 by omega)) (vc_f c (And.intro (vin (show i < 10 by omega)) (fun σ2 e2 => And.intro rfl ?_)))
        rw [hc] at e2
        have e2 : σ2 = am_up σ 121 i (nI w) := e2
        rw [hc, (hR.2.2.2.2.1 i hi).2]
        exact fin2 _ _ _ _ _ _ _ σ2 ef (by rw [e2]; exact hI.setO (f := 2) (by omega) (show w ≤ 9 by omega)) (fun z g1 => by rw [e2]; exact am_up_ne (by omega))
    · have g3 : ¬ inN v 10 := fun q => g3 ((in_iff rfl).mpr q)
      exact vc_t rfl (And.intro rfl (fin _ (by unfold f_turn; rw [if_pos g, if_neg (fun q => g3 q.2)]) (by unfold f_turn; rw [if_pos g, if_neg (fun q => g3 q.2)])))
  · have g2 : ¬ inN what 2 := fun q => g2 ((in_iff rfl).mpr q)
    exact vc_t rfl (And.intro rfl (fin _ (by unfold f_turn; rw [if_pos g, if_neg (fun q => g2 q.1)]) (by unfold f_turn; rw [if_pos g, if_neg (fun q => g2 q.1)]))))
def C_xguard : am_C := fun av n σ τ nf P => ∃ (o : Int32) (b : Nat), pubX [.int o, .int (nI b)] (f_guard o b) av n σ τ nf P ∧ b ≤ 1
set_option maxRecDepth 100000 in
theorem M_xguard (d : Nat) : am_Met (d + 3) 707 C_xguard := am_meth (own0 := "CanalEnd") 707 (d + 2) 155 T_X7_guard (fun y => bif Nat.beq y 747 then C_isOutlet else (am_no)) C_xguard rfl F_X7_guard rfl (by decide +kernel) Tc_X7_guard (fun y => am_g (M_isOutlet (d + 0)) (am_no_met)) (by
  intro av n σ τ nf P hnf hC
  obtain ⟨o, b, ⟨rfl, lf, ⟨K, Q, S, Ce, fl, tr⟩, rfl, hI, rfl, hP⟩, hb⟩ := hC
  have hn := Nlf_le hI.2.2.2.2.2.2.2.2.2
  refine ⟨hn, rfl, Nat.le_of_ble_eq_true rfl, fun Wb hs => ?_⟩
  have hI : InvX σ nf lf K Q S Ce fl tr := hI
  have hK := hI.1
  have hR := hI.2.1
  have hM10 := hK.2.1
  have hO8 := hK.2.2.1
  have eM : σ 1 1 = nI (K 0 1) := hR.1 1 (by omega)
  have eO : σ 1 2 = nI (K 0 2) := hR.1 2 (by omega)
  have fin : ∀ r9 : Int32, (f_guard o b (K, Q, S, Ce, fl, tr)).2 = (K, Q, S, Ce, fl, tr) → (f_guard o b (K, Q, S, Ce, fl, tr)).1 = .int r9 → P (some (.int r9)) σ (tauY 0 lf) := fun r9 e1 e2 => p_eqv e2 (hP σ (by rw [e1]; exact hI) (fun _ _ => fun _ => rfl))
  have fin2 : ∀ (v9 : Value) (K9 Q9 S9 : KT) (Ce9 : Nat → Nat → Int32) (fl9 : Nat) (tr9 : Int32) (σ9 : am_Sg), f_guard o b (K, Q, S, Ce, fl, tr) = (v9, (K9, Q9, S9, Ce9, fl9, tr9)) → InvX σ9 nf lf K9 Q9 S9 Ce9 fl9 tr9 → FrX σ σ9 → P (some v9) σ9 (tauY 0 lf) := fun v9 K9 Q9 S9 Ce9 fl9 tr9 σ9 e h1 h2 => by have := hP σ9 (by rw [e]; exact h1) h2; rw [e] at this; exact this
  refine hs (fun p => Nat.beq p 20 && true) 60 0 _ _ _ _ _ ?_
  have h01 : nI b = 0 ∨ nI b = 1 := by
    rcases (show b = 0 ∨ b = 1 by omega) with e | e <;> rw [e]
    · exact Or.inl rfl
    · exact Or.inr rfl
  refine ⟨rfl, hn, 0, lf, K 0 2, o, rfl, rfl, eO, by omega, fun g => ?_, fun g => vc_t rfl (And.intro rfl (fin _ (by unfold f_guard; rw [if_neg g]) (by unfold f_guard; rw [if_neg g])))⟩
  obtain ⟨i, hi, rfl⟩ := inN_ex g
  have hc : (nI i).toNatClampNeg = i := nI_clamp (by omega)
  have e10 : σ 11 i = nI (K 10 i) := hR.2.2 5 (by omega) i hi
  have k10 := (hK.2.2.2.2.2.2.2.2.2 i hi).2.2.2.2.2.2.1
  have go : Wb 20 [some (.ref 0), some (.int (nI i)), some (.int (nI b)), some (.int (nI b))] [] nf σ (tauY 0 lf) := by
    refine hs (fun _ => false) 60 20 _ _ _ _ _ ?_
    refine And.intro (vin (show i < 8 by omega)) (vc_if (fun c => ?_) (fun c => ?_))
    · rw [hc, e10] at c
      have c := nI_inj (by omega) (by omega) c
      exact And.intro rfl (fin _ (by unfold f_guard; rw [if_pos g, hc, if_pos c]) (by unfold f_guard; rw [if_pos g, hc, if_pos c]))
    · rw [hc, e10] at c
      have c : ¬ K 10 i = b := fun z => c (by rw [z])
      refine And.intro (vin (show i < 8 by omega)) (fun σ2 e2 => And.intro rfl ?_)
      rw [hc] at e2
      have e2 : σ2 = am_up σ 11 i (nI b) := e2
      exact fin2 _ _ _ _ _ _ _ σ2 (by unfold f_guard; rw [if_pos g, hc, if_neg c]) (by rw [e2]; exact hI.setO (f := 10) (by omega) (show b ≤ 1 by omega)) (fun z g1 g2 => by rw [e2]; exact am_up_ne (by omega))
  refine vc_f (by decide) (vc_if (fun c => ?_) (fun c => ?_))
  · have c := nI_inj (b := 0) (by omega) (by omega) c
    subst c
    exact go
  · have c : b = 1 := by
      have : ¬ b = 0 := fun z => c (by rw [z]; rfl)
      omega
    subst c
    exact go)
def C_mguard : am_C := fun av n σ τ nf P => ∃ (o : Int32) (b : Nat), pubM [.int o, .int (nI b)] (f_guard o b) av n σ τ nf P ∧ b ≤ 1
set_option maxRecDepth 100000 in
theorem M_mguard (d : Nat) : am_Met (d + 3) 821 C_mguard := am_meth (own0 := "CanalEndModel") 821 (d + 2) 155 T_X8_guard (fun y => bif Nat.beq y 810 then C_mOutlet else (am_no)) C_mguard rfl F_X8_guard rfl (by decide +kernel) Tc_X8_guard (fun y => am_g (M_mOutlet (d + 1)) (am_no_met)) (by
  intro av n σ τ nf P hnf hC
  obtain ⟨o, b, ⟨rfl, hn, lf, ⟨K, Q, S, Ce, fl, tr⟩, rfl, hI, rfl, hP⟩, hb⟩ := hC
  refine ⟨hn, rfl, Nat.le_of_ble_eq_true rfl, fun Wb hs => ?_⟩
  have hI : InvM σ K Q S Ce fl tr := hI
  have hK := hI.1
  have hR := hI.2.1
  have hM10 := hK.2.1
  have hO8 := hK.2.2.1
  have eM := hR.2.1
  have eO := hR.2.2.1
  have fin : ∀ r9 : Int32, (f_guard o b (K, Q, S, Ce, fl, tr)).2 = (K, Q, S, Ce, fl, tr) → (f_guard o b (K, Q, S, Ce, fl, tr)).1 = .int r9 → P (some (.int r9)) σ (tauY 0 lf) := fun r9 e1 e2 => p_eqv e2 (hP σ (by rw [e1]; exact hI) (fun _ _ => rfl))
  have fin2 : ∀ (v9 : Value) (K9 Q9 S9 : KT) (Ce9 : Nat → Nat → Int32) (fl9 : Nat) (tr9 : Int32) (σ9 : am_Sg), f_guard o b (K, Q, S, Ce, fl, tr) = (v9, (K9, Q9, S9, Ce9, fl9, tr9)) → InvM σ9 K9 Q9 S9 Ce9 fl9 tr9 → FrM σ σ9 → P (some v9) σ9 (tauY 0 lf) := fun v9 K9 Q9 S9 Ce9 fl9 tr9 σ9 e h1 h2 => by have := hP σ9 (by rw [e]; exact h1) h2; rw [e] at this; exact this
  refine hs (fun p => Nat.beq p 20 && true) 60 0 _ _ _ _ _ ?_
  have h01 : nI b = 0 ∨ nI b = 1 := by
    rcases (show b = 0 ∨ b = 1 by omega) with e | e <;> rw [e]
    · exact Or.inl rfl
    · exact Or.inr rfl
  refine ⟨rfl, hn, 0, lf, K 0 2, o, rfl, rfl, eO, by omega, fun g => ?_, fun g => vc_t rfl (And.intro rfl (fin _ (by unfold f_guard; rw [if_neg g]) (by unfold f_guard; rw [if_neg g])))⟩
  obtain ⟨i, hi, rfl⟩ := inN_ex g
  have hc : (nI i).toNatClampNeg = i := nI_clamp (by omega)
  have e10 : σ 128 i = nI (K 10 i) := hR.2.2.2.2.2.2 5 (by omega) i hi
  have k10 := (hK.2.2.2.2.2.2.2.2.2 i hi).2.2.2.2.2.2.1
  have go : Wb 20 [some (.ref 116), some (.int (nI i)), some (.int (nI b)), some (.int (nI b))] [] nf σ (tauY 0 lf) := by
    refine hs (fun _ => false) 60 20 _ _ _ _ _ ?_
    refine And.intro (vin (show i < 8 by omega)) (vc_if (fun c => ?_) (fun c => ?_))
    · rw [hc, e10] at c
      have c := nI_inj (by omega) (by omega) c
      exact And.intro rfl (fin _ (by unfold f_guard; rw [if_pos g, hc, if_pos c]) (by unfold f_guard; rw [if_pos g, hc, if_pos c]))
    · rw [hc, e10] at c
      have c : ¬ K 10 i = b := fun z => c (by rw [z])
      refine And.intro (vin (show i < 8 by omega)) (fun σ2 e2 => And.intro rfl ?_)
      rw [hc] at e2
      have e2 : σ2 = am_up σ 128 i (nI b) := e2
      exact fin2 _ _ _ _ _ _ _ σ2 (by unfold f_guard; rw [if_pos g, hc, if_neg c]) (by rw [e2]; exact hI.setO (f := 10) (by omega) (show b ≤ 1 by omega)) (fun z g1 => by rw [e2]; exact am_up_ne (by omega))
  refine vc_f (by decide) (vc_if (fun c => ?_) (fun c => ?_))
  · have c := nI_inj (b := 0) (by omega) (by omega) c
    subst c
    exact go
  · have c : b = 1 := by
      have : ¬ b = 0 := fun z => c (by rw [z]; rfl)
      omega
    subst c
    exact go)
