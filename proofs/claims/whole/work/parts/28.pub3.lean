theorem InvX.fl {σ : am_Sg} {n lf : Nat} {K Q S : KT} {Ce : Nat → Nat → Int32} {fl : Nat} {tr : Int32} {v : Nat} (h : InvX σ n lf K Q S Ce fl tr) : InvX (am_up σ 0 10 (nI v)) n lf K Q S Ce v tr := by
  obtain ⟨h1, h2, h3, h4, h5, h6, h7, h8, h9, h10⟩ := h
  have hm : ∀ q, ¬ q = 0 → am_up σ 0 10 (nI v) q = σ q := fun q g => am_up_ne g
  refine ⟨h1, h2.frame (fun q g1 g2 => hm q (by omega)), h3, ?_, ?_, h6, ?_, ⟨up_at, by rw [up_ne (by omega)]; exact h8.2⟩, ?_, h10⟩
  · unfold RepQ; rw [hm 43 (by omega), hm 54 (by omega), hm 55 (by omega), hm 56 (by omega), hm 57 (by omega)]; exact h4
  · unfold RepF; rw [hm 43 (by omega)]; exact ⟨h5.1, fun g => ⟨(h5.2 g).1, fun o ho k hk => by rw [hm _ (by omega)]; exact (h5.2 g).2 o ho k hk⟩⟩
  · intro k hk; rw [hm _ (by omega), hm _ (by omega)]; exact h7 k hk
  · intro i hi; rw [hm 11 (by omega), hm 22 (by omega)]; exact h9 i hi
theorem InvX.tr {σ : am_Sg} {n lf : Nat} {K Q S : KT} {Ce : Nat → Nat → Int32} {fl : Nat} {tr v : Int32} (h : InvX σ n lf K Q S Ce fl tr) : InvX (am_up σ 0 11 v) n lf K Q S Ce fl v := by
  obtain ⟨h1, h2, h3, h4, h5, h6, h7, h8, h9, h10⟩ := h
  have hm : ∀ q, ¬ q = 0 → am_up σ 0 11 v q = σ q := fun q g => am_up_ne g
  refine ⟨h1, h2.frame (fun q g1 g2 => hm q (by omega)), h3, ?_, ?_, h6, ?_, ⟨by rw [up_ne (by omega)]; exact h8.1, up_at⟩, ?_, h10⟩
  · unfold RepQ; rw [hm 43 (by omega), hm 54 (by omega), hm 55 (by omega), hm 56 (by omega), hm 57 (by omega)]; exact h4
  · unfold RepF; rw [hm 43 (by omega)]; exact ⟨h5.1, fun g => ⟨(h5.2 g).1, fun o ho k hk => by rw [hm _ (by omega)]; exact (h5.2 g).2 o ho k hk⟩⟩
  · intro k hk; rw [hm _ (by omega), hm _ (by omega)]; exact h7 k hk
  · intro i hi; rw [hm 11 (by omega), hm 22 (by omega)]; exact h9 i hi
theorem InvM.fl {σ : am_Sg} {K Q S : KT} {Ce : Nat → Nat → Int32} {fl : Nat} {tr : Int32} {v : Nat} (h : InvM σ K Q S Ce fl tr) : InvM (am_up σ 116 0 (nI v)) K Q S Ce v tr := by
  obtain ⟨h1, ⟨r1, r2, r3, r4, r5, r6, r7⟩, h3, h4, h5, h6, h7, h8⟩ := h
  have hm : ∀ q, ¬ q = 116 → am_up σ 116 0 (nI v) q = σ q := fun q g => am_up_ne g
  have h0 : ∀ i, ¬ i = 0 → am_up σ 116 0 (nI v) 116 i = σ 116 i := fun i g => up_ne g
  refine ⟨h1, ⟨by rw [h0 5 (by omega)]; exact r1, by rw [h0 6 (by omega)]; exact r2, by rw [h0 7 (by omega)]; exact r3, by rw [h0 17 (by omega)]; exact r4, ?_, ?_, ?_⟩, h3, ?_, h5, ?_, up_at, by rw [h0 1 (by omega)]; exact h8⟩
  · rw [hm 120 (by omega), hm 121 (by omega)]; exact r5
  · rw [hm 122 (by omega)]; exact r6
  · intro f hf o ho; rw [hm _ (by omega)]; exact r7 f hf o ho
  · rw [h0 33 (by omega), hm 140 (by omega), hm 141 (by omega), hm 142 (by omega), hm 143 (by omega)]; exact h4
  · intro k hk; rw [hm 117 (by omega), hm 118 (by omega), hm 119 (by omega)]; exact h6 k hk
theorem InvM.tr {σ : am_Sg} {K Q S : KT} {Ce : Nat → Nat → Int32} {fl : Nat} {tr v : Int32} (h : InvM σ K Q S Ce fl tr) : InvM (am_up σ 116 1 v) K Q S Ce fl v := by
  obtain ⟨h1, ⟨r1, r2, r3, r4, r5, r6, r7⟩, h3, h4, h5, h6, h7, h8⟩ := h
  have hm : ∀ q, ¬ q = 116 → am_up σ 116 1 v q = σ q := fun q g => am_up_ne g
  have h0 : ∀ i, ¬ i = 1 → am_up σ 116 1 v 116 i = σ 116 i := fun i g => up_ne g
  refine ⟨h1, ⟨by rw [h0 5 (by omega)]; exact r1, by rw [h0 6 (by omega)]; exact r2, by rw [h0 7 (by omega)]; exact r3, by rw [h0 17 (by omega)]; exact r4, ?_, ?_, ?_⟩, h3, ?_, h5, ?_, by rw [h0 0 (by omega)]; exact h7, up_at⟩
  · rw [hm 120 (by omega), hm 121 (by omega)]; exact r5
  · rw [hm 122 (by omega)]; exact r6
  · intro f hf o ho; rw [hm _ (by omega)]; exact r7 f hf o ho
  · rw [h0 33 (by omega), hm 140 (by omega), hm 141 (by omega), hm 142 (by omega), hm 143 (by omega)]; exact h4
  · intro k hk; rw [hm 117 (by omega), hm 118 (by omega), hm 119 (by omega)]; exact h6 k hk
def C_leaveTrace : am_C := fun av n σ τ nf P => nf = n ∧ 155 ≤ n ∧ ∃ (lf : Nat) (b : Int32), τ = tauY 0 lf ∧ av = [.ref 0, .int b] ∧ P none (am_up σ 0 11 (31 * σ 0 11 + b)) τ
set_option maxRecDepth 100000 in
theorem M_leaveTrace (d : Nat) : am_Met (d + 1) 761 C_leaveTrace := am_meth (own0 := "CanalEnd") 761 (d + 0) 155 T_X7_leaveTrace (fun y => am_no) C_leaveTrace rfl F_X7_leaveTrace rfl (by decide +kernel) Tc_X7_leaveTrace (fun y => am_no_met) (by
  intro av n σ τ nf P hnf hC
  obtain ⟨rfl, hn, lf, b, rfl, rfl, hP⟩ := hC
  refine ⟨hn, rfl, Nat.le_of_ble_eq_true rfl, fun Wb hs => ?_⟩
  refine hs (fun _ => false) 30 0 _ _ _ _ _ (fun σ2 e2 => And.intro rfl ?_)
  have e2 : σ2 = am_up σ 0 11 (31 * σ 0 11 + b) := e2
  rw [e2]
  exact hP)
def C_begins : am_C := fun av n σ τ nf P => nf = n ∧ 155 ≤ n ∧ ∃ (lf : Nat) (b : Int32), τ = tauY 0 lf ∧ av = [.ref 116, .int b] ∧ P none (am_up σ 116 1 (31 * σ 116 1 + b)) τ
set_option maxRecDepth 100000 in
theorem M_begins (d : Nat) : am_Met (d + 1) 867 C_begins := am_meth (own0 := "CanalEndModel") 867 (d + 0) 155 T_X8_begins (fun y => am_no) C_begins rfl F_X8_begins rfl (by decide +kernel) Tc_X8_begins (fun y => am_no_met) (by
  intro av n σ τ nf P hnf hC
  obtain ⟨rfl, hn, lf, b, rfl, rfl, hP⟩ := hC
  refine ⟨hn, rfl, Nat.le_of_ble_eq_true rfl, fun Wb hs => ?_⟩
  refine hs (fun _ => false) 30 0 _ _ _ _ _ (fun σ2 e2 => And.intro rfl ?_)
  have e2 : σ2 = am_up σ 116 1 (31 * σ 116 1 + b) := e2
  rw [e2]
  exact hP)
def C_faulty : am_C := fun av n σ τ nf P => nf = n ∧ 155 ≤ n ∧ ∃ (lf : Nat) (b : Int32), τ = tauY 0 lf ∧ av = [.ref 0, .int b] ∧ P (some (.int (-10 - b))) (am_up σ 0 10 b) τ
set_option maxRecDepth 100000 in
theorem M_faulty (d : Nat) : am_Met (d + 1) 751 C_faulty := am_meth (own0 := "CanalEnd") 751 (d + 0) 155 T_X7_faulty (fun y => am_no) C_faulty rfl F_X7_faulty rfl (by decide +kernel) Tc_X7_faulty (fun y => am_no_met) (by
  intro av n σ τ nf P hnf hC
  obtain ⟨rfl, hn, lf, b, rfl, rfl, hP⟩ := hC
  refine ⟨hn, rfl, Nat.le_of_ble_eq_true rfl, fun Wb hs => ?_⟩
  refine hs (fun _ => false) 30 0 _ _ _ _ _ (fun σ2 e2 => And.intro rfl ?_)
  have e2 : σ2 = am_up σ 0 10 b := e2
  rw [e2]
  exact hP)
def C_fails : am_C := fun av n σ τ nf P => nf = n ∧ 155 ≤ n ∧ ∃ (lf : Nat) (b : Int32), τ = tauY 0 lf ∧ av = [.ref 116, .int b] ∧ P (some (.int (-10 - b))) (am_up σ 116 0 b) τ
set_option maxRecDepth 100000 in
theorem M_fails (d : Nat) : am_Met (d + 1) 801 C_fails := am_meth (own0 := "CanalEndModel") 801 (d + 0) 155 T_X8_fails (fun y => am_no) C_fails rfl F_X8_fails rfl (by decide +kernel) Tc_X8_fails (fun y => am_no_met) (by
  intro av n σ τ nf P hnf hC
  obtain ⟨rfl, hn, lf, b, rfl, rfl, hP⟩ := hC
  refine ⟨hn, rfl, Nat.le_of_ble_eq_true rfl, fun Wb hs => ?_⟩
  refine hs (fun _ => false) 30 0 _ _ _ _ _ (fun σ2 e2 => And.intro rfl ?_)
  have e2 : σ2 = am_up σ 116 0 b := e2
  rw [e2]
  exact hP)
def C_mlost : am_C := fun av n σ τ nf P => nf = n ∧ 155 ≤ n ∧ ∃ (lf : Nat) (b : Int32), τ = tauY 0 lf ∧ av = [.ref 116, .int b] ∧ P (some (.long (-9223372036854775808))) (am_up σ 116 0 b) τ
set_option maxRecDepth 100000 in
theorem M_mlost (d : Nat) : am_Met (d + 1) 802 C_mlost := am_meth (own0 := "CanalEndModel") 802 (d + 0) 155 T_X8_lost (fun y => am_no) C_mlost rfl F_X8_lost rfl (by decide +kernel) Tc_X8_lost (fun y => am_no_met) (by
  intro av n σ τ nf P hnf hC
  obtain ⟨rfl, hn, lf, b, rfl, rfl, hP⟩ := hC
  refine ⟨hn, rfl, Nat.le_of_ble_eq_true rfl, fun Wb hs => ?_⟩
  refine hs (fun _ => false) 30 0 _ _ _ _ _ (fun σ2 e2 => And.intro rfl ?_)
  have e2 : σ2 = am_up σ 116 0 b := e2
  rw [e2]
  exact hP)
def t31 (t b : Int32) : Int32 := 31 * t + b
/-- the telling of outlets: answer, trace -/
def C_rightTells : am_C := fun av n σ τ nf P => nf = n ∧ 155 ≤ n ∧ ∃ (lf i z : Nat), τ = tauY 0 lf ∧ av = [.ref 0, .int (nI i)] ∧ i < 8 ∧ σ 7 i = nI z ∧ P (some (.int (nI z))) (am_up σ 0 11 (t31 (σ 0 11) 1)) τ
set_option maxRecDepth 100000 in
theorem M_rightTells (d : Nat) : am_Met (d + 2) 762 C_rightTells := am_meth (own0 := "CanalEnd") 762 (d + 1) 155 T_X7_rightTells (fun y => bif Nat.beq y 761 then C_leaveTrace else (am_no)) C_rightTells rfl F_X7_rightTells rfl (by decide +kernel) Tc_X7_rightTells (fun y => am_g (M_leaveTrace (d + 0)) (am_no_met)) (by
  intro av n σ τ nf P hnf hC
  obtain ⟨rfl, hn, lf, i, z, rfl, rfl, hi, hz, hP⟩ := hC
  refine ⟨hn, rfl, Nat.le_of_ble_eq_true rfl, fun Wb hs => ?_⟩
  refine hs (fun _ => false) 30 0 _ _ _ _ _ ⟨rfl, hn, lf, 1, rfl, rfl, And.intro (vin (show i < 8 from hi)) (And.intro rfl ?_)⟩
  rw [nI_clamp (by omega)]
  rw [show am_up σ 0 11 (31 * σ 0 11 + 1) 7 i = nI z by rw [up_rn (by omega)]; exact hz]
  exact hP)
def C_lowTells : am_C := fun av n σ τ nf P => nf = n ∧ 155 ≤ n ∧ ∃ (lf i z : Nat), τ = tauY 0 lf ∧ av = [.ref 0, .int (nI i)] ∧ i < 8 ∧ σ 7 i = nI z ∧ P (some (.int (nI z + 100))) (am_up (am_up σ 0 11 (t31 (σ 0 11) 2)) 0 11 (t31 (t31 (σ 0 11) 2) 1)) τ
set_option maxRecDepth 100000 in
theorem M_lowTells (d : Nat) : am_Met (d + 3) 763 C_lowTells := am_meth (own0 := "CanalEnd") 763 (d + 2) 155 T_X7_lowTells (fun y => bif Nat.beq y 761 then C_leaveTrace else (bif Nat.beq y 762 then C_rightTells else (am_no))) C_lowTells rfl F_X7_lowTells rfl (by decide +kernel) Tc_X7_lowTells (fun y => am_g (M_leaveTrace (d + 1)) (am_g (M_rightTells (d + 0)) (am_no_met))) (by
  intro av n σ τ nf P hnf hC
  obtain ⟨rfl, hn, lf, i, z, rfl, rfl, hi, hz, hP⟩ := hC
  refine ⟨hn, rfl, Nat.le_of_ble_eq_true rfl, fun Wb hs => ?_⟩
  refine hs (fun _ => false) 30 0 _ _ _ _ _ ⟨rfl, hn, lf, 2, rfl, rfl, ?_⟩
  refine ⟨rfl, hn, lf, i, z, rfl, rfl, hi, by rw [up_rn (by omega)]; exact hz, And.intro rfl ?_⟩
  rw [up_at]
  exact hP)
def C_nightlyTells : am_C := fun av n σ τ nf P => nf = n ∧ 155 ≤ n ∧ ∃ (lf i z : Nat), τ = tauY 0 lf ∧ av = [.ref 0, .int (nI i)] ∧ i < 8 ∧ σ 7 i = nI z ∧ ∀ σ', (∀ q, ¬ q = 0 → σ' q = σ q) → (∀ j, ¬ j = 11 → σ' 0 j = σ 0 j) → σ' 0 11 = t31 (t31 (t31 (t31 (σ 0 11) 3) 2) 1) 1 → P (some (.int (nI z + 100 + nI z))) σ' τ
set_option maxRecDepth 100000 in
theorem M_nightlyTells (d : Nat) : am_Met (d + 4) 764 C_nightlyTells := am_meth (own0 := "CanalEnd") 764 (d + 3) 155 T_X7_nightlyTells (fun y => bif Nat.beq y 761 then C_leaveTrace else (bif Nat.beq y 763 then C_lowTells else (bif Nat.beq y 762 then C_rightTells else (am_no)))) C_nightlyTells rfl F_X7_nightlyTells rfl (by decide +kernel) Tc_X7_nightlyTells (fun y => am_g (M_leaveTrace (d + 2)) (am_g (M_lowTells (d + 0)) (am_g (M_rightTells (d + 1)) (am_no_met)))) (by
  intro av n σ τ nf P hnf hC
  obtain ⟨rfl, hn, lf, i, z, rfl, rfl, hi, hz, hP⟩ := hC
  refine ⟨hn, rfl, Nat.le_of_ble_eq_true rfl, fun Wb hs => ?_⟩
  refine hs (fun _ => false) 30 0 _ _ _ _ _ ⟨rfl, hn, lf, 3, rfl, rfl, ?_⟩
  refine ⟨rfl, hn, lf, i, z, rfl, rfl, hi, by rw [up_rn (by omega)]; exact hz, ?_⟩
  refine ⟨rfl, hn, lf, i, z, rfl, rfl, hi, by rw [up_rn (by omega), up_rn (by omega), up_rn (by omega)]; exact hz, And.intro rfl ?_⟩
  refine hP _ (fun q hq => ?_) (fun j hj => ?_) ?_
  · rw [am_up_ne hq, am_up_ne hq, am_up_ne hq, am_up_ne hq]
  · rw [up_ne hj, up_ne hj, up_ne hj, up_ne hj]
  · rw [up_at, up_at, up_at]
    rfl)
def f_tell (o : Int32) (s : ST) : Value × ST := if inN o (s.1 0 2) then (if s.1 8 o.toNatClampNeg = 0 then (.int (nI (s.1 6 o.toNatClampNeg)), (s.1, s.2.1, s.2.2.1, s.2.2.2.1, s.2.2.2.2.1, t31 s.2.2.2.2.2 1)) else if s.1 8 o.toNatClampNeg = 1 then (.int (nI (s.1 6 o.toNatClampNeg) + 100), (s.1, s.2.1, s.2.2.1, s.2.2.2.1, s.2.2.2.2.1, t31 (t31 s.2.2.2.2.2 2) 1)) else (.int (nI (s.1 6 o.toNatClampNeg) + 100 + nI (s.1 6 o.toNatClampNeg)), (s.1, s.2.1, s.2.2.1, s.2.2.2.1, s.2.2.2.2.1, t31 (t31 (t31 (t31 s.2.2.2.2.2 3) 2) 1) 1))) else (.int (-1), s)
def f_see (o : Int32) (s : ST) : Value × ST := if inN o (s.1 0 2) then (if s.1 8 o.toNatClampNeg = 2 then (.int 40, (s.1, s.2.1, s.2.2.1, s.2.2.2.1, s.2.2.2.2.1, t31 s.2.2.2.2.2 5)) else (.int o, (s.1, s.2.1, s.2.2.1, s.2.2.2.1, s.2.2.2.2.1, t31 s.2.2.2.2.2 4))) else (.int (-1), s)
def setF (s : ST) (v : Nat) : ST := (s.1, s.2.1, s.2.2.1, s.2.2.2.1, v, s.2.2.2.2.2)
def f_as (o k : Int32) (s : ST) : Value × ST := if inN o (s.1 0 2) then (if inN k 3 then (if k.toNatClampNeg ≤ s.1 8 o.toNatClampNeg then (.int 1, setF s 0) else (.int (-12), setF s 2)) else (.int (-2), setF s 0)) else (.int (-1), setF s 0)
def C_xtell : am_C := fun av n σ τ nf P => ∃ (o : Int32), pubX [.int o] (f_tell o) av n σ τ nf P
set_option maxRecDepth 100000 in
theorem M_xtell (d : Nat) : am_Met (d + 5) 734 C_xtell := am_meth (own0 := "CanalEnd") 734 (d + 4) 155 T_X7_tell (fun y => bif Nat.beq y 747 then C_isOutlet else (bif Nat.beq y 762 then C_rightTells else (bif Nat.beq y 763 then C_lowTells else (bif Nat.beq y 764 then C_nightlyTells else (am_no))))) C_xtell rfl F_X7_tell rfl (by decide +kernel) Tc_X7_tell (fun y => am_g (M_isOutlet (d + 2)) (am_g (M_rightTells (d + 2)) (am_g (M_lowTells (d + 1)) (am_g (M_nightlyTells (d + 0)) (am_no_met))))) (by
  intro av n σ τ nf P hnf hC
  obtain ⟨o, rfl, lf, ⟨K, Q, S, Ce, fl, tr⟩, rfl, hI, rfl, hP⟩ := hC
  have hn := Nlf_le hI.2.2.2.2.2.2.2.2.2
  refine ⟨hn, rfl, Nat.le_of_ble_eq_true rfl, fun Wb hs => ?_⟩
  have hI : InvX σ nf lf K Q S Ce fl tr := hI
  have hK := hI.1
  have hR := hI.2.1
  have hM10 := hK.2.1
  have hO8 := hK.2.2.1
  have eM : σ 1 1 = nI (K 0 1) := hR.1 1 (by omega)
  have eO : σ 1 2 = nI (K 0 2) := hR.1 2 (by omega)
  have fin : ∀ r9 : Int32, (f_tell o (K, Q, S, Ce, fl, tr)).2 = (K, Q, S, Ce, fl, tr) → (f_tell o (K, Q, S, Ce, fl, tr)).1 = .int r9 → P (some (.int r9)) σ (tauY 0 lf) := fun r9 e1 e2 => p_eqv e2 (hP σ (by rw [e1]; exact hI) (fun _ _ => fun _ => rfl))
  have fin2 : ∀ (v9 : Value) (K9 Q9 S9 : KT) (Ce9 : Nat → Nat → Int32) (fl9 : Nat) (tr9 : Int32) (σ9 : am_Sg), f_tell o (K, Q, S, Ce, fl, tr) = (v9, (K9, Q9, S9, Ce9, fl9, tr9)) → InvX σ9 nf lf K9 Q9 S9 Ce9 fl9 tr9 → FrX σ σ9 → P (some v9) σ9 (tauY 0 lf) := fun v9 K9 Q9 S9 Ce9 fl9 tr9 σ9 e h1 h2 => by have := hP σ9 (by rw [e]; exact h1) h2; rw [e] at this; exact this
  refine hs (fun _ => false) 40 0 _ _ _ _ _ ?_
  have etr : σ 0 11 = tr := hI.2.2.2.2.2.2.2.1.2
  refine ⟨rfl, hn, 0, lf, K 0 2, o, rfl, rfl, eO, by omega, fun g => ?_, fun g => vc_t rfl (And.intro rfl (fin _ (by unfold f_tell; rw [if_neg g]) (by unfold f_tell; rw [if_neg g])))⟩
  obtain ⟨i, hi, rfl⟩ := inN_ex g
  have hc : (nI i).toNatClampNeg = i := nI_clamp (by omega)
  have e8 : σ 9 i = nI (K 8 i) := hR.2.2 3 (by omega) i hi
  have e6 : σ 7 i = nI (K 6 i) := hR.2.2 1 (by omega) i hi
  have k8 := (hK.2.2.2.2.2.2.2.2.2 i hi).2.2.2.2.1
  refine vc_f (by decide) (And.intro (vin (show i < 8 by omega)) (And.intro (fun c => ?_) (fun c => And.intro (fun c2 => ?_) (fun c2 => ?_))))
  · rw [hc, e8] at c
    have c := nI_inj (by omega) (by omega) c
    refine ⟨rfl, hn, lf, i, K 6 i, rfl, rfl, by omega, e6, And.intro rfl (fin2 _ K Q S Ce fl _ _ (by unfold f_tell; rw [if_pos g, hc, if_pos c]) (by rw [etr]; exact hI.tr) (fun q g1 g2 => am_up_ne (by omega)))⟩
  · rw [hc, e8] at c c2
    have c2 := nI_inj (by omega) (by omega) c2
    refine ⟨rfl, hn, lf, i, K 6 i, rfl, rfl, by omega, e6, And.intro rfl (fin2 _ K Q S Ce fl _ _ (by unfold f_tell; rw [if_pos g, hc, if_neg (show ¬ K 8 i = 0 by omega), if_pos c2]) (by rw [etr]; exact (hI.tr (v := t31 tr 2)).tr) (fun q g1 g2 => by rw [am_up_ne (by omega), am_up_ne (by omega)]))⟩
  · rw [hc, e8] at c c2
    have c0 : ¬ K 8 i = 0 := fun q => c (by rw [q])
    have c1 : ¬ K 8 i = 1 := fun q => c2 (by rw [q])
    refine ⟨rfl, hn, lf, i, K 6 i, rfl, rfl, by omega, e6, fun σ' a1 a2 a3 => And.intro rfl (fin2 _ K Q S Ce fl _ σ' (by unfold f_tell; rw [if_pos g, hc, if_neg c0, if_neg c1]) ?_ (fun q g1 g2 => a1 q (by omega)))⟩
    have e9 : σ' = am_up σ 0 11 (t31 (t31 (t31 (t31 tr 3) 2) 1) 1) := by
      funext q j
      by_cases hq : q = 0
      · subst hq
        by_cases hj : j = 11
        · subst hj; rw [up_at, a3, etr]
        · rw [up_ne hj, a2 j hj]
      · rw [am_up_ne hq, a1 q hq]
    rw [e9]
    exact hI.tr)
def C_mtell : am_C := fun av n σ τ nf P => ∃ (o : Int32), pubM [.int o] (f_tell o) av n σ τ nf P
set_option maxRecDepth 100000 in
theorem M_mtell (d : Nat) : am_Met (d + 3) 868 C_mtell := am_meth (own0 := "CanalEndModel") 868 (d + 2) 155 T_X8_tell (fun y => bif Nat.beq y 810 then C_mOutlet else (bif Nat.beq y 867 then C_begins else (am_no))) C_mtell rfl F_X8_tell rfl (by decide +kernel) Tc_X8_tell (fun y => am_g (M_mOutlet (d + 1)) (am_g (M_begins (d + 1)) (am_no_met))) (by
  intro av n σ τ nf P hnf hC
  obtain ⟨o, rfl, hn, lf, ⟨K, Q, S, Ce, fl, tr⟩, rfl, hI, rfl, hP⟩ := hC
  refine ⟨hn, rfl, Nat.le_of_ble_eq_true rfl, fun Wb hs => ?_⟩
  have hI : InvM σ K Q S Ce fl tr := hI
  have hK := hI.1
  have hR := hI.2.1
  have hM10 := hK.2.1
  have hO8 := hK.2.2.1
  have eM := hR.2.1
  have eO := hR.2.2.1
  have fin : ∀ r9 : Int32, (f_tell o (K, Q, S, Ce, fl, tr)).2 = (K, Q, S, Ce, fl, tr) → (f_tell o (K, Q, S, Ce, fl, tr)).1 = .int r9 → P (some (.int r9)) σ (tauY 0 lf) := fun r9 e1 e2 => p_eqv e2 (hP σ (by rw [e1]; exact hI) (fun _ _ => rfl))
  have fin2 : ∀ (v9 : Value) (K9 Q9 S9 : KT) (Ce9 : Nat → Nat → Int32) (fl9 : Nat) (tr9 : Int32) (σ9 : am_Sg), f_tell o (K, Q, S, Ce, fl, tr) = (v9, (K9, Q9, S9, Ce9, fl9, tr9)) → InvM σ9 K9 Q9 S9 Ce9 fl9 tr9 → FrM σ σ9 → P (some v9) σ9 (tauY 0 lf) := fun v9 K9 Q9 S9 Ce9 fl9 tr9 σ9 e h1 h2 => by have := hP σ9 (by rw [e]; exact h1) h2; rw [e] at this; exact this
  refine hs (fun _ => false) 60 0 _ _ _ _ _ ?_
  have etr : σ 116 1 = tr := hI.2.2.2.2.2.2.2
  refine ⟨rfl, hn, 0, lf, K 0 2, o, rfl, rfl, eO, by omega, fun g => ?_, fun g => vc_t rfl (And.intro rfl (fin _ (by unfold f_tell; rw [if_neg g]) (by unfold f_tell; rw [if_neg g])))⟩
  obtain ⟨i, hi, rfl⟩ := inN_ex g
  have hc : (nI i).toNatClampNeg = i := nI_clamp (by omega)
  have e8 : σ 126 i = nI (K 8 i) := hR.2.2.2.2.2.2 3 (by omega) i hi
  have e6 : σ 124 i = nI (K 6 i) := hR.2.2.2.2.2.2 1 (by omega) i hi
  have k8 := (hK.2.2.2.2.2.2.2.2.2 i hi).2.2.2.2.1
  refine vc_f (by decide) (And.intro (vin (show i < 8 by omega)) (And.intro (vin (show i < 8 by omega)) (And.intro (fun c => ?_) (fun c => And.intro (fun c2 => ?_) (fun c2 => ?_)))))
  · rw [hc, e8] at c
    have c := nI_inj (by omega) (by omega) c
    refine ⟨rfl, hn, lf, 2, rfl, rfl, rfl, hn, lf, 1, rfl, rfl, And.intro rfl ?_⟩
    rw [hc, e6, up_at, etr]
    exact fin2 _ K Q S Ce fl _ _ (by unfold f_tell; rw [if_pos g, hc, if_neg (show ¬ K 8 i = 0 by omega), if_pos c]; rfl) ((hI.tr (v := t31 tr 2)).tr) (fun q g1 => by rw [am_up_ne (by omega), am_up_ne (by omega)])
  · rw [hc, e8] at c c2
    have c2 := nI_inj (by omega) (by omega) c2
    refine ⟨rfl, hn, lf, 3, rfl, rfl, rfl, hn, lf, 2, rfl, rfl, rfl, hn, lf, 1, rfl, rfl, rfl, hn, lf, 1, rfl, rfl, And.intro rfl ?_⟩
    rw [hc, e6, up_at, up_at, up_at, etr]
    refine fin2 _ K Q S Ce fl _ _ (by unfold f_tell; rw [if_pos g, hc, if_neg (show ¬ K 8 i = 0 by omega), if_neg (show ¬ K 8 i = 1 by omega)]; show (Value.int (nI (K 6 i) + 100 + nI (K 6 i)), _) = _; rw [show (2 : Int32) * nI (K 6 i) + 100 = nI (K 6 i) + 100 + nI (K 6 i) by rw [show (2 : Int32) = nI 2 from rfl, show (100 : Int32) = nI 100 from rfl, pk_mul, nI_add, nI_add, nI_add]; congr 1; omega]; rfl) ((((hI.tr (v := t31 tr 3)).tr (v := t31 (t31 tr 3) 2)).tr (v := t31 (t31 (t31 tr 3) 2) 1)).tr) (fun q g1 => by rw [am_up_ne (by omega), am_up_ne (by omega), am_up_ne (by omega), am_up_ne (by omega)])
  · rw [hc, e8] at c c2
    have c0 : ¬ K 8 i = 1 := fun q => c (by rw [q])
    have c1 : ¬ K 8 i = 2 := fun q => c2 (by rw [q])
    refine ⟨rfl, hn, lf, 1, rfl, rfl, And.intro rfl ?_⟩
    rw [hc, e6, etr]
    exact fin2 _ K Q S Ce fl _ _ (by unfold f_tell; rw [if_pos g, hc, if_pos (show K 8 i = 0 by omega)]; rfl) hI.tr (fun q g1 => am_up_ne (by omega)))
def C_xas : am_C := fun av n σ τ nf P => ∃ (o : Int32) (k : Int32), pubX [.int o, .int k] (f_as o k) av n σ τ nf P
set_option maxRecDepth 100000 in
theorem M_xas (d : Nat) : am_Met (d + 3) 736 C_xas := am_meth (own0 := "CanalEnd") 736 (d + 2) 155 T_X7_as (fun y => bif Nat.beq y 747 then C_isOutlet else (bif Nat.beq y 740 then C_isIn else (bif Nat.beq y 751 then C_faulty else (am_no)))) C_xas rfl F_X7_as rfl (by decide +kernel) Tc_X7_as (fun y => am_g (M_isOutlet (d + 0)) (am_g (M_isIn (d + 1)) (am_g (M_faulty (d + 1)) (am_no_met)))) (by
  intro av n σ τ nf P hnf hC
  obtain ⟨o, k, rfl, lf, ⟨K, Q, S, Ce, fl, tr⟩, rfl, hI, rfl, hP⟩ := hC
  have hn := Nlf_le hI.2.2.2.2.2.2.2.2.2
  refine ⟨hn, rfl, Nat.le_of_ble_eq_true rfl, fun Wb hs => ?_⟩
  have hI : InvX σ nf lf K Q S Ce fl tr := hI
  have hK := hI.1
  have hR := hI.2.1
  have hM10 := hK.2.1
  have hO8 := hK.2.2.1
  have eM : σ 1 1 = nI (K 0 1) := hR.1 1 (by omega)
  have eO : σ 1 2 = nI (K 0 2) := hR.1 2 (by omega)
  have fin : ∀ r9 : Int32, (f_as o k (K, Q, S, Ce, fl, tr)).2 = (K, Q, S, Ce, fl, tr) → (f_as o k (K, Q, S, Ce, fl, tr)).1 = .int r9 → P (some (.int r9)) σ (tauY 0 lf) := fun r9 e1 e2 => p_eqv e2 (hP σ (by rw [e1]; exact hI) (fun _ _ => fun _ => rfl))
  have fin2 : ∀ (v9 : Value) (K9 Q9 S9 : KT) (Ce9 : Nat → Nat → Int32) (fl9 : Nat) (tr9 : Int32) (σ9 : am_Sg), f_as o k (K, Q, S, Ce, fl, tr) = (v9, (K9, Q9, S9, Ce9, fl9, tr9)) → InvX σ9 nf lf K9 Q9 S9 Ce9 fl9 tr9 → FrX σ σ9 → P (some v9) σ9 (tauY 0 lf) := fun v9 K9 Q9 S9 Ce9 fl9 tr9 σ9 e h1 h2 => by have := hP σ9 (by rw [e]; exact h1) h2; rw [e] at this; exact this
  refine hs (fun _ => false) 60 0 _ _ _ _ _ (fun σ1 e1 => ?_)
  have e1 : σ1 = am_up σ 0 10 (nI 0) := e1
  have hI1 : InvX σ1 nf lf K Q S Ce 0 tr := by rw [e1]; exact hI.fl
  have hfr : FrX σ σ1 := fun q g1 g2 => by rw [e1]; exact am_up_ne (by omega)
  have hR1 := hI1.2.1
  refine ⟨rfl, hn, 0, lf, K 0 2, o, rfl, rfl, hR1.1 2 (by omega), by omega, fun g => ?_, fun g => ?_⟩
  · obtain ⟨i, hi, rfl⟩ := inN_ex g
    have hc : (nI i).toNatClampNeg = i := nI_clamp (by omega)
    have e8 : σ1 9 i = nI (K 8 i) := hR1.2.2 3 (by omega) i hi
    have k8 := (hK.2.2.2.2.2.2.2.2.2 i hi).2.2.2.2.1
    refine vc_f (by decide) ⟨rfl, k, 0, 2, rfl, fun g2 => ?_, fun g2 => ?_⟩
    · have g2 := (in_iff (N := 3) rfl).mp g2
      have g3 := g2
      obtain ⟨w, hw, rfl⟩ := inN_ex g2
      have hcw : (nI w).toNatClampNeg = w := nI_clamp (by omega)
      refine vc_f (by decide) (And.intro (vin (show i < 8 by omega)) (vc_if (fun c => ?_) (fun c => ?_)))
      · rw [hc, e8] at c
        have c := (nI_leI (by omega) (by omega)).mp c
        exact And.intro rfl (fin2 _ K Q S Ce 0 tr σ1 (by unfold f_as; rw [if_pos g, if_pos g3, hc, hcw, if_pos (show w ≤ K 8 i by omega)]; rfl) hI1 hfr)
      · rw [hc, e8] at c
        have c : ¬ w ≤ K 8 i := fun q => c (nI_le q (by omega))
        exact ⟨rfl, hn, lf, 2, rfl, rfl, And.intro rfl (fin2 _ K Q S Ce 2 tr _ (by unfold f_as; rw [if_pos g, if_pos g3, hc, hcw, if_neg (show ¬ w ≤ K 8 i by omega)]; rfl) (hI1.fl (v := 2)) (fun q g1 g2 => by rw [am_up_ne (by omega)]; exact hfr q g1 g2))⟩
    · have g3 : ¬ inN k 3 := fun q => g2 ((in_iff rfl).mpr q)
      refine vc_t rfl (And.intro rfl (fin2 _ K Q S Ce 0 tr σ1 (by unfold f_as; rw [if_pos g, if_neg g3]; rfl) hI1 hfr))
  · refine vc_t rfl (And.intro rfl (fin2 _ K Q S Ce 0 tr σ1 (by unfold f_as; rw [if_neg g]; rfl) hI1 hfr)))
def C_mas : am_C := fun av n σ τ nf P => ∃ (o : Int32) (k : Int32), pubM [.int o, .int k] (f_as o k) av n σ τ nf P
set_option maxRecDepth 100000 in
theorem M_mas (d : Nat) : am_Met (d + 3) 870 C_mas := am_meth (own0 := "CanalEndModel") 870 (d + 2) 155 T_X8_as (fun y => bif Nat.beq y 810 then C_mOutlet else (bif Nat.beq y 803 then C_within else (bif Nat.beq y 801 then C_fails else (am_no)))) C_mas rfl F_X8_as rfl (by decide +kernel) Tc_X8_as (fun y => am_g (M_mOutlet (d + 1)) (am_g (M_within (d + 1)) (am_g (M_fails (d + 1)) (am_no_met)))) (by
  intro av n σ τ nf P hnf hC
  obtain ⟨o, k, rfl, hn, lf, ⟨K, Q, S, Ce, fl, tr⟩, rfl, hI, rfl, hP⟩ := hC
  refine ⟨hn, rfl, Nat.le_of_ble_eq_true rfl, fun Wb hs => ?_⟩
  have hI : InvM σ K Q S Ce fl tr := hI
  have hK := hI.1
  have hR := hI.2.1
  have hM10 := hK.2.1
  have hO8 := hK.2.2.1
  have eM := hR.2.1
  have eO := hR.2.2.1
  have fin : ∀ r9 : Int32, (f_as o k (K, Q, S, Ce, fl, tr)).2 = (K, Q, S, Ce, fl, tr) → (f_as o k (K, Q, S, Ce, fl, tr)).1 = .int r9 → P (some (.int r9)) σ (tauY 0 lf) := fun r9 e1 e2 => p_eqv e2 (hP σ (by rw [e1]; exact hI) (fun _ _ => rfl))
  have fin2 : ∀ (v9 : Value) (K9 Q9 S9 : KT) (Ce9 : Nat → Nat → Int32) (fl9 : Nat) (tr9 : Int32) (σ9 : am_Sg), f_as o k (K, Q, S, Ce, fl, tr) = (v9, (K9, Q9, S9, Ce9, fl9, tr9)) → InvM σ9 K9 Q9 S9 Ce9 fl9 tr9 → FrM σ σ9 → P (some v9) σ9 (tauY 0 lf) := fun v9 K9 Q9 S9 Ce9 fl9 tr9 σ9 e h1 h2 => by have := hP σ9 (by rw [e]; exact h1) h2; rw [e] at this; exact this
  refine hs (fun _ => false) 60 0 _ _ _ _ _ (fun σ1 e1 => ?_)
  have e1 : σ1 = am_up σ 116 0 (nI 0) := e1
  have hI1 : InvM σ1 K Q S Ce 0 tr := by rw [e1]; exact hI.fl
  have hfr : FrM σ σ1 := fun q g1 => by rw [e1]; exact am_up_ne (by omega)
  have hR1 := hI1.2.1
  refine ⟨rfl, hn, 0, lf, K 0 2, o, rfl, rfl, hR1.2.2.1, by omega, fun g => ?_, fun g => ?_⟩
  · obtain ⟨i, hi, rfl⟩ := inN_ex g
    have hc : (nI i).toNatClampNeg = i := nI_clamp (by omega)
    have e8 : σ1 126 i = nI (K 8 i) := hR1.2.2.2.2.2.2 3 (by omega) i hi
    have k8 := (hK.2.2.2.2.2.2.2.2.2 i hi).2.2.2.2.1
    refine vc_f (by decide) ⟨rfl, k, 0, 2, rfl, fun g2 => ?_, fun g2 => ?_⟩
    · have g2 := (in_iff (N := 3) rfl).mp g2
      have g3 := g2
      obtain ⟨w, hw, rfl⟩ := inN_ex g2
      have hcw : (nI w).toNatClampNeg = w := nI_clamp (by omega)
      refine vc_f (by decide) (And.intro (vin (show i < 8 by omega)) (vc_if (fun c => ?_) (fun c => ?_)))
      · rw [hc, e8] at c
        have c := (nI_ltI (by omega) (by omega)).mp c
        exact ⟨rfl, hn, lf, 2, rfl, rfl, And.intro rfl (fin2 _ K Q S Ce 2 tr _ (by unfold f_as; rw [if_pos g, if_pos g3, hc, hcw, if_neg (show ¬ w ≤ K 8 i by omega)]; rfl) (hI1.fl (v := 2)) (fun q g1 => by rw [am_up_ne (by omega)]; exact hfr q g1))⟩
      · rw [hc, e8] at c
        have c : ¬ K 8 i < w := fun q => c (nI_lt q (by omega))
        exact And.intro rfl (fin2 _ K Q S Ce 0 tr σ1 (by unfold f_as; rw [if_pos g, if_pos g3, hc, hcw, if_pos (show w ≤ K 8 i by omega)]; rfl) hI1 hfr)
    · have g3 : ¬ inN k 3 := fun q => g2 ((in_iff rfl).mpr q)
      refine vc_t rfl (And.intro rfl (fin2 _ K Q S Ce 0 tr σ1 (by unfold f_as; rw [if_pos g, if_neg g3]; rfl) hI1 hfr))
  · refine vc_t rfl (And.intro rfl (fin2 _ K Q S Ce 0 tr σ1 (by unfold f_as; rw [if_neg g]; rfl) hI1 hfr)))
def C_xsee : am_C := fun av n σ τ nf P => ∃ (o : Int32), pubX [.int o] (f_see o) av n σ τ nf P
set_option maxRecDepth 100000 in
theorem M_xsee (d : Nat) : am_Met (d + 3) 735 C_xsee := am_meth (own0 := "CanalEnd") 735 (d + 2) 155 T_X7_see (fun y => bif Nat.beq y 747 then C_isOutlet else (bif Nat.beq y 761 then C_leaveTrace else (am_no))) C_xsee rfl F_X7_see rfl (by decide +kernel) Tc_X7_see (fun y => am_g (M_isOutlet (d + 0)) (am_g (M_leaveTrace (d + 1)) (am_no_met))) (by
  intro av n σ τ nf P hnf hC
  obtain ⟨o, rfl, lf, ⟨K, Q, S, Ce, fl, tr⟩, rfl, hI, rfl, hP⟩ := hC
  have hn := Nlf_le hI.2.2.2.2.2.2.2.2.2
  refine ⟨hn, rfl, Nat.le_of_ble_eq_true rfl, fun Wb hs => ?_⟩
  have hI : InvX σ nf lf K Q S Ce fl tr := hI
  have hK := hI.1
  have hR := hI.2.1
  have hM10 := hK.2.1
  have hO8 := hK.2.2.1
  have eM : σ 1 1 = nI (K 0 1) := hR.1 1 (by omega)
  have eO : σ 1 2 = nI (K 0 2) := hR.1 2 (by omega)
  have fin : ∀ r9 : Int32, (f_see o (K, Q, S, Ce, fl, tr)).2 = (K, Q, S, Ce, fl, tr) → (f_see o (K, Q, S, Ce, fl, tr)).1 = .int r9 → P (some (.int r9)) σ (tauY 0 lf) := fun r9 e1 e2 => p_eqv e2 (hP σ (by rw [e1]; exact hI) (fun _ _ => fun _ => rfl))
  have fin2 : ∀ (v9 : Value) (K9 Q9 S9 : KT) (Ce9 : Nat → Nat → Int32) (fl9 : Nat) (tr9 : Int32) (σ9 : am_Sg), f_see o (K, Q, S, Ce, fl, tr) = (v9, (K9, Q9, S9, Ce9, fl9, tr9)) → InvX σ9 nf lf K9 Q9 S9 Ce9 fl9 tr9 → FrX σ σ9 → P (some v9) σ9 (tauY 0 lf) := fun v9 K9 Q9 S9 Ce9 fl9 tr9 σ9 e h1 h2 => by have := hP σ9 (by rw [e]; exact h1) h2; rw [e] at this; exact this
  refine hs (fun _ => false) 40 0 _ _ _ _ _ ?_
  have etr : σ 0 11 = tr := hI.2.2.2.2.2.2.2.1.2
  refine ⟨rfl, hn, 0, lf, K 0 2, o, rfl, rfl, eO, by omega, fun g => ?_, fun g => vc_t rfl (And.intro rfl (fin _ (by unfold f_see; rw [if_neg g]) (by unfold f_see; rw [if_neg g])))⟩
  obtain ⟨i, hi, rfl⟩ := inN_ex g
  have hc : (nI i).toNatClampNeg = i := nI_clamp (by omega)
  have e8 : σ 9 i = nI (K 8 i) := hR.2.2 3 (by omega) i hi
  have k8 := (hK.2.2.2.2.2.2.2.2.2 i hi).2.2.2.2.1
  refine vc_f (by decide) (And.intro (vin (show i < 8 by omega)) (vc_if (fun c => ?_) (fun c => ?_)))
  · rw [hc, e8] at c
    have c := nI_inj (b := 2) (by omega) (by omega) c
    refine ⟨rfl, hn, lf, 5, rfl, rfl, And.intro rfl (fin2 _ K Q S Ce fl _ _ (by unfold f_see; rw [if_pos g, hc, if_pos c]) (by rw [etr]; exact hI.tr) (fun q g1 g2 => am_up_ne (by omega)))⟩
  · rw [hc, e8] at c
    have c : ¬ K 8 i = 2 := fun q => c (by rw [q]; rfl)
    refine ⟨rfl, hn, lf, 4, rfl, rfl, And.intro rfl (fin2 _ K Q S Ce fl _ _ (by unfold f_see; rw [if_pos g, hc, if_neg c]) (by rw [etr]; exact hI.tr) (fun q g1 g2 => am_up_ne (by omega)))⟩)
def C_msee : am_C := fun av n σ τ nf P => ∃ (o : Int32), pubM [.int o] (f_see o) av n σ τ nf P
set_option maxRecDepth 100000 in
theorem M_msee (d : Nat) : am_Met (d + 3) 869 C_msee := am_meth (own0 := "CanalEndModel") 869 (d + 2) 155 T_X8_see (fun y => bif Nat.beq y 810 then C_mOutlet else (bif Nat.beq y 867 then C_begins else (am_no))) C_msee rfl F_X8_see rfl (by decide +kernel) Tc_X8_see (fun y => am_g (M_mOutlet (d + 1)) (am_g (M_begins (d + 1)) (am_no_met))) (by
  intro av n σ τ nf P hnf hC
  obtain ⟨o, rfl, hn, lf, ⟨K, Q, S, Ce, fl, tr⟩, rfl, hI, rfl, hP⟩ := hC
  refine ⟨hn, rfl, Nat.le_of_ble_eq_true rfl, fun Wb hs => ?_⟩
  have hI : InvM σ K Q S Ce fl tr := hI
  have hK := hI.1
  have hR := hI.2.1
  have hM10 := hK.2.1
  have hO8 := hK.2.2.1
  have eM := hR.2.1
  have eO := hR.2.2.1
  have fin : ∀ r9 : Int32, (f_see o (K, Q, S, Ce, fl, tr)).2 = (K, Q, S, Ce, fl, tr) → (f_see o (K, Q, S, Ce, fl, tr)).1 = .int r9 → P (some (.int r9)) σ (tauY 0 lf) := fun r9 e1 e2 => p_eqv e2 (hP σ (by rw [e1]; exact hI) (fun _ _ => rfl))
  have fin2 : ∀ (v9 : Value) (K9 Q9 S9 : KT) (Ce9 : Nat → Nat → Int32) (fl9 : Nat) (tr9 : Int32) (σ9 : am_Sg), f_see o (K, Q, S, Ce, fl, tr) = (v9, (K9, Q9, S9, Ce9, fl9, tr9)) → InvM σ9 K9 Q9 S9 Ce9 fl9 tr9 → FrM σ σ9 → P (some v9) σ9 (tauY 0 lf) := fun v9 K9 Q9 S9 Ce9 fl9 tr9 σ9 e h1 h2 => by have := hP σ9 (by rw [e]; exact h1) h2; rw [e] at this; exact this
  refine hs (fun _ => false) 60 0 _ _ _ _ _ ?_
  have etr : σ 116 1 = tr := hI.2.2.2.2.2.2.2
  refine ⟨rfl, hn, 0, lf, K 0 2, o, rfl, rfl, eO, by omega, fun g => ?_, fun g => vc_t rfl (And.intro rfl (fin _ (by unfold f_see; rw [if_neg g]) (by unfold f_see; rw [if_neg g])))⟩
  obtain ⟨i, hi, rfl⟩ := inN_ex g
  have hc : (nI i).toNatClampNeg = i := nI_clamp (by omega)
  have e8 : σ 126 i = nI (K 8 i) := hR.2.2.2.2.2.2 3 (by omega) i hi
  have k8 := (hK.2.2.2.2.2.2.2.2.2 i hi).2.2.2.2.1
  refine vc_f (by decide) (And.intro (vin (show i < 8 by omega)) (vc_if (fun c => ?_) (fun c => ?_)))
  · rw [hc, e8] at c
    have c9 := nI_inj (b := 2) (by omega) (by omega) c
    refine ⟨rfl, hn, lf, 5, rfl, rfl, And.intro (vin (show i < 8 by omega)) (vc_t ?_ (And.intro rfl ?_))⟩
    · rw [hc, show am_up σ 116 1 (31 * σ 116 1 + 5) 126 i = nI (K 8 i) by rw [up_rn (by omega)]; exact e8]; exact c
    · rw [etr]
      exact fin2 _ K Q S Ce fl _ _ (by unfold f_see; rw [if_pos g, hc, if_pos c9]; rfl) hI.tr (fun q g1 => am_up_ne (by omega))
  · rw [hc, e8] at c
    have c9 : ¬ K 8 i = 2 := fun q => c (by rw [q]; rfl)
    refine ⟨rfl, hn, lf, 4, rfl, rfl, And.intro (vin (show i < 8 by omega)) (vc_f ?_ (And.intro rfl ?_))⟩
    · rw [hc, show am_up σ 116 1 (31 * σ 116 1 + 4) 126 i = nI (K 8 i) by rw [up_rn (by omega)]; exact e8]; exact c
    · rw [etr]
      exact fin2 _ K Q S Ce fl _ _ (by unfold f_see; rw [if_pos g, hc, if_neg c9]; rfl) hI.tr (fun q g1 => am_up_ne (by omega)))
