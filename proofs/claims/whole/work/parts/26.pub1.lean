theorem p_eqv {P : Option Value → am_Sg → am_Tu → Prop} {a b : Value} {σ : am_Sg} {τ : am_Tu} (h : b = a) (hP : P (some b) σ τ) : P (some a) σ τ := h ▸ hP
theorem inN_ex {v : Int32} {N : Nat} (h : inN v N) : ∃ i, i < N ∧ v = nI i := ⟨_, (inN_c h).1, (inN_c h).2⟩
def f_ofMile (j what : Int32) (s : ST) : Value × ST := (.int (if inN j (s.1 0 1) then (if what = nI 0 then nI (s.1 1 j.toNatClampNeg) else if what = nI 1 then nI (s.1 2 j.toNatClampNeg) else if what = nI 2 then (if s.1 4 j.toNatClampNeg = 0 then -9 else nI (s.1 3 j.toNatClampNeg)) else if what = nI 3 then nI (s.1 4 j.toNatClampNeg) else -2) else -1), s)
def f_turn (j what v : Int32) (s : ST) : Value × ST := if inN j (s.1 0 1) then (if inN what 2 ∧ inN v 10 then (.int (nI (s.1 (1 + what.toNatClampNeg) j.toNatClampNeg)), (setK s.1 (1 + what.toNatClampNeg) j.toNatClampNeg v.toNatClampNeg, s.2)) else (.int (-2), s)) else (.int (-1), s)
def f_ofOutlet (o what : Int32) (s : ST) : Value × ST := (.int (if inN o (s.1 0 2) then (if what = nI 0 then nI (s.1 8 o.toNatClampNeg) else if what = nI 1 then nI (s.1 5 o.toNatClampNeg) else if what = nI 2 then nI (s.1 6 o.toNatClampNeg) else if what = nI 3 then nI (s.1 7 o.toNatClampNeg) else if what = nI 4 then nI (s.1 9 o.toNatClampNeg) else if what = nI 5 then nI (s.1 10 o.toNatClampNeg) else -2) else -1), s)
def f_setO (f N : Nat) (o v : Int32) (s : ST) : Value × ST := if inN o (s.1 0 2) then (if inN v N then (.int (nI (s.1 f o.toNatClampNeg)), (setK s.1 f o.toNatClampNeg v.toNatClampNeg, s.2)) else (.int (-2), s)) else (.int (-1), s)
def f_guard (o : Int32) (b : Nat) (s : ST) : Value × ST := if inN o (s.1 0 2) then (if s.1 10 o.toNatClampNeg = b then (.int 0, s) else (.int 1, (setK s.1 10 o.toNatClampNeg b, s.2))) else (.int (-1), s)
def f_syphon (v : Int32) (s : ST) : Value × ST := if inN v 100 then (.int (nI (s.1 0 3)), (setK s.1 0 3 v.toNatClampNeg, s.2)) else (.int (-2), s)
def f_trace (s : ST) : Value × ST := (.int s.2.2.2.2.2, s)
def f_fault (s : ST) : Value × ST := (.int (nI s.2.2.2.2.1), s)
theorem nI_inj {a b : Nat} (ha : a < 2 ^ 31) (hb : b < 2 ^ 31) (h : nI a = nI b) : a = b := (nI_eq ha hb).mp h
def C_xofMile : am_C := fun av n σ τ nf P => ∃ (j : Int32) (what : Int32), pubX [.int j, .int what] (f_ofMile j what) av n σ τ nf P
set_option maxRecDepth 100000 in
theorem M_xofMile (d : Nat) : am_Met (d + 3) 702 C_xofMile := am_meth (own0 := "CanalEnd") 702 (d + 2) 155 T_X7_ofMile (fun y => bif Nat.beq y 746 then C_isMile else (am_no)) C_xofMile rfl F_X7_ofMile rfl (by decide +kernel) Tc_X7_ofMile (fun y => am_g (M_isMile (d + 0)) (am_no_met)) (by
  intro av n σ τ nf P hnf hC
  obtain ⟨j, what, rfl, lf, ⟨K, Q, S, Ce, fl, tr⟩, rfl, hI, rfl, hP⟩ := hC
  have hn := Nlf_le hI.2.2.2.2.2.2.2.2.2
  refine ⟨hn, rfl, Nat.le_of_ble_eq_true rfl, fun Wb hs => ?_⟩
  have hI : InvX σ nf lf K Q S Ce fl tr := hI
  have hK := hI.1
  have hR := hI.2.1
  have hM10 := hK.2.1
  have hO8 := hK.2.2.1
  have eM : σ 1 1 = nI (K 0 1) := hR.1 1 (by omega)
  have eO : σ 1 2 = nI (K 0 2) := hR.1 2 (by omega)
  have fin : ∀ r9 : Int32, (f_ofMile j what (K, Q, S, Ce, fl, tr)).2 = (K, Q, S, Ce, fl, tr) → (f_ofMile j what (K, Q, S, Ce, fl, tr)).1 = .int r9 → P (some (.int r9)) σ (tauY 0 lf) := fun r9 e1 e2 => p_eqv e2 (hP σ (by rw [e1]; exact hI) (fun _ _ => fun _ => rfl))
  have fin2 : ∀ (v9 : Value) (K9 Q9 S9 : KT) (Ce9 : Nat → Nat → Int32) (fl9 : Nat) (tr9 : Int32) (σ9 : am_Sg), f_ofMile j what (K, Q, S, Ce, fl, tr) = (v9, (K9, Q9, S9, Ce9, fl9, tr9)) → InvX σ9 nf lf K9 Q9 S9 Ce9 fl9 tr9 → FrX σ σ9 → P (some v9) σ9 (tauY 0 lf) := fun v9 K9 Q9 S9 Ce9 fl9 tr9 σ9 e h1 h2 => by have := hP σ9 (by rw [e]; exact h1) h2; rw [e] at this; exact this
  refine hs (fun _ => false) 60 0 _ _ _ _ _ ?_
  refine ⟨rfl, hn, 0, lf, K 0 1, j, rfl, rfl, eM, by omega, fun g => ?_, fun g => ?_⟩
  · obtain ⟨i, hi, rfl⟩ := inN_ex g
    have e1 : σ 2 i = nI (K 1 i) := hR.2.1 0 (by omega) i hi
    have e2 : σ 3 i = nI (K 2 i) := hR.2.1 1 (by omega) i hi
    have e3 : σ 4 i = nI (K 3 i) := hR.2.1 2 (by omega) i hi
    have e4 : σ 5 i = nI (K 4 i) := hR.2.1 3 (by omega) i hi
    have hc : (nI i).toNatClampNeg = i := nI_clamp (by omega)
    have hb := (hK.2.2.2.2.2.2.1 i hi).2.2
    have z4 : nI (K 4 i) = 0 ↔ K 4 i = 0 := nI_eq (b := 0) (by omega) (by omega)
    refine vc_f (by decide) (And.intro (fun c0 => ?_) (fun c0 => And.intro (fun c1 => ?_) (fun c1 => And.intro (fun c2 => ?_) (fun c2 => And.intro (fun c3 => ?_) (fun c3 => ?_)))))
    · refine And.intro (vin (show i < 10 by omega)) (And.intro rfl (fin _ rfl ?_))
      simp only [f_ofMile]
      rw [if_pos g, if_pos c0, hc, e1]
    · refine And.intro (vin (show i < 10 by omega)) (And.intro rfl (fin _ rfl ?_))
      simp only [f_ofMile]
      rw [if_pos g, if_neg c0, if_pos c1, hc, e2]
    · refine And.intro (vin (show i < 10 by omega)) (vc_if (fun c4 => And.intro rfl (fin _ rfl ?_)) (fun c4 => And.intro (vin (show i < 10 by omega)) (And.intro rfl (fin _ rfl ?_))))
      · rw [hc, e4, z4] at c4
        simp only [f_ofMile]
        rw [if_pos g, if_neg c0, if_neg c1, if_pos c2, hc, if_pos c4]
      · rw [hc, e4, z4] at c4
        simp only [f_ofMile]
        rw [if_pos g, if_neg c0, if_neg c1, if_pos c2, hc, if_neg c4, e3]
    · refine And.intro (vin (show i < 10 by omega)) (And.intro rfl (fin _ rfl ?_))
      simp only [f_ofMile]
      rw [if_pos g, if_neg c0, if_neg c1, if_neg c2, if_pos c3, hc, e4]
    · refine And.intro rfl (fin _ rfl ?_)
      simp only [f_ofMile]
      rw [if_pos g, if_neg c0, if_neg c1, if_neg c2, if_neg c3]
  · refine vc_t rfl (And.intro rfl (fin _ rfl ?_))
    simp only [f_ofMile]
    rw [if_neg g])
def C_xofOutlet : am_C := fun av n σ τ nf P => ∃ (o : Int32) (what : Int32), pubX [.int o, .int what] (f_ofOutlet o what) av n σ τ nf P
set_option maxRecDepth 100000 in
theorem M_xofOutlet (d : Nat) : am_Met (d + 3) 704 C_xofOutlet := am_meth (own0 := "CanalEnd") 704 (d + 2) 155 T_X7_ofOutlet (fun y => bif Nat.beq y 747 then C_isOutlet else (am_no)) C_xofOutlet rfl F_X7_ofOutlet rfl (by decide +kernel) Tc_X7_ofOutlet (fun y => am_g (M_isOutlet (d + 0)) (am_no_met)) (by
  intro av n σ τ nf P hnf hC
  obtain ⟨o, what, rfl, lf, ⟨K, Q, S, Ce, fl, tr⟩, rfl, hI, rfl, hP⟩ := hC
  have hn := Nlf_le hI.2.2.2.2.2.2.2.2.2
  refine ⟨hn, rfl, Nat.le_of_ble_eq_true rfl, fun Wb hs => ?_⟩
  have hI : InvX σ nf lf K Q S Ce fl tr := hI
  have hK := hI.1
  have hR := hI.2.1
  have hM10 := hK.2.1
  have hO8 := hK.2.2.1
  have eM : σ 1 1 = nI (K 0 1) := hR.1 1 (by omega)
  have eO : σ 1 2 = nI (K 0 2) := hR.1 2 (by omega)
  have fin : ∀ r9 : Int32, (f_ofOutlet o what (K, Q, S, Ce, fl, tr)).2 = (K, Q, S, Ce, fl, tr) → (f_ofOutlet o what (K, Q, S, Ce, fl, tr)).1 = .int r9 → P (some (.int r9)) σ (tauY 0 lf) := fun r9 e1 e2 => p_eqv e2 (hP σ (by rw [e1]; exact hI) (fun _ _ => fun _ => rfl))
  have fin2 : ∀ (v9 : Value) (K9 Q9 S9 : KT) (Ce9 : Nat → Nat → Int32) (fl9 : Nat) (tr9 : Int32) (σ9 : am_Sg), f_ofOutlet o what (K, Q, S, Ce, fl, tr) = (v9, (K9, Q9, S9, Ce9, fl9, tr9)) → InvX σ9 nf lf K9 Q9 S9 Ce9 fl9 tr9 → FrX σ σ9 → P (some v9) σ9 (tauY 0 lf) := fun v9 K9 Q9 S9 Ce9 fl9 tr9 σ9 e h1 h2 => by have := hP σ9 (by rw [e]; exact h1) h2; rw [e] at this; exact this
  refine hs (fun _ => false) 60 0 _ _ _ _ _ ?_
  refine ⟨rfl, hn, 0, lf, K 0 2, o, rfl, rfl, eO, by omega, fun g => ?_, fun g => ?_⟩
  · obtain ⟨i, hi, rfl⟩ := inN_ex g
    have hc : (nI i).toNatClampNeg = i := nI_clamp (by omega)
    have hk9 := hK.2.2.2.2.2.2.2.2.2 i hi
    have e8 : σ 9 i = nI (K 8 i) := hR.2.2 3 (by omega) i hi
    have e5 : σ 6 i = nI (K 5 i) := hR.2.2 0 (by omega) i hi
    have e6 : σ 7 i = nI (K 6 i) := hR.2.2 1 (by omega) i hi
    have e7 : σ 8 i = nI (K 7 i) := hR.2.2 2 (by omega) i hi
    have e9 : σ 10 i = nI (K 9 i) := hR.2.2 4 (by omega) i hi
    have e10 : σ 11 i = nI (K 10 i) := hR.2.2 5 (by omega) i hi
    refine vc_f (by decide) (And.intro (fun c0 => ?_) (fun c0 => And.intro (fun c1 => ?_) (fun c1 => And.intro (fun c2 => ?_) (fun c2 => And.intro (fun c3 => ?_) (fun c3 => And.intro (fun c4 => ?_) (fun c4 => And.intro (fun c5 => ?_) (fun c5 => ?_)))))))
    · refine And.intro (vin (show i < 8 by omega)) (And.intro rfl (fin _ rfl ?_))
      simp only [f_ofOutlet]
      rw [if_pos g, if_pos c0, hc, e8]
    · refine And.intro (vin (show i < 8 by omega)) (And.intro rfl (fin _ rfl ?_))
      simp only [f_ofOutlet]
      rw [if_pos g, if_neg c0, if_pos c1, hc, e5]
    · refine And.intro (vin (show i < 8 by omega)) (And.intro rfl (fin _ rfl ?_))
      simp only [f_ofOutlet]
      rw [if_pos g, if_neg c0, if_neg c1, if_pos c2, hc, e6]
    · refine And.intro (vin (show i < 8 by omega)) (And.intro rfl (fin _ rfl ?_))
      simp only [f_ofOutlet]
      rw [if_pos g, if_neg c0, if_neg c1, if_neg c2, if_pos c3, hc, e7]
    · refine And.intro (vin (show i < 8 by omega)) (And.intro rfl (fin _ rfl ?_))
      simp only [f_ofOutlet]
      rw [if_pos g, if_neg c0, if_neg c1, if_neg c2, if_neg c3, if_pos c4, hc, e9]
    · refine And.intro (vin (show i < 8 by omega)) (And.intro rfl (fin _ rfl ?_))
      simp only [f_ofOutlet]
      rw [if_pos g, if_neg c0, if_neg c1, if_neg c2, if_neg c3, if_neg c4, if_pos c5, hc, e10]
    · refine And.intro rfl (fin _ rfl ?_)
      simp only [f_ofOutlet]
      rw [if_pos g, if_neg c0, if_neg c1, if_neg c2, if_neg c3, if_neg c4, if_neg c5]
  · refine vc_t rfl (And.intro rfl (fin _ rfl ?_))
    simp only [f_ofOutlet]
    rw [if_neg g])
def C_xkind : am_C := fun av n σ τ nf P => ∃ (o : Int32) (v : Int32), pubX [.int o, .int v] (f_setO 8 3 o v) av n σ τ nf P
set_option maxRecDepth 100000 in
theorem M_xkind (d : Nat) : am_Met (d + 3) 705 C_xkind := am_meth (own0 := "CanalEnd") 705 (d + 2) 155 T_X7_kind (fun y => bif Nat.beq y 747 then C_isOutlet else (bif Nat.beq y 740 then C_isIn else (am_no))) C_xkind rfl F_X7_kind rfl (by decide +kernel) Tc_X7_kind (fun y => am_g (M_isOutlet (d + 0)) (am_g (M_isIn (d + 1)) (am_no_met))) (by
  intro av n σ τ nf P hnf hC
  obtain ⟨o, v, rfl, lf, ⟨K, Q, S, Ce, fl, tr⟩, rfl, hI, rfl, hP⟩ := hC
  have hn := Nlf_le hI.2.2.2.2.2.2.2.2.2
  refine ⟨hn, rfl, Nat.le_of_ble_eq_true rfl, fun Wb hs => ?_⟩
  have hI : InvX σ nf lf K Q S Ce fl tr := hI
  have hK := hI.1
  have hR := hI.2.1
  have hM10 := hK.2.1
  have hO8 := hK.2.2.1
  have eM : σ 1 1 = nI (K 0 1) := hR.1 1 (by omega)
  have eO : σ 1 2 = nI (K 0 2) := hR.1 2 (by omega)
  have fin : ∀ r9 : Int32, (f_setO 8 3 o v (K, Q, S, Ce, fl, tr)).2 = (K, Q, S, Ce, fl, tr) → (f_setO 8 3 o v (K, Q, S, Ce, fl, tr)).1 = .int r9 → P (some (.int r9)) σ (tauY 0 lf) := fun r9 e1 e2 => p_eqv e2 (hP σ (by rw [e1]; exact hI) (fun _ _ => fun _ => rfl))
  have fin2 : ∀ (v9 : Value) (K9 Q9 S9 : KT) (Ce9 : Nat → Nat → Int32) (fl9 : Nat) (tr9 : Int32) (σ9 : am_Sg), f_setO 8 3 o v (K, Q, S, Ce, fl, tr) = (v9, (K9, Q9, S9, Ce9, fl9, tr9)) → InvX σ9 nf lf K9 Q9 S9 Ce9 fl9 tr9 → FrX σ σ9 → P (some v9) σ9 (tauY 0 lf) := fun v9 K9 Q9 S9 Ce9 fl9 tr9 σ9 e h1 h2 => by have := hP σ9 (by rw [e]; exact h1) h2; rw [e] at this; exact this
  refine hs (fun _ => false) 60 0 _ _ _ _ _ ?_
  refine ⟨rfl, hn, 0, lf, K 0 2, o, rfl, rfl, eO, by omega, fun g => ?_, fun g => ?_⟩
  · obtain ⟨i, hi, rfl⟩ := inN_ex g
    have hc : (nI i).toNatClampNeg = i := nI_clamp (by omega)
    have e1 : σ 9 i = nI (K 8 i) := hR.2.2 3 (by omega) i hi
    refine vc_f (by decide) ⟨rfl, v, 0, 2, rfl, fun g2 => ?_, fun g2 => ?_⟩
    · have g2 := (in_iff (N := 3) rfl).mp g2
      have g3 := g2
      obtain ⟨w, hw, rfl⟩ := inN_ex g2
      refine vc_f (by decide) (And.intro (vin (show i < 8 by omega)) (And.intro (vin (show i < 8 by omega)) (fun σ2 e2 => And.intro rfl ?_)))
      rw [hc] at e2
      have e2 : σ2 = am_up σ 9 i (nI w) := e2
      have ef : f_setO 8 3 (nI i) (nI w) (K, Q, S, Ce, fl, tr) = (.int (nI (K 8 i)), (setK K 8 i w, Q, S, Ce, fl, tr)) := by
        unfold f_setO
        rw [if_pos g, if_pos g3, hc, nI_clamp (n := w) (by omega)]
      have := hP σ2 (by rw [ef, e2]; exact hI.setO (f := 8) (by omega) (show w ≤ 2 by omega)) (fun q g1 g2 => by rw [e2]; exact am_up_ne (by omega))
      rw [ef] at this
      rw [hc, e1]
      exact this
    · have g3 : ¬ inN v 3 := fun q => g2 ((in_iff rfl).mpr q)
      refine vc_t rfl (And.intro rfl (fin _ ?_ ?_)) <;> (unfold f_setO; rw [if_pos g, if_neg g3])
  · refine vc_t rfl (And.intro rfl (fin _ ?_ ?_)) <;> (unfold f_setO; rw [if_neg g]))
def C_xneeds : am_C := fun av n σ τ nf P => ∃ (o : Int32) (v : Int32), pubX [.int o, .int v] (f_setO 9 1000 o v) av n σ τ nf P
set_option maxRecDepth 100000 in
theorem M_xneeds (d : Nat) : am_Met (d + 3) 706 C_xneeds := am_meth (own0 := "CanalEnd") 706 (d + 2) 155 T_X7_needs (fun y => bif Nat.beq y 747 then C_isOutlet else (bif Nat.beq y 740 then C_isIn else (am_no))) C_xneeds rfl F_X7_needs rfl (by decide +kernel) Tc_X7_needs (fun y => am_g (M_isOutlet (d + 0)) (am_g (M_isIn (d + 1)) (am_no_met))) (by
  intro av n σ τ nf P hnf hC
  obtain ⟨o, v, rfl, lf, ⟨K, Q, S, Ce, fl, tr⟩, rfl, hI, rfl, hP⟩ := hC
  have hn := Nlf_le hI.2.2.2.2.2.2.2.2.2
  refine ⟨hn, rfl, Nat.le_of_ble_eq_true rfl, fun Wb hs => ?_⟩
  have hI : InvX σ nf lf K Q S Ce fl tr := hI
  have hK := hI.1
  have hR := hI.2.1
  have hM10 := hK.2.1
  have hO8 := hK.2.2.1
  have eM : σ 1 1 = nI (K 0 1) := hR.1 1 (by omega)
  have eO : σ 1 2 = nI (K 0 2) := hR.1 2 (by omega)
  have fin : ∀ r9 : Int32, (f_setO 9 1000 o v (K, Q, S, Ce, fl, tr)).2 = (K, Q, S, Ce, fl, tr) → (f_setO 9 1000 o v (K, Q, S, Ce, fl, tr)).1 = .int r9 → P (some (.int r9)) σ (tauY 0 lf) := fun r9 e1 e2 => p_eqv e2 (hP σ (by rw [e1]; exact hI) (fun _ _ => fun _ => rfl))
  have fin2 : ∀ (v9 : Value) (K9 Q9 S9 : KT) (Ce9 : Nat → Nat → Int32) (fl9 : Nat) (tr9 : Int32) (σ9 : am_Sg), f_setO 9 1000 o v (K, Q, S, Ce, fl, tr) = (v9, (K9, Q9, S9, Ce9, fl9, tr9)) → InvX σ9 nf lf K9 Q9 S9 Ce9 fl9 tr9 → FrX σ σ9 → P (some v9) σ9 (tauY 0 lf) := fun v9 K9 Q9 S9 Ce9 fl9 tr9 σ9 e h1 h2 => by have := hP σ9 (by rw [e]; exact h1) h2; rw [e] at this; exact this
  refine hs (fun _ => false) 60 0 _ _ _ _ _ ?_
  refine ⟨rfl, hn, 0, lf, K 0 2, o, rfl, rfl, eO, by omega, fun g => ?_, fun g => ?_⟩
  · obtain ⟨i, hi, rfl⟩ := inN_ex g
    have hc : (nI i).toNatClampNeg = i := nI_clamp (by omega)
    have e1 : σ 10 i = nI (K 9 i) := hR.2.2 4 (by omega) i hi
    refine vc_f (by decide) ⟨rfl, v, 0, 999, rfl, fun g2 => ?_, fun g2 => ?_⟩
    · have g2 := (in_iff (N := 1000) rfl).mp g2
      have g3 := g2
      obtain ⟨w, hw, rfl⟩ := inN_ex g2
      refine vc_f (by decide) (And.intro (vin (show i < 8 by omega)) (And.intro (vin (show i < 8 by omega)) (fun σ2 e2 => And.intro rfl ?_)))
      rw [hc] at e2
      have e2 : σ2 = am_up σ 10 i (nI w) := e2
      have ef : f_setO 9 1000 (nI i) (nI w) (K, Q, S, Ce, fl, tr) = (.int (nI (K 9 i)), (setK K 9 i w, Q, S, Ce, fl, tr)) := by
        unfold f_setO
        rw [if_pos g, if_pos g3, hc, nI_clamp (n := w) (by omega)]
      have := hP σ2 (by rw [ef, e2]; exact hI.setO (f := 9) (by omega) (show w ≤ 999 by omega)) (fun q g1 g2 => by rw [e2]; exact am_up_ne (by omega))
      rw [ef] at this
      rw [hc, e1]
      exact this
    · have g3 : ¬ inN v 1000 := fun q => g2 ((in_iff rfl).mpr q)
      refine vc_t rfl (And.intro rfl (fin _ ?_ ?_)) <;> (unfold f_setO; rw [if_pos g, if_neg g3])
  · refine vc_t rfl (And.intro rfl (fin _ ?_ ?_)) <;> (unfold f_setO; rw [if_neg g]))
def C_xsyphon : am_C := fun av n σ τ nf P => ∃ (v : Int32), pubX [.int v] (f_syphon v) av n σ τ nf P
set_option maxRecDepth 100000 in
theorem M_xsyphon (d : Nat) : am_Met (d + 3) 708 C_xsyphon := am_meth (own0 := "CanalEnd") 708 (d + 2) 155 T_X7_syphon (fun y => bif Nat.beq y 740 then C_isIn else (am_no)) C_xsyphon rfl F_X7_syphon rfl (by decide +kernel) Tc_X7_syphon (fun y => am_g (M_isIn (d + 1)) (am_no_met)) (by
  intro av n σ τ nf P hnf hC
  obtain ⟨v, rfl, lf, ⟨K, Q, S, Ce, fl, tr⟩, rfl, hI, rfl, hP⟩ := hC
  have hn := Nlf_le hI.2.2.2.2.2.2.2.2.2
  refine ⟨hn, rfl, Nat.le_of_ble_eq_true rfl, fun Wb hs => ?_⟩
  have hI : InvX σ nf lf K Q S Ce fl tr := hI
  have hK := hI.1
  have hR := hI.2.1
  have hM10 := hK.2.1
  have hO8 := hK.2.2.1
  have eM : σ 1 1 = nI (K 0 1) := hR.1 1 (by omega)
  have eO : σ 1 2 = nI (K 0 2) := hR.1 2 (by omega)
  have fin : ∀ r9 : Int32, (f_syphon v (K, Q, S, Ce, fl, tr)).2 = (K, Q, S, Ce, fl, tr) → (f_syphon v (K, Q, S, Ce, fl, tr)).1 = .int r9 → P (some (.int r9)) σ (tauY 0 lf) := fun r9 e1 e2 => p_eqv e2 (hP σ (by rw [e1]; exact hI) (fun _ _ => fun _ => rfl))
  have fin2 : ∀ (v9 : Value) (K9 Q9 S9 : KT) (Ce9 : Nat → Nat → Int32) (fl9 : Nat) (tr9 : Int32) (σ9 : am_Sg), f_syphon v (K, Q, S, Ce, fl, tr) = (v9, (K9, Q9, S9, Ce9, fl9, tr9)) → InvX σ9 nf lf K9 Q9 S9 Ce9 fl9 tr9 → FrX σ σ9 → P (some v9) σ9 (tauY 0 lf) := fun v9 K9 Q9 S9 Ce9 fl9 tr9 σ9 e h1 h2 => by have := hP σ9 (by rw [e]; exact h1) h2; rw [e] at this; exact this
  refine hs (fun _ => false) 60 0 _ _ _ _ _ ?_
  refine ⟨rfl, v, 0, 99, rfl, fun g2 => ?_, fun g2 => ?_⟩
  · have g2 := (in_iff (N := 100) rfl).mp g2
    have g3 := g2
    obtain ⟨w, hw, rfl⟩ := inN_ex g2
    refine vc_f (by decide) (fun σ2 e2 => And.intro (Or.inl rfl) (fun σ3 e3 => And.intro rfl ?_))
    have e2 : σ2 = am_up σ 1 3 (nI w) := e2
    have e3 : σ3 = am_up σ2 43 2 0 := e3
    have ef : f_syphon (nI w) (K, Q, S, Ce, fl, tr) = (.int (nI (K 0 3)), (setK K 0 3 w, Q, S, Ce, fl, tr)) := by
      unfold f_syphon
      rw [if_pos g3, nI_clamp (n := w) (by omega)]
    have fr : ∀ q, ¬ q = 1 → ¬ q = 43 → σ3 q = σ q := fun q g1 g2 => by rw [e3, am_up_ne g2, e2, am_up_ne g1]
    have f43 : ∀ i, ¬ i = 2 → σ3 43 i = σ 43 i := fun i g => by rw [e3, up_ne g, e2, up_rn (by omega)]
    have := hP σ3 (by
      rw [ef]
      show InvX σ3 nf lf (setK K 0 3 w) Q S Ce fl tr
      refine hI.anew (hK.siph (by omega)) ?_ ?_ ?_ (by rw [e3]; exact up_at) (fun q hq => fr q (by omega) (by omega)) (fun i hi => by rw [fr 11 (by omega) (by omega)]; exact (hI.2.2.2.2.2.2.2.2.1 i hi).1)
      · have := RepX.siph (v := w) hR
        rw [← e2] at this
        exact this.frame (fun q g1 g2 => by rw [e3]; exact am_up_ne (by omega))
      · have := hI.2.2.1
        unfold WfQ at this ⊢
        rw [show setK K 0 3 w 0 1 = K 0 1 from setK_o (by omega)]
        exact this
      · have := hI.2.2.2.1
        unfold RepQ at this ⊢
        rw [f43 0 (by omega), fr 54 (by omega) (by omega), fr 55 (by omega) (by omega), fr 56 (by omega) (by omega), fr 57 (by omega) (by omega)]
        exact this) (fun q g1 g2 => fr q (by omega) (by omega))
    rw [ef] at this
    rw [show σ 1 3 = nI (K 0 3) from hR.1 3 (by omega)]
    exact this
  · have g3 : ¬ inN v 100 := fun q => g2 ((in_iff rfl).mpr q)
    refine vc_t rfl (And.intro rfl (fin _ ?_ ?_)) <;> (unfold f_syphon; rw [if_neg g3]))
def C_xtrace : am_C := fun av n σ τ nf P => ∃ _u : Unit, pubX [] (f_trace) av n σ τ nf P
set_option maxRecDepth 100000 in
theorem M_xtrace (d : Nat) : am_Met (d + 1) 737 C_xtrace := am_meth (own0 := "CanalEnd") 737 (d + 0) 155 T_X7_trace (fun y => am_no) C_xtrace rfl F_X7_trace rfl (by decide +kernel) Tc_X7_trace (fun y => am_no_met) (by
  intro av n σ τ nf P hnf hC
  obtain ⟨_u, rfl, lf, ⟨K, Q, S, Ce, fl, tr⟩, rfl, hI, rfl, hP⟩ := hC
  have hn := Nlf_le hI.2.2.2.2.2.2.2.2.2
  refine ⟨hn, rfl, Nat.le_of_ble_eq_true rfl, fun Wb hs => ?_⟩
  have hI : InvX σ nf lf K Q S Ce fl tr := hI
  have hK := hI.1
  have hR := hI.2.1
  have hM10 := hK.2.1
  have hO8 := hK.2.2.1
  have eM : σ 1 1 = nI (K 0 1) := hR.1 1 (by omega)
  have eO : σ 1 2 = nI (K 0 2) := hR.1 2 (by omega)
  have fin : ∀ r9 : Int32, (f_trace (K, Q, S, Ce, fl, tr)).2 = (K, Q, S, Ce, fl, tr) → (f_trace (K, Q, S, Ce, fl, tr)).1 = .int r9 → P (some (.int r9)) σ (tauY 0 lf) := fun r9 e1 e2 => p_eqv e2 (hP σ (by rw [e1]; exact hI) (fun _ _ => fun _ => rfl))
  have fin2 : ∀ (v9 : Value) (K9 Q9 S9 : KT) (Ce9 : Nat → Nat → Int32) (fl9 : Nat) (tr9 : Int32) (σ9 : am_Sg), f_trace (K, Q, S, Ce, fl, tr) = (v9, (K9, Q9, S9, Ce9, fl9, tr9)) → InvX σ9 nf lf K9 Q9 S9 Ce9 fl9 tr9 → FrX σ σ9 → P (some v9) σ9 (tauY 0 lf) := fun v9 K9 Q9 S9 Ce9 fl9 tr9 σ9 e h1 h2 => by have := hP σ9 (by rw [e]; exact h1) h2; rw [e] at this; exact this
  refine hs (fun _ => false) 20 0 _ _ _ _ _ (And.intro rfl (fin _ rfl ?_))
  rw [show σ 0 11 = _ from hI.2.2.2.2.2.2.2.1.2]
  rfl)
def C_xfault : am_C := fun av n σ τ nf P => ∃ _u : Unit, pubX [] (f_fault) av n σ τ nf P
set_option maxRecDepth 100000 in
theorem M_xfault (d : Nat) : am_Met (d + 1) 738 C_xfault := am_meth (own0 := "CanalEnd") 738 (d + 0) 155 T_X7_fault (fun y => am_no) C_xfault rfl F_X7_fault rfl (by decide +kernel) Tc_X7_fault (fun y => am_no_met) (by
  intro av n σ τ nf P hnf hC
  obtain ⟨_u, rfl, lf, ⟨K, Q, S, Ce, fl, tr⟩, rfl, hI, rfl, hP⟩ := hC
  have hn := Nlf_le hI.2.2.2.2.2.2.2.2.2
  refine ⟨hn, rfl, Nat.le_of_ble_eq_true rfl, fun Wb hs => ?_⟩
  have hI : InvX σ nf lf K Q S Ce fl tr := hI
  have hK := hI.1
  have hR := hI.2.1
  have hM10 := hK.2.1
  have hO8 := hK.2.2.1
  have eM : σ 1 1 = nI (K 0 1) := hR.1 1 (by omega)
  have eO : σ 1 2 = nI (K 0 2) := hR.1 2 (by omega)
  have fin : ∀ r9 : Int32, (f_fault (K, Q, S, Ce, fl, tr)).2 = (K, Q, S, Ce, fl, tr) → (f_fault (K, Q, S, Ce, fl, tr)).1 = .int r9 → P (some (.int r9)) σ (tauY 0 lf) := fun r9 e1 e2 => p_eqv e2 (hP σ (by rw [e1]; exact hI) (fun _ _ => fun _ => rfl))
  have fin2 : ∀ (v9 : Value) (K9 Q9 S9 : KT) (Ce9 : Nat → Nat → Int32) (fl9 : Nat) (tr9 : Int32) (σ9 : am_Sg), f_fault (K, Q, S, Ce, fl, tr) = (v9, (K9, Q9, S9, Ce9, fl9, tr9)) → InvX σ9 nf lf K9 Q9 S9 Ce9 fl9 tr9 → FrX σ σ9 → P (some v9) σ9 (tauY 0 lf) := fun v9 K9 Q9 S9 Ce9 fl9 tr9 σ9 e h1 h2 => by have := hP σ9 (by rw [e]; exact h1) h2; rw [e] at this; exact this
  refine hs (fun _ => false) 20 0 _ _ _ _ _ (And.intro rfl (fin _ rfl ?_))
  rw [show σ 0 10 = _ from hI.2.2.2.2.2.2.2.1.1]
  rfl)
def C_mofMile : am_C := fun av n σ τ nf P => ∃ (j : Int32) (what : Int32), pubM [.int j, .int what] (f_ofMile j what) av n σ τ nf P
set_option maxRecDepth 100000 in
theorem M_mofMile (d : Nat) : am_Met (d + 3) 816 C_mofMile := am_meth (own0 := "CanalEndModel") 816 (d + 2) 155 T_X8_ofMile (fun y => bif Nat.beq y 809 then C_mMile else (am_no)) C_mofMile rfl F_X8_ofMile rfl (by decide +kernel) Tc_X8_ofMile (fun y => am_g (M_mMile (d + 1)) (am_no_met)) (by
  intro av n σ τ nf P hnf hC
  obtain ⟨j, what, rfl, hn, lf, ⟨K, Q, S, Ce, fl, tr⟩, rfl, hI, rfl, hP⟩ := hC
  refine ⟨hn, rfl, Nat.le_of_ble_eq_true rfl, fun Wb hs => ?_⟩
  have hI : InvM σ K Q S Ce fl tr := hI
  have hK := hI.1
  have hR := hI.2.1
  have hM10 := hK.2.1
  have hO8 := hK.2.2.1
  have eM := hR.2.1
  have eO := hR.2.2.1
  have fin : ∀ r9 : Int32, (f_ofMile j what (K, Q, S, Ce, fl, tr)).2 = (K, Q, S, Ce, fl, tr) → (f_ofMile j what (K, Q, S, Ce, fl, tr)).1 = .int r9 → P (some (.int r9)) σ (tauY 0 lf) := fun r9 e1 e2 => p_eqv e2 (hP σ (by rw [e1]; exact hI) (fun _ _ => rfl))
  have fin2 : ∀ (v9 : Value) (K9 Q9 S9 : KT) (Ce9 : Nat → Nat → Int32) (fl9 : Nat) (tr9 : Int32) (σ9 : am_Sg), f_ofMile j what (K, Q, S, Ce, fl, tr) = (v9, (K9, Q9, S9, Ce9, fl9, tr9)) → InvM σ9 K9 Q9 S9 Ce9 fl9 tr9 → FrM σ σ9 → P (some v9) σ9 (tauY 0 lf) := fun v9 K9 Q9 S9 Ce9 fl9 tr9 σ9 e h1 h2 => by have := hP σ9 (by rw [e]; exact h1) h2; rw [e] at this; exact this
  refine hs (fun _ => false) 80 0 _ _ _ _ _ ?_
  refine ⟨rfl, hn, 0, lf, K 0 1, j, rfl, rfl, eM, by omega, fun g => ?_, fun g => ?_⟩
  · obtain ⟨i, hi, rfl⟩ := inN_ex g
    have e1 := (hR.2.2.2.2.1 i hi).1
    have e2 := (hR.2.2.2.2.1 i hi).2
    have e3 : σ 122 i = nI (K 3 i) := by rw [hR.2.2.2.2.2.1 i (by omega), fo_lt hi]
    have hc : (nI i).toNatClampNeg = i := nI_clamp (by omega)
    have hc1 : (nI i + 1).toNatClampNeg = i + 1 := by rw [nI_1]; exact nI_clamp (by omega)
    have hb := (hK.2.2.2.2.2.2.1 i hi).2.2
    have e4 : σ 122 (i + 1) - σ 122 i = nI (K 4 i) := by rw [hR.2.2.2.2.2.1 (i + 1) (by omega), fo_succ hK hi, e3, pk_sub (by omega)]; congr 1; omega
    have z4 : nI (K 4 i) = 0 ↔ K 4 i = 0 := nI_eq (b := 0) (by omega) (by omega)
    refine vc_f (by decide) (And.intro (by rw [nI_1]; exact vin (show i + 1 < 11 by omega)) (And.intro (vin (show i < 11 by omega)) (And.intro (fun c0 => ?_) (fun c0 => And.intro (fun c1 => ?_) (fun c1 => And.intro (fun c2 => ?_) (fun c2 => And.intro (fun c3 => ?_) (fun c3 => ?_)))))))
    · refine And.intro (vin (show i < 10 by omega)) (And.intro rfl (fin _ rfl ?_))
      simp only [f_ofMile]
      rw [if_pos g, if_pos c0, hc, e1]
    · refine And.intro (vin (show i < 10 by omega)) (And.intro rfl (fin _ rfl ?_))
      simp only [f_ofMile]
      rw [if_pos g, if_neg c0, if_pos c1, hc, e2]
    · refine vc_if (fun c4 => And.intro rfl (fin _ rfl ?_)) (fun c4 => And.intro (vin (show i < 11 by omega)) (And.intro rfl (fin _ rfl ?_)))
      · rw [hc, hc1, e4, z4] at c4
        simp only [f_ofMile]
        rw [if_pos g, if_neg c0, if_neg c1, if_pos c2, hc, if_pos c4]
      · rw [hc, hc1, e4, z4] at c4
        simp only [f_ofMile]
        rw [if_pos g, if_neg c0, if_neg c1, if_pos c2, hc, if_neg c4, e3]
    · refine And.intro rfl (fin _ rfl ?_)
      simp only [f_ofMile]
      rw [if_pos g, if_neg c0, if_neg c1, if_neg c2, if_pos c3, hc, hc1, e4]
    · refine And.intro rfl (fin _ rfl ?_)
      simp only [f_ofMile]
      rw [if_pos g, if_neg c0, if_neg c1, if_neg c2, if_neg c3]
  · refine vc_t rfl (And.intro rfl (fin _ rfl ?_))
    simp only [f_ofMile]
    rw [if_neg g])
def C_mofOutlet : am_C := fun av n σ τ nf P => ∃ (o : Int32) (what : Int32), pubM [.int o, .int what] (f_ofOutlet o what) av n σ τ nf P
set_option maxRecDepth 100000 in
theorem M_mofOutlet (d : Nat) : am_Met (d + 3) 818 C_mofOutlet := am_meth (own0 := "CanalEndModel") 818 (d + 2) 155 T_X8_ofOutlet (fun y => bif Nat.beq y 810 then C_mOutlet else (am_no)) C_mofOutlet rfl F_X8_ofOutlet rfl (by decide +kernel) Tc_X8_ofOutlet (fun y => am_g (M_mOutlet (d + 1)) (am_no_met)) (by
  intro av n σ τ nf P hnf hC
  obtain ⟨o, what, rfl, hn, lf, ⟨K, Q, S, Ce, fl, tr⟩, rfl, hI, rfl, hP⟩ := hC
  refine ⟨hn, rfl, Nat.le_of_ble_eq_true rfl, fun Wb hs => ?_⟩
  have hI : InvM σ K Q S Ce fl tr := hI
  have hK := hI.1
  have hR := hI.2.1
  have hM10 := hK.2.1
  have hO8 := hK.2.2.1
  have eM := hR.2.1
  have eO := hR.2.2.1
  have fin : ∀ r9 : Int32, (f_ofOutlet o what (K, Q, S, Ce, fl, tr)).2 = (K, Q, S, Ce, fl, tr) → (f_ofOutlet o what (K, Q, S, Ce, fl, tr)).1 = .int r9 → P (some (.int r9)) σ (tauY 0 lf) := fun r9 e1 e2 => p_eqv e2 (hP σ (by rw [e1]; exact hI) (fun _ _ => rfl))
  have fin2 : ∀ (v9 : Value) (K9 Q9 S9 : KT) (Ce9 : Nat → Nat → Int32) (fl9 : Nat) (tr9 : Int32) (σ9 : am_Sg), f_ofOutlet o what (K, Q, S, Ce, fl, tr) = (v9, (K9, Q9, S9, Ce9, fl9, tr9)) → InvM σ9 K9 Q9 S9 Ce9 fl9 tr9 → FrM σ σ9 → P (some v9) σ9 (tauY 0 lf) := fun v9 K9 Q9 S9 Ce9 fl9 tr9 σ9 e h1 h2 => by have := hP σ9 (by rw [e]; exact h1) h2; rw [e] at this; exact this
  refine hs (fun _ => false) 60 0 _ _ _ _ _ ?_
  refine ⟨rfl, hn, 0, lf, K 0 2, o, rfl, rfl, eO, by omega, fun g => ?_, fun g => ?_⟩
  · obtain ⟨i, hi, rfl⟩ := inN_ex g
    have hc : (nI i).toNatClampNeg = i := nI_clamp (by omega)
    have hk9 := hK.2.2.2.2.2.2.2.2.2 i hi
    have e8 : σ 126 i = nI (K 8 i) := hR.2.2.2.2.2.2 3 (by omega) i hi
    have e5 : σ 123 i = nI (K 5 i) := hR.2.2.2.2.2.2 0 (by omega) i hi
    have e6 : σ 124 i = nI (K 6 i) := hR.2.2.2.2.2.2 1 (by omega) i hi
    have e7 : σ 125 i = nI (K 7 i) := hR.2.2.2.2.2.2 2 (by omega) i hi
    have e9 : σ 127 i = nI (K 9 i) := hR.2.2.2.2.2.2 4 (by omega) i hi
    have e10 : σ 128 i = nI (K 10 i) := hR.2.2.2.2.2.2 5 (by omega) i hi
    refine vc_f (by decide) (And.intro (fun c0 => ?_) (fun c0 => And.intro (fun c1 => ?_) (fun c1 => And.intro (fun c2 => ?_) (fun c2 => And.intro (fun c3 => ?_) (fun c3 => And.intro (fun c4 => ?_) (fun c4 => And.intro (fun c5 => ?_) (fun c5 => ?_)))))))
    · refine And.intro (vin (show i < 8 by omega)) (And.intro rfl (fin _ rfl ?_))
      simp only [f_ofOutlet]
      rw [if_pos g, if_pos c0, hc, e8]
    · refine And.intro (vin (show i < 8 by omega)) (And.intro rfl (fin _ rfl ?_))
      simp only [f_ofOutlet]
      rw [if_pos g, if_neg c0, if_pos c1, hc, e5]
    · refine And.intro (vin (show i < 8 by omega)) (And.intro rfl (fin _ rfl ?_))
      simp only [f_ofOutlet]
      rw [if_pos g, if_neg c0, if_neg c1, if_pos c2, hc, e6]
    · refine And.intro (vin (show i < 8 by omega)) (And.intro rfl (fin _ rfl ?_))
      simp only [f_ofOutlet]
      rw [if_pos g, if_neg c0, if_neg c1, if_neg c2, if_pos c3, hc, e7]
    · refine And.intro (vin (show i < 8 by omega)) (And.intro rfl (fin _ rfl ?_))
      simp only [f_ofOutlet]
      rw [if_pos g, if_neg c0, if_neg c1, if_neg c2, if_neg c3, if_pos c4, hc, e9]
    · refine And.intro (vin (show i < 8 by omega)) (And.intro rfl (fin _ rfl ?_))
      simp only [f_ofOutlet]
      rw [if_pos g, if_neg c0, if_neg c1, if_neg c2, if_neg c3, if_neg c4, if_pos c5, hc, e10]
    · refine And.intro rfl (fin _ rfl ?_)
      simp only [f_ofOutlet]
      rw [if_pos g, if_neg c0, if_neg c1, if_neg c2, if_neg c3, if_neg c4, if_neg c5]
  · refine vc_t rfl (And.intro rfl (fin _ rfl ?_))
    simp only [f_ofOutlet]
    rw [if_neg g])
def C_mkind : am_C := fun av n σ τ nf P => ∃ (o : Int32) (v : Int32), pubM [.int o, .int v] (f_setO 8 3 o v) av n σ τ nf P
set_option maxRecDepth 100000 in
theorem M_mkind (d : Nat) : am_Met (d + 3) 819 C_mkind := am_meth (own0 := "CanalEndModel") 819 (d + 2) 155 T_X8_kind (fun y => bif Nat.beq y 810 then C_mOutlet else (bif Nat.beq y 803 then C_within else (am_no))) C_mkind rfl F_X8_kind rfl (by decide +kernel) Tc_X8_kind (fun y => am_g (M_mOutlet (d + 1)) (am_g (M_within (d + 1)) (am_no_met))) (by
  intro av n σ τ nf P hnf hC
  obtain ⟨o, v, rfl, hn, lf, ⟨K, Q, S, Ce, fl, tr⟩, rfl, hI, rfl, hP⟩ := hC
  refine ⟨hn, rfl, Nat.le_of_ble_eq_true rfl, fun Wb hs => ?_⟩
  have hI : InvM σ K Q S Ce fl tr := hI
  have hK := hI.1
  have hR := hI.2.1
  have hM10 := hK.2.1
  have hO8 := hK.2.2.1
  have eM := hR.2.1
  have eO := hR.2.2.1
  have fin : ∀ r9 : Int32, (f_setO 8 3 o v (K, Q, S, Ce, fl, tr)).2 = (K, Q, S, Ce, fl, tr) → (f_setO 8 3 o v (K, Q, S, Ce, fl, tr)).1 = .int r9 → P (some (.int r9)) σ (tauY 0 lf) := fun r9 e1 e2 => p_eqv e2 (hP σ (by rw [e1]; exact hI) (fun _ _ => rfl))
  have fin2 : ∀ (v9 : Value) (K9 Q9 S9 : KT) (Ce9 : Nat → Nat → Int32) (fl9 : Nat) (tr9 : Int32) (σ9 : am_Sg), f_setO 8 3 o v (K, Q, S, Ce, fl, tr) = (v9, (K9, Q9, S9, Ce9, fl9, tr9)) → InvM σ9 K9 Q9 S9 Ce9 fl9 tr9 → FrM σ σ9 → P (some v9) σ9 (tauY 0 lf) := fun v9 K9 Q9 S9 Ce9 fl9 tr9 σ9 e h1 h2 => by have := hP σ9 (by rw [e]; exact h1) h2; rw [e] at this; exact this
  refine hs (fun _ => false) 60 0 _ _ _ _ _ ?_
  refine ⟨rfl, hn, 0, lf, K 0 2, o, rfl, rfl, eO, by omega, fun g => ?_, fun g => ?_⟩
  · obtain ⟨i, hi, rfl⟩ := inN_ex g
    have hc : (nI i).toNatClampNeg = i := nI_clamp (by omega)
    have e1 : σ 126 i = nI (K 8 i) := hR.2.2.2.2.2.2 3 (by omega) i hi
    refine vc_f (by decide) ⟨rfl, v, 0, 2, rfl, fun g2 => ?_, fun g2 => ?_⟩
    · have g2 := (in_iff (N := 3) rfl).mp g2
      have g3 := g2
      obtain ⟨w, hw, rfl⟩ := inN_ex g2
      refine vc_f (by decide) (And.intro (vin (show i < 8 by omega)) (And.intro (vin (show i < 8 by omega)) (fun σ2 e2 => And.intro rfl ?_)))
      rw [hc] at e2
      have e2 : σ2 = am_up σ 126 i (nI w) := e2
      have ef : f_setO 8 3 (nI i) (nI w) (K, Q, S, Ce, fl, tr) = (.int (nI (K 8 i)), (setK K 8 i w, Q, S, Ce, fl, tr)) := by
        unfold f_setO
        rw [if_pos g, if_pos g3, hc, nI_clamp (n := w) (by omega)]
      have := hP σ2 (by rw [ef, e2]; exact hI.setO (f := 8) (by omega) (show w ≤ 2 by omega)) (fun q g1 => by rw [e2]; exact am_up_ne (by omega))
      rw [ef] at this
      rw [hc, e1]
      exact this
    · have g3 : ¬ inN v 3 := fun q => g2 ((in_iff rfl).mpr q)
      refine vc_t rfl (And.intro rfl (fin _ ?_ ?_)) <;> (unfold f_setO; rw [if_pos g, if_neg g3])
  · refine vc_t rfl (And.intro rfl (fin _ ?_ ?_)) <;> (unfold f_setO; rw [if_neg g]))
def C_mneeds : am_C := fun av n σ τ nf P => ∃ (o : Int32) (v : Int32), pubM [.int o, .int v] (f_setO 9 1000 o v) av n σ τ nf P
set_option maxRecDepth 100000 in
theorem M_mneeds (d : Nat) : am_Met (d + 3) 820 C_mneeds := am_meth (own0 := "CanalEndModel") 820 (d + 2) 155 T_X8_needs (fun y => bif Nat.beq y 810 then C_mOutlet else (bif Nat.beq y 803 then C_within else (am_no))) C_mneeds rfl F_X8_needs rfl (by decide +kernel) Tc_X8_needs (fun y => am_g (M_mOutlet (d + 1)) (am_g (M_within (d + 1)) (am_no_met))) (by
  intro av n σ τ nf P hnf hC
  obtain ⟨o, v, rfl, hn, lf, ⟨K, Q, S, Ce, fl, tr⟩, rfl, hI, rfl, hP⟩ := hC
  refine ⟨hn, rfl, Nat.le_of_ble_eq_true rfl, fun Wb hs => ?_⟩
  have hI : InvM σ K Q S Ce fl tr := hI
  have hK := hI.1
  have hR := hI.2.1
  have hM10 := hK.2.1
  have hO8 := hK.2.2.1
  have eM := hR.2.1
  have eO := hR.2.2.1
  have fin : ∀ r9 : Int32, (f_setO 9 1000 o v (K, Q, S, Ce, fl, tr)).2 = (K, Q, S, Ce, fl, tr) → (f_setO 9 1000 o v (K, Q, S, Ce, fl, tr)).1 = .int r9 → P (some (.int r9)) σ (tauY 0 lf) := fun r9 e1 e2 => p_eqv e2 (hP σ (by rw [e1]; exact hI) (fun _ _ => rfl))
  have fin2 : ∀ (v9 : Value) (K9 Q9 S9 : KT) (Ce9 : Nat → Nat → Int32) (fl9 : Nat) (tr9 : Int32) (σ9 : am_Sg), f_setO 9 1000 o v (K, Q, S, Ce, fl, tr) = (v9, (K9, Q9, S9, Ce9, fl9, tr9)) → InvM σ9 K9 Q9 S9 Ce9 fl9 tr9 → FrM σ σ9 → P (some v9) σ9 (tauY 0 lf) := fun v9 K9 Q9 S9 Ce9 fl9 tr9 σ9 e h1 h2 => by have := hP σ9 (by rw [e]; exact h1) h2; rw [e] at this; exact this
  refine hs (fun _ => false) 60 0 _ _ _ _ _ ?_
  refine ⟨rfl, hn, 0, lf, K 0 2, o, rfl, rfl, eO, by omega, fun g => ?_, fun g => ?_⟩
  · obtain ⟨i, hi, rfl⟩ := inN_ex g
    have hc : (nI i).toNatClampNeg = i := nI_clamp (by omega)
    have e1 : σ 127 i = nI (K 9 i) := hR.2.2.2.2.2.2 4 (by omega) i hi
    refine vc_f (by decide) ⟨rfl, v, 0, 999, rfl, fun g2 => ?_, fun g2 => ?_⟩
    · have g2 := (in_iff (N := 1000) rfl).mp g2
      have g3 := g2
      obtain ⟨w, hw, rfl⟩ := inN_ex g2
      refine vc_f (by decide) (And.intro (vin (show i < 8 by omega)) (And.intro (vin (show i < 8 by omega)) (fun σ2 e2 => And.intro rfl ?_)))
      rw [hc] at e2
      have e2 : σ2 = am_up σ 127 i (nI w) := e2
      have ef : f_setO 9 1000 (nI i) (nI w) (K, Q, S, Ce, fl, tr) = (.int (nI (K 9 i)), (setK K 9 i w, Q, S, Ce, fl, tr)) := by
        unfold f_setO
        rw [if_pos g, if_pos g3, hc, nI_clamp (n := w) (by omega)]
      have := hP σ2 (by rw [ef, e2]; exact hI.setO (f := 9) (by omega) (show w ≤ 999 by omega)) (fun q g1 => by rw [e2]; exact am_up_ne (by omega))
      rw [ef] at this
      rw [hc, e1]
      exact this
    · have g3 : ¬ inN v 1000 := fun q => g2 ((in_iff rfl).mpr q)
      refine vc_t rfl (And.intro rfl (fin _ ?_ ?_)) <;> (unfold f_setO; rw [if_pos g, if_neg g3])
  · refine vc_t rfl (And.intro rfl (fin _ ?_ ?_)) <;> (unfold f_setO; rw [if_neg g]))
def C_msyphon : am_C := fun av n σ τ nf P => ∃ (v : Int32), pubM [.int v] (f_syphon v) av n σ τ nf P
set_option maxRecDepth 100000 in
theorem M_msyphon (d : Nat) : am_Met (d + 3) 822 C_msyphon := am_meth (own0 := "CanalEndModel") 822 (d + 2) 155 T_X8_syphon (fun y => bif Nat.beq y 803 then C_within else (am_no)) C_msyphon rfl F_X8_syphon rfl (by decide +kernel) Tc_X8_syphon (fun y => am_g (M_within (d + 1)) (am_no_met)) (by
  intro av n σ τ nf P hnf hC
  obtain ⟨v, rfl, hn, lf, ⟨K, Q, S, Ce, fl, tr⟩, rfl, hI, rfl, hP⟩ := hC
  refine ⟨hn, rfl, Nat.le_of_ble_eq_true rfl, fun Wb hs => ?_⟩
  have hI : InvM σ K Q S Ce fl tr := hI
  have hK := hI.1
  have hR := hI.2.1
  have hM10 := hK.2.1
  have hO8 := hK.2.2.1
  have eM := hR.2.1
  have eO := hR.2.2.1
  have fin : ∀ r9 : Int32, (f_syphon v (K, Q, S, Ce, fl, tr)).2 = (K, Q, S, Ce, fl, tr) → (f_syphon v (K, Q, S, Ce, fl, tr)).1 = .int r9 → P (some (.int r9)) σ (tauY 0 lf) := fun r9 e1 e2 => p_eqv e2 (hP σ (by rw [e1]; exact hI) (fun _ _ => rfl))
  have fin2 : ∀ (v9 : Value) (K9 Q9 S9 : KT) (Ce9 : Nat → Nat → Int32) (fl9 : Nat) (tr9 : Int32) (σ9 : am_Sg), f_syphon v (K, Q, S, Ce, fl, tr) = (v9, (K9, Q9, S9, Ce9, fl9, tr9)) → InvM σ9 K9 Q9 S9 Ce9 fl9 tr9 → FrM σ σ9 → P (some v9) σ9 (tauY 0 lf) := fun v9 K9 Q9 S9 Ce9 fl9 tr9 σ9 e h1 h2 => by have := hP σ9 (by rw [e]; exact h1) h2; rw [e] at this; exact this
  refine hs (fun _ => false) 60 0 _ _ _ _ _ ?_
  refine ⟨rfl, v, 0, 99, rfl, fun g2 => ?_, fun g2 => ?_⟩
  · have g2 := (in_iff (N := 100) rfl).mp g2
    have g3 := g2
    obtain ⟨w, hw, rfl⟩ := inN_ex g2
    refine vc_f (by decide) (fun σ2 e2 => And.intro rfl ?_)
    have e2 : σ2 = am_up σ 116 17 (nI w) := e2
    have ef : f_syphon (nI w) (K, Q, S, Ce, fl, tr) = (.int (nI (K 0 3)), (setK K 0 3 w, Q, S, Ce, fl, tr)) := by
      unfold f_syphon
      rw [if_pos g3, nI_clamp (n := w) (by omega)]
    have fr : ∀ q, ¬ q = 116 → σ2 q = σ q := fun q g1 => by rw [e2, am_up_ne g1]
    have f6 : ∀ i, ¬ i = 17 → σ2 116 i = σ 116 i := fun i g => by rw [e2, up_ne g]
    have := hP σ2 (by
      rw [ef]
      show InvM σ2 (setK K 0 3 w) Q S Ce fl tr
      obtain ⟨h1, ⟨r1, r2, r3, r4, r5, r6, r7⟩, h3, h4, h5, h6, h7, h8⟩ := hI
      have e9 : ∀ a, ¬ a = 0 → setK K 0 3 w a = K a := fun a g => setK_ne g
      have a1 : setK K 0 3 w 0 1 = K 0 1 := setK_o (by omega)
      have a2 : setK K 0 3 w 0 2 = K 0 2 := setK_o (by omega)
      have efo : fo (setK K 0 3 w) = fo K := by funext j; unfold fo; rw [a1, a2, e9 3 (by omega)]
      refine ⟨hK.siph (by omega), ⟨?_, ?_, ?_, ?_, ?_, ?_, ?_⟩, ?_, ?_, h5, ?_, ?_, ?_⟩
      · rw [f6 5 (by omega), show setK K 0 3 w 0 0 = K 0 0 from setK_o (by omega)]; exact r1
      · rw [f6 6 (by omega), a1]; exact r2
      · rw [f6 7 (by omega), a2]; exact r3
      · rw [e2, show setK K 0 3 w 0 3 = w from setK_at]; exact up_at
      · rw [fr 120 (by omega), fr 121 (by omega), a1, e9 1 (by omega), e9 2 (by omega)]; exact r5
      · rw [fr 122 (by omega), a1, efo]; exact r6
      · intro f hf o ho
        rw [a2] at ho
        rw [fr _ (by omega), e9 _ (by omega)]; exact r7 f hf o ho
      · unfold WfQ; rw [a1]; exact h3
      · rw [f6 33 (by omega), fr 140 (by omega), fr 141 (by omega), fr 142 (by omega), fr 143 (by omega)]; exact h4
      · intro k hk; rw [fr 117 (by omega), fr 118 (by omega), fr 119 (by omega)]; exact h6 k hk
      · rw [f6 0 (by omega)]; exact h7
      · rw [f6 1 (by omega)]; exact h8) (fun q g1 => fr q (by omega))
    rw [ef] at this
    rw [show σ 116 17 = nI (K 0 3) from hR.2.2.2.1]
    exact this
  · have g3 : ¬ inN v 100 := fun q => g2 ((in_iff rfl).mpr q)
    refine vc_t rfl (And.intro rfl (fin _ ?_ ?_)) <;> (unfold f_syphon; rw [if_neg g3]))
def C_mtrace : am_C := fun av n σ τ nf P => ∃ _u : Unit, pubM [] (f_trace) av n σ τ nf P
set_option maxRecDepth 100000 in
theorem M_mtrace (d : Nat) : am_Met (d + 1) 871 C_mtrace := am_meth (own0 := "CanalEndModel") 871 (d + 0) 155 T_X8_trace (fun y => am_no) C_mtrace rfl F_X8_trace rfl (by decide +kernel) Tc_X8_trace (fun y => am_no_met) (by
  intro av n σ τ nf P hnf hC
  obtain ⟨_u, rfl, hn, lf, ⟨K, Q, S, Ce, fl, tr⟩, rfl, hI, rfl, hP⟩ := hC
  refine ⟨hn, rfl, Nat.le_of_ble_eq_true rfl, fun Wb hs => ?_⟩
  have hI : InvM σ K Q S Ce fl tr := hI
  have hK := hI.1
  have hR := hI.2.1
  have hM10 := hK.2.1
  have hO8 := hK.2.2.1
  have eM := hR.2.1
  have eO := hR.2.2.1
  have fin : ∀ r9 : Int32, (f_trace (K, Q, S, Ce, fl, tr)).2 = (K, Q, S, Ce, fl, tr) → (f_trace (K, Q, S, Ce, fl, tr)).1 = .int r9 → P (some (.int r9)) σ (tauY 0 lf) := fun r9 e1 e2 => p_eqv e2 (hP σ (by rw [e1]; exact hI) (fun _ _ => rfl))
  have fin2 : ∀ (v9 : Value) (K9 Q9 S9 : KT) (Ce9 : Nat → Nat → Int32) (fl9 : Nat) (tr9 : Int32) (σ9 : am_Sg), f_trace (K, Q, S, Ce, fl, tr) = (v9, (K9, Q9, S9, Ce9, fl9, tr9)) → InvM σ9 K9 Q9 S9 Ce9 fl9 tr9 → FrM σ σ9 → P (some v9) σ9 (tauY 0 lf) := fun v9 K9 Q9 S9 Ce9 fl9 tr9 σ9 e h1 h2 => by have := hP σ9 (by rw [e]; exact h1) h2; rw [e] at this; exact this
  refine hs (fun _ => false) 20 0 _ _ _ _ _ (And.intro rfl (fin _ rfl ?_))
  rw [show σ 116 1 = _ from hI.2.2.2.2.2.2.2]
  rfl)
def C_mfault : am_C := fun av n σ τ nf P => ∃ _u : Unit, pubM [] (f_fault) av n σ τ nf P
set_option maxRecDepth 100000 in
theorem M_mfault (d : Nat) : am_Met (d + 1) 872 C_mfault := am_meth (own0 := "CanalEndModel") 872 (d + 0) 155 T_X8_fault (fun y => am_no) C_mfault rfl F_X8_fault rfl (by decide +kernel) Tc_X8_fault (fun y => am_no_met) (by
  intro av n σ τ nf P hnf hC
  obtain ⟨_u, rfl, hn, lf, ⟨K, Q, S, Ce, fl, tr⟩, rfl, hI, rfl, hP⟩ := hC
  refine ⟨hn, rfl, Nat.le_of_ble_eq_true rfl, fun Wb hs => ?_⟩
  have hI : InvM σ K Q S Ce fl tr := hI
  have hK := hI.1
  have hR := hI.2.1
  have hM10 := hK.2.1
  have hO8 := hK.2.2.1
  have eM := hR.2.1
  have eO := hR.2.2.1
  have fin : ∀ r9 : Int32, (f_fault (K, Q, S, Ce, fl, tr)).2 = (K, Q, S, Ce, fl, tr) → (f_fault (K, Q, S, Ce, fl, tr)).1 = .int r9 → P (some (.int r9)) σ (tauY 0 lf) := fun r9 e1 e2 => p_eqv e2 (hP σ (by rw [e1]; exact hI) (fun _ _ => rfl))
  have fin2 : ∀ (v9 : Value) (K9 Q9 S9 : KT) (Ce9 : Nat → Nat → Int32) (fl9 : Nat) (tr9 : Int32) (σ9 : am_Sg), f_fault (K, Q, S, Ce, fl, tr) = (v9, (K9, Q9, S9, Ce9, fl9, tr9)) → InvM σ9 K9 Q9 S9 Ce9 fl9 tr9 → FrM σ σ9 → P (some v9) σ9 (tauY 0 lf) := fun v9 K9 Q9 S9 Ce9 fl9 tr9 σ9 e h1 h2 => by have := hP σ9 (by rw [e]; exact h1) h2; rw [e] at this; exact this
  refine hs (fun _ => false) 20 0 _ _ _ _ _ (And.intro rfl (fin _ rfl ?_))
  rw [show σ 116 0 = _ from hI.2.2.2.2.2.2.1]
  rfl)
