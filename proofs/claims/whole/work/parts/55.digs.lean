abbrev nwA (K : KT) (f : Nat) : Nat → Int32 := fun o => nI (s_dy K f o)
def f_holds (j set d c f : Int32) (s : ST) : Value × ST := (.int (if inN j (s.1 0 1) then (if inN set (2 ^ s.1 0 2) ∧ okD d c f then (if heldP (nwA s.1 f.toNatClampNeg) (nwA (setK s.1 2 j.toNatClampNeg 0) f.toNatClampNeg) set.toNatClampNeg d c (s.1 0 2) then 1 else 0) else -2) else -1), s)
theorem al_in {O : Nat} (h : O < 9) : (nI (2 ^ O - 1)).toInt = ((2 ^ O : Nat) : Int) - 1 := by
  have := p2_le O h
  rw [nI_toInt (by omega)]
  omega
def bst (s : Nat) : Option Nat → Option Nat
  | none => some s
  | some t => if bcn s ≤ bcn t then some t else some s
def dgs (A D : Nat → Int32) (d c : Int32) (O : Nat) : Nat → Nat × Option Nat
  | 0 => (0, none)
  | s + 1 => if heldP A D s d c O then ((dgs A D d c O s).1 + 1, bst s (dgs A D d c O s).2) else dgs A D d c O s
theorem dgs_t {A D : Nat → Int32} {d c : Int32} {O s : Nat} (h : heldP A D s d c O) : dgs A D d c O (s + 1) = ((dgs A D d c O s).1 + 1, bst s (dgs A D d c O s).2) := if_pos h
theorem dgs_f {A D : Nat → Int32} {d c : Int32} {O s : Nat} (h : ¬ heldP A D s d c O) : dgs A D d c O (s + 1) = dgs A D d c O s := if_neg h
theorem dgs_c {A D A' D' : Nat → Int32} {O : Nat} {d c : Int32} (h : ∀ o, o < O → A o = A' o) (h2 : ∀ o, o < O → D o = D' o) : ∀ s, dgs A D d c O s = dgs A' D' d c O s
  | 0 => rfl
  | s + 1 => by
    by_cases q : heldP A D s d c O
    · rw [dgs_t q, dgs_t ((heldP_c h h2).mp q), dgs_c h h2 s]
    · rw [dgs_f q, dgs_f (fun w => q ((heldP_c h h2).mpr w)), dgs_c h h2 s]
theorem dgs_lt {A D : Nat → Int32} {O : Nat} {d c : Int32} : ∀ s t, (dgs A D d c O s).2 = some t → t < s
  | 0, t, h => by cases h
  | s + 1, t, h => by
    by_cases q : heldP A D s d c O
    · rw [dgs_t q] at h
      have ih := dgs_lt (A := A) (D := D) (O := O) (d := d) (c := c) s
      cases e : (dgs A D d c O s).2 with
      | none => 
        rw [e] at h
        have h : some s = some t := h
        have := Option.some.inj h
        omega
      | some z => 
        rw [e] at h
        have i := ih z e
        have h : (if bcn s ≤ bcn z then some z else some s) = some t := h
        split at h <;> have := Option.some.inj h <;> omega
    · rw [dgs_f q] at h
      have := dgs_lt s t h
      omega
theorem dgs_le {A D : Nat → Int32} {O : Nat} {d c : Int32} : ∀ s, (dgs A D d c O s).1 ≤ s
  | 0 => Nat.le_refl 0
  | s + 1 => by
    have := dgs_le (A := A) (D := D) (O := O) (d := d) (c := c) s
    by_cases q : heldP A D s d c O
    · rw [dgs_t q]; show _ + 1 ≤ _; omega
    · rw [dgs_f q]; omega
def opv : Option Nat → Int32
  | none => -9
  | some t => nI t
theorem nI_n9 : ∀ t, t < 256 → ¬ nI t = -9 := by decide +kernel
theorem bcn_le (s : Nat) : bcn s ≤ 8 := by unfold bcn; omega
def f_digs (j d c f w : Int32) (s : ST) : Value × ST := (.int (if inN j (s.1 0 1) then (if okD d c f ∧ inN w 2 then (if w = 0 then nI (dgs (nwA s.1 f.toNatClampNeg) (nwA (setK s.1 2 j.toNatClampNeg 0) f.toNatClampNeg) d c (s.1 0 2) (2 ^ s.1 0 2)).1 else opv (dgs (nwA s.1 f.toNatClampNeg) (nwA (setK s.1 2 j.toNatClampNeg 0) f.toNatClampNeg) d c (s.1 0 2) (2 ^ s.1 0 2)).2) else -2) else -1), s)
def C_xholds : am_C := fun av n σ τ nf P => ∃ (j : Int32) (set : Int32) (d : Int32) (c : Int32) (f : Int32), pubX [.int j, .int set, .int d, .int c, .int f] (f_holds j set d c f) av n σ τ nf P
set_option maxRecDepth 100000 in
theorem M_xholds (d : Nat) : am_Met (d + 5) 724 C_xholds := am_meth (own0 := "CanalEnd") 724 (d + 4) 155 T_X7_holds (fun y => bif Nat.beq y 746 then C_isMile else (bif Nat.beq y 748 then C_allO else (bif Nat.beq y 740 then C_isIn else (bif Nat.beq y 744 then C_isDigging else (bif Nat.beq y 754 then C_runDays else (bif Nat.beq y 755 then C_isHeld else (am_no))))))) C_xholds rfl F_X7_holds rfl (by decide +kernel) Tc_X7_holds (fun y => am_g (M_isMile (d + 2)) (am_g (M_allO (d + 3)) (am_g (M_isIn (d + 3)) (am_g (M_isDigging (d + 1)) (am_g (M_runDays (d + 0)) (am_g (M_isHeld (d + 2)) (am_no_met))))))) (by
  intro av n σ τ nf P hnf hC
  obtain ⟨j, set, d, c, f, rfl, lf, ⟨K, Q, S, Ce, fl, tr⟩, rfl, hI, rfl, hP⟩ := hC
  have hn := Nlf_le hI.2.2.2.2.2.2.2.2.2
  refine ⟨hn, rfl, Nat.le_of_ble_eq_true rfl, fun Wb hs => ?_⟩
  have hI : InvX σ nf lf K Q S Ce fl tr := hI
  have hK := hI.1
  have hR := hI.2.1
  have hM10 := hK.2.1
  have hO8 := hK.2.2.1
  have eM : σ 1 1 = nI (K 0 1) := hR.1 1 (by omega)
  have eO : σ 1 2 = nI (K 0 2) := hR.1 2 (by omega)
  have fin : ∀ r9 : Int32, (f_holds j set d c f (K, Q, S, Ce, fl, tr)).2 = (K, Q, S, Ce, fl, tr) → (f_holds j set d c f (K, Q, S, Ce, fl, tr)).1 = .int r9 → P (some (.int r9)) σ (tauY 0 lf) := fun r9 e1 e2 => p_eqv e2 (hP σ (by rw [e1]; exact hI) (fun _ _ => fun _ => rfl))
  have fin2 : ∀ (v9 : Value) (K9 Q9 S9 : KT) (Ce9 : Nat → Nat → Int32) (fl9 : Nat) (tr9 : Int32) (σ9 : am_Sg), f_holds j set d c f (K, Q, S, Ce, fl, tr) = (v9, (K9, Q9, S9, Ce9, fl9, tr9)) → InvX σ9 nf lf K9 Q9 S9 Ce9 fl9 tr9 → FrX σ σ9 → P (some v9) σ9 (tauY 0 lf) := fun v9 K9 Q9 S9 Ce9 fl9 tr9 σ9 e h1 h2 => by have := hP σ9 (by rw [e]; exact h1) h2; rw [e] at this; exact this
  have p2 := p2_le (K 0 2) (by omega)
  have hi := in_iff (v := set) (al_in (O := K 0 2) (by omega))
  refine hs (fun _ => false) 80 0 _ _ _ _ _ ⟨rfl, hn, 0, lf, K 0 1, j, rfl, rfl, eM, by omega, fun g => ?_, fun g => vc_t rfl (And.intro rfl (fin _ rfl (congrArg Value.int (by rw [if_neg g]))))⟩
  refine vc_f (by decide) ⟨rfl, hn, lf, K 0 2, rfl, rfl, eO, by omega, ⟨rfl, set, 0, nI (2 ^ K 0 2 - 1), rfl, fun g2 => vc_f (by decide) ⟨rfl, d, c, f, rfl, fun g3 => vc_f (by decide) ?_, fun g3 => vc_t rfl (And.intro rfl (fin _ rfl (congrArg Value.int (by rw [if_pos g, if_neg (fun q => g3 q.2)]))))⟩, fun g2 => vc_t rfl (And.intro rfl (fin _ rfl (congrArg Value.int (by rw [if_pos g, if_neg (fun q => g2 (hi.mpr q.1))]))))⟩⟩
  have g2 := hi.mp g2
  obtain ⟨a, ha, rfl⟩ := inN_ex g
  have hca : (nI a).toNatClampNeg = a := nI_clamp (by omega)
  obtain ⟨z, hz, rfl⟩ := inN_ex g2
  have hcz : (nI z).toNatClampNeg = z := nI_clamp (by omega)
  obtain ⟨u, hu, rfl⟩ := inN_ex g3.2.2
  have hcu : (nI u).toNatClampNeg = u := nI_clamp (by omega)
  refine ⟨rfl, hn, lf, a, u, K, rfl, rfl, hR, hK, hI.2.2.2.2.2.2.2.2.1, ha, by omega, fun σ2 h1 h2 h3 h4 => ?_⟩
  have eO2 : σ2 1 2 = nI (K 0 2) := by rw [h4 1 (by omega) (by omega)]; exact eO
  have hh := heldP_c (s := z) (d := d) (c := c) h1 h2
  refine ⟨rfl, hn, lf, z, K 0 2, d, c, rfl, rfl, by omega, hO8, eO2, fun q => vc_f (by decide) (And.intro rfl ?_), fun q => vc_t rfl (And.intro rfl ?_)⟩
  · exact fin2 _ K Q S Ce fl tr σ2 (by unfold f_holds; rw [if_pos g, if_pos ⟨g2, g3⟩, hca, hcz, hcu, if_pos (hh.mp q)]) (hI.keep (fun q hq => h4 q (by unfold Pq at hq; omega) (by unfold Pq at hq; omega)) h3) (fun q g1 g2 => h4 q (by omega) (by omega))
  · exact fin2 _ K Q S Ce fl tr σ2 (by unfold f_holds; rw [if_pos g, if_pos ⟨g2, g3⟩, hca, hcz, hcu, if_neg (fun w => q (hh.mpr w))]) (hI.keep (fun q hq => h4 q (by unfold Pq at hq; omega) (by unfold Pq at hq; omega)) h3) (fun q g1 g2 => h4 q (by omega) (by omega)))
def C_mholds : am_C := fun av n σ τ nf P => ∃ (j : Int32) (set : Int32) (d : Int32) (c : Int32) (f : Int32), pubM [.int j, .int set, .int d, .int c, .int f] (f_holds j set d c f) av n σ τ nf P
set_option maxRecDepth 100000 in
theorem M_mholds (d : Nat) : am_Met (d + 5) 855 C_mholds := am_meth (own0 := "CanalEndModel") 855 (d + 4) 155 T_X8_holds (fun y => bif Nat.beq y 809 then C_mMile else (bif Nat.beq y 854 then C_mDigging else (bif Nat.beq y 850 then C_layDug else (bif Nat.beq y 853 then C_mHeld else (am_no))))) C_mholds rfl F_X8_holds rfl (by decide +kernel) Tc_X8_holds (fun y => am_g (M_mMile (d + 3)) (am_g (M_mDigging (d + 1)) (am_g (M_layDug (d + 0)) (am_g (M_mHeld (d + 2)) (am_no_met))))) (by
  intro av n σ τ nf P hnf hC
  obtain ⟨j, set, d, c, f, rfl, hn, lf, ⟨K, Q, S, Ce, fl, tr⟩, rfl, hI, rfl, hP⟩ := hC
  refine ⟨hn, rfl, Nat.le_of_ble_eq_true rfl, fun Wb hs => ?_⟩
  have hI : InvM σ K Q S Ce fl tr := hI
  have hK := hI.1
  have hR := hI.2.1
  have hM10 := hK.2.1
  have hO8 := hK.2.2.1
  have eM := hR.2.1
  have eO := hR.2.2.1
  have fin : ∀ r9 : Int32, (f_holds j set d c f (K, Q, S, Ce, fl, tr)).2 = (K, Q, S, Ce, fl, tr) → (f_holds j set d c f (K, Q, S, Ce, fl, tr)).1 = .int r9 → P (some (.int r9)) σ (tauY 0 lf) := fun r9 e1 e2 => p_eqv e2 (hP σ (by rw [e1]; exact hI) (fun _ _ => rfl))
  have fin2 : ∀ (v9 : Value) (K9 Q9 S9 : KT) (Ce9 : Nat → Nat → Int32) (fl9 : Nat) (tr9 : Int32) (σ9 : am_Sg), f_holds j set d c f (K, Q, S, Ce, fl, tr) = (v9, (K9, Q9, S9, Ce9, fl9, tr9)) → InvM σ9 K9 Q9 S9 Ce9 fl9 tr9 → FrM σ σ9 → P (some v9) σ9 (tauY 0 lf) := fun v9 K9 Q9 S9 Ce9 fl9 tr9 σ9 e h1 h2 => by have := hP σ9 (by rw [e]; exact h1) h2; rw [e] at this; exact this
  have p2 := p2_le (K 0 2) (by omega)
  have hi := in_iff (v := set) (al_in (O := K 0 2) (by omega))
  refine hs (fun _ => false) 80 0 _ _ _ _ _ ⟨rfl, hn, 0, lf, K 0 1, j, rfl, rfl, eM, by omega, fun g => ?_, fun g => vc_t rfl (And.intro rfl (fin _ rfl (congrArg Value.int (by rw [if_neg g]))))⟩
  refine vc_f (by decide) (vc_if (fun c1 => ?_) (fun c1 => vc_if (fun c2 => ?_) (fun c2 => ⟨rfl, hn, d, c, f, rfl, fun g3 => vc_f (by decide) ?_, fun g3 => vc_t rfl (And.intro rfl (fin _ rfl (congrArg Value.int (by rw [if_pos g, if_neg (fun q => g3 q.2)]))))⟩)))
  · rw [i_lt, Int32.toInt_zero] at c1
    exact (And.intro rfl (fin _ rfl (congrArg Value.int (by rw [if_pos g, if_neg (fun q => by have := q.1.1; omega)]))))
  · rw [eO, sh_ok _ (by omega), i_le, nI_toInt (by omega)] at c2
    exact (And.intro rfl (fin _ rfl (congrArg Value.int (by rw [if_pos g, if_neg (fun q => by have : set.toInt < ((2 ^ K 0 2 : Nat) : Int) := q.1.2; omega)]))))
  have g2 : inN set (2 ^ K 0 2) := by
    rw [i_lt, Int32.toInt_zero] at c1
    rw [eO, sh_ok _ (by omega), i_le, nI_toInt (by omega)] at c2
    show 0 ≤ set.toInt ∧ set.toInt < ((2 ^ K 0 2 : Nat) : Int)
    omega
  obtain ⟨a, ha, rfl⟩ := inN_ex g
  have hca : (nI a).toNatClampNeg = a := nI_clamp (by omega)
  obtain ⟨z, hz, rfl⟩ := inN_ex g2
  have hcz : (nI z).toNatClampNeg = z := nI_clamp (by omega)
  obtain ⟨u, hu, rfl⟩ := inN_ex g3.2.2
  have hcu : (nI u).toNatClampNeg = u := nI_clamp (by omega)
  refine ⟨rfl, hn, lf, a, u, K, rfl, rfl, hR, hK, ha, by omega, fun σ2 h1 h2 h4 h5 => ?_⟩
  have eO2 : σ2 116 7 = nI (K 0 2) := by rw [h5 7 (by omega)]; exact eO
  have hh := heldP_c (s := z) (d := d) (c := c) h1 h2
  refine ⟨rfl, hn, lf, z, K 0 2, d, c, rfl, rfl, by omega, hO8, eO2, fun q => vc_f (by decide) (And.intro rfl ?_), fun q => vc_t rfl (And.intro rfl ?_)⟩
  · exact fin2 _ K Q S Ce fl tr σ2 (by unfold f_holds; rw [if_pos g, if_pos ⟨g2, g3⟩, hca, hcz, hcu, if_pos (hh.mp q)]) (hI.keep (fun q hq => h4 q (by omega) (by omega) (by omega) (by omega) (by omega)) (fun i hi => h5 i (by omega))) (fun q g1 => h4 q (by omega) (by omega) (by omega) (by omega) (by omega))
  · exact fin2 _ K Q S Ce fl tr σ2 (by unfold f_holds; rw [if_pos g, if_pos ⟨g2, g3⟩, hca, hcz, hcu, if_neg (fun w => q (hh.mpr w))]) (hI.keep (fun q hq => h4 q (by omega) (by omega) (by omega) (by omega) (by omega)) (fun i hi => h5 i (by omega))) (fun q g1 => h4 q (by omega) (by omega) (by omega) (by omega) (by omega)))
def C_xdigs : am_C := fun av n σ τ nf P => ∃ (j : Int32) (d : Int32) (c : Int32) (f : Int32) (w : Int32), pubX [.int j, .int d, .int c, .int f, .int w] (f_digs j d c f w) av n σ τ nf P
set_option maxRecDepth 100000 in
theorem M_xdigs (d : Nat) : am_Met (d + 5) 725 C_xdigs := am_meth (own0 := "CanalEnd") 725 (d + 4) 155 T_X7_digs (fun y => bif Nat.beq y 746 then C_isMile else (bif Nat.beq y 744 then C_isDigging else (bif Nat.beq y 740 then C_isIn else (bif Nat.beq y 748 then C_allO else (bif Nat.beq y 754 then C_runDays else (bif Nat.beq y 755 then C_isHeld else (bif Nat.beq y 900 then C_bitC else (am_no)))))))) C_xdigs rfl F_X7_digs rfl (by decide +kernel) Tc_X7_digs (fun y => am_g (M_isMile (d + 2)) (am_g (M_isDigging (d + 1)) (am_g (M_isIn (d + 3)) (am_g (M_allO (d + 3)) (am_g (M_runDays (d + 0)) (am_g (M_isHeld (d + 2)) (am_g (M_bitC (d + 3)) (am_no_met)))))))) (by
  intro av n σ τ nf P hnf hC
  obtain ⟨j, d, c, f, w, rfl, lf, ⟨K, Q, S, Ce, fl, tr⟩, rfl, hI, rfl, hP⟩ := hC
  have hn := Nlf_le hI.2.2.2.2.2.2.2.2.2
  refine ⟨hn, rfl, Nat.le_of_ble_eq_true rfl, fun Wb hs => ?_⟩
  have hI : InvX σ nf lf K Q S Ce fl tr := hI
  have hK := hI.1
  have hR := hI.2.1
  have hM10 := hK.2.1
  have hO8 := hK.2.2.1
  have eM : σ 1 1 = nI (K 0 1) := hR.1 1 (by omega)
  have eO : σ 1 2 = nI (K 0 2) := hR.1 2 (by omega)
  have fin : ∀ r9 : Int32, (f_digs j d c f w (K, Q, S, Ce, fl, tr)).2 = (K, Q, S, Ce, fl, tr) → (f_digs j d c f w (K, Q, S, Ce, fl, tr)).1 = .int r9 → P (some (.int r9)) σ (tauY 0 lf) := fun r9 e1 e2 => p_eqv e2 (hP σ (by rw [e1]; exact hI) (fun _ _ => fun _ => rfl))
  have fin2 : ∀ (v9 : Value) (K9 Q9 S9 : KT) (Ce9 : Nat → Nat → Int32) (fl9 : Nat) (tr9 : Int32) (σ9 : am_Sg), f_digs j d c f w (K, Q, S, Ce, fl, tr) = (v9, (K9, Q9, S9, Ce9, fl9, tr9)) → InvX σ9 nf lf K9 Q9 S9 Ce9 fl9 tr9 → FrX σ σ9 → P (some v9) σ9 (tauY 0 lf) := fun v9 K9 Q9 S9 Ce9 fl9 tr9 σ9 e h1 h2 => by have := hP σ9 (by rw [e]; exact h1) h2; rw [e] at this; exact this
  have p2 := p2_le (K 0 2) (by omega)
  have hw := in_iff (v := w) (c := 1) (N := 2) rfl
  refine hs (fun p => Nat.beq p 50) 80 0 _ _ _ _ _ ⟨rfl, hn, 0, lf, K 0 1, j, rfl, rfl, eM, by omega, fun g => ?_, fun g => vc_t rfl (And.intro rfl (fin _ rfl (congrArg Value.int (by rw [if_neg g]))))⟩
  refine vc_f (by decide) ⟨rfl, d, c, f, rfl, fun g3 => vc_f (by decide) ⟨rfl, w, 0, 1, rfl, fun g2 => vc_f (by decide) ?_, fun g2 => vc_t rfl (And.intro rfl (fin _ rfl (congrArg Value.int (by rw [if_pos g, if_neg (fun q => g2 (hw.mpr q.2))]))))⟩, fun g3 => vc_t rfl (And.intro rfl (fin _ rfl (congrArg Value.int (by rw [if_pos g, if_neg (fun q => g3 q.1)]))))⟩
  have g2 := hw.mp g2
  obtain ⟨a, ha, rfl⟩ := inN_ex g
  have hca : (nI a).toNatClampNeg = a := nI_clamp (by omega)
  obtain ⟨u, hu, rfl⟩ := inN_ex g3.2.2
  have hcu : (nI u).toNatClampNeg = u := nI_clamp (by omega)
  refine ⟨rfl, hn, lf, a, u, K, rfl, rfl, hR, hK, hI.2.2.2.2.2.2.2.2.1, ha, by omega, fun σ2 h1 h2 h3 h4 => ?_⟩
  have eO2 : σ2 1 2 = nI (K 0 2) := by rw [h4 1 (by omega) (by omega)]; exact eO
  have hd : ∀ s, dgs (σ2 30) (σ2 37) d c (K 0 2) s = dgs (nwA K u) (nwA (setK K 2 a 0) u) d c (K 0 2) s := dgs_c h1 h2
  have r1 : w = 0 → P (some (.int (nI (dgs (σ2 30) (σ2 37) d c (K 0 2) (2 ^ K 0 2)).1))) σ2 (tauY 0 lf) := fun c9 => fin2 _ K Q S Ce fl tr σ2 (by unfold f_digs; rw [if_pos g, if_pos ⟨g3, g2⟩, hca, hcu, if_pos c9, hd]) (hI.keep (fun q hq => h4 q (by unfold Pq at hq; omega) (by unfold Pq at hq; omega)) h3) (fun q g1 g2 => h4 q (by omega) (by omega))
  have r2 : ¬ w = 0 → P (some (.int (opv (dgs (σ2 30) (σ2 37) d c (K 0 2) (2 ^ K 0 2)).2))) σ2 (tauY 0 lf) := fun c9 => fin2 _ K Q S Ce fl tr σ2 (by unfold f_digs; rw [if_pos g, if_pos ⟨g3, g2⟩, hca, hcu, if_neg c9, hd]) (hI.keep (fun q hq => h4 q (by unfold Pq at hq; omega) (by unfold Pq at hq; omega)) h3) (fun q g1 g2 => h4 q (by omega) (by omega))
  have kl : ∀ r s, s + r = 2 ^ K 0 2 → Wb 50 [some (.ref 0), some (.int (nI a)), some (.int d), some (.int c), some (.int (nI u)), some (.int w), some (.int (nI (dgs (σ2 30) (σ2 37) d c (K 0 2) s).1)), some (.int (opv (dgs (σ2 30) (σ2 37) d c (K 0 2) s).2)), some (.int (nI s))] [] nf σ2 (tauY 0 lf) := by
    intro r
    induction r with
    | zero =>
      intro s hsr
      have hsr : s = 2 ^ K 0 2 := by omega
      subst hsr
      exact hs (fun p => Nat.beq p 50) 60 50 _ _ _ _ _ ⟨rfl, hn, lf, K 0 2, rfl, rfl, eO2, by omega, vc_t (nI_lt (by omega) (by omega)) (vc_if (fun c9 => And.intro rfl (r1 c9)) (fun c9 => And.intro rfl (r2 c9)))⟩
    | succ r ih =>
      intro s hsr
      have h9 := ih (s + 1) (by omega)
      have hlt := dgs_lt (A := σ2 30) (D := σ2 37) (d := d) (c := c) (O := K 0 2) s
      rw [nI_succ s] at h9
      refine hs (fun p => Nat.beq p 50) 60 50 _ _ _ _ _ ⟨rfl, hn, lf, K 0 2, rfl, rfl, eO2, by omega, vc_f (nI_nlt (by omega) (by omega)) ⟨rfl, hn, lf, s, K 0 2, d, c, rfl, rfl, by omega, hO8, eO2, fun q => vc_f (by decide) ?_, fun q => vc_t rfl ?_⟩⟩
      · rw [dgs_t q] at h9
        cases e : (dgs (σ2 30) (σ2 37) d c (K 0 2) s).2 with
        | none =>
          rw [e] at h9
          have h9 : Wb 50 [some (.ref 0), some (.int (nI a)), some (.int d), some (.int c), some (.int (nI u)), some (.int w), some (.int (nI ((dgs (σ2 30) (σ2 37) d c (K 0 2) s).1 + 1))), some (.int (nI s)), some (.int (nI s + 1))] [] nf σ2 (tauY 0 lf) := h9
          rw [nI_succ] at h9
          exact vc_t rfl h9
        | some t =>
          rw [e] at h9
          have ht := hlt t e
          have hb1 := bcn_le s
          have hb2 := bcn_le t
          refine vc_f (nI_n9 t (by omega)) ⟨rfl, s, rfl, by omega, ⟨rfl, t, rfl, by omega, vc_if (fun q2 => ?_) (fun q2 => ?_)⟩⟩
          · have q2 := (nI_leI (by omega) (by omega)).mp q2
            have h9 : Wb 50 [some (.ref 0), some (.int (nI a)), some (.int d), some (.int c), some (.int (nI u)), some (.int w), some (.int (nI ((dgs (σ2 30) (σ2 37) d c (K 0 2) s).1 + 1))), some (.int (opv (if bcn s ≤ bcn t then some t else some s))), some (.int (nI s + 1))] [] nf σ2 (tauY 0 lf) := h9
            rw [if_pos q2, nI_succ] at h9
            exact h9
          · have q2 : ¬ bcn s ≤ bcn t := fun w9 => q2 (nI_le w9 (by omega))
            have h9 : Wb 50 [some (.ref 0), some (.int (nI a)), some (.int d), some (.int c), some (.int (nI u)), some (.int w), some (.int (nI ((dgs (σ2 30) (σ2 37) d c (K 0 2) s).1 + 1))), some (.int (opv (if bcn s ≤ bcn t then some t else some s))), some (.int (nI s + 1))] [] nf σ2 (tauY 0 lf) := h9
            rw [if_neg q2, nI_succ] at h9
            exact h9
      · rw [dgs_f q] at h9
        exact h9
  exact kl (2 ^ K 0 2) 0 (by omega))
def C_mdigs : am_C := fun av n σ τ nf P => ∃ (j : Int32) (d : Int32) (c : Int32) (f : Int32) (w : Int32), pubM [.int j, .int d, .int c, .int f, .int w] (f_digs j d c f w) av n σ τ nf P
set_option maxRecDepth 100000 in
theorem M_mdigs (d : Nat) : am_Met (d + 5) 856 C_mdigs := am_meth (own0 := "CanalEndModel") 856 (d + 4) 155 T_X8_digs (fun y => bif Nat.beq y 809 then C_mMile else (bif Nat.beq y 854 then C_mDigging else (bif Nat.beq y 803 then C_within else (bif Nat.beq y 850 then C_layDug else (bif Nat.beq y 853 then C_mHeld else (bif Nat.beq y 805 then C_mbits else (am_no))))))) C_mdigs rfl F_X8_digs rfl (by decide +kernel) Tc_X8_digs (fun y => am_g (M_mMile (d + 3)) (am_g (M_mDigging (d + 1)) (am_g (M_within (d + 3)) (am_g (M_layDug (d + 0)) (am_g (M_mHeld (d + 2)) (am_g (M_mbits (d + 3)) (am_no_met))))))) (by
  intro av n σ τ nf P hnf hC
  obtain ⟨j, d, c, f, w, rfl, hn, lf, ⟨K, Q, S, Ce, fl, tr⟩, rfl, hI, rfl, hP⟩ := hC
  refine ⟨hn, rfl, Nat.le_of_ble_eq_true rfl, fun Wb hs => ?_⟩
  have hI : InvM σ K Q S Ce fl tr := hI
  have hK := hI.1
  have hR := hI.2.1
  have hM10 := hK.2.1
  have hO8 := hK.2.2.1
  have eM := hR.2.1
  have eO := hR.2.2.1
  have fin : ∀ r9 : Int32, (f_digs j d c f w (K, Q, S, Ce, fl, tr)).2 = (K, Q, S, Ce, fl, tr) → (f_digs j d c f w (K, Q, S, Ce, fl, tr)).1 = .int r9 → P (some (.int r9)) σ (tauY 0 lf) := fun r9 e1 e2 => p_eqv e2 (hP σ (by rw [e1]; exact hI) (fun _ _ => rfl))
  have fin2 : ∀ (v9 : Value) (K9 Q9 S9 : KT) (Ce9 : Nat → Nat → Int32) (fl9 : Nat) (tr9 : Int32) (σ9 : am_Sg), f_digs j d c f w (K, Q, S, Ce, fl, tr) = (v9, (K9, Q9, S9, Ce9, fl9, tr9)) → InvM σ9 K9 Q9 S9 Ce9 fl9 tr9 → FrM σ σ9 → P (some v9) σ9 (tauY 0 lf) := fun v9 K9 Q9 S9 Ce9 fl9 tr9 σ9 e h1 h2 => by have := hP σ9 (by rw [e]; exact h1) h2; rw [e] at this; exact this
  have p2 := p2_le (K 0 2) (by omega)
  have hw := in_iff (v := w) (c := 1) (N := 2) rfl
  refine hs (fun p => Nat.beq p 51) 80 0 _ _ _ _ _ ⟨rfl, hn, 0, lf, K 0 1, j, rfl, rfl, eM, by omega, fun g => ?_, fun g => vc_t rfl (And.intro rfl (fin _ rfl (congrArg Value.int (by rw [if_neg g]))))⟩
  refine vc_f (by decide) ⟨rfl, hn, d, c, f, rfl, fun g3 => vc_f (by decide) ⟨rfl, w, 0, 1, rfl, fun g2 => vc_f (by decide) ?_, fun g2 => vc_t rfl (And.intro rfl (fin _ rfl (congrArg Value.int (by rw [if_pos g, if_neg (fun q => g2 (hw.mpr q.2))]))))⟩, fun g3 => vc_t rfl (And.intro rfl (fin _ rfl (congrArg Value.int (by rw [if_pos g, if_neg (fun q => g3 q.1)]))))⟩
  have g2 := hw.mp g2
  obtain ⟨a, ha, rfl⟩ := inN_ex g
  have hca : (nI a).toNatClampNeg = a := nI_clamp (by omega)
  obtain ⟨u, hu, rfl⟩ := inN_ex g3.2.2
  have hcu : (nI u).toNatClampNeg = u := nI_clamp (by omega)
  refine ⟨rfl, hn, lf, a, u, K, rfl, rfl, hR, hK, ha, by omega, fun σ2 h1 h2 h4 h5 => ?_⟩
  have eO2 : σ2 116 7 = nI (K 0 2) := by rw [h5 7 (by omega)]; exact eO
  have hd : ∀ s, dgs (σ2 150) (σ2 151) d c (K 0 2) s = dgs (nwA K u) (nwA (setK K 2 a 0) u) d c (K 0 2) s := dgs_c h1 h2
  have r1 : w = 0 → P (some (.int (nI (dgs (σ2 150) (σ2 151) d c (K 0 2) (2 ^ K 0 2)).1))) σ2 (tauY 0 lf) := fun c9 => fin2 _ K Q S Ce fl tr σ2 (by unfold f_digs; rw [if_pos g, if_pos ⟨g3, g2⟩, hca, hcu, if_pos c9, hd]) (hI.keep (fun q hq => h4 q (by omega) (by omega) (by omega) (by omega) (by omega)) (fun i hi => h5 i (by omega))) (fun q g1 => h4 q (by omega) (by omega) (by omega) (by omega) (by omega))
  have r2 : ¬ w = 0 → P (some (.int (opv (dgs (σ2 150) (σ2 151) d c (K 0 2) (2 ^ K 0 2)).2))) σ2 (tauY 0 lf) := fun c9 => fin2 _ K Q S Ce fl tr σ2 (by unfold f_digs; rw [if_pos g, if_pos ⟨g3, g2⟩, hca, hcu, if_neg c9, hd]) (hI.keep (fun q hq => h4 q (by omega) (by omega) (by omega) (by omega) (by omega)) (fun i hi => h5 i (by omega))) (fun q g1 => h4 q (by omega) (by omega) (by omega) (by omega) (by omega))
  have kl : ∀ r s, s + r = 2 ^ K 0 2 → Wb 51 [some (.ref 116), some (.int (nI a)), some (.int d), some (.int c), some (.int (nI u)), some (.int w), some (.int (nI (dgs (σ2 150) (σ2 151) d c (K 0 2) s).1)), some (.int (opv (dgs (σ2 150) (σ2 151) d c (K 0 2) s).2)), some (.int (nI s))] [] nf σ2 (tauY 0 lf) := by
    intro r
    induction r with
    | zero =>
      intro s hsr
      have hsr : s = 2 ^ K 0 2 := by omega
      subst hsr
      exact hs (fun p => Nat.beq p 51) 60 51 _ _ _ _ _ (vc_t (by rw [eO2, sh_ok _ (by omega)]; exact nI_le (Nat.le_refl _) (by omega)) (vc_if (fun c9 => And.intro rfl (r1 c9)) (fun c9 => And.intro rfl (r2 c9))))
    | succ r ih =>
      intro s hsr
      have h9 := ih (s + 1) (by omega)
      have hlt := dgs_lt (A := σ2 150) (D := σ2 151) (d := d) (c := c) (O := K 0 2) s
      rw [nI_succ s] at h9
      refine hs (fun p => Nat.beq p 51) 60 51 _ _ _ _ _ (vc_f (by rw [eO2, sh_ok _ (by omega)]; exact nI_ge (by omega) (by omega)) ⟨rfl, hn, lf, s, K 0 2, d, c, rfl, rfl, by omega, hO8, eO2, fun q => vc_f (by decide) ?_, fun q => vc_t rfl ?_⟩)
      · rw [dgs_t q] at h9
        cases e : (dgs (σ2 150) (σ2 151) d c (K 0 2) s).2 with
        | none =>
          rw [e] at h9
          have h9 : Wb 51 [some (.ref 116), some (.int (nI a)), some (.int d), some (.int c), some (.int (nI u)), some (.int w), some (.int (nI ((dgs (σ2 150) (σ2 151) d c (K 0 2) s).1 + 1))), some (.int (nI s)), some (.int (nI s + 1))] [] nf σ2 (tauY 0 lf) := h9
          rw [nI_succ] at h9
          exact vc_t rfl h9
        | some t =>
          rw [e] at h9
          have ht := hlt t e
          have hb1 := bcn_le s
          have hb2 := bcn_le t
          refine vc_f (nI_n9 t (by omega)) ⟨rfl, s, rfl, by omega, ⟨rfl, t, rfl, by omega, vc_if (fun q2 => ?_) (fun q2 => ?_)⟩⟩
          · have q2 := (nI_leI (by omega) (by omega)).mp q2
            have h9 : Wb 51 [some (.ref 116), some (.int (nI a)), some (.int d), some (.int c), some (.int (nI u)), some (.int w), some (.int (nI ((dgs (σ2 150) (σ2 151) d c (K 0 2) s).1 + 1))), some (.int (opv (if bcn s ≤ bcn t then some t else some s))), some (.int (nI s + 1))] [] nf σ2 (tauY 0 lf) := h9
            rw [if_pos q2, nI_succ] at h9
            exact h9
          · have q2 : ¬ bcn s ≤ bcn t := fun w9 => q2 (nI_le w9 (by omega))
            have h9 : Wb 51 [some (.ref 116), some (.int (nI a)), some (.int d), some (.int c), some (.int (nI u)), some (.int w), some (.int (nI ((dgs (σ2 150) (σ2 151) d c (K 0 2) s).1 + 1))), some (.int (opv (if bcn s ≤ bcn t then some t else some s))), some (.int (nI s + 1))] [] nf σ2 (tauY 0 lf) := h9
            rw [if_neg q2, nI_succ] at h9
            exact h9
      · rw [dgs_f q] at h9
        exact h9
  exact kl (2 ^ K 0 2) 0 (by omega))
