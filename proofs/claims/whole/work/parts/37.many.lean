theorem setK_self {K : KT} {f i : Nat} : setK K f i (K f i) = K := by
  funext a b
  unfold setK
  split
  · rename_i e; rw [e.1, e.2]
  · rfl
theorem WfQ.less {K Q : KT} {v : Nat} (h : WfQ K Q) (hv : v ≤ Q 0 0) : WfQ K (setK Q 0 0 v) := by
  have h0 := h.1
  refine ⟨by rw [setK_at]; omega, fun k hk => ?_⟩
  rw [setK_at] at hk
  rw [setK_ne (by omega), setK_ne (by omega), setK_ne (by omega), setK_ne (by omega)]
  exact h.2 k (by omega)
def C_xback : am_C := fun av n σ τ nf P => ∃ (k : Int32), pubX [.int k] (f_back k) av n σ τ nf P
set_option maxRecDepth 100000 in
theorem M_xback (d : Nat) : am_Met (d + 3) 715 C_xback := am_meth (own0 := "CanalEnd") 715 (d + 2) 155 T_X7_back (fun y => bif Nat.beq y 740 then C_isIn else (bif Nat.beq y 603 then C_takeBack else (am_no))) C_xback rfl F_X7_back rfl (by decide +kernel) Tc_X7_back (fun y => am_g (M_isIn (d + 1)) (am_g (M_takeBack (d + 1)) (am_no_met))) (by
  intro av n σ τ nf P hnf hC
  obtain ⟨k, rfl, lf, ⟨K, Q, S, Ce, fl, tr⟩, rfl, hI, rfl, hP⟩ := hC
  have hn := Nlf_le hI.2.2.2.2.2.2.2.2.2
  refine ⟨hn, rfl, Nat.le_of_ble_eq_true rfl, fun Wb hs => ?_⟩
  have hI : InvX σ nf lf K Q S Ce fl tr := hI
  have hK := hI.1
  have hR := hI.2.1
  have hM10 := hK.2.1
  have hO8 := hK.2.2.1
  have eM : σ 1 1 = nI (K 0 1) := hR.1 1 (by omega)
  have eO : σ 1 2 = nI (K 0 2) := hR.1 2 (by omega)
  have fin : ∀ r9 : Int32, (f_back k (K, Q, S, Ce, fl, tr)).2 = (K, Q, S, Ce, fl, tr) → (f_back k (K, Q, S, Ce, fl, tr)).1 = .int r9 → P (some (.int r9)) σ (tauY 0 lf) := fun r9 e1 e2 => p_eqv e2 (hP σ (by rw [e1]; exact hI) (fun _ _ => fun _ => rfl))
  have fin2 : ∀ (v9 : Value) (K9 Q9 S9 : KT) (Ce9 : Nat → Nat → Int32) (fl9 : Nat) (tr9 : Int32) (σ9 : am_Sg), f_back k (K, Q, S, Ce, fl, tr) = (v9, (K9, Q9, S9, Ce9, fl9, tr9)) → InvX σ9 nf lf K9 Q9 S9 Ce9 fl9 tr9 → FrX σ σ9 → P (some v9) σ9 (tauY 0 lf) := fun v9 K9 Q9 S9 Ce9 fl9 tr9 σ9 e h1 h2 => by have := hP σ9 (by rw [e]; exact h1) h2; rw [e] at this; exact this
  have hQ := hI.2.2.1
  have hQ0 := hQ.1
  have hRQ := hI.2.2.2.1
  have h0 := hRQ.1
  have hl : (nI (Q 0 0)).toInt = ((Q 0 0 + 1 : Nat) : Int) - 1 := by rw [nI_toInt (by omega)]; omega
  refine hs (fun _ => false) 60 0 _ _ _ _ _ ⟨rfl, k, 0, nI (Q 0 0), by rw [← h0], fun g => ?_, fun g => ?_⟩
  · have g := (in_iff hl).mp g
    have g9 := g
    obtain ⟨u, hu, rfl⟩ := inN_ex g
    have hc : (nI u).toNatClampNeg = u := nI_clamp (by omega)
    have ef : f_back (nI u) (K, Q, S, Ce, fl, tr) = (.int (nI (Q 0 0 - u)), (K, setK Q 0 0 (Q 0 0 - u), S, Ce, fl, tr)) := by
      unfold f_back
      rw [if_pos g9, hc]
    refine vc_f (by decide) ⟨rfl, hn, 0, lf, Q 0 0, u, rfl, rfl, h0, by omega, by omega, fun z => And.intro rfl ?_, fun z => And.intro rfl ?_⟩
    · subst z
      rw [h0]
      refine fin2 _ _ _ _ _ _ _ σ ef ?_ (fun _ _ _ => rfl)
      rw [Nat.sub_zero, setK_self]
      exact hI
    · have e43 : ∀ σ2 : am_Sg, σ2 = am_up (am_up σ 43 0 (nI (Q 0 0 - u))) 43 2 0 → P (some (.int (σ2 43 0))) σ2 (tauY 0 lf) := by
        intro σ2 e2
        have hf : ∀ q, ¬ q = 43 → σ2 q = σ q := fun q g => by rw [e2, am_up_ne g, am_up_ne g]
        have h2 : σ2 43 0 = nI (Q 0 0 - u) := by rw [e2, up_ne (by omega), up_at]
        rw [h2]
        refine fin2 _ _ _ _ _ _ _ σ2 ef ?_ (fun q g1 g2 => hf q (by omega))
        refine hI.anew hK (hR.frame (fun q g1 g2 => hf q (by omega))) (hQ.less (by omega)) ?_ (by rw [e2]; exact up_at) (fun q hq => hf q (by omega)) (fun z hz => by rw [hf 11 (by omega)]; exact (hI.2.2.2.2.2.2.2.2.1 z hz).1)
        refine ⟨by rw [setK_at]; exact h2, fun k hk => ?_⟩
        rw [setK_at] at hk
        rw [setK_ne (by omega), setK_ne (by omega), setK_ne (by omega), setK_ne (by omega), hf 54 (by omega), hf 55 (by omega), hf 56 (by omega), hf 57 (by omega)]
        exact hRQ.2 k (by omega)
      exact e43 _ rfl
  · have g : ¬ inN k (Q 0 0 + 1) := fun q => g ((in_iff hl).mpr q)
    exact vc_t rfl (And.intro rfl (fin _ (by unfold f_back; rw [if_neg g]) (by unfold f_back; rw [if_neg g]))))
def C_mback : am_C := fun av n σ τ nf P => ∃ (k : Int32), pubM [.int k] (f_back k) av n σ τ nf P
set_option maxRecDepth 100000 in
theorem M_mback (d : Nat) : am_Met (d + 3) 833 C_mback := am_meth (own0 := "CanalEndModel") 833 (d + 2) 155 T_X8_back (fun y => bif Nat.beq y 803 then C_within else (am_no)) C_mback rfl F_X8_back rfl (by decide +kernel) Tc_X8_back (fun y => am_g (M_within (d + 1)) (am_no_met)) (by
  intro av n σ τ nf P hnf hC
  obtain ⟨k, rfl, hn, lf, ⟨K, Q, S, Ce, fl, tr⟩, rfl, hI, rfl, hP⟩ := hC
  refine ⟨hn, rfl, Nat.le_of_ble_eq_true rfl, fun Wb hs => ?_⟩
  have hI : InvM σ K Q S Ce fl tr := hI
  have hK := hI.1
  have hR := hI.2.1
  have hM10 := hK.2.1
  have hO8 := hK.2.2.1
  have eM := hR.2.1
  have eO := hR.2.2.1
  have fin : ∀ r9 : Int32, (f_back k (K, Q, S, Ce, fl, tr)).2 = (K, Q, S, Ce, fl, tr) → (f_back k (K, Q, S, Ce, fl, tr)).1 = .int r9 → P (some (.int r9)) σ (tauY 0 lf) := fun r9 e1 e2 => p_eqv e2 (hP σ (by rw [e1]; exact hI) (fun _ _ => rfl))
  have fin2 : ∀ (v9 : Value) (K9 Q9 S9 : KT) (Ce9 : Nat → Nat → Int32) (fl9 : Nat) (tr9 : Int32) (σ9 : am_Sg), f_back k (K, Q, S, Ce, fl, tr) = (v9, (K9, Q9, S9, Ce9, fl9, tr9)) → InvM σ9 K9 Q9 S9 Ce9 fl9 tr9 → FrM σ σ9 → P (some v9) σ9 (tauY 0 lf) := fun v9 K9 Q9 S9 Ce9 fl9 tr9 σ9 e h1 h2 => by have := hP σ9 (by rw [e]; exact h1) h2; rw [e] at this; exact this
  have hQ := hI.2.2.1
  have hQ0 := hQ.1
  have hRQ := hI.2.2.2.1
  have h0 := hRQ.1
  have hl : (nI (Q 0 0)).toInt = ((Q 0 0 + 1 : Nat) : Int) - 1 := by rw [nI_toInt (by omega)]; omega
  refine hs (fun _ => false) 60 0 _ _ _ _ _ ⟨rfl, k, 0, nI (Q 0 0), by rw [← h0], fun g => ?_, fun g => ?_⟩
  · have g := (in_iff hl).mp g
    have g9 := g
    obtain ⟨u, hu, rfl⟩ := inN_ex g
    have hc : (nI u).toNatClampNeg = u := nI_clamp (by omega)
    have ef : f_back (nI u) (K, Q, S, Ce, fl, tr) = (.int (nI (Q 0 0 - u)), (K, setK Q 0 0 (Q 0 0 - u), S, Ce, fl, tr)) := by
      unfold f_back
      rw [if_pos g9, hc]
    refine vc_f (by decide) (fun σ2 e2 => And.intro rfl ?_)
    rw [h0, nI_subN (by omega)] at e2
    have e2 : σ2 = am_up σ 116 33 (nI (Q 0 0 - u)) := e2
    have h2 : σ2 116 33 = nI (Q 0 0 - u) := by rw [e2]; exact up_at
    have hf : ∀ q, ¬ q = 116 → σ2 q = σ q := fun q g => by rw [e2, am_up_ne g]
    rw [h2]
    refine fin2 _ _ _ _ _ _ _ σ2 ef ?_ (fun q g1 => hf q (by omega))
    refine hI.rd (hQ.less (by omega)) ⟨by rw [setK_at]; exact h2, fun k hk => ?_⟩ (fun q g1 g2 => hf q g1) (fun i hi => by rw [e2]; exact up_ne hi)
    rw [setK_at] at hk
    rw [setK_ne (by omega), setK_ne (by omega), setK_ne (by omega), setK_ne (by omega), hf 140 (by omega), hf 141 (by omega), hf 142 (by omega), hf 143 (by omega)]
    exact hRQ.2 k (by omega)
  · have g : ¬ inN k (Q 0 0 + 1) := fun q => g ((in_iff hl).mpr q)
    exact vc_t rfl (And.intro rfl (fin _ (by unfold f_back; rw [if_neg g]) (by unfold f_back; rw [if_neg g]))))
theorem ct_t {p : Nat → Bool} {n : Nat} (h : p n = true) : nI (ctN p n) + 1 = nI (ctN p (n + 1)) := by
  rw [← nI_succ]
  show _ = nI (ctN p n + (if p n then 1 else 0))
  rw [h]
  rfl
theorem ct_f {p : Nat → Bool} {n : Nat} (h : p n = false) : nI (ctN p n) + 0 = nI (ctN p (n + 1)) := by
  rw [show (0 : Int32) = nI 0 from rfl, nI_add]
  show nI (ctN p n + 0) = nI (ctN p n + (if p n then 1 else 0))
  rw [h]
  rfl
def nzF (K : KT) (f : Nat) : Nat → Bool := fun o => !(K f o == 0)
theorem nzF_t {K : KT} {f o : Nat} (h : ¬ K f o = 0) : nzF K f o = true := by
  unfold nzF
  rw [show (K f o == 0) = false from beq_false_of_ne h]
  rfl
theorem nzF_f {K : KT} {f o : Nat} (h : K f o = 0) : nzF K f o = false := by
  unfold nzF
  rw [h]
  rfl
def f_many (w : Int32) (s : ST) : Value × ST := (.int (if w = nI 0 then nI (s.1 0 1) else if w = nI 1 then nI (s.1 0 2) else if w = nI 2 then nI (s.2.1 0 0) else if w = nI 3 then nI (ctN (nzF s.1 8) (s.1 0 2)) else if w = nI 4 then nI (ctN (nzF s.1 10) (s.1 0 2)) else -2), s)
def C_notRight : am_C := fun av n σ τ nf P => nf = n ∧ 155 ≤ n ∧ ∃ (rw lf : Nat) (K : KT), τ = tauY rw lf ∧ RepX σ 1 K ∧ WfK K ∧ av = [.ref 1] ∧ P (some (.int (nI (ctN (nzF K 8) (K 0 2))))) σ τ
set_option maxRecDepth 100000 in
theorem M_notRight (d : Nat) : am_Met (d + 1) 8 C_notRight := am_meth (own0 := "CanalEnd$Canal") 8 (d + 0) 155 T_X0_notRight (fun y => am_no) C_notRight rfl F_X0_notRight rfl (by decide +kernel) Tc_X0_notRight (fun y => am_no_met) (by
  intro av n σ τ nf P hnf hC
  obtain ⟨rfl, hn, rw, lf, K, rfl, hR, hK, rfl, hP⟩ := hC
  refine ⟨hn, rfl, Nat.le_of_ble_eq_true rfl, fun Wb hs => ?_⟩
  have hO8 := hK.2.2.1
  have eO : σ 1 2 = nI (K 0 2) := hR.1 2 (by omega)
  have key : ∀ r o, o + r = K 0 2 → Wb 4 [some (.ref 1), some (.int (nI (ctN (nzF K 8) o))), some (.int (nI o))] [] nf σ (tauY rw lf) := by
    intro r
    induction r with
    | zero =>
      intro o ho
      have ho : o = K 0 2 := by omega
      subst ho
      exact hs (fun p => Nat.beq p 4) 30 4 _ _ _ _ _ (vc_t (by rw [eO]; exact nI_le (Nat.le_refl _) (by omega)) (And.intro rfl hP))
    | succ r ih =>
      intro o ho
      have hc : (nI o).toNatClampNeg = o := nI_clamp (by omega)
      have e : σ 9 o = nI (K 8 o) := hR.2.2 3 (by omega) o (by omega)
      have kb := hK.2.2.2.2.2.2.2.2.2 o (by omega)
      have ih := ih (o + 1) (by omega)
      refine hs (fun p => Nat.beq p 4) 30 4 _ _ _ _ _ (vc_f (by rw [eO]; exact nI_ge (by omega) (by omega)) (And.intro (vin (show o < 8 by omega)) (vc_if (fun c => ?_) (fun c => ?_))))
      · rw [hc, e] at c
        have c := nI_inj (b := 0) (by omega) (by omega) c
        rw [← ct_f (nzF_f c), nI_succ] at ih
        exact ih
      · rw [hc, e] at c
        have c : ¬ K 8 o = 0 := fun q => c (by rw [q]; rfl)
        rw [← ct_t (nzF_t c), nI_succ o] at ih
        exact ih
  exact hs (fun p => Nat.beq p 4) 30 0 _ _ _ _ _ (key (K 0 2) 0 (by omega)))
def C_underGuard : am_C := fun av n σ τ nf P => nf = n ∧ 155 ≤ n ∧ ∃ (rw lf : Nat) (K : KT), τ = tauY rw lf ∧ RepX σ 1 K ∧ WfK K ∧ av = [.ref 1] ∧ P (some (.int (nI (ctN (nzF K 10) (K 0 2))))) σ τ
set_option maxRecDepth 100000 in
theorem M_underGuard (d : Nat) : am_Met (d + 1) 9 C_underGuard := am_meth (own0 := "CanalEnd$Canal") 9 (d + 0) 155 T_X0_underGuard (fun y => am_no) C_underGuard rfl F_X0_underGuard rfl (by decide +kernel) Tc_X0_underGuard (fun y => am_no_met) (by
  intro av n σ τ nf P hnf hC
  obtain ⟨rfl, hn, rw, lf, K, rfl, hR, hK, rfl, hP⟩ := hC
  refine ⟨hn, rfl, Nat.le_of_ble_eq_true rfl, fun Wb hs => ?_⟩
  have hO8 := hK.2.2.1
  have eO : σ 1 2 = nI (K 0 2) := hR.1 2 (by omega)
  have key : ∀ r o, o + r = K 0 2 → Wb 4 [some (.ref 1), some (.int (nI (ctN (nzF K 10) o))), some (.int (nI o))] [] nf σ (tauY rw lf) := by
    intro r
    induction r with
    | zero =>
      intro o ho
      have ho : o = K 0 2 := by omega
      subst ho
      exact hs (fun p => Nat.beq p 4) 30 4 _ _ _ _ _ (vc_t (by rw [eO]; exact nI_le (Nat.le_refl _) (by omega)) (And.intro rfl hP))
    | succ r ih =>
      intro o ho
      have hc : (nI o).toNatClampNeg = o := nI_clamp (by omega)
      have e : σ 11 o = nI (K 10 o) := hR.2.2 5 (by omega) o (by omega)
      have kb := hK.2.2.2.2.2.2.2.2.2 o (by omega)
      have ih := ih (o + 1) (by omega)
      refine hs (fun p => Nat.beq p 4) 30 4 _ _ _ _ _ (vc_f (by rw [eO]; exact nI_ge (by omega) (by omega)) (And.intro (vin (show o < 8 by omega)) ?_))
      show Wb 4 [some (.ref 1), some (.int (nI (ctN (nzF K 10) o) + σ 11 (nI o).toNatClampNeg)), some (.int (nI o + 1))] [] nf σ (tauY rw lf)
      rw [hc, e]
      by_cases c : K 10 o = 0
      · rw [c]
        rw [← ct_f (nzF_f c), nI_succ] at ih
        exact ih
      · rw [show K 10 o = 1 by omega]
        rw [← ct_t (nzF_t c), nI_succ o] at ih
        exact ih
  exact hs (fun p => Nat.beq p 4) 30 0 _ _ _ _ _ (key (K 0 2) 0 (by omega)))
def C_xmany : am_C := fun av n σ τ nf P => ∃ (w : Int32), pubX [.int w] (f_many w) av n σ τ nf P
set_option maxRecDepth 100000 in
theorem M_xmany (d : Nat) : am_Met (d + 3) 739 C_xmany := am_meth (own0 := "CanalEnd") 739 (d + 2) 155 T_X7_many (fun y => bif Nat.beq y 8 then C_notRight else (bif Nat.beq y 9 then C_underGuard else (am_no))) C_xmany rfl F_X7_many rfl (by decide +kernel) Tc_X7_many (fun y => am_g (M_notRight (d + 1)) (am_g (M_underGuard (d + 1)) (am_no_met))) (by
  intro av n σ τ nf P hnf hC
  obtain ⟨w, rfl, lf, ⟨K, Q, S, Ce, fl, tr⟩, rfl, hI, rfl, hP⟩ := hC
  have hn := Nlf_le hI.2.2.2.2.2.2.2.2.2
  refine ⟨hn, rfl, Nat.le_of_ble_eq_true rfl, fun Wb hs => ?_⟩
  have hI : InvX σ nf lf K Q S Ce fl tr := hI
  have hK := hI.1
  have hR := hI.2.1
  have hM10 := hK.2.1
  have hO8 := hK.2.2.1
  have eM : σ 1 1 = nI (K 0 1) := hR.1 1 (by omega)
  have eO : σ 1 2 = nI (K 0 2) := hR.1 2 (by omega)
  have fin : ∀ r9 : Int32, (f_many w (K, Q, S, Ce, fl, tr)).2 = (K, Q, S, Ce, fl, tr) → (f_many w (K, Q, S, Ce, fl, tr)).1 = .int r9 → P (some (.int r9)) σ (tauY 0 lf) := fun r9 e1 e2 => p_eqv e2 (hP σ (by rw [e1]; exact hI) (fun _ _ => fun _ => rfl))
  have fin2 : ∀ (v9 : Value) (K9 Q9 S9 : KT) (Ce9 : Nat → Nat → Int32) (fl9 : Nat) (tr9 : Int32) (σ9 : am_Sg), f_many w (K, Q, S, Ce, fl, tr) = (v9, (K9, Q9, S9, Ce9, fl9, tr9)) → InvX σ9 nf lf K9 Q9 S9 Ce9 fl9 tr9 → FrX σ σ9 → P (some v9) σ9 (tauY 0 lf) := fun v9 K9 Q9 S9 Ce9 fl9 tr9 σ9 e h1 h2 => by have := hP σ9 (by rw [e]; exact h1) h2; rw [e] at this; exact this
  have hRQ := hI.2.2.2.1
  refine hs (fun _ => false) 60 0 _ _ _ _ _ ⟨fun c0 => And.intro rfl ?_, fun c0 => ⟨fun c1 => And.intro rfl ?_, fun c1 => ⟨fun c2 => And.intro rfl ?_, fun c2 => ⟨fun c3 => ?_, fun c3 => ⟨fun c4 => ?_, fun c4 => And.intro rfl ?_⟩⟩⟩⟩⟩
  · rw [eM]; exact (fin _ rfl (congrArg Value.int (by rw [if_pos c0])))
  · rw [eO]; exact (fin _ rfl (congrArg Value.int (by rw [if_neg c0, if_pos c1])))
  · rw [hRQ.1]; exact (fin _ rfl (congrArg Value.int (by rw [if_neg c0, if_neg c1, if_pos c2])))
  · exact ⟨rfl, hn, 0, lf, K, rfl, hR, hK, rfl, And.intro rfl (fin _ rfl (congrArg Value.int (by rw [if_neg c0, if_neg c1, if_neg c2, if_pos c3])))⟩
  · exact ⟨rfl, hn, 0, lf, K, rfl, hR, hK, rfl, And.intro rfl (fin _ rfl (congrArg Value.int (by rw [if_neg c0, if_neg c1, if_neg c2, if_neg c3, if_pos c4])))⟩
  · exact (fin _ rfl (congrArg Value.int (by rw [if_neg c0, if_neg c1, if_neg c2, if_neg c3, if_neg c4]))))
def C_mmany : am_C := fun av n σ τ nf P => ∃ (w : Int32), pubM [.int w] (f_many w) av n σ τ nf P
set_option maxRecDepth 100000 in
theorem M_mmany (d : Nat) : am_Met (d + 3) 873 C_mmany := am_meth (own0 := "CanalEndModel") 873 (d + 2) 155 T_X8_many (fun y => am_no) C_mmany rfl F_X8_many rfl (by decide +kernel) Tc_X8_many (fun y => am_no_met) (by
  intro av n σ τ nf P hnf hC
  obtain ⟨w, rfl, hn, lf, ⟨K, Q, S, Ce, fl, tr⟩, rfl, hI, rfl, hP⟩ := hC
  refine ⟨hn, rfl, Nat.le_of_ble_eq_true rfl, fun Wb hs => ?_⟩
  have hI : InvM σ K Q S Ce fl tr := hI
  have hK := hI.1
  have hR := hI.2.1
  have hM10 := hK.2.1
  have hO8 := hK.2.2.1
  have eM := hR.2.1
  have eO := hR.2.2.1
  have fin : ∀ r9 : Int32, (f_many w (K, Q, S, Ce, fl, tr)).2 = (K, Q, S, Ce, fl, tr) → (f_many w (K, Q, S, Ce, fl, tr)).1 = .int r9 → P (some (.int r9)) σ (tauY 0 lf) := fun r9 e1 e2 => p_eqv e2 (hP σ (by rw [e1]; exact hI) (fun _ _ => rfl))
  have fin2 : ∀ (v9 : Value) (K9 Q9 S9 : KT) (Ce9 : Nat → Nat → Int32) (fl9 : Nat) (tr9 : Int32) (σ9 : am_Sg), f_many w (K, Q, S, Ce, fl, tr) = (v9, (K9, Q9, S9, Ce9, fl9, tr9)) → InvM σ9 K9 Q9 S9 Ce9 fl9 tr9 → FrM σ σ9 → P (some v9) σ9 (tauY 0 lf) := fun v9 K9 Q9 S9 Ce9 fl9 tr9 σ9 e h1 h2 => by have := hP σ9 (by rw [e]; exact h1) h2; rw [e] at this; exact this
  have hRQ := hI.2.2.2.1
  have key : ∀ r o, o + r = K 0 2 → Wb 7 [some (.ref 116), some (.int w), some (.int (nI (ctN (nzF K 10) o))), some (.int (nI (ctN (nzF K 8) o))), some (.int (nI o))] [] nf σ (tauY 0 lf) := by
    intro r
    induction r with
    | zero =>
      intro o ho
      have ho : o = K 0 2 := by omega
      subst ho
      refine hs (fun p => Nat.beq p 7) 60 7 _ _ _ _ _ (vc_t (by rw [eO]; exact nI_le (Nat.le_refl _) (by omega)) ⟨fun c0 => And.intro rfl ?_, fun c0 => ⟨fun c1 => And.intro rfl ?_, fun c1 => ⟨fun c2 => And.intro rfl ?_, fun c2 => ⟨fun c3 => And.intro rfl ?_, fun c3 => ⟨fun c4 => And.intro rfl ?_, fun c4 => And.intro rfl ?_⟩⟩⟩⟩⟩)
      · rw [eM]; exact (fin _ rfl (congrArg Value.int (by rw [if_pos c0])))
      · rw [eO]; exact (fin _ rfl (congrArg Value.int (by rw [if_neg c0, if_pos c1])))
      · rw [hRQ.1]; exact (fin _ rfl (congrArg Value.int (by rw [if_neg c0, if_neg c1, if_pos c2])))
      · exact (fin _ rfl (congrArg Value.int (by rw [if_neg c0, if_neg c1, if_neg c2, if_pos c3])))
      · exact (fin _ rfl (congrArg Value.int (by rw [if_neg c0, if_neg c1, if_neg c2, if_neg c3, if_pos c4])))
      · exact (fin _ rfl (congrArg Value.int (by rw [if_neg c0, if_neg c1, if_neg c2, if_neg c3, if_neg c4])))
    | succ r ih =>
      intro o ho
      have hc : (nI o).toNatClampNeg = o := nI_clamp (by omega)
      have e8 : σ 126 o = nI (K 8 o) := hR.2.2.2.2.2.2 3 (by omega) o (by omega)
      have e10 : σ 128 o = nI (K 10 o) := hR.2.2.2.2.2.2 5 (by omega) o (by omega)
      have kb := hK.2.2.2.2.2.2.2.2.2 o (by omega)
      have ih := ih (o + 1) (by omega)
      have a10 : nI (ctN (nzF K 10) o) + nI (K 10 o) = nI (ctN (nzF K 10) (o + 1)) := by
        rcases (show K 10 o = 0 ∨ K 10 o = 1 by omega) with q | q
        · rw [q]; exact ct_f (nzF_f q)
        · rw [q]; exact ct_t (nzF_t (by omega))
      refine hs (fun p => Nat.beq p 7) 60 7 _ _ _ _ _ (vc_f (by rw [eO]; exact nI_ge (by omega) (by omega)) (And.intro (vin (show o < 8 by omega)) (And.intro (vin (show o < 8 by omega)) (vc_if (fun c => ?_) (fun c => ?_)))))
      · rw [hc, e8] at c
        have c := (nI_leI (b := 0) (by omega) (by omega)).mp c
        rw [← ct_f (nzF_f (show K 8 o = 0 by omega)), ← a10, nI_succ o, ← e10] at ih
        show Wb 7 [some (.ref 116), some (.int w), some (.int (nI (ctN (nzF K 10) o) + σ 128 (nI o).toNatClampNeg)), some (.int (nI (ctN (nzF K 8) o) + 0)), some (.int (nI o + 1))] [] nf σ (tauY 0 lf)
        rw [hc]
        exact ih
      · rw [hc, e8] at c
        have c : ¬ K 8 o = 0 := fun q => c (by rw [q]; decide)
        rw [← ct_t (nzF_t c), ← a10, nI_succ o, ← e10] at ih
        show Wb 7 [some (.ref 116), some (.int w), some (.int (nI (ctN (nzF K 10) o) + σ 128 (nI o).toNatClampNeg)), some (.int (nI (ctN (nzF K 8) o) + 1)), some (.int (nI o + 1))] [] nf σ (tauY 0 lf)
        rw [hc]
        exact ih
  exact hs (fun p => Nat.beq p 7) 30 0 _ _ _ _ _ (key (K 0 2) 0 (by omega)))
