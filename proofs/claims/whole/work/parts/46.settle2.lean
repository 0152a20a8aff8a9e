theorem lpS_0 {f : Nat} : ∀ n (K : KT) ch cd a, ¬ a = 8 → (lpS f n K ch cd).1 a = K a
  | 0, _, _, _, _, _ => rfl
  | n + 1, K, ch, cd, a, h => by
    by_cases c : cd = 0
    · have e : lpS f (n + 1) K ch cd = (K, ch) := if_pos c
      rw [e]
    · have e : lpS f (n + 1) K ch cd = lpS f n (swS f (K 0 2) 0 K ch 0).1 (swS f (K 0 2) 0 K ch 0).2.1 (swS f (K 0 2) 0 K ch 0).2.2 := if_neg c
      rw [e, lpS_0 n _ _ _ a h]
      exact swS_0 _ _ _ _ _ a h
theorem InvX.k8 {σ σ' : am_Sg} {n lf f : Nat} {K K' Q S : KT} {Ce : Nat → Nat → Int32} {fl : Nat} {tr : Int32} (h : InvX σ n lf K Q S Ce fl tr) (hS : InvS σ σ' 1 f K') (hk : ∀ a, ¬ a = 8 → K' a = K a) : InvX σ' n lf K' Q S Ce fl tr := by
  obtain ⟨h1, h2, h3, h4, h5, h6, h7, h8, h9, h10⟩ := h
  obtain ⟨s1, s2, _, _, hf⟩ := hS
  have hc := s_cnt_K (K := K) (K' := K') (Q := Q) (fun a ha => hk a (by omega))
  have e0 := hk 0 (by omega)
  have hO8 := h1.2.2.1
  refine ⟨s2, s1, ?_, ?_, ?_, h6, ?_, ?_, ?_, h10⟩
  · unfold WfQ; rw [e0]; exact h3
  · unfold RepQ; rw [hf 43 (by omega) (by omega), hf 54 (by omega) (by omega), hf 55 (by omega) (by omega), hf 56 (by omega) (by omega), hf 57 (by omega) (by omega)]; exact h4
  · unfold RepF
    rw [hf 43 (by omega) (by omega), hc.1, hc.2, e0]
    exact ⟨h5.1, fun g => ⟨(h5.2 g).1, fun o ho k hk => by rw [hf (45 + o) (by omega) (by omega)]; exact (h5.2 g).2 o ho k hk⟩⟩
  · intro k hk; rw [hf (108 + 2 * k) (by omega) (by omega), hf (109 + 2 * k) (by omega) (by omega)]; exact h7 k hk
  · unfold RepZ; rw [hf 0 (by omega) (by omega)]; exact h8
  · intro j hj
    rw [hf 11 (by omega) (by omega), hf 22 (by omega) (by omega)]
    exact h9 j hj
theorem InvM.k8 {σ σ' : am_Sg} {K K' Q S : KT} {Ce : Nat → Nat → Int32} {fl : Nat} {tr : Int32} (h : InvM σ K Q S Ce fl tr) (hT : InvT σ σ' K') (hk : ∀ a, ¬ a = 8 → K' a = K a) : InvM σ' K' Q S Ce fl tr := by
  obtain ⟨g1, g2, g3, g4, g5, g6, g7, g8⟩ := h
  obtain ⟨s1, s2, _, hf, h6⟩ := hT
  refine ⟨s2, s1, ?_, ?_, g5, ?_, ?_, ?_⟩
  · unfold WfQ; rw [hk 0 (by omega)]; exact g3
  · rw [h6 33 (by omega), hf 140 (by omega) (by omega) (by omega) (by omega), hf 141 (by omega) (by omega) (by omega) (by omega), hf 142 (by omega) (by omega) (by omega) (by omega), hf 143 (by omega) (by omega) (by omega) (by omega)]; exact g4
  · rw [hf 117 (by omega) (by omega) (by omega) (by omega), hf 118 (by omega) (by omega) (by omega) (by omega), hf 119 (by omega) (by omega) (by omega) (by omega)]; exact g6
  · rw [h6 0 (by omega)]; exact g7
  · rw [h6 1 (by omega)]; exact g8
def f_settle (f : Int32) (s : ST) : Value × ST := if inN f 10000 then (if s.1 0 1 = 0 then (.int (-3), s) else (.int (nI (lpS f.toNatClampNeg 25 s.1 0 1).2), ((lpS f.toNatClampNeg 25 s.1 0 1).1, s.2))) else (.int (-2), s)
def C_xsettle : am_C := fun av n σ τ nf P => ∃ (f : Int32), pubX [.int f] (f_settle f) av n σ τ nf P
set_option maxRecDepth 100000 in
theorem M_xsettle (d : Nat) : am_Met (d + 5) 720 C_xsettle := am_meth (own0 := "CanalEnd") 720 (d + 4) 155 T_X7_settle (fun y => bif Nat.beq y 741 then C_isWater else (bif Nat.beq y 745 then C_isCanal else (bif Nat.beq y 752 then C_settleP else (am_no)))) C_xsettle rfl F_X7_settle rfl (by decide +kernel) Tc_X7_settle (fun y => am_g (M_isWater (d + 2)) (am_g (M_isCanal (d + 3)) (am_g (M_settleP (d + 0)) (am_no_met)))) (by
  intro av n σ τ nf P hnf hC
  obtain ⟨f, rfl, lf, ⟨K, Q, S, Ce, fl, tr⟩, rfl, hI, rfl, hP⟩ := hC
  have hn := Nlf_le hI.2.2.2.2.2.2.2.2.2
  refine ⟨hn, rfl, Nat.le_of_ble_eq_true rfl, fun Wb hs => ?_⟩
  have hI : InvX σ nf lf K Q S Ce fl tr := hI
  have hK := hI.1
  have hR := hI.2.1
  have hM10 := hK.2.1
  have hO8 := hK.2.2.1
  have eM : σ 1 1 = nI (K 0 1) := hR.1 1 (by omega)
  have eO : σ 1 2 = nI (K 0 2) := hR.1 2 (by omega)
  have fin : ∀ r9 : Int32, (f_settle f (K, Q, S, Ce, fl, tr)).2 = (K, Q, S, Ce, fl, tr) → (f_settle f (K, Q, S, Ce, fl, tr)).1 = .int r9 → P (some (.int r9)) σ (tauY 0 lf) := fun r9 e1 e2 => p_eqv e2 (hP σ (by rw [e1]; exact hI) (fun _ _ => fun _ => rfl))
  have fin2 : ∀ (v9 : Value) (K9 Q9 S9 : KT) (Ce9 : Nat → Nat → Int32) (fl9 : Nat) (tr9 : Int32) (σ9 : am_Sg), f_settle f (K, Q, S, Ce, fl, tr) = (v9, (K9, Q9, S9, Ce9, fl9, tr9)) → InvX σ9 nf lf K9 Q9 S9 Ce9 fl9 tr9 → FrX σ σ9 → P (some v9) σ9 (tauY 0 lf) := fun v9 K9 Q9 S9 Ce9 fl9 tr9 σ9 e h1 h2 => by have := hP σ9 (by rw [e]; exact h1) h2; rw [e] at this; exact this
  refine hs (fun _ => false) 60 0 _ _ _ _ _ ⟨rfl, f, rfl, fun g => ?_, fun g => vc_t rfl (And.intro rfl (fin _ (by unfold f_settle; rw [if_neg g]) (by unfold f_settle; rw [if_neg g])))⟩
  obtain ⟨u, hu, rfl⟩ := inN_ex g
  have hc : (nI u).toNatClampNeg = u := nI_clamp (by omega)
  refine vc_f (by decide) ⟨rfl, hn, lf, K 0 1, rfl, rfl, eM, by omega, fun c => vc_t rfl (And.intro rfl (fin _ (by unfold f_settle; rw [if_pos g, if_pos c]) (by unfold f_settle; rw [if_pos g, if_pos c]))), fun c => vc_f (by decide) ⟨rfl, hn, lf, 1, u, K, rfl, rfl, Or.inl rfl, hR, hK, by omega, fun σ2 h2 => And.intro rfl ?_⟩⟩
  refine fin2 _ _ _ _ _ _ _ σ2 (by unfold f_settle; rw [if_pos g, if_neg c, hc]) (hI.k8 h2 (fun a ha => lpS_0 _ _ _ _ a ha)) (fun q g1 g2 => h2.2.2.2.2 q (by omega) (by omega)))
def C_msettle : am_C := fun av n σ τ nf P => ∃ (f : Int32), pubM [.int f] (f_settle f) av n σ τ nf P
set_option maxRecDepth 100000 in
theorem M_msettle (d : Nat) : am_Met (d + 5) 846 C_msettle := am_meth (own0 := "CanalEndModel") 846 (d + 4) 155 T_X8_settle (fun y => bif Nat.beq y 823 then C_mWater else (bif Nat.beq y 845 then C_settles else (am_no))) C_msettle rfl F_X8_settle rfl (by decide +kernel) Tc_X8_settle (fun y => am_g (M_mWater (d + 2)) (am_g (M_settles (d + 0)) (am_no_met))) (by
  intro av n σ τ nf P hnf hC
  obtain ⟨f, rfl, hn, lf, ⟨K, Q, S, Ce, fl, tr⟩, rfl, hI, rfl, hP⟩ := hC
  refine ⟨hn, rfl, Nat.le_of_ble_eq_true rfl, fun Wb hs => ?_⟩
  have hI : InvM σ K Q S Ce fl tr := hI
  have hK := hI.1
  have hR := hI.2.1
  have hM10 := hK.2.1
  have hO8 := hK.2.2.1
  have eM := hR.2.1
  have eO := hR.2.2.1
  have fin : ∀ r9 : Int32, (f_settle f (K, Q, S, Ce, fl, tr)).2 = (K, Q, S, Ce, fl, tr) → (f_settle f (K, Q, S, Ce, fl, tr)).1 = .int r9 → P (some (.int r9)) σ (tauY 0 lf) := fun r9 e1 e2 => p_eqv e2 (hP σ (by rw [e1]; exact hI) (fun _ _ => rfl))
  have fin2 : ∀ (v9 : Value) (K9 Q9 S9 : KT) (Ce9 : Nat → Nat → Int32) (fl9 : Nat) (tr9 : Int32) (σ9 : am_Sg), f_settle f (K, Q, S, Ce, fl, tr) = (v9, (K9, Q9, S9, Ce9, fl9, tr9)) → InvM σ9 K9 Q9 S9 Ce9 fl9 tr9 → FrM σ σ9 → P (some v9) σ9 (tauY 0 lf) := fun v9 K9 Q9 S9 Ce9 fl9 tr9 σ9 e h1 h2 => by have := hP σ9 (by rw [e]; exact h1) h2; rw [e] at this; exact this
  refine hs (fun _ => false) 60 0 _ _ _ _ _ ⟨rfl, f, rfl, fun g => ?_, fun g => vc_t rfl (And.intro rfl (fin _ (by unfold f_settle; rw [if_neg g]) (by unfold f_settle; rw [if_neg g])))⟩
  obtain ⟨u, hu, rfl⟩ := inN_ex g
  have hc : (nI u).toNatClampNeg = u := nI_clamp (by omega)
  refine vc_f (by decide) (vc_if (fun c => ?_) (fun c => ?_))
  · rw [eM] at c
    have c := nI_inj (b := 0) (by omega) (by omega) c
    exact (And.intro rfl (fin _ (by unfold f_settle; rw [if_pos g, if_pos c]) (by unfold f_settle; rw [if_pos g, if_pos c])))
  · rw [eM] at c
    have c : ¬ K 0 1 = 0 := fun q => c (by rw [q]; rfl)
    refine ⟨rfl, hn, lf, u, K, rfl, rfl, hR, hK, by omega, by omega, fun σ2 h2 => And.intro rfl ?_⟩
    exact fin2 _ _ _ _ _ _ _ σ2 (by unfold f_settle; rw [if_pos g, if_neg c, hc]) (hI.k8 h2 (fun a ha => lpS_0 _ _ _ _ a ha)) (fun q g1 => h2.2.2.2.1 q (by omega) (by omega) (by omega) (by omega)))
