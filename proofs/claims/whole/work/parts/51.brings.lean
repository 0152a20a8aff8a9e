theorem InvM.bro {σ σ' : am_Sg} {K Q S : KT} {Ce : Nat → Nat → Int32} {fl : Nat} {tr : Int32} (h : InvM σ K Q S Ce fl tr) (hR : RepM σ' K) (hf : ∀ q, ¬ FrB q → σ' q = σ q) (h6 : ∀ i, ¬ i = 43 → σ' 116 i = σ 116 i) : InvM σ' K Q S Ce fl tr := by
  obtain ⟨g1, g2, g3, g4, g5, g6, g7, g8⟩ := h
  unfold FrB at hf
  refine ⟨g1, hR, g3, ?_, g5, ?_, ?_, ?_⟩
  · rw [h6 33 (by omega), hf 140 (by omega), hf 141 (by omega), hf 142 (by omega), hf 143 (by omega)]; exact g4
  · rw [hf 117 (by omega), hf 118 (by omega), hf 119 (by omega)]; exact g6
  · rw [h6 0 (by omega)]; exact g7
  · rw [h6 1 (by omega)]; exact g8
abbrev okB (K : KT) (s k : Int32) : Prop := inN s 3 ∧ ((s = 0 ∧ inN k (K 0 2)) ∨ (¬ s = 0 ∧ inN k (K 0 1)))
def f_brings (s k f : Int32) (t : ST) : Value × ST := (.int (if okB t.1 s k then (if inN f 10000 then nI (endA t.1 s.toNatClampNeg k.toNatClampNeg f.toNatClampNeg) else -2) else -1), t)
def C_xbrings : am_C := fun av n σ τ nf P => ∃ (s : Int32) (k : Int32) (f : Int32), pubX [.int s, .int k, .int f] (f_brings s k f) av n σ τ nf P
set_option maxRecDepth 100000 in
theorem M_xbrings (d : Nat) : am_Met (d + 6) 721 C_xbrings := am_meth (own0 := "CanalEnd") 721 (d + 5) 155 T_X7_brings (fun y => bif Nat.beq y 740 then C_isIn else (bif Nat.beq y 747 then C_isOutlet else (bif Nat.beq y 746 then C_isMile else (bif Nat.beq y 741 then C_isWater else (bif Nat.beq y 753 then C_endAfter else (am_no)))))) C_xbrings rfl F_X7_brings rfl (by decide +kernel) Tc_X7_brings (fun y => am_g (M_isIn (d + 4)) (am_g (M_isOutlet (d + 3)) (am_g (M_isMile (d + 3)) (am_g (M_isWater (d + 3)) (am_g (M_endAfter (d + 0)) (am_no_met)))))) (by
  intro av n σ τ nf P hnf hC
  obtain ⟨s, k, f, rfl, lf, ⟨K, Q, S, Ce, fl, tr⟩, rfl, hI, rfl, hP⟩ := hC
  have hn := Nlf_le hI.2.2.2.2.2.2.2.2.2
  refine ⟨hn, rfl, Nat.le_of_ble_eq_true rfl, fun Wb hs => ?_⟩
  have hI : InvX σ nf lf K Q S Ce fl tr := hI
  have hK := hI.1
  have hR := hI.2.1
  have hM10 := hK.2.1
  have hO8 := hK.2.2.1
  have eM : σ 1 1 = nI (K 0 1) := hR.1 1 (by omega)
  have eO : σ 1 2 = nI (K 0 2) := hR.1 2 (by omega)
  have fin : ∀ r9 : Int32, (f_brings s k f (K, Q, S, Ce, fl, tr)).2 = (K, Q, S, Ce, fl, tr) → (f_brings s k f (K, Q, S, Ce, fl, tr)).1 = .int r9 → P (some (.int r9)) σ (tauY 0 lf) := fun r9 e1 e2 => p_eqv e2 (hP σ (by rw [e1]; exact hI) (fun _ _ => fun _ => rfl))
  have fin2 : ∀ (v9 : Value) (K9 Q9 S9 : KT) (Ce9 : Nat → Nat → Int32) (fl9 : Nat) (tr9 : Int32) (σ9 : am_Sg), f_brings s k f (K, Q, S, Ce, fl, tr) = (v9, (K9, Q9, S9, Ce9, fl9, tr9)) → InvX σ9 nf lf K9 Q9 S9 Ce9 fl9 tr9 → FrX σ σ9 → P (some v9) σ9 (tauY 0 lf) := fun v9 K9 Q9 S9 Ce9 fl9 tr9 σ9 e h1 h2 => by have := hP σ9 (by rw [e]; exact h1) h2; rw [e] at this; exact this
  have go : okB K s k → inN f 10000 → Wb 44 [some (.ref 0), some (.int s), some (.int k), some (.int f)] [] nf σ (tauY 0 lf) := by
    intro hok g3
    have hok9 := hok
    obtain ⟨g, g2⟩ := hok9
    have hf9 := g3
    obtain ⟨a, ha, rfl⟩ := inN_ex g
    have hca : (nI a).toNatClampNeg = a := nI_clamp (by omega)
    obtain ⟨u, hu, rfl⟩ := inN_ex hf9
    have hcu : (nI u).toNatClampNeg = u := nI_clamp (by omega)
    have hz : nI a = 0 ↔ a = 0 := nI_eq (b := 0) (by omega) (by omega)
    obtain ⟨b, hb, rfl⟩ : ∃ b, ((a = 0 ∧ b < K 0 2) ∨ (¬ a = 0 ∧ b < K 0 1)) ∧ k = nI b := by
      rcases g2 with ⟨e, g2⟩ | ⟨e, g2⟩
      · obtain ⟨b, hb, e9⟩ := inN_ex g2
        exact ⟨b, Or.inl ⟨hz.mp e, hb⟩, e9⟩
      · obtain ⟨b, hb, e9⟩ := inN_ex g2
        exact ⟨b, Or.inr ⟨fun q => e (hz.mpr q), hb⟩, e9⟩
    have hcb : (nI b).toNatClampNeg = b := nI_clamp (by omega)
    have hpos : 0 < K 0 1 := by
      have := hK.2.2.2.2.2.1
      omega
    have ef : f_brings (nI a) (nI b) (nI u) (K, Q, S, Ce, fl, tr) = (.int (nI (endA K a b u)), (K, Q, S, Ce, fl, tr)) := by
      unfold f_brings
      rw [if_pos hok, if_pos g3, hca, hcb, hcu]
    exact hs (fun _ => false) 60 44 _ _ _ _ _ ⟨rfl, hn, lf, a, b, u, K, rfl, rfl, by omega, fun q => by omega, fun q => by omega, hR, hK, hI.2.2.2.2.2.2.2.2.1, by omega, fun σ2 h1 h2 => And.intro rfl (fin2 _ K Q S Ce fl tr σ2 ef (hI.keep (fun q hq => h2 q (by unfold Pq at hq; omega) (by unfold Pq at hq; omega)) h1) (fun q g1 g2 => h2 q (by omega) (by omega)))⟩
  refine hs (fun p => Nat.beq p 44) 60 0 _ _ _ _ _ ⟨rfl, s, 0, 2, rfl, fun g => ?_, fun g => ?_⟩
  · have g := (in_iff (N := 3) rfl).mp g
    refine vc_f (by decide) (vc_if (fun c => ⟨rfl, hn, 0, lf, K 0 2, k, rfl, rfl, eO, by omega, fun g2 => vc_f (by decide) ⟨rfl, f, rfl, fun g3 => vc_f (by decide) (go ⟨g, Or.inl ⟨c, g2⟩⟩ g3), fun g3 => vc_t rfl (And.intro rfl (fin _ rfl (congrArg Value.int (by rw [if_pos (show okB K s k from ⟨g, Or.inl ⟨c, g2⟩⟩), if_neg g3]))))⟩, fun g2 => vc_t rfl (And.intro rfl (fin _ rfl (congrArg Value.int (by rw [if_neg (fun q => Or.elim q.2 (fun q => g2 q.2) (fun q => q.1 c))]))))⟩) (fun c => ⟨rfl, hn, 0, lf, K 0 1, k, rfl, rfl, eM, by omega, fun g2 => vc_f (by decide) ⟨rfl, f, rfl, fun g3 => vc_f (by decide) (go ⟨g, Or.inr ⟨c, g2⟩⟩ g3), fun g3 => vc_t rfl (And.intro rfl (fin _ rfl (congrArg Value.int (by rw [if_pos (show okB K s k from ⟨g, Or.inr ⟨c, g2⟩⟩), if_neg g3]))))⟩, fun g2 => vc_t rfl (And.intro rfl (fin _ rfl (congrArg Value.int (by rw [if_neg (fun q => Or.elim q.2 (fun q => c q.1) (fun q => g2 q.2))]))))⟩))
  · have g : ¬ inN s 3 := fun q => g ((in_iff rfl).mpr q)
    exact vc_t rfl (And.intro rfl (fin _ rfl (congrArg Value.int (by rw [if_neg (fun q => g q.1)])))))
def C_mbrings : am_C := fun av n σ τ nf P => ∃ (s : Int32) (k : Int32) (f : Int32), pubM [.int s, .int k, .int f] (f_brings s k f) av n σ τ nf P
set_option maxRecDepth 100000 in
theorem M_mbrings (d : Nat) : am_Met (d + 6) 848 C_mbrings := am_meth (own0 := "CanalEndModel") 848 (d + 5) 155 T_X8_brings (fun y => bif Nat.beq y 803 then C_within else (bif Nat.beq y 810 then C_mOutlet else (bif Nat.beq y 809 then C_mMile else (bif Nat.beq y 823 then C_mWater else (bif Nat.beq y 847 then C_brought else (am_no)))))) C_mbrings rfl F_X8_brings rfl (by decide +kernel) Tc_X8_brings (fun y => am_g (M_within (d + 4)) (am_g (M_mOutlet (d + 4)) (am_g (M_mMile (d + 4)) (am_g (M_mWater (d + 3)) (am_g (M_brought (d + 0)) (am_no_met)))))) (by
  intro av n σ τ nf P hnf hC
  obtain ⟨s, k, f, rfl, hn, lf, ⟨K, Q, S, Ce, fl, tr⟩, rfl, hI, rfl, hP⟩ := hC
  refine ⟨hn, rfl, Nat.le_of_ble_eq_true rfl, fun Wb hs => ?_⟩
  have hI : InvM σ K Q S Ce fl tr := hI
  have hK := hI.1
  have hR := hI.2.1
  have hM10 := hK.2.1
  have hO8 := hK.2.2.1
  have eM := hR.2.1
  have eO := hR.2.2.1
  have fin : ∀ r9 : Int32, (f_brings s k f (K, Q, S, Ce, fl, tr)).2 = (K, Q, S, Ce, fl, tr) → (f_brings s k f (K, Q, S, Ce, fl, tr)).1 = .int r9 → P (some (.int r9)) σ (tauY 0 lf) := fun r9 e1 e2 => p_eqv e2 (hP σ (by rw [e1]; exact hI) (fun _ _ => rfl))
  have fin2 : ∀ (v9 : Value) (K9 Q9 S9 : KT) (Ce9 : Nat → Nat → Int32) (fl9 : Nat) (tr9 : Int32) (σ9 : am_Sg), f_brings s k f (K, Q, S, Ce, fl, tr) = (v9, (K9, Q9, S9, Ce9, fl9, tr9)) → InvM σ9 K9 Q9 S9 Ce9 fl9 tr9 → FrM σ σ9 → P (some v9) σ9 (tauY 0 lf) := fun v9 K9 Q9 S9 Ce9 fl9 tr9 σ9 e h1 h2 => by have := hP σ9 (by rw [e]; exact h1) h2; rw [e] at this; exact this
  have go : okB K s k → inN f 10000 → Wb 41 [some (.ref 116), some (.int s), some (.int k), some (.int f)] [] nf σ (tauY 0 lf) := by
    intro hok g3
    have hok9 := hok
    obtain ⟨g, g2⟩ := hok9
    have hf9 := g3
    obtain ⟨a, ha, rfl⟩ := inN_ex g
    have hca : (nI a).toNatClampNeg = a := nI_clamp (by omega)
    obtain ⟨u, hu, rfl⟩ := inN_ex hf9
    have hcu : (nI u).toNatClampNeg = u := nI_clamp (by omega)
    have hz : nI a = 0 ↔ a = 0 := nI_eq (b := 0) (by omega) (by omega)
    obtain ⟨b, hb, rfl⟩ : ∃ b, ((a = 0 ∧ b < K 0 2) ∨ (¬ a = 0 ∧ b < K 0 1)) ∧ k = nI b := by
      rcases g2 with ⟨e, g2⟩ | ⟨e, g2⟩
      · obtain ⟨b, hb, e9⟩ := inN_ex g2
        exact ⟨b, Or.inl ⟨hz.mp e, hb⟩, e9⟩
      · obtain ⟨b, hb, e9⟩ := inN_ex g2
        exact ⟨b, Or.inr ⟨fun q => e (hz.mpr q), hb⟩, e9⟩
    have hcb : (nI b).toNatClampNeg = b := nI_clamp (by omega)
    have hpos : 0 < K 0 1 := by
      have := hK.2.2.2.2.2.1
      omega
    have ef : f_brings (nI a) (nI b) (nI u) (K, Q, S, Ce, fl, tr) = (.int (nI (endA K a b u)), (K, Q, S, Ce, fl, tr)) := by
      unfold f_brings
      rw [if_pos hok, if_pos g3, hca, hcb, hcu]
    exact hs (fun _ => false) 60 41 _ _ _ _ _ ⟨rfl, hn, lf, a, b, u, K, rfl, rfl, by omega, fun q => by omega, fun q => by omega, hR, hK, hpos, by omega, fun σ2 h1 h2 h3 => And.intro rfl (fin2 _ K Q S Ce fl tr σ2 ef (hI.bro h1 h2 h3) (fun q g1 => h2 q (by unfold FrB; omega)))⟩
  refine hs (fun p => Nat.beq p 41) 60 0 _ _ _ _ _ ⟨rfl, s, 0, 2, rfl, fun g => ?_, fun g => ?_⟩
  · have g := (in_iff (N := 3) rfl).mp g
    refine vc_f (by decide) (vc_if (fun c => ⟨rfl, hn, 0, lf, K 0 2, k, rfl, rfl, eO, by omega, fun g2 => vc_f (by decide) ⟨rfl, f, rfl, fun g3 => vc_f (by decide) (go ⟨g, Or.inl ⟨c, g2⟩⟩ g3), fun g3 => vc_t rfl (And.intro rfl (fin _ rfl (congrArg Value.int (by rw [if_pos (show okB K s k from ⟨g, Or.inl ⟨c, g2⟩⟩), if_neg g3]))))⟩, fun g2 => vc_t rfl (And.intro rfl (fin _ rfl (congrArg Value.int (by rw [if_neg (fun q => Or.elim q.2 (fun q => g2 q.2) (fun q => q.1 c))]))))⟩) (fun c => ⟨rfl, hn, 0, lf, K 0 1, k, rfl, rfl, eM, by omega, fun g2 => vc_f (by decide) ⟨rfl, f, rfl, fun g3 => vc_f (by decide) (go ⟨g, Or.inr ⟨c, g2⟩⟩ g3), fun g3 => vc_t rfl (And.intro rfl (fin _ rfl (congrArg Value.int (by rw [if_pos (show okB K s k from ⟨g, Or.inr ⟨c, g2⟩⟩), if_neg g3]))))⟩, fun g2 => vc_t rfl (And.intro rfl (fin _ rfl (congrArg Value.int (by rw [if_neg (fun q => Or.elim q.2 (fun q => c q.1) (fun q => g2 q.2))]))))⟩))
  · have g : ¬ inN s 3 := fun q => g ((in_iff rfl).mpr q)
    exact vc_t rfl (And.intro rfl (fin _ rfl (congrArg Value.int (by rw [if_neg (fun q => g q.1)])))))
