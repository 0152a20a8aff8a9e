abbrev okD (d c f : Int32) : Prop := (1 ≤ d.toInt ∧ d.toInt ≤ 8) ∧ inN c 1000 ∧ inN f 10000
theorem d_iff {d : Int32} : ((1 : Int32) ≤ d ∧ d ≤ 8) ↔ (1 ≤ d.toInt ∧ d.toInt ≤ 8) := by
  rw [i_le, i_le]
  exact Iff.rfl
def C_isDigging : am_C := fun av n σ τ nf P => nf = n ∧ ∃ d c f : Int32, av = [.int d, .int c, .int f] ∧ (okD d c f → P (some (.int 1)) σ τ) ∧ (¬ okD d c f → P (some (.int 0)) σ τ)
set_option maxRecDepth 100000 in
theorem M_isDigging (d : Nat) : am_Met (d + 3) 744 C_isDigging := am_meth (own0 := "CanalEnd") 744 (d + 2) 0 T_X7_isDigging (fun y => bif Nat.beq y 740 then C_isIn else (bif Nat.beq y 741 then C_isWater else (am_no))) C_isDigging rfl F_X7_isDigging rfl (by decide +kernel) Tc_X7_isDigging (fun y => am_g (M_isIn (d + 1)) (am_g (M_isWater (d + 0)) (am_no_met))) (by
  intro av n σ τ nf P hnf hC
  obtain ⟨rfl, d, c, f, rfl, h1, h2⟩ := hC
  refine ⟨Nat.zero_le _, rfl, Nat.le_of_ble_eq_true rfl, fun Wb hs => ?_⟩
  exact hs (fun _ => false) 60 0 _ _ _ _ _ ⟨rfl, d, 1, 8, rfl, fun g => vc_f (by decide) ⟨rfl, c, 0, 999, rfl, fun g2 => vc_f (by decide) ⟨rfl, f, rfl, fun g3 => vc_f (by decide) (And.intro (Or.inr rfl) (And.intro rfl (h1 ⟨d_iff.mp g, (in_iff (N := 1000) rfl).mp g2, g3⟩))), fun g3 => vc_t rfl (And.intro (Or.inl rfl) (And.intro rfl (h2 (fun q => g3 q.2.2))))⟩, fun g2 => vc_t rfl (And.intro (Or.inl rfl) (And.intro rfl (h2 (fun q => g2 ((in_iff (N := 1000) rfl).mpr q.2.1)))))⟩, fun g => vc_t rfl (And.intro (Or.inl rfl) (And.intro rfl (h2 (fun q => g (d_iff.mpr q.1)))))⟩)
def C_mDigging : am_C := fun av n σ τ nf P => nf = n ∧ 155 ≤ n ∧ ∃ d c f : Int32, av = [.ref 116, .int d, .int c, .int f] ∧ (okD d c f → P (some (.int 1)) σ τ) ∧ (¬ okD d c f → P (some (.int 0)) σ τ)
set_option maxRecDepth 100000 in
theorem M_mDigging (d : Nat) : am_Met (d + 3) 854 C_mDigging := am_meth (own0 := "CanalEndModel") 854 (d + 2) 155 T_X8_isDigging (fun y => bif Nat.beq y 803 then C_within else (bif Nat.beq y 823 then C_mWater else (am_no))) C_mDigging rfl F_X8_isDigging rfl (by decide +kernel) Tc_X8_isDigging (fun y => am_g (M_within (d + 1)) (am_g (M_mWater (d + 0)) (am_no_met))) (by
  intro av n σ τ nf P hnf hC
  obtain ⟨rfl, hn, d, c, f, rfl, h1, h2⟩ := hC
  refine ⟨hn, rfl, Nat.le_of_ble_eq_true rfl, fun Wb hs => ?_⟩
  exact hs (fun _ => false) 60 0 _ _ _ _ _ ⟨rfl, d, 1, 8, rfl, fun g => vc_f (by decide) ⟨rfl, c, 0, 999, rfl, fun g2 => vc_f (by decide) ⟨rfl, f, rfl, fun g3 => vc_f (by decide) (And.intro (Or.inr rfl) (And.intro rfl (h1 ⟨d_iff.mp g, (in_iff (N := 1000) rfl).mp g2, g3⟩))), fun g3 => vc_t rfl (And.intro (Or.inl rfl) (And.intro rfl (h2 (fun q => g3 q.2.2))))⟩, fun g2 => vc_t rfl (And.intro (Or.inl rfl) (And.intro rfl (h2 (fun q => g2 ((in_iff (N := 1000) rfl).mpr q.2.1)))))⟩, fun g => vc_t rfl (And.intro (Or.inl rfl) (And.intro rfl (h2 (fun q => g (d_iff.mpr q.1)))))⟩)
def C_gotOf : am_C := fun av n σ τ nf P => nf = n ∧ 155 ≤ n ∧ ∃ (lf o b : Nat), τ = tauY 0 lf ∧ av = [.ref 0, .int (nI o), .int (nI b)] ∧ o < 8 ∧ b ≤ 1 ∧ P (some (.int (if b = 0 then σ 30 o else σ 37 o))) σ τ
set_option maxRecDepth 100000 in
theorem M_gotOf (d : Nat) : am_Met (d + 1) 756 C_gotOf := am_meth (own0 := "CanalEnd") 756 (d + 0) 155 T_X7_gotOf (fun y => am_no) C_gotOf rfl F_X7_gotOf rfl (by decide +kernel) Tc_X7_gotOf (fun y => am_no_met) (by
  intro av n σ τ nf P hnf hC
  obtain ⟨rfl, hn, lf, o, b, rfl, rfl, ho, hb, hP⟩ := hC
  refine ⟨hn, rfl, Nat.le_of_ble_eq_true rfl, fun Wb hs => ?_⟩
  have hc : (nI o).toNatClampNeg = o := nI_clamp (by omega)
  refine hs (fun _ => false) 60 0 _ _ _ _ _ (vc_if (fun c => And.intro (vin ho) (And.intro rfl ?_)) (fun c => And.intro (vin ho) (And.intro rfl ?_)))
  · have c := nI_inj (b := 0) (by omega) (by omega) c
    rw [if_pos c] at hP
    rw [hc]; exact hP
  · have c : ¬ b = 0 := fun q => c (by rw [q]; rfl)
    rw [if_neg c] at hP
    rw [hc]; exact hP)
def C_dayBy : am_C := fun av n σ τ nf P => nf = n ∧ 155 ≤ n ∧ ∃ (lf o : Nat) (c d : Int32), τ = tauY 0 lf ∧ av = [.ref 116, .int (nI o), .int c, .int d] ∧ o < 8 ∧ P (some (.int (if c < d then σ 150 o else σ 151 o))) σ τ
set_option maxRecDepth 100000 in
theorem M_dayBy (d : Nat) : am_Met (d + 1) 852 C_dayBy := am_meth (own0 := "CanalEndModel") 852 (d + 0) 155 T_X8_dayBy (fun y => am_no) C_dayBy rfl F_X8_dayBy rfl (by decide +kernel) Tc_X8_dayBy (fun y => am_no_met) (by
  intro av n σ τ nf P hnf hC
  obtain ⟨rfl, hn, lf, o, c, d, rfl, rfl, ho, hP⟩ := hC
  refine ⟨hn, rfl, Nat.le_of_ble_eq_true rfl, fun Wb hs => ?_⟩
  have hc : (nI o).toNatClampNeg = o := nI_clamp (by omega)
  refine hs (fun _ => false) 60 0 _ _ _ _ _ (vc_if (fun g => And.intro (vin ho) (And.intro rfl ?_)) (fun g => And.intro (vin ho) (And.intro rfl ?_)))
  · rw [if_pos g] at hP
    rw [hc]; exact hP
  · rw [if_neg g] at hP
    rw [hc]; exact hP)
