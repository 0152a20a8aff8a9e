def thK (K : KT) (s k : Nat) : KT := if s = 0 then setK (setK K 8 k 0) 10 k 1 else if s = 1 then setK K 2 k 0 else setK K 1 k 0
def endA (K : KT) (s k f : Nat) : Nat := s_de (lpS f 25 (thK K s k) 0 1).1 f
theorem thK_wf {K : KT} {s k : Nat} (h : WfK K) : WfK (thK K s k) := by
  unfold thK
  split
  · exact (h.set (f := 8) (i := k) (v := 0) (by omega) (Nat.zero_le _)).set (by omega) (show 1 ≤ 1 by omega)
  · split
    · exact h.set (by omega) (Nat.zero_le _)
    · exact h.set (by omega) (Nat.zero_le _)
def C_endAfter : am_C := fun av n σ τ nf P => nf = n ∧ 155 ≤ n ∧ ∃ (lf s k f : Nat) (K : KT), τ = tauY 0 lf ∧ av = [.ref 0, .int (nI s), .int (nI k), .int (nI f)] ∧ s ≤ 2 ∧ (s = 0 → k < K 0 2) ∧ (¬ s = 0 → k < K 0 1) ∧ RepX σ 1 K ∧ WfK K ∧ RepG σ ∧ f ≤ 9999 ∧ ∀ σ', RepG σ' → (∀ q, ¬ (12 ≤ q ∧ q ≤ 22) → ¬ (29 ≤ q ∧ q ≤ 35) → σ' q = σ q) → P (some (.int (nI (endA K s k f)))) σ' τ
set_option maxRecDepth 100000 in
theorem M_endAfter (d : Nat) : am_Met (d + 5) 753 C_endAfter := am_meth (own0 := "CanalEnd") 753 (d + 4) 155 T_X7_endAfter (fun y => bif Nat.beq y 4 then C_become else (bif Nat.beq y 752 then C_settleP else (am_no))) C_endAfter rfl F_X7_endAfter rfl (by decide +kernel) Tc_X7_endAfter (fun y => am_g (M_become (d + 3)) (am_g (M_settleP (d + 0)) (am_no_met))) (by
  intro av n σ τ nf P hnf hC
  obtain ⟨rfl, hn, lf, s, k, f, K, rfl, rfl, hs2, hk0, hk1, hR, hK, hG, hf, hP⟩ := hC
  refine ⟨hn, rfl, Nat.le_of_ble_eq_true rfl, fun Wb hs => ?_⟩
  have hM10 := hK.2.1
  have hO8 := hK.2.2.1
  have hck : (nI k).toNatClampNeg = k := nI_clamp (by by_cases q : s = 0 <;> omega)
  have fin : ∀ σ1 σ3 σ4 : am_Sg, RepG σ1 → (∀ q, ¬ (12 ≤ q ∧ q ≤ 12 + 10) → σ1 q = σ q) → RepG σ3 → (∀ q, ¬ (12 ≤ q ∧ q ≤ 22) → σ3 q = σ1 q) → InvS σ3 σ4 12 f (lpS f 25 (thK K s k) 0 1).1 → P (some (.int (σ4 29 1))) σ4 (tauY 0 lf) := by
    intro σ1 σ3 σ4 g1 f1 g3 f3 h4
    rw [h4.2.2.2.1]
    refine hP σ4 (g3.fr (h4.2.2.2.2 11 (by omega) (by omega)) (h4.2.2.2.2 22 (by omega) (by omega))) (fun q a b => ?_)
    rw [h4.2.2.2.2 q (by omega) (by omega), f3 q (by omega), f1 q (by omega)]
  refine hs (fun _ => false) 90 0 _ _ _ _ _ ⟨rfl, hn, 0, lf, 12, 1, K, rfl, rfl, Or.inl ⟨rfl, rfl⟩, hR, hK, hG, fun σ1 b1 b2 b3 => ?_⟩
  refine vc_if (fun c => ?_) (fun c => vc_if (fun c1 => ?_) (fun c1 => ?_))
  · have c := nI_inj (b := 0) (by omega) (by omega) c
    have hk := hk0 c
    refine And.intro (vin (show k < 8 by omega)) (fun σ2 e2 => And.intro (vin (show k < 8 by omega)) (fun σ3 e3 => ?_))
    rw [hck] at e2 e3
    have e2 : σ2 = am_up σ1 20 k (nI 0) := e2
    have e3 : σ3 = am_up σ2 22 k (nI 1) := e3
    have et : thK K s k = setK (setK K 8 k 0) 10 k 1 := if_pos c
    have hR2 : RepX σ2 12 (setK K 8 k 0) := by rw [e2]; exact b1.set (f := 8) (by omega)
    have hR3 : RepX σ3 12 (thK K s k) := by rw [et, e3]; exact hR2.set (f := 10) (by omega)
    have g3 : RepG σ3 := fun i hi => by
      refine ⟨by rw [e3, up_rn (by omega), e2, up_rn (by omega)]; exact (b2 i hi).1, ?_⟩
      by_cases q : i = k
      · rw [q, e3, up_at]; exact Or.inr rfl
      · rw [e3, up_ne q, e2, up_rn (by omega)]; exact (b2 i hi).2
    exact ⟨rfl, hn, lf, 12, f, thK K s k, rfl, rfl, Or.inr rfl, hR3, thK_wf hK, hf, fun σ4 h4 => And.intro rfl (fin σ1 σ3 σ4 b2 b3 g3 (fun q g => by rw [e3, am_up_ne (by omega), e2, am_up_ne (by omega)]) h4)⟩
  · have c : ¬ s = 0 := fun q => c (by rw [q]; rfl)
    have c1 := nI_inj (b := 1) (by omega) (by omega) c1
    have hk := hk1 c
    refine And.intro (vin (show k < 10 by omega)) (fun σ3 e3 => ?_)
    rw [hck] at e3
    have e3 : σ3 = am_up σ1 14 k (nI 0) := e3
    have et : thK K s k = setK K 2 k 0 := by unfold thK; rw [if_neg c, if_pos c1]
    have hR3 : RepX σ3 12 (thK K s k) := by rw [et, e3]; exact b1.set (f := 2) (by omega)
    have g3 : RepG σ3 := b2.fr (by rw [e3, am_up_ne (by omega)]) (by rw [e3, am_up_ne (by omega)])
    exact ⟨rfl, hn, lf, 12, f, thK K s k, rfl, rfl, Or.inr rfl, hR3, thK_wf hK, hf, fun σ4 h4 => And.intro rfl (fin σ1 σ3 σ4 b2 b3 g3 (fun q g => by rw [e3, am_up_ne (by omega)]) h4)⟩
  · have c : ¬ s = 0 := fun q => c (by rw [q]; rfl)
    have c1 : ¬ s = 1 := fun q => c1 (by rw [q]; rfl)
    have hk := hk1 c
    refine And.intro (vin (show k < 10 by omega)) (fun σ3 e3 => ?_)
    rw [hck] at e3
    have e3 : σ3 = am_up σ1 13 k (nI 0) := e3
    have et : thK K s k = setK K 1 k 0 := by unfold thK; rw [if_neg c, if_neg c1]
    have hR3 : RepX σ3 12 (thK K s k) := by rw [et, e3]; exact b1.set (f := 1) (by omega)
    have g3 : RepG σ3 := b2.fr (by rw [e3, am_up_ne (by omega)]) (by rw [e3, am_up_ne (by omega)])
    exact ⟨rfl, hn, lf, 12, f, thK K s k, rfl, rfl, Or.inr rfl, hR3, thK_wf hK, hf, fun σ4 h4 => And.intro rfl (fin σ1 σ3 σ4 b2 b3 g3 (fun q g => by rw [e3, am_up_ne (by omega)]) h4)⟩)
