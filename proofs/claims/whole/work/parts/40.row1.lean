theorem agn_z {S : KT} {a u : Nat} {i m : Int32} (h : agn S a u i m = 0) : clsOk i m (S a 2) := by
  unfold agn at h
  split at h
  · omega
  · split at h
    · omega
    · split at h
      · omega
      · split at h
        · assumption
        · omega
theorem agn_le {S : KT} {a u : Nat} {i m : Int32} : agn S a u i m ≤ 4 := by
  unfold agn
  split
  · omega
  · split
    · omega
    · split
      · omega
      · split <;> omega
theorem rfz_n {c : Nat} (h : c ≤ 4) (h0 : ¬ c = 0) : ¬ rfz c = 0 := by
  rcases (show c = 1 ∨ c = 2 ∨ c = 3 ∨ c = 4 by omega) with rfl | rfl | rfl | rfl <;> decide
def f_row (k t i m w : Int32) (s : ST) : Value × ST := if inN k 4 ∧ inN t 3 ∧ agn s.2.2.1 k.toNatClampNeg t.toNatClampNeg i m = 0 then (.int (if alW (s.2.2.2.1 k.toNatClampNeg) i.toNatClampNeg m.toNatClampNeg ∧ okW s.1 w then (if s.1 0 1 = 0 then -3 else rSum s.1 (s.2.2.2.1 k.toNatClampNeg) i.toNatClampNeg w.toNatClampNeg m.toNatClampNeg) else -2), setF s 0) else f_ref k t i m s
def C_isAllWater : am_C := fun av n σ τ nf P => nf = n ∧ 155 ≤ n ∧ ∃ (lf k x y : Nat) (c : Nat → Int32), τ = tauY 0 lf ∧ k < 4 ∧ av = [.ref (108 + 2 * k), .int (nI x), .int (nI y)] ∧ x + y ≤ 100 ∧ (∀ i, i < 100 → σ (109 + 2 * k) i = c i) ∧ (alW c x y → P (some (.int 1)) σ τ) ∧ (¬ alW c x y → P (some (.int 0)) σ τ)
theorem w_iff {v : Int32} : ((-9999 : Int32) ≤ v ∧ v ≤ 9999) ↔ (-9999 ≤ v.toInt ∧ v.toInt ≤ 9999) := by
  rw [i_le, i_le]
  exact Iff.rfl
set_option maxRecDepth 100000 in
theorem M_isAllWater (d : Nat) : am_Met (d + 2) 405 C_isAllWater := am_meth (own0 := "CanalEnd$Sheet") 405 (d + 1) 155 T_X4_isAllWater (fun y => bif Nat.beq y 740 then C_isIn else (am_no)) C_isAllWater rfl F_X4_isAllWater rfl (by decide +kernel) Tc_X4_isAllWater (fun y => am_g (M_isIn (d + 0)) (am_no_met)) (by
  intro av n σ τ nf P hnf hC
  obtain ⟨rfl, hn, lf, k, x, y, c, rfl, hk, rfl, hxy, hcs, h1, h2⟩ := hC
  refine ⟨hn, rfl, Nat.le_of_ble_eq_true rfl, fun Wb hs => ?_⟩
  have key : ∀ r z, z + r = y → alW c x z → Wb 2 [some (.ref (108 + 2 * k)), some (.int (nI x)), some (.int (nI y)), some (.int (nI (x + z)))] [] nf σ (tauY 0 lf) := by
    intro r
    induction r with
    | zero =>
      intro z hz ha
      have hz : z = y := by omega
      subst hz
      have hle : nI x + nI z ≤ nI (x + z) := by rw [nI_add]; exact nI_le (Nat.le_refl _) (by omega)
      rcases k4 hk with rfl | rfl | rfl | rfl
      all_goals exact hs (fun p => Nat.beq p 2) 60 2 _ _ _ _ _ (vc_t hle (And.intro (Or.inr rfl) (And.intro rfl (h1 ha))))
    | succ r ih =>
      intro z hz ha
      have hle : ¬ nI x + nI y ≤ nI (x + z) := by rw [nI_add]; exact nI_ge (by omega) (by omega)
      have hcl : (nI (x + z)).toNatClampNeg = x + z := nI_clamp (by omega)
      have ec := hcs (x + z) (by omega)
      have ih := fun g => ih (z + 1) (by omega) g
      rw [show x + (z + 1) = (x + z) + 1 by omega, nI_succ] at ih
      have yes : -9999 ≤ (c (x + z)).toInt ∧ (c (x + z)).toInt ≤ 9999 → alW c x (z + 1) := fun g u hu => by
        by_cases q : u = z
        · rw [q]; exact g
        · exact ha u (by omega)
      rcases k4 hk with rfl | rfl | rfl | rfl
      all_goals
        refine hs (fun p => Nat.beq p 2) 60 2 _ _ _ _ _ (vc_f hle (And.intro (vin (show x + z < 100 by omega)) ⟨rfl, c (x + z), -9999, 9999, by rw [hcl, ← ec], fun g => vc_f (by decide) (ih (yes (w_iff.mp g))), fun g => vc_t rfl (And.intro (Or.inl rfl) (And.intro rfl (h2 (fun q => g (w_iff.mpr (q z (by omega)))))))⟩))
  have := key y 0 (by omega) (fun z hz => absurd hz (by omega))
  rcases k4 hk with rfl | rfl | rfl | rfl
  all_goals exact hs (fun p => Nat.beq p 2) 60 0 _ _ _ _ _ this)
def C_isCanal : am_C := fun av n σ τ nf P => nf = n ∧ 155 ≤ n ∧ ∃ (lf M : Nat), τ = tauY 0 lf ∧ av = [.ref 0] ∧ σ 1 1 = nI M ∧ M ≤ 10 ∧ (M = 0 → P (some (.int 0)) σ τ) ∧ (¬ M = 0 → P (some (.int 1)) σ τ)
set_option maxRecDepth 100000 in
theorem M_isCanal (d : Nat) : am_Met (d + 1) 745 C_isCanal := am_meth (own0 := "CanalEnd") 745 (d + 0) 155 T_X7_isCanal (fun y => am_no) C_isCanal rfl F_X7_isCanal rfl (by decide +kernel) Tc_X7_isCanal (fun y => am_no_met) (by
  intro av n σ τ nf P hnf hC
  obtain ⟨rfl, hn, lf, M, rfl, rfl, hM, hb, h1, h2⟩ := hC
  refine ⟨hn, rfl, Nat.le_of_ble_eq_true rfl, fun Wb hs => ?_⟩
  refine hs (fun _ => false) 30 0 _ _ _ _ _ (vc_if (fun c => And.intro (Or.inl rfl) (And.intro rfl (h1 ?_))) (fun c => And.intro (Or.inr rfl) (And.intro rfl (h2 ?_))))
  · rw [hM] at c
    have := (nI_leI (b := 0) (by omega) (by omega)).mp c
    omega
  · rw [hM] at c
    intro q
    exact c (by rw [q]; decide))
def C_sumOf : am_C := fun av n σ τ nf P => nf = n ∧ 155 ≤ n ∧ ∃ (lf f a e w : Nat), τ = tauY 0 lf ∧ av = [.ref 24, .int (nI w)] ∧ w < 4 ∧ σ 24 4 = nI f ∧ σ 24 5 = nI a ∧ σ 24 6 = nI e ∧ a + e ≤ f ∧ P (some (.int (nI (if w = 0 then f else if w = 1 then a else if w = 2 then f - a - e else e)))) σ τ
set_option maxRecDepth 100000 in
theorem M_sumOf (d : Nat) : am_Met (d + 1) 302 C_sumOf := am_meth (own0 := "CanalEnd$Hour") 302 (d + 0) 155 T_X3_sumOf (fun y => am_no) C_sumOf rfl F_X3_sumOf rfl (by decide +kernel) Tc_X3_sumOf (fun y => am_no_met) (by
  intro av n σ τ nf P hnf hC
  obtain ⟨rfl, hn, lf, f, a, e, w, rfl, rfl, hw, h4, h5, h6, hle, hP⟩ := hC
  refine ⟨hn, rfl, Nat.le_of_ble_eq_true rfl, fun Wb hs => ?_⟩
  refine hs (fun _ => false) 30 0 _ _ _ _ _ ⟨fun c0 => And.intro rfl ?_, fun c0 => ⟨fun c1 => And.intro rfl ?_, fun c1 => ⟨fun c2 => And.intro rfl ?_, fun c2 => And.intro rfl ?_⟩⟩⟩
  · have c0 := nI_inj (by omega) (by omega) c0
    rw [if_pos c0] at hP
    rw [h4]; exact hP
  · have c0 : ¬ w = 0 := fun q => c0 (by rw [q])
    have c1 := nI_inj (by omega) (by omega) c1
    rw [if_neg c0, if_pos c1] at hP
    rw [h5]; exact hP
  · have c0 : ¬ w = 0 := fun q => c0 (by rw [q])
    have c1 : ¬ w = 1 := fun q => c1 (by rw [q])
    have c2 := nI_inj (by omega) (by omega) c2
    rw [if_neg c0, if_neg c1, if_pos c2] at hP
    rw [h4, h5, h6, nI_subN (by omega), nI_subN (by omega)]; exact hP
  · have c0 : ¬ w = 0 := fun q => c0 (by rw [q])
    have c1 : ¬ w = 1 := fun q => c1 (by rw [q])
    have c2 : ¬ w = 2 := fun q => c2 (by rw [q])
    rw [if_neg c0, if_neg c1, if_neg c2] at hP
    rw [h6]; exact hP)
