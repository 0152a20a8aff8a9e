def C_become : am_C := fun av n σ τ nf P => nf = n ∧ 155 ≤ n ∧ ∃ (rw lf a b : Nat) (K : KT), τ = tauY rw lf ∧ av = [.ref a, .ref b] ∧ ((a = 12 ∧ b = 1) ∨ (a = 1 ∧ b = 12)) ∧ RepX σ b K ∧ WfK K ∧ RepG σ ∧ ∀ σ', RepX σ' a K → RepG σ' → (∀ q, ¬ (a ≤ q ∧ q ≤ a + 10) → σ' q = σ q) → P none σ' τ
set_option maxRecDepth 100000 in
theorem M_become (d : Nat) : am_Met (d + 1) 4 C_become := am_meth (own0 := "CanalEnd$Canal") 4 (d + 0) 155 T_X0_become (fun y => am_no) C_become rfl F_X0_become rfl (by decide +kernel) Tc_X0_become (fun y => am_no_met) (by
  intro av n σ τ nf P hnf hC
  obtain ⟨rfl, hn, rw, lf, a, b, K, rfl, rfl, hab, hR, hK, hG, hP⟩ := hC
  refine ⟨hn, rfl, Nat.le_of_ble_eq_true rfl, fun Wb hs => ?_⟩
  have hM10 := hK.2.1
  have hO8 := hK.2.2.1
  have st : ∀ σ1 σ2 σ3 σ4 σ5 σ6 σ7 σ8 σ9 σ10 σ11 σ12 σ13 σ14 : am_Sg, σ1 = am_up σ a 0 (σ b 0) → σ2 = am_up σ1 a 1 (σ1 b 1) → σ3 = am_up σ2 a 2 (σ2 b 2) → σ4 = am_up σ3 a 3 (σ3 b 3) → σ5 = am_cp σ4 (b + 1) (a + 1) 0 0 10 → σ6 = am_cp σ5 (b + 2) (a + 2) 0 0 10 → σ7 = am_cp σ6 (b + 3) (a + 3) 0 0 10 → σ8 = am_cp σ7 (b + 4) (a + 4) 0 0 10 → σ9 = am_cp σ8 (b + 5) (a + 5) 0 0 8 → σ10 = am_cp σ9 (b + 6) (a + 6) 0 0 8 → σ11 = am_cp σ10 (b + 7) (a + 7) 0 0 8 → σ12 = am_cp σ11 (b + 8) (a + 8) 0 0 8 → σ13 = am_cp σ12 (b + 9) (a + 9) 0 0 8 → σ14 = am_cp σ13 (b + 10) (a + 10) 0 0 8 → P none σ14 (tauY rw lf) := by
    intro σ1 σ2 σ3 σ4 σ5 σ6 σ7 σ8 σ9 σ10 σ11 σ12 σ13 σ14 e1 e2 e3 e4 e5 e6 e7 e8 e9 e10 e11 e12 e13 e14
    have fr : ∀ q, ¬ (a ≤ q ∧ q ≤ a + 10) → σ14 q = σ q := fun q g => by rw [e14, am_cp_ne (by omega), e13, am_cp_ne (by omega), e12, am_cp_ne (by omega), e11, am_cp_ne (by omega), e10, am_cp_ne (by omega), e9, am_cp_ne (by omega), e8, am_cp_ne (by omega), e7, am_cp_ne (by omega), e6, am_cp_ne (by omega), e5, am_cp_ne (by omega), e4, am_up_ne (by omega), e3, am_up_ne (by omega), e2, am_up_ne (by omega), e1, am_up_ne (by omega)]
    have z0 : σ14 a 0 = σ b 0 := by rw [e14, am_cp_ne (by omega), e13, am_cp_ne (by omega), e12, am_cp_ne (by omega), e11, am_cp_ne (by omega), e10, am_cp_ne (by omega), e9, am_cp_ne (by omega), e8, am_cp_ne (by omega), e7, am_cp_ne (by omega), e6, am_cp_ne (by omega), e5, am_cp_ne (by omega), e4, up_ne (by omega), e3, up_ne (by omega), e2, up_ne (by omega), e1, up_at]
    have z1 : σ14 a 1 = σ b 1 := by rw [e14, am_cp_ne (by omega), e13, am_cp_ne (by omega), e12, am_cp_ne (by omega), e11, am_cp_ne (by omega), e10, am_cp_ne (by omega), e9, am_cp_ne (by omega), e8, am_cp_ne (by omega), e7, am_cp_ne (by omega), e6, am_cp_ne (by omega), e5, am_cp_ne (by omega), e4, up_ne (by omega), e3, up_ne (by omega), e2, up_at, e1, up_rn (by omega)]
    have z2 : σ14 a 2 = σ b 2 := by rw [e14, am_cp_ne (by omega), e13, am_cp_ne (by omega), e12, am_cp_ne (by omega), e11, am_cp_ne (by omega), e10, am_cp_ne (by omega), e9, am_cp_ne (by omega), e8, am_cp_ne (by omega), e7, am_cp_ne (by omega), e6, am_cp_ne (by omega), e5, am_cp_ne (by omega), e4, up_ne (by omega), e3, up_at, e2, up_rn (by omega), e1, up_rn (by omega)]
    have z3 : σ14 a 3 = σ b 3 := by rw [e14, am_cp_ne (by omega), e13, am_cp_ne (by omega), e12, am_cp_ne (by omega), e11, am_cp_ne (by omega), e10, am_cp_ne (by omega), e9, am_cp_ne (by omega), e8, am_cp_ne (by omega), e7, am_cp_ne (by omega), e6, am_cp_ne (by omega), e5, am_cp_ne (by omega), e4, up_at, e3, up_rn (by omega), e2, up_rn (by omega), e1, up_rn (by omega)]
    have r1 : ∀ i, i < 10 → σ14 (a + 1) i = σ (b + 1) i := fun i hi => by
      rw [e14, am_cp_ne (by omega), e13, am_cp_ne (by omega), e12, am_cp_ne (by omega), e11, am_cp_ne (by omega), e10, am_cp_ne (by omega), e9, am_cp_ne (by omega), e8, am_cp_ne (by omega), e7, am_cp_ne (by omega), e6, am_cp_ne (by omega), e5, am_cp_at]
      unfold va_cpy
      rw [if_pos (by omega), show 0 + (i - 0) = i by omega, e4, am_up_ne (by omega), e3, am_up_ne (by omega), e2, am_up_ne (by omega), e1, am_up_ne (by omega)]
    have r2 : ∀ i, i < 10 → σ14 (a + 2) i = σ (b + 2) i := fun i hi => by
      rw [e14, am_cp_ne (by omega), e13, am_cp_ne (by omega), e12, am_cp_ne (by omega), e11, am_cp_ne (by omega), e10, am_cp_ne (by omega), e9, am_cp_ne (by omega), e8, am_cp_ne (by omega), e7, am_cp_ne (by omega), e6, am_cp_at]
      unfold va_cpy
      rw [if_pos (by omega), show 0 + (i - 0) = i by omega, e5, am_cp_ne (by omega), e4, am_up_ne (by omega), e3, am_up_ne (by omega), e2, am_up_ne (by omega), e1, am_up_ne (by omega)]
    have r3 : ∀ i, i < 10 → σ14 (a + 3) i = σ (b + 3) i := fun i hi => by
      rw [e14, am_cp_ne (by omega), e13, am_cp_ne (by omega), e12, am_cp_ne (by omega), e11, am_cp_ne (by omega), e10, am_cp_ne (by omega), e9, am_cp_ne (by omega), e8, am_cp_ne (by omega), e7, am_cp_at]
      unfold va_cpy
      rw [if_pos (by omega), show 0 + (i - 0) = i by omega, e6, am_cp_ne (by omega), e5, am_cp_ne (by omega), e4, am_up_ne (by omega), e3, am_up_ne (by omega), e2, am_up_ne (by omega), e1, am_up_ne (by omega)]
    have r4 : ∀ i, i < 10 → σ14 (a + 4) i = σ (b + 4) i := fun i hi => by
      rw [e14, am_cp_ne (by omega), e13, am_cp_ne (by omega), e12, am_cp_ne (by omega), e11, am_cp_ne (by omega), e10, am_cp_ne (by omega), e9, am_cp_ne (by omega), e8, am_cp_at]
      unfold va_cpy
      rw [if_pos (by omega), show 0 + (i - 0) = i by omega, e7, am_cp_ne (by omega), e6, am_cp_ne (by omega), e5, am_cp_ne (by omega), e4, am_up_ne (by omega), e3, am_up_ne (by omega), e2, am_up_ne (by omega), e1, am_up_ne (by omega)]
    have r5 : ∀ i, i < 8 → σ14 (a + 5) i = σ (b + 5) i := fun i hi => by
      rw [e14, am_cp_ne (by omega), e13, am_cp_ne (by omega), e12, am_cp_ne (by omega), e11, am_cp_ne (by omega), e10, am_cp_ne (by omega), e9, am_cp_at]
      unfold va_cpy
      rw [if_pos (by omega), show 0 + (i - 0) = i by omega, e8, am_cp_ne (by omega), e7, am_cp_ne (by omega), e6, am_cp_ne (by omega), e5, am_cp_ne (by omega), e4, am_up_ne (by omega), e3, am_up_ne (by omega), e2, am_up_ne (by omega), e1, am_up_ne (by omega)]
    have r6 : ∀ i, i < 8 → σ14 (a + 6) i = σ (b + 6) i := fun i hi => by
      rw [e14, am_cp_ne (by omega), e13, am_cp_ne (by omega), e12, am_cp_ne (by omega), e11, am_cp_ne (by omega), e10, am_cp_at]
      unfold va_cpy
      rw [if_pos (by omega), show 0 + (i - 0) = i by omega, e9, am_cp_ne (by omega), e8, am_cp_ne (by omega), e7, am_cp_ne (by omega), e6, am_cp_ne (by omega), e5, am_cp_ne (by omega), e4, am_up_ne (by omega), e3, am_up_ne (by omega), e2, am_up_ne (by omega), e1, am_up_ne (by omega)]
    have r7 : ∀ i, i < 8 → σ14 (a + 7) i = σ (b + 7) i := fun i hi => by
      rw [e14, am_cp_ne (by omega), e13, am_cp_ne (by omega), e12, am_cp_ne (by omega), e11, am_cp_at]
      unfold va_cpy
      rw [if_pos (by omega), show 0 + (i - 0) = i by omega, e10, am_cp_ne (by omega), e9, am_cp_ne (by omega), e8, am_cp_ne (by omega), e7, am_cp_ne (by omega), e6, am_cp_ne (by omega), e5, am_cp_ne (by omega), e4, am_up_ne (by omega), e3, am_up_ne (by omega), e2, am_up_ne (by omega), e1, am_up_ne (by omega)]
    have r8 : ∀ i, i < 8 → σ14 (a + 8) i = σ (b + 8) i := fun i hi => by
      rw [e14, am_cp_ne (by omega), e13, am_cp_ne (by omega), e12, am_cp_at]
      unfold va_cpy
      rw [if_pos (by omega), show 0 + (i - 0) = i by omega, e11, am_cp_ne (by omega), e10, am_cp_ne (by omega), e9, am_cp_ne (by omega), e8, am_cp_ne (by omega), e7, am_cp_ne (by omega), e6, am_cp_ne (by omega), e5, am_cp_ne (by omega), e4, am_up_ne (by omega), e3, am_up_ne (by omega), e2, am_up_ne (by omega), e1, am_up_ne (by omega)]
    have r9 : ∀ i, i < 8 → σ14 (a + 9) i = σ (b + 9) i := fun i hi => by
      rw [e14, am_cp_ne (by omega), e13, am_cp_at]
      unfold va_cpy
      rw [if_pos (by omega), show 0 + (i - 0) = i by omega, e12, am_cp_ne (by omega), e11, am_cp_ne (by omega), e10, am_cp_ne (by omega), e9, am_cp_ne (by omega), e8, am_cp_ne (by omega), e7, am_cp_ne (by omega), e6, am_cp_ne (by omega), e5, am_cp_ne (by omega), e4, am_up_ne (by omega), e3, am_up_ne (by omega), e2, am_up_ne (by omega), e1, am_up_ne (by omega)]
    have r10 : ∀ i, i < 8 → σ14 (a + 10) i = σ (b + 10) i := fun i hi => by
      rw [e14, am_cp_at]
      unfold va_cpy
      rw [if_pos (by omega), show 0 + (i - 0) = i by omega, e13, am_cp_ne (by omega), e12, am_cp_ne (by omega), e11, am_cp_ne (by omega), e10, am_cp_ne (by omega), e9, am_cp_ne (by omega), e8, am_cp_ne (by omega), e7, am_cp_ne (by omega), e6, am_cp_ne (by omega), e5, am_cp_ne (by omega), e4, am_up_ne (by omega), e3, am_up_ne (by omega), e2, am_up_ne (by omega), e1, am_up_ne (by omega)]
    refine hP σ14 ⟨fun i hi => ?_, fun f hf j hj => ?_, fun f hf j hj => ?_⟩ (fun i hi => ?_) fr
    · have h9 := hR.1 i hi
      rcases k4 hi with rfl | rfl | rfl | rfl
      · rw [z0]; exact h9
      · rw [z1]; exact h9
      · rw [z2]; exact h9
      · rw [z3]; exact h9
    · have h9 := hR.2.1 f hf j hj
      rcases k4 hf with rfl | rfl | rfl | rfl
      · exact (r1 j (by omega)).trans h9
      · exact (r2 j (by omega)).trans h9
      · exact (r3 j (by omega)).trans h9
      · exact (r4 j (by omega)).trans h9
    · have h9 := hR.2.2 f hf j hj
      rcases (show f = 0 ∨ f = 1 ∨ f = 2 ∨ f = 3 ∨ f = 4 ∨ f = 5 by omega) with rfl | rfl | rfl | rfl | rfl | rfl
      · exact (r5 j (by omega)).trans h9
      · exact (r6 j (by omega)).trans h9
      · exact (r7 j (by omega)).trans h9
      · exact (r8 j (by omega)).trans h9
      · exact (r9 j (by omega)).trans h9
      · exact (r10 j (by omega)).trans h9
    · rcases hab with ⟨rfl, rfl⟩ | ⟨rfl, rfl⟩
      · rw [fr 11 (by omega)]
        exact ⟨(hG i hi).1, by rw [show σ14 22 i = σ 11 i from r10 i hi]; exact (hG i hi).1⟩
      · rw [fr 22 (by omega)]
        exact ⟨by rw [show σ14 11 i = σ 22 i from r10 i hi]; exact (hG i hi).2, (hG i hi).2⟩
  rcases hab with ⟨rfl, rfl⟩ | ⟨rfl, rfl⟩
  all_goals exact hs (fun _ => false) 200 0 _ _ _ _ _ (fun σ1 e1 => fun σ2 e2 => fun σ3 e3 => fun σ4 e4 => ⟨by decide, by decide, by decide, by decide, by decide, fun q => absurd q (by decide), fun σ5 e5 => ⟨by decide, by decide, by decide, by decide, by decide, fun q => absurd q (by decide), fun σ6 e6 => ⟨by decide, by decide, by decide, by decide, by decide, fun q => absurd q (by decide), fun σ7 e7 => ⟨by decide, by decide, by decide, by decide, by decide, fun q => absurd q (by decide), fun σ8 e8 => ⟨by decide, by decide, by decide, by decide, by decide, fun q => absurd q (by decide), fun σ9 e9 => ⟨by decide, by decide, by decide, by decide, by decide, fun q => absurd q (by decide), fun σ10 e10 => ⟨by decide, by decide, by decide, by decide, by decide, fun q => absurd q (by decide), fun σ11 e11 => ⟨by decide, by decide, by decide, by decide, by decide, fun q => absurd q (by decide), fun σ12 e12 => ⟨by decide, by decide, by decide, by decide, by decide, fun q => absurd q (by decide), fun σ13 e13 => ⟨by decide, by decide, by decide, by decide, by decide, fun q => absurd q (by decide), fun σ14 e14 => And.intro rfl (st σ1 σ2 σ3 σ4 σ5 σ6 σ7 σ8 σ9 σ10 σ11 σ12 σ13 σ14 e1 e2 e3 e4 e5 e6 e7 e8 e9 e10 e11 e12 e13 e14)⟩⟩⟩⟩⟩⟩⟩⟩⟩⟩))
