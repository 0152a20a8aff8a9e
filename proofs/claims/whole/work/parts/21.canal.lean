def C_seepOf : am_C := fun av n σ τ nf P => nf = n ∧ 155 ≤ n ∧ ∃ rw lf c j w K, τ = tauY rw lf ∧ av = [.ref c, .int (nI j), .int (nI w)] ∧ (c = 1 ∨ c = 12) ∧ RepX σ c K ∧ WfK K ∧ j < K 0 1 ∧ w ≤ 9999 ∧ P (some (.int (nI (w * K 1 j / 100)))) σ τ
theorem M_seepOf : am_Met 1 5 C_seepOf := am_meth (own0 := "CanalEnd$Canal") 5 0 155 T_X0_seepOf (fun _ => am_no) C_seepOf rfl F_X0_seepOf rfl (by decide) Tc_X0_seepOf (fun _ => am_no_met) (by
  intro av n σ τ nf P hnf hC
  obtain ⟨rfl, hn, rw, lf, c, j, w, K, rfl, rfl, hc, hR, hK, hj, hw, hP⟩ := hC
  refine ⟨hn, rfl, by decide +kernel, fun Wb hs => ?_⟩
  refine hs (fun _ => false) 20 0 _ _ _ _ _ ?_
  rcases hc with rfl | rfl
  · show vp_in (nI j) 10 ∧ ¬ (100 : Int32) = 0 ∧ nf = nf ∧ P (some (.int (nI w * σ 2 (nI j).toNatClampNeg / 100))) σ (tauY rw lf)
    sorry
  · show vp_in (nI j) 10 ∧ ¬ (100 : Int32) = 0 ∧ nf = nf ∧ P (some (.int (nI w * σ 13 (nI j).toNatClampNeg / 100))) σ (tauY rw lf)
    sorry)
