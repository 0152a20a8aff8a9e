def C_mrdC : am_C := fun av n σ τ nf P => nf = n ∧ 155 ≤ n ∧ ∃ (lf k i m s : Nat) (c : Nat → Int32), τ = tauY 0 lf ∧ av = [.ref 116, .int (nI (100 * k + i + m))] ∧ k < 4 ∧ i + m ≤ 100 ∧ s ≤ 99 ∧ MxI σ k i m 0 c ∧ ((pAll (cdv c i m) m s).1 = true → ∀ σ', MxS σ σ' k i m (pAll (cdv c i m) m s).2.1 c (pAll (cdv c i m) m s).2.2 ((pAll (cdv c i m) m s).2.2 0 1) → P (some (.int 1)) σ' τ) ∧ (¬ (pAll (cdv c i m) m s).1 = true → ∀ σ', MxF σ σ' k i m (pAll (cdv c i m) m s).2.1 c → P (some (.int 0)) σ' τ)
set_option maxRecDepth 100000 in
theorem M_mrdC (d : Nat) : am_Met (d + 4) 814 C_mrdC := am_meth (own0 := "CanalEndModel") 814 (d + 3) 155 T_X8_readCanal (fun y => bif Nat.beq y 813 then C_isCode else (bif Nat.beq y 812 then C_digitAt else (bif Nat.beq y 815 then C_mrdM else (am_no)))) C_mrdC rfl F_X8_readCanal rfl (by decide +kernel) Tc_X8_readCanal (fun y => am_g (M_isCode (d + 2)) (am_g (M_digitAt (d + 1)) (am_g (M_mrdM (d + 0)) (am_no_met)))) (by
  intro av n σ τ nf P hnf hC
  obtain ⟨rfl, hn, lf, k, i, m, s, c, rfl, rfl, hk, him, hs9, hX, hP, hQ⟩ := hC
  refine ⟨hn, rfl, Nat.le_of_ble_eq_true rfl, fun Wb hs => ?_⟩
  have bad : ∀ p (K : KT) (σ1 : am_Sg), MxF σ σ1 k i m p c → (false, p, K) = pAll (cdv c i m) m s → P (some (.int 0)) σ1 (tauY 0 lf) := by
    intro p K σ1 h e
    rw [← e] at hQ
    exact hQ Bool.false_ne_true σ1 h
  have k115 : ∀ r p (K : KT) (σ1 : am_Sg) (x2 x3 : Option Value), K 0 1 + r = 10 → p ≤ m → WfK K → ZrK K → 0 < K 0 0 → MxS σ σ1 k i m p c K (K 0 1) → (K 0 1 = 0 ∨ p < m → pMls (cdv c i m) m r p K = pAll (cdv c i m) m s) → (¬ (K 0 1 = 0 ∨ p < m) → (true, p, K) = pAll (cdv c i m) m s) → Wb 115 [some (.ref 116), some (.int (nI (100 * k + i + m))), x2, x3] [] nf σ1 (tauY 0 lf) := by
    intro r
    induction r with
    | zero =>
      intro p K σ1 x2 x3 hr hp hW hZ h0 hT h1 h2
      refine hs (fun p => Nat.beq p 115 || Nat.beq p 139) 80 115 _ _ _ _ _ (vc_if (fun g => vc_t (by rw [hT.2.2.1, show K 0 1 = 10 by omega]; rfl) (And.intro (Or.inl rfl) (And.intro rfl ?_))) (fun g => vc_f (by rw [hT.2.2.1]; exact nI_ne0 (by omega) (by omega)) (And.intro (Or.inr rfl) (And.intro rfl ?_))))
      · rw [hT.1.1.1] at g
        have g := (nI_ltI (by omega) (by omega)).mp g
        exact bad p K σ1 hT.1 (h1 (Or.inr (by omega)))
      · rw [hT.1.1.1] at g
        have g : ¬ p < m := fun q => g (nI_lt (by omega) (by omega))
        have e := h2 (by omega)
        rw [← e] at hP
        exact hP rfl σ1 hT
    | succ r ih =>
      intro p K σ1 x2 x3 hr hp hW hZ h0 hT h1 h2
      have body : (K 0 1 = 0 ∨ p < m) → Wb 139 [some (.ref 116), some (.int (nI (100 * k + i + m))), x2, x3] [] nf σ1 (tauY 0 lf) := by
        intro g
        have e := h1 g
        have lq := pOne_le (c := c) (i := i) (m := m) (p := p) (K := K) hp
        refine hs (fun p => Nat.beq p 115) 80 139 _ _ _ _ _ ⟨rfl, hn, lf, k, i, m, p, 59, c, rfl, rfl, hk, him, by omega, hT.1.1, by decide, fun g1 => vc_f (by decide) (fun σ2 e2 => ?_), fun g1 => vc_t rfl (And.intro (Or.inl rfl) (And.intro rfl ?_))⟩
        · have l1 := cdv_lt (v := 59) g1 (by omega)
          rw [hT.1.1.1, nI_1] at e2
          have hT2 := hT.next 1 e2
          refine ⟨rfl, hn, lf, k, i, m, p + 1, 109, c, rfl, rfl, hk, him, by omega, hT2.1.1, by decide, fun g2 => vc_f (by decide) (fun σ3 e3 => ?_), fun g2 => vc_t rfl (And.intro (Or.inl rfl) (And.intro rfl ?_))⟩
          · have l2 := cdv_lt (v := 109) g2 (by omega)
            rw [hT2.1.1.1, nI_1] at e3
            have hT3 := hT2.next 1 e3
            have em := pOne_m (K := K) g1 g2
            refine ⟨rfl, hn, lf, k, i, m, p + 2, c, K, σ, rfl, rfl, hk, him, by omega, hT3, by omega, hW.2.2.1, fun q σ4 h4 => vc_f (by decide) ?_, fun q σ4 h4 => vc_t rfl (And.intro (Or.inl rfl) (And.intro rfl ?_))⟩
            · rw [← em] at q h4
              obtain ⟨d1, d2, d3, d4, d5⟩ := pOne_gd hW hZ h0 (by omega) q
              rw [← d5] at h4
              refine ih _ _ σ4 x2 x3 (by omega) lq d1 d2 (by omega) h4 (fun g9 => ?_) (fun g9 => ?_)
              · rw [← e, pMls_c q (by omega)]
              · rw [← e, pMls_e q (by omega), ← q]
            · rw [← em] at q h4
              rw [pMls_f q] at e
              refine bad _ (pOne (cdv c i m) p K).2.2 σ4 h4 ?_
              rw [← e]
              have q : (pOne (cdv c i m) p K).1 = false := by
                cases e9 : (pOne (cdv c i m) p K).1 with
                | true => exact absurd e9 q
                | false => rfl
              rw [← q]
          · have q : ¬ (pOne (cdv c i m) p K).1 = true := by rw [pOne_2 g1 g2]; exact Bool.false_ne_true
            rw [pMls_f q, pOne_2 g1 g2] at e
            exact bad _ _ σ2 hT2.1 e
        · have q : ¬ (pOne (cdv c i m) p K).1 = true := by rw [pOne_1 g1]; exact Bool.false_ne_true
          rw [pMls_f q, pOne_1 g1] at e
          exact bad _ _ σ1 hT.1 e
      have n10 : ¬ σ1 116 20 = 10 := by
        rw [hT.2.2.1]
        intro q
        have := nI_inj (b := 10) (by omega) (by omega) q
        omega
      refine hs (fun p => Nat.beq p 115 || Nat.beq p 139) 80 115 _ _ _ _ _ (vc_if (fun g => vc_f n10 (body ?_)) (fun g => vc_if (fun g2 => vc_f n10 (body ?_)) (fun g2 => And.intro (Or.inr rfl) (And.intro rfl ?_))))
      · rw [hT.1.1.1] at g
        have g := (nI_ltI (by omega) (by omega)).mp g
        exact Or.inr (by omega)
      · rw [hT.2.2.1] at g2
        exact Or.inl (nI_inj (b := 0) (by omega) (by omega) g2)
      · rw [hT.1.1.1] at g
        have g : ¬ p < m := fun q => g (nI_lt (by omega) (by omega))
        rw [hT.2.2.1] at g2
        have g2 : ¬ K 0 1 = 0 := fun q => g2 (by rw [q]; rfl)
        have e := h2 (by omega)
        rw [← e] at hP
        exact hP rfl σ1 hT
  refine hs (fun p => Nat.beq p 115) 90 0 _ _ _ _ _ (fun σ1 e1 σ2 e2 => ?_)
  have f0 : MxF σ σ k i m 0 c := ⟨hX, fun _ _ _ => rfl, fun _ _ => rfl⟩
  have f2 : MxF σ σ2 k i m 0 c := (f0.fld (by omega) e1).fld (by omega) e2
  have t20 : σ2 116 20 = 0 := by rw [e2, up_ne (by omega), e1, up_at]
  have t21 : σ2 116 21 = 0 := by rw [e2, up_at]
  refine ⟨rfl, hn, lf, k, i, m, 0, 119, c, rfl, rfl, hk, him, by omega, f2.1, by decide, fun g => vc_f (by decide) (fun σ4 e4 => ?_), fun g => vc_t rfl (And.intro (Or.inl rfl) (And.intro rfl (bad _ _ σ2 f2 (pAll_n g).symm)))⟩
  rw [f2.1.1, nI_1] at e4
  have f4 := f2.next 1 e4
  have f4 : MxF σ σ4 k i m 1 c := f4
  have u20 : σ4 116 20 = 0 := by rw [e4, up_ne (by omega)]; exact t20
  have u21 : σ4 116 21 = 0 := by rw [e4, up_ne (by omega)]; exact t21
  have ey := pAll_y (cd := cdv c i m) (n := m) (s := s) g
  have go : ∀ (w p : Nat) (σ6 σ7 : am_Sg), pW (cdv c i m) = (w, 1 + p) → 1 ≤ w → σ6 = am_up σ4 116 19 (nI w) → σ7 = am_up σ6 116 18 (σ6 116 18 + nI p) → ∀ x2 x3 : Option Value, Wb 115 [some (.ref 116), some (.int (nI (100 * k + i + m))), x2, x3] [] nf σ7 (tauY 0 lf) := by
    intro w p σ6 σ7 ew hw e6 e7 x2 x3
    have f6 := f4.fld (by omega) e6
    rw [f6.1.1, nI_add] at e7
    have f7 := f6.next p e7
    have w0 : ¬ (pW (cdv c i m)).1 = 0 := by rw [ew]; show ¬ w = 0; omega
    have hle := pW_p w0
    have hw9 := pW_le (cdv c i m)
    rw [if_neg w0, ew] at ey
    rw [ew] at hle hw9
    have hw9 : w ≤ 99 := hw9
    exact k115 10 (1 + p) (K0w w s) σ7 x2 x3 rfl hle (K0w_wf hw9 hs9) (K0w_z _ _) hw ⟨f7, by rw [e7, up_ne (by omega), e6, up_at]; rfl, by rw [e7, up_ne (by omega), e6, up_ne (by omega)]; exact u20, by rw [e7, up_ne (by omega), e6, up_ne (by omega)]; exact u21, fun j hj => absurd hj (Nat.not_lt_zero j), fun j hj => absurd hj (Nat.not_lt_zero j)⟩ (fun _ => ey.symm) (fun q => absurd (Or.inl rfl) q)
  have no : ∀ (p : Nat) (v : Int32) (σ6 : am_Sg), pW (cdv c i m) = (0, p) → σ6 = am_up σ4 116 19 v → P (some (.int 0)) σ6 (tauY 0 lf) := by
    intro p v σ6 ew e6
    rw [ew, if_pos rfl] at ey
    exact bad _ _ σ6 (f4.fld (by omega) e6) ey.symm
  refine ⟨rfl, hn, lf, k, i, m, 1, c, rfl, by rw [f4.1.1], hk, him, by omega, f4.1.2, ?_⟩
  cases e5 : dg (cdv c i m 1) with
  | none => exact vc_t rfl (vc_t rfl (fun σ6 e6 => vc_f (by rw [e6, up_at]; decide) (And.intro (Or.inl rfl) (And.intro rfl (no 1 _ σ6 (pW_1 e5) e6)))))
  | some a =>
    have ya := (dg_y e5).1
    refine vc_f (opv_n9 e5) ⟨rfl, hn, lf, k, i, m, 2, c, rfl, by rw [f4.1.1, nI_1], hk, him, by omega, f4.1.2, ?_⟩
    cases e7 : dg (cdv c i m 2) with
    | none =>
      refine vc_t rfl (fun σ6 e6 => ?_)
      have e6 : σ6 = am_up σ4 116 19 (nI a) := e6
      refine vc_if (fun q => vc_t rfl (fun σ7 e8 => ?_)) (fun q => And.intro (Or.inl rfl) (And.intro rfl ?_))
      · rw [e6, up_at] at q
        have q := (nI_leI (a := 1) (by omega) (by omega)).mp q
        exact go a 1 σ6 σ7 (pW_2 e5 e7) q e6 e8 _ _
      · rw [e6, up_at] at q
        have q : ¬ 1 ≤ a := fun w => q (nI_le (a := 1) w (by omega))
        have a0 : a = 0 := by omega
        subst a0
        exact no 2 _ σ6 (pW_2 e5 e7) e6
    | some b =>
      have yb := (dg_y e7).1
      refine vc_f (opv_n9 e7) (fun σ6 e6 => ?_)
      have e6 : σ6 = am_up σ4 116 19 ((10 : Int32) * nI a + nI b) := e6
      rw [show (10 : Int32) = nI 10 from rfl, pk_mul, nI_add] at e6
      refine vc_if (fun q => vc_f (opv_n9 e7) (fun σ7 e8 => ?_)) (fun q => And.intro (Or.inl rfl) (And.intro rfl ?_))
      · rw [e6, up_at] at q
        have q := (nI_leI (a := 1) (by omega) (by omega)).mp q
        exact go (10 * a + b) 2 σ6 σ7 (pW_3 e5 e7) q e6 e8 _ _
      · rw [e6, up_at] at q
        have q : ¬ 1 ≤ 10 * a + b := fun w => q (nI_le (a := 1) w (by omega))
        have a0 : 10 * a + b = 0 := by omega
        have ew := pW_3 e5 e7
        rw [a0] at ew
        exact no 3 _ σ6 ew e6)
theorem m100 (a x y : Nat) : (100 : Int32) * nI a + nI x + nI y = nI (100 * a + x + y) := by rw [i100, nI_add]
def C_mcanal : am_C := fun av n σ τ nf P => ∃ (k : Int32) (t : Int32) (i : Int32) (m : Int32), pubM [.int k, .int t, .int i, .int m] (f_canal k t i m) av n σ τ nf P
set_option maxRecDepth 100000 in
theorem M_mcanal (d : Nat) : am_Met (d + 6) 811 C_mcanal := am_meth (own0 := "CanalEndModel") 811 (d + 5) 155 T_X8_canal (fun y => bif Nat.beq y 806 then C_mSheet else (bif Nat.beq y 807 then C_mSort else (bif Nat.beq y 808 then C_against else (bif Nat.beq y 801 then C_fails else (bif Nat.beq y 814 then C_mrdC else (am_no)))))) C_mcanal rfl F_X8_canal rfl (by decide +kernel) Tc_X8_canal (fun y => am_g (M_mSheet (d + 3)) (am_g (M_mSort (d + 3)) (am_g (M_against (d + 4)) (am_g (M_fails (d + 4)) (am_g (M_mrdC (d + 1)) (am_no_met)))))) (by
  intro av n σ τ nf P hnf hC
  obtain ⟨k, t, i, m, rfl, hn, lf, ⟨K, Q, S, Ce, fl, tr⟩, rfl, hI, rfl, hP⟩ := hC
  refine ⟨hn, rfl, Nat.le_of_ble_eq_true rfl, fun Wb hs => ?_⟩
  have hI : InvM σ K Q S Ce fl tr := hI
  have hK := hI.1
  have hR := hI.2.1
  have hM10 := hK.2.1
  have hO8 := hK.2.2.1
  have eM := hR.2.1
  have eO := hR.2.2.1
  have fin : ∀ r9 : Int32, (f_canal k t i m (K, Q, S, Ce, fl, tr)).2 = (K, Q, S, Ce, fl, tr) → (f_canal k t i m (K, Q, S, Ce, fl, tr)).1 = .int r9 → P (some (.int r9)) σ (tauY 0 lf) := fun r9 e1 e2 => p_eqv e2 (hP σ (by rw [e1]; exact hI) (fun _ _ => rfl))
  have fin2 : ∀ (v9 : Value) (K9 Q9 S9 : KT) (Ce9 : Nat → Nat → Int32) (fl9 : Nat) (tr9 : Int32) (σ9 : am_Sg), f_canal k t i m (K, Q, S, Ce, fl, tr) = (v9, (K9, Q9, S9, Ce9, fl9, tr9)) → InvM σ9 K9 Q9 S9 Ce9 fl9 tr9 → FrM σ σ9 → P (some v9) σ9 (tauY 0 lf) := fun v9 K9 Q9 S9 Ce9 fl9 tr9 σ9 e h1 h2 => by have := hP σ9 (by rw [e]; exact h1) h2; rw [e] at this; exact this
  refine hs (fun p => Nat.beq p 111) 90 0 _ _ _ _ _ (fun σ1 e1 => ?_)
  have e1 : σ1 = am_up σ 116 0 (nI 0) := e1
  have hI1 : InvM σ1 K Q S Ce 0 tr := by rw [e1]; exact hI.fl
  have hfr : FrM σ σ1 := fun q g1 => by rw [e1]; exact am_up_ne (by omega)
  refine ⟨rfl, k, rfl, fun g => ?_, fun g => vc_t rfl (And.intro rfl (fin2 _ K Q S Ce 0 tr σ1 (by unfold f_canal; rw [if_neg (fun q => g q.1)]; unfold f_ref; rw [if_neg g]; rfl) hI1 hfr))⟩
  refine vc_f (by decide) ⟨rfl, t, rfl, fun g2 => ?_, fun g2 => vc_t rfl (And.intro rfl (fin2 _ K Q S Ce 0 tr σ1 (by unfold f_canal; rw [if_neg (fun q => g2 q.2.1)]; unfold f_ref; rw [if_pos g, if_neg g2]; rfl) hI1 hfr))⟩
  obtain ⟨a, ha, rfl⟩ := inN_ex g
  have hca : (nI a).toNatClampNeg = a := nI_clamp (by omega)
  obtain ⟨u, hu, rfl⟩ := inN_ex g2
  have hcu : (nI u).toNatClampNeg = u := nI_clamp (by omega)
  have hw := hI1.2.2.2.2.1 a ha
  have hw2 := hw.2.2
  have hr := hI1.2.2.2.2.2.1 a ha
  refine vc_f (by decide) ⟨rfl, hn, lf, a, u, 0, i, m, S, rfl, rfl, ha, hu, hw.2.1, hw.2.2, hr.1, hr.2.1, ?_⟩
  by_cases g3 : agn S a u i m = 0
  case neg =>
    have hle := agn_le (S := S) (a := a) (u := u) (i := i) (m := m)
    refine vc_f (fun q => g3 (nI_inj (b := 0) (by omega) (by omega) q)) ⟨rfl, hn, lf, nI (agn S a u i m), rfl, rfl, And.intro rfl ?_⟩
    refine fin2 _ K Q S Ce (agn S a u i m) tr _ (by unfold f_canal; rw [hca, hcu, if_neg (fun q => g3 q.2.2)]; unfold f_ref; rw [if_pos g, if_pos g2, hca, hcu]; unfold rfz; rw [if_neg g3]; rfl) (hI1.fl (v := agn S a u i m)) (fun q g1 => by rw [am_up_ne (by omega)]; exact hfr q g1)
  have hok := agn_z g3
  rw [g3]
  obtain ⟨x, hx, rfl⟩ := inN_ex (v := i) (N := 101) ⟨by omega, by omega⟩
  obtain ⟨y, hy, rfl⟩ := inN_ex (v := m) (N := 101) ⟨by omega, by omega⟩
  have hcx : (nI x).toNatClampNeg = x := nI_clamp (by omega)
  have hcy : (nI y).toNatClampNeg = y := nI_clamp (by omega)
  have hxy : x + y ≤ 100 := by
    have h9 := hok.2.2
    rw [nI_toInt (by omega), nI_toInt (by omega)] at h9
    omega
  have hs9 := hK.2.2.2.1
  have ev : f_canal (nI a) (nI u) (nI x) (nI y) (K, Q, S, Ce, fl, tr) = (if (pAll (cdv (Ce a) x y) y (K 0 3)).1 = true then (.int (nI ((pAll (cdv (Ce a) x y) y (K 0 3)).2.2 0 1)), ((pAll (cdv (Ce a) x y) y (K 0 3)).2.2, zQ, S, Ce, 0, tr)) else (.int (-100 - nI (pAll (cdv (Ce a) x y) y (K 0 3)).2.1), setF (K, Q, S, Ce, fl, tr) 0)) := by
    unfold f_canal
    rw [hca, hcx, hcy, hcu, if_pos ⟨g, g2, g3⟩]
    rfl
  have fK : ∀ σ3 : am_Sg, (∀ q, ¬ q = 116 → ¬ (129 ≤ q ∧ q ≤ 134) → σ3 q = σ1 q) → (∀ j, ¬ (18 ≤ j ∧ j ≤ 21) → σ3 116 j = σ1 116 j) → InvM σ3 K Q S Ce 0 tr ∧ FrM σ σ3 := fun σ3 h1 h2 => ⟨hI1.keep (fun q hq => h1 q (by omega) (by omega)) (fun j hj => h2 j (by omega)), fun q g1 => by rw [h1 q (by omega) (by omega)]; exact hfr q g1⟩
  refine vc_t rfl (fun σ2 e2 => ?_)
  rw [i100] at e2
  have e2 : σ2 = am_up σ1 116 18 (nI (100 * a + x)) := e2
  have hX2 : MxI σ2 a x y 0 (Ce a) := ⟨by rw [e2, up_at]; rfl, fun z hz => by rw [e2, up_rn (by omega)]; exact hr.2.2 z hz⟩
  have fr2 : ∀ q, ¬ q = 116 → σ2 q = σ1 q := fun q hq => by rw [e2, am_up_ne hq]
  have fs2 : ∀ j, ¬ j = 18 → σ2 116 j = σ1 116 j := fun j hj => by rw [e2, up_ne hj]
  have hle := pAll_le (c := Ce a) (i := x) (m := y) (s := K 0 3)
  refine ⟨rfl, hn, lf, a, x, y, K 0 3, Ce a, rfl, by rw [m100], ha, hxy, hs9, hX2, fun q σ3 h3 => vc_f (by decide) ?_, fun q σ3 h3 => vc_t rfl (And.intro rfl ?_)⟩
  case refine_2 =>
    obtain ⟨f1, f2⟩ := fK σ3 (fun q h1 h2 => by rw [h3.2.1 q h1 h2, fr2 q h1]) (fun j hj => by rw [h3.2.2 j hj, fs2 j (by omega)])
    rw [h3.1.1, i100, pk_sub (by omega), Nat.add_sub_cancel_left]
    exact fin2 _ K Q S Ce 0 tr σ3 (by rw [ev, if_neg q]; rfl) f1 f2
  obtain ⟨w1, w2, w3⟩ := pAll_gd hs9 q
  generalize hKp : (pAll (cdv (Ce a) x y) y (K 0 3)).2.2 = K' at *
  have b1 := w1.1
  have b2 := w1.2.1
  have b3 := w1.2.2.1
  obtain ⟨⟨_, h31, h32⟩, h33, h34, h35, h36, h37⟩ := h3
  refine fun σ4 e4 σ5 e5 σ6 e6 => ?_
  rw [h33] at e4
  have e4 : σ4 = am_up σ3 116 5 (nI (K' 0 0)) := e4
  rw [e4, up_ne (by omega), h34, ← e4] at e5
  have e5 : σ5 = am_up σ4 116 6 (nI (K' 0 1)) := e5
  rw [e5, up_ne (by omega), e4, up_ne (by omega), h35, ← e4, ← e5] at e6
  have e6 : σ6 = am_up σ5 116 7 (nI (K' 0 2)) := e6
  have Fx : ∀ (σ7 : am_Sg), (∀ q, ¬ q = 116 → ¬ (120 ≤ q ∧ q ≤ 134) → σ7 q = σ1 q) → (∀ j, ¬ (j = 5 ∨ j = 6 ∨ j = 7 ∨ (18 ≤ j ∧ j ≤ 21)) → σ7 116 j = σ1 116 j) → True := fun _ _ _ => trivial
  have k184 : ∀ r o (σ7 : am_Sg), o + r = K' 0 2 → (σ7 116 5 = nI (K' 0 0) ∧ σ7 116 6 = nI (K' 0 1) ∧ σ7 116 7 = nI (K' 0 2)) → (∀ j, j < K' 0 1 → σ7 120 j = nI (K' 1 j) ∧ σ7 121 j = nI (K' 2 j)) → (∀ j, j ≤ K' 0 1 → σ7 122 j = nI (fo K' j)) → (∀ z, z < o → ∀ f, f < 6 → σ7 (123 + f) z = nI (K' (5 + f) z)) → (∀ z, z < K' 0 2 → σ7 132 z = nI (K' 6 z) ∧ σ7 133 z = nI (K' 7 z) ∧ σ7 134 z = nI (K' 5 z)) → (∀ q, ¬ q = 116 → ¬ (120 ≤ q ∧ q ≤ 134) → σ7 q = σ1 q) → (∀ j, ¬ (j = 5 ∨ j = 6 ∨ j = 7 ∨ (18 ≤ j ∧ j ≤ 21)) → σ7 116 j = σ1 116 j) → Wb 184 [some (.ref 116), some (.int (nI a)), some (.int (nI u)), some (.int (nI x)), some (.int (nI y)), some (.int 0), some (.int (nI (100 * a + x))), some (.int (nI o))] [] nf σ7 (tauY 0 lf) := by
    intro r
    induction r with
    | zero =>
      intro o σ7 ho c1 c2 c3 c4 c5 c6 c7
      refine hs (fun p => Nat.beq p 184) 80 184 _ _ _ _ _ (vc_t (by rw [c1.2.2]; exact nI_le (by omega) (by omega)) (fun σ8 e8 => And.intro rfl ?_))
      have v6 : σ8 116 6 = nI (K' 0 1) := by rw [e8, up_ne (by omega)]; exact c1.2.1
      rw [v6]
      have fr8 : ∀ q, ¬ q = 116 → σ8 q = σ7 q := fun q hq => by rw [e8, am_up_ne hq]
      have fs8 : ∀ j, ¬ j = 33 → σ8 116 j = σ7 116 j := fun j hj => by rw [e8, up_ne hj]
      refine fin2 _ K' zQ S Ce 0 tr σ8 (by rw [ev, if_pos q]) ⟨w1, ⟨by rw [fs8 5 (by omega)]; exact c1.1, v6, by rw [fs8 7 (by omega)]; exact c1.2.2, by rw [fs8 17 (by omega), c7 17 (by omega), w3]; exact hI1.2.1.2.2.2.1, fun j hj => by rw [fr8 120 (by omega), fr8 121 (by omega)]; exact c2 j hj, fun j hj => by rw [fr8 122 (by omega)]; exact c3 j hj, fun f hf z hz => by rw [fr8 (123 + f) (by omega)]; exact c4 z (by omega) f hf⟩, ⟨Nat.zero_le _, fun k hk => absurd hk (Nat.not_lt_zero k)⟩, ⟨by rw [e8, up_at]; rfl, fun k hk => absurd hk (Nat.not_lt_zero k)⟩, hI1.2.2.2.2.1, fun k hk => ?_, by rw [fs8 0 (by omega), c7 0 (by omega)]; exact hI1.2.2.2.2.2.2.1, by rw [fs8 1 (by omega), c7 1 (by omega)]; exact hI1.2.2.2.2.2.2.2⟩ (fun q g1 => by rw [fr8 q (by omega), c6 q (by omega) (by omega)]; exact hfr q g1)
      rw [fr8 117 (by omega), fr8 118 (by omega), fr8 119 (by omega), c6 117 (by omega) (by omega), c6 118 (by omega) (by omega), c6 119 (by omega) (by omega)]
      exact hI1.2.2.2.2.2.1 k hk
    | succ r ih =>
      intro o σ7 ho c1 c2 c3 c4 c5 c6 c7
      have hco : (nI o).toNatClampNeg = o := nI_clamp (by omega)
      have vo := fun q (h : am_len q = 8) => vin (j := o) (q := q) (by omega)
      obtain ⟨d1, d2, d3⟩ := c5 o (by omega)
      refine hs (fun p => Nat.beq p 184) 80 184 _ _ _ _ _ (vc_f (by rw [c1.2.2]; exact nI_ge (by omega) (by omega)) (And.intro (vo 134 rfl) (And.intro (vo 123 rfl) (fun σ8 e8 => And.intro (vo 132 rfl) (And.intro (vo 124 rfl) (fun σ9 e9 => And.intro (vo 133 rfl) (And.intro (vo 125 rfl) (fun σa ea => And.intro (vo 126 rfl) (fun σb eb => And.intro (vo 127 rfl) (fun σc ec => And.intro (vo 128 rfl) (fun σd ed => ?_)))))))))))
      rw [hco] at e8 e9 ea eb ec ed
      have e8 : σ8 = am_up σ7 123 o (σ7 134 o) := e8
      rw [d3] at e8
      have e9 : σ9 = am_up σ8 124 o (σ8 132 o) := e9
      rw [show σ8 132 o = nI (K' 6 o) by rw [e8, up_rn (by omega)]; exact d1] at e9
      have ea : σa = am_up σ9 125 o (σ9 133 o) := ea
      rw [show σ9 133 o = nI (K' 7 o) by rw [e9, up_rn (by omega), e8, up_rn (by omega)]; exact d2] at ea
      have eb : σb = am_up σa 126 o (nI 0) := eb
      have ec : σc = am_up σb 127 o (nI 0) := ec
      have ed : σd = am_up σc 128 o (nI 0) := ed
      have fr : ∀ q, ¬ (123 ≤ q ∧ q ≤ 128) → σd q = σ7 q := fun q hq => by rw [ed, am_up_ne (by omega), ec, am_up_ne (by omega), eb, am_up_ne (by omega), ea, am_up_ne (by omega), e9, am_up_ne (by omega), e8, am_up_ne (by omega)]
      have h9 := ih (o + 1) σd (by omega) (by rw [fr 116 (by omega)]; exact c1) (fun j hj => by rw [fr 120 (by omega), fr 121 (by omega)]; exact c2 j hj) (fun j hj => by rw [fr 122 (by omega)]; exact c3 j hj) (fun z hz f hf => ?_) (fun z hz => by rw [fr 132 (by omega), fr 133 (by omega), fr 134 (by omega)]; exact c5 z hz) (fun q g1 g2 => by rw [fr q (by omega)]; exact c6 q g1 g2) (fun j hj => by rw [fr 116 (by omega)]; exact c7 j hj)
      · rw [nI_succ] at h9
        exact h9
      · by_cases e : z = o
        · subst e
          rcases f6 hf with e | e | e | e | e | e <;> subst e
          · rw [ed, up_rn (by omega), ec, up_rn (by omega), eb, up_rn (by omega), ea, up_rn (by omega), e9, up_rn (by omega), e8]; exact up_at
          · rw [ed, up_rn (by omega), ec, up_rn (by omega), eb, up_rn (by omega), ea, up_rn (by omega), e9]; exact up_at
          · rw [ed, up_rn (by omega), ec, up_rn (by omega), eb, up_rn (by omega), ea]; exact up_at
          · rw [w2 (5 + 3) z (by omega), ed, up_rn (by omega), ec, up_rn (by omega), eb]; exact up_at
          · rw [w2 (5 + 4) z (by omega), ed, up_rn (by omega), ec]; exact up_at
          · rw [w2 (5 + 5) z (by omega), ed]; exact up_at
        · have h9 := c4 z (by omega) f hf
          rcases f6 hf with e9 | e9 | e9 | e9 | e9 | e9 <;> subst e9
          · rw [ed, up_rn (by omega), ec, up_rn (by omega), eb, up_rn (by omega), ea, up_rn (by omega), e9, up_rn (by omega), e8]; exact (up_ne e).trans h9
          · rw [ed, up_rn (by omega), ec, up_rn (by omega), eb, up_rn (by omega), ea, up_rn (by omega), e9]; exact (up_ne e).trans (by rw [e8, up_rn (by omega)]; exact h9)
          · rw [ed, up_rn (by omega), ec, up_rn (by omega), eb, up_rn (by omega), ea]; exact (up_ne e).trans (by rw [e9, up_rn (by omega), e8, up_rn (by omega)]; exact h9)
          · rw [ed, up_rn (by omega), ec, up_rn (by omega), eb]; exact (up_ne e).trans (by rw [ea, up_rn (by omega), e9, up_rn (by omega), e8, up_rn (by omega)]; exact h9)
          · rw [ed, up_rn (by omega), ec]; exact (up_ne e).trans (by rw [eb, up_rn (by omega), ea, up_rn (by omega), e9, up_rn (by omega), e8, up_rn (by omega)]; exact h9)
          · rw [ed]; exact (up_ne e).trans (by rw [ec, up_rn (by omega), eb, up_rn (by omega), ea, up_rn (by omega), e9, up_rn (by omega), e8, up_rn (by omega)]; exact h9)
  have k111 : ∀ r j (σ7 : am_Sg), j + r = K' 0 1 → (σ7 116 5 = nI (K' 0 0) ∧ σ7 116 6 = nI (K' 0 1) ∧ σ7 116 7 = nI (K' 0 2)) → (∀ z, z < j → σ7 120 z = nI (K' 1 z) ∧ σ7 121 z = nI (K' 2 z) ∧ σ7 122 z = nI (K' 3 z)) → (∀ z, z < K' 0 1 → σ7 129 z = nI (K' 1 z) ∧ σ7 130 z = nI (K' 2 z) ∧ σ7 131 z = nI (K' 3 z)) → (∀ z, z < K' 0 2 → σ7 132 z = nI (K' 6 z) ∧ σ7 133 z = nI (K' 7 z) ∧ σ7 134 z = nI (K' 5 z)) → (∀ q, ¬ q = 116 → ¬ (120 ≤ q ∧ q ≤ 134) → σ7 q = σ1 q) → (∀ j, ¬ (j = 5 ∨ j = 6 ∨ j = 7 ∨ (18 ≤ j ∧ j ≤ 21)) → σ7 116 j = σ1 116 j) → Wb 111 [some (.ref 116), some (.int (nI a)), some (.int (nI u)), some (.int (nI x)), some (.int (nI y)), some (.int 0), some (.int (nI (100 * a + x))), some (.int (nI j))] [] nf σ7 (tauY 0 lf) := by
    intro r
    induction r with
    | zero =>
      intro j σ7 hj c1 c2 c4 c5 c6 c7
      have hj : j = K' 0 1 := by omega
      subst hj
      have hcm : (nI (K' 0 1)).toNatClampNeg = K' 0 1 := nI_clamp (by omega)
      refine hs (fun p => Nat.beq p 184) 80 111 _ _ _ _ _ (vc_t (by rw [c1.2.1]; exact nI_le (by omega) (by omega)) (And.intro (by rw [c1.2.1]; exact vin (show K' 0 1 < 11 by omega)) (fun σ8 e8 => ?_)))
      rw [c1.2.1, c1.2.2, hcm] at e8
      have e8 : σ8 = am_up σ7 122 (K' 0 1) (nI (K' 0 2)) := e8
      have fr : ∀ q, ¬ q = 122 → σ8 q = σ7 q := fun q hq => by rw [e8, am_up_ne hq]
      refine k184 (K' 0 2) 0 σ8 (by omega) (by rw [fr 116 (by omega)]; exact c1) (fun z hz => by rw [fr 120 (by omega), fr 121 (by omega)]; exact ⟨(c2 z hz).1, (c2 z hz).2.1⟩) (fun z hz => ?_) (fun z hz => absurd hz (Nat.not_lt_zero z)) (fun z hz => by rw [fr 132 (by omega), fr 133 (by omega), fr 134 (by omega)]; exact c5 z hz) (fun q g1 g2 => by rw [fr q (by omega)]; exact c6 q g1 g2) (fun z hz => by rw [fr 116 (by omega)]; exact c7 z hz)
      by_cases e : z = K' 0 1
      · rw [e, e8, up_at, fo_end]
      · rw [e8, up_ne e, fo_lt (by omega)]; exact (c2 z (by omega)).2.2
    | succ r ih =>
      intro j σ7 hj c1 c2 c4 c5 c6 c7
      have hcj : (nI j).toNatClampNeg = j := nI_clamp (by omega)
      have vj := fun q (h : am_len q = 10) => vin (j := j) (q := q) (by omega)
      obtain ⟨d1, d2, d3⟩ := c4 j (by omega)
      refine hs (fun p => Nat.beq p 111) 80 111 _ _ _ _ _ (vc_f (by rw [c1.2.1]; exact nI_ge (by omega) (by omega)) (And.intro (vj 129 rfl) (And.intro (vj 120 rfl) (fun σ8 e8 => And.intro (vj 130 rfl) (And.intro (vj 121 rfl) (fun σ9 e9 => And.intro (vin (show j < 11 by omega)) (And.intro (vin (show j < 11 by omega)) (fun σa ea => ?_))))))))
      rw [hcj] at e8 e9 ea
      have e8 : σ8 = am_up σ7 120 j (σ7 129 j) := e8
      rw [d1] at e8
      have e9 : σ9 = am_up σ8 121 j (σ8 130 j) := e9
      rw [show σ8 130 j = nI (K' 2 j) by rw [e8, up_rn (by omega)]; exact d2] at e9
      have ea : σa = am_up σ9 122 j (σ9 131 j) := ea
      rw [show σ9 131 j = nI (K' 3 j) by rw [e9, up_rn (by omega), e8, up_rn (by omega)]; exact d3] at ea
      have fr : ∀ q, ¬ (120 ≤ q ∧ q ≤ 122) → σa q = σ7 q := fun q hq => by rw [ea, am_up_ne (by omega), e9, am_up_ne (by omega), e8, am_up_ne (by omega)]
      have h9 := ih (j + 1) σa (by omega) (by rw [fr 116 (by omega)]; exact c1) (fun z hz => ?_) (fun z hz => by rw [fr 129 (by omega), fr 130 (by omega), fr 131 (by omega)]; exact c4 z hz) (fun z hz => by rw [fr 132 (by omega), fr 133 (by omega), fr 134 (by omega)]; exact c5 z hz) (fun q g1 g2 => by rw [fr q (by omega)]; exact c6 q g1 g2) (fun z hz => by rw [fr 116 (by omega)]; exact c7 z hz)
      · rw [nI_succ] at h9
        exact h9
      · by_cases e : z = j
        · subst e
          refine ⟨by rw [ea, up_rn (by omega), e9, up_rn (by omega), e8, up_at], by rw [ea, up_rn (by omega), e9, up_at], by rw [ea, up_at]⟩
        · obtain ⟨x1, x2, x3⟩ := c2 z (by omega)
          refine ⟨by rw [ea, up_rn (by omega), e9, up_rn (by omega), e8, up_ne e]; exact x1, by rw [ea, up_rn (by omega), e9, up_ne e, e8, up_rn (by omega)]; exact x2, by rw [ea, up_ne e, e9, up_rn (by omega), e8, up_rn (by omega)]; exact x3⟩
  have fr6 : ∀ q, ¬ q = 116 → σ6 q = σ3 q := fun q hq => by rw [e6, am_up_ne hq, e5, am_up_ne hq, e4, am_up_ne hq]
  have h9 := k111 (K' 0 1) 0 σ6 (by omega) ⟨by rw [e6, up_ne (by omega), e5, up_ne (by omega), e4, up_at], by rw [e6, up_ne (by omega), e5, up_at], by rw [e6, up_at]⟩ (fun z hz => absurd hz (Nat.not_lt_zero z)) (fun z hz => by rw [fr6 129 (by omega), fr6 130 (by omega), fr6 131 (by omega)]; exact h36 z hz) (fun z hz => by rw [fr6 132 (by omega), fr6 133 (by omega), fr6 134 (by omega)]; exact h37 z hz) (fun q g1 g2 => by rw [fr6 q g1, h31 q g1 (by omega), fr2 q g1]) (fun j hj => by rw [e6, up_ne (by omega), e5, up_ne (by omega), e4, up_ne (by omega), h32 j (by omega), fs2 j (by omega)])
  rw [← i100] at h9
  exact h9)
