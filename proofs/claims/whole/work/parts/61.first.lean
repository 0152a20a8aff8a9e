def C_firstF : am_C := fun av n σ τ nf P => nf = n ∧ 155 ≤ n ∧ ∃ (lf k i m s : Nat) (c : Nat → Int32), τ = tauY 0 lf ∧ av = [.ref 23, .ref (109 + 2 * k), .int (nI i), .int (nI m), .ref 12] ∧ k < 4 ∧ i + m ≤ 100 ∧ s ≤ 99 ∧ G2 σ ∧ (∀ z, z < 100 → σ (109 + 2 * k) z = c z) ∧ ((pAll (cdv c i m) m s).1 = true → ∀ σ', RepP σ' (pAll (cdv c i m) m s).2.2 → G2 σ' → (∀ q, ¬ q = 23 → ¬ (12 ≤ q ∧ q ≤ 22) → σ' q = σ q) → P (some (.int (-9))) σ' τ) ∧ (¬ (pAll (cdv c i m) m s).1 = true → ∀ σ', G2 σ' → (∀ q, ¬ q = 23 → ¬ (12 ≤ q ∧ q ≤ 22) → σ' q = σ q) → (pAll (cdv c i m) m s).2.1 ≤ 1000 → P (some (.int (nI (pAll (cdv c i m) m s).2.1))) σ' τ)
theorem pO1_le {c : Nat → Int32} {i m p : Nat} {K : KT} (hp : p ≤ m) : (pO1 (cdv c i m) p K).2.1 ≤ m := by
  cases e1 : dg (cdv c i m p) with
  | none => rw [pO1_a (Or.inl e1)]; exact hp
  | some z =>
    have l1 := cdv_dg e1
    by_cases z0 : z = 0
    · rw [pO1_a (Or.inr ⟨z, e1, by omega⟩)]; exact hp
    · cases e2 : dg (cdv c i m (p + 1)) with
      | none => rw [pO1_b e1 z0 e2]; exact l1
      | some t => 
        have l2 := cdv_dg e2
        rw [pO1_c e1 z0 e2]; exact l2
theorem pOut_le {c : Nat → Int32} {i m : Nat} : ∀ r p (K : KT), p ≤ m → (pOut (cdv c i m) r p K).2.1 ≤ m
  | 0, p, K, h => h
  | r + 1, p, K, h => by
    by_cases g : cdv c i m p = 111
    · have l1 := cdv_lt (v := 111) g (by omega)
      rw [pOut_y g]
      have l2 := pO1_le (c := c) (i := i) (m := m) (p := p + 1) (K := K) l1
      split
      · exact pOut_le r _ _ l2
      · exact l2
    · rw [pOut_n g]; exact h
theorem pOne_le {c : Nat → Int32} {i m p : Nat} {K : KT} (hp : p ≤ m) : (pOne (cdv c i m) p K).2.1 ≤ m := by
  by_cases g1 : cdv c i m p = 59
  · have l1 := cdv_lt (v := 59) g1 (by omega)
    by_cases g2 : cdv c i m (p + 1) = 109
    · have l2 := cdv_lt (v := 109) g2 (by omega)
      rw [pOne_m g1 g2]
      cases e1 : dg (cdv c i m (p + 2)) with
      | none => rw [pMile_1 e1]; exact l2
      | some a =>
        have l3 := cdv_dg e1
        cases e2 : dg (cdv c i m (p + 2 + 1)) with
        | none => rw [pMile_2 e1 e2]; exact l3
        | some b =>
          have l4 := cdv_dg e2
          rw [pMile_3 e1 e2]
          exact pOut_le _ _ _ l4
    · rw [pOne_2 g1 g2]; exact l1
  · rw [pOne_1 g1]; exact hp
theorem pMls_c {cd : Nat → Int32} {n r p : Nat} {K : KT} (c1 : (pOne cd p K).1 = true) (c2 : (pOne cd p K).2.1 < n) : pMls cd n (r + 1) p K = pMls cd n r (pOne cd p K).2.1 (pOne cd p K).2.2 := by show (if (pOne cd p K).1 = true then _ else _) = _; rw [if_pos c1, if_pos c2]
theorem pMls_e {cd : Nat → Int32} {n r p : Nat} {K : KT} (c1 : (pOne cd p K).1 = true) (c2 : ¬ (pOne cd p K).2.1 < n) : pMls cd n (r + 1) p K = pOne cd p K := by show (if (pOne cd p K).1 = true then _ else _) = _; rw [if_pos c1, if_neg c2]
theorem pMls_f {cd : Nat → Int32} {n r p : Nat} {K : KT} (c1 : ¬ (pOne cd p K).1 = true) : pMls cd n (r + 1) p K = pOne cd p K := by show (if (pOne cd p K).1 = true then _ else _) = _; rw [if_neg c1]
theorem pW_p {c : Nat → Int32} {i m : Nat} (h : ¬ (pW (cdv c i m)).1 = 0) : (pW (cdv c i m)).2 ≤ m := by
  cases e : dg (cdv c i m 1) with
  | none => rw [pW_1 e] at h; exact absurd rfl h
  | some a =>
    have l1 := cdv_dg e
    cases e2 : dg (cdv c i m 2) with
    | none => rw [pW_2 e e2]; exact l1
    | some b => 
      have l2 := cdv_dg e2
      rw [pW_3 e e2]; exact l2
set_option maxRecDepth 100000 in
theorem M_firstF (d : Nat) : am_Met (d + 5) 501 C_firstF := am_meth (own0 := "CanalEnd$Text") 501 (d + 4) 155 T_X5_firstFault (fun y => bif Nat.beq y 508 then C_skips else (bif Nat.beq y 502 then C_readsW else (bif Nat.beq y 503 then C_readsM else (am_no)))) C_firstF rfl F_X5_firstFault rfl (by decide +kernel) Tc_X5_firstFault (fun y => am_g (M_skips (d + 2)) (am_g (M_readsW (d + 1)) (am_g (M_readsM (d + 0)) (am_no_met)))) (by
  intro av n σ τ nf P hnf hC
  obtain ⟨rfl, hn, lf, k, i, m, s, c, rfl, rfl, hk, him, hs9, hG, hc, hP, hQ⟩ := hC
  refine ⟨hn, rfl, Nat.le_of_ble_eq_true rfl, fun Wb hs => ?_⟩
  have kx : ∀ (p j : Nat) (σ1 : am_Sg), p ≤ 1000 → ¬ (pAll (cdv c i m) m s).1 = true → (pAll (cdv c i m) m s).2.1 = p → G2 σ1 → (∀ q, ¬ q = 23 → ¬ (12 ≤ q ∧ q ≤ 22) → σ1 q = σ q) → ∀ x6 : Int32, Wb 47 [some (.ref 23), some (.ref (109 + 2 * k)), some (.int (nI i)), some (.int (nI m)), some (.ref 12), some (.int (nI p)), some (.int x6)] [] nf σ1 (tauY (110 + 2 * k) lf) := by
    intro p j σ1 hp1 h1 h2 g1 g2 x6
    have h9 := hQ h1 σ1 g1 g2 (by omega)
    rw [h2, ← tauY_up (a := 110 + 2 * k) (b := 0)] at h9
    exact hs (fun p => Nat.beq p 47) 60 47 _ _ _ _ _ (vc_f (nI_nn9 hp1) (vc_f (nI_nn9 hp1) (And.intro rfl h9)))
  have k47 : ∀ r j p (K : KT) (σ1 : am_Sg), j + r = 10 → K 0 1 = j → p ≤ m → WfK K → ZrK K → 0 < K 0 0 → TxS σ σ1 k i m p c K → (j = 0 ∨ p < m → pMls (cdv c i m) m r p K = pAll (cdv c i m) m s) → (¬ (j = 0 ∨ p < m) → (true, p, K) = pAll (cdv c i m) m s) → Wb 47 [some (.ref 23), some (.ref (109 + 2 * k)), some (.int (nI i)), some (.int (nI m)), some (.ref 12), some (.int (-9)), some (.int (nI j))] [] nf σ1 (tauY (110 + 2 * k) lf) := by
    intro r
    induction r with
    | zero =>
      intro j p K σ1 hj hKj hp hW hZ h0 hT h1 h2
      refine hs (fun p => Nat.beq p 47) 60 47 _ _ _ _ _ (vc_t rfl (vc_t (nI_le (a := 10) (by omega) (by omega)) (vc_t rfl (vc_if (fun g => And.intro rfl ?_) (fun g => And.intro rfl ?_)))))
      · rw [hT.1.2.1, hT.1.2.2.1] at g
        have g := (nI_leI (by omega) (by omega)).mp g
        have e := h2 (by omega)
        rw [tauY_up]
        exact hP (by rw [← e]) σ1 (by rw [← e]; exact hT.2.1) hT.2.2.1 hT.2.2.2
      · rw [hT.1.2.1, hT.1.2.2.1] at g
        have g : p < m := by
          by_cases q : p < m
          · exact q
          · exact absurd (nI_le (by omega) (by omega)) g
        have e := h1 (Or.inr g)
        have e : (false, p, K) = pAll (cdv c i m) m s := e
        have h9 := hQ (by rw [← e]; exact Bool.false_ne_true) σ1 hT.2.2.1 hT.2.2.2 (by rw [← e]; show p ≤ 1000; omega)
        rw [← e] at h9
        have h9 : P (some (.int (nI p))) σ1 (tauY 0 lf) := h9
        rw [tauY_up, hT.1.2.2.1]
        exact h9
    | succ r ih =>
      intro j p K σ1 hj hKj hp hW hZ h0 hT h1 h2
      have main : (j = 0 ∨ p < m) → ∀ σ2 : am_Sg, TxS σ σ2 k i m (pOne (cdv c i m) p K).2.1 c (pOne (cdv c i m) p K).2.2 → am_if (bI (pOne (cdv c i m) p K).1 = 0) (Wb 47 [some (.ref 23), some (.ref (109 + 2 * k)), some (.int (nI i)), some (.int (nI m)), some (.ref 12), some (.int (σ2 23 3)), some (.int (nI j + 1))] [] nf σ2 (tauY (110 + 2 * k) lf)) (Wb 47 [some (.ref 23), some (.ref (109 + 2 * k)), some (.int (nI i)), some (.int (nI m)), some (.ref 12), some (.int (-9)), some (.int (nI j + 1))] [] nf σ2 (tauY (110 + 2 * k) lf)) := by
        intro g σ2 hT2
        have e := h1 g
        have lp := pOne_le (c := c) (i := i) (m := m) (p := p) (K := K) hp
        cases e1 : (pOne (cdv c i m) p K).1 with
        | false =>
          have nt : ¬ (pOne (cdv c i m) p K).1 = true := by rw [e1]; exact Bool.false_ne_true
          rw [pMls_f nt] at e
          refine vc_t rfl ?_
          rw [hT2.1.2.2.1]
          exact kx _ j σ2 (by omega) (by rw [← e]; exact nt) (by rw [← e]) hT2.2.2.1 hT2.2.2.2 _
        | true =>
          have gd := pOne_gd hW hZ h0 (by omega) e1
          obtain ⟨d1, d2, d3, d4, d5⟩ := gd
          refine vc_f (by decide) ?_
          rw [← nI_succ]
          refine ih (j + 1) _ _ σ2 (by omega) (by omega) lp d1 d2 (by omega) hT2 (fun g2 => ?_) (fun g2 => ?_)
          · rw [← e, pMls_c e1 (by omega)]
          · rw [← e, pMls_e e1 (by omega), ← e1]
      refine hs (fun p => Nat.beq p 47) 60 47 _ _ _ _ _ (vc_t rfl (vc_f (nI_ge (b := 10) (by omega) (by omega)) (vc_if (fun g => ?_) (fun g => vc_if (fun g2 => vc_t rfl (vc_t g2 (And.intro rfl ?_))) (fun g2 => ?_)))))
      · have g := nI_inj (b := 0) (by omega) (by omega) g
        exact ⟨rfl, hn, lf, k, i, m, p, c, K, σ, rfl, rfl, hk, him, by omega, hT, hZ, by omega, hW.2.2.1, main (Or.inl g)⟩
      · have g : ¬ j = 0 := fun q => g (by rw [q]; rfl)
        rw [hT.1.2.1, hT.1.2.2.1] at g2
        have g2 := (nI_leI (by omega) (by omega)).mp g2
        have e := h2 (by omega)
        rw [tauY_up]
        exact hP (by rw [← e]) σ1 (by rw [← e]; exact hT.2.1) hT.2.2.1 hT.2.2.2
      · rw [hT.1.2.1, hT.1.2.2.1] at g2
        have g2 : p < m := by
          by_cases q : p < m
          · exact q
          · exact absurd (nI_le (by omega) (by omega)) g2
        exact ⟨rfl, hn, lf, k, i, m, p, c, K, σ, rfl, rfl, hk, him, by omega, hT, hZ, by omega, hW.2.2.1, main (Or.inr g2)⟩
  refine hs (fun p => Nat.beq p 47) 60 0 _ _ _ _ _ ?_
  have go : ∀ σ1 σ2 σ3 : am_Sg, σ1 = am_up σ 23 1 (nI i) → σ2 = am_up σ1 23 2 (nI m) → σ3 = am_up σ2 23 3 (nI 0) → TxI σ3 k i m 0 c ∧ G2 σ3 ∧ (∀ q, ¬ q = 23 → σ3 q = σ q) := by
    intro σ1 σ2 σ3 e1 e2 e3
    have fr : ∀ q, ¬ q = 23 → σ3 q = σ q := fun q hq => by rw [e3, am_up_ne hq, e2, am_up_ne hq, e1, am_up_ne hq]
    exact ⟨⟨by rw [e3, up_ne (by omega), e2, up_ne (by omega), e1, up_at], by rw [e3, up_ne (by omega), e2, up_at], by rw [e3, up_at], fun z hz => by rw [fr _ (by omega)]; exact hc z hz⟩, fun j hj => by rw [fr 22 (by omega)]; exact hG j hj, fr⟩
  have go2 : ∀ σ3 : am_Sg, TxI σ3 k i m 0 c → G2 σ3 → (∀ q, ¬ q = 23 → σ3 q = σ q) → (¬ cdv c i m 0 = 119 → Wb 47 [some (.ref 23), some (.ref (109 + 2 * k)), some (.int (nI i)), some (.int (nI m)), some (.ref 12), some (.int (σ3 23 3)), some (.int 0)] [] nf σ3 (tauY (110 + 2 * k) lf)) ∧ (cdv c i m 0 = 119 → ∀ σ4, σ4 = am_up σ3 23 3 (nI (0 + 1)) → ((pW (cdv c i m)).1 = 0 → ∀ σ', G2 σ' → (∀ q, ¬ q = 23 → ¬ (12 ≤ q ∧ q ≤ 22) → σ' q = σ q) → Wb 47 [some (.ref 23), some (.ref (109 + 2 * k)), some (.int (nI i)), some (.int (nI m)), some (.ref 12), some (.int (nI 1)), some (.int 0)] [] nf σ' (tauY (110 + 2 * k) lf)) ∧ (¬ (pW (cdv c i m)).1 = 0 → ∀ σ', TxS σ σ' k i m (pW (cdv c i m)).2 c (K0w (pW (cdv c i m)).1 s) → Wb 47 [some (.ref 23), some (.ref (109 + 2 * k)), some (.int (nI i)), some (.int (nI m)), some (.ref 12), some (.int (-9)), some (.int 0)] [] nf σ' (tauY (110 + 2 * k) lf))) := by
    intro σ3 t1 t2 t3
    refine ⟨fun g => ?_, fun g σ4 e4 => ⟨fun w0 σ' g1 g2 => ?_, fun w0 σ' hT => ?_⟩⟩
    · rw [t1.2.2.1]
      exact kx 0 0 σ3 (by omega) (by rw [pAll_n g]; exact Bool.false_ne_true) (by rw [pAll_n g]) t2 (fun q h1 _ => t3 q h1) 0
    · have e := pAll_y (cd := cdv c i m) (n := m) (s := s) g
      rw [if_pos w0] at e
      exact kx 1 0 σ' (by omega) (by rw [e]; exact Bool.false_ne_true) (by rw [e]) g1 g2 0
    · have e := pAll_y (cd := cdv c i m) (n := m) (s := s) g
      rw [if_neg w0] at e
      exact k47 10 0 _ _ σ' rfl rfl (pW_p w0) (K0w_wf (pW_le _) hs9) (K0w_z _ _) (Nat.pos_of_ne_zero w0) hT (fun _ => e.symm) (fun q => absurd (Or.inl rfl) q)
  rcases k4 hk with rfl | rfl | rfl | rfl
  all_goals
    refine fun σ1 e1 σ2 e2 σ3 e3 => ?_
    obtain ⟨t1, t2, t3⟩ := go σ1 σ2 σ3 e1 e2 e3
    obtain ⟨u1, u2⟩ := go2 σ3 t1 t2 t3
    rw [tauY_up]
    refine ⟨rfl, hn, lf, _, i, m, 0, 119, c, rfl, rfl, hk, him, by omega, t1, fun g => fun σ4 e4 => vc_f (by decide) ?_, fun g => vc_t rfl (u1 g)⟩
    obtain ⟨v1, v2⟩ := u2 g σ4 e4
    refine ⟨rfl, hn, lf, _, i, m, s, c, σ, rfl, rfl, hk, him, by rw [e4]; exact t1.next, fun j hj => by rw [e4, up_rn (by omega)]; exact t2 j hj, fun q h1 h2 => by rw [e4, am_up_ne h1]; exact t3 q h1, v1, v2⟩)
