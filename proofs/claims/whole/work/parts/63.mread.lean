def MxI (σ : am_Sg) (k i m p : Nat) (c : Nat → Int32) : Prop := σ 116 18 = nI (100 * k + i + p) ∧ ∀ z, z < 100 → σ 119 (100 * k + z) = c z
def C_digitAt : am_C := fun av n σ τ nf P => nf = n ∧ 155 ≤ n ∧ ∃ (lf k i m p : Nat) (c : Nat → Int32), τ = tauY 0 lf ∧ av = [.ref 116, .int (nI (100 * k + i + p)), .int (nI (100 * k + i + m))] ∧ k < 4 ∧ i + m ≤ 100 ∧ p ≤ 1000 ∧ (∀ z, z < 100 → σ 119 (100 * k + z) = c z) ∧ P (some (.int (opv (dg (cdv c i m p))))) σ τ
theorem dg_m1 : dg (-1) = none := if_neg (by decide)
theorem wd_iff {v : Int32} : ((48 : Int32) ≤ v ∧ v ≤ 57) ↔ (48 + ((0 : Nat) : Int) ≤ v.toInt ∧ v.toInt ≤ 57) := by
  rw [i_le, i_le]
  exact Iff.rfl
set_option maxRecDepth 100000 in
theorem M_digitAt (d : Nat) : am_Met (d + 2) 812 C_digitAt := am_meth (own0 := "CanalEndModel") 812 (d + 1) 155 T_X8_digitAt (fun y => bif Nat.beq y 803 then C_within else (am_no)) C_digitAt rfl F_X8_digitAt rfl (by decide +kernel) Tc_X8_digitAt (fun y => am_g (M_within (d + 0)) (am_no_met)) (by
  intro av n σ τ nf P hnf hC
  obtain ⟨rfl, hn, lf, k, i, m, p, c, rfl, rfl, hk, him, hp, hc, hP⟩ := hC
  refine ⟨hn, rfl, Nat.le_of_ble_eq_true rfl, fun Wb hs => ?_⟩
  have hcl : (nI (100 * k + i + p)).toNatClampNeg = 100 * k + i + p := nI_clamp (by omega)
  by_cases hpm : p < m
  · have ev : cdv c i m p = c (i + p) := if_pos hpm
    have ec : σ 119 (100 * k + i + p) = cdv c i m p := by rw [ev, Nat.add_assoc]; exact hc (i + p) (by omega)
    have vi : vp_in (nI (100 * k + i + p)) (am_len 119) := vin (show 100 * k + i + p < 400 by omega)
    refine hs (fun _ => false) 60 0 _ _ _ _ _ (vc_f (nI_ge (by omega) (by omega)) (And.intro vi ⟨rfl, cdv c i m p, 48, 57, by rw [hcl, ec], fun g => vc_f (by decide) (And.intro vi (And.intro rfl ?_)), fun g => vc_t rfl (And.intro rfl ?_)⟩))
    · obtain ⟨z, e1, hz, _, _⟩ := dg_ex (wd_iff.mp g)
      rw [e1] at hP
      rw [hcl, ec, hz]
      exact hP
    · rw [dg_0n (fun q => g (wd_iff.mpr q))] at hP
      exact hP
  · have ev : cdv c i m p = -1 := if_neg hpm
    rw [ev, dg_m1] at hP
    exact hs (fun _ => false) 60 0 _ _ _ _ _ (vc_t (nI_le (by omega) (by omega)) (And.intro rfl hP)))
def C_isCode : am_C := fun av n σ τ nf P => nf = n ∧ 155 ≤ n ∧ ∃ (lf k i m p : Nat) (v : Int32) (c : Nat → Int32), τ = tauY 0 lf ∧ av = [.ref 116, .int v, .int (nI (100 * k + i + m))] ∧ k < 4 ∧ i + m ≤ 100 ∧ p ≤ 1000 ∧ MxI σ k i m p c ∧ ¬ (-1 : Int32) = v ∧ (cdv c i m p = v → P (some (.int 1)) σ τ) ∧ (¬ cdv c i m p = v → P (some (.int 0)) σ τ)
set_option maxRecDepth 100000 in
theorem M_isCode (d : Nat) : am_Met (d + 1) 813 C_isCode := am_meth (own0 := "CanalEndModel") 813 (d + 0) 155 T_X8_isCode (fun y => am_no) C_isCode rfl F_X8_isCode rfl (by decide +kernel) Tc_X8_isCode (fun y => am_no_met) (by
  intro av n σ τ nf P hnf hC
  obtain ⟨rfl, hn, lf, k, i, m, p, v, c, rfl, rfl, hk, him, hp, ⟨ha, hc⟩, hv, hP, hQ⟩ := hC
  refine ⟨hn, rfl, Nat.le_of_ble_eq_true rfl, fun Wb hs => ?_⟩
  have hcl : (nI (100 * k + i + p)).toNatClampNeg = 100 * k + i + p := nI_clamp (by omega)
  by_cases hpm : p < m
  · have ev : cdv c i m p = c (i + p) := if_pos hpm
    have ec : σ 119 (100 * k + i + p) = cdv c i m p := by rw [ev, Nat.add_assoc]; exact hc (i + p) (by omega)
    refine hs (fun _ => false) 60 0 _ _ _ _ _ (vc_f (by rw [ha]; exact nI_ge (by omega) (by omega)) (And.intro (by rw [ha]; exact vin (show 100 * k + i + p < 400 by omega)) (vc_if (fun g => And.intro (Or.inr rfl) (And.intro rfl (hP ?_))) (fun g => And.intro (Or.inl rfl) (And.intro rfl (hQ ?_))))))
    · rw [ha, hcl, ec] at g
      exact g
    · rw [ha, hcl, ec] at g
      exact g
  · have ev : cdv c i m p = -1 := if_neg hpm
    exact hs (fun _ => false) 60 0 _ _ _ _ _ (vc_t (by rw [ha]; exact nI_le (by omega) (by omega)) (And.intro (Or.inl rfl) (And.intro rfl (hQ (by rw [ev]; exact hv))))))
def RepR (σ : am_Sg) (K : KT) (mm : Nat) : Prop := σ 116 19 = nI (K 0 0) ∧ σ 116 20 = nI mm ∧ σ 116 21 = nI (K 0 2) ∧ (∀ j, j < K 0 1 → σ 129 j = nI (K 1 j) ∧ σ 130 j = nI (K 2 j) ∧ σ 131 j = nI (K 3 j)) ∧ (∀ o, o < K 0 2 → σ 132 o = nI (K 6 o) ∧ σ 133 o = nI (K 7 o) ∧ σ 134 o = nI (K 5 o))
def MxF (σ0 σ : am_Sg) (k i m p : Nat) (c : Nat → Int32) : Prop := MxI σ k i m p c ∧ (∀ q, ¬ q = 116 → ¬ (129 ≤ q ∧ q ≤ 134) → σ q = σ0 q) ∧ (∀ j, ¬ (18 ≤ j ∧ j ≤ 21) → σ 116 j = σ0 116 j)
def MxS (σ0 σ : am_Sg) (k i m p : Nat) (c : Nat → Int32) (K : KT) (mm : Nat) : Prop := MxF σ0 σ k i m p c ∧ RepR σ K mm
theorem MxF.next {σ0 σ σ' : am_Sg} {k i m p : Nat} {c : Nat → Int32} (h : MxF σ0 σ k i m p c) (d : Nat) (e : σ' = am_up σ 116 18 (nI (100 * k + i + p + d))) : MxF σ0 σ' k i m (p + d) c := by
  subst e
  exact ⟨⟨by rw [up_at, Nat.add_assoc], fun z hz => by rw [up_rn (by omega)]; exact h.1.2 z hz⟩, fun q h1 h2 => by rw [am_up_ne h1]; exact h.2.1 q h1 h2, fun j hj => by rw [up_ne (by omega)]; exact h.2.2 j hj⟩
theorem MxS.next {σ0 σ σ' : am_Sg} {k i m p mm : Nat} {c : Nat → Int32} {K : KT} (h : MxS σ0 σ k i m p c K mm) (d : Nat) (e : σ' = am_up σ 116 18 (nI (100 * k + i + p + d))) : MxS σ0 σ' k i m (p + d) c K mm := by
  refine ⟨h.1.next d e, ?_⟩
  subst e
  obtain ⟨r1, r2, r3, r4, r5⟩ := h.2
  refine ⟨by rw [up_ne (by omega)]; exact r1, by rw [up_ne (by omega)]; exact r2, by rw [up_ne (by omega)]; exact r3, fun j hj => ?_, fun o ho => ?_⟩
  · rw [up_rn (by omega), up_rn (by omega), up_rn (by omega)]; exact r4 j hj
  · rw [up_rn (by omega), up_rn (by omega), up_rn (by omega)]; exact r5 o ho
theorem MxF.row {σ0 σ σ' : am_Sg} {k i m p q x : Nat} {v : Int32} {c : Nat → Int32} (h : MxF σ0 σ k i m p c) (hq : 129 ≤ q ∧ q ≤ 134) (e : σ' = am_up σ q x v) : MxF σ0 σ' k i m p c := by
  subst e
  exact ⟨⟨by rw [up_rn (by omega)]; exact h.1.1, fun z hz => by rw [up_rn (by omega)]; exact h.1.2 z hz⟩, fun q9 h1 h2 => by rw [am_up_ne (by omega)]; exact h.2.1 q9 h1 h2, fun j hj => by rw [up_rn (by omega)]; exact h.2.2 j hj⟩
theorem MxF.fld {σ0 σ σ' : am_Sg} {k i m p x : Nat} {v : Int32} {c : Nat → Int32} (h : MxF σ0 σ k i m p c) (hx : 19 ≤ x ∧ x ≤ 21) (e : σ' = am_up σ 116 x v) : MxF σ0 σ' k i m p c := by
  subst e
  exact ⟨⟨by rw [up_ne (by omega)]; exact h.1.1, fun z hz => by rw [up_rn (by omega)]; exact h.1.2 z hz⟩, fun q9 h1 h2 => by rw [am_up_ne (by omega)]; exact h.2.1 q9 h1 h2, fun j hj => by rw [up_ne (by omega)]; exact h.2.2 j hj⟩
theorem opv_n9 {v : Int32} {a : Nat} (h : dg v = some a) : ¬ opv (some a) = -9 := nI_nn9 (by have := (dg_y h).1; omega)
def C_mrdM : am_C := fun av n σ τ nf P => nf = n ∧ 155 ≤ n ∧ ∃ (lf k i m p : Nat) (c : Nat → Int32) (K : KT) (σ0 : am_Sg), τ = tauY 0 lf ∧ av = [.ref 116, .int (nI (100 * k + i + m))] ∧ k < 4 ∧ i + m ≤ 100 ∧ p ≤ m ∧ MxS σ0 σ k i m p c K (K 0 1) ∧ K 0 1 < 10 ∧ K 0 2 ≤ 8 ∧ ((pMile (cdv c i m) p K).1 = true → ∀ σ', MxS σ0 σ' k i m (pMile (cdv c i m) p K).2.1 c (pMile (cdv c i m) p K).2.2 (K 0 1 + 1) → P (some (.int 1)) σ' τ) ∧ (¬ (pMile (cdv c i m) p K).1 = true → ∀ σ', MxF σ0 σ' k i m (pMile (cdv c i m) p K).2.1 c → P (some (.int 0)) σ' τ)
set_option maxRecDepth 100000 in
theorem M_mrdM (d : Nat) : am_Met (d + 3) 815 C_mrdM := am_meth (own0 := "CanalEndModel") 815 (d + 2) 155 T_X8_readMile (fun y => bif Nat.beq y 812 then C_digitAt else (bif Nat.beq y 813 then C_isCode else (am_no))) C_mrdM rfl F_X8_readMile rfl (by decide +kernel) Tc_X8_readMile (fun y => am_g (M_digitAt (d + 0)) (am_g (M_isCode (d + 1)) (am_no_met))) (by
  intro av n σ τ nf P hnf hC
  obtain ⟨rfl, hn, lf, k, i, m, p, c, K, σ0, rfl, rfl, hk, him, hp, hT, hm, hO, hP, hQ⟩ := hC
  refine ⟨hn, rfl, Nat.le_of_ble_eq_true rfl, fun Wb hs => ?_⟩
  have k101 : ∀ r p1 (K1 : KT) (σ1 : am_Sg) (x2 x3 : Option Value), K1 0 2 + r = 8 → p1 ≤ m → MxS σ0 σ1 k i m p1 c K1 (K 0 1) → K1 0 1 = K 0 1 + 1 → pOut (cdv c i m) r p1 K1 = pMile (cdv c i m) p K → Wb 101 [some (.ref 116), some (.int (nI (100 * k + i + m))), x2, x3] [] nf σ1 (tauY 0 lf) := by
    intro r
    have fin : ∀ p1 (K1 : KT) (σ1 : am_Sg), MxS σ0 σ1 k i m p1 c K1 (K 0 1) → (true, p1, K1) = pMile (cdv c i m) p K → ∀ σ2, σ2 = am_up σ1 116 20 (σ1 116 20 + 1) → P (some (.int 1)) σ2 (tauY 0 lf) := by
      intro p1 K1 σ1 h1 e σ2 e2
      rw [h1.2.2.1, ← nI_succ] at e2
      rw [← e] at hP
      obtain ⟨r1, r2, r3, r4, r5⟩ := h1.2
      refine hP rfl σ2 ⟨h1.1.fld (by omega) e2, by rw [e2, up_ne (by omega)]; exact r1, by rw [e2, up_at], by rw [e2, up_ne (by omega)]; exact r3, fun j hj => ?_, fun o ho => ?_⟩
      · rw [e2, up_rn (by omega), up_rn (by omega), up_rn (by omega)]; exact r4 j hj
      · rw [e2, up_rn (by omega), up_rn (by omega), up_rn (by omega)]; exact r5 o ho
    induction r with
    | zero =>
      intro p1 K1 σ1 x2 x3 hr hpm h1 hm1 e
      exact hs (fun p => Nat.beq p 101) 80 101 _ _ _ _ _ (vc_t (by rw [h1.2.2.2.1]; exact nI_le (a := 8) (by omega) (by omega)) (fun σ2 e2 => And.intro (Or.inr rfl) (And.intro rfl (fin p1 K1 σ1 h1 e σ2 e2))))
    | succ r ih =>
      intro p1 K1 σ1 x2 x3 hr hpm h1 hm1 e
      refine hs (fun p => Nat.beq p 101) 80 101 _ _ _ _ _ (vc_f (by rw [h1.2.2.2.1]; exact nI_ge (b := 8) (by omega) (by omega)) ⟨rfl, hn, lf, k, i, m, p1, 111, c, rfl, rfl, hk, him, by omega, h1.1.1, by decide, fun g => vc_f (by decide) (fun σ2 e2 => ?_), fun g => vc_t rfl (fun σ2 e2 => And.intro (Or.inr rfl) (And.intro rfl (fin p1 K1 σ1 h1 (by rw [← e, pOut_n g]) σ2 e2)))⟩)
      have lp := cdv_lt (v := 111) g (by omega)
      rw [h1.1.1.1, nI_1] at e2
      have h2 := h1.next 1 e2
      rw [pOut_y g] at e
      refine ⟨rfl, hn, lf, k, i, m, p1 + 1, c, rfl, by rw [h2.1.1.1], hk, him, by omega, h2.1.1.2, ?_⟩
      have bad : ∀ p2 (K2 : KT) (σ3 : am_Sg), MxF σ0 σ3 k i m p2 c → pO1 (cdv c i m) (p1 + 1) K1 = (false, p2, K2) → P (some (.int 0)) σ3 (tauY 0 lf) := by
        intro p2 K2 σ3 h3 e3
        rw [e3, if_neg Bool.false_ne_true] at e
        rw [← e] at hQ
        exact hQ Bool.false_ne_true σ3 h3
      cases e1 : dg (cdv c i m (p1 + 1)) with
      | none => exact vc_f (by decide) (And.intro (Or.inl rfl) (And.intro rfl (bad _ _ σ2 h2.1 (pO1_a (Or.inl e1)))))
      | some z =>
        have y1 := dg_y e1
        have l1 := cdv_dg e1
        by_cases z0 : z = 0
        · subst z0
          exact vc_f (by decide) (And.intro (Or.inl rfl) (And.intro rfl (bad _ _ σ2 h2.1 (pO1_a (Or.inr ⟨0, e1, by omega⟩)))))
        · refine vc_t (nI_le (a := 1) (by omega) (by omega)) (fun σ3 e3 => ?_)
          rw [h2.1.1.1, nI_1] at e3
          have h3 := h2.next 1 e3
          refine ⟨rfl, hn, lf, k, i, m, p1 + 2, c, rfl, by rw [h3.1.1.1], hk, him, by omega, h3.1.1.2, ?_⟩
          cases e4 : dg (cdv c i m (p1 + 2)) with
          | none => exact vc_t rfl (And.intro (Or.inl rfl) (And.intro rfl (bad _ _ σ3 h3.1 (pO1_b e1 z0 e4))))
          | some t =>
            have l2 := cdv_dg e4
            refine vc_f (opv_n9 e4) (fun σ4 e5 => ?_)
            rw [h3.1.1.1, nI_1] at e5
            have h4 := h3.next 1 e5
            have hcO : (nI (K1 0 2)).toNatClampNeg = K1 0 2 := nI_clamp (by omega)
            obtain ⟨s1, s2, s3, s4, s5⟩ := h4.2
            refine And.intro (by rw [s3]; exact vin (show K1 0 2 < 8 by omega)) (fun σ5 e6 => ?_)
            rw [s3, hcO] at e6
            have e6 : σ5 = am_up σ4 132 (K1 0 2) (nI z) := e6
            have q5 : σ5 116 = σ4 116 := by rw [e6, am_up_ne (by omega)]
            refine And.intro (by rw [q5, s3]; exact vin (show K1 0 2 < 8 by omega)) (fun σ6 e7 => ?_)
            rw [q5, s3, hcO] at e7
            have e7 : σ6 = am_up σ5 133 (K1 0 2) (nI t) := e7
            have q6 : σ6 116 = σ4 116 := by rw [e7, am_up_ne (by omega), q5]
            refine And.intro (by rw [q6, s3]; exact vin (show K1 0 2 < 8 by omega)) (fun σ7 e8 => ?_)
            rw [q6, s3, s2, hcO] at e8
            have e8 : σ7 = am_up σ6 134 (K1 0 2) (nI (K 0 1)) := e8
            have q7 : σ7 116 = σ4 116 := by rw [e8, am_up_ne (by omega), q6]
            refine fun σ8 e9 => ?_
            rw [q7, s3, ← nI_succ] at e9
            have e9 : σ8 = am_up σ7 116 21 (nI (K1 0 2 + 1)) := e9
            rw [pO1_c e1 z0 e4, if_pos rfl] at e
            refine ih (p1 + 3) (addO K1 z t) σ8 _ _ (show K1 0 2 + 1 + r = 8 by omega) (by omega) ⟨((((h4.1.row (by omega) e6).row (by omega) e7).row (by omega) e8).fld (by omega) e9), ?_, ?_, ?_, fun j hj => ?_, fun o ho => ?_⟩ hm1 e
            · rw [e9, up_ne (by omega), q7]; exact s1
            · rw [e9, up_ne (by omega), q7]; exact s2
            · rw [e9, up_at]; rfl
            · have fr : ∀ q, 129 ≤ q → q ≤ 131 → σ8 q = σ4 q := fun q g1 g2 => by rw [e9, am_up_ne (by omega), e8, am_up_ne (by omega), e7, am_up_ne (by omega), e6, am_up_ne (by omega)]
              rw [fr 129 (by omega) (by omega), fr 130 (by omega) (by omega), fr 131 (by omega) (by omega)]
              exact s4 j hj
            · have ho : o < K1 0 2 + 1 := ho
              show σ8 132 o = nI (if o = K1 0 2 then z else K1 6 o) ∧ σ8 133 o = nI (if o = K1 0 2 then t else K1 7 o) ∧ σ8 134 o = nI (if o = K1 0 2 then K1 0 1 - 1 else K1 5 o)
              rw [e9, up_rn (by omega), up_rn (by omega), up_rn (by omega), e8, up_rn (by omega), up_rn (by omega), up_if, e7, up_rn (by omega), up_if, up_rn (by omega), e6, up_if, up_rn (by omega), up_rn (by omega)]
              by_cases q : o = K1 0 2
              · rw [if_pos q, if_pos q, if_pos q, if_pos q, if_pos q, if_pos q]
                exact ⟨rfl, rfl, by rw [hm1]; rfl⟩
              · rw [if_neg q, if_neg q, if_neg q, if_neg q, if_neg q, if_neg q]
                exact s5 o (by omega)
  have t20 := hT.2.2.1
  have hcm : (nI (K 0 1)).toNatClampNeg = K 0 1 := nI_clamp (by omega)
  have vm := fun q (h : am_len q = 10) => vin (j := K 0 1) (q := q) (by omega)
  refine hs (fun p => Nat.beq p 101) 80 0 _ _ _ _ _ ⟨rfl, hn, lf, k, i, m, p, c, rfl, by rw [hT.1.1.1], hk, him, by omega, hT.1.1.2, And.intro (by rw [t20]; exact vm 129 rfl) (fun σ1 e1 => ?_)⟩
  rw [t20, hcm] at e1
  have e1 : σ1 = am_up σ 129 (K 0 1) (opv (dg (cdv c i m p))) := e1
  have q1 : σ1 116 = σ 116 := by rw [e1, am_up_ne (by omega)]
  have f1 := hT.1.row (by omega) e1
  refine And.intro (by rw [q1, t20]; exact vm 129 rfl) ?_
  rw [q1, t20, hcm]
  have v1 : σ1 129 (K 0 1) = opv (dg (cdv c i m p)) := by rw [e1, up_at]
  rw [v1]
  cases ea : dg (cdv c i m p) with
  | none =>
    rw [pMile_1 ea] at hQ
    exact vc_t rfl (And.intro (Or.inl rfl) (And.intro rfl (hQ Bool.false_ne_true σ1 f1)))
  | some a =>
    have la := cdv_dg ea
    refine vc_f (opv_n9 ea) (fun σ2 e2 => ?_)
    rw [f1.1.1, nI_1] at e2
    have e2 : σ2 = am_up σ1 116 18 (nI (100 * k + i + p + 1)) := e2
    have f2 := f1.next 1 e2
    have t20' : σ2 116 20 = nI (K 0 1) := by rw [e2, up_ne (by omega), q1]; exact t20
    refine ⟨rfl, hn, lf, k, i, m, p + 1, c, rfl, by rw [f2.1.1], hk, him, by omega, f2.1.2, And.intro (by rw [t20']; exact vm 130 rfl) (fun σ3 e3 => ?_)⟩
    rw [t20', hcm] at e3
    have e3 : σ3 = am_up σ2 130 (K 0 1) (opv (dg (cdv c i m (p + 1)))) := e3
    have q3 : σ3 116 = σ2 116 := by rw [e3, am_up_ne (by omega)]
    have f3 := f2.row (by omega) e3
    refine And.intro (by rw [q3, t20']; exact vm 130 rfl) ?_
    rw [q3, t20', hcm]
    have v3 : σ3 130 (K 0 1) = opv (dg (cdv c i m (p + 1))) := by rw [e3, up_at]
    rw [v3]
    cases eb : dg (cdv c i m (p + 1)) with
    | none =>
      rw [pMile_2 ea eb] at hQ
      exact vc_t rfl (And.intro (Or.inl rfl) (And.intro rfl (hQ Bool.false_ne_true σ3 f3)))
    | some b =>
      have lb := cdv_dg eb
      refine vc_f (opv_n9 eb) (fun σ4 e4 => ?_)
      rw [f3.1.1, nI_1] at e4
      have e4 : σ4 = am_up σ3 116 18 (nI (100 * k + i + (p + 1) + 1)) := e4
      have f4 := f3.next 1 e4
      have t20b : σ4 116 20 = nI (K 0 1) := by rw [e4, up_ne (by omega), q3]; exact t20'
      have t21 : σ4 116 21 = nI (K 0 2) := by rw [e4, up_ne (by omega), q3, e2, up_ne (by omega), q1]; exact hT.2.2.2.1
      have t19 : σ4 116 19 = nI (K 0 0) := by rw [e4, up_ne (by omega), q3, e2, up_ne (by omega), q1]; exact hT.2.1
      refine And.intro (by rw [t20b]; exact vin (show K 0 1 < 11 by omega)) (fun σ5 e5 => ?_)
      rw [t20b, t21, hcm] at e5
      have e5 : σ5 = am_up σ4 131 (K 0 1) (nI (K 0 2)) := e5
      have q5 : σ5 116 = σ4 116 := by rw [e5, am_up_ne (by omega)]
      have f5 := f4.row (by omega) e5
      rw [ea] at e1
      rw [eb] at e3
      have e1 : σ1 = am_up σ 129 (K 0 1) (nI a) := e1
      have e3 : σ3 = am_up σ2 130 (K 0 1) (nI b) := e3
      have old := hT.2.2.2.2
      refine k101 (8 - K 0 2) (p + 2) (addM K a b) σ5 none none (show K 0 2 + (8 - K 0 2) = 8 by omega) (by omega) ⟨f5, by rw [q5]; exact t19, by rw [q5]; exact t20b, by rw [q5]; exact t21, fun j hj => ?_, fun o ho => ?_⟩ rfl ?_
      · have hj : j < K 0 1 + 1 := hj
        show σ5 129 j = nI (if j = K 0 1 then a else K 1 j) ∧ σ5 130 j = nI (if j = K 0 1 then b else K 2 j) ∧ σ5 131 j = nI (if j = K 0 1 then K 0 2 else K 3 j)
        rw [e5, up_rn (by omega), up_rn (by omega), up_if, e4, up_rn (by omega), up_rn (by omega), up_rn (by omega), e3, up_rn (by omega), up_if, up_rn (by omega), e2, up_rn (by omega), up_rn (by omega), up_rn (by omega), e1, up_if, up_rn (by omega), up_rn (by omega)]
        by_cases q : j = K 0 1
        · rw [if_pos q, if_pos q, if_pos q, if_pos q, if_pos q, if_pos q]
          exact ⟨rfl, rfl, rfl⟩
        · rw [if_neg q, if_neg q, if_neg q, if_neg q, if_neg q, if_neg q]
          exact old.1 j (by omega)
      · have ho : o < K 0 2 := ho
        have fr : ∀ q, 132 ≤ q → σ5 q = σ q := fun q g1 => by rw [e5, am_up_ne (by omega), e4, am_up_ne (by omega), e3, am_up_ne (by omega), e2, am_up_ne (by omega), e1, am_up_ne (by omega)]
        rw [fr 132 (by omega), fr 133 (by omega), fr 134 (by omega)]
        exact old.2 o ho
      · rw [pMile_3 ea eb])
