def RepMQ (σ : am_Sg) (Q : KT) : Prop := σ 116 33 = nI (Q 0 0) ∧ ∀ k, k < Q 0 0 → σ 140 k = nI (Q 1 k) ∧ σ 141 k = nI (Q 2 k) ∧ σ 142 k = nI (Q 3 k) ∧ σ 143 k = nI (Q 4 k)
def C_mworlds : am_C := fun av n σ τ nf P => nf = n ∧ 155 ≤ n ∧ ∃ (lf O : Nat), τ = tauY 0 lf ∧ av = [.ref 116] ∧ σ 116 7 = nI O ∧ O ≤ 8 ∧ P (some (.int (nI (3 ^ O)))) σ τ
set_option maxRecDepth 100000 in
theorem M_mworlds (d : Nat) : am_Met (d + 1) 834 C_mworlds := am_meth (own0 := "CanalEndModel") 834 (d + 0) 155 T_X8_worlds (fun y => am_no) C_mworlds rfl F_X8_worlds rfl (by decide +kernel) Tc_X8_worlds (fun y => am_no_met) (by
  intro av n σ τ nf P hnf hC
  obtain ⟨rfl, hn, lf, O, rfl, rfl, eO, hO8, hP⟩ := hC
  refine ⟨hn, rfl, Nat.le_of_ble_eq_true rfl, fun Wb hs => ?_⟩
  have k4 : ∀ r o, o + r = O → Wb 4 [some (.ref 116), some (.int (nI (3 ^ o))), some (.int (nI o))] [] nf σ (tauY 0 lf) := by
    intro r
    induction r with
    | zero =>
      intro o ho
      have ho : o = O := by omega
      subst ho
      exact hs (fun p => Nat.beq p 4) 60 4 _ _ _ _ _ (vc_t (by rw [eO]; exact nI_le (Nat.le_refl _) (by omega)) (And.intro rfl hP))
    | succ r ih =>
      intro o ho
      have h9 := ih (o + 1) (by omega)
      rw [Nat.pow_succ, ← pk_mul, nI_succ o] at h9
      exact hs (fun p => Nat.beq p 4) 60 4 _ _ _ _ _ (vc_f (by rw [eO]; exact nI_ge (by omega) (by omega)) h9)
  exact hs (fun p => Nat.beq p 4) 60 0 _ _ _ _ _ (k4 O 0 (by omega)))
def C_layW : am_C := fun av n σ τ nf P => nf = n ∧ 155 ≤ n ∧ ∃ (lf O w : Nat), τ = tauY 0 lf ∧ av = [.ref 116, .int (nI w)] ∧ w ≤ 6561 ∧ σ 116 7 = nI O ∧ O ≤ 8 ∧ ∀ σ', (∀ o, o < O → σ' 135 o = nI (kdw w o)) → (∀ q, ¬ q = 135 → σ' q = σ q) → P none σ' τ
set_option maxRecDepth 100000 in
theorem M_layW (d : Nat) : am_Met (d + 1) 835 C_layW := am_meth (own0 := "CanalEndModel") 835 (d + 0) 155 T_X8_layWorld (fun y => am_no) C_layW rfl F_X8_layWorld rfl (by decide +kernel) Tc_X8_layWorld (fun y => am_no_met) (by
  intro av n σ τ nf P hnf hC
  obtain ⟨rfl, hn, lf, O, w, rfl, rfl, hw, eO, hO8, hP⟩ := hC
  refine ⟨hn, rfl, Nat.le_of_ble_eq_true rfl, fun Wb hs => ?_⟩
  have k4 : ∀ r o (σ1 : am_Sg), o + r = O → (∀ z, z < o → σ1 135 z = nI (kdw w z)) → (∀ q, ¬ q = 135 → σ1 q = σ q) → Wb 4 [some (.ref 116), some (.int (nI w)), some (.int (nI (w / 3 ^ o))), some (.int (nI o))] [] nf σ1 (tauY 0 lf) := by
    intro r
    induction r with
    | zero =>
      intro o σ1 ho g1 g2
      have ho : o = O := by omega
      subst ho
      exact hs (fun p => Nat.beq p 4) 60 4 _ _ _ _ _ (vc_t (by rw [g2 116 (by omega), eO]; exact nI_le (Nat.le_refl _) (by omega)) (And.intro rfl (hP σ1 g1 g2)))
    | succ r ih =>
      intro o σ1 ho g1 g2
      have hco : (nI o).toNatClampNeg = o := nI_clamp (by omega)
      have wb : w / 3 ^ o ≤ 6561 := Nat.le_trans (Nat.div_le_self _ _) hw
      refine hs (fun p => Nat.beq p 4) 60 4 _ _ _ _ _ (vc_f (by rw [g2 116 (by omega), eO]; exact nI_ge (by omega) (by omega)) (And.intro (by decide) (And.intro (vin (show o < 8 by omega)) (fun σ2 e2 => And.intro (by decide) ?_))))
      rw [hco, show (3 : Int32) = nI 3 from rfl, pk_rem (by omega) (by omega) (by omega)] at e2
      have e2 : σ2 = am_up σ1 135 o (nI (kdw w o)) := e2
      have h9 := ih (o + 1) σ2 (by omega) (fun z hz => by
        by_cases e : z = o
        · rw [e, e2, up_at]
        · rw [e2, up_ne e]; exact g1 z (by omega)) (fun q hq => by rw [e2, am_up_ne hq]; exact g2 q hq)
      have ed : nI (w / 3 ^ o) / 3 = nI (w / 3 ^ (o + 1)) := by rw [show (3 : Int32) = nI 3 from rfl, pk_div (by omega) (by omega) (by omega), Nat.div_div_eq_div_mul, ← Nat.pow_succ]
      rw [← ed, nI_succ] at h9
      exact h9
  have h9 := k4 O 0 σ (by omega) (fun z hz => absurd hz (Nat.not_lt_zero z)) (fun _ _ => rfl)
  rw [Nat.pow_zero, Nat.div_one] at h9
  exact hs (fun p => Nat.beq p 4) 60 0 _ _ _ _ _ h9)
theorem fit_f {K Q : KT} {w k : Nat} (hk : k < Q 0 0) (h : ¬ s_in K (kdw w) (Q 3 k) (Q 2 k) (Q 1 k + 1) = Q 4 k) : fitQ K Q w = false := by
  cases e : fitQ K Q w with
  | false => rfl
  | true => exact absurd (fit_iff.mp e k hk) h
def C_isFit : am_C := fun av n σ τ nf P => nf = n ∧ 155 ≤ n ∧ ∃ (lf w : Nat) (K Q : KT), τ = tauY 0 lf ∧ av = [.ref 116] ∧ RepM σ K ∧ WfK K ∧ WfQ K Q ∧ RepMQ σ Q ∧ Knd σ K (kdw w) ∧ ∀ σ', (∀ q, ¬ (136 ≤ q ∧ q ≤ 139) → σ' q = σ q) → P (some (.int (bI (fitQ K Q w)))) σ' τ
set_option maxRecDepth 100000 in
theorem M_isFit (d : Nat) : am_Met (d + 3) 836 C_isFit := am_meth (own0 := "CanalEndModel") 836 (d + 2) 155 T_X8_isFit (fun y => bif Nat.beq y 825 then C_mhour else (am_no)) C_isFit rfl F_X8_isFit rfl (by decide +kernel) Tc_X8_isFit (fun y => am_g (M_mhour (d + 1)) (am_no_met)) (by
  intro av n σ τ nf P hnf hC
  obtain ⟨rfl, hn, lf, w, K, Q, rfl, rfl, hR, hW, hQ, hRQ, hKd, hP⟩ := hC
  refine ⟨hn, rfl, Nat.le_of_ble_eq_true rfl, fun Wb hs => ?_⟩
  have hM := hW.2.1
  have hR10 := hQ.1
  have k2 : ∀ r q (σ1 : am_Sg), q + r = Q 0 0 → (∀ k, k < q → s_in K (kdw w) (Q 3 k) (Q 2 k) (Q 1 k + 1) = Q 4 k) → (∀ q, ¬ (136 ≤ q ∧ q ≤ 139) → σ1 q = σ q) → Wb 2 [some (.ref 116), some (.int (nI q))] [] nf σ1 (tauY 0 lf) := by
    intro r
    induction r with
    | zero =>
      intro q σ1 hq g1 g2
      have hq : q = Q 0 0 := by omega
      have h9 := hP σ1 g2
      rw [fit_iff.mpr (fun k hk => g1 k (by omega))] at h9
      exact hs (fun p => Nat.beq p 2) 60 2 _ _ _ _ _ (vc_t (by rw [g2 116 (by omega), hRQ.1, hq]; exact nI_le (Nat.le_refl _) (by omega)) (And.intro (Or.inr rfl) (And.intro rfl h9)))
    | succ r ih =>
      intro q σ1 hq g1 g2
      have hcq : (nI q).toNatClampNeg = q := nI_clamp (by omega)
      have vq := fun z (e : am_len z = 10) => vin (j := q) (q := z) (by omega)
      obtain ⟨b1, b2, b3, b4⟩ := hQ.2 q (by omega)
      obtain ⟨c1, c2, c3, c4⟩ := hRQ.2 q (by omega)
      refine hs (fun p => Nat.beq p 2) 60 2 _ _ _ _ _ (vc_f (by rw [g2 116 (by omega), hRQ.1]; exact nI_ge (by omega) (by omega)) (And.intro (vq 141 rfl) (And.intro (vq 142 rfl) ⟨rfl, hn, 0, lf, Q 2 q, Q 3 q, kdw w, K, rfl, by rw [hcq, g2 141 (by omega), g2 142 (by omega), c2, c3], hR.frame (fun z _ _ => g2 z (by omega)), hW, fun z hz => by rw [g2 135 (by omega)]; exact hKd z hz, b2, b3, fun σ2 h2 => And.intro (vq 140 rfl) ?_⟩)))
      have f2 : ∀ z, ¬ (136 ≤ z ∧ z ≤ 139) → σ2 z = σ z := fun z hz => by rw [h2.2.2 z hz, g2 z hz]
      have e138 : σ2 138 (Q 1 q) = nI (s_in K (kdw w) (Q 3 q) (Q 2 q) (Q 1 q + 1)) := (h2.1 (Q 1 q) b1).2.2
      have hcm : (nI (Q 1 q)).toNatClampNeg = Q 1 q := nI_clamp (by omega)
      have sl := s_in_le K (kdw w) (Q 3 q) (Q 2 q) (Q 1 q + 1)
      rw [hcq, f2 140 (by omega), c1]
      refine And.intro (vin (q := 138) (show Q 1 q < 10 by omega)) (And.intro (vq 143 rfl) ?_)
      rw [hcm, e138, hcq, f2 143 (by omega), c4]
      refine vc_if (fun c => ?_) (fun c => And.intro (Or.inl rfl) (And.intro rfl ?_))
      · have c := nI_inj (by omega) (by omega) c
        have h9 := ih (q + 1) σ2 (by omega) (fun k hk => by
          by_cases e : k = q
          · rw [e]; exact c
          · exact g1 k (by omega)) f2
        rw [nI_succ] at h9
        exact h9
      · have h9 := hP σ2 f2
        rw [fit_f (k := q) (by omega) (fun e => c (by rw [e]))] at h9
        exact h9
  exact hs (fun p => Nat.beq p 2) 60 0 _ _ _ _ _ (k2 (Q 0 0) 0 σ (by omega) (fun k hk => absurd hk (Nat.not_lt_zero k)) (fun _ _ => rfl)))
theorem bI_01 (b : Bool) : bI b = 0 ∨ bI b = 1 := by cases b <;> simp [bI]
def C_layF : am_C := fun av n σ τ nf P => nf = n ∧ 155 ≤ n ∧ ∃ (lf : Nat) (K Q : KT), τ = tauY 0 lf ∧ av = [.ref 116] ∧ RepM σ K ∧ WfK K ∧ WfQ K Q ∧ RepMQ σ Q ∧ ∀ σ', σ' 116 39 = nI (s_cnt K Q) → (∀ o, o < K 0 2 → ∀ k, k < 3 → σ' 145 (3 * o + k) = nI (s_tly K Q o k)) → (∀ w, w < 3 ^ K 0 2 → σ' 144 w = bI (fitQ K Q w)) → (∀ q, ¬ q = 116 → ¬ (135 ≤ q ∧ q ≤ 139) → ¬ q = 144 → ¬ q = 145 → σ' q = σ q) → (∀ i, ¬ i = 39 → σ' 116 i = σ 116 i) → P none σ' τ
set_option maxRecDepth 100000 in
theorem M_layF (d : Nat) : am_Met (d + 4) 837 C_layF := am_meth (own0 := "CanalEndModel") 837 (d + 3) 155 T_X8_layFits (fun y => bif Nat.beq y 834 then C_mworlds else (bif Nat.beq y 835 then C_layW else (bif Nat.beq y 836 then C_isFit else (am_no)))) C_layF rfl F_X8_layFits rfl (by decide +kernel) Tc_X8_layFits (fun y => am_g (M_mworlds (d + 2)) (am_g (M_layW (d + 2)) (am_g (M_isFit (d + 0)) (am_no_met)))) (by
  intro av n σ τ nf P hnf hC
  obtain ⟨rfl, hn, lf, K, Q, rfl, rfl, hR, hW, hQ, hRQ, hP⟩ := hC
  refine ⟨hn, rfl, Nat.le_of_ble_eq_true rfl, fun Wb hs => ?_⟩
  have hO8 := hW.2.2.1
  have p8 := p3_8 (K 0 2) (by omega)
  have k33 : ∀ m w (x3 : Option Value) (σ1 : am_Sg), w + m = 3 ^ K 0 2 → σ1 116 39 = nI (ctN (fitQ K Q) w) → (∀ o, o < K 0 2 → ∀ k, k < 3 → σ1 145 (3 * o + k) = nI (ctN (pT K Q o k) w)) → (∀ w', w' < w → σ1 144 w' = bI (fitQ K Q w')) → (∀ q, ¬ q = 116 → ¬ (135 ≤ q ∧ q ≤ 139) → ¬ q = 144 → ¬ q = 145 → σ1 q = σ q) → (∀ i, ¬ i = 39 → σ1 116 i = σ 116 i) → Wb 33 [some (.ref 116), some (.int (nI (3 ^ K 0 2))), some (.int (nI w)), x3] [] nf σ1 (tauY 0 lf) := by
    intro m
    induction m with
    | zero =>
      intro w x3 σ1 hw g1 g2 g3 g4 g5
      have hw : w = 3 ^ K 0 2 := by omega
      subst hw
      exact hs (fun p => Nat.beq p 33) 80 33 _ _ _ _ _ (vc_t (nI_le (Nat.le_refl _) (by omega)) (And.intro rfl (hP σ1 g1 g2 g3 g4 g5)))
    | succ m ih =>
      intro w x3 σ1 hw g1 g2 g3 g4 g5
      have hcw : (nI w).toNatClampNeg = w := nI_clamp (by omega)
      have eO1 : σ1 116 7 = nI (K 0 2) := by rw [g5 7 (by omega)]; exact hR.2.2.1
      have vw : vp_in (nI w) (am_len 144) := vin (show w < 6561 by omega)
      refine hs (fun p => Nat.beq p 33 || Nat.beq p 74) 80 33 _ _ _ _ _ (vc_f (nI_ge (by omega) (by omega)) ⟨rfl, hn, lf, K 0 2, w, rfl, rfl, by omega, eO1, hO8, fun σ2 a1 a2 => ⟨rfl, hn, lf, w, K, Q, rfl, rfl, ?_, hW, hQ, ?_, fun o ho => ⟨a1 o ho, by have := kdw_lt w o; omega⟩, fun σ3 a3 => And.intro vw (And.intro (bI_01 _) (fun σ4 e4 => And.intro vw ?_))⟩⟩)
      · exact hR.fr6 (fun q h1 h2 => by rw [a2 q (by omega)]; exact g4 q (by omega) (by omega) (by omega) (by omega)) (fun i hi => by rw [a2 116 (by omega)]; exact g5 i (by omega))
      · refine ⟨by rw [a2 116 (by omega), g5 33 (by omega)]; exact hRQ.1, fun k hk => ?_⟩
        rw [a2 140 (by omega), a2 141 (by omega), a2 142 (by omega), a2 143 (by omega), g4 140 (by omega) (by omega) (by omega) (by omega), g4 141 (by omega) (by omega) (by omega) (by omega), g4 142 (by omega) (by omega) (by omega) (by omega), g4 143 (by omega) (by omega) (by omega) (by omega)]
        exact hRQ.2 k hk
      rw [hcw] at e4
      have e4 : σ4 = am_up σ3 144 w (bI (fitQ K Q w)) := e4
      have v4 : σ4 144 w = bI (fitQ K Q w) := by rw [e4, up_at]
      have fr4 : ∀ q, ¬ (135 ≤ q ∧ q ≤ 139) → ¬ q = 144 → σ4 q = σ1 q := fun q h1 h2 => by rw [e4, am_up_ne h2, a3 q (by omega), a2 q (by omega)]
      have s144 : ∀ w', w' < w + 1 → σ4 144 w' = bI (fitQ K Q w') := fun w' hw' => by
        by_cases e : w' = w
        · rw [e]; exact v4
        · rw [e4, up_ne e, a3 144 (by omega), a2 144 (by omega)]; exact g3 w' (by omega)
      rw [hcw, v4]
      cases ef : fitQ K Q w with
      | false =>
        refine vc_t rfl ?_
        have c0 : ctN (fitQ K Q) (w + 1) = ctN (fitQ K Q) w := by show _ + (if fitQ K Q w then 1 else 0) = _; rw [ef]; rfl
        have c1 : ∀ o k, ctN (pT K Q o k) (w + 1) = ctN (pT K Q o k) w := fun o k => by show _ + (if pT K Q o k w then 1 else 0) = _; unfold pT; rw [ef]; rfl
        have h9 := ih (w + 1) x3 σ4 (by omega) (by rw [fr4 116 (by omega) (by omega), c0]; exact g1) (fun o ho k hk => by rw [fr4 145 (by omega) (by omega), c1]; exact g2 o ho k hk) s144 (fun q h1 h2 h3 h4 => by rw [fr4 q h2 h3]; exact g4 q h1 h2 h3 h4) (fun i hi => by rw [fr4 116 (by omega) (by omega)]; exact g5 i hi)
        rw [nI_succ] at h9
        exact h9
      | true =>
        refine vc_f (by decide) (fun σ5 e5 => ?_)
        rw [fr4 116 (by omega) (by omega), g1, ← nI_succ] at e5
        have e5 : σ5 = am_up σ4 116 39 (nI (ctN (fitQ K Q) w + 1)) := e5
        have c0 : ctN (fitQ K Q) (w + 1) = ctN (fitQ K Q) w + 1 := by show _ + (if fitQ K Q w then 1 else 0) = _; rw [ef]; rfl
        have c1 : ∀ o k, ctN (pT K Q o k) (w + 1) = ctN (pT K Q o k) w + (if kdw w o = k then 1 else 0) := fun o k => by
          show _ + (if pT K Q o k w then 1 else 0) = _
          unfold pT
          rw [ef, Bool.true_and]
          by_cases e : kdw w o = k
          · rw [if_pos e, e, beq_self_eq_true]; rfl
          · rw [if_neg e, beq_eq_false_iff_ne.mpr e]; rfl
        have fr5 : ∀ q, ¬ q = 116 → σ5 q = σ4 q := fun q hq => by rw [e5, am_up_ne hq]
        have k135 : ∀ o, o < K 0 2 → σ5 135 o = nI (kdw w o) := fun o ho => by rw [fr5 135 (by omega), e4, up_rn (by omega), a3 135 (by omega)]; exact a1 o ho
        have k74 : ∀ r o (σ6 : am_Sg), o + r = K 0 2 → (∀ z, z < K 0 2 → ∀ k, k < 3 → σ6 145 (3 * z + k) = nI (ctN (pT K Q z k) w + (if z < o ∧ kdw w z = k then 1 else 0))) → (∀ q, ¬ q = 145 → σ6 q = σ5 q) → Wb 74 [some (.ref 116), some (.int (nI (3 ^ K 0 2))), some (.int (nI w)), some (.int (nI o))] [] nf σ6 (tauY 0 lf) := by
          intro r
          induction r with
          | zero =>
            intro o σ6 ho y1 y2
            have eO6 : σ6 116 7 = nI (K 0 2) := by rw [y2 116 (by omega), e5, up_ne (by omega), fr4 116 (by omega) (by omega)]; exact eO1
            have h9 := ih (w + 1) (some (.int (nI o))) σ6 (by omega) (by rw [y2 116 (by omega), e5, up_at, c0]) (fun z hz k hk => by
              rw [y1 z hz k hk, c1]
              by_cases e : kdw w z = k
              · rw [if_pos e, if_pos ⟨by omega, e⟩]
              · rw [if_neg e, if_neg (fun q => e q.2)]) (fun w' hw' => by rw [y2 144 (by omega), fr5 144 (by omega)]; exact s144 w' hw') (fun q h1 h2 h3 h4 => by rw [y2 q h4, fr5 q h1, fr4 q h2 h3]; exact g4 q h1 h2 h3 h4) (fun i hi => by rw [y2 116 (by omega), e5, up_ne hi, fr4 116 (by omega) (by omega)]; exact g5 i hi)
            rw [nI_succ] at h9
            exact hs (fun p => Nat.beq p 33 || Nat.beq p 74) 80 74 _ _ _ _ _ (vc_t (by rw [eO6]; exact nI_le (by omega) (by omega)) h9)
          | succ r ih7 =>
            intro o σ6 ho y1 y2
            have eO6 : σ6 116 7 = nI (K 0 2) := by rw [y2 116 (by omega), e5, up_ne (by omega), fr4 116 (by omega) (by omega)]; exact eO1
            have hco : (nI o).toNatClampNeg = o := nI_clamp (by omega)
            have kl := kdw_lt w o
            have v135 : σ6 135 (nI o).toNatClampNeg = nI (kdw w o) := by rw [hco, y2 135 (by omega)]; exact k135 o (by omega)
            have ix : (3 : Int32) * nI o + nI (kdw w o) = nI (3 * o + kdw w o) := by rw [show (3 : Int32) = nI 3 from rfl, pk_mul, nI_add]
            have vi : vp_in ((3 : Int32) * nI o + σ6 135 (nI o).toNatClampNeg) (am_len 145) := by rw [v135, ix]; exact vin (show 3 * o + kdw w o < 24 by omega)
            refine hs (fun p => Nat.beq p 33 || Nat.beq p 74) 80 74 _ _ _ _ _ (vc_f (by rw [eO6]; exact nI_ge (by omega) (by omega)) (And.intro (vin (show o < 8 by omega)) (And.intro vi (And.intro vi (fun σ7 e7 => ?_)))))
            rw [v135, ix, nI_clamp (by omega), y1 o (by omega) (kdw w o) kl, if_neg (by omega), ← nI_succ] at e7
            have e7 : σ7 = am_up σ6 145 (3 * o + kdw w o) (nI (ctN (pT K Q o (kdw w o)) w + 1)) := e7
            have h9 := ih7 (o + 1) σ7 (by omega) (fun z hz k hk => by
              by_cases e : z = o ∧ k = kdw w o
              · rw [e.1, e.2, e7, up_at, if_pos ⟨by omega, rfl⟩]
              · rw [e7, up_ne (by omega), y1 z hz k hk]
                by_cases c : z < o ∧ kdw w z = k
                · rw [if_pos c, if_pos ⟨by omega, c.2⟩]
                · rw [if_neg c, if_neg (fun q => ?_)]
                  by_cases e9 : z = o
                  · exact e ⟨e9, by rw [← e9]; exact q.2.symm⟩
                  · exact c ⟨by omega, q.2⟩) (fun q hq => by rw [e7, am_up_ne hq]; exact y2 q hq)
            rw [nI_succ] at h9
            exact h9
        exact k74 (K 0 2) 0 σ5 (by omega) (fun z hz k hk => by rw [if_neg (by omega), fr5 145 (by omega), fr4 145 (by omega) (by omega)]; exact g2 z hz k hk) (fun _ _ => rfl)
  have k7 : ∀ m k (σ1 : am_Sg), k + m = 24 → (∀ z, z < k → σ1 145 z = 0) → σ1 116 39 = 0 → (∀ q, ¬ q = 116 → ¬ q = 145 → σ1 q = σ q) → (∀ i, ¬ i = 39 → σ1 116 i = σ 116 i) → Wb 7 [some (.ref 116), some (.int (nI k)), none, none] [] nf σ1 (tauY 0 lf) := by
    intro m
    induction m with
    | zero =>
      intro k σ1 hk g1 g2 g3 g4
      have hk : k = 24 := by omega
      subst hk
      have eO1 : σ1 116 7 = nI (K 0 2) := by rw [g4 7 (by omega)]; exact hR.2.2.1
      exact hs (fun p => Nat.beq p 33) 80 7 _ _ _ _ _ (vc_t (by decide) ⟨rfl, hn, lf, K 0 2, rfl, rfl, eO1, hO8, k33 (3 ^ K 0 2) 0 none σ1 (by omega) g2 (fun o ho k hk => g1 (3 * o + k) (by omega)) (fun w' hw' => absurd hw' (Nat.not_lt_zero w')) (fun q h1 h2 h3 h4 => g3 q h1 h4) g4⟩)
    | succ m ih =>
      intro k σ1 hk g1 g2 g3 g4
      have hck : (nI k).toNatClampNeg = k := nI_clamp (by omega)
      refine hs (fun p => Nat.beq p 7) 80 7 _ _ _ _ _ (vc_f (nI_ge (b := 24) (by omega) (by omega)) (And.intro (vin (show k < 24 by omega)) (fun σ2 e2 => ?_)))
      rw [hck] at e2
      have e2 : σ2 = am_up σ1 145 k 0 := e2
      have h9 := ih (k + 1) σ2 (by omega) (fun z hz => by
        by_cases e : z = k
        · rw [e, e2, up_at]
        · rw [e2, up_ne e]; exact g1 z (by omega)) (by rw [e2, up_rn (by omega)]; exact g2) (fun q h1 h2 => by rw [e2, am_up_ne h2]; exact g3 q h1 h2) (fun i hi => by rw [e2, up_rn (by omega)]; exact g4 i hi)
      rw [nI_succ] at h9
      exact h9
  refine hs (fun p => Nat.beq p 7) 80 0 _ _ _ _ _ (fun σ1 e1 => ?_)
  exact k7 24 0 σ1 rfl (fun z hz => absurd hz (Nat.not_lt_zero z)) (by rw [e1, up_at]) (fun q h1 _ => by rw [e1, am_up_ne h1]) (fun i hi => by rw [e1, up_ne hi]))
