theorem jj_t {J : Nat} (h : J ≤ 1000) : (nI J - 1).toInt = (J : Int) - 1 := nI_m1 (by omega)
theorem jj_n {J : Nat} : nI J - 1 + 1 = nI J := Int32.sub_add_cancel _ _
theorem jj_s {J : Nat} : nI (J + 1) - 1 = nI J := nI_pred J
def C_flowOf : am_C := fun av n σ τ nf P => nf = n ∧ 155 ≤ n ∧ ∃ (lf h c fm to Hn : Nat) (K Q : KT), τ = tauY 0 lf ∧ av = [.ref 43, .ref 1, .int (nI h), .int (nI c), .int (nI fm - 1), .int (nI to)] ∧ WfK K ∧ RepX σ 1 K ∧ WH K Q Hn ∧ RepH σ Q Hn ∧ c ≤ 9999 ∧ fm ≤ to ∧ to ≤ K 0 1 ∧ h < Hn ∧ fm ≤ Q 1 h + 1 ∧
  (h < Q 0 0 → Q 1 h < to → sq K fm c (Q 1 h + 1 - fm) = Q 4 h → P (some (.int (nI (Q 4 h)))) σ τ) ∧ (h < Q 0 0 → Q 1 h < to → ¬ sq K fm c (Q 1 h + 1 - fm) = Q 4 h → P (some (.int (-1))) σ τ) ∧ (h < Q 0 0 → to ≤ Q 1 h → P (some (.int (nI (sq K fm c (to + 1 - fm))))) σ τ) ∧
  (h = Q 0 0 → ∀ σ', (∀ j, fm ≤ j + 1 → j < to → σ' 103 j = nI (sq K fm c (j + 1 - fm))) → (∀ j, j + 1 < fm → σ' 103 j = σ 103 j) → (∀ q, ¬ q = 103 → σ' q = σ q) → P (some (.int (nI (sq K fm c (min (to + 1) (K 0 1) - fm))))) σ' τ)
set_option maxRecDepth 100000 in
theorem M_flowOf (d : Nat) : am_Met (d + 2) 611 C_flowOf := am_meth (own0 := "CanalEnd$Worlds") 611 (d + 1) 155 T_X6_flowOf (fun y => bif Nat.beq y 5 then C_seepOf else (am_no)) C_flowOf rfl F_X6_flowOf rfl (by decide +kernel) Tc_X6_flowOf (fun y => am_g (M_seepOf (d + 0)) (am_no_met)) (by
  intro av n σ τ nf P hnf hC
  obtain ⟨rfl, hn, lf, h, c, fm, to, Hn, K, Q, rfl, rfl, hW, hR, hH, hRH, hc, hft, htM, hh, hfh, p1, p2, p3, p4⟩ := hC
  refine ⟨hn, rfl, Nat.le_of_ble_eq_true rfl, fun Wb hs => ?_⟩
  have hM := hW.2.1
  obtain ⟨w1, w2⟩ := hH.le
  have hhR : h ≤ Q 0 0 := by
    have := hH.2.1
    omega
  have hch : (nI h).toNatClampNeg = h := nI_clamp (by omega)
  obtain ⟨b1, b2, b3, b4⟩ := hH.2.2 h hh
  obtain ⟨c1, c2, c3⟩ := hRH.2.2.1 h hh
  have vh := fun q (e : am_len q = 11) => vin (j := h) (q := q) (by omega)
  have sql := fun n => sq_le (K := K) (j := fm) (w := c) n
  have k7 : ∀ m J (σ1 : am_Sg), J + m = to + 1 → fm ≤ J → (∀ q, ¬ q = 103 → σ1 q = σ q) → (∀ j, j + 1 < fm → σ1 103 j = σ 103 j) → (h < Q 0 0 → σ1 = σ ∧ J ≤ Q 1 h + 1) → (h = Q 0 0 → ∀ j, fm ≤ j + 1 → j + 1 < J → σ1 103 j = nI (sq K fm c (j + 1 - fm))) → Wb 7 [some (.ref 43), some (.ref 1), some (.int (nI h)), some (.int (nI c)), some (.int (nI fm - 1)), some (.int (nI to)), some (.int (nI (sq K fm c (min J (K 0 1) - fm)))), some (.int (nI J - 1))] [] nf σ1 (tauY 0 lf) := by
    intro m
    induction m with
    | zero =>
      intro J σ1 hJ hfJ g1 g2 g3 g4
      have hJ : J = to + 1 := by omega
      subst hJ
      refine hs (fun p => Nat.beq p 7) 60 7 _ _ _ _ _ (vc_t (by rw [i_le, jj_t (by omega), nI_toInt (by omega)]; omega) (And.intro rfl ?_))
      by_cases e : h = Q 0 0
      · exact p4 e σ1 (fun j h1 h2 => g4 e j h1 (by omega)) g2 g1
      · obtain ⟨e1, e2⟩ := g3 (by omega)
        have h9 := p3 (by omega) (by omega)
        rw [e1, show min (to + 1) (K 0 1) = to + 1 by omega]
        exact h9
    | succ m ih =>
      intro J σ1 hJ hfJ g1 g2 g3 g4
      have hR1 : RepX σ1 1 K := hR.frame (fun q h1 h2 => g1 q (by omega))
      have eM : σ1 1 1 = nI (K 0 1) := hR1.1 1 (by omega)
      have e56 : σ1 56 h = nI (Q 1 h) := by rw [g1 56 (by omega)]; exact c3
      have e0 : σ1 43 0 = nI (Q 0 0) := by rw [g1 43 (by omega)]; exact hRH.1
      have mJ : min J (K 0 1) = J := by omega
      have sJ := sql (J - fm)
      rw [mJ]
      -- a step on, once gauge or reading are seen to
      have on : ∀ σ2 : am_Sg, (∀ q, ¬ q = 103 → σ2 q = σ q) → (∀ j, j + 1 < fm → σ2 103 j = σ 103 j) → (h < Q 0 0 → σ2 = σ ∧ J + 1 ≤ Q 1 h + 1) → (h = Q 0 0 → ∀ j, fm ≤ j + 1 → j + 1 < J + 1 → σ2 103 j = nI (sq K fm c (j + 1 - fm))) → Wb 68 [some (.ref 43), some (.ref 1), some (.int (nI h)), some (.int (nI c)), some (.int (nI fm - 1)), some (.int (nI to)), some (.int (nI (sq K fm c (J - fm)))), some (.int (nI J - 1))] [] nf σ2 (tauY 0 lf) := by
        intro σ2 x1 x2 x3 x4
        have hR2 : RepX σ2 1 K := hR.frame (fun q h1 h2 => x1 q (by omega))
        have eM2 : σ2 1 1 = nI (K 0 1) := hR2.1 1 (by omega)
        have h9 := ih (J + 1) σ2 (by omega) (by omega) x1 x2 x3 x4
        rw [jj_s] at h9
        refine hs (fun p => Nat.beq p 7) 60 68 _ _ _ _ _ (vc_if (fun q => ?_) (fun q => ⟨rfl, hn, 0, lf, 1, J, sq K fm c (J - fm), K, rfl, by rw [jj_n], by decide, hR2, hW, ?_, by omega, ?_⟩))
        · rw [eM2, jj_n] at q
          have q := (nI_leI (by omega) (by omega)).mp q
          rw [show min (J + 1) (K 0 1) = J by omega] at h9
          have h8 : Wb 7 [some (.ref 43), some (.ref 1), some (.int (nI h)), some (.int (nI c)), some (.int (nI fm - 1)), some (.int (nI to)), some (.int (nI (sq K fm c (J - fm)))), some (.int (nI J - 1 + 1))] [] nf σ2 (tauY 0 lf) := by rw [jj_n]; exact h9
          exact h8
        · rw [eM2, jj_n] at q
          by_cases q9 : J < K 0 1
          · exact q9
          · exact absurd (nI_le (by omega) (by omega)) q
        · have q : J < K 0 1 := by
            rw [eM2, jj_n] at q
            by_cases q9 : J < K 0 1
            · exact q9
            · exact absurd (nI_le (by omega) (by omega)) q
          have k1 := (hW.2.2.2.2.2.2.1 J q).1
          have es : nI (sq K fm c (J - fm)) - nI (s_sp K J (sq K fm c (J - fm))) = nI (sq K fm c (J + 1 - fm)) := by
            rw [pk_sub (s_sp_le k1), show J + 1 - fm = (J - fm) + 1 by omega]
            show _ = nI (sq K fm c (J - fm) - s_sp K (fm + (J - fm)) (sq K fm c (J - fm)))
            rw [show fm + (J - fm) = J by omega]
          rw [show min (J + 1) (K 0 1) = J + 1 by omega, ← es] at h9
          have h8 : Wb 7 [some (.ref 43), some (.ref 1), some (.int (nI h)), some (.int (nI c)), some (.int (nI fm - 1)), some (.int (nI to)), some (.int (nI (sq K fm c (J - fm)) - nI (s_sp K J (sq K fm c (J - fm))))), some (.int (nI J - 1 + 1))] [] nf σ2 (tauY 0 lf) := by rw [jj_n]; exact h9
          exact h8
      -- the reading of this hour
      have rd : h < Q 0 0 → σ1 = σ → J ≤ Q 1 h + 1 → am_if (nI J - 1 = σ1 56 h) (vp_in (nI h) (am_len 57) ∧ am_if (nI (sq K fm c (J - fm)) = σ1 57 (nI h).toNatClampNeg) (nf = nf ∧ P (some (.int (nI (sq K fm c (J - fm))))) σ1 (tauY 0 lf)) (nf = nf ∧ P (some (.int (-1))) σ1 (tauY 0 lf))) (Wb 68 [some (.ref 43), some (.ref 1), some (.int (nI h)), some (.int (nI c)), some (.int (nI fm - 1)), some (.int (nI to)), some (.int (nI (sq K fm c (J - fm)))), some (.int (nI J - 1))] [] nf σ1 (tauY 0 lf)) := by
        intro y1 y2 y3
        have e57 : σ1 57 h = nI (Q 4 h) := by rw [g1 57 (by omega)]; exact hRH.2.2.2 h y1
        have b44 := b4 y1
        refine vc_if (fun q => And.intro (vh 57 rfl) (vc_if (fun q2 => And.intro rfl ?_) (fun q2 => And.intro rfl ?_))) (fun q => on σ1 g1 g2 (fun _ => ⟨y2, ?_⟩) (fun e => absurd e (by omega)))
        · rw [e56] at q
          have eJ : J = Q 1 h + 1 := by
            have e := congrArg Int32.toInt q
            rw [jj_t (by omega), nI_toInt (by omega)] at e
            omega
          rw [hch, e57, eJ] at q2
          have q2 := nI_inj (by have := sql (Q 1 h + 1 - fm); omega) (by omega) q2
          rw [eJ, q2, y2]
          exact p1 y1 (by omega) q2
        · rw [e56] at q
          have eJ : J = Q 1 h + 1 := by
            have e := congrArg Int32.toInt q
            rw [jj_t (by omega), nI_toInt (by omega)] at e
            omega
          rw [hch, e57, eJ] at q2
          rw [y2]
          exact p2 y1 (by omega) (fun w => q2 (by rw [w]))
        · by_cases eJ : J = Q 1 h + 1
          · exfalso
            apply q
            rw [e56, eJ]
            exact nI_pred _
          · omega
      refine hs (fun p => Nat.beq p 68) 60 7 _ _ _ _ _ (vc_f (by rw [i_le, jj_t (by omega), nI_toInt (by omega)]; omega) (vc_if (fun q0 => And.intro (vh 56 rfl) ?_) (fun q0 => vc_if (fun q => ?_) (fun q => And.intro (vh 56 rfl) ?_))))
      · rw [hch]
        have J0 : J = 0 := by
          rw [i_lt, jj_t (by omega), Int32.toInt_zero] at q0
          omega
        by_cases e : h = Q 0 0
        · refine vc_f (fun w => ?_) (on σ1 g1 g2 (fun w => absurd w (by omega)) (fun _ j h1 h2 => absurd h2 (by omega)))
          rw [e56] at w
          have e9 := congrArg Int32.toInt w
          rw [jj_t (by omega), nI_toInt (by omega)] at e9
          omega
        · obtain ⟨y2, y3⟩ := g3 (by omega)
          exact rd (by omega) y2 y3
      · rw [e0] at q
        have e := nI_inj (by omega) (by omega) q
        have J1 : 1 ≤ J := by
          rw [i_lt, jj_t (by omega), Int32.toInt_zero] at q0
          omega
        have eJ : nI J - 1 = nI (J - 1) := pk_sub (b := 1) J1
        refine And.intro (by rw [eJ]; exact vin (show J - 1 < 10 by omega)) (fun σ2 e2 => ?_)
        rw [eJ, nI_clamp (by omega)] at e2
        have e2 : σ2 = am_up σ1 103 (J - 1) (nI (sq K fm c (J - fm))) := e2
        refine on σ2 (fun q hq => by rw [e2, am_up_ne hq]; exact g1 q hq) (fun j hj => by rw [e2, up_ne (by omega)]; exact g2 j hj) (fun w => absurd w (by omega)) (fun _ j h1 h2 => ?_)
        by_cases ej : j = J - 1
        · rw [ej, e2, up_at, show J - 1 + 1 = J by omega]
        · rw [e2, up_ne ej]
          exact g4 e j h1 (by omega)
      · rw [hch]
        have ne : ¬ h = Q 0 0 := fun w => q (by rw [e0, w])
        obtain ⟨y2, y3⟩ := g3 (by omega)
        exact rd (by omega) y2 y3
  have h9 := k7 (to + 1 - fm) fm σ (by omega) (Nat.le_refl _) (fun _ _ => rfl) (fun _ _ => rfl) (fun w => ⟨rfl, hfh⟩) (fun _ j h1 h2 => absurd h2 (by omega))
  have mf : min fm (K 0 1) = fm := by omega
  rw [mf, Nat.sub_self] at h9
  exact hs (fun p => Nat.beq p 7) 60 0 _ _ _ _ _ h9)
