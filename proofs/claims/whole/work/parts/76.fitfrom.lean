theorem fr_max {m : Nat} (h : m ≤ 1000) : (if nI m - 1 < 0 then (0 : Int32) else nI m - 1) = nI (m - 1) := by
  by_cases c : m = 0
  · subst c
    rw [if_pos (by decide)]
    rfl
  · have e : nI m - 1 = nI (m - 1) := pk_sub (b := 1) (by omega)
    rw [e, if_neg (nI_pos (by omega))]
theorem cGV {K Q : KT} {O x o j v : Nat} (g : Nat) (hg : ∀ y, s_in K (kdw (x + 3 ^ o * y)) (Q 3 (Q 0 0)) (Q 2 (Q 0 0)) (j + 1) = g) : cG O (pV K Q j v) x o = if v = g then cG O (fitQ K Q) x o else 0 := by
  by_cases e : v = g
  · rw [if_pos e]
    refine cG_c (fun y => ?_)
    unfold pV
    rw [hg y, e, beq_self_eq_true, Bool.and_true]
  · rw [if_neg e]
    refine cG_z (fun y => ?_)
    unfold pV
    rw [hg y, beq_eq_false_iff_ne.mpr (fun q => e q.symm), Bool.and_false]
set_option maxRecDepth 100000 in
theorem M_fitF : ∀ (r d : Nat), am_Met (d + (2 * r + 4)) 608 (C_fitF r)
  | 0, d => am_meth (own0 := "CanalEnd$Worlds") 608 (d + 3) 155 T_X6_fittingFrom (fun y => bif Nat.beq y 610 then C_flowsOn else (bif Nat.beq y 615 then C_noteG else (am_no))) (C_fitF 0) rfl F_X6_fittingFrom rfl (by decide +kernel) Tc_X6_fittingFrom (fun y => am_g (M_flowsOn (d + 0)) (am_g (M_noteG (d + 2)) (am_no_met))) (by
    intro av n σ τ nf P hnf hC
    obtain ⟨rfl, hn, lf, o, rr, w, x, Hn, K, Q, Ta, Le, rfl, rfl, hrr, hor, hx, hW, hH, hI, hrow, hlev, hps, hb1, hb2, hP⟩ := hC
    refine ⟨hn, rfl, Nat.le_of_ble_eq_true rfl, fun Wb hs => ?_⟩
    have hM := hW.2.1
    have hO8 := hW.2.2.1
    have hoO : o ≤ K 0 2 := by omega
    have ho : o = K 0 2 := by omega
    obtain ⟨w1, w2⟩ := hH.le
    have eOr : K 0 2 - o = 0 := by omega
    have tN : tom K o = K 0 1 := if_neg (by omega)
    have htl := tom_le hW o
    have hft := frm_tom hW hoO
    have hfM := frm_leM hW hoO
    have hco : (nI o).toNatClampNeg = o := nI_clamp (by omega)
    have cfl : cG (K 0 2) (fitQ K Q) x o ≤ 3 ^ 0 := by
      have := cG_le (O := K 0 2) (p := fitQ K Q) (x := x) (o := o)
      rw [eOr] at this
      exact this
    have t87 : ∀ (σ2 : am_Sg) (Le2 : Nat → Nat → Nat), okFl K Q x o → FitI σ2 nf lf K Q Hn (taF K Q w x o Ta) Le2 → (∀ j, j < K 0 1 → ∀ v, v ≤ Q 2 (Q 0 0) → Le2 j v = Le j v) → FrW o σ σ2 → (∀ j, j + 1 < frm K o → σ2 103 j = σ 103 j) → (Hn = Q 0 0 + 1 → GgC σ2 K Q x o) → Wb 87 [some (.ref 43), some (.ref 1), some (.int (nI o)), some (.ref rr), some (.int (nI w)), some (.int (nI (frm K o) - 1)), some (.int (nI (tom K o))), some (.int (nI (cG (K 0 2) (fitQ K Q) x o)))] [] nf σ2 (tauY 0 lf) := by
      intro σ2 Le2 hok y1 y2 y3 y4 y5
      have e5 : σ2 43 5 = nI Hn := y1.2.1.2.1
      have e0 : σ2 43 0 = nI (Q 0 0) := y1.2.1.1
      have vw : ∀ j, j < K 0 1 → frm K o ≤ j + 1 → j < tom K o → ∀ y, s_in K (kdw (x + 3 ^ o * y)) (Q 3 (Q 0 0)) (Q 2 (Q 0 0)) (j + 1) = sq K (frm K o) (cs K Q x o (Q 0 0)).1 (j + 1 - frm K o) := fun j hj h1 h2 y => here_v hW hoO hj h1 (fun q => by unfold tom at h2; rw [if_pos q] at h2; omega) (kd' := kdw x) (fun z hz => kdw_pre hz)
      rcases hH.2.1 with hg | ⟨hg, hg2⟩
      · exact hs (fun _ => false) 60 87 _ _ _ _ _ (vc_t (by rw [e5, e0, hg]; exact nI_le (Nat.le_refl _) (by omega)) (And.intro rfl (hP σ2 ⟨y1.1, y1.2.1, y1.2.2.1, fun q => absurd q (by omega)⟩ y3 y4)))
      · obtain ⟨u1, u2, u3⟩ := y1.2.2.2 hg
        have gg := y5 hg
        obtain ⟨b1, b2, b3, _⟩ := hH.2.2 (Q 0 0) (by omega)
        have gl : ∀ j, sq K (frm K o) (cs K Q x o (Q 0 0)).1 (j + 1 - frm K o) ≤ Q 2 (Q 0 0) := fun j => Nat.le_trans (sq_le _) (cst_le _)
        have mo : cG (K 0 2) (fitQ K Q) x o * w ≤ 6561 := by
          have := Nat.mul_le_mul_right w cfl
          rw [Nat.mul_comm (3 ^ _) w] at this
          omega
        refine hs (fun _ => false) 60 87 _ _ _ _ _ (vc_f (by rw [e5, e0, hg]; exact nI_ge (by omega) (by omega)) ⟨rfl, u1, frm K o - 1, tom K o, cG (K 0 2) (fitQ K Q) x o * w, Q 2 (Q 0 0), K 0 1, Le2, fun j => sq K (frm K o) (cs K Q x o (Q 0 0)).1 (j + 1 - frm K o), by rw [u2], by rw [fr_max (by omega), pk_mul], by omega, htl, hM, b2, mo, fun j h1 h2 => ⟨gg j (by omega) h2, gl j⟩, fun j hj v hv => ?_, u3, fun σ3 z1 z2 => And.intro rfl ?_⟩)
        · rw [y2 j hj v hv]
          have b9 := hb2 j v
          omega
        · refine hP σ3 ⟨y1.1.frame (fun q h1 h2 => z2 q (by omega) (by omega)), y1.2.1.fr (fun q hq => z2 q (by omega) (by omega)), fun z hz k hk => by rw [z2 (45 + z) (by omega) (by omega)]; exact y1.2.2.1 z hz k hk, fun _ => ⟨u1, u2, ?_⟩⟩ (fun q x1 x2 x3 x4 x5 => by rw [z2 q (by omega) x5, y3 q x1 x2 x3 x4 x5]) (fun j hj => by rw [z2 103 (by omega) (by omega), y4 j hj])
          have eq : ∀ j v, j < K 0 1 → v ≤ Q 2 (Q 0 0) → addL Le2 (fun j => sq K (frm K o) (cs K Q x o (Q 0 0)).1 (j + 1 - frm K o)) (frm K o - 1) (tom K o) (cG (K 0 2) (fitQ K Q) x o * w) j v = leF K Q w x o Le j v := fun j v hj hv => by
            unfold addL leF
            rw [y2 j hj v hv]
            by_cases c1 : frm K o ≤ j + 1
            · by_cases c2 : j < tom K o
              · have cv := cGV (O := K 0 2) (v := v) _ (vw j hj c1 c2)
                rw [if_pos c1, cv]
                by_cases c3 : v = sq K (frm K o) (cs K Q x o (Q 0 0)).1 (j + 1 - frm K o)
                · rw [if_pos c3, if_pos ⟨by omega, c2, c3⟩, Nat.mul_comm]
                · rw [if_neg c3, if_neg (fun q => c3 q.2.2), Nat.mul_zero]
              · exact absurd (show j < tom K o by omega) c2
            · rw [if_neg (show ¬ (frm K o - 1 ≤ j ∧ j < tom K o ∧ v = sq K (frm K o) (cs K Q x o (Q 0 0)).1 (j + 1 - frm K o)) from fun q => c1 (by have := q.1; omega)), if_neg c1]
          exact ⟨fun j hj v hv => by rw [z1.1 j hj v hv, eq j v hj hv], fun j hj => by rw [z1.2 j hj]; exact congrArg nI (mxV_c _ (fun v hv => eq j v hj (by omega)))⟩
    have t49 : Wb 49 [some (.ref 43), some (.ref 1), some (.int (nI o)), some (.ref rr), some (.int (nI w)), some (.int (nI (frm K o) - 1)), some (.int (nI (tom K o))), none] [] nf σ (tauY 0 lf) := by
      refine hs (fun p => Nat.beq p 87) 80 49 _ _ _ _ _ ⟨rfl, hn, lf, o, rr, x, Hn, K, Q, rfl, rfl, hrr, hoO, hW, hI.1, hH, hI.2.1, hrow, hlev, fun hok σ1 a1 a2 a3 a4 => vc_f (by decide) ?_, fun hok σ1 a3 a4 => vc_t rfl (And.intro rfl ?_)⟩
      · have f1 : FitI σ1 nf lf K Q Hn Ta Le := hI.fr hO8 hM (fun q hq => a4 q (by omega) (by omega) (by omega))
        have eO1 : σ1 1 2 = nI (K 0 2) := f1.1.1 2 (by omega)
        have cf : cG (K 0 2) (fitQ K Q) x o = 1 := by
          rw [ho, cG_end, if_pos]
          rw [ho] at hps hok
          exact fit_end hW hH hps hok
        have h9 := t87 σ1 Le hok (f1.c (fun z hz k hk => by unfold taF; rw [if_neg (by omega), Nat.add_zero]) (fun _ _ _ _ => rfl)) (fun _ _ _ _ => rfl) (fun q x1 x2 x3 x4 x5 => a4 q (by omega) (by omega) (by omega)) a3 a2
        rw [cf] at h9
        exact vc_t (by rw [eO1]; exact nI_le (by omega) (by omega)) h9
      · have z : ∀ p : Nat → Bool, (∀ y, p y = true → fitQ K Q y = true) → cG (K 0 2) p x o = 0 := fun p hp => cG_z (fun y => by
          cases e : p (x + 3 ^ o * y) with
          | false => rfl
          | true =>
            have := hp _ e
            rw [fit_no hW hH hoO hok] at this
            exact absurd this Bool.false_ne_true)
        have f1 : FitI σ1 nf lf K Q Hn Ta Le := hI.fr hO8 hM (fun q hq => a4 q (by omega) (by omega) (by omega))
        have h9 := hP σ1 (f1.c (fun z9 hz9 k hk => by
          unfold taF
          rw [z (pT K Q z9 k) (fun y hy => by unfold pT at hy; exact ((Bool.and_eq_true _ _).mp hy).1), Nat.mul_zero]
          split <;> rfl) (fun j hj v hv => by
          unfold leF
          rw [z (pV K Q j v) (fun y hy => by unfold pV at hy; exact ((Bool.and_eq_true _ _).mp hy).1), Nat.mul_zero]
          split <;> rfl)) (fun q x1 x2 x3 x4 x5 => a4 q (by omega) (by omega) (by omega)) a3
        rw [z (fitQ K Q) (fun _ h => h)] at h9
        exact h9
    have eO : σ 1 2 = nI (K 0 2) := hI.1.1 2 (by omega)
    have eM : σ 1 1 = nI (K 0 1) := hI.1.1 1 (by omega)
    have t26 : Wb 26 [some (.ref 43), some (.ref 1), some (.int (nI o)), some (.ref rr), some (.int (nI w)), some (.int (nI (frm K o) - 1)), none, none] [] nf σ (tauY 0 lf) := by
      rw [tN, ← eM] at t49
      exact hs (fun p => Nat.beq p 49) 80 26 _ _ _ _ _ (vc_t (by rw [eO]; exact nI_le (by omega) (by omega)) t49)
    refine hs (fun p => Nat.beq p 26) 80 0 _ _ _ _ _ (vc_t (nI_le (b := 8) (by omega) (by omega)) (vc_if (fun c => ?_) (fun c => And.intro ?_ ?_)))
    · have c : o = 0 := nI_inj (b := 0) (by omega) (by omega) c
      have e : nI (frm K o) - 1 = -1 := by rw [c]; rfl
      rw [e] at t26
      exact t26
    · have c : ¬ o = 0 := fun q => c (by rw [q]; rfl)
      rw [show nI o - 1 = nI (o - 1) from pk_sub (b := 1) (by omega)]
      exact vin (show o - 1 < 8 by omega)
    · have c : ¬ o = 0 := fun q => c (by rw [q]; rfl)
      have e : nI (frm K o) - 1 = σ 6 (nI o - 1).toNatClampNeg := by
        rw [show nI o - 1 = nI (o - 1) from pk_sub (b := 1) (by omega), nI_clamp (by omega)]
        unfold frm
        rw [if_neg c, nI_pred]
        exact (hI.1.2.2 0 (by omega) (o - 1) (by omega)).symm
      rw [e] at t26
      exact t26)
  | r + 1, d => am_meth (own0 := "CanalEnd$Worlds") 608 (d + (2 * r + 5)) 155 T_X6_fittingFrom (fun y => bif Nat.beq y 610 then C_flowsOn else (bif Nat.beq y 615 then C_noteG else (bif Nat.beq y 609 then C_byK r else (am_no)))) (C_fitF (r + 1)) rfl F_X6_fittingFrom rfl (by decide +kernel) Tc_X6_fittingFrom (fun y => am_g (M_flowsOn (d + (2 * r + 2))) (am_g (M_noteG (d + (2 * r + 4))) (am_g (M_byKof r d (M_fitF r d)) (am_no_met)))) (by
    intro av n σ τ nf P hnf hC
    obtain ⟨rfl, hn, lf, o, rr, w, x, Hn, K, Q, Ta, Le, rfl, rfl, hrr, hor, hx, hW, hH, hI, hrow, hlev, hps, hb1, hb2, hP⟩ := hC
    refine ⟨hn, rfl, Nat.le_of_ble_eq_true rfl, fun Wb hs => ?_⟩
    have hM := hW.2.1
    have hO8 := hW.2.2.1
    have hoO : o ≤ K 0 2 := by omega
    have ho : o < K 0 2 := by omega
    obtain ⟨w1, w2⟩ := hH.le
    have eOr : K 0 2 - o = (r + 1) := by omega
    have tN : tom K o = K 5 o := if_pos ho
    have htl := tom_le hW o
    have hft := frm_tom hW hoO
    have hfM := frm_leM hW hoO
    have hco : (nI o).toNatClampNeg = o := nI_clamp (by omega)
    have cfl : cG (K 0 2) (fitQ K Q) x o ≤ 3 ^ (r + 1) := by
      have := cG_le (O := K 0 2) (p := fitQ K Q) (x := x) (o := o)
      rw [eOr] at this
      exact this
    have t87 : ∀ (σ2 : am_Sg) (Le2 : Nat → Nat → Nat), okFl K Q x o → FitI σ2 nf lf K Q Hn (taF K Q w x o Ta) Le2 → (∀ j, j < K 0 1 → ∀ v, v ≤ Q 2 (Q 0 0) → Le2 j v = leK K Q w x o Le j v) → FrW o σ σ2 → (∀ j, j + 1 < frm K o → σ2 103 j = σ 103 j) → (Hn = Q 0 0 + 1 → GgC σ2 K Q x o) → Wb 87 [some (.ref 43), some (.ref 1), some (.int (nI o)), some (.ref rr), some (.int (nI w)), some (.int (nI (frm K o) - 1)), some (.int (nI (tom K o))), some (.int (nI (cG (K 0 2) (fitQ K Q) x o)))] [] nf σ2 (tauY 0 lf) := by
      intro σ2 Le2 hok y1 y2 y3 y4 y5
      have e5 : σ2 43 5 = nI Hn := y1.2.1.2.1
      have e0 : σ2 43 0 = nI (Q 0 0) := y1.2.1.1
      have vw : ∀ j, j < K 0 1 → frm K o ≤ j + 1 → j < tom K o → ∀ y, s_in K (kdw (x + 3 ^ o * y)) (Q 3 (Q 0 0)) (Q 2 (Q 0 0)) (j + 1) = sq K (frm K o) (cs K Q x o (Q 0 0)).1 (j + 1 - frm K o) := fun j hj h1 h2 y => here_v hW hoO hj h1 (fun q => by unfold tom at h2; rw [if_pos q] at h2; omega) (kd' := kdw x) (fun z hz => kdw_pre hz)
      rcases hH.2.1 with hg | ⟨hg, hg2⟩
      · exact hs (fun _ => false) 60 87 _ _ _ _ _ (vc_t (by rw [e5, e0, hg]; exact nI_le (Nat.le_refl _) (by omega)) (And.intro rfl (hP σ2 ⟨y1.1, y1.2.1, y1.2.2.1, fun q => absurd q (by omega)⟩ y3 y4)))
      · obtain ⟨u1, u2, u3⟩ := y1.2.2.2 hg
        have gg := y5 hg
        obtain ⟨b1, b2, b3, _⟩ := hH.2.2 (Q 0 0) (by omega)
        have gl : ∀ j, sq K (frm K o) (cs K Q x o (Q 0 0)).1 (j + 1 - frm K o) ≤ Q 2 (Q 0 0) := fun j => Nat.le_trans (sq_le _) (cst_le _)
        have mo : cG (K 0 2) (fitQ K Q) x o * w ≤ 6561 := by
          have := Nat.mul_le_mul_right w cfl
          rw [Nat.mul_comm (3 ^ _) w] at this
          omega
        refine hs (fun _ => false) 60 87 _ _ _ _ _ (vc_f (by rw [e5, e0, hg]; exact nI_ge (by omega) (by omega)) ⟨rfl, u1, frm K o - 1, tom K o, cG (K 0 2) (fitQ K Q) x o * w, Q 2 (Q 0 0), K 0 1, Le2, fun j => sq K (frm K o) (cs K Q x o (Q 0 0)).1 (j + 1 - frm K o), by rw [u2], by rw [fr_max (by omega), pk_mul], by omega, htl, hM, b2, mo, fun j h1 h2 => ⟨gg j (by omega) h2, gl j⟩, fun j hj v hv => ?_, u3, fun σ3 z1 z2 => And.intro rfl ?_⟩)
        · rw [y2 j hj v hv]
          have b9 := hb2 j v
          have c9 := cG_le (O := K 0 2) (p := pV K Q j v) (x := x) (o := o)
          rw [eOr] at c9
          have m9 := Nat.mul_le_mul_left w c9
          unfold leK
          split <;> omega
        · refine hP σ3 ⟨y1.1.frame (fun q h1 h2 => z2 q (by omega) (by omega)), y1.2.1.fr (fun q hq => z2 q (by omega) (by omega)), fun z hz k hk => by rw [z2 (45 + z) (by omega) (by omega)]; exact y1.2.2.1 z hz k hk, fun _ => ⟨u1, u2, ?_⟩⟩ (fun q x1 x2 x3 x4 x5 => by rw [z2 q (by omega) x5, y3 q x1 x2 x3 x4 x5]) (fun j hj => by rw [z2 103 (by omega) (by omega), y4 j hj])
          have eq : ∀ j v, j < K 0 1 → v ≤ Q 2 (Q 0 0) → addL Le2 (fun j => sq K (frm K o) (cs K Q x o (Q 0 0)).1 (j + 1 - frm K o)) (frm K o - 1) (tom K o) (cG (K 0 2) (fitQ K Q) x o * w) j v = leF K Q w x o Le j v := fun j v hj hv => by
            unfold addL leF
            rw [y2 j hj v hv]
            by_cases c1 : frm K o ≤ j + 1
            · by_cases c2 : j < tom K o
              · have cv := cGV (O := K 0 2) (v := v) _ (vw j hj c1 c2)
                rw [if_pos c1, cv]
                unfold leK
                rw [if_neg (show ¬ K 5 o ≤ j by omega), Nat.add_zero]
                by_cases c3 : v = sq K (frm K o) (cs K Q x o (Q 0 0)).1 (j + 1 - frm K o)
                · rw [if_pos c3, if_pos ⟨by omega, c2, c3⟩, Nat.mul_comm]
                · rw [if_neg c3, if_neg (fun q => c3 q.2.2), Nat.mul_zero]
              · unfold leK
                rw [if_pos (show K 5 o ≤ j by omega), if_neg (show ¬ (frm K o - 1 ≤ j ∧ j < tom K o ∧ v = sq K (frm K o) (cs K Q x o (Q 0 0)).1 (j + 1 - frm K o)) from fun q => c2 q.2.1), if_pos c1, Nat.add_zero]
            · rw [if_neg (show ¬ (frm K o - 1 ≤ j ∧ j < tom K o ∧ v = sq K (frm K o) (cs K Q x o (Q 0 0)).1 (j + 1 - frm K o)) from fun q => c1 (by have := q.1; omega)), if_neg c1]
              unfold leK
              rw [if_neg (show ¬ K 5 o ≤ j by omega)]
          exact ⟨fun j hj v hv => by rw [z1.1 j hj v hv, eq j v hj hv], fun j hj => by rw [z1.2 j hj]; exact congrArg nI (mxV_c _ (fun v hv => eq j v hj (by omega)))⟩
    have t49 : Wb 49 [some (.ref 43), some (.ref 1), some (.int (nI o)), some (.ref rr), some (.int (nI w)), some (.int (nI (frm K o) - 1)), some (.int (nI (tom K o))), none] [] nf σ (tauY 0 lf) := by
      refine hs (fun p => Nat.beq p 87) 80 49 _ _ _ _ _ ⟨rfl, hn, lf, o, rr, x, Hn, K, Q, rfl, rfl, hrr, hoO, hW, hI.1, hH, hI.2.1, hrow, hlev, fun hok σ1 a1 a2 a3 a4 => vc_f (by decide) ?_, fun hok σ1 a3 a4 => vc_t rfl (And.intro rfl ?_)⟩
      · have f1 : FitI σ1 nf lf K Q Hn Ta Le := hI.fr hO8 hM (fun q hq => a4 q (by omega) (by omega) (by omega))
        have eO1 : σ1 1 2 = nI (K 0 2) := f1.1.1 2 (by omega)
        refine vc_f (by rw [eO1]; exact nI_ge (by omega) (by omega)) ⟨rfl, hn, lf, o, w, x, Hn, K, Q, Ta, Le, rfl, rfl, hor, hx, hW, hH, f1, a1, fun k hk h5 => ?_, hb1, hb2, fun σ2 b1 b2 b3 => ?_⟩
        · have bk := (hH.2.2 k (by omega)).1
          by_cases c : Q 1 k + 1 < frm K o
          · exact hps k hk c
          · rw [here_v hW hoO bk (by omega) (fun _ => by omega) (kd' := kdw x) (fun _ _ => rfl)]
            exact hok k hk (by omega) (by omega)
        · refine t87 σ2 (leK K Q w x o Le) hok b1 (fun _ _ _ _ => rfl) (fun q x1 x2 x3 x4 x5 => by rw [b2 q x1 (by omega) (by omega) x4 x5, a4 q (by omega) (by omega) (by omega)]) (fun j hj => by rw [b3 j (by omega), a3 j hj]) (fun hg j h1 h2 => by rw [b3 j (by omega)]; exact a2 hg j h1 h2)
      · have z : ∀ p : Nat → Bool, (∀ y, p y = true → fitQ K Q y = true) → cG (K 0 2) p x o = 0 := fun p hp => cG_z (fun y => by
          cases e : p (x + 3 ^ o * y) with
          | false => rfl
          | true =>
            have := hp _ e
            rw [fit_no hW hH hoO hok] at this
            exact absurd this Bool.false_ne_true)
        have f1 : FitI σ1 nf lf K Q Hn Ta Le := hI.fr hO8 hM (fun q hq => a4 q (by omega) (by omega) (by omega))
        have h9 := hP σ1 (f1.c (fun z9 hz9 k hk => by
          unfold taF
          rw [z (pT K Q z9 k) (fun y hy => by unfold pT at hy; exact ((Bool.and_eq_true _ _).mp hy).1), Nat.mul_zero]
          split <;> rfl) (fun j hj v hv => by
          unfold leF
          rw [z (pV K Q j v) (fun y hy => by unfold pV at hy; exact ((Bool.and_eq_true _ _).mp hy).1), Nat.mul_zero]
          split <;> rfl)) (fun q x1 x2 x3 x4 x5 => a4 q (by omega) (by omega) (by omega)) a3
        rw [z (fitQ K Q) (fun _ h => h)] at h9
        exact h9
    have eO : σ 1 2 = nI (K 0 2) := hI.1.1 2 (by omega)
    have eM : σ 1 1 = nI (K 0 1) := hI.1.1 1 (by omega)
    have t26 : Wb 26 [some (.ref 43), some (.ref 1), some (.int (nI o)), some (.ref rr), some (.int (nI w)), some (.int (nI (frm K o) - 1)), none, none] [] nf σ (tauY 0 lf) := by
      have e6 : σ 6 o = nI (K 5 o) := hI.1.2.2 0 (by omega) o ho
      rw [tN, ← e6, ← show σ 6 (nI o).toNatClampNeg = σ 6 o by rw [hco]] at t49
      exact hs (fun p => Nat.beq p 49) 80 26 _ _ _ _ _ (vc_f (by rw [eO]; exact nI_ge (by omega) (by omega)) (And.intro (vin (show o < 8 by omega)) t49))
    refine hs (fun p => Nat.beq p 26) 80 0 _ _ _ _ _ (vc_t (nI_le (b := 8) (by omega) (by omega)) (vc_if (fun c => ?_) (fun c => And.intro ?_ ?_)))
    · have c : o = 0 := nI_inj (b := 0) (by omega) (by omega) c
      have e : nI (frm K o) - 1 = -1 := by rw [c]; rfl
      rw [e] at t26
      exact t26
    · have c : ¬ o = 0 := fun q => c (by rw [q]; rfl)
      rw [show nI o - 1 = nI (o - 1) from pk_sub (b := 1) (by omega)]
      exact vin (show o - 1 < 8 by omega)
    · have c : ¬ o = 0 := fun q => c (by rw [q]; rfl)
      have e : nI (frm K o) - 1 = σ 6 (nI o - 1).toNatClampNeg := by
        rw [show nI o - 1 = nI (o - 1) from pk_sub (b := 1) (by omega), nI_clamp (by omega)]
        unfold frm
        rw [if_neg c, nI_pred]
        exact (hI.1.2.2 0 (by omega) (o - 1) (by omega)).symm
      rw [e] at t26
      exact t26)
