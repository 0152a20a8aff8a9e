abbrev okG (g w f : Int32) : Prop := (1 ≤ g.toInt ∧ g.toInt ≤ 3) ∧ (1 ≤ w.toInt ∧ w.toInt ≤ 99) ∧ inN f 10000
theorem g_iff {v : Int32} : ((1 : Int32) ≤ v ∧ v ≤ 3) ↔ (1 ≤ v.toInt ∧ v.toInt ≤ 3) := by
  rw [i_le, i_le]
  exact Iff.rfl
theorem fn_iff {v : Int32} : ((1 : Int32) ≤ v ∧ v ≤ 99) ↔ (1 ≤ v.toInt ∧ v.toInt ≤ 99) := by
  rw [i_le, i_le]
  exact Iff.rfl
theorem pos_ex {v : Int32} {N : Nat} (h : 1 ≤ v.toInt ∧ v.toInt ≤ (N : Int)) : ∃ i, 1 ≤ i ∧ i ≤ N ∧ v = nI i := by
  have hb := Int32.toInt_lt v
  refine ⟨v.toInt.toNat, by omega, by omega, ?_⟩
  rw [fa_eq', nI_toInt (by omega)]
  omega
def kW (K : KT) (f w : Nat) : Nat → Nat := fun o => od (tmp K o f) w
def f_kept (g w f : Int32) (s : ST) : Value × ST := (.int (if okG g w f then nI (kpt (kW s.1 f.toNatClampNeg w.toNatClampNeg) (1000000 * g.toNatClampNeg) (s.1 0 2) (s.1 0 2) 0 0) else -2), s)
def C_xkept : am_C := fun av n σ τ nf P => ∃ (g : Int32) (w : Int32) (f : Int32), pubX [.int g, .int w, .int f] (f_kept g w f) av n σ τ nf P
set_option maxRecDepth 100000 in
theorem M_xkept (d : Nat) : am_Met (d + 5) 728 C_xkept := am_meth (own0 := "CanalEnd") 728 (d + 4) 155 T_X7_kept (fun y => bif Nat.beq y 740 then C_isIn else (bif Nat.beq y 741 then C_isWater else (bif Nat.beq y 757 then C_tempt else (bif Nat.beq y 758 then C_oddsOf else (bif Nat.beq y 759 then C_leastO else (am_no)))))) C_xkept rfl F_X7_kept rfl (by decide +kernel) Tc_X7_kept (fun y => am_g (M_isIn (d + 3)) (am_g (M_isWater (d + 2)) (am_g (M_tempt (d + 0)) (am_g (M_oddsOf (d + 3)) (am_g (M_leastO (d + 3)) (am_no_met)))))) (by
  intro av n σ τ nf P hnf hC
  obtain ⟨g, w, f, rfl, lf, ⟨K, Q, S, Ce, fl, tr⟩, rfl, hI, rfl, hP⟩ := hC
  have hn := Nlf_le hI.2.2.2.2.2.2.2.2.2
  refine ⟨hn, rfl, Nat.le_of_ble_eq_true rfl, fun Wb hs => ?_⟩
  have hI : InvX σ nf lf K Q S Ce fl tr := hI
  have hK := hI.1
  have hR := hI.2.1
  have hM10 := hK.2.1
  have hO8 := hK.2.2.1
  have eM : σ 1 1 = nI (K 0 1) := hR.1 1 (by omega)
  have eO : σ 1 2 = nI (K 0 2) := hR.1 2 (by omega)
  have fin : ∀ r9 : Int32, (f_kept g w f (K, Q, S, Ce, fl, tr)).2 = (K, Q, S, Ce, fl, tr) → (f_kept g w f (K, Q, S, Ce, fl, tr)).1 = .int r9 → P (some (.int r9)) σ (tauY 0 lf) := fun r9 e1 e2 => p_eqv e2 (hP σ (by rw [e1]; exact hI) (fun _ _ => fun _ => rfl))
  have fin2 : ∀ (v9 : Value) (K9 Q9 S9 : KT) (Ce9 : Nat → Nat → Int32) (fl9 : Nat) (tr9 : Int32) (σ9 : am_Sg), f_kept g w f (K, Q, S, Ce, fl, tr) = (v9, (K9, Q9, S9, Ce9, fl9, tr9)) → InvX σ9 nf lf K9 Q9 S9 Ce9 fl9 tr9 → FrX σ σ9 → P (some v9) σ9 (tauY 0 lf) := fun v9 K9 Q9 S9 Ce9 fl9 tr9 σ9 e h1 h2 => by have := hP σ9 (by rw [e]; exact h1) h2; rw [e] at this; exact this
  refine hs (fun p => Nat.beq p 32) 60 0 _ _ _ _ _ ⟨rfl, g, 1, 3, rfl, fun g1 => vc_f (by decide) ⟨rfl, w, 1, 99, rfl, fun g2 => vc_f (by decide) ⟨rfl, f, rfl, fun g3 => vc_f (by decide) ?_, fun g3 => vc_t rfl (And.intro rfl (fin _ rfl (congrArg Value.int (by rw [if_neg (fun q => g3 q.2.2)]))))⟩, fun g2 => vc_t rfl (And.intro rfl (fin _ rfl (congrArg Value.int (by rw [if_neg (fun q => g2 (fn_iff.mpr q.2.1))]))))⟩, fun g1 => vc_t rfl (And.intro rfl (fin _ rfl (congrArg Value.int (by rw [if_neg (fun q => g1 (g_iff.mpr q.1))]))))⟩
  have gk : okG g w f := ⟨g_iff.mp g1, fn_iff.mp g2, g3⟩
  obtain ⟨G, hG1, hG3, rfl⟩ := pos_ex (N := 3) gk.1
  obtain ⟨v, hv1, hv9, rfl⟩ := pos_ex (N := 99) gk.2.1
  obtain ⟨u, hu, rfl⟩ := inN_ex g3
  have hcG : (nI G).toNatClampNeg = G := nI_clamp (by omega)
  have hcv : (nI v).toNatClampNeg = v := nI_clamp (by omega)
  have hcu : (nI u).toNatClampNeg = u := nI_clamp (by omega)
  have hWl : ∀ o, kW K u v o ≤ 1000000 := fun o => od_le hv1
  have ret : ∀ (σ1 : am_Sg) (s : Nat), InvX σ1 nf lf K Q S Ce fl tr → FrX σ σ1 → s = kpt (kW K u v) (1000000 * G) (K 0 2) (K 0 2) 0 0 → P (some (.int (nI s))) σ1 (tauY 0 lf) := fun σ1 s h1 h2 e => fin2 _ K Q S Ce fl tr σ1 (by unfold f_kept; rw [if_pos gk, hcG, hcv, hcu, e]) h1 h2
  have k81 : ∀ r m s a (x7 : Option Value) (σ1 : am_Sg), m + r = K 0 2 → bcn s = m → s < 256 → a ≤ 1000000 * G → InvX σ1 nf lf K Q S Ce fl tr → FrX σ σ1 → (∀ o, o < K 0 2 → σ1 107 o = nI (kW K u v o)) → kpt (kW K u v) (1000000 * G) (K 0 2) r s a = kpt (kW K u v) (1000000 * G) (K 0 2) (K 0 2) 0 0 → Wb 81 [some (.ref 0), some (.int (nI G)), some (.int (nI v)), some (.int (nI u)), some (.int (nI s)), some (.int (nI (1000000 * G - a))), some (.int (nI m)), x7] [] nf σ1 (tauY 0 lf) := by
    intro r
    induction r with
    | zero =>
      intro m s a x7 σ1 hm hb1 hs8 ha h1 h2 h3 hk
      have eO1 : σ1 1 2 = nI (K 0 2) := h1.2.1.1 2 (by omega)
      exact hs (fun p => Nat.beq p 81) 60 81 _ _ _ _ _ (vc_t (by rw [eO1]; exact nI_le (by omega) (by omega)) (And.intro rfl (ret σ1 s h1 h2 hk)))
    | succ r ih =>
      intro m s a x7 σ1 hm hb1 hs8 ha h1 h2 h3 hk
      have eO1 : σ1 1 2 = nI (K 0 2) := h1.2.1.1 2 (by omega)
      obtain ⟨t, et, htO, ht0⟩ := lso_ok (W := kW K u v) (s := s) (O := K 0 2) hs8 (by omega) (by omega)
      have hct : (nI t).toNatClampNeg = t := nI_clamp (by omega)
      have hWt := hWl t
      refine hs (fun p => Nat.beq p 81) 60 81 _ _ _ _ _ (vc_f (by rw [eO1]; exact nI_ge (by omega) (by omega)) ⟨rfl, hn, lf, s, K 0 2, kW K u v, rfl, rfl, hs8, hO8, eO1, fun o ho => ⟨h3 o ho, hWl o⟩, ?_⟩)
      rw [et]
      refine vc_f (nI_n9 t (by omega)) (And.intro (vin (show t < 8 by omega)) (vc_if (fun q => And.intro (vin (show t < 8 by omega)) ?_) (fun q => And.intro rfl ?_)))
      · have q : σ1 107 (nI t).toNatClampNeg ≤ nI (1000000 * G - a) := q
        rw [hct, h3 t htO] at q
        have q := (nI_leI (by omega) (by omega)).mp q
        obtain ⟨b1, b2, b3⟩ := hb_add s hs8 t (by omega) ht0
        have h9 := ih (m + 1) (s + 2 ^ t) (a + kW K u v t) (some (.int (nI t))) σ1 (by omega) (by omega) b2 (by omega) h1 h2 h3 (by rw [← hk, kpt_y et (by omega)])
        rw [← b3, show 1000000 * G - (a + kW K u v t) = 1000000 * G - a - kW K u v t by omega, ← pk_sub q, ← h3 t htO, ← show σ1 107 (nI t).toNatClampNeg = σ1 107 t by rw [hct], nI_succ] at h9
        exact h9
      · have q : ¬ σ1 107 (nI t).toNatClampNeg ≤ nI (1000000 * G - a) := q
        rw [hct, h3 t htO] at q
        have q : ¬ kW K u v t ≤ 1000000 * G - a := fun w => q (nI_le w (by omega))
        exact ret σ1 s h1 h2 (by rw [← hk, kpt_n et (by omega)])
  have k32 : ∀ r o (σ1 : am_Sg), o + r = K 0 2 → InvX σ1 nf lf K Q S Ce fl tr → FrX σ σ1 → (∀ z, z < o → σ1 107 z = nI (kW K u v z)) → Wb 32 [some (.ref 0), some (.int (nI G)), some (.int (nI v)), some (.int (nI u)), some (.int (nI o)), none, none, none] [] nf σ1 (tauY 0 lf) := by
    intro r
    induction r with
    | zero =>
      intro o σ1 ho h1 h2 h3
      have ho : o = K 0 2 := by omega
      subst ho
      have eO1 : σ1 1 2 = nI (K 0 2) := h1.2.1.1 2 (by omega)
      have h9 := k81 (K 0 2) 0 0 0 none σ1 (by omega) rfl (by omega) (by omega) h1 h2 h3 rfl
      rw [show nI (1000000 * G - 0) = nI G * 1000000 by rw [Nat.sub_zero, Nat.mul_comm]; exact (pk_mul G 1000000).symm] at h9
      exact hs (fun p => Nat.beq p 81) 60 32 _ _ _ _ _ (vc_t (by rw [eO1]; exact nI_le (Nat.le_refl _) (by omega)) h9)
    | succ r ih =>
      intro o σ1 ho h1 h2 h3
      have eO1 : σ1 1 2 = nI (K 0 2) := h1.2.1.1 2 (by omega)
      have hco : (nI o).toNatClampNeg = o := nI_clamp (by omega)
      refine hs (fun p => Nat.beq p 32) 60 32 _ _ _ _ _ (vc_f (by rw [eO1]; exact nI_ge (by omega) (by omega)) ⟨rfl, hn, lf, o, u, K, rfl, rfl, h1.2.1, hK, h1.2.2.2.2.2.2.2.2.1, by omega, by omega, fun σ2 a1 a2 => ⟨rfl, tmp K o u, v, rfl, by have := tmp_le K o u; omega, hv1, hv9, And.intro (vin (show o < 8 by omega)) (fun σ3 e3 => ?_)⟩⟩)
      rw [hco] at e3
      have e3 : σ3 = am_up σ2 107 o (nI (kW K u v o)) := e3
      show Wb 32 [some (.ref 0), some (.int (nI G)), some (.int (nI v)), some (.int (nI u)), some (.int (nI o + 1)), none, none, none] [] nf σ3 (tauY 0 lf)
      rw [← nI_succ]
      have fr : ∀ q, ¬ (12 ≤ q ∧ q ≤ 22) → ¬ (24 ≤ q ∧ q ≤ 28) → ¬ q = 107 → σ3 q = σ1 q := fun q g1 g2 g3 => by rw [e3, am_up_ne g3, a2 q g1 g2]
      refine ih (o + 1) σ3 (by omega) (h1.keep (fun q hq => fr q (by unfold Pq at hq; omega) (by unfold Pq at hq; omega) (by unfold Pq at hq; omega)) (a1.fr (by rw [e3, am_up_ne (by omega)]) (by rw [e3, am_up_ne (by omega)]))) (fun q g1 g2 => by rw [fr q (by omega) (by omega) (by omega)]; exact h2 q g1 g2) (fun z hz => ?_)
      by_cases e : z = o
      · rw [e, e3, up_at]
      · rw [e3, up_ne e, a2 107 (by omega) (by omega)]; exact h3 z (by omega)
  exact k32 (K 0 2) 0 σ (by omega) hI (fun _ _ _ => rfl) (fun z hz => absurd hz (by omega)))
def C_mkept : am_C := fun av n σ τ nf P => ∃ (g : Int32) (w : Int32) (f : Int32), pubM [.int g, .int w, .int f] (f_kept g w f) av n σ τ nf P
set_option maxRecDepth 100000 in
theorem M_mkept (d : Nat) : am_Met (d + 5) 861 C_mkept := am_meth (own0 := "CanalEndModel") 861 (d + 4) 155 T_X8_kept (fun y => bif Nat.beq y 803 then C_within else (bif Nat.beq y 823 then C_mWater else (bif Nat.beq y 859 then C_mtempt else (bif Nat.beq y 804 then C_mhas else (am_no))))) C_mkept rfl F_X8_kept rfl (by decide +kernel) Tc_X8_kept (fun y => am_g (M_within (d + 3)) (am_g (M_mWater (d + 2)) (am_g (M_mtempt (d + 0)) (am_g (M_mhas (d + 3)) (am_no_met))))) (by
  intro av n σ τ nf P hnf hC
  obtain ⟨g, w, f, rfl, hn, lf, ⟨K, Q, S, Ce, fl, tr⟩, rfl, hI, rfl, hP⟩ := hC
  refine ⟨hn, rfl, Nat.le_of_ble_eq_true rfl, fun Wb hs => ?_⟩
  have hI : InvM σ K Q S Ce fl tr := hI
  have hK := hI.1
  have hR := hI.2.1
  have hM10 := hK.2.1
  have hO8 := hK.2.2.1
  have eM := hR.2.1
  have eO := hR.2.2.1
  have fin : ∀ r9 : Int32, (f_kept g w f (K, Q, S, Ce, fl, tr)).2 = (K, Q, S, Ce, fl, tr) → (f_kept g w f (K, Q, S, Ce, fl, tr)).1 = .int r9 → P (some (.int r9)) σ (tauY 0 lf) := fun r9 e1 e2 => p_eqv e2 (hP σ (by rw [e1]; exact hI) (fun _ _ => rfl))
  have fin2 : ∀ (v9 : Value) (K9 Q9 S9 : KT) (Ce9 : Nat → Nat → Int32) (fl9 : Nat) (tr9 : Int32) (σ9 : am_Sg), f_kept g w f (K, Q, S, Ce, fl, tr) = (v9, (K9, Q9, S9, Ce9, fl9, tr9)) → InvM σ9 K9 Q9 S9 Ce9 fl9 tr9 → FrM σ σ9 → P (some v9) σ9 (tauY 0 lf) := fun v9 K9 Q9 S9 Ce9 fl9 tr9 σ9 e h1 h2 => by have := hP σ9 (by rw [e]; exact h1) h2; rw [e] at this; exact this
  refine hs (fun p => Nat.beq p 32) 60 0 _ _ _ _ _ ⟨rfl, g, 1, 3, rfl, fun g1 => vc_f (by decide) ⟨rfl, w, 1, 99, rfl, fun g2 => vc_f (by decide) ⟨rfl, f, rfl, fun g3 => vc_f (by decide) ?_, fun g3 => vc_t rfl (And.intro rfl (fin _ rfl (congrArg Value.int (by rw [if_neg (fun q => g3 q.2.2)]))))⟩, fun g2 => vc_t rfl (And.intro rfl (fin _ rfl (congrArg Value.int (by rw [if_neg (fun q => g2 (fn_iff.mpr q.2.1))]))))⟩, fun g1 => vc_t rfl (And.intro rfl (fin _ rfl (congrArg Value.int (by rw [if_neg (fun q => g1 (g_iff.mpr q.1))]))))⟩
  have gk : okG g w f := ⟨g_iff.mp g1, fn_iff.mp g2, g3⟩
  obtain ⟨G, hG1, hG3, rfl⟩ := pos_ex (N := 3) gk.1
  obtain ⟨v, hv1, hv9, rfl⟩ := pos_ex (N := 99) gk.2.1
  obtain ⟨u, hu, rfl⟩ := inN_ex g3
  have hcG : (nI G).toNatClampNeg = G := nI_clamp (by omega)
  have hcv : (nI v).toNatClampNeg = v := nI_clamp (by omega)
  have hcu : (nI u).toNatClampNeg = u := nI_clamp (by omega)
  have hWl : ∀ o, kW K u v o ≤ 1000000 := fun o => od_le hv1
  have ret : ∀ (σ1 : am_Sg) (s : Nat), InvM σ1 K Q S Ce fl tr → FrM σ σ1 → s = kpt (kW K u v) (1000000 * G) (K 0 2) (K 0 2) 0 0 → P (some (.int (nI s))) σ1 (tauY 0 lf) := fun σ1 s h1 h2 e => fin2 _ K Q S Ce fl tr σ1 (by unfold f_kept; rw [if_pos gk, hcG, hcv, hcu, e]) h1 h2
  have k95 : ∀ r m s a (x7 x8 : Option Value) (σ1 : am_Sg), m + r = K 0 2 → bcn s = m → s < 256 → a ≤ 1000000 * G → InvM σ1 K Q S Ce fl tr → FrM σ σ1 → (∀ o, o < K 0 2 → σ1 154 o = nI (kW K u v o)) → kpt (kW K u v) (1000000 * G) (K 0 2) r s a = kpt (kW K u v) (1000000 * G) (K 0 2) (K 0 2) 0 0 → Wb 95 [some (.ref 116), some (.int (nI G)), some (.int (nI v)), some (.int (nI u)), some (.int (nI s)), some (.int (nI a)), some (.int (nI m)), x7, x8] [] nf σ1 (tauY 0 lf) := by
    intro r
    induction r with
    | zero =>
      intro m s a x7 x8 σ1 hm hb1 hs8 ha h1 h2 h3 hk
      have eO1 : σ1 116 7 = nI (K 0 2) := h1.2.1.2.2.1
      exact hs (fun p => Nat.beq p 95 || Nat.beq p 111) 60 95 _ _ _ _ _ (vc_t (by rw [eO1]; exact nI_le (by omega) (by omega)) (And.intro rfl (ret σ1 s h1 h2 hk)))
    | succ r ih =>
      intro m s a x7 x8 σ1 hm hb1 hs8 ha h1 h2 h3 hk
      have eO1 : σ1 116 7 = nI (K 0 2) := h1.2.1.2.2.1
      obtain ⟨t, et, htO, ht0⟩ := lso_ok (W := kW K u v) (s := s) (O := K 0 2) hs8 (by omega) (by omega)
      have hct : (nI t).toNatClampNeg = t := nI_clamp (by omega)
      have hWt := hWl t
      have k111 : ∀ q o, o + q = K 0 2 → Wb 111 [some (.ref 116), some (.int (nI G)), some (.int (nI v)), some (.int (nI u)), some (.int (nI s)), some (.int (nI a)), some (.int (nI m)), some (.int (opv (lso (kW K u v) s o))), some (.int (nI o))] [] nf σ1 (tauY 0 lf) := by
        intro q
        induction q with
        | zero =>
          intro o ho
          have ho : o = K 0 2 := by omega
          subst ho
          rw [et]
          refine hs (fun p => Nat.beq p 95 || Nat.beq p 111) 60 111 _ _ _ _ _ (vc_t (by rw [eO1]; exact nI_le (by omega) (by omega)) (And.intro (vin (show t < 8 by omega)) (vc_if (fun q => ?_) (fun q => And.intro rfl ?_))))
          · have q : nI a + σ1 154 (nI t).toNatClampNeg ≤ (1000000 : Int32) * nI G := q
            rw [hct, h3 t htO, nI_add, show (1000000 : Int32) * nI G = nI (1000000 * G) from pk_mul 1000000 G] at q
            have q := (nI_leI (by omega) (by omega)).mp q
            obtain ⟨b1, b2, b3⟩ := hb_add s hs8 t (by omega) ht0
            have h9 := ih (m + 1) (s + 2 ^ t) (a + kW K u v t) (some (.int (nI t))) (some (.int (nI (K 0 2)))) σ1 (by omega) (by omega) b2 (by omega) h1 h2 h3 (by rw [← hk, kpt_y et (by omega)])
            rw [← b3, ← nI_add, ← h3 t htO, ← show σ1 154 (nI t).toNatClampNeg = σ1 154 t by rw [hct], nI_succ] at h9
            exact h9
          · have q : ¬ nI a + σ1 154 (nI t).toNatClampNeg ≤ (1000000 : Int32) * nI G := q
            rw [hct, h3 t htO, nI_add, show (1000000 : Int32) * nI G = nI (1000000 * G) from pk_mul 1000000 G] at q
            have q : ¬ a + kW K u v t ≤ 1000000 * G := fun w => q (nI_le w (by omega))
            exact ret σ1 s h1 h2 (by rw [← hk, kpt_n et (by omega)])
        | succ q ihq =>
          intro o ho
          have h9 := ihq (o + 1) (by omega)
          rw [nI_succ] at h9
          have hco : (nI o).toNatClampNeg = o := nI_clamp (by omega)
          refine hs (fun p => Nat.beq p 95 || Nat.beq p 111) 60 111 _ _ _ _ _ (vc_f (by rw [eO1]; exact nI_ge (by omega) (by omega)) ⟨rfl, s, o, rfl, hs8, by omega, fun g => vc_f (by decide) ?_, fun g => vc_t rfl ?_⟩)
          · rw [lso_n (by omega)] at h9
            exact h9
          · have g : hb s o = 0 := by unfold hb at g ⊢; omega
            cases e : lso (kW K u v) s o with
            | none =>
              rw [lso_0 g e] at h9
              exact vc_t rfl h9
            | some t =>
              have ht := lso_lt o t e
              have hct : (nI t).toNatClampNeg = t := nI_clamp (by omega)
              have l1 := hWl t
              have l2 := hWl o
              refine vc_f (nI_n9 t (by omega)) (And.intro (vin (show o < 8 by omega)) (And.intro (vin (show t < 8 by omega)) (vc_if (fun q => ?_) (fun q => ?_))))
              · have q : σ1 154 (nI t).toNatClampNeg ≤ σ1 154 (nI o).toNatClampNeg := q
                rw [hco, hct, h3 o (by omega), h3 t (by omega)] at q
                have q := (nI_leI (by omega) (by omega)).mp q
                rw [lso_1 g e q] at h9
                exact h9
              · have q : ¬ σ1 154 (nI t).toNatClampNeg ≤ σ1 154 (nI o).toNatClampNeg := q
                rw [hco, hct, h3 o (by omega), h3 t (by omega)] at q
                rw [lso_2 g e (fun w => q (nI_le w (by omega)))] at h9
                exact h9
      exact hs (fun p => Nat.beq p 95 || Nat.beq p 111) 60 95 _ _ _ _ _ (vc_f (by rw [eO1]; exact nI_ge (by omega) (by omega)) (k111 (K 0 2) 0 (by omega)))
  have k32 : ∀ r o (x5 x7 : Option Value) (σ1 : am_Sg), o + r = K 0 2 → InvM σ1 K Q S Ce fl tr → FrM σ σ1 → (∀ z, z < o → σ1 154 z = nI (kW K u v z)) → Wb 32 [some (.ref 116), some (.int (nI G)), some (.int (nI v)), some (.int (nI u)), some (.int (nI o)), x5, none, x7, none] [] nf σ1 (tauY 0 lf) := by
    intro r
    induction r with
    | zero =>
      intro o x5 x7 σ1 ho h1 h2 h3
      have ho : o = K 0 2 := by omega
      subst ho
      have eO1 : σ1 116 7 = nI (K 0 2) := h1.2.1.2.2.1
      exact hs (fun p => Nat.beq p 95) 60 32 _ _ _ _ _ (vc_t (by rw [eO1]; exact nI_le (Nat.le_refl _) (by omega)) (k95 (K 0 2) 0 0 0 x7 none σ1 (by omega) rfl (by omega) (by omega) h1 h2 h3 rfl))
    | succ r ih =>
      intro o x5 x7 σ1 ho h1 h2 h3
      have eO1 : σ1 116 7 = nI (K 0 2) := h1.2.1.2.2.1
      have hco : (nI o).toNatClampNeg = o := nI_clamp (by omega)
      have tl := tmp_le K o u
      refine hs (fun p => Nat.beq p 32) 60 32 _ _ _ _ _ (vc_f (by rw [eO1]; exact nI_ge (by omega) (by omega)) ⟨rfl, hn, lf, o, u, K, rfl, rfl, h1.2.1, hK, by omega, by omega, fun σ2 a2 => And.intro (od_nz (by omega) hv1 hv9) (And.intro (vin (show o < 8 by omega)) (fun σ3 e3 => ?_))⟩)
      rw [hco, od_m (by omega) hv1 hv9] at e3
      have e3 : σ3 = am_up σ2 154 o (nI (kW K u v o)) := e3
      have fr : ∀ q, ¬ (135 ≤ q ∧ q ≤ 139) → ¬ q = 154 → σ3 q = σ1 q := fun q g1 g3 => by rw [e3, am_up_ne g3, a2 q g1]
      have h9 := ih (o + 1) (some (.long (nI (tmp K o u)).toInt64)) (some (.long ((nI (tmp K o u)).toInt64 + (nI v).toInt64))) σ3 (by omega) (h1.keep (fun q hq => fr q (by omega) (by omega)) (fun i hi => by rw [fr 116 (by omega) (by omega)])) (fun q g1 => by rw [fr q (by omega) (by omega)]; exact h2 q g1) (fun z hz => by
        by_cases e : z = o
        · rw [e, e3, up_at]
        · rw [e3, up_ne e, a2 154 (by omega)]; exact h3 z (by omega))
      rw [nI_succ] at h9
      exact h9
  exact k32 (K 0 2) 0 none none σ (by omega) hI (fun _ _ => rfl) (fun z hz => absurd hz (by omega)))
