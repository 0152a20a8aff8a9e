def C_xrow : am_C := fun av n σ τ nf P => ∃ (k : Int32) (t : Int32) (i : Int32) (m : Int32) (w : Int32), pubX [.int k, .int t, .int i, .int m, .int w] (f_row k t i m w) av n σ τ nf P
set_option maxRecDepth 100000 in
theorem M_xrow (d : Nat) : am_Met (d + 4) 713 C_xrow := am_meth (own0 := "CanalEnd") 713 (d + 3) 155 T_X7_row (fun y => bif Nat.beq y 750 then C_refRow else (bif Nat.beq y 747 then C_isOutlet else (bif Nat.beq y 405 then C_isAllWater else (bif Nat.beq y 740 then C_isIn else (bif Nat.beq y 745 then C_isCanal else (bif Nat.beq y 301 then C_hrun else (bif Nat.beq y 302 then C_sumOf else (am_no)))))))) C_xrow rfl F_X7_row rfl (by decide +kernel) Tc_X7_row (fun y => am_g (M_refRow (d + 0)) (am_g (M_isOutlet (d + 1)) (am_g (M_isAllWater (d + 1)) (am_g (M_isIn (d + 2)) (am_g (M_isCanal (d + 2)) (am_g (M_hrun (d + 1)) (am_g (M_sumOf (d + 2)) (am_no_met)))))))) (by
  intro av n σ τ nf P hnf hC
  obtain ⟨k, t, i, m, w, rfl, lf, ⟨K, Q, S, Ce, fl, tr⟩, rfl, hI, rfl, hP⟩ := hC
  have hn := Nlf_le hI.2.2.2.2.2.2.2.2.2
  refine ⟨hn, rfl, Nat.le_of_ble_eq_true rfl, fun Wb hs => ?_⟩
  have hI : InvX σ nf lf K Q S Ce fl tr := hI
  have hK := hI.1
  have hR := hI.2.1
  have hM10 := hK.2.1
  have hO8 := hK.2.2.1
  have eM : σ 1 1 = nI (K 0 1) := hR.1 1 (by omega)
  have eO : σ 1 2 = nI (K 0 2) := hR.1 2 (by omega)
  have fin : ∀ r9 : Int32, (f_row k t i m w (K, Q, S, Ce, fl, tr)).2 = (K, Q, S, Ce, fl, tr) → (f_row k t i m w (K, Q, S, Ce, fl, tr)).1 = .int r9 → P (some (.int r9)) σ (tauY 0 lf) := fun r9 e1 e2 => p_eqv e2 (hP σ (by rw [e1]; exact hI) (fun _ _ => fun _ => rfl))
  have fin2 : ∀ (v9 : Value) (K9 Q9 S9 : KT) (Ce9 : Nat → Nat → Int32) (fl9 : Nat) (tr9 : Int32) (σ9 : am_Sg), f_row k t i m w (K, Q, S, Ce, fl, tr) = (v9, (K9, Q9, S9, Ce9, fl9, tr9)) → InvX σ9 nf lf K9 Q9 S9 Ce9 fl9 tr9 → FrX σ σ9 → P (some v9) σ9 (tauY 0 lf) := fun v9 K9 Q9 S9 Ce9 fl9 tr9 σ9 e h1 h2 => by have := hP σ9 (by rw [e]; exact h1) h2; rw [e] at this; exact this
  refine hs (fun p => Nat.beq p 45 || Nat.beq p 75 || Nat.beq p 78 || Nat.beq p 94) 90 0 _ _ _ _ _ ⟨k, t, i, m, rfl, lf, (K, Q, S, Ce, fl, tr), rfl, hI, rfl, fun σ1 h1 hfr => ?_⟩
  have fall : ¬ (inN k 4 ∧ inN t 3 ∧ agn S k.toNatClampNeg t.toNatClampNeg i m = 0) → ∀ r : Int32, (f_ref k t i m (K, Q, S, Ce, fl, tr)).1 = .int r → P (some (.int r)) σ1 (tauY 0 lf) := fun g r e => by
    have ef : f_row k t i m w (K, Q, S, Ce, fl, tr) = f_ref k t i m (K, Q, S, Ce, fl, tr) := by unfold f_row; rw [if_neg g]
    have h9 := hP σ1 (by rw [ef]; exact h1) hfr
    rw [ef, e] at h9
    exact h9
  by_cases g : inN k 4
  case neg =>
    have e : (f_ref k t i m (K, Q, S, Ce, fl, tr)).1 = .int (-1) := by unfold f_ref; rw [if_neg g]
    have h9 := fall (fun q => g q.1) _ e
    rw [e]
    exact vc_f (by decide) (And.intro rfl h9)
  by_cases g2 : inN t 3
  case neg =>
    have e : (f_ref k t i m (K, Q, S, Ce, fl, tr)).1 = .int (-2) := by unfold f_ref; rw [if_pos g, if_neg g2]
    have h9 := fall (fun q => g2 q.2.1) _ e
    rw [e]
    exact vc_f (by decide) (And.intro rfl h9)
  have e : f_ref k t i m (K, Q, S, Ce, fl, tr) = (.int (rfz (agn S k.toNatClampNeg t.toNatClampNeg i m)), setF (K, Q, S, Ce, fl, tr) (agn S k.toNatClampNeg t.toNatClampNeg i m)) := by unfold f_ref; rw [if_pos g, if_pos g2]
  by_cases g3 : agn S k.toNatClampNeg t.toNatClampNeg i m = 0
  case neg =>
    have h9 := fall (fun q => g3 q.2.2) (rfz (agn S k.toNatClampNeg t.toNatClampNeg i m)) (by rw [e])
    rw [e]
    exact vc_f (rfz_n agn_le g3) (And.intro rfl h9)
  rw [e] at h1 ⊢
  rw [g3] at h1 ⊢
  have hI1 : InvX σ1 nf lf K Q S Ce 0 tr := h1
  have fin3 : ∀ (r : Int32) (σ9 : am_Sg), (if alW (Ce k.toNatClampNeg) i.toNatClampNeg m.toNatClampNeg ∧ okW K w then (if K 0 1 = 0 then (-3 : Int32) else rSum K (Ce k.toNatClampNeg) i.toNatClampNeg w.toNatClampNeg m.toNatClampNeg) else -2) = r → InvX σ9 nf lf K Q S Ce 0 tr → FrX σ σ9 → P (some (.int r)) σ9 (tauY 0 lf) := fun r σ9 er h8 h9 => fin2 _ K Q S Ce 0 tr σ9 (by unfold f_row; rw [if_pos ⟨g, g2, g3⟩]; exact congrArg (fun z => (Value.int z, _)) er) h8 h9
  have hok := agn_z g3
  clear fall e
  obtain ⟨a, ha, rfl⟩ := inN_ex g
  have hca : (nI a).toNatClampNeg = a := nI_clamp (by omega)
  rw [hca] at hok fin3
  have hw := hI1.2.2.2.2.2.1 a ha
  have hw2 := hw.2.2
  have hr := hI1.2.2.2.2.2.2.1 a ha
  obtain ⟨x, hx, rfl⟩ := inN_ex (v := i) (N := 101) ⟨by omega, by omega⟩
  obtain ⟨y, hy, rfl⟩ := inN_ex (v := m) (N := 101) ⟨by omega, by omega⟩
  have hcx : (nI x).toNatClampNeg = x := nI_clamp (by omega)
  have hcy : (nI y).toNatClampNeg = y := nI_clamp (by omega)
  have hxy : x + y ≤ 100 := by
    have h9 := hok.2.2
    rw [nI_toInt (by omega), nI_toInt (by omega)] at h9
    omega
  rw [hcx, hcy] at fin3
  have t75 : ∀ (v : Option Value), ¬ (alW (Ce a) x y ∧ okW K w) → Wb 75 [some (.ref 0), some (.int (nI a)), some (.int t), some (.int (nI x)), some (.int (nI y)), some (.int w), some (.int 0), v, none, none, none] [] nf σ1 (tauY 0 lf) := fun v q => hs (fun _ => false) 30 75 _ _ _ _ _ (And.intro rfl (fin3 _ σ1 (if_neg q) hI1 hfr))
  have key : ∀ (b ww : Nat), alW (Ce a) x y → okW K w → ¬ K 0 1 = 0 → w = nI ww → ((b = 0 ∧ ww < 4) ∨ (b = 1 ∧ 10 ≤ ww ∧ ww < 10 + K 0 2)) → ∀ r z (x10 : Option Value) (σ3 : am_Sg), z + r = y → InvX σ3 nf lf K Q S Ce 0 tr → FrX σ σ3 → Wb 94 [some (.ref 0), some (.int (nI a)), some (.int t), some (.int (nI x)), some (.int (nI y)), some (.int w), some (.int 0), some (.int (nI b)), some (.int (rSum K (Ce a) x ww z)), some (.int (nI (x + z))), x10] [] nf σ3 (tauY 0 lf) := by
    intro b ww hal hokw hM hww hb r
    have hcw : w.toNatClampNeg = ww := by rw [hww]; exact nI_clamp (by omega)
    induction r with
    | zero =>
      intro z x10 σ3 hz h3 hf3
      have hz : z = y := by omega
      subst hz
      have hle : nI x + nI z ≤ nI (x + z) := by rw [nI_add]; exact nI_le (Nat.le_refl _) (by omega)
      exact hs (fun p => Nat.beq p 94) 90 94 _ _ _ _ _ (vc_t hle (And.intro rfl (fin3 _ σ3 (by rw [if_pos ⟨hal, hokw⟩, if_neg hM, hcw]) h3 hf3)))
    | succ r ih =>
      intro z x10 σ3 hz h3 hf3
      have hle : ¬ nI x + nI y ≤ nI (x + z) := by rw [nI_add]; exact nI_ge (by omega) (by omega)
      have hcl : (nI (x + z)).toNatClampNeg = x + z := nI_clamp (by omega)
      have hr3 := h3.2.2.2.2.2.2.1 a ha
      have ec := hr3.2.2.2 (x + z) (by omega)
      have hal9 := hal z (by omega)
      have ih := fun σ4 x9 h4 hf4 => ih (z + 1) x9 σ4 (by omega) h4 hf4
      rw [show x + (z + 1) = (x + z) + 1 by omega, nI_succ] at ih
      have t143 : ∀ (σ4 : am_Sg) (c10 : Int32), HrI σ3 σ4 24 1 K (K 8) (ngf (Ce a (x + z))) (Ce a (x + z)).toInt.natAbs (K 0 1) → σ4 24 6 = nI (s_in K (K 8) (ngf (Ce a (x + z))) (Ce a (x + z)).toInt.natAbs (K 0 1)) → Wb 143 [some (.ref 0), some (.int (nI a)), some (.int t), some (.int (nI x)), some (.int (nI y)), some (.int w), some (.int 0), some (.int (nI b)), some (.int (rSum K (Ce a) x ww z)), some (.int (nI (x + z))), some (.int c10)] [] nf σ4 (tauY 0 lf) := by
        intro σ4 c10 hh h6
        obtain ⟨h4, hf4⟩ := hh.inv h3
        have ih := ih σ4 (some (.int c10)) h4 (fun q g1 g2 => by rw [hf4 q g1 g2]; exact hf3 q g1 g2)
        have hcons := s_cons_end (kd := K 8) (nt := ngf (Ce a (x + z))) (f := (Ce a (x + z)).toInt.natAbs) hK
        have es : rSum K (Ce a) x ww (z + 1) = rSum K (Ce a) x ww z + nI (s_pt K (ngf (Ce a (x + z))) (Ce a (x + z)).toInt.natAbs ww) := rfl
        rw [es] at ih
        rcases hb with ⟨rfl, hb⟩ | ⟨rfl, hb1, hb2⟩
        · refine hs (fun p => Nat.beq p 94) 60 143 _ _ _ _ _ (vc_t rfl ⟨rfl, hn, lf, _, _, _, ww, rfl, by rw [← hww], hb, hh.2.2.2.1, hh.2.2.2.2.1, h6, by omega, ?_⟩)
          have ep : (if ww = 0 then (Ce a (x + z)).toInt.natAbs else if ww = 1 then s_ss K (K 8) (ngf (Ce a (x + z))) (Ce a (x + z)).toInt.natAbs (K 0 1) else if ww = 2 then (Ce a (x + z)).toInt.natAbs - s_ss K (K 8) (ngf (Ce a (x + z))) (Ce a (x + z)).toInt.natAbs (K 0 1) - s_in K (K 8) (ngf (Ce a (x + z))) (Ce a (x + z)).toInt.natAbs (K 0 1) else s_in K (K 8) (ngf (Ce a (x + z))) (Ce a (x + z)).toInt.natAbs (K 0 1)) = s_pt K (ngf (Ce a (x + z))) (Ce a (x + z)).toInt.natAbs ww := by
            unfold s_pt
            rcases (show ww = 0 ∨ ww = 1 ∨ ww = 2 ∨ ww = 3 by omega) with rfl | rfl | rfl | rfl
            · rfl
            · rfl
            · show _ - _ - _ = s_tt K (K 8) _ _ (K 0 2)
              omega
            · rfl
          rw [ep]
          exact ih
        · have e10 : w - 10 = nI (ww - 10) := by rw [hww, show (10 : Int32) = nI 10 from rfl, nI_subN (by omega)]
          have et : σ4 28 (ww - 10) = nI (s_ta K (K 8) (ngf (Ce a (x + z))) (Ce a (x + z)).toInt.natAbs (ww - 10)) := hh.2.2.1 (ww - 10) (by rw [fo_end]; omega)
          have ep : s_pt K (ngf (Ce a (x + z))) (Ce a (x + z)).toInt.natAbs ww = s_ta K (K 8) (ngf (Ce a (x + z))) (Ce a (x + z)).toInt.natAbs (ww - 10) := by
            unfold s_pt
            rw [if_neg (by omega), if_neg (by omega), if_neg (by omega), if_neg (by omega)]
          rw [ep, ← et] at ih
          refine hs (fun p => Nat.beq p 94) 60 143 _ _ _ _ _ (vc_f (by decide) (And.intro (by rw [e10]; exact vin (show ww - 10 < 8 by omega)) ?_))
          rw [e10, nI_clamp (by omega)]
          exact ih
      have hc10 : ∀ q : Int32, q = Ce a (x + z) → (if 0 ≤ q then q else 0 - q) = nI (Ce a (x + z)).toInt.natAbs := fun q e => by rw [e]; exact abs_x hal9
      have hn0 : ∀ q : Int32, q = Ce a (x + z) → 0 ≤ q → ngf (Ce a (x + z)) = 0 := fun q e h => by
        unfold ngf
        rw [← e, if_neg (fun h9 => by rw [i_le, Int32.toInt_zero] at h; have := i_neg.mp h9; omega)]
      have hn1 : ∀ q : Int32, q = Ce a (x + z) → ¬ 0 ≤ q → ngf (Ce a (x + z)) = 1 := fun q e h => by
        unfold ngf
        rw [← e, if_pos (i_neg.mpr (by rw [i_le, Int32.toInt_zero] at h; omega))]
      have hR3 := h3.2.1
      refine hs (fun p => Nat.beq p 94 || Nat.beq p 143) 90 94 _ _ _ _ _ (vc_f hle (And.intro (vin (show a < 4 by omega)) ?_))
      rw [hca]
      rcases k4 ha with rfl | rfl | rfl | rfl
      all_goals
        refine And.intro (sh_nz ha) (fun z9 hz9 => ?_)
        cases hz9
        refine And.intro (vin (show x + z < 100 by omega)) ?_
        rw [hcl]
        refine vc_if (fun c => ⟨rfl, hn, 0, lf, 24, 1, (Ce _ (x + z)).toInt.natAbs, ngf (Ce _ (x + z)), K, rfl, by rw [hc10 _ ec, hn0 _ ec c]; rfl, Or.inl rfl, Or.inl rfl, hR3, hK, by omega, by rw [hn0 _ ec c]; omega, fun σ4 hh h6 => t143 σ4 _ hh h6⟩) (fun c => ⟨rfl, hn, 0, lf, 24, 1, (Ce _ (x + z)).toInt.natAbs, ngf (Ce _ (x + z)), K, rfl, by rw [hc10 _ ec, hn1 _ ec c]; rfl, Or.inl rfl, Or.inl rfl, hR3, hK, by omega, by rw [hn1 _ ec c]; omega, fun σ4 hh h6 => t143 σ4 _ hh h6⟩)
  have t78 : ∀ (b ww : Nat), alW (Ce a) x y → okW K w → w = nI ww → ((b = 0 ∧ ww < 4) ∨ (b = 1 ∧ 10 ≤ ww ∧ ww < 10 + K 0 2)) → Wb 78 [some (.ref 0), some (.int (nI a)), some (.int t), some (.int (nI x)), some (.int (nI y)), some (.int w), some (.int 0), some (.int (nI b)), none, none, none] [] nf σ1 (tauY 0 lf) := fun b ww hal hok hww hb =>
    hs (fun p => Nat.beq p 94) 60 78 _ _ _ _ _ ⟨rfl, hn, lf, K 0 1, rfl, rfl, hI1.2.1.1 1 (by omega), by omega, fun q => vc_t rfl (And.intro rfl (fin3 _ σ1 (by rw [if_pos ⟨hal, hok⟩, if_pos q]) hI1 hfr)), fun q => vc_f (by decide) (key b ww hal hok q hww hb y 0 none σ1 (by omega) hI1 hfr)⟩
  have t45 : ∀ b : Nat, ((b = 0 ∧ ¬ (10 ≤ w.toInt ∧ w.toInt < 10 + (K 0 2 : Int))) ∨ (b = 1 ∧ (10 ≤ w.toInt ∧ w.toInt < 10 + (K 0 2 : Int)))) → Wb 45 [some (.ref 0), some (.int (nI a)), some (.int t), some (.int (nI x)), some (.int (nI y)), some (.int w), some (.int 0), some (.int (nI b)), none, none, none] [] nf σ1 (tauY 0 lf) := by
    intro b hb
    have go : ∀ b, ((b = 0 ∧ ¬ (10 ≤ w.toInt ∧ w.toInt < 10 + (K 0 2 : Int))) ∨ (b = 1 ∧ (10 ≤ w.toInt ∧ w.toInt < 10 + (K 0 2 : Int)))) → okW K w → ∃ ww, w = nI ww ∧ ((b = 0 ∧ ww < 4) ∨ (b = 1 ∧ 10 ≤ ww ∧ ww < 10 + K 0 2)) := fun b hb hok => by
      obtain ⟨ww, hw9, e9⟩ := inN_ex (v := w) (N := 20) ⟨by omega, by omega⟩
      refine ⟨ww, e9, ?_⟩
      have tw : w.toInt = (ww : Int) := by rw [e9]; exact nI_toInt (by omega)
      omega
    refine hs (fun p => Nat.beq p 75 || Nat.beq p 78) 60 45 _ _ _ _ _ (And.intro (vin (show a < 4 by omega)) ?_)
    rw [hca]
    rcases k4 ha with rfl | rfl | rfl | rfl
    all_goals
      refine And.intro (sh_nz ha) (fun z9 hz9 => ?_)
      cases hz9
      refine ⟨rfl, hn, lf, _, x, y, Ce _, rfl, ha, rfl, hxy, hr.2.2.2, fun g5 => vc_f (by decide) ⟨rfl, w, 0, 3, rfl, fun g6 => vc_f (by decide) ?_, fun g6 => vc_t rfl (vc_if (fun g7 => t75 _ (fun q => ?_)) (fun g7 => ?_))⟩, fun g5 => vc_t rfl (t75 _ (fun q => g5 q.1))⟩
      · have g6 := (in_iff (N := 4) rfl).mp g6
        obtain ⟨ww, e9, h9⟩ := go b hb (Or.inl g6)
        exact t78 b ww g5 (Or.inl g6) e9 h9
      · have g7 := nI_inj (b := 0) (by omega) (by omega) g7
        have g6 : ¬ inN w 4 := fun q => g6 ((in_iff rfl).mpr q)
        have := q.2
        omega
      · have g7 : ¬ b = 0 := fun q => g7 (by rw [q]; rfl)
        have g8 : okW K w := Or.inr (by omega)
        obtain ⟨ww, e9, h9⟩ := go b hb g8
        exact t78 b ww g5 g8 e9 h9
  refine vc_t rfl (vc_if (fun c => t45 0 (Or.inl ⟨rfl, fun q => ?_⟩)) (fun c => ⟨rfl, hn, 0, lf, K 0 2, w - 10, rfl, rfl, hI1.2.1.1 2 (by omega), by omega, fun d => vc_f (by decide) (t45 1 (Or.inr ⟨rfl, ?_⟩)), fun d => vc_t rfl (t45 0 (Or.inl ⟨rfl, fun q => d ?_⟩))⟩))
  · rw [i_lt, show (10 : Int32).toInt = 10 from rfl] at c
    omega
  · rw [i_lt, show (10 : Int32).toInt = 10 from rfl] at c
    have e9 : (w - 10).toInt = w.toInt - 10 := by
      have := Int32.toInt_lt w
      rw [Int32.toInt_sub, show (10 : Int32).toInt = 10 from rfl]
      exact Int.bmod_eq_of_le (by omega) (by omega)
    unfold inN at d
    rw [e9] at d
    omega
  · have e9 : (w - 10).toInt = w.toInt - 10 := by
      have := Int32.toInt_lt w
      rw [Int32.toInt_sub, show (10 : Int32).toInt = 10 from rfl]
      exact Int.bmod_eq_of_le (by omega) (by omega)
    show 0 ≤ (w - 10).toInt ∧ _
    rw [e9]
    omega)
