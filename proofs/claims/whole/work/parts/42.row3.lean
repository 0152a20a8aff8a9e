def C_partOf : am_C := fun av n σ τ nf P => nf = n ∧ 155 ≤ n ∧ ∃ (lf nt f ww : Nat) (K : KT), τ = tauY 0 lf ∧ av = [.ref 116, .int (nI f), .int (nI ww)] ∧ RepM σ K ∧ WfK K ∧ 0 < K 0 1 ∧ ((∀ i, i < K 0 1 → σ 136 i = nI (s_sp K i (s_in K (K 8) nt f i)) ∧ σ 137 i = nI (s_le K (K 8) nt f i) ∧ σ 138 i = nI (s_in K (K 8) nt f (i + 1))) ∧ (∀ o, o < K 0 2 → σ 139 o = nI (s_ta K (K 8) nt f o))) ∧ (ww < 4 ∨ (10 ≤ ww ∧ ww < 10 + K 0 2)) ∧ P (some (.int (nI (s_pt K nt f ww)))) σ τ
set_option maxRecDepth 100000 in
theorem M_partOf (d : Nat) : am_Met (d + 1) 831 C_partOf := am_meth (own0 := "CanalEndModel") 831 (d + 0) 155 T_X8_partOf (fun y => am_no) C_partOf rfl F_X8_partOf rfl (by decide +kernel) Tc_X8_partOf (fun y => am_no_met) (by
  intro av n σ τ nf P hnf hC
  obtain ⟨rfl, hn, lf, nt, f, ww, K, rfl, rfl, hR, hK, hpos, ⟨hA, hB⟩, hww, hP⟩ := hC
  refine ⟨hn, rfl, Nat.le_of_ble_eq_true rfl, fun Wb hs => ?_⟩
  have hM10 := hK.2.1
  have hO8 := hK.2.2.1
  have eM := hR.2.1
  have eO := hR.2.2.1
  have g77 : ¬ ww = 2 → ∀ (s j : Int32), P (some (.int s)) σ (tauY 0 lf) → Wb 77 [some (.ref 116), some (.int (nI f)), some (.int (nI ww)), some (.int s), some (.int j)] [] nf σ (tauY 0 lf) := fun h2 s j h => hs (fun p => Nat.beq p 77) 40 77 _ _ _ _ _ (vc_if (fun c => And.intro rfl h) (fun c => vc_f (fun q => h2 (nI_inj (b := 2) (by omega) (by omega) q)) (And.intro rfl h)))
  have k77 : ww = 2 → ∀ r j, j + r = K 0 2 → Wb 77 [some (.ref 116), some (.int (nI f)), some (.int (nI ww)), some (.int (nI (s_tt K (K 8) nt f j))), some (.int (nI j))] [] nf σ (tauY 0 lf) := by
    intro h2 r
    induction r with
    | zero =>
      intro j hj
      have hj : j = K 0 2 := by omega
      subst hj
      subst h2
      exact hs (fun p => Nat.beq p 77) 40 77 _ _ _ _ _ (vc_t (by rw [eO]; exact nI_le (Nat.le_refl _) (by omega)) (And.intro rfl hP))
    | succ r ih =>
      intro j hj
      have ih := ih (j + 1) (by omega)
      have hc : (nI j).toNatClampNeg = j := nI_clamp (by omega)
      have e : s_tt K (K 8) nt f (j + 1) = s_tt K (K 8) nt f j + s_ta K (K 8) nt f j := rfl
      rw [e, ← nI_add, ← hB j (by omega), nI_succ] at ih
      refine hs (fun p => Nat.beq p 77) 40 77 _ _ _ _ _ (vc_f (by rw [eO]; exact nI_ge (by omega) (by omega)) (vc_t (by rw [h2]; rfl) (And.intro (vin (show j < 8 by omega)) ?_)))
      rw [hc]
      exact ih
  have k44 : ww = 1 → ∀ r j, j + r = K 0 1 → Wb 44 [some (.ref 116), some (.int (nI f)), some (.int (nI ww)), some (.int (nI (s_ss K (K 8) nt f j))), some (.int (nI j))] [] nf σ (tauY 0 lf) := by
    intro h2 r
    induction r with
    | zero =>
      intro j hj
      have hj : j = K 0 1 := by omega
      subst hj
      subst h2
      exact hs (fun p => Nat.beq p 77) 40 44 _ _ _ _ _ (vc_t (by rw [eM]; exact nI_le (Nat.le_refl _) (by omega)) (g77 (by omega) _ _ hP))
    | succ r ih =>
      intro j hj
      have ih := ih (j + 1) (by omega)
      have hc : (nI j).toNatClampNeg = j := nI_clamp (by omega)
      have e : s_ss K (K 8) nt f (j + 1) = s_ss K (K 8) nt f j + s_sp K j (s_in K (K 8) nt f j) := rfl
      rw [e, ← nI_add, ← (hA j (by omega)).1, nI_succ] at ih
      refine hs (fun p => Nat.beq p 44 || Nat.beq p 77) 40 44 _ _ _ _ _ (vc_f (by rw [eM]; exact nI_ge (by omega) (by omega)) (vc_t (by rw [h2]; rfl) (And.intro (vin (show j < 10 by omega)) ?_)))
      rw [hc]
      exact ih
  refine hs (fun p => Nat.beq p 44) 60 0 _ _ _ _ _ (vc_if (fun c => And.intro rfl ?_) (fun c => vc_if (fun c3 => And.intro ?_ (And.intro rfl ?_)) (fun c3 => vc_if (fun c9 => ?_) (fun c9 => And.intro ?_ (And.intro rfl ?_)))))
  · have c := nI_inj (b := 0) (by omega) (by omega) c
    subst c
    exact hP
  · rw [eM, show (1 : Int32) = nI 1 from rfl, nI_subN (by omega)]
    exact vin (show K 0 1 - 1 < 10 by omega)
  · have c3 := nI_inj (b := 3) (by omega) (by omega) c3
    subst c3
    rw [eM, show (1 : Int32) = nI 1 from rfl, nI_subN (by omega), nI_clamp (by omega), (hA (K 0 1 - 1) (by omega)).2.2, show K 0 1 - 1 + 1 = K 0 1 by omega]
    exact hP
  · have c : ¬ ww = 0 := fun q => c (by rw [q]; rfl)
    have c3 : ¬ ww = 3 := fun q => c3 (by rw [q]; rfl)
    have c9 := (nI_leI (b := 9) (by omega) (by omega)).mp c9
    rcases (show ww = 1 ∨ ww = 2 by omega) with h | h
    · exact k44 h (K 0 1) 0 (by omega)
    · refine hs (fun p => Nat.beq p 77) 40 44 _ _ _ _ _ (vc_f (by rw [eM]; exact nI_ge (a := 0) (by omega) (by omega)) (vc_f (fun q => ?_) (k77 h (K 0 2) 0 (by omega))))
      have := nI_inj (b := 1) (by omega) (by omega) q
      omega
  all_goals
    have c9 : ¬ ww ≤ 9 := fun q => c9 (nI_le (b := 9) q (by omega))
  · rw [show (10 : Int32) = nI 10 from rfl, nI_subN (by omega)]
    exact vin (show ww - 10 < 8 by omega)
  · rw [show (10 : Int32) = nI 10 from rfl, nI_subN (by omega), nI_clamp (by omega), hB (ww - 10) (by omega)]
    unfold s_pt at hP
    rw [if_neg (by omega), if_neg (by omega), if_neg (by omega), if_neg (by omega)] at hP
    exact hP)
def C_mrow : am_C := fun av n σ τ nf P => ∃ (k : Int32) (t : Int32) (i : Int32) (m : Int32) (w : Int32), pubM [.int k, .int t, .int i, .int m, .int w] (f_row k t i m w) av n σ τ nf P
set_option maxRecDepth 100000 in
theorem M_mrow (d : Nat) : am_Met (d + 4) 830 C_mrow := am_meth (own0 := "CanalEndModel") 830 (d + 3) 155 T_X8_row (fun y => bif Nat.beq y 806 then C_mSheet else (bif Nat.beq y 807 then C_mSort else (bif Nat.beq y 808 then C_against else (bif Nat.beq y 801 then C_fails else (bif Nat.beq y 803 then C_within else (bif Nat.beq y 824 then C_layKinds else (bif Nat.beq y 825 then C_mhour else (bif Nat.beq y 831 then C_partOf else (am_no))))))))) C_mrow rfl F_X8_row rfl (by decide +kernel) Tc_X8_row (fun y => am_g (M_mSheet (d + 1)) (am_g (M_mSort (d + 1)) (am_g (M_against (d + 2)) (am_g (M_fails (d + 2)) (am_g (M_within (d + 2)) (am_g (M_layKinds (d + 2)) (am_g (M_mhour (d + 2)) (am_g (M_partOf (d + 2)) (am_no_met))))))))) (by
  intro av n σ τ nf P hnf hC
  obtain ⟨k, t, i, m, w, rfl, hn, lf, ⟨K, Q, S, Ce, fl, tr⟩, rfl, hI, rfl, hP⟩ := hC
  refine ⟨hn, rfl, Nat.le_of_ble_eq_true rfl, fun Wb hs => ?_⟩
  have hI : InvM σ K Q S Ce fl tr := hI
  have hK := hI.1
  have hR := hI.2.1
  have hM10 := hK.2.1
  have hO8 := hK.2.2.1
  have eM := hR.2.1
  have eO := hR.2.2.1
  have fin : ∀ r9 : Int32, (f_row k t i m w (K, Q, S, Ce, fl, tr)).2 = (K, Q, S, Ce, fl, tr) → (f_row k t i m w (K, Q, S, Ce, fl, tr)).1 = .int r9 → P (some (.int r9)) σ (tauY 0 lf) := fun r9 e1 e2 => p_eqv e2 (hP σ (by rw [e1]; exact hI) (fun _ _ => rfl))
  have fin2 : ∀ (v9 : Value) (K9 Q9 S9 : KT) (Ce9 : Nat → Nat → Int32) (fl9 : Nat) (tr9 : Int32) (σ9 : am_Sg), f_row k t i m w (K, Q, S, Ce, fl, tr) = (v9, (K9, Q9, S9, Ce9, fl9, tr9)) → InvM σ9 K9 Q9 S9 Ce9 fl9 tr9 → FrM σ σ9 → P (some v9) σ9 (tauY 0 lf) := fun v9 K9 Q9 S9 Ce9 fl9 tr9 σ9 e h1 h2 => by have := hP σ9 (by rw [e]; exact h1) h2; rw [e] at this; exact this
  refine hs (fun p => Nat.beq p 58) 90 0 _ _ _ _ _ (fun σ1 e1 => ?_)
  have e1 : σ1 = am_up σ 116 0 (nI 0) := e1
  have hI1 : InvM σ1 K Q S Ce 0 tr := by rw [e1]; exact hI.fl
  have hfr : FrM σ σ1 := fun q g1 => by rw [e1]; exact am_up_ne (by omega)
  refine ⟨rfl, k, rfl, fun g => ?_, fun g => vc_t rfl (And.intro rfl (fin2 _ K Q S Ce 0 tr σ1 (by unfold f_row; rw [if_neg (fun q => g q.1)]; unfold f_ref; rw [if_neg g]; rfl) hI1 hfr))⟩
  refine vc_f (by decide) ⟨rfl, t, rfl, fun g2 => ?_, fun g2 => vc_t rfl (And.intro rfl (fin2 _ K Q S Ce 0 tr σ1 (by unfold f_row; rw [if_neg (fun q => g2 q.2.1)]; unfold f_ref; rw [if_pos g, if_neg g2]; rfl) hI1 hfr))⟩
  obtain ⟨a, ha, rfl⟩ := inN_ex g
  have hca : (nI a).toNatClampNeg = a := nI_clamp (by omega)
  obtain ⟨u, hu, rfl⟩ := inN_ex g2
  have hcu : (nI u).toNatClampNeg = u := nI_clamp (by omega)
  have hw := hI1.2.2.2.2.1 a ha
  have hw2 := hw.2.2
  have hr := hI1.2.2.2.2.2.1 a ha
  refine vc_f (by decide) ⟨rfl, hn, lf, a, u, 0, i, m, S, rfl, rfl, ha, hu, hw.2.1, hw.2.2, hr.1, hr.2.1, ?_⟩
  by_cases g3 : agn S a u i m = 0
  case neg =>
    have hle := agn_le (S := S) (a := a) (u := u) (i := i) (m := m)
    refine vc_f (fun q => g3 (nI_inj (b := 0) (by omega) (by omega) q)) ⟨rfl, hn, lf, nI (agn S a u i m), rfl, rfl, And.intro rfl ?_⟩
    refine fin2 _ K Q S Ce (agn S a u i m) tr _ (by unfold f_row; rw [hca, hcu, if_neg (fun q => g3 q.2.2)]; unfold f_ref; rw [if_pos g, if_pos g2, hca, hcu]; unfold rfz; rw [if_neg g3]; rfl) (hI1.fl (v := agn S a u i m)) (fun q g1 => by rw [am_up_ne (by omega)]; exact hfr q g1)
  have fin3 : ∀ (r : Int32) (σ9 : am_Sg), (if alW (Ce a) i.toNatClampNeg m.toNatClampNeg ∧ okW K w then (if K 0 1 = 0 then (-3 : Int32) else rSum K (Ce a) i.toNatClampNeg w.toNatClampNeg m.toNatClampNeg) else -2) = r → InvM σ9 K Q S Ce 0 tr → FrM σ σ9 → P (some (.int r)) σ9 (tauY 0 lf) := fun r σ9 er h8 h9 => fin2 _ K Q S Ce 0 tr σ9 (by unfold f_row; rw [hca, hcu, if_pos ⟨g, g2, g3⟩]; exact congrArg (fun z => (Value.int z, _)) er) h8 h9
  have hok := agn_z g3
  rw [g3]
  obtain ⟨x, hx, rfl⟩ := inN_ex (v := i) (N := 101) ⟨by omega, by omega⟩
  obtain ⟨y, hy, rfl⟩ := inN_ex (v := m) (N := 101) ⟨by omega, by omega⟩
  have hcx : (nI x).toNatClampNeg = x := nI_clamp (by omega)
  have hcy : (nI y).toNatClampNeg = y := nI_clamp (by omega)
  have hxy : x + y ≤ 100 := by
    have h9 := hok.2.2
    rw [nI_toInt (by omega), nI_toInt (by omega)] at h9
    omega
  rw [hcx, hcy] at fin3
  have key : ∀ ww : Nat, alW (Ce a) x y → okW K w → 0 < K 0 1 → w = nI ww → (ww < 4 ∨ (10 ≤ ww ∧ ww < 10 + K 0 2)) → ∀ r z (x10 : Option Value) (σ3 : am_Sg), z + r = y → InvM σ3 K Q S Ce 0 tr → Knd σ3 K (K 8) → FrM σ σ3 → Wb 146 [some (.ref 116), some (.int (nI a)), some (.int (nI u)), some (.int (nI x)), some (.int (nI y)), some (.int w), some (.int 0), some (.int (nI (100 * a + x))), some (.int (rSum K (Ce a) x ww z)), some (.int (nI z)), x10] [] nf σ3 (tauY 0 lf) := by
    intro ww hal hokw hpos hww hb r
    have hcw : w.toNatClampNeg = ww := by rw [hww]; exact nI_clamp (by omega)
    induction r with
    | zero =>
      intro z x10 σ3 hz h3 hk3 hf3
      have hz : z = y := by omega
      subst hz
      exact hs (fun p => Nat.beq p 146) 90 146 _ _ _ _ _ (vc_t (nI_le (Nat.le_refl _) (by omega)) (And.intro rfl (fin3 _ σ3 (by rw [if_pos ⟨hal, hokw⟩, if_neg (by omega), hcw]) h3 hf3)))
    | succ r ih =>
      intro z x10 σ3 hz h3 hk3 hf3
      have hal9 := hal z (by omega)
      have hr3 := h3.2.2.2.2.2.1 a ha
      have ec : σ3 119 (100 * a + x + z) = Ce a (x + z) := by rw [Nat.add_assoc]; exact hr3.2.2 (x + z) (by omega)
      have ih := fun σ4 x9 h4 hk4 hf4 => ih (z + 1) x9 σ4 (by omega) h4 hk4 hf4
      have es : rSum K (Ce a) x ww (z + 1) = rSum K (Ce a) x ww z + nI (s_pt K (ngf (Ce a (x + z))) (Ce a (x + z)).toInt.natAbs ww) := rfl
      rw [es, nI_succ] at ih
      have ab := abs_m hal9
      have n0 : ¬ Ce a (x + z) < 0 → ngf (Ce a (x + z)) = 0 := fun h => if_neg h
      have n1 : Ce a (x + z) < 0 → ngf (Ce a (x + z)) = 1 := fun h => if_pos h
      have le0 : ∀ v : Int32, 0 ≤ v → ¬ v < 0 := fun v h q => by rw [i_le, Int32.toInt_zero] at h; have := i_neg.mp q; omega
      have lt0 : ∀ v : Int32, ¬ 0 ≤ v → v < 0 := fun v h => i_neg.mpr (by rw [i_le, Int32.toInt_zero] at h; omega)
      have hng : ngf (Ce a (x + z)) ≤ 1 := by unfold ngf; split <;> omega
      have t192 : ∀ σ4 : am_Sg, HrM σ3 σ4 K (K 8) (ngf (Ce a (x + z))) (Ce a (x + z)).toInt.natAbs (K 0 1) → Wb 192 [some (.ref 116), some (.int (nI a)), some (.int (nI u)), some (.int (nI x)), some (.int (nI y)), some (.int w), some (.int 0), some (.int (nI (100 * a + x))), some (.int (rSum K (Ce a) x ww z)), some (.int (nI z)), some (.int (Ce a (x + z)))] [] nf σ4 (tauY 0 lf) := by
        intro σ4 hh
        obtain ⟨h4, hf4⟩ := HrM.inv (σ := σ3) (fun _ _ => rfl) hh h3
        have hk4 : Knd σ4 K (K 8) := fun o ho => by rw [hh.2.2 135 (by omega)]; exact hk3 o ho
        have ih := ih σ4 (some (.int (Ce a (x + z)))) h4 hk4 (fun q g1 => by rw [hf4 q g1]; exact hf3 q g1)
        have hB := hh.2.1
        rw [fo_end] at hB
        refine hs (fun p => Nat.beq p 146) 60 192 _ _ _ _ _ (vc_if (fun c => ⟨rfl, hn, lf, ngf (Ce a (x + z)), (Ce a (x + z)).toInt.natAbs, ww, K, rfl, ?_, h4.2.1, hK, hpos, ⟨hh.1, hB⟩, hb, ih⟩) (fun c => ⟨rfl, hn, lf, ngf (Ce a (x + z)), (Ce a (x + z)).toInt.natAbs, ww, K, rfl, ?_, h4.2.1, hK, hpos, ⟨hh.1, hB⟩, hb, ih⟩))
        · rw [← ab.2 (le0 _ c), ← hww]
        · rw [← ab.1 (lt0 _ c), ← hww]
      have eix : nI (100 * a + x) + nI z = nI (100 * a + x + z) := nI_add _ _
      refine hs (fun p => Nat.beq p 146 || Nat.beq p 192) 90 146 _ _ _ _ _ (vc_f (nI_ge (by omega) (by omega)) (And.intro (by rw [eix]; exact vin (show 100 * a + x + z < 400 by omega)) ?_))
      rw [eix, nI_clamp (by omega), ec]
      refine vc_if (fun c => vc_t c ⟨rfl, hn, 0, lf, (Ce a (x + z)).toInt.natAbs, ngf (Ce a (x + z)), K 8, K, rfl, ?_, h3.2.1, hK, hk3, by omega, hng, fun σ4 hh => t192 σ4 hh⟩) (fun c => vc_f c ⟨rfl, hn, 0, lf, (Ce a (x + z)).toInt.natAbs, ngf (Ce a (x + z)), K 8, K, rfl, ?_, h3.2.1, hK, hk3, by omega, hng, fun σ4 hh => t192 σ4 hh⟩)
      · rw [← ab.2 (le0 _ c), n0 (le0 _ c)]; rfl
      · rw [← ab.1 (lt0 _ c), n1 (lt0 _ c)]; rfl
  have t126 : alW (Ce a) x y → okW K w → Wb 126 [some (.ref 116), some (.int (nI a)), some (.int (nI u)), some (.int (nI x)), some (.int (nI y)), some (.int w), some (.int 0), some (.int (nI (100 * a + x))), some (.int (nI y)), none, none] [] nf σ1 (tauY 0 lf) := by
    intro hal hokw
    have eM1 := hI1.2.1.2.1
    obtain ⟨ww, hw9, e9⟩ := inN_ex (v := w) (N := 20) ⟨by omega, by omega⟩
    have tw : w.toInt = (ww : Int) := by rw [e9]; exact nI_toInt (by omega)
    refine hs (fun p => Nat.beq p 146) 60 126 _ _ _ _ _ (vc_if (fun c => And.intro rfl (fin3 _ σ1 ?_ hI1 hfr)) (fun c => ⟨rfl, hn, lf, K, rfl, rfl, hI1.2.1, hK, fun σ3 hk3 hf3 => ?_⟩))
    · rw [eM1] at c
      have c := nI_inj (b := 0) (by omega) (by omega) c
      rw [if_pos ⟨hal, hokw⟩, if_pos c]
    · rw [eM1] at c
      have c : ¬ K 0 1 = 0 := fun q => c (by rw [q]; rfl)
      have h3 : InvM σ3 K Q S Ce 0 tr := hI1.keep (fun q hq => hf3 q (by omega)) (fun i _ => by rw [hf3 116 (by omega)])
      exact key ww hal hokw (by omega) e9 (by omega) y 0 none σ3 (by omega) h3 hk3 (fun q g1 => by rw [hf3 q (by omega)]; exact hfr q g1)
  have k58 : ∀ r q, q + r = y → alW (Ce a) x q → Wb 58 [some (.ref 116), some (.int (nI a)), some (.int (nI u)), some (.int (nI x)), some (.int (nI y)), some (.int w), some (.int 0), some (.int (nI (100 * a + x))), some (.int (nI q)), none, none] [] nf σ1 (tauY 0 lf) := by
    intro r
    induction r with
    | zero =>
      intro q hq hal
      have hq : q = y := by omega
      subst hq
      have eO1 := hI1.2.1.2.2.1
      have e9 : (9 : Int32) + nI (K 0 2) = nI (9 + K 0 2) := by rw [show (9 : Int32) = nI 9 from rfl, nI_add]
      have w2 : (10 ≤ w ∧ w ≤ nI (9 + K 0 2)) ↔ (10 ≤ w.toInt ∧ w.toInt < 10 + (K 0 2 : Int)) := by
        rw [i_le, i_le, nI_toInt (by omega), show (10 : Int32).toInt = 10 from rfl]
        omega
      refine hs (fun p => Nat.beq p 126) 90 58 _ _ _ _ _ (vc_t (nI_le (Nat.le_refl _) (by omega)) ⟨rfl, w, 0, 3, rfl, fun g6 => vc_f (by decide) (t126 hal (Or.inl ((in_iff (N := 4) rfl).mp g6))), fun g6 => vc_t rfl ⟨rfl, w, 10, nI (9 + K 0 2), by rw [eO1, e9], fun g7 => vc_f (by decide) (t126 hal (Or.inr (w2.mp g7))), fun g7 => vc_t rfl (And.intro rfl (fin3 _ σ1 (if_neg (fun h => ?_)) hI1 hfr))⟩⟩)
      exact Or.elim h.2 (fun h => g6 ((in_iff (N := 4) rfl).mpr h)) (fun h => g7 (w2.mpr h))
    | succ r ih =>
      intro q hq hal
      have ec : σ1 119 (100 * a + x + q) = Ce a (x + q) := by rw [Nat.add_assoc]; exact hr.2.2 (x + q) (by omega)
      have eix : nI (100 * a + x) + nI q = nI (100 * a + x + q) := nI_add _ _
      have ih := fun g => ih (q + 1) (by omega) g
      rw [nI_succ] at ih
      refine hs (fun p => Nat.beq p 58) 90 58 _ _ _ _ _ (vc_f (nI_ge (by omega) (by omega)) (And.intro (by rw [eix]; exact vin (show 100 * a + x + q < 400 by omega)) ⟨rfl, Ce a (x + q), -9999, 9999, by rw [eix, nI_clamp (by omega), ec], fun g6 => vc_f (by decide) (ih (fun z hz => ?_)), fun g6 => vc_t rfl (And.intro rfl (fin3 _ σ1 (if_neg (fun h => g6 (w_iff.mpr (h.1 q (by omega))))) hI1 hfr))⟩))
      by_cases h : z = q
      · rw [h]; exact w_iff.mp g6
      · exact hal z (by omega)
  have h9 := k58 y 0 (by omega) (fun z hz => absurd hz (by omega))
  rw [← i100] at h9
  exact vc_t rfl h9)
