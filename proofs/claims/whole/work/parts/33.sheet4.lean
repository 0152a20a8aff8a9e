def f_cell (k v t : Int32) (s : ST) : Value × ST := if inN k 4 ∧ inN t 3 then (if s.2.2.1 k.toNatClampNeg 0 = 0 then ((.long (-9223372036854775808)), setF s 1) else if s.2.2.1 k.toNatClampNeg 1 = t.toNatClampNeg then (if inN v (s.2.2.1 k.toNatClampNeg 2) then (.long (s.2.2.2.1 k.toNatClampNeg v.toNatClampNeg).toInt64, setF s 0) else ((.long (-9223372036854775808)), setF s 3)) else ((.long (-9223372036854775808)), setF s 2)) else ((.long (-9223372036854775808)), setF s 0)
def C_xcell : am_C := fun av n σ τ nf P => ∃ (k : Int32) (v : Int32) (t : Int32), pubX [.int k, .int v, .int t] (f_cell k v t) av n σ τ nf P
set_option maxRecDepth 100000 in
theorem M_xcell (d : Nat) : am_Met (d + 3) 732 C_xcell := am_meth (own0 := "CanalEnd") 732 (d + 2) 155 T_X7_cell (fun y => bif Nat.beq y 742 then C_isSheet else (bif Nat.beq y 743 then C_isSort else (bif Nat.beq y 402 then C_faultAs else (bif Nat.beq y 403 then C_isCell else (am_no))))) C_xcell rfl F_X7_cell rfl (by decide +kernel) Tc_X7_cell (fun y => am_g (M_isSheet (d + 0)) (am_g (M_isSort (d + 0)) (am_g (M_faultAs (d + 1)) (am_g (M_isCell (d + 0)) (am_no_met))))) (by
  intro av n σ τ nf P hnf hC
  obtain ⟨k, v, t, rfl, lf, ⟨K, Q, S, Ce, fl, tr⟩, rfl, hI, rfl, hP⟩ := hC
  have hn := Nlf_le hI.2.2.2.2.2.2.2.2.2
  refine ⟨hn, rfl, Nat.le_of_ble_eq_true rfl, fun Wb hs => ?_⟩
  have hI : InvX σ nf lf K Q S Ce fl tr := hI
  have hK := hI.1
  have hR := hI.2.1
  have hM10 := hK.2.1
  have hO8 := hK.2.2.1
  have eM : σ 1 1 = nI (K 0 1) := hR.1 1 (by omega)
  have eO : σ 1 2 = nI (K 0 2) := hR.1 2 (by omega)
  have fin : ∀ r9 : Int32, (f_cell k v t (K, Q, S, Ce, fl, tr)).2 = (K, Q, S, Ce, fl, tr) → (f_cell k v t (K, Q, S, Ce, fl, tr)).1 = .int r9 → P (some (.int r9)) σ (tauY 0 lf) := fun r9 e1 e2 => p_eqv e2 (hP σ (by rw [e1]; exact hI) (fun _ _ => fun _ => rfl))
  have fin2 : ∀ (v9 : Value) (K9 Q9 S9 : KT) (Ce9 : Nat → Nat → Int32) (fl9 : Nat) (tr9 : Int32) (σ9 : am_Sg), f_cell k v t (K, Q, S, Ce, fl, tr) = (v9, (K9, Q9, S9, Ce9, fl9, tr9)) → InvX σ9 nf lf K9 Q9 S9 Ce9 fl9 tr9 → FrX σ σ9 → P (some v9) σ9 (tauY 0 lf) := fun v9 K9 Q9 S9 Ce9 fl9 tr9 σ9 e h1 h2 => by have := hP σ9 (by rw [e]; exact h1) h2; rw [e] at this; exact this
  refine hs (fun _ => false) 90 0 _ _ _ _ _ (fun σ1 e1 => ?_)
  have e1 : σ1 = am_up σ 0 10 (nI 0) := e1
  have hI1 : InvX σ1 nf lf K Q S Ce 0 tr := by rw [e1]; exact hI.fl
  have hfr : FrX σ σ1 := fun q g1 g2 => by rw [e1]; exact am_up_ne (by omega)
  refine ⟨rfl, k, rfl, fun g => ?_, fun g => vc_t rfl (And.intro rfl (fin2 _ K Q S Ce 0 tr σ1 (by unfold f_cell; rw [if_neg (fun q => g q.1)]; rfl) hI1 hfr))⟩
  refine vc_f (by decide) ⟨rfl, t, rfl, fun g2 => ?_, fun g2 => vc_t rfl (And.intro rfl (fin2 _ K Q S Ce 0 tr σ1 (by unfold f_cell; rw [if_neg (fun q => g2 q.2)]; rfl) hI1 hfr))⟩
  obtain ⟨i, hi, rfl⟩ := inN_ex g
  have hc : (nI i).toNatClampNeg = i := nI_clamp (by omega)
  obtain ⟨u, hu, rfl⟩ := inN_ex g2
  have hcu : (nI u).toNatClampNeg = u := nI_clamp (by omega)
  have hw := hI1.2.2.2.2.2.1 i hi
  have hr := hI1.2.2.2.2.2.2.1 i hi
  have no : ∀ (c : S i 0 = 0) (σ2 : am_Sg), σ2 = am_up σ1 0 10 (nI 1) → P (some (.long (-9223372036854775808))) σ2 (tauY 0 lf) := fun c σ2 e2 => fin2 _ K Q S Ce 1 tr σ2 (by unfold f_cell; rw [if_pos ⟨g, g2⟩, hc, if_pos c]; rfl) (by rw [e2]; exact hI1.fl (v := 1)) (fun q g1 g2 => by rw [e2, am_up_ne (by omega)]; exact hfr q g1 g2)
  have ca : ∀ (c : ¬ S i 0 = 0) (d : ¬ S i 1 = u) (σ2 : am_Sg), σ2 = am_up σ1 0 10 (nI 2) → P (some (.long (-9223372036854775808))) σ2 (tauY 0 lf) := fun c d σ2 e2 => fin2 _ K Q S Ce 2 tr σ2 (by unfold f_cell; rw [if_pos ⟨g, g2⟩, hc, hcu, if_neg c, if_neg d]; rfl) (by rw [e2]; exact hI1.fl (v := 2)) (fun q g1 g2 => by rw [e2, am_up_ne (by omega)]; exact hfr q g1 g2)
  have off : ∀ (c : ¬ S i 0 = 0) (d : S i 1 = u) (g4 : ¬ inN v (S i 2)) (σ2 : am_Sg), σ2 = am_up σ1 0 10 (nI 3) → P (some (.long (-9223372036854775808))) σ2 (tauY 0 lf) := fun c d g4 σ2 e2 => fin2 _ K Q S Ce 3 tr σ2 (by unfold f_cell; rw [if_pos ⟨g, g2⟩, hc, hcu, if_neg c, if_pos d, if_neg g4]; rfl) (by rw [e2]; exact hI1.fl (v := 3)) (fun q g1 g2 => by rw [e2, am_up_ne (by omega)]; exact hfr q g1 g2)
  have yes : ∀ (c : ¬ S i 0 = 0) (d : S i 1 = u) (g4 : inN v (S i 2)) (σ2 : am_Sg), σ2 = am_up σ1 0 10 (nI 0) → P (some (.long (σ2 (109 + 2 * i) v.toNatClampNeg).toInt64)) σ2 (tauY 0 lf) := fun c d g4 σ2 e2 => by
    have hvv := (inN_c g4).1
    have e9 : σ2 (109 + 2 * i) v.toNatClampNeg = Ce i v.toNatClampNeg := by rw [e2, up_rn (by omega)]; exact hr.2.2.2 _ (by omega)
    rw [e9]
    exact fin2 _ K Q S Ce 0 tr σ2 (by unfold f_cell; rw [if_pos ⟨g, g2⟩, hc, hcu, if_neg c, if_pos d, if_pos g4]; rfl) (by rw [e2]; exact hI1.fl (v := 0)) (fun q g1 g2 => by rw [e2, am_up_ne (by omega)]; exact hfr q g1 g2)
  have e0 : σ1 (108 + 2 * i) 0 = 0 ↔ S i 0 = 0 := by
    rw [hr.1]
    exact nI_eq (b := 0) (by omega) (by omega)
  have e1 : σ1 (108 + 2 * i) 1 = nI u ↔ S i 1 = u := by
    rw [hr.2.1]
    exact nI_eq (by omega) (by omega)
  have hv : inN v (S i 2) → vp_in v 100 := fun g4 => by
    obtain ⟨a, ha, rfl⟩ := inN_ex g4
    exact vin (q := 109) (show a < 100 by omega)
  refine vc_f (by decide) (And.intro (vin (show i < 4 by omega)) ?_)
  rw [hc]
  rcases k4 hi with rfl | rfl | rfl | rfl
  · refine And.intro (sh_nz hi) (fun z hz => ?_)
    cases hz
    refine ⟨rfl, hn, 0, nI u, hi, rfl, fun c => vc_f (by decide) (fun σ2 e2 => vc_f (by decide) (And.intro rfl (no (e0.mp c) σ2 e2))), fun c d => ?_, fun c d => vc_f (by decide) (fun σ2 e2 => vc_f (by decide) (And.intro rfl (ca (fun q => c (e0.mpr q)) (fun q => d (e1.mpr q)) σ2 e2)))⟩
    have c : ¬ S 0 0 = 0 := fun q => c (e0.mpr q)
    have d := e1.mp d
    refine vc_t rfl ⟨rfl, hn, 0, S 0 2, v, hi, rfl, hr.2.2.1, hw.2.2, fun g4 => vc_f (by decide) (fun σ2 e2 => vc_t rfl (And.intro (hv g4) (And.intro rfl (yes c d g4 σ2 e2)))), fun g4 => vc_t rfl (fun σ2 e2 => vc_f (by decide) (And.intro rfl (off c d g4 σ2 e2)))⟩
  · refine And.intro (sh_nz hi) (fun z hz => ?_)
    cases hz
    refine ⟨rfl, hn, 1, nI u, hi, rfl, fun c => vc_f (by decide) (fun σ2 e2 => vc_f (by decide) (And.intro rfl (no (e0.mp c) σ2 e2))), fun c d => ?_, fun c d => vc_f (by decide) (fun σ2 e2 => vc_f (by decide) (And.intro rfl (ca (fun q => c (e0.mpr q)) (fun q => d (e1.mpr q)) σ2 e2)))⟩
    have c : ¬ S 1 0 = 0 := fun q => c (e0.mpr q)
    have d := e1.mp d
    refine vc_t rfl ⟨rfl, hn, 1, S 1 2, v, hi, rfl, hr.2.2.1, hw.2.2, fun g4 => vc_f (by decide) (fun σ2 e2 => vc_t rfl (And.intro (hv g4) (And.intro rfl (yes c d g4 σ2 e2)))), fun g4 => vc_t rfl (fun σ2 e2 => vc_f (by decide) (And.intro rfl (off c d g4 σ2 e2)))⟩
  · refine And.intro (sh_nz hi) (fun z hz => ?_)
    cases hz
    refine ⟨rfl, hn, 2, nI u, hi, rfl, fun c => vc_f (by decide) (fun σ2 e2 => vc_f (by decide) (And.intro rfl (no (e0.mp c) σ2 e2))), fun c d => ?_, fun c d => vc_f (by decide) (fun σ2 e2 => vc_f (by decide) (And.intro rfl (ca (fun q => c (e0.mpr q)) (fun q => d (e1.mpr q)) σ2 e2)))⟩
    have c : ¬ S 2 0 = 0 := fun q => c (e0.mpr q)
    have d := e1.mp d
    refine vc_t rfl ⟨rfl, hn, 2, S 2 2, v, hi, rfl, hr.2.2.1, hw.2.2, fun g4 => vc_f (by decide) (fun σ2 e2 => vc_t rfl (And.intro (hv g4) (And.intro rfl (yes c d g4 σ2 e2)))), fun g4 => vc_t rfl (fun σ2 e2 => vc_f (by decide) (And.intro rfl (off c d g4 σ2 e2)))⟩
  · refine And.intro (sh_nz hi) (fun z hz => ?_)
    cases hz
    refine ⟨rfl, hn, 3, nI u, hi, rfl, fun c => vc_f (by decide) (fun σ2 e2 => vc_f (by decide) (And.intro rfl (no (e0.mp c) σ2 e2))), fun c d => ?_, fun c d => vc_f (by decide) (fun σ2 e2 => vc_f (by decide) (And.intro rfl (ca (fun q => c (e0.mpr q)) (fun q => d (e1.mpr q)) σ2 e2)))⟩
    have c : ¬ S 3 0 = 0 := fun q => c (e0.mpr q)
    have d := e1.mp d
    refine vc_t rfl ⟨rfl, hn, 3, S 3 2, v, hi, rfl, hr.2.2.1, hw.2.2, fun g4 => vc_f (by decide) (fun σ2 e2 => vc_t rfl (And.intro (hv g4) (And.intro rfl (yes c d g4 σ2 e2)))), fun g4 => vc_t rfl (fun σ2 e2 => vc_f (by decide) (And.intro rfl (off c d g4 σ2 e2)))⟩)
def C_mcell : am_C := fun av n σ τ nf P => ∃ (k : Int32) (v : Int32) (t : Int32), pubM [.int k, .int v, .int t] (f_cell k v t) av n σ τ nf P
set_option maxRecDepth 100000 in
theorem M_mcell (d : Nat) : am_Met (d + 3) 865 C_mcell := am_meth (own0 := "CanalEndModel") 865 (d + 2) 155 T_X8_cell (fun y => bif Nat.beq y 806 then C_mSheet else (bif Nat.beq y 807 then C_mSort else (bif Nat.beq y 802 then C_mlost else (bif Nat.beq y 803 then C_within else (am_no))))) C_mcell rfl F_X8_cell rfl (by decide +kernel) Tc_X8_cell (fun y => am_g (M_mSheet (d + 0)) (am_g (M_mSort (d + 0)) (am_g (M_mlost (d + 1)) (am_g (M_within (d + 1)) (am_no_met))))) (by
  intro av n σ τ nf P hnf hC
  obtain ⟨k, v, t, rfl, hn, lf, ⟨K, Q, S, Ce, fl, tr⟩, rfl, hI, rfl, hP⟩ := hC
  refine ⟨hn, rfl, Nat.le_of_ble_eq_true rfl, fun Wb hs => ?_⟩
  have hI : InvM σ K Q S Ce fl tr := hI
  have hK := hI.1
  have hR := hI.2.1
  have hM10 := hK.2.1
  have hO8 := hK.2.2.1
  have eM := hR.2.1
  have eO := hR.2.2.1
  have fin : ∀ r9 : Int32, (f_cell k v t (K, Q, S, Ce, fl, tr)).2 = (K, Q, S, Ce, fl, tr) → (f_cell k v t (K, Q, S, Ce, fl, tr)).1 = .int r9 → P (some (.int r9)) σ (tauY 0 lf) := fun r9 e1 e2 => p_eqv e2 (hP σ (by rw [e1]; exact hI) (fun _ _ => rfl))
  have fin2 : ∀ (v9 : Value) (K9 Q9 S9 : KT) (Ce9 : Nat → Nat → Int32) (fl9 : Nat) (tr9 : Int32) (σ9 : am_Sg), f_cell k v t (K, Q, S, Ce, fl, tr) = (v9, (K9, Q9, S9, Ce9, fl9, tr9)) → InvM σ9 K9 Q9 S9 Ce9 fl9 tr9 → FrM σ σ9 → P (some v9) σ9 (tauY 0 lf) := fun v9 K9 Q9 S9 Ce9 fl9 tr9 σ9 e h1 h2 => by have := hP σ9 (by rw [e]; exact h1) h2; rw [e] at this; exact this
  refine hs (fun p => Nat.beq p 50) 90 0 _ _ _ _ _ (fun σ1 e1 => ?_)
  have e1 : σ1 = am_up σ 116 0 (nI 0) := e1
  have hI1 : InvM σ1 K Q S Ce 0 tr := by rw [e1]; exact hI.fl
  have hfr : FrM σ σ1 := fun q g1 => by rw [e1]; exact am_up_ne (by omega)
  refine ⟨rfl, k, rfl, fun g => ?_, fun g => vc_t rfl (And.intro rfl (fin2 _ K Q S Ce 0 tr σ1 (by unfold f_cell; rw [if_neg (fun q => g q.1)]; rfl) hI1 hfr))⟩
  refine vc_f (by decide) ⟨rfl, t, rfl, fun g2 => ?_, fun g2 => vc_t rfl (And.intro rfl (fin2 _ K Q S Ce 0 tr σ1 (by unfold f_cell; rw [if_neg (fun q => g2 q.2)]; rfl) hI1 hfr))⟩
  obtain ⟨i, hi, rfl⟩ := inN_ex g
  have hc : (nI i).toNatClampNeg = i := nI_clamp (by omega)
  obtain ⟨u, hu, rfl⟩ := inN_ex g2
  have hcu : (nI u).toNatClampNeg = u := nI_clamp (by omega)
  have hw := hI1.2.2.2.2.1 i hi
  have hr := hI1.2.2.2.2.2.1 i hi
  have h7 := hr.1
  have hl := nI_m1 (M := S i 2) (by omega)
  have j52 : (S i 0 = 0 ∨ S i 1 = u) → Wb 50 [some (.ref 116), some (.int (nI i)), some (.int v), some (.int (nI u))] [] nf σ1 (tauY 0 lf) := by
    intro hd
    refine hs (fun _ => false) 60 50 _ _ _ _ _ (And.intro (vin (show i < 4 by omega)) (vc_if (fun c => ?_) (fun c => ?_)))
    · rw [hc, h7] at c
      have c := s9 hw.2.1 c
      exact ⟨rfl, hn, lf, 1, rfl, rfl, And.intro rfl (fin2 _ K Q S Ce 1 tr _ (by unfold f_cell; rw [if_pos ⟨g, g2⟩, hc, if_pos c]; rfl) (hI1.fl (v := 1)) (fun q g1 => by rw [am_up_ne (by omega)]; exact hfr q g1))⟩
    · rw [hc, h7] at c
      have c : ¬ S i 0 = 0 := fun q => c (if_pos q)
      have d : S i 1 = u := by omega
      refine And.intro (vin (show i < 4 by omega)) ⟨rfl, v, 0, nI (S i 2) - 1, by rw [hc, hr.2.1], fun g4 => ?_, fun g4 => ?_⟩
      · have g4 := (in_iff hl).mp g4
        have g5 := g4
        obtain ⟨a, ha, rfl⟩ := inN_ex g4
        have hca : (nI a).toNatClampNeg = a := nI_clamp (by omega)
        have hix : vp_in ((100 : Int32) * nI i + nI a) 400 := by rw [i100]; exact vin (q := 119) (show 100 * i + a < 400 by omega)
        have hcx : ((100 : Int32) * nI i + nI a).toNatClampNeg = 100 * i + (nI a).toNatClampNeg := by rw [i100, hca]; exact nI_clamp (by omega)
        refine vc_f (by decide) (And.intro hix (And.intro rfl ?_))
        rw [hcx, hr.2.2 _ (by omega)]
        have g4 := g5
        exact fin2 _ K Q S Ce 0 tr σ1 (by unfold f_cell; rw [if_pos ⟨g, g2⟩, hc, hcu, if_neg c, if_pos d, if_pos g4]; rfl) hI1 hfr
      · have g4 : ¬ inN v (S i 2) := fun q => g4 ((in_iff hl).mpr q)
        exact vc_t rfl ⟨rfl, hn, lf, 3, rfl, rfl, And.intro rfl (fin2 _ K Q S Ce 3 tr _ (by unfold f_cell; rw [if_pos ⟨g, g2⟩, hc, hcu, if_neg c, if_pos d, if_neg g4]; rfl) (hI1.fl (v := 3)) (fun q g1 => by rw [am_up_ne (by omega)]; exact hfr q g1))⟩
  refine vc_f (by decide) (And.intro (vin (show i < 4 by omega)) (vc_if (fun c => ?_) (fun c => And.intro (vin (show i < 4 by omega)) (vc_if (fun d => ?_) (fun d => ?_)))))
  · rw [hc, h7] at c
    exact j52 (Or.inl (s9 hw.2.1 c))
  · rw [hc, h7] at c d
    have c : ¬ S i 0 = 0 := fun q => c (if_pos q)
    rw [if_neg c] at d
    exact j52 (Or.inr (nI_inj (by omega) (by omega) d))
  · rw [hc, h7] at c d
    have c : ¬ S i 0 = 0 := fun q => c (if_pos q)
    rw [if_neg c] at d
    have d : ¬ S i 1 = u := fun q => d (by rw [q])
    exact ⟨rfl, hn, lf, 2, rfl, rfl, And.intro rfl (fin2 _ K Q S Ce 2 tr _ (by unfold f_cell; rw [if_pos ⟨g, g2⟩, hc, hcu, if_neg c, if_neg d]; rfl) (hI1.fl (v := 2)) (fun q g1 => by rw [am_up_ne (by omega)]; exact hfr q g1))⟩)
