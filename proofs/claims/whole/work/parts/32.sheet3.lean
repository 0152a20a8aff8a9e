def C_xput : am_C := fun av n σ τ nf P => ∃ (k : Int32) (v : Int32) (w : Int32), pubX [.int k, .int v, .int w] (f_put k v w) av n σ τ nf P
set_option maxRecDepth 100000 in
theorem M_xput (d : Nat) : am_Met (d + 3) 731 C_xput := am_meth (own0 := "CanalEnd") 731 (d + 2) 155 T_X7_put (fun y => bif Nat.beq y 742 then C_isSheet else (bif Nat.beq y 751 then C_faulty else (bif Nat.beq y 403 then C_isCell else (bif Nat.beq y 406 then C_cut else (am_no))))) C_xput rfl F_X7_put rfl (by decide +kernel) Tc_X7_put (fun y => am_g (M_isSheet (d + 0)) (am_g (M_faulty (d + 1)) (am_g (M_isCell (d + 0)) (am_g (M_cut (d + 1)) (am_no_met))))) (by
  intro av n σ τ nf P hnf hC
  obtain ⟨k, v, w, rfl, lf, ⟨K, Q, S, Ce, fl, tr⟩, rfl, hI, rfl, hP⟩ := hC
  have hn := Nlf_le hI.2.2.2.2.2.2.2.2.2
  refine ⟨hn, rfl, Nat.le_of_ble_eq_true rfl, fun Wb hs => ?_⟩
  have hI : InvX σ nf lf K Q S Ce fl tr := hI
  have hK := hI.1
  have hR := hI.2.1
  have hM10 := hK.2.1
  have hO8 := hK.2.2.1
  have eM : σ 1 1 = nI (K 0 1) := hR.1 1 (by omega)
  have eO : σ 1 2 = nI (K 0 2) := hR.1 2 (by omega)
  have fin : ∀ r9 : Int32, (f_put k v w (K, Q, S, Ce, fl, tr)).2 = (K, Q, S, Ce, fl, tr) → (f_put k v w (K, Q, S, Ce, fl, tr)).1 = .int r9 → P (some (.int r9)) σ (tauY 0 lf) := fun r9 e1 e2 => p_eqv e2 (hP σ (by rw [e1]; exact hI) (fun _ _ => fun _ => rfl))
  have fin2 : ∀ (v9 : Value) (K9 Q9 S9 : KT) (Ce9 : Nat → Nat → Int32) (fl9 : Nat) (tr9 : Int32) (σ9 : am_Sg), f_put k v w (K, Q, S, Ce, fl, tr) = (v9, (K9, Q9, S9, Ce9, fl9, tr9)) → InvX σ9 nf lf K9 Q9 S9 Ce9 fl9 tr9 → FrX σ σ9 → P (some v9) σ9 (tauY 0 lf) := fun v9 K9 Q9 S9 Ce9 fl9 tr9 σ9 e h1 h2 => by have := hP σ9 (by rw [e]; exact h1) h2; rw [e] at this; exact this
  refine hs (fun _ => false) 90 0 _ _ _ _ _ (fun σ1 e1 => ?_)
  have e1 : σ1 = am_up σ 0 10 (nI 0) := e1
  have hI1 : InvX σ1 nf lf K Q S Ce 0 tr := by rw [e1]; exact hI.fl
  have hfr : FrX σ σ1 := fun q g1 g2 => by rw [e1]; exact am_up_ne (by omega)
  refine ⟨rfl, k, rfl, fun g => ?_, fun g => vc_t rfl (And.intro rfl (fin2 _ K Q S Ce 0 tr σ1 (by unfold f_put; rw [if_neg g]; rfl) hI1 hfr))⟩
  obtain ⟨i, hi, rfl⟩ := inN_ex g
  have hc : (nI i).toNatClampNeg = i := nI_clamp (by omega)
  have hw := hI1.2.2.2.2.2.1 i hi
  have hr := hI1.2.2.2.2.2.2.1 i hi
  have no : ∀ c : S i 0 = 0, P (some (.int (-11))) (am_up σ1 0 10 (nI 1)) (tauY 0 lf) := fun c => fin2 _ K Q S Ce 1 tr _ (by unfold f_put; rw [if_pos g, hc, if_pos c]; rfl) (hI1.fl (v := 1)) (fun q g1 g2 => by rw [am_up_ne (by omega)]; exact hfr q g1 g2)
  have off : ∀ (c : ¬ S i 0 = 0) (g4 : ¬ inN v (S i 2)), P (some (.int (-13))) (am_up σ1 0 10 (nI 3)) (tauY 0 lf) := fun c g4 => fin2 _ K Q S Ce 3 tr _ (by unfold f_put; rw [if_pos g, hc, if_neg c, if_neg g4]; rfl) (hI1.fl (v := 3)) (fun q g1 g2 => by rw [am_up_ne (by omega)]; exact hfr q g1 g2)
  have yes : ∀ (c : ¬ S i 0 = 0) (g4 : inN v (S i 2)) (σ2 : am_Sg), σ2 = am_up σ1 (109 + 2 * i) v.toNatClampNeg (cutv (S i 1) w) → P (some (.int 1)) σ2 (tauY 0 lf) := fun c g4 σ2 e2 => by
    have h9 := hI1.sh (σ' := σ2) (k := i) (s := S i) (c := setC (Ce i) v.toNatClampNeg (cutv (S i 1) w)) hi hw ⟨by rw [e2, up_rn (by omega)]; exact hr.1, by rw [e2, up_rn (by omega)]; exact hr.2.1, by rw [e2, up_rn (by omega)]; exact hr.2.2.1, fun j hj => ?_⟩ (fun q g1 g2 => by rw [e2]; exact am_up_ne g2)
    · rw [rowS_self] at h9
      exact fin2 _ _ _ _ _ _ _ σ2 (by unfold f_put; rw [if_pos g, hc, if_neg c, if_pos g4]) h9 (fun q g1 g2 => by rw [e2, am_up_ne (by omega)]; exact hfr q g1 g2)
    · unfold setC
      by_cases q : j = v.toNatClampNeg
      · rw [if_pos q, q, e2]; exact up_at
      · rw [if_neg q, e2, up_ne q]; exact hr.2.2.2 j hj
  have e0 : σ1 (108 + 2 * i) 0 = 0 ↔ S i 0 = 0 := by
    rw [hr.1]
    exact nI_eq (b := 0) (by omega) (by omega)
  refine vc_f (by decide) (And.intro (vin (show i < 4 by omega)) ?_)
  rw [hc]
  have hv : inN v (S i 2) → vp_in v 100 := fun g4 => by
    obtain ⟨a, ha, rfl⟩ := inN_ex g4
    exact vin (q := 109) (show a < 100 by omega)
  rcases k4 hi with rfl | rfl | rfl | rfl
  · refine And.intro (sh_nz hi) (fun z hz => ?_)
    cases hz
    refine vc_if (fun c => ⟨rfl, hn, lf, 1, rfl, rfl, And.intro rfl (no (e0.mp c))⟩) (fun c => ?_)
    have c : ¬ S 0 0 = 0 := fun q => c (e0.mpr q)
    refine ⟨rfl, hn, 0, S 0 2, v, hi, rfl, hr.2.2.1, hw.2.2, fun g4 => ?_, fun g4 => vc_t rfl ⟨rfl, hn, lf, 3, rfl, rfl, And.intro rfl (off c g4)⟩⟩
    refine vc_f (by decide) ⟨rfl, hn, 0, S 0 1, w, hi, rfl, hr.2.1, hw.2.1, And.intro (hv g4) (fun σ2 e2 => And.intro rfl (yes c g4 σ2 e2))⟩
  · refine And.intro (sh_nz hi) (fun z hz => ?_)
    cases hz
    refine vc_if (fun c => ⟨rfl, hn, lf, 1, rfl, rfl, And.intro rfl (no (e0.mp c))⟩) (fun c => ?_)
    have c : ¬ S 1 0 = 0 := fun q => c (e0.mpr q)
    refine ⟨rfl, hn, 1, S 1 2, v, hi, rfl, hr.2.2.1, hw.2.2, fun g4 => ?_, fun g4 => vc_t rfl ⟨rfl, hn, lf, 3, rfl, rfl, And.intro rfl (off c g4)⟩⟩
    refine vc_f (by decide) ⟨rfl, hn, 1, S 1 1, w, hi, rfl, hr.2.1, hw.2.1, And.intro (hv g4) (fun σ2 e2 => And.intro rfl (yes c g4 σ2 e2))⟩
  · refine And.intro (sh_nz hi) (fun z hz => ?_)
    cases hz
    refine vc_if (fun c => ⟨rfl, hn, lf, 1, rfl, rfl, And.intro rfl (no (e0.mp c))⟩) (fun c => ?_)
    have c : ¬ S 2 0 = 0 := fun q => c (e0.mpr q)
    refine ⟨rfl, hn, 2, S 2 2, v, hi, rfl, hr.2.2.1, hw.2.2, fun g4 => ?_, fun g4 => vc_t rfl ⟨rfl, hn, lf, 3, rfl, rfl, And.intro rfl (off c g4)⟩⟩
    refine vc_f (by decide) ⟨rfl, hn, 2, S 2 1, w, hi, rfl, hr.2.1, hw.2.1, And.intro (hv g4) (fun σ2 e2 => And.intro rfl (yes c g4 σ2 e2))⟩
  · refine And.intro (sh_nz hi) (fun z hz => ?_)
    cases hz
    refine vc_if (fun c => ⟨rfl, hn, lf, 1, rfl, rfl, And.intro rfl (no (e0.mp c))⟩) (fun c => ?_)
    have c : ¬ S 3 0 = 0 := fun q => c (e0.mpr q)
    refine ⟨rfl, hn, 3, S 3 2, v, hi, rfl, hr.2.2.1, hw.2.2, fun g4 => ?_, fun g4 => vc_t rfl ⟨rfl, hn, lf, 3, rfl, rfl, And.intro rfl (off c g4)⟩⟩
    refine vc_f (by decide) ⟨rfl, hn, 3, S 3 1, w, hi, rfl, hr.2.1, hw.2.1, And.intro (hv g4) (fun σ2 e2 => And.intro rfl (yes c g4 σ2 e2))⟩)
def C_mput : am_C := fun av n σ τ nf P => ∃ (k : Int32) (v : Int32) (w : Int32), pubM [.int k, .int v, .int w] (f_put k v w) av n σ τ nf P
set_option maxRecDepth 100000 in
theorem M_mput (d : Nat) : am_Met (d + 3) 864 C_mput := am_meth (own0 := "CanalEndModel") 864 (d + 2) 155 T_X8_put (fun y => bif Nat.beq y 806 then C_mSheet else (bif Nat.beq y 801 then C_fails else (bif Nat.beq y 803 then C_within else (am_no)))) C_mput rfl F_X8_put rfl (by decide +kernel) Tc_X8_put (fun y => am_g (M_mSheet (d + 0)) (am_g (M_fails (d + 1)) (am_g (M_within (d + 1)) (am_no_met)))) (by
  intro av n σ τ nf P hnf hC
  obtain ⟨k, v, w, rfl, hn, lf, ⟨K, Q, S, Ce, fl, tr⟩, rfl, hI, rfl, hP⟩ := hC
  refine ⟨hn, rfl, Nat.le_of_ble_eq_true rfl, fun Wb hs => ?_⟩
  have hI : InvM σ K Q S Ce fl tr := hI
  have hK := hI.1
  have hR := hI.2.1
  have hM10 := hK.2.1
  have hO8 := hK.2.2.1
  have eM := hR.2.1
  have eO := hR.2.2.1
  have fin : ∀ r9 : Int32, (f_put k v w (K, Q, S, Ce, fl, tr)).2 = (K, Q, S, Ce, fl, tr) → (f_put k v w (K, Q, S, Ce, fl, tr)).1 = .int r9 → P (some (.int r9)) σ (tauY 0 lf) := fun r9 e1 e2 => p_eqv e2 (hP σ (by rw [e1]; exact hI) (fun _ _ => rfl))
  have fin2 : ∀ (v9 : Value) (K9 Q9 S9 : KT) (Ce9 : Nat → Nat → Int32) (fl9 : Nat) (tr9 : Int32) (σ9 : am_Sg), f_put k v w (K, Q, S, Ce, fl, tr) = (v9, (K9, Q9, S9, Ce9, fl9, tr9)) → InvM σ9 K9 Q9 S9 Ce9 fl9 tr9 → FrM σ σ9 → P (some v9) σ9 (tauY 0 lf) := fun v9 K9 Q9 S9 Ce9 fl9 tr9 σ9 e h1 h2 => by have := hP σ9 (by rw [e]; exact h1) h2; rw [e] at this; exact this
  refine hs (fun _ => false) 90 0 _ _ _ _ _ (fun σ1 e1 => ?_)
  have e1 : σ1 = am_up σ 116 0 (nI 0) := e1
  have hI1 : InvM σ1 K Q S Ce 0 tr := by rw [e1]; exact hI.fl
  have hfr : FrM σ σ1 := fun q g1 => by rw [e1]; exact am_up_ne (by omega)
  refine ⟨rfl, k, rfl, fun g => ?_, fun g => vc_t rfl (And.intro rfl (fin2 _ K Q S Ce 0 tr σ1 (by unfold f_put; rw [if_neg g]; rfl) hI1 hfr))⟩
  obtain ⟨i, hi, rfl⟩ := inN_ex g
  have hc : (nI i).toNatClampNeg = i := nI_clamp (by omega)
  have hw := hI1.2.2.2.2.1 i hi
  have hr := hI1.2.2.2.2.2.1 i hi
  have yes : ∀ (c : ¬ S i 0 = 0) (g4 : inN v (S i 2)) (σ2 : am_Sg) (u : Int32), u = cutv (S i 1) w → σ2 = am_up σ1 119 (100 * i + v.toNatClampNeg) u → P (some (.int 1)) σ2 (tauY 0 lf) := fun c g4 σ2 u eu e2 => by
    have hvv := (inN_c g4).1
    have h9 := hI1.sh (σ' := σ2) (k := i) (s := S i) (c := setC (Ce i) v.toNatClampNeg (cutv (S i 1) w)) hw ⟨by rw [e2, up_rn (by omega)]; exact hr.1, by rw [e2, up_rn (by omega)]; exact hr.2.1, fun j hj => ?_⟩ (fun q g1 g2 g3 => by rw [e2]; exact am_up_ne g3) (fun j hj => ⟨by rw [e2]; exact up_rn (by omega), by rw [e2]; exact up_rn (by omega)⟩) (fun j hj => by rw [e2]; exact up_ne (by omega))
    · rw [rowS_self] at h9
      exact fin2 _ _ _ _ _ _ _ σ2 (by unfold f_put; rw [if_pos g, hc, if_neg c, if_pos g4]) h9 (fun q g1 => by rw [e2, am_up_ne (by omega)]; exact hfr q g1)
    · unfold setC
      by_cases q : j = v.toNatClampNeg
      · rw [if_pos q, q, e2, ← eu]; exact up_at
      · rw [if_neg q, e2, up_ne (by omega)]; exact hr.2.2 j hj
  have h7 := hr.1
  have hl := nI_m1 (M := S i 2) (by omega)
  refine vc_f (by decide) (And.intro (vin (show i < 4 by omega)) (vc_if (fun c => ?_) (fun c => ?_)))
  · rw [hc, h7] at c
    have c := s9 hw.2.1 c
    exact ⟨rfl, hn, lf, 1, rfl, rfl, And.intro rfl (fin2 _ K Q S Ce 1 tr _ (by unfold f_put; rw [if_pos g, hc, if_pos c]; rfl) (hI1.fl (v := 1)) (fun q g1 => by rw [am_up_ne (by omega)]; exact hfr q g1))⟩
  · rw [hc, h7] at c
    have c : ¬ S i 0 = 0 := fun q => c (if_pos q)
    rw [if_neg c] at h7
    refine And.intro (vin (show i < 4 by omega)) ⟨rfl, v, 0, nI (S i 2) - 1, by rw [hc, hr.2.1], fun g4 => ?_, fun g4 => ?_⟩
    · have g4 := (in_iff hl).mp g4
      have g5 := g4
      obtain ⟨a, ha, rfl⟩ := inN_ex g4
      have hca : (nI a).toNatClampNeg = a := nI_clamp (by omega)
      have hix : vp_in ((100 : Int32) * nI i + nI a) 400 := by rw [i100]; exact vin (q := 119) (show 100 * i + a < 400 by omega)
      have hcx : ((100 : Int32) * nI i + nI a).toNatClampNeg = 100 * i + (nI a).toNatClampNeg := by rw [i100, hca]; exact nI_clamp (by omega)
      refine vc_f (by decide) (And.intro (vin (show i < 4 by omega)) (vc_if (fun d => And.intro hix (fun σ2 e2 => And.intro rfl ?_)) (fun d => And.intro (vin (show i < 4 by omega)) (vc_if (fun d2 => And.intro hix (fun σ2 e2 => And.intro rfl ?_)) (fun d2 => And.intro hix (fun σ2 e2 => And.intro rfl ?_))))))
      · rw [hc, h7] at d
        have d := nI_inj (b := 0) (by omega) (by omega) d
        rw [hcx] at e2
        exact yes c g5 σ2 _ (by unfold cutv; rw [if_pos d]) e2
      · rw [hc, h7] at d d2
        have d : ¬ S i 1 = 0 := fun q => d (by rw [q]; rfl)
        have d2 := nI_inj (b := 1) (by omega) (by omega) d2
        rw [hcx] at e2
        exact yes c g5 σ2 _ (by unfold cutv; rw [if_neg d, if_pos d2]) e2
      · rw [hc, h7] at d d2
        have d : ¬ S i 1 = 0 := fun q => d (by rw [q]; rfl)
        have d2 : ¬ S i 1 = 1 := fun q => d2 (by rw [q]; rfl)
        rw [hcx] at e2
        exact yes c g5 σ2 _ (by unfold cutv; rw [if_neg d, if_neg d2]) e2
    · have g4 : ¬ inN v (S i 2) := fun q => g4 ((in_iff hl).mpr q)
      exact vc_t rfl ⟨rfl, hn, lf, 3, rfl, rfl, And.intro rfl (fin2 _ K Q S Ce 3 tr _ (by unfold f_put; rw [if_pos g, hc, if_neg c, if_neg g4]; rfl) (hI1.fl (v := 3)) (fun q g1 => by rw [am_up_ne (by omega)]; exact hfr q g1))⟩)
