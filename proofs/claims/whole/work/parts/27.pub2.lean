theorem FrX.rf {σ : am_Sg} : FrX σ σ := fun _ _ _ => rfl
theorem HrI.inv {σ σ' : am_Sg} {nt f : Nat} {n lf : Nat} {K Q S : KT} {Ce : Nat → Nat → Int32} {fl : Nat} {tr : Int32} {kd : Nat → Nat} {j c : Nat} (h : HrI σ σ' 24 c K kd nt f j) (hI : InvX σ n lf K Q S Ce fl tr) : InvX σ' n lf K Q S Ce fl tr ∧ FrX σ σ' := by
  have hf := h.2.2.2.2.2
  exact ⟨hI.keep (fun q hq => hf q (by unfold Pq at hq; omega)) (fun i hi => by rw [hf 11 (by omega), hf 22 (by omega)]; exact hI.2.2.2.2.2.2.2.2.1 i hi), fun q g1 g2 => hf q (by omega)⟩
def f_hq (N : KT → Nat) (g : KT → Nat → Nat → Nat → Nat) (j f : Int32) (nt : Nat) (s : ST) : Value × ST := (.int (if inN j (N s.1) then (if inN f 10000 then nI (g s.1 nt f.toNatClampNeg j.toNatClampNeg) else -2) else -1), s)
def f_behind : Int32 → Int32 → Nat → ST → Value × ST := f_hq (fun K => K 0 1) (fun K nt f j => s_in K (K 8) nt f (j + 1))
def f_seeps : Int32 → Int32 → Nat → ST → Value × ST := f_hq (fun K => K 0 1) (fun K nt f j => s_sp K j (s_in K (K 8) nt f j))
def f_level : Int32 → Int32 → Nat → ST → Value × ST := f_hq (fun K => K 0 1) (fun K nt f j => s_le K (K 8) nt f j)
def f_takes : Int32 → Int32 → Nat → ST → Value × ST := f_hq (fun K => K 0 2) (fun K nt f j => s_ta K (K 8) nt f j)
def C_refHour : am_C := fun av n σ τ nf P => nf = n ∧ 155 ≤ n ∧ ∃ (lf nt : Nat) (b f : Int32) (K : KT), τ = tauY 0 lf ∧ RepX σ 1 K ∧ WfK K ∧ nt ≤ 1 ∧ av = [.ref 0, .int b, .int f, .int (nI nt)] ∧ (b = 0 → P (some (.int (-1))) σ τ) ∧ (¬ b = 0 → ¬ inN f 10000 → P (some (.int (-2))) σ τ) ∧ (¬ b = 0 → ∀ w, w ≤ 9999 → f = nI w → ∀ σ', HrI σ σ' 24 1 K (K 8) nt w (K 0 1) → P (some (.int 0)) σ' τ)
set_option maxRecDepth 100000 in
theorem M_refHour (d : Nat) : am_Met (d + 3) 749 C_refHour := am_meth (own0 := "CanalEnd") 749 (d + 2) 155 T_X7_refusalOfHour (fun y => bif Nat.beq y 741 then C_isWater else (bif Nat.beq y 301 then C_hrun else (am_no))) C_refHour rfl F_X7_refusalOfHour rfl (by decide +kernel) Tc_X7_refusalOfHour (fun y => am_g (M_isWater (d + 0)) (am_g (M_hrun (d + 0)) (am_no_met))) (by
  intro av n σ τ nf P hnf hC
  obtain ⟨rfl, hn, lf, nt, b, f, K, rfl, hR, hK, hnt, rfl, h1, h2, h3⟩ := hC
  refine ⟨hn, rfl, Nat.le_of_ble_eq_true rfl, fun Wb hs => ?_⟩
  refine hs (fun _ => false) 40 0 _ _ _ _ _ (vc_if (fun c => And.intro rfl (h1 c)) (fun c => ?_))
  refine ⟨rfl, f, rfl, fun g => ?_, fun g => vc_t rfl (And.intro rfl (h2 c g))⟩
  obtain ⟨w, hw, rfl⟩ := inN_ex g
  refine vc_f (by decide) ⟨rfl, hn, 0, lf, 24, 1, w, nt, K, rfl, rfl, by omega, by omega, hR, hK, by omega, hnt, fun σ' hH _ => And.intro rfl (h3 c w (by omega) rfl σ' hH)⟩)
def C_layKinds : am_C := fun av n σ τ nf P => nf = n ∧ 155 ≤ n ∧ ∃ (lf : Nat) (K : KT), τ = tauY 0 lf ∧ av = [.ref 116] ∧ RepM σ K ∧ WfK K ∧ ∀ σ', Knd σ' K (K 8) → (∀ q, ¬ q = 135 → σ' q = σ q) → P none σ' τ
set_option maxRecDepth 100000 in
theorem M_layKinds (d : Nat) : am_Met (d + 1) 824 C_layKinds := am_meth (own0 := "CanalEndModel") 824 (d + 0) 155 T_X8_layKinds (fun y => am_no) C_layKinds rfl F_X8_layKinds rfl (by decide +kernel) Tc_X8_layKinds (fun y => am_no_met) (by
  intro av n σ τ nf P hnf hC
  obtain ⟨rfl, hn, lf, K, rfl, rfl, hR, hK, hP⟩ := hC
  refine ⟨hn, rfl, Nat.le_of_ble_eq_true rfl, fun Wb hs => ?_⟩
  have hO8 := hK.2.2.1
  have loop : ∀ (m o : Nat) (σ1 : am_Sg), K 0 2 - o = m → o ≤ K 0 2 → (∀ i, i < o → σ1 135 i = nI (K 8 i)) → (∀ q, ¬ q = 135 → σ1 q = σ q) → Wb 2 [some (.ref 116), some (.int (nI o))] [] nf σ1 (tauY 0 lf) := by
    intro m
    induction m with
    | zero =>
      intro o σ1 hm ho r1 r2
      refine hs (fun p => Nat.beq p 2) 30 2 _ _ _ _ _ (vc_t ?_ (And.intro rfl (hP σ1 (fun i hi => ⟨r1 i (by omega), (hK.2.2.2.2.2.2.2.2.2 i hi).2.2.2.2.1⟩) r2)))
      rw [r2 116 (by omega), hR.2.2.1]
      exact nI_le (by omega) (by omega)
    | succ m ih =>
      intro o σ1 hm ho r1 r2
      have e8 : σ1 126 o = nI (K 8 o) := by rw [r2 126 (by omega)]; exact hR.2.2.2.2.2.2 3 (by omega) o (by omega)
      refine hs (fun p => Nat.beq p 2) 30 2 _ _ _ _ _ (vc_f ?_ (And.intro (vin (show o < 8 by omega)) (And.intro (vin (show o < 8 by omega)) (fun σ2 e2 => ?_))))
      · rw [r2 116 (by omega), hR.2.2.1]
        exact fun g => by have := (nI_leI (by omega) (by omega)).mp g; omega
      · rw [nI_clamp (by omega), e8] at e2
        have e2 : σ2 = am_up σ1 135 o (nI (K 8 o)) := e2
        show Wb 2 _ _ _ _ _
        rw [nI_1]
        refine ih (o + 1) σ2 (by omega) (by omega) (fun i hi => ?_) (fun q hq => by rw [e2, am_up_ne hq]; exact r2 q hq)
        rw [e2]
        by_cases c : i = o
        · subst c; exact up_at
        · rw [up_ne c]; exact r1 i (by omega)
  refine hs (fun p => Nat.beq p 2) 10 0 _ _ _ _ _ ?_
  exact loop (K 0 2) 0 σ (by omega) (by omega) (fun i hi => by omega) (fun q _ => rfl))
theorem HrM.inv {σ σ1 σ' : am_Sg} {nt f : Nat} {K Q S : KT} {Ce : Nat → Nat → Int32} {fl : Nat} {tr : Int32} {kd : Nat → Nat} {j : Nat} (h1 : ∀ q, ¬ q = 135 → σ1 q = σ q) (h : HrM σ1 σ' K kd nt f j) (hI : InvM σ K Q S Ce fl tr) : InvM σ' K Q S Ce fl tr ∧ FrM σ σ' := by
  have hf : ∀ q, ¬ (135 ≤ q ∧ q ≤ 139) → σ' q = σ q := fun q g => by rw [h.2.2 q (by omega)]; exact h1 q (by omega)
  exact ⟨hI.keep (fun q hq => hf q (by omega)) (fun i _ => by rw [hf 116 (by omega)]), fun q g => hf q (by omega)⟩
def C_xbehind : am_C := fun av n σ τ nf P => ∃ (j : Int32) (f : Int32) (nt : Nat), pubX [.int j, .int f, .int (nI nt)] (f_behind j f nt) av n σ τ nf P ∧ nt ≤ 1
set_option maxRecDepth 100000 in
theorem M_xbehind (d : Nat) : am_Met (d + 4) 709 C_xbehind := am_meth (own0 := "CanalEnd") 709 (d + 3) 155 T_X7_behind (fun y => bif Nat.beq y 746 then C_isMile else (bif Nat.beq y 749 then C_refHour else (am_no))) C_xbehind rfl F_X7_behind rfl (by decide +kernel) Tc_X7_behind (fun y => am_g (M_isMile (d + 1)) (am_g (M_refHour (d + 0)) (am_no_met))) (by
  intro av n σ τ nf P hnf hC
  obtain ⟨j, f, nt, ⟨rfl, lf, ⟨K, Q, S, Ce, fl, tr⟩, rfl, hI, rfl, hP⟩, hnt⟩ := hC
  have hn := Nlf_le hI.2.2.2.2.2.2.2.2.2
  refine ⟨hn, rfl, Nat.le_of_ble_eq_true rfl, fun Wb hs => ?_⟩
  have hI : InvX σ nf lf K Q S Ce fl tr := hI
  have hK := hI.1
  have hR := hI.2.1
  have hM10 := hK.2.1
  have hO8 := hK.2.2.1
  have eM : σ 1 1 = nI (K 0 1) := hR.1 1 (by omega)
  have eO : σ 1 2 = nI (K 0 2) := hR.1 2 (by omega)
  have fin : ∀ r9 : Int32, (f_behind j f nt (K, Q, S, Ce, fl, tr)).2 = (K, Q, S, Ce, fl, tr) → (f_behind j f nt (K, Q, S, Ce, fl, tr)).1 = .int r9 → P (some (.int r9)) σ (tauY 0 lf) := fun r9 e1 e2 => p_eqv e2 (hP σ (by rw [e1]; exact hI) (fun _ _ => fun _ => rfl))
  have fin2 : ∀ (v9 : Value) (K9 Q9 S9 : KT) (Ce9 : Nat → Nat → Int32) (fl9 : Nat) (tr9 : Int32) (σ9 : am_Sg), f_behind j f nt (K, Q, S, Ce, fl, tr) = (v9, (K9, Q9, S9, Ce9, fl9, tr9)) → InvX σ9 nf lf K9 Q9 S9 Ce9 fl9 tr9 → FrX σ σ9 → P (some v9) σ9 (tauY 0 lf) := fun v9 K9 Q9 S9 Ce9 fl9 tr9 σ9 e h1 h2 => by have := hP σ9 (by rw [e]; exact h1) h2; rw [e] at this; exact this
  refine hs (fun _ => false) 60 0 _ _ _ _ _ ?_
  refine ⟨rfl, hn, 0, lf, K 0 1, j, rfl, rfl, eM, by omega, fun g => ?_, fun g => ?_⟩
  · refine ⟨rfl, hn, lf, nt, 1, f, K, rfl, hR, hK, hnt, rfl, fun c => absurd c (by decide), fun _ c => ?_, fun _ w hw e σ1 hH => ?_⟩
    · refine vc_f (by decide) (And.intro rfl (fin _ rfl ?_))
      simp only [f_behind, f_hq]
      rw [if_pos g, if_neg c]
    · have g9 : inN f 10000 := by rw [e]; exact inN_nI (by omega) (by omega)
      obtain ⟨i, hi, rfl⟩ := inN_ex g
      subst e
      obtain ⟨hI1, hfr⟩ := hH.inv hI
      refine vc_t rfl (And.intro (vin (show i < 10 by omega)) (And.intro rfl (fin2 _ K Q S Ce fl tr σ1 ?_ hI1 hfr)))
      simp only [f_behind, f_hq]
      rw [if_pos g, if_pos g9, nI_clamp (n := w) (by omega), nI_clamp (n := i) (by omega), show σ1 27 i = _ from (hH.2.1 i hi).2.2]
  · refine ⟨rfl, hn, lf, nt, 0, f, K, rfl, hR, hK, hnt, rfl, fun _ => ?_, fun c => absurd rfl c, fun c => absurd rfl c⟩
    refine vc_f (by decide) (And.intro rfl (fin _ rfl ?_))
    simp only [f_behind, f_hq]
    rw [if_neg g])
def C_mbehind : am_C := fun av n σ τ nf P => ∃ (j : Int32) (f : Int32) (nt : Nat), pubM [.int j, .int f, .int (nI nt)] (f_behind j f nt) av n σ τ nf P ∧ nt ≤ 1
set_option maxRecDepth 100000 in
theorem M_mbehind (d : Nat) : am_Met (d + 4) 826 C_mbehind := am_meth (own0 := "CanalEndModel") 826 (d + 3) 155 T_X8_behind (fun y => bif Nat.beq y 809 then C_mMile else (bif Nat.beq y 823 then C_mWater else (bif Nat.beq y 824 then C_layKinds else (bif Nat.beq y 825 then C_mhour else (am_no))))) C_mbehind rfl F_X8_behind rfl (by decide +kernel) Tc_X8_behind (fun y => am_g (M_mMile (d + 2)) (am_g (M_mWater (d + 1)) (am_g (M_layKinds (d + 2)) (am_g (M_mhour (d + 2)) (am_no_met))))) (by
  intro av n σ τ nf P hnf hC
  obtain ⟨j, f, nt, ⟨rfl, hn, lf, ⟨K, Q, S, Ce, fl, tr⟩, rfl, hI, rfl, hP⟩, hnt⟩ := hC
  refine ⟨hn, rfl, Nat.le_of_ble_eq_true rfl, fun Wb hs => ?_⟩
  have hI : InvM σ K Q S Ce fl tr := hI
  have hK := hI.1
  have hR := hI.2.1
  have hM10 := hK.2.1
  have hO8 := hK.2.2.1
  have eM := hR.2.1
  have eO := hR.2.2.1
  have fin : ∀ r9 : Int32, (f_behind j f nt (K, Q, S, Ce, fl, tr)).2 = (K, Q, S, Ce, fl, tr) → (f_behind j f nt (K, Q, S, Ce, fl, tr)).1 = .int r9 → P (some (.int r9)) σ (tauY 0 lf) := fun r9 e1 e2 => p_eqv e2 (hP σ (by rw [e1]; exact hI) (fun _ _ => rfl))
  have fin2 : ∀ (v9 : Value) (K9 Q9 S9 : KT) (Ce9 : Nat → Nat → Int32) (fl9 : Nat) (tr9 : Int32) (σ9 : am_Sg), f_behind j f nt (K, Q, S, Ce, fl, tr) = (v9, (K9, Q9, S9, Ce9, fl9, tr9)) → InvM σ9 K9 Q9 S9 Ce9 fl9 tr9 → FrM σ σ9 → P (some v9) σ9 (tauY 0 lf) := fun v9 K9 Q9 S9 Ce9 fl9 tr9 σ9 e h1 h2 => by have := hP σ9 (by rw [e]; exact h1) h2; rw [e] at this; exact this
  refine hs (fun _ => false) 60 0 _ _ _ _ _ ?_
  refine ⟨rfl, hn, 0, lf, K 0 1, j, rfl, rfl, eM, by omega, fun g => ?_, fun g => ?_⟩
  · refine vc_f (by decide) ⟨rfl, f, rfl, fun g9 => ?_, fun c => ?_⟩
    · obtain ⟨i, hi, rfl⟩ := inN_ex g
      have g8 := g9
      obtain ⟨w, hw, rfl⟩ := inN_ex g9
      refine vc_f (by decide) ⟨rfl, hn, lf, K, rfl, rfl, hR, hK, fun σ1 hk1 hf1 => ?_⟩
      refine ⟨rfl, hn, 0, lf, w, nt, K 8, K, rfl, rfl, hR.frame (fun q g1 g2 => hf1 q (by omega)), hK, hk1, by omega, hnt, fun σ2 hH => ?_⟩
      obtain ⟨hI2, hfr⟩ := HrM.inv hf1 hH hI
      refine And.intro (vin (show i < 10 by omega)) (And.intro rfl (fin2 _ K Q S Ce fl tr σ2 ?_ hI2 hfr))
      simp only [f_behind, f_hq]
      rw [if_pos g, if_pos g8, nI_clamp (n := w) (by omega), nI_clamp (n := i) (by omega), show σ2 138 i = _ from (hH.1 i hi).2.2]
    · refine vc_t rfl (And.intro rfl (fin _ rfl ?_))
      simp only [f_behind, f_hq]
      rw [if_pos g, if_neg c]
  · refine vc_t rfl (And.intro rfl (fin _ rfl ?_))
    simp only [f_behind, f_hq]
    rw [if_neg g])
def C_xseeps : am_C := fun av n σ τ nf P => ∃ (j : Int32) (f : Int32) (nt : Nat), pubX [.int j, .int f, .int (nI nt)] (f_seeps j f nt) av n σ τ nf P ∧ nt ≤ 1
set_option maxRecDepth 100000 in
theorem M_xseeps (d : Nat) : am_Met (d + 4) 710 C_xseeps := am_meth (own0 := "CanalEnd") 710 (d + 3) 155 T_X7_seeps (fun y => bif Nat.beq y 746 then C_isMile else (bif Nat.beq y 749 then C_refHour else (am_no))) C_xseeps rfl F_X7_seeps rfl (by decide +kernel) Tc_X7_seeps (fun y => am_g (M_isMile (d + 1)) (am_g (M_refHour (d + 0)) (am_no_met))) (by
  intro av n σ τ nf P hnf hC
  obtain ⟨j, f, nt, ⟨rfl, lf, ⟨K, Q, S, Ce, fl, tr⟩, rfl, hI, rfl, hP⟩, hnt⟩ := hC
  have hn := Nlf_le hI.2.2.2.2.2.2.2.2.2
  refine ⟨hn, rfl, Nat.le_of_ble_eq_true rfl, fun Wb hs => ?_⟩
  have hI : InvX σ nf lf K Q S Ce fl tr := hI
  have hK := hI.1
  have hR := hI.2.1
  have hM10 := hK.2.1
  have hO8 := hK.2.2.1
  have eM : σ 1 1 = nI (K 0 1) := hR.1 1 (by omega)
  have eO : σ 1 2 = nI (K 0 2) := hR.1 2 (by omega)
  have fin : ∀ r9 : Int32, (f_seeps j f nt (K, Q, S, Ce, fl, tr)).2 = (K, Q, S, Ce, fl, tr) → (f_seeps j f nt (K, Q, S, Ce, fl, tr)).1 = .int r9 → P (some (.int r9)) σ (tauY 0 lf) := fun r9 e1 e2 => p_eqv e2 (hP σ (by rw [e1]; exact hI) (fun _ _ => fun _ => rfl))
  have fin2 : ∀ (v9 : Value) (K9 Q9 S9 : KT) (Ce9 : Nat → Nat → Int32) (fl9 : Nat) (tr9 : Int32) (σ9 : am_Sg), f_seeps j f nt (K, Q, S, Ce, fl, tr) = (v9, (K9, Q9, S9, Ce9, fl9, tr9)) → InvX σ9 nf lf K9 Q9 S9 Ce9 fl9 tr9 → FrX σ σ9 → P (some v9) σ9 (tauY 0 lf) := fun v9 K9 Q9 S9 Ce9 fl9 tr9 σ9 e h1 h2 => by have := hP σ9 (by rw [e]; exact h1) h2; rw [e] at this; exact this
  refine hs (fun _ => false) 60 0 _ _ _ _ _ ?_
  refine ⟨rfl, hn, 0, lf, K 0 1, j, rfl, rfl, eM, by omega, fun g => ?_, fun g => ?_⟩
  · refine ⟨rfl, hn, lf, nt, 1, f, K, rfl, hR, hK, hnt, rfl, fun c => absurd c (by decide), fun _ c => ?_, fun _ w hw e σ1 hH => ?_⟩
    · refine vc_f (by decide) (And.intro rfl (fin _ rfl ?_))
      simp only [f_seeps, f_hq]
      rw [if_pos g, if_neg c]
    · have g9 : inN f 10000 := by rw [e]; exact inN_nI (by omega) (by omega)
      obtain ⟨i, hi, rfl⟩ := inN_ex g
      subst e
      obtain ⟨hI1, hfr⟩ := hH.inv hI
      refine vc_t rfl (And.intro (vin (show i < 10 by omega)) (And.intro rfl (fin2 _ K Q S Ce fl tr σ1 ?_ hI1 hfr)))
      simp only [f_seeps, f_hq]
      rw [if_pos g, if_pos g9, nI_clamp (n := w) (by omega), nI_clamp (n := i) (by omega), show σ1 25 i = _ from (hH.2.1 i hi).1]
  · refine ⟨rfl, hn, lf, nt, 0, f, K, rfl, hR, hK, hnt, rfl, fun _ => ?_, fun c => absurd rfl c, fun c => absurd rfl c⟩
    refine vc_f (by decide) (And.intro rfl (fin _ rfl ?_))
    simp only [f_seeps, f_hq]
    rw [if_neg g])
def C_mseeps : am_C := fun av n σ τ nf P => ∃ (j : Int32) (f : Int32) (nt : Nat), pubM [.int j, .int f, .int (nI nt)] (f_seeps j f nt) av n σ τ nf P ∧ nt ≤ 1
set_option maxRecDepth 100000 in
theorem M_mseeps (d : Nat) : am_Met (d + 4) 827 C_mseeps := am_meth (own0 := "CanalEndModel") 827 (d + 3) 155 T_X8_seeps (fun y => bif Nat.beq y 809 then C_mMile else (bif Nat.beq y 823 then C_mWater else (bif Nat.beq y 824 then C_layKinds else (bif Nat.beq y 825 then C_mhour else (am_no))))) C_mseeps rfl F_X8_seeps rfl (by decide +kernel) Tc_X8_seeps (fun y => am_g (M_mMile (d + 2)) (am_g (M_mWater (d + 1)) (am_g (M_layKinds (d + 2)) (am_g (M_mhour (d + 2)) (am_no_met))))) (by
  intro av n σ τ nf P hnf hC
  obtain ⟨j, f, nt, ⟨rfl, hn, lf, ⟨K, Q, S, Ce, fl, tr⟩, rfl, hI, rfl, hP⟩, hnt⟩ := hC
  refine ⟨hn, rfl, Nat.le_of_ble_eq_true rfl, fun Wb hs => ?_⟩
  have hI : InvM σ K Q S Ce fl tr := hI
  have hK := hI.1
  have hR := hI.2.1
  have hM10 := hK.2.1
  have hO8 := hK.2.2.1
  have eM := hR.2.1
  have eO := hR.2.2.1
  have fin : ∀ r9 : Int32, (f_seeps j f nt (K, Q, S, Ce, fl, tr)).2 = (K, Q, S, Ce, fl, tr) → (f_seeps j f nt (K, Q, S, Ce, fl, tr)).1 = .int r9 → P (some (.int r9)) σ (tauY 0 lf) := fun r9 e1 e2 => p_eqv e2 (hP σ (by rw [e1]; exact hI) (fun _ _ => rfl))
  have fin2 : ∀ (v9 : Value) (K9 Q9 S9 : KT) (Ce9 : Nat → Nat → Int32) (fl9 : Nat) (tr9 : Int32) (σ9 : am_Sg), f_seeps j f nt (K, Q, S, Ce, fl, tr) = (v9, (K9, Q9, S9, Ce9, fl9, tr9)) → InvM σ9 K9 Q9 S9 Ce9 fl9 tr9 → FrM σ σ9 → P (some v9) σ9 (tauY 0 lf) := fun v9 K9 Q9 S9 Ce9 fl9 tr9 σ9 e h1 h2 => by have := hP σ9 (by rw [e]; exact h1) h2; rw [e] at this; exact this
  refine hs (fun _ => false) 60 0 _ _ _ _ _ ?_
  refine ⟨rfl, hn, 0, lf, K 0 1, j, rfl, rfl, eM, by omega, fun g => ?_, fun g => ?_⟩
  · refine vc_f (by decide) ⟨rfl, f, rfl, fun g9 => ?_, fun c => ?_⟩
    · obtain ⟨i, hi, rfl⟩ := inN_ex g
      have g8 := g9
      obtain ⟨w, hw, rfl⟩ := inN_ex g9
      refine vc_f (by decide) ⟨rfl, hn, lf, K, rfl, rfl, hR, hK, fun σ1 hk1 hf1 => ?_⟩
      refine ⟨rfl, hn, 0, lf, w, nt, K 8, K, rfl, rfl, hR.frame (fun q g1 g2 => hf1 q (by omega)), hK, hk1, by omega, hnt, fun σ2 hH => ?_⟩
      obtain ⟨hI2, hfr⟩ := HrM.inv hf1 hH hI
      refine And.intro (vin (show i < 10 by omega)) (And.intro rfl (fin2 _ K Q S Ce fl tr σ2 ?_ hI2 hfr))
      simp only [f_seeps, f_hq]
      rw [if_pos g, if_pos g8, nI_clamp (n := w) (by omega), nI_clamp (n := i) (by omega), show σ2 136 i = _ from (hH.1 i hi).1]
    · refine vc_t rfl (And.intro rfl (fin _ rfl ?_))
      simp only [f_seeps, f_hq]
      rw [if_pos g, if_neg c]
  · refine vc_t rfl (And.intro rfl (fin _ rfl ?_))
    simp only [f_seeps, f_hq]
    rw [if_neg g])
def C_xlevel : am_C := fun av n σ τ nf P => ∃ (j : Int32) (f : Int32) (nt : Nat), pubX [.int j, .int f, .int (nI nt)] (f_level j f nt) av n σ τ nf P ∧ nt ≤ 1
set_option maxRecDepth 100000 in
theorem M_xlevel (d : Nat) : am_Met (d + 4) 711 C_xlevel := am_meth (own0 := "CanalEnd") 711 (d + 3) 155 T_X7_level (fun y => bif Nat.beq y 746 then C_isMile else (bif Nat.beq y 749 then C_refHour else (am_no))) C_xlevel rfl F_X7_level rfl (by decide +kernel) Tc_X7_level (fun y => am_g (M_isMile (d + 1)) (am_g (M_refHour (d + 0)) (am_no_met))) (by
  intro av n σ τ nf P hnf hC
  obtain ⟨j, f, nt, ⟨rfl, lf, ⟨K, Q, S, Ce, fl, tr⟩, rfl, hI, rfl, hP⟩, hnt⟩ := hC
  have hn := Nlf_le hI.2.2.2.2.2.2.2.2.2
  refine ⟨hn, rfl, Nat.le_of_ble_eq_true rfl, fun Wb hs => ?_⟩
  have hI : InvX σ nf lf K Q S Ce fl tr := hI
  have hK := hI.1
  have hR := hI.2.1
  have hM10 := hK.2.1
  have hO8 := hK.2.2.1
  have eM : σ 1 1 = nI (K 0 1) := hR.1 1 (by omega)
  have eO : σ 1 2 = nI (K 0 2) := hR.1 2 (by omega)
  have fin : ∀ r9 : Int32, (f_level j f nt (K, Q, S, Ce, fl, tr)).2 = (K, Q, S, Ce, fl, tr) → (f_level j f nt (K, Q, S, Ce, fl, tr)).1 = .int r9 → P (some (.int r9)) σ (tauY 0 lf) := fun r9 e1 e2 => p_eqv e2 (hP σ (by rw [e1]; exact hI) (fun _ _ => fun _ => rfl))
  have fin2 : ∀ (v9 : Value) (K9 Q9 S9 : KT) (Ce9 : Nat → Nat → Int32) (fl9 : Nat) (tr9 : Int32) (σ9 : am_Sg), f_level j f nt (K, Q, S, Ce, fl, tr) = (v9, (K9, Q9, S9, Ce9, fl9, tr9)) → InvX σ9 nf lf K9 Q9 S9 Ce9 fl9 tr9 → FrX σ σ9 → P (some v9) σ9 (tauY 0 lf) := fun v9 K9 Q9 S9 Ce9 fl9 tr9 σ9 e h1 h2 => by have := hP σ9 (by rw [e]; exact h1) h2; rw [e] at this; exact this
  refine hs (fun _ => false) 60 0 _ _ _ _ _ ?_
  refine ⟨rfl, hn, 0, lf, K 0 1, j, rfl, rfl, eM, by omega, fun g => ?_, fun g => ?_⟩
  · refine ⟨rfl, hn, lf, nt, 1, f, K, rfl, hR, hK, hnt, rfl, fun c => absurd c (by decide), fun _ c => ?_, fun _ w hw e σ1 hH => ?_⟩
    · refine vc_f (by decide) (And.intro rfl (fin _ rfl ?_))
      simp only [f_level, f_hq]
      rw [if_pos g, if_neg c]
    · have g9 : inN f 10000 := by rw [e]; exact inN_nI (by omega) (by omega)
      obtain ⟨i, hi, rfl⟩ := inN_ex g
      subst e
      obtain ⟨hI1, hfr⟩ := hH.inv hI
      refine vc_t rfl (And.intro (vin (show i < 10 by omega)) (And.intro rfl (fin2 _ K Q S Ce fl tr σ1 ?_ hI1 hfr)))
      simp only [f_level, f_hq]
      rw [if_pos g, if_pos g9, nI_clamp (n := w) (by omega), nI_clamp (n := i) (by omega), show σ1 26 i = _ from (hH.2.1 i hi).2.1]
  · refine ⟨rfl, hn, lf, nt, 0, f, K, rfl, hR, hK, hnt, rfl, fun _ => ?_, fun c => absurd rfl c, fun c => absurd rfl c⟩
    refine vc_f (by decide) (And.intro rfl (fin _ rfl ?_))
    simp only [f_level, f_hq]
    rw [if_neg g])
def C_mlevel : am_C := fun av n σ τ nf P => ∃ (j : Int32) (f : Int32) (nt : Nat), pubM [.int j, .int f, .int (nI nt)] (f_level j f nt) av n σ τ nf P ∧ nt ≤ 1
set_option maxRecDepth 100000 in
theorem M_mlevel (d : Nat) : am_Met (d + 4) 828 C_mlevel := am_meth (own0 := "CanalEndModel") 828 (d + 3) 155 T_X8_level (fun y => bif Nat.beq y 809 then C_mMile else (bif Nat.beq y 823 then C_mWater else (bif Nat.beq y 824 then C_layKinds else (bif Nat.beq y 825 then C_mhour else (am_no))))) C_mlevel rfl F_X8_level rfl (by decide +kernel) Tc_X8_level (fun y => am_g (M_mMile (d + 2)) (am_g (M_mWater (d + 1)) (am_g (M_layKinds (d + 2)) (am_g (M_mhour (d + 2)) (am_no_met))))) (by
  intro av n σ τ nf P hnf hC
  obtain ⟨j, f, nt, ⟨rfl, hn, lf, ⟨K, Q, S, Ce, fl, tr⟩, rfl, hI, rfl, hP⟩, hnt⟩ := hC
  refine ⟨hn, rfl, Nat.le_of_ble_eq_true rfl, fun Wb hs => ?_⟩
  have hI : InvM σ K Q S Ce fl tr := hI
  have hK := hI.1
  have hR := hI.2.1
  have hM10 := hK.2.1
  have hO8 := hK.2.2.1
  have eM := hR.2.1
  have eO := hR.2.2.1
  have fin : ∀ r9 : Int32, (f_level j f nt (K, Q, S, Ce, fl, tr)).2 = (K, Q, S, Ce, fl, tr) → (f_level j f nt (K, Q, S, Ce, fl, tr)).1 = .int r9 → P (some (.int r9)) σ (tauY 0 lf) := fun r9 e1 e2 => p_eqv e2 (hP σ (by rw [e1]; exact hI) (fun _ _ => rfl))
  have fin2 : ∀ (v9 : Value) (K9 Q9 S9 : KT) (Ce9 : Nat → Nat → Int32) (fl9 : Nat) (tr9 : Int32) (σ9 : am_Sg), f_level j f nt (K, Q, S, Ce, fl, tr) = (v9, (K9, Q9, S9, Ce9, fl9, tr9)) → InvM σ9 K9 Q9 S9 Ce9 fl9 tr9 → FrM σ σ9 → P (some v9) σ9 (tauY 0 lf) := fun v9 K9 Q9 S9 Ce9 fl9 tr9 σ9 e h1 h2 => by have := hP σ9 (by rw [e]; exact h1) h2; rw [e] at this; exact this
  refine hs (fun _ => false) 60 0 _ _ _ _ _ ?_
  refine ⟨rfl, hn, 0, lf, K 0 1, j, rfl, rfl, eM, by omega, fun g => ?_, fun g => ?_⟩
  · refine vc_f (by decide) ⟨rfl, f, rfl, fun g9 => ?_, fun c => ?_⟩
    · obtain ⟨i, hi, rfl⟩ := inN_ex g
      have g8 := g9
      obtain ⟨w, hw, rfl⟩ := inN_ex g9
      refine vc_f (by decide) ⟨rfl, hn, lf, K, rfl, rfl, hR, hK, fun σ1 hk1 hf1 => ?_⟩
      refine ⟨rfl, hn, 0, lf, w, nt, K 8, K, rfl, rfl, hR.frame (fun q g1 g2 => hf1 q (by omega)), hK, hk1, by omega, hnt, fun σ2 hH => ?_⟩
      obtain ⟨hI2, hfr⟩ := HrM.inv hf1 hH hI
      refine And.intro (vin (show i < 10 by omega)) (And.intro rfl (fin2 _ K Q S Ce fl tr σ2 ?_ hI2 hfr))
      simp only [f_level, f_hq]
      rw [if_pos g, if_pos g8, nI_clamp (n := w) (by omega), nI_clamp (n := i) (by omega), show σ2 137 i = _ from (hH.1 i hi).2.1]
    · refine vc_t rfl (And.intro rfl (fin _ rfl ?_))
      simp only [f_level, f_hq]
      rw [if_pos g, if_neg c]
  · refine vc_t rfl (And.intro rfl (fin _ rfl ?_))
    simp only [f_level, f_hq]
    rw [if_neg g])
def C_xtakes : am_C := fun av n σ τ nf P => ∃ (j : Int32) (f : Int32) (nt : Nat), pubX [.int j, .int f, .int (nI nt)] (f_takes j f nt) av n σ τ nf P ∧ nt ≤ 1
set_option maxRecDepth 100000 in
theorem M_xtakes (d : Nat) : am_Met (d + 4) 712 C_xtakes := am_meth (own0 := "CanalEnd") 712 (d + 3) 155 T_X7_takes (fun y => bif Nat.beq y 747 then C_isOutlet else (bif Nat.beq y 749 then C_refHour else (am_no))) C_xtakes rfl F_X7_takes rfl (by decide +kernel) Tc_X7_takes (fun y => am_g (M_isOutlet (d + 1)) (am_g (M_refHour (d + 0)) (am_no_met))) (by
  intro av n σ τ nf P hnf hC
  obtain ⟨j, f, nt, ⟨rfl, lf, ⟨K, Q, S, Ce, fl, tr⟩, rfl, hI, rfl, hP⟩, hnt⟩ := hC
  have hn := Nlf_le hI.2.2.2.2.2.2.2.2.2
  refine ⟨hn, rfl, Nat.le_of_ble_eq_true rfl, fun Wb hs => ?_⟩
  have hI : InvX σ nf lf K Q S Ce fl tr := hI
  have hK := hI.1
  have hR := hI.2.1
  have hM10 := hK.2.1
  have hO8 := hK.2.2.1
  have eM : σ 1 1 = nI (K 0 1) := hR.1 1 (by omega)
  have eO : σ 1 2 = nI (K 0 2) := hR.1 2 (by omega)
  have fin : ∀ r9 : Int32, (f_takes j f nt (K, Q, S, Ce, fl, tr)).2 = (K, Q, S, Ce, fl, tr) → (f_takes j f nt (K, Q, S, Ce, fl, tr)).1 = .int r9 → P (some (.int r9)) σ (tauY 0 lf) := fun r9 e1 e2 => p_eqv e2 (hP σ (by rw [e1]; exact hI) (fun _ _ => fun _ => rfl))
  have fin2 : ∀ (v9 : Value) (K9 Q9 S9 : KT) (Ce9 : Nat → Nat → Int32) (fl9 : Nat) (tr9 : Int32) (σ9 : am_Sg), f_takes j f nt (K, Q, S, Ce, fl, tr) = (v9, (K9, Q9, S9, Ce9, fl9, tr9)) → InvX σ9 nf lf K9 Q9 S9 Ce9 fl9 tr9 → FrX σ σ9 → P (some v9) σ9 (tauY 0 lf) := fun v9 K9 Q9 S9 Ce9 fl9 tr9 σ9 e h1 h2 => by have := hP σ9 (by rw [e]; exact h1) h2; rw [e] at this; exact this
  refine hs (fun _ => false) 60 0 _ _ _ _ _ ?_
  refine ⟨rfl, hn, 0, lf, K 0 2, j, rfl, rfl, eO, by omega, fun g => ?_, fun g => ?_⟩
  · refine ⟨rfl, hn, lf, nt, 1, f, K, rfl, hR, hK, hnt, rfl, fun c => absurd c (by decide), fun _ c => ?_, fun _ w hw e σ1 hH => ?_⟩
    · refine vc_f (by decide) (And.intro rfl (fin _ rfl ?_))
      simp only [f_takes, f_hq]
      rw [if_pos g, if_neg c]
    · have g9 : inN f 10000 := by rw [e]; exact inN_nI (by omega) (by omega)
      obtain ⟨i, hi, rfl⟩ := inN_ex g
      subst e
      obtain ⟨hI1, hfr⟩ := hH.inv hI
      refine vc_t rfl (And.intro (vin (show i < 8 by omega)) (And.intro rfl (fin2 _ K Q S Ce fl tr σ1 ?_ hI1 hfr)))
      simp only [f_takes, f_hq]
      rw [if_pos g, if_pos g9, nI_clamp (n := w) (by omega), nI_clamp (n := i) (by omega), show σ1 28 i = _ from hH.2.2.1 i (by rw [fo_end]; exact hi)]
  · refine ⟨rfl, hn, lf, nt, 0, f, K, rfl, hR, hK, hnt, rfl, fun _ => ?_, fun c => absurd rfl c, fun c => absurd rfl c⟩
    refine vc_f (by decide) (And.intro rfl (fin _ rfl ?_))
    simp only [f_takes, f_hq]
    rw [if_neg g])
def C_mtakes : am_C := fun av n σ τ nf P => ∃ (j : Int32) (f : Int32) (nt : Nat), pubM [.int j, .int f, .int (nI nt)] (f_takes j f nt) av n σ τ nf P ∧ nt ≤ 1
set_option maxRecDepth 100000 in
theorem M_mtakes (d : Nat) : am_Met (d + 4) 829 C_mtakes := am_meth (own0 := "CanalEndModel") 829 (d + 3) 155 T_X8_takes (fun y => bif Nat.beq y 810 then C_mOutlet else (bif Nat.beq y 823 then C_mWater else (bif Nat.beq y 824 then C_layKinds else (bif Nat.beq y 825 then C_mhour else (am_no))))) C_mtakes rfl F_X8_takes rfl (by decide +kernel) Tc_X8_takes (fun y => am_g (M_mOutlet (d + 2)) (am_g (M_mWater (d + 1)) (am_g (M_layKinds (d + 2)) (am_g (M_mhour (d + 2)) (am_no_met))))) (by
  intro av n σ τ nf P hnf hC
  obtain ⟨j, f, nt, ⟨rfl, hn, lf, ⟨K, Q, S, Ce, fl, tr⟩, rfl, hI, rfl, hP⟩, hnt⟩ := hC
  refine ⟨hn, rfl, Nat.le_of_ble_eq_true rfl, fun Wb hs => ?_⟩
  have hI : InvM σ K Q S Ce fl tr := hI
  have hK := hI.1
  have hR := hI.2.1
  have hM10 := hK.2.1
  have hO8 := hK.2.2.1
  have eM := hR.2.1
  have eO := hR.2.2.1
  have fin : ∀ r9 : Int32, (f_takes j f nt (K, Q, S, Ce, fl, tr)).2 = (K, Q, S, Ce, fl, tr) → (f_takes j f nt (K, Q, S, Ce, fl, tr)).1 = .int r9 → P (some (.int r9)) σ (tauY 0 lf) := fun r9 e1 e2 => p_eqv e2 (hP σ (by rw [e1]; exact hI) (fun _ _ => rfl))
  have fin2 : ∀ (v9 : Value) (K9 Q9 S9 : KT) (Ce9 : Nat → Nat → Int32) (fl9 : Nat) (tr9 : Int32) (σ9 : am_Sg), f_takes j f nt (K, Q, S, Ce, fl, tr) = (v9, (K9, Q9, S9, Ce9, fl9, tr9)) → InvM σ9 K9 Q9 S9 Ce9 fl9 tr9 → FrM σ σ9 → P (some v9) σ9 (tauY 0 lf) := fun v9 K9 Q9 S9 Ce9 fl9 tr9 σ9 e h1 h2 => by have := hP σ9 (by rw [e]; exact h1) h2; rw [e] at this; exact this
  refine hs (fun _ => false) 60 0 _ _ _ _ _ ?_
  refine ⟨rfl, hn, 0, lf, K 0 2, j, rfl, rfl, eO, by omega, fun g => ?_, fun g => ?_⟩
  · refine vc_f (by decide) ⟨rfl, f, rfl, fun g9 => ?_, fun c => ?_⟩
    · obtain ⟨i, hi, rfl⟩ := inN_ex g
      have g8 := g9
      obtain ⟨w, hw, rfl⟩ := inN_ex g9
      refine vc_f (by decide) ⟨rfl, hn, lf, K, rfl, rfl, hR, hK, fun σ1 hk1 hf1 => ?_⟩
      refine ⟨rfl, hn, 0, lf, w, nt, K 8, K, rfl, rfl, hR.frame (fun q g1 g2 => hf1 q (by omega)), hK, hk1, by omega, hnt, fun σ2 hH => ?_⟩
      obtain ⟨hI2, hfr⟩ := HrM.inv hf1 hH hI
      refine And.intro (vin (show i < 8 by omega)) (And.intro rfl (fin2 _ K Q S Ce fl tr σ2 ?_ hI2 hfr))
      simp only [f_takes, f_hq]
      rw [if_pos g, if_pos g8, nI_clamp (n := w) (by omega), nI_clamp (n := i) (by omega), show σ2 139 i = _ from hH.2.1 i (by rw [fo_end]; exact hi)]
    · refine vc_t rfl (And.intro rfl (fin _ rfl ?_))
      simp only [f_takes, f_hq]
      rw [if_pos g, if_neg c]
  · refine vc_t rfl (And.intro rfl (fin _ rfl ?_))
    simp only [f_takes, f_hq]
    rw [if_neg g])
