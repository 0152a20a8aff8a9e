def s_dy (K : KT) (f o : Nat) : Nat := s_ta K (K 8) 0 f o + s_ta K (K 8) 1 f o
def s_de (K : KT) (f : Nat) : Nat := s_in K (K 8) 0 f (K 0 1) + s_in K (K 8) 1 f (K 0 1)
def C_drun : am_C := fun av n σ τ nf P => nf = n ∧ 155 ≤ n ∧ ∃ (rw lf d c f : Nat) (K : KT), τ = tauY rw lf ∧ av = [.ref d, .ref c, .int (nI f)] ∧ (d = 29 ∨ d = 36) ∧ (c = 1 ∨ c = 12) ∧ RepX σ c K ∧ WfK K ∧ f ≤ 9999 ∧ ∀ σ', (∀ o, o < K 0 2 → σ' (d + 1) o = nI (s_dy K f o)) → σ' d 1 = nI (s_de K f) → (∀ q, ¬ (d ≤ q ∧ q ≤ d + 6) → σ' q = σ q) → P none σ' τ
set_option maxRecDepth 100000 in
theorem M_drun (d : Nat) : am_Met (d + 3) 101 C_drun := am_meth (own0 := "CanalEnd$Day") 101 (d + 2) 155 T_X1_run (fun y => bif Nat.beq y 301 then C_hrun else (am_no)) C_drun rfl F_X1_run rfl (by decide +kernel) Tc_X1_run (fun y => am_g (M_hrun (d + 0)) (am_no_met)) (by
  intro av n σ τ nf P hnf hC
  obtain ⟨rfl, hn, rw, lf, d, c, f, K, rfl, rfl, hd, hc, hR, hK, hf, hP⟩ := hC
  refine ⟨hn, rfl, Nat.le_of_ble_eq_true rfl, fun Wb hs => ?_⟩
  have hO8 := hK.2.2.1
  have key : ∀ r o (σ6 : am_Sg), o + r = K 0 2 → (∀ z, z < K 0 2 → σ6 (d + 1) z = nI (if z < o then s_dy K f z else s_ta K (K 8) 0 f z)) → (∀ z, z < K 0 2 → σ6 (d + 6) z = nI (s_ta K (K 8) 1 f z)) → σ6 d 1 = nI (s_de K f) → (∀ q, ¬ (d ≤ q ∧ q ≤ d + 6) → σ6 q = σ q) → Wb 67 [some (.ref d), some (.ref c), some (.int (nI f)), some (.int (nI o))] [] nf σ6 (tauY rw lf) := by
    intro r
    induction r with
    | zero =>
      intro o σ6 ho h1 h2 h3 h4
      have ho : o = K 0 2 := by omega
      subst ho
      have eO : σ6 c 2 = nI (K 0 2) := by rw [h4 c (by omega)]; exact hR.1 2 (by omega)
      have hle : σ6 c 2 ≤ nI (K 0 2) := by rw [eO]; exact nI_le (Nat.le_refl _) (by omega)
      have hQ9 := hP σ6 (fun z hz => by rw [h1 z hz, if_pos hz]) h3 h4
      rcases hd with rfl | rfl
      all_goals
        rcases hc with rfl | rfl
        all_goals exact hs (fun p => Nat.beq p 67) 60 67 _ _ _ _ _ (vc_t hle (And.intro rfl hQ9))
    | succ r ih =>
      intro o σ6 ho h1 h2 h3 h4
      have eO : σ6 c 2 = nI (K 0 2) := by rw [h4 c (by omega)]; exact hR.1 2 (by omega)
      have hle : ¬ σ6 c 2 ≤ nI o := by rw [eO]; exact nI_ge (by omega) (by omega)
      have hcl : (nI o).toNatClampNeg = o := nI_clamp (by omega)
      have ho8 : o < 8 := by omega
      have go : ∀ σ7 : am_Sg, σ7 = am_up σ6 (d + 1) o (σ6 (d + 1) o + σ6 (d + 6) o) → Wb 67 [some (.ref d), some (.ref c), some (.int (nI f)), some (.int (nI o + 1))] [] nf σ7 (tauY rw lf) := by
        intro σ7 e7
        rw [h1 o (by omega), h2 o (by omega), if_neg (by omega), nI_add] at e7
        rw [← nI_succ]
        refine ih (o + 1) σ7 (by omega) (fun z hz => ?_) (fun z hz => by rw [e7, up_rn (by omega)]; exact h2 z hz) (by rw [e7, up_rn (by omega)]; exact h3) (fun q hq => by rw [e7, am_up_ne (by omega)]; exact h4 q hq)
        by_cases e : z = o
        · rw [e, e7, up_at, if_pos (by omega)]; rfl
        · rw [e7, up_ne e, h1 z hz]
          by_cases h : z < o
          · rw [if_pos h, if_pos (by omega)]
          · rw [if_neg h, if_neg (by omega)]
      rcases hd with rfl | rfl
      all_goals
        rcases hc with rfl | rfl
        all_goals
          refine hs (fun p => Nat.beq p 67) 60 67 _ _ _ _ _ (vc_f hle (And.intro (vin ho8) (And.intro (vin ho8) (And.intro (vin ho8) (fun σ7 e7 => ?_)))))
          rw [hcl] at e7
          exact go σ7 e7
  have st : ∀ σ1 σ2 σ3 σ4 σ5 : am_Sg, HrI σ σ1 (d + 2) c K (K 8) 0 f (K 0 1) → σ1 (d + 2) 6 = nI (s_in K (K 8) 0 f (K 0 1)) → σ2 = am_up σ1 d 1 (σ1 (d + 2) 6) → σ3 = am_cp σ2 (d + 6) (d + 1) 0 0 8 → HrI σ3 σ4 (d + 2) c K (K 8) 1 f (K 0 1) → σ4 (d + 2) 6 = nI (s_in K (K 8) 1 f (K 0 1)) → σ5 = am_up σ4 d 1 (σ4 d 1 + σ4 (d + 2) 6) → Wb 67 [some (.ref d), some (.ref c), some (.int (nI f)), some (.int (nI 0))] [] nf σ5 (tauY rw lf) := by
    intro σ1 σ2 σ3 σ4 σ5 a1 a2 a3 a4 a5 a6 a7
    have f1 := a1.2.2.2.2.2
    have f5 := a5.2.2.2.2.2
    have t1 := a1.2.2.1
    have t5 := a5.2.2.1
    rw [fo_end] at t1 t5
    refine key (K 0 2) 0 σ5 (by omega) (fun z hz => ?_) (fun z hz => ?_) ?_ (fun q hq => ?_)
    · rw [a7, up_rn (by omega), f5 (d + 1) (by omega), a4, am_cp_at, if_neg (by omega)]
      unfold va_cpy
      rw [if_pos (by omega), a3, up_rn (by omega), show 0 + (z - 0) = z by omega]
      exact t1 z hz
    · rw [a7, up_rn (by omega)]
      exact t5 z hz
    · rw [a7, up_at, a6, f5 d (by omega), a4, am_cp_ne (by omega), a3, up_at, a2, nI_add]
      rfl
    · rw [a7, am_up_ne (by omega), f5 q (by omega), a4, am_cp_ne (by omega), a3, am_up_ne (by omega), f1 q (by omega)]
  have r3 : ∀ σ1 σ2 σ3 : am_Sg, HrI σ σ1 (d + 2) c K (K 8) 0 f (K 0 1) → σ2 = am_up σ1 d 1 (σ1 (d + 2) 6) → σ3 = am_cp σ2 (d + 6) (d + 1) 0 0 8 → RepX σ3 c K := fun σ1 σ2 σ3 a1 a3 a4 => a1.1.frame (fun q g1 g2 => by rw [a4, am_cp_ne (by omega), a3, am_up_ne (by omega)])
  rcases hd with rfl | rfl
  all_goals
    rcases hc with rfl | rfl
    all_goals
      refine hs (fun p => Nat.beq p 67) 90 0 _ _ _ _ _ ⟨rfl, hn, rw, lf, _, _, f, 0, K, rfl, rfl, by decide, by decide, hR, hK, hf, by omega, fun σ1 a1 a2 => fun σ2 a3 => ⟨by decide, by decide, by decide, by decide, by decide, fun q => absurd q (by decide), fun σ3 a4 => ?_⟩⟩
      exact ⟨rfl, hn, rw, lf, _, _, f, 1, K, rfl, rfl, by decide, by decide, r3 σ1 σ2 σ3 a1 a3 a4, hK, hf, by omega, fun σ4 a5 a6 => fun σ5 a7 => st σ1 σ2 σ3 σ4 σ5 a1 a2 a3 a4 a5 a6 a7⟩)
def C_layDay : am_C := fun av n σ τ nf P => nf = n ∧ 155 ≤ n ∧ ∃ (lf f : Nat) (K : KT), τ = tauY 0 lf ∧ av = [.ref 116, .int (nI f)] ∧ RepM σ K ∧ WfK K ∧ 0 < K 0 1 ∧ f ≤ 9999 ∧ ∀ σ', (∀ o, o < K 0 2 → σ' 147 o = nI (s_dy K f o)) → σ' 116 43 = nI (s_de K f) → (∀ q, ¬ q = 116 → ¬ (135 ≤ q ∧ q ≤ 139) → ¬ q = 147 → σ' q = σ q) → (∀ i, ¬ i = 43 → σ' 116 i = σ 116 i) → P none σ' τ
theorem RepM.fr6 {σ σ' : am_Sg} {K : KT} (h : RepM σ K) (hf : ∀ q, 117 ≤ q → q ≤ 128 → σ' q = σ q) (h6 : ∀ i, i = 5 ∨ i = 6 ∨ i = 7 ∨ i = 17 → σ' 116 i = σ 116 i) : RepM σ' K := by
  obtain ⟨h1, h2, h3, h4, h5, h7, h8⟩ := h
  refine ⟨by rw [h6 5 (by omega)]; exact h1, by rw [h6 6 (by omega)]; exact h2, by rw [h6 7 (by omega)]; exact h3, by rw [h6 17 (by omega)]; exact h4, fun j hj => ?_, fun j hj => ?_, fun f hf9 o ho => ?_⟩
  · rw [hf 120 (by omega) (by omega), hf 121 (by omega) (by omega)]; exact h5 j hj
  · rw [hf 122 (by omega) (by omega)]; exact h7 j hj
  · rw [hf _ (by omega) (by omega)]; exact h8 f hf9 o ho
set_option maxRecDepth 100000 in
theorem M_layDay (d : Nat) : am_Met (d + 3) 844 C_layDay := am_meth (own0 := "CanalEndModel") 844 (d + 2) 155 T_X8_layDay (fun y => bif Nat.beq y 824 then C_layKinds else (bif Nat.beq y 825 then C_mhour else (am_no))) C_layDay rfl F_X8_layDay rfl (by decide +kernel) Tc_X8_layDay (fun y => am_g (M_layKinds (d + 1)) (am_g (M_mhour (d + 1)) (am_no_met))) (by
  intro av n σ τ nf P hnf hC
  obtain ⟨rfl, hn, lf, f, K, rfl, rfl, hR, hK, hpos, hf, hP⟩ := hC
  refine ⟨hn, rfl, Nat.le_of_ble_eq_true rfl, fun Wb hs => ?_⟩
  have hM10 := hK.2.1
  have hO8 := hK.2.2.1
  have em1 : nI (K 0 1) - 1 = nI (K 0 1 - 1) := by rw [show (1 : Int32) = nI 1 from rfl, nI_subN (by omega)]
  have k81 : ∀ r o (σ6 : am_Sg), o + r = K 0 2 → (∀ z, z < K 0 2 → σ6 147 z = nI (if z < o then s_dy K f z else s_ta K (K 8) 0 f z)) → (∀ z, z < K 0 2 → σ6 139 z = nI (s_ta K (K 8) 1 f z)) → σ6 116 43 = nI (s_de K f) → (∀ q, ¬ q = 116 → ¬ (135 ≤ q ∧ q ≤ 139) → ¬ q = 147 → σ6 q = σ q) → (∀ i, ¬ i = 43 → σ6 116 i = σ 116 i) → Wb 81 [some (.ref 116), some (.int (nI f)), some (.int (nI o))] [] nf σ6 (tauY 0 lf) := by
    intro r
    induction r with
    | zero =>
      intro o σ6 ho h1 h2 h3 h4 h5
      have ho : o = K 0 2 := by omega
      subst ho
      have eO : σ6 116 7 = nI (K 0 2) := by rw [h5 7 (by omega)]; exact hR.2.2.1
      exact hs (fun p => Nat.beq p 81) 60 81 _ _ _ _ _ (vc_t (by rw [eO]; exact nI_le (Nat.le_refl _) (by omega)) (And.intro rfl (hP σ6 (fun z hz => by rw [h1 z hz, if_pos hz]) h3 h4 h5)))
    | succ r ih =>
      intro o σ6 ho h1 h2 h3 h4 h5
      have eO : σ6 116 7 = nI (K 0 2) := by rw [h5 7 (by omega)]; exact hR.2.2.1
      have hcl : (nI o).toNatClampNeg = o := nI_clamp (by omega)
      refine hs (fun p => Nat.beq p 81) 60 81 _ _ _ _ _ (vc_f (by rw [eO]; exact nI_ge (by omega) (by omega)) (And.intro (vin (show o < 8 by omega)) (And.intro (vin (show o < 8 by omega)) (And.intro (vin (show o < 8 by omega)) (fun σ7 e7 => ?_)))))
      rw [hcl] at e7
      have e7 : σ7 = am_up σ6 147 o (σ6 147 o + σ6 139 o) := e7
      rw [h1 o (by omega), h2 o (by omega), if_neg (by omega), nI_add] at e7
      show Wb 81 [some (.ref 116), some (.int (nI f)), some (.int (nI o + 1))] [] nf σ7 (tauY 0 lf)
      rw [← nI_succ]
      refine ih (o + 1) σ7 (by omega) (fun z hz => ?_) (fun z hz => by rw [e7, up_rn (by omega)]; exact h2 z hz) (by rw [e7, up_rn (by omega)]; exact h3) (fun q g1 g2 g3 => by rw [e7, am_up_ne g3]; exact h4 q g1 g2 g3) (fun i hi => by rw [e7, up_rn (by omega)]; exact h5 i hi)
      by_cases e : z = o
      · rw [e, e7, up_at, if_pos (by omega)]; rfl
      · rw [e7, up_ne e, h1 z hz]
        by_cases h : z < o
        · rw [if_pos h, if_pos (by omega)]
        · rw [if_neg h, if_neg (by omega)]
  have k27 : ∀ r o (σ6 : am_Sg), o + r = K 0 2 → (∀ z, z < o → σ6 147 z = nI (s_ta K (K 8) 0 f z)) → (∀ z, z < K 0 2 → σ6 139 z = nI (s_ta K (K 8) 0 f z)) → σ6 116 43 = nI (s_in K (K 8) 0 f (K 0 1)) → (∀ q, ¬ q = 116 → ¬ (135 ≤ q ∧ q ≤ 139) → ¬ q = 147 → σ6 q = σ q) → (∀ i, ¬ i = 43 → σ6 116 i = σ 116 i) → Knd σ6 K (K 8) → Wb 27 [some (.ref 116), some (.int (nI f)), some (.int (nI o))] [] nf σ6 (tauY 0 lf) := by
    intro r
    induction r with
    | zero =>
      intro o σ6 ho h1 h2 h3 h4 h5 h6
      have ho : o = K 0 2 := by omega
      subst ho
      have eO : σ6 116 7 = nI (K 0 2) := by rw [h5 7 (by omega)]; exact hR.2.2.1
      have hR6 : RepM σ6 K := hR.fr6 (fun q g1 g2 => h4 q (by omega) (by omega) (by omega)) (fun i hi => h5 i (by omega))
      refine hs (fun p => Nat.beq p 81) 60 27 _ _ _ _ _ (vc_t (by rw [eO]; exact nI_le (Nat.le_refl _) (by omega)) ⟨rfl, hn, 0, lf, f, 1, K 8, K, rfl, rfl, hR6, hK, h6, hf, by omega, fun σ7 hh => ?_⟩)
      have hfr := hh.2.2
      have eM : σ7 116 6 = nI (K 0 1) := by rw [hfr 116 (by omega), h5 6 (by omega)]; exact hR.2.1
      have hB := hh.2.1
      rw [fo_end] at hB
      refine And.intro (by rw [eM, em1]; exact vin (show K 0 1 - 1 < 10 by omega)) (fun σ8 e8 => ?_)
      rw [eM, em1, nI_clamp (by omega), (hh.1 (K 0 1 - 1) (by omega)).2.2, hfr 116 (by omega), h3, nI_add, show K 0 1 - 1 + 1 = K 0 1 by omega] at e8
      have e8 : σ8 = am_up σ7 116 43 (nI (s_de K f)) := e8
      refine k81 (K 0 2) 0 σ8 (by omega) (fun z hz => ?_) (fun z hz => by rw [e8, up_rn (by omega)]; exact hB z hz) (by rw [e8]; exact up_at) (fun q g1 g2 g3 => by rw [e8, am_up_ne g1, hfr q (by omega)]; exact h4 q g1 g2 g3) (fun i hi => by rw [e8, up_ne hi, hfr 116 (by omega)]; exact h5 i hi)
      rw [e8, up_rn (by omega), hfr 147 (by omega), if_neg (by omega)]
      exact h1 z hz
    | succ r ih =>
      intro o σ6 ho h1 h2 h3 h4 h5 h6
      have eO : σ6 116 7 = nI (K 0 2) := by rw [h5 7 (by omega)]; exact hR.2.2.1
      have hcl : (nI o).toNatClampNeg = o := nI_clamp (by omega)
      refine hs (fun p => Nat.beq p 27) 60 27 _ _ _ _ _ (vc_f (by rw [eO]; exact nI_ge (by omega) (by omega)) (And.intro (vin (show o < 8 by omega)) (And.intro (vin (show o < 8 by omega)) (fun σ7 e7 => ?_))))
      rw [hcl] at e7
      have e7 : σ7 = am_up σ6 147 o (σ6 139 o) := e7
      show Wb 27 [some (.ref 116), some (.int (nI f)), some (.int (nI o + 1))] [] nf σ7 (tauY 0 lf)
      rw [← nI_succ]
      refine ih (o + 1) σ7 (by omega) (fun z hz => ?_) (fun z hz => by rw [e7, up_rn (by omega)]; exact h2 z hz) (by rw [e7, up_rn (by omega)]; exact h3) (fun q g1 g2 g3 => by rw [e7, am_up_ne g3]; exact h4 q g1 g2 g3) (fun i hi => by rw [e7, up_rn (by omega)]; exact h5 i hi) (fun z hz => by rw [e7, up_rn (by omega)]; exact h6 z hz)
      by_cases e : z = o
      · rw [e, e7, up_at]; exact h2 o (by omega)
      · rw [e7, up_ne e]; exact h1 z (by omega)
  refine hs (fun p => Nat.beq p 27) 60 0 _ _ _ _ _ ⟨rfl, hn, lf, K, rfl, rfl, hR, hK, fun σ1 hk1 hf1 => ?_⟩
  have hR1 : RepM σ1 K := hR.fr6 (fun q g1 g2 => hf1 q (by omega)) (fun i hi => by rw [hf1 116 (by omega)])
  refine ⟨rfl, hn, 0, lf, f, 0, K 8, K, rfl, rfl, hR1, hK, hk1, hf, by omega, fun σ2 hh => ?_⟩
  have hfr := hh.2.2
  have eM : σ2 116 6 = nI (K 0 1) := by rw [hfr 116 (by omega), hf1 116 (by omega)]; exact hR.2.1
  have hB := hh.2.1
  rw [fo_end] at hB
  refine And.intro (by rw [eM, em1]; exact vin (show K 0 1 - 1 < 10 by omega)) (fun σ3 e3 => ?_)
  rw [eM, em1, nI_clamp (by omega), (hh.1 (K 0 1 - 1) (by omega)).2.2, show K 0 1 - 1 + 1 = K 0 1 by omega] at e3
  have e3 : σ3 = am_up σ2 116 43 (nI (s_in K (K 8) 0 f (K 0 1))) := e3
  refine k27 (K 0 2) 0 σ3 (by omega) (fun z hz => absurd hz (by omega)) (fun z hz => by rw [e3, up_rn (by omega)]; exact hB z hz) (by rw [e3]; exact up_at) (fun q g1 g2 g3 => by rw [e3, am_up_ne g1, hfr q (by omega), hf1 q (by omega)]) (fun i hi => by rw [e3, up_ne hi, hfr 116 (by omega), hf1 116 (by omega)]) (fun z hz => by rw [e3, up_rn (by omega), hfr 135 (by omega)]; exact hk1 z hz))
