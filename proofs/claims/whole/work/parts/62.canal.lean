theorem pAll_gd {cd : Nat → Int32} {n s : Nat} (hs : s ≤ 99) (h : (pAll cd n s).1 = true) : WfK (pAll cd n s).2.2 ∧ ZrK (pAll cd n s).2.2 ∧ (pAll cd n s).2.2 0 3 = s := by
  by_cases c : cd 0 = 119
  · have e := pAll_y (n := n) (s := s) c
    by_cases w0 : (pW cd).1 = 0
    · rw [if_pos w0] at e
      rw [e] at h
      cases h
    · rw [if_neg w0] at e
      rw [e] at h ⊢
      exact pMls_gd 10 _ _ (K0w_wf (pW_le cd) hs) (K0w_z _ _) (Nat.pos_of_ne_zero w0) rfl h
  · rw [pAll_n c] at h
    cases h
theorem pMls_le {c : Nat → Int32} {i m : Nat} : ∀ r p (K : KT), p ≤ m → (pMls (cdv c i m) m r p K).2.1 ≤ m
  | 0, p, K, h => h
  | r + 1, p, K, h => by
    have l := pOne_le (c := c) (i := i) (m := m) (p := p) (K := K) h
    by_cases c1 : (pOne (cdv c i m) p K).1 = true
    · by_cases c2 : (pOne (cdv c i m) p K).2.1 < m
      · rw [pMls_c c1 c2]; exact pMls_le r _ _ l
      · rw [pMls_e c1 c2]; exact l
    · rw [pMls_f c1]; exact l
theorem pAll_le {c : Nat → Int32} {i m s : Nat} : (pAll (cdv c i m) m s).2.1 ≤ m + 1 := by
  by_cases g : cdv c i m 0 = 119
  · rw [pAll_y g]
    by_cases w0 : (pW (cdv c i m)).1 = 0
    · rw [if_pos w0]; show 1 ≤ m + 1; omega
    · rw [if_neg w0]
      have := pMls_le (c := c) (i := i) (m := m) 10 _ (K0w (pW (cdv c i m)).1 s) (pW_p w0)
      omega
  · rw [pAll_n g]; show 0 ≤ m + 1; omega
def zQ : KT := fun _ _ => 0
def cnP (s : ST) (k i m : Nat) : PR := pAll (cdv (s.2.2.2.1 k) i m) m (s.1 0 3)
def f_canal (k t i m : Int32) (s : ST) : Value × ST := if inN k 4 ∧ inN t 3 ∧ agn s.2.2.1 k.toNatClampNeg t.toNatClampNeg i m = 0 then (if (cnP s k.toNatClampNeg i.toNatClampNeg m.toNatClampNeg).1 = true then (.int (nI ((cnP s k.toNatClampNeg i.toNatClampNeg m.toNatClampNeg).2.2 0 1)), ((cnP s k.toNatClampNeg i.toNatClampNeg m.toNatClampNeg).2.2, zQ, s.2.2.1, s.2.2.2.1, 0, s.2.2.2.2.2)) else (.int (-100 - nI (cnP s k.toNatClampNeg i.toNatClampNeg m.toNatClampNeg).2.1), setF s 0)) else f_ref k t i m s
def C_forget : am_C := fun av n σ τ nf P => nf = n ∧ 155 ≤ n ∧ ∃ (rw lf : Nat), τ = tauY rw lf ∧ av = [.ref 43] ∧ ∀ σ', σ' 43 0 = 0 → σ' 43 2 = 0 → (∀ q, ¬ q = 43 → σ' q = σ q) → P none σ' τ
set_option maxRecDepth 100000 in
theorem M_forget (d : Nat) : am_Met (d + 1) 601 C_forget := am_meth (own0 := "CanalEnd$Worlds") 601 (d + 0) 155 T_X6_forgetReadings (fun y => am_no) C_forget rfl F_X6_forgetReadings rfl (by decide +kernel) Tc_X6_forgetReadings (fun y => am_no_met) (by
  intro av n σ τ nf P hnf hC
  obtain ⟨rfl, hn, rw, lf, rfl, rfl, hP⟩ := hC
  refine ⟨hn, rfl, Nat.le_of_ble_eq_true rfl, fun Wb hs => ?_⟩
  exact hs (fun _ => false) 60 0 _ _ _ _ _ (fun σ1 e1 => And.intro (Or.inl rfl) (fun σ2 e2 => And.intro rfl (hP σ2 (by rw [e2, up_ne (by omega), e1, up_at]) (by rw [e2, up_at]) (fun q hq => by rw [e2, am_up_ne hq, e1, am_up_ne hq])))))
/-- a change behind which the counts are made anew, guards given anew too -/
theorem InvX.anew2 {σ σ' : am_Sg} {n lf : Nat} {K K' Q Q' S : KT} {Ce : Nat → Nat → Int32} {fl : Nat} {tr : Int32} (h : InvX σ n lf K Q S Ce fl tr) (hK : WfK K') (hR : RepX σ' 1 K') (hQ : WfQ K' Q') (hRQ : RepQ σ' Q') (hc : σ' 43 2 = 0) (hf : ∀ q, q = 0 ∨ (108 ≤ q ∧ q ≤ 115) → σ' q = σ q) (hG : RepG σ') : InvX σ' n lf K' Q' S Ce fl tr := by
  obtain ⟨h1, h2, h3, h4, h5, h6, h7, h8, h9, h10⟩ := h
  refine ⟨hK, hR, hQ, hRQ, ⟨Or.inl hc, fun g => absurd (hc.symm.trans g) (by decide)⟩, h6, ?_, ?_, hG, h10⟩
  · intro k hk; rw [hf _ (by omega), hf _ (by omega)]; exact h7 k hk
  · unfold RepZ; rw [hf 0 (by omega)]; exact h8
def C_xcanal : am_C := fun av n σ τ nf P => ∃ (k : Int32) (t : Int32) (i : Int32) (m : Int32), pubX [.int k, .int t, .int i, .int m] (f_canal k t i m) av n σ τ nf P
set_option maxRecDepth 100000 in
theorem M_xcanal (d : Nat) : am_Met (d + 6) 701 C_xcanal := am_meth (own0 := "CanalEnd") 701 (d + 5) 155 T_X7_canal (fun y => bif Nat.beq y 750 then C_refRow else (bif Nat.beq y 501 then C_firstF else (bif Nat.beq y 4 then C_become else (bif Nat.beq y 601 then C_forget else (am_no))))) C_xcanal rfl F_X7_canal rfl (by decide +kernel) Tc_X7_canal (fun y => am_g (M_refRow (d + 2)) (am_g (M_firstF (d + 0)) (am_g (M_become (d + 4)) (am_g (M_forget (d + 4)) (am_no_met))))) (by
  intro av n σ τ nf P hnf hC
  obtain ⟨k, t, i, m, rfl, lf, ⟨K, Q, S, Ce, fl, tr⟩, rfl, hI, rfl, hP⟩ := hC
  have hn := Nlf_le hI.2.2.2.2.2.2.2.2.2
  refine ⟨hn, rfl, Nat.le_of_ble_eq_true rfl, fun Wb hs => ?_⟩
  have hI : InvX σ nf lf K Q S Ce fl tr := hI
  have hK := hI.1
  have hR := hI.2.1
  have hM10 := hK.2.1
  have hO8 := hK.2.2.1
  have eM : σ 1 1 = nI (K 0 1) := hR.1 1 (by omega)
  have eO : σ 1 2 = nI (K 0 2) := hR.1 2 (by omega)
  have fin : ∀ r9 : Int32, (f_canal k t i m (K, Q, S, Ce, fl, tr)).2 = (K, Q, S, Ce, fl, tr) → (f_canal k t i m (K, Q, S, Ce, fl, tr)).1 = .int r9 → P (some (.int r9)) σ (tauY 0 lf) := fun r9 e1 e2 => p_eqv e2 (hP σ (by rw [e1]; exact hI) (fun _ _ => fun _ => rfl))
  have fin2 : ∀ (v9 : Value) (K9 Q9 S9 : KT) (Ce9 : Nat → Nat → Int32) (fl9 : Nat) (tr9 : Int32) (σ9 : am_Sg), f_canal k t i m (K, Q, S, Ce, fl, tr) = (v9, (K9, Q9, S9, Ce9, fl9, tr9)) → InvX σ9 nf lf K9 Q9 S9 Ce9 fl9 tr9 → FrX σ σ9 → P (some v9) σ9 (tauY 0 lf) := fun v9 K9 Q9 S9 Ce9 fl9 tr9 σ9 e h1 h2 => by have := hP σ9 (by rw [e]; exact h1) h2; rw [e] at this; exact this
  refine hs (fun _ => false) 90 0 _ _ _ _ _ ⟨k, t, i, m, rfl, lf, (K, Q, S, Ce, fl, tr), rfl, hI, rfl, fun σ1 h1 hfr => ?_⟩
  have fall : ¬ (inN k 4 ∧ inN t 3 ∧ agn S k.toNatClampNeg t.toNatClampNeg i m = 0) → ∀ r : Int32, (f_ref k t i m (K, Q, S, Ce, fl, tr)).1 = .int r → P (some (.int r)) σ1 (tauY 0 lf) := fun g r e => by
    have ef : f_canal k t i m (K, Q, S, Ce, fl, tr) = f_ref k t i m (K, Q, S, Ce, fl, tr) := by unfold f_canal; rw [if_neg g]
    have h9 := hP σ1 (by rw [ef]; exact h1) hfr
    rw [ef, e] at h9
    exact h9
  by_cases g : inN k 4
  case neg =>
    have e : (f_ref k t i m (K, Q, S, Ce, fl, tr)).1 = .int (-1) := by unfold f_ref; rw [if_neg g]
    have h9 := fall (fun q => g q.1) _ e
    rw [e]
    exact vc_f (by decide) (And.intro rfl h9)
  by_cases g2 : inN t 3
  case neg =>
    have e : (f_ref k t i m (K, Q, S, Ce, fl, tr)).1 = .int (-2) := by unfold f_ref; rw [if_pos g, if_neg g2]
    have h9 := fall (fun q => g2 q.2.1) _ e
    rw [e]
    exact vc_f (by decide) (And.intro rfl h9)
  have e : f_ref k t i m (K, Q, S, Ce, fl, tr) = (.int (rfz (agn S k.toNatClampNeg t.toNatClampNeg i m)), setF (K, Q, S, Ce, fl, tr) (agn S k.toNatClampNeg t.toNatClampNeg i m)) := by unfold f_ref; rw [if_pos g, if_pos g2]
  by_cases g3 : agn S k.toNatClampNeg t.toNatClampNeg i m = 0
  case neg =>
    have h9 := fall (fun q => g3 q.2.2) (rfz (agn S k.toNatClampNeg t.toNatClampNeg i m)) (by rw [e])
    rw [e]
    exact vc_f (rfz_n agn_le g3) (And.intro rfl h9)
  rw [e] at h1 ⊢
  rw [g3] at h1 ⊢
  have hI1 : InvX σ1 nf lf K Q S Ce 0 tr := h1
  have hok := agn_z g3
  clear fall e
  obtain ⟨a, ha, rfl⟩ := inN_ex g
  have hca : (nI a).toNatClampNeg = a := nI_clamp (by omega)
  rw [hca] at hok g3
  have hw := hI1.2.2.2.2.2.1 a ha
  have hw2 := hw.2.2
  have hr := hI1.2.2.2.2.2.2.1 a ha
  obtain ⟨x, hx, rfl⟩ := inN_ex (v := i) (N := 101) ⟨by omega, by omega⟩
  obtain ⟨y, hy, rfl⟩ := inN_ex (v := m) (N := 101) ⟨by omega, by omega⟩
  have hcx : (nI x).toNatClampNeg = x := nI_clamp (by omega)
  have hcy : (nI y).toNatClampNeg = y := nI_clamp (by omega)
  have hxy : x + y ≤ 100 := by
    have h9 := hok.2.2
    rw [nI_toInt (by omega), nI_toInt (by omega)] at h9
    omega
  have hs9 := hK.2.2.2.1
  have hG1 := hI1.2.2.2.2.2.2.2.2.1
  have ev : f_canal (nI a) t (nI x) (nI y) (K, Q, S, Ce, fl, tr) = (if (pAll (cdv (Ce a) x y) y (K 0 3)).1 = true then (.int (nI ((pAll (cdv (Ce a) x y) y (K 0 3)).2.2 0 1)), ((pAll (cdv (Ce a) x y) y (K 0 3)).2.2, zQ, S, Ce, 0, tr)) else (.int (-100 - nI (pAll (cdv (Ce a) x y) y (K 0 3)).2.1), setF (K, Q, S, Ce, fl, tr) 0)) := by
    unfold f_canal
    rw [hca, hcx, hcy, if_pos ⟨g, g2, g3⟩]
    rfl
  have no : ¬ (pAll (cdv (Ce a) x y) y (K 0 3)).1 = true → ∀ σ2, G2 σ2 → (∀ q, ¬ q = 23 → ¬ (12 ≤ q ∧ q ≤ 22) → σ2 q = σ1 q) → P (some (.int (-100 - nI (pAll (cdv (Ce a) x y) y (K 0 3)).2.1))) σ2 (tauY 0 lf) := fun q σ2 b2 b3 => fin2 _ K Q S Ce 0 tr σ2 (by rw [ev, if_neg q]; rfl) (hI1.keep (fun q hq => b3 q (by unfold Pq at hq; omega) (by unfold Pq at hq; omega)) (fun j hj => ⟨by rw [b3 11 (by omega) (by omega)]; exact (hG1 j hj).1, b2 j hj⟩)) (fun q g1 g2 => by rw [b3 q (by omega) (by omega)]; exact hfr q g1 g2)
  have yes : (pAll (cdv (Ce a) x y) y (K 0 3)).1 = true → ∀ σ2, RepP σ2 (pAll (cdv (Ce a) x y) y (K 0 3)).2.2 → G2 σ2 → (∀ q, ¬ q = 23 → ¬ (12 ≤ q ∧ q ≤ 22) → σ2 q = σ1 q) → ∀ σ3, σ3 = am_up σ2 12 3 (σ2 1 3) → RepX σ3 12 (pAll (cdv (Ce a) x y) y (K 0 3)).2.2 ∧ WfK (pAll (cdv (Ce a) x y) y (K 0 3)).2.2 ∧ RepG σ3 ∧ ∀ σ4, RepX σ4 1 (pAll (cdv (Ce a) x y) y (K 0 3)).2.2 → RepG σ4 → (∀ q, ¬ (1 ≤ q ∧ q ≤ 1 + 10) → σ4 q = σ3 q) → ∀ σ5, σ5 43 0 = 0 → σ5 43 2 = 0 → (∀ q, ¬ q = 43 → σ5 q = σ4 q) → P (some (.int (σ5 1 1))) σ5 (tauY 0 lf) := by
    intro q σ2 b1 b2 b3 σ3 e3
    obtain ⟨w1, w2, w3⟩ := pAll_gd hs9 q
    have e13 : σ2 1 3 = nI (K 0 3) := by rw [b3 1 (by omega) (by omega)]; exact hI1.2.1.1 3 (by omega)
    refine ⟨⟨fun j hj => ?_, fun f hf j hj => ?_, fun f hf j hj => ?_⟩, w1, fun j hj => ?_, fun σ4 c1 c2 c3 σ5 d1 d2 d3 => ?_⟩
    · by_cases e : j = 3
      · subst e
        rw [e3, up_at, e13, w3]
      · rw [e3, up_ne e]
        exact b1.1 j (by omega)
    · rw [e3, up_rn (by omega)]
      exact b1.2.1 f hf j hj
    · rw [e3, up_rn (by omega)]
      exact b1.2.2 f hf j hj
    · refine ⟨by rw [e3, up_rn (by omega), b3 11 (by omega) (by omega)]; exact (hG1 j hj).1, by rw [e3, up_rn (by omega)]; exact b2 j hj⟩
    · have fr : ∀ q, ¬ q = 43 → ¬ (1 ≤ q ∧ q ≤ 23) → σ5 q = σ1 q := fun q h1 h2 => by rw [d3 q h1, c3 q (by omega), e3, am_up_ne (by omega), b3 q (by omega) (by omega)]
      have hR5 : RepX σ5 1 (pAll (cdv (Ce a) x y) y (K 0 3)).2.2 := c1.frame (fun q g1 g2 => d3 q (by omega))
      have e5 : σ5 1 1 = nI ((pAll (cdv (Ce a) x y) y (K 0 3)).2.2 0 1) := hR5.1 1 (by omega)
      rw [e5]
      exact fin2 _ _ zQ S Ce 0 tr σ5 (by rw [ev, if_pos q]) (hI1.anew2 w1 hR5 ⟨Nat.zero_le _, fun k hk => absurd hk (Nat.not_lt_zero k)⟩ ⟨d1, fun k hk => absurd hk (Nat.not_lt_zero k)⟩ d2 (fun q hq => fr q (by omega) (by omega)) (c2.fr (d3 11 (by omega)) (d3 22 (by omega)))) (fun q g1 g2 => by rw [fr q (by omega) (by omega)]; exact hfr q g1 g2)
  have hG2 : G2 σ1 := fun j hj => (hG1 j hj).2
  refine vc_t rfl (And.intro (vin (show a < 4 by omega)) ?_)
  rw [hca]
  rcases k4 ha with rfl | rfl | rfl | rfl
  all_goals
    refine And.intro (sh_nz ha) (fun z9 hz9 => ?_)
    cases hz9
    refine ⟨rfl, hn, lf, _, x, y, K 0 3, Ce _, rfl, rfl, ha, hxy, hs9, hG2, hr.2.2.2, fun q σ2 b1 b2 b3 => vc_t (by decide) (fun σ3 e3 => ?_), fun q σ2 b2 b3 bl => vc_f (nI_pos (by omega)) (And.intro rfl (no q σ2 b2 b3))⟩
    obtain ⟨y1, y2, y3, y4⟩ := yes q σ2 b1 b2 b3 σ3 e3
    exact ⟨rfl, hn, 0, lf, 1, 12, _, rfl, rfl, Or.inr ⟨rfl, rfl⟩, y1, y2, y3, fun σ4 c1 c2 c3 => ⟨rfl, hn, 0, lf, rfl, rfl, fun σ5 d1 d2 d3 => And.intro rfl (y4 σ4 c1 c2 c3 σ5 d1 d2 d3)⟩⟩)
