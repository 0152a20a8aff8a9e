theorem InvM.lay {σ σ' : am_Sg} {K Q S : KT} {Ce : Nat → Nat → Int32} {fl : Nat} {tr : Int32} (h : InvM σ K Q S Ce fl tr) (hf : ∀ q, ¬ q = 116 → ¬ (135 ≤ q ∧ q ≤ 139) → ¬ (144 ≤ q ∧ q ≤ 146) → σ' q = σ q) (h0 : ∀ i, ¬ i = 39 → σ' 116 i = σ 116 i) : InvM σ' K Q S Ce fl tr ∧ FrM σ σ' := ⟨h.keep (fun q hq => hf q (by omega) (by omega) (by omega)) (fun i hi => h0 i (by omega)), fun q hq => hf q (by omega) (by omega) (by omega)⟩
def C_mfits : am_C := fun av n σ τ nf P => ∃ _u : Unit, pubM [] (f_fits) av n σ τ nf P
set_option maxRecDepth 100000 in
theorem M_mfits (d : Nat) : am_Met (d + 5) 838 C_mfits := am_meth (own0 := "CanalEndModel") 838 (d + 4) 155 T_X8_fits (fun y => bif Nat.beq y 837 then C_layF else (am_no)) C_mfits rfl F_X8_fits rfl (by decide +kernel) Tc_X8_fits (fun y => am_g (M_layF (d + 0)) (am_no_met)) (by
  intro av n σ τ nf P hnf hC
  obtain ⟨_u, rfl, hn, lf, ⟨K, Q, S, Ce, fl, tr⟩, rfl, hI, rfl, hP⟩ := hC
  refine ⟨hn, rfl, Nat.le_of_ble_eq_true rfl, fun Wb hs => ?_⟩
  have hI : InvM σ K Q S Ce fl tr := hI
  have hK := hI.1
  have hR := hI.2.1
  have hM10 := hK.2.1
  have hO8 := hK.2.2.1
  have eM := hR.2.1
  have eO := hR.2.2.1
  have fin : ∀ r9 : Int32, (f_fits (K, Q, S, Ce, fl, tr)).2 = (K, Q, S, Ce, fl, tr) → (f_fits (K, Q, S, Ce, fl, tr)).1 = .int r9 → P (some (.int r9)) σ (tauY 0 lf) := fun r9 e1 e2 => p_eqv e2 (hP σ (by rw [e1]; exact hI) (fun _ _ => rfl))
  have fin2 : ∀ (v9 : Value) (K9 Q9 S9 : KT) (Ce9 : Nat → Nat → Int32) (fl9 : Nat) (tr9 : Int32) (σ9 : am_Sg), f_fits (K, Q, S, Ce, fl, tr) = (v9, (K9, Q9, S9, Ce9, fl9, tr9)) → InvM σ9 K9 Q9 S9 Ce9 fl9 tr9 → FrM σ σ9 → P (some v9) σ9 (tauY 0 lf) := fun v9 K9 Q9 S9 Ce9 fl9 tr9 σ9 e h1 h2 => by have := hP σ9 (by rw [e]; exact h1) h2; rw [e] at this; exact this
  refine hs (fun _ => false) 60 0 _ _ _ _ _ (vc_if (fun g => ?_) (fun g => ?_))
  · rw [eM] at g
    have g := nI_inj (b := 0) (by omega) (by omega) g
    exact (And.intro rfl (fin _ rfl (congrArg Value.int (by rw [if_pos g]))))
  rw [eM] at g
  have g : ¬ K 0 1 = 0 := fun q => g (by rw [q]; rfl)
  refine ⟨rfl, hn, lf, K, Q, rfl, rfl, hR, hK, hI.2.2.1, hI.2.2.2.1, fun σ2 a1 a2 a3 a4 a5 => ?_⟩
  obtain ⟨c1, c2⟩ := hI.lay (fun q h1 h2 h3 => a4 q h1 h2 (by omega) (by omega)) a5
  refine And.intro rfl ?_
  rw [a1]
  exact fin2 _ K Q S Ce fl tr σ2 (by unfold f_fits; rw [if_neg g]) c1 c2)
def C_msure : am_C := fun av n σ τ nf P => ∃ (o : Int32), pubM [.int o] (f_sure o) av n σ τ nf P
set_option maxRecDepth 100000 in
theorem M_msure (d : Nat) : am_Met (d + 5) 839 C_msure := am_meth (own0 := "CanalEndModel") 839 (d + 4) 155 T_X8_sure (fun y => bif Nat.beq y 810 then C_mOutlet else (bif Nat.beq y 837 then C_layF else (am_no))) C_msure rfl F_X8_sure rfl (by decide +kernel) Tc_X8_sure (fun y => am_g (M_mOutlet (d + 3)) (am_g (M_layF (d + 0)) (am_no_met))) (by
  intro av n σ τ nf P hnf hC
  obtain ⟨o, rfl, hn, lf, ⟨K, Q, S, Ce, fl, tr⟩, rfl, hI, rfl, hP⟩ := hC
  refine ⟨hn, rfl, Nat.le_of_ble_eq_true rfl, fun Wb hs => ?_⟩
  have hI : InvM σ K Q S Ce fl tr := hI
  have hK := hI.1
  have hR := hI.2.1
  have hM10 := hK.2.1
  have hO8 := hK.2.2.1
  have eM := hR.2.1
  have eO := hR.2.2.1
  have fin : ∀ r9 : Int32, (f_sure o (K, Q, S, Ce, fl, tr)).2 = (K, Q, S, Ce, fl, tr) → (f_sure o (K, Q, S, Ce, fl, tr)).1 = .int r9 → P (some (.int r9)) σ (tauY 0 lf) := fun r9 e1 e2 => p_eqv e2 (hP σ (by rw [e1]; exact hI) (fun _ _ => rfl))
  have fin2 : ∀ (v9 : Value) (K9 Q9 S9 : KT) (Ce9 : Nat → Nat → Int32) (fl9 : Nat) (tr9 : Int32) (σ9 : am_Sg), f_sure o (K, Q, S, Ce, fl, tr) = (v9, (K9, Q9, S9, Ce9, fl9, tr9)) → InvM σ9 K9 Q9 S9 Ce9 fl9 tr9 → FrM σ σ9 → P (some v9) σ9 (tauY 0 lf) := fun v9 K9 Q9 S9 Ce9 fl9 tr9 σ9 e h1 h2 => by have := hP σ9 (by rw [e]; exact h1) h2; rw [e] at this; exact this
  refine hs (fun p => Nat.beq p 16) 60 0 _ _ _ _ _ ⟨rfl, hn, 0, lf, K 0 2, o, rfl, rfl, eO, by omega, fun g => vc_f (by decide) ⟨rfl, hn, lf, K, Q, rfl, rfl, hR, hK, hI.2.2.1, hI.2.2.2.1, fun σ2 a1 a2 a3 a4 a5 => ?_⟩, fun g => vc_t rfl (And.intro rfl (fin _ rfl (congrArg Value.int (by rw [if_neg g]))))⟩
  obtain ⟨c1, c2⟩ := hI.lay (fun q h1 h2 h3 => a4 q h1 h2 (by omega) (by omega)) a5
  obtain ⟨b, hb, rfl⟩ := inN_ex g
  have hcb : (nI b).toNatClampNeg = b := nI_clamp (by omega)
  have cl := s_cnt_le (Q := Q) hK
  have k16 : ∀ r k, k + r = 3 → srV K Q b r k = srV K Q b 3 0 → Wb 16 [some (.ref 116), some (.int (nI b)), some (.int (nI k))] [] nf σ2 (tauY 0 lf) := by
    intro r
    induction r with
    | zero =>
      intro k hk e
      have hk : k = 3 := by omega
      subst hk
      refine hs (fun p => Nat.beq p 16) 60 16 _ _ _ _ _ (vc_t (by decide) (And.intro rfl ?_))
      exact fin2 _ K Q S Ce fl tr σ2 (by unfold f_sure; rw [if_pos g, hcb, ← e]; rfl) c1 c2
    | succ r ih =>
      intro k hk e
      have tl := s_tly_le (Q := Q) (o := b) (k := k) hK
      have ix : (3 : Int32) * nI b + nI k = nI (3 * b + k) := by rw [show (3 : Int32) = nI 3 from rfl, pk_mul, nI_add]
      have on : ¬ (0 < s_cnt K Q ∧ s_tly K Q b k = s_cnt K Q) → Wb 16 [some (.ref 116), some (.int (nI b)), some (.int (nI k + 1))] [] nf σ2 (tauY 0 lf) := fun h => by
        have h9 := ih (k + 1) (by omega) (by rw [← e, srV_n h])
        rw [nI_succ] at h9
        exact h9
      have vi : vp_in ((3 : Int32) * nI b + nI k) (am_len 145) := by rw [ix]; exact vin (show 3 * b + k < 24 by omega)
      refine hs (fun p => Nat.beq p 16) 60 16 _ _ _ _ _ (vc_f (nI_ge (b := 3) (by omega) (by omega)) (vc_if (fun c => on (fun q => nI_nle q.1 (by omega) (by rw [← a1]; exact c))) (fun c => And.intro vi (vc_if (fun c3 => And.intro rfl ?_) (fun c3 => on (fun q => c3 ?_))))))
      · rw [a1] at c
        have c0 : 0 < s_cnt K Q := by
          by_cases q : 0 < s_cnt K Q
          · exact q
          · exact absurd (nI_le (b := 0) (by omega) (by omega)) c
        rw [ix, nI_clamp (by omega), a2 b hb k (by omega), a1] at c3
        have c3 := nI_inj (by omega) (by omega) c3
        exact fin2 _ K Q S Ce fl tr σ2 (by unfold f_sure; rw [if_pos g, hcb, ← e, srV_y ⟨c0, c3⟩]) c1 c2
      · rw [ix, nI_clamp (by omega), a2 b hb k (by omega), a1, q.2]
  exact k16 3 0 rfl rfl)
def C_mcommon : am_C := fun av n σ τ nf P => nf = n ∧ ∃ a b : Nat, av = [.long (lN a), .long (lN b)] ∧ a ≤ 6561 ∧ b ≤ 6561 ∧ P (some (.long (lN (Nat.gcd a b)))) σ τ
set_option maxRecDepth 100000 in
theorem M_mcommon (d : Nat) : am_Met (d + 1) 840 C_mcommon := am_meth (own0 := "CanalEndModel") 840 (d + 0) 0 T_X8_common (fun y => am_no) C_mcommon rfl F_X8_common rfl (by decide +kernel) Tc_X8_common (fun y => am_no_met) (by
  intro av n σ τ nf P hnf hC
  obtain ⟨rfl, a, b, rfl, ha, hb, hP⟩ := hC
  refine ⟨Nat.zero_le _, rfl, Nat.le_of_ble_eq_true rfl, fun Wb hs => ?_⟩
  have k6 : ∀ m x y (x8 : Option Value), y ≤ m → x ≤ 6561 → y ≤ 6561 → Nat.gcd x y = Nat.gcd a b → Wb 6 [some (.long (lN a)), none, some (.long (lN b)), none, some (.long (lN x)), none, some (.long (lN y)), none, x8, none] [] nf σ τ := by
    intro m
    induction m with
    | zero =>
      intro x y x8 hy h1 h2 e
      have hy : y = 0 := Nat.le_zero.mp hy
      subst hy
      rw [Nat.gcd_zero_right] at e
      rw [← e] at hP
      exact hs (fun p => Nat.beq p 6) 60 6 _ _ _ _ _ (vc_t (by rw [lg_cmp_eq]; rfl) (And.intro rfl hP))
    | succ m ih =>
      intro x y x8 hy h1 h2 e
      refine hs (fun p => Nat.beq p 6) 60 6 _ _ _ _ _ (vc_if (fun c => And.intro rfl ?_) (fun c => And.intro ?_ ?_))
      · rw [lg_cmp_eq, show (0 : Int64) = lN 0 from rfl, lN_eq (by omega) (by omega)] at c
        subst c
        rw [Nat.gcd_zero_right] at e
        rw [← e] at hP
        exact hP
      · rw [lg_cmp_eq] at c
        exact c
      · rw [lg_cmp_eq, show (0 : Int64) = lN 0 from rfl, lN_eq (by omega) (by omega)] at c
        have lt := Nat.mod_lt x (Nat.pos_of_ne_zero c)
        have h9 := ih y (x % y) (some (.long (lN (x % y)))) (by omega) h2 (by omega) (by rw [← e, Nat.gcd_comm x y, Nat.gcd_rec y x, Nat.gcd_comm])
        rw [← pk_lRem (by omega) (Nat.pos_of_ne_zero c) (by omega)] at h9
        exact h9
  exact hs (fun p => Nat.beq p 6) 60 0 _ _ _ _ _ (k6 b a b none (Nat.le_refl _) ha hb rfl))
def C_mguilt : am_C := fun av n σ τ nf P => ∃ (o : Int32) (w : Int32), pubM [.int o, .int w] (f_guilt o w) av n σ τ nf P
set_option maxRecDepth 100000 in
theorem M_mguilt (d : Nat) : am_Met (d + 5) 841 C_mguilt := am_meth (own0 := "CanalEndModel") 841 (d + 4) 155 T_X8_guilt (fun y => bif Nat.beq y 810 then C_mOutlet else (bif Nat.beq y 803 then C_within else (bif Nat.beq y 837 then C_layF else (bif Nat.beq y 840 then C_mcommon else (am_no))))) C_mguilt rfl F_X8_guilt rfl (by decide +kernel) Tc_X8_guilt (fun y => am_g (M_mOutlet (d + 3)) (am_g (M_within (d + 3)) (am_g (M_layF (d + 0)) (am_g (M_mcommon (d + 3)) (am_no_met))))) (by
  intro av n σ τ nf P hnf hC
  obtain ⟨o, w, rfl, hn, lf, ⟨K, Q, S, Ce, fl, tr⟩, rfl, hI, rfl, hP⟩ := hC
  refine ⟨hn, rfl, Nat.le_of_ble_eq_true rfl, fun Wb hs => ?_⟩
  have hI : InvM σ K Q S Ce fl tr := hI
  have hK := hI.1
  have hR := hI.2.1
  have hM10 := hK.2.1
  have hO8 := hK.2.2.1
  have eM := hR.2.1
  have eO := hR.2.2.1
  have fin : ∀ r9 : Int32, (f_guilt o w (K, Q, S, Ce, fl, tr)).2 = (K, Q, S, Ce, fl, tr) → (f_guilt o w (K, Q, S, Ce, fl, tr)).1 = .int r9 → P (some (.int r9)) σ (tauY 0 lf) := fun r9 e1 e2 => p_eqv e2 (hP σ (by rw [e1]; exact hI) (fun _ _ => rfl))
  have fin2 : ∀ (v9 : Value) (K9 Q9 S9 : KT) (Ce9 : Nat → Nat → Int32) (fl9 : Nat) (tr9 : Int32) (σ9 : am_Sg), f_guilt o w (K, Q, S, Ce, fl, tr) = (v9, (K9, Q9, S9, Ce9, fl9, tr9)) → InvM σ9 K9 Q9 S9 Ce9 fl9 tr9 → FrM σ σ9 → P (some v9) σ9 (tauY 0 lf) := fun v9 K9 Q9 S9 Ce9 fl9 tr9 σ9 e h1 h2 => by have := hP σ9 (by rw [e]; exact h1) h2; rw [e] at this; exact this
  refine hs (fun _ => false) 80 0 _ _ _ _ _ ⟨rfl, hn, 0, lf, K 0 2, o, rfl, rfl, eO, by omega, fun g => vc_f (by decide) ⟨rfl, w, 0, 1, rfl, fun g2 => vc_f (by decide) ⟨rfl, hn, lf, K, Q, rfl, rfl, hR, hK, hI.2.2.1, hI.2.2.2.1, fun σ2 a1 a2 a3 a4 a5 => ?_⟩, fun g2 => vc_t rfl (And.intro rfl (fin2 _ K Q S Ce fl tr σ (by unfold f_guilt; rw [if_neg (fun q => g2 ((in_iff (v := w) (c := 1) (N := 2) rfl).mpr q.2.1))]) hI (fun _ _ => rfl)))⟩, fun g => vc_t rfl (And.intro rfl (fin2 _ K Q S Ce fl tr σ (by unfold f_guilt; rw [if_neg (fun q => g q.1)]) hI (fun _ _ => rfl)))⟩
  have g2 := (in_iff (v := w) (c := 1) (N := 2) rfl).mp g2
  obtain ⟨c1, c2⟩ := hI.lay (fun q h1 h2 h3 => a4 q h1 h2 (by omega) (by omega)) a5
  obtain ⟨b, hb, rfl⟩ := inN_ex g
  have hcb : (nI b).toNatClampNeg = b := nI_clamp (by omega)
  have cl := s_cnt_le (Q := Q) hK
  have ts := tly_sum (K := K) (Q := Q) (o := b)
  have i1 : (3 : Int32) * nI b + 1 = nI (3 * b + 1) := by rw [show (3 : Int32) = nI 3 from rfl, pk_mul, nI_1]
  have i2 : (3 : Int32) * nI b + 2 = nI (3 * b + 2) := by rw [show (3 : Int32) = nI 3 from rfl, show (2 : Int32) = nI 2 from rfl, pk_mul, nI_add]
  refine vc_if (fun c => And.intro rfl ?_) (fun c => And.intro (by rw [i1]; exact vin (show 3 * b + 1 < 24 by omega)) (And.intro (by rw [i2]; exact vin (show 3 * b + 2 < 24 by omega)) ?_))
  · rw [a1] at c
    have c := nI_inj (b := 0) (by omega) (by omega) c
    exact fin2 _ K Q S Ce fl tr σ2 (by unfold f_guilt; rw [if_neg (fun q => q.2.2 c)]) c1 c2
  · rw [a1] at c
    have c : ¬ s_cnt K Q = 0 := fun q => c (by rw [q]; rfl)
    have v1 : σ2 145 ((3 : Int32) * nI b + 1).toNatClampNeg = nI (s_tly K Q b 1) := by rw [i1, nI_clamp (by omega)]; exact a2 b hb 1 (by omega)
    have v2 : σ2 145 ((3 : Int32) * nI b + 2).toNatClampNeg = nI (s_tly K Q b 2) := by rw [i2, nI_clamp (by omega)]; exact a2 b hb 2 (by omega)
    have eg : nI (s_tly K Q b 1) + nI (s_tly K Q b 2) = nI (glN K Q b) := by
      rw [nI_add]
      unfold glN
      rw [show s_tly K Q b 1 + s_tly K Q b 2 = s_cnt K Q - s_tly K Q b 0 by omega]
    have gle : glN K Q b ≤ 6561 := by unfold glN; omega
    have gp : 0 < Nat.gcd (glN K Q b) (s_cnt K Q) := Nat.gcd_pos_of_pos_right _ (Nat.pos_of_ne_zero c)
    have gb : Nat.gcd (glN K Q b) (s_cnt K Q) ≤ s_cnt K Q := Nat.gcd_le_right _ (Nat.pos_of_ne_zero c)
    have nz : ¬ lN (Nat.gcd (glN K Q b) (s_cnt K Q)) = 0 := by
      rw [show (0 : Int64) = lN 0 from rfl, lN_eq (by omega) (by omega)]
      omega
    refine ⟨rfl, glN K Q b, s_cnt K Q, by rw [v1, v2, eg, a1, nI_l (by omega), nI_l (by omega)], gle, cl, vc_if (fun q => And.intro nz (And.intro rfl ?_)) (fun q => And.intro nz (And.intro rfl ?_))⟩
    · rw [v1, v2, eg, nI_l (by omega), pk_lDiv (by omega) gp (by omega)]
      exact fin2 _ K Q S Ce fl tr σ2 (by unfold f_guilt; rw [if_pos ⟨g, g2, c⟩, if_pos q, hcb]) c1 c2
    · rw [a1, nI_l (by omega), pk_lDiv (by omega) gp (by omega)]
      exact fin2 _ K Q S Ce fl tr σ2 (by unfold f_guilt; rw [if_pos ⟨g, g2, c⟩, if_neg q, hcb]) c1 c2)
def qV (K Q : KT) (nt f j v : Nat) : Nat → Bool := fun y => fitQ K Q y && (s_in K (kdw y) nt f (j + 1) == v)
def C_mworst : am_C := fun av n σ τ nf P => nf = n ∧ 155 ≤ n ∧ ∃ (lf j f nt : Nat) (K Q : KT), τ = tauY 0 lf ∧ av = [.ref 116, .int (nI j), .int (nI f), .int (nI nt)] ∧ RepM σ K ∧ WfK K ∧ j < K 0 1 ∧ f ≤ 9999 ∧ nt ≤ 1 ∧ (∀ w, w < 3 ^ K 0 2 → σ 144 w = bI (fitQ K Q w)) ∧ ∀ σ', (∀ q, ¬ (135 ≤ q ∧ q ≤ 139) → ¬ q = 146 → σ' q = σ q) → P (some (.int (nI (ws K Q nt f j)))) σ' τ
set_option maxRecDepth 100000 in
theorem M_mworst (d : Nat) : am_Met (d + 3) 842 C_mworst := am_meth (own0 := "CanalEndModel") 842 (d + 2) 155 T_X8_worst (fun y => bif Nat.beq y 834 then C_mworlds else (bif Nat.beq y 835 then C_layW else (bif Nat.beq y 825 then C_mhour else (am_no)))) C_mworst rfl F_X8_worst rfl (by decide +kernel) Tc_X8_worst (fun y => am_g (M_mworlds (d + 1)) (am_g (M_layW (d + 1)) (am_g (M_mhour (d + 1)) (am_no_met)))) (by
  intro av n σ τ nf P hnf hC
  obtain ⟨rfl, hn, lf, j, f, nt, K, Q, rfl, rfl, hR, hW, hj, hf, hnt, h144, hP⟩ := hC
  refine ⟨hn, rfl, Nat.le_of_ble_eq_true rfl, fun Wb hs => ?_⟩
  have hO8 := hW.2.2.1
  have hM := hW.2.1
  have p8 := p3_8 (K 0 2) (by omega)
  have hcj : (nI j).toNatClampNeg = j := nI_clamp (by omega)
  have vj : vp_in (nI j) (am_len 138) := vin (show j < 10 by omega)
  have eO : σ 116 7 = nI (K 0 2) := hR.2.2.1
  have k37 : ∀ m w (σ1 : am_Sg), w + m = 3 ^ K 0 2 → (∀ v, v ≤ 9999 → σ1 146 v = nI (ctN (qV K Q nt f j v) w)) → (∀ q, ¬ (135 ≤ q ∧ q ≤ 139) → ¬ q = 146 → σ1 q = σ q) → Wb 37 [some (.ref 116), some (.int (nI j)), some (.int (nI f)), some (.int (nI nt)), some (.int (nI (mxV (fun v => ctN (qV K Q nt f j v) w) (f + 1)))), some (.int (nI (3 ^ K 0 2))), some (.int (nI w))] [] nf σ1 (tauY 0 lf) := by
    intro m
    induction m with
    | zero =>
      intro w σ1 hw g1 g2
      have hw : w = 3 ^ K 0 2 := by omega
      subst hw
      exact hs (fun p => Nat.beq p 37) 80 37 _ _ _ _ _ (vc_t (nI_le (Nat.le_refl _) (by omega)) (And.intro rfl (hP σ1 g2)))
    | succ m ih =>
      intro w σ1 hw g1 g2
      have hcw : (nI w).toNatClampNeg = w := nI_clamp (by omega)
      have e144 : σ1 144 w = bI (fitQ K Q w) := by rw [g2 144 (by omega) (by omega)]; exact h144 w (by omega)
      refine hs (fun p => Nat.beq p 37) 80 37 _ _ _ _ _ (vc_f (nI_ge (by omega) (by omega)) (And.intro (vin (show w < 6561 by omega)) ?_))
      rw [hcw, e144]
      cases ef : fitQ K Q w with
      | false =>
        have c1 : ∀ v, ctN (qV K Q nt f j v) (w + 1) = ctN (qV K Q nt f j v) w := fun v => by show _ + (if qV K Q nt f j v w then 1 else 0) = _; unfold qV; rw [ef]; rfl
        have h9 := ih (w + 1) σ1 (by omega) (fun v hv => by rw [c1]; exact g1 v hv) g2
        rw [mxV_c (g' := fun v => ctN (qV K Q nt f j v) w) _ (fun v _ => c1 v), nI_succ] at h9
        exact vc_t rfl h9
      | true =>
        have hR1 : RepM σ1 K := hR.frame (fun q h1 h2 => g2 q (by omega) (by omega))
        refine vc_f (by decide) ⟨rfl, hn, lf, K 0 2, w, rfl, rfl, by omega, hR1.2.2.1, hO8, fun σ2 a1 a2 => ⟨rfl, hn, 0, lf, f, nt, kdw w, K, rfl, rfl, hR1.frame (fun q h1 h2 => a2 q (by omega)), hW, fun o ho => ⟨a1 o ho, by have := kdw_lt w o; omega⟩, hf, hnt, fun σ3 h3 => And.intro vj ?_⟩⟩
        have sl := s_in_le K (kdw w) nt f (j + 1)
        generalize hv0 : s_in K (kdw w) nt f (j + 1) = v0 at sl
        have e138 : σ3 138 (nI j).toNatClampNeg = nI v0 := by rw [hcj, ← hv0]; exact (h3.1 j hj).2.2
        have hcv : (nI v0).toNatClampNeg = v0 := nI_clamp (by omega)
        have vv : vp_in (nI v0) (am_len 146) := vin (show v0 < 10000 by omega)
        have f3 : ∀ q, ¬ (135 ≤ q ∧ q ≤ 139) → σ3 q = σ1 q := fun q hq => by rw [h3.2.2 q (by omega), a2 q (by omega)]
        have e146 : σ3 146 v0 = nI (ctN (qV K Q nt f j v0) w) := by rw [f3 146 (by omega)]; exact g1 v0 (by omega)
        have cb : ∀ v, ctN (qV K Q nt f j v) w ≤ 6561 := fun v => Nat.le_trans (ctN_le _) (by omega)
        have c1 : ctN (qV K Q nt f j v0) (w + 1) = ctN (qV K Q nt f j v0) w + 1 := by
          show _ + (if qV K Q nt f j v0 w then 1 else 0) = _
          unfold qV
          rw [ef, hv0, beq_self_eq_true]
          rfl
        have c2 : ∀ v, ¬ v = v0 → ctN (qV K Q nt f j v) (w + 1) = ctN (qV K Q nt f j v) w := fun v hv => by
          show _ + (if qV K Q nt f j v w then 1 else 0) = _
          unfold qV
          rw [ef, hv0, beq_eq_false_iff_ne.mpr (fun q => hv q.symm)]
          rfl
        have mu := mxV_up (g := fun v => ctN (qV K Q nt f j v) w) (g' := fun v => ctN (qV K Q nt f j v) (w + 1)) (n := f + 1) (v0 := v0) (mo := 1) (by omega) c1 (fun v _ hv => c2 v hv)
        have mb : mxV (fun v => ctN (qV K Q nt f j v) w) (f + 1) ≤ 6561 := mxV_ub _ (fun v _ => cb v)
        have cv := cb v0
        rw [e138]
        refine And.intro vv (And.intro vv (fun σ4 e4 => ?_))
        rw [hcv, e146, ← nI_succ] at e4
        have e4 : σ4 = am_up σ3 146 v0 (nI (ctN (qV K Q nt f j v0) w + 1)) := e4
        have e138' : σ4 138 (nI j).toNatClampNeg = nI v0 := by rw [e4, up_rn (by omega)]; exact e138
        have e146' : σ4 146 v0 = nI (ctN (qV K Q nt f j v0) w + 1) := by rw [e4, up_at]
        have h9 := ih (w + 1) σ4 (by omega) (fun v hv => by
          by_cases e : v = v0
          · rw [e, e146', c1]
          · rw [e4, up_ne e, f3 146 (by omega), c2 v e]; exact g1 v hv) (fun q h1 h2 => by rw [e4, am_up_ne h2, f3 q h1]; exact g2 q h1 h2)
        rw [mu, nI_succ] at h9
        refine And.intro vj ?_
        rw [e138']
        refine And.intro vv ?_
        rw [hcv, e146']
        refine vc_if (fun c => ?_) (fun c => And.intro vj ?_)
        · have c := (nI_leI (by omega) (by omega)).mp c
          rw [Nat.max_eq_left c] at h9
          exact h9
        · have c : ¬ ctN (qV K Q nt f j v0) w + 1 ≤ mxV (fun v => ctN (qV K Q nt f j v) w) (f + 1) := fun q => c (nI_le q (by omega))
          rw [Nat.max_eq_right (by omega)] at h9
          rw [e138']
          refine And.intro vv ?_
          rw [hcv, e146']
          exact h9
  have k3 : ∀ m v (σ1 : am_Sg), v + m = 10000 → (∀ z, z < v → σ1 146 z = 0) → (∀ q, ¬ q = 146 → σ1 q = σ q) → Wb 3 [some (.ref 116), some (.int (nI j)), some (.int (nI f)), some (.int (nI nt)), some (.int (nI v)), none, none] [] nf σ1 (tauY 0 lf) := by
    intro m
    induction m with
    | zero =>
      intro v σ1 hv g1 g2
      have hv : v = 10000 := by omega
      subst hv
      have h9 := k37 (3 ^ K 0 2) 0 σ1 (by omega) (fun z hz => g1 z (by omega)) (fun q h1 h2 => g2 q h2)
      have e0 : mxV (fun v => ctN (qV K Q nt f j v) 0) (f + 1) = 0 := mxV_0 _
      rw [e0] at h9
      exact hs (fun p => Nat.beq p 37) 80 3 _ _ _ _ _ (vc_t (by decide) ⟨rfl, hn, lf, K 0 2, rfl, rfl, by rw [g2 116 (by omega)]; exact eO, hO8, h9⟩)
    | succ m ih =>
      intro v σ1 hv g1 g2
      have hcv : (nI v).toNatClampNeg = v := nI_clamp (by omega)
      refine hs (fun p => Nat.beq p 3) 80 3 _ _ _ _ _ (vc_f (nI_nlt (b := v) (a := 9999) (by omega) (by omega)) (And.intro (vin (show v < 10000 by omega)) (fun σ2 e2 => ?_)))
      rw [hcv] at e2
      have e2 : σ2 = am_up σ1 146 v 0 := e2
      have h9 := ih (v + 1) σ2 (by omega) (fun z hz => by
        by_cases e : z = v
        · rw [e, e2, up_at]
        · rw [e2, up_ne e]; exact g1 z (by omega)) (fun q hq => by rw [e2, am_up_ne hq]; exact g2 q hq)
      rw [nI_succ] at h9
      exact h9
  exact hs (fun p => Nat.beq p 3) 80 0 _ _ _ _ _ (k3 10000 0 σ (by omega) (fun z hz => absurd hz (Nat.not_lt_zero z)) (fun _ _ => rfl)))
def C_mtells : am_C := fun av n σ τ nf P => ∃ (f : Int32) (nt : Nat) (w : Int32), pubM [.int f, .int (nI nt), .int w] (f_tells f nt w) av n σ τ nf P ∧ nt ≤ 1
set_option maxRecDepth 100000 in
theorem M_mtells (d : Nat) : am_Met (d + 5) 843 C_mtells := am_meth (own0 := "CanalEndModel") 843 (d + 4) 155 T_X8_tells (fun y => bif Nat.beq y 823 then C_mWater else (bif Nat.beq y 803 then C_within else (bif Nat.beq y 837 then C_layF else (bif Nat.beq y 842 then C_mworst else (am_no))))) C_mtells rfl F_X8_tells rfl (by decide +kernel) Tc_X8_tells (fun y => am_g (M_mWater (d + 2)) (am_g (M_within (d + 3)) (am_g (M_layF (d + 0)) (am_g (M_mworst (d + 1)) (am_no_met))))) (by
  intro av n σ τ nf P hnf hC
  obtain ⟨f, nt, w, ⟨rfl, hn, lf, ⟨K, Q, S, Ce, fl, tr⟩, rfl, hI, rfl, hP⟩, hnt⟩ := hC
  refine ⟨hn, rfl, Nat.le_of_ble_eq_true rfl, fun Wb hs => ?_⟩
  have hI : InvM σ K Q S Ce fl tr := hI
  have hK := hI.1
  have hR := hI.2.1
  have hM10 := hK.2.1
  have hO8 := hK.2.2.1
  have eM := hR.2.1
  have eO := hR.2.2.1
  have fin : ∀ r9 : Int32, (f_tells f nt w (K, Q, S, Ce, fl, tr)).2 = (K, Q, S, Ce, fl, tr) → (f_tells f nt w (K, Q, S, Ce, fl, tr)).1 = .int r9 → P (some (.int r9)) σ (tauY 0 lf) := fun r9 e1 e2 => p_eqv e2 (hP σ (by rw [e1]; exact hI) (fun _ _ => rfl))
  have fin2 : ∀ (v9 : Value) (K9 Q9 S9 : KT) (Ce9 : Nat → Nat → Int32) (fl9 : Nat) (tr9 : Int32) (σ9 : am_Sg), f_tells f nt w (K, Q, S, Ce, fl, tr) = (v9, (K9, Q9, S9, Ce9, fl9, tr9)) → InvM σ9 K9 Q9 S9 Ce9 fl9 tr9 → FrM σ σ9 → P (some v9) σ9 (tauY 0 lf) := fun v9 K9 Q9 S9 Ce9 fl9 tr9 σ9 e h1 h2 => by have := hP σ9 (by rw [e]; exact h1) h2; rw [e] at this; exact this
  have hw := in_iff (v := w) (c := 1) (N := 2) rfl
  refine hs (fun p => Nat.beq p 58) 80 0 _ _ _ _ _ ⟨rfl, f, rfl, fun g => vc_f (by decide) ⟨rfl, w, 0, 1, rfl, fun g2 => vc_f (by decide) (vc_if (fun g3 => ?_) (fun g3 => ?_)), fun g2 => vc_t rfl (And.intro rfl (fin _ rfl (congrArg Value.int (by rw [if_neg (fun q => g2 (hw.mpr q.2))]))))⟩, fun g => vc_t rfl (And.intro rfl (fin _ rfl (congrArg Value.int (by rw [if_neg (fun q => g q.1)]))))⟩
  · rw [eM] at g3
    have g3 := nI_inj (b := 0) (by omega) (by omega) g3
    exact (And.intro rfl (fin _ rfl (congrArg Value.int (by rw [if_pos ⟨g, hw.mp g2⟩, if_pos g3]))))
  rw [eM] at g3
  have g3 : ¬ K 0 1 = 0 := fun q => g3 (by rw [q]; rfl)
  have g2 := hw.mp g2
  refine ⟨rfl, hn, lf, K, Q, rfl, rfl, hR, hK, hI.2.2.1, hI.2.2.2.1, fun σ2 a1 a2 a3 a4 a5 => ?_⟩
  obtain ⟨c1, c2⟩ := hI.lay (fun q h1 h2 h3 => a4 q h1 h2 (by omega) (by omega)) a5
  obtain ⟨u, hu, rfl⟩ := inN_ex g
  have hcu : (nI u).toNatClampNeg = u := nI_clamp (by omega)
  have cl := s_cnt_le (Q := Q) hK
  have wl := fun j => ws_le (Q := Q) (nt := nt) (f := u) (j := j) hK
  have call : ∀ (j : Nat) (σ3 : am_Sg), j < K 0 1 → (∀ q, ¬ (135 ≤ q ∧ q ≤ 139) → ¬ q = 146 → σ3 q = σ2 q) → RepM σ3 K ∧ (∀ w, w < 3 ^ K 0 2 → σ3 144 w = bI (fitQ K Q w)) := fun j σ3 hj h => ⟨c1.2.1.frame (fun q h1 h2 => h q (by omega) (by omega)), fun w hw => by rw [h 144 (by omega) (by omega)]; exact a3 w hw⟩
  have done : ∀ (σ3 : am_Sg), (∀ q, ¬ (135 ≤ q ∧ q ≤ 139) → ¬ q = 146 → σ3 q = σ2 q) → InvM σ3 K Q S Ce fl tr ∧ FrM σ σ3 := fun σ3 h => ⟨c1.keep (fun q hq => h q (by omega) (by omega)) (fun i hi => by rw [h 116 (by omega) (by omega)]), fun q hq => by rw [h q (by omega) (by omega)]; exact c2 q hq⟩
  refine vc_if (fun q => And.intro rfl ?_) (fun q => ?_)
  · rw [a1] at q
    have q := nI_inj (b := 0) (by omega) (by omega) q
    exact fin2 _ K Q S Ce fl tr σ2 (by unfold f_tells; rw [if_pos ⟨g, g2⟩, if_neg g3, if_pos q]) c1 c2
  rw [a1] at q
  have hc : ¬ s_cnt K Q = 0 := fun w9 => q (by rw [w9]; rfl)
  have k58 : ∀ r j b (x7 : Option Value) (σ3 : am_Sg), j + r = K 0 1 → b < K 0 1 → (∀ q, ¬ (135 ≤ q ∧ q ≤ 139) → ¬ q = 146 → σ3 q = σ2 q) → tb (ws K Q nt u) r j b = tb (ws K Q nt u) (K 0 1 - 1) 1 0 → Wb 58 [some (.ref 116), some (.int (nI u)), some (.int (nI nt)), some (.int w), some (.int (nI b)), some (.int (nI (ws K Q nt u b))), some (.int (nI j)), x7] [] nf σ3 (tauY 0 lf) := by
    intro r
    induction r with
    | zero =>
      intro j b x7 σ3 hj hb h3 e
      have e : b = tb (ws K Q nt u) (K 0 1 - 1) 1 0 := e
      obtain ⟨d1, d2⟩ := done σ3 h3
      refine hs (fun p => Nat.beq p 58) 60 58 _ _ _ _ _ (vc_t (by rw [d1.2.1.2.1]; exact nI_le (by omega) (by omega)) (vc_if (fun q => And.intro rfl ?_) (fun q => And.intro rfl ?_)))
      · exact fin2 _ K Q S Ce fl tr σ3 (by unfold f_tells; rw [if_pos ⟨g, g2⟩, if_neg g3, if_neg hc, if_pos q, hcu, ← e]) d1 d2
      · exact fin2 _ K Q S Ce fl tr σ3 (by unfold f_tells; rw [if_pos ⟨g, g2⟩, if_neg g3, if_neg hc, if_neg q, hcu, ← e]) d1 d2
    | succ r ih =>
      intro j b x7 σ3 hj hb h3 e
      obtain ⟨d1, d2⟩ := done σ3 h3
      obtain ⟨y1, y2⟩ := call j σ3 (by omega) h3
      have l1 := wl b
      have l2 := wl j
      refine hs (fun p => Nat.beq p 58) 60 58 _ _ _ _ _ (vc_f (by rw [d1.2.1.2.1]; exact nI_ge (by omega) (by omega)) ⟨rfl, hn, lf, j, u, nt, K, Q, rfl, rfl, y1, hK, by omega, by omega, hnt, y2, fun σ4 h4 => vc_if (fun q => ?_) (fun q => ?_)⟩)
      · have q := (nI_leI (by omega) (by omega)).mp q
        have h9 := ih (j + 1) b (some (.int (nI (ws K Q nt u j)))) σ4 (by omega) hb (fun q x1 x2 => by rw [h4 q x1 x2]; exact h3 q x1 x2) (by rw [← e, tb_y q])
        rw [nI_succ] at h9
        exact h9
      · have q : ¬ ws K Q nt u b ≤ ws K Q nt u j := fun w9 => q (nI_le w9 (by omega))
        have h9 := ih (j + 1) j (some (.int (nI (ws K Q nt u j)))) σ4 (by omega) (by omega) (fun q x1 x2 => by rw [h4 q x1 x2]; exact h3 q x1 x2) (by rw [← e, tb_n q])
        rw [nI_succ] at h9
        exact h9
  obtain ⟨y1, y2⟩ := call 0 σ2 (by omega) (fun _ _ _ => rfl)
  exact ⟨rfl, hn, lf, 0, u, nt, K, Q, rfl, rfl, y1, hK, by omega, by omega, hnt, y2, fun σ4 h4 => k58 (K 0 1 - 1) 1 0 none σ4 (by omega) (by omega) h4 rfl⟩)
