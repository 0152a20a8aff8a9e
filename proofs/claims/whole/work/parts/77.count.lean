def C_fitA : am_C := fun av n σ τ nf P => ∃ r, r ≤ 8 ∧ C_fitF r av n σ τ nf P
theorem M_fitA (d : Nat) : am_Met (d + 20) 608 C_fitA := met_ex (C := C_fitF) (fun r hr => by
  have h := M_fitF r (d + (16 - 2 * r))
  rw [show d + (16 - 2 * r) + (2 * r + 4) = d + 20 by omega] at h
  exact h)
theorem p3_8 : ∀ O, O < 9 → 3 ^ O ≤ 6561 := by decide +kernel
def lvc (K Q : KT) : Nat → Nat → Nat := fun j v => ctN (pV K Q j v) (3 ^ K 0 2)
def C_count : am_C := fun av n σ τ nf P => nf = n ∧ 155 ≤ n ∧ ∃ (lf Hn : Nat) (K Q : KT), τ = tauY 0 lf ∧ av = [.ref 43, .ref 1] ∧ WfK K ∧ WH K Q Hn ∧ RepX σ 1 K ∧ RepH σ Q Hn ∧ (Hn = Q 0 0 + 1 → n = 166 ∧ lf = 156 ∧ LeR σ (K 0 1) (Q 2 (Q 0 0)) (fun _ _ => 0)) ∧
  ∀ σ', σ' 43 1 = nI (s_cnt K Q) → σ' 43 2 = 1 → (∀ z, z < K 0 2 → ∀ k, k < 3 → σ' (45 + z) k = nI (s_tly K Q z k)) → (Hn = Q 0 0 + 1 → LeR σ' (K 0 1) (Q 2 (Q 0 0)) (lvc K Q)) → (∀ i, ¬ i = 1 → ¬ i = 2 → σ' 43 i = σ 43 i) → (∀ q, ¬ q = 43 → ¬ (45 ≤ q ∧ q ≤ 53) → ¬ (59 ≤ q ∧ q ≤ 103) → ¬ (156 ≤ q ∧ q ≤ 165) → σ' q = σ q) → P none σ' τ
set_option maxRecDepth 100000 in
theorem M_count (d : Nat) : am_Met (d + 21) 607 C_count := am_meth (own0 := "CanalEnd$Worlds") 607 (d + 20) 155 T_X6_count (fun y => bif Nat.beq y 608 then C_fitA else (am_no)) C_count rfl F_X6_count rfl (by decide +kernel) Tc_X6_count (fun y => am_g (M_fitA (d + 0)) (am_no_met)) (by
  intro av n σ τ nf P hnf hC
  obtain ⟨rfl, hn, lf, Hn, K, Q, rfl, rfl, hW, hH, hR, hRH, hL, hP⟩ := hC
  refine ⟨hn, rfl, Nat.le_of_ble_eq_true rfl, fun Wb hs => ?_⟩
  have hM := hW.2.1
  have hO8 := hW.2.2.1
  have p8 := p3_8 (K 0 2) (by omega)
  have k2 : ∀ m o (x3 : Option Value) (σ1 : am_Sg), o + m = 8 → (∀ z, z < o → ∀ k, k < 3 → σ1 (45 + z) k = 0) → (∀ q, ¬ (45 ≤ q ∧ q ≤ 52) → σ1 q = σ q) → Wb 2 [some (.ref 43), some (.ref 1), some (.int (nI o)), x3] [] nf σ1 (tauY 0 lf) := by
    intro m
    induction m with
    | zero =>
      intro o x3 σ1 hm g1 g2
      have hm : o = 8 := by omega
      subst hm
      have f1 : FitI σ1 nf lf K Q Hn (fun _ _ => 0) (fun _ _ => 0) := ⟨hR.frame (fun q h1 h2 => g2 q (by omega)), hRH.fr (fun q hq => g2 q (by omega)), fun z hz k hk => g1 z (by omega) k hk, fun e => by
        obtain ⟨a, b, c⟩ := hL e
        exact ⟨a, b, fun j hj v hv => by rw [g2 (156 + j) (by omega)]; exact c.1 j hj v hv, fun j hj => by rw [g2 53 (by omega)]; exact c.2 j hj⟩⟩
      refine hs (fun p => Nat.beq p 2 || Nat.beq p 10) 80 2 _ _ _ _ _ (vc_t (by decide) ⟨K 0 2, hO8, rfl, hn, lf, 0, 54, 1, 0, Hn, K, Q, fun _ _ => 0, fun _ _ => 0, rfl, rfl, Or.inl rfl, by omega, Nat.pow_pos (by omega), hW, hH, f1, fun h hh _ => (f1.2.1.2.2.1 h hh).1, fun q => absurd q (Nat.lt_irrefl 0), fun k hk h5 => absurd h5 (by unfold frm; rw [if_pos rfl]; omega), by omega, fun j v => by show 0 + 1 * 3 ^ K 0 2 ≤ 6561; omega, fun σ2 b1 b2 b3 => fun σ3 e3 => And.intro (Or.inr rfl) (fun σ4 e4 => And.intro rfl ?_)⟩)
      have fr : ∀ q, ¬ q = 43 → σ4 q = σ2 q := fun q hq => by rw [e4, am_up_ne hq, e3, am_up_ne hq]
      rw [cG_top] at e3
      refine hP σ4 (by rw [e4, up_ne (by omega), e3, up_at]; rfl) (by rw [e4, up_at]) (fun z hz k hk => ?_) (fun e => ?_) (fun i h1 h2 => by rw [e4, up_ne h2, e3, up_ne h1, b2 43 (by omega) (by omega) (by omega) (by omega) (by omega), g2 43 (by omega)]) (fun q h1 h2 h3 h4 => by rw [fr q h1, b2 q h2 (by omega) (by omega) (by omega) h4, g2 q (by omega)])
      · rw [fr (45 + z) (by omega), b1.2.2.1 z hz k hk]
        unfold taF
        rw [if_pos (Nat.zero_le _), cG_top, Nat.one_mul, Nat.zero_add]
        rfl
      · obtain ⟨u1, u2, u3, u4⟩ := b1.2.2.2 e
        have eq : ∀ j v, leF K Q 1 0 0 (fun _ _ => 0) j v = lvc K Q j v := fun j v => by
          unfold leF
          rw [if_pos (by unfold frm; rw [if_pos rfl]; omega), cG_top, Nat.one_mul, Nat.zero_add]
          rfl
        exact ⟨fun j hj v hv => by rw [fr (156 + j) (by omega), u3 j hj v hv, eq], fun j hj => by rw [fr 53 (by omega), u4 j hj]; exact congrArg nI (mxV_c _ (fun v _ => eq j v))⟩
    | succ m ih =>
      intro o x3 σ1 hm g1 g2
      have hco : (nI o).toNatClampNeg = o := nI_clamp (by omega)
      obtain ⟨a45, k45, l45⟩ := ok45 o (by omega)
      have k10 : ∀ r k (σ2 : am_Sg), k + r = 3 → (∀ k', k' < k → σ2 (45 + o) k' = 0) → (∀ q, ¬ q = 45 + o → σ2 q = σ1 q) → Wb 10 [some (.ref 43), some (.ref 1), some (.int (nI o)), some (.int (nI k))] [] nf σ2 (tauY 0 lf) := by
        intro r
        induction r with
        | zero =>
          intro k σ2 hk y1 y2
          have hk : k = 3 := by omega
          subst hk
          have h9 := ih (o + 1) (some (.int (nI 3))) σ2 (by omega) (fun z hz k hk => by
            by_cases e : z = o
            · rw [e]; exact y1 k hk
            · rw [y2 (45 + z) (by omega)]; exact g1 z (by omega) k hk) (fun q hq => by rw [y2 q (by omega)]; exact g2 q hq)
          rw [nI_succ] at h9
          exact hs (fun p => Nat.beq p 2 || Nat.beq p 10) 80 10 _ _ _ _ _ (vc_t (by decide) h9)
        | succ r ihk =>
          intro k σ2 hk y1 y2
          have hck : (nI k).toNatClampNeg = k := nI_clamp (by omega)
          refine hs (fun p => Nat.beq p 2 || Nat.beq p 10) 80 10 _ _ _ _ _ (vc_f (nI_ge (b := 3) (by omega) (by omega)) (And.intro (vin (show o < 8 by omega)) ?_))
          rw [hco]
          refine aal (t44 (by omega)) (vc_gd (gdr a45 k45) (And.intro (vin (by rw [l45]; omega)) (fun σ3 e3 => ?_)))
          rw [hck] at e3
          have e3 : σ3 = am_up σ2 (45 + o) k 0 := e3
          have h9 := ihk (k + 1) σ3 (by omega) (fun k' hk' => by
            by_cases e : k' = k
            · rw [e, e3, up_at]
            · rw [e3, up_ne e]; exact y1 k' (by omega)) (fun q hq => by rw [e3, am_up_ne hq]; exact y2 q hq)
          rw [nI_succ] at h9
          exact h9
      exact hs (fun p => Nat.beq p 10) 80 2 _ _ _ _ _ (vc_f (nI_ge (b := 8) (by omega) (by omega)) (k10 3 0 σ1 rfl (fun k' hk' => absurd hk' (Nat.not_lt_zero k')) (fun _ _ => rfl)))
  exact hs (fun p => Nat.beq p 2) 80 0 _ _ _ _ _ (k2 8 0 none σ (by omega) (fun z hz => absurd hz (Nat.not_lt_zero z)) (fun _ _ => rfl)))
def FrC (σ σ' : am_Sg) : Prop := ∀ q, ¬ q = 43 → ¬ (45 ≤ q ∧ q ≤ 53) → ¬ (59 ≤ q ∧ q ≤ 103) → ¬ (156 ≤ q ∧ q ≤ 165) → σ' q = σ q
def CtF (σ : am_Sg) (K Q : KT) : Prop := σ 43 1 = nI (s_cnt K Q) ∧ σ 43 2 = 1 ∧ (∀ z, z < K 0 2 → ∀ k, k < 3 → σ (45 + z) k = nI (s_tly K Q z k))
def C_cntOnce : am_C := fun av n σ τ nf P => nf = n ∧ 155 ≤ n ∧ ∃ (lf : Nat) (K Q : KT), τ = tauY 0 lf ∧ av = [.ref 43, .ref 1] ∧ WfK K ∧ WfQ K Q ∧ RepX σ 1 K ∧ RepQ σ Q ∧ RepF σ K Q ∧ ∀ σ', CtF σ' K Q → σ' 43 0 = σ 43 0 → FrC σ σ' → P none σ' τ
set_option maxRecDepth 100000 in
theorem M_cntOnce (d : Nat) : am_Met (d + 22) 604 C_cntOnce := am_meth (own0 := "CanalEnd$Worlds") 604 (d + 21) 155 T_X6_countOnce (fun y => bif Nat.beq y 607 then C_count else (am_no)) C_cntOnce rfl F_X6_countOnce rfl (by decide +kernel) Tc_X6_countOnce (fun y => am_g (M_count (d + 0)) (am_no_met)) (by
  intro av n σ τ nf P hnf hC
  obtain ⟨rfl, hn, lf, K, Q, rfl, rfl, hW, hQ, hR, hRQ, hRF, hP⟩ := hC
  refine ⟨hn, rfl, Nat.le_of_ble_eq_true rfl, fun Wb hs => ?_⟩
  refine hs (fun _ => false) 60 0 _ _ _ _ _ (vc_if (fun c => fun σ1 e1 => ?_) (fun c => And.intro rfl ?_))
  · have fr : ∀ q, ¬ q = 43 → σ1 q = σ q := fun q hq => by rw [e1, am_up_ne hq]
    have f0 : ∀ i, ¬ i = 5 → σ1 43 i = σ 43 i := fun i hi => by rw [e1, up_ne hi]
    refine ⟨rfl, hn, lf, Q 0 0, K, Q, rfl, rfl, hW, ⟨hQ.1, Or.inl rfl, fun h hh => ?_⟩, hR.frame (fun q h1 h2 => fr q (by omega)), ⟨by rw [f0 0 (by omega)]; exact hRQ.1, by rw [e1, up_at]; exact hRQ.1, fun h hh => ?_, fun h hh => ?_⟩, fun e => absurd e (by omega), fun σ2 a1 a2 a3 a4 a5 a6 => And.intro rfl ?_⟩
    · obtain ⟨q1, q2, q3, q4⟩ := hQ.2 h hh
      exact ⟨q1, q2, q3, fun _ => q4⟩
    · obtain ⟨q1, q2, q3, q4⟩ := hRQ.2 h hh
      rw [fr 54 (by omega), fr 55 (by omega), fr 56 (by omega)]
      exact ⟨q1, q2, q3⟩
    · rw [fr 57 (by omega)]
      exact (hRQ.2 h hh).2.2.2
    · exact hP σ2 ⟨a1, a2, a3⟩ (by rw [a5 0 (by omega) (by omega), f0 0 (by omega)]) (fun q h1 h2 h3 h4 => by rw [a6 q h1 h2 h3 h4, fr q h1])
  · have c : σ 43 2 = 1 := by
      rcases hRF.1 with h | h
      · exact absurd h c
      · exact h
    obtain ⟨q1, q2⟩ := hRF.2 c
    exact hP σ ⟨q1, c, q2⟩ rfl (fun _ _ _ _ _ => rfl))
theorem InvX.cnt {σ σ' : am_Sg} {n lf : Nat} {K Q S : KT} {Ce : Nat → Nat → Int32} {fl : Nat} {tr : Int32} (h : InvX σ n lf K Q S Ce fl tr) (hc : CtF σ' K Q) (h0 : σ' 43 0 = σ 43 0) (hf : FrC σ σ') : InvX σ' n lf K Q S Ce fl tr ∧ FrX σ σ' := by
  obtain ⟨h1, h2, h3, h4, h5, h6, h7, h8, h9, h10⟩ := h
  have fr : ∀ q, q ≤ 42 ∨ (54 ≤ q ∧ q ≤ 57) ∨ (104 ≤ q ∧ q ≤ 155) → σ' q = σ q := fun q hq => hf q (by omega) (by omega) (by omega) (by omega)
  refine ⟨⟨h1, h2.frame (fun q g1 g2 => fr q (by omega)), h3, ?_, ⟨Or.inr hc.2.1, fun _ => ⟨hc.1, hc.2.2⟩⟩, h6, ?_, ?_, ?_, h10⟩, fun q g1 g2 => fr q (by omega)⟩
  · unfold RepQ
    rw [h0, fr 54 (by omega), fr 55 (by omega), fr 56 (by omega), fr 57 (by omega)]
    exact h4
  · intro k hk
    rw [fr (108 + 2 * k) (by omega), fr (109 + 2 * k) (by omega)]
    exact h7 k hk
  · unfold RepZ
    rw [fr 0 (by omega)]
    exact h8
  · exact h9.fr (fr 11 (by omega)) (fr 22 (by omega))
theorem s_cnt_le {K Q : KT} (h : WfK K) : s_cnt K Q ≤ 6561 := Nat.le_trans (ctN_le _) (p3_8 _ (by have := h.2.2.1; omega))
theorem s_tly_le {K Q : KT} {o k : Nat} (h : WfK K) : s_tly K Q o k ≤ 6561 := Nat.le_trans (ctN_le _) (p3_8 _ (by have := h.2.2.1; omega))
theorem ctN_sum {p q0 q1 q2 : Nat → Bool} (h : ∀ y, (if p y then 1 else 0) = (if q0 y then 1 else 0) + (if q1 y then 1 else 0) + (if q2 y then (1 : Nat) else 0)) : ∀ n, ctN p n = ctN q0 n + ctN q1 n + ctN q2 n
  | 0 => rfl
  | n + 1 => by
    have := ctN_sum h n
    have e := h n
    show ctN p n + (if p n then 1 else 0) = ctN q0 n + (if q0 n then 1 else 0) + (ctN q1 n + (if q1 n then 1 else 0)) + (ctN q2 n + (if q2 n then 1 else 0))
    omega
theorem tly_sum {K Q : KT} {o : Nat} : s_cnt K Q = s_tly K Q o 0 + s_tly K Q o 1 + s_tly K Q o 2 := by
  unfold s_cnt s_tly
  refine ctN_sum (fun y => ?_) _
  have k := kdw_lt y o
  cases fitQ K Q y with
  | false => rfl
  | true =>
    rcases (show kdw y o = 0 ∨ kdw y o = 1 ∨ kdw y o = 2 by omega) with e | e | e <;> rw [e] <;> rfl
def f_fits (s : ST) : Value × ST := (.int (if s.1 0 1 = 0 then -3 else nI (s_cnt s.1 s.2.1)), s)
def srV (K Q : KT) (o : Nat) : Nat → Nat → Int32
  | 0, _ => -9
  | r + 1, k => if 0 < s_cnt K Q ∧ s_tly K Q o k = s_cnt K Q then nI k else srV K Q o r (k + 1)
theorem srV_y {K Q : KT} {o r k : Nat} (h : 0 < s_cnt K Q ∧ s_tly K Q o k = s_cnt K Q) : srV K Q o (r + 1) k = nI k := if_pos h
theorem srV_n {K Q : KT} {o r k : Nat} (h : ¬ (0 < s_cnt K Q ∧ s_tly K Q o k = s_cnt K Q)) : srV K Q o (r + 1) k = srV K Q o r (k + 1) := if_neg h
def f_sure (o : Int32) (s : ST) : Value × ST := (.int (if inN o (s.1 0 2) then srV s.1 s.2.1 o.toNatClampNeg 3 0 else -1), s)
def glN (K Q : KT) (o : Nat) : Nat := s_cnt K Q - s_tly K Q o 0
def f_guilt (o w : Int32) (s : ST) : Value × ST := (if inN o (s.1 0 2) ∧ inN w 2 ∧ ¬ s_cnt s.1 s.2.1 = 0 then .long (lN ((if w = 0 then glN s.1 s.2.1 o.toNatClampNeg else s_cnt s.1 s.2.1) / Nat.gcd (glN s.1 s.2.1 o.toNatClampNeg) (s_cnt s.1 s.2.1))) else (.long (-9223372036854775808)), s)
def C_xfits : am_C := fun av n σ τ nf P => ∃ _u : Unit, pubX [] (f_fits) av n σ τ nf P
set_option maxRecDepth 100000 in
theorem M_xfits (d : Nat) : am_Met (d + 23) 716 C_xfits := am_meth (own0 := "CanalEnd") 716 (d + 22) 155 T_X7_fits (fun y => bif Nat.beq y 745 then C_isCanal else (bif Nat.beq y 604 then C_cntOnce else (am_no))) C_xfits rfl F_X7_fits rfl (by decide +kernel) Tc_X7_fits (fun y => am_g (M_isCanal (d + 21)) (am_g (M_cntOnce (d + 0)) (am_no_met))) (by
  intro av n σ τ nf P hnf hC
  obtain ⟨_u, rfl, lf, ⟨K, Q, S, Ce, fl, tr⟩, rfl, hI, rfl, hP⟩ := hC
  have hn := Nlf_le hI.2.2.2.2.2.2.2.2.2
  refine ⟨hn, rfl, Nat.le_of_ble_eq_true rfl, fun Wb hs => ?_⟩
  have hI : InvX σ nf lf K Q S Ce fl tr := hI
  have hK := hI.1
  have hR := hI.2.1
  have hM10 := hK.2.1
  have hO8 := hK.2.2.1
  have eM : σ 1 1 = nI (K 0 1) := hR.1 1 (by omega)
  have eO : σ 1 2 = nI (K 0 2) := hR.1 2 (by omega)
  have fin : ∀ r9 : Int32, (f_fits (K, Q, S, Ce, fl, tr)).2 = (K, Q, S, Ce, fl, tr) → (f_fits (K, Q, S, Ce, fl, tr)).1 = .int r9 → P (some (.int r9)) σ (tauY 0 lf) := fun r9 e1 e2 => p_eqv e2 (hP σ (by rw [e1]; exact hI) (fun _ _ => fun _ => rfl))
  have fin2 : ∀ (v9 : Value) (K9 Q9 S9 : KT) (Ce9 : Nat → Nat → Int32) (fl9 : Nat) (tr9 : Int32) (σ9 : am_Sg), f_fits (K, Q, S, Ce, fl, tr) = (v9, (K9, Q9, S9, Ce9, fl9, tr9)) → InvX σ9 nf lf K9 Q9 S9 Ce9 fl9 tr9 → FrX σ σ9 → P (some v9) σ9 (tauY 0 lf) := fun v9 K9 Q9 S9 Ce9 fl9 tr9 σ9 e h1 h2 => by have := hP σ9 (by rw [e]; exact h1) h2; rw [e] at this; exact this
  refine hs (fun _ => false) 60 0 _ _ _ _ _ ⟨rfl, hn, lf, K 0 1, rfl, rfl, eM, by omega, fun g => vc_t rfl (And.intro rfl (fin _ rfl (congrArg Value.int (by rw [if_pos g])))), fun g => vc_f (by decide) ⟨rfl, hn, lf, K, Q, rfl, rfl, hK, hI.2.2.1, hR, hI.2.2.2.1, hI.2.2.2.2.1, fun σ2 a1 a2 a3 => ?_⟩⟩
  obtain ⟨c1, c2⟩ := hI.cnt a1 a2 a3
  refine And.intro rfl ?_
  rw [a1.1]
  exact fin2 _ K Q S Ce fl tr σ2 (by unfold f_fits; rw [if_neg g]) c1 c2)
def C_xsure : am_C := fun av n σ τ nf P => ∃ (o : Int32), pubX [.int o] (f_sure o) av n σ τ nf P
set_option maxRecDepth 100000 in
theorem M_xsure (d : Nat) : am_Met (d + 23) 717 C_xsure := am_meth (own0 := "CanalEnd") 717 (d + 22) 155 T_X7_sure (fun y => bif Nat.beq y 747 then C_isOutlet else (bif Nat.beq y 604 then C_cntOnce else (am_no))) C_xsure rfl F_X7_sure rfl (by decide +kernel) Tc_X7_sure (fun y => am_g (M_isOutlet (d + 20)) (am_g (M_cntOnce (d + 0)) (am_no_met))) (by
  intro av n σ τ nf P hnf hC
  obtain ⟨o, rfl, lf, ⟨K, Q, S, Ce, fl, tr⟩, rfl, hI, rfl, hP⟩ := hC
  have hn := Nlf_le hI.2.2.2.2.2.2.2.2.2
  refine ⟨hn, rfl, Nat.le_of_ble_eq_true rfl, fun Wb hs => ?_⟩
  have hI : InvX σ nf lf K Q S Ce fl tr := hI
  have hK := hI.1
  have hR := hI.2.1
  have hM10 := hK.2.1
  have hO8 := hK.2.2.1
  have eM : σ 1 1 = nI (K 0 1) := hR.1 1 (by omega)
  have eO : σ 1 2 = nI (K 0 2) := hR.1 2 (by omega)
  have fin : ∀ r9 : Int32, (f_sure o (K, Q, S, Ce, fl, tr)).2 = (K, Q, S, Ce, fl, tr) → (f_sure o (K, Q, S, Ce, fl, tr)).1 = .int r9 → P (some (.int r9)) σ (tauY 0 lf) := fun r9 e1 e2 => p_eqv e2 (hP σ (by rw [e1]; exact hI) (fun _ _ => fun _ => rfl))
  have fin2 : ∀ (v9 : Value) (K9 Q9 S9 : KT) (Ce9 : Nat → Nat → Int32) (fl9 : Nat) (tr9 : Int32) (σ9 : am_Sg), f_sure o (K, Q, S, Ce, fl, tr) = (v9, (K9, Q9, S9, Ce9, fl9, tr9)) → InvX σ9 nf lf K9 Q9 S9 Ce9 fl9 tr9 → FrX σ σ9 → P (some v9) σ9 (tauY 0 lf) := fun v9 K9 Q9 S9 Ce9 fl9 tr9 σ9 e h1 h2 => by have := hP σ9 (by rw [e]; exact h1) h2; rw [e] at this; exact this
  refine hs (fun p => Nat.beq p 23) 60 0 _ _ _ _ _ ⟨rfl, hn, 0, lf, K 0 2, o, rfl, rfl, eO, by omega, fun g => vc_f (by decide) ⟨rfl, hn, lf, K, Q, rfl, rfl, hK, hI.2.2.1, hR, hI.2.2.2.1, hI.2.2.2.2.1, fun σ2 a1 a2 a3 => ?_⟩, fun g => vc_t rfl (And.intro rfl (fin _ rfl (congrArg Value.int (by rw [if_neg g]))))⟩
  obtain ⟨c1, c2⟩ := hI.cnt a1 a2 a3
  obtain ⟨b, hb, rfl⟩ := inN_ex g
  have hcb : (nI b).toNatClampNeg = b := nI_clamp (by omega)
  have cl := s_cnt_le (Q := Q) hK
  obtain ⟨a45, k45, l45⟩ := ok45 b (by omega)
  have k23 : ∀ r k, k + r = 3 → srV K Q b r k = srV K Q b 3 0 → Wb 23 [some (.ref 0), some (.int (nI b)), some (.int (nI k))] [] nf σ2 (tauY 0 lf) := by
    intro r
    induction r with
    | zero =>
      intro k hk e
      have hk : k = 3 := by omega
      subst hk
      refine hs (fun p => Nat.beq p 23) 60 23 _ _ _ _ _ (vc_t (by decide) (And.intro rfl ?_))
      exact fin2 _ K Q S Ce fl tr σ2 (by unfold f_sure; rw [if_pos g, hcb, ← e]; rfl) c1 c2
    | succ r ih =>
      intro k hk e
      have tl := s_tly_le (Q := Q) (o := b) (k := k) hK
      have hck : (nI k).toNatClampNeg = k := nI_clamp (by omega)
      have on : ¬ (0 < s_cnt K Q ∧ s_tly K Q b k = s_cnt K Q) → Wb 23 [some (.ref 0), some (.int (nI b)), some (.int (nI k + 1))] [] nf σ2 (tauY 0 lf) := fun h => by
        have h9 := ih (k + 1) (by omega) (by rw [← e, srV_n h])
        rw [nI_succ] at h9
        exact h9
      refine hs (fun p => Nat.beq p 23) 60 23 _ _ _ _ _ (vc_f (nI_ge (b := 3) (by omega) (by omega)) (vc_if (fun c => on (fun q => nI_nle q.1 (by omega) (by rw [← a1.1]; exact c))) (fun c => And.intro (vin (show b < 8 by omega)) ?_)))
      rw [a1.1] at c
      have c0 : 0 < s_cnt K Q := by
        by_cases q : 0 < s_cnt K Q
        · exact q
        · exact absurd (nI_le (b := 0) (by omega) (by omega)) c
      rw [hcb]
      refine aal (t44 (by omega)) (vc_gd (gdr a45 k45) (And.intro (vin (by rw [l45]; omega)) (vc_if (fun c3 => And.intro rfl ?_) (fun c3 => on (fun q => c3 (by rw [hck, a1.2.2 b hb k (by omega), a1.1, q.2]))))))
      rw [hck, a1.2.2 b hb k (by omega), a1.1] at c3
      have c3 := nI_inj (by omega) (by omega) c3
      exact fin2 _ K Q S Ce fl tr σ2 (by unfold f_sure; rw [if_pos g, hcb, ← e, srV_y ⟨c0, c3⟩]) c1 c2
  exact k23 3 0 rfl rfl)
def eu : Nat → Nat → Nat → Nat
  | 0, a, _ => a
  | n + 1, a, b => if b = 0 then a else eu n b (a % b)
theorem eu_g : ∀ k n a b, b < 2 ^ k → 2 * k + 1 ≤ n → eu n a b = Nat.gcd a b
  | 0, n, a, b, h, hn => by
    have hb : b = 0 := by omega
    subst hb
    obtain ⟨m, rfl⟩ : ∃ m, n = m + 1 := ⟨n - 1, by omega⟩
    rw [Nat.gcd_zero_right]
    exact if_pos rfl
  | k + 1, n, a, b, h, hn => by
    obtain ⟨m, rfl⟩ : ∃ m, n = m + 2 := ⟨n - 2, by omega⟩
    by_cases hb : b = 0
    · subst hb
      rw [Nat.gcd_zero_right]
      exact if_pos rfl
    · have e1 : eu (m + 2) a b = eu (m + 1) b (a % b) := if_neg hb
      rw [e1, Nat.gcd_comm a b, Nat.gcd_rec b a, Nat.gcd_comm (a % b) b]
      have hr := Nat.mod_lt a (Nat.pos_of_ne_zero hb)
      by_cases hr0 : a % b = 0
      · rw [hr0, Nat.gcd_zero_right]
        exact if_pos rfl
      · have e2 : eu (m + 1) b (a % b) = eu m (a % b) (b % (a % b)) := if_neg hr0
        have h3 := Nat.mod_lt b (Nat.pos_of_ne_zero hr0)
        have h4 : b % (a % b) + (a % b) ≤ b := by
          have := Nat.mod_add_div b (a % b)
          have h5 : 1 ≤ b / (a % b) := Nat.div_pos (by omega) (Nat.pos_of_ne_zero hr0)
          have h6 : (a % b) * 1 ≤ (a % b) * (b / (a % b)) := Nat.mul_le_mul_left _ h5
          omega
        rw [e2, eu_g k m _ _ (by rw [Nat.pow_succ] at h; omega) (by omega), Nat.gcd_comm b (a % b), Nat.gcd_rec (a % b) b, Nat.gcd_comm]
def C_comDiv : am_C := fun av n σ τ nf P => nf = n ∧ ∃ a b : Nat, av = [.int (nI a), .int (nI b)] ∧ a ≤ 6561 ∧ b ≤ 6561 ∧ P (some (.int (nI (Nat.gcd a b)))) σ τ
set_option maxRecDepth 100000 in
theorem M_comDiv (d : Nat) : am_Met (d + 1) 760 C_comDiv := am_meth (own0 := "CanalEnd") 760 (d + 0) 0 T_X7_commonDivisor (fun y => am_no) C_comDiv rfl F_X7_commonDivisor rfl (by decide +kernel) Tc_X7_commonDivisor (fun y => am_no_met) (by
  intro av n σ τ nf P hnf hC
  obtain ⟨rfl, a, b, rfl, ha, hb, hP⟩ := hC
  refine ⟨Nat.zero_le _, rfl, Nat.le_of_ble_eq_true rfl, fun Wb hs => ?_⟩
  have e0 := eu_g 13 64 a b (by omega) (by omega)
  rw [← e0] at hP
  have k2 : ∀ m s a' b' (x3 : Option Value), s + m = 64 → a' ≤ 6561 → b' ≤ 6561 → eu m a' b' = eu 64 a b → Wb 2 [some (.int (nI a')), some (.int (nI b')), some (.int (nI s)), x3] [] nf σ τ := by
    intro m
    induction m with
    | zero =>
      intro s a' b' x3 hs9 h1 h2 e
      have hs9 : s = 64 := by omega
      subst hs9
      have e : a' = eu 64 a b := e
      rw [← e] at hP
      exact hs (fun p => Nat.beq p 2) 60 2 _ _ _ _ _ (vc_t (by decide) (And.intro rfl hP))
    | succ m ih =>
      intro s a' b' x3 hs9 h1 h2 e
      refine hs (fun p => Nat.beq p 2) 60 2 _ _ _ _ _ (vc_f (nI_ge (b := 64) (by omega) (by omega)) (vc_if (fun c => And.intro rfl ?_) (fun c => And.intro c ?_)))
      · have c : b' = 0 := nI_inj (b := 0) (by omega) (by omega) c
        have e9 : eu (m + 1) a' b' = a' := if_pos c
        rw [← e, e9] at hP
        exact hP
      · have c : ¬ b' = 0 := fun q => c (by rw [q]; rfl)
        have lt := Nat.mod_lt a' (Nat.pos_of_ne_zero c)
        have e9 : eu (m + 1) a' b' = eu m b' (a' % b') := if_neg c
        have h9 := ih (s + 1) b' (a' % b') (some (.int (nI (a' % b')))) (by omega) h2 (by omega) (by rw [← e9, e])
        rw [← pk_rem (by omega) (Nat.pos_of_ne_zero c) (by omega), nI_succ] at h9
        exact h9
  exact hs (fun p => Nat.beq p 2) 60 0 _ _ _ _ _ (k2 64 0 a b none rfl ha hb rfl))
def C_xguilt : am_C := fun av n σ τ nf P => ∃ (o : Int32) (w : Int32), pubX [.int o, .int w] (f_guilt o w) av n σ τ nf P
set_option maxRecDepth 100000 in
theorem M_xguilt (d : Nat) : am_Met (d + 23) 718 C_xguilt := am_meth (own0 := "CanalEnd") 718 (d + 22) 155 T_X7_guilt (fun y => bif Nat.beq y 747 then C_isOutlet else (bif Nat.beq y 740 then C_isIn else (bif Nat.beq y 604 then C_cntOnce else (bif Nat.beq y 760 then C_comDiv else (am_no))))) C_xguilt rfl F_X7_guilt rfl (by decide +kernel) Tc_X7_guilt (fun y => am_g (M_isOutlet (d + 20)) (am_g (M_isIn (d + 21)) (am_g (M_cntOnce (d + 0)) (am_g (M_comDiv (d + 21)) (am_no_met))))) (by
  intro av n σ τ nf P hnf hC
  obtain ⟨o, w, rfl, lf, ⟨K, Q, S, Ce, fl, tr⟩, rfl, hI, rfl, hP⟩ := hC
  have hn := Nlf_le hI.2.2.2.2.2.2.2.2.2
  refine ⟨hn, rfl, Nat.le_of_ble_eq_true rfl, fun Wb hs => ?_⟩
  have hI : InvX σ nf lf K Q S Ce fl tr := hI
  have hK := hI.1
  have hR := hI.2.1
  have hM10 := hK.2.1
  have hO8 := hK.2.2.1
  have eM : σ 1 1 = nI (K 0 1) := hR.1 1 (by omega)
  have eO : σ 1 2 = nI (K 0 2) := hR.1 2 (by omega)
  have fin : ∀ r9 : Int32, (f_guilt o w (K, Q, S, Ce, fl, tr)).2 = (K, Q, S, Ce, fl, tr) → (f_guilt o w (K, Q, S, Ce, fl, tr)).1 = .int r9 → P (some (.int r9)) σ (tauY 0 lf) := fun r9 e1 e2 => p_eqv e2 (hP σ (by rw [e1]; exact hI) (fun _ _ => fun _ => rfl))
  have fin2 : ∀ (v9 : Value) (K9 Q9 S9 : KT) (Ce9 : Nat → Nat → Int32) (fl9 : Nat) (tr9 : Int32) (σ9 : am_Sg), f_guilt o w (K, Q, S, Ce, fl, tr) = (v9, (K9, Q9, S9, Ce9, fl9, tr9)) → InvX σ9 nf lf K9 Q9 S9 Ce9 fl9 tr9 → FrX σ σ9 → P (some v9) σ9 (tauY 0 lf) := fun v9 K9 Q9 S9 Ce9 fl9 tr9 σ9 e h1 h2 => by have := hP σ9 (by rw [e]; exact h1) h2; rw [e] at this; exact this
  refine hs (fun _ => false) 80 0 _ _ _ _ _ ⟨rfl, hn, 0, lf, K 0 2, o, rfl, rfl, eO, by omega, fun g => vc_f (by decide) ⟨rfl, w, 0, 1, rfl, fun g2 => vc_f (by decide) ⟨rfl, hn, lf, K, Q, rfl, rfl, hK, hI.2.2.1, hR, hI.2.2.2.1, hI.2.2.2.2.1, fun σ2 a1 a2 a3 => ?_⟩, fun g2 => vc_t rfl (And.intro rfl (fin2 _ K Q S Ce fl tr σ (by unfold f_guilt; rw [if_neg (fun q => g2 ((in_iff (v := w) (c := 1) (N := 2) rfl).mpr q.2.1))]) hI (fun _ _ _ => rfl)))⟩, fun g => vc_t rfl (And.intro rfl (fin2 _ K Q S Ce fl tr σ (by unfold f_guilt; rw [if_neg (fun q => g q.1)]) hI (fun _ _ _ => rfl)))⟩
  have g2 := (in_iff (v := w) (c := 1) (N := 2) rfl).mp g2
  obtain ⟨c1, c2⟩ := hI.cnt a1 a2 a3
  obtain ⟨b, hb, rfl⟩ := inN_ex g
  have hcb : (nI b).toNatClampNeg = b := nI_clamp (by omega)
  have cl := s_cnt_le (Q := Q) hK
  have ts := tly_sum (K := K) (Q := Q) (o := b)
  obtain ⟨a45, k45, l45⟩ := ok45 b (by omega)
  refine vc_if (fun c => And.intro rfl ?_) (fun c => And.intro (vin (show b < 8 by omega)) ?_)
  · rw [a1.1] at c
    have c := nI_inj (b := 0) (by omega) (by omega) c
    exact fin2 _ K Q S Ce fl tr σ2 (by unfold f_guilt; rw [if_neg (fun q => q.2.2 c)]) c1 c2
  · rw [a1.1] at c
    have c : ¬ s_cnt K Q = 0 := fun q => c (by rw [q]; rfl)
    rw [hcb]
    refine aal (t44 (by omega)) (vc_gd (gdr a45 k45) (And.intro (vin (j := 0) (by rw [l45]; omega)) ?_))
    have e0 : σ2 (45 + b) (0 : Int32).toNatClampNeg = nI (s_tly K Q b 0) := a1.2.2 b hb 0 (by omega)
    have eg : nI (s_cnt K Q) - nI (s_tly K Q b 0) = nI (glN K Q b) := pk_sub (by omega)
    have gle : glN K Q b ≤ 6561 := by unfold glN; omega
    have gp : 0 < Nat.gcd (glN K Q b) (s_cnt K Q) := Nat.gcd_pos_of_pos_right _ (Nat.pos_of_ne_zero c)
    have gb : Nat.gcd (glN K Q b) (s_cnt K Q) ≤ s_cnt K Q := Nat.gcd_le_right _ (Nat.pos_of_ne_zero c)
    refine ⟨rfl, glN K Q b, s_cnt K Q, by rw [a1.1, e0, eg], gle, cl, vc_t (nI_le (a := 1) gp (by omega)) (vc_if (fun q => And.intro (nI_ne0 gp (by omega)) (And.intro rfl ?_)) (fun q => And.intro (nI_ne0 gp (by omega)) (And.intro rfl ?_)))⟩
    · have dl := Nat.div_le_self (glN K Q b) (Nat.gcd (glN K Q b) (s_cnt K Q))
      rw [a1.1, e0, eg, pk_div (by omega) gp (by omega), nI_l (by omega)]
      exact fin2 _ K Q S Ce fl tr σ2 (by unfold f_guilt; rw [if_pos ⟨g, g2, c⟩, if_pos q, hcb]) c1 c2
    · have dl := Nat.div_le_self (s_cnt K Q) (Nat.gcd (glN K Q b) (s_cnt K Q))
      rw [a1.1, pk_div (by omega) gp (by omega), nI_l (by omega)]
      exact fin2 _ K Q S Ce fl tr σ2 (by unfold f_guilt; rw [if_pos ⟨g, g2, c⟩, if_neg q, hcb]) c1 c2)
