theorem met_ex {d x N : Nat} {C : Nat → am_C} (h : ∀ r, r ≤ N → am_Met d x (C r)) : am_Met d x (fun av n σ τ nf P => ∃ r, r ≤ N ∧ C r av n σ τ nf P) := fun l D z ρ av n nf σ τ P sz h1 h2 hC => by
  obtain ⟨r, hr, hC⟩ := hC
  exact h r hr l D z ρ av n nf σ τ P sz h1 h2 hC
def C_tryA : am_C := fun av n σ τ nf P => ∃ r, r ≤ 4 ∧ C_tryF r av n σ τ nf P
theorem M_tryA (d : Nat) : am_Met (d + 7) 202 C_tryA := met_ex (C := C_tryF) (fun r hr => by
  have h := M_tryF r (d + (4 - r))
  rw [show d + (4 - r) + (r + 3) = d + 7 by omega] at h
  exact h)
def C_search : am_C := fun av n σ τ nf P => nf = n ∧ 155 ≤ n ∧ ∃ (lf f : Nat) (K : KT), τ = tauY 0 lf ∧ av = [.ref 104, .ref 12, .int (nI f)] ∧ WfK K ∧ RepX σ 12 K ∧ 1 ≤ K 0 2 ∧ K 0 2 ≤ 4 ∧ f ≤ 9999 ∧ ∀ σ', RepB σ' (K 0 2) (GG K f (K 0 2) 0 (10 ^ K 0 2) (10000, 0)) → (∀ q, ¬ q = 19 → ¬ q = 104 → ¬ q = 105 → σ' q = σ q) → P none σ' τ
set_option maxRecDepth 100000 in
theorem M_search (d : Nat) : am_Met (d + 8) 201 C_search := am_meth (own0 := "CanalEnd$Heights") 201 (d + 7) 155 T_X2_search (fun y => bif Nat.beq y 202 then C_tryA else (am_no)) C_search rfl F_X2_search rfl (by decide +kernel) Tc_X2_search (fun y => am_g (M_tryA (d + 0)) (am_no_met)) (by
  intro av n σ τ nf P hnf hC
  obtain ⟨rfl, hn, lf, f, K, rfl, rfl, hW, hR, hO1, hO4, hf, hP⟩ := hC
  refine ⟨hn, rfl, Nat.le_of_ble_eq_true rfl, fun Wb hs => ?_⟩
  refine hs (fun _ => false) 60 0 _ _ _ _ _ (fun σ1 e1 => ⟨K 0 2, hO4, rfl, hn, lf, 0, f, 0, -1, -1, K 7, (10000, 0), K, rfl, rfl, ⟨fun _ => ⟨rfl, rfl⟩, fun q => absurd q (by omega)⟩, hW, ?_, fun z hz => (hW.2.2.2.2.2.2.2.2.2 z hz).2.2.2.1, hO1, hO4, by omega, hf, fun z hz => absurd hz (by omega), Nat.le_refl _, ⟨?_, fun q => absurd q (Nat.lt_irrefl _)⟩, fun σ2 h2 a1 a2 a3 a4 a5 => And.intro rfl ?_⟩)
  · rw [hK_self]
    exact hR.frame (fun q g1 g2 => by rw [e1, am_up_ne (by omega)])
  · rw [e1, up_at]
    rfl
  · rw [Nat.zero_mul] at a4
    exact hP σ2 a4 (fun q g1 g2 g3 => by rw [a5 q g1 g2 g3, e1, am_up_ne g2]))
theorem k_iff {k : Int32} : ((-1 : Int32) ≤ k ∧ k ≤ 3) ↔ okE k := by
  rw [i_le, i_le]
  exact Iff.rfl
theorem o_iff {O : Nat} (h : O ≤ 8) : ((1 : Int32) ≤ nI O ∧ nI O ≤ 4) ↔ (1 ≤ O ∧ O ≤ 4) := by
  rw [show (1 : Int32) = nI 1 from rfl, show (4 : Int32) = nI 4 from rfl, nI_leI (by omega) (by omega), nI_leI (by omega) (by omega)]
theorem k_ex {k : Int32} (h : okE k) : k = -1 ∨ ∃ z, z ≤ 3 ∧ k = nI z := by
  by_cases c : k.toInt = -1
  · left
    rw [fa_eq', c]
    rfl
  · right
    obtain ⟨z, hz, e⟩ := inN_ex (v := k) (N := 4) ⟨by omega, by omega⟩
    exact ⟨z, by omega, e⟩
def C_xeven : am_C := fun av n σ τ nf P => ∃ (f : Int32) (k : Int32), pubX [.int f, .int k] (f_even f k) av n σ τ nf P
set_option maxRecDepth 100000 in
theorem M_xeven (d : Nat) : am_Met (d + 9) 726 C_xeven := am_meth (own0 := "CanalEnd") 726 (d + 8) 155 T_X7_even (fun y => bif Nat.beq y 740 then C_isIn else (bif Nat.beq y 741 then C_isWater else (bif Nat.beq y 4 then C_become else (bif Nat.beq y 201 then C_search else (am_no))))) C_xeven rfl F_X7_even rfl (by decide +kernel) Tc_X7_even (fun y => am_g (M_isIn (d + 7)) (am_g (M_isWater (d + 6)) (am_g (M_become (d + 7)) (am_g (M_search (d + 0)) (am_no_met))))) (by
  intro av n σ τ nf P hnf hC
  obtain ⟨f, k, rfl, lf, ⟨K, Q, S, Ce, fl, tr⟩, rfl, hI, rfl, hP⟩ := hC
  have hn := Nlf_le hI.2.2.2.2.2.2.2.2.2
  refine ⟨hn, rfl, Nat.le_of_ble_eq_true rfl, fun Wb hs => ?_⟩
  have hI : InvX σ nf lf K Q S Ce fl tr := hI
  have hK := hI.1
  have hR := hI.2.1
  have hM10 := hK.2.1
  have hO8 := hK.2.2.1
  have eM : σ 1 1 = nI (K 0 1) := hR.1 1 (by omega)
  have eO : σ 1 2 = nI (K 0 2) := hR.1 2 (by omega)
  have fin : ∀ r9 : Int32, (f_even f k (K, Q, S, Ce, fl, tr)).2 = (K, Q, S, Ce, fl, tr) → (f_even f k (K, Q, S, Ce, fl, tr)).1 = .int r9 → P (some (.int r9)) σ (tauY 0 lf) := fun r9 e1 e2 => p_eqv e2 (hP σ (by rw [e1]; exact hI) (fun _ _ => fun _ => rfl))
  have fin2 : ∀ (v9 : Value) (K9 Q9 S9 : KT) (Ce9 : Nat → Nat → Int32) (fl9 : Nat) (tr9 : Int32) (σ9 : am_Sg), f_even f k (K, Q, S, Ce, fl, tr) = (v9, (K9, Q9, S9, Ce9, fl9, tr9)) → InvX σ9 nf lf K9 Q9 S9 Ce9 fl9 tr9 → FrX σ σ9 → P (some v9) σ9 (tauY 0 lf) := fun v9 K9 Q9 S9 Ce9 fl9 tr9 σ9 e h1 h2 => by have := hP σ9 (by rw [e]; exact h1) h2; rw [e] at this; exact this
  refine hs (fun _ => false) 80 0 _ _ _ _ _ ⟨rfl, k, -1, 3, rfl, fun g => vc_f (by decide) ⟨rfl, f, rfl, fun g2 => vc_f (by decide) ⟨rfl, nI (K 0 2), 1, 4, by rw [eO], fun g3 => vc_f (by decide) ?_, fun g3 => vc_t rfl (And.intro rfl (fin _ rfl (congrArg Value.int (by rw [if_pos (k_iff.mp g), if_pos g2, if_neg (fun q => g3 ((o_iff hO8).mpr q))]))))⟩, fun g2 => vc_t rfl (And.intro rfl (fin _ rfl (congrArg Value.int (by rw [if_pos (k_iff.mp g), if_neg g2]))))⟩, fun g => vc_t rfl (And.intro rfl (fin _ rfl (congrArg Value.int (by rw [if_neg (fun q => g (k_iff.mpr q))]))))⟩
  have g := k_iff.mp g
  have g3 := (o_iff hO8).mp g3
  obtain ⟨u, hu, rfl⟩ := inN_ex g2
  have hcu : (nI u).toNatClampNeg = u := nI_clamp (by omega)
  have ev : f_even (nI u) k (K, Q, S, Ce, fl, tr) = (.int (if k = -1 then nI (GG K u (K 0 2) 0 (10 ^ K 0 2) (10000, 0)).1 else if inN k (K 0 2) then nI (hd (K 0 2) (GG K u (K 0 2) 0 (10 ^ K 0 2) (10000, 0)).2 k.toNatClampNeg) else -9), (K, Q, S, Ce, fl, tr)) := by
    unfold f_even
    rw [if_pos g, if_pos g2, if_pos g3, hcu]
  have run : ∀ σ1 σ2 : am_Sg, RepG σ1 → (∀ q, ¬ (12 ≤ q ∧ q ≤ 12 + 10) → σ1 q = σ q) → (∀ q, ¬ q = 19 → ¬ q = 104 → ¬ q = 105 → σ2 q = σ1 q) → InvX σ2 nf lf K Q S Ce fl tr ∧ FrX σ σ2 := by
    intro σ1 σ2 h1 h2 h3
    exact ⟨hI.keep (fun q hq => by rw [h3 q (by unfold Pq at hq; omega) (by unfold Pq at hq; omega) (by unfold Pq at hq; omega), h2 q (by unfold Pq at hq; omega)]) (h1.fr (h3 11 (by omega) (by omega) (by omega)) (h3 22 (by omega) (by omega) (by omega))), fun q g1 g2 => by rw [h3 q (by omega) (by omega) (by omega), h2 q (by omega)]⟩
  rcases k_ex g with e | ⟨z, hz, e⟩
  · subst e
    refine vc_t (by rw [eO, i_lt, nI_toInt (by omega)]; show (-1 : Int) < _; omega) ⟨rfl, hn, 0, lf, 12, 1, K, rfl, rfl, Or.inl ⟨rfl, rfl⟩, hR, hK, hI.2.2.2.2.2.2.2.2.1, fun σ1 a1 a2 a3 => ⟨rfl, hn, lf, u, K, rfl, rfl, hK, a1, g3.1, g3.2, by omega, fun σ2 b1 b2 => vc_f (by decide) (And.intro rfl ?_)⟩⟩
    obtain ⟨c1, c2⟩ := run σ1 σ2 a2 a3 b2
    rw [b1.1]
    exact fin2 _ K Q S Ce fl tr σ2 (by rw [ev, if_pos rfl]) c1 c2
  · subst e
    have nk : ¬ nI z = -1 := fun q => by
      have e := congrArg Int32.toInt q
      rw [nI_toInt (by omega)] at e
      have e : (z : Int) = -1 := e
      omega
    refine vc_if (fun q => ?_) (fun q => And.intro rfl ?_)
    · rw [eO] at q
      have q := (nI_ltI (by omega) (by omega)).mp q
      refine ⟨rfl, hn, 0, lf, 12, 1, K, rfl, rfl, Or.inl ⟨rfl, rfl⟩, hR, hK, hI.2.2.2.2.2.2.2.2.1, fun σ1 a1 a2 a3 => ⟨rfl, hn, lf, u, K, rfl, rfl, hK, a1, g3.1, g3.2, by omega, fun σ2 b1 b2 => vc_t (nI_pos' (by omega)) (And.intro (vin (show z < 4 by omega)) (And.intro rfl ?_))⟩⟩
      obtain ⟨c1, c2⟩ := run σ1 σ2 a2 a3 b2
      have hcz : (nI z).toNatClampNeg = z := nI_clamp (by omega)
      have lt : (GG K u (K 0 2) 0 (10 ^ K 0 2) (10000, 0)).1 < 10000 := by
        have := GG_min (K := K) (f := u) (O := K 0 2) (lo := 0) (B := (10000, 0)) (10 ^ K 0 2) 0 (Nat.le_refl _) (by have := p10 (K 0 2); omega)
        have := Sp_le (K := K) (f := u) (O := K 0 2) (row := 0)
        omega
      rw [hcz, b1.2 lt z q]
      exact fin2 _ K Q S Ce fl tr σ2 (by rw [ev, if_neg nk, if_pos (inN_nI q (by omega)), hcz]) c1 c2
    · rw [eO] at q
      exact fin2 _ K Q S Ce fl tr σ (by rw [ev, if_neg nk, if_neg (fun w => q (nI_lt (by have := (inN_c w).1; rw [nI_clamp (by omega)] at this; exact this) (by omega)))]) hI (fun _ _ _ => rfl))
def mxT (t : Nat → Nat) : Nat → Nat
  | 0 => 0
  | o + 1 => max (mxT t o) (t o)
def mnT (t : Nat → Nat) : Nat → Nat
  | 0 => 0
  | o + 1 => if o = 0 then t o else min (mnT t o) (t o)
theorem mm_le {t : Nat → Nat} {O : Nat} (h : ∀ o, o < O → t o ≤ 9999) : ∀ o, o ≤ O → mxT t o ≤ 9999 ∧ mnT t o ≤ mxT t o
  | 0, _ => ⟨Nat.zero_le _, Nat.le_refl _⟩
  | o + 1, ho => by
    obtain ⟨i1, i2⟩ := mm_le h o (by omega)
    refine ⟨Nat.max_le.mpr ⟨i1, h o (by omega)⟩, ?_⟩
    show (if o = 0 then t o else min (mnT t o) (t o)) ≤ max (mxT t o) (t o)
    split
    · exact Nat.le_max_right _ _
    · exact Nat.le_trans (Nat.min_le_right _ _) (Nat.le_max_right _ _)
theorem mm_est {K : KT} {f : Nat} {h : Nat → Nat} : ∀ o, (est K f h o).2.2.1 = mxT (fun z => tkE K z (est K f h z).1 (est K f h z).2.1 (h z)) o ∧ (est K f h o).2.2.2 = mnT (fun z => tkE K z (est K f h z).1 (est K f h z).2.1 (h z)) o
  | 0 => ⟨rfl, rfl⟩
  | o + 1 => by
    obtain ⟨i1, i2⟩ := mm_est (K := K) (f := f) (h := h) o
    constructor
    · show max (est K f h o).2.2.1 _ = max (mxT _ o) _
      rw [i1]
    · show (if o = 0 then _ else min (est K f h o).2.2.2 _) = (if o = 0 then _ else min (mnT _ o) _)
      rw [i2]
def C_mspread : am_C := fun av n σ τ nf P => nf = n ∧ 155 ≤ n ∧ ∃ (lf O : Nat) (t : Nat → Nat), τ = tauY 0 lf ∧ av = [.ref 116] ∧ σ 116 7 = nI O ∧ 1 ≤ O ∧ O ≤ 8 ∧ (∀ o, o < O → σ 139 o = nI (t o) ∧ t o ≤ 9999) ∧ P (some (.int (nI (mxT t O - mnT t O)))) σ τ
set_option maxRecDepth 100000 in
theorem M_mspread (d : Nat) : am_Met (d + 1) 857 C_mspread := am_meth (own0 := "CanalEndModel") 857 (d + 0) 155 T_X8_spread (fun y => am_no) C_mspread rfl F_X8_spread rfl (by decide +kernel) Tc_X8_spread (fun y => am_no_met) (by
  intro av n σ τ nf P hnf hC
  obtain ⟨rfl, hn, lf, O, t, rfl, rfl, eO, hO1, hO8, ht, hP⟩ := hC
  refine ⟨hn, rfl, Nat.le_of_ble_eq_true rfl, fun Wb hs => ?_⟩
  have hl := mm_le (t := t) (O := O) (fun o ho => (ht o ho).2)
  have k16 : ∀ r o, o + r = O → 1 ≤ o → Wb 16 [some (.ref 116), some (.int (nI (mxT t o))), some (.int (nI (mnT t o))), some (.int (nI o))] [] nf σ (tauY 0 lf) := by
    intro r
    induction r with
    | zero =>
      intro o ho h1
      have ho : o = O := by omega
      subst ho
      exact hs (fun p => Nat.beq p 16) 60 16 _ _ _ _ _ (vc_t (by rw [eO]; exact nI_le (Nat.le_refl _) (by omega)) (And.intro rfl (p_eq (pk_sub (hl o (Nat.le_refl _)).2) hP)))
    | succ r ih =>
      intro o ho h1
      have h9 := ih (o + 1) (by omega) (by omega)
      obtain ⟨l1, l2⟩ := hl o (by omega)
      obtain ⟨t1, t2⟩ := ht o (by omega)
      have hco : (nI o).toNatClampNeg = o := nI_clamp (by omega)
      have vo : vp_in (nI o) (am_len 139) := vin (show o < 8 by omega)
      have ex : mxT t (o + 1) = max (mxT t o) (t o) := rfl
      have en : mnT t (o + 1) = min (mnT t o) (t o) := if_neg (by omega)
      rw [ex, en, nI_succ] at h9
      refine hs (fun p => Nat.beq p 16) 60 16 _ _ _ _ _ (vc_f (by rw [eO]; exact nI_ge (by omega) (by omega)) (And.intro vo ?_))
      rw [hco, t1]
      refine vc_if (fun c => And.intro vo ?_) (fun c => And.intro vo (And.intro vo ?_))
      all_goals rw [hco, t1]
      · have c := (nI_leI (by omega) (by omega)).mp c
        rw [Nat.max_eq_left c] at h9
        refine vc_if (fun c2 => ?_) (fun c2 => And.intro vo ?_)
        · have c2 := (nI_leI (by omega) (by omega)).mp c2
          rw [Nat.min_eq_left c2] at h9
          exact h9
        · have c2 : ¬ mnT t o ≤ t o := fun q => c2 (nI_le q (by omega))
          rw [Nat.min_eq_right (by omega), ← t1, ← show σ 139 (nI o).toNatClampNeg = σ 139 o by rw [hco]] at h9
          exact h9
      · have c : ¬ t o ≤ mxT t o := fun q => c (nI_le q (by omega))
        rw [Nat.max_eq_right (by omega)] at h9
        refine vc_if (fun c2 => ?_) (fun c2 => And.intro vo ?_)
        · have c2 := (nI_leI (by omega) (by omega)).mp c2
          rw [Nat.min_eq_left c2] at h9
          exact h9
        · have c2 : ¬ mnT t o ≤ t o := fun q => c2 (nI_le q (by omega))
          rw [Nat.min_eq_right (by omega)] at h9
          have h8 : Wb 16 [some (.ref 116), some (.int (nI (t o))), some (.int (σ 139 (nI o).toNatClampNeg)), some (.int (nI o + 1))] [] nf σ (tauY 0 lf) := by
            rw [hco, t1]
            exact h9
          exact h8
  have h9 := k16 (O - 1) 1 (by omega) (Nat.le_refl _)
  have e1 : mxT t 1 = t 0 := Nat.max_eq_right (Nat.zero_le _)
  have e2 : mnT t 1 = t 0 := rfl
  rw [e1, e2, ← (ht 0 (by omega)).1] at h9
  exact hs (fun p => Nat.beq p 16) 60 0 _ _ _ _ _ (And.intro (vin (j := 0) (q := 139) (by decide)) (And.intro (vin (j := 0) (q := 139) (by decide)) h9)))
