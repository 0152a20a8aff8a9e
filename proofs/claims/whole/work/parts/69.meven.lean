theorem InvM.rep {σ σ' : am_Sg} {K Q S : KT} {Ce : Nat → Nat → Int32} {fl : Nat} {tr : Int32} (h : InvM σ K Q S Ce fl tr) (hR : RepM σ' K) (hf : ∀ q, (117 ≤ q ∧ q ≤ 119) ∨ (140 ≤ q ∧ q ≤ 143) → σ' q = σ q) (h0 : σ' 116 = σ 116) : InvM σ' K Q S Ce fl tr := by
  obtain ⟨h1, h2, h3, h4, h5, h6, h7, h8⟩ := h
  refine ⟨h1, hR, h3, ?_, h5, ?_, by rw [h0]; exact h7, by rw [h0]; exact h8⟩
  · rw [h0, hf 140 (by omega), hf 141 (by omega), hf 142 (by omega), hf 143 (by omega)]; exact h4
  · intro k hk
    rw [hf 117 (by omega), hf 118 (by omega), hf 119 (by omega)]
    exact h6 k hk
theorem RepM.hts {σ σ' : am_Sg} {K : KT} {h : Nat → Nat} (hR : RepM σ K) (hf : ∀ q, (116 ≤ q ∧ q ≤ 128) → ¬ q = 125 → σ' q = σ q) (h5 : ∀ z, z < K 0 2 → σ' 125 z = nI (h z)) : RepM σ' (hK K h) := by
  obtain ⟨r1, r2, r3, r4, r5, r6, r7⟩ := hR
  unfold RepM
  have efo : fo (hK K h) = fo K := by funext j; unfold fo; rw [hK_ne (a := 0) (by omega), hK_ne (a := 3) (by omega)]
  rw [hK_ne (a := 0) (by omega), hK_ne (a := 1) (by omega), hK_ne (a := 2) (by omega), efo, hf 116 (by omega) (by omega), hf 120 (by omega) (by omega), hf 121 (by omega) (by omega), hf 122 (by omega) (by omega)]
  refine ⟨r1, r2, r3, r4, r5, r6, fun f hf6 o ho => ?_⟩
  by_cases e : f = 2
  · subst e
    exact (h5 o ho).trans (by rw [hK_7])
  · rw [hf (123 + f) (by omega) (by omega), hK_ne (by omega)]
    exact r7 f hf6 o ho
theorem nI_g9 {p : Nat} (h : p < 2 ^ 31) : ¬ nI p = -9 := fun q => by
  have e := congrArg Int32.toInt q
  rw [nI_toInt h] at e
  have e : (p : Int) = -9 := e
  omega
theorem p10_4 : ∀ O, O < 5 → 10 ^ O ≤ 10000 := by decide +kernel
def C_meven : am_C := fun av n σ τ nf P => ∃ (f : Int32) (k : Int32), pubM [.int f, .int k] (f_even f k) av n σ τ nf P
set_option maxRecDepth 100000 in
theorem M_meven (d : Nat) : am_Met (d + 5) 858 C_meven := am_meth (own0 := "CanalEndModel") 858 (d + 4) 155 T_X8_even (fun y => bif Nat.beq y 803 then C_within else (bif Nat.beq y 823 then C_mWater else (bif Nat.beq y 825 then C_mhour else (bif Nat.beq y 857 then C_mspread else (am_no))))) C_meven rfl F_X8_even rfl (by decide +kernel) Tc_X8_even (fun y => am_g (M_within (d + 3)) (am_g (M_mWater (d + 2)) (am_g (M_mhour (d + 3)) (am_g (M_mspread (d + 3)) (am_no_met))))) (by
  intro av n σ τ nf P hnf hC
  obtain ⟨f, k, rfl, hn, lf, ⟨K, Q, S, Ce, fl, tr⟩, rfl, hI, rfl, hP⟩ := hC
  refine ⟨hn, rfl, Nat.le_of_ble_eq_true rfl, fun Wb hs => ?_⟩
  have hI : InvM σ K Q S Ce fl tr := hI
  have hK := hI.1
  have hR := hI.2.1
  have hM10 := hK.2.1
  have hO8 := hK.2.2.1
  have eM := hR.2.1
  have eO := hR.2.2.1
  have fin : ∀ r9 : Int32, (f_even f k (K, Q, S, Ce, fl, tr)).2 = (K, Q, S, Ce, fl, tr) → (f_even f k (K, Q, S, Ce, fl, tr)).1 = .int r9 → P (some (.int r9)) σ (tauY 0 lf) := fun r9 e1 e2 => p_eqv e2 (hP σ (by rw [e1]; exact hI) (fun _ _ => rfl))
  have fin2 : ∀ (v9 : Value) (K9 Q9 S9 : KT) (Ce9 : Nat → Nat → Int32) (fl9 : Nat) (tr9 : Int32) (σ9 : am_Sg), f_even f k (K, Q, S, Ce, fl, tr) = (v9, (K9, Q9, S9, Ce9, fl9, tr9)) → InvM σ9 K9 Q9 S9 Ce9 fl9 tr9 → FrM σ σ9 → P (some v9) σ9 (tauY 0 lf) := fun v9 K9 Q9 S9 Ce9 fl9 tr9 σ9 e h1 h2 => by have := hP σ9 (by rw [e]; exact h1) h2; rw [e] at this; exact this
  have hWf := hK
  clear hK
  refine hs (fun p => Nat.beq p 41) 80 0 _ _ _ _ _ ⟨rfl, k, -1, 3, rfl, fun g => vc_f (by decide) ⟨rfl, f, rfl, fun g2 => vc_f (by decide) ⟨rfl, nI (K 0 2), 1, 4, by rw [eO], fun g3 => vc_f (by decide) ?_, fun g3 => vc_t rfl (And.intro rfl (fin _ rfl (congrArg Value.int (by rw [if_pos (k_iff.mp g), if_pos g2, if_neg (fun q => g3 ((o_iff hO8).mpr q))]))))⟩, fun g2 => vc_t rfl (And.intro rfl (fin _ rfl (congrArg Value.int (by rw [if_pos (k_iff.mp g), if_neg g2]))))⟩, fun g => vc_t rfl (And.intro rfl (fin _ rfl (congrArg Value.int (by rw [if_neg (fun q => g (k_iff.mpr q))]))))⟩
  have g := k_iff.mp g
  have g3 := (o_iff hO8).mp g3
  obtain ⟨u, hu, rfl⟩ := inN_ex g2
  have hcu : (nI u).toNatClampNeg = u := nI_clamp (by omega)
  have ev : f_even (nI u) k (K, Q, S, Ce, fl, tr) = (.int (if k = -1 then nI (GG K u (K 0 2) 0 (10 ^ K 0 2) (10000, 0)).1 else if inN k (K 0 2) then nI (hd (K 0 2) (GG K u (K 0 2) 0 (10 ^ K 0 2) (10000, 0)).2 k.toNatClampNeg) else -9), (K, Q, S, Ce, fl, tr)) := by
    unfold f_even
    rw [if_pos g, if_pos g2, if_pos g3, hcu]
  have p4 := p10_4 (K 0 2) (by omega)
  have p0 := p10 (K 0 2)
  have k209 : ∀ m z (ls : Int32) (x6 x7 x8 : Option Value) (σ1 : am_Sg), z + m = K 0 2 → (∀ z, z < K 0 2 → σ1 152 z = nI (K 7 z) ∧ σ1 135 z = 0) → (∀ q, ¬ q = 152 → ¬ q = 153 → ¬ q = 125 → ¬ (135 ≤ q ∧ q ≤ 139) → σ1 q = σ q) → ((10 ^ K 0 2 = 0 ∧ ls = -9) ∨ (0 < 10 ^ K 0 2 ∧ ls = nI (GG K u (K 0 2) 0 (10 ^ K 0 2) (10000, 0)).1 ∧ (GG K u (K 0 2) 0 (10 ^ K 0 2) (10000, 0)).1 ≤ 9999 ∧ ∀ z, z < K 0 2 → σ1 153 z = nI (hd (K 0 2) (GG K u (K 0 2) 0 (10 ^ K 0 2) (10000, 0)).2 z))) → (∀ y, y < z → σ1 125 y = nI (K 7 y)) → Wb 209 [some (.ref 116), some (.int (nI u)), some (.int k), some (.int (nI (10 ^ K 0 2))), some (.int ls), some (.int (nI z)), x6, x7, x8] [] nf σ1 (tauY 0 lf) := by
    intro m
    induction m with
    | zero =>
      intro z ls x6 x7 x8 σ1 hz c1 c2 c3 c4
      have hz : z = K 0 2 := by omega
      subst hz
      have e6 : σ1 116 = σ 116 := c2 116 (by omega) (by omega) (by omega) (by omega)
      have eO1 : σ1 116 7 = nI (K 0 2) := by rw [e6]; exact eO
      obtain ⟨q0, rfl, q2, q3⟩ : 0 < 10 ^ K 0 2 ∧ ls = nI (GG K u (K 0 2) 0 (10 ^ K 0 2) (10000, 0)).1 ∧ (GG K u (K 0 2) 0 (10 ^ K 0 2) (10000, 0)).1 ≤ 9999 ∧ ∀ z, z < K 0 2 → σ1 153 z = nI (hd (K 0 2) (GG K u (K 0 2) 0 (10 ^ K 0 2) (10000, 0)).2 z) := by
        rcases c3 with h | h
        · exact absurd h.1 (by omega)
        · exact h
      have hM : RepM σ1 K := by
        have h9 := hR.hts (σ' := σ1) (h := K 7) (fun q h1 h2 => c2 q (by omega) (by omega) h2 (by omega)) (fun z hz => c4 z hz)
        rw [hK_self] at h9
        exact h9
      have fI : InvM σ1 K Q S Ce fl tr := hI.rep hM (fun q hq => c2 q (by omega) (by omega) (by omega) (by omega)) e6
      have fF : FrM σ σ1 := fun q hq => c2 q (by omega) (by omega) (by omega) (by omega)
      refine hs (fun p => Nat.beq p 209) 80 209 _ _ _ _ _ (vc_t (by rw [eO1]; exact nI_le (by omega) (by omega)) (vc_if (fun q => And.intro rfl ?_) (fun q => vc_if (fun q4 => And.intro rfl ?_) (fun q4 => And.intro ?_ (And.intro rfl ?_)))))
      · exact fin2 _ K Q S Ce fl tr σ1 (by rw [ev, if_pos q]) fI fF
      all_goals
        rcases k_ex g with e | ⟨w, hw, e⟩
        · exact absurd e q
      · subst e
        rw [eO1] at q4
        have q4 := (nI_leI (by omega) (by omega)).mp q4
        exact fin2 _ K Q S Ce fl tr σ1 (by rw [ev, if_neg q, if_neg (fun w9 => by have := (inN_c w9).1; rw [nI_clamp (by omega)] at this; omega)]) fI fF
      · subst e
        exact vin (show w < 8 by omega)
      · subst e
        rw [eO1] at q4
        have q4 : w < K 0 2 := by
          by_cases q9 : w < K 0 2
          · exact q9
          · exact absurd (nI_le (by omega) (by omega)) q4
        rw [nI_clamp (by omega), q3 w q4]
        exact fin2 _ K Q S Ce fl tr σ1 (by rw [ev, if_neg q, if_pos (inN_nI q4 (by omega)), nI_clamp (by omega)]) fI fF
    | succ m ih =>
      intro z ls x6 x7 x8 σ1 hz c1 c2 c3 c4
      have eO1 : σ1 116 7 = nI (K 0 2) := by rw [c2 116 (by omega) (by omega) (by omega) (by omega)]; exact eO
      have hcz : (nI z).toNatClampNeg = z := nI_clamp (by omega)
      refine hs (fun p => Nat.beq p 209) 80 209 _ _ _ _ _ (vc_f (by rw [eO1]; exact nI_ge (by omega) (by omega)) (And.intro (vin (show z < 8 by omega)) (And.intro (vin (show z < 8 by omega)) (fun σ2 e2 => ?_))))
      rw [hcz] at e2
      have e2 : σ2 = am_up σ1 125 z (σ1 152 z) := e2
      rw [(c1 z (by omega)).1] at e2
      have fr : ∀ q, ¬ q = 125 → σ2 q = σ1 q := fun q hq => by rw [e2, am_up_ne hq]
      have h9 := ih (z + 1) ls x6 x7 x8 σ2 (by omega) (fun y hy => by rw [fr 152 (by omega), fr 135 (by omega)]; exact c1 y hy) (fun q x1 x2 x3 x4 => by rw [fr q x3]; exact c2 q x1 x2 x3 x4) (by rw [fr 153 (by omega)]; exact c3) (fun y hy => by
        by_cases e : y = z
        · rw [e, e2, up_at]
        · rw [e2, up_ne e]; exact c4 y (by omega))
      rw [nI_succ] at h9
      exact h9
  have k90 : ∀ m row (ls : Int32) (x6 x7 x8 : Option Value) (σ1 : am_Sg), row + m = 10 ^ K 0 2 → (∀ z, z < K 0 2 → σ1 152 z = nI (K 7 z) ∧ σ1 135 z = 0) → (∀ q, ¬ q = 152 → ¬ q = 153 → ¬ q = 125 → ¬ (135 ≤ q ∧ q ≤ 139) → σ1 q = σ q) → ((row = 0 ∧ ls = -9) ∨ (0 < row ∧ ls = nI (GG K u (K 0 2) 0 row (10000, 0)).1 ∧ (GG K u (K 0 2) 0 row (10000, 0)).1 ≤ 9999 ∧ ∀ z, z < K 0 2 → σ1 153 z = nI (hd (K 0 2) (GG K u (K 0 2) 0 row (10000, 0)).2 z))) → Wb 90 [some (.ref 116), some (.int (nI u)), some (.int k), some (.int (nI (10 ^ K 0 2))), some (.int ls), some (.int (nI row)), x6, x7, x8] [] nf σ1 (tauY 0 lf) := by
    intro m
    induction m with
    | zero =>
      intro row ls x6 x7 x8 σ1 hr c1 c2 c3
      have hr : row = 10 ^ K 0 2 := by omega
      subst hr
      exact hs (fun p => Nat.beq p 209) 80 90 _ _ _ _ _ (vc_t (nI_le (Nat.le_refl _) (by omega)) (k209 (K 0 2) 0 ls x6 x7 x8 σ1 (by omega) c1 c2 c3 (fun y hy => absurd hy (Nat.not_lt_zero y))))
    | succ m ih =>
      intro row ls x6 x7 x8 σ1 hr c1 c2 c3
      have eO1 : σ1 116 7 = nI (K 0 2) := by rw [c2 116 (by omega) (by omega) (by omega) (by omega)]; exact eO
      have sl := Sp_le (K := K) (f := u) (O := K 0 2) (row := row)
      have eG : GG K u (K 0 2) 0 (row + 1) (10000, 0) = stp K u (K 0 2) row (GG K u (K 0 2) 0 row (10000, 0)) := by
        show stp K u (K 0 2) (0 + row) _ = _
        rw [Nat.zero_add]
      have k171 : ∀ n z (y6 : Option Value) (y7 : Int32) (σ4 : am_Sg), z + n = K 0 2 → (∀ z, z < K 0 2 → σ4 152 z = nI (K 7 z) ∧ σ4 135 z = 0) → (∀ q, ¬ q = 152 → ¬ q = 153 → ¬ q = 125 → ¬ (135 ≤ q ∧ q ≤ 139) → σ4 q = σ q) → (∀ y, y < K 0 2 → σ4 125 y = nI (hd (K 0 2) row y)) → (∀ y, y < z → σ4 153 y = nI (hd (K 0 2) row y)) → stp K u (K 0 2) row (GG K u (K 0 2) 0 row (10000, 0)) = (Sp K u (K 0 2) row, row) → Wb 171 [some (.ref 116), some (.int (nI u)), some (.int k), some (.int (nI (10 ^ K 0 2))), some (.int (nI (Sp K u (K 0 2) row))), some (.int (nI row)), y6, some (.int y7), some (.int (nI z))] [] nf σ4 (tauY 0 lf) := by
        intro n
        induction n with
        | zero =>
          intro z y6 y7 σ4 hz d1 d2 d3 d4 d5
          have eO4 : σ4 116 7 = nI (K 0 2) := by rw [d2 116 (by omega) (by omega) (by omega) (by omega)]; exact eO
          have h9 := ih (row + 1) (nI (Sp K u (K 0 2) row)) y6 (some (.int y7)) (some (.int (nI z))) σ4 (by omega) d1 d2 (Or.inr ⟨by omega, by rw [eG, d5], by rw [eG, d5]; show Sp K u (K 0 2) row ≤ 9999; omega, fun y hy => by rw [eG, d5]; exact d4 y (by omega)⟩)
          rw [nI_succ] at h9
          exact hs (fun p => Nat.beq p 90 || Nat.beq p 171) 80 171 _ _ _ _ _ (vc_t (by rw [eO4]; exact nI_le (by omega) (by omega)) h9)
        | succ n ih4 =>
          intro z y6 y7 σ4 hz d1 d2 d3 d4 d5
          have eO4 : σ4 116 7 = nI (K 0 2) := by rw [d2 116 (by omega) (by omega) (by omega) (by omega)]; exact eO
          have hcz : (nI z).toNatClampNeg = z := nI_clamp (by omega)
          refine hs (fun p => Nat.beq p 90 || Nat.beq p 171) 80 171 _ _ _ _ _ (vc_f (by rw [eO4]; exact nI_ge (by omega) (by omega)) (And.intro (vin (show z < 8 by omega)) (And.intro (vin (show z < 8 by omega)) (fun σ5 e5 => ?_))))
          rw [hcz] at e5
          have e5 : σ5 = am_up σ4 153 z (σ4 125 z) := e5
          rw [d3 z (by omega)] at e5
          have fr : ∀ q, ¬ q = 153 → σ5 q = σ4 q := fun q hq => by rw [e5, am_up_ne hq]
          have h9 := ih4 (z + 1) y6 y7 σ5 (by omega) (fun y hy => by rw [fr 152 (by omega), fr 135 (by omega)]; exact d1 y hy) (fun q x1 x2 x3 x4 => by rw [fr q x2]; exact d2 q x1 x2 x3 x4) (fun y hy => by rw [fr 125 (by omega)]; exact d3 y hy) (fun y hy => by
            by_cases e : y = z
            · rw [e, e5, up_at]
            · rw [e5, up_ne e]; exact d4 y (by omega)) d5
          rw [nI_succ] at h9
          exact h9
      have k108 : ∀ n i (σ2 : am_Sg), i + n = K 0 2 → (∀ z, K 0 2 - i ≤ z → z < K 0 2 → σ2 125 z = nI (hd (K 0 2) row z)) → (∀ q, ¬ q = 125 → σ2 q = σ1 q) → Wb 108 [some (.ref 116), some (.int (nI u)), some (.int k), some (.int (nI (10 ^ K 0 2))), some (.int ls), some (.int (nI row)), some (.int (nI (row / 10 ^ i))), some (.int (nI (K 0 2 - i) - 1)), x8] [] nf σ2 (tauY 0 lf) := by
        intro n
        induction n with
        | zero =>
          intro i σ2 hi d1 d2
          have hdd : ∀ z, z < K 0 2 → σ2 125 z = nI (hd (K 0 2) row z) := fun z hz => d1 z (by omega) hz
          have hR2 : RepM σ2 (hK K (hd (K 0 2) row)) := hR.hts (fun q h1 h2 => by rw [d2 q h2]; exact c2 q (by omega) (by omega) h2 (by omega)) hdd
          have hW2 : WfK (hK K (hd (K 0 2) row)) := wf_hK hWf (fun z _ => hd_le _ _ _)
          have h02 : hK K (hd (K 0 2) row) 0 = K 0 := hK_ne (by omega)
          refine hs (fun p => Nat.beq p 90 || Nat.beq p 171) 80 108 _ _ _ _ _ (vc_t (by rw [show K 0 2 - i = 0 by omega]; decide) ⟨rfl, hn, 0, lf, u, 0, fun _ => 0, hK K (hd (K 0 2) row), rfl, rfl, hR2, hW2, fun z hz => ?_, by omega, by omega, fun σ3 h3 => ?_⟩)
          · rw [h02] at hz
            rw [d2 135 (by omega)]
            exact ⟨(c1 z hz).2, Nat.zero_le _⟩
          have fr3 := h3.2.2
          have tk3 : ∀ z, z < K 0 2 → σ3 139 z = nI (tkE K z (est K u (hd (K 0 2) row) z).1 (est K u (hd (K 0 2) row) z).2.1 (hd (K 0 2) row z)) ∧ tkE K z (est K u (hd (K 0 2) row) z).1 (est K u (hd (K 0 2) row) z).2.1 (hd (K 0 2) row z) ≤ 9999 := fun z hz => by
            have a1 := h3.2.1 z (by rw [fo_end, h02]; exact hz)
            rw [s_ta_hK hW2 hz] at a1
            have a2 := tkE_le (K := K) (o := z) (c := (est K u (hd (K 0 2) row) z).1) (l := (est K u (hd (K 0 2) row) z).2.1) (v := hd (K 0 2) row z)
            have a3 := (est_le (K := K) (f := u) (h := hd (K 0 2) row) z).1
            exact ⟨a1, by omega⟩
          have e3 : σ3 116 = σ 116 := by rw [fr3 116 (by omega), d2 116 (by omega)]; exact c2 116 (by omega) (by omega) (by omega) (by omega)
          have eSp : mxT (fun z => tkE K z (est K u (hd (K 0 2) row) z).1 (est K u (hd (K 0 2) row) z).2.1 (hd (K 0 2) row z)) (K 0 2) - mnT (fun z => tkE K z (est K u (hd (K 0 2) row) z).1 (est K u (hd (K 0 2) row) z).2.1 (hd (K 0 2) row z)) (K 0 2) = Sp K u (K 0 2) row := by
            unfold Sp
            rw [(mm_est (K := K) (f := u) (h := hd (K 0 2) row) (K 0 2)).1, (mm_est (K := K) (f := u) (h := hd (K 0 2) row) (K 0 2)).2]
          refine ⟨rfl, hn, lf, K 0 2, _, rfl, rfl, by rw [e3]; exact eO, g3.1, hO8, tk3, ?_⟩
          rw [eSp]
          have E3 : ∀ z, z < K 0 2 → σ3 152 z = nI (K 7 z) ∧ σ3 135 z = 0 := fun z hz => by
            rw [fr3 152 (by omega), fr3 135 (by omega), d2 152 (by omega), d2 135 (by omega)]; exact c1 z hz
          have F3 : ∀ q, ¬ q = 152 → ¬ q = 153 → ¬ q = 125 → ¬ (135 ≤ q ∧ q ≤ 139) → σ3 q = σ q := fun q x1 x2 x3 x4 => by
            rw [fr3 q (by omega), d2 q x3]; exact c2 q x1 x2 x3 x4
          have D3 : ∀ y, y < K 0 2 → σ3 125 y = nI (hd (K 0 2) row y) := fun y hy => by rw [fr3 125 (by omega)]; exact hdd y hy
          rcases c3 with ⟨r0, e9⟩ | ⟨r0, e9, b9, q9⟩
          · subst e9
            refine vc_t rfl (k171 (K 0 2) 0 _ _ σ3 (by omega) E3 F3 D3 (fun y hy => absurd hy (Nat.not_lt_zero y)) ?_)
            subst r0
            show (if Sp K u (K 0 2) 0 < 10000 then _ else _) = _
            rw [if_pos (by omega)]
          · subst e9
            refine vc_f (nI_g9 (by omega)) (vc_if (fun c => ?_) (fun c => k171 (K 0 2) 0 _ _ σ3 (by omega) E3 F3 D3 (fun y hy => absurd hy (Nat.not_lt_zero y)) ?_))
            · have c := (nI_leI (by omega) (by omega)).mp c
              have e5 : stp K u (K 0 2) row (GG K u (K 0 2) 0 row (10000, 0)) = (GG K u (K 0 2) 0 row (10000, 0)) := by unfold stp; rw [if_neg (by omega)]
              have h9 := ih (row + 1) (nI (GG K u (K 0 2) 0 row (10000, 0)).1) (some (.int (nI (row / 10 ^ i)))) (some (.int (nI (Sp K u (K 0 2) row)))) x8 σ3 (by omega) E3 F3 (Or.inr ⟨by omega, by rw [eG, e5], by rw [eG, e5]; exact b9, fun y hy => by rw [eG, e5, fr3 153 (by omega), d2 153 (by omega)]; exact q9 y hy⟩)
              rw [nI_succ] at h9
              exact h9
            · have c : ¬ (GG K u (K 0 2) 0 row (10000, 0)).1 ≤ Sp K u (K 0 2) row := fun q => c (nI_le q (by omega))
              unfold stp
              rw [if_pos (by omega)]
        | succ n ihd =>
          intro i σ2 hi d1 d2
          have e1 : nI (K 0 2 - i) - 1 = nI (K 0 2 - (i + 1)) := by
            rw [show K 0 2 - (i + 1) = K 0 2 - i - 1 by omega]
            exact pk_sub (b := 1) (by omega)
          have hcl : (nI (K 0 2 - (i + 1))).toNatClampNeg = K 0 2 - (i + 1) := nI_clamp (by omega)
          have rb : row / 10 ^ i ≤ 10000 := Nat.le_trans (Nat.div_le_self _ _) (by omega)
          rw [e1]
          refine hs (fun p => Nat.beq p 108) 80 108 _ _ _ _ _ (vc_f (nI_pos (by omega)) (And.intro (by decide) (And.intro (vin (show K 0 2 - (i + 1) < 8 by omega)) (fun σ3 e3 => And.intro (by decide) ?_))))
          rw [hcl, show (10 : Int32) = nI 10 from rfl, pk_rem (by omega) (by omega) (by omega)] at e3
          have e3 : σ3 = am_up σ2 125 (K 0 2 - (i + 1)) (nI (row / 10 ^ i % 10)) := e3
          have h9 := ihd (i + 1) σ3 (by omega) (fun z h1 h2 => by
            by_cases e : z = K 0 2 - (i + 1)
            · rw [e, e3, up_at]
              unfold hd
              rw [show K 0 2 - 1 - (K 0 2 - (i + 1)) = i by omega]
            · rw [e3, up_ne e]; exact d1 z (by omega) h2) (fun q hq => by rw [e3, am_up_ne hq, d2 q hq])
          have e4 : nI (row / 10 ^ i) / 10 = nI (row / 10 ^ (i + 1)) := by
            rw [show (10 : Int32) = nI 10 from rfl, pk_div (by omega) (by omega) (by omega), Nat.div_div_eq_div_mul, ← Nat.pow_succ]
          rw [← e4, Int32.sub_eq_add_neg] at h9
          exact h9
      have h9 := k108 (K 0 2) 0 σ1 (by omega) (fun z h1 h2 => absurd h1 (by omega)) (fun _ _ => rfl)
      rw [Nat.pow_zero, Nat.div_one, Nat.sub_zero, ← eO1] at h9
      exact hs (fun p => Nat.beq p 108) 80 90 _ _ _ _ _ (vc_f (nI_ge (by omega) (by omega)) h9)
  have k41 : ∀ r o (σ1 : am_Sg), o + r = K 0 2 → (∀ z, z < o → σ1 152 z = nI (K 7 z) ∧ σ1 135 z = 0) → (∀ q, ¬ q = 152 → ¬ q = 135 → σ1 q = σ q) → Wb 41 [some (.ref 116), some (.int (nI u)), some (.int k), some (.int (nI (10 ^ o))), some (.int (nI o)), none, none, none, none] [] nf σ1 (tauY 0 lf) := by
    intro r
    induction r with
    | zero =>
      intro o σ1 ho c1 c2
      have ho : o = K 0 2 := by omega
      subst ho
      have eO1 : σ1 116 7 = nI (K 0 2) := by rw [c2 116 (by omega) (by omega)]; exact eO
      exact hs (fun p => Nat.beq p 90) 80 41 _ _ _ _ _ (vc_t (by rw [eO1]; exact nI_le (Nat.le_refl _) (by omega)) (k90 (10 ^ K 0 2) 0 (-9) none none none σ1 (by omega) c1 (fun q x1 x2 x3 x4 => c2 q x1 (by omega)) (Or.inl ⟨rfl, rfl⟩)))
    | succ r ih =>
      intro o σ1 ho c1 c2
      have eO1 : σ1 116 7 = nI (K 0 2) := by rw [c2 116 (by omega) (by omega)]; exact eO
      have hco : (nI o).toNatClampNeg = o := nI_clamp (by omega)
      refine hs (fun p => Nat.beq p 41) 80 41 _ _ _ _ _ (vc_f (by rw [eO1]; exact nI_ge (by omega) (by omega)) (And.intro (vin (show o < 8 by omega)) (And.intro (vin (show o < 8 by omega)) (fun σ2 e2 => And.intro (vin (show o < 8 by omega)) (fun σ3 e3 => ?_)))))
      rw [hco] at e2 e3
      have e2 : σ2 = am_up σ1 152 o (σ1 125 o) := e2
      have v7 : σ1 125 o = nI (K 7 o) := by rw [c2 125 (by omega) (by omega)]; exact hR.2.2.2.2.2.2 2 (by omega) o (by omega)
      rw [v7] at e2
      have e3 : σ3 = am_up σ2 135 o 0 := e3
      have h9 := ih (o + 1) σ3 (by omega) (fun z hz => by
        by_cases e : z = o
        · refine ⟨by rw [e, e3, up_rn (by omega), e2, up_at], by rw [e, e3, up_at]⟩
        · refine ⟨by rw [e3, up_rn (by omega), e2, up_ne e]; exact (c1 z (by omega)).1, by rw [e3, up_ne e, e2, up_rn (by omega)]; exact (c1 z (by omega)).2⟩) (fun q x1 x2 => by rw [e3, am_up_ne x2, e2, am_up_ne x1, c2 q x1 x2])
      rw [Nat.pow_succ, nI_succ, ← pk_mul] at h9
      exact h9
  exact k41 (K 0 2) 0 σ (by omega) (fun z hz => absurd hz (Nat.not_lt_zero z)) (fun _ _ _ => rfl))
