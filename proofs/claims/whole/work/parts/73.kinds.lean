def C_takeBK : am_C := fun av n σ τ nf P => nf = n ∧ 155 ≤ n ∧ ∃ (lf o x Hn : Nat) (K Q : KT), τ = tauY 0 lf ∧ av = [.ref 43, .ref 1, .int (nI o)] ∧ o < K 0 2 ∧ WfK K ∧ RepX σ 1 K ∧ WH K Q Hn ∧ RepH σ Q Hn ∧ WlC σ K Q Hn x o ∧
  ∀ σ', (∀ h, h < Hn → K 5 o ≤ Q 1 h → ∀ k, k < 3 → σ' (79 + 3 * o + k) h = nI (wtr K Q x o h - s_tk K o k (lvl K Q x o h) (wtr K Q x o h) (Q 3 h))) → (∀ q, ¬ (79 + 3 * o ≤ q ∧ q ≤ 81 + 3 * o) → σ' q = σ q) → P none σ' τ
set_option maxRecDepth 100000 in
theorem M_takeBK (d : Nat) : am_Met (d + 2) 612 C_takeBK := am_meth (own0 := "CanalEnd$Worlds") 612 (d + 1) 155 T_X6_takeByKind (fun y => bif Nat.beq y 7 then C_takenFrom else (am_no)) C_takeBK rfl F_X6_takeByKind rfl (by decide +kernel) Tc_X6_takeByKind (fun y => am_g (M_takenFrom (d + 0)) (am_no_met)) (by
  intro av n σ τ nf P hnf hC
  obtain ⟨rfl, hn, lf, o, x, Hn, K, Q, rfl, rfl, ho, hW, hR, hH, hRH, hwl, hP⟩ := hC
  refine ⟨hn, rfl, Nat.le_of_ble_eq_true rfl, fun Wb hs => ?_⟩
  have hM := hW.2.1
  have hO8 := hW.2.2.1
  obtain ⟨w1, w2⟩ := hH.le
  obtain ⟨a59, k59, l59⟩ := ok59 o (by omega)
  obtain ⟨a69, k69, l69⟩ := ok69 o (by omega)
  have hco : (nI o).toNatClampNeg = o := nI_clamp (by omega)
  have tN : tom K o = K 5 o := if_pos ho
  have q5 := hW.2.2.2.2.2.2.2.2.2 o ho
  have i3 : ∀ k, (3 : Int32) * nI o + nI k = nI (3 * o + k) := fun k => by rw [show (3 : Int32) = nI 3 from rfl, pk_mul, nI_add]
  have k2 : ∀ m h (x4 x5 x6 x7 : Option Value) (σ1 : am_Sg), h + m = Hn → (∀ h', h' < h → K 5 o ≤ Q 1 h' → ∀ k, k < 3 → σ1 (79 + 3 * o + k) h' = nI (wtr K Q x o h' - s_tk K o k (lvl K Q x o h') (wtr K Q x o h') (Q 3 h'))) → (∀ q, ¬ (79 + 3 * o ≤ q ∧ q ≤ 81 + 3 * o) → σ1 q = σ q) → Wb 2 [some (.ref 43), some (.ref 1), some (.int (nI o)), some (.int (nI h)), x4, x5, x6, x7] [] nf σ1 (tauY 0 lf) := by
    intro m
    induction m with
    | zero =>
      intro h x4 x5 x6 x7 σ1 hm g1 g2
      have hm : h = Hn := by omega
      subst hm
      have e5 : σ1 43 5 = nI h := by rw [g2 43 (by omega)]; exact hRH.2.1
      exact hs (fun p => Nat.beq p 2) 80 2 _ _ _ _ _ (vc_t (by rw [e5]; exact nI_le (Nat.le_refl _) (by omega)) (And.intro rfl (hP σ1 g1 g2)))
    | succ m ih =>
      intro h x4 x5 x6 x7 σ1 hm g1 g2
      have hh : h < Hn := by omega
      obtain ⟨b1, b2, b3, b4⟩ := hH.2.2 h hh
      have e5 : σ1 43 5 = nI Hn := by rw [g2 43 (by omega)]; exact hRH.2.1
      have hR1 : RepX σ1 1 K := hR.frame (fun q h1 h2 => g2 q (by omega))
      have e56 : σ1 56 h = nI (Q 1 h) := by rw [g2 56 (by omega)]; exact (hRH.2.2.1 h hh).2.2
      have e6 : σ1 6 o = nI (K 5 o) := hR1.2.2 0 (by omega) o ho
      have hch : (nI h).toNatClampNeg = h := nI_clamp (by omega)
      have vh := fun q (e : am_len q = 11) => vin (j := h) (q := q) (by omega)
      have k45 : ∀ (b : Nat), b ≤ 1 → (b = 1 ↔ K 5 o ≤ Q 1 h) → ∀ r k (x7 : Option Value) (σ2 : am_Sg), k + r = 3 → (∀ h', h' < h → K 5 o ≤ Q 1 h' → ∀ k, k < 3 → σ2 (79 + 3 * o + k) h' = nI (wtr K Q x o h' - s_tk K o k (lvl K Q x o h') (wtr K Q x o h') (Q 3 h'))) → (K 5 o ≤ Q 1 h → ∀ k', k' < k → σ2 (79 + 3 * o + k') h = nI (wtr K Q x o h - s_tk K o k' (lvl K Q x o h) (wtr K Q x o h) (Q 3 h))) → (∀ q, ¬ (79 + 3 * o ≤ q ∧ q ≤ 81 + 3 * o) → σ2 q = σ q) → Wb 45 [some (.ref 43), some (.ref 1), some (.int (nI o)), some (.int (nI h)), some (.int (σ (59 + o) h)), some (.int (nI b)), some (.int (nI k)), x7] [] nf σ2 (tauY 0 lf) := by
        intro b hb1 hbi r
        induction r with
        | zero =>
          intro k x7 σ2 hk f1 f2 f3
          have hk : k = 3 := by omega
          subst hk
          have h9 := ih (h + 1) (some (.int (σ (59 + o) h))) (some (.int (nI b))) (some (.int (nI 3))) x7 σ2 (by omega) (fun h' hh' z1 k hk => by
            by_cases e : h' = h
            · subst e
              exact f2 z1 k hk
            · exact f1 h' (by omega) z1 k hk) f3
          rw [nI_succ] at h9
          exact hs (fun p => Nat.beq p 2 || Nat.beq p 45) 80 45 _ _ _ _ _ (vc_t (by decide) h9)
        | succ r ihk =>
          intro k x7 σ2 hk f1 f2 f3
          obtain ⟨a79, k79, l79⟩ := ok79 (3 * o + k) (by omega)
          rw [show 79 + (3 * o + k) = 79 + 3 * o + k by omega] at a79 k79 l79
          -- what is left is written
          have wr : ∀ (v t : Int32), (K 5 o ≤ Q 1 h → v = nI (wtr K Q x o h - s_tk K o k (lvl K Q x o h) (wtr K Q x o h) (Q 3 h))) → ∀ σ3, σ3 = am_up σ2 (79 + 3 * o + k) h v → Wb 45 [some (.ref 43), some (.ref 1), some (.int (nI o)), some (.int (nI h)), some (.int (σ (59 + o) h)), some (.int (nI b)), some (.int (nI k + 1)), some (.int t)] [] nf σ3 (tauY 0 lf) := by
            intro v t hv σ3 e3
            rw [← nI_succ]
            refine ihk (k + 1) _ σ3 (by omega) (fun h' hh' z1 k' hk' => ?_) (fun z1 k' hk' => ?_) (fun q hq => by rw [e3, am_up_ne (by omega)]; exact f3 q hq)
            · by_cases e : k' = k
              · subst e
                rw [e3, up_ne (by omega)]
                exact f1 h' hh' z1 k' hk'
              · rw [e3, up_rn (by omega)]
                exact f1 h' hh' z1 k' hk'
            · by_cases e : k' = k
              · subst e
                rw [e3, up_at]
                exact hv z1
              · rw [e3, up_rn (by omega)]
                exact f2 z1 k' (by omega)
          refine hs (fun p => Nat.beq p 45) 80 45 _ _ _ _ _ (vc_f (nI_ge (b := 3) (by omega) (by omega)) (vc_if (fun c => ?_) (fun c => ?_)))
          · have c : b = 0 := nI_inj (b := 0) (by omega) (by omega) c
            refine And.intro (by rw [i3]; exact vin (show 3 * o + k < 24 by omega)) ?_
            rw [i3, nI_clamp (by omega)]
            refine aal (z := 79 + 3 * o + k) (by rw [t78 (by omega)]; omega) (vc_gd (gdr a79 k79) (And.intro (vh _ l79) (fun σ3 e3 => ?_)))
            rw [hch] at e3
            exact wr _ 0 (fun z1 => absurd (hbi.mpr z1) (by omega)) σ3 e3
          · have c : b = 1 := by
              have : ¬ b = 0 := fun q => c (by rw [q]; rfl)
              omega
            have c1 := hbi.mp c
            obtain ⟨v1, v2⟩ := hwl h hh (by rw [tN]; exact c1)
            have lw : wtr K Q x o h ≤ 9999 := Nat.le_trans watS_le (cs_le hH hh)
            have ll : lvl K Q x o h ≤ 99999 := lv_cs hW b2 ho
            have hR2 : RepX σ2 1 K := hR.frame (fun q h1 h2 => f3 q (by omega))
            refine And.intro (vin (show o < 9 by omega)) ?_
            rw [hco]
            refine aal (t68 (by omega)) (vc_gd (gdr a69 k69) (And.intro (vh _ l69) (And.intro (vh 55 rfl) ?_)))
            rw [hch, f3 (69 + o) (by omega), v2, f3 55 (by omega), (hRH.2.2.1 h hh).2.1]
            refine ⟨rfl, hn, 0, lf, 1, wtr K Q x o h, o, k, lvl K Q x o h, Q 3 h, K, rfl, by rw [v1], by decide, hR2, hW, ho, lw, by omega, ll, b3, ?_⟩
            refine And.intro (by rw [i3]; exact vin (show 3 * o + k < 24 by omega)) ?_
            rw [i3, nI_clamp (by omega)]
            refine aal (z := 79 + 3 * o + k) (by rw [t78 (by omega)]; omega) (vc_gd (gdr a79 k79) (And.intro (vh _ l79) (fun σ3 e3 => ?_)))
            rw [hch] at e3
            exact wr _ _ (fun z1 => by rw [v1, pk_sub (s_tk_le _ _ _ _ _ _)]) σ3 e3
      refine hs (fun p => Nat.beq p 45) 80 2 _ _ _ _ _ (vc_f (by rw [e5]; exact nI_ge (by omega) (by omega)) (And.intro (vin (show o < 9 by omega)) ?_))
      rw [hco]
      refine aal (t58 (by omega)) (vc_gd (gdr a59 k59) (And.intro (vh _ l59) (And.intro (vh 56 rfl) (And.intro (vin (show o < 8 by omega)) ?_))))
      rw [hch, e56, hco, e6, g2 (59 + o) (by omega)]
      refine vc_if (fun c => ?_) (fun c => ?_)
      · have c := (nI_ltI (by omega) (by omega)).mp c
        exact k45 0 (by omega) ⟨fun q => by omega, fun q => by omega⟩ 3 0 x7 σ1 rfl g1 (fun _ k' hk' => absurd hk' (Nat.not_lt_zero k')) g2
      · have c : ¬ Q 1 h < K 5 o := fun q => c (nI_lt q (by omega))
        exact k45 1 (by omega) ⟨fun q => by omega, fun q => rfl⟩ 3 0 x7 σ1 rfl g1 (fun _ k' hk' => absurd hk' (Nat.not_lt_zero k')) g2
  exact hs (fun p => Nat.beq p 2) 80 0 _ _ _ _ _ (k2 Hn 0 none none none none σ (by omega) (fun h' hh' => absurd hh' (Nat.not_lt_zero h')) (fun _ _ => rfl)))
def C_isSame : am_C := fun av n σ τ nf P => nf = n ∧ 155 ≤ n ∧ ∃ (lf a b Hn : Nat), τ = tauY 0 lf ∧ av = [.ref 43, .ref a, .ref b] ∧ (79 ≤ a ∧ a ≤ 102) ∧ (79 ≤ b ∧ b ≤ 102) ∧ σ 43 5 = nI Hn ∧ Hn ≤ 11 ∧ ((∀ h, h < Hn → σ a h = σ b h) → P (some (.int 1)) σ τ) ∧ (P (some (.int 0)) σ τ)
set_option maxRecDepth 100000 in
theorem M_isSame (d : Nat) : am_Met (d + 1) 614 C_isSame := am_meth (own0 := "CanalEnd$Worlds") 614 (d + 0) 155 T_X6_isSame (fun y => am_no) C_isSame rfl F_X6_isSame rfl (by decide +kernel) Tc_X6_isSame (fun y => am_no_met) (by
  intro av n σ τ nf P hnf hC
  obtain ⟨rfl, hn, lf, a, b, Hn, rfl, rfl, ha, hb, e5, hH, hP, hQ⟩ := hC
  refine ⟨hn, rfl, Nat.le_of_ble_eq_true rfl, fun Wb hs => ?_⟩
  obtain ⟨ga, la⟩ := gdc (q := a) (n := nf) (Or.inr ha)
  obtain ⟨gb, lb⟩ := gdc (q := b) (n := nf) (Or.inr hb)
  have k2 : ∀ m h, h + m = Hn → (∀ h', h' < h → σ a h' = σ b h') → Wb 2 [some (.ref 43), some (.ref a), some (.ref b), some (.int (nI h))] [] nf σ (tauY 0 lf) := by
    intro m
    induction m with
    | zero =>
      intro h hm g
      have hm : h = Hn := by omega
      subst hm
      exact hs (fun p => Nat.beq p 2) 60 2 _ _ _ _ _ (vc_t (by rw [e5]; exact nI_le (Nat.le_refl _) (by omega)) (And.intro (Or.inr rfl) (And.intro rfl (hP g))))
    | succ m ih =>
      intro h hm g
      have hch : (nI h).toNatClampNeg = h := nI_clamp (by omega)
      have vh := fun q (e : am_len q = 11) => vin (j := h) (q := q) (by omega)
      refine hs (fun p => Nat.beq p 2) 60 2 _ _ _ _ _ (vc_f (by rw [e5]; exact nI_ge (by omega) (by omega)) (vc_gd ga (And.intro (vh a la) (vc_gd gb (And.intro (vh b lb) (vc_if (fun c => ?_) (fun c => And.intro (Or.inl rfl) (And.intro rfl hQ))))))))
      rw [hch] at c
      have h9 := ih (h + 1) (by omega) (fun h' hh' => by
        by_cases e : h' = h
        · rw [e]; exact c
        · exact g h' (by omega))
      rw [nI_succ] at h9
      exact h9
  exact hs (fun p => Nat.beq p 2) 60 0 _ _ _ _ _ (k2 Hn 0 (by omega) (fun h' hh' => absurd hh' (Nat.not_lt_zero h'))))
def C_alikeF : am_C := fun av n σ τ nf P => nf = n ∧ 155 ≤ n ∧ ∃ (lf o k Hn : Nat), τ = tauY 0 lf ∧ av = [.ref 43, .int (nI o), .int (nI k)] ∧ o < 8 ∧ k < 3 ∧ σ 43 5 = nI Hn ∧ Hn ≤ 11 ∧ ∀ a, 1 ≤ a → k + a ≤ 3 → (∀ i, i < a → ∀ h, h < Hn → σ (79 + 3 * o + k) h = σ (79 + 3 * o + (k + i)) h) → P (some (.int (nI a))) σ τ
set_option maxRecDepth 100000 in
theorem M_alikeF (d : Nat) : am_Met (d + 2) 613 C_alikeF := am_meth (own0 := "CanalEnd$Worlds") 613 (d + 1) 155 T_X6_alikeFrom (fun y => bif Nat.beq y 614 then C_isSame else (am_no)) C_alikeF rfl F_X6_alikeFrom rfl (by decide +kernel) Tc_X6_alikeFrom (fun y => am_g (M_isSame (d + 0)) (am_no_met)) (by
  intro av n σ τ nf P hnf hC
  obtain ⟨rfl, hn, lf, o, k, Hn, rfl, rfl, ho, hk, e5, hH, hP⟩ := hC
  refine ⟨hn, rfl, Nat.le_of_ble_eq_true rfl, fun Wb hs => ?_⟩
  have i3 : ∀ k, (3 : Int32) * nI o + nI k = nI (3 * o + k) := fun k => by rw [show (3 : Int32) = nI 3 from rfl, pk_mul, nI_add]
  have k19 : ∀ r a, k + a + r = 3 → 1 ≤ a → (∀ i, i < a → ∀ h, h < Hn → σ (79 + 3 * o + k) h = σ (79 + 3 * o + (k + i)) h) → Wb 19 [some (.ref 43), some (.int (nI o)), some (.int (nI k)), some (.ref (79 + 3 * o + k)), some (.int (nI a)), some (.int (nI (k + a)))] [] nf σ (tauY 0 lf) := by
    intro r
    induction r with
    | zero =>
      intro a ha h1 g
      exact hs (fun p => Nat.beq p 19) 60 19 _ _ _ _ _ (vc_t (nI_le (a := 3) (by omega) (by omega)) (And.intro rfl (hP a h1 (by omega) g)))
    | succ r ih =>
      intro a ha h1 g
      refine hs (fun p => Nat.beq p 19) 60 19 _ _ _ _ _ (vc_f (nI_ge (b := 3) (by omega) (by omega)) (And.intro (by rw [i3]; exact vin (show 3 * o + (k + a) < 24 by omega)) ?_))
      rw [i3, nI_clamp (by omega)]
      refine aal (z := 79 + 3 * o + (k + a)) (by rw [t78 (by omega)]; omega) ⟨rfl, hn, lf, 79 + 3 * o + k, 79 + 3 * o + (k + a), Hn, rfl, rfl, by omega, by omega, e5, hH, fun c => vc_f (by decide) ?_, vc_t rfl (And.intro rfl (hP a h1 (by omega) g))⟩
      have h9 := ih (a + 1) (by omega) (by omega) (fun i hi h hh => by
        by_cases e : i = a
        · rw [e]; exact c h hh
        · exact g i (by omega) h hh)
      rw [← Nat.add_assoc, nI_succ, nI_succ] at h9
      exact h9
  have h9 := k19 (3 - (k + 1)) 1 (by omega) (Nat.le_refl _) (fun i hi h hh => by rw [show k + i = k by omega])
  rw [nI_succ k] at h9
  refine hs (fun p => Nat.beq p 19) 60 0 _ _ _ _ _ (And.intro (by rw [i3]; exact vin (show 3 * o + k < 24 by omega)) ?_)
  rw [i3, nI_clamp (by omega)]
  exact aal (z := 79 + 3 * o + k) (by rw [t78 (by omega)]; omega) h9)
