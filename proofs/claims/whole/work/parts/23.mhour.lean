/-- the reference's cells hold the canal K -/
def RepM (σ : am_Sg) (K : KT) : Prop :=
  σ 116 5 = nI (K 0 0) ∧ σ 116 6 = nI (K 0 1) ∧ σ 116 7 = nI (K 0 2) ∧ σ 116 17 = nI (K 0 3) ∧ (∀ j, j < K 0 1 → σ 120 j = nI (K 1 j) ∧ σ 121 j = nI (K 2 j)) ∧ (∀ j, j ≤ K 0 1 → σ 122 j = nI (fo K j)) ∧ (∀ f, f < 6 → ∀ o, o < K 0 2 → σ (123 + f) o = nI (K (5 + f) o))
theorem RepM.frame {σ σ' : am_Sg} {K : KT} (h : RepM σ K) (hf : ∀ q, 116 ≤ q → q ≤ 128 → σ' q = σ q) : RepM σ' K := by
  obtain ⟨h1, h2, h3, h4, h5, h6, h7⟩ := h
  refine ⟨by rw [hf _ (by omega) (by omega)]; exact h1, by rw [hf _ (by omega) (by omega)]; exact h2, by rw [hf _ (by omega) (by omega)]; exact h3, by rw [hf _ (by omega) (by omega)]; exact h4, fun j hj => ?_, fun j hj => ?_, fun f hf9 o ho => ?_⟩
  · rw [hf 120 (by omega) (by omega), hf 121 (by omega) (by omega)]; exact h5 j hj
  · rw [hf 122 (by omega) (by omega)]; exact h6 j hj
  · rw [hf _ (by omega) (by omega)]; exact h7 f hf9 o ho
def Knd (σ : am_Sg) (K : KT) (kd : Nat → Nat) : Prop := ∀ o, o < K 0 2 → σ 135 o = nI (kd o) ∧ kd o ≤ 2
def HrM (σ0 σ : am_Sg) (K : KT) (kd : Nat → Nat) (nt f j : Nat) : Prop :=
  (∀ i, i < j → σ 136 i = nI (s_sp K i (s_in K kd nt f i)) ∧ σ 137 i = nI (s_le K kd nt f i) ∧ σ 138 i = nI (s_in K kd nt f (i + 1))) ∧ (∀ o, o < fo K j → σ 139 o = nI (s_ta K kd nt f o)) ∧ (∀ q, ¬ (136 ≤ q ∧ q ≤ 139) → σ q = σ0 q)
def C_mhour : am_C := fun av n σ τ nf P => nf = n ∧ 155 ≤ n ∧ ∃ (rw lf f nt : Nat) (kd : Nat → Nat) (K : KT), τ = tauY rw lf ∧ av = [.ref 116, .int (nI f), .int (nI nt)] ∧ RepM σ K ∧ WfK K ∧ Knd σ K kd ∧ f ≤ 9999 ∧ nt ≤ 1 ∧
  ∀ σ', HrM σ σ' K kd nt f (K 0 1) → P none σ' τ
theorem mh_ht : ∀ h, h < 10 → ¬ nI h ≤ 3 → nI h - 3 = nI (h - 3) := by decide +kernel
theorem mh_h0 : ∀ h, h < 10 → nI h ≤ 3 → (0 : Int32) = nI (h - 3) := by decide +kernel
set_option maxHeartbeats 4000000 in
set_option maxRecDepth 100000 in
theorem M_mhour (d : Nat) : am_Met (d + 1) 825 C_mhour := am_meth (own0 := "CanalEndModel") 825 (d + 0) 155 T_X8_hour (fun y => am_no) C_mhour rfl F_X8_hour rfl (by decide +kernel) Tc_X8_hour (fun y => am_no_met) (by
  intro av n σ τ nf P hnf hC
  obtain ⟨rfl, hn, rw, lf, f, nt, kd, K, rfl, rfl, hR, hK, hkd, hf, hnt, hP⟩ := hC
  refine ⟨hn, rfl, Nat.le_of_ble_eq_true rfl, fun Wb hs => ?_⟩
  have hM : K 0 1 ≤ 10 := hK.2.1
  have hO : K 0 2 ≤ 8 := hK.2.2.1
  have inner : ∀ (m j i : Nat) (σ1 : am_Sg) (x6 x7 : Option Value), j < K 0 1 → K 4 j - i = m → i ≤ K 4 j →
      (∀ i, i < j → σ1 136 i = nI (s_sp K i (s_in K kd nt f i)) ∧ σ1 137 i = nI (s_le K kd nt f i) ∧ σ1 138 i = nI (s_in K kd nt f (i + 1))) →
      σ1 136 j = nI (s_sp K j (s_in K kd nt f j)) → σ1 137 j = nI (s_le K kd nt f j) → (∀ o, o < K 3 j + i → σ1 139 o = nI (s_ta K kd nt f o)) → (∀ q, ¬ (136 ≤ q ∧ q ≤ 139) → σ1 q = σ q) →
      (∀ (σ2 : am_Sg) (x5 x6 x7 : Option Value), HrM σ σ2 K kd nt f (j + 1) → Wb 5 [some (.ref 116), some (.int (nI f)), some (.int (nI nt)), some (.int (nI (s_in K kd nt f (j + 1)))), some (.int (nI (j + 1))), x5, x6, x7] [] nf σ2 (tauY rw lf)) →
      Wb 76 [some (.ref 116), some (.int (nI f)), some (.int (nI nt)), some (.int (nI (s_ou K kd nt (s_le K kd nt f j) (K 3 j) (s_af K kd nt f j) i))), some (.int (nI j)), some (.int (nI (K 3 j + i))), x6, x7] [] nf σ1 (tauY rw lf) := by
    intro m
    induction m with
    | zero =>
      intro j i σ1 x6 x7 hj hm hi r2 r3 r4 r5 r8 hgo
      have ei : i = K 4 j := by omega
      subst ei
      have hb := (hK.2.2.2.2.2.2.1 j hj).2.2
      have a3 : σ1 122 (j + 1) = nI (K 3 j + K 4 j) := by rw [r8 122 (by omega), hR.2.2.2.2.2.1 (j + 1) (by omega), fo_succ hK hj]
      refine hs (fun p => Nat.beq p 5 || Nat.beq p 76) 60 76 _ _ _ _ _ ?_
      refine And.intro (by rw [nI_1]; exact vin (show j + 1 < 11 by omega)) (vc_t ?_ (And.intro (vin (show j < 10 by omega)) (fun σ2 e2 => ?_)))
      · rw [nI_1, nI_clamp (by omega), a3]
        exact nI_le (Nat.le_refl _) (by omega)
      · rw [nI_clamp (by omega)] at e2
        have e2 : σ2 = am_up σ1 138 j (nI (s_in K kd nt f (j + 1))) := e2
        have := hgo σ2 (some (.int (nI (K 3 j + K 4 j)))) x6 x7 (by
          subst e2
          refine ⟨fun i hi => ?_, fun o ho => ?_, fun q hq => ?_⟩
          · by_cases ci : i = j
            · subst ci
              exact ⟨by rw [up_rn (by omega)]; exact r3, by rw [up_rn (by omega)]; exact r4, up_at⟩
            · obtain ⟨g1, g2, g3⟩ := r2 i (by omega)
              exact ⟨by rw [up_rn (by omega)]; exact g1, by rw [up_rn (by omega)]; exact g2, by rw [up_ne ci]; exact g3⟩
          · rw [fo_succ hK hj] at ho
            rw [up_rn (by omega)]
            exact r5 o ho
          · rw [am_up_ne (by omega)]; exact r8 q hq)
        rw [← nI_1] at this
        exact this
    | succ m ih =>
      intro j i σ1 x6 x7 hj hm hi r2 r3 r4 r5 r8 hgo
      have hb := (hK.2.2.2.2.2.2.1 j hj).2.2
      have a3 : σ1 122 (j + 1) = nI (K 3 j + K 4 j) := by rw [r8 122 (by omega), hR.2.2.2.2.2.1 (j + 1) (by omega), fo_succ hK hj]
      obtain ⟨ho, hmo⟩ := wf_mile hK hj (o := K 3 j + i) (by omega) (by omega)
      generalize hoe : K 3 j + i = o at ho hmo
      have ho8 : o < 8 := by omega
      have a6 : σ1 124 o = nI (K 6 o) := by rw [r8 124 (by omega)]; exact hR.2.2.2.2.2.2 1 (by omega) o ho
      have a7 : σ1 125 o = nI (K 7 o) := by rw [r8 125 (by omega)]; exact hR.2.2.2.2.2.2 2 (by omega) o ho
      have ak : σ1 135 o = nI (kd o) := by rw [r8 135 (by omega)]; exact (hkd o ho).1
      have as : σ1 116 17 = nI (K 0 3) := by rw [r8 116 (by omega)]; exact hR.2.2.2.1
      have k8 := (hkd o ho).2
      have hk9 := hK.2.2.2.2.2.2.2.2.2 o ho
      have k6 := hk9.2.2.1
      have k7 := hk9.2.2.2.1
      have k3 := hK.2.2.2.1
      have k2 := (hK.2.2.2.2.2.2.1 j hj).2.1
      have lw := s_af_le K kd nt f j
      have llv : s_le K kd nt f j ≤ 99999 := s_lv_le k2 (by omega)
      have low := s_ou_le K kd nt (s_le K kd nt f j) (K 3 j) (s_af K kd nt f j) i
      generalize hlv : s_le K kd nt f j = lv at *
      generalize hwe : s_ou K kd nt lv (K 3 j) (s_af K kd nt f j) i = w at *
      have et : s_tk K o (kd o) lv w nt = s_ta K kd nt f o := by
        unfold s_ta
        rw [hmo, ← hoe, show K 3 j + i - K 3 j = i by omega, hlv, hwe]
      have ltk := s_tk_le K o (kd o) lv w nt
      have hwt := s_wt_le (K := K) (o := o) (kd := kd o) (lv := lv) (nt := nt) k6 k3 llv
      have hht : s_ht K o (kd o) ≤ 9 := by unfold s_ht; split <;> omega
      have ew : s_ou K kd nt lv (K 3 j) (s_af K kd nt f j) (i + 1) = w - s_ta K kd nt f o := by
        rw [← et]
        show s_ou K kd nt lv (K 3 j) (s_af K kd nt f j) i - _ = _
        rw [hwe, hoe]
      have next : ∀ (σ2 : am_Sg) (y6 y7 : Option Value), σ2 = am_up σ1 139 o (nI (s_ta K kd nt f o)) → Wb 76 [some (.ref 116), some (.int (nI f)), some (.int (nI nt)), some (.int (nI (w - s_ta K kd nt f o))), some (.int (nI j)), some (.int (nI (o + 1))), y6, y7] [] nf σ2 (tauY rw lf) := by
        intro σ2 y6 y7 e2
        subst e2
        have := ih j (i + 1) (am_up σ1 139 o (nI (s_ta K kd nt f o))) y6 y7 hj (by omega) (by omega) (fun i9 hi9 => by rw [up_rn (by omega), up_rn (by omega), up_rn (by omega)]; exact r2 i9 hi9) (by rw [up_rn (by omega)]; exact r3) (by rw [up_rn (by omega), hlv]; exact r4) (fun o9 ho9 => by
          by_cases c9 : o9 = o
          · subst c9
            exact up_at
          · rw [up_ne c9]
            exact r5 o9 (by omega)) (fun q hq => by rw [am_up_ne (by omega)]; exact r8 q hq) hgo
        rw [hlv, ew, show K 3 j + (i + 1) = o + 1 by omega] at this
        exact this
      have s196 : ∀ y6 : Option Value, Wb 196 [some (.ref 116), some (.int (nI f)), some (.int (nI nt)), some (.int (nI w)), some (.int (nI j)), some (.int (nI o)), y6, some (.int (nI (s_wt K o (kd o) lv nt)))] [] nf σ1 (tauY rw lf) := by
        intro y6
        refine hs (fun p => Nat.beq p 5 || Nat.beq p 76) 60 196 _ _ _ _ _ (vc_if (fun c1 => ?_) (fun c1 => ?_))
        · have g := (nI_leI (by omega) (by omega)).mp c1
          have e1 : w = s_ta K kd nt f o := by rw [← et]; unfold s_tk; rw [Nat.min_eq_right g]
          refine And.intro (vin (show o < 8 from ho8)) (fun σ2 e2 => And.intro (vin (show o < 8 from ho8)) ?_)
          rw [nI_clamp (by omega), e1] at e2
          show Wb 76 _ _ _ _ _
          rw [nI_clamp (by omega), show σ2 139 o = nI (s_ta K kd nt f o) by rw [e2]; exact up_at, pk_sub (by omega), nI_1]
          exact next σ2 _ _ e2
        · have g : ¬ w ≤ s_wt K o (kd o) lv nt := fun g => c1 (nI_le g (by omega))
          have e1 : s_wt K o (kd o) lv nt = s_ta K kd nt f o := by rw [← et]; unfold s_tk; rw [Nat.min_eq_left (by omega)]
          refine And.intro (vin (show o < 8 from ho8)) (fun σ2 e2 => And.intro (vin (show o < 8 from ho8)) ?_)
          rw [nI_clamp (by omega), e1] at e2
          show Wb 76 _ _ _ _ _
          rw [nI_clamp (by omega), show σ2 139 o = nI (s_ta K kd nt f o) by rw [e2]; exact up_at, pk_sub (by omega), nI_1]
          exact next σ2 _ _ e2
      have q2 : nI (kd o) = 2 ↔ kd o = 2 := nI_eq (b := 2) (by omega) (by omega)
      have q0 : nI (kd o) = 0 ↔ kd o = 0 := nI_eq (b := 0) (by omega) (by omega)
      have qn : nI nt = 0 ↔ nt = 0 := nI_eq (b := 0) (by omega) (by omega)
      have s172 : ∀ y6 : Int32, Wb 172 [some (.ref 116), some (.int (nI f)), some (.int (nI nt)), some (.int (nI w)), some (.int (nI j)), some (.int (nI o)), some (.int y6), some (.int (nI (K 6 o * (lv - s_ht K o (kd o)))))] [] nf σ1 (tauY rw lf) := by
        intro y6
        refine hs (fun p => Nat.beq p 5 || Nat.beq p 76 || Nat.beq p 196) 60 172 _ _ _ _ _ (And.intro (vin (show o < 8 from ho8)) (vc_if (fun c1 => ?_) (fun c1 => ?_)))
        · rw [nI_clamp (by omega), ak, q2] at c1
          refine vc_if (fun c2 => ?_) (fun c2 => ?_)
          · have := s196 (some (.int y6))
            unfold s_wt at this
            rw [if_neg (by have := qn.mp c2; omega)] at this
            exact this
          · have := s196 (some (.int y6))
            unfold s_wt at this
            rw [if_pos ⟨c1, by have : ¬ nt = 0 := fun g => c2 (qn.mpr g); omega⟩, ← nI_add, ← as] at this
            show Wb 196 _ _ _ _ _
            exact this
        · rw [nI_clamp (by omega), ak, q2] at c1
          have := s196 (some (.int y6))
          unfold s_wt at this
          rw [if_neg (fun g => c1 g.1)] at this
          exact this
      have s136 : Wb 136 [some (.ref 116), some (.int (nI f)), some (.int (nI nt)), some (.int (nI w)), some (.int (nI j)), some (.int (nI o)), some (.int (nI (s_ht K o (kd o)))), x7] [] nf σ1 (tauY rw lf) := by
        refine hs (fun p => Nat.beq p 5 || Nat.beq p 76 || Nat.beq p 172) 60 136 _ _ _ _ _ (And.intro (vin (show j < 10 by omega)) (vc_if (fun c1 => ?_) (fun c1 => ?_)))
        · rw [nI_clamp (by omega), r4] at c1
          have g := (nI_leI (by omega) (by omega)).mp c1
          have := s172 (nI (s_ht K o (kd o)))
          rw [Nat.sub_eq_zero_of_le g, Nat.mul_zero] at this
          exact this
        · rw [nI_clamp (by omega), r4] at c1
          have g : ¬ lv ≤ s_ht K o (kd o) := fun g => c1 (nI_le g (by omega))
          refine And.intro (vin (show o < 8 from ho8)) (And.intro (vin (show j < 10 by omega)) ?_)
          show Wb 172 _ _ _ _ _
          rw [nI_clamp (by omega), nI_clamp (by omega), a6, r4, pk_sub (by omega), pk_mul]
          exact s172 _
      refine hs (fun p => Nat.beq p 5 || Nat.beq p 136) 60 76 _ _ _ _ _ ?_
      refine And.intro (by rw [nI_1]; exact vin (show j + 1 < 11 by omega)) (vc_f ?_ (And.intro (vin (show o < 8 from ho8)) (vc_if (fun c1 => ?_) (fun c1 => ?_))))
      · rw [nI_1, nI_clamp (by omega), a3]
        exact fun g => by have := (nI_leI (by omega) (by omega)).mp g; omega
      · rw [nI_clamp (by omega), ak, q0] at c1
        refine And.intro (vin (show o < 8 from ho8)) ?_
        show Wb 136 _ _ _ _ _
        rw [nI_clamp (by omega), a7, show K 7 o = s_ht K o (kd o) by unfold s_ht; rw [if_pos c1]]
        exact s136
      · rw [nI_clamp (by omega), ak, q0] at c1
        refine And.intro (vin (show o < 8 from ho8)) (vc_if (fun c2 => ?_) (fun c2 => ?_))
        · rw [nI_clamp (by omega), a7] at c2
          show Wb 136 _ _ _ _ _
          rw [mh_h0 (K 7 o) (by omega) c2, show K 7 o - 3 = s_ht K o (kd o) by unfold s_ht; rw [if_neg c1]]
          exact s136
        · rw [nI_clamp (by omega), a7] at c2
          refine And.intro (vin (show o < 8 from ho8)) ?_
          show Wb 136 _ _ _ _ _
          rw [nI_clamp (by omega), a7, mh_ht (K 7 o) (by omega) c2, show K 7 o - 3 = s_ht K o (kd o) by unfold s_ht; rw [if_neg c1]]
          exact s136
  have outer : ∀ (m j : Nat) (σ1 : am_Sg) (x5 x6 x7 : Option Value), K 0 1 - j = m → j ≤ K 0 1 → HrM σ σ1 K kd nt f j → Wb 5 [some (.ref 116), some (.int (nI f)), some (.int (nI nt)), some (.int (nI (s_in K kd nt f j))), some (.int (nI j)), x5, x6, x7] [] nf σ1 (tauY rw lf) := by
    intro m
    induction m with
    | zero =>
      intro j σ1 x5 x6 x7 hm hj hI
      have ej : j = K 0 1 := by omega
      subst ej
      have a1 : σ1 116 6 = nI (K 0 1) := by rw [hI.2.2 116 (by omega)]; exact hR.2.1
      refine hs (fun p => Nat.beq p 5 || Nat.beq p 76) 60 5 _ _ _ _ _ (vc_t ?_ (And.intro rfl (hP σ1 hI)))
      rw [a1]
      exact nI_le (Nat.le_refl _) (by omega)
    | succ m ih =>
      intro j σ1 x5 x6 x7 hm hj hI
      have hj : j < K 0 1 := by omega
      obtain ⟨r2, r3, r6⟩ := hI
      have k1 := (hK.2.2.2.2.2.2.1 j hj).1
      have k2 := (hK.2.2.2.2.2.2.1 j hj).2.1
      have hO2 := (hK.2.2.2.2.2.2.1 j hj).2.2
      have lin := s_in_le K kd nt f j
      have lsp := s_sp_le (w := s_in K kd nt f j) k1
      have hm9 : s_in K kd nt f j * K 1 j ≤ 9999 * 9 := Nat.mul_le_mul (by omega) k1
      have w0 := hK.2.2.2.2.1 (by omega)
      have w9 := hK.1
      have b1 := hR.2.2.2.2.1 j hj
      have e1 : nI (s_in K kd nt f j) * nI (K 1 j) / 100 = nI (s_sp K j (s_in K kd nt f j)) := by
        rw [pk_mul, show (100 : Int32) = nI 100 from rfl, pk_div (by omega) (by omega) (by omega)]
        rfl
      have laf := s_af_le K kd nt f j
      have e2 : 10 * nI (s_af K kd nt f j) / nI (K 0 0) + nI (K 2 j) = nI (s_le K kd nt f j) := by
        rw [show (10 : Int32) = nI 10 from rfl, pk_mul, pk_div (by omega) (by omega) (by omega), nI_add]
        rfl
      refine hs (fun p => Nat.beq p 5 || Nat.beq p 76) 60 5 _ _ _ _ _ (vc_f (fun g => ?_) (And.intro (vin (show j < 10 by omega)) (And.intro (by decide) (And.intro (vin (show j < 10 by omega)) (fun σ2 e3 => And.intro (vin (show j < 10 by omega)) ?_)))))
      · rw [r6 116 (by omega), hR.2.1] at g
        have := (nI_leI (by omega) (by omega)).mp g
        omega
      rw [nI_clamp (by omega), r6 120 (by omega), b1.1, e1] at e3
      have c1 : σ2 136 j = nI (s_sp K j (s_in K kd nt f j)) := by rw [e3]; exact up_at
      have fr2 : ∀ q, ¬ q = 136 → σ2 q = σ1 q := fun q g => by rw [e3, am_up_ne g]
      refine And.intro ?_ (And.intro (vin (show j < 10 by omega)) (And.intro (vin (show j < 10 by omega)) (fun σ3 e4 => And.intro (vin (show j < 11 by omega)) ?_)))
      · rw [fr2 116 (by omega), r6 116 (by omega), hR.1]
        exact nI_ne0 w0 (by omega)
      rw [nI_clamp (by omega), c1, pk_sub lsp, fr2 116 (by omega), r6 116 (by omega), hR.1, fr2 121 (by omega), r6 121 (by omega), b1.2] at e4
      have e4 : σ3 = am_up σ2 137 j (nI (s_le K kd nt f j)) := by rw [← e2]; exact e4
      have fr3 : ∀ q, ¬ q = 136 → ¬ q = 137 → σ3 q = σ1 q := fun q g g2 => by rw [e4, am_up_ne g2, fr2 q g]
      show Wb 76 _ _ _ _ _
      rw [nI_clamp (by omega), c1, pk_sub lsp, fr3 122 (by omega) (by omega), r6 122 (by omega), hR.2.2.2.2.2.1 j (by omega), fo_lt hj]
      refine inner (K 4 j) j 0 σ3 x6 x7 hj (by omega) (by omega) (fun i hi => ?_) ?_ ?_ (fun o ho => ?_) (fun q hq => ?_) (fun σ5 y5 y6 y7 hI5 => ih (j + 1) σ5 y5 y6 y7 (by omega) (by omega) hI5)
      · obtain ⟨g1, g2, g3⟩ := r2 i hi
        refine ⟨?_, ?_, ?_⟩
        · rw [e4, up_rn (by omega), e3, up_ne (by omega)]; exact g1
        · rw [e4, up_ne (by omega), fr2 137 (by omega)]; exact g2
        · rw [fr3 138 (by omega) (by omega)]; exact g3
      · rw [e4, up_rn (by omega)]; exact c1
      · rw [e4]; exact up_at
      · rw [fr3 139 (by omega) (by omega)]
        rw [fo_lt hj] at r3
        exact r3 o ho
      · rw [fr3 q (by omega) (by omega)]; exact r6 q hq
  refine hs (fun p => Nat.beq p 5 || Nat.beq p 76) 20 0 _ _ _ _ _ ?_
  exact outer (K 0 1) 0 σ none none none (by omega) (by omega) ⟨fun i hi => by omega, fun o ho => by rw [fo_0 hK] at ho; omega, fun q _ => rfl⟩)
