def mS (K : KT) : Nat → Nat
  | 0 => 0
  | n + 1 => mS K n + (2 - K 8 n)
theorem mS_le (K : KT) : ∀ n, mS K n ≤ 2 * n
  | 0 => Nat.le_refl _
  | n + 1 => by
    have := mS_le K n
    show mS K n + (2 - K 8 n) ≤ _
    omega
theorem mS_hi {K : KT} {o v : Nat} : ∀ n, n ≤ o → mS (setK K 8 o v) n = mS K n
  | 0, _ => rfl
  | n + 1, h => by
    show mS (setK K 8 o v) n + (2 - setK K 8 o v 8 n) = mS K n + (2 - K 8 n)
    rw [mS_hi n (by omega), setK_o (by omega)]
theorem mS_lo {K : KT} {o : Nat} (h2 : K 8 o < 2) : ∀ n, o < n → mS (setK K 8 o (K 8 o + 1)) n + 1 = mS K n
  | 0, h => absurd h (by omega)
  | n + 1, h => by
    show mS (setK K 8 o (K 8 o + 1)) n + (2 - setK K 8 o (K 8 o + 1) 8 n) + 1 = mS K n + (2 - K 8 n)
    by_cases e : n = o
    · subst e
      rw [mS_hi n (Nat.le_refl _), setK_at]
      omega
    · rw [setK_o e]
      have := mS_lo h2 n (by omega)
      omega
theorem swS_m {f N : Nat} : ∀ r o (K : KT) ch cd, o + r ≤ N → (swS f r o K ch cd).2.1 + mS (swS f r o K ch cd).1 N = ch + mS K N ∧ ch ≤ (swS f r o K ch cd).2.1 ∧ ((swS f r o K ch cd).2.2 = cd ∨ ch + 1 ≤ (swS f r o K ch cd).2.1)
  | 0, _, _, _, _, _ => ⟨rfl, Nat.le_refl _, Or.inl rfl⟩
  | r + 1, o, K, ch, cd, h => by
    by_cases c : cdS K f o
    · rw [swS_t c]
      obtain ⟨h1, h2, _⟩ := swS_m (f := f) (N := N) r (o + 1) (setK K 8 o (K 8 o + 1)) (ch + 1) 1 (by omega)
      have h4 := mS_lo (K := K) (o := o) c.2.2 N (by omega)
      exact ⟨by omega, by omega, Or.inr (by omega)⟩
    · rw [swS_f c]
      exact swS_m (f := f) (N := N) r (o + 1) K ch cd (by omega)
def InvT (σ σ' : am_Sg) (K : KT) : Prop := RepM σ' K ∧ WfK K ∧ 0 < K 0 1 ∧ (∀ q, ¬ q = 116 → ¬ (135 ≤ q ∧ q ≤ 139) → ¬ q = 147 → ¬ q = 126 → σ' q = σ q) ∧ (∀ i, ¬ i = 43 → σ' 116 i = σ 116 i)
def C_settles : am_C := fun av n σ τ nf P => nf = n ∧ 155 ≤ n ∧ ∃ (lf f : Nat) (K : KT), τ = tauY 0 lf ∧ av = [.ref 116, .int (nI f)] ∧ RepM σ K ∧ WfK K ∧ 0 < K 0 1 ∧ f ≤ 9999 ∧ ∀ σ', InvT σ σ' (lpS f 25 K 0 1).1 → P (some (.int (nI (lpS f 25 K 0 1).2))) σ' τ
set_option maxRecDepth 100000 in
theorem M_settles (d : Nat) : am_Met (d + 4) 845 C_settles := am_meth (own0 := "CanalEndModel") 845 (d + 3) 155 T_X8_settles (fun y => bif Nat.beq y 844 then C_layDay else (am_no)) C_settles rfl F_X8_settles rfl (by decide +kernel) Tc_X8_settles (fun y => am_g (M_layDay (d + 0)) (am_no_met)) (by
  intro av n σ τ nf P hnf hC
  obtain ⟨rfl, hn, lf, f, K0, rfl, rfl, hR0, hK0, hpos0, hf, hP⟩ := hC
  refine ⟨hn, rfl, Nat.le_of_ble_eq_true rfl, fun Wb hs => ?_⟩
  have k13 : ∀ r o (K : KT) ch cd (σ6 : am_Sg), o + r = K 0 2 → cd ≤ 1 → InvT σ σ6 K → (∀ (σ7 : am_Sg) (x4 : Option Value), InvT σ σ7 (swS f r o K ch cd).1 → Wb 4 [some (.ref 116), some (.int (nI f)), some (.int (nI (swS f r o K ch cd).2.1)), some (.int (nI (swS f r o K ch cd).2.2)), x4] [] nf σ7 (tauY 0 lf)) → Wb 13 [some (.ref 116), some (.int (nI f)), some (.int (nI ch)), some (.int (nI cd)), some (.int (nI o))] [] nf σ6 (tauY 0 lf) := by
    intro r
    induction r with
    | zero =>
      intro o K ch cd σ6 ho hcd hI hW
      have hO8 := hI.2.1.2.2.1
      have ho : o = K 0 2 := by omega
      subst ho
      have eO : σ6 116 7 = nI (K 0 2) := hI.1.2.2.1
      exact hs (fun p => Nat.beq p 4 || Nat.beq p 13) 60 13 _ _ _ _ _ (vc_t (by rw [eO]; exact nI_le (Nat.le_refl _) (by omega)) (hW σ6 (some (.int (nI (K 0 2)))) hI))
    | succ r ih =>
      intro o K ch cd σ6 ho hcd hI hW
      have hO8 := hI.2.1.2.2.1
      have eO : σ6 116 7 = nI (K 0 2) := hI.1.2.2.1
      have hcl : (nI o).toNatClampNeg = o := nI_clamp (by omega)
      have kb := hI.2.1.2.2.2.2.2.2.2.2.2 o (by omega)
      have hdy : s_dy K f o ≤ 19998 := by
        have h1 : ∀ nt, s_ta K (K 8) nt f o ≤ f := fun nt => by
          unfold s_ta
          exact Nat.le_trans (s_tk_le _ _ _ _ _ _) (Nat.le_trans (s_ou_le _ _ _ _ _ _ _) (s_af_le _ _ _ _ _))
        have := h1 0
        have := h1 1
        unfold s_dy
        omega
      refine hs (fun p => Nat.beq p 4 || Nat.beq p 13) 90 13 _ _ _ _ _ (vc_f (by rw [eO]; exact nI_ge (by omega) (by omega)) ⟨rfl, hn, lf, f, K, rfl, rfl, hI.1, hI.2.1, hI.2.2.1, hf, fun σ7 a1 a2 a3 a4 => ?_⟩)
      have hR7 : RepM σ7 K := hI.1.fr6 (fun q g1 g2 => a3 q (by omega) (by omega) (by omega)) (fun i hi => a4 i (by omega))
      have hI7 : InvT σ σ7 K := ⟨hR7, hI.2.1, hI.2.2.1, fun q g1 g2 g3 g4 => by rw [a3 q g1 g2 g3]; exact hI.2.2.2.1 q g1 g2 g3 g4, fun i hi => by rw [a4 i hi]; exact hI.2.2.2.2 i hi⟩
      have e8 : σ7 126 o = nI (K 8 o) := hR7.2.2.2.2.2.2 3 (by omega) o (by omega)
      have e9 : σ7 127 o = nI (K 9 o) := hR7.2.2.2.2.2.2 4 (by omega) o (by omega)
      have e10 : σ7 128 o = nI (K 10 o) := hR7.2.2.2.2.2.2 5 (by omega) o (by omega)
      have e147 := a1 o (by omega)
      have no : ¬ cdS K f o → Wb 13 [some (.ref 116), some (.int (nI f)), some (.int (nI ch)), some (.int (nI cd)), some (.int (nI o + 1))] [] nf σ7 (tauY 0 lf) := fun h => by
        rw [swS_f h] at hW
        rw [← nI_succ]
        exact ih (o + 1) K ch cd σ7 (by omega) hcd hI7 hW
      refine And.intro (vin (show o < 8 by omega)) (And.intro (vin (show o < 8 by omega)) ?_)
      rw [hcl]
      refine vc_if (fun c1 => ?_) (fun c1 => And.intro (vin (show o < 8 by omega)) ?_)
      · rw [e9, e147, nI_leI (by omega) (by omega)] at c1
        exact no (fun h => by have := h.1; omega)
      · rw [e9, e147, nI_leI (by omega) (by omega)] at c1
        rw [hcl]
        refine vc_if (fun c2 => And.intro (vin (show o < 8 by omega)) ?_) (fun c2 => ?_)
        · rw [e10] at c2
          have c2 := nI_inj (b := 0) (by omega) (by omega) c2
          rw [hcl]
          refine vc_if (fun c3 => ?_) (fun c3 => And.intro (vin (show o < 8 by omega)) (And.intro (vin (show o < 8 by omega)) (fun σ8 e => ?_)))
          · rw [e8] at c3
            have c3 := (nI_leI (a := 2) (by omega) (by omega)).mp c3
            exact no (fun h => by have := h.2.2; omega)
          · rw [e8] at c3
            have c3 : ¬ 2 ≤ K 8 o := fun q => c3 (nI_le (a := 2) q (by omega))
            have h : cdS K f o := ⟨by omega, c2, by omega⟩
            rw [hcl, e8, ← nI_succ] at e
            have e : σ8 = am_up σ7 126 o (nI (K 8 o + 1)) := e
            rw [swS_t h] at hW
            show Wb 13 [some (.ref 116), some (.int (nI f)), some (.int (nI ch + 1)), some (.int (nI 1)), some (.int (nI o + 1))] [] nf σ8 (tauY 0 lf)
            rw [← nI_succ, ← nI_succ]
            have h0 : setK K 8 o (K 8 o + 1) 0 = K 0 := setK_ne (by omega)
            have hR8 : RepM σ8 (setK K 8 o (K 8 o + 1)) := by rw [e]; exact hR7.set (f := 8) (by omega)
            exact ih (o + 1) (setK K 8 o (K 8 o + 1)) (ch + 1) 1 σ8 (by rw [h0]; omega) (by omega) ⟨hR8, hI.2.1.set (by omega) (show K 8 o + 1 ≤ 2 by omega), by rw [h0]; exact hI.2.2.1, fun q g1 g2 g3 g4 => by rw [e, am_up_ne g4]; exact hI7.2.2.2.1 q g1 g2 g3 g4, fun i hi => by rw [e, up_rn (by omega)]; exact hI7.2.2.2.2 i hi⟩ hW
        · rw [e10] at c2
          exact no (fun h => c2 (by rw [h.2.1]; rfl))
  have k4 : ∀ m (K : KT) ch cd (σ6 : am_Sg) (x4 : Option Value), cd ≤ 1 → ch + mS K (K 0 2) ≤ 16 → (cd = 0 ∨ 25 ≤ m + ch) → InvT σ σ6 K → (∀ σ7, InvT σ σ7 (lpS f m K ch cd).1 → P (some (.int (nI (lpS f m K ch cd).2))) σ7 (tauY 0 lf)) → Wb 4 [some (.ref 116), some (.int (nI f)), some (.int (nI ch)), some (.int (nI cd)), x4] [] nf σ6 (tauY 0 lf) := by
    intro m
    induction m with
    | zero =>
      intro K ch cd σ6 x4 hcd hm hb hI hW
      have hz : cd = 0 := by omega
      subst hz
      exact hs (fun p => Nat.beq p 13) 60 4 _ _ _ _ _ (vc_t rfl (And.intro rfl (hW σ6 hI)))
    | succ m ih =>
      intro K ch cd σ6 x4 hcd hm hb hI hW
      refine hs (fun p => Nat.beq p 13) 60 4 _ _ _ _ _ (vc_if (fun c1 => And.intro rfl ?_) (fun c1 => ?_))
      · have c1 := nI_inj (b := 0) (by omega) (by omega) c1
        have e : lpS f (m + 1) K ch cd = (K, ch) := if_pos c1
        rw [e] at hW
        exact hW σ6 hI
      · have c1 : ¬ cd = 0 := fun q => c1 (by rw [q]; rfl)
        have e : lpS f (m + 1) K ch cd = lpS f m (swS f (K 0 2) 0 K ch 0).1 (swS f (K 0 2) 0 K ch 0).2.1 (swS f (K 0 2) 0 K ch 0).2.2 := if_neg c1
        rw [e] at hW
        obtain ⟨h1, h2, h3⟩ := swS_m (f := f) (N := K 0 2) (K 0 2) 0 K ch 0 (by omega)
        have h0 : (swS f (K 0 2) 0 K ch 0).1 0 = K 0 := swS_0 _ _ _ _ _ 0 (by omega)
        exact k13 (K 0 2) 0 K ch 0 σ6 (by omega) (by omega) hI (fun σ7 x4 h7 => ih _ _ _ σ7 x4 (swS_cd _ _ _ _ _ (by omega)) (by rw [h0]; omega) (by omega) h7 hW)
  have hO8 := hK0.2.2.1
  have hm := mS_le K0 (K0 0 2)
  exact hs (fun p => Nat.beq p 4) 60 0 _ _ _ _ _ (k4 25 K0 0 1 σ none (by omega) (by omega) (by omega) ⟨hR0, hK0, hpos0, fun _ _ _ _ _ => rfl, fun _ _ => rfl⟩ hP))
