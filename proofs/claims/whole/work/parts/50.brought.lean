theorem th_12 {K : KT} {s k z : Nat} (h : s = 0 ∨ ¬ z = k) : thK K s k 1 z = K 1 z ∧ thK K s k 2 z = K 2 z := by
  unfold thK
  split
  · rw [setK_ne (by omega), setK_ne (by omega), setK_ne (by omega), setK_ne (by omega)]
    exact ⟨rfl, rfl⟩
  · have hz : ¬ z = k := by omega
    split
    · rw [setK_ne (by omega), setK_o hz]
      exact ⟨rfl, rfl⟩
    · rw [setK_o hz, setK_ne (by omega)]
      exact ⟨rfl, rfl⟩
theorem th_0 {K : KT} {s k : Nat} : thK K s k 0 = K 0 := by
  unfold thK
  split
  · rw [setK_ne (by omega), setK_ne (by omega)]
  · split <;> rw [setK_ne (by omega)]
def FrB (q : Nat) : Prop := q = 116 ∨ q = 120 ∨ q = 121 ∨ q = 126 ∨ q = 128 ∨ (135 ≤ q ∧ q ≤ 139) ∨ (147 ≤ q ∧ q ≤ 149)
def C_brought : am_C := fun av n σ τ nf P => nf = n ∧ 155 ≤ n ∧ ∃ (lf s k f : Nat) (K : KT), τ = tauY 0 lf ∧ av = [.ref 116, .int (nI s), .int (nI k), .int (nI f)] ∧ s ≤ 2 ∧ (s = 0 → k < K 0 2) ∧ (¬ s = 0 → k < K 0 1) ∧ RepM σ K ∧ WfK K ∧ 0 < K 0 1 ∧ f ≤ 9999 ∧ ∀ σ', RepM σ' K → (∀ q, ¬ FrB q → σ' q = σ q) → (∀ i, ¬ i = 43 → σ' 116 i = σ 116 i) → P (some (.int (nI (endA K s k f)))) σ' τ
set_option maxRecDepth 100000 in
theorem M_brought (d : Nat) : am_Met (d + 5) 847 C_brought := am_meth (own0 := "CanalEndModel") 847 (d + 4) 155 T_X8_broughtBy (fun y => bif Nat.beq y 845 then C_settles else (bif Nat.beq y 844 then C_layDay else (am_no))) C_brought rfl F_X8_broughtBy rfl (by decide +kernel) Tc_X8_broughtBy (fun y => am_g (M_settles (d + 0)) (am_g (M_layDay (d + 1)) (am_no_met))) (by
  intro av n σ τ nf P hnf hC
  obtain ⟨rfl, hn, lf, s, k, f, K, rfl, rfl, hs2, hk0, hk1, hR, hK, hpos, hf, hP⟩ := hC
  refine ⟨hn, rfl, Nat.le_of_ble_eq_true rfl, fun Wb hs => ?_⟩
  have hM10 := hK.2.1
  have hO8 := hK.2.2.1
  have hck : (nI k).toNatClampNeg = k := nI_clamp (by by_cases q : s = 0 <;> omega)
  have k155 : ∀ (v4 v5 : Int32) r o (σ6 : am_Sg), o + r = K 0 2 → (∀ z, z < K 0 2 → σ6 148 z = nI (K 8 z) ∧ σ6 149 z = nI (K 10 z)) → (∀ z, z < o → σ6 126 z = nI (K 8 z) ∧ σ6 128 z = nI (K 10 z)) → (∀ z, z < K 0 1 → σ6 120 z = nI (K 1 z) ∧ σ6 121 z = nI (K 2 z)) → σ6 116 43 = nI (endA K s k f) → (∀ q, ¬ FrB q → σ6 q = σ q) → (∀ i, ¬ i = 43 → σ6 116 i = σ 116 i) → Wb 155 [some (.ref 116), some (.int (nI s)), some (.int (nI k)), some (.int (nI f)), some (.int v4), some (.int v5), some (.int (nI o))] [] nf σ6 (tauY 0 lf) := by
    intro v4 v5 r
    induction r with
    | zero =>
      intro o σ6 ho h1 h2 h3 h4 h5 h6
      have ho : o = K 0 2 := by omega
      subst ho
      have eO : σ6 116 7 = nI (K 0 2) := by rw [h6 7 (by omega)]; exact hR.2.2.1
      refine hs (fun p => Nat.beq p 155) 60 155 _ _ _ _ _ (vc_t (by rw [eO]; exact nI_le (Nat.le_refl _) (by omega)) (And.intro rfl ?_))
      rw [h4]
      refine hP σ6 ⟨by rw [h6 5 (by omega)]; exact hR.1, by rw [h6 6 (by omega)]; exact hR.2.1, eO, by rw [h6 17 (by omega)]; exact hR.2.2.2.1, h3, ?_, ?_⟩ h5 h6
      · rw [h5 122 (by unfold FrB; omega)]; exact hR.2.2.2.2.2.1
      · intro g hg z hz
        have h9 := hR.2.2.2.2.2.2 g hg z hz
        rcases (show g = 3 ∨ g = 5 ∨ (g = 0 ∨ g = 1 ∨ g = 2 ∨ g = 4) by omega) with rfl | rfl | q
        · exact (h2 z hz).1
        · exact (h2 z hz).2
        · rw [h5 (123 + g) (by unfold FrB; omega)]; exact h9
    | succ r ih =>
      intro o σ6 ho h1 h2 h3 h4 h5 h6
      have eO : σ6 116 7 = nI (K 0 2) := by rw [h6 7 (by omega)]; exact hR.2.2.1
      have hcl : (nI o).toNatClampNeg = o := nI_clamp (by omega)
      have vo := fun q (h : am_len q = 8) => vin (q := q) (show o < am_len q by rw [h]; omega)
      refine hs (fun p => Nat.beq p 155) 60 155 _ _ _ _ _ (vc_f (by rw [eO]; exact nI_ge (by omega) (by omega)) (And.intro (vin (show o < 8 by omega)) (And.intro (vin (show o < 8 by omega)) (fun σ7 e7 => And.intro (vin (show o < 8 by omega)) (And.intro (vin (show o < 8 by omega)) (fun σ8 e8 => ?_))))))
      rw [hcl] at e7 e8
      have e7 : σ7 = am_up σ6 126 o (σ6 148 o) := e7
      have e8 : σ8 = am_up σ7 128 o (σ7 149 o) := e8
      have e149 : σ7 149 o = nI (K 10 o) := by rw [e7, up_rn (by omega)]; exact (h1 o (by omega)).2
      rw [e149] at e8
      rw [(h1 o (by omega)).1] at e7
      show Wb 155 [some (.ref 116), some (.int (nI s)), some (.int (nI k)), some (.int (nI f)), some (.int v4), some (.int v5), some (.int (nI o + 1))] [] nf σ8 (tauY 0 lf)
      rw [← nI_succ]
      have nf8 : ∀ q, ¬ q = 126 → ¬ q = 128 → σ8 q = σ6 q := fun q g1 g2 => by rw [e8, am_up_ne g2, e7, am_up_ne g1]
      refine ih (o + 1) σ8 (by omega) (by rw [nf8 148 (by omega) (by omega), nf8 149 (by omega) (by omega)]; exact h1) (fun z hz => ?_) (by rw [nf8 120 (by omega) (by omega), nf8 121 (by omega) (by omega)]; exact h3) (by rw [nf8 116 (by omega) (by omega)]; exact h4) (fun q g => by rw [nf8 q (by unfold FrB at g; omega) (by unfold FrB at g; omega)]; exact h5 q g) (by rw [nf8 116 (by omega) (by omega)]; exact h6)
      by_cases e : z = o
      · rw [e]
        exact ⟨by rw [e8, up_rn (by omega), e7, up_at], by rw [e8, up_at]⟩
      · exact ⟨by rw [e8, up_rn (by omega), e7, up_ne e]; exact (h2 z (by omega)).1, by rw [e8, up_ne e, e7, up_rn (by omega)]; exact (h2 z (by omega)).2⟩
  have t121 : ∀ (v4 v5 : Nat) (σ6 : am_Sg), (¬ s = 0 → v4 = K 2 k ∧ v5 = K 1 k) → RepM σ6 (thK K s k) → (∀ z, z < K 0 2 → σ6 148 z = nI (K 8 z) ∧ σ6 149 z = nI (K 10 z)) → (∀ q, ¬ FrB q → σ6 q = σ q) → (∀ i, ¬ i = 43 → σ6 116 i = σ 116 i) → Wb 121 [some (.ref 116), some (.int (nI s)), some (.int (nI k)), some (.int (nI f)), some (.int (nI v4)), some (.int (nI v5)), none] [] nf σ6 (tauY 0 lf) := by
    intro v4 v5 σ6 hv hR6 h1 h5 h6
    refine hs (fun p => Nat.beq p 155) 90 121 _ _ _ _ _ ⟨rfl, hn, lf, f, thK K s k, rfl, rfl, hR6, thK_wf hK, by rw [th_0]; exact hpos, hf, fun σ7 h7 => ?_⟩
    obtain ⟨r7, w7, p7, f7, g7⟩ := h7
    refine ⟨rfl, hn, lf, f, _, rfl, rfl, r7, w7, p7, hf, fun σ8 a1 a2 a3 a4 => ?_⟩
    have fr8 : ∀ q, ¬ q = 116 → ¬ (135 ≤ q ∧ q ≤ 139) → ¬ q = 147 → ¬ q = 126 → σ8 q = σ6 q := fun q b1 b2 b3 b4 => by rw [a3 q b1 b2 b3]; exact f7 q b1 b2 b3 b4
    have e148 : ∀ z, z < K 0 2 → σ8 148 z = nI (K 8 z) ∧ σ8 149 z = nI (K 10 z) := by
      rw [fr8 148 (by omega) (by omega) (by omega) (by omega), fr8 149 (by omega) (by omega) (by omega) (by omega)]; exact h1
    have f116 : ∀ i, ¬ i = 43 → σ8 116 i = σ 116 i := fun i hi => by rw [a4 i hi, g7 i hi]; exact h6 i hi
    have row : ∀ z, z < K 0 1 → (s = 0 ∨ ¬ z = k) → σ8 120 z = nI (K 1 z) ∧ σ8 121 z = nI (K 2 z) := fun z hz hq => by
      have h9 := hR6.2.2.2.2.1 z (by rw [th_0]; exact hz)
      rw [fr8 120 (by omega) (by omega) (by omega) (by omega), fr8 121 (by omega) (by omega) (by omega) (by omega), h9.1, h9.2, (th_12 hq).1, (th_12 hq).2]
      exact ⟨rfl, rfl⟩
    have frB : ∀ q, ¬ FrB q → σ8 q = σ q := fun q g => by
      unfold FrB at g
      rw [fr8 q (by omega) (by omega) (by omega) (by omega)]
      exact h5 q g
    refine vc_if (fun c => ?_) (fun c => ?_)
    · have c := (nI_leI (b := 0) (by omega) (by omega)).mp c
      have c : s = 0 := by omega
      exact k155 _ _ (K 0 2) 0 σ8 (by omega) e148 (fun z hz => absurd hz (by omega)) (fun z hz => row z hz (Or.inl c)) a2 frB f116
    · have c : ¬ s = 0 := fun q => c (by rw [q]; decide)
      have hk := hk1 c
      obtain ⟨rfl, rfl⟩ := hv c
      refine And.intro (vin (show k < 10 by omega)) (fun σ9 e9 => And.intro (vin (show k < 10 by omega)) (fun σa ea => ?_))
      rw [hck] at e9 ea
      have e9 : σ9 = am_up σ8 121 k (nI (K 2 k)) := e9
      have ea : σa = am_up σ9 120 k (nI (K 1 k)) := ea
      have nfa : ∀ q, ¬ q = 120 → ¬ q = 121 → σa q = σ8 q := fun q g1 g2 => by rw [ea, am_up_ne g1, e9, am_up_ne g2]
      refine k155 _ _ (K 0 2) 0 σa (by omega) (by rw [nfa 148 (by omega) (by omega), nfa 149 (by omega) (by omega)]; exact e148) (fun z hz => absurd hz (by omega)) (fun z hz => ?_) (by rw [nfa 116 (by omega) (by omega)]; exact a2) (fun q g => by rw [nfa q (by unfold FrB at g; omega) (by unfold FrB at g; omega)]; exact frB q g) (by rw [nfa 116 (by omega) (by omega)]; exact f116)
      by_cases q : z = k
      · rw [q]
        exact ⟨by rw [ea, up_at], by rw [ea, up_rn (by omega), e9, up_at]⟩
      · exact ⟨by rw [ea, up_ne q, e9, up_rn (by omega)]; exact (row z hz (Or.inr q)).1, by rw [ea, up_rn (by omega), e9, up_ne q]; exact (row z hz (Or.inr q)).2⟩
  have k3 : ∀ r o (σ6 : am_Sg), o + r = K 0 2 → (∀ z, z < o → σ6 148 z = nI (K 8 z) ∧ σ6 149 z = nI (K 10 z)) → (∀ q, ¬ q = 148 → ¬ q = 149 → σ6 q = σ q) → Wb 3 [some (.ref 116), some (.int (nI s)), some (.int (nI k)), some (.int (nI f)), some (.int (nI o)), none, none] [] nf σ6 (tauY 0 lf) := by
    intro r
    induction r with
    | zero =>
      intro o σ6 ho h1 h5
      have ho : o = K 0 2 := by omega
      subst ho
      have eO : σ6 116 7 = nI (K 0 2) := by rw [h5 116 (by omega) (by omega)]; exact hR.2.2.1
      have hR6 : RepM σ6 K := hR.frame (fun q g1 g2 => h5 q (by omega) (by omega))
      have f6 : ∀ i, ¬ i = 43 → σ6 116 i = σ 116 i := fun i _ => by rw [h5 116 (by omega) (by omega)]
      have frB : ∀ q, ¬ FrB q → σ6 q = σ q := fun q g => by unfold FrB at g; exact h5 q (by omega) (by omega)
      refine hs (fun p => Nat.beq p 121) 90 3 _ _ _ _ _ (vc_t (by rw [eO]; exact nI_le (Nat.le_refl _) (by omega)) ?_)
      by_cases c : s = 0
      · have hk := hk0 c
        have cc : nI s = 0 := by rw [c]; rfl
        refine vc_t cc (vc_t cc (vc_t cc (And.intro (vin (show k < 8 by omega)) (fun σ7 e7 => And.intro (vin (show k < 8 by omega)) (fun σ8 e8 => ?_)))))
        rw [hck] at e7 e8
        have e7 : σ7 = am_up σ6 126 k (nI 0) := e7
        have e8 : σ8 = am_up σ7 128 k (nI 1) := e8
        have et : thK K s k = setK (setK K 8 k 0) 10 k 1 := if_pos c
        have hR7 : RepM σ7 (setK K 8 k 0) := by rw [e7]; exact hR6.set (f := 8) (by omega)
        have hR8 : RepM σ8 (thK K s k) := by rw [et, e8]; exact hR7.set (f := 10) (by omega)
        have nf8 : ∀ q, ¬ q = 126 → ¬ q = 128 → σ8 q = σ6 q := fun q g1 g2 => by rw [e8, am_up_ne g2, e7, am_up_ne g1]
        exact t121 0 0 σ8 (fun q => absurd c q) hR8 (by rw [nf8 148 (by omega) (by omega), nf8 149 (by omega) (by omega)]; exact h1) (fun q g => by rw [nf8 q (by unfold FrB at g; omega) (by unfold FrB at g; omega)]; exact frB q g) (by rw [nf8 116 (by omega) (by omega)]; exact f6)
      · have hk := hk1 c
        have cc : ¬ nI s = 0 := fun q => c (nI_inj (b := 0) (by omega) (by omega) q)
        have e1 := hR6.2.2.2.2.1 k hk
        have vk8 := vin (q := 121) (show k < 10 by omega)
        have vk0 := vin (q := 120) (show k < 10 by omega)
        refine vc_f cc (And.intro vk8 (vc_f cc (And.intro vk0 (vc_f cc (vc_if (fun c1 => And.intro vk8 (fun σ7 e7 => ?_)) (fun c1 => And.intro vk0 (fun σ7 e7 => ?_)))))))
        · have c1 := nI_inj (b := 1) (by omega) (by omega) c1
          rw [hck] at e7
          have e7 : σ7 = am_up σ6 121 k (nI 0) := e7
          have et : thK K s k = setK K 2 k 0 := by unfold thK; rw [if_neg c, if_pos c1]
          have hR7 : RepM σ7 (thK K s k) := by rw [et, e7]; exact hR6.set (f := 2) (by omega)
          have nf8 : ∀ q, ¬ q = 121 → σ7 q = σ6 q := fun q g1 => by rw [e7, am_up_ne g1]
          have h9 := t121 (K 2 k) (K 1 k) σ7 (fun _ => ⟨rfl, rfl⟩) hR7 (by rw [nf8 148 (by omega), nf8 149 (by omega)]; exact h1) (fun q g => by rw [nf8 q (by unfold FrB at g; omega)]; exact frB q g) (by rw [nf8 116 (by omega)]; exact f6)
          rw [← e1.1, ← e1.2, ← hck] at h9
          rw [hck] at h9
          rw [hck]
          exact h9
        · have c1 : ¬ s = 1 := fun q => c1 (by rw [q]; rfl)
          rw [hck] at e7
          have e7 : σ7 = am_up σ6 120 k (nI 0) := e7
          have et : thK K s k = setK K 1 k 0 := by unfold thK; rw [if_neg c, if_neg c1]
          have hR7 : RepM σ7 (thK K s k) := by rw [et, e7]; exact hR6.set (f := 1) (by omega)
          have nf8 : ∀ q, ¬ q = 120 → σ7 q = σ6 q := fun q g1 => by rw [e7, am_up_ne g1]
          have h9 := t121 (K 2 k) (K 1 k) σ7 (fun _ => ⟨rfl, rfl⟩) hR7 (by rw [nf8 148 (by omega), nf8 149 (by omega)]; exact h1) (fun q g => by rw [nf8 q (by unfold FrB at g; omega)]; exact frB q g) (by rw [nf8 116 (by omega)]; exact f6)
          rw [← e1.1, ← e1.2] at h9
          rw [hck]
          exact h9
    | succ r ih =>
      intro o σ6 ho h1 h5
      have eO : σ6 116 7 = nI (K 0 2) := by rw [h5 116 (by omega) (by omega)]; exact hR.2.2.1
      have hcl : (nI o).toNatClampNeg = o := nI_clamp (by omega)
      refine hs (fun p => Nat.beq p 3) 60 3 _ _ _ _ _ (vc_f (by rw [eO]; exact nI_ge (by omega) (by omega)) (And.intro (vin (show o < 8 by omega)) (And.intro (vin (show o < 8 by omega)) (fun σ7 e7 => And.intro (vin (show o < 8 by omega)) (And.intro (vin (show o < 8 by omega)) (fun σ8 e8 => ?_))))))
      rw [hcl] at e7 e8
      have e7 : σ7 = am_up σ6 148 o (σ6 126 o) := e7
      have e8 : σ8 = am_up σ7 149 o (σ7 128 o) := e8
      have e128 : σ7 128 o = nI (K 10 o) := by rw [e7, up_rn (by omega), h5 128 (by omega) (by omega)]; exact hR.2.2.2.2.2.2 5 (by omega) o (by omega)
      have e126 : σ6 126 o = nI (K 8 o) := by rw [h5 126 (by omega) (by omega)]; exact hR.2.2.2.2.2.2 3 (by omega) o (by omega)
      rw [e128] at e8
      rw [e126] at e7
      show Wb 3 [some (.ref 116), some (.int (nI s)), some (.int (nI k)), some (.int (nI f)), some (.int (nI o + 1)), none, none] [] nf σ8 (tauY 0 lf)
      rw [← nI_succ]
      refine ih (o + 1) σ8 (by omega) (fun z hz => ?_) (fun q g1 g2 => by rw [e8, am_up_ne g2, e7, am_up_ne g1]; exact h5 q g1 g2)
      by_cases e : z = o
      · rw [e]
        exact ⟨by rw [e8, up_rn (by omega), e7, up_at], by rw [e8, up_at]⟩
      · exact ⟨by rw [e8, up_rn (by omega), e7, up_ne e]; exact (h1 z (by omega)).1, by rw [e8, up_ne e, e7, up_rn (by omega)]; exact (h1 z (by omega)).2⟩
  exact hs (fun p => Nat.beq p 3) 60 0 _ _ _ _ _ (k3 (K 0 2) 0 σ (by omega) (fun z hz => absurd hz (by omega)) (fun _ _ _ => rfl)))
