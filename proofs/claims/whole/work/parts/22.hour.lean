def fo (K : KT) (j : Nat) : Nat := if j < K 0 1 then K 3 j else K 0 2
theorem fo_0 {K : KT} (h : WfK K) : fo K 0 = 0 := by
  unfold fo
  split
  · exact (h.2.2.2.2.2.2.2.2.1 (by omega)).1
  · exact h.2.2.2.2.2.1 (by omega)
theorem fo_lt {K : KT} {j : Nat} (hj : j < K 0 1) : fo K j = K 3 j := if_pos hj
theorem fo_end {K : KT} : fo K (K 0 1) = K 0 2 := if_neg (Nat.lt_irrefl _)
theorem fo_succ {K : KT} (h : WfK K) {j : Nat} (hj : j < K 0 1) : fo K (j + 1) = K 3 j + K 4 j := by
  unfold fo
  split
  · rename_i h2
    exact h.2.2.2.2.2.2.2.1 j h2
  · have e : j = K 0 1 - 1 := by omega
    have := (h.2.2.2.2.2.2.2.2.1 (by omega)).2
    rw [e]
    omega
theorem wf_mono {K : KT} (h : WfK K) {i : Nat} : ∀ j, i < j → j < K 0 1 → K 3 i + K 4 i ≤ K 3 j
  | 0, h1, _ => by omega
  | j + 1, h1, h2 => by
    have e := h.2.2.2.2.2.2.2.1 j h2
    by_cases c : i = j
    · subst c
      omega
    · have := wf_mono (i := i) h j (by omega) (by omega)
      omega
theorem wf_mile {K : KT} (h : WfK K) {j o : Nat} (hj : j < K 0 1) (h1 : K 3 j ≤ o) (h2 : o < K 3 j + K 4 j) : o < K 0 2 ∧ K 5 o = j := by
  have hb := (h.2.2.2.2.2.2.1 j hj).2.2
  have ho : o < K 0 2 := by omega
  have q := h.2.2.2.2.2.2.2.2.2 o ho
  refine ⟨ho, ?_⟩
  have q1 := q.1
  have q8 := q.2.2.2.2.2.2.2.1
  have q9 := q.2.2.2.2.2.2.2.2
  by_cases c1 : K 5 o < j
  · have := wf_mono h j c1 hj
    omega
  · by_cases c2 : j < K 5 o
    · have := wf_mono h (K 5 o) c2 q1
      omega
    · omega
def HrI (σ0 σ : am_Sg) (h c : Nat) (K : KT) (kd : Nat → Nat) (nt f j : Nat) : Prop :=
  RepX σ c K ∧ (∀ i, i < j → σ (h + 1) i = nI (s_sp K i (s_in K kd nt f i)) ∧ σ (h + 2) i = nI (s_le K kd nt f i) ∧ σ (h + 3) i = nI (s_in K kd nt f (i + 1))) ∧ (∀ o, o < fo K j → σ (h + 4) o = nI (s_ta K kd nt f o)) ∧ σ h 4 = nI f ∧ σ h 5 = nI (s_ss K kd nt f j) ∧ (∀ q, ¬ (h ≤ q ∧ q ≤ h + 4) → σ q = σ0 q)
theorem up_at {σ : am_Sg} {q i : Nat} {v : Int32} : am_up σ q i v q i = v := by rw [am_up_self, if_pos rfl]
theorem up_ne {σ : am_Sg} {q i j : Nat} {v : Int32} (h : ¬ j = i) : am_up σ q i v q j = σ q j := by rw [am_up_self, if_neg h]
theorem up_rn {σ : am_Sg} {q i a j : Nat} {v : Int32} (h : ¬ a = q) : am_up σ q i v a j = σ a j := by rw [am_up_ne h]
def C_hrun : am_C := fun av n σ τ nf P => nf = n ∧ 155 ≤ n ∧ ∃ (rw lf h c f nt : Nat) (K : KT), τ = tauY rw lf ∧ av = [.ref h, .ref c, .int (nI f), .int (nI nt)] ∧ (h = 24 ∨ h = 31 ∨ h = 38) ∧ (c = 1 ∨ c = 12) ∧ RepX σ c K ∧ WfK K ∧ f ≤ 9999 ∧ nt ≤ 1 ∧
  ∀ σ', HrI σ σ' h c K (K 8) nt f (K 0 1) → σ' h 6 = nI (s_in K (K 8) nt f (K 0 1)) → P none σ' τ
set_option maxHeartbeats 4000000 in
set_option maxRecDepth 100000 in
theorem M_hrun (d : Nat) : am_Met (d + 2) 301 C_hrun := am_meth (own0 := "CanalEnd$Hour") 301 (d + 1) 155 T_X3_run (fun y => bif Nat.beq y 5 then C_seepOf else (bif Nat.beq y 6 then C_levelOf else (bif Nat.beq y 7 then C_takenFrom else (am_no)))) C_hrun rfl F_X3_run rfl (by decide +kernel) Tc_X3_run (fun y => am_g (M_seepOf (d + 0)) (am_g (M_levelOf (d + 0)) (am_g (M_takenFrom (d + 0)) (am_no_met)))) (by
  intro av n σ τ nf P hnf hC
  obtain ⟨rfl, hn, rw, lf, h, c, f, nt, K, rfl, rfl, hh, hc, hR, hK, hf, hnt, hP⟩ := hC
  refine ⟨hn, rfl, Nat.le_of_ble_eq_true rfl, fun Wb hs => ?_⟩
  have hM : K 0 1 ≤ 10 := hK.2.1
  have hO : K 0 2 ≤ 8 := hK.2.2.1
  have hcr : ∀ q, c ≤ q → q ≤ c + 10 → ¬ (h ≤ q ∧ q ≤ h + 4) := by
    intro q h1 h2
    omega
  -- the loop over a mile's outlets
  have inner : ∀ (m j i : Nat) (σ1 : am_Sg), j < K 0 1 → K 4 j - i = m → i ≤ K 4 j →
      HrI σ σ1 h c K (K 8) nt f j ∨ True → RepX σ1 c K → (∀ i, i < j → σ1 (h + 1) i = nI (s_sp K i (s_in K (K 8) nt f i)) ∧ σ1 (h + 2) i = nI (s_le K (K 8) nt f i) ∧ σ1 (h + 3) i = nI (s_in K (K 8) nt f (i + 1))) →
      σ1 (h + 1) j = nI (s_sp K j (s_in K (K 8) nt f j)) → σ1 (h + 2) j = nI (s_le K (K 8) nt f j) → (∀ o, o < K 3 j + i → σ1 (h + 4) o = nI (s_ta K (K 8) nt f o)) → σ1 h 4 = nI f → σ1 h 5 = nI (s_ss K (K 8) nt f (j + 1)) → (∀ q, ¬ (h ≤ q ∧ q ≤ h + 4) → σ1 q = σ q) →
      (∀ (σ2 : am_Sg) (x6 : Option Value), HrI σ σ2 h c K (K 8) nt f (j + 1) → Wb 16 [some (.ref h), some (.ref c), some (.int (nI f)), some (.int (nI nt)), some (.int (nI (s_in K (K 8) nt f (j + 1)))), some (.int (nI (j + 1))), x6] [] nf σ2 (tauY rw lf)) →
      Wb 92 [some (.ref h), some (.ref c), some (.int (nI f)), some (.int (nI nt)), some (.int (nI (s_ou K (K 8) nt (s_le K (K 8) nt f j) (K 3 j) (s_af K (K 8) nt f j) i))), some (.int (nI j)), some (.int (nI (K 3 j + i)))] [] nf σ1 (tauY rw lf) := by
    intro m
    induction m with
    | zero =>
      intro j i σ1 hj hm hi _ r1 r2 r3 r4 r5 r6 r7 r8 hgo
      have ei : i = K 4 j := by omega
      subst ei
      have hb := (hK.2.2.2.2.2.2.1 j hj).2.2
      have a3 : σ1 (c + 3) j = nI (K 3 j) := r1.2.1 2 (by omega) j hj
      have a4 : σ1 (c + 4) j = nI (K 4 j) := r1.2.1 3 (by omega) j hj
      refine hs (fun p => Nat.beq p 16 || Nat.beq p 92) 60 92 _ _ _ _ _ ?_
      have fin : ∀ σ2 : am_Sg, σ2 = am_up σ1 (h + 3) j (nI (s_in K (K 8) nt f (j + 1))) → HrI σ σ2 h c K (K 8) nt f (j + 1) := by
        intro σ2 e2
        subst e2
        refine ⟨r1.frame (fun q g1 g2 => am_up_ne (by have := hcr q g1 g2; omega)), fun i hi => ?_, fun o ho => ?_, ?_, ?_, fun q hq => ?_⟩
        · by_cases ci : i = j
          · subst ci
            exact ⟨by rw [up_rn (by omega)]; exact r3, by rw [up_rn (by omega)]; exact r4, up_at⟩
          · obtain ⟨g1, g2, g3⟩ := r2 i (by omega)
            exact ⟨by rw [up_rn (by omega)]; exact g1, by rw [up_rn (by omega)]; exact g2, by rw [up_ne ci]; exact g3⟩
        · rw [fo_succ hK hj] at ho
          rw [up_rn (by omega)]
          exact r5 o ho
        · rw [up_rn (by omega)]; exact r6
        · rw [up_rn (by omega)]; exact r7
        · rw [am_up_ne (by omega)]; exact r8 q hq
      have ew : s_ou K (K 8) nt (s_le K (K 8) nt f j) (K 3 j) (s_af K (K 8) nt f j) (K 4 j) = s_in K (K 8) nt f (j + 1) := rfl
      rcases hc with rfl | rfl <;> rcases hh with rfl | rfl | rfl
      all_goals
        refine And.intro (vin (show j < 10 by omega)) (And.intro (vin (show j < 10 by omega)) (vc_t ?_ (And.intro (vin (show j < 10 by omega)) (fun σ2 e2 => ?_))))
        · rw [nI_clamp (by omega), a3, a4, nI_add]
          exact nI_le (Nat.le_refl _) (by omega)
        · rw [nI_clamp (by omega), ew] at e2
          have := hgo σ2 (some (.int (nI (K 3 j + K 4 j)))) (fin σ2 e2)
          rw [← nI_1] at this
          exact this
    | succ m ih =>
      intro j i σ1 hj hm hi _ r1 r2 r3 r4 r5 r6 r7 r8 hgo
      have hb := (hK.2.2.2.2.2.2.1 j hj).2.2
      have a3 : σ1 (c + 3) j = nI (K 3 j) := r1.2.1 2 (by omega) j hj
      have a4 : σ1 (c + 4) j = nI (K 4 j) := r1.2.1 3 (by omega) j hj
      obtain ⟨ho, hmo⟩ := wf_mile hK hj (o := K 3 j + i) (by omega) (by omega)
      have a8 : σ1 (c + 8) (K 3 j + i) = nI (K 8 (K 3 j + i)) := r1.2.2 3 (by omega) _ ho
      have k8 := (hK.2.2.2.2.2.2.2.2.2 _ ho).2.2.2.2.1
      have k2 := (hK.2.2.2.2.2.2.1 j hj).2.1
      have lw := s_af_le K (K 8) nt f j
      have llv : s_le K (K 8) nt f j ≤ 99999 := s_lv_le k2 (by omega)
      have low := s_ou_le K (K 8) nt (s_le K (K 8) nt f j) (K 3 j) (s_af K (K 8) nt f j) i
      have et : s_tk K (K 3 j + i) (K 8 (K 3 j + i)) (s_le K (K 8) nt f j) (s_ou K (K 8) nt (s_le K (K 8) nt f j) (K 3 j) (s_af K (K 8) nt f j) i) nt = s_ta K (K 8) nt f (K 3 j + i) := by
        unfold s_ta
        rw [hmo, show K 3 j + i - K 3 j = i by omega]
      refine hs (fun p => Nat.beq p 16 || Nat.beq p 92) 60 92 _ _ _ _ _ ?_
      have ltk := s_tk_le K (K 3 j + i) (K 8 (K 3 j + i)) (s_le K (K 8) nt f j) (s_ou K (K 8) nt (s_le K (K 8) nt f j) (K 3 j) (s_af K (K 8) nt f j) i) nt
      have next : ∀ σ2 : am_Sg, σ2 = am_up σ1 (h + 4) (K 3 j + i) (nI (s_ta K (K 8) nt f (K 3 j + i))) → Wb 92 [some (.ref h), some (.ref c), some (.int (nI f)), some (.int (nI nt)), some (.int (nI (s_ou K (K 8) nt (s_le K (K 8) nt f j) (K 3 j) (s_af K (K 8) nt f j) (i + 1)))), some (.int (nI j)), some (.int (nI (K 3 j + (i + 1))))] [] nf σ2 (tauY rw lf) := by
        intro σ2 e2
        subst e2
        refine ih j (i + 1) _ hj (by omega) (by omega) (Or.inr trivial) (r1.frame (fun q g1 g2 => am_up_ne (by have := hcr q g1 g2; omega))) (fun i9 hi9 => ?_) ?_ ?_ (fun o9 ho9 => ?_) ?_ ?_ (fun q hq => ?_) hgo
        · obtain ⟨g1, g2, g3⟩ := r2 i9 hi9
          exact ⟨by rw [up_rn (by omega)]; exact g1, by rw [up_rn (by omega)]; exact g2, by rw [up_rn (by omega)]; exact g3⟩
        · rw [up_rn (by omega)]; exact r3
        · rw [up_rn (by omega)]; exact r4
        · by_cases c9 : o9 = K 3 j + i
          · subst c9
            exact up_at
          · rw [up_ne c9]
            exact r5 o9 (by omega)
        · rw [up_rn (by omega)]; exact r6
        · rw [up_rn (by omega)]; exact r7
        · rw [am_up_ne (by omega)]; exact r8 q hq
      have h28 : ∀ σ2 : am_Sg, σ2 = am_up σ1 (h + 4) (K 3 j + i) (nI (s_ta K (K 8) nt f (K 3 j + i))) → σ2 (h + 4) (K 3 j + i) = nI (s_ta K (K 8) nt f (K 3 j + i)) := fun σ2 e => by rw [e]; exact up_at
      rcases hc with rfl | rfl <;> rcases hh with rfl | rfl | rfl
      all_goals
        refine And.intro (vin (show j < 10 by omega)) (And.intro (vin (show j < 10 by omega)) (vc_f ?_ (And.intro (vin (show K 3 j + i < 8 by omega)) (And.intro (vin (show j < 10 by omega)) ?_))))
        · rw [nI_clamp (by omega), a3, a4, nI_add]
          exact fun g => by have := (nI_leI (by omega) (by omega)).mp g; omega
        · rw [nI_clamp (by omega), nI_clamp (by omega), a8, r4]
          refine ⟨rfl, hn, rw, lf, _, _, K 3 j + i, K 8 (K 3 j + i), s_le K (K 8) nt f j, nt, K, rfl, rfl, by decide, r1, hK, ho, by omega, k8, llv, hnt, ?_⟩
          refine And.intro (vin (show K 3 j + i < 8 by omega)) (fun σ2 e2 => And.intro (vin (show K 3 j + i < 8 by omega)) ?_)
          rw [nI_clamp (by omega), et] at e2
          have nx := next σ2 e2
          show Wb 92 _ _ _ _ _
          rw [nI_clamp (by omega), h28 σ2 e2, pk_sub (by rw [← et]; exact ltk), ← et, nI_1]
          exact nx
  have outer : ∀ (m j : Nat) (σ1 : am_Sg) (x6 : Option Value), K 0 1 - j = m → j ≤ K 0 1 → HrI σ σ1 h c K (K 8) nt f j → Wb 16 [some (.ref h), some (.ref c), some (.int (nI f)), some (.int (nI nt)), some (.int (nI (s_in K (K 8) nt f j))), some (.int (nI j)), x6] [] nf σ1 (tauY rw lf) := by
    intro m
    induction m with
    | zero =>
      intro j σ1 x6 hm hj hI
      have ej : j = K 0 1 := by omega
      subst ej
      have a1 : σ1 c 1 = nI (K 0 1) := hI.1.1 1 (by omega)
      refine hs (fun p => Nat.beq p 16 || Nat.beq p 92) 60 16 _ _ _ _ _ ?_
      have fin : ∀ σ2 : am_Sg, σ2 = am_up σ1 h 6 (nI (s_in K (K 8) nt f (K 0 1))) → P none σ2 (tauY rw lf) := by
        intro σ2 e2
        subst e2
        obtain ⟨r1, r2, r3, r4, r5, r6⟩ := hI
        refine hP _ ⟨r1.frame (fun q g1 g2 => am_up_ne (by have := hcr q g1 g2; omega)), fun i hi => ?_, fun o ho => ?_, ?_, ?_, fun q hq => ?_⟩ up_at
        · rw [up_rn (by omega), up_rn (by omega), up_rn (by omega)]; exact r2 i hi
        · rw [up_rn (by omega)]; exact r3 o ho
        · rw [up_ne (by omega)]; exact r4
        · rw [up_ne (by omega)]; exact r5
        · rw [am_up_ne (by omega)]; exact r6 q hq
      rcases hc with rfl | rfl <;> rcases hh with rfl | rfl | rfl
      all_goals
        refine vc_t ?_ (fun σ2 e2 => And.intro rfl (fin σ2 e2))
        rw [a1]
        exact nI_le (Nat.le_refl _) (by omega)
    | succ m ih =>
      intro j σ1 x6 hm hj hI
      have hj : j < K 0 1 := by omega
      obtain ⟨r1, r2, r3, r4, r5, r6⟩ := hI
      have a1 : σ1 c 1 = nI (K 0 1) := r1.1 1 (by omega)
      have k1 := (hK.2.2.2.2.2.2.1 j hj).1
      have k2 := (hK.2.2.2.2.2.2.1 j hj).2.1
      have lin := s_in_le K (K 8) nt f j
      have lsp := s_sp_le (w := s_in K (K 8) nt f j) k1
      have hO2 := (hK.2.2.2.2.2.2.1 j hj).2.2
      have go : ∀ σ2 σ3 σ4 : am_Sg, σ2 = am_up σ1 (h + 1) j (nI (s_sp K j (s_in K (K 8) nt f j))) → σ3 = am_up σ2 h 5 (nI (s_ss K (K 8) nt f (j + 1))) → σ4 = am_up σ3 (h + 2) j (nI (s_le K (K 8) nt f j)) → Wb 92 [some (.ref h), some (.ref c), some (.int (nI f)), some (.int (nI nt)), some (.int (nI (s_af K (K 8) nt f j))), some (.int (nI j)), some (.int (nI (K 3 j)))] [] nf σ4 (tauY rw lf) := by
        intro σ2 σ3 σ4 e2 e3 e4
        have hfr : ∀ q, ¬ q = h → ¬ q = h + 1 → ¬ q = h + 2 → σ4 q = σ1 q := fun q g1 g2 g3 => by rw [e4, am_up_ne g3, e3, am_up_ne g1, e2, am_up_ne g2]
        refine inner (K 4 j) j 0 σ4 hj (by omega) (by omega) (Or.inr trivial) (r1.frame (fun q g1 g2 => by have := hcr q g1 g2; exact hfr q (by omega) (by omega) (by omega))) (fun i hi => ?_) ?_ ?_ (fun o ho => ?_) ?_ ?_ (fun q hq => ?_) (fun σ5 y6 hI5 => ih (j + 1) σ5 y6 (by omega) (by omega) hI5)
        · obtain ⟨g1, g2, g3⟩ := r2 i hi
          refine ⟨?_, ?_, ?_⟩
          · rw [e4, up_rn (by omega), e3, up_rn (by omega), e2, up_ne (by omega)]; exact g1
          · rw [e4, up_ne (by omega), e3, up_rn (by omega), e2, up_rn (by omega)]; exact g2
          · rw [hfr _ (by omega) (by omega) (by omega)]; exact g3
        · rw [e4, up_rn (by omega), e3, up_rn (by omega), e2]; exact up_at
        · rw [e4]; exact up_at
        · rw [hfr _ (by omega) (by omega) (by omega)]
          rw [fo_lt hj] at r3
          exact r3 o ho
        · rw [e4, up_rn (by omega), e3, up_ne (by omega), e2, up_rn (by omega)]; exact r4
        · rw [e4, up_rn (by omega), e3]; exact up_at
        · rw [hfr _ (by omega) (by omega) (by omega)]; exact r6 q hq
      have v2 : ∀ σ2 : am_Sg, σ2 = am_up σ1 (h + 1) j (nI (s_sp K j (s_in K (K 8) nt f j))) → σ2 (h + 1) j = nI (s_sp K j (s_in K (K 8) nt f j)) ∧ σ2 h 5 = nI (s_ss K (K 8) nt f j) ∧ RepX σ2 c K := fun σ2 e => by
        subst e
        exact ⟨up_at, by rw [up_rn (by omega)]; exact r5, r1.frame (fun q g1 g2 => am_up_ne (by have := hcr q g1 g2; omega))⟩
      have v3 : ∀ σ2 σ3 : am_Sg, σ2 (h + 1) j = nI (s_sp K j (s_in K (K 8) nt f j)) → RepX σ2 c K → σ3 = am_up σ2 h 5 (nI (s_ss K (K 8) nt f (j + 1))) → σ3 (h + 1) j = nI (s_sp K j (s_in K (K 8) nt f j)) ∧ RepX σ3 c K := fun σ2 σ3 g g2 e => by
        subst e
        exact ⟨by rw [up_rn (by omega)]; exact g, g2.frame (fun q g1 g2 => am_up_ne (by have := hcr q g1 g2; omega))⟩
      have v4 : ∀ σ3 σ4 : am_Sg, RepX σ3 c K → σ4 = am_up σ3 (h + 2) j (nI (s_le K (K 8) nt f j)) → σ4 (c + 3) j = nI (K 3 j) := fun σ3 σ4 g e => by
        subst e
        rw [up_rn (by omega)]
        exact g.2.1 2 (by omega) j hj
      refine hs (fun p => Nat.beq p 16 || Nat.beq p 92) 60 16 _ _ _ _ _ ?_
      rcases hc with rfl | rfl <;> rcases hh with rfl | rfl | rfl
      all_goals
        refine vc_f (fun g => ?_) ?_
        · rw [a1] at g
          have := (nI_leI (by omega) (by omega)).mp g
          omega
        refine ⟨rfl, hn, rw, lf, _, j, s_in K (K 8) nt f j, K, rfl, rfl, by decide, r1, hK, hj, by omega, ?_⟩
        refine And.intro (vin (show j < 10 by omega)) (fun σ2 e2 => ?_)
        rw [nI_clamp (by omega)] at e2
        obtain ⟨b1, b2, b3⟩ := v2 σ2 e2
        refine And.intro (vin (show j < 10 by omega)) (fun σ3 e3 => ?_)
        rw [nI_clamp (by omega), b2, b1, nI_add] at e3
        obtain ⟨b4, b5⟩ := v3 σ2 σ3 b1 b3 e3
        refine And.intro (vin (show j < 10 by omega)) ?_
        refine ⟨rfl, hn, rw, lf, _, j, s_af K (K 8) nt f j, K, rfl, ?_, by decide, b5, hK, hj, by have := s_af_le K (K 8) nt f j; omega, ?_⟩
        · rw [nI_clamp (by omega), b4, pk_sub lsp]
          rfl
        refine And.intro (vin (show j < 10 by omega)) (fun σ4 e4 => ?_)
        rw [nI_clamp (by omega)] at e4
        have b6 := v4 σ3 σ4 b5 e4
        refine And.intro (vin (show j < 10 by omega)) ?_
        show Wb 92 _ _ _ _ _
        rw [nI_clamp (by omega), b6, b4, pk_sub lsp]
        exact go σ2 σ3 σ4 e2 e3 e4
  refine hs (fun p => Nat.beq p 16 || Nat.beq p 92) 20 0 _ _ _ _ _ ?_
  have first : ∀ σ1 σ2 : am_Sg, σ1 = am_up σ h 4 (nI f) → σ2 = am_up σ1 h 5 0 → HrI σ σ2 h c K (K 8) nt f 0 := by
    intro σ1 σ2 e1 e2
    have hfr : ∀ q, ¬ q = h → σ2 q = σ q := fun q g => by rw [e2, am_up_ne g, e1, am_up_ne g]
    refine ⟨hR.frame (fun q g1 g2 => hfr q (by have := hcr q g1 g2; omega)), fun i hi => by omega, fun o ho => ?_, ?_, ?_, fun q hq => hfr q (by omega)⟩
    · rw [fo_0 hK] at ho
      omega
    · rw [e2, up_ne (by omega), e1]; exact up_at
    · rw [e2]; exact up_at
  rcases hc with rfl | rfl <;> rcases hh with rfl | rfl | rfl
  all_goals
    refine fun σ1 e1 σ2 e2 => ?_
    exact outer (K 0 1) 0 σ2 none (by omega) (by omega) (first σ1 σ2 e1 e2))
