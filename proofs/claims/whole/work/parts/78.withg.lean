theorem blt_f {i N : Nat} (h : N ≤ i) : Nat.blt i N = false := by
  cases e : Nat.blt i N with
  | false => rfl
  | true =>
    have : i + 1 ≤ N := Nat.le_of_ble_eq_true e
    omega
theorem tau0_hi {r i : Nat} (h : 156 ≤ r) : tau0 r i = 0 := by
  unfold tau0
  rw [blt_f (i := r) (N := 79) (by omega), blt_f (i := r) (N := 117) (by omega), blt_f (i := r) (N := 155) (by omega), blt_f (i := r) (N := 156) (by omega)]
  rfl
theorem tau_rows : am_up (am_rowT (tauY 0 0) 155 10) 43 14 156 = tauY 0 156 := by
  funext r i
  unfold am_up am_rowT tauY
  cases c1 : (Nat.beq r 43 && Nat.beq i 14) with
  | true =>
    have e := (Bool.and_eq_true _ _).mp c1
    have e1 := Nat.eq_of_beq_eq_true e.1
    subst e1
    rfl
  | false =>
    cases c2 : Nat.beq r 155 with
    | true =>
      have e1 := Nat.eq_of_beq_eq_true c2
      subst e1
      show (bif Nat.blt i 10 then 155 + 1 + i + 1 else 0) = (bif Nat.blt i 10 then 157 + i else 0)
      cases Nat.blt i 10 with
      | true => show 155 + 1 + i + 1 = 157 + i; omega
      | false => rfl
    | false =>
      have ne : ¬ r = 155 := fun q => by subst q; cases c2
      cases c3 : (Nat.ble 155 r && Nat.blt r (155 + 1 + 10)) with
      | false => rfl
      | true =>
        have e := (Bool.and_eq_true _ _).mp c3
        have e1 := Nat.le_of_ble_eq_true e.1
        have z := tau0_hi (r := r) (i := i) (by omega)
        have n1 : Nat.beq r 23 = false := by
          cases q : Nat.beq r 23 with
          | false => rfl
          | true => have := Nat.eq_of_beq_eq_true q; omega
        show 0 = (bif (Nat.beq r 23 && Nat.beq i 0) then 0 else bif false then 156 else tau0 r i)
        rw [z, n1]
        rfl
theorem mxV_0 : ∀ n, mxV (fun _ => 0) n = 0
  | 0 => rfl
  | n + 1 => by show max (mxV (fun _ => 0) n) 0 = 0; rw [mxV_0 n]; rfl
def C_clearL : am_C := fun av n σ τ nf P => nf = 166 ∧ ((n = 155 ∧ τ = tauY 0 0) ∨ (n = 166 ∧ τ = tauY 0 156)) ∧ ∃ (M f : Nat), av = [.ref 43, .int (nI M), .int (nI f)] ∧ M ≤ 10 ∧ f ≤ 9999 ∧ ∀ σ', LeR σ' M f (fun _ _ => 0) → (∀ q, ¬ q = 53 → ¬ (155 ≤ q ∧ q ≤ 165) → σ' q = σ q) → P none σ' (tauY 0 156)
set_option maxRecDepth 100000 in
theorem M_clearL (d : Nat) : am_Met (d + 1) 606 C_clearL := am_meth (own0 := "CanalEnd$Worlds") 606 (d + 0) 155 T_X6_clearLeaves (fun y => am_no) C_clearL rfl F_X6_clearLeaves rfl (by decide +kernel) Tc_X6_clearLeaves (fun y => am_no_met) (by
  intro av n σ τ nf P hnf hC
  obtain ⟨rfl, hnt, M, f, rfl, hM, hf, hP⟩ := hC
  refine ⟨by omega, rfl, Nat.le_of_ble_eq_true rfl, fun Wb hs => ?_⟩
  have k22 : ∀ m j (x4 : Option Value) (σ1 : am_Sg), j + m = M → (∀ z, z < j → σ1 53 z = 0 ∧ ∀ v, v ≤ f → σ1 (156 + z) v = 0) → (∀ q, ¬ q = 53 → ¬ (155 ≤ q ∧ q ≤ 165) → σ1 q = σ q) → Wb 22 [some (.ref 43), some (.int (nI M)), some (.int (nI f)), some (.int (nI j)), x4] [] 166 σ1 (tauY 0 156) := by
    intro m
    induction m with
    | zero =>
      intro j x4 σ1 hj g1 g2
      have hj : j = M := by omega
      subst hj
      exact hs (fun p => Nat.beq p 22 || Nat.beq p 37) 60 22 _ _ _ _ _ (vc_t (nI_le (Nat.le_refl _) (by omega)) (And.intro rfl (hP σ1 ⟨fun z hz v hv => (g1 z hz).2 v hv, fun z hz => by rw [mxV_0]; exact (g1 z hz).1⟩ g2)))
    | succ m ih =>
      intro j x4 σ1 hj g1 g2
      have hcj : (nI j).toNatClampNeg = j := nI_clamp (by omega)
      obtain ⟨ok1, ok2⟩ := ok156 j (by omega)
      refine hs (fun p => Nat.beq p 22 || Nat.beq p 37) 60 22 _ _ _ _ _ (vc_f (nI_ge (by omega) (by omega)) (And.intro (vin (show j < 10 by omega)) (fun σ2 e2 => ?_)))
      rw [hcj] at e2
      have e2 : σ2 = am_up σ1 53 j 0 := e2
      have k37 : ∀ r v (σ3 : am_Sg), v + r = f + 1 → (∀ v', v' < v → σ3 (156 + j) v' = 0) → (∀ q, ¬ q = 156 + j → σ3 q = σ2 q) → Wb 37 [some (.ref 43), some (.int (nI M)), some (.int (nI f)), some (.int (nI j)), some (.int (nI v))] [] 166 σ3 (tauY 0 156) := by
        intro r
        induction r with
        | zero =>
          intro v σ3 hv y1 y2
          have h9 := ih (j + 1) (some (.int (nI v))) σ3 (by omega) (fun z hz => by
            by_cases e : z = j
            · subst e
              exact ⟨by rw [y2 53 (by omega), e2, up_at], fun v' hv' => y1 v' (by omega)⟩
            · obtain ⟨q1, q2⟩ := g1 z (by omega)
              exact ⟨by rw [y2 53 (by omega), e2, up_ne e]; exact q1, fun v' hv' => by rw [y2 (156 + z) (by omega), e2, up_rn (by omega)]; exact q2 v' hv'⟩) (fun q x1 x2 => by rw [y2 q (by omega), e2, am_up_ne x1]; exact g2 q x1 x2)
          rw [nI_succ] at h9
          exact hs (fun p => Nat.beq p 22 || Nat.beq p 37) 60 37 _ _ _ _ _ (vc_t (nI_lt (by omega) (by omega)) h9)
        | succ r ihv =>
          intro v σ3 hv y1 y2
          have hcv : (nI v).toNatClampNeg = v := nI_clamp (by omega)
          refine hs (fun p => Nat.beq p 22 || Nat.beq p 37) 60 37 _ _ _ _ _ (vc_f (nI_nlt (by omega) (by omega)) (And.intro (vin (q := 155) (show j < 10 by omega)) ?_))
          rw [hcj]
          refine aal (t155 (by omega)) (vc_gd ok1 (And.intro (vin (by rw [ok2]; omega)) (fun σ4 e4 => ?_)))
          rw [hcv] at e4
          have e4 : σ4 = am_up σ3 (156 + j) v 0 := e4
          have h9 := ihv (v + 1) σ4 (by omega) (fun v' hv' => by
            by_cases e : v' = v
            · rw [e, e4, up_at]
            · rw [e4, up_ne e]; exact y1 v' (by omega)) (fun q hq => by rw [e4, am_up_ne hq]; exact y2 q hq)
          rw [nI_succ] at h9
          exact h9
      exact k37 (f + 1) 0 σ2 (by omega) (fun v' hv' => absurd hv' (Nat.not_lt_zero v')) (fun _ _ => rfl)
  rcases hnt with ⟨rfl, rfl⟩ | ⟨rfl, rfl⟩
  · refine hs (fun p => Nat.beq p 22) 60 0 _ _ _ _ _ (And.intro rfl (And.intro rfl (fun σ1 e1 => ?_)))
    have e1 : σ1 = am_zr σ 155 11 0 := e1
    have h9 := k22 M 0 none σ1 (by omega) (fun z hz => absurd hz (Nat.not_lt_zero z)) (fun q x1 x2 => by
      rw [e1]
      funext b
      unfold am_zr
      cases c : (Nat.ble 155 q && Nat.blt q (155 + 11)) with
      | false => rfl
      | true =>
        have e := (Bool.and_eq_true _ _).mp c
        have a1 := Nat.le_of_ble_eq_true e.1
        have a2 : q + 1 ≤ 155 + 11 := Nat.le_of_ble_eq_true e.2
        exact absurd ⟨a1, by omega⟩ x2)
    rw [← tau_rows] at h9
    exact h9
  · exact hs (fun p => Nat.beq p 22) 60 0 _ _ _ _ _ (k22 M 0 none σ (by omega) (fun z hz => absurd hz (Nat.not_lt_zero z)) (fun _ _ _ => rfl)))
def gQ (K Q : KT) (nt f : Nat) : KT := fun a k => if a = 0 then Q 0 k else if k = Q 0 0 then (if a = 1 then K 0 1 - 1 else if a = 2 then f else if a = 3 then nt else Q a k) else Q a k
theorem gQ_0 {K Q : KT} {nt f k : Nat} : gQ K Q nt f 0 k = Q 0 k := if_pos rfl
theorem gQ_n {K Q : KT} {nt f a k : Nat} (h : ¬ k = Q 0 0) : gQ K Q nt f a k = Q a k := by
  unfold gQ
  by_cases c : a = 0
  · rw [if_pos c, c]
  · rw [if_neg c, if_neg h]
theorem gQ_r {K Q : KT} {nt f : Nat} : gQ K Q nt f 1 (Q 0 0) = K 0 1 - 1 ∧ gQ K Q nt f 2 (Q 0 0) = f ∧ gQ K Q nt f 3 (Q 0 0) = nt := by
  unfold gQ
  refine ⟨?_, ?_, ?_⟩
  · rw [if_neg (by omega), if_pos rfl, if_pos rfl]
  · rw [if_neg (by omega), if_pos rfl, if_neg (by omega), if_pos rfl]
  · rw [if_neg (by omega), if_pos rfl, if_neg (by omega), if_neg (by omega), if_pos rfl]
theorem fit_g {K Q : KT} {nt f w : Nat} : fitQ K (gQ K Q nt f) w = fitQ K Q w := by
  have key : fitQ K (gQ K Q nt f) w = true ↔ fitQ K Q w = true := by
    rw [fit_iff, fit_iff, gQ_0]
    constructor <;> intro h k hk <;> have := h k hk
    · rw [gQ_n (by omega), gQ_n (by omega), gQ_n (by omega), gQ_n (by omega)] at this
      exact this
    · rw [gQ_n (by omega), gQ_n (by omega), gQ_n (by omega), gQ_n (by omega)]
      exact this
  cases e : fitQ K Q w with
  | true => exact key.mpr e
  | false =>
    cases e2 : fitQ K (gQ K Q nt f) w with
    | false => rfl
    | true => rw [key.mp e2] at e; exact absurd e (fun q => Bool.noConfusion q)
theorem cnt_g {K Q : KT} {nt f : Nat} : s_cnt K (gQ K Q nt f) = s_cnt K Q ∧ ∀ o k, s_tly K (gQ K Q nt f) o k = s_tly K Q o k := by
  constructor
  · exact ctN_c _ (fun y _ => fit_g)
  · intro o k
    exact ctN_c _ (fun y _ => by rw [fit_g])
def lvq (K Q : KT) (nt f : Nat) : Nat → Nat → Nat := fun j v => ctN (fun y => fitQ K Q y && (s_in K (kdw y) nt f (j + 1) == v)) (3 ^ K 0 2)
theorem lvc_g {K Q : KT} {nt f : Nat} : lvc K (gQ K Q nt f) = lvq K Q nt f := by
  funext j v
  unfold lvc lvq
  refine ctN_c _ (fun y _ => ?_)
  unfold pV
  rw [fit_g, gQ_0, gQ_r.2.1, gQ_r.2.2]
def C_cntG : am_C := fun av n σ τ nf P => nf = 166 ∧ ((n = 155 ∧ τ = tauY 0 0) ∨ (n = 166 ∧ τ = tauY 0 156)) ∧ ∃ (f nt : Nat) (K Q : KT), av = [.ref 43, .ref 1, .int (nI f), .int (nI nt)] ∧ f ≤ 9999 ∧ nt ≤ 1 ∧ WfK K ∧ 0 < K 0 1 ∧ WfQ K Q ∧ RepX σ 1 K ∧ RepQ σ Q ∧ ∀ σ', CtF σ' K Q → LeR σ' (K 0 1) f (lvq K Q nt f) → RepQ σ' Q → (∀ q, ¬ q = 43 → ¬ (45 ≤ q ∧ q ≤ 56) → ¬ (59 ≤ q ∧ q ≤ 103) → ¬ (155 ≤ q ∧ q ≤ 165) → σ' q = σ q) → P none σ' (tauY 0 156)
set_option maxRecDepth 100000 in
theorem M_cntG (d : Nat) : am_Met (d + 22) 605 C_cntG := am_meth (own0 := "CanalEnd$Worlds") 605 (d + 21) 155 T_X6_countWithGauges (fun y => bif Nat.beq y 606 then C_clearL else (bif Nat.beq y 607 then C_count else (am_no))) C_cntG rfl F_X6_countWithGauges rfl (by decide +kernel) Tc_X6_countWithGauges (fun y => am_g (M_clearL (d + 20)) (am_g (M_count (d + 0)) (am_no_met))) (by
  intro av n σ τ nf P hnf hC
  obtain ⟨rfl, hnt, f, nt, K, Q, rfl, hf, hn1, hW, hpos, hQ, hR, hRQ, hP⟩ := hC
  refine ⟨by omega, rfl, Nat.le_of_ble_eq_true rfl, fun Wb hs => ?_⟩
  have hM := hW.2.1
  have hR10 := hQ.1
  have e0 := hRQ.1
  have eM : σ 1 1 = nI (K 0 1) := hR.1 1 (by omega)
  have hcR : (nI (Q 0 0)).toNatClampNeg = Q 0 0 := nI_clamp (by omega)
  have vr := fun q (e : am_len q = 11) => vin (j := Q 0 0) (q := q) (by omega)
  have n01 : nI nt = 0 ∨ nI nt = 1 := by
    rcases (show nt = 0 ∨ nt = 1 by omega) with e | e <;> rw [e]
    · exact Or.inl rfl
    · exact Or.inr rfl
  have em : nI (K 0 1) - 1 = nI (K 0 1 - 1) := pk_sub (b := 1) hpos
  -- all behind the four writes
  have fin9 : ∀ σ1 σ2 σ3 σ4 σ5 σ6 : am_Sg, σ1 = am_up σ 54 (Q 0 0) (nI f) → σ2 = am_up σ1 55 (Q 0 0) (nI nt) → σ3 = am_up σ2 56 (Q 0 0) (nI (K 0 1 - 1)) → σ4 = am_up σ3 43 5 (nI (Q 0 0 + 1)) → LeR σ5 (K 0 1) f (fun _ _ => 0) → (∀ q, ¬ q = 53 → ¬ (155 ≤ q ∧ q ≤ 165) → σ5 q = σ4 q) → WH K (gQ K Q nt f) (Q 0 0 + 1) ∧ RepX σ5 1 K ∧ RepH σ5 (gQ K Q nt f) (Q 0 0 + 1) ∧ (σ6 43 1 = nI (s_cnt K (gQ K Q nt f)) → σ6 43 2 = 1 → (∀ z, z < K 0 2 → ∀ k, k < 3 → σ6 (45 + z) k = nI (s_tly K (gQ K Q nt f) z k)) → LeR σ6 (K 0 1) f (lvc K (gQ K Q nt f)) → (∀ i, ¬ i = 1 → ¬ i = 2 → σ6 43 i = σ5 43 i) → (∀ q, ¬ q = 43 → ¬ (45 ≤ q ∧ q ≤ 53) → ¬ (59 ≤ q ∧ q ≤ 103) → ¬ (156 ≤ q ∧ q ≤ 165) → σ6 q = σ5 q) → P none σ6 (tauY 0 156)) := by
    intro σ1 σ2 σ3 σ4 σ5 σ6 e1 e2 e3 e4 hL fr5
    have a0 : ∀ q, ¬ (54 ≤ q ∧ q ≤ 56) → ¬ q = 43 → ¬ q = 53 → ¬ (155 ≤ q ∧ q ≤ 165) → σ5 q = σ q := fun q h1 h2 h3 h4 => by rw [fr5 q h3 h4, e4, am_up_ne h2, e3, am_up_ne (by omega), e2, am_up_ne (by omega), e1, am_up_ne (by omega)]
    have a43 : ∀ i, ¬ i = 5 → σ5 43 i = σ 43 i := fun i hi => by rw [fr5 43 (by omega) (by omega), e4, up_ne hi, e3, up_rn (by omega), e2, up_rn (by omega), e1, up_rn (by omega)]
    have a54 : ∀ h, σ5 54 h = if h = Q 0 0 then nI f else σ 54 h := fun h => by rw [fr5 54 (by omega) (by omega), e4, up_rn (by omega), e3, up_rn (by omega), e2, up_rn (by omega), e1, up_if]
    have a55 : ∀ h, σ5 55 h = if h = Q 0 0 then nI nt else σ 55 h := fun h => by rw [fr5 55 (by omega) (by omega), e4, up_rn (by omega), e3, up_rn (by omega), e2, up_if, e1, up_rn (by omega)]
    have a56 : ∀ h, σ5 56 h = if h = Q 0 0 then nI (K 0 1 - 1) else σ 56 h := fun h => by rw [fr5 56 (by omega) (by omega), e4, up_rn (by omega), e3, up_if, e2, up_rn (by omega), e1, up_rn (by omega)]
    have a57 : σ5 57 = σ 57 := a0 57 (by omega) (by omega) (by omega) (by omega)
    refine ⟨⟨by rw [gQ_0]; exact hR10, Or.inr ⟨by rw [gQ_0], by rw [gQ_0, gQ_r.1]; omega⟩, fun h hh => ?_⟩, hR.frame (fun q h1 h2 => a0 q (by omega) (by omega) (by omega) (by omega)), ⟨by rw [gQ_0, a43 0 (by omega)]; exact e0, by rw [fr5 43 (by omega) (by omega), e4, up_at], fun h hh => ?_, fun h hh => ?_⟩, fun b1 b2 b3 b4 b5 b6 => ?_⟩
    · by_cases c : h = Q 0 0
      · rw [c, gQ_r.1, gQ_r.2.1, gQ_r.2.2, gQ_0]
        exact ⟨by omega, hf, hn1, fun q => absurd q (Nat.lt_irrefl _)⟩
      · rw [gQ_n c, gQ_n c, gQ_n c, gQ_n c]
        obtain ⟨q1, q2, q3, q4⟩ := hQ.2 h (by omega)
        exact ⟨q1, q2, q3, fun _ => q4⟩
    · rw [a54, a55, a56]
      by_cases c : h = Q 0 0
      · rw [if_pos c, if_pos c, if_pos c, c, gQ_r.1, gQ_r.2.1, gQ_r.2.2]
        exact ⟨rfl, rfl, rfl⟩
      · rw [if_neg c, if_neg c, if_neg c, gQ_n c, gQ_n c, gQ_n c]
        obtain ⟨q1, q2, q3, q4⟩ := hRQ.2 h (by omega)
        exact ⟨q1, q2, q3⟩
    · rw [gQ_0] at hh
      rw [a57, gQ_n (by omega)]
      exact (hRQ.2 h hh).2.2.2
    · rw [cnt_g.1] at b1
      rw [lvc_g] at b4
      refine hP σ6 ⟨b1, b2, fun z hz k hk => by rw [b3 z hz k hk, cnt_g.2]⟩ b4 ⟨by rw [b5 0 (by omega) (by omega), a43 0 (by omega)]; exact e0, fun k hk => ?_⟩ (fun q h1 h2 h3 h4 => by rw [b6 q h1 (by omega) h3 (by omega), a0 q (by omega) h1 (by omega) h4])
      rw [b6 54 (by omega) (by omega) (by omega) (by omega), b6 55 (by omega) (by omega) (by omega) (by omega), b6 56 (by omega) (by omega) (by omega) (by omega), b6 57 (by omega) (by omega) (by omega) (by omega), a54, a55, a56, a57, if_neg (by omega), if_neg (by omega), if_neg (by omega)]
      exact hRQ.2 k hk
  rcases hnt with ⟨rfl, rfl⟩ | ⟨rfl, rfl⟩
  all_goals
    refine hs (fun _ => false) 90 0 _ _ _ _ _ (And.intro (by rw [e0]; exact vr 54 rfl) (fun σ1 e1 => ?_))
    rw [e0, hcR] at e1
    have e1 : σ1 = am_up σ 54 (Q 0 0) (nI f) := e1
    have z1 : σ1 43 0 = nI (Q 0 0) := by rw [e1, up_rn (by omega)]; exact e0
    refine And.intro (by rw [z1]; exact vr 55 rfl) (And.intro n01 (fun σ2 e2 => ?_))
    rw [z1, hcR] at e2
    have e2 : σ2 = am_up σ1 55 (Q 0 0) (nI nt) := e2
    have z2 : σ2 43 0 = nI (Q 0 0) := by rw [e2, up_rn (by omega)]; exact z1
    have m2 : σ2 1 1 = nI (K 0 1) := by rw [e2, up_rn (by omega), e1, up_rn (by omega)]; exact eM
    refine And.intro (by rw [z2]; exact vr 56 rfl) (fun σ3 e3 σ4 e4 => ?_)
    rw [z2, m2, hcR, em] at e3
    have e3 : σ3 = am_up σ2 56 (Q 0 0) (nI (K 0 1 - 1)) := e3
    have z3 : σ3 43 0 = nI (Q 0 0) := by rw [e3, up_rn (by omega)]; exact z2
    rw [z3, ← nI_succ] at e4
    have e4 : σ4 = am_up σ3 43 5 (nI (Q 0 0 + 1)) := e4
    have m4 : σ4 1 1 = nI (K 0 1) := by rw [e4, up_rn (by omega), e3, up_rn (by omega)]; exact m2
    refine ⟨166, by omega, by omega, rfl, by first | exact Or.inl ⟨rfl, rfl⟩ | exact Or.inr ⟨rfl, rfl⟩, K 0 1, f, by rw [m4], hM, hf, fun σ5 hL fr5 => ?_⟩
    obtain ⟨x1, x2, x3, _⟩ := fin9 σ1 σ2 σ3 σ4 σ5 σ5 e1 e2 e3 e4 hL fr5
    refine ⟨rfl, by omega, 156, Q 0 0 + 1, K, gQ K Q nt f, rfl, rfl, hW, x1, x2, x3, fun _ => ⟨rfl, rfl, by rw [gQ_0, gQ_r.2.1]; exact hL⟩, fun σ6 b1 b2 b3 b4 b5 b6 => And.intro rfl ?_⟩
    have b4 := b4 (by rw [gQ_0])
    rw [gQ_0, gQ_r.2.1] at b4
    exact (fin9 σ1 σ2 σ3 σ4 σ5 σ6 e1 e2 e3 e4 hL fr5).2.2.2 b1 b2 b3 b4 b5 b6)
