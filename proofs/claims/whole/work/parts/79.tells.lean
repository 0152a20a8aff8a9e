def ws (K Q : KT) (nt f j : Nat) : Nat := mxV (lvq K Q nt f j) (f + 1)
def tb (g : Nat → Nat) : Nat → Nat → Nat → Nat
  | 0, _, b => b
  | r + 1, j, b => tb g r (j + 1) (if g b ≤ g j then b else j)
theorem tb_y {g : Nat → Nat} {r j b : Nat} (h : g b ≤ g j) : tb g (r + 1) j b = tb g r (j + 1) b := by
  show tb g r (j + 1) (if g b ≤ g j then b else j) = _
  rw [if_pos h]
theorem tb_n {g : Nat → Nat} {r j b : Nat} (h : ¬ g b ≤ g j) : tb g (r + 1) j b = tb g r (j + 1) j := by
  show tb g r (j + 1) (if g b ≤ g j then b else j) = _
  rw [if_neg h]
theorem ws_le {K Q : KT} {nt f j : Nat} (h : WfK K) : ws K Q nt f j ≤ 6561 := mxV_ub _ (fun v _ => Nat.le_trans (ctN_le _) (p3_8 _ (by have := h.2.2.1; omega)))
abbrev okT (f w : Int32) (s : ST) : Prop := (inN f 10000 ∧ inN w 2) ∧ ¬ s.1 0 1 = 0
def f_tells (f : Int32) (nt : Nat) (w : Int32) (s : ST) : Value × ST := (.int (if inN f 10000 ∧ inN w 2 then (if s.1 0 1 = 0 then -3 else if s_cnt s.1 s.2.1 = 0 then -3 else if w = 0 then nI (tb (ws s.1 s.2.1 nt f.toNatClampNeg) (s.1 0 1 - 1) 1 0) else nI (ws s.1 s.2.1 nt f.toNatClampNeg (tb (ws s.1 s.2.1 nt f.toNatClampNeg) (s.1 0 1 - 1) 1 0))) else -2), s)
def C_xtells : am_C := fun av n σ τ nf P => ∃ (f : Int32) (nt : Nat) (w : Int32) (lf : Nat) (s : ST), nt ≤ 1 ∧ τ = tauY 0 lf ∧ IX σ n lf s ∧ av = [.ref 0, .int f, .int (nI nt), .int w] ∧ nf = (if okT f w s then 166 else n) ∧ ∀ σ' lf', IX σ' nf lf' (f_tells f nt w s).2 → FrX σ σ' → P (some (f_tells f nt w s).1) σ' (tauY 0 lf')
set_option maxRecDepth 100000 in
theorem M_xtells (d : Nat) : am_Met (d + 23) 719 C_xtells := am_meth (own0 := "CanalEnd") 719 (d + 22) 155 T_X7_tells (fun y => bif Nat.beq y 741 then C_isWater else (bif Nat.beq y 740 then C_isIn else (bif Nat.beq y 745 then C_isCanal else (bif Nat.beq y 605 then C_cntG else (am_no))))) C_xtells rfl F_X7_tells rfl (by decide +kernel) Tc_X7_tells (fun y => am_g (M_isWater (d + 20)) (am_g (M_isIn (d + 21)) (am_g (M_isCanal (d + 21)) (am_g (M_cntG (d + 0)) (am_no_met))))) (by
  intro av n σ τ nf P hnf hC
  obtain ⟨f, nt, w, lf, ⟨K, Q, S, Ce, fl, tr⟩, hnt, rfl, hI, rfl, hnf2, hP⟩ := hC
  have hN := hI.2.2.2.2.2.2.2.2.2
  have hn := Nlf_le hN
  refine ⟨hn, rfl, Nat.le_of_ble_eq_true rfl, fun Wb hs => ?_⟩
  have hI : InvX σ n lf K Q S Ce fl tr := hI
  have hK := hI.1
  have hR := hI.2.1
  have hM10 := hK.2.1
  have eM : σ 1 1 = nI (K 0 1) := hR.1 1 (by omega)
  have no : ¬ okT f w (K, Q, S, Ce, fl, tr) → ∀ r : Int32, (f_tells f nt w (K, Q, S, Ce, fl, tr)).1 = .int r → n = nf ∧ P (some (.int r)) σ (tauY 0 lf) := fun g r e => by
    rw [if_neg g] at hnf2
    subst hnf2
    have h9 := hP σ lf hI (fun _ _ _ => rfl)
    rw [e] at h9
    exact ⟨rfl, h9⟩
  have hw := in_iff (v := w) (c := 1) (N := 2) rfl
  -- behind the count
  have main : ∀ u, u < 10000 → f = nI u → inN f 10000 → inN w 2 → ¬ K 0 1 = 0 → nf = 166 → ∀ σ2 : am_Sg, CtF σ2 K Q → LeR σ2 (K 0 1) u (lvq K Q nt u) → RepQ σ2 Q → (∀ q, ¬ q = 43 → ¬ (45 ≤ q ∧ q ≤ 56) → ¬ (59 ≤ q ∧ q ≤ 103) → ¬ (155 ≤ q ∧ q ≤ 165) → σ2 q = σ q) → Wb 42 [some (.ref 0), some (.int (nI u)), some (.int (nI nt)), some (.int w), none, none] [] 166 σ2 (tauY 0 156) := by
    intro u hu e g1 g2 g3 e166 σ2 a1 a2 a3 a4
    subst e
    subst e166
    have hcu : (nI u).toNatClampNeg = u := nI_clamp (by omega)
    have cl := s_cnt_le (Q := Q) hK
    have wl := fun j => ws_le (Q := Q) (nt := nt) (f := u) (j := j) hK
    have I2 : InvX σ2 166 156 K Q S Ce fl tr := by
      obtain ⟨h1, h2, h3, h4, h5, h6, h7, h8, h9, h10⟩ := hI
      have fr : ∀ q, q ≤ 42 ∨ (104 ≤ q ∧ q ≤ 154) → σ2 q = σ q := fun q hq => a4 q (by omega) (by omega) (by omega) (by omega)
      refine ⟨h1, h2.frame (fun q y1 y2 => fr q (by omega)), h3, a3, ⟨Or.inr a1.2.1, fun _ => ⟨a1.1, a1.2.2⟩⟩, h6, ?_, ?_, h9.fr (fr 11 (by omega)) (fr 22 (by omega)), Or.inr ⟨rfl, rfl⟩⟩
      · intro k hk
        rw [fr (108 + 2 * k) (by omega), fr (109 + 2 * k) (by omega)]
        exact h7 k hk
      · unfold RepZ
        rw [fr 0 (by omega)]
        exact h8
    have F2 : FrX σ σ2 := fun q y1 y2 => a4 q (by omega) (by omega) (by omega) (by omega)
    have fin : ∀ r : Int32, (f_tells (nI u) nt w (K, Q, S, Ce, fl, tr)).1 = .int r → P (some (.int r)) σ2 (tauY 0 156) := fun r er => by
      have h9 := hP σ2 156 I2 F2
      rw [er] at h9
      exact h9
    have eM2 : σ2 1 1 = nI (K 0 1) := I2.2.1.1 1 (by omega)
    have k61 : ∀ r j b, j + r = K 0 1 → b < K 0 1 → ¬ s_cnt K Q = 0 → tb (ws K Q nt u) r j b = tb (ws K Q nt u) (K 0 1 - 1) 1 0 → Wb 61 [some (.ref 0), some (.int (nI u)), some (.int (nI nt)), some (.int w), some (.int (nI b)), some (.int (nI j))] [] 166 σ2 (tauY 0 156) := by
      intro r
      induction r with
      | zero =>
        intro j b hj hb hc e
        have e : b = tb (ws K Q nt u) (K 0 1 - 1) 1 0 := e
        have hcb : (nI b).toNatClampNeg = b := nI_clamp (by omega)
        refine hs (fun p => Nat.beq p 61) 60 61 _ _ _ _ _ (vc_t (by rw [eM2]; exact nI_le (by omega) (by omega)) (vc_if (fun q => And.intro rfl (fin _ ?_)) (fun q => And.intro (vin (q := 53) (show b < 10 by omega)) (And.intro rfl ?_))))
        · unfold f_tells
          rw [if_pos ⟨g1, g2⟩, if_neg g3, if_neg hc, if_pos q, hcu, ← e]
        · rw [hcb, a2.2 b hb]
          refine fin _ ?_
          unfold f_tells
          rw [if_pos ⟨g1, g2⟩, if_neg g3, if_neg hc, if_neg q, hcu, ← e]
          rfl
      | succ r ih =>
        intro j b hj hb hc e
        have hcb : (nI b).toNatClampNeg = b := nI_clamp (by omega)
        have hcj : (nI j).toNatClampNeg = j := nI_clamp (by omega)
        have l1 := wl b
        have l2 := wl j
        refine hs (fun p => Nat.beq p 61) 60 61 _ _ _ _ _ (vc_f (by rw [eM2]; exact nI_ge (by omega) (by omega)) (And.intro (vin (q := 53) (show j < 10 by omega)) (And.intro (vin (q := 53) (show b < 10 by omega)) (vc_if (fun q => ?_) (fun q => ?_)))))
        · have q : σ2 53 (nI b).toNatClampNeg ≤ σ2 53 (nI j).toNatClampNeg := q
          rw [hcb, hcj, a2.2 b hb, a2.2 j (by omega)] at q
          have q : ws K Q nt u b ≤ ws K Q nt u j := (nI_leI (by omega) (by omega)).mp q
          have h9 := ih (j + 1) b (by omega) hb hc (by rw [← e, tb_y q])
          rw [nI_succ] at h9
          exact h9
        · have q : ¬ σ2 53 (nI b).toNatClampNeg ≤ σ2 53 (nI j).toNatClampNeg := q
          rw [hcb, hcj, a2.2 b hb, a2.2 j (by omega)] at q
          have q : ¬ ws K Q nt u b ≤ ws K Q nt u j := fun w9 => q (nI_le w9 (by unfold ws at l2; omega))
          have h9 := ih (j + 1) j (by omega) (by omega) hc (by rw [← e, tb_n q])
          rw [nI_succ] at h9
          exact h9
    refine hs (fun p => Nat.beq p 61) 60 42 _ _ _ _ _ (vc_if (fun q => And.intro rfl (fin _ ?_)) (fun q => ?_))
    · rw [a1.1] at q
      have q := nI_inj (b := 0) (by omega) (by omega) q
      unfold f_tells
      rw [if_pos ⟨g1, g2⟩, if_neg g3, if_pos q]
    · rw [a1.1] at q
      exact k61 (K 0 1 - 1) 1 0 (by omega) (by omega) (fun w9 => q (by rw [w9]; rfl)) rfl
  rcases hN with ⟨rfl, rfl⟩ | ⟨rfl, rfl⟩
  all_goals
    refine hs (fun p => Nat.beq p 42) 80 0 _ _ _ _ _ ⟨rfl, f, rfl, fun g => vc_f (by decide) ⟨rfl, w, 0, 1, rfl, fun g2 => vc_f (by decide) ⟨rfl, hn, _, K 0 1, rfl, rfl, eM, by omega, fun g3 => vc_t rfl (no (fun q => q.2 g3) _ (by unfold f_tells; rw [if_pos ⟨g, hw.mp g2⟩, if_pos g3])), fun g3 => vc_f (by decide) ?_⟩, fun g2 => vc_t rfl (no (fun q => g2 (hw.mpr q.1.2)) _ (by unfold f_tells; rw [if_neg (fun q => g2 (hw.mpr q.2))]))⟩, fun g => vc_t rfl (no (fun q => g q.1.1) _ (by unfold f_tells; rw [if_neg (fun q => g q.1)]))⟩
    obtain ⟨u, hu, e⟩ := inN_ex g
    have e166 : nf = 166 := by
      rw [if_pos (show okT f w (K, Q, S, Ce, fl, tr) from ⟨⟨g, hw.mp g2⟩, g3⟩)] at hnf2
      exact hnf2
    have mm := main u hu e g (hw.mp g2) g3 e166
    subst e
    exact ⟨166, by omega, by omega, rfl, by first | exact Or.inl ⟨rfl, rfl⟩ | exact Or.inr ⟨rfl, rfl⟩, u, nt, K, Q, rfl, by omega, hnt, hK, by omega, hI.2.2.1, hR, hI.2.2.2.1, fun σ2 a1 a2 a3 a4 => mm σ2 a1 a2 a3 a4⟩)
