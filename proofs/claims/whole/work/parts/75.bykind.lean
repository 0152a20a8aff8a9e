def FitI (σ : am_Sg) (n lf : Nat) (K Q : KT) (Hn : Nat) (Ta Le : Nat → Nat → Nat) : Prop := RepX σ 1 K ∧ RepH σ Q Hn ∧ (∀ z, z < K 0 2 → ∀ k, k < 3 → σ (45 + z) k = nI (Ta z k)) ∧ (Hn = Q 0 0 + 1 → n = 166 ∧ lf = 156 ∧ LeR σ (K 0 1) (Q 2 (Q 0 0)) Le)
theorem FitI.c {σ : am_Sg} {n lf Hn : Nat} {K Q : KT} {Ta Le Ta' Le' : Nat → Nat → Nat} (h : FitI σ n lf K Q Hn Ta Le) (h1 : ∀ z, z < K 0 2 → ∀ k, k < 3 → Ta z k = Ta' z k) (h2 : ∀ j, j < K 0 1 → ∀ v, v ≤ Q 2 (Q 0 0) → Le j v = Le' j v) : FitI σ n lf K Q Hn Ta' Le' := by
  obtain ⟨a1, a2, a3, a4⟩ := h
  refine ⟨a1, a2, fun z hz k hk => by rw [← h1 z hz k hk]; exact a3 z hz k hk, fun e => ?_⟩
  obtain ⟨b1, b2, b3, b4⟩ := a4 e
  exact ⟨b1, b2, fun j hj v hv => by rw [← h2 j hj v hv]; exact b3 j hj v hv, fun j hj => by rw [b4 j hj]; exact congrArg nI (mxV_c _ (fun v hv => h2 j hj v (by omega)))⟩
theorem FitI.fr {σ σ' : am_Sg} {n lf Hn : Nat} {K Q : KT} {Ta Le : Nat → Nat → Nat} (hO : K 0 2 ≤ 8) (hM : K 0 1 ≤ 10) (h : FitI σ n lf K Q Hn Ta Le) (hf : ∀ q, q ≤ 57 ∨ (156 ≤ q ∧ q ≤ 165) → σ' q = σ q) : FitI σ' n lf K Q Hn Ta Le := by
  obtain ⟨a1, a2, a3, a4⟩ := h
  refine ⟨a1.frame (fun q h1 h2 => hf q (by omega)), a2.fr (fun q hq => hf q (by omega)), fun z hz k hk => by rw [hf (45 + z) (by omega)]; exact a3 z hz k hk, fun e => ?_⟩
  obtain ⟨b1, b2, b3, b4⟩ := a4 e
  exact ⟨b1, b2, fun j hj v hv => by rw [hf (156 + j) (by omega)]; exact b3 j hj v hv, fun j hj => by rw [hf 53 (by omega)]; exact b4 j hj⟩
def taF (K Q : KT) (w x o : Nat) (Ta : Nat → Nat → Nat) : Nat → Nat → Nat := fun z k => Ta z k + (if o ≤ z then w * cG (K 0 2) (pT K Q z k) x o else 0)
def leF (K Q : KT) (w x o : Nat) (Le : Nat → Nat → Nat) : Nat → Nat → Nat := fun j v => Le j v + (if frm K o ≤ j + 1 then w * cG (K 0 2) (pV K Q j v) x o else 0)
def leK (K Q : KT) (w x o : Nat) (Le : Nat → Nat → Nat) : Nat → Nat → Nat := fun j v => Le j v + (if K 5 o ≤ j then w * cG (K 0 2) (pV K Q j v) x o else 0)
def FrW (o : Nat) (σ σ' : am_Sg) : Prop := ∀ q, ¬ (45 ≤ q ∧ q ≤ 53) → ¬ (59 + o ≤ q ∧ q ≤ 67) → ¬ (69 + o ≤ q ∧ q ≤ 77) → ¬ (79 + 3 * o ≤ q ∧ q ≤ 103) → ¬ (156 ≤ q ∧ q ≤ 165) → σ' q = σ q
def FrK (o : Nat) (σ σ' : am_Sg) : Prop := ∀ q, ¬ (45 ≤ q ∧ q ≤ 53) → ¬ (60 + o ≤ q ∧ q ≤ 67) → ¬ (70 + o ≤ q ∧ q ≤ 77) → ¬ (79 + 3 * o ≤ q ∧ q ≤ 103) → ¬ (156 ≤ q ∧ q ≤ 165) → σ' q = σ q
def Psd (K Q : KT) (x m : Nat) : Prop := ∀ k, k < Q 0 0 → Q 1 k + 1 < m → s_in K (kdw x) (Q 3 k) (Q 2 k) (Q 1 k + 1) = Q 4 k
def C_fitF (r : Nat) : am_C := fun av n σ τ nf P => nf = n ∧ 155 ≤ n ∧ ∃ (lf o rr w x Hn : Nat) (K Q : KT) (Ta Le : Nat → Nat → Nat), τ = tauY 0 lf ∧ av = [.ref 43, .ref 1, .int (nI o), .ref rr, .int (nI w)] ∧ (rr = 54 ∨ (79 ≤ rr ∧ rr ≤ 102)) ∧ o + r = K 0 2 ∧ x < 3 ^ o ∧ WfK K ∧ WH K Q Hn ∧ FitI σ n lf K Q Hn Ta Le ∧ RowC σ rr K Q Hn x o ∧ LevC σ K Q Hn x o ∧ Psd K Q x (frm K o) ∧ w * 3 ^ r ≤ 6561 ∧ (∀ j v, Le j v + w * 3 ^ r ≤ 6561) ∧
  ∀ σ', FitI σ' n lf K Q Hn (taF K Q w x o Ta) (leF K Q w x o Le) → FrW o σ σ' → (∀ j, j + 1 < frm K o → σ' 103 j = σ 103 j) → P (some (.int (nI (cG (K 0 2) (fitQ K Q) x o)))) σ' τ
def C_byK (r : Nat) : am_C := fun av n σ τ nf P => nf = n ∧ 155 ≤ n ∧ ∃ (lf o w x Hn : Nat) (K Q : KT) (Ta Le : Nat → Nat → Nat), τ = tauY 0 lf ∧ av = [.ref 43, .ref 1, .int (nI o), .int (nI w)] ∧ o + (r + 1) = K 0 2 ∧ x < 3 ^ o ∧ WfK K ∧ WH K Q Hn ∧ FitI σ n lf K Q Hn Ta Le ∧ WlC σ K Q Hn x o ∧ Psd K Q x (K 5 o + 1) ∧ w * 3 ^ (r + 1) ≤ 6561 ∧ (∀ j v, Le j v + w * 3 ^ (r + 1) ≤ 6561) ∧
  ∀ σ', FitI σ' n lf K Q Hn (taF K Q w x o Ta) (leK K Q w x o Le) → FrK o σ σ' → (∀ j, j < K 5 o → σ' 103 j = σ 103 j) → P (some (.int (nI (cG (K 0 2) (fitQ K Q) x o)))) σ' τ
def sK (O : Nat) (p : Nat → Bool) (x o : Nat) : Nat → Nat
  | 0 => 0
  | k + 1 => sK O p x o k + cG O p (x + 3 ^ o * k) (o + 1)
theorem sK_3 {O : Nat} {p : Nat → Bool} {x o : Nat} (ho : o < O) : sK O p x o 3 = cG O p x o := by
  rw [cG_step ho]
  show 0 + _ + _ + _ = _
  rw [Nat.zero_add]
theorem sK_le {O : Nat} {p : Nat → Bool} {x o : Nat} : ∀ k, sK O p x o k ≤ k * 3 ^ (O - (o + 1))
  | 0 => Nat.zero_le _
  | k + 1 => by
    have := sK_le (O := O) (p := p) (x := x) (o := o) k
    have c := cG_le (O := O) (p := p) (x := x + 3 ^ o * k) (o := o + 1)
    show sK O p x o k + _ ≤ _
    rw [Nat.add_mul, Nat.one_mul]
    omega
theorem sK_run {O : Nat} {p : Nat → Bool} {x o k : Nat} : ∀ a, (∀ i, i < a → cG O p (x + 3 ^ o * k) (o + 1) = cG O p (x + 3 ^ o * (k + i)) (o + 1)) → sK O p x o (k + a) = sK O p x o k + a * cG O p (x + 3 ^ o * k) (o + 1)
  | 0, _ => by rw [Nat.zero_mul]; rfl
  | a + 1, h => by
    have ih := sK_run (O := O) (p := p) (x := x) (o := o) (k := k) a (fun i hi => h i (by omega))
    show sK O p x o (k + a) + cG O p (x + 3 ^ o * (k + a)) (o + 1) = _
    rw [ih, ← h a (by omega), Nat.add_mul, Nat.one_mul, Nat.add_assoc]
theorem cGT {K Q : KT} {O x o k : Nat} (ho : o < O) (hx : x < 3 ^ o) (hk : k < 3) : cG O (pT K Q o k) x o = cG O (fitQ K Q) (x + 3 ^ o * k) (o + 1) := by
  have one : ∀ k', k' < 3 → cG O (pT K Q o k) (x + 3 ^ o * k') (o + 1) = if k' = k then cG O (fitQ K Q) (x + 3 ^ o * k) (o + 1) else 0 := fun k' hk' => by
    by_cases e : k' = k
    · rw [if_pos e, e]
      refine cG_c (fun y => ?_)
      unfold pT
      rw [kdw_at hx hk, beq_self_eq_true, Bool.and_true]
    · rw [if_neg e]
      refine cG_z (fun y => ?_)
      unfold pT
      rw [kdw_at hx hk', beq_eq_false_iff_ne.mpr e, Bool.and_false]
  rw [cG_step ho, one 0 (by omega), one 1 (by omega), one 2 (by omega)]
  rcases (show k = 0 ∨ k = 1 ∨ k = 2 by omega) with e | e | e <;> subst e
  · rw [if_pos rfl, if_neg (by omega), if_neg (by omega)]; omega
  · rw [if_pos rfl, if_neg (by omega), if_neg (by omega)]; omega
  · rw [if_pos rfl, if_neg (by omega), if_neg (by omega)]; omega
def taD (K Q : KT) (w x o : Nat) (Ta : Nat → Nat → Nat) (s dn : Nat) : Nat → Nat → Nat := fun z k => Ta z k + (if z = o then (if k < s then w * cG (K 0 2) (fitQ K Q) (x + 3 ^ o * k) (o + 1) else 0) else if o < z then w * sK (K 0 2) (pT K Q z k) x o dn else 0)
def leD (K Q : KT) (w x o : Nat) (Le : Nat → Nat → Nat) (dn : Nat) : Nat → Nat → Nat := fun j v => Le j v + (if K 5 o ≤ j then w * sK (K 0 2) (pV K Q j v) x o dn else 0)
set_option maxRecDepth 100000 in
theorem M_byKof (r d : Nat) (hF : am_Met (d + (2 * r + 4)) 608 (C_fitF r)) : am_Met (d + (2 * r + 5)) 609 (C_byK r) := am_meth (own0 := "CanalEnd$Worlds") 609 (d + (2 * r + 4)) 155 T_X6_fittingByKind (fun y => bif Nat.beq y 612 then C_takeBK else (bif Nat.beq y 613 then C_alikeF else (bif Nat.beq y 608 then C_fitF r else am_no))) (C_byK r) rfl F_X6_fittingByKind rfl (by decide +kernel) Tc_X6_fittingByKind (fun y => am_g (M_takeBK (d + (2 * r + 2))) (am_g (M_alikeF (d + (2 * r + 2))) (am_g hF am_no_met))) (by
  intro av n σ τ nf P hnf hC
  obtain ⟨rfl, hn, lf, o, w, x, Hn, K, Q, Ta, Le, rfl, rfl, hor, hx, hW, hH, hI, hwl, hps, hb1, hb2, hP⟩ := hC
  refine ⟨hn, rfl, Nat.le_of_ble_eq_true rfl, fun Wb hs => ?_⟩
  have hM := hW.2.1
  have hO8 := hW.2.2.1
  have ho : o < K 0 2 := by omega
  obtain ⟨w1, w2⟩ := hH.le
  have tN : tom K o = K 5 o := if_pos ho
  have ef : frm K (o + 1) = K 5 o + 1 := if_neg (by omega)
  have hco : (nI o).toNatClampNeg = o := nI_clamp (by omega)
  have i3 : ∀ k, (3 : Int32) * nI o + nI k = nI (3 * o + k) := fun k => by rw [show (3 : Int32) = nI 3 from rfl, pk_mul, nI_add]
  have pw : 3 ^ (r + 1) = 3 * 3 ^ r := by rw [Nat.pow_succ, Nat.mul_comm]
  have eO : K 0 2 - (o + 1) = r := by omega
  obtain ⟨a45, k45, l45⟩ := ok45 o (by omega)
  refine hs (fun p => Nat.beq p 15) 80 0 _ _ _ _ _ ⟨rfl, hn, lf, o, x, Hn, K, Q, rfl, rfl, ho, hW, hI.1, hH, hI.2.1, hwl, fun σ1 a1 a2 => ?_⟩
  have hI1 : FitI σ1 nf lf K Q Hn Ta Le := hI.fr hO8 hM (fun q hq => a2 q (by omega))
  -- rows of what is left, as they were written
  have rows : ∀ σ2 : am_Sg, FrW (o + 1) σ1 σ2 → ∀ h, h < Hn → K 5 o ≤ Q 1 h → ∀ k, k < 3 → σ2 (79 + 3 * o + k) h = nI (cs K Q (x + 3 ^ o * k) (o + 1) h).1 := fun σ2 hfw h hh h5 k hk => by
    rw [hfw (79 + 3 * o + k) (by omega) (by omega) (by omega) (by omega) (by omega), a1 h hh h5 k hk, cs_next hx hk]
  have csl : ∀ h k, h < Hn → (cs K Q (x + 3 ^ o * k) (o + 1) h).1 ≤ 9999 := fun h k hh => cs_le hH hh
  have k15 : ∀ m kd dn (σ2 : am_Sg) (x7 x8 x9 : Option Value), kd + m = 3 → kd ≤ dn → dn ≤ 3 → FitI σ2 nf lf K Q Hn (taD K Q w x o Ta dn dn) (leD K Q w x o Le dn) → FrW (o + 1) σ1 σ2 → (∀ j, j < K 5 o → σ2 103 j = σ1 103 j) → Wb 15 [some (.ref 43), some (.ref 1), some (.int (nI o)), some (.int (nI w)), some (.int (nI (sK (K 0 2) (fitQ K Q) x o dn))), some (.int (nI dn)), some (.int (nI kd)), x7, x8, x9] [] nf σ2 (tauY 0 lf) := by
    intro m
    induction m with
    | zero =>
      intro kd dn σ2 x7 x8 x9 hm h1 h2 f1 f2 f3
      have e1 : kd = 3 := by omega
      have e2 : dn = 3 := by omega
      subst e1
      subst e2
      refine hs (fun p => Nat.beq p 15) 80 15 _ _ _ _ _ (vc_t (by decide) (And.intro rfl ?_))
      rw [sK_3 ho]
      refine hP σ2 (f1.c (fun z hz k hk => ?_) (fun j hj v hv => ?_)) (fun q x1 x2 x3 x4 x5 => by rw [f2 q x1 (by omega) (by omega) (by omega) x5, a2 q (by omega)]) (fun j hj => by rw [f3 j hj, a2 103 (by omega)])
      · unfold taD taF
        by_cases c : z = o
        · subst c
          rw [if_pos rfl, if_pos hk, if_pos (Nat.le_refl _), cGT ho hx hk]
        · rw [if_neg c]
          by_cases c2 : o < z
          · rw [if_pos c2, if_pos (by omega), sK_3 ho]
          · rw [if_neg c2, if_neg (by omega)]
      · unfold leD leK
        rw [sK_3 ho]
    | succ m ih =>
      intro kd dn σ2 x7 x8 x9 hm h1 h2 f1 f2 f3
      have e5 : σ2 43 5 = nI Hn := f1.2.1.2.1
      refine hs (fun p => Nat.beq p 15 || Nat.beq p 76) 90 15 _ _ _ _ _ (vc_f (nI_ge (b := 3) (by omega) (by omega)) (vc_if (fun c => ?_) (fun c => ?_)))
      case refine_2 =>
        have c : kd < dn := by
          by_cases q : kd < dn
          · exact q
          · exact absurd (nI_le (by omega) (by omega)) c
        have h9 := ih (kd + 1) dn σ2 x7 x8 x9 (by omega) (by omega) h2 f1 f2 f3
        rw [nI_succ] at h9
        exact h9
      have c := (nI_leI (by omega) (by omega)).mp c
      have e : dn = kd := by omega
      subst e
      refine ⟨rfl, hn, lf, o, dn, Hn, rfl, rfl, by omega, by omega, e5, w2, fun a ha1 hka hal => ?_⟩
      -- kinds that are alike
      have al : ∀ i, i < a → ∀ g, g < Hn → K 5 o ≤ Q 1 g → (cs K Q (x + 3 ^ o * dn) (o + 1) g).1 = (cs K Q (x + 3 ^ o * (dn + i)) (o + 1) g).1 := fun i hi g hg h5 => by
        have e1 := hal i hi g hg
        rw [rows σ2 f2 g hg h5 dn (by omega), rows σ2 f2 g hg h5 (dn + i) (by omega)] at e1
        exact nI_inj (by have := csl g dn hg; omega) (by have := csl g (dn + i) hg; omega) e1
      have alw := fun i (hi : i < a) => alike_w hW hH ho hx (show dn < 3 by omega) (show dn + i < 3 by omega) (al i hi)
      have alF : ∀ i, i < a → cG (K 0 2) (fitQ K Q) (x + 3 ^ o * dn) (o + 1) = cG (K 0 2) (fitQ K Q) (x + 3 ^ o * (dn + i)) (o + 1) := fun i hi => cG_c (fun y => (alw i hi y).2.1)
      have alT : ∀ z k, o < z → ∀ i, i < a → cG (K 0 2) (pT K Q z k) (x + 3 ^ o * dn) (o + 1) = cG (K 0 2) (pT K Q z k) (x + 3 ^ o * (dn + i)) (o + 1) := fun z k hz i hi => cG_c (fun y => by
        unfold pT
        rw [(alw i hi y).2.1, (alw i hi y).2.2 z hz])
      have alV : Hn = Q 0 0 + 1 → ∀ j v, j < K 0 1 → K 5 o ≤ j → ∀ i, i < a → cG (K 0 2) (pV K Q j v) (x + 3 ^ o * dn) (o + 1) = cG (K 0 2) (pV K Q j v) (x + 3 ^ o * (dn + i)) (o + 1) := fun hg j v hj h5 i hi => cG_c (fun y => by
        unfold pV
        have q1 : Q 1 (Q 0 0) + 1 = K 0 1 := by
          have := hH.2.1
          omega
        have q5 := (hW.2.2.2.2.2.2.2.2.2 o ho).1
        rw [(alw i hi y).2.1, (alw i hi y).1 (Q 0 0) (by omega) j hj h5 (by omega)])
      have wa : w * a * 3 ^ r ≤ w * 3 ^ (r + 1) := by
        rw [pw, Nat.mul_assoc]
        exact Nat.mul_le_mul_left w (Nat.mul_le_mul_right _ (by omega))
      have bd : ∀ j v, leD K Q w x o Le dn j v + w * a * 3 ^ r ≤ 6561 := fun j v => by
        have b9 := hb2 j v
        have s9 := sK_le (O := (K 0 2)) (p := pV K Q j v) (x := x) (o := o) dn
        rw [eO] at s9
        have m9 : w * sK (K 0 2) (pV K Q j v) x o dn ≤ w * (dn * 3 ^ r) := Nat.mul_le_mul_left w s9
        have t9 : w * (dn * 3 ^ r) + w * a * 3 ^ r ≤ w * 3 ^ (r + 1) := by
          rw [pw, Nat.mul_assoc, ← Nat.mul_add, ← Nat.add_mul]
          exact Nat.mul_le_mul_left w (Nat.mul_le_mul_right _ (by omega))
        unfold leD
        split <;> omega
      refine And.intro (by rw [i3]; exact vin (show 3 * o + dn < 24 by omega)) ?_
      rw [i3, nI_clamp (by omega)]
      refine aal (z := 79 + 3 * o + dn) (by rw [t78 (by omega)]; omega) ⟨rfl, hn, lf, o + 1, 79 + 3 * o + dn, w * a, x + 3 ^ o * dn, Hn, K, Q, taD K Q w x o Ta dn dn, leD K Q w x o Le dn, rfl, by rw [← nI_succ, pk_mul], Or.inr ⟨by omega, by omega⟩, by omega, x_lt hx (by omega), hW, hH, f1, fun h hh h5 => rows σ2 f2 h hh (by omega) dn (by omega), fun _ h hh h5 => ?_, fun k hk h5 => ?_, by omega, bd, fun σ3 b1 b2 b3 => ?_⟩
      · rw [show 68 + (o + 1) = 69 + o by omega, f2 (69 + o) (by omega) (by omega) (by omega) (by omega) (by omega), a2 (69 + o) (by omega), (hwl h hh (by omega)).2, cs_next hx (by omega)]
      · have bk := (hH.2.2 k (by omega)).1
        rw [pass_d hW ho bk (by omega) (kd' := kdw x) (fun z hz => kdw_pre hz)]
        exact hps k hk (by omega)
      -- what came of it
      have g1 : FitI σ3 nf lf K Q Hn (taD K Q w x o Ta dn (dn + a)) (leD K Q w x o Le (dn + a)) := by
        refine ⟨b1.1, b1.2.1, fun z hz k hk => ?_, fun hg => ?_⟩
        · rw [b1.2.2.1 z hz k hk]
          refine congrArg nI ?_
          unfold taF taD
          by_cases c2 : z = o
          · rw [if_pos c2, if_pos c2, if_neg (show ¬ o + 1 ≤ z by omega), Nat.add_zero]
          · rw [if_neg c2, if_neg c2]
            by_cases c3 : o < z
            · rw [if_pos c3, if_pos c3, if_pos (by omega), sK_run a (alT z k c3), Nat.mul_add, Nat.mul_assoc, Nat.add_assoc]
            · rw [if_neg c3, if_neg c3, if_neg (by omega), Nat.add_zero]
        · obtain ⟨u1, u2, u3, u4⟩ := b1.2.2.2 hg
          have eq : ∀ j v, j < K 0 1 → leF K Q (w * a) (x + 3 ^ o * dn) (o + 1) (leD K Q w x o Le dn) j v = leD K Q w x o Le (dn + a) j v := fun j v hj => by
            unfold leF leD
            rw [ef]
            by_cases c3 : K 5 o ≤ j
            · rw [if_pos c3, if_pos c3, if_pos (by omega), sK_run a (alV hg j v hj c3), Nat.mul_add, Nat.mul_assoc, Nat.add_assoc]
            · rw [if_neg c3, if_neg c3, if_neg (by omega), Nat.add_zero]
          exact ⟨u1, u2, fun j hj v hv => by rw [u3 j hj v hv, eq j v hj], fun j hj => by rw [u4 j hj]; exact congrArg nI (mxV_c _ (fun v _ => eq j v hj))⟩
      have k76 : ∀ q s (σ4 : am_Sg), s + q = dn + a → dn ≤ s → FitI σ4 nf lf K Q Hn (taD K Q w x o Ta s (dn + a)) (leD K Q w x o Le (dn + a)) → (∀ q, ¬ q = 45 + o → σ4 q = σ3 q) → Wb 76 [some (.ref 43), some (.ref 1), some (.int (nI o)), some (.int (nI w)), some (.int (nI (sK (K 0 2) (fitQ K Q) x o dn))), some (.int (nI (dn + a))), some (.int (nI dn)), some (.int (nI a)), some (.int (nI (cG (K 0 2) (fitQ K Q) (x + 3 ^ o * dn) (o + 1)))), some (.int (nI s))] [] nf σ4 (tauY 0 lf) := by
        intro q
        induction q with
        | zero =>
          intro s σ4 hq hs1 y1 y2
          have hq : s = dn + a := by omega
          subst hq
          have h9 := ih (dn + 1) (dn + a) σ4 (some (.int (nI a))) (some (.int (nI (cG (K 0 2) (fitQ K Q) (x + 3 ^ o * dn) (o + 1))))) (some (.int (nI (dn + a)))) (by omega) (by omega) hka y1 (fun q x1 x2 x3 x4 x5 => by rw [y2 q (by omega), b2 q x1 x2 x3 x4 x5, f2 q x1 x2 x3 x4 x5]) (fun j hj => by rw [y2 103 (by omega), b3 j (by omega), f3 j hj])
          rw [sK_run a alF, ← nI_add, Nat.mul_comm a, ← pk_mul, nI_succ] at h9
          exact hs (fun p => Nat.beq p 15 || Nat.beq p 76) 80 76 _ _ _ _ _ (vc_t (nI_le (Nat.le_refl _) (by omega)) h9)
        | succ q ih6 =>
          intro s σ4 hq hs1 y1 y2
          have hcs : (nI s).toNatClampNeg = s := nI_clamp (by omega)
          have vs : vp_in (nI s) (am_len (45 + o)) := vin (by rw [l45]; omega)
          refine hs (fun p => Nat.beq p 15 || Nat.beq p 76) 80 76 _ _ _ _ _ (vc_f (nI_ge (by omega) (by omega)) (And.intro (vin (show o < 8 by omega)) ?_))
          rw [hco]
          refine aal (t44 (by omega)) (vc_gd (gdr a45 k45) (And.intro vs (vc_gd (gdr a45 k45) (And.intro vs (fun σ5 e6 => ?_)))))
          rw [hcs, y1.2.2.1 o ho s (by omega), pk_mul, nI_add] at e6
          have e6 : σ5 = am_up σ4 (45 + o) s (nI (taD K Q w x o Ta s (dn + a) o s + cG (K 0 2) (fitQ K Q) (x + 3 ^ o * dn) (o + 1) * w)) := e6
          have fr5 : ∀ q, ¬ q = 45 + o → σ5 q = σ4 q := fun q hq => by rw [e6, am_up_ne hq]
          have h9 := ih6 (s + 1) σ5 (by omega) (by omega) ⟨y1.1.frame (fun q z1 z2 => fr5 q (by omega)), y1.2.1.fr (fun q hq => fr5 q (by omega)), fun z hz k hk => ?_, fun hg => ?_⟩ (fun q hq => by rw [fr5 q hq, y2 q hq])
          · rw [nI_succ] at h9
            exact h9
          · by_cases c2 : z = o
            · subst c2
              by_cases c3 : k = s
              · subst c3
                rw [e6, up_at]
                refine congrArg nI ?_
                unfold taD
                rw [if_pos rfl, if_pos rfl, if_neg (Nat.lt_irrefl _), if_pos (Nat.lt_succ_self _), Nat.add_zero, Nat.mul_comm]
                have := alF (k - dn) (by omega)
                rw [show dn + (k - dn) = k by omega] at this
                rw [this]
              · rw [e6, up_ne c3, y1.2.2.1 z hz k hk]
                refine congrArg nI ?_
                unfold taD
                rw [if_pos rfl, if_pos rfl]
                by_cases c4 : k < s
                · rw [if_pos c4, if_pos (by omega)]
                · rw [if_neg c4, if_neg (by omega)]
            · rw [fr5 (45 + z) (by omega), y1.2.2.1 z hz k hk]
              refine congrArg nI ?_
              unfold taD
              rw [if_neg c2, if_neg c2]
          · obtain ⟨u1, u2, u3, u4⟩ := y1.2.2.2 hg
            exact ⟨u1, u2, fun j hj v hv => by rw [fr5 (156 + j) (by omega)]; exact u3 j hj v hv, fun j hj => by rw [fr5 53 (by omega)]; exact u4 j hj⟩
      have h9 := k76 a dn σ3 (by omega) (Nat.le_refl _) g1 (fun _ _ => rfl)
      rw [← nI_add dn a] at h9
      exact h9
  have e0 : FitI σ1 nf lf K Q Hn (taD K Q w x o Ta 0 0) (leD K Q w x o Le 0) := hI1.c (fun z hz k hk => by
    unfold taD
    by_cases c : z = o
    · rw [if_pos c, if_neg (by omega), Nat.add_zero]
    · rw [if_neg c]
      show Ta z k = Ta z k + (if o < z then w * 0 else 0)
      rw [Nat.mul_zero]
      split <;> rfl) (fun j hj v hv => by
    unfold leD
    show Le j v = Le j v + (if K 5 o ≤ j then w * 0 else 0)
    rw [Nat.mul_zero]
    split <;> rfl)
  exact k15 3 0 0 σ1 none none none rfl (Nat.le_refl _) (by omega) e0 (fun _ _ _ _ _ _ => rfl) (fun _ _ => rfl))
