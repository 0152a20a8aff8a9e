def bI : Bool → Int32
  | true => 1
  | false => 0
theorem dg_ex {v : Int32} {e : Nat} (h : 48 + (e : Int) ≤ v.toInt ∧ v.toInt ≤ 57) : ∃ z, dg v = some z ∧ v - 48 = nI z ∧ z ≤ 9 ∧ e ≤ z := by
  obtain ⟨z, h2, he⟩ : ∃ z, dg v = some z ∧ e ≤ z := ⟨(v.toInt - 48).toNat, if_pos (by omega), by omega⟩
  have y := dg_y h2
  refine ⟨z, h2, ?_, y.1, he⟩
  rw [y.2.1]
  have := pk_sub (a := 48 + z) (b := 48) (by omega)
  rw [Nat.add_sub_cancel_left] at this
  exact this
theorem dg_no {v : Int32} {e : Nat} (h : ¬ (48 + (e : Int) ≤ v.toInt ∧ v.toInt ≤ 57)) : dg v = none ∨ ∃ z, dg v = some z ∧ z < e := by
  by_cases g : 48 ≤ v.toInt ∧ v.toInt ≤ 57
  · exact Or.inr ⟨_, if_pos g, by omega⟩
  · exact Or.inl (if_neg g)
def pO1 (cd : Nat → Int32) (p : Nat) (K : KT) : PR := match dg (cd p) with
  | none => (false, p, K)
  | some z => if z = 0 then (false, p, K) else (match dg (cd (p + 1)) with
    | none => (false, p + 1, K)
    | some h => (true, p + 2, addO K z h))
theorem pO1_a {cd : Nat → Int32} {p : Nat} {K : KT} (h : dg (cd p) = none ∨ ∃ z, dg (cd p) = some z ∧ z < 1) : pO1 cd p K = (false, p, K) := by
  unfold pO1
  rcases h with h | ⟨z, h, hz⟩
  · rw [h]
  · rw [h]
    exact if_pos (by omega)
theorem pO1_b {cd : Nat → Int32} {p z : Nat} {K : KT} (h : dg (cd p) = some z) (hz : ¬ z = 0) (h2 : dg (cd (p + 1)) = none) : pO1 cd p K = (false, p + 1, K) := by
  unfold pO1
  rw [h]
  show (if z = 0 then _ else _) = _
  rw [if_neg hz, h2]
theorem pO1_c {cd : Nat → Int32} {p z t : Nat} {K : KT} (h : dg (cd p) = some z) (hz : ¬ z = 0) (h2 : dg (cd (p + 1)) = some t) : pO1 cd p K = (true, p + 2, addO K z t) := by
  unfold pO1
  rw [h]
  show (if z = 0 then _ else _) = _
  rw [if_neg hz, h2]
theorem pO1_t {cd : Nat → Int32} {p : Nat} {K : KT} (h : (pO1 cd p K).1 = true) : ∃ z t, pO1 cd p K = (true, p + 2, addO K z t) ∧ dg (cd (p + 1)) = some t := by
  cases e1 : dg (cd p) with
  | none => rw [pO1_a (Or.inl e1)] at h; cases h
  | some z =>
    by_cases z0 : z = 0
    · rw [pO1_a (Or.inr ⟨z, e1, by omega⟩)] at h; cases h
    · cases e2 : dg (cd (p + 1)) with
      | none => rw [pO1_b e1 z0 e2] at h; cases h
      | some t => exact ⟨z, t, pO1_c e1 z0 e2, rfl⟩
theorem pOut_n {cd : Nat → Int32} {r p : Nat} {K : KT} (c : ¬ cd p = 111) : pOut cd (r + 1) p K = (true, p, K) := if_neg c
theorem pOut_y {cd : Nat → Int32} {r p : Nat} {K : KT} (c : cd p = 111) : pOut cd (r + 1) p K = if (pO1 cd (p + 1) K).1 = true then pOut cd r (pO1 cd (p + 1) K).2.1 (pO1 cd (p + 1) K).2.2 else pO1 cd (p + 1) K := by
  have u : pOut cd (r + 1) p K = (match dg (cd (p + 1)) with
    | none => (false, p + 1, K)
    | some z => if z = 0 then (false, p + 1, K) else (match dg (cd (p + 2)) with
      | none => (false, p + 2, K)
      | some h => pOut cd r (p + 3) (addO K z h))) := if_pos c
  rw [u]
  cases e1 : dg (cd (p + 1)) with
  | none => rw [pO1_a (Or.inl e1)]; rfl
  | some z =>
    show (if z = 0 then _ else _) = _
    by_cases z0 : z = 0
    · rw [if_pos z0, pO1_a (Or.inr ⟨z, e1, by omega⟩)]; rfl
    · rw [if_neg z0]
      cases e2 : dg (cd (p + 2)) with
      | none => rw [pO1_b e1 z0 e2]; rfl
      | some t => rw [pO1_c e1 z0 e2]; rfl
theorem pOne_1 {cd : Nat → Int32} {p : Nat} {K : KT} (c : ¬ cd p = 59) : pOne cd p K = (false, p, K) := if_neg c
theorem pOne_2 {cd : Nat → Int32} {p : Nat} {K : KT} (c : cd p = 59) (c2 : ¬ cd (p + 1) = 109) : pOne cd p K = (false, p + 1, K) := by unfold pOne; rw [if_pos c, if_neg c2]
theorem pOne_m {cd : Nat → Int32} {p : Nat} {K : KT} (c : cd p = 59) (c2 : cd (p + 1) = 109) : pOne cd p K = pMile cd (p + 2) K := by unfold pOne; rw [if_pos c, if_pos c2]
theorem pMile_1 {cd : Nat → Int32} {p : Nat} {K : KT} (e : dg (cd p) = none) : pMile cd p K = (false, p, K) := by unfold pMile; rw [e]
theorem pMile_2 {cd : Nat → Int32} {p a : Nat} {K : KT} (e : dg (cd p) = some a) (e2 : dg (cd (p + 1)) = none) : pMile cd p K = (false, p + 1, K) := by
  unfold pMile
  rw [e]
  show (match dg (cd (p + 1)) with
    | none => (false, p + 1, K)
    | some b => pOut cd (8 - K 0 2) (p + 2) (addM K a b)) = _
  rw [e2]
theorem pMile_3 {cd : Nat → Int32} {p a b : Nat} {K : KT} (e : dg (cd p) = some a) (e2 : dg (cd (p + 1)) = some b) : pMile cd p K = pOut cd (8 - K 0 2) (p + 2) (addM K a b) := by
  unfold pMile
  rw [e]
  show (match dg (cd (p + 1)) with
    | none => (false, p + 1, K)
    | some b => pOut cd (8 - K 0 2) (p + 2) (addM K a b)) = _
  rw [e2]
theorem dg_0n {v : Int32} (h : ¬ (48 + ((0 : Nat) : Int) ≤ v.toInt ∧ v.toInt ≤ 57)) : dg v = none := by
  rcases dg_no h with h | ⟨z, _, hz⟩
  · exact h
  · omega
def TxS (σ0 σ : am_Sg) (k i m p : Nat) (c : Nat → Int32) (K : KT) : Prop := TxI σ k i m p c ∧ RepP σ K ∧ G2 σ ∧ ∀ q, ¬ q = 23 → ¬ (12 ≤ q ∧ q ≤ 22) → σ q = σ0 q
theorem TxS.next {σ0 σ σ' : am_Sg} {k i m p : Nat} {c : Nat → Int32} {K : KT} (h : TxS σ0 σ k i m p c K) (e : σ' = am_up σ 23 3 (nI (p + 1))) : TxS σ0 σ' k i m (p + 1) c K := by
  subst e
  exact ⟨h.1.next, h.2.1.fr (fun q _ _ => am_up_ne (by omega)), fun j hj => by rw [up_rn (by omega)]; exact h.2.2.1 j hj, fun q h1 h2 => by rw [am_up_ne h1]; exact h.2.2.2 q h1 h2⟩
def C_readsO : am_C := fun av n σ τ nf P => nf = n ∧ 155 ≤ n ∧ ∃ (lf k i m p : Nat) (c : Nat → Int32) (K : KT) (σ0 : am_Sg), τ = tauY (110 + 2 * k) lf ∧ av = [.ref 23, .ref 12] ∧ k < 4 ∧ i + m ≤ 100 ∧ p ≤ 900 ∧ TxS σ0 σ k i m p c K ∧ ZrK K ∧ 0 < K 0 1 ∧ K 0 1 ≤ 10 ∧ K 0 2 < 8 ∧ ∀ σ', TxS σ0 σ' k i m (pO1 (cdv c i m) p K).2.1 c (pO1 (cdv c i m) p K).2.2 → P (some (.int (bI (pO1 (cdv c i m) p K).1))) σ' τ
set_option maxRecDepth 100000 in
theorem M_readsO (d : Nat) : am_Met (d + 3) 504 C_readsO := am_meth (own0 := "CanalEnd$Text") 504 (d + 2) 155 T_X5_readsOutlet (fun y => bif Nat.beq y 506 then C_isDigit else (bif Nat.beq y 507 then C_digit else (bif Nat.beq y 3 then C_addOutlet else (am_no)))) C_readsO rfl F_X5_readsOutlet rfl (by decide +kernel) Tc_X5_readsOutlet (fun y => am_g (M_isDigit (d + 0)) (am_g (M_digit (d + 0)) (am_g (M_addOutlet (d + 1)) (am_no_met)))) (by
  intro av n σ τ nf P hnf hC
  obtain ⟨rfl, hn, lf, k, i, m, p, c, K, σ0, rfl, rfl, hk, him, hp, hT, hZ, hm0, hm, hO, hP⟩ := hC
  refine ⟨hn, rfl, Nat.le_of_ble_eq_true rfl, fun Wb hs => ?_⟩
  refine hs (fun _ => false) 60 0 _ _ _ _ _ ⟨rfl, hn, lf, k, i, m, p, 1, c, rfl, rfl, by omega, hk, him, by omega, hT.1, fun g => vc_f (by decide) ?_, fun g => vc_t rfl (And.intro (Or.inl rfl) (And.intro rfl ?_))⟩
  · obtain ⟨z, e1, hz, hz9, hz1⟩ := dg_ex g
    refine ⟨rfl, hn, lf, k, i, m, p, c, rfl, rfl, hk, him, by omega, hT.1, fun σ2 e2 => ?_⟩
    have hT2 := hT.next e2
    refine ⟨rfl, hn, lf, k, i, m, p + 1, 0, c, rfl, rfl, by omega, hk, him, by omega, hT2.1, fun g2 => vc_f (by decide) ?_, fun g2 => vc_t rfl (And.intro (Or.inl rfl) (And.intro rfl ?_))⟩
    · obtain ⟨t, e3, ht, ht9, _⟩ := dg_ex g2
      refine ⟨rfl, hn, lf, k, i, m, p + 1, c, rfl, rfl, hk, him, by omega, hT2.1, fun σ3 e4 => ?_⟩
      have hT3 := hT2.next e4
      refine ⟨rfl, hn, 110 + 2 * k, lf, z, t, K, rfl, ?_, hT3.2.1, hZ, hm0, hm, hO, hT3.2.2.1, fun σ4 a1 a2 a3 => And.intro (Or.inr rfl) (And.intro rfl ?_)⟩
      · show [Value.ref 12, Value.int (cdv c i m p - 48), Value.int (cdv c i m (p + 1) - 48)] = _
        rw [hz, ht]
      · have h := hP σ4
        rw [pO1_c e1 (by omega) e3] at h
        exact h ⟨hT3.1.fr (a3 23 (by omega)) (a3 _ (by omega)), a1, a2, fun q h1 h2 => by rw [a3 q h2]; exact hT3.2.2.2 q h1 h2⟩
    · have h := hP σ2
      rw [pO1_b e1 (by omega) (dg_0n g2)] at h
      exact h hT2
  · have h := hP σ
    rw [pO1_a (dg_no g)] at h
    exact h hT)
def C_readsM : am_C := fun av n σ τ nf P => nf = n ∧ 155 ≤ n ∧ ∃ (lf k i m p : Nat) (c : Nat → Int32) (K : KT) (σ0 : am_Sg), τ = tauY (110 + 2 * k) lf ∧ av = [.ref 23, .ref 12] ∧ k < 4 ∧ i + m ≤ 100 ∧ p ≤ 900 ∧ TxS σ0 σ k i m p c K ∧ ZrK K ∧ K 0 1 < 10 ∧ K 0 2 ≤ 8 ∧ ∀ σ', TxS σ0 σ' k i m (pOne (cdv c i m) p K).2.1 c (pOne (cdv c i m) p K).2.2 → P (some (.int (bI (pOne (cdv c i m) p K).1))) σ' τ
set_option maxRecDepth 100000 in
theorem M_readsM (d : Nat) : am_Met (d + 4) 503 C_readsM := am_meth (own0 := "CanalEnd$Text") 503 (d + 3) 155 T_X5_readsMile (fun y => bif Nat.beq y 508 then C_skips else (bif Nat.beq y 506 then C_isDigit else (bif Nat.beq y 507 then C_digit else (bif Nat.beq y 2 then C_addMile else (bif Nat.beq y 505 then C_code else (bif Nat.beq y 504 then C_readsO else (am_no))))))) C_readsM rfl F_X5_readsMile rfl (by decide +kernel) Tc_X5_readsMile (fun y => am_g (M_skips (d + 1)) (am_g (M_isDigit (d + 1)) (am_g (M_digit (d + 1)) (am_g (M_addMile (d + 2)) (am_g (M_code (d + 2)) (am_g (M_readsO (d + 0)) (am_no_met))))))) (by
  intro av n σ τ nf P hnf hC
  obtain ⟨rfl, hn, lf, k, i, m, p, c, K, σ0, rfl, rfl, hk, him, hp, hT, hZ, hm, hO, hP⟩ := hC
  refine ⟨hn, rfl, Nat.le_of_ble_eq_true rfl, fun Wb hs => ?_⟩
  have k57 : ∀ r p (K : KT) (σ1 : am_Sg) (x : Int32), K 0 2 + r = 8 → p ≤ m → TxS σ0 σ1 k i m p c K → ZrK K → 0 < K 0 1 → K 0 1 ≤ 10 → (∀ σ', TxS σ0 σ' k i m (pOut (cdv c i m) r p K).2.1 c (pOut (cdv c i m) r p K).2.2 → P (some (.int (bI (pOut (cdv c i m) r p K).1))) σ' (tauY (110 + 2 * k) lf)) → Wb 57 [some (.ref 23), some (.ref 12), some (.int x), some (.int (nI (K 0 2)))] [] nf σ1 (tauY (110 + 2 * k) lf) := by
    intro r
    induction r with
    | zero =>
      intro p K σ1 x hr hpm h1 h2 h3 h4 h5
      exact hs (fun p => Nat.beq p 57) 60 57 _ _ _ _ _ (vc_t (nI_le (a := 8) (by omega) (by omega)) (And.intro (Or.inr rfl) (And.intro rfl (h5 σ1 h1))))
    | succ r ih =>
      intro p K σ1 x hr hpm h1 h2 h3 h4 h5
      refine hs (fun p => Nat.beq p 57) 60 57 _ _ _ _ _ (vc_f (nI_ge (b := 8) (by omega) (by omega)) ⟨rfl, hn, lf, k, i, m, p, c, rfl, rfl, hk, him, by omega, h1.1, vc_if (fun g => fun σ2 e2 => ?_) (fun g => And.intro (Or.inr rfl) (And.intro rfl ?_))⟩)
      · rw [h1.1.2.2.1, ← nI_succ] at e2
        have hT2 := h1.next e2
        rw [pOut_y g] at h5
        refine ⟨rfl, hn, lf, k, i, m, p + 1, c, K, σ0, rfl, rfl, hk, him, by omega, hT2, h2, h3, h4, by omega, fun σ3 h6 => ?_⟩
        cases e : (pO1 (cdv c i m) (p + 1) K).1 with
        | false =>
          rw [if_neg (by rw [e]; exact Bool.false_ne_true)] at h5
          have h7 := h5 σ3 h6
          rw [e] at h7
          exact vc_t rfl (And.intro (Or.inl rfl) (And.intro rfl h7))
        | true =>
          rw [if_pos e] at h5
          obtain ⟨z, t, ez, et⟩ := pO1_t e
          have hlt := cdv_dg et
          rw [ez] at h5 h6
          have h9 := ih (p + 3) (addO K z t) σ3 x (show K 0 2 + 1 + r = 8 by omega) (by omega) h6 (zr_addO h2 z t) h3 h4 h5
          rw [show addO K z t 0 2 = K 0 2 + 1 from rfl, nI_succ] at h9
          exact vc_f (by decide) h9
      · rw [pOut_n g] at h5
        exact h5 σ1 h1
  refine hs (fun p => Nat.beq p 57) 80 0 _ _ _ _ _ ⟨rfl, hn, lf, k, i, m, p, 59, c, rfl, rfl, hk, him, by omega, hT.1, fun g1 => fun σ1 e1 => vc_f (by decide) ?_, fun g1 => vc_t rfl (And.intro (Or.inl rfl) (And.intro rfl ?_))⟩
  · have hT1 := hT.next e1
    refine ⟨rfl, hn, lf, k, i, m, p + 1, 109, c, rfl, rfl, hk, him, by omega, hT1.1, fun g2 => fun σ2 e2 => vc_f (by decide) ?_, fun g2 => vc_t rfl (And.intro (Or.inl rfl) (And.intro rfl ?_))⟩
    · have hT2 := hT1.next e2
      rw [pOne_m g1 g2] at hP
      refine ⟨rfl, hn, lf, k, i, m, p + 2, 0, c, rfl, rfl, by omega, hk, him, by omega, hT2.1, fun g3 => vc_f (by decide) ?_, fun g3 => vc_t rfl (And.intro (Or.inl rfl) (And.intro rfl ?_))⟩
      · obtain ⟨a, ea, ha, ha9, _⟩ := dg_ex g3
        refine ⟨rfl, hn, lf, k, i, m, p + 2, c, rfl, rfl, hk, him, by omega, hT2.1, fun σ3 e3 => ?_⟩
        have hT3 := hT2.next e3
        refine ⟨rfl, hn, lf, k, i, m, p + 3, 0, c, rfl, rfl, by omega, hk, him, by omega, hT3.1, fun g4 => vc_f (by decide) ?_, fun g4 => vc_t rfl (And.intro (Or.inl rfl) (And.intro rfl ?_))⟩
        · obtain ⟨b, eb, hb, hb9, _⟩ := dg_ex g4
          refine ⟨rfl, hn, lf, k, i, m, p + 3, c, rfl, rfl, hk, him, by omega, hT3.1, fun σ4 e4 => ?_⟩
          have hT4 := hT3.next e4
          refine ⟨rfl, hn, 110 + 2 * k, lf, a, b, K, rfl, ?_, hT4.2.1, hm, hO, fun σ5 a1 a2 => ?_⟩
          · show [Value.ref 12, Value.int (cdv c i m (p + 2) - 48), Value.int (cdv c i m (p + 3) - 48)] = _
            rw [ha, hb]
          · have hlt := cdv_dg eb
            rw [pMile_3 ea eb] at hP
            have h9 := k57 (8 - K 0 2) (p + 4) (addM K a b) σ5 (cdv c i m (p + 2) - 48) (show K 0 2 + (8 - K 0 2) = 8 by omega) (by omega) ⟨hT4.1.fr (a2 23 (by omega)) (a2 _ (by omega)), a1, fun j hj => by rw [a2 22 (by omega)]; exact hT4.2.2.1 j hj, fun q h1 h2 => by rw [a2 q (by omega)]; exact hT4.2.2.2 q h1 h2⟩ (zr_addM hZ a b) (show 0 < K 0 1 + 1 by omega) (show K 0 1 + 1 ≤ 10 by omega) hP
            have e9 : σ5 12 2 = nI (addM K a b 0 2) := a1.1 2 (by omega)
            rw [← e9] at h9
            exact h9
        · have h := hP σ3
          rw [pMile_2 ea (dg_0n g4)] at h
          exact h hT3
      · have h := hP σ2
        rw [pMile_1 (dg_0n g3)] at h
        exact h hT2
    · have h := hP σ1
      rw [pOne_2 g1 g2] at h
      exact h hT1
  · have h := hP σ
    rw [pOne_1 g1] at h
    exact h hT)
def pW (cd : Nat → Int32) : Nat × Nat := match dg (cd 1) with
  | none => (0, 1)
  | some a => match dg (cd 2) with
    | none => (a, 2)
    | some b => (10 * a + b, 3)
theorem pW_1 {cd : Nat → Int32} (e : dg (cd 1) = none) : pW cd = (0, 1) := by unfold pW; rw [e]
theorem pW_2 {cd : Nat → Int32} {a : Nat} (e : dg (cd 1) = some a) (e2 : dg (cd 2) = none) : pW cd = (a, 2) := by
  unfold pW
  rw [e]
  show (match dg (cd 2) with
    | none => (a, 2)
    | some b => (10 * a + b, 3)) = _
  rw [e2]
theorem pW_3 {cd : Nat → Int32} {a b : Nat} (e : dg (cd 1) = some a) (e2 : dg (cd 2) = some b) : pW cd = (10 * a + b, 3) := by
  unfold pW
  rw [e]
  show (match dg (cd 2) with
    | none => (a, 2)
    | some b => (10 * a + b, 3)) = _
  rw [e2]
theorem pW_le (cd : Nat → Int32) : (pW cd).1 ≤ 99 := by
  cases e : dg (cd 1) with
  | none => rw [pW_1 e]; exact Nat.zero_le _
  | some a =>
    have := (dg_y e).1
    cases e2 : dg (cd 2) with
    | none => rw [pW_2 e e2]; show a ≤ 99; omega
    | some b => 
      have := (dg_y e2).1
      rw [pW_3 e e2]; show 10 * a + b ≤ 99; omega
theorem pAll_n {cd : Nat → Int32} {n s : Nat} (c : ¬ cd 0 = 119) : pAll cd n s = (false, 0, K0w 0 s) := if_neg c
theorem pAll_y {cd : Nat → Int32} {n s : Nat} (c : cd 0 = 119) : pAll cd n s = if (pW cd).1 = 0 then (false, 1, K0w 0 s) else pMls cd n 10 (pW cd).2 (K0w (pW cd).1 s) := by
  have u : pAll cd n s = (match dg (cd 1) with
    | none => (false, 1, K0w 0 s)
    | some a => match dg (cd 2) with
      | none => pWid cd n a 2 s
      | some b => pWid cd n (10 * a + b) 3 s) := if_pos c
  rw [u]
  cases e : dg (cd 1) with
  | none => rw [pW_1 e]; rfl
  | some a =>
    show (match dg (cd 2) with
      | none => pWid cd n a 2 s
      | some b => pWid cd n (10 * a + b) 3 s) = _
    cases e2 : dg (cd 2) with
    | none => rw [pW_2 e e2]; rfl
    | some b => rw [pW_3 e e2]; rfl
theorem w_num {w a : Nat} {v : Int32} (h : v - 48 = nI a) : (10 : Int32) * nI w + v - 48 = nI (10 * w + a) := by
  rw [Int32.sub_eq_add_neg, Int32.add_assoc, ← Int32.sub_eq_add_neg, h, show (10 : Int32) = nI 10 from rfl, pk_mul, nI_add]
def C_readsW : am_C := fun av n σ τ nf P => nf = n ∧ 155 ≤ n ∧ ∃ (lf k i m s : Nat) (c : Nat → Int32) (σ0 : am_Sg), τ = tauY (110 + 2 * k) lf ∧ av = [.ref 23, .ref 12] ∧ k < 4 ∧ i + m ≤ 100 ∧ TxI σ k i m 1 c ∧ G2 σ ∧ (∀ q, ¬ q = 23 → ¬ (12 ≤ q ∧ q ≤ 22) → σ q = σ0 q) ∧ ((pW (cdv c i m)).1 = 0 → ∀ σ', G2 σ' → (∀ q, ¬ q = 23 → ¬ (12 ≤ q ∧ q ≤ 22) → σ' q = σ0 q) → P (some (.int (nI 1))) σ' τ) ∧ (¬ (pW (cdv c i m)).1 = 0 → ∀ σ', TxS σ0 σ' k i m (pW (cdv c i m)).2 c (K0w (pW (cdv c i m)).1 s) → P (some (.int (-9))) σ' τ)
set_option maxRecDepth 100000 in
theorem M_readsW (d : Nat) : am_Met (d + 3) 502 C_readsW := am_meth (own0 := "CanalEnd$Text") 502 (d + 2) 155 T_X5_readsWidth (fun y => bif Nat.beq y 506 then C_isDigit else (bif Nat.beq y 505 then C_code else (bif Nat.beq y 1 then C_cbegin else (am_no)))) C_readsW rfl F_X5_readsWidth rfl (by decide +kernel) Tc_X5_readsWidth (fun y => am_g (M_isDigit (d + 0)) (am_g (M_code (d + 1)) (am_g (M_cbegin (d + 1)) (am_no_met)))) (by
  intro av n σ τ nf P hnf hC
  obtain ⟨rfl, hn, lf, k, i, m, s, c, σ0, rfl, rfl, hk, him, hT, hG, hfr, hP, hQ⟩ := hC
  refine ⟨hn, rfl, Nat.le_of_ble_eq_true rfl, fun Wb hs => ?_⟩
  have hw9 := pW_le (cdv c i m)
  have r0 : ∀ (w p : Nat) (σ1 : am_Sg), pW (cdv c i m) = (w, p) → G2 σ1 → (∀ q, ¬ q = 23 → ¬ (12 ≤ q ∧ q ≤ 22) → σ1 q = σ0 q) → nI w = 0 → P (some (.int (nI 1))) σ1 (tauY (110 + 2 * k) lf) := by
    intro w p σ1 e g1 g2 g3
    rw [e] at hw9
    have hw9 : w ≤ 99 := hw9
    exact hP (by rw [e]; exact nI_inj (b := 0) (by omega) (by omega) g3) σ1 g1 g2
  have r1 : ∀ (w p : Nat) (σ1 σ2 : am_Sg), pW (cdv c i m) = (w, p) → TxI σ1 k i m p c → G2 σ1 → (∀ q, ¬ q = 23 → ¬ (12 ≤ q ∧ q ≤ 22) → σ1 q = σ0 q) → ¬ nI w = 0 → RepP σ2 (K0w w s) → (∀ q, ¬ q = 12 → σ2 q = σ1 q) → P (some (.int (-9))) σ2 (tauY (110 + 2 * k) lf) := by
    intro w p σ1 σ2 e g0 g1 g2 g3 g4 g5
    rw [e] at hQ
    exact hQ (fun q => g3 (by rw [show w = 0 from q]; rfl)) σ2 ⟨g0.fr (g5 23 (by omega)) (g5 _ (by omega)), g4, fun j hj => by rw [g5 22 (by omega)]; exact g1 j hj, fun q h1 h2 => by rw [g5 q (by omega)]; exact g2 q h1 h2⟩
  have x2 : ∀ (w : Nat) (σ1 : am_Sg), pW (cdv c i m) = (w, 3) → TxI σ1 k i m 3 c → G2 σ1 → (∀ q, ¬ q = 23 → ¬ (12 ≤ q ∧ q ≤ 22) → σ1 q = σ0 q) → Wb 10 [some (.ref 23), some (.ref 12), some (.int (nI 1)), some (.int (nI w)), some (.int 2)] [] nf σ1 (tauY (110 + 2 * k) lf) := by
    intro w σ1 e g0 g1 g2
    exact hs (fun p => Nat.beq p 10) 60 10 _ _ _ _ _ (vc_t (by decide) (vc_if (fun c0 => And.intro rfl (r0 w 3 σ1 e g1 g2 c0)) (fun c0 => ⟨rfl, hn, 110 + 2 * k, lf, w, s, rfl, rfl, fun σ9 a1 a2 => And.intro rfl (r1 w 3 σ1 σ9 e g0 g1 g2 c0 a1 a2)⟩)))
  have x1 : ∀ (a : Nat) (σ1 : am_Sg), dg (cdv c i m 1) = some a → TxI σ1 k i m 2 c → G2 σ1 → (∀ q, ¬ q = 23 → ¬ (12 ≤ q ∧ q ≤ 22) → σ1 q = σ0 q) → Wb 10 [some (.ref 23), some (.ref 12), some (.int (nI 1)), some (.int (nI a)), some (.int 1)] [] nf σ1 (tauY (110 + 2 * k) lf) := by
    intro a σ1 ea g0 g1 g2
    refine hs (fun p => Nat.beq p 10) 60 10 _ _ _ _ _ (vc_f (by decide) ⟨rfl, hn, lf, k, i, m, 2, 0, c, rfl, rfl, by omega, hk, him, by omega, g0, fun g => vc_f (by decide) ⟨rfl, hn, lf, k, i, m, 2, c, rfl, rfl, hk, him, by omega, g0, fun σ2 e2 => ?_⟩, fun g => vc_t rfl ?_⟩)
    · obtain ⟨b, eb, hb, hb9, _⟩ := dg_ex g
      rw [g0.2.2.1, ← nI_succ] at e2
      have e2 : σ2 = am_up σ1 23 3 (nI 3) := e2
      have h9 := x2 (10 * a + b) σ2 (pW_3 ea eb) (by rw [e2]; exact g0.next) (fun j hj => by rw [e2, up_rn (by omega)]; exact g1 j hj) (fun q h1 h2 => by rw [e2, am_up_ne h1]; exact g2 q h1 h2)
      rw [← w_num hb] at h9
      exact h9
    · have e := pW_2 ea (dg_0n g)
      exact vc_if (fun c0 => And.intro rfl (r0 a 2 σ1 e g1 g2 c0)) (fun c0 => ⟨rfl, hn, 110 + 2 * k, lf, a, s, rfl, rfl, fun σ9 a1 a2 => And.intro rfl (r1 a 2 σ1 σ9 e g0 g1 g2 c0 a1 a2)⟩)
  have x0 : Wb 10 [some (.ref 23), some (.ref 12), some (.int (nI 1)), some (.int 0), some (.int 0)] [] nf σ (tauY (110 + 2 * k) lf) := by
    refine hs (fun p => Nat.beq p 10) 60 10 _ _ _ _ _ (vc_f (by decide) ⟨rfl, hn, lf, k, i, m, 1, 0, c, rfl, rfl, by omega, hk, him, by omega, hT, fun g => vc_f (by decide) ⟨rfl, hn, lf, k, i, m, 1, c, rfl, rfl, hk, him, by omega, hT, fun σ2 e2 => ?_⟩, fun g => vc_t rfl ?_⟩)
    · obtain ⟨b, eb, hb, hb9, _⟩ := dg_ex g
      rw [hT.2.2.1, ← nI_succ] at e2
      have e2 : σ2 = am_up σ 23 3 (nI 2) := e2
      have h9 := x1 b σ2 eb (by rw [e2]; exact hT.next) (fun j hj => by rw [e2, up_rn (by omega)]; exact hG j hj) (fun q h1 h2 => by rw [e2, am_up_ne h1]; exact hfr q h1 h2)
      have e9 : nI b = (10 : Int32) * 0 + cdv c i m 1 - 48 := by
        have := w_num (w := 0) hb
        rw [Nat.mul_zero, Nat.zero_add] at this
        exact this.symm
      rw [e9] at h9
      exact h9
    · have e := pW_1 (dg_0n g)
      exact vc_t rfl (And.intro rfl (r0 0 1 σ e hG hfr rfl))
  rw [← hT.2.2.1] at x0
  exact hs (fun p => Nat.beq p 10) 60 0 _ _ _ _ _ x0)
theorem nI_nn9 {p : Nat} (h : p ≤ 1000) : ¬ nI p = -9 := fun q => by
  have e := congrArg Int32.toInt q
  rw [nI_toInt (by omega)] at e
  have e : (p : Int) = -9 := e
  omega
