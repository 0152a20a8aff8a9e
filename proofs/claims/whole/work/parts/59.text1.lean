theorem tauY_up {a b lf : Nat} : am_up (tauY a lf) 23 0 b = tauY b lf := by
  funext r i
  unfold am_up tauY
  cases (Nat.beq r 23 && Nat.beq i 0) <;> rfl
def TxI (σ : am_Sg) (k i m p : Nat) (c : Nat → Int32) : Prop := σ 23 1 = nI i ∧ σ 23 2 = nI m ∧ σ 23 3 = nI p ∧ ∀ z, z < 100 → σ (109 + 2 * k) z = c z
theorem TxI.next {σ : am_Sg} {k i m p : Nat} {c : Nat → Int32} (h : TxI σ k i m p c) : TxI (am_up σ 23 3 (nI (p + 1))) k i m (p + 1) c := ⟨by rw [up_ne (by omega)]; exact h.1, by rw [up_ne (by omega)]; exact h.2.1, up_at, fun z hz => by rw [up_rn (by omega)]; exact h.2.2.2 z hz⟩
theorem TxI.fr {σ σ' : am_Sg} {k i m p : Nat} {c : Nat → Int32} (h : TxI σ k i m p c) (h1 : σ' 23 = σ 23) (h2 : σ' (109 + 2 * k) = σ (109 + 2 * k)) : TxI σ' k i m p c := by
  unfold TxI
  rw [h1, h2]
  exact h
def C_code : am_C := fun av n σ τ nf P => nf = n ∧ 155 ≤ n ∧ ∃ (lf k i m p : Nat) (c : Nat → Int32), τ = tauY (110 + 2 * k) lf ∧ av = [.ref 23] ∧ k < 4 ∧ i + m ≤ 100 ∧ p ≤ 1000 ∧ TxI σ k i m p c ∧ P (some (.int (cdv c i m p))) σ τ
set_option maxRecDepth 100000 in
theorem M_code (d : Nat) : am_Met (d + 1) 505 C_code := am_meth (own0 := "CanalEnd$Text") 505 (d + 0) 155 T_X5_code (fun y => am_no) C_code rfl F_X5_code rfl (by decide +kernel) Tc_X5_code (fun y => am_no_met) (by
  intro av n σ τ nf P hnf hC
  obtain ⟨rfl, hn, lf, k, i, m, p, c, rfl, rfl, hk, him, hp, ⟨t1, t2, t3, t4⟩, hP⟩ := hC
  refine ⟨hn, rfl, Nat.le_of_ble_eq_true rfl, fun Wb hs => ?_⟩
  have e0 : ¬ σ 23 1 + σ 23 3 < 0 := by rw [t1, t3, nI_add]; exact nI_pos (by omega)
  have y0 : σ 23 2 ≤ σ 23 3 → ¬ p < m := fun g => by
    rw [t2, t3] at g
    have := (nI_leI (by omega) (by omega)).mp g
    omega
  have y1 : ¬ σ 23 2 ≤ σ 23 3 → p < m := fun g => by
    rw [t2, t3] at g
    by_cases q : p < m
    · exact q
    · exact absurd (nI_le (by omega) (by omega)) g
  have e1 : σ 23 2 ≤ σ 23 3 → (-1 : Int32) = cdv c i m p := fun g => (if_neg (y0 g)).symm
  rcases k4 hk with rfl | rfl | rfl | rfl
  all_goals
    refine hs (fun _ => false) 60 0 _ _ _ _ _ (vc_if (fun g => vc_t rfl (And.intro rfl (p_eq (e1 g) hP))) (fun g => vc_f e0 (vc_f ?_ (vc_f (by decide) (And.intro ?_ (And.intro rfl (p_eq ?_ hP)))))))
    · have := y1 g
      rw [t1, t3, nI_add]
      exact nI_ge (a := i + p) (b := 100) (by omega) (by omega)
    · have := y1 g
      rw [t1, t3, nI_add]
      exact vin (show i + p < 100 by omega)
    · have g := y1 g
      rw [t1, t3, nI_add, nI_clamp (by omega)]
      unfold cdv
      rw [if_pos g]
      exact t4 (i + p) (by omega))
def C_isDigit : am_C := fun av n σ τ nf P => nf = n ∧ 155 ≤ n ∧ ∃ (lf k i m p e : Nat) (c : Nat → Int32), τ = tauY (110 + 2 * k) lf ∧ av = [.ref 23, .int (nI e)] ∧ e ≤ 1 ∧ k < 4 ∧ i + m ≤ 100 ∧ p ≤ 1000 ∧ TxI σ k i m p c ∧ ((48 + (e : Int) ≤ (cdv c i m p).toInt ∧ (cdv c i m p).toInt ≤ 57) → P (some (.int 1)) σ τ) ∧ (¬ (48 + (e : Int) ≤ (cdv c i m p).toInt ∧ (cdv c i m p).toInt ≤ 57) → P (some (.int 0)) σ τ)
set_option maxRecDepth 100000 in
theorem M_isDigit (d : Nat) : am_Met (d + 2) 506 C_isDigit := am_meth (own0 := "CanalEnd$Text") 506 (d + 1) 155 T_X5_isDigit (fun y => bif Nat.beq y 505 then C_code else (bif Nat.beq y 740 then C_isIn else (am_no))) C_isDigit rfl F_X5_isDigit rfl (by decide +kernel) Tc_X5_isDigit (fun y => am_g (M_code (d + 0)) (am_g (M_isIn (d + 0)) (am_no_met))) (by
  intro av n σ τ nf P hnf hC
  obtain ⟨rfl, hn, lf, k, i, m, p, e, c, rfl, rfl, he, hk, him, hp, ht, hP, hQ⟩ := hC
  refine ⟨hn, rfl, Nat.le_of_ble_eq_true rfl, fun Wb hs => ?_⟩
  have ha : ((48 : Int32) + nI e).toInt = 48 + (e : Int) := by
    rw [show (48 : Int32) + nI e = nI (48 + e) from nI_add 48 e, nI_toInt (by omega)]
    omega
  have hi : ((48 : Int32) + nI e ≤ cdv c i m p ∧ cdv c i m p ≤ 57) ↔ (48 + (e : Int) ≤ (cdv c i m p).toInt ∧ (cdv c i m p).toInt ≤ 57) := by
    rw [i_le, i_le, ha]
    exact Iff.rfl
  exact hs (fun _ => false) 60 0 _ _ _ _ _ ⟨rfl, hn, lf, k, i, m, p, c, rfl, rfl, hk, him, hp, ht, ⟨rfl, cdv c i m p, (48 : Int32) + nI e, 57, rfl, fun g => And.intro (Or.inr rfl) (And.intro rfl (hP (hi.mp g))), fun g => And.intro (Or.inl rfl) (And.intro rfl (hQ (fun q => g (hi.mpr q))))⟩⟩)
def C_digit : am_C := fun av n σ τ nf P => nf = n ∧ 155 ≤ n ∧ ∃ (lf k i m p : Nat) (c : Nat → Int32), τ = tauY (110 + 2 * k) lf ∧ av = [.ref 23] ∧ k < 4 ∧ i + m ≤ 100 ∧ p ≤ 1000 ∧ TxI σ k i m p c ∧ ∀ σ', σ' = am_up σ 23 3 (nI (p + 1)) → P (some (.int (cdv c i m p - 48))) σ' τ
set_option maxRecDepth 100000 in
theorem M_digit (d : Nat) : am_Met (d + 2) 507 C_digit := am_meth (own0 := "CanalEnd$Text") 507 (d + 1) 155 T_X5_digit (fun y => bif Nat.beq y 505 then C_code else (am_no)) C_digit rfl F_X5_digit rfl (by decide +kernel) Tc_X5_digit (fun y => am_g (M_code (d + 0)) (am_no_met)) (by
  intro av n σ τ nf P hnf hC
  obtain ⟨rfl, hn, lf, k, i, m, p, c, rfl, rfl, hk, him, hp, ht, hP⟩ := hC
  refine ⟨hn, rfl, Nat.le_of_ble_eq_true rfl, fun Wb hs => ?_⟩
  refine hs (fun _ => false) 60 0 _ _ _ _ _ ⟨rfl, hn, lf, k, i, m, p, c, rfl, rfl, hk, him, hp, ht, fun σ2 e2 => And.intro rfl (hP σ2 ?_)⟩
  rw [ht.2.2.1, ← nI_succ] at e2
  exact e2)
def C_skips : am_C := fun av n σ τ nf P => nf = n ∧ 155 ≤ n ∧ ∃ (lf k i m p : Nat) (s : Int32) (c : Nat → Int32), τ = tauY (110 + 2 * k) lf ∧ av = [.ref 23, .int s] ∧ k < 4 ∧ i + m ≤ 100 ∧ p ≤ 1000 ∧ TxI σ k i m p c ∧ (cdv c i m p = s → ∀ σ', σ' = am_up σ 23 3 (nI (p + 1)) → P (some (.int 1)) σ' τ) ∧ (¬ cdv c i m p = s → P (some (.int 0)) σ τ)
set_option maxRecDepth 100000 in
theorem M_skips (d : Nat) : am_Met (d + 2) 508 C_skips := am_meth (own0 := "CanalEnd$Text") 508 (d + 1) 155 T_X5_skips (fun y => bif Nat.beq y 505 then C_code else (am_no)) C_skips rfl F_X5_skips rfl (by decide +kernel) Tc_X5_skips (fun y => am_g (M_code (d + 0)) (am_no_met)) (by
  intro av n σ τ nf P hnf hC
  obtain ⟨rfl, hn, lf, k, i, m, p, s, c, rfl, rfl, hk, him, hp, ht, hP, hQ⟩ := hC
  refine ⟨hn, rfl, Nat.le_of_ble_eq_true rfl, fun Wb hs => ?_⟩
  refine hs (fun _ => false) 60 0 _ _ _ _ _ ⟨rfl, hn, lf, k, i, m, p, c, rfl, rfl, hk, him, hp, ht, vc_if (fun g => fun σ2 e2 => And.intro (Or.inr rfl) (And.intro rfl (hP g σ2 ?_))) (fun g => And.intro (Or.inl rfl) (And.intro rfl (hQ g)))⟩
  rw [ht.2.2.1, ← nI_succ] at e2
  exact e2)
def RepP (σ : am_Sg) (K : KT) : Prop := (∀ i, i < 3 → σ 12 i = nI (K 0 i)) ∧ (∀ f, f < 4 → ∀ j, j < K 0 1 → σ (13 + f) j = nI (K (1 + f) j)) ∧ (∀ f, f < 6 → ∀ o, o < K 0 2 → σ (17 + f) o = nI (K (5 + f) o))
theorem RepP.fr {σ σ' : am_Sg} {K : KT} (h : RepP σ K) (hf : ∀ q, 12 ≤ q → q ≤ 22 → σ' q = σ q) : RepP σ' K := ⟨fun i hi => by rw [hf 12 (by omega) (by omega)]; exact h.1 i hi, fun f hf9 j hj => by rw [hf _ (by omega) (by omega)]; exact h.2.1 f hf9 j hj, fun f hf9 j hj => by rw [hf _ (by omega) (by omega)]; exact h.2.2 f hf9 j hj⟩
def G2 (σ : am_Sg) : Prop := ∀ i, i < 8 → σ 22 i = 0 ∨ σ 22 i = 1
def C_cbegin : am_C := fun av n σ τ nf P => nf = n ∧ 155 ≤ n ∧ ∃ (rw lf w s : Nat), τ = tauY rw lf ∧ av = [.ref 12, .int (nI w)] ∧ ∀ σ', RepP σ' (K0w w s) → (∀ q, ¬ q = 12 → σ' q = σ q) → P none σ' τ
set_option maxRecDepth 100000 in
theorem M_cbegin (d : Nat) : am_Met (d + 1) 1 C_cbegin := am_meth (own0 := "CanalEnd$Canal") 1 (d + 0) 155 T_X0_begin (fun y => am_no) C_cbegin rfl F_X0_begin rfl (by decide +kernel) Tc_X0_begin (fun y => am_no_met) (by
  intro av n σ τ nf P hnf hC
  obtain ⟨rfl, hn, rw, lf, w, s, rfl, rfl, hP⟩ := hC
  refine ⟨hn, rfl, Nat.le_of_ble_eq_true rfl, fun Wb hs => ?_⟩
  refine hs (fun _ => false) 60 0 _ _ _ _ _ (fun σ1 e1 σ2 e2 σ3 e3 => And.intro rfl (hP σ3 ⟨fun i hi => ?_, fun f hf j hj => absurd hj (Nat.not_lt_zero j), fun f hf j hj => absurd hj (Nat.not_lt_zero j)⟩ (fun q hq => by rw [e3, am_up_ne hq, e2, am_up_ne hq, e1, am_up_ne hq])))
  rcases (show i = 0 ∨ i = 1 ∨ i = 2 by omega) with e | e | e <;> subst e
  · rw [e3, up_ne (by omega), e2, up_ne (by omega), e1, up_at]; rfl
  · rw [e3, up_ne (by omega), e2, up_at]; rfl
  · rw [e3, up_at]; rfl)
theorem f4 {f : Nat} (h : f < 4) : f = 0 ∨ f = 1 ∨ f = 2 ∨ f = 3 := by omega
theorem f6 {f : Nat} (h : f < 6) : f = 0 ∨ f = 1 ∨ f = 2 ∨ f = 3 ∨ f = 4 ∨ f = 5 := by omega
theorem up_if {σ : am_Sg} {q i j : Nat} {v : Int32} : am_up σ q i v q j = if j = i then v else σ q j := am_up_self j
theorem nI_if {c : Prop} [Decidable c] {a b : Nat} : nI (if c then a else b) = if c then nI a else nI b := by split <;> rfl
def C_addMile : am_C := fun av n σ τ nf P => nf = n ∧ 155 ≤ n ∧ ∃ (rw lf a b : Nat) (K : KT), τ = tauY rw lf ∧ av = [.ref 12, .int (nI a), .int (nI b)] ∧ RepP σ K ∧ K 0 1 < 10 ∧ K 0 2 ≤ 8 ∧ ∀ σ', RepP σ' (addM K a b) → (∀ q, ¬ (12 ≤ q ∧ q ≤ 16) → σ' q = σ q) → P none σ' τ
set_option maxRecDepth 100000 in
theorem M_addMile (d : Nat) : am_Met (d + 1) 2 C_addMile := am_meth (own0 := "CanalEnd$Canal") 2 (d + 0) 155 T_X0_addMile (fun y => am_no) C_addMile rfl F_X0_addMile rfl (by decide +kernel) Tc_X0_addMile (fun y => am_no_met) (by
  intro av n σ τ nf P hnf hC
  obtain ⟨rfl, hn, rw, lf, a, b, K, rfl, rfl, hR, hm, hO, hP⟩ := hC
  refine ⟨hn, rfl, Nat.le_of_ble_eq_true rfl, fun Wb hs => ?_⟩
  have r0 := hR.1 0 (by omega)
  have r1 := hR.1 1 (by omega)
  have r2 := hR.1 2 (by omega)
  have hcl : (nI (K 0 1)).toNatClampNeg = K 0 1 := nI_clamp (by omega)
  have vi := fun q (h : am_len q = 10) => vin (j := K 0 1) (q := q) (by omega)
  refine hs (fun _ => false) 60 0 _ _ _ _ _ (vc_f (by rw [r1]; exact nI_ge (b := 10) hm (by omega)) (And.intro (by rw [r1]; exact vi 13 rfl) (fun σ1 e1 => ?_)))
  rw [r1, hcl] at e1
  have e1 : σ1 = am_up σ 13 (K 0 1) (nI a) := e1
  have q1 : σ1 12 = σ 12 := by rw [e1, am_up_ne (by omega)]
  refine And.intro (by rw [q1, r1]; exact vi 14 rfl) (fun σ2 e2 => ?_)
  rw [q1, r1, hcl] at e2
  have e2 : σ2 = am_up σ1 14 (K 0 1) (nI b) := e2
  have q2 : σ2 12 = σ 12 := by rw [e2, am_up_ne (by omega), q1]
  refine And.intro (by rw [q2, r1]; exact vi 15 rfl) (fun σ3 e3 => ?_)
  rw [q2, r1, r2, hcl] at e3
  have e3 : σ3 = am_up σ2 15 (K 0 1) (nI (K 0 2)) := e3
  have q3 : σ3 12 = σ 12 := by rw [e3, am_up_ne (by omega), q2]
  refine And.intro (by rw [q3, r1]; exact vi 16 rfl) (fun σ4 e4 => ?_)
  rw [q3, r1, hcl] at e4
  have e4 : σ4 = am_up σ3 16 (K 0 1) (nI 0) := e4
  have q4 : σ4 12 = σ 12 := by rw [e4, am_up_ne (by omega), q3]
  refine fun σ5 e5 => And.intro rfl ?_
  rw [q4, r1, ← nI_succ] at e5
  have e5 : σ5 = am_up σ4 12 1 (nI (K 0 1 + 1)) := e5
  refine hP σ5 ⟨fun i hi => ?_, fun f hf j hj => ?_, fun f hf o ho => ?_⟩ (fun q hq => by rw [e5, am_up_ne (by omega), e4, am_up_ne (by omega), e3, am_up_ne (by omega), e2, am_up_ne (by omega), e1, am_up_ne (by omega)])
  · rcases (show i = 0 ∨ i = 1 ∨ i = 2 by omega) with e | e | e <;> subst e
    · rw [e5, up_ne (by omega), q4]; exact r0
    · rw [e5, up_at]; rfl
    · rw [e5, up_ne (by omega), q4]; exact r2
  · have hj : j < K 0 1 + 1 := hj
    have old := fun f hf (h : ¬ j = K 0 1) => hR.2.1 f hf j (by omega)
    rcases f4 hf with e | e | e | e <;> subst e
    · show σ5 13 j = nI (if j = K 0 1 then a else K 1 j)
      rw [e5, up_rn (by omega), e4, up_rn (by omega), e3, up_rn (by omega), e2, up_rn (by omega), e1, up_if, nI_if]
      split
      · rfl
      · exact old 0 (by omega) (by assumption)
    · show σ5 14 j = nI (if j = K 0 1 then b else K 2 j)
      rw [e5, up_rn (by omega), e4, up_rn (by omega), e3, up_rn (by omega), e2, up_if, nI_if, e1, up_rn (by omega)]
      split
      · rfl
      · exact old 1 (by omega) (by assumption)
    · show σ5 15 j = nI (if j = K 0 1 then K 0 2 else K 3 j)
      rw [e5, up_rn (by omega), e4, up_rn (by omega), e3, up_if, nI_if, e2, up_rn (by omega), e1, up_rn (by omega)]
      split
      · rfl
      · exact old 2 (by omega) (by assumption)
    · show σ5 16 j = nI (if j = K 0 1 then 0 else K 4 j)
      rw [e5, up_rn (by omega), e4, up_if, nI_if, e3, up_rn (by omega), e2, up_rn (by omega), e1, up_rn (by omega)]
      split
      · rfl
      · exact old 3 (by omega) (by assumption)
  · have ho : o < K 0 2 := ho
    rw [e5, am_up_ne (by omega), e4, am_up_ne (by omega), e3, am_up_ne (by omega), e2, am_up_ne (by omega), e1, am_up_ne (by omega)]
    have h9 := hR.2.2 f hf o ho
    rcases f6 hf with e | e | e | e | e | e <;> subst e <;> exact h9)
def C_addOutlet : am_C := fun av n σ τ nf P => nf = n ∧ 155 ≤ n ∧ ∃ (rw lf z h : Nat) (K : KT), τ = tauY rw lf ∧ av = [.ref 12, .int (nI z), .int (nI h)] ∧ RepP σ K ∧ ZrK K ∧ 0 < K 0 1 ∧ K 0 1 ≤ 10 ∧ K 0 2 < 8 ∧ G2 σ ∧ ∀ σ', RepP σ' (addO K z h) → G2 σ' → (∀ q, ¬ (12 ≤ q ∧ q ≤ 22) → σ' q = σ q) → P none σ' τ
set_option maxRecDepth 100000 in
theorem M_addOutlet (d : Nat) : am_Met (d + 1) 3 C_addOutlet := am_meth (own0 := "CanalEnd$Canal") 3 (d + 0) 155 T_X0_addOutlet (fun y => am_no) C_addOutlet rfl F_X0_addOutlet rfl (by decide +kernel) Tc_X0_addOutlet (fun y => am_no_met) (by
  intro av n σ τ nf P hnf hC
  obtain ⟨rfl, hn, rw, lf, z, h, K, rfl, rfl, hR, hZ, hm0, hm, hO, hG, hP⟩ := hC
  refine ⟨hn, rfl, Nat.le_of_ble_eq_true rfl, fun Wb hs => ?_⟩
  have r0 := hR.1 0 (by omega)
  have r1 := hR.1 1 (by omega)
  have r2 := hR.1 2 (by omega)
  have hcl : (nI (K 0 2)).toNatClampNeg = K 0 2 := nI_clamp (by omega)
  have e1m : nI (K 0 1) - 1 = nI (K 0 1 - 1) := pk_sub (b := 1) hm0
  have hcm : (nI (K 0 1 - 1)).toNatClampNeg = K 0 1 - 1 := nI_clamp (by omega)
  have vi := fun q (h : am_len q = 8) => vin (j := K 0 2) (q := q) (by omega)
  have vm : vp_in (nI (K 0 1 - 1)) (am_len 16) := vin (show K 0 1 - 1 < 10 by omega)
  have r16 : σ 16 (K 0 1 - 1) = nI (K 4 (K 0 1 - 1)) := hR.2.1 3 (by omega) _ (by omega)
  refine hs (fun _ => false) 80 0 _ _ _ _ _ (vc_f (by rw [r2]; exact nI_ge (b := 8) hO (by omega)) (vc_f (by rw [r1]; exact nI_nle hm0 (by omega)) (And.intro (by rw [r2]; exact vi 17 rfl) (fun σ1 e1 => ?_))))
  rw [r2, r1, e1m, hcl] at e1
  have e1 : σ1 = am_up σ 17 (K 0 2) (nI (K 0 1 - 1)) := e1
  have q1 : σ1 12 = σ 12 := by rw [e1, am_up_ne (by omega)]
  refine And.intro (by rw [q1, r1, e1m]; exact vm) (And.intro (by rw [q1, r1, e1m]; exact vm) (fun σ2 e2 => ?_))
  have x16 : σ1 16 (K 0 1 - 1) = nI (K 4 (K 0 1 - 1)) := by rw [e1, up_rn (by omega)]; exact r16
  rw [q1, r1, e1m, hcm] at e2
  have e2 : σ2 = am_up σ1 16 (K 0 1 - 1) (σ1 16 (K 0 1 - 1) + 1) := e2
  rw [x16, ← nI_succ] at e2
  have e2 : σ2 = am_up σ1 16 (K 0 1 - 1) (nI (K 4 (K 0 1 - 1) + 1)) := e2
  have q2 : σ2 12 = σ 12 := by rw [e2, am_up_ne (by omega), q1]
  refine And.intro (by rw [q2, r2]; exact vi 18 rfl) (fun σ3 e3 => ?_)
  rw [q2, r2, hcl] at e3
  have e3 : σ3 = am_up σ2 18 (K 0 2) (nI z) := e3
  have q3 : σ3 12 = σ 12 := by rw [e3, am_up_ne (by omega), q2]
  refine And.intro (by rw [q3, r2]; exact vi 19 rfl) (fun σ4 e4 => ?_)
  rw [q3, r2, hcl] at e4
  have e4 : σ4 = am_up σ3 19 (K 0 2) (nI h) := e4
  have q4 : σ4 12 = σ 12 := by rw [e4, am_up_ne (by omega), q3]
  refine And.intro (by rw [q4, r2]; exact vi 20 rfl) (fun σ5 e5 => ?_)
  rw [q4, r2, hcl] at e5
  have e5 : σ5 = am_up σ4 20 (K 0 2) (nI 0) := e5
  have q5 : σ5 12 = σ 12 := by rw [e5, am_up_ne (by omega), q4]
  refine And.intro (by rw [q5, r2]; exact vi 21 rfl) (fun σ6 e6 => ?_)
  rw [q5, r2, hcl] at e6
  have e6 : σ6 = am_up σ5 21 (K 0 2) (nI 0) := e6
  have q6 : σ6 12 = σ 12 := by rw [e6, am_up_ne (by omega), q5]
  refine And.intro (by rw [q6, r2]; exact vi 22 rfl) (fun σ7 e7 => ?_)
  rw [q6, r2, hcl] at e7
  have e7 : σ7 = am_up σ6 22 (K 0 2) (nI 0) := e7
  have q7 : σ7 12 = σ 12 := by rw [e7, am_up_ne (by omega), q6]
  refine fun σ8 e8 => And.intro rfl ?_
  rw [q7, r2, ← nI_succ] at e8
  have e8 : σ8 = am_up σ7 12 2 (nI (K 0 2 + 1)) := e8
  refine hP σ8 ⟨fun i hi => ?_, fun f hf j hj => ?_, fun f hf o ho => ?_⟩ (fun i hi => ?_) (fun q hq => by rw [e8, am_up_ne (by omega), e7, am_up_ne (by omega), e6, am_up_ne (by omega), e5, am_up_ne (by omega), e4, am_up_ne (by omega), e3, am_up_ne (by omega), e2, am_up_ne (by omega), e1, am_up_ne (by omega)])
  · rcases (show i = 0 ∨ i = 1 ∨ i = 2 by omega) with e | e | e <;> subst e
    · rw [e8, up_ne (by omega), q7]; exact r0
    · rw [e8, up_ne (by omega), q7]; exact r1
    · rw [e8, up_at]; rfl
  · have hj : j < K 0 1 := hj
    have h9 := hR.2.1 f hf j hj
    rcases f4 hf with e | e | e | e <;> subst e
    · rw [e8, up_rn (by omega), e7, up_rn (by omega), e6, up_rn (by omega), e5, up_rn (by omega), e4, up_rn (by omega), e3, up_rn (by omega), e2, up_rn (by omega), e1, up_rn (by omega)]; exact h9
    · rw [e8, up_rn (by omega), e7, up_rn (by omega), e6, up_rn (by omega), e5, up_rn (by omega), e4, up_rn (by omega), e3, up_rn (by omega), e2, up_rn (by omega), e1, up_rn (by omega)]; exact h9
    · rw [e8, up_rn (by omega), e7, up_rn (by omega), e6, up_rn (by omega), e5, up_rn (by omega), e4, up_rn (by omega), e3, up_rn (by omega), e2, up_rn (by omega), e1, up_rn (by omega)]; exact h9
    · show σ8 16 j = nI (if j = K 0 1 - 1 then K 4 j + 1 else K 4 j)
      rw [e8, up_rn (by omega), e7, up_rn (by omega), e6, up_rn (by omega), e5, up_rn (by omega), e4, up_rn (by omega), e3, up_rn (by omega), e2, up_if, nI_if, e1, up_rn (by omega)]
      split
      · rename_i e; rw [e]
      · exact h9
  · have ho : o < K 0 2 + 1 := ho
    have old := fun f hf (h : ¬ o = K 0 2) => hR.2.2 f hf o (by omega)
    rcases f6 hf with e | e | e | e | e | e <;> subst e
    · show σ8 17 o = nI (if o = K 0 2 then K 0 1 - 1 else K 5 o)
      rw [e8, up_rn (by omega), e7, up_rn (by omega), e6, up_rn (by omega), e5, up_rn (by omega), e4, up_rn (by omega), e3, up_rn (by omega), e2, up_rn (by omega), e1, up_if, nI_if]
      split
      · rfl
      · exact old 0 (by omega) (by assumption)
    · show σ8 18 o = nI (if o = K 0 2 then z else K 6 o)
      rw [e8, up_rn (by omega), e7, up_rn (by omega), e6, up_rn (by omega), e5, up_rn (by omega), e4, up_rn (by omega), e3, up_if, nI_if, e2, up_rn (by omega), e1, up_rn (by omega)]
      split
      · rfl
      · exact old 1 (by omega) (by assumption)
    · show σ8 19 o = nI (if o = K 0 2 then h else K 7 o)
      rw [e8, up_rn (by omega), e7, up_rn (by omega), e6, up_rn (by omega), e5, up_rn (by omega), e4, up_if, nI_if, e3, up_rn (by omega), e2, up_rn (by omega), e1, up_rn (by omega)]
      split
      · rfl
      · exact old 2 (by omega) (by assumption)
    · show σ8 20 o = nI (K 8 o)
      rw [e8, up_rn (by omega), e7, up_rn (by omega), e6, up_rn (by omega), e5, up_if, e4, up_rn (by omega), e3, up_rn (by omega), e2, up_rn (by omega), e1, up_rn (by omega)]
      split
      · rw [hZ 8 o (by omega)]
      · exact old 3 (by omega) (by assumption)
    · show σ8 21 o = nI (K 9 o)
      rw [e8, up_rn (by omega), e7, up_rn (by omega), e6, up_if, e5, up_rn (by omega), e4, up_rn (by omega), e3, up_rn (by omega), e2, up_rn (by omega), e1, up_rn (by omega)]
      split
      · rw [hZ 9 o (by omega)]
      · exact old 4 (by omega) (by assumption)
    · show σ8 22 o = nI (K 10 o)
      rw [e8, up_rn (by omega), e7, up_if, e6, up_rn (by omega), e5, up_rn (by omega), e4, up_rn (by omega), e3, up_rn (by omega), e2, up_rn (by omega), e1, up_rn (by omega)]
      split
      · rw [hZ 10 o (by omega)]
      · exact old 5 (by omega) (by assumption)
  · rw [e8, up_rn (by omega), e7, up_if]
    split
    · exact Or.inl rfl
    · rw [e6, up_rn (by omega), e5, up_rn (by omega), e4, up_rn (by omega), e3, up_rn (by omega), e2, up_rn (by omega), e1, up_rn (by omega)]
      exact hG i hi)
