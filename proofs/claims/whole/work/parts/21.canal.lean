theorem am_g {d y x : Nat} {C G : am_C} (h : am_Met d x C) (h2 : am_Met d y G) : am_Met d y (bif Nat.beq y x then C else G) := by
  cases e : Nat.beq y x with
  | true => have e := Nat.eq_of_beq_eq_true e; subst e; exact h
  | false => exact h2
theorem vc_if {c a b : Prop} (h1 : c → a) (h2 : ¬ c → b) : am_if c a b := ⟨h1, h2⟩
theorem vc_t {c a b : Prop} (hc : c) (h : a) : am_if c a b := ⟨fun _ => h, fun n => absurd hc n⟩
theorem vc_f {c a b : Prop} (hc : ¬ c) (h : b) : am_if c a b := ⟨fun n => absurd n hc, fun _ => h⟩
theorem i_lt (a b : Int32) : a < b ↔ a.toInt < b.toInt := Int32.lt_iff_toInt_lt
theorem i_le (a b : Int32) : a ≤ b ↔ a.toInt ≤ b.toInt := Int32.le_iff_toInt_le
theorem p_eq {P : Option Value → am_Sg → am_Tu → Prop} {a b : Int32} {σ : am_Sg} {τ : am_Tu} (h : a = b) (hP : P (some (.int b)) σ τ) : P (some (.int a)) σ τ := h ▸ hP
theorem vin {j q : Nat} (h : j < am_len q) : vp_in (nI j) (am_len q) := vp_in_nI h (by have := am_len_le q; omega)
abbrev KT : Type := Nat → Nat → Nat
def s_sp (K : KT) (j w : Nat) : Nat := w * K 1 j / 100
def s_lv (K : KT) (j w : Nat) : Nat := 10 * w / K 0 0 + K 2 j
def s_ht (K : KT) (o kd : Nat) : Nat := if kd = 0 then K 7 o else K 7 o - 3
def s_wt (K : KT) (o kd lv nt : Nat) : Nat := K 6 o * (lv - s_ht K o kd) + (if kd = 2 ∧ nt = 1 then K 0 3 else 0)
def s_tk (K : KT) (o kd lv w nt : Nat) : Nat := min (s_wt K o kd lv nt) w
def s_ou (K : KT) (kd : Nat → Nat) (nt lv o0 w : Nat) : Nat → Nat
  | 0 => w
  | i + 1 => s_ou K kd nt lv o0 w i - s_tk K (o0 + i) (kd (o0 + i)) lv (s_ou K kd nt lv o0 w i) nt
def s_in (K : KT) (kd : Nat → Nat) (nt f : Nat) : Nat → Nat
  | 0 => f
  | j + 1 => s_ou K kd nt (s_lv K j (s_in K kd nt f j - s_sp K j (s_in K kd nt f j))) (K 3 j) (s_in K kd nt f j - s_sp K j (s_in K kd nt f j)) (K 4 j)
def s_af (K : KT) (kd : Nat → Nat) (nt f j : Nat) : Nat := s_in K kd nt f j - s_sp K j (s_in K kd nt f j)
def s_le (K : KT) (kd : Nat → Nat) (nt f j : Nat) : Nat := s_lv K j (s_af K kd nt f j)
def s_ta (K : KT) (kd : Nat → Nat) (nt f o : Nat) : Nat := s_tk K o (kd o) (s_le K kd nt f (K 5 o)) (s_ou K kd nt (s_le K kd nt f (K 5 o)) (K 3 (K 5 o)) (s_af K kd nt f (K 5 o)) (o - K 3 (K 5 o))) nt
def s_ss (K : KT) (kd : Nat → Nat) (nt f : Nat) : Nat → Nat
  | 0 => 0
  | j + 1 => s_ss K kd nt f j + s_sp K j (s_in K kd nt f j)
theorem s_ou_le (K : KT) (kd : Nat → Nat) (nt lv o0 w : Nat) : ∀ i, s_ou K kd nt lv o0 w i ≤ w
  | 0 => Nat.le_refl w
  | i + 1 => Nat.le_trans (Nat.sub_le _ _) (s_ou_le K kd nt lv o0 w i)
theorem s_in_le (K : KT) (kd : Nat → Nat) (nt f : Nat) : ∀ j, s_in K kd nt f j ≤ f
  | 0 => Nat.le_refl f
  | j + 1 => Nat.le_trans (s_ou_le K kd nt _ _ _ _) (Nat.le_trans (Nat.sub_le _ _) (s_in_le K kd nt f j))
theorem s_af_le (K : KT) (kd : Nat → Nat) (nt f j : Nat) : s_af K kd nt f j ≤ f := Nat.le_trans (Nat.sub_le _ _) (s_in_le K kd nt f j)
theorem s_tk_le (K : KT) (o kd lv w nt : Nat) : s_tk K o kd lv w nt ≤ w := Nat.min_le_right _ _
theorem s_sp_le {K : KT} {j w : Nat} (h : K 1 j ≤ 9) : s_sp K j w ≤ w := by
  unfold s_sp
  have h2 : w * K 1 j ≤ w * 100 := Nat.mul_le_mul_left w (by omega)
  omega
theorem s_lv_le {K : KT} {j w : Nat} (h : K 2 j ≤ 9) (hw : w ≤ 9999) : s_lv K j w ≤ 99999 := by
  unfold s_lv
  have := Nat.div_le_self (10 * w) (K 0 0)
  omega
theorem s_wt_le {K : KT} {o kd lv nt : Nat} (h6 : K 6 o ≤ 9) (h3 : K 0 3 ≤ 99) (hl : lv ≤ 99999) : s_wt K o kd lv nt ≤ 900090 := by
  unfold s_wt
  have h : K 6 o * (lv - s_ht K o kd) ≤ 9 * 99999 := Nat.mul_le_mul h6 (by omega)
  split <;> omega
theorem tk_min {X : Int32} {a w : Nat} (hX : X = nI a) (ha : a < 2 ^ 31) (hw : w < 2 ^ 31) : (if nI w < X then nI w else X) = nI (min a w) := by
  subst hX
  by_cases h : w < a
  · rw [if_pos (nI_lt h ha), Nat.min_eq_right (by omega)]
  · rw [if_neg (nI_nlt (by omega) hw), Nat.min_eq_left (by omega)]
theorem tk_ht : ∀ h, h < 10 → (if (0 : Int32) < nI h - 3 then nI h - 3 else 0) = nI (h - 3) := by decide +kernel
theorem tk_wt {K : KT} {o kd lv nt : Nat} {s h : Int32} {H : Nat} (hs : s = nI (K 6 o)) (hh : h = nI H) (hH : H = s_ht K o kd) (hb : lv ≤ 99999) (h9 : H ≤ 9) (hl : H ≤ lv) : s * (nI lv - h) = nI (K 6 o * (lv - s_ht K o kd)) := by
  subst hs; subst hh; subst hH
  rw [pk_sub hl, pk_mul]
def C_seepOf : am_C := fun av n σ τ nf P => nf = n ∧ 155 ≤ n ∧ ∃ (rw lf c j w : Nat) (K : KT), τ = tauY rw lf ∧ av = [.ref c, .int (nI j), .int (nI w)] ∧ (c = 1 ∨ c = 12) ∧ RepX σ c K ∧ WfK K ∧ j < K 0 1 ∧ w ≤ 9999 ∧ P (some (.int (nI (s_sp K j w)))) σ τ
set_option maxRecDepth 100000 in
theorem M_seepOf (d : Nat) : am_Met (d + 1) 5 C_seepOf := am_meth (own0 := "CanalEnd$Canal") 5 (d + 0) 155 T_X0_seepOf (fun y => am_no) C_seepOf rfl F_X0_seepOf rfl (by decide +kernel) Tc_X0_seepOf (fun y => am_no_met) (by
  intro av n σ τ nf P hnf hC
  obtain ⟨rfl, hn, rw, lf, c, j, w, K, rfl, rfl, hc, hR, hK, hj, hw, hP⟩ := hC
  refine ⟨hn, rfl, Nat.le_of_ble_eq_true rfl, fun Wb hs => ?_⟩
  refine hs (fun _ => false) 20 0 _ _ _ _ _ ?_
  have hj10 : j < 10 := by have := hK.2.1; omega
  have k1 := (hK.2.2.2.2.2.2.1 j hj).1
  have hm : w * K 1 j ≤ 9999 * 9 := Nat.mul_le_mul hw k1
  have e : nI w * nI (K 1 j) / 100 = nI (s_sp K j w) := by
    rw [pk_mul, show (100 : Int32) = nI 100 from rfl, pk_div (by omega) (by omega) (by omega)]
    rfl
  have hs := hR.2.1 0 (by omega) j hj
  rcases hc with rfl | rfl
  · refine And.intro (vin (show j < 10 from hj10)) (And.intro (by decide) (And.intro rfl ?_))
    rw [nI_clamp (by omega), hs, e]
    exact hP
  · refine And.intro (vin (show j < 10 from hj10)) (And.intro (by decide) (And.intro rfl ?_))
    rw [nI_clamp (by omega), hs, e]
    exact hP)
def C_levelOf : am_C := fun av n σ τ nf P => nf = n ∧ 155 ≤ n ∧ ∃ (rw lf c j w : Nat) (K : KT), τ = tauY rw lf ∧ av = [.ref c, .int (nI j), .int (nI w)] ∧ (c = 1 ∨ c = 12) ∧ RepX σ c K ∧ WfK K ∧ j < K 0 1 ∧ w ≤ 9999 ∧ P (some (.int (nI (s_lv K j w)))) σ τ
set_option maxRecDepth 100000 in
theorem M_levelOf (d : Nat) : am_Met (d + 1) 6 C_levelOf := am_meth (own0 := "CanalEnd$Canal") 6 (d + 0) 155 T_X0_levelOf (fun y => am_no) C_levelOf rfl F_X0_levelOf rfl (by decide +kernel) Tc_X0_levelOf (fun y => am_no_met) (by
  intro av n σ τ nf P hnf hC
  obtain ⟨rfl, hn, rw, lf, c, j, w, K, rfl, rfl, hc, hR, hK, hj, hw, hP⟩ := hC
  refine ⟨hn, rfl, Nat.le_of_ble_eq_true rfl, fun Wb hs => ?_⟩
  refine hs (fun _ => false) 30 0 _ _ _ _ _ ?_
  have hj10 : j < 10 := by have := hK.2.1; omega
  have k2 := (hK.2.2.2.2.2.2.1 j hj).2.1
  have w0 := hK.2.2.2.2.1 (by omega)
  have w9 := hK.1
  have ew := hR.1 0 (by omega)
  have es := hR.2.1 1 (by omega) j hj
  have e : 10 * nI w / nI (K 0 0) + nI (K 2 j) = nI (s_lv K j w) := by
    rw [show (10 : Int32) = nI 10 from rfl, pk_mul, pk_div (by omega) (by omega) (by omega), nI_add]
    rfl
  rcases hc with rfl | rfl
  · refine vc_t (by rw [ew]; exact nI_le (a := 1) w0 (by omega)) ?_
    refine And.intro (by rw [ew]; exact nI_ne0 w0 (by omega)) (And.intro (vin (show j < 10 from hj10)) (And.intro rfl ?_))
    rw [nI_clamp (by omega), ew, es, e]
    exact hP
  · refine vc_t (by rw [ew]; exact nI_le (a := 1) w0 (by omega)) ?_
    refine And.intro (by rw [ew]; exact nI_ne0 w0 (by omega)) (And.intro (vin (show j < 10 from hj10)) (And.intro rfl ?_))
    rw [nI_clamp (by omega), ew, es, e]
    exact hP)
def C_takenFrom : am_C := fun av n σ τ nf P => nf = n ∧ 155 ≤ n ∧ ∃ (rw lf c w o kd lv nt : Nat) (K : KT), τ = tauY rw lf ∧ av = [.ref c, .int (nI w), .int (nI o), .int (nI kd), .int (nI lv), .int (nI nt)] ∧ (c = 1 ∨ c = 12) ∧ RepX σ c K ∧ WfK K ∧ o < K 0 2 ∧ w ≤ 9999 ∧ kd ≤ 2 ∧ lv ≤ 99999 ∧ nt ≤ 1 ∧ P (some (.int (nI (s_tk K o kd lv w nt)))) σ τ
set_option maxRecDepth 100000 in
theorem M_takenFrom (d : Nat) : am_Met (d + 1) 7 C_takenFrom := am_meth (own0 := "CanalEnd$Canal") 7 (d + 0) 155 T_X0_takenFrom (fun y => am_no) C_takenFrom rfl F_X0_takenFrom rfl (by decide +kernel) Tc_X0_takenFrom (fun y => am_no_met) (by
  intro av n σ τ nf P hnf hC
  obtain ⟨rfl, hn, rw, lf, c, w, o, kd, lv, nt, K, rfl, rfl, hc, hR, hK, ho, hw, hkd, hlv, hnt, hP⟩ := hC
  refine ⟨hn, rfl, Nat.le_of_ble_eq_true rfl, fun Wb hs => ?_⟩
  refine hs (fun _ => false) 80 0 _ _ _ _ _ ?_
  have ho8 : o < 8 := by have := hK.2.2.1; omega
  have hk9 := hK.2.2.2.2.2.2.2.2.2 o ho
  have k6 := hk9.2.2.1
  have k7 := hk9.2.2.2.1
  have k3 := hK.2.2.2.1
  have e3 := hR.1 3 (by omega)
  have e6 := hR.2.2 1 (by omega) o ho
  have e7 := hR.2.2 2 (by omega) o ho
  have hwt := s_wt_le (K := K) (o := o) (kd := kd) (lv := lv) (nt := nt) k6 k3 hlv
  have h3 := tk_ht (K 7 o) (by omega)
  have fin : ∀ X : Int32, X = nI (s_wt K o kd lv nt) → P (some (.int (if nI w < X then nI w else X))) σ (tauY rw lf) := fun X hX => p_eq (tk_min hX (by omega) (by omega)) hP
  have z0 : lv ≤ s_ht K o kd → K 6 o * (lv - s_ht K o kd) = 0 := fun h => by rw [Nat.sub_eq_zero_of_le h, Nat.mul_zero]
  have z1 : lv ≤ s_ht K o kd → ¬ (kd = 2 ∧ nt = 1) → (0 : Int32) = nI (s_wt K o kd lv nt) := fun h g => by unfold s_wt; rw [z0 h, if_neg g]; rfl
  have z2 : lv ≤ s_ht K o kd → (kd = 2 ∧ nt = 1) → (0 : Int32) + nI (K 0 3) = nI (s_wt K o kd lv nt) := fun h g => by unfold s_wt; rw [z0 h, if_pos g]; exact nI_add 0 (K 0 3)
  have z3 : ¬ (kd = 2 ∧ nt = 1) → nI (K 6 o * (lv - s_ht K o kd)) = nI (s_wt K o kd lv nt) := fun g => by unfold s_wt; rw [if_neg g]; rfl
  have z4 : (kd = 2 ∧ nt = 1) → nI (K 6 o * (lv - s_ht K o kd)) + nI (K 0 3) = nI (s_wt K o kd lv nt) := fun g => by unfold s_wt; rw [if_pos g]; exact nI_add _ _
  have l0 : ¬ nI lv ≤ nI (s_ht K o kd) → s_ht K o kd ≤ lv := fun h => by
    by_cases g : s_ht K o kd ≤ lv
    · exact g
    · exact absurd (nI_le (by omega) (by unfold s_ht; split <;> omega)) h
  have l1 : nI lv ≤ nI (s_ht K o kd) → lv ≤ s_ht K o kd := fun h => (nI_leI (by omega) (by unfold s_ht; split <;> omega)).mp h
  have q2 : nI kd = 2 ↔ kd = 2 := nI_eq (b := 2) (by omega) (by omega)
  have q0 : nI kd = 0 ↔ kd = 0 := nI_eq (b := 0) (by omega) (by omega)
  have qn : nI nt = 0 ↔ nt = 0 := nI_eq (b := 0) (by omega) (by omega)
  rcases hc with rfl | rfl
  all_goals
    refine vc_if (fun c0 => ?_) (fun c0 => ?_)
    · have hk0 := q0.mp c0
      have hh : K 7 o = s_ht K o kd := by unfold s_ht; rw [if_pos hk0]
      refine And.intro (vin (show o < 8 from ho8)) (vc_if (fun c1 => ?_) (fun c1 => ?_))
      · rw [nI_clamp (by omega), e7, hh] at c1
        refine vc_f (fun c2 => by have := q2.mp c2; omega) (And.intro rfl (fin _ (z1 (l1 c1) (by omega))))
      · rw [nI_clamp (by omega), e7, hh] at c1
        refine And.intro (vin (show o < 8 from ho8)) (vc_f (fun c2 => by have := q2.mp c2; omega) (And.intro rfl (fin _ ?_)))
        rw [nI_clamp (by omega), e6, e7, hh, pk_sub (l0 c1), pk_mul]
        exact z3 (by omega)
    · have hk0 : ¬ kd = 0 := fun q => c0 (q0.mpr q)
      have hh : K 7 o - 3 = s_ht K o kd := by unfold s_ht; rw [if_neg hk0]
      refine And.intro (vin (show o < 8 from ho8)) (vc_if (fun c1 => ?_) (fun c1 => ?_))
      · rw [nI_clamp (by omega), e7, h3, hh] at c1
        refine vc_if (fun c2 => vc_if (fun c3 => And.intro rfl (fin _ (z1 (l1 c1) (by have := qn.mp c3; omega)))) (fun c3 => And.intro rfl (fin _ ?_))) (fun c2 => And.intro rfl (fin _ (z1 (l1 c1) (fun g => c2 (q2.mpr g.1)))))
        rw [e3]
        exact z2 (l1 c1) ⟨q2.mp c2, by have : ¬ nt = 0 := fun g => c3 (qn.mpr g); omega⟩
      · rw [nI_clamp (by omega), e7, h3, hh] at c1
        refine And.intro (vin (show o < 8 from ho8)) (vc_if (fun c2 => vc_if (fun c3 => And.intro rfl (fin _ ?_)) (fun c3 => And.intro rfl (fin _ ?_))) (fun c2 => And.intro rfl (fin _ ?_)))
        · rw [nI_clamp (by omega), e6, e7, h3, hh, pk_sub (l0 c1), pk_mul]
          exact z3 (by have := qn.mp c3; omega)
        · rw [nI_clamp (by omega), e6, e7, h3, hh, pk_sub (l0 c1), pk_mul, e3]
          exact z4 ⟨q2.mp c2, by have : ¬ nt = 0 := fun g => c3 (qn.mpr g); omega⟩
        · rw [nI_clamp (by omega), e6, e7, h3, hh, pk_sub (l0 c1), pk_mul]
          exact z3 (fun g => c2 (q2.mpr g.1)))
