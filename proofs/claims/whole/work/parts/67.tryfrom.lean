def RepB (σ : am_Sg) (O : Nat) (B : Nat × Nat) : Prop := σ 104 0 = nI B.1 ∧ (B.1 < 10000 → ∀ z, z < O → σ 105 z = nI (hd O B.2 z))
def C_hkeep : am_C := fun av n σ τ nf P => nf = n ∧ 155 ≤ n ∧ ∃ (rw lf b s : Nat), τ = tauY rw lf ∧ av = [.ref 104, .ref 12, .int (nI s)] ∧ σ 104 0 = nI b ∧ b ≤ 10000 ∧ s ≤ 10000 ∧ (b ≤ s → P none σ τ) ∧ (¬ b ≤ s → ∀ σ', σ' 104 0 = nI s → (∀ z, z < 4 → σ' 105 z = σ 19 z) → (∀ q, ¬ q = 104 → ¬ q = 105 → σ' q = σ q) → P none σ' τ)
set_option maxRecDepth 100000 in
theorem M_hkeep (d : Nat) : am_Met (d + 1) 203 C_hkeep := am_meth (own0 := "CanalEnd$Heights") 203 (d + 0) 155 T_X2_keep (fun y => am_no) C_hkeep rfl F_X2_keep rfl (by decide +kernel) Tc_X2_keep (fun y => am_no_met) (by
  intro av n σ τ nf P hnf hC
  obtain ⟨rfl, hn, rw, lf, b, s, rfl, rfl, eb, hb, hs4, hP, hQ⟩ := hC
  refine ⟨hn, rfl, Nat.le_of_ble_eq_true rfl, fun Wb hs => ?_⟩
  refine hs (fun _ => false) 60 0 _ _ _ _ _ (vc_if (fun g => And.intro rfl (hP ?_)) (fun g => fun σ1 e1 => ⟨by decide, by decide, by decide, Nat.le_of_ble_eq_true rfl, Nat.le_of_ble_eq_true rfl, fun q => absurd q (by decide), fun σ2 e2 => And.intro rfl (hQ ?_ σ2 ?_ (fun z hz => ?_) (fun q g1 g2 => ?_))⟩))
  · rw [eb] at g
    exact (nI_leI (by omega) (by omega)).mp g
  · rw [eb] at g
    exact fun q => g (nI_le q (by omega))
  · have e2 : σ2 = am_cp σ1 19 105 0 0 4 := e2
    rw [e2, am_cp_ne (by omega), e1, up_at]
  · have e2 : σ2 = am_cp σ1 19 105 0 0 4 := e2
    rw [e2, am_cp_at]
    unfold va_cpy
    rw [if_pos (by omega), show 0 + (z - 0) = z by omega, e1, am_up_ne (by omega)]
  · have e2 : σ2 = am_cp σ1 19 105 0 0 4 := e2
    rw [e2, am_cp_ne (by omega), e1, am_up_ne (by omega)])
abbrev mmS (o : Nat) (s : ES) (mo le : Int32) : Prop := (o = 0 → mo = -1 ∧ le = -1) ∧ (0 < o → mo = nI s.2.2.1 ∧ le = nI s.2.2.2)
def C_tryF (r : Nat) : am_C := fun av n σ τ nf P => nf = n ∧ 155 ≤ n ∧ ∃ (lf o f pre : Nat) (mo le : Int32) (h : Nat → Nat) (B : Nat × Nat) (K : KT), τ = tauY 0 lf ∧ av = [.ref 104, .ref 12, .int (nI o), .int (nI (est K f h o).1), .int (nI (est K f h o).2.1), .int mo, .int le] ∧ mmS o (est K f h o) mo le ∧ WfK K ∧ RepX σ 12 (hK K h) ∧ (∀ z, z < K 0 2 → h z ≤ 9) ∧ 1 ≤ K 0 2 ∧ K 0 2 ≤ 4 ∧ o + r = K 0 2 ∧ f ≤ 9999 ∧ (∀ z, z < o → h z = pre / 10 ^ (o - 1 - z) % 10) ∧ B.1 ≤ 10000 ∧ RepB σ (K 0 2) B ∧ ∀ (σ' : am_Sg) (h' : Nat → Nat), RepX σ' 12 (hK K h') → (∀ z, z < K 0 2 → h' z ≤ 9) → (∀ z, z < o → h' z = h z) → RepB σ' (K 0 2) (GG K f (K 0 2) (pre * 10 ^ r) (10 ^ r) B) → (∀ q, ¬ q = 19 → ¬ q = 104 → ¬ q = 105 → σ' q = σ q) → P none σ' τ
theorem est_lv {K : KT} {f : Nat} {h : Nat → Nat} (hW : WfK K) (hf : f ≤ 9999) {o : Nat} : ∀ z, z < o → o ≤ K 0 2 → levS K z (est K f h z).1 (est K f h z).2.1 ≤ 99999
  | 0, h1, h2 => by
    unfold levS
    rw [if_neg (fun q => by have := q.1; omega)]
    exact s_lv_le (hW.2.2.2.2.2.2.1 _ (hW.2.2.2.2.2.2.2.2.2 0 (by omega)).1).2.1 (by have := watS_le (K := K) (o := 0) (c := (est K f h 0).1); have := (est_le (K := K) (f := f) (h := h) 0).1; omega)
  | z + 1, h1, h2 => by
    have ih := est_lv (h := h) hW hf z (by omega) h2
    unfold levS
    split
    · exact ih
    · exact s_lv_le (hW.2.2.2.2.2.2.1 _ (hW.2.2.2.2.2.2.2.2.2 (z + 1) (by omega)).1).2.1 (by have := watS_le (K := K) (o := z + 1) (c := (est K f h (z + 1)).1); have := (est_le (K := K) (f := f) (h := h) (z + 1)).1; omega)
theorem GG_one {K : KT} {f O lo : Nat} {B : Nat × Nat} : GG K f O lo 1 B = stp K f O lo B := rfl
theorem upf_lt {h : Nat → Nat} {o v z : Nat} (hz : z < o) : upf h o v z = h z := if_neg (by omega)
theorem upf_at {h : Nat → Nat} {o v : Nat} : upf h o v o = v := if_pos rfl
/-- rows behind one head all have at least its spread -/
theorem Sp_ge {K : KT} {f o r pre x : Nat} {h : Nat → Nat} (ho : 0 < o) (hh : ∀ z, z < o → h z = pre / 10 ^ (o - 1 - z) % 10) (hx : x < 10 ^ r) : (est K f h o).2.2.1 - (est K f h o).2.2.2 ≤ Sp K f (o + r) (pre * 10 ^ r + x) := by
  have e : est K f h o = est K f (hd (o + r) (pre * 10 ^ r + x)) o := est_c o (fun z hz => by rw [hh z hz, hd_pre hx hz])
  have m := est_mono (K := K) (f := f) (h := hd (o + r) (pre * 10 ^ r + x)) ho r
  unfold Sp
  rw [e]
  omega
/-- heads after which the same has come to pass bring the same spreads -/
theorem Sp_eq {K : KT} {f o r a b x : Nat} {h h' : Nat → Nat} (hh : ∀ z, z < o → h z = a / 10 ^ (o - 1 - z) % 10) (hh' : ∀ z, z < o → h' z = b / 10 ^ (o - 1 - z) % 10) (e : est K f h o = est K f h' o) (hx : x < 10 ^ r) : Sp K f (o + r) (a * 10 ^ r + x) = Sp K f (o + r) (b * 10 ^ r + x) := by
  have e1 : est K f h o = est K f (hd (o + r) (a * 10 ^ r + x)) o := est_c o (fun z hz => by rw [hh z hz, hd_pre hx hz])
  have e2 : est K f h' o = est K f (hd (o + r) (b * 10 ^ r + x)) o := est_c o (fun z hz => by rw [hh' z hz, hd_pre hx hz])
  have e3 := est_go (K := K) (f := f) (o := o) (h := hd (o + r) (a * 10 ^ r + x)) (h' := hd (o + r) (b * 10 ^ r + x)) (by rw [← e1, ← e2, e]) r (fun z h1 h2 => hd_suf h1 h2)
  unfold Sp
  rw [e3]
theorem up_mx {o : Nat} {s : ES} {mo le : Int32} {t : Nat} (hm : mmS o s mo le) (h1 : s.2.2.1 ≤ 9999) (ht : t ≤ 9999) (h0 : o = 0 → s.2.2.1 = 0) : (if mo < nI t then nI t else mo) = nI (max s.2.2.1 t) := by
  by_cases c : o = 0
  · rw [(hm.1 c).1, h0 c, Nat.max_eq_right (Nat.zero_le t), if_pos]
    rw [i_lt, nI_toInt (by omega), show (-1 : Int32).toInt = -1 from rfl]
    omega
  · rw [(hm.2 (by omega)).1]
    by_cases g : s.2.2.1 < t
    · rw [if_pos (nI_lt g (by omega)), Nat.max_eq_right (by omega)]
    · rw [if_neg (nI_nlt (by omega) (by omega)), Nat.max_eq_left (by omega)]
theorem up_mn {o : Nat} {s : ES} {mo le : Int32} {t : Nat} (hm : mmS o s mo le) (c : ¬ o = 0) (h1 : s.2.2.2 ≤ 9999) (ht : t ≤ 9999) : (if nI t < le then nI t else le) = nI (min s.2.2.2 t) := by
  rw [(hm.2 (by omega)).2]
  by_cases g : t < s.2.2.2
  · rw [if_pos (nI_lt g (by omega)), Nat.min_eq_right (by omega)]
  · rw [if_neg (nI_nlt (by omega) (by omega)), Nat.min_eq_left (by omega)]
set_option maxRecDepth 100000 in
theorem M_tryF : ∀ (r d : Nat), am_Met (d + (r + 3)) 202 (C_tryF r)
  | 0, d => am_meth (own0 := "CanalEnd$Heights") 202 (d + 2) 155 T_X2_tryFrom (fun y => bif Nat.beq y 203 then C_hkeep else am_no) (C_tryF 0) rfl F_X2_tryFrom rfl (by decide +kernel) Tc_X2_tryFrom (fun y => am_g (M_hkeep (d + 1)) am_no_met) (by
    intro av n σ τ nf P hnf hC
    obtain ⟨rfl, hn, lf, o, f, pre, mo, le, h, B, K, rfl, rfl, hm, hW, hR, hh, hO1, hO4, hor, hf, hpre, hB, hRB, hP⟩ := hC
    refine ⟨hn, rfl, Nat.le_of_ble_eq_true rfl, fun Wb hs => ?_⟩
    have ho : o = K 0 2 := by omega
    have eO : σ 12 2 = nI (K 0 2) := by have := hR.1 2 (by omega); rw [hK_ne (by omega)] at this; exact this
    obtain ⟨l1, l2, l3⟩ := est_le (K := K) (f := f) (h := h) o
    obtain ⟨m1, m2⟩ := hm.2 (by omega)
    have es : mo - le = nI ((est K f h o).2.2.1 - (est K f h o).2.2.2) := by rw [m1, m2, pk_sub l3]
    have eh : est K f h o = est K f (hd (K 0 2) pre) o := est_c o (fun z hz => by
      have := hd_pre (o := o) (r := 0) (pre := pre) (x := 0) (z := z) (by omega) hz
      rw [Nat.pow_zero, Nat.mul_one, Nat.add_zero, Nat.add_zero] at this
      rw [hpre z hz, ← this, ho])
    have eS : (est K f h o).2.2.1 - (est K f h o).2.2.2 = Sp K f (K 0 2) pre := by unfold Sp; rw [eh, ho]
    rw [eS] at es
    have sl := Sp_le (K := K) (f := f) (O := K 0 2) (row := pre)
    have eG : GG K f (K 0 2) (pre * 10 ^ 0) (10 ^ 0) B = stp K f (K 0 2) pre B := by rw [Nat.pow_zero, Nat.mul_one]; rfl
    rw [eG] at hP
    refine hs (fun _ => false) 60 0 _ _ _ _ _ (vc_t (by rw [eO, ho]; exact nI_le (Nat.le_refl _) (by omega)) ⟨rfl, hn, 0, lf, B.1, Sp K f (K 0 2) pre, rfl, by rw [es], hRB.1, hB, by omega, fun g => And.intro rfl ?_, fun g σ2 a1 a2 a3 => And.intro rfl ?_⟩)
    · have e : stp K f (K 0 2) pre B = B := by unfold stp; rw [if_neg (by omega)]
      rw [e] at hP
      exact hP σ h hR hh (fun _ _ => rfl) hRB (fun _ _ _ _ => rfl)
    · have e : stp K f (K 0 2) pre B = (Sp K f (K 0 2) pre, pre) := by unfold stp; rw [if_pos (by omega)]
      rw [e] at hP
      refine hP σ2 h (hR.frame (fun q g1 g2 => a3 q (by omega) (by omega))) hh (fun _ _ => rfl) ⟨a1, fun _ z hz => ?_⟩ (fun q _ g1 g2 => a3 q g1 g2)
      rw [a2 z (by omega)]
      have h7 : σ 19 z = nI (hK K h 7 z) := hR.2.2 2 (by omega) z (by rw [hK_ne (by omega)]; exact hz)
      have := hd_pre (o := o) (r := 0) (pre := pre) (x := 0) (z := z) (by omega) (by omega)
      rw [Nat.pow_zero, Nat.mul_one, Nat.add_zero, Nat.add_zero, ho] at this
      rw [h7, hK_7, hpre z (by omega), ho, ← this])
  | r + 1, d => am_meth (own0 := "CanalEnd$Heights") 202 (d + (r + 3)) 155 T_X2_tryFrom (fun y => bif Nat.beq y 5 then C_seepOf else (bif Nat.beq y 6 then C_levelOf else (bif Nat.beq y 7 then C_takenFrom else (bif Nat.beq y 202 then C_tryF r else am_no)))) (C_tryF (r + 1)) rfl F_X2_tryFrom rfl (by decide +kernel) Tc_X2_tryFrom (fun y => am_g (M_seepOf (d + (r + 2))) (am_g (M_levelOf (d + (r + 2))) (am_g (M_takenFrom (d + (r + 2))) (am_g (M_tryF r d) am_no_met)))) (by
    intro av n σ τ nf P hnf hC
    obtain ⟨rfl, hn, lf, o, f, pre, mo, le, h, B, K, rfl, rfl, hm, hW, hR, hh, hO1, hO4, hor, hf, hpre, hB, hRB, hP⟩ := hC
    refine ⟨hn, rfl, Nat.le_of_ble_eq_true rfl, fun Wb hs => ?_⟩
    have ho : o < K 0 2 := by omega
    have eO : σ 12 2 = nI (K 0 2) := by have := hR.1 2 (by omega); rw [hK_ne (by omega)] at this; exact this
    obtain ⟨l1, l2, l3⟩ := est_le (K := K) (f := f) (h := h) o
    have lw := watS_le (K := K) (o := o) (c := (est K f h o).1)
    have llv := est_lv (h := h) hW hf o (Nat.lt_succ_self o) (by omega)
    have q5 := hW.2.2.2.2.2.2.2.2.2 o ho
    have hM := hW.2.1
    have h0' : ∀ h9 : Nat → Nat, hK K h9 0 = K 0 := fun h9 => hK_ne (by omega)
    have hco : (nI o).toNatClampNeg = o := nI_clamp (by omega)
    have l0 : o = 0 → (est K f h o).2.2.1 = 0 := fun e => by rw [e]; rfl
    have k113 : ∀ (fr : Int32) m v (h1 : Nat → Nat) (bf : Int32) (x13 x14 x15 : Option Value) (σ1 : am_Sg), v + m = 10 → RepX σ1 12 (hK K h1) → (∀ z, z < K 0 2 → h1 z ≤ 9) → (∀ z, z < o → h1 z = h z) → RepB σ1 (K 0 2) (GG K f (K 0 2) (pre * 10 ^ (r + 1)) (v * 10 ^ r) B) → (∀ q, ¬ q = 19 → ¬ q = 104 → ¬ q = 105 → σ1 q = σ q) → ((v = 0 ∧ bf = -1) ∨ (0 < v ∧ bf = nI (tkE K o (est K f h o).1 (est K f h o).2.1 (v - 1)) ∧ ∀ x, x < 10 ^ r → ((GG K f (K 0 2) (pre * 10 ^ (r + 1)) (v * 10 ^ r) B)).1 ≤ Sp K f (K 0 2) ((pre * 10 + (v - 1)) * 10 ^ r + x))) → Wb 113 [some (.ref 104), some (.ref 12), some (.int (nI o)), some (.int (nI (est K f h o).1)), some (.int (nI (est K f h o).2.1)), some (.int mo), some (.int le), some (.int fr), some (.int (nI (K 5 o))), some (.int (nI (watS K o (est K f h o).1))), some (.int (nI (levS K o (est K f h o).1 (est K f h o).2.1))), some (.int bf), some (.int (nI v)), x13, x14, x15] [] nf σ1 (tauY 0 lf) := by
      intro fr m
      induction m with
      | zero =>
        intro v h1 bf x13 x14 x15 σ1 hv g1 g2 g3 g4 g5 g6
        have hv : v = 10 := by omega
        subst hv
        rw [show 10 * 10 ^ r = 10 ^ (r + 1) by rw [Nat.pow_succ, Nat.mul_comm]] at g4
        exact hs (fun p => Nat.beq p 113) 80 113 _ _ _ _ _ (vc_t (nI_lt (a := 9) (by omega) (by omega)) (And.intro rfl (hP σ1 h1 g1 g2 g3 g4 g5)))
      | succ m ih =>
        intro v h1 bf x13 x14 x15 σ1 hv g1 g2 g3 g4 g5 g6
        have ee : est K f h1 o = est K f h o := est_c o g3
        refine hs (fun p => Nat.beq p 113) 80 113 _ _ _ _ _ (vc_f (nI_nlt (b := v) (a := 9) (by omega) (by omega)) (And.intro (vin (show o < 8 by omega)) (fun σ2 e2 => ?_)))
        rw [hco] at e2
        have e2 : σ2 = am_up σ1 19 o (nI v) := e2
        have r2 : RepX σ2 12 (hK K (upf h1 o v)) := by rw [e2, ← hK_set]; exact g1.set (f := 7) (by omega)
        have hh2 : ∀ z, z < K 0 2 → upf h1 o v z ≤ 9 := fun z hz => by
          unfold upf
          split
          · omega
          · exact g2 z hz
        have hW2 := wf_hK hW hh2
        have b2 : RepB σ2 (K 0 2) (GG K f (K 0 2) (pre * 10 ^ (r + 1)) (v * 10 ^ r) B) := ⟨by rw [e2, up_rn (by omega)]; exact g4.1, fun q z hz => by rw [e2, up_rn (by omega)]; exact g4.2 q z hz⟩
        have f2 : ∀ q, ¬ q = 19 → ¬ q = 104 → ¬ q = 105 → σ2 q = σ q := fun q a1 a2 a3 => by rw [e2, am_up_ne a1]; exact g5 q a1 a2 a3
        have bl := GG_le (K := K) (f := f) (O := K 0 2) (lo := pre * 10 ^ (r + 1)) (B := B) (v * 10 ^ r)
        have tl := tkE_le (K := K) (o := o) (c := (est K f h o).1) (l := (est K f h o).2.1) (v := v)
        have tw : tkE K o (est K f h o).1 (est K f h o).2.1 v ≤ (watS K o (est K f h o).1) := Nat.min_le_right _ _
        -- how far it is behind this height
        have lo1 : pre * 10 ^ (r + 1) + v * 10 ^ r = (pre * 10 + v) * 10 ^ r := by rw [Nat.pow_succ, Nat.mul_comm (10 ^ r) 10, ← Nat.mul_assoc, Nat.add_mul]
        have app : GG K f (K 0 2) (pre * 10 ^ (r + 1)) ((v + 1) * 10 ^ r) B = GG K f (K 0 2) ((pre * 10 + v) * 10 ^ r) (10 ^ r) (GG K f (K 0 2) (pre * 10 ^ (r + 1)) (v * 10 ^ r) B) := by rw [Nat.add_mul, Nat.one_mul, GG_app, lo1]
        have pr2 : ∀ z, z < o + 1 → upf h1 o v z = (pre * 10 + v) / 10 ^ (o + 1 - 1 - z) % 10 := fun z hz => by
          rw [pre_at (by omega) hz]
          unfold upf
          split
          · rfl
          · rw [g3 z (by omega), hpre z (by omega)]
        have es2 : est K f (upf h1 o v) (o + 1) = estS K o (est K f h o) v := by
          show estS K o (est K f (upf h1 o v) o) (upf h1 o v o) = _
          rw [est_c o (fun z hz => (upf_lt hz).trans (g3 z hz)), upf_at]
        have or1 : o + 1 + r = K 0 2 := by omega
        have sge : ∀ x, x < 10 ^ r → (estS K o (est K f h o) v).2.2.1 - (estS K o (est K f h o) v).2.2.2 ≤ Sp K f (K 0 2) ((pre * 10 + v) * 10 ^ r + x) := fun x hx => by
          have := Sp_ge (K := K) (f := f) (o := o + 1) (r := r) (pre := pre * 10 + v) (h := upf h1 o v) (by omega) pr2 hx
          rw [es2, or1] at this
          exact this
        have kp : ∀ (B' : Nat × Nat) lo, (∀ x, x < 10 ^ r → B'.1 ≤ Sp K f (K 0 2) (lo + x)) → GG K f (K 0 2) lo (10 ^ r) B' = B' := fun B' lo hq => GG_id _ (fun x h1 h2 => by have := hq (x - lo) (by omega); rw [show lo + (x - lo) = x by omega] at this; exact this)
        have ib : ∀ x, x < 10 ^ r → (GG K f (K 0 2) (pre * 10 ^ (r + 1)) ((v + 1) * 10 ^ r) B).1 ≤ Sp K f (K 0 2) ((pre * 10 + v) * 10 ^ r + x) := fun x hx => by
          rw [app]
          exact GG_min _ _ (by omega) (by omega)
        have next : ∀ (h3 : Nat → Nat) (y14 y15 : Option Value) (σ3 : am_Sg), RepX σ3 12 (hK K h3) → (∀ z, z < K 0 2 → h3 z ≤ 9) → (∀ z, z < o → h3 z = h z) → RepB σ3 (K 0 2) (GG K f (K 0 2) (pre * 10 ^ (r + 1)) ((v + 1) * 10 ^ r) B) → (∀ q, ¬ q = 19 → ¬ q = 104 → ¬ q = 105 → σ3 q = σ q) → Wb 113 [some (.ref 104), some (.ref 12), some (.int (nI o)), some (.int (nI (est K f h o).1)), some (.int (nI (est K f h o).2.1)), some (.int mo), some (.int le), some (.int fr), some (.int (nI (K 5 o))), some (.int (nI (watS K o (est K f h o).1))), some (.int (nI (levS K o (est K f h o).1 (est K f h o).2.1))), some (.int (nI (tkE K o (est K f h o).1 (est K f h o).2.1 v))), some (.int (nI v + 1)), some (.int (nI (tkE K o (est K f h o).1 (est K f h o).2.1 v))), y14, y15] [] nf σ3 (tauY 0 lf) := by
          intro h3 y14 y15 σ3 a1 a2 a3 a4 a5
          have h9 := ih (v + 1) h3 (nI (tkE K o (est K f h o).1 (est K f h o).2.1 v)) (some (.int (nI (tkE K o (est K f h o).1 (est K f h o).2.1 v)))) y14 y15 σ3 (by omega) a1 a2 a3 a4 a5 (Or.inr ⟨by omega, rfl, ib⟩)
          rw [nI_succ] at h9
          exact h9
        have same : (∀ x, x < 10 ^ r → ((GG K f (K 0 2) (pre * 10 ^ (r + 1)) (v * 10 ^ r) B)).1 ≤ Sp K f (K 0 2) ((pre * 10 + v) * 10 ^ r + x)) → ∀ y14 y15 : Option Value, Wb 113 [some (.ref 104), some (.ref 12), some (.int (nI o)), some (.int (nI (est K f h o).1)), some (.int (nI (est K f h o).2.1)), some (.int mo), some (.int le), some (.int fr), some (.int (nI (K 5 o))), some (.int (nI (watS K o (est K f h o).1))), some (.int (nI (levS K o (est K f h o).1 (est K f h o).2.1))), some (.int (nI (tkE K o (est K f h o).1 (est K f h o).2.1 v))), some (.int (nI v + 1)), some (.int (nI (tkE K o (est K f h o).1 (est K f h o).2.1 v))), y14, y15] [] nf σ2 (tauY 0 lf) := by
          intro hq y14 y15
          exact next (upf h1 o v) y14 y15 σ2 r2 hh2 (fun z hz => (upf_lt hz).trans (g3 z hz)) (by rw [app, kp _ _ hq]; exact b2) f2
        have tak : s_tk (hK K (upf h1 o v)) o 0 (levS K o (est K f h o).1 (est K f h o).2.1) (watS K o (est K f h o).1) 0 = tkE K o (est K f h o).1 (est K f h o).2.1 v := by rw [s_tk_hK, upf_at]
        have mx := up_mx (t := tkE K o (est K f h o).1 (est K f h o).2.1 v) hm (by omega) (by omega) l0
        have ow : (estS K o (est K f h o) v).2.2.2 = if o = 0 then tkE K o (est K f h o).1 (est K f h o).2.1 v else min (est K f h o).2.2.2 (tkE K o (est K f h o).1 (est K f h o).2.1 v) := rfl
        have ox : (estS K o (est K f h o) v).2.2.1 = max (est K f h o).2.2.1 (tkE K o (est K f h o).1 (est K f h o).2.1 v) := rfl
        have mxl : (estS K o (est K f h o) v).2.2.1 ≤ 9999 := by rw [ox]; exact Nat.max_le.mpr ⟨by omega, by omega⟩
        have mnl : (estS K o (est K f h o) v).2.2.2 ≤ (estS K o (est K f h o) v).2.2.1 := by
          rw [ow, ox]
          split
          · exact Nat.le_max_right _ _
          · exact Nat.le_trans (Nat.min_le_right _ _) (Nat.le_max_right _ _)
        have rest : ∀ (ab be : Int32), ab = nI (estS K o (est K f h o) v).2.2.1 → be = nI (estS K o (est K f h o) v).2.2.2 → am_if (nI (tkE K o (est K f h o).1 (est K f h o).2.1 v) = bf) (Wb 113 [some (.ref 104), some (.ref 12), some (.int (nI o)), some (.int (nI (est K f h o).1)), some (.int (nI (est K f h o).2.1)), some (.int mo), some (.int le), some (.int fr), some (.int (nI (K 5 o))), some (.int (nI (watS K o (est K f h o).1))), some (.int (nI (levS K o (est K f h o).1 (est K f h o).2.1))), some (.int (nI (tkE K o (est K f h o).1 (est K f h o).2.1 v))), some (.int (nI v + 1)), some (.int (nI (tkE K o (est K f h o).1 (est K f h o).2.1 v))), some (.int ab), some (.int be)] [] nf σ2 (tauY 0 lf)) (am_if (σ2 104 0 ≤ ab - be) (Wb 113 [some (.ref 104), some (.ref 12), some (.int (nI o)), some (.int (nI (est K f h o).1)), some (.int (nI (est K f h o).2.1)), some (.int mo), some (.int le), some (.int fr), some (.int (nI (K 5 o))), some (.int (nI (watS K o (est K f h o).1))), some (.int (nI (levS K o (est K f h o).1 (est K f h o).2.1))), some (.int (nI (tkE K o (est K f h o).1 (est K f h o).2.1 v))), some (.int (nI v + 1)), some (.int (nI (tkE K o (est K f h o).1 (est K f h o).2.1 v))), some (.int ab), some (.int be)] [] nf σ2 (tauY 0 lf)) (C_tryF r [.ref 104, .ref 12, .int (nI o + 1), .int (nI (watS K o (est K f h o).1) - nI (tkE K o (est K f h o).1 (est K f h o).2.1 v)), .int (nI (levS K o (est K f h o).1 (est K f h o).2.1)), .int ab, .int be] nf σ2 (tauY 0 lf) nf (fun _ σ3 τ3 => Wb 113 [some (.ref 104), some (.ref 12), some (.int (nI o)), some (.int (nI (est K f h o).1)), some (.int (nI (est K f h o).2.1)), some (.int mo), some (.int le), some (.int fr), some (.int (nI (K 5 o))), some (.int (nI (watS K o (est K f h o).1))), some (.int (nI (levS K o (est K f h o).1 (est K f h o).2.1))), some (.int (nI (tkE K o (est K f h o).1 (est K f h o).2.1 v))), some (.int (nI v + 1)), some (.int (nI (tkE K o (est K f h o).1 (est K f h o).2.1 v))), some (.int ab), some (.int be)] [] nf σ3 τ3))) := by
          intro ab be ea eb
          refine vc_if (fun c => same (fun x hx => ?_) _ _) (fun c => vc_if (fun c2 => same (fun x hx => ?_) _ _) (fun c2 => ?_))
          · rcases g6 with ⟨v0, b0⟩ | ⟨v0, b0, q0⟩
            · exact absurd (c.trans b0) (fun q => by
                have e := congrArg Int32.toInt q
                rw [nI_toInt (by omega)] at e
                have e : ((tkE K o (est K f h o).1 (est K f h o).2.1 v : Nat) : Int) = -1 := e
                omega)
            · have c := nI_inj (by omega) (by have := tkE_le (K := K) (o := o) (c := (est K f h o).1) (l := (est K f h o).2.1) (v := v - 1); omega) (c.trans b0)
              have e1 := estS_t (K := K) (o := o) (s := est K f h o) c
              have pr3 : ∀ z, z < o + 1 → upf h1 o (v - 1) z = (pre * 10 + (v - 1)) / 10 ^ (o + 1 - 1 - z) % 10 := fun z hz => by
                rw [pre_at (by omega) hz]
                unfold upf
                split
                · rfl
                · rw [g3 z (by omega), hpre z (by omega)]
              have es3 : est K f (upf h1 o (v - 1)) (o + 1) = estS K o (est K f h o) (v - 1) := by
                show estS K o (est K f (upf h1 o (v - 1)) o) (upf h1 o (v - 1) o) = _
                rw [est_c o (fun z hz => (upf_lt hz).trans (g3 z hz)), upf_at]
              have := Sp_eq (K := K) (f := f) (o := o + 1) (r := r) pr2 pr3 (by rw [es2, es3, e1]) hx
              rw [or1] at this
              rw [this]
              exact q0 x hx
          · rw [b2.1, ea, eb, pk_sub mnl] at c2
            have c2 := (nI_leI (by omega) (by omega)).mp c2
            exact Nat.le_trans c2 (sge x hx)
          · refine ⟨rfl, hn, lf, o + 1, f, pre * 10 + v, ab, be, upf h1 o v, (GG K f (K 0 2) (pre * 10 ^ (r + 1)) (v * 10 ^ r) B), K, rfl, ?_, ?_, hW, r2, hh2, hO1, hO4, or1, hf, pr2, by omega, b2, fun σ3 h3 a1 a2 a3 a4 a5 => ?_⟩
            · rw [es2, ← nI_succ, pk_sub tw]
              rfl
            · rw [es2]
              exact ⟨fun q => absurd q (by omega), fun _ => ⟨ea, eb⟩⟩
            · rw [← app] at a4
              exact next h3 _ _ σ3 a1 a2 (fun z hz => by rw [a3 z (by omega), upf_lt hz, g3 z hz]) a4 (fun q x1 x2 x3 => by rw [a5 q x1 x2 x3]; exact f2 q x1 x2 x3)
        refine ⟨rfl, hn, 0, lf, 12, (watS K o (est K f h o).1), o, 0, (levS K o (est K f h o).1 (est K f h o).2.1), 0, hK K (upf h1 o v), rfl, rfl, by decide, r2, hW2, by rw [h0']; exact ho, by omega, by omega, llv, by omega, ?_⟩
        rw [tak]
        refine vc_if (fun c0 => ?_) (fun c0 => ?_)
        · have c0 : o = 0 := nI_inj (b := 0) (by omega) (by omega) c0
          exact rest _ _ (by rw [mx, ox]) (by rw [ow, if_pos c0])
        · have c0 : ¬ o = 0 := fun q => c0 (by rw [q]; rfl)
          exact rest _ _ (by rw [mx, ox]) (by rw [up_mn (t := tkE K o (est K f h o).1 (est K f h o).2.1 v) hm c0 (by omega) (by omega), ow, if_neg c0])
    have t53 : ∀ fr : Int32, fr + 1 = nI (frm K o) → (fr = nI (K 5 o) ↔ smM K o) → Wb 53 [some (.ref 104), some (.ref 12), some (.int (nI o)), some (.int (nI (est K f h o).1)), some (.int (nI (est K f h o).2.1)), some (.int mo), some (.int le), some (.int fr), some (.int (nI (K 5 o))), some (.int (nI (est K f h o).1)), none, none, none, none, none, none] [] nf σ (tauY 0 lf) := by
      intro fr h1 h2
      have hfl := frm_le hW ho
      have k59 : ∀ m n, frm K o + n + m = K 5 o + 1 → Wb 59 [some (.ref 104), some (.ref 12), some (.int (nI o)), some (.int (nI (est K f h o).1)), some (.int (nI (est K f h o).2.1)), some (.int mo), some (.int le), some (.int fr), some (.int (nI (K 5 o))), some (.int (nI (sq K (frm K o) (est K f h o).1 n))), some (.int (nI (frm K o + n))), none, none, none, none, none] [] nf σ (tauY 0 lf) := by
        intro m
        induction m with
        | zero =>
          intro n hn9
          have ew : sq K (frm K o) (est K f h o).1 n = (watS K o (est K f h o).1) := by
            unfold watS
            by_cases c : smM K o
            · have : frm K o = K 5 o + 1 := by unfold frm; rw [if_neg (by have := c.1; omega), c.2]
              rw [if_pos c, show n = 0 by omega]
              rfl
            · rw [if_neg c, show K 5 o + 1 - frm K o = n by omega]
          rw [ew]
          have k9 := fun (lv : Int32) (e : lv = nI (levS K o (est K f h o).1 (est K f h o).2.1)) => k113 fr 10 0 h (-1) none none none σ (by omega) hR hh (fun _ _ => rfl) (by rw [Nat.zero_mul]; exact hRB) (fun _ _ _ _ => rfl) (Or.inl ⟨rfl, rfl⟩)
          refine hs (fun p => Nat.beq p 59 || Nat.beq p 113) 80 59 _ _ _ _ _ (vc_t (nI_lt (by omega) (by omega)) (vc_if (fun c => ?_) (fun c => ?_)))
          · have c := h2.mp c
            have el : (est K f h o).2.1 = (levS K o (est K f h o).1 (est K f h o).2.1) := by unfold levS; rw [if_pos c]
            have h9 := k113 fr 10 0 h (-1) none none none σ (by omega) hR hh (fun _ _ => rfl) (by rw [Nat.zero_mul]; exact hRB) (fun _ _ _ _ => rfl) (Or.inl ⟨rfl, rfl⟩)
            rw [← el] at h9
            exact h9
          · have c : ¬ smM K o := fun q => c (h2.mpr q)
            have el : s_lv (hK K h) (K 5 o) (watS K o (est K f h o).1) = (levS K o (est K f h o).1 (est K f h o).2.1) := by
              unfold levS s_lv
              rw [if_neg c, hK_ne (by omega), hK_ne (by omega)]
            refine ⟨rfl, hn, 0, lf, 12, K 5 o, (watS K o (est K f h o).1), hK K h, rfl, rfl, by decide, hR, wf_hK hW hh, by rw [h0']; exact q5.1, by omega, ?_⟩
            rw [el]
            exact k113 fr 10 0 h (-1) none none none σ (by omega) hR hh (fun _ _ => rfl) (by rw [Nat.zero_mul]; exact hRB) (fun _ _ _ _ => rfl) (Or.inl ⟨rfl, rfl⟩)
        | succ m ih =>
          intro n hn9
          have h9 := ih (n + 1) (by omega)
          have sl := sq_le (K := K) (j := frm K o) (w := (est K f h o).1) n
          have k1 := (hW.2.2.2.2.2.2.1 (frm K o + n) (by have := q5.1; omega)).1
          refine hs (fun p => Nat.beq p 59) 80 59 _ _ _ _ _ (vc_f (nI_nlt (by omega) (by omega)) ⟨rfl, hn, 0, lf, 12, frm K o + n, sq K (frm K o) (est K f h o).1 n, hK K h, rfl, rfl, by decide, hR, wf_hK hW hh, by rw [h0']; have := q5.1; omega, by omega, ?_⟩)
          have e1 : s_sp (hK K h) (frm K o + n) (sq K (frm K o) (est K f h o).1 n) = s_sp K (frm K o + n) (sq K (frm K o) (est K f h o).1 n) := by unfold s_sp; rw [hK_ne (by omega)]
          have e2 : nI (sq K (frm K o) (est K f h o).1 n) - nI (s_sp K (frm K o + n) (sq K (frm K o) (est K f h o).1 n)) = nI (sq K (frm K o) (est K f h o).1 (n + 1)) := pk_sub (s_sp_le k1)
          rw [e1]
          rw [← e2, ← Nat.add_assoc, nI_succ] at h9
          exact h9
      have h9 := k59 (K 5 o + 1 - frm K o) 0 (by omega)
      rw [Nat.add_zero, ← h1] at h9
      exact hs (fun p => Nat.beq p 59) 80 53 _ _ _ _ _ h9
    have e5 : σ 17 o = nI (K 5 o) := by
      have : σ 17 o = nI (hK K h 5 o) := hR.2.2 0 (by omega) o (by rw [h0']; exact ho)
      rw [hK_ne (by omega)] at this
      exact this
    refine hs (fun p => Nat.beq p 53) 80 0 _ _ _ _ _ (vc_f (by rw [eO]; exact nI_ge (by omega) (by omega)) (vc_t (nI_lt (b := 4) (by omega) (by omega)) (vc_if (fun c => And.intro (vin (show o < 8 by omega)) ?_) (fun c => And.intro ?_ (And.intro (vin (show o < 8 by omega)) ?_)))))
    · have c : o = 0 := nI_inj (b := 0) (by omega) (by omega) c
      have h9 := t53 (-1) (by unfold frm; rw [if_pos c]; rfl) ⟨fun q => by
        have e := congrArg Int32.toInt q
        rw [nI_toInt (by have := q5.1; omega)] at e
        have e : (-1 : Int) = ((K 5 o : Nat) : Int) := e
        omega, fun q => absurd q.1 (by omega)⟩
      rw [← e5, show σ 17 o = σ 17 (nI o).toNatClampNeg by rw [hco]] at h9
      exact h9
    · have c : ¬ o = 0 := fun q => c (by rw [q]; rfl)
      rw [show nI o - 1 = nI (o - 1) from pk_sub (b := 1) (by omega)]
      exact vin (show o - 1 < 8 by omega)
    · have c : ¬ o = 0 := fun q => c (by rw [q]; rfl)
      have e6 : σ 17 (o - 1) = nI (K 5 (o - 1)) := by
        have : σ 17 (o - 1) = nI (hK K h 5 (o - 1)) := hR.2.2 0 (by omega) (o - 1) (by rw [h0']; omega)
        rw [hK_ne (by omega)] at this
        exact this
      have q6 := (hW.2.2.2.2.2.2.2.2.2 (o - 1) (by omega)).1
      have h9 := t53 (nI (K 5 (o - 1))) (by unfold frm; rw [if_neg c, nI_succ]) ⟨fun q => ⟨by omega, nI_inj (by omega) (by have := q5.1; omega) q⟩, fun q => by rw [q.2]⟩
      rw [← e5, ← e6, show σ 17 o = σ 17 (nI o).toNatClampNeg by rw [hco], show σ 17 (o - 1) = σ 17 (nI o - 1).toNatClampNeg by rw [show nI o - 1 = nI (o - 1) from pk_sub (b := 1) (by omega), nI_clamp (by omega)]] at h9
      exact h9)
