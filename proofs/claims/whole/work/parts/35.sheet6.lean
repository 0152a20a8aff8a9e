def C_mcopy : am_C := fun av n σ τ nf P => ∃ (k : Int32) (i : Int32) (o : Int32) (j : Int32) (m : Int32), pubM [.int k, .int i, .int o, .int j, .int m] (f_copy k i o j m) av n σ τ nf P
set_option maxRecDepth 100000 in
theorem M_mcopy (d : Nat) : am_Met (d + 3) 866 C_mcopy := am_meth (own0 := "CanalEndModel") 866 (d + 2) 155 T_X8_copy (fun y => bif Nat.beq y 806 then C_mSheet else (bif Nat.beq y 801 then C_fails else (am_no))) C_mcopy rfl F_X8_copy rfl (by decide +kernel) Tc_X8_copy (fun y => am_g (M_mSheet (d + 0)) (am_g (M_fails (d + 1)) (am_no_met))) (by
  intro av n σ τ nf P hnf hC
  obtain ⟨k, i, o, j, m, rfl, hn, lf, ⟨K, Q, S, Ce, fl, tr⟩, rfl, hI, rfl, hP⟩ := hC
  refine ⟨hn, rfl, Nat.le_of_ble_eq_true rfl, fun Wb hs => ?_⟩
  have hI : InvM σ K Q S Ce fl tr := hI
  have hK := hI.1
  have hR := hI.2.1
  have hM10 := hK.2.1
  have hO8 := hK.2.2.1
  have eM := hR.2.1
  have eO := hR.2.2.1
  have fin : ∀ r9 : Int32, (f_copy k i o j m (K, Q, S, Ce, fl, tr)).2 = (K, Q, S, Ce, fl, tr) → (f_copy k i o j m (K, Q, S, Ce, fl, tr)).1 = .int r9 → P (some (.int r9)) σ (tauY 0 lf) := fun r9 e1 e2 => p_eqv e2 (hP σ (by rw [e1]; exact hI) (fun _ _ => rfl))
  have fin2 : ∀ (v9 : Value) (K9 Q9 S9 : KT) (Ce9 : Nat → Nat → Int32) (fl9 : Nat) (tr9 : Int32) (σ9 : am_Sg), f_copy k i o j m (K, Q, S, Ce, fl, tr) = (v9, (K9, Q9, S9, Ce9, fl9, tr9)) → InvM σ9 K9 Q9 S9 Ce9 fl9 tr9 → FrM σ σ9 → P (some v9) σ9 (tauY 0 lf) := fun v9 K9 Q9 S9 Ce9 fl9 tr9 σ9 e h1 h2 => by have := hP σ9 (by rw [e]; exact h1) h2; rw [e] at this; exact this
  refine hs (fun p => Nat.beq p 109 || Nat.beq p 144 || Nat.beq p 166) 90 0 _ _ _ _ _ (fun σ1 e1 => ?_)
  have e1 : σ1 = am_up σ 116 0 (nI 0) := e1
  have hI1 : InvM σ1 K Q S Ce 0 tr := by rw [e1]; exact hI.fl
  have hfr : FrM σ σ1 := fun q g1 => by rw [e1]; exact am_up_ne (by omega)
  refine ⟨rfl, k, rfl, fun g => ?_, fun g => vc_t rfl (And.intro rfl (fin2 _ K Q S Ce 0 tr σ1 (by unfold f_copy; rw [if_neg (fun q => g q.1)]; rfl) hI1 hfr))⟩
  refine vc_f (by decide) ⟨rfl, o, rfl, fun g2 => ?_, fun g2 => vc_t rfl (And.intro rfl (fin2 _ K Q S Ce 0 tr σ1 (by unfold f_copy; rw [if_neg (fun q => g2 q.2)]; rfl) hI1 hfr))⟩
  obtain ⟨a, ha, rfl⟩ := inN_ex g
  have hca : (nI a).toNatClampNeg = a := nI_clamp (by omega)
  obtain ⟨b, hb, rfl⟩ := inN_ex g2
  have hcb : (nI b).toNatClampNeg = b := nI_clamp (by omega)
  have hwa := hI1.2.2.2.2.1 a ha
  have hra := hI1.2.2.2.2.2.1 a ha
  have hwb := hI1.2.2.2.2.1 b hb
  have hrb := hI1.2.2.2.2.2.1 b hb
  have off4 : ∀ (c : ¬ (S a 0 = 0 ∨ S b 0 = 0)) (d : S a 1 = S b 1) (e : ¬ (clsOk i m (S a 2) ∧ clsOk j m (S b 2))) (x : Int32), Wb 144 [some (.ref 116), some (.int (nI a)), some (.int i), some (.int (nI b)), some (.int j), some (.int m), some (.int x), none, none, none] [] nf σ1 (tauY 0 lf) := fun c d e x => hs (fun _ => false) 30 144 _ _ _ _ _ ⟨rfl, hn, lf, 3, rfl, rfl, And.intro rfl (fin2 _ K Q S Ce 3 tr _ (by unfold f_copy; rw [if_pos ⟨g, g2⟩, hca, hcb, if_neg c, if_pos d, if_neg e]; rfl) (hI1.fl (v := 3)) (fun q g1 => by rw [am_up_ne (by omega)]; exact hfr q g1))⟩
  have off : ∀ (c : ¬ (S a 0 = 0 ∨ S b 0 = 0)) (d : S a 1 = S b 1) (e : ¬ (clsOk i m (S a 2) ∧ clsOk j m (S b 2))), Wb 109 [some (.ref 116), some (.int (nI a)), some (.int i), some (.int (nI b)), some (.int j), some (.int m), none, none, none, none] [] nf σ1 (tauY 0 lf) := fun c d e => hs (fun p => Nat.beq p 144) 30 109 _ _ _ _ _ (vc_t rfl (off4 c d e 0))
  have key : ∀ (c : ¬ (S a 0 = 0 ∨ S b 0 = 0)) (d : S a 1 = S b 1) (e : clsOk i m (S a 2) ∧ clsOk j m (S b 2)) (x y w : Nat), i = nI x → j = nI y → m = nI w → x + w ≤ 100 → y + w ≤ 100 → ∀ r q lo hi ah (x9 : Option Value) (σ3 : am_Sg), q + r = w → ((ah = 0 ∧ y ≤ x ∧ lo = 0 ∧ hi = q) ∨ (ah = 1 ∧ x < y ∧ lo = w - q ∧ hi = w)) → (∀ z, σ3 119 z = if 100 * b + y + lo ≤ z ∧ z < 100 * b + y + hi then σ1 119 (100 * a + x + (z - (100 * b + y))) else σ1 119 z) → (∀ z, ¬ z = 119 → σ3 z = σ1 z) → Wb 166 [some (.ref 116), some (.int (nI a)), some (.int (nI x)), some (.int (nI b)), some (.int (nI y)), some (.int (nI w)), some (.int 1), some (.int (nI ah)), some (.int (nI q)), x9] [] nf σ3 (tauY 0 lf) := by
    intro c d e x y w ei ej em hxw hyw r
    induction r with
    | zero =>
      intro q lo hi ah x9 σ3 hq hah hz hf
      have hq : q = w := by omega
      subst hq
      have cx : i.toNatClampNeg = x := by rw [ei]; exact nI_clamp (by omega)
      have cy : j.toNatClampNeg = y := by rw [ej]; exact nI_clamp (by omega)
      have cw : m.toNatClampNeg = q := by rw [em]; exact nI_clamp (by omega)
      have hlh : lo = 0 ∧ hi = q := by omega
      obtain ⟨rfl, rfl⟩ := hlh
      refine hs (fun p => Nat.beq p 166) 60 166 _ _ _ _ _ (vc_t (nI_le (Nat.le_refl _) (by omega)) (And.intro rfl ?_))
      have h9 := hI1.sh (σ' := σ3) (k := b) (s := S b) (c := va_cpy (Ce a) (Ce b) x y hi) hwb ⟨by rw [hf 117 (by omega)]; exact hrb.1, by rw [hf 118 (by omega)]; exact hrb.2.1, fun u hu => ?_⟩ (fun z g1 g2 g3 => hf z g3) (fun z hz => ⟨by rw [hf 117 (by omega)], by rw [hf 118 (by omega)]⟩) (fun z h => by rw [hz z, if_neg (by omega)])
      · rw [rowS_self] at h9
        exact fin2 _ _ _ _ _ _ _ σ3 (by unfold f_copy; rw [if_pos ⟨g, g2⟩, hca, hcb, if_neg c, if_pos d, if_pos e, cx, cy, cw, em]) h9 (fun z g1 => by rw [hf z (by omega)]; exact hfr z g1)
      · rw [hz]
        unfold va_cpy
        by_cases h : y ≤ u ∧ u < y + hi
        · rw [if_pos (by omega), if_pos h, show 100 * a + x + (100 * b + u - (100 * b + y)) = 100 * a + (x + (u - y)) by omega]
          exact hra.2.2 _ (by omega)
        · rw [if_neg (by omega), if_neg h]
          exact hrb.2.2 u hu
    | succ r ih =>
      intro q lo hi ah x9 σ3 hq hah hz hf
      have hlt : ¬ nI w ≤ nI q := nI_ge (by omega) (by omega)
      have e1 : ∀ v, (100 : Int32) * nI a + nI x + nI v = nI (100 * a + x + v) := fun v => by rw [i100, nI_add]
      have e2 : ∀ v, (100 : Int32) * nI b + nI y + nI v = nI (100 * b + y + v) := fun v => by rw [i100, nI_add]
      have e3 : nI w - 1 - nI q = nI (w - 1 - q) := by
        rw [show (1 : Int32) = nI 1 from rfl, nI_subN (by omega), nI_subN (by omega)]
      have go : ∀ v lo' hi', v < w → ((ah = 0 ∧ y ≤ x ∧ lo' = 0 ∧ hi' = q + 1 ∧ v = q) ∨ (ah = 1 ∧ x < y ∧ lo' = w - (q + 1) ∧ hi' = w ∧ v = w - 1 - q)) → ∀ (σ4 : am_Sg) (x9 : Option Value), σ4 = am_up σ3 119 (100 * b + y + v) (σ3 119 (100 * a + x + v)) → Wb 166 [some (.ref 116), some (.int (nI a)), some (.int (nI x)), some (.int (nI b)), some (.int (nI y)), some (.int (nI w)), some (.int 1), some (.int (nI ah)), some (.int (nI q + 1)), x9] [] nf σ4 (tauY 0 lf) := by
        intro v lo' hi' hv hh σ4 x9 e4
        rw [← nI_succ]
        refine ih (q + 1) lo' hi' ah x9 σ4 (by omega) (by omega) (fun z => ?_) (fun z g => by rw [e4, am_up_ne g]; exact hf z g)
        rw [hz (100 * a + x + v), if_neg (by omega)] at e4
        by_cases h : z = 100 * b + y + v
        · rw [if_pos (by omega), h, e4, up_at]
          congr 1
          omega
        · rw [e4, up_ne h, hz z]
          by_cases h2 : 100 * b + y + lo ≤ z ∧ z < 100 * b + y + hi
          · rw [if_pos h2, if_pos (by omega)]
          · rw [if_neg h2, if_neg (by omega)]
      refine hs (fun p => Nat.beq p 166) 60 166 _ _ _ _ _ (vc_f hlt (vc_if (fun f => And.intro (by rw [e1]; exact vin (show 100 * a + x + q < 400 by omega)) (And.intro (by rw [e2]; exact vin (show 100 * b + y + q < 400 by omega)) (fun σ4 e4 => ?_))) (fun f => And.intro (by rw [e3, e1]; exact vin (show 100 * a + x + (w - 1 - q) < 400 by omega)) (And.intro (by rw [e3, e2]; exact vin (show 100 * b + y + (w - 1 - q) < 400 by omega)) (fun σ4 e4 => ?_)))))
      · have f : ah = 0 := nI_inj (b := 0) (by omega) (by omega) f
        rw [e1, e2, nI_clamp (by omega), nI_clamp (by omega)] at e4
        have e4 : σ4 = am_up σ3 119 (100 * b + y + q) (σ3 119 (100 * a + x + q)) := e4
        exact go q 0 (q + 1) (by omega) (by omega) σ4 _ e4
      · have f : ¬ ah = 0 := fun q => f (by rw [q]; rfl)
        rw [e3, e1, e2, nI_clamp (by omega), nI_clamp (by omega)] at e4
        have e4 : σ4 = am_up σ3 119 (100 * b + y + (w - 1 - q)) (σ3 119 (100 * a + x + (w - 1 - q))) := e4
        exact go (w - 1 - q) (w - (q + 1)) w (by omega) (by omega) σ4 _ e4
  have ha7 := hra.1
  have hb7 := hrb.1
  have va := vin (q := 117) (show a < 4 by omega)
  have vb := vin (q := 117) (show b < 4 by omega)
  have va8 := vin (q := 118) (show a < 4 by omega)
  have vb8 := vin (q := 118) (show b < 4 by omega)
  refine vc_f (by decide) (And.intro va (vc_if (fun c => ?_) (fun c1 => And.intro vb (vc_if (fun c => ?_) (fun c2 => And.intro va (And.intro vb (vc_if (fun d => ?_) (fun d => ?_))))))))
  · rw [hca, ha7] at c
    have c : S a 0 = 0 ∨ S b 0 = 0 := Or.inl (s9 hwa.2.1 c)
    exact ⟨rfl, hn, lf, 1, rfl, rfl, And.intro rfl (fin2 _ K Q S Ce 1 tr _ (by unfold f_copy; rw [if_pos ⟨g, g2⟩, hca, hcb, if_pos c]; rfl) (hI1.fl (v := 1)) (fun q g1 => by rw [am_up_ne (by omega)]; exact hfr q g1))⟩
  · rw [hcb, hb7] at c
    have c : S a 0 = 0 ∨ S b 0 = 0 := Or.inr (s9 hwb.2.1 c)
    exact ⟨rfl, hn, lf, 1, rfl, rfl, And.intro rfl (fin2 _ K Q S Ce 1 tr _ (by unfold f_copy; rw [if_pos ⟨g, g2⟩, hca, hcb, if_pos c]; rfl) (hI1.fl (v := 1)) (fun q g1 => by rw [am_up_ne (by omega)]; exact hfr q g1))⟩
  · rw [hca, ha7] at c1
    rw [hcb, hb7] at c2
    have c : ¬ (S a 0 = 0 ∨ S b 0 = 0) := fun q => Or.elim q (fun q => c1 (if_pos q)) (fun q => c2 (if_pos q))
    rw [hca, hcb, ha7, hb7] at d
    have d := (s19 (fun q => c (Or.inl q)) (fun q => c (Or.inr q)) hwa.2.1 hwb.2.1).mp d
    refine vc_if (fun f1 => off c d ?_) (fun f1 => vc_if (fun f2 => off c d ?_) (fun f2 => vc_if (fun f3 => off c d ?_) (fun f3 => And.intro va8 (vc_if (fun f4 => off c d ?_) (fun f4 => And.intro vb8 (vc_if (fun f5 => off c d ?_) (fun f5 => vc_f (by decide) (And.intro va8 (vc_if (fun f6 => off4 c d ?_ 1) (fun f6 => And.intro vb8 (vc_if (fun f7 => ?_) (fun f7 => off4 c d ?_ 1))))))))))))
    · have := i_neg.mp f1
      intro q; omega
    · have := i_neg.mp f2
      intro q; omega
    · have := i_neg.mp f3
      intro q; omega
    · rw [hca, hra.2.1, i_lt, nI_toInt (by omega)] at f4
      rw [i_neg] at f1 f2 f3
      intro q; omega
    · rw [hcb, hrb.2.1, i_lt, nI_toInt (by omega)] at f5
      rw [i_neg] at f1 f2 f3
      intro q; omega
    · rw [hca, hra.2.1, i_lt, nI_toInt (by omega)] at f4
      rw [i_neg] at f1 f2 f3
      rw [hca, hra.2.1, i_lt, nI_subT hwa.2.2 (by omega)] at f6
      intro q; omega
    · rw [hca, hra.2.1, i_lt, nI_toInt (by omega)] at f4
      rw [hcb, hrb.2.1, i_lt, nI_toInt (by omega)] at f5
      rw [i_neg] at f1 f2 f3
      rw [hca, hra.2.1, i_lt, nI_subT hwa.2.2 (by omega)] at f6
      rw [hcb, hrb.2.1, i_le, nI_subT hwb.2.2 (by omega)] at f7
      have hwa2 := hwa.2.2
      have hwb2 := hwb.2.2
      have e : clsOk i m (S a 2) ∧ clsOk j m (S b 2) := ⟨⟨by omega, by omega, by omega⟩, by omega, by omega, by omega⟩
      obtain ⟨x, hx, ei⟩ := inN_ex (v := i) (N := 101) ⟨by omega, by omega⟩
      obtain ⟨y, hy, ej⟩ := inN_ex (v := j) (N := 101) ⟨by omega, by omega⟩
      obtain ⟨w, hw, em⟩ := inN_ex (v := m) (N := 101) ⟨by omega, by omega⟩
      have tx : i.toInt = (x : Int) := by rw [ei]; exact nI_toInt (by omega)
      have ty : j.toInt = (y : Int) := by rw [ej]; exact nI_toInt (by omega)
      have tw : m.toInt = (w : Int) := by rw [em]; exact nI_toInt (by omega)
      have key := key c d e x y w ei ej em (by omega) (by omega) w 0
      refine vc_if (fun h => ?_) (fun h => ?_)
      · rw [i_le] at h
        have k9 := key 0 0 0 none σ1 (by omega) (by omega) (fun z => by rw [if_neg (by omega)]) (fun _ _ => rfl)
        rw [← ei, ← ej, ← em] at k9
        exact k9
      · rw [i_le] at h
        have k9 := key w w 1 none σ1 (by omega) (by omega) (fun z => by rw [if_neg (by omega)]) (fun _ _ => rfl)
        rw [← ei, ← ej, ← em] at k9
        exact k9
    · rw [hcb, hrb.2.1, i_lt, nI_toInt (by omega)] at f5
      rw [i_neg] at f1 f2 f3
      rw [hcb, hrb.2.1, i_le, nI_subT hwb.2.2 (by omega)] at f7
      intro q; omega
  · rw [hca, ha7] at c1
    rw [hcb, hb7] at c2
    have c : ¬ (S a 0 = 0 ∨ S b 0 = 0) := fun q => Or.elim q (fun q => c1 (if_pos q)) (fun q => c2 (if_pos q))
    rw [hca, hcb, ha7, hb7] at d
    have d : ¬ S a 1 = S b 1 := fun q => d ((s19 (fun q => c (Or.inl q)) (fun q => c (Or.inr q)) hwa.2.1 hwb.2.1).mpr q)
    exact ⟨rfl, hn, lf, 2, rfl, rfl, And.intro rfl (fin2 _ K Q S Ce 2 tr _ (by unfold f_copy; rw [if_pos ⟨g, g2⟩, hca, hcb, if_neg c, if_neg d]; rfl) (hI1.fl (v := 2)) (fun q g1 => by rw [am_up_ne (by omega)]; exact hfr q g1))⟩)
