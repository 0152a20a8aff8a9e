def agn (S : KT) (a u : Nat) (i m : Int32) : Nat := if S a 0 = 0 then 1 else if ¬ S a 1 = u then 2 else if m.toInt < 0 then 4 else if clsOk i m (S a 2) then 0 else 3
def rfz (c : Nat) : Int32 := if c = 0 then 0 else -10 - nI c
def f_ref (k t i m : Int32) (s : ST) : Value × ST := if inN k 4 then (if inN t 3 then (.int (rfz (agn s.2.2.1 k.toNatClampNeg t.toNatClampNeg i m)), setF s (agn s.2.2.1 k.toNatClampNeg t.toNatClampNeg i m)) else (.int (-2), setF s 0)) else (.int (-1), setF s 0)
theorem agn_1 {S : KT} {a u : Nat} {i m : Int32} (h : S a 0 = 0) : agn S a u i m = 1 := if_pos h
theorem agn_2 {S : KT} {a u : Nat} {i m : Int32} (h : ¬ S a 0 = 0) (h1 : ¬ S a 1 = u) : agn S a u i m = 2 := by unfold agn; rw [if_neg h, if_pos h1]
theorem agn_4 {S : KT} {a u : Nat} {i m : Int32} (h : ¬ S a 0 = 0) (h1 : S a 1 = u) (h2 : m.toInt < 0) : agn S a u i m = 4 := by unfold agn; rw [if_neg h, if_neg (fun q => q h1), if_pos h2]
theorem agn_0 {S : KT} {a u : Nat} {i m : Int32} (h : ¬ S a 0 = 0) (h1 : S a 1 = u) (h3 : clsOk i m (S a 2)) : agn S a u i m = 0 := by unfold agn; rw [if_neg h, if_neg (fun q => q h1), if_neg (by omega), if_pos h3]
theorem agn_3 {S : KT} {a u : Nat} {i m : Int32} (h : ¬ S a 0 = 0) (h1 : S a 1 = u) (h2 : ¬ m.toInt < 0) (h3 : ¬ clsOk i m (S a 2)) : agn S a u i m = 3 := by unfold agn; rw [if_neg h, if_neg (fun q => q h1), if_neg h2, if_neg h3]
def C_against : am_C := fun av n σ τ nf P => nf = n ∧ 155 ≤ n ∧ ∃ (lf a u l : Nat) (i m : Int32) (S : KT), τ = tauY 0 lf ∧ av = [.ref 116, .int (nI a), .int (nI u), .int i, .int m] ∧ a < 4 ∧ u < 3 ∧ S a 1 ≤ 2 ∧ S a 2 ≤ 100 ∧ σ 117 a = (if S a 0 = 0 then -9 else nI (S a 1)) ∧ σ 118 a = nI (S a 2) ∧ P (some (.int (nI (agn S a u i m)))) σ τ
set_option maxRecDepth 100000 in
theorem M_against (d : Nat) : am_Met (d + 1) 808 C_against := am_meth (own0 := "CanalEndModel") 808 (d + 0) 155 T_X8_against (fun y => am_no) C_against rfl F_X8_against rfl (by decide +kernel) Tc_X8_against (fun y => am_no_met) (by
  intro av n σ τ nf P hnf hC
  obtain ⟨rfl, hn, lf, a, u, _l, i, m, S, rfl, rfl, ha, hu, hb1, hb2, h7, h8, hP⟩ := hC
  refine ⟨hn, rfl, Nat.le_of_ble_eq_true rfl, fun Wb hs => ?_⟩
  have hc : (nI a).toNatClampNeg = a := nI_clamp (by omega)
  have va := vin (q := 117) (show a < 4 by omega)
  have va8 := vin (q := 118) (show a < 4 by omega)
  have fin : ∀ v, agn S a u i m = v → P (some (.int (nI v))) σ (tauY 0 lf) := fun v e => by rw [← e]; exact hP
  refine hs (fun _ => false) 60 0 _ _ _ _ _ (And.intro va (vc_if (fun c => And.intro va (vc_t c (And.intro rfl (fin 1 ?_)))) (fun c => And.intro va (vc_if (fun d => And.intro va (vc_f c (vc_if (fun f1 => vc_if (fun f2 => And.intro rfl (fin 3 ?_)) (fun f2 => And.intro va8 (vc_if (fun f3 => And.intro rfl (fin 3 ?_)) (fun f3 => And.intro va8 (vc_if (fun f4 => And.intro rfl (fin 0 ?_)) (fun f4 => And.intro rfl (fin 3 ?_))))))) (fun f1 => And.intro rfl (fin 4 ?_))))) (fun d => And.intro rfl (fin 2 ?_))))))
  · rw [hc, h7] at c
    exact agn_1 (s9 hb1 c)
  all_goals
    rw [hc, h7] at c d
    have c : ¬ S a 0 = 0 := fun q => c (if_pos q)
    rw [if_neg c] at d
  · have d := nI_inj (by omega) (by omega) d
    have f1 : 0 ≤ m.toInt := (by rw [i_le] at f1; exact f1)
    have f2 := i_neg.mp f2
    exact agn_3 c d (by omega) (fun q => by omega)
  · have d := nI_inj (by omega) (by omega) d
    have f1 : 0 ≤ m.toInt := (by rw [i_le] at f1; exact f1)
    rw [i_neg] at f2
    rw [hc, h8, i_lt, nI_toInt (by omega)] at f3
    exact agn_3 c d (by omega) (fun q => by omega)
  · have d := nI_inj (by omega) (by omega) d
    have f1 : 0 ≤ m.toInt := (by rw [i_le] at f1; exact f1)
    rw [i_neg] at f2
    rw [hc, h8, i_lt, nI_toInt (by omega)] at f3
    rw [hc, h8, i_le, nI_subT hb2 (by omega)] at f4
    exact agn_0 c d ⟨by omega, by omega, by omega⟩
  · have d := nI_inj (by omega) (by omega) d
    have f1 : 0 ≤ m.toInt := (by rw [i_le] at f1; exact f1)
    rw [i_neg] at f2
    rw [hc, h8, i_lt, nI_toInt (by omega)] at f3
    rw [hc, h8, i_le, nI_subT hb2 (by omega)] at f4
    exact agn_3 c d (by omega) (fun q => by omega)
  · have d := nI_inj (by omega) (by omega) d
    have f1 : ¬ 0 ≤ m.toInt := fun q => f1 (by rw [i_le]; exact q)
    exact agn_4 c d (by omega)
  · have d : ¬ S a 1 = u := fun q => d (by rw [q])
    exact agn_2 c d)
def C_refRow : am_C := fun av n σ τ nf P => ∃ (k : Int32) (t : Int32) (i : Int32) (m : Int32), pubX [.int k, .int t, .int i, .int m] (f_ref k t i m) av n σ τ nf P
set_option maxRecDepth 100000 in
theorem M_refRow (d : Nat) : am_Met (d + 3) 750 C_refRow := am_meth (own0 := "CanalEnd") 750 (d + 2) 155 T_X7_refusalOfRow (fun y => bif Nat.beq y 742 then C_isSheet else (bif Nat.beq y 743 then C_isSort else (bif Nat.beq y 751 then C_faulty else (bif Nat.beq y 402 then C_faultAs else (bif Nat.beq y 404 then C_areCells else (am_no)))))) C_refRow rfl F_X7_refusalOfRow rfl (by decide +kernel) Tc_X7_refusalOfRow (fun y => am_g (M_isSheet (d + 0)) (am_g (M_isSort (d + 0)) (am_g (M_faulty (d + 1)) (am_g (M_faultAs (d + 1)) (am_g (M_areCells (d + 0)) (am_no_met)))))) (by
  intro av n σ τ nf P hnf hC
  obtain ⟨k, t, i, m, rfl, lf, ⟨K, Q, S, Ce, fl, tr⟩, rfl, hI, rfl, hP⟩ := hC
  have hn := Nlf_le hI.2.2.2.2.2.2.2.2.2
  refine ⟨hn, rfl, Nat.le_of_ble_eq_true rfl, fun Wb hs => ?_⟩
  have hI : InvX σ nf lf K Q S Ce fl tr := hI
  have hK := hI.1
  have hR := hI.2.1
  have hM10 := hK.2.1
  have hO8 := hK.2.2.1
  have eM : σ 1 1 = nI (K 0 1) := hR.1 1 (by omega)
  have eO : σ 1 2 = nI (K 0 2) := hR.1 2 (by omega)
  have fin : ∀ r9 : Int32, (f_ref k t i m (K, Q, S, Ce, fl, tr)).2 = (K, Q, S, Ce, fl, tr) → (f_ref k t i m (K, Q, S, Ce, fl, tr)).1 = .int r9 → P (some (.int r9)) σ (tauY 0 lf) := fun r9 e1 e2 => p_eqv e2 (hP σ (by rw [e1]; exact hI) (fun _ _ => fun _ => rfl))
  have fin2 : ∀ (v9 : Value) (K9 Q9 S9 : KT) (Ce9 : Nat → Nat → Int32) (fl9 : Nat) (tr9 : Int32) (σ9 : am_Sg), f_ref k t i m (K, Q, S, Ce, fl, tr) = (v9, (K9, Q9, S9, Ce9, fl9, tr9)) → InvX σ9 nf lf K9 Q9 S9 Ce9 fl9 tr9 → FrX σ σ9 → P (some v9) σ9 (tauY 0 lf) := fun v9 K9 Q9 S9 Ce9 fl9 tr9 σ9 e h1 h2 => by have := hP σ9 (by rw [e]; exact h1) h2; rw [e] at this; exact this
  refine hs (fun _ => false) 90 0 _ _ _ _ _ (fun σ1 e1 => ?_)
  have e1 : σ1 = am_up σ 0 10 (nI 0) := e1
  have hI1 : InvX σ1 nf lf K Q S Ce 0 tr := by rw [e1]; exact hI.fl
  have hfr : FrX σ σ1 := fun q g1 g2 => by rw [e1]; exact am_up_ne (by omega)
  refine ⟨rfl, k, rfl, fun g => ?_, fun g => vc_t rfl (And.intro rfl (fin2 _ K Q S Ce 0 tr σ1 (by unfold f_ref; rw [if_neg g]; rfl) hI1 hfr))⟩
  refine vc_f (by decide) ⟨rfl, t, rfl, fun g2 => ?_, fun g2 => vc_t rfl (And.intro rfl (fin2 _ K Q S Ce 0 tr σ1 (by unfold f_ref; rw [if_pos g, if_neg g2]; rfl) hI1 hfr))⟩
  obtain ⟨a, ha, rfl⟩ := inN_ex g
  have hc : (nI a).toNatClampNeg = a := nI_clamp (by omega)
  obtain ⟨u, hu, rfl⟩ := inN_ex g2
  have hcu : (nI u).toNatClampNeg = u := nI_clamp (by omega)
  have hw := hI1.2.2.2.2.2.1 a ha
  have hr := hI1.2.2.2.2.2.2.1 a ha
  have no : ∀ (c : S a 0 = 0), P (some (.int (-11))) (am_up σ1 0 10 (nI 1)) (tauY 0 lf) := fun c => fin2 _ K Q S Ce 1 tr _ (by unfold f_ref; rw [if_pos g, if_pos g2, hc, hcu, agn_1 c]; rfl) (hI1.fl (v := 1)) (fun q g1 g2 => by rw [am_up_ne (by omega)]; exact hfr q g1 g2)
  have ca : ∀ (c : ¬ S a 0 = 0) (d : ¬ S a 1 = u), P (some (.int (-12))) (am_up σ1 0 10 (nI 2)) (tauY 0 lf) := fun c d => fin2 _ K Q S Ce 2 tr _ (by unfold f_ref; rw [if_pos g, if_pos g2, hc, hcu, agn_2 c d]; rfl) (hI1.fl (v := 2)) (fun q g1 g2 => by rw [am_up_ne (by omega)]; exact hfr q g1 g2)
  have sz : ∀ (c : ¬ S a 0 = 0) (d : S a 1 = u) (e : m.toInt < 0), P (some (.int (-14))) (am_up σ1 0 10 (nI 4)) (tauY 0 lf) := fun c d e => fin2 _ K Q S Ce 4 tr _ (by unfold f_ref; rw [if_pos g, if_pos g2, hc, hcu, agn_4 c d e]; rfl) (hI1.fl (v := 4)) (fun q g1 g2 => by rw [am_up_ne (by omega)]; exact hfr q g1 g2)
  have off : ∀ (c : ¬ S a 0 = 0) (d : S a 1 = u) (e : ¬ m.toInt < 0) (f : ¬ clsOk i m (S a 2)), P (some (.int (-13))) (am_up σ1 0 10 (nI 3)) (tauY 0 lf) := fun c d e f => fin2 _ K Q S Ce 3 tr _ (by unfold f_ref; rw [if_pos g, if_pos g2, hc, hcu, agn_3 c d e f]; rfl) (hI1.fl (v := 3)) (fun q g1 g2 => by rw [am_up_ne (by omega)]; exact hfr q g1 g2)
  have yes : ∀ (c : ¬ S a 0 = 0) (d : S a 1 = u) (f : clsOk i m (S a 2)), P (some (.int 0)) σ1 (tauY 0 lf) := fun c d f => fin2 _ K Q S Ce 0 tr _ (by unfold f_ref; rw [if_pos g, if_pos g2, hc, hcu, agn_0 c d f]; rfl) hI1 hfr
  have e0 : σ1 (108 + 2 * a) 0 = 0 ↔ S a 0 = 0 := by
    rw [hr.1]
    exact nI_eq (b := 0) (by omega) (by omega)
  have e1 : σ1 (108 + 2 * a) 1 = nI u ↔ S a 1 = u := by
    rw [hr.2.1]
    exact nI_eq (by omega) (by omega)
  have en : 0 ≤ m ↔ ¬ m.toInt < 0 := by rw [i_le, Int32.toInt_zero]; omega
  refine vc_f (by decide) (And.intro (vin (show a < 4 by omega)) ?_)
  rw [hc]
  rcases k4 ha with rfl | rfl | rfl | rfl
  all_goals
    refine And.intro (sh_nz ha) (fun z hz => ?_)
    cases hz
    refine ⟨rfl, hn, _, nI u, ha, rfl, fun c => vc_f (by decide) ⟨rfl, hn, lf, 1, rfl, rfl, And.intro rfl (no (e0.mp c))⟩, fun c d => ?_, fun c d => vc_f (by decide) ⟨rfl, hn, lf, 2, rfl, rfl, And.intro rfl (ca (fun q => c (e0.mpr q)) (fun q => d (e1.mpr q)))⟩⟩
    have c := fun q => c (e0.mpr q)
    have d := e1.mp d
    exact vc_t rfl (vc_if (fun e => ⟨rfl, hn, _, _, i, m, ha, rfl, hr.2.2.1, hw.2.2, fun f => vc_f (by decide) (And.intro rfl (yes c d f)), fun f => vc_t rfl ⟨rfl, hn, lf, 3, rfl, rfl, And.intro rfl (off c d (en.mp e) f)⟩⟩) (fun e => ⟨rfl, hn, lf, 4, rfl, rfl, And.intro rfl (sz c d (Decidable.not_not.mp (fun q => e (en.mpr q))))⟩)))
