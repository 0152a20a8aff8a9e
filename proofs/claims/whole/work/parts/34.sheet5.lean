theorem am_cp_ne {σ : am_Sg} {q0 q1 sp dp n a : Nat} (h : ¬ a = q1) : am_cp σ q0 q1 sp dp n a = σ a := by
  funext b
  show (bif Nat.beq a q1 then _ else _) = _
  rw [show Nat.beq a q1 = false from Bool.eq_false_iff.mpr (fun g => h (Nat.eq_of_beq_eq_true g))]
  rfl
theorem am_cp_at {σ : am_Sg} {q0 q1 sp dp n b : Nat} : am_cp σ q0 q1 sp dp n q1 b = va_cpy (σ q0) (σ q1) sp dp n b := by
  show (bif Nat.beq q1 q1 then _ else _) = _
  rw [Nat.beq_refl]
  rfl
theorem i_neg {i : Int32} : i < 0 ↔ i.toInt < 0 := by rw [i_lt]; exact Iff.rfl
theorem nI_subN {a b : Nat} (h : b ≤ a) : nI a - nI b = nI (a - b) := by
  have e : nI a = nI (a - b) + nI b := by rw [nI_add]; congr 1; omega
  rw [e]
  exact Int32.add_sub_cancel _ _
theorem s19 {a b c d : Nat} (ha : ¬ a = 0) (hc : ¬ c = 0) (hb : b ≤ 2) (hd : d ≤ 2) : ((if a = 0 then (-9 : Int32) else nI b) = (if c = 0 then (-9 : Int32) else nI d)) ↔ b = d := by
  rw [if_neg ha, if_neg hc]
  exact nI_eq (by omega) (by omega)
def f_copy (k i o j m : Int32) (s : ST) : Value × ST := if inN k 4 ∧ inN o 4 then (if s.2.2.1 k.toNatClampNeg 0 = 0 ∨ s.2.2.1 o.toNatClampNeg 0 = 0 then (.int (-11), setF s 1) else if s.2.2.1 k.toNatClampNeg 1 = s.2.2.1 o.toNatClampNeg 1 then (if clsOk i m (s.2.2.1 k.toNatClampNeg 2) ∧ clsOk j m (s.2.2.1 o.toNatClampNeg 2) then (.int m, (s.1, s.2.1, s.2.2.1, rowC s.2.2.2.1 o.toNatClampNeg (va_cpy (s.2.2.2.1 k.toNatClampNeg) (s.2.2.2.1 o.toNatClampNeg) i.toNatClampNeg j.toNatClampNeg m.toNatClampNeg), 0, s.2.2.2.2.2)) else (.int (-13), setF s 3)) else (.int (-12), setF s 2)) else (.int (-1), setF s 0)
def C_xcopy : am_C := fun av n σ τ nf P => ∃ (k : Int32) (i : Int32) (o : Int32) (j : Int32) (m : Int32), pubX [.int k, .int i, .int o, .int j, .int m] (f_copy k i o j m) av n σ τ nf P
set_option maxRecDepth 100000 in
theorem M_xcopy (d : Nat) : am_Met (d + 3) 733 C_xcopy := am_meth (own0 := "CanalEnd") 733 (d + 2) 155 T_X7_copy (fun y => bif Nat.beq y 742 then C_isSheet else (bif Nat.beq y 751 then C_faulty else (bif Nat.beq y 404 then C_areCells else (am_no)))) C_xcopy rfl F_X7_copy rfl (by decide +kernel) Tc_X7_copy (fun y => am_g (M_isSheet (d + 0)) (am_g (M_faulty (d + 1)) (am_g (M_areCells (d + 0)) (am_no_met)))) (by
  intro av n σ τ nf P hnf hC
  obtain ⟨k, i, o, j, m, rfl, lf, ⟨K, Q, S, Ce, fl, tr⟩, rfl, hI, rfl, hP⟩ := hC
  have hn := Nlf_le hI.2.2.2.2.2.2.2.2.2
  refine ⟨hn, rfl, Nat.le_of_ble_eq_true rfl, fun Wb hs => ?_⟩
  have hI : InvX σ nf lf K Q S Ce fl tr := hI
  have hK := hI.1
  have hR := hI.2.1
  have hM10 := hK.2.1
  have hO8 := hK.2.2.1
  have eM : σ 1 1 = nI (K 0 1) := hR.1 1 (by omega)
  have eO : σ 1 2 = nI (K 0 2) := hR.1 2 (by omega)
  have fin : ∀ r9 : Int32, (f_copy k i o j m (K, Q, S, Ce, fl, tr)).2 = (K, Q, S, Ce, fl, tr) → (f_copy k i o j m (K, Q, S, Ce, fl, tr)).1 = .int r9 → P (some (.int r9)) σ (tauY 0 lf) := fun r9 e1 e2 => p_eqv e2 (hP σ (by rw [e1]; exact hI) (fun _ _ => fun _ => rfl))
  have fin2 : ∀ (v9 : Value) (K9 Q9 S9 : KT) (Ce9 : Nat → Nat → Int32) (fl9 : Nat) (tr9 : Int32) (σ9 : am_Sg), f_copy k i o j m (K, Q, S, Ce, fl, tr) = (v9, (K9, Q9, S9, Ce9, fl9, tr9)) → InvX σ9 nf lf K9 Q9 S9 Ce9 fl9 tr9 → FrX σ σ9 → P (some v9) σ9 (tauY 0 lf) := fun v9 K9 Q9 S9 Ce9 fl9 tr9 σ9 e h1 h2 => by have := hP σ9 (by rw [e]; exact h1) h2; rw [e] at this; exact this
  refine hs (fun _ => false) 90 0 _ _ _ _ _ (fun σ1 e1 => ?_)
  have e1 : σ1 = am_up σ 0 10 (nI 0) := e1
  have hI1 : InvX σ1 nf lf K Q S Ce 0 tr := by rw [e1]; exact hI.fl
  have hfr : FrX σ σ1 := fun q g1 g2 => by rw [e1]; exact am_up_ne (by omega)
  refine ⟨rfl, k, rfl, fun g => ?_, fun g => vc_t rfl (And.intro rfl (fin2 _ K Q S Ce 0 tr σ1 (by unfold f_copy; rw [if_neg (fun q => g q.1)]; rfl) hI1 hfr))⟩
  refine vc_f (by decide) ⟨rfl, o, rfl, fun g2 => ?_, fun g2 => vc_t rfl (And.intro rfl (fin2 _ K Q S Ce 0 tr σ1 (by unfold f_copy; rw [if_neg (fun q => g2 q.2)]; rfl) hI1 hfr))⟩
  obtain ⟨a, ha, rfl⟩ := inN_ex g
  have hca : (nI a).toNatClampNeg = a := nI_clamp (by omega)
  obtain ⟨b, hb, rfl⟩ := inN_ex g2
  have hcb : (nI b).toNatClampNeg = b := nI_clamp (by omega)
  have hwa := hI1.2.2.2.2.2.1 a ha
  have hra := hI1.2.2.2.2.2.2.1 a ha
  have hwb := hI1.2.2.2.2.2.1 b hb
  have hrb := hI1.2.2.2.2.2.2.1 b hb
  have no : ∀ (c : S a 0 = 0 ∨ S b 0 = 0), P (some (.int (-11))) (am_up σ1 0 10 (nI 1)) (tauY 0 lf) := fun c => fin2 _ K Q S Ce 1 tr _ (by unfold f_copy; rw [if_pos ⟨g, g2⟩, hca, hcb, if_pos c]; rfl) (hI1.fl (v := 1)) (fun q g1 g2 => by rw [am_up_ne (by omega)]; exact hfr q g1 g2)
  have ca : ∀ (c : ¬ (S a 0 = 0 ∨ S b 0 = 0)) (d : ¬ S a 1 = S b 1), P (some (.int (-12))) (am_up σ1 0 10 (nI 2)) (tauY 0 lf) := fun c d => fin2 _ K Q S Ce 2 tr _ (by unfold f_copy; rw [if_pos ⟨g, g2⟩, hca, hcb, if_neg c, if_neg d]; rfl) (hI1.fl (v := 2)) (fun q g1 g2 => by rw [am_up_ne (by omega)]; exact hfr q g1 g2)
  have off : ∀ (c : ¬ (S a 0 = 0 ∨ S b 0 = 0)) (d : S a 1 = S b 1) (e : ¬ (clsOk i m (S a 2) ∧ clsOk j m (S b 2))), P (some (.int (-13))) (am_up σ1 0 10 (nI 3)) (tauY 0 lf) := fun c d e => fin2 _ K Q S Ce 3 tr _ (by unfold f_copy; rw [if_pos ⟨g, g2⟩, hca, hcb, if_neg c, if_pos d, if_neg e]; rfl) (hI1.fl (v := 3)) (fun q g1 g2 => by rw [am_up_ne (by omega)]; exact hfr q g1 g2)
  have yes : ∀ (c : ¬ (S a 0 = 0 ∨ S b 0 = 0)) (d : S a 1 = S b 1) (e : clsOk i m (S a 2) ∧ clsOk j m (S b 2)), (¬ i < 0 ∧ ¬ j < 0 ∧ ¬ m < 0 ∧ i.toNatClampNeg + m.toNatClampNeg ≤ 100 ∧ j.toNatClampNeg + m.toNatClampNeg ≤ 100) ∧ ∀ σ2, σ2 = am_cp σ1 (109 + 2 * a) (109 + 2 * b) i.toNatClampNeg j.toNatClampNeg m.toNatClampNeg → P (some (.int m)) σ2 (tauY 0 lf) := fun c d e => by
    have e' := e
    obtain ⟨⟨i1, i2, i3⟩, j1, j2, j3⟩ := e'
    have z1 : i.toNatClampNeg = i.toInt.toNat := rfl
    have z2 : j.toNatClampNeg = j.toInt.toNat := rfl
    have z3 : m.toNatClampNeg = m.toInt.toNat := rfl
    refine ⟨⟨fun q => by have := i_neg.mp q; omega, fun q => by have := i_neg.mp q; omega, fun q => by have := i_neg.mp q; omega, by omega, by omega⟩, fun σ2 e2 => ?_⟩
    have h9 := hI1.sh (σ' := σ2) (k := b) (s := S b) (c := va_cpy (Ce a) (Ce b) i.toNatClampNeg j.toNatClampNeg m.toNatClampNeg) hb hwb ⟨by rw [e2, am_cp_ne (by omega)]; exact hrb.1, by rw [e2, am_cp_ne (by omega)]; exact hrb.2.1, by rw [e2, am_cp_ne (by omega)]; exact hrb.2.2.1, fun x hx => ?_⟩ (fun q g1 g2 => by rw [e2]; exact am_cp_ne g2)
    · rw [rowS_self] at h9
      exact fin2 _ _ _ _ _ _ _ σ2 (by unfold f_copy; rw [if_pos ⟨g, g2⟩, hca, hcb, if_neg c, if_pos d, if_pos e]) h9 (fun q g1 g2 => by rw [e2, am_cp_ne (by omega)]; exact hfr q g1 g2)
    · rw [e2, am_cp_at]
      unfold va_cpy
      by_cases q : j.toNatClampNeg ≤ x ∧ x < j.toNatClampNeg + m.toNatClampNeg
      · rw [if_pos q, if_pos q]; exact hra.2.2.2 _ (by omega)
      · rw [if_neg q, if_neg q]; exact hrb.2.2.2 _ hx
  have ea0 : σ1 (108 + 2 * a) 0 = 0 ↔ S a 0 = 0 := by
    rw [hra.1]
    exact nI_eq (b := 0) (by omega) (by omega)
  have eb0 : σ1 (108 + 2 * b) 0 = 0 ↔ S b 0 = 0 := by
    rw [hrb.1]
    exact nI_eq (b := 0) (by omega) (by omega)
  have e1 : σ1 (108 + 2 * a) 1 = σ1 (108 + 2 * b) 1 ↔ S a 1 = S b 1 := by
    rw [hra.2.1, hrb.2.1]
    exact nI_eq (by omega) (by omega)
  refine vc_f (by decide) (And.intro (vin (show a < 4 by omega)) ?_)
  rw [hca]
  rcases k4 ha with rfl | rfl | rfl | rfl
  all_goals
    refine And.intro (sh_nz ha) (fun z hz => ?_)
    cases hz
    refine And.intro (vin (show b < 4 by omega)) ?_
    rw [hcb]
    rcases k4 hb with rfl | rfl | rfl | rfl
    all_goals
      refine And.intro (sh_nz hb) (fun z hz => ?_)
      cases hz
      refine vc_if (fun c => ⟨rfl, hn, lf, 1, rfl, rfl, And.intro rfl (no (Or.inl (ea0.mp c)))⟩) (fun c1 => vc_if (fun c => ⟨rfl, hn, lf, 1, rfl, rfl, And.intro rfl (no (Or.inr (eb0.mp c)))⟩) (fun c2 => ?_))
      have c := fun q => Or.elim q (fun q => c1 (ea0.mpr q)) (fun q => c2 (eb0.mpr q))
      refine vc_if (fun d => ?_) (fun d => ⟨rfl, hn, lf, 2, rfl, rfl, And.intro rfl (ca c (fun q => d (e1.mpr q)))⟩)
      have d := e1.mp d
      refine ⟨rfl, hn, _, _, i, m, ha, rfl, hra.2.2.1, hwa.2.2, fun g4 => vc_f (by decide) ⟨rfl, hn, _, _, j, m, hb, rfl, hrb.2.2.1, hwb.2.2, fun g5 => vc_f (by decide) ?_, fun g5 => vc_t rfl ⟨rfl, hn, lf, 3, rfl, rfl, And.intro rfl (off c d (fun q => g5 q.2))⟩⟩, fun g4 => vc_t rfl ⟨rfl, hn, lf, 3, rfl, rfl, And.intro rfl (off c d (fun q => g4 q.1))⟩⟩
      obtain ⟨⟨y1, y2, y3, y4, y5⟩, y6⟩ := yes c d ⟨g4, g5⟩
      exact ⟨y1, y2, y3, y4, y5, fun q => absurd q (by decide), fun σ2 e2 => And.intro rfl (y6 σ2 e2)⟩)
