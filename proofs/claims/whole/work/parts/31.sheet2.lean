theorem nI_mulN (a b : Nat) : nI a * nI b = nI (a * b) := (Int32.ofNat_mul a b).symm
theorem i100 (i j : Nat) : (100 : Int32) * nI i + nI j = nI (100 * i + j) := by
  show nI 100 * nI i + nI j = _
  rw [nI_mulN, nI_add]
theorem sh_tau {rw lf i : Nat} (h : i < 4) : tauY rw lf 106 i = 109 + 2 * i := by
  rcases k4 h with rfl | rfl | rfl | rfl <;> rfl
theorem sh_nz {rw lf i : Nat} (h : i < 4) : ¬ tauY rw lf 106 i = 0 := by
  rw [sh_tau h]; omega
def f_lose (k : Int32) (s : ST) : Value × ST := if inN k 4 then (if s.2.2.1 k.toNatClampNeg 0 = 0 then (.int 0, s) else (.int 1, (s.1, s.2.1, rowS s.2.2.1 k.toNatClampNeg (fun b => if b = 0 then 0 else s.2.2.1 k.toNatClampNeg b), s.2.2.2))) else (.int (-1), s)
def f_sheet (k t l : Int32) (s : ST) : Value × ST := if inN k 4 then (if inN t 3 ∧ l.toInt ≤ 100 then (if l.toInt < 0 then (.int (-14), setF s 4) else (.int 1, (s.1, s.2.1, rowS s.2.2.1 k.toNatClampNeg (fun b => if b = 0 then 1 else if b = 1 then t.toNatClampNeg else l.toNatClampNeg), rowC s.2.2.2.1 k.toNatClampNeg (fun _ => 0), 0, s.2.2.2.2.2))) else (.int (-2), setF s 0)) else (.int (-1), setF s 0)
def setC (c : Nat → Int32) (i : Nat) (v : Int32) : Nat → Int32 := fun j => if j = i then v else c j
def f_put (k i v : Int32) (s : ST) : Value × ST := if inN k 4 then (if s.2.2.1 k.toNatClampNeg 0 = 0 then (.int (-11), setF s 1) else if inN i (s.2.2.1 k.toNatClampNeg 2) then (.int 1, (s.1, s.2.1, s.2.2.1, rowC s.2.2.2.1 k.toNatClampNeg (setC (s.2.2.2.1 k.toNatClampNeg) i.toNatClampNeg (cutv (s.2.2.1 k.toNatClampNeg 1) v)), 0, s.2.2.2.2.2)) else (.int (-13), setF s 3)) else (.int (-1), setF s 0)
def C_xlose : am_C := fun av n σ τ nf P => ∃ (k : Int32), pubX [.int k] (f_lose k) av n σ τ nf P
set_option maxRecDepth 100000 in
theorem M_xlose (d : Nat) : am_Met (d + 3) 730 C_xlose := am_meth (own0 := "CanalEnd") 730 (d + 2) 155 T_X7_lose (fun y => bif Nat.beq y 742 then C_isSheet else (am_no)) C_xlose rfl F_X7_lose rfl (by decide +kernel) Tc_X7_lose (fun y => am_g (M_isSheet (d + 0)) (am_no_met)) (by
  intro av n σ τ nf P hnf hC
  obtain ⟨k, rfl, lf, ⟨K, Q, S, Ce, fl, tr⟩, rfl, hI, rfl, hP⟩ := hC
  have hn := Nlf_le hI.2.2.2.2.2.2.2.2.2
  refine ⟨hn, rfl, Nat.le_of_ble_eq_true rfl, fun Wb hs => ?_⟩
  have hI : InvX σ nf lf K Q S Ce fl tr := hI
  have hK := hI.1
  have hR := hI.2.1
  have hM10 := hK.2.1
  have hO8 := hK.2.2.1
  have eM : σ 1 1 = nI (K 0 1) := hR.1 1 (by omega)
  have eO : σ 1 2 = nI (K 0 2) := hR.1 2 (by omega)
  have fin : ∀ r9 : Int32, (f_lose k (K, Q, S, Ce, fl, tr)).2 = (K, Q, S, Ce, fl, tr) → (f_lose k (K, Q, S, Ce, fl, tr)).1 = .int r9 → P (some (.int r9)) σ (tauY 0 lf) := fun r9 e1 e2 => p_eqv e2 (hP σ (by rw [e1]; exact hI) (fun _ _ => fun _ => rfl))
  have fin2 : ∀ (v9 : Value) (K9 Q9 S9 : KT) (Ce9 : Nat → Nat → Int32) (fl9 : Nat) (tr9 : Int32) (σ9 : am_Sg), f_lose k (K, Q, S, Ce, fl, tr) = (v9, (K9, Q9, S9, Ce9, fl9, tr9)) → InvX σ9 nf lf K9 Q9 S9 Ce9 fl9 tr9 → FrX σ σ9 → P (some v9) σ9 (tauY 0 lf) := fun v9 K9 Q9 S9 Ce9 fl9 tr9 σ9 e h1 h2 => by have := hP σ9 (by rw [e]; exact h1) h2; rw [e] at this; exact this
  refine hs (fun _ => false) 60 0 _ _ _ _ _ ⟨rfl, k, rfl, fun g => ?_, fun g => vc_t rfl (And.intro rfl (fin _ (by unfold f_lose; rw [if_neg g]) (by unfold f_lose; rw [if_neg g])))⟩
  obtain ⟨i, hi, rfl⟩ := inN_ex g
  have hc : (nI i).toNatClampNeg = i := nI_clamp (by omega)
  have hw := hI.2.2.2.2.2.1 i hi
  have hr := hI.2.2.2.2.2.2.1 i hi
  have no : σ (108 + 2 * i) 0 = 0 → P (some (.int 0)) σ (tauY 0 lf) := fun c => by
    have c : S i 0 = 0 := nI_inj (b := 0) (by omega) (by omega) (hr.1.symm.trans c)
    exact fin _ (by unfold f_lose; rw [if_pos g, hc, if_pos c]) (by unfold f_lose; rw [if_pos g, hc, if_pos c])
  have yes : ¬ σ (108 + 2 * i) 0 = 0 → ∀ σ2 : am_Sg, σ2 = am_up σ (108 + 2 * i) 0 0 → P (some (.int 1)) σ2 (tauY 0 lf) := fun c σ2 e2 => by
    have c : ¬ S i 0 = 0 := fun q => c (hr.1.trans (by rw [q]; rfl))
    have h9 := hI.sh (σ' := σ2) (k := i) (s := fun b => if b = 0 then 0 else S i b) (c := Ce i) hi ⟨Nat.zero_le _, hw.2.1, hw.2.2⟩ ⟨by rw [e2]; exact up_at, by rw [e2, up_ne (by omega)]; exact hr.2.1, by rw [e2, up_ne (by omega)]; exact hr.2.2.1, fun j hj => by rw [e2, up_rn (by omega)]; exact hr.2.2.2 j hj⟩ (fun q g1 g2 => by rw [e2]; exact am_up_ne g1)
    rw [rowC_self] at h9
    exact fin2 _ _ _ _ _ _ _ σ2 (by unfold f_lose; rw [if_pos g, hc, if_neg c]) h9 (fun q g1 g2 => by rw [e2]; exact am_up_ne (by omega))
  refine vc_f (by decide) (And.intro (vin (show i < 4 by omega)) ?_)
  rw [hc]
  rcases k4 hi with rfl | rfl | rfl | rfl
  all_goals
    refine And.intro (sh_nz hi) (fun z hz => ?_)
    cases hz
    refine vc_if (fun c => And.intro rfl (no c)) (fun c => And.intro (vin (by decide)) (And.intro (sh_nz (by decide)) (fun z hz => ?_)))
    cases hz
    exact And.intro (Or.inl rfl) (fun σ2 e2 => And.intro rfl (yes c σ2 e2)))
theorem s9 {a b : Nat} (hb : b ≤ 2) (h : (if a = 0 then (-9 : Int32) else nI b) = -9) : a = 0 := by
  by_cases q : a = 0
  · exact q
  · rw [if_neg q] at h
    rcases (show b = 0 ∨ b = 1 ∨ b = 2 by omega) with rfl | rfl | rfl
    all_goals exact absurd h (by decide)
def C_mlose : am_C := fun av n σ τ nf P => ∃ (k : Int32), pubM [.int k] (f_lose k) av n σ τ nf P
set_option maxRecDepth 100000 in
theorem M_mlose (d : Nat) : am_Met (d + 3) 863 C_mlose := am_meth (own0 := "CanalEndModel") 863 (d + 2) 155 T_X8_lose (fun y => bif Nat.beq y 806 then C_mSheet else (am_no)) C_mlose rfl F_X8_lose rfl (by decide +kernel) Tc_X8_lose (fun y => am_g (M_mSheet (d + 0)) (am_no_met)) (by
  intro av n σ τ nf P hnf hC
  obtain ⟨k, rfl, hn, lf, ⟨K, Q, S, Ce, fl, tr⟩, rfl, hI, rfl, hP⟩ := hC
  refine ⟨hn, rfl, Nat.le_of_ble_eq_true rfl, fun Wb hs => ?_⟩
  have hI : InvM σ K Q S Ce fl tr := hI
  have hK := hI.1
  have hR := hI.2.1
  have hM10 := hK.2.1
  have hO8 := hK.2.2.1
  have eM := hR.2.1
  have eO := hR.2.2.1
  have fin : ∀ r9 : Int32, (f_lose k (K, Q, S, Ce, fl, tr)).2 = (K, Q, S, Ce, fl, tr) → (f_lose k (K, Q, S, Ce, fl, tr)).1 = .int r9 → P (some (.int r9)) σ (tauY 0 lf) := fun r9 e1 e2 => p_eqv e2 (hP σ (by rw [e1]; exact hI) (fun _ _ => rfl))
  have fin2 : ∀ (v9 : Value) (K9 Q9 S9 : KT) (Ce9 : Nat → Nat → Int32) (fl9 : Nat) (tr9 : Int32) (σ9 : am_Sg), f_lose k (K, Q, S, Ce, fl, tr) = (v9, (K9, Q9, S9, Ce9, fl9, tr9)) → InvM σ9 K9 Q9 S9 Ce9 fl9 tr9 → FrM σ σ9 → P (some v9) σ9 (tauY 0 lf) := fun v9 K9 Q9 S9 Ce9 fl9 tr9 σ9 e h1 h2 => by have := hP σ9 (by rw [e]; exact h1) h2; rw [e] at this; exact this
  refine hs (fun _ => false) 60 0 _ _ _ _ _ ⟨rfl, k, rfl, fun g => ?_, fun g => vc_t rfl (And.intro rfl (fin _ (by unfold f_lose; rw [if_neg g]) (by unfold f_lose; rw [if_neg g])))⟩
  obtain ⟨i, hi, rfl⟩ := inN_ex g
  have hc : (nI i).toNatClampNeg = i := nI_clamp (by omega)
  have hw := hI.2.2.2.2.1 i hi
  have hr := hI.2.2.2.2.2.1 i hi
  have h9 : ∀ σ2 : am_Sg, σ2 = am_up σ 117 i (-9) → InvM σ2 K Q (rowS S i (fun b => if b = 0 then 0 else S i b)) Ce fl tr := fun σ2 e2 => by
    have h9 := hI.sh (σ' := σ2) (k := i) (s := fun b => if b = 0 then 0 else S i b) (c := Ce i) ⟨Nat.zero_le _, hw.2.1, hw.2.2⟩ ⟨by rw [e2]; exact up_at, by rw [e2, up_rn (by omega)]; exact hr.2.1, fun j hj => by rw [e2, up_rn (by omega)]; exact hr.2.2 j hj⟩ (fun q g1 g2 g3 => by rw [e2]; exact am_up_ne g1) (fun j hj => ⟨by rw [e2]; exact up_ne hj, by rw [e2]; exact up_rn (by omega)⟩) (fun j hj => by rw [e2]; exact up_rn (by omega))
    rw [rowC_self] at h9
    exact h9
  have e7 := hr.1
  refine vc_f (by decide) (And.intro (vin (show i < 4 by omega)) (vc_if (fun c => And.intro (vin (show i < 4 by omega)) (fun σ2 e2 => And.intro rfl ?_)) (fun c => And.intro (vin (show i < 4 by omega)) (fun σ2 e2 => And.intro rfl ?_))))
  · rw [hc] at c e2
    rw [e7] at c
    have e2 : σ2 = am_up σ 117 i (-9) := e2
    have c : S i 0 = 0 := s9 hw.2.1 c
    refine fin2 _ K Q S Ce fl tr σ2 (by unfold f_lose; rw [if_pos g, hc, if_pos c]) ?_ (fun q g1 => by rw [e2]; exact am_up_ne (by omega))
    have h9 := h9 σ2 e2
    have e : (fun b => if b = 0 then 0 else S i b) = S i := by
      funext b
      by_cases q : b = 0
      · rw [if_pos q, q, c]
      · rw [if_neg q]
    rw [e, rowS_self] at h9
    exact h9
  · rw [hc] at c e2
    rw [e7] at c
    have e2 : σ2 = am_up σ 117 i (-9) := e2
    have c : ¬ S i 0 = 0 := fun q => c (if_pos q)
    exact fin2 _ _ _ _ _ _ _ σ2 (by unfold f_lose; rw [if_pos g, hc, if_neg c]) (h9 σ2 e2) (fun q g1 => by rw [e2]; exact am_up_ne (by omega)))
def C_xsheet : am_C := fun av n σ τ nf P => ∃ (k : Int32) (t : Int32) (l : Int32), pubX [.int k, .int t, .int l] (f_sheet k t l) av n σ τ nf P
set_option maxRecDepth 100000 in
theorem M_xsheet (d : Nat) : am_Met (d + 3) 729 C_xsheet := am_meth (own0 := "CanalEnd") 729 (d + 2) 155 T_X7_sheet (fun y => bif Nat.beq y 742 then C_isSheet else (bif Nat.beq y 743 then C_isSort else (bif Nat.beq y 751 then C_faulty else (bif Nat.beq y 401 then C_begin else (am_no))))) C_xsheet rfl F_X7_sheet rfl (by decide +kernel) Tc_X7_sheet (fun y => am_g (M_isSheet (d + 0)) (am_g (M_isSort (d + 0)) (am_g (M_faulty (d + 1)) (am_g (M_begin (d + 1)) (am_no_met))))) (by
  intro av n σ τ nf P hnf hC
  obtain ⟨k, t, l, rfl, lf, ⟨K, Q, S, Ce, fl, tr⟩, rfl, hI, rfl, hP⟩ := hC
  have hn := Nlf_le hI.2.2.2.2.2.2.2.2.2
  refine ⟨hn, rfl, Nat.le_of_ble_eq_true rfl, fun Wb hs => ?_⟩
  have hI : InvX σ nf lf K Q S Ce fl tr := hI
  have hK := hI.1
  have hR := hI.2.1
  have hM10 := hK.2.1
  have hO8 := hK.2.2.1
  have eM : σ 1 1 = nI (K 0 1) := hR.1 1 (by omega)
  have eO : σ 1 2 = nI (K 0 2) := hR.1 2 (by omega)
  have fin : ∀ r9 : Int32, (f_sheet k t l (K, Q, S, Ce, fl, tr)).2 = (K, Q, S, Ce, fl, tr) → (f_sheet k t l (K, Q, S, Ce, fl, tr)).1 = .int r9 → P (some (.int r9)) σ (tauY 0 lf) := fun r9 e1 e2 => p_eqv e2 (hP σ (by rw [e1]; exact hI) (fun _ _ => fun _ => rfl))
  have fin2 : ∀ (v9 : Value) (K9 Q9 S9 : KT) (Ce9 : Nat → Nat → Int32) (fl9 : Nat) (tr9 : Int32) (σ9 : am_Sg), f_sheet k t l (K, Q, S, Ce, fl, tr) = (v9, (K9, Q9, S9, Ce9, fl9, tr9)) → InvX σ9 nf lf K9 Q9 S9 Ce9 fl9 tr9 → FrX σ σ9 → P (some v9) σ9 (tauY 0 lf) := fun v9 K9 Q9 S9 Ce9 fl9 tr9 σ9 e h1 h2 => by have := hP σ9 (by rw [e]; exact h1) h2; rw [e] at this; exact this
  refine hs (fun _ => false) 90 0 _ _ _ _ _ (fun σ1 e1 => ?_)
  have e1 : σ1 = am_up σ 0 10 (nI 0) := e1
  have hI1 : InvX σ1 nf lf K Q S Ce 0 tr := by rw [e1]; exact hI.fl
  have hfr : FrX σ σ1 := fun q g1 g2 => by rw [e1]; exact am_up_ne (by omega)
  refine ⟨rfl, k, rfl, fun g => ?_, fun g => vc_t rfl (And.intro rfl (fin2 _ K Q S Ce 0 tr σ1 (by unfold f_sheet; rw [if_neg g]; rfl) hI1 hfr))⟩
  refine vc_f (by decide) ⟨rfl, t, rfl, fun g2 => ?_, fun g2 => vc_t rfl (And.intro rfl (fin2 _ K Q S Ce 0 tr σ1 (by unfold f_sheet; rw [if_pos g, if_neg (fun q => g2 q.1)]; rfl) hI1 hfr))⟩
  have e100 : l ≤ 100 ↔ l.toInt ≤ 100 := by rw [i_le]; exact Iff.rfl
  have e0 : 0 ≤ l ↔ 0 ≤ l.toInt := by rw [i_le]; exact Iff.rfl
  refine vc_f (by decide) (vc_if (fun c => ?_) (fun c => (And.intro rfl (fin2 _ K Q S Ce 0 tr σ1 (by unfold f_sheet; rw [if_pos g, if_neg (fun q => c (e100.mpr q.2))]; rfl) hI1 hfr))))
  have c := e100.mp c
  refine vc_if (fun d => ?_) (fun d => ⟨rfl, hn, lf, 4, rfl, rfl, And.intro rfl (fin2 _ K Q S Ce 4 tr _ (by unfold f_sheet; rw [if_pos g, if_pos ⟨g2, c⟩, if_pos (show l.toInt < 0 by have := mt e0.mpr d; omega)]; rfl) (hI1.fl (v := 4)) (fun q g1 g2 => by rw [am_up_ne (by omega)]; exact hfr q g1 g2))⟩)
  have d := e0.mp d
  obtain ⟨i, hi, rfl⟩ := inN_ex g
  obtain ⟨w, hw, rfl⟩ := inN_ex g2
  have hc : (nI i).toNatClampNeg = i := nI_clamp (by omega)
  have hcw : (nI w).toNatClampNeg = w := nI_clamp (by omega)
  have hl : l = nI l.toNatClampNeg ∧ l.toNatClampNeg < 101 := by
    have h9 := inN_c (v := l) (N := 101) ⟨d, by omega⟩
    exact ⟨h9.2, h9.1⟩
  have done : ∀ σ2 : am_Sg, σ2 (108 + 2 * i) 0 = 1 → σ2 (108 + 2 * i) 1 = nI w → σ2 (108 + 2 * i) 3 = l → (∀ j, j < 100 → σ2 (109 + 2 * i) j = 0) → (∀ q, ¬ q = 108 + 2 * i → ¬ q = 109 + 2 * i → σ2 q = σ1 q) → P (some (.int 1)) σ2 (tauY 0 lf) := by
    intro σ2 a0 a1 a3 a4 a5
    refine fin2 _ _ _ _ _ _ _ σ2 (by unfold f_sheet; rw [if_pos g, if_pos ⟨g2, c⟩, if_neg (show ¬ l.toInt < 0 by omega), hc, hcw]) ?_ (fun q g1 g2 => by rw [a5 q (by omega) (by omega)]; exact hfr q g1 g2)
    exact hI1.sh (k := i) hi ⟨Nat.le_refl 1, show w ≤ 2 by omega, show l.toNatClampNeg ≤ 100 by omega⟩ ⟨a0, a1, a3.trans hl.1, a4⟩ a5
  refine And.intro (vin (show i < 4 by omega)) ?_
  rw [hc]
  rcases k4 hi with rfl | rfl | rfl | rfl
  all_goals
    refine And.intro (sh_nz hi) (fun z hz => ?_)
    cases hz
  · exact ⟨rfl, hn, 0, lf, 0, nI w, l, rfl, hi, rfl, fun σ2 a0 a1 a3 a4 a5 => And.intro rfl (done σ2 a0 a1 a3 a4 a5)⟩
  · exact ⟨rfl, hn, 0, lf, 1, nI w, l, rfl, hi, rfl, fun σ2 a0 a1 a3 a4 a5 => And.intro rfl (done σ2 a0 a1 a3 a4 a5)⟩
  · exact ⟨rfl, hn, 0, lf, 2, nI w, l, rfl, hi, rfl, fun σ2 a0 a1 a3 a4 a5 => And.intro rfl (done σ2 a0 a1 a3 a4 a5)⟩
  · exact ⟨rfl, hn, 0, lf, 3, nI w, l, rfl, hi, rfl, fun σ2 a0 a1 a3 a4 a5 => And.intro rfl (done σ2 a0 a1 a3 a4 a5)⟩)
def C_msheet : am_C := fun av n σ τ nf P => ∃ (k : Int32) (t : Int32) (l : Int32), pubM [.int k, .int t, .int l] (f_sheet k t l) av n σ τ nf P
set_option maxRecDepth 100000 in
theorem M_msheet (d : Nat) : am_Met (d + 3) 862 C_msheet := am_meth (own0 := "CanalEndModel") 862 (d + 2) 155 T_X8_sheet (fun y => bif Nat.beq y 806 then C_mSheet else (bif Nat.beq y 807 then C_mSort else (bif Nat.beq y 801 then C_fails else (am_no)))) C_msheet rfl F_X8_sheet rfl (by decide +kernel) Tc_X8_sheet (fun y => am_g (M_mSheet (d + 0)) (am_g (M_mSort (d + 0)) (am_g (M_fails (d + 1)) (am_no_met)))) (by
  intro av n σ τ nf P hnf hC
  obtain ⟨k, t, l, rfl, hn, lf, ⟨K, Q, S, Ce, fl, tr⟩, rfl, hI, rfl, hP⟩ := hC
  refine ⟨hn, rfl, Nat.le_of_ble_eq_true rfl, fun Wb hs => ?_⟩
  have hI : InvM σ K Q S Ce fl tr := hI
  have hK := hI.1
  have hR := hI.2.1
  have hM10 := hK.2.1
  have hO8 := hK.2.2.1
  have eM := hR.2.1
  have eO := hR.2.2.1
  have fin : ∀ r9 : Int32, (f_sheet k t l (K, Q, S, Ce, fl, tr)).2 = (K, Q, S, Ce, fl, tr) → (f_sheet k t l (K, Q, S, Ce, fl, tr)).1 = .int r9 → P (some (.int r9)) σ (tauY 0 lf) := fun r9 e1 e2 => p_eqv e2 (hP σ (by rw [e1]; exact hI) (fun _ _ => rfl))
  have fin2 : ∀ (v9 : Value) (K9 Q9 S9 : KT) (Ce9 : Nat → Nat → Int32) (fl9 : Nat) (tr9 : Int32) (σ9 : am_Sg), f_sheet k t l (K, Q, S, Ce, fl, tr) = (v9, (K9, Q9, S9, Ce9, fl9, tr9)) → InvM σ9 K9 Q9 S9 Ce9 fl9 tr9 → FrM σ σ9 → P (some v9) σ9 (tauY 0 lf) := fun v9 K9 Q9 S9 Ce9 fl9 tr9 σ9 e h1 h2 => by have := hP σ9 (by rw [e]; exact h1) h2; rw [e] at this; exact this
  refine hs (fun p => Nat.beq p 57) 90 0 _ _ _ _ _ (fun σ1 e1 => ?_)
  have e1 : σ1 = am_up σ 116 0 (nI 0) := e1
  have hI1 : InvM σ1 K Q S Ce 0 tr := by rw [e1]; exact hI.fl
  have hfr : FrM σ σ1 := fun q g1 => by rw [e1]; exact am_up_ne (by omega)
  refine ⟨rfl, k, rfl, fun g => ?_, fun g => vc_t rfl (And.intro rfl (fin2 _ K Q S Ce 0 tr σ1 (by unfold f_sheet; rw [if_neg g]; rfl) hI1 hfr))⟩
  refine vc_f (by decide) ⟨rfl, t, rfl, fun g2 => ?_, fun g2 => vc_t rfl (And.intro rfl (fin2 _ K Q S Ce 0 tr σ1 (by unfold f_sheet; rw [if_pos g, if_neg (fun q => g2 q.1)]; rfl) hI1 hfr))⟩
  have e100 : l ≤ 100 ↔ l.toInt ≤ 100 := by rw [i_le]; exact Iff.rfl
  have e0 : 0 ≤ l ↔ 0 ≤ l.toInt := by rw [i_le]; exact Iff.rfl
  refine vc_f (by decide) (vc_if (fun c => ?_) (fun c => (And.intro rfl (fin2 _ K Q S Ce 0 tr σ1 (by unfold f_sheet; rw [if_pos g, if_neg (fun q => c (e100.mpr q.2))]; rfl) hI1 hfr))))
  have c := e100.mp c
  refine vc_if (fun d => ?_) (fun d => ⟨rfl, hn, lf, 4, rfl, rfl, And.intro rfl (fin2 _ K Q S Ce 4 tr _ (by unfold f_sheet; rw [if_pos g, if_pos ⟨g2, c⟩, if_pos (show l.toInt < 0 by have := mt e0.mpr d; omega)]; rfl) (hI1.fl (v := 4)) (fun q g1 => by rw [am_up_ne (by omega)]; exact hfr q g1))⟩)
  have d := e0.mp d
  obtain ⟨i, hi, rfl⟩ := inN_ex g
  obtain ⟨w, hw, rfl⟩ := inN_ex g2
  have hc : (nI i).toNatClampNeg = i := nI_clamp (by omega)
  have hcw : (nI w).toNatClampNeg = w := nI_clamp (by omega)
  have hl : l = nI l.toNatClampNeg ∧ l.toNatClampNeg < 101 := by
    have h9 := inN_c (v := l) (N := 101) ⟨d, by omega⟩
    exact ⟨h9.2, h9.1⟩
  have key : ∀ m j (σ3 : am_Sg), j + m = 100 → σ3 117 i = nI w → σ3 118 i = l → (∀ z, z < j → σ3 119 (100 * i + z) = 0) → (∀ q, ¬ q = 117 → ¬ q = 118 → ¬ q = 119 → σ3 q = σ1 q) → (∀ z, ¬ z = i → σ3 117 z = σ1 117 z ∧ σ3 118 z = σ1 118 z) → (∀ z, ¬ (100 * i ≤ z ∧ z < 100 * i + 100) → σ3 119 z = σ1 119 z) → Wb 57 [some (.ref 116), some (.int (nI i)), some (.int (nI w)), some (.int l), some (.int (nI j))] [] nf σ3 (tauY 0 lf) := by
    intro m
    induction m with
    | zero =>
      intro j σ3 hm b0 b1 b2 b3 b4 b5
      have hj : j = 100 := by omega
      subst hj
      refine hs (fun p => Nat.beq p 57) 30 57 _ _ _ _ _ (vc_t (by decide) (And.intro rfl ?_))
      refine fin2 _ _ _ _ _ _ _ σ3 (by unfold f_sheet; rw [if_pos g, if_pos ⟨g2, c⟩, if_neg (show ¬ l.toInt < 0 by omega), hc, hcw]) ?_ (fun q g1 => by rw [b3 q (by omega) (by omega) (by omega)]; exact hfr q g1)
      exact hI1.sh (k := i) ⟨Nat.le_refl 1, show w ≤ 2 by omega, show l.toNatClampNeg ≤ 100 by omega⟩ ⟨b0, b1.trans hl.1, b2⟩ b3 b4 b5
    | succ m ih =>
      intro j σ3 hm b0 b1 b2 b3 b4 b5
      have hlt : ¬ (100 : Int32) ≤ nI j := fun q => by have := (nI_leI (a := 100) (b := j) (by omega) (by omega)).mp q; omega
      have e : (100 : Int32) * nI i + nI j = nI (100 * i + j) := i100 i j
      refine hs (fun p => Nat.beq p 57) 30 57 _ _ _ _ _ (vc_f hlt (And.intro (by rw [e]; exact vin (show 100 * i + j < 400 by omega)) (fun σ4 e4 => ?_)))
      rw [e, nI_clamp (by omega)] at e4
      have e4 : σ4 = am_up σ3 119 (100 * i + j) 0 := e4
      show Wb 57 [some (.ref 116), some (.int (nI i)), some (.int (nI w)), some (.int l), some (.int (nI j + 1))] [] nf σ4 (tauY 0 lf)
      rw [← nI_succ]
      refine ih (j + 1) σ4 (by omega) (by rw [e4, up_rn (by omega)]; exact b0) (by rw [e4, up_rn (by omega)]; exact b1) ?_ (fun q g1 g2 g3 => by rw [e4, am_up_ne g3]; exact b3 q g1 g2 g3) (fun z hz => by rw [e4, up_rn (by omega), up_rn (by omega)]; exact b4 z hz) (fun z hz => by rw [e4, up_ne (by omega)]; exact b5 z hz)
      intro z hz
      by_cases q : z = j
      · subst q; rw [e4]; exact up_at
      · rw [e4, up_ne (by omega)]; exact b2 z (by omega)
  refine And.intro (vin (show i < 4 by omega)) (fun σ2 e2 => And.intro (vin (show i < 4 by omega)) (fun σ3 e3 => ?_))
  rw [hc] at e2 e3
  have e2 : σ2 = am_up σ1 117 i (nI w) := e2
  have e3 : σ3 = am_up σ2 118 i l := e3
  exact key 100 0 σ3 rfl (by rw [e3, up_rn (by omega), e2]; exact up_at) (by rw [e3]; exact up_at) (fun z hz => absurd hz (by omega)) (fun q g1 g2 g3 => by rw [e3, am_up_ne g2, e2, am_up_ne g1]) (fun z hz => ⟨by rw [e3, up_rn (by omega), e2]; exact up_ne hz, by rw [e3, up_ne hz, e2]; exact up_rn (by omega)⟩) (fun z hz => by rw [e3, up_rn (by omega), e2, up_rn (by omega)]))
