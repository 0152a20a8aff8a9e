abbrev cdS (K : KT) (f o : Nat) : Prop := s_dy K f o < K 9 o ∧ K 10 o = 0 ∧ K 8 o < 2
def swS (f : Nat) : Nat → Nat → KT → Nat → Nat → KT × Nat × Nat
  | 0, _, K, ch, cd => (K, ch, cd)
  | r + 1, o, K, ch, cd => if cdS K f o then swS f r (o + 1) (setK K 8 o (K 8 o + 1)) (ch + 1) 1 else swS f r (o + 1) K ch cd
def lpS (f : Nat) : Nat → KT → Nat → Nat → KT × Nat
  | 0, K, ch, _ => (K, ch)
  | n + 1, K, ch, cd => if cd = 0 then (K, ch) else lpS f n (swS f (K 0 2) 0 K ch 0).1 (swS f (K 0 2) 0 K ch 0).2.1 (swS f (K 0 2) 0 K ch 0).2.2
theorem swS_t {f r o ch cd : Nat} {K : KT} (h : cdS K f o) : swS f (r + 1) o K ch cd = swS f r (o + 1) (setK K 8 o (K 8 o + 1)) (ch + 1) 1 := if_pos h
theorem swS_f {f r o ch cd : Nat} {K : KT} (h : ¬ cdS K f o) : swS f (r + 1) o K ch cd = swS f r (o + 1) K ch cd := if_neg h
theorem swS_cd {f : Nat} : ∀ r o (K : KT) ch cd, cd ≤ 1 → (swS f r o K ch cd).2.2 ≤ 1
  | 0, _, _, _, _, h => h
  | r + 1, o, K, ch, cd, h => by
    by_cases c : cdS K f o
    · rw [swS_t c]; exact swS_cd r (o + 1) _ _ 1 (by omega)
    · rw [swS_f c]; exact swS_cd r (o + 1) _ _ _ h
theorem swS_0 {f : Nat} : ∀ r o (K : KT) ch cd a, ¬ a = 8 → (swS f r o K ch cd).1 a = K a
  | 0, _, _, _, _, _, _ => rfl
  | r + 1, o, K, ch, cd, a, h => by
    by_cases c : cdS K f o
    · rw [swS_t c, swS_0 r (o + 1) _ _ 1 a h]; exact setK_ne h
    · rw [swS_f c]; exact swS_0 r (o + 1) _ _ _ a h
def InvS (σ σ' : am_Sg) (c f : Nat) (K : KT) : Prop := RepX σ' c K ∧ WfK K ∧ (∀ o, o < K 0 2 → σ' 30 o = nI (s_dy K f o)) ∧ σ' 29 1 = nI (s_de K f) ∧ (∀ q, ¬ (29 ≤ q ∧ q ≤ 35) → ¬ q = c + 8 → σ' q = σ q)
def C_settleP : am_C := fun av n σ τ nf P => nf = n ∧ 155 ≤ n ∧ ∃ (lf c f : Nat) (K : KT), τ = tauY 0 lf ∧ av = [.ref 0, .ref c, .int (nI f)] ∧ (c = 1 ∨ c = 12) ∧ RepX σ c K ∧ WfK K ∧ f ≤ 9999 ∧ ∀ σ', InvS σ σ' c f (lpS f 25 K 0 1).1 → P (some (.int (nI (lpS f 25 K 0 1).2))) σ' τ
set_option maxRecDepth 100000 in
theorem M_settleP (d : Nat) : am_Met (d + 4) 752 C_settleP := am_meth (own0 := "CanalEnd") 752 (d + 3) 155 T_X7_settlePeople (fun y => bif Nat.beq y 101 then C_drun else (am_no)) C_settleP rfl F_X7_settlePeople rfl (by decide +kernel) Tc_X7_settlePeople (fun y => am_g (M_drun (d + 0)) (am_no_met)) (by
  intro av n σ τ nf P hnf hC
  obtain ⟨rfl, hn, lf, c, f, K0, rfl, rfl, hc, hR0, hK0, hf, hP⟩ := hC
  refine ⟨hn, rfl, Nat.le_of_ble_eq_true rfl, fun Wb hs => ?_⟩
  have k35 : ∀ rd r o (K : KT) ch cd (σ6 : am_Sg), o + r = K 0 2 → cd ≤ 1 → InvS σ σ6 c f K → (∀ (σ7 : am_Sg) (x6 : Option Value), InvS σ σ7 c f (swS f r o K ch cd).1 → Wb 17 [some (.ref 0), some (.ref c), some (.int (nI f)), some (.int (nI (swS f r o K ch cd).2.1)), some (.int (nI (swS f r o K ch cd).2.2)), some (.int (nI (rd + 1))), x6] [] nf σ7 (tauY 0 lf)) → Wb 35 [some (.ref 0), some (.ref c), some (.int (nI f)), some (.int (nI ch)), some (.int (nI cd)), some (.int (nI rd)), some (.int (nI o))] [] nf σ6 (tauY 0 lf) := by
    intro rd r
    induction r with
    | zero =>
      intro o K ch cd σ6 ho hcd hI hW
      have hO8 := hI.2.1.2.2.1
      have ho : o = K 0 2 := by omega
      subst ho
      have eO : σ6 c 2 = nI (K 0 2) := hI.1.1 2 (by omega)
      have hle : σ6 c 2 ≤ nI (K 0 2) := by rw [eO]; exact nI_le (Nat.le_refl _) (by omega)
      have hW := hW σ6 (some (.int (nI (K 0 2)))) hI
      rw [nI_succ rd] at hW
      rcases hc with rfl | rfl
      all_goals exact hs (fun p => Nat.beq p 17 || Nat.beq p 35) 60 35 _ _ _ _ _ (vc_t hle hW)
    | succ r ih =>
      intro o K ch cd σ6 ho hcd hI hW
      have hO8 := hI.2.1.2.2.1
      have eO : σ6 c 2 = nI (K 0 2) := hI.1.1 2 (by omega)
      have hle : ¬ σ6 c 2 ≤ nI o := by rw [eO]; exact nI_ge (by omega) (by omega)
      have hcl : (nI o).toNatClampNeg = o := nI_clamp (by omega)
      have kb := hI.2.1.2.2.2.2.2.2.2.2.2 o (by omega)
      have e8 : σ6 (c + 8) o = nI (K 8 o) := hI.1.2.2 3 (by omega) o (by omega)
      have e9 : σ6 (c + 9) o = nI (K 9 o) := hI.1.2.2 4 (by omega) o (by omega)
      have e10 : σ6 (c + 10) o = nI (K 10 o) := hI.1.2.2 5 (by omega) o (by omega)
      have e30 := hI.2.2.1 o (by omega)
      have ho8 : o < 8 := by omega
      have hdy : s_dy K f o ≤ 19998 := by
        have h1 : ∀ nt, s_ta K (K 8) nt f o ≤ f := fun nt => by
          unfold s_ta
          exact Nat.le_trans (s_tk_le _ _ _ _ _ _) (Nat.le_trans (s_ou_le _ _ _ _ _ _ _) (s_af_le _ _ _ _ _))
        have := h1 0
        have := h1 1
        unfold s_dy
        omega
      have no : ¬ cdS K f o → Wb 35 [some (.ref 0), some (.ref c), some (.int (nI f)), some (.int (nI ch)), some (.int (nI cd)), some (.int (nI rd)), some (.int (nI o + 1))] [] nf σ6 (tauY 0 lf) := fun h => by
        rw [swS_f h] at hW
        rw [← nI_succ]
        exact ih (o + 1) K ch cd σ6 (by omega) hcd hI hW
      have yes : cdS K f o → ∀ σ7 σ8 : am_Sg, σ7 = am_up σ6 (c + 8) o (σ6 (c + 8) o + 1) → (∀ o', o' < K 0 2 → σ8 30 o' = nI (s_dy (setK K 8 o (K 8 o + 1)) f o')) → σ8 29 1 = nI (s_de (setK K 8 o (K 8 o + 1)) f) → (∀ q, ¬ (29 ≤ q ∧ q ≤ 35) → σ8 q = σ7 q) → Wb 35 [some (.ref 0), some (.ref c), some (.int (nI f)), some (.int (nI ch + 1)), some (.int 1), some (.int (nI rd)), some (.int (nI o + 1))] [] nf σ8 (tauY 0 lf) := fun h σ7 σ8 e7 a1 a2 a3 => by
        rw [swS_t h] at hW
        rw [e8, ← nI_succ] at e7
        rw [← nI_succ, ← nI_succ]
        have h0 : setK K 8 o (K 8 o + 1) 0 = K 0 := setK_ne (by omega)
        have hR7 : RepX σ7 c (setK K 8 o (K 8 o + 1)) := by rw [e7]; exact hI.1.set (by omega)
        refine ih (o + 1) (setK K 8 o (K 8 o + 1)) (ch + 1) 1 σ8 (by rw [h0]; omega) (by omega) ⟨hR7.frame (fun q g1 g2 => a3 q (by omega)), hI.2.1.set (by omega) (show K 8 o + 1 ≤ 2 by have := h.2.2; omega), by rw [h0]; exact a1, a2, fun q g1 g2 => by rw [a3 q g1, e7, am_up_ne g2]; exact hI.2.2.2.2 q g1 g2⟩ hW
      have wf7 : cdS K f o → WfK (setK K 8 o (K 8 o + 1)) := fun h => hI.2.1.set (by omega) (show K 8 o + 1 ≤ 2 by have := h.2.2; omega)
      have h0 : setK K 8 o (K 8 o + 1) 0 = K 0 := setK_ne (by omega)
      have rep7 : ∀ σ7 : am_Sg, σ7 = am_up σ6 (c + 8) o (σ6 (c + 8) o + 1) → RepX σ7 c (setK K 8 o (K 8 o + 1)) := fun σ7 e7 => by
        rw [e8, ← nI_succ] at e7
        rw [e7]; exact hI.1.set (by omega)
      have q1 : σ6 (c + 9) o ≤ σ6 30 o ↔ ¬ s_dy K f o < K 9 o := by
        rw [e9, e30, nI_leI (by omega) (by omega)]
        omega
      have q2 : σ6 (c + 10) o = 0 ↔ K 10 o = 0 := by
        rw [e10]
        exact nI_eq (b := 0) (by omega) (by omega)
      have q3 : σ6 (c + 8) o = 2 ↔ ¬ K 8 o < 2 := by
        rw [e8]
        have := nI_eq (a := K 8 o) (b := 2) (by omega) (by omega)
        exact this.trans (by omega)
      rcases hc with rfl | rfl
      all_goals
        refine hs (fun p => Nat.beq p 17 || Nat.beq p 35) 90 35 _ _ _ _ _ (vc_f hle (And.intro (vin ho8) (And.intro (vin ho8) ?_)))
        rw [hcl]
        refine vc_if (fun c1 => no (fun h => q1.mp c1 h.1)) (fun c1 => And.intro (vin ho8) ?_)
        rw [hcl]
        refine vc_if (fun c2 => And.intro (vin ho8) ?_) (fun c2 => no (fun h => c2 (q2.mpr h.2.1)))
        rw [hcl]
        refine vc_if (fun c3 => no (fun h => q3.mp c3 h.2.2)) (fun c3 => And.intro (vin ho8) (And.intro (vin ho8) (fun σ7 e7 => ?_)))
        rw [hcl] at e7
        have hcd : cdS K f o := ⟨Decidable.not_not.mp (fun q => c1 (q1.mpr q)), q2.mp c2, Decidable.not_not.mp (fun q => c3 (q3.mpr q))⟩
        exact ⟨rfl, hn, 0, lf, 29, _, f, setK K 8 o (K 8 o + 1), rfl, rfl, by decide, by decide, rep7 σ7 e7, wf7 hcd, hf, fun σ8 a1 a2 a3 => yes hcd σ7 σ8 e7 (by rw [h0] at a1; exact a1) a2 a3⟩
  have k17 : ∀ m rd (K : KT) ch cd (σ6 : am_Sg) (x6 : Option Value), rd + m = 25 → cd ≤ 1 → InvS σ σ6 c f K → (∀ σ7, InvS σ σ7 c f (lpS f m K ch cd).1 → P (some (.int (nI (lpS f m K ch cd).2))) σ7 (tauY 0 lf)) → Wb 17 [some (.ref 0), some (.ref c), some (.int (nI f)), some (.int (nI ch)), some (.int (nI cd)), some (.int (nI rd)), x6] [] nf σ6 (tauY 0 lf) := by
    intro m
    induction m with
    | zero =>
      intro rd K ch cd σ6 x6 hrd hcd hI hW
      have hrd : rd = 25 := by omega
      subst hrd
      have hW9 := hW σ6 hI
      rcases hc with rfl | rfl
      all_goals exact hs (fun p => Nat.beq p 35) 60 17 _ _ _ _ _ (vc_if (fun c1 => And.intro rfl hW9) (fun c1 => vc_t (by decide) (And.intro rfl hW9)))
    | succ m ih =>
      intro rd K ch cd σ6 x6 hrd hcd hI hW
      have hlt : ¬ (24 : Int32) < nI rd := nI_nlt (a := 24) (b := rd) (by omega) (by omega)
      have z : cd = 0 → P (some (.int (nI ch))) σ6 (tauY 0 lf) := fun h => by
        have e : lpS f (m + 1) K ch cd = (K, ch) := if_pos h
        rw [e] at hW
        exact hW σ6 hI
      have nz : ¬ cd = 0 → Wb 35 [some (.ref 0), some (.ref c), some (.int (nI f)), some (.int (nI ch)), some (.int (nI 0)), some (.int (nI rd)), some (.int (nI 0))] [] nf σ6 (tauY 0 lf) := fun h => by
        have e : lpS f (m + 1) K ch cd = lpS f m (swS f (K 0 2) 0 K ch 0).1 (swS f (K 0 2) 0 K ch 0).2.1 (swS f (K 0 2) 0 K ch 0).2.2 := if_neg h
        rw [e] at hW
        exact k35 rd (K 0 2) 0 K ch 0 σ6 (by omega) (by omega) hI (fun σ7 x6 h7 => ih (rd + 1) _ _ _ σ7 x6 (by omega) (swS_cd _ _ _ _ _ (by omega)) h7 hW)
      have zc : nI cd = 0 ↔ cd = 0 := nI_eq (b := 0) (by omega) (by omega)
      rcases hc with rfl | rfl
      all_goals exact hs (fun p => Nat.beq p 35) 60 17 _ _ _ _ _ (vc_if (fun c1 => And.intro rfl (z (zc.mp c1))) (fun c1 => vc_f hlt (nz (fun h => c1 (zc.mpr h)))))
  have first : ∀ σ1 : am_Sg, (∀ o, o < K0 0 2 → σ1 30 o = nI (s_dy K0 f o)) → σ1 29 1 = nI (s_de K0 f) → (∀ q, ¬ (29 ≤ q ∧ q ≤ 35) → σ1 q = σ q) → Wb 17 [some (.ref 0), some (.ref c), some (.int (nI f)), some (.int (nI 0)), some (.int (nI 1)), some (.int (nI 0)), none] [] nf σ1 (tauY 0 lf) := fun σ1 a1 a2 a3 => k17 25 0 K0 0 1 σ1 none (by omega) (by omega) ⟨hR0.frame (fun q g1 g2 => a3 q (by omega)), hK0, a1, a2, fun q g1 _ => a3 q g1⟩ hP
  rcases hc with rfl | rfl
  all_goals exact hs (fun p => Nat.beq p 17) 60 0 _ _ _ _ _ ⟨rfl, hn, 0, lf, 29, _, f, K0, rfl, rfl, by decide, by decide, hR0, hK0, hf, fun σ1 a1 a2 a3 => first σ1 a1 a2 a3⟩)
