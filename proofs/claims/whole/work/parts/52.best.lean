def bk (K : KT) (f s : Nat) : Nat → Nat → Int32 × Int32 → Int32 × Int32
  | 0, _, p => p
  | r + 1, k, p => bk K f s r (k + 1) (if nI (endA K s k f) ≤ p.1 then p else (nI (endA K s k f), nI (100 * s + k)))
def mnS (K : KT) (s : Nat) : Nat := if s = 0 then K 0 2 else K 0 1
def bs (K : KT) (f : Nat) : Nat → Nat → Int32 × Int32 → Int32 × Int32
  | 0, _, p => p
  | m + 1, s, p => bs K f m (s + 1) (bk K f s (mnS K s) 0 p)
def f_best (f : Int32) (t : ST) : Value × ST := (.int (if inN f 10000 then (if t.1 0 1 = 0 then -3 else (bs t.1 f.toNatClampNeg 3 0 (-1, -9)).2) else -2), t)
def C_xbest : am_C := fun av n σ τ nf P => ∃ (f : Int32), pubX [.int f] (f_best f) av n σ τ nf P
set_option maxRecDepth 100000 in
theorem M_xbest (d : Nat) : am_Met (d + 6) 722 C_xbest := am_meth (own0 := "CanalEnd") 722 (d + 5) 155 T_X7_best (fun y => bif Nat.beq y 741 then C_isWater else (bif Nat.beq y 745 then C_isCanal else (bif Nat.beq y 753 then C_endAfter else (am_no)))) C_xbest rfl F_X7_best rfl (by decide +kernel) Tc_X7_best (fun y => am_g (M_isWater (d + 3)) (am_g (M_isCanal (d + 4)) (am_g (M_endAfter (d + 0)) (am_no_met)))) (by
  intro av n σ τ nf P hnf hC
  obtain ⟨f, rfl, lf, ⟨K, Q, S, Ce, fl, tr⟩, rfl, hI, rfl, hP⟩ := hC
  have hn := Nlf_le hI.2.2.2.2.2.2.2.2.2
  refine ⟨hn, rfl, Nat.le_of_ble_eq_true rfl, fun Wb hs => ?_⟩
  have hI : InvX σ nf lf K Q S Ce fl tr := hI
  have hK := hI.1
  have hR := hI.2.1
  have hM10 := hK.2.1
  have hO8 := hK.2.2.1
  have eM : σ 1 1 = nI (K 0 1) := hR.1 1 (by omega)
  have eO : σ 1 2 = nI (K 0 2) := hR.1 2 (by omega)
  have fin : ∀ r9 : Int32, (f_best f (K, Q, S, Ce, fl, tr)).2 = (K, Q, S, Ce, fl, tr) → (f_best f (K, Q, S, Ce, fl, tr)).1 = .int r9 → P (some (.int r9)) σ (tauY 0 lf) := fun r9 e1 e2 => p_eqv e2 (hP σ (by rw [e1]; exact hI) (fun _ _ => fun _ => rfl))
  have fin2 : ∀ (v9 : Value) (K9 Q9 S9 : KT) (Ce9 : Nat → Nat → Int32) (fl9 : Nat) (tr9 : Int32) (σ9 : am_Sg), f_best f (K, Q, S, Ce, fl, tr) = (v9, (K9, Q9, S9, Ce9, fl9, tr9)) → InvX σ9 nf lf K9 Q9 S9 Ce9 fl9 tr9 → FrX σ σ9 → P (some v9) σ9 (tauY 0 lf) := fun v9 K9 Q9 S9 Ce9 fl9 tr9 σ9 e h1 h2 => by have := hP σ9 (by rw [e]; exact h1) h2; rw [e] at this; exact this
  have main : ∀ u : Nat, u < 10000 → f = nI u → ¬ K 0 1 = 0 → inN f 10000 → Wb 28 [some (.ref 0), some (.int (nI u)), some (.int ((-1, -9) : Int32 × Int32).1), some (.int ((-1, -9) : Int32 × Int32).2), some (.int (nI 0)), none, none, none] [] nf σ (tauY 0 lf) := by
    intro u hu hfu hnz gf
    have hpos : 0 < K 0 1 := by omega
    have hcu : f.toNatClampNeg = u := by rw [hfu]; exact nI_clamp (by omega)
    have kin : ∀ s mn, s ≤ 2 → mn = mnS K s → mn ≤ 10 → ∀ r k (p : Int32 × Int32) (x7 : Option Value) (σ3 : am_Sg), k + r = mn → InvX σ3 nf lf K Q S Ce fl tr → FrX σ σ3 → (∀ (σ4 : am_Sg) (x5 x6 x7 : Option Value), InvX σ4 nf lf K Q S Ce fl tr → FrX σ σ4 → Wb 28 [some (.ref 0), some (.int (nI u)), some (.int (bk K u s r k p).1), some (.int (bk K u s r k p).2), some (.int (nI (s + 1))), x5, x6, x7] [] nf σ4 (tauY 0 lf)) → Wb 61 [some (.ref 0), some (.int (nI u)), some (.int p.1), some (.int p.2), some (.int (nI s)), some (.int (nI mn)), some (.int (nI k)), x7] [] nf σ3 (tauY 0 lf) := by
      intro s mn hs2 hmn hm10 r
      induction r with
      | zero =>
        intro k p x7 σ3 hk h3 hf3 hW
        have hk : k = mn := by omega
        subst hk
        have h9 := hW σ3 (some (.int (nI k))) (some (.int (nI k))) x7 h3 hf3
        rw [nI_succ s] at h9
        exact hs (fun p => Nat.beq p 28 || Nat.beq p 61) 60 61 _ _ _ _ _ (vc_t (nI_le (Nat.le_refl _) (by omega)) h9)
      | succ r ih =>
        intro k p x7 σ3 hk h3 hf3 hW
        refine hs (fun p => Nat.beq p 28 || Nat.beq p 61) 60 61 _ _ _ _ _ (vc_f (nI_ge (by omega) (by omega)) ⟨rfl, hn, lf, s, k, u, K, rfl, rfl, hs2, fun q => by rw [hmn] at hk; unfold mnS at hk; rw [if_pos q] at hk; omega, fun q => by rw [hmn] at hk; unfold mnS at hk; rw [if_neg q] at hk; omega, h3.2.1, hK, h3.2.2.2.2.2.2.2.2.1, by omega, fun σ4 a1 a2 => ?_⟩)
        have h4 := h3.keep (fun q hq => a2 q (by unfold Pq at hq; omega) (by unfold Pq at hq; omega)) a1
        have hf4 : FrX σ σ4 := fun q g1 g2 => by rw [a2 q (by omega) (by omega)]; exact hf3 q g1 g2
        refine vc_if (fun c => ?_) (fun c => ?_)
        · have e : bk K u s (r + 1) k p = bk K u s r (k + 1) p := by
            show bk K u s r (k + 1) (if nI (endA K s k u) ≤ p.1 then p else _) = _
            rw [if_pos c]
          rw [e] at hW
          have h9 := ih (k + 1) p (some (.int (nI (endA K s k u)))) σ4 (by omega) h4 hf4 hW
          rw [nI_succ k] at h9
          exact h9
        · have e : bk K u s (r + 1) k p = bk K u s r (k + 1) (nI (endA K s k u), nI (100 * s + k)) := by
            show bk K u s r (k + 1) (if nI (endA K s k u) ≤ p.1 then p else _) = _
            rw [if_neg c]
          rw [e] at hW
          have h9 := ih (k + 1) (nI (endA K s k u), nI (100 * s + k)) (some (.int (nI (endA K s k u)))) σ4 (by omega) h4 hf4 hW
          rw [nI_succ k] at h9
          rw [show nI (100 * s + k) = (100 : Int32) * nI s + nI k from (i100 s k).symm] at h9
          exact h9
    have kout : ∀ m s (p : Int32 × Int32) (x5 x6 x7 : Option Value) (σ3 : am_Sg), s + m = 3 → InvX σ3 nf lf K Q S Ce fl tr → FrX σ σ3 → bs K u m s p = bs K u 3 0 (-1, -9) → Wb 28 [some (.ref 0), some (.int (nI u)), some (.int p.1), some (.int p.2), some (.int (nI s)), x5, x6, x7] [] nf σ3 (tauY 0 lf) := by
      intro m
      induction m with
      | zero =>
        intro s p x5 x6 x7 σ3 hm h3 hf3 hp
        have hm : s = 3 := by omega
        subst hm
        have hp : p = bs K u 3 0 (-1, -9) := hp
        refine hs (fun p => Nat.beq p 61) 60 28 _ _ _ _ _ (vc_t (by decide) (And.intro rfl ?_))
        exact fin2 _ K Q S Ce fl tr σ3 (by unfold f_best; rw [if_pos gf, if_neg hnz, hcu, ← hp]) h3 hf3
      | succ m ih =>
        intro s p x5 x6 x7 σ3 hm h3 hf3 hp
        have e2 : σ3 1 2 = nI (K 0 2) := h3.2.1.1 2 (by omega)
        have e1 : σ3 1 1 = nI (K 0 1) := h3.2.1.1 1 (by omega)
        refine hs (fun p => Nat.beq p 61) 60 28 _ _ _ _ _ (vc_f (nI_ge (b := 3) (by omega) (by omega)) (vc_if (fun c => ?_) (fun c => ?_)))
        · have c := nI_inj (b := 0) (by omega) (by omega) c
          have em : mnS K s = K 0 2 := if_pos c
          have h9 := kin s (K 0 2) (by omega) em.symm (by omega) (K 0 2) 0 p x7 σ3 (by omega) h3 hf3 (fun σ4 y5 y6 y7 h4 hf4 => ih (s + 1) _ y5 y6 y7 σ4 (by omega) h4 hf4 (by rw [← hp]; show _ = bs K u m (s + 1) (bk K u s (mnS K s) 0 p); rw [em]))
          rw [← e2] at h9
          exact h9
        · have c : ¬ s = 0 := fun q => c (by rw [q]; rfl)
          have em : mnS K s = K 0 1 := if_neg c
          have h9 := kin s (K 0 1) (by omega) em.symm (by omega) (K 0 1) 0 p x7 σ3 (by omega) h3 hf3 (fun σ4 y5 y6 y7 h4 hf4 => ih (s + 1) _ y5 y6 y7 σ4 (by omega) h4 hf4 (by rw [← hp]; show _ = bs K u m (s + 1) (bk K u s (mnS K s) 0 p); rw [em]))
          rw [← e1] at h9
          exact h9
    exact kout 3 0 (-1, -9) none none none σ rfl hI (fun _ _ _ => rfl) rfl
  refine hs (fun p => Nat.beq p 28) 60 0 _ _ _ _ _ ⟨rfl, f, rfl, fun g => ?_, fun g => vc_t rfl (And.intro rfl (fin _ rfl (congrArg Value.int (by rw [if_neg g]))))⟩
  obtain ⟨u, hu, e⟩ := inN_ex g
  have mm := fun c => main u hu e c g
  rw [← e] at mm
  exact vc_f (by decide) ⟨rfl, hn, lf, K 0 1, rfl, rfl, eM, by omega, fun c => vc_t rfl (And.intro rfl (fin _ rfl (congrArg Value.int (by rw [if_pos g, if_pos c])))), fun c => vc_f (by decide) (mm c)⟩)
def C_mbest : am_C := fun av n σ τ nf P => ∃ (f : Int32), pubM [.int f] (f_best f) av n σ τ nf P
set_option maxRecDepth 100000 in
theorem M_mbest (d : Nat) : am_Met (d + 6) 849 C_mbest := am_meth (own0 := "CanalEndModel") 849 (d + 5) 155 T_X8_best (fun y => bif Nat.beq y 823 then C_mWater else (bif Nat.beq y 847 then C_brought else (am_no))) C_mbest rfl F_X8_best rfl (by decide +kernel) Tc_X8_best (fun y => am_g (M_mWater (d + 3)) (am_g (M_brought (d + 0)) (am_no_met))) (by
  intro av n σ τ nf P hnf hC
  obtain ⟨f, rfl, hn, lf, ⟨K, Q, S, Ce, fl, tr⟩, rfl, hI, rfl, hP⟩ := hC
  refine ⟨hn, rfl, Nat.le_of_ble_eq_true rfl, fun Wb hs => ?_⟩
  have hI : InvM σ K Q S Ce fl tr := hI
  have hK := hI.1
  have hR := hI.2.1
  have hM10 := hK.2.1
  have hO8 := hK.2.2.1
  have eM := hR.2.1
  have eO := hR.2.2.1
  have fin : ∀ r9 : Int32, (f_best f (K, Q, S, Ce, fl, tr)).2 = (K, Q, S, Ce, fl, tr) → (f_best f (K, Q, S, Ce, fl, tr)).1 = .int r9 → P (some (.int r9)) σ (tauY 0 lf) := fun r9 e1 e2 => p_eqv e2 (hP σ (by rw [e1]; exact hI) (fun _ _ => rfl))
  have fin2 : ∀ (v9 : Value) (K9 Q9 S9 : KT) (Ce9 : Nat → Nat → Int32) (fl9 : Nat) (tr9 : Int32) (σ9 : am_Sg), f_best f (K, Q, S, Ce, fl, tr) = (v9, (K9, Q9, S9, Ce9, fl9, tr9)) → InvM σ9 K9 Q9 S9 Ce9 fl9 tr9 → FrM σ σ9 → P (some v9) σ9 (tauY 0 lf) := fun v9 K9 Q9 S9 Ce9 fl9 tr9 σ9 e h1 h2 => by have := hP σ9 (by rw [e]; exact h1) h2; rw [e] at this; exact this
  have main : ∀ u : Nat, u < 10000 → f = nI u → ¬ K 0 1 = 0 → inN f 10000 → Wb 28 [some (.ref 116), some (.int (nI u)), some (.int ((-1, -9) : Int32 × Int32).2), some (.int ((-1, -9) : Int32 × Int32).1), some (.int (nI 0)), none, none, none] [] nf σ (tauY 0 lf) := by
    intro u hu hfu hnz gf
    have hpos : 0 < K 0 1 := by omega
    have hcu : f.toNatClampNeg = u := by rw [hfu]; exact nI_clamp (by omega)
    have kin : ∀ s mn, s ≤ 2 → mn = mnS K s → mn ≤ 10 → ∀ r k (p : Int32 × Int32) (x7 : Option Value) (σ3 : am_Sg), k + r = mn → InvM σ3 K Q S Ce fl tr → FrM σ σ3 → (∀ (σ4 : am_Sg) (x5 x6 x7 : Option Value), InvM σ4 K Q S Ce fl tr → FrM σ σ4 → Wb 28 [some (.ref 116), some (.int (nI u)), some (.int (bk K u s r k p).2), some (.int (bk K u s r k p).1), some (.int (nI (s + 1))), x5, x6, x7] [] nf σ4 (tauY 0 lf)) → Wb 55 [some (.ref 116), some (.int (nI u)), some (.int p.2), some (.int p.1), some (.int (nI s)), some (.int (nI mn)), some (.int (nI k)), x7] [] nf σ3 (tauY 0 lf) := by
      intro s mn hs2 hmn hm10 r
      induction r with
      | zero =>
        intro k p x7 σ3 hk h3 hf3 hW
        have hk : k = mn := by omega
        subst hk
        have h9 := hW σ3 (some (.int (nI k))) (some (.int (nI k))) x7 h3 hf3
        rw [nI_succ s] at h9
        exact hs (fun p => Nat.beq p 28 || Nat.beq p 55) 60 55 _ _ _ _ _ (vc_t (nI_le (Nat.le_refl _) (by omega)) h9)
      | succ r ih =>
        intro k p x7 σ3 hk h3 hf3 hW
        refine hs (fun p => Nat.beq p 28 || Nat.beq p 55) 60 55 _ _ _ _ _ (vc_f (nI_ge (by omega) (by omega)) ⟨rfl, hn, lf, s, k, u, K, rfl, rfl, hs2, fun q => by rw [hmn] at hk; unfold mnS at hk; rw [if_pos q] at hk; omega, fun q => by rw [hmn] at hk; unfold mnS at hk; rw [if_neg q] at hk; omega, h3.2.1, hK, hpos, by omega, fun σ4 a1 a2 a3 => ?_⟩)
        have h4 := h3.bro a1 a2 a3
        have hf4 : FrM σ σ4 := fun q g1 => by rw [a2 q (by unfold FrB; omega)]; exact hf3 q g1
        refine vc_if (fun c => ?_) (fun c => ?_)
        · have e : bk K u s (r + 1) k p = bk K u s r (k + 1) p := by
            show bk K u s r (k + 1) (if nI (endA K s k u) ≤ p.1 then p else _) = _
            rw [if_pos c]
          rw [e] at hW
          have h9 := ih (k + 1) p (some (.int (nI (endA K s k u)))) σ4 (by omega) h4 hf4 hW
          rw [nI_succ k] at h9
          exact h9
        · have e : bk K u s (r + 1) k p = bk K u s r (k + 1) (nI (endA K s k u), nI (100 * s + k)) := by
            show bk K u s r (k + 1) (if nI (endA K s k u) ≤ p.1 then p else _) = _
            rw [if_neg c]
          rw [e] at hW
          have h9 := ih (k + 1) (nI (endA K s k u), nI (100 * s + k)) (some (.int (nI (endA K s k u)))) σ4 (by omega) h4 hf4 hW
          rw [nI_succ k] at h9
          rw [show nI (100 * s + k) = (100 : Int32) * nI s + nI k from (i100 s k).symm] at h9
          exact h9
    have kout : ∀ m s (p : Int32 × Int32) (x5 x6 x7 : Option Value) (σ3 : am_Sg), s + m = 3 → InvM σ3 K Q S Ce fl tr → FrM σ σ3 → bs K u m s p = bs K u 3 0 (-1, -9) → Wb 28 [some (.ref 116), some (.int (nI u)), some (.int p.2), some (.int p.1), some (.int (nI s)), x5, x6, x7] [] nf σ3 (tauY 0 lf) := by
      intro m
      induction m with
      | zero =>
        intro s p x5 x6 x7 σ3 hm h3 hf3 hp
        have hm : s = 3 := by omega
        subst hm
        have hp : p = bs K u 3 0 (-1, -9) := hp
        refine hs (fun p => Nat.beq p 55) 60 28 _ _ _ _ _ (vc_t (by decide) (And.intro rfl ?_))
        exact fin2 _ K Q S Ce fl tr σ3 (by unfold f_best; rw [if_pos gf, if_neg hnz, hcu, ← hp]) h3 hf3
      | succ m ih =>
        intro s p x5 x6 x7 σ3 hm h3 hf3 hp
        have e2 : σ3 116 7 = nI (K 0 2) := h3.2.1.2.2.1
        have e1 : σ3 116 6 = nI (K 0 1) := h3.2.1.2.1
        refine hs (fun p => Nat.beq p 55) 60 28 _ _ _ _ _ (vc_f (nI_ge (b := 3) (by omega) (by omega)) (vc_if (fun c => ?_) (fun c => ?_)))
        · have c := nI_inj (b := 0) (by omega) (by omega) c
          have em : mnS K s = K 0 2 := if_pos c
          have h9 := kin s (K 0 2) (by omega) em.symm (by omega) (K 0 2) 0 p x7 σ3 (by omega) h3 hf3 (fun σ4 y5 y6 y7 h4 hf4 => ih (s + 1) _ y5 y6 y7 σ4 (by omega) h4 hf4 (by rw [← hp]; show _ = bs K u m (s + 1) (bk K u s (mnS K s) 0 p); rw [em]))
          rw [← e2] at h9
          exact h9
        · have c : ¬ s = 0 := fun q => c (by rw [q]; rfl)
          have em : mnS K s = K 0 1 := if_neg c
          have h9 := kin s (K 0 1) (by omega) em.symm (by omega) (K 0 1) 0 p x7 σ3 (by omega) h3 hf3 (fun σ4 y5 y6 y7 h4 hf4 => ih (s + 1) _ y5 y6 y7 σ4 (by omega) h4 hf4 (by rw [← hp]; show _ = bs K u m (s + 1) (bk K u s (mnS K s) 0 p); rw [em]))
          rw [← e1] at h9
          exact h9
    exact kout 3 0 (-1, -9) none none none σ rfl hI (fun _ _ => rfl) rfl
  refine hs (fun p => Nat.beq p 28) 60 0 _ _ _ _ _ ⟨rfl, f, rfl, fun g => ?_, fun g => vc_t rfl (And.intro rfl (fin _ rfl (congrArg Value.int (by rw [if_neg g]))))⟩
  obtain ⟨u, hu, e⟩ := inN_ex g
  have mm := fun c => main u hu e c g
  rw [← e] at mm
  refine vc_f (by decide) (vc_if (fun c => ?_) (fun c => ?_))
  · rw [eM] at c
    have c := nI_inj (b := 0) (by omega) (by omega) c
    exact (And.intro rfl (fin _ rfl (congrArg Value.int (by rw [if_pos g, if_pos c]))))
  · rw [eM] at c
    exact mm (fun q => c (by rw [q]; rfl)))
