theorem ok59 : ∀ o, o < 9 → Nat.blt (59 + o) 155 = true ∧ Nat.beq (am_knd (59 + o)) 10 = true ∧ am_len (59 + o) = 11 := by decide +kernel
theorem ok69 : ∀ o, o < 9 → Nat.blt (69 + o) 155 = true ∧ Nat.beq (am_knd (69 + o)) 10 = true ∧ am_len (69 + o) = 11 := by decide +kernel
theorem ok79 : ∀ o, o < 24 → Nat.blt (79 + o) 155 = true ∧ Nat.beq (am_knd (79 + o)) 10 = true ∧ am_len (79 + o) = 11 := by decide +kernel
theorem ok45 : ∀ o, o < 8 → Nat.blt (45 + o) 155 = true ∧ Nat.beq (am_knd (45 + o)) 10 = true ∧ am_len (45 + o) = 3 := by decide +kernel
theorem gdr {q n : Nat} (h : Nat.blt q 155 = true) (h2 : Nat.beq (am_knd q) 10 = true) : (am_al 155 n q && Nat.beq (am_knd q) 10) = true := by
  unfold am_al
  rw [h, h2]
  rfl
theorem gdc {q n : Nat} (h : q = 54 ∨ (79 ≤ q ∧ q ≤ 102)) : (am_al 155 n q && Nat.beq (am_knd q) 10) = true ∧ am_len q = 11 := by
  rcases h with h | h
  · subst h
    exact ⟨gdr rfl rfl, rfl⟩
  · have := ok79 (q - 79) (by omega)
    rw [show 79 + (q - 79) = q by omega] at this
    exact ⟨gdr this.1 this.2.1, this.2.2⟩
theorem blt_t {i N : Nat} (h : i < N) : Nat.blt i N = true := Nat.ble_eq_true_of_le h
theorem t58 {i lf : Nat} (h : i < 9) : tauY 0 lf 58 i = 59 + i + 1 := by
  show (bif Nat.blt i 9 then 60 + i else 0) = _
  rw [blt_t h]
  show 60 + i = _
  omega
theorem t68 {i lf : Nat} (h : i < 9) : tauY 0 lf 68 i = 69 + i + 1 := by
  show (bif Nat.blt i 9 then 70 + i else 0) = _
  rw [blt_t h]
  show 70 + i = _
  omega
theorem t78 {i lf : Nat} (h : i < 24) : tauY 0 lf 78 i = 79 + i + 1 := by
  show (bif Nat.blt i 24 then 80 + i else 0) = _
  rw [blt_t h]
  show 80 + i = _
  omega
theorem t44 {i lf : Nat} (h : i < 8) : tauY 0 lf 44 i = 45 + i + 1 := by
  show (bif Nat.blt i 8 then 46 + i else 0) = _
  rw [blt_t h]
  show 46 + i = _
  omega
theorem aal {Pr : Nat → Prop} {t z : Nat} (h : t = z + 1) (x : Pr z) : ¬ t = 0 ∧ ∀ w : Nat, t = w + 1 → Pr w := ⟨by omega, fun w hw => by
  have : w = z := by omega
  subst this
  exact x⟩
def okFl (K Q : KT) (x o : Nat) : Prop := ∀ k, k < Q 0 0 → frm K o ≤ Q 1 k + 1 → Q 1 k < tom K o → sq K (frm K o) (cs K Q x o k).1 (Q 1 k + 1 - frm K o) = Q 4 k
def RowC (σ : am_Sg) (r : Nat) (K Q : KT) (Hn x o : Nat) : Prop := ∀ h, h < Hn → frm K o ≤ Q 1 h + 1 → σ r h = nI (cs K Q x o h).1
def LevC (σ : am_Sg) (K Q : KT) (Hn x o : Nat) : Prop := 0 < o → ∀ h, h < Hn → frm K o ≤ Q 1 h + 1 → σ (68 + o) h = nI (cs K Q x o h).2
def WlC (σ : am_Sg) (K Q : KT) (Hn x o : Nat) : Prop := ∀ h, h < Hn → tom K o ≤ Q 1 h → σ (59 + o) h = nI (wtr K Q x o h) ∧ σ (69 + o) h = nI (lvl K Q x o h)
def GgC (σ : am_Sg) (K Q : KT) (x o : Nat) : Prop := ∀ j, frm K o ≤ j + 1 → j < tom K o → σ 103 j = nI (sq K (frm K o) (cs K Q x o (Q 0 0)).1 (j + 1 - frm K o))
theorem lv_cs {K : KT} (hW : WfK K) {kd : Nat → Nat} {nt f o : Nat} (hf : f ≤ 9999) (ho : o < K 0 2) : levS K o (cst K (Tk K kd nt) f o).1 (cst K (Tk K kd nt) f o).2 ≤ 99999 := by
  rw [((chain hW kd nt f o (by omega)).2 ho).2]
  exact s_lv_le (hW.2.2.2.2.2.2.1 _ (hW.2.2.2.2.2.2.2.2.2 o ho).1).2.1 (Nat.le_trans (s_af_le _ _ _ _ _) hf)
def C_flowsOn : am_C := fun av n σ τ nf P => nf = n ∧ 155 ≤ n ∧ ∃ (lf o r x Hn : Nat) (K Q : KT), τ = tauY 0 lf ∧ av = [.ref 43, .ref 1, .int (nI o), .ref r, .int (nI (frm K o) - 1), .int (nI (tom K o))] ∧ (r = 54 ∨ (79 ≤ r ∧ r ≤ 102)) ∧ o ≤ K 0 2 ∧ WfK K ∧ RepX σ 1 K ∧ WH K Q Hn ∧ RepH σ Q Hn ∧ RowC σ r K Q Hn x o ∧ LevC σ K Q Hn x o ∧
  (okFl K Q x o → ∀ σ', WlC σ' K Q Hn x o → (Hn = Q 0 0 + 1 → GgC σ' K Q x o) → (∀ j, j + 1 < frm K o → σ' 103 j = σ 103 j) → (∀ q, ¬ q = 59 + o → ¬ q = 69 + o → ¬ q = 103 → σ' q = σ q) → P (some (.int 1)) σ' τ) ∧
  (¬ okFl K Q x o → ∀ σ', (∀ j, j + 1 < frm K o → σ' 103 j = σ 103 j) → (∀ q, ¬ q = 59 + o → ¬ q = 69 + o → ¬ q = 103 → σ' q = σ q) → P (some (.int 0)) σ' τ)
set_option maxRecDepth 100000 in
theorem M_flowsOn (d : Nat) : am_Met (d + 3) 610 C_flowsOn := am_meth (own0 := "CanalEnd$Worlds") 610 (d + 2) 155 T_X6_flowsOn (fun y => bif Nat.beq y 611 then C_flowOf else (bif Nat.beq y 6 then C_levelOf else (am_no))) C_flowsOn rfl F_X6_flowsOn rfl (by decide +kernel) Tc_X6_flowsOn (fun y => am_g (M_flowOf (d + 0)) (am_g (M_levelOf (d + 1)) (am_no_met))) (by
  intro av n σ τ nf P hnf hC
  obtain ⟨rfl, hn, lf, o, r, x, Hn, K, Q, rfl, rfl, hr, hoO, hW, hR, hH, hRH, hrow, hlev, hP, hQ⟩ := hC
  refine ⟨hn, rfl, Nat.le_of_ble_eq_true rfl, fun Wb hs => ?_⟩
  have hM := hW.2.1
  have hO8 := hW.2.2.1
  obtain ⟨w1, w2⟩ := hH.le
  have htl := tom_le hW o
  have hft := frm_tom hW hoO
  obtain ⟨gr, lr⟩ := gdc (n := nf) hr
  obtain ⟨a59, k59, l59⟩ := ok59 o (by omega)
  obtain ⟨a69, k69, l69⟩ := ok69 o (by omega)
  have hco : (nI o).toNatClampNeg = o := nI_clamp (by omega)
  have tN : o < K 0 2 → tom K o = K 5 o := fun g => if_pos g
  have tE : ¬ o < K 0 2 → tom K o = K 0 1 := fun g => if_neg g
  have k3 : ∀ m h (x7 : Option Value) (σ1 : am_Sg), h + m = Hn → (∀ k, k < h → k < Q 0 0 → frm K o ≤ Q 1 k + 1 → Q 1 k < tom K o → sq K (frm K o) (cs K Q x o k).1 (Q 1 k + 1 - frm K o) = Q 4 k) → (∀ k, k < h → tom K o ≤ Q 1 k → σ1 (59 + o) k = nI (wtr K Q x o k) ∧ σ1 (69 + o) k = nI (lvl K Q x o k)) → (h = Q 0 0 + 1 → GgC σ1 K Q x o) → (∀ j, j + 1 < frm K o → σ1 103 j = σ 103 j) → (∀ q, ¬ q = 59 + o → ¬ q = 69 + o → ¬ q = 103 → σ1 q = σ q) → Wb 3 [some (.ref 43), some (.ref 1), some (.int (nI o)), some (.ref r), some (.int (nI (frm K o) - 1)), some (.int (nI (tom K o))), some (.int (nI h)), x7] [] nf σ1 (tauY 0 lf) := by
    intro m
    induction m with
    | zero =>
      intro h x7 σ1 hm g1 g2 g3 g4 g5
      have hm : h = Hn := by omega
      subst hm
      have e5 : σ1 43 5 = nI h := by rw [g5 43 (by omega) (by omega) (by omega)]; exact hRH.2.1
      exact hs (fun p => Nat.beq p 3) 80 3 _ _ _ _ _ (vc_t (by rw [e5]; exact nI_le (Nat.le_refl _) (by omega)) (And.intro (Or.inr rfl) (And.intro rfl (hP (fun k hk => g1 k (by omega) hk) σ1 g2 g3 g4 g5))))
    | succ m ih =>
      intro h x7 σ1 hm g1 g2 g3 g4 g5
      have hh : h < Hn := by omega
      have hhR : h ≤ Q 0 0 := by
        have := hH.2.1
        omega
      obtain ⟨b1, b2, b3, b4⟩ := hH.2.2 h hh
      have e5 : σ1 43 5 = nI Hn := by rw [g5 43 (by omega) (by omega) (by omega)]; exact hRH.2.1
      have hR1 : RepX σ1 1 K := hR.frame (fun q h1 h2 => g5 q (by omega) (by omega) (by omega))
      have hRH1 : RepH σ1 Q Hn := hRH.fr (fun q hq => g5 q (by omega) (by omega) (by omega))
      have eM : σ1 1 1 = nI (K 0 1) := hR1.1 1 (by omega)
      have e56 : σ1 56 h = nI (Q 1 h) := (hRH1.2.2.1 h hh).2.2
      have erow : σ1 r h = σ r h := by rw [g5 r (by omega) (by omega) (by omega)]
      have hch : (nI h).toNatClampNeg = h := nI_clamp (by omega)
      have vh := fun q (e : am_len q = 11) => vin (j := h) (q := q) (by omega)
      have cl := cs_le (x := x) (o := o) hH hh
      -- the last: the row of water is written, and on
      have put : ∀ (v : Int32) (σ2 : am_Sg), (∀ q, ¬ q = 59 + o → ¬ q = 69 + o → ¬ q = 103 → σ2 q = σ q) → (∀ j, j + 1 < frm K o → σ2 103 j = σ 103 j) → (∀ k, ¬ k = h → σ2 (69 + o) k = σ1 (69 + o) k) → σ2 (59 + o) = σ1 (59 + o) → (h < Q 0 0 → frm K o ≤ Q 1 h + 1 → Q 1 h < tom K o → sq K (frm K o) (cs K Q x o h).1 (Q 1 h + 1 - frm K o) = Q 4 h) → (tom K o ≤ Q 1 h → v = nI (wtr K Q x o h) ∧ σ2 (69 + o) h = nI (lvl K Q x o h)) → (h = Q 0 0 → GgC σ2 K Q x o) → Wb 120 [some (.ref 43), some (.ref 1), some (.int (nI o)), some (.ref r), some (.int (nI (frm K o) - 1)), some (.int (nI (tom K o))), some (.int (nI h)), some (.int v)] [] nf σ2 (tauY 0 lf) := by
        intro v σ2 y1 y2 y3 y4 y5 y6 y7
        refine hs (fun p => Nat.beq p 3) 80 120 _ _ _ _ _ (And.intro (vin (show o < 9 by omega)) ?_)
        rw [hco]
        refine aal (t58 (by omega)) (vc_gd (gdr a59 k59) (And.intro (vh _ l59) (fun σ3 e3 => ?_)))
        rw [hch] at e3
        have e3 : σ3 = am_up σ2 (59 + o) h v := e3
        have h9 := ih (h + 1) (some (.int v)) σ3 (by omega) (fun k hk hkR f1 f2 => ?_) (fun k hk f1 => ?_) (fun e => ?_) (fun j hj => by rw [e3, up_rn (by omega)]; exact y2 j hj) (fun q z1 z2 z3 => by rw [e3, am_up_ne z1]; exact y1 q z1 z2 z3)
        · rw [nI_succ] at h9
          exact h9
        · by_cases e : k = h
          · subst e
            exact y5 hkR f1 f2
          · exact g1 k (by omega) hkR f1 f2
        · by_cases e : k = h
          · subst e
            obtain ⟨z1, z2⟩ := y6 f1
            exact ⟨by rw [e3, up_at, z1], by rw [e3, up_rn (by omega)]; exact z2⟩
          · obtain ⟨z1, z2⟩ := g2 k (by omega) f1
            exact ⟨by rw [e3, up_ne e, y4]; exact z1, by rw [e3, up_rn (by omega), y3 k e]; exact z2⟩
        · have := y7 (by omega)
          intro j f1 f2
          rw [e3, up_rn (by omega)]
          exact this j f1 f2
      refine hs (fun p => Nat.beq p 3 || Nat.beq p 120 || Nat.beq p 90) 90 3 _ _ _ _ _ (vc_f (by rw [e5]; exact nI_ge (by omega) (by omega)) (vc_gd gr (And.intro (vh r lr) ?_)))
      rw [hch, erow]
      refine vc_if (fun c => ?_) (fun c => And.intro (vh 56 rfl) ?_)
      · -- the same mile
        have et : frm K o = tom K o + 1 := by
          have e := congrArg Int32.toInt c
          rw [jj_t (by omega), nI_toInt (by omega)] at e
          omega
        have o0 : 0 < o := by
          by_cases e : o = 0
          · rw [e] at et
            have : frm K 0 = 0 := rfl
            omega
          · omega
        have oO : o < K 0 2 := by
          by_cases e : o < K 0 2
          · exact e
          · have := frm_leM hW hoO
            rw [tE e] at et
            omega
        have sm : smM K o := by
          rw [tN oO] at et
          unfold frm at et
          rw [if_neg (by omega)] at et
          exact ⟨o0, by omega⟩
        obtain ⟨a69', k69', l69'⟩ := ok69 (o - 1) (by omega)
        have e1 : nI o - 1 = nI (o - 1) := pk_sub (b := 1) o0
        refine And.intro (vin (show o < 9 by omega)) ?_
        rw [hco]
        refine aal (t68 (by omega)) (vc_f (nI_nle o0 (by omega)) (And.intro (by rw [e1]; exact vin (show o - 1 < 9 by omega)) ?_))
        rw [e1, nI_clamp (by omega)]
        refine aal (t68 (by omega)) (vc_gd (gdr a69' k69') (And.intro (vh _ l69') (vc_gd (gdr a69 k69) (And.intro (vh _ l69) (fun σ2 e2 => ?_)))))
        rw [hch] at e2
        have e2 : σ2 = am_up σ1 (69 + o) h (σ1 (69 + (o - 1)) h) := e2
        refine put (σ r h) σ2 (fun q z1 z2 z3 => by rw [e2, am_up_ne z2]; exact g5 q z1 z2 z3) (fun j hj => by rw [e2, up_rn (by omega)]; exact g4 j hj) (fun k hk => by rw [e2, up_ne hk]) (by rw [e2, am_up_ne (by omega)]) (fun _ f1 f2 => absurd f2 (by omega)) (fun f1 => ⟨?_, ?_⟩) (fun e j f1 f2 => absurd f2 (by omega))
        · rw [hrow h hh (by omega)]
          unfold wtr watS
          rw [if_pos sm]
        · rw [e2, up_at, show 69 + (o - 1) = 68 + o by omega, g5 (68 + o) (by omega) (by omega) (by omega), hlev o0 h hh (by omega)]
          unfold lvl levS
          rw [if_pos sm]
      · rw [hch, e56]
        have ne : ¬ frm K o = tom K o + 1 := fun q => c (by rw [q]; exact nI_pred _)
        have nsm : o < K 0 2 → ¬ smM K o := fun g q => by
          apply ne
          unfold frm
          rw [if_neg (by have := q.1; omega), q.2, tN g]
        refine vc_if (fun c2 => ?_) (fun c2 => ?_)
        · have c2 : Q 1 h + 1 < frm K o := by
            rw [i_lt, jj_t (by omega), nI_toInt (by omega)] at c2
            omega
          exact put (σ r h) σ1 g5 g4 (fun _ _ => rfl) rfl (fun _ f1 _ => absurd f1 (by omega)) (fun f1 => absurd f1 (by omega)) (fun e => by
            have := hH.2.1
            have := hH.2.2 h hh
            rw [e] at c2
            have h3 := frm_leM hW hoO
            omega)
        · have c2 : frm K o ≤ Q 1 h + 1 := by
            rw [i_lt, jj_t (by omega), nI_toInt (by omega)] at c2
            omega
          rw [hrow h hh c2]
          -- behind the flow: the level, then the water
          have lvv : ∀ (v : Nat) (σ2 : am_Sg), v ≤ 9999 → (∀ q, ¬ q = 59 + o → ¬ q = 69 + o → ¬ q = 103 → σ2 q = σ q) → (∀ j, j + 1 < frm K o → σ2 103 j = σ 103 j) → σ2 (59 + o) = σ1 (59 + o) → σ2 (69 + o) = σ1 (69 + o) → (h < Q 0 0 → Q 1 h < tom K o → sq K (frm K o) (cs K Q x o h).1 (Q 1 h + 1 - frm K o) = Q 4 h) → (tom K o ≤ Q 1 h → v = wtr K Q x o h) → (h = Q 0 0 → GgC σ2 K Q x o) → Wb 90 [some (.ref 43), some (.ref 1), some (.int (nI o)), some (.ref r), some (.int (nI (frm K o) - 1)), some (.int (nI (tom K o))), some (.int (nI h)), some (.int (nI v))] [] nf σ2 (tauY 0 lf) := by
            intro v σ2 hv y1 y2 y3 y4 y5 y6 y7
            have hR2 : RepX σ2 1 K := hR.frame (fun q h1 h2 => y1 q (by omega) (by omega) (by omega))
            have eM2 : σ2 1 1 = nI (K 0 1) := hR2.1 1 (by omega)
            have fin9 : ∀ (w : Int32) (σ3 : am_Sg), σ3 = am_up σ2 (69 + o) h w → (tom K o ≤ Q 1 h → w = nI (lvl K Q x o h)) → Wb 120 [some (.ref 43), some (.ref 1), some (.int (nI o)), some (.ref r), some (.int (nI (frm K o) - 1)), some (.int (nI (tom K o))), some (.int (nI h)), some (.int (nI v))] [] nf σ3 (tauY 0 lf) := by
              intro w σ3 e3 hw
              exact put (nI v) σ3 (fun q z1 z2 z3 => by rw [e3, am_up_ne z2]; exact y1 q z1 z2 z3) (fun j hj => by rw [e3, up_rn (by omega)]; exact y2 j hj) (fun k hk => by rw [e3, up_ne hk, y4]) (by rw [e3, am_up_ne (by omega), y3]) (fun z1 _ z2 => y5 z1 z2) (fun f1 => ⟨by rw [y6 f1], by rw [e3, up_at]; exact hw f1⟩) (fun e j f1 f2 => by rw [e3, up_rn (by omega)]; exact y7 e j f1 f2)
            refine hs (fun p => Nat.beq p 120) 80 90 _ _ _ _ _ (And.intro (vin (show o < 9 by omega)) ?_)
            rw [hco]
            refine aal (t68 (by omega)) (vc_if (fun q => vc_gd (gdr a69 k69) (And.intro (vh _ l69) (fun σ3 e3 => ?_))) (fun q => ?_))
            · rw [hch] at e3
              rw [eM2] at q
              have q := (nI_leI (by omega) (by omega)).mp q
              exact fin9 0 σ3 e3 (fun f1 => absurd f1 (by omega))
            · rw [eM2] at q
              have q : tom K o < K 0 1 := by
                by_cases q9 : tom K o < K 0 1
                · exact q9
                · exact absurd (nI_le (by omega) (by omega)) q
              have oO : o < K 0 2 := by
                by_cases e : o < K 0 2
                · exact e
                · rw [tE e] at q
                  omega
              refine ⟨rfl, hn, 0, lf, 1, tom K o, v, K, rfl, rfl, by decide, hR2, hW, q, hv, vc_gd (gdr a69 k69) (And.intro (vh _ l69) (fun σ3 e3 => ?_))⟩
              rw [hch] at e3
              refine fin9 _ σ3 e3 (fun f1 => ?_)
              rw [y6 f1]
              unfold lvl levS
              rw [if_neg (nsm oO), tN oO]
              rfl
          have fm1 : frm K o ≤ tom K o := by omega
          have wv : tom K o ≤ Q 1 h → o < K 0 2 ∧ sq K (frm K o) (cs K Q x o h).1 (tom K o + 1 - frm K o) = wtr K Q x o h := fun f1 => by
            have oO : o < K 0 2 := by
              by_cases e : o < K 0 2
              · exact e
              · rw [tE e] at f1
                omega
            refine ⟨oO, ?_⟩
            unfold wtr watS
            rw [if_neg (nsm oO), tN oO]
          have sql := fun n => sq_le (K := K) (j := frm K o) (w := (cs K Q x o h).1) n
          refine ⟨rfl, hn, lf, h, (cs K Q x o h).1, frm K o, tom K o, Hn, K, Q, rfl, rfl, hW, hR1, hH, hRH1, cl, fm1, htl, hh, c2, fun z1 z2 z3 => vc_t (nI_pos' (by have := b4 z1; omega)) ?_, fun z1 z2 z3 => vc_f (by decide) (And.intro (Or.inl rfl) (And.intro rfl ?_)), fun z1 z2 => vc_t (nI_pos' (by have := sql (tom K o + 1 - frm K o); omega)) ?_, fun z1 σ2 y1 y2 y3 => vc_t (nI_pos' (by have := sql (min (tom K o + 1) (K 0 1) - frm K o); omega)) ?_⟩
          · exact lvv (Q 4 h) σ1 (b4 z1) g5 g4 rfl rfl (fun _ _ => z3) (fun f1 => absurd f1 (by omega)) (fun e => absurd e (by omega))
          · exact hQ (fun q => z3 (q h z1 c2 z2)) σ1 g4 g5
          · exact lvv _ σ1 (by have := sql (tom K o + 1 - frm K o); omega) g5 g4 rfl rfl (fun _ w => absurd w (by omega)) (fun f1 => (wv f1).2) (fun e => absurd e (by omega))
          · refine lvv (sq K (frm K o) (cs K Q x o h).1 (min (tom K o + 1) (K 0 1) - frm K o)) σ2 (by have := sql (min (tom K o + 1) (K 0 1) - frm K o); omega) (fun q a1 a2 a3 => by rw [y3 q a3]; exact g5 q a1 a2 a3) (fun j hj => by rw [y2 j hj]; exact g4 j hj) (y3 _ (by omega)) (y3 _ (by omega)) (fun w => absurd w (by omega)) (fun f1 => ?_) (fun e j f1 f2 => by rw [← z1]; exact y1 j f1 f2)
            obtain ⟨w8, w9⟩ := wv f1
            rw [show min (tom K o + 1) (K 0 1) = tom K o + 1 by rw [tN w8]; have := (hW.2.2.2.2.2.2.2.2.2 o w8).1; omega]
            exact w9
  exact hs (fun p => Nat.beq p 3) 80 0 _ _ _ _ _ (k3 Hn 0 none σ (by omega) (fun k hk => absurd hk (Nat.not_lt_zero k)) (fun k hk => absurd hk (Nat.not_lt_zero k)) (fun e => absurd e (by omega)) (fun _ _ => rfl) (fun _ _ _ _ => rfl)))
