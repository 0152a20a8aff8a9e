def rowS (S : KT) (k : Nat) (r : Nat → Nat) : KT := fun a => if a = k then r else S a
def rowC (Ce : Nat → Nat → Int32) (k : Nat) (r : Nat → Int32) : Nat → Nat → Int32 := fun a => if a = k then r else Ce a
theorem rowS_at {S : KT} {k : Nat} {r : Nat → Nat} : rowS S k r k = r := if_pos rfl
theorem rowS_ne {S : KT} {k a : Nat} {r : Nat → Nat} (h : ¬ a = k) : rowS S k r a = S a := if_neg h
theorem rowC_at {S : Nat → Nat → Int32} {k : Nat} {r : Nat → Int32} : rowC S k r k = r := if_pos rfl
theorem rowC_ne {S : Nat → Nat → Int32} {k a : Nat} {r : Nat → Int32} (h : ¬ a = k) : rowC S k r a = S a := if_neg h
def RwX (σ : am_Sg) (k : Nat) (s : Nat → Nat) (c : Nat → Int32) : Prop := σ (108 + 2 * k) 0 = nI (s 0) ∧ σ (108 + 2 * k) 1 = nI (s 1) ∧ σ (108 + 2 * k) 3 = nI (s 2) ∧ ∀ i, i < 100 → σ (109 + 2 * k) i = c i
def RwM (σ : am_Sg) (k : Nat) (s : Nat → Nat) (c : Nat → Int32) : Prop := σ 117 k = (if s 0 = 0 then -9 else nI (s 1)) ∧ σ 118 k = nI (s 2) ∧ ∀ i, i < 100 → σ 119 (100 * k + i) = c i
theorem InvX.sh {σ σ' : am_Sg} {n lf : Nat} {K Q S : KT} {Ce : Nat → Nat → Int32} {fl : Nat} {tr : Int32} {k : Nat} {s : Nat → Nat} {c : Nat → Int32} (h : InvX σ n lf K Q S Ce fl tr) (hk : k < 4) (hw : s 0 ≤ 1 ∧ s 1 ≤ 2 ∧ s 2 ≤ 100) (hr : RwX σ' k s c) (hf : ∀ q, ¬ q = 108 + 2 * k → ¬ q = 109 + 2 * k → σ' q = σ q) : InvX σ' n lf K Q (rowS S k s) (rowC Ce k c) fl tr := by
  obtain ⟨h1, h2, h3, h4, h5, h6, h7, h8, h9, h10⟩ := h
  have hO := h1.2.2.1
  refine ⟨h1, h2.frame (fun q _ _ => hf q (by omega) (by omega)), h3, ?_, ?_, ?_, ?_, ?_, ?_, h10⟩
  · unfold RepQ
    rw [hf 43 (by omega) (by omega), hf 54 (by omega) (by omega), hf 55 (by omega) (by omega), hf 56 (by omega) (by omega), hf 57 (by omega) (by omega)]
    exact h4
  · unfold RepF
    rw [hf 43 (by omega) (by omega)]
    exact ⟨h5.1, fun g => ⟨(h5.2 g).1, fun o ho k hk => by rw [hf (45 + o) (by omega) (by omega)]; exact (h5.2 g).2 o ho k hk⟩⟩
  · intro j hj
    by_cases e : j = k
    · subst e; rw [rowS_at]; exact hw
    · rw [rowS_ne e]; exact h6 j hj
  · intro j hj
    by_cases e : j = k
    · subst e; rw [rowS_at, rowC_at]; exact hr
    · rw [rowS_ne e, rowC_ne e, hf (108 + 2 * j) (by omega) (by omega), hf (109 + 2 * j) (by omega) (by omega)]; exact h7 j hj
  · unfold RepZ
    rw [hf 0 (by omega) (by omega)]
    exact h8
  · intro j hj
    rw [hf 11 (by omega) (by omega), hf 22 (by omega) (by omega)]
    exact h9 j hj
theorem InvM.sh {σ σ' : am_Sg} {K Q S : KT} {Ce : Nat → Nat → Int32} {fl : Nat} {tr : Int32} {k : Nat} {s : Nat → Nat} {c : Nat → Int32} (h : InvM σ K Q S Ce fl tr) (hw : s 0 ≤ 1 ∧ s 1 ≤ 2 ∧ s 2 ≤ 100) (hr : RwM σ' k s c) (hf : ∀ q, ¬ q = 117 → ¬ q = 118 → ¬ q = 119 → σ' q = σ q) (h7 : ∀ j, ¬ j = k → σ' 117 j = σ 117 j ∧ σ' 118 j = σ 118 j) (h9 : ∀ i, ¬ (100 * k ≤ i ∧ i < 100 * k + 100) → σ' 119 i = σ 119 i) : InvM σ' K Q (rowS S k s) (rowC Ce k c) fl tr := by
  obtain ⟨g1, ⟨r1, r2, r3, r4, r5, r6, r7⟩, g3, g4, g5, g6, g7, g8⟩ := h
  refine ⟨g1, ⟨?_, ?_, ?_, ?_, ?_, ?_, ?_⟩, g3, ?_, ?_, ?_, ?_, ?_⟩
  · rw [hf 116 (by omega) (by omega) (by omega)]; exact r1
  · rw [hf 116 (by omega) (by omega) (by omega)]; exact r2
  · rw [hf 116 (by omega) (by omega) (by omega)]; exact r3
  · rw [hf 116 (by omega) (by omega) (by omega)]; exact r4
  · rw [hf 120 (by omega) (by omega) (by omega), hf 121 (by omega) (by omega) (by omega)]; exact r5
  · rw [hf 122 (by omega) (by omega) (by omega)]; exact r6
  · intro f hf9 o ho
    rw [hf (123 + f) (by omega) (by omega) (by omega)]; exact r7 f hf9 o ho
  · rw [hf 116 (by omega) (by omega) (by omega), hf 140 (by omega) (by omega) (by omega), hf 141 (by omega) (by omega) (by omega), hf 142 (by omega) (by omega) (by omega), hf 143 (by omega) (by omega) (by omega)]; exact g4
  · intro j hj
    by_cases e : j = k
    · subst e; rw [rowS_at]; exact hw
    · rw [rowS_ne e]; exact g5 j hj
  · intro j hj
    by_cases e : j = k
    · subst e; rw [rowS_at, rowC_at]; exact hr
    · rw [rowS_ne e, rowC_ne e, (h7 j e).1, (h7 j e).2]
      exact ⟨(g6 j hj).1, (g6 j hj).2.1, fun i hi => by rw [h9 _ (by omega)]; exact (g6 j hj).2.2 i hi⟩
  · rw [hf 116 (by omega) (by omega) (by omega)]; exact g7
  · rw [hf 116 (by omega) (by omega) (by omega)]; exact g8
theorem rowS_self {S : KT} {k : Nat} : rowS S k (S k) = S := by
  funext a
  unfold rowS
  split
  · rename_i e; rw [e]
  · rfl
theorem rowC_self {S : Nat → Nat → Int32} {k : Nat} : rowC S k (S k) = S := by
  funext a
  unfold rowC
  split
  · rename_i e; rw [e]
  · rfl
theorem k4 {k : Nat} (h : k < 4) : k = 0 ∨ k = 1 ∨ k = 2 ∨ k = 3 := by omega
def C_begin : am_C := fun av n σ τ nf P => nf = n ∧ 155 ≤ n ∧ ∃ (rw lf k : Nat) (t l : Int32), τ = tauY rw lf ∧ k < 4 ∧ av = [.ref (108 + 2 * k), .int t, .int l] ∧ ∀ σ', σ' (108 + 2 * k) 0 = 1 → σ' (108 + 2 * k) 1 = t → σ' (108 + 2 * k) 3 = l → (∀ i, i < 100 → σ' (109 + 2 * k) i = 0) → (∀ q, ¬ q = 108 + 2 * k → ¬ q = 109 + 2 * k → σ' q = σ q) → P none σ' τ
set_option maxRecDepth 100000 in
theorem M_begin (d : Nat) : am_Met (d + 1) 401 C_begin := am_meth (own0 := "CanalEnd$Sheet") 401 (d + 0) 155 T_X4_begin (fun y => am_no) C_begin rfl F_X4_begin rfl (by decide +kernel) Tc_X4_begin (fun y => am_no_met) (by
  intro av n σ τ nf P hnf hC
  obtain ⟨rfl, hn, rw, lf, k, t, l, rfl, hk, rfl, hP⟩ := hC
  refine ⟨hn, rfl, Nat.le_of_ble_eq_true rfl, fun Wb hs => ?_⟩
  have key : ∀ m i (σ1 : am_Sg), i + m = 100 → σ1 (108 + 2 * k) 0 = 1 → σ1 (108 + 2 * k) 1 = t → σ1 (108 + 2 * k) 3 = l → (∀ j, j < i → σ1 (109 + 2 * k) j = 0) → (∀ q, ¬ q = 108 + 2 * k → ¬ q = 109 + 2 * k → σ1 q = σ q) → Wb 17 [some (.ref (108 + 2 * k)), some (.int t), some (.int l), some (.int (nI i))] [] nf σ1 (tauY rw lf) := by
    intro m
    induction m with
    | zero =>
      intro i σ1 hm h0 h1 h3 hz hf
      have hi : i = 100 := by omega
      subst hi
      rcases k4 hk with rfl | rfl | rfl | rfl
      all_goals exact hs (fun p => Nat.beq p 17) 30 17 _ _ _ _ _ (vc_t (by decide) (And.intro rfl (hP σ1 h0 h1 h3 hz hf)))
    | succ m ih =>
      intro i σ1 hm h0 h1 h3 hz hf
      have hc : (nI i).toNatClampNeg = i := nI_clamp (by omega)
      have go : ∀ σ2 : am_Sg, σ2 = am_up σ1 (109 + 2 * k) i 0 → Wb 17 [some (.ref (108 + 2 * k)), some (.int t), some (.int l), some (.int (nI i + 1))] [] nf σ2 (tauY rw lf) := by
        intro σ2 e2
        rw [← nI_succ]
        refine ih (i + 1) σ2 (by omega) ?_ ?_ ?_ ?_ ?_
        · rw [e2, up_rn (by omega)]; exact h0
        · rw [e2, up_rn (by omega)]; exact h1
        · rw [e2, up_rn (by omega)]; exact h3
        · intro j hj
          by_cases e : j = i
          · subst e; rw [e2]; exact up_at
          · rw [e2, up_ne e]; exact hz j (by omega)
        · intro q g1 g2
          rw [e2, am_up_ne g2]; exact hf q g1 g2
      have hlt : ¬ (100 : Int32) ≤ nI i := fun q => by have := (nI_leI (a := 100) (b := i) (by omega) (by omega)).mp q; omega
      rcases k4 hk with rfl | rfl | rfl | rfl
      all_goals
        refine hs (fun p => Nat.beq p 17) 30 17 _ _ _ _ _ (vc_f hlt (And.intro (vin (show i < 100 by omega)) (fun σ2 e2 => ?_)))
        rw [hc] at e2
        exact go σ2 e2
  have st : ∀ σ1 σ2 σ3 : am_Sg, σ1 = am_up σ (108 + 2 * k) 0 1 → σ2 = am_up σ1 (108 + 2 * k) 1 t → σ3 = am_up σ2 (108 + 2 * k) 3 l → Wb 17 [some (.ref (108 + 2 * k)), some (.int t), some (.int l), some (.int (nI 0))] [] nf σ3 (tauY rw lf) := by
    intro σ1 σ2 σ3 e1 e2 e3
    refine key 100 0 σ3 rfl ?_ ?_ ?_ (fun j hj => absurd hj (by omega)) ?_
    · rw [e3, up_ne (by omega), e2, up_ne (by omega), e1, up_at]
    · rw [e3, up_ne (by omega), e2, up_at]
    · rw [e3, up_at]
    · intro q g1 g2
      rw [e3, am_up_ne g1, e2, am_up_ne g1, e1, am_up_ne g1]
  rcases k4 hk with rfl | rfl | rfl | rfl
  all_goals exact hs (fun p => Nat.beq p 17) 30 0 _ _ _ _ _ (And.intro (Or.inr rfl) (fun σ1 e1 => fun σ2 e2 => fun σ3 e3 => st σ1 σ2 σ3 e1 e2 e3)))
def C_faultAs : am_C := fun av n σ τ nf P => nf = n ∧ 155 ≤ n ∧ ∃ (k : Nat) (a : Int32), k < 4 ∧ av = [.ref (108 + 2 * k), .int a] ∧ (σ (108 + 2 * k) 0 = 0 → P (some (.int 1)) σ τ) ∧ (¬ σ (108 + 2 * k) 0 = 0 → σ (108 + 2 * k) 1 = a → P (some (.int 0)) σ τ) ∧ (¬ σ (108 + 2 * k) 0 = 0 → ¬ σ (108 + 2 * k) 1 = a → P (some (.int 2)) σ τ)
set_option maxRecDepth 100000 in
theorem M_faultAs (d : Nat) : am_Met (d + 1) 402 C_faultAs := am_meth (own0 := "CanalEnd$Sheet") 402 (d + 0) 155 T_X4_faultAs (fun y => am_no) C_faultAs rfl F_X4_faultAs rfl (by decide +kernel) Tc_X4_faultAs (fun y => am_no_met) (by
  intro av n σ τ nf P hnf hC
  obtain ⟨rfl, hn, k, a, hk, rfl, h1, h2, h3⟩ := hC
  refine ⟨hn, rfl, Nat.le_of_ble_eq_true rfl, fun Wb hs => ?_⟩
  rcases k4 hk with rfl | rfl | rfl | rfl
  all_goals exact hs (fun _ => false) 30 0 _ _ _ _ _ (vc_if (fun c => And.intro rfl (h1 c)) (fun c => vc_if (fun c2 => And.intro rfl (h2 c c2)) (fun c2 => And.intro rfl (h3 c c2)))))
def C_isCell : am_C := fun av n σ τ nf P => nf = n ∧ 155 ≤ n ∧ ∃ (k l : Nat) (v : Int32), k < 4 ∧ av = [.ref (108 + 2 * k), .int v] ∧ σ (108 + 2 * k) 3 = nI l ∧ l ≤ 100 ∧ (inN v l → P (some (.int 1)) σ τ) ∧ (¬ inN v l → P (some (.int 0)) σ τ)
set_option maxRecDepth 100000 in
theorem M_isCell (d : Nat) : am_Met (d + 2) 403 C_isCell := am_meth (own0 := "CanalEnd$Sheet") 403 (d + 1) 155 T_X4_isCell (fun y => bif Nat.beq y 740 then C_isIn else (am_no)) C_isCell rfl F_X4_isCell rfl (by decide +kernel) Tc_X4_isCell (fun y => am_g (M_isIn (d + 0)) (am_no_met)) (by
  intro av n σ τ nf P hnf hC
  obtain ⟨rfl, hn, k, l, v, hk, rfl, hl, hb, h1, h2⟩ := hC
  refine ⟨hn, rfl, Nat.le_of_ble_eq_true rfl, fun Wb hs => ?_⟩
  have hi := in_iff (v := v) (nI_m1 (M := l) (by omega))
  rcases k4 hk with rfl | rfl | rfl | rfl
  all_goals exact hs (fun _ => false) 30 0 _ _ _ _ _ ⟨rfl, v, 0, nI l - 1, by rw [← hl], fun g => And.intro (Or.inr rfl) (And.intro rfl (h1 (hi.mp g))), fun g => And.intro (Or.inl rfl) (And.intro rfl (h2 (fun q => g (hi.mpr q))))⟩)
abbrev clsOk (i n : Int32) (l : Nat) : Prop := 0 ≤ i.toInt ∧ 0 ≤ n.toInt ∧ i.toInt + n.toInt ≤ (l : Int)
theorem nI_subT {l : Nat} {i : Int32} (hl : l ≤ 100) (h : 0 ≤ i.toInt ∧ i.toInt ≤ (l : Int)) : (nI l - i).toInt = (l : Int) - i.toInt := by
  rw [Int32.toInt_sub, nI_toInt (by omega)]
  apply Int.bmod_eq_of_le
  · omega
  · omega
def C_areCells : am_C := fun av n σ τ nf P => nf = n ∧ 155 ≤ n ∧ ∃ (k l : Nat) (i m : Int32), k < 4 ∧ av = [.ref (108 + 2 * k), .int i, .int m] ∧ σ (108 + 2 * k) 3 = nI l ∧ l ≤ 100 ∧ (clsOk i m l → P (some (.int 1)) σ τ) ∧ (¬ clsOk i m l → P (some (.int 0)) σ τ)
set_option maxRecDepth 100000 in
theorem M_areCells (d : Nat) : am_Met (d + 2) 404 C_areCells := am_meth (own0 := "CanalEnd$Sheet") 404 (d + 1) 155 T_X4_areCells (fun y => bif Nat.beq y 740 then C_isIn else (am_no)) C_areCells rfl F_X4_areCells rfl (by decide +kernel) Tc_X4_areCells (fun y => am_g (M_isIn (d + 0)) (am_no_met)) (by
  intro av n σ τ nf P hnf hC
  obtain ⟨rfl, hn, k, l, i, m, hk, rfl, hl, hb, h1, h2⟩ := hC
  refine ⟨hn, rfl, Nat.le_of_ble_eq_true rfl, fun Wb hs => ?_⟩
  unfold clsOk at h1 h2
  have a1 : (0 ≤ i ∧ i ≤ nI l) ↔ (0 ≤ i.toInt ∧ i.toInt ≤ (l : Int)) := by rw [i_le, i_le, nI_toInt (by omega), Int32.toInt_zero]
  have a2 : (0 ≤ i.toInt ∧ i.toInt ≤ (l : Int)) → ((0 ≤ m ∧ m ≤ nI l - i) ↔ (0 ≤ m.toInt ∧ m.toInt ≤ (l : Int) - i.toInt)) := fun g => by rw [i_le, i_le, nI_subT hb g, Int32.toInt_zero]
  rcases k4 hk with rfl | rfl | rfl | rfl
  all_goals
    refine hs (fun _ => false) 30 0 _ _ _ _ _ ⟨rfl, i, 0, nI l, by rw [← hl], fun g => vc_f (by decide) ⟨rfl, m, 0, nI l - i, by rw [← hl], fun g2 => vc_f (by decide) (And.intro (Or.inr rfl) (And.intro rfl (h1 ?_))), fun g2 => vc_t rfl (And.intro (Or.inl rfl) (And.intro rfl (h2 (fun q => ?_))))⟩, fun g => vc_t rfl (And.intro (Or.inl rfl) (And.intro rfl (h2 (fun q => ?_))))⟩
    · have g := a1.mp g
      have g2 := (a2 g).mp g2
      omega
    · have g := a1.mp g
      exact g2 ((a2 g).mpr (by omega))
    · exact g (a1.mpr (by omega)))
def cutv (t : Nat) (v : Int32) : Int32 := if t = 0 then v.toInt8.toInt32 else if t = 1 then v.toInt16.toInt32 else v
def C_cut : am_C := fun av n σ τ nf P => nf = n ∧ 155 ≤ n ∧ ∃ (k t : Nat) (v : Int32), k < 4 ∧ av = [.ref (108 + 2 * k), .int v] ∧ σ (108 + 2 * k) 1 = nI t ∧ t ≤ 2 ∧ P (some (.int (cutv t v))) σ τ
set_option maxRecDepth 100000 in
theorem M_cut (d : Nat) : am_Met (d + 1) 406 C_cut := am_meth (own0 := "CanalEnd$Sheet") 406 (d + 0) 155 T_X4_cut (fun y => am_no) C_cut rfl F_X4_cut rfl (by decide +kernel) Tc_X4_cut (fun y => am_no_met) (by
  intro av n σ τ nf P hnf hC
  obtain ⟨rfl, hn, k, t, v, hk, rfl, hl, hb, hP⟩ := hC
  refine ⟨hn, rfl, Nat.le_of_ble_eq_true rfl, fun Wb hs => ?_⟩
  unfold cutv at hP
  rcases k4 hk with rfl | rfl | rfl | rfl
  all_goals
    refine hs (fun _ => false) 30 0 _ _ _ _ _ (vc_if (fun c => And.intro rfl ?_) (fun c => vc_if (fun c2 => And.intro rfl ?_) (fun c2 => And.intro rfl ?_)))
    · have c := nI_inj (b := 0) (by omega) (by omega) (hl.symm.trans c)
      rw [if_pos c] at hP
      exact hP
    · have c : ¬ t = 0 := fun q => c (hl.trans (by rw [q]; rfl))
      have c2 := nI_inj (b := 1) (by omega) (by omega) (hl.symm.trans c2)
      rw [if_neg c, if_pos c2] at hP
      exact hP
    · have c : ¬ t = 0 := fun q => c (hl.trans (by rw [q]; rfl))
      have c2 : ¬ t = 1 := fun q => c2 (hl.trans (by rw [q]; rfl))
      rw [if_neg c, if_neg c2] at hP
      exact hP)
