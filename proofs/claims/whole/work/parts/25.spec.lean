abbrev ST : Type := KT × KT × KT × (Nat → Nat → Int32) × Nat × Int32
def IX (σ : am_Sg) (n lf : Nat) (s : ST) : Prop := InvX σ n lf s.1 s.2.1 s.2.2.1 s.2.2.2.1 s.2.2.2.2.1 s.2.2.2.2.2
def IM (σ : am_Sg) (s : ST) : Prop := InvM σ s.1 s.2.1 s.2.2.1 s.2.2.2.1 s.2.2.2.2.1 s.2.2.2.2.2
def pubX (args : List Value) (f : ST → Value × ST) : am_C := fun av n σ τ nf P => nf = n ∧ ∃ (lf : Nat) (s : ST), τ = tauY 0 lf ∧ IX σ n lf s ∧ av = .ref 0 :: args ∧ ∀ σ', IX σ' n lf (f s).2 → FrX σ σ' → P (some (f s).1) σ' τ
def pubM (args : List Value) (f : ST → Value × ST) : am_C := fun av n σ τ nf P => nf = n ∧ 155 ≤ n ∧ ∃ (lf : Nat) (s : ST), τ = tauY 0 lf ∧ IM σ s ∧ av = .ref 116 :: args ∧ ∀ σ', IM σ' (f s).2 → FrM σ σ' → P (some (f s).1) σ' τ
theorem Nlf_le {n lf : Nat} (h : Nlf n lf) : 155 ≤ n := by unfold Nlf at h; omega
def setK (K : KT) (f i v : Nat) : KT := fun a b => if a = f ∧ b = i then v else K a b
theorem setK_ne {K : KT} {f i v a : Nat} (h : ¬ a = f) : setK K f i v a = K a := by
  funext b
  exact if_neg (fun g => h g.1)
theorem setK_at {K : KT} {f i v : Nat} : setK K f i v f i = v := if_pos ⟨rfl, rfl⟩
theorem setK_o {K : KT} {f i v b : Nat} (h : ¬ b = i) : setK K f i v f b = K f b := if_neg (fun g => h g.2)
def bdK (f : Nat) : Nat := if f = 8 then 2 else if f = 9 then 999 else if f = 10 then 1 else 9
theorem setK_le {K : KT} {f i v b B : Nat} (h1 : K f b ≤ B) (h2 : v ≤ B) : setK K f i v f b ≤ B := by
  unfold setK
  split <;> assumption
theorem WfK.set {K : KT} {f i v : Nat} (h : WfK K) (hf : f = 1 ∨ f = 2 ∨ f = 7 ∨ f = 8 ∨ f = 9 ∨ f = 10) (hv : v ≤ bdK f) : WfK (setK K f i v) := by
  obtain ⟨h1, h2, h3, h4, h5, h6, h7, h8, h9, h10⟩ := h
  unfold WfK
  have e0 : setK K f i v 0 = K 0 := setK_ne (by omega)
  have e3 : setK K f i v 3 = K 3 := setK_ne (by omega)
  have e4 : setK K f i v 4 = K 4 := setK_ne (by omega)
  have e5 : setK K f i v 5 = K 5 := setK_ne (by omega)
  have e6 : setK K f i v 6 = K 6 := setK_ne (by omega)
  have gen : ∀ a b B, K a b ≤ B → (a = f → v ≤ B) → setK K f i v a b ≤ B := fun a b B g1 g2 => by
    unfold setK
    split
    · rename_i g; exact g2 g.1
    · exact g1
  rw [e0, e3, e4, e5, e6]
  unfold bdK at hv
  refine ⟨h1, h2, h3, h4, h5, h6, fun j hj => ?_, h8, h9, fun o ho => ?_⟩
  · obtain ⟨a, b, c⟩ := h7 j hj
    exact ⟨gen 1 j 9 a (fun g => by subst g; simpa using hv), gen 2 j 9 b (fun g => by subst g; simpa using hv), c⟩
  · obtain ⟨a1, a2, a3, a4, a5, a6, a7, a8⟩ := h10 o ho
    exact ⟨a1, a2, a3, gen 7 o 9 a4 (fun g => by subst g; simpa using hv), gen 8 o 2 a5 (fun g => by subst g; simpa using hv), gen 9 o 999 a6 (fun g => by subst g; simpa using hv), gen 10 o 1 a7 (fun g => by subst g; simpa using hv), a8⟩
theorem WfK.siph {K : KT} {v : Nat} (h : WfK K) (hv : v ≤ 99) : WfK (setK K 0 3 v) := by
  obtain ⟨h1, h2, h3, h4, h5, h6, h7, h8, h9, h10⟩ := h
  have e : ∀ a, ¬ a = 0 → setK K 0 3 v a = K a := fun a g => setK_ne g
  unfold WfK
  rw [e 1 (by omega), e 2 (by omega), e 3 (by omega), e 4 (by omega), e 5 (by omega), e 6 (by omega), e 7 (by omega), e 8 (by omega), e 9 (by omega), e 10 (by omega), show setK K 0 3 v 0 0 = K 0 0 from setK_o (by omega), show setK K 0 3 v 0 1 = K 0 1 from setK_o (by omega), show setK K 0 3 v 0 2 = K 0 2 from setK_o (by omega), show setK K 0 3 v 0 3 = v from setK_at]
  exact ⟨h1, h2, h3, hv, h5, h6, h7, h8, h9, h10⟩
theorem RepX.set {σ : am_Sg} {c : Nat} {K : KT} {f i v : Nat} (h : RepX σ c K) (h1 : 1 ≤ f) : RepX (am_up σ (c + f) i (nI v)) c (setK K f i v) := by
  have gen : ∀ a b, ¬ a = 0 → σ (c + a) b = nI (K a b) → am_up σ (c + f) i (nI v) (c + a) b = nI (setK K f i v a b) := fun a b g0 g => by
    by_cases e : a = f
    · subst e
      by_cases e2 : b = i
      · subst e2
        rw [up_at, setK_at]
      · rw [up_ne e2, setK_o e2]
        exact g
    · rw [up_rn (by omega), setK_ne e]
      exact g
  have e0 : setK K f i v 0 = K 0 := setK_ne (by omega)
  unfold RepX
  rw [e0]
  refine ⟨fun j hj => ?_, fun a ha j hj => ?_, fun a ha j hj => ?_⟩
  · rw [up_rn (by omega)]
    exact h.1 j hj
  · rw [Nat.add_assoc]
    exact gen (1 + a) j (by omega) (by have := h.2.1 a ha j hj; rw [Nat.add_assoc] at this; exact this)
  · rw [Nat.add_assoc]
    exact gen (5 + a) j (by omega) (by have := h.2.2 a ha j hj; rw [Nat.add_assoc] at this; exact this)
theorem RepX.siph {σ : am_Sg} {c v : Nat} {K : KT} (h : RepX σ c K) : RepX (am_up σ c 3 (nI v)) c (setK K 0 3 v) := by
  have e : ∀ a, ¬ a = 0 → setK K 0 3 v a = K a := fun a g => setK_ne g
  unfold RepX
  rw [show setK K 0 3 v 0 1 = K 0 1 from setK_o (by omega), show setK K 0 3 v 0 2 = K 0 2 from setK_o (by omega)]
  refine ⟨fun i hi => ?_, fun f hf j hj => ?_, fun f hf j hj => ?_⟩
  · by_cases e3 : i = 3
    · subst e3
      rw [up_at, setK_at]
    · rw [up_ne e3, setK_o e3]
      exact h.1 i hi
  · rw [up_rn (by omega), e (1 + f) (by omega)]
    exact h.2.1 f hf j hj
  · rw [up_rn (by omega), e (5 + f) (by omega)]
    exact h.2.2 f hf j hj
def mreg (f : Nat) : Nat := if f ≤ 2 then 119 + f else 118 + f
theorem RepM.set {σ : am_Sg} {K : KT} {f i v : Nat} (h : RepM σ K) (hf : f = 1 ∨ f = 2 ∨ f = 7 ∨ f = 8 ∨ f = 9 ∨ f = 10) : RepM (am_up σ (mreg f) i (nI v)) (setK K f i v) := by
  obtain ⟨h1, h2, h3, h4, h5, h6, h7⟩ := h
  have e0 : setK K f i v 0 = K 0 := setK_ne (by omega)
  have e3 : setK K f i v 3 = K 3 := setK_ne (by omega)
  have efo : fo (setK K f i v) = fo K := by funext j; unfold fo; rw [e0, e3]
  have hm : ∀ q, ¬ q = mreg f → am_up σ (mreg f) i (nI v) q = σ q := fun q g => am_up_ne g
  have m1 : mreg f = 120 ∨ mreg f = 121 ∨ (125 ≤ mreg f ∧ mreg f ≤ 128) := by unfold mreg; split <;> omega
  have gen : ∀ a b, mreg a = mreg f → a = f → σ (mreg a) b = nI (K a b) → am_up σ (mreg f) i (nI v) (mreg a) b = nI (setK K f i v a b) := fun a b g0 e g => by
    subst e
    by_cases e2 : b = i
    · subst e2
      rw [up_at, setK_at]
    · rw [up_ne e2, setK_o e2]
      exact g
  unfold RepM
  rw [e0, efo, hm 116 (by omega), hm 122 (by omega)]
  refine ⟨h1, h2, h3, h4, fun j hj => ⟨?_, ?_⟩, h6, fun a ha o ho => ?_⟩
  · by_cases e : 1 = f
    · exact gen 1 j (by rw [e]) e (h5 j hj).1
    · rw [setK_ne e, hm 120 (by unfold mreg; split <;> omega)]; exact (h5 j hj).1
  · by_cases e : 2 = f
    · exact gen 2 j (by rw [e]) e (h5 j hj).2
    · rw [setK_ne e, hm 121 (by unfold mreg; split <;> omega)]; exact (h5 j hj).2
  · by_cases e : 5 + a = f
    · have em : mreg (5 + a) = 123 + a := by unfold mreg; rw [if_neg (by omega)]; omega
      have := gen (5 + a) o (by rw [e]) e (by rw [em]; exact h7 a ha o ho)
      rw [em] at this
      exact this
    · rw [setK_ne e, hm (123 + a) (by unfold mreg; split <;> omega)]; exact h7 a ha o ho
theorem s_ou_K {K K' : KT} (e0 : K' 0 = K 0) (e6 : K' 6 = K 6) (e7 : K' 7 = K 7) (kd : Nat → Nat) (nt lv o0 w : Nat) : ∀ i, s_ou K' kd nt lv o0 w i = s_ou K kd nt lv o0 w i
  | 0 => rfl
  | i + 1 => by
    show s_ou K' kd nt lv o0 w i - s_tk K' _ _ _ _ _ = s_ou K kd nt lv o0 w i - s_tk K _ _ _ _ _
    rw [s_ou_K e0 e6 e7 kd nt lv o0 w i]
    unfold s_tk s_wt s_ht
    rw [e0, e6, e7]
theorem s_in_K {K K' : KT} (h : ∀ f, f ≤ 7 → K' f = K f) (kd : Nat → Nat) (nt f : Nat) : ∀ j, s_in K' kd nt f j = s_in K kd nt f j
  | 0 => rfl
  | j + 1 => by
    show s_ou K' kd nt _ _ _ _ = s_ou K kd nt _ _ _ _
    rw [s_ou_K (h 0 (by omega)) (h 6 (by omega)) (h 7 (by omega)), s_in_K h kd nt f j]
    unfold s_lv s_sp
    rw [h 0 (by omega), h 1 (by omega), h 2 (by omega), h 3 (by omega), h 4 (by omega)]
theorem fitQ_K {K K' Q : KT} (h : ∀ f, f ≤ 7 → K' f = K f) : fitQ K' Q = fitQ K Q := by
  funext w
  unfold fitQ
  congr 1
  funext k
  rw [s_in_K h]
theorem s_cnt_K {K K' Q : KT} (h : ∀ f, f ≤ 7 → K' f = K f) : s_cnt K' Q = s_cnt K Q ∧ s_tly K' Q = s_tly K Q := by
  unfold s_cnt
  refine ⟨by rw [fitQ_K h, h 0 (by omega)], ?_⟩
  funext o k
  unfold s_tly
  rw [fitQ_K h, h 0 (by omega)]
/-- a field of outlets that no hour by given kinds looks at is changed -/
theorem InvX.setO {σ : am_Sg} {n lf : Nat} {K Q S : KT} {Ce : Nat → Nat → Int32} {fl : Nat} {tr : Int32} {f i v : Nat} (h : InvX σ n lf K Q S Ce fl tr) (hf : f = 8 ∨ f = 9 ∨ f = 10) (hv : v ≤ bdK f) : InvX (am_up σ (1 + f) i (nI v)) n lf (setK K f i v) Q S Ce fl tr := by
  obtain ⟨h1, h2, h3, h4, h5, h6, h7, h8, h9, h10⟩ := h
  have hm : ∀ q, ¬ q = 1 + f → am_up σ (1 + f) i (nI v) q = σ q := fun q g => am_up_ne g
  have hc := s_cnt_K (K := K) (K' := setK K f i v) (Q := Q) (fun a ha => setK_ne (by omega))
  have e0 : setK K f i v 0 = K 0 := setK_ne (by omega)
  refine ⟨h1.set (by omega) hv, h2.set (by omega), ?_, ?_, ?_, h6, ?_, ?_, ?_, h10⟩
  · unfold WfQ; rw [e0]; exact h3
  · unfold RepQ; rw [hm 43 (by omega), hm 54 (by omega), hm 55 (by omega), hm 56 (by omega), hm 57 (by omega)]; exact h4
  · unfold RepF
    rw [hm 43 (by omega), hc.1, hc.2, e0]
    exact ⟨h5.1, fun g => ⟨(h5.2 g).1, fun o ho k hk => by rw [hm _ (by omega)]; exact (h5.2 g).2 o ho k hk⟩⟩
  · intro k hk; rw [hm _ (by omega), hm _ (by omega)]; exact h7 k hk
  · unfold RepZ; rw [hm 0 (by omega)]; exact h8
  · intro j hj
    refine ⟨?_, by rw [hm 22 (by omega)]; exact (h9 j hj).2⟩
    by_cases e : 11 = 1 + f
    · have ef : f = 10 := by omega
      subst ef
      by_cases e2 : j = i
      · subst e2
        rw [up_at]
        have hv : v ≤ 1 := hv
        rcases (show v = 0 ∨ v = 1 by omega) with e9 | e9 <;> rw [e9]
        · exact Or.inl rfl
        · exact Or.inr rfl
      · rw [up_ne e2]; exact (h9 j hj).1
    · rw [hm 11 (by omega)]; exact (h9 j hj).1
/-- a change behind which the counts are made anew -/
theorem InvX.anew {σ σ' : am_Sg} {n lf : Nat} {K K' Q Q' S : KT} {Ce : Nat → Nat → Int32} {fl : Nat} {tr : Int32} (h : InvX σ n lf K Q S Ce fl tr) (hK : WfK K') (hR : RepX σ' 1 K') (hQ : WfQ K' Q') (hRQ : RepQ σ' Q') (hc : σ' 43 2 = 0) (hf : ∀ q, q = 0 ∨ q = 22 ∨ (108 ≤ q ∧ q ≤ 115) → σ' q = σ q) (h11 : ∀ i, i < 8 → σ' 11 i = 0 ∨ σ' 11 i = 1) : InvX σ' n lf K' Q' S Ce fl tr := by
  obtain ⟨h1, h2, h3, h4, h5, h6, h7, h8, h9, h10⟩ := h
  refine ⟨hK, hR, hQ, hRQ, ⟨Or.inl hc, fun g => absurd (hc.symm.trans g) (by decide)⟩, h6, ?_, ?_, ?_, h10⟩
  · intro k hk; rw [hf _ (by omega), hf _ (by omega)]; exact h7 k hk
  · unfold RepZ; rw [hf 0 (by omega)]; exact h8
  · intro j hj
    exact ⟨h11 j hj, by rw [hf 22 (by omega)]; exact (h9 j hj).2⟩
theorem InvM.setO {σ : am_Sg} {K Q S : KT} {Ce : Nat → Nat → Int32} {fl : Nat} {tr : Int32} {f i v : Nat} (h : InvM σ K Q S Ce fl tr) (hf : f = 1 ∨ f = 2 ∨ f = 7 ∨ f = 8 ∨ f = 9 ∨ f = 10) (hv : v ≤ bdK f) : InvM (am_up σ (mreg f) i (nI v)) (setK K f i v) Q S Ce fl tr := by
  obtain ⟨h1, h2, h3, h4, h5, h6, h7, h8⟩ := h
  have m1 : mreg f = 120 ∨ mreg f = 121 ∨ (125 ≤ mreg f ∧ mreg f ≤ 128) := by unfold mreg; split <;> omega
  have hm : ∀ q, ¬ q = mreg f → am_up σ (mreg f) i (nI v) q = σ q := fun q g => am_up_ne g
  have e0 : setK K f i v 0 = K 0 := setK_ne (by omega)
  refine ⟨h1.set hf hv, h2.set hf, ?_, ?_, h5, ?_, ?_, ?_⟩
  · unfold WfQ; rw [e0]; exact h3
  · rw [hm 116 (by omega), hm 140 (by omega), hm 141 (by omega), hm 142 (by omega), hm 143 (by omega)]; exact h4
  · intro k hk; rw [hm 117 (by omega), hm 118 (by omega), hm 119 (by omega)]; exact h6 k hk
  · rw [hm 116 (by omega)]; exact h7
  · rw [hm 116 (by omega)]; exact h8
