def dg (v : Int32) : Option Nat := if 48 ≤ v.toInt ∧ v.toInt ≤ 57 then some (v.toInt - 48).toNat else none
theorem dg_y {v : Int32} {a : Nat} (h : dg v = some a) : a ≤ 9 ∧ v = nI (48 + a) ∧ 48 ≤ v.toInt ∧ v.toInt ≤ 57 := by
  unfold dg at h
  split at h
  · rename_i g
    have e := Option.some.inj h
    refine ⟨by omega, ?_, g⟩
    rw [fa_eq', nI_toInt (by omega)]
    omega
  · cases h
theorem dg_n {v : Int32} (h : dg v = none) : ¬ (48 ≤ v.toInt ∧ v.toInt ≤ 57) := by
  unfold dg at h
  split at h
  · cases h
  · assumption
def addM (K : KT) (a b : Nat) : KT := fun f i => match f with
  | 0 => if i = 1 then K 0 1 + 1 else K 0 i
  | 1 => if i = K 0 1 then a else K 1 i
  | 2 => if i = K 0 1 then b else K 2 i
  | 3 => if i = K 0 1 then K 0 2 else K 3 i
  | 4 => if i = K 0 1 then 0 else K 4 i
  | f + 5 => K (f + 5) i
def addO (K : KT) (z h : Nat) : KT := fun f i => match f with
  | 0 => if i = 2 then K 0 2 + 1 else K 0 i
  | 1 => K 1 i
  | 2 => K 2 i
  | 3 => K 3 i
  | 4 => if i = K 0 1 - 1 then K 4 i + 1 else K 4 i
  | 5 => if i = K 0 2 then K 0 1 - 1 else K 5 i
  | 6 => if i = K 0 2 then z else K 6 i
  | 7 => if i = K 0 2 then h else K 7 i
  | f + 8 => K (f + 8) i
def ZrK (K : KT) : Prop := ∀ f i, 8 ≤ f → K f i = 0
theorem zr_addM {K : KT} (h : ZrK K) (a b : Nat) : ZrK (addM K a b) := fun f i hf => by
  obtain ⟨g, rfl⟩ : ∃ g, f = g + 5 := ⟨f - 5, by omega⟩
  exact h (g + 5) i hf
theorem zr_addO {K : KT} (h : ZrK K) (a b : Nat) : ZrK (addO K a b) := fun f i hf => by
  obtain ⟨g, rfl⟩ : ∃ g, f = g + 8 := ⟨f - 8, by omega⟩
  exact h (g + 8) i hf
theorem wf_addM {K : KT} {a b : Nat} (h : WfK K) (h0 : 0 < K 0 0) (hm : K 0 1 < 10) (ha : a ≤ 9) (hb : b ≤ 9) : WfK (addM K a b) := by
  obtain ⟨h1, h2, h3, h4, h5, h6, h7, h8, h9, h10⟩ := h
  have e3 : ∀ j, j < K 0 1 → addM K a b 3 j = K 3 j := fun j hj => if_neg (by omega)
  have e4 : ∀ j, j < K 0 1 → addM K a b 4 j = K 4 j := fun j hj => if_neg (by omega)
  have m3 : addM K a b 3 (K 0 1) = K 0 2 := if_pos rfl
  have m4 : addM K a b 4 (K 0 1) = 0 := if_pos rfl
  refine ⟨h1, (show K 0 1 + 1 ≤ 10 by omega), h3, h4, fun _ => h0, fun g => absurd (show K 0 1 + 1 = 0 from g) (by omega), fun j hj => ?_, fun j hj => ?_, fun _ => ?_, fun o ho => ?_⟩
  · have hj : j < K 0 1 + 1 := hj
    show (if j = K 0 1 then a else K 1 j) ≤ 9 ∧ (if j = K 0 1 then b else K 2 j) ≤ 9 ∧ (if j = K 0 1 then K 0 2 else K 3 j) + (if j = K 0 1 then 0 else K 4 j) ≤ K 0 2
    by_cases e : j = K 0 1
    · rw [if_pos e, if_pos e, if_pos e, if_pos e]
      exact ⟨ha, hb, Nat.le_refl _⟩
    · rw [if_neg e, if_neg e, if_neg e, if_neg e]
      exact h7 j (by omega)
  · have hj : j + 1 < K 0 1 + 1 := hj
    rw [e3 j (by omega), e4 j (by omega)]
    by_cases e : j + 1 = K 0 1
    · rw [e, m3]
      have := (h9 (by omega)).2
      rw [show K 0 1 - 1 = j by omega] at this
      exact this.symm
    · rw [e3 (j + 1) (by omega)]
      exact h8 j (by omega)
  · show addM K a b 3 0 = 0 ∧ addM K a b 3 (K 0 1 + 1 - 1) + addM K a b 4 (K 0 1 + 1 - 1) = K 0 2
    rw [show K 0 1 + 1 - 1 = K 0 1 by omega, m3, m4]
    refine ⟨?_, rfl⟩
    by_cases e : K 0 1 = 0
    · have := m3
      rw [e] at this
      rw [this]
      exact h6 e
    · rw [e3 0 (by omega)]
      exact (h9 (by omega)).1
  · have ho : o < K 0 2 := ho
    obtain ⟨q1, q2, q3, q4, q5, q6, q7, q8, q9⟩ := h10 o ho
    refine ⟨(show K 5 o < K 0 1 + 1 by omega), q2, q3, q4, q5, q6, q7, ?_, ?_⟩
    · show addM K a b 3 (K 5 o) ≤ o
      rw [e3 _ q1]; exact q8
    · show o < addM K a b 3 (K 5 o) + addM K a b 4 (K 5 o)
      rw [e3 _ q1, e4 _ q1]; exact q9
theorem wf_addO {K : KT} {z t : Nat} (h : WfK K) (hZ : ZrK K) (h0 : 0 < K 0 1) (hO : K 0 2 < 8) (hz1 : 1 ≤ z) (hz : z ≤ 9) (ht : t ≤ 9) : WfK (addO K z t) := by
  obtain ⟨h1, h2, h3, h4, h5, h6, h7, h8, h9, h10⟩ := h
  have g9 := h9 h0
  have e4 : ∀ j, K 4 j ≤ addO K z t 4 j ∧ addO K z t 4 j ≤ K 4 j + 1 := fun j => by
    show K 4 j ≤ (if j = K 0 1 - 1 then K 4 j + 1 else K 4 j) ∧ (if j = K 0 1 - 1 then K 4 j + 1 else K 4 j) ≤ K 4 j + 1
    split <;> omega
  have n4 : ∀ j, ¬ j = K 0 1 - 1 → addO K z t 4 j = K 4 j := fun j hj => if_neg hj
  have m4 : addO K z t 4 (K 0 1 - 1) = K 4 (K 0 1 - 1) + 1 := if_pos rfl
  refine ⟨h1, h2, (show K 0 2 + 1 ≤ 8 by omega), h4, h5, fun g => absurd (show K 0 1 = 0 from g) (by omega), fun j hj => ?_, fun j hj => ?_, fun _ => ?_, fun o ho => ?_⟩
  · obtain ⟨a1, a2, a3⟩ := h7 j hj
    refine ⟨a1, a2, ?_⟩
    show K 3 j + addO K z t 4 j ≤ K 0 2 + 1
    have := (e4 j).2
    omega
  · have hj : j + 1 < K 0 1 := hj
    show K 3 (j + 1) = K 3 j + addO K z t 4 j
    rw [n4 j (by omega)]
    exact h8 j hj
  · show K 3 0 = 0 ∧ K 3 (K 0 1 - 1) + addO K z t 4 (K 0 1 - 1) = K 0 2 + 1
    rw [m4]
    exact ⟨g9.1, by omega⟩
  · have ho : o < K 0 2 + 1 := ho
    have z8 := hZ 8 o (by omega)
    have z9 := hZ 9 o (by omega)
    have z10 := hZ 10 o (by omega)
    show (if o = K 0 2 then K 0 1 - 1 else K 5 o) < K 0 1 ∧ 1 ≤ (if o = K 0 2 then z else K 6 o) ∧ (if o = K 0 2 then z else K 6 o) ≤ 9 ∧ (if o = K 0 2 then t else K 7 o) ≤ 9 ∧ K 8 o ≤ 2 ∧ K 9 o ≤ 999 ∧ K 10 o ≤ 1 ∧ K 3 (if o = K 0 2 then K 0 1 - 1 else K 5 o) ≤ o ∧ o < K 3 (if o = K 0 2 then K 0 1 - 1 else K 5 o) + addO K z t 4 (if o = K 0 2 then K 0 1 - 1 else K 5 o)
    by_cases e : o = K 0 2
    · rw [if_pos e, if_pos e, if_pos e, m4]
      refine ⟨by omega, hz1, hz, ht, by omega, by omega, by omega, by omega, by omega⟩
    · rw [if_neg e, if_neg e, if_neg e]
      obtain ⟨q1, q2, q3, q4, q5, q6, q7, q8, q9⟩ := h10 o (by omega)
      have := (e4 (K 5 o)).1
      exact ⟨q1, q2, q3, q4, q5, q6, q7, q8, by omega⟩
abbrev PR : Type := Bool × Nat × KT
def pOut (cd : Nat → Int32) : Nat → Nat → KT → PR
  | 0, p, K => (true, p, K)
  | r + 1, p, K => if cd p = 111 then (match dg (cd (p + 1)) with
    | none => (false, p + 1, K)
    | some z => if z = 0 then (false, p + 1, K) else (match dg (cd (p + 2)) with
      | none => (false, p + 2, K)
      | some h => pOut cd r (p + 3) (addO K z h))) else (true, p, K)
def pMile (cd : Nat → Int32) (p : Nat) (K : KT) : PR := match dg (cd p) with
  | none => (false, p, K)
  | some a => match dg (cd (p + 1)) with
    | none => (false, p + 1, K)
    | some b => pOut cd (8 - K 0 2) (p + 2) (addM K a b)
def pOne (cd : Nat → Int32) (p : Nat) (K : KT) : PR := if cd p = 59 then (if cd (p + 1) = 109 then pMile cd (p + 2) K else (false, p + 1, K)) else (false, p, K)
def pMls (cd : Nat → Int32) (n : Nat) : Nat → Nat → KT → PR
  | 0, p, K => (false, p, K)
  | r + 1, p, K => if (pOne cd p K).1 = true then (if (pOne cd p K).2.1 < n then pMls cd n r (pOne cd p K).2.1 (pOne cd p K).2.2 else pOne cd p K) else pOne cd p K
def K0w (w s : Nat) : KT := fun f i => if f = 0 then (if i = 0 then w else if i = 3 then s else 0) else 0
def pWid (cd : Nat → Int32) (n w p s : Nat) : PR := if w = 0 then (false, 1, K0w 0 s) else pMls cd n 10 p (K0w w s)
def pAll (cd : Nat → Int32) (n s : Nat) : PR := if cd 0 = 119 then (match dg (cd 1) with
  | none => (false, 1, K0w 0 s)
  | some a => match dg (cd 2) with
    | none => pWid cd n a 2 s
    | some b => pWid cd n (10 * a + b) 3 s) else (false, 0, K0w 0 s)
theorem K0w_wf {w s : Nat} (hw : w ≤ 99) (hs : s ≤ 99) : WfK (K0w w s) := ⟨hw, Nat.zero_le _, Nat.zero_le _, hs, fun g => absurd g (Nat.lt_irrefl 0), fun _ => rfl, fun j hj => absurd hj (Nat.not_lt_zero j), fun j hj => absurd hj (Nat.not_lt_zero _), fun g => absurd g (Nat.lt_irrefl 0), fun o ho => absurd ho (Nat.not_lt_zero o)⟩
theorem K0w_z (w s : Nat) : ZrK (K0w w s) := fun f i hf => if_neg (by omega)
/-- what stays while a text is read -/
def pGd (K K' : KT) (m : Nat) : Prop := WfK K' ∧ ZrK K' ∧ K' 0 0 = K 0 0 ∧ K' 0 3 = K 0 3 ∧ K' 0 1 = K 0 1 + m
theorem pOut_gd {cd : Nat → Int32} : ∀ r p (K : KT), WfK K → ZrK K → 0 < K 0 1 → K 0 2 + r ≤ 8 → pGd K (pOut cd r p K).2.2 0
  | 0, p, K, h1, h2, h3, h4 => ⟨h1, h2, rfl, rfl, rfl⟩
  | r + 1, p, K, h1, h2, h3, h4 => by
    have self : pGd K K 0 := ⟨h1, h2, rfl, rfl, rfl⟩
    by_cases c : cd p = 111
    · cases e1 : dg (cd (p + 1)) with
      | none =>
        have e : pOut cd (r + 1) p K = (false, p + 1, K) := by show (if cd p = 111 then _ else _) = _; rw [if_pos c, e1]
        rw [e]; exact self
      | some z =>
        by_cases z0 : z = 0
        · have e : pOut cd (r + 1) p K = (false, p + 1, K) := by show (if cd p = 111 then _ else _) = _; rw [if_pos c, e1]; exact if_pos z0
          rw [e]; exact self
        · cases e2 : dg (cd (p + 2)) with
          | none =>
            have e : pOut cd (r + 1) p K = (false, p + 2, K) := by
              show (if cd p = 111 then _ else _) = _
              rw [if_pos c, e1]
              show (if z = 0 then _ else _) = _
              rw [if_neg z0, e2]
            rw [e]; exact self
          | some h =>
            have e : pOut cd (r + 1) p K = pOut cd r (p + 3) (addO K z h) := by
              show (if cd p = 111 then _ else _) = _
              rw [if_pos c, e1]
              show (if z = 0 then _ else _) = _
              rw [if_neg z0, e2]
            rw [e]
            have hz := (dg_y e1).1
            have ht := (dg_y e2).1
            have := pOut_gd (cd := cd) r (p + 3) (addO K z h) (wf_addO h1 h2 h3 (by omega) (by omega) hz ht) (zr_addO h2 z h) h3 (show K 0 2 + 1 + r ≤ 8 by omega)
            exact this
    · have e : pOut cd (r + 1) p K = (true, p, K) := by show (if cd p = 111 then _ else _) = _; rw [if_neg c]
      rw [e]; exact self
theorem pMile_gd {cd : Nat → Int32} {p : Nat} {K : KT} (h1 : WfK K) (h2 : ZrK K) (h0 : 0 < K 0 0) (hm : K 0 1 < 10) (h : (pMile cd p K).1 = true) : pGd K (pMile cd p K).2.2 1 := by
  unfold pMile at h ⊢
  cases e1 : dg (cd p) with
  | none => rw [e1] at h; cases h
  | some a =>
    rw [e1] at h
    cases e2 : dg (cd (p + 1)) with
    | none => rw [e2] at h; cases h
    | some b =>
      have := pOut_gd (cd := cd) (8 - K 0 2) (p + 2) (addM K a b) (wf_addM h1 h0 hm (dg_y e1).1 (dg_y e2).1) (zr_addM h2 a b) (show 0 < K 0 1 + 1 by omega) (show K 0 2 + (8 - K 0 2) ≤ 8 by have := h1.2.2.1; omega)
      exact this
theorem pOne_gd {cd : Nat → Int32} {p : Nat} {K : KT} (h1 : WfK K) (h2 : ZrK K) (h0 : 0 < K 0 0) (hm : K 0 1 < 10) (h : (pOne cd p K).1 = true) : pGd K (pOne cd p K).2.2 1 := by
  unfold pOne at h ⊢
  by_cases c1 : cd p = 59
  · rw [if_pos c1] at h ⊢
    by_cases c2 : cd (p + 1) = 109
    · rw [if_pos c2] at h ⊢
      exact pMile_gd h1 h2 h0 hm h
    · rw [if_neg c2] at h; cases h
  · rw [if_neg c1] at h; cases h
theorem pMls_gd {cd : Nat → Int32} {n : Nat} : ∀ r p (K : KT), WfK K → ZrK K → 0 < K 0 0 → K 0 1 + r = 10 → (pMls cd n r p K).1 = true → WfK (pMls cd n r p K).2.2 ∧ ZrK (pMls cd n r p K).2.2 ∧ (pMls cd n r p K).2.2 0 3 = K 0 3
  | 0, p, K, h1, h2, h0, hm, h => by cases h
  | r + 1, p, K, h1, h2, h0, hm, h => by
    by_cases c1 : (pOne cd p K).1 = true
    · have g := pOne_gd h1 h2 h0 (by omega) c1
      by_cases c2 : (pOne cd p K).2.1 < n
      · have e : pMls cd n (r + 1) p K = pMls cd n r (pOne cd p K).2.1 (pOne cd p K).2.2 := by show (if (pOne cd p K).1 = true then _ else _) = _; rw [if_pos c1, if_pos c2]
        rw [e] at h ⊢
        obtain ⟨g1, g2, g3, g4, g5⟩ := g
        have := pMls_gd (cd := cd) (n := n) r (pOne cd p K).2.1 (pOne cd p K).2.2 g1 g2 (by omega) (by omega) h
        exact ⟨this.1, this.2.1, by rw [this.2.2, g4]⟩
      · have e : pMls cd n (r + 1) p K = pOne cd p K := by show (if (pOne cd p K).1 = true then _ else _) = _; rw [if_pos c1, if_neg c2]
        rw [e]
        exact ⟨g.1, g.2.1, g.2.2.2.1⟩
    · have e : pMls cd n (r + 1) p K = pOne cd p K := by show (if (pOne cd p K).1 = true then _ else _) = _; rw [if_neg c1]
      rw [e] at h
      exact absurd h c1
def cdv (c : Nat → Int32) (i n p : Nat) : Int32 := if p < n then c (i + p) else -1
theorem cdv_lt {c : Nat → Int32} {i n p v : Nat} (h : cdv c i n p = nI v) (hv : v < 256) : p < n := by
  unfold cdv at h
  split at h
  · assumption
  · exfalso
    have e := congrArg Int32.toInt h
    rw [nI_toInt (by omega)] at e
    have e : (-1 : Int) = (v : Int) := e
    omega
theorem cdv_dg {c : Nat → Int32} {i n p a : Nat} (h : dg (cdv c i n p) = some a) : p < n := by
  have := dg_y h
  exact cdv_lt this.2.1 (by omega)
