def sq (K : KT) (j w : Nat) : Nat → Nat
  | 0 => w
  | n + 1 => sq K j w n - s_sp K (j + n) (sq K j w n)
def frm (K : KT) (o : Nat) : Nat := if o = 0 then 0 else K 5 (o - 1) + 1
abbrev smM (K : KT) (o : Nat) : Prop := 0 < o ∧ K 5 (o - 1) = K 5 o
def watS (K : KT) (o c : Nat) : Nat := if smM K o then c else sq K (frm K o) c (K 5 o + 1 - frm K o)
def levS (K : KT) (o c l : Nat) : Nat := if smM K o then l else s_lv K (K 5 o) (watS K o c)
def cst (K : KT) (T : Nat → Nat → Nat → Nat) (f : Nat) : Nat → Nat × Nat
  | 0 => (f, 0)
  | o + 1 => (watS K o (cst K T f o).1 - T o (levS K o (cst K T f o).1 (cst K T f o).2) (watS K o (cst K T f o).1), levS K o (cst K T f o).1 (cst K T f o).2)
def Tk (K : KT) (kd : Nat → Nat) (nt : Nat) : Nat → Nat → Nat → Nat := fun o lv w => s_tk K o (kd o) lv w nt
theorem sq_le {K : KT} {j w : Nat} : ∀ n, sq K j w n ≤ w
  | 0 => Nat.le_refl w
  | n + 1 => Nat.le_trans (Nat.sub_le _ _) (sq_le n)
theorem watS_le {K : KT} {o c : Nat} : watS K o c ≤ c := by
  unfold watS
  split
  · exact Nat.le_refl c
  · exact sq_le _
theorem cst_le {K : KT} {T : Nat → Nat → Nat → Nat} {f : Nat} : ∀ o, (cst K T f o).1 ≤ f
  | 0 => Nat.le_refl f
  | o + 1 => Nat.le_trans (Nat.sub_le _ _) (Nat.le_trans watS_le (cst_le o))
theorem K5_mono {K : KT} (h : WfK K) {x y : Nat} (hxy : x ≤ y) (hy : y < K 0 2) : K 5 x ≤ K 5 y := by
  have q1 := h.2.2.2.2.2.2.2.2.2 x (by omega)
  have q2 := h.2.2.2.2.2.2.2.2.2 y hy
  by_cases c : K 5 y < K 5 x
  · have := wf_mono h (K 5 x) c q1.1
    have := q1.2.2.2.2.2.2.2.1
    have := q2.2.2.2.2.2.2.2.2
    omega
  · omega
theorem frm_le {K : KT} (h : WfK K) {o : Nat} (ho : o < K 0 2) : frm K o ≤ K 5 o + 1 := by
  unfold frm
  split
  · omega
  · have := K5_mono h (x := o - 1) (y := o) (by omega) ho
    omega
theorem frm_leM {K : KT} (h : WfK K) {o : Nat} (ho : o ≤ K 0 2) : frm K o ≤ K 0 1 := by
  unfold frm
  split
  · omega
  · have := (h.2.2.2.2.2.2.2.2.2 (o - 1) (by omega)).1
    omega
theorem emp {K : KT} (h : WfK K) {o j : Nat} (ho : o ≤ K 0 2) (h1 : frm K o ≤ j) (h2 : j < K 0 1) (h3 : o < K 0 2 → j < K 5 o) : K 4 j = 0 := by
  by_cases c : K 4 j = 0
  · exact c
  · exfalso
    obtain ⟨g1, g2⟩ := wf_mile h h2 (o := K 3 j) (Nat.le_refl _) (by omega)
    by_cases c2 : K 3 j < o
    · have := K5_mono h (x := K 3 j) (y := o - 1) (by omega) (by omega)
      unfold frm at h1
      rw [if_neg (by omega)] at h1
      omega
    · have := K5_mono h (x := o) (y := K 3 j) (by omega) g1
      have := h3 (by omega)
      omega
theorem fst_o {K : KT} (h : WfK K) {o : Nat} (ho : o < K 0 2) (h1 : ¬ smM K o) : K 3 (K 5 o) = o := by
  have q := h.2.2.2.2.2.2.2.2.2 o ho
  have q8 := q.2.2.2.2.2.2.2.1
  have q9 := q.2.2.2.2.2.2.2.2
  by_cases c : K 3 (K 5 o) = o
  · exact c
  · exfalso
    obtain ⟨g1, g2⟩ := wf_mile h q.1 (o := K 3 (K 5 o)) (Nat.le_refl _) (by omega)
    have a := K5_mono h (x := K 3 (K 5 o)) (y := o - 1) (by omega) (by omega)
    have b := K5_mono h (x := o - 1) (y := o) (by omega) ho
    exact h1 ⟨by omega, by omega⟩
theorem lst_o {K : KT} (h : WfK K) {o : Nat} (ho : o < K 0 2) (h1 : o + 1 < K 0 2 → K 5 o < K 5 (o + 1)) : K 3 (K 5 o) + K 4 (K 5 o) = o + 1 := by
  have q := h.2.2.2.2.2.2.2.2.2 o ho
  have q8 := q.2.2.2.2.2.2.2.1
  have q9 := q.2.2.2.2.2.2.2.2
  by_cases c : K 3 (K 5 o) + K 4 (K 5 o) = o + 1
  · exact c
  · exfalso
    obtain ⟨g1, g2⟩ := wf_mile h q.1 (o := o + 1) (by omega) (by omega)
    have := h1 g1
    omega
theorem s_in_0 {K : KT} {kd : Nat → Nat} {nt f j : Nat} (h : K 4 j = 0) : s_in K kd nt f (j + 1) = s_in K kd nt f j - s_sp K j (s_in K kd nt f j) := by
  show s_ou K kd nt _ _ _ (K 4 j) = _
  rw [h]
  rfl
theorem flow {K : KT} (h : WfK K) {kd : Nat → Nat} {nt f o c : Nat} (ho : o ≤ K 0 2) (hb : s_in K kd nt f (frm K o) = c) : ∀ n, frm K o + n ≤ K 0 1 → (o < K 0 2 → frm K o + n ≤ K 5 o) → s_in K kd nt f (frm K o + n) = sq K (frm K o) c n
  | 0, _, _ => hb
  | n + 1, h1, h2 => by
    have ih := flow h ho hb n (by omega) (fun g => by have := h2 g; omega)
    have e := emp h ho (j := frm K o + n) (by omega) (by omega) (fun g => by have := h2 g; omega)
    rw [← Nat.add_assoc, s_in_0 e, ih]
    rfl
def ChP (K : KT) (kd : Nat → Nat) (nt f o : Nat) : Prop :=
  ((o < K 0 2 → frm K o ≤ K 5 o) → s_in K kd nt f (frm K o) = (cst K (Tk K kd nt) f o).1) ∧ (o < K 0 2 → watS K o (cst K (Tk K kd nt) f o).1 = s_ou K kd nt (s_le K kd nt f (K 5 o)) (K 3 (K 5 o)) (s_af K kd nt f (K 5 o)) (o - K 3 (K 5 o)) ∧ levS K o (cst K (Tk K kd nt) f o).1 (cst K (Tk K kd nt) f o).2 = s_le K kd nt f (K 5 o))
theorem ch_2 {K : KT} (h : WfK K) {kd : Nat → Nat} {nt f o : Nat} (ho : o < K 0 2) (hs : ¬ smM K o) (h1 : (o < K 0 2 → frm K o ≤ K 5 o) → s_in K kd nt f (frm K o) = (cst K (Tk K kd nt) f o).1) : watS K o (cst K (Tk K kd nt) f o).1 = s_ou K kd nt (s_le K kd nt f (K 5 o)) (K 3 (K 5 o)) (s_af K kd nt f (K 5 o)) (o - K 3 (K 5 o)) ∧ levS K o (cst K (Tk K kd nt) f o).1 (cst K (Tk K kd nt) f o).2 = s_le K kd nt f (K 5 o) := by
  have hm := (h.2.2.2.2.2.2.2.2.2 o ho).1
  have hf : frm K o ≤ K 5 o := by
    unfold frm
    split
    · omega
    · have := K5_mono h (x := o - 1) (y := o) (by omega) ho
      by_cases c : K 5 (o - 1) = K 5 o
      · exact absurd ⟨by omega, c⟩ hs
      · omega
  have e1 := h1 (fun _ => hf)
  have e2 := flow h (Nat.le_of_lt ho) e1 (K 5 o - frm K o) (by omega) (fun _ => by omega)
  rw [show frm K o + (K 5 o - frm K o) = K 5 o by omega] at e2
  have ew : watS K o (cst K (Tk K kd nt) f o).1 = s_af K kd nt f (K 5 o) := by
    unfold watS
    rw [if_neg hs, show K 5 o + 1 - frm K o = (K 5 o - frm K o) + 1 by omega]
    show sq K _ _ (K 5 o - frm K o) - s_sp K (frm K o + (K 5 o - frm K o)) (sq K _ _ (K 5 o - frm K o)) = s_in K kd nt f (K 5 o) - s_sp K (K 5 o) (s_in K kd nt f (K 5 o))
    rw [← e2, show frm K o + (K 5 o - frm K o) = K 5 o by omega]
  refine ⟨?_, ?_⟩
  · rw [ew, fst_o h ho hs, Nat.sub_self]
    rfl
  · unfold levS
    rw [if_neg hs, ew]
    rfl
theorem chain {K : KT} (h : WfK K) (kd : Nat → Nat) (nt f : Nat) : ∀ o, o ≤ K 0 2 → ChP K kd nt f o
  | 0, ho => by
    have h1 : s_in K kd nt f (frm K 0) = (cst K (Tk K kd nt) f 0).1 := rfl
    exact ⟨fun _ => h1, fun g => ch_2 h g (fun q => by have := q.1; omega) (fun _ => h1)⟩
  | o + 1, ho => by
    obtain ⟨_, ih⟩ := chain h kd nt f o (by omega)
    obtain ⟨i1, i2⟩ := ih (by omega)
    have q8 := (h.2.2.2.2.2.2.2.2.2 o (by omega)).2.2.2.2.2.2.2.1
    have ec : (cst K (Tk K kd nt) f (o + 1)).1 = s_ou K kd nt (s_le K kd nt f (K 5 o)) (K 3 (K 5 o)) (s_af K kd nt f (K 5 o)) (o - K 3 (K 5 o) + 1) := by
      show watS K o _ - Tk K kd nt o (levS K o _ _) (watS K o _) = _
      rw [i1, i2]
      show _ - s_tk K o (kd o) _ _ nt = s_ou K kd nt _ _ _ (o - K 3 (K 5 o)) - s_tk K (K 3 (K 5 o) + (o - K 3 (K 5 o))) (kd (K 3 (K 5 o) + (o - K 3 (K 5 o)))) _ _ nt
      rw [show K 3 (K 5 o) + (o - K 3 (K 5 o)) = o by omega]
    have ef : frm K (o + 1) = K 5 o + 1 := if_neg (by omega)
    have h1 : (o + 1 < K 0 2 → frm K (o + 1) ≤ K 5 (o + 1)) → s_in K kd nt f (frm K (o + 1)) = (cst K (Tk K kd nt) f (o + 1)).1 := by
      intro g
      rw [ef] at g
      have l := lst_o h (o := o) (by omega) (fun q => by have := g q; omega)
      rw [ef, ec]
      show s_ou K kd nt _ _ _ (K 4 (K 5 o)) = _
      rw [show K 4 (K 5 o) = o - K 3 (K 5 o) + 1 by omega]
      rfl
    refine ⟨h1, fun g => ?_⟩
    by_cases hs : smM K (o + 1)
    · have e5 : K 5 o = K 5 (o + 1) := hs.2
      unfold watS levS
      rw [if_pos hs, if_pos hs, ec]
      refine ⟨by rw [← e5, show o + 1 - K 3 (K 5 o) = o - K 3 (K 5 o) + 1 by omega], ?_⟩
      show levS K o _ _ = _
      rw [i2, e5]
    · exact ch_2 h g hs h1
theorem s_ta_ch {K : KT} (h : WfK K) {kd : Nat → Nat} {nt f o : Nat} (ho : o < K 0 2) : s_ta K kd nt f o = Tk K kd nt o (levS K o (cst K (Tk K kd nt) f o).1 (cst K (Tk K kd nt) f o).2) (watS K o (cst K (Tk K kd nt) f o).1) := by
  obtain ⟨e1, e2⟩ := (chain h kd nt f o (by omega)).2 ho
  rw [e1, e2]
  rfl
/-- water that comes behind mile j (into mile j + 1 ..), told by the outlet in front of which mile j lies -/
theorem s_in_ch {K : KT} (h : WfK K) {kd : Nat → Nat} {nt f o j : Nat} (ho : o ≤ K 0 2) (h1 : frm K o ≤ j) (h2 : j ≤ K 0 1) (h3 : o < K 0 2 → j ≤ K 5 o) : s_in K kd nt f j = sq K (frm K o) (cst K (Tk K kd nt) f o).1 (j - frm K o) := by
  have e := (chain h kd nt f o ho).1 (fun g => by have := h3 g; omega)
  have := flow h ho e (j - frm K o) (by omega) (fun g => by have := h3 g; omega)
  rw [show frm K o + (j - frm K o) = j by omega] at this
  exact this
