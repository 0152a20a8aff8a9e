theorem vc_gd {b : Bool} {a : Prop} (h : b = true) (x : a) : am_gd b a := by
  subst h
  exact x
theorem ctN_f {p : Nat → Bool} : ∀ n, (∀ y, y < n → p y = false) → ctN p n = 0
  | 0, _ => rfl
  | n + 1, h => by
    show ctN p n + (if p n then 1 else 0) = 0
    rw [ctN_f n (fun y hy => h y (by omega)), h n (by omega)]
    rfl
theorem ctN_c {p q : Nat → Bool} : ∀ n, (∀ y, y < n → p y = q y) → ctN p n = ctN q n
  | 0, _ => rfl
  | n + 1, h => by
    show ctN p n + (if p n then 1 else 0) = ctN q n + (if q n then 1 else 0)
    rw [ctN_c n (fun y hy => h y (by omega)), h n (by omega)]
theorem ctN_le {p : Nat → Bool} : ∀ n, ctN p n ≤ n
  | 0 => Nat.le_refl 0
  | n + 1 => by
    have := ctN_le (p := p) n
    show ctN p n + (if p n then 1 else 0) ≤ n + 1
    split <;> omega
theorem ctN_3 {p : Nat → Bool} : ∀ n, ctN p (3 * n) = ctN (fun y => p (3 * y)) n + ctN (fun y => p (3 * y + 1)) n + ctN (fun y => p (3 * y + 2)) n
  | 0 => rfl
  | n + 1 => by
    have ih := ctN_3 (p := p) n
    show ctN p (3 * n) + (if p (3 * n) then 1 else 0) + (if p (3 * n + 1) then 1 else 0) + (if p (3 * n + 2) then 1 else 0) = ctN (fun y => p (3 * y)) n + (if p (3 * n) then 1 else 0) + (ctN (fun y => p (3 * y + 1)) n + (if p (3 * n + 1) then 1 else 0)) + (ctN (fun y => p (3 * y + 2)) n + (if p (3 * n + 2) then 1 else 0))
    rw [ih]
    omega
def cG (O : Nat) (p : Nat → Bool) (x o : Nat) : Nat := ctN (fun y => p (x + 3 ^ o * y)) (3 ^ (O - o))
theorem cG_step {O : Nat} {p : Nat → Bool} {x o : Nat} (ho : o < O) : cG O p x o = cG O p (x + 3 ^ o * 0) (o + 1) + cG O p (x + 3 ^ o * 1) (o + 1) + cG O p (x + 3 ^ o * 2) (o + 1) := by
  unfold cG
  rw [show O - o = (O - (o + 1)) + 1 by omega, Nat.pow_succ, Nat.mul_comm _ 3, ctN_3]
  have e : ∀ k y, x + 3 ^ o * (3 * y + k) = x + 3 ^ o * k + 3 ^ (o + 1) * y := fun k y => by
    rw [Nat.mul_add, Nat.pow_succ, Nat.mul_assoc]
    omega
  have e0 : ∀ y, x + 3 ^ o * (3 * y) = x + 3 ^ o * 0 + 3 ^ (o + 1) * y := fun y => by
    have := e 0 y
    rw [Nat.add_zero] at this
    exact this
  congr 1
  · congr 1
    · exact ctN_c _ (fun y _ => by rw [e0])
    · exact ctN_c _ (fun y _ => by rw [e])
  · exact ctN_c _ (fun y _ => by rw [e])
theorem cG_end {O : Nat} {p : Nat → Bool} {x : Nat} : cG O p x O = if p x = true then 1 else 0 := by
  unfold cG
  rw [Nat.sub_self, Nat.pow_zero]
  show 0 + (if p (x + 3 ^ O * 0) then 1 else 0) = _
  rw [Nat.mul_zero, Nat.add_zero, Nat.zero_add]
theorem cG_top {O : Nat} {p : Nat → Bool} : cG O p 0 0 = ctN p (3 ^ O) := by
  unfold cG
  rw [Nat.sub_zero]
  exact ctN_c _ (fun y _ => by rw [Nat.pow_zero, Nat.one_mul, Nat.zero_add])
theorem p3 (n : Nat) : 0 < 3 ^ n := Nat.pow_pos (by omega)
theorem kdw_lt (w o : Nat) : kdw w o < 3 := Nat.mod_lt _ (by omega)
theorem kdw_pre {x o y z : Nat} (hz : z < o) : kdw (x + 3 ^ o * y) z = kdw x z := by
  unfold kdw
  obtain ⟨e, he⟩ : ∃ e, o = z + 1 + e := ⟨o - (z + 1), by omega⟩
  have e1 : 3 ^ o * y = 3 ^ z * (3 * (3 ^ e * y)) := by rw [he, Nat.pow_add, Nat.pow_add, Nat.pow_one, Nat.mul_assoc, Nat.mul_assoc]
  rw [e1, Nat.add_comm, Nat.mul_add_div (p3 z), Nat.add_comm, Nat.add_mul_mod_self_left]
theorem kdw_div {x o y z : Nat} (hx : x < 3 ^ o) (hz : o ≤ z) : kdw (x + 3 ^ o * y) z = y / 3 ^ (z - o) % 3 := by
  unfold kdw
  rw [show z = o + (z - o) by omega, Nat.pow_add, ← Nat.div_div_eq_div_mul, Nat.add_comm x, Nat.mul_add_div (p3 o), Nat.div_eq_of_lt hx, Nat.add_zero, show o + (z - o) - o = z - o by omega]
theorem kdw_at {x o k y : Nat} (hx : x < 3 ^ o) (hk : k < 3) : kdw (x + 3 ^ o * k + 3 ^ (o + 1) * y) o = k := by
  have e : x + 3 ^ o * k + 3 ^ (o + 1) * y = x + 3 ^ o * (k + 3 * y) := by rw [Nat.mul_add, Nat.pow_succ, Nat.mul_assoc]; omega
  rw [e, kdw_div hx (Nat.le_refl _), Nat.sub_self, Nat.pow_zero, Nat.div_one]
  omega
theorem x_lt {x o k : Nat} (hx : x < 3 ^ o) (hk : k < 3) : x + 3 ^ o * k < 3 ^ (o + 1) := by
  have : 3 ^ o * k ≤ 3 ^ o * 2 := Nat.mul_le_mul_left _ (by omega)
  rw [Nat.pow_succ]
  omega
theorem cst_s {K : KT} {T : Nat → Nat → Nat → Nat} {f : Nat} (o : Nat) : cst K T f (o + 1) = (watS K o (cst K T f o).1 - T o (levS K o (cst K T f o).1 (cst K T f o).2) (watS K o (cst K T f o).1), levS K o (cst K T f o).1 (cst K T f o).2) := rfl
theorem cst_kc {K : KT} {kd kd' : Nat → Nat} {nt f : Nat} : ∀ o, (∀ z, z < o → kd z = kd' z) → cst K (Tk K kd nt) f o = cst K (Tk K kd' nt) f o
  | 0, _ => rfl
  | o + 1, h => by
    have ih := cst_kc (K := K) (nt := nt) (f := f) o (fun z hz => h z (by omega))
    show (watS K o _ - s_tk K o (kd o) _ _ nt, _) = (watS K o _ - s_tk K o (kd' o) _ _ nt, _)
    rw [ih, h o (by omega)]
theorem cst_kgo {K : KT} {kd kd' : Nat → Nat} {nt f o : Nat} (e : cst K (Tk K kd nt) f o = cst K (Tk K kd' nt) f o) : ∀ n, (∀ z, o ≤ z → z < o + n → kd z = kd' z) → cst K (Tk K kd nt) f (o + n) = cst K (Tk K kd' nt) f (o + n)
  | 0, _ => e
  | n + 1, h => by
    have ih := cst_kgo e n (fun z h1 h2 => h z h1 (by omega))
    have et : Tk K kd nt (o + n) = Tk K kd' nt (o + n) := by
      unfold Tk
      rw [h (o + n) (by omega) (by omega)]
    rw [← Nat.add_assoc, cst_s, cst_s, ih, et]
/-- the outlet in front of which what comes behind mile j is told -/
theorem sin_at {K : KT} (h : WfK K) {j : Nat} (hj : j < K 0 1) : ∃ o, o ≤ K 0 2 ∧ frm K o ≤ j + 1 ∧ (o < K 0 2 → j + 1 ≤ K 5 o) := by
  have hb := (h.2.2.2.2.2.2.1 j hj).2.2
  refine ⟨K 3 j + K 4 j, hb, ?_, fun g => ?_⟩
  · unfold frm
    split
    · omega
    · have q := h.2.2.2.2.2.2.2.2.2 (K 3 j + K 4 j - 1) (by omega)
      by_cases c : j < K 5 (K 3 j + K 4 j - 1)
      · have := wf_mono h _ c q.1
        have := q.2.2.2.2.2.2.2.1
        omega
      · omega
  · have q := h.2.2.2.2.2.2.2.2.2 _ g
    have q9 := q.2.2.2.2.2.2.2.2
    by_cases c : K 5 (K 3 j + K 4 j) ≤ j
    · exfalso
      by_cases c2 : K 5 (K 3 j + K 4 j) = j
      · rw [c2] at q9
        omega
      · have := wf_mono h j (i := K 5 (K 3 j + K 4 j)) (by omega) hj
        omega
    · omega
theorem frm_mono {K : KT} (h : WfK K) {a b : Nat} (hab : a ≤ b) (hb : b ≤ K 0 2) : frm K a ≤ frm K b := by
  unfold frm
  split
  · omega
  · rw [if_neg (by omega)]
    have := K5_mono h (x := a - 1) (y := b - 1) (by omega) (by omega)
    omega
theorem pass_c {K : KT} (h : WfK K) {o j nt f : Nat} {kd kd' : Nat → Nat} (ho : o ≤ K 0 2) (hj : j < K 0 1) (h1 : j + 1 < frm K o) (hk : ∀ z, z < o → kd z = kd' z) : s_in K kd nt f (j + 1) = s_in K kd' nt f (j + 1) := by
  obtain ⟨o', g1, g2, g3⟩ := sin_at h hj
  have hlt : o' < o := by
    by_cases c : o' < o
    · exact c
    · have := frm_mono h (a := o) (b := o') (by omega) g1
      by_cases e : o = 0
      · rw [e] at h1
        have : frm K 0 = 0 := rfl
        omega
      · omega
  rw [s_in_ch h g1 g2 (by omega) g3, s_in_ch h g1 g2 (by omega) g3, cst_kc o' (fun z hz => hk z (by omega))]
theorem here_v {K : KT} (h : WfK K) {o j nt f : Nat} {kd kd' : Nat → Nat} (ho : o ≤ K 0 2) (hj : j < K 0 1) (h1 : frm K o ≤ j + 1) (h2 : o < K 0 2 → j + 1 ≤ K 5 o) (hk : ∀ z, z < o → kd z = kd' z) : s_in K kd nt f (j + 1) = sq K (frm K o) (cst K (Tk K kd' nt) f o).1 (j + 1 - frm K o) := by
  rw [s_in_ch h ho h1 (by omega) h2, cst_kc o hk]
theorem alike_c {K : KT} (h : WfK K) {o j nt f : Nat} {kd kd' : Nat → Nat} (ho : o < K 0 2) (hj : j < K 0 1) (h1 : K 5 o ≤ j) (e : cst K (Tk K kd nt) f (o + 1) = cst K (Tk K kd' nt) f (o + 1)) (hk : ∀ z, o + 1 ≤ z → kd z = kd' z) : s_in K kd nt f (j + 1) = s_in K kd' nt f (j + 1) := by
  obtain ⟨o', g1, g2, g3⟩ := sin_at h hj
  have hlt : o + 1 ≤ o' := by
    by_cases c : o + 1 ≤ o'
    · exact c
    · have := K5_mono h (x := o') (y := o) (by omega) ho
      have := g3 (by omega)
      omega
  have e2 := cst_kgo e (o' - (o + 1)) (fun z h1 _ => hk z h1)
  rw [show o + 1 + (o' - (o + 1)) = o' by omega] at e2
  rw [s_in_ch h g1 g2 (by omega) g3, s_in_ch h g1 g2 (by omega) g3, e2]
theorem fit_iff {K Q : KT} {w : Nat} : fitQ K Q w = true ↔ ∀ k, k < Q 0 0 → s_in K (kdw w) (Q 3 k) (Q 2 k) (Q 1 k + 1) = Q 4 k := by
  unfold fitQ
  rw [List.all_eq_true]
  constructor
  · intro g k hk
    exact eq_of_beq (g k (List.mem_range.mpr hk))
  · intro g k hk
    rw [g k (List.mem_range.mp hk)]
    exact beq_self_eq_true _
def WH (K Q : KT) (Hn : Nat) : Prop := Q 0 0 ≤ 10 ∧ (Hn = Q 0 0 ∨ (Hn = Q 0 0 + 1 ∧ Q 1 (Q 0 0) + 1 = K 0 1)) ∧ ∀ h, h < Hn → Q 1 h < K 0 1 ∧ Q 2 h ≤ 9999 ∧ Q 3 h ≤ 1 ∧ (h < Q 0 0 → Q 4 h ≤ 9999)
def RepH (σ : am_Sg) (Q : KT) (Hn : Nat) : Prop := σ 43 0 = nI (Q 0 0) ∧ σ 43 5 = nI Hn ∧ (∀ h, h < Hn → σ 54 h = nI (Q 2 h) ∧ σ 55 h = nI (Q 3 h) ∧ σ 56 h = nI (Q 1 h)) ∧ ∀ h, h < Q 0 0 → σ 57 h = nI (Q 4 h)
theorem RepH.fr {σ σ' : am_Sg} {Q : KT} {Hn : Nat} (h : RepH σ Q Hn) (hf : ∀ q, q = 43 ∨ (54 ≤ q ∧ q ≤ 57) → σ' q = σ q) : RepH σ' Q Hn := by
  unfold RepH
  rw [hf 43 (by omega), hf 54 (by omega), hf 55 (by omega), hf 56 (by omega), hf 57 (by omega)]
  exact h
theorem WH.le {K Q : KT} {Hn : Nat} (h : WH K Q Hn) : Q 0 0 ≤ Hn ∧ Hn ≤ 11 := by
  obtain ⟨h1, h2, h3⟩ := h
  omega
def cs (K Q : KT) (x o h : Nat) : Nat × Nat := cst K (Tk K (kdw x) (Q 3 h)) (Q 2 h) o
def wtr (K Q : KT) (x o h : Nat) : Nat := watS K o (cs K Q x o h).1
def lvl (K Q : KT) (x o h : Nat) : Nat := levS K o (cs K Q x o h).1 (cs K Q x o h).2
theorem cs_le {K Q : KT} {Hn x o h : Nat} (hH : WH K Q Hn) (hh : h < Hn) : (cs K Q x o h).1 ≤ 9999 := Nat.le_trans (cst_le o) (hH.2.2 h hh).2.1
theorem cs_next {K Q : KT} {x o h k : Nat} (hx : x < 3 ^ o) (hk : k < 3) : cs K Q (x + 3 ^ o * k) (o + 1) h = (wtr K Q x o h - s_tk K o k (lvl K Q x o h) (wtr K Q x o h) (Q 3 h), lvl K Q x o h) := by
  have e : cst K (Tk K (kdw (x + 3 ^ o * k)) (Q 3 h)) (Q 2 h) o = cs K Q x o h := cst_kc o (fun z hz => kdw_pre hz)
  have e2 : kdw (x + 3 ^ o * k) o = k := by
    have := kdw_at (x := x) (o := o) (k := k) (y := 0) hx hk
    rw [Nat.mul_zero, Nat.add_zero] at this
    exact this
  show (watS K o (cst K (Tk K (kdw (x + 3 ^ o * k)) (Q 3 h)) (Q 2 h) o).1 - s_tk K o (kdw (x + 3 ^ o * k) o) _ _ (Q 3 h), _) = _
  rw [e, e2]
  rfl
def tom (K : KT) (o : Nat) : Nat := if o < K 0 2 then K 5 o else K 0 1
theorem tom_le {K : KT} (h : WfK K) (o : Nat) : tom K o ≤ K 0 1 := by
  unfold tom
  split
  · exact Nat.le_of_lt (h.2.2.2.2.2.2.2.2.2 o (by assumption)).1
  · exact Nat.le_refl _
theorem frm_tom {K : KT} (h : WfK K) {o : Nat} (ho : o ≤ K 0 2) : frm K o ≤ tom K o + 1 := by
  unfold tom
  split
  · exact frm_le h (by assumption)
  · have := frm_leM h ho
    omega
