def hK (K : KT) (h : Nat → Nat) : KT := fun a b => if a = 7 then h b else K a b
theorem hK_ne {K : KT} {h : Nat → Nat} {a : Nat} (g : ¬ a = 7) : hK K h a = K a := by
  funext b
  exact if_neg g
theorem hK_7 {K : KT} {h : Nat → Nat} {b : Nat} : hK K h 7 b = h b := if_pos rfl
theorem hK_self {K : KT} : hK K (K 7) = K := by
  funext a b
  unfold hK
  split
  · rename_i e; rw [e]
  · rfl
def upf (h : Nat → Nat) (o v : Nat) : Nat → Nat := fun z => if z = o then v else h z
theorem hK_set {K : KT} {h : Nat → Nat} {o v : Nat} : setK (hK K h) 7 o v = hK K (upf h o v) := by
  funext a b
  unfold setK hK upf
  by_cases c : a = 7
  · rw [if_pos c, if_pos c]
    by_cases d : b = o
    · rw [if_pos ⟨c, d⟩, if_pos d]
    · rw [if_neg (fun q => d q.2), if_neg d]
  · rw [if_neg (fun q => c q.1), if_neg c, if_neg c]
theorem wf_hK {K : KT} {h : Nat → Nat} (hW : WfK K) (hh : ∀ z, z < K 0 2 → h z ≤ 9) : WfK (hK K h) := by
  unfold WfK
  rw [hK_ne (a := 0) (by omega), hK_ne (a := 1) (by omega), hK_ne (a := 2) (by omega), hK_ne (a := 3) (by omega), hK_ne (a := 4) (by omega), hK_ne (a := 5) (by omega), hK_ne (a := 6) (by omega), hK_ne (a := 8) (by omega), hK_ne (a := 9) (by omega), hK_ne (a := 10) (by omega)]
  obtain ⟨h1, h2, h3, h4, h5, h6, h7, h8, h9, h10⟩ := hW
  refine ⟨h1, h2, h3, h4, h5, h6, h7, h8, h9, fun o ho => ?_⟩
  obtain ⟨q1, q2, q3, q4, q5⟩ := h10 o ho
  exact ⟨q1, q2, q3, by rw [hK_7]; exact hh o ho, q5⟩
theorem sq_c {K K' : KT} (h : K' 1 = K 1) {j w : Nat} : ∀ n, sq K' j w n = sq K j w n
  | 0 => rfl
  | n + 1 => by
    show sq K' j w n - s_sp K' (j + n) (sq K' j w n) = sq K j w n - s_sp K (j + n) (sq K j w n)
    unfold s_sp
    rw [sq_c h n, h]
theorem smM_c {K K' : KT} (h5 : K' 5 = K 5) {o : Nat} : smM K' o ↔ smM K o := by
  unfold smM
  rw [h5]
theorem watS_c {K K' : KT} (h1 : K' 1 = K 1) (h5 : K' 5 = K 5) {o c : Nat} : watS K' o c = watS K o c := by
  unfold watS
  by_cases g : smM K o
  · rw [if_pos g, if_pos ((smM_c h5).mpr g)]
  · rw [if_neg g, if_neg (fun q => g ((smM_c h5).mp q)), sq_c h1]
    unfold frm
    rw [h5]
theorem levS_c {K K' : KT} (h0 : K' 0 = K 0) (h1 : K' 1 = K 1) (h2 : K' 2 = K 2) (h5 : K' 5 = K 5) {o c l : Nat} : levS K' o c l = levS K o c l := by
  unfold levS
  by_cases g : smM K o
  · rw [if_pos g, if_pos ((smM_c h5).mpr g)]
  · rw [if_neg g, if_neg (fun q => g ((smM_c h5).mp q))]
    unfold s_lv
    rw [watS_c h1 h5, h0, h2, h5]
abbrev ES : Type := Nat × Nat × Nat × Nat
def tkE (K : KT) (o c l v : Nat) : Nat := min (K 6 o * (levS K o c l - v)) (watS K o c)
def estS (K : KT) (o : Nat) (s : ES) (v : Nat) : ES := (watS K o s.1 - tkE K o s.1 s.2.1 v, levS K o s.1 s.2.1, max s.2.2.1 (tkE K o s.1 s.2.1 v), if o = 0 then tkE K o s.1 s.2.1 v else min s.2.2.2 (tkE K o s.1 s.2.1 v))
def est (K : KT) (f : Nat) (h : Nat → Nat) : Nat → ES
  | 0 => (f, 0, 0, 0)
  | o + 1 => estS K o (est K f h o) (h o)
theorem estS_t {K : KT} {o v v' : Nat} {s : ES} (h : tkE K o s.1 s.2.1 v = tkE K o s.1 s.2.1 v') : estS K o s v = estS K o s v' := by
  unfold estS
  rw [h]
theorem est_c {K : KT} {f : Nat} {h h' : Nat → Nat} : ∀ o, (∀ z, z < o → h z = h' z) → est K f h o = est K f h' o
  | 0, _ => rfl
  | o + 1, g => by
    show estS K o (est K f h o) (h o) = estS K o (est K f h' o) (h' o)
    rw [est_c o (fun z hz => g z (by omega)), g o (by omega)]
theorem est_go {K : KT} {f o : Nat} {h h' : Nat → Nat} (e : est K f h o = est K f h' o) : ∀ n, (∀ z, o ≤ z → z < o + n → h z = h' z) → est K f h (o + n) = est K f h' (o + n)
  | 0, _ => e
  | n + 1, g => by
    show estS K (o + n) (est K f h (o + n)) (h (o + n)) = estS K (o + n) (est K f h' (o + n)) (h' (o + n))
    rw [est_go e n (fun z h1 h2 => g z h1 (by omega)), g (o + n) (by omega) (by omega)]
theorem est_mono {K : KT} {f o : Nat} {h : Nat → Nat} (ho : 0 < o) : ∀ n, (est K f h o).2.2.1 ≤ (est K f h (o + n)).2.2.1 ∧ (est K f h (o + n)).2.2.2 ≤ (est K f h o).2.2.2
  | 0 => ⟨Nat.le_refl _, Nat.le_refl _⟩
  | n + 1 => by
    have ih := est_mono (K := K) (f := f) (h := h) ho n
    show _ ≤ max (est K f h (o + n)).2.2.1 _ ∧ (if o + n = 0 then _ else min (est K f h (o + n)).2.2.2 _) ≤ _
    rw [if_neg (by omega)]
    exact ⟨Nat.le_trans ih.1 (Nat.le_max_left _ _), Nat.le_trans (Nat.min_le_left _ _) ih.2⟩
theorem tkE_le {K : KT} {o c l v : Nat} : tkE K o c l v ≤ c := Nat.le_trans (Nat.min_le_right _ _) watS_le
theorem est_le {K : KT} {f : Nat} {h : Nat → Nat} : ∀ o, (est K f h o).1 ≤ f ∧ (est K f h o).2.2.1 ≤ f ∧ (est K f h o).2.2.2 ≤ (est K f h o).2.2.1
  | 0 => ⟨Nat.le_refl f, Nat.zero_le _, Nat.le_refl _⟩
  | o + 1 => by
    obtain ⟨i1, i2, i3⟩ := est_le (K := K) (f := f) (h := h) o
    have t := tkE_le (K := K) (o := o) (c := (est K f h o).1) (l := (est K f h o).2.1) (v := h o)
    have w := watS_le (K := K) (o := o) (c := (est K f h o).1)
    show watS K o (est K f h o).1 - _ ≤ f ∧ max _ _ ≤ f ∧ (if o = 0 then _ else min _ _) ≤ max _ _
    refine ⟨by omega, Nat.max_le.mpr ⟨i2, by omega⟩, ?_⟩
    split
    · exact Nat.le_max_right _ _
    · exact Nat.le_trans (Nat.min_le_right _ _) (Nat.le_max_right _ _)
def hd (O row z : Nat) : Nat := row / 10 ^ (O - 1 - z) % 10
theorem hd_le (O row z : Nat) : hd O row z ≤ 9 := by unfold hd; omega
def Sp (K : KT) (f O row : Nat) : Nat := (est K f (hd O row) O).2.2.1 - (est K f (hd O row) O).2.2.2
def stp (K : KT) (f O row : Nat) (B : Nat × Nat) : Nat × Nat := if Sp K f O row < B.1 then (Sp K f O row, row) else B
def GG (K : KT) (f O lo : Nat) : Nat → Nat × Nat → Nat × Nat
  | 0, B => B
  | n + 1, B => stp K f O (lo + n) (GG K f O lo n B)
theorem GG_app {K : KT} {f O lo a : Nat} {B : Nat × Nat} : ∀ b, GG K f O lo (a + b) B = GG K f O (lo + a) b (GG K f O lo a B)
  | 0 => rfl
  | b + 1 => by
    show stp K f O (lo + (a + b)) (GG K f O lo (a + b) B) = stp K f O (lo + a + b) (GG K f O (lo + a) b (GG K f O lo a B))
    rw [GG_app b, Nat.add_assoc]
theorem stp_le {K : KT} {f O row : Nat} {B : Nat × Nat} : (stp K f O row B).1 ≤ B.1 ∧ (stp K f O row B).1 ≤ Sp K f O row := by
  unfold stp
  split
  · exact ⟨by show Sp K f O row ≤ B.1; omega, Nat.le_refl _⟩
  · exact ⟨Nat.le_refl _, by omega⟩
theorem GG_le {K : KT} {f O lo : Nat} {B : Nat × Nat} : ∀ n, (GG K f O lo n B).1 ≤ B.1
  | 0 => Nat.le_refl _
  | n + 1 => Nat.le_trans stp_le.1 (GG_le n)
theorem GG_min {K : KT} {f O lo : Nat} {B : Nat × Nat} : ∀ n x, lo ≤ x → x < lo + n → (GG K f O lo n B).1 ≤ Sp K f O x
  | 0, x, h1, h2 => by omega
  | n + 1, x, h1, h2 => by
    by_cases e : x = lo + n
    · rw [e]; exact stp_le.2
    · exact Nat.le_trans stp_le.1 (GG_min n x h1 (by omega))
theorem GG_id {K : KT} {f O lo : Nat} {B : Nat × Nat} : ∀ n, (∀ x, lo ≤ x → x < lo + n → B.1 ≤ Sp K f O x) → GG K f O lo n B = B
  | 0, _ => rfl
  | n + 1, h => by
    show stp K f O (lo + n) (GG K f O lo n B) = B
    rw [GG_id n (fun x h1 h2 => h x h1 (by omega))]
    unfold stp
    rw [if_neg (by have := h (lo + n) (by omega) (by omega); omega)]
theorem Sp_le {K : KT} {f O row : Nat} : Sp K f O row ≤ f := by
  have := (est_le (K := K) (f := f) (h := hd O row) O).2.1
  unfold Sp
  omega
theorem p10 (n : Nat) : 0 < 10 ^ n := Nat.pow_pos (by omega)
/-- digits in front do not see what comes behind -/
theorem hd_pre {o r pre x z : Nat} (hx : x < 10 ^ r) (hz : z < o) : hd (o + r) (pre * 10 ^ r + x) z = pre / 10 ^ (o - 1 - z) % 10 := by
  unfold hd
  rw [show o + r - 1 - z = r + (o - 1 - z) by omega, Nat.pow_add, ← Nat.div_div_eq_div_mul, Nat.mul_comm pre, Nat.mul_add_div (p10 r), Nat.div_eq_of_lt hx, Nat.add_zero]
/-- digits behind do not see what stands in front -/
theorem hd_suf {o r a b x z : Nat} (hz : o ≤ z) (hz2 : z < o + r) : hd (o + r) (a * 10 ^ r + x) z = hd (o + r) (b * 10 ^ r + x) z := by
  unfold hd
  obtain ⟨m, hm⟩ : ∃ m, o + r - 1 - z = m := ⟨_, rfl⟩
  obtain ⟨e, he⟩ : ∃ e, r = m + 1 + e := ⟨r - (m + 1), by omega⟩
  have key : ∀ a, (a * 10 ^ r + x) / 10 ^ m % 10 = x / 10 ^ m % 10 := fun a => by
    have e1 : a * 10 ^ r = 10 ^ m * (10 * (a * 10 ^ e)) := by
      rw [he, Nat.pow_add, Nat.pow_add, Nat.pow_one, Nat.mul_comm a, Nat.mul_assoc, Nat.mul_assoc, Nat.mul_comm (10 ^ e) a]
    rw [e1, Nat.mul_add_div (p10 m), Nat.add_comm, Nat.add_mul_mod_self_left]
  rw [hm, key a, key b]
theorem pre_at {o pre v z : Nat} (hv : v < 10) (hz : z < o + 1) : (pre * 10 + v) / 10 ^ (o + 1 - 1 - z) % 10 = if z = o then v else pre / 10 ^ (o - 1 - z) % 10 := by
  by_cases e : z = o
  · rw [if_pos e, e, show o + 1 - 1 - o = 0 by omega, Nat.pow_zero, Nat.div_one]
    omega
  · rw [if_neg e, show o + 1 - 1 - z = 1 + (o - 1 - z) by omega, Nat.pow_add, ← Nat.div_div_eq_div_mul, Nat.pow_one, show (pre * 10 + v) / 10 = pre by omega]
theorem s_wt_hK {K : KT} {h : Nat → Nat} {o lv : Nat} : s_wt (hK K h) o 0 lv 0 = K 6 o * (lv - h o) := by
  unfold s_wt s_ht
  rw [if_pos rfl, if_neg (by omega), hK_7, hK_ne (by omega), Nat.add_zero]
theorem s_tk_hK {K : KT} {h : Nat → Nat} {o c l : Nat} : s_tk (hK K h) o 0 (levS K o c l) (watS K o c) 0 = tkE K o c l (h o) := by
  unfold s_tk tkE
  rw [s_wt_hK]
theorem cst_hK {K : KT} {h : Nat → Nat} {f : Nat} : ∀ o, cst (hK K h) (Tk (hK K h) (fun _ => 0) 0) f o = ((est K f h o).1, (est K f h o).2.1)
  | 0 => rfl
  | o + 1 => by
    have ih := cst_hK (K := K) (h := h) (f := f) o
    have w := watS_c (K := K) (K' := hK K h) (hK_ne (by omega)) (hK_ne (by omega)) (o := o) (c := (est K f h o).1)
    have l := levS_c (K := K) (K' := hK K h) (hK_ne (by omega)) (hK_ne (by omega)) (hK_ne (by omega)) (hK_ne (by omega)) (o := o) (c := (est K f h o).1) (l := (est K f h o).2.1)
    show (watS (hK K h) o (cst (hK K h) _ f o).1 - Tk (hK K h) (fun _ => 0) 0 o (levS (hK K h) o (cst (hK K h) _ f o).1 (cst (hK K h) _ f o).2) (watS (hK K h) o (cst (hK K h) _ f o).1), levS (hK K h) o (cst (hK K h) _ f o).1 (cst (hK K h) _ f o).2) = _
    rw [ih, w, l]
    show (_ - s_tk (hK K h) o 0 (levS K o _ _) (watS K o _) 0, _) = _
    rw [s_tk_hK]
    rfl
theorem s_ta_hK {K : KT} {h : Nat → Nat} {f o : Nat} (hW : WfK (hK K h)) (ho : o < K 0 2) : s_ta (hK K h) (fun _ => 0) 0 f o = tkE K o (est K f h o).1 (est K f h o).2.1 (h o) := by
  have h0 : hK K h 0 = K 0 := hK_ne (by omega)
  rw [s_ta_ch hW (by rw [h0]; exact ho), cst_hK, watS_c (K := K) (hK_ne (by omega)) (hK_ne (by omega)), levS_c (K := K) (hK_ne (by omega)) (hK_ne (by omega)) (hK_ne (by omega)) (hK_ne (by omega))]
  exact s_tk_hK
abbrev okE (k : Int32) : Prop := -1 ≤ k.toInt ∧ k.toInt ≤ 3
def f_even (f k : Int32) (s : ST) : Value × ST := (.int (if okE k then (if inN f 10000 then (if 1 ≤ s.1 0 2 ∧ s.1 0 2 ≤ 4 then (if k = -1 then nI (GG s.1 f.toNatClampNeg (s.1 0 2) 0 (10 ^ s.1 0 2) (10000, 0)).1 else if inN k (s.1 0 2) then nI (hd (s.1 0 2) (GG s.1 f.toNatClampNeg (s.1 0 2) 0 (10 ^ s.1 0 2) (10000, 0)).2 k.toNatClampNeg) else -9) else -3) else -2) else -1), s)
