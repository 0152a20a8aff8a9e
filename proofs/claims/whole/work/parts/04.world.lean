theorem am_memp {big : List Cond} (ws : List Cond) (ps : List Nat) (hp : ws = ps.filterMap (fun i => big[i]?)) : ∀ w ∈ ws, w ∈ big := by
  intro w hw
  rw [hp] at hw
  obtain ⟨i, -, hi⟩ := List.mem_filterMap.mp hw
  exact List.mem_of_getElem? hi
theorem am_in0 : ∀ w ∈ u_ws RX0 TX0 14, w ∈ am_tb := fun w h => am_tbm (am_memp (big := lw_tbl) (u_ws RX0 TX0 14) [127, 129, 131, 133, 135, 137, 139, 141, 143, 145, 147, 149, 151, 153] (by decide +kernel) w h) (List.all_eq_true.mp (show (u_ws RX0 TX0 14).all am_okw = true by decide +kernel) w h)
theorem am_in1 : ∀ w ∈ u_ws RX1 TX1 3, w ∈ am_tb := fun w h => am_tbm (am_memp (big := lw_tbl) (u_ws RX1 TX1 3) [223, 225, 227] (by decide +kernel) w h) (List.all_eq_true.mp (show (u_ws RX1 TX1 3).all am_okw = true by decide +kernel) w h)
theorem am_in2 : ∀ w ∈ u_ws RX2 TX2 2, w ∈ am_tb := fun w h => am_tbm (am_memp (big := lw_tbl) (u_ws RX2 TX2 2) [300, 302] (by decide +kernel) w h) (List.all_eq_true.mp (show (u_ws RX2 TX2 2).all am_okw = true by decide +kernel) w h)
theorem am_in3 : ∀ w ∈ u_ws RX3 TX3 7, w ∈ am_tb := fun w h => am_tbm (am_memp (big := lw_tbl) (u_ws RX3 TX3 7) [195, 197, 199, 201, 203, 205, 207] (by decide +kernel) w h) (List.all_eq_true.mp (show (u_ws RX3 TX3 7).all am_okw = true by decide +kernel) w h)
theorem am_in4 : ∀ w ∈ u_ws RX4 TX4 4, w ∈ am_tb := fun w h => am_tbm (am_memp (big := lw_tbl) (u_ws RX4 TX4 4) [319, 321, 323, 325] (by decide +kernel) w h) (List.all_eq_true.mp (show (u_ws RX4 TX4 4).all am_okw = true by decide +kernel) w h)
theorem am_in5 : ∀ w ∈ u_ws RX5 TX5 4, w ∈ am_tb := fun w h => am_tbm (am_memp (big := lw_tbl) (u_ws RX5 TX5 4) [167, 169, 171, 173] (by decide +kernel) w h) (List.all_eq_true.mp (show (u_ws RX5 TX5 4).all am_okw = true by decide +kernel) w h)
theorem am_in6 : ∀ w ∈ u_ws RX6 TX6 15, w ∈ am_tb := fun w h => am_tbm (am_memp (big := lw_tbl) (u_ws RX6 TX6 15) [258, 260, 262, 264, 266, 268, 270, 272, 274, 276, 278, 280, 282, 284, 286] (by decide +kernel) w h) (List.all_eq_true.mp (show (u_ws RX6 TX6 15).all am_okw = true by decide +kernel) w h)
theorem am_in7 : ∀ w ∈ u_ws RX7 TX7 12, w ∈ am_tb := fun w h => am_tbm (am_memp (big := lw_tbl) (u_ws RX7 TX7 12) [340, 342, 344, 346, 348, 350, 352, 354, 356, 358, 360, 362] (by decide +kernel) w h) (List.all_eq_true.mp (show (u_ws RX7 TX7 12).all am_okw = true by decide +kernel) w h)
theorem am_in8 : ∀ w ∈ u_ws RX8 TX8 51, w ∈ am_tb := fun w h => am_tbm (am_memp (big := lw_tbl) (u_ws RX8 TX8 51) [881, 883, 885, 887, 889, 891, 893, 895, 897, 899, 901, 903, 905, 907, 909, 911, 913, 915, 917, 919, 921, 923, 925, 927, 929, 931, 933, 935, 937, 939, 941, 943, 945, 947, 949, 951, 953, 955, 957, 959, 961, 963, 965, 967, 969, 971, 973, 975, 977, 979, 981] (by decide +kernel) w h) (List.all_eq_true.mp (show (u_ws RX8 TX8 51).all am_okw = true by decide +kernel) w h)
theorem am_cls {x : Nat} (hx : x < 9) : vwCl[x]? = some (am_R x, am_T x, am_N x) ∧ (∀ w ∈ u_ws (am_R x) (am_T x) (am_N x), w ∈ am_tb) ∧ (∀ k, k < am_N x → parseFieldDescriptor (am_T x k).2.2.1 = some (am_ty x k)) ∧ (∀ a, a < am_N x → ∀ b, b < am_N x → a ≠ b → (am_T x a).2.1 ≠ (am_T x b).2.1) := by
  rcases (show x = 0 ∨ x = 1 ∨ x = 2 ∨ x = 3 ∨ x = 4 ∨ x = 5 ∨ x = 6 ∨ x = 7 ∨ x = 8 by omega) with rfl | rfl | rfl | rfl | rfl | rfl | rfl | rfl | rfl
  · exact ⟨rfl, am_in0, tyX0_ok, nmX0⟩
  · exact ⟨rfl, am_in1, tyX1_ok, nmX1⟩
  · exact ⟨rfl, am_in2, tyX2_ok, nmX2⟩
  · exact ⟨rfl, am_in3, tyX3_ok, nmX3⟩
  · exact ⟨rfl, am_in4, tyX4_ok, nmX4⟩
  · exact ⟨rfl, am_in5, tyX5_ok, nmX5⟩
  · exact ⟨rfl, am_in6, tyX6_ok, nmX6⟩
  · exact ⟨rfl, am_in7, tyX7_ok, nmX7⟩
  · exact ⟨rfl, am_in8, tyX8_ok, nmX8⟩
def am_refty : FieldType → Bool
  | .object _ => true
  | .array _ => true
  | _ => false
def am_intty : FieldType → Bool
  | .int => true
  | .boolean => true
  | _ => false
theorem am_fty {x k : Nat} (hx : x < 9) (hk : k < am_N x) : (am_isr x k = true → am_refty (am_ty x k) = true) ∧ (am_isr x k = false → am_intty (am_ty x k) = true) := by
  rcases (show x = 0 ∨ x = 1 ∨ x = 2 ∨ x = 3 ∨ x = 4 ∨ x = 5 ∨ x = 6 ∨ x = 7 ∨ x = 8 by omega) with rfl | rfl | rfl | rfl | rfl | rfl | rfl | rfl | rfl
  · exact (show ∀ k, k < 14 → (am_isr 0 k = true → am_refty (am_ty 0 k) = true) ∧ (am_isr 0 k = false → am_intty (am_ty 0 k) = true) by decide +kernel) k hk
  · exact (show ∀ k, k < 3 → (am_isr 1 k = true → am_refty (am_ty 1 k) = true) ∧ (am_isr 1 k = false → am_intty (am_ty 1 k) = true) by decide +kernel) k hk
  · exact (show ∀ k, k < 2 → (am_isr 2 k = true → am_refty (am_ty 2 k) = true) ∧ (am_isr 2 k = false → am_intty (am_ty 2 k) = true) by decide +kernel) k hk
  · exact (show ∀ k, k < 7 → (am_isr 3 k = true → am_refty (am_ty 3 k) = true) ∧ (am_isr 3 k = false → am_intty (am_ty 3 k) = true) by decide +kernel) k hk
  · exact (show ∀ k, k < 4 → (am_isr 4 k = true → am_refty (am_ty 4 k) = true) ∧ (am_isr 4 k = false → am_intty (am_ty 4 k) = true) by decide +kernel) k hk
  · exact (show ∀ k, k < 4 → (am_isr 5 k = true → am_refty (am_ty 5 k) = true) ∧ (am_isr 5 k = false → am_intty (am_ty 5 k) = true) by decide +kernel) k hk
  · exact (show ∀ k, k < 15 → (am_isr 6 k = true → am_refty (am_ty 6 k) = true) ∧ (am_isr 6 k = false → am_intty (am_ty 6 k) = true) by decide +kernel) k hk
  · exact (show ∀ k, k < 12 → (am_isr 7 k = true → am_refty (am_ty 7 k) = true) ∧ (am_isr 7 k = false → am_intty (am_ty 7 k) = true) by decide +kernel) k hk
  · exact (show ∀ k, k < 51 → (am_isr 8 k = true → am_refty (am_ty 8 k) = true) ∧ (am_isr 8 k = false → am_intty (am_ty 8 k) = true) by decide +kernel) k hk
theorem am_bin_inv {st : List Value} {f : Int32 → Int32 → List Value → Prop} (h : am_bin st f) : ∃ x y r, st = .int y :: .int x :: r ∧ f x y r := by
  unfold am_bin at h
  split at h
  · exact ⟨_, _, _, rfl, h⟩
  · exact h.elim
theorem am_binL_inv {st : List Value} {f : Int64 → Int64 → List Value → Prop} (h : am_binL st f) : ∃ x y r, st = .long y :: .long x :: r ∧ f x y r := by
  unfold am_binL at h
  split at h
  · exact ⟨_, _, _, rfl, h⟩
  · exact h.elim
theorem am_un_inv {st : List Value} {f : Int32 → List Value → Prop} (h : am_un st f) : ∃ x r, st = .int x :: r ∧ f x r := by
  unfold am_un at h
  split at h
  · exact ⟨_, _, rfl, h⟩
  · exact h.elim
theorem am_rf_inv {st : List Value} {f : Nat → List Value → Prop} (h : am_rf st f) : ∃ q r, st = .ref q :: r ∧ f q r := by
  unfold am_rf at h
  split at h
  · exact ⟨_, _, rfl, h⟩
  · exact h.elim
theorem am_gd_inv {b : Bool} {a : Prop} (h : am_gd b a) : b = true ∧ a := by
  cases b with
  | true => exact ⟨rfl, h⟩
  | false => exact h.elim
theorem am_gd_of {b : Bool} {a : Prop} (hb : b = true) (h : a) : am_gd b a := by
  subst hb
  exact h
theorem am_ld0_inv {o : Option Value} {f : Value → Prop} (h : am_ld o f 0) : ∃ v, o = some (.int v) ∧ f (.int v) := by
  cases o with
  | none => exact False.elim h
  | some w => cases w <;> first | exact ⟨_, rfl, h⟩ | exact False.elim h
theorem am_ld1_inv {o : Option Value} {f : Value → Prop} (h : am_ld o f 1) : ∃ v, o = some (.ref v) ∧ f (.ref v) := by
  cases o with
  | none => exact False.elim h
  | some w => cases w <;> first | exact ⟨_, rfl, h⟩ | exact False.elim h
theorem am_ld2_inv {o : Option Value} {f : Value → Prop} (h : am_ld o f 2) : ∃ v, o = some (.long v) ∧ f (.long v) := by
  cases o with
  | none => exact False.elim h
  | some w => cases w <;> first | exact ⟨_, rfl, h⟩ | exact False.elim h
theorem am_setK_inv : ∀ (L : am_L) (i : Nat) (v : Option Value) (k : am_L → Prop), am_setK L i v k → i < L.length ∧ k (L.set i v)
  | [], _, _, _, h => h.elim
  | a :: t, 0, v, k, h => ⟨by simp, h⟩
  | a :: t, i + 1, v, k, h => by
    obtain ⟨h1, h2⟩ := am_setK_inv t i v _ h
    exact ⟨by simp; omega, h2⟩
theorem am_takeK_inv : ∀ (m : Nat) (st acc : List Value) (k : List Value → List Value → Prop), am_takeK m st acc k → ∃ av s, st = av.reverse ++ s ∧ av.length = m ∧ k (av ++ acc) s
  | 0, st, acc, k, h => ⟨[], st, rfl, rfl, h⟩
  | m + 1, v :: st, acc, k, h => by
    obtain ⟨av, s, h1, h2, h3⟩ := am_takeK_inv m st (v :: acc) k h
    refine ⟨av ++ [v], s, by rw [h1]; simp, by simp [h2], by simpa using h3⟩
  | _ + 1, [], _, _, h => h.elim
theorem am_nth_set : ∀ (L : am_L) (i j : Nat) (v : Option Value), i < L.length → am_nth (L.set i v) j = if j = i then v else am_nth L j
  | [], i, j, v, h => by simp at h
  | a :: t, 0, 0, v, h => rfl
  | a :: t, 0, j + 1, v, h => by simp [am_nth]
  | a :: t, i + 1, 0, v, h => by simp [am_nth]
  | a :: t, i + 1, j + 1, v, h => by
    have := am_nth_set t i j v (by simp at h; omega)
    simp [am_nth, this]
theorem am_nth_lt : ∀ (L : am_L) (i : Nat) (v : Value), am_nth L i = some v → i < L.length
  | [], i, v, h => by simp [am_nth] at h
  | a :: t, 0, v, h => by simp
  | a :: t, i + 1, v, h => by
    have := am_nth_lt t i v h
    simp; omega
def am_cv (ρ : Nat → Nat) (v : Value) : Value := match v with
  | .ref q => .ref (ρ q)
  | v => v
theorem am_cv_cat (ρ : Nat → Nat) (v : Value) : (am_cv ρ v).category = v.category := by cases v <;> rfl
def am_ro (ρ : Nat → Nat) : Nat → Option Nat
  | 0 => none
  | z + 1 => some (ρ z)
def am_fv (ρ : Nat → Nat) (ci : Nat) (σ : am_Sg) (τ : am_Tu) (q k : Nat) : Value := bif am_isr ci k then va_rf (am_ro ρ (τ q k)) else .int (σ q k)
def am_cell (z : am_Z) (ρ : Nat → Nat) (σ : am_Sg) (τ : am_Tu) (q : Nat) : va_E :=
  bif Nat.beq (am_knd q) 10 then .inl (z.1, am_len q, .inl (σ q)) else
  bif Nat.beq (am_knd q) 11 then .inl (z.2.1, am_len q, .inl (σ q)) else
  bif Nat.beq (am_knd q) 12 then .inl (z.2.2.1, am_len q, .inr (.inr (.inr (.inr (fun i => am_ro ρ (τ q i)))))) else
  bif Nat.beq (am_knd q) 13 then .inl (z.2.2.2, am_len q, .inr (.inr (.inr (.inr (fun i => am_ro ρ (τ q i)))))) else
  .inr (am_knd q, (List.range (am_N (am_knd q))).map (am_fv ρ (am_knd q) σ τ q))
def am_ws (z : am_Z) (ρ : Nat → Nat) (n : Nat) (σ : am_Sg) (τ : am_Tu) : va_W := (List.range n).map fun q => (ρ q, am_cell z ρ σ τ q)
def am_tys (z : am_Z) : List (ClassId × FieldType) := [(z.1, .int), (z.2.1, .boolean), (z.2.2.1, .object "CanalEnd$Sheet"), (z.2.2.2, .array .int)]
def am_Wd (D : va_G) (z : am_Z) (ρ : Nat → Nat) (n : Nat) (σ : am_Sg) (τ : am_Tu) (A : Nat → Prop) (H : Heap) : Prop :=
  va_P D vwCl (am_ws z ρ n σ τ) H ∧ va_D A (am_ws z ρ n σ τ) ∧ ∀ q, q < n → ∀ i, τ q i ≤ n
def am_has (ρ : Nat → Nat) (ls : Array Slot) (nL : Nat) (L : am_L) : Prop := ls.size = nL ∧ lv_wf ls ∧ L.length = nL ∧ ∀ i v, am_nth L i = some v → ls[i]? = some (.val (am_cv ρ v))
def am_lvl (ρ : Nat → Nat) (L : am_L) : List (Nat × Value) := (List.range L.length).filterMap fun i => (am_nth L i).map fun v => (i, am_cv ρ v)
theorem am_lvl_mem {ρ : Nat → Nat} {L : am_L} {q : Nat × Value} : q ∈ am_lvl ρ L ↔ ∃ v, am_nth L q.1 = some v ∧ q.2 = am_cv ρ v := by
  unfold am_lvl
  rw [List.mem_filterMap]
  constructor
  · rintro ⟨i, hi, h⟩
    cases hv : am_nth L i with
    | none => rw [hv] at h; cases h
    | some v => rw [hv] at h; cases h; exact ⟨v, hv, rfl⟩
  · rintro ⟨v, h1, h2⟩
    refine ⟨q.1, List.mem_range.mpr (am_nth_lt L _ v h1), ?_⟩
    rw [h1]
    show some (q.1, am_cv ρ v) = some q
    rw [← h2]
theorem am_has.lv {ρ : Nat → Nat} {ls : Array Slot} {nL : Nat} {L : am_L} (h : am_has ρ ls nL L) : lv_has ls nL (am_lvl ρ L) := by
  refine ⟨h.1, h.2.1, fun q hq => ?_⟩
  obtain ⟨v, h1, h2⟩ := am_lvl_mem.mp hq
  rw [h2]
  exact h.2.2.2 _ _ h1
theorem am_nl_spec {L : am_L} {x j : Nat} {v : Value} (h : am_nl L x = true) (hj : am_nth L j = some v) (e : j + 1 = x) : ¬ v.category = 2 := by
  subst e
  unfold am_nl at h
  simp only [hj] at h
  cases v <;> simp [Value.category] at h ⊢
theorem am_has.set1 {ρ : Nat → Nat} {ls ls' : Array Slot} {nL i : Nat} {L : am_L} {v : Value} (h : am_has ρ ls nL L) (hi : i < L.length) (hnl : ∀ j w, am_nth L j = some w → j + 1 = i → ¬ w.category = 2) (h' : lv_has ls' nL ((i, am_cv ρ v) :: (am_lvl ρ L).filter (fun q => !(q.1 == i) && !(q.1 + 1 == i && q.2.category == 2)))) : am_has ρ ls' nL (L.set i (some v)) := by
  refine ⟨h'.1, h'.2.1, by simp [h.2.2.1], fun j w hj => ?_⟩
  rw [am_nth_set L i j _ hi] at hj
  by_cases e : j = i
  · rw [if_pos e] at hj
    cases hj
    subst e
    exact h'.2.2 (j, am_cv ρ v) List.mem_cons_self
  · rw [if_neg e] at hj
    refine h'.2.2 (j, am_cv ρ w) (List.mem_cons_of_mem _ (List.mem_filter.mpr ⟨am_lvl_mem.mpr ⟨w, hj, rfl⟩, ?_⟩))
    have := hnl j w hj
    rw [← am_cv_cat ρ w] at this
    by_cases e2 : j + 1 = i
    · simp [e, this e2]
    · simp [e, e2]
theorem am_has.set2 {ρ : Nat → Nat} {ls ls' : Array Slot} {nL i : Nat} {L : am_L} {v : Value} (h : am_has ρ ls nL L) (hi : i + 1 < L.length) (hnl : ∀ j w, am_nth L j = some w → j + 1 = i → ¬ w.category = 2) (h' : lv_has ls' nL ((i, am_cv ρ v) :: (am_lvl ρ L).filter (fun q => !(q.1 == i) && (!(q.1 == i + 1) && !(q.1 + 1 == i && q.2.category == 2))))) : am_has ρ ls' nL ((L.set i (some v)).set (i + 1) none) := by
  refine ⟨h'.1, h'.2.1, by simp [h.2.2.1], fun j w hj => ?_⟩
  rw [am_nth_set _ (i + 1) j _ (by simp; omega)] at hj
  by_cases e1 : j = i + 1
  · rw [if_pos e1] at hj
    cases hj
  rw [if_neg e1, am_nth_set L i j _ (by omega)] at hj
  by_cases e : j = i
  · rw [if_pos e] at hj
    cases hj
    subst e
    exact h'.2.2 (j, am_cv ρ v) List.mem_cons_self
  · rw [if_neg e] at hj
    refine h'.2.2 (j, am_cv ρ w) (List.mem_cons_of_mem _ (List.mem_filter.mpr ⟨am_lvl_mem.mpr ⟨w, hj, rfl⟩, ?_⟩))
    have := hnl j w hj
    rw [← am_cv_cat ρ w] at this
    by_cases e2 : j + 1 = i
    · simp [e, e1, this e2]
    · simp [e, e1, e2]
theorem am_nl_cat {L : am_L} {x : Nat} (h : am_nl L x = true) : ∀ j w, am_nth L j = some w → j + 1 = x → ¬ w.category = 2 := fun _ _ hj e => am_nl_spec h hj e
theorem am_ws_get {z : am_Z} {ρ : Nat → Nat} {n q : Nat} {σ : am_Sg} {τ : am_Tu} (hq : q < n) : (am_ws z ρ n σ τ)[q]? = some (ρ q, am_cell z ρ σ τ q) := by
  simp [am_ws, hq]
theorem am_ws_set {z : am_Z} {ρ : Nat → Nat} {n q : Nat} {σ σ' : am_Sg} {τ τ' : am_Tu} {c : va_E} (hc : am_cell z ρ σ' τ' q = c) (ho : ∀ q', ¬ q' = q → am_cell z ρ σ' τ' q' = am_cell z ρ σ τ q') : (am_ws z ρ n σ τ).set q (ρ q, c) = am_ws z ρ n σ' τ' := by
  apply List.ext_getElem?
  intro i
  by_cases e : i = q
  · subst e
    by_cases h : i < n
    · rw [List.getElem?_set_self (by simp [am_ws, h]), am_ws_get h, hc]
    · rw [List.getElem?_eq_none (by simp [am_ws]; omega), List.getElem?_eq_none (by simp [am_ws]; omega)]
  · rw [List.getElem?_set_ne (fun q => e q.symm)]
    by_cases h : i < n
    · rw [am_ws_get h, am_ws_get h, ho i e]
    · rw [List.getElem?_eq_none (by simp [am_ws]; omega), List.getElem?_eq_none (by simp [am_ws]; omega)]
theorem am_ws_push {z : am_Z} {ρ ρ' : Nat → Nat} {n a : Nat} {σ σ' : am_Sg} {τ τ' : am_Tu} {c : va_E} (ha : ρ' n = a) (hr : ∀ q, q < n → ρ' q = ρ q) (hc : am_cell z ρ' σ' τ' n = c) (ho : ∀ q, q < n → am_cell z ρ' σ' τ' q = am_cell z ρ σ τ q) : am_ws z ρ n σ τ ++ [(a, c)] = am_ws z ρ' (n + 1) σ' τ' := by
  unfold am_ws
  rw [List.range_succ, List.map_append]
  congr 1
  · apply List.map_congr_left
    intro q hq
    have := List.mem_range.mp hq
    rw [hr q this, ho q this]
  · simp [ha, hc]
theorem am_cell_o {z : am_Z} {ρ : Nat → Nat} {σ : am_Sg} {τ : am_Tu} {q x : Nat} (hk : am_knd q = x) (hx : x < 9) : am_cell z ρ σ τ q = .inr (x, (List.range (am_N x)).map (am_fv ρ x σ τ q)) := by
  unfold am_cell
  rw [hk]
  rcases (show x = 0 ∨ x = 1 ∨ x = 2 ∨ x = 3 ∨ x = 4 ∨ x = 5 ∨ x = 6 ∨ x = 7 ∨ x = 8 by omega) with rfl | rfl | rfl | rfl | rfl | rfl | rfl | rfl | rfl <;> rfl
theorem am_cell_i {z : am_Z} {ρ : Nat → Nat} {σ : am_Sg} {τ : am_Tu} {q : Nat} (hk : am_knd q = 10) : am_cell z ρ σ τ q = .inl (z.1, am_len q, .inl (σ q)) := by
  unfold am_cell
  rw [hk]
  rfl
theorem am_cell_z {z : am_Z} {ρ : Nat → Nat} {σ : am_Sg} {τ : am_Tu} {q : Nat} (hk : am_knd q = 11) : am_cell z ρ σ τ q = .inl (z.2.1, am_len q, .inl (σ q)) := by
  unfold am_cell
  rw [hk]
  rfl
theorem am_cell_s {z : am_Z} {ρ : Nat → Nat} {σ : am_Sg} {τ : am_Tu} {q : Nat} (hk : am_knd q = 12) : am_cell z ρ σ τ q = .inl (z.2.2.1, am_len q, .inr (.inr (.inr (.inr (fun i => am_ro ρ (τ q i)))))) := by
  unfold am_cell
  rw [hk]
  rfl
theorem am_cell_r {z : am_Z} {ρ : Nat → Nat} {σ : am_Sg} {τ : am_Tu} {q : Nat} (hk : am_knd q = 13) : am_cell z ρ σ τ q = .inl (z.2.2.2, am_len q, .inr (.inr (.inr (.inr (fun i => am_ro ρ (τ q i)))))) := by
  unfold am_cell
  rw [hk]
  rfl
theorem am_cell_cong {z : am_Z} {ρ ρ' : Nat → Nat} {σ σ' : am_Sg} {τ τ' : am_Tu} {q : Nat} (hs : σ' q = σ q) (ht : ∀ i, am_ro ρ' (τ' q i) = am_ro ρ (τ q i)) : am_cell z ρ' σ' τ' q = am_cell z ρ σ τ q := by
  unfold am_cell
  have e : am_fv ρ' (am_knd q) σ' τ' q = am_fv ρ (am_knd q) σ τ q := by
    funext k
    unfold am_fv
    rw [hs, ht]
  have e2 : (fun i => am_ro ρ' (τ' q i)) = (fun i => am_ro ρ (τ q i)) := funext ht
  rw [hs, e, e2]
theorem am_up_ne {α : Type} {f : Nat → Nat → α} {q i a : Nat} {v : α} (h : ¬ a = q) : am_up f q i v a = f a := by
  funext b
  unfold am_up
  rw [show Nat.beq a q = false from Bool.eq_false_iff.mpr (fun z => h (Nat.eq_of_beq_eq_true z))]
  rfl
theorem am_up_self {α : Type} {f : Nat → Nat → α} {q i : Nat} {v : α} (b : Nat) : am_up f q i v q b = if b = i then v else f q b := by
  unfold am_up
  rw [show Nat.beq q q = true from Nat.beq_refl q]
  by_cases e : b = i
  · subst e
    rw [if_pos rfl, show Nat.beq b b = true from Nat.beq_refl b]
    rfl
  · rw [if_neg e, show Nat.beq b i = false from Bool.eq_false_iff.mpr (fun z => e (Nat.eq_of_beq_eq_true z))]
    rfl
theorem am_z_ne {α : Type} {f : Nat → Nat → α} {q a : Nat} {v : α} (h : ¬ a = q) : am_z f q v a = f a := by
  funext b
  unfold am_z
  rw [show Nat.beq a q = false from Bool.eq_false_iff.mpr (fun z => h (Nat.eq_of_beq_eq_true z))]
  rfl
theorem am_z_self {α : Type} {f : Nat → Nat → α} {q : Nat} {v : α} (b : Nat) : am_z f q v q b = v := by
  unfold am_z
  rw [show Nat.beq q q = true from Nat.beq_refl q]
  rfl
theorem am_al_lt {P n q : Nat} (h : am_al P n q = true) (hP : P ≤ n) : q < n := by
  unfold am_al at h
  rcases Bool.or_eq_true _ _ ▸ h with h | h
  · have := Nat.blt_eq.mp h
    omega
  · exact Nat.blt_eq.mp h
def am_sl : Nat → Nat
  | 0 => 0
  | n + 1 => am_sl n + am_len n
theorem am_sl_mono {a b : Nat} (h : a ≤ b) : am_sl a ≤ am_sl b := by
  induction b with
  | zero => have : a = 0 := by omega
            subst this; exact Nat.le_refl _
  | succ b ih =>
    by_cases e : a = b + 1
    · subst e; exact Nat.le_refl _
    · have := ih (by omega)
      show am_sl a ≤ am_sl b + am_len b
      omega
theorem am_set_fv {ρ : Nat → Nat} {x q y : Nat} {σ σ' : am_Sg} {τ τ' : am_Tu} {v : Value} (hy : y < am_N x) (h1 : am_fv ρ x σ' τ' q y = v) (h2 : ∀ k, ¬ k = y → am_fv ρ x σ' τ' q k = am_fv ρ x σ τ q k) : ((List.range (am_N x)).map (am_fv ρ x σ τ q)).set y v = (List.range (am_N x)).map (am_fv ρ x σ' τ' q) := by
  apply List.ext_getElem?
  intro i
  by_cases e : i = y
  · subst e
    rw [List.getElem?_set_self (by simp [hy])]
    simp [hy, h1]
  · rw [List.getElem?_set_ne (fun q => e q.symm)]
    by_cases h : i < am_N x
    · simp [h, h2 i e]
    · rw [List.getElem?_eq_none (by simp; omega), List.getElem?_eq_none (by simp; omega)]
