theorem am_rho {a n : Nat} {ρ : Nat → Nat} {q : Nat} (h : q < n) : (fun i => if i = n then a else ρ i) q = ρ q := if_neg (Nat.ne_of_lt h)
theorem am_okS_map {ρ ρ' : Nat → Nat} {n : Nat} (hr : ∀ q, q < n → ρ' q = ρ q) (hx : ρ' 1000 = ρ 1000) : ∀ (st : List Value), am_okS n st = true → st.map (am_cv ρ') = st.map (am_cv ρ)
  | [], _ => rfl
  | v :: t, h => by
    have h2 := Bool.and_eq_true _ _ ▸ h
    have ih := am_okS_map hr hx t h2.2
    rw [List.map_cons, List.map_cons, ih]
    congr 1
    cases v with
    | ref q =>
      have h3 : (Nat.blt q n || Nat.beq q 1000) = true := h2.1
      rcases Bool.or_eq_true _ _ ▸ h3 with h4 | h4
      · show Value.ref (ρ' q) = Value.ref (ρ q)
        rw [hr q (Nat.blt_eq.mp h4)]
      · have := Nat.eq_of_beq_eq_true h4
        subst this
        show Value.ref (ρ' 1000) = Value.ref (ρ 1000)
        rw [hx]
    | _ => rfl
theorem am_okL_nth {ρ ρ' : Nat → Nat} {n : Nat} (hr : ∀ q, q < n → ρ' q = ρ q) (hx : ρ' 1000 = ρ 1000) : ∀ (L : am_L), am_okL n L = true → ∀ i v, am_nth L i = some v → am_cv ρ' v = am_cv ρ v
  | [], _, i, v, h => by simp [am_nth] at h
  | none :: t, h, 0, v, hv => by simp [am_nth] at hv
  | none :: t, h, i + 1, v, hv => am_okL_nth hr hx t h i v hv
  | some w :: t, h, 0, v, hv => by
    have h2 := Bool.and_eq_true _ _ ▸ h
    have e : w = v := Option.some.inj hv
    subst e
    have := am_okS_map hr hx [w] (by simp [am_okS, h2.1])
    simpa using this
  | some w :: t, h, i + 1, v, hv => by
    have h2 := Bool.and_eq_true _ _ ▸ h
    exact am_okL_nth hr hx t h2.2 i v hv
theorem am_has.ext {ρ ρ' : Nat → Nat} {n nL : Nat} {ls : Array Slot} {L : am_L} (hr : ∀ q, q < n → ρ' q = ρ q) (hx : ρ' 1000 = ρ 1000) (ho : am_okL n L = true) (h : am_has ρ ls nL L) : am_has ρ' ls nL L :=
  ⟨h.1, h.2.1, h.2.2.1, fun i v hv => by rw [am_okL_nth hr hx L ho i v hv]; exact h.2.2.2 i v hv⟩
theorem am_ro_ext {ρ ρ' : Nat → Nat} {n t : Nat} (hr : ∀ q, q < n → ρ' q = ρ q) (ht : t ≤ n) : am_ro ρ' t = am_ro ρ t := by
  cases t with
  | zero => rfl
  | succ z => show some (ρ' z) = some (ρ z); rw [hr z ht]
theorem am_len_le (q : Nat) : am_len q ≤ 10000 := by
  have this : ∀ (b : Bool) (x y : Nat), x ≤ 10000 → y ≤ 10000 → (bif b then x else y) ≤ 10000 := by
    intro b x y hx hy
    cases b
    · exact hy
    · exact hx
  unfold am_len
  repeat' (first | exact Nat.le_of_ble_eq_true rfl | refine this _ _ _ ?_ ?_)
theorem am_Wd.grow {D : va_G} {z : am_Z} {ρ : Nat → Nat} {n a : Nat} {σ : am_Sg} {τ : am_Tu} {A : Nat → Prop} {H H1 : Heap} {c : va_E} (h : am_Wd D z ρ n σ τ A H) (hP : va_P D vwCl (am_ws z ρ n σ τ ++ [(a, c)]) H1) (hD : va_D A (am_ws z ρ n σ τ ++ [(a, c)])) (hc : am_cell z (fun i => if i = n then a else ρ i) (am_z σ n 0) (am_z τ n 0) n = c) : am_Wd D z (fun i => if i = n then a else ρ i) (n + 1) (am_z σ n 0) (am_z τ n 0) A H1 := by
  have e := am_ws_push (z := z) (ρ := ρ) (ρ' := fun i => if i = n then a else ρ i) (n := n) (a := a) (σ := σ) (σ' := am_z σ n 0) (τ := τ) (τ' := am_z τ n 0) (c := c) (if_pos rfl) (fun q hq => am_rho hq) hc (fun q hq => am_cell_cong (am_z_ne (Nat.ne_of_lt hq)) (fun i => by rw [am_z_ne (Nat.ne_of_lt hq)]; exact am_ro_ext (fun x hx => am_rho hx) (h.2.2 q hq i)))
  rw [e] at hP hD
  refine ⟨hP, hD, fun q hq i => ?_⟩
  by_cases e2 : q = n
  · subst e2
    rw [am_z_self]
    exact Nat.zero_le _
  · rw [am_z_ne e2]
    exact Nat.le_succ_of_le (h.2.2 q (by omega) i)
theorem am_put_ws {z : am_Z} {ρ : Nat → Nat} {n q x y : Nat} {σ σ' : am_Sg} {τ τ' : am_Tu} {v : Value} (hq : am_knd q = x) (hx : x < 9) (hy : y < am_N x) (h1 : am_fv ρ x σ' τ' q y = v) (h2 : ∀ k, ¬ k = y → am_fv ρ x σ' τ' q k = am_fv ρ x σ τ q k) (ho : ∀ q', ¬ q' = q → am_cell z ρ σ' τ' q' = am_cell z ρ σ τ q') : (am_ws z ρ n σ τ).set q (ρ q, .inr (x, ((List.range (am_N x)).map (am_fv ρ x σ τ q)).set y v)) = am_ws z ρ n σ' τ' := by
  rw [am_set_fv hy h1 h2]
  exact am_ws_set (am_cell_o hq hx) ho
theorem am_cats {ρ : Nat → Nat} : ∀ {s : List Value}, Nat.ble s.length 4 = true → ((s.map (am_cv ρ)).map fun v => v.category).sum ≤ 8 := by
  intro s h
  have hl : s.length ≤ 4 := Nat.le_of_ble_eq_true h
  have : ∀ s : List Value, ((s.map (am_cv ρ)).map fun v => v.category).sum ≤ 2 * s.length := by
    intro s
    induction s with
    | nil => simp
    | cons v t ih =>
      have := lv_cat (am_cv ρ v)
      simp only [List.map_cons, List.sum_cons, List.length_cons]
      omega
  have := this s
  omega
section AMB
variable {p : Program} {l : Launch} {e : Env} {R : Room} {s : State} {m : MethodId} {args : Array Value} {below : List Frame} {meth : Method} {c : Code} {Q : State → Prop} {cc : ByteArray} {own : String} {D : va_G} {z : am_Z} {A : Nat → Prop} {H0 : Heap} {nL n0 nf P : Nat} {X : am_X} {ρ0 : Nat → Nat} {pc nx : Nat} {L : am_L} {st : List Value} {n : Nat} {σ : am_Sg} {τ : am_Tu} {k : am_K}
theorem am_m0 {x y q i : Nat} {r : List Value} {w : Nat} (hC : am_Cx p R s m args c cc own D z A H0 nL n0 nf P X ρ0) (hx : x < 9) (hy : y < am_N x) (hr : am_isr x y = false) (hd : decode cc pc = .ok (.getfield i, 3)) (hw : .fieldLink own i (am_T x y).1 (am_T x y).2.1 (am_T x y).2.2.1 ∈ am_tb) (hq : am_al P n q = true) (hq2 : am_knd q = x) (h : k (pc + 3) L (.int (σ q y) :: r) n σ τ) (hk : ∀ pc L st n σ τ, k pc L st n σ τ → am_Wb p l e R s m args below meth c Q D z A H0 nL n0 nf X ρ0 pc L st n σ τ) : am_Wb p l e R s m args below meth c Q D z A H0 nL n0 nf X ρ0 pc L (.ref q :: r) n σ τ := by
  intro ρ H locs ls h0 h1 hX hW hS hl
  obtain ⟨hP, hD, hT⟩ := id hW
  have hqn : q < n := am_al_lt hq (Nat.le_trans hC.2.2.2.2.2.2.2.2.2.1 h0)
  obtain ⟨hc, hin, hty, hnm⟩ := am_cls hx
  exact va_get (D := D) (ci := x) (v := .int (σ q y)) (C := am_R x) (T := am_T x) (N := am_N x) hC.1 hC.2.1 hC.2.2.2.2.1 hin hC.2.2.2.1 hC.2.2.2.2.2.1 hP q (by rw [am_ws_get hqn, am_cell_o hq2 hx]) hc y hy (hC.2.2.2.2.1 _ hw) (fun _ h9 => h9) (by simp [hy, am_fv, hr]) hd (hk _ _ _ _ _ _ h ρ H locs ls h0 h1 hX hW hS hl)
theorem am_m1n {x y q i : Nat} {r : List Value} {w : Nat} (hC : am_Cx p R s m args c cc own D z A H0 nL n0 nf P X ρ0) (hx : x < 9) (hy : y < am_N x) (hr : am_isr x y = true) (hd : decode cc pc = .ok (.getfield i, 3)) (hw : .fieldLink own i (am_T x y).1 (am_T x y).2.1 (am_T x y).2.2.1 ∈ am_tb) (hq : am_al P n q = true) (hq2 : am_knd q = x) (ht : τ q y = 0) (h : k (pc + 3) L (.null :: r) n σ τ) (hk : ∀ pc L st n σ τ, k pc L st n σ τ → am_Wb p l e R s m args below meth c Q D z A H0 nL n0 nf X ρ0 pc L st n σ τ) : am_Wb p l e R s m args below meth c Q D z A H0 nL n0 nf X ρ0 pc L (.ref q :: r) n σ τ := by
  intro ρ H locs ls h0 h1 hX hW hS hl
  obtain ⟨hP, hD, hT⟩ := id hW
  have hqn : q < n := am_al_lt hq (Nat.le_trans hC.2.2.2.2.2.2.2.2.2.1 h0)
  obtain ⟨hc, hin, hty, hnm⟩ := am_cls hx
  exact va_get (D := D) (ci := x) (v := .null) (C := am_R x) (T := am_T x) (N := am_N x) hC.1 hC.2.1 hC.2.2.2.2.1 hin hC.2.2.2.1 hC.2.2.2.2.2.1 hP q (by rw [am_ws_get hqn, am_cell_o hq2 hx]) hc y hy (hC.2.2.2.2.1 _ hw) (fun _ h9 => h9) (by simp [hy, am_fv, hr, ht, am_ro, va_rf]) hd (hk _ _ _ _ _ _ h ρ H locs ls h0 h1 hX hW hS hl)
theorem am_m1r {x y q i : Nat} {r : List Value} {w : Nat} (hC : am_Cx p R s m args c cc own D z A H0 nL n0 nf P X ρ0) (hx : x < 9) (hy : y < am_N x) (hr : am_isr x y = true) (hd : decode cc pc = .ok (.getfield i, 3)) (hw : .fieldLink own i (am_T x y).1 (am_T x y).2.1 (am_T x y).2.2.1 ∈ am_tb) (hq : am_al P n q = true) (hq2 : am_knd q = x) (ht : τ q y = w + 1) (h : k (pc + 3) L (.ref w :: r) n σ τ) (hk : ∀ pc L st n σ τ, k pc L st n σ τ → am_Wb p l e R s m args below meth c Q D z A H0 nL n0 nf X ρ0 pc L st n σ τ) : am_Wb p l e R s m args below meth c Q D z A H0 nL n0 nf X ρ0 pc L (.ref q :: r) n σ τ := by
  intro ρ H locs ls h0 h1 hX hW hS hl
  obtain ⟨hP, hD, hT⟩ := id hW
  have hqn : q < n := am_al_lt hq (Nat.le_trans hC.2.2.2.2.2.2.2.2.2.1 h0)
  obtain ⟨hc, hin, hty, hnm⟩ := am_cls hx
  exact va_get (D := D) (ci := x) (v := .ref (ρ w)) (C := am_R x) (T := am_T x) (N := am_N x) hC.1 hC.2.1 hC.2.2.2.2.1 hin hC.2.2.2.1 hC.2.2.2.2.2.1 hP q (by rw [am_ws_get hqn, am_cell_o hq2 hx]) hc y hy (hC.2.2.2.2.1 _ hw) (fun _ h9 => h9) (by simp [hy, am_fv, hr, ht, am_ro, va_rf]) hd (hk _ _ _ _ _ _ h ρ H locs ls h0 h1 hX hW hS hl)
theorem am_m2 {x y q i : Nat} {r : List Value} {w : Nat} (hC : am_Cx p R s m args c cc own D z A H0 nL n0 nf P X ρ0) (hx : x < 9) (hy : y < am_N x) (hr : am_isr x y = false) (hd : decode cc pc = .ok (.getfield i, 3)) (hw : .fieldLinkNest own i (am_T x y).1 (am_T x y).2.1 (am_T x y).2.2.1 "CanalEnd" ∈ am_tb) (hq : am_al P n q = true) (hq2 : am_knd q = x) (h : k (pc + 3) L (.int (σ q y) :: r) n σ τ) (hk : ∀ pc L st n σ τ, k pc L st n σ τ → am_Wb p l e R s m args below meth c Q D z A H0 nL n0 nf X ρ0 pc L st n σ τ) : am_Wb p l e R s m args below meth c Q D z A H0 nL n0 nf X ρ0 pc L (.ref q :: r) n σ τ := by
  intro ρ H locs ls h0 h1 hX hW hS hl
  obtain ⟨hP, hD, hT⟩ := id hW
  have hqn : q < n := am_al_lt hq (Nat.le_trans hC.2.2.2.2.2.2.2.2.2.1 h0)
  obtain ⟨hc, hin, hty, hnm⟩ := am_cls hx
  exact va_getN (D := D) (ci := x) (v := .int (σ q y)) (C := am_R x) (T := am_T x) (N := am_N x) hC.1 hC.2.1 hC.2.2.2.2.1 hin hC.2.2.2.1 hC.2.2.2.2.2.1 hP q (by rw [am_ws_get hqn, am_cell_o hq2 hx]) hc y hy (hC.2.2.2.2.1 _ hw) (fun _ h9 => h9) (by simp [hy, am_fv, hr]) hd (hk _ _ _ _ _ _ h ρ H locs ls h0 h1 hX hW hS hl)
theorem am_m3 {x y q i : Nat} {r : List Value} {w : Nat} {v : Int32} (hC : am_Cx p R s m args c cc own D z A H0 nL n0 nf P X ρ0) (hx : x < 9) (hy : y < am_N x) (hr : am_isr x y = false) (hf : (am_T x y).2.2.2 = false) (ht : am_ty x y = .int) (hd : decode cc pc = .ok (.putfield i, 3)) (hw : .fieldLink own i (am_T x y).1 (am_T x y).2.1 (am_T x y).2.2.1 ∈ am_tb) (hq : am_al P n q = true) (hq2 : am_knd q = x) (h : k (pc + 3) L r n (am_up σ q y v) τ) (hk : ∀ pc L st n σ τ, k pc L st n σ τ → am_Wb p l e R s m args below meth c Q D z A H0 nL n0 nf X ρ0 pc L st n σ τ) : am_Wb p l e R s m args below meth c Q D z A H0 nL n0 nf X ρ0 pc L (.int v :: .ref q :: r) n σ τ := by
  intro ρ H locs ls h0 h1 hX hW hS hl
  obtain ⟨hP, hD, hT⟩ := id hW
  have hqn : q < n := am_al_lt hq (Nat.le_trans hC.2.2.2.2.2.2.2.2.2.1 h0)
  obtain ⟨hc, hin, hty, hnm⟩ := am_cls hx
  refine va_put (D := D) (ci := x) (v := (.int v)) (ty := am_ty x y) (C := am_R x) (T := am_T x) (N := am_N x) hC.1 hC.2.1 hC.2.2.2.2.1 hin (am_ty x) hty hnm hC.2.2.2.1 hC.2.2.2.2.2.1 hP hD hS q (by rw [am_ws_get hqn, am_cell_o hq2 hx]) hc y hy (hC.2.2.2.2.1 _ hw) (fun _ h9 => h9) hf (hty y hy) (by rw [ht]; rfl) (by rw [ht]; rfl) (by simp [hy]) hd (fun H1 locs1 hP1 hD1 hS1 => ?_)
  have e := am_put_ws (z := z) (ρ := ρ) (n := n) (σ := σ) (σ' := (am_up σ q y v)) (τ := τ) (τ' := τ) (v := (.int v)) hq2 hx hy (by simp [am_fv, hr, am_up_self]) (fun k9 hk9 => by unfold am_fv; rw [am_up_self, if_neg hk9]) (fun q9 hq9 => am_cell_cong (am_up_ne hq9) (fun _ => rfl))
  rw [e] at hP1 hD1
  exact hk _ _ _ _ _ _ h ρ H1 locs1 ls h0 h1 hX ⟨hP1, hD1, hT⟩ hS1 hl
theorem am_m4 {x y q i : Nat} {r : List Value} {w : Nat} {v : Int32} (hC : am_Cx p R s m args c cc own D z A H0 nL n0 nf P X ρ0) (hx : x < 9) (hy : y < am_N x) (hr : am_isr x y = false) (hf : (am_T x y).2.2.2 = false) (ht : am_ty x y = .boolean) (hd : decode cc pc = .ok (.putfield i, 3)) (hw : .fieldLink own i (am_T x y).1 (am_T x y).2.1 (am_T x y).2.2.1 ∈ am_tb) (hq : am_al P n q = true) (hq2 : am_knd q = x) (hv : v = 0 ∨ v = 1) (h : k (pc + 3) L r n (am_up σ q y v) τ) (hk : ∀ pc L st n σ τ, k pc L st n σ τ → am_Wb p l e R s m args below meth c Q D z A H0 nL n0 nf X ρ0 pc L st n σ τ) : am_Wb p l e R s m args below meth c Q D z A H0 nL n0 nf X ρ0 pc L (.int v :: .ref q :: r) n σ τ := by
  intro ρ H locs ls h0 h1 hX hW hS hl
  obtain ⟨hP, hD, hT⟩ := id hW
  have hqn : q < n := am_al_lt hq (Nat.le_trans hC.2.2.2.2.2.2.2.2.2.1 h0)
  obtain ⟨hc, hin, hty, hnm⟩ := am_cls hx
  refine va_put (D := D) (ci := x) (v := (.int v)) (ty := am_ty x y) (C := am_R x) (T := am_T x) (N := am_N x) hC.1 hC.2.1 hC.2.2.2.2.1 hin (am_ty x) hty hnm hC.2.2.2.1 hC.2.2.2.2.2.1 hP hD hS q (by rw [am_ws_get hqn, am_cell_o hq2 hx]) hc y hy (hC.2.2.2.2.1 _ hw) (fun _ h9 => h9) hf (hty y hy) (by rw [ht]; rcases hv with rfl | rfl <;> rfl) (by rw [ht]; rcases hv with rfl | rfl <;> rfl) (by simp [hy]) hd (fun H1 locs1 hP1 hD1 hS1 => ?_)
  have e := am_put_ws (z := z) (ρ := ρ) (n := n) (σ := σ) (σ' := (am_up σ q y v)) (τ := τ) (τ' := τ) (v := (.int v)) hq2 hx hy (by simp [am_fv, hr, am_up_self]) (fun k9 hk9 => by unfold am_fv; rw [am_up_self, if_neg hk9]) (fun q9 hq9 => am_cell_cong (am_up_ne hq9) (fun _ => rfl))
  rw [e] at hP1 hD1
  exact hk _ _ _ _ _ _ h ρ H1 locs1 ls h0 h1 hX ⟨hP1, hD1, hT⟩ hS1 hl
theorem am_m5r {x y q i : Nat} {r : List Value} {w : Nat} {v : Int32} (hC : am_Cx p R s m args c cc own D z A H0 nL n0 nf P X ρ0) (hx : x < 9) (hy : y < am_N x) (hr : am_isr x y = true) (hf : (am_T x y).2.2.2 = false) (hd : decode cc pc = .ok (.putfield i, 3)) (hw : .fieldLink own i (am_T x y).1 (am_T x y).2.1 (am_T x y).2.2.1 ∈ am_tb) (hq : am_al P n q = true) (hq2 : am_knd q = x) (hz : am_al P n w = true) (h : k (pc + 3) L r n σ (am_up τ q y (w + 1))) (hk : ∀ pc L st n σ τ, k pc L st n σ τ → am_Wb p l e R s m args below meth c Q D z A H0 nL n0 nf X ρ0 pc L st n σ τ) : am_Wb p l e R s m args below meth c Q D z A H0 nL n0 nf X ρ0 pc L (.ref w :: .ref q :: r) n σ τ := by
  intro ρ H locs ls h0 h1 hX hW hS hl
  obtain ⟨hP, hD, hT⟩ := id hW
  have hqn : q < n := am_al_lt hq (Nat.le_trans hC.2.2.2.2.2.2.2.2.2.1 h0)
  obtain ⟨hc, hin, hty, hnm⟩ := am_cls hx
  refine va_put (D := D) (ci := x) (v := (.ref (ρ w))) (ty := am_ty x y) (C := am_R x) (T := am_T x) (N := am_N x) hC.1 hC.2.1 hC.2.2.2.2.1 hin (am_ty x) hty hnm hC.2.2.2.1 hC.2.2.2.2.2.1 hP hD hS q (by rw [am_ws_get hqn, am_cell_o hq2 hx]) hc y hy (hC.2.2.2.2.1 _ hw) (fun _ h9 => h9) hf (hty y hy) (by have := (am_fty hx hy).1 hr; revert this; cases am_ty x y <;> intro h9 <;> first | rfl | exact absurd h9 Bool.false_ne_true) (by have := (am_fty hx hy).1 hr; revert this; cases am_ty x y <;> intro h9 <;> first | rfl | exact absurd h9 Bool.false_ne_true) (by simp [hy]) hd (fun H1 locs1 hP1 hD1 hS1 => ?_)
  have e := am_put_ws (z := z) (ρ := ρ) (n := n) (σ := σ) (σ' := σ) (τ := τ) (τ' := (am_up τ q y (w + 1))) (v := (.ref (ρ w))) hq2 hx hy (by simp [am_fv, hr, am_up_self, am_ro, va_rf]) (fun k9 hk9 => by unfold am_fv; rw [am_up_self, if_neg hk9]) (fun q9 hq9 => am_cell_cong rfl (fun _ => by rw [am_up_ne hq9]))
  rw [e] at hP1 hD1
  exact hk _ _ _ _ _ _ h ρ H1 locs1 ls h0 h1 hX ⟨hP1, hD1, fun q9 h9 i9 => by
    by_cases e9 : q9 = q
    · subst e9
      rw [am_up_self]
      split
      · exact am_al_lt hz (Nat.le_trans hC.2.2.2.2.2.2.2.2.2.1 h0)
      · exact hT _ h9 i9
    · rw [am_up_ne e9]
      exact hT _ h9 i9⟩ hS1 hl
theorem am_m5n {x y q i : Nat} {r : List Value} {w : Nat} {v : Int32} (hC : am_Cx p R s m args c cc own D z A H0 nL n0 nf P X ρ0) (hx : x < 9) (hy : y < am_N x) (hr : am_isr x y = true) (hf : (am_T x y).2.2.2 = false) (hd : decode cc pc = .ok (.putfield i, 3)) (hw : .fieldLink own i (am_T x y).1 (am_T x y).2.1 (am_T x y).2.2.1 ∈ am_tb) (hq : am_al P n q = true) (hq2 : am_knd q = x) (h : k (pc + 3) L r n σ (am_up τ q y 0)) (hk : ∀ pc L st n σ τ, k pc L st n σ τ → am_Wb p l e R s m args below meth c Q D z A H0 nL n0 nf X ρ0 pc L st n σ τ) : am_Wb p l e R s m args below meth c Q D z A H0 nL n0 nf X ρ0 pc L (.null :: .ref q :: r) n σ τ := by
  intro ρ H locs ls h0 h1 hX hW hS hl
  obtain ⟨hP, hD, hT⟩ := id hW
  have hqn : q < n := am_al_lt hq (Nat.le_trans hC.2.2.2.2.2.2.2.2.2.1 h0)
  obtain ⟨hc, hin, hty, hnm⟩ := am_cls hx
  refine va_put (D := D) (ci := x) (v := .null) (ty := am_ty x y) (C := am_R x) (T := am_T x) (N := am_N x) hC.1 hC.2.1 hC.2.2.2.2.1 hin (am_ty x) hty hnm hC.2.2.2.1 hC.2.2.2.2.2.1 hP hD hS q (by rw [am_ws_get hqn, am_cell_o hq2 hx]) hc y hy (hC.2.2.2.2.1 _ hw) (fun _ h9 => h9) hf (hty y hy) (by have := (am_fty hx hy).1 hr; revert this; cases am_ty x y <;> intro h9 <;> first | rfl | exact absurd h9 Bool.false_ne_true) (by have := (am_fty hx hy).1 hr; revert this; cases am_ty x y <;> intro h9 <;> first | rfl | exact absurd h9 Bool.false_ne_true) (by simp [hy]) hd (fun H1 locs1 hP1 hD1 hS1 => ?_)
  have e := am_put_ws (z := z) (ρ := ρ) (n := n) (σ := σ) (σ' := σ) (τ := τ) (τ' := (am_up τ q y 0)) (v := .null) hq2 hx hy (by simp [am_fv, hr, am_up_self, am_ro, va_rf]) (fun k9 hk9 => by unfold am_fv; rw [am_up_self, if_neg hk9]) (fun q9 hq9 => am_cell_cong rfl (fun _ => by rw [am_up_ne hq9]))
  rw [e] at hP1 hD1
  exact hk _ _ _ _ _ _ h ρ H1 locs1 ls h0 h1 hX ⟨hP1, hD1, fun q9 h9 i9 => by
    by_cases e9 : q9 = q
    · subst e9
      rw [am_up_self]
      split
      · exact Nat.zero_le _
      · exact hT _ h9 i9
    · rw [am_up_ne e9]
      exact hT _ h9 i9⟩ hS1 hl
theorem am_m6 {x y q i : Nat} {r : List Value} {w : Nat} {v : Int32} (hC : am_Cx p R s m args c cc own D z A H0 nL n0 nf P X ρ0) (hx : x < 9) (hy : y < am_N x) (hr : am_isr x y = true) (hf : (am_T x y).2.2.2 = true) (hi : meth.name = "<init>") (ho : (am_T x y).1 = own) (hd : decode cc pc = .ok (.putfield i, 3)) (hw : .fieldLink own i (am_T x y).1 (am_T x y).2.1 (am_T x y).2.2.1 ∈ am_tb) (hq : am_al P n q = true) (hq2 : am_knd q = x) (hz : am_al P n w = true) (h : k (pc + 3) L r n σ (am_up τ q y (w + 1))) (hk : ∀ pc L st n σ τ, k pc L st n σ τ → am_Wb p l e R s m args below meth c Q D z A H0 nL n0 nf X ρ0 pc L st n σ τ) : am_Wb p l e R s m args below meth c Q D z A H0 nL n0 nf X ρ0 pc L (.ref w :: .ref q :: r) n σ τ := by
  intro ρ H locs ls h0 h1 hX hW hS hl
  obtain ⟨hP, hD, hT⟩ := id hW
  have hqn : q < n := am_al_lt hq (Nat.le_trans hC.2.2.2.2.2.2.2.2.2.1 h0)
  obtain ⟨hc, hin, hty, hnm⟩ := am_cls hx
  refine va_putF (D := D) (ci := x) (v := (.ref (ρ w))) (ty := am_ty x y) (C := am_R x) (T := am_T x) (N := am_N x) hC.1 hC.2.1 hC.2.2.2.2.1 hin (am_ty x) hty hnm hC.2.2.2.1 hC.2.2.2.2.2.1 hP hD hS q (by rw [am_ws_get hqn, am_cell_o hq2 hx]) hc y hy (hC.2.2.2.2.1 _ hw) (fun _ h9 => h9) hf hi ho (hty y hy) (by have := (am_fty hx hy).1 hr; revert this; cases am_ty x y <;> intro h9 <;> first | rfl | exact absurd h9 Bool.false_ne_true) (by have := (am_fty hx hy).1 hr; revert this; cases am_ty x y <;> intro h9 <;> first | rfl | exact absurd h9 Bool.false_ne_true) (by simp [hy]) hd (fun H1 locs1 hP1 hD1 hS1 => ?_)
  have e := am_put_ws (z := z) (ρ := ρ) (n := n) (σ := σ) (σ' := σ) (τ := τ) (τ' := (am_up τ q y (w + 1))) (v := (.ref (ρ w))) hq2 hx hy (by simp [am_fv, hr, am_up_self, am_ro, va_rf]) (fun k9 hk9 => by unfold am_fv; rw [am_up_self, if_neg hk9]) (fun q9 hq9 => am_cell_cong rfl (fun _ => by rw [am_up_ne hq9]))
  rw [e] at hP1 hD1
  exact hk _ _ _ _ _ _ h ρ H1 locs1 ls h0 h1 hX ⟨hP1, hD1, fun q9 h9 i9 => by
    by_cases e9 : q9 = q
    · subst e9
      rw [am_up_self]
      split
      · exact am_al_lt hz (Nat.le_trans hC.2.2.2.2.2.2.2.2.2.1 h0)
      · exact hT _ h9 i9
    · rw [am_up_ne e9]
      exact hT _ h9 i9⟩ hS1 hl
theorem am_m7 {q : Nat} {i v : Int32} {r : List Value} (hC : am_Cx p R s m args c cc own D z A H0 nL n0 nf P X ρ0) (hq : am_al P n q = true) (hq2 : am_knd q = 10) (hin : vp_in i (am_len q)) (hd : decode cc pc = .ok (.iaload, 1)) (h : k (pc + 1) L (.int (σ q i.toNatClampNeg) :: r) n σ τ) (hk : ∀ pc L st n σ τ, k pc L st n σ τ → am_Wb p l e R s m args below meth c Q D z A H0 nL n0 nf X ρ0 pc L st n σ τ) : am_Wb p l e R s m args below meth c Q D z A H0 nL n0 nf X ρ0 pc L (.int i :: .ref q :: r) n σ τ := by
  intro ρ H locs ls h0 h1 hX hW hS hl
  obtain ⟨hP, hD, hT⟩ := id hW
  have hqn : q < n := am_al_lt hq (Nat.le_trans hC.2.2.2.2.2.2.2.2.2.1 h0)
  exact va_iald (D := D) hC.1 hC.2.1 hC.2.2.2.2.2.1 hP q 0 (by rw [am_ws_get hqn, am_cell_i hq2]) rfl hin hd (hk _ _ _ _ _ _ h ρ H locs ls h0 h1 hX hW hS hl)
theorem am_m9 {q : Nat} {i v : Int32} {r : List Value} (hC : am_Cx p R s m args c cc own D z A H0 nL n0 nf P X ρ0) (hq : am_al P n q = true) (hq2 : am_knd q = 11) (hin : vp_in i (am_len q)) (hd : decode cc pc = .ok (.baload, 1)) (h : k (pc + 1) L (.int (σ q i.toNatClampNeg) :: r) n σ τ) (hk : ∀ pc L st n σ τ, k pc L st n σ τ → am_Wb p l e R s m args below meth c Q D z A H0 nL n0 nf X ρ0 pc L st n σ τ) : am_Wb p l e R s m args below meth c Q D z A H0 nL n0 nf X ρ0 pc L (.int i :: .ref q :: r) n σ τ := by
  intro ρ H locs ls h0 h1 hX hW hS hl
  obtain ⟨hP, hD, hT⟩ := id hW
  have hqn : q < n := am_al_lt hq (Nat.le_trans hC.2.2.2.2.2.2.2.2.2.1 h0)
  exact va_zald (D := D) hC.1 hC.2.1 hC.2.2.2.2.2.1 hP q 1 (by rw [am_ws_get hqn, am_cell_z hq2]) rfl hin hd (hk _ _ _ _ _ _ h ρ H locs ls h0 h1 hX hW hS hl)
theorem am_m8 {q : Nat} {i v : Int32} {r : List Value} (hC : am_Cx p R s m args c cc own D z A H0 nL n0 nf P X ρ0) (hq : am_al P n q = true) (hq2 : am_knd q = 10) (hin : vp_in i (am_len q)) (hd : decode cc pc = .ok (.iastore, 1)) (h : k (pc + 1) L r n (am_up σ q i.toNatClampNeg v) τ) (hk : ∀ pc L st n σ τ, k pc L st n σ τ → am_Wb p l e R s m args below meth c Q D z A H0 nL n0 nf X ρ0 pc L st n σ τ) : am_Wb p l e R s m args below meth c Q D z A H0 nL n0 nf X ρ0 pc L (.int v :: .int i :: .ref q :: r) n σ τ := by
  intro ρ H locs ls h0 h1 hX hW hS hl
  obtain ⟨hP, hD, hT⟩ := id hW
  have hqn : q < n := am_al_lt hq (Nat.le_trans hC.2.2.2.2.2.2.2.2.2.1 h0)
  refine va_iast (D := D) hC.1 hC.2.1 hC.2.2.2.2.2.1 hP hD hS q 0 (by rw [am_ws_get hqn, am_cell_i hq2]) rfl hin hd (fun H1 locs1 hP1 hD1 hS1 => ?_)
  have e := am_ws_set (z := z) (ρ := ρ) (n := n) (q := q) (σ := σ) (σ' := am_up σ q i.toNatClampNeg v) (τ := τ) (τ' := τ) (c := .inl (z.1, am_len q, .inl (upd (σ q) i.toNatClampNeg v))) (by rw [am_cell_i hq2, show am_up σ q i.toNatClampNeg v q = upd (σ q) i.toNatClampNeg v from funext fun j => am_up_self j]) (fun q9 hq9 => am_cell_cong (am_up_ne hq9) (fun _ => rfl))
  rw [e] at hP1 hD1
  exact hk _ _ _ _ _ _ h ρ H1 locs1 ls h0 h1 hX ⟨hP1, hD1, hT⟩ hS1 hl
theorem am_m10 {q : Nat} {i v : Int32} {r : List Value} (hC : am_Cx p R s m args c cc own D z A H0 nL n0 nf P X ρ0) (hq : am_al P n q = true) (hq2 : am_knd q = 11) (hin : vp_in i (am_len q)) (hv : v = 0 ∨ v = 1) (hd : decode cc pc = .ok (.bastore, 1)) (h : k (pc + 1) L r n (am_up σ q i.toNatClampNeg v) τ) (hk : ∀ pc L st n σ τ, k pc L st n σ τ → am_Wb p l e R s m args below meth c Q D z A H0 nL n0 nf X ρ0 pc L st n σ τ) : am_Wb p l e R s m args below meth c Q D z A H0 nL n0 nf X ρ0 pc L (.int v :: .int i :: .ref q :: r) n σ τ := by
  intro ρ H locs ls h0 h1 hX hW hS hl
  obtain ⟨hP, hD, hT⟩ := id hW
  have hqn : q < n := am_al_lt hq (Nat.le_trans hC.2.2.2.2.2.2.2.2.2.1 h0)
  refine va_zast (D := D) hC.1 hC.2.1 hC.2.2.2.2.2.1 hP hD hS q 1 (by rw [am_ws_get hqn, am_cell_z hq2]) rfl hin hd (fun H1 locs1 hP1 hD1 hS1 => ?_)
  rw [show vp_nar .boolean v = v by rcases hv with rfl | rfl <;> rfl] at hP1 hD1
  have e := am_ws_set (z := z) (ρ := ρ) (n := n) (q := q) (σ := σ) (σ' := am_up σ q i.toNatClampNeg v) (τ := τ) (τ' := τ) (c := .inl (z.2.1, am_len q, .inl (upd (σ q) i.toNatClampNeg v))) (by rw [am_cell_z hq2, show am_up σ q i.toNatClampNeg v q = upd (σ q) i.toNatClampNeg v from funext fun j => am_up_self j]) (fun q9 hq9 => am_cell_cong (am_up_ne hq9) (fun _ => rfl))
  rw [e] at hP1 hD1
  exact hk _ _ _ _ _ _ h ρ H1 locs1 ls h0 h1 hX ⟨hP1, hD1, hT⟩ hS1 hl
theorem am_m11s {q : Nat} {i v : Int32} {r : List Value} {w : Nat} (hC : am_Cx p R s m args c cc own D z A H0 nL n0 nf P X ρ0) (hq : am_al P n q = true) (hq2 : am_knd q = 12) (hin : vp_in i (am_len q)) (ht : τ q i.toNatClampNeg = w + 1) (hd : decode cc pc = .ok (.aaload, 1)) (h : k (pc + 1) L (.ref w :: r) n σ τ) (hk : ∀ pc L st n σ τ, k pc L st n σ τ → am_Wb p l e R s m args below meth c Q D z A H0 nL n0 nf X ρ0 pc L st n σ τ) : am_Wb p l e R s m args below meth c Q D z A H0 nL n0 nf X ρ0 pc L (.int i :: .ref q :: r) n σ τ := by
  intro ρ H locs ls h0 h1 hX hW hS hl
  obtain ⟨hP, hD, hT⟩ := id hW
  have hqn : q < n := am_al_lt hq (Nat.le_trans hC.2.2.2.2.2.2.2.2.2.1 h0)
  refine va_aldq (D := D) (C := "CanalEnd$Sheet") hC.1 hC.2.1 hC.2.2.2.2.2.1 hP q 2 (by rw [am_ws_get hqn, am_cell_s hq2]) rfl hin hd ?_
  rw [ht]
  exact (hk _ _ _ _ _ _ h ρ H locs ls h0 h1 hX hW hS hl)
theorem am_m11r {q : Nat} {i v : Int32} {r : List Value} {w : Nat} (hC : am_Cx p R s m args c cc own D z A H0 nL n0 nf P X ρ0) (hq : am_al P n q = true) (hq2 : am_knd q = 13) (hin : vp_in i (am_len q)) (ht : τ q i.toNatClampNeg = w + 1) (hd : decode cc pc = .ok (.aaload, 1)) (h : k (pc + 1) L (.ref w :: r) n σ τ) (hk : ∀ pc L st n σ τ, k pc L st n σ τ → am_Wb p l e R s m args below meth c Q D z A H0 nL n0 nf X ρ0 pc L st n σ τ) : am_Wb p l e R s m args below meth c Q D z A H0 nL n0 nf X ρ0 pc L (.int i :: .ref q :: r) n σ τ := by
  intro ρ H locs ls h0 h1 hX hW hS hl
  obtain ⟨hP, hD, hT⟩ := id hW
  have hqn : q < n := am_al_lt hq (Nat.le_trans hC.2.2.2.2.2.2.2.2.2.1 h0)
  have hlt : i.toNatClampNeg < am_len q := Nat.not_le.mp fun q => hin (Or.inr q)
  have ha : (am_ws z ρ n σ τ)[q]? = some (ρ q, .inl (z.2.2.2, am_len q, .inr (.inr (.inr (.inr (fun i => am_ro ρ (τ q i))))))) := by rw [am_ws_get hqn, am_cell_r hq2]
  refine W.aald (v := va_rf (am_ro ρ (τ q i.toNatClampNeg))) (ty := .array .int) hC.1 hC.2.1 (hP q _ ha) ((hC.2.2.2.2.2.1.2 3 _ rfl).1 (am_len q) (fun j => va_rf (am_ro ρ (τ q j)))) rfl (fun q => by cases q) (by show ¬ (i < 0 ∨ (arrV _ _ _).slots.size ≤ _); rw [arrV_size]; exact hin) (by show (arrV _ _ _).slots[_]? = _; rw [arrV_read _ _ hlt]) rfl rfl hd ?_
  rw [ht]
  exact (hk _ _ _ _ _ _ h ρ H locs ls h0 h1 hX hW hS hl)
theorem am_m12 {q : Nat} {i v : Int32} {r : List Value} {w : Nat} (hC : am_Cx p R s m args c cc own D z A H0 nL n0 nf P X ρ0) (hq : am_al P n q = true) (hq2 : am_knd q = 12) (hin : vp_in i (am_len q)) (hz : am_al P n w = true) (hz2 : am_knd w = 4) (hd : decode cc pc = .ok (.aastore, 1)) (h : k (pc + 1) L r n σ (am_up τ q i.toNatClampNeg (w + 1))) (hk : ∀ pc L st n σ τ, k pc L st n σ τ → am_Wb p l e R s m args below meth c Q D z A H0 nL n0 nf X ρ0 pc L st n σ τ) : am_Wb p l e R s m args below meth c Q D z A H0 nL n0 nf X ρ0 pc L (.ref w :: .int i :: .ref q :: r) n σ τ := by
  intro ρ H locs ls h0 h1 hX hW hS hl
  obtain ⟨hP, hD, hT⟩ := id hW
  have hqn : q < n := am_al_lt hq (Nat.le_trans hC.2.2.2.2.2.2.2.2.2.1 h0)
  have hwn : w < n := am_al_lt hz (Nat.le_trans hC.2.2.2.2.2.2.2.2.2.1 h0)
  refine va_astq (D := D) (r := (RX4, TX4, 4)) hC.1 hC.2.1 hC.2.2.2.2.2.1 hP hD hS q 2 w 4 (by rw [am_ws_get hqn, am_cell_s hq2]) rfl (by rw [am_ws_get hwn, am_cell_o hz2 (by decide)]) rfl hin hd (fun H1 locs1 hP1 hD1 hS1 => ?_)
  have e := am_ws_set (z := z) (ρ := ρ) (n := n) (q := q) (σ := σ) (σ' := σ) (τ := τ) (τ' := am_up τ q i.toNatClampNeg (w + 1)) (c := .inl (z.2.2.1, am_len q, .inr (.inr (.inr (.inr (va_up (fun i => am_ro ρ (τ q i)) i.toNatClampNeg (some (ρ w)))))))) (by
    rw [am_cell_s hq2, show (fun j => am_ro ρ (am_up τ q i.toNatClampNeg (w + 1) q j)) = va_up (fun i => am_ro ρ (τ q i)) i.toNatClampNeg (some (ρ w)) from funext fun j => by
      rw [am_up_self]
      by_cases e9 : j = i.toNatClampNeg
      · rw [if_pos e9]
        simp [va_up, e9, am_ro]
      · rw [if_neg e9]
        simp [va_up, e9]]) (fun q9 hq9 => am_cell_cong rfl (fun _ => by rw [am_up_ne hq9]))
  rw [e] at hP1 hD1
  exact hk _ _ _ _ _ _ h ρ H1 locs1 ls h0 h1 hX ⟨hP1, hD1, fun q9 h9 i9 => by
    by_cases e9 : q9 = q
    · subst e9
      rw [am_up_self]
      split
      · exact hwn
      · exact hT _ h9 i9
    · rw [am_up_ne e9]
      exact hT _ h9 i9⟩ hS1 hl
theorem am_m13i {q : Nat} {r : List Value} (hC : am_Cx p R s m args c cc own D z A H0 nL n0 nf P X ρ0) (hq : am_al P n q = true) (hq2 : am_knd q = 10) (hd : decode cc pc = .ok (.arraylength, 1)) (h : k (pc + 1) L (.int (nI (am_len q)) :: r) n σ τ) (hk : ∀ pc L st n σ τ, k pc L st n σ τ → am_Wb p l e R s m args below meth c Q D z A H0 nL n0 nf X ρ0 pc L st n σ τ) : am_Wb p l e R s m args below meth c Q D z A H0 nL n0 nf X ρ0 pc L (.ref q :: r) n σ τ := by
  intro ρ H locs ls h0 h1 hX hW hS hl
  obtain ⟨hP, hD, hT⟩ := id hW
  have hqn : q < n := am_al_lt hq (Nat.le_trans hC.2.2.2.2.2.2.2.2.2.1 h0)
  exact va_alen (D := D) hC.1 hC.2.1 hC.2.2.2.2.2.1 hP q 0 (show (am_ws z ρ n σ τ)[q]? = some (ρ q, .inl (z.1, am_len q, .inl (σ q))) by rw [am_ws_get hqn, am_cell_i hq2]) rfl rfl hd (hk _ _ _ _ _ _ h ρ H locs ls h0 h1 hX hW hS hl)
theorem am_m13z {q : Nat} {r : List Value} (hC : am_Cx p R s m args c cc own D z A H0 nL n0 nf P X ρ0) (hq : am_al P n q = true) (hq2 : am_knd q = 11) (hd : decode cc pc = .ok (.arraylength, 1)) (h : k (pc + 1) L (.int (nI (am_len q)) :: r) n σ τ) (hk : ∀ pc L st n σ τ, k pc L st n σ τ → am_Wb p l e R s m args below meth c Q D z A H0 nL n0 nf X ρ0 pc L st n σ τ) : am_Wb p l e R s m args below meth c Q D z A H0 nL n0 nf X ρ0 pc L (.ref q :: r) n σ τ := by
  intro ρ H locs ls h0 h1 hX hW hS hl
  obtain ⟨hP, hD, hT⟩ := id hW
  have hqn : q < n := am_al_lt hq (Nat.le_trans hC.2.2.2.2.2.2.2.2.2.1 h0)
  exact va_alen (D := D) hC.1 hC.2.1 hC.2.2.2.2.2.1 hP q 1 (show (am_ws z ρ n σ τ)[q]? = some (ρ q, .inl (z.2.1, am_len q, .inl (σ q))) by rw [am_ws_get hqn, am_cell_z hq2]) rfl rfl hd (hk _ _ _ _ _ _ h ρ H locs ls h0 h1 hX hW hS hl)
theorem am_m13s {q : Nat} {r : List Value} (hC : am_Cx p R s m args c cc own D z A H0 nL n0 nf P X ρ0) (hq : am_al P n q = true) (hq2 : am_knd q = 12) (hd : decode cc pc = .ok (.arraylength, 1)) (h : k (pc + 1) L (.int (nI (am_len q)) :: r) n σ τ) (hk : ∀ pc L st n σ τ, k pc L st n σ τ → am_Wb p l e R s m args below meth c Q D z A H0 nL n0 nf X ρ0 pc L st n σ τ) : am_Wb p l e R s m args below meth c Q D z A H0 nL n0 nf X ρ0 pc L (.ref q :: r) n σ τ := by
  intro ρ H locs ls h0 h1 hX hW hS hl
  obtain ⟨hP, hD, hT⟩ := id hW
  have hqn : q < n := am_al_lt hq (Nat.le_trans hC.2.2.2.2.2.2.2.2.2.1 h0)
  exact va_alen (D := D) hC.1 hC.2.1 hC.2.2.2.2.2.1 hP q 2 (show (am_ws z ρ n σ τ)[q]? = some (ρ q, .inl (z.2.2.1, am_len q, .inr (.inr (.inr (.inr (fun i => am_ro ρ (τ q i))))))) by rw [am_ws_get hqn, am_cell_s hq2]) rfl rfl hd (hk _ _ _ _ _ _ h ρ H locs ls h0 h1 hX hW hS hl)
theorem am_m13r {q : Nat} {r : List Value} (hC : am_Cx p R s m args c cc own D z A H0 nL n0 nf P X ρ0) (hq : am_al P n q = true) (hq2 : am_knd q = 13) (hd : decode cc pc = .ok (.arraylength, 1)) (h : k (pc + 1) L (.int (nI (am_len q)) :: r) n σ τ) (hk : ∀ pc L st n σ τ, k pc L st n σ τ → am_Wb p l e R s m args below meth c Q D z A H0 nL n0 nf X ρ0 pc L st n σ τ) : am_Wb p l e R s m args below meth c Q D z A H0 nL n0 nf X ρ0 pc L (.ref q :: r) n σ τ := by
  intro ρ H locs ls h0 h1 hX hW hS hl
  obtain ⟨hP, hD, hT⟩ := id hW
  have hqn : q < n := am_al_lt hq (Nat.le_trans hC.2.2.2.2.2.2.2.2.2.1 h0)
  exact va_alen (D := D) hC.1 hC.2.1 hC.2.2.2.2.2.1 hP q 3 (show (am_ws z ρ n σ τ)[q]? = some (ρ q, .inl (z.2.2.2, am_len q, .inr (.inr (.inr (.inr (fun i => am_ro ρ (τ q i))))))) by rw [am_ws_get hqn, am_cell_r hq2]) rfl rfl hd (hk _ _ _ _ _ _ h ρ H locs ls h0 h1 hX hW hS hl)
theorem am_m14 {x i : Nat} {r : List Value} (hC : am_Cx p R s m args c cc own D z A H0 nL n0 nf P X ρ0) (hx : x < 9) (hw : .classLink own i (am_R x) ∈ am_tb) (hw2 : .instantiable (am_R x) (am_N x) ∈ am_tb) (hw3 : .initialized (am_R x) ∈ am_tb) (hq2 : am_knd n = x) (hN : am_len n = am_N x) (hnf : n + 1 ≤ nf) (hoS : am_okS n r = true) (hoL : am_okL n L = true) (hd : decode cc pc = .ok (.new i, 3)) (h : k (pc + 3) L (.ref n :: r) (n + 1) (am_z σ n 0) (am_z τ n 0)) (hk : ∀ pc L st n σ τ, k pc L st n σ τ → am_Wb p l e R s m args below meth c Q D z A H0 nL n0 nf X ρ0 pc L st n σ τ) : am_Wb p l e R s m args below meth c Q D z A H0 nL n0 nf X ρ0 pc L r n σ τ := by
  intro ρ H locs ls h0 h1 hX hW hS hl
  obtain ⟨hP, hD, hT⟩ := id hW
  have hm1 := am_sl_mono h0
  have hm2 : am_sl n + am_len n ≤ am_sl nf := am_sl_mono (a := n + 1) hnf
  have h1000 : nf ≤ 1000 := hC.2.2.2.2.2.2.2.2.2.2
  have hcl : n - n0 + 1 ≤ R.cells := by have := hC.2.2.2.2.2.2.2.1.1; omega
  have hsl : am_sl n - am_sl n0 + am_len n ≤ R.slots := by have := hC.2.2.2.2.2.2.2.1.2.1; omega
  obtain ⟨hc, hin, hty, hnm⟩ := am_cls hx
  have key : ∀ a9 : Nat, am_cell z (fun i => if i = n then a9 else ρ i) (am_z σ n 0) (am_z τ n 0) n = .inr (x, (List.range (am_N x)).map (fun k9 => bif am_isr x k9 then Value.null else .int 0)) := by
    intro a9
    rw [am_cell_o hq2 hx]
    congr 2
    apply List.map_congr_left
    intro k9 _
    simp only [am_fv, am_z_self]
    cases am_isr x k9 <;> rfl
  refine va_new (D := D) (ci := x) (fs := (List.range (am_N x)).map (fun k9 => bif am_isr x k9 then Value.null else .int 0)) (C := am_R x) (T := am_T x) (N := am_N x) hC.1 hC.2.1 hC.2.2.2.2.1 hin (am_ty x) hty hC.2.2.2.1 (hC.2.2.2.2.1 _ hw) (hC.2.2.2.2.1 _ hw2) (hC.2.2.2.2.1 _ hw3) hC.2.2.2.2.2.1 hP hD hS hC.2.2.2.2.2.2.1 hc (fun j hj => ?_) hcl (by rw [← hN]; exact hsl) hd (fun a9 H1 hP1 hD1 hS1 => ?_)
  · have hf := am_fty hx hj
    have e9 : vp_V ((List.range (am_N x)).map (fun k9 => bif am_isr x k9 then Value.null else .int 0)) j = bif am_isr x j then Value.null else .int 0 := by simp [vp_V, hj]
    rw [e9]
    cases hr : am_isr x j with
    | true =>
      have := hf.1 hr
      revert this
      cases am_ty x j <;> intro h9 <;> first | rfl | exact absurd h9 Bool.false_ne_true
    | false =>
      have := hf.2 hr
      revert this
      cases am_ty x j <;> intro h9 <;> first | rfl | exact absurd h9 Bool.false_ne_true
  have hW1 := hW.grow hP1 hD1 (key a9)
  rw [← hN]
  have hgo := hk _ _ _ _ _ _ h (fun i => if i = n then a9 else ρ i) H1 locs ls (by omega) hnf (fun q9 h9 => by show (if q9 = n then a9 else ρ q9) = ρ0 q9; rw [if_neg (by omega)]; exact hX q9 h9) hW1 hS1 (am_has.ext (fun q9 h9 => am_rho h9) (if_neg (by omega)) hoL hl)
  rw [List.map_cons, am_okS_map (ρ := ρ) (fun q9 h9 => am_rho h9) (if_neg (by omega)) r hoS] at hgo
  have e9 : am_cv (fun i => if i = n then a9 else ρ i) (.ref n) = .ref a9 := by show Value.ref (if n = n then a9 else ρ n) = _; rw [if_pos rfl]
  rw [e9] at hgo
  refine W.cs (cells' := n + 1 - n0) (slots' := am_sl (n + 1) - am_sl n0) (by omega) (by show _ = am_sl n + am_len n - am_sl n0; omega) hgo
theorem am_m15 {v : Int32} {r : List Value} (hC : am_Cx p R s m args c cc own D z A H0 nL n0 nf P X ρ0) (hq2 : am_knd n = 10) (hv : v = nI (am_len n)) (ha : .arrayClass .int ∈ am_tb) (hnf : n + 1 ≤ nf) (hoS : am_okS n r = true) (hoL : am_okL n L = true) (hd : decode cc pc = .ok (.newarray .int, 2)) (h : k (pc + 2) L (.ref n :: r) (n + 1) (am_z σ n 0) (am_z τ n 0)) (hk : ∀ pc L st n σ τ, k pc L st n σ τ → am_Wb p l e R s m args below meth c Q D z A H0 nL n0 nf X ρ0 pc L st n σ τ) : am_Wb p l e R s m args below meth c Q D z A H0 nL n0 nf X ρ0 pc L (.int v :: r) n σ τ := by
  intro ρ H locs ls h0 h1 hX hW hS hl
  obtain ⟨hP, hD, hT⟩ := id hW
  have hm1 := am_sl_mono h0
  have hm2 : am_sl n + am_len n ≤ am_sl nf := am_sl_mono (a := n + 1) hnf
  have h1000 : nf ≤ 1000 := hC.2.2.2.2.2.2.2.2.2.2
  have hcl : n - n0 + 1 ≤ R.cells := by have := hC.2.2.2.2.2.2.2.1.1; omega
  have hsl : am_sl n - am_sl n0 + am_len n ≤ R.slots := by have := hC.2.2.2.2.2.2.2.1.2.1; omega
  have hle := am_len_le n
  have hN : v.toNatClampNeg = am_len n := by rw [hv]; exact nI_clamp (by omega)
  refine va_newa (D := D) (atype := .int) (ty := .int) (a0 := (am_len n, .inl (fun _ => 0))) hC.1 hC.2.1 (hC.2.2.2.2.1 _ ha) rfl hC.2.2.2.2.2.1 hP hD hS hC.2.2.2.2.2.2.1 (fun _ => rfl) (by rw [hv]; exact nI_pos (by omega)) hN (by show am_len n * componentBytes .int ≤ 536870912; simp [componentBytes]; omega) hcl hsl hd (fun a9 cA H1 hK1 hP1 hD1 hS1 => ?_)
  have eA : cA = z.1 := by
    have g1 := (hK1.2 4 (cA, .int) rfl).2
    have g2 := (hC.2.2.2.2.2.1.2 0 (z.1, .int) rfl).2
    exact Option.some.inj (g1.symm.trans g2)
  subst eA
  have hW1 := hW.grow hP1 hD1 (by rw [am_cell_i hq2, show am_z σ n 0 n = (fun _ => 0) from funext fun j => am_z_self j])
  have hgo := hk _ _ _ _ _ _ h (fun i => if i = n then a9 else ρ i) H1 locs ls (by omega) hnf (fun q9 h9 => by show (if q9 = n then a9 else ρ q9) = ρ0 q9; rw [if_neg (by omega)]; exact hX q9 h9) hW1 hS1 (am_has.ext (fun q9 h9 => am_rho h9) (if_neg (by omega)) hoL hl)
  rw [List.map_cons, am_okS_map (ρ := ρ) (fun q9 h9 => am_rho h9) (if_neg (by omega)) r hoS] at hgo
  have e9 : am_cv (fun i => if i = n then a9 else ρ i) (.ref n) = .ref a9 := by show Value.ref (if n = n then a9 else ρ n) = _; rw [if_pos rfl]
  rw [e9] at hgo
  refine W.cs (cells' := n + 1 - n0) (slots' := am_sl (n + 1) - am_sl n0) (by omega) (by show _ = am_sl n + am_len n - am_sl n0; omega) hgo
theorem am_m16 {v : Int32} {r : List Value} (hC : am_Cx p R s m args c cc own D z A H0 nL n0 nf P X ρ0) (hq2 : am_knd n = 11) (hv : v = nI (am_len n)) (ha : .arrayClass .boolean ∈ am_tb) (hnf : n + 1 ≤ nf) (hoS : am_okS n r = true) (hoL : am_okL n L = true) (hd : decode cc pc = .ok (.newarray .boolean, 2)) (h : k (pc + 2) L (.ref n :: r) (n + 1) (am_z σ n 0) (am_z τ n 0)) (hk : ∀ pc L st n σ τ, k pc L st n σ τ → am_Wb p l e R s m args below meth c Q D z A H0 nL n0 nf X ρ0 pc L st n σ τ) : am_Wb p l e R s m args below meth c Q D z A H0 nL n0 nf X ρ0 pc L (.int v :: r) n σ τ := by
  intro ρ H locs ls h0 h1 hX hW hS hl
  obtain ⟨hP, hD, hT⟩ := id hW
  have hm1 := am_sl_mono h0
  have hm2 : am_sl n + am_len n ≤ am_sl nf := am_sl_mono (a := n + 1) hnf
  have h1000 : nf ≤ 1000 := hC.2.2.2.2.2.2.2.2.2.2
  have hcl : n - n0 + 1 ≤ R.cells := by have := hC.2.2.2.2.2.2.2.1.1; omega
  have hsl : am_sl n - am_sl n0 + am_len n ≤ R.slots := by have := hC.2.2.2.2.2.2.2.1.2.1; omega
  have hle := am_len_le n
  have hN : v.toNatClampNeg = am_len n := by rw [hv]; exact nI_clamp (by omega)
  refine va_newa (D := D) (atype := .boolean) (ty := .boolean) (a0 := (am_len n, .inl (fun _ => 0))) hC.1 hC.2.1 (hC.2.2.2.2.1 _ ha) rfl hC.2.2.2.2.2.1 hP hD hS hC.2.2.2.2.2.2.1 (fun _ => rfl) (by rw [hv]; exact nI_pos (by omega)) hN (by show am_len n * componentBytes .boolean ≤ 536870912; simp [componentBytes]; omega) hcl hsl hd (fun a9 cA H1 hK1 hP1 hD1 hS1 => ?_)
  have eA : cA = z.2.1 := by
    have g1 := (hK1.2 4 (cA, .boolean) rfl).2
    have g2 := (hC.2.2.2.2.2.1.2 1 (z.2.1, .boolean) rfl).2
    exact Option.some.inj (g1.symm.trans g2)
  subst eA
  have hW1 := hW.grow hP1 hD1 (by rw [am_cell_z hq2, show am_z σ n 0 n = (fun _ => 0) from funext fun j => am_z_self j])
  have hgo := hk _ _ _ _ _ _ h (fun i => if i = n then a9 else ρ i) H1 locs ls (by omega) hnf (fun q9 h9 => by show (if q9 = n then a9 else ρ q9) = ρ0 q9; rw [if_neg (by omega)]; exact hX q9 h9) hW1 hS1 (am_has.ext (fun q9 h9 => am_rho h9) (if_neg (by omega)) hoL hl)
  rw [List.map_cons, am_okS_map (ρ := ρ) (fun q9 h9 => am_rho h9) (if_neg (by omega)) r hoS] at hgo
  have e9 : am_cv (fun i => if i = n then a9 else ρ i) (.ref n) = .ref a9 := by show Value.ref (if n = n then a9 else ρ n) = _; rw [if_pos rfl]
  rw [e9] at hgo
  refine W.cs (cells' := n + 1 - n0) (slots' := am_sl (n + 1) - am_sl n0) (by omega) (by show _ = am_sl n + am_len n - am_sl n0; omega) hgo
theorem am_m17 {v : Int32} {i : Nat} {r : List Value} (hC : am_Cx p R s m args c cc own D z A H0 nL n0 nf P X ρ0) (hq2 : am_knd n = 12) (hv : v = nI (am_len n)) (hw : .classLink own i "CanalEnd$Sheet" ∈ am_tb) (ha : .arrayOver (.object "CanalEnd$Sheet") ∈ am_tb) (hnf : n + 1 ≤ nf) (hoS : am_okS n r = true) (hoL : am_okL n L = true) (hd : decode cc pc = .ok (.anewarray i, 3)) (h : k (pc + 3) L (.ref n :: r) (n + 1) (am_z σ n 0) (am_z τ n 0)) (hk : ∀ pc L st n σ τ, k pc L st n σ τ → am_Wb p l e R s m args below meth c Q D z A H0 nL n0 nf X ρ0 pc L st n σ τ) : am_Wb p l e R s m args below meth c Q D z A H0 nL n0 nf X ρ0 pc L (.int v :: r) n σ τ := by
  intro ρ H locs ls h0 h1 hX hW hS hl
  obtain ⟨hP, hD, hT⟩ := id hW
  have hm1 := am_sl_mono h0
  have hm2 : am_sl n + am_len n ≤ am_sl nf := am_sl_mono (a := n + 1) hnf
  have h1000 : nf ≤ 1000 := hC.2.2.2.2.2.2.2.2.2.2
  have hcl : n - n0 + 1 ≤ R.cells := by have := hC.2.2.2.2.2.2.2.1.1; omega
  have hsl : am_sl n - am_sl n0 + am_len n ≤ R.slots := by have := hC.2.2.2.2.2.2.2.1.2.1; omega
  have hle := am_len_le n
  have hN : v.toNatClampNeg = am_len n := by rw [hv]; exact nI_clamp (by omega)
  refine va_newq (D := D) (C := "CanalEnd$Sheet") hC.1 hC.2.1 hC.2.2.2.1 (hC.2.2.2.2.1 _ hw) (va_AO.of (hC.2.2.2.2.1 _ ha)) hC.2.2.2.2.2.1 hP hD hS hC.2.2.2.2.2.2.1 (by rw [hv]; exact nI_pos (by omega)) hN (by omega) hcl hsl hd (fun a9 cA H1 hK1 hP1 hD1 hS1 => ?_)
  have eA : cA = z.2.2.1 := by
    obtain ⟨_, _, _, _, _, g1⟩ := (hK1.2 4 (cA, .object "CanalEnd$Sheet") rfl).2
    obtain ⟨_, _, _, _, _, g2⟩ := (hC.2.2.2.2.2.1.2 2 (z.2.2.1, .object "CanalEnd$Sheet") rfl).2
    exact Option.some.inj (g1.symm.trans g2)
  subst eA
  have hW1 := hW.grow hP1 hD1 (by rw [am_cell_s hq2, show (fun j => am_ro (fun i => if i = n then a9 else ρ i) (am_z τ n 0 n j)) = (fun _ => none) from funext fun j => by rw [am_z_self]; rfl])
  have hgo := hk _ _ _ _ _ _ h (fun i => if i = n then a9 else ρ i) H1 locs ls (by omega) hnf (fun q9 h9 => by show (if q9 = n then a9 else ρ q9) = ρ0 q9; rw [if_neg (by omega)]; exact hX q9 h9) hW1 hS1 (am_has.ext (fun q9 h9 => am_rho h9) (if_neg (by omega)) hoL hl)
  rw [List.map_cons, am_okS_map (ρ := ρ) (fun q9 h9 => am_rho h9) (if_neg (by omega)) r hoS] at hgo
  have e9 : am_cv (fun i => if i = n then a9 else ρ i) (.ref n) = .ref a9 := by show Value.ref (if n = n then a9 else ρ n) = _; rw [if_pos rfl]
  rw [e9] at hgo
  refine W.cs (cells' := n + 1 - n0) (slots' := am_sl (n + 1) - am_sl n0) (by omega) (by show _ = am_sl n + am_len n - am_sl n0; omega) hgo
end AMB
