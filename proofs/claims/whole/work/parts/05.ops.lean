def am_Wb (p : Program) (l : Launch) (e : Env) (R : Room) (s : State) (m : MethodId) (args : Array Value) (below : List Frame) (meth : Method) (c : Code) (Q : State → Prop) (D : va_G) (z : am_Z) (A : Nat → Prop) (H0 : Heap) (nL n0 nf : Nat) (X : am_X) (ρ0 : Nat → Nat) : am_K := fun pc L st n σ τ =>
  ∀ (ρ : Nat → Nat) (H : Heap) (locs : List Loc) (ls : Array Slot), n0 ≤ n → n ≤ nf → (∀ q, q < n0 ∨ nf ≤ q → ρ q = ρ0 q) → am_Wd D z ρ n σ τ A H → va_S A H0 H locs → am_has ρ ls nL L →
    W p l e R s m args below meth c H locs (n - n0) (am_sl n - am_sl n0) Q (F0 m pc ls (st.map (am_cv ρ)))
def am_Cx (p : Program) (R : Room) (s : State) (m : MethodId) (args : Array Value) (c : Code) (cc : ByteArray) (own : String) (D : va_G) (z : am_Z) (A : Nat → Prop) (H0 : Heap) (nL n0 nf P : Nat) (X : am_X) (ρ0 : Nat → Nat) : Prop :=
  p.tables.exec = Jvm.exec ∧ c.code = cc ∧ c.maxLocals = nL ∧ s.vm.findClass own = some m.cls ∧ (∀ w ∈ am_tb, w.before args s = true) ∧ va_K D vwCl (am_tys z) s ∧ (∀ q, H0.size ≤ q → A q) ∧ (nf - n0 ≤ R.cells ∧ am_sl nf - am_sl n0 ≤ R.slots ∧ 1 ≤ R.frames ∧ 64 ≤ R.locals) ∧ (X.1 = true → va_X (ρ0 1000) X.2.1 X.2.2 s H0 ∧ ρ0 1000 < H0.size ∧ ¬ A (ρ0 1000)) ∧ P ≤ n0 ∧ nf ≤ 1000
section AMA
variable {p : Program} {l : Launch} {e : Env} {R : Room} {s : State} {m : MethodId} {args : Array Value} {below : List Frame} {meth : Method} {c : Code} {Q : State → Prop} {cc : ByteArray} {own : String} {D : va_G} {z : am_Z} {A : Nat → Prop} {H0 : Heap} {nL n0 nf P : Nat} {X : am_X} {ρ0 : Nat → Nat} {pc nx : Nat} {L : am_L} {st : List Value} {n : Nat} {σ : am_Sg} {τ : am_Tu} {k : am_K}
theorem am_s0 (hC : am_Cx p R s m args c cc own D z A H0 nL n0 nf P X ρ0) {w : Int32} (hd : decode cc pc = .ok (.iconst w.toInt, 1)) (hv : Int32.ofInt w.toInt = w) (h : k (pc + 1) L (.int w :: st) n σ τ) (hk : ∀ pc L st n σ τ, k pc L st n σ τ → am_Wb p l e R s m args below meth c Q D z A H0 nL n0 nf X ρ0 pc L st n σ τ) : am_Wb p l e R s m args below meth c Q D z A H0 nL n0 nf X ρ0 pc L st n σ τ := by
  intro ρ H locs ls h0 h1 hX hW hS hl
  exact lv_iconst hC.1 hC.2.1 hd hv (hk _ _ _ _ _ _ h ρ H locs ls h0 h1 hX hW hS hl)
theorem am_s1 (hC : am_Cx p R s m args c cc own D z A H0 nL n0 nf P X ρ0) {w : Int32} (hd : decode cc pc = .ok (.bipush w.toInt, 2)) (hv : (Int8.ofInt w.toInt).toInt32 = w) (h : k (pc + 2) L (.int w :: st) n σ τ) (hk : ∀ pc L st n σ τ, k pc L st n σ τ → am_Wb p l e R s m args below meth c Q D z A H0 nL n0 nf X ρ0 pc L st n σ τ) : am_Wb p l e R s m args below meth c Q D z A H0 nL n0 nf X ρ0 pc L st n σ τ := by
  intro ρ H locs ls h0 h1 hX hW hS hl
  exact lv_bipush hC.1 hC.2.1 hd hv (hk _ _ _ _ _ _ h ρ H locs ls h0 h1 hX hW hS hl)
theorem am_s2 (hC : am_Cx p R s m args c cc own D z A H0 nL n0 nf P X ρ0) {w : Int32} (hd : decode cc pc = .ok (.sipush w.toInt, 3)) (hv : (Int16.ofInt w.toInt).toInt32 = w) (h : k (pc + 3) L (.int w :: st) n σ τ) (hk : ∀ pc L st n σ τ, k pc L st n σ τ → am_Wb p l e R s m args below meth c Q D z A H0 nL n0 nf X ρ0 pc L st n σ τ) : am_Wb p l e R s m args below meth c Q D z A H0 nL n0 nf X ρ0 pc L st n σ τ := by
  intro ρ H locs ls h0 h1 hX hW hS hl
  exact lv_sipush hC.1 hC.2.1 hd hv (hk _ _ _ _ _ _ h ρ H locs ls h0 h1 hX hW hS hl)
theorem am_s3 (hC : am_Cx p R s m args c cc own D z A H0 nL n0 nf P X ρ0) {w : Int32} {x : Nat} (hd : decode cc pc = .ok (.ldc_w x, 3)) (hv : .constant own x w ∈ am_tb) (h : k (pc + 3) L (.int w :: st) n σ τ) (hk : ∀ pc L st n σ τ, k pc L st n σ τ → am_Wb p l e R s m args below meth c Q D z A H0 nL n0 nf X ρ0 pc L st n σ τ) : am_Wb p l e R s m args below meth c Q D z A H0 nL n0 nf X ρ0 pc L st n σ τ := by
  intro ρ H locs ls h0 h1 hX hW hS hl
  exact lv_ldcw hC.1 hC.2.1 hC.2.2.2.1 (hC.2.2.2.2.1 _ hv) hd (hk _ _ _ _ _ _ h ρ H locs ls h0 h1 hX hW hS hl)
theorem am_s4 (hC : am_Cx p R s m args c cc own D z A H0 nL n0 nf P X ρ0) (hd : decode cc pc = .ok (.aconst_null, 1)) (h : k (pc + 1) L (.null :: st) n σ τ) (hk : ∀ pc L st n σ τ, k pc L st n σ τ → am_Wb p l e R s m args below meth c Q D z A H0 nL n0 nf X ρ0 pc L st n σ τ) : am_Wb p l e R s m args below meth c Q D z A H0 nL n0 nf X ρ0 pc L st n σ τ := by
  intro ρ H locs ls h0 h1 hX hW hS hl
  exact lv_null hC.1 hC.2.1 hd (hk _ _ _ _ _ _ h ρ H locs ls h0 h1 hX hW hS hl)
theorem am_s42 (hC : am_Cx p R s m args c cc own D z A H0 nL n0 nf P X ρ0) {w : Int64} {x : Fin 2} (hd : decode cc pc = .ok (.lconst x, 1)) (hv : Int64.ofNat (x : Nat) = w) (h : k (pc + 1) L (.long w :: st) n σ τ) (hk : ∀ pc L st n σ τ, k pc L st n σ τ → am_Wb p l e R s m args below meth c Q D z A H0 nL n0 nf X ρ0 pc L st n σ τ) : am_Wb p l e R s m args below meth c Q D z A H0 nL n0 nf X ρ0 pc L st n σ τ := by
  intro ρ H locs ls h0 h1 hX hW hS hl
  exact lv_lconst hC.1 hC.2.1 hd hv (hk _ _ _ _ _ _ h ρ H locs ls h0 h1 hX hW hS hl)
theorem am_s43 (hC : am_Cx p R s m args c cc own D z A H0 nL n0 nf P X ρ0) {w : Int64} {x : Nat} (hd : decode cc pc = .ok (.ldc2_w x, 3)) (hv : .constantLong own x w ∈ am_tb) (h : k (pc + 3) L (.long w :: st) n σ τ) (hk : ∀ pc L st n σ τ, k pc L st n σ τ → am_Wb p l e R s m args below meth c Q D z A H0 nL n0 nf X ρ0 pc L st n σ τ) : am_Wb p l e R s m args below meth c Q D z A H0 nL n0 nf X ρ0 pc L st n σ τ := by
  intro ρ H locs ls h0 h1 hX hW hS hl
  exact lv_ldc2 hC.1 hC.2.1 hC.2.2.2.1 (hC.2.2.2.2.1 _ hv) hd (hk _ _ _ _ _ _ h ρ H locs ls h0 h1 hX hW hS hl)
theorem am_s5 (hC : am_Cx p R s m args c cc own D z A H0 nL n0 nf P X ρ0) {x : Nat} (hd : decode cc pc = .ok (.iload x, 2)) (h : am_ld (am_nth L x) (fun v => k (pc + 2) L (v :: st) n σ τ) 0) (hk : ∀ pc L st n σ τ, k pc L st n σ τ → am_Wb p l e R s m args below meth c Q D z A H0 nL n0 nf X ρ0 pc L st n σ τ) : am_Wb p l e R s m args below meth c Q D z A H0 nL n0 nf X ρ0 pc L st n σ τ := by
  obtain ⟨v, hv, h⟩ := am_ld0_inv h
  intro ρ H locs ls h0 h1 hX hW hS hl
  exact lv_iload hC.1 hC.2.1 hd (hl.2.2.2 _ _ hv) (hk _ _ _ _ _ _ h ρ H locs ls h0 h1 hX hW hS hl)
theorem am_s6 (hC : am_Cx p R s m args c cc own D z A H0 nL n0 nf P X ρ0) {x : Nat} {i : Fin 4} (hi : (i : Nat) = x) (hd : decode cc pc = .ok (.iload_n i, 1)) (h : am_ld (am_nth L x) (fun v => k (pc + 1) L (v :: st) n σ τ) 0) (hk : ∀ pc L st n σ τ, k pc L st n σ τ → am_Wb p l e R s m args below meth c Q D z A H0 nL n0 nf X ρ0 pc L st n σ τ) : am_Wb p l e R s m args below meth c Q D z A H0 nL n0 nf X ρ0 pc L st n σ τ := by
  obtain ⟨v, hv, h⟩ := am_ld0_inv h
  intro ρ H locs ls h0 h1 hX hW hS hl
  exact lv_iload_n hC.1 hC.2.1 hd hi (hl.2.2.2 _ _ hv) (hk _ _ _ _ _ _ h ρ H locs ls h0 h1 hX hW hS hl)
theorem am_s7 (hC : am_Cx p R s m args c cc own D z A H0 nL n0 nf P X ρ0) {x : Nat} (hd : decode cc pc = .ok (.aload x, 2)) (h : am_ld (am_nth L x) (fun v => k (pc + 2) L (v :: st) n σ τ) 1) (hk : ∀ pc L st n σ τ, k pc L st n σ τ → am_Wb p l e R s m args below meth c Q D z A H0 nL n0 nf X ρ0 pc L st n σ τ) : am_Wb p l e R s m args below meth c Q D z A H0 nL n0 nf X ρ0 pc L st n σ τ := by
  obtain ⟨v, hv, h⟩ := am_ld1_inv h
  intro ρ H locs ls h0 h1 hX hW hS hl
  exact lv_aload hC.1 hC.2.1 hd (hl.2.2.2 _ _ hv) (hk _ _ _ _ _ _ h ρ H locs ls h0 h1 hX hW hS hl)
theorem am_s8 (hC : am_Cx p R s m args c cc own D z A H0 nL n0 nf P X ρ0) {x : Nat} {i : Fin 4} (hi : (i : Nat) = x) (hd : decode cc pc = .ok (.aload_n i, 1)) (h : am_ld (am_nth L x) (fun v => k (pc + 1) L (v :: st) n σ τ) 1) (hk : ∀ pc L st n σ τ, k pc L st n σ τ → am_Wb p l e R s m args below meth c Q D z A H0 nL n0 nf X ρ0 pc L st n σ τ) : am_Wb p l e R s m args below meth c Q D z A H0 nL n0 nf X ρ0 pc L st n σ τ := by
  obtain ⟨v, hv, h⟩ := am_ld1_inv h
  intro ρ H locs ls h0 h1 hX hW hS hl
  exact lv_aload_n hC.1 hC.2.1 hd hi (hl.2.2.2 _ _ hv) (hk _ _ _ _ _ _ h ρ H locs ls h0 h1 hX hW hS hl)
theorem am_s9 (hC : am_Cx p R s m args c cc own D z A H0 nL n0 nf P X ρ0) {x : Nat} (hd : decode cc pc = .ok (.lload x, 2)) (h : am_ld (am_nth L x) (fun v => k (pc + 2) L (v :: st) n σ τ) 2) (hk : ∀ pc L st n σ τ, k pc L st n σ τ → am_Wb p l e R s m args below meth c Q D z A H0 nL n0 nf X ρ0 pc L st n σ τ) : am_Wb p l e R s m args below meth c Q D z A H0 nL n0 nf X ρ0 pc L st n σ τ := by
  obtain ⟨v, hv, h⟩ := am_ld2_inv h
  intro ρ H locs ls h0 h1 hX hW hS hl
  exact lv_lload hC.1 hC.2.1 hd (hl.2.2.2 _ _ hv) (hk _ _ _ _ _ _ h ρ H locs ls h0 h1 hX hW hS hl)
theorem am_s10 (hC : am_Cx p R s m args c cc own D z A H0 nL n0 nf P X ρ0) {x : Nat} {i : Fin 4} (hi : (i : Nat) = x) (hd : decode cc pc = .ok (.lload_n i, 1)) (h : am_ld (am_nth L x) (fun v => k (pc + 1) L (v :: st) n σ τ) 2) (hk : ∀ pc L st n σ τ, k pc L st n σ τ → am_Wb p l e R s m args below meth c Q D z A H0 nL n0 nf X ρ0 pc L st n σ τ) : am_Wb p l e R s m args below meth c Q D z A H0 nL n0 nf X ρ0 pc L st n σ τ := by
  obtain ⟨v, hv, h⟩ := am_ld2_inv h
  intro ρ H locs ls h0 h1 hX hW hS hl
  exact lv_lload_n hC.1 hC.2.1 hd hi (hl.2.2.2 _ _ hv) (hk _ _ _ _ _ _ h ρ H locs ls h0 h1 hX hW hS hl)
theorem am_s11 (hC : am_Cx p R s m args c cc own D z A H0 nL n0 nf P X ρ0) {x : Nat} (hd : decode cc pc = .ok (.istore x, 2)) (h : am_un st fun v s => am_gd (am_nl L x) (am_setK L x (some (.int v)) fun L2 => k (pc + 2) L2 s n σ τ)) (hk : ∀ pc L st n σ τ, k pc L st n σ τ → am_Wb p l e R s m args below meth c Q D z A H0 nL n0 nf X ρ0 pc L st n σ τ) : am_Wb p l e R s m args below meth c Q D z A H0 nL n0 nf X ρ0 pc L st n σ τ := by
  obtain ⟨v, r, rfl, h⟩ := am_un_inv h
  obtain ⟨hn, h⟩ := am_gd_inv h
  obtain ⟨hi9, h⟩ := am_setK_inv _ _ _ _ h
  intro ρ H locs ls h0 h1 hX hW hS hl
  exact lv_istore hC.1 hC.2.1 hd hl.lv (by rw [← hl.2.2.1]; exact hi9) rfl (fun ls2 hl2 => hk _ _ _ _ _ _ h ρ H locs ls2 h0 h1 hX hW hS (am_has.set1 hl hi9 (am_nl_cat hn) hl2))
theorem am_s12 (hC : am_Cx p R s m args c cc own D z A H0 nL n0 nf P X ρ0) {x : Nat} {i : Fin 4} (hi : (i : Nat) = x) (hd : decode cc pc = .ok (.istore_n i, 1)) (h : am_un st fun v s => am_gd (am_nl L x) (am_setK L x (some (.int v)) fun L2 => k (pc + 1) L2 s n σ τ)) (hk : ∀ pc L st n σ τ, k pc L st n σ τ → am_Wb p l e R s m args below meth c Q D z A H0 nL n0 nf X ρ0 pc L st n σ τ) : am_Wb p l e R s m args below meth c Q D z A H0 nL n0 nf X ρ0 pc L st n σ τ := by
  obtain ⟨v, r, rfl, h⟩ := am_un_inv h
  obtain ⟨hn, h⟩ := am_gd_inv h
  obtain ⟨hi9, h⟩ := am_setK_inv _ _ _ _ h
  intro ρ H locs ls h0 h1 hX hW hS hl
  exact lv_istore_n hC.1 hC.2.1 hd hi hl.lv (by rw [← hl.2.2.1]; exact hi9) rfl (fun ls2 hl2 => hk _ _ _ _ _ _ h ρ H locs ls2 h0 h1 hX hW hS (am_has.set1 hl hi9 (am_nl_cat hn) hl2))
theorem am_s13 (hC : am_Cx p R s m args c cc own D z A H0 nL n0 nf P X ρ0) {x : Nat} (hd : decode cc pc = .ok (.astore x, 2)) (h : am_rf st fun v s => am_gd (am_nl L x) (am_setK L x (some (.ref v)) fun L2 => k (pc + 2) L2 s n σ τ)) (hk : ∀ pc L st n σ τ, k pc L st n σ τ → am_Wb p l e R s m args below meth c Q D z A H0 nL n0 nf X ρ0 pc L st n σ τ) : am_Wb p l e R s m args below meth c Q D z A H0 nL n0 nf X ρ0 pc L st n σ τ := by
  obtain ⟨v, r, rfl, h⟩ := am_rf_inv h
  obtain ⟨hn, h⟩ := am_gd_inv h
  obtain ⟨hi9, h⟩ := am_setK_inv _ _ _ _ h
  intro ρ H locs ls h0 h1 hX hW hS hl
  exact lv_astore hC.1 hC.2.1 hd hl.lv (by rw [← hl.2.2.1]; exact hi9) rfl (fun ls2 hl2 => hk _ _ _ _ _ _ h ρ H locs ls2 h0 h1 hX hW hS (am_has.set1 hl hi9 (am_nl_cat hn) hl2))
theorem am_s14 (hC : am_Cx p R s m args c cc own D z A H0 nL n0 nf P X ρ0) {x : Nat} {i : Fin 4} (hi : (i : Nat) = x) (hd : decode cc pc = .ok (.astore_n i, 1)) (h : am_rf st fun v s => am_gd (am_nl L x) (am_setK L x (some (.ref v)) fun L2 => k (pc + 1) L2 s n σ τ)) (hk : ∀ pc L st n σ τ, k pc L st n σ τ → am_Wb p l e R s m args below meth c Q D z A H0 nL n0 nf X ρ0 pc L st n σ τ) : am_Wb p l e R s m args below meth c Q D z A H0 nL n0 nf X ρ0 pc L st n σ τ := by
  obtain ⟨v, r, rfl, h⟩ := am_rf_inv h
  obtain ⟨hn, h⟩ := am_gd_inv h
  obtain ⟨hi9, h⟩ := am_setK_inv _ _ _ _ h
  intro ρ H locs ls h0 h1 hX hW hS hl
  exact lv_astore_n hC.1 hC.2.1 hd hi hl.lv (by rw [← hl.2.2.1]; exact hi9) rfl (fun ls2 hl2 => hk _ _ _ _ _ _ h ρ H locs ls2 h0 h1 hX hW hS (am_has.set1 hl hi9 (am_nl_cat hn) hl2))
theorem am_s15 {v : Int64} {s0 : List Value} (hC : am_Cx p R s m args c cc own D z A H0 nL n0 nf P X ρ0) {x : Nat} (hd : decode cc pc = .ok (.lstore x, 2)) (h : am_gd (am_nl L x) (am_setK L x (some (.long v)) fun L2 => am_setK L2 (x + 1) none fun L3 => k (pc + 2) L3 s0 n σ τ)) (hk : ∀ pc L st n σ τ, k pc L st n σ τ → am_Wb p l e R s m args below meth c Q D z A H0 nL n0 nf X ρ0 pc L st n σ τ) : am_Wb p l e R s m args below meth c Q D z A H0 nL n0 nf X ρ0 pc L (.long v :: s0) n σ τ := by
  obtain ⟨hn, h⟩ := am_gd_inv h
  obtain ⟨hi8, h⟩ := am_setK_inv _ _ _ _ h
  obtain ⟨hi9, h⟩ := am_setK_inv _ _ _ _ h
  rw [List.length_set] at hi9
  intro ρ H locs ls h0 h1 hX hW hS hl
  exact lv_lstore hC.1 hC.2.1 hd hl.lv (by rw [← hl.2.2.1]; exact hi9) rfl (fun ls2 hl2 => hk _ _ _ _ _ _ h ρ H locs ls2 h0 h1 hX hW hS (am_has.set2 (v := .long v) hl hi9 (am_nl_cat hn) hl2))
theorem am_s16 {v : Int64} {s0 : List Value} (hC : am_Cx p R s m args c cc own D z A H0 nL n0 nf P X ρ0) {x : Nat} {i : Fin 4} (hi : (i : Nat) = x) (hd : decode cc pc = .ok (.lstore_n i, 1)) (h : am_gd (am_nl L x) (am_setK L x (some (.long v)) fun L2 => am_setK L2 (x + 1) none fun L3 => k (pc + 1) L3 s0 n σ τ)) (hk : ∀ pc L st n σ τ, k pc L st n σ τ → am_Wb p l e R s m args below meth c Q D z A H0 nL n0 nf X ρ0 pc L st n σ τ) : am_Wb p l e R s m args below meth c Q D z A H0 nL n0 nf X ρ0 pc L (.long v :: s0) n σ τ := by
  obtain ⟨hn, h⟩ := am_gd_inv h
  obtain ⟨hi8, h⟩ := am_setK_inv _ _ _ _ h
  obtain ⟨hi9, h⟩ := am_setK_inv _ _ _ _ h
  rw [List.length_set] at hi9
  intro ρ H locs ls h0 h1 hX hW hS hl
  exact lv_lstore_n hC.1 hC.2.1 hd hi hl.lv (by rw [← hl.2.2.1]; exact hi9) rfl (fun ls2 hl2 => hk _ _ _ _ _ _ h ρ H locs ls2 h0 h1 hX hW hS (am_has.set2 (v := .long v) hl hi9 (am_nl_cat hn) hl2))
theorem am_s17 (hC : am_Cx p R s m args c cc own D z A H0 nL n0 nf P X ρ0) {x : Nat} {w : Int32} (hv : Int32.ofInt w.toInt = w) (hd : decode cc pc = .ok (.iinc x w.toInt, 3)) (h : am_ld (am_nth L x) (fun v => match v with
      | .int v => am_gd (am_nl L x) (am_setK L x (some (.int (v + w))) fun L2 => k (pc + 3) L2 st n σ τ)
      | _ => False) 0) (hk : ∀ pc L st n σ τ, k pc L st n σ τ → am_Wb p l e R s m args below meth c Q D z A H0 nL n0 nf X ρ0 pc L st n σ τ) : am_Wb p l e R s m args below meth c Q D z A H0 nL n0 nf X ρ0 pc L st n σ τ := by
  obtain ⟨v, hx, h⟩ := am_ld0_inv h
  obtain ⟨hn, h⟩ := am_gd_inv h
  obtain ⟨hi9, h⟩ := am_setK_inv _ _ _ _ h
  intro ρ H locs ls h0 h1 hX hW hS hl
  obtain ⟨j, hj⟩ := List.getElem?_of_mem (am_lvl_mem (ρ := ρ) (q := (x, .int v)) |>.mpr ⟨_, hx, rfl⟩)
  exact lv_iinc (v := v + w) hC.1 hC.2.1 hd hl.lv hj (by rw [hv]) (by rw [← hl.2.2.1]; exact hi9) rfl (fun ls2 hl2 => hk _ _ _ _ _ _ h ρ H locs ls2 h0 h1 hX hW hS (am_has.set1 hl hi9 (am_nl_cat hn) hl2))
theorem am_s18i {u v : Int32} {q w : Nat} {r : List Value} (hC : am_Cx p R s m args c cc own D z A H0 nL n0 nf P X ρ0) (hd : decode cc pc = .ok (.dup, 1)) (h : k (pc + 1) L (.int v :: .int v :: r) n σ τ) (hk : ∀ pc L st n σ τ, k pc L st n σ τ → am_Wb p l e R s m args below meth c Q D z A H0 nL n0 nf X ρ0 pc L st n σ τ) : am_Wb p l e R s m args below meth c Q D z A H0 nL n0 nf X ρ0 pc L (.int v :: r) n σ τ := by
  intro ρ H locs ls h0 h1 hX hW hS hl
  exact lv_dup hC.1 hC.2.1 hd rfl (hk _ _ _ _ _ _ h ρ H locs ls h0 h1 hX hW hS hl)
theorem am_s18r {u v : Int32} {q w : Nat} {r : List Value} (hC : am_Cx p R s m args c cc own D z A H0 nL n0 nf P X ρ0) (hd : decode cc pc = .ok (.dup, 1)) (h : k (pc + 1) L (.ref w :: .ref w :: r) n σ τ) (hk : ∀ pc L st n σ τ, k pc L st n σ τ → am_Wb p l e R s m args below meth c Q D z A H0 nL n0 nf X ρ0 pc L st n σ τ) : am_Wb p l e R s m args below meth c Q D z A H0 nL n0 nf X ρ0 pc L (.ref w :: r) n σ τ := by
  intro ρ H locs ls h0 h1 hX hW hS hl
  exact lv_dup hC.1 hC.2.1 hd rfl (hk _ _ _ _ _ _ h ρ H locs ls h0 h1 hX hW hS hl)
theorem am_s19i {u v : Int32} {q w : Nat} {r : List Value} (hC : am_Cx p R s m args c cc own D z A H0 nL n0 nf P X ρ0) (hd : decode cc pc = .ok (.pop, 1)) (h : k (pc + 1) L (r) n σ τ) (hk : ∀ pc L st n σ τ, k pc L st n σ τ → am_Wb p l e R s m args below meth c Q D z A H0 nL n0 nf X ρ0 pc L st n σ τ) : am_Wb p l e R s m args below meth c Q D z A H0 nL n0 nf X ρ0 pc L (.int v :: r) n σ τ := by
  intro ρ H locs ls h0 h1 hX hW hS hl
  exact lv_pop (va := .int v) hC.1 hC.2.1 hd rfl (hk _ _ _ _ _ _ h ρ H locs ls h0 h1 hX hW hS hl)
theorem am_s19r {u v : Int32} {q w : Nat} {r : List Value} (hC : am_Cx p R s m args c cc own D z A H0 nL n0 nf P X ρ0) (hd : decode cc pc = .ok (.pop, 1)) (h : k (pc + 1) L (r) n σ τ) (hk : ∀ pc L st n σ τ, k pc L st n σ τ → am_Wb p l e R s m args below meth c Q D z A H0 nL n0 nf X ρ0 pc L st n σ τ) : am_Wb p l e R s m args below meth c Q D z A H0 nL n0 nf X ρ0 pc L (.ref w :: r) n σ τ := by
  intro ρ H locs ls h0 h1 hX hW hS hl
  exact lv_pop (va := .ref (ρ w)) hC.1 hC.2.1 hd rfl (hk _ _ _ _ _ _ h ρ H locs ls h0 h1 hX hW hS hl)
theorem am_s20 {u v : Int32} {q w : Nat} {r : List Value} (hC : am_Cx p R s m args c cc own D z A H0 nL n0 nf P X ρ0) (hd : decode cc pc = .ok (.dup2, 1)) (h : k (pc + 1) L (.int u :: .ref q :: .int u :: .ref q :: r) n σ τ) (hk : ∀ pc L st n σ τ, k pc L st n σ τ → am_Wb p l e R s m args below meth c Q D z A H0 nL n0 nf X ρ0 pc L st n σ τ) : am_Wb p l e R s m args below meth c Q D z A H0 nL n0 nf X ρ0 pc L (.int u :: .ref q :: r) n σ τ := by
  intro ρ H locs ls h0 h1 hX hW hS hl
  exact lv_dup2_11 hC.1 hC.2.1 hd rfl rfl (hk _ _ _ _ _ _ h ρ H locs ls h0 h1 hX hW hS hl)
theorem am_s21 (hC : am_Cx p R s m args c cc own D z A H0 nL n0 nf P X ρ0) (hd : decode cc pc = .ok (.iadd, 1)) (h : am_bin st fun a b s => k (pc + 1) L (.int (a + b) :: s) n σ τ) (hk : ∀ pc L st n σ τ, k pc L st n σ τ → am_Wb p l e R s m args below meth c Q D z A H0 nL n0 nf X ρ0 pc L st n σ τ) : am_Wb p l e R s m args below meth c Q D z A H0 nL n0 nf X ρ0 pc L st n σ τ := by
  obtain ⟨x, y, r, rfl, h⟩ := am_bin_inv h
  intro ρ H locs ls h0 h1 hX hW hS hl
  exact lv_iadd hC.1 hC.2.1 hd (hk _ _ _ _ _ _ h ρ H locs ls h0 h1 hX hW hS hl)
theorem am_s22 (hC : am_Cx p R s m args c cc own D z A H0 nL n0 nf P X ρ0) (hd : decode cc pc = .ok (.isub, 1)) (h : am_bin st fun a b s => k (pc + 1) L (.int (a - b) :: s) n σ τ) (hk : ∀ pc L st n σ τ, k pc L st n σ τ → am_Wb p l e R s m args below meth c Q D z A H0 nL n0 nf X ρ0 pc L st n σ τ) : am_Wb p l e R s m args below meth c Q D z A H0 nL n0 nf X ρ0 pc L st n σ τ := by
  obtain ⟨x, y, r, rfl, h⟩ := am_bin_inv h
  intro ρ H locs ls h0 h1 hX hW hS hl
  exact lv_isub hC.1 hC.2.1 hd (hk _ _ _ _ _ _ h ρ H locs ls h0 h1 hX hW hS hl)
theorem am_s23 (hC : am_Cx p R s m args c cc own D z A H0 nL n0 nf P X ρ0) (hd : decode cc pc = .ok (.imul, 1)) (h : am_bin st fun a b s => k (pc + 1) L (.int (a * b) :: s) n σ τ) (hk : ∀ pc L st n σ τ, k pc L st n σ τ → am_Wb p l e R s m args below meth c Q D z A H0 nL n0 nf X ρ0 pc L st n σ τ) : am_Wb p l e R s m args below meth c Q D z A H0 nL n0 nf X ρ0 pc L st n σ τ := by
  obtain ⟨x, y, r, rfl, h⟩ := am_bin_inv h
  intro ρ H locs ls h0 h1 hX hW hS hl
  exact lv_imul hC.1 hC.2.1 hd (hk _ _ _ _ _ _ h ρ H locs ls h0 h1 hX hW hS hl)
theorem am_s27 (hC : am_Cx p R s m args c cc own D z A H0 nL n0 nf P X ρ0) (hd : decode cc pc = .ok (.ishl, 1)) (h : am_bin st fun a b s => k (pc + 1) L (.int (a <<< (b &&& 31)) :: s) n σ τ) (hk : ∀ pc L st n σ τ, k pc L st n σ τ → am_Wb p l e R s m args below meth c Q D z A H0 nL n0 nf X ρ0 pc L st n σ τ) : am_Wb p l e R s m args below meth c Q D z A H0 nL n0 nf X ρ0 pc L st n σ τ := by
  obtain ⟨x, y, r, rfl, h⟩ := am_bin_inv h
  intro ρ H locs ls h0 h1 hX hW hS hl
  exact lv_ishl hC.1 hC.2.1 hd (hk _ _ _ _ _ _ h ρ H locs ls h0 h1 hX hW hS hl)
theorem am_s28 (hC : am_Cx p R s m args c cc own D z A H0 nL n0 nf P X ρ0) (hd : decode cc pc = .ok (.ishr, 1)) (h : am_bin st fun a b s => k (pc + 1) L (.int (a >>> (b &&& 31)) :: s) n σ τ) (hk : ∀ pc L st n σ τ, k pc L st n σ τ → am_Wb p l e R s m args below meth c Q D z A H0 nL n0 nf X ρ0 pc L st n σ τ) : am_Wb p l e R s m args below meth c Q D z A H0 nL n0 nf X ρ0 pc L st n σ τ := by
  obtain ⟨x, y, r, rfl, h⟩ := am_bin_inv h
  intro ρ H locs ls h0 h1 hX hW hS hl
  exact lv_ishr hC.1 hC.2.1 hd (hk _ _ _ _ _ _ h ρ H locs ls h0 h1 hX hW hS hl)
theorem am_s30 (hC : am_Cx p R s m args c cc own D z A H0 nL n0 nf P X ρ0) (hd : decode cc pc = .ok (.iand, 1)) (h : am_bin st fun a b s => k (pc + 1) L (.int (a &&& b) :: s) n σ τ) (hk : ∀ pc L st n σ τ, k pc L st n σ τ → am_Wb p l e R s m args below meth c Q D z A H0 nL n0 nf X ρ0 pc L st n σ τ) : am_Wb p l e R s m args below meth c Q D z A H0 nL n0 nf X ρ0 pc L st n σ τ := by
  obtain ⟨x, y, r, rfl, h⟩ := am_bin_inv h
  intro ρ H locs ls h0 h1 hX hW hS hl
  exact lv_iand hC.1 hC.2.1 hd (hk _ _ _ _ _ _ h ρ H locs ls h0 h1 hX hW hS hl)
theorem am_s31 (hC : am_Cx p R s m args c cc own D z A H0 nL n0 nf P X ρ0) (hd : decode cc pc = .ok (.ior, 1)) (h : am_bin st fun a b s => k (pc + 1) L (.int (a ||| b) :: s) n σ τ) (hk : ∀ pc L st n σ τ, k pc L st n σ τ → am_Wb p l e R s m args below meth c Q D z A H0 nL n0 nf X ρ0 pc L st n σ τ) : am_Wb p l e R s m args below meth c Q D z A H0 nL n0 nf X ρ0 pc L st n σ τ := by
  obtain ⟨x, y, r, rfl, h⟩ := am_bin_inv h
  intro ρ H locs ls h0 h1 hX hW hS hl
  exact lv_ior hC.1 hC.2.1 hd (hk _ _ _ _ _ _ h ρ H locs ls h0 h1 hX hW hS hl)
theorem am_s29 (hC : am_Cx p R s m args c cc own D z A H0 nL n0 nf P X ρ0) (hd : decode cc pc = .ok (.iushr, 1)) (h : am_bin st fun a b s => k (pc + 1) L (.int (a.toUInt32 >>> (b.toUInt32 &&& Int32.toUInt32 31)).toInt32 :: s) n σ τ) (hk : ∀ pc L st n σ τ, k pc L st n σ τ → am_Wb p l e R s m args below meth c Q D z A H0 nL n0 nf X ρ0 pc L st n σ τ) : am_Wb p l e R s m args below meth c Q D z A H0 nL n0 nf X ρ0 pc L st n σ τ := by
  obtain ⟨x, y, r, rfl, h⟩ := am_bin_inv h
  intro ρ H locs ls h0 h1 hX hW hS hl
  exact lv_iushr hC.1 hC.2.1 hd rfl (hk _ _ _ _ _ _ h ρ H locs ls h0 h1 hX hW hS hl)
theorem am_s24 (hC : am_Cx p R s m args c cc own D z A H0 nL n0 nf P X ρ0) (hd : decode cc pc = .ok (.idiv, 1)) (h : am_bin st fun a b s => ¬ b = 0 ∧ k (pc + 1) L (.int (a / b) :: s) n σ τ) (hk : ∀ pc L st n σ τ, k pc L st n σ τ → am_Wb p l e R s m args below meth c Q D z A H0 nL n0 nf X ρ0 pc L st n σ τ) : am_Wb p l e R s m args below meth c Q D z A H0 nL n0 nf X ρ0 pc L st n σ τ := by
  obtain ⟨x, y, r, rfl, h⟩ := am_bin_inv h
  intro ρ H locs ls h0 h1 hX hW hS hl
  exact lv_idiv hC.1 hC.2.1 hd h.1 (hk _ _ _ _ _ _ h.2 ρ H locs ls h0 h1 hX hW hS hl)
theorem am_s25 (hC : am_Cx p R s m args c cc own D z A H0 nL n0 nf P X ρ0) (hd : decode cc pc = .ok (.irem, 1)) (h : am_bin st fun a b s => ¬ b = 0 ∧ k (pc + 1) L (.int (a - a / b * b) :: s) n σ τ) (hk : ∀ pc L st n σ τ, k pc L st n σ τ → am_Wb p l e R s m args below meth c Q D z A H0 nL n0 nf X ρ0 pc L st n σ τ) : am_Wb p l e R s m args below meth c Q D z A H0 nL n0 nf X ρ0 pc L st n σ τ := by
  obtain ⟨x, y, r, rfl, h⟩ := am_bin_inv h
  intro ρ H locs ls h0 h1 hX hW hS hl
  exact lv_irem hC.1 hC.2.1 hd h.1 (hk _ _ _ _ _ _ h.2 ρ H locs ls h0 h1 hX hW hS hl)
theorem am_s36 (hC : am_Cx p R s m args c cc own D z A H0 nL n0 nf P X ρ0) (hd : decode cc pc = .ok (.ladd, 1)) (h : am_binL st fun a b s => k (pc + 1) L (.long (a + b) :: s) n σ τ) (hk : ∀ pc L st n σ τ, k pc L st n σ τ → am_Wb p l e R s m args below meth c Q D z A H0 nL n0 nf X ρ0 pc L st n σ τ) : am_Wb p l e R s m args below meth c Q D z A H0 nL n0 nf X ρ0 pc L st n σ τ := by
  obtain ⟨x, y, r, rfl, h⟩ := am_binL_inv h
  intro ρ H locs ls h0 h1 hX hW hS hl
  exact lv_ladd hC.1 hC.2.1 hd (hk _ _ _ _ _ _ h ρ H locs ls h0 h1 hX hW hS hl)
theorem am_s37 (hC : am_Cx p R s m args c cc own D z A H0 nL n0 nf P X ρ0) (hd : decode cc pc = .ok (.lsub, 1)) (h : am_binL st fun a b s => k (pc + 1) L (.long (a - b) :: s) n σ τ) (hk : ∀ pc L st n σ τ, k pc L st n σ τ → am_Wb p l e R s m args below meth c Q D z A H0 nL n0 nf X ρ0 pc L st n σ τ) : am_Wb p l e R s m args below meth c Q D z A H0 nL n0 nf X ρ0 pc L st n σ τ := by
  obtain ⟨x, y, r, rfl, h⟩ := am_binL_inv h
  intro ρ H locs ls h0 h1 hX hW hS hl
  exact lv_lsub hC.1 hC.2.1 hd (hk _ _ _ _ _ _ h ρ H locs ls h0 h1 hX hW hS hl)
theorem am_s38 (hC : am_Cx p R s m args c cc own D z A H0 nL n0 nf P X ρ0) (hd : decode cc pc = .ok (.lmul, 1)) (h : am_binL st fun a b s => k (pc + 1) L (.long (a * b) :: s) n σ τ) (hk : ∀ pc L st n σ τ, k pc L st n σ τ → am_Wb p l e R s m args below meth c Q D z A H0 nL n0 nf X ρ0 pc L st n σ τ) : am_Wb p l e R s m args below meth c Q D z A H0 nL n0 nf X ρ0 pc L st n σ τ := by
  obtain ⟨x, y, r, rfl, h⟩ := am_binL_inv h
  intro ρ H locs ls h0 h1 hX hW hS hl
  exact lv_lmul hC.1 hC.2.1 hd (hk _ _ _ _ _ _ h ρ H locs ls h0 h1 hX hW hS hl)
theorem am_s41 (hC : am_Cx p R s m args c cc own D z A H0 nL n0 nf P X ρ0) (hd : decode cc pc = .ok (.lcmp, 1)) (h : am_binL st fun a b s => k (pc + 1) L (.int (lg_cmp a b) :: s) n σ τ) (hk : ∀ pc L st n σ τ, k pc L st n σ τ → am_Wb p l e R s m args below meth c Q D z A H0 nL n0 nf X ρ0 pc L st n σ τ) : am_Wb p l e R s m args below meth c Q D z A H0 nL n0 nf X ρ0 pc L st n σ τ := by
  obtain ⟨x, y, r, rfl, h⟩ := am_binL_inv h
  intro ρ H locs ls h0 h1 hX hW hS hl
  exact W.lcmp hC.1 hC.2.1 hd (hk _ _ _ _ _ _ h ρ H locs ls h0 h1 hX hW hS hl)
theorem am_s39 (hC : am_Cx p R s m args c cc own D z A H0 nL n0 nf P X ρ0) (hd : decode cc pc = .ok (.ldiv, 1)) (h : am_binL st fun a b s => ¬ b = 0 ∧ k (pc + 1) L (.long (a / b) :: s) n σ τ) (hk : ∀ pc L st n σ τ, k pc L st n σ τ → am_Wb p l e R s m args below meth c Q D z A H0 nL n0 nf X ρ0 pc L st n σ τ) : am_Wb p l e R s m args below meth c Q D z A H0 nL n0 nf X ρ0 pc L st n σ τ := by
  obtain ⟨x, y, r, rfl, h⟩ := am_binL_inv h
  intro ρ H locs ls h0 h1 hX hW hS hl
  exact lv_ldiv hC.1 hC.2.1 hd h.1 (hk _ _ _ _ _ _ h.2 ρ H locs ls h0 h1 hX hW hS hl)
theorem am_s40 (hC : am_Cx p R s m args c cc own D z A H0 nL n0 nf P X ρ0) (hd : decode cc pc = .ok (.lrem, 1)) (h : am_binL st fun a b s => ¬ b = 0 ∧ k (pc + 1) L (.long (a - a / b * b) :: s) n σ τ) (hk : ∀ pc L st n σ τ, k pc L st n σ τ → am_Wb p l e R s m args below meth c Q D z A H0 nL n0 nf X ρ0 pc L st n σ τ) : am_Wb p l e R s m args below meth c Q D z A H0 nL n0 nf X ρ0 pc L st n σ τ := by
  obtain ⟨x, y, r, rfl, h⟩ := am_binL_inv h
  intro ρ H locs ls h0 h1 hX hW hS hl
  exact lv_lrem hC.1 hC.2.1 hd h.1 (hk _ _ _ _ _ _ h.2 ρ H locs ls h0 h1 hX hW hS hl)
theorem am_s26 (hC : am_Cx p R s m args c cc own D z A H0 nL n0 nf P X ρ0) (hd : decode cc pc = .ok (.ineg, 1)) (h : am_un st fun a s => k (pc + 1) L (.int (-a) :: s) n σ τ) (hk : ∀ pc L st n σ τ, k pc L st n σ τ → am_Wb p l e R s m args below meth c Q D z A H0 nL n0 nf X ρ0 pc L st n σ τ) : am_Wb p l e R s m args below meth c Q D z A H0 nL n0 nf X ρ0 pc L st n σ τ := by
  obtain ⟨x, r, rfl, h⟩ := am_un_inv h
  intro ρ H locs ls h0 h1 hX hW hS hl
  exact lv_ineg hC.1 hC.2.1 hd (hk _ _ _ _ _ _ h ρ H locs ls h0 h1 hX hW hS hl)
theorem am_s32 (hC : am_Cx p R s m args c cc own D z A H0 nL n0 nf P X ρ0) (hd : decode cc pc = .ok (.i2b, 1)) (h : am_un st fun a s => k (pc + 1) L (.int a.toInt8.toInt32 :: s) n σ τ) (hk : ∀ pc L st n σ τ, k pc L st n σ τ → am_Wb p l e R s m args below meth c Q D z A H0 nL n0 nf X ρ0 pc L st n σ τ) : am_Wb p l e R s m args below meth c Q D z A H0 nL n0 nf X ρ0 pc L st n σ τ := by
  obtain ⟨x, r, rfl, h⟩ := am_un_inv h
  intro ρ H locs ls h0 h1 hX hW hS hl
  exact lv_i2b hC.1 hC.2.1 hd rfl (hk _ _ _ _ _ _ h ρ H locs ls h0 h1 hX hW hS hl)
theorem am_s33 (hC : am_Cx p R s m args c cc own D z A H0 nL n0 nf P X ρ0) (hd : decode cc pc = .ok (.i2s, 1)) (h : am_un st fun a s => k (pc + 1) L (.int a.toInt16.toInt32 :: s) n σ τ) (hk : ∀ pc L st n σ τ, k pc L st n σ τ → am_Wb p l e R s m args below meth c Q D z A H0 nL n0 nf X ρ0 pc L st n σ τ) : am_Wb p l e R s m args below meth c Q D z A H0 nL n0 nf X ρ0 pc L st n σ τ := by
  obtain ⟨x, r, rfl, h⟩ := am_un_inv h
  intro ρ H locs ls h0 h1 hX hW hS hl
  exact lv_i2s hC.1 hC.2.1 hd rfl (hk _ _ _ _ _ _ h ρ H locs ls h0 h1 hX hW hS hl)
theorem am_s34 (hC : am_Cx p R s m args c cc own D z A H0 nL n0 nf P X ρ0) (hd : decode cc pc = .ok (.i2l, 1)) (h : am_un st fun a s => k (pc + 1) L (.long a.toInt64 :: s) n σ τ) (hk : ∀ pc L st n σ τ, k pc L st n σ τ → am_Wb p l e R s m args below meth c Q D z A H0 nL n0 nf X ρ0 pc L st n σ τ) : am_Wb p l e R s m args below meth c Q D z A H0 nL n0 nf X ρ0 pc L st n σ τ := by
  obtain ⟨x, r, rfl, h⟩ := am_un_inv h
  intro ρ H locs ls h0 h1 hX hW hS hl
  exact lv_i2l hC.1 hC.2.1 hd rfl (hk _ _ _ _ _ _ h ρ H locs ls h0 h1 hX hW hS hl)
theorem am_s35 {v : Int64} {r : List Value} (hC : am_Cx p R s m args c cc own D z A H0 nL n0 nf P X ρ0) (hd : decode cc pc = .ok (.l2i, 1)) (h : k (pc + 1) L (.int v.toInt32 :: r) n σ τ) (hk : ∀ pc L st n σ τ, k pc L st n σ τ → am_Wb p l e R s m args below meth c Q D z A H0 nL n0 nf X ρ0 pc L st n σ τ) : am_Wb p l e R s m args below meth c Q D z A H0 nL n0 nf X ρ0 pc L (.long v :: r) n σ τ := by
  intro ρ H locs ls h0 h1 hX hW hS hl
  exact lv_l2i hC.1 hC.2.1 hd rfl (hk _ _ _ _ _ _ h ρ H locs ls h0 h1 hX hW hS hl)
theorem am_s44 (hC : am_Cx p R s m args c cc own D z A H0 nL n0 nf P X ρ0) {y : Nat} (hd : decode cc pc = .ok (.ifCond .eq ((y : Int) - pc), 3)) (h : am_un st fun a s => am_if (a = 0) (k y L s n σ τ) (k (pc + 3) L s n σ τ)) (hk : ∀ pc L st n σ τ, k pc L st n σ τ → am_Wb p l e R s m args below meth c Q D z A H0 nL n0 nf X ρ0 pc L st n σ τ) : am_Wb p l e R s m args below meth c Q D z A H0 nL n0 nf X ρ0 pc L st n σ τ := by
  obtain ⟨x, r, rfl, h⟩ := am_un_inv h
  intro ρ H locs ls h0 h1 hX hW hS hl
  exact lv_if_eq (tgt := y) hC.1 hC.2.1 hd (by omega) (fun q => hk _ _ _ _ _ _ (h.1 q) ρ H locs ls h0 h1 hX hW hS hl) (fun q => hk _ _ _ _ _ _ (h.2 q) ρ H locs ls h0 h1 hX hW hS hl)
theorem am_s45 (hC : am_Cx p R s m args c cc own D z A H0 nL n0 nf P X ρ0) {y : Nat} (hd : decode cc pc = .ok (.ifCond .ne ((y : Int) - pc), 3)) (h : am_un st fun a s => am_if (a = 0) (k (pc + 3) L s n σ τ) (k y L s n σ τ)) (hk : ∀ pc L st n σ τ, k pc L st n σ τ → am_Wb p l e R s m args below meth c Q D z A H0 nL n0 nf X ρ0 pc L st n σ τ) : am_Wb p l e R s m args below meth c Q D z A H0 nL n0 nf X ρ0 pc L st n σ τ := by
  obtain ⟨x, r, rfl, h⟩ := am_un_inv h
  intro ρ H locs ls h0 h1 hX hW hS hl
  exact lv_if_ne (tgt := y) hC.1 hC.2.1 hd (by omega) (fun q => hk _ _ _ _ _ _ (h.2 q) ρ H locs ls h0 h1 hX hW hS hl) (fun q => hk _ _ _ _ _ _ (h.1 q) ρ H locs ls h0 h1 hX hW hS hl)
theorem am_s46 (hC : am_Cx p R s m args c cc own D z A H0 nL n0 nf P X ρ0) {y : Nat} (hd : decode cc pc = .ok (.ifCond .lt ((y : Int) - pc), 3)) (h : am_un st fun a s => am_if (a < 0) (k y L s n σ τ) (k (pc + 3) L s n σ τ)) (hk : ∀ pc L st n σ τ, k pc L st n σ τ → am_Wb p l e R s m args below meth c Q D z A H0 nL n0 nf X ρ0 pc L st n σ τ) : am_Wb p l e R s m args below meth c Q D z A H0 nL n0 nf X ρ0 pc L st n σ τ := by
  obtain ⟨x, r, rfl, h⟩ := am_un_inv h
  intro ρ H locs ls h0 h1 hX hW hS hl
  exact lv_if_lt (tgt := y) hC.1 hC.2.1 hd (by omega) (fun q => hk _ _ _ _ _ _ (h.1 q) ρ H locs ls h0 h1 hX hW hS hl) (fun q => hk _ _ _ _ _ _ (h.2 q) ρ H locs ls h0 h1 hX hW hS hl)
theorem am_s47 (hC : am_Cx p R s m args c cc own D z A H0 nL n0 nf P X ρ0) {y : Nat} (hd : decode cc pc = .ok (.ifCond .ge ((y : Int) - pc), 3)) (h : am_un st fun a s => am_if (0 ≤ a) (k y L s n σ τ) (k (pc + 3) L s n σ τ)) (hk : ∀ pc L st n σ τ, k pc L st n σ τ → am_Wb p l e R s m args below meth c Q D z A H0 nL n0 nf X ρ0 pc L st n σ τ) : am_Wb p l e R s m args below meth c Q D z A H0 nL n0 nf X ρ0 pc L st n σ τ := by
  obtain ⟨x, r, rfl, h⟩ := am_un_inv h
  intro ρ H locs ls h0 h1 hX hW hS hl
  exact lv_if_ge (tgt := y) hC.1 hC.2.1 hd (by omega) (fun q => hk _ _ _ _ _ _ (h.1 q) ρ H locs ls h0 h1 hX hW hS hl) (fun q => hk _ _ _ _ _ _ (h.2 q) ρ H locs ls h0 h1 hX hW hS hl)
theorem am_s48 (hC : am_Cx p R s m args c cc own D z A H0 nL n0 nf P X ρ0) {y : Nat} (hd : decode cc pc = .ok (.ifCond .gt ((y : Int) - pc), 3)) (h : am_un st fun a s => am_if (0 < a) (k y L s n σ τ) (k (pc + 3) L s n σ τ)) (hk : ∀ pc L st n σ τ, k pc L st n σ τ → am_Wb p l e R s m args below meth c Q D z A H0 nL n0 nf X ρ0 pc L st n σ τ) : am_Wb p l e R s m args below meth c Q D z A H0 nL n0 nf X ρ0 pc L st n σ τ := by
  obtain ⟨x, r, rfl, h⟩ := am_un_inv h
  intro ρ H locs ls h0 h1 hX hW hS hl
  exact lv_if_gt (tgt := y) hC.1 hC.2.1 hd (by omega) (fun q => hk _ _ _ _ _ _ (h.1 q) ρ H locs ls h0 h1 hX hW hS hl) (fun q => hk _ _ _ _ _ _ (h.2 q) ρ H locs ls h0 h1 hX hW hS hl)
theorem am_s49 (hC : am_Cx p R s m args c cc own D z A H0 nL n0 nf P X ρ0) {y : Nat} (hd : decode cc pc = .ok (.ifCond .le ((y : Int) - pc), 3)) (h : am_un st fun a s => am_if (a ≤ 0) (k y L s n σ τ) (k (pc + 3) L s n σ τ)) (hk : ∀ pc L st n σ τ, k pc L st n σ τ → am_Wb p l e R s m args below meth c Q D z A H0 nL n0 nf X ρ0 pc L st n σ τ) : am_Wb p l e R s m args below meth c Q D z A H0 nL n0 nf X ρ0 pc L st n σ τ := by
  obtain ⟨x, r, rfl, h⟩ := am_un_inv h
  intro ρ H locs ls h0 h1 hX hW hS hl
  exact lv_if_le (tgt := y) hC.1 hC.2.1 hd (by omega) (fun q => hk _ _ _ _ _ _ (h.1 q) ρ H locs ls h0 h1 hX hW hS hl) (fun q => hk _ _ _ _ _ _ (h.2 q) ρ H locs ls h0 h1 hX hW hS hl)
theorem am_s50 (hC : am_Cx p R s m args c cc own D z A H0 nL n0 nf P X ρ0) {y : Nat} (hd : decode cc pc = .ok (.if_icmp .eq ((y : Int) - pc), 3)) (h : am_bin st fun a b s => am_if (a = b) (k y L s n σ τ) (k (pc + 3) L s n σ τ)) (hk : ∀ pc L st n σ τ, k pc L st n σ τ → am_Wb p l e R s m args below meth c Q D z A H0 nL n0 nf X ρ0 pc L st n σ τ) : am_Wb p l e R s m args below meth c Q D z A H0 nL n0 nf X ρ0 pc L st n σ τ := by
  obtain ⟨x, w, r, rfl, h⟩ := am_bin_inv h
  intro ρ H locs ls h0 h1 hX hW hS hl
  exact lv_icmp_eq (tgt := y) hC.1 hC.2.1 hd (by omega) (fun q => hk _ _ _ _ _ _ (h.1 q) ρ H locs ls h0 h1 hX hW hS hl) (fun q => hk _ _ _ _ _ _ (h.2 q) ρ H locs ls h0 h1 hX hW hS hl)
theorem am_s51 (hC : am_Cx p R s m args c cc own D z A H0 nL n0 nf P X ρ0) {y : Nat} (hd : decode cc pc = .ok (.if_icmp .ne ((y : Int) - pc), 3)) (h : am_bin st fun a b s => am_if (a = b) (k (pc + 3) L s n σ τ) (k y L s n σ τ)) (hk : ∀ pc L st n σ τ, k pc L st n σ τ → am_Wb p l e R s m args below meth c Q D z A H0 nL n0 nf X ρ0 pc L st n σ τ) : am_Wb p l e R s m args below meth c Q D z A H0 nL n0 nf X ρ0 pc L st n σ τ := by
  obtain ⟨x, w, r, rfl, h⟩ := am_bin_inv h
  intro ρ H locs ls h0 h1 hX hW hS hl
  exact lv_icmp_ne (tgt := y) hC.1 hC.2.1 hd (by omega) (fun q => hk _ _ _ _ _ _ (h.2 q) ρ H locs ls h0 h1 hX hW hS hl) (fun q => hk _ _ _ _ _ _ (h.1 q) ρ H locs ls h0 h1 hX hW hS hl)
theorem am_s52 (hC : am_Cx p R s m args c cc own D z A H0 nL n0 nf P X ρ0) {y : Nat} (hd : decode cc pc = .ok (.if_icmp .lt ((y : Int) - pc), 3)) (h : am_bin st fun a b s => am_if (a < b) (k y L s n σ τ) (k (pc + 3) L s n σ τ)) (hk : ∀ pc L st n σ τ, k pc L st n σ τ → am_Wb p l e R s m args below meth c Q D z A H0 nL n0 nf X ρ0 pc L st n σ τ) : am_Wb p l e R s m args below meth c Q D z A H0 nL n0 nf X ρ0 pc L st n σ τ := by
  obtain ⟨x, w, r, rfl, h⟩ := am_bin_inv h
  intro ρ H locs ls h0 h1 hX hW hS hl
  exact lv_icmp_lt (tgt := y) hC.1 hC.2.1 hd (by omega) (fun q => hk _ _ _ _ _ _ (h.1 q) ρ H locs ls h0 h1 hX hW hS hl) (fun q => hk _ _ _ _ _ _ (h.2 q) ρ H locs ls h0 h1 hX hW hS hl)
theorem am_s53 (hC : am_Cx p R s m args c cc own D z A H0 nL n0 nf P X ρ0) {y : Nat} (hd : decode cc pc = .ok (.if_icmp .ge ((y : Int) - pc), 3)) (h : am_bin st fun a b s => am_if (b ≤ a) (k y L s n σ τ) (k (pc + 3) L s n σ τ)) (hk : ∀ pc L st n σ τ, k pc L st n σ τ → am_Wb p l e R s m args below meth c Q D z A H0 nL n0 nf X ρ0 pc L st n σ τ) : am_Wb p l e R s m args below meth c Q D z A H0 nL n0 nf X ρ0 pc L st n σ τ := by
  obtain ⟨x, w, r, rfl, h⟩ := am_bin_inv h
  intro ρ H locs ls h0 h1 hX hW hS hl
  exact lv_icmp_ge (tgt := y) hC.1 hC.2.1 hd (by omega) (fun q => hk _ _ _ _ _ _ (h.1 q) ρ H locs ls h0 h1 hX hW hS hl) (fun q => hk _ _ _ _ _ _ (h.2 q) ρ H locs ls h0 h1 hX hW hS hl)
theorem am_s54 (hC : am_Cx p R s m args c cc own D z A H0 nL n0 nf P X ρ0) {y : Nat} (hd : decode cc pc = .ok (.if_icmp .gt ((y : Int) - pc), 3)) (h : am_bin st fun a b s => am_if (b < a) (k y L s n σ τ) (k (pc + 3) L s n σ τ)) (hk : ∀ pc L st n σ τ, k pc L st n σ τ → am_Wb p l e R s m args below meth c Q D z A H0 nL n0 nf X ρ0 pc L st n σ τ) : am_Wb p l e R s m args below meth c Q D z A H0 nL n0 nf X ρ0 pc L st n σ τ := by
  obtain ⟨x, w, r, rfl, h⟩ := am_bin_inv h
  intro ρ H locs ls h0 h1 hX hW hS hl
  exact lv_icmp_gt (tgt := y) hC.1 hC.2.1 hd (by omega) (fun q => hk _ _ _ _ _ _ (h.1 q) ρ H locs ls h0 h1 hX hW hS hl) (fun q => hk _ _ _ _ _ _ (h.2 q) ρ H locs ls h0 h1 hX hW hS hl)
theorem am_s55 (hC : am_Cx p R s m args c cc own D z A H0 nL n0 nf P X ρ0) {y : Nat} (hd : decode cc pc = .ok (.if_icmp .le ((y : Int) - pc), 3)) (h : am_bin st fun a b s => am_if (a ≤ b) (k y L s n σ τ) (k (pc + 3) L s n σ τ)) (hk : ∀ pc L st n σ τ, k pc L st n σ τ → am_Wb p l e R s m args below meth c Q D z A H0 nL n0 nf X ρ0 pc L st n σ τ) : am_Wb p l e R s m args below meth c Q D z A H0 nL n0 nf X ρ0 pc L st n σ τ := by
  obtain ⟨x, w, r, rfl, h⟩ := am_bin_inv h
  intro ρ H locs ls h0 h1 hX hW hS hl
  exact lv_icmp_le (tgt := y) hC.1 hC.2.1 hd (by omega) (fun q => hk _ _ _ _ _ _ (h.1 q) ρ H locs ls h0 h1 hX hW hS hl) (fun q => hk _ _ _ _ _ _ (h.2 q) ρ H locs ls h0 h1 hX hW hS hl)
theorem am_s56 (hC : am_Cx p R s m args c cc own D z A H0 nL n0 nf P X ρ0) {y : Nat} (hd : decode cc pc = .ok (.goto ((y : Int) - pc), 3)) (h : k y L st n σ τ) (hk : ∀ pc L st n σ τ, k pc L st n σ τ → am_Wb p l e R s m args below meth c Q D z A H0 nL n0 nf X ρ0 pc L st n σ τ) : am_Wb p l e R s m args below meth c Q D z A H0 nL n0 nf X ρ0 pc L st n σ τ := by
  intro ρ H locs ls h0 h1 hX hW hS hl
  exact lv_goto (tgt := y) hC.1 hC.2.1 hd (by omega) (hk _ _ _ _ _ _ h ρ H locs ls h0 h1 hX hW hS hl)
theorem am_s57r {y w : Nat} {r : List Value} (hC : am_Cx p R s m args c cc own D z A H0 nL n0 nf P X ρ0) (hd : decode cc pc = .ok (.ifnull ((y : Int) - pc), 3)) (h : k (pc + 3) L r n σ τ) (hk : ∀ pc L st n σ τ, k pc L st n σ τ → am_Wb p l e R s m args below meth c Q D z A H0 nL n0 nf X ρ0 pc L st n σ τ) : am_Wb p l e R s m args below meth c Q D z A H0 nL n0 nf X ρ0 pc L (.ref w :: r) n σ τ := by
  intro ρ H locs ls h0 h1 hX hW hS hl
  exact lv_ifnull hC.1 hC.2.1 hd (hk _ _ _ _ _ _ h ρ H locs ls h0 h1 hX hW hS hl)
theorem am_s57n {y w : Nat} {r : List Value} (hC : am_Cx p R s m args c cc own D z A H0 nL n0 nf P X ρ0) (hd : decode cc pc = .ok (.ifnull ((y : Int) - pc), 3)) (h : k (y) L r n σ τ) (hk : ∀ pc L st n σ τ, k pc L st n σ τ → am_Wb p l e R s m args below meth c Q D z A H0 nL n0 nf X ρ0 pc L st n σ τ) : am_Wb p l e R s m args below meth c Q D z A H0 nL n0 nf X ρ0 pc L (.null :: r) n σ τ := by
  intro ρ H locs ls h0 h1 hX hW hS hl
  exact lv_ifnullN (tgt := y) hC.1 hC.2.1 hd (by omega) (hk _ _ _ _ _ _ h ρ H locs ls h0 h1 hX hW hS hl)
theorem am_s58r {y w : Nat} {r : List Value} (hC : am_Cx p R s m args c cc own D z A H0 nL n0 nf P X ρ0) (hd : decode cc pc = .ok (.ifnonnull ((y : Int) - pc), 3)) (h : k (y) L r n σ τ) (hk : ∀ pc L st n σ τ, k pc L st n σ τ → am_Wb p l e R s m args below meth c Q D z A H0 nL n0 nf X ρ0 pc L st n σ τ) : am_Wb p l e R s m args below meth c Q D z A H0 nL n0 nf X ρ0 pc L (.ref w :: r) n σ τ := by
  intro ρ H locs ls h0 h1 hX hW hS hl
  exact lv_ifnonnull (tgt := y) hC.1 hC.2.1 hd (by omega) (hk _ _ _ _ _ _ h ρ H locs ls h0 h1 hX hW hS hl)
theorem am_s58n {y w : Nat} {r : List Value} (hC : am_Cx p R s m args c cc own D z A H0 nL n0 nf P X ρ0) (hd : decode cc pc = .ok (.ifnonnull ((y : Int) - pc), 3)) (h : k (pc + 3) L r n σ τ) (hk : ∀ pc L st n σ τ, k pc L st n σ τ → am_Wb p l e R s m args below meth c Q D z A H0 nL n0 nf X ρ0 pc L st n σ τ) : am_Wb p l e R s m args below meth c Q D z A H0 nL n0 nf X ρ0 pc L (.null :: r) n σ τ := by
  intro ρ H locs ls h0 h1 hX hW hS hl
  exact lv_ifnonnullN hC.1 hC.2.1 hd (hk _ _ _ _ _ _ h ρ H locs ls h0 h1 hX hW hS hl)
end AMA
theorem fa_eq' (a b : Int32) : a = b ↔ a.toInt = b.toInt := ⟨fun h => by rw [h], fun h => Int32.toInt_inj.mp h⟩
theorem am_sw_at {v : Int32} {d : Nat} {k : Nat → Prop} : ∀ (lo : Nat) (tg : List Nat) (j t : Nat), am_seq lo tg = true → am_sw v d k tg → lo + tg.length < 2 ^ 31 → v = nI (lo + j) → (am_tgs tg)[j]? = some t → k t
  | lo, a :: u :: r, 0, t, hs, h, hb, hv, ht => by
    have ha : a = lo := by
      have := Bool.and_eq_true _ _ ▸ hs
      exact Nat.eq_of_beq_eq_true this.1
    subst ha
    have e : u = t := Option.some.inj ht
    subst e
    exact h.1 hv
  | lo, a :: u :: r, j + 1, t, hs, h, hb, hv, ht => by
    have hs2 := Bool.and_eq_true _ _ ▸ hs
    have ha : a = lo := Nat.eq_of_beq_eq_true hs2.1
    subst ha
    have ht2 : (am_tgs r)[j]? = some t := ht
    have hne : ¬ v = nI a := fun q => by
      rw [q] at hv
      have hj : j < (am_tgs r).length := (List.getElem?_eq_some_iff.mp ht2).1
      have hl : ∀ r : List Nat, (am_tgs r).length ≤ r.length := by
        intro r
        induction r using am_tgs.induct with
        | case1 _ t r ih => simp [am_tgs]; omega
        | case2 r h => simp [am_tgs]
      have := hl r
      simp at hb
      have := (nI_eq (a := a) (b := a + (j + 1)) (by omega) (by omega)).mp hv
      omega
    exact am_sw_at (a + 1) r j t hs2.2 (h.2 hne) (by simp at hb; omega) (by rw [hv]; congr 1; omega) ht2
  | lo, [], j, t, hs, h, hb, hv, ht => by simp [am_tgs] at ht
  | lo, [a], j, t, hs, h, hb, hv, ht => by simp [am_tgs] at ht
theorem am_sw_no {v : Int32} {d : Nat} {k : Nat → Prop} : ∀ (lo : Nat) (tg : List Nat), am_seq lo tg = true → am_sw v d k tg → (∀ j, j < (am_tgs tg).length → ¬ v = nI (lo + j)) → k d
  | lo, a :: u :: r, hs, h, hv => by
    have hs2 := Bool.and_eq_true _ _ ▸ hs
    have ha : a = lo := Nat.eq_of_beq_eq_true hs2.1
    subst ha
    have h0 : ¬ v = nI a := hv 0 (by simp [am_tgs])
    refine am_sw_no (a + 1) r hs2.2 (h.2 h0) (fun j hj => ?_)
    have := hv (j + 1) (by simp [am_tgs]; omega)
    rw [show a + 1 + j = a + (j + 1) by omega]
    exact this
  | lo, [], hs, h, hv => h
  | lo, [a], hs, h, hv => h
theorem am_off_at {v : Int32} {d : Nat} {k : Nat → Prop} {pc : Nat} : ∀ (tg : List Nat), tg.all (fun a => Nat.blt a 100000) = true → am_sw v d k tg → ∃ t : Nat, (pc : Int) + Op.lookupswitch.offset (am_prs pc tg) ((d : Int) - pc) v.toInt = (t : Int) ∧ k t
  | a :: u :: r, ha, h => by
    have ha2 : a < 100000 := by
      have := List.all_eq_true.mp ha a (by simp)
      exact Nat.blt_eq.mp this
    have hr : r.all (fun a => Nat.blt a 100000) = true := List.all_eq_true.mpr fun x hx => List.all_eq_true.mp ha x (by simp [hx])
    by_cases e : v = nI a
    · refine ⟨u, ?_, h.1 e⟩
      have : v.toInt = (a : Int) := by rw [e]; exact nI_toInt (by omega)
      simp [am_prs, Op.lookupswitch.offset, this]
      omega
    · obtain ⟨t, h1, h2⟩ := am_off_at (pc := pc) r hr (h.2 e)
      refine ⟨t, ?_, h2⟩
      have : ¬ (a : Int) = v.toInt := fun q => e (by rw [fa_eq', nI_toInt (by omega)]; exact q.symm)
      have t2 : ¬ v.toInt = (a : Int) := fun q => this q.symm
      rw [← h1]
      simp [am_prs, Op.lookupswitch.offset, this, t2]
  | [], ha, h => ⟨d, by simp [am_prs, Op.lookupswitch.offset]; omega, h⟩
  | [a], ha, h => ⟨d, by simp [am_prs, Op.lookupswitch.offset]; omega, h⟩
