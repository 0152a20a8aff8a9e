section AME
variable {p : Program} {l : Launch} {e : Env} {R : Room} {s : State} {m : MethodId} {args : Array Value} {below : List Frame} {meth : Method} {c : Code} {Q : State → Prop} {cc : ByteArray} {own : String} {D : va_G} {z : am_Z} {A : Nat → Prop} {H0 : Heap} {nL n0 nf P : Nat} {X : am_X} {ρ0 : Nat → Nat} 

theorem am_sound (hC : am_Cx p R s m args c cc own D z A H0 nL n0 nf P X ρ0) {T : Nat → Option am_AI} {Γ : Nat → am_C} {d kd : Nat} {rt : Option FieldType} {r : am_Rt} (hT : ∀ pc ai, T pc = some ai → am_chk own rt kd cc pc ai = true) (hΓ : ∀ x, am_Met d x (Γ x)) (hRf : d + 1 ≤ R.frames) (hRl : 64 * (d + 1) ≤ R.locals) (hini : kd = 2 → meth.name = "<init>") (hret : am_Rh rt cc r (am_Wb p l e R s m args below meth c Q D z A H0 nL n0 nf X ρ0)) (stop : Nat → Bool) : ∀ (f pc : Nat) (L : am_L) (st : List Value) (n : Nat) (σ : am_Sg) (τ : am_Tu), am_vc X T Γ P nf stop (am_Wb p l e R s m args below meth c Q D z A H0 nL n0 nf X ρ0) r f pc L st n σ τ → am_Wb p l e R s m args below meth c Q D z A H0 nL n0 nf X ρ0 pc L st n σ τ
  | 0, pc, L, st, n, σ, τ, h => h
  | f + 1, pc, L, st, n, σ, τ, h => by
    unfold am_vc at h
    cases hp : T pc with
    | none => rw [hp] at h; exact False.elim h
    | some ai =>
      rw [hp] at h
      have hch := hT pc ai hp
      obtain ⟨nx, op, x, y, c9, tg, lc⟩ := ai
      refine am_st hC hΓ hRf hRl hini hret (fun pc9 L9 st9 n9 σ9 τ9 h9 => ?_) op x y nx c9 tg lc hch h
      cases hs : stop pc9 with
      | true => rw [hs] at h9; exact h9
      | false => rw [hs] at h9; exact am_sound hC hT hΓ hRf hRl hini hret stop f pc9 L9 st9 n9 σ9 τ9 h9
end AME
def am_ent : Nat → List Value → am_L
  | nL, [] => List.replicate nL none
  | nL, v :: t => match v with
    | .long w => some (.long w) :: none :: am_ent (nL - 2) t
    | v => some v :: am_ent (nL - 1) t
def am_wds : List Value → Nat
  | [] => 0
  | v :: t => v.category + am_wds t
def am_nod : List Value → Bool
  | [] => true
  | .double _ :: _ => false
  | _ :: t => am_nod t
theorem am_lv_args_nth (ρ : Nat → Nat) : ∀ (av : List Value) (nL j i : Nat) (v : Value), am_nod av = true → am_nth (am_ent nL av) i = some v → (j + i, am_cv ρ v) ∈ lv_args j (av.map (am_cv ρ))
  | [], nL, j, i, v, hn, h => by
    exfalso
    revert h
    unfold am_ent
    have : ∀ (m i : Nat), am_nth (List.replicate m none) i = none := by
      intro m
      induction m with
      | zero => intro i; rfl
      | succ m ih =>
        intro i
        cases i with
        | zero => rfl
        | succ i => exact ih i
    rw [this]
    intro h
    cases h
  | w :: t, nL, j, i, v, hn, h => by
    have gen : ∀ (w : Value), w.category = 1 → am_nod t = true → am_nth (some w :: am_ent (nL - 1) t) i = some v → (j + i, am_cv ρ v) ∈ lv_args j ((w :: t).map (am_cv ρ)) := by
      intro w hc hn h
      rw [List.map_cons]
      unfold lv_args
      rw [am_cv_cat, hc]
      cases i with
      | zero =>
        have e : w = v := Option.some.inj h
        subst e
        exact List.mem_cons_self
      | succ i =>
        have := am_lv_args_nth ρ t (nL - 1) (j + 1) i v hn h
        rw [show j + (i + 1) = j + 1 + i by omega]
        exact List.mem_cons_of_mem _ this
    cases w with
    | long w =>
      rw [List.map_cons]
      show (j + i, am_cv ρ v) ∈ (j, Value.long w) :: lv_args (j + 2) (t.map (am_cv ρ))
      match i, h with
      | 0, h =>
        have e : Value.long w = v := Option.some.inj h
        subst e
        exact List.mem_cons_self
      | 1, h => cases h
      | i + 2, h =>
        have := am_lv_args_nth ρ t (nL - 2) (j + 2) i v hn h
        rw [show j + (i + 2) = j + 2 + i by omega]
        exact List.mem_cons_of_mem _ this
    | double b => exact absurd hn Bool.false_ne_true
    | int w => exact gen (.int w) rfl hn h
    | float w => exact gen (.float w) rfl hn h
    | null => exact gen .null rfl hn h
    | ref w => exact gen (.ref w) rfl hn h
    | retAddr w => exact gen (.retAddr w) rfl hn h
theorem am_ent_len : ∀ (av : List Value) (nL : Nat), am_nod av = true → am_wds av ≤ nL → (am_ent nL av).length = nL
  | [], nL, hn, h => by simp [am_ent]
  | v :: t, nL, hn, h => by
    cases v with
    | long w =>
      have h : 2 + am_wds t ≤ nL := h
      have := am_ent_len t (nL - 2) hn (by omega)
      show ((am_ent (nL - 2) t).length + 1) + 1 = nL
      omega
    | double b => exact absurd hn Bool.false_ne_true
    | int w =>
      have h : 1 + am_wds t ≤ nL := h
      have := am_ent_len t (nL - 1) hn (by omega)
      show (am_ent (nL - 1) t).length + 1 = nL
      omega
    | float w =>
      have h : 1 + am_wds t ≤ nL := h
      have := am_ent_len t (nL - 1) hn (by omega)
      show (am_ent (nL - 1) t).length + 1 = nL
      omega
    | null =>
      have h : 1 + am_wds t ≤ nL := h
      have := am_ent_len t (nL - 1) hn (by omega)
      show (am_ent (nL - 1) t).length + 1 = nL
      omega
    | ref w =>
      have h : 1 + am_wds t ≤ nL := h
      have := am_ent_len t (nL - 1) hn (by omega)
      show (am_ent (nL - 1) t).length + 1 = nL
      omega
    | retAddr w =>
      have h : 1 + am_wds t ≤ nL := h
      have := am_ent_len t (nL - 1) hn (by omega)
      show (am_ent (nL - 1) t).length + 1 = nL
      omega
theorem am_sl_words (ρ : Nat → Nat) : ∀ (av : List Value), (lg_sl (av.map (am_cv ρ))).length = am_wds av
  | [] => rfl
  | v :: t => by
    have ih := am_sl_words ρ t
    have e : lg_sl ((v :: t).map (am_cv ρ)) = (if (am_cv ρ v).category = 2 then [Slot.val (am_cv ρ v), .second] else [Slot.val (am_cv ρ v)]) ++ lg_sl (t.map (am_cv ρ)) := by simp [lg_sl]
    rw [e, List.length_append, ih]
    have hc := lv_cat v
    rw [am_cv_cat]
    show _ = v.category + am_wds t
    rcases hc with h | h <;> rw [h] <;> rfl
theorem am_ent_has (ρ : Nat → Nat) {av : List Value} {nL : Nat} (hn : am_nod av = true) (hw : am_wds av ≤ nL) : am_has ρ ((lg_sl (av.map (am_cv ρ)) ++ List.replicate (nL - (lg_sl (av.map (am_cv ρ))).length) Slot.unset).toArray) nL (am_ent nL av) := by
  have h := lv_entry (av.map (am_cv ρ)) (n := nL) (by rw [am_sl_words]; exact hw)
  refine ⟨h.1, h.2.1, am_ent_len av nL hn hw, fun i v hv => ?_⟩
  have := am_lv_args_nth ρ av nL 0 i v hn hv
  rw [Nat.zero_add] at this
  exact h.2.2 _ this
/-- a contract out of the walk of the abstract code -/
theorem am_meth {own0 : String} (x d P : Nat) (T : Nat → Option am_AI) (Γ : Nat → am_C) (Cn : am_C) (hy : plainName (am_y x).cls = true) (hF : am_Fa x) (hown : (am_y x).cls = own0) (hkd : am_kd x = 2 → (am_y x).name = "<init>")
    (hT : ∀ pc ai, T pc = some ai → am_chk own0 (am_rt x) (am_kd x) (am_b x) pc ai = true) (hΓ : ∀ y, am_Met d y (Γ y))
    (body : ∀ (av : List Value) (n : Nat) (σ : am_Sg) (τ : am_Tu) (nf : Nat) (Pst : Option Value → am_Sg → am_Tu → Prop), n ≤ nf → Cn av n σ τ nf Pst → P ≤ n ∧ am_nod av = true ∧ am_wds av ≤ am_mL x ∧
      ∀ (Wb : am_K), (∀ (stop : Nat → Bool) (f pc : Nat) (L : am_L) (st : List Value) (m : Nat) (σ' : am_Sg) (τ' : am_Tu), am_vc (false, 0, fun _ => 0) T Γ P nf stop Wb (fun v m σ τ => m = nf ∧ Pst v σ τ) f pc L st m σ' τ' → Wb pc L st m σ' τ') → Wb 0 (am_ent (am_mL x) av) [] n σ τ) : am_Met (d + 1) x Cn := by
  intro l D z ρ av n nf σ τ Pst sz hnf h1000 hCn
  refine ⟨hF, ?_⟩
  obtain ⟨hP, hnod, hwds, hb⟩ := body av n σ τ nf Pst hnf hCn
  refine Met.ofW (cc := am_b x) (maxL := am_mL x) (ret := am_rt x) hy rfl ?_
  intro p e s m args below meth c s₁ B hml hv
  obtain ⟨rfl, hsz, hWd, hK, hBw⟩ := hv
  subst hsz
  have hts : ∀ w ∈ am_tb, w.before (av.map (am_cv ρ)).toArray s = true := am_Bw.all (x := x) (atoms_spec (ws := am_wsm x) B.pre) hBw
  have hown2 : s.vm.findClass (am_y x).cls = some m.cls := findClass_of_methodNamed B.named
  have hC : am_Cx p (headSpec (am_wsm x) (am_rm (d + 1) n nf)).room s m (av.map (am_cv ρ)).toArray c (am_b x) own0 D z (va_A (am_ws z ρ n σ τ) s.heap.size) s.heap (am_mL x) n nf P (false, 0, fun _ => 0) ρ :=
    ⟨B.exec, B.bytes, hml, by rw [← hown]; exact hown2, hts, hK, fun q h => Or.inr h, ⟨Nat.le_refl _, Nat.le_refl _, by show 1 ≤ d + 1; omega, by show 64 ≤ 64 * (d + 1); omega⟩, fun h => (by cases h), hP, h1000⟩
  have hr := B.returns
  have hlocks := B.notSynchronized
  have hend : ∀ (pc : Nat) (L : am_L) (v : Option Value) (st : List Value) (ρ9 : Nat → Nat) (H : Heap) (locs : List Loc) (σ9 : am_Sg) (τ9 : am_Tu) , (∀ q, q < n ∨ nf ≤ q → ρ9 q = ρ q) → am_Wd D z ρ9 nf σ9 τ9 (va_A (am_ws z ρ n σ τ) s.heap.size) H → va_S (va_A (am_ws z ρ n σ τ) s.heap.size) s.heap H locs → Pst v σ9 τ9 → ∀ t : State, t.heap = H → s.WarmedH t.vm → am_Po D z ρ n σ τ nf s.heap.size Pst (av.map (am_cv ρ)).toArray s (.returned (v.map (am_cv ρ9))) t := by
    intro pc L v st ρ9 H locs σ9 τ9 hρ hWd9 hS9 hPv t ht hW9
    exact ⟨⟨v, ρ9, σ9, τ9, rfl, hPv, hρ, by rw [ht]; exact hWd9⟩, hS9.F ht⟩
  have hret : am_Rh (am_rt x) (am_b x) (fun v m σ τ => m = nf ∧ Pst v σ τ) (am_Wb p l e (headSpec (am_wsm x) (am_rm (d + 1) n nf)).room s m (av.map (am_cv ρ)).toArray below meth c (MQ below (am_Po D z ρ n σ τ nf s.heap.size Pst) (av.map (am_cv ρ)).toArray s (nf - n) (am_sl nf - am_sl n) (va_A (am_ws z ρ n σ τ) s.heap.size)) D z (va_A (am_ws z ρ n σ τ) s.heap.size) s.heap (am_mL x) n nf (false, 0, fun _ => 0) ρ) := by
    refine ⟨fun h pc L v n9 σ9 τ9 hd hp => ?_, fun h pc L v n9 σ9 τ9 hd hv hp => ?_, fun h pc L v n9 σ9 τ9 hd hp => ?_, fun h pc L n9 σ9 τ9 hd hp => ?_⟩
    · intro ρ9 H locs ls h0 h1 hX hW hS hl
      obtain ⟨rfl, hp⟩ := hp
      exact W.iret (v := v) B.exec B.bytes (hr.trans h) (hend pc L (some (.int v)) [] ρ9 H locs σ9 τ9 hX hW hS hp) hS.2.2 hd
    · intro ρ9 H locs ls h0 h1 hX hW hS hl
      obtain ⟨rfl, hp⟩ := hp
      exact W.zret (v := v) (ty := .boolean) B.exec B.bytes (hr.trans h) (by rcases hv with rfl | rfl <;> rfl) (hend pc L (some (.int v)) [] ρ9 H locs σ9 τ9 hX hW hS hp) hS.2.2 hd
    · intro ρ9 H locs ls h0 h1 hX hW hS hl
      obtain ⟨rfl, hp⟩ := hp
      exact W.lret (v := v) B.exec B.bytes (hr.trans h) (hend pc L (some (.long v)) [] ρ9 H locs σ9 τ9 hX hW hS hp) hS.2.2 hd
    · intro ρ9 H locs ls h0 h1 hX hW hS hl
      obtain ⟨rfl, hp⟩ := hp
      exact W.vret B.exec B.bytes (hr.trans h) (hend pc L none [] ρ9 H locs σ9 τ9 hX hW hS hp) hS.2.2 hd
  have hgo := hb _ (fun stop f pc L st m σ' τ' h => am_sound (l := l) (e := e) (below := below) (meth := meth) hC hT hΓ (by show d + 1 ≤ d + 1; omega) (by show 64 * (d + 1) ≤ 64 * (d + 1); omega) (fun h9 => (name_of_methodNamed B.named B.method).1.trans (hkd h9)) hret stop f pc L st m σ' τ' h)
  have hD0 := hWd.2.1.self (sz := s.heap.size)
  have := hgo ρ s.heap [] _ (Nat.le_refl n) hnf (fun _ _ => rfl) ⟨hWd.1, hD0, hWd.2.2⟩ va_S.rf (am_ent_has ρ hnod hwds)
  rw [lg_entry_eq]
  rw [Nat.sub_self, Nat.sub_self] at this
  exact this
