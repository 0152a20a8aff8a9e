theorem am_inst {x : Nat} (hx : x < 9) : Cond.instantiable (am_R x) (am_N x) ∈ am_tb := by
  rcases (show x = 0 ∨ x = 1 ∨ x = 2 ∨ x = 3 ∨ x = 4 ∨ x = 5 ∨ x = 6 ∨ x = 7 ∨ x = 8 by omega) with rfl | rfl | rfl | rfl | rfl | rfl | rfl | rfl | rfl
  · exact am_lk_mem (i := 83) (by decide +kernel)
  · exact am_lk_mem (i := 211) (by decide +kernel)
  · exact am_lk_mem (i := 291) (by decide +kernel)
  · exact am_lk_mem (i := 177) (by decide +kernel)
  · exact am_lk_mem (i := 307) (by decide +kernel)
  · exact am_lk_mem (i := 158) (by decide +kernel)
  · exact am_lk_mem (i := 231) (by decide +kernel)
  · exact am_lk_mem (i := 75) (by decide +kernel)
  · exact am_lk_mem (i := 825) (by decide +kernel)
theorem am_known {s : State} {args : Array Value} (hts : ∀ w ∈ am_tb, w.before args s = true) : ∃ (D : va_G) (z : am_Z), va_K D vwCl (am_tys z) s := by
  have h : ∀ x : Nat, ∃ y : ClassId × (Nat → Nat), x < 9 → u_Kn s (am_R x) (am_T x) (am_N x) y.1 y.2 := by
    intro x
    by_cases hx : x < 9
    · obtain ⟨cC, iS, h⟩ := u_known (C := am_R x) (T := am_T x) (N := am_N x) (n := am_N x) hts (am_cls hx).2.1 (hts _ (am_inst hx))
      exact ⟨(cC, iS), fun _ => h⟩
    · exact ⟨(0, fun _ => 0), fun g => absurd g hx⟩
  obtain ⟨c1, k1, p1, a1, a2, a3⟩ := Cond.arrayClass_spec (hts _ am_f1)
  obtain ⟨c2, k2, p2, b1, b2, b3⟩ := Cond.arrayClass_spec (hts _ am_f2)
  obtain ⟨p3, c3, k3, d1, d2, d3, d4, d5⟩ := Cond.arrayOver_spec (hts _ am_f3)
  obtain ⟨p4, c4, k4, e1, e2, e3, e4, e5⟩ := arrayOverA_spec (hts _ am_f4)
  refine ⟨(fun x => (Classical.choose (h x)).1, fun x => (Classical.choose (h x)).2), (c1, c2, c3, c4), fun c q hq => ?_, fun k q hk => ?_⟩
  · have hc : c < 9 := (List.getElem?_eq_some_iff.mp hq).1
    have e := Option.some.inj (hq.symm.trans (am_cls hc).1)
    subst e
    exact Classical.choose_spec (h c) hc
  · match k, hk with
    | 0, hk =>
      cases hk
      exact ⟨fun n z => ⟨fun k h => (by cases h), k1, a2, p1, a3⟩, a1⟩
    | 1, hk =>
      cases hk
      exact ⟨fun n z => ⟨fun k h => (by cases h), k2, b2, p2, b3⟩, b1⟩
    | 2, hk =>
      cases hk
      exact ⟨fun n z => ⟨fun k h => (by cases h), k3, d3, p3, d4⟩, k3, p3, d3, d4, d1, d5⟩
    | 3, hk =>
      cases hk
      exact ⟨fun n z => ⟨fun k h => (by cases h), k4, e3, p4, e4⟩, e5⟩
    | k + 4, hk => cases hk
theorem am_ws_tau {z : am_Z} {ρ : Nat → Nat} {σ : am_Sg} {τ τ' : am_Tu} {n : Nat} (h : ∀ q, q < n → ∀ i, τ q i = τ' q i) : am_ws z ρ n σ τ = am_ws z ρ n σ τ' := by
  unfold am_ws
  refine List.map_congr_left (fun q hq => ?_)
  have hq := List.mem_range.mp hq
  have e1 : am_fv ρ (am_knd q) σ τ q = am_fv ρ (am_knd q) σ τ' q := funext fun k => by
    unfold am_fv
    rw [h q hq k]
  have e2 : (fun i => am_ro ρ (τ q i)) = (fun i => am_ro ρ (τ' q i)) := funext fun i => by rw [h q hq i]
  unfold am_cell
  rw [e1, e2]
theorem am_Wd_tau {D : va_G} {z : am_Z} {ρ : Nat → Nat} {σ : am_Sg} {τ τ' : am_Tu} {n : Nat} {A : Nat → Prop} {H : Heap} (h : ∀ q, q < n → ∀ i, τ q i = τ' q i) (hW : am_Wd D z ρ n σ τ A H) : am_Wd D z ρ n σ τ' A H := by
  obtain ⟨h1, h2, h3⟩ := hW
  rw [am_ws_tau h] at h1 h2
  exact ⟨h1, h2, fun q hq i => by rw [← h q hq i]; exact h3 q hq i⟩
theorem am_sl166 : am_sl 166 ≤ 7302250 := by decide +kernel
theorem am_sl166b : am_sl 166 - am_sl 0 ≤ room_1.slots := by decide +kernel
/-! THE CLAIM OUT OF ONE WALK OF THE LAW'S BODY. Your part is whole_start (and what it stands on); all else here is the same for every law, but numbers. -/
def R_law : String := "CanalEndLaw"
def lw_P (b : Addr) (xs : List Int32) (args : Array Value) (s : State) : Prop := args = #[.ref b] ∧ s.IntsAt b xs ∧ xs.length ≤ 3072 ∧ (Jvm.Cond.and given_1 narrow_1).before args s = true
def lw_Q (_ : Array Value) (s : State) (o : Outcome) (t : State) : Prop := o = .returned (some (.int 1)) ∧ Framed s o t [] 600000 7302250
def lw_Z (below : List Frame) (a : Array Value) (s : State) : State → Prop := fun t => ∃ o, t.status = .running ∧ Ended t below o ∧ lw_Q a s o t
/-- the law's own end, with 1 on the stack, nothing written that was there before, its room as the claim has it -/
theorem lw_ret {p : Program} {l : Launch} {e : Env} {s : State} {m : MethodId} {below : List Frame} {meth : Method} {c : Code} {b : Nat} (hx : p.tables.exec = Jvm.exec) (hb : c.code = code) (hr : meth.sig.returnType = ret) (hlocks : meth.locks = false) {pc : Nat} {H : Heap} {ls : Array Slot} (hdg : decode code pc = .ok (.ireturn, 1)) : W p l e room_1 s m #[Value.ref b] below meth c H [] 600000 7302250 (lw_Z below #[Value.ref b] s) (F0 m pc ls [.int 1]) := by
  intro T hT X
  obtain ⟨fs, hret, hrun, hended, hW, hframe⟩ := X.leave (v := some (.int 1)) (hlocks := hlocks) (fun h => by rw [hr] at h; cases h)
  have hmeth' : T.vm.method? m = some meth := X.method'
  refine ⟨T.setFrames fs, ?_, .returned (some (.int 1)), hrun, hended, rfl, ⟨_, rfl⟩, hW, hframe⟩
  jvm_step X.here [X.here.top, hx, hb, hdg, hmeth', hr, ret, narrow_b1]
  (try refine ⟨rfl, ?_⟩); (try refine ⟨rfl, ?_⟩)
  first | (intro acts; rw [hret _ acts rfl rfl rfl]) | rw [hret _ _ rfl rfl rfl]
  exact Steps.refl _
/-- what holds at the law's entry: the machine, the code, the tables' words (any of lw_tbl by 'hts w (by decide +kernel)'), the script of L ints xs at the cell b, what the Statement gives of the start (any of its parts by flat_of_before) -/
def lw_At (p : Program) (s : State) (m : MethodId) (meth : Method) (c : Code) (b L : Nat) (xs : Nat → Int32) : Prop :=
  p.tables.exec = Jvm.exec ∧ c.code = code ∧ meth.sig.returnType = ret ∧ c.maxLocals = 4 ∧ s.vm.findClass R_law = some m.cls ∧ (∀ w ∈ lw_tbl, w.before #[Value.ref b] s = true) ∧ va_X b L xs s s.heap ∧ b < s.heap.size ∧ meth.locks = false ∧ (Jvm.Cond.and given_1 narrow_1).before #[Value.ref b] s = true
/-- YOUR PART: from the entry, for every script of at most 3072 ints, the law comes to its end with true ('hflags': the launch's flags, for a law that throws: no stack traces) -/
theorem whole_start {p : Program} {e : Env} {s : State} {m : MethodId} {below : List Frame} {meth : Method} {c : Code} (l : Launch) (hflags : l.flags = flags0) {b L : Nat} {xs : Nat → Int32} (hL : L ≤ 3072) (C0 : lw_At p s m meth c b L xs) : W p l e room_1 s m #[Value.ref b] below meth c s.heap [] 0 0 (lw_Z below #[Value.ref b] s) (entryFrame m ([Value.ref b] : List Value).toArray 4) := by
  obtain ⟨hx, hb, hr, hml, hown, hts, hX, hbl, hlocks, hgv⟩ := id C0
  have hts9 : ∀ w ∈ am_tb, w.before #[Value.ref b] s = true := fun w hw => hts w (List.mem_filter.mp hw).1
  obtain ⟨D, z, hK⟩ := am_known hts9
  have hbA : ¬ (fun q : Nat => s.heap.size ≤ q) b := Nat.not_le.mpr hbl
  have hC : am_Cx p room_1 s m #[Value.ref b] c code "CanalEndLaw" D z (fun q : Nat => s.heap.size ≤ q) s.heap 4 0 166 0 (true, L, xs) (fun _ => b) :=
    ⟨hx, hb, hml, hown, hts9, hK, fun q h => h, ⟨Nat.le_of_ble_eq_true rfl, am_sl166b, Nat.le_of_ble_eq_true rfl, Nat.le_of_ble_eq_true rfl⟩, fun _ => ⟨hX, hbl, hbA⟩, Nat.le_refl 0, Nat.le_of_ble_eq_true rfl⟩
  have hret : am_Rh (some .boolean) code (fun v _ _ _ => v = some (.int 1)) (am_Wb p l e room_1 s m #[Value.ref b] below meth c (lw_Z below #[Value.ref b] s) D z (fun q : Nat => s.heap.size ≤ q) s.heap 4 0 166 (true, L, xs) (fun _ => b)) := by
    refine ⟨fun h => (by cases h), fun _ pc L9 v n σ τ hd hv hp => ?_, fun h => (by cases h), fun h => (by cases h)⟩
    intro ρ H locs ls h0 h1 hX9 hW hS hl
    have hp : (some (Value.int v) : Option Value) = some (Value.int 1) := hp
    have e : v = 1 := Value.int.inj (Option.some.inj hp)
    subst e
    refine va_forget (fun q hq => hS.2.2 q hq) (W.widen (k := 600000) (n := 7302250) (by omega) ?_ (lw_ret hx hb hr hlocks hd))
    have := am_sl_mono h1
    have := am_sl166
    omega
  have hs : LawS L xs (am_Wb p l e room_1 s m #[Value.ref b] below meth c (lw_Z below #[Value.ref b] s) D z (fun q : Nat => s.heap.size ≤ q) s.heap 4 0 166 (true, L, xs) (fun _ => b)) :=
    fun stop f pc L9 st m9 σ τ h => am_sound (l := l) (e := e) (below := below) (meth := meth) hC Tc_law G_met (Nat.le_of_ble_eq_true rfl) (Nat.le_of_ble_eq_true rfl) (fun h9 => by cases h9) hret stop f pc L9 st m9 σ τ h
  have hgo := law_all hL hs (fun pc L9 st σ h ρ H locs ls h0 h1 hX9 hW hS hl => h ρ H locs ls h0 h1 hX9 (am_Wd_tau (fun q hq i => ta1_eq hq i) hW) hS hl)
  have := hgo (fun _ => b) s.heap [] _ (Nat.le_refl 0) (Nat.le_of_ble_eq_true rfl) (fun _ _ => rfl) ⟨fun k q h => (by cases h), ⟨fun i j p q h => (by cases h), fun k q h => (by cases h)⟩, fun q hq => absurd hq (Nat.not_lt_zero q)⟩ va_S.rf (am_ent_has (av := [.ref 1000]) (nL := 4) (fun _ => b) rfl (by decide))
  rw [lg_entry_eq]
  exact this
