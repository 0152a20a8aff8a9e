theorem am_rows_at {q k : Nat} : ∀ (N : Nat), am_rows q k N = true → ∀ i, i < N → am_knd (q + 1 + i) = 10 ∧ am_len (q + 1 + i) = k
  | 0, _, i, hi => by omega
  | N + 1, h, i, hi => by
    have h2 := Bool.and_eq_true _ _ ▸ h
    have h3 := Bool.and_eq_true _ _ ▸ h2.1
    by_cases e : i = N
    · subst e
      exact ⟨Nat.eq_of_beq_eq_true h3.1, Nat.eq_of_beq_eq_true h3.2⟩
    · exact am_rows_at N h2.2 i (by omega)
theorem am_sl_rows {q k : Nat} : ∀ (N : Nat), am_rows q k N = true → am_sl (q + 1 + N) = am_sl (q + 1) + N * k
  | 0, _ => by simp
  | N + 1, h => by
    have h2 := Bool.and_eq_true _ _ ▸ h
    have ih := am_sl_rows N h2.2
    have := (am_rows_at (N + 1) h N (by omega)).2
    show am_sl (q + 1 + N) + am_len (q + 1 + N) = _
    rw [ih, this, Nat.succ_mul]
    omega
def am_rh (ρ r : Nat → Nat) (n a N : Nat) : Nat → Nat := fun i => if i = n then a else if n < i ∧ i < n + 1 + N then r (i - n - 1) else ρ i
theorem am_rh_lt {ρ r : Nat → Nat} {n a N q : Nat} (h : q < n) : am_rh ρ r n a N q = ρ q := by
  unfold am_rh
  rw [if_neg (by omega), if_neg (by omega)]
theorem am_rh_ge {ρ r : Nat → Nat} {n a N q : Nat} (h : n + 1 + N ≤ q) : am_rh ρ r n a N q = ρ q := by
  unfold am_rh
  rw [if_neg (by omega), if_neg (by omega)]
theorem am_zr_ne {α : Type} {f : Nat → Nat → α} {q N a : Nat} {v : α} (h : a < q) : am_zr f q N v a = f a := by
  funext b
  unfold am_zr
  rw [show Nat.ble q a = false from Bool.eq_false_iff.mpr (fun z => by have := Nat.le_of_ble_eq_true z; omega)]
  rfl
theorem am_zr_in {α : Type} {f : Nat → Nat → α} {q N a b : Nat} {v : α} (h : q ≤ a) (h2 : a < q + N) : am_zr f q N v a b = v := by
  unfold am_zr
  rw [show Nat.ble q a = true from Nat.ble_eq.mpr h, show Nat.blt a (q + N) = true from Nat.blt_eq.mpr h2]
  rfl
theorem am_rowT_ne {τ : am_Tu} {q N a : Nat} (h : a < q) : am_rowT τ q N a = τ a := by
  funext b
  unfold am_rowT
  rw [show Nat.beq a q = false from Bool.eq_false_iff.mpr (fun z => by have := Nat.eq_of_beq_eq_true z; omega), show Nat.ble q a = false from Bool.eq_false_iff.mpr (fun z => by have := Nat.le_of_ble_eq_true z; omega)]
  rfl
theorem am_rowT_self {τ : am_Tu} {q N b : Nat} : am_rowT τ q N q b = if b < N then q + 1 + b + 1 else 0 := by
  unfold am_rowT
  rw [show Nat.beq q q = true from Nat.beq_refl q]
  by_cases h : b < N
  · rw [if_pos h, show Nat.blt b N = true from Nat.blt_eq.mpr h]
    rfl
  · rw [if_neg h, show Nat.blt b N = false from Bool.eq_false_iff.mpr (fun z => h (Nat.blt_eq.mp z))]
    rfl
theorem am_rowT_in {τ : am_Tu} {q N a b : Nat} (h : q < a) (h2 : a < q + 1 + N) : am_rowT τ q N a b = 0 := by
  unfold am_rowT
  rw [show Nat.beq a q = false from Bool.eq_false_iff.mpr (fun z => by have := Nat.eq_of_beq_eq_true z; omega), show Nat.ble q a = true from Nat.ble_eq.mpr (Nat.le_of_lt h), show Nat.blt a (q + 1 + N) = true from Nat.blt_eq.mpr h2]
  rfl
theorem am_ws_rows {z : am_Z} {ρ r : Nat → Nat} {n a k : Nat} {σ : am_Sg} {τ : am_Tu} (hk : am_knd n = 13) (hr : am_rows n k (am_len n) = true) (hT : ∀ q, q < n → ∀ i, τ q i ≤ n) : (am_ws z ρ n σ τ ++ [(a, .inl (z.2.2.2, am_len n, .inr (.inr (.inr (.inr (fun i => if i < am_len n then some (r i) else none))))))]) ++ (List.range (am_len n)).map (fun i => (r i, .inl (z.1, k, .inl (fun _ => 0)))) = am_ws z (am_rh ρ r n a (am_len n)) (n + 1 + am_len n) (am_zr σ n (am_len n + 1) 0) (am_rowT τ n (am_len n)) := by
  unfold am_ws
  rw [List.range_add, List.map_append, List.range_succ, List.map_append]
  congr 1
  · congr 1
    · apply List.map_congr_left
      intro q hq
      have hq := List.mem_range.mp hq
      rw [am_rh_lt hq]
      congr 1
      refine (am_cell_cong (am_zr_ne hq) (fun i => ?_)).symm
      rw [am_rowT_ne hq]
      exact am_ro_ext (fun x hx => am_rh_lt hx) (hT q hq i)
    · rw [List.map_cons, List.map_nil, am_cell_r hk]
      have e1 : am_rh ρ r n a (am_len n) n = a := if_pos rfl
      have e2 : (fun i => am_ro (am_rh ρ r n a (am_len n)) (am_rowT τ n (am_len n) n i)) = (fun i => if i < am_len n then some (r i) else none) := by
        funext i
        rw [am_rowT_self]
        by_cases h : i < am_len n
        · rw [if_pos h, if_pos h]
          show some (am_rh ρ r n a (am_len n) (n + 1 + i)) = _
          unfold am_rh
          rw [if_neg (by omega), if_pos (by omega), show n + 1 + i - n - 1 = i by omega]
        · rw [if_neg h, if_neg h]
          rfl
      rw [e1, e2]
  · rw [List.map_map]
    apply List.map_congr_left
    intro i hi
    have hi := List.mem_range.mp hi
    obtain ⟨g1, g2⟩ := am_rows_at _ hr i hi
    show (r i, _) = (am_rh ρ r n a (am_len n) (n + 1 + i), am_cell z _ _ _ (n + 1 + i))
    rw [am_cell_i g1, g2]
    congr 1
    · unfold am_rh
      rw [if_neg (by omega), if_pos (by omega), show n + 1 + i - n - 1 = i by omega]
    · rw [show am_zr σ n (am_len n + 1) 0 (n + 1 + i) = (fun _ => 0) from funext fun j => am_zr_in (by omega) (by omega)]
section AMM
variable {p : Program} {l : Launch} {e : Env} {R : Room} {s : State} {m : MethodId} {args : Array Value} {below : List Frame} {meth : Method} {c : Code} {Q : State → Prop} {cc : ByteArray} {own : String} {D : va_G} {z : am_Z} {A : Nat → Prop} {H0 : Heap} {nL n0 nf P : Nat} {X : am_X} {ρ0 : Nat → Nat} {pc nx : Nat} {L : am_L} {st : List Value} {n : Nat} {σ : am_Sg} {τ : am_Tu} {k : am_K}
theorem am_m18 {v w : Int32} {i y : Nat} {r : List Value} (hC : am_Cx p R s m args c cc own D z A H0 nL n0 nf P X ρ0) (hq2 : am_knd n = 13) (hr : am_rows n y (am_len n) = true) (hy : y ≤ 10000) (hv : v = nI (am_len n)) (hw0 : w = nI y) (hw : .classLink own i "[[I" ∈ am_tb) (ha : .arrayOver (.array .int) ∈ am_tb) (ha2 : .arrayClass .int ∈ am_tb) (hnf : n + 1 + am_len n ≤ nf) (hoS : am_okS n r = true) (hoL : am_okL n L = true) (hd : decode cc pc = .ok (.multianewarray i 2, 4)) (h : k (pc + 4) L (.ref n :: r) (n + 1 + am_len n) (am_zr σ n (am_len n + 1) 0) (am_rowT τ n (am_len n))) (hk : ∀ pc L st n σ τ, k pc L st n σ τ → am_Wb p l e R s m args below meth c Q D z A H0 nL n0 nf X ρ0 pc L st n σ τ) : am_Wb p l e R s m args below meth c Q D z A H0 nL n0 nf X ρ0 pc L (.int w :: .int v :: r) n σ τ := by
  intro ρ H locs ls h0 h1 hX hW hS hl
  obtain ⟨hP, hD, hT⟩ := id hW
  have hm1 := am_sl_mono h0
  have hm2 := am_sl_mono hnf
  have hm3 := am_sl_rows _ hr
  have hm4 : am_sl (n + 1) = am_sl n + am_len n := rfl
  have h1000 : nf ≤ 1000 := hC.2.2.2.2.2.2.2.2.2.2
  have hle := am_len_le n
  have hcl : n - n0 + (1 + am_len n) ≤ R.cells := by have := hC.2.2.2.2.2.2.2.1.1; omega
  have hsl : am_sl n - am_sl n0 + (am_len n + am_len n * y) ≤ R.slots := by have := hC.2.2.2.2.2.2.2.1.2.1; omega
  have hN : v.toNatClampNeg = am_len n := by rw [hv]; exact nI_clamp (by omega)
  have hM : w.toNatClampNeg = y := by rw [hw0]; exact nI_clamp (by omega)
  have hP' : va_P D vwCl (am_ws z ρ n σ τ ++ va_pl [] (fun _ => .inr (0, []))) H := by rw [show va_pl [] (fun _ => (.inr (0, []) : va_E)) = [] from rfl, List.append_nil]; exact hP
  have hD' : va_D A (am_ws z ρ n σ τ ++ va_pl [] (fun _ => .inr (0, []))) := by rw [show va_pl [] (fun _ => (.inr (0, []) : va_E)) = [] from rfl, List.append_nil]; exact hD
  refine va_mna (D := D) (X := am_ws z ρ n σ τ) (L := []) (f := fun _ => .inr (0, [])) (ty := .int) (cy := z.1) (z := (y, .inl (fun _ => 0))) hC.1 hC.2.1 hC.2.2.2.1 (hC.2.2.2.2.1 _ hw) (hC.2.2.2.2.1 _ ha) (hC.2.2.2.2.1 _ ha2) (hC.2.2.2.2.2.1.2 0 (z.1, .int) rfl).2 hC.2.2.2.2.2.1 hP' hD' hS hC.2.2.2.2.2.2.1 (by rw [hv]; exact nI_pos (by omega)) (by rw [hw0]; exact nI_pos (by omega)) hN hM (by omega) (by show y * componentBytes .int ≤ 536870912; simp [componentBytes]; omega) (by omega) rfl rfl hcl hsl (fun c9 => by show ({ cls := c9, slots := Array.replicate y (.int 0), vm := .none } : Cell) = vp_cell c9 (y, .inl (fun _ => 0)); rw [vp_cell_i, arrV_new]) hd (fun a9 r9 cA H1 hinj _ hK1 hP1 hD1 hS1 => ?_)
  have eA : cA = z.2.2.2 := by
    have g1 := (hK1.2 4 (cA, .array .int) rfl).2
    have g2 := (hC.2.2.2.2.2.1.2 3 (z.2.2.2, .array .int) rfl).2
    exact Option.some.inj (g1.symm.trans g2)
  subst eA
  have e1 : va_pl ([] ++ (List.range (am_len n)).map r9) (vr_up (fun _ => .inr (0, [])) ((List.range (am_len n)).map r9) (.inl (z.1, (y, .inl (fun _ => 0))))) = (List.range (am_len n)).map (fun i => (r9 i, (.inl (z.1, y, .inl (fun _ => 0)) : va_E))) := by
    unfold va_pl
    rw [List.nil_append, List.map_map]
    apply List.map_congr_left
    intro j hj
    show (r9 j, _) = _
    rw [vr_up_in (List.mem_map.mpr ⟨j, hj, rfl⟩)]
  rw [e1, am_ws_rows hq2 hr hT] at hP1 hD1
  have hr1 : ∀ q9, q9 < n → am_rh ρ r9 n a9 (am_len n) q9 = ρ q9 := fun q9 h9 => am_rh_lt h9
  have hr2 : am_rh ρ r9 n a9 (am_len n) 1000 = ρ 1000 := am_rh_ge (by omega)
  have hgo := hk _ _ _ _ _ _ h (am_rh ρ r9 n a9 (am_len n)) H1 locs ls (by omega) hnf (fun q9 h9 => (hX q9 h9) ▸ (h9.elim (fun g => am_rh_lt (by omega)) (fun g => am_rh_ge (by omega)))) ⟨hP1, hD1, fun q9 h9 i9 => ?_⟩ hS1 (am_has.ext hr1 hr2 hoL hl)
  · rw [List.map_cons, am_okS_map hr1 hr2 r hoS] at hgo
    have e9 : am_cv (am_rh ρ r9 n a9 (am_len n)) (.ref n) = .ref a9 := by show Value.ref (am_rh ρ r9 n a9 (am_len n) n) = _; rw [show am_rh ρ r9 n a9 (am_len n) n = a9 from if_pos rfl]
    rw [e9] at hgo
    exact W.cs (cells' := n + 1 + am_len n - n0) (slots' := am_sl (n + 1 + am_len n) - am_sl n0) (by omega) (by omega) hgo
  · by_cases c1 : q9 < n
    · rw [am_rowT_ne c1]
      have := hT q9 c1 i9
      omega
    · by_cases c2 : q9 = n
      · subst c2
        rw [am_rowT_self]
        split <;> omega
      · rw [am_rowT_in (by omega) (by omega)]
        exact Nat.zero_le _
end AMM
def am_wsm (x : Nat) : List Cond := Cond.code (am_y x) (am_b x) (am_mL x) (am_rt x) :: am_tb.filter goodWord
theorem am_bad_nw {w : Cond} (hw : w ∈ am_tb) (hg : ¬ goodWord w = true) : am_nw w = true := by
  have h := (List.mem_filter.mp hw).2
  unfold am_okw at h
  rcases Bool.or_eq_true _ _ ▸ h with h | h
  · exact absurd h hg
  · exact h
theorem am_nw_to {w : Cond} (h : am_nw w = true) {A : Array Value} {U : State} (hb : w.before A U = true) : va_Nw w U := by
  cases w <;> first | exact absurd h Bool.false_ne_true | exact va_Nw.of rfl hb | exact hb
theorem am_nw_use {w : Cond} (h : am_nw w = true) {A : Array Value} {U : State} (hb : va_Nw w U) : w.before A U = true := by
  cases w <;> first | exact absurd h Bool.false_ne_true | exact va_Nw.use rfl hb | exact hb
theorem am_nw_warm {w : Cond} (h : am_nw w = true) {s U : State} (hW : s.WarmedH U.vm) (hb : va_Nw w s) : va_Nw w U := by
  cases w with
  | methodLinkNest a i x h => exact va_Nw.warmM hW hb
  | fieldLinkNest a i b n d h => exact va_Nw.warmF hW hb
  | arrayOver t =>
    cases t with
    | object n => exact va_AO.moved hW.alike hb
    | array t => exact over_moved (a := #[]) (a' := #[]) hW.alike hb
    | _ => exact absurd h Bool.false_ne_true
  | _ => exact absurd h Bool.false_ne_true
theorem am_nw_call {w : Cond} (h : am_nw w = true) {U : State} {g : JFrame} {mk : MethodId} {a : Array Value} (hb : va_Nw w U) : va_Nw w (U.calling g mk a) := by
  cases w with
  | methodLinkNest a i x h => exact va_Nw.same rfl rfl hb
  | fieldLinkNest a i b n d h => exact va_Nw.same rfl rfl hb
  | arrayOver t =>
    cases t with
    | object n => exact va_AO.moved (Vm.Alike.refl U.vm) hb
    | array t => exact over_moved (a := #[]) (a' := #[]) (Vm.Alike.refl U.vm) hb
    | _ => exact absurd h Bool.false_ne_true
  | _ => exact absurd h Bool.false_ne_true
def am_Bw (U : State) : Prop := ∀ w ∈ am_tb, am_nw w = true → va_Nw w U
theorem am_Bw.of {A : Array Value} {U : State} (h : ∀ w ∈ am_tb, w.before A U = true) : am_Bw U := fun w hw hn => am_nw_to hn (h w hw)
theorem am_Bw.warm {s U : State} (hW : s.WarmedH U.vm) (h : am_Bw s) : am_Bw U := fun w hw hn => am_nw_warm hn hW (h w hw hn)
theorem am_Bw.all {A : Array Value} {U : State} {x : Nat} (h1 : ∀ w ∈ am_wsm x, w.before A U = true) (h2 : am_Bw U) : ∀ w ∈ am_tb, w.before A U = true := fun w hw => by
  by_cases hg : goodWord w = true
  · exact h1 w (List.mem_cons_of_mem _ (List.mem_filter.mpr ⟨hw, hg⟩))
  · exact am_nw_use (am_bad_nw hw hg) (h2 w hw (am_bad_nw hw hg))
def am_rm (d n nf : Nat) : Room := { frames := d, cells := nf - n, slots := am_sl nf - am_sl n, locals := 64 * d }
def am_Pr (D : va_G) (z : am_Z) (ρ : Nat → Nat) (av : List Value) (n : Nat) (σ : am_Sg) (τ : am_Tu) (sz : Nat) : Array Value → State → Prop := va_Pc (av.map (am_cv ρ)) (fun U => U.heap.size = sz ∧ am_Wd D z ρ n σ τ (fun _ => True) U.heap ∧ va_K D vwCl (am_tys z) U ∧ am_Bw U)
def am_Po (D : va_G) (z : am_Z) (ρ : Nat → Nat) (n : Nat) (σ : am_Sg) (τ : am_Tu) (nf sz : Nat) (P : Option Value → am_Sg → am_Tu → Prop) : Array Value → State → Outcome → State → Prop := fun _ st oc t =>
  (∃ (r : Option Value) (ρ' : Nat → Nat) (σ' : am_Sg) (τ' : am_Tu), oc = .returned (r.map (am_cv ρ')) ∧ P r σ' τ' ∧ (∀ q, q < n ∨ nf ≤ q → ρ' q = ρ q) ∧ am_Wd D z ρ' nf σ' τ' (va_A (am_ws z ρ n σ τ) sz) t.heap) ∧ va_F (va_A (am_ws z ρ n σ τ) sz) st t
def am_Met (d x : Nat) (Cn : am_C) : Prop := ∀ (l : Launch) (D : va_G) (z : am_Z) (ρ : Nat → Nat) (av : List Value) (n nf : Nat) (σ : am_Sg) (τ : am_Tu) (P : Option Value → am_Sg → am_Tu → Prop) (sz : Nat), n ≤ nf → nf ≤ 1000 → Cn av n σ τ nf P →
  am_Fa x ∧ Met l (am_y x) (am_wsm x) (am_rm d n nf) (am_Pr D z ρ av n σ τ sz) (am_Po D z ρ n σ τ nf sz P) (nf - n) (am_sl nf - am_sl n) (va_A (am_ws z ρ n σ τ) sz)
theorem am_good {x : Nat} (h : am_Fa x) : GoodIn am_tb (am_wsm x) := fun w hw => by
  rcases List.mem_cons.mp hw with rfl | hw
  · exact ⟨h.1, good_of_word rfl⟩
  · obtain ⟨h1, h2⟩ := List.mem_filter.mp hw
    exact ⟨h1, good_of_word h2⟩
theorem am_blind {D : va_G} {z : am_Z} {ρ : Nat → Nat} {av : List Value} {n : Nat} {σ : am_Sg} {τ : am_Tu} {sz : Nat} : FrameBlind (am_Pr D z ρ av n σ τ sz) := fun a U g mk q => by
  obtain ⟨q0, q1, qP, qK, qB⟩ := q
  exact ⟨q0, q1, qP, va_K.moved (u := U) (U := U.calling g mk a) (Vm.Alike.refl U.vm) qK, fun w hw hn => am_nw_call hn (qB w hw hn)⟩
theorem am_inA {z : am_Z} {ρ : Nat → Nat} {n : Nat} {σ : am_Sg} {τ : am_Tu} {A : Nat → Prop} {H0 H : Heap} {locs : List Loc} (hD : va_D A (am_ws z ρ n σ τ)) (hS : va_S A H0 H locs) (hA : ∀ q, H0.size ≤ q → A q) : ∀ q, va_A (am_ws z ρ n σ τ) H.size q → A q := by
  rintro q (⟨k, e, h⟩ | h)
  · exact hD.2 k _ h
  · exact hA q (Nat.le_trans hS.1 h)
section AMC
variable {p : Program} {l : Launch} {e : Env} {R : Room} {s : State} {m : MethodId} {args : Array Value} {below : List Frame} {meth : Method} {c : Code} {Q : State → Prop} {cc : ByteArray} {own : String} {D : va_G} {z : am_Z} {A : Nat → Prop} {H0 : Heap} {nL n0 nf P : Nat} {X : am_X} {ρ0 : Nat → Nat} {pc nx : Nat} {L : am_L} {st : List Value} {n : Nat} {σ : am_Sg} {τ : am_Tu} {k : am_K}
theorem am_fin {H : Heap} {locs : List Loc} {ls : Array Slot} {ρ : Nat → Nat} {st0 sr : List Value} {nf' : Nat} {Pst : Option Value → am_Sg → am_Tu → Prop} {av : Array Value} (hC : am_Cx p R s m args c cc own D z A H0 nL n0 nf P X ρ0) (h0 : n0 ≤ n) (h1 : n ≤ nf) (hX : ∀ q, q < n0 ∨ nf ≤ q → ρ q = ρ0 q) (hW : am_Wd D z ρ n σ τ A H) (hS : va_S A H0 H locs) (hl : am_has ρ ls nL L) (hn1 : n ≤ nf') (hn2 : nf' ≤ nf) (hok : nf' = n ∨ (am_okS n sr = true ∧ am_okL n L = true))
    (hr : va_Run p l e R s m args below meth c H locs (n - n0) (am_sl n - am_sl n0) (nf' - n) (am_sl nf' - am_sl n) (F0 m pc ls st0) (sr.map (am_cv ρ)) (am_Po D z ρ n σ τ nf' H.size Pst av) (va_A (am_ws z ρ n σ τ) H.size))
    (hp : ∀ r σ' τ', Pst r σ' τ' → am_push (pc + 3) L sr nf' k r σ' τ') (hk : ∀ pc L st n σ τ, k pc L st n σ τ → am_Wb p l e R s m args below meth c Q D z A H0 nL n0 nf X ρ0 pc L st n σ τ) : W p l e R s m args below meth c H locs (n - n0) (am_sl n - am_sl n0) Q (F0 m pc ls st0) := by
  intro T hT X9
  obtain ⟨v, st₀, t, T', L9, g0, X', hL, e1, e2, ⟨⟨r, ρ', σ', τ', hv, hpst, hρ, hW'⟩, hz, hkeep⟩, st⟩ := hr T hT X9
  have h1000 : nf ≤ 1000 := hC.2.2.2.2.2.2.2.2.2.2
  have hsub := am_inA hW.2.1 hS hC.2.2.2.2.2.2.1
  rw [g0] at hz hkeep
  have hS1 : va_S A H0 T'.heap (locs ++ L9) := ⟨Nat.le_trans hS.1 (by rw [e1]; exact hz), fun q h1 h2 => by rw [e1, hkeep q (Nat.lt_of_lt_of_le h1 hS.1) (fun z => h2 (hsub q z))]; exact hS.2.1 q h1 h2, fun q hq => by
    rcases List.mem_append.mp hq with h | h
    · exact hS.2.2 q h
    · exact hsub _ (hL q h)⟩
  have hW1 : am_Wd D z ρ' nf' σ' τ' A T'.heap := by
    rw [e1]
    exact ⟨hW'.1, hW'.2.1.weaken (fun _ q _ h => hsub q.1 h), hW'.2.2⟩
  have hx : ρ' 1000 = ρ 1000 := hρ 1000 (Or.inr (by omega))
  have hext : sr.map (am_cv ρ') = sr.map (am_cv ρ) ∧ am_has ρ' ls nL L := by
    rcases hok with e | ⟨o1, o2⟩
    · have : ρ' = ρ := funext fun q => hρ q (by omega)
      rw [this]
      exact ⟨rfl, hl⟩
    · exact ⟨am_okS_map (fun q hq => hρ q (Or.inl hq)) hx sr o1, am_has.ext (fun q hq => hρ q (Or.inl hq)) hx o2 hl⟩
  have hm1 := am_sl_mono h0
  have hm2 := am_sl_mono hn1
  have hpu := hp r σ' τ' hpst
  have hv9 : v = r.map (am_cv ρ') := by cases hv; rfl
  have key : W p l e R s m args below meth c T'.heap (locs ++ L9) (nf' - n0) (am_sl nf' - am_sl n0) Q (F0 m (pc + 3) ls (v.toList ++ sr.map (am_cv ρ))) := by
    rw [hv9]
    cases r with
    | none =>
      have := hk _ _ _ _ _ _ hpu ρ' T'.heap (locs ++ L9) ls (by omega) hn2 (fun q hq => (hρ q (by omega)).trans (hX q hq)) hW1 hS1 hext.2
      rw [hext.1] at this
      exact this
    | some w =>
      have := hk _ _ _ _ _ _ hpu ρ' T'.heap (locs ++ L9) ls (by omega) hn2 (fun q hq => (hρ q (by omega)).trans (hX q hq)) hW1 hS1 hext.2
      rw [List.map_cons, hext.1] at this
      exact this
  rw [show n - n0 + (nf' - n) = nf' - n0 by omega, show am_sl n - am_sl n0 + (am_sl nf' - am_sl n) = am_sl nf' - am_sl n0 by omega] at X'
  obtain ⟨t2, a1, b1⟩ := key T' rfl X'
  exact ⟨t2, st t2 a1, b1⟩
theorem am_c0 {x d i q nf' : Nat} {tl sr : List Value} {Cn : am_C} (hC : am_Cx p R s m args c cc own D z A H0 nL n0 nf P X ρ0) (hM : am_Met d x Cn) (hRf : d + 1 ≤ R.frames) (hRl : 64 * (d + 1) ≤ R.locals) (hw : .methodLink own i (am_y x) ∈ am_tb) (hkd : am_kd x = 0) (hnp : tl.length = am_np x) (hq : am_al P n q = true) (hq2 : am_knd q = am_ci x) (hs : Nat.ble sr.length 4 = true) (hn1 : n ≤ nf') (hn2 : n ≤ nf → nf' ≤ nf) (hok : nf' = n ∨ (am_okS n sr = true ∧ am_okL n L = true)) (hd : decode cc pc = .ok (.invokevirtual i, 3)) (h : Cn (.ref q :: tl) n σ τ nf' (am_push (pc + 3) L sr nf' k)) (hk : ∀ pc L st n σ τ, k pc L st n σ τ → am_Wb p l e R s m args below meth c Q D z A H0 nL n0 nf X ρ0 pc L st n σ τ) : am_Wb p l e R s m args below meth c Q D z A H0 nL n0 nf X ρ0 pc L ((.ref q :: tl).reverse ++ sr) n σ τ := by
  intro ρ H locs ls h0 h1 hX hW hS hl
  obtain ⟨hP, hD, hT⟩ := id hW
  have hn2 := hn2 h1
  have h1000 : nf ≤ 1000 := hC.2.2.2.2.2.2.2.2.2.2
  obtain ⟨hF, hMet⟩ := hM l D z ρ (.ref q :: tl) n nf' σ τ (am_push (pc + 3) L sr nf' k) H.size hn1 (by omega) h
  have hm1 := am_sl_mono h0
  have hm2 := am_sl_mono hn1
  have hm3 := am_sl_mono hn2
  have hroom : n - n0 + (nf' - n) ≤ R.cells ∧ am_sl n - am_sl n0 + (am_sl nf' - am_sl n) ≤ R.slots := by have g1 := hC.2.2.2.2.2.2.2.1.1; have g2 := hC.2.2.2.2.2.2.2.1.2.1; omega
  have hR : (am_rm d n nf').frames + 1 ≤ R.frames ∧ 8 + (am_mL x + 11) + (am_rm d n nf').locals ≤ R.locals := by
    have g := hF.2.2.2.1
    show d + 1 ≤ R.frames ∧ 8 + (am_mL x + 11) + 64 * d ≤ R.locals
    omega
  have hfix : CallFix p m c cc nL s args am_tb own := ⟨hC.1, hC.2.1, hC.2.2.1, hC.2.2.2.1, hC.2.2.2.2.1⟩
  have hini := hC.2.2.2.2.1 _ hF.2.1
  have hcb := callB_of (rm := am_rm d n nf') (R := R) (own := own) (index := i) (am_np x) hC.2.2.2.2.1 (am_good hF) rfl rfl rfl hini (hC.2.2.2.2.1 _ hw) hF.2.2.1 hR
  obtain ⟨f1, f2, f3, f4⟩ := hF.2.2.2.2.1 hkd
  have hqn : q < n := am_al_lt hq (Nat.le_trans hC.2.2.2.2.2.2.2.2.2.1 h0)
  have hrec : ∃ cellB : Cell, H[ρ q]? = some cellB ∧ cellB.vm.isStatics = false ∧ s.vm.findClass (am_y x).cls = some cellB.cls := by
    rw [f3]
    exact va_recv hC.2.2.2.2.2.1 hP (am_cls f4).1 (by rw [am_ws_get hqn, am_cell_o hq2 f4])
  have hrun := va_runV (l := l) (e := e) (below := below) (meth := meth) (locs := locs) (cells := n - n0) (slots := am_sl n - am_sl n0) (As := tl.map (am_cv ρ)) (rest := sr.map (am_cv ρ)) (b := ρ q) (C := (am_y x).cls) (g := F0 m pc ls (((Value.ref q :: tl).reverse ++ sr).map (am_cv ρ))) hfix hMet ⟨hcb, hC.2.2.2.2.1 _ f1, hC.2.2.2.2.1 _ f2⟩ ⟨am_blind, hrec, fun U hU hU2 => ⟨rfl, by rw [hU], by rw [hU]; exact ⟨hP, hD.weaken (fun _ _ _ _ => trivial), hT⟩, va_K.moved hU2.alike hC.2.2.2.2.2.1, (am_Bw.of hC.2.2.2.2.1).warm hU2⟩⟩ rfl (by rw [List.length_map]; exact hnp) hl.1 (by simp [am_cv]) (lv_room (am_cats hs)) hd hroom
  exact am_fin hC h0 h1 hX hW hS hl hn1 hn2 hok hrun (fun _ _ _ h9 => h9) hk
theorem am_c1 {x d i q nf' : Nat} {tl sr : List Value} {Cn : am_C} (hC : am_Cx p R s m args c cc own D z A H0 nL n0 nf P X ρ0) (hM : am_Met d x Cn) (hRf : d + 1 ≤ R.frames) (hRl : 64 * (d + 1) ≤ R.locals) (hw : .methodLink own i (am_y x) ∈ am_tb) (hkd : am_kd x = 1) (hnp : tl.length = am_np x) (hs : Nat.ble sr.length 4 = true) (hn1 : n ≤ nf') (hn2 : n ≤ nf → nf' ≤ nf) (hok : nf' = n ∨ (am_okS n sr = true ∧ am_okL n L = true)) (hd : decode cc pc = .ok (.invokestatic i, 3)) (h : Cn tl n σ τ nf' (am_push (pc + 3) L sr nf' k)) (hk : ∀ pc L st n σ τ, k pc L st n σ τ → am_Wb p l e R s m args below meth c Q D z A H0 nL n0 nf X ρ0 pc L st n σ τ) : am_Wb p l e R s m args below meth c Q D z A H0 nL n0 nf X ρ0 pc L (tl.reverse ++ sr) n σ τ := by
  intro ρ H locs ls h0 h1 hX hW hS hl
  obtain ⟨hP, hD, hT⟩ := id hW
  have hn2 := hn2 h1
  have h1000 : nf ≤ 1000 := hC.2.2.2.2.2.2.2.2.2.2
  obtain ⟨hF, hMet⟩ := hM l D z ρ tl n nf' σ τ (am_push (pc + 3) L sr nf' k) H.size hn1 (by omega) h
  have hm1 := am_sl_mono h0
  have hm2 := am_sl_mono hn1
  have hm3 := am_sl_mono hn2
  have hroom : n - n0 + (nf' - n) ≤ R.cells ∧ am_sl n - am_sl n0 + (am_sl nf' - am_sl n) ≤ R.slots := by have g1 := hC.2.2.2.2.2.2.2.1.1; have g2 := hC.2.2.2.2.2.2.2.1.2.1; omega
  have hR : (am_rm d n nf').frames + 1 ≤ R.frames ∧ 8 + (am_mL x + 11) + (am_rm d n nf').locals ≤ R.locals := by
    have g := hF.2.2.2.1
    show d + 1 ≤ R.frames ∧ 8 + (am_mL x + 11) + 64 * d ≤ R.locals
    omega
  have hfix : CallFix p m c cc nL s args am_tb own := ⟨hC.1, hC.2.1, hC.2.2.1, hC.2.2.2.1, hC.2.2.2.2.1⟩
  have hini := hC.2.2.2.2.1 _ hF.2.1
  have hcb := callB_of (rm := am_rm d n nf') (R := R) (own := own) (index := i) (am_np x) hC.2.2.2.2.1 (am_good hF) rfl rfl rfl hini (hC.2.2.2.2.1 _ hw) hF.2.2.1 hR
  have f1 := hF.2.2.2.2.2.1 hkd
  have hrun := va_runS (l := l) (e := e) (below := below) (meth := meth) (locs := locs) (cells := n - n0) (slots := am_sl n - am_sl n0) (As := tl.map (am_cv ρ)) (rest := sr.map (am_cv ρ)) (g := F0 m pc ls ((tl.reverse ++ sr).map (am_cv ρ))) hfix hMet ⟨hcb, hC.2.2.2.2.1 _ f1⟩ ⟨am_blind, fun U hU hU2 => ⟨rfl, by rw [hU], by rw [hU]; exact ⟨hP, hD.weaken (fun _ _ _ _ => trivial), hT⟩, va_K.moved hU2.alike hC.2.2.2.2.2.1, (am_Bw.of hC.2.2.2.2.1).warm hU2⟩⟩ rfl (by rw [List.length_map]; exact hnp) hl.1 (by simp [am_cv]) (lv_room (am_cats hs)) hd hroom
  exact am_fin hC h0 h1 hX hW hS hl hn1 hn2 hok hrun (fun _ _ _ h9 => h9) hk
theorem am_c2 {x d i q nf' : Nat} {tl sr : List Value} {Cn : am_C} (hC : am_Cx p R s m args c cc own D z A H0 nL n0 nf P X ρ0) (hM : am_Met d x Cn) (hRf : d + 1 ≤ R.frames) (hRl : 64 * (d + 1) ≤ R.locals) (hw : .methodLink own i (am_y x) ∈ am_tb) (hkd : am_kd x = 2) (hnp : tl.length = am_np x) (hs : Nat.ble sr.length 4 = true) (hn1 : n ≤ nf') (hn2 : n ≤ nf → nf' ≤ nf) (hok : nf' = n ∨ (am_okS n sr = true ∧ am_okL n L = true)) (hd : decode cc pc = .ok (.invokespecial i, 3)) (h : Cn (.ref q :: tl) n σ τ nf' (am_push (pc + 3) L sr nf' k)) (hk : ∀ pc L st n σ τ, k pc L st n σ τ → am_Wb p l e R s m args below meth c Q D z A H0 nL n0 nf X ρ0 pc L st n σ τ) : am_Wb p l e R s m args below meth c Q D z A H0 nL n0 nf X ρ0 pc L ((.ref q :: tl).reverse ++ sr) n σ τ := by
  intro ρ H locs ls h0 h1 hX hW hS hl
  obtain ⟨hP, hD, hT⟩ := id hW
  have hn2 := hn2 h1
  have h1000 : nf ≤ 1000 := hC.2.2.2.2.2.2.2.2.2.2
  obtain ⟨hF, hMet⟩ := hM l D z ρ (.ref q :: tl) n nf' σ τ (am_push (pc + 3) L sr nf' k) H.size hn1 (by omega) h
  have hm1 := am_sl_mono h0
  have hm2 := am_sl_mono hn1
  have hm3 := am_sl_mono hn2
  have hroom : n - n0 + (nf' - n) ≤ R.cells ∧ am_sl n - am_sl n0 + (am_sl nf' - am_sl n) ≤ R.slots := by have g1 := hC.2.2.2.2.2.2.2.1.1; have g2 := hC.2.2.2.2.2.2.2.1.2.1; omega
  have hR : (am_rm d n nf').frames + 1 ≤ R.frames ∧ 8 + (am_mL x + 11) + (am_rm d n nf').locals ≤ R.locals := by
    have g := hF.2.2.2.1
    show d + 1 ≤ R.frames ∧ 8 + (am_mL x + 11) + 64 * d ≤ R.locals
    omega
  have hfix : CallFix p m c cc nL s args am_tb own := ⟨hC.1, hC.2.1, hC.2.2.1, hC.2.2.2.1, hC.2.2.2.2.1⟩
  have hini := hC.2.2.2.2.1 _ hF.2.1
  have hcb := callB_of (rm := am_rm d n nf') (R := R) (own := own) (index := i) (am_np x) hC.2.2.2.2.1 (am_good hF) rfl rfl rfl hini (hC.2.2.2.2.1 _ hw) hF.2.2.1 hR
  obtain ⟨f1, f2, f3⟩ := hF.2.2.2.2.2.2 hkd
  rw [f3] at hcb
  have hrun := va_runI (l := l) (e := e) (below := below) (meth := meth) (locs := locs) (cells := n - n0) (slots := am_sl n - am_sl n0) (As := tl.map (am_cv ρ)) (rest := sr.map (am_cv ρ)) (b := ρ q) (g := F0 m pc ls (((Value.ref q :: tl).reverse ++ sr).map (am_cv ρ))) hfix hMet ⟨hcb, f1, hC.2.2.2.2.1 _ f2⟩ ⟨am_blind, fun U hU hU2 => ⟨rfl, by rw [hU], by rw [hU]; exact ⟨hP, hD.weaken (fun _ _ _ _ => trivial), hT⟩, va_K.moved hU2.alike hC.2.2.2.2.2.1, (am_Bw.of hC.2.2.2.2.1).warm hU2⟩⟩ rfl (by rw [List.length_map]; exact hnp) hl.1 (by simp [am_cv]) (lv_room (am_cats hs)) hd hroom
  exact am_fin hC h0 h1 hX hW hS hl hn1 hn2 hok hrun (fun _ _ _ h9 => h9) hk
theorem am_c1n {x d i q nf' : Nat} {tl sr : List Value} {Cn : am_C} (hC : am_Cx p R s m args c cc own D z A H0 nL n0 nf P X ρ0) (hM : am_Met d x Cn) (hRf : d + 1 ≤ R.frames) (hRl : 64 * (d + 1) ≤ R.locals) (hw : .methodLinkNest own i (am_y x) "CanalEnd" ∈ am_tb) (hkd : am_kd x = 1) (hnp : tl.length = am_np x) (hs : Nat.ble sr.length 4 = true) (hn1 : n ≤ nf') (hn2 : n ≤ nf → nf' ≤ nf) (hok : nf' = n ∨ (am_okS n sr = true ∧ am_okL n L = true)) (hd : decode cc pc = .ok (.invokestatic i, 3)) (h : Cn tl n σ τ nf' (am_push (pc + 3) L sr nf' k)) (hk : ∀ pc L st n σ τ, k pc L st n σ τ → am_Wb p l e R s m args below meth c Q D z A H0 nL n0 nf X ρ0 pc L st n σ τ) : am_Wb p l e R s m args below meth c Q D z A H0 nL n0 nf X ρ0 pc L (tl.reverse ++ sr) n σ τ := by
  intro ρ H locs ls h0 h1 hX hW hS hl
  obtain ⟨hP, hD, hT⟩ := id hW
  have hn2 := hn2 h1
  have h1000 : nf ≤ 1000 := hC.2.2.2.2.2.2.2.2.2.2
  obtain ⟨hF, hMet⟩ := hM l D z ρ tl n nf' σ τ (am_push (pc + 3) L sr nf' k) H.size hn1 (by omega) h
  have hm1 := am_sl_mono h0
  have hm2 := am_sl_mono hn1
  have hm3 := am_sl_mono hn2
  have hroom : n - n0 + (nf' - n) ≤ R.cells ∧ am_sl n - am_sl n0 + (am_sl nf' - am_sl n) ≤ R.slots := by have g1 := hC.2.2.2.2.2.2.2.1.1; have g2 := hC.2.2.2.2.2.2.2.1.2.1; omega
  have hR : (am_rm d n nf').frames + 1 ≤ R.frames ∧ 8 + (am_mL x + 11) + (am_rm d n nf').locals ≤ R.locals := by
    have g := hF.2.2.2.1
    show d + 1 ≤ R.frames ∧ 8 + (am_mL x + 11) + 64 * d ≤ R.locals
    omega
  have hfix : CallFix p m c cc nL s args am_tb own := ⟨hC.1, hC.2.1, hC.2.2.1, hC.2.2.2.1, hC.2.2.2.2.1⟩
  have hini := hC.2.2.2.2.1 _ hF.2.1
  have hcb := va_cnB (rm := am_rm d n nf') (R := R) (own := own) (index := i) (host := "CanalEnd") (args := args) (am_np x) hC.2.2.2.2.1 (am_good hF) rfl rfl rfl (va_Nw.of (by rfl) (hC.2.2.2.2.1 _ hw)) hini hF.2.2.1 hR
  have f1 := hF.2.2.2.2.2.1 hkd
  have hrun := va_runSN (l := l) (e := e) (below := below) (meth := meth) (locs := locs) (cells := n - n0) (slots := am_sl n - am_sl n0) (As := tl.map (am_cv ρ)) (rest := sr.map (am_cv ρ)) (g := F0 m pc ls ((tl.reverse ++ sr).map (am_cv ρ))) hfix hMet ⟨hcb, hC.2.2.2.2.1 _ f1, trivial⟩ ⟨am_blind, fun U hU hU2 => ⟨rfl, by rw [hU], by rw [hU]; exact ⟨hP, hD.weaken (fun _ _ _ _ => trivial), hT⟩, va_K.moved hU2.alike hC.2.2.2.2.2.1, (am_Bw.of hC.2.2.2.2.1).warm hU2⟩⟩ rfl (by rw [List.length_map]; exact hnp) hl.1 (by simp [am_cv]) (lv_room (am_cats hs)) hd hroom
  exact am_fin hC h0 h1 hX hW hS hl hn1 hn2 hok hrun (fun _ _ _ h9 => h9) hk
theorem am_c2n {x d i q nf' : Nat} {tl sr : List Value} {Cn : am_C} (hC : am_Cx p R s m args c cc own D z A H0 nL n0 nf P X ρ0) (hM : am_Met d x Cn) (hRf : d + 1 ≤ R.frames) (hRl : 64 * (d + 1) ≤ R.locals) (hw : .methodLinkNest own i (am_y x) "CanalEnd" ∈ am_tb) (hkd : am_kd x = 2) (hnp : tl.length = am_np x) (hs : Nat.ble sr.length 4 = true) (hn1 : n ≤ nf') (hn2 : n ≤ nf → nf' ≤ nf) (hok : nf' = n ∨ (am_okS n sr = true ∧ am_okL n L = true)) (hd : decode cc pc = .ok (.invokespecial i, 3)) (h : Cn (.ref q :: tl) n σ τ nf' (am_push (pc + 3) L sr nf' k)) (hk : ∀ pc L st n σ τ, k pc L st n σ τ → am_Wb p l e R s m args below meth c Q D z A H0 nL n0 nf X ρ0 pc L st n σ τ) : am_Wb p l e R s m args below meth c Q D z A H0 nL n0 nf X ρ0 pc L ((.ref q :: tl).reverse ++ sr) n σ τ := by
  intro ρ H locs ls h0 h1 hX hW hS hl
  obtain ⟨hP, hD, hT⟩ := id hW
  have hn2 := hn2 h1
  have h1000 : nf ≤ 1000 := hC.2.2.2.2.2.2.2.2.2.2
  obtain ⟨hF, hMet⟩ := hM l D z ρ (.ref q :: tl) n nf' σ τ (am_push (pc + 3) L sr nf' k) H.size hn1 (by omega) h
  have hm1 := am_sl_mono h0
  have hm2 := am_sl_mono hn1
  have hm3 := am_sl_mono hn2
  have hroom : n - n0 + (nf' - n) ≤ R.cells ∧ am_sl n - am_sl n0 + (am_sl nf' - am_sl n) ≤ R.slots := by have g1 := hC.2.2.2.2.2.2.2.1.1; have g2 := hC.2.2.2.2.2.2.2.1.2.1; omega
  have hR : (am_rm d n nf').frames + 1 ≤ R.frames ∧ 8 + (am_mL x + 11) + (am_rm d n nf').locals ≤ R.locals := by
    have g := hF.2.2.2.1
    show d + 1 ≤ R.frames ∧ 8 + (am_mL x + 11) + 64 * d ≤ R.locals
    omega
  have hfix : CallFix p m c cc nL s args am_tb own := ⟨hC.1, hC.2.1, hC.2.2.1, hC.2.2.2.1, hC.2.2.2.2.1⟩
  have hini := hC.2.2.2.2.1 _ hF.2.1
  have hcb := va_cnB (rm := am_rm d n nf') (R := R) (own := own) (index := i) (host := "CanalEnd") (args := args) (am_np x) hC.2.2.2.2.1 (am_good hF) rfl rfl rfl (va_Nw.of (by rfl) (hC.2.2.2.2.1 _ hw)) hini hF.2.2.1 hR
  obtain ⟨f1, f2, f3⟩ := hF.2.2.2.2.2.2 hkd
  rw [f3] at hcb
  have hrun := va_runIN (l := l) (e := e) (below := below) (meth := meth) (locs := locs) (cells := n - n0) (slots := am_sl n - am_sl n0) (As := tl.map (am_cv ρ)) (rest := sr.map (am_cv ρ)) (b := ρ q) (g := F0 m pc ls (((Value.ref q :: tl).reverse ++ sr).map (am_cv ρ))) hfix hMet ⟨hcb, f1, hC.2.2.2.2.1 _ f2⟩ ⟨am_blind, fun U hU hU2 => ⟨rfl, by rw [hU], by rw [hU]; exact ⟨hP, hD.weaken (fun _ _ _ _ => trivial), hT⟩, va_K.moved hU2.alike hC.2.2.2.2.2.1, (am_Bw.of hC.2.2.2.2.1).warm hU2⟩⟩ rfl (by rw [List.length_map]; exact hnp) hl.1 (by simp [am_cv]) (lv_room (am_cats hs)) hd hroom
  exact am_fin hC h0 h1 hX hW hS hl hn1 hn2 hok hrun (fun _ _ _ h9 => h9) hk
theorem am_m23 {q i : Nat} {r : List Value} (hC : am_Cx p R s m args c cc own D z A H0 nL n0 nf P X ρ0) (hw : .methodLink own i objectInit ∈ am_tb) (hw2 : .instanceMethod objectInit ∈ am_tb) (hw3 : .code objectInit ⟨#[0xb1]⟩ 1 none ∈ am_tb) (hs : Nat.ble r.length 4 = true) (hd : decode cc pc = .ok (.invokespecial i, 3)) (h : k (pc + 3) L r n σ τ) (hk : ∀ pc L st n σ τ, k pc L st n σ τ → am_Wb p l e R s m args below meth c Q D z A H0 nL n0 nf X ρ0 pc L st n σ τ) : am_Wb p l e R s m args below meth c Q D z A H0 nL n0 nf X ρ0 pc L (.ref q :: r) n σ τ := by
  intro ρ H locs ls h0 h1 hX hW hS hl
  have hlo : 2 * (F0 m pc ls ((Value.ref q :: r).map (am_cv ρ))).monitorRoom + ((r.map (am_cv ρ)).map fun v => v.category).sum ≤ 8 := lv_room (am_cats hs)
  have g := hC.2.2.2.2.2.2.2.1
  exact W.objInit hC.1 hC.2.1 hC.2.2.2.1 (hC.2.2.2.2.1 _ hw) (hC.2.2.2.2.1 _ hw2) (hC.2.2.2.2.1 _ hw3) rfl (by rw [hC.2.2.1]; exact hl.1) rfl hd g.2.2.1 (by omega) (hk _ _ _ _ _ _ h ρ H locs ls h0 h1 hX hW hS hl)
theorem am_m24 {q0 q1 i x : Nat} {sp dp ln : Int32} {r : List Value} (hC : am_Cx p R s m args c cc own D z A H0 nL n0 nf P X ρ0) (hx : x = 10 ∨ x = 11) (hw : .methodLink own i arraycopyName ∈ am_tb) (hw2 : .native arraycopyName ∈ am_tb) (hw3 : .static arraycopyName ∈ am_tb) (hw4 : .initialized "java/lang/System" ∈ am_tb) (hq0 : am_al P n q0 = true) (hk0 : am_knd q0 = x) (hq1 : am_al P n q1 = true) (hk1 : am_knd q1 = x) (hs : Nat.ble r.length 4 = true) (g1 : ¬ sp < 0) (g2 : ¬ dp < 0) (g3 : ¬ ln < 0) (g4 : sp.toNatClampNeg + ln.toNatClampNeg ≤ am_len q0) (g5 : dp.toNatClampNeg + ln.toNatClampNeg ≤ am_len q1) (g6 : x = 11 → ∀ j, j < ln.toNatClampNeg → σ q0 (sp.toNatClampNeg + j) = 0 ∨ σ q0 (sp.toNatClampNeg + j) = 1) (hd : decode cc pc = .ok (.invokestatic i, 3)) (h : k (pc + 3) L r n (am_cp σ q0 q1 sp.toNatClampNeg dp.toNatClampNeg ln.toNatClampNeg) τ) (hk : ∀ pc L st n σ τ, k pc L st n σ τ → am_Wb p l e R s m args below meth c Q D z A H0 nL n0 nf X ρ0 pc L st n σ τ) : am_Wb p l e R s m args below meth c Q D z A H0 nL n0 nf X ρ0 pc L (.int ln :: .int dp :: .ref q1 :: .int sp :: .ref q0 :: r) n σ τ := by
  intro ρ H locs ls h0 h1 hX hW hS hl
  obtain ⟨hP, hD, hT⟩ := id hW
  have hn0 : q0 < n := am_al_lt hq0 (Nat.le_trans hC.2.2.2.2.2.2.2.2.2.1 h0)
  have hn1 : q1 < n := am_al_lt hq1 (Nat.le_trans hC.2.2.2.2.2.2.2.2.2.1 h0)
  have g := hC.2.2.2.2.2.2.2.1
  have hca := am_cats (ρ := ρ) hs
  have e0 : nativeFrameWords "java/lang/System" "arraycopy" 5 = 7 := by decide
  have self : am_cp σ q0 q1 sp.toNatClampNeg dp.toNatClampNeg ln.toNatClampNeg q1 = va_cpy (σ q0) (σ q1) sp.toNatClampNeg dp.toNatClampNeg ln.toNatClampNeg := by
    funext j
    unfold am_cp
    rw [show Nat.beq q1 q1 = true from Nat.beq_refl q1]
    rfl
  have oth : ∀ q9, ¬ q9 = q1 → am_cp σ q0 q1 sp.toNatClampNeg dp.toNatClampNeg ln.toNatClampNeg q9 = σ q9 := by
    intro q9 h9
    funext j
    unfold am_cp
    rw [show Nat.beq q9 q1 = false from Bool.eq_false_iff.mpr (fun z => h9 (Nat.eq_of_beq_eq_true z))]
    rfl
  rcases hx with rfl | rfl
  · refine va_copyi (D := D) (ty := .int) hC.1 hC.2.1 (hC.2.2.1.trans hl.1.symm) hC.2.2.2.1 (hC.2.2.2.2.1 _ hw) (hC.2.2.2.2.1 _ hw2) (hC.2.2.2.2.1 _ hw3) (hC.2.2.2.2.1 _ hw4) hC.2.2.2.2.2.1 hP hD hS q0 q1 0 0 (by rw [am_ws_get hn0, am_cell_i hk0]) (by rw [am_ws_get hn1, am_cell_i hk1]) rfl rfl rfl g1 g2 g3 g4 g5 (fun _ _ => rfl) g.2.2.1 (by rw [e0]; omega) hd (fun H1 locs1 hP1 hD1 hS1 => ?_)
    have e := am_ws_set (z := z) (ρ := ρ) (n := n) (q := q1) (σ := σ) (σ' := am_cp σ q0 q1 sp.toNatClampNeg dp.toNatClampNeg ln.toNatClampNeg) (τ := τ) (τ' := τ) (by rw [am_cell_i hk1, self]) (fun q9 hq9 => am_cell_cong (oth q9 hq9) (fun _ => rfl))
    rw [e] at hP1 hD1
    exact hk _ _ _ _ _ _ h ρ H1 locs1 ls h0 h1 hX ⟨hP1, hD1, hT⟩ hS1 hl
  · refine va_copyi (D := D) (ty := .boolean) hC.1 hC.2.1 (hC.2.2.1.trans hl.1.symm) hC.2.2.2.1 (hC.2.2.2.2.1 _ hw) (hC.2.2.2.2.1 _ hw2) (hC.2.2.2.2.1 _ hw3) (hC.2.2.2.2.1 _ hw4) hC.2.2.2.2.2.1 hP hD hS q0 q1 1 1 (by rw [am_ws_get hn0, am_cell_z hk0]) (by rw [am_ws_get hn1, am_cell_z hk1]) rfl rfl rfl g1 g2 g3 g4 g5 (fun j hj => by rcases g6 rfl j hj with e9 | e9 <;> rw [e9] <;> rfl) g.2.2.1 (by rw [e0]; omega) hd (fun H1 locs1 hP1 hD1 hS1 => ?_)
    have e := am_ws_set (z := z) (ρ := ρ) (n := n) (q := q1) (σ := σ) (σ' := am_cp σ q0 q1 sp.toNatClampNeg dp.toNatClampNeg ln.toNatClampNeg) (τ := τ) (τ' := τ) (by rw [am_cell_z hk1, self]) (fun q9 hq9 => am_cell_cong (oth q9 hq9) (fun _ => rfl))
    rw [e] at hP1 hD1
    exact hk _ _ _ _ _ _ h ρ H1 locs1 ls h0 h1 hX ⟨hP1, hD1, hT⟩ hS1 hl
theorem am_m33 {i : Nat} {v w : Int32} {r : List Value} (hC : am_Cx p R s m args c cc own D z A H0 nL n0 nf P X ρ0) (hw : .methodLink own i Lib.Math.max.name ∈ am_tb) (hw2 : .static Lib.Math.max.name ∈ am_tb) (hw3 : .initialized "java/lang/Math" ∈ am_tb) (hw4 : .code Lib.Math.max.name Lib.Math.max.code 2 (some .int) ∈ am_tb) (hs : Nat.ble r.length 4 = true) (hd : decode cc pc = .ok (.invokestatic i, 3)) (h : k (pc + 3) L (.int (if v < w then w else v) :: r) n σ τ) (hk : ∀ pc L st n σ τ, k pc L st n σ τ → am_Wb p l e R s m args below meth c Q D z A H0 nL n0 nf X ρ0 pc L st n σ τ) : am_Wb p l e R s m args below meth c Q D z A H0 nL n0 nf X ρ0 pc L (.int w :: .int v :: r) n σ τ := by
  intro ρ H locs ls h0 h1 hX hW hS hl
  have g := hC.2.2.2.2.2.2.2.1
  have hca := am_cats (ρ := ρ) hs
  have hm1 := am_sl_mono h0
  have hm2 := am_sl_mono h1
  exact va_mmax hC.1 hC.2.1 (hC.2.2.1.trans hl.1.symm) hC.2.2.2.1 (hC.2.2.2.2.1 _ hw) (hC.2.2.2.2.1 _ hw2) (hC.2.2.2.2.1 _ hw3) (hC.2.2.2.2.1 _ hw4) g.2.2.1 (by omega) (by omega) (by omega) hd (hk _ _ _ _ _ _ h ρ H locs ls h0 h1 hX hW hS hl)
theorem am_m34 {i : Nat} {v w : Int32} {r : List Value} (hC : am_Cx p R s m args c cc own D z A H0 nL n0 nf P X ρ0) (hw : .methodLink own i Lib.Math.min.name ∈ am_tb) (hw2 : .static Lib.Math.min.name ∈ am_tb) (hw3 : .initialized "java/lang/Math" ∈ am_tb) (hw4 : .code Lib.Math.min.name Lib.Math.min.code 2 (some .int) ∈ am_tb) (hs : Nat.ble r.length 4 = true) (hd : decode cc pc = .ok (.invokestatic i, 3)) (h : k (pc + 3) L (.int (if w < v then w else v) :: r) n σ τ) (hk : ∀ pc L st n σ τ, k pc L st n σ τ → am_Wb p l e R s m args below meth c Q D z A H0 nL n0 nf X ρ0 pc L st n σ τ) : am_Wb p l e R s m args below meth c Q D z A H0 nL n0 nf X ρ0 pc L (.int w :: .int v :: r) n σ τ := by
  intro ρ H locs ls h0 h1 hX hW hS hl
  have g := hC.2.2.2.2.2.2.2.1
  have hca := am_cats (ρ := ρ) hs
  have hm1 := am_sl_mono h0
  have hm2 := am_sl_mono h1
  exact va_mmin hC.1 hC.2.1 (hC.2.2.1.trans hl.1.symm) hC.2.2.2.1 (hC.2.2.2.2.1 _ hw) (hC.2.2.2.2.1 _ hw2) (hC.2.2.2.2.1 _ hw3) (hC.2.2.2.2.1 _ hw4) g.2.2.1 (by omega) (by omega) (by omega) hd (hk _ _ _ _ _ _ h ρ H locs ls h0 h1 hX hW hS hl)
theorem am_m35 {i : Nat} {v : Int32} {r : List Value} (hC : am_Cx p R s m args c cc own D z A H0 nL n0 nf P X ρ0) (hw : .methodLink own i Lib.Math.abs.name ∈ am_tb) (hw2 : .static Lib.Math.abs.name ∈ am_tb) (hw3 : .initialized "java/lang/Math" ∈ am_tb) (hw4 : .code Lib.Math.abs.name Lib.Math.abs.code 1 (some .int) ∈ am_tb) (hs : Nat.ble r.length 4 = true) (hd : decode cc pc = .ok (.invokestatic i, 3)) (h : k (pc + 3) L (.int (if 0 ≤ v then v else 0 - v) :: r) n σ τ) (hk : ∀ pc L st n σ τ, k pc L st n σ τ → am_Wb p l e R s m args below meth c Q D z A H0 nL n0 nf X ρ0 pc L st n σ τ) : am_Wb p l e R s m args below meth c Q D z A H0 nL n0 nf X ρ0 pc L (.int v :: r) n σ τ := by
  intro ρ H locs ls h0 h1 hX hW hS hl
  have g := hC.2.2.2.2.2.2.2.1
  have hca := am_cats (ρ := ρ) hs
  have hm1 := am_sl_mono h0
  have hm2 := am_sl_mono h1
  exact va_mabs hC.1 hC.2.1 (hC.2.2.1.trans hl.1.symm) hC.2.2.2.1 (hC.2.2.2.2.1 _ hw) (hC.2.2.2.2.1 _ hw2) (hC.2.2.2.2.1 _ hw3) (hC.2.2.2.2.1 _ hw4) g.2.2.1 (by omega) (by omega) (by omega) hd (hk _ _ _ _ _ _ h ρ H locs ls h0 h1 hX hW hS hl)
theorem am_m29 {i : Int32} {r : List Value} (hC : am_Cx p R s m args c cc own D z A H0 nL n0 nf P X ρ0) (hX1 : X.1 = true) (hin : vp_in i X.2.1) (hd : decode cc pc = .ok (.iaload, 1)) (h : k (pc + 1) L (.int (X.2.2 i.toNatClampNeg) :: r) n σ τ) (hk : ∀ pc L st n σ τ, k pc L st n σ τ → am_Wb p l e R s m args below meth c Q D z A H0 nL n0 nf X ρ0 pc L st n σ τ) : am_Wb p l e R s m args below meth c Q D z A H0 nL n0 nf X ρ0 pc L (.int i :: .ref 1000 :: r) n σ τ := by
  intro ρ H locs ls h0 h1 hX hW hS hl
  obtain ⟨g1, g2, g3⟩ := hC.2.2.2.2.2.2.2.2.1 hX1
  show W p l e R s m args below meth c H locs _ _ Q (F0 m pc ls (.int i :: .ref (ρ 1000) :: r.map (am_cv ρ)))
  rw [hX 1000 (Or.inr hC.2.2.2.2.2.2.2.2.2.2)]
  exact va_sld hC.1 hC.2.1 g1 g2 g3 hS hin hd (hk _ _ _ _ _ _ h ρ H locs ls h0 h1 hX hW hS hl)
theorem am_m30 {r : List Value} (hC : am_Cx p R s m args c cc own D z A H0 nL n0 nf P X ρ0) (hX1 : X.1 = true) (hd : decode cc pc = .ok (.arraylength, 1)) (h : k (pc + 1) L (.int (nI X.2.1) :: r) n σ τ) (hk : ∀ pc L st n σ τ, k pc L st n σ τ → am_Wb p l e R s m args below meth c Q D z A H0 nL n0 nf X ρ0 pc L st n σ τ) : am_Wb p l e R s m args below meth c Q D z A H0 nL n0 nf X ρ0 pc L (.ref 1000 :: r) n σ τ := by
  intro ρ H locs ls h0 h1 hX hW hS hl
  obtain ⟨g1, g2, g3⟩ := hC.2.2.2.2.2.2.2.2.1 hX1
  show W p l e R s m args below meth c H locs _ _ Q (F0 m pc ls (.ref (ρ 1000) :: r.map (am_cv ρ)))
  rw [hX 1000 (Or.inr hC.2.2.2.2.2.2.2.2.2.2)]
  exact va_slen hC.1 hC.2.1 g1 g2 g3 hS hd (hk _ _ _ _ _ _ h ρ H locs ls h0 h1 hX hW hS hl)
end AMC
