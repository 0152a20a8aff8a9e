theorem am_and {a b : Bool} (h : (a && b) = true) : a = true ∧ b = true := by simpa using h
theorem am_chk_inv {own : String} {rt : Option FieldType} {kd : Nat} {cc : ByteArray} {pc : Nat} {ai : am_AI} (h : am_chk own rt kd cc pc ai = true) : decode cc pc = .ok (am_ins pc ai) ∧ ai.1 = pc + (am_ins pc ai).2 ∧ am_side own rt kd ai = true := by
  unfold am_chk at h
  obtain ⟨h1, h3⟩ := am_and h
  obtain ⟨h1, h2⟩ := am_and h1
  refine ⟨?_, Nat.eq_of_beq_eq_true h2, h3⟩
  revert h1
  cases hd : decode cc pc with
  | ok r => intro h1; rw [of_decide_eq_true h1]
  | error e => intro h1; exact absurd h1 Bool.false_ne_true
theorem am_fin4 {x : Nat} (h : Nat.blt x 4 = true) : ((Fin.ofNat 4 x : Fin 4) : Nat) = x := Nat.mod_eq_of_lt (Nat.blt_eq.mp h)
theorem am_fin2 {x : Nat} (h : Nat.blt x 2 = true) : ((Fin.ofNat 2 x : Fin 2) : Nat) = x := Nat.mod_eq_of_lt (Nat.blt_eq.mp h)
theorem am_not {b : Bool} (h : (!b) = true) : b = false := by simpa using h
theorem am_f1 : Cond.arrayClass .int ∈ am_tb := am_lk_mem (i := 156) (by decide +kernel)
theorem am_f2 : Cond.arrayClass .boolean ∈ am_tb := am_lk_mem (i := 289) (by decide +kernel)
theorem am_f3 : Cond.arrayOver (.object "CanalEnd$Sheet") ∈ am_tb := am_lk_mem (i := 306) (by decide +kernel)
theorem am_f4 : Cond.arrayOver (.array .int) ∈ am_tb := am_lk_mem (i := 237) (by decide +kernel)
theorem am_f5 : Cond.instanceMethod objectInit ∈ am_tb := am_lk_mem (i := 80) (by decide +kernel)
theorem am_f6 : Cond.code objectInit ⟨#[0xb1]⟩ 1 none ∈ am_tb := am_lk_mem (i := 81) (by decide +kernel)
theorem am_f7 : Cond.native arraycopyName ∈ am_tb := am_lk_mem (i := 446) (by decide +kernel)
theorem am_f8 : Cond.static arraycopyName ∈ am_tb := am_lk_mem (i := 445) (by decide +kernel)
theorem am_f9 : Cond.initialized "java/lang/System" ∈ am_tb := am_lk_mem (i := 71) (by decide +kernel)
theorem am_f10 : Cond.initialized "java/lang/Math" ∈ am_tb := am_lk_mem (i := 72) (by decide +kernel)
theorem am_f11 : Cond.static Lib.Math.max.name ∈ am_tb := am_lk_mem (i := 515) (by decide +kernel)
theorem am_f14 : Cond.code Lib.Math.max.name Lib.Math.max.code 2 (some .int) ∈ am_tb := am_lk_mem (i := 516) (by decide +kernel)
theorem am_f12 : Cond.static Lib.Math.min.name ∈ am_tb := am_lk_mem (i := 518) (by decide +kernel)
theorem am_f15 : Cond.code Lib.Math.min.name Lib.Math.min.code 2 (some .int) ∈ am_tb := am_lk_mem (i := 519) (by decide +kernel)
theorem am_f13 : Cond.static Lib.Math.abs.name ∈ am_tb := am_lk_mem (i := 545) (by decide +kernel)
theorem am_f16 : Cond.code Lib.Math.abs.name Lib.Math.abs.code 1 (some .int) ∈ am_tb := am_lk_mem (i := 546) (by decide +kernel)
theorem am_seq_len : ∀ (lo : Nat) (tg : List Nat), am_seq lo tg = true → tg.all (fun a => Nat.blt a 100000) = true → tg = [] ∨ lo + tg.length / 2 ≤ 100000
  | lo, a :: t :: r, h, h2 => by
    have g := am_and h
    have ha : a = lo := Nat.eq_of_beq_eq_true g.1
    have hb : a < 100000 := Nat.blt_eq.mp (List.all_eq_true.mp h2 a (by simp))
    rcases am_seq_len (lo + 1) r g.2 (List.all_eq_true.mpr fun x hx => List.all_eq_true.mp h2 x (by simp [hx])) with e | e
    · subst e
      right
      simp
      omega
    · right
      simp only [List.length_cons]
      omega
  | lo, [], h, h2 => Or.inl rfl
  | lo, [a], h, h2 => absurd h Bool.false_ne_true
theorem am_tgs_len : ∀ (tg : List Nat), (am_tgs tg).length ≤ tg.length
  | a :: t :: r => by
    have := am_tgs_len r
    simp [am_tgs]
    omega
  | [] => by simp [am_tgs]
  | [a] => by simp [am_tgs]
theorem am_prs_head (pc : Nat) : ∀ (a t : Nat) (r : List Nat), am_prs pc (a :: t :: r) = ((a : Int), (t : Int) - pc) :: am_prs pc r := fun _ _ _ => rfl
theorem am_inc_ok {pc : Nat} : ∀ (tg : List Nat), am_inc tg = true → ((am_prs pc tg).toArray.toList.zip ((am_prs pc tg).toArray.toList.drop 1)).all (fun (a, next) => a.1 < next.1) = true
  | a :: t :: b :: u :: r, h => by
    have g := am_and h
    have ih := am_inc_ok (pc := pc) (b :: u :: r) g.2
    have hab : a < b := Nat.blt_eq.mp g.1
    simp only [am_prs, List.drop_succ_cons, List.drop_zero, List.zip_cons_cons, List.all_cons, Bool.and_eq_true] at ih ⊢
    exact ⟨by simpa using hab, ih⟩
  | [a, t], h => by simp [am_prs]
  | [], h => by simp [am_prs]
  | [a], h => by simp [am_prs]
  | [a, b, c], h => absurd h Bool.false_ne_true

section AMD
variable {p : Program} {l : Launch} {e : Env} {R : Room} {s : State} {m : MethodId} {args : Array Value} {below : List Frame} {meth : Method} {c : Code} {Q : State → Prop} {cc : ByteArray} {own : String} {D : va_G} {z : am_Z} {A : Nat → Prop} {H0 : Heap} {nL n0 nf P : Nat} {X : am_X} {ρ0 : Nat → Nat} {pc nx : Nat} {L : am_L} {st : List Value} {n : Nat} {σ : am_Sg} {τ : am_Tu} {k : am_K}

def am_Rh (rt : Option FieldType) (cc : ByteArray) (r : am_Rt) (Wb : am_K) : Prop :=
  (rt = some .int → ∀ pc L v n σ τ, decode cc pc = .ok (.ireturn, 1) → r (some (.int v)) n σ τ → Wb pc L [.int v] n σ τ) ∧
  (rt = some .boolean → ∀ pc L v n σ τ, decode cc pc = .ok (.ireturn, 1) → (v = 0 ∨ v = 1) → r (some (.int v)) n σ τ → Wb pc L [.int v] n σ τ) ∧
  (rt = some .long → ∀ pc L v n σ τ, decode cc pc = .ok (.lreturn, 1) → r (some (.long v)) n σ τ → Wb pc L [.long v] n σ τ) ∧
  (rt = none → ∀ pc L n σ τ, decode cc pc = .ok (.return_, 1) → r none n σ τ → Wb pc L [] n σ τ)
theorem am_stM (hC : am_Cx p R s m args c cc own D z A H0 nL n0 nf P X ρ0) {Γ : Nat → am_C} {d kd : Nat} {rt : Option FieldType} {r : am_Rt} (hΓ : ∀ x, am_Met d x (Γ x)) (hRf : d + 1 ≤ R.frames) (hRl : 64 * (d + 1) ≤ R.locals) (hini : kd = 2 → meth.name = "<init>") (hret : am_Rh rt cc r (am_Wb p l e R s m args below meth c Q D z A H0 nL n0 nf X ρ0)) (hk : ∀ pc L st n σ τ, k pc L st n σ τ → am_Wb p l e R s m args below meth c Q D z A H0 nL n0 nf X ρ0 pc L st n σ τ) : ∀ (op x y nx : Nat) (c9 : Int32) (tg : List Nat) (lc : Int64), am_chk own rt kd cc pc (nx, op + 61, x, y, c9, tg, lc) = true → am_mem X Γ P nf nx op x y tg L st n σ τ k r → am_Wb p l e R s m args below meth c Q D z A H0 nL n0 nf X ρ0 pc L st n σ τ
  | 0, x, y, nx, c9, tg, lc, hch, h => by
    obtain ⟨hd, hnx, hs⟩ := am_chk_inv hch
    have hnx : nx = pc + 3 := hnx
    subst hnx
    have hs : (am_lk (.fieldLink own (tg.getD 0 0) (am_T x y).1 (am_T x y).2.1 (am_T x y).2.2.1) (tg.getD 1 0) && !am_isr x y && Nat.blt y (am_N x) && Nat.blt x 9) = true := hs
    obtain ⟨hs, s4⟩ := am_and hs
    obtain ⟨hs, s3⟩ := am_and hs
    obtain ⟨s1, s2⟩ := am_and hs
    obtain ⟨q, s9, rfl, h⟩ := am_rf_inv h
    obtain ⟨hg, h⟩ := am_gd_inv h
    obtain ⟨g1, g2⟩ := am_and hg
    exact am_m0 (w := 0) hC (Nat.blt_eq.mp s4) (Nat.blt_eq.mp s3) (am_not s2) hd (am_lk_mem s1) g1 (Nat.eq_of_beq_eq_true g2) h hk
  | 1, x, y, nx, c9, tg, lc, hch, h => by
    obtain ⟨hd, hnx, hs⟩ := am_chk_inv hch
    have hnx : nx = pc + 3 := hnx
    subst hnx
    have hs : (am_lk (.fieldLink own (tg.getD 0 0) (am_T x y).1 (am_T x y).2.1 (am_T x y).2.2.1) (tg.getD 1 0) && am_isr x y && Nat.blt y (am_N x) && Nat.blt x 9) = true := hs
    obtain ⟨hs, s4⟩ := am_and hs
    obtain ⟨hs, s3⟩ := am_and hs
    obtain ⟨s1, s2⟩ := am_and hs
    obtain ⟨q, s9, rfl, h⟩ := am_rf_inv h
    obtain ⟨hg, h⟩ := am_gd_inv h
    obtain ⟨g1, g2⟩ := am_and hg
    cases ht : τ q y with
    | zero => rw [ht] at h; exact am_m1n (w := 0) hC (Nat.blt_eq.mp s4) (Nat.blt_eq.mp s3) s2 hd (am_lk_mem s1) g1 (Nat.eq_of_beq_eq_true g2) ht h hk
    | succ w => rw [ht] at h; exact am_m1r hC (Nat.blt_eq.mp s4) (Nat.blt_eq.mp s3) s2 hd (am_lk_mem s1) g1 (Nat.eq_of_beq_eq_true g2) ht h hk
  | 2, x, y, nx, c9, tg, lc, hch, h => by
    obtain ⟨hd, hnx, hs⟩ := am_chk_inv hch
    have hnx : nx = pc + 3 := hnx
    subst hnx
    have hs : (am_lk (.fieldLinkNest own (tg.getD 0 0) (am_T x y).1 (am_T x y).2.1 (am_T x y).2.2.1 "CanalEnd") (tg.getD 1 0) && !am_isr x y && Nat.blt y (am_N x) && Nat.blt x 9) = true := hs
    obtain ⟨hs, s4⟩ := am_and hs
    obtain ⟨hs, s3⟩ := am_and hs
    obtain ⟨s1, s2⟩ := am_and hs
    obtain ⟨q, s9, rfl, h⟩ := am_rf_inv h
    obtain ⟨hg, h⟩ := am_gd_inv h
    obtain ⟨g1, g2⟩ := am_and hg
    exact am_m2 (w := 0) hC (Nat.blt_eq.mp s4) (Nat.blt_eq.mp s3) (am_not s2) hd (am_lk_mem s1) g1 (Nat.eq_of_beq_eq_true g2) h hk
  | 3, x, y, nx, c9, tg, lc, hch, h => by
    obtain ⟨hd, hnx, hs⟩ := am_chk_inv hch
    have hnx : nx = pc + 3 := hnx
    subst hnx
    have hs : (am_lk (.fieldLink own (tg.getD 0 0) (am_T x y).1 (am_T x y).2.1 (am_T x y).2.2.1) (tg.getD 1 0) && !am_isr x y && Nat.blt y (am_N x) && Nat.blt x 9 && !(am_T x y).2.2.2 && decide (am_ty x y = .int)) = true := hs
    obtain ⟨hs, s6⟩ := am_and hs
    obtain ⟨hs, s5⟩ := am_and hs
    obtain ⟨hs, s4⟩ := am_and hs
    obtain ⟨hs, s3⟩ := am_and hs
    obtain ⟨s1, s2⟩ := am_and hs
    obtain ⟨v, s8, rfl, h⟩ := am_un_inv h
    obtain ⟨q, s9, rfl, h⟩ := am_rf_inv h
    obtain ⟨hg, h⟩ := am_gd_inv h
    obtain ⟨g1, g2⟩ := am_and hg
    exact am_m3 (w := 0) hC (Nat.blt_eq.mp s4) (Nat.blt_eq.mp s3) (am_not s2) (am_not s5) (of_decide_eq_true s6) hd (am_lk_mem s1) g1 (Nat.eq_of_beq_eq_true g2) (h _ rfl) hk
  | 4, x, y, nx, c9, tg, lc, hch, h => by
    obtain ⟨hd, hnx, hs⟩ := am_chk_inv hch
    have hnx : nx = pc + 3 := hnx
    subst hnx
    have hs : (am_lk (.fieldLink own (tg.getD 0 0) (am_T x y).1 (am_T x y).2.1 (am_T x y).2.2.1) (tg.getD 1 0) && !am_isr x y && Nat.blt y (am_N x) && Nat.blt x 9 && !(am_T x y).2.2.2 && decide (am_ty x y = .boolean)) = true := hs
    obtain ⟨hs, s6⟩ := am_and hs
    obtain ⟨hs, s5⟩ := am_and hs
    obtain ⟨hs, s4⟩ := am_and hs
    obtain ⟨hs, s3⟩ := am_and hs
    obtain ⟨s1, s2⟩ := am_and hs
    obtain ⟨v, s8, rfl, h⟩ := am_un_inv h
    obtain ⟨q, s9, rfl, h⟩ := am_rf_inv h
    obtain ⟨hg, h⟩ := am_gd_inv h
    obtain ⟨g1, g2⟩ := am_and hg
    exact am_m4 (w := 0) hC (Nat.blt_eq.mp s4) (Nat.blt_eq.mp s3) (am_not s2) (am_not s5) (of_decide_eq_true s6) hd (am_lk_mem s1) g1 (Nat.eq_of_beq_eq_true g2) h.1 (h.2 _ rfl) hk
  | 5, x, y, nx, c9, tg, lc, hch, h => by
    obtain ⟨hd, hnx, hs⟩ := am_chk_inv hch
    have hnx : nx = pc + 3 := hnx
    subst hnx
    have hs : (am_lk (.fieldLink own (tg.getD 0 0) (am_T x y).1 (am_T x y).2.1 (am_T x y).2.2.1) (tg.getD 1 0) && am_isr x y && Nat.blt y (am_N x) && Nat.blt x 9 && !(am_T x y).2.2.2) = true := hs
    obtain ⟨hs, s5⟩ := am_and hs
    obtain ⟨hs, s4⟩ := am_and hs
    obtain ⟨hs, s3⟩ := am_and hs
    obtain ⟨s1, s2⟩ := am_and hs
    have h : (match (generalizing := false) st with
      | .ref z :: .ref q :: s => am_gd (am_al P n q && am_al P n z && Nat.beq (am_knd q) x) (k (pc + 3) L s n σ (am_up τ q y (z + 1)))
      | .null :: .ref q :: s => am_gd (am_al P n q && Nat.beq (am_knd q) x) (k (pc + 3) L s n σ (am_up τ q y 0))
      | _ => False) := h
    split at h
    · obtain ⟨hg, h⟩ := am_gd_inv h
      obtain ⟨hg, g2⟩ := am_and hg
      obtain ⟨g1, g3⟩ := am_and hg
      exact am_m5r hC (v := 0) (Nat.blt_eq.mp s4) (Nat.blt_eq.mp s3) s2 (am_not s5) hd (am_lk_mem s1) g1 (Nat.eq_of_beq_eq_true g2) g3 h hk
    · obtain ⟨hg, h⟩ := am_gd_inv h
      obtain ⟨g1, g2⟩ := am_and hg
      exact am_m5n hC (w := 0) (v := 0) (Nat.blt_eq.mp s4) (Nat.blt_eq.mp s3) s2 (am_not s5) hd (am_lk_mem s1) g1 (Nat.eq_of_beq_eq_true g2) h hk
    · exact h.elim
  | 6, x, y, nx, c9, tg, lc, hch, h => by
    obtain ⟨hd, hnx, hs⟩ := am_chk_inv hch
    have hnx : nx = pc + 3 := hnx
    subst hnx
    have hs : (am_lk (.fieldLink own (tg.getD 0 0) (am_T x y).1 (am_T x y).2.1 (am_T x y).2.2.1) (tg.getD 1 0) && am_isr x y && Nat.blt y (am_N x) && Nat.blt x 9 && (am_T x y).2.2.2 && decide ((am_T x y).1 = own) && Nat.beq kd 2) = true := hs
    obtain ⟨hs, s7⟩ := am_and hs
    obtain ⟨hs, s6⟩ := am_and hs
    obtain ⟨hs, s5⟩ := am_and hs
    obtain ⟨hs, s4⟩ := am_and hs
    obtain ⟨hs, s3⟩ := am_and hs
    obtain ⟨s1, s2⟩ := am_and hs
    have h : (match (generalizing := false) st with
      | .ref z :: .ref q :: s => am_gd (am_al P n q && am_al P n z && Nat.beq (am_knd q) x) (k (pc + 3) L s n σ (am_up τ q y (z + 1)))
      | _ => False) := h
    split at h
    · obtain ⟨hg, h⟩ := am_gd_inv h
      obtain ⟨hg, g2⟩ := am_and hg
      obtain ⟨g1, g3⟩ := am_and hg
      exact am_m6 hC (v := 0) (Nat.blt_eq.mp s4) (Nat.blt_eq.mp s3) s2 s5 (hini (Nat.eq_of_beq_eq_true s7)) (of_decide_eq_true s6) hd (am_lk_mem s1) g1 (Nat.eq_of_beq_eq_true g2) g3 h hk
    · exact h.elim
  | 7, x, y, nx, c9, tg, lc, hch, h => by
    obtain ⟨hd, hnx, hs⟩ := am_chk_inv hch
    have hnx : nx = pc + 1 := hnx
    subst hnx
    obtain ⟨i, s8, rfl, h⟩ := am_un_inv h
    obtain ⟨q, s9, rfl, h⟩ := am_rf_inv h
    obtain ⟨hg, h⟩ := am_gd_inv h
    obtain ⟨g1, g2⟩ := am_and hg
    exact am_m7 hC (v := 0) g1 (Nat.eq_of_beq_eq_true g2) h.1 hd h.2 hk
  | 9, x, y, nx, c9, tg, lc, hch, h => by
    obtain ⟨hd, hnx, hs⟩ := am_chk_inv hch
    have hnx : nx = pc + 1 := hnx
    subst hnx
    obtain ⟨i, s8, rfl, h⟩ := am_un_inv h
    obtain ⟨q, s9, rfl, h⟩ := am_rf_inv h
    obtain ⟨hg, h⟩ := am_gd_inv h
    obtain ⟨g1, g2⟩ := am_and hg
    exact am_m9 hC (v := 0) g1 (Nat.eq_of_beq_eq_true g2) h.1 hd h.2 hk
  | 8, x, y, nx, c9, tg, lc, hch, h => by
    obtain ⟨hd, hnx, hs⟩ := am_chk_inv hch
    have hnx : nx = pc + 1 := hnx
    subst hnx
    obtain ⟨v, s7, rfl, h⟩ := am_un_inv h
    obtain ⟨i, s8, rfl, h⟩ := am_un_inv h
    obtain ⟨q, s9, rfl, h⟩ := am_rf_inv h
    obtain ⟨hg, h⟩ := am_gd_inv h
    obtain ⟨g1, g2⟩ := am_and hg
    exact am_m8 hC g1 (Nat.eq_of_beq_eq_true g2) h.1 hd (h.2 _ rfl) hk
  | 10, x, y, nx, c9, tg, lc, hch, h => by
    obtain ⟨hd, hnx, hs⟩ := am_chk_inv hch
    have hnx : nx = pc + 1 := hnx
    subst hnx
    obtain ⟨v, s7, rfl, h⟩ := am_un_inv h
    obtain ⟨i, s8, rfl, h⟩ := am_un_inv h
    obtain ⟨q, s9, rfl, h⟩ := am_rf_inv h
    obtain ⟨hg, h⟩ := am_gd_inv h
    obtain ⟨g1, g2⟩ := am_and hg
    exact am_m10 hC g1 (Nat.eq_of_beq_eq_true g2) h.1 h.2.1 hd (h.2.2 _ rfl) hk
  | 11, x, y, nx, c9, tg, lc, hch, h => by
    obtain ⟨hd, hnx, hs⟩ := am_chk_inv hch
    have hnx : nx = pc + 1 := hnx
    subst hnx
    obtain ⟨i, s8, rfl, h⟩ := am_un_inv h
    obtain ⟨q, s9, rfl, h⟩ := am_rf_inv h
    obtain ⟨hg, h⟩ := am_gd_inv h
    obtain ⟨g1, g2⟩ := am_and hg
    obtain ⟨hin, hnz, h⟩ := h
    obtain ⟨w, hw⟩ : ∃ w, τ q i.toNatClampNeg = w + 1 := ⟨τ q i.toNatClampNeg - 1, by omega⟩
    rcases Bool.or_eq_true _ _ ▸ g2 with g2 | g2
    · exact am_m11s hC (v := 0) g1 (Nat.eq_of_beq_eq_true g2) hin hw hd (h w hw) hk
    · exact am_m11r hC (v := 0) g1 (Nat.eq_of_beq_eq_true g2) hin hw hd (h w hw) hk
  | 12, x, y, nx, c9, tg, lc, hch, h => by
    obtain ⟨hd, hnx, hs⟩ := am_chk_inv hch
    have hnx : nx = pc + 1 := hnx
    subst hnx
    obtain ⟨w, s7, rfl, h⟩ := am_rf_inv h
    obtain ⟨i, s8, rfl, h⟩ := am_un_inv h
    obtain ⟨q, s9, rfl, h⟩ := am_rf_inv h
    obtain ⟨hg, h⟩ := am_gd_inv h
    obtain ⟨hg, g4⟩ := am_and hg
    obtain ⟨hg, g3⟩ := am_and hg
    obtain ⟨g1, g2⟩ := am_and hg
    exact am_m12 hC (v := 0) g1 (Nat.eq_of_beq_eq_true g3) h.1 g2 (Nat.eq_of_beq_eq_true g4) hd h.2 hk
  | 13, x, y, nx, c9, tg, lc, hch, h => by
    obtain ⟨hd, hnx, hs⟩ := am_chk_inv hch
    have hnx : nx = pc + 1 := hnx
    subst hnx
    obtain ⟨q, s9, rfl, h⟩ := am_rf_inv h
    obtain ⟨hg, h⟩ := am_gd_inv h
    obtain ⟨hg, g3⟩ := am_and hg
    obtain ⟨g1, g2⟩ := am_and hg
    have g2 := Nat.le_of_ble_eq_true g2
    have g3 := Nat.le_of_ble_eq_true g3
    rcases (show am_knd q = 10 ∨ am_knd q = 11 ∨ am_knd q = 12 ∨ am_knd q = 13 by omega) with e | e | e | e
    · exact am_m13i hC g1 e hd h hk
    · exact am_m13z hC g1 e hd h hk
    · exact am_m13s hC g1 e hd h hk
    · exact am_m13r hC g1 e hd h hk
  | 14, x, y, nx, c9, tg, lc, hch, h => by
    obtain ⟨hd, hnx, hs⟩ := am_chk_inv hch
    have hnx : nx = pc + 3 := hnx
    subst hnx
    have hs : (am_lk (.classLink own (tg.getD 0 0) (am_R x)) (tg.getD 1 0) && am_lk (.instantiable (am_R x) (am_N x)) (tg.getD 2 0) && am_lk (.initialized (am_R x)) (tg.getD 3 0) && Nat.blt x 9) = true := hs
    obtain ⟨hs, s4⟩ := am_and hs
    obtain ⟨hs, s3⟩ := am_and hs
    obtain ⟨s1, s2⟩ := am_and hs
    obtain ⟨hg, h⟩ := am_gd_inv h
    obtain ⟨hg, g5⟩ := am_and hg
    obtain ⟨hg, g4⟩ := am_and hg
    obtain ⟨hg, g3⟩ := am_and hg
    obtain ⟨g1, g2⟩ := am_and hg
    exact am_m14 hC (Nat.blt_eq.mp s4) (am_lk_mem s1) (am_lk_mem s2) (am_lk_mem s3) (Nat.eq_of_beq_eq_true g1) (Nat.eq_of_beq_eq_true g2) (Nat.blt_eq.mp g3) g4 g5 hd (h _ rfl) hk
  | 15, x, y, nx, c9, tg, lc, hch, h => by
    obtain ⟨hd, hnx, hs⟩ := am_chk_inv hch
    have hnx : nx = pc + 2 := hnx
    subst hnx
    obtain ⟨v, s8, rfl, h⟩ := am_un_inv h
    obtain ⟨hg, h⟩ := am_gd_inv h
    obtain ⟨hg, g4⟩ := am_and hg
    obtain ⟨hg, g3⟩ := am_and hg
    obtain ⟨g1, g2⟩ := am_and hg
    exact am_m15 hC (Nat.eq_of_beq_eq_true g1) h.1 am_f1 (Nat.blt_eq.mp g2) g3 g4 hd (h.2 _ rfl) hk
  | 16, x, y, nx, c9, tg, lc, hch, h => by
    obtain ⟨hd, hnx, hs⟩ := am_chk_inv hch
    have hnx : nx = pc + 2 := hnx
    subst hnx
    obtain ⟨v, s8, rfl, h⟩ := am_un_inv h
    obtain ⟨hg, h⟩ := am_gd_inv h
    obtain ⟨hg, g4⟩ := am_and hg
    obtain ⟨hg, g3⟩ := am_and hg
    obtain ⟨g1, g2⟩ := am_and hg
    exact am_m16 hC (Nat.eq_of_beq_eq_true g1) h.1 am_f2 (Nat.blt_eq.mp g2) g3 g4 hd (h.2 _ rfl) hk
  | 17, x, y, nx, c9, tg, lc, hch, h => by
    obtain ⟨hd, hnx, hs⟩ := am_chk_inv hch
    have hnx : nx = pc + 3 := hnx
    subst hnx
    have hs : am_lk (.classLink own (tg.getD 0 0) "CanalEnd$Sheet") (tg.getD 1 0) = true := hs
    obtain ⟨v, s8, rfl, h⟩ := am_un_inv h
    obtain ⟨hg, h⟩ := am_gd_inv h
    obtain ⟨hg, g4⟩ := am_and hg
    obtain ⟨hg, g3⟩ := am_and hg
    obtain ⟨g1, g2⟩ := am_and hg
    exact am_m17 hC (Nat.eq_of_beq_eq_true g1) h.1 (am_lk_mem hs) am_f3 (Nat.blt_eq.mp g2) g3 g4 hd (h.2 _ rfl) hk
  | 18, x, y, nx, c9, tg, lc, hch, h => by
    obtain ⟨hd, hnx, hs⟩ := am_chk_inv hch
    have hnx : nx = pc + 4 := hnx
    subst hnx
    have hs : (am_lk (.classLink own (tg.getD 0 0) "[[I") (tg.getD 1 0) && Nat.ble y 10000) = true := hs
    obtain ⟨s1, s2⟩ := am_and hs
    obtain ⟨w, s7, rfl, h⟩ := am_un_inv h
    obtain ⟨v, s8, rfl, h⟩ := am_un_inv h
    obtain ⟨hg, h⟩ := am_gd_inv h
    obtain ⟨hg, g5⟩ := am_and hg
    obtain ⟨hg, g4⟩ := am_and hg
    obtain ⟨hg, g3⟩ := am_and hg
    obtain ⟨g1, g2⟩ := am_and hg
    exact am_m18 hC (Nat.eq_of_beq_eq_true g1) g2 (Nat.le_of_ble_eq_true s2) h.1 h.2.1 (am_lk_mem s1) am_f4 am_f1 (Nat.le_of_ble_eq_true g3) g4 g5 hd (h.2.2 _ rfl) hk
  | 19, x, y, nx, c9, tg, lc, hch, h => by
    obtain ⟨hd, hnx, hs⟩ := am_chk_inv hch
    have hnx : nx = pc + 3 := hnx
    subst hnx
    have hs : (am_lk (.methodLink own (tg.getD 0 0) (am_y x)) (tg.getD 1 0) && Nat.beq y (am_np x + 1) && Nat.beq (am_kd x) 0) = true := hs
    obtain ⟨hs, s3⟩ := am_and hs
    obtain ⟨s1, s2⟩ := am_and hs
    have s2 := Nat.eq_of_beq_eq_true s2
    obtain ⟨av, s9, rfl, hlen, h⟩ := am_takeK_inv _ _ _ _ h
    rw [List.append_nil] at h
    split at h
    · rename_i q tl
      obtain ⟨hg, h⟩ := am_gd_inv h
      obtain ⟨hg, g3⟩ := am_and hg
      obtain ⟨g1, g2⟩ := am_and hg
      exact am_c0 hC (hΓ x) hRf hRl (am_lk_mem s1) (Nat.eq_of_beq_eq_true s3) (by simp at hlen; omega) g1 (Nat.eq_of_beq_eq_true g2) g3 (Nat.le_refl n) (fun h9 => h9) (Or.inl rfl) hd h hk
    · exact h.elim
  | 20, x, y, nx, c9, tg, lc, hch, h => by
    obtain ⟨hd, hnx, hs⟩ := am_chk_inv hch
    have hnx : nx = pc + 3 := hnx
    subst hnx
    have hs : (am_lk (.methodLink own (tg.getD 0 0) (am_y x)) (tg.getD 1 0) && Nat.beq y (am_np x) && Nat.beq (am_kd x) 1) = true := hs
    obtain ⟨hs, s3⟩ := am_and hs
    obtain ⟨s1, s2⟩ := am_and hs
    have s2 := Nat.eq_of_beq_eq_true s2
    obtain ⟨av, s9, rfl, hlen, h⟩ := am_takeK_inv _ _ _ _ h
    rw [List.append_nil] at h
    obtain ⟨g3, h⟩ := am_gd_inv h
    exact am_c1 hC (q := 0) (hΓ x) hRf hRl (am_lk_mem s1) (Nat.eq_of_beq_eq_true s3) (by omega) g3 (Nat.le_refl n) (fun h9 => h9) (Or.inl rfl) hd h hk
  | 21, x, y, nx, c9, tg, lc, hch, h => by
    obtain ⟨hd, hnx, hs⟩ := am_chk_inv hch
    have hnx : nx = pc + 3 := hnx
    subst hnx
    have hs : (am_lk (.methodLink own (tg.getD 0 0) (am_y x)) (tg.getD 1 0) && Nat.beq y (am_np x + 1) && Nat.beq (am_kd x) 2) = true := hs
    obtain ⟨hs, s3⟩ := am_and hs
    obtain ⟨s1, s2⟩ := am_and hs
    have s2 := Nat.eq_of_beq_eq_true s2
    obtain ⟨av, s9, rfl, hlen, h⟩ := am_takeK_inv _ _ _ _ h
    rw [List.append_nil] at h
    split at h
    · rename_i q tl
      obtain ⟨hg, h⟩ := am_gd_inv h
      obtain ⟨hg, g5⟩ := am_and hg
      obtain ⟨hg, g4⟩ := am_and hg
      obtain ⟨hg, g3⟩ := am_and hg
      obtain ⟨g1, g2⟩ := am_and hg
      exact am_c2 hC (hΓ x) hRf hRl (am_lk_mem s1) (Nat.eq_of_beq_eq_true s3) (by simp at hlen; omega) g2 (Nat.le_add_right n _) (fun _ => Nat.le_of_ble_eq_true g3) (Or.inr ⟨g4, g5⟩) hd h hk
    · exact h.elim
  | 22, x, y, nx, c9, tg, lc, hch, h => by
    obtain ⟨hd, hnx, hs⟩ := am_chk_inv hch
    have hnx : nx = pc + 3 := hnx
    subst hnx
    have hs : (am_lk (.methodLink own (tg.getD 0 0) (am_y x)) (tg.getD 1 0) && Nat.beq y (am_np x + 1) && Nat.beq (am_kd x) 0) = true := hs
    obtain ⟨hs, s3⟩ := am_and hs
    obtain ⟨s1, s2⟩ := am_and hs
    have s2 := Nat.eq_of_beq_eq_true s2
    obtain ⟨av, s9, rfl, hlen, h⟩ := am_takeK_inv _ _ _ _ h
    rw [List.append_nil] at h
    split at h
    · rename_i q tl
      obtain ⟨hg, nf9, hn1, hn2, h⟩ := am_gd_inv h
      obtain ⟨hg, g5⟩ := am_and hg
      obtain ⟨hg, g4⟩ := am_and hg
      obtain ⟨hg, g3⟩ := am_and hg
      obtain ⟨g1, g2⟩ := am_and hg
      exact am_c0 hC (hΓ x) hRf hRl (am_lk_mem s1) (Nat.eq_of_beq_eq_true s3) (by simp at hlen; omega) g1 (Nat.eq_of_beq_eq_true g2) g3 hn1 (fun _ => hn2) (Or.inr ⟨g4, g5⟩) hd h hk
    · exact h.elim
  | 23, x, y, nx, c9, tg, lc, hch, h => by
    obtain ⟨hd, hnx, hs⟩ := am_chk_inv hch
    have hnx : nx = pc + 3 := hnx
    subst hnx
    have hs : am_lk (.methodLink own (tg.getD 0 0) objectInit) (tg.getD 1 0) = true := hs
    obtain ⟨q, s9, rfl, h⟩ := am_rf_inv h
    obtain ⟨hg, h⟩ := am_gd_inv h
    exact am_m23 hC (am_lk_mem hs) am_f5 am_f6 hg hd h hk
  | 24, x, y, nx, c9, tg, lc, hch, h => by
    obtain ⟨hd, hnx, hs⟩ := am_chk_inv hch
    have hnx : nx = pc + 3 := hnx
    subst hnx
    have hs : am_lk (.methodLink own (tg.getD 0 0) arraycopyName) (tg.getD 1 0) = true := hs
    have h : (match (generalizing := false) st with
      | .int ln :: .int dp :: .ref q1 :: .int sp :: .ref q0 :: s => am_gd (am_al P n q0 && am_al P n q1 && Nat.beq (am_knd q0) x && Nat.beq (am_knd q1) x && (Nat.beq x 10 || Nat.beq x 11) && Nat.ble s.length 4) (¬ sp < 0 ∧ ¬ dp < 0 ∧ ¬ ln < 0 ∧ sp.toNatClampNeg + ln.toNatClampNeg ≤ am_len q0 ∧ dp.toNatClampNeg + ln.toNatClampNeg ≤ am_len q1 ∧ (x = 11 → ∀ i, i < ln.toNatClampNeg → σ q0 (sp.toNatClampNeg + i) = 0 ∨ σ q0 (sp.toNatClampNeg + i) = 1) ∧ ∀ σ' : am_Sg, σ' = am_cp σ q0 q1 sp.toNatClampNeg dp.toNatClampNeg ln.toNatClampNeg → k (pc + 3) L s n σ' τ)
      | _ => False) := h
    split at h
    · obtain ⟨hg, h⟩ := am_gd_inv h
      obtain ⟨hg, g6⟩ := am_and hg
      obtain ⟨hg, g5⟩ := am_and hg
      obtain ⟨hg, g4⟩ := am_and hg
      obtain ⟨hg, g3⟩ := am_and hg
      obtain ⟨g1, g2⟩ := am_and hg
      obtain ⟨a1, a2, a3, a4, a5, a6, h⟩ := h
      refine am_m24 hC ?_ (am_lk_mem hs) am_f7 am_f8 am_f9 g1 (Nat.eq_of_beq_eq_true g3) g2 (Nat.eq_of_beq_eq_true g4) g6 a1 a2 a3 a4 a5 a6 hd (h _ rfl) hk
      rcases Bool.or_eq_true _ _ ▸ g5 with g5 | g5
      · exact Or.inl (Nat.eq_of_beq_eq_true g5)
      · exact Or.inr (Nat.eq_of_beq_eq_true g5)
    · exact h.elim
  | 25, x, y, nx, c9, tg, lc, hch, h => by
    obtain ⟨hd, hnx, hs⟩ := am_chk_inv hch
    have hnx : nx = pc + 1 := hnx
    subst hnx
    have hs : rt = some .int := of_decide_eq_true hs
    have h : (match (generalizing := false) st with
      | [.int v] => r (some (.int v)) n σ τ
      | _ => False) := h
    split at h
    · exact hret.1 hs _ _ _ _ _ _ hd h
    · exact h.elim
  | 26, x, y, nx, c9, tg, lc, hch, h => by
    obtain ⟨hd, hnx, hs⟩ := am_chk_inv hch
    have hnx : nx = pc + 1 := hnx
    subst hnx
    have hs : rt = some .boolean := of_decide_eq_true hs
    have h : (match (generalizing := false) st with
      | [.int v] => (v = 0 ∨ v = 1) ∧ r (some (.int v)) n σ τ
      | _ => False) := h
    split at h
    · exact hret.2.1 hs _ _ _ _ _ _ hd h.1 h.2
    · exact h.elim
  | 27, x, y, nx, c9, tg, lc, hch, h => by
    obtain ⟨hd, hnx, hs⟩ := am_chk_inv hch
    have hnx : nx = pc + 1 := hnx
    subst hnx
    have hs : rt = some .long := of_decide_eq_true hs
    have h : (match (generalizing := false) st with
      | [.long v] => r (some (.long v)) n σ τ
      | _ => False) := h
    split at h
    · exact hret.2.2.1 hs _ _ _ _ _ _ hd h
    · exact h.elim
  | 28, x, y, nx, c9, tg, lc, hch, h => by
    obtain ⟨hd, hnx, hs⟩ := am_chk_inv hch
    have hnx : nx = pc + 1 := hnx
    subst hnx
    have hs : rt = none := of_decide_eq_true hs
    have h : (match (generalizing := false) st with
      | [] => r none n σ τ
      | _ => False) := h
    split at h
    · exact hret.2.2.2 hs _ _ _ _ _ hd h
    · exact h.elim
  | 29, x, y, nx, c9, tg, lc, hch, h => by
    obtain ⟨hd, hnx, hs⟩ := am_chk_inv hch
    have hnx : nx = pc + 1 := hnx
    subst hnx
    obtain ⟨i, s8, rfl, h⟩ := am_un_inv h
    obtain ⟨q, s9, rfl, h⟩ := am_rf_inv h
    obtain ⟨hg, h7⟩ := am_gd_inv h
    obtain ⟨g1, g2⟩ := am_and hg
    have g2 := Nat.eq_of_beq_eq_true g2
    subst g2
    exact am_m29 hC g1 h7.1 hd h7.2 hk
  | 30, x, y, nx, c9, tg, lc, hch, h => by
    obtain ⟨hd, hnx, hs⟩ := am_chk_inv hch
    have hnx : nx = pc + 1 := hnx
    subst hnx
    obtain ⟨q, s9, rfl, h⟩ := am_rf_inv h
    obtain ⟨hg, h7⟩ := am_gd_inv h
    obtain ⟨g1, g2⟩ := am_and hg
    have g2 := Nat.eq_of_beq_eq_true g2
    subst g2
    exact am_m30 hC g1 hd h7 hk
  | 31, x, y, nx, c9, tg, lc, hch, h => by
    obtain ⟨hd, hnx, hs⟩ := am_chk_inv hch
    have hnx : nx = pc + 3 := hnx
    subst hnx
    have hs : (am_lk (.methodLinkNest own (tg.getD 0 0) (am_y x) "CanalEnd") (tg.getD 1 0) && Nat.beq y (am_np x) && Nat.beq (am_kd x) 1) = true := hs
    obtain ⟨hs, s3⟩ := am_and hs
    obtain ⟨s1, s2⟩ := am_and hs
    have s2 := Nat.eq_of_beq_eq_true s2
    obtain ⟨av, s9, rfl, hlen, h⟩ := am_takeK_inv _ _ _ _ h
    rw [List.append_nil] at h
    obtain ⟨g3, h⟩ := am_gd_inv h
    exact am_c1n hC (q := 0) (hΓ x) hRf hRl (am_lk_mem s1) (Nat.eq_of_beq_eq_true s3) (by omega) g3 (Nat.le_refl n) (fun h9 => h9) (Or.inl rfl) hd h hk
  | 32, x, y, nx, c9, tg, lc, hch, h => by
    obtain ⟨hd, hnx, hs⟩ := am_chk_inv hch
    have hnx : nx = pc + 3 := hnx
    subst hnx
    have hs : (am_lk (.methodLinkNest own (tg.getD 0 0) (am_y x) "CanalEnd") (tg.getD 1 0) && Nat.beq y (am_np x + 1) && Nat.beq (am_kd x) 2) = true := hs
    obtain ⟨hs, s3⟩ := am_and hs
    obtain ⟨s1, s2⟩ := am_and hs
    have s2 := Nat.eq_of_beq_eq_true s2
    obtain ⟨av, s9, rfl, hlen, h⟩ := am_takeK_inv _ _ _ _ h
    rw [List.append_nil] at h
    split at h
    · rename_i q tl
      obtain ⟨hg, h⟩ := am_gd_inv h
      obtain ⟨hg, g5⟩ := am_and hg
      obtain ⟨hg, g4⟩ := am_and hg
      obtain ⟨hg, g3⟩ := am_and hg
      obtain ⟨g1, g2⟩ := am_and hg
      exact am_c2n hC (hΓ x) hRf hRl (am_lk_mem s1) (Nat.eq_of_beq_eq_true s3) (by simp at hlen; omega) g2 (Nat.le_add_right n _) (fun _ => Nat.le_of_ble_eq_true g3) (Or.inr ⟨g4, g5⟩) hd h hk
    · exact h.elim
  | 33, x, y, nx, c9, tg, lc, hch, h => by
    obtain ⟨hd, hnx, hs⟩ := am_chk_inv hch
    have hnx : nx = pc + 3 := hnx
    subst hnx
    have hs : am_lk (.methodLink own (tg.getD 0 0) Lib.Math.max.name) (tg.getD 1 0) = true := hs
    obtain ⟨v, w, s9, rfl, h⟩ := am_bin_inv h
    obtain ⟨hg, h⟩ := am_gd_inv h
    exact am_m33 hC (am_lk_mem hs) am_f11 am_f10 am_f14 hg hd h hk
  | 34, x, y, nx, c9, tg, lc, hch, h => by
    obtain ⟨hd, hnx, hs⟩ := am_chk_inv hch
    have hnx : nx = pc + 3 := hnx
    subst hnx
    have hs : am_lk (.methodLink own (tg.getD 0 0) Lib.Math.min.name) (tg.getD 1 0) = true := hs
    obtain ⟨v, w, s9, rfl, h⟩ := am_bin_inv h
    obtain ⟨hg, h⟩ := am_gd_inv h
    exact am_m34 hC (am_lk_mem hs) am_f12 am_f10 am_f15 hg hd h hk
  | 35, x, y, nx, c9, tg, lc, hch, h => by
    obtain ⟨hd, hnx, hs⟩ := am_chk_inv hch
    have hnx : nx = pc + 3 := hnx
    subst hnx
    have hs : am_lk (.methodLink own (tg.getD 0 0) Lib.Math.abs.name) (tg.getD 1 0) = true := hs
    obtain ⟨v, s9, rfl, h⟩ := am_un_inv h
    obtain ⟨hg, h⟩ := am_gd_inv h
    exact am_m35 hC (am_lk_mem hs) am_f13 am_f10 am_f16 hg hd h hk
  | op + 36, x, y, nx, c9, tg, lc, hch, h => False.elim h
theorem am_st (hC : am_Cx p R s m args c cc own D z A H0 nL n0 nf P X ρ0) {Γ : Nat → am_C} {d kd : Nat} {rt : Option FieldType} {r : am_Rt} (hΓ : ∀ x, am_Met d x (Γ x)) (hRf : d + 1 ≤ R.frames) (hRl : 64 * (d + 1) ≤ R.locals) (hini : kd = 2 → meth.name = "<init>") (hret : am_Rh rt cc r (am_Wb p l e R s m args below meth c Q D z A H0 nL n0 nf X ρ0)) (hk : ∀ pc L st n σ τ, k pc L st n σ τ → am_Wb p l e R s m args below meth c Q D z A H0 nL n0 nf X ρ0 pc L st n σ τ) : ∀ (op x y nx : Nat) (c9 : Int32) (tg : List Nat) (lc : Int64), am_chk own rt kd cc pc (nx, op, x, y, c9, tg, lc) = true → am_step X Γ P nf (nx, op, x, y, c9, tg, lc) L st n σ τ k r → am_Wb p l e R s m args below meth c Q D z A H0 nL n0 nf X ρ0 pc L st n σ τ
  | 0, x, y, nx, c9, tg, lc, hch, h => by
    obtain ⟨hd, hnx, hs⟩ := am_chk_inv hch
    have hnx : nx = pc + 1 := hnx
    subst hnx
    exact am_s0 hC hd (of_decide_eq_true hs) h hk
  | 1, x, y, nx, c9, tg, lc, hch, h => by
    obtain ⟨hd, hnx, hs⟩ := am_chk_inv hch
    have hnx : nx = pc + 2 := hnx
    subst hnx
    exact am_s1 hC hd (of_decide_eq_true hs) h hk
  | 2, x, y, nx, c9, tg, lc, hch, h => by
    obtain ⟨hd, hnx, hs⟩ := am_chk_inv hch
    have hnx : nx = pc + 3 := hnx
    subst hnx
    exact am_s2 hC hd (of_decide_eq_true hs) h hk
  | 3, x, y, nx, c9, tg, lc, hch, h => by
    obtain ⟨hd, hnx, hs⟩ := am_chk_inv hch
    have hnx : nx = pc + 3 := hnx
    subst hnx
    exact am_s3 hC hd (am_lk_mem hs) h hk
  | 4, x, y, nx, c9, tg, lc, hch, h => by
    obtain ⟨hd, hnx, hs⟩ := am_chk_inv hch
    have hnx : nx = pc + 1 := hnx
    subst hnx
    exact am_s4 hC hd h hk
  | 5, x, y, nx, c9, tg, lc, hch, h => by
    obtain ⟨hd, hnx, hs⟩ := am_chk_inv hch
    have hnx : nx = pc + 2 := hnx
    subst hnx
    exact am_s5 hC hd h hk
  | 6, x, y, nx, c9, tg, lc, hch, h => by
    obtain ⟨hd, hnx, hs⟩ := am_chk_inv hch
    have hnx : nx = pc + 1 := hnx
    subst hnx
    exact am_s6 hC (am_fin4 hs) hd h hk
  | 7, x, y, nx, c9, tg, lc, hch, h => by
    obtain ⟨hd, hnx, hs⟩ := am_chk_inv hch
    have hnx : nx = pc + 2 := hnx
    subst hnx
    exact am_s7 hC hd h hk
  | 8, x, y, nx, c9, tg, lc, hch, h => by
    obtain ⟨hd, hnx, hs⟩ := am_chk_inv hch
    have hnx : nx = pc + 1 := hnx
    subst hnx
    exact am_s8 hC (am_fin4 hs) hd h hk
  | 9, x, y, nx, c9, tg, lc, hch, h => by
    obtain ⟨hd, hnx, hs⟩ := am_chk_inv hch
    have hnx : nx = pc + 2 := hnx
    subst hnx
    exact am_s9 hC hd h hk
  | 10, x, y, nx, c9, tg, lc, hch, h => by
    obtain ⟨hd, hnx, hs⟩ := am_chk_inv hch
    have hnx : nx = pc + 1 := hnx
    subst hnx
    exact am_s10 hC (am_fin4 hs) hd h hk
  | 11, x, y, nx, c9, tg, lc, hch, h => by
    obtain ⟨hd, hnx, hs⟩ := am_chk_inv hch
    have hnx : nx = pc + 2 := hnx
    subst hnx
    exact am_s11 hC hd h hk
  | 12, x, y, nx, c9, tg, lc, hch, h => by
    obtain ⟨hd, hnx, hs⟩ := am_chk_inv hch
    have hnx : nx = pc + 1 := hnx
    subst hnx
    exact am_s12 hC (am_fin4 hs) hd h hk
  | 13, x, y, nx, c9, tg, lc, hch, h => by
    obtain ⟨hd, hnx, hs⟩ := am_chk_inv hch
    have hnx : nx = pc + 2 := hnx
    subst hnx
    exact am_s13 hC hd h hk
  | 14, x, y, nx, c9, tg, lc, hch, h => by
    obtain ⟨hd, hnx, hs⟩ := am_chk_inv hch
    have hnx : nx = pc + 1 := hnx
    subst hnx
    exact am_s14 hC (am_fin4 hs) hd h hk
  | 15, x, y, nx, c9, tg, lc, hch, h => by
    obtain ⟨hd, hnx, hs⟩ := am_chk_inv hch
    have hnx : nx = pc + 2 := hnx
    subst hnx
    dsimp only [am_step] at h
    split at h
    · exact am_s15 hC hd h hk
    · exact h.elim
  | 16, x, y, nx, c9, tg, lc, hch, h => by
    obtain ⟨hd, hnx, hs⟩ := am_chk_inv hch
    have hnx : nx = pc + 1 := hnx
    subst hnx
    dsimp only [am_step] at h
    split at h
    · exact am_s16 hC (am_fin4 hs) hd h hk
    · exact h.elim
  | 17, x, y, nx, c9, tg, lc, hch, h => by
    obtain ⟨hd, hnx, hs⟩ := am_chk_inv hch
    have hnx : nx = pc + 3 := hnx
    subst hnx
    exact am_s17 hC (of_decide_eq_true hs) hd h hk
  | 18, x, y, nx, c9, tg, lc, hch, h => by
    obtain ⟨hd, hnx, hs⟩ := am_chk_inv hch
    have hnx : nx = pc + 1 := hnx
    subst hnx
    dsimp only [am_step] at h
    split at h
    · exact am_s18i (u := 0) (q := 0) (w := 0) hC hd h hk
    · exact am_s18r (u := 0) (v := 0) (q := 0) hC hd h hk
    · exact h.elim
  | 19, x, y, nx, c9, tg, lc, hch, h => by
    obtain ⟨hd, hnx, hs⟩ := am_chk_inv hch
    have hnx : nx = pc + 1 := hnx
    subst hnx
    dsimp only [am_step] at h
    split at h
    · exact am_s19i (u := 0) (q := 0) (w := 0) hC hd h hk
    · exact am_s19r (u := 0) (v := 0) (q := 0) hC hd h hk
    · exact h.elim
  | 20, x, y, nx, c9, tg, lc, hch, h => by
    obtain ⟨hd, hnx, hs⟩ := am_chk_inv hch
    have hnx : nx = pc + 1 := hnx
    subst hnx
    dsimp only [am_step] at h
    split at h
    · exact am_s20 (v := 0) (w := 0) hC hd h hk
    · exact h.elim
  | 21, x, y, nx, c9, tg, lc, hch, h => by
    obtain ⟨hd, hnx, hs⟩ := am_chk_inv hch
    have hnx : nx = pc + 1 := hnx
    subst hnx
    exact am_s21 hC hd h hk
  | 22, x, y, nx, c9, tg, lc, hch, h => by
    obtain ⟨hd, hnx, hs⟩ := am_chk_inv hch
    have hnx : nx = pc + 1 := hnx
    subst hnx
    exact am_s22 hC hd h hk
  | 23, x, y, nx, c9, tg, lc, hch, h => by
    obtain ⟨hd, hnx, hs⟩ := am_chk_inv hch
    have hnx : nx = pc + 1 := hnx
    subst hnx
    exact am_s23 hC hd h hk
  | 24, x, y, nx, c9, tg, lc, hch, h => by
    obtain ⟨hd, hnx, hs⟩ := am_chk_inv hch
    have hnx : nx = pc + 1 := hnx
    subst hnx
    exact am_s24 hC hd h hk
  | 25, x, y, nx, c9, tg, lc, hch, h => by
    obtain ⟨hd, hnx, hs⟩ := am_chk_inv hch
    have hnx : nx = pc + 1 := hnx
    subst hnx
    exact am_s25 hC hd h hk
  | 26, x, y, nx, c9, tg, lc, hch, h => by
    obtain ⟨hd, hnx, hs⟩ := am_chk_inv hch
    have hnx : nx = pc + 1 := hnx
    subst hnx
    exact am_s26 hC hd h hk
  | 27, x, y, nx, c9, tg, lc, hch, h => by
    obtain ⟨hd, hnx, hs⟩ := am_chk_inv hch
    have hnx : nx = pc + 1 := hnx
    subst hnx
    exact am_s27 hC hd h hk
  | 28, x, y, nx, c9, tg, lc, hch, h => by
    obtain ⟨hd, hnx, hs⟩ := am_chk_inv hch
    have hnx : nx = pc + 1 := hnx
    subst hnx
    exact am_s28 hC hd h hk
  | 29, x, y, nx, c9, tg, lc, hch, h => by
    obtain ⟨hd, hnx, hs⟩ := am_chk_inv hch
    have hnx : nx = pc + 1 := hnx
    subst hnx
    exact am_s29 hC hd h hk
  | 30, x, y, nx, c9, tg, lc, hch, h => by
    obtain ⟨hd, hnx, hs⟩ := am_chk_inv hch
    have hnx : nx = pc + 1 := hnx
    subst hnx
    exact am_s30 hC hd h hk
  | 31, x, y, nx, c9, tg, lc, hch, h => by
    obtain ⟨hd, hnx, hs⟩ := am_chk_inv hch
    have hnx : nx = pc + 1 := hnx
    subst hnx
    exact am_s31 hC hd h hk
  | 32, x, y, nx, c9, tg, lc, hch, h => by
    obtain ⟨hd, hnx, hs⟩ := am_chk_inv hch
    have hnx : nx = pc + 1 := hnx
    subst hnx
    exact am_s32 hC hd h hk
  | 33, x, y, nx, c9, tg, lc, hch, h => by
    obtain ⟨hd, hnx, hs⟩ := am_chk_inv hch
    have hnx : nx = pc + 1 := hnx
    subst hnx
    exact am_s33 hC hd h hk
  | 34, x, y, nx, c9, tg, lc, hch, h => by
    obtain ⟨hd, hnx, hs⟩ := am_chk_inv hch
    have hnx : nx = pc + 1 := hnx
    subst hnx
    exact am_s34 hC hd h hk
  | 36, x, y, nx, c9, tg, lc, hch, h => by
    obtain ⟨hd, hnx, hs⟩ := am_chk_inv hch
    have hnx : nx = pc + 1 := hnx
    subst hnx
    exact am_s36 hC hd h hk
  | 37, x, y, nx, c9, tg, lc, hch, h => by
    obtain ⟨hd, hnx, hs⟩ := am_chk_inv hch
    have hnx : nx = pc + 1 := hnx
    subst hnx
    exact am_s37 hC hd h hk
  | 38, x, y, nx, c9, tg, lc, hch, h => by
    obtain ⟨hd, hnx, hs⟩ := am_chk_inv hch
    have hnx : nx = pc + 1 := hnx
    subst hnx
    exact am_s38 hC hd h hk
  | 39, x, y, nx, c9, tg, lc, hch, h => by
    obtain ⟨hd, hnx, hs⟩ := am_chk_inv hch
    have hnx : nx = pc + 1 := hnx
    subst hnx
    exact am_s39 hC hd h hk
  | 40, x, y, nx, c9, tg, lc, hch, h => by
    obtain ⟨hd, hnx, hs⟩ := am_chk_inv hch
    have hnx : nx = pc + 1 := hnx
    subst hnx
    exact am_s40 hC hd h hk
  | 41, x, y, nx, c9, tg, lc, hch, h => by
    obtain ⟨hd, hnx, hs⟩ := am_chk_inv hch
    have hnx : nx = pc + 1 := hnx
    subst hnx
    exact am_s41 hC hd h hk
  | 35, x, y, nx, c9, tg, lc, hch, h => by
    obtain ⟨hd, hnx, hs⟩ := am_chk_inv hch
    have hnx : nx = pc + 1 := hnx
    subst hnx
    dsimp only [am_step] at h
    split at h
    · exact am_s35 hC hd h hk
    · exact h.elim
  | 42, x, y, nx, c9, tg, lc, hch, h => by
    obtain ⟨hd, hnx, hs⟩ := am_chk_inv hch
    have hnx : nx = pc + 1 := hnx
    subst hnx
    have hs : (Nat.blt x 2 && decide (Int64.ofNat x = lc)) = true := hs
    obtain ⟨s1, s2⟩ := am_and hs
    exact am_s42 hC hd (by rw [am_fin2 s1]; exact of_decide_eq_true s2) h hk
  | 43, x, y, nx, c9, tg, lc, hch, h => by
    obtain ⟨hd, hnx, hs⟩ := am_chk_inv hch
    have hnx : nx = pc + 3 := hnx
    subst hnx
    exact am_s43 hC hd (am_lk_mem hs) h hk
  | 44, x, y, nx, c9, tg, lc, hch, h => by
    obtain ⟨hd, hnx, hs⟩ := am_chk_inv hch
    have hnx : nx = pc + 3 := hnx
    subst hnx
    exact am_s44 hC hd h hk
  | 45, x, y, nx, c9, tg, lc, hch, h => by
    obtain ⟨hd, hnx, hs⟩ := am_chk_inv hch
    have hnx : nx = pc + 3 := hnx
    subst hnx
    exact am_s45 hC hd h hk
  | 46, x, y, nx, c9, tg, lc, hch, h => by
    obtain ⟨hd, hnx, hs⟩ := am_chk_inv hch
    have hnx : nx = pc + 3 := hnx
    subst hnx
    exact am_s46 hC hd h hk
  | 47, x, y, nx, c9, tg, lc, hch, h => by
    obtain ⟨hd, hnx, hs⟩ := am_chk_inv hch
    have hnx : nx = pc + 3 := hnx
    subst hnx
    exact am_s47 hC hd h hk
  | 48, x, y, nx, c9, tg, lc, hch, h => by
    obtain ⟨hd, hnx, hs⟩ := am_chk_inv hch
    have hnx : nx = pc + 3 := hnx
    subst hnx
    exact am_s48 hC hd h hk
  | 49, x, y, nx, c9, tg, lc, hch, h => by
    obtain ⟨hd, hnx, hs⟩ := am_chk_inv hch
    have hnx : nx = pc + 3 := hnx
    subst hnx
    exact am_s49 hC hd h hk
  | 50, x, y, nx, c9, tg, lc, hch, h => by
    obtain ⟨hd, hnx, hs⟩ := am_chk_inv hch
    have hnx : nx = pc + 3 := hnx
    subst hnx
    exact am_s50 hC hd h hk
  | 51, x, y, nx, c9, tg, lc, hch, h => by
    obtain ⟨hd, hnx, hs⟩ := am_chk_inv hch
    have hnx : nx = pc + 3 := hnx
    subst hnx
    exact am_s51 hC hd h hk
  | 52, x, y, nx, c9, tg, lc, hch, h => by
    obtain ⟨hd, hnx, hs⟩ := am_chk_inv hch
    have hnx : nx = pc + 3 := hnx
    subst hnx
    exact am_s52 hC hd h hk
  | 53, x, y, nx, c9, tg, lc, hch, h => by
    obtain ⟨hd, hnx, hs⟩ := am_chk_inv hch
    have hnx : nx = pc + 3 := hnx
    subst hnx
    exact am_s53 hC hd h hk
  | 54, x, y, nx, c9, tg, lc, hch, h => by
    obtain ⟨hd, hnx, hs⟩ := am_chk_inv hch
    have hnx : nx = pc + 3 := hnx
    subst hnx
    exact am_s54 hC hd h hk
  | 55, x, y, nx, c9, tg, lc, hch, h => by
    obtain ⟨hd, hnx, hs⟩ := am_chk_inv hch
    have hnx : nx = pc + 3 := hnx
    subst hnx
    exact am_s55 hC hd h hk
  | 56, x, y, nx, c9, tg, lc, hch, h => by
    obtain ⟨hd, hnx, hs⟩ := am_chk_inv hch
    have hnx : nx = pc + 3 := hnx
    subst hnx
    exact am_s56 hC hd h hk
  | 57, x, y, nx, c9, tg, lc, hch, h => by
    obtain ⟨hd, hnx, hs⟩ := am_chk_inv hch
    have hnx : nx = pc + 3 := hnx
    subst hnx
    dsimp only [am_step] at h
    split at h
    · exact am_s57r hC hd h hk
    · exact am_s57n (w := 0) hC hd h hk
    · exact h.elim
  | 58, x, y, nx, c9, tg, lc, hch, h => by
    obtain ⟨hd, hnx, hs⟩ := am_chk_inv hch
    have hnx : nx = pc + 3 := hnx
    subst hnx
    dsimp only [am_step] at h
    split at h
    · exact am_s58r hC hd h hk
    · exact am_s58n (w := 0) hC hd h hk
    · exact h.elim
  | 59, x, y, nx, c9, tg, lc, hch, h => by
    obtain ⟨hd, hnx, hs⟩ := am_chk_inv hch
    have hs : (am_seq (tg.getD 0 0) tg && Nat.blt 0 (am_tgs tg).length && tg.all fun a => Nat.blt a 100000) = true := hs
    obtain ⟨hs, s3⟩ := am_and hs
    obtain ⟨s1, s2⟩ := am_and hs
    obtain ⟨v, s9, rfl, h⟩ := am_un_inv h
    have hd : decode cc pc = .ok (.tableswitch ((y : Int) - pc) (tg.getD 0 0 : Nat) ((tg.getD 0 0 : Nat) + ((am_tgs tg).length : Nat) - 1) ((am_tgs tg).map fun (t : Nat) => (t : Int) - (pc : Int)).toArray, nx - pc) := hd
    intro ρ H locs ls h0 h1 hX hW hS hl
    have h2 := Nat.blt_eq.mp s2
    by_cases c1 : v.toInt < (tg.getD 0 0 : Nat) ∨ ((tg.getD 0 0 : Nat) + ((am_tgs tg).length : Nat) - 1 : Int) < v.toInt
    · refine lv_tableOut (tgt := y) hC.1 hC.2.1 hd c1 (by omega) (hk _ _ _ _ _ _ (am_sw_no _ tg s1 h (fun j hj e => ?_)) ρ H locs ls h0 h1 hX hW hS hl)
      have hb : (tg.getD 0 0) + j < 2 ^ 31 := by
        have : tg.getD 0 0 < 100000 := by
          cases tg with
          | nil => simp
          | cons a t => exact Nat.blt_eq.mp (List.all_eq_true.mp s3 a (by simp))
        have hl9 : (am_tgs tg).length < 2 ^ 30 := by
          have g1 := am_tgs_len tg
          rcases am_seq_len _ tg s1 s3 with g | g
          · subst g; simp [am_tgs]
          · omega
        omega
      rw [e, nI_toInt hb] at c1
      omega
    · obtain ⟨j, hj⟩ : ∃ j : Nat, v.toInt = ((tg.getD 0 0 + j : Nat) : Int) := ⟨(v.toInt - (tg.getD 0 0 : Nat)).toNat, by omega⟩
      have hjl : j < (am_tgs tg).length := by omega
      have hv : v = nI (tg.getD 0 0 + j) := by
        have hb : (tg.getD 0 0 + j : Nat) < 2 ^ 31 := by have := Int32.toInt_lt v; omega
        rw [fa_eq', nI_toInt hb]
        exact hj
      have ht : (am_tgs tg)[j]? = some (am_tgs tg)[j] := List.getElem?_eq_getElem hjl
      have hl9 : tg.getD 0 0 + tg.length < 2 ^ 31 := by
        have : tg.getD 0 0 < 100000 := by
          cases tg with
          | nil => simp
          | cons a t => exact Nat.blt_eq.mp (List.all_eq_true.mp s3 a (by simp))
        rcases am_seq_len _ tg s1 s3 with g | g
        · subst g; simp
        · omega
      refine lv_tableIn (tgt := (am_tgs tg)[j]) (off := ((am_tgs tg)[j] : Int) - pc) hC.1 hC.2.1 hd (by omega) (by omega) ?_ (by omega) (hk _ _ _ _ _ _ (am_sw_at _ tg j _ s1 h hl9 hv ht) ρ H locs ls h0 h1 hX hW hS hl)
      have : (v.toInt - (tg.getD 0 0 : Nat)).toNat = j := by omega
      rw [this]
      simp [hjl]
  | 60, x, y, nx, c9, tg, lc, hch, h => by
    obtain ⟨hd, hnx, hs⟩ := am_chk_inv hch
    have hs : (am_inc tg && tg.all fun a => Nat.blt a 100000) = true := hs
    obtain ⟨s1, s2⟩ := am_and hs
    obtain ⟨v, s9, rfl, h⟩ := am_un_inv h
    have hd : decode cc pc = .ok (.lookupswitch ((y : Int) - pc) (am_prs pc tg).toArray, nx - pc) := hd
    obtain ⟨t, h2, h3⟩ := am_off_at (pc := pc) tg s2 h
    intro ρ H locs ls h0 h1 hX hW hS hl
    exact lv_lookup (tgt := t) hC.1 hC.2.1 hd (am_inc_ok tg s1) rfl h2 (hk _ _ _ _ _ _ h3 ρ H locs ls h0 h1 hX hW hS hl)
  | op + 61, x, y, nx, c9, tg, lc, hch, h => am_stM hC hΓ hRf hRl hini hret hk op x y nx c9 tg lc hch h
end AMD
