def sg1 : am_Sg := s_X8 116 (am_z (s_X7 0 (am_z (fun _ _ => 0) 0 0)) 116 0)
def ta1 : am_Tu := t_X8 116 (am_z (t_X7 0 (am_z (fun _ _ => 0) 0 0)) 116 0)
theorem ta1_lo : ∀ q, q < 155 → ∀ i, i < 52 → ta1 q i = tauY 0 0 q i := by decide +kernel
def Hi (τ : am_Tu) : Prop := ∀ q j, τ q (j + 52) = 0
theorem beq_f {a b : Nat} (h : ¬ a = b) : Nat.beq a b = false := Bool.eq_false_iff.mpr (fun z => h (Nat.eq_of_beq_eq_true z))
theorem Hi.up {τ : am_Tu} {q i v : Nat} (h : Hi τ) (hi : i < 52) : Hi (am_up τ q i v) := fun a j => by
  unfold am_up
  rw [beq_f (a := j + 52) (b := i) (by omega), Bool.and_false]
  exact h a j
theorem Hi.z {τ : am_Tu} {q : Nat} (h : Hi τ) : Hi (am_z τ q 0) := fun a j => by
  unfold am_z
  cases Nat.beq a q with
  | true => rfl
  | false => exact h a j
theorem Hi.row {τ : am_Tu} {q n : Nat} (h : Hi τ) (hn : n ≤ 52) : Hi (am_rowT τ q n) := fun a j => by
  unfold am_rowT
  rw [blt_f (i := j + 52) (N := n) (by omega)]
  cases Nat.beq a q with
  | true => rfl
  | false =>
    cases (Nat.ble q a && Nat.blt a (q + 1 + n)) with
    | true => rfl
    | false => exact h a j
theorem Hi_0 : Hi (fun _ _ => 0) := fun _ _ => rfl
theorem Hi_X3 {h : Nat} {τ : am_Tu} (hh : Hi τ) : Hi (t_X3 h τ) := (Hi.up (Hi.z (Hi.up (Hi.z (Hi.up (Hi.z (Hi.up (Hi.z hh) (by decide))) (by decide))) (by decide))) (by decide))
theorem Hi_X5 {h : Nat} {τ : am_Tu} (hh : Hi τ) : Hi (t_X5 h τ) := (Hi.up hh (by decide))
theorem Hi_X4 {h : Nat} {τ : am_Tu} (hh : Hi τ) : Hi (t_X4 h τ) := (Hi.up (Hi.z hh) (by decide))
theorem Hi_X2 {h : Nat} {τ : am_Tu} (hh : Hi τ) : Hi (t_X2 h τ) := (Hi.up (Hi.z hh) (by decide))
theorem Hi_X0 {h : Nat} {τ : am_Tu} (hh : Hi τ) : Hi (t_X0 h τ) := (Hi.up (Hi.z (Hi.up (Hi.z (Hi.up (Hi.z (Hi.up (Hi.z (Hi.up (Hi.z (Hi.up (Hi.z (Hi.up (Hi.z (Hi.up (Hi.z (Hi.up (Hi.z (Hi.up (Hi.z hh) (by decide))) (by decide))) (by decide))) (by decide))) (by decide))) (by decide))) (by decide))) (by decide))) (by decide))) (by decide))
theorem Hi_X1 {h : Nat} {τ : am_Tu} (hh : Hi τ) : Hi (t_X1 h τ) := (Hi.up (Hi_X3 (Hi.z (Hi.up (Hi.z hh) (by decide)))) (by decide))
theorem Hi_X6 {h : Nat} {τ : am_Tu} (hh : Hi τ) : Hi (t_X6 h τ) := (Hi.up (Hi.up (Hi.z (Hi.up (Hi.row (Hi.up (Hi.row (Hi.up (Hi.row (Hi.up (Hi.z (Hi.up (Hi.z (Hi.up (Hi.z (Hi.up (Hi.z (Hi.up (Hi.z (Hi.up (Hi.row hh (by decide)) (by decide))) (by decide))) (by decide))) (by decide))) (by decide))) (by decide)) (by decide)) (by decide)) (by decide)) (by decide)) (by decide)) (by decide))) (by decide)) (by decide))
theorem Hi_X8 {h : Nat} {τ : am_Tu} (hh : Hi τ) : Hi (t_X8 h τ) := (Hi.up (Hi.z (Hi.up (Hi.z (Hi.up (Hi.z (Hi.up (Hi.z (Hi.up (Hi.z (Hi.up (Hi.z (Hi.up (Hi.z (Hi.up (Hi.z (Hi.up (Hi.z (Hi.up (Hi.z (Hi.up (Hi.z (Hi.up (Hi.z (Hi.up (Hi.z (Hi.up (Hi.z (Hi.up (Hi.z (Hi.up (Hi.z (Hi.up (Hi.z (Hi.up (Hi.z (Hi.up (Hi.z (Hi.up (Hi.z (Hi.up (Hi.z (Hi.up (Hi.z (Hi.up (Hi.z (Hi.up (Hi.z (Hi.up (Hi.z (Hi.up (Hi.z (Hi.up (Hi.z (Hi.up (Hi.z (Hi.up (Hi.z (Hi.up (Hi.z (Hi.up (Hi.z (Hi.up (Hi.z (Hi.up (Hi.z (Hi.up (Hi.z (Hi.up (Hi.z (Hi.up (Hi.z (Hi.up (Hi.z (Hi.up (Hi.z hh) (by decide))) (by decide))) (by decide))) (by decide))) (by decide))) (by decide))) (by decide))) (by decide))) (by decide))) (by decide))) (by decide))) (by decide))) (by decide))) (by decide))) (by decide))) (by decide))) (by decide))) (by decide))) (by decide))) (by decide))) (by decide))) (by decide))) (by decide))) (by decide))) (by decide))) (by decide))) (by decide))) (by decide))) (by decide))) (by decide))) (by decide))) (by decide))) (by decide))) (by decide))) (by decide))) (by decide))) (by decide))) (by decide))
theorem Hi_X7 {h : Nat} {τ : am_Tu} (hh : Hi τ) : Hi (t_X7 h τ) := (Hi.up (Hi_X4 (Hi.z (Hi.up (Hi_X4 (Hi.z (Hi.up (Hi_X4 (Hi.z (Hi.up (Hi_X4 (Hi.z (Hi.up (Hi.z (Hi.up (Hi.z (Hi.up (Hi_X2 (Hi.z (Hi.up (Hi_X6 (Hi.z (Hi.up (Hi_X1 (Hi.z (Hi.up (Hi_X1 (Hi.z (Hi.up (Hi_X3 (Hi.z (Hi.up (Hi_X5 (Hi.z (Hi.up (Hi_X0 (Hi.z (Hi.up (Hi_X0 (Hi.z hh)) (by decide)))) (by decide)))) (by decide)))) (by decide)))) (by decide)))) (by decide)))) (by decide)))) (by decide))) (by decide))) (by decide)))) (by decide)))) (by decide)))) (by decide)))) (by decide))
theorem ta1_hi : Hi ta1 := Hi_X8 (Hi_X7 Hi_0.z).z
theorem tauY_hi : Hi (tauY 0 0) := by
  intro q j
  unfold tauY
  rw [beq_f (a := j + 52) (b := 0) (by omega), beq_f (a := j + 52) (b := 14) (by omega), Bool.and_false, Bool.and_false]
  show tau0 q (j + 52) = 0
  unfold tau0
  simp only [show ∀ k, k ≤ 52 → Nat.blt (j + 52) k = false from fun k hk => blt_f (by omega), Nat.le_refl, Nat.reduceLeDiff, cond_false, Bool.cond_self]
theorem ta1_eq {q : Nat} (hq : q < 155) (i : Nat) : ta1 q i = tauY 0 0 q i := by
  by_cases h : i < 52
  · exact ta1_lo q hq i h
  · rw [show i = (i - 52) + 52 by omega, ta1_hi, tauY_hi]
def K00 : KT := fun a b => bif Nat.beq a 0 && Nat.beq b 3 then 5 else 0
def s00 : ST := (K00, fun _ _ => 0, fun _ _ => 0, fun _ _ => 0, 0, 0)
theorem K00_wf : WfK K00 := ⟨by decide, by decide, by decide, by decide, fun h => absurd h (Nat.lt_irrefl _), fun _ => rfl, fun j h => absurd h (Nat.not_lt_zero _), fun j h => absurd h (Nat.not_lt_zero _), fun h => absurd h (Nat.lt_irrefl _), fun j h => absurd h (Nat.not_lt_zero _)⟩
theorem Q00_wf : WfQ K00 (fun _ _ => 0) := ⟨by decide, fun k h => absurd h (Nat.not_lt_zero _)⟩
theorem S00_wf : WfS (fun _ _ => 0) := fun _ _ => ⟨Nat.zero_le _, Nat.zero_le _, Nat.zero_le _⟩
theorem sg1_x : IX sg1 155 0 s00 := by
  refine ⟨K00_wf, ⟨by decide +kernel, fun f _ j h => absurd h (Nat.not_lt_zero _), fun f _ j h => absurd h (Nat.not_lt_zero _)⟩, Q00_wf, ⟨by decide +kernel, fun k h => absurd h (Nat.not_lt_zero _)⟩, ⟨Or.inl (by decide +kernel), fun h => absurd h (by decide +kernel)⟩, S00_wf, ?_, ⟨by decide +kernel, by decide +kernel⟩, ?_, Or.inl ⟨rfl, rfl⟩⟩
  · have h : ∀ k, k < 4 → sg1 (108 + 2 * k) 0 = 0 ∧ sg1 (108 + 2 * k) 1 = 0 ∧ sg1 (108 + 2 * k) 3 = 0 ∧ ∀ i, i < 100 → sg1 (109 + 2 * k) i = 0 := by decide +kernel
    exact h
  · have h : ∀ i, i < 8 → (sg1 11 i = 0 ∨ sg1 11 i = 1) ∧ (sg1 22 i = 0 ∨ sg1 22 i = 1) := by decide +kernel
    exact h
theorem sg1_m : IM sg1 s00 := by
  refine ⟨K00_wf, ⟨by decide +kernel, by decide +kernel, by decide +kernel, by decide +kernel, fun j h => absurd h (Nat.not_lt_zero _), ?_, fun f _ j h => absurd h (Nat.not_lt_zero _)⟩, Q00_wf, ⟨by decide +kernel, fun k h => absurd h (Nat.not_lt_zero _)⟩, S00_wf, ?_, by decide +kernel, by decide +kernel⟩
  · intro j hj
    have hj : j ≤ 0 := hj
    have e : j = 0 := by omega
    subst e
    decide +kernel
  · have h : ∀ k, k < 4 → sg1 117 k = -9 ∧ sg1 118 k = 0 ∧ ∀ i, i < 100 → sg1 119 (100 * k + i) = 0 := by decide +kernel
    exact h
