def am_tab (N : Nat) (T0 : Nat → Option am_AI) (pc : Nat) : Option am_AI := bif Nat.blt pc N then T0 pc else none
theorem am_tab_ok {own : String} {rt : Option FieldType} {kd : Nat} {cc : ByteArray} {N : Nat} {T0 : Nat → Option am_AI} (h : (List.range N).all (fun pc => match T0 pc with
  | none => true
  | some ai => am_chk own rt kd cc pc ai) = true) : ∀ pc ai, am_tab N T0 pc = some ai → am_chk own rt kd cc pc ai = true := by
  intro pc ai ht
  unfold am_tab at ht
  cases hb : Nat.blt pc N with
  | false => rw [hb] at ht; cases ht
  | true =>
    rw [hb] at ht
    have h1 := List.all_eq_true.mp h pc (List.mem_range.mpr (Nat.blt_eq.mp hb))
    have ht : T0 pc = some ai := ht
    rw [ht] at h1
    exact h1
