/-- what all outlets below n take -/
def s_tt (K : KT) (kd : Nat → Nat) (nt f : Nat) : Nat → Nat
  | 0 => 0
  | n + 1 => s_tt K kd nt f n + s_ta K kd nt f n
theorem s_tt_mile {K : KT} {kd : Nat → Nat} {nt f j : Nat} (h : WfK K) (hj : j < K 0 1) : ∀ m, m ≤ K 4 j → s_tt K kd nt f (K 3 j + m) + s_ou K kd nt (s_le K kd nt f j) (K 3 j) (s_af K kd nt f j) m = s_tt K kd nt f (K 3 j) + s_af K kd nt f j
  | 0, _ => rfl
  | m + 1, hm => by
    have ih := s_tt_mile (kd := kd) (nt := nt) (f := f) h hj m (by omega)
    obtain ⟨_, e5⟩ := wf_mile h hj (show K 3 j ≤ K 3 j + m by omega) (by omega)
    have et : s_ta K kd nt f (K 3 j + m) = s_tk K (K 3 j + m) (kd (K 3 j + m)) (s_le K kd nt f j) (s_ou K kd nt (s_le K kd nt f j) (K 3 j) (s_af K kd nt f j) m) nt := by
      unfold s_ta
      rw [e5, Nat.add_sub_cancel_left]
    have e1 : s_tt K kd nt f (K 3 j + (m + 1)) = s_tt K kd nt f (K 3 j + m) + s_ta K kd nt f (K 3 j + m) := rfl
    have e2 : s_ou K kd nt (s_le K kd nt f j) (K 3 j) (s_af K kd nt f j) (m + 1) = s_ou K kd nt (s_le K kd nt f j) (K 3 j) (s_af K kd nt f j) m - s_tk K (K 3 j + m) (kd (K 3 j + m)) (s_le K kd nt f j) (s_ou K kd nt (s_le K kd nt f j) (K 3 j) (s_af K kd nt f j) m) nt := rfl
    have hl := s_tk_le K (K 3 j + m) (kd (K 3 j + m)) (s_le K kd nt f j) (s_ou K kd nt (s_le K kd nt f j) (K 3 j) (s_af K kd nt f j) m) nt
    rw [e1, e2, et]
    omega
/-- no water is lost -/
theorem s_cons {K : KT} {kd : Nat → Nat} {nt f : Nat} (h : WfK K) : ∀ j, j ≤ K 0 1 → s_tt K kd nt f (fo K j) + s_ss K kd nt f j + s_in K kd nt f j = f
  | 0, _ => by
    rw [fo_0 h]
    show 0 + 0 + f = f
    omega
  | j + 1, hj => by
    have ih := s_cons (kd := kd) (nt := nt) (f := f) h j (by omega)
    have hm := s_tt_mile (kd := kd) (nt := nt) (f := f) h (show j < K 0 1 by omega) (K 4 j) (Nat.le_refl _)
    rw [fo_lt (show j < K 0 1 by omega)] at ih
    rw [fo_succ h (show j < K 0 1 by omega)]
    have e1 : s_ss K kd nt f (j + 1) = s_ss K kd nt f j + s_sp K j (s_in K kd nt f j) := rfl
    have e2 : s_in K kd nt f (j + 1) = s_ou K kd nt (s_le K kd nt f j) (K 3 j) (s_af K kd nt f j) (K 4 j) := rfl
    have e3 : s_af K kd nt f j = s_in K kd nt f j - s_sp K j (s_in K kd nt f j) := rfl
    have hs := s_sp_le (K := K) (j := j) (w := s_in K kd nt f j) (h.2.2.2.2.2.2.1 j (by omega)).1
    rw [e1, e2]
    omega
theorem s_cons_end {K : KT} {kd : Nat → Nat} {nt f : Nat} (h : WfK K) : s_tt K kd nt f (K 0 2) + s_ss K kd nt f (K 0 1) + s_in K kd nt f (K 0 1) = f := by
  have := s_cons (kd := kd) (nt := nt) (f := f) h (K 0 1) (Nat.le_refl _)
  rw [fo_end] at this
  exact this
/-- a part of an hour, by what is asked -/
def s_pt (K : KT) (nt f w : Nat) : Nat := if w = 0 then f else if w = 1 then s_ss K (K 8) nt f (K 0 1) else if w = 2 then s_tt K (K 8) nt f (K 0 2) else if w = 3 then s_in K (K 8) nt f (K 0 1) else s_ta K (K 8) nt f (w - 10)
def ngf (v : Int32) : Nat := if v < 0 then 1 else 0
def rSum (K : KT) (c : Nat → Int32) (i w : Nat) : Nat → Int32
  | 0 => 0
  | z + 1 => rSum K c i w z + nI (s_pt K (ngf (c (i + z))) (c (i + z)).toInt.natAbs w)
abbrev alW (c : Nat → Int32) (i m : Nat) : Prop := ∀ z, z < m → -9999 ≤ (c (i + z)).toInt ∧ (c (i + z)).toInt ≤ 9999
abbrev okW (K : KT) (w : Int32) : Prop := inN w 4 ∨ (10 ≤ w.toInt ∧ w.toInt < 10 + (K 0 2 : Int))
theorem abs_x {a : Int32} (h : -9999 ≤ a.toInt ∧ a.toInt ≤ 9999) : (if 0 ≤ a then a else 0 - a) = nI a.toInt.natAbs := by
  rw [fa_eq', nI_toInt (by omega)]
  by_cases g : 0 ≤ a
  · rw [if_pos g]
    rw [i_le, Int32.toInt_zero] at g
    omega
  · rw [if_neg g, Int32.toInt_sub, Int32.toInt_zero]
    rw [i_le, Int32.toInt_zero] at g
    rw [Int.bmod_eq_of_le (by omega) (by omega)]
    omega
theorem abs_m {a : Int32} (h : -9999 ≤ a.toInt ∧ a.toInt ≤ 9999) : (a < 0 → -a = nI a.toInt.natAbs) ∧ (¬ a < 0 → a = nI a.toInt.natAbs) := by
  refine ⟨fun g => ?_, fun g => ?_⟩
  · rw [fa_eq', nI_toInt (by omega), Int32.toInt_neg]
    have g := i_neg.mp g
    rw [Int.bmod_eq_of_le (by omega) (by omega)]
    omega
  · rw [fa_eq', nI_toInt (by omega)]
    rw [i_neg] at g
    omega
