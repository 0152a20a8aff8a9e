abbrev inN (v : Int32) (N : Nat) : Prop := 0 ≤ v.toInt ∧ v.toInt < (N : Int)
theorem inN_c {v : Int32} {N : Nat} (h : inN v N) : v.toNatClampNeg < N ∧ v = nI v.toNatClampNeg := by
  have e : v.toNatClampNeg = v.toInt.toNat := rfl
  have hb := Int32.toInt_lt v
  refine ⟨by rw [e]; omega, ?_⟩
  rw [fa_eq', nI_toInt (by rw [e]; omega), e]
  omega
theorem inN_nI {j N : Nat} (h : j < N) (hN : N ≤ 2 ^ 31) : inN (nI j) N := by
  show 0 ≤ (nI j).toInt ∧ (nI j).toInt < (N : Int)
  rw [nI_toInt (by omega)]
  omega
theorem in_iff {v c : Int32} {N : Nat} (hc : c.toInt = (N : Int) - 1) : (0 ≤ v ∧ v ≤ c) ↔ inN v N := by
  rw [i_le, i_le, hc, Int32.toInt_zero]
  constructor <;> intro h <;> constructor <;> have := h.1 <;> have := h.2 <;> omega
theorem nI_m1 {M : Nat} (h : M ≤ 1000000) : (nI M - 1).toInt = (M : Int) - 1 := by
  cases M with
  | zero => decide
  | succ M => rw [nI_pred, nI_toInt (by omega)]; omega
def kdw (w : Nat) : Nat → Nat := fun o => w / 3 ^ o % 3
def fitQ (K Q : KT) (w : Nat) : Bool := (List.range (Q 0 0)).all fun k => s_in K (kdw w) (Q 3 k) (Q 2 k) (Q 1 k + 1) == Q 4 k
def ctN (p : Nat → Bool) : Nat → Nat
  | 0 => 0
  | n + 1 => ctN p n + (if p n then 1 else 0)
def s_cnt (K Q : KT) : Nat := ctN (fitQ K Q) (3 ^ K 0 2)
def s_tly (K Q : KT) (o k : Nat) : Nat := ctN (fun w => fitQ K Q w && (kdw w o == k)) (3 ^ K 0 2)
def WfQ (K Q : KT) : Prop := Q 0 0 ≤ 10 ∧ ∀ k, k < Q 0 0 → Q 1 k < K 0 1 ∧ Q 2 k ≤ 9999 ∧ Q 3 k ≤ 1 ∧ Q 4 k ≤ 9999
def RepQ (σ : am_Sg) (Q : KT) : Prop := σ 43 0 = nI (Q 0 0) ∧ ∀ k, k < Q 0 0 → σ 54 k = nI (Q 2 k) ∧ σ 55 k = nI (Q 3 k) ∧ σ 56 k = nI (Q 1 k) ∧ σ 57 k = nI (Q 4 k)
def RepF (σ : am_Sg) (K Q : KT) : Prop := (σ 43 2 = 0 ∨ σ 43 2 = 1) ∧ (σ 43 2 = 1 → σ 43 1 = nI (s_cnt K Q) ∧ ∀ o, o < K 0 2 → ∀ k, k < 3 → σ (45 + o) k = nI (s_tly K Q o k))
def RepS (σ : am_Sg) (S : KT) (Ce : Nat → Nat → Int32) : Prop := ∀ k, k < 4 → σ (108 + 2 * k) 0 = nI (S k 0) ∧ σ (108 + 2 * k) 1 = nI (S k 1) ∧ σ (108 + 2 * k) 3 = nI (S k 2) ∧ ∀ i, i < 100 → σ (109 + 2 * k) i = Ce k i
def WfS (S : KT) : Prop := ∀ k, k < 4 → S k 0 ≤ 1 ∧ S k 1 ≤ 2 ∧ S k 2 ≤ 100
def RepZ (σ : am_Sg) (fl : Nat) (tr : Int32) : Prop := σ 0 10 = nI fl ∧ σ 0 11 = tr
def RepG (σ : am_Sg) : Prop := ∀ i, i < 8 → (σ 11 i = 0 ∨ σ 11 i = 1) ∧ (σ 22 i = 0 ∨ σ 22 i = 1)
def Nlf (n lf : Nat) : Prop := (lf = 0 ∧ n = 155) ∨ (lf = 156 ∧ n = 166)
def InvX (σ : am_Sg) (n lf : Nat) (K Q S : KT) (Ce : Nat → Nat → Int32) (fl : Nat) (tr : Int32) : Prop :=
  WfK K ∧ RepX σ 1 K ∧ WfQ K Q ∧ RepQ σ Q ∧ RepF σ K Q ∧ WfS S ∧ RepS σ S Ce ∧ RepZ σ fl tr ∧ RepG σ ∧ Nlf n lf
def Pq (q : Nat) : Prop := q ≤ 11 ∨ q = 43 ∨ (45 ≤ q ∧ q ≤ 52) ∨ (54 ≤ q ∧ q ≤ 57) ∨ (108 ≤ q ∧ q ≤ 115)
theorem InvX.keep {σ σ' : am_Sg} {n lf : Nat} {K Q S : KT} {Ce : Nat → Nat → Int32} {fl : Nat} {tr : Int32} (h : InvX σ n lf K Q S Ce fl tr) (hf : ∀ q, Pq q → σ' q = σ q) (hg : RepG σ') : InvX σ' n lf K Q S Ce fl tr := by
  obtain ⟨h1, h2, h3, h4, h5, h6, h7, h8, h9, h10⟩ := h
  unfold Pq at hf
  refine ⟨h1, h2.frame (fun q _ _ => hf q (by omega)), h3, ?_, ?_, h6, ?_, ?_, hg, h10⟩
  · unfold RepQ
    rw [hf 43 (by omega), hf 54 (by omega), hf 55 (by omega), hf 56 (by omega), hf 57 (by omega)]
    exact h4
  · unfold RepF
    rw [hf 43 (by omega)]
    exact ⟨h5.1, fun g => ⟨(h5.2 g).1, fun o ho k hk => by rw [hf (45 + o) (by have := h1.2.2.1; omega)]; exact (h5.2 g).2 o ho k hk⟩⟩
  · intro k hk
    rw [hf (108 + 2 * k) (by omega), hf (109 + 2 * k) (by omega)]
    exact h7 k hk
  · unfold RepZ
    rw [hf 0 (by omega)]
    exact h8
def FrX (σ σ' : am_Sg) : Prop := ∀ q, 116 ≤ q → q ≤ 154 → σ' q = σ q
def FrM (σ σ' : am_Sg) : Prop := ∀ q, q < 116 ∨ 155 ≤ q → σ' q = σ q
def InvM (σ : am_Sg) (K Q S : KT) (Ce : Nat → Nat → Int32) (fl : Nat) (tr : Int32) : Prop :=
  WfK K ∧ RepM σ K ∧ WfQ K Q ∧ (σ 116 33 = nI (Q 0 0) ∧ ∀ k, k < Q 0 0 → σ 140 k = nI (Q 1 k) ∧ σ 141 k = nI (Q 2 k) ∧ σ 142 k = nI (Q 3 k) ∧ σ 143 k = nI (Q 4 k)) ∧ WfS S ∧
  (∀ k, k < 4 → σ 117 k = (if S k 0 = 0 then -9 else nI (S k 1)) ∧ σ 118 k = nI (S k 2) ∧ ∀ i, i < 100 → σ 119 (100 * k + i) = Ce k i) ∧ σ 116 0 = nI fl ∧ σ 116 1 = tr
theorem InvX.fr {σ σ' : am_Sg} {n lf : Nat} {K Q S : KT} {Ce : Nat → Nat → Int32} {fl : Nat} {tr : Int32} (h : InvX σ n lf K Q S Ce fl tr) (hf : FrM σ σ') : InvX σ' n lf K Q S Ce fl tr :=
  h.keep (fun q hq => hf q (by unfold Pq at hq; omega)) (fun i hi => by rw [hf 11 (by omega), hf 22 (by omega)]; exact h.2.2.2.2.2.2.2.2.1 i hi)
/-- rows of the reference that stay: all but 135 .. 139, 144 .. 154 and the fields of its object that are only kept for a call -/
theorem InvM.keep {σ σ' : am_Sg} {K Q S : KT} {Ce : Nat → Nat → Int32} {fl : Nat} {tr : Int32} (h : InvM σ K Q S Ce fl tr) (hf : ∀ q, (117 ≤ q ∧ q ≤ 128) ∨ (140 ≤ q ∧ q ≤ 143) → σ' q = σ q) (h0 : ∀ i, i = 0 ∨ i = 1 ∨ i = 5 ∨ i = 6 ∨ i = 7 ∨ i = 17 ∨ i = 33 → σ' 116 i = σ 116 i) : InvM σ' K Q S Ce fl tr := by
  obtain ⟨h1, ⟨r1, r2, r3, r4, r5, r6, r7⟩, h3, h4, h5, h6, h7, h8⟩ := h
  refine ⟨h1, ⟨by rw [h0 5 (by omega)]; exact r1, by rw [h0 6 (by omega)]; exact r2, by rw [h0 7 (by omega)]; exact r3, by rw [h0 17 (by omega)]; exact r4, ?_, ?_, ?_⟩, h3, ?_, h5, ?_, by rw [h0 0 (by omega)]; exact h7, by rw [h0 1 (by omega)]; exact h8⟩
  · rw [hf 120 (by omega), hf 121 (by omega)]; exact r5
  · rw [hf 122 (by omega)]; exact r6
  · intro f hf9 o ho
    rw [hf (123 + f) (by omega)]; exact r7 f hf9 o ho
  · rw [h0 33 (by omega), hf 140 (by omega), hf 141 (by omega), hf 142 (by omega), hf 143 (by omega)]; exact h4
  · intro k hk
    rw [hf 117 (by omega), hf 118 (by omega), hf 119 (by omega)]
    exact h6 k hk
theorem InvM.fr {σ σ' : am_Sg} {K Q S : KT} {Ce : Nat → Nat → Int32} {fl : Nat} {tr : Int32} (h : InvM σ K Q S Ce fl tr) (hf : FrX σ σ') : InvM σ' K Q S Ce fl tr :=
  h.keep (fun q hq => hf q (by omega) (by omega)) (fun i _ => by rw [hf 116 (by omega) (by omega)])
def C_isIn : am_C := fun av n σ τ nf P => nf = n ∧ ∃ v a b : Int32, av = [.int v, .int a, .int b] ∧ ((a ≤ v ∧ v ≤ b) → P (some (.int 1)) σ τ) ∧ (¬ (a ≤ v ∧ v ≤ b) → P (some (.int 0)) σ τ)
theorem isIn_a {v a : Int32} (h : v < a) : ¬ a ≤ v := by rw [i_le]; rw [i_lt] at h; omega
theorem isIn_b {v a : Int32} (h : ¬ v < a) : a ≤ v := by rw [i_le]; rw [i_lt] at h; omega
set_option maxRecDepth 100000 in
theorem M_isIn (d : Nat) : am_Met (d + 1) 740 C_isIn := am_meth (own0 := "CanalEnd") 740 (d + 0) 0 T_X7_isIn (fun y => am_no) C_isIn rfl F_X7_isIn rfl (by decide +kernel) Tc_X7_isIn (fun y => am_no_met) (by
  intro av n σ τ nf P hnf hC
  obtain ⟨rfl, v, a, b, rfl, h1, h2⟩ := hC
  refine ⟨Nat.zero_le _, rfl, Nat.le_of_ble_eq_true rfl, fun Wb hs => ?_⟩
  refine hs (fun _ => false) 30 0 _ _ _ _ _ (vc_if (fun c1 => And.intro (Or.inl rfl) (And.intro rfl (h2 (fun g => isIn_a c1 g.1)))) (fun c1 => vc_if (fun c2 => And.intro (Or.inl rfl) (And.intro rfl (h2 (fun g => isIn_a c2 g.2)))) (fun c2 => And.intro (Or.inr rfl) (And.intro rfl (h1 ⟨isIn_b c1, isIn_b c2⟩))))))
def C_within : am_C := C_isIn
set_option maxRecDepth 100000 in
theorem M_within (d : Nat) : am_Met (d + 1) 803 C_within := am_meth (own0 := "CanalEndModel") 803 (d + 0) 0 T_X8_within (fun y => am_no) C_within rfl F_X8_within rfl (by decide +kernel) Tc_X8_within (fun y => am_no_met) (by
  intro av n σ τ nf P hnf hC
  obtain ⟨rfl, v, a, b, rfl, h1, h2⟩ := hC
  refine ⟨Nat.zero_le _, rfl, Nat.le_of_ble_eq_true rfl, fun Wb hs => ?_⟩
  refine hs (fun _ => false) 30 0 _ _ _ _ _ (vc_if (fun c1 => And.intro (Or.inl rfl) (And.intro rfl (h2 (fun g => isIn_a c1 g.1)))) (fun c1 => vc_if (fun c2 => And.intro (Or.inl rfl) (And.intro rfl (h2 (fun g => isIn_a c2 g.2)))) (fun c2 => And.intro (Or.inr rfl) (And.intro rfl (h1 ⟨isIn_b c1, isIn_b c2⟩))))))
/-- a number told 0 .. N - 1: yes, no -/
def C_in (N : Nat) : am_C := fun av n σ τ nf P => nf = n ∧ ∃ v : Int32, av = [.int v] ∧ (inN v N → P (some (.int 1)) σ τ) ∧ (¬ inN v N → P (some (.int 0)) σ τ)
def C_isWater : am_C := C_in 10000
def C_isSheet : am_C := C_in 4
def C_isSort : am_C := C_in 3
def C_mWater : am_C := C_in 10000
def C_mSheet : am_C := C_in 4
def C_mSort : am_C := C_in 3
set_option maxRecDepth 100000 in
theorem M_isWater (d : Nat) : am_Met (d + 2) 741 C_isWater := am_meth (own0 := "CanalEnd") 741 (d + 1) 0 T_X7_isWater (fun y => bif Nat.beq y 740 then C_isIn else (am_no)) C_isWater rfl F_X7_isWater rfl (by decide +kernel) Tc_X7_isWater (fun y => am_g (M_isIn (d + 0)) (am_no_met)) (by
  intro av n σ τ nf P hnf hC
  obtain ⟨rfl, v, rfl, h1, h2⟩ := hC
  refine ⟨Nat.zero_le _, rfl, Nat.le_of_ble_eq_true rfl, fun Wb hs => ?_⟩
  refine hs (fun _ => false) 30 0 _ _ _ _ _ ⟨rfl, v, 0, 9999, rfl, fun g => And.intro (Or.inr rfl) (And.intro rfl (h1 ((in_iff rfl).mp g))), fun g => And.intro (Or.inl rfl) (And.intro rfl (h2 (fun q => g ((in_iff rfl).mpr q))))⟩)
set_option maxRecDepth 100000 in
theorem M_isSheet (d : Nat) : am_Met (d + 2) 742 C_isSheet := am_meth (own0 := "CanalEnd") 742 (d + 1) 0 T_X7_isSheet (fun y => bif Nat.beq y 740 then C_isIn else (am_no)) C_isSheet rfl F_X7_isSheet rfl (by decide +kernel) Tc_X7_isSheet (fun y => am_g (M_isIn (d + 0)) (am_no_met)) (by
  intro av n σ τ nf P hnf hC
  obtain ⟨rfl, v, rfl, h1, h2⟩ := hC
  refine ⟨Nat.zero_le _, rfl, Nat.le_of_ble_eq_true rfl, fun Wb hs => ?_⟩
  refine hs (fun _ => false) 30 0 _ _ _ _ _ ⟨rfl, v, 0, 3, rfl, fun g => And.intro (Or.inr rfl) (And.intro rfl (h1 ((in_iff rfl).mp g))), fun g => And.intro (Or.inl rfl) (And.intro rfl (h2 (fun q => g ((in_iff rfl).mpr q))))⟩)
set_option maxRecDepth 100000 in
theorem M_isSort (d : Nat) : am_Met (d + 2) 743 C_isSort := am_meth (own0 := "CanalEnd") 743 (d + 1) 0 T_X7_isSort (fun y => bif Nat.beq y 740 then C_isIn else (am_no)) C_isSort rfl F_X7_isSort rfl (by decide +kernel) Tc_X7_isSort (fun y => am_g (M_isIn (d + 0)) (am_no_met)) (by
  intro av n σ τ nf P hnf hC
  obtain ⟨rfl, v, rfl, h1, h2⟩ := hC
  refine ⟨Nat.zero_le _, rfl, Nat.le_of_ble_eq_true rfl, fun Wb hs => ?_⟩
  refine hs (fun _ => false) 30 0 _ _ _ _ _ ⟨rfl, v, 0, 2, rfl, fun g => And.intro (Or.inr rfl) (And.intro rfl (h1 ((in_iff rfl).mp g))), fun g => And.intro (Or.inl rfl) (And.intro rfl (h2 (fun q => g ((in_iff rfl).mpr q))))⟩)
set_option maxRecDepth 100000 in
theorem M_mWater (d : Nat) : am_Met (d + 2) 823 C_mWater := am_meth (own0 := "CanalEndModel") 823 (d + 1) 0 T_X8_isWater (fun y => bif Nat.beq y 803 then C_within else (am_no)) C_mWater rfl F_X8_isWater rfl (by decide +kernel) Tc_X8_isWater (fun y => am_g (M_within (d + 0)) (am_no_met)) (by
  intro av n σ τ nf P hnf hC
  obtain ⟨rfl, v, rfl, h1, h2⟩ := hC
  refine ⟨Nat.zero_le _, rfl, Nat.le_of_ble_eq_true rfl, fun Wb hs => ?_⟩
  refine hs (fun _ => false) 30 0 _ _ _ _ _ ⟨rfl, v, 0, 9999, rfl, fun g => And.intro (Or.inr rfl) (And.intro rfl (h1 ((in_iff rfl).mp g))), fun g => And.intro (Or.inl rfl) (And.intro rfl (h2 (fun q => g ((in_iff rfl).mpr q))))⟩)
set_option maxRecDepth 100000 in
theorem M_mSheet (d : Nat) : am_Met (d + 2) 806 C_mSheet := am_meth (own0 := "CanalEndModel") 806 (d + 1) 0 T_X8_isSheet (fun y => bif Nat.beq y 803 then C_within else (am_no)) C_mSheet rfl F_X8_isSheet rfl (by decide +kernel) Tc_X8_isSheet (fun y => am_g (M_within (d + 0)) (am_no_met)) (by
  intro av n σ τ nf P hnf hC
  obtain ⟨rfl, v, rfl, h1, h2⟩ := hC
  refine ⟨Nat.zero_le _, rfl, Nat.le_of_ble_eq_true rfl, fun Wb hs => ?_⟩
  refine hs (fun _ => false) 30 0 _ _ _ _ _ ⟨rfl, v, 0, 3, rfl, fun g => And.intro (Or.inr rfl) (And.intro rfl (h1 ((in_iff rfl).mp g))), fun g => And.intro (Or.inl rfl) (And.intro rfl (h2 (fun q => g ((in_iff rfl).mpr q))))⟩)
set_option maxRecDepth 100000 in
theorem M_mSort (d : Nat) : am_Met (d + 2) 807 C_mSort := am_meth (own0 := "CanalEndModel") 807 (d + 1) 0 T_X8_isSort (fun y => bif Nat.beq y 803 then C_within else (am_no)) C_mSort rfl F_X8_isSort rfl (by decide +kernel) Tc_X8_isSort (fun y => am_g (M_within (d + 0)) (am_no_met)) (by
  intro av n σ τ nf P hnf hC
  obtain ⟨rfl, v, rfl, h1, h2⟩ := hC
  refine ⟨Nat.zero_le _, rfl, Nat.le_of_ble_eq_true rfl, fun Wb hs => ?_⟩
  refine hs (fun _ => false) 30 0 _ _ _ _ _ ⟨rfl, v, 0, 2, rfl, fun g => And.intro (Or.inr rfl) (And.intro rfl (h1 ((in_iff rfl).mp g))), fun g => And.intro (Or.inl rfl) (And.intro rfl (h2 (fun q => g ((in_iff rfl).mpr q))))⟩)
def C_isMile : am_C := fun av n σ τ nf P => nf = n ∧ 155 ≤ n ∧ ∃ (rw lf M : Nat) (v : Int32), τ = tauY rw lf ∧ av = [.ref 0, .int v] ∧ σ 1 1 = nI M ∧ M ≤ 10 ∧ (inN v M → P (some (.int 1)) σ τ) ∧ (¬ inN v M → P (some (.int 0)) σ τ)
set_option maxRecDepth 100000 in
theorem M_isMile (d : Nat) : am_Met (d + 2) 746 C_isMile := am_meth (own0 := "CanalEnd") 746 (d + 1) 155 T_X7_isMile (fun y => bif Nat.beq y 740 then C_isIn else (am_no)) C_isMile rfl F_X7_isMile rfl (by decide +kernel) Tc_X7_isMile (fun y => am_g (M_isIn (d + 0)) (am_no_met)) (by
  intro av n σ τ nf P hnf hC
  obtain ⟨rfl, hn, rw, lf, M, v, rfl, rfl, hM, hb, h1, h2⟩ := hC
  refine ⟨hn, rfl, Nat.le_of_ble_eq_true rfl, fun Wb hs => ?_⟩
  have hi := in_iff (v := v) (nI_m1 (M := M) (by omega))
  refine hs (fun _ => false) 30 0 _ _ _ _ _ ⟨rfl, v, 0, nI M - 1, by rw [← hM], fun g => And.intro (Or.inr rfl) (And.intro rfl (h1 (hi.mp g))), fun g => And.intro (Or.inl rfl) (And.intro rfl (h2 (fun q => g (hi.mpr q))))⟩)
def C_isOutlet : am_C := fun av n σ τ nf P => nf = n ∧ 155 ≤ n ∧ ∃ (rw lf M : Nat) (v : Int32), τ = tauY rw lf ∧ av = [.ref 0, .int v] ∧ σ 1 2 = nI M ∧ M ≤ 10 ∧ (inN v M → P (some (.int 1)) σ τ) ∧ (¬ inN v M → P (some (.int 0)) σ τ)
set_option maxRecDepth 100000 in
theorem M_isOutlet (d : Nat) : am_Met (d + 2) 747 C_isOutlet := am_meth (own0 := "CanalEnd") 747 (d + 1) 155 T_X7_isOutlet (fun y => bif Nat.beq y 740 then C_isIn else (am_no)) C_isOutlet rfl F_X7_isOutlet rfl (by decide +kernel) Tc_X7_isOutlet (fun y => am_g (M_isIn (d + 0)) (am_no_met)) (by
  intro av n σ τ nf P hnf hC
  obtain ⟨rfl, hn, rw, lf, M, v, rfl, rfl, hM, hb, h1, h2⟩ := hC
  refine ⟨hn, rfl, Nat.le_of_ble_eq_true rfl, fun Wb hs => ?_⟩
  have hi := in_iff (v := v) (nI_m1 (M := M) (by omega))
  refine hs (fun _ => false) 30 0 _ _ _ _ _ ⟨rfl, v, 0, nI M - 1, by rw [← hM], fun g => And.intro (Or.inr rfl) (And.intro rfl (h1 (hi.mp g))), fun g => And.intro (Or.inl rfl) (And.intro rfl (h2 (fun q => g (hi.mpr q))))⟩)
def C_mMile : am_C := fun av n σ τ nf P => nf = n ∧ 155 ≤ n ∧ ∃ (rw lf M : Nat) (v : Int32), τ = tauY rw lf ∧ av = [.ref 116, .int v] ∧ σ 116 6 = nI M ∧ M ≤ 10 ∧ (inN v M → P (some (.int 1)) σ τ) ∧ (¬ inN v M → P (some (.int 0)) σ τ)
set_option maxRecDepth 100000 in
theorem M_mMile (d : Nat) : am_Met (d + 1) 809 C_mMile := am_meth (own0 := "CanalEndModel") 809 (d + 0) 155 T_X8_isMile (fun y => am_no) C_mMile rfl F_X8_isMile rfl (by decide +kernel) Tc_X8_isMile (fun y => am_no_met) (by
  intro av n σ τ nf P hnf hC
  obtain ⟨rfl, hn, rw, lf, M, v, rfl, rfl, hM, hb, h1, h2⟩ := hC
  refine ⟨hn, rfl, Nat.le_of_ble_eq_true rfl, fun Wb hs => ?_⟩
  refine hs (fun _ => false) 30 0 _ _ _ _ _ (vc_if (fun c1 => And.intro (Or.inl rfl) (And.intro rfl (h2 ?_))) (fun c1 => vc_if (fun c2 => And.intro (Or.inl rfl) (And.intro rfl (h2 ?_))) (fun c2 => And.intro (Or.inr rfl) (And.intro rfl (h1 ?_)))))
  · rw [i_lt, Int32.toInt_zero] at c1; omega
  · rw [hM, i_le, nI_toInt (by omega)] at c2; omega
  · rw [hM, i_le, nI_toInt (by omega)] at c2; rw [i_lt, Int32.toInt_zero] at c1; omega)
def C_mOutlet : am_C := fun av n σ τ nf P => nf = n ∧ 155 ≤ n ∧ ∃ (rw lf M : Nat) (v : Int32), τ = tauY rw lf ∧ av = [.ref 116, .int v] ∧ σ 116 7 = nI M ∧ M ≤ 10 ∧ (inN v M → P (some (.int 1)) σ τ) ∧ (¬ inN v M → P (some (.int 0)) σ τ)
set_option maxRecDepth 100000 in
theorem M_mOutlet (d : Nat) : am_Met (d + 1) 810 C_mOutlet := am_meth (own0 := "CanalEndModel") 810 (d + 0) 155 T_X8_isOutlet (fun y => am_no) C_mOutlet rfl F_X8_isOutlet rfl (by decide +kernel) Tc_X8_isOutlet (fun y => am_no_met) (by
  intro av n σ τ nf P hnf hC
  obtain ⟨rfl, hn, rw, lf, M, v, rfl, rfl, hM, hb, h1, h2⟩ := hC
  refine ⟨hn, rfl, Nat.le_of_ble_eq_true rfl, fun Wb hs => ?_⟩
  refine hs (fun _ => false) 30 0 _ _ _ _ _ (vc_if (fun c1 => And.intro (Or.inl rfl) (And.intro rfl (h2 ?_))) (fun c1 => vc_if (fun c2 => And.intro (Or.inl rfl) (And.intro rfl (h2 ?_))) (fun c2 => And.intro (Or.inr rfl) (And.intro rfl (h1 ?_)))))
  · rw [i_lt, Int32.toInt_zero] at c1; omega
  · rw [hM, i_le, nI_toInt (by omega)] at c2; omega
  · rw [hM, i_le, nI_toInt (by omega)] at c2; rw [i_lt, Int32.toInt_zero] at c1; omega)
