def mxV (g : Nat → Nat) : Nat → Nat
  | 0 => 0
  | n + 1 => max (mxV g n) (g n)
theorem mxV_le {g : Nat → Nat} : ∀ n v, v < n → g v ≤ mxV g n
  | 0, v, h => by omega
  | n + 1, v, h => by
    by_cases e : v = n
    · rw [e]; exact Nat.le_max_right _ _
    · exact Nat.le_trans (mxV_le n v (by omega)) (Nat.le_max_left _ _)
theorem mxV_ub {g : Nat → Nat} {B : Nat} : ∀ n, (∀ v, v < n → g v ≤ B) → mxV g n ≤ B
  | 0, _ => Nat.zero_le _
  | n + 1, h => Nat.max_le.mpr ⟨mxV_ub n (fun v hv => h v (by omega)), h n (by omega)⟩
theorem mxV_c {g g' : Nat → Nat} : ∀ n, (∀ v, v < n → g v = g' v) → mxV g n = mxV g' n
  | 0, _ => rfl
  | n + 1, h => by
    show max (mxV g n) (g n) = max (mxV g' n) (g' n)
    rw [mxV_c n (fun v hv => h v (by omega)), h n (by omega)]
theorem mxV_up {g g' : Nat → Nat} {n v0 mo : Nat} (hv : v0 < n) (h0 : g' v0 = g v0 + mo) (h1 : ∀ v, v < n → ¬ v = v0 → g' v = g v) : mxV g' n = max (mxV g n) (g v0 + mo) := by
  apply Nat.le_antisymm
  · refine mxV_ub n (fun v hv9 => ?_)
    by_cases e : v = v0
    · rw [e, h0]; exact Nat.le_max_right _ _
    · rw [h1 v hv9 e]; exact Nat.le_trans (mxV_le n v hv9) (Nat.le_max_left _ _)
  · refine Nat.max_le.mpr ⟨mxV_ub n (fun v hv9 => ?_), by rw [← h0]; exact mxV_le n v0 hv⟩
    by_cases e : v = v0
    · have := mxV_le (g := g') n v0 hv
      rw [e]; omega
    · rw [← h1 v hv9 e]; exact mxV_le n v hv9
theorem ok156 : ∀ j, j < 10 → (am_al 155 166 (156 + j) && Nat.beq (am_knd (156 + j)) 10) = true ∧ am_len (156 + j) = 10000 := by decide +kernel
theorem t155 {i : Nat} (h : i < 10) : tauY 0 156 155 i = 156 + i + 1 := by
  show (bif Nat.blt i 10 then 157 + i else 0) = _
  rw [blt_t h]
  show 157 + i = _
  omega
theorem imax {a b : Nat} (ha : a < 2 ^ 31) (hb : b < 2 ^ 31) : (if nI a < nI b then nI b else nI a) = nI (max a b) := by
  by_cases h : a < b
  · rw [if_pos (nI_lt h hb), Nat.max_eq_right (by omega)]
  · rw [if_neg (nI_nlt (by omega) ha), Nat.max_eq_left (by omega)]
def LeR (σ : am_Sg) (M F : Nat) (Le : Nat → Nat → Nat) : Prop := (∀ j, j < M → ∀ v, v ≤ F → σ (156 + j) v = nI (Le j v)) ∧ (∀ j, j < M → σ 53 j = nI (mxV (Le j) (F + 1)))
def addL (Le : Nat → Nat → Nat) (gv : Nat → Nat) (a b mo : Nat) : Nat → Nat → Nat := fun j v => Le j v + if a ≤ j ∧ j < b ∧ v = gv j then mo else 0
def C_noteG : am_C := fun av n σ τ nf P => nf = n ∧ n = 166 ∧ ∃ (a b mo F M : Nat) (Le : Nat → Nat → Nat) (gv : Nat → Nat), τ = tauY 0 156 ∧ av = [.ref 43, .int (nI a), .int (nI b), .int (nI mo)] ∧ a ≤ b ∧ b ≤ M ∧ M ≤ 10 ∧ F ≤ 9999 ∧ mo ≤ 6561 ∧ (∀ j, a ≤ j → j < b → σ 103 j = nI (gv j) ∧ gv j ≤ F) ∧ (∀ j, j < M → ∀ v, v ≤ F → Le j v ≤ 6561) ∧ LeR σ M F Le ∧ ∀ σ', LeR σ' M F (addL Le gv a b mo) → (∀ q, ¬ q = 53 → ¬ (156 ≤ q ∧ q ≤ 165) → σ' q = σ q) → P none σ' τ
set_option maxRecDepth 100000 in
theorem M_noteG (d : Nat) : am_Met (d + 1) 615 C_noteG := am_meth (own0 := "CanalEnd$Worlds") 615 (d + 0) 155 T_X6_noteGauges (fun y => am_no) C_noteG rfl F_X6_noteGauges rfl (by decide +kernel) Tc_X6_noteGauges (fun y => am_no_met) (by
  intro av n σ τ nf P hnf hC
  obtain ⟨rfl, rfl, a, b, mo, F, M, Le, gv, rfl, rfl, hab, hbM, hM, hF, hmo, hg, hLe, hL, hP⟩ := hC
  refine ⟨Nat.le_of_ble_eq_true rfl, rfl, Nat.le_of_ble_eq_true rfl, fun Wb hs => ?_⟩
  have k11 : ∀ r j (x5 : Option Value) (σ1 : am_Sg), j + r = b → a ≤ j → LeR σ1 M F (addL Le gv a j mo) → (∀ q, ¬ q = 53 → ¬ (156 ≤ q ∧ q ≤ 165) → σ1 q = σ q) → Wb 11 [some (.ref 43), some (.int (nI a)), some (.int (nI b)), some (.int (nI mo)), some (.int (nI j)), x5] [] 166 σ1 (tauY 0 156) := by
    intro r
    induction r with
    | zero =>
      intro j x5 σ1 hj haj g1 g2
      have hj : j = b := by omega
      subst hj
      exact hs (fun p => Nat.beq p 11) 80 11 _ _ _ _ _ (vc_t (nI_le (Nat.le_refl _) (by omega)) (And.intro rfl (hP σ1 g1 g2)))
    | succ r ih =>
      intro j x5 σ1 hj haj g1 g2
      have hcj : (nI j).toNatClampNeg = j := nI_clamp (by omega)
      obtain ⟨ok1, ok2⟩ := ok156 j (by omega)
      obtain ⟨e1, e2⟩ := hg j haj (by omega)
      have e103 : σ1 103 j = nI (gv j) := by rw [g2 103 (by omega) (by omega)]; exact e1
      have hcg : (nI (gv j)).toNatClampNeg = gv j := nI_clamp (by omega)
      have vj : vp_in (nI j) (am_len 103) := vin (show j < 10 by omega)
      have vg : vp_in (nI (gv j)) (am_len (156 + j)) := vin (by rw [ok2]; omega)
      have lv : addL Le gv a j mo j (gv j) = Le j (gv j) := by unfold addL; rw [if_neg (by omega)]; rfl
      have lb := hLe j (by omega) (gv j) e2
      have v1 : σ1 (156 + j) (gv j) = nI (Le j (gv j)) := by rw [g1.1 j (by omega) (gv j) e2, lv]
      refine hs (fun p => Nat.beq p 11) 80 11 _ _ _ _ _ (vc_f (nI_ge (by omega) (by omega)) (And.intro (vin (q := 155) (show j < 10 by omega)) ?_))
      rw [hcj]
      refine aal (t155 (by omega)) (And.intro vj ?_)
      rw [hcj, e103]
      refine vc_gd ok1 (And.intro vg ?_)
      rw [hcg, v1]
      refine And.intro (vin (q := 155) (show j < 10 by omega)) ?_
      rw [hcj]
      refine aal (t155 (by omega)) (And.intro vj ?_)
      rw [hcj, e103]
      refine vc_gd ok1 (And.intro vg (fun σ2 f2 => ?_))
      rw [hcg] at f2
      have f2 : σ2 = am_up σ1 (156 + j) (gv j) (nI (Le j (gv j)) + nI mo) := f2
      rw [nI_add] at f2
      have mb : mxV (addL Le gv a j mo j) (F + 1) ≤ 6561 := mxV_ub _ (fun v hv => by
        have : addL Le gv a j mo j v = Le j v := by unfold addL; rw [if_neg (by omega)]; rfl
        rw [this]
        exact hLe j (by omega) v (by omega))
      have v53 : σ2 53 j = nI (mxV (addL Le gv a j mo j) (F + 1)) := by rw [f2, up_rn (by omega)]; exact g1.2 j (by omega)
      refine And.intro (vin (q := 53) (show j < 10 by omega)) (And.intro (vin (q := 53) (show j < 10 by omega)) (fun σ3 f3 => ?_))
      rw [hcj, v53, nI_add, imax (by omega) (by omega)] at f3
      have f3 : σ3 = am_up σ2 53 j (nI (max (mxV (addL Le gv a j mo j) (F + 1)) (Le j (gv j) + mo))) := f3
      have sm : ∀ z v, ¬ (z = j ∧ v = gv j) → addL Le gv a (j + 1) mo z v = addL Le gv a j mo z v := fun z v h => by
        unfold addL
        by_cases c : a ≤ z ∧ z < j ∧ v = gv z
        · rw [if_pos c, if_pos ⟨c.1, by omega, c.2.2⟩]
        · rw [if_neg c, if_neg (fun q => ?_)]
          by_cases e : z = j
          · exact h ⟨e, by rw [← e]; exact q.2.2⟩
          · exact c ⟨q.1, by omega, q.2.2⟩
      have sn : addL Le gv a (j + 1) mo j (gv j) = Le j (gv j) + mo := by
        unfold addL
        rw [if_pos ⟨haj, by omega, rfl⟩]
      have h9 := ih (j + 1) (some (.int (nI (Le j (gv j)) + nI mo))) σ3 (by omega) (by omega) ⟨fun z hz v hv => ?_, fun z hz => ?_⟩ (fun q h1 h2 => by rw [f3, am_up_ne h1, f2, am_up_ne (by omega)]; exact g2 q h1 h2)
      · rw [nI_succ] at h9
        exact h9
      · by_cases e : z = j
        · subst e
          by_cases e2 : v = gv z
          · rw [e2, sn, f3, up_rn (by omega), f2, up_at]
          · rw [sm z v (fun q => e2 q.2), f3, up_rn (by omega), f2, up_ne e2]
            exact g1.1 z hz v hv
        · rw [sm z v (fun q => e q.1), f3, up_rn (by omega), f2, up_rn (by omega)]
          exact g1.1 z hz v hv
      · by_cases e : z = j
        · subst e
          rw [f3, up_at, mxV_up (g := addL Le gv a z mo z) (g' := addL Le gv a (z + 1) mo z) (v0 := gv z) (mo := mo) (by omega) (by rw [sn, lv]) (fun v _ hv => sm z v (fun q => hv q.2)), lv]
        · rw [f3, up_ne e, f2, up_rn (by omega), g1.2 z hz, mxV_c _ (fun v _ => (sm z v (fun q => e q.1)).symm)]
  have h9 := k11 (b - a) a none σ (by omega) (Nat.le_refl _) ⟨fun j hj v hv => by
    have : addL Le gv a a mo j v = Le j v := by unfold addL; rw [if_neg (by omega)]; rfl
    rw [this]; exact hL.1 j hj v hv, fun j hj => by
    rw [hL.2 j hj]
    exact congrArg nI (mxV_c _ (fun v _ => by unfold addL; rw [if_neg (by omega)]; rfl))⟩ (fun _ _ _ => rfl)
  exact hs (fun p => Nat.beq p 11) 80 0 _ _ _ _ _ h9)
theorem pass_d {K : KT} (h : WfK K) {o j nt f : Nat} {kd kd' : Nat → Nat} (ho : o < K 0 2) (hj : j < K 0 1) (h1 : j < K 5 o) (hk : ∀ z, z < o → kd z = kd' z) : s_in K kd nt f (j + 1) = s_in K kd' nt f (j + 1) := by
  obtain ⟨o', g1, g2, g3⟩ := sin_at h hj
  have hlt : o' ≤ o := by
    by_cases c : o' ≤ o
    · exact c
    · have := frm_mono h (a := o + 1) (b := o') (by omega) g1
      have e : frm K (o + 1) = K 5 o + 1 := if_neg (by omega)
      omega
  rw [s_in_ch h g1 g2 (by omega) g3, s_in_ch h g1 g2 (by omega) g3, cst_kc o' (fun z hz => hk z (by omega))]
def pT (K Q : KT) (z k : Nat) : Nat → Bool := fun y => fitQ K Q y && (kdw y z == k)
def pV (K Q : KT) (j v : Nat) : Nat → Bool := fun y => fitQ K Q y && (s_in K (kdw y) (Q 3 (Q 0 0)) (Q 2 (Q 0 0)) (j + 1) == v)
theorem cG_z {O : Nat} {p : Nat → Bool} {x o : Nat} (h : ∀ y, p (x + 3 ^ o * y) = false) : cG O p x o = 0 := ctN_f _ (fun y _ => h y)
theorem cG_c {O : Nat} {p q : Nat → Bool} {x x' o : Nat} (h : ∀ y, p (x + 3 ^ o * y) = q (x' + 3 ^ o * y)) : cG O p x o = cG O q x' o := ctN_c _ (fun y _ => h y)
theorem cG_le {O : Nat} {p : Nat → Bool} {x o : Nat} : cG O p x o ≤ 3 ^ (O - o) := ctN_le _
/-- readings ahead hold, those of this stretch don't: nothing fits -/
theorem fit_no {K Q : KT} {Hn x o y : Nat} (hW : WfK K) (hH : WH K Q Hn) (ho : o ≤ K 0 2) (h : ¬ okFl K Q x o) : fitQ K Q (x + 3 ^ o * y) = false := by
  cases e : fitQ K Q (x + 3 ^ o * y) with
  | false => rfl
  | true =>
    exfalso
    apply h
    intro k hk h1 h2
    have g := fit_iff.mp e k hk
    obtain ⟨w1, w2⟩ := hH.le
    rw [here_v hW ho (hH.2.2 k (by omega)).1 h1 (fun q => by unfold tom at h2; rw [if_pos q] at h2; omega) (kd' := kdw x) (fun z hz => kdw_pre hz)] at g
    exact g
theorem fit_end {K Q : KT} {Hn x : Nat} (hW : WfK K) (hH : WH K Q Hn) (hp : ∀ k, k < Q 0 0 → Q 1 k + 1 < frm K (K 0 2) → s_in K (kdw x) (Q 3 k) (Q 2 k) (Q 1 k + 1) = Q 4 k) (h : okFl K Q x (K 0 2)) : fitQ K Q x = true := by
  refine fit_iff.mpr (fun k hk => ?_)
  obtain ⟨w1, w2⟩ := hH.le
  have b := (hH.2.2 k (by omega)).1
  by_cases c : Q 1 k + 1 < frm K (K 0 2)
  · exact hp k hk c
  · rw [here_v hW (Nat.le_refl _) b (by omega) (fun q => absurd q (Nat.lt_irrefl _)) (kd' := kdw x) (fun _ _ => rfl)]
    exact h k hk (by omega) (by unfold tom; rw [if_neg (Nat.lt_irrefl _)]; exact b)
/-- kinds that leave the same bring the same behind them -/
theorem alike_w {K Q : KT} {Hn x o a b : Nat} (hW : WfK K) (hH : WH K Q Hn) (ho : o < K 0 2) (hx : x < 3 ^ o) (ha : a < 3) (hb : b < 3) (h : ∀ g, g < Hn → K 5 o ≤ Q 1 g → (cs K Q (x + 3 ^ o * a) (o + 1) g).1 = (cs K Q (x + 3 ^ o * b) (o + 1) g).1) (y : Nat) : (∀ g, g < Hn → ∀ j, j < K 0 1 → K 5 o ≤ j → K 5 o ≤ Q 1 g → s_in K (kdw (x + 3 ^ o * a + 3 ^ (o + 1) * y)) (Q 3 g) (Q 2 g) (j + 1) = s_in K (kdw (x + 3 ^ o * b + 3 ^ (o + 1) * y)) (Q 3 g) (Q 2 g) (j + 1)) ∧ fitQ K Q (x + 3 ^ o * a + 3 ^ (o + 1) * y) = fitQ K Q (x + 3 ^ o * b + 3 ^ (o + 1) * y) ∧ ∀ z, o + 1 ≤ z → kdw (x + 3 ^ o * a + 3 ^ (o + 1) * y) z = kdw (x + 3 ^ o * b + 3 ^ (o + 1) * y) z := by
  obtain ⟨w1, w2⟩ := hH.le
  have suf : ∀ z, o + 1 ≤ z → kdw (x + 3 ^ o * a + 3 ^ (o + 1) * y) z = kdw (x + 3 ^ o * b + 3 ^ (o + 1) * y) z := fun z hz => by rw [kdw_div (x_lt hx ha) hz, kdw_div (x_lt hx hb) hz]
  have sin : ∀ g, g < Hn → ∀ j, j < K 0 1 → K 5 o ≤ j → K 5 o ≤ Q 1 g → s_in K (kdw (x + 3 ^ o * a + 3 ^ (o + 1) * y)) (Q 3 g) (Q 2 g) (j + 1) = s_in K (kdw (x + 3 ^ o * b + 3 ^ (o + 1) * y)) (Q 3 g) (Q 2 g) (j + 1) := by
    intro g hg j hj h1 h2
    have pa : cst K (Tk K (kdw (x + 3 ^ o * a + 3 ^ (o + 1) * y)) (Q 3 g)) (Q 2 g) (o + 1) = cs K Q (x + 3 ^ o * a) (o + 1) g := cst_kc _ (fun z hz => kdw_pre hz)
    have pb : cst K (Tk K (kdw (x + 3 ^ o * b + 3 ^ (o + 1) * y)) (Q 3 g)) (Q 2 g) (o + 1) = cs K Q (x + 3 ^ o * b) (o + 1) g := cst_kc _ (fun z hz => kdw_pre hz)
    refine alike_c hW ho hj h1 ?_ suf
    rw [pa, pb]
    have e1 := h g hg h2
    rw [cs_next hx ha, cs_next hx hb] at e1 ⊢
    exact Prod.ext e1 rfl
  refine ⟨sin, ?_, suf⟩
  have pre : ∀ c z, z < o → kdw (x + 3 ^ o * c + 3 ^ (o + 1) * y) z = kdw x z := fun c z hz => by rw [kdw_pre (by omega), kdw_pre hz]
  have one : ∀ k, k < Q 0 0 → s_in K (kdw (x + 3 ^ o * a + 3 ^ (o + 1) * y)) (Q 3 k) (Q 2 k) (Q 1 k + 1) = s_in K (kdw (x + 3 ^ o * b + 3 ^ (o + 1) * y)) (Q 3 k) (Q 2 k) (Q 1 k + 1) := fun k hk => by
    have bk := (hH.2.2 k (by omega)).1
    by_cases c : K 5 o ≤ Q 1 k
    · exact sin k (by omega) (Q 1 k) bk c c
    · exact pass_d hW ho bk (by omega) (fun z hz => by rw [pre a z hz, pre b z hz])
  cases e : fitQ K Q (x + 3 ^ o * b + 3 ^ (o + 1) * y) with
  | true => exact fit_iff.mpr (fun k hk => by rw [one k hk]; exact fit_iff.mp e k hk)
  | false =>
    cases e2 : fitQ K Q (x + 3 ^ o * a + 3 ^ (o + 1) * y) with
    | false => rfl
    | true =>
      have := fit_iff.mpr (fun k hk => by rw [← one k hk]; exact fit_iff.mp e2 k hk : ∀ k, k < Q 0 0 → s_in K (kdw (x + 3 ^ o * b + 3 ^ (o + 1) * y)) (Q 3 k) (Q 2 k) (Q 1 k + 1) = Q 4 k)
      rw [e] at this
      exact absurd this Bool.false_ne_true
