theorem lz_sub {Lz : Nat} (h : Lz ≤ 3072) : (nI Lz - 6).toInt = (Lz : Int) - 6 := pk_sub_toInt (a := Lz) (b := 6) (by omega) (by omega)
set_option maxRecDepth 100000 in
theorem law_loop {Lz : Nat} {xs : Nat → Int32} {Wb : am_K} (hL : Lz ≤ 3072) (hs : LawS Lz xs Wb) : ∀ (r t n lf : Nat) (σ : am_Sg) (s : ST), Lz ≤ 6 * t + r → 6 * t ≤ 3078 → IX σ n lf s → IM σ s → Wb 18 [some (.ref 1000), some (.ref 0), some (.ref 116), some (.int (nI (6 * t)))] [] n σ (tauY 0 lf) := by
  intro r
  induction r with
  | zero =>
    intro t n lf σ s h1 h2 hI hM
    have hc : nI Lz - 6 < nI (6 * t) := by
      rw [i_lt, lz_sub hL, nI_toInt (by omega)]
      omega
    exact hs (fun p => Nat.ble 204 p && Nat.ble p 1736) 30 18 _ _ _ _ _ (vc_t hc (And.intro (Or.inr rfl) rfl))
  | succ r ih =>
    intro t n lf σ s h1 h2 hI hM
    by_cases hc : nI Lz - 6 < nI (6 * t)
    · exact hs (fun p => Nat.ble 204 p && Nat.ble p 1736) 30 18 _ _ _ _ _ (vc_t hc (And.intro (Or.inr rfl) rfl))
    · have hb : 6 * t + 6 ≤ Lz := by
        rw [i_lt, lz_sub hL, nI_toInt (by omega)] at hc
        omega
      have hK9 : LawK (nI (6 * t)) Wb := fun n lf σ s hI hM => by
        have h9 := ih (t + 1) n lf σ s (by omega) (by omega) hI hM
        rw [show nI (6 * (t + 1)) = nI (6 * t) + 6 from (nI_add (6 * t) 6).symm] at h9
        exact hs (fun p => Nat.beq p 18) 10 1736 _ _ _ _ _ h9
      have b9 : ∀ k, k < 6 → vp_in (nI (6 * t) + nI k) Lz := fun k hk => by
        rw [nI_add]
        exact vp_in_nI (by omega) (by omega)
      have hB : LawB (nI (6 * t)) Lz := ⟨b9 1 (by omega), b9 2 (by omega), b9 3 (by omega), b9 4 (by omega), b9 5 (by omega)⟩
      have b0 : vp_in (nI (6 * t)) Lz := vp_in_nI (by omega) (by omega)
      exact hs (fun p => Nat.ble 204 p && Nat.ble p 1736) 30 18 _ _ _ _ _ (vc_f hc (And.intro b0 (And.intro (fun _ => law_c0 hs hK9 hB hI hM) (fun _ => And.intro (fun _ => law_c1 hs hK9 hB hI hM) (fun _ => And.intro (fun _ => law_c2 hs hK9 hB hI hM) (fun _ => And.intro (fun _ => law_c3 hs hK9 hB hI hM) (fun _ => And.intro (fun _ => law_c4 hs hK9 hB hI hM) (fun _ => And.intro (fun _ => law_c5 hs hK9 hB hI hM) (fun _ => And.intro (fun _ => law_c6 hs hK9 hB hI hM) (fun _ => And.intro (fun _ => law_c7 hs hK9 hB hI hM) (fun _ => And.intro (fun _ => law_c8 hs hK9 hB hI hM) (fun _ => And.intro (fun _ => law_c9 hs hK9 hB hI hM) (fun _ => And.intro (fun _ => law_c10 hs hK9 hB hI hM) (fun _ => And.intro (fun _ => law_c11 hs hK9 hB hI hM) (fun _ => And.intro (fun _ => law_c12 hs hK9 hB hI hM) (fun _ => And.intro (fun _ => law_c13 hs hK9 hB hI hM) (fun _ => And.intro (fun _ => law_c14 hs hK9 hB hI hM) (fun _ => And.intro (fun _ => law_c15 hs hK9 hB hI hM) (fun _ => And.intro (fun _ => law_c16 hs hK9 hB hI hM) (fun _ => And.intro (fun _ => law_c17 hs hK9 hB hI hM) (fun _ => And.intro (fun _ => law_c18 hs hK9 hB hI hM) (fun _ => And.intro (fun _ => law_c19 hs hK9 hB hI hM) (fun _ => And.intro (fun _ => law_c20 hs hK9 hB hI hM) (fun _ => And.intro (fun _ => law_c21 hs hK9 hB hI hM) (fun _ => And.intro (fun _ => law_c22 hs hK9 hB hI hM) (fun _ => And.intro (fun _ => law_c23 hs hK9 hB hI hM) (fun _ => And.intro (fun _ => law_c24 hs hK9 hB hI hM) (fun _ => And.intro (fun _ => law_c25 hs hK9 hB hI hM) (fun _ => And.intro (fun _ => law_c26 hs hK9 hB hI hM) (fun _ => And.intro (fun _ => law_c27 hs hK9 hB hI hM) (fun _ => And.intro (fun _ => law_c28 hs hK9 hB hI hM) (fun _ => And.intro (fun _ => law_c29 hs hK9 hB hI hM) (fun _ => And.intro (fun _ => law_c30 hs hK9 hB hI hM) (fun _ => And.intro (fun _ => law_c31 hs hK9 hB hI hM) (fun _ => And.intro (fun _ => law_c32 hs hK9 hB hI hM) (fun _ => And.intro (fun _ => law_c33 hs hK9 hB hI hM) (fun _ => And.intro (fun _ => law_c34 hs hK9 hB hI hM) (fun _ => And.intro (fun _ => law_c35 hs hK9 hB hI hM) (fun _ => And.intro (fun _ => law_c36 hs hK9 hB hI hM) (fun _ => And.intro (fun _ => law_c37 hs hK9 hB hI hM) (fun _ => And.intro (fun _ => law_c38 hs hK9 hB hI hM) (fun _ => hK9 _ _ _ _ hI hM))))))))))))))))))))))))))))))))))))))))))
set_option maxRecDepth 100000 in
theorem law_all {Lz : Nat} {xs : Nat → Int32} {Wb : am_K} (hL : Lz ≤ 3072) (hs : LawS Lz xs Wb) (hE : ∀ pc L st σ, Wb pc L st 155 σ (tauY 0 0) → Wb pc L st 155 σ ta1) : Wb 0 [some (.ref 1000), none, none, none] [] 0 (fun _ _ => 0) (fun _ _ => 0) := by
  have h9 := hE _ _ _ sg1 (law_loop hL hs Lz 0 155 0 sg1 s00 (by omega) (by omega) sg1_x sg1_m)
  exact hs (fun p => Nat.beq p 18) 40 0 _ _ _ _ _ (fun σ1 e1 => ⟨0, rfl, rfl, rfl, rfl, (fun σ2 e2 => ⟨116, rfl, rfl, rfl, rfl, by
    subst e1
    subst e2
    exact h9⟩)⟩)
