def bcn (s : Nat) : Nat := s % 2 + s / 2 % 2 + s / 4 % 2 + s / 8 % 2 + s / 16 % 2 + s / 32 % 2 + s / 64 % 2 + s / 128 % 2
def ush (a b : Int32) : Int32 := (a.toUInt32 >>> (b.toUInt32 &&& Int32.toUInt32 31)).toInt32
def bj1 (i : Int32) : Int32 := i - (ush i 1 &&& 1431655765)
def bj2 (i : Int32) : Int32 := (i &&& 858993459) + (ush i 2 &&& 858993459)
def bj3 (i : Int32) : Int32 := (i + ush i 4) &&& 252645135
def bj4 (i : Int32) : Int32 := i + ush i 8
def bj5 (i : Int32) : Int32 := (i + ush i 16) &&& 63
def bcJ (i : Int32) : Int32 := bj5 (bj4 (bj3 (bj2 (bj1 i))))
theorem bcJ_ok : ∀ s, s < 256 → bcJ (nI s) = nI (bcn s) := by decide +kernel
def C_bitC : am_C := fun av n σ τ nf P => nf = n ∧ ∃ s : Nat, av = [.int (nI s)] ∧ s < 256 ∧ P (some (.int (nI (bcn s)))) σ τ
set_option maxRecDepth 100000 in
theorem M_bitC (d : Nat) : am_Met (d + 1) 900 C_bitC := am_meth (own0 := "java/lang/Integer") 900 (d + 0) 0 T_J6_bitCount_0f7a4 (fun y => am_no) C_bitC rfl F_J6_bitCount_0f7a4 rfl (by decide +kernel) Tc_J6_bitCount_0f7a4 (fun y => am_no_met) (by
  intro av n σ τ nf P hnf hC
  obtain ⟨rfl, s, rfl, hs2, hP⟩ := hC
  refine ⟨Nat.zero_le _, rfl, Nat.le_of_ble_eq_true rfl, fun Wb hs => ?_⟩
  exact hs (fun _ => false) 60 0 _ _ _ _ _ (And.intro rfl (p_eq (bcJ_ok s hs2) hP)))
def bsm (s : Nat) : Nat → Int32
  | 0 => 0
  | k + 1 => bsm s k + ((nI s >>> (nI k &&& 31)) &&& 1)
theorem bsm_ok : ∀ s, s < 256 → bsm s 30 = nI (bcn s) := by decide +kernel
def C_mbits : am_C := C_bitC
set_option maxRecDepth 100000 in
theorem M_mbits (d : Nat) : am_Met (d + 1) 805 C_mbits := am_meth (own0 := "CanalEndModel") 805 (d + 0) 0 T_X8_bitsOf (fun y => am_no) C_mbits rfl F_X8_bitsOf rfl (by decide +kernel) Tc_X8_bitsOf (fun y => am_no_met) (by
  intro av n σ τ nf P hnf hC
  obtain ⟨rfl, s, rfl, hs2, hP⟩ := hC
  refine ⟨Nat.zero_le _, rfl, Nat.le_of_ble_eq_true rfl, fun Wb hs => ?_⟩
  have k4 : ∀ r k, k + r = 30 → Wb 4 [some (.int (nI s)), some (.int (bsm s k)), some (.int (nI k))] [] nf σ τ := by
    intro r
    induction r with
    | zero =>
      intro k hk
      have hk : k = 30 := by omega
      subst hk
      exact hs (fun p => Nat.beq p 4) 60 4 _ _ _ _ _ (vc_t (nI_le (a := 30) (Nat.le_refl _) (by omega)) (And.intro rfl (p_eq (bsm_ok s hs2) hP)))
    | succ r ih =>
      intro k hk
      refine hs (fun p => Nat.beq p 4) 60 4 _ _ _ _ _ (vc_f (nI_ge (b := 30) (by omega) (by omega)) ?_)
      show Wb 4 [some (.int (nI s)), some (.int (bsm s (k + 1))), some (.int (nI k + 1))] [] nf σ τ
      rw [← nI_succ]
      exact ih (k + 1) (by omega)
  exact hs (fun p => Nat.beq p 4) 60 0 _ _ _ _ _ (k4 30 0 rfl))
def hb (s k : Nat) : Nat := s / 2 ^ k % 2
theorem hb_ok : ∀ s, s < 256 → ∀ k, k < 8 → ((nI s >>> (nI k &&& 31)) &&& 1) = nI (hb s k) := by decide +kernel
theorem hb_iff {s k : Nat} (h1 : s < 256) (h2 : k < 8) : ((nI s >>> (nI k &&& 31)) &&& 1) = 1 ↔ hb s k = 1 := by
  rw [hb_ok s h1 k h2]
  exact nI_eq (b := 1) (by unfold hb; omega) (by omega)
def C_mhas : am_C := fun av n σ τ nf P => nf = n ∧ ∃ s k : Nat, av = [.int (nI s), .int (nI k)] ∧ s < 256 ∧ k < 8 ∧ (hb s k = 1 → P (some (.int 1)) σ τ) ∧ (¬ hb s k = 1 → P (some (.int 0)) σ τ)
set_option maxRecDepth 100000 in
theorem M_mhas (d : Nat) : am_Met (d + 1) 804 C_mhas := am_meth (own0 := "CanalEndModel") 804 (d + 0) 0 T_X8_has (fun y => am_no) C_mhas rfl F_X8_has rfl (by decide +kernel) Tc_X8_has (fun y => am_no_met) (by
  intro av n σ τ nf P hnf hC
  obtain ⟨rfl, s, k, rfl, h1, h2, hP, hQ⟩ := hC
  refine ⟨Nat.zero_le _, rfl, Nat.le_of_ble_eq_true rfl, fun Wb hs => ?_⟩
  exact hs (fun _ => false) 60 0 _ _ _ _ _ (vc_if (fun c => And.intro (Or.inr rfl) (And.intro rfl (hP ((hb_iff h1 h2).mp c)))) (fun c => And.intro (Or.inl rfl) (And.intro rfl (hQ (fun q => c ((hb_iff h1 h2).mpr q)))))))
theorem sh_ok : ∀ O, O < 9 → ((1 : Int32) <<< (nI O &&& 31)) = nI (2 ^ O) := by decide +kernel
theorem al_ok : ∀ O, O < 9 → ((1 : Int32) <<< (nI O &&& 31)) - 1 = nI (2 ^ O - 1) := by decide +kernel
theorem p2_le : ∀ O, O < 9 → 1 ≤ 2 ^ O ∧ 2 ^ O ≤ 256 := by decide +kernel
def C_allO : am_C := fun av n σ τ nf P => nf = n ∧ 155 ≤ n ∧ ∃ (lf O : Nat), τ = tauY 0 lf ∧ av = [.ref 0] ∧ σ 1 2 = nI O ∧ O < 9 ∧ P (some (.int (nI (2 ^ O - 1)))) σ τ
set_option maxRecDepth 100000 in
theorem M_allO (d : Nat) : am_Met (d + 1) 748 C_allO := am_meth (own0 := "CanalEnd") 748 (d + 0) 155 T_X7_allOutlets (fun y => am_no) C_allO rfl F_X7_allOutlets rfl (by decide +kernel) Tc_X7_allOutlets (fun y => am_no_met) (by
  intro av n σ τ nf P hnf hC
  obtain ⟨rfl, hn, lf, O, rfl, rfl, hO, hO9, hP⟩ := hC
  refine ⟨hn, rfl, Nat.le_of_ble_eq_true rfl, fun Wb hs => ?_⟩
  exact hs (fun _ => false) 60 0 _ _ _ _ _ (And.intro rfl (p_eq (by rw [hO]; exact al_ok O hO9) hP)))
def gtd (A D : Nat → Int32) (o : Nat) (m d : Int32) : Int32 := if m < d then A o else D o
abbrev hAt (A D : Nat → Int32) (s : Nat) (d c : Int32) (o : Nat) : Prop := (hb s o = 1 → gtd A D o (nI (bcn s) - 1) d ≤ gtd A D o (nI (bcn s)) d - c) ∧ (¬ hb s o = 1 → gtd A D o (nI (bcn s) + 1) d - c ≤ gtd A D o (nI (bcn s)) d)
abbrev heldP (A D : Nat → Int32) (s : Nat) (d c : Int32) (O : Nat) : Prop := ∀ o, o < O → hAt A D s d c o
theorem gtd_c {A D A' D' : Nat → Int32} {o : Nat} {m d : Int32} (h : A o = A' o) (h2 : D o = D' o) : gtd A D o m d = gtd A' D' o m d := by
  unfold gtd
  rw [h, h2]
theorem heldP_c {A D A' D' : Nat → Int32} {s O : Nat} {d c : Int32} (h : ∀ o, o < O → A o = A' o) (h2 : ∀ o, o < O → D o = D' o) : heldP A D s d c O ↔ heldP A' D' s d c O := by
  constructor <;> intro g o ho <;> have := g o ho
  · unfold hAt at this ⊢
    rw [gtd_c (h o ho) (h2 o ho), gtd_c (h o ho) (h2 o ho), gtd_c (h o ho) (h2 o ho)] at this
    exact this
  · unfold hAt at this ⊢
    rw [gtd_c (h o ho) (h2 o ho), gtd_c (h o ho) (h2 o ho), gtd_c (h o ho) (h2 o ho)]
    exact this
def C_isHeld : am_C := fun av n σ τ nf P => nf = n ∧ 155 ≤ n ∧ ∃ (lf s O : Nat) (d c : Int32), τ = tauY 0 lf ∧ av = [.ref 0, .int (nI s), .int d, .int c] ∧ s < 256 ∧ O ≤ 8 ∧ σ 1 2 = nI O ∧ (heldP (σ 30) (σ 37) s d c O → P (some (.int 1)) σ τ) ∧ (¬ heldP (σ 30) (σ 37) s d c O → P (some (.int 0)) σ τ)
set_option maxRecDepth 100000 in
theorem M_isHeld (d : Nat) : am_Met (d + 2) 755 C_isHeld := am_meth (own0 := "CanalEnd") 755 (d + 1) 155 T_X7_isHeld (fun y => bif Nat.beq y 900 then C_bitC else (bif Nat.beq y 756 then C_gotOf else (am_no))) C_isHeld rfl F_X7_isHeld rfl (by decide +kernel) Tc_X7_isHeld (fun y => am_g (M_bitC (d + 0)) (am_g (M_gotOf (d + 0)) (am_no_met))) (by
  intro av n σ τ nf P hnf hC
  obtain ⟨rfl, hn, lf, s, O, d, c, rfl, rfl, hs8, hO8, eO, hP, hQ⟩ := hC
  refine ⟨hn, rfl, Nat.le_of_ble_eq_true rfl, fun Wb hs => ?_⟩
  have t54 : ∀ (o b : Nat) (m : Int32) (x8 x9 : Option Value), o < 8 → b ≤ 1 → ((b = 1 → gtd (σ 30) (σ 37) o m d ≤ gtd (σ 30) (σ 37) o (m + 1) d - c) ∧ (¬ b = 1 → gtd (σ 30) (σ 37) o (m + 1) d - c ≤ gtd (σ 30) (σ 37) o m d) → ∀ x6 x7 x8 x9 : Option Value, Wb 9 [some (.ref 0), some (.int (nI s)), some (.int d), some (.int c), some (.int (nI (bcn s))), some (.int (nI o + 1)), x6, x7, x8, x9] [] nf σ (tauY 0 lf)) → (¬ ((b = 1 → gtd (σ 30) (σ 37) o m d ≤ gtd (σ 30) (σ 37) o (m + 1) d - c) ∧ (¬ b = 1 → gtd (σ 30) (σ 37) o (m + 1) d - c ≤ gtd (σ 30) (σ 37) o m d)) → P (some (.int 0)) σ (tauY 0 lf)) → Wb 54 [some (.ref 0), some (.int (nI s)), some (.int d), some (.int c), some (.int (nI (bcn s))), some (.int (nI o)), some (.int (nI b)), some (.int m), x8, x9] [] nf σ (tauY 0 lf) := by
    intro o b m x8 x9 ho hb1 h1 h2
    have fin : ∀ A D : Int32, A = gtd (σ 30) (σ 37) o m d → D = gtd (σ 30) (σ 37) o (m + 1) d → am_if (nI b = 0) (am_if (D - c ≤ A) (Wb 9 [some (.ref 0), some (.int (nI s)), some (.int d), some (.int c), some (.int (nI (bcn s))), some (.int (nI o + 1)), some (.int (nI b)), some (.int m), some (.int A), some (.int (D - c))] [] nf σ (tauY 0 lf)) (((0 : Int32) = 0 ∨ (0 : Int32) = 1) ∧ nf = nf ∧ P (some (.int 0)) σ (tauY 0 lf))) (am_if (A ≤ D - c) (Wb 9 [some (.ref 0), some (.int (nI s)), some (.int d), some (.int c), some (.int (nI (bcn s))), some (.int (nI o + 1)), some (.int (nI b)), some (.int m), some (.int A), some (.int (D - c))] [] nf σ (tauY 0 lf)) (((0 : Int32) = 0 ∨ (0 : Int32) = 1) ∧ nf = nf ∧ P (some (.int 0)) σ (tauY 0 lf))) := by
      intro A D eA eD
      rw [← eA, ← eD] at h1 h2
      refine vc_if (fun z => ?_) (fun z => ?_)
      · have z : b = 0 := nI_inj (b := 0) (by omega) (by omega) z
        exact vc_if (fun g => h1 ⟨fun q => by omega, fun _ => g⟩ _ _ _ _) (fun g => And.intro (Or.inl rfl) (And.intro rfl (h2 (fun q => g (q.2 (by omega))))))
      · have z : b = 1 := by
          have : ¬ b = 0 := fun q => z (by rw [q]; rfl)
          omega
        exact vc_if (fun g => h1 ⟨fun _ => g, fun q => absurd z q⟩ _ _ _ _) (fun g => And.intro (Or.inl rfl) (And.intro rfl (h2 (fun q => g (q.1 z)))))
    refine hs (fun p => Nat.beq p 9) 60 54 _ _ _ _ _ (vc_if (fun c1 => ⟨rfl, hn, lf, o, 0, rfl, rfl, ho, by omega, vc_if (fun c2 => ⟨rfl, hn, lf, o, 0, rfl, rfl, ho, by omega, fin _ _ ?_ ?_⟩) (fun c2 => ⟨rfl, hn, lf, o, 1, rfl, rfl, ho, by omega, fin _ _ ?_ ?_⟩)⟩) (fun c1 => ⟨rfl, hn, lf, o, 1, rfl, rfl, ho, by omega, vc_if (fun c2 => ⟨rfl, hn, lf, o, 0, rfl, rfl, ho, by omega, fin _ _ ?_ ?_⟩) (fun c2 => ⟨rfl, hn, lf, o, 1, rfl, rfl, ho, by omega, fin _ _ ?_ ?_⟩)⟩))
    all_goals unfold gtd
    · rw [if_pos c1]; exact if_pos rfl
    · rw [if_pos c2]; exact if_pos rfl
    · rw [if_pos c1]; exact if_pos rfl
    · rw [if_neg c2]; exact if_neg (by omega)
    · rw [if_neg c1]; exact if_neg (by omega)
    · rw [if_pos c2]; exact if_pos rfl
    · rw [if_neg c1]; exact if_neg (by omega)
    · rw [if_neg c2]; exact if_neg (by omega)
  have k9 : ∀ r o (x6 x7 x8 x9 : Option Value), o + r = O → (∀ z, z < o → hAt (σ 30) (σ 37) s d c z) → Wb 9 [some (.ref 0), some (.int (nI s)), some (.int d), some (.int c), some (.int (nI (bcn s))), some (.int (nI o)), x6, x7, x8, x9] [] nf σ (tauY 0 lf) := by
    intro r
    induction r with
    | zero =>
      intro o x6 x7 x8 x9 ho h
      have ho : o = O := by omega
      subst ho
      exact hs (fun p => Nat.beq p 9) 60 9 _ _ _ _ _ (vc_t (by rw [eO]; exact nI_le (Nat.le_refl _) (by omega)) (And.intro (Or.inr rfl) (And.intro rfl (hP h))))
    | succ r ih =>
      intro o x6 x7 x8 x9 ho h
      have nx : hAt (σ 30) (σ 37) s d c o → ∀ x6 x7 x8 x9 : Option Value, Wb 9 [some (.ref 0), some (.int (nI s)), some (.int d), some (.int c), some (.int (nI (bcn s))), some (.int (nI o + 1)), x6, x7, x8, x9] [] nf σ (tauY 0 lf) := by
        intro g y6 y7 y8 y9
        rw [← nI_succ]
        refine ih (o + 1) y6 y7 y8 y9 (by omega) (fun z hz => ?_)
        by_cases e : z = o
        · rw [e]; exact g
        · exact h z (by omega)
      have no : ¬ hAt (σ 30) (σ 37) s d c o → P (some (.int 0)) σ (tauY 0 lf) := fun g => hQ (fun q => g (q o (by omega)))
      refine hs (fun p => Nat.beq p 9 || Nat.beq p 54) 60 9 _ _ _ _ _ (vc_f (by rw [eO]; exact nI_ge (by omega) (by omega)) (vc_if (fun g => vc_f (by decide) ?_) (fun g => vc_t rfl ?_)))
      · have g := (hb_iff hs8 (by omega)).mp g
        have e : nI (bcn s) - 1 + 1 = nI (bcn s) := Int32.sub_add_cancel _ _
        refine t54 o 1 (nI (bcn s) - 1) x8 x9 (by omega) (by omega) (fun q => nx ?_) (fun q => no ?_)
        · rw [e] at q
          exact ⟨fun _ => q.1 rfl, fun w => absurd g w⟩
        · rw [e] at q
          exact fun w => q ⟨fun _ => w.1 g, fun w2 => absurd rfl w2⟩
      · have g : ¬ hb s o = 1 := fun q => g ((hb_iff hs8 (by omega)).mpr q)
        refine t54 o 0 (nI (bcn s)) x8 x9 (by omega) (by omega) (fun q => nx ?_) (fun q => no ?_)
        · exact ⟨fun w => absurd w g, fun _ => q.2 (by omega)⟩
        · exact fun w => q ⟨fun w2 => absurd w2 (by omega), fun _ => w.2 g⟩
  exact hs (fun p => Nat.beq p 9) 60 0 _ _ _ _ _ ⟨rfl, s, rfl, hs8, k9 O 0 none none none none (by omega) (fun z hz => absurd hz (by omega))⟩)
def C_mHeld : am_C := fun av n σ τ nf P => nf = n ∧ 155 ≤ n ∧ ∃ (lf s O : Nat) (d c : Int32), τ = tauY 0 lf ∧ av = [.ref 116, .int (nI s), .int d, .int c] ∧ s < 256 ∧ O ≤ 8 ∧ σ 116 7 = nI O ∧ (heldP (σ 150) (σ 151) s d c O → P (some (.int 1)) σ τ) ∧ (¬ heldP (σ 150) (σ 151) s d c O → P (some (.int 0)) σ τ)
set_option maxRecDepth 100000 in
theorem M_mHeld (d : Nat) : am_Met (d + 2) 853 C_mHeld := am_meth (own0 := "CanalEndModel") 853 (d + 1) 155 T_X8_isHeld (fun y => bif Nat.beq y 805 then C_mbits else (bif Nat.beq y 804 then C_mhas else (bif Nat.beq y 852 then C_dayBy else (am_no)))) C_mHeld rfl F_X8_isHeld rfl (by decide +kernel) Tc_X8_isHeld (fun y => am_g (M_mbits (d + 0)) (am_g (M_mhas (d + 0)) (am_g (M_dayBy (d + 0)) (am_no_met)))) (by
  intro av n σ τ nf P hnf hC
  obtain ⟨rfl, hn, lf, s, O, d, c, rfl, rfl, hs8, hO8, eO, hP, hQ⟩ := hC
  refine ⟨hn, rfl, Nat.le_of_ble_eq_true rfl, fun Wb hs => ?_⟩
  have k9 : ∀ r o (x6 x7 : Option Value), o + r = O → (∀ z, z < o → hAt (σ 150) (σ 151) s d c z) → Wb 9 [some (.ref 116), some (.int (nI s)), some (.int d), some (.int c), some (.int (nI (bcn s))), some (.int (nI o)), x6, x7] [] nf σ (tauY 0 lf) := by
    intro r
    induction r with
    | zero =>
      intro o x6 x7 ho h
      have ho : o = O := by omega
      subst ho
      exact hs (fun p => Nat.beq p 9) 60 9 _ _ _ _ _ (vc_t (by rw [eO]; exact nI_le (Nat.le_refl _) (by omega)) (And.intro (Or.inr rfl) (And.intro rfl (hP h))))
    | succ r ih =>
      intro o x6 x7 ho h
      have nx : hAt (σ 150) (σ 151) s d c o → ∀ x6 x7 : Option Value, Wb 9 [some (.ref 116), some (.int (nI s)), some (.int d), some (.int c), some (.int (nI (bcn s))), some (.int (nI o + 1)), x6, x7] [] nf σ (tauY 0 lf) := by
        intro g y6 y7
        rw [← nI_succ]
        refine ih (o + 1) y6 y7 (by omega) (fun z hz => ?_)
        by_cases e : z = o
        · rw [e]; exact g
        · exact h z (by omega)
      have no : ¬ hAt (σ 150) (σ 151) s d c o → P (some (.int 0)) σ (tauY 0 lf) := fun g => hQ (fun q => g (q o (by omega)))
      have ho8 : o < 8 := by omega
      refine hs (fun p => Nat.beq p 9) 60 9 _ _ _ _ _ (vc_f (by rw [eO]; exact nI_ge (by omega) (by omega)) ⟨rfl, s, o, rfl, hs8, ho8, fun g => vc_f (by decide) ⟨rfl, hn, lf, o, nI (bcn s), d, rfl, rfl, ho8, ⟨rfl, s, o, rfl, hs8, ho8, fun g2 => vc_f (by decide) ⟨rfl, hn, lf, o, nI (bcn s) - 1, d, rfl, rfl, ho8, vc_if (fun q => nx ⟨fun _ => q, fun w => absurd g w⟩ _ _) (fun q => And.intro (Or.inl rfl) (And.intro rfl (no (fun w => q (w.1 g)))))⟩, fun g2 => absurd g g2⟩⟩, fun g => vc_t rfl ⟨rfl, hn, lf, o, nI (bcn s), d, rfl, rfl, ho8, ⟨rfl, s, o, rfl, hs8, ho8, fun g2 => absurd g2 g, fun g2 => vc_t rfl ⟨rfl, hn, lf, o, nI (bcn s) + 1, d, rfl, rfl, ho8, vc_if (fun q => nx ⟨fun w => absurd w g, fun _ => q⟩ _ _) (fun q => And.intro (Or.inl rfl) (And.intro rfl (no (fun w => q (w.2 g)))))⟩⟩⟩⟩)
  exact hs (fun p => Nat.beq p 9) 60 0 _ _ _ _ _ ⟨rfl, s, rfl, hs8, k9 O 0 none none (by omega) (fun z hz => absurd hz (by omega))⟩)
