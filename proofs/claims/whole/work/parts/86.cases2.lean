set_option maxRecDepth 100000 in
theorem law_c14 {Lz : Nat} {xs : Nat → Int32} {Wb : am_K} {I : Int32} (hs : LawS Lz xs Wb) (hK : LawK I Wb) (hB : LawB I Lz) {n lf : Nat} {σ : am_Sg} {s : ST} (hI : IX σ n lf s) (hM : IM σ s) : Wb 872 [some (.ref 1000), some (.ref 0), some (.ref 116), some (.int I)] [] n σ (tauY 0 lf) := by
  rcases IX_n hI with ⟨rfl, rfl⟩ | ⟨rfl, rfl⟩
  · obtain ⟨v, e⟩ := isV_back (xs (I + 1).toNatClampNeg) s
    exact hs (fun p => Nat.beq p 18 || Nat.beq p 1736) 60 872 _ _ _ _ _ (And.intro hB.1 (⟨(xs (I + 1).toNatClampNeg), pX e hI (fun σ1 h1 f1 => And.intro hB.1 (⟨(xs (I + 1).toNatClampNeg), pM e (by omega) (InvM.fr hM f1) (fun σ2 h2 f2 => vc_t rfl (hK _ _ σ2 _ (InvX.fr h1 f2) h2))⟩))⟩))
  · obtain ⟨v, e⟩ := isV_back (xs (I + 1).toNatClampNeg) s
    exact hs (fun p => Nat.beq p 18 || Nat.beq p 1736) 60 872 _ _ _ _ _ (And.intro hB.1 (⟨(xs (I + 1).toNatClampNeg), pX e hI (fun σ1 h1 f1 => And.intro hB.1 (⟨(xs (I + 1).toNatClampNeg), pM e (by omega) (InvM.fr hM f1) (fun σ2 h2 f2 => vc_t rfl (hK _ _ σ2 _ (InvX.fr h1 f2) h2))⟩))⟩))
set_option maxRecDepth 100000 in
theorem law_c15 {Lz : Nat} {xs : Nat → Int32} {Wb : am_K} {I : Int32} (hs : LawS Lz xs Wb) (hK : LawK I Wb) (hB : LawB I Lz) {n lf : Nat} {σ : am_Sg} {s : ST} (hI : IX σ n lf s) (hM : IM σ s) : Wb 895 [some (.ref 1000), some (.ref 0), some (.ref 116), some (.int I)] [] n σ (tauY 0 lf) := by
  rcases IX_n hI with ⟨rfl, rfl⟩ | ⟨rfl, rfl⟩
  · obtain ⟨v, e⟩ := isV_fits  s
    exact hs (fun p => Nat.beq p 18 || Nat.beq p 1736) 60 895 _ _ _ _ _ (⟨(), pX e hI (fun σ1 h1 f1 => ⟨(), pM e (by omega) (InvM.fr hM f1) (fun σ2 h2 f2 => vc_t rfl (hK _ _ σ2 _ (InvX.fr h1 f2) h2))⟩)⟩)
  · obtain ⟨v, e⟩ := isV_fits  s
    exact hs (fun p => Nat.beq p 18 || Nat.beq p 1736) 60 895 _ _ _ _ _ (⟨(), pX e hI (fun σ1 h1 f1 => ⟨(), pM e (by omega) (InvM.fr hM f1) (fun σ2 h2 f2 => vc_t rfl (hK _ _ σ2 _ (InvX.fr h1 f2) h2))⟩)⟩)
set_option maxRecDepth 100000 in
theorem law_c16 {Lz : Nat} {xs : Nat → Int32} {Wb : am_K} {I : Int32} (hs : LawS Lz xs Wb) (hK : LawK I Wb) (hB : LawB I Lz) {n lf : Nat} {σ : am_Sg} {s : ST} (hI : IX σ n lf s) (hM : IM σ s) : Wb 908 [some (.ref 1000), some (.ref 0), some (.ref 116), some (.int I)] [] n σ (tauY 0 lf) := by
  rcases IX_n hI with ⟨rfl, rfl⟩ | ⟨rfl, rfl⟩
  · obtain ⟨v, e⟩ := isV_sure (xs (I + 1).toNatClampNeg) s
    exact hs (fun p => Nat.beq p 18 || Nat.beq p 1736) 60 908 _ _ _ _ _ (And.intro hB.1 (⟨(xs (I + 1).toNatClampNeg), pX e hI (fun σ1 h1 f1 => And.intro hB.1 (⟨(xs (I + 1).toNatClampNeg), pM e (by omega) (InvM.fr hM f1) (fun σ2 h2 f2 => vc_t rfl (hK _ _ σ2 _ (InvX.fr h1 f2) h2))⟩))⟩))
  · obtain ⟨v, e⟩ := isV_sure (xs (I + 1).toNatClampNeg) s
    exact hs (fun p => Nat.beq p 18 || Nat.beq p 1736) 60 908 _ _ _ _ _ (And.intro hB.1 (⟨(xs (I + 1).toNatClampNeg), pX e hI (fun σ1 h1 f1 => And.intro hB.1 (⟨(xs (I + 1).toNatClampNeg), pM e (by omega) (InvM.fr hM f1) (fun σ2 h2 f2 => vc_t rfl (hK _ _ σ2 _ (InvX.fr h1 f2) h2))⟩))⟩))
set_option maxRecDepth 100000 in
theorem law_c17 {Lz : Nat} {xs : Nat → Int32} {Wb : am_K} {I : Int32} (hs : LawS Lz xs Wb) (hK : LawK I Wb) (hB : LawB I Lz) {n lf : Nat} {σ : am_Sg} {s : ST} (hI : IX σ n lf s) (hM : IM σ s) : Wb 931 [some (.ref 1000), some (.ref 0), some (.ref 116), some (.int I)] [] n σ (tauY 0 lf) := by
  rcases IX_n hI with ⟨rfl, rfl⟩ | ⟨rfl, rfl⟩
  · obtain ⟨v, e⟩ := isV_guilt (xs (I + 1).toNatClampNeg) (xs (I + 2).toNatClampNeg) s
    exact hs (fun p => Nat.beq p 18 || Nat.beq p 1736) 60 931 _ _ _ _ _ (And.intro hB.1 (And.intro hB.2.1 (⟨(xs (I + 1).toNatClampNeg), (xs (I + 2).toNatClampNeg), pX e hI (fun σ1 h1 f1 => And.intro hB.1 (And.intro hB.2.1 (⟨(xs (I + 1).toNatClampNeg), (xs (I + 2).toNatClampNeg), pM e (by omega) (InvM.fr hM f1) (fun σ2 h2 f2 => vc_t (cmp_self _) (hK _ _ σ2 _ (InvX.fr h1 f2) h2))⟩)))⟩)))
  · obtain ⟨v, e⟩ := isV_guilt (xs (I + 1).toNatClampNeg) (xs (I + 2).toNatClampNeg) s
    exact hs (fun p => Nat.beq p 18 || Nat.beq p 1736) 60 931 _ _ _ _ _ (And.intro hB.1 (And.intro hB.2.1 (⟨(xs (I + 1).toNatClampNeg), (xs (I + 2).toNatClampNeg), pX e hI (fun σ1 h1 f1 => And.intro hB.1 (And.intro hB.2.1 (⟨(xs (I + 1).toNatClampNeg), (xs (I + 2).toNatClampNeg), pM e (by omega) (InvM.fr hM f1) (fun σ2 h2 f2 => vc_t (cmp_self _) (hK _ _ σ2 _ (InvX.fr h1 f2) h2))⟩)))⟩)))
set_option maxRecDepth 100000 in
theorem law_c18 {Lz : Nat} {xs : Nat → Int32} {Wb : am_K} {I : Int32} (hs : LawS Lz xs Wb) (hK : LawK I Wb) (hB : LawB I Lz) {n lf : Nat} {σ : am_Sg} {s : ST} (hI : IX σ n lf s) (hM : IM σ s) : Wb 965 [some (.ref 1000), some (.ref 0), some (.ref 116), some (.int I)] [] n σ (tauY 0 lf) := by
  rcases IX_n hI with ⟨rfl, rfl⟩ | ⟨rfl, rfl⟩
  · by_cases hz : xs (I + 2).toNatClampNeg = 0
    · by_cases hk : okT (xs (I + 1).toNatClampNeg) (xs (I + 3).toNatClampNeg) s
      · obtain ⟨v, e⟩ := isV_tells (xs (I + 1).toNatClampNeg) 0 (xs (I + 3).toNatClampNeg) s
        exact hs (fun p => Nat.beq p 18 || Nat.beq p 1736) 60 965 _ _ _ _ _ (And.intro hB.1 (And.intro hB.2.1 (vc_t hz (And.intro hB.2.2.1 (⟨166, by omega, by omega, pTl (nt := 0) (by decide) e hI (if_pos hk).symm (fun σ1 lf1 h1 f1 => And.intro hB.1 (And.intro hB.2.1 (vc_t hz (And.intro hB.2.2.1 (⟨(xs (I + 1).toNatClampNeg), 0, (xs (I + 3).toNatClampNeg), ⟨pM e (by omega) (InvM.fr hM f1) (fun σ2 h2 f2 => vc_t rfl (hK _ _ σ2 _ (InvX.fr h1 f2) h2)), by omega⟩⟩)))))⟩)))))
      · obtain ⟨v, e⟩ := isV_tells (xs (I + 1).toNatClampNeg) 0 (xs (I + 3).toNatClampNeg) s
        exact hs (fun p => Nat.beq p 18 || Nat.beq p 1736) 60 965 _ _ _ _ _ (And.intro hB.1 (And.intro hB.2.1 (vc_t hz (And.intro hB.2.2.1 (⟨155, by omega, by omega, pTl (nt := 0) (by decide) e hI (if_neg hk).symm (fun σ1 lf1 h1 f1 => And.intro hB.1 (And.intro hB.2.1 (vc_t hz (And.intro hB.2.2.1 (⟨(xs (I + 1).toNatClampNeg), 0, (xs (I + 3).toNatClampNeg), ⟨pM e (by omega) (InvM.fr hM f1) (fun σ2 h2 f2 => vc_t rfl (hK _ _ σ2 _ (InvX.fr h1 f2) h2)), by omega⟩⟩)))))⟩)))))
    · by_cases hk : okT (xs (I + 1).toNatClampNeg) (xs (I + 3).toNatClampNeg) s
      · obtain ⟨v, e⟩ := isV_tells (xs (I + 1).toNatClampNeg) 1 (xs (I + 3).toNatClampNeg) s
        exact hs (fun p => Nat.beq p 18 || Nat.beq p 1736) 60 965 _ _ _ _ _ (And.intro hB.1 (And.intro hB.2.1 (vc_f hz (And.intro hB.2.2.1 (⟨166, by omega, by omega, pTl (nt := 1) (by decide) e hI (if_pos hk).symm (fun σ1 lf1 h1 f1 => And.intro hB.1 (And.intro hB.2.1 (vc_f hz (And.intro hB.2.2.1 (⟨(xs (I + 1).toNatClampNeg), 1, (xs (I + 3).toNatClampNeg), ⟨pM e (by omega) (InvM.fr hM f1) (fun σ2 h2 f2 => vc_t rfl (hK _ _ σ2 _ (InvX.fr h1 f2) h2)), by omega⟩⟩)))))⟩)))))
      · obtain ⟨v, e⟩ := isV_tells (xs (I + 1).toNatClampNeg) 1 (xs (I + 3).toNatClampNeg) s
        exact hs (fun p => Nat.beq p 18 || Nat.beq p 1736) 60 965 _ _ _ _ _ (And.intro hB.1 (And.intro hB.2.1 (vc_f hz (And.intro hB.2.2.1 (⟨155, by omega, by omega, pTl (nt := 1) (by decide) e hI (if_neg hk).symm (fun σ1 lf1 h1 f1 => And.intro hB.1 (And.intro hB.2.1 (vc_f hz (And.intro hB.2.2.1 (⟨(xs (I + 1).toNatClampNeg), 1, (xs (I + 3).toNatClampNeg), ⟨pM e (by omega) (InvM.fr hM f1) (fun σ2 h2 f2 => vc_t rfl (hK _ _ σ2 _ (InvX.fr h1 f2) h2)), by omega⟩⟩)))))⟩)))))
  · by_cases hz : xs (I + 2).toNatClampNeg = 0
    · by_cases hk : okT (xs (I + 1).toNatClampNeg) (xs (I + 3).toNatClampNeg) s
      · obtain ⟨v, e⟩ := isV_tells (xs (I + 1).toNatClampNeg) 0 (xs (I + 3).toNatClampNeg) s
        exact hs (fun p => Nat.beq p 18 || Nat.beq p 1736) 60 965 _ _ _ _ _ (And.intro hB.1 (And.intro hB.2.1 (vc_t hz (And.intro hB.2.2.1 (⟨166, by omega, by omega, pTl (nt := 0) (by decide) e hI (if_pos hk).symm (fun σ1 lf1 h1 f1 => And.intro hB.1 (And.intro hB.2.1 (vc_t hz (And.intro hB.2.2.1 (⟨(xs (I + 1).toNatClampNeg), 0, (xs (I + 3).toNatClampNeg), ⟨pM e (by omega) (InvM.fr hM f1) (fun σ2 h2 f2 => vc_t rfl (hK _ _ σ2 _ (InvX.fr h1 f2) h2)), by omega⟩⟩)))))⟩)))))
      · obtain ⟨v, e⟩ := isV_tells (xs (I + 1).toNatClampNeg) 0 (xs (I + 3).toNatClampNeg) s
        exact hs (fun p => Nat.beq p 18 || Nat.beq p 1736) 60 965 _ _ _ _ _ (And.intro hB.1 (And.intro hB.2.1 (vc_t hz (And.intro hB.2.2.1 (⟨166, by omega, by omega, pTl (nt := 0) (by decide) e hI (if_neg hk).symm (fun σ1 lf1 h1 f1 => And.intro hB.1 (And.intro hB.2.1 (vc_t hz (And.intro hB.2.2.1 (⟨(xs (I + 1).toNatClampNeg), 0, (xs (I + 3).toNatClampNeg), ⟨pM e (by omega) (InvM.fr hM f1) (fun σ2 h2 f2 => vc_t rfl (hK _ _ σ2 _ (InvX.fr h1 f2) h2)), by omega⟩⟩)))))⟩)))))
    · by_cases hk : okT (xs (I + 1).toNatClampNeg) (xs (I + 3).toNatClampNeg) s
      · obtain ⟨v, e⟩ := isV_tells (xs (I + 1).toNatClampNeg) 1 (xs (I + 3).toNatClampNeg) s
        exact hs (fun p => Nat.beq p 18 || Nat.beq p 1736) 60 965 _ _ _ _ _ (And.intro hB.1 (And.intro hB.2.1 (vc_f hz (And.intro hB.2.2.1 (⟨166, by omega, by omega, pTl (nt := 1) (by decide) e hI (if_pos hk).symm (fun σ1 lf1 h1 f1 => And.intro hB.1 (And.intro hB.2.1 (vc_f hz (And.intro hB.2.2.1 (⟨(xs (I + 1).toNatClampNeg), 1, (xs (I + 3).toNatClampNeg), ⟨pM e (by omega) (InvM.fr hM f1) (fun σ2 h2 f2 => vc_t rfl (hK _ _ σ2 _ (InvX.fr h1 f2) h2)), by omega⟩⟩)))))⟩)))))
      · obtain ⟨v, e⟩ := isV_tells (xs (I + 1).toNatClampNeg) 1 (xs (I + 3).toNatClampNeg) s
        exact hs (fun p => Nat.beq p 18 || Nat.beq p 1736) 60 965 _ _ _ _ _ (And.intro hB.1 (And.intro hB.2.1 (vc_f hz (And.intro hB.2.2.1 (⟨166, by omega, by omega, pTl (nt := 1) (by decide) e hI (if_neg hk).symm (fun σ1 lf1 h1 f1 => And.intro hB.1 (And.intro hB.2.1 (vc_f hz (And.intro hB.2.2.1 (⟨(xs (I + 1).toNatClampNeg), 1, (xs (I + 3).toNatClampNeg), ⟨pM e (by omega) (InvM.fr hM f1) (fun σ2 h2 f2 => vc_t rfl (hK _ _ σ2 _ (InvX.fr h1 f2) h2)), by omega⟩⟩)))))⟩)))))
set_option maxRecDepth 100000 in
theorem law_c19 {Lz : Nat} {xs : Nat → Int32} {Wb : am_K} {I : Int32} (hs : LawS Lz xs Wb) (hK : LawK I Wb) (hB : LawB I Lz) {n lf : Nat} {σ : am_Sg} {s : ST} (hI : IX σ n lf s) (hM : IM σ s) : Wb 1024 [some (.ref 1000), some (.ref 0), some (.ref 116), some (.int I)] [] n σ (tauY 0 lf) := by
  rcases IX_n hI with ⟨rfl, rfl⟩ | ⟨rfl, rfl⟩
  · obtain ⟨v, e⟩ := isV_settle (xs (I + 1).toNatClampNeg) s
    exact hs (fun p => Nat.beq p 18 || Nat.beq p 1736) 60 1024 _ _ _ _ _ (And.intro hB.1 (⟨(xs (I + 1).toNatClampNeg), pX e hI (fun σ1 h1 f1 => And.intro hB.1 (⟨(xs (I + 1).toNatClampNeg), pM e (by omega) (InvM.fr hM f1) (fun σ2 h2 f2 => vc_t rfl (hK _ _ σ2 _ (InvX.fr h1 f2) h2))⟩))⟩))
  · obtain ⟨v, e⟩ := isV_settle (xs (I + 1).toNatClampNeg) s
    exact hs (fun p => Nat.beq p 18 || Nat.beq p 1736) 60 1024 _ _ _ _ _ (And.intro hB.1 (⟨(xs (I + 1).toNatClampNeg), pX e hI (fun σ1 h1 f1 => And.intro hB.1 (⟨(xs (I + 1).toNatClampNeg), pM e (by omega) (InvM.fr hM f1) (fun σ2 h2 f2 => vc_t rfl (hK _ _ σ2 _ (InvX.fr h1 f2) h2))⟩))⟩))
set_option maxRecDepth 100000 in
theorem law_c20 {Lz : Nat} {xs : Nat → Int32} {Wb : am_K} {I : Int32} (hs : LawS Lz xs Wb) (hK : LawK I Wb) (hB : LawB I Lz) {n lf : Nat} {σ : am_Sg} {s : ST} (hI : IX σ n lf s) (hM : IM σ s) : Wb 1047 [some (.ref 1000), some (.ref 0), some (.ref 116), some (.int I)] [] n σ (tauY 0 lf) := by
  rcases IX_n hI with ⟨rfl, rfl⟩ | ⟨rfl, rfl⟩
  · obtain ⟨v, e⟩ := isV_brings (xs (I + 1).toNatClampNeg) (xs (I + 2).toNatClampNeg) (xs (I + 3).toNatClampNeg) s
    exact hs (fun p => Nat.beq p 18 || Nat.beq p 1736) 60 1047 _ _ _ _ _ (And.intro hB.1 (And.intro hB.2.1 (And.intro hB.2.2.1 (⟨(xs (I + 1).toNatClampNeg), (xs (I + 2).toNatClampNeg), (xs (I + 3).toNatClampNeg), pX e hI (fun σ1 h1 f1 => And.intro hB.1 (And.intro hB.2.1 (And.intro hB.2.2.1 (⟨(xs (I + 1).toNatClampNeg), (xs (I + 2).toNatClampNeg), (xs (I + 3).toNatClampNeg), pM e (by omega) (InvM.fr hM f1) (fun σ2 h2 f2 => vc_t rfl (hK _ _ σ2 _ (InvX.fr h1 f2) h2))⟩))))⟩))))
  · obtain ⟨v, e⟩ := isV_brings (xs (I + 1).toNatClampNeg) (xs (I + 2).toNatClampNeg) (xs (I + 3).toNatClampNeg) s
    exact hs (fun p => Nat.beq p 18 || Nat.beq p 1736) 60 1047 _ _ _ _ _ (And.intro hB.1 (And.intro hB.2.1 (And.intro hB.2.2.1 (⟨(xs (I + 1).toNatClampNeg), (xs (I + 2).toNatClampNeg), (xs (I + 3).toNatClampNeg), pX e hI (fun σ1 h1 f1 => And.intro hB.1 (And.intro hB.2.1 (And.intro hB.2.2.1 (⟨(xs (I + 1).toNatClampNeg), (xs (I + 2).toNatClampNeg), (xs (I + 3).toNatClampNeg), pM e (by omega) (InvM.fr hM f1) (fun σ2 h2 f2 => vc_t rfl (hK _ _ σ2 _ (InvX.fr h1 f2) h2))⟩))))⟩))))
set_option maxRecDepth 100000 in
theorem law_c21 {Lz : Nat} {xs : Nat → Int32} {Wb : am_K} {I : Int32} (hs : LawS Lz xs Wb) (hK : LawK I Wb) (hB : LawB I Lz) {n lf : Nat} {σ : am_Sg} {s : ST} (hI : IX σ n lf s) (hM : IM σ s) : Wb 1090 [some (.ref 1000), some (.ref 0), some (.ref 116), some (.int I)] [] n σ (tauY 0 lf) := by
  rcases IX_n hI with ⟨rfl, rfl⟩ | ⟨rfl, rfl⟩
  · obtain ⟨v, e⟩ := isV_best (xs (I + 1).toNatClampNeg) s
    exact hs (fun p => Nat.beq p 18 || Nat.beq p 1736) 60 1090 _ _ _ _ _ (And.intro hB.1 (⟨(xs (I + 1).toNatClampNeg), pX e hI (fun σ1 h1 f1 => And.intro hB.1 (⟨(xs (I + 1).toNatClampNeg), pM e (by omega) (InvM.fr hM f1) (fun σ2 h2 f2 => vc_t rfl (hK _ _ σ2 _ (InvX.fr h1 f2) h2))⟩))⟩))
  · obtain ⟨v, e⟩ := isV_best (xs (I + 1).toNatClampNeg) s
    exact hs (fun p => Nat.beq p 18 || Nat.beq p 1736) 60 1090 _ _ _ _ _ (And.intro hB.1 (⟨(xs (I + 1).toNatClampNeg), pX e hI (fun σ1 h1 f1 => And.intro hB.1 (⟨(xs (I + 1).toNatClampNeg), pM e (by omega) (InvM.fr hM f1) (fun σ2 h2 f2 => vc_t rfl (hK _ _ σ2 _ (InvX.fr h1 f2) h2))⟩))⟩))
set_option maxRecDepth 100000 in
theorem law_c22 {Lz : Nat} {xs : Nat → Int32} {Wb : am_K} {I : Int32} (hs : LawS Lz xs Wb) (hK : LawK I Wb) (hB : LawB I Lz) {n lf : Nat} {σ : am_Sg} {s : ST} (hI : IX σ n lf s) (hM : IM σ s) : Wb 1113 [some (.ref 1000), some (.ref 0), some (.ref 116), some (.int I)] [] n σ (tauY 0 lf) := by
  rcases IX_n hI with ⟨rfl, rfl⟩ | ⟨rfl, rfl⟩
  · obtain ⟨v, e⟩ := isV_gains (xs (I + 1).toNatClampNeg) (xs (I + 2).toNatClampNeg) (xs (I + 3).toNatClampNeg) s
    exact hs (fun p => Nat.beq p 18 || Nat.beq p 1736) 60 1113 _ _ _ _ _ (And.intro hB.1 (And.intro hB.2.1 (And.intro hB.2.2.1 (⟨(xs (I + 1).toNatClampNeg), (xs (I + 2).toNatClampNeg), (xs (I + 3).toNatClampNeg), pX e hI (fun σ1 h1 f1 => And.intro hB.1 (And.intro hB.2.1 (And.intro hB.2.2.1 (⟨(xs (I + 1).toNatClampNeg), (xs (I + 2).toNatClampNeg), (xs (I + 3).toNatClampNeg), pM e (by omega) (InvM.fr hM f1) (fun σ2 h2 f2 => vc_t (cmp_self _) (hK _ _ σ2 _ (InvX.fr h1 f2) h2))⟩))))⟩))))
  · obtain ⟨v, e⟩ := isV_gains (xs (I + 1).toNatClampNeg) (xs (I + 2).toNatClampNeg) (xs (I + 3).toNatClampNeg) s
    exact hs (fun p => Nat.beq p 18 || Nat.beq p 1736) 60 1113 _ _ _ _ _ (And.intro hB.1 (And.intro hB.2.1 (And.intro hB.2.2.1 (⟨(xs (I + 1).toNatClampNeg), (xs (I + 2).toNatClampNeg), (xs (I + 3).toNatClampNeg), pX e hI (fun σ1 h1 f1 => And.intro hB.1 (And.intro hB.2.1 (And.intro hB.2.2.1 (⟨(xs (I + 1).toNatClampNeg), (xs (I + 2).toNatClampNeg), (xs (I + 3).toNatClampNeg), pM e (by omega) (InvM.fr hM f1) (fun σ2 h2 f2 => vc_t (cmp_self _) (hK _ _ σ2 _ (InvX.fr h1 f2) h2))⟩))))⟩))))
