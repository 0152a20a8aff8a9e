set_option maxRecDepth 100000 in
theorem law_c31 {Lz : Nat} {xs : Nat → Int32} {Wb : am_K} {I : Int32} (hs : LawS Lz xs Wb) (hK : LawK I Wb) (hB : LawB I Lz) {n lf : Nat} {σ : am_Sg} {s : ST} (hI : IX σ n lf s) (hM : IM σ s) : Wb 1501 [some (.ref 1000), some (.ref 0), some (.ref 116), some (.int I)] [] n σ (tauY 0 lf) := by
  rcases IX_n hI with ⟨rfl, rfl⟩ | ⟨rfl, rfl⟩
  · obtain ⟨v, e⟩ := isV_cell (xs (I + 1).toNatClampNeg) (xs (I + 2).toNatClampNeg) (xs (I + 3).toNatClampNeg) s
    exact hs (fun p => Nat.beq p 18 || Nat.beq p 1736) 60 1501 _ _ _ _ _ (And.intro hB.1 (And.intro hB.2.1 (And.intro hB.2.2.1 (⟨(xs (I + 1).toNatClampNeg), (xs (I + 2).toNatClampNeg), (xs (I + 3).toNatClampNeg), pX e hI (fun σ1 h1 f1 => And.intro hB.1 (And.intro hB.2.1 (And.intro hB.2.2.1 (⟨(xs (I + 1).toNatClampNeg), (xs (I + 2).toNatClampNeg), (xs (I + 3).toNatClampNeg), pM e (by omega) (InvM.fr hM f1) (fun σ2 h2 f2 => vc_t (cmp_self _) (hK _ _ σ2 _ (InvX.fr h1 f2) h2))⟩))))⟩))))
  · obtain ⟨v, e⟩ := isV_cell (xs (I + 1).toNatClampNeg) (xs (I + 2).toNatClampNeg) (xs (I + 3).toNatClampNeg) s
    exact hs (fun p => Nat.beq p 18 || Nat.beq p 1736) 60 1501 _ _ _ _ _ (And.intro hB.1 (And.intro hB.2.1 (And.intro hB.2.2.1 (⟨(xs (I + 1).toNatClampNeg), (xs (I + 2).toNatClampNeg), (xs (I + 3).toNatClampNeg), pX e hI (fun σ1 h1 f1 => And.intro hB.1 (And.intro hB.2.1 (And.intro hB.2.2.1 (⟨(xs (I + 1).toNatClampNeg), (xs (I + 2).toNatClampNeg), (xs (I + 3).toNatClampNeg), pM e (by omega) (InvM.fr hM f1) (fun σ2 h2 f2 => vc_t (cmp_self _) (hK _ _ σ2 _ (InvX.fr h1 f2) h2))⟩))))⟩))))
set_option maxRecDepth 100000 in
theorem law_c32 {Lz : Nat} {xs : Nat → Int32} {Wb : am_K} {I : Int32} (hs : LawS Lz xs Wb) (hK : LawK I Wb) (hB : LawB I Lz) {n lf : Nat} {σ : am_Sg} {s : ST} (hI : IX σ n lf s) (hM : IM σ s) : Wb 1545 [some (.ref 1000), some (.ref 0), some (.ref 116), some (.int I)] [] n σ (tauY 0 lf) := by
  rcases IX_n hI with ⟨rfl, rfl⟩ | ⟨rfl, rfl⟩
  · obtain ⟨v, e⟩ := isV_copy (xs (I + 1).toNatClampNeg) (xs (I + 2).toNatClampNeg) (xs (I + 3).toNatClampNeg) (xs (I + 4).toNatClampNeg) (xs (I + 5).toNatClampNeg) s
    exact hs (fun p => Nat.beq p 18 || Nat.beq p 1736) 60 1545 _ _ _ _ _ (And.intro hB.1 (And.intro hB.2.1 (And.intro hB.2.2.1 (And.intro hB.2.2.2.1 (And.intro hB.2.2.2.2 (⟨(xs (I + 1).toNatClampNeg), (xs (I + 2).toNatClampNeg), (xs (I + 3).toNatClampNeg), (xs (I + 4).toNatClampNeg), (xs (I + 5).toNatClampNeg), pX e hI (fun σ1 h1 f1 => And.intro hB.1 (And.intro hB.2.1 (And.intro hB.2.2.1 (And.intro hB.2.2.2.1 (And.intro hB.2.2.2.2 (⟨(xs (I + 1).toNatClampNeg), (xs (I + 2).toNatClampNeg), (xs (I + 3).toNatClampNeg), (xs (I + 4).toNatClampNeg), (xs (I + 5).toNatClampNeg), pM e (by omega) (InvM.fr hM f1) (fun σ2 h2 f2 => vc_t rfl (hK _ _ σ2 _ (InvX.fr h1 f2) h2))⟩))))))⟩))))))
  · obtain ⟨v, e⟩ := isV_copy (xs (I + 1).toNatClampNeg) (xs (I + 2).toNatClampNeg) (xs (I + 3).toNatClampNeg) (xs (I + 4).toNatClampNeg) (xs (I + 5).toNatClampNeg) s
    exact hs (fun p => Nat.beq p 18 || Nat.beq p 1736) 60 1545 _ _ _ _ _ (And.intro hB.1 (And.intro hB.2.1 (And.intro hB.2.2.1 (And.intro hB.2.2.2.1 (And.intro hB.2.2.2.2 (⟨(xs (I + 1).toNatClampNeg), (xs (I + 2).toNatClampNeg), (xs (I + 3).toNatClampNeg), (xs (I + 4).toNatClampNeg), (xs (I + 5).toNatClampNeg), pX e hI (fun σ1 h1 f1 => And.intro hB.1 (And.intro hB.2.1 (And.intro hB.2.2.1 (And.intro hB.2.2.2.1 (And.intro hB.2.2.2.2 (⟨(xs (I + 1).toNatClampNeg), (xs (I + 2).toNatClampNeg), (xs (I + 3).toNatClampNeg), (xs (I + 4).toNatClampNeg), (xs (I + 5).toNatClampNeg), pM e (by omega) (InvM.fr hM f1) (fun σ2 h2 f2 => vc_t rfl (hK _ _ σ2 _ (InvX.fr h1 f2) h2))⟩))))))⟩))))))
set_option maxRecDepth 100000 in
theorem law_c33 {Lz : Nat} {xs : Nat → Int32} {Wb : am_K} {I : Int32} (hs : LawS Lz xs Wb) (hK : LawK I Wb) (hB : LawB I Lz) {n lf : Nat} {σ : am_Sg} {s : ST} (hI : IX σ n lf s) (hM : IM σ s) : Wb 1608 [some (.ref 1000), some (.ref 0), some (.ref 116), some (.int I)] [] n σ (tauY 0 lf) := by
  rcases IX_n hI with ⟨rfl, rfl⟩ | ⟨rfl, rfl⟩
  · obtain ⟨v, e⟩ := isV_tell (xs (I + 1).toNatClampNeg) s
    exact hs (fun p => Nat.beq p 18 || Nat.beq p 1736) 60 1608 _ _ _ _ _ (And.intro hB.1 (⟨(xs (I + 1).toNatClampNeg), pX e hI (fun σ1 h1 f1 => And.intro hB.1 (⟨(xs (I + 1).toNatClampNeg), pM e (by omega) (InvM.fr hM f1) (fun σ2 h2 f2 => vc_t rfl (hK _ _ σ2 _ (InvX.fr h1 f2) h2))⟩))⟩))
  · obtain ⟨v, e⟩ := isV_tell (xs (I + 1).toNatClampNeg) s
    exact hs (fun p => Nat.beq p 18 || Nat.beq p 1736) 60 1608 _ _ _ _ _ (And.intro hB.1 (⟨(xs (I + 1).toNatClampNeg), pX e hI (fun σ1 h1 f1 => And.intro hB.1 (⟨(xs (I + 1).toNatClampNeg), pM e (by omega) (InvM.fr hM f1) (fun σ2 h2 f2 => vc_t rfl (hK _ _ σ2 _ (InvX.fr h1 f2) h2))⟩))⟩))
set_option maxRecDepth 100000 in
theorem law_c34 {Lz : Nat} {xs : Nat → Int32} {Wb : am_K} {I : Int32} (hs : LawS Lz xs Wb) (hK : LawK I Wb) (hB : LawB I Lz) {n lf : Nat} {σ : am_Sg} {s : ST} (hI : IX σ n lf s) (hM : IM σ s) : Wb 1631 [some (.ref 1000), some (.ref 0), some (.ref 116), some (.int I)] [] n σ (tauY 0 lf) := by
  rcases IX_n hI with ⟨rfl, rfl⟩ | ⟨rfl, rfl⟩
  · obtain ⟨v, e⟩ := isV_see (xs (I + 1).toNatClampNeg) s
    exact hs (fun p => Nat.beq p 18 || Nat.beq p 1736) 60 1631 _ _ _ _ _ (And.intro hB.1 (⟨(xs (I + 1).toNatClampNeg), pX e hI (fun σ1 h1 f1 => And.intro hB.1 (⟨(xs (I + 1).toNatClampNeg), pM e (by omega) (InvM.fr hM f1) (fun σ2 h2 f2 => vc_t rfl (hK _ _ σ2 _ (InvX.fr h1 f2) h2))⟩))⟩))
  · obtain ⟨v, e⟩ := isV_see (xs (I + 1).toNatClampNeg) s
    exact hs (fun p => Nat.beq p 18 || Nat.beq p 1736) 60 1631 _ _ _ _ _ (And.intro hB.1 (⟨(xs (I + 1).toNatClampNeg), pX e hI (fun σ1 h1 f1 => And.intro hB.1 (⟨(xs (I + 1).toNatClampNeg), pM e (by omega) (InvM.fr hM f1) (fun σ2 h2 f2 => vc_t rfl (hK _ _ σ2 _ (InvX.fr h1 f2) h2))⟩))⟩))
set_option maxRecDepth 100000 in
theorem law_c35 {Lz : Nat} {xs : Nat → Int32} {Wb : am_K} {I : Int32} (hs : LawS Lz xs Wb) (hK : LawK I Wb) (hB : LawB I Lz) {n lf : Nat} {σ : am_Sg} {s : ST} (hI : IX σ n lf s) (hM : IM σ s) : Wb 1654 [some (.ref 1000), some (.ref 0), some (.ref 116), some (.int I)] [] n σ (tauY 0 lf) := by
  rcases IX_n hI with ⟨rfl, rfl⟩ | ⟨rfl, rfl⟩
  · obtain ⟨v, e⟩ := isV_as (xs (I + 1).toNatClampNeg) (xs (I + 2).toNatClampNeg) s
    exact hs (fun p => Nat.beq p 18 || Nat.beq p 1736) 60 1654 _ _ _ _ _ (And.intro hB.1 (And.intro hB.2.1 (⟨(xs (I + 1).toNatClampNeg), (xs (I + 2).toNatClampNeg), pX e hI (fun σ1 h1 f1 => And.intro hB.1 (And.intro hB.2.1 (⟨(xs (I + 1).toNatClampNeg), (xs (I + 2).toNatClampNeg), pM e (by omega) (InvM.fr hM f1) (fun σ2 h2 f2 => vc_t rfl (hK _ _ σ2 _ (InvX.fr h1 f2) h2))⟩)))⟩)))
  · obtain ⟨v, e⟩ := isV_as (xs (I + 1).toNatClampNeg) (xs (I + 2).toNatClampNeg) s
    exact hs (fun p => Nat.beq p 18 || Nat.beq p 1736) 60 1654 _ _ _ _ _ (And.intro hB.1 (And.intro hB.2.1 (⟨(xs (I + 1).toNatClampNeg), (xs (I + 2).toNatClampNeg), pX e hI (fun σ1 h1 f1 => And.intro hB.1 (And.intro hB.2.1 (⟨(xs (I + 1).toNatClampNeg), (xs (I + 2).toNatClampNeg), pM e (by omega) (InvM.fr hM f1) (fun σ2 h2 f2 => vc_t rfl (hK _ _ σ2 _ (InvX.fr h1 f2) h2))⟩)))⟩)))
set_option maxRecDepth 100000 in
theorem law_c36 {Lz : Nat} {xs : Nat → Int32} {Wb : am_K} {I : Int32} (hs : LawS Lz xs Wb) (hK : LawK I Wb) (hB : LawB I Lz) {n lf : Nat} {σ : am_Sg} {s : ST} (hI : IX σ n lf s) (hM : IM σ s) : Wb 1687 [some (.ref 1000), some (.ref 0), some (.ref 116), some (.int I)] [] n σ (tauY 0 lf) := by
  rcases IX_n hI with ⟨rfl, rfl⟩ | ⟨rfl, rfl⟩
  · obtain ⟨v, e⟩ := isV_trace  s
    exact hs (fun p => Nat.beq p 18 || Nat.beq p 1736) 60 1687 _ _ _ _ _ (⟨(), pX e hI (fun σ1 h1 f1 => ⟨(), pM e (by omega) (InvM.fr hM f1) (fun σ2 h2 f2 => vc_t rfl (hK _ _ σ2 _ (InvX.fr h1 f2) h2))⟩)⟩)
  · obtain ⟨v, e⟩ := isV_trace  s
    exact hs (fun p => Nat.beq p 18 || Nat.beq p 1736) 60 1687 _ _ _ _ _ (⟨(), pX e hI (fun σ1 h1 f1 => ⟨(), pM e (by omega) (InvM.fr hM f1) (fun σ2 h2 f2 => vc_t rfl (hK _ _ σ2 _ (InvX.fr h1 f2) h2))⟩)⟩)
set_option maxRecDepth 100000 in
theorem law_c37 {Lz : Nat} {xs : Nat → Int32} {Wb : am_K} {I : Int32} (hs : LawS Lz xs Wb) (hK : LawK I Wb) (hB : LawB I Lz) {n lf : Nat} {σ : am_Sg} {s : ST} (hI : IX σ n lf s) (hM : IM σ s) : Wb 1700 [some (.ref 1000), some (.ref 0), some (.ref 116), some (.int I)] [] n σ (tauY 0 lf) := by
  rcases IX_n hI with ⟨rfl, rfl⟩ | ⟨rfl, rfl⟩
  · obtain ⟨v, e⟩ := isV_fault  s
    exact hs (fun p => Nat.beq p 18 || Nat.beq p 1736) 60 1700 _ _ _ _ _ (⟨(), pX e hI (fun σ1 h1 f1 => ⟨(), pM e (by omega) (InvM.fr hM f1) (fun σ2 h2 f2 => vc_t rfl (hK _ _ σ2 _ (InvX.fr h1 f2) h2))⟩)⟩)
  · obtain ⟨v, e⟩ := isV_fault  s
    exact hs (fun p => Nat.beq p 18 || Nat.beq p 1736) 60 1700 _ _ _ _ _ (⟨(), pX e hI (fun σ1 h1 f1 => ⟨(), pM e (by omega) (InvM.fr hM f1) (fun σ2 h2 f2 => vc_t rfl (hK _ _ σ2 _ (InvX.fr h1 f2) h2))⟩)⟩)
set_option maxRecDepth 100000 in
theorem law_c38 {Lz : Nat} {xs : Nat → Int32} {Wb : am_K} {I : Int32} (hs : LawS Lz xs Wb) (hK : LawK I Wb) (hB : LawB I Lz) {n lf : Nat} {σ : am_Sg} {s : ST} (hI : IX σ n lf s) (hM : IM σ s) : Wb 1713 [some (.ref 1000), some (.ref 0), some (.ref 116), some (.int I)] [] n σ (tauY 0 lf) := by
  rcases IX_n hI with ⟨rfl, rfl⟩ | ⟨rfl, rfl⟩
  · obtain ⟨v, e⟩ := isV_many (xs (I + 1).toNatClampNeg) s
    exact hs (fun p => Nat.beq p 18 || Nat.beq p 1736) 60 1713 _ _ _ _ _ (And.intro hB.1 (⟨(xs (I + 1).toNatClampNeg), pX e hI (fun σ1 h1 f1 => And.intro hB.1 (⟨(xs (I + 1).toNatClampNeg), pM e (by omega) (InvM.fr hM f1) (fun σ2 h2 f2 => vc_t rfl (hK _ _ σ2 _ (InvX.fr h1 f2) h2))⟩))⟩))
  · obtain ⟨v, e⟩ := isV_many (xs (I + 1).toNatClampNeg) s
    exact hs (fun p => Nat.beq p 18 || Nat.beq p 1736) 60 1713 _ _ _ _ _ (And.intro hB.1 (⟨(xs (I + 1).toNatClampNeg), pX e hI (fun σ1 h1 f1 => And.intro hB.1 (⟨(xs (I + 1).toNatClampNeg), pM e (by omega) (InvM.fr hM f1) (fun σ2 h2 f2 => vc_t rfl (hK _ _ σ2 _ (InvX.fr h1 f2) h2))⟩))⟩))
