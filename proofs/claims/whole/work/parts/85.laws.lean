def G_law (y : Nat) : am_C := bif Nat.beq y 700 then C_X7 else (bif Nat.beq y 800 then C_X8 else (bif Nat.beq y 701 then C_xcanal else (bif Nat.beq y 702 then C_xofMile else (bif Nat.beq y 703 then C_xturn else (bif Nat.beq y 704 then C_xofOutlet else (bif Nat.beq y 705 then C_xkind else (bif Nat.beq y 706 then C_xneeds else (bif Nat.beq y 707 then C_xguard else (bif Nat.beq y 708 then C_xsyphon else (bif Nat.beq y 709 then C_xbehind else (bif Nat.beq y 710 then C_xseeps else (bif Nat.beq y 711 then C_xlevel else (bif Nat.beq y 712 then C_xtakes else (bif Nat.beq y 713 then C_xrow else (bif Nat.beq y 714 then C_xreading else (bif Nat.beq y 715 then C_xback else (bif Nat.beq y 716 then C_xfits else (bif Nat.beq y 717 then C_xsure else (bif Nat.beq y 718 then C_xguilt else (bif Nat.beq y 719 then C_xtells else (bif Nat.beq y 720 then C_xsettle else (bif Nat.beq y 721 then C_xbrings else (bif Nat.beq y 722 then C_xbest else (bif Nat.beq y 723 then C_xgains else (bif Nat.beq y 724 then C_xholds else (bif Nat.beq y 725 then C_xdigs else (bif Nat.beq y 726 then C_xeven else (bif Nat.beq y 727 then C_xtempts else (bif Nat.beq y 728 then C_xkept else (bif Nat.beq y 729 then C_xsheet else (bif Nat.beq y 730 then C_xlose else (bif Nat.beq y 731 then C_xput else (bif Nat.beq y 732 then C_xcell else (bif Nat.beq y 733 then C_xcopy else (bif Nat.beq y 734 then C_xtell else (bif Nat.beq y 735 then C_xsee else (bif Nat.beq y 736 then C_xas else (bif Nat.beq y 737 then C_xtrace else (bif Nat.beq y 738 then C_xfault else (bif Nat.beq y 739 then C_xmany else (bif Nat.beq y 811 then C_mcanal else (bif Nat.beq y 816 then C_mofMile else (bif Nat.beq y 817 then C_mturn else (bif Nat.beq y 818 then C_mofOutlet else (bif Nat.beq y 819 then C_mkind else (bif Nat.beq y 820 then C_mneeds else (bif Nat.beq y 821 then C_mguard else (bif Nat.beq y 822 then C_msyphon else (bif Nat.beq y 826 then C_mbehind else (bif Nat.beq y 827 then C_mseeps else (bif Nat.beq y 828 then C_mlevel else (bif Nat.beq y 829 then C_mtakes else (bif Nat.beq y 830 then C_mrow else (bif Nat.beq y 832 then C_mreading else (bif Nat.beq y 833 then C_mback else (bif Nat.beq y 838 then C_mfits else (bif Nat.beq y 839 then C_msure else (bif Nat.beq y 841 then C_mguilt else (bif Nat.beq y 843 then C_mtells else (bif Nat.beq y 846 then C_msettle else (bif Nat.beq y 848 then C_mbrings else (bif Nat.beq y 849 then C_mbest else (bif Nat.beq y 851 then C_mgains else (bif Nat.beq y 855 then C_mholds else (bif Nat.beq y 856 then C_mdigs else (bif Nat.beq y 858 then C_meven else (bif Nat.beq y 860 then C_mtempts else (bif Nat.beq y 861 then C_mkept else (bif Nat.beq y 862 then C_msheet else (bif Nat.beq y 863 then C_mlose else (bif Nat.beq y 864 then C_mput else (bif Nat.beq y 865 then C_mcell else (bif Nat.beq y 866 then C_mcopy else (bif Nat.beq y 868 then C_mtell else (bif Nat.beq y 869 then C_msee else (bif Nat.beq y 870 then C_mas else (bif Nat.beq y 871 then C_mtrace else (bif Nat.beq y 872 then C_mfault else (bif Nat.beq y 873 then C_mmany else (am_no))))))))))))))))))))))))))))))))))))))))))))))))))))))))))))))))))))))))))))))))
set_option maxRecDepth 100000 in
theorem G_met : ∀ y, am_Met 24 y (G_law y) := fun y => am_g (M_X7 21) (am_g (M_X8 23) (am_g (M_xcanal 18) (am_g (M_xofMile 21) (am_g (M_xturn 21) (am_g (M_xofOutlet 21) (am_g (M_xkind 21) (am_g (M_xneeds 21) (am_g (M_xguard 21) (am_g (M_xsyphon 21) (am_g (M_xbehind 20) (am_g (M_xseeps 20) (am_g (M_xlevel 20) (am_g (M_xtakes 20) (am_g (M_xrow 20) (am_g (M_xreading 21) (am_g (M_xback 21) (am_g (M_xfits 1) (am_g (M_xsure 1) (am_g (M_xguilt 1) (am_g (M_xtells 1) (am_g (M_xsettle 19) (am_g (M_xbrings 18) (am_g (M_xbest 18) (am_g (M_xgains 19) (am_g (M_xholds 19) (am_g (M_xdigs 19) (am_g (M_xeven 15) (am_g (M_xtempts 19) (am_g (M_xkept 19) (am_g (M_xsheet 21) (am_g (M_xlose 21) (am_g (M_xput 21) (am_g (M_xcell 21) (am_g (M_xcopy 21) (am_g (M_xtell 19) (am_g (M_xsee 21) (am_g (M_xas 21) (am_g (M_xtrace 23) (am_g (M_xfault 23) (am_g (M_xmany 21) (am_g (M_mcanal 18) (am_g (M_mofMile 21) (am_g (M_mturn 21) (am_g (M_mofOutlet 21) (am_g (M_mkind 21) (am_g (M_mneeds 21) (am_g (M_mguard 21) (am_g (M_msyphon 21) (am_g (M_mbehind 20) (am_g (M_mseeps 20) (am_g (M_mlevel 20) (am_g (M_mtakes 20) (am_g (M_mrow 20) (am_g (M_mreading 21) (am_g (M_mback 21) (am_g (M_mfits 19) (am_g (M_msure 19) (am_g (M_mguilt 19) (am_g (M_mtells 19) (am_g (M_msettle 19) (am_g (M_mbrings 18) (am_g (M_mbest 18) (am_g (M_mgains 19) (am_g (M_mholds 19) (am_g (M_mdigs 19) (am_g (M_meven 19) (am_g (M_mtempts 19) (am_g (M_mkept 19) (am_g (M_msheet 21) (am_g (M_mlose 21) (am_g (M_mput 21) (am_g (M_mcell 21) (am_g (M_mcopy 21) (am_g (M_mtell 21) (am_g (M_msee 21) (am_g (M_mas 21) (am_g (M_mtrace 23) (am_g (M_mfault 23) (am_g (M_mmany 21) (am_no_met))))))))))))))))))))))))))))))))))))))))))))))))))))))))))))))))))))))))))))))))
theorem pX {args : List Value} {f : ST → Value × ST} {s : ST} {w : Value} {n lf : Nat} {σ : am_Sg} {P : Option Value → am_Sg → am_Tu → Prop} (e : (f s).1 = w) (hI : IX σ n lf s) (h : ∀ σ', IX σ' n lf (f s).2 → FrX σ σ' → P (some w) σ' (tauY 0 lf)) : pubX args f (.ref 0 :: args) n σ (tauY 0 lf) n P := ⟨rfl, lf, s, rfl, hI, rfl, fun σ' a b => by rw [e]; exact h σ' a b⟩
theorem pM {args : List Value} {f : ST → Value × ST} {s : ST} {w : Value} {n lf : Nat} {σ : am_Sg} {P : Option Value → am_Sg → am_Tu → Prop} (e : (f s).1 = w) (hn : 155 ≤ n) (hI : IM σ s) (h : ∀ σ', IM σ' (f s).2 → FrM σ σ' → P (some w) σ' (tauY 0 lf)) : pubM args f (.ref 116 :: args) n σ (tauY 0 lf) n P := ⟨rfl, hn, lf, s, rfl, hI, rfl, fun σ' a b => by rw [e]; exact h σ' a b⟩
theorem pTl {f w : Int32} {nt : Nat} {s : ST} {v : Value} {n lf nf : Nat} {σ : am_Sg} {P : Option Value → am_Sg → am_Tu → Prop} (hnt : nt ≤ 1) (e : (f_tells f nt w s).1 = v) (hI : IX σ n lf s) (hnf : nf = if okT f w s then 166 else n) (h : ∀ σ' lf', IX σ' nf lf' (f_tells f nt w s).2 → FrX σ σ' → P (some v) σ' (tauY 0 lf')) : C_xtells [.ref 0, .int f, .int (nI nt), .int w] n σ (tauY 0 lf) nf P := ⟨f, nt, w, lf, s, hnt, rfl, hI, rfl, hnf, fun σ' lf' a b => by rw [e]; exact h σ' lf' a b⟩
def LawS (Lz : Nat) (xs : Nat → Int32) (Wb : am_K) : Prop := ∀ (stop : Nat → Bool) (f pc : Nat) (L : am_L) (st : List Value) (m : Nat) (σ : am_Sg) (τ : am_Tu), am_vc (true, Lz, xs) T_law G_law 0 166 stop Wb (fun v _ _ _ => v = some (.int 1)) f pc L st m σ τ → Wb pc L st m σ τ
def LawK (I : Int32) (Wb : am_K) : Prop := ∀ (n lf : Nat) (σ : am_Sg) (s : ST), IX σ n lf s → IM σ s → Wb 1736 [some (.ref 1000), some (.ref 0), some (.ref 116), some (.int I)] [] n σ (tauY 0 lf)
def LawB (I : Int32) (Lz : Nat) : Prop := vp_in (I + 1) Lz ∧ vp_in (I + 2) Lz ∧ vp_in (I + 3) Lz ∧ vp_in (I + 4) Lz ∧ vp_in (I + 5) Lz
theorem IX_n {σ : am_Sg} {n lf : Nat} {s : ST} (h : IX σ n lf s) : (lf = 0 ∧ n = 155) ∨ (lf = 156 ∧ n = 166) := h.2.2.2.2.2.2.2.2.2
theorem cmp_self (v : Int64) : lg_cmp v v = 0 := by
  unfold lg_cmp
  simp
theorem isV_canal (k : Int32) (t : Int32) (i : Int32) (m : Int32) (s : ST) : ∃ w9, (f_canal k t i m s).1 = .int w9 := by
  unfold f_canal f_ref
  repeat' split
  all_goals exact ⟨_, rfl⟩
theorem isV_ofMile (j : Int32) (what : Int32) (s : ST) : ∃ w9, (f_ofMile j what s).1 = .int w9 := by
  exact ⟨_, rfl⟩
theorem isV_turn (j : Int32) (what : Int32) (v : Int32) (s : ST) : ∃ w9, (f_turn j what v s).1 = .int w9 := by
  unfold f_turn
  repeat' split
  all_goals exact ⟨_, rfl⟩
theorem isV_ofOutlet (o : Int32) (what : Int32) (s : ST) : ∃ w9, (f_ofOutlet o what s).1 = .int w9 := by
  exact ⟨_, rfl⟩
theorem isV_guard (o : Int32) (b : Nat) (s : ST) : ∃ w9, (f_guard o b s).1 = .int w9 := by
  unfold f_guard
  repeat' split
  all_goals exact ⟨_, rfl⟩
theorem isV_syphon (v : Int32) (s : ST) : ∃ w9, (f_syphon v s).1 = .int w9 := by
  unfold f_syphon
  repeat' split
  all_goals exact ⟨_, rfl⟩
theorem isV_behind (j : Int32) (f : Int32) (nt : Nat) (s : ST) : ∃ w9, (f_behind j f nt s).1 = .int w9 := by
  exact ⟨_, rfl⟩
theorem isV_seeps (j : Int32) (f : Int32) (nt : Nat) (s : ST) : ∃ w9, (f_seeps j f nt s).1 = .int w9 := by
  exact ⟨_, rfl⟩
theorem isV_level (j : Int32) (f : Int32) (nt : Nat) (s : ST) : ∃ w9, (f_level j f nt s).1 = .int w9 := by
  exact ⟨_, rfl⟩
theorem isV_takes (j : Int32) (f : Int32) (nt : Nat) (s : ST) : ∃ w9, (f_takes j f nt s).1 = .int w9 := by
  exact ⟨_, rfl⟩
theorem isV_row (k : Int32) (t : Int32) (i : Int32) (m : Int32) (w : Int32) (s : ST) : ∃ w9, (f_row k t i m w s).1 = .int w9 := by
  unfold f_row f_ref
  repeat' split
  all_goals exact ⟨_, rfl⟩
theorem isV_reading (j : Int32) (f : Int32) (nt : Nat) (v : Int32) (s : ST) : ∃ w9, (f_reading j f nt v s).1 = .int w9 := by
  unfold f_reading
  repeat' split
  all_goals exact ⟨_, rfl⟩
theorem isV_back (k : Int32) (s : ST) : ∃ w9, (f_back k s).1 = .int w9 := by
  unfold f_back
  repeat' split
  all_goals exact ⟨_, rfl⟩
theorem isV_fits  (s : ST) : ∃ w9, (f_fits s).1 = .int w9 := by
  exact ⟨_, rfl⟩
theorem isV_sure (o : Int32) (s : ST) : ∃ w9, (f_sure o s).1 = .int w9 := by
  exact ⟨_, rfl⟩
theorem isV_guilt (o : Int32) (w : Int32) (s : ST) : ∃ w9, (f_guilt o w s).1 = .long w9 := by
  unfold f_guilt
  repeat' split
  all_goals exact ⟨_, rfl⟩
theorem isV_tells (f : Int32) (nt : Nat) (w : Int32) (s : ST) : ∃ w9, (f_tells f nt w s).1 = .int w9 := by
  exact ⟨_, rfl⟩
theorem isV_settle (f : Int32) (s : ST) : ∃ w9, (f_settle f s).1 = .int w9 := by
  unfold f_settle
  repeat' split
  all_goals exact ⟨_, rfl⟩
theorem isV_brings (s9 : Int32) (k : Int32) (f : Int32) (s : ST) : ∃ w9, (f_brings s9 k f s).1 = .int w9 := by
  exact ⟨_, rfl⟩
theorem isV_best (f : Int32) (s : ST) : ∃ w9, (f_best f s).1 = .int w9 := by
  exact ⟨_, rfl⟩
theorem isV_gains (j : Int32) (o : Int32) (f : Int32) (s : ST) : ∃ w9, (f_gains j o f s).1 = .long w9 := by
  unfold f_gains
  repeat' split
  all_goals exact ⟨_, rfl⟩
theorem isV_holds (j : Int32) (set : Int32) (d : Int32) (c : Int32) (f : Int32) (s : ST) : ∃ w9, (f_holds j set d c f s).1 = .int w9 := by
  exact ⟨_, rfl⟩
theorem isV_digs (j : Int32) (d : Int32) (c : Int32) (f : Int32) (w : Int32) (s : ST) : ∃ w9, (f_digs j d c f w s).1 = .int w9 := by
  exact ⟨_, rfl⟩
theorem isV_even (f : Int32) (k : Int32) (s : ST) : ∃ w9, (f_even f k s).1 = .int w9 := by
  exact ⟨_, rfl⟩
theorem isV_tempts (o : Int32) (f : Int32) (s : ST) : ∃ w9, (f_tempts o f s).1 = .int w9 := by
  exact ⟨_, rfl⟩
theorem isV_kept (g : Int32) (w : Int32) (f : Int32) (s : ST) : ∃ w9, (f_kept g w f s).1 = .int w9 := by
  exact ⟨_, rfl⟩
theorem isV_sheet (k : Int32) (t : Int32) (l : Int32) (s : ST) : ∃ w9, (f_sheet k t l s).1 = .int w9 := by
  unfold f_sheet
  repeat' split
  all_goals exact ⟨_, rfl⟩
theorem isV_lose (k : Int32) (s : ST) : ∃ w9, (f_lose k s).1 = .int w9 := by
  unfold f_lose
  repeat' split
  all_goals exact ⟨_, rfl⟩
theorem isV_put (k : Int32) (v : Int32) (w : Int32) (s : ST) : ∃ w9, (f_put k v w s).1 = .int w9 := by
  unfold f_put
  repeat' split
  all_goals exact ⟨_, rfl⟩
theorem isV_cell (k : Int32) (v : Int32) (t : Int32) (s : ST) : ∃ w9, (f_cell k v t s).1 = .long w9 := by
  unfold f_cell
  repeat' split
  all_goals exact ⟨_, rfl⟩
theorem isV_copy (k : Int32) (i : Int32) (o : Int32) (j : Int32) (m : Int32) (s : ST) : ∃ w9, (f_copy k i o j m s).1 = .int w9 := by
  unfold f_copy
  repeat' split
  all_goals exact ⟨_, rfl⟩
theorem isV_tell (o : Int32) (s : ST) : ∃ w9, (f_tell o s).1 = .int w9 := by
  unfold f_tell
  repeat' split
  all_goals exact ⟨_, rfl⟩
theorem isV_see (o : Int32) (s : ST) : ∃ w9, (f_see o s).1 = .int w9 := by
  unfold f_see
  repeat' split
  all_goals exact ⟨_, rfl⟩
theorem isV_as (o : Int32) (k : Int32) (s : ST) : ∃ w9, (f_as o k s).1 = .int w9 := by
  unfold f_as
  repeat' split
  all_goals exact ⟨_, rfl⟩
theorem isV_trace  (s : ST) : ∃ w9, (f_trace s).1 = .int w9 := by
  exact ⟨_, rfl⟩
theorem isV_fault  (s : ST) : ∃ w9, (f_fault s).1 = .int w9 := by
  exact ⟨_, rfl⟩
theorem isV_many (w : Int32) (s : ST) : ∃ w9, (f_many w s).1 = .int w9 := by
  exact ⟨_, rfl⟩
theorem isV_kind (o v : Int32) (s : ST) : ∃ w9, (f_setO 8 3 o v s).1 = .int w9 := by
  unfold f_setO
  repeat' split
  all_goals exact ⟨_, rfl⟩
theorem isV_needs (o v : Int32) (s : ST) : ∃ w9, (f_setO 9 1000 o v s).1 = .int w9 := by
  unfold f_setO
  repeat' split
  all_goals exact ⟨_, rfl⟩
