abbrev am_Sg : Type := Nat → Nat → Int32
abbrev am_Tu : Type := Nat → Nat → Nat
abbrev am_L : Type := List (Option Value)
abbrev am_C : Type := List Value → Nat → am_Sg → am_Tu → Nat → (Option Value → am_Sg → am_Tu → Prop) → Prop
abbrev am_AI : Type := Nat × Nat × Nat × Nat × Int32 × List Nat × Int64
abbrev am_Z : Type := ClassId × ClassId × ClassId × ClassId
abbrev am_X : Type := Bool × Nat × (Nat → Int32)
abbrev am_K : Type := Nat → am_L → List Value → Nat → am_Sg → am_Tu → Prop
abbrev am_Rt : Type := Option Value → Nat → am_Sg → am_Tu → Prop
def am_nth : am_L → Nat → Option Value
  | [], _ => none
  | a :: _, 0 => a
  | _ :: t, i + 1 => am_nth t i
def am_setK : am_L → Nat → Option Value → (am_L → Prop) → Prop
  | [], _, _, _ => False
  | _ :: t, 0, v, k => k (v :: t)
  | a :: t, i + 1, v, k => am_setK t i v (fun r => k (a :: r))
def am_nl (L : am_L) (x : Nat) : Bool := match x with
  | 0 => true
  | x + 1 => match am_nth L x with
    | some (.long _) => false
    | some (.double _) => false
    | _ => true
def am_takeK : Nat → List Value → List Value → (List Value → List Value → Prop) → Prop
  | 0, st, acc, k => k acc st
  | m + 1, v :: st, acc, k => am_takeK m st (v :: acc) k
  | _ + 1, [], _, _ => False
def am_up {α : Type} (f : Nat → Nat → α) (q i : Nat) (v : α) : Nat → Nat → α := fun a b => bif Nat.beq a q && Nat.beq b i then v else f a b
def am_z {α : Type} (f : Nat → Nat → α) (q : Nat) (v : α) : Nat → Nat → α := fun a b => bif Nat.beq a q then v else f a b
def am_cp (σ : am_Sg) (q0 q1 sp dp n : Nat) : am_Sg := fun a b => bif Nat.beq a q1 then va_cpy (σ q0) (σ q1) sp dp n b else σ a b
def am_zr {α : Type} (f : Nat → Nat → α) (q n : Nat) (v : α) : Nat → Nat → α := fun a b => bif Nat.ble q a && Nat.blt a (q + n) then v else f a b
def am_rowT (τ : am_Tu) (q n : Nat) : am_Tu := fun a b => bif Nat.beq a q then (bif Nat.blt b n then q + 1 + b + 1 else 0) else (bif Nat.ble q a && Nat.blt a (q + 1 + n) then 0 else τ a b)
def am_al (P n q : Nat) : Bool := Nat.blt q P || Nat.blt q n
def am_okv (n : Nat) (v : Value) : Bool := match v with
  | .ref q => Nat.blt q n || Nat.beq q 1000
  | _ => true
def am_okS (n : Nat) : List Value → Bool
  | [] => true
  | v :: t => am_okv n v && am_okS n t
def am_okL (n : Nat) : am_L → Bool
  | [] => true
  | none :: t => am_okL n t
  | some v :: t => am_okv n v && am_okL n t
def am_rows (q k : Nat) : Nat → Bool
  | 0 => true
  | i + 1 => Nat.beq (am_knd (q + 1 + i)) 10 && Nat.beq (am_len (q + 1 + i)) k && am_rows q k i
def am_sw (v : Int32) (d : Nat) (k : Nat → Prop) : List Nat → Prop
  | a :: t :: r => (v = nI a → k t) ∧ (¬ v = nI a → am_sw v d k r)
  | _ => k d
def am_push (nx : Nat) (L : am_L) (st : List Value) (n : Nat) (k : am_K) : Option Value → am_Sg → am_Tu → Prop
  | none, σ, τ => k nx L st n σ τ
  | some v, σ, τ => k nx L (v :: st) n σ τ
def am_bin (st : List Value) (f : Int32 → Int32 → List Value → Prop) : Prop := match st with
  | .int y :: .int x :: r => f x y r
  | _ => False
def am_binL (st : List Value) (f : Int64 → Int64 → List Value → Prop) : Prop := match st with
  | .long y :: .long x :: r => f x y r
  | _ => False
def am_un (st : List Value) (f : Int32 → List Value → Prop) : Prop := match st with
  | .int x :: r => f x r
  | _ => False
def am_rf (st : List Value) (f : Nat → List Value → Prop) : Prop := match st with
  | .ref q :: r => f q r
  | _ => False
def am_ld (o : Option Value) (f : Value → Prop) : Nat → Prop
  | 0 => match o with
    | some (.int v) => f (.int v)
    | _ => False
  | 1 => match o with
    | some (.ref q) => f (.ref q)
    | _ => False
  | _ => match o with
    | some (.long v) => f (.long v)
    | _ => False
def am_if (c : Prop) (a b : Prop) : Prop := (c → a) ∧ (¬ c → b)
def am_gd (b : Bool) (a : Prop) : Prop := match b with
  | true => a
  | false => False
def am_mem (X : am_X) (Γ : Nat → am_C) (P nf : Nat) (nx op x y : Nat) (tg : List Nat) (L : am_L) (st : List Value) (n : Nat) (σ : am_Sg) (τ : am_Tu) (k : am_K) (r : am_Rt) : Prop := match op with
  | 0 => am_rf st fun q s => am_gd (am_al P n q && Nat.beq (am_knd q) x) (k nx L (.int (σ q y) :: s) n σ τ)
  | 1 => am_rf st fun q s => am_gd (am_al P n q && Nat.beq (am_knd q) x) (match τ q y with
    | 0 => k nx L (.null :: s) n σ τ
    | z + 1 => k nx L (.ref z :: s) n σ τ)
  | 2 => am_rf st fun q s => am_gd (am_al P n q && Nat.beq (am_knd q) x) (k nx L (.int (σ q y) :: s) n σ τ)
  | 3 => am_un st fun v s => am_rf s fun q s => am_gd (am_al P n q && Nat.beq (am_knd q) x) (∀ σ' : am_Sg, σ' = am_up σ q y v → k nx L s n σ' τ)
  | 4 => am_un st fun v s => am_rf s fun q s => am_gd (am_al P n q && Nat.beq (am_knd q) x) ((v = 0 ∨ v = 1) ∧ ∀ σ' : am_Sg, σ' = am_up σ q y v → k nx L s n σ' τ)
  | 5 => match st with
    | .ref z :: .ref q :: s => am_gd (am_al P n q && am_al P n z && Nat.beq (am_knd q) x) (k nx L s n σ (am_up τ q y (z + 1)))
    | .null :: .ref q :: s => am_gd (am_al P n q && Nat.beq (am_knd q) x) (k nx L s n σ (am_up τ q y 0))
    | _ => False
  | 6 => match st with
    | .ref z :: .ref q :: s => am_gd (am_al P n q && am_al P n z && Nat.beq (am_knd q) x) (k nx L s n σ (am_up τ q y (z + 1)))
    | _ => False
  | 7 => am_un st fun i s => am_rf s fun q s => am_gd (am_al P n q && Nat.beq (am_knd q) 10) (vp_in i (am_len q) ∧ k nx L (.int (σ q i.toNatClampNeg) :: s) n σ τ)
  | 8 => am_un st fun v s => am_un s fun i s => am_rf s fun q s => am_gd (am_al P n q && Nat.beq (am_knd q) 10) (vp_in i (am_len q) ∧ ∀ σ' : am_Sg, σ' = am_up σ q i.toNatClampNeg v → k nx L s n σ' τ)
  | 9 => am_un st fun i s => am_rf s fun q s => am_gd (am_al P n q && Nat.beq (am_knd q) 11) (vp_in i (am_len q) ∧ k nx L (.int (σ q i.toNatClampNeg) :: s) n σ τ)
  | 10 => am_un st fun v s => am_un s fun i s => am_rf s fun q s => am_gd (am_al P n q && Nat.beq (am_knd q) 11) (vp_in i (am_len q) ∧ (v = 0 ∨ v = 1) ∧ ∀ σ' : am_Sg, σ' = am_up σ q i.toNatClampNeg v → k nx L s n σ' τ)
  | 11 => am_un st fun i s => am_rf s fun q s => am_gd (am_al P n q && (Nat.beq (am_knd q) 12 || Nat.beq (am_knd q) 13)) (vp_in i (am_len q) ∧ ¬ τ q i.toNatClampNeg = 0 ∧ ∀ z : Nat, τ q i.toNatClampNeg = z + 1 → k nx L (.ref z :: s) n σ τ)
  | 12 => am_rf st fun z s => am_un s fun i s => am_rf s fun q s => am_gd (am_al P n q && am_al P n z && Nat.beq (am_knd q) 12 && Nat.beq (am_knd z) 4) (vp_in i (am_len q) ∧ k nx L s n σ (am_up τ q i.toNatClampNeg (z + 1)))
  | 13 => am_rf st fun q s => am_gd (am_al P n q && Nat.ble 10 (am_knd q) && Nat.ble (am_knd q) 13) (k nx L (.int (nI (am_len q)) :: s) n σ τ)
  | 14 => am_gd (Nat.beq (am_knd n) x && Nat.beq (am_len n) (am_N x) && Nat.blt n nf && am_okS n st && am_okL n L) (∀ σ' : am_Sg, σ' = am_z σ n 0 → k nx L (.ref n :: st) (n + 1) σ' (am_z τ n 0))
  | 15 => am_un st fun v s => am_gd (Nat.beq (am_knd n) 10 && Nat.blt n nf && am_okS n s && am_okL n L) (v = nI (am_len n) ∧ ∀ σ' : am_Sg, σ' = am_z σ n 0 → k nx L (.ref n :: s) (n + 1) σ' (am_z τ n 0))
  | 16 => am_un st fun v s => am_gd (Nat.beq (am_knd n) 11 && Nat.blt n nf && am_okS n s && am_okL n L) (v = nI (am_len n) ∧ ∀ σ' : am_Sg, σ' = am_z σ n 0 → k nx L (.ref n :: s) (n + 1) σ' (am_z τ n 0))
  | 17 => am_un st fun v s => am_gd (Nat.beq (am_knd n) 12 && Nat.blt n nf && am_okS n s && am_okL n L) (v = nI (am_len n) ∧ ∀ σ' : am_Sg, σ' = am_z σ n 0 → k nx L (.ref n :: s) (n + 1) σ' (am_z τ n 0))
  | 18 => am_un st fun w s => am_un s fun v s => am_gd (Nat.beq (am_knd n) 13 && am_rows n y (am_len n) && Nat.ble (n + 1 + am_len n) nf && am_okS n s && am_okL n L) (v = nI (am_len n) ∧ w = nI y ∧ ∀ σ' : am_Sg, σ' = am_zr σ n (am_len n + 1) 0 → k nx L (.ref n :: s) (n + 1 + am_len n) σ' (am_rowT τ n (am_len n)))
  | 19 => am_takeK y st [] fun av s => match av with
    | .ref q :: _ => am_gd (am_al P n q && Nat.beq (am_knd q) (am_ci x) && Nat.ble s.length 4) (Γ x av n σ τ n (am_push nx L s n k))
    | _ => False
  | 20 => am_takeK y st [] fun av s => am_gd (Nat.ble s.length 4) (Γ x av n σ τ n (am_push nx L s n k))
  | 21 => am_takeK y st [] fun av s => match av with
    | .ref q :: _ => am_gd (am_al P n q && Nat.ble s.length 4 && Nat.ble (n + tg.getD 2 0) nf && am_okS n s && am_okL n L) (Γ x av n σ τ (n + tg.getD 2 0) (am_push nx L s (n + tg.getD 2 0) k))
    | _ => False
  | 22 => am_takeK y st [] fun av s => match av with
    | .ref q :: _ => am_gd (am_al P n q && Nat.beq (am_knd q) (am_ci x) && Nat.ble s.length 4 && am_okS n s && am_okL n L) (∃ nf' : Nat, n ≤ nf' ∧ nf' ≤ nf ∧ Γ x av n σ τ nf' (am_push nx L s nf' k))
    | _ => False
  | 23 => am_rf st fun q s => am_gd (Nat.ble s.length 4) (k nx L s n σ τ)
  | 24 => match st with
    | .int ln :: .int dp :: .ref q1 :: .int sp :: .ref q0 :: s => am_gd (am_al P n q0 && am_al P n q1 && Nat.beq (am_knd q0) x && Nat.beq (am_knd q1) x && (Nat.beq x 10 || Nat.beq x 11) && Nat.ble s.length 4) (¬ sp < 0 ∧ ¬ dp < 0 ∧ ¬ ln < 0 ∧ sp.toNatClampNeg + ln.toNatClampNeg ≤ am_len q0 ∧ dp.toNatClampNeg + ln.toNatClampNeg ≤ am_len q1 ∧ (x = 11 → ∀ i, i < ln.toNatClampNeg → σ q0 (sp.toNatClampNeg + i) = 0 ∨ σ q0 (sp.toNatClampNeg + i) = 1) ∧ ∀ σ' : am_Sg, σ' = am_cp σ q0 q1 sp.toNatClampNeg dp.toNatClampNeg ln.toNatClampNeg → k nx L s n σ' τ)
    | _ => False
  | 25 => match st with
    | [.int v] => r (some (.int v)) n σ τ
    | _ => False
  | 26 => match st with
    | [.int v] => (v = 0 ∨ v = 1) ∧ r (some (.int v)) n σ τ
    | _ => False
  | 27 => match st with
    | [.long v] => r (some (.long v)) n σ τ
    | _ => False
  | 28 => match st with
    | [] => r none n σ τ
    | _ => False
  | 29 => am_un st fun i s => am_rf s fun q s => am_gd (X.1 && Nat.beq q 1000) (vp_in i X.2.1 ∧ k nx L (.int (X.2.2 i.toNatClampNeg) :: s) n σ τ)
  | 30 => am_rf st fun q s => am_gd (X.1 && Nat.beq q 1000) (k nx L (.int (nI X.2.1) :: s) n σ τ)
  | 31 => am_takeK y st [] fun av s => am_gd (Nat.ble s.length 4) (Γ x av n σ τ n (am_push nx L s n k))
  | 32 => am_takeK y st [] fun av s => match av with
    | .ref q :: _ => am_gd (am_al P n q && Nat.ble s.length 4 && Nat.ble (n + tg.getD 2 0) nf && am_okS n s && am_okL n L) (Γ x av n σ τ (n + tg.getD 2 0) (am_push nx L s (n + tg.getD 2 0) k))
    | _ => False
  | 33 => am_bin st fun a b s => am_gd (Nat.ble s.length 4) (k nx L (.int (if a < b then b else a) :: s) n σ τ)
  | 34 => am_bin st fun a b s => am_gd (Nat.ble s.length 4) (k nx L (.int (if b < a then b else a) :: s) n σ τ)
  | 35 => am_un st fun a s => am_gd (Nat.ble s.length 4) (k nx L (.int (if 0 ≤ a then a else 0 - a) :: s) n σ τ)
  | _ => False
def am_step (X : am_X) (Γ : Nat → am_C) (P nf : Nat) (ai : am_AI) (L : am_L) (st : List Value) (n : Nat) (σ : am_Sg) (τ : am_Tu) (k : am_K) (r : am_Rt) : Prop := match ai with
  | (nx, op, x, y, c, tg, lc) => match op with
    | 0 => k nx L (.int c :: st) n σ τ
    | 1 => k nx L (.int c :: st) n σ τ
    | 2 => k nx L (.int c :: st) n σ τ
    | 3 => k nx L (.int c :: st) n σ τ
    | 4 => k nx L (.null :: st) n σ τ
    | 5 => am_ld (am_nth L x) (fun v => k nx L (v :: st) n σ τ) 0
    | 6 => am_ld (am_nth L x) (fun v => k nx L (v :: st) n σ τ) 0
    | 7 => am_ld (am_nth L x) (fun v => k nx L (v :: st) n σ τ) 1
    | 8 => am_ld (am_nth L x) (fun v => k nx L (v :: st) n σ τ) 1
    | 9 => am_ld (am_nth L x) (fun v => k nx L (v :: st) n σ τ) 2
    | 10 => am_ld (am_nth L x) (fun v => k nx L (v :: st) n σ τ) 2
    | 11 => am_un st fun v s => am_gd (am_nl L x) (am_setK L x (some (.int v)) fun L' => k nx L' s n σ τ)
    | 12 => am_un st fun v s => am_gd (am_nl L x) (am_setK L x (some (.int v)) fun L' => k nx L' s n σ τ)
    | 13 => am_rf st fun v s => am_gd (am_nl L x) (am_setK L x (some (.ref v)) fun L' => k nx L' s n σ τ)
    | 14 => am_rf st fun v s => am_gd (am_nl L x) (am_setK L x (some (.ref v)) fun L' => k nx L' s n σ τ)
    | 15 => match st with
      | .long v :: s => am_gd (am_nl L x) (am_setK L x (some (.long v)) fun L' => am_setK L' (x + 1) none fun L' => k nx L' s n σ τ)
      | _ => False
    | 16 => match st with
      | .long v :: s => am_gd (am_nl L x) (am_setK L x (some (.long v)) fun L' => am_setK L' (x + 1) none fun L' => k nx L' s n σ τ)
      | _ => False
    | 17 => am_ld (am_nth L x) (fun v => match v with
      | .int w => am_gd (am_nl L x) (am_setK L x (some (.int (w + c))) fun L' => k nx L' st n σ τ)
      | _ => False) 0
    | 18 => match st with
      | .int v :: s => k nx L (.int v :: .int v :: s) n σ τ
      | .ref v :: s => k nx L (.ref v :: .ref v :: s) n σ τ
      | _ => False
    | 19 => match st with
      | .int _ :: s => k nx L s n σ τ
      | .ref _ :: s => k nx L s n σ τ
      | _ => False
    | 20 => match st with
      | .int i :: .ref q :: s => k nx L (.int i :: .ref q :: .int i :: .ref q :: s) n σ τ
      | _ => False
    | 21 => am_bin st fun a b s => k nx L (.int (a + b) :: s) n σ τ
    | 22 => am_bin st fun a b s => k nx L (.int (a - b) :: s) n σ τ
    | 23 => am_bin st fun a b s => k nx L (.int (a * b) :: s) n σ τ
    | 24 => am_bin st fun a b s => ¬ b = 0 ∧ k nx L (.int (a / b) :: s) n σ τ
    | 25 => am_bin st fun a b s => ¬ b = 0 ∧ k nx L (.int (a - a / b * b) :: s) n σ τ
    | 26 => am_un st fun a s => k nx L (.int (-a) :: s) n σ τ
    | 27 => am_bin st fun a b s => k nx L (.int (a <<< (b &&& 31)) :: s) n σ τ
    | 28 => am_bin st fun a b s => k nx L (.int (a >>> (b &&& 31)) :: s) n σ τ
    | 29 => am_bin st fun a b s => k nx L (.int (a.toUInt32 >>> (b.toUInt32 &&& Int32.toUInt32 31)).toInt32 :: s) n σ τ
    | 30 => am_bin st fun a b s => k nx L (.int (a &&& b) :: s) n σ τ
    | 31 => am_bin st fun a b s => k nx L (.int (a ||| b) :: s) n σ τ
    | 32 => am_un st fun a s => k nx L (.int a.toInt8.toInt32 :: s) n σ τ
    | 33 => am_un st fun a s => k nx L (.int a.toInt16.toInt32 :: s) n σ τ
    | 34 => am_un st fun a s => k nx L (.long a.toInt64 :: s) n σ τ
    | 35 => match st with
      | .long v :: s => k nx L (.int v.toInt32 :: s) n σ τ
      | _ => False
    | 36 => am_binL st fun a b s => k nx L (.long (a + b) :: s) n σ τ
    | 37 => am_binL st fun a b s => k nx L (.long (a - b) :: s) n σ τ
    | 38 => am_binL st fun a b s => k nx L (.long (a * b) :: s) n σ τ
    | 39 => am_binL st fun a b s => ¬ b = 0 ∧ k nx L (.long (a / b) :: s) n σ τ
    | 40 => am_binL st fun a b s => ¬ b = 0 ∧ k nx L (.long (a - a / b * b) :: s) n σ τ
    | 41 => am_binL st fun a b s => k nx L (.int (lg_cmp a b) :: s) n σ τ
    | 42 => k nx L (.long lc :: st) n σ τ
    | 43 => k nx L (.long lc :: st) n σ τ
    | 44 => am_un st fun a s => am_if (a = 0) (k y L s n σ τ) (k nx L s n σ τ)
    | 45 => am_un st fun a s => am_if (a = 0) (k nx L s n σ τ) (k y L s n σ τ)
    | 46 => am_un st fun a s => am_if (a < 0) (k y L s n σ τ) (k nx L s n σ τ)
    | 47 => am_un st fun a s => am_if (0 ≤ a) (k y L s n σ τ) (k nx L s n σ τ)
    | 48 => am_un st fun a s => am_if (0 < a) (k y L s n σ τ) (k nx L s n σ τ)
    | 49 => am_un st fun a s => am_if (a ≤ 0) (k y L s n σ τ) (k nx L s n σ τ)
    | 50 => am_bin st fun a b s => am_if (a = b) (k y L s n σ τ) (k nx L s n σ τ)
    | 51 => am_bin st fun a b s => am_if (a = b) (k nx L s n σ τ) (k y L s n σ τ)
    | 52 => am_bin st fun a b s => am_if (a < b) (k y L s n σ τ) (k nx L s n σ τ)
    | 53 => am_bin st fun a b s => am_if (b ≤ a) (k y L s n σ τ) (k nx L s n σ τ)
    | 54 => am_bin st fun a b s => am_if (b < a) (k y L s n σ τ) (k nx L s n σ τ)
    | 55 => am_bin st fun a b s => am_if (a ≤ b) (k y L s n σ τ) (k nx L s n σ τ)
    | 56 => k y L st n σ τ
    | 57 => match st with
      | .ref _ :: s => k nx L s n σ τ
      | .null :: s => k y L s n σ τ
      | _ => False
    | 58 => match st with
      | .ref _ :: s => k y L s n σ τ
      | .null :: s => k nx L s n σ τ
      | _ => False
    | 59 => am_un st fun v s => am_sw v y (fun t => k t L s n σ τ) tg
    | 60 => am_un st fun v s => am_sw v y (fun t => k t L s n σ τ) tg
    | op + 61 => am_mem X Γ P nf nx op x y tg L st n σ τ k r
def am_vc (X : am_X) (T : Nat → Option am_AI) (Γ : Nat → am_C) (P nf : Nat) (stop : Nat → Bool) (K : am_K) (r : am_Rt) : Nat → am_K
  | 0, pc, L, st, n, σ, τ => K pc L st n σ τ
  | f + 1, pc, L, st, n, σ, τ => match T pc with
    | none => False
    | some ai => am_step X Γ P nf ai L st n σ τ (fun pc' L' st' n' σ' τ' => match stop pc' with
      | true => K pc' L' st' n' σ' τ'
      | false => am_vc X T Γ P nf stop K r f pc' L' st' n' σ' τ') r
def am_tgs : List Nat → List Nat
  | _ :: t :: r => t :: am_tgs r
  | _ => []
def am_prs (pc : Nat) : List Nat → List (Int × Int)
  | a :: t :: r => ((a : Int), (t : Int) - pc) :: am_prs pc r
  | _ => []
def am_seq : Nat → List Nat → Bool
  | i, a :: _ :: r => Nat.beq a i && am_seq (i + 1) r
  | _, [] => true
  | _, _ => false
def am_inc : List Nat → Bool
  | a :: t :: b :: u :: r => Nat.blt a b && am_inc (b :: u :: r)
  | [_, _] => true
  | [] => true
  | _ => false
def am_insM (pc nx op x : Nat) (tg : List Nat) : Instr × Nat := match op with
  | 0 => (.getfield (tg.getD 0 0), 3)
  | 1 => (.getfield (tg.getD 0 0), 3)
  | 2 => (.getfield (tg.getD 0 0), 3)
  | 3 => (.putfield (tg.getD 0 0), 3)
  | 4 => (.putfield (tg.getD 0 0), 3)
  | 5 => (.putfield (tg.getD 0 0), 3)
  | 6 => (.putfield (tg.getD 0 0), 3)
  | 7 => (.iaload, 1)
  | 8 => (.iastore, 1)
  | 9 => (.baload, 1)
  | 10 => (.bastore, 1)
  | 11 => (.aaload, 1)
  | 12 => (.aastore, 1)
  | 13 => (.arraylength, 1)
  | 14 => (.new (tg.getD 0 0), 3)
  | 15 => (.newarray .int, 2)
  | 16 => (.newarray .boolean, 2)
  | 17 => (.anewarray (tg.getD 0 0), 3)
  | 18 => (.multianewarray (tg.getD 0 0) 2, 4)
  | 19 => (.invokevirtual (tg.getD 0 0), 3)
  | 20 => (.invokestatic (tg.getD 0 0), 3)
  | 21 => (.invokespecial (tg.getD 0 0), 3)
  | 22 => (.invokevirtual (tg.getD 0 0), 3)
  | 23 => (.invokespecial (tg.getD 0 0), 3)
  | 24 => (.invokestatic (tg.getD 0 0), 3)
  | 25 => (.ireturn, 1)
  | 26 => (.ireturn, 1)
  | 27 => (.lreturn, 1)
  | 28 => (.return_, 1)
  | 29 => (.iaload, 1)
  | 30 => (.arraylength, 1)
  | 31 => (.invokestatic (tg.getD 0 0), 3)
  | 32 => (.invokespecial (tg.getD 0 0), 3)
  | 33 => (.invokestatic (tg.getD 0 0), 3)
  | 34 => (.invokestatic (tg.getD 0 0), 3)
  | 35 => (.invokestatic (tg.getD 0 0), 3)
  | _ => (.nop, 1)
def am_ins (pc : Nat) (ai : am_AI) : Instr × Nat := match ai with
  | (nx, op, x, y, c, tg, lc) => match op with
    | 0 => (.iconst c.toInt, 1)
    | 1 => (.bipush c.toInt, 2)
    | 2 => (.sipush c.toInt, 3)
    | 3 => (.ldc_w x, 3)
    | 4 => (.aconst_null, 1)
    | 5 => (.iload x, 2)
    | 6 => (.iload_n (Fin.ofNat 4 x), 1)
    | 7 => (.aload x, 2)
    | 8 => (.aload_n (Fin.ofNat 4 x), 1)
    | 9 => (.lload x, 2)
    | 10 => (.lload_n (Fin.ofNat 4 x), 1)
    | 11 => (.istore x, 2)
    | 12 => (.istore_n (Fin.ofNat 4 x), 1)
    | 13 => (.astore x, 2)
    | 14 => (.astore_n (Fin.ofNat 4 x), 1)
    | 15 => (.lstore x, 2)
    | 16 => (.lstore_n (Fin.ofNat 4 x), 1)
    | 17 => (.iinc x c.toInt, 3)
    | 18 => (.dup, 1)
    | 19 => (.pop, 1)
    | 20 => (.dup2, 1)
    | 21 => (.iadd, 1)
    | 22 => (.isub, 1)
    | 23 => (.imul, 1)
    | 24 => (.idiv, 1)
    | 25 => (.irem, 1)
    | 26 => (.ineg, 1)
    | 27 => (.ishl, 1)
    | 28 => (.ishr, 1)
    | 29 => (.iushr, 1)
    | 30 => (.iand, 1)
    | 31 => (.ior, 1)
    | 32 => (.i2b, 1)
    | 33 => (.i2s, 1)
    | 34 => (.i2l, 1)
    | 35 => (.l2i, 1)
    | 36 => (.ladd, 1)
    | 37 => (.lsub, 1)
    | 38 => (.lmul, 1)
    | 39 => (.ldiv, 1)
    | 40 => (.lrem, 1)
    | 41 => (.lcmp, 1)
    | 42 => (.lconst (Fin.ofNat 2 x), 1)
    | 43 => (.ldc2_w x, 3)
    | 44 => (.ifCond .eq ((y : Int) - pc), 3)
    | 45 => (.ifCond .ne ((y : Int) - pc), 3)
    | 46 => (.ifCond .lt ((y : Int) - pc), 3)
    | 47 => (.ifCond .ge ((y : Int) - pc), 3)
    | 48 => (.ifCond .gt ((y : Int) - pc), 3)
    | 49 => (.ifCond .le ((y : Int) - pc), 3)
    | 50 => (.if_icmp .eq ((y : Int) - pc), 3)
    | 51 => (.if_icmp .ne ((y : Int) - pc), 3)
    | 52 => (.if_icmp .lt ((y : Int) - pc), 3)
    | 53 => (.if_icmp .ge ((y : Int) - pc), 3)
    | 54 => (.if_icmp .gt ((y : Int) - pc), 3)
    | 55 => (.if_icmp .le ((y : Int) - pc), 3)
    | 56 => (.goto ((y : Int) - pc), 3)
    | 57 => (.ifnull ((y : Int) - pc), 3)
    | 58 => (.ifnonnull ((y : Int) - pc), 3)
    | 59 => (.tableswitch ((y : Int) - pc) (tg.getD 0 0 : Nat) ((tg.getD 0 0 : Nat) + ((am_tgs tg).length : Nat) - 1) ((am_tgs tg).map fun (t : Nat) => (t : Int) - (pc : Int)).toArray, nx - pc)
    | 60 => (.lookupswitch ((y : Int) - pc) (am_prs pc tg).toArray, nx - pc)
    | op + 61 => am_insM pc nx op x tg
def am_nw (w : Cond) : Bool := match w with
  | .methodLinkNest .. => true
  | .fieldLinkNest .. => true
  | .arrayOver (.object _) => true
  | .arrayOver (.array _) => true
  | _ => false
def am_okw (w : Cond) : Bool := goodWord w || am_nw w
def am_tb : List Cond := lw_tbl.filter am_okw
theorem am_tbm {w : Cond} (h : w ∈ lw_tbl) (h2 : am_okw w = true) : w ∈ am_tb := List.mem_filter.mpr ⟨h, h2⟩
def am_lk (w : Cond) (i : Nat) : Bool := decide (lw_tbl[i]? = some w) && am_okw w
theorem am_lk_mem {w : Cond} {i : Nat} (h : am_lk w i = true) : w ∈ am_tb := by
  have h2 := Bool.and_eq_true _ _ ▸ h
  exact am_tbm (List.mem_of_getElem? (of_decide_eq_true h2.1)) h2.2
def am_sideM (own : String) (rt : Option FieldType) (kd : Nat) (op x y : Nat) (tg : List Nat) : Bool := match op with
  | 0 => am_lk (.fieldLink own (tg.getD 0 0) (am_T x y).1 (am_T x y).2.1 (am_T x y).2.2.1) (tg.getD 1 0) && !am_isr x y && Nat.blt y (am_N x) && Nat.blt x 9
  | 1 => am_lk (.fieldLink own (tg.getD 0 0) (am_T x y).1 (am_T x y).2.1 (am_T x y).2.2.1) (tg.getD 1 0) && am_isr x y && Nat.blt y (am_N x) && Nat.blt x 9
  | 2 => am_lk (.fieldLinkNest own (tg.getD 0 0) (am_T x y).1 (am_T x y).2.1 (am_T x y).2.2.1 "CanalEnd") (tg.getD 1 0) && !am_isr x y && Nat.blt y (am_N x) && Nat.blt x 9
  | 3 => am_lk (.fieldLink own (tg.getD 0 0) (am_T x y).1 (am_T x y).2.1 (am_T x y).2.2.1) (tg.getD 1 0) && !am_isr x y && Nat.blt y (am_N x) && Nat.blt x 9 && !(am_T x y).2.2.2 && decide (am_ty x y = .int)
  | 4 => am_lk (.fieldLink own (tg.getD 0 0) (am_T x y).1 (am_T x y).2.1 (am_T x y).2.2.1) (tg.getD 1 0) && !am_isr x y && Nat.blt y (am_N x) && Nat.blt x 9 && !(am_T x y).2.2.2 && decide (am_ty x y = .boolean)
  | 5 => am_lk (.fieldLink own (tg.getD 0 0) (am_T x y).1 (am_T x y).2.1 (am_T x y).2.2.1) (tg.getD 1 0) && am_isr x y && Nat.blt y (am_N x) && Nat.blt x 9 && !(am_T x y).2.2.2
  | 6 => am_lk (.fieldLink own (tg.getD 0 0) (am_T x y).1 (am_T x y).2.1 (am_T x y).2.2.1) (tg.getD 1 0) && am_isr x y && Nat.blt y (am_N x) && Nat.blt x 9 && (am_T x y).2.2.2 && decide ((am_T x y).1 = own) && Nat.beq kd 2
  | 14 => am_lk (.classLink own (tg.getD 0 0) (am_R x)) (tg.getD 1 0) && am_lk (.instantiable (am_R x) (am_N x)) (tg.getD 2 0) && am_lk (.initialized (am_R x)) (tg.getD 3 0) && Nat.blt x 9
  | 17 => am_lk (.classLink own (tg.getD 0 0) "CanalEnd$Sheet") (tg.getD 1 0)
  | 18 => am_lk (.classLink own (tg.getD 0 0) "[[I") (tg.getD 1 0) && Nat.ble y 10000
  | 19 => am_lk (.methodLink own (tg.getD 0 0) (am_y x)) (tg.getD 1 0) && Nat.beq y (am_np x + 1) && Nat.beq (am_kd x) 0
  | 20 => am_lk (.methodLink own (tg.getD 0 0) (am_y x)) (tg.getD 1 0) && Nat.beq y (am_np x) && Nat.beq (am_kd x) 1
  | 21 => am_lk (.methodLink own (tg.getD 0 0) (am_y x)) (tg.getD 1 0) && Nat.beq y (am_np x + 1) && Nat.beq (am_kd x) 2
  | 22 => am_lk (.methodLink own (tg.getD 0 0) (am_y x)) (tg.getD 1 0) && Nat.beq y (am_np x + 1) && Nat.beq (am_kd x) 0
  | 23 => am_lk (.methodLink own (tg.getD 0 0) objectInit) (tg.getD 1 0)
  | 24 => am_lk (.methodLink own (tg.getD 0 0) arraycopyName) (tg.getD 1 0)
  | 25 => decide (rt = some .int)
  | 26 => decide (rt = some .boolean)
  | 27 => decide (rt = some .long)
  | 28 => decide (rt = none)
  | 31 => am_lk (.methodLinkNest own (tg.getD 0 0) (am_y x) "CanalEnd") (tg.getD 1 0) && Nat.beq y (am_np x) && Nat.beq (am_kd x) 1
  | 32 => am_lk (.methodLinkNest own (tg.getD 0 0) (am_y x) "CanalEnd") (tg.getD 1 0) && Nat.beq y (am_np x + 1) && Nat.beq (am_kd x) 2
  | 33 => am_lk (.methodLink own (tg.getD 0 0) Lib.Math.max.name) (tg.getD 1 0)
  | 34 => am_lk (.methodLink own (tg.getD 0 0) Lib.Math.min.name) (tg.getD 1 0)
  | 35 => am_lk (.methodLink own (tg.getD 0 0) Lib.Math.abs.name) (tg.getD 1 0)
  | _ => true
def am_side (own : String) (rt : Option FieldType) (kd : Nat) (ai : am_AI) : Bool := match ai with
  | (nx, op, x, y, c, tg, lc) => match op with
    | 0 => decide (Int32.ofInt c.toInt = c)
    | 1 => decide ((Int8.ofInt c.toInt).toInt32 = c)
    | 2 => decide ((Int16.ofInt c.toInt).toInt32 = c)
    | 3 => am_lk (.constant own x c) y
    | 6 => Nat.blt x 4
    | 8 => Nat.blt x 4
    | 10 => Nat.blt x 4
    | 12 => Nat.blt x 4
    | 14 => Nat.blt x 4
    | 16 => Nat.blt x 4
    | 17 => decide (Int32.ofInt c.toInt = c)
    | 42 => Nat.blt x 2 && decide (Int64.ofNat x = lc)
    | 43 => am_lk (.constantLong own x lc) y
    | 59 => am_seq (tg.getD 0 0) tg && Nat.blt 0 (am_tgs tg).length && tg.all fun a => Nat.blt a 100000
    | 60 => am_inc tg && tg.all fun a => Nat.blt a 100000
    | op + 61 => am_sideM own rt kd op x y tg
    | _ => true
def am_chk (own : String) (rt : Option FieldType) (kd : Nat) (cc : ByteArray) (pc : Nat) (ai : am_AI) : Bool := (match decode cc pc with
  | .ok r => decide (r = am_ins pc ai)
  | _ => false) && Nat.beq ai.1 (pc + (am_ins pc ai).2) && am_side own rt kd ai
def am_Fa (x : Nat) : Prop := Cond.code (am_y x) (am_b x) (am_mL x) (am_rt x) ∈ am_tb ∧ Cond.initialized (am_y x).cls ∈ am_tb ∧ ((am_y x).cls ≠ "java/lang/invoke/MethodHandle" ∧ (am_y x).cls ≠ "java/lang/invoke/VarHandle" ∧ (parseMethodDescriptor (am_y x).desc).map (fun d => d.parameters.length) = some (am_np x)) ∧ am_mL x ≤ 40 ∧ (am_kd x = 0 → Cond.instanceMethod (am_y x) ∈ am_tb ∧ Cond.selects (am_y x).cls (am_y x) (am_y x) ∈ am_tb ∧ (am_y x).cls = am_R (am_ci x) ∧ am_ci x < 9) ∧ (am_kd x = 1 → Cond.static (am_y x) ∈ am_tb) ∧ (am_kd x = 2 → (am_y x).name = "<init>" ∧ Cond.instanceMethod (am_y x) ∈ am_tb ∧ am_rt x = none)
