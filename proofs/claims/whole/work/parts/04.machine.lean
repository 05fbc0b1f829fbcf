/-! THE ABSTRACT MACHINE. Values as the machine has them, but a reference is the number of a cell (its place in the order of making).
A heap: how many cells are made; what reference places hold (0: null, j + 1: cell j); what number places hold. -/
abbrev LT : Type := List (Option Value)
abbrev HP : Type := Nat × (Nat → Nat → Nat) × (Nat → Nat → Int32)
abbrev PT : Type := Option Value → HP → Prop
def lk : Tab → Nat → Option (Nat × Nat × Nat × Nat × Nat × Nat)
  | [], _ => none
  | q :: r, pc => match Nat.beq q.1 pc with
    | true => some q.2
    | false => lk r pc
def lget : LT → Nat → Option Value
  | [], _ => none
  | x :: _, 0 => x
  | _ :: r, n + 1 => lget r n
def lset : LT → Nat → Option Value → LT
  | [], _, _ => []
  | _ :: r, 0, v => v :: r
  | x :: r, n + 1, v => x :: lset r n v
/-- no long stands just below place a -/
def lok (L : LT) (a : Nat) : Bool := match a with
  | 0 => true
  | n + 1 => match lget L n with
    | some (.long _) => false
    | some (.double _) => false
    | _ => true
def slt (n : Nat) : Nat := (szs.take n).sum
def swf : List (Int × Nat) → Nat → Int → Nat
  | [], d, _ => d
  | q :: r, d, x => if x = q.1 then q.2 else swf r d x
def swt (k : Nat) (x : Int32) : Nat := match sws[k]? with
  | some q => swf q.1 q.2 x.toInt
  | none => 0
def hset (f : Nat → Nat → Int32) (o k : Nat) (x : Int32) : Nat → Nat → Int32 := fun c => if c = o then upd (f c) k x else f c
def hputs (f : Nat → Nat → Int32) (o : Nat) (g : Nat → Int32) : Nat → Nat → Int32 := fun c => if c = o then g else f c
def rset (f : Nat → Nat → Nat) (o k j : Nat) : Nat → Nat → Nat := fun c i => if c = o ∧ i = k then j else f c i
def mkc (h : HP) : HP := (h.1 + 1, (fun c i => if c = h.1 then 0 else h.2.1 c i), fun c i => if c = h.1 then 0 else h.2.2 c i)
def cnd (b : Nat) (x y : Int32) : Prop := match b with
  | 0 => x = y
  | 1 => ¬ x = y
  | 2 => x < y
  | 3 => y ≤ x
  | 4 => y < x
  | _ => x ≤ y
/-- steps that need nothing but the frame -/
def ps (T : Tab) (pc : Nat) (L : LT) (st : List Value) : Option (Nat × LT × List Value) :=
  match lk T pc with
  | none => none
  | some (n, t, a, b, _, _) =>
    match t with
    | 0 => some (pc + n, L, .int (nI a) :: st)
    | 1 => some (pc + n, L, .int (mI a) :: st)
    | 2 => match lget L a with
      | some (.int x) => some (pc + n, L, .int x :: st)
      | _ => none
    | 27 => match lget L a with
      | some (.ref x) => some (pc + n, L, .ref x :: st)
      | _ => none
    | 28 => match lget L a with
      | some (.long x) => some (pc + n, L, .long x :: st)
      | _ => none
    | 3 => match st, lok L a with
      | .int x :: r, true => some (pc + n, lset L a (some (.int x)), r)
      | _, _ => none
    | 29 => match st, lok L a with
      | .ref x :: r, true => some (pc + n, lset L a (some (.ref x)), r)
      | _, _ => none
    | 4 => match st, lok L a with
      | .long x :: r, true => some (pc + n, lset (lset L a (some (.long x))) (a + 1) none, r)
      | _, _ => none
    | 5 => match lget L a, lok L a with
      | some (.int x), true => some (pc + n, lset L a (some (.int (x + nI b))), st)
      | _, _ => none
    | 6 => match lget L a, lok L a with
      | some (.int x), true => some (pc + n, lset L a (some (.int (x + mI b))), st)
      | _, _ => none
    | 7 => match st with
      | .int y :: .int x :: r => some (pc + n, L, .int (x + y) :: r)
      | _ => none
    | 8 => match st with
      | .int y :: .int x :: r => some (pc + n, L, .int (x - y) :: r)
      | _ => none
    | 9 => match st with
      | .int y :: .int x :: r => some (pc + n, L, .int (x * y) :: r)
      | _ => none
    | 10 => match st with
      | .int y :: .int x :: r => some (pc + n, L, .int (x &&& y) :: r)
      | _ => none
    | 11 => match st with
      | .int y :: .int x :: r => some (pc + n, L, .int (x ||| y) :: r)
      | _ => none
    | 12 => match st with
      | .int y :: .int x :: r => some (pc + n, L, .int (x <<< (y &&& 31)) :: r)
      | _ => none
    | 13 => match st with
      | .int y :: .int x :: r => some (pc + n, L, .int (x >>> (y &&& 31)) :: r)
      | _ => none
    | 14 => match st with
      | .int y :: .int x :: r => some (pc + n, L, .int ((x.toUInt32 >>> (y.toUInt32 &&& Int32.toUInt32 31)).toInt32) :: r)
      | _ => none
    | 15 => match st with
      | .int x :: r => some (pc + n, L, .long x.toInt64 :: r)
      | _ => none
    | 16 => match st with
      | .int x :: r => some (pc + n, L, .int x.toInt8.toInt32 :: r)
      | _ => none
    | 17 => match st with
      | .long y :: .long x :: r => some (pc + n, L, .long (x + y) :: r)
      | _ => none
    | 18 => match st with
      | .long y :: .long x :: r => some (pc + n, L, .long (x * y) :: r)
      | _ => none
    | 19 => match st with
      | .long y :: .long x :: r => some (pc + n, L, .int (lg_cmp x y) :: r)
      | _ => none
    | 20 => match st with
      | .int x :: r => some (pc + n, L, .int x :: .int x :: r)
      | .ref x :: r => some (pc + n, L, .ref x :: .ref x :: r)
      | _ => none
    | 21 => match st with
      | .int y :: .ref x :: r => some (pc + n, L, .int y :: .ref x :: .int y :: .ref x :: r)
      | _ => none
    | 22 => match st with
      | .int _ :: r => some (pc + n, L, r)
      | .ref _ :: r => some (pc + n, L, r)
      | _ => none
    | 23 => some (a, L, st)
    | 24 => some (pc + n, L, .long (lN a) :: st)
    | 44 => some (pc + n, L, .ref a :: st)
    | _ => none
def cat1 : List Value → Bool
  | [] => true
  | .int _ :: r => cat1 r
  | .ref _ :: r => cat1 r
  | _ => false
/-- the locals at a method's entry -/
def ini (μ : Nat) (as : List Value) : LT := as.map some ++ List.replicate (mX μ - as.length) none
abbrev KT : Type := Nat → Nat → Nat → LT → List Value → HP → PT → Prop
/-! the rules -/
def R_pure (K : KT) : Prop := ∀ (μ n0 pc : Nat) (L : LT) (st : List Value) (h : HP) (Φ : PT) (pc' : Nat) (L' : LT) (st' : List Value), ps (mT μ) pc L st = some (pc', L', st') → K μ n0 pc' L' st' h Φ → K μ n0 pc L st h Φ
def R_div (K : KT) : Prop := ∀ (μ n0 pc : Nat) (L : LT) (st : List Value) (h : HP) (Φ : PT) (n a b c d : Nat) (x y : Int32), lk (mT μ) pc = some (n, 25, a, b, c, d) → ¬ y = 0 → K μ n0 (pc + n) L (.int (x / y) :: st) h Φ → K μ n0 pc L (.int y :: .int x :: st) h Φ
def R_rem (K : KT) : Prop := ∀ (μ n0 pc : Nat) (L : LT) (st : List Value) (h : HP) (Φ : PT) (n a b c d : Nat) (x y : Int32), lk (mT μ) pc = some (n, 26, a, b, c, d) → ¬ y = 0 → K μ n0 (pc + n) L (.int (x - x / y * y) :: st) h Φ → K μ n0 pc L (.int y :: .int x :: st) h Φ
def R_if (K : KT) : Prop := ∀ (μ n0 pc : Nat) (L : LT) (st : List Value) (h : HP) (Φ : PT) (n a b c d : Nat) (x : Int32), lk (mT μ) pc = some (n, 30, a, b, c, d) → (cnd b x 0 → K μ n0 a L st h Φ) → (¬ cnd b x 0 → K μ n0 (pc + n) L st h Φ) → K μ n0 pc L (.int x :: st) h Φ
def R_cmp (K : KT) : Prop := ∀ (μ n0 pc : Nat) (L : LT) (st : List Value) (h : HP) (Φ : PT) (n a b c d : Nat) (x y : Int32), lk (mT μ) pc = some (n, 31, a, b, c, d) → (cnd b x y → K μ n0 a L st h Φ) → (¬ cnd b x y → K μ n0 (pc + n) L st h Φ) → K μ n0 pc L (.int y :: .int x :: st) h Φ
def R_sw (K : KT) : Prop := ∀ (μ n0 pc : Nat) (L : LT) (st : List Value) (h : HP) (Φ : PT) (n t a b c d : Nat) (x : Int32), lk (mT μ) pc = some (n, t, a, b, c, d) → t = 32 ∨ t = 33 → K μ n0 (swt a x) L st h Φ → K μ n0 pc L (.int x :: st) h Φ
def R_geti (K : KT) : Prop := ∀ (μ n0 pc : Nat) (L : LT) (st : List Value) (h : HP) (Φ : PT) (n a b c d o : Nat), lk (mT μ) pc = some (n, 40, a, b, c, d) → kd o = (0, b) → o < h.1 → K μ n0 (pc + n) L (.int (h.2.2 o a) :: st) h Φ → K μ n0 pc L (.ref o :: st) h Φ
def R_getr (K : KT) : Prop := ∀ (μ n0 pc : Nat) (L : LT) (st : List Value) (h : HP) (Φ : PT) (n a b c d o j : Nat), lk (mT μ) pc = some (n, 41, a, b, c, d) → kd o = (0, b) → o < h.1 → h.2.1 o a = j + 1 → K μ n0 (pc + n) L (.ref j :: st) h Φ → K μ n0 pc L (.ref o :: st) h Φ
def R_puti (K : KT) : Prop := ∀ (μ n0 pc : Nat) (L : LT) (st : List Value) (h : HP) (Φ : PT) (n a b c d o : Nat) (x : Int32), lk (mT μ) pc = some (n, 42, a, b, c, d) → kd o = (0, b) → o < h.1 → (bfl b a = true → x = 0 ∨ x = 1) → K μ n0 (pc + n) L st (h.1, h.2.1, hset h.2.2 o a x) Φ → K μ n0 pc L (.int x :: .ref o :: st) h Φ
def R_putr (K : KT) : Prop := ∀ (μ n0 pc : Nat) (L : LT) (st : List Value) (h : HP) (Φ : PT) (n a b c d o j : Nat), lk (mT μ) pc = some (n, 43, a, b, c, d) → kd o = (0, b) → o < h.1 → K μ n0 (pc + n) L st (h.1, rset h.2.1 o a (j + 1), h.2.2) Φ → K μ n0 pc L (.ref j :: .ref o :: st) h Φ
def R_ald (K : KT) : Prop := ∀ (μ n0 pc : Nat) (L : LT) (st : List Value) (h : HP) (Φ : PT) (n a b c d o N : Nat) (i : Int32), lk (mT μ) pc = some (n, 50, a, b, c, d) → kd o = (1, N) → o < h.1 → vp_in i N → K μ n0 (pc + n) L (.int (h.2.2 o i.toNatClampNeg) :: st) h Φ → K μ n0 pc L (.int i :: .ref o :: st) h Φ
def R_aldx (K : KT) : Prop := ∀ (μ n0 pc : Nat) (L : LT) (st : List Value) (h : HP) (Φ : PT) (n a b c d o : Nat) (i : Int32), lk (mT μ) pc = some (n, 50, a, b, c, d) → kd o = (6, 0) → vp_in i (h.2.1 o 0) → K μ n0 (pc + n) L (.int (h.2.2 o i.toNatClampNeg) :: st) h Φ → K μ n0 pc L (.int i :: .ref o :: st) h Φ
def R_ast (K : KT) : Prop := ∀ (μ n0 pc : Nat) (L : LT) (st : List Value) (h : HP) (Φ : PT) (n a b c d o N : Nat) (i x : Int32), lk (mT μ) pc = some (n, 51, a, b, c, d) → kd o = (1, N) → o < h.1 → vp_in i N → K μ n0 (pc + n) L st (h.1, h.2.1, hset h.2.2 o i.toNatClampNeg x) Φ → K μ n0 pc L (.int x :: .int i :: .ref o :: st) h Φ
def R_bld (K : KT) : Prop := ∀ (μ n0 pc : Nat) (L : LT) (st : List Value) (h : HP) (Φ : PT) (n a b c d o g N : Nat) (i : Int32), lk (mT μ) pc = some (n, 52, a, b, c, d) → kd o = (g, N) → g = 2 ∨ g = 3 → o < h.1 → vp_in i N → K μ n0 (pc + n) L (.int (h.2.2 o i.toNatClampNeg) :: st) h Φ → K μ n0 pc L (.int i :: .ref o :: st) h Φ
def R_zst (K : KT) : Prop := ∀ (μ n0 pc : Nat) (L : LT) (st : List Value) (h : HP) (Φ : PT) (n a b c d o N : Nat) (i x : Int32), lk (mT μ) pc = some (n, 53, a, b, c, d) → kd o = (2, N) → o < h.1 → vp_in i N → K μ n0 (pc + n) L st (h.1, h.2.1, hset h.2.2 o i.toNatClampNeg (vp_nar .boolean x)) Φ → K μ n0 pc L (.int x :: .int i :: .ref o :: st) h Φ
def R_bst (K : KT) : Prop := ∀ (μ n0 pc : Nat) (L : LT) (st : List Value) (h : HP) (Φ : PT) (n a b c d o N : Nat) (i x : Int32), lk (mT μ) pc = some (n, 53, a, b, c, d) → kd o = (3, N) → o < h.1 → vp_in i N → K μ n0 (pc + n) L st (h.1, h.2.1, hset h.2.2 o i.toNatClampNeg (vp_nar .byte x)) Φ → K μ n0 pc L (.int x :: .int i :: .ref o :: st) h Φ
def R_rld (K : KT) : Prop := ∀ (μ n0 pc : Nat) (L : LT) (st : List Value) (h : HP) (Φ : PT) (n a b c d o g N j : Nat) (i : Int32), lk (mT μ) pc = some (n, 54, a, b, c, d) → kd o = (g, N) → g = 4 ∨ g = 5 → o < h.1 → vp_in i N → h.2.1 o i.toNatClampNeg = j + 1 → K μ n0 (pc + n) L (.ref j :: st) h Φ → K μ n0 pc L (.int i :: .ref o :: st) h Φ
def R_rst (K : KT) : Prop := ∀ (μ n0 pc : Nat) (L : LT) (st : List Value) (h : HP) (Φ : PT) (n a b c d o g N j : Nat) (i : Int32), lk (mT μ) pc = some (n, 55, a, b, c, d) → kd o = (g, N) → (g = 4 ∧ kd j = (0, 0)) ∨ (g = 5 ∧ kd j = (0, 3)) → o < h.1 → j < h.1 → vp_in i N → K μ n0 (pc + n) L st (h.1, rset h.2.1 o i.toNatClampNeg (j + 1), h.2.2) Φ → K μ n0 pc L (.ref j :: .int i :: .ref o :: st) h Φ
def R_len (K : KT) : Prop := ∀ (μ n0 pc : Nat) (L : LT) (st : List Value) (h : HP) (Φ : PT) (n a b c d o N : Nat), lk (mT μ) pc = some (n, 56, a, b, c, d) → kd o = (1, N) → o < h.1 → K μ n0 (pc + n) L (.int (nI N) :: st) h Φ → K μ n0 pc L (.ref o :: st) h Φ
def R_lenx (K : KT) : Prop := ∀ (μ n0 pc : Nat) (L : LT) (st : List Value) (h : HP) (Φ : PT) (n a b c d o : Nat), lk (mT μ) pc = some (n, 56, a, b, c, d) → o = 1000 → K μ n0 (pc + n) L (.int (nI (h.2.1 o 0)) :: st) h Φ → K μ n0 pc L (.ref o :: st) h Φ
def R_new (K : KT) : Prop := ∀ (μ n0 pc : Nat) (L : LT) (st : List Value) (h : HP) (Φ : PT) (n a b c d : Nat), lk (mT μ) pc = some (n, 60, a, b, c, d) → kd h.1 = (0, a) → h.1 + 1 ≤ n0 + mK μ → slt (h.1 + 1) ≤ slt n0 + mS μ → K μ n0 (pc + n) L (.ref h.1 :: st) (mkc h) Φ → K μ n0 pc L st h Φ
def R_newa (K : KT) : Prop := ∀ (μ n0 pc : Nat) (L : LT) (st : List Value) (h : HP) (Φ : PT) (n t a b c d N : Nat), lk (mT μ) pc = some (n, t, a, b, c, d) → t = 61 ∨ t = 62 → kd h.1 = (a, N) → h.1 + 1 ≤ n0 + mK μ → slt (h.1 + 1) ≤ slt n0 + mS μ → K μ n0 (pc + n) L (.ref h.1 :: st) (mkc h) Φ → K μ n0 pc L (.int (nI N) :: st) h Φ
def R_oin (K : KT) : Prop := ∀ (μ n0 pc : Nat) (L : LT) (st : List Value) (h : HP) (Φ : PT) (n a b c d o : Nat), lk (mT μ) pc = some (n, 71, a, b, c, d) → (st.map fun v => v.category).sum ≤ 8 → K μ n0 (pc + n) L st h Φ → K μ n0 pc L (.ref o :: st) h Φ
def R_cpy (K : KT) : Prop := ∀ (μ n0 pc : Nat) (L : LT) (st : List Value) (h : HP) (Φ : PT) (n a b c d o o2 N N2 sp dp k : Nat), lk (mT μ) pc = some (n, 72, a, b, c, d) → kd o = (1, N) → kd o2 = (1, N2) → o < h.1 → o2 < h.1 → sp + k ≤ N → dp + k ≤ N2 → (st.map fun v => v.category).sum ≤ 8 → K μ n0 (pc + n) L st (h.1, h.2.1, hputs h.2.2 o2 (va_cpy (h.2.2 o) (h.2.2 o2) sp dp k)) Φ → K μ n0 pc L (.int (nI k) :: .int (nI dp) :: .ref o2 :: .int (nI sp) :: .ref o :: st) h Φ
def R_min (K : KT) : Prop := ∀ (μ n0 pc : Nat) (L : LT) (st : List Value) (h : HP) (Φ : PT) (n a b c d : Nat) (x y : Int32), lk (mT μ) pc = some (n, 75, a, b, c, d) → (st.map fun v => v.category).sum ≤ 8 → K μ n0 (pc + n) L (.int (if y < x then y else x) :: st) h Φ → K μ n0 pc L (.int y :: .int x :: st) h Φ
/-- a call of a method of an object -/
def R_call (K : KT) : Prop := ∀ (μ n0 pc : Nat) (L : LT) (st : List Value) (h : HP) (Φ : PT) (n ν b c d o : Nat) (as : List Value) (Ψ : PT), lk (mT μ) pc = some (n, 70, ν, b, c, d) → kd o = (0, mC ν) → o < h.1 → as.length + 1 = b → cat1 as = true → as.length + 1 ≤ mX ν → (st.map fun v => v.category).sum ≤ 8 → K ν h.1 0 (ini ν (.ref o :: as)) [] h Ψ → (∀ v h', Ψ v h' → K μ n0 (pc + n) L (v.toList ++ st) h' Φ) → K μ n0 pc L (as.reverse ++ .ref o :: st) h Φ
def R_scall (K : KT) : Prop := ∀ (μ n0 pc : Nat) (L : LT) (st : List Value) (h : HP) (Φ : PT) (n ν b c d : Nat) (as : List Value) (Ψ : PT), lk (mT μ) pc = some (n, 73, ν, b, c, d) → as.length = b → cat1 as = true → as.length ≤ mX ν → (st.map fun v => v.category).sum ≤ 8 → K ν h.1 0 (ini ν as) [] h Ψ → (∀ v h', Ψ v h' → K μ n0 (pc + n) L (v.toList ++ st) h' Φ) → K μ n0 pc L (as.reverse ++ st) h Φ
def R_icall (K : KT) : Prop := ∀ (μ n0 pc : Nat) (L : LT) (st : List Value) (h : HP) (Φ : PT) (n ν b c d o : Nat) (Ψ : PT), lk (mT μ) pc = some (n, 74, ν, b, c, d) → o < h.1 → b = 1 → 1 ≤ mX ν → (st.map fun v => v.category).sum ≤ 8 → h.1 + mK ν ≤ n0 + mK μ → slt h.1 + mS ν = slt (h.1 + mK ν) → slt (h.1 + mK ν) ≤ slt n0 + mS μ → K ν h.1 0 (ini ν [.ref o]) [] h Ψ → (∀ v h', Ψ v h' → v = none ∧ K μ n0 (pc + n) L st h' Φ) → K μ n0 pc L (.ref o :: st) h Φ
/-- less said of the locals -/
def lle : LT → LT → Prop
  | [], _ => True
  | none :: r, _ :: r' => lle r r'
  | some v :: r, some v' :: r' => v = v' ∧ lle r r'
  | _ :: _, _ => False
def R_fgt (K : KT) : Prop := ∀ (μ n0 pc : Nat) (L L' : LT) (st : List Value) (h : HP) (Φ : PT), lle L L' → K μ n0 pc L st h Φ → K μ n0 pc L' st h Φ
def R_ret (K : KT) : Prop := ∀ (μ n0 pc : Nat) (L : LT) (h : HP) (Φ : PT) (n a b c d : Nat) (x : Int32), lk (mT μ) pc = some (n, 80, a, b, c, d) → (mA μ = some .boolean → x = 0 ∨ x = 1) → h.1 = n0 + mK μ → Φ (some (.int x)) h → K μ n0 pc L [.int x] h Φ
def R_lret (K : KT) : Prop := ∀ (μ n0 pc : Nat) (L : LT) (h : HP) (Φ : PT) (n a b c d : Nat) (x : Int64), lk (mT μ) pc = some (n, 81, a, b, c, d) → h.1 = n0 + mK μ → Φ (some (.long x)) h → K μ n0 pc L [.long x] h Φ
def R_rret (K : KT) : Prop := ∀ (μ n0 pc : Nat) (L : LT) (h : HP) (Φ : PT) (n a b c d x : Nat), lk (mT μ) pc = some (n, 82, a, b, c, d) → h.1 = n0 + mK μ → Φ (some (.ref x)) h → K μ n0 pc L [.ref x] h Φ
def R_vret (K : KT) : Prop := ∀ (μ n0 pc : Nat) (L : LT) (h : HP) (Φ : PT) (n a b c d : Nat), lk (mT μ) pc = some (n, 83, a, b, c, d) → h.1 = n0 + mK μ → Φ none h → K μ n0 pc L [] h Φ
def Cl (K : KT) : Prop := (R_pure K ∧ R_div K ∧ R_rem K ∧ R_if K ∧ R_cmp K ∧ R_sw K ∧ R_geti K ∧ R_getr K) ∧ (R_puti K ∧ R_putr K ∧ R_ald K ∧ R_aldx K ∧ R_ast K ∧ R_bld K ∧ R_zst K ∧ R_bst K) ∧ (R_rld K ∧ R_rst K ∧ R_len K ∧ R_lenx K ∧ R_new K ∧ R_newa K ∧ R_oin K ∧ R_cpy K ∧ R_min K) ∧ R_call K ∧ R_scall K ∧ R_icall K ∧ R_ret K ∧ R_lret K ∧ R_rret K ∧ R_vret K ∧ R_fgt K
/-- THE MACHINE RUNS from this frame to its end, and there Φ holds -/
def Run (μ n0 pc : Nat) (L : LT) (st : List Value) (h : HP) (Φ : PT) : Prop := ∀ K : KT, Cl K → K μ n0 pc L st h Φ
theorem r_pure : R_pure Run := fun μ n0 pc L st h Φ pc' L' st' h1 h2 K C => C.1.1 μ n0 pc L st h Φ pc' L' st' h1 (h2 K C)
theorem r_div : R_div Run := fun μ n0 pc L st h Φ n a b c d x y h1 h2 h3 K C => C.1.2.1 μ n0 pc L st h Φ n a b c d x y h1 h2 (h3 K C)
theorem r_rem : R_rem Run := fun μ n0 pc L st h Φ n a b c d x y h1 h2 h3 K C => C.1.2.2.1 μ n0 pc L st h Φ n a b c d x y h1 h2 (h3 K C)
theorem r_if : R_if Run := fun μ n0 pc L st h Φ n a b c d x h1 h2 h3 K C => C.1.2.2.2.1 μ n0 pc L st h Φ n a b c d x h1 (fun q => h2 q K C) (fun q => h3 q K C)
theorem r_cmp : R_cmp Run := fun μ n0 pc L st h Φ n a b c d x y h1 h2 h3 K C => C.1.2.2.2.2.1 μ n0 pc L st h Φ n a b c d x y h1 (fun q => h2 q K C) (fun q => h3 q K C)
theorem r_sw : R_sw Run := fun μ n0 pc L st h Φ n t a b c d x h1 h2 h3 K C => C.1.2.2.2.2.2.1 μ n0 pc L st h Φ n t a b c d x h1 h2 (h3 K C)
theorem r_geti : R_geti Run := fun μ n0 pc L st h Φ n a b c d o h1 h2 h3 h4 K C => C.1.2.2.2.2.2.2.1 μ n0 pc L st h Φ n a b c d o h1 h2 h3 (h4 K C)
theorem r_getr : R_getr Run := fun μ n0 pc L st h Φ n a b c d o j h1 h2 h3 h4 h5 K C => C.1.2.2.2.2.2.2.2 μ n0 pc L st h Φ n a b c d o j h1 h2 h3 h4 (h5 K C)
theorem r_puti : R_puti Run := fun μ n0 pc L st h Φ n a b c d o x h1 h2 h3 h4 h5 K C => C.2.1.1 μ n0 pc L st h Φ n a b c d o x h1 h2 h3 h4 (h5 K C)
theorem r_putr : R_putr Run := fun μ n0 pc L st h Φ n a b c d o j h1 h2 h3 h5 K C => C.2.1.2.1 μ n0 pc L st h Φ n a b c d o j h1 h2 h3 (h5 K C)
theorem r_ald : R_ald Run := fun μ n0 pc L st h Φ n a b c d o N i h1 h2 h3 h4 h5 K C => C.2.1.2.2.1 μ n0 pc L st h Φ n a b c d o N i h1 h2 h3 h4 (h5 K C)
theorem r_aldx : R_aldx Run := fun μ n0 pc L st h Φ n a b c d o i h1 h2 h3 h4 K C => C.2.1.2.2.2.1 μ n0 pc L st h Φ n a b c d o i h1 h2 h3 (h4 K C)
theorem r_ast : R_ast Run := fun μ n0 pc L st h Φ n a b c d o N i x h1 h2 h3 h4 h5 K C => C.2.1.2.2.2.2.1 μ n0 pc L st h Φ n a b c d o N i x h1 h2 h3 h4 (h5 K C)
theorem r_bld : R_bld Run := fun μ n0 pc L st h Φ n a b c d o g N i h1 h2 h3 h4 h5 h6 K C => C.2.1.2.2.2.2.2.1 μ n0 pc L st h Φ n a b c d o g N i h1 h2 h3 h4 h5 (h6 K C)
theorem r_zst : R_zst Run := fun μ n0 pc L st h Φ n a b c d o N i x h1 h2 h3 h4 h5 K C => C.2.1.2.2.2.2.2.2.1 μ n0 pc L st h Φ n a b c d o N i x h1 h2 h3 h4 (h5 K C)
theorem r_bst : R_bst Run := fun μ n0 pc L st h Φ n a b c d o N i x h1 h2 h3 h4 h5 K C => C.2.1.2.2.2.2.2.2.2 μ n0 pc L st h Φ n a b c d o N i x h1 h2 h3 h4 (h5 K C)
theorem r_rld : R_rld Run := fun μ n0 pc L st h Φ n a b c d o g N j i h1 h2 h3 h4 h5 h6 h7 K C => C.2.2.1.1 μ n0 pc L st h Φ n a b c d o g N j i h1 h2 h3 h4 h5 h6 (h7 K C)
theorem r_rst : R_rst Run := fun μ n0 pc L st h Φ n a b c d o g N j i h1 h2 h3 h4 h5 h6 h7 K C => C.2.2.1.2.1 μ n0 pc L st h Φ n a b c d o g N j i h1 h2 h3 h4 h5 h6 (h7 K C)
theorem r_len : R_len Run := fun μ n0 pc L st h Φ n a b c d o N h1 h2 h3 h4 K C => C.2.2.1.2.2.1 μ n0 pc L st h Φ n a b c d o N h1 h2 h3 (h4 K C)
theorem r_lenx : R_lenx Run := fun μ n0 pc L st h Φ n a b c d o h1 h2 h3 K C => C.2.2.1.2.2.2.1 μ n0 pc L st h Φ n a b c d o h1 h2 (h3 K C)
theorem r_new : R_new Run := fun μ n0 pc L st h Φ n a b c d h1 h2 h3 h4 h5 K C => C.2.2.1.2.2.2.2.1 μ n0 pc L st h Φ n a b c d h1 h2 h3 h4 (h5 K C)
theorem r_newa : R_newa Run := fun μ n0 pc L st h Φ n t a b c d N h1 h2 h3 h4 h5 h6 K C => C.2.2.1.2.2.2.2.2.1 μ n0 pc L st h Φ n t a b c d N h1 h2 h3 h4 h5 (h6 K C)
theorem r_oin : R_oin Run := fun μ n0 pc L st h Φ n a b c d o h1 h2 h3 K C => C.2.2.1.2.2.2.2.2.2.1 μ n0 pc L st h Φ n a b c d o h1 h2 (h3 K C)
theorem r_cpy : R_cpy Run := fun μ n0 pc L st h Φ n a b c d o o2 N N2 sp dp k h1 h2 h3 h4 h5 h6 h7 h8 h9 K C => C.2.2.1.2.2.2.2.2.2.2.1 μ n0 pc L st h Φ n a b c d o o2 N N2 sp dp k h1 h2 h3 h4 h5 h6 h7 h8 (h9 K C)
theorem r_min : R_min Run := fun μ n0 pc L st h Φ n a b c d x y h1 h2 h3 K C => C.2.2.1.2.2.2.2.2.2.2.2 μ n0 pc L st h Φ n a b c d x y h1 h2 (h3 K C)
theorem r_call : R_call Run := fun μ n0 pc L st h Φ n ν b c d o as Ψ h1 h2 h3 h4 h5 h6 h7 h8 h9 K C => C.2.2.2.1 μ n0 pc L st h Φ n ν b c d o as Ψ h1 h2 h3 h4 h5 h6 h7 (h8 K C) (fun v h' q => h9 v h' q K C)
theorem r_scall : R_scall Run := fun μ n0 pc L st h Φ n ν b c d as Ψ h1 h2 h3 h4 h5 h6 h7 K C => C.2.2.2.2.1 μ n0 pc L st h Φ n ν b c d as Ψ h1 h2 h3 h4 h5 (h6 K C) (fun v h' q => h7 v h' q K C)
theorem r_icall : R_icall Run := fun μ n0 pc L st h Φ n ν b c d o Ψ h1 h2 h3 h4 h5 h6 h7 h8 h9 ha K C => C.2.2.2.2.2.1 μ n0 pc L st h Φ n ν b c d o Ψ h1 h2 h3 h4 h5 h6 h7 h8 (h9 K C) (fun v h' q => ⟨(ha v h' q).1, (ha v h' q).2 K C⟩)
theorem r_ret : R_ret Run := fun μ n0 pc L h Φ n a b c d x h1 h2 h3 h4 K C => C.2.2.2.2.2.2.1 μ n0 pc L h Φ n a b c d x h1 h2 h3 h4
theorem r_lret : R_lret Run := fun μ n0 pc L h Φ n a b c d x h1 h2 h3 K C => C.2.2.2.2.2.2.2.1 μ n0 pc L h Φ n a b c d x h1 h2 h3
theorem r_rret : R_rret Run := fun μ n0 pc L h Φ n a b c d x h1 h2 h3 K C => C.2.2.2.2.2.2.2.2.1 μ n0 pc L h Φ n a b c d x h1 h2 h3
theorem r_vret : R_vret Run := fun μ n0 pc L h Φ n a b c d h1 h2 h3 K C => C.2.2.2.2.2.2.2.2.2.1 μ n0 pc L h Φ n a b c d h1 h2 h3
theorem r_fgt : R_fgt Run := fun μ n0 pc L L' st h Φ h1 h2 K C => C.2.2.2.2.2.2.2.2.2.2 μ n0 pc L L' st h Φ h1 (h2 K C)
