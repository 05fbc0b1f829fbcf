/-! THE TABLES ARE THE CODE: what each op row says, held against the decoded bytes and the words of lw_tbl. -/
def cN (ci : Nat) : String := match ci with
  | 0 => RX0 | 1 => RX1 | 2 => RX2 | 3 => RX3 | 4 => RX4 | 5 => RX5 | 6 => RX6 | 7 => RX7 | 8 => RL | 9 => RJ6 | _ => RJ9
def cT (ci : Nat) : u_T := match ci with
  | 0 => TX0 | 1 => TX1 | 2 => TX2 | 3 => TX3 | 4 => TX4 | 5 => TX5 | 6 => TX6 | _ => TX7
def cF (ci : Nat) : Nat := match ci with
  | 0 => 9 | 1 => 4 | 2 => 11 | 3 => 3 | 4 => 9 | 5 => 2 | 6 => 11 | _ => 22
def cTy (ci : Nat) : Nat → FieldType := match ci with
  | 0 => tyX0 | 1 => tyX1 | 2 => tyX2 | 3 => tyX3 | 4 => tyX4 | 5 => tyX5 | 6 => tyX6 | _ => tyX7
/-- is the place a reference's -/
def isr (ci k : Nat) : Bool := (cTy ci k).isReference
def dI (μ pc : Nat) (i : Instr) (m n : Nat) : Bool := decide (decode (mB μ) pc = .ok (i, m)) && n == m
def wA (c : Nat) (w : Jvm.Cond) : Bool := decide (lw_tbl[c]? = some w)
def cO (b : Nat) : Jvm.ClassFile.Cond := match b with
  | 0 => .eq | 1 => .ne | 2 => .lt | 3 => .ge | 4 => .gt | _ => .le
def kc : Int → List (Int × Nat) → Bool
  | _, [] => true
  | lo, q :: r => q.1 == lo && kc (lo + 1) r
def aty (g : Nat) : ArrayType := match g with
  | 1 => .int | 2 => .boolean | _ => .byte
def fty (g : Nat) : FieldType := match g with
  | 1 => .int | 2 => .boolean | 3 => .byte | 4 => .object RX0 | _ => .object RX3
def f4 (a : Nat) (f : Fin 4 → Bool) : Bool := if h : a < 4 then f ⟨a, h⟩ else false
def sgN (g : Nat) : String := match g with
  | 1001 => "SETTING_FROM" | _ => "SETTING_TO"
/-- the head of a method: its words -/
def hE (μ : Nat) : Bool := wA (mP1 μ) (.code (mY μ) (mB μ) (mX μ) (mA μ)) && decide ((mY μ).cls = cN (mC μ)) && plainName (mY μ).cls
/-- a callee's room -/
def rE (μ ν : Nat) : Bool := decide (mF ν + 1 ≤ mF μ) && decide (8 + (mX ν + 11) + mL ν ≤ mL μ)
def pE (ν n : Nat) : Bool := decide ((parseMethodDescriptor (mY ν).desc).map (fun d => d.parameters.length) = some n)
def cE (μ : Nat) (q : Nat × Nat × Nat × Nat × Nat × Nat × Nat) : Bool := match q with
  | (pc, n, t, a, b, c, d) => match t with
    | 0 => (dI μ pc (.iconst a) 1 n && decide (Int32.ofInt a = nI a)) || (dI μ pc (.bipush a) 2 n && decide ((Int8.ofInt a).toInt32 = nI a)) || (dI μ pc (.sipush a) 3 n && decide ((Int16.ofInt a).toInt32 = nI a)) || (dI μ pc (.ldc d) 2 n && wA c (.constant (cN (mC μ)) d (nI a))) || (dI μ pc (.ldc_w d) 3 n && wA c (.constant (cN (mC μ)) d (nI a)))
    | 1 => (dI μ pc (.iconst (-(a : Int))) 1 n && decide (Int32.ofInt (-(a : Int)) = mI a)) || (dI μ pc (.bipush (-(a : Int))) 2 n && decide ((Int8.ofInt (-(a : Int))).toInt32 = mI a)) || (dI μ pc (.sipush (-(a : Int))) 3 n && decide ((Int16.ofInt (-(a : Int))).toInt32 = mI a))
    | 2 => dI μ pc (.iload a) 2 n || f4 a (fun k => dI μ pc (.iload_n k) 1 n)
    | 27 => dI μ pc (.aload a) 2 n || f4 a (fun k => dI μ pc (.aload_n k) 1 n)
    | 28 => dI μ pc (.lload a) 2 n || f4 a (fun k => dI μ pc (.lload_n k) 1 n)
    | 3 => (dI μ pc (.istore a) 2 n || f4 a (fun k => dI μ pc (.istore_n k) 1 n)) && decide (a < mX μ)
    | 29 => (dI μ pc (.astore a) 2 n || f4 a (fun k => dI μ pc (.astore_n k) 1 n)) && decide (a < mX μ)
    | 4 => (dI μ pc (.lstore a) 2 n || f4 a (fun k => dI μ pc (.lstore_n k) 1 n)) && decide (a + 1 < mX μ)
    | 5 => dI μ pc (.iinc a b) 3 n && decide (Int32.ofInt b = nI b) && decide (a < mX μ)
    | 6 => dI μ pc (.iinc a (-(b : Int))) 3 n && decide (Int32.ofInt (-(b : Int)) = mI b) && decide (a < mX μ)
    | 7 => dI μ pc .iadd 1 n
    | 8 => dI μ pc .isub 1 n
    | 9 => dI μ pc .imul 1 n
    | 10 => dI μ pc .iand 1 n
    | 11 => dI μ pc .ior 1 n
    | 12 => dI μ pc .ishl 1 n
    | 13 => dI μ pc .ishr 1 n
    | 14 => dI μ pc .iushr 1 n
    | 15 => dI μ pc .i2l 1 n
    | 16 => dI μ pc .i2b 1 n
    | 17 => dI μ pc .ladd 1 n
    | 18 => dI μ pc .lmul 1 n
    | 19 => dI μ pc .lcmp 1 n
    | 20 => dI μ pc .dup 1 n
    | 21 => dI μ pc .dup2 1 n
    | 22 => dI μ pc .pop 1 n
    | 23 => dI μ pc (.goto ((a : Int) - pc)) 3 n
    | 24 => dI μ pc (.ldc2_w d) 3 n && wA c (.constantLong (cN (mC μ)) d (lN a))
    | 25 => dI μ pc .idiv 1 n
    | 26 => dI μ pc .irem 1 n
    | 30 => dI μ pc (.ifCond (cO b) ((a : Int) - pc)) 3 n
    | 31 => dI μ pc (.if_icmp (cO b) ((a : Int) - pc)) 3 n
    | 32 => match sws[a]? with
      | some (q :: r, e) => kc q.1 (q :: r) && dI μ pc (.tableswitch ((e : Int) - pc) q.1 (q.1 + r.length) (((q :: r).map (fun z => (z.2 : Int) - pc)).toArray)) n n
      | _ => false
    | 33 => match sws[a]? with
      | some (l, e) => dI μ pc (.lookupswitch ((e : Int) - pc) ((l.map (fun z => (z.1, (z.2 : Int) - pc))).toArray)) n n && ((l.map (fun z => (z.1, (z.2 : Int) - pc))).zip ((l.map (fun z => (z.1, (z.2 : Int) - pc))).drop 1)).all (fun (z, next) => z.1 < next.1)
      | _ => false
    | 40 => dI μ pc (.getfield d) 3 n && decide (b < 8) && decide (a < cF b) && (isr b a == false) && (wA c (.fieldLink (cN (mC μ)) d (cN b) (cT b a).2.1 (cT b a).2.2.1) || wA c (.fieldLinkNest (cN (mC μ)) d (cN b) (cT b a).2.1 (cT b a).2.2.1 RX6))
    | 41 => dI μ pc (.getfield d) 3 n && decide (b < 8) && decide (a < cF b) && (isr b a == true) && (wA c (.fieldLink (cN (mC μ)) d (cN b) (cT b a).2.1 (cT b a).2.2.1) || wA c (.fieldLinkNest (cN (mC μ)) d (cN b) (cT b a).2.1 (cT b a).2.2.1 RX6))
    | 42 => dI μ pc (.putfield d) 3 n && decide (b < 8) && decide (a < cF b) && (isr b a == false) && ((cT b a).2.2.2 == false) && decide (cTy b a = if bfl b a = true then .boolean else .int) && (wA c (.fieldLink (cN (mC μ)) d (cN b) (cT b a).2.1 (cT b a).2.2.1) || wA c (.fieldLinkNest (cN (mC μ)) d (cN b) (cT b a).2.1 (cT b a).2.2.1 RX6))
    | 43 => dI μ pc (.putfield d) 3 n && decide (b < 8) && decide (a < cF b) && (isr b a == true) && ((cT b a).2.2.2 == true) && decide ((mY μ).name = "<init>") && decide (b = mC μ) && wA c (.fieldLink (cN (mC μ)) d (cN b) (cT b a).2.1 (cT b a).2.2.1)
    | 44 => dI μ pc (.getstatic d) 3 n && (a == 1001 || a == 1002) && (wA c (.fieldLink (cN (mC μ)) d RX6 (sgN a) "[I") || wA c (.fieldLinkNest (cN (mC μ)) d RX6 (sgN a) "[I" RX6))
    | 50 => dI μ pc .iaload 1 n
    | 51 => dI μ pc .iastore 1 n
    | 52 => dI μ pc .baload 1 n
    | 53 => dI μ pc .bastore 1 n
    | 54 => dI μ pc .aaload 1 n
    | 55 => dI μ pc .aastore 1 n
    | 56 => dI μ pc .arraylength 1 n
    | 60 => dI μ pc (.new d) 3 n && decide (a < 8) && wA c (.classLink (cN (mC μ)) d (cN a)) && wA b (.instantiable (cN a) (cF a))
    | 61 => dI μ pc (.newarray (aty a)) 2 n && (a == 1 || a == 2 || a == 3) && wA c (.arrayClass (fty a))
    | 62 => dI μ pc (.anewarray d) 3 n && ((a == 4 && wA c (.classLink (cN (mC μ)) d RX0)) || (a == 5 && wA c (.classLink (cN (mC μ)) d RX3)))
    | 70 => dI μ pc (.invokevirtual d) 3 n && hE a && rE μ a && pE a (b - 1) && decide (1 ≤ b) && decide (mC a < 8) && (wA c (.methodLink (cN (mC μ)) d (mY a)) || wA c (.methodLinkNest (cN (mC μ)) d (mY a) RX6)) && wA (mP2 a) (.instanceMethod (mY a)) && wA (mP3 a) (.selects (cN (mC a)) (mY a) (mY a)) && decide (mK a = 0) && decide (mS a = 0)
    | 71 => dI μ pc (.invokespecial d) 3 n && wA c (.methodLink (cN (mC μ)) d objectInit) && decide (1 ≤ mF μ) && decide (20 ≤ mL μ)
    | 72 => dI μ pc (.invokestatic d) 3 n && wA c (.methodLink (cN (mC μ)) d arraycopyName) && decide (1 ≤ mF μ) && decide (26 ≤ mL μ)
    | 73 => dI μ pc (.invokestatic d) 3 n && hE a && rE μ a && pE a b && (wA c (.methodLink (cN (mC μ)) d (mY a)) || wA c (.methodLinkNest (cN (mC μ)) d (mY a) RX6)) && wA (mP2 a) (.static (mY a)) && decide (mK a = 0) && decide (mS a = 0)
    | 74 => dI μ pc (.invokespecial d) 3 n && hE a && rE μ a && pE a 0 && (wA c (.methodLink (cN (mC μ)) d (mY a)) || wA c (.methodLinkNest (cN (mC μ)) d (mY a) RX6)) && wA (mP2 a) (.instanceMethod (mY a)) && decide ((mY a).name = "<init>") && decide (mA a = none)
    | 75 => dI μ pc (.invokestatic d) 3 n && wA c (.methodLink (cN (mC μ)) d Lib.Math.min.name) && decide (1 ≤ mF μ) && decide (21 ≤ mL μ)
    | 80 => dI μ pc .ireturn 1 n && decide (mA μ = some .int ∨ mA μ = some .boolean)
    | 81 => dI μ pc .lreturn 1 n && decide (mA μ = some .long)
    | 82 => dI μ pc .areturn 1 n && decide (mA μ = some (.object RX0) ∨ mA μ = some (.object RX2))
    | 83 => dI μ pc .return_ 1 n && decide (mA μ = none)
    | _ => false
theorem all_cut {α : Type} {f : α → Bool} {l : List α} (k m : Nat) (h1 : ((l.drop k).take m).all f = true) (h2 : (l.drop (k + m)).all f = true) : (l.drop k).all f = true := by
  rw [← List.take_append_drop m (l.drop k), List.all_append, h1, List.drop_drop, h2]
  rfl
set_option maxRecDepth 100000 in
theorem ck_X0_init : (mT 0).all (cE 0) = true := by decide +kernel
set_option maxRecDepth 100000 in
theorem ck_X0_copyRow : (mT 1).all (cE 1) = true := by decide +kernel
set_option maxRecDepth 100000 in
theorem ck_X0_takeFrom : (mT 2).all (cE 2) = true := by decide +kernel
set_option maxRecDepth 100000 in
theorem ck_X6_within : (mT 3).all (cE 3) = true := by decide +kernel
set_option maxRecDepth 100000 in
theorem ck_X6_isSide : (mT 4).all (cE 4) = true := by decide +kernel
set_option maxRecDepth 100000 in
theorem ck_X0_hasParagraph : (mT 5).all (cE 5) = true := by decide +kernel
set_option maxRecDepth 100000 in
theorem ck_X0_slot : (mT 6).all (cE 6) = true := by decide +kernel
set_option maxRecDepth 100000 in
theorem ck_X0_wordsIn : (mT 7).all (cE 7) = true := by decide +kernel
set_option maxRecDepth 100000 in
theorem ck_X0_hasWord : (mT 8).all (cE 8) = true := by decide +kernel
set_option maxRecDepth 100000 in
theorem ck_X0_hasTie : (mT 9).all (cE 9) = true := by decide +kernel
set_option maxRecDepth 100000 in
theorem ck_X0_lengthOf : (mT 10).all (cE 10) = true := by decide +kernel
set_option maxRecDepth 100000 in
theorem ck_X0_lineOf : (mT 11).all (cE 11) = true := by decide +kernel
set_option maxRecDepth 100000 in
theorem ck_X0_linesIn : (mT 12).all (cE 12) = true := by decide +kernel
set_option maxRecDepth 100000 in
theorem ck_X0_linesOfSide : (mT 13).all (cE 13) = true := by decide +kernel
set_option maxRecDepth 100000 in
theorem ck_X0_addParagraph : (mT 14).all (cE 14) = true := by decide +kernel
set_option maxRecDepth 100000 in
theorem ck_X0_dropTie : (mT 15).all (cE 15) = true := by decide +kernel
set_option maxRecDepth 100000 in
theorem ck_X0_dropTiesOf : (mT 16).all (cE 16) = true := by decide +kernel
set_option maxRecDepth 100000 in
theorem ck_X0_dropParagraph : (mT 17).all (cE 17) = true := by decide +kernel
set_option maxRecDepth 100000 in
theorem ck_X0_changeWidth : (mT 18).all (cE 18) = true := by decide +kernel
set_option maxRecDepth 100000 in
theorem ck_X0_changeSetting : (mT 19).all (cE 19) = true := by decide +kernel
set_option maxRecDepth 100000 in
theorem ck_X0_addTie : (mT 20).all (cE 20) = true := by decide +kernel
set_option maxRecDepth 100000 in
theorem ck_X0_cross : (mT 21).all (cE 21) = true := by decide +kernel
set_option maxRecDepth 100000 in
theorem ck_X1_init : (mT 22).all (cE 22) = true := by decide +kernel
set_option maxRecDepth 100000 in
theorem ck_X1_findCrossed : (mT 23).all (cE 23) = true := by decide +kernel
set_option maxRecDepth 100000 in
theorem ck_X1_weightOf : (mT 24).all (cE 24) = true := by decide +kernel
set_option maxRecDepth 100000 in
theorem ck_J6_bitCount_0f7a4 : (mT 25).all (cE 25) = true := by decide +kernel
set_option maxRecDepth 100000 in
theorem ck_X1_follow : (mT 26).all (cE 26) = true := by decide +kernel
set_option maxRecDepth 100000 in
theorem ck_X2_init : (mT 27).all (cE 27) = true := by decide +kernel
set_option maxRecDepth 100000 in
theorem ck_X2_setTolls : (mT 28).all (cE 28) = true := by decide +kernel
set_option maxRecDepth 100000 in
theorem ck_X2_markBegun : (mT 29).all (cE 29) = true := by decide +kernel
set_option maxRecDepth 100000 in
theorem ck_X2_rankBy : (mT 30).all (cE 30) = true := by decide +kernel
set_option maxRecDepth 100000 in
theorem ck_X2_leastRank : (mT 31).all (cE 31) = true := by decide +kernel
set_option maxRecDepth 100000 in
theorem ck_X2_rankAll : (mT 32).all (cE 32) = true := by decide +kernel
set_option maxRecDepth 100000 in
theorem ck_X2_takeMost : (mT 33).all (cE 33) = true := by decide +kernel
set_option maxRecDepth 100000 in
theorem ck_X2_walk : (mT 34).all (cE 34) = true := by decide +kernel
set_option maxRecDepth 100000 in
theorem ck_X2_follow : (mT 35).all (cE 35) = true := by decide +kernel
set_option maxRecDepth 100000 in
theorem ck_X2_taken0 : (mT 36).all (cE 36) = true := by decide +kernel
set_option maxRecDepth 100000 in
theorem ck_X2_taken1 : (mT 37).all (cE 37) = true := by decide +kernel
set_option maxRecDepth 100000 in
theorem ck_X2_costOf : (mT 38).all (cE 38) = true := by decide +kernel
set_option maxRecDepth 100000 in
theorem ck_X2_openingWith : (mT 39).all (cE 39) = true := by decide +kernel
set_option maxRecDepth 100000 in
theorem ck_X3_init : (mT 40).all (cE 40) = true := by decide +kernel
set_option maxRecDepth 100000 in
theorem ck_X3_allowBreaks : (mT 41).all (cE 41) = true := by decide +kernel
set_option maxRecDepth 100000 in
theorem ck_X3_follow : (mT 42).all (cE 42) = true := by decide +kernel
set_option maxRecDepth 100000 in
theorem ck_X4_init : (mT 43).all (cE 43) = true := by decide +kernel
set_option maxRecDepth 100000 in
theorem ck_X4_append : (mT 44).all (cE 44) = true := by decide +kernel
set_option maxRecDepth 100000 in
theorem ck_X4_mostNumbers : (mT 45).all (cE 45) = true := by decide +kernel
set_option maxRecDepth 100000 in
theorem ck_X4_beginOrder : (mT 46).all (cE 46) = true := by decide +kernel
set_option maxRecDepth 100000 in
theorem ck_X4_numbersOfOrder : (mT 47).all (cE 47) = true := by decide +kernel
set_option maxRecDepth 100000 in
theorem ck_X4_takeFigure : (mT 48).all (cE 48) = true := by decide +kernel
set_option maxRecDepth 100000 in
theorem ck_X4_leastNumbers : (mT 49).all (cE 49) = true := by decide +kernel
set_option maxRecDepth 100000 in
theorem ck_X4_endOrder : (mT 50).all (cE 50) = true := by decide +kernel
set_option maxRecDepth 100000 in
theorem ck_X4_accepts : (mT 51).all (cE 51) = true := by decide +kernel
set_option maxRecDepth 100000 in
theorem ck_X4_read : (mT 52).all (cE 52) = true := by decide +kernel
set_option maxRecDepth 100000 in
theorem ck_X5_init : (mT 53).all (cE 53) = true := by decide +kernel
set_option maxRecDepth 100000 in
theorem ck_X5_loseOldest : (mT 54).all (cE 54) = true := by decide +kernel
set_option maxRecDepth 100000 in
theorem ck_X5_keep : (mT 55).all (cE 55) = true := by decide +kernel
set_option maxRecDepth 100000 in
theorem ck_X5_giveBack : (mT 56).all (cE 56) = true := by decide +kernel
set_option maxRecDepth 100000 in
theorem ck_X6_forgetPlans : (mT 57).all (cE 57) = true := by decide +kernel
set_option maxRecDepth 100000 in
theorem ck_X6_init : (mT 58).all (cE 58) = true := by decide +kernel
set_option maxRecDepth 100000 in
theorem ck_X6_refuse : (mT 59).all (cE 59) = true := by decide +kernel
set_option maxRecDepth 100000 in
theorem ck_X6_copyToTry : (mT 60).all (cE 60) = true := by decide +kernel
set_option maxRecDepth 100000 in
theorem ck_X6_settle : (mT 61).all (cE 61) = true := by decide +kernel
set_option maxRecDepth 100000 in
theorem ck_X6_para : (mT 62).all (cE 62) = true := by decide +kernel
set_option maxRecDepth 100000 in
theorem ck_X6_drops : (mT 63).all (cE 63) = true := by decide +kernel
set_option maxRecDepth 100000 in
theorem ck_X6_widths : (mT 64).all (cE 64) = true := by decide +kernel
set_option maxRecDepth 100000 in
theorem ck_X6_sets : (mT 65).all (cE 65) = true := by decide +kernel
set_option maxRecDepth 100000 in
theorem ck_X6_ties : (mT 66).all (cE 66) = true := by decide +kernel
set_option maxRecDepth 100000 in
theorem ck_X6_unties : (mT 67).all (cE 67) = true := by decide +kernel
set_option maxRecDepth 100000 in
theorem ck_X6_measure : (mT 68).all (cE 68) = true := by decide +kernel
set_option maxRecDepth 100000 in
theorem ck_X6_layOut : (mT 69).all (cE 69) = true := by decide +kernel
set_option maxRecDepth 100000 in
theorem ck_X6_of : (mT 70).all (cE 70) = true := by decide +kernel
set_option maxRecDepth 100000 in
theorem ck_X6_word : (mT 71).all (cE 71) = true := by decide +kernel
set_option maxRecDepth 100000 in
theorem ck_X6_tie : (mT 72).all (cE 72) = true := by decide +kernel
set_option maxRecDepth 100000 in
theorem ck_X6_crossing : (mT 73).all (cE 73) = true := by decide +kernel
set_option maxRecDepth 100000 in
theorem ck_X6_lawful : (mT 74).all (cE 74) = true := by decide +kernel
set_option maxRecDepth 100000 in
theorem ck_X6_opening : (mT 75).all (cE 75) = true := by decide +kernel
set_option maxRecDepth 100000 in
theorem ck_X6_count : (mT 76).all (cE 76) = true := by decide +kernel
set_option maxRecDepth 100000 in
theorem ck_X6_type : (mT 77).all (cE 77) = true := by decide +kernel
set_option maxRecDepth 100000 in
theorem ck_X6_clear : (mT 78).all (cE 78) = true := by decide +kernel
set_option maxRecDepth 100000 in
theorem ck_X6_tryOrder : (mT 79).all (cE 79) = true := by decide +kernel
set_option maxRecDepth 100000 in
theorem ck_X6_does : (mT 80).all (cE 80) = true := by decide +kernel
set_option maxRecDepth 100000 in
theorem ck_X6_back : (mT 81).all (cE 81) = true := by decide +kernel
set_option maxRecDepth 100000 in
theorem ck_X6_told : (mT 82).all (cE 82) = true := by decide +kernel
set_option maxRecDepth 100000 in
theorem ck_X6_digest_0 : (((mT 83).drop 0).take 40).all (cE 83) = true := by decide +kernel
set_option maxRecDepth 100000 in
theorem ck_X6_digest_40 : (((mT 83).drop 40).take 40).all (cE 83) = true := by decide +kernel
set_option maxRecDepth 100000 in
theorem ck_X6_digest_80 : (((mT 83).drop 80).take 40).all (cE 83) = true := by decide +kernel
set_option maxRecDepth 100000 in
theorem ck_X6_digest_120 : (((mT 83).drop 120).take 40).all (cE 83) = true := by decide +kernel
theorem ck_X6_digest_160 : ((mT 83).drop 160).all (cE 83) = true := by decide +kernel
theorem ck_X6_digest : (mT 83).all (cE 83) = true := all_cut 0 40 ck_X6_digest_0 (all_cut 40 40 ck_X6_digest_40 (all_cut 80 40 ck_X6_digest_80 (all_cut 120 40 ck_X6_digest_120 ck_X6_digest_160)))
set_option maxRecDepth 100000 in
theorem ck_X7_init : (mT 84).all (cE 84) = true := by decide +kernel
set_option maxRecDepth 100000 in
theorem ck_X7_bad : (mT 85).all (cE 85) = true := by decide +kernel
set_option maxRecDepth 100000 in
theorem ck_X7_no : (mT 86).all (cE 86) = true := by decide +kernel
set_option maxRecDepth 100000 in
theorem ck_X7_full : (mT 87).all (cE 87) = true := by decide +kernel
set_option maxRecDepth 100000 in
theorem ck_X7_counted : (mT 88).all (cE 88) = true := by decide +kernel
set_option maxRecDepth 100000 in
theorem ck_X7_in : (mT 89).all (cE 89) = true := by decide +kernel
set_option maxRecDepth 100000 in
theorem ck_X7_puts : (mT 90).all (cE 90) = true := by decide +kernel
set_option maxRecDepth 100000 in
theorem ck_X7_takes : (mT 91).all (cE 91) = true := by decide +kernel
set_option maxRecDepth 100000 in
theorem ck_X7_leavesState : (mT 92).all (cE 92) = true := by decide +kernel
set_option maxRecDepth 100000 in
theorem ck_X7_back : (mT 93).all (cE 93) = true := by decide +kernel
set_option maxRecDepth 100000 in
theorem ck_X7_at : (mT 94).all (cE 94) = true := by decide +kernel
set_option maxRecDepth 100000 in
theorem ck_X7_many : (mT 95).all (cE 95) = true := by decide +kernel
set_option maxRecDepth 100000 in
theorem ck_X7_wordsOf : (mT 96).all (cE 96) = true := by decide +kernel
set_option maxRecDepth 100000 in
theorem ck_X7_lengthOf : (mT 97).all (cE 97) = true := by decide +kernel
set_option maxRecDepth 100000 in
theorem ck_X7_lineOf : (mT 98).all (cE 98) = true := by decide +kernel
set_option maxRecDepth 100000 in
theorem ck_X7_linesOf : (mT 99).all (cE 99) = true := by decide +kernel
set_option maxRecDepth 100000 in
theorem ck_X7_firstOf : (mT 100).all (cE 100) = true := by decide +kernel
set_option maxRecDepth 100000 in
theorem ck_X7_linesOfAll : (mT 101).all (cE 101) = true := by decide +kernel
set_option maxRecDepth 100000 in
theorem ck_X7_isPara : (mT 102).all (cE 102) = true := by decide +kernel
set_option maxRecDepth 100000 in
theorem ck_X7_isTooLong : (mT 103).all (cE 103) = true := by decide +kernel
set_option maxRecDepth 100000 in
theorem ck_X7_canPara : (mT 104).all (cE 104) = true := by decide +kernel
set_option maxRecDepth 100000 in
theorem ck_X7_paraComes : (mT 105).all (cE 105) = true := by decide +kernel
set_option maxRecDepth 100000 in
theorem ck_X7_canWidth : (mT 106).all (cE 106) = true := by decide +kernel
set_option maxRecDepth 100000 in
theorem ck_X7_widthBecomes : (mT 107).all (cE 107) = true := by decide +kernel
set_option maxRecDepth 100000 in
theorem ck_X7_canSet : (mT 108).all (cE 108) = true := by decide +kernel
set_option maxRecDepth 100000 in
theorem ck_X7_setBecomes : (mT 109).all (cE 109) = true := by decide +kernel
set_option maxRecDepth 100000 in
theorem ck_X7_tieAt : (mT 110).all (cE 110) = true := by decide +kernel
set_option maxRecDepth 100000 in
theorem ck_X7_ofTie : (mT 111).all (cE 111) = true := by decide +kernel
set_option maxRecDepth 100000 in
theorem ck_X7_canTie : (mT 112).all (cE 112) = true := by decide +kernel
set_option maxRecDepth 100000 in
theorem ck_X7_tieComes : (mT 113).all (cE 113) = true := by decide +kernel
set_option maxRecDepth 100000 in
theorem ck_X7_tieGoes : (mT 114).all (cE 114) = true := by decide +kernel
set_option maxRecDepth 100000 in
theorem ck_X7_para : (mT 115).all (cE 115) = true := by decide +kernel
set_option maxRecDepth 100000 in
theorem ck_X7_drops : (mT 116).all (cE 116) = true := by decide +kernel
set_option maxRecDepth 100000 in
theorem ck_X7_widths : (mT 117).all (cE 117) = true := by decide +kernel
set_option maxRecDepth 100000 in
theorem ck_X7_sets : (mT 118).all (cE 118) = true := by decide +kernel
set_option maxRecDepth 100000 in
theorem ck_X7_ties : (mT 119).all (cE 119) = true := by decide +kernel
set_option maxRecDepth 100000 in
theorem ck_X7_unties : (mT 120).all (cE 120) = true := by decide +kernel
set_option maxRecDepth 100000 in
theorem ck_X7_areCrossing : (mT 121).all (cE 121) = true := by decide +kernel
set_option maxRecDepth 100000 in
theorem ck_X7_isPlain : (mT 122).all (cE 122) = true := by decide +kernel
set_option maxRecDepth 100000 in
theorem ck_X7_weightOf : (mT 123).all (cE 123) = true := by decide +kernel
set_option maxRecDepth 100000 in
theorem ck_X7_findsKept : (mT 124).all (cE 124) = true := by decide +kernel
set_option maxRecDepth 100000 in
theorem ck_X7_findsBreaks : (mT 125).all (cE 125) = true := by decide +kernel
set_option maxRecDepth 100000 in
theorem ck_X7_all : (mT 126).all (cE 126) = true := by decide +kernel
set_option maxRecDepth 100000 in
theorem ck_X7_costOf : (mT 127).all (cE 127) = true := by decide +kernel
set_option maxRecDepth 100000 in
theorem ck_X7_areTied : (mT 128).all (cE 128) = true := by decide +kernel
set_option maxRecDepth 100000 in
theorem ck_X7_canTake : (mT 129).all (cE 129) = true := by decide +kernel
set_option maxRecDepth 100000 in
theorem ck_X7_costWith : (mT 130).all (cE 130) = true := by decide +kernel
set_option maxRecDepth 100000 in
theorem ck_X7_finds : (mT 131).all (cE 131) = true := by decide +kernel
set_option maxRecDepth 100000 in
theorem ck_X7_follows_0 : (((mT 132).drop 0).take 40).all (cE 132) = true := by decide +kernel
set_option maxRecDepth 100000 in
theorem ck_X7_follows_40 : (((mT 132).drop 40).take 40).all (cE 132) = true := by decide +kernel
set_option maxRecDepth 100000 in
theorem ck_X7_follows_80 : (((mT 132).drop 80).take 40).all (cE 132) = true := by decide +kernel
set_option maxRecDepth 100000 in
theorem ck_X7_follows_120 : (((mT 132).drop 120).take 40).all (cE 132) = true := by decide +kernel
theorem ck_X7_follows_160 : ((mT 132).drop 160).all (cE 132) = true := by decide +kernel
theorem ck_X7_follows : (mT 132).all (cE 132) = true := all_cut 0 40 ck_X7_follows_0 (all_cut 40 40 ck_X7_follows_40 (all_cut 80 40 ck_X7_follows_80 (all_cut 120 40 ck_X7_follows_120 ck_X7_follows_160)))
set_option maxRecDepth 100000 in
theorem ck_X7_lays : (mT 133).all (cE 133) = true := by decide +kernel
set_option maxRecDepth 100000 in
theorem ck_X7_openingOf : (mT 134).all (cE 134) = true := by decide +kernel
set_option maxRecDepth 100000 in
theorem ck_X7_ofPara : (mT 135).all (cE 135) = true := by decide +kernel
set_option maxRecDepth 100000 in
theorem ck_X7_of : (mT 136).all (cE 136) = true := by decide +kernel
set_option maxRecDepth 100000 in
theorem ck_X7_word : (mT 137).all (cE 137) = true := by decide +kernel
set_option maxRecDepth 100000 in
theorem ck_X7_crosses : (mT 138).all (cE 138) = true := by decide +kernel
set_option maxRecDepth 100000 in
theorem ck_X7_tieIs : (mT 139).all (cE 139) = true := by decide +kernel
set_option maxRecDepth 100000 in
theorem ck_X7_tie : (mT 140).all (cE 140) = true := by decide +kernel
set_option maxRecDepth 100000 in
theorem ck_X7_crossing : (mT 141).all (cE 141) = true := by decide +kernel
set_option maxRecDepth 100000 in
theorem ck_X7_lawful : (mT 142).all (cE 142) = true := by decide +kernel
set_option maxRecDepth 100000 in
theorem ck_X7_openingIs : (mT 143).all (cE 143) = true := by decide +kernel
set_option maxRecDepth 100000 in
theorem ck_X7_opening : (mT 144).all (cE 144) = true := by decide +kernel
set_option maxRecDepth 100000 in
theorem ck_X7_crossings : (mT 145).all (cE 145) = true := by decide +kernel
set_option maxRecDepth 100000 in
theorem ck_X7_countOf : (mT 146).all (cE 146) = true := by decide +kernel
set_option maxRecDepth 100000 in
theorem ck_X7_count : (mT 147).all (cE 147) = true := by decide +kernel
set_option maxRecDepth 100000 in
theorem ck_X7_type : (mT 148).all (cE 148) = true := by decide +kernel
set_option maxRecDepth 100000 in
theorem ck_X7_clear : (mT 149).all (cE 149) = true := by decide +kernel
set_option maxRecDepth 100000 in
theorem ck_X7_isAt : (mT 150).all (cE 150) = true := by decide +kernel
set_option maxRecDepth 100000 in
theorem ck_X7_blanks : (mT 151).all (cE 151) = true := by decide +kernel
set_option maxRecDepth 100000 in
theorem ck_X7_number : (mT 152).all (cE 152) = true := by decide +kernel
set_option maxRecDepth 100000 in
theorem ck_X7_numbersOf : (mT 153).all (cE 153) = true := by decide +kernel
set_option maxRecDepth 100000 in
theorem ck_X7_doesOrder : (mT 154).all (cE 154) = true := by decide +kernel
set_option maxRecDepth 100000 in
theorem ck_X7_reads_0 : (((mT 155).drop 0).take 40).all (cE 155) = true := by decide +kernel
set_option maxRecDepth 100000 in
theorem ck_X7_reads_40 : (((mT 155).drop 40).take 40).all (cE 155) = true := by decide +kernel
set_option maxRecDepth 100000 in
theorem ck_X7_reads_80 : (((mT 155).drop 80).take 40).all (cE 155) = true := by decide +kernel
set_option maxRecDepth 100000 in
theorem ck_X7_reads_120 : (((mT 155).drop 120).take 40).all (cE 155) = true := by decide +kernel
theorem ck_X7_reads_160 : ((mT 155).drop 160).all (cE 155) = true := by decide +kernel
theorem ck_X7_reads : (mT 155).all (cE 155) = true := all_cut 0 40 ck_X7_reads_0 (all_cut 40 40 ck_X7_reads_40 (all_cut 80 40 ck_X7_reads_80 (all_cut 120 40 ck_X7_reads_120 ck_X7_reads_160)))
set_option maxRecDepth 100000 in
theorem ck_X7_does : (mT 156).all (cE 156) = true := by decide +kernel
set_option maxRecDepth 100000 in
theorem ck_X7_toldOf : (mT 157).all (cE 157) = true := by decide +kernel
set_option maxRecDepth 100000 in
theorem ck_X7_told : (mT 158).all (cE 158) = true := by decide +kernel
set_option maxRecDepth 100000 in
theorem ck_X7_digest : (mT 159).all (cE 159) = true := by decide +kernel
set_option maxRecDepth 100000 in
theorem ck_L_law_0 : (((mT 160).drop 0).take 40).all (cE 160) = true := by decide +kernel
set_option maxRecDepth 100000 in
theorem ck_L_law_40 : (((mT 160).drop 40).take 40).all (cE 160) = true := by decide +kernel
set_option maxRecDepth 100000 in
theorem ck_L_law_80 : (((mT 160).drop 80).take 40).all (cE 160) = true := by decide +kernel
set_option maxRecDepth 100000 in
theorem ck_L_law_120 : (((mT 160).drop 120).take 40).all (cE 160) = true := by decide +kernel
set_option maxRecDepth 100000 in
theorem ck_L_law_160 : (((mT 160).drop 160).take 40).all (cE 160) = true := by decide +kernel
set_option maxRecDepth 100000 in
theorem ck_L_law_200 : (((mT 160).drop 200).take 40).all (cE 160) = true := by decide +kernel
set_option maxRecDepth 100000 in
theorem ck_L_law_240 : (((mT 160).drop 240).take 40).all (cE 160) = true := by decide +kernel
set_option maxRecDepth 100000 in
theorem ck_L_law_280 : (((mT 160).drop 280).take 40).all (cE 160) = true := by decide +kernel
set_option maxRecDepth 100000 in
theorem ck_L_law_320 : (((mT 160).drop 320).take 40).all (cE 160) = true := by decide +kernel
set_option maxRecDepth 100000 in
theorem ck_L_law_360 : (((mT 160).drop 360).take 40).all (cE 160) = true := by decide +kernel
set_option maxRecDepth 100000 in
theorem ck_L_law_400 : (((mT 160).drop 400).take 40).all (cE 160) = true := by decide +kernel
set_option maxRecDepth 100000 in
theorem ck_L_law_440 : (((mT 160).drop 440).take 40).all (cE 160) = true := by decide +kernel
theorem ck_L_law_480 : ((mT 160).drop 480).all (cE 160) = true := by decide +kernel
theorem ck_L_law : (mT 160).all (cE 160) = true := all_cut 0 40 ck_L_law_0 (all_cut 40 40 ck_L_law_40 (all_cut 80 40 ck_L_law_80 (all_cut 120 40 ck_L_law_120 (all_cut 160 40 ck_L_law_160 (all_cut 200 40 ck_L_law_200 (all_cut 240 40 ck_L_law_240 (all_cut 280 40 ck_L_law_280 (all_cut 320 40 ck_L_law_320 (all_cut 360 40 ck_L_law_360 (all_cut 400 40 ck_L_law_400 (all_cut 440 40 ck_L_law_440 ck_L_law_480)))))))))))
theorem ck_all : ∀ μ, μ < 161 → (mT μ).all (cE μ) = true := by
  intro μ h
  match μ, h with
  | 0, _ => exact ck_X0_init
  | 1, _ => exact ck_X0_copyRow
  | 2, _ => exact ck_X0_takeFrom
  | 3, _ => exact ck_X6_within
  | 4, _ => exact ck_X6_isSide
  | 5, _ => exact ck_X0_hasParagraph
  | 6, _ => exact ck_X0_slot
  | 7, _ => exact ck_X0_wordsIn
  | 8, _ => exact ck_X0_hasWord
  | 9, _ => exact ck_X0_hasTie
  | 10, _ => exact ck_X0_lengthOf
  | 11, _ => exact ck_X0_lineOf
  | 12, _ => exact ck_X0_linesIn
  | 13, _ => exact ck_X0_linesOfSide
  | 14, _ => exact ck_X0_addParagraph
  | 15, _ => exact ck_X0_dropTie
  | 16, _ => exact ck_X0_dropTiesOf
  | 17, _ => exact ck_X0_dropParagraph
  | 18, _ => exact ck_X0_changeWidth
  | 19, _ => exact ck_X0_changeSetting
  | 20, _ => exact ck_X0_addTie
  | 21, _ => exact ck_X0_cross
  | 22, _ => exact ck_X1_init
  | 23, _ => exact ck_X1_findCrossed
  | 24, _ => exact ck_X1_weightOf
  | 25, _ => exact ck_J6_bitCount_0f7a4
  | 26, _ => exact ck_X1_follow
  | 27, _ => exact ck_X2_init
  | 28, _ => exact ck_X2_setTolls
  | 29, _ => exact ck_X2_markBegun
  | 30, _ => exact ck_X2_rankBy
  | 31, _ => exact ck_X2_leastRank
  | 32, _ => exact ck_X2_rankAll
  | 33, _ => exact ck_X2_takeMost
  | 34, _ => exact ck_X2_walk
  | 35, _ => exact ck_X2_follow
  | 36, _ => exact ck_X2_taken0
  | 37, _ => exact ck_X2_taken1
  | 38, _ => exact ck_X2_costOf
  | 39, _ => exact ck_X2_openingWith
  | 40, _ => exact ck_X3_init
  | 41, _ => exact ck_X3_allowBreaks
  | 42, _ => exact ck_X3_follow
  | 43, _ => exact ck_X4_init
  | 44, _ => exact ck_X4_append
  | 45, _ => exact ck_X4_mostNumbers
  | 46, _ => exact ck_X4_beginOrder
  | 47, _ => exact ck_X4_numbersOfOrder
  | 48, _ => exact ck_X4_takeFigure
  | 49, _ => exact ck_X4_leastNumbers
  | 50, _ => exact ck_X4_endOrder
  | 51, _ => exact ck_X4_accepts
  | 52, _ => exact ck_X4_read
  | 53, _ => exact ck_X5_init
  | 54, _ => exact ck_X5_loseOldest
  | 55, _ => exact ck_X5_keep
  | 56, _ => exact ck_X5_giveBack
  | 57, _ => exact ck_X6_forgetPlans
  | 58, _ => exact ck_X6_init
  | 59, _ => exact ck_X6_refuse
  | 60, _ => exact ck_X6_copyToTry
  | 61, _ => exact ck_X6_settle
  | 62, _ => exact ck_X6_para
  | 63, _ => exact ck_X6_drops
  | 64, _ => exact ck_X6_widths
  | 65, _ => exact ck_X6_sets
  | 66, _ => exact ck_X6_ties
  | 67, _ => exact ck_X6_unties
  | 68, _ => exact ck_X6_measure
  | 69, _ => exact ck_X6_layOut
  | 70, _ => exact ck_X6_of
  | 71, _ => exact ck_X6_word
  | 72, _ => exact ck_X6_tie
  | 73, _ => exact ck_X6_crossing
  | 74, _ => exact ck_X6_lawful
  | 75, _ => exact ck_X6_opening
  | 76, _ => exact ck_X6_count
  | 77, _ => exact ck_X6_type
  | 78, _ => exact ck_X6_clear
  | 79, _ => exact ck_X6_tryOrder
  | 80, _ => exact ck_X6_does
  | 81, _ => exact ck_X6_back
  | 82, _ => exact ck_X6_told
  | 83, _ => exact ck_X6_digest
  | 84, _ => exact ck_X7_init
  | 85, _ => exact ck_X7_bad
  | 86, _ => exact ck_X7_no
  | 87, _ => exact ck_X7_full
  | 88, _ => exact ck_X7_counted
  | 89, _ => exact ck_X7_in
  | 90, _ => exact ck_X7_puts
  | 91, _ => exact ck_X7_takes
  | 92, _ => exact ck_X7_leavesState
  | 93, _ => exact ck_X7_back
  | 94, _ => exact ck_X7_at
  | 95, _ => exact ck_X7_many
  | 96, _ => exact ck_X7_wordsOf
  | 97, _ => exact ck_X7_lengthOf
  | 98, _ => exact ck_X7_lineOf
  | 99, _ => exact ck_X7_linesOf
  | 100, _ => exact ck_X7_firstOf
  | 101, _ => exact ck_X7_linesOfAll
  | 102, _ => exact ck_X7_isPara
  | 103, _ => exact ck_X7_isTooLong
  | 104, _ => exact ck_X7_canPara
  | 105, _ => exact ck_X7_paraComes
  | 106, _ => exact ck_X7_canWidth
  | 107, _ => exact ck_X7_widthBecomes
  | 108, _ => exact ck_X7_canSet
  | 109, _ => exact ck_X7_setBecomes
  | 110, _ => exact ck_X7_tieAt
  | 111, _ => exact ck_X7_ofTie
  | 112, _ => exact ck_X7_canTie
  | 113, _ => exact ck_X7_tieComes
  | 114, _ => exact ck_X7_tieGoes
  | 115, _ => exact ck_X7_para
  | 116, _ => exact ck_X7_drops
  | 117, _ => exact ck_X7_widths
  | 118, _ => exact ck_X7_sets
  | 119, _ => exact ck_X7_ties
  | 120, _ => exact ck_X7_unties
  | 121, _ => exact ck_X7_areCrossing
  | 122, _ => exact ck_X7_isPlain
  | 123, _ => exact ck_X7_weightOf
  | 124, _ => exact ck_X7_findsKept
  | 125, _ => exact ck_X7_findsBreaks
  | 126, _ => exact ck_X7_all
  | 127, _ => exact ck_X7_costOf
  | 128, _ => exact ck_X7_areTied
  | 129, _ => exact ck_X7_canTake
  | 130, _ => exact ck_X7_costWith
  | 131, _ => exact ck_X7_finds
  | 132, _ => exact ck_X7_follows
  | 133, _ => exact ck_X7_lays
  | 134, _ => exact ck_X7_openingOf
  | 135, _ => exact ck_X7_ofPara
  | 136, _ => exact ck_X7_of
  | 137, _ => exact ck_X7_word
  | 138, _ => exact ck_X7_crosses
  | 139, _ => exact ck_X7_tieIs
  | 140, _ => exact ck_X7_tie
  | 141, _ => exact ck_X7_crossing
  | 142, _ => exact ck_X7_lawful
  | 143, _ => exact ck_X7_openingIs
  | 144, _ => exact ck_X7_opening
  | 145, _ => exact ck_X7_crossings
  | 146, _ => exact ck_X7_countOf
  | 147, _ => exact ck_X7_count
  | 148, _ => exact ck_X7_type
  | 149, _ => exact ck_X7_clear
  | 150, _ => exact ck_X7_isAt
  | 151, _ => exact ck_X7_blanks
  | 152, _ => exact ck_X7_number
  | 153, _ => exact ck_X7_numbersOf
  | 154, _ => exact ck_X7_doesOrder
  | 155, _ => exact ck_X7_reads
  | 156, _ => exact ck_X7_does
  | 157, _ => exact ck_X7_toldOf
  | 158, _ => exact ck_X7_told
  | 159, _ => exact ck_X7_digest
  | 160, _ => exact ck_L_law
  | μ + 161, h => exact absurd h (by omega)
