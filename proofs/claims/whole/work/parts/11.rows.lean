/-! ROWS over Run, for the reader of methods. -/
def psn : Nat → Tab → Nat → LT → List Value → Nat × LT × List Value
  | 0, _, pc, L, st => (pc, L, st)
  | n + 1, T, pc, L, st => match ps T pc L st with
    | some (pc', L', st') => psn n T pc' L' st'
    | none => (pc, L, st)
def Ret (v : Option Value) (h : HP) : PT := fun v' h' => v' = v ∧ h' = h
section ROWS
variable {μ n0 pc : Nat} {L : LT} {st : List Value} {h : HP} {Φ : PT} {T : Tab}
theorem g_ps (n : Nat) (hT : mT μ = T) {pc' : Nat} {L' : LT} {st' : List Value} (e : psn n T pc L st = (pc', L', st')) (k : Run μ n0 pc' L' st' h Φ) : Run μ n0 pc L st h Φ := by
  induction n generalizing pc L st with
  | zero =>
    simp only [psn, Prod.mk.injEq] at e
    obtain ⟨rfl, rfl, rfl⟩ := e
    exact k
  | succ n ih =>
    unfold psn at e
    split at e
    · rename_i pc2 L2 st2 hp
      exact r_pure _ _ _ _ _ _ _ _ _ _ (by rw [hT]; exact hp) (ih e)
    · simp only [Prod.mk.injEq] at e
      obtain ⟨rfl, rfl, rfl⟩ := e
      exact k
theorem g_if (hT : mT μ = T) {n a b c d : Nat} {x : Int32} (e : lk T pc = some (n, 30, a, b, c, d)) (kt : cnd b x 0 → Run μ n0 a L st h Φ) (kf : ¬ cnd b x 0 → Run μ n0 (pc + n) L st h Φ) : Run μ n0 pc L (.int x :: st) h Φ := r_if _ _ _ _ _ _ _ _ _ _ _ _ _ (by rw [hT]; exact e) kt kf
theorem g_cmp (hT : mT μ = T) {n a b c d : Nat} {x y : Int32} (e : lk T pc = some (n, 31, a, b, c, d)) (kt : cnd b x y → Run μ n0 a L st h Φ) (kf : ¬ cnd b x y → Run μ n0 (pc + n) L st h Φ) : Run μ n0 pc L (.int y :: .int x :: st) h Φ := r_cmp _ _ _ _ _ _ _ _ _ _ _ _ _ _ (by rw [hT]; exact e) kt kf
theorem g_div (hT : mT μ = T) {n a b c d : Nat} {x y : Int32} (e : lk T pc = some (n, 25, a, b, c, d)) (hy : ¬ y = 0) (k : Run μ n0 (pc + n) L (.int (x / y) :: st) h Φ) : Run μ n0 pc L (.int y :: .int x :: st) h Φ := r_div _ _ _ _ _ _ _ _ _ _ _ _ _ _ (by rw [hT]; exact e) hy k
theorem g_rem (hT : mT μ = T) {n a b c d : Nat} {x y : Int32} (e : lk T pc = some (n, 26, a, b, c, d)) (hy : ¬ y = 0) (k : Run μ n0 (pc + n) L (.int (x - x / y * y) :: st) h Φ) : Run μ n0 pc L (.int y :: .int x :: st) h Φ := r_rem _ _ _ _ _ _ _ _ _ _ _ _ _ _ (by rw [hT]; exact e) hy k
theorem g_divN (hT : mT μ = T) {n a b c d u v : Nat} (e : lk T pc = some (n, 25, a, b, c, d)) (hu : u < 2 ^ 31) (hv : 0 < v) (hv2 : v < 2 ^ 31) (k : Run μ n0 (pc + n) L (.int (nI (u / v)) :: st) h Φ) : Run μ n0 pc L (.int (nI v) :: .int (nI u) :: st) h Φ := g_div hT e (nI_ne0 hv hv2) (by rw [pk_div hu hv hv2]; exact k)
theorem g_remN (hT : mT μ = T) {n a b c d u v : Nat} (e : lk T pc = some (n, 26, a, b, c, d)) (hu : u < 2 ^ 31) (hv : 0 < v) (hv2 : v < 2 ^ 31) (k : Run μ n0 (pc + n) L (.int (nI (u % v)) :: st) h Φ) : Run μ n0 pc L (.int (nI v) :: .int (nI u) :: st) h Φ := g_rem hT e (nI_ne0 hv hv2) (by rw [pk_rem hu hv hv2]; exact k)
theorem g_sw (hT : mT μ = T) {n t a b c d : Nat} {x : Int32} (e : lk T pc = some (n, t, a, b, c, d)) (ht : t = 32 ∨ t = 33) {pc' : Nat} (hp : swt a x = pc') (k : Run μ n0 pc' L st h Φ) : Run μ n0 pc L (.int x :: st) h Φ := r_sw _ _ _ _ _ _ _ _ _ _ _ _ _ _ (by rw [hT]; exact e) ht (by rw [hp]; exact k)
theorem g_geti (hT : mT μ = T) {n a b c d o : Nat} (e : lk T pc = some (n, 40, a, b, c, d)) (hk : kd o = (0, b)) (ho : o < h.1) (k : Run μ n0 (pc + n) L (.int (h.2.2 o a) :: st) h Φ) : Run μ n0 pc L (.ref o :: st) h Φ := r_geti _ _ _ _ _ _ _ _ _ _ _ _ _ (by rw [hT]; exact e) hk ho k
theorem g_getr (hT : mT μ = T) {n a b c d o j : Nat} (e : lk T pc = some (n, 41, a, b, c, d)) (hk : kd o = (0, b)) (ho : o < h.1) (hj : h.2.1 o a = j + 1) (k : Run μ n0 (pc + n) L (.ref j :: st) h Φ) : Run μ n0 pc L (.ref o :: st) h Φ := r_getr _ _ _ _ _ _ _ _ _ _ _ _ _ _ (by rw [hT]; exact e) hk ho hj k
theorem g_puti (hT : mT μ = T) {n a b c d o : Nat} {x : Int32} (e : lk T pc = some (n, 42, a, b, c, d)) (hk : kd o = (0, b)) (ho : o < h.1) (hb : bfl b a = true → x = 0 ∨ x = 1) (k : Run μ n0 (pc + n) L st (h.1, h.2.1, hset h.2.2 o a x) Φ) : Run μ n0 pc L (.int x :: .ref o :: st) h Φ := r_puti _ _ _ _ _ _ _ _ _ _ _ _ _ _ (by rw [hT]; exact e) hk ho hb k
theorem g_ald (hT : mT μ = T) {n a b c d o N i : Nat} (e : lk T pc = some (n, 50, a, b, c, d)) (hk : kd o = (1, N)) (ho : o < h.1) (hN : N < 2 ^ 31) (hi : i < N) (k : Run μ n0 (pc + n) L (.int (h.2.2 o i) :: st) h Φ) : Run μ n0 pc L (.int (nI i) :: .ref o :: st) h Φ := r_ald _ _ _ _ _ _ _ _ _ _ _ _ _ _ _ (by rw [hT]; exact e) hk ho (vp_in_nI hi hN) (by rw [nI_clamp (Nat.lt_trans hi hN)]; exact k)
theorem g_ast (hT : mT μ = T) {n a b c d o N i : Nat} {x : Int32} (e : lk T pc = some (n, 51, a, b, c, d)) (hk : kd o = (1, N)) (ho : o < h.1) (hN : N < 2 ^ 31) (hi : i < N) (k : Run μ n0 (pc + n) L st (h.1, h.2.1, hset h.2.2 o i x) Φ) : Run μ n0 pc L (.int x :: .int (nI i) :: .ref o :: st) h Φ := r_ast _ _ _ _ _ _ _ _ _ _ _ _ _ _ _ _ (by rw [hT]; exact e) hk ho (vp_in_nI hi hN) (by rw [nI_clamp (Nat.lt_trans hi hN)]; exact k)
theorem g_bld (hT : mT μ = T) {n a b c d o g N i : Nat} (e : lk T pc = some (n, 52, a, b, c, d)) (hk : kd o = (g, N)) (hg : g = 2 ∨ g = 3) (ho : o < h.1) (hN : N < 2 ^ 31) (hi : i < N) (k : Run μ n0 (pc + n) L (.int (h.2.2 o i) :: st) h Φ) : Run μ n0 pc L (.int (nI i) :: .ref o :: st) h Φ := r_bld _ _ _ _ _ _ _ _ _ _ _ _ _ _ _ _ (by rw [hT]; exact e) hk hg ho (vp_in_nI hi hN) (by rw [nI_clamp (Nat.lt_trans hi hN)]; exact k)
theorem nar_z {x : Int32} (h : x = 0 ∨ x = 1) : vp_nar .boolean x = x := by rcases h with rfl | rfl <;> decide
theorem g_zst (hT : mT μ = T) {n a b c d o N i : Nat} {x : Int32} (e : lk T pc = some (n, 53, a, b, c, d)) (hk : kd o = (2, N)) (ho : o < h.1) (hN : N < 2 ^ 31) (hi : i < N) (hx : x = 0 ∨ x = 1) (k : Run μ n0 (pc + n) L st (h.1, h.2.1, hset h.2.2 o i x) Φ) : Run μ n0 pc L (.int x :: .int (nI i) :: .ref o :: st) h Φ := r_zst _ _ _ _ _ _ _ _ _ _ _ _ _ _ _ _ (by rw [hT]; exact e) hk ho (vp_in_nI hi hN) (by rw [nI_clamp (Nat.lt_trans hi hN), nar_z hx]; exact k)
theorem g_bst (hT : mT μ = T) {n a b c d o N i : Nat} {x : Int32} (e : lk T pc = some (n, 53, a, b, c, d)) (hk : kd o = (3, N)) (ho : o < h.1) (hN : N < 2 ^ 31) (hi : i < N) (k : Run μ n0 (pc + n) L st (h.1, h.2.1, hset h.2.2 o i (vp_nar .byte x)) Φ) : Run μ n0 pc L (.int x :: .int (nI i) :: .ref o :: st) h Φ := r_bst _ _ _ _ _ _ _ _ _ _ _ _ _ _ _ _ (by rw [hT]; exact e) hk ho (vp_in_nI hi hN) (by rw [nI_clamp (Nat.lt_trans hi hN)]; exact k)
theorem g_rld (hT : mT μ = T) {n a b c d o g N j i : Nat} (e : lk T pc = some (n, 54, a, b, c, d)) (hk : kd o = (g, N)) (hg : g = 4 ∨ g = 5) (ho : o < h.1) (hN : N < 2 ^ 31) (hi : i < N) (hj : h.2.1 o i = j + 1) (k : Run μ n0 (pc + n) L (.ref j :: st) h Φ) : Run μ n0 pc L (.int (nI i) :: .ref o :: st) h Φ := r_rld _ _ _ _ _ _ _ _ _ _ _ _ _ _ _ _ _ (by rw [hT]; exact e) hk hg ho (vp_in_nI hi hN) (by rw [nI_clamp (Nat.lt_trans hi hN)]; exact hj) k
theorem g_rst (hT : mT μ = T) {n a b c d o g N j i : Nat} (e : lk T pc = some (n, 55, a, b, c, d)) (hk : kd o = (g, N)) (hg : (g = 4 ∧ kd j = (0, 0)) ∨ (g = 5 ∧ kd j = (0, 3))) (ho : o < h.1) (hj : j < h.1) (hN : N < 2 ^ 31) (hi : i < N) (k : Run μ n0 (pc + n) L st (h.1, rset h.2.1 o i (j + 1), h.2.2) Φ) : Run μ n0 pc L (.ref j :: .int (nI i) :: .ref o :: st) h Φ := r_rst _ _ _ _ _ _ _ _ _ _ _ _ _ _ _ _ _ (by rw [hT]; exact e) hk hg ho hj (vp_in_nI hi hN) (by rw [nI_clamp (Nat.lt_trans hi hN)]; exact k)
theorem g_len (hT : mT μ = T) {n a b c d o N : Nat} (e : lk T pc = some (n, 56, a, b, c, d)) (hk : kd o = (1, N)) (ho : o < h.1) (k : Run μ n0 (pc + n) L (.int (nI N) :: st) h Φ) : Run μ n0 pc L (.ref o :: st) h Φ := r_len _ _ _ _ _ _ _ _ _ _ _ _ _ _ (by rw [hT]; exact e) hk ho k
theorem g_min (hT : mT μ = T) {n a b c d : Nat} {x y : Int32} (e : lk T pc = some (n, 75, a, b, c, d)) (hs : (st.map fun v => v.category).sum ≤ 8) (k : Run μ n0 (pc + n) L (.int (if y < x then y else x) :: st) h Φ) : Run μ n0 pc L (.int y :: .int x :: st) h Φ := r_min _ _ _ _ _ _ _ _ _ _ _ _ _ _ (by rw [hT]; exact e) hs k
theorem g_minN (hT : mT μ = T) {n a b c d x y : Nat} (e : lk T pc = some (n, 75, a, b, c, d)) (hs : (st.map fun v => v.category).sum ≤ 8) (hx : x < 2 ^ 31) (hy : y < 2 ^ 31) (k : Run μ n0 (pc + n) L (.int (nI (min x y)) :: st) h Φ) : Run μ n0 pc L (.int (nI y) :: .int (nI x) :: st) h Φ := g_min hT e hs (by
  rw [show (if nI y < nI x then nI y else nI x) = nI (min x y) by
    by_cases hq : y < x
    · rw [if_pos ((nI_ltI hy hx).mpr hq), Nat.min_eq_right (Nat.le_of_lt hq)]
    · rw [if_neg (fun z => hq ((nI_ltI hy hx).mp z)), Nat.min_eq_left (Nat.not_lt.mp hq)]]
  exact k)
theorem g_cpy (hT : mT μ = T) {n a b c d o o2 N N2 sp dp k : Nat} (e : lk T pc = some (n, 72, a, b, c, d)) (hk : kd o = (1, N)) (hk2 : kd o2 = (1, N2)) (ho : o < h.1) (ho2 : o2 < h.1) (h1 : sp + k ≤ N) (h2 : dp + k ≤ N2) (hs : (st.map fun v => v.category).sum ≤ 8) (kk : Run μ n0 (pc + n) L st (h.1, h.2.1, hputs h.2.2 o2 (va_cpy (h.2.2 o) (h.2.2 o2) sp dp k)) Φ) : Run μ n0 pc L (.int (nI k) :: .int (nI dp) :: .ref o2 :: .int (nI sp) :: .ref o :: st) h Φ := r_cpy _ _ _ _ _ _ _ _ _ _ _ _ _ _ _ _ _ _ _ (by rw [hT]; exact e) hk hk2 ho ho2 h1 h2 hs kk
/-- a call whose end is known -/
theorem g_call (hT : mT μ = T) {n ν b c d o : Nat} (as : List Value) {v : Option Value} {h2 : HP} (e : lk T pc = some (n, 70, ν, b, c, d)) (hst : st = as.reverse ++ .ref o :: st.drop b) (hk : kd o = (0, mC ν)) (ho : o < h.1) (hb : as.length + 1 = b) (hc : cat1 as = true) (hx : as.length + 1 ≤ mX ν) (hs : ((st.drop b).map fun v => v.category).sum ≤ 8) (hr : Run ν h.1 0 (ini ν (.ref o :: as)) [] h (Ret v h2)) (k : Run μ n0 (pc + n) L (v.toList ++ st.drop b) h2 Φ) : Run μ n0 pc L st h Φ := by
  rw [hst]
  refine r_call _ _ _ _ _ _ _ _ _ _ _ _ _ as _ (by rw [hT]; exact e) hk ho hb hc hx hs hr (fun v' h' q => ?_)
  obtain ⟨rfl, rfl⟩ := q
  exact k
theorem g_scall (hT : mT μ = T) {n ν b c d : Nat} (as : List Value) {v : Option Value} {h2 : HP} (e : lk T pc = some (n, 73, ν, b, c, d)) (hst : st = as.reverse ++ st.drop b) (hb : as.length = b) (hc : cat1 as = true) (hx : as.length ≤ mX ν) (hs : ((st.drop b).map fun v => v.category).sum ≤ 8) (hr : Run ν h.1 0 (ini ν as) [] h (Ret v h2)) (k : Run μ n0 (pc + n) L (v.toList ++ st.drop b) h2 Φ) : Run μ n0 pc L st h Φ := by
  rw [hst]
  refine r_scall _ _ _ _ _ _ _ _ _ _ _ _ as _ (by rw [hT]; exact e) hb hc hx hs hr (fun v' h' q => ?_)
  obtain ⟨rfl, rfl⟩ := q
  exact k
theorem g_ret (hT : mT μ = T) {n a b c d : Nat} {x : Int32} (e : lk T pc = some (n, 80, a, b, c, d)) (hz : mA μ = some .boolean → x = 0 ∨ x = 1) (hn : h.1 = n0 + mK μ) (k : Φ (some (.int x)) h) : Run μ n0 pc L [.int x] h Φ := r_ret _ _ _ _ _ _ _ _ _ _ _ _ (by rw [hT]; exact e) hz hn k
theorem g_lret (hT : mT μ = T) {n a b c d : Nat} {x : Int64} (e : lk T pc = some (n, 81, a, b, c, d)) (hn : h.1 = n0 + mK μ) (k : Φ (some (.long x)) h) : Run μ n0 pc L [.long x] h Φ := r_lret _ _ _ _ _ _ _ _ _ _ _ _ (by rw [hT]; exact e) hn k
theorem g_rret (hT : mT μ = T) {n a b c d x : Nat} (e : lk T pc = some (n, 82, a, b, c, d)) (hn : h.1 = n0 + mK μ) (k : Φ (some (.ref x)) h) : Run μ n0 pc L [.ref x] h Φ := r_rret _ _ _ _ _ _ _ _ _ _ _ _ (by rw [hT]; exact e) hn k
theorem g_vret (hT : mT μ = T) {n a b c d : Nat} (e : lk T pc = some (n, 83, a, b, c, d)) (hn : h.1 = n0 + mK μ) (k : Φ none h) : Run μ n0 pc L [] h Φ := r_vret _ _ _ _ _ _ _ _ _ _ _ (by rw [hT]; exact e) hn k
end ROWS
/-! the heap once the constructors are through: references stand still, but for the row of kept books (cell 20) -/
def rts : List (List Nat) := [[2, 11, 20, 76, 81, 88, 90, 97, 98], [3, 4, 5, 6, 7, 8, 9, 10], [], [], [], [], [], [], [], [], [12, 13, 14, 15, 16, 17, 18, 19], [], [], [], [], [], [], [], [], [21], [], [23, 24, 25, 26, 27, 28, 29, 30], [], [], [], [], [], [], [], [], [32, 33, 34, 35, 36, 37, 38, 39], [], [], [], [], [], [], [], [], [41, 42, 43, 44, 45, 46, 47, 48], [], [], [], [], [], [], [], [], [50, 51, 52, 53, 54, 55, 56, 57], [], [], [], [], [], [], [], [], [59, 60, 61, 62, 63, 64, 65, 66], [], [], [], [], [], [], [], [], [68, 69, 70, 71, 72, 73, 74, 75], [], [], [], [], [], [], [], [], [77, 0, 78, 79, 80], [], [], [], [], [82, 85], [83, 84], [], [], [86, 87], [], [], [89], [], [91, 92, 93, 94, 95, 96], [], [], [], [], [], [], [], [], [100, 101, 102, 0, 0, 103, 0, 104, 105, 106, 107, 0, 0, 108, 109, 110], [], [], [], [], [], [], [], [], [], [], []]
def RR (n : Nat) (kf : Nat → Nat) (c i : Nat) : Nat := if c = 20 then kf i else if c = 1000 then n else if c = 1001 then 3 else if c = 1002 then 3 else (rts.getD c []).getD i 0
abbrev HH (n : Nat) (kf : Nat → Nat) (f : Nat → Nat → Int32) : HP := (110, RR n kf, f)
def isBk (b : Nat) : Prop := b = 1 ∨ b = 10 ∨ b = 21 ∨ b = 30 ∨ b = 39 ∨ b = 48 ∨ b = 57 ∨ b = 66
theorem bk_kd {b : Nat} (h : isBk b) : kd b = (0, 0) ∧ kd (b + 1) = (1, 2) ∧ kd (b + 2) = (1, 16) ∧ kd (b + 3) = (1, 192) ∧ kd (b + 4) = (1, 2) ∧ kd (b + 5) = (1, 3) ∧ kd (b + 6) = (1, 10) ∧ kd (b + 7) = (1, 10) ∧ kd (b + 8) = (1, 10) := by
  rcases h with rfl | rfl | rfl | rfl | rfl | rfl | rfl | rfl <;> decide
theorem bk_lt {b : Nat} (h : isBk b) : b + 8 < 110 := by
  rcases h with rfl | rfl | rfl | rfl | rfl | rfl | rfl | rfl <;> decide
theorem bk_rr {b : Nat} (h : isBk b) (n : Nat) (kf : Nat → Nat) (i : Nat) (hi : i < 8) : RR n kf b i = b + 1 + i + 1 := by
  rcases h with rfl | rfl | rfl | rfl | rfl | rfl | rfl | rfl <;> (match i, hi with
    | 0, _ => rfl
    | 1, _ => rfl
    | 2, _ => rfl
    | 3, _ => rfl
    | 4, _ => rfl
    | 5, _ => rfl
    | 6, _ => rfl
    | 7, _ => rfl)

/-! THE ROWS, the constructors being through -/
section VROWS
variable {μ pc m : Nat} {L : LT} {st : List Value} {kf : Nat → Nat} {f : Nat → Nat → Int32} {Φ : PT} {T : Tab}
theorem v_p (hT : mT μ = T) {p1 pc' : Nat} {L1 L' : LT} {s1 st' : List Value} {n0 : Nat} {h : HP} (e1 : ps T pc L st = some (p1, L1, s1)) (e : psn 60 T p1 L1 s1 = (pc', L', st')) (k : Run μ n0 pc' L' st' h Φ) : Run μ n0 pc L st h Φ := r_pure _ _ _ _ _ _ _ _ _ _ (by rw [hT]; exact e1) (g_ps 60 hT e k)
theorem v_fgt {L2 : LT} {n0 : Nat} {h : HP} (hq : lle L2 L) (k : Run μ n0 pc L2 st h Φ) : Run μ n0 pc L st h Φ := r_fgt _ _ _ _ _ _ _ _ hq k
theorem v_cv {L2 : LT} {st2 : List Value} {n0 : Nat} {h h2 : HP} (k : Run μ n0 pc L2 st2 h2 Φ) (hq : lle L2 L) (hs : st = st2) (hf : h = h2) : Run μ n0 pc L st h Φ := by
  subst hs
  subst hf
  exact r_fgt _ _ _ _ _ _ _ _ hq k
theorem v_geti (hT : mT μ = T) {n a b c d o : Nat} (e : lk T pc = some (n, 40, a, b, c, d)) (hk : kd o = (0, b)) (ho : o < 110) (k : Run μ 110 (pc + n) L (.int (f o a) :: st) (HH m kf f) Φ) : Run μ 110 pc L (.ref o :: st) (HH m kf f) Φ := g_geti hT e hk ho k
theorem v_getr (hT : mT μ = T) {n a b c d o j : Nat} (e : lk T pc = some (n, 41, a, b, c, d)) (hk : kd o = (0, b)) (ho : o < 110) (hj : RR m kf o a = j + 1) (k : Run μ 110 (pc + n) L (.ref j :: st) (HH m kf f) Φ) : Run μ 110 pc L (.ref o :: st) (HH m kf f) Φ := g_getr hT e hk ho hj k
theorem v_puti (hT : mT μ = T) {n a b c d o : Nat} {x : Int32} (e : lk T pc = some (n, 42, a, b, c, d)) (hk : kd o = (0, b)) (ho : o < 110) (hb : bfl b a = true → x = 0 ∨ x = 1) (k : Run μ 110 (pc + n) L st (HH m kf (hset f o a x)) Φ) : Run μ 110 pc L (.int x :: .ref o :: st) (HH m kf f) Φ := g_puti hT e hk ho hb k
theorem v_ald (hT : mT μ = T) {n a b c d o N i : Nat} (e : lk T pc = some (n, 50, a, b, c, d)) (hk : kd o = (1, N)) (ho : o < 110) (hN : N < 2 ^ 31) (hi : i < N) (k : Run μ 110 (pc + n) L (.int (f o i) :: st) (HH m kf f) Φ) : Run μ 110 pc L (.int (nI i) :: .ref o :: st) (HH m kf f) Φ := g_ald hT e hk ho hN hi k
theorem v_aldx (hT : mT μ = T) {n a b c d o i : Nat} (e : lk T pc = some (n, 50, a, b, c, d)) (hk : kd o = (6, 0)) (hN : RR m kf o 0 < 2 ^ 31) (hi : i < RR m kf o 0) (k : Run μ 110 (pc + n) L (.int (f o i) :: st) (HH m kf f) Φ) : Run μ 110 pc L (.int (nI i) :: .ref o :: st) (HH m kf f) Φ := r_aldx _ _ _ _ _ _ _ _ _ _ _ _ _ _ (by rw [hT]; exact e) hk (vp_in_nI hi hN) (by rw [nI_clamp (Nat.lt_trans hi hN)]; exact k)
theorem v_lenx (hT : mT μ = T) {n a b c d : Nat} (e : lk T pc = some (n, 56, a, b, c, d)) (k : Run μ 110 (pc + n) L (.int (nI (RR m kf 1000 0)) :: st) (HH m kf f) Φ) : Run μ 110 pc L (.ref 1000 :: st) (HH m kf f) Φ := r_lenx _ _ _ _ _ _ _ _ _ _ _ _ _ (by rw [hT]; exact e) rfl k
theorem v_ast (hT : mT μ = T) {n a b c d o N i : Nat} {x : Int32} (e : lk T pc = some (n, 51, a, b, c, d)) (hk : kd o = (1, N)) (ho : o < 110) (hN : N < 2 ^ 31) (hi : i < N) (k : Run μ 110 (pc + n) L st (HH m kf (hset f o i x)) Φ) : Run μ 110 pc L (.int x :: .int (nI i) :: .ref o :: st) (HH m kf f) Φ := g_ast hT e hk ho hN hi k
theorem v_bld (hT : mT μ = T) {n a b c d o g N i : Nat} (e : lk T pc = some (n, 52, a, b, c, d)) (hk : kd o = (g, N)) (hg : g = 2 ∨ g = 3) (ho : o < 110) (hN : N < 2 ^ 31) (hi : i < N) (k : Run μ 110 (pc + n) L (.int (f o i) :: st) (HH m kf f) Φ) : Run μ 110 pc L (.int (nI i) :: .ref o :: st) (HH m kf f) Φ := g_bld hT e hk hg ho hN hi k
theorem v_zst (hT : mT μ = T) {n a b c d o N i : Nat} {x : Int32} (e : lk T pc = some (n, 53, a, b, c, d)) (hk : kd o = (2, N)) (ho : o < 110) (hN : N < 2 ^ 31) (hi : i < N) (hx : x = 0 ∨ x = 1) (k : Run μ 110 (pc + n) L st (HH m kf (hset f o i x)) Φ) : Run μ 110 pc L (.int x :: .int (nI i) :: .ref o :: st) (HH m kf f) Φ := g_zst hT e hk ho hN hi hx k
theorem v_bst (hT : mT μ = T) {n a b c d o N i : Nat} {x : Int32} (e : lk T pc = some (n, 53, a, b, c, d)) (hk : kd o = (3, N)) (ho : o < 110) (hN : N < 2 ^ 31) (hi : i < N) (k : Run μ 110 (pc + n) L st (HH m kf (hset f o i (vp_nar .byte x))) Φ) : Run μ 110 pc L (.int x :: .int (nI i) :: .ref o :: st) (HH m kf f) Φ := g_bst hT e hk ho hN hi k
theorem v_rld (hT : mT μ = T) {n a b c d o g N j i : Nat} (e : lk T pc = some (n, 54, a, b, c, d)) (hk : kd o = (g, N)) (hg : g = 4 ∨ g = 5) (ho : o < 110) (hN : N < 2 ^ 31) (hi : i < N) (hj : RR m kf o i = j + 1) (k : Run μ 110 (pc + n) L (.ref j :: st) (HH m kf f) Φ) : Run μ 110 pc L (.int (nI i) :: .ref o :: st) (HH m kf f) Φ := g_rld hT e hk hg ho hN hi hj k
theorem v_len (hT : mT μ = T) {n a b c d o N : Nat} (e : lk T pc = some (n, 56, a, b, c, d)) (hk : kd o = (1, N)) (ho : o < 110) (k : Run μ 110 (pc + n) L (.int (nI N) :: st) (HH m kf f) Φ) : Run μ 110 pc L (.ref o :: st) (HH m kf f) Φ := g_len hT e hk ho k
theorem v_cpy (hT : mT μ = T) {n a b c d o o2 N N2 sp dp k : Nat} (e : lk T pc = some (n, 72, a, b, c, d)) (hk : kd o = (1, N)) (hk2 : kd o2 = (1, N2)) (ho : o < 110) (ho2 : o2 < 110) (h1 : sp + k ≤ N) (h2 : dp + k ≤ N2) (hs : (st.map fun v => v.category).sum ≤ 8) (kk : Run μ 110 (pc + n) L st (HH m kf (hputs f o2 (va_cpy (f o) (f o2) sp dp k))) Φ) : Run μ 110 pc L (.int (nI k) :: .int (nI dp) :: .ref o2 :: .int (nI sp) :: .ref o :: st) (HH m kf f) Φ := g_cpy hT e hk hk2 ho ho2 h1 h2 hs kk
theorem v_call (hT : mT μ = T) {n ν b c d o : Nat} (as : List Value) {v : Option Value} {h2 : HP} (e : lk T pc = some (n, 70, ν, b, c, d)) (hst : st = as.reverse ++ .ref o :: st.drop b) (hk : kd o = (0, mC ν)) (ho : o < 110) (hb : as.length + 1 = b) (hc : cat1 as = true) (hx : as.length + 1 ≤ mX ν) (hs : ((st.drop b).map fun v => v.category).sum ≤ 8) (hr : Run ν 110 0 (ini ν (.ref o :: as)) [] (HH m kf f) (Ret v h2)) (k : Run μ 110 (pc + n) L (v.toList ++ st.drop b) h2 Φ) : Run μ 110 pc L st (HH m kf f) Φ := g_call hT as e hst hk ho hb hc hx hs hr k
theorem v_scall (hT : mT μ = T) {n ν b c d : Nat} (as : List Value) {v : Option Value} {h2 : HP} (e : lk T pc = some (n, 73, ν, b, c, d)) (hst : st = as.reverse ++ st.drop b) (hb : as.length = b) (hc : cat1 as = true) (hx : as.length ≤ mX ν) (hs : ((st.drop b).map fun v => v.category).sum ≤ 8) (hr : Run ν 110 0 (ini ν as) [] (HH m kf f) (Ret v h2)) (k : Run μ 110 (pc + n) L (v.toList ++ st.drop b) h2 Φ) : Run μ 110 pc L st (HH m kf f) Φ := g_scall hT as e hst hb hc hx hs hr k
theorem v_ret (hT : mT μ = T) {n a b c d : Nat} {x : Int32} (e : lk T pc = some (n, 80, a, b, c, d)) (hz : mA μ = some .boolean → x = 0 ∨ x = 1) (hn : mK μ = 0) (k : Φ (some (.int x)) (HH m kf f)) : Run μ 110 pc L [.int x] (HH m kf f) Φ := g_ret hT e hz (by show 110 = 110 + mK μ; rw [hn]) k
theorem v_lret (hT : mT μ = T) {n a b c d : Nat} {x : Int64} (e : lk T pc = some (n, 81, a, b, c, d)) (hn : mK μ = 0) (k : Φ (some (.long x)) (HH m kf f)) : Run μ 110 pc L [.long x] (HH m kf f) Φ := g_lret hT e (by show 110 = 110 + mK μ; rw [hn]) k
theorem v_rret (hT : mT μ = T) {n a b c d x : Nat} (e : lk T pc = some (n, 82, a, b, c, d)) (hn : mK μ = 0) (k : Φ (some (.ref x)) (HH m kf f)) : Run μ 110 pc L [.ref x] (HH m kf f) Φ := g_rret hT e (by show 110 = 110 + mK μ; rw [hn]) k
theorem v_vret (hT : mT μ = T) {n a b c d : Nat} (e : lk T pc = some (n, 83, a, b, c, d)) (hn : mK μ = 0) (k : Φ none (HH m kf f)) : Run μ 110 pc L [] (HH m kf f) Φ := g_vret hT e (by show 110 = 110 + mK μ; rw [hn]) k
end VROWS
theorem cj_gt {a b : Nat} (ha : a < 2 ^ 31) (hb : b < 2 ^ 31) : cnd 4 (nI a) (nI b) ↔ b < a := nI_ltI hb ha
theorem cj_lt {a b : Nat} (ha : a < 2 ^ 31) (hb : b < 2 ^ 31) : cnd 2 (nI a) (nI b) ↔ a < b := nI_ltI ha hb
theorem cj_ge {a b : Nat} (ha : a < 2 ^ 31) (hb : b < 2 ^ 31) : cnd 3 (nI a) (nI b) ↔ b ≤ a := nI_leI hb ha
theorem cj_le {a b : Nat} (ha : a < 2 ^ 31) (hb : b < 2 ^ 31) : cnd 5 (nI a) (nI b) ↔ a ≤ b := nI_leI ha hb
theorem cj_eq {a b : Nat} (ha : a < 2 ^ 31) (hb : b < 2 ^ 31) : cnd 0 (nI a) (nI b) ↔ a = b := nI_eq ha hb
theorem cj_ne {a b : Nat} (ha : a < 2 ^ 31) (hb : b < 2 ^ 31) : cnd 1 (nI a) (nI b) ↔ ¬ a = b := not_congr (nI_eq ha hb)
