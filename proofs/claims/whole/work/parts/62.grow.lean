/-! CONSTRUCTORS: the heap grows. -/
def Zr (k : Nat) (R : Nat → Nat → Nat) (F : Nat → Nat → Int32) : Prop := (∀ c i, k ≤ c → c < 1000 → R c i = 0) ∧ ∀ c i, k ≤ c → c < 1000 → F c i = 0
theorem rset_eq {R : Nat → Nat → Nat} {o k j i : Nat} : rset R o k j o i = if i = k then j else R o i := by
  unfold rset
  by_cases h : i = k
  · rw [if_pos ⟨rfl, h⟩, if_pos h]
  · rw [if_neg (fun z => h z.2), if_neg h]
theorem Zr_s {k m : Nat} {R : Nat → Nat → Nat} {F : Nat → Nat → Int32} (h : Zr k R F) (hm : k ≤ m) : Zr m R F := ⟨fun c i h1 h2 => h.1 c i (by omega) h2, fun c i h1 h2 => h.2 c i (by omega) h2⟩
theorem Zr_r {k o i j : Nat} {R : Nat → Nat → Nat} {F : Nat → Nat → Int32} (h : Zr k R F) (ho : o < k) : Zr k (rset R o i j) F := ⟨fun c i h1 h2 => by rw [rset_ne (by omega)]; exact h.1 c i h1 h2, h.2⟩
theorem Zr_h {k o i : Nat} {x : Int32} {R : Nat → Nat → Nat} {F : Nat → Nat → Int32} (h : Zr k R F) (ho : o < k) : Zr k R (hset F o i x) := ⟨h.1, fun c i h1 h2 => by rw [hset_ne (by omega)]; exact h.2 c i h1 h2⟩
theorem mkc_id {k : Nat} {R : Nat → Nat → Nat} {F : Nat → Nat → Int32} (hz : Zr k R F) (h : k < 1000) : mkc (k, R, F) = (k + 1, R, F) := by
  have h1 : (fun c i => if c = k then 0 else R c i) = R := by
    funext c i
    by_cases hc : c = k
    · rw [if_pos hc, hc, hz.1 k i (Nat.le_refl _) h]
    · rw [if_neg hc]
  have h2 : (fun c i => if c = k then (0 : Int32) else F c i) = F := by
    funext c i
    by_cases hc : c = k
    · rw [if_pos hc, hc, hz.2 k i (Nat.le_refl _) h]
    · rw [if_neg hc]
  show (k + 1, (fun c i => if c = k then 0 else R c i), (fun c i => if c = k then (0 : Int32) else F c i)) = (k + 1, R, F)
  rw [h1, h2]
section GROW
variable {μ n0 pc k : Nat} {L : LT} {st : List Value} {Φ : PT} {T : Tab} {R : Nat → Nat → Nat} {F : Nat → Nat → Int32}
theorem g_new (hT : mT μ = T) {n a b c d : Nat} (e : lk T pc = some (n, 60, a, b, c, d)) (hk : kd k = (0, a)) (h1 : k + 1 ≤ n0 + mK μ) (h2 : slt (k + 1) ≤ slt n0 + mS μ) (hz : Zr k R F) (h1000 : k < 1000) (kk : Run μ n0 (pc + n) L (.ref k :: st) (k + 1, R, F) Φ) : Run μ n0 pc L st (k, R, F) Φ := by
  refine r_new μ n0 pc L st (k, R, F) Φ n a b c d (by rw [hT]; exact e) hk h1 h2 ?_
  rw [mkc_id hz h1000]
  exact kk
theorem g_newa (hT : mT μ = T) {n t a b c d N : Nat} (e : lk T pc = some (n, t, a, b, c, d)) (ht : t = 61 ∨ t = 62) (hk : kd k = (a, N)) (h1 : k + 1 ≤ n0 + mK μ) (h2 : slt (k + 1) ≤ slt n0 + mS μ) (hz : Zr k R F) (h1000 : k < 1000) (kk : Run μ n0 (pc + n) L (.ref k :: st) (k + 1, R, F) Φ) : Run μ n0 pc L (.int (nI N) :: st) (k, R, F) Φ := by
  refine r_newa μ n0 pc L st (k, R, F) Φ n t a b c d N (by rw [hT]; exact e) ht hk h1 h2 ?_
  rw [mkc_id hz h1000]
  exact kk
theorem g_oin (hT : mT μ = T) {n a b c d o : Nat} {h : HP} (e : lk T pc = some (n, 71, a, b, c, d)) (hs : (st.map fun v => v.category).sum ≤ 8) (kk : Run μ n0 (pc + n) L st h Φ) : Run μ n0 pc L (.ref o :: st) h Φ := r_oin μ n0 pc L st h Φ n a b c d o (by rw [hT]; exact e) hs kk
theorem g_putr (hT : mT μ = T) {n a b c d o j : Nat} (e : lk T pc = some (n, 43, a, b, c, d)) (hk : kd o = (0, b)) (ho : o < k) (kk : Run μ n0 (pc + n) L st (k, rset R o a (j + 1), F) Φ) : Run μ n0 pc L (.ref j :: .ref o :: st) (k, R, F) Φ := r_putr μ n0 pc L st (k, R, F) Φ n a b c d o j (by rw [hT]; exact e) hk ho kk
theorem g_icall (hT : mT μ = T) {n ν b c d o : Nat} {h2 : HP} (e : lk T pc = some (n, 74, ν, b, c, d)) (ho : o < k) (hb : b = 1) (hx : 1 ≤ mX ν) (hs : (st.map fun v => v.category).sum ≤ 8) (h1 : k + mK ν ≤ n0 + mK μ) (h3 : slt k + mS ν = slt (k + mK ν)) (h4 : slt (k + mK ν) ≤ slt n0 + mS μ) (hr : Run ν k 0 (ini ν [.ref o]) [] (k, R, F) (Ret none h2)) (kk : Run μ n0 (pc + n) L st h2 Φ) : Run μ n0 pc L (.ref o :: st) (k, R, F) Φ := r_icall μ n0 pc L st (k, R, F) Φ n ν b c d o (Ret none h2) (by rw [hT]; exact e) ho hb hx hs h1 h3 h4 hr (fun v h' q => ⟨q.1, by rw [q.2]; exact kk⟩)
end GROW
theorem bk_slt {b : Nat} (hb : isBk b) {j : Nat} (hj : j < 8) : slt (b + 1 + j + 1) ≤ slt (b + 1) + 245 := by
  have key : ∀ b ∈ [1, 10, 21, 30, 39, 48, 57, 66], ∀ j, j < 8 → slt (b + 1 + j + 1) ≤ slt (b + 1) + 245 := by decide +kernel
  exact key b (by rcases hb with e | e | e | e | e | e | e | e <;> subst e <;> decide) j hj
def bkW (F : Nat → Nat → Int32) (b : Nat) : Prop := F (b + 4) 0 = nI 20 ∧ F (b + 4) 1 = nI 20 ∧ F (b + 5) 0 = nI 8 ∧ F (b + 5) 1 = nI 2 ∧ F (b + 5) 2 = nI 1
theorem i_book {b : Nat} {R : Nat → Nat → Nat} {F : Nat → Nat → Int32} (hb : isBk b) (hz : Zr b R F) :
    ∃ R2 F2, Run n_X0_init (b + 1) 0 (ini n_X0_init [.ref b]) [] (b + 1, R, F) (Ret none (b + 9, R2, F2)) ∧ (∀ i, R2 b i = if i < 8 then b + 2 + i else 0) ∧ (∀ c, c ≠ b → R2 c = R c) ∧ bkW F2 b ∧ ∀ c, c ≠ b + 4 → c ≠ b + 5 → F2 c = F c := by
  have hT : mT n_X0_init = tb_X0_init := rfl
  obtain ⟨k0, k1, k2, k3, k4, k5, k6, k7, k8⟩ := bk_kd hb
  have hlt := bk_lt hb
  have s0 := bk_slt hb (j := 0) (by omega)
  have s1 := bk_slt hb (j := 1) (by omega)
  have s2 := bk_slt hb (j := 2) (by omega)
  have s3 := bk_slt hb (j := 3) (by omega)
  have s4 := bk_slt hb (j := 4) (by omega)
  have s5 := bk_slt hb (j := 5) (by omega)
  have s6 := bk_slt hb (j := 6) (by omega)
  have s7 := bk_slt hb (j := 7) (by omega)
  refine ⟨rset (rset (rset (rset (rset (rset (rset (rset R b 0 (b + 2)) b 1 (b + 3)) b 2 (b + 4)) b 3 (b + 5)) b 4 (b + 6)) b 5 (b + 7)) b 6 (b + 8)) b 7 (b + 9), hset (hset (hset (hset (hset F (b + 4) 0 (nI 20)) (b + 4) 1 (nI 20)) (b + 5) 0 (nI 8)) (b + 5) 1 (nI 2)) (b + 5) 2 (nI 1), ?_, ?_, ?_, ?_, ?_⟩
  · have z1 : Zr (b + 1) R F := Zr_s hz (by omega)
    have z2 := Zr_r (i := 0) (j := b + 2) (Zr_s z1 (show b + 1 ≤ b + 2 by omega)) (show b < b + 2 by omega)
    have z3 := Zr_r (i := 1) (j := b + 3) (Zr_s z2 (show b + 2 ≤ b + 3 by omega)) (show b < b + 3 by omega)
    have z4 := Zr_r (i := 2) (j := b + 4) (Zr_s z3 (show b + 3 ≤ b + 4 by omega)) (show b < b + 4 by omega)
    have z5 := Zr_r (i := 3) (j := b + 5) (Zr_h (i := 1) (x := nI 20) (Zr_h (i := 0) (x := nI 20) (Zr_s z4 (show b + 4 ≤ b + 5 by omega)) (show b + 4 < b + 5 by omega)) (show b + 4 < b + 5 by omega)) (show b < b + 5 by omega)
    have z6 := Zr_r (i := 4) (j := b + 6) (Zr_h (i := 2) (x := nI 1) (Zr_h (i := 1) (x := nI 2) (Zr_h (i := 0) (x := nI 8) (Zr_s z5 (show b + 5 ≤ b + 6 by omega)) (show b + 5 < b + 6 by omega)) (show b + 5 < b + 6 by omega)) (show b + 5 < b + 6 by omega)) (show b < b + 6 by omega)
    have z7 := Zr_r (i := 5) (j := b + 7) (Zr_s z6 (show b + 6 ≤ b + 7 by omega)) (show b < b + 7 by omega)
    have z8 := Zr_r (i := 6) (j := b + 8) (Zr_s z7 (show b + 7 ≤ b + 8 by omega)) (show b < b + 8 by omega)
    refine v_p hT rfl rfl ?_
    refine g_oin hT rfl (Nat.le_of_ble_eq_true rfl) ?_
    refine v_p hT rfl rfl ?_
    refine g_newa hT rfl (Or.inl rfl) k1 (show b + 1 + 1 ≤ b + 1 + 8 by omega) s0 z1 (by omega) ?_
    refine g_putr hT rfl k0 (by omega) ?_
    refine v_p hT rfl rfl ?_
    refine g_newa hT rfl (Or.inl rfl) k2 (show b + 2 + 1 ≤ b + 1 + 8 by omega) s1 z2 (by omega) ?_
    refine g_putr hT rfl k0 (by omega) ?_
    refine v_p hT rfl rfl ?_
    refine g_newa hT rfl (Or.inl rfl) k3 (show b + 3 + 1 ≤ b + 1 + 8 by omega) s2 z3 (by omega) ?_
    refine g_putr hT rfl k0 (by omega) ?_
    refine v_p hT rfl rfl ?_
    refine g_newa hT rfl (Or.inl rfl) k4 (show b + 4 + 1 ≤ b + 1 + 8 by omega) s3 z4 (by omega) ?_
    refine v_p hT rfl rfl ?_
    refine g_ast hT rfl k4 (show b + 4 < b + 5 by omega) (by decide) (by decide) ?_
    refine v_p hT rfl rfl ?_
    refine g_ast hT rfl k4 (show b + 4 < b + 5 by omega) (by decide) (by decide) ?_
    refine g_putr hT rfl k0 (by omega) ?_
    refine v_p hT rfl rfl ?_
    refine g_newa hT rfl (Or.inl rfl) k5 (show b + 5 + 1 ≤ b + 1 + 8 by omega) s4 z5 (by omega) ?_
    refine v_p hT rfl rfl ?_
    refine g_ast hT rfl k5 (show b + 5 < b + 6 by omega) (by decide) (by decide) ?_
    refine v_p hT rfl rfl ?_
    refine g_ast hT rfl k5 (show b + 5 < b + 6 by omega) (by decide) (by decide) ?_
    refine v_p hT rfl rfl ?_
    refine g_ast hT rfl k5 (show b + 5 < b + 6 by omega) (by decide) (by decide) ?_
    refine g_putr hT rfl k0 (by omega) ?_
    refine v_p hT rfl rfl ?_
    refine g_newa hT rfl (Or.inl rfl) k6 (show b + 6 + 1 ≤ b + 1 + 8 by omega) s5 z6 (by omega) ?_
    refine g_putr hT rfl k0 (by omega) ?_
    refine v_p hT rfl rfl ?_
    refine g_newa hT rfl (Or.inl rfl) k7 (show b + 7 + 1 ≤ b + 1 + 8 by omega) s6 z7 (by omega) ?_
    refine g_putr hT rfl k0 (by omega) ?_
    refine v_p hT rfl rfl ?_
    refine g_newa hT rfl (Or.inl rfl) k8 (show b + 8 + 1 ≤ b + 1 + 8 by omega) s7 z8 (by omega) ?_
    refine g_putr hT rfl k0 (by omega) ?_
    exact g_vret hT rfl rfl ⟨rfl, rfl⟩
  · intro i
    have h0 := hz.1 b i (Nat.le_refl _) (by omega)
    simp only [rset_eq, h0]
    rcases (show i = 0 ∨ i = 1 ∨ i = 2 ∨ i = 3 ∨ i = 4 ∨ i = 5 ∨ i = 6 ∨ i = 7 ∨ 8 ≤ i by omega) with e | e | e | e | e | e | e | e | e
    iterate 8 (subst e; rfl)
    rw [if_neg (by omega), if_neg (by omega), if_neg (by omega), if_neg (by omega), if_neg (by omega), if_neg (by omega), if_neg (by omega), if_neg (by omega), if_neg (by omega)]
  · intro c hc
    rw [rset_ne hc, rset_ne hc, rset_ne hc, rset_ne hc, rset_ne hc, rset_ne hc, rset_ne hc, rset_ne hc]
  · refine ⟨?_, ?_, ?_, ?_, ?_⟩
    · rw [hset_ne (by omega), hset_ne (by omega), hset_ne (by omega), hs_s, pk_un (by omega), hs_s, pk_us]
    · rw [hset_ne (by omega), hset_ne (by omega), hset_ne (by omega), hs_s, pk_us]
    · rw [hs_s, pk_un (by omega), hs_s, pk_un (by omega), hs_s, pk_us]
    · rw [hs_s, pk_un (by omega), hs_s, pk_us]
    · rw [hs_s, pk_us]
  · intro c h4 h5
    rw [hset_ne h5, hset_ne h5, hset_ne h5, hset_ne h4, hset_ne h4]
