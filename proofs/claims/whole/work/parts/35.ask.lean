/-! THE CLASS: what is asked. -/
theorem int_04 {w : Int32} {b : Nat} (hb : b < 1000) (h : nI 0 ≤ w ∧ w ≤ nI b) : ∃ k, k ≤ b ∧ w = nI k := by
  obtain ⟨k, _, h2, h3⟩ := in_range w (by omega) h (by omega)
  exact ⟨k, h2, h3⟩
theorem neg_lt {x : Int32} : cnd 2 x 0 ↔ x < 0 := Iff.rfl
noncomputable def oBack (S : ST) : Int32 × ST := if S.2.1.1 = 0 then (mI 3, refu S 1) else (nI (S.2.1.1 - 1), (S.2.1.2 (S.2.1.1 - 1), (S.2.1.1 - 1, S.2.1.2), S.2.2.1, S.2.2.2))
theorem C_back {S : ST} (hV : VS S) : CSp n_X6_back [] S (oBack S) := by
  have hT : mT n_X6_back = tb_X6_back := rfl
  intro n kf f hR
  have hR0 := hR
  obtain ⟨a1, a2, a3, a4, a5, a6, me, la, a7, a8, a9, a10⟩ := hR
  obtain ⟨f1, r1, g1, g2, g3, g4⟩ := s_giveBack (n := n) a1 a3 hV.2.1
  unfold oBack
  by_cases h0 : S.2.1.1 = 0
  · rw [if_pos h0]
    have e := g2 h0
    subst e
    obtain ⟨f2, q1, q2, q3⟩ := s_refu (n := n) (j := 1) (by omega) hV hR0
    refine ⟨kf, f2, ?_, q2, q3⟩
    rw [decide_eq_false (show ¬ 0 < S.2.1.1 by omega)] at r1
    refine v_p hT rfl rfl ?_
    refine v_getr hT rfl rfl (by omega) rfl ?_
    refine v_p hT rfl rfl ?_
    refine v_getr hT rfl rfl (by omega) rfl ?_
    refine v_call hT [.ref 1] rfl rfl (by first | rfl | assumption) (by omega) rfl rfl (Nat.le_of_ble_eq_true rfl) (Nat.le_of_ble_eq_true rfl) (r1) ?_
    refine g_if hT rfl (fun cq => ?_) (fun cq => ?_)
    · exact absurd rfl cq
    · refine v_p hT rfl rfl ?_
      refine v_call hT [.int (mI 3)] rfl rfl (by first | rfl | assumption) (by omega) rfl rfl (Nat.le_of_ble_eq_true rfl) (Nat.le_of_ble_eq_true rfl) (q1) ?_
      refine v_ret hT rfl (fun z => by cases z) rfl ⟨rfl, rfl⟩
  · rw [if_neg h0]
    rw [decide_eq_true (show 0 < S.2.1.1 by omega)] at r1
    have hn := hV.2.1.1
    have h19 : hset (hset f1 0 9 (nI 0)) 0 10 (nI 0) 19 1 = nI (S.2.1.1 - 1) := by rw [hset_ne (by omega), hset_ne (by omega)]; exact g3.1
    have hfr : ∀ c, 19 < c → hset (hset f1 0 9 (nI 0)) 0 10 (nI 0) c = f c := fun c hc => by rw [hset_ne (by omega), hset_ne (by omega), g4 c (by omega)]
    refine ⟨kf, hset (hset f1 0 9 (nI 0)) 0 10 (nI 0), ?_, ⟨a1, ?_, ?_, ?_, fun i hi => ?_, ?_, false, false, ?_, ?_, fun z => (by cases z), fun z => (by cases z)⟩, fun c hc => hfr c (by omega)⟩
    · refine v_p hT rfl rfl ?_
      refine v_getr hT rfl rfl (by omega) rfl ?_
      refine v_p hT rfl rfl ?_
      refine v_getr hT rfl rfl (by omega) rfl ?_
      refine v_call hT [.ref 1] rfl rfl (by first | rfl | assumption) (by omega) rfl rfl (Nat.le_of_ble_eq_true rfl) (Nat.le_of_ble_eq_true rfl) (r1) ?_
      refine g_if hT rfl (fun cq => ?_) (fun cq => ?_)
      · refine v_p hT rfl rfl ?_
        refine v_call hT [] rfl rfl (by first | rfl | assumption) (by omega) rfl rfl (Nat.le_of_ble_eq_true rfl) (Nat.le_of_ble_eq_true rfl) (s_forgetPlans) ?_
        refine v_p hT rfl rfl ?_
        refine v_getr hT rfl rfl (by omega) rfl ?_
        refine v_geti hT rfl (by first | rfl | assumption) (by omega) ?_
        rw [h19]
        refine v_ret hT rfl (fun z => by cases z) rfl ⟨rfl, rfl⟩
      · exact absurd (show ¬ (1 : Int32) = 0 by decide) cq
    · exact bkR_fr (g1 (by omega)) (fun c h1 h2 => by rw [hset_ne (by omega), hset_ne (by omega)])
    · exact stR_fr a1 (by show S.2.1.1 - 1 ≤ 6; omega) g3 (fun c h1 h2 => by rw [hset_ne (by omega), hset_ne (by omega)])
    · exact ⟨by rw [hfr 75 (by omega)]; exact a4.1, fun k hk => by rw [hfr 76 (by omega)]; exact a4.2 k hk⟩
    · rw [hfr 96 (by omega)]; exact a5 i hi
    · exact ⟨by rw [hfr 1001 (by omega)]; exact a6.1, by rw [hfr 1002 (by omega)]; exact a6.2⟩
    · rw [hs_s]
      simp only [upd, if_neg (show (9 : Nat) ≠ 10 by omega)]
      rw [hs_s]
      simp [upd]
      rfl
    · rw [hs_s]; simp [upd]; rfl
theorem VS_back {S : ST} (hV : VS S) : VS (oBack S).2 := by
  unfold oBack
  by_cases h0 : S.2.1.1 = 0
  · rw [if_pos h0]; exact hV
  · rw [if_neg h0]
    obtain ⟨h1, h2, h3⟩ := hV
    exact ⟨h2.2 _ (by omega), ⟨by show S.2.1.1 - 1 ≤ 6; have := h2.1; omega, fun i hi => h2.2 i (by have : i < S.2.1.1 - 1 := hi; omega)⟩, h3⟩
/-- the text alone becomes other -/
theorem RepC_tx {kf : Nat → Nat} {f f2 : Nat → Nat → Int32} {S : ST} {t : TX} (hV : VS S) (h : RepC kf f S) (hc : ∀ c, c ≠ 75 → c ≠ 76 → f2 c = f c) (ht : txR f2 t) : RepC kf f2 (S.1, S.2.1, t, S.2.2.2) := by
  obtain ⟨a1, a2, a3, a4, a5, a6, me, la, a7, a8, a9, a10⟩ := h
  exact ⟨a1, bkR_fr a2 (fun c _ _ => hc c (by omega) (by omega)), stR_fr a1 hV.2.1.1 a3 (fun c _ _ => hc c (by omega) (by omega)), ht, fun i hi => by rw [hc 96 (by omega) (by omega)]; exact a5 i hi, ⟨by rw [hc 1001 (by omega) (by omega)]; exact a6.1, by rw [hc 1002 (by omega) (by omega)]; exact a6.2⟩, me, la, by rw [hc 0 (by omega) (by omega)]; exact a7, by rw [hc 0 (by omega) (by omega)]; exact a8, fun z => msR_fr (a9 z) (fun c _ _ => hc c (by omega) (by omega)), fun z => ⟨(a10 z).1, layR_fr (a10 z).2 (fun c _ _ => hc c (by omega) (by omega))⟩⟩
def oClear (S : ST) : Int32 × ST := (nI S.2.2.1.1, (S.1, S.2.1, (0, S.2.2.1.2), S.2.2.2))
theorem C_clear {S : ST} (hV : VS S) : CSp n_X6_clear [] S (oClear S) := by
  have hT : mT n_X6_clear = tb_X6_clear := rfl
  intro n kf f hR
  refine ⟨kf, hset f 75 1 (nI 0), ?_, RepC_tx hV hR (fun c h1 _ => hset_ne h1) ⟨by rw [hs_s]; simp [upd], fun k hk => absurd hk (Nat.not_lt_zero _)⟩, fun c hc => hset_ne (by omega)⟩
  refine v_p hT rfl rfl ?_
  refine v_getr hT rfl rfl (by omega) rfl ?_
  refine v_geti hT rfl (by first | rfl | assumption) (by omega) ?_
  rw [hR.2.2.2.1.1]
  refine v_p hT rfl rfl ?_
  refine v_getr hT rfl rfl (by omega) rfl ?_
  refine v_p hT rfl rfl ?_
  refine v_puti hT rfl rfl (by omega) (fun z => by cases z) ?_
  refine v_p hT rfl rfl ?_
  refine v_ret hT rfl (fun z => by cases z) rfl ⟨rfl, rfl⟩
noncomputable def oType (S : ST) (c : Int32) : Int32 × ST := bif decide (nI 0 ≤ c ∧ c ≤ nI 127) then (if S.2.2.1.1 < 120 then (nI (S.2.2.1.1 + 1), (S.1, S.2.1, tAdd S.2.2.1 c.toNatClampNeg, S.2.2.2)) else (mI 4, refu S 2)) else (mI 2, refu S 0)
theorem VS_type {S : ST} (hV : VS S) (c : Int32) : VS (oType S c).2 := by
  unfold oType
  by_cases hc : nI 0 ≤ c ∧ c ≤ nI 127
  · rw [decide_eq_true hc]
    obtain ⟨k, k1, k2⟩ := int_04 (by omega) hc
    by_cases ht : S.2.2.1.1 < 120
    · simp only [cond_true]
      rw [if_pos ht]
      refine ⟨hV.1, hV.2.1, ?_, fun i hi => ?_⟩
      · show S.2.2.1.1 + 1 ≤ 120; omega
      · have hi : i < S.2.2.1.1 + 1 := hi
        show (if i = S.2.2.1.1 then c.toNatClampNeg else S.2.2.1.2 i) < 128
        split
        · rw [k2, nI_tn (by omega)]; omega
        · exact hV.2.2.2 i (by omega)
    · simp only [cond_true]
      rw [if_neg ht]
      exact hV
  · rw [decide_eq_false hc]; exact hV
theorem C_type {S : ST} (hV : VS S) (c : Int32) : CSp n_X6_type [.int c] S (oType S c) := by
  have hT : mT n_X6_type = tb_X6_type := rfl
  intro n kf f hR
  unfold oType
  by_cases hc : nI 0 ≤ c ∧ c ≤ nI 127
  · obtain ⟨k, k1, k2⟩ := int_04 (by omega) hc
    obtain ⟨f1, r1, t1, h1⟩ := s_append (n := n) (kf := kf) (c := k) hV.2.2 hR.2.2.2.1 (by omega)
    rw [decide_eq_true hc]
    simp only [cond_true]
    have start : ∀ Φ, Run n_X6_type 110 25 [some (.ref 0), some (.int c)] [.int (bI (decide (S.2.2.1.1 < 120)))] (HH n kf f1) Φ → Run n_X6_type 110 0 (ini n_X6_type [.ref 0, .int c]) [] (HH n kf f) Φ := by
      intro Φ hΦ
      refine v_p hT rfl rfl ?_
      refine v_scall hT [.int c, .int (nI 0), .int (nI 127)] rfl rfl rfl rfl (Nat.le_of_ble_eq_true rfl) (Nat.le_of_ble_eq_true rfl) (s_within c (nI 0) (nI 127)) ?_
      rw [decide_eq_true hc]
      refine g_if hT rfl (fun cq => ?_) (fun cq => ?_)
      · refine v_p hT rfl rfl ?_
        refine v_getr hT rfl rfl (by omega) rfl ?_
        refine v_p hT rfl rfl ?_
        rw [k2]
        refine v_call hT [.int (nI k)] rfl rfl (by first | rfl | assumption) (by omega) rfl rfl (Nat.le_of_ble_eq_true rfl) (Nat.le_of_ble_eq_true rfl) (r1) ?_
        rw [k2] at hΦ
        exact hΦ
      · exact absurd (show ¬ (1 : Int32) = 0 by decide) cq
    by_cases ht : S.2.2.1.1 < 120
    · rw [if_pos ht] at t1 ⊢
      have hck : c.toNatClampNeg = k := by rw [k2, nI_tn (by omega)]
      rw [hck]
      refine ⟨kf, f1, start _ ?_, RepC_tx hV hR h1 t1, fun c hc => h1 c (by omega) (by omega)⟩
      rw [decide_eq_true ht]
      refine g_if hT rfl (fun cq => ?_) (fun cq => ?_)
      · refine v_p hT rfl rfl ?_
        refine v_getr hT rfl rfl (by omega) rfl ?_
        refine v_geti hT rfl (by first | rfl | assumption) (by omega) ?_
        rw [t1.1]
        refine v_ret hT rfl (fun z => by cases z) rfl ⟨rfl, rfl⟩
      · exact absurd (show ¬ (1 : Int32) = 0 by decide) cq
    · rw [if_neg ht] at t1 ⊢
      have hR1 : RepC kf f1 S := RepC_tx hV hR h1 t1
      obtain ⟨f2, q1, q2, q3⟩ := s_refu (n := n) (j := 2) (by omega) hV hR1
      refine ⟨kf, f2, start _ ?_, q2, fun c hc => by rw [q3 c hc, h1 c (by omega) (by omega)]⟩
      rw [decide_eq_false ht]
      refine g_if hT rfl (fun cq => ?_) (fun cq => ?_)
      · exact absurd rfl cq
      · refine v_p hT rfl rfl ?_
        refine v_call hT [.int (mI 4)] rfl rfl (by first | rfl | assumption) (by omega) rfl rfl (Nat.le_of_ble_eq_true rfl) (Nat.le_of_ble_eq_true rfl) (q1) ?_
        refine v_ret hT rfl (fun z => by cases z) rfl ⟨rfl, rfl⟩
  · rw [decide_eq_false hc]
    obtain ⟨f2, q1, q2, q3⟩ := s_refu (n := n) (j := 0) (by omega) hV hR
    refine ⟨kf, f2, ?_, q2, q3⟩
    refine v_p hT rfl rfl ?_
    refine v_scall hT [.int c, .int (nI 0), .int (nI 127)] rfl rfl rfl rfl (Nat.le_of_ble_eq_true rfl) (Nat.le_of_ble_eq_true rfl) (s_within c (nI 0) (nI 127)) ?_
    rw [decide_eq_false hc]
    refine g_if hT rfl (fun cq => ?_) (fun cq => ?_)
    · exact absurd rfl cq
    · refine v_p hT rfl rfl ?_
      refine v_call hT [.int (mI 2)] rfl rfl (by first | rfl | assumption) (by omega) rfl rfl (Nat.le_of_ble_eq_true rfl) (Nat.le_of_ble_eq_true rfl) (q1) ?_
      refine v_ret hT rfl (fun z => by cases z) rfl ⟨rfl, rfl⟩
def tlA (S : ST) (w : Nat) : Int32 := if w < 3 then S.2.2.2 w else if w < 5 then nI (bWd S.1 (w - 3)) else if w < 8 then nI (bSe S.1 (w - 5)) else if w = 8 then nI S.2.2.1.1 else nI S.2.1.1
def oTold (S : ST) (w : Int32) : Int32 × ST := bif decide (nI 0 ≤ w ∧ w ≤ nI 9) then (tlA S w.toNatClampNeg, S) else (mI 2, refu S 0)
theorem not_in {w : Int32} {b : Nat} (hb : b < 1000) (h : ¬ (nI 0 ≤ w ∧ w ≤ nI b)) : w.toInt < 0 ∨ (b : Int) < w.toInt := by
  by_cases h1 : w < 0
  · have h3 := Int32.lt_iff_toInt_lt.mp h1
    exact Or.inl h3
  · obtain ⟨j, hj, e⟩ := nI_of h1
    subst e
    right
    have h2 : ¬ j ≤ b := fun z => h ⟨(cj_le (a := 0) (b := j) (by omega) hj).mpr (by omega), (cj_le (a := j) (b := b) hj (by omega)).mpr z⟩
    rw [show (nI j).toInt = (j : Int) from Int32.toInt_ofNat_of_lt hj]
    omega
theorem told_sw {w : Int32} (h : ¬ (nI 0 ≤ w ∧ w ≤ nI 9)) : swt 6 w = 103 := by
  have h2 := not_in (by omega) h
  show swf [(0,56), (1,56), (2,56), (3,63), (4,63), (5,75), (6,75), (7,75), (8,87), (9,95)] 103 w.toInt = 103
  simp only [swf]
  rw [if_neg (by omega), if_neg (by omega), if_neg (by omega), if_neg (by omega), if_neg (by omega), if_neg (by omega), if_neg (by omega), if_neg (by omega), if_neg (by omega), if_neg (by omega)]
theorem c_told {S : ST} (hV : VS S) {k n : Nat} (hk : k ≤ 9) {kf : Nat → Nat} {f : Nat → Nat → Int32} (hR : RepC kf f S) : Run n_X6_told 110 0 (ini n_X6_told [.ref 0, .int (nI k)]) [] (HH n kf f) (Ret (some (.int (tlA S k))) (HH n kf f)) := by
  have hT : mT n_X6_told = tb_X6_told := rfl
  obtain ⟨a1, a2, a3, a4, a5, a6, a7⟩ := hR
  rcases (show k = 0 ∨ k = 1 ∨ k = 2 ∨ k = 3 ∨ k = 4 ∨ k = 5 ∨ k = 6 ∨ k = 7 ∨ k = 8 ∨ k = 9 by omega) with e | e | e | e | e | e | e | e | e | e
  · subst e
    refine v_p hT rfl rfl ?_
    refine g_sw hT rfl (Or.inl rfl) (pc' := 56) rfl ?_
    refine v_p hT rfl rfl ?_
    refine v_getr hT rfl rfl (by omega) rfl ?_
    refine v_p hT rfl rfl ?_
    refine v_ald hT rfl (by first | assumption | rfl) (by omega) (by decide) (by omega) ?_
    rw [a5 0 (by omega)]
    refine v_ret hT rfl (fun z => by cases z) rfl ⟨rfl, rfl⟩
  · subst e
    refine v_p hT rfl rfl ?_
    refine g_sw hT rfl (Or.inl rfl) (pc' := 56) rfl ?_
    refine v_p hT rfl rfl ?_
    refine v_getr hT rfl rfl (by omega) rfl ?_
    refine v_p hT rfl rfl ?_
    refine v_ald hT rfl (by first | assumption | rfl) (by omega) (by decide) (by omega) ?_
    rw [a5 1 (by omega)]
    refine v_ret hT rfl (fun z => by cases z) rfl ⟨rfl, rfl⟩
  · subst e
    refine v_p hT rfl rfl ?_
    refine g_sw hT rfl (Or.inl rfl) (pc' := 56) rfl ?_
    refine v_p hT rfl rfl ?_
    refine v_getr hT rfl rfl (by omega) rfl ?_
    refine v_p hT rfl rfl ?_
    refine v_ald hT rfl (by first | assumption | rfl) (by omega) (by decide) (by omega) ?_
    rw [a5 2 (by omega)]
    refine v_ret hT rfl (fun z => by cases z) rfl ⟨rfl, rfl⟩
  · subst e
    refine v_p hT rfl rfl ?_
    refine g_sw hT rfl (Or.inl rfl) (pc' := 63) rfl ?_
    refine v_p hT rfl rfl ?_
    refine v_getr hT rfl rfl (by omega) rfl ?_
    refine v_getr hT rfl rfl (by omega) rfl ?_
    refine v_p hT rfl rfl ?_
    rw [pk_sub (by omega)]
    refine v_ald hT rfl (by first | assumption | rfl) (by omega) (by decide) (by omega) ?_
    rw [show f 5 (3 - 3) = nI (bWd S.1 0) from a2.2.2.1 0 (by omega)]
    refine v_ret hT rfl (fun z => by cases z) rfl ⟨rfl, rfl⟩
  · subst e
    refine v_p hT rfl rfl ?_
    refine g_sw hT rfl (Or.inl rfl) (pc' := 63) rfl ?_
    refine v_p hT rfl rfl ?_
    refine v_getr hT rfl rfl (by omega) rfl ?_
    refine v_getr hT rfl rfl (by omega) rfl ?_
    refine v_p hT rfl rfl ?_
    rw [pk_sub (by omega)]
    refine v_ald hT rfl (by first | assumption | rfl) (by omega) (by decide) (by omega) ?_
    rw [show f 5 (4 - 3) = nI (bWd S.1 1) from a2.2.2.1 1 (by omega)]
    refine v_ret hT rfl (fun z => by cases z) rfl ⟨rfl, rfl⟩
  · subst e
    refine v_p hT rfl rfl ?_
    refine g_sw hT rfl (Or.inl rfl) (pc' := 75) rfl ?_
    refine v_p hT rfl rfl ?_
    refine v_getr hT rfl rfl (by omega) rfl ?_
    refine v_getr hT rfl rfl (by omega) rfl ?_
    refine v_p hT rfl rfl ?_
    rw [pk_sub (by omega)]
    refine v_ald hT rfl (by first | assumption | rfl) (by omega) (by decide) (by omega) ?_
    rw [show f 6 (5 - 5) = nI (bSe S.1 0) from a2.2.2.2.1 0 (by omega)]
    refine v_ret hT rfl (fun z => by cases z) rfl ⟨rfl, rfl⟩
  · subst e
    refine v_p hT rfl rfl ?_
    refine g_sw hT rfl (Or.inl rfl) (pc' := 75) rfl ?_
    refine v_p hT rfl rfl ?_
    refine v_getr hT rfl rfl (by omega) rfl ?_
    refine v_getr hT rfl rfl (by omega) rfl ?_
    refine v_p hT rfl rfl ?_
    rw [pk_sub (by omega)]
    refine v_ald hT rfl (by first | assumption | rfl) (by omega) (by decide) (by omega) ?_
    rw [show f 6 (6 - 5) = nI (bSe S.1 1) from a2.2.2.2.1 1 (by omega)]
    refine v_ret hT rfl (fun z => by cases z) rfl ⟨rfl, rfl⟩
  · subst e
    refine v_p hT rfl rfl ?_
    refine g_sw hT rfl (Or.inl rfl) (pc' := 75) rfl ?_
    refine v_p hT rfl rfl ?_
    refine v_getr hT rfl rfl (by omega) rfl ?_
    refine v_getr hT rfl rfl (by omega) rfl ?_
    refine v_p hT rfl rfl ?_
    rw [pk_sub (by omega)]
    refine v_ald hT rfl (by first | assumption | rfl) (by omega) (by decide) (by omega) ?_
    rw [show f 6 (7 - 5) = nI (bSe S.1 2) from a2.2.2.2.1 2 (by omega)]
    refine v_ret hT rfl (fun z => by cases z) rfl ⟨rfl, rfl⟩
  · subst e
    refine v_p hT rfl rfl ?_
    refine g_sw hT rfl (Or.inl rfl) (pc' := 87) rfl ?_
    refine v_p hT rfl rfl ?_
    refine v_getr hT rfl rfl (by omega) rfl ?_
    refine v_geti hT rfl (by first | rfl | assumption) (by omega) ?_
    rw [a4.1]
    refine v_ret hT rfl (fun z => by cases z) rfl ⟨rfl, rfl⟩
  · subst e
    refine v_p hT rfl rfl ?_
    refine g_sw hT rfl (Or.inl rfl) (pc' := 95) rfl ?_
    refine v_p hT rfl rfl ?_
    refine v_getr hT rfl rfl (by omega) rfl ?_
    refine v_geti hT rfl (by first | rfl | assumption) (by omega) ?_
    rw [a3.1]
    refine v_ret hT rfl (fun z => by cases z) rfl ⟨rfl, rfl⟩
theorem C_told {S : ST} (hV : VS S) (w : Int32) : CSp n_X6_told [.int w] S (oTold S w) := by
  have hT : mT n_X6_told = tb_X6_told := rfl
  intro n kf f hR
  unfold oTold
  by_cases hc : nI 0 ≤ w ∧ w ≤ nI 9
  · obtain ⟨k, k1, k2⟩ := int_04 (by omega) hc
    rw [decide_eq_true hc]
    subst k2
    simp only [cond_true]
    rw [nI_tn (by omega)]
    exact ⟨kf, f, c_told hV k1 hR, hR, fun _ _ => rfl⟩
  · rw [decide_eq_false hc]
    obtain ⟨f2, q1, q2, q3⟩ := s_refu (n := n) (j := 0) (by omega) hV hR
    refine ⟨kf, f2, ?_, q2, q3⟩
    refine v_p hT rfl rfl ?_
    refine g_sw hT rfl (Or.inl rfl) (told_sw hc) ?_
    refine v_p hT rfl rfl ?_
    refine v_call hT [.int (mI 2)] rfl rfl (by first | rfl | assumption) (by omega) rfl rfl (Nat.le_of_ble_eq_true rfl) (Nat.le_of_ble_eq_true rfl) (q1) ?_
    refine v_ret hT rfl (fun z => by cases z) rfl ⟨rfl, rfl⟩
