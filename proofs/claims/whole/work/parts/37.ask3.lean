/-! THE CLASS: what is asked of counts, openings, ties, paragraphs. -/
def CS0 (m : Nat) (as : List Value) (S : ST) (a : Int32) : Prop := ∀ (n : Nat) (kf : Nat → Nat) (f : Nat → Nat → Int32), RepC kf f S → ∃ f2, Run m 110 0 (ini m (.ref 0 :: as)) [] (HH n kf f) (Ret (some (.int a)) (HH n kf f2)) ∧ RepC kf f2 S ∧ ∀ c, 97 < c → f2 c = f c
noncomputable def ctA (B : BK) (w : Nat) : Int32 := if w < 2 then nI (bNp B w) else if w < 4 then nI (totF B (w - 2)) else if w = 4 then nI (bNt B) else if w = 5 then nI (endN B (bNt B) (bNt B) / 2) else if w = 6 then nI (keptF B) else if w = 7 then nI (wtF B (keptF B) (bNt B)) else if w = 8 then opI (lyP B) else coI (lyP B)
theorem c_count {S : ST} (hV : VS S) {k : Nat} (hk : k ≤ 9) : CS0 n_X6_count [.int (nI k)] S (ctA S.1 k) := by
  have hT : mT n_X6_count = tb_X6_count := rfl
  intro n kf f hR
  obtain ⟨f1, r1, hR1, hm, _, k1⟩ := s_measure (n := n) hV hR
  obtain ⟨f2, r2, hR2, hm2, hl2, k2⟩ := s_layOut (n := n) hV hR1
  have start : ∀ Φ, Run n_X6_count 110 22 [some (.ref 0), some (.int (nI k))] [.int (nI k)] (HH n kf f1) Φ → Run n_X6_count 110 0 (ini n_X6_count [.ref 0, .int (nI k)]) [] (HH n kf f) Φ := by
    intro Φ hΦ
    refine v_p hT rfl rfl ?_
    refine v_scall hT [.int (nI k), .int (nI 0), .int (nI 9)] rfl rfl rfl rfl (Nat.le_of_ble_eq_true rfl) (Nat.le_of_ble_eq_true rfl) (s_within (nI k) (nI 0) (nI 9)) ?_
    rw [decide_eq_true (show nI 0 ≤ nI k ∧ nI k ≤ nI 9 from ⟨(cj_le (a := 0) (b := k) (by omega) (by omega)).mpr (by omega), (cj_le (a := k) (b := 9) (by omega) (by omega)).mpr hk⟩)]
    refine g_if hT rfl (fun cq => ?_) (fun cq => ?_)
    · refine v_p hT rfl rfl ?_
      refine v_call hT [] rfl rfl (by first | rfl | assumption) (by omega) rfl rfl (Nat.le_of_ble_eq_true rfl) (Nat.le_of_ble_eq_true rfl) (r1) ?_
      refine v_p hT rfl rfl ?_
      exact hΦ
    · exact absurd (show ¬ (1 : Int32) = 0 by decide) cq
  rcases (show k = 0 ∨ k = 1 ∨ k = 2 ∨ k = 3 ∨ k = 4 ∨ k = 5 ∨ k = 6 ∨ k = 7 ∨ k = 8 ∨ k = 9 by omega) with e | e | e | e | e | e | e | e | e | e
  · subst e
    refine ⟨f1, start _ ?_, hR1, k1⟩
    refine g_sw hT rfl (Or.inl rfl) (pc' := 72) rfl ?_
    refine v_p hT rfl rfl ?_
    refine v_getr hT rfl rfl (by omega) rfl ?_
    refine v_getr hT rfl rfl (by omega) rfl ?_
    refine v_p hT rfl rfl ?_
    refine v_ald hT rfl (by first | assumption | rfl) (by omega) (by decide) (by omega) ?_
    rw [show f1 2 0 = nI (bNp S.1 0) from hR1.2.1.1 0 (by omega)]
    refine v_ret hT rfl (fun z => by cases z) rfl ⟨rfl, rfl⟩
  · subst e
    refine ⟨f1, start _ ?_, hR1, k1⟩
    refine g_sw hT rfl (Or.inl rfl) (pc' := 72) rfl ?_
    refine v_p hT rfl rfl ?_
    refine v_getr hT rfl rfl (by omega) rfl ?_
    refine v_getr hT rfl rfl (by omega) rfl ?_
    refine v_p hT rfl rfl ?_
    refine v_ald hT rfl (by first | assumption | rfl) (by omega) (by decide) (by omega) ?_
    rw [show f1 2 1 = nI (bNp S.1 1) from hR1.2.1.1 1 (by omega)]
    refine v_ret hT rfl (fun z => by cases z) rfl ⟨rfl, rfl⟩
  · subst e
    refine ⟨f1, start _ ?_, hR1, k1⟩
    refine g_sw hT rfl (Or.inl rfl) (pc' := 82) rfl ?_
    refine v_p hT rfl rfl ?_
    refine v_getr hT rfl rfl (by omega) rfl ?_
    refine v_p hT rfl rfl ?_
    rw [pk_sub (by omega)]
    refine v_rld hT rfl rfl (Or.inr rfl) (by omega) (by omega) (show 2 - 2 < 2 by omega) (j := 81) rfl ?_
    refine v_geti hT rfl (by first | rfl | assumption) (by omega) ?_
    rw [hm.1.1]
    refine v_ret hT rfl (fun z => by cases z) rfl ⟨rfl, rfl⟩
  · subst e
    refine ⟨f1, start _ ?_, hR1, k1⟩
    refine g_sw hT rfl (Or.inl rfl) (pc' := 82) rfl ?_
    refine v_p hT rfl rfl ?_
    refine v_getr hT rfl rfl (by omega) rfl ?_
    refine v_p hT rfl rfl ?_
    rw [pk_sub (by omega)]
    refine v_rld hT rfl rfl (Or.inr rfl) (by omega) (by omega) (show 3 - 2 < 2 by omega) (j := 84) rfl ?_
    refine v_geti hT rfl (by first | rfl | assumption) (by omega) ?_
    rw [hm.2.1.1]
    refine v_ret hT rfl (fun z => by cases z) rfl ⟨rfl, rfl⟩
  · subst e
    refine ⟨f1, start _ ?_, hR1, k1⟩
    refine g_sw hT rfl (Or.inl rfl) (pc' := 94) rfl ?_
    refine v_p hT rfl rfl ?_
    refine v_getr hT rfl rfl (by omega) rfl ?_
    refine v_geti hT rfl (by first | rfl | assumption) (by omega) ?_
    rw [hR1.2.1.2.2.2.2.1]
    refine v_ret hT rfl (fun z => by cases z) rfl ⟨rfl, rfl⟩
  · subst e
    refine ⟨f1, start _ ?_, hR1, k1⟩
    refine g_sw hT rfl (Or.inl rfl) (pc' := 102) rfl ?_
    refine v_p hT rfl rfl ?_
    refine v_getr hT rfl rfl (by omega) rfl ?_
    refine v_geti hT rfl (by first | rfl | assumption) (by omega) ?_
    rw [hm.2.2.2.1]
    refine v_ret hT rfl (fun z => by cases z) rfl ⟨rfl, rfl⟩
  · subst e
    refine ⟨f1, start _ ?_, hR1, k1⟩
    refine g_sw hT rfl (Or.inl rfl) (pc' := 110) rfl ?_
    refine v_p hT rfl rfl ?_
    refine v_getr hT rfl rfl (by omega) rfl ?_
    refine v_geti hT rfl (by first | rfl | assumption) (by omega) ?_
    rw [hm.2.2.2.2.1]
    refine v_ret hT rfl (fun z => by cases z) rfl ⟨rfl, rfl⟩
  · subst e
    refine ⟨f1, start _ ?_, hR1, k1⟩
    refine g_sw hT rfl (Or.inl rfl) (pc' := 118) rfl ?_
    refine v_p hT rfl rfl ?_
    refine v_getr hT rfl rfl (by omega) rfl ?_
    refine v_geti hT rfl (by first | rfl | assumption) (by omega) ?_
    rw [hm.2.2.2.2.2]
    refine v_ret hT rfl (fun z => by cases z) rfl ⟨rfl, rfl⟩
  · subst e
    refine ⟨f2, start _ ?_, hR2, fun c hc => by rw [k2 c hc, k1 c hc]⟩
    refine g_sw hT rfl (Or.inl rfl) (pc' := 126) rfl ?_
    refine v_p hT rfl rfl ?_
    refine v_call hT [] rfl rfl (by first | rfl | assumption) (by omega) rfl rfl (Nat.le_of_ble_eq_true rfl) (Nat.le_of_ble_eq_true rfl) (r2) ?_
    refine v_geti hT rfl (by first | rfl | assumption) (by omega) ?_
    rw [hl2.2.1]
    refine v_ret hT rfl (fun z => by cases z) rfl ⟨rfl, rfl⟩
  · subst e
    refine ⟨f2, start _ ?_, hR2, fun c hc => by rw [k2 c hc, k1 c hc]⟩
    refine g_sw hT rfl (Or.inl rfl) (pc' := 134) rfl ?_
    refine v_p hT rfl rfl ?_
    refine v_call hT [] rfl rfl (by first | rfl | assumption) (by omega) rfl rfl (Nat.le_of_ble_eq_true rfl) (Nat.le_of_ble_eq_true rfl) (r2) ?_
    refine v_geti hT rfl (by first | rfl | assumption) (by omega) ?_
    rw [hl2.2.2.1]
    refine v_ret hT rfl (fun z => by cases z) rfl ⟨rfl, rfl⟩
noncomputable def oCount (S : ST) (w : Int32) : Int32 × ST := bif decide (nI 0 ≤ w ∧ w ≤ nI 9) then (ctA S.1 w.toNatClampNeg, S) else (mI 2, refu S 0)
theorem C_count {S : ST} (hV : VS S) (w : Int32) : CSp n_X6_count [.int w] S (oCount S w) := by
  have hT : mT n_X6_count = tb_X6_count := rfl
  intro n kf f hR
  unfold oCount
  by_cases hc : nI 0 ≤ w ∧ w ≤ nI 9
  · obtain ⟨k, k1, k2⟩ := int_04 (by omega) hc
    rw [decide_eq_true hc]
    subst k2
    simp only [cond_true]
    rw [nI_tn (by omega)]
    obtain ⟨f2, h1, h2, h3⟩ := c_count hV k1 n kf f hR
    exact ⟨kf, f2, h1, h2, h3⟩
  · rw [decide_eq_false hc]
    obtain ⟨f2, q1, q2, q3⟩ := s_refu (n := n) (j := 0) (by omega) hV hR
    refine ⟨kf, f2, ?_, q2, q3⟩
    refine v_p hT rfl rfl ?_
    refine v_scall hT [.int w, .int (nI 0), .int (nI 9)] rfl rfl rfl rfl (Nat.le_of_ble_eq_true rfl) (Nat.le_of_ble_eq_true rfl) (s_within w (nI 0) (nI 9)) ?_
    rw [decide_eq_false hc]
    refine g_if hT rfl (fun cq => ?_) (fun cq => ?_)
    · exact absurd rfl cq
    · refine v_p hT rfl rfl ?_
      refine v_call hT [.int (mI 2)] rfl rfl (by first | rfl | assumption) (by omega) rfl rfl (Nat.le_of_ble_eq_true rfl) (Nat.le_of_ble_eq_true rfl) (q1) ?_
      refine v_ret hT rfl (fun z => by cases z) rfl ⟨rfl, rfl⟩
noncomputable def opA (P : LYP) (k w : Nat) : Int32 := if w = 0 then nI (posF P k).1 else if w = 1 then nI ((posF P (k + 1)).1 - (posF P k).1) else if w = 2 then nI (posF P k).2 else if w = 3 then nI ((posF P (k + 1)).2 - (posF P k).2) else ocF P k
noncomputable def opB (P : LYP) (k w : Nat) : Int32 := if k < opN P then opA P k w else mI 1
theorem op_cmp {P : LYP} (hP : PBd P) {k : Nat} (hk : k < 2 ^ 31) : nI k < opI P ↔ k < opN P := by
  have h120 := opN_le hP
  by_cases hn : rkF P 0 0 = nvr
  · have e0 : opN P = 0 := by unfold opN; rw [decide_eq_true hn]; rfl
    have e1 : opI P = mI 1 := by unfold opI; rw [decide_eq_true hn]; rfl
    rw [e0, e1]
    refine ⟨fun h => ?_, fun h => absurd h (Nat.not_lt_zero _)⟩
    have h2 : nI 0 ≤ nI k := (cj_ge (a := k) (b := 0) (by omega) (by omega)).mpr (by omega)
    exact absurd (Int32.lt_of_le_of_lt h2 h) (by decide)
  · have e0 : opN P = rkF P 0 0 % 128 := by unfold opN; rw [decide_eq_false hn]; rfl
    have e1 : opI P = nI (opN P) := by rw [e0]; unfold opI; rw [decide_eq_false hn]; rfl
    rw [e1]
    exact cj_lt (by omega) (by omega)
theorem c_opening {S : ST} (hV : VS S) {k w : Nat} (hk : k < 2 ^ 31) (hw : w ≤ 4) : CS0 n_X6_opening [.int (nI k), .int (nI w)] S (opB (lyP S.1) k w) := by
  have hT : mT n_X6_opening = tb_X6_opening := rfl
  intro n kf f hR
  have hP := lyP_bd hV.1
  obtain ⟨f2, r2, hR2, hm2, hl2, k2⟩ := s_layOut (n := n) hV hR
  have h120 := opN_le hP
  refine ⟨f2, ?_, hR2, k2⟩
  have start : ∀ Φ, Run n_X6_opening 110 33 [some (.ref 0), some (.int (nI k)), some (.int (nI w))] [.int (opI (lyP S.1)), .int (nI k)] (HH n kf f2) Φ → Run n_X6_opening 110 0 (ini n_X6_opening [.ref 0, .int (nI k), .int (nI w)]) [] (HH n kf f) Φ := by
    intro Φ hΦ
    refine v_p hT rfl rfl ?_
    refine g_if hT rfl (fun cq => ?_) (fun cq => ?_)
    · exact absurd cq (nI_pos hk)
    · refine v_p hT rfl rfl ?_
      refine v_scall hT [.int (nI w), .int (nI 0), .int (nI 4)] rfl rfl rfl rfl (Nat.le_of_ble_eq_true rfl) (Nat.le_of_ble_eq_true rfl) (s_within (nI w) (nI 0) (nI 4)) ?_
      rw [decide_eq_true (show nI 0 ≤ nI w ∧ nI w ≤ nI 4 from ⟨(cj_le (a := 0) (b := w) (by omega) (by omega)).mpr (by omega), (cj_le (a := w) (b := 4) (by omega) (by omega)).mpr hw⟩)]
      refine g_if hT rfl (fun cq2 => ?_) (fun cq2 => ?_)
      · refine v_p hT rfl rfl ?_
        refine v_call hT [] rfl rfl (by first | rfl | assumption) (by omega) rfl rfl (Nat.le_of_ble_eq_true rfl) (Nat.le_of_ble_eq_true rfl) (r2) ?_
        refine v_p hT rfl rfl ?_
        refine v_getr hT rfl rfl (by omega) rfl ?_
        refine v_geti hT rfl (by first | rfl | assumption) (by omega) ?_
        rw [hl2.2.1]
        exact hΦ
      · exact absurd (show ¬ (1 : Int32) = 0 by decide) cq2
  refine start _ ?_
  unfold opB
  refine g_cmp hT rfl (fun cq => ?_) (fun cq => ?_)
  · have cq := (op_cmp hP hk).mp cq
    rw [if_pos cq]
    have hv := hl2.2.2.2 k (by omega)
    have hv1 := hl2.2.2.2 (k + 1) (by omega)
    obtain ⟨b1, b2, b3, b4, _⟩ := pos_1 hP cq
    unfold opA
    rcases (show w = 0 ∨ w = 1 ∨ w = 2 ∨ w = 3 ∨ w = 4 by omega) with e | e | e | e | e
    · subst e
      refine v_p hT rfl rfl ?_
      refine g_sw hT rfl (Or.inl rfl) (pc' := 68) rfl ?_
      refine v_p hT rfl rfl ?_
      refine v_getr hT rfl rfl (by omega) rfl ?_
      refine v_getr hT rfl rfl (by omega) rfl ?_
      refine v_p hT rfl rfl ?_
      refine v_ald hT rfl (by first | assumption | rfl) (by omega) (by decide) (by omega) ?_
      rw [hv.1]
      refine v_ret hT rfl (fun z => by cases z) rfl ⟨rfl, rfl⟩
    · subst e
      refine v_p hT rfl rfl ?_
      refine g_sw hT rfl (Or.inl rfl) (pc' := 78) rfl ?_
      refine v_p hT rfl rfl ?_
      refine v_getr hT rfl rfl (by omega) rfl ?_
      refine v_p hT rfl rfl ?_
      refine v_call hT [.int (nI k)] rfl rfl (by first | rfl | assumption) (by omega) rfl rfl (Nat.le_of_ble_eq_true rfl) (Nat.le_of_ble_eq_true rfl) (s_taken0 (by omega) hv.1 hv1.1 b1) ?_
      refine v_ret hT rfl (fun z => by cases z) rfl ⟨rfl, rfl⟩
    · subst e
      refine v_p hT rfl rfl ?_
      refine g_sw hT rfl (Or.inl rfl) (pc' := 87) rfl ?_
      refine v_p hT rfl rfl ?_
      refine v_getr hT rfl rfl (by omega) rfl ?_
      refine v_getr hT rfl rfl (by omega) rfl ?_
      refine v_p hT rfl rfl ?_
      refine v_ald hT rfl (by first | assumption | rfl) (by omega) (by decide) (by omega) ?_
      rw [hv.2]
      refine v_ret hT rfl (fun z => by cases z) rfl ⟨rfl, rfl⟩
    · subst e
      refine v_p hT rfl rfl ?_
      refine g_sw hT rfl (Or.inl rfl) (pc' := 97) rfl ?_
      refine v_p hT rfl rfl ?_
      refine v_getr hT rfl rfl (by omega) rfl ?_
      refine v_p hT rfl rfl ?_
      refine v_call hT [.int (nI k)] rfl rfl (by first | rfl | assumption) (by omega) rfl rfl (Nat.le_of_ble_eq_true rfl) (Nat.le_of_ble_eq_true rfl) (s_taken1 (by omega) hv.2 hv1.2 b2) ?_
      refine v_ret hT rfl (fun z => by cases z) rfl ⟨rfl, rfl⟩
    · subst e
      refine v_p hT rfl rfl ?_
      refine g_sw hT rfl (Or.inl rfl) (pc' := 106) rfl ?_
      refine v_p hT rfl rfl ?_
      refine v_getr hT rfl rfl (by omega) rfl ?_
      refine v_p hT rfl rfl ?_
      refine v_call hT [.int (nI k)] rfl rfl (by first | rfl | assumption) (by omega) rfl rfl (Nat.le_of_ble_eq_true rfl) (Nat.le_of_ble_eq_true rfl) (s_costOf hV.1 hl2 cq) ?_
      refine v_ret hT rfl (fun z => by cases z) rfl ⟨rfl, rfl⟩
  · have cq := (not_congr (op_cmp hP hk)).mp cq
    rw [if_neg cq]
    refine v_p hT rfl rfl ?_
    refine v_ret hT rfl (fun z => by cases z) rfl ⟨rfl, rfl⟩
noncomputable def oOpen (S : ST) (k w : Int32) : Int32 × ST := bif decide (¬ k < 0) && decide (nI 0 ≤ w ∧ w ≤ nI 4) then (opB (lyP S.1) k.toNatClampNeg w.toNatClampNeg, S) else (mI 2, refu S 0)
theorem C_opening {S : ST} (hV : VS S) (k w : Int32) : CSp n_X6_opening [.int k, .int w] S (oOpen S k w) := by
  have hT : mT n_X6_opening = tb_X6_opening := rfl
  intro n kf f hR
  unfold oOpen
  obtain ⟨fr, q1, q2, q3⟩ := s_refu (n := n) (j := 0) (by omega) hV hR
  have hbad : Run n_X6_opening 110 13 [some (.ref 0), some (.int k), some (.int w)] [] (HH n kf f) (Ret (some (.int (mI 2))) (HH n kf fr)) := by
    refine v_p hT rfl rfl ?_
    refine v_call hT [.int (mI 2)] rfl rfl (by first | rfl | assumption) (by omega) rfl rfl (Nat.le_of_ble_eq_true rfl) (Nat.le_of_ble_eq_true rfl) (q1) ?_
    refine v_ret hT rfl (fun z => by cases z) rfl ⟨rfl, rfl⟩
  by_cases c1 : k < 0
  · rw [decide_eq_false (fun z => z c1), Bool.false_and]
    refine ⟨kf, fr, ?_, q2, q3⟩
    refine v_p hT rfl rfl ?_
    refine g_if hT rfl (fun cq => ?_) (fun cq => ?_)
    · exact hbad
    · exact absurd c1 cq
  · rw [decide_eq_true c1]
    by_cases c2 : nI 0 ≤ w ∧ w ≤ nI 4
    · obtain ⟨K, K1, K2⟩ := nI_of c1
      obtain ⟨W, W1, W2⟩ := int_04 (by omega) c2
      rw [decide_eq_true c2]
      subst K2; subst W2
      simp only [Bool.true_and, cond_true]
      rw [nI_tn K1, nI_tn (by omega)]
      obtain ⟨f2, h1, h2, h3⟩ := c_opening hV K1 W1 n kf f hR
      exact ⟨kf, f2, h1, h2, h3⟩
    · rw [decide_eq_false c2, Bool.and_false]
      refine ⟨kf, fr, ?_, q2, q3⟩
      refine v_p hT rfl rfl ?_
      refine g_if hT rfl (fun cq => ?_) (fun cq => ?_)
      · exact absurd cq c1
      · refine v_p hT rfl rfl ?_
        refine v_scall hT [.int w, .int (nI 0), .int (nI 4)] rfl rfl rfl rfl (Nat.le_of_ble_eq_true rfl) (Nat.le_of_ble_eq_true rfl) (s_within w (nI 0) (nI 4)) ?_
        rw [decide_eq_false c2]
        refine g_if hT rfl (fun cq2 => ?_) (fun cq2 => ?_)
        · exact absurd rfl cq2
        · exact hbad
noncomputable def tiA (B : BK) (i w : Nat) : Int32 := if w < 3 then nI (bTi B w i) else if w = 3 then nI (keptF B / 2 ^ i % 2) else nI (rowN B i (bNt B))
theorem c_tie {S : ST} (hV : VS S) {i w : Nat} (hi : i < bNt S.1) (hw : w ≤ 4) : CS0 n_X6_tie [.int (nI i), .int (nI w)] S (tiA S.1 i w) := by
  have hT : mT n_X6_tie = tb_X6_tie := rfl
  intro n kf f hR
  obtain ⟨f1, r1, hR1, hm, _, k1⟩ := s_measure (n := n) hV hR
  have h10 := hV.1.1.2.2.2.2.1
  have hkl := kept_lt h10
  obtain ⟨t0, t1, t2⟩ := hR1.2.1.2.2.2.2.2 i hi
  refine ⟨f1, ?_, hR1, k1⟩
  have start : ∀ Φ, Run n_X6_tie 110 32 [some (.ref 0), some (.int (nI i)), some (.int (nI w))] [.int (nI w)] (HH n kf f1) Φ → Run n_X6_tie 110 0 (ini n_X6_tie [.ref 0, .int (nI i), .int (nI w)]) [] (HH n kf f) Φ := by
    intro Φ hΦ
    refine v_p hT rfl rfl ?_
    refine v_getr hT rfl rfl (by omega) rfl ?_
    refine v_p hT rfl rfl ?_
    refine v_call hT [.int (nI i)] rfl rfl (by first | rfl | assumption) (by omega) rfl rfl (Nat.le_of_ble_eq_true rfl) (Nat.le_of_ble_eq_true rfl) (s_hasTie (Or.inl rfl) hR.2.1.2.2.2.2.1 h10 (nI i)) ?_
    rw [pB_t ⟨i, hi, rfl⟩]
    refine g_if hT rfl (fun cq => ?_) (fun cq => ?_)
    · cases bf_of cq
    · refine v_p hT rfl rfl ?_
      refine v_scall hT [.int (nI w), .int (nI 0), .int (nI 4)] rfl rfl rfl rfl (Nat.le_of_ble_eq_true rfl) (Nat.le_of_ble_eq_true rfl) (s_within (nI w) (nI 0) (nI 4)) ?_
      rw [decide_eq_true (show nI 0 ≤ nI w ∧ nI w ≤ nI 4 from ⟨(cj_le (a := 0) (b := w) (by omega) (by omega)).mpr (by omega), (cj_le (a := w) (b := 4) (by omega) (by omega)).mpr hw⟩)]
      refine g_if hT rfl (fun cq2 => ?_) (fun cq2 => ?_)
      · refine v_p hT rfl rfl ?_
        refine v_call hT [] rfl rfl (by first | rfl | assumption) (by omega) rfl rfl (Nat.le_of_ble_eq_true rfl) (Nat.le_of_ble_eq_true rfl) (r1) ?_
        refine v_p hT rfl rfl ?_
        exact hΦ
      · exact absurd (show ¬ (1 : Int32) = 0 by decide) cq2
  refine start _ ?_
  unfold tiA
  rcases (show w = 0 ∨ w = 1 ∨ w = 2 ∨ w = 3 ∨ w = 4 by omega) with e | e | e | e | e
  · subst e
    refine g_sw hT rfl (Or.inl rfl) (pc' := 64) rfl ?_
    refine v_p hT rfl rfl ?_
    refine v_getr hT rfl rfl (by omega) rfl ?_
    refine v_getr hT rfl rfl (by omega) rfl ?_
    refine v_p hT rfl rfl ?_
    refine v_ald hT rfl (by first | assumption | rfl) (by omega) (by decide) (by omega) ?_
    rw [show f1 7 i = nI (bTi S.1 0 i) from t0]
    refine v_ret hT rfl (fun z => by cases z) rfl ⟨rfl, rfl⟩
  · subst e
    refine g_sw hT rfl (Or.inl rfl) (pc' := 74) rfl ?_
    refine v_p hT rfl rfl ?_
    refine v_getr hT rfl rfl (by omega) rfl ?_
    refine v_getr hT rfl rfl (by omega) rfl ?_
    refine v_p hT rfl rfl ?_
    refine v_ald hT rfl (by first | assumption | rfl) (by omega) (by decide) (by omega) ?_
    rw [show f1 8 i = nI (bTi S.1 1 i) from t1]
    refine v_ret hT rfl (fun z => by cases z) rfl ⟨rfl, rfl⟩
  · subst e
    refine g_sw hT rfl (Or.inl rfl) (pc' := 84) rfl ?_
    refine v_p hT rfl rfl ?_
    refine v_getr hT rfl rfl (by omega) rfl ?_
    refine v_getr hT rfl rfl (by omega) rfl ?_
    refine v_p hT rfl rfl ?_
    refine v_ald hT rfl (by first | assumption | rfl) (by omega) (by decide) (by omega) ?_
    rw [show f1 9 i = nI (bTi S.1 2 i) from t2]
    refine v_ret hT rfl (fun z => by cases z) rfl ⟨rfl, rfl⟩
  · subst e
    refine g_sw hT rfl (Or.inl rfl) (pc' := 94) rfl ?_
    refine v_p hT rfl rfl ?_
    refine v_getr hT rfl rfl (by omega) rfl ?_
    refine v_geti hT rfl (by first | rfl | assumption) (by omega) ?_
    rw [hm.2.2.2.2.1]
    refine v_p hT rfl rfl ?_
    rw [bit_at (by omega) (by omega)]
    refine v_ret hT rfl (fun z => by cases z) rfl ⟨rfl, rfl⟩
  · subst e
    refine g_sw hT rfl (Or.inl rfl) (pc' := 106) rfl ?_
    refine v_p hT rfl rfl ?_
    refine v_getr hT rfl rfl (by omega) rfl ?_
    refine v_getr hT rfl rfl (by omega) rfl ?_
    refine v_p hT rfl rfl ?_
    refine v_ald hT rfl (by first | assumption | rfl) (by omega) (by decide) (by omega) ?_
    rw [hm.2.2.1 i hi]
    have hcl := crM_lt S.1 i (bNt S.1)
    have hc10 : crM S.1 i (bNt S.1) < 1024 := Nat.lt_of_lt_of_le hcl (Nat.pow_le_pow_right (n := 2) (by omega) h10)
    have hcn : cnN (crM S.1 i (bNt S.1)) 10 = rowN S.1 i (bNt S.1) := by
      have h5 := cnN_ext hcl (10 - bNt S.1)
      rw [show bNt S.1 + (10 - bNt S.1) = 10 by omega] at h5
      rw [h5]
      exact crM_cn S.1 i (bNt S.1) (bNt S.1) (Nat.le_refl _)
    refine v_scall hT [.int (nI (crM S.1 i (bNt S.1)))] rfl rfl rfl rfl (Nat.le_of_ble_eq_true rfl) (Nat.le_of_ble_eq_true rfl) (s_bitCount (nI (crM S.1 i (bNt S.1)))) ?_
    rw [bcI_cn _ hc10, hcn]
    refine v_ret hT rfl (fun z => by cases z) rfl ⟨rfl, rfl⟩
noncomputable def oTie (S : ST) (i w : Int32) : Int32 × ST := bif pB (∃ k, k < bNt S.1 ∧ i = nI k) && decide (nI 0 ≤ w ∧ w ≤ nI 4) then (tiA S.1 i.toNatClampNeg w.toNatClampNeg, S) else (mI 2, refu S 0)
theorem C_tie {S : ST} (hV : VS S) (i w : Int32) : CSp n_X6_tie [.int i, .int w] S (oTie S i w) := by
  have hT : mT n_X6_tie = tb_X6_tie := rfl
  intro n kf f hR
  have h10 := hV.1.1.2.2.2.2.1
  unfold oTie
  obtain ⟨fr, q1, q2, q3⟩ := s_refu (n := n) (j := 0) (by omega) hV hR
  have hbad : Run n_X6_tie 110 20 [some (.ref 0), some (.int i), some (.int w)] [] (HH n kf f) (Ret (some (.int (mI 2))) (HH n kf fr)) := by
    refine v_p hT rfl rfl ?_
    refine v_call hT [.int (mI 2)] rfl rfl (by first | rfl | assumption) (by omega) rfl rfl (Nat.le_of_ble_eq_true rfl) (Nat.le_of_ble_eq_true rfl) (q1) ?_
    refine v_ret hT rfl (fun z => by cases z) rfl ⟨rfl, rfl⟩
  by_cases c1 : ∃ k, k < bNt S.1 ∧ i = nI k
  · by_cases c2 : nI 0 ≤ w ∧ w ≤ nI 4
    · obtain ⟨K, K1, K2⟩ := c1
      obtain ⟨W, W1, W2⟩ := int_04 (by omega) c2
      rw [pB_t ⟨K, K1, K2⟩, decide_eq_true c2]
      subst K2; subst W2
      simp only [Bool.true_and, cond_true]
      rw [nI_tn (by omega), nI_tn (by omega)]
      obtain ⟨f2, h1, h2, h3⟩ := c_tie hV K1 W1 n kf f hR
      exact ⟨kf, f2, h1, h2, h3⟩
    · rw [decide_eq_false c2, Bool.and_false]
      refine ⟨kf, fr, ?_, q2, q3⟩
      refine v_p hT rfl rfl ?_
      refine v_getr hT rfl rfl (by omega) rfl ?_
      refine v_p hT rfl rfl ?_
      refine v_call hT [.int i] rfl rfl (by first | rfl | assumption) (by omega) rfl rfl (Nat.le_of_ble_eq_true rfl) (Nat.le_of_ble_eq_true rfl) (s_hasTie (Or.inl rfl) hR.2.1.2.2.2.2.1 h10 i) ?_
      refine g_if hT rfl (fun cq => ?_) (fun cq => ?_)
      · exact hbad
      · refine v_p hT rfl rfl ?_
        refine v_scall hT [.int w, .int (nI 0), .int (nI 4)] rfl rfl rfl rfl (Nat.le_of_ble_eq_true rfl) (Nat.le_of_ble_eq_true rfl) (s_within w (nI 0) (nI 4)) ?_
        rw [decide_eq_false c2]
        refine g_if hT rfl (fun cq2 => ?_) (fun cq2 => ?_)
        · exact absurd rfl cq2
        · exact hbad
  · rw [pB_f c1, Bool.false_and]
    refine ⟨kf, fr, ?_, q2, q3⟩
    refine v_p hT rfl rfl ?_
    refine v_getr hT rfl rfl (by omega) rfl ?_
    refine v_p hT rfl rfl ?_
    refine v_call hT [.int i] rfl rfl (by first | rfl | assumption) (by omega) rfl rfl (Nat.le_of_ble_eq_true rfl) (Nat.le_of_ble_eq_true rfl) (s_hasTie (Or.inl rfl) hR.2.1.2.2.2.2.1 h10 i) ?_
    rw [pB_f c1]
    refine g_if hT rfl (fun cq => ?_) (fun cq => ?_)
    · exact hbad
    · exact absurd rfl cq
noncomputable def ofA (B : BK) (s p w : Nat) : Int32 := if w = 0 then nI (bNw B s p) else if w = 1 then nI (linF B s p) else if w = 2 then nI (fstF B s p) else if w = 3 then opW (lyP B) s (fstF B s p) else opW (lyP B) s (fstF B s (p + 1) - 1)
theorem c_of {S : ST} (hV : VS S) {s p w : Nat} (hs : s < 2) (hp : p < bNp S.1 s) (hw : w ≤ 4) : CS0 n_X6_of [.int (nI s), .int (nI p), .int (nI w)] S (ofA S.1 s p w) := by
  have hT : mT n_X6_of = tb_X6_of := rfl
  intro n kf f hR
  obtain ⟨f1, r1, hR1, hm, _, k1⟩ := s_measure (n := n) hV hR
  obtain ⟨f2, r2, hR2, hm2, hl2, k2⟩ := s_layOut (n := n) hV hR1
  have hln := ms_ln hm hs
  have hln2 := ms_ln hm2 hs
  obtain ⟨hl1, hli⟩ := ln_at (m := n) (kf := kf) hs
  have hlk := ln_kd hli
  have hlr := ln_rr hli n kf
  have hn := hV.1.1.1 s hs
  have e0 := hln.2.1 p (by omega)
  have e1 := hln.2.1 (p + 1) (by omega)
  have y0 := hln2.2.1 p (by omega)
  have y1 := hln2.2.1 (p + 1) (by omega)
  have l0 := fstF_le hV.1.1 hs p (by omega)
  have l1 := fstF_le hV.1.1 hs (p + 1) (by omega)
  have l2 := linF_pos S.1 s p
  have l3 : fstF S.1 s (p + 1) = fstF S.1 s p + linF S.1 s p := rfl
  have start : ∀ Φ, Run n_X6_of 110 41 [some (.ref 0), some (.int (nI s)), some (.int (nI p)), some (.int (nI w)), some (.ref (81 + 3 * s))] [.int (nI w)] (HH n kf f1) Φ → Run n_X6_of 110 0 (ini n_X6_of [.ref 0, .int (nI s), .int (nI p), .int (nI w)]) [] (HH n kf f) Φ := by
    intro Φ hΦ
    refine v_p hT rfl rfl ?_
    refine v_getr hT rfl rfl (by omega) rfl ?_
    refine v_p hT rfl rfl ?_
    refine v_call hT [.int (nI s), .int (nI p)] rfl rfl (by first | rfl | assumption) (by omega) rfl rfl (Nat.le_of_ble_eq_true rfl) (Nat.le_of_ble_eq_true rfl) (s_hasParagraph (Or.inl rfl) hR.2.1 hV.1.1 (nI s) (nI p)) ?_
    rw [isPa_t hs hp]
    refine g_if hT rfl (fun cq => ?_) (fun cq => ?_)
    · cases bf_of cq
    · refine v_p hT rfl rfl ?_
      refine v_scall hT [.int (nI w), .int (nI 0), .int (nI 4)] rfl rfl rfl rfl (Nat.le_of_ble_eq_true rfl) (Nat.le_of_ble_eq_true rfl) (s_within (nI w) (nI 0) (nI 4)) ?_
      rw [decide_eq_true (show nI 0 ≤ nI w ∧ nI w ≤ nI 4 from ⟨(cj_le (a := 0) (b := w) (by omega) (by omega)).mpr (by omega), (cj_le (a := w) (b := 4) (by omega) (by omega)).mpr hw⟩)]
      refine g_if hT rfl (fun cq2 => ?_) (fun cq2 => ?_)
      · refine v_p hT rfl rfl ?_
        refine v_call hT [] rfl rfl (by first | rfl | assumption) (by omega) rfl rfl (Nat.le_of_ble_eq_true rfl) (Nat.le_of_ble_eq_true rfl) (r1) ?_
        refine v_p hT rfl rfl ?_
        refine v_getr hT rfl rfl (by omega) rfl ?_
        refine v_p hT rfl rfl ?_
        refine v_rld hT rfl rfl (Or.inr rfl) (by omega) (by omega) (show s < 2 by omega) hl1 ?_
        refine v_p hT rfl rfl ?_
        exact hΦ
      · exact absurd (show ¬ (1 : Int32) = 0 by decide) cq2
  unfold ofA
  rcases (show w = 0 ∨ w = 1 ∨ w = 2 ∨ w = 3 ∨ w = 4 by omega) with e | e | e | e | e
  · subst e
    refine ⟨f1, start _ ?_, hR1, k1⟩
    refine g_sw hT rfl (Or.inl rfl) (pc' := 72) rfl ?_
    refine v_p hT rfl rfl ?_
    refine v_getr hT rfl rfl (by omega) rfl ?_
    refine v_p hT rfl rfl ?_
    refine v_call hT [.int (nI s), .int (nI p)] rfl rfl (by first | rfl | assumption) (by omega) rfl rfl (Nat.le_of_ble_eq_true rfl) (Nat.le_of_ble_eq_true rfl) (s_wordsIn (Or.inl rfl) (by omega)) ?_
    rw [(hR1.2.1.2.1 s p hs hp).1]
    refine v_ret hT rfl (fun z => by cases z) rfl ⟨rfl, rfl⟩
  · subst e
    refine ⟨f1, start _ ?_, hR1, k1⟩
    refine g_sw hT rfl (Or.inl rfl) (pc' := 82) rfl ?_
    refine v_p hT rfl rfl ?_
    refine v_getr hT rfl hlk.1 (by omega) hlr.1 ?_
    refine v_p hT rfl rfl ?_
    rw [nI_add]
    refine v_ald hT rfl hlk.2.1 (by omega) (by decide) (by omega) ?_
    rw [e1]
    refine v_p hT rfl rfl ?_
    refine v_getr hT rfl hlk.1 (by omega) hlr.1 ?_
    refine v_p hT rfl rfl ?_
    refine v_ald hT rfl hlk.2.1 (by omega) (by decide) (by omega) ?_
    rw [e0]
    refine v_p hT rfl rfl ?_
    rw [pk_sub (by omega), l3, Nat.add_sub_cancel_left]
    refine v_ret hT rfl (fun z => by cases z) rfl ⟨rfl, rfl⟩
  · subst e
    refine ⟨f1, start _ ?_, hR1, k1⟩
    refine g_sw hT rfl (Or.inl rfl) (pc' := 100) rfl ?_
    refine v_p hT rfl rfl ?_
    refine v_getr hT rfl hlk.1 (by omega) hlr.1 ?_
    refine v_p hT rfl rfl ?_
    refine v_ald hT rfl hlk.2.1 (by omega) (by decide) (by omega) ?_
    rw [e0]
    refine v_ret hT rfl (fun z => by cases z) rfl ⟨rfl, rfl⟩
  · subst e
    refine ⟨f2, start _ ?_, hR2, fun c hc => by rw [k2 c hc, k1 c hc]⟩
    refine g_sw hT rfl (Or.inl rfl) (pc' := 108) rfl ?_
    refine v_p hT rfl rfl ?_
    refine v_call hT [] rfl rfl (by first | rfl | assumption) (by omega) rfl rfl (Nat.le_of_ble_eq_true rfl) (Nat.le_of_ble_eq_true rfl) (r2) ?_
    refine v_p hT rfl rfl ?_
    refine v_getr hT rfl hlk.1 (by omega) hlr.1 ?_
    refine v_p hT rfl rfl ?_
    refine v_ald hT rfl hlk.2.1 (by omega) (by decide) (by omega) ?_
    rw [y0]
    refine v_call hT [.int (nI s), .int (nI (fstF S.1 s p))] rfl rfl (by first | rfl | assumption) (by omega) rfl rfl (Nat.le_of_ble_eq_true rfl) (Nat.le_of_ble_eq_true rfl) (s_openingWith hV.1 hl2 hs (by omega)) ?_
    refine v_ret hT rfl (fun z => by cases z) rfl ⟨rfl, rfl⟩
  · subst e
    refine ⟨f2, start _ ?_, hR2, fun c hc => by rw [k2 c hc, k1 c hc]⟩
    refine g_sw hT rfl (Or.inl rfl) (pc' := 124) rfl ?_
    refine v_p hT rfl rfl ?_
    refine v_call hT [] rfl rfl (by first | rfl | assumption) (by omega) rfl rfl (Nat.le_of_ble_eq_true rfl) (Nat.le_of_ble_eq_true rfl) (r2) ?_
    refine v_p hT rfl rfl ?_
    refine v_getr hT rfl hlk.1 (by omega) hlr.1 ?_
    refine v_p hT rfl rfl ?_
    rw [nI_add]
    refine v_ald hT rfl hlk.2.1 (by omega) (by decide) (by omega) ?_
    rw [y1]
    refine v_p hT rfl rfl ?_
    rw [pk_sub (by omega)]
    refine v_call hT [.int (nI s), .int (nI (fstF S.1 s (p + 1) - 1))] rfl rfl (by first | rfl | assumption) (by omega) rfl rfl (Nat.le_of_ble_eq_true rfl) (Nat.le_of_ble_eq_true rfl) (s_openingWith hV.1 hl2 hs (by omega)) ?_
    refine v_ret hT rfl (fun z => by cases z) rfl ⟨rfl, rfl⟩
noncomputable def oOf (S : ST) (s p w : Int32) : Int32 × ST := bif isPa S.1 s p && decide (nI 0 ≤ w ∧ w ≤ nI 4) then (ofA S.1 s.toNatClampNeg p.toNatClampNeg w.toNatClampNeg, S) else (mI 2, refu S 0)
theorem C_of {S : ST} (hV : VS S) (s p w : Int32) : CSp n_X6_of [.int s, .int p, .int w] S (oOf S s p w) := by
  have hT : mT n_X6_of = tb_X6_of := rfl
  intro n kf f hR
  unfold oOf
  obtain ⟨fr, q1, q2, q3⟩ := s_refu (n := n) (j := 0) (by omega) hV hR
  have hbad : Run n_X6_of 110 21 [some (.ref 0), some (.int s), some (.int p), some (.int w), none] [] (HH n kf f) (Ret (some (.int (mI 2))) (HH n kf fr)) := by
    refine v_p hT rfl rfl ?_
    refine v_call hT [.int (mI 2)] rfl rfl (by first | rfl | assumption) (by omega) rfl rfl (Nat.le_of_ble_eq_true rfl) (Nat.le_of_ble_eq_true rfl) (q1) ?_
    refine v_ret hT rfl (fun z => by cases z) rfl ⟨rfl, rfl⟩
  cases c1 : isPa S.1 s p with
  | true =>
    by_cases c2 : nI 0 ≤ w ∧ w ≤ nI 4
    · obtain ⟨s2, p2, h1, h2, h3, h4⟩ := isPa_of c1
      obtain ⟨W, W1, W2⟩ := int_04 (by omega) c2
      have hn := hV.1.1.1 s2 h1
      rw [decide_eq_true c2]
      subst h3; subst h4; subst W2
      simp only [Bool.true_and, cond_true]
      rw [nI_tn (by omega), nI_tn (by omega), nI_tn (by omega)]
      obtain ⟨f2, g1, g2, g3⟩ := c_of hV h1 h2 W1 n kf f hR
      exact ⟨kf, f2, g1, g2, g3⟩
    · rw [decide_eq_false c2, Bool.and_false]
      refine ⟨kf, fr, ?_, q2, q3⟩
      refine v_p hT rfl rfl ?_
      refine v_getr hT rfl rfl (by omega) rfl ?_
      refine v_p hT rfl rfl ?_
      refine v_call hT [.int s, .int p] rfl rfl (by first | rfl | assumption) (by omega) rfl rfl (Nat.le_of_ble_eq_true rfl) (Nat.le_of_ble_eq_true rfl) (s_hasParagraph (Or.inl rfl) hR.2.1 hV.1.1 s p) ?_
      refine g_if hT rfl (fun cq => ?_) (fun cq => ?_)
      · exact hbad
      · refine v_p hT rfl rfl ?_
        refine v_scall hT [.int w, .int (nI 0), .int (nI 4)] rfl rfl rfl rfl (Nat.le_of_ble_eq_true rfl) (Nat.le_of_ble_eq_true rfl) (s_within w (nI 0) (nI 4)) ?_
        rw [decide_eq_false c2]
        refine g_if hT rfl (fun cq2 => ?_) (fun cq2 => ?_)
        · exact absurd rfl cq2
        · exact hbad
  | false =>
    rw [Bool.false_and]
    refine ⟨kf, fr, ?_, q2, q3⟩
    refine v_p hT rfl rfl ?_
    refine v_getr hT rfl rfl (by omega) rfl ?_
    refine v_p hT rfl rfl ?_
    refine v_call hT [.int s, .int p] rfl rfl (by first | rfl | assumption) (by omega) rfl rfl (Nat.le_of_ble_eq_true rfl) (Nat.le_of_ble_eq_true rfl) (s_hasParagraph (Or.inl rfl) hR.2.1 hV.1.1 s p) ?_
    rw [c1]
    refine g_if hT rfl (fun cq => ?_) (fun cq => ?_)
    · exact hbad
    · exact absurd rfl cq
