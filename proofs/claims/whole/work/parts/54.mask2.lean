/-! THE REFERENCE: what is asked, second half. -/
theorem M_crossing {S : ST} (hV : VS S) (k w : Int32) : MSp n_X7_crossing [.int k, .int w] S (oCross S k w) := by
  have hT : mT n_X7_crossing = tb_X7_crossing := rfl
  intro n kf f hR
  have h10 := hV.1.1.2.2.2.2.1
  have h7 : f 100 7 = nI (bNt S.1) := hR.1.2.2.2.1
  obtain ⟨fb, q1, q2, q3⟩ := m_bad2 (n := n) (kf := kf) hR
  have hbad : Run n_X7_crossing 110 13 [some (.ref 98), some (.int k), some (.int w), none, none, none, none] [] (HH n kf f) (Ret (some (.int (mI 2))) (HH n kf fb)) := by
    refine v_p hT rfl rfl ?_
    refine v_call hT [] rfl rfl (by first | rfl | assumption) (by omega) rfl rfl (Nat.le_of_ble_eq_true rfl) (Nat.le_of_ble_eq_true rfl) (q1) ?_
    refine v_ret hT rfl (fun z => by cases z) rfl ⟨rfl, rfl⟩
  unfold oCross
  by_cases c1 : k < 0
  · rw [decide_eq_false (fun z => z c1), Bool.false_and]
    refine ⟨fb, ?_, q2, q3⟩
    refine v_p hT rfl rfl ?_
    refine g_if hT rfl (fun cq => ?_) (fun cq => ?_)
    · exact hbad
    · exact absurd c1 cq
  · rw [decide_eq_true c1]
    by_cases c2 : nI 0 ≤ w ∧ w ≤ nI 1
    · obtain ⟨K, K1, K2⟩ := nI_of c1
      obtain ⟨W, W1, W2⟩ := int_04 (by omega) c2
      rw [decide_eq_true c2]
      subst K2; subst W2
      simp only [Bool.true_and, cond_true]
      rw [nI_tn K1, nI_tn (by omega)]
      refine ⟨f, ?_, hR, fun _ _ => rfl⟩
      have loop : ∀ d j, j + d = 10 * bNt S.1 → ∀ l, l < 2 ^ 31 → Run n_X7_crossing 110 35 [some (.ref 98), some (.int (nI K)), some (.int (nI W)), some (.int (nI l)), some (.int (nI j)), none, none] [.int (nI (10 * bNt S.1)), .int (nI j)] (HH n kf f) (Ret (some (.int (xF S.1 W d j l))) (HH n kf f)) := by
        intro d
        induction d with
        | zero =>
          intro j hj l hl
          refine g_cmp hT rfl (fun cq => ?_) (fun cq => ?_)
          · refine v_p hT rfl rfl ?_
            refine v_ret hT rfl (fun z => by cases z) rfl ⟨rfl, rfl⟩
          · exact absurd ((cj_ge (by omega) (by omega)).mpr (by omega)) cq
        | succ d ih =>
          intro j hj l hl
          show Run _ _ _ _ _ _ (Ret (some (.int (if xP S.1 j = true then (if l = 0 then (if W = 0 then nI (j / 10) else nI (j % 10)) else xF S.1 W d (j + 1) (l - 1)) else xF S.1 W d (j + 1) l))) _)
          have next : ∀ l2, l2 < 2 ^ 31 → ∀ z5 z6, Run n_X7_crossing 110 28 [some (.ref 98), some (.int (nI K)), some (.int (nI W)), some (.int (nI l2)), some (.int (nI j + nI 1)), some (.int z5), some (.int z6)] [.ref 98, .int (nI 10), .int (nI j + nI 1)] (HH n kf f) (Ret (some (.int (xF S.1 W d (j + 1) l2))) (HH n kf f)) := by
            intro l2 hl2 z5 z6
            refine v_getr hT rfl rfl (by omega) rfl ?_
            refine v_p hT rfl rfl ?_
            refine v_ald hT rfl (by first | assumption | rfl) (by omega) (by decide) (by omega) ?_
            rw [h7]
            refine v_p hT rfl rfl ?_
            rw [pk_mul]
            refine v_cv (ih (j + 1) (by omega) l2 hl2) ⟨rfl, rfl, rfl, rfl, ?_, trivial⟩ ?_ rfl
            · rw [nI_add]
            · rw [nI_add]
          have no : xP S.1 j = false → Run n_X7_crossing 110 101 [some (.ref 98), some (.int (nI K)), some (.int (nI W)), some (.int (nI l)), some (.int (nI j)), some (.int (nI (j / 10))), some (.int (nI (j % 10)))] [] (HH n kf f) (Ret (some (.int (if xP S.1 j = true then (if l = 0 then (if W = 0 then nI (j / 10) else nI (j % 10)) else xF S.1 W d (j + 1) (l - 1)) else xF S.1 W d (j + 1) l))) (HH n kf f)) := by
            intro e
            rw [if_neg (by rw [e]; exact Bool.false_ne_true)]
            refine v_p hT rfl rfl ?_
            exact next l hl _ _
          refine g_cmp hT rfl (fun cq => ?_) (fun cq => ?_)
          · exact absurd ((cj_ge (by omega) (by omega)).mp cq) (by omega)
          · refine v_p hT rfl rfl ?_
            refine g_divN hT rfl (by omega) (by omega) (by omega) ?_
            refine v_p hT rfl rfl ?_
            refine g_remN hT rfl (by omega) (by omega) (by omega) ?_
            refine v_p hT rfl rfl ?_
            refine g_cmp hT rfl (fun cq2 => ?_) (fun cq2 => ?_)
            · have cq2 := (cj_ge (by omega) (by omega)).mp cq2
              exact no (by unfold xP; rw [decide_eq_false (by omega)]; rfl)
            · have cq2 := (not_congr (cj_ge (by omega) (by omega))).mp cq2
              refine v_p hT rfl rfl ?_
              refine v_getr hT rfl rfl (by omega) rfl ?_
              refine v_p hT rfl rfl ?_
              refine v_ald hT rfl (by first | assumption | rfl) (by omega) (by decide) (by omega) ?_
              rw [h7]
              refine g_cmp hT rfl (fun cq3 => ?_) (fun cq3 => ?_)
              · have cq3 := (cj_ge (by omega) (by omega)).mp cq3
                exact no (by unfold xP; rw [decide_eq_false (by omega)]; rfl)
              · have cq3 := (not_congr (cj_ge (by omega) (by omega))).mp cq3
                have hx : xP S.1 j = crossB S.1 (j / 10) (j % 10) := by unfold xP; rw [decide_eq_true (by omega)]; rfl
                refine v_p hT rfl rfl ?_
                refine v_call hT [.int (nI (j / 10)), .int (nI (j % 10))] rfl rfl (by first | rfl | assumption) (by omega) rfl rfl (Nat.le_of_ble_eq_true rfl) (Nat.le_of_ble_eq_true rfl) (m_areCrossing hR.1 hV.1.1 (by omega) (by omega)) ?_
                refine g_if hT rfl (fun cq4 => ?_) (fun cq4 => ?_)
                · exact no (by rw [hx]; exact bf_of cq4)
                · rw [if_pos (by rw [hx]; exact bt_of cq4)]
                  refine v_p hT rfl rfl ?_
                  refine g_if hT rfl (fun cq5 => ?_) (fun cq5 => ?_)
                  · have cq5 := (cj_ne (a := l) (b := 0) (by omega) (by omega)).mp cq5
                    rw [if_neg cq5]
                    refine v_p hT rfl rfl ?_
                    rw [show nI l + mI 1 = nI (l - 1) by rw [prI_add]; cases l with
                      | zero => exact absurd rfl cq5
                      | succ q => rfl]
                    exact next (l - 1) (by omega) _ _
                  · have cq5 := Classical.byContradiction (fun z => cq5 ((cj_ne (a := l) (b := 0) (by omega) (by omega)).mpr z))
                    rw [if_pos cq5]
                    refine v_p hT rfl rfl ?_
                    refine g_if hT rfl (fun cq6 => ?_) (fun cq6 => ?_)
                    · have cq6 := (cj_ne (a := W) (b := 0) (by omega) (by omega)).mp cq6
                      rw [if_neg cq6]
                      refine v_p hT rfl rfl ?_
                      refine v_ret hT rfl (fun z => by cases z) rfl ⟨rfl, rfl⟩
                    · have cq6 := Classical.byContradiction (fun z => cq6 ((cj_ne (a := W) (b := 0) (by omega) (by omega)).mpr z))
                      rw [if_pos cq6]
                      refine v_p hT rfl rfl ?_
                      refine v_ret hT rfl (fun z => by cases z) rfl ⟨rfl, rfl⟩
      refine v_p hT rfl rfl ?_
      refine g_if hT rfl (fun cq => ?_) (fun cq => ?_)
      · exact absurd cq (nI_pos K1)
      · refine v_p hT rfl rfl ?_
        refine v_scall hT [.int (nI W), .int (nI 0), .int (nI 1)] rfl rfl rfl rfl (Nat.le_of_ble_eq_true rfl) (Nat.le_of_ble_eq_true rfl) (m_in _ _ _) ?_
        rw [decide_eq_true c2]
        refine g_if hT rfl (fun cq2 => ?_) (fun cq2 => ?_)
        · refine v_p hT rfl rfl ?_
          refine v_getr hT rfl rfl (by omega) rfl ?_
          refine v_p hT rfl rfl ?_
          refine v_ald hT rfl (by first | assumption | rfl) (by omega) (by decide) (by omega) ?_
          rw [h7]
          refine v_p hT rfl rfl ?_
          rw [pk_mul]
          exact loop (10 * bNt S.1) 0 (by omega) K K1
        · exact absurd (show ¬ (1 : Int32) = 0 by decide) cq2
    · rw [decide_eq_false c2, Bool.and_false]
      refine ⟨fb, ?_, q2, q3⟩
      refine v_p hT rfl rfl ?_
      refine g_if hT rfl (fun cq => ?_) (fun cq => ?_)
      · exact absurd cq c1
      · refine v_p hT rfl rfl ?_
        refine v_scall hT [.int w, .int (nI 0), .int (nI 1)] rfl rfl rfl rfl (Nat.le_of_ble_eq_true rfl) (Nat.le_of_ble_eq_true rfl) (m_in _ _ _) ?_
        rw [decide_eq_false c2]
        refine g_if hT rfl (fun cq2 => ?_) (fun cq2 => ?_)
        · exact absurd rfl cq2
        · exact hbad
theorem M_lawful {S : ST} (hV : VS S) (s b : Int32) : MSp n_X7_lawful [.int s, .int b] S (oLaw S s b) := by
  have hT : mT n_X7_lawful = tb_X7_lawful := rfl
  intro n kf f hR
  obtain ⟨fb, q1, q2, q3⟩ := m_bad2 (n := n) (kf := kf) hR
  have hbad : Run n_X7_lawful 110 22 [some (.ref 98), some (.int s), some (.int b)] [] (HH n kf f) (Ret (some (.int (mI 2))) (HH n kf fb)) := by
    refine v_p hT rfl rfl ?_
    refine v_call hT [] rfl rfl (by first | rfl | assumption) (by omega) rfl rfl (Nat.le_of_ble_eq_true rfl) (Nat.le_of_ble_eq_true rfl) (q1) ?_
    refine v_ret hT rfl (fun z => by cases z) rfl ⟨rfl, rfl⟩
  unfold oLaw
  by_cases c1 : (0 : Int32) ≤ s ∧ s ≤ 1
  · have c1' : nI 0 ≤ s ∧ s ≤ nI 1 := c1
    rw [decide_eq_true c1]
    obtain ⟨Z, Z0, Z2⟩ := int_04 (by omega) c1'
    have Z1 : Z < 2 := by omega
    have h60 := hV.1.2 Z Z1
    subst Z2
    rw [nI_tn (by omega), Bool.true_and]
    have start : ∀ Φ, Run n_X7_lawful 110 19 [some (.ref 98), some (.int (nI Z)), some (.int b)] [.int (bI (decide (nI 0 ≤ b ∧ b ≤ nI (totF S.1 Z))))] (HH n kf f) Φ → Run n_X7_lawful 110 0 (ini n_X7_lawful [.ref 98, .int (nI Z), .int b]) [] (HH n kf f) Φ := by
      intro Φ hΦ
      refine v_p hT rfl rfl ?_
      refine v_scall hT [.int (nI Z), .int (nI 0), .int (nI 1)] rfl rfl rfl rfl (Nat.le_of_ble_eq_true rfl) (Nat.le_of_ble_eq_true rfl) (m_in _ _ _) ?_
      rw [decide_eq_true c1']
      refine g_if hT rfl (fun cq => ?_) (fun cq => ?_)
      · cases bf_of cq
      · refine v_p hT rfl rfl ?_
        refine v_call hT [.int (nI Z)] rfl rfl (by first | rfl | assumption) (by omega) rfl rfl (Nat.le_of_ble_eq_true rfl) (Nat.le_of_ble_eq_true rfl) (m_linesOfAll hR.1 hV.1.1 Z1) ?_
        refine v_scall hT [.int b, .int (nI 0), .int (nI (totF S.1 Z))] rfl rfl rfl rfl (Nat.le_of_ble_eq_true rfl) (Nat.le_of_ble_eq_true rfl) (m_in _ _ _) ?_
        exact hΦ
    by_cases c2 : nI 0 ≤ b ∧ b ≤ nI (totF S.1 Z)
    · obtain ⟨D, D1, D2⟩ := int_04 (by omega) c2
      obtain ⟨F, r1, r2, r3, r4⟩ := m_lays (n := n) (kf := kf) hV hR
      rw [decide_eq_true c2] at start ⊢
      subst D2
      simp only [cond_true]
      rw [nI_tn (by omega)]
      refine ⟨F, start _ ?_, r2, r4⟩
      refine g_if hT rfl (fun cq => ?_) (fun cq => ?_)
      · refine v_p hT rfl rfl ?_
        refine v_call hT [] rfl rfl (by first | rfl | assumption) (by omega) rfl rfl (Nat.le_of_ble_eq_true rfl) (Nat.le_of_ble_eq_true rfl) (r1) ?_
        refine v_p hT rfl rfl ?_
        refine v_getr hT rfl rfl (by omega) rfl ?_
        refine v_p hT rfl rfl ?_
        rw [pk_mul, nI_add]
        refine v_bld hT rfl rfl (by decide) (by omega) (by decide) (show 61 * Z + D < 122 by omega) ?_
        rw [r3.2.1 Z D Z1 D1]
        cases hl : lawF S.1 Z D with
        | false =>
          refine g_if hT rfl (fun cq2 => ?_) (fun cq2 => ?_)
          · refine v_p hT rfl rfl ?_
            refine v_ret hT rfl (fun z => by cases z) rfl ⟨rfl, rfl⟩
          · exact absurd rfl cq2
        | true =>
          refine g_if hT rfl (fun cq2 => ?_) (fun cq2 => ?_)
          · exact absurd cq2 (show ¬ (1 : Int32) = 0 by decide)
          · refine v_p hT rfl rfl ?_
            refine v_ret hT rfl (fun z => by cases z) rfl ⟨rfl, rfl⟩
      · exact absurd (show ¬ (1 : Int32) = 0 by decide) cq
    · rw [decide_eq_false c2] at start ⊢
      refine ⟨fb, start _ ?_, q2, q3⟩
      refine g_if hT rfl (fun cq => ?_) (fun cq => ?_)
      · exact absurd rfl cq
      · exact hbad
  · have c1' : ¬ (nI 0 ≤ s ∧ s ≤ nI 1) := c1
    rw [decide_eq_false c1, Bool.false_and]
    refine ⟨fb, ?_, q2, q3⟩
    refine v_p hT rfl rfl ?_
    refine v_scall hT [.int s, .int (nI 0), .int (nI 1)] rfl rfl rfl rfl (Nat.le_of_ble_eq_true rfl) (Nat.le_of_ble_eq_true rfl) (m_in _ _ _) ?_
    rw [decide_eq_false c1']
    refine g_if hT rfl (fun cq => ?_) (fun cq => ?_)
    · exact hbad
    · exact absurd rfl cq
theorem m_openingIs {n k w : Nat} {kf : Nat → Nat} {f : Nat → Nat → Int32} {B : BK} (hR : nowR (f 100) B) (hk : knR f B) (hV : VB B) (hko : k < opN (lyP B)) (hw : w ≤ 4) :
    Run n_X7_openingIs 110 0 (ini n_X7_openingIs [.ref 98, .int (nI k), .int (nI w)]) [] (HH n kf f) (Ret (some (.int (opA (lyP B) k w))) (HH n kf f)) := by
  have hT : mT n_X7_openingIs = tb_X7_openingIs := rfl
  have hP := lyP_bd hV
  have h120 := opN_le hP
  obtain ⟨o1, o2, o3⟩ := opN_of hko
  have h11 : f 98 11 = nI (opN (lyP B)) := by rw [hk.2.2.1]; exact o3
  have loop : ∀ d i, i + d = k → Run n_X7_openingIs 110 11 [some (.ref 98), some (.int (nI k)), some (.int (nI w)), some (.int (nI (posF (lyP B) i).1)), some (.int (nI (posF (lyP B) i).2)), some (.int (nI i))] [.int (nI k), .int (nI i)] (HH n kf f) (Ret (some (.int (opA (lyP B) k w))) (HH n kf f)) := by
    intro d
    induction d with
    | zero =>
      intro i hi
      obtain rfl : i = k := by omega
      obtain ⟨t0, t1⟩ := hk.2.2.2.2 i hko
      obtain ⟨b1, b2, b3, b4, _⟩ := pos_1 hP hko
      have b3 : (posF (lyP B) (i + 1)).1 - (posF (lyP B) i).1 ≤ bSe B 0 := b3
      have b4 : (posF (lyP B) (i + 1)).2 - (posF (lyP B) i).2 ≤ bSe B 0 := b4
      unfold opA
      refine g_cmp hT rfl (fun cq => ?_) (fun cq => ?_)
      · rcases (show w = 0 ∨ w = 1 ∨ w = 2 ∨ w = 3 ∨ w = 4 by omega) with e | e | e | e | e
        · subst e
          refine v_p hT rfl rfl ?_
          refine g_sw hT rfl (Or.inl rfl) (pc' := 72) rfl ?_
          refine v_p hT rfl rfl ?_
          refine v_ret hT rfl (fun z => by cases z) rfl ⟨rfl, rfl⟩
        · subst e
          refine v_p hT rfl rfl ?_
          refine g_sw hT rfl (Or.inl rfl) (pc' := 74) rfl ?_
          refine v_p hT rfl rfl ?_
          refine v_getr hT rfl rfl (by omega) rfl ?_
          refine v_p hT rfl rfl ?_
          refine v_ald hT rfl rfl (by omega) (by decide) (show i < 121 by omega) ?_
          rw [t0]
          refine v_ret hT rfl (fun z => by cases z) rfl ⟨rfl, rfl⟩
        · subst e
          refine v_p hT rfl rfl ?_
          refine g_sw hT rfl (Or.inl rfl) (pc' := 81) rfl ?_
          refine v_p hT rfl rfl ?_
          refine v_ret hT rfl (fun z => by cases z) rfl ⟨rfl, rfl⟩
        · subst e
          refine v_p hT rfl rfl ?_
          refine g_sw hT rfl (Or.inl rfl) (pc' := 84) rfl ?_
          refine v_p hT rfl rfl ?_
          refine v_getr hT rfl rfl (by omega) rfl ?_
          refine v_p hT rfl rfl ?_
          refine v_ald hT rfl rfl (by omega) (by decide) (show i < 121 by omega) ?_
          rw [t1]
          refine v_ret hT rfl (fun z => by cases z) rfl ⟨rfl, rfl⟩
        · subst e
          refine v_p hT rfl rfl ?_
          refine g_sw hT rfl (Or.inl rfl) (pc' := 91) rfl ?_
          refine v_p hT rfl rfl ?_
          refine v_geti hT rfl (by first | rfl | assumption) (by omega) ?_
          rw [h11]
          refine v_p hT rfl rfl ?_
          rw [pk_sub (by omega)]
          show Run _ _ _ _ _ _ (Ret (some (.int (ocF (lyP B) i))) _)
          unfold ocF
          refine g_cmp hT rfl (fun cq2 => ?_) (fun cq2 => ?_)
          · have cq2 := (cj_ne (by omega) (by omega)).mp cq2
            rw [if_neg (by omega)]
            refine v_p hT rfl rfl ?_
            refine v_getr hT rfl rfl (by omega) rfl ?_
            refine v_p hT rfl rfl ?_
            refine v_ald hT rfl rfl (by omega) (by decide) (show i < 121 by omega) ?_
            rw [t0]
            refine v_p hT rfl rfl ?_
            refine v_getr hT rfl rfl (by omega) rfl ?_
            refine v_p hT rfl rfl ?_
            refine v_ald hT rfl rfl (by omega) (by decide) (show i < 121 by omega) ?_
            rw [t1]
            refine v_call hT [.int (nI ((posF (lyP B) (i + 1)).1 - (posF (lyP B) i).1)), .int (nI ((posF (lyP B) (i + 1)).2 - (posF (lyP B) i).2))] rfl rfl (by first | rfl | assumption) (by omega) rfl rfl (Nat.le_of_ble_eq_true rfl) (Nat.le_of_ble_eq_true rfl) (m_costOf hR b3 b4) ?_
            refine v_ret hT rfl (fun z => by cases z) rfl ⟨rfl, rfl⟩
          · have cq2 := Classical.byContradiction (fun z => cq2 ((cj_ne (by omega) (by omega)).mpr z))
            rw [if_pos (by omega)]
            refine v_p hT rfl rfl ?_
            refine v_ret hT rfl (fun z => by cases z) rfl ⟨rfl, rfl⟩
      · exact absurd ((cj_ge (by omega) (by omega)).mpr (by omega)) cq
    | succ d ih =>
      intro i hi
      have hio : i < opN (lyP B) := by omega
      obtain ⟨t0, t1⟩ := hk.2.2.2.2 i hio
      obtain ⟨b1, b2, _⟩ := pos_1 hP hio
      refine g_cmp hT rfl (fun cq => ?_) (fun cq => ?_)
      · exact absurd ((cj_ge (by omega) (by omega)).mp cq) (by omega)
      · refine v_p hT rfl rfl ?_
        refine v_getr hT rfl rfl (by omega) rfl ?_
        refine v_p hT rfl rfl ?_
        refine v_ald hT rfl rfl (by omega) (by decide) (show i < 121 by omega) ?_
        rw [t0]
        refine v_p hT rfl rfl ?_
        refine v_getr hT rfl rfl (by omega) rfl ?_
        refine v_p hT rfl rfl ?_
        refine v_ald hT rfl rfl (by omega) (by decide) (show i < 121 by omega) ?_
        rw [t1]
        refine v_p hT rfl rfl ?_
        refine v_cv (ih (i + 1) (by omega)) ⟨rfl, rfl, rfl, ?_, ?_, ?_, trivial⟩ ?_ rfl
        · rw [nI_add]; congr 2; omega
        · rw [nI_add]; congr 2; omega
        · rw [nI_add]
        · rw [nI_add]
  refine v_p hT rfl rfl ?_
  exact loop k 0 (by omega)
theorem M_opening {S : ST} (hV : VS S) (k w : Int32) : MSp n_X7_opening [.int k, .int w] S (oOpen S k w) := by
  have hT : mT n_X7_opening = tb_X7_opening := rfl
  intro n kf f hR
  have hP := lyP_bd hV.1
  obtain ⟨fb, q1, q2, q3⟩ := m_bad2 (n := n) (kf := kf) hR
  have hbad : Run n_X7_opening 110 13 [some (.ref 98), some (.int k), some (.int w)] [] (HH n kf f) (Ret (some (.int (mI 2))) (HH n kf fb)) := by
    refine v_p hT rfl rfl ?_
    refine v_call hT [] rfl rfl (by first | rfl | assumption) (by omega) rfl rfl (Nat.le_of_ble_eq_true rfl) (Nat.le_of_ble_eq_true rfl) (q1) ?_
    refine v_ret hT rfl (fun z => by cases z) rfl ⟨rfl, rfl⟩
  unfold oOpen
  by_cases c1 : k < 0
  · rw [decide_eq_false (fun z => z c1), Bool.false_and]
    refine ⟨fb, ?_, q2, q3⟩
    refine v_p hT rfl rfl ?_
    refine g_if hT rfl (fun cq => ?_) (fun cq => ?_)
    · exact hbad
    · exact absurd c1 cq
  · rw [decide_eq_true c1]
    by_cases c2 : nI 0 ≤ w ∧ w ≤ nI 4
    · obtain ⟨K, K1, K2⟩ := nI_of c1
      obtain ⟨W, W1, W2⟩ := int_04 (by omega) c2
      obtain ⟨F, r1, r2, r3, r4⟩ := m_lays (n := n) (kf := kf) hV hR
      rw [decide_eq_true c2]
      subst K2; subst W2
      simp only [Bool.true_and, cond_true]
      rw [nI_tn K1, nI_tn (by omega)]
      refine ⟨F, ?_, r2, r4⟩
      unfold opB
      refine v_p hT rfl rfl ?_
      refine g_if hT rfl (fun cq => ?_) (fun cq => ?_)
      · exact absurd cq (nI_pos K1)
      · refine v_p hT rfl rfl ?_
        refine v_scall hT [.int (nI W), .int (nI 0), .int (nI 4)] rfl rfl rfl rfl (Nat.le_of_ble_eq_true rfl) (Nat.le_of_ble_eq_true rfl) (m_in _ _ _) ?_
        rw [decide_eq_true c2]
        refine g_if hT rfl (fun cq2 => ?_) (fun cq2 => ?_)
        · refine v_p hT rfl rfl ?_
          refine v_call hT [] rfl rfl (by first | rfl | assumption) (by omega) rfl rfl (Nat.le_of_ble_eq_true rfl) (Nat.le_of_ble_eq_true rfl) (r1) ?_
          refine v_p hT rfl rfl ?_
          refine v_geti hT rfl (by first | rfl | assumption) (by omega) ?_
          rw [r3.2.2.1]
          refine g_cmp hT rfl (fun cq3 => ?_) (fun cq3 => ?_)
          · have cq3 : opI (lyP S.1) ≤ nI K := cq3
            rw [if_neg (fun z => absurd ((op_cmp hP K1).mpr z) (Int32.not_lt.mpr cq3))]
            refine v_p hT rfl rfl ?_
            refine v_ret hT rfl (fun z => by cases z) rfl ⟨rfl, rfl⟩
          · have cq3 : ¬ opI (lyP S.1) ≤ nI K := cq3
            have hko := (op_cmp hP K1).mp (Int32.not_le.mp cq3)
            rw [if_pos hko]
            refine v_p hT rfl rfl ?_
            refine v_call hT [.int (nI K), .int (nI W)] rfl rfl (by first | rfl | assumption) (by omega) rfl rfl (Nat.le_of_ble_eq_true rfl) (Nat.le_of_ble_eq_true rfl) (m_openingIs r2.1 r3 hV.1 hko W1) ?_
            refine v_p hT rfl rfl ?_
            refine v_ret hT rfl (fun z => by cases z) rfl ⟨rfl, rfl⟩
        · exact absurd (show ¬ (1 : Int32) = 0 by decide) cq2
    · rw [decide_eq_false c2, Bool.and_false]
      refine ⟨fb, ?_, q2, q3⟩
      refine v_p hT rfl rfl ?_
      refine g_if hT rfl (fun cq => ?_) (fun cq => ?_)
      · exact absurd cq c1
      · refine v_p hT rfl rfl ?_
        refine v_scall hT [.int w, .int (nI 0), .int (nI 4)] rfl rfl rfl rfl (Nat.le_of_ble_eq_true rfl) (Nat.le_of_ble_eq_true rfl) (m_in _ _ _) ?_
        rw [decide_eq_false c2]
        refine g_if hT rfl (fun cq2 => ?_) (fun cq2 => ?_)
        · exact absurd rfl cq2
        · exact hbad
theorem m_crossings {n : Nat} {kf : Nat → Nat} {f : Nat → Nat → Int32} {B : BK} (hR : nowR (f 100) B) (hV : VB0 B) :
    Run n_X7_crossings 110 0 (ini n_X7_crossings [.ref 98]) [] (HH n kf f) (Ret (some (.int (nI (endN B (bNt B) (bNt B) / 2)))) (HH n kf f)) := by
  have hT : mT n_X7_crossings = tb_X7_crossings := rfl
  have h10 := hV.2.2.2.2.1
  have h7 : f 100 7 = nI (bNt B) := hR.2.2.2.1
  have hen := endN_le B (bNt B) (bNt B)
  have hmu : bNt B * bNt B ≤ 10 * 10 := Nat.mul_le_mul h10 h10
  have loop : ∀ d j, j + d = bNt B → Run n_X7_crossings 110 12 [some (.ref 98), some (.int (nI (endN B (bNt B) j))), some (.int (nI j))] [.int (nI (bNt B)), .int (nI j)] (HH n kf f) (Ret (some (.int (nI (endN B (bNt B) (bNt B) / 2)))) (HH n kf f)) := by
    intro d
    induction d with
    | zero =>
      intro j hj
      obtain rfl : j = bNt B := by omega
      refine g_cmp hT rfl (fun cq => ?_) (fun cq => ?_)
      · refine v_p hT rfl rfl ?_
        refine g_divN hT rfl (by omega) (by omega) (by omega) ?_
        refine v_ret hT rfl (fun z => by cases z) rfl ⟨rfl, rfl⟩
      · exact absurd ((cj_ge (by omega) (by omega)).mpr (by omega)) cq
    | succ d ih =>
      intro j hj
      refine g_cmp hT rfl (fun cq => ?_) (fun cq => ?_)
      · exact absurd ((cj_ge (by omega) (by omega)).mp cq) (by omega)
      · refine v_p hT rfl rfl ?_
        refine v_call hT [.int (nI j)] rfl rfl (by first | rfl | assumption) (by omega) rfl rfl (Nat.le_of_ble_eq_true rfl) (Nat.le_of_ble_eq_true rfl) (m_crosses hR hV (by omega)) ?_
        refine v_p hT rfl rfl ?_
        refine v_getr hT rfl rfl (by omega) rfl ?_
        refine v_p hT rfl rfl ?_
        refine v_ald hT rfl (by first | assumption | rfl) (by omega) (by decide) (by omega) ?_
        rw [h7]
        refine v_cv (ih (j + 1) (by omega)) ⟨rfl, ?_, ?_, trivial⟩ ?_ rfl
        · rw [nI_add]; rfl
        · rw [nI_add]
        · rw [nI_add]
  refine v_p hT rfl rfl ?_
  refine v_getr hT rfl rfl (by omega) rfl ?_
  refine v_p hT rfl rfl ?_
  refine v_ald hT rfl (by first | assumption | rfl) (by omega) (by decide) (by omega) ?_
  rw [h7]
  exact loop (bNt B) 0 (by omega)
theorem m_countOf {S : ST} (hV : VS S) {k n : Nat} (hk : k ≤ 9) {kf : Nat → Nat} {f : Nat → Nat → Int32} (hR : RepM f S) :
    ∃ F, Run n_X7_countOf 110 0 (ini n_X7_countOf [.ref 98, .int (nI k)]) [] (HH n kf f) (Ret (some (.int (ctA S.1 k))) (HH n kf F)) ∧ RepM F S ∧ knR F S.1 ∧ ∀ c, c < 98 ∨ 110 ≤ c → F c = f c := by
  have hT : mT n_X7_countOf = tb_X7_countOf := rfl
  obtain ⟨F, r1, r2, r3, r4⟩ := m_lays (n := n) (kf := kf) hV hR
  refine ⟨F, ?_, r2, r3, r4⟩
  have h10 := hV.1.1.2.2.2.2.1
  have hkl := kept_lt h10
  refine v_p hT rfl rfl ?_
  refine v_call hT [] rfl rfl (by first | rfl | assumption) (by omega) rfl rfl (Nat.le_of_ble_eq_true rfl) (Nat.le_of_ble_eq_true rfl) (r1) ?_
  rcases (show k = 0 ∨ k = 1 ∨ k = 2 ∨ k = 3 ∨ k = 4 ∨ k = 5 ∨ k = 6 ∨ k = 7 ∨ k = 8 ∨ k = 9 by omega) with e | e | e | e | e | e | e | e | e | e
  · subst e
    refine v_p hT rfl rfl ?_
    refine g_sw hT rfl (Or.inl rfl) (pc' := 56) rfl ?_
    refine v_p hT rfl rfl ?_
    refine v_call hT [.int (nI 0)] rfl rfl (by first | rfl | assumption) (by omega) rfl rfl (Nat.le_of_ble_eq_true rfl) (Nat.le_of_ble_eq_true rfl) (m_many (by omega)) ?_
    rw [r2.1.2.2.1 0 (by omega)]
    refine v_ret hT rfl (fun z => by cases z) rfl ⟨rfl, rfl⟩
  · subst e
    refine v_p hT rfl rfl ?_
    refine g_sw hT rfl (Or.inl rfl) (pc' := 56) rfl ?_
    refine v_p hT rfl rfl ?_
    refine v_call hT [.int (nI 1)] rfl rfl (by first | rfl | assumption) (by omega) rfl rfl (Nat.le_of_ble_eq_true rfl) (Nat.le_of_ble_eq_true rfl) (m_many (by omega)) ?_
    rw [r2.1.2.2.1 1 (by omega)]
    refine v_ret hT rfl (fun z => by cases z) rfl ⟨rfl, rfl⟩
  · subst e
    refine v_p hT rfl rfl ?_
    refine g_sw hT rfl (Or.inl rfl) (pc' := 62) rfl ?_
    refine v_p hT rfl rfl ?_
    rw [pk_sub (by omega)]
    refine v_call hT [.int (nI (2 - 2))] rfl rfl (by first | rfl | assumption) (by omega) rfl rfl (Nat.le_of_ble_eq_true rfl) (Nat.le_of_ble_eq_true rfl) (m_linesOfAll r2.1 hV.1.1 (by omega)) ?_
    refine v_ret hT rfl (fun z => by cases z) rfl ⟨rfl, rfl⟩
  · subst e
    refine v_p hT rfl rfl ?_
    refine g_sw hT rfl (Or.inl rfl) (pc' := 62) rfl ?_
    refine v_p hT rfl rfl ?_
    rw [pk_sub (by omega)]
    refine v_call hT [.int (nI (3 - 2))] rfl rfl (by first | rfl | assumption) (by omega) rfl rfl (Nat.le_of_ble_eq_true rfl) (Nat.le_of_ble_eq_true rfl) (m_linesOfAll r2.1 hV.1.1 (by omega)) ?_
    refine v_ret hT rfl (fun z => by cases z) rfl ⟨rfl, rfl⟩
  · subst e
    refine v_p hT rfl rfl ?_
    refine g_sw hT rfl (Or.inl rfl) (pc' := 70) rfl ?_
    refine v_p hT rfl rfl ?_
    refine v_getr hT rfl rfl (by omega) rfl ?_
    refine v_p hT rfl rfl ?_
    refine v_ald hT rfl (by first | assumption | rfl) (by omega) (by decide) (by omega) ?_
    rw [r2.1.2.2.2.1]
    refine v_ret hT rfl (fun z => by cases z) rfl ⟨rfl, rfl⟩
  · subst e
    refine v_p hT rfl rfl ?_
    refine g_sw hT rfl (Or.inl rfl) (pc' := 78) rfl ?_
    refine v_p hT rfl rfl ?_
    refine v_call hT [] rfl rfl (by first | rfl | assumption) (by omega) rfl rfl (Nat.le_of_ble_eq_true rfl) (Nat.le_of_ble_eq_true rfl) (m_crossings r2.1 hV.1.1) ?_
    refine v_ret hT rfl (fun z => by cases z) rfl ⟨rfl, rfl⟩
  · subst e
    refine v_p hT rfl rfl ?_
    refine g_sw hT rfl (Or.inl rfl) (pc' := 83) rfl ?_
    refine v_p hT rfl rfl ?_
    refine v_geti hT rfl (by first | rfl | assumption) (by omega) ?_
    rw [r3.1]
    refine v_ret hT rfl (fun z => by cases z) rfl ⟨rfl, rfl⟩
  · subst e
    refine v_p hT rfl rfl ?_
    refine g_sw hT rfl (Or.inl rfl) (pc' := 88) rfl ?_
    refine v_p hT rfl rfl ?_
    refine v_geti hT rfl (by first | rfl | assumption) (by omega) ?_
    rw [r3.1]
    refine v_p hT rfl rfl ?_
    refine v_call hT [.int (nI (keptF S.1)), .int (nI 0)] rfl rfl (by first | rfl | assumption) (by omega) rfl rfl (Nat.le_of_ble_eq_true rfl) (Nat.le_of_ble_eq_true rfl) (m_weightW r2.1 hV.1.1 hkl) ?_
    refine v_ret hT rfl (fun z => by cases z) rfl ⟨rfl, rfl⟩
  · subst e
    refine v_p hT rfl rfl ?_
    refine g_sw hT rfl (Or.inl rfl) (pc' := 98) rfl ?_
    refine v_p hT rfl rfl ?_
    refine v_geti hT rfl (by first | rfl | assumption) (by omega) ?_
    rw [r3.2.2.1]
    refine v_ret hT rfl (fun z => by cases z) rfl ⟨rfl, rfl⟩
  · subst e
    refine v_p hT rfl rfl ?_
    refine g_sw hT rfl (Or.inl rfl) (pc' := 103) rfl ?_
    refine v_p hT rfl rfl ?_
    refine v_geti hT rfl (by first | rfl | assumption) (by omega) ?_
    rw [r3.2.2.2.1]
    refine v_ret hT rfl (fun z => by cases z) rfl ⟨rfl, rfl⟩
theorem M_count {S : ST} (hV : VS S) (w : Int32) : MSp n_X7_count [.int w] S (oCount S w) := by
  have hT : mT n_X7_count = tb_X7_count := rfl
  intro n kf f hR
  unfold oCount
  by_cases hc : nI 0 ≤ w ∧ w ≤ nI 9
  · obtain ⟨k, k1, k2⟩ := int_04 (by omega) hc
    rw [decide_eq_true hc]
    subst k2
    simp only [cond_true]
    rw [nI_tn (by omega)]
    obtain ⟨F, r1, r2, _, r4⟩ := m_countOf (n := n) (kf := kf) hV k1 hR
    refine ⟨F, ?_, r2, r4⟩
    refine v_p hT rfl rfl ?_
    refine v_scall hT [.int (nI k), .int (nI 0), .int (nI 9)] rfl rfl rfl rfl (Nat.le_of_ble_eq_true rfl) (Nat.le_of_ble_eq_true rfl) (m_in _ _ _) ?_
    rw [decide_eq_true hc]
    refine g_if hT rfl (fun cq => ?_) (fun cq => ?_)
    · cases bf_of cq
    · refine v_p hT rfl rfl ?_
      refine v_call hT [.int (nI k)] rfl rfl (by first | rfl | assumption) (by omega) rfl rfl (Nat.le_of_ble_eq_true rfl) (Nat.le_of_ble_eq_true rfl) (r1) ?_
      refine v_p hT rfl rfl ?_
      refine v_ret hT rfl (fun z => by cases z) rfl ⟨rfl, rfl⟩
  · rw [decide_eq_false hc]
    obtain ⟨fb, q1, q2, q3⟩ := m_bad2 (n := n) (kf := kf) hR
    refine ⟨fb, ?_, q2, q3⟩
    refine v_p hT rfl rfl ?_
    refine v_scall hT [.int w, .int (nI 0), .int (nI 9)] rfl rfl rfl rfl (Nat.le_of_ble_eq_true rfl) (Nat.le_of_ble_eq_true rfl) (m_in _ _ _) ?_
    rw [decide_eq_false hc]
    refine g_if hT rfl (fun cq => ?_) (fun cq => ?_)
    · refine v_p hT rfl rfl ?_
      refine v_call hT [] rfl rfl (by first | rfl | assumption) (by omega) rfl rfl (Nat.le_of_ble_eq_true rfl) (Nat.le_of_ble_eq_true rfl) (q1) ?_
      refine v_ret hT rfl (fun z => by cases z) rfl ⟨rfl, rfl⟩
    · exact absurd rfl cq
theorem d5_le : nI 5 * mI 1 ≤ nI (5 * 0) := by decide +kernel
theorem M_digest {S : ST} (hV : VS S) (n : Nat) (kf : Nat → Nat) (f : Nat → Nat → Int32) (hR : RepM f S) : ∃ f2, Run n_X7_digest 110 0 (ini n_X7_digest [.ref 98]) [] (HH n kf f) (Ret (some (.long (dgA S))) (HH n kf f2)) ∧ RepM f2 S ∧ ∀ c, c < 98 ∨ 110 ≤ c → f2 c = f c := by
  have hT : mT n_X7_digest = tb_X7_digest := rfl
  have hP := lyP_bd hV.1
  have h120 := opN_le hP
  have h10 := hV.1.1.2.2.2.2.1
  have lp1 : ∀ d k, k + d = 10 → ∀ Φ, Run n_X7_digest 110 31 [some (.ref 98), some (.long (dgf (tlA S) 10 (lN 2591))), none, none, none] [] (HH n kf f) Φ → Run n_X7_digest 110 9 [some (.ref 98), some (.long (dgf (tlA S) k (lN 2591))), none, some (.int (nI k)), none] [.int (nI 10), .int (nI k)] (HH n kf f) Φ := by
    intro d
    induction d with
    | zero =>
      intro k hk Φ hΦ
      obtain rfl : k = 10 := by omega
      refine g_cmp hT rfl (fun cq => ?_) (fun cq => ?_)
      · exact v_cv hΦ ⟨rfl, rfl, trivial⟩ rfl rfl
      · exact absurd ((cj_ge (by omega) (by omega)).mpr (by omega)) cq
    | succ d ih =>
      intro k hk Φ hΦ
      refine g_cmp hT rfl (fun cq => ?_) (fun cq => ?_)
      · exact absurd ((cj_ge (by omega) (by omega)).mp cq) (by omega)
      · refine v_p hT rfl rfl ?_
        refine v_call hT [.int (nI k)] rfl rfl (by first | rfl | assumption) (by omega) rfl rfl (Nat.le_of_ble_eq_true rfl) (Nat.le_of_ble_eq_true rfl) (m_toldOf (by omega) hR) ?_
        refine v_p hT rfl rfl ?_
        refine v_cv (ih (k + 1) (by omega) Φ hΦ) ⟨rfl, rfl, ?_, trivial⟩ ?_ rfl
        · rw [nI_add]
        · rw [nI_add]
  have lp2 : ∀ d k, k + d = 10 → ∀ F, RepM F S → (k = 10 → knR F S.1) → (∀ c, c < 98 ∨ 110 ≤ c → F c = f c) → ∃ F2, RepM F2 S ∧ knR F2 S.1 ∧ (∀ c, c < 98 ∨ 110 ≤ c → F2 c = f c) ∧ ∀ Φ, Run n_X7_digest 110 58 [some (.ref 98), some (.long (dg2 S)), none, none, none] [] (HH n kf F2) Φ → Run n_X7_digest 110 36 [some (.ref 98), some (.long (dgf (ctA S.1) k (dgf (tlA S) 10 (lN 2591)))), none, some (.int (nI k)), none] [.int (nI 10), .int (nI k)] (HH n kf F) Φ := by
    intro d
    induction d with
    | zero =>
      intro k hk F hF hkn hfr
      obtain rfl : k = 10 := by omega
      refine ⟨F, hF, hkn rfl, hfr, fun Φ hΦ => ?_⟩
      refine g_cmp hT rfl (fun cq => ?_) (fun cq => ?_)
      · exact v_cv hΦ ⟨rfl, rfl, trivial⟩ rfl rfl
      · exact absurd ((cj_ge (by omega) (by omega)).mpr (by omega)) cq
    | succ d ih =>
      intro k hk F hF hkn hfr
      obtain ⟨F1, e1, e2, e3, e4⟩ := m_countOf (n := n) (kf := kf) (k := k) hV (by omega) hF
      obtain ⟨F2, g1, g2, g3, g4⟩ := ih (k + 1) (by omega) F1 e2 (fun _ => e3) (fun c hc => by rw [e4 c hc, hfr c hc])
      refine ⟨F2, g1, g2, g3, fun Φ hΦ => ?_⟩
      refine g_cmp hT rfl (fun cq => ?_) (fun cq => ?_)
      · exact absurd ((cj_ge (by omega) (by omega)).mp cq) (by omega)
      · refine v_p hT rfl rfl ?_
        refine v_call hT [.int (nI k)] rfl rfl (by first | rfl | assumption) (by omega) rfl rfl (Nat.le_of_ble_eq_true rfl) (Nat.le_of_ble_eq_true rfl) (e1) ?_
        refine v_p hT rfl rfl ?_
        refine v_cv (g4 Φ hΦ) ⟨rfl, rfl, ?_, trivial⟩ ?_ rfl
        · rw [nI_add]
        · rw [nI_add]
  obtain ⟨F, hF, hkn, hfr, hrun2⟩ := lp2 10 0 (by omega) f hR (fun z => by omega) (fun _ _ => rfl)
  refine ⟨F, ?_, hF, hfr⟩
  have h7 : F 100 7 = nI (bNt S.1) := hF.1.2.2.2.1
  have lp3 : ∀ s, s < 2 → ∀ h0 d k, k + d = 5 * bNp S.1 s → ∀ Φ, Run n_X7_digest 110 107 [some (.ref 98), some (.long (dgf (fun k => ofA S.1 s (k / 5) (k % 5)) (5 * bNp S.1 s) h0)), none, some (.int (nI s)), none] [] (HH n kf F) Φ → Run n_X7_digest 110 77 [some (.ref 98), some (.long (dgf (fun k => ofA S.1 s (k / 5) (k % 5)) k h0)), none, some (.int (nI s)), some (.int (nI k))] [.int (nI (5 * bNp S.1 s)), .int (nI k)] (HH n kf F) Φ := by
    intro s hs h0 d
    have h8 := hV.1.1.1 s hs
    induction d with
    | zero =>
      intro k hk Φ hΦ
      obtain rfl : k = 5 * bNp S.1 s := by omega
      refine g_cmp hT rfl (fun cq => ?_) (fun cq => ?_)
      · exact v_cv hΦ ⟨rfl, rfl, rfl, trivial⟩ rfl rfl
      · exact absurd ((cj_ge (by omega) (by omega)).mpr (by omega)) cq
    | succ d ih =>
      intro k hk Φ hΦ
      refine g_cmp hT rfl (fun cq => ?_) (fun cq => ?_)
      · exact absurd ((cj_ge (by omega) (by omega)).mp cq) (by omega)
      · refine v_p hT rfl rfl ?_
        refine g_divN hT rfl (by omega) (by omega) (by omega) ?_
        refine v_p hT rfl rfl ?_
        refine g_remN hT rfl (by omega) (by omega) (by omega) ?_
        refine v_call hT [.int (nI s), .int (nI (k / 5)), .int (nI (k % 5))] rfl rfl (by first | rfl | assumption) (by omega) rfl rfl (Nat.le_of_ble_eq_true rfl) (Nat.le_of_ble_eq_true rfl) (m_ofPara hF.1 hkn hV.1 hs (by omega) (by omega)) ?_
        refine v_p hT rfl rfl ?_
        refine v_call hT [.int (nI s)] rfl rfl (by first | rfl | assumption) (by omega) rfl rfl (Nat.le_of_ble_eq_true rfl) (Nat.le_of_ble_eq_true rfl) (m_many hs) ?_
        rw [hF.1.2.2.1 s hs]
        refine v_p hT rfl rfl ?_
        rw [pk_mul]
        refine v_cv (ih (k + 1) (by omega) Φ hΦ) ⟨rfl, rfl, rfl, ?_, trivial⟩ ?_ rfl
        · rw [nI_add]
        · rw [nI_add]
  have lp4 : ∀ h0 d k, k + d = 5 * bNt S.1 → ∀ Φ, Run n_X7_digest 110 152 [some (.ref 98), some (.long (dgf (fun k => tiA S.1 (k / 5) (k % 5)) (5 * bNt S.1) h0)), none, none, none] [] (HH n kf F) Φ → Run n_X7_digest 110 125 [some (.ref 98), some (.long (dgf (fun k => tiA S.1 (k / 5) (k % 5)) k h0)), none, some (.int (nI k)), none] [.int (nI (5 * bNt S.1)), .int (nI k)] (HH n kf F) Φ := by
    intro h0 d
    induction d with
    | zero =>
      intro k hk Φ hΦ
      obtain rfl : k = 5 * bNt S.1 := by omega
      refine g_cmp hT rfl (fun cq => ?_) (fun cq => ?_)
      · exact v_cv hΦ ⟨rfl, rfl, trivial⟩ rfl rfl
      · exact absurd ((cj_ge (by omega) (by omega)).mpr (by omega)) cq
    | succ d ih =>
      intro k hk Φ hΦ
      refine g_cmp hT rfl (fun cq => ?_) (fun cq => ?_)
      · exact absurd ((cj_ge (by omega) (by omega)).mp cq) (by omega)
      · refine v_p hT rfl rfl ?_
        refine g_divN hT rfl (by omega) (by omega) (by omega) ?_
        refine v_p hT rfl rfl ?_
        refine g_remN hT rfl (by omega) (by omega) (by omega) ?_
        refine v_call hT [.int (nI (k / 5)), .int (nI (k % 5))] rfl rfl (by first | rfl | assumption) (by omega) rfl rfl (Nat.le_of_ble_eq_true rfl) (Nat.le_of_ble_eq_true rfl) (m_tieIs hF.1 hkn hV.1 (by omega) (by omega)) ?_
        refine v_p hT rfl rfl ?_
        refine v_getr hT rfl rfl (by omega) rfl ?_
        refine v_p hT rfl rfl ?_
        refine v_ald hT rfl (by first | assumption | rfl) (by omega) (by decide) (by omega) ?_
        rw [h7]
        refine v_p hT rfl rfl ?_
        rw [pk_mul]
        refine v_cv (ih (k + 1) (by omega) Φ hΦ) ⟨rfl, rfl, ?_, trivial⟩ ?_ rfl
        · rw [nI_add]
        · rw [nI_add]
  have lp5 : ∀ h0 d k, k + d = 5 * opN (lyP S.1) → Run n_X7_digest 110 161 [some (.ref 98), some (.long (dgf (fun k => opA (lyP S.1) (k / 5) (k % 5)) k h0)), none, some (.int (nI k)), none] [.int (nI 5 * opI (lyP S.1)), .int (nI k)] (HH n kf F) (Ret (some (.long (dgf (fun k => opA (lyP S.1) (k / 5) (k % 5)) (5 * opN (lyP S.1)) h0))) (HH n kf F)) := by
    intro h0 d
    induction d with
    | zero =>
      intro k hk
      obtain rfl : k = 5 * opN (lyP S.1) := by omega
      refine g_cmp hT rfl (fun cq => ?_) (fun cq => ?_)
      · refine v_p hT rfl rfl ?_
        exact v_lret hT rfl rfl ⟨rfl, rfl⟩
      · exfalso
        have cq : ¬ nI 5 * opI (lyP S.1) ≤ nI (5 * opN (lyP S.1)) := cq
        by_cases hz : rkF (lyP S.1) 0 0 = nvr
        · have e1 : opI (lyP S.1) = mI 1 := by unfold opI; rw [decide_eq_true hz]; rfl
          have e2 : opN (lyP S.1) = 0 := by unfold opN; rw [decide_eq_true hz]; rfl
          rw [e1, e2] at cq
          exact cq d5_le
        · have e1 : opI (lyP S.1) = nI (opN (lyP S.1)) := by unfold opI opN; rw [decide_eq_false hz]; rfl
          rw [e1, pk_mul] at cq
          exact cq (Int32.le_refl _)
    | succ d ih =>
      intro k hk
      have hko : k / 5 < opN (lyP S.1) := by omega
      obtain ⟨_, _, o3⟩ := opN_of hko
      have h11 : F 98 11 = opI (lyP S.1) := hkn.2.2.1
      refine g_cmp hT rfl (fun cq => ?_) (fun cq => ?_)
      · exfalso
        have cq : nI 5 * opI (lyP S.1) ≤ nI k := cq
        rw [o3, pk_mul] at cq
        have := (nI_leI (a := 5 * opN (lyP S.1)) (b := k) (by omega) (by omega)).mp cq
        omega
      · refine v_p hT rfl rfl ?_
        refine g_divN hT rfl (by omega) (by omega) (by omega) ?_
        refine v_p hT rfl rfl ?_
        refine g_remN hT rfl (by omega) (by omega) (by omega) ?_
        refine v_call hT [.int (nI (k / 5)), .int (nI (k % 5))] rfl rfl (by first | rfl | assumption) (by omega) rfl rfl (Nat.le_of_ble_eq_true rfl) (Nat.le_of_ble_eq_true rfl) (m_openingIs hF.1 hkn hV.1 hko (by omega)) ?_
        refine v_p hT rfl rfl ?_
        refine v_geti hT rfl (by first | rfl | assumption) (by omega) ?_
        rw [h11]
        refine v_p hT rfl rfl ?_
        refine v_cv (ih (k + 1) (by omega)) ⟨rfl, rfl, ?_, trivial⟩ ?_ rfl
        · rw [nI_add]
        · rw [nI_add]
  have lp1 := lp1 10 0 (by omega)
  have lp30 := lp3 0 (by omega) (dg2 S) (5 * bNp S.1 0) 0 (by omega)
  have lp31 := lp3 1 (by omega) (dgf (fun k => ofA S.1 0 (k / 5) (k % 5)) (5 * bNp S.1 0) (dg2 S)) (5 * bNp S.1 1) 0 (by omega)
  have lp4 := lp4 (dg4 S) (5 * bNt S.1) 0 (by omega)
  have lp5 := lp5 (dg5 S) (5 * opN (lyP S.1)) 0 (by omega)
  rw [dgf_0] at lp1 lp30 lp31 lp4 lp5 hrun2
  refine v_p hT rfl rfl ?_
  refine lp1 _ ?_
  refine v_p hT rfl rfl ?_
  refine hrun2 _ ?_
  refine v_p hT rfl rfl ?_
  refine g_cmp hT rfl (fun cq => ?_) (fun cq => ?_)
  · exact absurd ((cj_ge (by omega) (by omega)).mp cq) (by omega)
  · refine v_p hT rfl rfl ?_
    refine v_call hT [.int (nI 0)] rfl rfl (by first | rfl | assumption) (by omega) rfl rfl (Nat.le_of_ble_eq_true rfl) (Nat.le_of_ble_eq_true rfl) (m_many (by omega)) ?_
    rw [hF.1.2.2.1 0 (by omega)]
    refine v_p hT rfl rfl ?_
    rw [pk_mul]
    refine lp30 _ ?_
    refine v_p hT rfl rfl ?_
    refine g_cmp hT rfl (fun cq2 => ?_) (fun cq2 => ?_)
    · exact absurd ((cj_ge (a := 1) (b := 2) (by omega) (by omega)).mp cq2) (by omega)
    · refine v_p hT rfl rfl ?_
      refine v_call hT [.int (nI 1)] rfl rfl (by first | rfl | assumption) (by omega) rfl rfl (Nat.le_of_ble_eq_true rfl) (Nat.le_of_ble_eq_true rfl) (m_many (by omega)) ?_
      rw [hF.1.2.2.1 1 (by omega)]
      refine v_p hT rfl rfl ?_
      rw [pk_mul]
      refine lp31 _ ?_
      refine v_p hT rfl rfl ?_
      refine g_cmp hT rfl (fun cq3 => ?_) (fun cq3 => ?_)
      · refine v_p hT rfl rfl ?_
        refine v_getr hT rfl rfl (by omega) rfl ?_
        refine v_p hT rfl rfl ?_
        refine v_ald hT rfl (by first | assumption | rfl) (by omega) (by decide) (by omega) ?_
        rw [h7]
        refine v_p hT rfl rfl ?_
        rw [pk_mul]
        refine v_cv (lp4 _ ?_) ⟨rfl, rfl, rfl, trivial⟩ rfl rfl
        refine v_p hT rfl rfl ?_
        refine v_geti hT rfl (by first | rfl | assumption) (by omega) ?_
        rw [show F 98 11 = opI (lyP S.1) from hkn.2.2.1]
        refine v_p hT rfl rfl ?_
        exact lp5
      · exact absurd ((cj_ge (a := 2) (b := 2) (by omega) (by omega)).mpr (by omega)) cq3
