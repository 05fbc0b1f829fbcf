/-! THE REFERENCE: its calls. -/
theorem m_aside {n : Nat} {kf : Nat → Nat} {f : Nat → Nat → Int32} {S : ST} (hV : VS S) (h : RepM f S) :
    ∃ F, Run n_X7_puts 110 0 (ini n_X7_puts [.ref 98, .int (nI 6)]) [] (HH n kf f) (Ret none (HH n kf F)) ∧ RepM F S ∧ nowR (fun c => F 101 (260 * 6 + c)) S.1 ∧ ∀ c, c ≠ 101 → F c = f c := by
  obtain ⟨F, e1, e2, e3, e4⟩ := m_puts (n := n) (kf := kf) (f := f) (pl := 6) (by omega)
  obtain ⟨a1, a2, a3, a4, kn, a5, a6⟩ := h
  have hH := hV.2.1
  refine ⟨F, e1, ⟨by rw [e4 100 (by omega)]; exact a1, ⟨by rw [e4 98 (by omega)]; exact a2.1, fun i hi => ?_⟩, ⟨by rw [e4 98 (by omega)]; exact a3.1, fun k hk => by rw [e4 109 (by omega)]; exact a3.2 k hk⟩, fun i hi => by rw [e4 99 (by omega)]; exact a4 i hi, kn, by rw [e4 98 (by omega)]; exact a5, fun z => knR_fr (a6 z) (fun i _ => by rw [e4 98 (by omega)]) (fun c _ => e4 c (by omega))⟩, nowR_cg hV.1.1 a1 (fun c hc => e2 c hc), e4⟩
  have h6 := hH.1
  exact nowR_cg (hH.2 i hi).1 (a2.2 i hi) (fun c hc => e3 _ (by omega))
theorem m_stay {n : Nat} {kf : Nat → Nat} {f F : Nat → Nat → Int32} {S : ST} {B : BK} (hV : VS S) (h : RepM f S) (h6 : nowR (fun c => f 101 (260 * 6 + c)) S.1) (hB : nowR (F 100) B) (h98 : F 98 = upd (f 98) 4 (nI 0)) (hc : ∀ c, c ≠ 98 → c ≠ 100 → F c = f c) :
    ∃ F2, Run n_X7_leavesState 110 0 (ini n_X7_leavesState [.ref 98]) [] (HH n kf F) (Ret none (HH n kf F2)) ∧ RepM F2 (B, hPush S.2.1 S.1, S.2.2.1, S.2.2.2) ∧ ∀ c, c ≠ 98 → c ≠ 101 → F2 c = F c := by
  obtain ⟨F2, e1, e2, e3, e4⟩ := m_leavesState (n := n) (kf := kf) (f := F) (H := S.2.1) (B := S.1) (stM_fr h.2.1 (by rw [h98, upd_ne (by omega)]) (hc 101 (by omega) (by omega))) hV.2.1 (by rw [hc 101 (by omega) (by omega)]; exact h6) hV.1
  refine ⟨F2, e1, RepM_mk h (by rw [e4 100 (by omega) (by omega)]; exact hB) e2 (by rw [e3 4 (by omega), h98, upd_eq]) (by rw [e3 16 (by omega), h98, upd_ne (by omega)]) (by rw [e4 99 (by omega) (by omega), hc 99 (by omega) (by omega)]) (by rw [e4 109 (by omega) (by omega), hc 109 (by omega) (by omega)]), e4⟩
theorem m_undo {n : Nat} {kf : Nat → Nat} {f F : Nat → Nat → Int32} {S : ST} (hV : VS S) (h : RepM f S) (h6 : nowR (fun c => f 101 (260 * 6 + c)) S.1) (h98 : ∀ i, i = 3 ∨ i = 16 → F 98 i = f 98 i) (hc : ∀ c, c = 99 ∨ c = 101 ∨ c = 109 → F c = f c) :
    ∃ F2, Run n_X7_takes 110 0 (ini n_X7_takes [.ref 98, .int (nI 6)]) [] (HH n kf F) (Ret none (HH n kf F2)) ∧ RepM F2 S ∧ ∀ c, c ≠ 98 → c ≠ 100 → F2 c = F c := by
  obtain ⟨F2, e1, e2, e3, e4⟩ := m_takes (n := n) (kf := kf) (f := F) (pl := 6) (by omega)
  refine ⟨F2, e1, RepM_mk h (nowR_cg hV.1.1 h6 (fun c hc2 => by rw [e2 c hc2, hc 101 (by omega)])) (stM_fr h.2.1 (by rw [e3, upd_ne (by omega), h98 3 (by omega)]) (by rw [e4 101 (by omega) (by omega), hc 101 (by omega)])) (by rw [e3, upd_eq]) (by rw [e3, upd_ne (by omega), h98 16 (by omega)]) (by rw [e4 99 (by omega) (by omega), hc 99 (by omega)]) (by rw [e4 109 (by omega) (by omega), hc 109 (by omega)]), fun c x1 x2 => e4 c x2 x1⟩
/-- first the state is left, then the change comes -/
theorem m_first {n : Nat} {kf : Nat → Nat} {f : Nat → Nat → Int32} {S : ST} (hV : VS S) (h : RepM f S) :
    ∃ f1 f2, Run n_X7_puts 110 0 (ini n_X7_puts [.ref 98, .int (nI 6)]) [] (HH n kf f) (Ret none (HH n kf f1)) ∧ Run n_X7_leavesState 110 0 (ini n_X7_leavesState [.ref 98]) [] (HH n kf f1) (Ret none (HH n kf f2)) ∧ nowR (f2 100) S.1 ∧ stM f2 (hPush S.2.1 S.1) ∧ (∀ i, i ≠ 3 → f2 98 i = f 98 i) ∧ ∀ c, c ≠ 98 → c ≠ 101 → f2 c = f c := by
  obtain ⟨f1, e1, e2, e3, e4⟩ := m_aside (n := n) (kf := kf) hV h
  obtain ⟨f2, g1, g2, g3, g4⟩ := m_leavesState (n := n) (kf := kf) (f := f1) e2.2.1 hV.2.1 e3 hV.1
  exact ⟨f1, f2, e1, g1, by rw [g4 100 (by omega) (by omega)]; exact e2.1, g2, fun i hi => by rw [g3 i hi, e4 98 (by omega)], fun c x1 x2 => by rw [g4 c x1 x2, e4 c x2]⟩
theorem neg_ge {j : Nat} (hj : j < 3) : ¬ (0 : Int32) ≤ mI (2 + j) := by
  rcases (show j = 0 ∨ j = 1 ∨ j = 2 by omega) with e | e | e <;> subst e <;> decide
theorem M_sets {S : ST} (hV : VS S) (w v : Int32) : MSp n_X7_sets [.int w, .int v] S (chg S (aSet S.1 w v)) := by
  have hT : mT n_X7_sets = tb_X7_sets := rfl
  intro n kf f hR
  obtain ⟨f1, f2, r1, r2, hn, hst, h98, hfr⟩ := m_first (n := n) (kf := kf) hV hR
  obtain ⟨oc, og⟩ := o_set (m := n) (kf := kf) (f := f2) hn hV.1 w v
  rcases oc with ⟨j, hj, e1, e2⟩ | e1
  · obtain ⟨fb, q1, q2, q3⟩ := m_bad2 (n := n) (kf := kf) hR
    have hj0 : j = 0 := by
      unfold canS at e1
      cases hc : (decide (nI 0 ≤ w ∧ w ≤ nI 2) && decide (nI (seLo w.toNatClampNeg) ≤ v ∧ v ≤ nI (seHi w.toNatClampNeg))) with
      | true => rw [hc] at e1; exact absurd e1 (by rcases (show j = 0 ∨ j = 1 ∨ j = 2 by omega) with e | e | e <;> subst e <;> decide)
      | false => rw [hc] at e1; rcases (show j = 0 ∨ j = 1 ∨ j = 2 by omega) with e | e | e <;> subst e <;> first | rfl | exact absurd e1 (by decide)
    subst hj0
    rw [show aSet S.1 w v = (mI (2 + 0), (aSet S.1 w v).2) from Prod.ext e2 rfl, chg_no (by omega)]
    refine ⟨fb, ?_, q2, q3⟩
    refine v_p hT rfl rfl ?_
    refine v_scall hT [.int w, .int v] rfl rfl rfl rfl (Nat.le_of_ble_eq_true rfl) (Nat.le_of_ble_eq_true rfl) (m_canSet w v) ?_
    rw [show (bif decide (nI 0 ≤ w ∧ w ≤ nI 2) && decide (nI (seLo w.toNatClampNeg) ≤ v ∧ v ≤ nI (seHi w.toNatClampNeg)) then nI 0 else mI 2) = mI (2 + 0) from e1]
    refine g_if hT rfl (fun cq => ?_) (fun cq => ?_)
    · exact absurd cq (neg_ge (by omega))
    · refine v_p hT rfl rfl ?_
      refine v_call hT [] rfl rfl (by first | rfl | assumption) (by omega) rfl rfl (Nat.le_of_ble_eq_true rfl) (Nat.le_of_ble_eq_true rfl) (q1) ?_
      refine v_ret hT rfl (fun z => by cases z) rfl ⟨rfl, rfl⟩
  · obtain ⟨F, g1, g2, g3, g4⟩ := og e1
    rcases g2 with g2 | ⟨⟨k, k1, k2⟩, g2⟩
    · exfalso
      have h5 := (aSet_ok hV.1 w v).2
      unfold canS at e1
      unfold aSet at g2
      cases hc : (decide (nI 0 ≤ w ∧ w ≤ nI 2) && decide (nI (seLo w.toNatClampNeg) ≤ v ∧ v ≤ nI (seHi w.toNatClampNeg))) with
      | false => rw [hc] at e1; exact absurd e1 (by decide)
      | true =>
        rw [hc] at g2
        rw [Bool.and_eq_true] at hc
        obtain ⟨j, j1, j2, j3⟩ := in_range w (by omega) (of_decide_eq_true hc.1) (by omega)
        have hse := hV.1.1.2.2.2.1
        have hb : bSe S.1 w.toNatClampNeg < 1000 := by
          rw [j3, nI_tn (by omega)]
          rcases (show j = 0 ∨ j = 1 ∨ j = 2 by omega) with e | e | e <;> subst e <;> omega
        exact nI_nmI (j := 2) hb (by omega) g2
    · rw [show aSet S.1 w v = (nI k, (aSet S.1 w v).2) from Prod.ext k2 rfl, chg_ok k1]
      refine ⟨F, ?_, RepM_mk hR g2 (stM_fr hst (by rw [g3, upd_ne (by omega)]) (g4 101 (by omega) (by omega))) (by rw [g3, upd_eq]) (by rw [g3, upd_ne (by omega), h98 16 (by omega)]) (by rw [g4 99 (by omega) (by omega), hfr 99 (by omega) (by omega)]) (by rw [g4 109 (by omega) (by omega), hfr 109 (by omega) (by omega)]), fun c hc => by rw [g4 c (by omega) (by omega), hfr c (by omega) (by omega)]⟩
      rw [k2] at g1
      refine v_p hT rfl rfl ?_
      refine v_scall hT [.int w, .int v] rfl rfl rfl rfl (Nat.le_of_ble_eq_true rfl) (Nat.le_of_ble_eq_true rfl) (m_canSet w v) ?_
      rw [show (bif decide (nI 0 ≤ w ∧ w ≤ nI 2) && decide (nI (seLo w.toNatClampNeg) ≤ v ∧ v ≤ nI (seHi w.toNatClampNeg)) then nI 0 else mI 2) = nI 0 from e1]
      refine g_if hT rfl (fun cq => ?_) (fun cq => ?_)
      · refine v_p hT rfl rfl ?_
        refine v_call hT [.int (nI 6)] rfl rfl (by first | rfl | assumption) (by omega) rfl rfl (Nat.le_of_ble_eq_true rfl) (Nat.le_of_ble_eq_true rfl) (r1) ?_
        refine v_p hT rfl rfl ?_
        refine v_call hT [] rfl rfl (by first | rfl | assumption) (by omega) rfl rfl (Nat.le_of_ble_eq_true rfl) (Nat.le_of_ble_eq_true rfl) (r2) ?_
        refine v_p hT rfl rfl ?_
        refine v_call hT [.int w, .int v] rfl rfl (by first | rfl | assumption) (by omega) rfl rfl (Nat.le_of_ble_eq_true rfl) (Nat.le_of_ble_eq_true rfl) (g1) ?_
        refine v_ret hT rfl (fun z => by cases z) rfl ⟨rfl, rfl⟩
      · exact absurd (show (0 : Int32) ≤ nI 0 by decide) cq
theorem aTie_no4 {S : ST} (hV : VS S) {p q w : Int32} (h : canT S.1 p q w = nI 0) : ¬ (aTie S.1 p q w).1 = mI 4 := by
  unfold canT at h
  unfold aTie
  cases hc : (isPa S.1 (nI 0) p && isPa S.1 (nI 1) q && decide (nI 1 ≤ w ∧ w ≤ nI 9)) with
  | false => rw [hc] at h; exact absurd h (show ¬ mI 2 = nI 0 by decide)
  | true =>
    rw [hc] at h
    simp only [cond_true] at h ⊢
    cases hd : pB (∃ i, i < bNt S.1 ∧ nI (bTi S.1 0 i) = p ∧ nI (bTi S.1 1 i) = q) with
    | true => rw [hd] at h; exact absurd h (show ¬ mI 3 = nI 0 by decide)
    | false =>
      rw [hd] at h
      simp only [cond_false] at h ⊢
      by_cases ht : 10 ≤ bNt S.1
      · rw [decide_eq_true ht] at h; exact absurd h (show ¬ mI 4 = nI 0 by decide)
      · rw [decide_eq_false ht]; exact nI_nmI (j := 2) (by omega) (by omega)
theorem M_ties {S : ST} (hV : VS S) (p q w : Int32) : MSp n_X7_ties [.int p, .int q, .int w] S (chg S (aTie S.1 p q w)) := by
  have hT : mT n_X7_ties = tb_X7_ties := rfl
  intro n kf f hR
  obtain ⟨f1, f2, r1, r2, hn, hst, h98, hfr⟩ := m_first (n := n) (kf := kf) hV hR
  obtain ⟨oc, og⟩ := o_tie (m := n) (kf := kf) (f := f2) hn hV.1 p q w
  rcases oc with ⟨j, hj, e1, e2⟩ | e1
  · rw [show aTie S.1 p q w = (mI (2 + j), (aTie S.1 p q w).2) from Prod.ext e2 rfl, chg_no hj]
    refine ⟨hset f 99 j (f 99 j + nI 1), ?_, RepM_refu hR, fun c hc => hset_ne (by omega)⟩
    refine v_p hT rfl rfl ?_
    refine v_call hT [.int p, .int q, .int w] rfl rfl (by first | rfl | assumption) (by omega) rfl rfl (Nat.le_of_ble_eq_true rfl) (Nat.le_of_ble_eq_true rfl) (m_canTie hR.1 hV.1.1 p q w) ?_
    rw [e1]
    refine v_p hT rfl rfl ?_
    refine g_if hT rfl (fun cq => ?_) (fun cq => ?_)
    · exact absurd cq (neg_ge hj)
    · refine v_p hT rfl rfl ?_
      refine v_call hT [.int (mI (2 + j))] rfl rfl (by first | rfl | assumption) (by omega) rfl rfl (Nat.le_of_ble_eq_true rfl) (Nat.le_of_ble_eq_true rfl) (m_counted hj) ?_
      refine v_ret hT rfl (fun z => by cases z) rfl ⟨rfl, rfl⟩
  · obtain ⟨F, g1, g2, g3, g4⟩ := og e1
    rcases g2 with g2 | ⟨⟨k, k1, k2⟩, g2⟩
    · exact absurd g2 (aTie_no4 hV e1)
    · rw [show aTie S.1 p q w = (nI k, (aTie S.1 p q w).2) from Prod.ext k2 rfl, chg_ok k1]
      refine ⟨F, ?_, RepM_mk hR g2 (stM_fr hst (by rw [g3, upd_ne (by omega)]) (g4 101 (by omega) (by omega))) (by rw [g3, upd_eq]) (by rw [g3, upd_ne (by omega), h98 16 (by omega)]) (by rw [g4 99 (by omega) (by omega), hfr 99 (by omega) (by omega)]) (by rw [g4 109 (by omega) (by omega), hfr 109 (by omega) (by omega)]), fun c hc => by rw [g4 c (by omega) (by omega), hfr c (by omega) (by omega)]⟩
      rw [k2] at g1
      refine v_p hT rfl rfl ?_
      refine v_call hT [.int p, .int q, .int w] rfl rfl (by first | rfl | assumption) (by omega) rfl rfl (Nat.le_of_ble_eq_true rfl) (Nat.le_of_ble_eq_true rfl) (m_canTie hR.1 hV.1.1 p q w) ?_
      rw [e1]
      refine v_p hT rfl rfl ?_
      refine g_if hT rfl (fun cq => ?_) (fun cq => ?_)
      · refine v_p hT rfl rfl ?_
        refine v_call hT [.int (nI 6)] rfl rfl (by first | rfl | assumption) (by omega) rfl rfl (Nat.le_of_ble_eq_true rfl) (Nat.le_of_ble_eq_true rfl) (r1) ?_
        refine v_p hT rfl rfl ?_
        refine v_call hT [] rfl rfl (by first | rfl | assumption) (by omega) rfl rfl (Nat.le_of_ble_eq_true rfl) (Nat.le_of_ble_eq_true rfl) (r2) ?_
        refine v_p hT rfl rfl ?_
        refine v_call hT [.int p, .int q, .int w] rfl rfl (by first | rfl | assumption) (by omega) rfl rfl (Nat.le_of_ble_eq_true rfl) (Nat.le_of_ble_eq_true rfl) (g1) ?_
        refine v_ret hT rfl (fun z => by cases z) rfl ⟨rfl, rfl⟩
      · exact absurd (show (0 : Int32) ≤ nI 0 by decide) cq
theorem M_widths {S : ST} (hV : VS S) (s v : Int32) : MSp n_X7_widths [.int s, .int v] S (chg S (aWid S.1 s v)) := by
  have hT : mT n_X7_widths = tb_X7_widths := rfl
  intro n kf f hR
  obtain ⟨f1, r1, hR1, h6, k1⟩ := m_aside (n := n) (kf := kf) hV hR
  obtain ⟨oc, og⟩ := o_wid (m := n) (kf := kf) (f := f1) hR1.1 hV.1 s v
  rcases oc with ⟨j, hj, e1, e2⟩ | e1
  · obtain ⟨fb, q1, q2, q3⟩ := m_bad2 (n := n) (kf := kf) hR
    have hj0 : j = 0 := by
      unfold canW at e1
      cases hc : (decide (0 ≤ s ∧ s ≤ 1) && decide (nI 9 ≤ v ∧ v ≤ nI 40)) with
      | true => rw [hc] at e1; exact absurd e1 (by rcases (show j = 0 ∨ j = 1 ∨ j = 2 by omega) with e | e | e <;> subst e <;> decide)
      | false => rw [hc] at e1; rcases (show j = 0 ∨ j = 1 ∨ j = 2 by omega) with e | e | e <;> subst e <;> first | rfl | exact absurd e1 (by decide)
    subst hj0
    rw [show aWid S.1 s v = (mI (2 + 0), (aWid S.1 s v).2) from Prod.ext e2 rfl, chg_no (by omega)]
    refine ⟨fb, ?_, q2, q3⟩
    refine v_p hT rfl rfl ?_
    refine v_call hT [.int s, .int v] rfl rfl (by first | rfl | assumption) (by omega) rfl rfl (Nat.le_of_ble_eq_true rfl) (Nat.le_of_ble_eq_true rfl) (m_canWidth s v) ?_
    rw [show (bif decide (0 ≤ s ∧ s ≤ 1) && decide (nI 9 ≤ v ∧ v ≤ nI 40) then nI 0 else mI 2) = mI (2 + 0) from e1]
    refine g_if hT rfl (fun cq => ?_) (fun cq => ?_)
    · exact absurd cq (neg_ge (by omega))
    · refine v_p hT rfl rfl ?_
      refine v_call hT [] rfl rfl (by first | rfl | assumption) (by omega) rfl rfl (Nat.le_of_ble_eq_true rfl) (Nat.le_of_ble_eq_true rfl) (q1) ?_
      refine v_ret hT rfl (fun z => by cases z) rfl ⟨rfl, rfl⟩
  · obtain ⟨F, g1, g2, g3, g4⟩ := og e1
    have start : ∀ Φ, Run n_X7_widths 110 30 [some (.ref 98), some (.int s), some (.int v), some (.int (aWid S.1 s v).1)] [.int (mI 4), .int (aWid S.1 s v).1] (HH n kf F) Φ → Run n_X7_widths 110 0 (ini n_X7_widths [.ref 98, .int s, .int v]) [] (HH n kf f) Φ := by
      intro Φ hΦ
      refine v_p hT rfl rfl ?_
      refine v_call hT [.int s, .int v] rfl rfl (by first | rfl | assumption) (by omega) rfl rfl (Nat.le_of_ble_eq_true rfl) (Nat.le_of_ble_eq_true rfl) (m_canWidth s v) ?_
      rw [show (bif decide (0 ≤ s ∧ s ≤ 1) && decide (nI 9 ≤ v ∧ v ≤ nI 40) then nI 0 else mI 2) = nI 0 from e1]
      refine g_if hT rfl (fun cq => ?_) (fun cq => ?_)
      · refine v_p hT rfl rfl ?_
        refine v_call hT [.int (nI 6)] rfl rfl (by first | rfl | assumption) (by omega) rfl rfl (Nat.le_of_ble_eq_true rfl) (Nat.le_of_ble_eq_true rfl) (r1) ?_
        refine v_p hT rfl rfl ?_
        refine v_call hT [.int s, .int v] rfl rfl (by first | rfl | assumption) (by omega) rfl rfl (Nat.le_of_ble_eq_true rfl) (Nat.le_of_ble_eq_true rfl) (g1) ?_
        refine v_p hT rfl rfl ?_
        exact hΦ
      · exact absurd (show (0 : Int32) ≤ nI 0 by decide) cq
    rcases g2 with g2 | ⟨⟨k, q1, q2⟩, g2⟩
    · obtain ⟨F2, y1, y2, y3⟩ := m_undo (n := n) (kf := kf) (F := F) hV hR1 h6 (fun i hi => by rw [g3, upd_ne (by omega)]) (fun c hc => g4 c (by omega) (by omega))
      rw [show aWid S.1 s v = (mI (2 + 2), (aWid S.1 s v).2) from Prod.ext g2 rfl, chg_no (by omega)]
      refine ⟨hset F2 99 2 (F2 99 2 + nI 1), start _ ?_, RepM_refu y2, fun c hc => by rw [hset_ne (by omega), y3 c (by omega) (by omega), g4 c (by omega) (by omega), k1 c (by omega)]⟩
      rw [g2]
      refine g_cmp hT rfl (fun cq => ?_) (fun cq => ?_)
      · exact absurd rfl cq
      · refine v_p hT rfl rfl ?_
        refine v_call hT [.int (nI 6)] rfl rfl (by first | rfl | assumption) (by omega) rfl rfl (Nat.le_of_ble_eq_true rfl) (Nat.le_of_ble_eq_true rfl) (y1) ?_
        refine v_p hT rfl rfl ?_
        refine v_call hT [] rfl rfl (by first | rfl | assumption) (by omega) rfl rfl (Nat.le_of_ble_eq_true rfl) (Nat.le_of_ble_eq_true rfl) (m_full) ?_
        refine v_ret hT rfl (fun z => by cases z) rfl ⟨rfl, rfl⟩
    · obtain ⟨F2, y1, y2, y3⟩ := m_stay (n := n) (kf := kf) (F := F) hV hR1 h6 g2 g3 g4
      rw [show aWid S.1 s v = (nI k, (aWid S.1 s v).2) from Prod.ext q2 rfl, chg_ok q1]
      refine ⟨F2, start _ ?_, y2, fun c hc => by rw [y3 c (by omega) (by omega), g4 c (by omega) (by omega), k1 c (by omega)]⟩
      rw [q2]
      refine g_cmp hT rfl (fun cq => ?_) (fun cq => ?_)
      · refine v_p hT rfl rfl ?_
        refine v_call hT [] rfl rfl (by first | rfl | assumption) (by omega) rfl rfl (Nat.le_of_ble_eq_true rfl) (Nat.le_of_ble_eq_true rfl) (y1) ?_
        refine v_p hT rfl rfl ?_
        refine v_ret hT rfl (fun z => by cases z) rfl ⟨rfl, rfl⟩
      · exact absurd (Classical.not_not.mp cq) (nI_nmI (j := 2) q1 (by omega))
theorem M_unties {S : ST} (hV : VS S) (i : Int32) : MSp n_X7_unties [.int i] S (chg S (aUnt S.1 i)) := by
  have hT : mT n_X7_unties = tb_X7_unties := rfl
  intro n kf f hR
  have h10 := hV.1.1.2.2.2.2.1
  have h7 : f 100 7 = nI (bNt S.1) := hR.1.2.2.2.1
  unfold aUnt
  by_cases c1 : ∃ k, k < bNt S.1 ∧ i = nI k
  · rw [pB_t c1]
    obtain ⟨k, hk, e⟩ := c1
    subst e
    rw [nI_tn (show k < 2 ^ 31 by omega)]
    obtain ⟨f1, f2, r1, r2, hn, hst, h98, hfr⟩ := m_first (n := n) (kf := kf) hV hR
    obtain ⟨F, g1, g2, g3, g4⟩ := m_tieGoes (n := n) (kf := kf) (i := k) hn (VBw_of hV.1.1) hk
    have h7F : F 100 7 = nI (bNt S.1 - 1) := g2.2.2.2.1
    show ∃ f2, Run _ _ _ _ _ _ (Ret (some (.int (chg S (nI (bNt S.1 - 1), bTieGo S.1 k)).1)) _) ∧ RepM f2 (chg S (nI (bNt S.1 - 1), bTieGo S.1 k)).2 ∧ _
    rw [chg_ok (show bNt S.1 - 1 < 1000 by omega)]
    refine ⟨F, ?_, RepM_mk hR g2 (stM_fr hst (by rw [g3, upd_ne (by omega)]) (g4 101 (by omega) (by omega))) (by rw [g3, upd_eq]) (by rw [g3, upd_ne (by omega), h98 16 (by omega)]) (by rw [g4 99 (by omega) (by omega), hfr 99 (by omega) (by omega)]) (by rw [g4 109 (by omega) (by omega), hfr 109 (by omega) (by omega)]), fun c hc => by rw [g4 c (by omega) (by omega), hfr c (by omega) (by omega)]⟩
    refine v_p hT rfl rfl ?_
    refine v_getr hT rfl rfl (by omega) rfl ?_
    refine v_p hT rfl rfl ?_
    refine v_ald hT rfl (by first | assumption | rfl) (by omega) (by decide) (by omega) ?_
    rw [h7]
    refine v_p hT rfl rfl ?_
    rw [pk_sub (by omega)]
    refine v_scall hT [.int (nI k), .int (nI 0), .int (nI (bNt S.1 - 1))] rfl rfl rfl rfl (Nat.le_of_ble_eq_true rfl) (Nat.le_of_ble_eq_true rfl) (m_in (nI k) (nI 0) (nI (bNt S.1 - 1))) ?_
    rw [decide_eq_true (show nI 0 ≤ nI k ∧ nI k ≤ nI (bNt S.1 - 1) from ⟨(cj_le (a := 0) (b := k) (by omega) (by omega)).mpr (by omega), (cj_le (a := k) (b := bNt S.1 - 1) (by omega) (by omega)).mpr (by omega)⟩)]
    refine g_if hT rfl (fun cq => ?_) (fun cq => ?_)
    · refine v_p hT rfl rfl ?_
      refine v_call hT [.int (nI 6)] rfl rfl (by first | rfl | assumption) (by omega) rfl rfl (Nat.le_of_ble_eq_true rfl) (Nat.le_of_ble_eq_true rfl) (r1) ?_
      refine v_p hT rfl rfl ?_
      refine v_call hT [] rfl rfl (by first | rfl | assumption) (by omega) rfl rfl (Nat.le_of_ble_eq_true rfl) (Nat.le_of_ble_eq_true rfl) (r2) ?_
      refine v_p hT rfl rfl ?_
      refine v_call hT [.int (nI k)] rfl rfl (by first | rfl | assumption) (by omega) rfl rfl (Nat.le_of_ble_eq_true rfl) (Nat.le_of_ble_eq_true rfl) (g1) ?_
      refine v_p hT rfl rfl ?_
      refine v_getr hT rfl rfl (by omega) rfl ?_
      refine v_p hT rfl rfl ?_
      refine v_ald hT rfl (by first | assumption | rfl) (by omega) (by decide) (by omega) ?_
      rw [h7F]
      refine v_ret hT rfl (fun z => by cases z) rfl ⟨rfl, rfl⟩
    · exact absurd (show ¬ (1 : Int32) = 0 by decide) cq
  · rw [pB_f c1]
    show ∃ f2, Run _ _ _ _ _ _ (Ret (some (.int (chg S (mI (2 + 0), S.1)).1)) _) ∧ RepM f2 (chg S (mI (2 + 0), S.1)).2 ∧ _
    rw [chg_no (by omega)]
    obtain ⟨fb, q1, q2, q3⟩ := m_bad2 (n := n) (kf := kf) hR
    refine ⟨fb, ?_, q2, q3⟩
    have hf : decide (nI 0 ≤ i ∧ i ≤ nI (bNt S.1) - nI 1) = false := by
      refine decide_eq_false (fun ⟨h1, h2⟩ => c1 ?_)
      by_cases hz : bNt S.1 = 0
      · rw [hz] at h2
        exact absurd (Int32.le_trans h1 h2) (by decide)
      · rw [pk_sub (by omega)] at h2
        obtain ⟨k, k1, k2⟩ := int_04 (by omega) ⟨h1, h2⟩
        exact ⟨k, by omega, k2⟩
    refine v_p hT rfl rfl ?_
    refine v_getr hT rfl rfl (by omega) rfl ?_
    refine v_p hT rfl rfl ?_
    refine v_ald hT rfl (by first | assumption | rfl) (by omega) (by decide) (by omega) ?_
    rw [h7]
    refine v_p hT rfl rfl ?_
    refine v_scall hT [.int i, .int (nI 0), .int (nI (bNt S.1) - nI 1)] rfl rfl rfl rfl (Nat.le_of_ble_eq_true rfl) (Nat.le_of_ble_eq_true rfl) (m_in i (nI 0) (nI (bNt S.1) - nI 1)) ?_
    rw [hf]
    refine g_if hT rfl (fun cq => ?_) (fun cq => ?_)
    · exact absurd rfl cq
    · refine v_p hT rfl rfl ?_
      refine v_call hT [] rfl rfl (by first | rfl | assumption) (by omega) rfl rfl (Nat.le_of_ble_eq_true rfl) (Nat.le_of_ble_eq_true rfl) (q1) ?_
      refine v_ret hT rfl (fun z => by cases z) rfl ⟨rfl, rfl⟩
theorem M_drops {S : ST} (hV : VS S) (s p : Int32) : MSp n_X7_drops [.int s, .int p] S (chg S (aDrop S.1 s p)) := by
  have hT : mT n_X7_drops = tb_X7_drops := rfl
  intro n kf f hR
  unfold aDrop
  cases c1 : isPa S.1 s p with
  | true =>
    obtain ⟨s0, p0, q1, q2, q3, q4⟩ := isPa_of c1
    have hn8 := hV.1.1.1 s0 q1
    have h10 := hV.1.1.2.2.2.2.1
    subst q3; subst q4
    rw [nI_tn (show s0 < 2 ^ 31 by omega), nI_tn (show p0 < 2 ^ 31 by omega)]
    obtain ⟨x1, x2⟩ := VB_drop hV.1 q1 q2
    show ∃ f2, Run _ _ _ _ _ _ (Ret (some (.int (chg S (nI (bNt S.1) - nI (tsOf s0 p0 (bNt S.1) (bT S.1)).1, bWT (bParGo S.1 s0 p0) (tsOf s0 p0 (bNt S.1) (bT S.1)))).1)) _) ∧ RepM f2 (chg S (nI (bNt S.1) - nI (tsOf s0 p0 (bNt S.1) (bT S.1)).1, bWT (bParGo S.1 s0 p0) (tsOf s0 p0 (bNt S.1) (bT S.1)))).2 ∧ _
    rw [pk_sub x2, chg_ok (show bNt S.1 - (tsOf s0 p0 (bNt S.1) (bT S.1)).1 < 1000 by omega)]
    obtain ⟨f1, f2, r1, r2, hn, hst, h98, hfr⟩ := m_first (n := n) (kf := kf) hV hR
    have h7 : f2 100 7 = nI (bNt S.1) := hn.2.2.2.1
    have hok : tsOk (bT S.1) := ⟨h10, fun z i hz hi => by
      have h5 := hV.1.1.2.2.2.2.2 i hi
      have h6 := hV.1.1.1 0 (by omega)
      have h7 := hV.1.1.1 1 (by omega)
      rcases (show z = 0 ∨ z = 1 by omega) with e | e
      · subst e; have := h5.1; show bTi S.1 0 i < 100; omega
      · subst e; have := h5.2.1; show bTi S.1 1 i < 100; omega⟩
    obtain ⟨F, g1, g2, g3, g4, g5⟩ := m_dropLoop (n := n) (kf := kf) (B := S.1) (s := s0) (p := p0) (nb := bNt S.1) q1 (by omega) h10 (VBw_of hV.1.1) (bNt S.1) f2 (bT S.1) hn hok (Nat.le_refl _) (Nat.le_refl _)
    obtain ⟨F2, y1, y2, y3, y4⟩ := m_dropTail (n := n) (kf := kf) (f := F) (s := s0) (p := p0) (g := bNt S.1 - (tsOf s0 p0 (bNt S.1) (bT S.1)).1) g2 ⟨(VBw_of hV.1.1).1, (VBw_of hV.1.1).2.1, g3.1⟩ q1 q2
    refine ⟨F2, ?_, RepM_mk hR y2 (stM_fr hst (by rw [y3, upd_ne (by omega), g4 3 (by omega)]) (by rw [y4 101 (by omega) (by omega), g5 101 (by omega) (by omega)])) (by rw [y3, upd_eq]) (by rw [y3, upd_ne (by omega), g4 16 (by omega), h98 16 (by omega)]) (by rw [y4 99 (by omega) (by omega), g5 99 (by omega) (by omega), hfr 99 (by omega) (by omega)]) (by rw [y4 109 (by omega) (by omega), g5 109 (by omega) (by omega), hfr 109 (by omega) (by omega)]), fun c hc => by rw [y4 c (by omega) (by omega), g5 c (by omega) (by omega), hfr c (by omega) (by omega)]⟩
    refine v_p hT rfl rfl ?_
    refine v_call hT [.int (nI s0), .int (nI p0)] rfl rfl (by first | rfl | assumption) (by omega) rfl rfl (Nat.le_of_ble_eq_true rfl) (Nat.le_of_ble_eq_true rfl) (m_isPara hR.1 hV.1.1 (nI s0) (nI p0)) ?_
    rw [c1]
    refine g_if hT rfl (fun cq => ?_) (fun cq => ?_)
    · refine v_p hT rfl rfl ?_
      refine v_call hT [.int (nI 6)] rfl rfl (by first | rfl | assumption) (by omega) rfl rfl (Nat.le_of_ble_eq_true rfl) (Nat.le_of_ble_eq_true rfl) (r1) ?_
      refine v_p hT rfl rfl ?_
      refine v_call hT [] rfl rfl (by first | rfl | assumption) (by omega) rfl rfl (Nat.le_of_ble_eq_true rfl) (Nat.le_of_ble_eq_true rfl) (r2) ?_
      refine v_p hT rfl rfl ?_
      refine v_getr hT rfl rfl (by omega) rfl ?_
      refine v_p hT rfl rfl ?_
      refine v_ald hT rfl (by first | assumption | rfl) (by omega) (by decide) (by omega) ?_
      rw [h7]
      refine v_p hT rfl rfl ?_
      rw [prI_sub]
      refine v_cv (g1 _ y1) ⟨rfl, rfl, rfl, ?_, rfl, trivial⟩ rfl rfl
      show _ = Value.int (nI 0)
      rw [show bNt S.1 - (bT S.1).1 = 0 from Nat.sub_self _]
    · exact absurd (show ¬ (1 : Int32) = 0 by decide) cq
  | false =>
    show ∃ f2, Run _ _ _ _ _ _ (Ret (some (.int (chg S (mI (2 + 0), S.1)).1)) _) ∧ RepM f2 (chg S (mI (2 + 0), S.1)).2 ∧ _
    rw [chg_no (by omega)]
    obtain ⟨fb, q1, q2, q3⟩ := m_bad2 (n := n) (kf := kf) hR
    refine ⟨fb, ?_, q2, q3⟩
    refine v_p hT rfl rfl ?_
    refine v_call hT [.int s, .int p] rfl rfl (by first | rfl | assumption) (by omega) rfl rfl (Nat.le_of_ble_eq_true rfl) (Nat.le_of_ble_eq_true rfl) (m_isPara hR.1 hV.1.1 s p) ?_
    rw [c1]
    refine g_if hT rfl (fun cq => ?_) (fun cq => ?_)
    · exact absurd rfl cq
    · refine v_p hT rfl rfl ?_
      refine v_call hT [] rfl rfl (by first | rfl | assumption) (by omega) rfl rfl (Nat.le_of_ble_eq_true rfl) (Nat.le_of_ble_eq_true rfl) (q1) ?_
      refine v_ret hT rfl (fun z => by cases z) rfl ⟨rfl, rfl⟩
