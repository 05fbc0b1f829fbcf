/-! THE REFERENCE: an order is done. -/
def ordR (f F : Nat → Nat → Int32) (r : Int32 × BK) : Prop := (¬ r.1 < 0 → nowR (F 100) r.2 ∧ F 98 4 = nI 0) ∧ (∀ i, i ≠ 4 → F 98 i = f 98 i) ∧ ∀ c, c ≠ 98 → c ≠ 100 → F c = f c
theorem ordR_no {f : Nat → Nat → Int32} {r : Int32 × BK} {j : Nat} (hj : j < 3) (h : r.1 = mI (2 + j)) : ordR f f r := ⟨fun z => absurd (Int32.not_le.mp (neg_ge hj)) (by rw [← h]; exact z), fun _ _ => rfl, fun _ _ _ => rfl⟩
theorem ordR_yes {f F : Nat → Nat → Int32} {r : Int32 × BK} (h : comR f F r) : ordR f F r := by
  obtain ⟨h1, h2, h3⟩ := h
  refine ⟨fun z => ?_, fun i hi => by rw [h2, upd_ne hi], h3⟩
  rcases h1 with h1 | h1
  · exact absurd (Int32.not_le.mp (neg_ge (j := 2) (by omega))) (by rw [← show r.1 = mI (2 + 2) from h1]; exact z)
  · exact ⟨h1.2, by rw [h2, upd_eq]⟩
theorem m_doesOrder {n c k : Nat} {kf : Nat → Nat} {f : Nat → Nat → Int32} {B : BK} {ns : Nat → Nat} (hR : nowR (f 100) B) (hV : VB B) (hk : kOk c k) (h19 : f 98 19 = nI k) (hfr : ∀ i, i < k → f 102 i = nI (ns i)) :
    ∃ F, Run n_X7_doesOrder 110 0 (ini n_X7_doesOrder [.ref 98, .int (nI c)]) [] (HH n kf f) (Ret (some (.int (ordA B c ns k).1)) (HH n kf F)) ∧ ordR f F (ordA B c ns k) := by
  have hT : mT n_X7_doesOrder = tb_X7_doesOrder := rfl
  have start : ∀ Φ, Run n_X7_doesOrder 110 18 [some (.ref 98), some (.int (nI c)), some (.int (f 102 0)), some (.int (f 102 1)), some (.int (nI 0)), none] [.int (nI c)] (HH n kf f) Φ → Run n_X7_doesOrder 110 0 (ini n_X7_doesOrder [.ref 98, .int (nI c)]) [] (HH n kf f) Φ := by
    intro Φ hΦ
    refine v_p hT rfl rfl ?_
    refine v_getr hT rfl rfl (by omega) rfl ?_
    refine v_p hT rfl rfl ?_
    refine v_ald hT rfl (by first | assumption | rfl) (by omega) (by decide) (by omega) ?_
    refine v_p hT rfl rfl ?_
    refine v_getr hT rfl rfl (by omega) rfl ?_
    refine v_p hT rfl rfl ?_
    refine v_ald hT rfl (by first | assumption | rfl) (by omega) (by decide) (by omega) ?_
    refine v_p hT rfl rfl ?_
    exact hΦ
  obtain ⟨hm, hl, hM⟩ := hk
  -- the settings' end
  have setT : ∀ w, w < 3 → 1 ≤ k → ∃ F, Run n_X7_doesOrder 110 185 [some (.ref 98), some (.int (nI c)), some (.int (nI (ns 0))), some (.int (f 102 1)), some (.int (nI 0)), some (.int (nI w))] [.int (nI (ns 0)), .int (nI w)] (HH n kf f) (Ret (some (.int (aSet B (nI w) (nI (ns 0))).1)) (HH n kf F)) ∧ ordR f F (aSet B (nI w) (nI (ns 0))) := by
    intro w hw hk1
    have cs : Run n_X7_canSet 110 0 (ini n_X7_canSet [.int (nI w), .int (nI (ns 0))]) [] (HH n kf f) (Ret (some (.int (canS (nI w) (nI (ns 0))))) (HH n kf f)) := m_canSet _ _
    obtain ⟨oc, og⟩ := o_set (m := n) (kf := kf) hR hV (nI w) (nI (ns 0))
    rcases oc with ⟨jj, hj, e1, e2⟩ | e1
    · refine ⟨f, ?_, ordR_no hj e2⟩
      rw [e1] at cs
      rw [e2]
      refine v_scall hT [.int (nI w), .int (nI (ns 0))] rfl rfl rfl rfl (Nat.le_of_ble_eq_true rfl) (Nat.le_of_ble_eq_true rfl) (cs) ?_
      refine v_p hT rfl rfl ?_
      refine g_if hT rfl (fun cq => ?_) (fun cq => ?_)
      · exact absurd cq (neg_ge hj)
      · refine v_p hT rfl rfl ?_
        refine v_ret hT rfl (fun z => by cases z) rfl ⟨rfl, rfl⟩
    · obtain ⟨F, g1, g2⟩ := og e1
      refine ⟨F, ?_, ordR_yes g2⟩
      rw [e1] at cs
      refine v_scall hT [.int (nI w), .int (nI (ns 0))] rfl rfl rfl rfl (Nat.le_of_ble_eq_true rfl) (Nat.le_of_ble_eq_true rfl) (cs) ?_
      refine v_p hT rfl rfl ?_
      refine g_if hT rfl (fun cq => ?_) (fun cq => ?_)
      · refine v_p hT rfl rfl ?_
        refine v_call hT [.int (nI w), .int (nI (ns 0))] rfl rfl (by first | rfl | assumption) (by omega) rfl rfl (Nat.le_of_ble_eq_true rfl) (Nat.le_of_ble_eq_true rfl) (g1) ?_
        refine v_ret hT rfl (fun z => by cases z) rfl ⟨rfl, rfl⟩
      · exact absurd (show (0 : Int32) ≤ nI 0 by decide) cq
  -- a paragraph
  have parT : ∀ s, s < 2 → nI c - nI 97 = nI s → 1 ≤ k → k ≤ 12 → ∃ F, Run n_X7_doesOrder 110 60 [some (.ref 98), some (.int (nI c)), some (.int (f 102 0)), some (.int (f 102 1)), some (.int (nI 0)), none] [] (HH n kf f) (Ret (some (.int (aPar B s k (fun i => nI (ns i))).1)) (HH n kf F)) ∧ ordR f F (aPar B s k (fun i => nI (ns i))) := by
    intro s hs hc k1 k12
    have cp := m_canPara (m := n) (kf := kf) hR hV.1 (nI s) (nI k)
    obtain ⟨oc, og⟩ := o_par (m := n) (kf := kf) (ws := fun i => nI (ns i)) hR hV hs k1 k12 hfr
    rcases oc with ⟨jj, hj, e1, e2⟩ | e1
    · refine ⟨f, ?_, ordR_no hj e2⟩
      rw [e1] at cp
      rw [e2]
      refine v_p hT rfl rfl ?_
      refine v_geti hT rfl (by first | rfl | assumption) (by omega) ?_
      rw [h19, hc]
      refine v_call hT [.int (nI s), .int (nI k)] rfl rfl (by first | rfl | assumption) (by omega) rfl rfl (Nat.le_of_ble_eq_true rfl) (Nat.le_of_ble_eq_true rfl) (cp) ?_
      refine v_p hT rfl rfl ?_
      refine g_if hT rfl (fun cq => ?_) (fun cq => ?_)
      · exact absurd cq (neg_ge hj)
      · refine v_p hT rfl rfl ?_
        refine v_ret hT rfl (fun z => by cases z) rfl ⟨rfl, rfl⟩
    · obtain ⟨F, g1, g2⟩ := og e1
      refine ⟨F, ?_, ordR_yes g2⟩
      rw [e1] at cp
      refine v_p hT rfl rfl ?_
      refine v_geti hT rfl (by first | rfl | assumption) (by omega) ?_
      rw [h19, hc]
      refine v_call hT [.int (nI s), .int (nI k)] rfl rfl (by first | rfl | assumption) (by omega) rfl rfl (Nat.le_of_ble_eq_true rfl) (Nat.le_of_ble_eq_true rfl) (cp) ?_
      refine v_p hT rfl rfl ?_
      refine g_if hT rfl (fun cq => ?_) (fun cq => ?_)
      · refine v_p hT rfl rfl ?_
        refine v_geti hT rfl (by first | rfl | assumption) (by omega) ?_
        rw [h19, hc]
        refine v_call hT [.int (nI s), .int (nI k)] rfl rfl (by first | rfl | assumption) (by omega) rfl rfl (Nat.le_of_ble_eq_true rfl) (Nat.le_of_ble_eq_true rfl) (g1) ?_
        refine v_ret hT rfl (fun z => by cases z) rfl ⟨rfl, rfl⟩
      · exact absurd (show (0 : Int32) ≤ nI 0 by decide) cq
  unfold ordA
  rcases kinds7 hm with e | e | e | e | e | e | e
  · subst e
    rw [if_pos rfl]
    obtain ⟨F, g1, g2⟩ := parT 0 (by omega) (by decide) hl hM
    refine ⟨F, start _ ?_, g2⟩
    refine g_sw hT rfl (Or.inr rfl) (pc' := 60) rfl ?_
    exact g1
  · subst e
    rw [if_neg (by omega), if_pos rfl]
    obtain ⟨F, g1, g2⟩ := parT 1 (by omega) (by decide) hl hM
    refine ⟨F, start _ ?_, g2⟩
    refine g_sw hT rfl (Or.inr rfl) (pc' := 60) rfl ?_
    exact g1
  · subst e
    rw [if_neg (by omega), if_neg (by omega), if_pos rfl]
    have hl : 3 ≤ k := hl
    rw [hfr 0 (by omega), hfr 1 (by omega)] at start
    have ct := m_canTie (n := n) (kf := kf) hR hV.1 (nI (ns 0)) (nI (ns 1)) (nI (ns 2))
    obtain ⟨oc, og⟩ := o_tie (m := n) (kf := kf) hR hV (nI (ns 0)) (nI (ns 1)) (nI (ns 2))
    rcases oc with ⟨jj, hj, e1, e2⟩ | e1
    · refine ⟨f, start _ ?_, ordR_no hj e2⟩
      rw [e1] at ct
      rw [e2]
      refine g_sw hT rfl (Or.inr rfl) (pc' := 97) rfl ?_
      refine v_p hT rfl rfl ?_
      refine v_getr hT rfl rfl (by omega) rfl ?_
      refine v_p hT rfl rfl ?_
      refine v_ald hT rfl (by first | assumption | rfl) (by omega) (by decide) (by omega) ?_
      rw [hfr 2 (by omega)]
      refine v_call hT [.int (nI (ns 0)), .int (nI (ns 1)), .int (nI (ns 2))] rfl rfl (by first | rfl | assumption) (by omega) rfl rfl (Nat.le_of_ble_eq_true rfl) (Nat.le_of_ble_eq_true rfl) (ct) ?_
      refine v_p hT rfl rfl ?_
      refine g_if hT rfl (fun cq => ?_) (fun cq => ?_)
      · exact absurd cq (neg_ge hj)
      · refine v_p hT rfl rfl ?_
        refine v_ret hT rfl (fun z => by cases z) rfl ⟨rfl, rfl⟩
    · obtain ⟨F, g1, g2⟩ := og e1
      refine ⟨F, start _ ?_, ordR_yes g2⟩
      rw [e1] at ct
      refine g_sw hT rfl (Or.inr rfl) (pc' := 97) rfl ?_
      refine v_p hT rfl rfl ?_
      refine v_getr hT rfl rfl (by omega) rfl ?_
      refine v_p hT rfl rfl ?_
      refine v_ald hT rfl (by first | assumption | rfl) (by omega) (by decide) (by omega) ?_
      rw [hfr 2 (by omega)]
      refine v_call hT [.int (nI (ns 0)), .int (nI (ns 1)), .int (nI (ns 2))] rfl rfl (by first | rfl | assumption) (by omega) rfl rfl (Nat.le_of_ble_eq_true rfl) (Nat.le_of_ble_eq_true rfl) (ct) ?_
      refine v_p hT rfl rfl ?_
      refine g_if hT rfl (fun cq => ?_) (fun cq => ?_)
      · refine v_p hT rfl rfl ?_
        refine v_getr hT rfl rfl (by omega) rfl ?_
        refine v_p hT rfl rfl ?_
        refine v_ald hT rfl (by first | assumption | rfl) (by omega) (by decide) (by omega) ?_
        rw [hfr 2 (by omega)]
        refine v_call hT [.int (nI (ns 0)), .int (nI (ns 1)), .int (nI (ns 2))] rfl rfl (by first | rfl | assumption) (by omega) rfl rfl (Nat.le_of_ble_eq_true rfl) (Nat.le_of_ble_eq_true rfl) (g1) ?_
        refine v_ret hT rfl (fun z => by cases z) rfl ⟨rfl, rfl⟩
      · exact absurd (show (0 : Int32) ≤ nI 0 by decide) cq
  · subst e
    rw [if_neg (by omega), if_neg (by omega), if_neg (by omega), if_pos rfl]
    have hl : 2 ≤ k := hl
    rw [hfr 0 (by omega), hfr 1 (by omega)] at start
    have cw : Run n_X7_canWidth 110 0 (ini n_X7_canWidth [.ref 98, .int (nI (ns 0)), .int (nI (ns 1))]) [] (HH n kf f) (Ret (some (.int (canW (nI (ns 0)) (nI (ns 1))))) (HH n kf f)) := m_canWidth _ _
    obtain ⟨oc, og⟩ := o_wid (m := n) (kf := kf) hR hV (nI (ns 0)) (nI (ns 1))
    rcases oc with ⟨jj, hj, e1, e2⟩ | e1
    · refine ⟨f, start _ ?_, ordR_no hj e2⟩
      rw [e1] at cw
      rw [e2]
      refine g_sw hT rfl (Or.inr rfl) (pc' := 134) rfl ?_
      refine v_p hT rfl rfl ?_
      refine v_call hT [.int (nI (ns 0)), .int (nI (ns 1))] rfl rfl (by first | rfl | assumption) (by omega) rfl rfl (Nat.le_of_ble_eq_true rfl) (Nat.le_of_ble_eq_true rfl) (cw) ?_
      refine v_p hT rfl rfl ?_
      refine g_if hT rfl (fun cq => ?_) (fun cq => ?_)
      · exact absurd cq (neg_ge hj)
      · refine v_p hT rfl rfl ?_
        refine v_ret hT rfl (fun z => by cases z) rfl ⟨rfl, rfl⟩
    · obtain ⟨F, g1, g2⟩ := og e1
      refine ⟨F, start _ ?_, ordR_yes g2⟩
      rw [e1] at cw
      refine g_sw hT rfl (Or.inr rfl) (pc' := 134) rfl ?_
      refine v_p hT rfl rfl ?_
      refine v_call hT [.int (nI (ns 0)), .int (nI (ns 1))] rfl rfl (by first | rfl | assumption) (by omega) rfl rfl (Nat.le_of_ble_eq_true rfl) (Nat.le_of_ble_eq_true rfl) (cw) ?_
      refine v_p hT rfl rfl ?_
      refine g_if hT rfl (fun cq => ?_) (fun cq => ?_)
      · refine v_p hT rfl rfl ?_
        refine v_call hT [.int (nI (ns 0)), .int (nI (ns 1))] rfl rfl (by first | rfl | assumption) (by omega) rfl rfl (Nat.le_of_ble_eq_true rfl) (Nat.le_of_ble_eq_true rfl) (g1) ?_
        refine v_ret hT rfl (fun z => by cases z) rfl ⟨rfl, rfl⟩
      · exact absurd (show (0 : Int32) ≤ nI 0 by decide) cq
  · subst e
    rw [if_neg (by omega), if_neg (by omega), if_neg (by omega), if_neg (by omega), if_pos rfl]
    have hl : 1 ≤ k := hl
    rw [hfr 0 (by omega)] at start
    obtain ⟨F, g1, g2⟩ := setT 0 (by omega) hl
    refine ⟨F, start _ ?_, g2⟩
    refine g_sw hT rfl (Or.inr rfl) (pc' := 159) rfl ?_
    refine v_p hT rfl rfl ?_
    refine g_cmp hT rfl (fun cq => ?_) (fun cq => ?_)
    · exact absurd rfl cq
    · refine v_p hT rfl rfl ?_
      exact g1
  · subst e
    rw [if_neg (by omega), if_neg (by omega), if_neg (by omega), if_neg (by omega), if_neg (by omega), if_pos rfl]
    have hl : 1 ≤ k := hl
    rw [hfr 0 (by omega)] at start
    obtain ⟨F, g1, g2⟩ := setT 1 (by omega) hl
    refine ⟨F, start _ ?_, g2⟩
    refine g_sw hT rfl (Or.inr rfl) (pc' := 159) rfl ?_
    refine v_p hT rfl rfl ?_
    refine g_cmp hT rfl (fun cq => ?_) (fun cq => ?_)
    · refine v_p hT rfl rfl ?_
      refine g_cmp hT rfl (fun cq2 => ?_) (fun cq2 => ?_)
      · exact absurd rfl cq2
      · refine v_p hT rfl rfl ?_
        exact g1
    · exact absurd (show ¬ nI 108 = nI 104 by decide) cq
  · subst e
    rw [if_neg (by omega), if_neg (by omega), if_neg (by omega), if_neg (by omega), if_neg (by omega), if_neg (by omega), if_pos rfl]
    have hl : 1 ≤ k := hl
    rw [hfr 0 (by omega)] at start
    obtain ⟨F, g1, g2⟩ := setT 2 (by omega) hl
    refine ⟨F, start _ ?_, g2⟩
    refine g_sw hT rfl (Or.inr rfl) (pc' := 159) rfl ?_
    refine v_p hT rfl rfl ?_
    refine g_cmp hT rfl (fun cq => ?_) (fun cq => ?_)
    · refine v_p hT rfl rfl ?_
      refine g_cmp hT rfl (fun cq2 => ?_) (fun cq2 => ?_)
      · refine v_p hT rfl rfl ?_
        exact g1
      · exact absurd (show ¬ nI 115 = nI 108 by decide) cq2
    · exact absurd (show ¬ nI 115 = nI 104 by decide) cq
