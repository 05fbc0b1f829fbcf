/-! THE REFERENCE: a number, the numbers of an order. -/
def frT (f F : Nat → Nat → Int32) : Prop := (∀ i, i ≠ 17 → i ≠ 18 → F 98 i = f 98 i) ∧ ∀ c, c ≠ 98 → F c = f c
theorem frT_trans {f F G : Nat → Nat → Int32} (h1 : frT f F) (h2 : frT F G) : frT f G := ⟨fun i h h' => by rw [h2.1 i h h', h1.1 i h h'], fun c hc => by rw [h2.2 c hc, h1.2 c hc]⟩
theorem frT_set {f : Nat → Nat → Int32} {k : Nat} {x : Int32} (hk : k = 17 ∨ k = 18) : frT f (hset f 98 k x) := ⟨fun i h h' => by rw [hs_s, pk_un (by omega)], fun c hc => hset_ne hc⟩
theorem txM_fr {f F : Nat → Nat → Int32} {t : TX} (h : txM f t) (hf : frT f F) : txM F t := ⟨by rw [hf.1 16 (by omega) (by omega)]; exact h.1, fun k hk => by rw [hf.2 109 (by omega)]; exact h.2 k hk⟩
theorem m_numA {n i : Nat} {v : Int32} {x : Option Value} {kf : Nat → Nat} {f : Nat → Nat → Int32} {t : TX} (hV : VT t) (ht : txM f t) (h17 : f 98 17 = nI i) (hit : i ≤ t.1) (hq : f 98 18 = bI true ∨ (f 98 18 = bI false ∧ ¬ dgT t i)) :
    Run n_X7_number 110 32 [some (.ref 98), some (.int v), x] [.ref 98] (HH n kf f) (Ret (some (.int v)) (HH n kf (hset f 98 17 (nI (blkF t i))))) := by
  have hT : mT n_X7_number = tb_X7_number := rfl
  have ends : Run n_X7_number 110 119 [some (.ref 98), some (.int v), x] [] (HH n kf f) (Ret (some (.int v)) (HH n kf (hset f 98 17 (nI (blkF t i))))) := by
    refine v_p hT rfl rfl ?_
    refine v_call hT [] rfl rfl (by first | rfl | assumption) (by omega) rfl rfl (Nat.le_of_ble_eq_true rfl) (Nat.le_of_ble_eq_true rfl) (m_blanks hV (t.1 - i) i (by omega) f ht h17) ?_
    refine v_p hT rfl rfl ?_
    refine v_ret hT rfl (fun z => by cases z) rfl ⟨rfl, rfl⟩
  refine v_geti hT rfl (by first | rfl | assumption) (by omega) ?_
  rcases hq with hq | ⟨hq, hd⟩
  · rw [hq]
    refine g_if hT rfl (fun cq => ?_) (fun cq => ?_)
    · exact ends
    · exact absurd (show ¬ (1 : Int32) = 0 by decide) cq
  · rw [hq]
    refine g_if hT rfl (fun cq => ?_) (fun cq => ?_)
    · exact absurd rfl cq
    · refine v_p hT rfl rfl ?_
      refine v_call hT [.int (nI 48), .int (nI 57)] rfl rfl (by first | rfl | assumption) (by omega) rfl rfl (Nat.le_of_ble_eq_true rfl) (Nat.le_of_ble_eq_true rfl) (m_isAt hV ht h17 hit (by omega) (by omega)) ?_
      rw [decide_eq_false (show ¬ (i < t.1 ∧ 48 ≤ t.2 i ∧ t.2 i ≤ 57) from hd)]
      refine g_if hT rfl (fun cq2 => ?_) (fun cq2 => ?_)
      · exact ends
      · exact absurd rfl cq2
theorem m_numB {n i v g w : Nat} {kf : Nat → Nat} {f : Nat → Nat → Int32} {t : TX} (hV : VT t) (ht : txM f t) (h17 : f 98 17 = nI i) (h18 : f 98 18 = bI false) (hd : dgT t i) (hg : g < 2) (hw : w = 10 * v + (t.2 i - 48)) :
    ∃ F, (∀ Φ, Run n_X7_number 110 32 [some (.ref 98), some (.int (nI w)), some (.int (nI (g + 1)))] [.ref 98] (HH n kf F) Φ → Run n_X7_number 110 32 [some (.ref 98), some (.int (nI v)), some (.int (nI g))] [.ref 98] (HH n kf f) Φ) ∧ F 98 17 = nI (i + 1) ∧ F 98 18 = bI false ∧ frT f F := by
  have hT : mT n_X7_number = tb_X7_number := rfl
  have h120 := hV.1
  have hd1 := hd.1
  have hd2 := hd.2.1
  refine ⟨hset (hset f 98 18 (nI 0)) 98 17 (nI (i + 1)), fun Φ hΦ => ?_, by rw [hs_s, pk_us], by rw [hs_s, pk_un (by omega), hs_s, pk_us]; rfl, frT_trans (frT_set (Or.inr rfl)) (frT_set (Or.inl rfl))⟩
  have e17 : hset f 98 18 (nI 0) 98 17 = nI i := by rw [hs_s, pk_un (by omega)]; exact h17
  have e18 : hset f 98 18 (nI 0) 98 18 = nI 0 := by rw [hs_s, pk_us]
  have e109 : hset f 98 18 (nI 0) 109 i = nI (t.2 i) := by rw [hset_ne (by omega)]; exact ht.2 i hd1
  refine v_geti hT rfl (by first | rfl | assumption) (by omega) ?_
  rw [h18]
  refine g_if hT rfl (fun cq => ?_) (fun cq => ?_)
  · exact absurd rfl cq
  · refine v_p hT rfl rfl ?_
    refine v_call hT [.int (nI 48), .int (nI 57)] rfl rfl (by first | rfl | assumption) (by omega) rfl rfl (Nat.le_of_ble_eq_true rfl) (Nat.le_of_ble_eq_true rfl) (m_isAt hV ht h17 (by omega) (by omega) (by omega)) ?_
    rw [decide_eq_true (show i < t.1 ∧ 48 ≤ t.2 i ∧ t.2 i ≤ 57 from hd)]
    refine g_if hT rfl (fun cq2 => ?_) (fun cq2 => ?_)
    · cases bf_of cq2
    · refine v_p hT rfl rfl ?_
      rw [nI_add]
      refine g_cmp hT rfl (fun cq3 => ?_) (fun cq3 => ?_)
      · refine v_p hT rfl rfl ?_
        refine v_puti hT rfl rfl (by omega) (fun _ => Or.inl rfl) ?_
        refine v_p hT rfl rfl ?_
        refine v_geti hT rfl (by first | rfl | assumption) (by omega) ?_
        rw [e18]
        refine g_if hT rfl (fun cq4 => ?_) (fun cq4 => ?_)
        · refine v_p hT rfl rfl ?_
          refine v_getr hT rfl rfl (by omega) rfl ?_
          refine v_p hT rfl rfl ?_
          refine v_geti hT rfl (by first | rfl | assumption) (by omega) ?_
          rw [e17]
          refine v_ald hT rfl rfl (by omega) (by decide) (show i < 120 by omega) ?_
          rw [e109]
          refine v_p hT rfl rfl ?_
          rw [pk_mul, nI_add, pk_sub (by omega), show 10 * v + t.2 i - 48 = w by omega]
          refine v_geti hT rfl (by first | rfl | assumption) (by omega) ?_
          rw [e17]
          refine v_p hT rfl rfl ?_
          refine v_geti hT rfl (by first | rfl | assumption) (by omega) ?_
          rw [e18]
          refine g_if hT rfl (fun cq5 => ?_) (fun cq5 => ?_)
          · refine v_p hT rfl rfl ?_
            rw [nI_add]
            refine v_puti hT rfl rfl (by omega) (fun z => by cases z) ?_
            refine v_p hT rfl rfl ?_
            exact hΦ
          · exact absurd rfl cq5
        · exact absurd rfl cq4
      · exact absurd ((cj_le (by omega) (by omega)).mpr (by omega)) cq3
theorem m_numC {n i : Nat} {v : Int32} {kf : Nat → Nat} {f : Nat → Nat → Int32} {t : TX} (hV : VT t) (ht : txM f t) (h17 : f 98 17 = nI i) (h18 : f 98 18 = bI false) (hd : dgT t i) :
    ∃ F, (∀ Φ, Run n_X7_number 110 32 [some (.ref 98), some (.int v), some (.int (nI 3))] [.ref 98] (HH n kf F) Φ → Run n_X7_number 110 32 [some (.ref 98), some (.int v), some (.int (nI 2))] [.ref 98] (HH n kf f) Φ) ∧ F 98 17 = nI i ∧ F 98 18 = bI true ∧ frT f F := by
  have hT : mT n_X7_number = tb_X7_number := rfl
  have h120 := hV.1
  have hd1 := hd.1
  refine ⟨hset (hset f 98 18 (nI 1)) 98 17 (nI i), fun Φ hΦ => ?_, by rw [hs_s, pk_us], by rw [hs_s, pk_un (by omega), hs_s, pk_us]; rfl, frT_trans (frT_set (Or.inr rfl)) (frT_set (Or.inl rfl))⟩
  have e17 : hset f 98 18 (nI 1) 98 17 = nI i := by rw [hs_s, pk_un (by omega)]; exact h17
  have e18 : hset f 98 18 (nI 1) 98 18 = nI 1 := by rw [hs_s, pk_us]
  refine v_geti hT rfl (by first | rfl | assumption) (by omega) ?_
  rw [h18]
  refine g_if hT rfl (fun cq => ?_) (fun cq => ?_)
  · exact absurd rfl cq
  · refine v_p hT rfl rfl ?_
    refine v_call hT [.int (nI 48), .int (nI 57)] rfl rfl (by first | rfl | assumption) (by omega) rfl rfl (Nat.le_of_ble_eq_true rfl) (Nat.le_of_ble_eq_true rfl) (m_isAt hV ht h17 (by omega) (by omega) (by omega)) ?_
    rw [decide_eq_true (show i < t.1 ∧ 48 ≤ t.2 i ∧ t.2 i ≤ 57 from hd)]
    refine g_if hT rfl (fun cq2 => ?_) (fun cq2 => ?_)
    · cases bf_of cq2
    · refine v_p hT rfl rfl ?_
      rw [nI_add]
      refine g_cmp hT rfl (fun cq3 => ?_) (fun cq3 => ?_)
      · exact absurd ((cj_le (by omega) (by omega)).mp cq3) (by omega)
      · refine v_p hT rfl rfl ?_
        refine v_puti hT rfl rfl (by omega) (fun _ => Or.inr rfl) ?_
        refine v_p hT rfl rfl ?_
        refine v_geti hT rfl (by first | rfl | assumption) (by omega) ?_
        rw [e18]
        refine g_if hT rfl (fun cq4 => ?_) (fun cq4 => ?_)
        · exact absurd cq4 (show ¬ nI 1 = 0 by decide)
        · refine v_p hT rfl rfl ?_
          refine v_geti hT rfl (by first | rfl | assumption) (by omega) ?_
          rw [e17]
          refine v_p hT rfl rfl ?_
          refine v_geti hT rfl (by first | rfl | assumption) (by omega) ?_
          rw [e18]
          refine g_if hT rfl (fun cq5 => ?_) (fun cq5 => ?_)
          · exact absurd cq5 (show ¬ nI 1 = 0 by decide)
          · refine v_p hT rfl rfl ?_
            rw [nI_add]
            refine v_puti hT rfl rfl (by omega) (fun z => by cases z) ?_
            refine v_p hT rfl rfl ?_
            exact hΦ
theorem m_number {n j : Nat} {kf : Nat → Nat} {f : Nat → Nat → Int32} {t : TX} (hV : VT t) (ht : txM f t) (h17 : f 98 17 = nI j) (h18 : f 98 18 = bI false) (hj : j ≤ t.1) :
    ∃ F, Run n_X7_number 110 0 (ini n_X7_number [.ref 98]) [] (HH n kf f) (Ret (some (.int (nI (nmF t j).2.2))) (HH n kf F)) ∧ F 98 17 = nI (nmF t j).2.1 ∧ F 98 18 = bI (nmF t j).1 ∧ frT f F := by
  have hT : mT n_X7_number = tb_X7_number := rfl
  have start : ∀ b, (dgT t j ↔ b = false) → ∀ Φ, Run n_X7_number 110 32 [some (.ref 98), some (.int (nI 0)), some (.int (nI 0))] [.ref 98] (HH n kf (hset f 98 18 (bI b))) Φ → Run n_X7_number 110 0 (ini n_X7_number [.ref 98]) [] (HH n kf f) Φ := by
    intro b hb Φ hΦ
    refine v_p hT rfl rfl ?_
    refine v_geti hT rfl (by first | rfl | assumption) (by omega) ?_
    rw [h18]
    refine g_if hT rfl (fun cq => ?_) (fun cq => ?_)
    · exact absurd rfl cq
    · refine v_p hT rfl rfl ?_
      refine v_call hT [.int (nI 48), .int (nI 57)] rfl rfl (by first | rfl | assumption) (by omega) rfl rfl (Nat.le_of_ble_eq_true rfl) (Nat.le_of_ble_eq_true rfl) (m_isAt hV ht h17 hj (by omega) (by omega)) ?_
      cases b with
      | false =>
        rw [decide_eq_true (show j < t.1 ∧ 48 ≤ t.2 j ∧ t.2 j ≤ 57 from hb.mpr rfl)]
        refine g_if hT rfl (fun cq2 => ?_) (fun cq2 => ?_)
        · refine v_p hT rfl rfl ?_
          refine v_puti hT rfl rfl (by omega) (fun _ => Or.inl rfl) ?_
          refine v_p hT rfl rfl ?_
          exact hΦ
        · exact absurd (show ¬ (1 : Int32) = 0 by decide) cq2
      | true =>
        rw [decide_eq_false (show ¬ (j < t.1 ∧ 48 ≤ t.2 j ∧ t.2 j ≤ 57) from fun z => absurd (hb.mp z) (by decide))]
        refine g_if hT rfl (fun cq2 => ?_) (fun cq2 => ?_)
        · exact absurd rfl cq2
        · refine v_p hT rfl rfl ?_
          refine v_puti hT rfl rfl (by omega) (fun _ => Or.inr rfl) ?_
          refine v_p hT rfl rfl ?_
          exact hΦ
  unfold nmF
  by_cases d0 : dgT t j
  · rw [pB_t d0]
    have z0 := d0.1
    have hf1 : frT f (hset f 98 18 (bI false)) := frT_set (Or.inr rfl)
    obtain ⟨F1, a1, a2, a3, a4⟩ := m_numB (n := n) (kf := kf) (v := 0) (g := 0) (w := t.2 j - 48) hV (txM_fr ht hf1) (show hset f 98 18 (bI false) 98 17 = nI j by rw [hs_s, pk_un (by omega)]; exact h17) (by rw [hs_s, pk_us]) d0 (by omega) (by omega)
    have hf2 := frT_trans hf1 a4
    have st1 := fun Φ hΦ => start false ⟨fun _ => rfl, fun _ => d0⟩ Φ (a1 Φ hΦ)
    by_cases d1 : dgT t (j + 1)
    · rw [pB_t d1]
      have z1 := d1.1
      obtain ⟨F2, b1, b2, b3, b4⟩ := m_numB (n := n) (kf := kf) (v := t.2 j - 48) (g := 1) (w := (t.2 j - 48) * 10 + (t.2 (j + 1) - 48)) hV (txM_fr ht hf2) a2 a3 d1 (by omega) (by omega)
      have hf3 := frT_trans hf2 b4
      have st2 := fun Φ hΦ => st1 Φ (b1 Φ hΦ)
      by_cases d2 : dgT t (j + 2)
      · rw [pB_t d2]
        obtain ⟨F3, c1, c2, c3, c4⟩ := m_numC (n := n) (kf := kf) (v := nI ((t.2 j - 48) * 10 + (t.2 (j + 1) - 48))) hV (txM_fr ht hf3) b2 b3 d2
        have hf4 := frT_trans hf3 c4
        exact ⟨_, st2 _ (c1 _ (m_numA hV (txM_fr ht hf4) c2 (by omega) (Or.inl c3))), by rw [hs_s, pk_us]; rfl, by rw [hs_s, pk_un (by omega), c3]; rfl, frT_trans hf4 (frT_set (Or.inl rfl))⟩
      · rw [pB_f d2]
        exact ⟨_, st2 _ (m_numA hV (txM_fr ht hf3) b2 (by omega) (Or.inr ⟨b3, d2⟩)), by rw [hs_s, pk_us]; rfl, by rw [hs_s, pk_un (by omega), b3]; rfl, frT_trans hf3 (frT_set (Or.inl rfl))⟩
    · rw [pB_f d1]
      exact ⟨_, st1 _ (m_numA hV (txM_fr ht hf2) a2 (by omega) (Or.inr ⟨a3, d1⟩)), by rw [hs_s, pk_us]; rfl, by rw [hs_s, pk_un (by omega), a3]; rfl, frT_trans hf2 (frT_set (Or.inl rfl))⟩
  · rw [pB_f d0]
    have hf1 : frT f (hset f 98 18 (bI true)) := frT_set (Or.inr rfl)
    have e18 : hset f 98 18 (bI true) 98 18 = bI true := by rw [hs_s, pk_us]
    exact ⟨_, start true ⟨fun z => absurd z d0, fun z => by cases z⟩ _ (m_numA hV (txM_fr ht hf1) (by rw [hs_s, pk_un (by omega)]; exact h17) hj (Or.inl e18)), by rw [hs_s, pk_us]; rfl, by rw [hs_s, pk_un (by omega), e18]; rfl, frT_trans hf1 (frT_set (Or.inl rfl))⟩
