/-! THE REFERENCE: what is asked. -/
theorem in_cnt {n : Nat} (hn : n < 1000) (i : Int32) : decide (nI 0 ≤ i ∧ i ≤ nI n - nI 1) = pB (∃ k, k < n ∧ i = nI k) := by
  by_cases c2 : ∃ k, k < n ∧ i = nI k
  · rw [pB_t c2]
    obtain ⟨k, hk, e⟩ := c2
    subst e
    rw [pk_sub (by omega)]
    exact decide_eq_true ⟨(cj_le (a := 0) (b := k) (by omega) (by omega)).mpr (by omega), (cj_le (a := k) (b := n - 1) (by omega) (by omega)).mpr (by omega)⟩
  · rw [pB_f c2]
    refine decide_eq_false (fun ⟨h1, h2⟩ => c2 ?_)
    by_cases hz : n = 0
    · rw [hz] at h2
      exact absurd (Int32.le_trans h1 h2) (by decide)
    · rw [pk_sub (by omega)] at h2
      obtain ⟨k, k1, k2⟩ := int_04 (by omega) ⟨h1, h2⟩
      exact ⟨k, by omega, k2⟩
theorem tk_at {f : Nat → Nat → Int32} {B : BK} (hk : knR f B) {k : Nat} (h : k < opN (lyP B)) : f 107 k = nI (pcF (lyP B) 0 (k + 1) - pcF (lyP B) 0 k) ∧ f 108 k = nI (pcF (lyP B) 1 (k + 1) - pcF (lyP B) 1 k) := hk.2.2.2.2 k h
theorem m_openingOf {n s l : Nat} {kf : Nat → Nat} {f : Nat → Nat → Int32} {B : BK} (hk : knR f B) (hV : VB B) (hs : s < 2) (hl : l < 1000) :
    Run n_X7_openingOf 110 0 (ini n_X7_openingOf [.ref 98, .int (nI s), .int (nI l)]) [] (HH n kf f) (Ret (some (.int (opW (lyP B) s l))) (HH n kf f)) := by
  have hT : mT n_X7_openingOf = tb_X7_openingOf := rfl
  have hP := lyP_bd hV
  have h120 := opN_le hP
  have h11 := hk.2.2.1
  have loop : ∀ d k, k + d = opN (lyP B) → ∀ v : Int32, ((v = mI 1 ∧ ∀ j, j < k → ¬ l < pcF (lyP B) s (j + 1)) ∨ ∃ q, q < k ∧ v = nI q ∧ pcF (lyP B) s q ≤ l ∧ l < pcF (lyP B) s (q + 1)) → Run n_X7_openingOf 110 14 [some (.ref 98), some (.int (nI s)), some (.int (nI l)), some (.int (nI (pcF (lyP B) s k))), some (.int v), some (.int (nI k)), none] [.int (opI (lyP B)), .int (nI k)] (HH n kf f) (Ret (some (.int (opW (lyP B) s l))) (HH n kf f)) := by
    intro d
    induction d with
    | zero =>
      intro k hd v hv
      refine g_cmp hT rfl (fun cq => ?_) (fun cq => ?_)
      · have e : opW (lyP B) s l = v := by
          rcases hv with ⟨v1, v2⟩ | ⟨q, q1, q2, q3, q4⟩
          · rw [v1]; exact opW_no (fun j hj => v2 j (by omega))
          · rw [q2]; exact opW_yes hP (by omega) q3 q4
        rw [e]
        refine v_p hT rfl rfl ?_
        refine v_ret hT rfl (fun z => by cases z) rfl ⟨rfl, rfl⟩
      · have cq : ¬ opI (lyP B) ≤ nI k := cq
        have := (op_cmp hP (show k < 2 ^ 31 by omega)).mp (Int32.not_le.mp cq)
        omega
    | succ d ih =>
      intro k hd v hv
      have hko : k < opN (lyP B) := by omega
      obtain ⟨t0, t1⟩ := tk_at hk hko
      obtain ⟨p1, p2⟩ := pc_1 hP (s := s) hko
      have fin : Run n_X7_openingOf 110 48 [some (.ref 98), some (.int (nI s)), some (.int (nI l)), some (.int (nI (pcF (lyP B) s k))), some (.int v), some (.int (nI k)), some (.int (nI (pcF (lyP B) s (k + 1) - pcF (lyP B) s k)))] [.int (nI (pcF (lyP B) s k) + nI (pcF (lyP B) s (k + 1) - pcF (lyP B) s k) - nI 1), .int (nI (pcF (lyP B) s k)), .int (nI l)] (HH n kf f) (Ret (some (.int (opW (lyP B) s l))) (HH n kf f)) := by
        rw [nI_add]
        refine v_scall hT [.int (nI l), .int (nI (pcF (lyP B) s k)), .int (nI (pcF (lyP B) s k + (pcF (lyP B) s (k + 1) - pcF (lyP B) s k)) - nI 1)] rfl rfl rfl rfl (Nat.le_of_ble_eq_true rfl) (Nat.le_of_ble_eq_true rfl) (m_in _ _ _) ?_
        rw [in_less (by omega) (by omega)]
        by_cases hin : pcF (lyP B) s k ≤ l ∧ l < pcF (lyP B) s (k + 1)
        · rw [decide_eq_true (show pcF (lyP B) s k ≤ l ∧ l < pcF (lyP B) s k + (pcF (lyP B) s (k + 1) - pcF (lyP B) s k) by omega)]
          refine g_if hT rfl (fun cq => ?_) (fun cq => ?_)
          · cases bf_of cq
          · refine v_p hT rfl rfl ?_
            refine v_geti hT rfl (by first | rfl | assumption) (by omega) ?_
            rw [h11]
            refine v_cv (ih (k + 1) (by omega) (nI k) (Or.inr ⟨k, by omega, rfl, hin⟩)) ⟨rfl, rfl, rfl, ?_, rfl, ?_, trivial⟩ ?_ rfl
            · rw [nI_add]; congr 2; omega
            · rw [nI_add]
            · rw [nI_add]; rfl
        · rw [decide_eq_false (show ¬ (pcF (lyP B) s k ≤ l ∧ l < pcF (lyP B) s k + (pcF (lyP B) s (k + 1) - pcF (lyP B) s k)) by omega)]
          refine g_if hT rfl (fun cq => ?_) (fun cq => ?_)
          · refine v_p hT rfl rfl ?_
            refine v_geti hT rfl (by first | rfl | assumption) (by omega) ?_
            rw [h11]
            refine v_cv (ih (k + 1) (by omega) v ?_) ⟨rfl, rfl, rfl, ?_, rfl, ?_, trivial⟩ ?_ rfl
            · rcases hv with ⟨v1, v2⟩ | ⟨q, q1, q2, q3, q4⟩
              · refine Or.inl ⟨v1, fun j hj => ?_⟩
                by_cases e : j = k
                · subst e
                  have h0 : pcF (lyP B) s j ≤ l := by
                    cases j with
                    | zero =>
                      have : pcF (lyP B) s 0 = 0 := by unfold pcF posF; split <;> rfl
                      omega
                    | succ i => have := v2 i (by omega); omega
                  omega
                · exact v2 j (by omega)
              · exact Or.inr ⟨q, by omega, q2, q3, q4⟩
            · rw [nI_add]; congr 2; omega
            · rw [nI_add]
            · rw [nI_add]; rfl
          · exact absurd rfl cq
      refine g_cmp hT rfl (fun cq => ?_) (fun cq => ?_)
      · have cq : opI (lyP B) ≤ nI k := cq
        exact absurd ((op_cmp hP (show k < 2 ^ 31 by omega)).mpr hko) (Int32.not_lt.mpr cq)
      · rcases (show s = 0 ∨ s = 1 by omega) with e | e
        · subst e
          refine v_p hT rfl rfl ?_
          refine g_if hT rfl (fun cq2 => ?_) (fun cq2 => ?_)
          · exact absurd rfl cq2
          · refine v_p hT rfl rfl ?_
            refine v_getr hT rfl rfl (by omega) rfl ?_
            refine v_p hT rfl rfl ?_
            refine v_ald hT rfl rfl (by omega) (by decide) (show k < 121 by omega) ?_
            rw [t0]
            refine v_p hT rfl rfl ?_
            exact fin
        · subst e
          refine v_p hT rfl rfl ?_
          refine g_if hT rfl (fun cq2 => ?_) (fun cq2 => ?_)
          · refine v_p hT rfl rfl ?_
            refine v_getr hT rfl rfl (by omega) rfl ?_
            refine v_p hT rfl rfl ?_
            refine v_ald hT rfl rfl (by omega) (by decide) (show k < 121 by omega) ?_
            rw [t1]
            refine v_p hT rfl rfl ?_
            exact fin
          · exact absurd (show ¬ nI 1 = 0 by decide) cq2
  refine v_p hT rfl rfl ?_
  refine v_geti hT rfl (by first | rfl | assumption) (by omega) ?_
  rw [h11]
  refine v_cv (loop (opN (lyP B)) 0 (by omega) (mI 1) (Or.inl ⟨rfl, fun j hj => absurd hj (Nat.not_lt_zero _)⟩)) ⟨rfl, rfl, rfl, ?_, rfl, rfl, trivial⟩ rfl rfl
  have : pcF (lyP B) s 0 = 0 := by unfold pcF posF; split <;> rfl
  rw [this]
theorem m_ofPara {n s p w : Nat} {kf : Nat → Nat} {f : Nat → Nat → Int32} {B : BK} (hR : nowR (f 100) B) (hk : knR f B) (hV : VB B) (hs : s < 2) (hp : p < bNp B s) (hw : w ≤ 4) :
    Run n_X7_ofPara 110 0 (ini n_X7_ofPara [.ref 98, .int (nI s), .int (nI p), .int (nI w)]) [] (HH n kf f) (Ret (some (.int (ofA B s p w))) (HH n kf f)) := by
  have hT : mT n_X7_ofPara = tb_X7_ofPara := rfl
  have h8 := hV.1.1 s hs
  have h60 := hV.2 s hs
  have hf1 : fstF B s p + linF B s p = fstF B s (p + 1) := rfl
  have hlp := linF_pos B s p
  have hm : fstF B s (p + 1) ≤ totF B s := fstF_mono B s (show p + 1 ≤ bNp B s by omega)
  rcases (show w = 0 ∨ w = 1 ∨ w = 2 ∨ w = 3 ∨ w = 4 by omega) with e | e | e | e | e
  · subst e
    refine v_p hT rfl rfl ?_
    refine g_sw hT rfl (Or.inl rfl) (pc' := 32) rfl ?_
    refine v_p hT rfl rfl ?_
    refine v_call hT [.int (nI s), .int (nI p)] rfl rfl (by first | rfl | assumption) (by omega) rfl rfl (Nat.le_of_ble_eq_true rfl) (Nat.le_of_ble_eq_true rfl) (m_wordsOf (by omega)) ?_
    rw [(hR.2.2.2.2.1 s p hs hp).1]
    refine v_ret hT rfl (fun z => by cases z) rfl ⟨rfl, rfl⟩
  · subst e
    refine v_p hT rfl rfl ?_
    refine g_sw hT rfl (Or.inl rfl) (pc' := 39) rfl ?_
    refine v_p hT rfl rfl ?_
    refine v_call hT [.int (nI s), .int (nI p)] rfl rfl (by first | rfl | assumption) (by omega) rfl rfl (Nat.le_of_ble_eq_true rfl) (Nat.le_of_ble_eq_true rfl) (m_linesOf hR hV.1 hs hp) ?_
    refine v_ret hT rfl (fun z => by cases z) rfl ⟨rfl, rfl⟩
  · subst e
    refine v_p hT rfl rfl ?_
    refine g_sw hT rfl (Or.inl rfl) (pc' := 46) rfl ?_
    refine v_p hT rfl rfl ?_
    refine v_call hT [.int (nI s), .int (nI p)] rfl rfl (by first | rfl | assumption) (by omega) rfl rfl (Nat.le_of_ble_eq_true rfl) (Nat.le_of_ble_eq_true rfl) (m_firstOf hR hV.1 hs (by omega)) ?_
    refine v_ret hT rfl (fun z => by cases z) rfl ⟨rfl, rfl⟩
  · subst e
    refine v_p hT rfl rfl ?_
    refine g_sw hT rfl (Or.inl rfl) (pc' := 53) rfl ?_
    refine v_p hT rfl rfl ?_
    refine v_call hT [.int (nI s), .int (nI p)] rfl rfl (by first | rfl | assumption) (by omega) rfl rfl (Nat.le_of_ble_eq_true rfl) (Nat.le_of_ble_eq_true rfl) (m_firstOf hR hV.1 hs (by omega)) ?_
    refine v_call hT [.int (nI s), .int (nI (fstF B s p))] rfl rfl (by first | rfl | assumption) (by omega) rfl rfl (Nat.le_of_ble_eq_true rfl) (Nat.le_of_ble_eq_true rfl) (m_openingOf hk hV hs (by omega)) ?_
    refine v_ret hT rfl (fun z => by cases z) rfl ⟨rfl, rfl⟩
  · subst e
    refine v_p hT rfl rfl ?_
    refine g_sw hT rfl (Or.inl rfl) (pc' := 65) rfl ?_
    refine v_p hT rfl rfl ?_
    rw [nI_add]
    refine v_call hT [.int (nI s), .int (nI (p + 1))] rfl rfl (by first | rfl | assumption) (by omega) rfl rfl (Nat.le_of_ble_eq_true rfl) (Nat.le_of_ble_eq_true rfl) (m_firstOf hR hV.1 hs (by omega)) ?_
    refine v_p hT rfl rfl ?_
    rw [pk_sub (by omega)]
    refine v_call hT [.int (nI s), .int (nI (fstF B s (p + 1) - 1))] rfl rfl (by first | rfl | assumption) (by omega) rfl rfl (Nat.le_of_ble_eq_true rfl) (Nat.le_of_ble_eq_true rfl) (m_openingOf hk hV hs (by omega)) ?_
    refine v_ret hT rfl (fun z => by cases z) rfl ⟨rfl, rfl⟩
theorem M_of {S : ST} (hV : VS S) (s p w : Int32) : MSp n_X7_of [.int s, .int p, .int w] S (oOf S s p w) := by
  have hT : mT n_X7_of = tb_X7_of := rfl
  intro n kf f hR
  obtain ⟨fb, q1, q2, q3⟩ := m_bad2 (n := n) (kf := kf) hR
  have hbad : Run n_X7_of 110 18 [some (.ref 98), some (.int s), some (.int p), some (.int w)] [] (HH n kf f) (Ret (some (.int (mI 2))) (HH n kf fb)) := by
    refine v_p hT rfl rfl ?_
    refine v_call hT [] rfl rfl (by first | rfl | assumption) (by omega) rfl rfl (Nat.le_of_ble_eq_true rfl) (Nat.le_of_ble_eq_true rfl) (q1) ?_
    refine v_ret hT rfl (fun z => by cases z) rfl ⟨rfl, rfl⟩
  unfold oOf
  cases c1 : isPa S.1 s p with
  | false =>
    rw [Bool.false_and]
    refine ⟨fb, ?_, q2, q3⟩
    refine v_p hT rfl rfl ?_
    refine v_call hT [.int s, .int p] rfl rfl (by first | rfl | assumption) (by omega) rfl rfl (Nat.le_of_ble_eq_true rfl) (Nat.le_of_ble_eq_true rfl) (m_isPara hR.1 hV.1.1 s p) ?_
    rw [c1]
    refine g_if hT rfl (fun cq => ?_) (fun cq => ?_)
    · exact hbad
    · exact absurd rfl cq
  | true =>
    by_cases c2 : nI 0 ≤ w ∧ w ≤ nI 4
    · obtain ⟨s2, p2, h1, h2, h3, h4⟩ := isPa_of c1
      obtain ⟨W, W1, W2⟩ := int_04 (by omega) c2
      obtain ⟨F, r1, r2, r3, r4⟩ := m_lays (n := n) (kf := kf) hV hR
      have h8 := hV.1.1.1 s2 h1
      rw [decide_eq_true c2]
      subst h3; subst h4; subst W2
      simp only [Bool.true_and, cond_true]
      rw [nI_tn (by omega), nI_tn (by omega), nI_tn (by omega)]
      refine ⟨F, ?_, r2, r4⟩
      refine v_p hT rfl rfl ?_
      refine v_call hT [.int (nI s2), .int (nI p2)] rfl rfl (by first | rfl | assumption) (by omega) rfl rfl (Nat.le_of_ble_eq_true rfl) (Nat.le_of_ble_eq_true rfl) (m_isPara hR.1 hV.1.1 (nI s2) (nI p2)) ?_
      rw [c1]
      refine g_if hT rfl (fun cq => ?_) (fun cq => ?_)
      · cases bf_of cq
      · refine v_p hT rfl rfl ?_
        refine v_scall hT [.int (nI W), .int (nI 0), .int (nI 4)] rfl rfl rfl rfl (Nat.le_of_ble_eq_true rfl) (Nat.le_of_ble_eq_true rfl) (m_in _ _ _) ?_
        rw [decide_eq_true c2]
        refine g_if hT rfl (fun cq2 => ?_) (fun cq2 => ?_)
        · refine v_p hT rfl rfl ?_
          refine v_call hT [] rfl rfl (by first | rfl | assumption) (by omega) rfl rfl (Nat.le_of_ble_eq_true rfl) (Nat.le_of_ble_eq_true rfl) (r1) ?_
          refine v_p hT rfl rfl ?_
          refine v_call hT [.int (nI s2), .int (nI p2), .int (nI W)] rfl rfl (by first | rfl | assumption) (by omega) rfl rfl (Nat.le_of_ble_eq_true rfl) (Nat.le_of_ble_eq_true rfl) (m_ofPara r2.1 r3 hV.1 h1 h2 W1) ?_
          refine v_ret hT rfl (fun z => by cases z) rfl ⟨rfl, rfl⟩
        · exact absurd (show ¬ (1 : Int32) = 0 by decide) cq2
    · rw [decide_eq_false c2, Bool.and_false]
      refine ⟨fb, ?_, q2, q3⟩
      refine v_p hT rfl rfl ?_
      refine v_call hT [.int s, .int p] rfl rfl (by first | rfl | assumption) (by omega) rfl rfl (Nat.le_of_ble_eq_true rfl) (Nat.le_of_ble_eq_true rfl) (m_isPara hR.1 hV.1.1 s p) ?_
      rw [c1]
      refine g_if hT rfl (fun cq => ?_) (fun cq => ?_)
      · cases bf_of cq
      · refine v_p hT rfl rfl ?_
        refine v_scall hT [.int w, .int (nI 0), .int (nI 4)] rfl rfl rfl rfl (Nat.le_of_ble_eq_true rfl) (Nat.le_of_ble_eq_true rfl) (m_in _ _ _) ?_
        rw [decide_eq_false c2]
        refine g_if hT rfl (fun cq2 => ?_) (fun cq2 => ?_)
        · exact absurd rfl cq2
        · exact hbad
theorem m_crosses {n i : Nat} {kf : Nat → Nat} {f : Nat → Nat → Int32} {B : BK} (hR : nowR (f 100) B) (hV : VB0 B) (hi : i < bNt B) :
    Run n_X7_crosses 110 0 (ini n_X7_crosses [.ref 98, .int (nI i)]) [] (HH n kf f) (Ret (some (.int (nI (rowN B i (bNt B))))) (HH n kf f)) := by
  have hT : mT n_X7_crosses = tb_X7_crosses := rfl
  have h10 := hV.2.2.2.2.1
  have h7 : f 100 7 = nI (bNt B) := hR.2.2.2.1
  have loop : ∀ d j, j + d = bNt B → Run n_X7_crosses 110 12 [some (.ref 98), some (.int (nI i)), some (.int (nI (rowN B i j))), some (.int (nI j))] [.int (nI (bNt B)), .int (nI j)] (HH n kf f) (Ret (some (.int (nI (rowN B i (bNt B))))) (HH n kf f)) := by
    intro d
    induction d with
    | zero =>
      intro j hj
      obtain rfl : j = bNt B := by omega
      refine g_cmp hT rfl (fun cq => ?_) (fun cq => ?_)
      · refine v_p hT rfl rfl ?_
        refine v_ret hT rfl (fun z => by cases z) rfl ⟨rfl, rfl⟩
      · exact absurd ((cj_ge (by omega) (by omega)).mpr (by omega)) cq
    | succ d ih =>
      intro j hj
      have ih' := ih (j + 1) (by omega)
      refine g_cmp hT rfl (fun cq => ?_) (fun cq => ?_)
      · exact absurd ((cj_ge (by omega) (by omega)).mp cq) (by omega)
      · refine v_p hT rfl rfl ?_
        refine v_call hT [.int (nI i), .int (nI j)] rfl rfl (by first | rfl | assumption) (by omega) rfl rfl (Nat.le_of_ble_eq_true rfl) (Nat.le_of_ble_eq_true rfl) (m_areCrossing hR hV hi (by omega)) ?_
        cases hc : crossB B i j with
        | false =>
          rw [show rowN B i (j + 1) = rowN B i j + 0 by show rowN B i j + _ = _; rw [hc]; rfl] at ih'
          refine g_if hT rfl (fun cq2 => ?_) (fun cq2 => ?_)
          · refine v_p hT rfl rfl ?_
            refine v_getr hT rfl rfl (by omega) rfl ?_
            refine v_p hT rfl rfl ?_
            refine v_ald hT rfl (by first | assumption | rfl) (by omega) (by decide) (by omega) ?_
            rw [h7]
            refine v_cv ih' ⟨rfl, rfl, ?_, ?_, trivial⟩ ?_ rfl
            · rw [nI_add]
            · rw [nI_add]
            · rw [nI_add]
          · exact absurd rfl cq2
        | true =>
          rw [show rowN B i (j + 1) = rowN B i j + 1 by show rowN B i j + _ = _; rw [hc]; rfl] at ih'
          refine g_if hT rfl (fun cq2 => ?_) (fun cq2 => ?_)
          · exact absurd cq2 (show ¬ (1 : Int32) = 0 by decide)
          · refine v_p hT rfl rfl ?_
            refine v_getr hT rfl rfl (by omega) rfl ?_
            refine v_p hT rfl rfl ?_
            refine v_ald hT rfl (by first | assumption | rfl) (by omega) (by decide) (by omega) ?_
            rw [h7]
            refine v_cv ih' ⟨rfl, rfl, ?_, ?_, trivial⟩ ?_ rfl
            · rw [nI_add]
            · rw [nI_add]
            · rw [nI_add]
  refine v_p hT rfl rfl ?_
  refine v_getr hT rfl rfl (by omega) rfl ?_
  refine v_p hT rfl rfl ?_
  refine v_ald hT rfl (by first | assumption | rfl) (by omega) (by decide) (by omega) ?_
  rw [h7]
  exact loop (bNt B) 0 (by omega)
theorem m_tieIs {n i w : Nat} {kf : Nat → Nat} {f : Nat → Nat → Int32} {B : BK} (hR : nowR (f 100) B) (hk : knR f B) (hV : VB B) (hi : i < bNt B) (hw : w ≤ 4) :
    Run n_X7_tieIs 110 0 (ini n_X7_tieIs [.ref 98, .int (nI i), .int (nI w)]) [] (HH n kf f) (Ret (some (.int (tiA B i w))) (HH n kf f)) := by
  have hT : mT n_X7_tieIs = tb_X7_tieIs := rfl
  have h10 := hV.1.2.2.2.2.1
  have hkl := kept_lt h10
  have ti := hR.2.2.2.2.2 i hi
  unfold tiA
  refine v_p hT rfl rfl ?_
  refine g_cmp hT rfl (fun cq => ?_) (fun cq => ?_)
  · have cq := (cj_ge (by omega) (by omega)).mp cq
    rw [if_neg (by omega)]
    refine v_p hT rfl rfl ?_
    refine g_cmp hT rfl (fun cq2 => ?_) (fun cq2 => ?_)
    · have cq2 := (cj_ne (by omega) (by omega)).mp cq2
      rw [if_neg cq2]
      refine v_p hT rfl rfl ?_
      refine v_call hT [.int (nI i)] rfl rfl (by first | rfl | assumption) (by omega) rfl rfl (Nat.le_of_ble_eq_true rfl) (Nat.le_of_ble_eq_true rfl) (m_crosses hR hV.1 hi) ?_
      refine v_ret hT rfl (fun z => by cases z) rfl ⟨rfl, rfl⟩
    · have cq2 := Classical.byContradiction (fun z => cq2 ((cj_ne (by omega) (by omega)).mpr z))
      rw [if_pos cq2]
      refine v_p hT rfl rfl ?_
      refine v_geti hT rfl (by first | rfl | assumption) (by omega) ?_
      rw [hk.1]
      refine v_p hT rfl rfl ?_
      rw [bit_at (by omega) (by omega)]
      refine v_ret hT rfl (fun z => by cases z) rfl ⟨rfl, rfl⟩
  · have cq := (not_congr (cj_ge (by omega) (by omega))).mp cq
    rw [if_pos (by omega)]
    refine v_p hT rfl rfl ?_
    refine v_call hT [.int (nI i), .int (nI w)] rfl rfl (by first | rfl | assumption) (by omega) rfl rfl (Nat.le_of_ble_eq_true rfl) (Nat.le_of_ble_eq_true rfl) (m_ofTie (by omega) (by omega)) ?_
    rw [ti w (by omega)]
    refine v_p hT rfl rfl ?_
    refine v_ret hT rfl (fun z => by cases z) rfl ⟨rfl, rfl⟩
theorem M_tie {S : ST} (hV : VS S) (i w : Int32) : MSp n_X7_tie [.int i, .int w] S (oTie S i w) := by
  have hT : mT n_X7_tie = tb_X7_tie := rfl
  intro n kf f hR
  have h10 := hV.1.1.2.2.2.2.1
  have h7 : f 100 7 = nI (bNt S.1) := hR.1.2.2.2.1
  obtain ⟨fb, q1, q2, q3⟩ := m_bad2 (n := n) (kf := kf) hR
  have hbad : Run n_X7_tie 110 26 [some (.ref 98), some (.int i), some (.int w)] [] (HH n kf f) (Ret (some (.int (mI 2))) (HH n kf fb)) := by
    refine v_p hT rfl rfl ?_
    refine v_call hT [] rfl rfl (by first | rfl | assumption) (by omega) rfl rfl (Nat.le_of_ble_eq_true rfl) (Nat.le_of_ble_eq_true rfl) (q1) ?_
    refine v_ret hT rfl (fun z => by cases z) rfl ⟨rfl, rfl⟩
  have start : ∀ Φ, Run n_X7_tie 110 14 [some (.ref 98), some (.int i), some (.int w)] [.int (bI (pB (∃ k, k < bNt S.1 ∧ i = nI k)))] (HH n kf f) Φ → Run n_X7_tie 110 0 (ini n_X7_tie [.ref 98, .int i, .int w]) [] (HH n kf f) Φ := by
    intro Φ hΦ
    refine v_p hT rfl rfl ?_
    refine v_getr hT rfl rfl (by omega) rfl ?_
    refine v_p hT rfl rfl ?_
    refine v_ald hT rfl (by first | assumption | rfl) (by omega) (by decide) (by omega) ?_
    rw [h7]
    refine v_p hT rfl rfl ?_
    refine v_scall hT [.int i, .int (nI 0), .int (nI (bNt S.1) - nI 1)] rfl rfl rfl rfl (Nat.le_of_ble_eq_true rfl) (Nat.le_of_ble_eq_true rfl) (m_in _ _ _) ?_
    rw [in_cnt (by omega)]
    exact hΦ
  unfold oTie
  cases c1 : pB (∃ k, k < bNt S.1 ∧ i = nI k) with
  | false =>
    rw [Bool.false_and]
    refine ⟨fb, start _ ?_, q2, q3⟩
    rw [c1]
    refine g_if hT rfl (fun cq => ?_) (fun cq => ?_)
    · exact hbad
    · exact absurd rfl cq
  | true =>
    by_cases c2 : nI 0 ≤ w ∧ w ≤ nI 4
    · obtain ⟨K, K1, K2⟩ := pB_of c1
      obtain ⟨W, W1, W2⟩ := int_04 (by omega) c2
      obtain ⟨F, r1, r2, r3, r4⟩ := m_lays (n := n) (kf := kf) hV hR
      rw [decide_eq_true c2]
      rw [c1] at start
      subst K2; subst W2
      simp only [Bool.true_and, cond_true]
      rw [nI_tn (by omega), nI_tn (by omega)]
      refine ⟨F, start _ ?_, r2, r4⟩
      refine g_if hT rfl (fun cq => ?_) (fun cq => ?_)
      · cases bf_of cq
      · refine v_p hT rfl rfl ?_
        refine v_scall hT [.int (nI W), .int (nI 0), .int (nI 4)] rfl rfl rfl rfl (Nat.le_of_ble_eq_true rfl) (Nat.le_of_ble_eq_true rfl) (m_in _ _ _) ?_
        rw [decide_eq_true c2]
        refine g_if hT rfl (fun cq2 => ?_) (fun cq2 => ?_)
        · refine v_p hT rfl rfl ?_
          refine v_call hT [] rfl rfl (by first | rfl | assumption) (by omega) rfl rfl (Nat.le_of_ble_eq_true rfl) (Nat.le_of_ble_eq_true rfl) (r1) ?_
          refine v_p hT rfl rfl ?_
          refine v_call hT [.int (nI K), .int (nI W)] rfl rfl (by first | rfl | assumption) (by omega) rfl rfl (Nat.le_of_ble_eq_true rfl) (Nat.le_of_ble_eq_true rfl) (m_tieIs r2.1 r3 hV.1 K1 W1) ?_
          refine v_ret hT rfl (fun z => by cases z) rfl ⟨rfl, rfl⟩
        · exact absurd (show ¬ (1 : Int32) = 0 by decide) cq2
    · rw [decide_eq_false c2, Bool.and_false]
      refine ⟨fb, start _ ?_, q2, q3⟩
      rw [c1]
      refine g_if hT rfl (fun cq => ?_) (fun cq => ?_)
      · cases bf_of cq
      · refine v_p hT rfl rfl ?_
        refine v_scall hT [.int w, .int (nI 0), .int (nI 4)] rfl rfl rfl rfl (Nat.le_of_ble_eq_true rfl) (Nat.le_of_ble_eq_true rfl) (m_in _ _ _) ?_
        rw [decide_eq_false c2]
        refine g_if hT rfl (fun cq2 => ?_) (fun cq2 => ?_)
        · exact absurd rfl cq2
        · exact hbad
