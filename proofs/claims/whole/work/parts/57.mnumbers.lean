/-! THE REFERENCE: the numbers of an order. -/
def frN (f F : Nat → Nat → Int32) : Prop := (∀ i, i ≠ 17 → i ≠ 18 → i ≠ 19 → F 98 i = f 98 i) ∧ ∀ c, c ≠ 98 → c ≠ 102 → F c = f c
theorem frN_refl (f : Nat → Nat → Int32) : frN f f := ⟨fun _ _ _ _ => rfl, fun _ _ _ => rfl⟩
theorem frN_trans {f F G : Nat → Nat → Int32} (h1 : frN f F) (h2 : frN F G) : frN f G := ⟨fun i h h' h2' => by rw [h2.1 i h h' h2', h1.1 i h h' h2'], fun c hc hd => by rw [h2.2 c hc hd, h1.2 c hc hd]⟩
theorem frN_T {f F : Nat → Nat → Int32} (h : frT f F) : frN f F := ⟨fun i h1 h2 _ => h.1 i h1 h2, fun c hc _ => h.2 c hc⟩
theorem frN_set {f : Nat → Nat → Int32} {k : Nat} {x : Int32} (hk : k = 17 ∨ k = 18 ∨ k = 19) : frN f (hset f 98 k x) := ⟨fun i h h' h2 => by rw [hs_s, pk_un (by omega)], fun c hc _ => hset_ne hc⟩
theorem frN_fr {f : Nat → Nat → Int32} {k : Nat} {x : Int32} : frN f (hset f 102 k x) := ⟨fun i _ _ _ => by rw [hset_ne (by omega)], fun c _ hc => hset_ne hc⟩
theorem txM_frN {f F : Nat → Nat → Int32} {t : TX} (h : txM f t) (hf : frN f F) : txM F t := ⟨by rw [hf.1 16 (by omega) (by omega) (by omega)]; exact h.1, fun k hk => by rw [hf.2 109 (by omega) (by omega)]; exact h.2 k hk⟩
theorem m_numbersF {n : Nat} {x y : Int32} {kf : Nat → Nat} {f : Nat → Nat → Int32} (h18 : f 98 18 = bI true) : Run n_X7_numbersOf 110 0 (ini n_X7_numbersOf [.ref 98, .int x, .int y]) [] (HH n kf f) (Ret none (HH n kf (hset f 98 19 (nI 0)))) := by
  have hT : mT n_X7_numbersOf = tb_X7_numbersOf := rfl
  refine v_p hT rfl rfl ?_
  refine v_puti hT rfl rfl (by omega) (fun z => by cases z) ?_
  refine v_p hT rfl rfl ?_
  refine v_geti hT rfl (by first | rfl | assumption) (by omega) ?_
  rw [show hset f 98 19 (nI 0) 98 18 = bI true by rw [hs_s, pk_un (by omega)]; exact h18]
  refine g_if hT rfl (fun cq => ?_) (fun cq => ?_)
  · refine v_vret hT rfl rfl ⟨rfl, rfl⟩
  · exact absurd (show ¬ (1 : Int32) = 0 by decide) cq
/-- what the numbers of an order leave: a fault's place, or the order's state with k' numbers -/
def nbO (t : TX) (Q : QS) (j g least most : Nat) (F : Nat → Nat → Int32) (p : Nat) : Prop := (F 98 18 = bI true ∧ ∃ X, rch t j (qAt Q g) p X ∧ fltT t p X) ∨ (F 98 18 = bI false ∧ ∃ Q' g' k', rch t j (qAt Q g) p (qAt Q' g') ∧ gOK t p g' ∧ (qNo Q' = qNo Q ∧ qKd Q' = qKd Q ∧ qKs Q' = qKs Q ∧ qFr Q' = qFr Q) ∧ qNn Q' = qFr Q (qNo Q) + k' ∧ F 98 19 = nI k' ∧ (∀ i, i < k' → F 102 i = nI (qNm Q' (qFr Q (qNo Q) + i))) ∧ least ≤ k' ∧ k' ≤ most ∧ (dgT t p → k' = most))
theorem m_nbsLoop {n least most : Nat} {kf : Nat → Nat} {t : TX} (hV : VT t) (hle : least ≤ most) (h12 : most ≤ 12) : ∀ d k, k + d = most → ∀ (f : Nat → Nat → Int32) (Q : QS) (j g : Nat), txM f t → f 98 17 = nI j → f 98 18 = bI false → f 98 19 = nI k → j ≤ t.1 → nbT t j → gOK t j g → ¬ qKd Q = 0 → leastN (qKd Q) = least → mostN (qKd Q) = most → qNn Q = qFr Q (qNo Q) + k → (∀ i, i < k → f 102 i = nI (qNm Q (qFr Q (qNo Q) + i))) →
    ∃ F p, Run n_X7_numbersOf 110 6 [some (.ref 98), some (.int (nI least)), some (.int (nI most))] [.ref 98] (HH n kf f) (Ret none (HH n kf F)) ∧ frN f F ∧ F 98 17 = nI p ∧ j ≤ p ∧ p ≤ t.1 ∧ nbT t p ∧ nbO t Q j g least most F p := by
  have hT : mT n_X7_numbersOf = tb_X7_numbersOf := rfl
  have h120 := hV.1
  intro d
  induction d with
  | zero =>
    intro k hk f Q j g ht h17 h18 h19 hj hn hg hkd hls hms hnn hfr
    refine ⟨f, j, ?_, frN_refl f, h17, Nat.le_refl _, hj, hn, Or.inr ⟨h18, Q, g, k, rch_refl _ _ _, hg, ⟨rfl, rfl, rfl, rfl⟩, hnn, h19, hfr, by omega, by omega, fun _ => by omega⟩⟩
    refine v_geti hT rfl (by first | rfl | assumption) (by omega) ?_
    rw [h18]
    refine g_if hT rfl (fun cq => ?_) (fun cq => ?_)
    · exact absurd rfl cq
    · refine v_p hT rfl rfl ?_
      refine v_geti hT rfl (by first | rfl | assumption) (by omega) ?_
      rw [h19]
      refine v_p hT rfl rfl ?_
      refine g_cmp hT rfl (fun cq2 => ?_) (fun cq2 => ?_)
      · exact absurd ((cj_lt (by omega) (by omega)).mp cq2) (by omega)
      · refine v_p hT rfl rfl ?_
        refine v_geti hT rfl (by first | rfl | assumption) (by omega) ?_
        rw [h19]
        refine v_p hT rfl rfl ?_
        refine g_cmp hT rfl (fun cq3 => ?_) (fun cq3 => ?_)
        · refine v_vret hT rfl rfl ⟨rfl, rfl⟩
        · exact absurd ((cj_ge (by omega) (by omega)).mpr (by omega)) cq3
  | succ d ih =>
    intro k hk f Q j g ht h17 h18 h19 hj hn hg hkd hls hms hnn hfr
    by_cases hgo : k < least ∨ dgT t j
    · obtain ⟨m1, m2, m3, m4⟩ := nm_ok hj hn hg hkd (show qNn Q - qFr Q (qNo Q) < mostN (qKd Q) by rw [hms, hnn]; omega) (hgo.imp (fun z => by rw [hls, hnn]; omega) id)
      obtain ⟨F1, r1, a1, a2, a3⟩ := m_number (n := n) (kf := kf) hV ht h17 h18 hj
      have enter : ∀ Φ, Run n_X7_numbersOf 110 48 [some (.ref 98), some (.int (nI least)), some (.int (nI most))] [.ref 98, .int (nI k), .ref 102] (HH n kf f) Φ → Run n_X7_numbersOf 110 6 [some (.ref 98), some (.int (nI least)), some (.int (nI most))] [.ref 98] (HH n kf f) Φ := by
        intro Φ hΦ
        have go : Run n_X7_numbersOf 110 39 [some (.ref 98), some (.int (nI least)), some (.int (nI most))] [] (HH n kf f) Φ := by
          refine v_p hT rfl rfl ?_
          refine v_getr hT rfl rfl (by omega) rfl ?_
          refine v_p hT rfl rfl ?_
          refine v_geti hT rfl (by first | rfl | assumption) (by omega) ?_
          rw [h19]
          refine v_p hT rfl rfl ?_
          exact hΦ
        refine v_geti hT rfl (by first | rfl | assumption) (by omega) ?_
        rw [h18]
        refine g_if hT rfl (fun cq => ?_) (fun cq => ?_)
        · exact absurd rfl cq
        · refine v_p hT rfl rfl ?_
          refine v_geti hT rfl (by first | rfl | assumption) (by omega) ?_
          rw [h19]
          refine v_p hT rfl rfl ?_
          refine g_cmp hT rfl (fun cq2 => ?_) (fun cq2 => ?_)
          · exact go
          · have cq2 := (not_congr (cj_lt (by omega) (by omega))).mp cq2
            have hdg : dgT t j := hgo.resolve_left cq2
            refine v_p hT rfl rfl ?_
            refine v_geti hT rfl (by first | rfl | assumption) (by omega) ?_
            rw [h19]
            refine v_p hT rfl rfl ?_
            refine g_cmp hT rfl (fun cq3 => ?_) (fun cq3 => ?_)
            · exact absurd ((cj_ge (by omega) (by omega)).mp cq3) (by omega)
            · refine v_p hT rfl rfl ?_
              refine v_call hT [.int (nI 48), .int (nI 57)] rfl rfl (by first | rfl | assumption) (by omega) rfl rfl (Nat.le_of_ble_eq_true rfl) (Nat.le_of_ble_eq_true rfl) (m_isAt hV ht h17 hj (by omega) (by omega)) ?_
              rw [decide_eq_true (show j < t.1 ∧ 48 ≤ t.2 j ∧ t.2 j ≤ 57 from hdg)]
              refine g_if hT rfl (fun cq4 => ?_) (fun cq4 => ?_)
              · cases bf_of cq4
              · exact go
      have hnp : j ≤ (nmF t j).2.1 := by
        cases hb : (nmF t j).1 with
        | false => have := (m4 hb).1; omega
        | true =>
          unfold nmF
          by_cases d0 : dgT t j
          · rw [pB_t d0]
            by_cases d1 : dgT t (j + 1)
            · rw [pB_t d1]
              have hh := (blk_ok (t := t) (t.1 - (j + 2)) (j + 2) (by have := d1.1; omega)).1
              cases pB (dgT t (j + 2)) <;> (show j ≤ blkF t (j + 2); omega)
            · rw [pB_f d1]
              have hh := (blk_ok (t := t) (t.1 - (j + 1)) (j + 1) (by have := d0.1; omega)).1
              show j ≤ blkF t (j + 1)
              omega
          · rw [pB_f d0]
            have hh := (blk_ok (t := t) (t.1 - j) j (by omega)).1
            exact hh
      generalize nmF t j = R at r1 a1 a2 m1 m2 m3 m4 hnp
      obtain ⟨b, p, v⟩ := R
      have e19 : ∀ x, hset F1 102 k x 98 19 = nI k := fun x => by rw [hset_ne (by omega), a3.1 19 (by omega) (by omega)]; exact h19
      have e18 : ∀ x, hset F1 102 k x 98 18 = bI b := fun x => by rw [hset_ne (by omega)]; exact a2
      cases b with
      | true =>
        have e18b : hset (hset F1 102 k (nI v)) 98 19 (nI k) 98 18 = bI true := by rw [hs_s, pk_un (by omega)]; exact e18 _
        refine ⟨hset (hset F1 102 k (nI v)) 98 19 (nI k), p, enter _ ?_, frN_trans (frN_trans (frN_T a3) frN_fr) (frN_set (by omega)), by rw [hs_s, pk_un (by omega), hset_ne (by omega)]; exact a1, hnp, m1, m2, Or.inl ⟨e18b, m3 rfl⟩⟩
        refine v_call hT [] rfl rfl (by first | rfl | assumption) (by omega) rfl rfl (Nat.le_of_ble_eq_true rfl) (Nat.le_of_ble_eq_true rfl) (r1) ?_
        refine v_ast hT rfl rfl (by omega) (by decide) (by omega) ?_
        refine v_p hT rfl rfl ?_
        refine v_geti hT rfl (by first | rfl | assumption) (by omega) ?_
        rw [e19]
        refine v_p hT rfl rfl ?_
        refine v_geti hT rfl (by first | rfl | assumption) (by omega) ?_
        rw [e18]
        refine g_if hT rfl (fun cq => ?_) (fun cq => ?_)
        · cases bf_of cq
        · refine v_p hT rfl rfl ?_
          rw [nI_add]
          refine v_puti hT rfl rfl (by omega) (fun z => by cases z) ?_
          refine v_p hT rfl rfl ?_
          refine v_geti hT rfl (by first | rfl | assumption) (by omega) ?_
          rw [show k + 0 = k from rfl, e18b]
          refine g_if hT rfl (fun cq2 => ?_) (fun cq2 => ?_)
          · refine v_vret hT rfl rfl ⟨rfl, rfl⟩
          · exact absurd (show ¬ (1 : Int32) = 0 by decide) cq2
      | false =>
        obtain ⟨hlt, g', w1, w2⟩ := m4 rfl
        have hlt : j < p := hlt
        have hfa : frN f (hset (hset F1 102 k (nI v)) 98 19 (nI (k + 1))) := frN_trans (frN_trans (frN_T a3) frN_fr) (frN_set (by omega))
        obtain ⟨F, p2, y1, y2, y3, y4, y5, y6, y7⟩ := ih (k + 1) (by omega) (hset (hset F1 102 k (nI v)) 98 19 (nI (k + 1))) (qApp Q v) p g' (txM_frN ht hfa) (by rw [hs_s, pk_un (by omega), hset_ne (by omega)]; exact a1) (by rw [hs_s, pk_un (by omega)]; exact e18 _) (by rw [hs_s, pk_us]) m1 m2 w2 hkd hls hms (show qNn Q + 1 = qFr Q (qNo Q) + (k + 1) by omega) (fun i hi => by
          rw [hset_ne (by omega), hs_s]
          show _ = nI (updN (qNm Q) (qNn Q) v (qFr Q (qNo Q) + i))
          unfold updN
          by_cases ei : i = k
          · subst ei
            rw [pk_us, if_pos hnn.symm]
          · rw [pk_un ei, if_neg (by omega), a3.2 102 (by omega)]
            exact hfr i (by omega))
        refine ⟨F, p2, enter _ ?_, frN_trans hfa y2, y3, by omega, y5, y6, ?_⟩
        · refine v_call hT [] rfl rfl (by first | rfl | assumption) (by omega) rfl rfl (Nat.le_of_ble_eq_true rfl) (Nat.le_of_ble_eq_true rfl) (r1) ?_
          refine v_ast hT rfl rfl (by omega) (by decide) (by omega) ?_
          refine v_p hT rfl rfl ?_
          refine v_geti hT rfl (by first | rfl | assumption) (by omega) ?_
          rw [e19]
          refine v_p hT rfl rfl ?_
          refine v_geti hT rfl (by first | rfl | assumption) (by omega) ?_
          rw [e18]
          refine g_if hT rfl (fun cq => ?_) (fun cq => ?_)
          · refine v_p hT rfl rfl ?_
            rw [nI_add]
            refine v_puti hT rfl rfl (by omega) (fun z => by cases z) ?_
            refine v_p hT rfl rfl ?_
            exact y1
          · exact absurd rfl cq
        · rcases y7 with ⟨x1, X, x2, x3⟩ | ⟨x1, Q', g2, k', x2, x3⟩
          · exact Or.inl ⟨x1, X, rch_trans w1 x2, x3⟩
          · exact Or.inr ⟨x1, Q', g2, k', rch_trans w1 x2, x3⟩
    · have hg1 : ¬ k < least := fun z => hgo (Or.inl z)
      have hg2 : ¬ dgT t j := fun z => hgo (Or.inr z)
      refine ⟨f, j, ?_, frN_refl f, h17, Nat.le_refl _, hj, hn, Or.inr ⟨h18, Q, g, k, rch_refl _ _ _, hg, ⟨rfl, rfl, rfl, rfl⟩, hnn, h19, hfr, by omega, by omega, fun z => absurd z hg2⟩⟩
      refine v_geti hT rfl (by first | rfl | assumption) (by omega) ?_
      rw [h18]
      refine g_if hT rfl (fun cq => ?_) (fun cq => ?_)
      · exact absurd rfl cq
      · refine v_p hT rfl rfl ?_
        refine v_geti hT rfl (by first | rfl | assumption) (by omega) ?_
        rw [h19]
        refine v_p hT rfl rfl ?_
        refine g_cmp hT rfl (fun cq2 => ?_) (fun cq2 => ?_)
        · exact absurd ((cj_lt (by omega) (by omega)).mp cq2) hg1
        · refine v_p hT rfl rfl ?_
          refine v_geti hT rfl (by first | rfl | assumption) (by omega) ?_
          rw [h19]
          refine v_p hT rfl rfl ?_
          refine g_cmp hT rfl (fun cq3 => ?_) (fun cq3 => ?_)
          · refine v_vret hT rfl rfl ⟨rfl, rfl⟩
          · refine v_p hT rfl rfl ?_
            refine v_call hT [.int (nI 48), .int (nI 57)] rfl rfl (by first | rfl | assumption) (by omega) rfl rfl (Nat.le_of_ble_eq_true rfl) (Nat.le_of_ble_eq_true rfl) (m_isAt hV ht h17 hj (by omega) (by omega)) ?_
            rw [decide_eq_false (show ¬ (j < t.1 ∧ 48 ≤ t.2 j ∧ t.2 j ≤ 57) from hg2)]
            refine g_if hT rfl (fun cq4 => ?_) (fun cq4 => ?_)
            · refine v_vret hT rfl rfl ⟨rfl, rfl⟩
            · exact absurd rfl cq4
theorem m_numbersOf {n least most j g : Nat} {kf : Nat → Nat} {f : Nat → Nat → Int32} {t : TX} {Q : QS} (hV : VT t) (hle : least ≤ most) (h12 : most ≤ 12) (ht : txM f t) (h17 : f 98 17 = nI j) (h18 : f 98 18 = bI false) (hj : j ≤ t.1) (hn : nbT t j) (hg : gOK t j g) (hkd : ¬ qKd Q = 0) (hls : leastN (qKd Q) = least) (hms : mostN (qKd Q) = most) (hnn : qNn Q = qFr Q (qNo Q)) :
    ∃ F p, Run n_X7_numbersOf 110 0 (ini n_X7_numbersOf [.ref 98, .int (nI least), .int (nI most)]) [] (HH n kf f) (Ret none (HH n kf F)) ∧ frN f F ∧ F 98 17 = nI p ∧ j ≤ p ∧ p ≤ t.1 ∧ nbT t p ∧ nbO t Q j g least most F p := by
  have hT : mT n_X7_numbersOf = tb_X7_numbersOf := rfl
  have hfa : frN f (hset f 98 19 (nI 0)) := frN_set (by omega)
  obtain ⟨F, p, y1, y2, y3⟩ := m_nbsLoop (n := n) (kf := kf) hV hle h12 most 0 (by omega) (hset f 98 19 (nI 0)) Q j g (txM_frN ht hfa) (by rw [hs_s, pk_un (by omega)]; exact h17) (by rw [hs_s, pk_un (by omega)]; exact h18) (by rw [hs_s, pk_us]) hj hn hg hkd hls hms (by omega) (fun i hi => absurd hi (Nat.not_lt_zero _))
  refine ⟨F, p, ?_, frN_trans hfa y2, y3⟩
  refine v_p hT rfl rfl ?_
  refine v_puti hT rfl rfl (by omega) (fun z => by cases z) ?_
  refine v_p hT rfl rfl ?_
  exact y1
