/-! THE REFERENCE: reading one order. -/
theorem blk_any {t : TX} : ∀ d i, i + d = t.1 → ∀ Q, ∃ g, rch t i Q (blkF t i) (qAt Q g) := by
  intro d
  induction d with
  | zero =>
    intro i hi Q
    rw [blkF_no (Or.inl (by omega))]
    exact ⟨qFg Q, rch_refl _ _ _⟩
  | succ d ih =>
    intro i hi Q
    by_cases h : t.2 i = 32
    · rw [blkF_yes (by omega) h]
      obtain ⟨g, b1⟩ := ih (i + 1) (by omega) (qSp Q)
      refine ⟨g, rch_trans (rch_one (by omega) ?_) b1⟩
      unfold qStep
      rw [if_pos h]
    · rw [blkF_no (Or.inr ⟨by omega, h⟩)]
      exact ⟨qFg Q, rch_refl _ _ _⟩
def lst (c : Nat) : Nat := if c = 97 ∨ c = 98 then 1 else if c = 116 then 3 else if c = 119 then 2 else 1
def mst (c : Nat) : Nat := if c = 97 ∨ c = 98 then 12 else lst c
theorem lst_eq {c : Nat} (h : ¬ mostN c = 0) : leastN c = lst c ∧ mostN c = mst c ∧ lst c ≤ mst c ∧ mst c ≤ 12 := by
  rcases kinds7 h with e | e | e | e | e | e | e <;> subst e <;> decide
section RD
variable {n : Nat} {kf : Nat → Nat}
theorem rd_fend {F : Nat → Nat → Int32} {p : Nat} {a b c d : Option Value} (h17 : F 98 17 = nI p) :
    Run n_X7_reads 110 232 [some (.ref 98), a, b, c, d] [.int (nI 1), .ref 98] (HH n kf F) (Ret none (HH n kf (hset (hset F 98 18 (nI 1)) 98 17 (nI p)))) := by
  have hT : mT n_X7_reads = tb_X7_reads := rfl
  have e17 : hset F 98 18 (nI 1) 98 17 = nI p := by rw [hs_s, pk_un (by omega)]; exact h17
  have e18 : hset F 98 18 (nI 1) 98 18 = nI 1 := by rw [hs_s, pk_us]
  have f18 : hset (hset F 98 18 (nI 1)) 98 17 (nI p) 98 18 = nI 1 := by rw [hs_s, pk_un (by omega)]; exact e18
  refine v_puti hT rfl rfl (by omega) (fun _ => Or.inr rfl) ?_
  refine v_p hT rfl rfl ?_
  refine v_geti hT rfl (by first | rfl | assumption) (by omega) ?_
  rw [e17]
  refine v_p hT rfl rfl ?_
  refine v_geti hT rfl (by first | rfl | assumption) (by omega) ?_
  rw [e18]
  refine g_if hT rfl (fun cq => ?_) (fun cq => ?_)
  · exact absurd cq (show ¬ nI 1 = 0 by decide)
  · refine v_p hT rfl rfl ?_
    rw [nI_add]
    refine v_puti hT rfl rfl (by omega) (fun z => by cases z) ?_
    refine v_p hT rfl rfl ?_
    refine v_geti hT rfl (by first | rfl | assumption) (by omega) ?_
    rw [show p + 0 = p from rfl, f18]
    refine g_if hT rfl (fun cq2 => ?_) (fun cq2 => ?_)
    · refine v_p hT rfl rfl ?_
      refine v_geti hT rfl (by first | rfl | assumption) (by omega) ?_
      rw [f18]
      refine g_if hT rfl (fun cq3 => ?_) (fun cq3 => ?_)
      · refine v_vret hT rfl rfl ⟨rfl, rfl⟩
      · exact absurd (show ¬ nI 1 = 0 by decide) cq3
    · exact absurd (show ¬ nI 1 = 0 by decide) cq2
theorem rd_ftail {F : Nat → Nat → Int32} {p : Nat} {a b c d : Option Value} (h17 : F 98 17 = nI p) (h18 : F 98 18 = bI true) :
    Run n_X7_reads 110 208 [some (.ref 98), a, b, c, d] [] (HH n kf F) (Ret none (HH n kf (hset (hset F 98 18 (nI 1)) 98 17 (nI p)))) := by
  have hT : mT n_X7_reads = tb_X7_reads := rfl
  refine v_p hT rfl rfl ?_
  refine v_geti hT rfl (by first | rfl | assumption) (by omega) ?_
  rw [h18]
  refine g_if hT rfl (fun cq => ?_) (fun cq => ?_)
  · refine v_p hT rfl rfl ?_
    exact rd_fend h17
  · exact absurd (show ¬ (1 : Int32) = 0 by decide) cq
theorem rd_pre {F : Nat → Nat → Int32} {c : Nat} {dg : Int32} (hc : c < 128) {Φ : PT} (hΦ : Run n_X7_reads 110 205 [some (.ref 98), some (.int dg), some (.int (nI c)), some (.int (bI (decide (c = 97 ∨ c = 98)))), some (.int (nI (lst c)))] [.int (nI (mst c)), .int (nI (lst c)), .ref 98] (HH n kf F) Φ) :
    Run n_X7_reads 110 161 [some (.ref 98), some (.int dg), some (.int (nI c)), some (.int (bI (decide (c = 97 ∨ c = 98)))), none] [.int (bI (decide (c = 97 ∨ c = 98)))] (HH n kf F) Φ := by
  have hT : mT n_X7_reads = tb_X7_reads := rfl
  by_cases hp : c = 97 ∨ c = 98
  · rw [show lst c = 1 from if_pos hp, show mst c = 12 from if_pos hp, decide_eq_true hp] at hΦ
    rw [decide_eq_true hp]
    refine g_if hT rfl (fun cq => ?_) (fun cq => ?_)
    · cases bf_of cq
    · refine v_p hT rfl rfl ?_
      refine g_if hT rfl (fun cq2 => ?_) (fun cq2 => ?_)
      · cases bf_of cq2
      · refine v_p hT rfl rfl ?_
        exact hΦ
  · have hm : mst c = lst c := if_neg hp
    rw [hm, decide_eq_false hp] at hΦ
    rw [decide_eq_false hp]
    refine g_if hT rfl (fun cq => ?_) (fun cq => ?_)
    · refine v_p hT rfl rfl ?_
      by_cases h1 : c = 116
      · rw [show lst c = 3 by unfold lst; rw [if_neg hp, if_pos h1]] at hΦ
        refine g_cmp hT rfl (fun cq2 => ?_) (fun cq2 => ?_)
        · exact absurd h1 ((cj_ne (by omega) (by omega)).mp cq2)
        · refine v_p hT rfl rfl ?_
          refine g_if hT rfl (fun cq3 => ?_) (fun cq3 => ?_)
          · refine v_p hT rfl rfl ?_
            exact hΦ
          · exact absurd rfl cq3
      · refine g_cmp hT rfl (fun cq2 => ?_) (fun cq2 => ?_)
        · refine v_p hT rfl rfl ?_
          by_cases h2 : c = 119
          · rw [show lst c = 2 by unfold lst; rw [if_neg hp, if_neg h1, if_pos h2]] at hΦ
            refine g_cmp hT rfl (fun cq3 => ?_) (fun cq3 => ?_)
            · exact absurd h2 ((cj_ne (by omega) (by omega)).mp cq3)
            · refine v_p hT rfl rfl ?_
              refine g_if hT rfl (fun cq4 => ?_) (fun cq4 => ?_)
              · refine v_p hT rfl rfl ?_
                exact hΦ
              · exact absurd rfl cq4
          · rw [show lst c = 1 by unfold lst; rw [if_neg hp, if_neg h1, if_neg h2]] at hΦ
            refine g_cmp hT rfl (fun cq3 => ?_) (fun cq3 => ?_)
            · refine v_p hT rfl rfl ?_
              refine g_if hT rfl (fun cq4 => ?_) (fun cq4 => ?_)
              · refine v_p hT rfl rfl ?_
                exact hΦ
              · exact absurd rfl cq4
            · exact absurd ((cj_ne (by omega) (by omega)).mpr h2) cq3
        · exact absurd ((cj_ne (by omega) (by omega)).mpr h1) cq2
    · exact absurd rfl cq
theorem rd_let {F : Nat → Nat → Int32} {c : Nat} {dg : Int32} (hc : c < 128) {Φ : PT} (hΦ : Run n_X7_reads 110 132 [some (.ref 98), some (.int dg), some (.int (nI c)), some (.int (bI (decide (c = 97 ∨ c = 98)))), none] [.int (bI (decide (mostN c = 0))), .ref 98] (HH n kf F) Φ) :
    Run n_X7_reads 110 94 [some (.ref 98), some (.int dg), some (.int (nI c)), some (.int (bI (decide (c = 97 ∨ c = 98)))), none] [.int (bI (decide (c = 97 ∨ c = 98))), .ref 98] (HH n kf F) Φ := by
  have hT : mT n_X7_reads = tb_X7_reads := rfl
  have z0 : ¬ mostN c = 0 → Run n_X7_reads 110 131 [some (.ref 98), some (.int dg), some (.int (nI c)), some (.int (bI (decide (c = 97 ∨ c = 98)))), none] [.ref 98] (HH n kf F) Φ := by
    intro hm
    rw [decide_eq_false hm] at hΦ
    refine v_p hT rfl rfl ?_
    exact hΦ
  by_cases hp : c = 97 ∨ c = 98
  · refine g_if hT rfl (fun cq => ?_) (fun cq => ?_)
    · exact z0 (by rcases hp with e | e <;> rw [e] <;> decide)
    · rw [decide_eq_true hp] at cq
      exact absurd (show ¬ (1 : Int32) = 0 by decide) cq
  · refine g_if hT rfl (fun cq => ?_) (fun cq => ?_)
    · rw [decide_eq_false hp] at cq
      exact absurd rfl cq
    · refine v_p hT rfl rfl ?_
      refine g_cmp hT rfl (fun c1 => ?_) (fun c1 => ?_)
      · exact z0 (by rw [(cj_eq (by omega) (by omega)).mp c1]; decide)
      · have c1 := (not_congr (cj_eq (by omega) (by omega))).mp c1
        refine v_p hT rfl rfl ?_
        refine g_cmp hT rfl (fun c2 => ?_) (fun c2 => ?_)
        · exact z0 (by rw [(cj_eq (by omega) (by omega)).mp c2]; decide)
        · have c2 := (not_congr (cj_eq (by omega) (by omega))).mp c2
          refine v_p hT rfl rfl ?_
          refine g_cmp hT rfl (fun c3 => ?_) (fun c3 => ?_)
          · exact z0 (by rw [(cj_eq (by omega) (by omega)).mp c3]; decide)
          · have c3 := (not_congr (cj_eq (by omega) (by omega))).mp c3
            refine v_p hT rfl rfl ?_
            refine g_cmp hT rfl (fun c4 => ?_) (fun c4 => ?_)
            · exact z0 (by rw [(cj_eq (by omega) (by omega)).mp c4]; decide)
            · have c4 := (not_congr (cj_eq (by omega) (by omega))).mp c4
              refine v_p hT rfl rfl ?_
              refine g_cmp hT rfl (fun c5 => ?_) (fun c5 => ?_)
              · exact z0 (by rw [(cj_eq (by omega) (by omega)).mp c5]; decide)
              · have c5 := (not_congr (cj_eq (by omega) (by omega))).mp c5
                have hm : mostN c = 0 := by
                  unfold mostN
                  rw [if_neg hp, if_neg c1, if_neg c2, if_neg (by omega)]
                rw [decide_eq_true hm] at hΦ
                refine v_p hT rfl rfl ?_
                exact hΦ
theorem rd_char {F : Nat → Nat → Int32} {t : TX} {j : Nat} {dg : Int32} (hV : VT t) (ht : txM F t) (h17 : F 98 17 = nI j) (h18 : F 98 18 = bI false) (h21 : F 98 21 = bI false) (hj : j < t.1) {Φ : PT} (hΦ : Run n_X7_reads 110 94 [some (.ref 98), some (.int dg), some (.int (nI (t.2 j))), some (.int (bI (decide (t.2 j = 97 ∨ t.2 j = 98)))), none] [.int (bI (decide (t.2 j = 97 ∨ t.2 j = 98))), .ref 98] (HH n kf F) Φ) :
    Run n_X7_reads 110 40 [some (.ref 98), some (.int dg), none, none, none] [.ref 98] (HH n kf F) Φ := by
  have hT : mT n_X7_reads = tb_X7_reads := rfl
  have h120 := hV.1
  have hc := hV.2 j hj
  refine v_geti hT rfl (by first | rfl | assumption) (by omega) ?_
  rw [h18]
  refine g_if hT rfl (fun cq => ?_) (fun cq => ?_)
  · exact absurd rfl cq
  · refine v_p hT rfl rfl ?_
    refine v_geti hT rfl (by first | rfl | assumption) (by omega) ?_
    rw [h21]
    refine g_if hT rfl (fun cq2 => ?_) (fun cq2 => ?_)
    · exact absurd rfl cq2
    · refine v_p hT rfl rfl ?_
      refine v_geti hT rfl (by first | rfl | assumption) (by omega) ?_
      rw [h17]
      refine v_p hT rfl rfl ?_
      refine v_geti hT rfl (by first | rfl | assumption) (by omega) ?_
      rw [ht.1]
      refine g_cmp hT rfl (fun cq3 => ?_) (fun cq3 => ?_)
      · exact absurd ((cj_ge (by omega) (by omega)).mp cq3) (by omega)
      · refine v_p hT rfl rfl ?_
        refine v_getr hT rfl rfl (by omega) rfl ?_
        refine v_p hT rfl rfl ?_
        refine v_geti hT rfl (by first | rfl | assumption) (by omega) ?_
        rw [h17]
        refine v_ald hT rfl rfl (by omega) (by decide) (show j < 120 by omega) ?_
        rw [ht.2 j hj]
        refine v_p hT rfl rfl ?_
        refine g_cmp hT rfl (fun c1 => ?_) (fun c1 => ?_)
        · rw [decide_eq_true (Or.inl ((cj_eq (by omega) (by omega)).mp c1))] at hΦ
          refine v_p hT rfl rfl ?_
          exact hΦ
        · have c1 := (not_congr (cj_eq (by omega) (by omega))).mp c1
          refine v_p hT rfl rfl ?_
          refine g_cmp hT rfl (fun c2 => ?_) (fun c2 => ?_)
          · have c2 := (cj_ne (by omega) (by omega)).mp c2
            rw [decide_eq_false (by omega)] at hΦ
            refine v_p hT rfl rfl ?_
            exact hΦ
          · have c2 := (not_congr (cj_ne (by omega) (by omega))).mp c2
            rw [decide_eq_true (by omega)] at hΦ
            refine v_p hT rfl rfl ?_
            exact hΦ
end RD
/-- an order read: the state at its end -/
def ordO (t : TX) (Q : QS) (j p : Nat) (F : Nat → Nat → Int32) (Q2 : QS) : Prop := rch t j Q p Q2 ∧ j < p ∧ p ≤ t.1 ∧ nbT t p ∧ (qKd Q2 = 0 ∧ qNo Q2 = qNo Q + 1 ∧ qKs Q2 (qNo Q) = t.2 j) ∧ (F 98 17 = nI p ∧ F 98 18 = bI false) ∧ F 98 19 = nI (qFr Q2 (qNo Q + 1) - qFr Q2 (qNo Q)) ∧ ∀ i, i < qFr Q2 (qNo Q + 1) - qFr Q2 (qNo Q) → F 102 i = nI (qNm Q2 (qFr Q2 (qNo Q) + i))
theorem m_order {n j : Nat} {dg : Int32} {kf : Nat → Nat} {f : Nat → Nat → Int32} {t : TX} {Q : QS} (hV : VT t) (ht : txM f t) (h17 : f 98 17 = nI j) (h18 : f 98 18 = bI false) (h21 : f 98 21 = bI false) (hj : j < t.1) (hn : nbT t j) (hK : qKd Q = 0) (hW : qW Q) :
    ∃ F, frN f F ∧ ((∃ p X, rch t j Q p X ∧ fltT t p X ∧ F 98 17 = nI p ∧ F 98 18 = bI true ∧ Run n_X7_reads 110 40 [some (.ref 98), some (.int dg), none, none, none] [.ref 98] (HH n kf f) (Ret none (HH n kf F))) ∨
      (∃ p Q2, ordO t Q j p F Q2 ∧ ∀ Φ, Run n_X7_reads 110 269 [some (.ref 98), some (.int dg), some (.int (nI (t.2 j))), none, none] [.int dg, .ref 98] (HH n kf F) Φ → Run n_X7_reads 110 40 [some (.ref 98), some (.int dg), none, none, none] [.ref 98] (HH n kf f) Φ)) := by
  have hT : mT n_X7_reads = tb_X7_reads := rfl
  have h120 := hV.1
  have hc := hV.2 j hj
  have hnb : ¬ t.2 j = 32 := by
    rcases hn with h | h
    · omega
    · exact h.2
  have hnn := hW.2.2 hK
  by_cases hm : mostN (t.2 j) = 0
  · have hst : qStep Q (t.2 j) = none := by
      unfold qStep
      rw [if_neg hnb]
      by_cases c2 : t.2 j = 59
      · rw [if_pos c2]
        unfold qEnd
        rw [if_pos (Or.inl hK)]
      · rw [if_neg c2]
        by_cases c3 : 48 ≤ t.2 j ∧ t.2 j ≤ 57
        · rw [if_pos c3]
          unfold qFig
          rw [if_pos (Or.inl hK)]
        · rw [if_neg c3]
          unfold qBeg
          rw [if_pos (Or.inr hm)]
    have hf1 : frN f (hset (hset (hset f 98 18 (bI true)) 98 17 (nI j)) 98 17 (nI (blkF t j))) := frN_trans (frN_trans (frN_set (by omega)) (frN_set (by omega))) (frN_set (by omega))
    have hf0 : frN f (hset (hset f 98 18 (bI true)) 98 17 (nI j)) := frN_trans (frN_set (by omega)) (frN_set (by omega))
    rw [hset_hset, blkF_no hn] at hf1
    have hbl := m_blanks (n := n) (kf := kf) hV (t.1 - j) j (by omega) (hset (hset f 98 18 (bI true)) 98 17 (nI j)) (txM_frN ht hf0) (by rw [hs_s, pk_us])
    rw [hset_hset, blkF_no hn] at hbl
    have q18 : hset (hset f 98 18 (bI true)) 98 17 (nI j) 98 18 = bI true := by rw [hs_s, pk_un (by omega), hs_s, pk_us]
    have e17 : hset f 98 18 (bI true) 98 17 = nI j := by rw [hs_s, pk_un (by omega)]; exact h17
    have e18 : hset f 98 18 (bI true) 98 18 = bI true := by rw [hs_s, pk_us]
    have hnf := m_numbersF (n := n) (kf := kf) (x := nI (lst (t.2 j))) (y := nI (mst (t.2 j))) q18
    have ha : hset (hset (hset f 98 18 (bI true)) 98 17 (nI j)) 98 19 (nI 0) 98 17 = nI j := by rw [hs_s, pk_un (by omega), hs_s, pk_us]
    have hb : hset (hset (hset f 98 18 (bI true)) 98 17 (nI j)) 98 19 (nI 0) 98 18 = bI true := by rw [hs_s, pk_un (by omega)]; exact q18
    refine ⟨_, frN_trans (frN_trans hf0 (frN_set (k := 19) (x := nI 0) (by omega))) (frN_trans (frN_set (k := 18) (x := nI 1) (by omega)) (frN_set (k := 17) (x := nI j) (by omega))), Or.inl ⟨j, Q, rch_refl _ _ _, Or.inl ⟨hj, hst⟩, by rw [hs_s, pk_us], by rw [hs_s, pk_un (by omega), hs_s, pk_us]; rfl, ?_⟩⟩
    refine rd_char hV ht h17 h18 h21 hj (rd_let hc ?_)
    rw [decide_eq_true hm]
    refine v_puti hT rfl rfl (by omega) (fun _ => Or.inr rfl) ?_
    refine v_p hT rfl rfl ?_
    refine v_geti hT rfl (by first | rfl | assumption) (by omega) ?_
    rw [e17]
    refine v_p hT rfl rfl ?_
    refine v_geti hT rfl (by first | rfl | assumption) (by omega) ?_
    rw [e18]
    refine g_if hT rfl (fun cq => ?_) (fun cq => ?_)
    · cases bf_of cq
    · refine v_p hT rfl rfl ?_
      rw [nI_add]
      refine v_puti hT rfl rfl (by omega) (fun z => by cases z) ?_
      rw [show j + 0 = j from rfl]
      refine v_p hT rfl rfl ?_
      refine v_call hT [] rfl rfl (by first | rfl | assumption) (by omega) rfl rfl (Nat.le_of_ble_eq_true rfl) (Nat.le_of_ble_eq_true rfl) (hbl) ?_
      refine v_p hT rfl rfl ?_
      refine rd_pre hc ?_
      refine v_call hT [.int (nI (lst (t.2 j))), .int (nI (mst (t.2 j)))] rfl rfl (by first | rfl | assumption) (by omega) rfl rfl (Nat.le_of_ble_eq_true rfl) (Nat.le_of_ble_eq_true rfl) (hnf) ?_
      exact rd_ftail ha hb
  · obtain ⟨l1, l2, l3, l4⟩ := lst_eq hm
    have hno : ¬ t.2 j = 59 ∧ ¬ (48 ≤ t.2 j ∧ t.2 j ≤ 57) := by
      rcases kinds7 hm with e | e | e | e | e | e | e <;> rw [e] <;> decide
    let Q1 : QS := (qNo Q, qNn Q, t.2 j, 0, qKs Q, qFr Q, qNm Q)
    have hst : qStep Q (t.2 j) = some Q1 := by
      unfold qStep
      rw [if_neg hnb, if_neg hno.1, if_neg hno.2]
      unfold qBeg
      rw [if_neg (fun z => z.elim (fun y => y hK) hm)]
    have hk1 : ¬ qKd Q1 = 0 := by
      show ¬ t.2 j = 0
      intro z
      exact hm (by rw [z]; decide)
    obtain ⟨b1, b2, b3, b4⟩ := blk_ok (t := t) (t.1 - (j + 1)) (j + 1) (by omega)
    obtain ⟨g1, b5, b6⟩ := b4 Q1 0 (fun _ => rfl)
    have hf0 : frN f (hset (hset f 98 18 (bI false)) 98 17 (nI (j + 1))) := frN_trans (frN_set (by omega)) (frN_set (by omega))
    have hf1 : frN f (hset (hset f 98 18 (bI false)) 98 17 (nI (blkF t (j + 1)))) := frN_trans (frN_set (by omega)) (frN_set (by omega))
    have hbl := m_blanks (n := n) (kf := kf) hV (t.1 - (j + 1)) (j + 1) (by omega) (hset (hset f 98 18 (bI false)) 98 17 (nI (j + 1))) (txM_frN ht hf0) (by rw [hs_s, pk_us])
    rw [hset_hset] at hbl
    have e17 : hset f 98 18 (bI false) 98 17 = nI j := by rw [hs_s, pk_un (by omega)]; exact h17
    have e18 : hset f 98 18 (bI false) 98 18 = bI false := by rw [hs_s, pk_us]
    obtain ⟨F, p, r1, r2, r3, r4, r5, r6, r7⟩ := m_numbersOf (n := n) (kf := kf) (Q := Q1) (g := g1) hV l3 l4 (txM_frN ht hf1) (by rw [hs_s, pk_us]) (by rw [hs_s, pk_un (by omega)]; exact e18) b2 b3 b6 hk1 l1 l2 hnn
    have hfF := frN_trans hf1 r2
    have start : ∀ Φ, Run n_X7_reads 110 208 [some (.ref 98), some (.int dg), some (.int (nI (t.2 j))), some (.int (bI (decide (t.2 j = 97 ∨ t.2 j = 98)))), some (.int (nI (lst (t.2 j))))] [] (HH n kf F) Φ → Run n_X7_reads 110 40 [some (.ref 98), some (.int dg), none, none, none] [.ref 98] (HH n kf f) Φ := by
      intro Φ hΦ
      refine rd_char hV ht h17 h18 h21 hj (rd_let hc ?_)
      rw [decide_eq_false hm]
      refine v_puti hT rfl rfl (by omega) (fun _ => Or.inl rfl) ?_
      refine v_p hT rfl rfl ?_
      refine v_geti hT rfl (by first | rfl | assumption) (by omega) ?_
      rw [e17]
      refine v_p hT rfl rfl ?_
      refine v_geti hT rfl (by first | rfl | assumption) (by omega) ?_
      rw [e18]
      refine g_if hT rfl (fun cq => ?_) (fun cq => ?_)
      · refine v_p hT rfl rfl ?_
        rw [nI_add]
        refine v_puti hT rfl rfl (by omega) (fun z => by cases z) ?_
        refine v_p hT rfl rfl ?_
        refine v_call hT [] rfl rfl (by first | rfl | assumption) (by omega) rfl rfl (Nat.le_of_ble_eq_true rfl) (Nat.le_of_ble_eq_true rfl) (hbl) ?_
        refine v_p hT rfl rfl ?_
        refine rd_pre hc ?_
        refine v_call hT [.int (nI (lst (t.2 j))), .int (nI (mst (t.2 j)))] rfl rfl (by first | rfl | assumption) (by omega) rfl rfl (Nat.le_of_ble_eq_true rfl) (Nat.le_of_ble_eq_true rfl) (r1) ?_
        exact hΦ
      · exact absurd rfl cq
    have r0 : rch t j Q (blkF t (j + 1)) (qAt Q1 g1) := rch_trans (rch_one hj hst) b5
    rcases r7 with ⟨x1, X, x2, x3⟩ | ⟨x1, Q', g', k', x2, x3, ⟨y1, y2, y3, y4⟩, x5, x6, x7, x8, x9, xa⟩
    · exact ⟨_, frN_trans hfF (frN_trans (frN_set (k := 18) (x := nI 1) (by omega)) (frN_set (k := 17) (x := nI p) (by omega))), Or.inl ⟨p, X, rch_trans r0 x2, x3, by rw [hs_s, pk_us], by rw [hs_s, pk_un (by omega), hs_s, pk_us]; rfl, start _ (rd_ftail r3 x1)⟩⟩
    · have hkd' : ¬ qKd Q' = 0 := by rw [y2]; exact hk1
      have hcnt : qNn Q' - qFr Q' (qNo Q') = k' := by rw [y1, y4, x5]; omega
      by_cases hsc : p < t.1 ∧ 59 ≤ t.2 p ∧ t.2 p ≤ 59
      · have h59 : t.2 p = 59 := by omega
        let Q2 : QS := (qNo Q' + 1, qNn Q', 0, g', updN (qKs Q') (qNo Q') (qKd Q'), updN (qFr Q') (qNo Q' + 1) (qNn Q'), qNm Q')
        have hst2 : qStep (qAt Q' g') (t.2 p) = some Q2 := by
          unfold qStep
          rw [if_neg (by omega), if_pos h59]
          unfold qEnd
          have hng : ¬ (qKd Q' = 0 ∨ qNn Q' - qFr Q' (qNo Q') < leastN (qKd Q')) := fun z => z.elim hkd' (fun y => by rw [hcnt, y2] at y; have y : k' < leastN (t.2 j) := y; omega)
          rw [if_neg (show ¬ (qKd (qAt Q' g') = 0 ∨ qNn (qAt Q' g') - qFr (qAt Q' g') (qNo (qAt Q' g')) < leastN (qKd (qAt Q' g'))) from hng)]
          rfl
        obtain ⟨g3, w1⟩ := blk_any (t := t) (t.1 - (p + 1)) (p + 1) (by omega) Q2
        obtain ⟨w2, w3, w4, -⟩ := blk_ok (t := t) (t.1 - (p + 1)) (p + 1) (by omega)
        have hg0 : frN F (hset (hset F 98 18 (nI 0)) 98 17 (nI (p + 1))) := frN_trans (frN_set (by omega)) (frN_set (by omega))
        have hbl2 := m_blanks (n := n) (kf := kf) hV (t.1 - (p + 1)) (p + 1) (by omega) (hset (hset F 98 18 (nI 0)) 98 17 (nI (p + 1))) (txM_frN ht (frN_trans hfF hg0)) (by rw [hs_s, pk_us])
        rw [hset_hset] at hbl2
        have hfr0 : qFr (qAt Q2 g3) (qNo Q) = qFr Q (qNo Q) := by
          show updN (qFr Q') (qNo Q' + 1) (qNn Q') (qNo Q) = _
          unfold updN
          rw [if_neg (by rw [y1]; show ¬ qNo Q = qNo Q + 1; omega), y4]
        have hfr1 : qFr (qAt Q2 g3) (qNo Q + 1) = qFr Q (qNo Q) + k' := by
          show updN (qFr Q') (qNo Q' + 1) (qNn Q') (qNo Q + 1) = _
          unfold updN
          rw [if_pos (by rw [y1]), x5]
        have hd : qFr (qAt Q2 g3) (qNo Q + 1) - qFr (qAt Q2 g3) (qNo Q) = k' := by rw [hfr0, hfr1]; omega
        refine ⟨hset (hset F 98 18 (nI 0)) 98 17 (nI (blkF t (p + 1))), frN_trans hfF (frN_trans (frN_set (by omega)) (frN_set (by omega))), Or.inr ⟨blkF t (p + 1), qAt Q2 g3, ⟨rch_trans r0 (rch_trans x2 (rch_trans (rch_one hsc.1 hst2) w1)), by omega, w3, w4, ⟨rfl, by show qNo Q' + 1 = _; rw [y1], ?_⟩, ⟨by rw [hs_s, pk_us], by rw [hs_s, pk_un (by omega), hs_s, pk_us]; rfl⟩, ?_, ?_⟩, fun Φ hΦ => start Φ ?_⟩⟩
        · show updN (qKs Q') (qNo Q') (qKd Q') (qNo Q) = _
          unfold updN
          rw [if_pos (by rw [y1]), y2]
        · rw [hd, hs_s, pk_un (by omega), hs_s, pk_un (by omega)]
          exact x6
        · rw [hd]
          intro i hi
          rw [hset_ne (by omega), hset_ne (by omega), hfr0]
          exact x7 i hi
        · have e17 : hset F 98 18 (nI 0) 98 17 = nI p := by rw [hs_s, pk_un (by omega)]; exact r3
          have e18 : hset F 98 18 (nI 0) 98 18 = nI 0 := by rw [hs_s, pk_us]
          have f18 : hset (hset F 98 18 (nI 0)) 98 17 (nI (p + 1)) 98 18 = nI 0 := by rw [hs_s, pk_un (by omega)]; exact e18
          refine v_p hT rfl rfl ?_
          refine v_geti hT rfl (by first | rfl | assumption) (by omega) ?_
          rw [x1]
          refine g_if hT rfl (fun cq => ?_) (fun cq => ?_)
          · exact absurd rfl cq
          · refine v_p hT rfl rfl ?_
            refine v_call hT [.int (nI 59), .int (nI 59)] rfl rfl (by first | rfl | assumption) (by omega) rfl rfl (Nat.le_of_ble_eq_true rfl) (Nat.le_of_ble_eq_true rfl) (m_isAt hV (txM_frN ht hfF) r3 r5 (by omega) (by omega)) ?_
            rw [decide_eq_true hsc]
            refine g_if hT rfl (fun cq2 => ?_) (fun cq2 => ?_)
            · refine v_p hT rfl rfl ?_
              refine v_puti hT rfl rfl (by omega) (fun _ => Or.inl rfl) ?_
              refine v_p hT rfl rfl ?_
              refine v_geti hT rfl (by first | rfl | assumption) (by omega) ?_
              rw [e17]
              refine v_p hT rfl rfl ?_
              refine v_geti hT rfl (by first | rfl | assumption) (by omega) ?_
              rw [e18]
              refine g_if hT rfl (fun cq3 => ?_) (fun cq3 => ?_)
              · refine v_p hT rfl rfl ?_
                rw [nI_add]
                refine v_puti hT rfl rfl (by omega) (fun z => by cases z) ?_
                refine v_p hT rfl rfl ?_
                refine v_geti hT rfl (by first | rfl | assumption) (by omega) ?_
                rw [f18]
                refine g_if hT rfl (fun cq4 => ?_) (fun cq4 => ?_)
                · exact absurd rfl cq4
                · refine v_p hT rfl rfl ?_
                  refine v_call hT [] rfl rfl (by first | rfl | assumption) (by omega) rfl rfl (Nat.le_of_ble_eq_true rfl) (Nat.le_of_ble_eq_true rfl) (hbl2) ?_
                  refine v_p hT rfl rfl ?_
                  exact v_cv hΦ ⟨rfl, rfl, rfl, trivial⟩ rfl rfl
              · exact absurd rfl cq3
            · exact absurd (show ¬ (1 : Int32) = 0 by decide) cq2
      · have hflt : fltT t p (qAt Q' g') := by
          rcases r6 with h | ⟨h1, h2⟩
          · exact Or.inr ⟨h, hkd'⟩
          · refine Or.inl ⟨h1, ?_⟩
            by_cases hd : dgT t p
            · have hg0 := x3 hd
              have hk' := xa hd
              subst hg0
              unfold qStep
              rw [if_neg h2, if_neg (by omega), if_pos hd.2]
              unfold qFig
              have hmo : mostN (qKd Q') ≤ qNn Q' - qFr Q' (qNo Q') := by rw [hcnt, y2]; show mostN (t.2 j) ≤ k'; omega
              rw [if_neg (show ¬ (qKd (qAt Q' 0) = 0 ∨ 2 ≤ qFg (qAt Q' 0)) from fun z => z.elim hkd' (fun y => absurd y (by show ¬ 2 ≤ 0; omega))), if_neg (show ¬ qFg (qAt Q' 0) = 1 by show ¬ 0 = 1; omega), if_pos (show mostN (qKd (qAt Q' 0)) ≤ qNn (qAt Q' 0) - qFr (qAt Q' 0) (qNo (qAt Q' 0)) from hmo)]
            · exact no_step hkd' h2 (fun z => hd ⟨h1, z⟩) (fun z => absurd ⟨h1, by omega⟩ hsc)
        refine ⟨_, frN_trans hfF (frN_trans (frN_set (k := 18) (x := nI 1) (by omega)) (frN_set (k := 17) (x := nI p) (by omega))), Or.inl ⟨p, qAt Q' g', rch_trans r0 x2, hflt, by rw [hs_s, pk_us], by rw [hs_s, pk_un (by omega), hs_s, pk_us]; rfl, start _ ?_⟩⟩
        refine v_p hT rfl rfl ?_
        refine v_geti hT rfl (by first | rfl | assumption) (by omega) ?_
        rw [x1]
        refine g_if hT rfl (fun cq => ?_) (fun cq => ?_)
        · exact absurd rfl cq
        · refine v_p hT rfl rfl ?_
          refine v_call hT [.int (nI 59), .int (nI 59)] rfl rfl (by first | rfl | assumption) (by omega) rfl rfl (Nat.le_of_ble_eq_true rfl) (Nat.le_of_ble_eq_true rfl) (m_isAt hV (txM_frN ht hfF) r3 r5 (by omega) (by omega)) ?_
          rw [decide_eq_false hsc]
          refine g_if hT rfl (fun cq2 => ?_) (fun cq2 => ?_)
          · exact absurd rfl cq2
          · refine v_p hT rfl rfl ?_
            exact rd_fend r3
