/-! THE REFERENCE: para, texts, told, word. -/
theorem M_para {S : ST} (hV : VS S) (s n sd : Int32) : MSp n_X7_para [.int s, .int n, .int sd] S (oPara S s n sd) := by
  have hT : mT n_X7_para = tb_X7_para := rfl
  intro m kf f hR
  have loop : ∀ d k, k + d = 12 → ∀ F : Nat → Nat → Int32, (∀ c, c ≠ 102 → F c = f c) → (∀ j, j < k → ∀ D, D ≤ 99 → sd = nI D → F 102 j = nI (sdN D j)) →
      ∃ F2, (∀ Φ, Run n_X7_para 110 45 [some (.ref 98), some (.int s), some (.int n), some (.int sd), none, none] [] (HH m kf F2) Φ → Run n_X7_para 110 7 [some (.ref 98), some (.int s), some (.int n), some (.int sd), some (.int (nI k)), none] [.int (nI 12), .int (nI k)] (HH m kf F) Φ) ∧ (∀ c, c ≠ 102 → F2 c = f c) ∧ ∀ j, j < 12 → ∀ D, D ≤ 99 → sd = nI D → F2 102 j = nI (sdN D j) := by
    intro d
    induction d with
    | zero =>
      intro k hk F h1 h2
      refine ⟨F, fun Φ hΦ => ?_, h1, fun j hj => h2 j (by omega)⟩
      refine g_cmp hT rfl (fun cq => ?_) (fun cq => ?_)
      · exact v_cv hΦ ⟨rfl, rfl, rfl, rfl, trivial⟩ rfl rfl
      · exact absurd ((cj_ge (by omega) (by omega)).mpr (by omega)) cq
    | succ d ih =>
      intro k hk F h1 h2
      generalize hx : sd * nI 7 + nI k * nI k * nI 3 + nI k * nI 5 = x
      obtain ⟨F2, g1, g2⟩ := ih (k + 1) (by omega) (hset F 102 k (x - x / nI 9 * nI 9 + nI 1)) (fun c hc => by rw [hset_ne hc]; exact h1 c hc) (fun j hj D hD e => by
        rw [hs_s]
        by_cases ej : j = k
        · subst ej
          rw [upd_eq, ← hx, e, pk_mul, pk_mul, pk_mul, pk_mul, nI_add, nI_add]
          have hb1 : j * j ≤ 12 * 12 := Nat.mul_le_mul (by omega) (by omega)
          rw [pk_rem (by omega) (by omega) (by omega), nI_add]
          rfl
        · rw [upd_ne ej]; exact h2 j (by omega) D hD e)
      refine ⟨F2, fun Φ hΦ => ?_, g2⟩
      refine g_cmp hT rfl (fun cq => ?_) (fun cq => ?_)
      · exact absurd ((cj_ge (by omega) (by omega)).mp cq) (by omega)
      · refine v_p hT rfl rfl ?_
        refine v_getr hT rfl rfl (by omega) rfl ?_
        refine v_p hT rfl rfl ?_
        rw [hx]
        refine g_rem hT rfl (by decide) ?_
        refine v_p hT rfl rfl ?_
        refine v_ast hT rfl rfl (by omega) (by decide) (by omega) ?_
        refine v_p hT rfl rfl ?_
        refine v_cv (g1 Φ hΦ) ⟨rfl, rfl, rfl, rfl, ?_, trivial⟩ ?_ rfl
        · rw [nI_add]
        · rw [nI_add]
  obtain ⟨fa, r0, k0, hfr0⟩ := loop 12 0 (by omega) f (fun _ _ => rfl) (fun j hj => absurd hj (Nat.not_lt_zero _))
  have hRa : RepM fa S := by
    obtain ⟨a1, a2, a3, a4, kn, a5, a6⟩ := hR
    exact ⟨by rw [k0 100 (by omega)]; exact a1, stM_fr a2 (by rw [k0 98 (by omega)]) (k0 101 (by omega)), ⟨by rw [k0 98 (by omega)]; exact a3.1, fun k hk => by rw [k0 109 (by omega)]; exact a3.2 k hk⟩, fun i hi => by rw [k0 99 (by omega)]; exact a4 i hi, kn, by rw [k0 98 (by omega)]; exact a5, fun z => knR_fr (a6 z) (fun i _ => by rw [k0 98 (by omega)]) (fun c _ => k0 c (by omega))⟩
  -- what may be
  have start : ∀ can, (bif decide (nI 0 ≤ sd ∧ sd ≤ nI 99) then canP S.1 s n (fa 102) else mI 2) = can → ∀ Φ, Run n_X7_para 110 70 [some (.ref 98), some (.int s), some (.int n), some (.int sd), some (.int can), none] [.int can] (HH m kf fa) Φ → Run n_X7_para 110 0 (ini n_X7_para [.ref 98, .int s, .int n, .int sd]) [] (HH m kf f) Φ := by
    intro can hcan Φ hΦ
    refine v_p hT rfl rfl ?_
    refine r0 _ ?_
    refine v_p hT rfl rfl ?_
    refine v_scall hT [.int sd, .int (nI 0), .int (nI 99)] rfl rfl rfl rfl (Nat.le_of_ble_eq_true rfl) (Nat.le_of_ble_eq_true rfl) (m_in sd (nI 0) (nI 99)) ?_
    refine g_if hT rfl (fun cq => ?_) (fun cq => ?_)
    · rw [bf_of cq] at hcan
      refine v_p hT rfl rfl ?_
      subst hcan
      exact hΦ
    · rw [bt_of cq] at hcan
      refine v_p hT rfl rfl ?_
      refine v_call hT [.int s, .int n] rfl rfl (by first | rfl | assumption) (by omega) rfl rfl (Nat.le_of_ble_eq_true rfl) (Nat.le_of_ble_eq_true rfl) (m_canPara hRa.1 hV.1.1 s n) ?_
      rw [show canP S.1 s n (fa 102) = can from hcan]
      refine v_p hT rfl rfl ?_
      exact hΦ
  have hno : ∀ j, j < 3 → (bif decide (nI 0 ≤ sd ∧ sd ≤ nI 99) then canP S.1 s n (fa 102) else mI 2) = mI (2 + j) → ∃ f2, Run n_X7_para 110 0 (ini n_X7_para [.ref 98, .int s, .int n, .int sd]) [] (HH m kf f) (Ret (some (.int (mI (2 + j)))) (HH m kf f2)) ∧ RepM f2 (refu S j) ∧ ∀ c, c < 98 ∨ 110 ≤ c → f2 c = f c := by
    intro j hj hcan
    refine ⟨hset fa 99 j (fa 99 j + nI 1), start _ hcan _ ?_, RepM_refu hRa, fun c hc => by rw [hset_ne (by omega), k0 c (by omega)]⟩
    refine g_if hT rfl (fun cq => ?_) (fun cq => ?_)
    · exact absurd cq (neg_ge hj)
    · refine v_p hT rfl rfl ?_
      refine v_call hT [.int (mI (2 + j))] rfl rfl (by first | rfl | assumption) (by omega) rfl rfl (Nat.le_of_ble_eq_true rfl) (Nat.le_of_ble_eq_true rfl) (m_counted hj) ?_
      refine v_ret hT rfl (fun z => by cases z) rfl ⟨rfl, rfl⟩
  unfold oPara
  cases hall : (decide (0 ≤ s ∧ s ≤ 1) && decide (nI 1 ≤ n ∧ n ≤ nI 12) && decide (nI 0 ≤ sd ∧ sd ≤ nI 99)) with
  | false =>
    refine hno 0 (by omega) ?_
    rw [Bool.and_eq_false_iff] at hall
    rcases hall with h | h
    · unfold canP
      rw [h, Bool.false_and]
      cases decide (nI 0 ≤ sd ∧ sd ≤ nI 99) <;> rfl
    · rw [h]
      rfl
  | true =>
    rw [Bool.and_eq_true, Bool.and_eq_true] at hall
    obtain ⟨⟨c1, c2⟩, c3⟩ := hall
    obtain ⟨N, n1, n2, n3⟩ := in_range n (by omega) (of_decide_eq_true c2) (by omega)
    obtain ⟨D, d2, d3⟩ := int_04 (by omega) (of_decide_eq_true c3)
    obtain ⟨Z, z1, z2⟩ : ∃ Z, Z < 2 ∧ s = nI Z := by
      rcases int_lo (of_decide_eq_true c1) with e | e
      · exact ⟨0, by omega, e⟩
      · exact ⟨1, by omega, e⟩
    subst n3; subst z2
    rw [c3] at start hno
    have hN := nI_tn (show N < 2 ^ 31 by omega)
    have hZ := nI_tn (show Z < 2 ^ 31 by omega)
    have hD : sd.toNatClampNeg = D := by rw [d3, nI_tn (by omega)]
    rw [hN, hZ, hD]
    show ∃ f2, Run _ _ _ _ _ _ (Ret (some (.int (chg S (aPar S.1 Z N (fun k => nI (sdN D k)))).1)) _) ∧ RepM f2 (chg S (aPar S.1 Z N (fun k => nI (sdN D k)))).2 ∧ _
    obtain ⟨f1, r1, hR1, h6, k1⟩ := m_aside (n := m) (kf := kf) hV hRa
    have hfr1 : ∀ k, k < N → f1 102 k = nI (sdN D k) := fun k hk => by rw [k1 102 (by omega)]; exact hfr0 k (by omega) D d2 d3
    have hca : canP S.1 (nI Z) (nI N) (f1 102) = canP S.1 (nI Z) (nI N) (fa 102) := by rw [k1 102 (by omega)]
    obtain ⟨oc, og⟩ := o_par (m := m) (kf := kf) (f := f1) (ws := fun k => nI (sdN D k)) hR1.1 hV.1 z1 n1 n2 hfr1
    rw [hca] at oc og
    rcases oc with ⟨j, hj, e1, e2⟩ | e1
    · rw [show aPar S.1 Z N (fun k => nI (sdN D k)) = (mI (2 + j), (aPar S.1 Z N (fun k => nI (sdN D k))).2) from Prod.ext e2 rfl, chg_no hj]
      exact hno j hj e1
    · obtain ⟨F, g1, g2, g3, g4⟩ := og e1
      have st2 : ∀ Φ, Run n_X7_para 110 98 [some (.ref 98), some (.int (nI Z)), some (.int (nI N)), some (.int sd), some (.int (nI 0)), some (.int (aPar S.1 Z N (fun k => nI (sdN D k))).1)] [.int (mI 4), .int (aPar S.1 Z N (fun k => nI (sdN D k))).1] (HH m kf F) Φ → Run n_X7_para 110 0 (ini n_X7_para [.ref 98, .int (nI Z), .int (nI N), .int sd]) [] (HH m kf f) Φ := by
        intro Φ hΦ
        refine start (nI 0) e1 Φ ?_
        refine g_if hT rfl (fun cq => ?_) (fun cq => ?_)
        · refine v_p hT rfl rfl ?_
          refine v_call hT [.int (nI 6)] rfl rfl (by first | rfl | assumption) (by omega) rfl rfl (Nat.le_of_ble_eq_true rfl) (Nat.le_of_ble_eq_true rfl) (r1) ?_
          refine v_p hT rfl rfl ?_
          refine v_call hT [.int (nI Z), .int (nI N)] rfl rfl (by first | rfl | assumption) (by omega) rfl rfl (Nat.le_of_ble_eq_true rfl) (Nat.le_of_ble_eq_true rfl) (g1) ?_
          refine v_p hT rfl rfl ?_
          exact hΦ
        · exact absurd (show (0 : Int32) ≤ nI 0 by decide) cq
      rcases g2 with g2 | ⟨⟨k, q1, q2⟩, g2⟩
      · obtain ⟨F2, y1, y2, y3⟩ := m_undo (n := m) (kf := kf) (F := F) hV hR1 h6 (fun i hi => by rw [g3, upd_ne (by omega)]) (fun c hc => g4 c (by omega) (by omega))
        rw [show aPar S.1 Z N (fun k => nI (sdN D k)) = (mI (2 + 2), (aPar S.1 Z N (fun k => nI (sdN D k))).2) from Prod.ext g2 rfl, chg_no (by omega)]
        refine ⟨hset F2 99 2 (F2 99 2 + nI 1), st2 _ ?_, RepM_refu y2, fun c hc => by rw [hset_ne (by omega), y3 c (by omega) (by omega), g4 c (by omega) (by omega), k1 c (by omega), k0 c (by omega)]⟩
        rw [g2]
        refine g_cmp hT rfl (fun cq => ?_) (fun cq => ?_)
        · exact absurd rfl cq
        · refine v_p hT rfl rfl ?_
          refine v_call hT [.int (nI 6)] rfl rfl (by first | rfl | assumption) (by omega) rfl rfl (Nat.le_of_ble_eq_true rfl) (Nat.le_of_ble_eq_true rfl) (y1) ?_
          refine v_p hT rfl rfl ?_
          refine v_call hT [] rfl rfl (by first | rfl | assumption) (by omega) rfl rfl (Nat.le_of_ble_eq_true rfl) (Nat.le_of_ble_eq_true rfl) (m_full) ?_
          refine v_ret hT rfl (fun z => by cases z) rfl ⟨rfl, rfl⟩
      · obtain ⟨F2, y1, y2, y3⟩ := m_stay (n := m) (kf := kf) (F := F) hV hR1 h6 g2 g3 g4
        rw [show aPar S.1 Z N (fun k => nI (sdN D k)) = (nI k, (aPar S.1 Z N (fun k => nI (sdN D k))).2) from Prod.ext q2 rfl, chg_ok q1]
        refine ⟨F2, st2 _ ?_, y2, fun c hc => by rw [y3 c (by omega) (by omega), g4 c (by omega) (by omega), k1 c (by omega), k0 c (by omega)]⟩
        rw [q2]
        refine g_cmp hT rfl (fun cq => ?_) (fun cq => ?_)
        · refine v_p hT rfl rfl ?_
          refine v_call hT [] rfl rfl (by first | rfl | assumption) (by omega) rfl rfl (Nat.le_of_ble_eq_true rfl) (Nat.le_of_ble_eq_true rfl) (y1) ?_
          refine v_p hT rfl rfl ?_
          refine v_ret hT rfl (fun z => by cases z) rfl ⟨rfl, rfl⟩
        · exact absurd (Classical.not_not.mp cq) (nI_nmI (j := 2) q1 (by omega))
theorem M_back {S : ST} (hV : VS S) : MSp n_X7_back [] S (oBack S) := by
  have hT : mT n_X7_back = tb_X7_back := rfl
  intro n kf f hR
  unfold oBack
  have h3 : f 98 3 = nI S.2.1.1 := hR.2.1.1
  have h6 := hV.2.1.1
  by_cases h0 : S.2.1.1 = 0
  · rw [if_pos h0]
    refine ⟨hset f 99 1 (f 99 1 + nI 1), ?_, RepM_refu hR, fun c hc => hset_ne (by omega)⟩
    refine v_p hT rfl rfl ?_
    refine v_geti hT rfl (by first | rfl | assumption) (by omega) ?_
    rw [h3, h0]
    refine g_if hT rfl (fun cq => ?_) (fun cq => ?_)
    · exact absurd rfl cq
    · refine v_p hT rfl rfl ?_
      refine v_call hT [] rfl rfl (by first | rfl | assumption) (by omega) rfl rfl (Nat.le_of_ble_eq_true rfl) (Nat.le_of_ble_eq_true rfl) (m_no) ?_
      refine v_ret hT rfl (fun z => by cases z) rfl ⟨rfl, rfl⟩
  · rw [if_neg h0]
    obtain ⟨F2, e1, e2, e3, e4⟩ := m_takes (n := n) (kf := kf) (f := hset f 98 3 (nI (S.2.1.1 - 1))) (pl := S.2.1.1 - 1) (by omega)
    have h3b : hset f 98 3 (nI (S.2.1.1 - 1)) 98 3 = nI (S.2.1.1 - 1) := by rw [hs_s, upd_eq]
    have h3c : F2 98 3 = nI (S.2.1.1 - 1) := by rw [e3, upd_ne (by omega), h3b]
    have h101 : F2 101 = f 101 := by rw [e4 101 (by omega) (by omega), hset_ne (by omega)]
    refine ⟨F2, ?_, RepM_mk hR (nowR_cg (hV.2.1.2 _ (by omega)).1 (hR.2.1.2 (S.2.1.1 - 1) (by omega)) (fun c hc => by rw [e2 c hc, hset_ne (by omega)])) ⟨h3c, fun i hi => by rw [h101]; exact hR.2.1.2 i (by have : i < S.2.1.1 - 1 := hi; omega)⟩ (by rw [e3, upd_eq]) (by rw [e3, upd_ne (by omega), hs_s, upd_ne (by omega)]) (by rw [e4 99 (by omega) (by omega), hset_ne (by omega)]) (by rw [e4 109 (by omega) (by omega), hset_ne (by omega)]), fun c hc => by rw [e4 c (by omega) (by omega), hset_ne (by omega)]⟩
    refine v_p hT rfl rfl ?_
    refine v_geti hT rfl (by first | rfl | assumption) (by omega) ?_
    rw [h3]
    refine g_if hT rfl (fun cq => ?_) (fun cq => ?_)
    · refine v_p hT rfl rfl ?_
      refine v_geti hT rfl (by first | rfl | assumption) (by omega) ?_
      rw [h3]
      refine v_p hT rfl rfl ?_
      rw [pk_sub (by omega)]
      refine v_puti hT rfl rfl (by omega) (fun z => by cases z) ?_
      refine v_p hT rfl rfl ?_
      refine v_geti hT rfl (by first | rfl | assumption) (by omega) ?_
      rw [h3b]
      refine v_call hT [.int (nI (S.2.1.1 - 1))] rfl rfl (by first | rfl | assumption) (by omega) rfl rfl (Nat.le_of_ble_eq_true rfl) (Nat.le_of_ble_eq_true rfl) (e1) ?_
      refine v_p hT rfl rfl ?_
      refine v_geti hT rfl (by first | rfl | assumption) (by omega) ?_
      rw [h3c]
      refine v_ret hT rfl (fun z => by cases z) rfl ⟨rfl, rfl⟩
    · exact absurd (Classical.not_not.mp ((not_congr (cj_ne (a := S.2.1.1) (b := 0) (by omega) (by omega))).mp cq)) h0
theorem M_clear {S : ST} (hV : VS S) : MSp n_X7_clear [] S (oClear S) := by
  have hT : mT n_X7_clear = tb_X7_clear := rfl
  intro n kf f hR
  obtain ⟨a1, a2, a3, a4, kn, a5, a6⟩ := hR
  refine ⟨hset f 98 16 (nI 0), ?_, ⟨by rw [hset_ne (by omega)]; exact a1, stM_fr a2 (by rw [hs_s, upd_ne (by omega)]) (hset_ne (by omega)), ⟨by rw [hs_s, upd_eq]; rfl, fun k hk => absurd hk (Nat.not_lt_zero _)⟩, fun i hi => by rw [hset_ne (by omega)]; exact a4 i hi, kn, by rw [hs_s, upd_ne (by omega)]; exact a5, fun z => knR_fr (a6 z) (fun i _ => by rw [hs_s, upd_ne (by omega)]) (fun c _ => hset_ne (by omega))⟩, fun c hc => hset_ne (by omega)⟩
  refine v_p hT rfl rfl ?_
  refine v_geti hT rfl (by first | rfl | assumption) (by omega) ?_
  rw [a3.1]
  refine v_p hT rfl rfl ?_
  refine v_puti hT rfl rfl (by omega) (fun z => by cases z) ?_
  refine v_p hT rfl rfl ?_
  refine v_ret hT rfl (fun z => by cases z) rfl ⟨rfl, rfl⟩
theorem M_type {S : ST} (hV : VS S) (c : Int32) : MSp n_X7_type [.int c] S (oType S c) := by
  have hT : mT n_X7_type = tb_X7_type := rfl
  intro n kf f hR
  have hR0 := hR
  obtain ⟨a1, a2, a3, a4, kn, a5, a6⟩ := hR
  have h120 := hV.2.2.1
  unfold oType
  by_cases hc : nI 0 ≤ c ∧ c ≤ nI 127
  · rw [decide_eq_true hc]
    obtain ⟨k, k1, k2⟩ := int_04 (by omega) hc
    have hck : c.toNatClampNeg = k := by rw [k2, nI_tn (by omega)]
    simp only [cond_true]
    by_cases ht : S.2.2.1.1 < 120
    · rw [if_pos ht, hck]
      refine ⟨hset (hset f 109 S.2.2.1.1 c) 98 16 (nI (S.2.2.1.1 + 1)), ?_, ⟨by rw [hset_ne (by omega), hset_ne (by omega)]; exact a1, stM_fr a2 (by rw [hs_s, upd_ne (by omega), hset_ne (by omega)]) (by rw [hset_ne (by omega), hset_ne (by omega)]), ⟨by rw [hs_s, upd_eq]; rfl, fun q hq => ?_⟩, fun i hi => by rw [hset_ne (by omega), hset_ne (by omega)]; exact a4 i hi, kn, by rw [hs_s, upd_ne (by omega), hset_ne (by omega)]; exact a5, fun z => knR_fr (a6 z) (fun i _ => by rw [hs_s, upd_ne (by omega), hset_ne (by omega)]) (fun c _ => by rw [hset_ne (by omega), hset_ne (by omega)])⟩, fun c hc => by rw [hset_ne (by omega), hset_ne (by omega)]⟩
      · refine v_p hT rfl rfl ?_
        refine v_scall hT [.int c, .int (nI 0), .int (nI 127)] rfl rfl rfl rfl (Nat.le_of_ble_eq_true rfl) (Nat.le_of_ble_eq_true rfl) (m_in c (nI 0) (nI 127)) ?_
        rw [decide_eq_true hc]
        refine g_if hT rfl (fun cq => ?_) (fun cq => ?_)
        · refine v_p hT rfl rfl ?_
          refine v_geti hT rfl (by first | rfl | assumption) (by omega) ?_
          rw [a3.1]
          refine v_p hT rfl rfl ?_
          refine g_cmp hT rfl (fun cq2 => ?_) (fun cq2 => ?_)
          · refine v_p hT rfl rfl ?_
            refine v_getr hT rfl rfl (by omega) rfl ?_
            refine v_p hT rfl rfl ?_
            refine v_geti hT rfl (by first | rfl | assumption) (by omega) ?_
            rw [a3.1]
            refine v_p hT rfl rfl ?_
            refine v_ast hT rfl rfl (by omega) (by decide) ht ?_
            refine v_p hT rfl rfl ?_
            refine v_geti hT rfl (by first | rfl | assumption) (by omega) ?_
            rw [hset_ne (by omega), a3.1]
            refine v_p hT rfl rfl ?_
            rw [nI_add]
            refine v_puti hT rfl rfl (by omega) (fun z => by cases z) ?_
            refine v_p hT rfl rfl ?_
            refine v_geti hT rfl (by first | rfl | assumption) (by omega) ?_
            rw [hs_s, upd_eq]
            refine v_ret hT rfl (fun z => by cases z) rfl ⟨rfl, rfl⟩
          · have cq2 := Classical.not_not.mp ((not_congr (cj_ne (by omega) (by omega))).mp cq2)
            omega
        · exact absurd (show ¬ (1 : Int32) = 0 by decide) cq
      · rw [hset_ne (by omega), hs_s]
        have hq : q < S.2.2.1.1 + 1 := hq
        show upd _ _ _ q = nI (if q = S.2.2.1.1 then k else S.2.2.1.2 q)
        by_cases e : q = S.2.2.1.1
        · rw [if_pos e, e, upd_eq, k2]
        · rw [if_neg e, upd_ne e]; exact a3.2 q (by omega)
    · rw [if_neg ht]
      refine ⟨hset f 99 2 (f 99 2 + nI 1), ?_, RepM_refu hR0, fun c hc => hset_ne (by omega)⟩
      refine v_p hT rfl rfl ?_
      refine v_scall hT [.int c, .int (nI 0), .int (nI 127)] rfl rfl rfl rfl (Nat.le_of_ble_eq_true rfl) (Nat.le_of_ble_eq_true rfl) (m_in c (nI 0) (nI 127)) ?_
      rw [decide_eq_true hc]
      refine g_if hT rfl (fun cq => ?_) (fun cq => ?_)
      · refine v_p hT rfl rfl ?_
        refine v_geti hT rfl (by first | rfl | assumption) (by omega) ?_
        rw [a3.1]
        refine v_p hT rfl rfl ?_
        refine g_cmp hT rfl (fun cq2 => ?_) (fun cq2 => ?_)
        · have cq2 := (cj_ne (by omega) (by omega)).mp cq2
          omega
        · refine v_p hT rfl rfl ?_
          refine v_call hT [] rfl rfl (by first | rfl | assumption) (by omega) rfl rfl (Nat.le_of_ble_eq_true rfl) (Nat.le_of_ble_eq_true rfl) (m_full) ?_
          refine v_ret hT rfl (fun z => by cases z) rfl ⟨rfl, rfl⟩
      · exact absurd (show ¬ (1 : Int32) = 0 by decide) cq
  · rw [decide_eq_false hc]
    obtain ⟨fb, q1, q2, q3⟩ := m_bad2 (n := n) (kf := kf) hR0
    refine ⟨fb, ?_, q2, q3⟩
    refine v_p hT rfl rfl ?_
    refine v_scall hT [.int c, .int (nI 0), .int (nI 127)] rfl rfl rfl rfl (Nat.le_of_ble_eq_true rfl) (Nat.le_of_ble_eq_true rfl) (m_in c (nI 0) (nI 127)) ?_
    rw [decide_eq_false hc]
    refine g_if hT rfl (fun cq => ?_) (fun cq => ?_)
    · exact absurd rfl cq
    · refine v_p hT rfl rfl ?_
      refine v_call hT [] rfl rfl (by first | rfl | assumption) (by omega) rfl rfl (Nat.le_of_ble_eq_true rfl) (Nat.le_of_ble_eq_true rfl) (q1) ?_
      refine v_ret hT rfl (fun z => by cases z) rfl ⟨rfl, rfl⟩
theorem m_toldOf {S : ST} {k n : Nat} (hk : k ≤ 9) {kf : Nat → Nat} {f : Nat → Nat → Int32} (hR : RepM f S) : Run n_X7_toldOf 110 0 (ini n_X7_toldOf [.ref 98, .int (nI k)]) [] (HH n kf f) (Ret (some (.int (tlA S k))) (HH n kf f)) := by
  have hT : mT n_X7_toldOf = tb_X7_toldOf := rfl
  obtain ⟨a1, a2, a3, a4, a5⟩ := hR
  rcases (show k = 0 ∨ k = 1 ∨ k = 2 ∨ k = 3 ∨ k = 4 ∨ k = 5 ∨ k = 6 ∨ k = 7 ∨ k = 8 ∨ k = 9 by omega) with e | e | e | e | e | e | e | e | e | e
  · subst e
    refine v_p hT rfl rfl ?_
    refine g_sw hT rfl (Or.inl rfl) (pc' := 52) rfl ?_
    refine v_p hT rfl rfl ?_
    refine v_getr hT rfl rfl (by omega) rfl ?_
    refine v_p hT rfl rfl ?_
    refine v_ald hT rfl (by first | assumption | rfl) (by omega) (by decide) (by omega) ?_
    rw [a4 0 (by omega)]
    refine v_ret hT rfl (fun z => by cases z) rfl ⟨rfl, rfl⟩
  · subst e
    refine v_p hT rfl rfl ?_
    refine g_sw hT rfl (Or.inl rfl) (pc' := 52) rfl ?_
    refine v_p hT rfl rfl ?_
    refine v_getr hT rfl rfl (by omega) rfl ?_
    refine v_p hT rfl rfl ?_
    refine v_ald hT rfl (by first | assumption | rfl) (by omega) (by decide) (by omega) ?_
    rw [a4 1 (by omega)]
    refine v_ret hT rfl (fun z => by cases z) rfl ⟨rfl, rfl⟩
  · subst e
    refine v_p hT rfl rfl ?_
    refine g_sw hT rfl (Or.inl rfl) (pc' := 52) rfl ?_
    refine v_p hT rfl rfl ?_
    refine v_getr hT rfl rfl (by omega) rfl ?_
    refine v_p hT rfl rfl ?_
    refine v_ald hT rfl (by first | assumption | rfl) (by omega) (by decide) (by omega) ?_
    rw [a4 2 (by omega)]
    refine v_ret hT rfl (fun z => by cases z) rfl ⟨rfl, rfl⟩
  · subst e
    refine v_p hT rfl rfl ?_
    refine g_sw hT rfl (Or.inl rfl) (pc' := 59) rfl ?_
    refine v_p hT rfl rfl ?_
    refine v_getr hT rfl rfl (by omega) rfl ?_
    refine v_p hT rfl rfl ?_
    rw [nI_add, pk_sub (by omega)]
    refine v_ald hT rfl (by first | assumption | rfl) (by omega) (by decide) (by omega) ?_
    rw [show f 100 (0 + 3 - 3) = nI (bWd S.1 0) from a1.1 0 (by omega)]
    refine v_ret hT rfl (fun z => by cases z) rfl ⟨rfl, rfl⟩
  · subst e
    refine v_p hT rfl rfl ?_
    refine g_sw hT rfl (Or.inl rfl) (pc' := 59) rfl ?_
    refine v_p hT rfl rfl ?_
    refine v_getr hT rfl rfl (by omega) rfl ?_
    refine v_p hT rfl rfl ?_
    rw [nI_add, pk_sub (by omega)]
    refine v_ald hT rfl (by first | assumption | rfl) (by omega) (by decide) (by omega) ?_
    rw [show f 100 (0 + 4 - 3) = nI (bWd S.1 1) from a1.1 1 (by omega)]
    refine v_ret hT rfl (fun z => by cases z) rfl ⟨rfl, rfl⟩
  · subst e
    refine v_p hT rfl rfl ?_
    refine g_sw hT rfl (Or.inl rfl) (pc' := 70) rfl ?_
    refine v_p hT rfl rfl ?_
    refine v_getr hT rfl rfl (by omega) rfl ?_
    refine v_p hT rfl rfl ?_
    rw [nI_add, pk_sub (by omega)]
    refine v_ald hT rfl (by first | assumption | rfl) (by omega) (by decide) (by omega) ?_
    rw [show f 100 (2 + 5 - 5) = nI (bSe S.1 0) from a1.2.1 0 (by omega)]
    refine v_ret hT rfl (fun z => by cases z) rfl ⟨rfl, rfl⟩
  · subst e
    refine v_p hT rfl rfl ?_
    refine g_sw hT rfl (Or.inl rfl) (pc' := 70) rfl ?_
    refine v_p hT rfl rfl ?_
    refine v_getr hT rfl rfl (by omega) rfl ?_
    refine v_p hT rfl rfl ?_
    rw [nI_add, pk_sub (by omega)]
    refine v_ald hT rfl (by first | assumption | rfl) (by omega) (by decide) (by omega) ?_
    rw [show f 100 (2 + 6 - 5) = nI (bSe S.1 1) from a1.2.1 1 (by omega)]
    refine v_ret hT rfl (fun z => by cases z) rfl ⟨rfl, rfl⟩
  · subst e
    refine v_p hT rfl rfl ?_
    refine g_sw hT rfl (Or.inl rfl) (pc' := 70) rfl ?_
    refine v_p hT rfl rfl ?_
    refine v_getr hT rfl rfl (by omega) rfl ?_
    refine v_p hT rfl rfl ?_
    rw [nI_add, pk_sub (by omega)]
    refine v_ald hT rfl (by first | assumption | rfl) (by omega) (by decide) (by omega) ?_
    rw [show f 100 (2 + 7 - 5) = nI (bSe S.1 2) from a1.2.1 2 (by omega)]
    refine v_ret hT rfl (fun z => by cases z) rfl ⟨rfl, rfl⟩
  · subst e
    refine v_p hT rfl rfl ?_
    refine g_sw hT rfl (Or.inl rfl) (pc' := 81) rfl ?_
    refine v_p hT rfl rfl ?_
    refine v_geti hT rfl (by first | rfl | assumption) (by omega) ?_
    rw [a3.1]
    refine v_ret hT rfl (fun z => by cases z) rfl ⟨rfl, rfl⟩
  · subst e
    refine v_p hT rfl rfl ?_
    refine g_sw hT rfl (Or.inl rfl) (pc' := 86) rfl ?_
    refine v_p hT rfl rfl ?_
    refine v_geti hT rfl (by first | rfl | assumption) (by omega) ?_
    rw [a2.1]
    refine v_ret hT rfl (fun z => by cases z) rfl ⟨rfl, rfl⟩
theorem M_told {S : ST} (hV : VS S) (w : Int32) : MSp n_X7_told [.int w] S (oTold S w) := by
  have hT : mT n_X7_told = tb_X7_told := rfl
  intro n kf f hR
  unfold oTold
  by_cases hc : nI 0 ≤ w ∧ w ≤ nI 9
  · obtain ⟨k, k1, k2⟩ := int_04 (by omega) hc
    rw [decide_eq_true hc]
    subst k2
    simp only [cond_true]
    rw [nI_tn (by omega)]
    refine ⟨f, ?_, hR, fun _ _ => rfl⟩
    refine v_p hT rfl rfl ?_
    refine v_scall hT [.int (nI k), .int (nI 0), .int (nI 9)] rfl rfl rfl rfl (Nat.le_of_ble_eq_true rfl) (Nat.le_of_ble_eq_true rfl) (m_in (nI k) (nI 0) (nI 9)) ?_
    rw [decide_eq_true hc]
    refine g_if hT rfl (fun cq => ?_) (fun cq => ?_)
    · cases bf_of cq
    · refine v_p hT rfl rfl ?_
      refine v_call hT [.int (nI k)] rfl rfl (by first | rfl | assumption) (by omega) rfl rfl (Nat.le_of_ble_eq_true rfl) (Nat.le_of_ble_eq_true rfl) (m_toldOf k1 hR) ?_
      refine v_p hT rfl rfl ?_
      refine v_ret hT rfl (fun z => by cases z) rfl ⟨rfl, rfl⟩
  · rw [decide_eq_false hc]
    obtain ⟨fb, q1, q2, q3⟩ := m_bad2 (n := n) (kf := kf) hR
    refine ⟨fb, ?_, q2, q3⟩
    refine v_p hT rfl rfl ?_
    refine v_scall hT [.int w, .int (nI 0), .int (nI 9)] rfl rfl rfl rfl (Nat.le_of_ble_eq_true rfl) (Nat.le_of_ble_eq_true rfl) (m_in w (nI 0) (nI 9)) ?_
    rw [decide_eq_false hc]
    refine g_if hT rfl (fun cq => ?_) (fun cq => ?_)
    · refine v_p hT rfl rfl ?_
      refine v_call hT [] rfl rfl (by first | rfl | assumption) (by omega) rfl rfl (Nat.le_of_ble_eq_true rfl) (Nat.le_of_ble_eq_true rfl) (q1) ?_
      refine v_ret hT rfl (fun z => by cases z) rfl ⟨rfl, rfl⟩
    · exact absurd rfl cq
theorem M_word {S : ST} (hV : VS S) (s p k w : Int32) : MSp n_X7_word [.int s, .int p, .int k, .int w] S (oWord S s p k w) := by
  have hT : mT n_X7_word = tb_X7_word := rfl
  intro n kf f hR
  obtain ⟨fb, q1, q2, q3⟩ := m_bad2 (n := n) (kf := kf) hR
  have hbad : Run n_X7_word 110 35 [some (.ref 98), some (.int s), some (.int p), some (.int k), some (.int w)] [] (HH n kf f) (Ret (some (.int (mI 2))) (HH n kf fb)) := by
    refine v_p hT rfl rfl ?_
    refine v_call hT [] rfl rfl (by first | rfl | assumption) (by omega) rfl rfl (Nat.le_of_ble_eq_true rfl) (Nat.le_of_ble_eq_true rfl) (q1) ?_
    refine v_ret hT rfl (fun z => by cases z) rfl ⟨rfl, rfl⟩
  unfold oWord
  cases c0 : isPa S.1 s p with
  | false =>
    have c1 : isWd S.1 s p k = false := by
      refine pB_f ?_
      intro ⟨s2, p2, k2, h1, h2, h3, h4, h5, h6⟩
      rw [h4, h5, isPa_t h1 h2] at c0
      cases c0
    rw [c1, Bool.false_and]
    refine ⟨fb, ?_, q2, q3⟩
    refine v_p hT rfl rfl ?_
    refine v_call hT [.int s, .int p] rfl rfl (by first | rfl | assumption) (by omega) rfl rfl (Nat.le_of_ble_eq_true rfl) (Nat.le_of_ble_eq_true rfl) (m_isPara hR.1 hV.1.1 s p) ?_
    rw [c0]
    refine g_if hT rfl (fun cq => ?_) (fun cq => ?_)
    · exact hbad
    · exact absurd rfl cq
  | true =>
    obtain ⟨s2, p2, h1, h2, h3, h4⟩ := isPa_of c0
    have hn := hV.1.1.1 s2 h1
    obtain ⟨w1, w2, w3⟩ := hV.1.1.2.1 s2 p2 h1 h2
    obtain ⟨b1, b2⟩ := hR.1.2.2.2.2.1 s2 p2 h1 h2
    have hwd := hV.1.1.2.2.1 s2 h1
    subst h3; subst h4
    have start : ∀ Φ, Run n_X7_word 110 16 [some (.ref 98), some (.int (nI s2)), some (.int (nI p2)), some (.int k), some (.int w)] [.int (bI (decide (nI 0 ≤ w ∧ w ≤ nI 1)))] (HH n kf f) Φ → Run n_X7_word 110 0 (ini n_X7_word [.ref 98, .int (nI s2), .int (nI p2), .int k, .int w]) [] (HH n kf f) Φ := by
      intro Φ hΦ
      refine v_p hT rfl rfl ?_
      refine v_call hT [.int (nI s2), .int (nI p2)] rfl rfl (by first | rfl | assumption) (by omega) rfl rfl (Nat.le_of_ble_eq_true rfl) (Nat.le_of_ble_eq_true rfl) (m_isPara hR.1 hV.1.1 (nI s2) (nI p2)) ?_
      rw [c0]
      refine g_if hT rfl (fun cq => ?_) (fun cq => ?_)
      · cases bf_of cq
      · refine v_p hT rfl rfl ?_
        refine v_scall hT [.int w, .int (nI 0), .int (nI 1)] rfl rfl rfl rfl (Nat.le_of_ble_eq_true rfl) (Nat.le_of_ble_eq_true rfl) (m_in w (nI 0) (nI 1)) ?_
        exact hΦ
    by_cases c2 : nI 0 ≤ w ∧ w ≤ nI 1
    · rw [decide_eq_true c2] at start ⊢
      obtain ⟨W, W1, W2⟩ := int_04 (by omega) c2
      have st2 : ∀ Φ, Run n_X7_word 110 32 [some (.ref 98), some (.int (nI s2)), some (.int (nI p2)), some (.int k), some (.int w)] [.int (bI (decide (nI 0 ≤ k ∧ k ≤ nI (bNw S.1 s2 p2 - 1))))] (HH n kf f) Φ → Run n_X7_word 110 0 (ini n_X7_word [.ref 98, .int (nI s2), .int (nI p2), .int k, .int w]) [] (HH n kf f) Φ := by
        intro Φ hΦ
        refine start _ ?_
        refine g_if hT rfl (fun cq => ?_) (fun cq => ?_)
        · cases bf_of cq
        · refine v_p hT rfl rfl ?_
          refine v_call hT [.int (nI s2), .int (nI p2)] rfl rfl (by first | rfl | assumption) (by omega) rfl rfl (Nat.le_of_ble_eq_true rfl) (Nat.le_of_ble_eq_true rfl) (m_wordsOf (by omega)) ?_
          rw [b1]
          refine v_p hT rfl rfl ?_
          rw [pk_sub w1]
          refine v_scall hT [.int k, .int (nI 0), .int (nI (bNw S.1 s2 p2 - 1))] rfl rfl rfl rfl (Nat.le_of_ble_eq_true rfl) (Nat.le_of_ble_eq_true rfl) (m_in k (nI 0) (nI (bNw S.1 s2 p2 - 1))) ?_
          exact hΦ
      by_cases c3 : nI 0 ≤ k ∧ k ≤ nI (bNw S.1 s2 p2 - 1)
      · obtain ⟨K, K1, K2⟩ := int_04 (by omega) c3
        rw [decide_eq_true c3] at st2
        subst K2; subst W2
        rw [show isWd S.1 (nI s2) (nI p2) (nI K) = true from pB_t ⟨s2, p2, K, h1, h2, by omega, rfl, rfl, rfl⟩]
        simp only [Bool.true_and, cond_true]
        rw [nI_tn (by omega), nI_tn (by omega), nI_tn (by omega), nI_tn (by omega)]
        refine ⟨f, st2 _ ?_, hR, fun _ _ => rfl⟩
        unfold wdA
        refine g_if hT rfl (fun cq => ?_) (fun cq => ?_)
        · refine v_p hT rfl rfl ?_
          refine g_if hT rfl (fun cq2 => ?_) (fun cq2 => ?_)
          · have cq2 := (cj_ne (a := W) (b := 0) (by omega) (by omega)).mp cq2
            rw [if_neg cq2]
            refine v_p hT rfl rfl ?_
            refine v_call hT [.int (nI s2), .int (nI p2), .int (nI K)] rfl rfl (by first | rfl | assumption) (by omega) rfl rfl (Nat.le_of_ble_eq_true rfl) (Nat.le_of_ble_eq_true rfl) (m_lineOf (w := bWd S.1 s2) (ln := bLn S.1 s2 p2) h1 (by omega) (by omega) (hR.1.1 s2 h1) (by omega) (fun i hi => b2 i (by omega)) (fun i hi => by have := (w3 i (by omega)).2; omega)) ?_
            refine v_ret hT rfl (fun z => by cases z) rfl ⟨rfl, rfl⟩
          · have cq2 := Classical.not_not.mp ((not_congr (cj_ne (a := W) (b := 0) (by omega) (by omega))).mp cq2)
            rw [if_pos cq2]
            refine v_p hT rfl rfl ?_
            refine v_call hT [.int (nI s2), .int (nI p2), .int (nI K)] rfl rfl (by first | rfl | assumption) (by omega) rfl rfl (Nat.le_of_ble_eq_true rfl) (Nat.le_of_ble_eq_true rfl) (m_lengthOf (by omega) (by omega)) ?_
            rw [b2 K (by omega)]
            refine v_p hT rfl rfl ?_
            refine v_ret hT rfl (fun z => by cases z) rfl ⟨rfl, rfl⟩
        · exact absurd (show ¬ (1 : Int32) = 0 by decide) cq
      · rw [decide_eq_false c3] at st2
        have c1 : isWd S.1 (nI s2) (nI p2) k = false := by
          refine pB_f ?_
          intro ⟨s3, p3, k3, g1, g2, g3, g4, g5, g6⟩
          have e1 := (cj_eq (a := s2) (b := s3) (by omega) (by omega)).mp g4
          subst e1
          have e2 := (cj_eq (a := p2) (b := p3) (by omega) (by have := hV.1.1.1 s2 h1; omega)).mp g5
          subst e2
          rw [g6] at c3
          exact c3 ⟨(cj_le (a := 0) (b := k3) (by omega) (by omega)).mpr (by omega), (cj_le (a := k3) (b := bNw S.1 s2 p2 - 1) (by omega) (by omega)).mpr (by omega)⟩
        rw [c1, Bool.false_and]
        refine ⟨fb, st2 _ ?_, q2, q3⟩
        refine g_if hT rfl (fun cq => ?_) (fun cq => ?_)
        · exact absurd rfl cq
        · exact hbad
    · rw [decide_eq_false c2] at start ⊢
      rw [Bool.and_false]
      refine ⟨fb, start _ ?_, q2, q3⟩
      refine g_if hT rfl (fun cq => ?_) (fun cq => ?_)
      · exact hbad
      · exact absurd rfl cq
