/-! THE REFERENCE: does. -/
theorem doS_end {Q : QS} : ∀ d o B o2 B2, doS Q d o B = (o2, some B2) → o2 = o + d := by
  intro d
  induction d with
  | zero => intro o B o2 B2 z; cases z; rfl
  | succ d ih =>
    intro o B o2 B2 z
    have z : (bif decide ((qOrd Q o B).1 < 0) then (o, none) else doS Q d (o + 1) (qOrd Q o B).2) = (o2, some B2) := z
    by_cases hc : (qOrd Q o B).1 < 0
    · rw [decide_eq_true hc] at z; cases z
    · rw [decide_eq_false hc] at z
      have := ih (o + 1) _ o2 B2 z
      omega
theorem RepM_frR {f F : Nat → Nat → Int32} {S : ST} (h : RepM f S) (hf : frR f F) : RepM F S := by
  obtain ⟨a1, a2, a3, a4, kn, a5, a6⟩ := h
  exact ⟨by rw [hf.2 100 (by omega) (by omega)]; exact a1, stM_fr a2 (hf.1 3 (by omega)) (hf.2 101 (by omega) (by omega)), txM_frR a3 hf, fun i hi => by rw [hf.2 99 (by omega) (by omega)]; exact a4 i hi, kn, by rw [hf.1 4 (by omega)]; exact a5, fun z => knR_fr (a6 z) (fun i hi => hf.1 i (by omega)) (fun c hc => hf.2 c (by omega) (by omega))⟩
/-- the whole of reading, nothing done -/
theorem m_readsF {n : Nat} {kf : Nat → Nat} {f : Nat → Nat → Int32} {t : TX} (hV : VT t) (ht : txM f t) :
    ∃ F, Run n_X7_reads 110 0 (ini n_X7_reads [.ref 98, .int (nI 0)]) [] (HH n kf f) (Ret none (HH n kf F)) ∧ frR f F ∧ ((∃ p, readF t = (p, none) ∧ F 98 18 = bI true ∧ F 98 17 = nI p) ∨ (∃ X, readF t = (t.1, some X) ∧ F 98 18 = bI false)) := by
  obtain ⟨F0, hf0, h0⟩ := rd0 (n := n) (kf := kf) (dg := nI 0) hV ht
  rcases h0 with ⟨a1, a2, a3, a4⟩ | ⟨j, Q, a1, a2, -, a4⟩
  · exact ⟨F0, a4, hf0, Or.inl ⟨t.1, a1, a3, a2⟩⟩
  · obtain ⟨F, g1, g2, g3⟩ := rdF (n := n) (kf := kf) hV (t.1 - j) j (Nat.le_refl _) F0 Q a2
    rw [← a1] at g3
    exact ⟨F, a4 _ g1, frR_trans hf0 g2, g3⟩
theorem m_readsT {n : Nat} {kf : Nat → Nat} {f : Nat → Nat → Int32} {t : TX} {X : QS} {B : BK} (hV : VT t) (ht : txM f t) (hX : readF t = (t.1, some X)) (hR : nowR (f 100) B) (hB : VB B) :
    ∃ F o ob, doS X (qNo X) 0 B = (o, ob) ∧ Run n_X7_reads 110 0 (ini n_X7_reads [.ref 98, .int (nI 1)]) [] (HH n kf f) (Ret none (HH n kf F)) ∧ frD f F ∧ F 98 20 = nI o ∧ F 98 21 = bI ob.isNone ∧ ∀ B2, ob = some B2 → nowR (F 100) B2 ∧ F 98 4 = nI 0 := by
  obtain ⟨F0, hf0, h0⟩ := rd0 (n := n) (kf := kf) (dg := nI 1) hV ht
  rcases h0 with ⟨a1, a2, a3, a4⟩ | ⟨j, Q, a1, a2, a3, a4⟩
  · rw [hX] at a1
    cases a1
  · obtain ⟨F, o, ob, g0, g1, g2, g3, g4, g5⟩ := rdT (n := n) (kf := kf) (X := X) hV (readF_ok hV (by rw [hX])).2 (t.1 - j) j (Nat.le_refl _) F0 Q B a2 (by rw [← a1]; exact hX) (by rw [hf0.2 100 (by omega) (by omega)]; exact hR) hB (fun z => absurd z (by omega))
    rw [a3] at g0
    exact ⟨F, o, ob, g0, a4 _ g1, frD_trans (frD_R hf0) g2, g3, g4, g5⟩
theorem M_does {S : ST} (hV : VS S) : MSp n_X7_does [] S (oDoes S) := by
  have hT : mT n_X7_does = tb_X7_does := rfl
  intro n kf f hR
  obtain ⟨F1, r1, hf1, h1⟩ := m_readsF (n := n) (kf := kf) hV.2.2 hR.2.2.1
  have hR1 := RepM_frR hR hf1
  unfold oDoes
  rcases h1 with ⟨p, e1, e2, e3⟩ | ⟨X, e1, e2⟩
  · rw [e1]
    refine ⟨F1, ?_, hR1, fun c hc => hf1.2 c (by omega) (by omega)⟩
    refine v_p hT rfl rfl ?_
    refine v_call hT [.int (nI 0)] rfl rfl (by first | rfl | assumption) (by omega) rfl rfl (Nat.le_of_ble_eq_true rfl) (Nat.le_of_ble_eq_true rfl) (r1) ?_
    refine v_p hT rfl rfl ?_
    refine v_geti hT rfl (by first | rfl | assumption) (by omega) ?_
    rw [e2]
    refine g_if hT rfl (fun cq => ?_) (fun cq => ?_)
    · cases bf_of cq
    · refine v_p hT rfl rfl ?_
      refine v_geti hT rfl (by first | rfl | assumption) (by omega) ?_
      rw [e3]
      refine v_p hT rfl rfl ?_
      refine v_ret hT rfl (fun z => by cases z) rfl ⟨rfl, rfl⟩
  · have hQ := readF_ok hV.2.2 (Q := X) (by rw [e1])
    have h120 := hV.2.2.1
    have hno : qNo X < 1000 := by have := hQ.1.1; omega
    rw [e1]
    obtain ⟨F2, r2, hR2, h6, hf2⟩ := m_aside (n := n) (kf := kf) hV hR1
    obtain ⟨F3, o, ob, g0, g1, g2, g3, g4, g5⟩ := m_readsT (n := n) (kf := kf) hV.2.2 hR2.2.2.1 e1 hR2.1 hV.1
    have start : ∀ Φ, Run n_X7_does 110 35 [some (.ref 98)] [.int (bI ob.isNone)] (HH n kf F3) Φ → Run n_X7_does 110 0 (ini n_X7_does [.ref 98]) [] (HH n kf f) Φ := by
      intro Φ hΦ
      refine v_p hT rfl rfl ?_
      refine v_call hT [.int (nI 0)] rfl rfl (by first | rfl | assumption) (by omega) rfl rfl (Nat.le_of_ble_eq_true rfl) (Nat.le_of_ble_eq_true rfl) (r1) ?_
      refine v_p hT rfl rfl ?_
      refine v_geti hT rfl (by first | rfl | assumption) (by omega) ?_
      rw [e2]
      refine g_if hT rfl (fun cq => ?_) (fun cq => ?_)
      · refine v_p hT rfl rfl ?_
        refine v_call hT [.int (nI 6)] rfl rfl (by first | rfl | assumption) (by omega) rfl rfl (Nat.le_of_ble_eq_true rfl) (Nat.le_of_ble_eq_true rfl) (r2) ?_
        refine v_p hT rfl rfl ?_
        refine v_call hT [.int (nI 1)] rfl rfl (by first | rfl | assumption) (by omega) rfl rfl (Nat.le_of_ble_eq_true rfl) (Nat.le_of_ble_eq_true rfl) (g1) ?_
        refine v_p hT rfl rfl ?_
        refine v_geti hT rfl (by first | rfl | assumption) (by omega) ?_
        rw [g4]
        exact hΦ
      · exact absurd rfl cq
    show ∃ f2, Run _ _ _ _ _ _ (Ret (some (.int (match doS X (qNo X) 0 S.1 with | (o, none) => (mI 1000 - nI o, S) | (_, some B) => chg S (nI (qNo X), B) : Int32 × ST).1)) _) ∧ RepM f2 (match doS X (qNo X) 0 S.1 with | (o, none) => (mI 1000 - nI o, S) | (_, some B) => chg S (nI (qNo X), B) : Int32 × ST).2 ∧ _
    rw [g0]
    cases ob with
    | none =>
      obtain ⟨F4, k1, k2, k3, k4⟩ := m_takes (n := n) (kf := kf) (f := F3) (pl := 6) (by omega)
      have c101 : F3 101 = F2 101 := g2.2 101 (by omega) (by omega) (by omega)
      refine ⟨F4, start _ ?_, RepM_mk hR2 (nowR_cg hV.1.1 h6 (fun c hc2 => by rw [k2 c hc2, c101])) (stM_fr hR2.2.1 (by rw [k3, upd_ne (by omega), g2.1 3 (by omega) (by omega)]) (by rw [k4 101 (by omega) (by omega), c101])) (by rw [k3, upd_eq]) (by rw [k3, upd_ne (by omega), g2.1 16 (by omega) (by omega)]) (by rw [k4 99 (by omega) (by omega), g2.2 99 (by omega) (by omega) (by omega)]) (by rw [k4 109 (by omega) (by omega), g2.2 109 (by omega) (by omega) (by omega)]), fun c hc => by rw [k4 c (by omega) (by omega), g2.2 c (by omega) (by omega) (by omega), hf2 c (by omega), hf1.2 c (by omega) (by omega)]⟩
      refine g_if hT rfl (fun cq => ?_) (fun cq => ?_)
      · cases bf_of cq
      · refine v_p hT rfl rfl ?_
        refine v_call hT [.int (nI 6)] rfl rfl (by first | rfl | assumption) (by omega) rfl rfl (Nat.le_of_ble_eq_true rfl) (Nat.le_of_ble_eq_true rfl) (k1) ?_
        refine v_p hT rfl rfl ?_
        refine v_geti hT rfl (by first | rfl | assumption) (by omega) ?_
        rw [show F4 98 20 = nI o by rw [k3, upd_ne (by omega)]; exact g3]
        refine v_p hT rfl rfl ?_
        refine v_ret hT rfl (fun z => by cases z) rfl ⟨rfl, rfl⟩
    | some B2 =>
      obtain ⟨q1, q2⟩ := g5 B2 rfl
      have ho := doS_end _ _ _ _ _ g0
      have c101 : F3 101 = F2 101 := g2.2 101 (by omega) (by omega) (by omega)
      obtain ⟨F4, k1, k2, k3, k4⟩ := m_leavesState (n := n) (kf := kf) (f := F3) (H := S.2.1) (B := S.1) (stM_fr hR2.2.1 (g2.1 3 (by omega) (by omega)) c101) hV.2.1 (by rw [c101]; exact h6) hV.1
      show ∃ f2, Run _ _ _ _ _ _ (Ret (some (.int (chg S (nI (qNo X), B2)).1)) _) ∧ RepM f2 (chg S (nI (qNo X), B2)).2 ∧ _
      rw [chg_ok hno]
      refine ⟨F4, start _ ?_, RepM_mk hR2 (by rw [k4 100 (by omega) (by omega)]; exact q1) k2 (by rw [k3 4 (by omega)]; exact q2) (by rw [k3 16 (by omega), g2.1 16 (by omega) (by omega)]) (by rw [k4 99 (by omega) (by omega), g2.2 99 (by omega) (by omega) (by omega)]) (by rw [k4 109 (by omega) (by omega), g2.2 109 (by omega) (by omega) (by omega)]), fun c hc => by rw [k4 c (by omega) (by omega), g2.2 c (by omega) (by omega) (by omega), hf2 c (by omega), hf1.2 c (by omega) (by omega)]⟩
      refine g_if hT rfl (fun cq => ?_) (fun cq => ?_)
      · refine v_p hT rfl rfl ?_
        refine v_call hT [] rfl rfl (by first | rfl | assumption) (by omega) rfl rfl (Nat.le_of_ble_eq_true rfl) (Nat.le_of_ble_eq_true rfl) (k1) ?_
        refine v_p hT rfl rfl ?_
        refine v_geti hT rfl (by first | rfl | assumption) (by omega) ?_
        rw [show F4 98 20 = nI (qNo X) by rw [k3 20 (by omega), g3, ho, Nat.zero_add]]
        refine v_ret hT rfl (fun z => by cases z) rfl ⟨rfl, rfl⟩
      · exact absurd rfl cq
