/-! THE REFERENCE: reading and doing all. -/
def frR (f F : Nat → Nat → Int32) : Prop := (∀ i, i < 17 ∨ 21 < i → F 98 i = f 98 i) ∧ ∀ c, c ≠ 98 → c ≠ 102 → F c = f c
theorem frR_trans {f F G : Nat → Nat → Int32} (h1 : frR f F) (h2 : frR F G) : frR f G := ⟨fun i h => by rw [h2.1 i h, h1.1 i h], fun c hc hd => by rw [h2.2 c hc hd, h1.2 c hc hd]⟩
theorem frR_N {f F : Nat → Nat → Int32} (h : frN f F) : frR f F := ⟨fun i hi => h.1 i (by omega) (by omega) (by omega), h.2⟩
theorem frR_set {f : Nat → Nat → Int32} {k : Nat} {x : Int32} (hk : 17 ≤ k ∧ k ≤ 21) : frR f (hset f 98 k x) := ⟨fun i h => by rw [hs_s, pk_un (by omega)], fun c hc _ => hset_ne hc⟩
theorem txM_frR {f F : Nat → Nat → Int32} {t : TX} (h : txM f t) (hf : frR f F) : txM F t := ⟨by rw [hf.1 16 (by omega)]; exact h.1, fun k hk => by rw [hf.2 109 (by omega) (by omega)]; exact h.2 k hk⟩
def frD (f F : Nat → Nat → Int32) : Prop := (∀ i, ¬ i = 4 → i < 17 ∨ 21 < i → F 98 i = f 98 i) ∧ ∀ c, c ≠ 98 → c ≠ 100 → c ≠ 102 → F c = f c
theorem frD_trans {f F G : Nat → Nat → Int32} (h1 : frD f F) (h2 : frD F G) : frD f G := ⟨fun i h0 h => by rw [h2.1 i h0 h, h1.1 i h0 h], fun c hc hd he => by rw [h2.2 c hc hd he, h1.2 c hc hd he]⟩
theorem frD_R {f F : Nat → Nat → Int32} (h : frR f F) : frD f F := ⟨fun i _ hi => h.1 i hi, fun c hc _ hd => h.2 c hc hd⟩
theorem txM_frD {f F : Nat → Nat → Int32} {t : TX} (h : txM f t) (hf : frD f F) : txM F t := ⟨by rw [hf.1 16 (by omega) (by omega)]; exact h.1, fun k hk => by rw [hf.2 109 (by omega) (by omega) (by omega)]; exact h.2 k hk⟩
/-- between two orders -/
def btw (f : Nat → Nat → Int32) (t : TX) (j : Nat) (Q : QS) : Prop := txM f t ∧ f 98 17 = nI j ∧ f 98 18 = bI false ∧ f 98 21 = bI false ∧ f 98 20 = nI (qNo Q) ∧ j ≤ t.1 ∧ nbT t j ∧ qKd Q = 0 ∧ qI Q j ∧ qW Q ∧ (j = t.1 → ¬ qNo Q = 0)
theorem rd_exit {n j : Nat} {dg : Int32} {kf : Nat → Nat} {f : Nat → Nat → Int32} {t : TX} {Q : QS} (hV : VT t) (h : btw f t j Q) (hj : j = t.1) : Run n_X7_reads 110 40 [some (.ref 98), some (.int dg), none, none, none] [.ref 98] (HH n kf f) (Ret none (HH n kf f)) := by
  have hT : mT n_X7_reads = tb_X7_reads := rfl
  obtain ⟨h1, h2, h3, h4, h5, h6⟩ := h
  have h120 := hV.1
  refine v_geti hT rfl (by first | rfl | assumption) (by omega) ?_
  rw [h3]
  refine g_if hT rfl (fun cq => ?_) (fun cq => ?_)
  · exact absurd rfl cq
  · refine v_p hT rfl rfl ?_
    refine v_geti hT rfl (by first | rfl | assumption) (by omega) ?_
    rw [h4]
    refine g_if hT rfl (fun cq2 => ?_) (fun cq2 => ?_)
    · exact absurd rfl cq2
    · refine v_p hT rfl rfl ?_
      refine v_geti hT rfl (by first | rfl | assumption) (by omega) ?_
      rw [h2]
      refine v_p hT rfl rfl ?_
      refine v_geti hT rfl (by first | rfl | assumption) (by omega) ?_
      rw [h1.1]
      refine g_cmp hT rfl (fun cq3 => ?_) (fun cq3 => ?_)
      · refine v_vret hT rfl rfl ⟨rfl, rfl⟩
      · exact absurd ((cj_ge (by omega) (by omega)).mpr (by omega)) cq3
theorem rdF {n : Nat} {kf : Nat → Nat} {t : TX} (hV : VT t) : ∀ d j, t.1 - j ≤ d → ∀ (f : Nat → Nat → Int32) (Q : QS), btw f t j Q →
    ∃ F, Run n_X7_reads 110 40 [some (.ref 98), some (.int (nI 0)), none, none, none] [.ref 98] (HH n kf f) (Ret none (HH n kf F)) ∧ frR f F ∧ ((∃ p, sc t j Q = (p, none) ∧ F 98 18 = bI true ∧ F 98 17 = nI p) ∨ (∃ X, sc t j Q = (t.1, some X) ∧ F 98 18 = bI false)) := by
  have hT : mT n_X7_reads = tb_X7_reads := rfl
  intro d
  induction d with
  | zero =>
    intro j hd f Q hb
    have hj : j = t.1 := by have := hb.2.2.2.2.2.1; omega
    refine ⟨f, rd_exit hV hb hj, ⟨fun _ _ => rfl, fun _ _ _ => rfl⟩, Or.inr ⟨Q, ?_, hb.2.2.1⟩⟩
    obtain ⟨-, -, -, -, -, -, -, h8, -, -, hb⟩ := hb
    rw [hj, sc_end, if_neg (fun z => z.elim (fun y => y h8) (hb hj))]
  | succ d ih =>
    intro j hd f Q hb
    by_cases hj : j = t.1
    · refine ⟨f, rd_exit hV hb hj, ⟨fun _ _ => rfl, fun _ _ _ => rfl⟩, Or.inr ⟨Q, ?_, hb.2.2.1⟩⟩
      obtain ⟨-, -, -, -, -, -, -, h8, -, -, hb⟩ := hb
      rw [hj, sc_end, if_neg (fun z => z.elim (fun y => y h8) (hb hj))]
    · obtain ⟨b1, b2, b3, b4, b5, b6, b7, b8, b9, ba, -⟩ := hb
      obtain ⟨F, hf, ho⟩ := m_order (n := n) (kf := kf) (dg := nI 0) hV b1 b2 b3 b4 (by omega) b7 b8 ba
      rcases ho with ⟨p, X, x1, x2, x3, x4, x5⟩ | ⟨p, Q2, ⟨x1, x2, x3, x4, ⟨x5, x6, x7⟩, ⟨x8, x9⟩, -, -⟩, xb⟩
      · exact ⟨F, x5, frR_N hf, Or.inl ⟨p, by rw [rch_sc x1, flt_sc x2], x4, x3⟩⟩
      · obtain ⟨y1, y2, -⟩ := rch_ok hV x1 b9 ba
        have hfa : frR F (hset (hset F 98 21 (nI 0)) 98 20 (nI (qNo Q2))) := frR_trans (frR_set (by omega)) (frR_set (by omega))
        have hf2 := frR_trans (frR_N hf) hfa
        have e20 : hset F 98 21 (nI 0) 98 20 = nI (qNo Q) := by rw [hs_s, pk_un (by omega), hf.1 20 (by omega) (by omega) (by omega)]; exact b5
        have e21 : hset F 98 21 (nI 0) 98 21 = nI 0 := by rw [hs_s, pk_us]
        obtain ⟨G, g1, g2, g3⟩ := ih p (by omega) (hset (hset F 98 21 (nI 0)) 98 20 (nI (qNo Q2))) Q2 ⟨txM_frR b1 hf2, by rw [hs_s, pk_un (by omega), hs_s, pk_un (by omega)]; exact x8, by rw [hs_s, pk_un (by omega), hs_s, pk_un (by omega)]; exact x9, by rw [hs_s, pk_un (by omega)]; exact e21, by rw [hs_s, pk_us], x3, x4, x5, y1, y2, fun _ => by omega⟩
        refine ⟨G, xb _ ?_, frR_trans hf2 g2, by rw [rch_sc x1]; exact g3⟩
        refine g_if hT rfl (fun cq => ?_) (fun cq => ?_)
        · refine v_p hT rfl rfl ?_
          refine v_puti hT rfl rfl (by omega) (fun _ => Or.inl rfl) ?_
          refine v_p hT rfl rfl ?_
          refine v_geti hT rfl (by first | rfl | assumption) (by omega) ?_
          rw [e20]
          refine v_p hT rfl rfl ?_
          refine v_geti hT rfl (by first | rfl | assumption) (by omega) ?_
          rw [e21]
          refine g_if hT rfl (fun cq2 => ?_) (fun cq2 => ?_)
          · refine v_p hT rfl rfl ?_
            rw [nI_add, ← x6]
            refine v_puti hT rfl rfl (by omega) (fun z => by cases z) ?_
            refine v_p hT rfl rfl ?_
            exact v_cv g1 ⟨rfl, rfl, trivial⟩ rfl rfl
          · exact absurd rfl cq2
        · exact absurd rfl cq
theorem ordD {f F : Nat → Nat → Int32} {r : Int32 × BK} (h : ordR f F r) : frD f F := ⟨fun i hi _ => h.2.1 i hi, fun c h1 h2 _ => h.2.2 c h1 h2⟩
theorem rdT {n : Nat} {kf : Nat → Nat} {t : TX} {X : QS} (hV : VT t) (hX : qW X) : ∀ d j, t.1 - j ≤ d → ∀ (f : Nat → Nat → Int32) (Q : QS) (B : BK), btw f t j Q → sc t j Q = (t.1, some X) → nowR (f 100) B → VB B → (0 < qNo Q → f 98 4 = nI 0) →
    ∃ F o ob, doS X (qNo X - qNo Q) (qNo Q) B = (o, ob) ∧ Run n_X7_reads 110 40 [some (.ref 98), some (.int (nI 1)), none, none, none] [.ref 98] (HH n kf f) (Ret none (HH n kf F)) ∧ frD f F ∧ F 98 20 = nI o ∧ F 98 21 = bI ob.isNone ∧ ∀ B2, ob = some B2 → nowR (F 100) B2 ∧ F 98 4 = nI 0 := by
  have hT : mT n_X7_reads = tb_X7_reads := rfl
  have fin : ∀ j (f : Nat → Nat → Int32) (Q : QS) (B : BK), j = t.1 → btw f t j Q → sc t j Q = (t.1, some X) → nowR (f 100) B → (0 < qNo Q → f 98 4 = nI 0) → ∃ F o ob, doS X (qNo X - qNo Q) (qNo Q) B = (o, ob) ∧ Run n_X7_reads 110 40 [some (.ref 98), some (.int (nI 1)), none, none, none] [.ref 98] (HH n kf f) (Ret none (HH n kf F)) ∧ frD f F ∧ F 98 20 = nI o ∧ F 98 21 = bI ob.isNone ∧ ∀ B2, ob = some B2 → nowR (F 100) B2 ∧ F 98 4 = nI 0 := by
    intro j f Q B hj hb hs hR h4
    have hr := rd_exit (n := n) (kf := kf) (dg := nI 1) hV hb hj
    obtain ⟨b1, b2, b3, b4, b5, b6, b7, b8, b9, ba, bb⟩ := hb
    have hq := bb hj
    rw [hj, sc_end, if_neg (fun z => z.elim (fun y => y b8) hq)] at hs
    have hQX : Q = X := by cases hs; rfl
    refine ⟨f, qNo Q, some B, by rw [← hQX, Nat.sub_self]; rfl, hr, ⟨fun _ _ _ => rfl, fun _ _ _ _ => rfl⟩, b5, b4, fun B2 e => ?_⟩
    cases e
    exact ⟨hR, h4 (by omega)⟩
  intro d
  induction d with
  | zero =>
    intro j hd f Q B hb hs hR hB h4
    exact fin j f Q B (by have := hb.2.2.2.2.2.1; omega) hb hs hR h4
  | succ d ih =>
    intro j hd f Q B hb hs hR hB h4
    by_cases hj : j = t.1
    · exact fin j f Q B hj hb hs hR h4
    · obtain ⟨b1, b2, b3, b4, b5, b6, b7, b8, b9, ba, -⟩ := hb
      obtain ⟨F, hf, ho⟩ := m_order (n := n) (kf := kf) (dg := nI 1) hV b1 b2 b3 b4 (by omega) b7 b8 ba
      rcases ho with ⟨p, Y, x1, x2, x3, x4, x5⟩ | ⟨p, Q2, ⟨x1, x2, x3, x4, ⟨x5, x6, x7⟩, ⟨x8, x9⟩, xc, xd⟩, xb⟩
      · rw [rch_sc x1, flt_sc x2] at hs
        cases hs
      · obtain ⟨y1, y2, -⟩ := rch_ok hV x1 b9 ba
        rw [rch_sc x1] at hs
        obtain ⟨z1, z2, z3, z4, z5⟩ := sc_ext hV (t.1 - p) p Q2 (by omega) y1 t.1 X hs
        have ek : qKs X (qNo Q) = t.2 j := by rw [z2 (qNo Q) (by omega)]; exact x7
        have e0 : qFr X (qNo Q) = qFr Q2 (qNo Q) := z3 _ (by omega)
        have e1 : qFr X (qNo Q + 1) = qFr Q2 (qNo Q + 1) := z3 _ (by omega)
        have hG := hX.1 (qNo Q) (by omega)
        have hRF : nowR (F 100) B := by rw [hf.2 100 (by omega) (by omega)]; exact hR
        obtain ⟨F2, r1, r2⟩ := m_doesOrder (n := n) (kf := kf) (c := t.2 j) (k := qFr X (qNo Q + 1) - qFr X (qNo Q)) (ns := fun i => qNm X (qFr X (qNo Q) + i)) hRF hB (by rw [← ek]; exact hG.1) (by rw [e0, e1]; exact xc) (fun i hi => by
          rw [e0, e1] at hi
          rw [xd i hi]
          show _ = nI (qNm X (qFr X (qNo Q) + i))
          rw [e0, z4 _ (by rw [x6]; omega)])
        have hr : ordA B (t.2 j) (fun i => qNm X (qFr X (qNo Q) + i)) (qFr X (qNo Q + 1) - qFr X (qNo Q)) = qOrd X (qNo Q) B := by unfold qOrd; rw [ek]
        rw [hr] at r1 r2
        have hok := qOrd_ok hX (show qNo Q < qNo X by omega) hB
        have hf2 : frD f F2 := frD_trans (frD_R (frR_N hf)) (ordD r2)
        rw [show qNo X - qNo Q = (qNo X - qNo Q2) + 1 by omega]
        have hdo : doS X ((qNo X - qNo Q2) + 1) (qNo Q) B = bif decide ((qOrd X (qNo Q) B).1 < 0) then (qNo Q, none) else doS X (qNo X - qNo Q2) (qNo Q + 1) (qOrd X (qNo Q) B).2 := rfl
        rw [hdo]
        have e20 : ∀ x, hset F2 98 21 x 98 20 = nI (qNo Q) := fun x => by rw [hs_s, pk_un (by omega), r2.2.1 20 (by omega), hf.1 20 (by omega) (by omega) (by omega)]; exact b5
        have e21 : ∀ x, hset F2 98 21 x 98 21 = x := fun x => by rw [hs_s, pk_us]
        have w17 : F2 98 17 = nI p := by rw [r2.2.1 17 (by omega)]; exact x8
        have w18 : F2 98 18 = bI false := by rw [r2.2.1 18 (by omega)]; exact x9
        have st2 : ∀ Φ, Run n_X7_reads 110 277 [some (.ref 98), some (.int (nI 1)), some (.int (nI (t.2 j))), none, none] [.int (qOrd X (qNo Q) B).1, .ref 98] (HH n kf F2) Φ → Run n_X7_reads 110 40 [some (.ref 98), some (.int (nI 1)), none, none, none] [.ref 98] (HH n kf f) Φ := by
          intro Φ hΦ
          refine xb _ ?_
          refine g_if hT rfl (fun cq => ?_) (fun cq => ?_)
          · exact absurd cq (show ¬ nI 1 = 0 by decide)
          · refine v_p hT rfl rfl ?_
            refine v_call hT [.int (nI (t.2 j))] rfl rfl (by first | rfl | assumption) (by omega) rfl rfl (Nat.le_of_ble_eq_true rfl) (Nat.le_of_ble_eq_true rfl) (r1) ?_
            exact hΦ
        by_cases hc : (qOrd X (qNo Q) B).1 < 0
        · rw [decide_eq_true hc]
          have u18 : hset (hset F2 98 21 (nI 1)) 98 20 (nI (qNo Q)) 98 18 = bI false := by rw [hs_s, pk_un (by omega), hs_s, pk_un (by omega)]; exact w18
          have u21 : hset (hset F2 98 21 (nI 1)) 98 20 (nI (qNo Q)) 98 21 = nI 1 := by rw [hs_s, pk_un (by omega)]; exact e21 _
          refine ⟨hset (hset F2 98 21 (nI 1)) 98 20 (nI (qNo Q)), qNo Q, none, rfl, st2 _ ?_, frD_trans hf2 (frD_R (frR_trans (frR_set (by omega)) (frR_set (by omega)))), by rw [hs_s, pk_us], u21, fun B2 e => by cases e⟩
          refine g_if hT rfl (fun cq => ?_) (fun cq => ?_)
          · have cq : (0 : Int32) ≤ (qOrd X (qNo Q) B).1 := cq
            exact absurd hc (Int32.not_lt.mpr cq)
          · refine v_p hT rfl rfl ?_
            refine v_puti hT rfl rfl (by omega) (fun _ => Or.inr rfl) ?_
            refine v_p hT rfl rfl ?_
            refine v_geti hT rfl (by first | rfl | assumption) (by omega) ?_
            rw [e20]
            refine v_p hT rfl rfl ?_
            refine v_geti hT rfl (by first | rfl | assumption) (by omega) ?_
            rw [e21]
            refine g_if hT rfl (fun cq2 => ?_) (fun cq2 => ?_)
            · exact absurd cq2 (show ¬ nI 1 = 0 by decide)
            · refine v_p hT rfl rfl ?_
              rw [nI_add]
              refine v_puti hT rfl rfl (by omega) (fun z => by cases z) ?_
              rw [show qNo Q + 0 = qNo Q from rfl]
              refine v_p hT rfl rfl ?_
              refine v_geti hT rfl (by first | rfl | assumption) (by omega) ?_
              rw [u18]
              refine g_if hT rfl (fun cq3 => ?_) (fun cq3 => ?_)
              · exact absurd rfl cq3
              · refine v_p hT rfl rfl ?_
                refine v_geti hT rfl (by first | rfl | assumption) (by omega) ?_
                rw [u21]
                refine g_if hT rfl (fun cq4 => ?_) (fun cq4 => ?_)
                · refine v_vret hT rfl rfl ⟨rfl, rfl⟩
                · exact absurd (show ¬ nI 1 = 0 by decide) cq4
        · rw [decide_eq_false hc]
          obtain ⟨q1, q4⟩ := r2.1 hc
          have hfa : frD f (hset (hset F2 98 21 (nI 0)) 98 20 (nI (qNo Q2))) := frD_trans hf2 (frD_R (frR_trans (frR_set (by omega)) (frR_set (by omega))))
          obtain ⟨G, o, ob, g0, g1, g2, g3, g4, g5⟩ := ih p (by omega) (hset (hset F2 98 21 (nI 0)) 98 20 (nI (qNo Q2))) Q2 (qOrd X (qNo Q) B).2 ⟨txM_frD b1 hfa, by rw [hs_s, pk_un (by omega), hs_s, pk_un (by omega)]; exact w17, by rw [hs_s, pk_un (by omega), hs_s, pk_un (by omega)]; exact w18, by rw [hs_s, pk_un (by omega)]; exact e21 _, by rw [hs_s, pk_us], x3, x4, x5, y1, y2, fun _ => by omega⟩ hs (by rw [hset_ne (by omega), hset_ne (by omega)]; exact q1) hok.1 (fun _ => by rw [hs_s, pk_un (by omega), hs_s, pk_un (by omega)]; exact q4)
          refine ⟨G, o, ob, by rw [← x6]; exact g0, st2 _ ?_, frD_trans hfa g2, g3, g4, g5⟩
          refine g_if hT rfl (fun cq => ?_) (fun cq => ?_)
          · refine v_p hT rfl rfl ?_
            refine v_puti hT rfl rfl (by omega) (fun _ => Or.inl rfl) ?_
            refine v_p hT rfl rfl ?_
            refine v_geti hT rfl (by first | rfl | assumption) (by omega) ?_
            rw [e20]
            refine v_p hT rfl rfl ?_
            refine v_geti hT rfl (by first | rfl | assumption) (by omega) ?_
            rw [e21]
            refine g_if hT rfl (fun cq2 => ?_) (fun cq2 => ?_)
            · refine v_p hT rfl rfl ?_
              rw [nI_add, ← x6]
              refine v_puti hT rfl rfl (by omega) (fun z => by cases z) ?_
              refine v_p hT rfl rfl ?_
              exact v_cv g1 ⟨rfl, rfl, trivial⟩ rfl rfl
            · exact absurd rfl cq2
          · exact absurd (Int32.not_lt.mp hc) cq
/-- the beginning of reading -/
theorem rd0 {n : Nat} {dg : Int32} {kf : Nat → Nat} {f : Nat → Nat → Int32} {t : TX} (hV : VT t) (ht : txM f t) :
    ∃ F, frR f F ∧ ((readF t = (t.1, none) ∧ F 98 17 = nI t.1 ∧ F 98 18 = bI true ∧ Run n_X7_reads 110 0 (ini n_X7_reads [.ref 98, .int dg]) [] (HH n kf f) (Ret none (HH n kf F))) ∨
      (∃ j Q, readF t = sc t j Q ∧ btw F t j Q ∧ qNo Q = 0 ∧ ∀ Φ, Run n_X7_reads 110 40 [some (.ref 98), some (.int dg), none, none, none] [.ref 98] (HH n kf F) Φ → Run n_X7_reads 110 0 (ini n_X7_reads [.ref 98, .int dg]) [] (HH n kf f) Φ)) := by
  have hT : mT n_X7_reads = tb_X7_reads := rfl
  have h120 := hV.1
  let f0 := hset (hset (hset f 98 17 (nI 0)) 98 20 (nI 0)) 98 21 (nI 0)
  have hf0 : frR f f0 := frR_trans (frR_trans (frR_set (by omega)) (frR_set (by omega))) (frR_set (by omega))
  have e0 : f0 98 17 = nI 0 := by
    show hset (hset (hset f 98 17 (nI 0)) 98 20 (nI 0)) 98 21 (nI 0) 98 17 = nI 0
    rw [hs_s, pk_un (by omega), hs_s, pk_un (by omega), hs_s, pk_us]
  have e20 : f0 98 20 = nI 0 := by
    show hset (hset (hset f 98 17 (nI 0)) 98 20 (nI 0)) 98 21 (nI 0) 98 20 = nI 0
    rw [hs_s, pk_un (by omega), hs_s, pk_us]
  have e21 : f0 98 21 = nI 0 := by
    show hset (hset (hset f 98 17 (nI 0)) 98 20 (nI 0)) 98 21 (nI 0) 98 21 = nI 0
    rw [hs_s, pk_us]
  have hbl := m_blanks (n := n) (kf := kf) hV (t.1 - 0) 0 (by omega) f0 (txM_frR ht hf0) e0
  obtain ⟨w2, w3, w4, -⟩ := blk_ok (t := t) (t.1 - 0) 0 (by omega)
  obtain ⟨g, w1⟩ := blk_any (t := t) (t.1 - 0) 0 (by omega) Q0
  have hok := rch_ok hV w1 Q0_I Q0_W
  have hrd : readF t = sc t (blkF t 0) (qAt Q0 g) := by
    rw [← rch_sc w1]
    rfl
  generalize hp : blkF t 0 = p at *
  let f1 := hset f0 98 17 (nI p)
  have hf1 : frR f f1 := frR_trans hf0 (frR_set (by omega))
  have a17 : f1 98 17 = nI p := by
    show hset f0 98 17 (nI p) 98 17 = nI p
    rw [hs_s, pk_us]
  have start : ∀ b, (p = t.1 ↔ b = true) → ∀ Φ, Run n_X7_reads 110 40 [some (.ref 98), some (.int dg), none, none, none] [.ref 98] (HH n kf (hset f1 98 18 (bI b))) Φ → Run n_X7_reads 110 0 (ini n_X7_reads [.ref 98, .int dg]) [] (HH n kf f) Φ := by
    intro b hb Φ hΦ
    refine v_p hT rfl rfl ?_
    refine v_puti hT rfl rfl (by omega) (fun z => by cases z) ?_
    refine v_p hT rfl rfl ?_
    refine v_puti hT rfl rfl (by omega) (fun z => by cases z) ?_
    refine v_p hT rfl rfl ?_
    refine v_puti hT rfl rfl (by omega) (fun _ => Or.inl rfl) ?_
    refine v_p hT rfl rfl ?_
    refine v_call hT [] rfl rfl (by first | rfl | assumption) (by omega) rfl rfl (Nat.le_of_ble_eq_true rfl) (Nat.le_of_ble_eq_true rfl) (hbl) ?_
    refine v_p hT rfl rfl ?_
    refine v_geti hT rfl rfl (by omega) ?_
    rw [show hset f0 98 17 (nI p) 98 17 = nI p from a17]
    refine v_p hT rfl rfl ?_
    refine v_geti hT rfl rfl (by omega) ?_
    rw [show hset f0 98 17 (nI p) 98 16 = nI t.1 by rw [hs_s, pk_un (by omega)]; exact (txM_frR ht hf0).1]
    cases b with
    | true =>
      have hpe := hb.mpr rfl
      refine g_cmp hT rfl (fun cq => ?_) (fun cq => ?_)
      · exact absurd hpe ((cj_ne (by omega) (by omega)).mp cq)
      · refine v_p hT rfl rfl ?_
        refine v_puti hT rfl rfl (by omega) (fun _ => Or.inr rfl) ?_
        refine v_p hT rfl rfl ?_
        exact hΦ
    | false =>
      have hpe : ¬ p = t.1 := fun z => absurd (hb.mp z) (by decide)
      refine g_cmp hT rfl (fun cq => ?_) (fun cq => ?_)
      · refine v_p hT rfl rfl ?_
        refine v_puti hT rfl rfl (by omega) (fun _ => Or.inl rfl) ?_
        refine v_p hT rfl rfl ?_
        exact hΦ
      · exact absurd ((cj_ne (by omega) (by omega)).mpr hpe) cq
  have fr : ∀ b, frR f (hset f1 98 18 (bI b)) := fun b => frR_trans hf1 (frR_set (by omega))
  by_cases hpe : p = t.1
  · have e18 : hset f1 98 18 (bI true) 98 18 = bI true := by rw [hs_s, pk_us]
    refine ⟨hset f1 98 18 (bI true), fr true, Or.inl ⟨?_, by rw [hs_s, pk_un (by omega), a17, hpe], e18, start true ⟨fun _ => rfl, fun _ => hpe⟩ _ ?_⟩⟩
    · rw [hrd, hpe, sc_end, if_pos (Or.inr (show qNo (qAt Q0 g) = 0 from rfl))]
    · refine v_geti hT rfl (by first | rfl | assumption) (by omega) ?_
      rw [e18]
      refine g_if hT rfl (fun cq => ?_) (fun cq => ?_)
      · refine v_vret hT rfl rfl ⟨rfl, rfl⟩
      · exact absurd (show ¬ (1 : Int32) = 0 by decide) cq
  · refine ⟨hset f1 98 18 (bI false), fr false, Or.inr ⟨p, qAt Q0 g, hrd, ⟨txM_frR ht (fr false), by rw [hs_s, pk_un (by omega)]; exact a17, by rw [hs_s, pk_us], ?_, ?_, w3, w4, rfl, hok.1, hok.2.1, fun z => absurd z hpe⟩, rfl, start false ⟨fun z => absurd z hpe, fun z => by cases z⟩⟩⟩
    · rw [hs_s, pk_un (by omega)]
      show hset f0 98 17 (nI p) 98 21 = bI false
      rw [hs_s, pk_un (by omega), e21]
      rfl
    · rw [hs_s, pk_un (by omega)]
      show hset f0 98 17 (nI p) 98 20 = _
      rw [hs_s, pk_un (by omega), e20]
      rfl
