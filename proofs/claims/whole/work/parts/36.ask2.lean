/-! THE CLASS: what is asked of paragraphs, words, breaks. -/
noncomputable def isWd (B : BK) (s p k : Int32) : Bool := pB (∃ s2 p2 k2 : Nat, s2 < 2 ∧ p2 < bNp B s2 ∧ k2 < bNw B s2 p2 ∧ s = nI s2 ∧ p = nI p2 ∧ k = nI k2)
theorem s_hasWord {n : Nat} {kf : Nat → Nat} {f : Nat → Nat → Int32} {B : BK} (hR : bkR f 1 B) (hV : VB0 B) (s p k : Int32) :
    Run n_X0_hasWord 110 0 (ini n_X0_hasWord [.ref 1, .int s, .int p, .int k]) [] (HH n kf f) (Ret (some (.int (bI (isWd B s p k)))) (HH n kf f)) := by
  have hT : mT n_X0_hasWord = tb_X0_hasWord := rfl
  have hno : isWd B s p k = false → Run n_X0_hasWord 110 27 [some (.ref 1), some (.int s), some (.int p), some (.int k)] [] (HH n kf f) (Ret (some (.int (bI (isWd B s p k)))) (HH n kf f)) := by
    intro e
    rw [e]
    refine v_p hT rfl rfl ?_
    refine v_ret hT rfl (fun _ => Or.inl rfl) rfl ⟨rfl, rfl⟩
  refine v_p hT rfl rfl ?_
  refine v_call hT [.int s, .int p] rfl rfl (by first | rfl | assumption) (by omega) rfl rfl (Nat.le_of_ble_eq_true rfl) (Nat.le_of_ble_eq_true rfl) (s_hasParagraph (Or.inl rfl) hR hV s p) ?_
  refine g_if hT rfl (fun cq => ?_) (fun cq => ?_)
  · refine hno (pB_f ?_)
    intro ⟨s2, p2, k2, h1, h2, h3, h4, h5, h6⟩
    have := bf_of cq
    rw [h4, h5, isPa_t h1 h2] at this
    cases this
  · obtain ⟨s2, p2, h1, h2, h3, h4⟩ := isPa_of (bt_of cq)
    subst h3; subst h4
    have hn := hV.1 s2 h1
    obtain ⟨w1, w2, _⟩ := hV.2.1 s2 p2 h1 h2
    refine v_p hT rfl rfl ?_
    refine g_if hT rfl (fun cq2 => ?_) (fun cq2 => ?_)
    · have cq2 : k < 0 := cq2
      refine hno (pB_f ?_)
      intro ⟨s3, p3, k3, g1, g2, g3, g4, g5, g6⟩
      have e1 := (cj_eq (a := s2) (b := s3) (by omega) (by omega)).mp g4
      subst e1
      have e2 := (cj_eq (a := p2) (b := p3) (by omega) (by omega)).mp g5
      subst e2
      rw [g6] at cq2
      exact nI_pos (by omega) cq2
    · have cq2 : ¬ k < 0 := cq2
      obtain ⟨K, hK, e⟩ := nI_of cq2
      subst e
      refine v_p hT rfl rfl ?_
      refine v_call hT [.int (nI s2), .int (nI p2)] rfl rfl (by first | rfl | assumption) (by omega) rfl rfl (Nat.le_of_ble_eq_true rfl) (Nat.le_of_ble_eq_true rfl) (s_wordsIn (Or.inl rfl) (by omega)) ?_
      rw [(hR.2.1 s2 p2 h1 h2).1]
      refine g_cmp hT rfl (fun cq3 => ?_) (fun cq3 => ?_)
      · have cq3 := (cj_ge (by omega) (by omega)).mp cq3
        refine hno (pB_f ?_)
        intro ⟨s3, p3, k3, g1, g2, g3, g4, g5, g6⟩
        have e1 := (cj_eq (a := s2) (b := s3) (by omega) (by omega)).mp g4
        subst e1
        have e2 := (cj_eq (a := p2) (b := p3) (by omega) (by omega)).mp g5
        subst e2
        have e3 := (cj_eq (a := K) (b := k3) (by omega) (by omega)).mp g6
        omega
      · have cq3 := (not_congr (cj_ge (by omega) (by omega))).mp cq3
        rw [show isWd B (nI s2) (nI p2) (nI K) = true from pB_t ⟨s2, p2, K, h1, h2, by omega, rfl, rfl, rfl⟩]
        refine v_p hT rfl rfl ?_
        refine v_ret hT rfl (fun _ => Or.inr rfl) rfl ⟨rfl, rfl⟩
noncomputable def wdA (B : BK) (s p k w : Nat) : Int32 := if w = 0 then nI (bLn B s p k) else nI (lineF (bWd B s) (bLn B s p) k).1
noncomputable def oWord (S : ST) (s p k w : Int32) : Int32 × ST := bif isWd S.1 s p k && decide (nI 0 ≤ w ∧ w ≤ nI 1) then (wdA S.1 s.toNatClampNeg p.toNatClampNeg k.toNatClampNeg w.toNatClampNeg, S) else (mI 2, refu S 0)
theorem C_word {S : ST} (hV : VS S) (s p k w : Int32) : CSp n_X6_word [.int s, .int p, .int k, .int w] S (oWord S s p k w) := by
  have hT : mT n_X6_word = tb_X6_word := rfl
  intro n kf f hR
  obtain ⟨fr, q1, q2, q3⟩ := s_refu (n := n) (j := 0) (by omega) hV hR
  have hbad : Run n_X6_word 110 23 [some (.ref 0), some (.int s), some (.int p), some (.int k), some (.int w)] [] (HH n kf f) (Ret (some (.int (mI 2))) (HH n kf fr)) := by
    refine v_p hT rfl rfl ?_
    refine v_call hT [.int (mI 2)] rfl rfl (by first | rfl | assumption) (by omega) rfl rfl (Nat.le_of_ble_eq_true rfl) (Nat.le_of_ble_eq_true rfl) (q1) ?_
    refine v_ret hT rfl (fun z => by cases z) rfl ⟨rfl, rfl⟩
  unfold oWord
  cases c1 : isWd S.1 s p k with
  | false =>
    rw [Bool.false_and]
    refine ⟨kf, fr, ?_, q2, q3⟩
    refine v_p hT rfl rfl ?_
    refine v_getr hT rfl rfl (by omega) rfl ?_
    refine v_p hT rfl rfl ?_
    refine v_call hT [.int s, .int p, .int k] rfl rfl (by first | rfl | assumption) (by omega) rfl rfl (Nat.le_of_ble_eq_true rfl) (Nat.le_of_ble_eq_true rfl) (s_hasWord hR.2.1 hV.1.1 s p k) ?_
    rw [c1]
    refine g_if hT rfl (fun cq => ?_) (fun cq => ?_)
    · exact hbad
    · exact absurd rfl cq
  | true =>
    have start : ∀ Φ, Run n_X6_word 110 20 [some (.ref 0), some (.int s), some (.int p), some (.int k), some (.int w)] [.int (bI (decide (nI 0 ≤ w ∧ w ≤ nI 1)))] (HH n kf f) Φ → Run n_X6_word 110 0 (ini n_X6_word [.ref 0, .int s, .int p, .int k, .int w]) [] (HH n kf f) Φ := by
      intro Φ hΦ
      refine v_p hT rfl rfl ?_
      refine v_getr hT rfl rfl (by omega) rfl ?_
      refine v_p hT rfl rfl ?_
      refine v_call hT [.int s, .int p, .int k] rfl rfl (by first | rfl | assumption) (by omega) rfl rfl (Nat.le_of_ble_eq_true rfl) (Nat.le_of_ble_eq_true rfl) (s_hasWord hR.2.1 hV.1.1 s p k) ?_
      rw [c1]
      refine g_if hT rfl (fun cq => ?_) (fun cq => ?_)
      · cases bf_of cq
      · refine v_p hT rfl rfl ?_
        refine v_scall hT [.int w, .int (nI 0), .int (nI 1)] rfl rfl rfl rfl (Nat.le_of_ble_eq_true rfl) (Nat.le_of_ble_eq_true rfl) (s_within w (nI 0) (nI 1)) ?_
        exact hΦ
    by_cases c2 : nI 0 ≤ w ∧ w ≤ nI 1
    · rw [decide_eq_true c2] at start ⊢
      obtain ⟨W, W1, W2⟩ := int_04 (by omega) c2
      obtain ⟨s2, p2, k2, h1, h2, h3, h4, h5, h6⟩ := pB_of c1
      have hn := hV.1.1.1 s2 h1
      obtain ⟨w1, w2, w3⟩ := hV.1.1.2.1 s2 p2 h1 h2
      obtain ⟨b1, b2⟩ := hR.2.1.2.1 s2 p2 h1 h2
      have hwd := hV.1.1.2.2.1 s2 h1
      subst h4; subst h5; subst h6; subst W2
      simp only [Bool.true_and, cond_true]
      rw [nI_tn (by omega), nI_tn (by omega), nI_tn (by omega), nI_tn (by omega)]
      refine ⟨kf, f, start _ ?_, hR, fun _ _ => rfl⟩
      unfold wdA
      refine g_if hT rfl (fun cq => ?_) (fun cq => ?_)
      · refine v_p hT rfl rfl ?_
        refine g_if hT rfl (fun cq2 => ?_) (fun cq2 => ?_)
        · have cq2 := (cj_ne (a := W) (b := 0) (by omega) (by omega)).mp cq2
          rw [if_neg cq2]
          refine v_p hT rfl rfl ?_
          refine v_getr hT rfl rfl (by omega) rfl ?_
          refine v_p hT rfl rfl ?_
          refine v_scall hT [.int (nI s2), .int (nI p2)] rfl rfl rfl rfl (Nat.le_of_ble_eq_true rfl) (Nat.le_of_ble_eq_true rfl) (s_slot s2 p2) ?_
          refine v_p hT rfl rfl ?_
          refine v_call hT [.int (nI (s2 * 8 + p2)), .int (nI k2)] rfl rfl (by first | rfl | assumption) (by omega) rfl rfl (Nat.le_of_ble_eq_true rfl) (Nat.le_of_ble_eq_true rfl) (s_lineOf (w := bWd S.1 s2) (ln := bLn S.1 s2 p2) (Or.inl rfl) (by omega) (by omega) (by rw [sl_div (by omega)]; exact hR.2.1.2.2.1 s2 h1) (by omega) (fun i hi => b2 i (by omega)) (fun i hi => by have := (w3 i (by omega)).2; omega)) ?_
          refine v_ret hT rfl (fun z => by cases z) rfl ⟨rfl, rfl⟩
        · have cq2 := Classical.not_not.mp ((not_congr (cj_ne (a := W) (b := 0) (by omega) (by omega))).mp cq2)
          rw [if_pos cq2]
          refine v_p hT rfl rfl ?_
          refine v_getr hT rfl rfl (by omega) rfl ?_
          refine v_p hT rfl rfl ?_
          refine v_call hT [.int (nI s2), .int (nI p2), .int (nI k2)] rfl rfl (by first | rfl | assumption) (by omega) rfl rfl (Nat.le_of_ble_eq_true rfl) (Nat.le_of_ble_eq_true rfl) (s_lengthOf (Or.inl rfl) (by omega) (by omega)) ?_
          rw [b2 k2 h3]
          refine v_p hT rfl rfl ?_
          refine v_ret hT rfl (fun z => by cases z) rfl ⟨rfl, rfl⟩
      · exact absurd (show ¬ (1 : Int32) = 0 by decide) cq
    · rw [decide_eq_false c2] at start ⊢
      refine ⟨kf, fr, start _ ?_, q2, q3⟩
      refine g_if hT rfl (fun cq => ?_) (fun cq => ?_)
      · exact absurd rfl cq
      · exact hbad
theorem bI_not0 (b : Bool) : (if b = true then (1 : Int32) else 0) = bI b := by cases b <;> rfl
noncomputable def oLaw (S : ST) (s b : Int32) : Int32 × ST := bif decide (0 ≤ s ∧ s ≤ 1) && decide (nI 0 ≤ b ∧ b ≤ nI (totF S.1 s.toNatClampNeg)) then (bI (lawF S.1 s.toNatClampNeg b.toNatClampNeg), S) else (mI 2, refu S 0)
theorem ln_at {m Z : Nat} {kf : Nat → Nat} (hz : Z < 2) : RR m kf 80 Z = 81 + 3 * Z + 1 ∧ isLn (81 + 3 * Z) := by
  rcases (show Z = 0 ∨ Z = 1 by omega) with e | e
  · subst e; exact ⟨rfl, Or.inl rfl⟩
  · subst e; exact ⟨rfl, Or.inr rfl⟩
theorem ms_ln {f : Nat → Nat → Int32} {B : BK} (h : msR f B) {Z : Nat} (hz : Z < 2) : lnR f (81 + 3 * Z) B Z := by
  rcases (show Z = 0 ∨ Z = 1 by omega) with e | e
  · subst e; exact h.1
  · subst e; exact h.2.1
theorem C_lawful {S : ST} (hV : VS S) (s b : Int32) : CSp n_X6_lawful [.int s, .int b] S (oLaw S s b) := by
  have hT : mT n_X6_lawful = tb_X6_lawful := rfl
  intro n kf f hR
  unfold oLaw
  by_cases c1 : 0 ≤ s ∧ s ≤ 1
  · obtain ⟨Z, z1, z2⟩ : ∃ Z, Z < 2 ∧ s = nI Z := by
      rcases int_lo c1 with e | e
      · exact ⟨0, by omega, e⟩
      · exact ⟨1, by omega, e⟩
    subst z2
    rw [decide_eq_true c1, nI_tn (show Z < 2 ^ 31 by omega)]
    simp only [Bool.true_and]
    obtain ⟨f1, r1, hR1, hm, _, k1⟩ := s_measure (n := n) hV hR
    have hln := ms_ln hm z1
    obtain ⟨hl1, hl2⟩ := ln_at (m := n) (kf := kf) z1
    have hlk := ln_kd hl2
    have hlr := ln_rr hl2 n kf
    have h60 := hV.1.2 Z z1
    have start : ∀ Φ, Run n_X6_lawful 110 32 [some (.ref 0), some (.int (nI Z)), some (.int b)] [.int (bI (decide (nI 0 ≤ b ∧ b ≤ nI (totF S.1 Z))))] (HH n kf f1) Φ → Run n_X6_lawful 110 0 (ini n_X6_lawful [.ref 0, .int (nI Z), .int b]) [] (HH n kf f) Φ := by
      intro Φ hΦ
      refine v_p hT rfl rfl ?_
      refine v_scall hT [.int (nI Z)] rfl rfl rfl rfl (Nat.le_of_ble_eq_true rfl) (Nat.le_of_ble_eq_true rfl) (s_isSide (nI Z)) ?_
      rw [decide_eq_true c1]
      refine g_if hT rfl (fun cq => ?_) (fun cq => ?_)
      · refine v_p hT rfl rfl ?_
        refine v_call hT [] rfl rfl (by first | rfl | assumption) (by omega) rfl rfl (Nat.le_of_ble_eq_true rfl) (Nat.le_of_ble_eq_true rfl) (r1) ?_
        refine v_p hT rfl rfl ?_
        refine v_getr hT rfl rfl (by omega) rfl ?_
        refine v_p hT rfl rfl ?_
        refine v_rld hT rfl rfl (Or.inr rfl) (by omega) (by omega) (show Z < 2 by omega) hl1 ?_
        refine v_geti hT rfl hlk.1 (by omega) ?_
        rw [hln.1]
        refine v_scall hT [.int b, .int (nI 0), .int (nI (totF S.1 Z))] rfl rfl rfl rfl (Nat.le_of_ble_eq_true rfl) (Nat.le_of_ble_eq_true rfl) (s_within b (nI 0) (nI (totF S.1 Z))) ?_
        exact hΦ
      · exact absurd (show ¬ (1 : Int32) = 0 by decide) cq
    by_cases c2 : nI 0 ≤ b ∧ b ≤ nI (totF S.1 Z)
    · rw [decide_eq_true c2] at start ⊢
      obtain ⟨K, K1, K2⟩ := int_04 (by omega) c2
      subst K2
      simp only [cond_true]
      rw [nI_tn (by omega)]
      refine ⟨kf, f1, start _ ?_, hR1, k1⟩
      refine g_if hT rfl (fun cq => ?_) (fun cq => ?_)
      · refine v_p hT rfl rfl ?_
        refine v_getr hT rfl rfl (by omega) rfl ?_
        refine v_p hT rfl rfl ?_
        refine v_rld hT rfl rfl (Or.inr rfl) (by omega) (by omega) (show Z < 2 by omega) hl1 ?_
        refine v_getr hT rfl hlk.1 (by omega) hlr.2 ?_
        refine v_p hT rfl rfl ?_
        refine v_bld hT rfl hlk.2.2 (Or.inl rfl) (by omega) (by omega) (by omega) ?_
        rw [hln.2.2 K K1]
        refine g_if hT rfl (fun cq2 => ?_) (fun cq2 => ?_)
        · rw [bf_of cq2]
          refine v_p hT rfl rfl ?_
          refine v_ret hT rfl (fun z => by cases z) rfl ⟨rfl, rfl⟩
        · rw [bt_of cq2]
          refine v_p hT rfl rfl ?_
          refine v_ret hT rfl (fun z => by cases z) rfl ⟨rfl, rfl⟩
      · exact absurd (show ¬ (1 : Int32) = 0 by decide) cq
    · rw [decide_eq_false c2] at start ⊢
      obtain ⟨fr, q1, q2, q3⟩ := s_refu (n := n) (j := 0) (by omega) hV hR1
      refine ⟨kf, fr, start _ ?_, q2, fun c hc => by rw [q3 c hc, k1 c hc]⟩
      refine g_if hT rfl (fun cq => ?_) (fun cq => ?_)
      · exact absurd rfl cq
      · refine v_p hT rfl rfl ?_
        refine v_call hT [.int (mI 2)] rfl rfl (by first | rfl | assumption) (by omega) rfl rfl (Nat.le_of_ble_eq_true rfl) (Nat.le_of_ble_eq_true rfl) (q1) ?_
        refine v_ret hT rfl (fun z => by cases z) rfl ⟨rfl, rfl⟩
  · rw [decide_eq_false c1, Bool.false_and]
    obtain ⟨fr, q1, q2, q3⟩ := s_refu (n := n) (j := 0) (by omega) hV hR
    refine ⟨kf, fr, ?_, q2, q3⟩
    refine v_p hT rfl rfl ?_
    refine v_scall hT [.int s] rfl rfl rfl rfl (Nat.le_of_ble_eq_true rfl) (Nat.le_of_ble_eq_true rfl) (s_isSide s) ?_
    rw [decide_eq_false c1]
    refine g_if hT rfl (fun cq => ?_) (fun cq => ?_)
    · exact absurd rfl cq
    · refine v_p hT rfl rfl ?_
      refine v_call hT [.int (mI 2)] rfl rfl (by first | rfl | assumption) (by omega) rfl rfl (Nat.le_of_ble_eq_true rfl) (Nat.le_of_ble_eq_true rfl) (q1) ?_
      refine v_ret hT rfl (fun z => by cases z) rfl ⟨rfl, rfl⟩
