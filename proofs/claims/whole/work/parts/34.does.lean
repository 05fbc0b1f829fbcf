/-! THE CLASS: orders done, texts, going back. -/
theorem kinds7 {c : Nat} (h : ¬ mostN c = 0) : c = 97 ∨ c = 98 ∨ c = 116 ∨ c = 119 ∨ c = 104 ∨ c = 108 ∨ c = 115 := by
  unfold mostN at h
  by_cases h1 : c = 97 ∨ c = 98
  · omega
  · rw [if_neg h1] at h
    by_cases h2 : c = 116
    · omega
    · rw [if_neg h2] at h
      by_cases h3 : c = 119
      · omega
      · rw [if_neg h3] at h
        by_cases h4 : c = 104 ∨ c = 108 ∨ c = 115
        · omega
        · rw [if_neg h4] at h; omega
noncomputable def ordA (B : BK) (c : Nat) (ns : Nat → Nat) (k : Nat) : Int32 × BK := if c = 97 then aPar B 0 k (fun i => nI (ns i)) else if c = 98 then aPar B 1 k (fun i => nI (ns i)) else if c = 116 then aTie B (nI (ns 0)) (nI (ns 1)) (nI (ns 2)) else if c = 119 then aWid B (nI (ns 0)) (nI (ns 1)) else if c = 104 then aSet B (nI 0) (nI (ns 0)) else if c = 108 then aSet B (nI 1) (nI (ns 0)) else if c = 115 then aSet B (nI 2) (nI (ns 0)) else (mI 2, B)
def kOk (c k : Nat) : Prop := ¬ mostN c = 0 ∧ leastN c ≤ k ∧ k ≤ mostN c
theorem ordA_ok {B : BK} (hV : VB B) {c k : Nat} {ns : Nat → Nat} (hk : kOk c k) : VB (ordA B c ns k).2 ∧ okA (ordA B c ns k).1 := by
  obtain ⟨h1, h2, h3⟩ := hk
  unfold ordA
  rcases kinds7 h1 with e | e | e | e | e | e | e
  · subst e; rw [if_pos rfl]; exact aPar_ok hV (by omega) h2 h3 _
  · subst e; rw [if_neg (by omega), if_pos rfl]; exact aPar_ok hV (by omega) h2 h3 _
  · subst e; rw [if_neg (by omega), if_neg (by omega), if_pos rfl]; exact aTie_ok hV _ _ _
  · subst e; rw [if_neg (by omega), if_neg (by omega), if_neg (by omega), if_pos rfl]; exact aWid_ok hV _ _
  · subst e; rw [if_neg (by omega), if_neg (by omega), if_neg (by omega), if_neg (by omega), if_pos rfl]; exact aSet_ok hV _ _
  · subst e; rw [if_neg (by omega), if_neg (by omega), if_neg (by omega), if_neg (by omega), if_neg (by omega), if_pos rfl]; exact aSet_ok hV _ _
  · subst e; rw [if_neg (by omega), if_neg (by omega), if_neg (by omega), if_neg (by omega), if_neg (by omega), if_neg (by omega), if_pos rfl]; exact aSet_ok hV _ _
def qG (Q : QS) (o : Nat) : Prop := kOk (qKs Q o) (qFr Q (o + 1) - qFr Q o) ∧ qFr Q o ≤ qFr Q (o + 1) ∧ qFr Q (o + 1) ≤ qNn Q
def qW (Q : QS) : Prop := (∀ o, o < qNo Q → qG Q o) ∧ (¬ qKd Q = 0 → ¬ mostN (qKd Q) = 0 ∧ qNn Q - qFr Q (qNo Q) ≤ mostN (qKd Q)) ∧ (qKd Q = 0 → qNn Q = qFr Q (qNo Q))
theorem qW_step {Q Q' : QS} {c i : Nat} (h : qW Q) (hI : qI Q i) (hs : qStep Q c = some Q') : qW Q' := by
  obtain ⟨w1, w2, w3⟩ := h
  obtain ⟨h1, h2, h3, h4, h5, h6⟩ := hI
  unfold qStep at hs
  by_cases c1 : c = 32
  · rw [if_pos c1] at hs
    cases hs
    exact ⟨w1, w2, w3⟩
  · rw [if_neg c1] at hs
    by_cases c2 : c = 59
    · rw [if_pos c2] at hs
      unfold qEnd at hs
      by_cases c3 : qKd Q = 0 ∨ qNn Q - qFr Q (qNo Q) < leastN (qKd Q)
      · rw [if_pos c3] at hs; cases hs
      · rw [if_neg c3] at hs
        cases hs
        have hk : ¬ qKd Q = 0 := fun z => c3 (Or.inl z)
        refine ⟨fun o ho => ?_, fun z => absurd rfl z, fun _ => ?_⟩
        · have ho : o < qNo Q + 1 := ho
          unfold qG
          show kOk (updN (qKs Q) (qNo Q) (qKd Q) o) (updN (qFr Q) (qNo Q + 1) (qNn Q) (o + 1) - updN (qFr Q) (qNo Q + 1) (qNn Q) o) ∧ updN (qFr Q) (qNo Q + 1) (qNn Q) o ≤ updN (qFr Q) (qNo Q + 1) (qNn Q) (o + 1) ∧ updN (qFr Q) (qNo Q + 1) (qNn Q) (o + 1) ≤ qNn Q
          unfold updN
          by_cases e : o = qNo Q
          · subst e
            rw [if_pos rfl, if_pos rfl, if_neg (by omega)]
            exact ⟨⟨(w2 hk).1, by omega, (w2 hk).2⟩, h3, Nat.le_refl _⟩
          · rw [if_neg e, if_neg (show ¬ o + 1 = qNo Q + 1 by omega), if_neg (show ¬ o = qNo Q + 1 by omega)]
            exact w1 o (by omega)
        · show qNn Q = updN (qFr Q) (qNo Q + 1) (qNn Q) (qNo Q + 1)
          unfold updN
          rw [if_pos rfl]
    · rw [if_neg c2] at hs
      by_cases c4 : 48 ≤ c ∧ c ≤ 57
      · rw [if_pos c4] at hs
        unfold qFig at hs
        by_cases c5 : qKd Q = 0 ∨ 2 ≤ qFg Q
        · rw [if_pos c5] at hs; cases hs
        · rw [if_neg c5] at hs
          have hk : ¬ qKd Q = 0 := fun z => c5 (Or.inl z)
          by_cases c6 : qFg Q = 1
          · rw [if_pos c6] at hs
            cases hs
            exact ⟨w1, w2, w3⟩
          · rw [if_neg c6] at hs
            by_cases c7 : mostN (qKd Q) ≤ qNn Q - qFr Q (qNo Q)
            · rw [if_pos c7] at hs; cases hs
            · rw [if_neg c7] at hs
              cases hs
              refine ⟨fun o ho => ?_, fun _ => ⟨(w2 hk).1, by show qNn Q + 1 - qFr Q (qNo Q) ≤ mostN (qKd Q); omega⟩, fun z => absurd z hk⟩
              obtain ⟨g1, g2, g3⟩ := w1 o ho
              exact ⟨g1, g2, by show qFr Q (o + 1) ≤ qNn Q + 1; omega⟩
      · rw [if_neg c4] at hs
        unfold qBeg at hs
        by_cases c8 : ¬ qKd Q = 0 ∨ mostN c = 0
        · rw [if_pos c8] at hs; cases hs
        · rw [if_neg c8] at hs
          cases hs
          have hk : qKd Q = 0 := Classical.not_not.mp (fun z => c8 (Or.inl z))
          refine ⟨w1, fun z => ⟨fun q => c8 (Or.inr q), ?_⟩, fun z => ?_⟩
          · show qNn Q - qFr Q (qNo Q) ≤ mostN c
            rw [w3 hk]
            omega
          · exact w3 hk
theorem scan_ok {t : TX} (hV : VT t) : ∀ d i Q, i + d = t.1 → qI Q i → qW Q → ∀ Q2, (scan t d i Q).2 = some Q2 → qI Q2 t.1 ∧ qW Q2 := by
  intro d
  induction d with
  | zero =>
    intro i Q hi hI hW Q2 z
    have z : (if ¬ qKd Q = 0 ∨ qNo Q = 0 then (t.1, none) else (t.1, some Q) : Nat × Option QS).2 = some Q2 := z
    by_cases hc : ¬ qKd Q = 0 ∨ qNo Q = 0
    · rw [if_pos hc] at z; cases z
    · rw [if_neg hc] at z
      cases z
      rw [show t.1 = i by omega]
      exact ⟨hI, hW⟩
  | succ d ih =>
    intro i Q hi hI hW Q2 z
    have hsc : scan t (d + 1) i Q = match qStep Q (t.2 i) with | none => (i, none) | some Q' => scan t d (i + 1) Q' := rfl
    cases hst : qStep Q (t.2 i) with
    | none =>
      rw [hst] at hsc
      rw [hsc] at z
      cases z
    | some Q' =>
      rw [hst] at hsc
      rw [hsc] at z
      exact ih (i + 1) Q' (by omega) (qI_step hI (hV.2 i (by omega)) hst) (qW_step hW hI hst) Q2 z
theorem Q0_I : qI Q0 0 := ⟨Nat.le_refl _, Nat.le_refl _, Nat.le_refl _, fun z => (by cases z), by show 0 < 128; omega, Nat.zero_le _⟩
theorem Q0_W : qW Q0 := ⟨fun o ho => absurd ho (Nat.not_lt_zero _), fun z => absurd rfl z, fun _ => rfl⟩
theorem readF_ok {t : TX} (hV : VT t) {Q : QS} (h : (readF t).2 = some Q) : qI Q t.1 ∧ qW Q := scan_ok hV t.1 0 Q0 (by omega) Q0_I Q0_W Q h
noncomputable def qOrd (Q : QS) (o : Nat) (B : BK) : Int32 × BK := ordA B (qKs Q o) (fun i => qNm Q (qFr Q o + i)) (qFr Q (o + 1) - qFr Q o)
theorem s_tryOrder {n o : Nat} {kf : Nat → Nat} {f : Nat → Nat → Int32} {Q : QS} {B : BK} (hQ : qR f Q) (hI : qI Q 120) (hW : qW Q) (ho : o < qNo Q) (hb : bkR f 10 B) (hV : VB B) (hf1 : f 1001 = sf1) (hf2 : f 1002 = sf2) :
    ∃ f2, Run n_X6_tryOrder 110 0 (ini n_X6_tryOrder [.ref 0, .int (nI o)]) [] (HH n kf f) (Ret (some (.int (qOrd Q o B).1)) (HH n kf f2)) ∧ bkR f2 10 (qOrd Q o B).2 ∧ ∀ c, c < 10 ∨ 18 < c → f2 c = f c := by
  have hT : mT n_X6_tryOrder = tb_X6_tryOrder := rfl
  obtain ⟨r1, r2, r3, r4, r5, r6, r7⟩ := hQ
  obtain ⟨i1, i2, i3, i4, i5, i6⟩ := hI
  obtain ⟨⟨g1, g2, g3⟩, g4, g5⟩ := hW.1 o ho
  have s0 := r6 o (by omega)
  have s1 := r6 (o + 1) (by omega)
  have s2 := r5 o ho
  have start : ∀ Φ, Run n_X6_tryOrder 110 42 [some (.ref 0), some (.int (nI o)), some (.ref 79), some (.int (nI (qFr Q o))), some (.int (nI (qFr Q (o + 1) - qFr Q o)))] [.int (nI (qKs Q o))] (HH n kf f) Φ → Run n_X6_tryOrder 110 0 (ini n_X6_tryOrder [.ref 0, .int (nI o)]) [] (HH n kf f) Φ := by
    intro Φ hΦ
    refine v_p hT rfl rfl ?_
    refine v_getr hT rfl rfl (by omega) rfl ?_
    refine v_getr hT rfl rfl (by omega) rfl ?_
    refine v_p hT rfl rfl ?_
    refine v_getr hT rfl rfl (by omega) rfl ?_
    refine v_getr hT rfl rfl (by omega) rfl ?_
    refine v_p hT rfl rfl ?_
    refine v_ald hT rfl (by first | assumption | rfl) (by omega) (by decide) (by omega) ?_
    rw [s0]
    refine v_p hT rfl rfl ?_
    refine v_getr hT rfl rfl (by omega) rfl ?_
    refine v_getr hT rfl rfl (by omega) rfl ?_
    refine v_p hT rfl rfl ?_
    rw [nI_add]
    refine v_ald hT rfl (by first | assumption | rfl) (by omega) (by decide) (by omega) ?_
    rw [s1]
    refine v_p hT rfl rfl ?_
    rw [pk_sub g4]
    refine v_getr hT rfl rfl (by omega) rfl ?_
    refine v_getr hT rfl rfl (by omega) rfl ?_
    refine v_p hT rfl rfl ?_
    refine v_ald hT rfl (by first | assumption | rfl) (by omega) (by decide) (by omega) ?_
    rw [s2]
    exact hΦ
  unfold qOrd
  generalize hA : qFr Q o = A at *
  generalize hK : qFr Q (o + 1) - A = K at *
  have hAK : A + K ≤ 120 := by omega
  have hn : ∀ i, i < K → f 79 (A + i) = nI (qNm Q (A + i)) := fun i hi => r7 _ (by omega)
  unfold ordA
  rcases kinds7 g1 with e | e | e | e | e | e | e
  · rw [e] at start g2 g3 ⊢
    rw [if_pos rfl]
    have g2 : 1 ≤ K := g2
    have g3 : K ≤ 12 := g3
    obtain ⟨f2, e1, e2, e3⟩ := s_addParagraph (m := n) (kf := kf) (f := f) (b := 10) (r := 79) (at_ := A) (s := 0) (n := K) (Or.inr (Or.inl rfl)) hb hV.1 (by omega) g2 g3 rfl (by omega) (by omega) hAK (by omega)
    obtain ⟨p1, p2⟩ := aPar_cg (B := B) (s := 0) (n := K) (ws := fun k => f 79 (A + k)) (ws' := fun i => nI (qNm Q (A + i))) g2 (fun k hk => hn k hk)
    rw [p1] at e1
    refine ⟨f2, start _ ?_, p2 _ _ e2, e3⟩
    refine g_sw hT rfl (Or.inl rfl) (pc' := 148) rfl ?_
    refine v_p hT rfl rfl ?_
    refine v_getr hT rfl rfl (by omega) rfl ?_
    refine v_p hT rfl rfl ?_
    refine v_call hT [.int (nI 0), .ref 79, .int (nI A), .int (nI K)] rfl rfl (by first | rfl | assumption) (by omega) rfl rfl (Nat.le_of_ble_eq_true rfl) (Nat.le_of_ble_eq_true rfl) (e1) ?_
    refine v_ret hT rfl (fun z => by cases z) rfl ⟨rfl, rfl⟩
  · rw [e] at start g2 g3 ⊢
    rw [if_neg (by omega), if_pos rfl]
    have g2 : 1 ≤ K := g2
    have g3 : K ≤ 12 := g3
    obtain ⟨f2, e1, e2, e3⟩ := s_addParagraph (m := n) (kf := kf) (f := f) (b := 10) (r := 79) (at_ := A) (s := 1) (n := K) (Or.inr (Or.inl rfl)) hb hV.1 (by omega) g2 g3 rfl (by omega) (by omega) hAK (by omega)
    obtain ⟨p1, p2⟩ := aPar_cg (B := B) (s := 1) (n := K) (ws := fun k => f 79 (A + k)) (ws' := fun i => nI (qNm Q (A + i))) g2 (fun k hk => hn k hk)
    rw [p1] at e1
    refine ⟨f2, start _ ?_, p2 _ _ e2, e3⟩
    refine g_sw hT rfl (Or.inl rfl) (pc' := 161) rfl ?_
    refine v_p hT rfl rfl ?_
    refine v_getr hT rfl rfl (by omega) rfl ?_
    refine v_p hT rfl rfl ?_
    refine v_call hT [.int (nI 1), .ref 79, .int (nI A), .int (nI K)] rfl rfl (by first | rfl | assumption) (by omega) rfl rfl (Nat.le_of_ble_eq_true rfl) (Nat.le_of_ble_eq_true rfl) (e1) ?_
    refine v_ret hT rfl (fun z => by cases z) rfl ⟨rfl, rfl⟩
  · rw [e] at start g2 g3 ⊢
    rw [if_neg (by omega), if_neg (by omega), if_pos rfl]
    have g2 : 3 ≤ K := g2
    obtain ⟨f2, e1, e2, e3⟩ := s_addTie (n := n) (kf := kf) (f := f) (b := 10) (Or.inr (Or.inl rfl)) hb hV.1 (nI (qNm Q (A + 0))) (nI (qNm Q (A + 1))) (nI (qNm Q (A + 2)))
    refine ⟨f2, start _ ?_, e2, e3⟩
    refine g_sw hT rfl (Or.inl rfl) (pc' := 174) rfl ?_
    refine v_p hT rfl rfl ?_
    refine v_getr hT rfl rfl (by omega) rfl ?_
    refine v_p hT rfl rfl ?_
    refine v_ald hT rfl (by first | assumption | rfl) (by omega) (by decide) (by omega) ?_
    rw [show f 79 A = nI (qNm Q (A + 0)) from hn 0 (by omega)]
    refine v_p hT rfl rfl ?_
    rw [nI_add]
    refine v_ald hT rfl (by first | assumption | rfl) (by omega) (by decide) (by omega) ?_
    rw [hn 1 (by omega)]
    refine v_p hT rfl rfl ?_
    rw [nI_add]
    refine v_ald hT rfl (by first | assumption | rfl) (by omega) (by decide) (by omega) ?_
    rw [hn 2 (by omega)]
    refine v_call hT [.int (nI (qNm Q (A + 0))), .int (nI (qNm Q (A + 1))), .int (nI (qNm Q (A + 2)))] rfl rfl (by first | rfl | assumption) (by omega) rfl rfl (Nat.le_of_ble_eq_true rfl) (Nat.le_of_ble_eq_true rfl) (e1) ?_
    refine v_ret hT rfl (fun z => by cases z) rfl ⟨rfl, rfl⟩
  · rw [e] at start g2 g3 ⊢
    rw [if_neg (by omega), if_neg (by omega), if_neg (by omega), if_pos rfl]
    have g2 : 2 ≤ K := g2
    obtain ⟨f2, e1, e2, e3⟩ := s_changeWidth (n := n) (kf := kf) (f := f) (b := 10) (Or.inr (Or.inl rfl)) hb hV.1 (nI (qNm Q (A + 0))) (nI (qNm Q (A + 1)))
    refine ⟨f2, start _ ?_, e2, e3⟩
    refine g_sw hT rfl (Or.inl rfl) (pc' := 195) rfl ?_
    refine v_p hT rfl rfl ?_
    refine v_getr hT rfl rfl (by omega) rfl ?_
    refine v_p hT rfl rfl ?_
    refine v_ald hT rfl (by first | assumption | rfl) (by omega) (by decide) (by omega) ?_
    rw [show f 79 A = nI (qNm Q (A + 0)) from hn 0 (by omega)]
    refine v_p hT rfl rfl ?_
    rw [nI_add]
    refine v_ald hT rfl (by first | assumption | rfl) (by omega) (by decide) (by omega) ?_
    rw [hn 1 (by omega)]
    refine v_call hT [.int (nI (qNm Q (A + 0))), .int (nI (qNm Q (A + 1)))] rfl rfl (by first | rfl | assumption) (by omega) rfl rfl (Nat.le_of_ble_eq_true rfl) (Nat.le_of_ble_eq_true rfl) (e1) ?_
    refine v_ret hT rfl (fun z => by cases z) rfl ⟨rfl, rfl⟩
  · rw [e] at start g2 g3 ⊢
    rw [if_neg (by omega), if_neg (by omega), if_neg (by omega), if_neg (by omega), if_pos rfl]
    have g2 : 1 ≤ K := g2
    obtain ⟨f2, e1, e2, e3⟩ := s_changeSetting (n := n) (kf := kf) (f := f) (b := 10) (Or.inr (Or.inl rfl)) hb hf1 hf2 (nI 0) (nI (qNm Q (A + 0)))
    refine ⟨f2, start _ ?_, e2, e3⟩
    refine g_sw hT rfl (Or.inl rfl) (pc' := 211) rfl ?_
    refine v_p hT rfl rfl ?_
    refine v_getr hT rfl rfl (by omega) rfl ?_
    refine v_p hT rfl rfl ?_
    refine v_ald hT rfl (by first | assumption | rfl) (by omega) (by decide) (by omega) ?_
    rw [show f 79 A = nI (qNm Q (A + 0)) from hn 0 (by omega)]
    refine v_call hT [.int (nI 0), .int (nI (qNm Q (A + 0)))] rfl rfl (by first | rfl | assumption) (by omega) rfl rfl (Nat.le_of_ble_eq_true rfl) (Nat.le_of_ble_eq_true rfl) (e1) ?_
    refine v_ret hT rfl (fun z => by cases z) rfl ⟨rfl, rfl⟩
  · rw [e] at start g2 g3 ⊢
    rw [if_neg (by omega), if_neg (by omega), if_neg (by omega), if_neg (by omega), if_neg (by omega), if_pos rfl]
    have g2 : 1 ≤ K := g2
    obtain ⟨f2, e1, e2, e3⟩ := s_changeSetting (n := n) (kf := kf) (f := f) (b := 10) (Or.inr (Or.inl rfl)) hb hf1 hf2 (nI 1) (nI (qNm Q (A + 0)))
    refine ⟨f2, start _ ?_, e2, e3⟩
    refine g_sw hT rfl (Or.inl rfl) (pc' := 223) rfl ?_
    refine v_p hT rfl rfl ?_
    refine v_getr hT rfl rfl (by omega) rfl ?_
    refine v_p hT rfl rfl ?_
    refine v_ald hT rfl (by first | assumption | rfl) (by omega) (by decide) (by omega) ?_
    rw [show f 79 A = nI (qNm Q (A + 0)) from hn 0 (by omega)]
    refine v_call hT [.int (nI 1), .int (nI (qNm Q (A + 0)))] rfl rfl (by first | rfl | assumption) (by omega) rfl rfl (Nat.le_of_ble_eq_true rfl) (Nat.le_of_ble_eq_true rfl) (e1) ?_
    refine v_ret hT rfl (fun z => by cases z) rfl ⟨rfl, rfl⟩
  · rw [e] at start g2 g3 ⊢
    rw [if_neg (by omega), if_neg (by omega), if_neg (by omega), if_neg (by omega), if_neg (by omega), if_neg (by omega), if_pos rfl]
    have g2 : 1 ≤ K := g2
    obtain ⟨f2, e1, e2, e3⟩ := s_changeSetting (n := n) (kf := kf) (f := f) (b := 10) (Or.inr (Or.inl rfl)) hb hf1 hf2 (nI 2) (nI (qNm Q (A + 0)))
    refine ⟨f2, start _ ?_, e2, e3⟩
    refine g_sw hT rfl (Or.inl rfl) (pc' := 235) rfl ?_
    refine v_p hT rfl rfl ?_
    refine v_getr hT rfl rfl (by omega) rfl ?_
    refine v_p hT rfl rfl ?_
    refine v_ald hT rfl (by first | assumption | rfl) (by omega) (by decide) (by omega) ?_
    rw [show f 79 A = nI (qNm Q (A + 0)) from hn 0 (by omega)]
    refine v_call hT [.int (nI 2), .int (nI (qNm Q (A + 0)))] rfl rfl (by first | rfl | assumption) (by omega) rfl rfl (Nat.le_of_ble_eq_true rfl) (Nat.le_of_ble_eq_true rfl) (e1) ?_
    refine v_ret hT rfl (fun z => by cases z) rfl ⟨rfl, rfl⟩
/-- the orders from o on: where one is refused, or the book at the end -/
noncomputable def doS (Q : QS) : Nat → Nat → BK → Nat × Option BK
  | 0, o, B => (o, some B)
  | d + 1, o, B => bif decide ((qOrd Q o B).1 < 0) then (o, none) else doS Q d (o + 1) (qOrd Q o B).2
theorem qOrd_ok {Q : QS} {o : Nat} {B : BK} (hW : qW Q) (ho : o < qNo Q) (hV : VB B) : VB (qOrd Q o B).2 ∧ okA (qOrd Q o B).1 := ordA_ok hV (hW.1 o ho).1
theorem doS_ok {Q : QS} (hW : qW Q) : ∀ d o B, o + d = qNo Q → VB B → ∀ B2, (doS Q d o B).2 = some B2 → VB B2 := by
  intro d
  induction d with
  | zero => intro o B _ hV B2 z; cases z; exact hV
  | succ d ih =>
    intro o B ho hV B2 z
    have z : (bif decide ((qOrd Q o B).1 < 0) then (o, none) else doS Q d (o + 1) (qOrd Q o B).2).2 = some B2 := z
    by_cases hc : (qOrd Q o B).1 < 0
    · rw [decide_eq_true hc] at z; cases z
    · rw [decide_eq_false hc] at z
      exact ih (o + 1) _ (by omega) (qOrd_ok hW (by omega) hV).1 B2 z
noncomputable def oDoes (S : ST) : Int32 × ST := match readF S.2.2.1 with
  | (i, none) => (mI 10 - nI i, S)
  | (_, some Q) => match doS Q (qNo Q) 0 S.1 with
    | (o, none) => (mI 1000 - nI o, S)
    | (_, some B) => chg S (nI (qNo Q), B)
theorem C_does {S : ST} (hV : VS S) : CSp n_X6_does [] S (oDoes S) := by
  have hT : mT n_X6_does = tb_X6_does := rfl
  intro n kf f hR
  obtain ⟨fa, r1, q1, q2⟩ := s_read (n := n) (kf := kf) hV.2.2 hR.2.2.2.1
  have hRa : RepC kf fa S := RepC_fr hV hR (fun c hc => q2.1 c (by omega) (by omega) (by omega) (by omega)) q2.2
  have hga : ∀ c, 97 < c → fa c = f c := fun c hc => q2.1 c (by omega) (by omega) (by omega) (by omega)
  unfold oDoes
  have hok := fun Q => readF_ok hV.2.2 (Q := Q)
  have hpl : (readF S.2.2.1).1 < 2 ^ 31 - 1 := by
    have hs : ∀ d i Q, i + d = S.2.2.1.1 → (scan S.2.2.1 d i Q).1 ≤ S.2.2.1.1 := by
      intro d
      induction d with
      | zero =>
        intro i Q hi
        show (if ¬ qKd Q = 0 ∨ qNo Q = 0 then (S.2.2.1.1, none) else (S.2.2.1.1, some Q) : Nat × Option QS).1 ≤ _
        split <;> exact Nat.le_refl _
      | succ d ih =>
        intro i Q hi
        have hsc : scan S.2.2.1 (d + 1) i Q = match qStep Q (S.2.2.1.2 i) with | none => (i, none) | some Q' => scan S.2.2.1 d (i + 1) Q' := rfl
        cases hst : qStep Q (S.2.2.1.2 i) with
        | none => rw [hst] at hsc; rw [hsc]; show i ≤ _; omega
        | some Q' => rw [hst] at hsc; rw [hsc]; exact ih (i + 1) Q' (by omega)
    have h1 := hs S.2.2.1.1 0 Q0 (by omega)
    have h2 := hV.2.2.1
    show (scan S.2.2.1 S.2.2.1.1 0 Q0).1 < _
    omega
  generalize hrd : readF S.2.2.1 = R at *
  obtain ⟨i, oq⟩ := R
  cases oq with
  | none =>
    refine ⟨kf, fa, ?_, hRa, hga⟩
    refine v_p hT rfl rfl ?_
    refine v_getr hT rfl rfl (by omega) rfl ?_
    refine v_call hT [] rfl rfl (by first | rfl | assumption) (by omega) rfl rfl (Nat.le_of_ble_eq_true rfl) (Nat.le_of_ble_eq_true rfl) (r1) ?_
    refine v_p hT rfl rfl ?_
    refine g_cmp hT rfl (fun cq => ?_) (fun cq => ?_)
    · exfalso
      have cq : nI i = mI 1 := cq
      have h2 : nI 0 ≤ nI i := (cj_ge (a := i) (b := 0) (by have : i < 2 ^ 31 - 1 := hpl; omega) (by omega)).mpr (by omega)
      rw [cq] at h2
      revert h2
      decide
    · refine v_p hT rfl rfl ?_
      refine v_ret hT rfl (fun z => by cases z) rfl ⟨rfl, rfl⟩
  | some Q =>
    obtain ⟨hI0, hW⟩ := hok Q rfl
    have hQ := q1 Q rfl
    have h120 := hV.2.2.1
    have hI : qI Q 120 := ⟨by have := hI0.1; omega, by have := hI0.2.1; omega, hI0.2.2⟩
    have hno := hI.1
    obtain ⟨fb, r2, hRb, b1, k1⟩ := s_copyToTry (n := n) hV hRa
    have hQb : qR fb Q := by
      obtain ⟨x1, x2, x3, x4, x5, x6, x7⟩ := hQ
      exact ⟨by rw [k1 75 (by omega)]; exact x1, by rw [k1 75 (by omega)]; exact x2, by rw [k1 75 (by omega)]; exact x3, by rw [k1 75 (by omega)]; exact x4, fun k hk => by rw [k1 77 (by omega)]; exact x5 k hk, fun k hk => by rw [k1 78 (by omega)]; exact x6 k hk, fun k hk => by rw [k1 79 (by omega)]; exact x7 k hk⟩
    have start : ∀ Φ, Run n_X6_does 110 33 [some (.ref 0), some (.int (mI 1)), some (.int (nI 0))] [.int (nI (qNo Q)), .int (nI 0)] (HH n kf fb) Φ → Run n_X6_does 110 0 (ini n_X6_does [.ref 0]) [] (HH n kf f) Φ := by
      intro Φ hΦ
      refine v_p hT rfl rfl ?_
      refine v_getr hT rfl rfl (by omega) rfl ?_
      refine v_call hT [] rfl rfl (by first | rfl | assumption) (by omega) rfl rfl (Nat.le_of_ble_eq_true rfl) (Nat.le_of_ble_eq_true rfl) (r1) ?_
      refine v_p hT rfl rfl ?_
      refine g_cmp hT rfl (fun cq => ?_) (fun cq => ?_)
      · refine v_p hT rfl rfl ?_
        refine v_call hT [] rfl rfl (by first | rfl | assumption) (by omega) rfl rfl (Nat.le_of_ble_eq_true rfl) (Nat.le_of_ble_eq_true rfl) (r2) ?_
        refine v_p hT rfl rfl ?_
        refine v_getr hT rfl rfl (by omega) rfl ?_
        refine v_geti hT rfl (by first | rfl | assumption) (by omega) ?_
        rw [hQb.1]
        exact hΦ
      · exact absurd rfl cq
    have loop : ∀ d o, o + d = qNo Q → ∀ (F : Nat → Nat → Int32) (B : BK), bkR F 10 B → VB B → (∀ c, c < 10 ∨ 18 < c → F c = fb c) →
        ∃ kf2 f2, Run n_X6_does 110 33 [some (.ref 0), some (.int (mI 1)), some (.int (nI o))] [.int (nI (qNo Q)), .int (nI o)] (HH n kf F) (Ret (some (.int (match doS Q d o B with | (o, none) => (mI 1000 - nI o, S) | (_, some B) => chg S (nI (qNo Q), B) : Int32 × ST).1)) (HH n kf2 f2)) ∧ RepC kf2 f2 (match doS Q d o B with | (o, none) => (mI 1000 - nI o, S) | (_, some B) => chg S (nI (qNo Q), B) : Int32 × ST).2 ∧ ∀ c, 97 < c → f2 c = fb c := by
      intro d
      induction d with
      | zero =>
        intro o ho F B hB hVB hF
        obtain ⟨kf2, f3, r3, hR3, k3⟩ := s_settle (n := n) (kf := kf) (f := F) (S := S) (r := (nI (qNo Q), B)) hV (RepC_fr hV hRb (fun c hc => hF c (by omega)) (by rw [hF 75 (by omega)])) hVB hB (Or.inr (Or.inr (Or.inr ⟨qNo Q, by omega, rfl⟩)))
        refine ⟨kf2, f3, ?_, hR3, fun c hc => by rw [k3 c hc, hF c (by omega)]⟩
        refine g_cmp hT rfl (fun cq => ?_) (fun cq => ?_)
        · refine v_p hT rfl rfl ?_
          refine v_getr hT rfl rfl (by omega) rfl ?_
          refine v_geti hT rfl (by first | rfl | assumption) (by omega) ?_
          rw [hF 75 (by omega), hQb.1]
          refine v_call hT [.int (nI (qNo Q))] rfl rfl (by first | rfl | assumption) (by omega) rfl rfl (Nat.le_of_ble_eq_true rfl) (Nat.le_of_ble_eq_true rfl) (r3) ?_
          refine v_ret hT rfl (fun z => by cases z) rfl ⟨rfl, rfl⟩
        · exact absurd ((cj_ge (by omega) (by omega)).mpr (by omega)) cq
      | succ d ih =>
        intro o ho F B hB hVB hF
        have hQF : qR F Q := by
          obtain ⟨x1, x2, x3, x4, x5, x6, x7⟩ := hQb
          exact ⟨by rw [hF 75 (by omega)]; exact x1, by rw [hF 75 (by omega)]; exact x2, by rw [hF 75 (by omega)]; exact x3, by rw [hF 75 (by omega)]; exact x4, fun k hk => by rw [hF 77 (by omega)]; exact x5 k hk, fun k hk => by rw [hF 78 (by omega)]; exact x6 k hk, fun k hk => by rw [hF 79 (by omega)]; exact x7 k hk⟩
        obtain ⟨F2, e1, e2, e3⟩ := s_tryOrder (n := n) (kf := kf) (o := o) hQF hI hW (by omega) hB hVB (by rw [hF 1001 (by omega)]; exact hRb.2.2.2.2.2.1.1) (by rw [hF 1002 (by omega)]; exact hRb.2.2.2.2.2.1.2)
        have hF2 : ∀ c, c < 10 ∨ 18 < c → F2 c = fb c := fun c hc => by rw [e3 c hc, hF c hc]
        have hdo : doS Q (d + 1) o B = bif decide ((qOrd Q o B).1 < 0) then (o, none) else doS Q d (o + 1) (qOrd Q o B).2 := rfl
        rw [hdo]
        have st2 : ∀ Φ, Run n_X6_does 110 41 [some (.ref 0), some (.int (mI 1)), some (.int (nI o))] [.int (qOrd Q o B).1] (HH n kf F2) Φ → Run n_X6_does 110 33 [some (.ref 0), some (.int (mI 1)), some (.int (nI o))] [.int (nI (qNo Q)), .int (nI o)] (HH n kf F) Φ := by
          intro Φ hΦ
          refine g_cmp hT rfl (fun cq => ?_) (fun cq => ?_)
          · exact absurd ((cj_ge (by omega) (by omega)).mp cq) (by omega)
          · refine v_p hT rfl rfl ?_
            refine v_call hT [.int (nI o)] rfl rfl (by first | rfl | assumption) (by omega) rfl rfl (Nat.le_of_ble_eq_true rfl) (Nat.le_of_ble_eq_true rfl) (e1) ?_
            exact hΦ
        by_cases hc : (qOrd Q o B).1 < 0
        · rw [decide_eq_true hc]
          refine ⟨kf, F2, st2 _ ?_, RepC_fr hV hRb (fun c hc => hF2 c (by omega)) (by rw [hF2 75 (by omega)]), fun c hc => hF2 c (by omega)⟩
          refine g_if hT rfl (fun cq => ?_) (fun cq => ?_)
          · have cq : (0 : Int32) ≤ (qOrd Q o B).1 := cq
            exact absurd hc (Int32.not_lt.mpr cq)
          · refine v_p hT rfl rfl ?_
            refine v_ret hT rfl (fun z => by cases z) rfl ⟨rfl, rfl⟩
        · rw [decide_eq_false hc]
          obtain ⟨kf2, f2, g1, g2, g3⟩ := ih (o + 1) (by omega) F2 _ e2 (qOrd_ok hW (by omega) hVB).1 hF2
          refine ⟨kf2, f2, st2 _ ?_, g2, g3⟩
          refine g_if hT rfl (fun cq => ?_) (fun cq => ?_)
          · refine v_p hT rfl rfl ?_
            refine v_getr hT rfl rfl (by omega) rfl ?_
            refine v_geti hT rfl (by first | rfl | assumption) (by omega) ?_
            rw [hF2 75 (by omega), hQb.1]
            refine v_cv g1 ⟨rfl, rfl, ?_, trivial⟩ ?_ rfl
            · rw [nI_add]
            · rw [nI_add]
          · exact absurd (Int32.not_lt.mp hc) cq
    obtain ⟨kf2, f2, g1, g2, g3⟩ := loop (qNo Q) 0 (by omega) fb S.1 b1 hV.1 (fun _ _ => rfl)
    exact ⟨kf2, f2, start _ g1, g2, fun c hc => by rw [g3 c hc, k1 c (by omega), hga c hc]⟩
