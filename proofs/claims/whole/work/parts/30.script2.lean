/-! THE CLASS: the script's reading. -/
theorem s_takeFigure {n v : Nat} {kf : Nat → Nat} {f : Nat → Nat → Int32} {Q : QS} {i : Nat} (hR : qR f Q) (hI : qI Q i) (hi : i < 120) :
    ∃ f2, Run n_X4_takeFigure 110 0 (ini n_X4_takeFigure [.ref 75, .int (nI v)]) [] (HH n kf f) (Ret (some (.int (bI (qFig Q v).isSome))) (HH n kf f2)) ∧ (∀ Q', qFig Q v = some Q' → qR f2 Q') ∧ scF f f2 := by
  have hT : mT n_X4_takeFigure = tb_X4_takeFigure := rfl
  have hno := s_numbersOfOrder (n := n) (kf := kf) hR hI (by omega)
  obtain ⟨r1, r2, r3, r4, r5, r6, r7⟩ := hR
  obtain ⟨h1, h2, h3, h4, h5, h6⟩ := hI
  have hm : mostN (qKd Q) < 2 ^ 31 := by rcases mostN_or (qKd Q) with e | e | e | e | e <;> omega
  unfold qFig
  by_cases c5 : qKd Q = 0 ∨ 2 ≤ qFg Q
  · refine ⟨f, ?_, fun Q' z => ?_, fun _ _ _ _ _ => rfl, rfl⟩
    · rw [if_pos c5]
      refine v_p hT rfl rfl ?_
      refine v_geti hT rfl (by first | rfl | assumption) (by omega) ?_
      rw [r3]
      refine g_if hT rfl (fun cq => ?_) (fun cq => ?_)
      · refine v_p hT rfl rfl ?_
        refine v_ret hT rfl (fun _ => Or.inl rfl) rfl ⟨rfl, rfl⟩
      · have cq := (not_congr (cj_eq (b := 0) (by omega) (by omega))).mp cq
        refine v_p hT rfl rfl ?_
        refine v_geti hT rfl (by first | rfl | assumption) (by omega) ?_
        rw [r4]
        refine v_p hT rfl rfl ?_
        refine g_cmp hT rfl (fun cq2 => ?_) (fun cq2 => ?_)
        · have cq2 := (cj_lt (by omega) (by omega)).mp cq2
          omega
        · refine v_p hT rfl rfl ?_
          refine v_ret hT rfl (fun _ => Or.inl rfl) rfl ⟨rfl, rfl⟩
    · rw [if_pos c5] at z; cases z
  · rw [if_neg c5]
    have start : ∀ Φ, Run n_X4_takeFigure 110 22 [some (.ref 75), some (.int (nI v))] [.int (nI 1), .int (nI (qFg Q))] (HH n kf f) Φ → Run n_X4_takeFigure 110 0 (ini n_X4_takeFigure [.ref 75, .int (nI v)]) [] (HH n kf f) Φ := by
      intro Φ hΦ
      refine v_p hT rfl rfl ?_
      refine v_geti hT rfl (by first | rfl | assumption) (by omega) ?_
      rw [r3]
      refine g_if hT rfl (fun cq => ?_) (fun cq => ?_)
      · have cq := (cj_eq (b := 0) (by omega) (by omega)).mp cq
        omega
      · refine v_p hT rfl rfl ?_
        refine v_geti hT rfl (by first | rfl | assumption) (by omega) ?_
        rw [r4]
        refine v_p hT rfl rfl ?_
        refine g_cmp hT rfl (fun cq2 => ?_) (fun cq2 => ?_)
        · refine v_p hT rfl rfl ?_
          refine v_geti hT rfl (by first | rfl | assumption) (by omega) ?_
          rw [r4]
          refine v_p hT rfl rfl ?_
          exact hΦ
        · have cq2 := (not_congr (cj_lt (by omega) (by omega))).mp cq2
          omega
    by_cases c6 : qFg Q = 1
    · have h7 := h4 c6 (fun z => c5 (Or.inl z))
      refine ⟨hset (hset f 79 (qNn Q - 1) (nI (qNm Q (qNn Q - 1) * 10 + v))) 75 8 (nI 2), start _ ?_, fun Q' z => ?_, fun c x1 x2 x3 x4 => by rw [hset_ne x1, hset_ne x4], by simp [hset, upd]⟩
      · rw [if_pos c6]
        refine g_cmp hT rfl (fun cq => ?_) (fun cq => ?_)
        · have cq := (cj_ne (by omega) (by omega)).mp cq
          omega
        · refine v_p hT rfl rfl ?_
          refine v_getr hT rfl rfl (by omega) rfl ?_
          refine v_p hT rfl rfl ?_
          refine v_geti hT rfl (by first | rfl | assumption) (by omega) ?_
          rw [r2]
          refine v_p hT rfl rfl ?_
          refine v_getr hT rfl rfl (by omega) rfl ?_
          refine v_p hT rfl rfl ?_
          refine v_geti hT rfl (by first | rfl | assumption) (by omega) ?_
          rw [r2]
          refine v_p hT rfl rfl ?_
          rw [pk_sub (show 1 ≤ qNn Q by omega)]
          refine v_ald hT rfl (by first | assumption | rfl) (by omega) (by decide) (by omega) ?_
          rw [r7 _ (by omega)]
          refine v_p hT rfl rfl ?_
          rw [pk_mul, nI_add]
          refine v_ast hT rfl rfl (by omega) (by decide) (by omega) ?_
          refine v_p hT rfl rfl ?_
          refine v_puti hT rfl rfl (by omega) (fun z => by cases z) ?_
          refine v_p hT rfl rfl ?_
          refine v_ret hT rfl (fun _ => Or.inr rfl) rfl ⟨rfl, rfl⟩
      · rw [if_pos c6] at z
        cases z
        refine ⟨?_, ?_, ?_, ?_, fun k hk => ?_, fun k hk => ?_, fun k hk => ?_⟩
        · simp [hset, upd]; exact r1
        · simp [hset, upd]; exact r2
        · simp [hset, upd]; exact r3
        · simp [hset, upd]
        · rw [hset_ne (by omega), hset_ne (by omega)]; exact r5 k hk
        · rw [hset_ne (by omega), hset_ne (by omega)]; exact r6 k hk
        · rw [hset_ne (by omega), hs_s]
          show upd _ _ _ k = nI (updN (qNm Q) (qNn Q - 1) (qNm Q (qNn Q - 1) * 10 + v) k)
          unfold upd updN
          by_cases hkk : k = qNn Q - 1
          · rw [if_pos hkk, if_pos hkk]
          · rw [if_neg hkk, if_neg hkk]; exact r7 k hk
    · rw [if_neg c6]
      have start2 : ∀ Φ, Run n_X4_takeFigure 110 70 [some (.ref 75), some (.int (nI v))] [.int (nI (mostN (qKd Q))), .int (nI (qNn Q - qFr Q (qNo Q)))] (HH n kf f) Φ → Run n_X4_takeFigure 110 22 [some (.ref 75), some (.int (nI v))] [.int (nI 1), .int (nI (qFg Q))] (HH n kf f) Φ := by
        intro Φ hΦ
        refine g_cmp hT rfl (fun cq => ?_) (fun cq => ?_)
        · refine v_p hT rfl rfl ?_
          refine v_call hT [] rfl rfl (by first | rfl | assumption) (by omega) rfl rfl (Nat.le_of_ble_eq_true rfl) (Nat.le_of_ble_eq_true rfl) (hno) ?_
          refine v_p hT rfl rfl ?_
          refine v_geti hT rfl (by first | rfl | assumption) (by omega) ?_
          rw [r3]
          refine v_scall hT [.int (nI (qKd Q))] rfl rfl rfl rfl (Nat.le_of_ble_eq_true rfl) (Nat.le_of_ble_eq_true rfl) (s_mostNumbers h5) ?_
          exact hΦ
        · have cq := Classical.not_not.mp ((not_congr (cj_ne (by omega) (by omega))).mp cq)
          omega
      by_cases c7 : mostN (qKd Q) ≤ qNn Q - qFr Q (qNo Q)
      · refine ⟨f, start _ (start2 _ ?_), fun Q' z => ?_, fun _ _ _ _ _ => rfl, rfl⟩
        · rw [if_pos c7]
          refine g_cmp hT rfl (fun cq => ?_) (fun cq => ?_)
          · have cq := (cj_lt (by omega) (by omega)).mp cq
            omega
          · refine v_p hT rfl rfl ?_
            refine v_ret hT rfl (fun _ => Or.inl rfl) rfl ⟨rfl, rfl⟩
        · rw [if_pos c7] at z; cases z
      · refine ⟨hset (hset (hset f 79 (qNn Q) (nI v)) 75 6 (nI (qNn Q + 1))) 75 8 (nI 1), start _ (start2 _ ?_), fun Q' z => ?_, fun c x1 x2 x3 x4 => by rw [hset_ne x1, hset_ne x1, hset_ne x4], by simp [hset, upd]⟩
        · rw [if_neg c7]
          refine g_cmp hT rfl (fun cq => ?_) (fun cq => ?_)
          · refine v_p hT rfl rfl ?_
            refine v_getr hT rfl rfl (by omega) rfl ?_
            refine v_p hT rfl rfl ?_
            refine v_geti hT rfl (by first | rfl | assumption) (by omega) ?_
            rw [r2]
            refine v_p hT rfl rfl ?_
            refine v_ast hT rfl rfl (by omega) (by decide) (by omega) ?_
            refine v_p hT rfl rfl ?_
            refine v_geti hT rfl (by first | rfl | assumption) (by omega) ?_
            rw [hset_ne (by omega), r2]
            refine v_p hT rfl rfl ?_
            rw [nI_add]
            refine v_puti hT rfl rfl (by omega) (fun z => by cases z) ?_
            refine v_p hT rfl rfl ?_
            refine v_puti hT rfl rfl (by omega) (fun z => by cases z) ?_
            refine v_p hT rfl rfl ?_
            refine v_ret hT rfl (fun _ => Or.inr rfl) rfl ⟨rfl, rfl⟩
          · have cq := (not_congr (cj_lt (by omega) (by omega))).mp cq
            omega
        · rw [if_neg c7] at z
          cases z
          refine ⟨?_, ?_, ?_, ?_, fun k hk => ?_, fun k hk => ?_, fun k hk => ?_⟩
          · simp [hset, upd]; exact r1
          · simp [hset, upd]
          · simp [hset, upd]; exact r3
          · simp [hset, upd]
          · rw [hset_ne (by omega), hset_ne (by omega), hset_ne (by omega)]; exact r5 k hk
          · rw [hset_ne (by omega), hset_ne (by omega), hset_ne (by omega)]; exact r6 k hk
          · rw [hset_ne (by omega), hset_ne (by omega), hs_s]
            have hk : k < qNn Q + 1 := hk
            show upd _ _ _ k = nI (updN (qNm Q) (qNn Q) v k)
            unfold upd updN
            by_cases hkk : k = qNn Q
            · rw [if_pos hkk, if_pos hkk]
            · rw [if_neg hkk, if_neg hkk]; exact r7 k (by omega)
theorem dig_in {c : Nat} (hc : c < 128) : (decide (nI 48 ≤ nI c ∧ nI c ≤ nI 57)) = decide (48 ≤ c ∧ c ≤ 57) := by
  have h1 : nI 48 ≤ nI c ↔ 48 ≤ c := cj_le (a := 48) (b := c) (by omega) (by omega)
  have h2 : nI c ≤ nI 57 ↔ c ≤ 57 := cj_le (a := c) (b := 57) (by omega) (by omega)
  by_cases h : 48 ≤ c ∧ c ≤ 57
  · rw [decide_eq_true h, decide_eq_true ⟨h1.mpr h.1, h2.mpr h.2⟩]
  · rw [decide_eq_false h, decide_eq_false (fun z => h ⟨h1.mp z.1, h2.mp z.2⟩)]
theorem s_accepts {n c : Nat} {kf : Nat → Nat} {f : Nat → Nat → Int32} {Q : QS} {i : Nat} (hR : qR f Q) (hI : qI Q i) (hi : i < 120) (hc : c < 128) :
    ∃ f2, Run n_X4_accepts 110 0 (ini n_X4_accepts [.ref 75, .int (nI c)]) [] (HH n kf f) (Ret (some (.int (bI (qStep Q c).isSome))) (HH n kf f2)) ∧ (∀ Q', qStep Q c = some Q' → qR f2 Q') ∧ scF f f2 := by
  have hT : mT n_X4_accepts = tb_X4_accepts := rfl
  unfold qStep
  by_cases c1 : c = 32
  · rw [if_pos c1]
    refine ⟨hset f 75 8 (nI 0), ?_, fun Q' z => ?_, fun c x1 x2 x3 x4 => by rw [hset_ne x1], by simp [hset, upd]⟩
    · refine v_p hT rfl rfl ?_
      refine g_cmp hT rfl (fun cq => ?_) (fun cq => ?_)
      · exact absurd c1 ((cj_ne (by omega) (by omega)).mp cq)
      · refine v_p hT rfl rfl ?_
        refine v_puti hT rfl rfl (by omega) (fun z => by cases z) ?_
        refine v_p hT rfl rfl ?_
        refine v_ret hT rfl (fun _ => Or.inr rfl) rfl ⟨rfl, rfl⟩
    · cases z
      obtain ⟨r1, r2, r3, r4, r5, r6, r7⟩ := hR
      refine ⟨?_, ?_, ?_, ?_, fun k hk => ?_, fun k hk => ?_, fun k hk => ?_⟩
      · simp [hset, upd]; exact r1
      · simp [hset, upd]; exact r2
      · simp [hset, upd]; exact r3
      · simp [hset, upd, qSp]
      · rw [hset_ne (by omega)]; exact r5 k hk
      · rw [hset_ne (by omega)]; exact r6 k hk
      · rw [hset_ne (by omega)]; exact r7 k hk
  · rw [if_neg c1]
    by_cases c2 : c = 59
    · rw [if_pos c2]
      obtain ⟨f2, e1, e2, e3⟩ := s_endOrder (n := n) (kf := kf) hR hI hi
      refine ⟨f2, ?_, e2, e3⟩
      refine v_p hT rfl rfl ?_
      refine g_cmp hT rfl (fun cq => ?_) (fun cq => ?_)
      · refine v_p hT rfl rfl ?_
        refine g_cmp hT rfl (fun cq2 => ?_) (fun cq2 => ?_)
        · exact absurd c2 ((cj_ne (by omega) (by omega)).mp cq2)
        · refine v_p hT rfl rfl ?_
          refine v_call hT [] rfl rfl (by first | rfl | assumption) (by omega) rfl rfl (Nat.le_of_ble_eq_true rfl) (Nat.le_of_ble_eq_true rfl) (e1) ?_
          refine v_ret hT rfl (fun _ => bI_or _) rfl ⟨rfl, rfl⟩
      · exact absurd (Classical.not_not.mp ((not_congr (cj_ne (by omega) (by omega))).mp cq)) c1
    · rw [if_neg c2]
      have start : ∀ Φ, Run n_X4_accepts 110 32 [some (.ref 75), some (.int (nI c))] [.int (bI (decide (48 ≤ c ∧ c ≤ 57)))] (HH n kf f) Φ → Run n_X4_accepts 110 0 (ini n_X4_accepts [.ref 75, .int (nI c)]) [] (HH n kf f) Φ := by
        intro Φ hΦ
        refine v_p hT rfl rfl ?_
        refine g_cmp hT rfl (fun cq => ?_) (fun cq => ?_)
        · refine v_p hT rfl rfl ?_
          refine g_cmp hT rfl (fun cq2 => ?_) (fun cq2 => ?_)
          · refine v_p hT rfl rfl ?_
            refine v_scall hT [.int (nI c), .int (nI 48), .int (nI 57)] rfl rfl rfl rfl (Nat.le_of_ble_eq_true rfl) (Nat.le_of_ble_eq_true rfl) (s_within (nI c) (nI 48) (nI 57)) ?_
            rw [dig_in hc]
            exact hΦ
          · exact absurd (Classical.not_not.mp ((not_congr (cj_ne (by omega) (by omega))).mp cq2)) c2
        · exact absurd (Classical.not_not.mp ((not_congr (cj_ne (by omega) (by omega))).mp cq)) c1
      by_cases c4 : 48 ≤ c ∧ c ≤ 57
      · rw [if_pos c4]
        obtain ⟨f2, e1, e2, e3⟩ := s_takeFigure (n := n) (kf := kf) (v := c - 48) hR hI hi
        refine ⟨f2, start _ ?_, e2, e3⟩
        refine g_if hT rfl (fun cq => ?_) (fun cq => ?_)
        · have cq := bf_of cq
          rw [decide_eq_true c4] at cq
          cases cq
        · refine v_p hT rfl rfl ?_
          rw [pk_sub c4.1]
          refine v_call hT [.int (nI (c - 48))] rfl rfl (by first | rfl | assumption) (by omega) rfl rfl (Nat.le_of_ble_eq_true rfl) (Nat.le_of_ble_eq_true rfl) (e1) ?_
          refine v_ret hT rfl (fun _ => bI_or _) rfl ⟨rfl, rfl⟩
      · rw [if_neg c4]
        obtain ⟨f2, e1, e2, e3⟩ := s_beginOrder (n := n) (kf := kf) hR hI hc
        refine ⟨f2, start _ ?_, e2, e3⟩
        refine g_if hT rfl (fun cq => ?_) (fun cq => ?_)
        · refine v_p hT rfl rfl ?_
          refine v_call hT [.int (nI c)] rfl rfl (by first | rfl | assumption) (by omega) rfl rfl (Nat.le_of_ble_eq_true rfl) (Nat.le_of_ble_eq_true rfl) (e1) ?_
          refine v_ret hT rfl (fun _ => bI_or _) rfl ⟨rfl, rfl⟩
        · have cq := bt_of cq
          rw [decide_eq_false c4] at cq
          cases cq
/-- the text: its length and its bytes -/
abbrev TX : Type := Nat × (Nat → Nat)
def VT (t : TX) : Prop := t.1 ≤ 120 ∧ ∀ k, k < t.1 → t.2 k < 128
/-- the reading from i on: a fault's place, or all that was read -/
def scan (t : TX) : Nat → Nat → QS → Nat × Option QS
  | 0, _, Q => if ¬ qKd Q = 0 ∨ qNo Q = 0 then (t.1, none) else (t.1, some Q)
  | d + 1, i, Q => match qStep Q (t.2 i) with
    | none => (i, none)
    | some Q' => scan t d (i + 1) Q'
def Q0 : QS := (0, 0, 0, 0, fun _ => 0, fun _ => 0, fun _ => 0)
def readF (t : TX) : Nat × Option QS := scan t t.1 0 Q0
def txR (f : Nat → Nat → Int32) (t : TX) : Prop := f 75 1 = nI t.1 ∧ ∀ k, k < t.1 → f 76 k = nI (t.2 k)
theorem s_read {n : Nat} {kf : Nat → Nat} {f : Nat → Nat → Int32} {t : TX} (hV : VT t) (hR : txR f t) :
    ∃ f2, Run n_X4_read 110 0 (ini n_X4_read [.ref 75]) [] (HH n kf f) (Ret (some (.int (bif (readF t).2.isSome then mI 1 else nI (readF t).1))) (HH n kf f2)) ∧ (∀ Q, (readF t).2 = some Q → qR f2 Q) ∧ scF f f2 := by
  have hT : mT n_X4_read = tb_X4_read := rfl
  obtain ⟨v1, v2⟩ := hV
  obtain ⟨t1, t2⟩ := hR
  have loop : ∀ d i, i + d = t.1 → ∀ (F : Nat → Nat → Int32) (Q : QS), scF f F → qR F Q → qI Q i →
      ∃ f2, Run n_X4_read 110 34 [some (.ref 75), some (.int (nI i))] [.int (nI t.1), .int (nI i)] (HH n kf F) (Ret (some (.int (bif (scan t d i Q).2.isSome then mI 1 else nI (scan t d i Q).1))) (HH n kf f2)) ∧ (∀ Q2, (scan t d i Q).2 = some Q2 → qR f2 Q2) ∧ scF f f2 := by
    intro d
    induction d with
    | zero =>
      intro i hi F Q hF hQ hI
      have hno := hI.1
      have hkd := hI.2.2.2.2.1
      have h75 : F 75 1 = nI t.1 := by rw [hF.2, t1]
      refine ⟨F, ?_, fun Q2 z => ?_, hF⟩
      · show Run _ _ _ _ _ _ (Ret (some (.int (bif (if ¬ qKd Q = 0 ∨ qNo Q = 0 then (t.1, none) else (t.1, some Q) : Nat × Option QS).2.isSome then mI 1 else nI (if ¬ qKd Q = 0 ∨ qNo Q = 0 then (t.1, none) else (t.1, some Q) : Nat × Option QS).1))) _)
        refine g_cmp hT rfl (fun cq => ?_) (fun cq => ?_)
        · refine v_p hT rfl rfl ?_
          refine v_geti hT rfl (by first | rfl | assumption) (by omega) ?_
          rw [hQ.2.2.1]
          refine g_if hT rfl (fun cq2 => ?_) (fun cq2 => ?_)
          · have cq2 := (cj_ne (b := 0) (by omega) (by omega)).mp cq2
            rw [if_pos (Or.inl cq2)]
            refine v_p hT rfl rfl ?_
            refine v_geti hT rfl (by first | rfl | assumption) (by omega) ?_
            rw [h75]
            refine v_p hT rfl rfl ?_
            refine v_ret hT rfl (fun z => by cases z) rfl ⟨rfl, rfl⟩
          · have cq2 := Classical.not_not.mp ((not_congr (cj_ne (b := 0) (by omega) (by omega))).mp cq2)
            refine v_p hT rfl rfl ?_
            refine v_geti hT rfl (by first | rfl | assumption) (by omega) ?_
            rw [hQ.1]
            refine g_if hT rfl (fun cq3 => ?_) (fun cq3 => ?_)
            · have cq3 := (cj_ne (b := 0) (by omega) (by omega)).mp cq3
              rw [if_neg (by omega)]
              refine v_p hT rfl rfl ?_
              refine v_ret hT rfl (fun z => by cases z) rfl ⟨rfl, rfl⟩
            · have cq3 := Classical.not_not.mp ((not_congr (cj_ne (b := 0) (by omega) (by omega))).mp cq3)
              rw [if_pos (Or.inr cq3)]
              refine v_p hT rfl rfl ?_
              refine v_geti hT rfl (by first | rfl | assumption) (by omega) ?_
              rw [h75]
              refine v_p hT rfl rfl ?_
              refine v_ret hT rfl (fun z => by cases z) rfl ⟨rfl, rfl⟩
        · exact absurd ((cj_ge (by omega) (by omega)).mpr (by omega)) cq
      · have z : (if ¬ qKd Q = 0 ∨ qNo Q = 0 then (t.1, none) else (t.1, some Q) : Nat × Option QS).2 = some Q2 := z
        by_cases hc : ¬ qKd Q = 0 ∨ qNo Q = 0
        · rw [if_pos hc] at z; cases z
        · rw [if_neg hc] at z; cases z; exact hQ
    | succ d ih =>
      intro i hi F Q hF hQ hI
      have h75 : F 75 1 = nI t.1 := by rw [hF.2, t1]
      have h76 : F 76 i = nI (t.2 i) := by rw [hF.1 76 (by omega) (by omega) (by omega) (by omega)]; exact t2 i (by omega)
      obtain ⟨g, e1, e2, e3⟩ := s_accepts (n := n) (kf := kf) (c := t.2 i) hQ hI (by omega) (v2 i (by omega))
      have hg : scF f g := ⟨fun c x1 x2 x3 x4 => by rw [e3.1 c x1 x2 x3 x4, hF.1 c x1 x2 x3 x4], by rw [e3.2, hF.2]⟩
      have start : ∀ Φ, Run n_X4_read 110 47 [some (.ref 75), some (.int (nI i))] [.int (bI (qStep Q (t.2 i)).isSome)] (HH n kf g) Φ → Run n_X4_read 110 34 [some (.ref 75), some (.int (nI i))] [.int (nI t.1), .int (nI i)] (HH n kf F) Φ := by
        intro Φ hΦ
        refine g_cmp hT rfl (fun cq => ?_) (fun cq => ?_)
        · exact absurd ((cj_ge (by omega) (by omega)).mp cq) (by omega)
        · refine v_p hT rfl rfl ?_
          refine v_getr hT rfl rfl (by omega) rfl ?_
          refine v_p hT rfl rfl ?_
          refine v_bld hT rfl (by first | assumption | rfl) (by decide) (by omega) (by decide) (by omega) ?_
          rw [h76]
          refine v_call hT [.int (nI (t.2 i))] rfl rfl (by first | rfl | assumption) (by omega) rfl rfl (Nat.le_of_ble_eq_true rfl) (Nat.le_of_ble_eq_true rfl) (e1) ?_
          exact hΦ
      have hsc : scan t (d + 1) i Q = match qStep Q (t.2 i) with | none => (i, none) | some Q' => scan t d (i + 1) Q' := rfl
      cases hst : qStep Q (t.2 i) with
      | none =>
        rw [hst] at hsc start
        rw [hsc]
        refine ⟨g, start _ ?_, (fun Q2 z => by cases z), hg⟩
        refine g_if hT rfl (fun cq => ?_) (fun cq => ?_)
        · exact absurd rfl cq
        · refine v_p hT rfl rfl ?_
          refine v_ret hT rfl (fun z => by cases z) rfl ⟨rfl, rfl⟩
      | some Q' =>
        rw [hst] at hsc start
        rw [hsc]
        obtain ⟨f2, g1, g2, g3⟩ := ih (i + 1) (by omega) g Q' hg (e2 Q' hst) (qI_step hI (v2 i (by omega)) hst)
        refine ⟨f2, start _ ?_, g2, g3⟩
        refine g_if hT rfl (fun cq => ?_) (fun cq => ?_)
        · refine v_p hT rfl rfl ?_
          refine v_geti hT rfl (by first | rfl | assumption) (by omega) ?_
          rw [hg.2, t1]
          refine v_cv g1 ⟨rfl, ?_, trivial⟩ ?_ rfl
          · rw [nI_add]
          · rw [nI_add]
        · exact absurd (show ¬ (1 : Int32) = 0 by decide) cq
  obtain ⟨f2, g1, g2, g3⟩ := loop t.1 0 (by omega) (hset (hset (hset (hset (hset f 75 5 (nI 0)) 75 6 (nI 0)) 75 7 (nI 0)) 75 8 (nI 0)) 78 0 (nI 0)) Q0 ⟨fun c x1 x2 x3 x4 => by rw [hset_ne x3, hset_ne x1, hset_ne x1, hset_ne x1, hset_ne x1], by simp [hset, upd]⟩ ⟨by simp [hset, upd, Q0], by simp [hset, upd, Q0], by simp [hset, upd, Q0], by simp [hset, upd, Q0], fun k hk => absurd hk (Nat.not_lt_zero _), fun k hk => by rw [Nat.le_zero.mp hk]; simp [hset, upd, Q0], fun k hk => absurd hk (Nat.not_lt_zero _)⟩ ⟨Nat.le_refl _, Nat.le_refl _, Nat.le_refl _, fun z => (by cases z), by show 0 < 128; omega, Nat.zero_le _⟩
  refine ⟨f2, ?_, g2, g3⟩
  refine v_p hT rfl rfl ?_
  refine v_puti hT rfl rfl (by omega) (fun z => by cases z) ?_
  refine v_p hT rfl rfl ?_
  refine v_puti hT rfl rfl (by omega) (fun z => by cases z) ?_
  refine v_p hT rfl rfl ?_
  refine v_puti hT rfl rfl (by omega) (fun z => by cases z) ?_
  refine v_p hT rfl rfl ?_
  refine v_puti hT rfl rfl (by omega) (fun z => by cases z) ?_
  refine v_p hT rfl rfl ?_
  refine v_getr hT rfl rfl (by omega) rfl ?_
  refine v_p hT rfl rfl ?_
  refine v_ast hT rfl rfl (by omega) (by decide) (by omega) ?_
  refine v_p hT rfl rfl ?_
  refine v_geti hT rfl (by first | rfl | assumption) (by omega) ?_
  rw [hset_ne (by omega)]
  have h75 : hset (hset (hset (hset f 75 5 (nI 0)) 75 6 (nI 0)) 75 7 (nI 0)) 75 8 (nI 0) 75 1 = nI t.1 := by simp [hset, upd]; exact t1
  rw [h75]
  exact g1
def tAdd (t : TX) (c : Nat) : TX := (t.1 + 1, fun k => if k = t.1 then c else t.2 k)
theorem nar_b : ∀ c, c < 128 → vp_nar .byte ((nI c).toInt8.toInt32) = nI c := by decide +kernel
theorem s_append {n c : Nat} {kf : Nat → Nat} {f : Nat → Nat → Int32} {t : TX} (hV : VT t) (hR : txR f t) (hc : c < 128) :
    ∃ f2, Run n_X4_append 110 0 (ini n_X4_append [.ref 75, .int (nI c)]) [] (HH n kf f) (Ret (some (.int (bI (decide (t.1 < 120))))) (HH n kf f2)) ∧ txR f2 (if t.1 < 120 then tAdd t c else t) ∧ ∀ c, c ≠ 75 → c ≠ 76 → f2 c = f c := by
  have hT : mT n_X4_append = tb_X4_append := rfl
  obtain ⟨v1, v2⟩ := hV
  obtain ⟨t1, t2⟩ := hR
  by_cases h : t.1 < 120
  · rw [if_pos h, decide_eq_true h]
    refine ⟨hset (hset f 76 t.1 (nI c)) 75 1 (nI (t.1 + 1)), ?_, ⟨?_, fun k hk => ?_⟩, fun q x1 x2 => by rw [hset_ne x1, hset_ne x2]⟩
    · refine v_p hT rfl rfl ?_
      refine v_geti hT rfl (by first | rfl | assumption) (by omega) ?_
      rw [t1]
      refine v_p hT rfl rfl ?_
      refine g_cmp hT rfl (fun cq => ?_) (fun cq => ?_)
      · refine v_p hT rfl rfl ?_
        refine v_getr hT rfl rfl (by omega) rfl ?_
        refine v_p hT rfl rfl ?_
        refine v_geti hT rfl (by first | rfl | assumption) (by omega) ?_
        rw [t1]
        refine v_p hT rfl rfl ?_
        refine v_bst hT rfl rfl (by omega) (by omega) h ?_
        rw [nar_b c hc]
        refine v_p hT rfl rfl ?_
        refine v_geti hT rfl (by first | rfl | assumption) (by omega) ?_
        rw [hset_ne (by omega), t1]
        refine v_p hT rfl rfl ?_
        rw [nI_add]
        refine v_puti hT rfl rfl (by omega) (fun z => by cases z) ?_
        refine v_p hT rfl rfl ?_
        refine v_ret hT rfl (fun _ => Or.inr rfl) rfl ⟨rfl, rfl⟩
      · exact absurd ((cj_lt (by omega) (by omega)).mpr h) cq
    · rw [hs_s]; simp [upd, tAdd]
    · rw [hset_ne (by omega), hs_s]
      have hk : k < t.1 + 1 := hk
      show upd _ _ _ k = nI (if k = t.1 then c else t.2 k)
      unfold upd
      by_cases hkk : k = t.1
      · rw [if_pos hkk, if_pos hkk]
      · rw [if_neg hkk, if_neg hkk]; exact t2 k (by omega)
  · rw [if_neg h, decide_eq_false h]
    refine ⟨f, ?_, ⟨t1, t2⟩, fun _ _ _ => rfl⟩
    refine v_p hT rfl rfl ?_
    refine v_geti hT rfl (by first | rfl | assumption) (by omega) ?_
    rw [t1]
    refine v_p hT rfl rfl ?_
    refine g_cmp hT rfl (fun cq => ?_) (fun cq => ?_)
    · exact absurd ((cj_lt (by omega) (by omega)).mp cq) h
    · refine v_p hT rfl rfl ?_
      refine v_ret hT rfl (fun _ => Or.inl rfl) rfl ⟨rfl, rfl⟩
