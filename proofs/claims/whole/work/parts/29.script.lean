/-! THE CLASS: the script. -/
def mostN (c : Nat) : Nat := if c = 97 ∨ c = 98 then 12 else if c = 116 then 3 else if c = 119 then 2 else if c = 104 ∨ c = 108 ∨ c = 115 then 1 else 0
def leastN (c : Nat) : Nat := if c = 97 ∨ c = 98 then 1 else mostN c
def mostPc (c : Nat) : Nat := if mostN c = 12 then 108 else if mostN c = 3 then 111 else if mostN c = 2 then 113 else if mostN c = 1 then 115 else 117
theorem most_sw : ∀ c, c < 128 → swt 0 (nI c) = mostPc c := by decide
theorem mostN_or (c : Nat) : mostN c = 12 ∨ mostN c = 3 ∨ mostN c = 2 ∨ mostN c = 1 ∨ mostN c = 0 := by
  unfold mostN
  by_cases h1 : c = 97 ∨ c = 98
  · rw [if_pos h1]; omega
  · rw [if_neg h1]
    by_cases h2 : c = 116
    · rw [if_pos h2]; omega
    · rw [if_neg h2]
      by_cases h3 : c = 119
      · rw [if_pos h3]; omega
      · rw [if_neg h3]
        by_cases h4 : c = 104 ∨ c = 108 ∨ c = 115
        · rw [if_pos h4]; omega
        · rw [if_neg h4]; omega
theorem s_mostNumbers {n c : Nat} {kf : Nat → Nat} {f : Nat → Nat → Int32} (hc : c < 128) : Run n_X4_mostNumbers 110 0 (ini n_X4_mostNumbers [.int (nI c)]) [] (HH n kf f) (Ret (some (.int (nI (mostN c)))) (HH n kf f)) := by
  have hT : mT n_X4_mostNumbers = tb_X4_mostNumbers := rfl
  have hsw := most_sw c hc
  unfold mostPc at hsw
  refine v_p hT rfl rfl ?_
  refine g_sw hT rfl (Or.inl rfl) hsw ?_
  rcases mostN_or c with e | e | e | e | e <;> rw [e] <;> refine v_p hT rfl rfl ?_ <;> refine v_ret hT rfl (fun z => by cases z) rfl ⟨rfl, rfl⟩
theorem s_leastNumbers {n c : Nat} {kf : Nat → Nat} {f : Nat → Nat → Int32} (hc : c < 128) : Run n_X4_leastNumbers 110 0 (ini n_X4_leastNumbers [.int (nI c)]) [] (HH n kf f) (Ret (some (.int (nI (leastN c)))) (HH n kf f)) := by
  have hT : mT n_X4_leastNumbers = tb_X4_leastNumbers := rfl
  unfold leastN
  refine v_p hT rfl rfl ?_
  refine g_cmp hT rfl (fun cq => ?_) (fun cq => ?_)
  · have cq := (cj_eq (by omega) (by omega)).mp cq
    rw [if_pos (Or.inl cq)]
    refine v_p hT rfl rfl ?_
    refine v_ret hT rfl (fun z => by cases z) rfl ⟨rfl, rfl⟩
  · have cq := (not_congr (cj_eq (by omega) (by omega))).mp cq
    refine v_p hT rfl rfl ?_
    refine g_cmp hT rfl (fun cq2 => ?_) (fun cq2 => ?_)
    · have cq2 := (cj_ne (by omega) (by omega)).mp cq2
      rw [if_neg (by omega)]
      refine v_p hT rfl rfl ?_
      refine v_scall hT [.int (nI c)] rfl rfl rfl rfl (Nat.le_of_ble_eq_true rfl) (Nat.le_of_ble_eq_true rfl) (s_mostNumbers hc) ?_
      refine v_ret hT rfl (fun z => by cases z) rfl ⟨rfl, rfl⟩
    · have cq2 := Classical.not_not.mp ((not_congr (cj_ne (by omega) (by omega))).mp cq2)
      rw [if_pos (Or.inr cq2)]
      refine v_p hT rfl rfl ?_
      refine v_ret hT rfl (fun z => by cases z) rfl ⟨rfl, rfl⟩
abbrev QS : Type := Nat × Nat × Nat × Nat × (Nat → Nat) × (Nat → Nat) × (Nat → Nat)
abbrev qNo (Q : QS) : Nat := Q.1
abbrev qNn (Q : QS) : Nat := Q.2.1
abbrev qKd (Q : QS) : Nat := Q.2.2.1
abbrev qFg (Q : QS) : Nat := Q.2.2.2.1
abbrev qKs (Q : QS) : Nat → Nat := Q.2.2.2.2.1
abbrev qFr (Q : QS) : Nat → Nat := Q.2.2.2.2.2.1
abbrev qNm (Q : QS) : Nat → Nat := Q.2.2.2.2.2.2
def updN (g : Nat → Nat) (k v : Nat) : Nat → Nat := fun i => if i = k then v else g i
def qEnd (Q : QS) : Option QS := if qKd Q = 0 ∨ qNn Q - qFr Q (qNo Q) < leastN (qKd Q) then none else some (qNo Q + 1, qNn Q, 0, qFg Q, updN (qKs Q) (qNo Q) (qKd Q), updN (qFr Q) (qNo Q + 1) (qNn Q), qNm Q)
def qFig (Q : QS) (v : Nat) : Option QS := if qKd Q = 0 ∨ 2 ≤ qFg Q then none else if qFg Q = 1 then some (qNo Q, qNn Q, qKd Q, 2, qKs Q, qFr Q, updN (qNm Q) (qNn Q - 1) (qNm Q (qNn Q - 1) * 10 + v)) else if mostN (qKd Q) ≤ qNn Q - qFr Q (qNo Q) then none else some (qNo Q, qNn Q + 1, qKd Q, 1, qKs Q, qFr Q, updN (qNm Q) (qNn Q) v)
def qBeg (Q : QS) (c : Nat) : Option QS := if ¬ qKd Q = 0 ∨ mostN c = 0 then none else some (qNo Q, qNn Q, c, 0, qKs Q, qFr Q, qNm Q)
def qSp (Q : QS) : QS := (qNo Q, qNn Q, qKd Q, 0, qKs Q, qFr Q, qNm Q)
def qStep (Q : QS) (c : Nat) : Option QS := if c = 32 then some (qSp Q) else if c = 59 then qEnd Q else if 48 ≤ c ∧ c ≤ 57 then qFig Q (c - 48) else qBeg Q c
def qR (f : Nat → Nat → Int32) (Q : QS) : Prop := f 75 5 = nI (qNo Q) ∧ f 75 6 = nI (qNn Q) ∧ f 75 7 = nI (qKd Q) ∧ f 75 8 = nI (qFg Q) ∧ (∀ k, k < qNo Q → f 77 k = nI (qKs Q k)) ∧ (∀ k, k ≤ qNo Q → f 78 k = nI (qFr Q k)) ∧ ∀ k, k < qNn Q → f 79 k = nI (qNm Q k)
def qI (Q : QS) (i : Nat) : Prop := qNo Q ≤ i ∧ qNn Q ≤ i ∧ qFr Q (qNo Q) ≤ qNn Q ∧ (qFg Q = 1 → ¬ qKd Q = 0 → qFr Q (qNo Q) < qNn Q) ∧ qKd Q < 128 ∧ qFg Q ≤ 2
theorem qI_step {Q Q' : QS} {c i : Nat} (h : qI Q i) (hc : c < 128) (hs : qStep Q c = some Q') : qI Q' (i + 1) := by
  obtain ⟨h1, h2, h3, h4, h5, h6⟩ := h
  unfold qStep at hs
  by_cases c1 : c = 32
  · rw [if_pos c1] at hs
    cases hs
    exact ⟨by show qNo Q ≤ i + 1; omega, by show qNn Q ≤ i + 1; omega, h3, fun z => (by cases z), h5, Nat.zero_le _⟩
  · rw [if_neg c1] at hs
    by_cases c2 : c = 59
    · rw [if_pos c2] at hs
      unfold qEnd at hs
      by_cases c3 : qKd Q = 0 ∨ qNn Q - qFr Q (qNo Q) < leastN (qKd Q)
      · rw [if_pos c3] at hs; cases hs
      · rw [if_neg c3] at hs
        cases hs
        refine ⟨by show qNo Q + 1 ≤ i + 1; omega, by show qNn Q ≤ i + 1; omega, ?_, fun _ z => absurd rfl z, by show 0 < 128; omega, h6⟩
        show updN (qFr Q) (qNo Q + 1) (qNn Q) (qNo Q + 1) ≤ qNn Q
        unfold updN
        rw [if_pos rfl]
        exact Nat.le_refl _
    · rw [if_neg c2] at hs
      by_cases c4 : 48 ≤ c ∧ c ≤ 57
      · rw [if_pos c4] at hs
        unfold qFig at hs
        by_cases c5 : qKd Q = 0 ∨ 2 ≤ qFg Q
        · rw [if_pos c5] at hs; cases hs
        · rw [if_neg c5] at hs
          by_cases c6 : qFg Q = 1
          · rw [if_pos c6] at hs
            cases hs
            exact ⟨by show qNo Q ≤ i + 1; omega, by show qNn Q ≤ i + 1; omega, h3, fun z => (by cases z), h5, Nat.le_refl _⟩
          · rw [if_neg c6] at hs
            by_cases c7 : mostN (qKd Q) ≤ qNn Q - qFr Q (qNo Q)
            · rw [if_pos c7] at hs; cases hs
            · rw [if_neg c7] at hs
              cases hs
              exact ⟨by show qNo Q ≤ i + 1; omega, by show qNn Q + 1 ≤ i + 1; omega, by show qFr Q (qNo Q) ≤ qNn Q + 1; omega, fun _ _ => by show qFr Q (qNo Q) < qNn Q + 1; omega, h5, by show 1 ≤ 2; omega⟩
      · rw [if_neg c4] at hs
        unfold qBeg at hs
        by_cases c8 : ¬ qKd Q = 0 ∨ mostN c = 0
        · rw [if_pos c8] at hs; cases hs
        · rw [if_neg c8] at hs
          cases hs
          exact ⟨by show qNo Q ≤ i + 1; omega, by show qNn Q ≤ i + 1; omega, h3, fun z => (by cases z), hc, Nat.zero_le _⟩
/-- what a step of the script leaves alone -/
def scF (f f2 : Nat → Nat → Int32) : Prop := (∀ c, c ≠ 75 → c ≠ 77 → c ≠ 78 → c ≠ 79 → f2 c = f c) ∧ f2 75 1 = f 75 1
theorem s_numbersOfOrder {n : Nat} {kf : Nat → Nat} {f : Nat → Nat → Int32} {Q : QS} {i : Nat} (hR : qR f Q) (hI : qI Q i) (hi : i ≤ 120) :
    Run n_X4_numbersOfOrder 110 0 (ini n_X4_numbersOfOrder [.ref 75]) [] (HH n kf f) (Ret (some (.int (nI (qNn Q - qFr Q (qNo Q))))) (HH n kf f)) := by
  have hT : mT n_X4_numbersOfOrder = tb_X4_numbersOfOrder := rfl
  obtain ⟨r1, r2, r3, r4, r5, r6, r7⟩ := hR
  obtain ⟨h1, h2, h3, h4, h5, h6⟩ := hI
  have r6' := r6 (qNo Q) (Nat.le_refl _)
  refine v_p hT rfl rfl ?_
  refine v_geti hT rfl (by first | rfl | assumption) (by omega) ?_
  rw [r2]
  refine v_p hT rfl rfl ?_
  refine v_getr hT rfl rfl (by omega) rfl ?_
  refine v_p hT rfl rfl ?_
  refine v_geti hT rfl (by first | rfl | assumption) (by omega) ?_
  rw [r1]
  refine v_ald hT rfl (by first | assumption | rfl) (by omega) (by decide) (by omega) ?_
  rw [r6']
  refine v_p hT rfl rfl ?_
  rw [pk_sub h3]
  refine v_ret hT rfl (fun z => by cases z) rfl ⟨rfl, rfl⟩
theorem s_beginOrder {n c : Nat} {kf : Nat → Nat} {f : Nat → Nat → Int32} {Q : QS} {i : Nat} (hR : qR f Q) (hI : qI Q i) (hc : c < 128) :
    ∃ f2, Run n_X4_beginOrder 110 0 (ini n_X4_beginOrder [.ref 75, .int (nI c)]) [] (HH n kf f) (Ret (some (.int (bI (qBeg Q c).isSome))) (HH n kf f2)) ∧ (∀ Q', qBeg Q c = some Q' → qR f2 Q') ∧ scF f f2 := by
  have hT : mT n_X4_beginOrder = tb_X4_beginOrder := rfl
  obtain ⟨r1, r2, r3, r4, r5, r6, r7⟩ := hR
  obtain ⟨h1, h2, h3, h4, h5, h6⟩ := hI
  unfold qBeg
  by_cases c8 : ¬ qKd Q = 0 ∨ mostN c = 0
  · refine ⟨f, ?_, fun Q' z => ?_, fun _ _ _ _ _ => rfl, rfl⟩
    · rw [if_pos c8]
      refine v_p hT rfl rfl ?_
      refine v_geti hT rfl (by first | rfl | assumption) (by omega) ?_
      rw [r3]
      refine g_if hT rfl (fun cq => ?_) (fun cq => ?_)
      · refine v_p hT rfl rfl ?_
        refine v_ret hT rfl (fun _ => Or.inl rfl) rfl ⟨rfl, rfl⟩
      · have cq := Classical.not_not.mp ((not_congr (cj_ne (b := 0) (by omega) (by omega))).mp cq)
        refine v_p hT rfl rfl ?_
        refine v_scall hT [.int (nI c)] rfl rfl rfl rfl (Nat.le_of_ble_eq_true rfl) (Nat.le_of_ble_eq_true rfl) (s_mostNumbers hc) ?_
        refine g_if hT rfl (fun cq2 => ?_) (fun cq2 => ?_)
        · have cq2 := (cj_ne (b := 0) (by rcases mostN_or c with e | e | e | e | e <;> omega) (by omega)).mp cq2
          omega
        · refine v_p hT rfl rfl ?_
          refine v_ret hT rfl (fun _ => Or.inl rfl) rfl ⟨rfl, rfl⟩
    · rw [if_pos c8] at z; cases z
  · refine ⟨hset (hset f 75 7 (nI c)) 75 8 (nI 0), ?_, fun Q' z => ?_, fun c x1 _ _ _ => by rw [hset_ne x1, hset_ne x1], by simp [hset, upd]⟩
    · rw [if_neg c8]
      refine v_p hT rfl rfl ?_
      refine v_geti hT rfl (by first | rfl | assumption) (by omega) ?_
      rw [r3]
      refine g_if hT rfl (fun cq => ?_) (fun cq => ?_)
      · have cq := (cj_ne (b := 0) (by omega) (by omega)).mp cq
        omega
      · refine v_p hT rfl rfl ?_
        refine v_scall hT [.int (nI c)] rfl rfl rfl rfl (Nat.le_of_ble_eq_true rfl) (Nat.le_of_ble_eq_true rfl) (s_mostNumbers hc) ?_
        refine g_if hT rfl (fun cq2 => ?_) (fun cq2 => ?_)
        · refine v_p hT rfl rfl ?_
          refine v_puti hT rfl rfl (by omega) (fun z => by cases z) ?_
          refine v_p hT rfl rfl ?_
          refine v_puti hT rfl rfl (by omega) (fun z => by cases z) ?_
          refine v_p hT rfl rfl ?_
          refine v_ret hT rfl (fun _ => Or.inr rfl) rfl ⟨rfl, rfl⟩
        · have cq2 := Classical.not_not.mp ((not_congr (cj_ne (b := 0) (by rcases mostN_or c with e | e | e | e | e <;> omega) (by omega))).mp cq2)
          omega
    · rw [if_neg c8] at z
      cases z
      refine ⟨?_, ?_, ?_, ?_, fun k hk => ?_, fun k hk => ?_, fun k hk => ?_⟩
      · simp [hset, upd]; exact r1
      · simp [hset, upd]; exact r2
      · simp [hset, upd]
      · simp [hset, upd]
      · rw [hset_ne (by omega), hset_ne (by omega)]; exact r5 k hk
      · rw [hset_ne (by omega), hset_ne (by omega)]; exact r6 k hk
      · rw [hset_ne (by omega), hset_ne (by omega)]; exact r7 k hk
theorem s_endOrder {n : Nat} {kf : Nat → Nat} {f : Nat → Nat → Int32} {Q : QS} {i : Nat} (hR : qR f Q) (hI : qI Q i) (hi : i < 120) :
    ∃ f2, Run n_X4_endOrder 110 0 (ini n_X4_endOrder [.ref 75]) [] (HH n kf f) (Ret (some (.int (bI (qEnd Q).isSome))) (HH n kf f2)) ∧ (∀ Q', qEnd Q = some Q' → qR f2 Q') ∧ scF f f2 := by
  have hT : mT n_X4_endOrder = tb_X4_endOrder := rfl
  have hno := s_numbersOfOrder (n := n) (kf := kf) hR hI (by omega)
  obtain ⟨r1, r2, r3, r4, r5, r6, r7⟩ := hR
  obtain ⟨h1, h2, h3, h4, h5, h6⟩ := hI
  have hl : leastN (qKd Q) < 2 ^ 31 := by
    unfold leastN
    split
    · omega
    · rcases mostN_or (qKd Q) with e | e | e | e | e <;> omega
  unfold qEnd
  by_cases c8 : qKd Q = 0 ∨ qNn Q - qFr Q (qNo Q) < leastN (qKd Q)
  · refine ⟨f, ?_, fun Q' z => ?_, fun _ _ _ _ _ => rfl, rfl⟩
    · rw [if_pos c8]
      refine v_p hT rfl rfl ?_
      refine v_geti hT rfl (by first | rfl | assumption) (by omega) ?_
      rw [r3]
      refine g_if hT rfl (fun cq => ?_) (fun cq => ?_)
      · refine v_p hT rfl rfl ?_
        refine v_ret hT rfl (fun _ => Or.inl rfl) rfl ⟨rfl, rfl⟩
      · have cq := (not_congr (cj_eq (b := 0) (by omega) (by omega))).mp cq
        refine v_p hT rfl rfl ?_
        refine v_call hT [] rfl rfl (by first | rfl | assumption) (by omega) rfl rfl (Nat.le_of_ble_eq_true rfl) (Nat.le_of_ble_eq_true rfl) (hno) ?_
        refine v_p hT rfl rfl ?_
        refine v_geti hT rfl (by first | rfl | assumption) (by omega) ?_
        rw [r3]
        refine v_scall hT [.int (nI (qKd Q))] rfl rfl rfl rfl (Nat.le_of_ble_eq_true rfl) (Nat.le_of_ble_eq_true rfl) (s_leastNumbers h5) ?_
        refine g_cmp hT rfl (fun cq2 => ?_) (fun cq2 => ?_)
        · have cq2 := (cj_ge (by omega) (by omega)).mp cq2
          omega
        · refine v_p hT rfl rfl ?_
          refine v_ret hT rfl (fun _ => Or.inl rfl) rfl ⟨rfl, rfl⟩
    · rw [if_pos c8] at z; cases z
  · refine ⟨hset (hset (hset (hset f 77 (qNo Q) (nI (qKd Q))) 75 5 (nI (qNo Q + 1))) 78 (qNo Q + 1) (nI (qNn Q))) 75 7 (nI 0), ?_, fun Q' z => ?_, fun c x1 x2 x3 x4 => by rw [hset_ne x1, hset_ne x3, hset_ne x1, hset_ne x2], by simp [hset, upd]⟩
    · rw [if_neg c8]
      refine v_p hT rfl rfl ?_
      refine v_geti hT rfl (by first | rfl | assumption) (by omega) ?_
      rw [r3]
      refine g_if hT rfl (fun cq => ?_) (fun cq => ?_)
      · have cq := (cj_eq (b := 0) (by omega) (by omega)).mp cq
        omega
      · refine v_p hT rfl rfl ?_
        refine v_call hT [] rfl rfl (by first | rfl | assumption) (by omega) rfl rfl (Nat.le_of_ble_eq_true rfl) (Nat.le_of_ble_eq_true rfl) (hno) ?_
        refine v_p hT rfl rfl ?_
        refine v_geti hT rfl (by first | rfl | assumption) (by omega) ?_
        rw [r3]
        refine v_scall hT [.int (nI (qKd Q))] rfl rfl rfl rfl (Nat.le_of_ble_eq_true rfl) (Nat.le_of_ble_eq_true rfl) (s_leastNumbers h5) ?_
        refine g_cmp hT rfl (fun cq2 => ?_) (fun cq2 => ?_)
        · refine v_p hT rfl rfl ?_
          refine v_getr hT rfl rfl (by omega) rfl ?_
          refine v_p hT rfl rfl ?_
          refine v_geti hT rfl (by first | rfl | assumption) (by omega) ?_
          rw [r1]
          refine v_p hT rfl rfl ?_
          refine v_geti hT rfl (by first | rfl | assumption) (by omega) ?_
          rw [r3]
          refine v_ast hT rfl rfl (by omega) (by decide) (by omega) ?_
          refine v_p hT rfl rfl ?_
          refine v_geti hT rfl (by first | rfl | assumption) (by omega) ?_
          rw [hset_ne (by omega), r1]
          refine v_p hT rfl rfl ?_
          rw [nI_add]
          refine v_puti hT rfl rfl (by omega) (fun z => by cases z) ?_
          refine v_p hT rfl rfl ?_
          refine v_getr hT rfl rfl (by omega) rfl ?_
          refine v_p hT rfl rfl ?_
          refine v_geti hT rfl (by first | rfl | assumption) (by omega) ?_
          rw [hs_s]
          simp only [upd, if_pos]
          refine v_p hT rfl rfl ?_
          refine v_geti hT rfl (by first | rfl | assumption) (by omega) ?_
          rw [hs_s]
          simp only [upd, if_neg (show (6 : Nat) ≠ 5 by omega)]
          rw [hset_ne (by omega), r2]
          refine v_ast hT rfl rfl (by omega) (by decide) (by omega) ?_
          refine v_p hT rfl rfl ?_
          refine v_puti hT rfl rfl (by omega) (fun z => by cases z) ?_
          refine v_p hT rfl rfl ?_
          refine v_ret hT rfl (fun _ => Or.inr rfl) rfl ⟨rfl, rfl⟩
        · have cq2 := (not_congr (cj_ge (by omega) (by omega))).mp cq2
          omega
    · rw [if_neg c8] at z
      cases z
      refine ⟨?_, ?_, ?_, ?_, fun k hk => ?_, fun k hk => ?_, fun k hk => ?_⟩
      · simp [hset, upd]
      · simp [hset, upd]; exact r2
      · simp [hset, upd]
      · simp [hset, upd]; exact r4
      · rw [hset_ne (by omega), hset_ne (by omega), hset_ne (by omega), hs_s]
        have hk : k < qNo Q + 1 := hk
        show upd _ _ _ k = nI (updN (qKs Q) (qNo Q) (qKd Q) k)
        unfold upd updN
        by_cases hkk : k = qNo Q
        · rw [if_pos hkk, if_pos hkk]
        · rw [if_neg hkk, if_neg hkk]; exact r5 k (by omega)
      · rw [hset_ne (by omega), hs_s]
        have hk : k ≤ qNo Q + 1 := hk
        show upd _ _ _ k = nI (updN (qFr Q) (qNo Q + 1) (qNn Q) k)
        unfold upd updN
        by_cases hkk : k = qNo Q + 1
        · rw [if_pos hkk, if_pos hkk]
        · rw [if_neg hkk, if_neg hkk, hset_ne (by omega), hset_ne (by omega)]; exact r6 k (by omega)
      · rw [hset_ne (by omega), hset_ne (by omega), hset_ne (by omega), hset_ne (by omega)]; exact r7 k hk
