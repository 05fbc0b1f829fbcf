/-! THE CLASS: crossing, digest. -/
def xP (B : BK) (k : Nat) : Bool := decide (k / 10 < k % 10 ∧ k % 10 < bNt B) && crossB B (k / 10) (k % 10)
def xF (B : BK) (w : Nat) : Nat → Nat → Nat → Int32
  | 0, _, _ => mI 1
  | d + 1, k, l => if xP B k = true then (if l = 0 then (if w = 0 then nI (k / 10) else nI (k % 10)) else xF B w d (k + 1) (l - 1)) else xF B w d (k + 1) l
theorem xF_skip {B : BK} {w l : Nat} : ∀ e d k, (∀ j, k ≤ j → j < k + e → xP B j = false) → xF B w (e + d) k l = xF B w d (k + e) l := by
  intro e
  induction e with
  | zero => intro d k _; rw [Nat.zero_add]; rfl
  | succ e ih =>
    intro d k h
    rw [show e + 1 + d = (e + d) + 1 by omega]
    show (if xP B k = true then (if l = 0 then (if w = 0 then nI (k / 10) else nI (k % 10)) else xF B w (e + d) (k + 1) (l - 1)) else xF B w (e + d) (k + 1) l) = _
    rw [if_neg (by rw [h k (by omega) (by omega)]; decide), ih d (k + 1) (fun j h1 h2 => h j (by omega) (by omega))]
    rw [show k + 1 + e = k + (e + 1) by omega]
theorem xP_no {B : BK} {i r : Nat} (hr : r < 10) (h : ¬ (i < r ∧ r < bNt B)) : xP B (10 * i + r) = false := by
  unfold xP
  rw [show (10 * i + r) / 10 = i by omega, show (10 * i + r) % 10 = r by omega, decide_eq_false h]
  rfl
theorem xP_at {B : BK} {i r : Nat} (hr : r < 10) (h : i < r ∧ r < bNt B) : xP B (10 * i + r) = crossB B i r := by
  unfold xP
  rw [show (10 * i + r) / 10 = i by omega, show (10 * i + r) % 10 = r by omega, decide_eq_true h]
  rfl
theorem c_crossing {S : ST} (hV : VS S) {m w : Nat} (hm : m < 2 ^ 31) (hw : w ≤ 1) : CS0 n_X6_crossing [.int (nI m), .int (nI w)] S (xF S.1 w (10 * bNt S.1) 0 m) := by
  have hT : mT n_X6_crossing = tb_X6_crossing := rfl
  intro n kf f hR
  obtain ⟨f1, r1, hR1, hms, _, k1⟩ := s_measure (n := n) hV hR
  have h10 := hV.1.1.2.2.2.2.1
  refine ⟨f1, ?_, hR1, k1⟩
  have h8 : f1 1 8 = nI (bNt S.1) := hR1.2.1.2.2.2.2.1
  have outer : ∀ e i, i + e = bNt S.1 → ∀ l, l < 2 ^ 31 → Run n_X6_crossing 110 38 [some (.ref 0), some (.int (nI m)), some (.int (nI w)), some (.int (nI l)), some (.int (nI i)), none, none] [.int (nI (bNt S.1)), .int (nI i)] (HH n kf f1) (Ret (some (.int (xF S.1 w (10 * e) (10 * i) l))) (HH n kf f1)) := by
    intro e
    induction e with
    | zero =>
      intro i hi l hl
      refine g_cmp hT rfl (fun cq => ?_) (fun cq => ?_)
      · refine v_p hT rfl rfl ?_
        refine v_ret hT rfl (fun z => by cases z) rfl ⟨rfl, rfl⟩
      · exact absurd ((cj_ge (by omega) (by omega)).mpr (by omega)) cq
    | succ e ih =>
      intro i hi l hl
      have inner : ∀ d j, j + d = bNt S.1 → i < j → ∀ l, l < 2 ^ 31 → Run n_X6_crossing 110 56 [some (.ref 0), some (.int (nI m)), some (.int (nI w)), some (.int (nI l)), some (.int (nI i)), some (.int (nI j)), none] [.int (nI (bNt S.1)), .int (nI j)] (HH n kf f1) (Ret (some (.int (xF S.1 w (10 * (e + 1) - j) (10 * i + j) l))) (HH n kf f1)) := by
        intro d
        induction d with
        | zero =>
          intro j hj hij l hl
          have hsk := xF_skip (B := S.1) (w := w) (l := l) (10 - j) (10 * e) (10 * i + j) (fun q h1 h2 => by
            have h3 := xP_no (B := S.1) (i := i) (r := q - 10 * i) (by omega) (by omega)
            rw [show 10 * i + (q - 10 * i) = q by omega] at h3
            exact h3)
          rw [show 10 - j + 10 * e = 10 * (e + 1) - j by omega, show 10 * i + j + (10 - j) = 10 * (i + 1) by omega] at hsk
          rw [hsk]
          refine g_cmp hT rfl (fun cq => ?_) (fun cq => ?_)
          · refine v_p hT rfl rfl ?_
            refine v_getr hT rfl rfl (by omega) rfl ?_
            refine v_geti hT rfl (by first | rfl | assumption) (by omega) ?_
            rw [h8]
            refine v_cv (ih (i + 1) (by omega) l hl) ⟨rfl, rfl, rfl, rfl, ?_, trivial⟩ ?_ rfl
            · rw [nI_add]
            · rw [nI_add]
          · exact absurd ((cj_ge (by omega) (by omega)).mpr (by omega)) cq
        | succ d ihd =>
          intro j hj hij l hl
          have hx := xP_at (B := S.1) (i := i) (r := j) (by omega) ⟨hij, by omega⟩
          have hcl := crM_lt S.1 i (bNt S.1)
          have hc10 : crM S.1 i (bNt S.1) < 1024 := Nat.lt_of_lt_of_le hcl (Nat.pow_le_pow_right (n := 2) (by omega) h10)
          have hbt := crM_bit S.1 i (bNt S.1) j
          rw [decide_eq_true (show j < bNt S.1 by omega), Bool.true_and] at hbt
          rw [show 10 * (e + 1) - j = (10 * (e + 1) - (j + 1)) + 1 by omega]
          show Run _ _ _ _ _ _ (Ret (some (.int (if xP S.1 (10 * i + j) = true then (if l = 0 then (if w = 0 then nI ((10 * i + j) / 10) else nI ((10 * i + j) % 10)) else xF S.1 w (10 * (e + 1) - (j + 1)) (10 * i + j + 1) (l - 1)) else xF S.1 w (10 * (e + 1) - (j + 1)) (10 * i + j + 1) l))) _)
          rw [hx, show (10 * i + j) / 10 = i by omega, show (10 * i + j) % 10 = j by omega]
          have next : ∀ l2, l2 < 2 ^ 31 → ∀ z, Run n_X6_crossing 110 50 [some (.ref 0), some (.int (nI m)), some (.int (nI w)), some (.int (nI l2)), some (.int (nI i)), some (.int (nI j + nI 1)), some z] [.ref 0, .int (nI j + nI 1)] (HH n kf f1) (Ret (some (.int (xF S.1 w (10 * (e + 1) - (j + 1)) (10 * i + j + 1) l2))) (HH n kf f1)) := by
            intro l2 hl2 z
            refine v_getr hT rfl rfl (by omega) rfl ?_
            refine v_geti hT rfl (by first | rfl | assumption) (by omega) ?_
            rw [h8]
            refine v_cv (ihd (j + 1) (by omega) (by omega) l2 hl2) ⟨rfl, rfl, rfl, rfl, rfl, ?_, trivial⟩ ?_ rfl
            · rw [nI_add]
            · rw [nI_add]
          refine g_cmp hT rfl (fun cq => ?_) (fun cq => ?_)
          · exact absurd ((cj_ge (by omega) (by omega)).mp cq) (by omega)
          · refine v_p hT rfl rfl ?_
            refine v_getr hT rfl rfl (by omega) rfl ?_
            refine v_getr hT rfl rfl (by omega) rfl ?_
            refine v_p hT rfl rfl ?_
            refine v_ald hT rfl (by first | assumption | rfl) (by omega) (by decide) (by omega) ?_
            rw [hms.2.2.1 i (by omega)]
            refine v_p hT rfl rfl ?_
            refine g_cmp hT rfl (fun cq2 => ?_) (fun cq2 => ?_)
            · have cq2 := (tb_nI (show crM S.1 i (bNt S.1) < 2 ^ 31 by omega) (show j < 32 by omega)).mp cq2
              rw [hbt] at cq2
              rw [if_neg cq2]
              refine v_p hT rfl rfl ?_
              refine g_if hT rfl (fun cq3 => ?_) (fun cq3 => ?_)
              · refine v_p hT rfl rfl ?_
                refine g_if hT rfl (fun cq4 => ?_) (fun cq4 => ?_)
                · refine v_p hT rfl rfl ?_
                  rw [pk_sub (show 0 ≤ l by omega)]
                  exact next l hl _
                · exact absurd rfl cq4
              · exact absurd rfl cq3
            · have cq2 := Classical.not_not.mp ((not_congr (tb_nI (show crM S.1 i (bNt S.1) < 2 ^ 31 by omega) (show j < 32 by omega))).mp cq2)
              rw [hbt] at cq2
              rw [if_pos cq2]
              refine v_p hT rfl rfl ?_
              refine g_if hT rfl (fun cq3 => ?_) (fun cq3 => ?_)
              · exact absurd cq3 (show ¬ nI 1 = 0 by decide)
              · refine v_p hT rfl rfl ?_
                refine g_if hT rfl (fun cq4 => ?_) (fun cq4 => ?_)
                · have cq4 := (cj_ne (a := l) (b := 0) (by omega) (by omega)).mp cq4
                  rw [if_neg cq4]
                  refine v_p hT rfl rfl ?_
                  refine g_if hT rfl (fun cq5 => ?_) (fun cq5 => ?_)
                  · exact absurd cq5 (show ¬ nI 1 = 0 by decide)
                  · refine v_p hT rfl rfl ?_
                    rw [pk_sub (show 1 ≤ l by omega)]
                    exact next (l - 1) (by omega) _
                · have cq4 := Classical.not_not.mp ((not_congr (cj_ne (a := l) (b := 0) (by omega) (by omega))).mp cq4)
                  rw [if_pos cq4]
                  refine v_p hT rfl rfl ?_
                  refine g_if hT rfl (fun cq5 => ?_) (fun cq5 => ?_)
                  · have cq5 := (cj_ne (a := w) (b := 0) (by omega) (by omega)).mp cq5
                    rw [if_neg cq5]
                    refine v_p hT rfl rfl ?_
                    refine v_ret hT rfl (fun z => by cases z) rfl ⟨rfl, rfl⟩
                  · have cq5 := Classical.not_not.mp ((not_congr (cj_ne (a := w) (b := 0) (by omega) (by omega))).mp cq5)
                    rw [if_pos cq5]
                    refine v_p hT rfl rfl ?_
                    refine v_ret hT rfl (fun z => by cases z) rfl ⟨rfl, rfl⟩
      have hsk := xF_skip (B := S.1) (w := w) (l := l) (i + 1) (10 * (e + 1) - (i + 1)) (10 * i) (fun q h1 h2 => by
        have h3 := xP_no (B := S.1) (i := i) (r := q - 10 * i) (by omega) (by omega)
        rw [show 10 * i + (q - 10 * i) = q by omega] at h3
        exact h3)
      rw [show i + 1 + (10 * (e + 1) - (i + 1)) = 10 * (e + 1) by omega] at hsk
      rw [hsk]
      refine g_cmp hT rfl (fun cq => ?_) (fun cq => ?_)
      · exact absurd ((cj_ge (by omega) (by omega)).mp cq) (by omega)
      · refine v_p hT rfl rfl ?_
        refine v_getr hT rfl rfl (by omega) rfl ?_
        refine v_geti hT rfl (by first | rfl | assumption) (by omega) ?_
        rw [h8]
        refine v_cv (inner (bNt S.1 - (i + 1)) (i + 1) (by omega) (by omega) l hl) ⟨rfl, rfl, rfl, rfl, rfl, ?_, trivial⟩ ?_ rfl
        · rw [nI_add]
        · rw [nI_add]
  refine v_p hT rfl rfl ?_
  refine g_if hT rfl (fun cq => ?_) (fun cq => ?_)
  · exact absurd cq (nI_pos hm)
  · refine v_p hT rfl rfl ?_
    refine v_scall hT [.int (nI w), .int (nI 0), .int (nI 1)] rfl rfl rfl rfl (Nat.le_of_ble_eq_true rfl) (Nat.le_of_ble_eq_true rfl) (s_within (nI w) (nI 0) (nI 1)) ?_
    rw [decide_eq_true (show nI 0 ≤ nI w ∧ nI w ≤ nI 1 from ⟨(cj_le (a := 0) (b := w) (by omega) (by omega)).mpr (by omega), (cj_le (a := w) (b := 1) (by omega) (by omega)).mpr hw⟩)]
    refine g_if hT rfl (fun cq2 => ?_) (fun cq2 => ?_)
    · refine v_p hT rfl rfl ?_
      refine v_call hT [] rfl rfl (by first | rfl | assumption) (by omega) rfl rfl (Nat.le_of_ble_eq_true rfl) (Nat.le_of_ble_eq_true rfl) (r1) ?_
      refine v_p hT rfl rfl ?_
      refine v_getr hT rfl rfl (by omega) rfl ?_
      refine v_geti hT rfl (by first | rfl | assumption) (by omega) ?_
      rw [h8]
      exact outer (bNt S.1) 0 (by omega) m hm
    · exact absurd (show ¬ (1 : Int32) = 0 by decide) cq2
noncomputable def oCross (S : ST) (k w : Int32) : Int32 × ST := bif decide (¬ k < 0) && decide (nI 0 ≤ w ∧ w ≤ nI 1) then (xF S.1 w.toNatClampNeg (10 * bNt S.1) 0 k.toNatClampNeg, S) else (mI 2, refu S 0)
theorem C_crossing {S : ST} (hV : VS S) (k w : Int32) : CSp n_X6_crossing [.int k, .int w] S (oCross S k w) := by
  have hT : mT n_X6_crossing = tb_X6_crossing := rfl
  intro n kf f hR
  unfold oCross
  obtain ⟨fr, q1, q2, q3⟩ := s_refu (n := n) (j := 0) (by omega) hV hR
  have hbad : Run n_X6_crossing 110 13 [some (.ref 0), some (.int k), some (.int w), none, none, none, none] [] (HH n kf f) (Ret (some (.int (mI 2))) (HH n kf fr)) := by
    refine v_p hT rfl rfl ?_
    refine v_call hT [.int (mI 2)] rfl rfl (by first | rfl | assumption) (by omega) rfl rfl (Nat.le_of_ble_eq_true rfl) (Nat.le_of_ble_eq_true rfl) (q1) ?_
    refine v_ret hT rfl (fun z => by cases z) rfl ⟨rfl, rfl⟩
  by_cases c1 : k < 0
  · rw [decide_eq_false (fun z => z c1), Bool.false_and]
    refine ⟨kf, fr, ?_, q2, q3⟩
    refine v_p hT rfl rfl ?_
    refine g_if hT rfl (fun cq => ?_) (fun cq => ?_)
    · exact hbad
    · exact absurd c1 cq
  · rw [decide_eq_true c1]
    by_cases c2 : nI 0 ≤ w ∧ w ≤ nI 1
    · obtain ⟨K, K1, K2⟩ := nI_of c1
      obtain ⟨W, W1, W2⟩ := int_04 (by omega) c2
      rw [decide_eq_true c2]
      subst K2; subst W2
      simp only [Bool.true_and, cond_true]
      rw [nI_tn K1, nI_tn (by omega)]
      obtain ⟨f2, h1, h2, h3⟩ := c_crossing hV K1 W1 n kf f hR
      exact ⟨kf, f2, h1, h2, h3⟩
    · rw [decide_eq_false c2, Bool.and_false]
      refine ⟨kf, fr, ?_, q2, q3⟩
      refine v_p hT rfl rfl ?_
      refine g_if hT rfl (fun cq => ?_) (fun cq => ?_)
      · exact absurd cq c1
      · refine v_p hT rfl rfl ?_
        refine v_scall hT [.int w, .int (nI 0), .int (nI 1)] rfl rfl rfl rfl (Nat.le_of_ble_eq_true rfl) (Nat.le_of_ble_eq_true rfl) (s_within w (nI 0) (nI 1)) ?_
        rw [decide_eq_false c2]
        refine g_if hT rfl (fun cq2 => ?_) (fun cq2 => ?_)
        · exact absurd rfl cq2
        · exact hbad
