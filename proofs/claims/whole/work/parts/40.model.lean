/-! THE REFERENCE: its cells, its small methods. -/
def nowR (g : Nat → Int32) (B : BK) : Prop := (∀ s, s < 2 → g s = nI (bWd B s)) ∧ (∀ i, i < 3 → g (2 + i) = nI (bSe B i)) ∧ (∀ s, s < 2 → g (5 + s) = nI (bNp B s)) ∧ g 7 = nI (bNt B) ∧ (∀ s p, s < 2 → p < bNp B s → g (8 + 13 * (8 * s + p)) = nI (bNw B s p) ∧ ∀ k, k < bNw B s p → g (8 + 13 * (8 * s + p) + 1 + k) = nI (bLn B s p k)) ∧ ∀ i, i < bNt B → ∀ z, z < 3 → g (224 + 3 * i + z) = nI (bTi B z i)
theorem nowR_cg {g g' : Nat → Int32} {B : BK} (hV : VB0 B) (h : nowR g B) (e : ∀ c, c < 260 → g' c = g c) : nowR g' B := by
  obtain ⟨a1, a2, a3, a4, a5, a6⟩ := h
  have hn0 := hV.1
  have hnt := hV.2.2.2.2.1
  refine ⟨fun s hs => by rw [e _ (by omega)]; exact a1 s hs, fun i hi => by rw [e _ (by omega)]; exact a2 i hi, fun s hs => by rw [e _ (by omega)]; exact a3 s hs, by rw [e _ (by omega)]; exact a4, fun s p hs hp => ⟨?_, fun k hk => ?_⟩, fun i hi z hz => by rw [e _ (by omega)]; exact a6 i hi z hz⟩
  · have := hn0 s hs
    rw [e _ (by omega)]; exact (a5 s p hs hp).1
  · have := hn0 s hs
    have := (hV.2.1 s p hs hp).2.1
    rw [e _ (by omega)]; exact (a5 s p hs hp).2 k hk
theorem m_in (x y z : Int32) {n : Nat} {kf : Nat → Nat} {f : Nat → Nat → Int32} : Run n_X7_in 110 0 (ini n_X7_in [.int x, .int y, .int z]) [] (HH n kf f) (Ret (some (.int (bI (decide (y ≤ x ∧ x ≤ z))))) (HH n kf f)) := by
  have hT : mT n_X7_in = tb_X7_in := rfl
  refine v_p hT rfl rfl ?_
  refine g_cmp hT rfl (fun cq => ?_) (fun cq => ?_)
  · have cq : x < y := cq
    rw [decide_eq_false (fun h => absurd h.1 (Int32.not_le.mpr cq))]
    refine v_p hT rfl rfl ?_
    refine v_ret hT rfl (fun _ => Or.inl rfl) rfl ⟨rfl, rfl⟩
  · have cq : ¬ x < y := cq
    refine v_p hT rfl rfl ?_
    refine g_cmp hT rfl (fun cq2 => ?_) (fun cq2 => ?_)
    · have cq2 : z < x := cq2
      rw [decide_eq_false (fun h => absurd h.2 (Int32.not_le.mpr cq2))]
      refine v_p hT rfl rfl ?_
      refine v_ret hT rfl (fun _ => Or.inl rfl) rfl ⟨rfl, rfl⟩
    · have cq2 : ¬ z < x := cq2
      rw [decide_eq_true ⟨Int32.not_lt.mp cq, Int32.not_lt.mp cq2⟩]
      refine v_p hT rfl rfl ?_
      refine v_ret hT rfl (fun _ => Or.inr rfl) rfl ⟨rfl, rfl⟩
theorem m_bad {n : Nat} {kf : Nat → Nat} {f : Nat → Nat → Int32} : Run n_X7_bad 110 0 (ini n_X7_bad [.ref 98]) [] (HH n kf f) (Ret (some (.int (mI 2))) (HH n kf (hset f 99 0 (f 99 0 + nI 1)))) := by
  have hT : mT n_X7_bad = tb_X7_bad := rfl
  refine v_p hT rfl rfl ?_
  refine v_getr hT rfl rfl (by omega) rfl ?_
  refine v_p hT rfl rfl ?_
  refine v_ald hT rfl (by first | assumption | rfl) (by omega) (by decide) (by omega) ?_
  refine v_p hT rfl rfl ?_
  refine v_ast hT rfl rfl (by omega) (by decide) (by omega) ?_
  refine v_p hT rfl rfl ?_
  refine v_ret hT rfl (fun z => by cases z) rfl ⟨rfl, rfl⟩
theorem m_no {n : Nat} {kf : Nat → Nat} {f : Nat → Nat → Int32} : Run n_X7_no 110 0 (ini n_X7_no [.ref 98]) [] (HH n kf f) (Ret (some (.int (mI 3))) (HH n kf (hset f 99 1 (f 99 1 + nI 1)))) := by
  have hT : mT n_X7_no = tb_X7_no := rfl
  refine v_p hT rfl rfl ?_
  refine v_getr hT rfl rfl (by omega) rfl ?_
  refine v_p hT rfl rfl ?_
  refine v_ald hT rfl (by first | assumption | rfl) (by omega) (by decide) (by omega) ?_
  refine v_p hT rfl rfl ?_
  refine v_ast hT rfl rfl (by omega) (by decide) (by omega) ?_
  refine v_p hT rfl rfl ?_
  refine v_ret hT rfl (fun z => by cases z) rfl ⟨rfl, rfl⟩
theorem m_full {n : Nat} {kf : Nat → Nat} {f : Nat → Nat → Int32} : Run n_X7_full 110 0 (ini n_X7_full [.ref 98]) [] (HH n kf f) (Ret (some (.int (mI 4))) (HH n kf (hset f 99 2 (f 99 2 + nI 1)))) := by
  have hT : mT n_X7_full = tb_X7_full := rfl
  refine v_p hT rfl rfl ?_
  refine v_getr hT rfl rfl (by omega) rfl ?_
  refine v_p hT rfl rfl ?_
  refine v_ald hT rfl (by first | assumption | rfl) (by omega) (by decide) (by omega) ?_
  refine v_p hT rfl rfl ?_
  refine v_ast hT rfl rfl (by omega) (by decide) (by omega) ?_
  refine v_p hT rfl rfl ?_
  refine v_ret hT rfl (fun z => by cases z) rfl ⟨rfl, rfl⟩
theorem m_counted {n j : Nat} {kf : Nat → Nat} {f : Nat → Nat → Int32} (hj : j < 3) : Run n_X7_counted 110 0 (ini n_X7_counted [.ref 98, .int (mI (2 + j))]) [] (HH n kf f) (Ret (some (.int (mI (2 + j)))) (HH n kf (hset f 99 j (f 99 j + nI 1)))) := by
  have hT : mT n_X7_counted = tb_X7_counted := rfl
  rcases (show j = 0 ∨ j = 1 ∨ j = 2 by omega) with e | e | e
  · subst e
    refine v_p hT rfl rfl ?_
    refine g_cmp hT rfl (fun cq => ?_) (fun cq => ?_)
    · exact absurd rfl cq
    · refine v_p hT rfl rfl ?_
      refine v_call hT [] rfl rfl (by first | rfl | assumption) (by omega) rfl rfl (Nat.le_of_ble_eq_true rfl) (Nat.le_of_ble_eq_true rfl) (m_bad) ?_
      refine v_p hT rfl rfl ?_
      refine v_ret hT rfl (fun z => by cases z) rfl ⟨rfl, rfl⟩
  · subst e
    refine v_p hT rfl rfl ?_
    refine g_cmp hT rfl (fun cq => ?_) (fun cq => ?_)
    · refine v_p hT rfl rfl ?_
      refine g_cmp hT rfl (fun cq2 => ?_) (fun cq2 => ?_)
      · exact absurd rfl cq2
      · refine v_p hT rfl rfl ?_
        refine v_call hT [] rfl rfl (by first | rfl | assumption) (by omega) rfl rfl (Nat.le_of_ble_eq_true rfl) (Nat.le_of_ble_eq_true rfl) (m_no) ?_
        refine v_p hT rfl rfl ?_
        refine v_ret hT rfl (fun z => by cases z) rfl ⟨rfl, rfl⟩
    · exact absurd (show ¬ mI (2 + 1) = mI 2 by decide) cq
  · subst e
    refine v_p hT rfl rfl ?_
    refine g_cmp hT rfl (fun cq => ?_) (fun cq => ?_)
    · refine v_p hT rfl rfl ?_
      refine g_cmp hT rfl (fun cq2 => ?_) (fun cq2 => ?_)
      · refine v_p hT rfl rfl ?_
        refine g_cmp hT rfl (fun cq3 => ?_) (fun cq3 => ?_)
        · exact absurd rfl cq3
        · refine v_p hT rfl rfl ?_
          refine v_call hT [] rfl rfl (by first | rfl | assumption) (by omega) rfl rfl (Nat.le_of_ble_eq_true rfl) (Nat.le_of_ble_eq_true rfl) (m_full) ?_
          refine v_p hT rfl rfl ?_
          refine v_ret hT rfl (fun z => by cases z) rfl ⟨rfl, rfl⟩
      · exact absurd (show ¬ mI (2 + 2) = mI 3 by decide) cq2
    · exact absurd (show ¬ mI (2 + 2) = mI 2 by decide) cq
theorem m_at (s p : Nat) {n : Nat} {kf : Nat → Nat} {f : Nat → Nat → Int32} : Run n_X7_at 110 0 (ini n_X7_at [.int (nI s), .int (nI p)]) [] (HH n kf f) (Ret (some (.int (nI (8 + 13 * (8 * s + p))))) (HH n kf f)) := by
  have hT : mT n_X7_at = tb_X7_at := rfl
  refine v_p hT rfl rfl ?_
  rw [pk_mul, nI_add, pk_mul, nI_add]
  refine v_ret hT rfl (fun z => by cases z) rfl ⟨rfl, rfl⟩
theorem m_many {n s : Nat} {kf : Nat → Nat} {f : Nat → Nat → Int32} (hs : s < 2) : Run n_X7_many 110 0 (ini n_X7_many [.ref 98, .int (nI s)]) [] (HH n kf f) (Ret (some (.int (f 100 (5 + s)))) (HH n kf f)) := by
  have hT : mT n_X7_many = tb_X7_many := rfl
  refine v_p hT rfl rfl ?_
  refine v_getr hT rfl rfl (by omega) rfl ?_
  refine v_p hT rfl rfl ?_
  rw [nI_add]
  refine v_ald hT rfl (by first | assumption | rfl) (by omega) (by decide) (by omega) ?_
  refine v_ret hT rfl (fun z => by cases z) rfl ⟨rfl, rfl⟩
theorem m_wordsOf {n s p : Nat} {kf : Nat → Nat} {f : Nat → Nat → Int32} (hs : 8 * s + p < 16) : Run n_X7_wordsOf 110 0 (ini n_X7_wordsOf [.ref 98, .int (nI s), .int (nI p)]) [] (HH n kf f) (Ret (some (.int (f 100 (8 + 13 * (8 * s + p))))) (HH n kf f)) := by
  have hT : mT n_X7_wordsOf = tb_X7_wordsOf := rfl
  refine v_p hT rfl rfl ?_
  refine v_getr hT rfl rfl (by omega) rfl ?_
  refine v_p hT rfl rfl ?_
  refine v_scall hT [.int (nI s), .int (nI p)] rfl rfl rfl rfl (Nat.le_of_ble_eq_true rfl) (Nat.le_of_ble_eq_true rfl) (m_at s p) ?_
  refine v_ald hT rfl (by first | assumption | rfl) (by omega) (by decide) (by omega) ?_
  refine v_ret hT rfl (fun z => by cases z) rfl ⟨rfl, rfl⟩
theorem m_lengthOf {n s p k : Nat} {kf : Nat → Nat} {f : Nat → Nat → Int32} (hs : 8 * s + p < 16) (hk : k < 12) : Run n_X7_lengthOf 110 0 (ini n_X7_lengthOf [.ref 98, .int (nI s), .int (nI p), .int (nI k)]) [] (HH n kf f) (Ret (some (.int (f 100 (8 + 13 * (8 * s + p) + 1 + k)))) (HH n kf f)) := by
  have hT : mT n_X7_lengthOf = tb_X7_lengthOf := rfl
  refine v_p hT rfl rfl ?_
  refine v_getr hT rfl rfl (by omega) rfl ?_
  refine v_p hT rfl rfl ?_
  refine v_scall hT [.int (nI s), .int (nI p)] rfl rfl rfl rfl (Nat.le_of_ble_eq_true rfl) (Nat.le_of_ble_eq_true rfl) (m_at s p) ?_
  refine v_p hT rfl rfl ?_
  rw [nI_add, nI_add]
  refine v_ald hT rfl (by first | assumption | rfl) (by omega) (by decide) (by omega) ?_
  refine v_ret hT rfl (fun z => by cases z) rfl ⟨rfl, rfl⟩
theorem m_lineOf {n s p k w : Nat} {kf : Nat → Nat} {f : Nat → Nat → Int32} {ln : Nat → Nat} (hs : s < 2) (hp : p < 8) (hk : k < 12) (hw : f 100 s = nI w) (hw2 : w ≤ 1000) (hln : ∀ i, i ≤ k → f 100 (8 + 13 * (8 * s + p) + 1 + i) = nI (ln i)) (hl2 : ∀ i, i ≤ k → ln i ≤ 1000) :
    Run n_X7_lineOf 110 0 (ini n_X7_lineOf [.ref 98, .int (nI s), .int (nI p), .int (nI k)]) [] (HH n kf f) (Ret (some (.int (nI (lineF w ln k).1))) (HH n kf f)) := by
  have hT : mT n_X7_lineOf = tb_X7_lineOf := rfl
  have loop : ∀ d i, i + d = k → Run n_X7_lineOf 110 18 [some (.ref 98), some (.int (nI s)), some (.int (nI p)), some (.int (nI k)), some (.int (nI (lineF w ln i).1)), some (.int (nI (lineF w ln i).2)), some (.int (nI (i + 1))), none, none] [.int (nI k), .int (nI (i + 1))] (HH n kf f) (Ret (some (.int (nI (lineF w ln k).1))) (HH n kf f)) := by
    intro d
    induction d with
    | zero =>
      intro i hi
      have e : i = k := by omega
      subst e
      refine g_cmp hT rfl (fun cq => ?_) (fun cq => ?_)
      · refine v_p hT rfl rfl ?_
        refine v_ret hT rfl (fun z => by cases z) rfl ⟨rfl, rfl⟩
      · exact absurd ((cj_gt (by omega) (by omega)).mpr (by omega)) cq
    | succ d ih =>
      intro i hi
      have hu := lineF_used w 1000 ln i hw2 (fun j hj => hl2 j (by omega))
      have hl := hl2 (i + 1) (by omega)
      have hlen := hln (i + 1) (by omega)
      have ih' := ih (i + 1) (by omega)
      refine g_cmp hT rfl (fun cq => ?_) (fun cq => ?_)
      · exact absurd ((cj_gt (by omega) (by omega)).mp cq) (by omega)
      · refine v_p hT rfl rfl ?_
        refine v_call hT [.int (nI s), .int (nI p), .int (nI (i + 1))] rfl rfl (by first | rfl | assumption) (by omega) rfl rfl (Nat.le_of_ble_eq_true rfl) (Nat.le_of_ble_eq_true rfl) (m_lengthOf (by omega) (by omega)) ?_
        rw [hlen]
        refine v_p hT rfl rfl ?_
        refine v_getr hT rfl rfl (by omega) rfl ?_
        refine v_p hT rfl rfl ?_
        rw [nI_add, nI_add, nI_add]
        refine v_ald hT rfl (by first | assumption | rfl) (by omega) (by decide) (by omega) ?_
        rw [show f 100 (0 + s) = nI w by rw [Nat.zero_add]; exact hw]
        refine g_cmp hT rfl (fun cq2 => ?_) (fun cq2 => ?_)
        · have cq2 := (cj_gt (by omega) (by omega)).mp cq2
          have hst : lineF w ln (i + 1) = ((lineF w ln i).1 + 1, ln (i + 1)) := by
            show (if (lineF w ln i).2 + 1 + ln (i + 1) ≤ w then _ else _) = _
            rw [if_neg (by omega)]
          rw [hst] at ih'
          refine v_p hT rfl rfl ?_
          refine g_if hT rfl (fun cq3 => ?_) (fun cq3 => ?_)
          · refine v_p hT rfl rfl ?_
            refine g_if hT rfl (fun cq4 => ?_) (fun cq4 => ?_)
            · refine v_p hT rfl rfl ?_
              refine v_call hT [.int (nI s), .int (nI p), .int (nI (i + 1))] rfl rfl (by first | rfl | assumption) (by omega) rfl rfl (Nat.le_of_ble_eq_true rfl) (Nat.le_of_ble_eq_true rfl) (m_lengthOf (by omega) (by omega)) ?_
              rw [hlen]
              refine v_p hT rfl rfl ?_
              refine v_cv ih' ⟨rfl, rfl, rfl, rfl, ?_, rfl, ?_, trivial⟩ ?_ rfl
              · rw [nI_add]
              · rw [nI_add]
              · rw [nI_add]; rfl
            · exact absurd rfl cq4
          · exact absurd rfl cq3
        · have cq2 := (not_congr (cj_gt (by omega) (by omega))).mp cq2
          have hst : lineF w ln (i + 1) = ((lineF w ln i).1, (lineF w ln i).2 + 1 + ln (i + 1)) := by
            show (if (lineF w ln i).2 + 1 + ln (i + 1) ≤ w then _ else _) = _
            rw [if_pos (by omega)]
          rw [hst] at ih'
          refine v_p hT rfl rfl ?_
          refine g_if hT rfl (fun cq3 => ?_) (fun cq3 => ?_)
          · exact absurd cq3 (show ¬ nI 1 = 0 by decide)
          · refine v_p hT rfl rfl ?_
            refine g_if hT rfl (fun cq4 => ?_) (fun cq4 => ?_)
            · exact absurd cq4 (show ¬ nI 1 = 0 by decide)
            · refine v_p hT rfl rfl ?_
              refine v_cv ih' ⟨rfl, rfl, rfl, rfl, ?_, rfl, ?_, trivial⟩ ?_ rfl
              · rw [nI_add]; rfl
              · rw [nI_add]
              · rw [nI_add]
  have h0 := hln 0 (by omega)
  refine v_p hT rfl rfl ?_
  refine v_call hT [.int (nI s), .int (nI p), .int (nI 0)] rfl rfl (by first | rfl | assumption) (by omega) rfl rfl (Nat.le_of_ble_eq_true rfl) (Nat.le_of_ble_eq_true rfl) (m_lengthOf (by omega) (by omega)) ?_
  rw [h0]
  refine v_p hT rfl rfl ?_
  exact loop k 0 (by omega)
theorem m_linesOf {n s p : Nat} {kf : Nat → Nat} {f : Nat → Nat → Int32} {B : BK} (hR : nowR (f 100) B) (hV : VB0 B) (hs : s < 2) (hp : p < bNp B s) :
    Run n_X7_linesOf 110 0 (ini n_X7_linesOf [.ref 98, .int (nI s), .int (nI p)]) [] (HH n kf f) (Ret (some (.int (nI (linF B s p)))) (HH n kf f)) := by
  have hT : mT n_X7_linesOf = tb_X7_linesOf := rfl
  have hn := hV.1 s hs
  obtain ⟨w1, w2, w3⟩ := hV.2.1 s p hs hp
  have hwd := hV.2.2.1 s hs
  obtain ⟨b1, b2⟩ := hR.2.2.2.2.1 s p hs hp
  have hl := lineF_le (bWd B s) (bLn B s p) (bNw B s p - 1)
  refine v_p hT rfl rfl ?_
  refine v_call hT [.int (nI s), .int (nI p)] rfl rfl (by first | rfl | assumption) (by omega) rfl rfl (Nat.le_of_ble_eq_true rfl) (Nat.le_of_ble_eq_true rfl) (m_wordsOf (by omega)) ?_
  rw [b1]
  refine v_p hT rfl rfl ?_
  rw [pk_sub (by omega)]
  refine v_call hT [.int (nI s), .int (nI p), .int (nI (bNw B s p - 1))] rfl rfl (by first | rfl | assumption) (by omega) rfl rfl (Nat.le_of_ble_eq_true rfl) (Nat.le_of_ble_eq_true rfl) (m_lineOf (w := bWd B s) (ln := bLn B s p) hs (by omega) (by omega) (hR.1 s hs) (by omega) (fun i hi => b2 i (by omega)) (fun i hi => by have := (w3 i (by omega)).2; omega)) ?_
  refine v_p hT rfl rfl ?_
  rw [nI_add]
  refine v_ret hT rfl (fun z => by cases z) rfl ⟨rfl, rfl⟩
theorem m_firstOf {n s p : Nat} {kf : Nat → Nat} {f : Nat → Nat → Int32} {B : BK} (hR : nowR (f 100) B) (hV : VB0 B) (hs : s < 2) (hp : p ≤ bNp B s) :
    Run n_X7_firstOf 110 0 (ini n_X7_firstOf [.ref 98, .int (nI s), .int (nI p)]) [] (HH n kf f) (Ret (some (.int (nI (fstF B s p)))) (HH n kf f)) := by
  have hT : mT n_X7_firstOf = tb_X7_firstOf := rfl
  have hn := hV.1 s hs
  have loop : ∀ d k, k + d = p → Run n_X7_firstOf 110 8 [some (.ref 98), some (.int (nI s)), some (.int (nI p)), some (.int (nI (fstF B s k))), some (.int (nI k))] [.int (nI p), .int (nI k)] (HH n kf f) (Ret (some (.int (nI (fstF B s p)))) (HH n kf f)) := by
    intro d
    induction d with
    | zero =>
      intro k hk
      have e : k = p := by omega
      subst e
      refine g_cmp hT rfl (fun cq => ?_) (fun cq => ?_)
      · refine v_p hT rfl rfl ?_
        refine v_ret hT rfl (fun z => by cases z) rfl ⟨rfl, rfl⟩
      · exact absurd ((cj_ge (by omega) (by omega)).mpr (by omega)) cq
    | succ d ih =>
      intro k hk
      refine g_cmp hT rfl (fun cq => ?_) (fun cq => ?_)
      · exact absurd ((cj_ge (by omega) (by omega)).mp cq) (by omega)
      · refine v_p hT rfl rfl ?_
        refine v_call hT [.int (nI s), .int (nI k)] rfl rfl (by first | rfl | assumption) (by omega) rfl rfl (Nat.le_of_ble_eq_true rfl) (Nat.le_of_ble_eq_true rfl) (m_linesOf hR hV hs (by omega)) ?_
        refine v_p hT rfl rfl ?_
        refine v_cv (ih (k + 1) (by omega)) ⟨rfl, rfl, rfl, ?_, ?_, trivial⟩ ?_ rfl
        · rw [nI_add]; rfl
        · rw [nI_add]
        · rw [nI_add]
  refine v_p hT rfl rfl ?_
  exact loop p 0 (by omega)
theorem m_linesOfAll {n s : Nat} {kf : Nat → Nat} {f : Nat → Nat → Int32} {B : BK} (hR : nowR (f 100) B) (hV : VB0 B) (hs : s < 2) :
    Run n_X7_linesOfAll 110 0 (ini n_X7_linesOfAll [.ref 98, .int (nI s)]) [] (HH n kf f) (Ret (some (.int (nI (totF B s)))) (HH n kf f)) := by
  have hT : mT n_X7_linesOfAll = tb_X7_linesOfAll := rfl
  refine v_p hT rfl rfl ?_
  refine v_call hT [.int (nI s)] rfl rfl (by first | rfl | assumption) (by omega) rfl rfl (Nat.le_of_ble_eq_true rfl) (Nat.le_of_ble_eq_true rfl) (m_many hs) ?_
  rw [hR.2.2.1 s hs]
  refine v_call hT [.int (nI s), .int (nI (bNp B s))] rfl rfl (by first | rfl | assumption) (by omega) rfl rfl (Nat.le_of_ble_eq_true rfl) (Nat.le_of_ble_eq_true rfl) (m_firstOf hR hV hs (Nat.le_refl _)) ?_
  refine v_ret hT rfl (fun z => by cases z) rfl ⟨rfl, rfl⟩
theorem m_isTooLong {n : Nat} {kf : Nat → Nat} {f : Nat → Nat → Int32} {B : BK} (hR : nowR (f 100) B) (hV : VB0 B) :
    Run n_X7_isTooLong 110 0 (ini n_X7_isTooLong [.ref 98]) [] (HH n kf f) (Ret (some (.int (bI (decide (60 < totF B 0 ∨ 60 < totF B 1))))) (HH n kf f)) := by
  have hT : mT n_X7_isTooLong = tb_X7_isTooLong := rfl
  have t0 := totF_le hV (s := 0) (by omega)
  have t1 := totF_le hV (s := 1) (by omega)
  refine v_p hT rfl rfl ?_
  refine v_call hT [.int (nI 0)] rfl rfl (by first | rfl | assumption) (by omega) rfl rfl (Nat.le_of_ble_eq_true rfl) (Nat.le_of_ble_eq_true rfl) (m_linesOfAll hR hV (by omega)) ?_
  refine v_p hT rfl rfl ?_
  refine g_cmp hT rfl (fun cq => ?_) (fun cq => ?_)
  · have cq := (cj_gt (by omega) (by omega)).mp cq
    rw [decide_eq_true (Or.inl cq)]
    refine v_p hT rfl rfl ?_
    refine v_ret hT rfl (fun _ => Or.inr rfl) rfl ⟨rfl, rfl⟩
  · have cq := (not_congr (cj_gt (by omega) (by omega))).mp cq
    refine v_p hT rfl rfl ?_
    refine v_call hT [.int (nI 1)] rfl rfl (by first | rfl | assumption) (by omega) rfl rfl (Nat.le_of_ble_eq_true rfl) (Nat.le_of_ble_eq_true rfl) (m_linesOfAll hR hV (by omega)) ?_
    refine v_p hT rfl rfl ?_
    refine g_cmp hT rfl (fun cq2 => ?_) (fun cq2 => ?_)
    · have cq2 := (cj_le (by omega) (by omega)).mp cq2
      rw [decide_eq_false (by omega)]
      refine v_p hT rfl rfl ?_
      refine v_ret hT rfl (fun _ => Or.inl rfl) rfl ⟨rfl, rfl⟩
    · have cq2 := (not_congr (cj_le (by omega) (by omega))).mp cq2
      rw [decide_eq_true (by omega)]
      refine v_p hT rfl rfl ?_
      refine v_ret hT rfl (fun _ => Or.inr rfl) rfl ⟨rfl, rfl⟩
theorem m_isPara {n : Nat} {kf : Nat → Nat} {f : Nat → Nat → Int32} {B : BK} (hR : nowR (f 100) B) (hV : VB0 B) (s p : Int32) :
    Run n_X7_isPara 110 0 (ini n_X7_isPara [.ref 98, .int s, .int p]) [] (HH n kf f) (Ret (some (.int (bI (isPa B s p)))) (HH n kf f)) := by
  have hT : mT n_X7_isPara = tb_X7_isPara := rfl
  have hno : isPa B s p = false → Run n_X7_isPara 110 28 [some (.ref 98), some (.int s), some (.int p)] [] (HH n kf f) (Ret (some (.int (bI (isPa B s p)))) (HH n kf f)) := by
    intro e
    rw [e]
    refine v_p hT rfl rfl ?_
    refine v_ret hT rfl (fun _ => Or.inl rfl) rfl ⟨rfl, rfl⟩
  refine v_p hT rfl rfl ?_
  refine v_scall hT [.int s, .int (nI 0), .int (nI 1)] rfl rfl rfl rfl (Nat.le_of_ble_eq_true rfl) (Nat.le_of_ble_eq_true rfl) (m_in s (nI 0) (nI 1)) ?_
  by_cases c1 : nI 0 ≤ s ∧ s ≤ nI 1
  · rw [decide_eq_true c1]
    obtain ⟨Z, z0, z2⟩ := int_04 (by omega) c1
    subst z2
    have z1 : Z < 2 := by omega
    have hn := hV.1 Z z1
    refine g_if hT rfl (fun cq => ?_) (fun cq => ?_)
    · cases bf_of cq
    · refine v_p hT rfl rfl ?_
      refine v_call hT [.int (nI Z)] rfl rfl (by first | rfl | assumption) (by omega) rfl rfl (Nat.le_of_ble_eq_true rfl) (Nat.le_of_ble_eq_true rfl) (m_many z1) ?_
      rw [hR.2.2.1 Z z1]
      refine v_p hT rfl rfl ?_
      refine v_scall hT [.int p, .int (nI 0), .int (nI (bNp B Z) - nI 1)] rfl rfl rfl rfl (Nat.le_of_ble_eq_true rfl) (Nat.le_of_ble_eq_true rfl) (m_in p (nI 0) (nI (bNp B Z) - nI 1)) ?_
      by_cases c2 : ∃ k, k < bNp B Z ∧ p = nI k
      · obtain ⟨k, hk, e⟩ := c2
        subst e
        rw [pk_sub (by omega), decide_eq_true (show nI 0 ≤ nI k ∧ nI k ≤ nI (bNp B Z - 1) from ⟨(cj_le (a := 0) (b := k) (by omega) (by omega)).mpr (by omega), (cj_le (a := k) (b := bNp B Z - 1) (by omega) (by omega)).mpr (by omega)⟩), isPa_t z1 hk]
        refine g_if hT rfl (fun cq2 => ?_) (fun cq2 => ?_)
        · cases bf_of cq2
        · refine v_p hT rfl rfl ?_
          refine v_ret hT rfl (fun _ => Or.inr rfl) rfl ⟨rfl, rfl⟩
      · have hf : decide (nI 0 ≤ p ∧ p ≤ nI (bNp B Z) - nI 1) = false := by
          refine decide_eq_false (fun ⟨h1, h2⟩ => c2 ?_)
          by_cases hz : bNp B Z = 0
          · rw [hz] at h2
            exact absurd (Int32.le_trans h1 h2) (by decide)
          · rw [pk_sub (by omega)] at h2
            obtain ⟨k, k1, k2⟩ := int_04 (by omega) ⟨h1, h2⟩
            exact ⟨k, by omega, k2⟩
        rw [hf]
        refine g_if hT rfl (fun cq2 => ?_) (fun cq2 => ?_)
        · refine hno (isPa_n ?_)
          intro ⟨s2, p2, g1, g2, g3, g4⟩
          have e1 := (cj_eq (a := Z) (b := s2) (by omega) (by omega)).mp g3
          subst e1
          exact c2 ⟨p2, g2, g4⟩
        · exact absurd rfl cq2
  · rw [decide_eq_false c1]
    refine g_if hT rfl (fun cq => ?_) (fun cq => ?_)
    · refine hno (isPa_n ?_)
      intro ⟨s2, p2, g1, g2, g3, g4⟩
      rw [g3] at c1
      exact c1 ⟨(cj_le (a := 0) (b := s2) (by omega) (by omega)).mpr (by omega), (cj_le (a := s2) (b := 1) (by omega) (by omega)).mpr (by omega)⟩
    · exact absurd rfl cq
