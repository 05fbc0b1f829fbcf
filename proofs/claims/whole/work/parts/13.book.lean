/-! THE CLASS: its small methods, and a book's reads. -/
theorem s_within (x y z : Int32) {n : Nat} {kf : Nat → Nat} {f : Nat → Nat → Int32} : Run n_X6_within 110 0 (ini n_X6_within [.int x, .int y, .int z]) [] (HH n kf f) (Ret (some (.int (bI (decide (y ≤ x ∧ x ≤ z))))) (HH n kf f)) := by
  have hT : mT n_X6_within = tb_X6_within := rfl
  refine v_p hT rfl rfl ?_
  refine g_cmp hT rfl (fun q => ?_) (fun q => ?_)
  · have q : x < y := q
    refine v_p hT rfl rfl ?_
    refine v_ret hT rfl (fun _ => Or.inl rfl) rfl ⟨?_, rfl⟩
    rw [decide_eq_false (fun z => Int32.not_le.mpr q z.1)]
    rfl
  · have q : ¬ x < y := q
    refine v_p hT rfl rfl ?_
    refine g_cmp hT rfl (fun q2 => ?_) (fun q2 => ?_)
    · have q2 : z < x := q2
      refine v_p hT rfl rfl ?_
      refine v_ret hT rfl (fun _ => Or.inl rfl) rfl ⟨?_, rfl⟩
      rw [decide_eq_false (fun z => Int32.not_le.mpr q2 z.2)]
      rfl
    · have q2 : ¬ z < x := q2
      refine v_p hT rfl rfl ?_
      refine v_ret hT rfl (fun _ => Or.inr rfl) rfl ⟨?_, rfl⟩
      rw [decide_eq_true ⟨Int32.not_lt.mp q, Int32.not_lt.mp q2⟩]
      rfl
theorem s_isSide (x : Int32) {n : Nat} {kf : Nat → Nat} {f : Nat → Nat → Int32} : Run n_X6_isSide 110 0 (ini n_X6_isSide [.int x]) [] (HH n kf f) (Ret (some (.int (bI (decide (0 ≤ x ∧ x ≤ 1))))) (HH n kf f)) := by
  have hT : mT n_X6_isSide = tb_X6_isSide := rfl
  refine v_p hT rfl rfl ?_
  refine v_scall hT [.int x, .int (nI 0), .int (nI 1)] rfl rfl rfl rfl (Nat.le_of_ble_eq_true rfl) (Nat.le_of_ble_eq_true rfl) (s_within x (nI 0) (nI 1)) ?_
  refine v_ret hT rfl (fun _ => bI_or _) rfl ⟨?_, rfl⟩
  rfl
theorem s_slot (s p : Nat) {n : Nat} {kf : Nat → Nat} {f : Nat → Nat → Int32} : Run n_X0_slot 110 0 (ini n_X0_slot [.int (nI s), .int (nI p)]) [] (HH n kf f) (Ret (some (.int (nI (s * 8 + p)))) (HH n kf f)) := by
  have hT : mT n_X0_slot = tb_X0_slot := rfl
  refine v_p hT rfl rfl ?_
  simp only [nI_add, pk_mul]
  refine v_ret hT rfl (fun z => by cases z) rfl ⟨rfl, rfl⟩
theorem int_lo {x : Int32} (h : 0 ≤ x ∧ x ≤ 1) : x = nI 0 ∨ x = nI 1 := by
  obtain ⟨k, h1, h2, e⟩ := in_range (a := 0) (b := 1) x (by omega) h (by omega)
  subst e
  rcases (show k = 0 ∨ k = 1 by omega) with rfl | rfl
  · exact Or.inl rfl
  · exact Or.inr rfl
/-- is it a paragraph's side and number -/
noncomputable def isPa (B : BK) (s p : Int32) : Bool := pB (∃ s2 p2 : Nat, s2 < 2 ∧ p2 < bNp B s2 ∧ s = nI s2 ∧ p = nI p2)
theorem isPa_t {B : BK} {s p : Nat} (hs : s < 2) (hp : p < bNp B s) : isPa B (nI s) (nI p) = true := pB_t ⟨s, p, hs, hp, rfl, rfl⟩
theorem isPa_of {B : BK} {s p : Int32} (h : isPa B s p = true) : ∃ s2 p2 : Nat, s2 < 2 ∧ p2 < bNp B s2 ∧ s = nI s2 ∧ p = nI p2 := pB_of h
theorem isPa_n {B : BK} {s p : Int32} (h : ¬ ∃ s2 p2 : Nat, s2 < 2 ∧ p2 < bNp B s2 ∧ s = nI s2 ∧ p = nI p2) : isPa B s p = false := pB_f h
theorem s_hasParagraph {b n : Nat} {kf : Nat → Nat} {f : Nat → Nat → Int32} {B : BK} (hb : isBk b) (hR : bkR f b B) (hV : VB0 B) (s p : Int32) :
    Run n_X0_hasParagraph 110 0 (ini n_X0_hasParagraph [.ref b, .int s, .int p]) [] (HH n kf f) (Ret (some (.int (bI (isPa B s p)))) (HH n kf f)) := by
  have hT : mT n_X0_hasParagraph = tb_X0_hasParagraph := rfl
  obtain ⟨k0, k1, k2, k3, k4, k5, k6, k7, k8⟩ := bk_kd hb
  have hlt := bk_lt hb
  refine v_p hT rfl rfl ?_
  refine v_scall hT [.int s] rfl rfl rfl rfl (Nat.le_of_ble_eq_true rfl) (Nat.le_of_ble_eq_true rfl) (s_isSide s) ?_
  by_cases hs : 0 ≤ s ∧ s ≤ 1
  · rw [decide_eq_true hs]
    obtain ⟨s2, hs2, rfl⟩ : ∃ s2 : Nat, s2 < 2 ∧ s = nI s2 := by rcases int_lo hs with e | e <;> exact ⟨_, by omega, e⟩
    have hn8 := hV.1 s2 hs2
    refine g_if hT rfl (fun q => ?_) (fun q => ?_)
    · exact absurd (show (1 : Int32) = 0 from q) (by decide)
    · refine v_p hT rfl rfl ?_
      refine g_if hT rfl (fun q2 => ?_) (fun q2 => ?_)
      · have q2 : p < 0 := q2
        refine v_p hT rfl rfl ?_
        refine v_ret hT rfl (fun _ => Or.inl rfl) rfl ⟨?_, rfl⟩
        rw [isPa_n]
        · rfl
        · intro ⟨s3, p3, h1, h2, h3, h4⟩
          have hn := hV.1 s3 h1
          rw [h4] at q2
          exact nI_pos (by omega) q2
      · have q2 : ¬ p < 0 := q2
        obtain ⟨p2, hp2, rfl⟩ := nI_of q2
        repeat (first | refine v_p hT rfl rfl ?_ | refine v_getr hT rfl rfl (by omega) rfl ?_ | refine v_getr hT rfl k0 (by omega) (bk_rr hb _ _ _ (by decide)) ?_ | refine v_geti hT rfl (by first | rfl | assumption) (by omega) ?_ | refine v_ald hT rfl (by first | assumption | rfl) (by omega) (by decide) (by omega) ?_ | simp only [nI_add, pk_mul, hR.1 s2 hs2])
        refine g_cmp hT rfl (fun q3 => ?_) (fun q3 => ?_)
        · have q3 := (cj_ge hp2 (by omega)).mp q3
          refine v_p hT rfl rfl ?_
          refine v_ret hT rfl (fun _ => Or.inl rfl) rfl ⟨?_, rfl⟩
          rw [isPa_n]
          · rfl
          · intro ⟨s3, p3, h1, h2, h3, h4⟩
            have e1 := (nI_eq (by omega) (by omega)).mp h3
            subst e1
            have e2 := (nI_eq hp2 (by omega)).mp h4
            omega
        · have q3 := (not_congr (cj_ge hp2 (by omega))).mp q3
          refine v_p hT rfl rfl ?_
          refine v_ret hT rfl (fun _ => Or.inr rfl) rfl ⟨?_, rfl⟩
          rw [isPa_t hs2 (by omega)]
          rfl
  · rw [decide_eq_false hs]
    refine g_if hT rfl (fun q => ?_) (fun q => ?_)
    · refine v_p hT rfl rfl ?_
      refine v_ret hT rfl (fun _ => Or.inl rfl) rfl ⟨?_, rfl⟩
      rw [isPa_n]
      · rfl
      · intro ⟨s3, p3, h1, h2, h3, h4⟩
        rw [h3] at hs
        exact hs ⟨nI_pos' (by omega), nI_le (b := 1) (by omega) (by omega)⟩
    · exact absurd rfl q
theorem s_wordsIn {b n s p : Nat} {kf : Nat → Nat} {f : Nat → Nat → Int32} (hb : isBk b) (hs : s * 8 + p < 16) :
    Run n_X0_wordsIn 110 0 (ini n_X0_wordsIn [.ref b, .int (nI s), .int (nI p)]) [] (HH n kf f) (Ret (some (.int (f (b + 2) (s * 8 + p)))) (HH n kf f)) := by
  have hT : mT n_X0_wordsIn = tb_X0_wordsIn := rfl
  obtain ⟨k0, k1, k2, k3, k4, k5, k6, k7, k8⟩ := bk_kd hb
  have hlt := bk_lt hb
  repeat (first | refine v_p hT rfl rfl ?_ | refine v_getr hT rfl rfl (by omega) rfl ?_ | refine v_getr hT rfl k0 (by omega) (bk_rr hb _ _ _ (by decide)) ?_ | refine v_geti hT rfl (by first | rfl | assumption) (by omega) ?_ | refine v_ald hT rfl (by first | assumption | rfl) (by omega) (by decide) (by omega) ?_ | simp only [nI_add, pk_mul])
  refine v_scall hT [.int (nI s), .int (nI p)] rfl rfl rfl rfl (Nat.le_of_ble_eq_true rfl) (Nat.le_of_ble_eq_true rfl) (s_slot s p) ?_
  refine v_ald hT rfl (by first | assumption | rfl) (by omega) (by decide) (by omega) ?_
  refine v_ret hT rfl (fun z => by cases z) rfl ⟨rfl, rfl⟩
theorem s_lengthOf {b n s p k : Nat} {kf : Nat → Nat} {f : Nat → Nat → Int32} (hb : isBk b) (hs : s * 8 + p < 16) (hk : k < 12) :
    Run n_X0_lengthOf 110 0 (ini n_X0_lengthOf [.ref b, .int (nI s), .int (nI p), .int (nI k)]) [] (HH n kf f) (Ret (some (.int (f (b + 3) ((s * 8 + p) * 12 + k)))) (HH n kf f)) := by
  have hT : mT n_X0_lengthOf = tb_X0_lengthOf := rfl
  obtain ⟨k0, k1, k2, k3, k4, k5, k6, k7, k8⟩ := bk_kd hb
  have hlt := bk_lt hb
  repeat (first | refine v_p hT rfl rfl ?_ | refine v_getr hT rfl rfl (by omega) rfl ?_ | refine v_getr hT rfl k0 (by omega) (bk_rr hb _ _ _ (by decide)) ?_ | refine v_geti hT rfl (by first | rfl | assumption) (by omega) ?_ | refine v_ald hT rfl (by first | assumption | rfl) (by omega) (by decide) (by omega) ?_ | simp only [nI_add, pk_mul])
  refine v_scall hT [.int (nI s), .int (nI p)] rfl rfl rfl rfl (Nat.le_of_ble_eq_true rfl) (Nat.le_of_ble_eq_true rfl) (s_slot s p) ?_
  repeat (first | refine v_p hT rfl rfl ?_ | refine v_getr hT rfl rfl (by omega) rfl ?_ | refine v_getr hT rfl k0 (by omega) (bk_rr hb _ _ _ (by decide)) ?_ | refine v_geti hT rfl (by first | rfl | assumption) (by omega) ?_ | refine v_ald hT rfl (by first | assumption | rfl) (by omega) (by decide) (by omega) ?_ | simp only [nI_add, pk_mul])
  refine v_ret hT rfl (fun z => by cases z) rfl ⟨rfl, rfl⟩
theorem s_lineOf {b n sl k w : Nat} {kf : Nat → Nat} {f : Nat → Nat → Int32} {ln : Nat → Nat} (hb : isBk b) (hs : sl < 16) (hk : k < 12) (hw : f (b + 4) (sl / 8) = nI w) (hw2 : w ≤ 1000) (hln : ∀ i, i ≤ k → f (b + 3) (sl * 12 + i) = nI (ln i)) (hl2 : ∀ i, i ≤ k → ln i ≤ 1000) :
    Run n_X0_lineOf 110 0 (ini n_X0_lineOf [.ref b, .int (nI sl), .int (nI k)]) [] (HH n kf f) (Ret (some (.int (nI (lineF w ln k).1))) (HH n kf f)) := by
  have hT : mT n_X0_lineOf = tb_X0_lineOf := rfl
  obtain ⟨k0, k1, k2, k3, k4, k5, k6, k7, k8⟩ := bk_kd hb
  have hlt := bk_lt hb
  have loop : ∀ dd i : Nat, i + dd = k + 1 → 1 ≤ i → Run n_X0_lineOf 110 34 [some (.ref b), some (.int (nI sl)), some (.int (nI k)), some (.int (nI w)), some (.int (nI (sl * 12))), some (.int (nI (lineF w ln (i - 1)).1)), some (.int (nI (lineF w ln (i - 1)).2)), some (.int (nI i)), none] [.int (nI k), .int (nI i)] (HH n kf f) (Ret (some (.int (nI (lineF w ln k).1))) (HH n kf f)) := by
    intro dd
    induction dd with
    | zero =>
      intro i hi h1
      refine g_cmp hT rfl (fun q => ?_) (fun q => ?_)
      · refine v_p hT rfl rfl ?_
        refine v_ret hT rfl (fun z => by cases z) rfl ⟨?_, rfl⟩
        rw [show i - 1 = k by omega]
      · exact absurd ((cj_gt (by omega) (by omega)).mpr (by omega)) q
    | succ dd ih =>
      intro i hi h1
      refine g_cmp hT rfl (fun q => ?_) (fun q => ?_)
      · exact absurd ((cj_gt (by omega) (by omega)).mp q) (by omega)
      · repeat (first | refine v_p hT rfl rfl ?_ | refine v_getr hT rfl rfl (by omega) rfl ?_ | refine v_getr hT rfl k0 (by omega) (bk_rr hb _ _ _ (by decide)) ?_ | refine v_geti hT rfl (by first | rfl | assumption) (by omega) ?_ | refine v_ald hT rfl (by first | assumption | rfl) (by omega) (by decide) (by omega) ?_ | simp only [nI_add, pk_mul, hln i (by omega)])
        have hu := lineF_used w 1000 ln (i - 1) hw2 (fun z hz => hl2 z (by omega))
        have hli := hl2 i (by omega)
        obtain ⟨j, rfl⟩ : ∃ j, i = j + 1 := ⟨i - 1, by omega⟩
        refine g_cmp hT rfl (fun q => ?_) (fun q => ?_)
        · have q := (cj_gt (by omega) (by omega)).mp q
          have e : lineF w ln (j + 1) = ((lineF w ln j).1 + 1, ln (j + 1)) := by
            show (if _ then _ else _) = _
            rw [if_neg (by simp at q; omega)]
          refine v_p hT rfl rfl ?_
          refine v_cv (ih (j + 1 + 1) (by omega) (by omega)) ⟨rfl, rfl, rfl, rfl, rfl, ?_, ?_, ?_, trivial⟩ ?_ rfl <;> simp [e, nI_add]
        · have q := (not_congr (cj_gt (by omega) (by omega))).mp q
          have e : lineF w ln (j + 1) = ((lineF w ln j).1, (lineF w ln j).2 + 1 + ln (j + 1)) := by
            show (if _ then _ else _) = _
            rw [if_pos (by simp at q; omega)]
          refine v_p hT rfl rfl ?_
          refine v_cv (ih (j + 1 + 1) (by omega) (by omega)) ⟨rfl, rfl, rfl, rfl, rfl, ?_, ?_, ?_, trivial⟩ ?_ rfl <;> simp [e, nI_add, Nat.add_assoc]
  refine v_p hT rfl rfl ?_
  refine v_getr hT rfl k0 (by omega) (bk_rr hb _ _ _ (by decide)) ?_
  refine v_p hT rfl rfl ?_
  refine g_divN hT rfl (by omega) (by omega) (by omega) ?_
  refine v_ald hT rfl (by first | assumption | rfl) (by omega) (by decide) (by omega) ?_
  rw [hw]
  repeat (first | refine v_p hT rfl rfl ?_ | refine v_getr hT rfl rfl (by omega) rfl ?_ | refine v_getr hT rfl k0 (by omega) (bk_rr hb _ _ _ (by decide)) ?_ | refine v_geti hT rfl (by first | rfl | assumption) (by omega) ?_ | refine v_ald hT rfl (by first | assumption | rfl) (by omega) (by decide) (by omega) ?_ | simp only [nI_add, pk_mul, show f (b + 3) (sl * 12) = nI (ln 0) from hln 0 (by omega)])
  exact loop k 1 (by omega) (by omega)
theorem s_hasTie {b n : Nat} {kf : Nat → Nat} {f : Nat → Nat → Int32} {nt : Nat} (hb : isBk b) (hR : f b 8 = nI nt) (hn : nt ≤ 10) (i : Int32) :
    Run n_X0_hasTie 110 0 (ini n_X0_hasTie [.ref b, .int i]) [] (HH n kf f) (Ret (some (.int (bI (pB (∃ k, k < nt ∧ i = nI k))))) (HH n kf f)) := by
  have hT : mT n_X0_hasTie = tb_X0_hasTie := rfl
  obtain ⟨k0, k1, k2, k3, k4, k5, k6, k7, k8⟩ := bk_kd hb
  have hlt := bk_lt hb
  refine v_p hT rfl rfl ?_
  refine g_if hT rfl (fun q => ?_) (fun q => ?_)
  · have q : i < 0 := q
    refine v_p hT rfl rfl ?_
    refine v_ret hT rfl (fun _ => Or.inl rfl) rfl ⟨?_, rfl⟩
    rw [pB_f]
    · rfl
    · intro ⟨k, h1, h2⟩
      rw [h2] at q
      exact nI_pos (by omega) q
  · have q : ¬ i < 0 := q
    obtain ⟨k, hk, rfl⟩ := nI_of q
    repeat (first | refine v_p hT rfl rfl ?_ | refine v_getr hT rfl rfl (by omega) rfl ?_ | refine v_getr hT rfl k0 (by omega) (bk_rr hb _ _ _ (by decide)) ?_ | refine v_geti hT rfl (by first | rfl | assumption) (by omega) ?_ | refine v_ald hT rfl (by first | assumption | rfl) (by omega) (by decide) (by omega) ?_ | simp only [nI_add, pk_mul, hR])
    refine g_cmp hT rfl (fun q3 => ?_) (fun q3 => ?_)
    · have q3 := (cj_ge hk (by omega)).mp q3
      refine v_p hT rfl rfl ?_
      refine v_ret hT rfl (fun _ => Or.inl rfl) rfl ⟨?_, rfl⟩
      rw [pB_f]
      · rfl
      · intro ⟨k2, h1, h2⟩
        have e2 := (nI_eq hk (by omega)).mp h2
        omega
    · have q3 := (not_congr (cj_ge hk (by omega))).mp q3
      refine v_p hT rfl rfl ?_
      refine v_ret hT rfl (fun _ => Or.inr rfl) rfl ⟨?_, rfl⟩
      rw [pB_t ⟨k, by omega, rfl⟩]
      rfl
/-- lines of the paragraph in a slot, whose words are there -/
theorem s_linesIn {b n sl w nw : Nat} {kf : Nat → Nat} {f : Nat → Nat → Int32} {ln : Nat → Nat} (hb : isBk b) (hs : sl < 16) (hnw : f (b + 2) sl = nI nw) (h1 : 1 ≤ nw) (h12 : nw ≤ 12) (hw : f (b + 4) (sl / 8) = nI w) (hw2 : w ≤ 1000) (hln : ∀ i, i < nw → f (b + 3) (sl * 12 + i) = nI (ln i)) (hl2 : ∀ i, i < nw → ln i ≤ 1000) :
    Run n_X0_linesIn 110 0 (ini n_X0_linesIn [.ref b, .int (nI sl)]) [] (HH n kf f) (Ret (some (.int (nI ((lineF w ln (nw - 1)).1 + 1)))) (HH n kf f)) := by
  have hT : mT n_X0_linesIn = tb_X0_linesIn := rfl
  obtain ⟨k0, k1, k2, k3, k4, k5, k6, k7, k8⟩ := bk_kd hb
  have hlt := bk_lt hb
  repeat (first | refine v_p hT rfl rfl ?_ | refine v_getr hT rfl rfl (by omega) rfl ?_ | refine v_getr hT rfl k0 (by omega) (bk_rr hb _ _ _ (by decide)) ?_ | refine v_geti hT rfl (by first | rfl | assumption) (by omega) ?_ | refine v_ald hT rfl (by first | assumption | rfl) (by omega) (by decide) (by omega) ?_ | simp only [nI_add, pk_mul, hnw])
  rw [pk_sub h1]
  refine v_call hT [.int (nI sl), .int (nI (nw - 1))] rfl rfl (by first | rfl | assumption) (by omega) rfl rfl (Nat.le_of_ble_eq_true rfl) (Nat.le_of_ble_eq_true rfl) (s_lineOf hb hs (show nw - 1 < 12 by omega) hw hw2 (fun i hi => hln i (by omega)) (fun i hi => hl2 i (by omega))) ?_
  repeat (first | refine v_p hT rfl rfl ?_ | refine v_getr hT rfl rfl (by omega) rfl ?_ | refine v_getr hT rfl k0 (by omega) (bk_rr hb _ _ _ (by decide)) ?_ | refine v_geti hT rfl (by first | rfl | assumption) (by omega) ?_ | refine v_ald hT rfl (by first | assumption | rfl) (by omega) (by decide) (by omega) ?_ | simp only [nI_add, pk_mul])
  refine v_ret hT rfl (fun z => by cases z) rfl ⟨rfl, rfl⟩
theorem sl_div {s p : Nat} (hp : p < 8) : (s * 8 + p) / 8 = s := by omega
theorem s_linesInB {b n s p : Nat} {kf : Nat → Nat} {f : Nat → Nat → Int32} {B : BK} (hb : isBk b) (hR : bkR f b B) (hV : VB0 B) (hs : s < 2) (hp : p < bNp B s) :
    Run n_X0_linesIn 110 0 (ini n_X0_linesIn [.ref b, .int (nI (s * 8 + p))]) [] (HH n kf f) (Ret (some (.int (nI (linF B s p)))) (HH n kf f)) := by
  have h8 := hV.1 s hs
  have hw := hV.2.1 s p hs hp
  have hd := hV.2.2.1 s hs
  have hq := hR.2.1 s p hs hp
  exact s_linesIn hb (by omega) hq.1 hw.1 hw.2.1 (by rw [sl_div (by omega)]; exact hR.2.2.1 s hs) (by omega) hq.2 (fun i hi => by have := hw.2.2 i hi; omega)
theorem s_linesOfSide {b n s : Nat} {kf : Nat → Nat} {f : Nat → Nat → Int32} {B : BK} (hb : isBk b) (hR : bkR f b B) (hV : VB0 B) (hs : s < 2) :
    Run n_X0_linesOfSide 110 0 (ini n_X0_linesOfSide [.ref b, .int (nI s)]) [] (HH n kf f) (Ret (some (.int (nI (totF B s)))) (HH n kf f)) := by
  have hT : mT n_X0_linesOfSide = tb_X0_linesOfSide := rfl
  obtain ⟨k0, k1, k2, k3, k4, k5, k6, k7, k8⟩ := bk_kd hb
  have hlt := bk_lt hb
  have h8 := hV.1 s hs
  have loop : ∀ dd p : Nat, p + dd = bNp B s → Run n_X0_linesOfSide 110 11 [some (.ref b), some (.int (nI s)), some (.int (nI (fstF B s p))), some (.int (nI p))] [.int (nI (bNp B s)), .int (nI p)] (HH n kf f) (Ret (some (.int (nI (totF B s)))) (HH n kf f)) := by
    intro dd
    induction dd with
    | zero =>
      intro p hp
      refine g_cmp hT rfl (fun q => ?_) (fun q => ?_)
      · refine v_p hT rfl rfl ?_
        refine v_ret hT rfl (fun z => by cases z) rfl ⟨?_, rfl⟩
        rw [show p = bNp B s by omega]
        rfl
      · exact absurd ((cj_ge (by omega) (by omega)).mpr (by omega)) q
    | succ dd ih =>
      intro p hp
      refine g_cmp hT rfl (fun q => ?_) (fun q => ?_)
      · exact absurd ((cj_ge (by omega) (by omega)).mp q) (by omega)
      · refine v_p hT rfl rfl ?_
        refine v_scall hT [.int (nI s), .int (nI p)] rfl rfl rfl rfl (Nat.le_of_ble_eq_true rfl) (Nat.le_of_ble_eq_true rfl) (s_slot s p) ?_
        refine v_call hT [.int (nI (s * 8 + p))] rfl rfl (by first | rfl | assumption) (by omega) rfl rfl (Nat.le_of_ble_eq_true rfl) (Nat.le_of_ble_eq_true rfl) (s_linesInB hb hR hV hs (show p < bNp B s by omega)) ?_
        repeat (first | refine v_p hT rfl rfl ?_ | refine v_getr hT rfl rfl (by omega) rfl ?_ | refine v_getr hT rfl k0 (by omega) (bk_rr hb _ _ _ (by decide)) ?_ | refine v_geti hT rfl (by first | rfl | assumption) (by omega) ?_ | refine v_ald hT rfl (by first | assumption | rfl) (by omega) (by decide) (by omega) ?_ | simp only [nI_add, pk_mul, hR.1 s hs])
        exact ih (p + 1) (by omega)
  repeat (first | refine v_p hT rfl rfl ?_ | refine v_getr hT rfl rfl (by omega) rfl ?_ | refine v_getr hT rfl k0 (by omega) (bk_rr hb _ _ _ (by decide)) ?_ | refine v_geti hT rfl (by first | rfl | assumption) (by omega) ?_ | refine v_ald hT rfl (by first | assumption | rfl) (by omega) (by decide) (by omega) ?_ | simp only [nI_add, pk_mul, hR.1 s hs])
  exact loop (bNp B s) 0 (by omega)
