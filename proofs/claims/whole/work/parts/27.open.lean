/-! THE CLASS: what is asked of the layout. -/
theorem opN_of {P : LYP} {k : Nat} (hk : k < opN P) : rkF P 0 0 ≠ nvr ∧ opN P = rkF P 0 0 % 128 ∧ opI P = nI (opN P) := by
  by_cases hn : rkF P 0 0 = nvr
  · have h0 : opN P = 0 := by unfold opN; rw [decide_eq_true hn]; rfl
    omega
  · have h0 : opN P = rkF P 0 0 % 128 := by unfold opN; rw [decide_eq_false hn]; rfl
    refine ⟨hn, h0, ?_⟩
    unfold opI
    rw [decide_eq_false hn, h0]
    rfl
theorem opN_le {P : LYP} (hP : PBd P) : opN P ≤ 120 := by
  by_cases hn : rkF P 0 0 = nvr
  · have h0 : opN P = 0 := by unfold opN; rw [decide_eq_true hn]; rfl
    omega
  · have h0 : opN P = rkF P 0 0 % 128 := by unfold opN; rw [decide_eq_false hn]; rfl
    obtain ⟨p1, p2, p3, p4⟩ := id hP
    rcases rkF_lt p1 p2 p3 p4 (Nat.zero_le P.1) (Nat.zero_le P.2.1) with h | h
    · exact absurd h hn
    · omega
/-- a place of a side -/
noncomputable def pcF (P : LYP) (s k : Nat) : Nat := if s = 0 then (posF P k).1 else (posF P k).2
theorem pos_1 {P : LYP} (hP : PBd P) {k : Nat} (hk : k < opN P) : (posF P k).1 ≤ (posF P (k + 1)).1 ∧ (posF P k).2 ≤ (posF P (k + 1)).2 ∧ (posF P (k + 1)).1 - (posF P k).1 ≤ P.2.2.1 ∧ (posF P (k + 1)).2 - (posF P k).2 ≤ P.2.2.1 ∧ (posF P (k + 1)).1 ≤ P.1 ∧ (posF P (k + 1)).2 ≤ P.2.1 := by
  obtain ⟨h1, h2, h3⟩ := opN_of hk
  have h4 := pos_pk hP h1 (k := k) (by omega)
  have h5 := pos_ok hP h1 (k + 1) (by omega)
  obtain ⟨a1, a2, _⟩ := h4
  refine ⟨?_, ?_, ?_, ?_, h5.1, h5.2.1⟩
  · show _ ≤ (posF P k).1 + _; omega
  · show _ ≤ (posF P k).2 + _; omega
  · show (posF P k).1 + _ - _ ≤ _; omega
  · show (posF P k).2 + _ - _ ≤ _; omega
theorem pc_1 {P : LYP} (hP : PBd P) {s k : Nat} (hk : k < opN P) : pcF P s k ≤ pcF P s (k + 1) ∧ pcF P s (k + 1) ≤ 60 := by
  have h := pos_1 hP hk
  obtain ⟨p1, p2, p3, p4⟩ := id hP
  unfold pcF
  by_cases hs : s = 0
  · rw [if_pos hs, if_pos hs]; omega
  · rw [if_neg hs, if_neg hs]; omega
noncomputable def opS (P : LYP) (s l : Nat) : Nat → Nat → Int32
  | 0, _ => mI 1
  | d + 1, k => if l < pcF P s (k + 1) then nI k else opS P s l d (k + 1)
noncomputable def opW (P : LYP) (s l : Nat) : Int32 := opS P s l (opN P) 0
theorem opS_no {P : LYP} {s l : Nat} : ∀ d k, (∀ j, k ≤ j → j < k + d → ¬ l < pcF P s (j + 1)) → opS P s l d k = mI 1 := by
  intro d
  induction d with
  | zero => intro k _; rfl
  | succ d ih =>
    intro k h
    show (if l < pcF P s (k + 1) then nI k else opS P s l d (k + 1)) = _
    rw [if_neg (h k (by omega) (by omega))]
    exact ih (k + 1) (fun j h1 h2 => h j (by omega) (by omega))
theorem opS_yes {P : LYP} {s l q : Nat} : ∀ d k, k ≤ q → q < k + d → l < pcF P s (q + 1) → (∀ j, k ≤ j → j < q → ¬ l < pcF P s (j + 1)) → opS P s l d k = nI q := by
  intro d
  induction d with
  | zero => intro k h1 h2; omega
  | succ d ih =>
    intro k h1 h2 h3 h4
    show (if l < pcF P s (k + 1) then nI k else opS P s l d (k + 1)) = _
    by_cases hq : k = q
    · subst hq; rw [if_pos h3]
    · rw [if_neg (h4 k (by omega) (by omega))]
      exact ih (k + 1) (by omega) (by omega) h3 (fun j h5 h6 => h4 j (by omega) h6)
theorem pc_mono {P : LYP} (hP : PBd P) {s j : Nat} : ∀ d, j + d ≤ opN P → pcF P s j ≤ pcF P s (j + d) := by
  intro d
  induction d with
  | zero => intro _; exact Nat.le_refl _
  | succ d ih =>
    intro h
    exact Nat.le_trans (ih (by omega)) (pc_1 hP (show j + d < opN P by omega)).1
theorem opW_yes {P : LYP} (hP : PBd P) {s l q : Nat} (hq : q < opN P) (h1 : pcF P s q ≤ l) (h2 : l < pcF P s (q + 1)) : opW P s l = nI q := by
  refine opS_yes _ _ (Nat.zero_le _) (by omega) h2 (fun j _ hj => ?_)
  have h3 := pc_mono hP (s := s) (j := j + 1) (q - (j + 1)) (by omega)
  rw [show j + 1 + (q - (j + 1)) = q by omega] at h3
  omega
theorem opW_no {P : LYP} {s l : Nat} (h : ∀ j, j < opN P → ¬ l < pcF P s (j + 1)) : opW P s l = mI 1 := opS_no _ _ (fun j _ hj => h j (by omega))
theorem s_openingWith {n s l : Nat} {kf : Nat → Nat} {f : Nat → Nat → Int32} {B : BK} (hV : VB B) (hL : layR f B) (hs : s < 2) (hl : l < 2 ^ 31) :
    Run n_X2_openingWith 110 0 (ini n_X2_openingWith [.ref 89, .int (nI s), .int (nI l)]) [] (HH n kf f) (Ret (some (.int (opW (lyP B) s l))) (HH n kf f)) := by
  have hT : mT n_X2_openingWith = tb_X2_openingWith := rfl
  have hP := lyP_bd hV
  obtain ⟨_, h9, _, hst⟩ := hL
  have h120 := opN_le hP
  have loop : ∀ d k, k + d = opN (lyP B) → Run n_X2_openingWith 110 25 [some (.ref 89), some (.int (nI s)), some (.int (nI l)), some (.ref (94 + s)), some (.int (nI k))] [.int (opI (lyP B)), .int (nI k)] (HH n kf f) (Ret (some (.int (opS (lyP B) s l d k))) (HH n kf f)) := by
    intro d
    induction d with
    | zero =>
      intro k hk
      refine g_cmp hT rfl (fun cq => ?_) (fun cq => ?_)
      · refine v_p hT rfl rfl ?_
        refine v_ret hT rfl (fun z => by cases z) rfl ⟨rfl, rfl⟩
      · exfalso
        apply cq
        by_cases hn : rkF (lyP B) 0 0 = nvr
        · have e0 : opN (lyP B) = 0 := by unfold opN; rw [decide_eq_true hn]; rfl
          have e1 : opI (lyP B) = mI 1 := by unfold opI; rw [decide_eq_true hn]; rfl
          have e2 : k = 0 := by omega
          subst e2
          rw [e1]
          show mI 1 ≤ nI 0
          decide
        · have e0 : opN (lyP B) = rkF (lyP B) 0 0 % 128 := by unfold opN; rw [decide_eq_false hn]; rfl
          have e1 : opI (lyP B) = nI (opN (lyP B)) := by rw [e0]; unfold opI; rw [decide_eq_false hn]; rfl
          rw [e1]
          exact (cj_ge (by omega) (by omega)).mpr (by omega)
    | succ d ih =>
      intro k hk
      have e1 := (opN_of (show k < opN (lyP B) by omega)).2.2
      have hv := hst (k + 1) (by omega)
      have hb := pc_1 hP (s := s) (show k < opN (lyP B) by omega)
      have hc : f (94 + s) (k + 1) = nI (pcF (lyP B) s (k + 1)) := by
        rcases (show s = 0 ∨ s = 1 by omega) with e | e
        · subst e; exact hv.1
        · subst e; exact hv.2
      have hkd : kd (94 + s) = (1, 121) := by
        rcases (show s = 0 ∨ s = 1 by omega) with e | e
        · subst e; rfl
        · subst e; rfl
      have ih' := ih (k + 1) (by omega)
      rw [e1] at ih' ⊢
      refine g_cmp hT rfl (fun cq => ?_) (fun cq => ?_)
      · exact absurd ((cj_ge (by omega) (by omega)).mp cq) (by omega)
      · refine v_p hT rfl rfl ?_
        rw [nI_add]
        refine v_ald hT rfl (by first | assumption | rfl) (by omega) (by decide) (by omega) ?_
        rw [hc]
        show Run _ _ _ _ _ _ (Ret (some (.int (if l < pcF (lyP B) s (k + 1) then nI k else opS (lyP B) s l d (k + 1)))) _)
        refine g_cmp hT rfl (fun cq2 => ?_) (fun cq2 => ?_)
        · have cq2 := (cj_ge (by omega) (by omega)).mp cq2
          rw [if_neg (by omega)]
          refine v_p hT rfl rfl ?_
          refine v_geti hT rfl (by first | rfl | assumption) (by omega) ?_
          rw [h9, e1]
          refine v_cv ih' ⟨rfl, rfl, rfl, rfl, ?_, trivial⟩ ?_ rfl
          · rw [nI_add]
          · rw [nI_add]
        · have cq2 := (not_congr (cj_ge (by omega) (by omega))).mp cq2
          rw [if_pos (by omega)]
          refine v_p hT rfl rfl ?_
          refine v_ret hT rfl (fun z => by cases z) rfl ⟨rfl, rfl⟩
  have hloop := loop (opN (lyP B)) 0 (by omega)
  refine v_p hT rfl rfl ?_
  refine g_if hT rfl (fun cq => ?_) (fun cq => ?_)
  · have cq := (cj_ne (a := s) (b := 0) (by omega) (by omega)).mp cq
    have e : s = 1 := by omega
    subst e
    refine v_p hT rfl rfl ?_
    refine v_getr hT rfl rfl (by omega) rfl ?_
    refine v_p hT rfl rfl ?_
    refine v_geti hT rfl (by first | rfl | assumption) (by omega) ?_
    rw [h9]
    exact hloop
  · have cq := (not_congr (cj_ne (a := s) (b := 0) (by omega) (by omega))).mp cq
    have e : s = 0 := by omega
    subst e
    refine v_p hT rfl rfl ?_
    refine v_getr hT rfl rfl (by omega) rfl ?_
    refine v_p hT rfl rfl ?_
    refine v_geti hT rfl (by first | rfl | assumption) (by omega) ?_
    rw [h9]
    exact hloop
noncomputable def ocF (P : LYP) (k : Nat) : Int32 := if k + 1 = opN P then nI 0 else nI (tollF P.2.2.1 P.2.2.2.1 ((posF P (k + 1)).1 - (posF P k).1) ((posF P (k + 1)).2 - (posF P k).2))
theorem s_costOf {n k : Nat} {kf : Nat → Nat} {f : Nat → Nat → Int32} {B : BK} (hV : VB B) (hL : layR f B) (hk : k < opN (lyP B)) :
    Run n_X2_costOf 110 0 (ini n_X2_costOf [.ref 89, .int (nI k)]) [] (HH n kf f) (Ret (some (.int (ocF (lyP B) k))) (HH n kf f)) := by
  have hT : mT n_X2_costOf = tb_X2_costOf := rfl
  have hP := lyP_bd hV
  obtain ⟨hc, h9, _, hst⟩ := hL
  have h120 := opN_le hP
  have e1 := (opN_of hk).2.2
  have hv := hst k (by omega)
  have hv1 := hst (k + 1) (by omega)
  obtain ⟨b1, b2, b3, b4, _⟩ := pos_1 hP hk
  have h12 := hP.1
  refine v_p hT rfl rfl ?_
  refine v_geti hT rfl (by first | rfl | assumption) (by omega) ?_
  rw [h9, e1]
  refine v_p hT rfl rfl ?_
  rw [pk_sub (by omega)]
  unfold ocF
  refine g_cmp hT rfl (fun cq => ?_) (fun cq => ?_)
  · have cq := (cj_ne (by omega) (by omega)).mp cq
    rw [if_neg (by omega)]
    refine v_p hT rfl rfl ?_
    refine v_getr hT rfl rfl (by omega) rfl ?_
    refine v_p hT rfl rfl ?_
    refine v_call hT [.int (nI k)] rfl rfl (by first | rfl | assumption) (by omega) rfl rfl (Nat.le_of_ble_eq_true rfl) (Nat.le_of_ble_eq_true rfl) (s_taken0 (by omega) hv.1 hv1.1 b1) ?_
    refine v_p hT rfl rfl ?_
    refine v_call hT [.int (nI k)] rfl rfl (by first | rfl | assumption) (by omega) rfl rfl (Nat.le_of_ble_eq_true rfl) (Nat.le_of_ble_eq_true rfl) (s_taken1 (by omega) hv.2 hv1.2 b2) ?_
    refine v_p hT rfl rfl ?_
    rw [pk_mul, nI_add]
    refine v_ald hT rfl (by first | assumption | rfl) (by omega) (by decide) (by omega) ?_
    rw [hc.2.2.2 _ _ b3 b4]
    refine v_ret hT rfl (fun z => by cases z) rfl ⟨rfl, rfl⟩
  · have cq := Classical.not_not.mp ((not_congr (cj_ne (by omega) (by omega))).mp cq)
    rw [if_pos (by omega)]
    refine v_p hT rfl rfl ?_
    refine v_ret hT rfl (fun z => by cases z) rfl ⟨rfl, rfl⟩
