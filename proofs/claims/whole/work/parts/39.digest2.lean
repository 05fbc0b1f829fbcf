/-! THE CLASS: digest. -/
def dgf (a : Nat → Int32) : Nat → Int64 → Int64
  | 0, h => h
  | k + 1, h => lN 31 * dgf a k h + (a k).toInt64
noncomputable def dg2 (S : ST) : Int64 := dgf (ctA S.1) 10 (dgf (tlA S) 10 (lN 2591))
noncomputable def dg4 (S : ST) : Int64 := dgf (fun k => ofA S.1 1 (k / 5) (k % 5)) (5 * bNp S.1 1) (dgf (fun k => ofA S.1 0 (k / 5) (k % 5)) (5 * bNp S.1 0) (dg2 S))
noncomputable def dg5 (S : ST) : Int64 := dgf (fun k => tiA S.1 (k / 5) (k % 5)) (5 * bNt S.1) (dg4 S)
noncomputable def dgA (S : ST) : Int64 := dgf (fun k => opA (lyP S.1) (k / 5) (k % 5)) (5 * opN (lyP S.1)) (dg5 S)
theorem dg_lp1 {S : ST} (hV : VS S) (n : Nat) (kf : Nat → Nat) (f : Nat → Nat → Int32) : ∀ d k, k + d = 10 → ∀ F, RepC kf F S → (∀ c, 97 < c → F c = f c) → ∃ F2, RepC kf F2 S ∧ (∀ c, 97 < c → F2 c = f c) ∧ ∀ Φ, Run n_X6_digest 110 31 [some (.ref 0), some (.long (dgf (tlA S) 10 (lN 2591))), none, none, none, none] [] (HH n kf F2) Φ → Run n_X6_digest 110 9 [some (.ref 0), some (.long (dgf (tlA S) k (lN 2591))), none, some (.int (nI k)), none, none] [.int (nI 9), .int (nI k)] (HH n kf F) Φ := by
  have hT : mT n_X6_digest = tb_X6_digest := rfl
  have hP := lyP_bd hV.1
  have h120 := opN_le hP
  have h10 := hV.1.1.2.2.2.2.1
  intro d
  induction d with
  | zero =>
    intro k hk F hF hfr
    refine ⟨F, hF, hfr, fun Φ hΦ => ?_⟩
    have e : k = 10 := by omega
    subst e
    refine g_cmp hT rfl (fun cq => ?_) (fun cq => ?_)
    · exact v_cv hΦ ⟨rfl, rfl, trivial⟩ rfl rfl
    · exact absurd ((cj_gt (by omega) (by omega)).mpr (by omega)) cq
  | succ d ih =>
    intro k hk F hF hfr
    obtain ⟨F1, e1, e2, e3⟩ : ∃ F1, Run n_X6_told 110 0 (ini n_X6_told [.ref 0, .int (nI k)]) [] (HH n kf F) (Ret (some (.int (tlA S k))) (HH n kf F1)) ∧ RepC kf F1 S ∧ ∀ c, 97 < c → F1 c = F c := ⟨F, c_told hV (by omega) hF, hF, fun _ _ => rfl⟩
    obtain ⟨F2, g1, g2, g3⟩ := ih (k + 1) (by omega) F1 e2 (fun c hc => by rw [e3 c hc, hfr c hc])
    refine ⟨F2, g1, g2, fun Φ hΦ => ?_⟩
    refine g_cmp hT rfl (fun cq => ?_) (fun cq => ?_)
    · exact absurd ((cj_gt (by omega) (by omega)).mp cq) (by omega)
    · refine v_p hT rfl rfl ?_
      refine v_call hT [.int (nI k)] rfl rfl (by first | rfl | assumption) (by omega) rfl rfl (Nat.le_of_ble_eq_true rfl) (Nat.le_of_ble_eq_true rfl) (e1) ?_
      refine v_p hT rfl rfl ?_
      refine v_cv (g3 Φ hΦ) ⟨rfl, rfl, ?_, trivial⟩ ?_ rfl
      · rw [nI_add]
      · rw [nI_add]
theorem dg_lp2 {S : ST} (hV : VS S) (n : Nat) (kf : Nat → Nat) (f : Nat → Nat → Int32) : ∀ d k, k + d = 10 → ∀ F, RepC kf F S → (∀ c, 97 < c → F c = f c) → ∃ F2, RepC kf F2 S ∧ (∀ c, 97 < c → F2 c = f c) ∧ ∀ Φ, Run n_X6_digest 110 58 [some (.ref 0), some (.long (dgf (ctA S.1) 10 (dgf (tlA S) 10 (lN 2591)))), none, none, none, none] [] (HH n kf F2) Φ → Run n_X6_digest 110 36 [some (.ref 0), some (.long (dgf (ctA S.1) k (dgf (tlA S) 10 (lN 2591)))), none, some (.int (nI k)), none, none] [.int (nI 9), .int (nI k)] (HH n kf F) Φ := by
  have hT : mT n_X6_digest = tb_X6_digest := rfl
  have hP := lyP_bd hV.1
  have h120 := opN_le hP
  have h10 := hV.1.1.2.2.2.2.1
  intro d
  induction d with
  | zero =>
    intro k hk F hF hfr
    refine ⟨F, hF, hfr, fun Φ hΦ => ?_⟩
    have e : k = 10 := by omega
    subst e
    refine g_cmp hT rfl (fun cq => ?_) (fun cq => ?_)
    · exact v_cv hΦ ⟨rfl, rfl, trivial⟩ rfl rfl
    · exact absurd ((cj_gt (by omega) (by omega)).mpr (by omega)) cq
  | succ d ih =>
    intro k hk F hF hfr
    obtain ⟨F1, e1, e2, e3⟩ : ∃ F1, Run n_X6_count 110 0 (ini n_X6_count [.ref 0, .int (nI k)]) [] (HH n kf F) (Ret (some (.int (ctA S.1 k))) (HH n kf F1)) ∧ RepC kf F1 S ∧ ∀ c, 97 < c → F1 c = F c := c_count hV (by omega) n kf F hF
    obtain ⟨F2, g1, g2, g3⟩ := ih (k + 1) (by omega) F1 e2 (fun c hc => by rw [e3 c hc, hfr c hc])
    refine ⟨F2, g1, g2, fun Φ hΦ => ?_⟩
    refine g_cmp hT rfl (fun cq => ?_) (fun cq => ?_)
    · exact absurd ((cj_gt (by omega) (by omega)).mp cq) (by omega)
    · refine v_p hT rfl rfl ?_
      refine v_call hT [.int (nI k)] rfl rfl (by first | rfl | assumption) (by omega) rfl rfl (Nat.le_of_ble_eq_true rfl) (Nat.le_of_ble_eq_true rfl) (e1) ?_
      refine v_p hT rfl rfl ?_
      refine v_cv (g3 Φ hΦ) ⟨rfl, rfl, ?_, trivial⟩ ?_ rfl
      · rw [nI_add]
      · rw [nI_add]
theorem dg_ofw {S : ST} (hV : VS S) (n : Nat) (kf : Nat → Nat) (f : Nat → Nat → Int32) : ∀ s, s < 2 → ∀ p, p < bNp S.1 s → ∀ h0 d w, w + d = 5 → ∀ F, RepC kf F S → (∀ c, 97 < c → F c = f c) → ∃ F2, RepC kf F2 S ∧ (∀ c, 97 < c → F2 c = f c) ∧ ∀ Φ, Run n_X6_digest 110 114 [some (.ref 0), some (.long (dgf (fun k => ofA S.1 s (k / 5) (k % 5)) (5 * (p + 1)) h0)), none, some (.int (nI s)), some (.int (nI p)), none] [] (HH n kf F2) Φ → Run n_X6_digest 110 88 [some (.ref 0), some (.long (dgf (fun k => ofA S.1 s (k / 5) (k % 5)) (5 * p + w) h0)), none, some (.int (nI s)), some (.int (nI p)), some (.int (nI w))] [.int (nI 4), .int (nI w)] (HH n kf F) Φ := by
  have hT : mT n_X6_digest = tb_X6_digest := rfl
  have hP := lyP_bd hV.1
  have h120 := opN_le hP
  have h10 := hV.1.1.2.2.2.2.1
  intro s hs p hp h0 d
  have hn := hV.1.1.1 s hs
  induction d with
  | zero =>
    intro w hw F hF hfr
    refine ⟨F, hF, hfr, fun Φ hΦ => ?_⟩
    have e : w = 5 := by omega
    subst e
    refine g_cmp hT rfl (fun cq => ?_) (fun cq => ?_)
    · exact v_cv hΦ ⟨rfl, rfl, rfl, rfl, trivial⟩ rfl rfl
    · exact absurd ((cj_gt (by omega) (by omega)).mpr (by omega)) cq
  | succ d ih =>
    intro w hw F hF hfr
    obtain ⟨F1, e1, e2, e3⟩ := c_of hV hs hp (w := w) (by omega) n kf F hF
    obtain ⟨F2, g1, g2, g3⟩ := ih (w + 1) (by omega) F1 e2 (fun c hc => by rw [e3 c hc, hfr c hc])
    refine ⟨F2, g1, g2, fun Φ hΦ => ?_⟩
    have hst : dgf (fun k => ofA S.1 s (k / 5) (k % 5)) (5 * p + (w + 1)) h0 = lN 31 * dgf (fun k => ofA S.1 s (k / 5) (k % 5)) (5 * p + w) h0 + (ofA S.1 s p w).toInt64 := by
      show lN 31 * dgf (fun k => ofA S.1 s (k / 5) (k % 5)) (5 * p + w) h0 + (ofA S.1 s ((5 * p + w) / 5) ((5 * p + w) % 5)).toInt64 = _
      rw [show (5 * p + w) / 5 = p by omega, show (5 * p + w) % 5 = w by omega]
    have g4 := g3 Φ hΦ
    rw [hst] at g4
    refine g_cmp hT rfl (fun cq => ?_) (fun cq => ?_)
    · exact absurd ((cj_gt (by omega) (by omega)).mp cq) (by omega)
    · refine v_p hT rfl rfl ?_
      refine v_call hT [.int (nI s), .int (nI p), .int (nI w)] rfl rfl (by first | rfl | assumption) (by omega) rfl rfl (Nat.le_of_ble_eq_true rfl) (Nat.le_of_ble_eq_true rfl) (e1) ?_
      refine v_p hT rfl rfl ?_
      refine v_cv g4 ⟨rfl, rfl, rfl, rfl, ?_, trivial⟩ ?_ rfl
      · rw [nI_add]
      · rw [nI_add]
theorem dg_ofp {S : ST} (hV : VS S) (n : Nat) (kf : Nat → Nat) (f : Nat → Nat → Int32) : ∀ s, s < 2 → ∀ h0 d p, p + d = bNp S.1 s → ∀ F, RepC kf F S → (∀ c, 97 < c → F c = f c) → ∃ F2, RepC kf F2 S ∧ (∀ c, 97 < c → F2 c = f c) ∧ ∀ Φ, Run n_X6_digest 110 120 [some (.ref 0), some (.long (dgf (fun k => ofA S.1 s (k / 5) (k % 5)) (5 * bNp S.1 s) h0)), none, some (.int (nI s)), none, none] [] (HH n kf F2) Φ → Run n_X6_digest 110 79 [some (.ref 0), some (.long (dgf (fun k => ofA S.1 s (k / 5) (k % 5)) (5 * p) h0)), none, some (.int (nI s)), some (.int (nI p)), none] [.int (nI (bNp S.1 s)), .int (nI p)] (HH n kf F) Φ := by
  have hT : mT n_X6_digest = tb_X6_digest := rfl
  have hP := lyP_bd hV.1
  have h120 := opN_le hP
  have h10 := hV.1.1.2.2.2.2.1
  intro s hs h0 d
  have hn := hV.1.1.1 s hs
  induction d with
  | zero =>
    intro p hp F hF hfr
    refine ⟨F, hF, hfr, fun Φ hΦ => ?_⟩
    have e : p = bNp S.1 s := by omega
    subst e
    refine g_cmp hT rfl (fun cq => ?_) (fun cq => ?_)
    · exact v_cv hΦ ⟨rfl, rfl, rfl, trivial⟩ rfl rfl
    · exact absurd ((cj_ge (by omega) (by omega)).mpr (by omega)) cq
  | succ d ih =>
    intro p hp F hF hfr
    obtain ⟨F1, e1, e2, e3⟩ := dg_ofw hV n kf f s hs p (by omega) h0 5 0 (by omega) F hF hfr
    obtain ⟨F2, g1, g2, g3⟩ := ih (p + 1) (by omega) F1 e1 e2
    refine ⟨F2, g1, g2, fun Φ hΦ => ?_⟩
    refine g_cmp hT rfl (fun cq => ?_) (fun cq => ?_)
    · exact absurd ((cj_ge (by omega) (by omega)).mp cq) (by omega)
    · refine v_p hT rfl rfl ?_
      refine e3 Φ ?_
      refine v_p hT rfl rfl ?_
      refine v_getr hT rfl rfl (by omega) rfl ?_
      refine v_getr hT rfl rfl (by omega) rfl ?_
      refine v_p hT rfl rfl ?_
      refine v_ald hT rfl rfl (by omega) (by decide) (by omega) ?_
      rw [show F1 2 s = nI (bNp S.1 s) from e1.2.1.1 s hs]
      refine v_cv (g3 Φ hΦ) ⟨rfl, rfl, rfl, ?_, trivial⟩ ?_ rfl
      · rw [nI_add]
      · rw [nI_add]
theorem dg_tiw {S : ST} (hV : VS S) (n : Nat) (kf : Nat → Nat) (f : Nat → Nat → Int32) : ∀ p, p < bNt S.1 → ∀ h0 d w, w + d = 5 → ∀ F, RepC kf F S → (∀ c, 97 < c → F c = f c) → ∃ F2, RepC kf F2 S ∧ (∀ c, 97 < c → F2 c = f c) ∧ ∀ Φ, Run n_X6_digest 110 169 [some (.ref 0), some (.long (dgf (fun k => tiA S.1 (k / 5) (k % 5)) (5 * (p + 1)) h0)), none, some (.int (nI p)), none, none] [] (HH n kf F2) Φ → Run n_X6_digest 110 145 [some (.ref 0), some (.long (dgf (fun k => tiA S.1 (k / 5) (k % 5)) (5 * p + w) h0)), none, some (.int (nI p)), some (.int (nI w)), none] [.int (nI 4), .int (nI w)] (HH n kf F) Φ := by
  have hT : mT n_X6_digest = tb_X6_digest := rfl
  have hP := lyP_bd hV.1
  have h120 := opN_le hP
  have h10 := hV.1.1.2.2.2.2.1
  intro p hp h0 d
  induction d with
  | zero =>
    intro w hw F hF hfr
    refine ⟨F, hF, hfr, fun Φ hΦ => ?_⟩
    have e : w = 5 := by omega
    subst e
    refine g_cmp hT rfl (fun cq => ?_) (fun cq => ?_)
    · exact v_cv hΦ ⟨rfl, rfl, rfl, trivial⟩ rfl rfl
    · exact absurd ((cj_gt (by omega) (by omega)).mpr (by omega)) cq
  | succ d ih =>
    intro w hw F hF hfr
    obtain ⟨F1, e1, e2, e3⟩ := c_tie hV hp (w := w) (by omega) n kf F hF
    skip
    obtain ⟨F2, g1, g2, g3⟩ := ih (w + 1) (by omega) F1 e2 (fun c hc => by rw [e3 c hc, hfr c hc])
    refine ⟨F2, g1, g2, fun Φ hΦ => ?_⟩
    have hst : dgf (fun k => tiA S.1 (k / 5) (k % 5)) (5 * p + (w + 1)) h0 = lN 31 * dgf (fun k => tiA S.1 (k / 5) (k % 5)) (5 * p + w) h0 + (tiA S.1 p w).toInt64 := by
      show lN 31 * dgf (fun k => tiA S.1 (k / 5) (k % 5)) (5 * p + w) h0 + (tiA S.1 ((5 * p + w) / 5) ((5 * p + w) % 5)).toInt64 = _
      rw [show (5 * p + w) / 5 = p by omega, show (5 * p + w) % 5 = w by omega]
    have g4 := g3 Φ hΦ
    rw [hst] at g4
    refine g_cmp hT rfl (fun cq => ?_) (fun cq => ?_)
    · exact absurd ((cj_gt (by omega) (by omega)).mp cq) (by omega)
    · refine v_p hT rfl rfl ?_
      refine v_call hT [.int (nI p), .int (nI w)] rfl rfl (by first | rfl | assumption) (by omega) rfl rfl (Nat.le_of_ble_eq_true rfl) (Nat.le_of_ble_eq_true rfl) (e1) ?_
      refine v_p hT rfl rfl ?_
      refine v_cv g4 ⟨rfl, rfl, rfl, ?_, trivial⟩ ?_ rfl
      · rw [nI_add]
      · rw [nI_add]
theorem dg_tip {S : ST} (hV : VS S) (n : Nat) (kf : Nat → Nat) (f : Nat → Nat → Int32) : ∀ h0 d p, p + d = bNt S.1 → ∀ F, RepC kf F S → (∀ c, 97 < c → F c = f c) → ∃ F2, RepC kf F2 S ∧ (∀ c, 97 < c → F2 c = f c) ∧ ∀ Φ, Run n_X6_digest 110 175 [some (.ref 0), some (.long (dgf (fun k => tiA S.1 (k / 5) (k % 5)) (5 * bNt S.1) h0)), none, none, none, none] [] (HH n kf F2) Φ → Run n_X6_digest 110 136 [some (.ref 0), some (.long (dgf (fun k => tiA S.1 (k / 5) (k % 5)) (5 * p) h0)), none, some (.int (nI p)), none, none] [.int (nI (bNt S.1)), .int (nI p)] (HH n kf F) Φ := by
  have hT : mT n_X6_digest = tb_X6_digest := rfl
  have hP := lyP_bd hV.1
  have h120 := opN_le hP
  have h10 := hV.1.1.2.2.2.2.1
  intro h0 d
  induction d with
  | zero =>
    intro p hp F hF hfr
    refine ⟨F, hF, hfr, fun Φ hΦ => ?_⟩
    have e : p = bNt S.1 := by omega
    subst e
    refine g_cmp hT rfl (fun cq => ?_) (fun cq => ?_)
    · exact v_cv hΦ ⟨rfl, rfl, trivial⟩ rfl rfl
    · exact absurd ((cj_ge (by omega) (by omega)).mpr (by omega)) cq
  | succ d ih =>
    intro p hp F hF hfr
    obtain ⟨F1, e1, e2, e3⟩ := dg_tiw hV n kf f p (by omega) h0 5 0 (by omega) F hF hfr
    obtain ⟨F2, g1, g2, g3⟩ := ih (p + 1) (by omega) F1 e1 e2
    refine ⟨F2, g1, g2, fun Φ hΦ => ?_⟩
    refine g_cmp hT rfl (fun cq => ?_) (fun cq => ?_)
    · exact absurd ((cj_ge (by omega) (by omega)).mp cq) (by omega)
    · refine v_p hT rfl rfl ?_
      refine e3 Φ ?_
      refine v_p hT rfl rfl ?_
      refine v_getr hT rfl rfl (by omega) rfl ?_
      refine v_geti hT rfl (by first | rfl | assumption) (by omega) ?_
      rw [e1.2.1.2.2.2.2.1]
      refine v_cv (g3 Φ hΦ) ⟨rfl, rfl, ?_, trivial⟩ ?_ rfl
      · rw [nI_add]
      · rw [nI_add]
theorem dg_opw {S : ST} (hV : VS S) (n : Nat) (kf : Nat → Nat) (f : Nat → Nat → Int32) : ∀ p, p < opN (lyP S.1) → ∀ h0 d w, w + d = 5 → ∀ F, RepC kf F S → (∀ c, 97 < c → F c = f c) → ∃ F2, RepC kf F2 S ∧ (∀ c, 97 < c → F2 c = f c) ∧ ∀ Φ, Run n_X6_digest 110 218 [some (.ref 0), some (.long (dgf (fun k => opA (lyP S.1) (k / 5) (k % 5)) (5 * (p + 1)) h0)), none, some (.int (nI p)), none, none] [] (HH n kf F2) Φ → Run n_X6_digest 110 194 [some (.ref 0), some (.long (dgf (fun k => opA (lyP S.1) (k / 5) (k % 5)) (5 * p + w) h0)), none, some (.int (nI p)), some (.int (nI w)), none] [.int (nI 4), .int (nI w)] (HH n kf F) Φ := by
  have hT : mT n_X6_digest = tb_X6_digest := rfl
  have hP := lyP_bd hV.1
  have h120 := opN_le hP
  have h10 := hV.1.1.2.2.2.2.1
  intro p hp h0 d
  induction d with
  | zero =>
    intro w hw F hF hfr
    refine ⟨F, hF, hfr, fun Φ hΦ => ?_⟩
    have e : w = 5 := by omega
    subst e
    refine g_cmp hT rfl (fun cq => ?_) (fun cq => ?_)
    · exact v_cv hΦ ⟨rfl, rfl, rfl, trivial⟩ rfl rfl
    · exact absurd ((cj_gt (by omega) (by omega)).mpr (by omega)) cq
  | succ d ih =>
    intro w hw F hF hfr
    obtain ⟨F1, e1, e2, e3⟩ := c_opening hV (k := p) (w := w) (by omega) (by omega) n kf F hF
    rw [show opB (lyP S.1) p w = opA (lyP S.1) p w by unfold opB; rw [if_pos hp]] at e1
    obtain ⟨F2, g1, g2, g3⟩ := ih (w + 1) (by omega) F1 e2 (fun c hc => by rw [e3 c hc, hfr c hc])
    refine ⟨F2, g1, g2, fun Φ hΦ => ?_⟩
    have hst : dgf (fun k => opA (lyP S.1) (k / 5) (k % 5)) (5 * p + (w + 1)) h0 = lN 31 * dgf (fun k => opA (lyP S.1) (k / 5) (k % 5)) (5 * p + w) h0 + (opA (lyP S.1) p w).toInt64 := by
      show lN 31 * dgf (fun k => opA (lyP S.1) (k / 5) (k % 5)) (5 * p + w) h0 + (opA (lyP S.1) ((5 * p + w) / 5) ((5 * p + w) % 5)).toInt64 = _
      rw [show (5 * p + w) / 5 = p by omega, show (5 * p + w) % 5 = w by omega]
    have g4 := g3 Φ hΦ
    rw [hst] at g4
    refine g_cmp hT rfl (fun cq => ?_) (fun cq => ?_)
    · exact absurd ((cj_gt (by omega) (by omega)).mp cq) (by omega)
    · refine v_p hT rfl rfl ?_
      refine v_call hT [.int (nI p), .int (nI w)] rfl rfl (by first | rfl | assumption) (by omega) rfl rfl (Nat.le_of_ble_eq_true rfl) (Nat.le_of_ble_eq_true rfl) (e1) ?_
      refine v_p hT rfl rfl ?_
      refine v_cv g4 ⟨rfl, rfl, rfl, ?_, trivial⟩ ?_ rfl
      · rw [nI_add]
      · rw [nI_add]
theorem dg_opp {S : ST} (hV : VS S) (n : Nat) (kf : Nat → Nat) (f : Nat → Nat → Int32) : ∀ h0 d p, p + d = opN (lyP S.1) → ∀ F, RepC kf F S → (∀ c, 97 < c → F c = f c) → ∃ F2, RepC kf F2 S ∧ (∀ c, 97 < c → F2 c = f c) ∧ ∀ Φ, Run n_X6_digest 110 224 [some (.ref 0), some (.long (dgf (fun k => opA (lyP S.1) (k / 5) (k % 5)) (5 * opN (lyP S.1)) h0)), none, none, none, none] [] (HH n kf F2) Φ → Run n_X6_digest 110 185 [some (.ref 0), some (.long (dgf (fun k => opA (lyP S.1) (k / 5) (k % 5)) (5 * p) h0)), none, some (.int (nI p)), none, none] [.int (opI (lyP S.1)), .int (nI p)] (HH n kf F) Φ := by
  have hT : mT n_X6_digest = tb_X6_digest := rfl
  have hP := lyP_bd hV.1
  have h120 := opN_le hP
  have h10 := hV.1.1.2.2.2.2.1
  intro h0 d
  induction d with
  | zero =>
    intro p hp F hF hfr
    refine ⟨F, hF, hfr, fun Φ hΦ => ?_⟩
    have e : p = opN (lyP S.1) := by omega
    subst e
    refine g_cmp hT rfl (fun cq => ?_) (fun cq => ?_)
    · exact v_cv hΦ ⟨rfl, rfl, trivial⟩ rfl rfl
    · have cq : ¬ opI (lyP S.1) ≤ nI (opN (lyP S.1)) := cq
      exact absurd (Int32.not_lt.mp (fun z => Nat.lt_irrefl _ ((op_cmp hP (by omega)).mp z))) cq
  | succ d ih =>
    intro p hp F hF hfr
    obtain ⟨F1, e1, e2, e3⟩ := dg_opw hV n kf f p (by omega) h0 5 0 (by omega) F hF hfr
    obtain ⟨F3, r3, hR3, _, hl3, k3⟩ := s_layOut (n := n) hV e1
    obtain ⟨F2, g1, g2, g3⟩ := ih (p + 1) (by omega) F3 hR3 (fun c hc => by rw [k3 c hc, e2 c hc])
    refine ⟨F2, g1, g2, fun Φ hΦ => ?_⟩
    refine g_cmp hT rfl (fun cq => ?_) (fun cq => ?_)
    · have cq : opI (lyP S.1) ≤ nI p := cq
      exact absurd cq (Int32.not_le.mpr ((op_cmp hP (by omega)).mpr (by omega)))
    · refine v_p hT rfl rfl ?_
      refine e3 Φ ?_
      refine v_p hT rfl rfl ?_
      refine v_call hT [] rfl rfl (by first | rfl | assumption) (by omega) rfl rfl (Nat.le_of_ble_eq_true rfl) (Nat.le_of_ble_eq_true rfl) (r3) ?_
      refine v_geti hT rfl (by first | rfl | assumption) (by omega) ?_
      rw [hl3.2.1]
      refine v_cv (g3 Φ hΦ) ⟨rfl, rfl, ?_, trivial⟩ ?_ rfl
      · rw [nI_add]
      · rw [nI_add]; rfl
theorem dgf_0 (a : Nat → Int32) (h : Int64) : dgf a 0 h = h := rfl
theorem dgf_50 (a : Nat → Int32) (h : Int64) : dgf a (5 * 0) h = h := rfl
theorem c_digest {S : ST} (hV : VS S) (n : Nat) (kf : Nat → Nat) (f : Nat → Nat → Int32) (hR : RepC kf f S) : ∃ f2, Run n_X6_digest 110 0 (ini n_X6_digest [.ref 0]) [] (HH n kf f) (Ret (some (.long (dgA S))) (HH n kf f2)) ∧ RepC kf f2 S ∧ ∀ c, 97 < c → f2 c = f c := by
  have hT : mT n_X6_digest = tb_X6_digest := rfl
  have hP := lyP_bd hV.1
  have h120 := opN_le hP
  have h10 := hV.1.1.2.2.2.2.1
  obtain ⟨f1, a1, b1, c1⟩ := dg_lp1 hV n kf f 10 0 (by omega) f hR (fun _ _ => rfl)
  obtain ⟨f2, a2, b2, c2⟩ := dg_lp2 hV n kf f 10 0 (by omega) f1 a1 b1
  obtain ⟨f3, a3, b3, c3⟩ := dg_ofp hV n kf f 0 (by omega) (dgf (ctA S.1) 10 (dgf (tlA S) 10 (lN 2591))) (bNp S.1 0) 0 (by omega) f2 a2 b2
  obtain ⟨f4, a4, b4, c4⟩ := dg_ofp hV n kf f 1 (by omega) (dgf (fun k => ofA S.1 0 (k / 5) (k % 5)) (5 * bNp S.1 0) (dgf (ctA S.1) 10 (dgf (tlA S) 10 (lN 2591)))) (bNp S.1 1) 0 (by omega) f3 a3 b3
  obtain ⟨f5, a5, b5, c5⟩ := dg_tip hV n kf f (dgf (fun k => ofA S.1 1 (k / 5) (k % 5)) (5 * bNp S.1 1) (dgf (fun k => ofA S.1 0 (k / 5) (k % 5)) (5 * bNp S.1 0) (dgf (ctA S.1) 10 (dgf (tlA S) 10 (lN 2591))))) (bNt S.1) 0 (by omega) f4 a4 b4
  obtain ⟨f6, r6, a6, _, hl6, k6⟩ := s_layOut (n := n) hV a5
  obtain ⟨f7, a7, b7, c7⟩ := dg_opp hV n kf f (dgf (fun k => tiA S.1 (k / 5) (k % 5)) (5 * bNt S.1) (dgf (fun k => ofA S.1 1 (k / 5) (k % 5)) (5 * bNp S.1 1) (dgf (fun k => ofA S.1 0 (k / 5) (k % 5)) (5 * bNp S.1 0) (dgf (ctA S.1) 10 (dgf (tlA S) 10 (lN 2591)))))) (opN (lyP S.1)) 0 (by omega) f6 a6 (fun c hc => by rw [k6 c hc, b5 c hc])
  rw [dgf_0] at c1 c2
  rw [dgf_50] at c3 c4 c5 c7
  unfold dgA dg5 dg4 dg2
  refine ⟨f7, ?_, a7, b7⟩
  refine v_p hT rfl rfl ?_
  refine c1 _ ?_
  refine v_p hT rfl rfl ?_
  refine c2 _ ?_
  refine v_p hT rfl rfl ?_
  refine g_cmp hT rfl (fun cq => ?_) (fun cq => ?_)
  · exact absurd ((cj_ge (a := 0) (b := 2) (by omega) (by omega)).mp cq) (by omega)
  · refine v_p hT rfl rfl ?_
    refine v_getr hT rfl rfl (by omega) rfl ?_
    refine v_getr hT rfl rfl (by omega) rfl ?_
    refine v_p hT rfl rfl ?_
    refine v_ald hT rfl rfl (by omega) (by decide) (show 0 < 2 by omega) ?_
    rw [show f2 2 0 = nI (bNp S.1 0) from a2.2.1.1 0 (by omega)]
    refine c3 _ ?_
    refine v_p hT rfl rfl ?_
    refine g_cmp hT rfl (fun cq2 => ?_) (fun cq2 => ?_)
    · exact absurd ((cj_ge (a := 1) (b := 2) (by omega) (by omega)).mp cq2) (by omega)
    · refine v_p hT rfl rfl ?_
      refine v_getr hT rfl rfl (by omega) rfl ?_
      refine v_getr hT rfl rfl (by omega) rfl ?_
      refine v_p hT rfl rfl ?_
      rw [nI_add]
      refine v_ald hT rfl rfl (by omega) (by decide) (show 0 + 1 < 2 by omega) ?_
      rw [show f3 2 (0 + 1) = nI (bNp S.1 1) from a3.2.1.1 1 (by omega)]
      refine c4 _ ?_
      refine v_p hT rfl rfl ?_
      refine g_cmp hT rfl (fun cq3 => ?_) (fun cq3 => ?_)
      · refine v_p hT rfl rfl ?_
        refine v_getr hT rfl rfl (by omega) rfl ?_
        refine v_geti hT rfl (by first | rfl | assumption) (by omega) ?_
        rw [a4.2.1.2.2.2.2.1]
        refine c5 _ ?_
        refine v_p hT rfl rfl ?_
        refine v_call hT [] rfl rfl (by first | rfl | assumption) (by omega) rfl rfl (Nat.le_of_ble_eq_true rfl) (Nat.le_of_ble_eq_true rfl) (r6) ?_
        refine v_geti hT rfl (by first | rfl | assumption) (by omega) ?_
        rw [hl6.2.1]
        refine c7 _ ?_
        refine v_p hT rfl rfl ?_
        refine v_lret hT rfl rfl ⟨rfl, rfl⟩
      · exact absurd ((cj_ge (a := 2) (b := 2) (by omega) (by omega)).mpr (by omega)) cq3
