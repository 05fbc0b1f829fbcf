/-! THE REFERENCE: ties go, paragraphs go. -/
def VBw (B : BK) : Prop := (∀ s, s < 2 → bNp B s ≤ 8) ∧ (∀ s p, s < 2 → p < bNp B s → bNw B s p ≤ 12) ∧ bNt B ≤ 10
theorem VBw_of {B : BK} (h : VB0 B) : VBw B := ⟨h.1, fun s p hs hp => (h.2.1 s p hs hp).2.1, h.2.2.2.2.1⟩
theorem m_tieGoes {n i : Nat} {kf : Nat → Nat} {f : Nat → Nat → Int32} {B : BK} (hR : nowR (f 100) B) (hW : VBw B) (hi : i < bNt B) :
    ∃ F, Run n_X7_tieGoes 110 0 (ini n_X7_tieGoes [.ref 98, .int (nI i)]) [] (HH n kf f) (Ret none (HH n kf F)) ∧ nowR (F 100) (bTieGo B i) ∧ F 98 = upd (f 98) 4 (nI 0) ∧ ∀ c, c ≠ 98 → c ≠ 100 → F c = f c := by
  have hT : mT n_X7_tieGoes = tb_X7_tieGoes := rfl
  obtain ⟨w1, w2, w3⟩ := hW
  have h7 : f 100 7 = nI (bNt B) := hR.2.2.2.1
  have lp2 : ∀ d x, x + d = 224 + 3 * bNt B → 224 + 3 * (bNt B - 1) ≤ x → ∀ F : Nat → Nat → Int32, F 100 7 = nI (bNt B - 1) → ∃ F2, Run n_X7_tieGoes 110 74 [some (.ref 98), some (.int (nI i)), some (.int (nI x))] [.int (nI (224 + 3 * bNt B)), .int (nI x)] (HH n kf F) (Ret none (HH n kf F2)) ∧ (∀ y, y < 224 + 3 * (bNt B - 1) → F2 100 y = F 100 y) ∧ F2 98 = upd (F 98) 4 (nI 0) ∧ ∀ c, c ≠ 98 → c ≠ 100 → F2 c = F c := by
    intro d
    induction d with
    | zero =>
      intro x hx hx2 F h7F
      refine ⟨hset F 98 4 (nI 0), ?_, fun y hy => by rw [hset_ne (by omega)], by rw [hs_s], fun c x1 x2 => hset_ne x1⟩
      refine g_cmp hT rfl (fun cq => ?_) (fun cq => ?_)
      · refine v_p hT rfl rfl ?_
        refine v_puti hT rfl rfl (by omega) (fun _ => Or.inl rfl) ?_
        refine v_vret hT rfl rfl ⟨rfl, rfl⟩
      · exact absurd ((cj_ge (by omega) (by omega)).mpr (by omega)) cq
    | succ d ih =>
      intro x hx hx2 F h7F
      obtain ⟨F2, g1, g2, g3, g4⟩ := ih (x + 1) (by omega) (by omega) (hset F 100 x (nI 0)) (by rw [hs_s, upd_ne (by omega)]; exact h7F)
      refine ⟨F2, ?_, fun y hy => by rw [g2 y hy, hs_s, upd_ne (by omega)], by rw [g3, hset_ne (by omega)], fun c x1 x2 => by rw [g4 c x1 x2, hset_ne x2]⟩
      refine g_cmp hT rfl (fun cq => ?_) (fun cq => ?_)
      · exact absurd ((cj_ge (by omega) (by omega)).mp cq) (by omega)
      · refine v_p hT rfl rfl ?_
        refine v_getr hT rfl rfl (by omega) rfl ?_
        refine v_p hT rfl rfl ?_
        refine v_ast hT rfl rfl (by omega) (by decide) (by omega) ?_
        refine v_p hT rfl rfl ?_
        refine v_getr hT rfl rfl (by omega) rfl ?_
        refine v_p hT rfl rfl ?_
        refine v_ald hT rfl (by first | assumption | rfl) (by omega) (by decide) (by omega) ?_
        rw [hs_s, upd_ne (show 7 ≠ x by omega), h7F]
        refine v_p hT rfl rfl ?_
        rw [nI_add (bNt B - 1) 1]
        refine v_scall hT [.int (nI (bNt B - 1 + 1))] rfl rfl rfl rfl (Nat.le_of_ble_eq_true rfl) (Nat.le_of_ble_eq_true rfl) (m_tieAt (bNt B - 1 + 1)) ?_
        refine v_cv g1 ⟨rfl, rfl, ?_, trivial⟩ ?_ rfl
        · rw [nI_add]
        · rw [nI_add, show bNt B - 1 + 1 = bNt B by omega]; rfl
  have lp1 : ∀ d x, x + d = 224 + 3 * (bNt B - 1) → 224 + 3 * i ≤ x → ∀ F : Nat → Nat → Int32, F 100 7 = nI (bNt B - 1) → (∀ y, 224 + 3 * i ≤ y → y < x → F 100 y = f 100 (y + 3)) → (∀ y, y ≠ 7 → y < 224 + 3 * i ∨ x ≤ y → F 100 y = f 100 y) → (∀ c, c ≠ 100 → F c = f c) →
      ∃ F2, (∀ Φ, Run n_X7_tieGoes 110 50 [some (.ref 98), some (.int (nI i)), none] [] (HH n kf F2) Φ → Run n_X7_tieGoes 110 27 [some (.ref 98), some (.int (nI i)), some (.int (nI x))] [.int (nI (224 + 3 * (bNt B - 1))), .int (nI x)] (HH n kf F) Φ) ∧ F2 100 7 = nI (bNt B - 1) ∧ (∀ y, 224 + 3 * i ≤ y → y < 224 + 3 * (bNt B - 1) → F2 100 y = f 100 (y + 3)) ∧ (∀ y, y ≠ 7 → y < 224 + 3 * i → F2 100 y = f 100 y) ∧ ∀ c, c ≠ 100 → F2 c = f c := by
    intro d
    induction d with
    | zero =>
      intro x hx hx2 F k7 k1 k2 k3
      refine ⟨F, fun Φ hΦ => ?_, k7, fun y y1 y2 => k1 y y1 (by omega), fun y y1 y2 => k2 y y1 (by omega), k3⟩
      refine g_cmp hT rfl (fun cq => ?_) (fun cq => ?_)
      · exact v_cv hΦ ⟨rfl, rfl, trivial⟩ rfl rfl
      · exact absurd ((cj_ge (by omega) (by omega)).mpr (by omega)) cq
    | succ d ih =>
      intro x hx hx2 F k7 k1 k2 k3
      obtain ⟨F2, g1, g2⟩ := ih (x + 1) (by omega) (by omega) (hset F 100 x (f 100 (x + 3))) (by rw [hs_s, upd_ne (by omega)]; exact k7) (fun y y1 y2 => by
        rw [hs_s]
        by_cases e : y = x
        · subst e; rw [upd_eq]
        · rw [upd_ne e]; exact k1 y y1 (by omega)) (fun y y1 y2 => by rw [hs_s, upd_ne (by omega)]; exact k2 y y1 (by omega)) (fun c hc => by rw [hset_ne hc]; exact k3 c hc)
      refine ⟨F2, fun Φ hΦ => ?_, g2⟩
      refine g_cmp hT rfl (fun cq => ?_) (fun cq => ?_)
      · exact absurd ((cj_ge (by omega) (by omega)).mp cq) (by omega)
      · refine v_p hT rfl rfl ?_
        refine v_getr hT rfl rfl (by omega) rfl ?_
        refine v_p hT rfl rfl ?_
        refine v_getr hT rfl rfl (by omega) rfl ?_
        refine v_p hT rfl rfl ?_
        rw [nI_add]
        refine v_ald hT rfl (by first | assumption | rfl) (by omega) (by decide) (by omega) ?_
        rw [k2 (x + 3) (by omega) (by omega)]
        refine v_ast hT rfl rfl (by omega) (by decide) (by omega) ?_
        refine v_p hT rfl rfl ?_
        refine v_getr hT rfl rfl (by omega) rfl ?_
        refine v_p hT rfl rfl ?_
        refine v_ald hT rfl (by first | assumption | rfl) (by omega) (by decide) (by omega) ?_
        rw [hs_s, upd_ne (show 7 ≠ x by omega), k7]
        refine v_scall hT [.int (nI (bNt B - 1))] rfl rfl rfl rfl (Nat.le_of_ble_eq_true rfl) (Nat.le_of_ble_eq_true rfl) (m_tieAt (bNt B - 1)) ?_
        refine v_cv (g1 Φ hΦ) ⟨rfl, rfl, ?_, trivial⟩ ?_ rfl
        · rw [nI_add]
        · rw [nI_add]; rfl
  obtain ⟨F1, q1, q2, q3, q4, q5⟩ := lp1 (3 * (bNt B - 1 - i)) (224 + 3 * i) (by omega) (Nat.le_refl _) (hset f 100 7 (nI (bNt B - 1))) (by rw [hs_s, upd_eq]) (fun y y1 y2 => by omega) (fun y y1 y2 => by rw [hs_s, upd_ne y1]) (fun c hc => hset_ne hc)
  obtain ⟨F2, r1, r2, r3, r4⟩ := lp2 3 (224 + 3 * (bNt B - 1)) (by omega) (Nat.le_refl _) F1 q2
  refine ⟨F2, ?_, ?_, by rw [r3, q5 98 (by omega)], fun c x1 x2 => by rw [r4 c x1 x2, q5 c x2]⟩
  · refine v_p hT rfl rfl ?_
    refine v_getr hT rfl rfl (by omega) rfl ?_
    refine v_p hT rfl rfl ?_
    refine v_ald hT rfl (by first | assumption | rfl) (by omega) (by decide) (by omega) ?_
    rw [h7]
    refine v_p hT rfl rfl ?_
    rw [pk_sub (by omega)]
    refine v_ast hT rfl rfl (by omega) (by decide) (by omega) ?_
    refine v_p hT rfl rfl ?_
    refine v_scall hT [.int (nI i)] rfl rfl rfl rfl (Nat.le_of_ble_eq_true rfl) (Nat.le_of_ble_eq_true rfl) (m_tieAt i) ?_
    refine v_p hT rfl rfl ?_
    refine v_getr hT rfl rfl (by omega) rfl ?_
    refine v_p hT rfl rfl ?_
    refine v_ald hT rfl (by first | assumption | rfl) (by omega) (by decide) (by omega) ?_
    rw [hs_s, upd_eq]
    refine v_scall hT [.int (nI (bNt B - 1))] rfl rfl rfl rfl (Nat.le_of_ble_eq_true rfl) (Nat.le_of_ble_eq_true rfl) (m_tieAt (bNt B - 1)) ?_
    refine q1 _ ?_
    refine v_p hT rfl rfl ?_
    refine v_getr hT rfl rfl (by omega) rfl ?_
    refine v_p hT rfl rfl ?_
    refine v_ald hT rfl (by first | assumption | rfl) (by omega) (by decide) (by omega) ?_
    rw [q2]
    refine v_scall hT [.int (nI (bNt B - 1))] rfl rfl rfl rfl (Nat.le_of_ble_eq_true rfl) (Nat.le_of_ble_eq_true rfl) (m_tieAt (bNt B - 1)) ?_
    refine v_p hT rfl rfl ?_
    refine v_getr hT rfl rfl (by omega) rfl ?_
    refine v_p hT rfl rfl ?_
    refine v_ald hT rfl (by first | assumption | rfl) (by omega) (by decide) (by omega) ?_
    rw [q2]
    refine v_p hT rfl rfl ?_
    rw [nI_add (bNt B - 1) 1]
    refine v_scall hT [.int (nI (bNt B - 1 + 1))] rfl rfl rfl rfl (Nat.le_of_ble_eq_true rfl) (Nat.le_of_ble_eq_true rfl) (m_tieAt (bNt B - 1 + 1)) ?_
    rw [show bNt B - 1 + 1 = bNt B by omega]
    exact r1
  · obtain ⟨a1, a2, a3, a4, a5, a6⟩ := hR
    have old : ∀ y, y ≠ 7 → y < 224 → F2 100 y = f 100 y := fun y y1 y2 => by rw [r2 y (by omega), q4 y y1 (by omega)]
    refine ⟨fun s hs => by rw [old _ (by omega) (by omega)]; exact a1 s hs, fun j hj => by rw [old _ (by omega) (by omega)]; exact a2 j hj, fun s hs => by rw [old _ (by omega) (by omega)]; exact a3 s hs, by rw [r2 7 (by omega)]; exact q2, fun s p hs hp => ⟨?_, fun k hk => ?_⟩, fun j hj z hz => ?_⟩
    · have := w1 s hs
      have hp : p < bNp B s := hp
      rw [old _ (by omega) (by omega)]; exact (a5 s p hs hp).1
    · have := w1 s hs
      have hp : p < bNp B s := hp
      have := w2 s p hs hp
      have hk : k < bNw B s p := hk
      rw [old _ (by omega) (by omega)]; exact (a5 s p hs hp).2 k hk
    · have hj : j < bNt B - 1 := hj
      show _ = nI (if j < i then bTi B z j else bTi B z (j + 1))
      rw [r2 _ (by omega)]
      by_cases e : j < i
      · rw [if_pos e, q4 _ (by omega) (by omega)]; exact a6 j (by omega) z hz
      · rw [if_neg e, q3 _ (by omega) (by omega)]
        have := a6 (j + 1) (by omega) z hz
        rw [show 224 + 3 * (j + 1) + z = 224 + 3 * j + z + 3 by omega] at this
        exact this
theorem nowR_tie1 {g : Nat → Int32} {B : BK} {t : TS} {i z v : Nat} (hW : VBw (bWT B t)) (hz : z < 2) (h : nowR g (bWT B t)) : nowR (upd g (224 + 3 * i + z) (nI v)) (bWT B (t.1, fun y j => if y = z ∧ j = i then v else t.2 y j)) := by
  obtain ⟨a1, a2, a3, a4, a5, a6⟩ := h
  obtain ⟨w1, w2, w3⟩ := hW
  refine ⟨fun s hs => by rw [upd_ne (by omega)]; exact a1 s hs, fun j hj => by rw [upd_ne (by omega)]; exact a2 j hj, fun s hs => by rw [upd_ne (by omega)]; exact a3 s hs, by rw [upd_ne (by omega)]; exact a4, fun s p hs hp => ⟨?_, fun k hk => ?_⟩, fun j hj y hy => ?_⟩
  · have := w1 s hs
    have hp2 : p < bNp B s := hp
    have : bNp B s ≤ 8 := this
    rw [upd_ne (by omega)]; exact (a5 s p hs hp).1
  · have h8 : bNp B s ≤ 8 := w1 s hs
    have hp2 : p < bNp B s := hp
    have h12 : bNw B s p ≤ 12 := w2 s p hs hp
    have hk2 : k < bNw B s p := hk
    rw [upd_ne (by omega)]; exact (a5 s p hs hp).2 k hk
  · show _ = nI (if y = z ∧ j = i then v else t.2 y j)
    by_cases e : y = z ∧ j = i
    · rw [if_pos e, e.1, e.2, upd_eq]
    · rw [if_neg e, upd_ne (by omega)]; exact a6 j hj y hy
theorem m_dropLoop {n s p nb : Nat} {kf : Nat → Nat} {B : BK} (hs : s < 2) (hp : p < 8) (hnb : nb ≤ 10) (hW : VBw B) :
    ∀ (j : Nat) (f : Nat → Nat → Int32) (t : TS), nowR (f 100) (bWT B t) → tsOk t → j ≤ t.1 → t.1 ≤ nb →
    ∃ F, (∀ Φ, Run n_X7_drops 110 102 [some (.ref 98), some (.int (nI s)), some (.int (nI p)), some (.int (nI (nb - (tsOf s p j t).1))), none, none] [] (HH n kf F) Φ → Run n_X7_drops 110 39 [some (.ref 98), some (.int (nI s)), some (.int (nI p)), some (.int (nI (nb - t.1))), some (.int (prI j)), none] [.int (prI j)] (HH n kf f) Φ) ∧ nowR (F 100) (bWT B (tsOf s p j t)) ∧ tsOk (tsOf s p j t) ∧ (∀ i, i ≠ 4 → F 98 i = f 98 i) ∧ ∀ c, c ≠ 98 → c ≠ 100 → F c = f c := by
  have hT : mT n_X7_drops = tb_X7_drops := rfl
  intro j
  induction j with
  | zero =>
    intro f t hR hok hj hn
    refine ⟨f, fun Φ hΦ => ?_, hR, hok, fun _ _ => rfl, fun _ _ _ => rfl⟩
    refine g_if hT rfl (fun cq => ?_) (fun cq => ?_)
    · exact v_cv hΦ ⟨rfl, rfl, rfl, rfl, trivial⟩ rfl rfl
    · exact absurd prI_0 cq
  | succ i ih =>
    intro f t hR hok hj hn
    have hit : i < t.1 := by omega
    have h10 := hok.1
    have hW2 : VBw (bWT B t) := ⟨hW.1, hW.2.1, hok.1⟩
    obtain ⟨k1, k2⟩ := tsOk_step (z := s) (p := p) hok hit
    have hv : f 100 (224 + 3 * i + s) = nI (t.2 s i) := hR.2.2.2.2.2 i hit s (by omega)
    have hv100 := hok.2 s i hs hit
    show ∃ F, (∀ Φ, Run n_X7_drops 110 102 [some (.ref 98), some (.int (nI s)), some (.int (nI p)), some (.int (nI (nb - (tsOf s p i (tsStep t s p i)).1))), none, none] [] (HH n kf F) Φ → _) ∧ nowR (F 100) (bWT B (tsOf s p i (tsStep t s p i))) ∧ tsOk (tsOf s p i (tsStep t s p i)) ∧ _ ∧ _
    have start : ∀ Φ, Run n_X7_drops 110 54 [some (.ref 98), some (.int (nI s)), some (.int (nI p)), some (.int (nI (nb - t.1))), some (.int (nI i)), some (.int (nI (t.2 s i)))] [.int (nI p), .int (nI (t.2 s i))] (HH n kf f) Φ → Run n_X7_drops 110 39 [some (.ref 98), some (.int (nI s)), some (.int (nI p)), some (.int (nI (nb - t.1))), some (.int (prI (i + 1))), none] [.int (prI (i + 1))] (HH n kf f) Φ := by
      intro Φ hΦ
      refine g_if hT rfl (fun cq => ?_) (fun cq => ?_)
      · exact absurd cq (prI_ok (show i < 2 ^ 31 by omega))
      · refine v_p hT rfl rfl ?_
        refine v_call hT [.int (nI i), .int (nI s)] rfl rfl (by first | rfl | assumption) (by omega) rfl rfl (Nat.le_of_ble_eq_true rfl) (Nat.le_of_ble_eq_true rfl) (m_ofTie (by omega) (by omega)) ?_
        rw [hv]
        refine v_p hT rfl rfl ?_
        exact hΦ
    unfold tsStep at k1 k2 ⊢
    by_cases c1 : t.2 s i = p
    · rw [if_pos c1] at k1 k2 ⊢
      obtain ⟨F1, e1, e2, e3, e4⟩ := m_tieGoes (n := n) (kf := kf) (i := i) hR hW2 hit
      obtain ⟨F, g1, g2, g3, g4, g5⟩ := ih F1 (tsGo t i) e2 k1 k2 (by show t.1 - 1 ≤ nb; omega)
      refine ⟨F, fun Φ hΦ => start Φ ?_, g2, g3, fun a ha => by rw [g4 a ha, e3, upd_ne ha], fun c x1 x2 => by rw [g5 c x1 x2, e4 c x1 x2]⟩
      refine g_cmp hT rfl (fun cq => ?_) (fun cq => ?_)
      · exact absurd c1 ((cj_ne (by omega) (by omega)).mp cq)
      · refine v_p hT rfl rfl ?_
        refine v_call hT [.int (nI i)] rfl rfl (by first | rfl | assumption) (by omega) rfl rfl (Nat.le_of_ble_eq_true rfl) (Nat.le_of_ble_eq_true rfl) (e1) ?_
        refine v_p hT rfl rfl ?_
        rw [prI_add]
        refine v_cv (g1 Φ hΦ) ⟨rfl, rfl, rfl, ?_, rfl, trivial⟩ rfl rfl
        rw [nI_add]
        show Value.int (nI (nb - (t.1 - 1))) = Value.int (nI (nb - t.1 + 1))
        rw [show nb - (t.1 - 1) = nb - t.1 + 1 by omega]
    · rw [if_neg c1] at k1 k2 ⊢
      by_cases c2 : p < t.2 s i
      · rw [if_pos c2] at k1 k2 ⊢
        obtain ⟨F, g1, g2, g3, g4, g5⟩ := ih (hset f 100 (224 + 3 * i + s) (nI (t.2 s i - 1))) (t.1, fun y j => if y = s ∧ j = i then t.2 s i - 1 else t.2 y j) (by rw [hs_s]; exact nowR_tie1 hW2 hs hR) k1 k2 hn
        refine ⟨F, fun Φ hΦ => start Φ ?_, g2, g3, fun a ha => by rw [g4 a ha, hset_ne (by omega)], fun c x1 x2 => by rw [g5 c x1 x2, hset_ne x2]⟩
        refine g_cmp hT rfl (fun cq => ?_) (fun cq => ?_)
        · refine v_p hT rfl rfl ?_
          refine v_getr hT rfl rfl (by omega) rfl ?_
          refine v_p hT rfl rfl ?_
          refine v_scall hT [.int (nI i)] rfl rfl rfl rfl (Nat.le_of_ble_eq_true rfl) (Nat.le_of_ble_eq_true rfl) (m_tieAt i) ?_
          refine v_p hT rfl rfl ?_
          rw [nI_add]
          refine g_cmp hT rfl (fun cq2 => ?_) (fun cq2 => ?_)
          · exact absurd ((cj_le (by omega) (by omega)).mp cq2) (by omega)
          · refine v_p hT rfl rfl ?_
            rw [pk_sub (by omega)]
            refine v_ast hT rfl rfl (by omega) (by decide) (by omega) ?_
            refine v_p hT rfl rfl ?_
            rw [prI_add]
            exact v_cv (g1 Φ hΦ) ⟨rfl, rfl, rfl, rfl, rfl, trivial⟩ rfl rfl
        · exact absurd (Classical.not_not.mp ((not_congr (cj_ne (by omega) (by omega))).mp cq)) c1
      · rw [if_neg c2] at k1 k2 ⊢
        obtain ⟨F, g1, g2, g3, g4, g5⟩ := ih f t hR k1 k2 hn
        refine ⟨F, fun Φ hΦ => start Φ ?_, g2, g3, g4, g5⟩
        refine g_cmp hT rfl (fun cq => ?_) (fun cq => ?_)
        · refine v_p hT rfl rfl ?_
          refine v_getr hT rfl rfl (by omega) rfl ?_
          refine v_p hT rfl rfl ?_
          refine v_scall hT [.int (nI i)] rfl rfl rfl rfl (Nat.le_of_ble_eq_true rfl) (Nat.le_of_ble_eq_true rfl) (m_tieAt i) ?_
          refine v_p hT rfl rfl ?_
          rw [nI_add]
          refine g_cmp hT rfl (fun cq2 => ?_) (fun cq2 => ?_)
          · refine v_p hT rfl rfl ?_
            refine v_ast hT rfl rfl (by omega) (by decide) (by omega) ?_
            rw [← hv, hset_same]
            refine v_p hT rfl rfl ?_
            rw [prI_add]
            exact v_cv (g1 Φ hΦ) ⟨rfl, rfl, rfl, rfl, rfl, trivial⟩ rfl rfl
          · exact absurd ((cj_le (by omega) (by omega)).mpr (by omega)) cq2
        · exact absurd (Classical.not_not.mp ((not_congr (cj_ne (by omega) (by omega))).mp cq)) c1
theorem m_dropTail {n s p g : Nat} {kf : Nat → Nat} {f : Nat → Nat → Int32} {B : BK} (hR : nowR (f 100) B) (hW : VBw B) (hs : s < 2) (hp : p < bNp B s) :
    ∃ F, Run n_X7_drops 110 102 [some (.ref 98), some (.int (nI s)), some (.int (nI p)), some (.int (nI g)), none, none] [] (HH n kf f) (Ret (some (.int (nI g))) (HH n kf F)) ∧ nowR (F 100) (bParGo B s p) ∧ F 98 = upd (f 98) 4 (nI 0) ∧ ∀ c, c ≠ 98 → c ≠ 100 → F c = f c := by
  have hT : mT n_X7_drops = tb_X7_drops := rfl
  obtain ⟨w1, w2, w3⟩ := id hW
  have h5 : f 100 (5 + s) = nI (bNp B s) := hR.2.2.1 s hs
  have hn8 := w1 s hs
  generalize hE : 8 + 13 * (8 * s + (bNp B s - 1)) = E
  generalize hA : 8 + 13 * (8 * s + p) = A
  have hAE : A ≤ E ∧ E + 13 ≤ 224 ∧ 8 ≤ A ∧ E = A + 13 * (bNp B s - 1 - p) := by omega
  have lp2 : ∀ d x, x + d = E + 13 → E ≤ x → ∀ F : Nat → Nat → Int32, F 100 (5 + s) = nI (bNp B s - 1) → ∃ F2, Run n_X7_drops 110 182 [some (.ref 98), some (.int (nI s)), some (.int (nI p)), some (.int (nI g)), some (.int (nI x)), none] [.int (nI (E + 13)), .int (nI x)] (HH n kf F) (Ret (some (.int (nI g))) (HH n kf F2)) ∧ (∀ y, y < E ∨ E + 13 ≤ y → F2 100 y = F 100 y) ∧ F2 98 = upd (F 98) 4 (nI 0) ∧ ∀ c, c ≠ 98 → c ≠ 100 → F2 c = F c := by
    intro d
    induction d with
    | zero =>
      intro x hx hx2 F hF
      refine ⟨hset F 98 4 (nI 0), ?_, fun y hy => by rw [hset_ne (by omega)], by rw [hs_s], fun c x1 x2 => hset_ne x1⟩
      refine g_cmp hT rfl (fun cq => ?_) (fun cq => ?_)
      · refine v_p hT rfl rfl ?_
        refine v_puti hT rfl rfl (by omega) (fun _ => Or.inl rfl) ?_
        refine v_p hT rfl rfl ?_
        refine v_ret hT rfl (fun z => by cases z) rfl ⟨rfl, rfl⟩
      · exact absurd ((cj_ge (by omega) (by omega)).mpr (by omega)) cq
    | succ d ih =>
      intro x hx hx2 F hF
      obtain ⟨F2, g1, g2, g3, g4⟩ := ih (x + 1) (by omega) (by omega) (hset F 100 x (nI 0)) (by rw [hs_s, upd_ne (by omega)]; exact hF)
      refine ⟨F2, ?_, fun y hy => by rw [g2 y hy, hs_s, upd_ne (by omega)], by rw [g3, hset_ne (by omega)], fun c x1 x2 => by rw [g4 c x1 x2, hset_ne x2]⟩
      refine g_cmp hT rfl (fun cq => ?_) (fun cq => ?_)
      · exact absurd ((cj_ge (by omega) (by omega)).mp cq) (by omega)
      · refine v_p hT rfl rfl ?_
        refine v_getr hT rfl rfl (by omega) rfl ?_
        refine v_p hT rfl rfl ?_
        refine v_ast hT rfl rfl (by omega) (by decide) (by omega) ?_
        refine v_p hT rfl rfl ?_
        refine v_call hT [.int (nI s)] rfl rfl (by first | rfl | assumption) (by omega) rfl rfl (Nat.le_of_ble_eq_true rfl) (Nat.le_of_ble_eq_true rfl) (m_many hs) ?_
        rw [hs_s, upd_ne (show 5 + s ≠ x by omega), hF]
        refine v_p hT rfl rfl ?_
        rw [nI_add (bNp B s - 1) 1]
        refine v_scall hT [.int (nI s), .int (nI (bNp B s - 1 + 1))] rfl rfl rfl rfl (Nat.le_of_ble_eq_true rfl) (Nat.le_of_ble_eq_true rfl) (m_at s (bNp B s - 1 + 1)) ?_
        rw [show 8 + 13 * (8 * s + (bNp B s - 1 + 1)) = E + 13 by omega]
        refine v_cv g1 ⟨rfl, rfl, rfl, rfl, ?_, trivial⟩ ?_ rfl
        · rw [nI_add]
        · rw [nI_add]; rfl
  have lp1 : ∀ d x, x + d = E → A ≤ x → ∀ F : Nat → Nat → Int32, F 100 (5 + s) = nI (bNp B s - 1) → (∀ y, A ≤ y → y < x → F 100 y = f 100 (y + 13)) → (∀ y, y ≠ 5 + s → y < A ∨ x ≤ y → F 100 y = f 100 y) → (∀ c, c ≠ 100 → F c = f c) →
      ∃ F2, (∀ Φ, Run n_X7_drops 110 158 [some (.ref 98), some (.int (nI s)), some (.int (nI p)), some (.int (nI g)), none, none] [] (HH n kf F2) Φ → Run n_X7_drops 110 132 [some (.ref 98), some (.int (nI s)), some (.int (nI p)), some (.int (nI g)), some (.int (nI x)), none] [.int (nI E), .int (nI x)] (HH n kf F) Φ) ∧ F2 100 (5 + s) = nI (bNp B s - 1) ∧ (∀ y, A ≤ y → y < E → F2 100 y = f 100 (y + 13)) ∧ (∀ y, y ≠ 5 + s → y < A ∨ E ≤ y → F2 100 y = f 100 y) ∧ ∀ c, c ≠ 100 → F2 c = f c := by
    intro d
    induction d with
    | zero =>
      intro x hx hx2 F k7 k1 k2 k3
      refine ⟨F, fun Φ hΦ => ?_, k7, fun y y1 y2 => k1 y y1 (by omega), fun y y1 y2 => k2 y y1 (by omega), k3⟩
      refine g_cmp hT rfl (fun cq => ?_) (fun cq => ?_)
      · exact v_cv hΦ ⟨rfl, rfl, rfl, rfl, trivial⟩ rfl rfl
      · exact absurd ((cj_ge (by omega) (by omega)).mpr (by omega)) cq
    | succ d ih =>
      intro x hx hx2 F k7 k1 k2 k3
      obtain ⟨F2, g1, g2⟩ := ih (x + 1) (by omega) (by omega) (hset F 100 x (f 100 (x + 13))) (by rw [hs_s, upd_ne (by omega)]; exact k7) (fun y y1 y2 => by
        rw [hs_s]
        by_cases e : y = x
        · subst e; rw [upd_eq]
        · rw [upd_ne e]; exact k1 y y1 (by omega)) (fun y y1 y2 => by rw [hs_s, upd_ne (by omega)]; exact k2 y y1 (by omega)) (fun c hc => by rw [hset_ne hc]; exact k3 c hc)
      refine ⟨F2, fun Φ hΦ => ?_, g2⟩
      refine g_cmp hT rfl (fun cq => ?_) (fun cq => ?_)
      · exact absurd ((cj_ge (by omega) (by omega)).mp cq) (by omega)
      · refine v_p hT rfl rfl ?_
        refine v_getr hT rfl rfl (by omega) rfl ?_
        refine v_p hT rfl rfl ?_
        refine v_getr hT rfl rfl (by omega) rfl ?_
        refine v_p hT rfl rfl ?_
        rw [nI_add]
        refine v_ald hT rfl (by first | assumption | rfl) (by omega) (by decide) (by omega) ?_
        rw [k2 (x + 13) (by omega) (by omega)]
        refine v_ast hT rfl rfl (by omega) (by decide) (by omega) ?_
        refine v_p hT rfl rfl ?_
        refine v_call hT [.int (nI s)] rfl rfl (by first | rfl | assumption) (by omega) rfl rfl (Nat.le_of_ble_eq_true rfl) (Nat.le_of_ble_eq_true rfl) (m_many hs) ?_
        rw [hs_s, upd_ne (show 5 + s ≠ x by omega), k7]
        refine v_scall hT [.int (nI s), .int (nI (bNp B s - 1))] rfl rfl rfl rfl (Nat.le_of_ble_eq_true rfl) (Nat.le_of_ble_eq_true rfl) (m_at s (bNp B s - 1)) ?_
        rw [hE]
        refine v_cv (g1 Φ hΦ) ⟨rfl, rfl, rfl, rfl, ?_, trivial⟩ ?_ rfl
        · rw [nI_add]
        · rw [nI_add]; rfl
  obtain ⟨F1, q1, q2, q3, q4, q5⟩ := lp1 (E - A) A (by omega) (Nat.le_refl _) (hset f 100 (5 + s) (nI (bNp B s - 1))) (by rw [hs_s, upd_eq]) (fun y y1 y2 => by omega) (fun y y1 y2 => by rw [hs_s, upd_ne y1]) (fun c hc => hset_ne hc)
  obtain ⟨F2, r1, r2, r3, r4⟩ := lp2 13 E (by omega) (Nat.le_refl _) F1 q2
  refine ⟨F2, ?_, ?_, by rw [r3, q5 98 (by omega)], fun c x1 x2 => by rw [r4 c x1 x2, q5 c x2]⟩
  · refine v_p hT rfl rfl ?_
    refine v_getr hT rfl rfl (by omega) rfl ?_
    refine v_p hT rfl rfl ?_
    rw [nI_add]
    refine v_ald hT rfl (by first | assumption | rfl) (by omega) (by decide) (by omega) ?_
    rw [h5]
    refine v_p hT rfl rfl ?_
    rw [pk_sub (by omega)]
    refine v_ast hT rfl rfl (by omega) (by decide) (by omega) ?_
    refine v_p hT rfl rfl ?_
    refine v_scall hT [.int (nI s), .int (nI p)] rfl rfl rfl rfl (Nat.le_of_ble_eq_true rfl) (Nat.le_of_ble_eq_true rfl) (m_at s p) ?_
    rw [hA]
    refine v_p hT rfl rfl ?_
    refine v_call hT [.int (nI s)] rfl rfl (by first | rfl | assumption) (by omega) rfl rfl (Nat.le_of_ble_eq_true rfl) (Nat.le_of_ble_eq_true rfl) (m_many hs) ?_
    rw [hs_s, upd_eq]
    refine v_scall hT [.int (nI s), .int (nI (bNp B s - 1))] rfl rfl rfl rfl (Nat.le_of_ble_eq_true rfl) (Nat.le_of_ble_eq_true rfl) (m_at s (bNp B s - 1)) ?_
    rw [hE]
    refine q1 _ ?_
    refine v_p hT rfl rfl ?_
    refine v_call hT [.int (nI s)] rfl rfl (by first | rfl | assumption) (by omega) rfl rfl (Nat.le_of_ble_eq_true rfl) (Nat.le_of_ble_eq_true rfl) (m_many hs) ?_
    rw [q2]
    refine v_scall hT [.int (nI s), .int (nI (bNp B s - 1))] rfl rfl rfl rfl (Nat.le_of_ble_eq_true rfl) (Nat.le_of_ble_eq_true rfl) (m_at s (bNp B s - 1)) ?_
    rw [hE]
    refine v_p hT rfl rfl ?_
    refine v_call hT [.int (nI s)] rfl rfl (by first | rfl | assumption) (by omega) rfl rfl (Nat.le_of_ble_eq_true rfl) (Nat.le_of_ble_eq_true rfl) (m_many hs) ?_
    rw [q2]
    refine v_p hT rfl rfl ?_
    rw [nI_add (bNp B s - 1) 1]
    refine v_scall hT [.int (nI s), .int (nI (bNp B s - 1 + 1))] rfl rfl rfl rfl (Nat.le_of_ble_eq_true rfl) (Nat.le_of_ble_eq_true rfl) (m_at s (bNp B s - 1 + 1)) ?_
    rw [show 8 + 13 * (8 * s + (bNp B s - 1 + 1)) = E + 13 by omega]
    exact r1
  · obtain ⟨a1, a2, a3, a4, a5, a6⟩ := hR
    have old : ∀ y, y ≠ 5 + s → y < A ∨ E + 13 ≤ y → F2 100 y = f 100 y := fun y y1 y2 => by rw [r2 y (by omega), q4 y y1 (by omega)]
    refine ⟨fun z hz => by rw [old _ (by omega) (by omega)]; exact a1 z hz, fun j hj => by rw [old _ (by omega) (by omega)]; exact a2 j hj, fun z hz => ?_, by rw [old _ (by omega) (by omega)]; exact a4, fun z r hz hr => ?_, fun j hj y hy => by rw [old _ (by omega) (by omega)]; exact a6 j hj y hy⟩
    · show _ = nI (if z = s then bNp B s - 1 else bNp B z)
      by_cases e : z = s
      · subst e; rw [if_pos rfl, r2 _ (by omega)]; exact q2
      · rw [if_neg e, old _ (by omega) (by omega)]; exact a3 z hz
    · have hr : r < (if z = s then bNp B s - 1 else bNp B z) := hr
      have hz8 := w1 z hz
      by_cases e : z = s ∧ p ≤ r
      · obtain ⟨e1, e2⟩ := e
        subst e1
        rw [if_pos rfl] at hr
        obtain ⟨b1, b2⟩ := a5 z (r + 1) hz (by omega)
        have hw := w2 z (r + 1) hz (by omega)
        refine ⟨?_, fun k hk => ?_⟩
        · show _ = nI (if z = z ∧ p ≤ r then bNw B z (r + 1) else bNw B z r)
          rw [if_pos ⟨rfl, e2⟩, r2 _ (by omega), q3 _ (by omega) (by omega), ← b1]
          congr 1 <;> omega
        · have hk : k < (if z = z ∧ p ≤ r then bNw B z (r + 1) else bNw B z r) := hk
          rw [if_pos ⟨rfl, e2⟩] at hk
          show _ = nI (if z = z ∧ p ≤ r then bLn B z (r + 1) k else bLn B z r k)
          rw [if_pos ⟨rfl, e2⟩, r2 _ (by omega), q3 _ (by omega) (by omega), ← b2 k hk]
          congr 1 <;> omega
      · have hr2 : r < bNp B z := by
          by_cases e2 : z = s
          · rw [if_pos e2] at hr; subst e2; omega
          · rw [if_neg e2] at hr; exact hr
        have hw := w2 z r hz hr2
        have hloc : 8 + 13 * (8 * z + r) + 13 ≤ A ∨ E + 13 ≤ 8 + 13 * (8 * z + r) := by
          by_cases e2 : z = s
          · subst e2
            have : ¬ p ≤ r := fun q => e ⟨rfl, q⟩
            omega
          · omega
        refine ⟨?_, fun k hk => ?_⟩
        · show _ = nI (if z = s ∧ p ≤ r then bNw B z (r + 1) else bNw B z r)
          rw [if_neg e, old _ (by omega) (by omega)]; exact (a5 z r hz hr2).1
        · have hk : k < (if z = s ∧ p ≤ r then bNw B z (r + 1) else bNw B z r) := hk
          rw [if_neg e] at hk
          show _ = nI (if z = s ∧ p ≤ r then bLn B z (r + 1) k else bLn B z r k)
          rw [if_neg e, old _ (by omega) (by omega)]; exact (a5 z r hz hr2).2 k hk
