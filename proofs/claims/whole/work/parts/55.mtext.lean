/-! THE REFERENCE: reading THE TEXT. What it reads, held against the class's reading byte by byte. -/
def sc (t : TX) (i : Nat) (Q : QS) : Nat × Option QS := scan t (t.1 - i) i Q
theorem sc_step {t : TX} {i : Nat} {Q : QS} (h : i < t.1) : sc t i Q = match qStep Q (t.2 i) with | none => (i, none) | some Q' => sc t (i + 1) Q' := by
  unfold sc
  rw [show t.1 - i = (t.1 - (i + 1)) + 1 by omega]
  rfl
theorem sc_end (t : TX) (Q : QS) : sc t t.1 Q = if ¬ qKd Q = 0 ∨ qNo Q = 0 then (t.1, none) else (t.1, some Q) := by
  unfold sc
  rw [Nat.sub_self]
  rfl
/-- from i, Q on the bytes lead to j, Q' -/
def rch (t : TX) (i : Nat) (Q : QS) (j : Nat) (Q' : QS) : Prop := ∀ P : Nat → QS → Prop, P i Q → (∀ k X X', k < t.1 → P k X → qStep X (t.2 k) = some X' → P (k + 1) X') → P j Q'
theorem rch_refl (t : TX) (i : Nat) (Q : QS) : rch t i Q i Q := fun _ h _ => h
theorem rch_trans {t : TX} {i j k : Nat} {Q Q' Q2 : QS} (h1 : rch t i Q j Q') (h2 : rch t j Q' k Q2) : rch t i Q k Q2 := fun P h0 hs => h2 P (h1 P h0 hs) hs
theorem rch_one {t : TX} {i : Nat} {Q Q' : QS} (h : i < t.1) (hs : qStep Q (t.2 i) = some Q') : rch t i Q (i + 1) Q' := fun _ h0 h1 => h1 i Q Q' h h0 hs
theorem rch_sc {t : TX} {i j : Nat} {Q Q' : QS} (h : rch t i Q j Q') : sc t i Q = sc t j Q' := by
  refine h (fun k X => sc t i Q = sc t k X) rfl (fun k X X' hk hp hs => ?_)
  rw [hp, sc_step hk, hs]
/-- what was read stays -/
def extQ (Q X : QS) : Prop := qNo Q ≤ qNo X ∧ (∀ o, o < qNo Q → qKs X o = qKs Q o) ∧ (∀ o, o ≤ qNo Q → qFr X o = qFr Q o) ∧ (∀ k, k < qFr Q (qNo Q) → qNm X k = qNm Q k) ∧ qFr Q (qNo Q) ≤ qFr X (qNo X)
theorem ext_refl (Q : QS) : extQ Q Q := ⟨Nat.le_refl _, fun _ _ => rfl, fun _ _ => rfl, fun _ _ => rfl, Nat.le_refl _⟩
theorem ext_trans {Q X Y : QS} (h1 : extQ Q X) (h2 : extQ X Y) : extQ Q Y := by
  obtain ⟨a1, a2, a3, a4, a5⟩ := h1
  obtain ⟨b1, b2, b3, b4, b5⟩ := h2
  exact ⟨by omega, fun o ho => by rw [b2 o (by omega), a2 o ho], fun o ho => by rw [b3 o (by omega), a3 o ho], fun k hk => by rw [b4 k (by omega), a4 k hk], by omega⟩
theorem ext_step {Q Q' : QS} {c i : Nat} (h : qI Q i) (hs : qStep Q c = some Q') : extQ Q Q' := by
  obtain ⟨h1, h2, h3, h4, h5, h6⟩ := h
  unfold qStep at hs
  by_cases c1 : c = 32
  · rw [if_pos c1] at hs
    cases hs
    exact ⟨Nat.le_refl _, fun _ _ => rfl, fun _ _ => rfl, fun _ _ => rfl, Nat.le_refl _⟩
  · rw [if_neg c1] at hs
    by_cases c2 : c = 59
    · rw [if_pos c2] at hs
      unfold qEnd at hs
      by_cases c3 : qKd Q = 0 ∨ qNn Q - qFr Q (qNo Q) < leastN (qKd Q)
      · rw [if_pos c3] at hs; cases hs
      · rw [if_neg c3] at hs
        cases hs
        refine ⟨by show qNo Q ≤ qNo Q + 1; omega, fun o ho => ?_, fun o ho => ?_, fun _ _ => rfl, ?_⟩
        · show updN (qKs Q) (qNo Q) (qKd Q) o = _
          unfold updN; rw [if_neg (by omega)]
        · show updN (qFr Q) (qNo Q + 1) (qNn Q) o = _
          unfold updN; rw [if_neg (by omega)]
        · show qFr Q (qNo Q) ≤ updN (qFr Q) (qNo Q + 1) (qNn Q) (qNo Q + 1)
          unfold updN; rw [if_pos rfl]; exact h3
    · rw [if_neg c2] at hs
      by_cases c4 : 48 ≤ c ∧ c ≤ 57
      · rw [if_pos c4] at hs
        unfold qFig at hs
        by_cases c5 : qKd Q = 0 ∨ 2 ≤ qFg Q
        · rw [if_pos c5] at hs; cases hs
        · rw [if_neg c5] at hs
          by_cases c6 : qFg Q = 1
          · rw [if_pos c6] at hs
            cases hs
            have := h4 c6 (fun z => c5 (Or.inl z))
            refine ⟨Nat.le_refl _, fun _ _ => rfl, fun _ _ => rfl, fun k hk => ?_, Nat.le_refl _⟩
            show updN (qNm Q) (qNn Q - 1) _ k = _
            unfold updN; rw [if_neg (by omega)]
          · rw [if_neg c6] at hs
            by_cases c7 : mostN (qKd Q) ≤ qNn Q - qFr Q (qNo Q)
            · rw [if_pos c7] at hs; cases hs
            · rw [if_neg c7] at hs
              cases hs
              refine ⟨Nat.le_refl _, fun _ _ => rfl, fun _ _ => rfl, fun k hk => ?_, Nat.le_refl _⟩
              show updN (qNm Q) (qNn Q) _ k = _
              unfold updN; rw [if_neg (by omega)]
      · rw [if_neg c4] at hs
        unfold qBeg at hs
        by_cases c8 : ¬ qKd Q = 0 ∨ mostN c = 0
        · rw [if_pos c8] at hs; cases hs
        · rw [if_neg c8] at hs
          cases hs
          exact ⟨Nat.le_refl _, fun _ _ => rfl, fun _ _ => rfl, fun _ _ => rfl, Nat.le_refl _⟩
theorem rch_ok {t : TX} (hV : VT t) {i j : Nat} {Q Q' : QS} (h : rch t i Q j Q') (hI : qI Q i) (hW : qW Q) : qI Q' j ∧ qW Q' ∧ extQ Q Q' := by
  refine h (fun k X => qI X k ∧ qW X ∧ extQ Q X) ⟨hI, hW, ext_refl Q⟩ (fun k X X' hk hp hs => ?_)
  exact ⟨qI_step hp.1 (hV.2 k hk) hs, qW_step hp.2.1 hp.1 hs, ext_trans hp.2.2 (ext_step hp.1 hs)⟩
theorem sc_ext {t : TX} (hV : VT t) : ∀ d i Q, i + d = t.1 → qI Q i → ∀ p X, sc t i Q = (p, some X) → extQ Q X := by
  intro d
  induction d with
  | zero =>
    intro i Q hi hI p X h
    obtain rfl : i = t.1 := by omega
    rw [sc_end] at h
    by_cases hc : ¬ qKd Q = 0 ∨ qNo Q = 0
    · rw [if_pos hc] at h; cases h
    · rw [if_neg hc] at h
      cases h
      exact ext_refl Q
  | succ d ih =>
    intro i Q hi hI p X h
    rw [sc_step (by omega)] at h
    cases hst : qStep Q (t.2 i) with
    | none => rw [hst] at h; cases h
    | some Q' =>
      rw [hst] at h
      exact ext_trans (ext_step hI hst) (ih (i + 1) Q' (by omega) (qI_step hI (hV.2 i (by omega)) hst) p X h)
def qAt (Q : QS) (g : Nat) : QS := (qNo Q, qNn Q, qKd Q, g, qKs Q, qFr Q, qNm Q)
def dgT (t : TX) (i : Nat) : Prop := i < t.1 ∧ 48 ≤ t.2 i ∧ t.2 i ≤ 57
def gOK (t : TX) (i g : Nat) : Prop := dgT t i → g = 0
def nbT (t : TX) (i : Nat) : Prop := i = t.1 ∨ (i < t.1 ∧ ¬ t.2 i = 32)
def blk (t : TX) : Nat → Nat → Nat
  | 0, i => i
  | d + 1, i => if t.2 i = 32 then blk t d (i + 1) else i
def blkF (t : TX) (i : Nat) : Nat := blk t (t.1 - i) i
theorem blkF_no {t : TX} {i : Nat} (h : nbT t i) : blkF t i = i := by
  unfold blkF
  rcases h with h | h
  · subst h; rw [Nat.sub_self]; rfl
  · rw [show t.1 - i = (t.1 - (i + 1)) + 1 by omega]
    show (if t.2 i = 32 then _ else i) = i
    rw [if_neg h.2]
theorem blkF_yes {t : TX} {i : Nat} (h : i < t.1) (h2 : t.2 i = 32) : blkF t i = blkF t (i + 1) := by
  unfold blkF
  rw [show t.1 - i = (t.1 - (i + 1)) + 1 by omega]
  show (if t.2 i = 32 then _ else i) = _
  rw [if_pos h2]
theorem blk_ok {t : TX} : ∀ d i, i + d = t.1 → i ≤ blkF t i ∧ blkF t i ≤ t.1 ∧ nbT t (blkF t i) ∧ ∀ Q g, gOK t i g → ∃ g', rch t i (qAt Q g) (blkF t i) (qAt Q g') ∧ gOK t (blkF t i) g' := by
  intro d
  induction d with
  | zero =>
    intro i hi
    have hn : nbT t i := Or.inl (by omega)
    rw [blkF_no hn]
    exact ⟨Nat.le_refl _, by omega, hn, fun Q g hg => ⟨g, rch_refl _ _ _, hg⟩⟩
  | succ d ih =>
    intro i hi
    by_cases h : t.2 i = 32
    · rw [blkF_yes (by omega) h]
      obtain ⟨a1, a2, a3, a4⟩ := ih (i + 1) (by omega)
      refine ⟨by omega, a2, a3, fun Q g _ => ?_⟩
      obtain ⟨g', b1, b2⟩ := a4 Q 0 (fun _ => rfl)
      refine ⟨g', rch_trans (rch_one (by omega) ?_) b1, b2⟩
      unfold qStep
      rw [if_pos h]
      rfl
    · have hn : nbT t i := Or.inr ⟨by omega, h⟩
      rw [blkF_no hn]
      exact ⟨Nat.le_refl _, by omega, hn, fun Q g hg => ⟨g, rch_refl _ _ _, hg⟩⟩
/-- here the reading ends with a fault -/
def fltT (t : TX) (p : Nat) (X : QS) : Prop := (p < t.1 ∧ qStep X (t.2 p) = none) ∨ (p = t.1 ∧ ¬ qKd X = 0)
theorem flt_sc {t : TX} {p : Nat} {X : QS} (h : fltT t p X) : sc t p X = (p, none) := by
  rcases h with ⟨h1, h2⟩ | ⟨h1, h2⟩
  · rw [sc_step h1, h2]
  · subst h1; rw [sc_end, if_pos (Or.inl h2)]
def qApp (Q : QS) (v : Nat) : QS := (qNo Q, qNn Q + 1, qKd Q, 0, qKs Q, qFr Q, updN (qNm Q) (qNn Q) v)
theorem fig_1 {Q : QS} {c : Nat} (hk : ¬ qKd Q = 0) (hm : qNn Q - qFr Q (qNo Q) < mostN (qKd Q)) (h1 : 48 ≤ c) (h2 : c ≤ 57) : qStep (qAt Q 0) c = some (qAt (qApp Q (c - 48)) 1) := by
  unfold qStep
  rw [if_neg (by omega), if_neg (by omega), if_pos ⟨h1, h2⟩]
  unfold qFig
  rw [if_neg (show ¬ (qKd (qAt Q 0) = 0 ∨ 2 ≤ qFg (qAt Q 0)) from fun z => z.elim hk (fun z => absurd z (by show ¬ 2 ≤ 0; omega))), if_neg (show ¬ qFg (qAt Q 0) = 1 by show ¬ 0 = 1; omega), if_neg (show ¬ mostN (qKd (qAt Q 0)) ≤ qNn (qAt Q 0) - qFr (qAt Q 0) (qNo (qAt Q 0)) by show ¬ mostN (qKd Q) ≤ qNn Q - qFr Q (qNo Q); omega)]
  rfl
theorem fig_2 {Q : QS} {c v : Nat} (hk : ¬ qKd Q = 0) (h1 : 48 ≤ c) (h2 : c ≤ 57) : qStep (qAt (qApp Q v) 1) c = some (qAt (qApp Q (v * 10 + (c - 48))) 2) := by
  unfold qStep
  rw [if_neg (by omega), if_neg (by omega), if_pos ⟨h1, h2⟩]
  unfold qFig
  rw [if_neg (show ¬ (qKd (qAt (qApp Q v) 1) = 0 ∨ 2 ≤ qFg (qAt (qApp Q v) 1)) from fun z => z.elim hk (fun z => absurd z (by show ¬ 2 ≤ 1; omega))), if_pos (show qFg (qAt (qApp Q v) 1) = 1 from rfl)]
  have e : updN (qNm (qAt (qApp Q v) 1)) (qNn (qAt (qApp Q v) 1) - 1) (qNm (qAt (qApp Q v) 1) (qNn (qAt (qApp Q v) 1) - 1) * 10 + (c - 48)) = updN (qNm Q) (qNn Q) (v * 10 + (c - 48)) := by
    funext k
    show (if k = qNn Q + 1 - 1 then updN (qNm Q) (qNn Q) v (qNn Q + 1 - 1) * 10 + (c - 48) else updN (qNm Q) (qNn Q) v k) = (if k = qNn Q then v * 10 + (c - 48) else qNm Q k)
    rw [Nat.add_sub_cancel]
    unfold updN
    rw [if_pos rfl]
    split
    · rfl
    · rfl
  rw [e]
  rfl
theorem fig_3 {Q : QS} {c : Nat} (h1 : 48 ≤ c) (h2 : c ≤ 57) : qStep (qAt Q 2) c = none := by
  unfold qStep
  rw [if_neg (by omega), if_neg (by omega), if_pos ⟨h1, h2⟩]
  unfold qFig
  rw [if_pos (show qKd (qAt Q 2) = 0 ∨ 2 ≤ qFg (qAt Q 2) from Or.inr (Nat.le_refl 2))]
/-- a number that must stand at j: a fault's place, or its end and itself -/
noncomputable def nmF (t : TX) (j : Nat) : Bool × Nat × Nat := bif pB (dgT t j) then (bif pB (dgT t (j + 1)) then (bif pB (dgT t (j + 2)) then (true, blkF t (j + 2), (t.2 j - 48) * 10 + (t.2 (j + 1) - 48)) else (false, blkF t (j + 2), (t.2 j - 48) * 10 + (t.2 (j + 1) - 48))) else (false, blkF t (j + 1), t.2 j - 48)) else (true, blkF t j, 0)
theorem no_step {Q : QS} {g c : Nat} (hk : ¬ qKd Q = 0) (h32 : ¬ c = 32) (hd : ¬ (48 ≤ c ∧ c ≤ 57)) (h59 : c = 59 → qNn Q - qFr Q (qNo Q) < leastN (qKd Q)) : qStep (qAt Q g) c = none := by
  unfold qStep
  rw [if_neg h32]
  by_cases c2 : c = 59
  · rw [if_pos c2]
    unfold qEnd
    rw [if_pos (show qKd (qAt Q g) = 0 ∨ qNn (qAt Q g) - qFr (qAt Q g) (qNo (qAt Q g)) < leastN (qKd (qAt Q g)) from Or.inr (h59 c2))]
  · rw [if_neg c2, if_neg hd]
    unfold qBeg
    rw [if_pos (show ¬ qKd (qAt Q g) = 0 ∨ mostN c = 0 from Or.inl hk)]
theorem nm_ok {t : TX} {j g : Nat} {Q : QS} (hj : j ≤ t.1) (hn : nbT t j) (hg : gOK t j g) (hk : ¬ qKd Q = 0) (hm : qNn Q - qFr Q (qNo Q) < mostN (qKd Q)) (hl : qNn Q - qFr Q (qNo Q) < leastN (qKd Q) ∨ dgT t j) :
    (nmF t j).2.1 ≤ t.1 ∧ nbT t (nmF t j).2.1 ∧ ((nmF t j).1 = true → ∃ X, rch t j (qAt Q g) (nmF t j).2.1 X ∧ fltT t (nmF t j).2.1 X) ∧ ((nmF t j).1 = false → j < (nmF t j).2.1 ∧ ∃ g', rch t j (qAt Q g) (nmF t j).2.1 (qAt (qApp Q (nmF t j).2.2) g') ∧ gOK t (nmF t j).2.1 g') := by
  unfold nmF
  by_cases d0 : dgT t j
  · obtain ⟨a1, a2, a3⟩ := id d0
    obtain rfl := hg d0
    have r1 : rch t j (qAt Q 0) (j + 1) (qAt (qApp Q (t.2 j - 48)) 1) := rch_one a1 (fig_1 hk hm a2 a3)
    rw [pB_t d0]
    by_cases d1 : dgT t (j + 1)
    · obtain ⟨b1, b2, b3⟩ := id d1
      have r2 : rch t j (qAt Q 0) (j + 2) (qAt (qApp Q ((t.2 j - 48) * 10 + (t.2 (j + 1) - 48))) 2) := rch_trans r1 (rch_one b1 (fig_2 hk b2 b3))
      rw [pB_t d1]
      by_cases d2 : dgT t (j + 2)
      · obtain ⟨c1, c2, c3⟩ := id d2
        rw [pB_t d2]
        have hnb : nbT t (j + 2) := Or.inr ⟨c1, by omega⟩
        simp only [cond_true]
        rw [blkF_no hnb]
        exact ⟨by omega, hnb, fun _ => ⟨_, r2, Or.inl ⟨c1, fig_3 c2 c3⟩⟩, fun z => (by cases z)⟩
      · rw [pB_f d2]
        simp only [cond_true, cond_false]
        obtain ⟨e1, e2, e3, e4⟩ := blk_ok (t := t) (t.1 - (j + 2)) (j + 2) (by omega)
        obtain ⟨g', e5, e6⟩ := e4 _ 2 (fun z => absurd z d2)
        exact ⟨e2, e3, fun z => (by cases z), fun _ => ⟨by omega, g', rch_trans r2 e5, e6⟩⟩
    · rw [pB_f d1]
      simp only [cond_true, cond_false]
      obtain ⟨e1, e2, e3, e4⟩ := blk_ok (t := t) (t.1 - (j + 1)) (j + 1) (by omega)
      obtain ⟨g', e5, e6⟩ := e4 _ 1 (fun z => absurd z d1)
      exact ⟨e2, e3, fun z => (by cases z), fun _ => ⟨by omega, g', rch_trans r1 e5, e6⟩⟩
  · rw [pB_f d0]
    simp only [cond_false]
    rw [blkF_no hn]
    refine ⟨hj, hn, fun _ => ⟨qAt Q g, rch_refl _ _ _, ?_⟩, fun z => (by cases z)⟩
    rcases hn with hn | ⟨hn1, hn2⟩
    · exact Or.inr ⟨hn, hk⟩
    · refine Or.inl ⟨hn1, no_step hk hn2 (fun z => d0 ⟨hn1, z⟩) (fun _ => ?_)⟩
      rcases hl with hl | hl
      · exact hl
      · exact absurd hl d0
theorem nm_lt {t : TX} (j : Nat) : (nmF t j).2.2 < 1000 := by
  unfold nmF
  by_cases d0 : dgT t j
  · rw [pB_t d0]
    have := d0.2
    by_cases d1 : dgT t (j + 1)
    · rw [pB_t d1]
      have := d1.2
      by_cases d2 : dgT t (j + 2)
      · rw [pB_t d2]; simp only [cond_true]; omega
      · rw [pB_f d2]; simp only [cond_true, cond_false]; omega
    · rw [pB_f d1]; simp only [cond_true, cond_false]; omega
  · rw [pB_f d0]; simp only [cond_false]; omega
/-! the machine -/
theorem m_isAt {n i lo hi : Nat} {kf : Nat → Nat} {f : Nat → Nat → Int32} {t : TX} (hV : VT t) (ht : txM f t) (hi7 : f 98 17 = nI i) (hit : i ≤ t.1) (hlo : lo < 1000) (hhi : hi < 1000) :
    Run n_X7_isAt 110 0 (ini n_X7_isAt [.ref 98, .int (nI lo), .int (nI hi)]) [] (HH n kf f) (Ret (some (.int (bI (decide (i < t.1 ∧ lo ≤ t.2 i ∧ t.2 i ≤ hi))))) (HH n kf f)) := by
  have hT : mT n_X7_isAt = tb_X7_isAt := rfl
  have h120 := hV.1
  refine v_p hT rfl rfl ?_
  refine v_geti hT rfl (by first | rfl | assumption) (by omega) ?_
  rw [hi7]
  refine v_p hT rfl rfl ?_
  refine v_geti hT rfl (by first | rfl | assumption) (by omega) ?_
  rw [ht.1]
  refine g_cmp hT rfl (fun cq => ?_) (fun cq => ?_)
  · have cq := (cj_ge (by omega) (by omega)).mp cq
    rw [decide_eq_false (by omega)]
    refine v_p hT rfl rfl ?_
    refine v_ret hT rfl (fun _ => Or.inl rfl) rfl ⟨rfl, rfl⟩
  · have cq := (not_congr (cj_ge (by omega) (by omega))).mp cq
    have hc := hV.2 i (by omega)
    refine v_p hT rfl rfl ?_
    refine v_getr hT rfl rfl (by omega) rfl ?_
    refine v_p hT rfl rfl ?_
    refine v_geti hT rfl (by first | rfl | assumption) (by omega) ?_
    rw [hi7]
    refine v_ald hT rfl rfl (by omega) (by decide) (show i < 120 by omega) ?_
    rw [ht.2 i (by omega)]
    refine v_p hT rfl rfl ?_
    refine v_scall hT [.int (nI (t.2 i)), .int (nI lo), .int (nI hi)] rfl rfl rfl rfl (Nat.le_of_ble_eq_true rfl) (Nat.le_of_ble_eq_true rfl) (m_in _ _ _) ?_
    by_cases hd : lo ≤ t.2 i ∧ t.2 i ≤ hi
    · rw [decide_eq_true (show nI lo ≤ nI (t.2 i) ∧ nI (t.2 i) ≤ nI hi from ⟨(nI_leI (by omega) (by omega)).mpr hd.1, (nI_leI (by omega) (by omega)).mpr hd.2⟩), decide_eq_true ⟨by omega, hd⟩]
      refine g_if hT rfl (fun cq2 => ?_) (fun cq2 => ?_)
      · cases bf_of cq2
      · refine v_p hT rfl rfl ?_
        refine v_ret hT rfl (fun _ => Or.inr rfl) rfl ⟨rfl, rfl⟩
    · rw [decide_eq_false (show ¬ (nI lo ≤ nI (t.2 i) ∧ nI (t.2 i) ≤ nI hi) from fun z => hd ⟨(nI_leI (by omega) (by omega)).mp z.1, (nI_leI (by omega) (by omega)).mp z.2⟩), decide_eq_false (fun z => hd z.2)]
      refine g_if hT rfl (fun cq2 => ?_) (fun cq2 => ?_)
      · refine v_p hT rfl rfl ?_
        refine v_ret hT rfl (fun _ => Or.inl rfl) rfl ⟨rfl, rfl⟩
      · exact absurd rfl cq2
theorem m_blanks {n : Nat} {kf : Nat → Nat} {t : TX} (hV : VT t) : ∀ d i, i + d = t.1 → ∀ f : Nat → Nat → Int32, txM f t → f 98 17 = nI i → Run n_X7_blanks 110 0 (ini n_X7_blanks [.ref 98]) [] (HH n kf f) (Ret none (HH n kf (hset f 98 17 (nI (blkF t i))))) := by
  have hT : mT n_X7_blanks = tb_X7_blanks := rfl
  have h120 := hV.1
  intro d
  induction d with
  | zero =>
    intro i hi f ht h17
    rw [blkF_no (Or.inl (by omega)), ← h17, hset_same]
    refine v_p hT rfl rfl ?_
    refine v_call hT [.int (nI 32), .int (nI 32)] rfl rfl (by first | rfl | assumption) (by omega) rfl rfl (Nat.le_of_ble_eq_true rfl) (Nat.le_of_ble_eq_true rfl) (m_isAt hV ht h17 (by omega) (by omega) (by omega)) ?_
    rw [decide_eq_false (by omega)]
    refine g_if hT rfl (fun cq => ?_) (fun cq => ?_)
    · refine v_vret hT rfl rfl ⟨rfl, rfl⟩
    · exact absurd rfl cq
  | succ d ih =>
    intro i hi f ht h17
    by_cases h : t.2 i = 32
    · rw [blkF_yes (by omega) h]
      have ih' := ih (i + 1) (by omega) (hset f 98 17 (nI (i + 1))) ⟨by rw [hs_s, pk_un (by omega)]; exact ht.1, fun k hk => by rw [hset_ne (by omega)]; exact ht.2 k hk⟩ (by rw [hs_s]; exact pk_us)
      rw [hset_hset] at ih'
      refine v_p hT rfl rfl ?_
      refine v_call hT [.int (nI 32), .int (nI 32)] rfl rfl (by first | rfl | assumption) (by omega) rfl rfl (Nat.le_of_ble_eq_true rfl) (Nat.le_of_ble_eq_true rfl) (m_isAt hV ht h17 (by omega) (by omega) (by omega)) ?_
      rw [decide_eq_true (show i < t.1 ∧ 32 ≤ t.2 i ∧ t.2 i ≤ 32 by omega)]
      refine g_if hT rfl (fun cq => ?_) (fun cq => ?_)
      · cases bf_of cq
      · refine v_p hT rfl rfl ?_
        refine v_geti hT rfl (by first | rfl | assumption) (by omega) ?_
        rw [h17]
        refine v_p hT rfl rfl ?_
        rw [nI_add]
        refine v_puti hT rfl rfl (by omega) (fun z => by cases z) ?_
        refine r_pure _ _ _ _ _ _ _ 0 _ _ (by rw [hT]; rfl) ?_
        exact ih'
    · rw [blkF_no (Or.inr ⟨by omega, h⟩), ← h17, hset_same]
      refine v_p hT rfl rfl ?_
      refine v_call hT [.int (nI 32), .int (nI 32)] rfl rfl (by first | rfl | assumption) (by omega) rfl rfl (Nat.le_of_ble_eq_true rfl) (Nat.le_of_ble_eq_true rfl) (m_isAt hV ht h17 (by omega) (by omega) (by omega)) ?_
      rw [decide_eq_false (by omega)]
      refine g_if hT rfl (fun cq => ?_) (fun cq => ?_)
      · refine v_vret hT rfl rfl ⟨rfl, rfl⟩
      · exact absurd rfl cq
