/-! THE REFERENCE: its states. -/
theorem m_puts {n pl : Nat} {kf : Nat → Nat} {f : Nat → Nat → Int32} (hpl : pl ≤ 6) :
    ∃ F, Run n_X7_puts 110 0 (ini n_X7_puts [.ref 98, .int (nI pl)]) [] (HH n kf f) (Ret none (HH n kf F)) ∧ (∀ c, c < 260 → F 101 (260 * pl + c) = f 100 c) ∧ (∀ x, x < 260 * pl ∨ 260 * pl + 260 ≤ x → F 101 x = f 101 x) ∧ ∀ c, c ≠ 101 → F c = f c := by
  have hT : mT n_X7_puts = tb_X7_puts := rfl
  have loop : ∀ d k, k + d = 260 → ∀ F : Nat → Nat → Int32, (∀ c, c < k → F 101 (260 * pl + c) = f 100 c) → (∀ x, x < 260 * pl ∨ 260 * pl + 260 ≤ x → F 101 x = f 101 x) → (∀ c, c ≠ 101 → F c = f c) →
      ∃ F2, Run n_X7_puts 110 6 [some (.ref 98), some (.int (nI pl)), some (.int (nI k))] [.int (nI 260), .int (nI k)] (HH n kf F) (Ret none (HH n kf F2)) ∧ (∀ c, c < 260 → F2 101 (260 * pl + c) = f 100 c) ∧ (∀ x, x < 260 * pl ∨ 260 * pl + 260 ≤ x → F2 101 x = f 101 x) ∧ ∀ c, c ≠ 101 → F2 c = f c := by
    intro d
    induction d with
    | zero =>
      intro k hk F h1 h2 h3
      refine ⟨F, ?_, fun c hc => h1 c (by omega), h2, h3⟩
      refine g_cmp hT rfl (fun cq => ?_) (fun cq => ?_)
      · refine v_vret hT rfl rfl ⟨rfl, rfl⟩
      · exact absurd ((cj_ge (by omega) (by omega)).mpr (by omega)) cq
    | succ d ih =>
      intro k hk F h1 h2 h3
      obtain ⟨F2, g1, g2⟩ := ih (k + 1) (by omega) (hset F 101 (260 * pl + k) (f 100 k)) (fun c hc => by
        rw [hs_s]
        unfold upd
        by_cases e : c = k
        · subst e; rw [if_pos rfl]
        · rw [if_neg (by omega)]; exact h1 c (by omega)) (fun x hx => by
        rw [hs_s]
        unfold upd
        rw [if_neg (by omega)]; exact h2 x hx) (fun c hc => by rw [hset_ne hc]; exact h3 c hc)
      refine ⟨F2, ?_, g2⟩
      refine g_cmp hT rfl (fun cq => ?_) (fun cq => ?_)
      · exact absurd ((cj_ge (by omega) (by omega)).mp cq) (by omega)
      · refine v_p hT rfl rfl ?_
        refine v_getr hT rfl rfl (by omega) rfl ?_
        refine v_p hT rfl rfl ?_
        rw [pk_mul, nI_add]
        refine v_getr hT rfl rfl (by omega) rfl ?_
        refine v_p hT rfl rfl ?_
        refine v_ald hT rfl (by first | assumption | rfl) (by omega) (by decide) (by omega) ?_
        rw [h3 100 (by omega)]
        refine v_ast hT rfl rfl (by omega) (by decide) (by omega) ?_
        refine v_p hT rfl rfl ?_
        refine v_cv g1 ⟨rfl, rfl, ?_, trivial⟩ ?_ rfl
        · rw [nI_add]
        · rw [nI_add]
  obtain ⟨F2, g1, g2⟩ := loop 260 0 (by omega) f (fun c hc => absurd hc (Nat.not_lt_zero _)) (fun _ _ => rfl) (fun _ _ => rfl)
  refine ⟨F2, ?_, g2⟩
  refine v_p hT rfl rfl ?_
  exact g1
theorem m_takes {n pl : Nat} {kf : Nat → Nat} {f : Nat → Nat → Int32} (hpl : pl ≤ 6) :
    ∃ F, Run n_X7_takes 110 0 (ini n_X7_takes [.ref 98, .int (nI pl)]) [] (HH n kf f) (Ret none (HH n kf F)) ∧ (∀ c, c < 260 → F 100 c = f 101 (260 * pl + c)) ∧ F 98 = upd (f 98) 4 (nI 0) ∧ ∀ c, c ≠ 100 → c ≠ 98 → F c = f c := by
  have hT : mT n_X7_takes = tb_X7_takes := rfl
  have loop : ∀ d k, k + d = 260 → ∀ F : Nat → Nat → Int32, (∀ c, c < k → F 100 c = f 101 (260 * pl + c)) → (∀ c, c ≠ 100 → F c = f c) →
      ∃ F2, Run n_X7_takes 110 6 [some (.ref 98), some (.int (nI pl)), some (.int (nI k))] [.int (nI 260), .int (nI k)] (HH n kf F) (Ret none (HH n kf F2)) ∧ (∀ c, c < 260 → F2 100 c = f 101 (260 * pl + c)) ∧ F2 98 = upd (f 98) 4 (nI 0) ∧ ∀ c, c ≠ 100 → c ≠ 98 → F2 c = f c := by
    intro d
    induction d with
    | zero =>
      intro k hk F h1 h3
      refine ⟨hset F 98 4 (nI 0), ?_, fun c hc => by rw [hset_ne (by omega)]; exact h1 c (by omega), by rw [hs_s, h3 98 (by omega)], fun c x1 x2 => by rw [hset_ne x2]; exact h3 c x1⟩
      refine g_cmp hT rfl (fun cq => ?_) (fun cq => ?_)
      · refine v_p hT rfl rfl ?_
        refine v_puti hT rfl rfl (by omega) (fun _ => Or.inl rfl) ?_
        refine v_vret hT rfl rfl ⟨rfl, rfl⟩
      · exact absurd ((cj_ge (by omega) (by omega)).mpr (by omega)) cq
    | succ d ih =>
      intro k hk F h1 h3
      obtain ⟨F2, g1, g2⟩ := ih (k + 1) (by omega) (hset F 100 k (f 101 (260 * pl + k))) (fun c hc => by
        rw [hs_s]
        unfold upd
        by_cases e : c = k
        · subst e; rw [if_pos rfl]
        · rw [if_neg (by omega)]; exact h1 c (by omega)) (fun c hc => by rw [hset_ne hc]; exact h3 c hc)
      refine ⟨F2, ?_, g2⟩
      refine g_cmp hT rfl (fun cq => ?_) (fun cq => ?_)
      · exact absurd ((cj_ge (by omega) (by omega)).mp cq) (by omega)
      · refine v_p hT rfl rfl ?_
        refine v_getr hT rfl rfl (by omega) rfl ?_
        refine v_p hT rfl rfl ?_
        refine v_getr hT rfl rfl (by omega) rfl ?_
        refine v_p hT rfl rfl ?_
        rw [pk_mul, nI_add]
        refine v_ald hT rfl (by first | assumption | rfl) (by omega) (by decide) (by omega) ?_
        rw [h3 101 (by omega)]
        refine v_ast hT rfl rfl (by omega) (by decide) (by omega) ?_
        refine v_p hT rfl rfl ?_
        refine v_cv g1 ⟨rfl, rfl, ?_, trivial⟩ ?_ rfl
        · rw [nI_add]
        · rw [nI_add]
  obtain ⟨F2, g1, g2⟩ := loop 260 0 (by omega) f (fun c hc => absurd hc (Nat.not_lt_zero _)) (fun _ _ => rfl)
  refine ⟨F2, ?_, g2⟩
  refine v_p hT rfl rfl ?_
  exact g1
def stM (f : Nat → Nat → Int32) (H : HS) : Prop := f 98 3 = nI H.1 ∧ ∀ i, i < H.1 → nowR (fun c => f 101 (260 * i + c)) (H.2 i)
theorem m_leaves2 {n m : Nat} {kf : Nat → Nat} {f : Nat → Nat → Int32} {h' : Nat → BK} {B : BK} (hm : m < 6) (h3 : f 98 3 = nI m) (hb : ∀ i, i < m → nowR (fun c => f 101 (260 * i + c)) (h' i)) (hv : ∀ i, i < m → VB (h' i)) (h6 : nowR (fun c => f 101 (260 * 6 + c)) B) (hB : VB B) :
    ∃ F, Run n_X7_leavesState 110 50 [some (.ref 98), none] [] (HH n kf f) (Ret none (HH n kf F)) ∧ stM F (m + 1, fun i => if i = m then B else h' i) ∧ (∀ i, i ≠ 3 → F 98 i = f 98 i) ∧ ∀ c, c ≠ 98 → c ≠ 101 → F c = f c := by
  have hT : mT n_X7_leavesState = tb_X7_leavesState := rfl
  have loop : ∀ d k, k + d = 260 → ∀ F : Nat → Nat → Int32, (∀ c, c < k → F 101 (260 * m + c) = f 101 (1560 + c)) → (∀ x, x < 260 * m ∨ 260 * m + 260 ≤ x → F 101 x = f 101 x) → (∀ c, c ≠ 101 → F c = f c) →
      ∃ F2, Run n_X7_leavesState 110 56 [some (.ref 98), some (.int (nI k))] [.int (nI 260), .int (nI k)] (HH n kf F) (Ret none (HH n kf (hset F2 98 3 (nI (m + 1))))) ∧ (∀ c, c < 260 → F2 101 (260 * m + c) = f 101 (1560 + c)) ∧ (∀ x, x < 260 * m ∨ 260 * m + 260 ≤ x → F2 101 x = f 101 x) ∧ ∀ c, c ≠ 101 → F2 c = f c := by
    intro d
    induction d with
    | zero =>
      intro k hk F h1 h2 h4
      refine ⟨F, ?_, fun c hc => h1 c (by omega), h2, h4⟩
      refine g_cmp hT rfl (fun cq => ?_) (fun cq => ?_)
      · refine v_p hT rfl rfl ?_
        refine v_geti hT rfl (by first | rfl | assumption) (by omega) ?_
        rw [h4 98 (by omega), h3]
        refine v_p hT rfl rfl ?_
        rw [nI_add]
        refine v_puti hT rfl rfl (by omega) (fun z => by cases z) ?_
        refine v_vret hT rfl rfl ⟨rfl, rfl⟩
      · exact absurd ((cj_ge (by omega) (by omega)).mpr (by omega)) cq
    | succ d ih =>
      intro k hk F h1 h2 h4
      obtain ⟨F2, g1, g2⟩ := ih (k + 1) (by omega) (hset F 101 (260 * m + k) (f 101 (1560 + k))) (fun c hc => by
        rw [hs_s]
        unfold upd
        by_cases e : c = k
        · subst e; rw [if_pos rfl]
        · rw [if_neg (by omega)]; exact h1 c (by omega)) (fun x hx => by
        rw [hs_s]
        unfold upd
        rw [if_neg (by omega)]; exact h2 x hx) (fun c hc => by rw [hset_ne hc]; exact h4 c hc)
      refine ⟨F2, ?_, g2⟩
      refine g_cmp hT rfl (fun cq => ?_) (fun cq => ?_)
      · exact absurd ((cj_ge (by omega) (by omega)).mp cq) (by omega)
      · refine v_p hT rfl rfl ?_
        refine v_getr hT rfl rfl (by omega) rfl ?_
        refine v_p hT rfl rfl ?_
        refine v_geti hT rfl (by first | rfl | assumption) (by omega) ?_
        rw [h4 98 (by omega), h3]
        refine v_p hT rfl rfl ?_
        refine v_getr hT rfl rfl (by omega) rfl ?_
        refine v_p hT rfl rfl ?_
        rw [pk_mul, nI_add, nI_add]
        refine v_ald hT rfl (by first | assumption | rfl) (by omega) (by decide) (by omega) ?_
        rw [h2 _ (by omega)]
        refine v_ast hT rfl rfl (by omega) (by decide) (by omega) ?_
        refine v_p hT rfl rfl ?_
        refine v_cv g1 ⟨rfl, ?_, trivial⟩ ?_ rfl
        · rw [nI_add]
        · rw [nI_add]
  obtain ⟨F2, g1, g2, g3, g4⟩ := loop 260 0 (by omega) f (fun c hc => absurd hc (Nat.not_lt_zero _)) (fun _ _ => rfl) (fun _ _ => rfl)
  refine ⟨hset F2 98 3 (nI (m + 1)), ?_, ⟨by rw [hs_s]; simp [upd], fun i hi => ?_⟩, fun i hi => ?_, fun c x1 x2 => by rw [hset_ne x1]; exact g4 c x2⟩
  · refine v_p hT rfl rfl ?_
    exact g1
  · have hi : i < m + 1 := hi
    show nowR _ (if i = m then B else h' i)
    by_cases e : i = m
    · subst e
      rw [if_pos rfl]
      refine nowR_cg hB.1 h6 (fun c hc => ?_)
      show hset F2 98 3 (nI (i + 1)) 101 (260 * i + c) = f 101 (260 * 6 + c)
      rw [hset_ne (by omega)]
      exact g2 c hc
    · rw [if_neg e]
      refine nowR_cg (hv i (by omega)).1 (hb i (by omega)) (fun c hc => ?_)
      show hset F2 98 3 (nI (m + 1)) 101 (260 * i + c) = f 101 (260 * i + c)
      rw [hset_ne (by omega)]
      exact g3 _ (by omega)
  · rw [hs_s]
    unfold upd
    rw [if_neg hi, g4 98 (by omega)]
theorem m_leaves1 {n : Nat} {kf : Nat → Nat} {f : Nat → Nat → Int32} :
    ∃ F2, (∀ Φ, Run n_X7_leavesState 110 40 [some (.ref 98), none] [] (HH n kf F2) Φ → Run n_X7_leavesState 110 15 [some (.ref 98), some (.int (nI 0))] [.int (nI 1300), .int (nI 0)] (HH n kf f) Φ) ∧ (∀ c, c < 1300 → F2 101 c = f 101 (c + 260)) ∧ (∀ x, 1300 ≤ x → F2 101 x = f 101 x) ∧ ∀ c, c ≠ 101 → F2 c = f c := by
  have hT : mT n_X7_leavesState = tb_X7_leavesState := rfl
  have loop : ∀ d k, k + d = 1300 → ∀ F : Nat → Nat → Int32, (∀ c, c < k → F 101 c = f 101 (c + 260)) → (∀ x, k ≤ x → F 101 x = f 101 x) → (∀ c, c ≠ 101 → F c = f c) →
      ∃ F2, (∀ Φ, Run n_X7_leavesState 110 40 [some (.ref 98), none] [] (HH n kf F2) Φ → Run n_X7_leavesState 110 15 [some (.ref 98), some (.int (nI k))] [.int (nI 1300), .int (nI k)] (HH n kf F) Φ) ∧ (∀ c, c < 1300 → F2 101 c = f 101 (c + 260)) ∧ (∀ x, 1300 ≤ x → F2 101 x = f 101 x) ∧ ∀ c, c ≠ 101 → F2 c = f c := by
    intro d
    induction d with
    | zero =>
      intro k hk F h1 h2 h4
      refine ⟨F, fun Φ hΦ => ?_, fun c hc => h1 c (by omega), fun x hx => h2 x (by omega), h4⟩
      refine g_cmp hT rfl (fun cq => ?_) (fun cq => ?_)
      · exact v_cv hΦ ⟨rfl, trivial⟩ rfl rfl
      · exact absurd ((cj_ge (by omega) (by omega)).mpr (by omega)) cq
    | succ d ih =>
      intro k hk F h1 h2 h4
      obtain ⟨F2, g1, g2⟩ := ih (k + 1) (by omega) (hset F 101 k (f 101 (k + 260))) (fun c hc => by
        rw [hs_s]
        unfold upd
        by_cases e : c = k
        · subst e; rw [if_pos rfl]
        · rw [if_neg (by omega)]; exact h1 c (by omega)) (fun x hx => by
        rw [hs_s]
        unfold upd
        rw [if_neg (by omega)]; exact h2 x (by omega)) (fun c hc => by rw [hset_ne hc]; exact h4 c hc)
      refine ⟨F2, fun Φ hΦ => ?_, g2⟩
      refine g_cmp hT rfl (fun cq => ?_) (fun cq => ?_)
      · exact absurd ((cj_ge (by omega) (by omega)).mp cq) (by omega)
      · refine v_p hT rfl rfl ?_
        refine v_getr hT rfl rfl (by omega) rfl ?_
        refine v_p hT rfl rfl ?_
        refine v_getr hT rfl rfl (by omega) rfl ?_
        refine v_p hT rfl rfl ?_
        rw [nI_add]
        refine v_ald hT rfl (by first | assumption | rfl) (by omega) (by decide) (by omega) ?_
        rw [h2 _ (by omega)]
        refine v_ast hT rfl rfl (by omega) (by decide) (by omega) ?_
        refine v_p hT rfl rfl ?_
        refine v_cv (g1 Φ hΦ) ⟨rfl, ?_, trivial⟩ ?_ rfl
        · rw [nI_add]
        · rw [nI_add]
  exact loop 1300 0 (by omega) f (fun c hc => absurd hc (Nat.not_lt_zero _)) (fun _ _ => rfl) (fun _ _ => rfl)
theorem m_leavesState {n : Nat} {kf : Nat → Nat} {f : Nat → Nat → Int32} {H : HS} {B : BK} (hS : stM f H) (hH : VH H) (h6 : nowR (fun c => f 101 (260 * 6 + c)) B) (hB : VB B) :
    ∃ F, Run n_X7_leavesState 110 0 (ini n_X7_leavesState [.ref 98]) [] (HH n kf f) (Ret none (HH n kf F)) ∧ stM F (hPush H B) ∧ (∀ i, i ≠ 3 → F 98 i = f 98 i) ∧ ∀ c, c ≠ 98 → c ≠ 101 → F c = f c := by
  have hT : mT n_X7_leavesState = tb_X7_leavesState := rfl
  obtain ⟨s1, s2⟩ := hS
  obtain ⟨v1, v2⟩ := hH
  unfold hPush
  by_cases e6 : H.1 = 6
  · rw [if_pos e6]
    obtain ⟨F2, g1, g2, g3, g4⟩ := m_leaves1 (n := n) (kf := kf) (f := f)
    obtain ⟨F, q1, q2, q3, q4⟩ := m_leaves2 (n := n) (kf := kf) (m := 5) (f := hset F2 98 3 (nI 5)) (h' := fun i => H.2 (i + 1)) (B := B) (by omega) (by rw [hs_s]; simp [upd]) (fun i hi => by
      refine nowR_cg (v2 (i + 1) (by omega)).1 (s2 (i + 1) (by omega)) (fun c hc => ?_)
      show hset F2 98 3 (nI 5) 101 (260 * i + c) = f 101 (260 * (i + 1) + c)
      rw [hset_ne (by omega), g2 _ (by omega)]
      congr 1
      omega) (fun i hi => v2 _ (by omega)) (by
      refine nowR_cg hB.1 h6 (fun c hc => ?_)
      show hset F2 98 3 (nI 5) 101 (260 * 6 + c) = f 101 (260 * 6 + c)
      rw [hset_ne (by omega), g3 _ (by omega)]) hB
    refine ⟨F, ?_, q2, fun i hi => ?_, fun c x1 x2 => by rw [q4 c x1 x2, hset_ne x1, g4 c x2]⟩
    · refine v_p hT rfl rfl ?_
      refine v_geti hT rfl (by first | rfl | assumption) (by omega) ?_
      rw [s1, e6]
      refine v_p hT rfl rfl ?_
      refine g_cmp hT rfl (fun cq => ?_) (fun cq => ?_)
      · exact absurd rfl cq
      · refine v_p hT rfl rfl ?_
        refine g1 _ ?_
        refine v_p hT rfl rfl ?_
        refine v_geti hT rfl (by first | rfl | assumption) (by omega) ?_
        rw [g4 98 (by omega), s1, e6]
        refine v_p hT rfl rfl ?_
        rw [pk_sub (by omega)]
        refine v_puti hT rfl rfl (by omega) (fun z => by cases z) ?_
        exact q1
    · rw [q3 i hi, hs_s]
      unfold upd
      rw [if_neg hi, g4 98 (by omega)]
  · rw [if_neg e6]
    obtain ⟨F, q1, q2, q3, q4⟩ := m_leaves2 (n := n) (kf := kf) (m := H.1) (f := f) (h' := H.2) (B := B) (by omega) s1 s2 v2 h6 hB
    refine ⟨F, ?_, q2, q3, q4⟩
    refine v_p hT rfl rfl ?_
    refine v_geti hT rfl (by first | rfl | assumption) (by omega) ?_
    rw [s1]
    refine v_p hT rfl rfl ?_
    refine g_cmp hT rfl (fun cq => ?_) (fun cq => ?_)
    · exact q1
    · have cq := Classical.not_not.mp ((not_congr (cj_ne (by omega) (by omega))).mp cq)
      exact absurd cq e6
