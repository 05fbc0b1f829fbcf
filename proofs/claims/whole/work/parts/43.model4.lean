/-! THE REFERENCE: paragraphs come, ties go, paragraphs go. -/
noncomputable def canP (B : BK) (s n : Int32) (w : Nat → Int32) : Int32 := bif decide (0 ≤ s ∧ s ≤ 1) && decide (nI 1 ≤ n ∧ n ≤ nI 12) && pB (∀ k, k < n.toNatClampNeg → nI 1 ≤ w k ∧ w k ≤ nI 9) then (bif decide (8 ≤ bNp B s.toNatClampNeg) then mI 4 else nI 0) else mI 2
theorem m_canPara {m : Nat} {kf : Nat → Nat} {f : Nat → Nat → Int32} {B : BK} (hR : nowR (f 100) B) (hV : VB0 B) (s n : Int32) :
    Run n_X7_canPara 110 0 (ini n_X7_canPara [.ref 98, .int s, .int n]) [] (HH m kf f) (Ret (some (.int (canP B s n (f 102)))) (HH m kf f)) := by
  have hT : mT n_X7_canPara = tb_X7_canPara := rfl
  have start : ∀ Φ, Run n_X7_canPara 110 31 [some (.ref 98), some (.int s), some (.int n), some (.int (bI (decide (0 ≤ s ∧ s ≤ 1) && decide (nI 1 ≤ n ∧ n ≤ nI 12)))), some (.int (nI 0))] [.int n, .int (nI 0)] (HH m kf f) Φ → Run n_X7_canPara 110 0 (ini n_X7_canPara [.ref 98, .int s, .int n]) [] (HH m kf f) Φ := by
    intro Φ hΦ
    refine v_p hT rfl rfl ?_
    refine v_scall hT [.int s, .int (nI 0), .int (nI 1)] rfl rfl rfl rfl (Nat.le_of_ble_eq_true rfl) (Nat.le_of_ble_eq_true rfl) (m_in s (nI 0) (nI 1)) ?_
    by_cases c1 : 0 ≤ s ∧ s ≤ 1
    · rw [decide_eq_true c1] at hΦ
      rw [show decide (nI 0 ≤ s ∧ s ≤ nI 1) = true from decide_eq_true c1]
      refine g_if hT rfl (fun cq => ?_) (fun cq => ?_)
      · cases bf_of cq
      · refine v_p hT rfl rfl ?_
        refine v_scall hT [.int n, .int (nI 1), .int (nI 12)] rfl rfl rfl rfl (Nat.le_of_ble_eq_true rfl) (Nat.le_of_ble_eq_true rfl) (m_in n (nI 1) (nI 12)) ?_
        refine g_if hT rfl (fun cq2 => ?_) (fun cq2 => ?_)
        · rw [bf_of cq2] at hΦ
          refine v_p hT rfl rfl ?_
          exact hΦ
        · rw [bt_of cq2] at hΦ
          refine v_p hT rfl rfl ?_
          exact hΦ
    · rw [decide_eq_false c1] at hΦ
      rw [show decide (nI 0 ≤ s ∧ s ≤ nI 1) = false from decide_eq_false c1]
      refine g_if hT rfl (fun cq => ?_) (fun cq => ?_)
      · refine v_p hT rfl rfl ?_
        exact hΦ
      · exact absurd rfl cq
  refine start _ ?_
  unfold canP
  cases hw : (decide (0 ≤ s ∧ s ≤ 1) && decide (nI 1 ≤ n ∧ n ≤ nI 12)) with
  | false =>
    rw [Bool.false_and]
    have bad : ∀ k, Run n_X7_canPara 110 73 [some (.ref 98), some (.int s), some (.int n), some (.int (bI false)), k] [] (HH m kf f) (Ret (some (.int (mI 2))) (HH m kf f)) := by
      intro k
      refine v_p hT rfl rfl ?_
      refine g_if hT rfl (fun cq => ?_) (fun cq => ?_)
      · exact absurd rfl cq
      · refine v_p hT rfl rfl ?_
        refine v_ret hT rfl (fun z => by cases z) rfl ⟨rfl, rfl⟩
    have loop : ∀ d k, k + d = 12 → Run n_X7_canPara 110 31 [some (.ref 98), some (.int s), some (.int n), some (.int (bI false)), some (.int (nI k))] [.int n, .int (nI k)] (HH m kf f) (Ret (some (.int (mI 2))) (HH m kf f)) := by
      intro d
      induction d with
      | zero =>
        intro k hk
        refine g_cmp hT rfl (fun cq => ?_) (fun cq => ?_)
        · exact bad _
        · refine v_p hT rfl rfl ?_
          refine g_cmp hT rfl (fun cq2 => ?_) (fun cq2 => ?_)
          · exact bad _
          · exact absurd ((cj_ge (by omega) (by omega)).mpr (by omega)) cq2
      | succ d ih =>
        intro k hk
        refine g_cmp hT rfl (fun cq => ?_) (fun cq => ?_)
        · exact bad _
        · refine v_p hT rfl rfl ?_
          refine g_cmp hT rfl (fun cq2 => ?_) (fun cq2 => ?_)
          · exact absurd ((cj_ge (by omega) (by omega)).mp cq2) (by omega)
          · refine v_p hT rfl rfl ?_
            refine g_if hT rfl (fun cq3 => ?_) (fun cq3 => ?_)
            · refine v_p hT rfl rfl ?_
              refine v_cv (ih (k + 1) (by omega)) ⟨rfl, rfl, rfl, rfl, ?_, trivial⟩ ?_ rfl
              · rw [nI_add]
              · rw [nI_add]
            · exact absurd rfl cq3
    exact loop 12 0 (by omega)
  | true =>
    rw [Bool.and_eq_true] at hw
    obtain ⟨N, n1, n2, n3⟩ := in_range n (by omega) (of_decide_eq_true hw.2) (by omega)
    obtain ⟨Z, z1, z2⟩ : ∃ Z, Z < 2 ∧ s = nI Z := by
      rcases int_lo (of_decide_eq_true hw.1) with e | e
      · exact ⟨0, by omega, e⟩
      · exact ⟨1, by omega, e⟩
    subst n3; subst z2
    rw [nI_tn (show N < 2 ^ 31 by omega), nI_tn (show Z < 2 ^ 31 by omega), Bool.true_and]
    have hn8 := hV.1 Z z1
    have loop : ∀ d k, k + d = N → ∀ b : Bool, (b = true ↔ ∀ j, j < k → nI 1 ≤ f 102 j ∧ f 102 j ≤ nI 9) → Run n_X7_canPara 110 31 [some (.ref 98), some (.int (nI Z)), some (.int (nI N)), some (.int (bI b)), some (.int (nI k))] [.int (nI N), .int (nI k)] (HH m kf f) (Ret (some (.int (bif pB (∀ k, k < N → nI 1 ≤ f 102 k ∧ f 102 k ≤ nI 9) then (bif decide (8 ≤ bNp B Z) then mI 4 else nI 0) else mI 2))) (HH m kf f)) := by
      intro d
      induction d with
      | zero =>
        intro k hk b hb
        have e : k = N := by omega
        subst e
        refine g_cmp hT rfl (fun cq => ?_) (fun cq => ?_)
        · refine v_p hT rfl rfl ?_
          refine g_if hT rfl (fun cq2 => ?_) (fun cq2 => ?_)
          · have hbt : b = true := by
              cases b with
              | true => rfl
              | false => exact absurd rfl cq2
            rw [pB_t (hb.mp hbt)]
            refine v_p hT rfl rfl ?_
            refine v_call hT [.int (nI Z)] rfl rfl (by first | rfl | assumption) (by omega) rfl rfl (Nat.le_of_ble_eq_true rfl) (Nat.le_of_ble_eq_true rfl) (m_many z1) ?_
            rw [hR.2.2.1 Z z1]
            refine v_p hT rfl rfl ?_
            refine g_cmp hT rfl (fun cq3 => ?_) (fun cq3 => ?_)
            · have cq3 := (cj_ne (by omega) (by omega)).mp cq3
              rw [decide_eq_false (by omega)]
              refine v_p hT rfl rfl ?_
              refine v_ret hT rfl (fun z => by cases z) rfl ⟨rfl, rfl⟩
            · have cq3 := Classical.not_not.mp ((not_congr (cj_ne (by omega) (by omega))).mp cq3)
              rw [decide_eq_true (by omega)]
              refine v_p hT rfl rfl ?_
              refine v_ret hT rfl (fun z => by cases z) rfl ⟨rfl, rfl⟩
          · have hbf : ¬ b = true := by
              intro hbt
              subst hbt
              exact cq2 (show ¬ (1 : Int32) = 0 by decide)
            rw [pB_f (fun z => hbf (hb.mpr z))]
            refine v_p hT rfl rfl ?_
            refine v_ret hT rfl (fun z => by cases z) rfl ⟨rfl, rfl⟩
        · exact absurd ((cj_ge (by omega) (by omega)).mpr (by omega)) cq
      | succ d ih =>
        intro k hk b hb
        have nxt : ∀ b2 : Bool, (b2 = true ↔ ∀ j, j < k + 1 → nI 1 ≤ f 102 j ∧ f 102 j ≤ nI 9) → Run n_X7_canPara 110 31 [some (.ref 98), some (.int (nI Z)), some (.int (nI N)), some (.int (bI b2)), some (.int (nI k + nI 1))] [.int (nI N), .int (nI k + nI 1)] (HH m kf f) (Ret (some (.int (bif pB (∀ k, k < N → nI 1 ≤ f 102 k ∧ f 102 k ≤ nI 9) then (bif decide (8 ≤ bNp B Z) then mI 4 else nI 0) else mI 2))) (HH m kf f)) := by
          intro b2 hb2
          refine v_cv (ih (k + 1) (by omega) b2 hb2) ⟨rfl, rfl, rfl, rfl, ?_, trivial⟩ ?_ rfl
          · rw [nI_add]
          · rw [nI_add]
        refine g_cmp hT rfl (fun cq => ?_) (fun cq => ?_)
        · exact absurd ((cj_ge (by omega) (by omega)).mp cq) (by omega)
        · refine v_p hT rfl rfl ?_
          refine g_cmp hT rfl (fun cq2 => ?_) (fun cq2 => ?_)
          · exact absurd ((cj_ge (by omega) (by omega)).mp cq2) (by omega)
          · refine v_p hT rfl rfl ?_
            refine g_if hT rfl (fun cq3 => ?_) (fun cq3 => ?_)
            · have hbf := bf_of cq3
              refine v_p hT rfl rfl ?_
              exact nxt false ⟨fun z => (by cases z), fun z => by rw [hb.mpr (fun j hj => z j (by omega))] at hbf; cases hbf⟩
            · have hbt := bt_of cq3
              refine v_p hT rfl rfl ?_
              refine v_getr hT rfl rfl (by omega) rfl ?_
              refine v_p hT rfl rfl ?_
              refine v_ald hT rfl (by first | assumption | rfl) (by omega) (by decide) (by omega) ?_
              refine v_p hT rfl rfl ?_
              refine v_scall hT [.int (f 102 k), .int (nI 1), .int (nI 9)] rfl rfl rfl rfl (Nat.le_of_ble_eq_true rfl) (Nat.le_of_ble_eq_true rfl) (m_in (f 102 k) (nI 1) (nI 9)) ?_
              by_cases c4 : nI 1 ≤ f 102 k ∧ f 102 k ≤ nI 9
              · rw [decide_eq_true c4]
                refine g_if hT rfl (fun cq4 => ?_) (fun cq4 => ?_)
                · cases bf_of cq4
                · refine v_p hT rfl rfl ?_
                  refine nxt true ⟨fun _ j hj => ?_, fun _ => rfl⟩
                  by_cases e : j = k
                  · subst e; exact c4
                  · exact hb.mp hbt j (by omega)
              · rw [decide_eq_false c4]
                refine g_if hT rfl (fun cq4 => ?_) (fun cq4 => ?_)
                · refine v_p hT rfl rfl ?_
                  exact nxt false ⟨fun z => (by cases z), fun z => absurd (z k (by omega)) c4⟩
                · exact absurd rfl cq4
    exact loop N 0 (by omega) true ⟨fun _ j hj => absurd hj (Nat.not_lt_zero _), fun _ => rfl⟩
theorem m_paraComes {m s n : Nat} {kf : Nat → Nat} {f : Nat → Nat → Int32} {B : BK} {l : Nat → Nat} (hR : nowR (f 100) B) (hV : VB0 B) (hs : s < 2) (h8 : bNp B s < 8) (h1 : 1 ≤ n) (h12 : n ≤ 12) (hl : ∀ k, k < n → f 102 k = nI (l k)) (hl9 : ∀ k, k < n → 1 ≤ l k ∧ l k ≤ 9) :
    ∃ F, Run n_X7_paraComes 110 0 (ini n_X7_paraComes [.ref 98, .int (nI s), .int (nI n)]) [] (HH m kf f) (Ret (some (.int (bif decide (60 < totF (bParAdd B s n l) 0 ∨ 60 < totF (bParAdd B s n l) 1) then mI 4 else nI (bNp B s)))) (HH m kf F)) ∧ nowR (F 100) (bParAdd B s n l) ∧ F 98 = upd (f 98) 4 (nI 0) ∧ ∀ c, c ≠ 98 → c ≠ 100 → F c = f c := by
  have hT : mT n_X7_paraComes = tb_X7_paraComes := rfl
  have hnp : f 100 (5 + s) = nI (bNp B s) := hR.2.2.1 s hs
  generalize hA : 8 + 13 * (8 * s + bNp B s) = A
  have hAb : A + 13 ≤ 224 ∧ 8 ≤ A := by omega
  have loop : ∀ d k, k + d = 12 → ∀ F : Nat → Nat → Int32, (∀ j, j < k → j < n → F 100 (A + 1 + j) = nI (l j)) → (∀ x, x < A + 1 ∨ A + 13 ≤ x → F 100 x = upd (f 100) A (nI n) x) → (∀ c, c ≠ 100 → F c = f c) →
      ∃ F2, (∀ Φ, Run n_X7_paraComes 110 65 [some (.ref 98), some (.int (nI s)), some (.int (nI n)), some (.int (nI (bNp B s))), none] [] (HH m kf F2) Φ → Run n_X7_paraComes 110 24 [some (.ref 98), some (.int (nI s)), some (.int (nI n)), some (.int (nI (bNp B s))), some (.int (nI k))] [.int (nI 12), .int (nI k)] (HH m kf F) Φ) ∧ (∀ j, j < n → F2 100 (A + 1 + j) = nI (l j)) ∧ (∀ x, x < A + 1 ∨ A + 13 ≤ x → F2 100 x = upd (f 100) A (nI n) x) ∧ ∀ c, c ≠ 100 → F2 c = f c := by
    intro d
    induction d with
    | zero =>
      intro k hk F g1 g2 g3
      refine ⟨F, fun Φ hΦ => ?_, fun j hj => g1 j (by omega) hj, g2, g3⟩
      refine g_cmp hT rfl (fun cq => ?_) (fun cq => ?_)
      · exact v_cv hΦ ⟨rfl, rfl, rfl, rfl, trivial⟩ rfl rfl
      · exact absurd ((cj_ge (by omega) (by omega)).mpr (by omega)) cq
    | succ d ih =>
      intro k hk F g1 g2 g3
      have stp : ∀ v : Int32, (k < n → v = nI (l k)) → ∃ F2, (∀ Φ, Run n_X7_paraComes 110 65 [some (.ref 98), some (.int (nI s)), some (.int (nI n)), some (.int (nI (bNp B s))), none] [] (HH m kf F2) Φ → Run n_X7_paraComes 110 24 [some (.ref 98), some (.int (nI s)), some (.int (nI n)), some (.int (nI (bNp B s))), some (.int (nI (k + 1)))] [.int (nI 12), .int (nI (k + 1))] (HH m kf (hset F 100 (A + 1 + k) v)) Φ) ∧ (∀ j, j < n → F2 100 (A + 1 + j) = nI (l j)) ∧ (∀ x, x < A + 1 ∨ A + 13 ≤ x → F2 100 x = upd (f 100) A (nI n) x) ∧ ∀ c, c ≠ 100 → F2 c = f c := by
        intro v hv
        refine ih (k + 1) (by omega) _ (fun j hj hjn => ?_) (fun x hx => by rw [hs_s, upd_ne (by omega)]; exact g2 x hx) (fun c hc => by rw [hset_ne hc]; exact g3 c hc)
        rw [hs_s]
        by_cases e : j = k
        · subst e; rw [upd_eq]; exact hv hjn
        · rw [upd_ne (by omega)]; exact g1 j (by omega) hjn
      by_cases hkn : k < n
      · obtain ⟨F2, q1, q2⟩ := stp (nI (l k)) (fun _ => rfl)
        refine ⟨F2, fun Φ hΦ => ?_, q2⟩
        refine g_cmp hT rfl (fun cq => ?_) (fun cq => ?_)
        · exact absurd ((cj_ge (by omega) (by omega)).mp cq) (by omega)
        · refine v_p hT rfl rfl ?_
          refine v_getr hT rfl rfl (by omega) rfl ?_
          refine v_p hT rfl rfl ?_
          refine v_scall hT [.int (nI s), .int (nI (bNp B s))] rfl rfl rfl rfl (Nat.le_of_ble_eq_true rfl) (Nat.le_of_ble_eq_true rfl) (m_at s (bNp B s)) ?_
          rw [hA]
          refine v_p hT rfl rfl ?_
          rw [nI_add, nI_add]
          refine g_cmp hT rfl (fun cq2 => ?_) (fun cq2 => ?_)
          · exact absurd ((cj_ge (by omega) (by omega)).mp cq2) (by omega)
          · refine v_p hT rfl rfl ?_
            refine v_getr hT rfl rfl (by omega) rfl ?_
            refine v_p hT rfl rfl ?_
            refine v_ald hT rfl (by first | assumption | rfl) (by omega) (by decide) (by omega) ?_
            rw [g3 102 (by omega), hl k hkn]
            refine v_p hT rfl rfl ?_
            refine v_ast hT rfl rfl (by omega) (by decide) (by omega) ?_
            refine v_p hT rfl rfl ?_
            refine v_cv (q1 Φ hΦ) ⟨rfl, rfl, rfl, rfl, ?_, trivial⟩ ?_ rfl
            · rw [nI_add]
            · rw [nI_add]
      · obtain ⟨F2, q1, q2⟩ := stp (nI 0) (fun z => absurd z hkn)
        refine ⟨F2, fun Φ hΦ => ?_, q2⟩
        refine g_cmp hT rfl (fun cq => ?_) (fun cq => ?_)
        · exact absurd ((cj_ge (by omega) (by omega)).mp cq) (by omega)
        · refine v_p hT rfl rfl ?_
          refine v_getr hT rfl rfl (by omega) rfl ?_
          refine v_p hT rfl rfl ?_
          refine v_scall hT [.int (nI s), .int (nI (bNp B s))] rfl rfl rfl rfl (Nat.le_of_ble_eq_true rfl) (Nat.le_of_ble_eq_true rfl) (m_at s (bNp B s)) ?_
          rw [hA]
          refine v_p hT rfl rfl ?_
          rw [nI_add, nI_add]
          refine g_cmp hT rfl (fun cq2 => ?_) (fun cq2 => ?_)
          · refine v_p hT rfl rfl ?_
            refine v_ast hT rfl rfl (by omega) (by decide) (by omega) ?_
            refine v_p hT rfl rfl ?_
            refine v_cv (q1 Φ hΦ) ⟨rfl, rfl, rfl, rfl, ?_, trivial⟩ ?_ rfl
            · rw [nI_add]
            · rw [nI_add]
          · exact absurd ((cj_ge (by omega) (by omega)).mpr (by omega)) cq2
  obtain ⟨F, q1, q2, q3, q4⟩ := loop 12 0 (by omega) (hset f 100 A (nI n)) (fun j hj => absurd hj (Nat.not_lt_zero _)) (fun x _ => by rw [hs_s]) (fun c hc => hset_ne hc)
  have h5 : F 100 (5 + s) = nI (bNp B s) := by rw [q3 _ (by omega), upd_ne (by omega)]; exact hnp
  have hN : nowR (upd (F 100) (5 + s) (nI (bNp B s + 1))) (bParAdd B s n l) := by
    obtain ⟨a1, a2, a3, a4, a5, a6⟩ := hR
    have hw := fun z r hz hr => (hV.2.1 z r hz hr).2.1
    have hp8 := hV.1
    have old : ∀ x, x ≠ 5 + s → x < A ∨ A + 13 ≤ x → upd (F 100) (5 + s) (nI (bNp B s + 1)) x = f 100 x := fun x x1 x2 => by rw [upd_ne x1, q3 x (by omega), upd_ne (by omega)]
    refine ⟨fun z hz => by rw [old _ (by omega) (by omega)]; exact a1 z hz, fun i hi => by rw [old _ (by omega) (by omega)]; exact a2 i hi, fun z hz => ?_, by rw [old _ (by omega) (by omega)]; exact a4, fun z r hz hr => ?_, fun i hi z hz => by rw [old _ (by omega) (by omega)]; exact a6 i hi z hz⟩
    · show _ = nI (if z = s then bNp B s + 1 else bNp B z)
      by_cases e : z = s
      · subst e; rw [if_pos rfl, upd_eq]
      · rw [if_neg e, old _ (by omega) (by omega)]; exact a3 z hz
    · have hr : r < (if z = s then bNp B s + 1 else bNp B z) := hr
      by_cases e : z = s ∧ r = bNp B s
      · obtain ⟨e1, e2⟩ := e
        subst e1; subst e2
        refine ⟨?_, fun k hk => ?_⟩
        · show _ = nI (if z = z ∧ bNp B z = bNp B z then n else bNw B z (bNp B z))
          rw [if_pos ⟨rfl, rfl⟩, hA, upd_ne (by omega), q3 _ (by omega), upd_eq]
        · have hk : k < (if z = z ∧ bNp B z = bNp B z then n else bNw B z (bNp B z)) := hk
          rw [if_pos ⟨rfl, rfl⟩] at hk
          show _ = nI (if z = z ∧ bNp B z = bNp B z then l k else bLn B z (bNp B z) k)
          rw [if_pos ⟨rfl, rfl⟩, hA, upd_ne (by omega), q2 k hk]
      · have hr2 : r < bNp B z := by
          by_cases e2 : z = s
          · rw [if_pos e2] at hr
            subst e2
            have : ¬ r = bNp B z := fun q => e ⟨rfl, q⟩
            omega
          · rw [if_neg e2] at hr; exact hr
        have hz8 := hp8 z hz
        have hzw := hw z r hz hr2
        have hloc : 8 + 13 * (8 * z + r) + 13 ≤ A ∨ A + 13 ≤ 8 + 13 * (8 * z + r) := by
          by_cases e2 : z = s
          · subst e2
            have : ¬ r = bNp B z := fun q => e ⟨rfl, q⟩
            omega
          · omega
        refine ⟨?_, fun k hk => ?_⟩
        · show _ = nI (if z = s ∧ r = bNp B s then n else bNw B z r)
          rw [if_neg e, old _ (by omega) (by omega)]; exact (a5 z r hz hr2).1
        · have hk : k < (if z = s ∧ r = bNp B s then n else bNw B z r) := hk
          rw [if_neg e] at hk
          show _ = nI (if z = s ∧ r = bNp B s then l k else bLn B z r k)
          rw [if_neg e, old _ (by omega) (by omega)]; exact (a5 z r hz hr2).2 k hk
  have hN2 : nowR (hset (hset F 100 (5 + s) (nI (bNp B s + 1))) 98 4 (nI 0) 100) (bParAdd B s n l) := by
    rw [hset_ne (by omega), hs_s]
    exact hN
  refine ⟨hset (hset F 100 (5 + s) (nI (bNp B s + 1))) 98 4 (nI 0), ?_, hN2, by rw [hs_s, hset_ne (by omega), q4 98 (by omega)], fun c x1 x2 => by rw [hset_ne x1, hset_ne x2, q4 c x2]⟩
  refine v_p hT rfl rfl ?_
  refine v_call hT [.int (nI s)] rfl rfl (by first | rfl | assumption) (by omega) rfl rfl (Nat.le_of_ble_eq_true rfl) (Nat.le_of_ble_eq_true rfl) (m_many hs) ?_
  rw [hnp]
  refine v_p hT rfl rfl ?_
  refine v_getr hT rfl rfl (by omega) rfl ?_
  refine v_p hT rfl rfl ?_
  refine v_scall hT [.int (nI s), .int (nI (bNp B s))] rfl rfl rfl rfl (Nat.le_of_ble_eq_true rfl) (Nat.le_of_ble_eq_true rfl) (m_at s (bNp B s)) ?_
  rw [hA]
  refine v_p hT rfl rfl ?_
  refine v_ast hT rfl rfl (by omega) (by decide) (by omega) ?_
  refine v_p hT rfl rfl ?_
  refine q1 _ ?_
  refine v_p hT rfl rfl ?_
  refine v_getr hT rfl rfl (by omega) rfl ?_
  refine v_p hT rfl rfl ?_
  rw [nI_add]
  refine v_ald hT rfl (by first | assumption | rfl) (by omega) (by decide) (by omega) ?_
  rw [h5]
  refine v_p hT rfl rfl ?_
  rw [nI_add]
  refine v_ast hT rfl rfl (by omega) (by decide) (by omega) ?_
  refine v_p hT rfl rfl ?_
  refine v_puti hT rfl rfl (by omega) (fun _ => Or.inl rfl) ?_
  refine v_p hT rfl rfl ?_
  refine v_call hT [] rfl rfl (by first | rfl | assumption) (by omega) rfl rfl (Nat.le_of_ble_eq_true rfl) (Nat.le_of_ble_eq_true rfl) (m_isTooLong hN2 (VB0_add hV h8 h1 h12 hl9)) ?_
  refine g_if hT rfl (fun cq => ?_) (fun cq => ?_)
  · rw [bf_of cq]
    refine v_p hT rfl rfl ?_
    refine v_ret hT rfl (fun z => by cases z) rfl ⟨rfl, rfl⟩
  · rw [bt_of cq]
    refine v_p hT rfl rfl ?_
    refine v_ret hT rfl (fun z => by cases z) rfl ⟨rfl, rfl⟩
