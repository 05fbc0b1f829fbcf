/-! THE REFERENCE: its changes. -/
theorem upd_ne {g : Nat → Int32} {k j : Nat} {v : Int32} (h : j ≠ k) : upd g k v j = g j := by unfold upd; rw [if_neg h]
theorem upd_eq {g : Nat → Int32} {k : Nat} {v : Int32} : upd g k v k = v := by unfold upd; rw [if_pos rfl]
theorem m_canWidth (s v : Int32) {n : Nat} {kf : Nat → Nat} {f : Nat → Nat → Int32} : Run n_X7_canWidth 110 0 (ini n_X7_canWidth [.ref 98, .int s, .int v]) [] (HH n kf f) (Ret (some (.int (bif decide (0 ≤ s ∧ s ≤ 1) && decide (nI 9 ≤ v ∧ v ≤ nI 40) then nI 0 else mI 2))) (HH n kf f)) := by
  have hT : mT n_X7_canWidth = tb_X7_canWidth := rfl
  refine v_p hT rfl rfl ?_
  refine v_scall hT [.int s, .int (nI 0), .int (nI 1)] rfl rfl rfl rfl (Nat.le_of_ble_eq_true rfl) (Nat.le_of_ble_eq_true rfl) (m_in s (nI 0) (nI 1)) ?_
  by_cases c1 : 0 ≤ s ∧ s ≤ 1
  · rw [decide_eq_true c1, show decide (nI 0 ≤ s ∧ s ≤ nI 1) = true from decide_eq_true c1]
    refine g_if hT rfl (fun cq => ?_) (fun cq => ?_)
    · cases bf_of cq
    · refine v_p hT rfl rfl ?_
      refine v_scall hT [.int v, .int (nI 9), .int (nI 40)] rfl rfl rfl rfl (Nat.le_of_ble_eq_true rfl) (Nat.le_of_ble_eq_true rfl) (m_in v (nI 9) (nI 40)) ?_
      refine g_if hT rfl (fun cq2 => ?_) (fun cq2 => ?_)
      · rw [bf_of cq2]
        refine v_p hT rfl rfl ?_
        refine v_ret hT rfl (fun z => by cases z) rfl ⟨rfl, rfl⟩
      · rw [bt_of cq2]
        refine v_p hT rfl rfl ?_
        refine v_ret hT rfl (fun z => by cases z) rfl ⟨rfl, rfl⟩
  · rw [decide_eq_false c1, show decide (nI 0 ≤ s ∧ s ≤ nI 1) = false from decide_eq_false c1]
    refine g_if hT rfl (fun cq => ?_) (fun cq => ?_)
    · refine v_p hT rfl rfl ?_
      refine v_ret hT rfl (fun z => by cases z) rfl ⟨rfl, rfl⟩
    · exact absurd rfl cq
theorem nowR_wid {g : Nat → Int32} {B : BK} {s v : Nat} (hV : VB0 B) (hs : s < 2) (h : nowR g B) : nowR (upd g s (nI v)) (bWidTo B s v) := by
  obtain ⟨a1, a2, a3, a4, a5, a6⟩ := h
  refine ⟨fun z hz => ?_, fun i hi => by rw [upd_ne (by omega)]; exact a2 i hi, fun z hz => by rw [upd_ne (by omega)]; exact a3 z hz, by rw [upd_ne (by omega)]; exact a4, fun z p hz hp => ⟨by rw [upd_ne (by omega)]; exact (a5 z p hz hp).1, fun k hk => by rw [upd_ne (by omega)]; exact (a5 z p hz hp).2 k hk⟩, fun i hi z hz => by rw [upd_ne (by omega)]; exact a6 i hi z hz⟩
  show (if z = s then nI v else g z) = nI (if z = s then v else bWd B z)
  by_cases e : z = s
  · rw [if_pos e, if_pos e]
  · rw [if_neg e, if_neg e]; exact a1 z hz
theorem nowR_set {g : Nat → Int32} {B : BK} {i v : Nat} (hi : i < 3) (h : nowR g B) : nowR (upd g (2 + i) (nI v)) (bSetTo B i v) := by
  obtain ⟨a1, a2, a3, a4, a5, a6⟩ := h
  refine ⟨fun z hz => by rw [upd_ne (by omega)]; exact a1 z hz, fun j hj => ?_, fun z hz => by rw [upd_ne (by omega)]; exact a3 z hz, by rw [upd_ne (by omega)]; exact a4, fun z p hz hp => ⟨by rw [upd_ne (by omega)]; exact (a5 z p hz hp).1, fun k hk => by rw [upd_ne (by omega)]; exact (a5 z p hz hp).2 k hk⟩, fun i hi z hz => by rw [upd_ne (by omega)]; exact a6 i hi z hz⟩
  show (if 2 + j = 2 + i then nI v else g (2 + j)) = nI (if j = i then v else bSe B j)
  by_cases e : j = i
  · rw [if_pos e, if_pos (by omega)]
  · rw [if_neg e, if_neg (by omega)]; exact a2 j hj
theorem m_widthBecomes {n s v : Nat} {kf : Nat → Nat} {f : Nat → Nat → Int32} {B : BK} (hR : nowR (f 100) B) (hV : VB0 B) (hs : s < 2) (h9 : 9 ≤ v) (h40 : v ≤ 40) :
    Run n_X7_widthBecomes 110 0 (ini n_X7_widthBecomes [.ref 98, .int (nI s), .int (nI v)]) [] (HH n kf f) (Ret (some (.int (bif decide (60 < totF (bWidTo B s v) 0 ∨ 60 < totF (bWidTo B s v) 1) then mI 4 else nI (bWd B s)))) (HH n kf (hset (hset f 100 s (nI v)) 98 4 (nI 0)))) := by
  have hT : mT n_X7_widthBecomes = tb_X7_widthBecomes := rfl
  have hR2 : nowR (hset (hset f 100 s (nI v)) 98 4 (nI 0) 100) (bWidTo B s v) := by
    rw [hset_ne (by omega), hs_s]
    exact nowR_wid hV hs hR
  have e0 : nI 0 + nI s = nI s := by rw [nI_add, Nat.zero_add]
  refine v_p hT rfl rfl ?_
  refine v_getr hT rfl rfl (by omega) rfl ?_
  refine v_p hT rfl rfl ?_
  rw [e0]
  refine v_ald hT rfl (by first | assumption | rfl) (by omega) (by decide) (by omega) ?_
  rw [hR.1 s hs]
  refine v_p hT rfl rfl ?_
  refine v_getr hT rfl rfl (by omega) rfl ?_
  refine v_p hT rfl rfl ?_
  rw [e0]
  refine v_ast hT rfl rfl (by omega) (by decide) (by omega) ?_
  refine v_p hT rfl rfl ?_
  refine v_puti hT rfl rfl (by omega) (fun _ => Or.inl rfl) ?_
  refine v_p hT rfl rfl ?_
  refine v_call hT [] rfl rfl (by first | rfl | assumption) (by omega) rfl rfl (Nat.le_of_ble_eq_true rfl) (Nat.le_of_ble_eq_true rfl) (m_isTooLong hR2 (VB0_wid hV h9 h40)) ?_
  refine g_if hT rfl (fun cq => ?_) (fun cq => ?_)
  · rw [bf_of cq]
    refine v_p hT rfl rfl ?_
    refine v_ret hT rfl (fun z => by cases z) rfl ⟨rfl, rfl⟩
  · rw [bt_of cq]
    refine v_p hT rfl rfl ?_
    refine v_ret hT rfl (fun z => by cases z) rfl ⟨rfl, rfl⟩
theorem m_canSet (w v : Int32) {n : Nat} {kf : Nat → Nat} {f : Nat → Nat → Int32} : Run n_X7_canSet 110 0 (ini n_X7_canSet [.int w, .int v]) [] (HH n kf f) (Ret (some (.int (bif decide (nI 0 ≤ w ∧ w ≤ nI 2) && decide (nI (seLo w.toNatClampNeg) ≤ v ∧ v ≤ nI (seHi w.toNatClampNeg)) then nI 0 else mI 2))) (HH n kf f)) := by
  have hT : mT n_X7_canSet = tb_X7_canSet := rfl
  have low : ∀ lo hi : Nat, (nI 0 ≤ w ∧ w ≤ nI 2 → lo = seLo w.toNatClampNeg ∧ hi = seHi w.toNatClampNeg) → Run n_X7_canSet 110 43 [some (.int w), some (.int v), some (.int (nI lo)), some (.int (nI hi))] [.int (nI 2), .int (nI 0), .int w] (HH n kf f) (Ret (some (.int (bif decide (nI 0 ≤ w ∧ w ≤ nI 2) && decide (nI (seLo w.toNatClampNeg) ≤ v ∧ v ≤ nI (seHi w.toNatClampNeg)) then nI 0 else mI 2))) (HH n kf f)) := by
    intro lo hi hlh
    refine v_scall hT [.int w, .int (nI 0), .int (nI 2)] rfl rfl rfl rfl (Nat.le_of_ble_eq_true rfl) (Nat.le_of_ble_eq_true rfl) (m_in w (nI 0) (nI 2)) ?_
    by_cases c1 : nI 0 ≤ w ∧ w ≤ nI 2
    · obtain ⟨e1, e2⟩ := hlh c1
      subst e1; subst e2
      rw [decide_eq_true c1]
      refine g_if hT rfl (fun cq => ?_) (fun cq => ?_)
      · cases bf_of cq
      · refine v_p hT rfl rfl ?_
        refine v_scall hT [.int v, .int (nI (seLo w.toNatClampNeg)), .int (nI (seHi w.toNatClampNeg))] rfl rfl rfl rfl (Nat.le_of_ble_eq_true rfl) (Nat.le_of_ble_eq_true rfl) (m_in v (nI (seLo w.toNatClampNeg)) (nI (seHi w.toNatClampNeg))) ?_
        refine g_if hT rfl (fun cq2 => ?_) (fun cq2 => ?_)
        · rw [bf_of cq2]
          refine v_p hT rfl rfl ?_
          refine v_ret hT rfl (fun z => by cases z) rfl ⟨rfl, rfl⟩
        · rw [bt_of cq2]
          refine v_p hT rfl rfl ?_
          refine v_ret hT rfl (fun z => by cases z) rfl ⟨rfl, rfl⟩
    · rw [decide_eq_false c1]
      refine g_if hT rfl (fun cq => ?_) (fun cq => ?_)
      · refine v_p hT rfl rfl ?_
        refine v_ret hT rfl (fun z => by cases z) rfl ⟨rfl, rfl⟩
      · exact absurd rfl cq
  refine v_p hT rfl rfl ?_
  refine g_if hT rfl (fun cq => ?_) (fun cq => ?_)
  · have cq : ¬ w = 0 := cq
    refine v_p hT rfl rfl ?_
    refine g_cmp hT rfl (fun cq2 => ?_) (fun cq2 => ?_)
    · have cq2 : ¬ w = nI 1 := cq2
      refine v_p hT rfl rfl ?_
      refine g_if hT rfl (fun cq3 => ?_) (fun cq3 => ?_)
      · refine v_p hT rfl rfl ?_
        refine g_cmp hT rfl (fun cq4 => ?_) (fun cq4 => ?_)
        · refine v_p hT rfl rfl ?_
          refine low 0 9 (fun c1 => ?_)
          obtain ⟨k, k1, k2⟩ := int_04 (by omega) c1
          subst k2
          rw [nI_tn (by omega)]
          rcases (show k = 0 ∨ k = 1 ∨ k = 2 by omega) with e | e | e
          · subst e; exact absurd rfl cq
          · subst e; exact absurd rfl cq2
          · subst e; exact ⟨rfl, rfl⟩
        · exact absurd cq2 cq4
      · exact absurd cq cq3
    · have cq2 : w = nI 1 := Classical.not_not.mp cq2
      refine v_p hT rfl rfl ?_
      refine g_if hT rfl (fun cq3 => ?_) (fun cq3 => ?_)
      · refine v_p hT rfl rfl ?_
        refine g_cmp hT rfl (fun cq4 => ?_) (fun cq4 => ?_)
        · exact absurd cq2 cq4
        · refine v_p hT rfl rfl ?_
          refine low 1 3 (fun c1 => ?_)
          rw [cq2, nI_tn (by omega)]
          exact ⟨rfl, rfl⟩
      · exact absurd cq cq3
  · have cq : w = 0 := Classical.not_not.mp cq
    refine v_p hT rfl rfl ?_
    refine g_if hT rfl (fun cq3 => ?_) (fun cq3 => ?_)
    · exact absurd cq cq3
    · refine v_p hT rfl rfl ?_
      refine low 2 12 (fun c1 => ?_)
      rw [show w = nI 0 from cq, nI_tn (by omega)]
      exact ⟨rfl, rfl⟩
theorem m_setBecomes {n i v : Nat} {kf : Nat → Nat} {f : Nat → Nat → Int32} {B : BK} (hR : nowR (f 100) B) (hi : i < 3) :
    Run n_X7_setBecomes 110 0 (ini n_X7_setBecomes [.ref 98, .int (nI i), .int (nI v)]) [] (HH n kf f) (Ret (some (.int (nI (bSe B i)))) (HH n kf (hset (hset f 100 (2 + i) (nI v)) 98 4 (nI 0)))) := by
  have hT : mT n_X7_setBecomes = tb_X7_setBecomes := rfl
  refine v_p hT rfl rfl ?_
  refine v_getr hT rfl rfl (by omega) rfl ?_
  refine v_p hT rfl rfl ?_
  rw [nI_add]
  refine v_ald hT rfl (by first | assumption | rfl) (by omega) (by decide) (by omega) ?_
  rw [hR.2.1 i hi]
  refine v_p hT rfl rfl ?_
  refine v_getr hT rfl rfl (by omega) rfl ?_
  refine v_p hT rfl rfl ?_
  rw [nI_add]
  refine v_ast hT rfl rfl (by omega) (by decide) (by omega) ?_
  refine v_p hT rfl rfl ?_
  refine v_puti hT rfl rfl (by omega) (fun _ => Or.inl rfl) ?_
  refine v_p hT rfl rfl ?_
  refine v_ret hT rfl (fun z => by cases z) rfl ⟨rfl, rfl⟩
theorem m_tieAt (i : Nat) {n : Nat} {kf : Nat → Nat} {f : Nat → Nat → Int32} : Run n_X7_tieAt 110 0 (ini n_X7_tieAt [.int (nI i)]) [] (HH n kf f) (Ret (some (.int (nI (224 + 3 * i)))) (HH n kf f)) := by
  have hT : mT n_X7_tieAt = tb_X7_tieAt := rfl
  refine v_p hT rfl rfl ?_
  rw [pk_mul, nI_add]
  refine v_ret hT rfl (fun z => by cases z) rfl ⟨rfl, rfl⟩
theorem m_ofTie {n i z : Nat} {kf : Nat → Nat} {f : Nat → Nat → Int32} (hi : i < 10) (hz : z < 3) : Run n_X7_ofTie 110 0 (ini n_X7_ofTie [.ref 98, .int (nI i), .int (nI z)]) [] (HH n kf f) (Ret (some (.int (f 100 (224 + 3 * i + z)))) (HH n kf f)) := by
  have hT : mT n_X7_ofTie = tb_X7_ofTie := rfl
  refine v_p hT rfl rfl ?_
  refine v_getr hT rfl rfl (by omega) rfl ?_
  refine v_p hT rfl rfl ?_
  refine v_scall hT [.int (nI i)] rfl rfl rfl rfl (Nat.le_of_ble_eq_true rfl) (Nat.le_of_ble_eq_true rfl) (m_tieAt i) ?_
  refine v_p hT rfl rfl ?_
  rw [nI_add]
  refine v_ald hT rfl (by first | assumption | rfl) (by omega) (by decide) (by omega) ?_
  refine v_ret hT rfl (fun z => by cases z) rfl ⟨rfl, rfl⟩
noncomputable def canT (B : BK) (p q w : Int32) : Int32 := bif isPa B (nI 0) p && isPa B (nI 1) q && decide (nI 1 ≤ w ∧ w ≤ nI 9) then (bif pB (∃ i, i < bNt B ∧ nI (bTi B 0 i) = p ∧ nI (bTi B 1 i) = q) then mI 3 else bif decide (10 ≤ bNt B) then mI 4 else nI 0) else mI 2
theorem m_canTie {n : Nat} {kf : Nat → Nat} {f : Nat → Nat → Int32} {B : BK} (hR : nowR (f 100) B) (hV : VB0 B) (p q w : Int32) :
    Run n_X7_canTie 110 0 (ini n_X7_canTie [.ref 98, .int p, .int q, .int w]) [] (HH n kf f) (Ret (some (.int (canT B p q w))) (HH n kf f)) := by
  have hT : mT n_X7_canTie = tb_X7_canTie := rfl
  have h10 := hV.2.2.2.2.1
  have h7 : f 100 7 = nI (bNt B) := hR.2.2.2.1
  unfold canT
  have hno : Run n_X7_canTie 110 28 [some (.ref 98), some (.int p), some (.int q), some (.int w), none, none] [] (HH n kf f) (Ret (some (.int (mI 2))) (HH n kf f)) := by
    refine v_p hT rfl rfl ?_
    refine v_ret hT rfl (fun z => by cases z) rfl ⟨rfl, rfl⟩
  have loop : ∀ d i, i + d = bNt B → ∀ b : Bool, (b = true ↔ ∃ j, j < i ∧ nI (bTi B 0 j) = p ∧ nI (bTi B 1 j) = q) → Run n_X7_canTie 110 46 [some (.ref 98), some (.int p), some (.int q), some (.int w), some (.int (bI b)), some (.int (nI i))] [.int (nI (bNt B)), .int (nI i)] (HH n kf f) (Ret (some (.int (bif pB (∃ i, i < bNt B ∧ nI (bTi B 0 i) = p ∧ nI (bTi B 1 i) = q) then mI 3 else bif decide (10 ≤ bNt B) then mI 4 else nI 0))) (HH n kf f)) := by
    intro d
    induction d with
    | zero =>
      intro i hi b hb
      have e : i = bNt B := by omega
      subst e
      refine g_cmp hT rfl (fun cq => ?_) (fun cq => ?_)
      · refine v_p hT rfl rfl ?_
        refine g_if hT rfl (fun cq2 => ?_) (fun cq2 => ?_)
        · have hbf := bf_of cq2
          rw [pB_f (fun z => by rw [hb.mpr z] at hbf; cases hbf)]
          refine v_p hT rfl rfl ?_
          refine v_getr hT rfl rfl (by omega) rfl ?_
          refine v_p hT rfl rfl ?_
          refine v_ald hT rfl (by first | assumption | rfl) (by omega) (by decide) (by omega) ?_
          rw [h7]
          refine v_p hT rfl rfl ?_
          refine g_cmp hT rfl (fun cq3 => ?_) (fun cq3 => ?_)
          · have cq3 := (cj_ne (by omega) (by omega)).mp cq3
            rw [decide_eq_false (by omega)]
            refine v_p hT rfl rfl ?_
            refine v_ret hT rfl (fun z => by cases z) rfl ⟨rfl, rfl⟩
          · have cq3 := Classical.not_not.mp ((not_congr (cj_ne (by omega) (by omega))).mp cq3)
            rw [decide_eq_true (by omega)]
            refine v_p hT rfl rfl ?_
            refine v_ret hT rfl (fun z => by cases z) rfl ⟨rfl, rfl⟩
        · rw [pB_t (hb.mp (bt_of cq2))]
          refine v_p hT rfl rfl ?_
          refine v_ret hT rfl (fun z => by cases z) rfl ⟨rfl, rfl⟩
      · exact absurd ((cj_ge (by omega) (by omega)).mpr (by omega)) cq
    | succ d ih =>
      intro i hi b hb
      have ti := hR.2.2.2.2.2 i (by omega)
      have nxt : ∀ b2 : Bool, (b2 = true ↔ ∃ j, j < i + 1 ∧ nI (bTi B 0 j) = p ∧ nI (bTi B 1 j) = q) → Run n_X7_canTie 110 40 [some (.ref 98), some (.int p), some (.int q), some (.int w), some (.int (bI b2)), some (.int (nI i + nI 1))] [.ref 98, .int (nI i + nI 1)] (HH n kf f) (Ret (some (.int (bif pB (∃ i, i < bNt B ∧ nI (bTi B 0 i) = p ∧ nI (bTi B 1 i) = q) then mI 3 else bif decide (10 ≤ bNt B) then mI 4 else nI 0))) (HH n kf f)) := by
        intro b2 hb2
        refine v_getr hT rfl rfl (by omega) rfl ?_
        refine v_p hT rfl rfl ?_
        refine v_ald hT rfl (by first | assumption | rfl) (by omega) (by decide) (by omega) ?_
        rw [h7]
        refine v_cv (ih (i + 1) (by omega) b2 hb2) ⟨rfl, rfl, rfl, rfl, rfl, ?_, trivial⟩ ?_ rfl
        · rw [nI_add]
        · rw [nI_add]
      refine g_cmp hT rfl (fun cq => ?_) (fun cq => ?_)
      · exact absurd ((cj_ge (by omega) (by omega)).mp cq) (by omega)
      · refine v_p hT rfl rfl ?_
        refine g_if hT rfl (fun cq2 => ?_) (fun cq2 => ?_)
        · have hbt : b = true := by
            cases b with
            | true => rfl
            | false => exact absurd rfl cq2
          refine v_p hT rfl rfl ?_
          refine nxt true ⟨fun _ => ?_, fun _ => rfl⟩
          obtain ⟨j, j1, j2⟩ := hb.mp hbt
          exact ⟨j, by omega, j2⟩
        · have hbf : ¬ b = true := by
            intro hbt
            subst hbt
            exact cq2 (show ¬ (1 : Int32) = 0 by decide)
          have hlast : ∀ b2 : Bool, (b2 = true ↔ nI (bTi B 0 i) = p ∧ nI (bTi B 1 i) = q) → (b2 = true ↔ ∃ j, j < i + 1 ∧ nI (bTi B 0 j) = p ∧ nI (bTi B 1 j) = q) := by
            intro b2 h2
            refine ⟨fun z => ⟨i, by omega, h2.mp z⟩, fun ⟨j, j1, j2⟩ => ?_⟩
            by_cases e : j = i
            · subst e; exact h2.mpr j2
            · exact absurd (hb.mpr ⟨j, by omega, j2⟩) hbf
          refine v_p hT rfl rfl ?_
          refine v_call hT [.int (nI i), .int (nI 0)] rfl rfl (by first | rfl | assumption) (by omega) rfl rfl (Nat.le_of_ble_eq_true rfl) (Nat.le_of_ble_eq_true rfl) (m_ofTie (by omega) (by omega)) ?_
          rw [ti 0 (by omega)]
          refine v_p hT rfl rfl ?_
          refine g_cmp hT rfl (fun cq3 => ?_) (fun cq3 => ?_)
          · have cq3 : ¬ nI (bTi B 0 i) = p := cq3
            refine v_p hT rfl rfl ?_
            exact nxt false (hlast false ⟨fun z => (by cases z), fun z => absurd z.1 cq3⟩)
          · have cq3 : nI (bTi B 0 i) = p := Classical.not_not.mp cq3
            refine v_p hT rfl rfl ?_
            refine v_call hT [.int (nI i), .int (nI 1)] rfl rfl (by first | rfl | assumption) (by omega) rfl rfl (Nat.le_of_ble_eq_true rfl) (Nat.le_of_ble_eq_true rfl) (m_ofTie (by omega) (by omega)) ?_
            rw [ti 1 (by omega)]
            refine v_p hT rfl rfl ?_
            refine g_cmp hT rfl (fun cq4 => ?_) (fun cq4 => ?_)
            · have cq4 : ¬ nI (bTi B 1 i) = q := cq4
              refine v_p hT rfl rfl ?_
              exact nxt false (hlast false ⟨fun z => (by cases z), fun z => absurd z.2 cq4⟩)
            · have cq4 : nI (bTi B 1 i) = q := Classical.not_not.mp cq4
              refine v_p hT rfl rfl ?_
              exact nxt true (hlast true ⟨fun _ => ⟨cq3, cq4⟩, fun _ => rfl⟩)
  refine v_p hT rfl rfl ?_
  refine v_call hT [.int (nI 0), .int p] rfl rfl (by first | rfl | assumption) (by omega) rfl rfl (Nat.le_of_ble_eq_true rfl) (Nat.le_of_ble_eq_true rfl) (m_isPara hR hV (nI 0) p) ?_
  refine g_if hT rfl (fun cq => ?_) (fun cq => ?_)
  · rw [bf_of cq]
    exact hno
  · rw [bt_of cq]
    refine v_p hT rfl rfl ?_
    refine v_call hT [.int (nI 1), .int q] rfl rfl (by first | rfl | assumption) (by omega) rfl rfl (Nat.le_of_ble_eq_true rfl) (Nat.le_of_ble_eq_true rfl) (m_isPara hR hV (nI 1) q) ?_
    refine g_if hT rfl (fun cq2 => ?_) (fun cq2 => ?_)
    · rw [bf_of cq2]
      exact hno
    · rw [bt_of cq2]
      refine v_p hT rfl rfl ?_
      refine v_scall hT [.int w, .int (nI 1), .int (nI 9)] rfl rfl rfl rfl (Nat.le_of_ble_eq_true rfl) (Nat.le_of_ble_eq_true rfl) (m_in w (nI 1) (nI 9)) ?_
      refine g_if hT rfl (fun cq3 => ?_) (fun cq3 => ?_)
      · have h3 := bt_of (fun z => cq3 z)
        rw [h3]
        refine v_p hT rfl rfl ?_
        refine v_getr hT rfl rfl (by omega) rfl ?_
        refine v_p hT rfl rfl ?_
        refine v_ald hT rfl (by first | assumption | rfl) (by omega) (by decide) (by omega) ?_
        rw [h7]
        exact loop (bNt B) 0 (by omega) false ⟨fun z => (by cases z), fun ⟨j, j1, _⟩ => absurd j1 (Nat.not_lt_zero _)⟩
      · have h3 : bI (decide (nI 1 ≤ w ∧ w ≤ nI 9)) = 0 := Classical.not_not.mp cq3
        rw [bf_of h3]
        exact hno
theorem nowR_tieAdd {g : Nat → Int32} {B : BK} {p q w : Nat} (hV : VB0 B) (h : nowR g B) : nowR (upd (upd (upd (upd g (224 + 3 * bNt B) (nI p)) (224 + 3 * bNt B + 1) (nI q)) (224 + 3 * bNt B + 2) (nI w)) 7 (nI (bNt B + 1))) (bTieAdd B p q w) := by
  obtain ⟨a1, a2, a3, a4, a5, a6⟩ := h
  have hnp := hV.1
  have hnw := fun s q hs hq => (hV.2.1 s q hs hq).2.1
  refine ⟨fun z hz => ?_, fun i hi => ?_, fun z hz => ?_, ?_, fun z r hz hr => ⟨?_, fun k hk => ?_⟩, fun i hi z hz => ?_⟩
  · rw [upd_ne (by omega), upd_ne (by omega), upd_ne (by omega), upd_ne (by omega)]; exact a1 z hz
  · rw [upd_ne (by omega), upd_ne (by omega), upd_ne (by omega), upd_ne (by omega)]; exact a2 i hi
  · rw [upd_ne (by omega), upd_ne (by omega), upd_ne (by omega), upd_ne (by omega)]; exact a3 z hz
  · rw [upd_eq]; rfl
  · have := hnp z hz
    have hr : r < bNp B z := hr
    rw [upd_ne (by omega), upd_ne (by omega), upd_ne (by omega), upd_ne (by omega)]; exact (a5 z r hz hr).1
  · have := hnp z hz
    have hr : r < bNp B z := hr
    have := hnw z r hz hr
    have hk : k < bNw B z r := hk
    rw [upd_ne (by omega), upd_ne (by omega), upd_ne (by omega), upd_ne (by omega)]; exact (a5 z r hz hr).2 k hk
  · have hi : i < bNt B + 1 := hi
    by_cases e : i = bNt B
    · subst e
      rw [upd_ne (by omega)]
      rcases (show z = 0 ∨ z = 1 ∨ z = 2 by omega) with y | y | y
      · subst y
        rw [upd_ne (by omega), upd_ne (by omega), Nat.add_zero, upd_eq]
        simp [bTieAdd, bTi]
      · subst y
        rw [upd_ne (by omega), upd_eq]
        simp [bTieAdd, bTi]
      · subst y
        rw [upd_eq]
        simp [bTieAdd, bTi]
    · rw [upd_ne (by omega), upd_ne (by omega), upd_ne (by omega), upd_ne (by omega)]
      have := a6 i (by omega) z hz
      simp only [bTieAdd, bTi, if_neg e]
      exact this
theorem m_tieComes {n p q w : Nat} {kf : Nat → Nat} {f : Nat → Nat → Int32} {B : BK} (hR : nowR (f 100) B) (hV : VB0 B) (h10 : bNt B < 10) :
    ∃ F, Run n_X7_tieComes 110 0 (ini n_X7_tieComes [.ref 98, .int (nI p), .int (nI q), .int (nI w)]) [] (HH n kf f) (Ret (some (.int (nI (bNt B)))) (HH n kf F)) ∧ nowR (F 100) (bTieAdd B p q w) ∧ F 98 = upd (f 98) 4 (nI 0) ∧ ∀ c, c ≠ 98 → c ≠ 100 → F c = f c := by
  have hT : mT n_X7_tieComes = tb_X7_tieComes := rfl
  have h7 : f 100 7 = nI (bNt B) := hR.2.2.2.1
  have h100 : hset (hset (hset (hset f 100 (224 + 3 * bNt B) (nI p)) 100 (224 + 3 * bNt B + 1) (nI q)) 100 (224 + 3 * bNt B + 2) (nI w)) 100 7 (nI (bNt B + 1)) 100 = upd (upd (upd (upd (f 100) (224 + 3 * bNt B) (nI p)) (224 + 3 * bNt B + 1) (nI q)) (224 + 3 * bNt B + 2) (nI w)) 7 (nI (bNt B + 1)) := by
    rw [hs_s, hs_s, hs_s, hs_s]
  refine ⟨hset (hset (hset (hset (hset f 100 (224 + 3 * bNt B) (nI p)) 100 (224 + 3 * bNt B + 1) (nI q)) 100 (224 + 3 * bNt B + 2) (nI w)) 100 7 (nI (bNt B + 1))) 98 4 (nI 0), ?_, ?_, ?_, fun c x1 x2 => by rw [hset_ne x1, hset_ne x2, hset_ne x2, hset_ne x2, hset_ne x2]⟩
  · refine v_p hT rfl rfl ?_
    refine v_getr hT rfl rfl (by omega) rfl ?_
    refine v_p hT rfl rfl ?_
    refine v_ald hT rfl (by first | assumption | rfl) (by omega) (by decide) (by omega) ?_
    rw [h7]
    refine v_p hT rfl rfl ?_
    refine v_getr hT rfl rfl (by omega) rfl ?_
    refine v_p hT rfl rfl ?_
    refine v_scall hT [.int (nI (bNt B))] rfl rfl rfl rfl (Nat.le_of_ble_eq_true rfl) (Nat.le_of_ble_eq_true rfl) (m_tieAt (bNt B)) ?_
    refine v_p hT rfl rfl ?_
    refine v_ast hT rfl rfl (by omega) (by decide) (by omega) ?_
    refine v_p hT rfl rfl ?_
    refine v_getr hT rfl rfl (by omega) rfl ?_
    refine v_p hT rfl rfl ?_
    refine v_scall hT [.int (nI (bNt B))] rfl rfl rfl rfl (Nat.le_of_ble_eq_true rfl) (Nat.le_of_ble_eq_true rfl) (m_tieAt (bNt B)) ?_
    refine v_p hT rfl rfl ?_
    rw [nI_add]
    refine v_ast hT rfl rfl (by omega) (by decide) (by omega) ?_
    refine v_p hT rfl rfl ?_
    refine v_getr hT rfl rfl (by omega) rfl ?_
    refine v_p hT rfl rfl ?_
    refine v_scall hT [.int (nI (bNt B))] rfl rfl rfl rfl (Nat.le_of_ble_eq_true rfl) (Nat.le_of_ble_eq_true rfl) (m_tieAt (bNt B)) ?_
    refine v_p hT rfl rfl ?_
    rw [nI_add]
    refine v_ast hT rfl rfl (by omega) (by decide) (by omega) ?_
    refine v_p hT rfl rfl ?_
    refine v_getr hT rfl rfl (by omega) rfl ?_
    refine v_p hT rfl rfl ?_
    refine v_ald hT rfl (by first | assumption | rfl) (by omega) (by decide) (by omega) ?_
    have h7' : hset (hset (hset f 100 (224 + 3 * bNt B) (nI p)) 100 (224 + 3 * bNt B + 1) (nI q)) 100 (224 + 3 * bNt B + 2) (nI w) 100 7 = nI (bNt B) := by
      rw [hs_s, hs_s, hs_s]
      unfold upd
      rw [if_neg (by omega), if_neg (by omega), if_neg (by omega), h7]
    rw [h7']
    refine v_p hT rfl rfl ?_
    rw [nI_add]
    refine v_ast hT rfl rfl (by omega) (by decide) (by omega) ?_
    refine v_p hT rfl rfl ?_
    refine v_puti hT rfl rfl (by omega) (fun _ => Or.inl rfl) ?_
    refine v_p hT rfl rfl ?_
    refine v_ret hT rfl (fun z => by cases z) rfl ⟨rfl, rfl⟩
  · rw [hset_ne (by omega), h100]
    exact nowR_tieAdd hV hR
  · rw [hs_s, hset_ne (by omega), hset_ne (by omega), hset_ne (by omega), hset_ne (by omega)]
