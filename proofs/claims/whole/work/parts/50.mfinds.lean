/-! THE REFERENCE: the least cost from a pair of breaks. -/
def farN : Nat := 1000000000
noncomputable def canM (B : BK) (c : Nat → Int32) (a x b y : Nat) : Bool := decide (0 < x + y ∧ a + x ≤ totF B 0 ∧ b + y ≤ totF B 1) && (lawF B 0 (a + x) && (lawF B 1 (b + y) && (decide (c (61 * (a + x) + b + y) < nI farN) && tiB B a x b y (bNt B))))
theorem m_canTake {n a x b y : Nat} {kf : Nat → Nat} {f : Nat → Nat → Int32} {B : BK} (hM : MC f B) (hV : VB B) (ha : a + x < 1000) (hb : b + y < 1000) :
    Run n_X7_canTake 110 0 (ini n_X7_canTake [.ref 98, .int (nI a), .int (nI x), .int (nI b), .int (nI y)]) [] (HH n kf f) (Ret (some (.int (bI (canM B (f 105) a x b y)))) (HH n kf f)) := by
  have hT : mT n_X7_canTake = tb_X7_canTake := rfl
  have t0 := hV.2 0 (by omega)
  have t1 := hV.2 1 (by omega)
  have l0 : a + x ≤ totF B 0 → f 103 (a + x) = bI (lawF B 0 (a + x)) := fun h => by have := hM.2.2.1 0 (a + x) (by omega) h; rw [show 61 * 0 + (a + x) = a + x by omega] at this; exact this
  have l1 : b + y ≤ totF B 1 → f 103 (61 + b + y) = bI (lawF B 1 (b + y)) := fun h => by have := hM.2.2.1 1 (b + y) (by omega) h; rw [show 61 * 1 + (b + y) = 61 + b + y by omega] at this; exact this
  have hno : canM B (f 105) a x b y = false → Run n_X7_canTake 110 93 [some (.ref 98), some (.int (nI a)), some (.int (nI x)), some (.int (nI b)), some (.int (nI y))] [] (HH n kf f) (Ret (some (.int (bI (canM B (f 105) a x b y)))) (HH n kf f)) := by
    intro e
    rw [e]
    refine v_p hT rfl rfl ?_
    refine v_ret hT rfl (fun _ => Or.inl rfl) rfl ⟨rfl, rfl⟩
  refine v_p hT rfl rfl ?_
  rw [nI_add]
  refine g_if hT rfl (fun cq => ?_) (fun cq => ?_)
  · have cq := (cj_le (a := x + y) (b := 0) (by omega) (by omega)).mp cq
    exact hno (by unfold canM; rw [decide_eq_false (by omega)]; rfl)
  · have cq := (not_congr (cj_le (a := x + y) (b := 0) (by omega) (by omega))).mp cq
    refine v_p hT rfl rfl ?_
    rw [nI_add]
    refine v_call hT [.int (nI 0)] rfl rfl (by first | rfl | assumption) (by omega) rfl rfl (Nat.le_of_ble_eq_true rfl) (Nat.le_of_ble_eq_true rfl) (m_all hM hV (by omega)) ?_
    refine g_cmp hT rfl (fun cq2 => ?_) (fun cq2 => ?_)
    · have cq2 := (cj_gt (by omega) (by omega)).mp cq2
      exact hno (by unfold canM; rw [decide_eq_false (by omega)]; rfl)
    · have cq2 := (not_congr (cj_gt (by omega) (by omega))).mp cq2
      refine v_p hT rfl rfl ?_
      rw [nI_add]
      refine v_call hT [.int (nI 1)] rfl rfl (by first | rfl | assumption) (by omega) rfl rfl (Nat.le_of_ble_eq_true rfl) (Nat.le_of_ble_eq_true rfl) (m_all hM hV (by omega)) ?_
      refine g_cmp hT rfl (fun cq3 => ?_) (fun cq3 => ?_)
      · have cq3 := (cj_gt (by omega) (by omega)).mp cq3
        exact hno (by unfold canM; rw [decide_eq_false (by omega)]; rfl)
      · have cq3 := (not_congr (cj_gt (by omega) (by omega))).mp cq3
        have d0 : decide (0 < x + y ∧ a + x ≤ totF B 0 ∧ b + y ≤ totF B 1) = true := decide_eq_true (by omega)
        refine v_p hT rfl rfl ?_
        refine v_getr hT rfl rfl (by omega) rfl ?_
        refine v_p hT rfl rfl ?_
        rw [nI_add]
        refine v_bld hT rfl (by first | assumption | rfl) (by decide) (by omega) (by decide) (by omega) ?_
        rw [l0 (by omega)]
        refine g_if hT rfl (fun cq4 => ?_) (fun cq4 => ?_)
        · have h4 := bf_of cq4
          exact hno (by unfold canM; rw [d0, h4]; rfl)
        · have h4 := bt_of cq4
          refine v_p hT rfl rfl ?_
          refine v_getr hT rfl rfl (by omega) rfl ?_
          refine v_p hT rfl rfl ?_
          rw [nI_add, nI_add]
          refine v_bld hT rfl (by first | assumption | rfl) (by decide) (by omega) (by decide) (by omega) ?_
          rw [l1 (by omega)]
          refine g_if hT rfl (fun cq5 => ?_) (fun cq5 => ?_)
          · have h5 := bf_of cq5
            exact hno (by unfold canM; rw [d0, h4, h5]; rfl)
          · have h5 := bt_of cq5
            refine v_p hT rfl rfl ?_
            refine v_getr hT rfl rfl (by omega) rfl ?_
            refine v_p hT rfl rfl ?_
            rw [nI_add, pk_mul, nI_add, nI_add]
            refine v_ald hT rfl rfl (by omega) (by decide) (show 61 * (a + x) + b + y < 3721 by omega) ?_
            refine v_p hT rfl rfl ?_
            refine g_cmp hT rfl (fun cq6 => ?_) (fun cq6 => ?_)
            · have cq6 : nI farN ≤ f 105 (61 * (a + x) + b + y) := cq6
              exact hno (by unfold canM; rw [d0, h4, h5, decide_eq_false (Int32.not_lt.mpr cq6)]; rfl)
            · have cq6 : ¬ nI farN ≤ f 105 (61 * (a + x) + b + y) := cq6
              have h6 : decide (f 105 (61 * (a + x) + b + y) < nI farN) = true := decide_eq_true (Int32.not_le.mp cq6)
              have hc : canM B (f 105) a x b y = tiB B a x b y (bNt B) := by unfold canM; rw [d0, h4, h5, h6]; rfl
              refine v_p hT rfl rfl ?_
              refine v_call hT [.int (nI a), .int (nI x), .int (nI b), .int (nI y)] rfl rfl (by first | rfl | assumption) (by omega) rfl rfl (Nat.le_of_ble_eq_true rfl) (Nat.le_of_ble_eq_true rfl) (m_areTied hM hV (by omega) (by omega)) ?_
              refine g_if hT rfl (fun cq7 => ?_) (fun cq7 => ?_)
              · exact hno (by rw [hc]; exact bf_of cq7)
              · rw [hc, bt_of cq7]
                refine v_p hT rfl rfl ?_
                refine v_ret hT rfl (fun _ => Or.inr rfl) rfl ⟨rfl, rfl⟩
def cwM (B : BK) (c : Nat → Int32) (a x b y : Nat) : Int32 := c (61 * (a + x) + b + y) + (if a + x = totF B 0 ∧ b + y = totF B 1 then nI 0 else nI (tollF (bSe B 0) (bSe B 2) x y))
theorem m_costWith {n a x b y : Nat} {kf : Nat → Nat} {f : Nat → Nat → Int32} {B : BK} (hM : MC f B) (hV : VB B) (ha : a + x ≤ totF B 0) (hb : b + y ≤ totF B 1) (hx : x ≤ bSe B 0) (hy : y ≤ bSe B 0) :
    Run n_X7_costWith 110 0 (ini n_X7_costWith [.ref 98, .int (nI a), .int (nI x), .int (nI b), .int (nI y)]) [] (HH n kf f) (Ret (some (.int (cwM B (f 105) a x b y))) (HH n kf f)) := by
  have hT : mT n_X7_costWith = tb_X7_costWith := rfl
  have t0 := hV.2 0 (by omega)
  have t1 := hV.2 1 (by omega)
  have last : ∀ v : Bool, v = decide (a + x = totF B 0 ∧ b + y = totF B 1) → Run n_X7_costWith 110 31 [some (.ref 98), some (.int (nI a)), some (.int (nI x)), some (.int (nI b)), some (.int (nI y)), some (.int (bI v))] [.ref 98] (HH n kf f) (Ret (some (.int (cwM B (f 105) a x b y))) (HH n kf f)) := by
    intro v hv
    refine v_getr hT rfl rfl (by omega) rfl ?_
    refine v_p hT rfl rfl ?_
    rw [nI_add, pk_mul, nI_add, nI_add]
    refine v_ald hT rfl rfl (by omega) (by decide) (show 61 * (a + x) + b + y < 3721 by omega) ?_
    refine v_p hT rfl rfl ?_
    unfold cwM
    by_cases hl : a + x = totF B 0 ∧ b + y = totF B 1
    · rw [decide_eq_true hl] at hv
      subst hv
      rw [if_pos hl]
      refine g_if hT rfl (fun cq => ?_) (fun cq => ?_)
      · exact absurd cq (show ¬ (1 : Int32) = 0 by decide)
      · refine v_p hT rfl rfl ?_
        refine v_ret hT rfl (fun z => by cases z) rfl ⟨rfl, rfl⟩
    · rw [decide_eq_false hl] at hv
      subst hv
      rw [if_neg hl]
      refine g_if hT rfl (fun cq => ?_) (fun cq => ?_)
      · refine v_p hT rfl rfl ?_
        refine v_call hT [.int (nI x), .int (nI y)] rfl rfl (by first | rfl | assumption) (by omega) rfl rfl (Nat.le_of_ble_eq_true rfl) (Nat.le_of_ble_eq_true rfl) (m_costOf hM.1 hx hy) ?_
        refine v_p hT rfl rfl ?_
        refine v_ret hT rfl (fun z => by cases z) rfl ⟨rfl, rfl⟩
      · exact absurd rfl cq
  refine v_p hT rfl rfl ?_
  rw [nI_add]
  refine v_call hT [.int (nI 0)] rfl rfl (by first | rfl | assumption) (by omega) rfl rfl (Nat.le_of_ble_eq_true rfl) (Nat.le_of_ble_eq_true rfl) (m_all hM hV (by omega)) ?_
  refine g_cmp hT rfl (fun cq => ?_) (fun cq => ?_)
  · have cq := (cj_ne (by omega) (by omega)).mp cq
    refine v_p hT rfl rfl ?_
    exact last false (decide_eq_false (by omega)).symm
  · have cq := Classical.byContradiction (fun z => cq ((cj_ne (by omega) (by omega)).mpr z))
    refine v_p hT rfl rfl ?_
    rw [nI_add]
    refine v_call hT [.int (nI 1)] rfl rfl (by first | rfl | assumption) (by omega) rfl rfl (Nat.le_of_ble_eq_true rfl) (Nat.le_of_ble_eq_true rfl) (m_all hM hV (by omega)) ?_
    refine g_cmp hT rfl (fun cq2 => ?_) (fun cq2 => ?_)
    · have cq2 := (cj_ne (by omega) (by omega)).mp cq2
      refine v_p hT rfl rfl ?_
      exact last false (decide_eq_false (by omega)).symm
    · have cq2 := Classical.byContradiction (fun z => cq2 ((cj_ne (by omega) (by omega)).mpr z))
      refine v_p hT rfl rfl ?_
      exact last true (decide_eq_true ⟨cq, cq2⟩).symm
/-- the better of two -/
def stpF (q : Int32 × Int32) (o : Bool) (c m : Int32) : Int32 × Int32 := if o = true ∧ (c < q.1 ∨ (c = q.1 ∧ m < q.2)) then (c, m) else q
noncomputable def fdG (B : BK) (c m : Nat → Int32) (a b x y : Nat) (q : Int32 × Int32) : Int32 × Int32 := stpF q (canM B c a x b y) (cwM B c a x b y) (m (61 * (a + x) + b + y) + nI 1)
noncomputable def fdY (B : BK) (c m : Nat → Int32) (a b x : Nat) (q : Int32 × Int32) : Nat → Int32 × Int32
  | 0 => q
  | y + 1 => fdG B c m a b x y (fdY B c m a b x q y)
noncomputable def fdX (B : BK) (c m : Nat → Int32) (a b : Nat) : Nat → Int32 × Int32
  | 0 => (nI farN, nI farN)
  | x + 1 => fdY B c m a b x (fdX B c m a b x) (bSe B 0 + 1)
theorem canM_b {B : BK} {c : Nat → Int32} {a x b y : Nat} (h : canM B c a x b y = true) : 0 < x + y ∧ a + x ≤ totF B 0 ∧ b + y ≤ totF B 1 := by
  unfold canM at h
  rw [Bool.and_eq_true] at h
  exact of_decide_eq_true h.1
/-- nothing there but the place itself has changed -/
def fdR (f F : Nat → Nat → Int32) (w : Nat) (q : Int32 × Int32) : Prop := F 105 w = q.1 ∧ F 106 w = q.2 ∧ (∀ x, x ≠ w → F 105 x = f 105 x) ∧ (∀ x, x ≠ w → F 106 x = f 106 x) ∧ ∀ c, c ≠ 105 → c ≠ 106 → F c = f c
theorem canM_cg {B : BK} {c c' : Nat → Int32} {a x b y : Nat} (hab : a ≤ 60 ∧ b ≤ 60) (h : ∀ k, k ≠ 61 * a + b → c' k = c k) (hV : VB B) : canM B c' a x b y = canM B c a x b y := by
  have t0 := hV.2 0 (by omega)
  have t1 := hV.2 1 (by omega)
  unfold canM
  by_cases hz : 0 < x + y ∧ a + x ≤ totF B 0 ∧ b + y ≤ totF B 1
  · rw [h (61 * (a + x) + b + y) (by omega)]
  · rw [decide_eq_false hz, Bool.false_and, Bool.false_and]
theorem m_finds {n a b : Nat} {kf : Nat → Nat} {f : Nat → Nat → Int32} {B : BK} (hM : MC f B) (hV : VB B) (ha : a ≤ totF B 0) (hb : b ≤ totF B 1) :
    ∃ F, Run n_X7_finds 110 0 (ini n_X7_finds [.ref 98, .int (nI a), .int (nI b)]) [] (HH n kf f) (Ret none (HH n kf F)) ∧ fdR f F (61 * a + b) (fdX B (f 105) (f 106) a b (bSe B 0 + 1)) := by
  have hT : mT n_X7_finds = tb_X7_finds := rfl
  have t0 := hV.2 0 (by omega)
  have t1 := hV.2 1 (by omega)
  have hs0 := hV.1.2.2.2.1.1
  have h2 : f 100 2 = nI (bSe B 0) := hM.1.2.1 0 (by omega)
  have loop : ∀ d x, x + d = bSe B 0 + 1 → ∀ F : Nat → Nat → Int32, fdR f F (61 * a + b) (fdX B (f 105) (f 106) a b x) →
      ∃ F2, Run n_X7_finds 110 34 [some (.ref 98), some (.int (nI a)), some (.int (nI b)), some (.int (nI (61 * a + b))), some (.int (nI x)), none, none, none, none] [.int (nI (bSe B 0)), .int (nI x)] (HH n kf F) (Ret none (HH n kf F2)) ∧ fdR f F2 (61 * a + b) (fdX B (f 105) (f 106) a b (bSe B 0 + 1)) := by
    intro d
    induction d with
    | zero =>
      intro x hx F hF
      obtain rfl : x = bSe B 0 + 1 := by omega
      refine ⟨F, ?_, hF⟩
      refine g_cmp hT rfl (fun cq => ?_) (fun cq => ?_)
      · refine v_vret hT rfl rfl ⟨rfl, rfl⟩
      · exact absurd ((cj_gt (by omega) (by omega)).mpr (by omega)) cq
    | succ d ih =>
      intro x hx F hF
      have inner : ∀ e y, y + e = bSe B 0 + 1 → ∀ G : Nat → Nat → Int32, fdR f G (61 * a + b) (fdY B (f 105) (f 106) a b x (fdX B (f 105) (f 106) a b x) y) →
          ∃ F2, Run n_X7_finds 110 48 [some (.ref 98), some (.int (nI a)), some (.int (nI b)), some (.int (nI (61 * a + b))), some (.int (nI x)), some (.int (nI y)), none, none, none] [.int (nI (bSe B 0)), .int (nI y)] (HH n kf G) (Ret none (HH n kf F2)) ∧ fdR f F2 (61 * a + b) (fdX B (f 105) (f 106) a b (bSe B 0 + 1)) := by
        intro e
        induction e with
        | zero =>
          intro y hy G hG
          obtain rfl : y = bSe B 0 + 1 := by omega
          obtain ⟨F2, r1, r2⟩ := ih (x + 1) (by omega) G hG
          refine ⟨F2, ?_, r2⟩
          have hG2 : G 100 2 = nI (bSe B 0) := by rw [hG.2.2.2.2 100 (by omega) (by omega)]; exact h2
          refine g_cmp hT rfl (fun cq => ?_) (fun cq => ?_)
          · refine v_p hT rfl rfl ?_
            refine v_getr hT rfl rfl (by omega) rfl ?_
            refine v_p hT rfl rfl ?_
            refine v_ald hT rfl (by first | assumption | rfl) (by omega) (by decide) (by omega) ?_
            rw [hG2]
            refine v_cv r1 ⟨rfl, rfl, rfl, rfl, ?_, trivial⟩ ?_ rfl
            · rw [nI_add]
            · rw [nI_add]
          · exact absurd ((cj_gt (by omega) (by omega)).mpr (by omega)) cq
        | succ e ih2 =>
          intro y hy G hG
          obtain ⟨k1, k2, k3, k4, k5⟩ := id hG
          have hMG : MC G B := MC_fr hM (by rw [k5 98 (by omega) (by omega)]) (fun c hc => k5 c (by omega) (by omega))
          have hG2 : G 100 2 = nI (bSe B 0) := by rw [k5 100 (by omega) (by omega)]; exact h2
          have hcan : canM B (G 105) a x b y = canM B (f 105) a x b y := canM_cg ⟨by omega, by omega⟩ k3 hV
          have hstep : fdY B (f 105) (f 106) a b x (fdX B (f 105) (f 106) a b x) (y + 1) = stpF (fdY B (f 105) (f 106) a b x (fdX B (f 105) (f 106) a b x) y) (canM B (f 105) a x b y) (cwM B (f 105) a x b y) (f 106 (61 * (a + x) + b + y) + nI 1) := rfl
          generalize hq : fdY B (f 105) (f 106) a b x (fdX B (f 105) (f 106) a b x) y = q at hG k1 k2 hstep
          have back : ∀ (F2 : Nat → Nat → Int32) (G2 : Nat → Nat → Int32) (L6 L7 L8 : Option Value), (∀ c, c ≠ 105 → c ≠ 106 → G2 c = f c) → Run n_X7_finds 110 48 [some (.ref 98), some (.int (nI a)), some (.int (nI b)), some (.int (nI (61 * a + b))), some (.int (nI x)), some (.int (nI (y + 1))), none, none, none] [.int (nI (bSe B 0)), .int (nI (y + 1))] (HH n kf G2) (Ret none (HH n kf F2)) → Run n_X7_finds 110 181 [some (.ref 98), some (.int (nI a)), some (.int (nI b)), some (.int (nI (61 * a + b))), some (.int (nI x)), some (.int (nI y)), L6, L7, L8] [] (HH n kf G2) (Ret none (HH n kf F2)) := by
            intro F2 G2 L6 L7 L8 hG2 hr
            refine v_p hT rfl rfl ?_
            refine v_getr hT rfl rfl (by omega) rfl ?_
            refine v_p hT rfl rfl ?_
            refine v_ald hT rfl (by first | assumption | rfl) (by omega) (by decide) (by omega) ?_
            rw [hG2 100 (by omega) (by omega), h2]
            refine v_cv hr ⟨rfl, rfl, rfl, rfl, rfl, ?_, trivial⟩ ?_ rfl
            · rw [nI_add]
            · rw [nI_add]
          cases hc : canM B (f 105) a x b y with
          | false =>
            rw [hc] at hcan
            obtain ⟨F2, r1, r2⟩ := ih2 (y + 1) (by omega) G (by
              rw [hstep, hc]
              unfold stpF
              rw [if_neg (fun z => by cases z.1)]
              exact hG)
            refine ⟨F2, ?_, r2⟩
            refine g_cmp hT rfl (fun cq => ?_) (fun cq => ?_)
            · exact absurd ((cj_gt (by omega) (by omega)).mp cq) (by omega)
            · refine v_p hT rfl rfl ?_
              refine v_call hT [.int (nI a), .int (nI x), .int (nI b), .int (nI y)] rfl rfl (by first | rfl | assumption) (by omega) rfl rfl (Nat.le_of_ble_eq_true rfl) (Nat.le_of_ble_eq_true rfl) (m_canTake hMG hV (by omega) (by omega)) ?_
              rw [hcan]
              refine g_if hT rfl (fun cq2 => ?_) (fun cq2 => ?_)
              · exact back F2 G none none none k5 r1
              · exact absurd rfl cq2
          | true =>
            rw [hc] at hcan
            obtain ⟨b0, b1, b2⟩ := canM_b hc
            have hcw : cwM B (G 105) a x b y = cwM B (f 105) a x b y := by unfold cwM; rw [k3 _ (by omega)]
            have hop : G 106 (61 * (a + x) + b + y) = f 106 (61 * (a + x) + b + y) := k4 _ (by omega)
            generalize hcv : cwM B (f 105) a x b y = cv at hstep hcw
            generalize hmv : f 106 (61 * (a + x) + b + y) + nI 1 = mv at hstep
            by_cases hah : cv < q.1 ∨ (cv = q.1 ∧ mv < q.2)
            · obtain ⟨F2, r1, r2⟩ := ih2 (y + 1) (by omega) (hset (hset G 105 (61 * a + b) cv) 106 (61 * a + b) mv) (by
                rw [hstep, hc]
                unfold stpF
                rw [if_pos ⟨rfl, hah⟩]
                refine ⟨by rw [hset_ne (by omega), hs_s]; exact pk_us, by rw [hs_s]; exact pk_us, fun z hz => by rw [hset_ne (by omega), hs_s, pk_un hz]; exact k3 z hz, fun z hz => by rw [hs_s, pk_un hz, hset_ne (by omega)]; exact k4 z hz, fun c c1 c2 => by rw [hset_ne c2, hset_ne c1]; exact k5 c c1 c2⟩)
              refine ⟨F2, ?_, r2⟩
              have tail : Run n_X7_finds 110 138 [some (.ref 98), some (.int (nI a)), some (.int (nI b)), some (.int (nI (61 * a + b))), some (.int (nI x)), some (.int (nI y)), some (.int cv), some (.int mv), some (.int (nI 1))] [.ref 98] (HH n kf G) (Ret none (HH n kf F2)) := by
                refine v_getr hT rfl rfl (by omega) rfl ?_
                refine v_p hT rfl rfl ?_
                refine g_if hT rfl (fun cz => ?_) (fun cz => ?_)
                · exact absurd cz (show ¬ nI 1 = 0 by decide)
                · refine v_p hT rfl rfl ?_
                  refine v_ast hT rfl rfl (by omega) (by decide) (show 61 * a + b < 3721 by omega) ?_
                  refine v_p hT rfl rfl ?_
                  refine v_getr hT rfl rfl (by omega) rfl ?_
                  refine v_p hT rfl rfl ?_
                  refine g_if hT rfl (fun cz2 => ?_) (fun cz2 => ?_)
                  · exact absurd cz2 (show ¬ nI 1 = 0 by decide)
                  · refine v_p hT rfl rfl ?_
                    refine v_ast hT rfl rfl (by omega) (by decide) (show 61 * a + b < 3721 by omega) ?_
                    exact back F2 _ _ _ _ (fun c c1 c2 => by rw [hset_ne c2, hset_ne c1]; exact k5 c c1 c2) r1
              refine g_cmp hT rfl (fun cq => ?_) (fun cq => ?_)
              · exact absurd ((cj_gt (by omega) (by omega)).mp cq) (by omega)
              · refine v_p hT rfl rfl ?_
                refine v_call hT [.int (nI a), .int (nI x), .int (nI b), .int (nI y)] rfl rfl (by first | rfl | assumption) (by omega) rfl rfl (Nat.le_of_ble_eq_true rfl) (Nat.le_of_ble_eq_true rfl) (m_canTake hMG hV (by omega) (by omega)) ?_
                rw [hcan]
                refine g_if hT rfl (fun cq2 => ?_) (fun cq2 => ?_)
                · exact absurd cq2 (show ¬ (1 : Int32) = 0 by decide)
                · refine v_p hT rfl rfl ?_
                  refine v_call hT [.int (nI a), .int (nI x), .int (nI b), .int (nI y)] rfl rfl (by first | rfl | assumption) (by omega) rfl rfl (Nat.le_of_ble_eq_true rfl) (Nat.le_of_ble_eq_true rfl) (m_costWith hMG hV b1 b2 (by omega) (by omega)) ?_
                  rw [hcw]
                  refine v_p hT rfl rfl ?_
                  refine v_getr hT rfl rfl (by omega) rfl ?_
                  refine v_p hT rfl rfl ?_
                  rw [nI_add, pk_mul, nI_add, nI_add]
                  refine v_ald hT rfl rfl (by omega) (by decide) (show 61 * (a + x) + b + y < 3721 by omega) ?_
                  rw [hop]
                  refine v_p hT rfl rfl ?_
                  rw [hmv]
                  refine v_getr hT rfl rfl (by omega) rfl ?_
                  refine v_p hT rfl rfl ?_
                  refine v_ald hT rfl rfl (by omega) (by decide) (show 61 * a + b < 3721 by omega) ?_
                  rw [k1]
                  refine g_cmp hT rfl (fun cq3 => ?_) (fun cq3 => ?_)
                  · refine v_p hT rfl rfl ?_
                    exact tail
                  · have cq3 : ¬ cv < q.1 := cq3
                    refine v_p hT rfl rfl ?_
                    refine v_getr hT rfl rfl (by omega) rfl ?_
                    refine v_p hT rfl rfl ?_
                    refine v_ald hT rfl rfl (by omega) (by decide) (show 61 * a + b < 3721 by omega) ?_
                    rw [k1]
                    refine g_cmp hT rfl (fun cq4 => ?_) (fun cq4 => ?_)
                    · have cq4 : ¬ cv = q.1 := cq4
                      exact absurd hah (by intro z; exact z.elim cq3 (fun z2 => cq4 z2.1))
                    · refine v_p hT rfl rfl ?_
                      refine v_getr hT rfl rfl (by omega) rfl ?_
                      refine v_p hT rfl rfl ?_
                      refine v_ald hT rfl rfl (by omega) (by decide) (show 61 * a + b < 3721 by omega) ?_
                      rw [k2]
                      refine g_cmp hT rfl (fun cq5 => ?_) (fun cq5 => ?_)
                      · have cq5 : q.2 ≤ mv := cq5
                        exact absurd hah (by intro z; exact z.elim cq3 (fun z2 => Int32.not_lt.mpr cq5 z2.2))
                      · refine v_p hT rfl rfl ?_
                        exact tail
            · have keep : ∀ G2 : Nat → Nat → Int32, G2 = hset (hset G 105 (61 * a + b) q.1) 106 (61 * a + b) q.2 → G2 = G := by
                intro G2 e
                rw [e, ← k1, ← k2, hset_same, hset_same]
              obtain ⟨F2, r1, r2⟩ := ih2 (y + 1) (by omega) G (by
                rw [hstep, hc]
                unfold stpF
                rw [if_neg (fun z => hah z.2)]
                exact hG)
              refine ⟨F2, ?_, r2⟩
              have tail : Run n_X7_finds 110 138 [some (.ref 98), some (.int (nI a)), some (.int (nI b)), some (.int (nI (61 * a + b))), some (.int (nI x)), some (.int (nI y)), some (.int cv), some (.int mv), some (.int (nI 0))] [.ref 98] (HH n kf G) (Ret none (HH n kf F2)) := by
                refine v_getr hT rfl rfl (by omega) rfl ?_
                refine v_p hT rfl rfl ?_
                refine g_if hT rfl (fun cz => ?_) (fun cz => ?_)
                · refine v_p hT rfl rfl ?_
                  refine v_getr hT rfl rfl (by omega) rfl ?_
                  refine v_p hT rfl rfl ?_
                  refine v_ald hT rfl rfl (by omega) (by decide) (show 61 * a + b < 3721 by omega) ?_
                  refine v_ast hT rfl rfl (by omega) (by decide) (show 61 * a + b < 3721 by omega) ?_
                  rw [hset_same]
                  refine v_p hT rfl rfl ?_
                  refine v_getr hT rfl rfl (by omega) rfl ?_
                  refine v_p hT rfl rfl ?_
                  refine g_if hT rfl (fun cz2 => ?_) (fun cz2 => ?_)
                  · refine v_p hT rfl rfl ?_
                    refine v_getr hT rfl rfl (by omega) rfl ?_
                    refine v_p hT rfl rfl ?_
                    refine v_ald hT rfl rfl (by omega) (by decide) (show 61 * a + b < 3721 by omega) ?_
                    refine v_ast hT rfl rfl (by omega) (by decide) (show 61 * a + b < 3721 by omega) ?_
                    rw [hset_same]
                    exact back F2 _ _ _ _ k5 r1
                  · exact absurd rfl cz2
                · exact absurd rfl cz
              refine g_cmp hT rfl (fun cq => ?_) (fun cq => ?_)
              · exact absurd ((cj_gt (by omega) (by omega)).mp cq) (by omega)
              · refine v_p hT rfl rfl ?_
                refine v_call hT [.int (nI a), .int (nI x), .int (nI b), .int (nI y)] rfl rfl (by first | rfl | assumption) (by omega) rfl rfl (Nat.le_of_ble_eq_true rfl) (Nat.le_of_ble_eq_true rfl) (m_canTake hMG hV (by omega) (by omega)) ?_
                rw [hcan]
                refine g_if hT rfl (fun cq2 => ?_) (fun cq2 => ?_)
                · exact absurd cq2 (show ¬ (1 : Int32) = 0 by decide)
                · refine v_p hT rfl rfl ?_
                  refine v_call hT [.int (nI a), .int (nI x), .int (nI b), .int (nI y)] rfl rfl (by first | rfl | assumption) (by omega) rfl rfl (Nat.le_of_ble_eq_true rfl) (Nat.le_of_ble_eq_true rfl) (m_costWith hMG hV b1 b2 (by omega) (by omega)) ?_
                  rw [hcw]
                  refine v_p hT rfl rfl ?_
                  refine v_getr hT rfl rfl (by omega) rfl ?_
                  refine v_p hT rfl rfl ?_
                  rw [nI_add, pk_mul, nI_add, nI_add]
                  refine v_ald hT rfl rfl (by omega) (by decide) (show 61 * (a + x) + b + y < 3721 by omega) ?_
                  rw [hop]
                  refine v_p hT rfl rfl ?_
                  rw [hmv]
                  refine v_getr hT rfl rfl (by omega) rfl ?_
                  refine v_p hT rfl rfl ?_
                  refine v_ald hT rfl rfl (by omega) (by decide) (show 61 * a + b < 3721 by omega) ?_
                  rw [k1]
                  refine g_cmp hT rfl (fun cq3 => ?_) (fun cq3 => ?_)
                  · have cq3 : cv < q.1 := cq3
                    exact absurd (Or.inl cq3) hah
                  · have cq3 : ¬ cv < q.1 := cq3
                    refine v_p hT rfl rfl ?_
                    refine v_getr hT rfl rfl (by omega) rfl ?_
                    refine v_p hT rfl rfl ?_
                    refine v_ald hT rfl rfl (by omega) (by decide) (show 61 * a + b < 3721 by omega) ?_
                    rw [k1]
                    refine g_cmp hT rfl (fun cq4 => ?_) (fun cq4 => ?_)
                    · refine v_p hT rfl rfl ?_
                      exact tail
                    · have cq4 : cv = q.1 := Classical.byContradiction (fun z => cq4 z)
                      refine v_p hT rfl rfl ?_
                      refine v_getr hT rfl rfl (by omega) rfl ?_
                      refine v_p hT rfl rfl ?_
                      refine v_ald hT rfl rfl (by omega) (by decide) (show 61 * a + b < 3721 by omega) ?_
                      rw [k2]
                      refine g_cmp hT rfl (fun cq5 => ?_) (fun cq5 => ?_)
                      · refine v_p hT rfl rfl ?_
                        exact tail
                      · have cq5 : ¬ q.2 ≤ mv := cq5
                        exact absurd (Or.inr ⟨cq4, Int32.not_le.mp cq5⟩) hah
      obtain ⟨F2, r1, r2⟩ := inner (bSe B 0 + 1) 0 (by omega) F hF
      refine ⟨F2, ?_, r2⟩
      have hF2 : F 100 2 = nI (bSe B 0) := by rw [hF.2.2.2.2 100 (by omega) (by omega)]; exact h2
      refine g_cmp hT rfl (fun cq => ?_) (fun cq => ?_)
      · exact absurd ((cj_gt (by omega) (by omega)).mp cq) (by omega)
      · refine v_p hT rfl rfl ?_
        refine v_getr hT rfl rfl (by omega) rfl ?_
        refine v_p hT rfl rfl ?_
        refine v_ald hT rfl (by first | assumption | rfl) (by omega) (by decide) (by omega) ?_
        rw [hF2]
        exact r1
  obtain ⟨F2, r1, r2⟩ := loop (bSe B 0 + 1) 0 (by omega) (hset (hset f 105 (61 * a + b) (nI farN)) 106 (61 * a + b) (nI farN)) ⟨by rw [hset_ne (by omega), hs_s]; exact pk_us, by rw [hs_s]; exact pk_us, fun z hz => by rw [hset_ne (by omega), hs_s, pk_un hz], fun z hz => by rw [hs_s, pk_un hz, hset_ne (by omega)], fun c c1 c2 => by rw [hset_ne c2, hset_ne c1]⟩
  refine ⟨F2, ?_, r2⟩
  refine v_p hT rfl rfl ?_
  rw [pk_mul, nI_add]
  refine v_getr hT rfl rfl (by omega) rfl ?_
  refine v_p hT rfl rfl ?_
  refine v_ast hT rfl rfl (by omega) (by decide) (show 61 * a + b < 3721 by omega) ?_
  refine v_p hT rfl rfl ?_
  refine v_getr hT rfl rfl (by omega) rfl ?_
  refine v_p hT rfl rfl ?_
  refine v_ast hT rfl rfl (by omega) (by decide) (show 61 * a + b < 3721 by omega) ?_
  refine v_p hT rfl rfl ?_
  refine v_getr hT rfl rfl (by omega) rfl ?_
  refine v_p hT rfl rfl ?_
  refine v_ald hT rfl (by first | assumption | rfl) (by omega) (by decide) (by omega) ?_
  rw [hset_ne (by omega), hset_ne (by omega), h2]
  exact r1
