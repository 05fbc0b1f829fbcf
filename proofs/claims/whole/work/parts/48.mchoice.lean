/-! THE REFERENCE: crossing ties, the kept ones. -/
theorem sb_ge {a c : Nat} (ha : a < 2 ^ 30) (hc : c < 2 ^ 30) : cnd 3 (nI a - nI c) 0 ↔ c ≤ a := by
  by_cases h : c ≤ a
  · rw [pk_sub h]
    exact ⟨fun _ => h, fun _ => (cj_ge (a := a - c) (b := 0) (by omega) (by omega)).mpr (by omega)⟩
  · have h2 := pk_sneg hc (show a < c by omega)
    exact ⟨fun z => absurd h2 (Int32.not_lt.mpr z), fun z => absurd z h⟩
theorem sb_gt {a c : Nat} (ha : a < 2 ^ 30) (hc : c < 2 ^ 30) : cnd 4 (nI a - nI c) 0 ↔ c < a := by
  by_cases h : c ≤ a
  · rw [pk_sub h]
    exact ⟨fun z => by have := (cj_gt (a := a - c) (b := 0) (by omega) (by omega)).mp z; omega, fun z => (cj_gt (a := a - c) (b := 0) (by omega) (by omega)).mpr (by omega)⟩
  · have h2 := pk_sneg hc (show a < c by omega)
    exact ⟨fun z => absurd (Int32.lt_trans h2 z) Int32.lt_irrefl, fun z => absurd z (by omega)⟩
theorem sb_le {a c : Nat} (ha : a < 2 ^ 30) (hc : c < 2 ^ 30) : cnd 5 (nI a - nI c) 0 ↔ a ≤ c := by
  have h := not_congr (sb_gt ha hc)
  constructor
  · intro z
    have z : nI a - nI c ≤ 0 := z
    have := h.mp (Int32.not_lt.mpr z)
    omega
  · intro z
    exact Int32.not_lt.mp (h.mpr (by omega))
theorem sb_ne {a c : Nat} (ha : a < 2 ^ 30) (hc : c < 2 ^ 30) : cnd 1 (nI a - nI c) 0 ↔ ¬ a = c := by
  by_cases h : c ≤ a
  · rw [pk_sub h]
    exact ⟨fun z => by have := (cj_ne (a := a - c) (b := 0) (by omega) (by omega)).mp z; omega, fun z => (cj_ne (a := a - c) (b := 0) (by omega) (by omega)).mpr (by omega)⟩
  · have h2 := pk_sneg hc (show a < c by omega)
    refine ⟨fun _ => by omega, fun _ => ?_⟩
    intro z
    rw [z] at h2
    exact absurd h2 (by decide)
theorem m_areCrossing {n i j : Nat} {kf : Nat → Nat} {f : Nat → Nat → Int32} {B : BK} (hR : nowR (f 100) B) (hV : VB0 B) (hi : i < bNt B) (hj : j < bNt B) :
    Run n_X7_areCrossing 110 0 (ini n_X7_areCrossing [.ref 98, .int (nI i), .int (nI j)]) [] (HH n kf f) (Ret (some (.int (bI (crossB B i j)))) (HH n kf f)) := by
  have hT : mT n_X7_areCrossing = tb_X7_areCrossing := rfl
  have h10 := hV.2.2.2.2.1
  have n0 := hV.1 0 (by omega)
  have n1 := hV.1 1 (by omega)
  have vi := hV.2.2.2.2.2 i hi
  have vj := hV.2.2.2.2.2 j hj
  have ti := hR.2.2.2.2.2 i hi
  have tj := hR.2.2.2.2.2 j hj
  have two : ∀ L, ¬ (bTi B 0 i < bTi B 0 j ∧ bTi B 1 j < bTi B 1 i) → L = [some (Value.ref 98), some (.int (nI i)), some (.int (nI j)), some (.int (nI (bTi B 0 i) - nI (bTi B 0 j))), some (.int (nI (bTi B 1 i) - nI (bTi B 1 j)))] → Run n_X7_areCrossing 110 38 L [] (HH n kf f) (Ret (some (.int (bI (crossB B i j)))) (HH n kf f)) := by
    intro L hno e
    subst e
    refine v_p hT rfl rfl ?_
    refine g_if hT rfl (fun q1 => ?_) (fun q1 => ?_)
    · have q1 := (sb_le (by omega) (by omega)).mp q1
      refine v_p hT rfl rfl ?_
      refine v_ret hT rfl (fun _ => Or.inl rfl) rfl ⟨?_, rfl⟩
      unfold crossB
      rw [decide_eq_false (by omega)]
      rfl
    · have q1 := (not_congr (sb_le (by omega) (by omega))).mp q1
      refine v_p hT rfl rfl ?_
      refine g_if hT rfl (fun q2 => ?_) (fun q2 => ?_)
      · have q2 := (sb_ge (by omega) (by omega)).mp q2
        refine v_p hT rfl rfl ?_
        refine v_ret hT rfl (fun _ => Or.inl rfl) rfl ⟨?_, rfl⟩
        unfold crossB
        rw [decide_eq_false (by omega)]
        rfl
      · have q2 := (not_congr (sb_ge (by omega) (by omega))).mp q2
        refine v_p hT rfl rfl ?_
        refine v_ret hT rfl (fun _ => Or.inr rfl) rfl ⟨?_, rfl⟩
        unfold crossB
        rw [decide_eq_true (by omega)]
        rfl
  refine v_p hT rfl rfl ?_
  refine v_call hT [.int (nI i), .int (nI 0)] rfl rfl (by first | rfl | assumption) (by omega) rfl rfl (Nat.le_of_ble_eq_true rfl) (Nat.le_of_ble_eq_true rfl) (m_ofTie (by omega) (by omega)) ?_
  rw [ti 0 (by omega)]
  refine v_p hT rfl rfl ?_
  refine v_call hT [.int (nI j), .int (nI 0)] rfl rfl (by first | rfl | assumption) (by omega) rfl rfl (Nat.le_of_ble_eq_true rfl) (Nat.le_of_ble_eq_true rfl) (m_ofTie (by omega) (by omega)) ?_
  rw [tj 0 (by omega)]
  refine v_p hT rfl rfl ?_
  refine v_call hT [.int (nI i), .int (nI 1)] rfl rfl (by first | rfl | assumption) (by omega) rfl rfl (Nat.le_of_ble_eq_true rfl) (Nat.le_of_ble_eq_true rfl) (m_ofTie (by omega) (by omega)) ?_
  rw [ti 1 (by omega)]
  refine v_p hT rfl rfl ?_
  refine v_call hT [.int (nI j), .int (nI 1)] rfl rfl (by first | rfl | assumption) (by omega) rfl rfl (Nat.le_of_ble_eq_true rfl) (Nat.le_of_ble_eq_true rfl) (m_ofTie (by omega) (by omega)) ?_
  rw [tj 1 (by omega)]
  refine v_p hT rfl rfl ?_
  refine g_if hT rfl (fun q1 => ?_) (fun q1 => ?_)
  · have q1 := (sb_ge (by omega) (by omega)).mp q1
    exact two _ (by omega) rfl
  · have q1 := (not_congr (sb_ge (by omega) (by omega))).mp q1
    refine v_p hT rfl rfl ?_
    refine g_if hT rfl (fun q2 => ?_) (fun q2 => ?_)
    · have q2 := (sb_gt (by omega) (by omega)).mp q2
      refine v_p hT rfl rfl ?_
      refine v_ret hT rfl (fun _ => Or.inr rfl) rfl ⟨?_, rfl⟩
      unfold crossB
      rw [decide_eq_true (by omega)]
      rfl
    · have q2 := (not_congr (sb_gt (by omega) (by omega))).mp q2
      exact two _ (by omega) rfl
theorem tb_z {x i : Nat} (hx : x < 2 ^ 31) (hi : i < 32) : cnd 0 ((nI x >>> (nI i &&& 31)) &&& nI 1) 0 ↔ ¬ x.testBit i = true := by
  rw [bit_at hx hi, tb_dm, decide_eq_true_eq]
  have := Nat.mod_lt (x / 2 ^ i) (show 0 < 2 by omega)
  exact ⟨fun z => by have := (cj_eq (a := x / 2 ^ i % 2) (b := 0) (by omega) (by omega)).mp z; omega, fun z => (cj_eq (a := x / 2 ^ i % 2) (b := 0) (by omega) (by omega)).mpr (by omega)⟩
theorem tb_nz {x i : Nat} (hx : x < 2 ^ 31) (hi : i < 32) : cnd 1 ((nI x >>> (nI i &&& 31)) &&& nI 1) 0 ↔ x.testBit i = true := by
  have h := not_congr (tb_z hx hi)
  rw [Classical.not_not] at h
  exact h
def plJ (B : BK) (x i : Nat) (acc : Bool) : Nat → Bool
  | 0 => acc
  | j + 1 => plJ B x i acc j && (!(x.testBit i) || !(x.testBit j) || !(crossB B i j))
def plI (B : BK) (x : Nat) : Nat → Bool
  | 0 => true
  | i + 1 => plJ B x i (plI B x i) i
theorem plJ_t {B : BK} {x i : Nat} {acc : Bool} : ∀ j, plJ B x i acc j = true ↔ acc = true ∧ ∀ l, l < j → x.testBit i = true → x.testBit l = true → crossB B i l = false := by
  intro j
  induction j with
  | zero => exact ⟨fun z => ⟨z, fun l hl => absurd hl (Nat.not_lt_zero _)⟩, fun z => z.1⟩
  | succ j ih =>
    show (plJ B x i acc j && _) = true ↔ _
    rw [Bool.and_eq_true, ih]
    constructor
    · intro ⟨⟨h1, h2⟩, h3⟩
      refine ⟨h1, fun l hl b1 b2 => ?_⟩
      by_cases e : l = j
      · subst e
        rw [b1, b2] at h3
        simpa using h3
      · exact h2 l (by omega) b1 b2
    · intro ⟨h1, h2⟩
      refine ⟨⟨h1, fun l hl => h2 l (by omega)⟩, ?_⟩
      cases b1 : x.testBit i with
      | false => rfl
      | true =>
        cases b2 : x.testBit j with
        | false => rfl
        | true => rw [h2 j (by omega) b1 b2]; rfl
theorem plI_t {B : BK} {x : Nat} : ∀ i, plI B x i = true ↔ ∀ k l, k < i → l < k → x.testBit k = true → x.testBit l = true → crossB B k l = false := by
  intro i
  induction i with
  | zero => exact ⟨fun _ k l hk => absurd hk (Nat.not_lt_zero _), fun _ => rfl⟩
  | succ i ih =>
    show plJ B x i (plI B x i) i = true ↔ _
    rw [plJ_t, ih]
    constructor
    · intro ⟨h1, h2⟩ k l hk hl b1 b2
      by_cases e : k = i
      · subst e; exact h2 l hl b1 b2
      · exact h1 k l (by omega) hl b1 b2
    · intro h
      exact ⟨fun k l hk => h k l (by omega), fun l hl => h i l (by omega) hl⟩
theorem crossB_sym (B : BK) (i j : Nat) : crossB B i j = crossB B j i := by
  unfold crossB
  congr 1
  simp only [eq_iff_iff]
  omega
theorem crossB_self (B : BK) (i : Nat) : crossB B i i = false := by
  unfold crossB
  exact decide_eq_false (by omega)
theorem plI_ok (B : BK) (x : Nat) : plI B x (bNt B) = true ↔ okS B x := by
  rw [plI_t]
  constructor
  · intro h i j hi hj b1 b2
    rcases (show i < j ∨ i = j ∨ j < i by omega) with e | e | e
    · rw [crossB_sym]; exact h j i hj e b2 b1
    · subst e; exact crossB_self B i
    · exact h i j hi e b1 b2
  · intro h k l hk hl b1 b2
    exact h k l hk (by omega) b1 b2
theorem m_isPlain {n x : Nat} {kf : Nat → Nat} {f : Nat → Nat → Int32} {B : BK} (hR : nowR (f 100) B) (hV : VB0 B) (hx : x < 1024) :
    Run n_X7_isPlain 110 0 (ini n_X7_isPlain [.ref 98, .int (nI x)]) [] (HH n kf f) (Ret (some (.int (bI (plI B x (bNt B))))) (HH n kf f)) := by
  have hT : mT n_X7_isPlain = tb_X7_isPlain := rfl
  have h10 := hV.2.2.2.2.1
  have h7 : f 100 7 = nI (bNt B) := hR.2.2.2.1
  have loop : ∀ d i, i + d = bNt B → Run n_X7_isPlain 110 12 [some (.ref 98), some (.int (nI x)), some (.int (bI (plI B x i))), some (.int (nI i)), none] [.int (nI (bNt B)), .int (nI i)] (HH n kf f) (Ret (some (.int (bI (plI B x (bNt B))))) (HH n kf f)) := by
    intro d
    induction d with
    | zero =>
      intro i hi
      obtain rfl : i = bNt B := by omega
      refine g_cmp hT rfl (fun cq => ?_) (fun cq => ?_)
      · refine v_p hT rfl rfl ?_
        refine v_ret hT rfl (fun _ => bI_or _) rfl ⟨rfl, rfl⟩
      · exact absurd ((cj_ge (by omega) (by omega)).mpr (by omega)) cq
    | succ d ih =>
      intro i hi
      have inner : ∀ e j, j + e = i → Run n_X7_isPlain 110 21 [some (.ref 98), some (.int (nI x)), some (.int (bI (plJ B x i (plI B x i) j))), some (.int (nI i)), some (.int (nI j))] [.int (nI i), .int (nI j)] (HH n kf f) (Ret (some (.int (bI (plI B x (bNt B))))) (HH n kf f)) := by
        intro e
        induction e with
        | zero =>
          intro j hj
          obtain rfl : j = i := by omega
          refine g_cmp hT rfl (fun cq => ?_) (fun cq => ?_)
          · refine v_p hT rfl rfl ?_
            refine v_getr hT rfl rfl (by omega) rfl ?_
            refine v_p hT rfl rfl ?_
            refine v_ald hT rfl (by first | assumption | rfl) (by omega) (by decide) (by omega) ?_
            rw [h7]
            refine v_cv (ih (j + 1) (by omega)) ⟨rfl, rfl, rfl, ?_, trivial⟩ ?_ rfl
            · rw [nI_add]
            · rw [nI_add]
          · exact absurd ((cj_ge (by omega) (by omega)).mpr (by omega)) cq
        | succ e ih2 =>
          intro j hj
          have nxt : ∀ v2 : Bool, v2 = plJ B x i (plI B x i) (j + 1) → Run n_X7_isPlain 110 21 [some (.ref 98), some (.int (nI x)), some (.int (bI v2)), some (.int (nI i)), some (.int (nI j + nI 1))] [.int (nI i), .int (nI j + nI 1)] (HH n kf f) (Ret (some (.int (bI (plI B x (bNt B))))) (HH n kf f)) := by
            intro v2 e2
            subst e2
            rw [nI_add]
            exact ih2 (j + 1) (by omega)
          have hst : plJ B x i (plI B x i) (j + 1) = (plJ B x i (plI B x i) j && (!(x.testBit i) || !(x.testBit j) || !(crossB B i j))) := rfl
          refine g_cmp hT rfl (fun cq => ?_) (fun cq => ?_)
          · exact absurd ((cj_ge (by omega) (by omega)).mp cq) (by omega)
          · refine v_p hT rfl rfl ?_
            refine g_if hT rfl (fun cq2 => ?_) (fun cq2 => ?_)
            · have hv := bf_of cq2
              refine v_p hT rfl rfl ?_
              exact nxt false (by rw [hst, hv]; rfl)
            · have hv := bt_of cq2
              refine v_p hT rfl rfl ?_
              refine g_if hT rfl (fun cq3 => ?_) (fun cq3 => ?_)
              · have cq3 := (tb_z (by omega) (by omega)).mp cq3
                have b1 : x.testBit i = false := by cases hz : x.testBit i with
                  | false => rfl
                  | true => exact absurd hz cq3
                refine v_p hT rfl rfl ?_
                exact nxt true (by rw [hst, hv, b1]; rfl)
              · have b1 : x.testBit i = true := Classical.byContradiction (fun z => cq3 ((tb_z (by omega) (by omega)).mpr z))
                refine v_p hT rfl rfl ?_
                refine g_if hT rfl (fun cq4 => ?_) (fun cq4 => ?_)
                · have cq4 := (tb_z (by omega) (by omega)).mp cq4
                  have b2 : x.testBit j = false := by cases hz : x.testBit j with
                    | false => rfl
                    | true => exact absurd hz cq4
                  refine v_p hT rfl rfl ?_
                  exact nxt true (by rw [hst, hv, b1, b2]; rfl)
                · have b2 : x.testBit j = true := Classical.byContradiction (fun z => cq4 ((tb_z (by omega) (by omega)).mpr z))
                  refine v_p hT rfl rfl ?_
                  refine v_call hT [.int (nI i), .int (nI j)] rfl rfl (by first | rfl | assumption) (by omega) rfl rfl (Nat.le_of_ble_eq_true rfl) (Nat.le_of_ble_eq_true rfl) (m_areCrossing hR hV (by omega) (by omega)) ?_
                  refine g_if hT rfl (fun cq5 => ?_) (fun cq5 => ?_)
                  · have hc : crossB B i j = true := bt_of (fun z => cq5 z)
                    refine v_p hT rfl rfl ?_
                    exact nxt false (by rw [hst, hv, b1, b2, hc]; rfl)
                  · have hc : crossB B i j = false := bf_of (Classical.byContradiction (fun z => cq5 z))
                    refine v_p hT rfl rfl ?_
                    exact nxt true (by rw [hst, hv, b1, b2, hc]; rfl)
      refine g_cmp hT rfl (fun cq => ?_) (fun cq => ?_)
      · exact absurd ((cj_ge (by omega) (by omega)).mp cq) (by omega)
      · refine v_p hT rfl rfl ?_
        exact inner i 0 (by omega)
  refine v_p hT rfl rfl ?_
  refine v_getr hT rfl rfl (by omega) rfl ?_
  refine v_p hT rfl rfl ?_
  refine v_ald hT rfl (by first | assumption | rfl) (by omega) (by decide) (by omega) ?_
  rw [h7]
  exact loop (bNt B) 0 (by omega)
theorem m_weightW {n x : Nat} {kf : Nat → Nat} {f : Nat → Nat → Int32} {B : BK} (hR : nowR (f 100) B) (hV : VB0 B) (hx : x < 1024) :
    Run n_X7_weightOf 110 0 (ini n_X7_weightOf [.ref 98, .int (nI x), .int (nI 0)]) [] (HH n kf f) (Ret (some (.int (nI (wtF B x (bNt B))))) (HH n kf f)) := by
  have hT : mT n_X7_weightOf = tb_X7_weightOf := rfl
  have h10 := hV.2.2.2.2.1
  have h7 : f 100 7 = nI (bNt B) := hR.2.2.2.1
  have loop : ∀ d i, i + d = bNt B → Run n_X7_weightOf 110 14 [some (.ref 98), some (.int (nI x)), some (.int (nI 0)), some (.int (nI (wtF B x i))), some (.int (nI i))] [.int (nI (bNt B)), .int (nI i)] (HH n kf f) (Ret (some (.int (nI (wtF B x (bNt B))))) (HH n kf f)) := by
    intro d
    induction d with
    | zero =>
      intro i hi
      obtain rfl : i = bNt B := by omega
      refine g_cmp hT rfl (fun cq => ?_) (fun cq => ?_)
      · refine v_p hT rfl rfl ?_
        refine v_ret hT rfl (fun z => by cases z) rfl ⟨rfl, rfl⟩
      · exact absurd ((cj_ge (by omega) (by omega)).mpr (by omega)) cq
    | succ d ih =>
      intro i hi
      have ti := hR.2.2.2.2.2 i (by omega)
      have ih' := ih (i + 1) (by omega)
      refine g_cmp hT rfl (fun cq => ?_) (fun cq => ?_)
      · exact absurd ((cj_ge (by omega) (by omega)).mp cq) (by omega)
      · refine v_p hT rfl rfl ?_
        refine g_if hT rfl (fun cq2 => ?_) (fun cq2 => ?_)
        · have cq2 := (tb_nz (by omega) (by omega)).mp cq2
          rw [show wtF B x (i + 1) = wtF B x i + bTi B 2 i by show wtF B x i + _ = _; rw [if_pos cq2]] at ih'
          refine v_p hT rfl rfl ?_
          refine g_if hT rfl (fun cq3 => ?_) (fun cq3 => ?_)
          · refine v_p hT rfl rfl ?_
            refine v_call hT [.int (nI i), .int (nI 2)] rfl rfl (by first | rfl | assumption) (by omega) rfl rfl (Nat.le_of_ble_eq_true rfl) (Nat.le_of_ble_eq_true rfl) (m_ofTie (by omega) (by omega)) ?_
            rw [ti 2 (by omega)]
            refine v_p hT rfl rfl ?_
            refine v_getr hT rfl rfl (by omega) rfl ?_
            refine v_p hT rfl rfl ?_
            refine v_ald hT rfl (by first | assumption | rfl) (by omega) (by decide) (by omega) ?_
            rw [h7]
            refine v_cv ih' ⟨rfl, rfl, rfl, ?_, ?_, trivial⟩ ?_ rfl
            · rw [nI_add]
            · rw [nI_add]
            · rw [nI_add]
          · exact absurd rfl cq3
        · have cq2 := (not_congr (tb_nz (by omega) (by omega))).mp cq2
          rw [show wtF B x (i + 1) = wtF B x i + 0 by show wtF B x i + _ = _; rw [if_neg cq2]] at ih'
          refine v_p hT rfl rfl ?_
          refine v_getr hT rfl rfl (by omega) rfl ?_
          refine v_p hT rfl rfl ?_
          refine v_ald hT rfl (by first | assumption | rfl) (by omega) (by decide) (by omega) ?_
          rw [h7]
          refine v_cv ih' ⟨rfl, rfl, rfl, ?_, ?_, trivial⟩ ?_ rfl
          · rw [nI_add]
          · rw [nI_add]
          · rw [nI_add]
  refine v_p hT rfl rfl ?_
  refine v_getr hT rfl rfl (by omega) rfl ?_
  refine v_p hT rfl rfl ?_
  refine v_ald hT rfl (by first | assumption | rfl) (by omega) (by decide) (by omega) ?_
  rw [h7]
  exact loop (bNt B) 0 (by omega)
theorem m_weightC {n x : Nat} {kf : Nat → Nat} {f : Nat → Nat → Int32} {B : BK} (hR : nowR (f 100) B) (hV : VB0 B) (hx : x < 1024) :
    Run n_X7_weightOf 110 0 (ini n_X7_weightOf [.ref 98, .int (nI x), .int (nI 1)]) [] (HH n kf f) (Ret (some (.int (nI (cnN x (bNt B))))) (HH n kf f)) := by
  have hT : mT n_X7_weightOf = tb_X7_weightOf := rfl
  have h10 := hV.2.2.2.2.1
  have h7 : f 100 7 = nI (bNt B) := hR.2.2.2.1
  have loop : ∀ d i, i + d = bNt B → Run n_X7_weightOf 110 14 [some (.ref 98), some (.int (nI x)), some (.int (nI 1)), some (.int (nI (cnN x i))), some (.int (nI i))] [.int (nI (bNt B)), .int (nI i)] (HH n kf f) (Ret (some (.int (nI (cnN x (bNt B))))) (HH n kf f)) := by
    intro d
    induction d with
    | zero =>
      intro i hi
      obtain rfl : i = bNt B := by omega
      refine g_cmp hT rfl (fun cq => ?_) (fun cq => ?_)
      · refine v_p hT rfl rfl ?_
        refine v_ret hT rfl (fun z => by cases z) rfl ⟨rfl, rfl⟩
      · exact absurd ((cj_ge (by omega) (by omega)).mpr (by omega)) cq
    | succ d ih =>
      intro i hi
      have ih' := ih (i + 1) (by omega)
      refine g_cmp hT rfl (fun cq => ?_) (fun cq => ?_)
      · exact absurd ((cj_ge (by omega) (by omega)).mp cq) (by omega)
      · refine v_p hT rfl rfl ?_
        refine g_if hT rfl (fun cq2 => ?_) (fun cq2 => ?_)
        · have cq2 := (tb_nz (by omega) (by omega)).mp cq2
          rw [show cnN x (i + 1) = cnN x i + 1 by show cnN x i + _ = _; rw [if_pos cq2]] at ih'
          refine v_p hT rfl rfl ?_
          refine g_if hT rfl (fun cq3 => ?_) (fun cq3 => ?_)
          · exact absurd cq3 (show ¬ nI 1 = 0 by decide)
          · refine v_p hT rfl rfl ?_
            refine v_getr hT rfl rfl (by omega) rfl ?_
            refine v_p hT rfl rfl ?_
            refine v_ald hT rfl (by first | assumption | rfl) (by omega) (by decide) (by omega) ?_
            rw [h7]
            refine v_cv ih' ⟨rfl, rfl, rfl, ?_, ?_, trivial⟩ ?_ rfl
            · rw [nI_add]
            · rw [nI_add]
            · rw [nI_add]
        · have cq2 := (not_congr (tb_nz (by omega) (by omega))).mp cq2
          rw [show cnN x (i + 1) = cnN x i + 0 by show cnN x i + _ = _; rw [if_neg cq2]] at ih'
          refine v_p hT rfl rfl ?_
          refine v_getr hT rfl rfl (by omega) rfl ?_
          refine v_p hT rfl rfl ?_
          refine v_ald hT rfl (by first | assumption | rfl) (by omega) (by decide) (by omega) ?_
          rw [h7]
          refine v_cv ih' ⟨rfl, rfl, rfl, ?_, ?_, trivial⟩ ?_ rfl
          · rw [nI_add]
          · rw [nI_add]
          · rw [nI_add]
  refine v_p hT rfl rfl ?_
  refine v_getr hT rfl rfl (by omega) rfl ?_
  refine v_p hT rfl rfl ?_
  refine v_ald hT rfl (by first | assumption | rfl) (by omega) (by decide) (by omega) ?_
  rw [h7]
  exact loop (bNt B) 0 (by omega)
theorem m_findsKept {n : Nat} {kf : Nat → Nat} {f : Nat → Nat → Int32} {B : BK} (hR : nowR (f 100) B) (hV : VB0 B) :
    ∃ F, Run n_X7_findsKept 110 0 (ini n_X7_findsKept [.ref 98]) [] (HH n kf f) (Ret none (HH n kf F)) ∧ F 98 6 = nI (keptF B) ∧ (∀ i, i ≠ 6 → F 98 i = f 98 i) ∧ ∀ c, c ≠ 98 → F c = f c := by
  have hT : mT n_X7_findsKept = tb_X7_findsKept := rfl
  have h10 := hV.2.2.2.2.1
  have hw : ∀ i, i < bNt B → bTi B 2 i ≤ 9 := fun i hi => (hV.2.2.2.2.2 i hi).2.2.2
  have hpw : 2 ^ bNt B ≤ 1024 := Nat.pow_le_pow_right (n := 2) (by omega) h10
  have hp1 : 1 ≤ 2 ^ bNt B := Nat.one_le_two_pow
  have hcn : ∀ y, y < 2 ^ bNt B → cnN y 10 = cnN y (bNt B) := fun y hy => by
    have := cnN_ext hy (10 - bNt B)
    rw [show bNt B + (10 - bNt B) = 10 by omega] at this
    exact this
  have loop : ∀ d x : Nat, x + 1 + d = 2 ^ bNt B → ∀ F : Nat → Nat → Int32, F 98 6 = nI (kpS B x) → (∀ i, i ≠ 6 → F 98 i = f 98 i) → (∀ c, c ≠ 98 → F c = f c) →
      ∃ F2, Run n_X7_findsKept 110 17 [some (.ref 98), some (.int (nI (x + 1))), none, none] [.int (nI (2 ^ bNt B)), .int (nI (x + 1))] (HH n kf F) (Ret none (HH n kf F2)) ∧ F2 98 6 = nI (keptF B) ∧ (∀ i, i ≠ 6 → F2 98 i = f 98 i) ∧ ∀ c, c ≠ 98 → F2 c = f c := by
    intro d
    induction d with
    | zero =>
      intro x hx F h6 hi hc
      refine ⟨F, ?_, ?_, hi, hc⟩
      · refine g_cmp hT rfl (fun cq => ?_) (fun cq => ?_)
        · refine v_vret hT rfl rfl ⟨rfl, rfl⟩
        · exact absurd ((cj_ge (by omega) (by omega)).mpr (by omega)) cq
      · rw [h6]; unfold keptF; rw [show 2 ^ bNt B - 1 = x by omega]
    | succ d ih =>
      intro x hx F h6 hi hc
      have hRF : nowR (F 100) B := by rw [hc 100 (by omega)]; exact hR
      have h7 : F 100 7 = nI (bNt B) := hRF.2.2.2.1
      have hk := kpS_le B x
      have w1 := wtF_le hw (x + 1) (bNt B) (Nat.le_refl _)
      have w2 := wtF_le hw (kpS B x) (bNt B) (Nat.le_refl _)
      have c1 := cnN_le (x + 1) (bNt B)
      have c2 := cnN_le (kpS B x) (bNt B)
      have hc1 := hcn (x + 1) (by omega)
      have hc2 := hcn (kpS B x) (by omega)
      have fin : ∀ (G : Nat → Nat → Int32) (F2 : Nat → Nat → Int32) (m2 a2 : Int32), (∀ c, c ≠ 98 → G c = f c) → Run n_X7_findsKept 110 17 [some (.ref 98), some (.int (nI (x + 1 + 1))), none, none] [.int (nI (2 ^ bNt B)), .int (nI (x + 1 + 1))] (HH n kf G) (Ret none (HH n kf F2)) → Run n_X7_findsKept 110 86 [some (.ref 98), some (.int (nI (x + 1))), some (.int m2), some (.int a2)] [] (HH n kf G) (Ret none (HH n kf F2)) := by
        intro G F2 m2 a2 hG hr
        refine v_p hT rfl rfl ?_
        refine v_getr hT rfl rfl (by omega) rfl ?_
        refine v_p hT rfl rfl ?_
        refine v_ald hT rfl (by first | assumption | rfl) (by omega) (by decide) (by omega) ?_
        rw [hG 100 (by omega), hR.2.2.2.1]
        refine v_p hT rfl rfl ?_
        rw [pow_at (by omega)]
        refine v_cv hr ⟨rfl, ?_, trivial⟩ ?_ rfl
        · rw [nI_add]
        · rw [nI_add]
      by_cases hah : wtF B (kpS B x) (bNt B) < wtF B (x + 1) (bNt B) ∨ (wtF B (kpS B x) (bNt B) = wtF B (x + 1) (bNt B) ∧ cnN (kpS B x) 10 < cnN (x + 1) 10)
      · by_cases hok : okS B (x + 1)
        · have e : kpS B (x + 1) = x + 1 := by
            show (bif _ then _ else _) = _
            rw [pB_t ⟨hok, hah⟩]
            rfl
          obtain ⟨F2, g1, g2⟩ := ih (x + 1) (by omega) (hset F 98 6 (nI (x + 1))) (by rw [hs_s, e]; exact pk_us) (fun i hi6 => by rw [hs_s, pk_un hi6]; exact hi i hi6) (fun c hc8 => by rw [hset_ne hc8]; exact hc c hc8)
          refine ⟨F2, ?_, g2⟩
          have tail : ∀ m2 : Int32, Run n_X7_findsKept 110 70 [some (.ref 98), some (.int (nI (x + 1))), some (.int m2), some (.int (nI 1))] [.int (nI 1)] (HH n kf F) (Ret none (HH n kf F2)) := by
            intro m2
            refine g_if hT rfl (fun cq6 => ?_) (fun cq6 => ?_)
            · exact absurd cq6 (show ¬ nI 1 = 0 by decide)
            · refine v_p hT rfl rfl ?_
              refine v_call hT [.int (nI (x + 1))] rfl rfl (by first | rfl | assumption) (by omega) rfl rfl (Nat.le_of_ble_eq_true rfl) (Nat.le_of_ble_eq_true rfl) (m_isPlain hRF hV (by omega)) ?_
              refine g_if hT rfl (fun cq7 => ?_) (fun cq7 => ?_)
              · have := bf_of cq7
                rw [(plI_ok B (x + 1)).mpr hok] at this
                cases this
              · refine v_p hT rfl rfl ?_
                refine v_puti hT rfl rfl (by omega) (fun z => by cases z) ?_
                exact fin _ F2 m2 _ (fun c hc8 => by rw [hset_ne hc8]; exact hc c hc8) g1
          refine g_cmp hT rfl (fun cq => ?_) (fun cq => ?_)
          · exact absurd ((cj_ge (by omega) (by omega)).mp cq) (by omega)
          · refine v_p hT rfl rfl ?_
            refine v_call hT [.int (nI (x + 1)), .int (nI 0)] rfl rfl (by first | rfl | assumption) (by omega) rfl rfl (Nat.le_of_ble_eq_true rfl) (Nat.le_of_ble_eq_true rfl) (m_weightW hRF hV (by omega)) ?_
            refine v_p hT rfl rfl ?_
            refine v_geti hT rfl (by first | rfl | assumption) (by omega) ?_
            rw [h6]
            refine v_p hT rfl rfl ?_
            refine v_call hT [.int (nI (kpS B x)), .int (nI 0)] rfl rfl (by first | rfl | assumption) (by omega) rfl rfl (Nat.le_of_ble_eq_true rfl) (Nat.le_of_ble_eq_true rfl) (m_weightW hRF hV (by omega)) ?_
            refine v_p hT rfl rfl ?_
            refine g_if hT rfl (fun cq2 => ?_) (fun cq2 => ?_)
            · refine v_p hT rfl rfl ?_
              exact tail _
            · have cq2 := (not_congr (sb_gt (by omega) (by omega))).mp cq2
              refine v_p hT rfl rfl ?_
              refine g_if hT rfl (fun cq3 => ?_) (fun cq3 => ?_)
              · have cq3 := (sb_ne (by omega) (by omega)).mp cq3
                omega
              · refine v_p hT rfl rfl ?_
                refine v_call hT [.int (nI (x + 1)), .int (nI 1)] rfl rfl (by first | rfl | assumption) (by omega) rfl rfl (Nat.le_of_ble_eq_true rfl) (Nat.le_of_ble_eq_true rfl) (m_weightC hRF hV (by omega)) ?_
                refine v_p hT rfl rfl ?_
                refine v_geti hT rfl (by first | rfl | assumption) (by omega) ?_
                rw [h6]
                refine v_p hT rfl rfl ?_
                refine v_call hT [.int (nI (kpS B x)), .int (nI 1)] rfl rfl (by first | rfl | assumption) (by omega) rfl rfl (Nat.le_of_ble_eq_true rfl) (Nat.le_of_ble_eq_true rfl) (m_weightC hRF hV (by omega)) ?_
                refine g_cmp hT rfl (fun cq4 => ?_) (fun cq4 => ?_)
                · have cq4 := (cj_le (by omega) (by omega)).mp cq4
                  omega
                · refine v_p hT rfl rfl ?_
                  exact tail _
        · have e : kpS B (x + 1) = kpS B x := by
            show (bif _ then _ else _) = _
            rw [pB_f (fun z => hok z.1)]
            rfl
          obtain ⟨F2, g1, g2⟩ := ih (x + 1) (by omega) F (by rw [e]; exact h6) hi hc
          refine ⟨F2, ?_, g2⟩
          have tail : ∀ m2 : Int32, Run n_X7_findsKept 110 70 [some (.ref 98), some (.int (nI (x + 1))), some (.int m2), some (.int (nI 1))] [.int (nI 1)] (HH n kf F) (Ret none (HH n kf F2)) := by
            intro m2
            refine g_if hT rfl (fun cq6 => ?_) (fun cq6 => ?_)
            · exact absurd cq6 (show ¬ nI 1 = 0 by decide)
            · refine v_p hT rfl rfl ?_
              refine v_call hT [.int (nI (x + 1))] rfl rfl (by first | rfl | assumption) (by omega) rfl rfl (Nat.le_of_ble_eq_true rfl) (Nat.le_of_ble_eq_true rfl) (m_isPlain hRF hV (by omega)) ?_
              refine g_if hT rfl (fun cq7 => ?_) (fun cq7 => ?_)
              · exact fin _ F2 m2 _ hc g1
              · exact absurd ((plI_ok B (x + 1)).mp (bt_of cq7)) hok
          refine g_cmp hT rfl (fun cq => ?_) (fun cq => ?_)
          · exact absurd ((cj_ge (by omega) (by omega)).mp cq) (by omega)
          · refine v_p hT rfl rfl ?_
            refine v_call hT [.int (nI (x + 1)), .int (nI 0)] rfl rfl (by first | rfl | assumption) (by omega) rfl rfl (Nat.le_of_ble_eq_true rfl) (Nat.le_of_ble_eq_true rfl) (m_weightW hRF hV (by omega)) ?_
            refine v_p hT rfl rfl ?_
            refine v_geti hT rfl (by first | rfl | assumption) (by omega) ?_
            rw [h6]
            refine v_p hT rfl rfl ?_
            refine v_call hT [.int (nI (kpS B x)), .int (nI 0)] rfl rfl (by first | rfl | assumption) (by omega) rfl rfl (Nat.le_of_ble_eq_true rfl) (Nat.le_of_ble_eq_true rfl) (m_weightW hRF hV (by omega)) ?_
            refine v_p hT rfl rfl ?_
            refine g_if hT rfl (fun cq2 => ?_) (fun cq2 => ?_)
            · refine v_p hT rfl rfl ?_
              exact tail _
            · have cq2 := (not_congr (sb_gt (by omega) (by omega))).mp cq2
              refine v_p hT rfl rfl ?_
              refine g_if hT rfl (fun cq3 => ?_) (fun cq3 => ?_)
              · have cq3 := (sb_ne (by omega) (by omega)).mp cq3
                omega
              · refine v_p hT rfl rfl ?_
                refine v_call hT [.int (nI (x + 1)), .int (nI 1)] rfl rfl (by first | rfl | assumption) (by omega) rfl rfl (Nat.le_of_ble_eq_true rfl) (Nat.le_of_ble_eq_true rfl) (m_weightC hRF hV (by omega)) ?_
                refine v_p hT rfl rfl ?_
                refine v_geti hT rfl (by first | rfl | assumption) (by omega) ?_
                rw [h6]
                refine v_p hT rfl rfl ?_
                refine v_call hT [.int (nI (kpS B x)), .int (nI 1)] rfl rfl (by first | rfl | assumption) (by omega) rfl rfl (Nat.le_of_ble_eq_true rfl) (Nat.le_of_ble_eq_true rfl) (m_weightC hRF hV (by omega)) ?_
                refine g_cmp hT rfl (fun cq4 => ?_) (fun cq4 => ?_)
                · have cq4 := (cj_le (by omega) (by omega)).mp cq4
                  omega
                · refine v_p hT rfl rfl ?_
                  exact tail _
      · have e : kpS B (x + 1) = kpS B x := by
          show (bif _ then _ else _) = _
          rw [pB_f (fun z => hah z.2)]
          rfl
        obtain ⟨F2, g1, g2⟩ := ih (x + 1) (by omega) F (by rw [e]; exact h6) hi hc
        refine ⟨F2, ?_, g2⟩
        have tail : ∀ m2 : Int32, Run n_X7_findsKept 110 70 [some (.ref 98), some (.int (nI (x + 1))), some (.int m2), some (.int (nI 0))] [.int (nI 0)] (HH n kf F) (Ret none (HH n kf F2)) := by
          intro m2
          refine g_if hT rfl (fun cq6 => ?_) (fun cq6 => ?_)
          · exact fin _ F2 m2 _ hc g1
          · exact absurd rfl cq6
        refine g_cmp hT rfl (fun cq => ?_) (fun cq => ?_)
        · exact absurd ((cj_ge (by omega) (by omega)).mp cq) (by omega)
        · refine v_p hT rfl rfl ?_
          refine v_call hT [.int (nI (x + 1)), .int (nI 0)] rfl rfl (by first | rfl | assumption) (by omega) rfl rfl (Nat.le_of_ble_eq_true rfl) (Nat.le_of_ble_eq_true rfl) (m_weightW hRF hV (by omega)) ?_
          refine v_p hT rfl rfl ?_
          refine v_geti hT rfl (by first | rfl | assumption) (by omega) ?_
          rw [h6]
          refine v_p hT rfl rfl ?_
          refine v_call hT [.int (nI (kpS B x)), .int (nI 0)] rfl rfl (by first | rfl | assumption) (by omega) rfl rfl (Nat.le_of_ble_eq_true rfl) (Nat.le_of_ble_eq_true rfl) (m_weightW hRF hV (by omega)) ?_
          refine v_p hT rfl rfl ?_
          refine g_if hT rfl (fun cq2 => ?_) (fun cq2 => ?_)
          · have cq2 := (sb_gt (by omega) (by omega)).mp cq2
            exact absurd (Or.inl cq2) hah
          · have cq2 := (not_congr (sb_gt (by omega) (by omega))).mp cq2
            refine v_p hT rfl rfl ?_
            refine g_if hT rfl (fun cq3 => ?_) (fun cq3 => ?_)
            · refine v_p hT rfl rfl ?_
              exact tail _
            · have cq3 := Classical.byContradiction (fun z => cq3 ((sb_ne (by omega) (by omega)).mpr z))
              refine v_p hT rfl rfl ?_
              refine v_call hT [.int (nI (x + 1)), .int (nI 1)] rfl rfl (by first | rfl | assumption) (by omega) rfl rfl (Nat.le_of_ble_eq_true rfl) (Nat.le_of_ble_eq_true rfl) (m_weightC hRF hV (by omega)) ?_
              refine v_p hT rfl rfl ?_
              refine v_geti hT rfl (by first | rfl | assumption) (by omega) ?_
              rw [h6]
              refine v_p hT rfl rfl ?_
              refine v_call hT [.int (nI (kpS B x)), .int (nI 1)] rfl rfl (by first | rfl | assumption) (by omega) rfl rfl (Nat.le_of_ble_eq_true rfl) (Nat.le_of_ble_eq_true rfl) (m_weightC hRF hV (by omega)) ?_
              refine g_cmp hT rfl (fun cq4 => ?_) (fun cq4 => ?_)
              · refine v_p hT rfl rfl ?_
                exact tail _
              · have cq4 := (not_congr (cj_le (by omega) (by omega))).mp cq4
                exact absurd (Or.inr ⟨cq3.symm, by omega⟩) hah
  obtain ⟨F2, g1, g2⟩ := loop (2 ^ bNt B - 1) 0 (by omega) (hset f 98 6 (nI 0)) (by rw [hs_s]; exact pk_us) (fun i hi6 => by rw [hs_s, pk_un hi6]) (fun c hc8 => hset_ne hc8)
  refine ⟨F2, ?_, g2⟩
  refine v_p hT rfl rfl ?_
  refine v_puti hT rfl rfl (by omega) (fun z => by cases z) ?_
  refine v_p hT rfl rfl ?_
  refine v_getr hT rfl rfl (by omega) rfl ?_
  refine v_p hT rfl rfl ?_
  refine v_ald hT rfl (by first | assumption | rfl) (by omega) (by decide) (by omega) ?_
  rw [hset_ne (by omega), hR.2.2.2.1]
  refine v_p hT rfl rfl ?_
  rw [pow_at (by omega)]
  exact g1
