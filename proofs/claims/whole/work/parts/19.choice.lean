/-! THE CLASS: crossing ties, the kept ones. -/
theorem s_cross {b n i j : Nat} {kf : Nat → Nat} {f : Nat → Nat → Int32} {B : BK} (hb : isBk b) (hR : bkR f b B) (hok : tsOk (bT B)) (hi : i < bNt B) (hj : j < bNt B) :
    Run n_X0_cross 110 0 (ini n_X0_cross [.ref b, .int (nI i), .int (nI j)]) [] (HH n kf f) (Ret (some (.int (bI (crossB B i j)))) (HH n kf f)) := by
  have hT : mT n_X0_cross = tb_X0_cross := rfl
  obtain ⟨k0, k1, k2, k3, k4, k5, k6, k7, k8⟩ := bk_kd hb
  have hlt := bk_lt hb
  have h10 : bNt B ≤ 10 := hok.1
  have a1 := hR.2.2.2.2.2 i hi
  have a2 := hR.2.2.2.2.2 j hj
  have b1 : bTi B 0 i < 100 := hok.2 0 i (by omega) hi
  have b2 : bTi B 1 i < 100 := hok.2 1 i (by omega) hi
  have b3 : bTi B 0 j < 100 := hok.2 0 j (by omega) hj
  have b4 : bTi B 1 j < 100 := hok.2 1 j (by omega) hj
  have second : ¬ (bTi B 0 i < bTi B 0 j ∧ bTi B 1 j < bTi B 1 i) → Run n_X0_cross 110 30 (ini n_X0_cross [.ref b, .int (nI i), .int (nI j)]) [] (HH n kf f) (Ret (some (.int (bI (crossB B i j)))) (HH n kf f)) := by
    intro hno
    repeat (first | refine v_p hT rfl rfl ?_ | refine v_getr hT rfl rfl (by omega) rfl ?_ | refine v_getr hT rfl k0 (by omega) (bk_rr hb _ _ _ (by decide)) ?_ | refine v_geti hT rfl (by first | rfl | assumption) (by omega) ?_ | refine v_ald hT rfl (by first | assumption | rfl) (by omega) (by decide) (by omega) ?_ | simp only [nI_add, pk_mul, a1.1, a2.1])
    refine g_cmp hT rfl (fun q1 => ?_) (fun q1 => ?_)
    · have q1 := (cj_le (by omega) (by omega)).mp q1
      refine v_p hT rfl rfl ?_
      refine v_ret hT rfl (fun _ => Or.inl rfl) rfl ⟨?_, rfl⟩
      unfold crossB
      rw [decide_eq_false (by omega)]
      rfl
    · have q1 := (not_congr (cj_le (by omega) (by omega))).mp q1
      repeat (first | refine v_p hT rfl rfl ?_ | refine v_getr hT rfl rfl (by omega) rfl ?_ | refine v_getr hT rfl k0 (by omega) (bk_rr hb _ _ _ (by decide)) ?_ | refine v_geti hT rfl (by first | rfl | assumption) (by omega) ?_ | refine v_ald hT rfl (by first | assumption | rfl) (by omega) (by decide) (by omega) ?_ | simp only [nI_add, pk_mul, a1.2.1, a2.2.1])
      refine g_cmp hT rfl (fun q2 => ?_) (fun q2 => ?_)
      · have q2 := (cj_ge (by omega) (by omega)).mp q2
        refine v_p hT rfl rfl ?_
        refine v_ret hT rfl (fun _ => Or.inl rfl) rfl ⟨?_, rfl⟩
        unfold crossB
        rw [decide_eq_false (by omega)]
        rfl
      · have q2 := (not_congr (cj_ge (by omega) (by omega))).mp q2
        refine v_p hT rfl rfl ?_
        refine v_ret hT rfl (fun _ => Or.inr rfl) rfl ⟨?_, rfl⟩
        unfold crossB
        rw [decide_eq_true (by omega)]
        rfl
  repeat (first | refine v_p hT rfl rfl ?_ | refine v_getr hT rfl rfl (by omega) rfl ?_ | refine v_getr hT rfl k0 (by omega) (bk_rr hb _ _ _ (by decide)) ?_ | refine v_geti hT rfl (by first | rfl | assumption) (by omega) ?_ | refine v_ald hT rfl (by first | assumption | rfl) (by omega) (by decide) (by omega) ?_ | simp only [nI_add, pk_mul, a1.1, a2.1])
  refine g_cmp hT rfl (fun q1 => ?_) (fun q1 => ?_)
  · have q1 := (cj_ge (by omega) (by omega)).mp q1
    exact second (by omega)
  · have q1 := (not_congr (cj_ge (by omega) (by omega))).mp q1
    repeat (first | refine v_p hT rfl rfl ?_ | refine v_getr hT rfl rfl (by omega) rfl ?_ | refine v_getr hT rfl k0 (by omega) (bk_rr hb _ _ _ (by decide)) ?_ | refine v_geti hT rfl (by first | rfl | assumption) (by omega) ?_ | refine v_ald hT rfl (by first | assumption | rfl) (by omega) (by decide) (by omega) ?_ | simp only [nI_add, pk_mul, a1.2.1, a2.2.1])
    refine g_cmp hT rfl (fun q2 => ?_) (fun q2 => ?_)
    · have q2 := (cj_gt (by omega) (by omega)).mp q2
      refine v_p hT rfl rfl ?_
      refine v_ret hT rfl (fun _ => Or.inr rfl) rfl ⟨?_, rfl⟩
      unfold crossB
      rw [decide_eq_true (by omega)]
      rfl
    · have q2 := (not_congr (cj_gt (by omega) (by omega))).mp q2
      exact second (by omega)
theorem bkR_fr {f F : Nat → Nat → Int32} {b : Nat} {B : BK} (hR : bkR f b B) (hF : ∀ c, b ≤ c → c ≤ b + 8 → F c = f c) : bkR F b B := by
  obtain ⟨h1, h2, h3, h4, h5, h6⟩ := hR
  have e : ∀ i, i ≤ 8 → F (b + i) = f (b + i) := fun i hi => hF _ (by omega) (by omega)
  refine ⟨fun z hz => by rw [e 1 (by omega)]; exact h1 z hz, fun z q hz hq => by rw [e 2 (by omega), e 3 (by omega)]; exact h2 z q hz hq, fun z hz => by rw [e 4 (by omega)]; exact h3 z hz, fun i hi3 => by rw [e 5 (by omega)]; exact h4 i hi3, by have := e 0 (by omega); rw [show F b = f b from this]; exact h5, fun j hj => by rw [e 6 (by omega), e 7 (by omega), e 8 (by omega)]; exact h6 j hj⟩
theorem bk_lo {b : Nat} (hb : isBk b) : b + 8 < 75 := by
  rcases hb with rfl | rfl | rfl | rfl | rfl | rfl | rfl | rfl <;> omega
/-! bits -/
theorem sh_c : ∀ n, n < 32 → ((nI n &&& 31).toBitVec.smod 32).toNat = n := by decide +kernel
theorem bit_at {x i : Nat} (hx : x < 2 ^ 31) (hi : i < 32) : (nI x >>> (nI i &&& 31)) &&& nI 1 = nI (x / 2 ^ i % 2) := by
  rw [pk_shrN hx _ i (sh_c i hi)]
  have h1 : x / 2 ^ i < 2 ^ 32 := Nat.lt_of_le_of_lt (Nat.div_le_self _ _) (by omega)
  exact pk_andN h1 (m := nI 1) 1 (by decide)
theorem pow_at {i : Nat} (hi : i < 31) : nI 1 <<< (nI i &&& 31) = nI (2 ^ i) := by
  have h2 : 2 ^ i < 2 ^ 31 := Nat.pow_lt_pow_right (by omega) hi
  have := pk_shlN (n := 1) (nI i &&& 31) i (sh_c i (by omega)) (by omega)
  rw [this, Nat.one_mul]
theorem nI_or (a b : Nat) : nI a ||| nI b = nI (a ||| b) := by
  unfold nI
  apply Int32.toBitVec_inj.mp
  rw [Int32.toBitVec_or]
  show BitVec.ofNat 32 a ||| BitVec.ofNat 32 b = BitVec.ofNat 32 (a ||| b)
  exact (BitVec.ofNat_or).symm
theorem nI_and (a b : Nat) : nI a &&& nI b = nI (a &&& b) := by
  unfold nI
  apply Int32.toBitVec_inj.mp
  rw [Int32.toBitVec_and]
  show BitVec.ofNat 32 a &&& BitVec.ofNat 32 b = BitVec.ofNat 32 (a &&& b)
  exact (BitVec.ofNat_and).symm
theorem tb_dm (x i : Nat) : x.testBit i = decide (x / 2 ^ i % 2 = 1) := Nat.testBit_eq_decide_div_mod_eq
def cnN (x : Nat) : Nat → Nat
  | 0 => 0
  | i + 1 => cnN x i + (if x.testBit i = true then 1 else 0)
theorem cnN_le (x : Nat) : ∀ n, cnN x n ≤ n := by
  intro n
  induction n with
  | zero => exact Nat.le_refl _
  | succ n ih => unfold cnN; split <;> omega
theorem cnN_ext {x n : Nat} (hx : x < 2 ^ n) : ∀ d, cnN x (n + d) = cnN x n := by
  intro d
  induction d with
  | zero => rfl
  | succ d ih =>
    show cnN x (n + d) + (if x.testBit (n + d) = true then 1 else 0) = _
    have h2 : x < 2 ^ (n + d) := Nat.lt_of_lt_of_le hx (Nat.pow_le_pow_right (by omega) (by omega))
    rw [ih, Nat.testBit_lt_two_pow h2]
    rfl
/-- Integer.bitCount -/
def bcI (x : Int32) : Int32 :=
  let a := x - ((x.toUInt32 >>> ((nI 1).toUInt32 &&& Int32.toUInt32 31)).toInt32 &&& nI 1431655765)
  let b := (a &&& nI 858993459) + ((a.toUInt32 >>> ((nI 2).toUInt32 &&& Int32.toUInt32 31)).toInt32 &&& nI 858993459)
  let c := (b + (b.toUInt32 >>> ((nI 4).toUInt32 &&& Int32.toUInt32 31)).toInt32) &&& nI 252645135
  let d := c + (c.toUInt32 >>> ((nI 8).toUInt32 &&& Int32.toUInt32 31)).toInt32
  let e := d + (d.toUInt32 >>> ((nI 16).toUInt32 &&& Int32.toUInt32 31)).toInt32
  e &&& nI 63
theorem s_bitCount (x : Int32) {n : Nat} {kf : Nat → Nat} {f : Nat → Nat → Int32} : Run n_J6_bitCount_0f7a4 110 0 (ini n_J6_bitCount_0f7a4 [.int x]) [] (HH n kf f) (Ret (some (.int (bcI x))) (HH n kf f)) := by
  have hT : mT n_J6_bitCount_0f7a4 = tb_J6_bitCount_0f7a4 := rfl
  refine v_p hT rfl rfl ?_
  refine v_ret hT rfl (fun z => by cases z) rfl ⟨rfl, rfl⟩
set_option maxRecDepth 20000 in
theorem bcI_cn : ∀ x, x < 1024 → bcI (nI x) = nI (cnN x 10) := by decide +kernel
/-- whom a tie crosses, as bits; how many; ends of all -/
def crM (B : BK) (i : Nat) : Nat → Nat
  | 0 => 0
  | j + 1 => crM B i j + (if crossB B i j = true then 2 ^ j else 0)
def rowN (B : BK) (i : Nat) : Nat → Nat
  | 0 => 0
  | j + 1 => rowN B i j + (if crossB B i j = true then 1 else 0)
def endN (B : BK) (n : Nat) : Nat → Nat
  | 0 => 0
  | i + 1 => endN B n i + rowN B i n
theorem crM_lt (B : BK) (i : Nat) : ∀ j, crM B i j < 2 ^ j := by
  intro j
  induction j with
  | zero => exact Nat.one_pos
  | succ j ih =>
    have h1 : 2 ^ (j + 1) = 2 ^ j + 2 ^ j := by rw [Nat.pow_succ]; omega
    show crM B i j + _ < _
    split <;> omega
theorem crM_bit (B : BK) (i : Nat) : ∀ n j, (crM B i n).testBit j = (decide (j < n) && crossB B i j) := by
  intro n
  induction n with
  | zero => intro j; simp [crM]
  | succ n ih =>
    intro j
    have hl := crM_lt B i n
    by_cases hc : crossB B i n = true
    · have e : crM B i (n + 1) = 2 ^ n + crM B i n := by
        show crM B i n + _ = _
        rw [if_pos hc]
        omega
      rw [e]
      by_cases hj : j = n
      · subst hj
        rw [Nat.testBit_two_pow_add_eq, Nat.testBit_lt_two_pow hl, hc]
        simp
      · by_cases hjn : j < n
        · rw [Nat.testBit_two_pow_add_gt hjn, ih]
          simp [hjn, show j < n + 1 by omega]
        · have h3 : 2 ^ n + crM B i n < 2 ^ j := by
            have h4 : 2 ^ (n + 1) ≤ 2 ^ j := Nat.pow_le_pow_right (by omega) (by omega)
            have h5 : 2 ^ (n + 1) = 2 ^ n + 2 ^ n := by rw [Nat.pow_succ]; omega
            omega
          rw [Nat.testBit_lt_two_pow h3]
          simp [show ¬ j < n + 1 by omega]
    · have e : crM B i (n + 1) = crM B i n := by
        show crM B i n + _ = _
        rw [if_neg hc]
        rfl
      rw [e, ih]
      by_cases hj : j = n
      · subst hj
        simp [Bool.not_eq_true _ ▸ hc]
      · by_cases hjn : j < n
        · simp [hjn, show j < n + 1 by omega]
        · simp [hjn, show ¬ j < n + 1 by omega]
theorem crM_cn (B : BK) (i n : Nat) : ∀ m, m ≤ n → cnN (crM B i n) m = rowN B i m := by
  intro m
  induction m with
  | zero => intro _; rfl
  | succ m ih =>
    intro hm
    show cnN _ m + _ = rowN B i m + _
    rw [ih (by omega), crM_bit]
    simp [show m < n by omega]
theorem rowN_le (B : BK) (i : Nat) : ∀ n, rowN B i n ≤ n := by
  intro n
  induction n with
  | zero => exact Nat.le_refl _
  | succ n ih => unfold rowN; split <;> omega
theorem endN_le (B : BK) (n : Nat) : ∀ i, endN B n i ≤ i * n := by
  intro i
  induction i with
  | zero => exact Nat.zero_le _
  | succ i ih =>
    have := rowN_le B i n
    show endN B n i + rowN B i n ≤ (i + 1) * n
    rw [Nat.add_mul]
    omega
theorem s_findCrossed {b n : Nat} {kf : Nat → Nat} {f : Nat → Nat → Int32} {B : BK} (hb : isBk b) (hR : bkR f b B) (hok : tsOk (bT B)) :
    ∃ f2, Run n_X1_findCrossed 110 0 (ini n_X1_findCrossed [.ref 87, .ref b]) [] (HH n kf f) (Ret none (HH n kf f2)) ∧ (∀ i, i < bNt B → f2 88 i = nI (crM B i (bNt B))) ∧ f2 87 = upd (f 87) 1 (nI (endN B (bNt B) (bNt B) / 2)) ∧ ∀ c, c ≠ 87 → c ≠ 88 → f2 c = f c := by
  have hT : mT n_X1_findCrossed = tb_X1_findCrossed := rfl
  obtain ⟨k0, k1, k2, k3, k4, k5, k6, k7, k8⟩ := bk_kd hb
  have hlt := bk_lt hb
  have h10 : bNt B ≤ 10 := hok.1
  have hb88 : ∀ c, b ≤ c → c ≤ b + 8 → c ≠ 88 := by
    intro c h1 h2
    rcases hb with rfl | rfl | rfl | rfl | rfl | rfl | rfl | rfl <;> omega
  have bkr : ∀ F : Nat → Nat → Int32, (∀ c, c ≠ 88 → F c = f c) → bkR F b B := by
    intro F hF
    obtain ⟨h1, h2, h3, h4, h5, h6⟩ := hR
    have e : ∀ i, i ≤ 8 → F (b + i) = f (b + i) := fun i hi => hF _ (hb88 _ (by omega) (by omega))
    refine ⟨fun z hz => by rw [e 1 (by omega)]; exact h1 z hz, fun z q hz hq => by rw [e 2 (by omega), e 3 (by omega)]; exact h2 z q hz hq, fun z hz => by rw [e 4 (by omega)]; exact h3 z hz, fun i hi3 => by rw [e 5 (by omega)]; exact h4 i hi3, by have := e 0 (by omega); rw [show F b = f b from this]; exact h5, fun j hj => by rw [e 6 (by omega), e 7 (by omega), e 8 (by omega)]; exact h6 j hj⟩
  have inner : ∀ (i : Nat), i < bNt B → ∀ (Φ : PT) (F : Nat → Nat → Int32), (∀ c, c ≠ 88 → F c = f c) → Run n_X1_findCrossed 110 63 [some (.ref 87), some (.ref b), some (.int (nI (endN B (bNt B) (i + 1)))), some (.int (nI i)), none] [] (HH n kf (hset F 88 i (nI (crM B i (bNt B))))) Φ →
      ∀ dd j : Nat, j + dd = bNt B → Run n_X1_findCrossed 110 28 [some (.ref 87), some (.ref b), some (.int (nI (endN B (bNt B) i + rowN B i j))), some (.int (nI i)), some (.int (nI j))] [.int (nI (bNt B)), .int (nI j)] (HH n kf (hset F 88 i (nI (crM B i j)))) Φ := by
    intro i hi Φ F hF hΦ dd
    induction dd with
    | zero =>
      intro j hj
      obtain rfl : j = bNt B := by omega
      refine g_cmp hT rfl (fun cq => ?_) (fun cq => ?_)
      · exact v_cv hΦ ⟨rfl, rfl, rfl, rfl, trivial⟩ rfl rfl
      · exact absurd ((cj_ge (by omega) (by omega)).mpr (by omega)) cq
    | succ dd ih =>
      intro j hj
      have hF2 : ∀ c, c ≠ 88 → hset F 88 i (nI (crM B i j)) c = f c := fun c hc => by rw [hset_ne hc]; exact hF c hc
      have hRF := bkr _ hF2
      refine g_cmp hT rfl (fun cq => ?_) (fun cq => ?_)
      · exact absurd ((cj_ge (by omega) (by omega)).mp cq) (by omega)
      · refine v_p hT rfl rfl ?_
        refine v_call hT [.int (nI i), .int (nI j)] rfl rfl (by first | rfl | assumption) (by omega) rfl rfl (Nat.le_of_ble_eq_true rfl) (Nat.le_of_ble_eq_true rfl) (s_cross hb hRF hok hi (show j < bNt B by omega)) ?_
        have hlt2 := crM_lt B i j
        have hpw : 2 ^ j ≤ 2 ^ 9 := Nat.pow_le_pow_right (by omega) (by omega)
        cases hc : crossB B i j with
        | true =>
          refine g_if hT rfl (fun cq2 => ?_) (fun cq2 => ?_)
          · exact absurd (show (1 : Int32) = 0 from cq2) (by decide)
          · refine v_p hT rfl rfl ?_
            refine v_getr hT rfl rfl (by omega) rfl ?_
            refine v_p hT rfl rfl ?_
            refine v_ald hT rfl (by first | assumption | rfl) (by omega) (by decide) (by omega) ?_
            rw [hs_s]
            simp only [upd, if_pos]
            refine v_p hT rfl rfl ?_
            rw [pow_at (by omega), nI_or, show crM B i j ||| 2 ^ j = crM B i (j + 1) by
              rw [Nat.or_comm]
              have := Nat.two_pow_add_eq_or_of_lt hlt2 1
              rw [Nat.mul_one] at this
              rw [← this]
              show _ = crM B i j + _
              rw [if_pos hc]
              omega]
            refine v_ast hT rfl rfl (by omega) (by decide) (by omega) ?_
            rw [hset_hset]
            refine v_p hT rfl rfl ?_
            refine v_geti hT rfl k0 (by omega) ?_
            rw [hset_ne (hb88 b (by omega) (by omega)), hF b (hb88 b (by omega) (by omega)), hR.2.2.2.2.1]
            refine v_cv (ih (j + 1) (by omega)) ⟨rfl, rfl, ?_, rfl, ?_, trivial⟩ ?_ rfl
            · rw [nI_add]; congr 2; show _ + (rowN B i j + _) = _; rw [if_pos hc]; omega
            · rw [nI_add]
            · rw [nI_add]; rfl
        | false =>
          refine g_if hT rfl (fun cq2 => ?_) (fun cq2 => ?_)
          · refine v_p hT rfl rfl ?_
            refine v_geti hT rfl k0 (by omega) ?_
            rw [hset_ne (hb88 b (by omega) (by omega)), hF b (hb88 b (by omega) (by omega)), hR.2.2.2.2.1]
            have e1 : crM B i (j + 1) = crM B i j := by show crM B i j + _ = _; rw [hc]; rfl
            have e2 : rowN B i (j + 1) = rowN B i j := by show rowN B i j + _ = _; rw [hc]; rfl
            have := ih (j + 1) (by omega)
            rw [e1, e2] at this
            refine v_cv this ⟨rfl, rfl, rfl, rfl, ?_, trivial⟩ ?_ rfl
            · rw [nI_add]
            · rw [nI_add]; rfl
          · exact absurd rfl (show ¬ (0 : Int32) = 0 from cq2)
  have outer : ∀ dd i : Nat, i + dd = bNt B → ∀ F : Nat → Nat → Int32, (∀ c, c ≠ 88 → F c = f c) → (∀ k, k < i → F 88 k = nI (crM B k (bNt B))) →
      ∃ f2, Run n_X1_findCrossed 110 9 [some (.ref 87), some (.ref b), some (.int (nI (endN B (bNt B) i))), some (.int (nI i)), none] [.int (nI (bNt B)), .int (nI i)] (HH n kf F) (Ret none (HH n kf f2)) ∧ (∀ i, i < bNt B → f2 88 i = nI (crM B i (bNt B))) ∧ f2 87 = upd (f 87) 1 (nI (endN B (bNt B) (bNt B) / 2)) ∧ ∀ c, c ≠ 87 → c ≠ 88 → f2 c = f c := by
    intro dd
    induction dd with
    | zero =>
      intro i hi F hF hk
      obtain rfl : i = bNt B := by omega
      have he := endN_le B (bNt B) (bNt B)
      have he2 : bNt B * bNt B ≤ 100 := Nat.mul_le_mul h10 h10
      refine ⟨hset F 87 1 (nI (endN B (bNt B) (bNt B) / 2)), ?_, fun k hk2 => ?_, ?_, fun c h1 h2 => ?_⟩
      · refine g_cmp hT rfl (fun cq => ?_) (fun cq => ?_)
        · refine v_p hT rfl rfl ?_
          refine g_divN hT rfl (by omega) (by omega) (by omega) ?_
          refine v_puti hT rfl rfl (by omega) (fun z => by cases z) ?_
          refine v_vret hT rfl rfl ⟨rfl, rfl⟩
        · exact absurd ((cj_ge (by omega) (by omega)).mpr (by omega)) cq
      · rw [hset_ne (by omega)]; exact hk k hk2
      · rw [hs_s, hF 87 (by omega)]
      · rw [hset_ne h1]; exact hF c h2
    | succ dd ih =>
      intro i hi F hF hk
      obtain ⟨f2, r1, r2⟩ := ih (i + 1) (by omega) (hset F 88 i (nI (crM B i (bNt B)))) (fun c hc => by rw [hset_ne hc]; exact hF c hc) (fun k hk2 => by
        rw [hs_s]
        by_cases hki : k = i
        · subst hki; simp [upd]
        · simp only [upd, if_neg hki]; exact hk k (by omega))
      refine ⟨f2, ?_, r2⟩
      refine g_cmp hT rfl (fun cq => ?_) (fun cq => ?_)
      · exact absurd ((cj_ge (by omega) (by omega)).mp cq) (by omega)
      · refine v_p hT rfl rfl ?_
        refine v_getr hT rfl rfl (by omega) rfl ?_
        refine v_p hT rfl rfl ?_
        refine v_ast hT rfl rfl (by omega) (by decide) (by omega) ?_
        refine v_p hT rfl rfl ?_
        refine v_geti hT rfl k0 (by omega) ?_
        rw [hset_ne (hb88 b (by omega) (by omega)), hF b (hb88 b (by omega) (by omega)), hR.2.2.2.2.1]
        refine v_cv (inner i (by omega) _ F hF ?_ (bNt B) 0 (by omega)) ⟨rfl, rfl, rfl, rfl, rfl, trivial⟩ rfl rfl
        refine v_p hT rfl rfl ?_
        refine v_geti hT rfl k0 (by omega) ?_
        rw [hset_ne (hb88 b (by omega) (by omega)), hF b (hb88 b (by omega) (by omega)), hR.2.2.2.2.1]
        refine v_cv r1 ⟨rfl, rfl, rfl, ?_, trivial⟩ ?_ rfl
        · rw [nI_add]
        · rw [nI_add]
  obtain ⟨f2, r1, r2⟩ := outer (bNt B) 0 (by omega) f (fun _ _ => rfl) (fun k hk => by omega)
  refine ⟨f2, ?_, r2⟩
  refine v_p hT rfl rfl ?_
  refine v_geti hT rfl k0 (by omega) ?_
  rw [hR.2.2.2.2.1]
  exact r1

/-- the weight of a set of ties; none of it crosses another; the kept set, of the sets up to m -/
def wtF (B : BK) (x : Nat) : Nat → Nat
  | 0 => 0
  | i + 1 => wtF B x i + (if x.testBit i = true then bTi B 2 i else 0)
def okS (B : BK) (x : Nat) : Prop := ∀ i j, i < bNt B → j < bNt B → x.testBit i = true → x.testBit j = true → crossB B i j = false
noncomputable def kpS (B : BK) : Nat → Nat
  | 0 => 0
  | m + 1 => bif pB (okS B (m + 1) ∧ (wtF B (kpS B m) (bNt B) < wtF B (m + 1) (bNt B) ∨ (wtF B (kpS B m) (bNt B) = wtF B (m + 1) (bNt B) ∧ cnN (kpS B m) 10 < cnN (m + 1) 10))) then m + 1 else kpS B m
noncomputable def keptF (B : BK) : Nat := kpS B (2 ^ bNt B - 1)
theorem kpS_le (B : BK) : ∀ m, kpS B m ≤ m := by
  intro m
  induction m with
  | zero => exact Nat.le_refl _
  | succ m ih =>
    unfold kpS
    cases pB _ with
    | true => exact Nat.le_refl _
    | false => show kpS B m ≤ m + 1; omega
theorem okS_0 (B : BK) : okS B 0 := by
  intro i j _ _ h1
  rw [Nat.zero_testBit] at h1
  cases h1
theorem kpS_ok (B : BK) : ∀ m, okS B (kpS B m) := by
  intro m
  induction m with
  | zero => exact okS_0 B
  | succ m ih =>
    unfold kpS
    cases hc : pB _ with
    | true => exact (pB_of hc).1
    | false => exact ih
theorem wtF_le {B : BK} (hw : ∀ i, i < bNt B → bTi B 2 i ≤ 9) (x : Nat) : ∀ i, i ≤ bNt B → wtF B x i ≤ 9 * i := by
  intro i
  induction i with
  | zero => intro _; exact Nat.le_refl _
  | succ i ih =>
    intro hi
    have h1 := ih (by omega)
    have h2 := hw i (by omega)
    unfold wtF
    split <;> omega
theorem tb_nI {x i : Nat} (hx : x < 2 ^ 31) (hi : i < 32) : cnd 1 ((nI x >>> (nI i &&& 31)) &&& nI 1) (nI 1) ↔ ¬ x.testBit i = true := by
  rw [bit_at hx hi, tb_dm, decide_eq_true_eq]
  exact cj_ne (by have := Nat.mod_lt (x / 2 ^ i) (show 0 < 2 by omega); omega) (by omega)
theorem s_weightOf {b n x : Nat} {kf : Nat → Nat} {f : Nat → Nat → Int32} {B : BK} (hb : isBk b) (hR : bkR f b B) (h10 : bNt B ≤ 10) (hw : ∀ i, i < bNt B → bTi B 2 i ≤ 9) (hcr : ∀ i, i < bNt B → f 88 i = nI (crM B i (bNt B))) (hx : x < 1024) :
    Run n_X1_weightOf 110 0 (ini n_X1_weightOf [.ref 87, .int (nI x), .ref b]) [] (HH n kf f) (Ret (some (.int (bif pB (okS B x) then nI (wtF B x (bNt B)) else mI 1))) (HH n kf f)) := by
  have hT : mT n_X1_weightOf = tb_X1_weightOf := rfl
  obtain ⟨k0, k1, k2, k3, k4, k5, k6, k7, k8⟩ := bk_kd hb
  have hlt := bk_lt hb
  have loop : ∀ dd i : Nat, i + dd = bNt B → (∀ k j, k < i → j < bNt B → x.testBit k = true → x.testBit j = true → crossB B k j = false) → Run n_X1_weightOf 110 11 [some (.ref 87), some (.int (nI x)), some (.ref b), some (.int (nI (wtF B x i))), some (.int (nI i))] [.int (nI (bNt B)), .int (nI i)] (HH n kf f) (Ret (some (.int (bif pB (okS B x) then nI (wtF B x (bNt B)) else mI 1))) (HH n kf f)) := by
    intro dd
    induction dd with
    | zero =>
      intro i hi hno
      obtain rfl : i = bNt B := by omega
      refine g_cmp hT rfl (fun cq => ?_) (fun cq => ?_)
      · refine v_p hT rfl rfl ?_
        refine v_ret hT rfl (fun z => by cases z) rfl ⟨?_, rfl⟩
        rw [pB_t (show okS B x from fun k j hk hj => hno k j hk hj)]
        rfl
      · exact absurd ((cj_ge (by omega) (by omega)).mpr (by omega)) cq
    | succ dd ih =>
      intro i hi hno
      have hwl := wtF_le hw x i (by omega)
      refine g_cmp hT rfl (fun cq => ?_) (fun cq => ?_)
      · exact absurd ((cj_ge (by omega) (by omega)).mp cq) (by omega)
      · refine v_p hT rfl rfl ?_
        refine g_cmp hT rfl (fun cq2 => ?_) (fun cq2 => ?_)
        · have cq2 := (tb_nI (by omega) (by omega)).mp cq2
          refine v_p hT rfl rfl ?_
          refine v_geti hT rfl (by first | rfl | assumption) (by omega) ?_
          rw [hR.2.2.2.2.1]
          have e : wtF B x (i + 1) = wtF B x i := by show wtF B x i + _ = _; rw [if_neg cq2]; rfl
          have h9 := ih (i + 1) (by omega) (fun k j hk hj hb1 hb2 => by
            by_cases hki : k = i
            · subst hki; exact absurd hb1 cq2
            · exact hno k j (by omega) hj hb1 hb2)
          rw [e] at h9
          refine v_cv h9 ⟨rfl, rfl, rfl, rfl, ?_, trivial⟩ ?_ rfl
          · rw [nI_add]
          · rw [nI_add]
        · have cq2 : x.testBit i = true := Classical.byContradiction (fun z => cq2 ((tb_nI (by omega) (by omega)).mpr z))
          repeat (first | refine v_p hT rfl rfl ?_ | refine v_getr hT rfl rfl (by omega) rfl ?_ | refine v_geti hT rfl (by first | rfl | assumption) (by omega) ?_ | refine v_ald hT rfl (by first | assumption | rfl) (by omega) (by decide) (by omega) ?_ | simp only [nI_add, pk_mul, hcr i (by omega), nI_and])
          have hz : (crM B i (bNt B) &&& x) < 2 ^ 31 := Nat.lt_of_le_of_lt Nat.and_le_right (by omega)
          refine g_if hT rfl (fun cq3 => ?_) (fun cq3 => ?_)
          · have cq3 := (cj_eq (a := crM B i (bNt B) &&& x) (b := 0) hz (by omega)).mp cq3
            have hno2 : ∀ j, j < bNt B → x.testBit j = true → crossB B i j = false := by
              intro j hj hb2
              have h3 : (crM B i (bNt B) &&& x).testBit j = false := by rw [cq3]; exact Nat.zero_testBit j
              rw [Nat.testBit_and, crM_bit, hb2] at h3
              simpa [hj] using h3
            repeat (first | refine v_p hT rfl rfl ?_ | refine v_getr hT rfl rfl (by omega) rfl ?_ | refine v_getr hT rfl k0 (by omega) (bk_rr hb _ _ _ (by decide)) ?_ | refine v_geti hT rfl (by first | rfl | assumption) (by omega) ?_ | refine v_ald hT rfl (by first | assumption | rfl) (by omega) (by decide) (by omega) ?_ | simp only [nI_add, pk_mul, (hR.2.2.2.2.2 i (show i < bNt B by omega)).2.2, hR.2.2.2.2.1])
            have e : wtF B x (i + 1) = wtF B x i + bTi B 2 i := by show wtF B x i + _ = _; rw [if_pos cq2]
            have h9 := ih (i + 1) (by omega) (fun k j hk hj hb1 hb2 => by
              by_cases hki : k = i
              · subst hki; exact hno2 j hj hb2
              · exact hno k j (by omega) hj hb1 hb2)
            rw [e] at h9
            exact h9
          · have cq3 := (not_congr (cj_eq (a := crM B i (bNt B) &&& x) (b := 0) hz (by omega))).mp cq3
            refine v_p hT rfl rfl ?_
            refine v_ret hT rfl (fun z => by cases z) rfl ⟨?_, rfl⟩
            rw [pB_f]
            · rfl
            · intro hok
              apply cq3
              apply Nat.eq_of_testBit_eq
              intro j
              rw [Nat.zero_testBit, Nat.testBit_and, crM_bit]
              by_cases hj : j < bNt B
              · cases hb2 : x.testBit j with
                | false => simp
                | true => rw [hok i j (by omega) hj cq2 hb2]; simp
              · simp [hj]
  refine v_p hT rfl rfl ?_
  refine v_geti hT rfl (by first | rfl | assumption) (by omega) ?_
  rw [hR.2.2.2.2.1]
  exact loop (bNt B) 0 (by omega) (fun k j hk => by omega)
theorem s_choice {b n : Nat} {kf : Nat → Nat} {f : Nat → Nat → Int32} {B : BK} (hb : isBk b) (hR : bkR f b B) (hok : tsOk (bT B)) (hw : ∀ i, i < bNt B → bTi B 2 i ≤ 9) :
    ∃ f2, Run n_X1_follow 110 0 (ini n_X1_follow [.ref 87, .ref b]) [] (HH n kf f) (Ret none (HH n kf f2)) ∧ (∀ i, i < bNt B → f2 88 i = nI (crM B i (bNt B))) ∧ f2 87 1 = nI (endN B (bNt B) (bNt B) / 2) ∧ f2 87 2 = nI (keptF B) ∧ f2 87 3 = nI (wtF B (keptF B) (bNt B)) ∧ ∀ c, c ≠ 87 → c ≠ 88 → f2 c = f c := by
  have hT : mT n_X1_follow = tb_X1_follow := rfl
  obtain ⟨k0, k1, k2, k3, k4, k5, k6, k7, k8⟩ := bk_kd hb
  have hlt := bk_lt hb
  have hlo := bk_lo hb
  have h10 : bNt B ≤ 10 := hok.1
  obtain ⟨f1, r1, r2, r3, r4⟩ := s_findCrossed (n := n) (kf := kf) hb hR hok
  have hpw : 2 ^ bNt B ≤ 1024 := Nat.pow_le_pow_right (n := 2) (by omega) h10
  have hp1 : 1 ≤ 2 ^ bNt B := Nat.one_le_two_pow
  have loop : ∀ dd x : Nat, x + 1 + dd = 2 ^ bNt B → ∀ F : Nat → Nat → Int32, (∀ c, c ≠ 87 → F c = f1 c) → F 87 1 = f1 87 1 → F 87 2 = nI (kpS B x) → F 87 3 = nI (wtF B (kpS B x) (bNt B)) → ∃ f2, Run n_X1_follow 110 24 [some (.ref 87), some (.ref b), some (.int (nI (x + 1))), none, none] [.int (nI (2 ^ bNt B)), .int (nI (x + 1))] (HH n kf F) (Ret none (HH n kf f2)) ∧ (∀ c, c ≠ 87 → f2 c = f1 c) ∧ f2 87 1 = f1 87 1 ∧ f2 87 2 = nI (keptF B) ∧ f2 87 3 = nI (wtF B (keptF B) (bNt B)) := by
    intro dd
    induction dd with
    | zero =>
      intro x hx F hF h1 h2 h3
      refine ⟨F, ?_, hF, h1, ?_, ?_⟩
      · refine g_cmp hT rfl (fun cq => ?_) (fun cq => ?_)
        · refine v_vret hT rfl rfl ⟨rfl, rfl⟩
        · exact absurd ((cj_ge (by omega) (by omega)).mpr (by omega)) cq
      · rw [h2]; unfold keptF; rw [show 2 ^ bNt B - 1 = x by omega]
      · rw [h3]; unfold keptF; rw [show 2 ^ bNt B - 1 = x by omega]
    | succ dd ih =>
      intro x hx F hF h1 h2 h3
      have hRF : bkR F b B := bkR_fr hR (fun c hc1 hc2 => by rw [hF c (by omega), r4 c (by omega) (by omega)])
      have hnt : F b 8 = nI (bNt B) := hRF.2.2.2.2.1
      have hcr : ∀ i, i < bNt B → F 88 i = nI (crM B i (bNt B)) := fun i hi => by rw [hF 88 (by omega)]; exact r2 i hi
      have hkx := kpS_le B x
      have hwk := wtF_le hw (kpS B x) (bNt B) (Nat.le_refl _)
      have hwx := wtF_le hw (x + 1) (bNt B) (Nat.le_refl _)
      have hc1 := cnN_le (x + 1) 10
      have hc2 := cnN_le (kpS B x) 10
      generalize hV : (bif pB (okS B (x + 1)) then nI (wtF B (x + 1) (bNt B)) else mI 1) = tv
      generalize hM : (if cnN (kpS B x) 10 < cnN (x + 1) 10 then nI 1 else nI 0) = mv
      have hstart : ∀ Φ, Run n_X1_follow 110 60 [some (.ref 87), some (.ref b), some (.int (nI (x + 1))), some (.int tv), some (.int mv)] [.int (nI (wtF B (kpS B x) (bNt B))), .int tv] (HH n kf F) Φ → Run n_X1_follow 110 24 [some (.ref 87), some (.ref b), some (.int (nI (x + 1))), none, none] [.int (nI (2 ^ bNt B)), .int (nI (x + 1))] (HH n kf F) Φ := by
        intro Φ hΦ
        refine g_cmp hT rfl (fun cq => ?_) (fun cq => ?_)
        · exact absurd ((cj_ge (by omega) (by omega)).mp cq) (by omega)
        · refine v_p hT rfl rfl ?_
          refine v_call hT [.int (nI (x + 1)), .ref b] rfl rfl (by first | rfl | assumption) (by omega) rfl rfl (Nat.le_of_ble_eq_true rfl) (Nat.le_of_ble_eq_true rfl) (s_weightOf (x := x + 1) hb hRF h10 hw hcr (by omega)) ?_
          rw [hV]
          refine v_p hT rfl rfl ?_
          refine v_scall hT [.int (nI (x + 1))] rfl rfl rfl rfl (Nat.le_of_ble_eq_true rfl) (Nat.le_of_ble_eq_true rfl) (s_bitCount (nI (x + 1))) ?_
          rw [bcI_cn _ (by omega)]
          refine v_p hT rfl rfl ?_
          refine v_geti hT rfl (by first | rfl | assumption) (by omega) ?_
          rw [h2]
          refine v_scall hT [.int (nI (kpS B x))] rfl rfl rfl rfl (Nat.le_of_ble_eq_true rfl) (Nat.le_of_ble_eq_true rfl) (s_bitCount (nI (kpS B x))) ?_
          rw [bcI_cn _ (by omega)]
          refine g_cmp hT rfl (fun cq2 => ?_) (fun cq2 => ?_)
          · have cq2 := (cj_le (by omega) (by omega)).mp cq2
            rw [if_neg (by omega)] at hM
            subst hM
            refine v_p hT rfl rfl ?_
            refine v_geti hT rfl (by first | rfl | assumption) (by omega) ?_
            rw [h3]
            exact hΦ
          · have cq2 := (not_congr (cj_le (by omega) (by omega))).mp cq2
            rw [if_pos (by omega)] at hM
            subst hM
            refine v_p hT rfl rfl ?_
            refine v_geti hT rfl (by first | rfl | assumption) (by omega) ?_
            rw [h3]
            exact hΦ
      have stay : kpS B (x + 1) = kpS B x → ∃ f2, Run n_X1_follow 110 86 [some (.ref 87), some (.ref b), some (.int (nI (x + 1))), some (.int tv), some (.int mv)] [] (HH n kf F) (Ret none (HH n kf f2)) ∧ (∀ c, c ≠ 87 → f2 c = f1 c) ∧ f2 87 1 = f1 87 1 ∧ f2 87 2 = nI (keptF B) ∧ f2 87 3 = nI (wtF B (keptF B) (bNt B)) := by
        intro e
        obtain ⟨f2, q1, q2⟩ := ih (x + 1) (by omega) F hF h1 (by rw [e]; exact h2) (by rw [e]; exact h3)
        refine ⟨f2, ?_, q2⟩
        refine v_p hT rfl rfl ?_
        refine v_geti hT rfl (by first | rfl | assumption) (by omega) ?_
        rw [hnt]
        refine v_p hT rfl rfl ?_
        rw [pow_at (by omega)]
        refine v_cv q1 ⟨rfl, rfl, ?_, trivial⟩ ?_ rfl
        · rw [nI_add]
        · rw [nI_add]
      have take : okS B (x + 1) → kpS B (x + 1) = x + 1 → ∃ f2, Run n_X1_follow 110 76 [some (.ref 87), some (.ref b), some (.int (nI (x + 1))), some (.int tv), some (.int mv)] [] (HH n kf F) (Ret none (HH n kf f2)) ∧ (∀ c, c ≠ 87 → f2 c = f1 c) ∧ f2 87 1 = f1 87 1 ∧ f2 87 2 = nI (keptF B) ∧ f2 87 3 = nI (wtF B (keptF B) (bNt B)) := by
        intro hk e
        rw [pB_t hk] at hV
        have hV : nI (wtF B (x + 1) (bNt B)) = tv := hV
        obtain ⟨f2, q1, q2⟩ := ih (x + 1) (by omega) (hset (hset F 87 2 (nI (x + 1))) 87 3 tv) (fun c hc => by rw [hset_ne hc, hset_ne hc]; exact hF c hc) (by simp [hset, upd]; exact h1) (by rw [e]; simp [hset, upd]) (by rw [e, ← hV]; simp [hset, upd])
        refine ⟨f2, ?_, q2⟩
        refine v_p hT rfl rfl ?_
        refine v_puti hT rfl rfl (by omega) (fun z => by cases z) ?_
        refine v_p hT rfl rfl ?_
        refine v_puti hT rfl rfl (by omega) (fun z => by cases z) ?_
        refine v_p hT rfl rfl ?_
        refine v_geti hT rfl (by first | rfl | assumption) (by omega) ?_
        rw [hset_ne (by omega), hset_ne (by omega), hnt]
        refine v_p hT rfl rfl ?_
        rw [pow_at (by omega)]
        refine v_cv q1 ⟨rfl, rfl, ?_, trivial⟩ ?_ rfl
        · rw [nI_add]
        · rw [nI_add]
      cases hS : pB (okS B (x + 1)) with
      | false =>
        have e : kpS B (x + 1) = kpS B x := by
          show (bif _ then _ else _) = _
          rw [pB_f (fun z => pB_nof hS z.1)]
          rfl
        obtain ⟨f2, q1, q2⟩ := stay e
        refine ⟨f2, hstart _ ?_, q2⟩
        rw [hS] at hV
        have hV : mI 1 = tv := hV
        subst hV
        refine g_cmp hT rfl (fun cq => ?_) (fun cq => ?_)
        · exact absurd (show nI (wtF B (kpS B x) (bNt B)) < mI 1 from cq) (by
            intro hq
            exact nI_pos (show wtF B (kpS B x) (bNt B) < 2 ^ 31 by omega) (Int32.lt_trans hq (by decide)))
        · refine v_p hT rfl rfl ?_
          refine v_geti hT rfl (by first | rfl | assumption) (by omega) ?_
          rw [h3]
          refine g_cmp hT rfl (fun cq2 => ?_) (fun cq2 => ?_)
          · exact q1
          · exact absurd (Classical.byContradiction cq2 : mI 1 = nI (wtF B (kpS B x) (bNt B))) (by
              intro hq
              have : mI 1 < 0 := by decide
              rw [hq] at this
              exact nI_pos (by omega) this)
      | true =>
        have hk := pB_of hS
        rw [hS] at hV
        have hV : nI (wtF B (x + 1) (bNt B)) = tv := hV
        by_cases hgt : wtF B (kpS B x) (bNt B) < wtF B (x + 1) (bNt B)
        · have e : kpS B (x + 1) = x + 1 := by
            show (bif _ then _ else _) = _
            rw [pB_t ⟨hk, Or.inl hgt⟩]
            rfl
          obtain ⟨f2, q1, q2⟩ := take hk e
          refine ⟨f2, hstart _ ?_, q2⟩
          subst hV
          refine g_cmp hT rfl (fun cq => ?_) (fun cq => ?_)
          · exact q1
          · exact absurd ((cj_gt (by omega) (by omega)).mpr hgt) cq
        · by_cases heq : wtF B (kpS B x) (bNt B) = wtF B (x + 1) (bNt B)
          · by_cases hcn : cnN (kpS B x) 10 < cnN (x + 1) 10
            · have e : kpS B (x + 1) = x + 1 := by
                show (bif _ then _ else _) = _
                rw [pB_t ⟨hk, Or.inr ⟨heq, hcn⟩⟩]
                rfl
              obtain ⟨f2, q1, q2⟩ := take hk e
              refine ⟨f2, hstart _ ?_, q2⟩
              rw [if_pos hcn] at hM
              subst hV
              subst hM
              refine g_cmp hT rfl (fun cq => ?_) (fun cq => ?_)
              · exact absurd ((cj_gt (by omega) (by omega)).mp cq) hgt
              · refine v_p hT rfl rfl ?_
                refine v_geti hT rfl (by first | rfl | assumption) (by omega) ?_
                rw [h3]
                refine g_cmp hT rfl (fun cq2 => ?_) (fun cq2 => ?_)
                · exact absurd heq.symm ((cj_ne (by omega) (by omega)).mp cq2)
                · refine v_p hT rfl rfl ?_
                  refine g_if hT rfl (fun cq3 => ?_) (fun cq3 => ?_)
                  · exact absurd (show (1 : Int32) = 0 from cq3) (by decide)
                  · exact q1
            · have e : kpS B (x + 1) = kpS B x := by
                show (bif _ then _ else _) = _
                rw [pB_f (fun z => z.2.elim hgt (fun z2 => hcn z2.2))]
                rfl
              obtain ⟨f2, q1, q2⟩ := stay e
              refine ⟨f2, hstart _ ?_, q2⟩
              rw [if_neg hcn] at hM
              subst hV
              subst hM
              refine g_cmp hT rfl (fun cq => ?_) (fun cq => ?_)
              · exact absurd ((cj_gt (by omega) (by omega)).mp cq) hgt
              · refine v_p hT rfl rfl ?_
                refine v_geti hT rfl (by first | rfl | assumption) (by omega) ?_
                rw [h3]
                refine g_cmp hT rfl (fun cq2 => ?_) (fun cq2 => ?_)
                · exact absurd heq.symm ((cj_ne (by omega) (by omega)).mp cq2)
                · refine v_p hT rfl rfl ?_
                  refine g_if hT rfl (fun cq3 => ?_) (fun cq3 => ?_)
                  · exact q1
                  · exact absurd rfl (show ¬ (0 : Int32) = 0 from cq3)
          · have e : kpS B (x + 1) = kpS B x := by
              show (bif _ then _ else _) = _
              rw [pB_f (fun z => z.2.elim hgt (fun z2 => heq z2.1))]
              rfl
            obtain ⟨f2, q1, q2⟩ := stay e
            refine ⟨f2, hstart _ ?_, q2⟩
            subst hV
            refine g_cmp hT rfl (fun cq => ?_) (fun cq => ?_)
            · exact absurd ((cj_gt (by omega) (by omega)).mp cq) hgt
            · refine v_p hT rfl rfl ?_
              refine v_geti hT rfl (by first | rfl | assumption) (by omega) ?_
              rw [h3]
              refine g_cmp hT rfl (fun cq2 => ?_) (fun cq2 => ?_)
              · exact q1
              · exact absurd (fun z => heq z.symm) (fun z => cq2 ((cj_ne (by omega) (by omega)).mpr z))
  obtain ⟨f2, q1, q2, q3, q4, q5⟩ := loop (2 ^ bNt B - 1) 0 (by omega) (hset (hset f1 87 2 (nI 0)) 87 3 (nI 0)) (fun c hc => by rw [hset_ne hc, hset_ne hc]) (by simp [hset, upd]) (by simp [hset, upd, kpS]) (by
    have h0 : ∀ k, wtF B 0 k = 0 := by
      intro k
      induction k with
      | zero => rfl
      | succ k ih => unfold wtF; rw [ih, Nat.zero_testBit]; rfl
    simp [hset, upd, kpS, h0])
  have hRF : bkR f1 b B := bkR_fr hR (fun c hc1 hc2 => r4 c (by omega) (by omega))
  refine ⟨f2, ?_, fun i hi => by rw [q2 88 (by omega)]; exact r2 i hi, by rw [q3, r3]; simp [upd], q4, q5, fun c h1 h2 => by rw [q2 c h1]; exact r4 c h1 h2⟩
  refine v_p hT rfl rfl ?_
  refine v_call hT [.ref b] rfl rfl (by first | rfl | assumption) (by omega) rfl rfl (Nat.le_of_ble_eq_true rfl) (Nat.le_of_ble_eq_true rfl) (r1) ?_
  refine v_p hT rfl rfl ?_
  refine v_puti hT rfl rfl (by omega) (fun z => by cases z) ?_
  refine v_p hT rfl rfl ?_
  refine v_puti hT rfl rfl (by omega) (fun z => by cases z) ?_
  refine v_p hT rfl rfl ?_
  refine v_geti hT rfl (by first | rfl | assumption) (by omega) ?_
  rw [hset_ne (by omega), hset_ne (by omega), hRF.2.2.2.2.1]
  refine v_p hT rfl rfl ?_
  rw [pow_at (by omega)]
  exact q1
