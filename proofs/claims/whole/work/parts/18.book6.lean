/-! THE CLASS: a new paragraph of a book; crossing ties. -/
def bParAdd (B : BK) (s n : Nat) (l : Nat → Nat) : BK := ((fun z => if z = s then bNp B s + 1 else bNp B z), (fun z j => if z = s ∧ j = bNp B s then n else bNw B z j), (fun z j k => if z = s ∧ j = bNp B s then l k else bLn B z j k), bWd B, bSe B, bNt B, bTi B)
theorem linF_add_old {B : BK} {s n z p : Nat} {l : Nat → Nat} (h : ¬ (z = s ∧ p = bNp B s)) : linF (bParAdd B s n l) z p = linF B z p := by
  unfold linF
  simp only [bParAdd, bWd, bLn, bNw, if_neg h]
theorem fstF_add_old {B : BK} {s n z : Nat} {l : Nat → Nat} : ∀ p, (z = s → p ≤ bNp B s) → fstF (bParAdd B s n l) z p = fstF B z p := by
  intro p
  induction p with
  | zero => intro _; rfl
  | succ p ih =>
    intro h
    show fstF (bParAdd B s n l) z p + linF (bParAdd B s n l) z p = fstF B z p + linF B z p
    rw [ih (fun hz => by have := h hz; omega), linF_add_old (fun hq => by have := h hq.1; omega)]
theorem totF_add {B : BK} {s n : Nat} {l : Nat → Nat} : totF (bParAdd B s n l) s = totF B s + linF (bParAdd B s n l) s (bNp B s) := by
  have h1 : totF (bParAdd B s n l) s = fstF (bParAdd B s n l) s (bNp B s + 1) := by
    unfold totF
    rw [show bNp (bParAdd B s n l) s = bNp B s + 1 by simp [bParAdd, bNp]]
  rw [h1]
  show fstF (bParAdd B s n l) s (bNp B s) + _ = _
  rw [fstF_add_old _ (fun _ => Nat.le_refl _)]
  rfl
theorem VB0_add {B : BK} (hV : VB0 B) {s n : Nat} {l : Nat → Nat} (hs : bNp B s < 8) (h1 : 1 ≤ n) (h12 : n ≤ 12) (hl : ∀ k, k < n → 1 ≤ l k ∧ l k ≤ 9) : VB0 (bParAdd B s n l) := by
  obtain ⟨a1, a2, a3, a4, a5, a6⟩ := hV
  have np : ∀ z, bNp B z ≤ (if z = s then bNp B s + 1 else bNp B z) := by
    intro z
    split
    · rename_i hz; subst hz; omega
    · exact Nat.le_refl _
  refine ⟨fun z hz => ?_, fun z p hz hp => ?_, a3, a4, a5, fun i hi => ?_⟩
  · show (if z = s then bNp B s + 1 else bNp B z) ≤ 8
    split
    · omega
    · exact a1 z hz
  · have hp : p < (if z = s then bNp B s + 1 else bNp B z) := hp
    show 1 ≤ (if z = s ∧ p = bNp B s then n else bNw B z p) ∧ (if z = s ∧ p = bNp B s then n else bNw B z p) ≤ 12 ∧ ∀ k, k < (if z = s ∧ p = bNp B s then n else bNw B z p) → 1 ≤ (if z = s ∧ p = bNp B s then l k else bLn B z p k) ∧ (if z = s ∧ p = bNp B s then l k else bLn B z p k) ≤ 9
    by_cases hq : z = s ∧ p = bNp B s
    · simp only [if_pos hq]
      exact ⟨h1, h12, hl⟩
    · simp only [if_neg hq]
      refine a2 z p hz ?_
      by_cases hzs : z = s
      · subst hzs
        rw [if_pos rfl] at hp
        have : p ≠ bNp B z := fun e => hq ⟨rfl, e⟩
        omega
      · rw [if_neg hzs] at hp
        exact hp
  · obtain ⟨b1, b2, b3⟩ := a6 i hi
    exact ⟨Nat.lt_of_lt_of_le b1 (np 0), Nat.lt_of_lt_of_le b2 (np 1), b3⟩
/-- the words laid, not yet counted -/
theorem bkR_lay {f g : Nat → Nat → Int32} {b s n at_ : Nat} {B : BK} {r : Nat → Int32} (hV : VB0 B) (hs : s < 2) (h8 : bNp B s < 8) (h12 : n ≤ 12) (hR : bkR f b B) (hg : g = hputs (hset f (b + 2) (s * 8 + bNp B s) (nI n)) (b + 3) (va_cpy r (f (b + 3)) at_ ((s * 8 + bNp B s) * 12) n)) : bkR g b B := by
  subst hg
  obtain ⟨h1, h2, h3, h4, h5, h6⟩ := hR
  have v8 := hV.1
  have v2 := hV.2.1
  refine ⟨fun z hz => ?_, fun z q hz hq => ?_, fun z hz => ?_, fun i hi3 => ?_, ?_, fun j hj => ?_⟩
  · rw [hputs_ne (by omega), hset_ne (by omega)]; exact h1 z hz
  · have h7 := h2 z q hz hq
    have hz8 := v8 z hz
    have hne : z * 8 + q ≠ s * 8 + bNp B s := by
      intro e
      have : z = s := by omega
      subst this
      omega
    refine ⟨?_, fun k hk => ?_⟩
    · rw [hputs_ne (by omega), hs_s]
      simp only [upd, if_neg hne]
      exact h7.1
    · have h9 := (v2 z q hz hq).2.1
      simp only [hputs, if_pos]
      rw [pk_cpy_out (by omega)]
      exact h7.2 k hk
  · rw [hputs_ne (by omega), hset_ne (by omega)]; exact h3 z hz
  · rw [hputs_ne (by omega), hset_ne (by omega)]; exact h4 i hi3
  · rw [hputs_ne (by omega), hset_ne (by omega)]; exact h5
  · rw [hputs_ne (show b + 6 ≠ b + 3 by omega), hset_ne (show b + 6 ≠ b + 2 by omega), hputs_ne (show b + 7 ≠ b + 3 by omega), hset_ne (show b + 7 ≠ b + 2 by omega), hputs_ne (show b + 8 ≠ b + 3 by omega), hset_ne (show b + 8 ≠ b + 2 by omega)]
    exact h6 j hj
theorem bkR_add {f g : Nat → Nat → Int32} {b s n at_ : Nat} {B : BK} {r : Nat → Int32} {l : Nat → Nat} (hV : VB0 B) (hs : s < 2) (h8 : bNp B s < 8) (h12 : n ≤ 12) (hR : bkR f b B) (hr : ∀ k, k < n → r (at_ + k) = nI (l k)) (hg : g = hset (hputs (hset f (b + 2) (s * 8 + bNp B s) (nI n)) (b + 3) (va_cpy r (f (b + 3)) at_ ((s * 8 + bNp B s) * 12) n)) (b + 1) s (nI (bNp B s + 1))) : bkR g b (bParAdd B s n l) := by
  have hL := bkR_lay (at_ := at_) (r := r) hV hs h8 h12 hR rfl
  subst hg
  obtain ⟨h1, h2, h3, h4, h5, h6⟩ := hL
  refine ⟨fun z hz => ?_, fun z q hz hq => ?_, fun z hz => ?_, fun i hi3 => ?_, ?_, fun j hj => ?_⟩
  · by_cases hzs : z = s
    · subst hzs; simp [hset, upd, bParAdd, bNp]
    · rw [hs_s]
      simp only [upd, if_neg hzs]
      rw [h1 z hz]
      simp [bParAdd, bNp, hzs]
  · rw [hset_ne (show b + 2 ≠ b + 1 by omega), hset_ne (show b + 3 ≠ b + 1 by omega)]
    by_cases hq2 : z = s ∧ q = bNp B s
    · obtain ⟨rfl, rfl⟩ := hq2
      refine ⟨?_, fun k hk => ?_⟩
      · rw [hputs_ne (by omega), hs_s]
        simp [upd, bParAdd, bNw]
      · have hk : k < n := by simpa [bParAdd, bNw] using hk
        simp only [hputs, if_pos]
        rw [pk_cpy_in (by omega) (by omega), show at_ + ((z * 8 + bNp B z) * 12 + k - (z * 8 + bNp B z) * 12) = at_ + k by omega, hr k hk]
        simp [bParAdd, bLn]
    · have hq : q < bNp B z := by
        have hq : q < (if z = s then bNp B s + 1 else bNp B z) := hq
        by_cases hzs : z = s
        · subst hzs
          rw [if_pos rfl] at hq
          have : q ≠ bNp B z := fun e => hq2 ⟨rfl, e⟩
          omega
        · rw [if_neg hzs] at hq; exact hq
      have h7 := h2 z q hz hq
      refine ⟨?_, fun k hk => ?_⟩
      · rw [h7.1]; simp only [bParAdd, bNw, if_neg hq2]
      · rw [h7.2 k (by simpa only [bParAdd, bNw, if_neg hq2] using hk)]; simp only [bParAdd, bLn, if_neg hq2]
  · rw [hset_ne (by omega)]; exact h3 z hz
  · rw [hset_ne (by omega)]; exact h4 i hi3
  · rw [hset_ne (by omega)]; exact h5
  · rw [hset_ne (show b + 6 ≠ b + 1 by omega), hset_ne (show b + 7 ≠ b + 1 by omega), hset_ne (show b + 8 ≠ b + 1 by omega)]
    exact h6 j hj
/-- a new paragraph of side s, n words ws (1 to 12 of them): the answer and the book -/
noncomputable def aPar (B : BK) (s n : Nat) (ws : Nat → Int32) : Int32 × BK :=
  bif pB (∀ k, k < n → nI 1 ≤ ws k ∧ ws k ≤ nI 9) then
    (bif decide (8 ≤ bNp B s) || decide (60 < totF (bParAdd B s n (fun k => (ws k).toNatClampNeg)) s) then (mI 4, B) else (nI (bNp B s), bParAdd B s n (fun k => (ws k).toNatClampNeg))) else (mI 2, B)
theorem s_addParagraph {b m r at_ s n N : Nat} {kf : Nat → Nat} {f : Nat → Nat → Int32} {B : BK} (hb : isBk b) (hR : bkR f b B) (hV : VB0 B) (hs : s < 2) (h1 : 1 ≤ n) (h12 : n ≤ 12) (hk : kd r = (1, N)) (hr : r < 110) (hN : N < 100000) (hat : at_ + n ≤ N) (hrb : r < b ∨ b + 8 < r) :
    ∃ f2, Run n_X0_addParagraph 110 0 (ini n_X0_addParagraph [.ref b, .int (nI s), .ref r, .int (nI at_), .int (nI n)]) [] (HH m kf f) (Ret (some (.int (aPar B s n (fun k => f r (at_ + k))).1)) (HH m kf f2)) ∧ bkR f2 b (aPar B s n (fun k => f r (at_ + k))).2 ∧ ∀ c, c < b ∨ b + 8 < c → f2 c = f c := by
  have hT : mT n_X0_addParagraph = tb_X0_addParagraph := rfl
  obtain ⟨k0, k1, k2, k3, k4, k5, k6, k7, k8⟩ := bk_kd hb
  have hlt := bk_lt hb
  by_cases hA : ∀ k, k < n → nI 1 ≤ f r (at_ + k) ∧ f r (at_ + k) ≤ nI 9
  · have hto : aPar B s n (fun k => f r (at_ + k)) = bif decide (8 ≤ bNp B s) || decide (60 < totF (bParAdd B s n (fun k => (f r (at_ + k)).toNatClampNeg)) s) then (mI 4, B) else (nI (bNp B s), bParAdd B s n (fun k => (f r (at_ + k)).toNatClampNeg)) := by
      unfold aPar
      rw [pB_t hA]
      rfl
    have hln : ∀ k, k < n → f r (at_ + k) = nI ((f r (at_ + k)).toNatClampNeg) ∧ 1 ≤ (f r (at_ + k)).toNatClampNeg ∧ (f r (at_ + k)).toNatClampNeg ≤ 9 := by
      intro k hk
      obtain ⟨v, hv1, hv9, e⟩ := in_range _ (by omega) (hA k hk) (by omega)
      rw [e, nI_clamp (by omega)]
      exact ⟨rfl, hv1, hv9⟩
    generalize hl : (fun k => (f r (at_ + k)).toNatClampNeg) = l at hto
    have hln : ∀ k, k < n → f r (at_ + k) = nI (l k) ∧ 1 ≤ l k ∧ l k ≤ 9 := by
      intro k hk
      rw [← hl]
      exact hln k hk
    rw [hto]
    have h8 := hV.1 s hs
    have loop : ∀ Φ, Run n_X0_addParagraph 110 34 [some (.ref b), some (.int (nI s)), some (.ref r), some (.int (nI at_)), some (.int (nI n)), none, none] [] (HH m kf f) Φ → ∀ dd i : Nat, i + dd = n → Run n_X0_addParagraph 110 7 [some (.ref b), some (.int (nI s)), some (.ref r), some (.int (nI at_)), some (.int (nI n)), some (.int (nI i)), none] [.int (nI n), .int (nI i)] (HH m kf f) Φ := by
      intro Φ hΦ dd
      induction dd with
      | zero =>
        intro i hi
        refine g_cmp hT rfl (fun cq => ?_) (fun cq => ?_)
        · exact v_cv hΦ ⟨rfl, rfl, rfl, rfl, rfl, trivial⟩ rfl rfl
        · exact absurd ((cj_ge (by omega) (by omega)).mpr (by omega)) cq
      | succ dd ih =>
        intro i hi
        refine g_cmp hT rfl (fun cq => ?_) (fun cq => ?_)
        · exact absurd ((cj_ge (by omega) (by omega)).mp cq) (by omega)
        · refine v_p hT rfl rfl ?_
          simp only [nI_add]
          refine v_ald hT rfl hk hr (by omega) (by omega) ?_
          refine v_p hT rfl rfl ?_
          refine v_scall hT [.int (f r (at_ + i)), .int (nI 1), .int (nI 9)] rfl rfl rfl rfl (Nat.le_of_ble_eq_true rfl) (Nat.le_of_ble_eq_true rfl) (s_within (f r (at_ + i)) (nI 1) (nI 9)) ?_
          rw [decide_eq_true (hA i (by omega))]
          refine g_if hT rfl (fun cq2 => ?_) (fun cq2 => ?_)
          · refine v_p hT rfl rfl ?_
            simp only [nI_add]
            exact ih (i + 1) (by omega)
          · exact absurd (show ¬ (1 : Int32) = 0 by decide) cq2
    have hstart : ∀ Φ, Run n_X0_addParagraph 110 46 [some (.ref b), some (.int (nI s)), some (.ref r), some (.int (nI at_)), some (.int (nI n)), some (.int (nI (bNp B s))), none] [.int (nI 8), .int (nI (bNp B s))] (HH m kf f) Φ → Run n_X0_addParagraph 110 0 (ini n_X0_addParagraph [.ref b, .int (nI s), .ref r, .int (nI at_), .int (nI n)]) [] (HH m kf f) Φ := by
      intro Φ hΦ
      refine v_p hT rfl rfl ?_
      refine loop Φ ?_ n 0 (by omega)
      repeat (first | refine v_p hT rfl rfl ?_ | refine v_getr hT rfl rfl (by omega) rfl ?_ | refine v_getr hT rfl k0 (by omega) (bk_rr hb _ _ _ (by decide)) ?_ | refine v_geti hT rfl (by first | rfl | assumption) (by omega) ?_ | refine v_ald hT rfl (by first | assumption | rfl) (by omega) (by decide) (by omega) ?_ | simp only [nI_add, pk_mul, hR.1 s hs])
      exact hΦ
    by_cases h8b : 8 ≤ bNp B s
    · rw [decide_eq_true h8b]
      refine ⟨f, hstart _ ?_, hR, fun _ _ => rfl⟩
      refine g_cmp hT rfl (fun cq => ?_) (fun cq => ?_)
      · exact absurd ((cj_lt (by omega) (by omega)).mp cq) (by omega)
      · refine v_p hT rfl rfl ?_
        refine v_ret hT rfl (fun z => by cases z) rfl ⟨rfl, rfl⟩
    · rw [decide_eq_false h8b]
      have hV2 := VB0_add (l := l) hV (show bNp B s < 8 by omega) h1 h12 (fun k hk => (hln k hk).2)
      have hlin : linF (bParAdd B s n l) s (bNp B s) = (lineF (bWd B s) l (n - 1)).1 + 1 := by
        unfold linF
        simp [bParAdd, bWd, bLn, bNw]
      have htot := totF_add (B := B) (s := s) (n := n) (l := l)
      have ht96 := totF_le hV hs
      have hl12 := lineF_le (bWd B s) l (n - 1)
      have hwd := hV.2.2.1 s hs
      have hR2 := bkR_lay (at_ := at_) (r := f r) hV hs (show bNp B s < 8 by omega) h12 hR rfl
      have hmid : ∀ Φ, Run n_X0_addParagraph 110 99 [some (.ref b), some (.int (nI s)), some (.ref r), some (.int (nI at_)), some (.int (nI n)), some (.int (nI (bNp B s))), some (.int (nI (s * 8 + bNp B s)))] [.int (nI 60), .int (nI (totF (bParAdd B s n l) s))] (HH m kf (hputs (hset f (b + 2) (s * 8 + bNp B s) (nI n)) (b + 3) (va_cpy (f r) (f (b + 3)) at_ ((s * 8 + bNp B s) * 12) n))) Φ → Run n_X0_addParagraph 110 0 (ini n_X0_addParagraph [.ref b, .int (nI s), .ref r, .int (nI at_), .int (nI n)]) [] (HH m kf f) Φ := by
        intro Φ hΦ
        refine hstart _ ?_
        refine g_cmp hT rfl (fun cq => ?_) (fun cq => ?_)
        · refine v_p hT rfl rfl ?_
          refine v_scall hT [.int (nI s), .int (nI (bNp B s))] rfl rfl rfl rfl (Nat.le_of_ble_eq_true rfl) (Nat.le_of_ble_eq_true rfl) (s_slot s (bNp B s)) ?_
          repeat (first | refine v_p hT rfl rfl ?_ | refine v_getr hT rfl rfl (by omega) rfl ?_ | refine v_getr hT rfl k0 (by omega) (bk_rr hb _ _ _ (by decide)) ?_ | refine v_geti hT rfl (by first | rfl | assumption) (by omega) ?_ | refine v_ald hT rfl (by first | assumption | rfl) (by omega) (by decide) (by omega) ?_ | simp only [nI_add, pk_mul])
          refine v_ast hT rfl k2 (by omega) (by decide) (by omega) ?_
          repeat (first | refine v_p hT rfl rfl ?_ | refine v_getr hT rfl rfl (by omega) rfl ?_ | refine v_getr hT rfl k0 (by omega) (bk_rr hb _ _ _ (by decide)) ?_ | refine v_geti hT rfl (by first | rfl | assumption) (by omega) ?_ | refine v_ald hT rfl (by first | assumption | rfl) (by omega) (by decide) (by omega) ?_ | simp only [nI_add, pk_mul])
          refine v_cpy hT rfl hk k3 hr (by omega) hat (by omega) (Nat.le_of_ble_eq_true rfl) ?_
          rw [hset_ne (show r ≠ b + 2 by omega), hset_ne (show b + 3 ≠ b + 2 by omega)]
          refine v_p hT rfl rfl ?_
          refine v_call hT [.int (nI s)] rfl rfl (by first | rfl | assumption) (by omega) rfl rfl (Nat.le_of_ble_eq_true rfl) (Nat.le_of_ble_eq_true rfl) (s_linesOfSide hb hR2 hV hs) ?_
          refine v_p hT rfl rfl ?_
          refine v_call hT [.int (nI (s * 8 + bNp B s))] rfl rfl (by first | rfl | assumption) (by omega) rfl rfl (Nat.le_of_ble_eq_true rfl) (Nat.le_of_ble_eq_true rfl) (s_linesIn (nw := n) (w := bWd B s) (ln := l) hb (by omega) (by rw [hputs_ne (by omega), hs_s]; simp [upd]) h1 h12 (by rw [sl_div (by omega), hputs_ne (by omega), hset_ne (by omega)]; exact hR.2.2.1 s hs) (by omega) (fun i hi => by simp only [hputs, if_pos]; rw [pk_cpy_in (by omega) (by omega), show at_ + ((s * 8 + bNp B s) * 12 + i - (s * 8 + bNp B s) * 12) = at_ + i by omega]; exact (hln i hi).1) (fun i hi => by have := (hln i hi).2; omega)) ?_
          refine v_p hT rfl rfl ?_
          rw [nI_add, ← hlin, ← htot]
          exact hΦ
        · exact absurd ((cj_lt (by omega) (by omega)).mpr (by omega)) cq
      by_cases h60 : 60 < totF (bParAdd B s n l) s
      · rw [decide_eq_true h60]
        refine ⟨_, hmid _ ?_, hR2, fun c hc => by rw [hputs_ne (by omega), hset_ne (by omega)]⟩
        refine g_cmp hT rfl (fun cq => ?_) (fun cq => ?_)
        · exact absurd ((cj_le (by omega) (by omega)).mp cq) (by omega)
        · refine v_p hT rfl rfl ?_
          refine v_ret hT rfl (fun z => by cases z) rfl ⟨rfl, rfl⟩
      · rw [decide_eq_false h60]
        refine ⟨_, hmid _ ?_, bkR_add hV hs (show bNp B s < 8 by omega) h12 hR (fun k hk => (hln k hk).1) rfl, fun c hc => by rw [hset_ne (by omega), hputs_ne (by omega), hset_ne (by omega)]⟩
        refine g_cmp hT rfl (fun cq => ?_) (fun cq => ?_)
        · repeat (first | refine v_p hT rfl rfl ?_ | refine v_getr hT rfl rfl (by omega) rfl ?_ | refine v_getr hT rfl k0 (by omega) (bk_rr hb _ _ _ (by decide)) ?_ | refine v_geti hT rfl (by first | rfl | assumption) (by omega) ?_ | refine v_ald hT rfl (by first | assumption | rfl) (by omega) (by decide) (by omega) ?_ | simp only [nI_add, pk_mul])
          rw [hR2.1 s hs]
          repeat (first | refine v_p hT rfl rfl ?_ | refine v_getr hT rfl rfl (by omega) rfl ?_ | refine v_getr hT rfl k0 (by omega) (bk_rr hb _ _ _ (by decide)) ?_ | refine v_geti hT rfl (by first | rfl | assumption) (by omega) ?_ | refine v_ald hT rfl (by first | assumption | rfl) (by omega) (by decide) (by omega) ?_ | simp only [nI_add, pk_mul])
          refine v_ast hT rfl k1 (by omega) (by decide) (by omega) ?_
          refine v_p hT rfl rfl ?_
          refine v_ret hT rfl (fun z => by cases z) rfl ⟨rfl, rfl⟩
        · exact absurd ((cj_le (by omega) (by omega)).mpr (by omega)) cq
  · have hto : aPar B s n (fun k => f r (at_ + k)) = (mI 2, B) := by unfold aPar; rw [pB_f hA]; rfl
    rw [hto]
    refine ⟨f, ?_, hR, fun _ _ => rfl⟩
    have loop : ∀ dd i : Nat, i + dd = n → (∀ k, k < i → nI 1 ≤ f r (at_ + k) ∧ f r (at_ + k) ≤ nI 9) → Run n_X0_addParagraph 110 7 [some (.ref b), some (.int (nI s)), some (.ref r), some (.int (nI at_)), some (.int (nI n)), some (.int (nI i)), none] [.int (nI n), .int (nI i)] (HH m kf f) (Ret (some (.int (mI 2))) (HH m kf f)) := by
      intro dd
      induction dd with
      | zero => intro i hi hno; exact absurd (fun k hk => hno k (by omega)) hA
      | succ dd ih =>
        intro i hi hno
        refine g_cmp hT rfl (fun cq => ?_) (fun cq => ?_)
        · exact absurd ((cj_ge (by omega) (by omega)).mp cq) (by omega)
        · refine v_p hT rfl rfl ?_
          simp only [nI_add]
          refine v_ald hT rfl hk hr (by omega) (by omega) ?_
          refine v_p hT rfl rfl ?_
          refine v_scall hT [.int (f r (at_ + i)), .int (nI 1), .int (nI 9)] rfl rfl rfl rfl (Nat.le_of_ble_eq_true rfl) (Nat.le_of_ble_eq_true rfl) (s_within (f r (at_ + i)) (nI 1) (nI 9)) ?_
          refine g_if hT rfl (fun cq2 => ?_) (fun cq2 => ?_)
          · have cq2 := of_decide_eq_true (bt_of cq2)
            refine v_p hT rfl rfl ?_
            simp only [nI_add]
            exact ih (i + 1) (by omega) (fun k hk => by
              by_cases hki : k = i
              · subst hki; exact cq2
              · exact hno k (by omega))
          · refine v_p hT rfl rfl ?_
            refine v_ret hT rfl (fun z => by cases z) rfl ⟨rfl, rfl⟩
    refine v_p hT rfl rfl ?_
    exact loop n 0 (by omega) (fun k hk => by omega)
